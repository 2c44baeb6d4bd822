section
/-! What the parts of a node are worth. -/
section PTV
variable {w pl nv S A V F B : Nat → Int} {cv : Nat → vrs}
noncomputable abbrev vlr (w : Nat → Int) (cv : Nat → vrs) (pl : Nat → Int) (r : Nat × Nat) : vrs := vlq w cv pl 0 0 r.1 r.2
/-- the first of some rules that has a fault; (0, 0, 1): none -/
noncomputable def vft (w : Nat → Int) (cv : Nat → vrs) (pl : Nat → Int) : List (Nat × Nat) → vrs
  | [] => (0, 0, 1)
  | r :: rs => if (vlr w cv pl r).1 = 0 then vft w cv pl rs else vlr w cv pl r
/-- all of them, one after another, and then f -/
noncomputable def vsq (w : Nat → Int) (cv : Nat → vrs) (pl : Nat → Int) (rs : List (Nat × Nat)) (f : (Nat → vrs) → vrs) : vrs := if (vft w cv pl rs).1 = 0 then f (fun j => vlr w cv pl (rs.getD j (0, 0))) else vft w cv pl rs
theorem vft_app : ∀ (rs rs' : List (Nat × Nat)), vft w cv pl (rs ++ rs') = if (vft w cv pl rs).1 = 0 then vft w cv pl rs' else vft w cv pl rs
  | [], rs' => by show _ = if (0 : Int) = 0 then _ else _; rw [if_pos rfl]; rfl
  | r :: rs, rs' => by
    show (if (vlr w cv pl r).1 = 0 then vft w cv pl (rs ++ rs') else vlr w cv pl r) = if (if (vlr w cv pl r).1 = 0 then vft w cv pl rs else vlr w cv pl r).1 = 0 then vft w cv pl rs' else if (vlr w cv pl r).1 = 0 then vft w cv pl rs else vlr w cv pl r
    rw [vft_app rs rs']
    by_cases c : (vlr w cv pl r).1 = 0
    · rw [if_pos c, if_pos c]
    · rw [if_neg c, if_neg c, if_neg c]
theorem vr_eta {v : vrs} (h : v.1 = 0) : v = (0, v.2.1, v.2.2) := by rw [← h]
theorem vft_1 {r : Nat × Nat} : vft w cv pl [r] = if (vlr w cv pl r).1 = 0 then (0, 0, 1) else vlr w cv pl r := rfl
theorem bsq_0 {x : Int} {A B : Nat → Int} {k : Nat} : ∀ n, (bsq x A B k n).1 = 0
  | 0 => rfl
  | n + 1 => by
    rw [bsq]
    unfold vbs
    split <;> split <;> rfl
theorem tv_list {y : Int} : ∀ (f c i j : Nat), 2 * (j - i) + c ≤ f → Eoc w c i j → c = 1 → ∀ (x : Int) (n e : Nat), Td w pl nv S A V F B c x i j n e → ∃ rs : List (Nat × Nat), rs ≠ [] ∧ (∀ r, r ∈ rs → Eo w 6 r.1 r.2) ∧ Tbq w pl nv S A V F B x rs n e ∧ vlq w cv pl 1 y i j = vsq w cv pl rs (fun u => bsq y (fun j => (u j).2.1) (fun j => (u j).2.2) 0 (rs.length - 1)) := by
  refine Eo_ind (P := fun c i j => c = 1 → ∀ (x : Int) (n e : Nat), Td w pl nv S A V F B c x i j n e → ∃ rs : List (Nat × Nat), rs ≠ [] ∧ (∀ r, r ∈ rs → Eo w 6 r.1 r.2) ∧ Tbq w pl nv S A V F B x rs n e ∧ vlq w cv pl 1 y i j = vsq w cv pl rs (fun u => bsq y (fun j => (u j).2.1) (fun j => (u j).2.2) 0 (rs.length - 1))) ?_ ?_ ?_ ?_ ?_ ?_ ?_ ?_
  · intros; omega
  · intros; omega
  · intros; omega
  · intros; omega
  · intros; omega
  · intros; omega
  · intro i j h1 h2 he i1 _ x n e ht
    rw [Td_l1 h1 h2] at ht
    refine ⟨[(i, j)], by simp, fun r hr => by rw [List.mem_singleton.1 hr]; exact he, ht, ?_⟩
    rw [vl_l1 h1 h2]
    unfold vsq
    rw [vft_1]
    by_cases c : (vlr w cv pl (i, j)).1 = 0
    · rw [if_pos c, if_pos rfl]
      exact vr_eta c
    · rw [if_neg c, if_neg c]
  · intro i m j h1 h2 h3 h4 h5 o1 o2 i1 i2 _ x n e ht
    rw [Td_ln h1 h4 h2] at ht
    obtain ⟨k, t1, t2, b1⟩ := ht
    obtain ⟨rs, r1, r2, r3, r4⟩ := i1 rfl _ _ _ t1
    refine ⟨rs ++ [(m + 1, j)], by simp, fun r hr => ?_, r3.app rs t2 b1, ?_⟩
    · rcases List.mem_append.1 hr with q | q
      · exact r2 r q
      · rw [List.mem_singleton.1 q]; exact o2
    · rw [vl_ln h1 h4 h2, r4]
      have l1 : 1 ≤ rs.length := by
        cases rs with
        | nil => exact absurd rfl r1
        | cons r rs => simp
      have gl : ∀ t, t < rs.length → (rs ++ [(m + 1, j)]).getD t (0, 0) = rs.getD t (0, 0) := fun t h => by
        rw [List.getD_eq_getElem?_getD, List.getD_eq_getElem?_getD, List.getElem?_append_left h]
      have gr : (rs ++ [(m + 1, j)]).getD rs.length (0, 0) = (m + 1, j) := by
        rw [List.getD_eq_getElem?_getD, List.getElem?_append_right (Nat.le_refl _), Nat.sub_self]
        rfl
      unfold vsq
      rw [vft_app, vft_1]
      by_cases c : (vft w cv pl rs).1 = 0
      · rw [if_pos c, if_pos c]
        rw [vbd, if_pos (bsq_0 _)]
        show vbd (vlr w cv pl (m + 1, j)) _ = _
        by_cases c2 : (vlr w cv pl (m + 1, j)).1 = 0
        · rw [if_pos c2, if_pos rfl, vbd, if_pos c2]
          have e1 : (rs ++ [(m + 1, j)]).length - 1 = (rs.length - 1) + 1 := by simp; omega
          show vbs y _ _ _ _ = bsq y _ _ 0 ((rs ++ [(m + 1, j)]).length - 1)
          rw [e1, bsq]
          have e2 : 0 + (rs.length - 1) + 1 = rs.length := by omega
          rw [e2]
          simp only [gr]
          have e3 : bsq y (fun j' => (vlr w cv pl ((rs ++ [(m + 1, j)]).getD j' (0, 0))).2.1) (fun j' => (vlr w cv pl ((rs ++ [(m + 1, j)]).getD j' (0, 0))).2.2) 0 (rs.length - 1) = bsq y (fun j' => (vlr w cv pl (rs.getD j' (0, 0))).2.1) (fun j' => (vlr w cv pl (rs.getD j' (0, 0))).2.2) 0 (rs.length - 1) := bsq_cg _ (fun j' hj => by
            show (vlr w cv pl ((rs ++ [(m + 1, j)]).getD (0 + j') (0, 0))).2.1 = (vlr w cv pl (rs.getD (0 + j') (0, 0))).2.1 ∧ _
            rw [gl (0 + j') (by omega)]
            exact ⟨rfl, rfl⟩)
          rw [e3]
        · rw [if_neg c2, if_neg c2, vbd, if_neg c2]
      · rw [if_neg c, if_neg c, if_neg c, vbd, if_neg c]
/-- a leaf, or a node with parts: what it is worth -/
theorem tv_node : ∀ (f c i j : Nat), 2 * (j - i) + c ≤ f → Eoc w c i j → c = 0 → ∀ (x x' : Int) (n e : Nat), Td w pl nv S A V F B c x i j n e →
    (F n = -1 ∧ e = n + 1 ∧ ∃ k, (w k = 1 ∨ w k = 2 ∨ w k = 12 ∨ w k = 13) ∧ S n = w k ∧ V n = nv k ∧ vlq w cv pl 0 x' i j = cv k)
    ∨ (F n = ((n + 1 : Nat) : Int) ∧ ∃ rs : List (Nat × Nat), rs ≠ [] ∧ (∀ r, r ∈ rs → Eo w 6 r.1 r.2) ∧ Tbq w pl nv S A V F B (-1) rs (n + 1) e ∧ (S n ≠ 1 ∧ S n ≠ 2 ∧ S n ≠ 12 ∧ S n ≠ 13) ∧ (((S n ≠ 29 ∧ S n ≠ 30 ∧ S n ≠ 32) ∧ vlq w cv pl 0 x' i j = vsq w cv pl rs (fnv (S n) (A n) rs.length)) ∨ ((S n = 29 ∨ S n = 30) ∧ ∃ r1 r2, rs = [r1, r2] ∧ vlq w cv pl 0 x' i j = vbd (vlr w cv pl r1) (fun a b => if S n = 29 ↔ a = 0 then (0, a, b) else vlr w cv pl r2)) ∨ (S n = 32 ∧ ∃ r1 r2 r3, rs = [r1, r2, r3] ∧ vlq w cv pl 0 x' i j = vbd (vlr w cv pl r1) (fun a _ => if a = 0 then vlr w cv pl r3 else vlr w cv pl r2)))) := by
  refine Eo_ind (P := fun c i j => c = 0 → ∀ (x x' : Int) (n e : Nat), Td w pl nv S A V F B c x i j n e → (F n = -1 ∧ e = n + 1 ∧ ∃ k, (w k = 1 ∨ w k = 2 ∨ w k = 12 ∨ w k = 13) ∧ S n = w k ∧ V n = nv k ∧ vlq w cv pl 0 x' i j = cv k) ∨ (F n = ((n + 1 : Nat) : Int) ∧ ∃ rs : List (Nat × Nat), rs ≠ [] ∧ (∀ r, r ∈ rs → Eo w 6 r.1 r.2) ∧ Tbq w pl nv S A V F B (-1) rs (n + 1) e ∧ (S n ≠ 1 ∧ S n ≠ 2 ∧ S n ≠ 12 ∧ S n ≠ 13) ∧ (((S n ≠ 29 ∧ S n ≠ 30 ∧ S n ≠ 32) ∧ vlq w cv pl 0 x' i j = vsq w cv pl rs (fnv (S n) (A n) rs.length)) ∨ ((S n = 29 ∨ S n = 30) ∧ ∃ r1 r2, rs = [r1, r2] ∧ vlq w cv pl 0 x' i j = vbd (vlr w cv pl r1) (fun a b => if S n = 29 ↔ a = 0 then (0, a, b) else vlr w cv pl r2)) ∨ (S n = 32 ∧ ∃ r1 r2 r3, rs = [r1, r2, r3] ∧ vlq w cv pl 0 x' i j = vbd (vlr w cv pl r1) (fun a _ => if a = 0 then vlr w cv pl r3 else vlr w cv pl r2))))) ?_ ?_ ?_ ?_ ?_ ?_ ?_ ?_
  · intro i m q j h1 h2 h3 h4 h5 h6 h7 h8 o1 o2 o3 _ _ _ _ x x' n e ht
    rw [Td_ask h1 h2 h3 h6 h8] at ht
    obtain ⟨a, b, ⟨s1, s2, s3⟩, t1, b1, t2, b2, t3, b3⟩ := ht
    refine Or.inr ⟨s3, [(i, m), (m + 1, q), (q + 1, j)], by simp, fun r hr => ?_, ⟨a, t1, b1, b, t2, b2, t3, b3⟩, by omega, Or.inr (Or.inr ⟨by rw [s1]; exact h6, _, _, _, rfl, vl_ask h1 h2 h3 h6 h8⟩)⟩
    simp at hr
    rcases hr with hr | hr | hr <;> subst hr
    · exact o1
    · exact o2
    · exact o3
  · intro i m j h1 h2 h3 h4 o1 o2 _ _ _ x x' n e ht
    rw [Td_bin h1 h2 h3 (by omega)] at ht
    obtain ⟨a, ⟨s1, s2, s3⟩, t1, b1, t2, b2⟩ := ht
    refine Or.inr ⟨s3, [(i, m), (m + 1, j)], by simp, fun r hr => ?_, ⟨a, t1, b1, t2, b2⟩, by omega, ?_⟩
    · simp at hr
      rcases hr with hr | hr <;> subst hr
      · exact o1
      · exact o2
    · by_cases c29 : w m = 29
      · refine Or.inr (Or.inl ⟨by omega, _, _, rfl, ?_⟩)
        rw [vl_and h1 h2 h3 c29]
        congr 1
        funext a b
        have : S n = 29 := by omega
        simp [this]
      · by_cases c30 : w m = 30
        · refine Or.inr (Or.inl ⟨by omega, _, _, rfl, ?_⟩)
          rw [vl_or h1 h2 h3 c30]
          congr 1
          funext a b
          have : ¬ S n = 29 := by omega
          by_cases a0 : a = 0 <;> simp [this, a0]
        · refine Or.inl ⟨by omega, ?_⟩
          rw [vl_bin h1 h2 h3 (by omega) c29 c30]
          unfold vsq
          show _ = if (if (vlr w cv pl (i, m)).1 = 0 then (if (vlr w cv pl (m + 1, j)).1 = 0 then ((0, 0, 1) : vrs) else vlr w cv pl (m + 1, j)) else vlr w cv pl (i, m)).1 = 0 then _ else (if (vlr w cv pl (i, m)).1 = 0 then (if (vlr w cv pl (m + 1, j)).1 = 0 then ((0, 0, 1) : vrs) else vlr w cv pl (m + 1, j)) else vlr w cv pl (i, m))
          by_cases c1 : (vlr w cv pl (i, m)).1 = 0
          · rw [vbd, if_pos c1, if_pos c1]
            by_cases c2 : (vlr w cv pl (m + 1, j)).1 = 0
            · rw [vbd, if_pos c2, if_pos c2, if_pos rfl]
              unfold fnv
              rw [if_neg (by omega), if_neg (by omega), if_neg (by omega), s1, s2]
              rfl
            · rw [vbd, if_neg c2, if_neg c2, if_neg c2]
          · rw [vbd, if_neg c1, if_neg c1, if_neg c1]
  · intro i j h1 h2 h3 _ _ i1 _ x x' n e ht
    rw [Td_par h1 h2 h3] at ht
    rw [vl_par h1 h2 h3]
    exact i1 rfl _ 0 _ _ ht
  · intro i j h1 h2 h3 o1 _ _ x x' n e ht
    rw [Td_pre h1 h2 h3] at ht
    obtain ⟨⟨s1, s2, s3⟩, t1, b1⟩ := ht
    have s4 : S n = 45 ∨ S n = 31 := by rw [s1]; split <;> simp
    refine Or.inr ⟨s3, [(i + 1, j)], by simp, fun r hr => by rw [List.mem_singleton.1 hr]; exact o1, ⟨t1, b1⟩, by omega, Or.inl ⟨by omega, ?_⟩⟩
    unfold vsq
    rw [vft_1]
    rcases h3 with h3 | h3
    · rw [if_pos h3] at s1
      rw [vl_neg h1 h2 h3]
      by_cases c1 : (vlr w cv pl (i + 1, j)).1 = 0
      · rw [vbd, if_pos c1, if_pos c1, if_pos rfl]
        unfold fnv
        rw [if_neg (by omega), if_pos s1]
        rfl
      · rw [vbd, if_neg c1, if_neg c1, if_neg c1]
    · rw [if_neg (by omega)] at s1
      rw [vl_not h1 h2 h3]
      by_cases c1 : (vlr w cv pl (i + 1, j)).1 = 0
      · rw [vbd, if_pos c1, if_pos c1, if_pos rfl]
        unfold fnv
        rw [if_pos s1]
        rfl
      · rw [vbd, if_neg c1, if_neg c1, if_neg c1]
  · intro i h1 h3 _ x x' n e ht
    rw [Td_leaf h1 (by omega) h3] at ht
    obtain ⟨rfl, s1, s2, s3, s4⟩ := ht
    exact Or.inl ⟨s3, rfl, i, h3, s1, s4, vl_leaf h1 (by omega) h3⟩
  · intro i j h1 h2 h3 _ o7 _ _ x x' n e ht
    rw [Td_lst h1 h2 h3] at ht
    obtain ⟨⟨s1, s2, s3⟩, t1⟩ := ht
    obtain ⟨rs, r1, r2, r3, r4⟩ := tv_list (cv := cv) (y := w i) _ 1 (i + 2) (j - 1) (Nat.le_refl _) (Or.inr ⟨rfl, o7⟩) rfl _ _ _ t1
    refine Or.inr ⟨s3, rs, r1, r2, r3, by omega, Or.inl ⟨by omega, ?_⟩⟩
    rw [vl_lst h1 h2 h3, r4]
    unfold vsq fnv
    rw [if_neg (show ¬ S n = 31 by omega), if_neg (show ¬ S n = 45 by omega), if_pos (show S n = 14 ∨ S n = 15 by omega), s1]
  · intros; omega
  · intros; omega
end PTV
end
section
/-! The reference's workOut, exactly: rules of consts. -/
theorem sbV {V e T n m : Nat} (h : V + e + m ≤ T + n) : V + e ≤ T + (n - m) := by omega
theorem sbL {L e T n m : Nat} (h : L + 2 * e + 2 * m ≤ 2 * T + 2 * n) (hn : n ≤ e) : L + 2 * (e - n) ≤ 2 * (T - m) := by omega
theorem vbS {V e T n m : Nat} (h : V + e ≤ T + (n - m)) (hn : m ≤ n) : V + e + m ≤ T + n := by omega
theorem lbS {L e T n m : Nat} (h : L + 2 * (e - n) ≤ 2 * (T - m)) (hn : n < e) : L + 2 * e + 2 * m ≤ 2 * T + 2 * n := by omega
section WRX
variable {G : mG} {F : Prop} {d a g R W T : Nat} {M : mM} {Q : mM → Prop} {nv : Nat → Int}
/-- what a word is worth: nv tells numbers and how names are resolved -/
def cvq (M : mM) (a g : Nat) (nv : Nat → Int) (k : Nat) : vrs := if wk M a k = 1 then vr9 (tn M g (nv k)) (mL M (g + 16) (nv k).toNat) (mL M (g + 17) (nv k).toNat) else if wk M a k = 2 then (0, nv k, 1) else if wk M a k = 12 then (0, 1, 1) else (0, 0, 1)
noncomputable abbrev vlM (M : mM) (a g : Nat) (nv : Nat → Int) (r : Nat × Nat) : vrs := vlr (wk M a) (cvq M a g nv) (nt M (a + 7)) r
noncomputable abbrev vfM (M : mM) (a g : Nat) (nv : Nat → Int) (rs : List (Nat × Nat)) : vrs := vft (wk M a) (cvq M a g nv) (nt M (a + 7)) rs
/-- what the trees stand for: intervals of words -/
def TBv (M : mM) (a g : Nat) (nv : Nat → Int) (md : Nat) (rs : List (Nat × Nat)) (n e : Nat) : Prop := (∀ r, r ∈ rs → Eo (wk M a) 6 r.1 r.2) ∧ if md = 0 then ∃ i j, rs = [(i, j)] ∧ Td (wk M a) (nt M (a + 7)) nv (so M g) (pm M g) (va M g) (fp M g) (np M g) 0 0 i j n e else rs.length = md ∧ Tbq (wk M a) (nt M (a + 7)) nv (so M g) (pm M g) (va M g) (fp M g) (np M g) (-1) rs n e
theorem tb_len2 {nm : Int → Prop} {w pl nv S A V F : Nat → Int} : ∀ {rs : List (Nat × Nat)} {k f n e : Nat}, Tbq w pl nv S A V F (np M g) (-1) rs n e → Tn nm M g f k n e → 1 ≤ k → rs.length = k
  | [], _, _, _, _, h1, _, _ => h1.elim
  | [r], k, f, n, e, h1, h2, hk => by
    cases f with
    | zero => exact h2.elim
    | succ f =>
      rw [Tn, if_neg (by omega)] at h2
      by_cases c1 : k = 1
      · rw [c1]; rfl
      · rw [if_neg c1] at h2
        obtain ⟨m, q1, -⟩ := h2
        have := h1.2
        omega
  | r :: r2 :: rs, k, f, n, e, h1, h2, hk => by
    obtain ⟨m', t1, t2, t3⟩ := h1
    cases f with
    | zero => exact h2.elim
    | succ f =>
      rw [Tn, if_neg (by omega)] at h2
      by_cases c1 : k = 1
      · rw [if_pos c1] at h2
        have := h2.1
        omega
      · rw [if_neg c1] at h2
        obtain ⟨m, q1, -, q3⟩ := h2
        have em : m = m' := by omega
        subst em
        have := tb_len2 t3 q3 (by omega)
        simp only [List.length_cons] at this ⊢
        omega
/-- the values are what the rules are worth -/
def woV (M : mM) (a g V : Nat) (nv : Nat → Int) (rs : List (Nat × Nat)) (u : Nat → Int) (M3 : mM) : Prop := (vfM M a g nv rs).1 = 0 ∧ ∀ j, j < rs.length → vlM M a g nv (rs.getD j (0, 0)) = vr9 (u j) (mL M3 (a + 97) (V + j)) (mL M3 (a + 98) (V + j))
def fvq (M3 : mM) (a : Nat) (v : vrs) : Prop := v.1 ≠ 0 ∧ mI M3 a 16 = v.1 ∧ mI M3 a 17 = v.2.1
theorem EO.pm {F : Prop} {M3 : mM} (h : EO F M a g R W T M3) (n : Nat) : pm M3 g n = pm M g n := by
  have hg := h.2.1.2.2.1
  exact (h.1.lst (tL_in (q := g + 3) hg (tLk3 g)) (by omega)).2.1 n
/-- a node's value depends on its parts' values alone -/
theorem fnv_cg {s p : Int} {k : Nat} {u v : Nat → vrs} (hk : 1 ≤ k) (ha : ari s k) (h : ∀ t, t < k → u t = v t) : fnv s p k u = fnv s p k v := by
  have h0 := h 0 (by omega)
  unfold fnv
  rw [h0]
  by_cases c1 : s = 31
  · rw [if_pos c1, if_pos c1]
  rw [if_neg c1, if_neg c1]
  by_cases c2 : s = 45
  · rw [if_pos c2, if_pos c2]
  rw [if_neg c2, if_neg c2]
  by_cases c3 : s = 14 ∨ s = 15
  · rw [if_pos c3, if_pos c3]
    exact bsq_cg _ (fun j hj => by
      show (u (0 + j)).2.1 = (v (0 + j)).2.1 ∧ (u (0 + j)).2.2 = (v (0 + j)).2.2
      rw [h (0 + j) (by omega)]
      exact ⟨rfl, rfl⟩)
  · rw [if_neg c3, if_neg c3, h 1 (by unfold ari at ha; omega)]
theorem x_wo_run {b : Nat} (hF9 : ¬ F) (h0 : Ev F M a g R W T) (hbR : b ≤ R) : ∀ (f md n e n0 e0 Lk V kk : Nat) (u : Nat → Int) (M2 : mM) (rs : List (Nat × Nat)), kk = md + (1 - md) → Ty (nme F M g b W) (tn M g) M g f md n e u → TBv M a g nv md rs n e → n0 ≤ n → e ≤ e0 → e0 ≤ T → EO F M a g R W T M2 → mI M2 a 16 = 0 → ln M2 (a + 99) = (Lk + 2 * kk : Nat) → (∀ j, j < kk → nt M2 (a + 99) (Lk + 2 * (kk - 1 - j)) = 0 ∧ nt M2 (a + 99) (Lk + 2 * (kk - 1 - j) + 1) = ci M g n j) → mI M2 a 23 = (V : Int) → V + e0 ≤ T + (n - n0) → Lk + 2 * (e - n) ≤ 2 * (T - n0) → (∀ M3, EO F M a g R W T M3 → fvq M3 a (vfM M a g nv rs) → Q M3) → (∀ M3, woR F M a g R W T Lk V kk u M2 M3 → woV M a g V nv rs u M3 → h_MM_workOut_19 G (d + 3) a g M3 Q) → h_MM_workOut_19 G (d + 3) a g M2 Q := by
  have w0 := h0.2.1
  have hBd := h0.2.2.2.2.1
  intro f
  induction f using Nat.strongRecOn with
  | _ f ih =>
  intro md n e n0 e0 Lk V kk u M2 rs hkk ht htb hn0 he he0 h h16 lk pk hV hVb hLb hX hQ
  obtain ⟨hrs, htb⟩ := htb
  have hlt := ht.tn.lt
  have hVs := vbS hVb hn0
  have hLs := lbS hLb hlt
  have hVh : Hid (V + e0 ≤ T + (n - n0)) := hVb
  have hLh : Hid (Lk + 2 * (e - n) ≤ 2 * (T - n0)) := hLb
  clear hVb hLb
  cases f with
  | zero => exact ht.elim
  | succ f =>
    rw [Ty] at ht
    by_cases c0 : md = 0
    · subst c0
      have kk1 : kk = 1 := by omega
      subst kk1
      rw [if_pos rfl] at ht
      obtain ⟨p0, p1⟩ := pk 0 (by omega)
      rw [show Lk + 2 * (1 - 1 - 0) = Lk by omega] at p0 p1
      have pn : nt M2 (a + 99) (Lk + 1) = (n : Int) := p1
      obtain ⟨-, -, ht⟩ := ht
      rw [if_pos rfl] at htb
      obtain ⟨i, j, rfl, tm⟩ := htb
      have eo : Eo (wk M a) 6 i j := hrs (i, j) (List.mem_singleton.2 rfl)
      have tn9 := fun (_ : Unit) => tv_node (cv := cvq M a g nv) _ 0 i j (Nat.le_refl _) (Or.inl ⟨rfl, eo⟩) rfl _ 0 _ _ tm
      have vf1 : vfM M a g nv [(i, j)] = if (vlM M a g nv (i, j)).1 = 0 then (0, 0, 1) else vlM M a g nv (i, j) := rfl
      have w1 : ∀ {M3 : mM} {A B : Int}, vlM M a g nv (i, j) = vr9 (u 0) A B → mL M3 (a + 97) (V + 0) = A → mL M3 (a + 98) (V + 0) = B → woV M a g V nv [(i, j)] u M3 := fun {M3 A B} e1 e2 e3 => by
        refine ⟨by rw [vf1, e1]; rfl, fun t ht => ?_⟩
        have t0 : t = 0 := by simp at ht; omega
        subst t0
        rw [e2, e3]
        exact e1
      have w1x : ∀ {M3 : mM}, EO F M a g R W T M3 → (vlM M a g nv (i, j)).1 ≠ 0 → mI M3 a 16 = (vlM M a g nv (i, j)).1 → mI M3 a 17 = (vlM M a g nv (i, j)).2.1 → Q M3 := fun {M3} l3 z1 z2 z3 => hX M3 l3 (by rw [vf1, if_neg z1]; exact ⟨z1, z2, z3⟩)
      rcases ht with ⟨b1, b2, b3, b4, b5, b6⟩ | ⟨k, c, b1, b2, b3, b4, b5⟩
      · -- a leaf
        refine s_wo2 (n := n) (X := Lk) (s := 0) h h16 lk (Or.inl rfl) p0 pn (fun _ M4 t4 => ?_) (fun z => absurd z (by decide)) (fun z => absurd z (by decide)) (fun z => absurd z (by decide))
        obtain ⟨m4, l4, e4⟩ := t4
        have E4 := h.pile m4
        have K4 := kp99 h.1.2.1 m4
        have nd4 := E4.nod n
        have gs4 := E4.gs w0
        obtain ⟨-, -, kw, kl, ks, kv, kx⟩ : fp M g n = -1 ∧ e = n + 1 ∧ ∃ k, (wk M a k = 1 ∨ wk M a k = 2 ∨ wk M a k = 12 ∨ wk M a k = 13) ∧ so M g n = wk M a k ∧ va M g n = nv k ∧ vlq (wk M a) (cvq M a g nv) (nt M (a + 7)) 0 0 i j = cvq M a g nv k := by
          rcases tn9 () with q | ⟨q, -⟩
          · exact q
          · rw [b2] at q; omega
        refine (x_bg_leaf (t := u 0) (V := V) (X := Lk) hF9 E4.2.1 (by omega) (by rw [nd4.1]; exact b3) (by rw [nd4.1, nd4.2.1]; exact b4) (by rw [nd4.1, nd4.2.1]; exact fun z => ((b5 z).up hbR).gs gs4) (by rw [nd4.1, nd4.2.1, gs4.tyn]; exact b6) (by rw [K4.1]; exact hV) (by omega) l4 (by omega)).mono (fun M5 t5 => ⟨t5.1, ?_⟩)
        obtain ⟨-, A, B, v1, v2, v3⟩ := t5
        rw [nd4.1, nd4.2.1, gs4.2.2.2.2.1, gs4.2.2.2.2.2.1] at v3
        obtain ⟨y1, y2, y3, y4, y5⟩ := v2
        have E5 := E4.step y1 (fun _ z => z.elim) (fun x hx => hx) (fun i _ _ i3 => y3 i i3)
        have s5 := y1.lst (n99 (a := a)) (fun z => z)
        refine hQ M5 ⟨E5, by rw [y3 16 (by omega), K4.1]; exact h16, by rw [s5.1]; exact l4, fun j hj => by rw [s5.2.1, e4], y2, fun j hj => ⟨by rw [y4, if_neg (by omega), K4.2.1], by rw [y5, if_neg (by omega), K4.2.2]⟩, fun j hj => ?_⟩ (w1 (A := A) (B := B) ?_ (by rw [y4, if_pos (by omega)]) (by rw [y5, if_pos (by omega)]))
        · have j0 : j = 0 := by omega
          subst j0
          rw [y4, y5, if_pos (by omega), if_pos (by omega)]
          exact v1
        · show vlq (wk M a) (cvq M a g nv) (nt M (a + 7)) 0 0 i j = _
          rw [kx, v3]
          unfold cvq
          rw [← ks, ← kv]
          by_cases z1 : so M g n = 1
          · rw [if_pos z1, if_pos z1]
            unfold tyn at b6
            rw [if_pos z1] at b6
            rw [b6]
          · rw [if_neg z1, if_neg z1]
      · -- a node with parts
        have hge := b4.tn.ge
        have nl : ¬ (so M g n = 1 ∨ so M g n = 2 ∨ so M g n = 12 ∨ so M g n = 13) := fun z => by unfold ari at b2; omega
        have hty : tyr (so M g n) k c (u 0) := by
          unfold tyn at b5
          rw [if_neg (by omega), if_neg (by omega), if_neg (by omega)] at b5
          exact b5
        obtain ⟨-, rs2, r1, r2, r3, r4, r5⟩ : fp M g n = ((n + 1 : Nat) : Int) ∧ ∃ rs : List (Nat × Nat), rs ≠ [] ∧ (∀ r, r ∈ rs → Eo (wk M a) 6 r.1 r.2) ∧ Tbq (wk M a) (nt M (a + 7)) nv (so M g) (pm M g) (va M g) (fp M g) (np M g) (-1) rs (n + 1) e ∧ (so M g n ≠ 1 ∧ so M g n ≠ 2 ∧ so M g n ≠ 12 ∧ so M g n ≠ 13) ∧ (((so M g n ≠ 29 ∧ so M g n ≠ 30 ∧ so M g n ≠ 32) ∧ vlM M a g nv (i, j) = vsq (wk M a) (cvq M a g nv) (nt M (a + 7)) rs (fnv (so M g n) (pm M g n) rs.length)) ∨ ((so M g n = 29 ∨ so M g n = 30) ∧ ∃ r1 r2, rs = [r1, r2] ∧ vlM M a g nv (i, j) = vbd (vlM M a g nv r1) (fun x y => if so M g n = 29 ↔ x = 0 then (0, x, y) else vlM M a g nv r2)) ∨ (so M g n = 32 ∧ ∃ r1 r2 r3, rs = [r1, r2, r3] ∧ vlM M a g nv (i, j) = vbd (vlM M a g nv r1) (fun x _ => if x = 0 then vlM M a g nv r3 else vlM M a g nv r2))) := by
          rcases tn9 () with ⟨q, -⟩ | q
          · rw [b3] at q; omega
          · exact q
        have rk : rs2.length = k := tb_len2 r3 b4.tn b1
        by_cases cs : so M g n = 29 ∨ so M g n = 30 ∨ so M g n = 32
        · -- and, or, ask
          have k2 : 2 ≤ k := by unfold ari at b2; omega
          cases f with
          | zero => exact b4.elim
          | succ f1 =>
            have b4' := b4
            rw [Ty, if_neg (by omega), if_neg (by omega)] at b4'
            obtain ⟨m, q1, q2, q3⟩ := b4'
            have l1 := q2.tn.lt
            have l3 := q3.tn.ge
            -- the first part and the rest
            obtain ⟨ra, rt, rfl⟩ : ∃ ra rt, rs2 = ra :: rt := by
              cases rs2 with
              | nil => exact absurd rfl r1
              | cons r rs => exact ⟨r, rs, rfl⟩
            have lrt : rt.length = k - 1 := by simp only [List.length_cons] at rk; omega
            obtain ⟨rb, rt2, rfl⟩ : ∃ rb rt2, rt = rb :: rt2 := by
              cases rt with
              | nil => simp at lrt; omega
              | cons r rs => exact ⟨r, rs, rfl⟩
            obtain ⟨m', tb1, tb2, tb3⟩ := r3
            have em : m' = m := by omega
            subst em
            have eoa : Eo (wk M a) 6 ra.1 ra.2 := r2 ra (List.mem_cons_self ..)
            have vfa : vfM M a g nv [ra] = if (vlM M a g nv ra).1 = 0 then (0, 0, 1) else vlM M a g nv ra := rfl
            -- a fault of the first part is the node's
            have xa : (vlM M a g nv ra).1 ≠ 0 → vlM M a g nv (i, j) = vlM M a g nv ra := fun z => by
              rcases r5 with ⟨q, -⟩ | ⟨-, x1, x2, e1, e2⟩ | ⟨-, x1, x2, x3, e1, e2⟩
              · omega
              · have := (List.cons.inj e1).1
                subst this
                rw [e2, vbd, if_neg z]
              · have := (List.cons.inj e1).1
                subst this
                rw [e2, vbd, if_neg z]
            refine s_wo2 (n := n) (X := Lk) (s := 0) h h16 lk (Or.inl rfl) p0 pn (fun _ M4 t4 => ?_) (fun z => absurd z (by decide)) (fun z => absurd z (by decide)) (fun z => absurd z (by decide))
            obtain ⟨m4, l4, e4⟩ := t4
            have E4 := h.pile m4
            have K4 := kp99 h.1.2.1 m4
            have nd4 := E4.nod n
            refine (s_bg_first (X := Lk) E4.2.1 (by omega) (by rw [nd4.1]; exact cs) l4 (by omega)).mono (fun M5 t5 => ⟨t5.1, ?_⟩)
            obtain ⟨-, m5, l5, e5, x2, xn, x0, xf⟩ := t5
            rw [nd4.2.2.1] at xf
            have E5 := E4.pile m5
            have K5 := kp99 E4.1.2.1 m5
            refine ih f1 (by omega) 0 (n + 1) m' n0 e0 (Lk + 2) V 1 c M5 [ra] (by omega) q2 ⟨fun x hx => by rw [List.mem_singleton.1 hx]; exact eoa, by rw [if_pos rfl]; exact ⟨ra.1, ra.2, rfl, tb1⟩⟩ (by omega) (by omega) he0 E5 (by rw [K5.1, K4.1]; exact h16) (by rw [l5]) (fun j' hj' => ?_) (by rw [K5.1, K4.1]; exact hV) (by first | exact sbV (by omega) | omega) (by first | exact sbL (by omega) (by omega) | omega) (fun M6 l6 p6 => ?_) (fun M6 h6 x6 => ?_)
            · have j0 : j' = 0 := by omega
              subst j0
              exact ⟨x0, xf.trans b3⟩
            · rw [vfa] at p6
              have z1 : (vlM M a g nv ra).1 ≠ 0 := fun z => by rw [if_pos z] at p6; exact p6.1 rfl
              rw [if_neg z1] at p6
              have := xa z1
              exact w1x l6 (by rw [this]; exact z1) (by rw [this]; exact p6.2.1) (by rw [this]; exact p6.2.2)
            · have va0 := x6.2 0 (by simp)
              have va1 : (vlM M a g nv ra).1 = 0 := by rw [show vlM M a g nv ra = _ from va0]; rfl
              obtain ⟨E6, z16, l6, e6, v6, k6, o6⟩ := h6
              refine s_wo2 (n := n) (X := Lk) (s := 2) E6 z16 l6 (Or.inr (Or.inr (Or.inl rfl))) (by rw [e6 Lk (by omega)]; exact x2) (by rw [e6 (Lk + 1) (by omega)]; exact xn) (fun z => absurd z (by decide)) (fun z => absurd z (by decide)) (fun _ M7 t7 => ?_) (fun z => absurd z (by decide))
              obtain ⟨m7, l7, e7⟩ := t7
              have E7 := E6.pile m7
              have K7 := kp99 E6.1.2.1 m7
              have nd7 := E7.nod
              refine (x_MM_choose0 (d := d + 1) (V := V) (X := Lk) (c1 := n + 1) (c2 := m') E7.2.1 (by omega) (by rw [(nd7 n).2.2.1]; exact b3) (by omega) (by rw [(nd7 (n + 1)).2.2.2]; exact q1) (by omega) (by rw [K7.1]; exact v6) (by omega) l7 (by omega)).mono (fun M8 t8 => ⟨t8.1, ?_⟩)
              have lowT : ∀ j, j < Lk → nt M7 (a + 99) j = nt M2 (a + 99) j := fun j hj => by rw [e7, e6 j (by omega), e5 j hj, e4]
              have lowV : ∀ j, j < V → mL M7 (a + 97) j = mL M2 (a + 97) j ∧ mL M7 (a + 98) j = mL M2 (a + 98) j := fun j hj => ⟨by rw [K7.2.1, (k6 j hj).1, K5.2.1, K4.2.1], by rw [K7.2.2, (k6 j hj).2, K5.2.2, K4.2.2]⟩
              have u0t : c 0 = 1 := by
                unfold tyr at hty
                by_cases c32 : so M g n = 32
                · rw [if_neg (by omega), if_neg (by omega), if_pos c32] at hty
                  exact hty.1
                · rw [if_pos (by omega)] at hty
                  exact hty.1 0 (by omega)
              have va2 : vlM M a g nv ra = (0, mL M7 (a + 97) V, 1) := by
                have q := show vlM M a g nv ra = _ from va0
                rw [q, K7.2.1]
                unfold vr9
                rw [if_pos u0t]
                rfl
              have va3 : mL M7 (a + 97) V = 0 ∨ mL M7 (a + 97) V = 1 := by
                have o := o6 0 (by omega)
                rw [u0t, ← K7.2.1, ← K7.2.2] at o
                unfold vok at o
                rcases o with o | o
                · omega
                · exact o.2.1
              rcases t8.2 with ⟨y1, y3, y2⟩ | ⟨cc, hcc, m8, v8, f8, l8, e8, x8, y8⟩
              · subst y2
                rw [(nd7 n).1] at y1 y3
                refine hQ M8 ⟨E7, by rw [K7.1]; exact z16, l7, lowT, by rw [K7.1]; exact v6, lowV, fun j hj => ?_⟩ ?_
                rotate_left
                · rcases r5 with ⟨q, -⟩ | ⟨q, x1, x2, e1, e2⟩ | ⟨q, -⟩
                  · omega
                  · have := (List.cons.inj e1).1
                    subst this
                    have hu1 : u 0 = 1 := by
                      unfold tyr at hty
                      rw [if_pos (by omega)] at hty
                      exact hty.2
                    have ob := (o6 0 (by omega))
                    rw [u0t, ← K7.2.1, ← K7.2.2] at ob
                    refine w1 (A := mL M8 (a + 97) V) (B := mL M8 (a + 98) V) ?_ rfl rfl
                    rw [e2, va2, vbd, if_pos rfl]
                    show (if so M g n = 29 ↔ mL M8 (a + 97) V = 0 then ((0, mL M8 (a + 97) V, 1) : vrs) else vlM M a g nv x2) = _
                    rw [if_pos (by constructor <;> intro zz <;> omega)]
                    unfold vr9
                    rw [if_pos hu1]
                  · omega
                have j0 : j = 0 := by omega
                subst j0
                have o := o6 0 (by omega)
                rw [← K7.2.1, ← K7.2.2] at o
                unfold tyr at hty
                rw [if_pos (by omega)] at hty
                rw [hty.2, ← hty.1 0 (by omega)]
                exact o
              · have E8 := E7.step m8 (fun q hq => hq) (fun x hx => Or.inl hx) (fun i _ _ i3 => f8 i i3)
                have w7 := E7.1.2.1
                have in9 : ∀ q, q = a + 99 → q ∈ nums a := fun q hq => by rw [hq]; exact n99
                have l97 := (m8.cellL w7 in9 (offx (a := a) (o := 97) (by decide)) (by omega)).2
                have l98 := (m8.cellL w7 in9 (offx (a := a) (o := 98) (by decide)) (by omega)).2
                obtain ⟨n2, e2, f2, u2, d1, d2, d3, d4, d5, d6, rc, dr1, dr2, dr3⟩ : ∃ (n2 e2 f2 : Nat) (u2 : Nat → Int), cc = (n2 : Int) ∧ f2 < f1 + 1 + 1 ∧ Ty (nme F M g b W) (tn M g) M g f2 0 n2 e2 u2 ∧ u2 0 = u 0 ∧ m' ≤ n2 ∧ e2 ≤ e ∧ ∃ rc : Nat × Nat, Eo (wk M a) 6 rc.1 rc.2 ∧ Td (wk M a) (nt M (a + 7)) nv (so M g) (pm M g) (va M g) (fp M g) (np M g) 0 0 rc.1 rc.2 n2 e2 ∧ vlM M a g nv (i, j) = vlM M a g nv rc := by
                  unfold tyr at hty
                  cases f1 with
                  | zero => exact q3.elim
                  | succ f2 =>
                    by_cases c32 : so M g n = 32
                    · have k3 : k = 3 := by unfold ari at b2; omega
                      subst k3
                      rw [if_neg (by omega), if_neg (by omega), if_pos c32] at hty
                      rw [Ty, if_neg (by omega), if_neg (by omega)] at q3
                      obtain ⟨m2, r1', r2', r3'⟩ := q3
                      have g1 := r2'.tn.lt
                      have g2 := r3'.tn.lt
                      obtain ⟨rd3, rfl⟩ : ∃ r, rt2 = [r] := by
                        cases rt2 with
                        | nil => simp at lrt
                        | cons r rs =>
                          cases rs with
                          | nil => exact ⟨r, rfl⟩
                          | cons r2 rs => simp at lrt
                      obtain ⟨m3, tc1, tc2, tc3⟩ := tb3
                      have em3 : m3 = m2 := by omega
                      subst em3
                      obtain ⟨x1, x2, x3, e1, e2⟩ : ∃ r1 r2 r3, ([ra, rb, rd3] : List (Nat × Nat)) = [r1, r2, r3] ∧ vlM M a g nv (i, j) = vbd (vlM M a g nv r1) (fun x _ => if x = 0 then vlM M a g nv r3 else vlM M a g nv r2) := by
                        rcases r5 with ⟨q, -⟩ | ⟨q, -⟩ | ⟨-, q⟩
                        · omega
                        · omega
                        · exact q
                      simp only [List.cons.injEq, and_true] at e1
                      obtain ⟨e1a, e1b, e1c⟩ := e1
                      subst e1a e1b e1c
                      rcases hcc with z | z
                      · refine ⟨m', m3, f2, _, z.1, by omega, r2', hty.2.1, Nat.le_refl _, by omega, rb, r2 rb (by simp), tc1, ?_⟩
                        rw [e2, va2, vbd, if_pos rfl]
                        show (if mL M7 (a + 97) V = 0 then _ else _) = _
                        rw [if_neg]
                        rw [(nd7 n).1] at z
                        omega
                      · cases f2 with
                        | zero => exact r3'.elim
                        | succ f3 =>
                          rw [Ty, if_neg (by omega), if_pos (by omega)] at r3'
                          refine ⟨m3, e, f3, _, z.2.1.trans ((nd7 m').2.2.2.trans r1'), by omega, r3'.2, hty.2.2, by omega, Nat.le_refl _, rd3, r2 rd3 (by simp), tc3.1, ?_⟩
                          rw [e2, va2, vbd, if_pos rfl]
                          show (if mL M7 (a + 97) V = 0 then _ else _) = _
                          rw [if_pos]
                          have := z.2.2
                          omega
                    · have k3 : k = 2 := by unfold ari at b2; omega
                      subst k3
                      rw [if_pos (by omega)] at hty
                      rw [Ty, if_neg (by omega), if_pos (by omega)] at q3
                      have rt0 : rt2 = [] := by
                        cases rt2 with
                        | nil => rfl
                        | cons r rs => simp at lrt
                      subst rt0
                      obtain ⟨x1, x2, e1, e2⟩ : ∃ r1 r2, ([ra, rb] : List (Nat × Nat)) = [r1, r2] ∧ vlM M a g nv (i, j) = vbd (vlM M a g nv r1) (fun x y => if so M g n = 29 ↔ x = 0 then (0, x, y) else vlM M a g nv r2) := by
                        rcases r5 with ⟨q, -⟩ | ⟨-, q⟩ | ⟨q, -⟩
                        · omega
                        · exact q
                        · omega
                      simp only [List.cons.injEq, and_true] at e1
                      obtain ⟨e1a, e1b⟩ := e1
                      subst e1a e1b
                      rcases hcc with z | z
                      · refine ⟨m', e, f2, _, z.1, by omega, q3.2, (hty.1 1 (by omega)).trans hty.2.symm, Nat.le_refl _, Nat.le_refl _, rb, r2 rb (by simp), tb3.1, ?_⟩
                        rw [e2, va2, vbd, if_pos rfl]
                        show (if so M g n = 29 ↔ mL M7 (a + 97) V = 0 then _ else _) = _
                        rw [if_neg]
                        rw [(nd7 n).1] at z
                        omega
                      · exact absurd ((nd7 n).1.symm.trans z.1) c32
                have g3 := d3.tn.lt
                refine ih f2 d2 0 n2 e2 n0 e0 Lk V 1 u2 M8 [rc] (by omega) d3 ⟨fun x hx => by rw [List.mem_singleton.1 hx]; exact dr1, by rw [if_pos rfl]; exact ⟨rc.1, rc.2, rfl, dr2⟩⟩ (by omega) (by omega) he0 E8 (by rw [f8 16 (by omega), K7.1]; exact z16) (by rw [l8]) (fun j hj => ?_) v8 (by first | exact sbV (by omega) | omega) (by first | exact sbL (by omega) (by omega) | omega) (fun M9 l9 p9 => hX M9 l9 (by rw [vf1, dr3]; exact p9)) (fun M9 h9 x9 => hQ M9 ?_ ?_)
                · have j0 : j = 0 := by omega
                  subst j0
                  exact ⟨x8, y8.trans d1⟩
                rotate_left
                · have q9 := x9.2 0 (by simp)
                  rw [d4] at q9
                  exact w1 (by rw [dr3]; exact q9) rfl rfl
                · obtain ⟨E9, y16, l9, e9, v9, k9, o9⟩ := h9
                  refine ⟨E9, y16, l9, fun j hj => by rw [e9 j hj, e8 j hj, lowT j hj], v9, fun j hj => ⟨by rw [(k9 j hj).1, l97, (lowV j hj).1], by rw [(k9 j hj).2, l98, (lowV j hj).2]⟩, fun j hj => ?_⟩
                  have j0 : j = 0 := by omega
                  subst j0
                  rw [← d4]
                  exact o9 0 hj
        · -- the parts first
          refine s_wo2 (n := n) (X := Lk) (s := 0) h h16 lk (Or.inl rfl) p0 pn (fun _ M4 t4 => ?_) (fun z => absurd z (by decide)) (fun z => absurd z (by decide)) (fun z => absurd z (by decide))
          obtain ⟨m4, l4, e4⟩ := t4
          have E4 := h.pile m4
          have K4 := kp99 h.1.2.1 m4
          have nd4 := E4.nod n
          refine (s_bg_parts (X := Lk) E4.2.1 (by omega) b1 (by rw [nd4.1]; omega) (by rw [nd4.2.2.1]; exact b3) (E4.tnn b4.tn) (by omega) l4 (by omega)).mono (fun M5 t5 => ⟨t5.1, ?_⟩)
          obtain ⟨-, m5, l5, e5, x1, xn, v5⟩ := t5
          have E5 := E4.pile m5
          have K5 := kp99 E4.1.2.1 m5
          have cie : ∀ j, ci M4 g (n + 1) j = ci M g (n + 1) j := ci_cg (fun k => (E4.nod k).2.2.2)
          refine ih f (by omega) k (n + 1) e n0 e0 (Lk + 2) V k c M5 rs2 (by omega) b4 ⟨r2, by rw [if_neg (by omega)]; exact ⟨rk, r3⟩⟩ (by omega) he he0 E5 (by rw [K5.1, K4.1]; exact h16) (by rw [l5]) (fun j hj => ⟨(v5 j hj).1, (v5 j hj).2.trans (cie j)⟩) (by rw [K5.1, K4.1]; exact hV) (by first | exact sbV (by omega) | omega) (by first | exact sbL (by omega) (by omega) | omega) (fun M6 l6 p6 => ?_) (fun M6 h6 x6 => ?_)
          · have e9 : vlM M a g nv (i, j) = vfM M a g nv rs2 := by
              rcases r5 with ⟨-, q⟩ | ⟨q, -⟩ | ⟨q, -⟩
              · rw [q]; unfold vsq; rw [if_neg p6.1]
              · omega
              · omega
            exact w1x l6 (by rw [e9]; exact p6.1) (by rw [e9]; exact p6.2.1) (by rw [e9]; exact p6.2.2)
          have e9 : vlM M a g nv (i, j) = fnv (so M g n) (pm M g n) k (fun t => vlM M a g nv (rs2.getD t (0, 0))) := by
            rcases r5 with ⟨-, q⟩ | ⟨q, -⟩ | ⟨q, -⟩
            · rw [q]; unfold vsq; rw [if_pos x6.1, rk]
            · omega
            · omega
          obtain ⟨E6, z16, l6, e6, v6, k6, o6⟩ := h6
          refine s_wo2 (n := n) (X := Lk) (s := 1) E6 z16 l6 (Or.inr (Or.inl rfl)) (by rw [e6 Lk (by omega)]; exact x1) (by rw [e6 (Lk + 1) (by omega)]; exact xn) (fun z => absurd z (by decide)) (fun _ M7 t7 => ?_) (fun z => absurd z (by decide)) (fun z => absurd z (by decide))
          obtain ⟨m7, l7, e7⟩ := t7
          have E7 := E6.pile m7
          have K7 := kp99 E6.1.2.1 m7
          have nd7 := E7.nod n
          refine (x_MM_finish (d := d) (V := V) (k := k) (c := c) (t := u 0) E7.2.1 (by omega) b1 (by rw [nd7.1]; exact b2) (by rw [nd7.1]; omega) (by rw [nd7.2.2.1]; exact b3) (E7.tnn b4.tn) (by omega) (by rw [nd7.1]; exact hty) (fun j hj => by rw [K7.2.1, K7.2.2]; exact o6 j hj) (by rw [K7.1]; exact v6) (by omega)).mono (fun M8 t8 => ⟨t8.1, ?_⟩)
          obtain ⟨-, ⟨y1, y2, y3, y4⟩, y5⟩ := t8
          have ex : fnv (so M7 g n) (pm M7 g n) k (fun j => vr9 (c j) (mL M7 (a + 97) (V + j)) (mL M7 (a + 98) (V + j))) = vlM M a g nv (i, j) := by
            rw [e9, nd7.1, E7.pm]
            refine fnv_cg b1 (by rw [← nd7.1, nd7.1]; exact b2) (fun t ht => ?_)
            rw [x6.2 t (by rw [rk]; exact ht), K7.2.1, K7.2.2]
          rw [ex] at y5
          have E8 := E7.step y1 (fun _ z => z.elim) (fun x hx => hx) y2
          have s8 := y1.lst (n99 (a := a)) (fun z => z)
          have z7 : mI M7 a 16 = 0 := by rw [K7.1]; exact z16
          by_cases z8 : mI M8 a 16 = 0
          rotate_left
          · have w8 := E8.1.2.1
            refine k_MM_workOut_19 E8.1.1 ?_
            rw [r24w w8]
            refine ⟨w8.1.1, (w8.nu n99).1, fun _ => ?_, fun q => absurd (Or.inr z8) q⟩
            rcases y5 with ⟨q1, q2, q3⟩ | ⟨q2, -⟩
            · exact w1x E8 q1 q2 q3
            · rw [q2] at z8; exact absurd z7 z8
          have z := z8
          refine hQ M8 ?_ ?_
          rotate_left
          · rcases y5 with ⟨q1, q2, -⟩ | ⟨-, q2⟩
            · rw [z] at q2; exact absurd q2.symm q1
            · exact w1 q2 rfl rfl
          rcases y4 with y | ⟨w1', w2, w3⟩
          · exact absurd z y
          · refine ⟨E8, z, by rw [s8.1]; exact l7, fun j hj => by rw [s8.2.1, e7, e6 j (by omega), e5 j hj, e4], w2, fun j hj => ⟨by rw [(y3 j hj).1, K7.2.1, (k6 j hj).1, K5.2.1, K4.2.1], by rw [(y3 j hj).2, K7.2.2, (k6 j hj).2, K5.2.2, K4.2.2]⟩, fun j hj => ?_⟩
            have j0 : j = 0 := by omega
            subst j0
            exact w3
    · rw [if_neg c0] at ht htb
      obtain ⟨hlen, htb⟩ := htb
      have kkm : kk = md := by omega
      subst kkm
      by_cases c1 : kk = 1
      · subst c1
        rw [if_pos rfl] at ht
        obtain ⟨r, rfl⟩ : ∃ r, rs = [r] := by
          cases rs with
          | nil => simp at hlen
          | cons r rs =>
            cases rs with
            | nil => exact ⟨r, rfl⟩
            | cons r2 rs => simp at hlen
        exact ih f (by omega) 0 n e n0 e0 Lk V 1 u M2 [r] (by omega) ht.2 ⟨hrs, by rw [if_pos rfl]; exact ⟨r.1, r.2, rfl, htb.1⟩⟩ hn0 he he0 h h16 lk pk hV hVh hLh hX hQ
      · rw [if_neg c1] at ht
        obtain ⟨m, q1, q2, q3⟩ := ht
        have l1 := q2.tn.lt
        have l2 := q3.tn.ge
        obtain ⟨r, r2, rs2, rfl⟩ : ∃ r r2 rs2, rs = r :: r2 :: rs2 := by
          cases rs with
          | nil => simp at hlen; omega
          | cons r rs =>
            cases rs with
            | nil => simp at hlen; omega
            | cons r2 rs => exact ⟨r, r2, rs, rfl⟩
        obtain ⟨m', tb1, tb2, tb3⟩ := htb
        have em : m' = m := by omega
        subst em
        have eor : Eo (wk M a) 6 r.1 r.2 := hrs r (List.mem_cons_self ..)
        have vfc : vfM M a g nv (r :: r2 :: rs2) = if (vlM M a g nv r).1 = 0 then vfM M a g nv (r2 :: rs2) else vlM M a g nv r := rfl
        have vf1 : vfM M a g nv [r] = if (vlM M a g nv r).1 = 0 then (0, 0, 1) else vlM M a g nv r := rfl
        refine ih f (by omega) 0 n m' n0 e0 (Lk + 2 * (kk - 1)) V 1 u M2 [r] (by omega) q2 ⟨fun x hx => by rw [List.mem_singleton.1 hx]; exact eor, by rw [if_pos rfl]; exact ⟨r.1, r.2, rfl, tb1⟩⟩ hn0 (by omega) he0 h h16 (by rw [lk]; omega) (fun j hj => ?_) hV (by first | exact sbV (by omega) | omega) (by first | exact sbL (by omega) (by omega) | omega) (fun M3 l3 p3 => hX M3 l3 (by
          rw [vf1] at p3
          have z1 : (vlM M a g nv r).1 ≠ 0 := fun z => by rw [if_pos z] at p3; exact p3.1 rfl
          rw [if_neg z1] at p3
          rw [vfc, if_neg z1]
          exact p3)) (fun M3 h3 x3 => ?_)
        · have j0 : j = 0 := by omega
          subst j0
          have := pk 0 (by omega)
          rw [show Lk + 2 * (kk - 1) + 2 * (1 - 1 - 0) = Lk + 2 * (kk - 1 - 0) by omega]
          exact this
        · obtain ⟨g1, g2, g3, g4, g5, g6, g7⟩ := h3
          have va0 := x3.2 0 (by simp)
          have va1 : (vlM M a g nv r).1 = 0 := by rw [show vlM M a g nv r = _ from va0]; rfl
          refine ih f (by omega) (kk - 1) m' e n0 e0 Lk (V + 1) (kk - 1) (fun j => u (j + 1)) M3 (r2 :: rs2) (by omega) q3 ⟨fun x hx => hrs x (List.mem_cons_of_mem _ hx), by rw [if_neg (by omega)]; exact ⟨by simp only [List.length_cons] at hlen ⊢; omega, tb3⟩⟩ (by omega) he he0 g1 g2 g3 (fun j hj => ?_) g5 (by first | exact sbV (by omega) | omega) (by first | exact sbL (by omega) (by omega) | omega) (fun M4 l4 p4 => hX M4 l4 (by rw [vfc, if_pos va1]; exact p4)) (fun M4 h4 x4 => hQ M4 ?_ ?_)
          · have := pk (j + 1) (by omega)
            rw [ci_succ q1, show Lk + 2 * (kk - 1 - (j + 1)) = Lk + 2 * (kk - 1 - 1 - j) by omega] at this
            rw [g4 _ (by omega), g4 _ (by omega)]
            exact this
          · obtain ⟨f1, f2, f3, f4, f5, f6, f7⟩ := h4
            refine ⟨f1, f2, f3, fun j hj => by rw [f4 j hj, g4 j (by omega)], by rw [f5]; omega, fun j hj => ⟨by rw [(f6 j (by omega)).1, (g6 j hj).1], by rw [(f6 j (by omega)).2, (g6 j hj).2]⟩, fun j hj => ?_⟩
            cases j with
            | zero =>
              rw [(f6 (V + 0) (by omega)).1, (f6 (V + 0) (by omega)).2]
              exact g7 0 (by omega)
            | succ j =>
              have := f7 j (by omega)
              rw [show V + 1 + j = V + (j + 1) by omega] at this
              exact this
          · obtain ⟨f1, f2, f3, f4, f5, f6, f7⟩ := h4
            refine ⟨by rw [vfc, if_pos va1]; exact x4.1, fun t ht => ?_⟩
            cases t with
            | zero =>
              rw [(f6 (V + 0) (by omega)).1, (f6 (V + 0) (by omega)).2]
              exact va0
            | succ t =>
              have := x4.2 t (by simp only [List.length_cons] at ht ⊢; omega)
              rw [show V + 1 + t = V + (t + 1) by omega] at this
              exact this
end WRX
section WTX
variable {G : mG} {F : Prop} {d a g R W T : Nat} {M : mM} {nv : Nat → Int}
/-- a rule of consts has been worked out, or a fault told -/
def wrkX (F : Prop) (M : mM) (a g R W T : Nat) (t : Int) (v : vrs) (M' : mM) : Prop := wrkQ F M a g R W T t M' ∧ (mI M a 16 ≠ 0 ∨ fvq M' a v ∨ (mI M' a 16 = 0 ∧ v = vr9 t (mL M' (a + 97) 0) (mL M' (a + 98) 0)))
theorem x_MM_workOut {b f n e i j : Nat} {t : Int} (hF9 : ¬ F) (h : Ev F M a g R W T) (hb : b ≤ R) (eo : Eo (wk M a) 6 i j) (tm : Td (wk M a) (nt M (a + 7)) nv (so M g) (pm M g) (va M g) (fp M g) (np M g) 0 0 i j n e) (ht : Ty (nme F M g b W) (tn M g) M g f 0 n e (fun _ => t)) (he : e ≤ T) : Cv G y_MM_workOut (d + 4) [vr a, vr g, vi n] M (fun M' => mOk M' ∧ wrkX F M a g R W T t (vlM M a g nv (i, j)) M') := by
  obtain ⟨hO, w, hg, hd, hB, -, -⟩ := id h
  have hlt := ht.tn.lt
  refine k_MM_workOut hO (i32s (by omega) (by omega)) ⟨w.1.1, fun M2 e2 => ?_⟩
  obtain ⟨m2, f2⟩ := mv_fld (v := 0) ⟨by omega, by omega⟩ hO w e2
  have E2 : EO F M a g R W T M2 := (EO.refl h).step m2 (fun _ z => z.elim) (fun x hx => Or.inl hx) (fun i _ _ i3 => by rw [f2, if_neg i3])
  have w2 := m2.2.1
  rw [r24w w2]
  refine ⟨(w2.nu n99).1, fun M5 e5 => ?_⟩
  have b99 : 0 ≤ ln M2 (a + 99) := (w2.nu n99).2.2.2.1.1
  obtain ⟨m5, l5, -, -⟩ := mv_set m2.1 w2 n99 (v := 0) (by omega) b99 e5
  have E5 := E2.pile m5
  have K5 := kp99 w2 m5
  refine (s_MM_todo (d := d + 2) (X := 0) ⟨by omega, by omega⟩ (i32s (by omega) (by omega)) m5.1 m5.2.1 l5 (by omega)).mono (fun M7 t7 => ⟨t7.1, ?_⟩)
  obtain ⟨o7, m7, l7, -, x7, y7⟩ := t7
  have E7 := E5.pile m7
  have K7 := kp99 E5.1.2.1 m7
  have z17 : mI M7 a 16 = mI M a 16 := by rw [K7.1, K5.1, f2, if_neg (by omega)]
  by_cases z : mI M7 a 16 = 0
  · refine x_wo_run hF9 h hb f 0 n e n e 0 0 1 (fun _ => t) M7 [(i, j)] (by omega) ht ⟨fun r hr => by rw [List.mem_singleton.1 hr]; exact eo, by rw [if_pos rfl]; exact ⟨i, j, rfl, tm⟩⟩ (Nat.le_refl _) (Nat.le_refl _) he E7 z l7 (fun j hj => ?_) (by rw [K7.1, K5.1, f2, if_pos rfl]; rfl) (by omega) (by omega) (fun M3 l3 p3 => ?_) (fun M8 h8 x8 => ?_)
    · have j0 : j = 0 := by omega
      subst j0
      exact ⟨x7, y7⟩
    · have p3' : fvq M3 a (if (vlM M a g nv (i, j)).1 = 0 then (0, 0, 1) else vlM M a g nv (i, j)) := p3
      have z1 : (vlM M a g nv (i, j)).1 ≠ 0 := fun z => by rw [if_pos z] at p3'; exact p3'.1 rfl
      rw [if_neg z1] at p3'
      exact ⟨l3.1.1, ⟨l3, Or.inl (by rw [p3'.2.1]; exact z1)⟩, Or.inr (Or.inl p3')⟩
    · obtain ⟨E8, z16, l8, -, -, -, o8⟩ := h8
      have w8 := E8.1.2.1
      have l8' : mI M8 (a + 99) 1 = 0 := l8
      refine k_MM_workOut_19 E8.1.1 ?_
      rw [r24w w8, l8']
      exact ⟨w8.1.1, (w8.nu n99).1, fun _ => ⟨E8.1.1, ⟨E8, Or.inr ⟨z16, o8 0 (by omega)⟩⟩, Or.inr (Or.inr ⟨z16, x8.2 0 (by simp)⟩)⟩, fun q => absurd (Or.inl (Int.le_refl _)) q⟩
  · have w := E7.1.2.1
    refine k_MM_workOut_19 E7.1.1 ?_
    rw [r24w w]
    exact ⟨w.1.1, (w.nu n99).1, fun _ => ⟨E7.1.1, ⟨E7, Or.inl z⟩, Or.inl (by rw [← z17]; exact z)⟩, fun q => absurd (Or.inr z) q⟩
end WTX
end
section
/-! The reference's rule, exactly: a tree is made and looked at. -/
section TMP
variable {w pl nv nv' S A V F B S' A' V' F' B' : Nat → Int} {i j n e : Nat} {x : Int}
/-- the same nodes, the same tree -/
theorem Td_mp : ∀ (f c i j : Nat), 2 * (j - i) + c ≤ f → Eoc w c i j → ∀ (x : Int) (n e : Nat), Td w pl nv S A V F B c x i j n e → (∀ k, n ≤ k → k < e → S' k = S k ∧ A' k = A k ∧ (∀ t, S k = w t → V k = nv t → V' k = nv' t) ∧ F' k = F k) → (∀ k, n < k → k < e → B' k = B k) → (c = 1 → B' n = B n) → Td w pl nv' S' A' V' F' B' c x i j n e := by
  refine Eo_ind (P := fun c i j => ∀ (x : Int) (n e : Nat), Td w pl nv S A V F B c x i j n e → (∀ k, n ≤ k → k < e → S' k = S k ∧ A' k = A k ∧ (∀ t, S k = w t → V k = nv t → V' k = nv' t) ∧ F' k = F k) → (∀ k, n < k → k < e → B' k = B k) → (c = 1 → B' n = B n) → Td w pl nv' S' A' V' F' B' c x i j n e) ?_ ?_ ?_ ?_ ?_ ?_ ?_ ?_
  · intro i m q j h1 h2 h3 h4 h5 h6 h7 h8 o1 o2 o3 i1 i2 i3 x n e ht g1 g2 g3
    rw [Td_ask h1 h2 h3 h6 h8] at ht ⊢
    obtain ⟨a, b, ⟨s1, s2, s3⟩, t1, b1, t2, b2, t3, b3⟩ := ht
    have l1 := t1.lt (Or.inl ⟨rfl, o1⟩)
    have l2 := t2.lt (Or.inl ⟨rfl, o2⟩)
    have l3 := t3.lt (Or.inl ⟨rfl, o3⟩)
    obtain ⟨k1, k2, -, k4⟩ := g1 n (Nat.le_refl _) (by omega)
    exact ⟨a, b, ⟨by rw [k1]; exact s1, by rw [k2]; exact s2, by rw [k4]; exact s3⟩, i1 _ _ _ t1 (fun k u v => g1 k (by omega) (by omega)) (fun k u v => g2 k (by omega) (by omega)) (fun u => absurd u (by decide)), by rw [g2 _ (by omega) (by omega)]; exact b1, i2 _ _ _ t2 (fun k u v => g1 k (by omega) (by omega)) (fun k u v => g2 k (by omega) (by omega)) (fun u => absurd u (by decide)), by rw [g2 _ (by omega) (by omega)]; exact b2, i3 _ _ _ t3 (fun k u v => g1 k (by omega) (by omega)) (fun k u v => g2 k (by omega) (by omega)) (fun u => absurd u (by decide)), by rw [g2 _ (by omega) (by omega)]; exact b3⟩
  · intro i m j h1 h2 h3 h4 o1 o2 i1 i2 x n e ht g1 g2 g3
    rw [Td_bin h1 h2 h3 (by omega)] at ht ⊢
    obtain ⟨a, ⟨s1, s2, s3⟩, t1, b1, t2, b2⟩ := ht
    have l1 := t1.lt (Or.inl ⟨rfl, o1⟩)
    have l2 := t2.lt (Or.inl ⟨rfl, o2⟩)
    obtain ⟨k1, k2, -, k4⟩ := g1 n (Nat.le_refl _) (by omega)
    exact ⟨a, ⟨by rw [k1]; exact s1, by rw [k2]; exact s2, by rw [k4]; exact s3⟩, i1 _ _ _ t1 (fun k u v => g1 k (by omega) (by omega)) (fun k u v => g2 k (by omega) (by omega)) (fun u => absurd u (by decide)), by rw [g2 _ (by omega) (by omega)]; exact b1, i2 _ _ _ t2 (fun k u v => g1 k (by omega) (by omega)) (fun k u v => g2 k (by omega) (by omega)) (fun u => absurd u (by decide)), by rw [g2 _ (by omega) (by omega)]; exact b2⟩
  · intro i j h1 h2 h3 _ _ i1 x n e ht g1 g2 g3
    rw [Td_par h1 h2 h3] at ht ⊢
    exact i1 _ _ _ ht g1 g2 (fun u => absurd u (by decide))
  · intro i j h1 h2 h3 o1 i1 x n e ht g1 g2 g3
    rw [Td_pre h1 h2 h3] at ht ⊢
    obtain ⟨⟨s1, s2, s3⟩, t1, b1⟩ := ht
    have l1 := t1.lt (Or.inl ⟨rfl, o1⟩)
    obtain ⟨k1, k2, -, k4⟩ := g1 n (Nat.le_refl _) (by omega)
    exact ⟨⟨by rw [k1]; exact s1, by rw [k2]; exact s2, by rw [k4]; exact s3⟩, i1 _ _ _ t1 (fun k u v => g1 k (by omega) (by omega)) (fun k u v => g2 k (by omega) (by omega)) (fun u => absurd u (by decide)), by rw [g2 _ (by omega) (by omega)]; exact b1⟩
  · intro i h1 h3 x n e ht g1 g2 g3
    rw [Td_leaf h1 (by omega) h3] at ht ⊢
    obtain ⟨rfl, s1, s2, s3, s4⟩ := ht
    obtain ⟨k1, k2, k3, k4⟩ := g1 n (Nat.le_refl _) (by omega)
    exact ⟨rfl, by rw [k1]; exact s1, by rw [k2]; exact s2, by rw [k4]; exact s3, k3 i s1 s4⟩
  · intro i j h1 h2 h3 _ o1 i1 x n e ht g1 g2 g3
    rw [Td_lst h1 h2 h3] at ht ⊢
    obtain ⟨⟨s1, s2, s3⟩, t1⟩ := ht
    have l1 := t1.lt (Or.inr ⟨rfl, o1⟩)
    obtain ⟨k1, k2, -, k4⟩ := g1 n (Nat.le_refl _) (by omega)
    exact ⟨⟨by rw [k1]; exact s1, by rw [k2]; exact s2, by rw [k4]; exact s3⟩, i1 _ _ _ t1 (fun k u v => g1 k (by omega) (by omega)) (fun k u v => g2 k (by omega) (by omega)) (fun _ => g2 _ (by omega) (by omega))⟩
  · intro i j h1 h2 _ i1 x n e ht g1 g2 g3
    rw [Td_l1 h1 h2] at ht ⊢
    exact ⟨i1 _ _ _ ht.1 g1 g2 (fun u => absurd u (by decide)), by rw [g3 rfl]; exact ht.2⟩
  · intro i m j h1 h2 h3 h4 h5 o1 o2 i1 i2 x n e ht g1 g2 g3
    rw [Td_ln h1 h4 h2] at ht ⊢
    obtain ⟨k, t1, t2, b1⟩ := ht
    have l1 := t1.lt (Or.inr ⟨rfl, o1⟩)
    have l2 := t2.lt (Or.inl ⟨rfl, o2⟩)
    exact ⟨k, i1 _ _ _ t1 (fun k u v => g1 k (by omega) (by omega)) (fun k u v => g2 k (by omega) (by omega)) (fun _ => g3 rfl), i2 _ _ _ t2 (fun k u v => g1 k (by omega) (by omega)) (fun k u v => g2 k (by omega) (by omega)) (fun u => absurd u (by decide)), by rw [g2 _ (by omega) (by omega)]; exact b1⟩
theorem Td.mp {c : Nat} (h : Td w pl nv S A V F B c x i j n e) (he : Eoc w c i j) (g1 : ∀ k, n ≤ k → k < e → S' k = S k ∧ A' k = A k ∧ (∀ t, S k = w t → V k = nv t → V' k = nv' t) ∧ F' k = F k) (g2 : ∀ k, n < k → k < e → B' k = B k) (g3 : c = 1 → B' n = B n) : Td w pl nv' S' A' V' F' B' c x i j n e := Td_mp _ c i j (Nat.le_refl _) he x n e h g1 g2 g3
end TMP
section RUX9
variable {G : mG} {d a N g T K i j : Nat} {M M2 M3 : mM} {r co tr : Int} {E rv : Nat → Int}
/-- words, places, numbers and names stay while a tree is made -/
theorem tr_same (hg : g = a + 13 ∨ g = a + 49) (w : Wd M a) (m : Mv (trP a g) (fun _ => False) M a M2) : wk M2 a = wk M a ∧ nt M2 (a + 7) = nt M (a + 7) ∧ (∀ k, nvq M2 a k = nvq M a k) ∧ (∀ y r, fdx M2 a K y r → fdx M a K y r) ∧ (∀ k, nt M2 (a + 87) k = nt M (a + 87) k) ∧ (∀ k, nt M2 (a + 89) k = nt M (a + 89) k) := by
  have no := tL_no hg w
  have r := m.rfl_a w (fun q hq => trP_in hg hq)
  have e5 : wk M2 a = wk M a := funext (fun k => (m.lst n5 (fun q => q.elim no.1 (by omega))).2.1 k)
  have e7 : ∀ k, nt M2 (a + 7) k = nt M (a + 7) k := fun k => (m.lst n7 (fun q => q.elim no.2.1 (by omega))).2.1 k
  have e9 : ∀ k, nt M2 (a + 9) k = nt M (a + 9) k := fun k => (m.lst n9 (fun q => q.elim no.2.2.1 (by omega))).2.1 k
  have et : ∀ k, nt M2 (mR M2 a 2) k = nt M (mR M a 2) k := fun k => by
    rw [r]
    refine (m.lst w.tape.2.1 (fun q => q.elim no.2.2.2.1 (fun q => ?_))).2.1 k
    rcases w.1.2.1 with y | y <;> rw [y.2] at q <;> omega
  have e85 : ∀ k, nt M2 (a + 85) k = nt M (a + 85) k := fun k => (m.lst n85 (by omega)).2.1 k
  refine ⟨e5, funext e7, fun k => ?_, fun y r k => ?_, fun k => (m.lst n87 (by omega)).2.1 k, fun k => (m.lst n89 (by omega)).2.1 k⟩
  · unfold nvq
    rw [e5, e7, e9, show nt M2 (mR M2 a 2) = nt M (mR M a 2) from funext et]
  · have sm : ∀ x y, smx M2 a x y = smx M a x y := fun x y => by
      unfold smx
      simp only [e7, e9, et]
    unfold fdx at k ⊢
    simp only [sm, e85] at k
    exact k
/-- how leaves stand when names are resolved -/
def nrq (M : mM) (a : Nat) (rv : Nat → Int) (k : Nat) : Int := if wk M a k = 1 then rv k else nvq M a k
/-- the fault of a rule that must be a truth (tr = 1) or a number -/
noncomputable def rfq (M : mM) (a : Nat) (E : Nat → Int) (tr : Int) (i j : Nat) : Int × Int := fst9 (fl (wk M a) E (nt M (a + 7)) 0 i j) (kft (kdq (wk M a) E 0 i j = tr) (nt M (a + 7) i))
/-- the tree of a rule that has been looked at -/
abbrev Tmr (M M3 : mM) (a g : Nat) (rv : Nat → Int) (i j n e : Nat) : Prop := Td (wk M a) (nt M (a + 7)) (nrq M a rv) (so M3 g) (pm M3 g) (va M3 g) (fp M3 g) (np M3 g) 0 0 i j n e
/-- a tree has been made, then looked at -/
theorem trlk {T' : Nat} (hU : URq M a g N K co E rv) (hg : g = a + 13 ∨ g = a + 49) (w : Wd M a) (h2 : Lc M2 a g N T' K) (m : Mv (trP a g) (fun _ => False) M a M2) (etn : tn M2 g = tn M g) : URq M2 a g N K co E rv := by
  obtain ⟨k1, k2, k3, k4, k5, k6⟩ := tr_same (K := K) hg w m
  intro y r hy hw hf
  rw [k1] at hw
  have := hU y r hy hw (k4 y r hf)
  rw [k5, k6, etn]
  exact this
theorem tm_rs {T' : Nat} (hg : g = a + 13 ∨ g = a + 49) (w : Wd M a) (m : Mv (trP a g) (fun _ => False) M a M2) (w2 : Wd M2 a) (h3 : LO M2 a g N T' K M3) (eo : Eo (wk M a) 6 i j) (tm : Tm M M2 a g 0 0 i j T T') (hv : ∀ k, T ≤ k → k < T' → va M3 g k = rsw M2 g rv k) : Tmr M M3 a g rv i j T T' := by
  refine tm.mp (Or.inl ⟨rfl, eo⟩) (fun k k1 k2 => ⟨(h3.2.2.2.1 k).1, h3.pm w2 k, fun t s1 s2 => ?_, (h3.2.2.2.1 k).2.1⟩) (fun k _ _ => (h3.2.2.2.1 k).2.2) (fun u => absurd u (by decide))
  rw [hv k k1 k2]
  unfold rsw nrq
  by_cases c : so M2 g k = 1
  · have ct : wk M a t = 1 := by rw [← s1]; exact c
    rw [if_pos c, if_pos ct, s2]
    unfold nvq
    rw [if_pos ct, Int.toNat_natCast]
  · have ct : ¬ wk M a t = 1 := by rw [← s1]; exact c
    rw [if_neg c, if_neg ct, s2]
/-- a rule of a wanted type, exactly -/
def rlX (co : Int) (M : mM) (a g N T K i j : Nat) (E rv : Nat → Int) (tr r : Int) (M3 : mM) : Prop := r = T ∧ ∃ T', T < T' ∧ T' ≤ T + (j - i) ∧ rlR co M a g N T K T' tr M3 ∧ (mI M a 16 ≠ 0 ∨ (mI M3 a 16 ≠ 0 ∧ fpw M3 a (rfq M a E tr i j)) ∨ (mI M3 a 16 = 0 ∧ (rfq M a E tr i j).1 = 0 ∧ Tmr M M3 a g rv i j T T' ∧ ∀ n, n < T → pm M3 g n = pm M g n))
theorem tm_self {n e : Nat} (k1 : wk M2 a = wk M a) (k2 : nt M2 (a + 7) = nt M (a + 7)) (k3 : ∀ k, nvq M2 a k = nvq M a k) (h : Tm M M2 a g 0 0 i j n e) : Tm M2 M2 a g 0 0 i j n e := by
  unfold Tm
  rw [k1, k2, show nvq M2 a = nvq M a from funext k3]
  exact h
theorem x_MM_rule1 (hU : URq M a g N K co E rv) (hco : i32 co) (htr : tr = 0 ∨ tr = 1) (h : Lc M a g N T K) (hT : T + (j - i) ≤ 30000) (he : Eo (wk M a) 6 i j) (hj : j < N) : Ci G y_MM_rule1 (d + 7) [vr a, vi i, vi j, vi tr, vi co] M (rlX co M a g N T K i j E rv tr) := by
  obtain ⟨hO, hx, -, hd, h10, hg, -, -⟩ := id h
  have w := hx.1.1
  have hN := hx.1.2.2
  have hij := he.pr.1
  refine k_MM_rule1 hO (i32s (by omega) (by omega)) (i32s (by omega) (by omega)) (i32s (by omega) (by omega)) hco ⟨w.1.1, (x_MM_tree (d := d) hO hx hg h10 hd he hj (by omega)).mono (fun r M2 t => ?_)⟩
  obtain ⟨tt1, tt2, T9, tt3, tt4, tt5, tt6, tt7, tt8, tt9⟩ := t
  obtain ⟨er, T', t1, t2, L2, t3, e2, m2, s2⟩ := tr_lc h hT ⟨tt1, tt2, T9, tt3, tt4, tt5, tt6, tt7, tt9⟩
  have eT : T9 = T' := by
    have q1 := tt3 (g + 1) (by first | exact tLk1 g | exact gLk1 g | omega)
    have q2 := L2.2.2.2.1 (g + 1) (by first | exact tLk1 g | exact gLk1 g | omega)
    omega
  subst eT
  obtain ⟨k1, k2, k3, k4, k5, k6⟩ := tr_same (K := K) hg w tt1
  subst er
  have w2 := L2.2.1.1.1
  refine ⟨i32s (by omega) (by omega), L2.1, w2.1.1, (x_MM_look (d := d) (trlk hU hg w L2 tt1 e2.2.2.2) hco (nm := nmw (wk M a) N) (fun v hv => ⟨⟨hv.1, hv.2.1⟩, by rw [k1]; exact hv.2.2⟩) (by rw [k1]; exact he) (tm_self k1 k2 k3 tt8.1) L2 t3 (Nat.le_refl _)).mono (fun x M3 q0 => ?_)⟩
  obtain ⟨q, qx⟩ := q0
  have R := tl_rl h L2 e2 m2 s2 q
  rw [k1, k2, show mI M2 a = mI M a from e2.1] at qx
  obtain ⟨R1, R2, R3, R4, R5, R6⟩ := id R
  have w3 := R2.2.1.1.1
  refine ⟨i32s (by omega) (by omega), R2.1, w3.1.1, fun z => ⟨rfl, T9, t1, t2, ⟨R1, R2, R3, R4, htr, ?_⟩, ?_⟩, fun z => (s_MM_place0 (d := d + 5) R2.1 R2.2.1 (by omega)).mono (fun y M4 h4 => ?_)⟩
  · by_cases z1 : mI M3 a 16 = 0
    · rcases z with z | z
      · exact absurd z1 z
      · rw [← z]; exact R6
    · exact Or.inl z1
  · rcases qx with qx | ⟨qx, qf⟩ | ⟨qx, qf, qk, qv⟩
    · exact Or.inl qx
    · refine Or.inr (Or.inl ⟨qx, ?_⟩)
      unfold rfq
      rw [fst9_l (by rw [← qf.1]; exact qx)]
      exact qf
    · refine Or.inr (Or.inr ⟨qx, ?_, tm_rs hg w tt1 w2 q.1 he tt8.1 qv, fun n hn => (q.1.pm w2 n).trans (tt8.2 n hn)⟩)
      unfold rfq
      rw [fst9_r qf, kft_1, ← qk]
      rcases z with z | z
      · exact absurd qx z
      · exact z
  · obtain ⟨e4, hy⟩ := h4
    subst e4
    have hy32 : i32 y := by rw [hy]; exact (R2.1 _ _).1
    refine ⟨hy32, R2.1, w3.1.1, (s_MM_stop (i32s (by omega) (by omega)) hy32 R2.1 w3).mono (fun M5 h5 => ?_)⟩
    obtain ⟨m5, f1, f2, f3⟩ := h5
    have s7 := m5.lst (tL_in (a := a) (q := g + 7) hg (tLk7 g)) (fun z => z)
    obtain ⟨L5, -, g5, k5⟩ := R2.step m5 (fun q hq => hq.elim) (fun x hx => hx) s7.1
    refine ⟨m5.1, rfl, T9, t1, t2, ⟨R1.trans (k5.mono (fun x hx => Or.inr hx) (fun x hx => hx) (fun x hx => w3.lt (rlP_in hg hx))), L5, fun i i1 i2 => (f3 i i1 i2).trans (R3 i i1 i2), g5.trans R4, htr, Or.inl (by rw [f1]; decide)⟩, ?_⟩
    rcases qx with qx | ⟨qx, -⟩ | ⟨qx, qf, qk, qv⟩
    · exact Or.inl qx
    · omega
    · refine Or.inr (Or.inl ⟨by rw [f1]; decide, ?_⟩)
      have z9 : ¬ kdq (wk M a) E 0 i j = tr := by rw [← qk]; omega
      unfold rfq kft
      rw [fst9_r qf, if_neg z9]
      have p7 := (q.1.txt w2).1 i
      exact ⟨f1, by rw [f2, hy, p7, k2]⟩
end RUX9
end
section
/-! The reference's names and the pure ones. -/
section RNM
variable {a g N K : Nat} {M : mM} {co : Int}
theorem smx.symm {x y : Nat} (h : smx M a x y) : smx M a y x := ⟨h.1.symm, fun i hi => (h.2 i (by have := h.1; omega)).symm⟩
theorem smx.trans {x y z : Nat} (h : smx M a x y) (k : smx M a y z) : smx M a x z := ⟨by rw [k.1, h.1], fun i hi => (h.2 i hi).trans (k.2 i (by have := h.1; omega))⟩
theorem fdx_ex (y : Nat) : ∀ K, ∃ r, fdx M a K y r
  | 0 => ⟨-1, Or.inl ⟨rfl, fun k hk => absurd hk (by omega)⟩⟩
  | K + 1 => by
    by_cases c : smx M a (nt M (a + 85) K).toNat y
    · exact ⟨K, Or.inr ⟨K, rfl, by omega, c, fun k h1 h2 => absurd h1 (by omega)⟩⟩
    · obtain ⟨r, h | ⟨q, h1, h2, h3, h4⟩⟩ := fdx_ex y K
      · refine ⟨r, Or.inl ⟨h.1, fun k hk => ?_⟩⟩
        by_cases e : k = K
        · rw [e]; exact c
        · exact h.2 k (by omega)
      · refine ⟨r, Or.inr ⟨q, h1, by omega, h3, fun k k1 k2 => ?_⟩⟩
        by_cases e : k = K
        · rw [e]; exact c
        · exact h4 k k1 (by omega)
theorem fdx_un {y : Nat} {r r' : Int} (h : fdx M a K y r) (h' : fdx M a K y r') : r = r' := by
  rcases h with ⟨h1, h2⟩ | ⟨q, h1, h2, h3, h4⟩ <;> rcases h' with ⟨k1, k2⟩ | ⟨q', k1, k2, k3, k4⟩
  · rw [h1, k1]
  · exact absurd k3 (h2 q' k2)
  · exact absurd h3 (k2 q h2)
  · have : q = q' := by
      rcases Nat.lt_trichotomy q q' with c | c | c
      · exact absurd k3 (h4 q' c k2)
      · exact c
      · exact absurd h3 (k4 q c h2)
    rw [h1, k1, this]
/-- the place of the word y among the names -/
noncomputable def fdn (M : mM) (a K y : Nat) : Int := Classical.choose (fdx_ex (M := M) (a := a) y K)
theorem fdn_x (y : Nat) : fdx M a K y (fdn M a K y) := Classical.choose_spec (fdx_ex y K)
theorem fdn_un {y : Nat} {r : Int} (h : fdx M a K y r) : r = fdn M a K y := fdx_un h (fdn_x y)
/-- how a name is resolved, and its kind -/
noncomputable def rvn (M : mM) (a K y : Nat) : Int := if nt M (a + 87) (fdn M a K y).toNat = 3 then 100 + nt M (a + 89) (fdn M a K y).toNat else nt M (a + 89) (fdn M a K y).toNat
noncomputable def Ern (M : mM) (a g K : Nat) (co : Int) (y : Nat) : Int := haveI := Classical.propDecidable (fdn M a K y = -1 ∨ (co ≠ 0 ∧ nt M (a + 87) (fdn M a K y).toNat ≠ 1)); if fdn M a K y = -1 ∨ (co ≠ 0 ∧ nt M (a + 87) (fdn M a K y).toNat ≠ 1) then -1 else tn M g (rvn M a K y)
theorem ur_n : URq M a g N K co (Ern M a g K co) (rvn M a K) := by
  intro y r _ _ h
  rw [fdn_un h]
  refine ⟨fun z => ?_, fun z => ?_⟩
  · unfold Ern; rw [if_pos z]
  · unfold Ern; rw [if_neg z]; exact ⟨rfl, rfl⟩
/-- the names of the reference are these -/
def RSq (M : mM) (a g K : Nat) (nms : List nm9) : Prop := nms.length = K ∧ (∀ q, q < K → ∃ e : nm9, nms[q]? = some e ∧ nt M (a + 85) q = e.1 ∧ nt M (a + 87) q = e.2.1 ∧ (1 ≤ e.2.1 ∧ e.2.1 ≤ 3) ∧ e.2.2.1 = tn M g (if nt M (a + 87) q = 3 then 100 + nt M (a + 89) q else nt M (a + 89) q) ∧ (e.2.1 = 1 → e.2.2.2 = vr9 e.2.2.1 (mL M (g + 16) (nt M (a + 89) q).toNat) (mL M (g + 17) (nt M (a + 89) q).toNat)) ∧ nt M (a + 89) q = (if e.2.1 = 3 then ((vcn (nms.take q) : Nat) : Int) else ((rcn (nms.take q) : Nat) : Int))) ∧ (∀ p q, p < q → q < K → ¬ smx M a (nt M (a + 85) p).toNat (nt M (a + 85) q).toNat) ∧ ∀ p q, p < q → q < K → nt M (a + 87) p = 3 → nt M (a + 87) q = 3 → nt M (a + 89) p ≠ nt M (a + 89) q
theorem RSq.fnd {nms : List nm9} (h : RSq M a g K nms) (y : Nat) : (fdn M a K y = -1 ∧ fnd9 (smx M a) nms y = none) ∨ ∃ (q : Nat) (e : nm9), fdn M a K y = q ∧ q < K ∧ nms[q]? = some e ∧ fnd9 (smx M a) nms y = some e := by
  obtain ⟨hl, hn, hu, -⟩ := h
  have at9 : ∀ {q : Nat} {e : nm9}, nms[q]? = some e → q < K := fun {q e} z => by
    rw [← hl]
    exact (List.getElem?_eq_some_iff.mp z).1
  have same : ∀ {q : Nat} {e : nm9}, nms[q]? = some e → (nt M (a + 85) q).toNat = e.1 := fun {q e} z => by
    obtain ⟨e', z1, z2, -⟩ := hn q (at9 z)
    have : e' = e := Option.some.inj (z1.symm.trans z)
    subst this
    rw [z2, Int.toNat_natCast]
  rcases fdn_x (M := M) (a := a) (K := K) y with ⟨h1, h2⟩ | ⟨q, h1, h2, h3, -⟩
  · refine Or.inl ⟨h1, ?_⟩
    unfold fnd9
    rw [List.find?_eq_none]
    intro e he
    obtain ⟨q, z⟩ := List.mem_iff_getElem?.mp he
    simp only [decide_eq_true_eq]
    rw [← same z]
    exact h2 q (at9 z)
  · obtain ⟨e, z, -⟩ := hn q h2
    refine Or.inr ⟨q, e, h1, h2, z, ?_⟩
    unfold fnd9
    cases c : nms.find? (fun e => @decide (smx M a e.1 y) (Classical.propDecidable _)) with
    | none =>
      rw [List.find?_eq_none] at c
      have := c e (List.mem_of_getElem? z)
      simp only [decide_eq_true_eq] at this
      rw [← same z] at this
      exact absurd h3 this
    | some e' =>
      have m1 := List.find?_some c
      simp only [decide_eq_true_eq] at m1
      obtain ⟨q', z'⟩ := List.mem_iff_getElem?.mp (List.mem_of_find?_eq_some c)
      rw [← same z'] at m1
      have qq : q' = q := by
        rcases Nat.lt_trichotomy q' q with d | d | d
        · exact absurd (m1.trans h3.symm) (hu q' q d h2)
        · exact d
        · exact absurd (h3.trans m1.symm) (hu q q' d (at9 z'))
      subst qq
      rw [z] at z'
      exact z'.symm
theorem RSq.en {nms : List nm9} (h : RSq M a g K nms) (hc : co = 0 ∨ co = 1) : Ern M a g K co = E9 (smx M a) nms co := by
  funext y
  unfold Ern E9
  rcases h.fnd y with ⟨h1, h2⟩ | ⟨q, e, h1, h2, h3, h4⟩
  · rw [if_pos (Or.inl h1), h2]
  · rw [h4, h1, Int.toNat_natCast]
    obtain ⟨e', z1, z2, z3, z4, z5, -⟩ := h.2.1 q h2
    have : e' = e := Option.some.inj (z1.symm.trans h3)
    subst this
    show _ = if co = 1 ∧ e'.2.1 ≠ 1 then (-1 : Int) else e'.2.2.1
    by_cases c : co = 1 ∧ e'.2.1 ≠ 1
    · rw [if_pos c, if_pos (Or.inr ⟨by omega, by rw [z3]; omega⟩)]
    · rw [if_neg c, if_neg (by rw [z3]; omega), z5]
      unfold rvn
      rw [h1, Int.toNat_natCast]
end RNM
end
section
/-! The reference's draft and the pure state. -/
section RST
variable {a g N T K R W C Z : Nat} {M M' M2 M3 : mM} {nms : List nm9}
/-- the same text -/
def SXq (M : mM) (a : Nat) (M' : mM) : Prop := wk M' a = wk M a ∧ nt M' (a + 7) = nt M (a + 7) ∧ nt M' (a + 9) = nt M (a + 9) ∧ nt M' (mR M' a 2) = nt M (mR M a 2)
theorem SXq.refl : SXq M a M := ⟨rfl, rfl, rfl, rfl⟩
theorem SXq.trans (h : SXq M a M2) (k : SXq M2 a M3) : SXq M a M3 := ⟨k.1.trans h.1, k.2.1.trans h.2.1, k.2.2.1.trans h.2.2.1, k.2.2.2.trans h.2.2.2⟩
theorem SXq.sm (h : SXq M a M') : smx M' a = smx M a := by
  funext x y
  unfold smx
  rw [h.2.1, h.2.2.1, h.2.2.2]
theorem SXq.nv (h : SXq M a M') : nvq M' a = nvq M a := by
  funext k
  unfold nvq
  rw [h.1, h.2.1, h.2.2.1, h.2.2.2]
theorem iF.sx (h : iF M a g M') (w : Wd M a) (hg : g = a + 13 ∨ g = a + 49) : SXq M a M' := by
  have no : ∀ q, q = a + 1 ∨ q = a + 3 ∨ q = a + 5 ∨ q = a + 7 ∨ q = a + 9 → ¬ itP a g q := fun q hq z => by
    have := z.2
    omega
  have r := h.1.rfl_a w (fun q hq => hq.1)
  refine ⟨funext (fun k => (h.1.lst n5 (no _ (by omega))).2.1 k), funext (fun k => (h.1.lst n7 (no _ (by omega))).2.1 k), funext (fun k => (h.1.lst n9 (no _ (by omega))).2.1 k), ?_⟩
  rw [r]
  refine funext (fun k => (h.1.lst w.tape.2.1 (no _ ?_)).2.1 k)
  rcases w.1.2.1 with y | y <;> rw [y.2] <;> omega
/-- the values of numbers, in a text -/
def nuq (M : mM) (a k : Nat) : Int := numq (nt M (mR M a 2)) (nt M (a + 7) k).toNat (nt M (a + 9) k - nt M (a + 7) k).toNat
theorem SXq.nu (h : SXq M a M') : nuq M' a = nuq M a := by
  funext k
  unfold nuq
  rw [h.2.1, h.2.2.1, h.2.2.2]
/-- names stay what they are -/
theorem RSq.ge (h : RSq M a g K nms) (hn : Nm M a g N K) (g6 : mI M g 6 = R) (g12 : mI M g 12 = W) (hR : R ≤ 60) (k : Ge M g R W C Z T M') (sx : SXq M a M') (s85 : ∀ q, q < K → nt M' (a + 85) q = nt M (a + 85) q ∧ nt M' (a + 87) q = nt M (a + 87) q ∧ nt M' (a + 89) q = nt M (a + 89) q) : RSq M' a g K nms := by
  obtain ⟨h1, h2, h3, h4⟩ := h
  refine ⟨h1, fun q hq => ?_, fun p q hpq hq => ?_, fun p q hpq hq => by rw [(s85 p (by omega)).2.1, (s85 q hq).2.1, (s85 p (by omega)).2.2, (s85 q hq).2.2]; exact h4 p q hpq hq⟩
  · obtain ⟨e, e1, e2, e3, e4, e5, e6, e7⟩ := h2 q hq
    obtain ⟨s1, s2, s3⟩ := s85 q hq
    have nq := (hn.2.2.2.2 q hq).2.1
    rw [g6, g12] at nq
    refine ⟨e, e1, by rw [s1]; exact e2, by rw [s2]; exact e3, e4, ?_, fun z => ?_, by rw [s3]; exact e7⟩
    · rw [e5, s2, s3]
      by_cases c : nt M (a + 87) q = 3
      · rw [if_pos c]
        exact (k.1.tv (by omega) (by omega)).symm
      · rw [if_neg c]
        have := k.1.tr (r := (nt M (a + 89) q).toNat) hR (by omega)
        rw [show (((nt M (a + 89) q).toNat : Nat) : Int) = nt M (a + 89) q by omega] at this
        exact this.symm
    · rw [e6 z, s3, (k.2.1 _ (by omega)).2.1, (k.2.1 _ (by omega)).2.2]
  · rw [sx.sm, (s85 p (by omega)).1, (s85 q hq).1]
    exact h3 p q hpq hq
/-- one name more -/
theorem RSq.kn {u : Nat} {v x : Int} {e : nm9} (h : RSq M a g K nms) (hs : ∀ q, q < K → nt M' (a + 85) q = nt M (a + 85) q ∧ nt M' (a + 87) q = nt M (a + 87) q ∧ nt M' (a + 89) q = nt M (a + 89) q) (ht : tn M' g = tn M g) (hl : mL M' (g + 16) = mL M (g + 16) ∧ mL M' (g + 17) = mL M (g + 17)) (sx : SXq M a M') (e1 : nt M' (a + 85) K = (u : Int)) (e2 : nt M' (a + 87) K = v) (e3 : nt M' (a + 89) K = x) (f1 : e.1 = u) (f2 : (e.2.1 : Int) = v) (f3 : 1 ≤ e.2.1 ∧ e.2.1 ≤ 3) (f4 : e.2.2.1 = tn M g (if v = 3 then 100 + x else x)) (f5 : e.2.1 = 1 → e.2.2.2 = vr9 e.2.2.1 (mL M (g + 16) x.toNat) (mL M (g + 17) x.toNat)) (hnew : fdn M a K u = -1) (f6 : v = 3 → ∀ p, p < K → nt M (a + 87) p = 3 → nt M (a + 89) p ≠ x) (f7 : x = if e.2.1 = 3 then ((vcn nms : Nat) : Int) else ((rcn nms : Nat) : Int)) : RSq M' a g (K + 1) (nms ++ [e]) := by
  obtain ⟨h1, h2, h3, h4⟩ := h
  refine ⟨by rw [List.length_append, h1]; rfl, fun q hq => ?_, fun p q hpq hq => ?_, fun p q hpq hq z1 z2 => ?_⟩
  · by_cases c : q = K
    · subst c
      refine ⟨e, by rw [List.getElem?_append_right (by omega), h1, Nat.sub_self]; rfl, by rw [e1, f1], by rw [e2, f2], f3, ?_, fun z => ?_, by rw [e3, f7, List.take_append_of_le_length (by omega), List.take_of_length_le (by omega)]⟩
      · rw [f4, e2, e3, ht]
      · rw [f5 z, e3, hl.1, hl.2]
    · obtain ⟨e', g1, g2, g3, g4, g5, g6, g7⟩ := h2 q (by omega)
      obtain ⟨s1, s2, s3⟩ := hs q (by omega)
      exact ⟨e', by rw [List.getElem?_append_left (by omega)]; exact g1, by rw [s1]; exact g2, by rw [s2]; exact g3, g4, by rw [g5, s2, s3, ht], fun z => by rw [g6 z, s3, hl.1, hl.2], by rw [s3, List.take_append_of_le_length (by omega)]; exact g7⟩
  · rw [sx.sm, (hs p (by omega)).1]
    by_cases c : q = K
    · subst c
      rw [e1, Int.toNat_natCast]
      rcases fdn_x (M := M) (a := a) (K := q) u with ⟨-, k2⟩ | ⟨q', k1, -⟩
      · exact k2 p hpq
      · omega
    · rw [(hs q (by omega)).1]
      exact h3 p q hpq (by omega)
  · rw [(hs p (by omega)).2.1] at z1
    rw [(hs p (by omega)).2.2]
    by_cases c : q = K
    · subst c
      rw [e2] at z2
      rw [e3]
      exact f6 z2 p hpq z1
    · rw [(hs q (by omega)).2.1] at z2
      rw [(hs q (by omega)).2.2]
      exact h4 p q hpq (by omega) z1 z2
/-- the values of words -/
theorem RSq.cv (h : RSq M a g K nms) {k : Nat} (hk : wk M a k = 1 → Ern M a g K 1 k ≠ -1) : cvq M a g (nrq M a (rvn M a K)) k = cv9 (wk M a) (nuq M a) (smx M a) nms k := by
  unfold cvq cv9 nrq
  by_cases c : wk M a k = 1
  · rw [if_pos c, if_pos c, if_pos c]
    have hk := hk c
    unfold Ern at hk
    rcases h.fnd k with ⟨h1, h2⟩ | ⟨q, e, h1, h2, h3, h4⟩
    · rw [if_pos (Or.inl h1)] at hk
      exact absurd rfl hk
    · rw [h4]
      obtain ⟨e', z1, z2, z3, z4, z5, z6, -⟩ := h.2.1 q h2
      have : e' = e := Option.some.inj (z1.symm.trans h3)
      subst this
      have s1 : e'.2.1 = 1 := by
        by_cases c1 : nt M (a + 87) q = 1
        · rw [z3] at c1; omega
        · rw [if_pos (Or.inr ⟨by decide, by rw [h1, Int.toNat_natCast]; exact c1⟩)] at hk
          exact absurd rfl hk
      have s2 : nt M (a + 87) q ≠ 3 := by rw [z3, s1]; decide
      show _ = e'.2.2.2
      unfold rvn
      rw [z6 s1, h1, Int.toNat_natCast, if_neg s2, z5, if_neg s2]
  · rw [if_neg c, if_neg c]
    by_cases c2 : wk M a k = 2
    · rw [if_pos c2, if_pos c2, if_neg c]
      unfold nvq nuq
      rw [if_neg c, if_pos c2]
    · rw [if_neg c2, if_neg c2, if_neg c]
/-- how numbers and names stand in a tree -/
theorem RSq.nvo (h : RSq M a g K nms) : Nvq (wk M a) (nuq M a) (smx M a) nms (nrq M a (rvn M a K)) := by
  refine ⟨fun k hk => ?_, fun k hk l1 e l2 he hs hno => ?_⟩
  · unfold nrq nvq nuq
    rw [if_neg (by omega), if_neg (by omega), if_pos hk]
  · have hl : l1.length < K := by
      rw [← h.1, he, List.length_append, List.length_cons]
      omega
    have ge : nms[l1.length]? = some e := by rw [he, List.getElem?_append_right (Nat.le_refl _), Nat.sub_self]; rfl
    have tk : nms.take l1.length = l1 := by rw [he, List.take_left']; rfl
    obtain ⟨e0, z1, z2, z3, z4, z5, z6, z7⟩ := h.2.1 l1.length hl
    have e0e : e0 = e := Option.some.inj (z1.symm.trans ge)
    subst e0e
    have fq : fdn M a K k = (l1.length : Int) := by
      rcases fdn_x (M := M) (a := a) (K := K) k with ⟨f1, f2⟩ | ⟨q, f1, f2, f3, f4⟩
      · have := f2 l1.length hl
        rw [z2, Int.toNat_natCast] at this
        exact absurd hs this
      · rcases Nat.lt_trichotomy q l1.length with c | c | c
        · have := f4 l1.length c hl
          rw [z2, Int.toNat_natCast] at this
          exact absurd hs this
        · rw [f1, c]
        · have := h.2.2.1 l1.length q c f2
          rw [z2, Int.toNat_natCast] at this
          exact absurd (hs.trans f3.symm) this
    unfold nrq
    rw [if_pos hk]
    unfold rvn
    rw [fq, Int.toNat_natCast, z3, z7, tk]
    by_cases c : e0.2.1 = 3
    · rw [if_pos (by omega), if_pos c, if_pos c]
    · rw [if_neg (by omega), if_neg c, if_neg c]
end RST
end
section
/-! The reference's items, exactly: const and formula. -/
section RIX
variable {G : mG} {d a g R W C Z T N K : Nat} {M M' M2 M3 : mM} {E : Eg9} {tg : Int} {s s' : st9} {nms : List nm9}
/-- the text in memory, names, a game -/
noncomputable def txg (M : mM) (a N : Nat) (nms : List nm9) (gm : gm9) : gW9 := (wk M a, nt M (a + 7), nuq M a, smx M a, N, nms, gm)
theorem SXq.tx9 (h : SXq M a M') {nms : List nm9} {gm : gm9} : txg M' a N nms gm = txg M a N nms gm := by
  unfold txg
  rw [h.1, h.2.1, h.nu, h.sm]
/-- the draft is sound, and it is the pure state s and the pure game gm -/
def DfS (M : mM) (a g N k : Nat) (s : st9) (gm : gm9) : Prop := ∃ (T K R W C Z : Nat) (E : Eg9) (tg : Int), Df M a g N T K R W C Z E tg ∧ (T ≤ k ∧ Z ≤ k) ∧ RSq M a g K s.1 ∧ s.2.1 = (W, R, C, if tg = -1 then 0 else 1) ∧ E.2 = txg M a N s.1 gm
/-- an item has been read: s' tells the fault or the draft -/
def itX (M : mM) (a g N k : Nat) (s' : st9) (gm : gm9) (M' : mM) : Prop := iF M a g M' ∧ ((s'.2.2.1 ≠ 0 ∧ fpw M' a s'.2.2) ∨ (s'.2.2.1 = 0 ∧ mI M' a 16 = 0 ∧ DfS M' a g N k s' gm))
/-- a fault is told at a word -/
theorem x_st_it {gm : gm9} {c : Int} {k k' : Nat} (hc : c ≠ 0) (hc2 : i32 c) (h : Lc M a g N T K) (hk : k < N) (es : s'.2.2 = (c, nt M (a + 7) k)) : Ci G y_MM_place0 (d + 1) [vr a, vi k] M (fun x M2 => i32 x ∧ mOk M2 ∧ (mK M2 a = 14 ∧ Cv G y_MM_stop (d + 1) [vr a, vi c, vi x] M2 (fun M3 => mOk M3 ∧ (mOk M3 ∧ itX M a g N k' s' gm M3)))) := by
  have w := h.2.1.1.1
  refine (s_MM_place0 (d := d) h.1 h.2.1 hk).mono (fun y M4 h4 => ?_)
  obtain ⟨e4, hy⟩ := h4
  subst e4
  have hy32 : i32 y := by rw [hy]; exact (h.1 _ _).1
  refine ⟨hy32, h.1, w.1.1, (s_MM_stop hc2 hy32 h.1 w).mono (fun M5 h5 => ⟨h5.1.1, h5.1.1, (st_it (g := g) (N := N) (k := k') w hc h5).1, Or.inl ?_⟩)⟩
  rw [es]
  exact ⟨hc, h5.2.1, by rw [h5.2.2.1]; exact hy⟩
/-- names stay, nothing of theirs has changed -/
theorem RSq.eq (h : RSq M a g K nms) (hs : ∀ q, q < K → nt M' (a + 85) q = nt M (a + 85) q ∧ nt M' (a + 87) q = nt M (a + 87) q ∧ nt M' (a + 89) q = nt M (a + 89) q) (ht : tn M' g = tn M g) (hl : mL M' (g + 16) = mL M (g + 16) ∧ mL M' (g + 17) = mL M (g + 17)) (sx : SXq M a M') : RSq M' a g K nms := by
  obtain ⟨h1, h2, h3, h4⟩ := h
  refine ⟨h1, fun q hq => ?_, fun p q hpq hq => ?_, fun p q hpq hq => by rw [(hs p (by omega)).2.1, (hs q hq).2.1, (hs p (by omega)).2.2, (hs q hq).2.2]; exact h4 p q hpq hq⟩
  · obtain ⟨e', g1, g2, g3, g4, g5, g6, g7⟩ := h2 q hq
    obtain ⟨s1, s2, s3⟩ := hs q hq
    exact ⟨e', g1, by rw [s1]; exact g2, by rw [s2]; exact g3, g4, by rw [g5, s2, s3, ht], fun z => by rw [g6 z, s3, hl.1, hl.2], by rw [s3]; exact g7⟩
  · rw [sx.sm, (hs p (by omega)).1, (hs q hq).1]
    exact h3 p q hpq hq
/-- the lists of names are the same -/
def lst3 (M : mM) (a : Nat) (M' : mM) : Prop := sameN M M' (a + 85) ∧ sameN M M' (a + 87) ∧ sameN M M' (a + 89)
theorem lst3.trans (h : lst3 M a M2) (k : lst3 M2 a M3) : lst3 M a M3 := ⟨h.1.trans k.1, h.2.1.trans k.2.1, h.2.2.trans k.2.2⟩
theorem lst3.q (h : lst3 M a M') (K : Nat) : ∀ q, q < K → nt M' (a + 85) q = nt M (a + 85) q ∧ nt M' (a + 87) q = nt M (a + 87) q ∧ nt M' (a + 89) q = nt M (a + 89) q := fun q _ => ⟨h.1.2.1 q, h.2.1.2.1 q, h.2.2.2.1 q⟩
theorem lst3.of {P S : Nat → Prop} (m : Mv P S M a M') (h : ∀ i, i = 85 ∨ i = 87 ∨ i = 89 → ¬ P (a + i)) : lst3 M a M' := ⟨m.lst n85 (h 85 (by omega)), m.lst n87 (h 87 (by omega)), m.lst n89 (h 89 (by omega))⟩
theorem lst3.fd (h : lst3 M a M') (sx : SXq M a M') (y : Nat) : fdn M' a K y = fdn M a K y := by
  refine fdn_un ?_
  have k := fdn_x (M := M') (a := a) (K := K) y
  have e85 : ∀ k, nt M' (a + 85) k = nt M (a + 85) k := h.1.2.1
  unfold fdx at k ⊢
  simp only [sx.sm, e85] at k
  exact k
theorem lst3.rv (h : lst3 M a M') (sx : SXq M a M') : rvn M' a K = rvn M a K := by
  funext y
  unfold rvn
  rw [h.fd sx, h.2.1.2.1, h.2.2.2.1]
/-- a known name -/
theorem RSq.kw (h : RSq M a g K nms) {y : Nat} {r : Int} (hf : fdx M a K y r) : (r = -1 → fnd9 (smx M a) nms y = none) ∧ (r ≠ -1 → fnd9 (smx M a) nms y ≠ none) := by
  rw [fdn_un hf]
  rcases h.fnd y with ⟨h1, h2⟩ | ⟨q, e, h1, h2, h3, h4⟩
  · exact ⟨fun _ => h2, fun z => absurd h1 z⟩
  · refine ⟨fun z => by omega, fun _ => ?_⟩
    rw [h4]
    exact fun z => by cases z
theorem x_ri187 {nwe : nm9} {gm : gm9} {k T' : Nat} {v6 : Int} {E' : Eg9} {M9 : mM} (eE : E'.2 = txg M a N (s.1 ++ [nwe]) gm) (hRr : rcn s.1 = R) (h : Df M a g N T K R W C Z E tg) (hR : R < 60) (hk : k + 1 < N) (hT' : T' ≤ k + 20000) {e : Nat} (hTe : T' ≤ e) (hZe : Z ≤ e) (i6 : i32 v6) (L9 : Lc M9 a g N T' K) (I9 : iF M a g M9) (gI9 : mI M9 g = mI M g) (z30 : ln M9 (g + 30) = ln M (g + 30)) (z32 : ln M9 (g + 32) = ln M (g + 32)) (z34 : ln M9 (g + 34) = ln M (g + 34)) (h13 : mI M9 (g + 13) R = v6) (hD9 : mI M9 a 16 = 0 → Dg M9 g (R + 1) W C Z T' E' tg) (hwk : wk M a k = 3 ∨ wk M a k = 6) (hv6 : v6 = if wk M a k = 6 then 1 else 0) (hRS : RSq M9 a g K s.1) (h3 : lst3 M a M9) (hnew : fdn M a K (k + 1) = -1) (hst : s.2.1 = (W, R, C, if tg = -1 then 0 else 1)) (flt : mI M9 a 16 ≠ 0 → s'.2.2.1 ≠ 0 ∧ fpw M9 a s'.2.2) (good : mI M9 a 16 = 0 → s' = (s.1 ++ [nwe], (W, R + 1, C, if tg = -1 then 0 else 1), (0, 0)) ∧ nwe.1 = k + 1 ∧ nwe.2.1 = (if wk M a k = 3 then 1 else 2) ∧ nwe.2.2.1 = tn M9 g R ∧ (nwe.2.1 = 1 → nwe.2.2.2 = vr9 nwe.2.2.1 (mL M9 (g + 16) R) (mL M9 (g + 17) R))) : h_MM_ruleItem_187 G (d + 6) a k v6 R M9 (fun M' => mOk M' ∧ itX M a g N e s' gm M') := by
  obtain ⟨hL, ⟨g6, g12, g18, g17⟩, ⟨y30, y32, y34⟩, hK, hD⟩ := id h
  have hN := hL.2.1.1.2.2
  have hg := hL.2.2.2.2.2.1
  have hW := hD.1
  have w9 := L9.2.1.1.1
  have d9 : mR M9 a 10 = g := L9.2.2.2.2.1
  refine k_MM_ruleItem_187 L9.1 (i32s (by omega) (by omega)) i6 (i32s (by omega) (by omega)) ?_
  rw [d9]
  refine ⟨w9.1.1, (w9.gp hg).1, i32s (by omega) (by omega), fun M1 e1 v hv => ?_⟩
  have a0 := goff0 hg
  obtain ⟨m1, f1, l1⟩ := mv_cell (v := (R : Int) + 1) (i32s (by omega) (by omega)) L9.1 w9 (show a ≤ g by omega) ⟨a0.1, a0.2.1, a0.2.2.1⟩ e1
  have no : ∀ q : Nat, False → q ∈ nums a := fun _ z => z.elim
  have aI1 := (m1.fld w9 no (by omega)).1
  have g1 : ∀ i, mI M1 g i = if i = 6 then (R : Int) + 1 else mI M g i := fun i => by
    rw [f1]
    by_cases z : i = 6
    · rw [if_pos ⟨rfl, z⟩, if_pos z]
    · rw [if_neg (fun y => z y.2), if_neg z, gI9]
  have x6 : mI M1 g 6 = (R : Int) + 1 := by rw [g1, if_pos rfl]
  have x12 : mI M1 g 12 = W := by rw [g1, if_neg (by omega), g12]
  have L1 : Lc M1 a g N T' K := L9.mv m1 no (fun _ z => z.elim) (by rw [x6, gI9, g6]; omega) (by rw [x12, gI9, g12]; omega) ⟨by omega, by omega⟩ (fun r _ => by rw [f1, if_neg (fun z => by omega)])
  have I1 : iF M a g M1 := I9.trans (iF.mk w9 m1 (fun _ z => z.elim) (fun x z => Or.inr (Or.inl (by omega))) (fun i _ _ _ => by rw [aI1]))
  have w1 := m1.2.1
  have hK2 : K ≤ 72 := by omega
  have hv' : v = 1 ∨ v = 2 := by split at hv <;> omega
  refine (s_MM_know (d := d + 5) (u := (k : Int) + 1) (i32s (by omega) (by omega)) (i32s (by omega) (by omega)) (i32s (by omega) (by omega)) L1.1 w1 L1.2.2.1.1 L1.2.2.1.2.1 L1.2.2.1.2.2.1 (by omega)).mono (fun M2 t => ?_)
  obtain ⟨o2, m2, l2, p2, e2, s2, x2⟩ := t
  obtain ⟨L2, gI2, aI2⟩ := L1.kn (by omega) m2 l2 p2 e2 s2 x2 (by omega) (Or.inr ⟨hv', by omega, by omega⟩) (fun z => by
    rw [Int.toNat_natCast, f1, if_neg (fun y => by omega), h13]
    split at hv <;> omega)
  obtain ⟨G2, q30, q32, q34⟩ := ge_kn (R := R + 1) (W := W) (C := C) (Z := Z) (T := T') w1 hg m2
  have I2 : iF M a g M2 := I1.trans (iF.mk w1 m2 (fun q hq => knP_it hq) (fun _ z => z.elim) (fun i _ _ _ => by rw [aI2]))
  have no2 : ∀ q : Nat, ¬ False := fun _ z => z
  refine ⟨o2, o2, I2, ?_⟩
  have e16 : mI M2 a 16 = mI M9 a 16 := by rw [aI2, aI1]
  by_cases z16 : mI M2 a 16 = 0
  · have z9 : mI M9 a 16 = 0 := by rw [← e16]; exact z16
    obtain ⟨u1, u2, u3, u4, u5⟩ := good z9
    refine Or.inr ⟨by rw [u1], z16, T', K + 1, R + 1, W, C, Z, E', tg, ⟨L2, ⟨by rw [gI2, x6]; omega, by rw [gI2, x12], by rw [gI2, g1, if_neg (by omega), g18], by rw [gI2, g1, if_neg (by omega), g17]⟩, ⟨?_, ?_, ?_⟩, by omega, ?_⟩, ⟨hTe, hZe⟩, ?_, by rw [u1], ?_⟩
    · rw [q30, (m1.lst (n30 hg) (fun z => z)).1, z30, y30]
    · rw [q32, (m1.lst (n32 hg) (fun z => z)).1, z32, y32]
    · rw [q34, (m1.lst (n34 hg) (fun z => z)).1, z34, y34]
    · have D9 := hD9 (by rw [← e16]; exact z16)
      have G1 : Ge M9 g (R + 1) W C Z T' M1 := ge_mv w9 hg m1 no (fun z => z) (fun z => z) (fun z => z) (fun i i1 i2 (z : g + i = g) => by omega) (fun n _ => ⟨(m1.lst (tL_in (q := g + 1) hg (tLk1 g)) (fun z => z)).2.1 n, (m1.lst (tL_in (q := g + 7) hg (tLk7 g)) (fun z => z)).2.1 n, (m1.lst (tL_in (q := g + 9) hg (tLk9 g)) (fun z => z)).2.1 n, (m1.lst (tL_in (q := g + 11) hg (tLk11 g)) (fun z => z)).2.1 n, (m1.lst (tL_in (q := g + 3) hg (tLk3 g)) (fun z => z)).2.1 n⟩)
      exact (D9.ge G1).ge G2
    · have t1 : tn M1 g = tn M9 g := by
        funext v
        unfold tn
        rw [show mI M1 (g + 18) = mI M9 (g + 18) from funext (fun i => by rw [f1, if_neg (fun z => by omega)]), show mI M1 (g + 14) = mI M9 (g + 14) from funext (fun i => by rw [f1, if_neg (fun z => by omega)])]
      have c14 := m2.cellL w1 (fun q hq => knP_in hq) (goffx (i := 14) hg (by decide) (by decide)) (fun z => z)
      have c16 := m2.cellL w1 (fun q hq => knP_in hq) (goffx (i := 16) hg (by decide) (by decide)) (fun z => z)
      have c17 := m2.cellL w1 (fun q hq => knP_in hq) (goffx (i := 17) hg (by decide) (by decide)) (fun z => z)
      have c18 := m2.cellL w1 (fun q hq => knP_in hq) (goffx (i := 18) hg (by decide) (by decide)) (fun z => z)
      have t2 : tn M2 g = tn M1 g := by
        funext v
        unfold tn
        rw [c18.1, c14.1]
      have sx9 := I9.sx hL.2.1.1.1 hg
      have sx1 : SXq M9 a M1 := (iF.mk (g := g) w9 m1 (fun _ z => z.elim) (fun x z => Or.inr (Or.inl (by omega))) (fun i _ _ _ => by rw [aI1])).sx w9 hg
      have sx2 : SXq M1 a M2 := (iF.mk (g := g) w1 m2 (fun q hq => knP_it hq) (fun _ z => z.elim) (fun i _ _ _ => by rw [aI2])).sx w1 hg
      have l31 : lst3 M9 a M1 := lst3.of m1 (fun _ _ z => z)
      have RS1 : RSq M1 a g K s.1 := hRS.eq (l31.q K) t1 ⟨by rw [l1], by rw [l1]⟩ sx1
      rw [u1]
      refine RS1.kn (u := k + 1) p2 t2 ⟨c16.2, c17.2⟩ sx2 (by rw [e2]; omega) s2 x2 u2 ?_ (by rw [u3]; split <;> decide) ?_ (fun z => ?_) ?_ (fun z => absurd z (by omega)) (by rw [hRr, if_neg (by rw [u3]; split <;> decide)])
      · rw [u3, hv, hv6]
        rcases hwk with q | q
        · simp [q]
        · simp [q]
      · rw [u4, t1]
        rw [if_neg (by omega)]
      · rw [u5 z, l1, Int.toNat_natCast]
      · rw [l31.fd sx1, h3.fd sx9]
        exact hnew
    · rw [eE, u1, (I2.sx hL.2.1.1.1 hg).tx9]
  · obtain ⟨u1, u2⟩ := flt (by rw [← e16]; exact z16)
    refine Or.inl ⟨u1, ?_, ?_⟩
    · rw [e16]; exact u2.1
    · rw [show mI M2 a 17 = mI M9 a 17 by rw [aI2, aI1]]; exact u2.2
/-! what a const or formula comes to -/
theorem itr_many {w pl nq : Nat → Int} {sm : Nat → Nat → Prop} {k e : Nat} (h : s.2.1.2.1 = 60) : (itr w pl nq sm k e s).2.2 = (5, pl k) := by
  unfold itr
  rw [if_pos h]
theorem itr_known {w pl nq : Nat → Int} {sm : Nat → Nat → Prop} {k e : Nat} (h : s.2.1.2.1 ≠ 60) (h2 : fnd9 sm s.1 (k + 1) ≠ none) : (itr w pl nq sm k e s).2.2 = (2, pl (k + 1)) := by
  unfold itr
  rw [if_neg h, if_pos h2]
theorem itr_fl {w pl nq : Nat → Int} {sm : Nat → Nat → Prop} {k e : Nat} (h : s.2.1.2.1 ≠ 60) (h2 : fnd9 sm s.1 (k + 1) = none) (h3 : (fl w (E9 sm s.1 (if w k = 3 then 1 else 0)) pl 0 (k + 3) e).1 ≠ 0) : (itr w pl nq sm k e s).2.2 = fl w (E9 sm s.1 (if w k = 3 then 1 else 0)) pl 0 (k + 3) e := by
  unfold itr
  rw [if_neg h, if_neg (fun z => z h2), if_pos h3]
theorem itr_vl {w pl nq : Nat → Int} {sm : Nat → Nat → Prop} {k e : Nat} (h : s.2.1.2.1 ≠ 60) (h2 : fnd9 sm s.1 (k + 1) = none) (h3 : (fl w (E9 sm s.1 (if w k = 3 then 1 else 0)) pl 0 (k + 3) e).1 = 0) (hw : w k = 3) (h4 : (vlq w (cv9 w nq sm s.1) pl 0 0 (k + 3) e).1 ≠ 0) : (itr w pl nq sm k e s).2.2 = ((vlq w (cv9 w nq sm s.1) pl 0 0 (k + 3) e).1, (vlq w (cv9 w nq sm s.1) pl 0 0 (k + 3) e).2.1) := by
  unfold itr
  rw [if_neg h, if_neg (fun z => z h2), if_neg (fun z => z h3)]
  simp only [hw, if_true]
  rw [if_pos h4]
theorem itr_ok {w pl nq : Nat → Int} {sm : Nat → Nat → Prop} {k e : Nat} {v : vrs} (h : s.2.1.2.1 ≠ 60) (h2 : fnd9 sm s.1 (k + 1) = none) (h3 : (fl w (E9 sm s.1 (if w k = 3 then 1 else 0)) pl 0 (k + 3) e).1 = 0) (hv : v = if w k = 3 then vlq w (cv9 w nq sm s.1) pl 0 0 (k + 3) e else (0, 0, 1)) (h4 : v.1 = 0) : itr w pl nq sm k e s = (s.1 ++ [(k + 1, (if w k = 3 then 1 else 2), kdq w (E9 sm s.1 (if w k = 3 then 1 else 0)) 0 (k + 3) e, v)], (s.2.1.1, s.2.1.2.1 + 1, s.2.1.2.2), (0, 0)) := by
  unfold itr
  rw [if_neg h, if_neg (fun z => z h2), if_neg (fun z => z h3)]
  simp only [← hv]
  rw [if_neg (fun z => z h4)]
end RIX
end
