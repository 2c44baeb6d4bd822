section
/-! A table of slots, pure: 1024 slots hold at most 512 states; a state is found by going on from its own slot. -/
section SLO
theorem php9 : ∀ (n m : Nat) (f : Nat → Nat), (∀ i, i < m → f i < n) → (∀ i j, i < m → j < m → f i = f j → i = j) → m ≤ n := by
  intro n
  induction n with
  | zero =>
    intro m f h _
    by_cases y : m = 0
    · omega
    · exact absurd (h 0 (by omega)) (by omega)
  | succ n ih =>
    intro m f h hi
    by_cases y : m = 0
    · omega
    · obtain ⟨m', rfl⟩ : ∃ m', m = m' + 1 := ⟨m - 1, by omega⟩
      have := ih m' (fun i => if f i = n then f m' else f i) (fun i hi' => by
        show (if f i = n then f m' else f i) < n
        have a := h i (by omega)
        have b := h m' (by omega)
        by_cases u : f i = n
        · rw [if_pos u]
          by_cases v : f m' = n
          · have := hi i m' (by omega) (by omega) (by omega)
            omega
          · omega
        · rw [if_neg u]
          omega) (fun i j hi' hj e => by
        have e : (if f i = n then f m' else f i) = (if f j = n then f m' else f j) := e
        by_cases u : f i = n <;> by_cases v : f j = n
        · exact hi i j (by omega) (by omega) (by omega)
        · rw [if_pos u, if_neg v] at e
          have := hi m' j (by omega) (by omega) e
          omega
        · rw [if_neg u, if_pos v] at e
          have := hi i m' (by omega) (by omega) e
          omega
        · rw [if_neg u, if_neg v] at e
          exact hi i j (by omega) (by omega) e)
      omega
/-- slots sl hold the n states; hs k is where state k would like to stand -/
def SLq (sl : Nat → Int) (hs : Nat → Nat) (n : Nat) : Prop := (∀ j, j < 1024 → sl j = -1 ∨ ∃ k : Nat, k < n ∧ sl j = k) ∧ (∀ k, k < n → ∃ t, t < 1024 ∧ sl ((hs k + t) % 1024) = (k : Int) ∧ ∀ t', t' < t → sl ((hs k + t') % 1024) ≠ -1) ∧ ∀ i j, i < 1024 → j < 1024 → sl i = sl j → sl i ≠ -1 → i = j
variable {sl sl' : Nat → Int} {hs : Nat → Nat} {n h : Nat}
/-- there is a free slot -/
theorem SLq.free (s : SLq sl hs n) (hn : n < 1024) : ∃ t, t < 1024 ∧ sl ((h + t) % 1024) = -1 := by
  refine Classical.byContradiction (fun u => ?_)
  have a : ∀ j, j < 1024 → ∃ k : Nat, k < n ∧ sl j = k := fun j hj => by
    rcases s.1 j hj with w | w
    · refine absurd ⟨(j + 1024 - h % 1024) % 1024, by omega, ?_⟩ u
      rw [show (h + (j + 1024 - h % 1024) % 1024) % 1024 = j by omega]
      exact w
    · exact w
  have b := php9 n 1024 (fun j => (sl j).toNat) (fun j hj => by
    obtain ⟨k, k1, k2⟩ := a j hj
    show (sl j).toNat < n
    rw [k2]
    omega) (fun i j hi hj e => by
    obtain ⟨k, k1, k2⟩ := a i hi
    obtain ⟨l, l1, l2⟩ := a j hj
    have e : (sl i).toNat = (sl j).toNat := e
    rw [k2, l2] at e
    exact s.2.2 i j hi hj (by rw [k2, l2]; omega) (by rw [k2]; omega))
  omega
/-- state k, looked for from its own slot, is not passed over: at step t the slot is filled, and it is k's or comes before k's -/
theorem SLq.step {k t : Nat} (s : SLq sl hs n) (hk : k < n) (ht : t < 1024) (hb : ∀ t', t' < t → sl ((hs k + t') % 1024) ≠ (k : Int)) : sl ((hs k + t) % 1024) ≠ -1 := by
  obtain ⟨t0, a1, a2, a3⟩ := s.2.1 k hk
  by_cases y : t < t0
  · exact a3 t y
  · by_cases y2 : t = t0
    · rw [y2, a2]
      omega
    · exact absurd a2 (hb t0 (by omega))
/-- a new state takes the first free slot from its own on -/
theorem SLq.put {t : Nat} (s : SLq sl hs n) (hh : hs n % 1024 = h % 1024) (ht : t < 1024) (hf : sl ((h + t) % 1024) = -1) (hb : ∀ t', t' < t → sl ((h + t') % 1024) ≠ -1) (e : ∀ j, j < 1024 → sl' j = if j = (h + t) % 1024 then (n : Int) else sl j) : SLq sl' hs (n + 1) := by
  have m : ∀ x : Nat, x % 1024 < 1024 := fun x => Nat.mod_lt _ (by decide)
  refine ⟨fun j hj => ?_, fun k hk => ?_, fun i j hi hj u v => ?_⟩
  · rw [e j hj]
    by_cases y : j = (h + t) % 1024
    · rw [if_pos y]
      exact Or.inr ⟨n, by omega, rfl⟩
    · rw [if_neg y]
      exact (s.1 j hj).imp id (fun ⟨k, k1, k2⟩ => ⟨k, by omega, k2⟩)
  · by_cases y : k = n
    · refine ⟨t, ht, ?_, fun t' h' => ?_⟩
      · rw [e _ (m _), if_pos (by rw [y]; omega), y]
      · rw [e _ (m _)]
        by_cases z : (hs k + t') % 1024 = (h + t) % 1024
        · rw [if_pos z]
          omega
        · rw [if_neg z, show (hs k + t') % 1024 = (h + t') % 1024 by rw [y]; omega]
          exact hb t' h'
    · obtain ⟨t0, a1, a2, a3⟩ := s.2.1 k (by omega)
      refine ⟨t0, a1, ?_, fun t' h' => ?_⟩
      · rw [e _ (m _), if_neg (fun z => by rw [z, hf] at a2; omega)]
        exact a2
      · rw [e _ (m _)]
        by_cases z : (hs k + t') % 1024 = (h + t) % 1024
        · rw [if_pos z]
          omega
        · rw [if_neg z]
          exact a3 t' h'
  · rw [e i hi, e j hj] at u
    rw [e i hi] at v
    have nk : ∀ x, x < 1024 → sl x ≠ (n : Int) := fun x hx w => by
      rcases s.1 x hx with w2 | ⟨k, k1, k2⟩
      · rw [w2] at w; omega
      · rw [k2] at w; omega
    by_cases y : i = (h + t) % 1024 <;> by_cases z : j = (h + t) % 1024
    · omega
    · rw [if_pos y, if_neg z] at u
      exact absurd u.symm (nk j hj)
    · rw [if_neg y, if_pos z] at u
      exact absurd u (nk i hi)
    · rw [if_neg y, if_neg z] at u
      rw [if_neg y] at v
      exact s.2.2 i j hi hj u v
/-- no state yet -/
theorem SLq.nil (e : ∀ j, j < 1024 → sl j = -1) : SLq sl hs 0 := ⟨fun j hj => Or.inl (e j hj), fun k hk => absurd hk (by omega), fun i j hi _ _ v => absurd (e i hi) v⟩
end SLO
end
section
/-! What exploring a text comes to: pure. -/
/-- what a rule is worth in a state -/
noncomputable def evq (W pl nq : Nat → Int) (sm : Nat → Nat → Prop) (N : Nat) (nms : List nm9) (sg : List Int) (i j : Nat) : vrs := vlq W (cvs W pl nq sm N (fun v => sg.getD v 0) nms.reverse) pl 0 0 i j
/-- what sets make of a state -/
noncomputable def stpq (W pl nq : Nat → Int) (sm : Nat → Nat → Prop) (N : Nat) (nms : List nm9) (V : Nat) (lo hi : Nat → Int) (sg : List Int) (l : List (Nat × Nat × Nat × Nat)) : (Int × Int) × List Int := ((stq9 W (cvs W pl nq sm N (fun v => sg.getD v 0) nms.reverse) pl lo hi l (fun v => sg.getD v 0)).1, (List.range V).map (stq9 W (cvs W pl nq sm N (fun v => sg.getD v 0) nms.reverse) pl lo hi l (fun v => sg.getD v 0)).2)
/-- a fault and its place, its state; the states, their kinds and commands -/
abbrev xR9 : Type := (Int × Int) × Nat × List (List Int) × xt9
/-- what exploring a text comes to -/
noncomputable def XpG (γ : gW9) : xR9 := xpl9 (evq γ.1 γ.2.1 γ.2.2.1 γ.2.2.2.1 γ.2.2.2.2.1 γ.2.2.2.2.2.1) (stpq γ.1 γ.2.1 γ.2.2.1 γ.2.2.2.1 γ.2.2.2.2.1 γ.2.2.2.2.2.1 γ.2.2.2.2.2.2.1.length (fun v => (γ.2.2.2.2.2.2.1.getD v (0, 0, 0)).1) (fun v => (γ.2.2.2.2.2.2.1.getD v (0, 0, 0)).2.1)) (γ.2.2.2.2.2.2.2.1.getD (0, 0)) γ.2.2.2.2.2.2.2.2 (γ.2.2.2.2.2.2.1.map (fun x => x.2.2))
end
