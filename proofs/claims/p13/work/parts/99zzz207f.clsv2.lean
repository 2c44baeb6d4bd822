/-! The class's answer is what the least closed set says. -/
section NCR
variable {T : xt9} {J J' : Nat → Prop} {x : Int × List sc9} {s g cn cc bc k lo hi un : Nat} {M M0 M' : mM} {r : Int}
theorem sm_one : ∀ n, sm (fun _ => 1) n = ((n : Nat) : Int)
  | 0 => rfl
  | n + 1 => by
    show sm (fun _ => 1) n + 1 = _
    rw [sm_one n]
    omega
theorem sm_pos {f : Nat → Int} : ∀ n, 0 < sm f n → ∃ i, i < n ∧ f i ≠ 0
  | 0, h => absurd (show (0 : Int) < 0 from h) (by decide)
  | n + 1, h => by
    by_cases c : f n = 0
    · have h' : 0 < sm f n := by
        have : 0 < sm f n + f n := h
        omega
      obtain ⟨i, a, b⟩ := sm_pos n h'
      exact ⟨i, by omega, b⟩
    · exact ⟨n, by omega, c⟩
theorem sm_ge {f : Nat → Int} {k : Nat} (h : ∀ j, 0 ≤ f j) : ∀ n, k < n → f k ≤ sm f n
  | 0, u => absurd u (by omega)
  | n + 1, u => by
    have p : 0 ≤ sm f n := by
      clear u
      induction n with
      | zero => exact Int.le_refl _
      | succ n ih =>
        show 0 ≤ sm f n + f n
        have := h n
        omega
    show f k ≤ sm f n + f n
    by_cases c : k = n
    · rw [c]
      omega
    · have := sm_ge (k := k) h n (by omega)
      have := h n
      omega
/-- the unknown states are just the marked ones -/
theorem un_of (hm : smU M s cn un) (hk : k < cn) (h : mI M (s + 124) k ≠ -1) : ∃ i, i < un ∧ (mI M (s + 125) i).toNat = k := by
  have e := hm (fun j => if j = k then 1 else 0)
  have p : 0 < sm (fun i => if (mI M (s + 125) i).toNat = k then (1 : Int) else 0) un := by
    rw [e]
    have q := sm_ge (f := fun j => if mI M (s + 124) j = -1 then 0 else if j = k then (1 : Int) else 0) (k := k) (fun j => by
      show 0 ≤ (if mI M (s + 124) j = -1 then 0 else if j = k then (1 : Int) else 0)
      split
      · omega
      · split <;> omega) cn hk
    have q2 : (if mI M (s + 124) k = -1 then 0 else if k = k then (1 : Int) else 0) ≤ sm (fun j => if mI M (s + 124) j = -1 then 0 else if j = k then (1 : Int) else 0) cn := q
    rw [if_neg h, if_pos rfl] at q2
    omega
  obtain ⟨i, a, b⟩ := sm_pos un p
  refine ⟨i, a, Classical.byContradiction (fun u => b (if_neg u))⟩
theorem mk_kd (h : ClT M s g cn T) (hb : mkB M s g cn) (hx : T[k]? = some x) (u : mI M (s + 124) k ≠ -1) : x.1 = 1 ∨ x.1 = 2 := by
  have lt : k < cn := by rw [← h.1]; exact lt_some hx
  obtain ⟨lo, hi, ⟨l1, l2⟩, l3⟩ := hb k lt u
  rcases (coG_iff (J := jmb M s g (mI M (s + 124) k)) h hx l1 l2).mp l3 with y | y
  · exact Or.inl y.1
  · exact Or.inr y.1
theorem cl_un (h : ClT M s g cn T) (hb : mkB M s g cn) : unA9 T (fun k => k < cn ∧ jmk M s g k) (fun k => if mI M (s + 124) k = -1 then 0 else 1) := fun k x hx => by
  have lt : k < cn := by rw [← h.1]; exact lt_some hx
  obtain ⟨a1, -⟩ := h.2 k x hx
  refine ⟨fun u => ?_, fun u => ?_⟩
  · show (if mI M (s + 124) k = -1 then (0 : Int) else 1) = 1
    rcases u.1.2 with y | y
    · rw [if_neg y]
    · exact absurd (a1.symm.trans y) u.2
  · show (if mI M (s + 124) k = -1 then (0 : Int) else 1) = 0
    by_cases z : mI M (s + 124) k = -1
    · rw [if_pos z]
    · refine absurd ⟨⟨lt, Or.inl z⟩, ?_⟩ u
      rcases mk_kd h hb hx z with y | y <;> rw [y] <;> decide
/-- a refusal: there are 40, and one more -/
theorem cl_many (h : ClT M s g cn T) (hs : Slo M s 40) (c5 : cn ≤ 512) (hb : mkB M s g cn) (hm : smU M s cn 40) (hk : k < cn) (k0 : mI M (s + 124) k = -1) (l1 : mI M (s + 122) k = ((lo : Nat) : Int)) (l2 : mI M (s + 123) k = ((hi : Nat) : Int)) (hc : coC M s g k lo hi) (inn : ∀ J', clA9 T J' → ∀ j, j < cn → jmk M s g j → J' j) : svA9 T 5 := by
  obtain ⟨e, he⟩ := un_ex (T := T) (fun k => ∀ J', clA9 T J' → J' k)
  refine ⟨_, e, ls_ex, he, Or.inl ⟨?_, rfl⟩⟩
  have o := hm (fun _ => 1)
  rw [sm_one] at o
  obtain ⟨xk, hx⟩ : ∃ y, T[k]? = some y := ⟨_, List.getElem?_eq_getElem (by rw [h.1]; exact hk)⟩
  have ck := (coG_iff (J := jmk M s g) h hx l1 l2).mp hc
  obtain ⟨a1, a2, l, a3, a4, a5⟩ := h.2 k _ hx
  have u := sm_up9 (h := fun k => if mI M (s + 124) k = -1 then (0 : Int) else 1) (h' := fun j => if j = k then 1 else if mI M (s + 124) j = -1 then 0 else 1) (k := k) (v := 1) (by show (if mI M (s + 124) k = -1 then (0 : Int) else 1) = 0; rw [if_pos k0]) (by show (if k = k then (1 : Int) else _) = 1; rw [if_pos rfl]) (fun j hj => by show (if j = k then (1 : Int) else if mI M (s + 124) j = -1 then 0 else 1) = _; rw [if_neg hj]) cn hk
  have le : sm (fun j => if j = k then (1 : Int) else if mI M (s + 124) j = -1 then 0 else 1) cn ≤ sm e cn := sm_le9 cn (fun j hj => by
    obtain ⟨y9, hy⟩ : ∃ y, T[j]? = some y := ⟨_, List.getElem?_eq_getElem (by rw [h.1]; exact hj)⟩
    have hj9 := he j _ hy
    have e0 : 0 ≤ e j := by
      by_cases z : (∀ J', clA9 T J' → J' j) ∧ y9.1 ≠ 3
      · rw [hj9.1 z]; decide
      · rw [hj9.2 z]; decide
    show (if j = k then (1 : Int) else if mI M (s + 124) j = -1 then 0 else 1) ≤ e j
    by_cases c9 : j = k
    · have ey : y9 = xk := by
        rw [c9] at hy
        exact Option.some.inj (hy.symm.trans hx)
      have u1 : (∀ J', clA9 T J' → J' j) ∧ y9.1 ≠ 3 := by
        refine ⟨fun J' hc9 => hc9 j y9 hy (Or.inr ?_), ?_⟩
        · rw [ey]
          refine ck.mono2 (fun c h1 b h2 h3 => ?_)
          obtain ⟨i, hi9⟩ := List.getElem?_of_mem h1
          exact inn J' hc9 b.1 ((a5 i c hi9).2.1 b h2) h3
        · rw [ey]
          rcases ck with y | y <;> rw [y.1] <;> decide
      rw [if_pos c9, hj9.1 u1]
      exact Int.le_refl _
    · rw [if_neg c9]
      by_cases z : mI M (s + 124) j = -1
      · rw [if_pos z]; exact e0
      · have u1 : (∀ J', clA9 T J' → J' j) ∧ y9.1 ≠ 3 := ⟨fun J' hc9 => inn J' hc9 j hj (Or.inl z), by rcases mk_kd h hb hy z with y | y <;> rw [y] <;> decide⟩
        rw [if_neg z, hj9.1 u1]
        exact Int.le_refl _)
  rw [h.1]
  omega
end NCR
