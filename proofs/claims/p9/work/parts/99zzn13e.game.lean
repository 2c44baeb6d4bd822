section
/-! What a text's items make of the game: pure. -/
/-- the vars' ranges and inits; the target's rule; the commands -/
abbrev gm9 : Type := List (Int × Int × Int) × Option (Nat × Nat) × List cm9
/-- the words of a text, how many, its names, its game -/
abbrev gW9 : Type := (Nat → Int) × (Nat → Int) × (Nat → Int) × (Nat → Nat → Prop) × Nat × List nm9 × gm9
section GMP
variable (w pl nq : Nat → Int) (sm : Nat → Nat → Prop) (N : Nat)
/-- which var the word k names -/
noncomputable def vix9 (nms : List nm9) (k : Nat) : Nat := vcn (nms.takeWhile (fun e => !@decide (sm e.1 k) (Classical.propDecidable _)))
/-- the sets of a branch, from k on -/
noncomputable def sel9 (nms : List nm9) : Nat → Nat → List (Nat × Nat × Nat × Nat)
  | 0, _ => []
  | f + 1, k => (vix9 sm nms (k + 1), k + 4, cpq w (k + 4) N, k) :: (if w (cpq w (k + 4) N + 1) = 29 then sel9 nms f (cpq w (k + 4) N + 2) else [])
/-- the branches of a command, from the word i on; the item ends at e -/
noncomputable def brs9 (nms : List nm9) (e : Nat) : Nat → Nat → List br9
  | 0, _ => []
  | f + 1, i => if e ≤ i then [] else if w (clq w (i - 1) N + 1) = 10 then (pl i, (i, clq w (i - 1) N), []) :: brs9 nms e f (clq w (i - 1) N + 3)
    else (pl i, (i, clq w (i - 1) N), sel9 w sm N nms N (clq w (i - 1) N + 1)) :: brs9 nms e f ((sef w pl sm N nms N (clq w (i - 1) N + 1) []).2 + 1)
/-- a command -/
noncomputable def cmd9 (nms : List nm9) (k e : Nat) : cm9 := ((if w k = 7 then 1 else 2), pl k, (k + 1, nxq w 17 N (k + 1)), brs9 w pl sm N nms e N (nxq w 17 N (k + 1) + 1))
/-- a var's range and init -/
noncomputable def var9 (nms : List nm9) (k e : Nat) : Int × Int × Int :=
  let rg := nxq w 16 N (k + 3)
  let ini := if w (k + 3) = 5 then k + 4 else nxq w 9 (e - (k + 3)) (k + 3)
  let lo : Int := if w (k + 3) = 5 then 0 else (vlq w (cv9 w nq sm nms) pl 0 0 (k + 3) rg).2.1
  let hi : Int := if w (k + 3) = 5 then 1 else (vlq w (cv9 w nq sm nms) pl 0 0 (rg + 1) ini).2.1
  (lo, hi, if w ini = 9 then (vlq w (cv9 w nq sm nms) pl 0 0 (ini + 1) e).2.1 else lo)
/-- the item at k; nms the names before it -/
noncomputable def igm9 (nms : List nm9) (k : Nat) (g : gm9) : gm9 :=
  if w k = 3 ∨ w k = 6 then g else if w k = 4 then (g.1 ++ [var9 w pl nq sm N nms k (nxq w 34 N k)], g.2) else if w k = 11 then (g.1, some (k + 1, nxq w 34 N k), g.2.2) else (g.1, g.2.1, g.2.2 ++ [cmd9 w pl sm N nms k (nxq w 34 N k)])
/-- all items from k on -/
noncomputable def igs9 (mc : Nat) : Nat → Nat → st9 → gm9 → gm9
  | 0, _, _, g => g
  | f + 1, k, s, g => if s.2.2.1 ≠ 0 then g else if w k = 0 then g else igs9 mc f (nxq w 34 N k + 1) (ite9 w pl nq sm N mc k s) (if (ite9 w pl nq sm N mc k s).2.2.1 ≠ 0 then g else igm9 w pl nq sm N s.1 k g)
end GMP
end
section
/-! What the words of a text are worth in a state, by the first name that is spelt so: pure. -/
section NMA
variable (w pl nq : Nat → Int) (sm : Nat → Nat → Prop) (N : Nat) (sg : Nat → Int)
/-- what a word is worth in the state sg; the names, latest first -/
noncomputable def cvs : List nm9 → Nat → vrs
  | [], k => if w k = 2 then (0, nq k, 1) else if w k = 12 then (0, 1, 1) else (0, 0, 1)
  | e :: r, k => haveI := Classical.propDecidable (w k = 1 ∧ sm e.1 k ∧ ∀ e', e' ∈ r → ¬ sm e'.1 k)
    if w k = 1 ∧ sm e.1 k ∧ ∀ e', e' ∈ r → ¬ sm e'.1 k then (if e.2.1 = 1 then e.2.2.2 else if e.2.1 = 3 then (0, sg (vcn r), 1) else vlq w (cvs r) pl 0 0 (e.1 + 2) (nxq w 34 N e.1)) else cvs r k
/-- what a name is worth; r the names before it, latest first -/
noncomputable def nvs (e : nm9) (r : List nm9) : vrs := if e.2.1 = 1 then e.2.2.2 else if e.2.1 = 3 then (0, sg (vcn r), 1) else vlq w (cvs w pl nq sm N sg r) pl 0 0 (e.1 + 2) (nxq w 34 N e.1)
/-- what const or formula number x is worth -/
noncomputable def fvs : List nm9 → Nat → vrs
  | [], _ => (0, 0, 1)
  | e :: r, x => if e.2.1 ≠ 3 ∧ rcn r = x then nvs w pl nq sm N sg e r else fvs r x
/-- the words of the text alone -/
noncomputable def cvb (n : Nat) (r : List nm9) (k : Nat) : vrs := if k < n then cvs w pl nq sm N sg r k else (0, 0, 1)
/-- the names of a text, oldest first -/
def NmO (n : Nat) (nms : List nm9) : Prop := ∀ l1 e l2, nms = l1 ++ e :: l2 → (1 ≤ e.2.1 ∧ e.2.1 ≤ 3) ∧ (e.2.2.1 = 0 ∨ e.2.2.1 = 1) ∧ (e.2.1 = 1 → vgd e.2.2.1 e.2.2.2) ∧ (e.2.1 = 2 → Eo w 6 (e.1 + 2) (nxq w 34 N e.1) ∧ nxq w 34 N e.1 ≤ n ∧ (fl w (E9 sm l1 0) pl 0 (e.1 + 2) (nxq w 34 N e.1)).1 = 0 ∧ e.2.2.1 = kdq w (E9 sm l1 0) 0 (e.1 + 2) (nxq w 34 N e.1))
/-- a state has sound values -/
def SgO (nms : List nm9) : Prop := ∀ l1 e l2, nms = l1 ++ e :: l2 → e.2.1 = 3 → (sg (vcn l1)).natAbs ≤ 999999999 ∧ (e.2.2.1 = 1 → sg (vcn l1) = 0 ∨ sg (vcn l1) = 1)
end NMA
section NMB
variable {w pl nq : Nat → Int} {sm : Nat → Nat → Prop} {N n : Nat} {sg : Nat → Int} {nms : List nm9}
theorem cvs_at {e : nm9} {r : List nm9} {k : Nat} (h1 : w k = 1) (h2 : sm e.1 k) (h3 : ∀ e', e' ∈ r → ¬ sm e'.1 k) : ∀ l : List nm9, cvs w pl nq sm N sg (l ++ e :: r) k = nvs w pl nq sm N sg e r
  | [] => by
    show cvs w pl nq sm N sg (e :: r) k = _
    rw [cvs, if_pos ⟨h1, h2, h3⟩]
    rfl
  | e' :: l => by
    show cvs w pl nq sm N sg (e' :: (l ++ e :: r)) k = _
    rw [cvs, if_neg (fun u => u.2.2 e (List.mem_append_right _ List.mem_cons_self) h2)]
    exact cvs_at h1 h2 h3 l
theorem cvs_no {k : Nat} (h : w k ≠ 1) : ∀ l : List nm9, cvs w pl nq sm N sg l k = if w k = 2 then (0, nq k, 1) else if w k = 12 then (0, 1, 1) else (0, 0, 1)
  | [] => rfl
  | e :: r => by rw [cvs, if_neg (fun u => h u.1), cvs_no h r]
theorem vcn_rev (l : List nm9) : vcn l.reverse = vcn l := by
  induction l with
  | nil => rfl
  | cons e l ih =>
    rw [List.reverse_cons, vcn_app, ih]
    show vcn l + (0 + _) = vcn l + _
    omega
theorem rcn_rev (l : List nm9) : rcn l.reverse = rcn l := by
  induction l with
  | nil => rfl
  | cons e l ih =>
    rw [List.reverse_cons, rcn_app, ih]
    show rcn l + (0 + _) = rcn l + _
    omega
theorem fvs_at {e : nm9} {r : List nm9} (h3 : e.2.1 ≠ 3) : ∀ l : List nm9, fvs w pl nq sm N sg (l ++ e :: r) (rcn r) = nvs w pl nq sm N sg e r
  | [] => by
    show fvs w pl nq sm N sg (e :: r) (rcn r) = _
    rw [fvs, if_pos ⟨h3, rfl⟩]
  | e' :: l => by
    show fvs w pl nq sm N sg (e' :: (l ++ e :: r)) (rcn r) = _
    rw [fvs, if_neg (fun u => ?_)]
    · exact fvs_at h3 l
    · have u := u.2
      rw [rcn_app] at u
      have e9 : rcn (e :: r) = rcn r + 1 := by
        show rcn r + (if e.2.1 = 3 then 0 else 1) = _
        rw [if_neg h3]
      omega
theorem fnd_sp {l : List nm9} {k : Nat} {e : nm9} (h : fnd9 sm l k = some e) : ∃ l1 l2, l = l1 ++ e :: l2 ∧ sm e.1 k ∧ ∀ e', e' ∈ l1 → ¬ sm e'.1 k := by
  unfold fnd9 at h
  rw [List.find?_eq_some_iff_append] at h
  obtain ⟨h1, l1, l2, h2, h3⟩ := h
  refine ⟨l1, l2, h2, by simpa using h1, fun e' he => ?_⟩
  have := h3 e' he
  simpa using this
theorem E9_sp {l : List nm9} {k : Nat} (h : E9 sm l 0 k ≠ -1) : ∃ l1 e l2, l = l1 ++ e :: l2 ∧ sm e.1 k ∧ (∀ e', e' ∈ l1 → ¬ sm e'.1 k) ∧ E9 sm l 0 k = e.2.2.1 := by
  unfold E9 at h ⊢
  generalize hf : fnd9 sm l k = o at h ⊢
  cases o with
  | none => exact absurd rfl h
  | some e =>
    obtain ⟨l1, l2, q1, q2, q3⟩ := fnd_sp hf
    refine ⟨l1, e, l2, q1, q2, q3, ?_⟩
    show (if (0 : Int) = 1 ∧ e.2.1 ≠ 1 then (-1 : Int) else e.2.2.1) = e.2.2.1
    rw [if_neg (fun u => absurd u.1 (by decide))]
/-- a name among the older ones -/
theorem cvs_old {r l : List nm9} {k : Nat} (h1 : w k = 1) {l1 l2 : List nm9} {e : nm9} (hr : r = l1 ++ e :: l2) (h2 : sm e.1 k) (h3 : ∀ e', e' ∈ l1 → ¬ sm e'.1 k) : cvs w pl nq sm N sg (r ++ l).reverse k = nvs w pl nq sm N sg e l1.reverse := by
  have e9 : (r ++ l).reverse = (l2 ++ l).reverse ++ e :: l1.reverse := by
    rw [hr]
    simp
  rw [e9]
  exact cvs_at h1 h2 (fun e' he => h3 e' (List.mem_reverse.mp he)) _
theorem cvs_pre {r l : List nm9} {k : Nat} (h : w k = 1 → E9 sm r 0 k ≠ -1) : cvs w pl nq sm N sg (r ++ l).reverse k = cvs w pl nq sm N sg r.reverse k := by
  by_cases y : w k = 1
  · obtain ⟨l1, e, l2, q1, q2, q3, -⟩ := E9_sp (h y)
    have a := cvs_old (pl := pl) (nq := nq) (N := N) (sg := sg) (l := l) y q1 q2 q3
    have b := cvs_old (pl := pl) (nq := nq) (N := N) (sg := sg) (l := []) y q1 q2 q3
    rw [List.append_nil] at b
    rw [a, b]
  · rw [cvs_no y, cvs_no y]
theorem rcn_sp : ∀ (l : List nm9) (x : Nat), x < rcn l → ∃ l1 e l2, l = l1 ++ e :: l2 ∧ e.2.1 ≠ 3 ∧ rcn l1 = x
  | [], x, h => absurd h (Nat.not_lt_zero _)
  | e :: l, x, h => by
    have e9 : rcn (e :: l) = rcn l + (if e.2.1 = 3 then 0 else 1) := rfl
    by_cases u : e.2.1 = 3
    · rw [e9, if_pos u] at h
      obtain ⟨l1, e', l2, q1, q2, q3⟩ := rcn_sp l x h
      refine ⟨e :: l1, e', l2, by rw [q1]; rfl, q2, ?_⟩
      show rcn l1 + (if e.2.1 = 3 then 0 else 1) = x
      rw [if_pos u]
      exact q3
    · rw [e9, if_neg u] at h
      by_cases y : x = 0
      · exact ⟨[], e, l, rfl, u, y.symm⟩
      · obtain ⟨l1, e', l2, q1, q2, q3⟩ := rcn_sp l (x - 1) (by omega)
        refine ⟨e :: l1, e', l2, by rw [q1]; rfl, q2, ?_⟩
        show rcn l1 + (if e.2.1 = 3 then 0 else 1) = x
        rw [if_neg u]
        omega
/-- numbers are small -/
def NqO (w nq : Nat → Int) (n : Nat) : Prop := ∀ k, k < n → w k = 2 → (nq k).natAbs ≤ 999999999
theorem vgd_w {x : Int} (h : x.natAbs ≤ 999999999) : vgd 0 (0, x, 1) := Or.inl ⟨rfl, h, ⟨Int.le_refl 1, show (1 : Int) ≤ 999999999 by decide⟩, Int.gcd_one, fun u => absurd u (by decide)⟩
/-- the words' values are sound, if the names' are -/
theorem cvb_ok {r : List nm9} (hq : NqO w nq n) (hv : ∀ l1 e l2, r = l1 ++ e :: l2 → (e.2.2.1 = 0 ∨ e.2.2.1 = 1) ∧ vgd e.2.2.1 (nvs w pl nq sm N sg e l1.reverse)) : ∀ k, (w k = 1 ∨ w k = 2 ∨ w k = 12 ∨ w k = 13) → (w k = 1 → E9 sm r 0 k ≠ -1) → vgd (if w k = 12 ∨ w k = 13 ∨ (w k = 1 ∧ E9 sm r 0 k = 1) then 1 else 0) (cvb w pl nq sm N sg n r.reverse k) := by
  intro k hk hne
  unfold cvb
  by_cases kn : k < n
  · rw [if_pos kn]
    by_cases h1 : w k = 1
    · obtain ⟨l1, e, l2, q1, q2, q3, q4⟩ := E9_sp (hne h1)
      have b := cvs_old (pl := pl) (nq := nq) (N := N) (sg := sg) (l := []) h1 q1 q2 q3
      rw [List.append_nil] at b
      obtain ⟨g1, g2⟩ := hv l1 e l2 q1
      rw [b, q4]
      by_cases y : e.2.2.1 = 1
      · rw [if_pos (Or.inr (Or.inr ⟨h1, y⟩))]
        rw [y] at g2
        exact g2
      · rw [if_neg (by omega)]
        have : e.2.2.1 = 0 := by omega
        rw [this] at g2
        exact g2
    · rw [cvs_no h1]
      by_cases h2 : w k = 2
      · rw [if_pos h2, if_neg (by omega)]
        exact vgd_w (hq k kn h2)
      · rw [if_neg h2]
        by_cases h3 : w k = 12
        · rw [if_pos h3, if_pos (Or.inl h3)]
          exact vgd_01.1
        · rw [if_neg h3, if_pos (Or.inr (Or.inl (by omega)))]
          exact vgd_01.2
  · rw [if_neg kn]
    exact vgd_01.2
theorem cvb_vl {r : List nm9} {i j : Nat} (he : Eo w 6 i j) (hj : j ≤ n) : vlq w (cvb w pl nq sm N sg n r) pl 0 0 i j = vlq w (cvs w pl nq sm N sg r) pl 0 0 i j := vl_ci0 (fun k _ h => if_pos (by omega)) he
theorem nvs_ok (hq : NqO w nq n) (hn : NmO w pl sm N n nms) (hs : SgO sg nms) : ∀ (f : Nat) (l1 : List nm9) (e : nm9) (l2 : List nm9), l1.length ≤ f → nms = l1 ++ e :: l2 → (e.2.2.1 = 0 ∨ e.2.2.1 = 1) ∧ vgd e.2.2.1 (nvs w pl nq sm N sg e l1.reverse) := by
  intro f
  induction f with
  | zero =>
    intro l1 e l2 hl he
    have l0 : l1 = [] := List.length_eq_zero_iff.mp (by omega)
    subst l0
    obtain ⟨h0, h1, h2, h3⟩ := hn [] e l2 he
    refine ⟨h1, ?_⟩
    unfold nvs
    by_cases y1 : e.2.1 = 1
    · rw [if_pos y1]; exact h2 y1
    rw [if_neg y1]
    by_cases y3 : e.2.1 = 3
    · rw [if_pos y3]
      obtain ⟨s1, s2⟩ := hs [] e l2 he y3
      rw [vcn_rev]
      exact Or.inl ⟨rfl, s1, ⟨Int.le_refl 1, show (1 : Int) ≤ 999999999 by decide⟩, Int.gcd_one, fun u => ⟨s2 u, rfl⟩⟩
    rw [if_neg y3]
    obtain ⟨t1, t2, t3, t4⟩ := h3 (by omega)
    rw [← cvb_vl t1 t2, t4]
    exact vl_ok (cvb_ok (r := []) hq (fun a e' b u => absurd u (by simp))) _ 0 _ _ (Nat.le_refl _) (Or.inl ⟨rfl, t1⟩) t3 (fun u => absurd u (by decide)) 0
  | succ f ih =>
    intro l1 e l2 hl he
    obtain ⟨h0, h1, h2, h3⟩ := hn l1 e l2 he
    refine ⟨h1, ?_⟩
    unfold nvs
    by_cases y1 : e.2.1 = 1
    · rw [if_pos y1]; exact h2 y1
    rw [if_neg y1]
    by_cases y3 : e.2.1 = 3
    · rw [if_pos y3]
      obtain ⟨s1, s2⟩ := hs l1 e l2 he y3
      rw [vcn_rev]
      exact Or.inl ⟨rfl, s1, ⟨Int.le_refl 1, show (1 : Int) ≤ 999999999 by decide⟩, Int.gcd_one, fun u => ⟨s2 u, rfl⟩⟩
    rw [if_neg y3]
    obtain ⟨t1, t2, t3, t4⟩ := h3 (by omega)
    rw [← cvb_vl t1 t2, t4]
    exact vl_ok (cvb_ok (r := l1) hq (fun a e' b u => ih a e' (b ++ e :: l2) (by rw [u, List.length_append, List.length_cons] at hl; omega) (by rw [he, u]; simp))) _ 0 _ _ (Nat.le_refl _) (Or.inl ⟨rfl, t1⟩) t3 (fun u => absurd u (by decide)) 0
/-- the value of a rule of the text is sound -/
theorem vls_ok {r l : List nm9} {i j : Nat} (hq : NqO w nq n) (hn : NmO w pl sm N n nms) (hs : SgO sg nms) (hr : nms = r ++ l) (he : Eo w 6 i j) (hj : j ≤ n) (hf : (fl w (E9 sm r 0) pl 0 i j).1 = 0) : vgd (kdq w (E9 sm r 0) 0 i j) (vlq w (cvs w pl nq sm N sg nms.reverse) pl 0 0 i j) := by
  have e9 : vlq w (cvs w pl nq sm N sg nms.reverse) pl 0 0 i j = vlq w (cvb w pl nq sm N sg n r.reverse) pl 0 0 i j := by
    rw [cvb_vl he hj, hr]
    exact vl_cg0 (E := E9 sm r 0) (fun k _ h => cvs_pre h) he hf
  rw [e9]
  exact vl_ok (cvb_ok (r := r) hq (fun a e' b u => nvs_ok hq hn hs _ a e' (b ++ l) (Nat.le_refl _) (by rw [hr, u]; simp))) _ 0 _ _ (Nat.le_refl _) (Or.inl ⟨rfl, he⟩) hf (fun u => absurd u (by decide)) 0
theorem vls_r {r l : List nm9} {i j : Nat} (hr : nms = r ++ l) (he : Eo w 6 i j) (hj : j ≤ n) (hf : (fl w (E9 sm r 0) pl 0 i j).1 = 0) : vlq w (cvb w pl nq sm N sg n r.reverse) pl 0 0 i j = vlq w (cvs w pl nq sm N sg nms.reverse) pl 0 0 i j := by
  rw [cvb_vl he hj, hr]
  exact (vl_cg0 (E := E9 sm r 0) (fun k _ h => cvs_pre h) he hf).symm
end NMB
end
