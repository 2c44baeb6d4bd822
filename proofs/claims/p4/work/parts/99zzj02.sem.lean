/-! What a rule means: kinds, faults, orders, told by the words from i to j - 1. -/
section SE
variable {w : Nat → Int} {i j l m : Nat}
/-- behind a '?': where its ':' stands, seen from i on -/
def cl1 (w : Nat → Int) (i : Nat) : Nat → Nat → Nat
  | 0, m => m
  | f + 1, m => if dp w i m = 0 ∧ aq w i m = 0 ∧ w (i + m) = 33 then m else cl1 w i f (m + 1)
theorem cl1_b : ∀ f m, m ≤ cl1 w i f m ∧ cl1 w i f m ≤ m + f
  | 0, m => ⟨Nat.le_refl _, Nat.le_refl _⟩
  | f + 1, m => by
    have := cl1_b f (m + 1)
    unfold cl1
    split <;> omega
theorem cl1_at (b : Bl w i l) (h : w (i + l) = 33) : ∀ f m, m ≤ l → l ≤ m + f → cl1 w i f m = l
  | 0, m, h1, h2 => by show m = l; omega
  | f + 1, m, h1, h2 => by
    unfold cl1
    by_cases e : m = l
    · rw [if_pos ⟨by rw [e]; exact b.1, by rw [e]; exact b.2.1, by rw [e]; exact h⟩]; exact e
    · rw [if_neg (fun q => (b.2.2.2 m (by omega)).2 q.1 q.2.1 q.2.2)]
      exact cl1_at b h f (m + 1) (by omega) (by omega)
def clq (w : Nat → Int) (m j : Nat) : Nat := (m + 1) + cl1 w (m + 1) (j - (m + 1)) 0
theorem clq_b : m + 1 ≤ clq w m j ∧ clq w m j ≤ (m + 1) + (j - (m + 1)) := by
  have := cl1_b (w := w) (i := m + 1) (j - (m + 1)) 0
  unfold clq
  omega
theorem clq_at {q : Nat} (hm : m + 1 ≤ q) (hq : q < j) (b : Bl w (m + 1) (q - (m + 1))) (h : w q = 33) : clq w m j = q := by
  unfold clq
  rw [cl1_at b (by rw [show m + 1 + (q - (m + 1)) = q by omega]; exact h) _ _ (by omega) (by omega)]
  omega
/-- the last comma outside parentheses: 0 if there is none, else one more than its distance -/
def lcq (w : Nat → Int) (i : Nat) : Nat → Nat
  | 0 => 0
  | l + 1 => if dp w i l = 0 ∧ w (i + l) = 35 then l + 1 else lcq w i l
theorem lcq_le : ∀ l, lcq w i l ≤ l
  | 0 => Nat.le_refl _
  | l + 1 => by
    have := lcq_le l
    unfold lcq
    split <;> omega
theorem lcq_0 : ∀ l, Nx w 35 i l → lcq w i l = 0
  | 0, _ => rfl
  | l + 1, h => by
    unfold lcq
    rw [if_neg (fun q => h l (by omega) q.1 q.2)]
    exact lcq_0 l (fun m hm q => h m (by omega) q)
theorem lcq_at {p : Nat} (hp : dp w i p = 0) (h : w (i + p) = 35) : ∀ n, (∀ m, p < m → m < p + 1 + n → dp w i m = 0 → w (i + m) ≠ 35) → lcq w i (p + 1 + n) = p + 1
  | 0, _ => by show (if dp w i p = 0 ∧ w (i + p) = 35 then p + 1 else lcq w i p) = p + 1; rw [if_pos ⟨hp, h⟩]
  | n + 1, hn => by
    show (if dp w i (p + 1 + n) = 0 ∧ w (i + (p + 1 + n)) = 35 then p + 1 + n + 1 else lcq w i (p + 1 + n)) = p + 1
    rw [if_neg (fun q => hn (p + 1 + n) (by omega) (by omega) q.1 q.2)]
    exact lcq_at hp h n (fun m a b => hn m a (by omega))
/-- the loosest, as a place within -/
def loq (w : Nat → Int) (i j : Nat) : Nat := (lo w i j).toNat
def lin (w : Nat → Int) (i j : Nat) : Prop := 0 ≤ lo w i j ∧ i ≤ loq w i j ∧ loq w i j < j
/-- a sign between two operands that answers a truth -/
def tru (x : Int) : Prop := (18 ≤ x ∧ x ≤ 23) ∨ x = 29 ∨ x = 30
end SE
/-- the kind: 1 a truth, 0 a number; c = 1: of a list (1 if one of them is a truth) -/
noncomputable def kdq (w E : Nat → Int) (c i j : Nat) : Int :=
  haveI := Classical.propDecidable (lin w i j)
  haveI := Classical.propDecidable (tru (w (loq w i j)))
  if hij : i < j then
    if hc : c = 1 then
      if hp : lcq w i (j - i) = 0 then kdq w E 0 i j
      else if kdq w E 1 i (i + lcq w i (j - i) - 1) = 1 ∨ kdq w E 0 (i + lcq w i (j - i)) j = 1 then 1 else 0
    else if hm : lin w i j then
      if w (loq w i j) = 32 then kdq w E 0 (clq w (loq w i j) j + 1) j
      else if tru (w (loq w i j)) then 1 else 0
    else if w i = 36 then kdq w E 0 (i + 1) (j - 1)
    else if w i = 31 ∨ w i = 12 ∨ w i = 13 then 1
    else if w i = 1 ∧ E i = 1 then 1 else 0
  else 0
termination_by 2 * (j - i) + c
decreasing_by
  all_goals simp_wf
  all_goals have a1 := lcq_le (w := w) (i := i) (j - i)
  all_goals have a2 := clq_b (w := w) (m := loq w i j) (j := j)
  all_goals first | omega | (have a3 := hm.2; omega)
/-- the first of two faults -/
def fst9 (a b : Int × Int) : Int × Int := if a.1 = 0 then b else a
/-- a fault of kinds, if they don't fit -/
noncomputable def kft (p : Prop) (x : Int) : Int × Int := haveI := Classical.propDecidable p; if p then (0, 0) else (3, x)
/-- which kinds fit a sign -/
def okq (x a b : Int) : Prop := if x = 29 ∨ x = 30 then a = 1 ∧ b = 1 else if x = 23 ∨ x = 18 then a = b else a = 0 ∧ b = 0
/-- the first fault of kinds and names, in the order of reading; (0, 0): none -/
noncomputable def fl (w E pl : Nat → Int) (c i j : Nat) : Int × Int :=
  haveI := Classical.propDecidable (lin w i j)
  if hij : i < j then
    if hc : c = 1 then
      if hp : lcq w i (j - i) = 0 then fl w E pl 0 i j
      else fst9 (fl w E pl 1 i (i + lcq w i (j - i) - 1)) (fl w E pl 0 (i + lcq w i (j - i)) j)
    else if hm : lin w i j then
      if w (loq w i j) = 32 then fst9 (fst9 (fst9 (fl w E pl 0 i (loq w i j)) (fl w E pl 0 (loq w i j + 1) (clq w (loq w i j) j))) (fl w E pl 0 (clq w (loq w i j) j + 1) j)) (kft (kdq w E 0 i (loq w i j) = 1 ∧ kdq w E 0 (loq w i j + 1) (clq w (loq w i j) j) = kdq w E 0 (clq w (loq w i j) j + 1) j) (pl (loq w i j)))
      else fst9 (fst9 (fl w E pl 0 i (loq w i j)) (fl w E pl 0 (loq w i j + 1) j)) (kft (okq (w (loq w i j)) (kdq w E 0 i (loq w i j)) (kdq w E 0 (loq w i j + 1) j)) (pl (loq w i j)))
    else if w i = 36 then fl w E pl 0 (i + 1) (j - 1)
    else if w i = 25 then fst9 (fl w E pl 0 (i + 1) j) (kft (kdq w E 0 (i + 1) j = 0) (pl i))
    else if w i = 31 then fst9 (fl w E pl 0 (i + 1) j) (kft (kdq w E 0 (i + 1) j = 1) (pl i))
    else if w i = 14 ∨ w i = 15 then fst9 (fl w E pl 1 (i + 2) (j - 1)) (kft (kdq w E 1 (i + 2) (j - 1) = 0) (pl i))
    else if w i = 1 ∧ E i = -1 then (2, pl i) else (0, 0)
  else (0, 0)
termination_by 2 * (j - i) + c
decreasing_by
  all_goals simp_wf
  all_goals have a1 := lcq_le (w := w) (i := i) (j - i)
  all_goals have a2 := clq_b (w := w) (m := loq w i j) (j := j)
  all_goals first | omega | (have a3 := hm.2; omega)
/-- the orders of a rule lie from s to e - 1; c: 0 a rule, 1 a list with the order x (place y) -/
def Cd (w : Nat → Int) (ec : Nat → Int × Int) (pl O P : Nat → Int) (c : Nat) (x y : Int) (i j s e : Nat) : Prop :=
  haveI := Classical.propDecidable (lin w i j)
  if hij : i < j then
    if hc : c = 1 then
      if hp : lcq w i (j - i) = 0 then Cd w ec pl O P 0 0 0 i j s e
      else ∃ a b, Cd w ec pl O P 1 x y i (i + lcq w i (j - i) - 1) s a ∧ Cd w ec pl O P 0 0 0 (i + lcq w i (j - i)) j a b ∧ e = b + 1 ∧ O b = x ∧ P b = y
    else if hm : lin w i j then
      if w (loq w i j) = 32 then ∃ a b : Nat, Cd w ec pl O P 0 0 0 i (loq w i j) s a ∧ O a = 33 ∧ P a = (b : Int) + 1 ∧ Cd w ec pl O P 0 0 0 (loq w i j + 1) (clq w (loq w i j) j) (a + 1) b ∧ O b = 42 ∧ P b = e ∧ Cd w ec pl O P 0 0 0 (clq w (loq w i j) j + 1) j (b + 1) e
      else if w (loq w i j) = 29 ∨ w (loq w i j) = 30 then ∃ a, Cd w ec pl O P 0 0 0 i (loq w i j) s a ∧ O a = w (loq w i j) + 1 ∧ P a = e ∧ Cd w ec pl O P 0 0 0 (loq w i j + 1) j (a + 1) e
      else ∃ a b, Cd w ec pl O P 0 0 0 i (loq w i j) s a ∧ Cd w ec pl O P 0 0 0 (loq w i j + 1) j a b ∧ e = b + 1 ∧ O b = w (loq w i j) + 1 ∧ P b = pl (loq w i j)
    else if w i = 36 then Cd w ec pl O P 0 0 0 (i + 1) (j - 1) s e
    else if w i = 25 ∨ w i = 31 then ∃ b, Cd w ec pl O P 0 0 0 (i + 1) j s b ∧ e = b + 1 ∧ O b = (if w i = 25 then 40 else 41) ∧ P b = pl i
    else if w i = 14 ∨ w i = 15 then Cd w ec pl O P 1 (w i + 1) (pl i) (i + 2) (j - 1) s e
    else e = s + 1 ∧ O s = (ec i).1 ∧ P s = (ec i).2
  else False
termination_by 2 * (j - i) + c
decreasing_by
  all_goals simp_wf
  all_goals have a1 := lcq_le (w := w) (i := i) (j - i)
  all_goals have a2 := clq_b (w := w) (m := loq w i j) (j := j)
  all_goals first | omega | (have a3 := hm.2; omega)
section SF
variable {w E pl O P : Nat → Int} {ec : Nat → Int × Int} {i j m s e : Nat} {x y : Int}
theorem lin_of (h : lo w i j = (m : Int)) (h1 : i ≤ m) (h2 : m < j) : lin w i j ∧ loq w i j = m := by
  have : loq w i j = m := by unfold loq; rw [h]; rfl
  exact ⟨⟨by rw [h]; omega, by rw [this]; exact h1, by rw [this]; exact h2⟩, this⟩
theorem lin_no (h : lo w i j = -1) : ¬ lin w i j := fun q => by have := q.1; omega
/-! kinds -/
theorem kd_bin (h : lo w i j = (m : Int)) (h1 : i ≤ m) (h2 : m < j) (h3 : w m ≠ 32) : kdq w E 0 i j = haveI := Classical.propDecidable (tru (w m)); if tru (w m) then 1 else 0 := by
  obtain ⟨a, b⟩ := lin_of h h1 h2
  rw [kdq, dif_pos (by omega), dif_neg (by decide), dif_pos a, b, if_neg h3]
theorem kd_ask {q : Nat} (h : lo w i j = (m : Int)) (h1 : i ≤ m) (h2 : m < j) (h3 : w m = 32) (hq : clq w m j = q) : kdq w E 0 i j = kdq w E 0 (q + 1) j := by
  obtain ⟨a, b⟩ := lin_of h h1 h2
  rw [kdq, dif_pos (by omega), dif_neg (by decide), dif_pos a, b, if_pos h3, hq]
theorem kd_par (h : lo w i j = -1) (hij : i < j) (h3 : w i = 36) : kdq w E 0 i j = kdq w E 0 (i + 1) (j - 1) := by
  rw [kdq, dif_pos hij, dif_neg (by decide), dif_neg (lin_no h), if_pos h3]
theorem kd_tru (h : lo w i j = -1) (hij : i < j) (h3 : w i = 31 ∨ w i = 12 ∨ w i = 13) : kdq w E 0 i j = 1 := by
  rw [kdq, dif_pos hij, dif_neg (by decide), dif_neg (lin_no h), if_neg (by omega), if_pos h3]
theorem kd_num (h : lo w i j = -1) (hij : i < j) (h3 : w i = 25 ∨ w i = 2 ∨ w i = 14 ∨ w i = 15) : kdq w E 0 i j = 0 := by
  rw [kdq, dif_pos hij, dif_neg (by decide), dif_neg (lin_no h), if_neg (by omega), if_neg (by omega), if_neg (by omega)]
theorem kd_nam (h : lo w i j = -1) (hij : i < j) (h3 : w i = 1) : kdq w E 0 i j = if E i = 1 then 1 else 0 := by
  rw [kdq, dif_pos hij, dif_neg (by decide), dif_neg (lin_no h), if_neg (by omega), if_neg (by omega)]
  by_cases c : E i = 1
  · rw [if_pos ⟨h3, c⟩, if_pos c]
  · rw [if_neg (fun q => c q.2), if_neg c]
theorem kd_l1 (hij : i < j) (h : lcq w i (j - i) = 0) : kdq w E 1 i j = kdq w E 0 i j := by
  rw [kdq, dif_pos hij, dif_pos rfl, dif_pos h]
theorem kd_ln (hij : i < j) (h : lcq w i (j - i) = m - i + 1) (hm : i ≤ m) : kdq w E 1 i j = if kdq w E 1 i m = 1 ∨ kdq w E 0 (m + 1) j = 1 then 1 else 0 := by
  rw [kdq, dif_pos hij, dif_pos rfl, dif_neg (by omega), h, show i + (m - i + 1) - 1 = m by omega, show i + (m - i + 1) = m + 1 by omega]
/-! faults -/
theorem fl_bin (h : lo w i j = (m : Int)) (h1 : i ≤ m) (h2 : m < j) (h3 : w m ≠ 32) : fl w E pl 0 i j = fst9 (fst9 (fl w E pl 0 i m) (fl w E pl 0 (m + 1) j)) (kft (okq (w m) (kdq w E 0 i m) (kdq w E 0 (m + 1) j)) (pl m)) := by
  obtain ⟨a, b⟩ := lin_of h h1 h2
  rw [fl, dif_pos (by omega), dif_neg (by decide), dif_pos a, b, if_neg h3]
theorem fl_ask {q : Nat} (h : lo w i j = (m : Int)) (h1 : i ≤ m) (h2 : m < j) (h3 : w m = 32) (hq : clq w m j = q) : fl w E pl 0 i j = fst9 (fst9 (fst9 (fl w E pl 0 i m) (fl w E pl 0 (m + 1) q)) (fl w E pl 0 (q + 1) j)) (kft (kdq w E 0 i m = 1 ∧ kdq w E 0 (m + 1) q = kdq w E 0 (q + 1) j) (pl m)) := by
  obtain ⟨a, b⟩ := lin_of h h1 h2
  rw [fl, dif_pos (by omega), dif_neg (by decide), dif_pos a, b, if_pos h3, hq]
theorem fl_par (h : lo w i j = -1) (hij : i < j) (h3 : w i = 36) : fl w E pl 0 i j = fl w E pl 0 (i + 1) (j - 1) := by
  rw [fl, dif_pos hij, dif_neg (by decide), dif_neg (lin_no h), if_pos h3]
theorem fl_neg (h : lo w i j = -1) (hij : i < j) (h3 : w i = 25) : fl w E pl 0 i j = fst9 (fl w E pl 0 (i + 1) j) (kft (kdq w E 0 (i + 1) j = 0) (pl i)) := by
  rw [fl, dif_pos hij, dif_neg (by decide), dif_neg (lin_no h), if_neg (by omega), if_pos h3]
theorem fl_not (h : lo w i j = -1) (hij : i < j) (h3 : w i = 31) : fl w E pl 0 i j = fst9 (fl w E pl 0 (i + 1) j) (kft (kdq w E 0 (i + 1) j = 1) (pl i)) := by
  rw [fl, dif_pos hij, dif_neg (by decide), dif_neg (lin_no h), if_neg (by omega), if_neg (by omega), if_pos h3]
theorem fl_lst (h : lo w i j = -1) (hij : i < j) (h3 : w i = 14 ∨ w i = 15) : fl w E pl 0 i j = fst9 (fl w E pl 1 (i + 2) (j - 1)) (kft (kdq w E 1 (i + 2) (j - 1) = 0) (pl i)) := by
  rw [fl, dif_pos hij, dif_neg (by decide), dif_neg (lin_no h), if_neg (by omega), if_neg (by omega), if_neg (by omega), if_pos h3]
theorem fl_leaf (h : lo w i j = -1) (hij : i < j) (h3 : w i = 1 ∨ w i = 2 ∨ w i = 12 ∨ w i = 13) : fl w E pl 0 i j = if w i = 1 ∧ E i = -1 then (2, pl i) else (0, 0) := by
  rw [fl, dif_pos hij, dif_neg (by decide), dif_neg (lin_no h), if_neg (by omega), if_neg (by omega), if_neg (by omega), if_neg (by omega)]
theorem fl_l1 (hij : i < j) (h : lcq w i (j - i) = 0) : fl w E pl 1 i j = fl w E pl 0 i j := by
  rw [fl, dif_pos hij, dif_pos rfl, dif_pos h]
theorem fl_ln (hij : i < j) (h : lcq w i (j - i) = m - i + 1) (hm : i ≤ m) : fl w E pl 1 i j = fst9 (fl w E pl 1 i m) (fl w E pl 0 (m + 1) j) := by
  rw [fl, dif_pos hij, dif_pos rfl, dif_neg (by omega), h, show i + (m - i + 1) - 1 = m by omega, show i + (m - i + 1) = m + 1 by omega]
/-! orders -/
theorem Cd_bin (h : lo w i j = (m : Int)) (h1 : i ≤ m) (h2 : m < j) (h3 : w m ≠ 32) (h4 : w m ≠ 29) (h5 : w m ≠ 30) : Cd w ec pl O P 0 x y i j s e ↔ ∃ a b, Cd w ec pl O P 0 0 0 i m s a ∧ Cd w ec pl O P 0 0 0 (m + 1) j a b ∧ e = b + 1 ∧ O b = w m + 1 ∧ P b = pl m := by
  obtain ⟨a, b⟩ := lin_of h h1 h2
  rw [Cd, dif_pos (by omega), dif_neg (by decide), dif_pos a, b, if_neg h3, if_neg (by omega)]
theorem Cd_jmp (h : lo w i j = (m : Int)) (h1 : i ≤ m) (h2 : m < j) (h3 : w m = 29 ∨ w m = 30) : Cd w ec pl O P 0 x y i j s e ↔ ∃ a, Cd w ec pl O P 0 0 0 i m s a ∧ O a = w m + 1 ∧ P a = e ∧ Cd w ec pl O P 0 0 0 (m + 1) j (a + 1) e := by
  obtain ⟨a, b⟩ := lin_of h h1 h2
  rw [Cd, dif_pos (by omega), dif_neg (by decide), dif_pos a, b, if_neg (by omega), if_pos h3]
theorem Cd_ask {q : Nat} (h : lo w i j = (m : Int)) (h1 : i ≤ m) (h2 : m < j) (h3 : w m = 32) (hq : clq w m j = q) : Cd w ec pl O P 0 x y i j s e ↔ ∃ a b : Nat, Cd w ec pl O P 0 0 0 i m s a ∧ O a = 33 ∧ P a = (b : Int) + 1 ∧ Cd w ec pl O P 0 0 0 (m + 1) q (a + 1) b ∧ O b = 42 ∧ P b = e ∧ Cd w ec pl O P 0 0 0 (q + 1) j (b + 1) e := by
  obtain ⟨a, b⟩ := lin_of h h1 h2
  rw [Cd, dif_pos (by omega), dif_neg (by decide), dif_pos a, b, if_pos h3, hq]
theorem Cd_par (h : lo w i j = -1) (hij : i < j) (h3 : w i = 36) : Cd w ec pl O P 0 x y i j s e ↔ Cd w ec pl O P 0 0 0 (i + 1) (j - 1) s e := by
  rw [Cd, dif_pos hij, dif_neg (by decide), dif_neg (lin_no h), if_pos h3]
theorem Cd_pre (h : lo w i j = -1) (hij : i < j) (h3 : w i = 25 ∨ w i = 31) : Cd w ec pl O P 0 x y i j s e ↔ ∃ b, Cd w ec pl O P 0 0 0 (i + 1) j s b ∧ e = b + 1 ∧ O b = (if w i = 25 then 40 else 41) ∧ P b = pl i := by
  rw [Cd, dif_pos hij, dif_neg (by decide), dif_neg (lin_no h), if_neg (by omega), if_pos h3]
theorem Cd_lst (h : lo w i j = -1) (hij : i < j) (h3 : w i = 14 ∨ w i = 15) : Cd w ec pl O P 0 x y i j s e ↔ Cd w ec pl O P 1 (w i + 1) (pl i) (i + 2) (j - 1) s e := by
  rw [Cd, dif_pos hij, dif_neg (by decide), dif_neg (lin_no h), if_neg (by omega), if_neg (by omega), if_pos h3]
theorem Cd_leaf (h : lo w i j = -1) (hij : i < j) (h3 : w i = 1 ∨ w i = 2 ∨ w i = 12 ∨ w i = 13) : Cd w ec pl O P 0 x y i j s e ↔ e = s + 1 ∧ O s = (ec i).1 ∧ P s = (ec i).2 := by
  rw [Cd, dif_pos hij, dif_neg (by decide), dif_neg (lin_no h), if_neg (by omega), if_neg (by omega), if_neg (by omega)]
theorem Cd_l1 (hij : i < j) (h : lcq w i (j - i) = 0) : Cd w ec pl O P 1 x y i j s e ↔ Cd w ec pl O P 0 0 0 i j s e := by
  rw [Cd, dif_pos hij, dif_pos rfl, dif_pos h]
theorem Cd_ln (hij : i < j) (h : lcq w i (j - i) = m - i + 1) (hm : i ≤ m) : Cd w ec pl O P 1 x y i j s e ↔ ∃ a b, Cd w ec pl O P 1 x y i m s a ∧ Cd w ec pl O P 0 0 0 (m + 1) j a b ∧ e = b + 1 ∧ O b = x ∧ P b = y := by
  rw [Cd, dif_pos hij, dif_pos rfl, dif_neg (by omega), h, show i + (m - i + 1) - 1 = m by omega, show i + (m - i + 1) = m + 1 by omega]
end SF
