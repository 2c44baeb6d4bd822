section
/-! WITHIN: what within answers. Pure. -/
section WIT
variable {T : xt9} {x x' : Nat → Rat} {n : Nat} {r r' : Int} {f g : Nat → Rat} {mx : Prop}
/-- shares times numbers -/
def wsL9 (x : Nat → Rat) : List (Nat × Int) → Rat
  | [] => 0
  | b :: l => (b.2 : Rat) * x b.1 + wsL9 x l
/-- a command's worth -/
def wr9 (x : Nat → Rat) (c : sc9) : Rat := wsL9 x c.2.2 * (c.2.1 : Rat)⁻¹
/-- the best of the commands 0 to i -/
noncomputable def bst9 (mx : Prop) (f : Nat → Rat) : Nat → Rat
  | 0 => f 0
  | i + 1 => @ite Rat ((mx ∧ bst9 mx f i < f (i + 1)) ∨ (¬ mx ∧ f (i + 1) < bst9 mx f i)) (Classical.propDecidable _) (f (i + 1)) (bst9 mx f i)
theorem bst_cg : ∀ i, (∀ j, j ≤ i → f j = g j) → bst9 mx f i = bst9 mx g i
  | 0, h => h 0 (Nat.le_refl _)
  | i + 1, h => by
    have a := bst_cg i (fun j hj => h j (by omega))
    have b := h (i + 1) (Nat.le_refl _)
    unfold bst9
    rw [a, b]
/-- command i of a state -/
def cq0 (y : Int × List sc9) (i : Nat) : sc9 := y.2.getD i (0, 1, [])
/-- a state's number after one more move -/
noncomputable def stv9 (x : Nat → Rat) (y : Int × List sc9) : Rat := match y.2.length with
  | 0 => if y.1 = 3 then 1 else 0
  | j + 1 => bst9 (y.1 = 1) (fun i => wr9 x (cq0 y i)) j
/-- WITHIN -/
noncomputable def wi9 (T : xt9) : Nat → Nat → Rat
  | 0 => fun k => ((T[k]?).map (fun y => if y.1 = 3 then (1 : Rat) else 0)).getD 0
  | m + 1 => fun k => ((T[k]?).map (fun y => stv9 (wi9 T m) y)).getD 0
/-- a number whose parts have at most 480 bits -/
def ft9 (q : Rat) : Prop := ∃ a b : Int, (0 ≤ a ∧ 0 < b) ∧ (a < 2 ^ 480 ∧ b < 2 ^ 480) ∧ q * (b : Rat) = (a : Rat)
/-- what within answers -/
def anA9 (T : xt9) (n : Nat) (r : Int) : Prop := (r = 0 ∧ ∀ m, m ≤ n → ∀ k, k < T.length → ft9 (wi9 T m k)) ∨ (r = 6 ∧ ∃ m, m ≤ n ∧ ∃ k, k < T.length ∧ ¬ ft9 (wi9 T m k))
theorem anA9.same (h : anA9 T n r) (h' : anA9 T n r') : r = r' := by
  rcases h with ⟨a1, a2⟩ | ⟨a1, m, a2, k, a3, a4⟩
  · rcases h' with ⟨b1, b2⟩ | ⟨b1, m', b2, k', b3, b4⟩
    · rw [a1, b1]
    · exact absurd (a2 m' b2 k' b3) b4
  · rcases h' with ⟨b1, b2⟩ | ⟨b1, m', b2, k', b3, b4⟩
    · exact absurd (b2 m a2 k a3) a4
    · rw [a1, b1]
theorem wsL_cg : ∀ l : List (Nat × Int), (∀ b, b ∈ l → x b.1 = x' b.1) → wsL9 x l = wsL9 x' l
  | [], _ => rfl
  | b :: l, h => by
    show (b.2 : Rat) * x b.1 + wsL9 x l = (b.2 : Rat) * x' b.1 + wsL9 x' l
    rw [h b List.mem_cons_self, wsL_cg l (fun c hc => h c (List.mem_cons_of_mem _ hc))]
theorem wr_cg {c : sc9} (h : ∀ b, b ∈ c.2.2 → x b.1 = x' b.1) : wr9 x c = wr9 x' c := by
  unfold wr9
  rw [wsL_cg c.2.2 h]
theorem cq0_of {y : Int × List sc9} {i : Nat} {c : sc9} (h : y.2[i]? = some c) : cq0 y i = c := by
  unfold cq0
  rw [List.getD_eq_getElem?_getD, h]
  all_goals rfl
/-- no parts of at most 480 bits: those in least terms are longer -/
theorem nft_of {q : Rat} {a b : Int} (e : q * (b : Rat) = (a : Rat)) (a0 : 0 ≤ a) (b0 : 0 < b) (hg : Int.gcd a b = 1) (h : 2 ^ 480 ≤ a ∨ 2 ^ 480 ≤ b) : ¬ ft9 q := by
  rintro ⟨a', b', ⟨c0, c1⟩, ⟨c2, c3⟩, e'⟩
  have x1 : ((a * b' : Int) : Rat) = ((a' * b : Int) : Rat) := by
    rw [Rat.intCast_mul, Rat.intCast_mul, ← e, ← e']
    grind
  have x2 : a * b' = a' * b := by exact_mod_cast x1
  have hc : Nat.Coprime b.natAbs a.natAbs := by
    unfold Nat.Coprime
    rw [Nat.gcd_comm]
    exact hg
  have hd : b.natAbs ∣ a.natAbs * b'.natAbs := by
    rw [← Int.natAbs_mul, x2, Int.natAbs_mul]
    exact Nat.dvd_mul_left _ _
  have d2 : b ∣ b' := Int.natAbs_dvd_natAbs.1 (hc.dvd_of_dvd_mul_left hd)
  obtain ⟨t, ht⟩ := d2
  have t1 : 1 ≤ t := by
    rcases Int.lt_or_le 0 t with u | u
    · omega
    · have w := Int.mul_le_mul_of_nonneg_left u (Int.le_of_lt b0)
      rw [Int.mul_zero, ← ht] at w
      omega
  have s1 : b ≤ b' := by
    have w := Int.mul_le_mul_of_nonneg_left t1 (Int.le_of_lt b0)
    rw [Int.mul_one, ← ht] at w
    exact w
  have x3 : a * t = a' := by
    have w : b * (a * t) = b * a' := by
      rw [Int.mul_comm b a', ← x2, ht]
      grind
    exact Int.eq_of_mul_eq_mul_left (by omega) w
  have s2 : a ≤ a' := by
    have w := Int.mul_le_mul_of_nonneg_left t1 a0
    rw [Int.mul_one, x3] at w
    exact w
  omega
end WIT
end
section
/-! Determinants: by the first row. -/
theorem sm_add {f g : Nat → Int} : ∀ (n : Nat), sm (fun j => f j + g j) n = sm f n + sm g n
  | 0 => rfl
  | n + 1 => by rw [sm, sm, sm, sm_add n]; omega
theorem sm_mul {f : Nat → Int} {x : Int} : ∀ (n : Nat), sm (fun j => x * f j) n = x * sm f n
  | 0 => by simp [sm]
  | n + 1 => by rw [sm, sm, sm_mul n, Int.mul_add]
theorem sm_zero {f : Nat → Int} : ∀ (n : Nat), (∀ j, j < n → f j = 0) → sm f n = 0
  | 0, _ => rfl
  | n + 1, h => by rw [sm, sm_zero n (fun j hj => h j (by omega)), h n (by omega)]; rfl
/-- only two terms, which cancel -/
theorem sm_two {f : Nat → Int} {c : Nat} (h : f c + f (c + 1) = 0) : ∀ (n : Nat), c + 1 < n → (∀ j, j < n → j ≠ c → j ≠ c + 1 → f j = 0) → sm f n = 0
  | 0, hc, _ => by omega
  | n + 1, hc, h0 => by
    rw [sm]
    by_cases q : n = c + 1
    · subst q
      rw [sm, sm_zero c (fun j hj => h0 j (by omega) (by omega) (by omega))]
      omega
    · rw [sm_two h n (by omega) (fun j hj => h0 j (by omega)), h0 n (by omega) (by omega) (by omega)]
      rfl
def sk (j c : Nat) : Nat := if c < j then c else c + 1
def del (j : Nat) (A : Nat → Nat → Int) : Nat → Nat → Int := fun r c => A (r + 1) (sk j c)
def det : Nat → (Nat → Nat → Int) → Int
  | 0, _ => 1
  | n + 1, A => sm (fun j => (-1) ^ j * A 0 j * det n (del j A)) (n + 1)
theorem det_congr : ∀ (n : Nat) {A B : Nat → Nat → Int}, (∀ r c, r < n → c < n → A r c = B r c) → det n A = det n B
  | 0, _, _, _ => rfl
  | n + 1, A, B, h => by
    rw [det, det]
    refine sm_congr (n + 1) (fun j hj => ?_)
    rw [h 0 j (by omega) hj, det_congr n (A := del j A) (B := del j B) (fun r c hr hc => ?_)]
    unfold del sk
    exact h _ _ (by omega) (by split <;> omega)
def rc (A : Nat → Nat → Int) (c : Nat) (v : Nat → Int) : Nat → Nat → Int := fun r k => if k = c then v r else A r k
theorem del_rc_ne {A : Nat → Nat → Int} {c j : Nat} {v : Nat → Int} (h : j ≠ c) : del j (rc A c v) = rc (del j A) (if j < c then c - 1 else c) (fun r => v (r + 1)) := by
  funext r k
  have e : sk j k = c ↔ k = (if j < c then c - 1 else c) := by unfold sk; split <;> split <;> omega
  show (if sk j k = c then v (r + 1) else A (r + 1) (sk j k)) = (if k = (if j < c then c - 1 else c) then v (r + 1) else A (r + 1) (sk j k))
  by_cases q : sk j k = c
  · rw [if_pos q, if_pos (e.1 q)]
  · rw [if_neg q, if_neg (fun w => q (e.2 w))]
theorem del_rc_eq {A : Nat → Nat → Int} {c : Nat} {v : Nat → Int} : del c (rc A c v) = del c A := by
  funext r k
  unfold del rc sk
  rw [if_neg (by split <;> omega)]
theorem det_lin : ∀ (n : Nat) {A : Nat → Nat → Int} {c : Nat} {x : Int} {u w : Nat → Int}, c < n → det n (rc A c (fun r => x * u r + w r)) = x * det n (rc A c u) + det n (rc A c w)
  | 0, _, _, _, _, _, h => by omega
  | n + 1, A, c, x, u, w, h => by
    rw [det, det, det, ← sm_mul, ← sm_add]
    refine sm_congr (n + 1) (fun j hj => ?_)
    by_cases q : j = c
    · subst q
      rw [del_rc_eq, del_rc_eq, del_rc_eq]
      show (-1) ^ j * (if j = j then x * u 0 + w 0 else A 0 j) * _ = x * ((-1) ^ j * (if j = j then u 0 else A 0 j) * _) + (-1) ^ j * (if j = j then w 0 else A 0 j) * _
      rw [if_pos rfl, if_pos rfl, if_pos rfl]
      generalize (-1 : Int) ^ j = s
      generalize det n (del j A) = D
      grind
    · rw [del_rc_ne q, del_rc_ne q, del_rc_ne q]
      show (-1) ^ j * (if j = c then x * u 0 + w 0 else A 0 j) * det n (rc (del j A) (if j < c then c - 1 else c) (fun r => x * u (r + 1) + w (r + 1))) = x * ((-1) ^ j * (if j = c then u 0 else A 0 j) * _) + (-1) ^ j * (if j = c then w 0 else A 0 j) * _
      rw [if_neg q, if_neg q, if_neg q, det_lin n (A := del j A) (u := fun r => u (r + 1)) (w := fun r => w (r + 1)) (by split <;> omega)]
      generalize (-1 : Int) ^ j = s
      generalize det n (rc (del j A) _ (fun r => u (r + 1))) = D
      generalize det n (rc (del j A) _ (fun r => w (r + 1))) = E
      grind
theorem det_adj : ∀ (n : Nat) {A : Nat → Nat → Int} {c : Nat}, c + 1 < n → (∀ r, r < n → A r c = A r (c + 1)) → det n A = 0
  | 0, _, _, h, _ => by omega
  | n + 1, A, c, h, e => by
    rw [det]
    refine sm_two (c := c) ?_ (n + 1) h (fun j hj j1 j2 => ?_)
    · have hd : det n (del c A) = det n (del (c + 1) A) := by
        refine det_congr n (fun r k hr hk => ?_)
        unfold del sk
        by_cases q : k < c
        · rw [if_pos q, if_pos (by omega)]
        · by_cases z : k = c
          · subst z
            rw [if_neg q, if_pos (by omega)]
            exact (e (r + 1) (by omega)).symm
          · rw [if_neg q, if_neg (by omega)]
      rw [hd, e 0 (by omega), Int.pow_succ]
      generalize (-1 : Int) ^ c = s
      generalize det n (del (c + 1) A) = D
      grind
    · have hz : det n (del j A) = 0 := by
        by_cases q : j < c
        · refine det_adj n (c := c - 1) (by omega) (fun r hr => ?_)
          unfold del sk
          rw [if_neg (by omega), if_neg (by omega), show c - 1 + 1 = c by omega]
          exact e (r + 1) (by omega)
        · refine det_adj n (c := c) (by omega) (fun r hr => ?_)
          unfold del sk
          rw [if_pos (by omega), if_pos (by omega)]
          exact e (r + 1) (by omega)
      rw [hz, Int.mul_zero]
end
section
/-! Determinants: Cramer's rule, a bound, the last column. -/
theorem rc_comm {A : Nat → Nat → Int} {c e : Nat} {u w : Nat → Int} (h : c ≠ e) : rc (rc A e w) c u = rc (rc A c u) e w := by
  funext r k
  unfold rc
  by_cases q : k = c
  · rw [if_pos q, if_neg (by omega), if_pos q]
  · rw [if_neg q]
    by_cases z : k = e
    · rw [if_pos z, if_pos z]
    · rw [if_neg z, if_neg z, if_neg q]
theorem rc_self {A : Nat → Nat → Int} {c : Nat} : rc A c (fun r => A r c) = A := by
  funext r k
  unfold rc
  by_cases q : k = c
  · rw [if_pos q, q]
  · rw [if_neg q]
theorem det_add {n : Nat} {A : Nat → Nat → Int} {c : Nat} {u w : Nat → Int} (h : c < n) : det n (rc A c (fun r => u r + w r)) = det n (rc A c u) + det n (rc A c w) := by
  have e := det_lin n (A := A) (c := c) (x := 1) (u := u) (w := w) h
  rw [show (fun r => 1 * u r + w r) = (fun r => u r + w r) from funext (fun r => by omega)] at e
  omega
def sw (A : Nat → Nat → Int) (c : Nat) : Nat → Nat → Int := rc (rc A (c + 1) (fun r => A r c)) c (fun r => A r (c + 1))
theorem det_sw {n : Nat} {A : Nat → Nat → Int} {c : Nat} (h : c + 1 < n) : det n (sw A c) = - det n A := by
  have z : ∀ u : Nat → Int, det n (rc (rc A c u) (c + 1) u) = 0 := fun u => by
    refine det_adj n h (fun r hr => ?_)
    unfold rc
    rw [if_neg (by omega), if_pos rfl, if_pos rfl]
  have C : ∀ u w : Nat → Int, rc (rc A c u) (c + 1) w = rc (rc A (c + 1) w) c u := fun u w => (rc_comm (by omega)).symm
  have L : ∀ w : Nat → Int, det n (rc (rc A c (fun r => A r c + A r (c + 1))) (c + 1) w) = det n (rc (rc A c (fun r => A r c)) (c + 1) w) + det n (rc (rc A c (fun r => A r (c + 1))) (c + 1) w) := fun w => by
    rw [C, C, C]
    exact det_add (by omega)
  have e := z (fun r => A r c + A r (c + 1))
  rw [det_add h, L, L, z, z] at e
  have e1 : rc (rc A c (fun r => A r c)) (c + 1) (fun r => A r (c + 1)) = A := by rw [rc_self, rc_self]
  rw [e1, C] at e
  unfold sw
  omega
theorem det_eq : ∀ (m : Nat) {n : Nat} {A : Nat → Nat → Int} {c : Nat}, c + 1 + m < n → (∀ r, r < n → A r c = A r (c + 1 + m)) → det n A = 0
  | 0, n, A, c, h, e => det_adj n h e
  | m + 1, n, A, c, h, e => by
    have h1 := det_sw (n := n) (A := A) (c := c + 1 + m) (by omega)
    have h2 : det n (sw A (c + 1 + m)) = 0 := by
      refine det_eq m (c := c) (by omega) (fun r hr => ?_)
      unfold sw rc
      rw [if_neg (by omega), if_neg (by omega), if_pos rfl]
      exact e r hr
    omega
theorem det_two {n : Nat} {A : Nat → Nat → Int} {c e : Nat} (hc : c < n) (he : e < n) (hne : c ≠ e) (h : ∀ r, r < n → A r c = A r e) : det n A = 0 := by
  by_cases q : c < e
  · refine det_eq (e - c - 1) (c := c) (by omega) (fun r hr => ?_)
    rw [show c + 1 + (e - c - 1) = e by omega]
    exact h r hr
  · refine det_eq (c - e - 1) (c := e) (by omega) (fun r hr => ?_)
    rw [show e + 1 + (c - e - 1) = c by omega]
    exact (h r hr).symm
theorem cramer {n : Nat} {A : Nat → Nat → Int} {x b : Nat → Int} {c : Nat} (hc : c < n) (h : ∀ r, r < n → sm (fun j => x j * A r j) n = b r) : det n (rc A c b) = x c * det n A := by
  have H : ∀ m, m ≤ n → det n (rc A c (fun r => sm (fun j => x j * A r j) m)) = if c < m then x c * det n A else 0 := by
    intro m
    induction m with
    | zero =>
      intro _
      have e := det_add (n := n) (A := A) (c := c) (u := fun _ => 0) (w := fun _ => 0) hc
      have e0 : det n (rc A c (fun _ => 0)) = 0 := by
        have e1 : det n (rc A c (fun _ => (0 : Int) + 0)) = det n (rc A c (fun _ => 0)) := rfl
        omega
      exact e0
    | succ m ih =>
      intro hm
      have e := det_lin n (A := A) (c := c) (x := x m) (u := fun r => A r m) (w := fun r => sm (fun j => x j * A r j) m) hc
      rw [show (fun r => x m * A r m + sm (fun j => x j * A r j) m) = (fun r => sm (fun j => x j * A r j) (m + 1)) from funext (fun r => by rw [sm]; omega), ih (by omega)] at e
      rw [e]
      by_cases q : m = c
      · subst q
        rw [rc_self, if_neg (by omega), if_pos (by omega)]
        omega
      · have z : det n (rc A c (fun r => A r m)) = 0 := by
          refine det_two hc (show m < n by omega) (fun w => q w.symm) (fun r hr => ?_)
          unfold rc
          rw [if_pos rfl, if_neg q]
        rw [z, Int.mul_zero, Int.zero_add]
        by_cases y : c < m
        · rw [if_pos y, if_pos (by omega)]
        · rw [if_neg y, if_neg (by omega)]
  have e := H n (Nat.le_refl _)
  rw [if_pos hc] at e
  rw [← e]
  refine det_congr n (fun r k hr hk => ?_)
  unfold rc
  by_cases q : k = c
  · rw [if_pos q, if_pos q]
    exact (h r hr).symm
  · rw [if_neg q, if_neg q]
theorem det_last : ∀ (n : Nat) {A : Nat → Nat → Int}, (∀ r, r ≤ n → A r n = if r = n then 1 else 0) → det (n + 1) A = det n A
  | 0, A, h => by
    have e : det 1 A = 0 + (-1) ^ 0 * A 0 0 * 1 := rfl
    rw [e, h 0 (by omega)]
    rfl
  | n + 1, A, h => by
    have e : det (n + 1 + 1) A = sm (fun j => (-1) ^ j * A 0 j * det (n + 1) (del j A)) (n + 1) + (-1) ^ (n + 1) * A 0 (n + 1) * det (n + 1) (del (n + 1) A) := rfl
    have e2 : det (n + 1) A = sm (fun j => (-1) ^ j * A 0 j * det n (del j A)) (n + 1) := rfl
    rw [e, e2, h 0 (by omega), if_neg (by omega), Int.mul_zero, Int.zero_mul, Int.add_zero]
    refine sm_congr (n + 1) (fun j hj => ?_)
    rw [det_last n (A := del j A) (fun r hr => ?_)]
    unfold del sk
    rw [if_neg (by omega), h (r + 1) (by omega)]
    by_cases q : r = n
    · rw [if_pos (by omega), if_pos q]
    · rw [if_neg (by omega), if_neg q]
def pr (f : Nat → Int) : Nat → Int
  | 0 => 1
  | n + 1 => pr f n * f n
theorem pr_shift {f : Nat → Int} : ∀ (n : Nat), pr f (n + 1) = f 0 * pr (fun r => f (r + 1)) n
  | 0 => by simp [pr]
  | n + 1 => by rw [pr, pr_shift n, pr, Int.mul_assoc]
theorem pr_nonneg {f : Nat → Int} : ∀ (n : Nat), (∀ j, j < n → 0 ≤ f j) → 0 ≤ pr f n
  | 0, _ => Int.zero_le_ofNat 1
  | n + 1, h => by rw [pr]; exact Int.mul_nonneg (pr_nonneg n (fun j hj => h j (by omega))) (h n (by omega))
theorem sm_le {f g : Nat → Int} : ∀ (n : Nat), (∀ j, j < n → f j ≤ g j) → sm f n ≤ sm g n
  | 0, _ => by simp [sm]
  | n + 1, h => by
    have := sm_le n (fun j hj => h j (by omega))
    have := h n (by omega)
    rw [sm, sm]
    omega
theorem sm_abs {f : Nat → Int} : ∀ (n : Nat), ((sm f n).natAbs : Int) ≤ sm (fun j => ((f j).natAbs : Int)) n
  | 0 => by simp [sm]
  | n + 1 => by
    have := sm_abs (f := f) n
    rw [sm, sm]
    omega
theorem sm_sk {f : Nat → Int} {j : Nat} : ∀ (n : Nat), j ≤ n → sm (fun k => f (sk j k)) n + f j = sm f (n + 1)
  | 0, h => by
    have e : j = 0 := by omega
    subst e
    rfl
  | n + 1, h => by
    by_cases q : j = n + 1
    · subst q
      show _ + f (n + 1) = sm f (n + 1) + f (n + 1)
      congr 1
      refine sm_congr (n + 1) (fun k hk => ?_)
      unfold sk
      rw [if_pos hk]
    · have e := sm_sk (f := f) (j := j) n (by omega)
      have e1 : sm (fun k => f (sk j k)) (n + 1) = sm (fun k => f (sk j k)) n + f (sk j n) := rfl
      have e2 : sm f (n + 1 + 1) = sm f (n + 1) + f (n + 1) := rfl
      have e3 : f (sk j n) = f (n + 1) := by unfold sk; rw [if_neg (by omega)]
      omega
theorem det_abs : ∀ (n : Nat) {A : Nat → Nat → Int} {R : Nat → Int}, (∀ r, r < n → sm (fun c => ((A r c).natAbs : Int)) n ≤ R r) → ((det n A).natAbs : Int) ≤ pr R n
  | 0, _, _, _ => Int.le_refl 1
  | n + 1, A, R, h => by
    have hs0 : ∀ (f : Nat → Int) (m : Nat), 0 ≤ sm (fun c => ((f c).natAbs : Int)) m := fun f m => by
      have := sm_abs (f := f) m
      omega
    have hR : ∀ r, r < n → 0 ≤ R (r + 1) := fun r hr => by
      have h1 := h (r + 1) (by omega)
      have h2 := hs0 (A (r + 1)) (n + 1)
      omega
    have hP := pr_nonneg (f := fun r => R (r + 1)) n hR
    rw [pr_shift, det]
    refine Int.le_trans (sm_abs (n + 1)) ?_
    have h1 : sm (fun j => (((-1) ^ j * A 0 j * det n (del j A)).natAbs : Int)) (n + 1) ≤ sm (fun j => pr (fun r => R (r + 1)) n * ((A 0 j).natAbs : Int)) (n + 1) := by
      refine sm_le (n + 1) (fun j hj => ?_)
      have hd := det_abs n (A := del j A) (R := fun r => R (r + 1)) (fun r hr => by
        have e := sm_sk (f := fun c => ((A (r + 1) c).natAbs : Int)) (j := j) n (by omega)
        have h2 := h (r + 1) (by omega)
        have h3 : sm (fun c => ((del j A r c).natAbs : Int)) n = sm (fun k => ((A (r + 1) (sk j k)).natAbs : Int)) n := rfl
        omega)
      have hp : ((-1 : Int) ^ j).natAbs = 1 := by rw [Int.natAbs_pow]; simp
      rw [Int.natAbs_mul, Int.natAbs_mul, hp, Nat.one_mul, Int.natCast_mul, Int.mul_comm]
      exact Int.mul_le_mul_of_nonneg_right hd (by omega)
    refine Int.le_trans h1 ?_
    rw [sm_mul, Int.mul_comm]
    exact Int.mul_le_mul_of_nonneg_right (h 0 (by omega)) hP
end
section
/-! Elimination of states, over fractions: what stays true. -/
def sr (f : Nat → Rat) : Nat → Rat
  | 0 => 0
  | n + 1 => sr f n + f n
theorem sr_congr {f g : Nat → Rat} : ∀ (n : Nat), (∀ j, j < n → f j = g j) → sr f n = sr g n
  | 0, _ => rfl
  | n + 1, h => by rw [sr, sr, sr_congr n (fun j hj => h j (by omega)), h n (by omega)]
theorem sr_add {f g : Nat → Rat} : ∀ (n : Nat), sr (fun j => f j + g j) n = sr f n + sr g n
  | 0 => by show (0 : Rat) = 0 + 0; grind
  | n + 1 => by rw [sr, sr, sr, sr_add n]; grind
theorem sr_mul {f : Nat → Rat} {x : Rat} : ∀ (n : Nat), sr (fun j => x * f j) n = x * sr f n
  | 0 => by simp [sr]
  | n + 1 => by rw [sr, sr, sr_mul n]; grind
theorem sr_le {f g : Nat → Rat} : ∀ (n : Nat), (∀ j, j < n → f j ≤ g j) → sr f n ≤ sr g n
  | 0, _ => by simp [sr]
  | n + 1, h => by
    have h1 := sr_le n (fun j hj => h j (by omega))
    have h2 := h n (by omega)
    rw [sr, sr]
    grind
theorem sr_nonneg {f : Nat → Rat} : ∀ (n : Nat), (∀ j, j < n → 0 ≤ f j) → 0 ≤ sr f n
  | 0, _ => by simp [sr]
  | n + 1, h => by
    have h1 := sr_nonneg n (fun j hj => h j (by omega))
    have h2 := h n (by omega)
    rw [sr]
    grind
theorem sr_shift {f : Nat → Rat} : ∀ (n : Nat), sr f (n + 1) = f 0 + sr (fun t => f (t + 1)) n
  | 0 => by show (0 : Rat) + f 0 = f 0 + 0; grind
  | n + 1 => by
    have e : sr f (n + 1 + 1) = sr f (n + 1) + f (n + 1) := rfl
    have e2 : sr (fun t => f (t + 1)) (n + 1) = sr (fun t => f (t + 1)) n + f (n + 1) := rfl
    rw [e, e2, sr_shift n]
    grind
theorem alg1 {a w H Y : Rat} (hw : (1 - a) * w = 1) (h1 : 0 ≤ w * ((1 - a) * H - Y)) : 0 ≤ H - w * Y := by
  have e : H - w * Y = w * ((1 - a) * H - Y) := by grind
  rw [e]
  exact h1
/-- one state is taken out -/
def gst (k : Nat) (q : Nat → Nat → Rat) : Nat → Nat → Rat := fun i j => q i j + q i k * ((1 - q k k)⁻¹ * q k j)
def gq (p : Nat → Nat → Rat) : Nat → Nat → Nat → Rat
  | 0 => p
  | k + 1 => gst k (gq p k)
/-- m states, k of them taken out; h says that each state loses something -/
def gok (m k : Nat) (q : Nat → Nat → Rat) (h : Nat → Rat) : Prop := (∀ i j, i < m → k ≤ j → j ≤ m → 0 ≤ q i j) ∧ (∀ i, i < m → sr (fun t => q i (k + t)) (m + 1 - k) ≤ 1) ∧ (∀ i, i < m → 0 < h i) ∧ (∀ i, i < m → sr (fun t => q i (k + t) * h (k + t)) (m - k) < h i)
theorem gok_pivot {m k : Nat} {q : Nat → Nat → Rat} {h : Nat → Rat} (g : gok m k q h) (hk : k < m) : 0 < 1 - q k k := by
  obtain ⟨g1, g2, g3, g4⟩ := g
  have a := g4 k hk
  rw [show m - k = (m - k - 1) + 1 by omega, sr_shift] at a
  have b : 0 ≤ sr (fun t => q k (k + (t + 1)) * h (k + (t + 1))) (m - k - 1) := sr_nonneg _ (fun t ht => Rat.mul_nonneg (g1 k _ hk (by omega) (by omega)) (Rat.le_of_lt (g3 _ (by omega))))
  have c := g3 k hk
  have e : q k (k + 0) * h (k + 0) = q k k * h k := rfl
  rw [e] at a
  refine Classical.byContradiction (fun w => ?_)
  have d : 0 ≤ (q k k - 1) * h k := Rat.mul_nonneg (by grind) (Rat.le_of_lt c)
  grind
theorem gok_step {m k : Nat} {q : Nat → Nat → Rat} {h : Nat → Rat} (g : gok m k q h) (hk : k < m) : gok m (k + 1) (gst k q) h := by
  have hp := gok_pivot g hk
  obtain ⟨g1, g2, g3, g4⟩ := g
  have hw0 : 0 < (1 - q k k)⁻¹ := Rat.inv_pos.2 hp
  have hw1 : (1 - q k k) * (1 - q k k)⁻¹ = 1 := Rat.mul_inv_cancel _ (by grind)
  have hg : ∀ i j, gst k q i j = q i j + q i k * ((1 - q k k)⁻¹ * q k j) := fun i j => rfl
  generalize (1 - q k k)⁻¹ = w at *
  have hr : ∀ j, k ≤ j → j ≤ m → 0 ≤ w * q k j := fun j h1 h2 => Rat.mul_nonneg (Rat.le_of_lt hw0) (g1 k j hk h1 h2)
  have hk0 : ∀ i, i < m → 0 ≤ q i k := fun i hi => g1 i k hi (by omega) (by omega)
  refine ⟨fun i j hi hj hj2 => ?_, fun i hi => ?_, g3, fun i hi => ?_⟩
  · rw [hg]
    have := g1 i j hi (by omega) hj2
    have := Rat.mul_nonneg (hk0 i hi) (hr j (by omega) hj2)
    grind
  · have e1 : sr (fun t => gst k q i (k + 1 + t)) (m + 1 - (k + 1)) = sr (fun t => q i (k + (t + 1))) (m - k) + q i k * (w * sr (fun t => q k (k + (t + 1))) (m - k)) := by
      rw [← sr_mul, ← sr_mul, ← sr_add, show m + 1 - (k + 1) = m - k by omega]
      refine sr_congr _ (fun t ht => ?_)
      rw [hg, show k + 1 + t = k + (t + 1) by omega]
    have e2 := g2 i hi
    have e3 := g2 k hk
    rw [show m + 1 - k = (m - k) + 1 by omega, sr_shift] at e2 e3
    have e2' : q i (k + 0) = q i k := rfl
    have e3' : q k (k + 0) = q k k := rfl
    rw [e2'] at e2
    rw [e3'] at e3
    rw [e1]
    generalize sr (fun t => q i (k + (t + 1))) (m - k) = X at *
    generalize sr (fun t => q k (k + (t + 1))) (m - k) = Y at *
    have h1 : 0 ≤ w * (1 - q k k - Y) := Rat.mul_nonneg (Rat.le_of_lt hw0) (by grind)
    have h2 : 0 ≤ q i k * (1 - w * Y) := Rat.mul_nonneg (hk0 i hi) (by grind)
    grind
  · have e1 : sr (fun t => gst k q i (k + 1 + t) * h (k + 1 + t)) (m - (k + 1)) = sr (fun t => q i (k + (t + 1)) * h (k + (t + 1))) (m - k - 1) + q i k * (w * sr (fun t => q k (k + (t + 1)) * h (k + (t + 1))) (m - k - 1)) := by
      rw [← sr_mul, ← sr_mul, ← sr_add, show m - (k + 1) = m - k - 1 by omega]
      refine sr_congr _ (fun t ht => ?_)
      rw [hg, show k + 1 + t = k + (t + 1) by omega]
      grind
    have e2 := g4 i hi
    have e3 := g4 k hk
    rw [show m - k = (m - k - 1) + 1 by omega, sr_shift] at e2 e3
    have e2' : q i (k + 0) * h (k + 0) = q i k * h k := rfl
    have e3' : q k (k + 0) * h (k + 0) = q k k * h k := rfl
    rw [e2'] at e2
    rw [e3'] at e3
    rw [e1]
    generalize sr (fun t => q i (k + (t + 1)) * h (k + (t + 1))) (m - k - 1) = X at *
    generalize sr (fun t => q k (k + (t + 1)) * h (k + (t + 1))) (m - k - 1) = Y at *
    have h1 : 0 ≤ w * ((1 - q k k) * h k - Y) := Rat.mul_nonneg (Rat.le_of_lt hw0) (by grind)
    have h2 : 0 ≤ q i k * (h k - w * Y) := Rat.mul_nonneg (hk0 i hi) (alg1 hw1 h1)
    clear g1 g2 g3 g4 hg hr hk0 e1 e2' e3' h1
    grind
theorem gok_all {m : Nat} {p : Nat → Nat → Rat} {h : Nat → Rat} (g : gok m 0 p h) : ∀ k, k ≤ m → gok m k (gq p k) h
  | 0, _ => g
  | k + 1, hk => gok_step (gok_all g k (by omega)) (by omega)
/-- what has been taken out still solves its rows -/
theorem gq_eq {m : Nat} {p : Nat → Nat → Rat} {h : Nat → Rat} (g : gok m 0 p h) : ∀ k, k ≤ m → ∀ i j, gq p k i j = p i j + sr (fun t => p i t * gq p k t j) k
  | 0, _, i, j => by show p i j = p i j + 0; grind
  | k + 1, hk, i, j => by
    have ih := gq_eq g k (by omega)
    have hp := gok_pivot (gok_all g k (by omega)) (by omega)
    have hw1 : (1 - gq p k k k) * (1 - gq p k k k)⁻¹ = 1 := Rat.mul_inv_cancel _ (by grind)
    have hg : ∀ i j, gq p (k + 1) i j = gq p k i j + gq p k i k * ((1 - gq p k k k)⁻¹ * gq p k k j) := fun i j => rfl
    have e1 : sr (fun t => p i t * gq p (k + 1) t j) (k + 1) = sr (fun t => p i t * gq p k t j) k + ((1 - gq p k k k)⁻¹ * gq p k k j) * sr (fun t => p i t * gq p k t k) k + p i k * gq p (k + 1) k j := by
      rw [sr, ← sr_mul, ← sr_add]
      congr 1
      refine sr_congr _ (fun t ht => ?_)
      rw [hg]
      grind
    have e2 := ih i j
    have e3 := ih i k
    rw [e1, hg i j, hg k j]
    generalize sr (fun t => p i t * gq p k t j) k = X at *
    generalize sr (fun t => p i t * gq p k t k) k = Y at *
    generalize (1 - gq p k k k)⁻¹ = w at *
    generalize gq p k k k = a at *
    generalize gq p k k j = b at *
    grind
end
section
/-! Elimination of states: what the fractions are divided by. -/
theorem rat_den (q : Rat) : q * ((q.den : Int) : Rat) = (q.num : Rat) := by
  have h : q = (q.num : Rat) / ((q.den : Int) : Rat) := by
    have := Rat.num_divInt_den q
    rw [Rat.divInt_eq_div] at this
    exact this.symm
  have hp : ((q.den : Int) : Rat) ≠ 0 := by
    have := q.den_pos
    intro w
    have w2 : (q.den : Int) = 0 := by exact_mod_cast w
    omega
  rw [Rat.div_def] at h
  have := Rat.inv_mul_cancel _ hp
  grind
theorem sm_cast {f : Nat → Int} : ∀ (n : Nat), ((sm f n : Int) : Rat) = sr (fun j => (f j : Rat)) n
  | 0 => rfl
  | n + 1 => by rw [sm, sr, Rat.intCast_add, sm_cast n]
theorem com_den (y : Nat → Rat) : ∀ n, ∃ E : Int, 0 < E ∧ ∃ Y : Nat → Int, ∀ c, c < n → y c * (E : Rat) = (Y c : Rat)
  | 0 => ⟨1, by omega, fun _ => 0, fun c hc => by omega⟩
  | n + 1 => by
    obtain ⟨E, h0, Y, hY⟩ := com_den y n
    have hd := (y n).den_pos
    refine ⟨E * ((y n).den : Int), Int.mul_pos h0 (by omega), fun c => if c = n then E * (y n).num else Y c * ((y n).den : Int), fun c hc => ?_⟩
    by_cases q : c = n
    · subst q
      show _ = ((if c = c then E * (y c).num else Y c * ((y c).den : Int) : Int) : Rat)
      rw [if_pos rfl, Rat.intCast_mul, Rat.intCast_mul, ← rat_den (y c)]
      grind
    · show _ = ((if c = n then E * (y n).num else Y c * ((y n).den : Int) : Int) : Rat)
      rw [if_neg q, Rat.intCast_mul, Rat.intCast_mul, ← hY c (by omega)]
      grind
theorem det_zero {n : Nat} {A : Nat → Nat → Int} {c : Nat} (hc : c < n) : det n (rc A c (fun _ => 0)) = 0 := by
  have e := det_add (n := n) (A := A) (c := c) (u := fun _ => 0) (w := fun _ => 0) hc
  have e1 : det n (rc A c (fun _ => (0 : Int) + 0)) = det n (rc A c (fun _ => 0)) := rfl
  omega
theorem det_smul {n : Nat} {A : Nat → Nat → Int} {c : Nat} {x : Int} {u : Nat → Int} (hc : c < n) : det n (rc A c (fun r => x * u r)) = x * det n (rc A c u) := by
  have e := det_lin n (A := A) (c := c) (x := x) (u := u) (w := fun _ => 0) hc
  rw [det_zero hc, Int.add_zero] at e
  rw [← e]
  congr 1
  funext r
  show rc A c (fun r => x * u r) r = rc A c (fun r => x * u r + 0) r
  simp only [Int.add_zero]
theorem cramerR {n : Nat} {A : Nat → Nat → Int} {y : Nat → Rat} {b : Nat → Int} {c : Nat} (hc : c < n) (h : ∀ r, r < n → sr (fun j => y j * (A r j : Rat)) n = (b r : Rat)) : ((det n (rc A c b) : Int) : Rat) = y c * ((det n A : Int) : Rat) := by
  obtain ⟨E, h0, Y, hY⟩ := com_den y n
  have hE : (E : Rat) ≠ 0 := by
    intro w
    have w2 : E = 0 := by exact_mod_cast w
    omega
  have hb : ∀ r, r < n → sm (fun j => Y j * A r j) n = E * b r := fun r hr => by
    have e : ((sm (fun j => Y j * A r j) n : Int) : Rat) = ((E * b r : Int) : Rat) := by
      rw [sm_cast, Rat.intCast_mul, ← h r hr, ← sr_mul]
      refine sr_congr n (fun j hj => ?_)
      rw [Rat.intCast_mul, ← hY j hj]
      grind
    exact_mod_cast e
  have e := cramer hc hb
  rw [det_smul hc] at e
  have e2 : ((E * det n (rc A c b) : Int) : Rat) = ((Y c * det n A : Int) : Rat) := by rw [e]
  rw [Rat.intCast_mul, Rat.intCast_mul, ← hY c hc] at e2
  have e3 := Rat.inv_mul_cancel _ hE
  generalize ((det n (rc A c b) : Int) : Rat) = P at *
  generalize ((det n A : Int) : Rat) = Q at *
  have e4 : (E : Rat)⁻¹ * ((E : Rat) * P) = (E : Rat)⁻¹ * (y c * (E : Rat) * Q) := by rw [e2]
  grind
/-- the rows in whole numbers -/
def bm (N : Nat → Nat → Int) (D : Nat → Int) : Nat → Nat → Int := fun r c => (if r = c then D r else 0) - N r c
theorem sr_pick {r : Nat} {x : Rat} {y : Nat → Rat} : ∀ (n : Nat), sr (fun c => if r = c then x * y c else 0) n = if r < n then x * y r else 0
  | 0 => by show (0 : Rat) = _; rw [if_neg (by omega)]
  | n + 1 => by
    rw [sr, sr_pick n]
    by_cases q : r = n
    · subst q
      rw [if_neg (by omega), if_pos rfl, if_pos (by omega)]
      grind
    · rw [if_neg q]
      by_cases z : r < n
      · rw [if_pos z, if_pos (by omega)]
        grind
      · rw [if_neg z, if_neg (by omega)]
        grind
theorem bm_row {N : Nat → Nat → Int} {D : Nat → Int} {p : Nat → Nat → Rat} {y : Nat → Rat} {r n : Nat} (hp : ∀ c, c < n → (D r : Rat) * p r c = (N r c : Rat)) : sr (fun c => y c * (bm N D r c : Rat)) n = (if r < n then (D r : Rat) * y r else 0) - (D r : Rat) * sr (fun c => p r c * y c) n := by
  have e : sr (fun c => y c * (bm N D r c : Rat)) n = sr (fun c => (if r = c then (D r : Rat) * y c else 0) + (- (D r : Rat)) * (p r c * y c)) n := by
    refine sr_congr n (fun c hc => ?_)
    unfold bm
    have h1 := hp c hc
    by_cases q : r = c
    · rw [if_pos q, if_pos q, Rat.intCast_sub, ← h1]
      grind
    · rw [if_neg q, if_neg q, Rat.intCast_sub, ← h1]
      have : ((0 : Int) : Rat) = 0 := rfl
      grind
  rw [e, sr_add, sr_pick, sr_mul]
  grind
end
