/-! Determinants: Cramer's rule, a bound, the last column. -/
theorem rc_comm {A : Nat → Nat → Int} {c e : Nat} {u w : Nat → Int} (h : c ≠ e) : rc (rc A e w) c u = rc (rc A c u) e w := by
  funext r k
  unfold rc
  by_cases q : k = c
  · rw [if_pos q, if_neg (by omega), if_pos q]
  · rw [if_neg q]
    by_cases z : k = e
    · rw [if_pos z, if_pos z]
    · rw [if_neg z, if_neg z, if_neg q]
theorem rc_self {A : Nat → Nat → Int} {c : Nat} : rc A c (fun r => A r c) = A := by
  funext r k
  unfold rc
  by_cases q : k = c
  · rw [if_pos q, q]
  · rw [if_neg q]
theorem det_add {n : Nat} {A : Nat → Nat → Int} {c : Nat} {u w : Nat → Int} (h : c < n) : det n (rc A c (fun r => u r + w r)) = det n (rc A c u) + det n (rc A c w) := by
  have e := det_lin n (A := A) (c := c) (x := 1) (u := u) (w := w) h
  rw [show (fun r => 1 * u r + w r) = (fun r => u r + w r) from funext (fun r => by omega)] at e
  omega
def sw (A : Nat → Nat → Int) (c : Nat) : Nat → Nat → Int := rc (rc A (c + 1) (fun r => A r c)) c (fun r => A r (c + 1))
theorem det_sw {n : Nat} {A : Nat → Nat → Int} {c : Nat} (h : c + 1 < n) : det n (sw A c) = - det n A := by
  have z : ∀ u : Nat → Int, det n (rc (rc A c u) (c + 1) u) = 0 := fun u => by
    refine det_adj n h (fun r hr => ?_)
    unfold rc
    rw [if_neg (by omega), if_pos rfl, if_pos rfl]
  have C : ∀ u w : Nat → Int, rc (rc A c u) (c + 1) w = rc (rc A (c + 1) w) c u := fun u w => (rc_comm (by omega)).symm
  have L : ∀ w : Nat → Int, det n (rc (rc A c (fun r => A r c + A r (c + 1))) (c + 1) w) = det n (rc (rc A c (fun r => A r c)) (c + 1) w) + det n (rc (rc A c (fun r => A r (c + 1))) (c + 1) w) := fun w => by
    rw [C, C, C]
    exact det_add (by omega)
  have e := z (fun r => A r c + A r (c + 1))
  rw [det_add h, L, L, z, z] at e
  have e1 : rc (rc A c (fun r => A r c)) (c + 1) (fun r => A r (c + 1)) = A := by rw [rc_self, rc_self]
  rw [e1, C] at e
  unfold sw
  omega
theorem det_eq : ∀ (m : Nat) {n : Nat} {A : Nat → Nat → Int} {c : Nat}, c + 1 + m < n → (∀ r, r < n → A r c = A r (c + 1 + m)) → det n A = 0
  | 0, n, A, c, h, e => det_adj n h e
  | m + 1, n, A, c, h, e => by
    have h1 := det_sw (n := n) (A := A) (c := c + 1 + m) (by omega)
    have h2 : det n (sw A (c + 1 + m)) = 0 := by
      refine det_eq m (c := c) (by omega) (fun r hr => ?_)
      unfold sw rc
      rw [if_neg (by omega), if_neg (by omega), if_pos rfl]
      exact e r hr
    omega
theorem det_two {n : Nat} {A : Nat → Nat → Int} {c e : Nat} (hc : c < n) (he : e < n) (hne : c ≠ e) (h : ∀ r, r < n → A r c = A r e) : det n A = 0 := by
  by_cases q : c < e
  · refine det_eq (e - c - 1) (c := c) (by omega) (fun r hr => ?_)
    rw [show c + 1 + (e - c - 1) = e by omega]
    exact h r hr
  · refine det_eq (c - e - 1) (c := e) (by omega) (fun r hr => ?_)
    rw [show e + 1 + (c - e - 1) = c by omega]
    exact (h r hr).symm
theorem cramer {n : Nat} {A : Nat → Nat → Int} {x b : Nat → Int} {c : Nat} (hc : c < n) (h : ∀ r, r < n → sm (fun j => x j * A r j) n = b r) : det n (rc A c b) = x c * det n A := by
  have H : ∀ m, m ≤ n → det n (rc A c (fun r => sm (fun j => x j * A r j) m)) = if c < m then x c * det n A else 0 := by
    intro m
    induction m with
    | zero =>
      intro _
      have e := det_add (n := n) (A := A) (c := c) (u := fun _ => 0) (w := fun _ => 0) hc
      have e0 : det n (rc A c (fun _ => 0)) = 0 := by
        have e1 : det n (rc A c (fun _ => (0 : Int) + 0)) = det n (rc A c (fun _ => 0)) := rfl
        omega
      exact e0
    | succ m ih =>
      intro hm
      have e := det_lin n (A := A) (c := c) (x := x m) (u := fun r => A r m) (w := fun r => sm (fun j => x j * A r j) m) hc
      rw [show (fun r => x m * A r m + sm (fun j => x j * A r j) m) = (fun r => sm (fun j => x j * A r j) (m + 1)) from funext (fun r => by rw [sm]; omega), ih (by omega)] at e
      rw [e]
      by_cases q : m = c
      · subst q
        rw [rc_self, if_neg (by omega), if_pos (by omega)]
        omega
      · have z : det n (rc A c (fun r => A r m)) = 0 := by
          refine det_two hc (show m < n by omega) (fun w => q w.symm) (fun r hr => ?_)
          unfold rc
          rw [if_pos rfl, if_neg q]
        rw [z, Int.mul_zero, Int.zero_add]
        by_cases y : c < m
        · rw [if_pos y, if_pos (by omega)]
        · rw [if_neg y, if_neg (by omega)]
  have e := H n (Nat.le_refl _)
  rw [if_pos hc] at e
  rw [← e]
  refine det_congr n (fun r k hr hk => ?_)
  unfold rc
  by_cases q : k = c
  · rw [if_pos q, if_pos q]
    exact (h r hr).symm
  · rw [if_neg q, if_neg q]
theorem det_last : ∀ (n : Nat) {A : Nat → Nat → Int}, (∀ r, r ≤ n → A r n = if r = n then 1 else 0) → det (n + 1) A = det n A
  | 0, A, h => by
    have e : det 1 A = 0 + (-1) ^ 0 * A 0 0 * 1 := rfl
    rw [e, h 0 (by omega)]
    rfl
  | n + 1, A, h => by
    have e : det (n + 1 + 1) A = sm (fun j => (-1) ^ j * A 0 j * det (n + 1) (del j A)) (n + 1) + (-1) ^ (n + 1) * A 0 (n + 1) * det (n + 1) (del (n + 1) A) := rfl
    have e2 : det (n + 1) A = sm (fun j => (-1) ^ j * A 0 j * det n (del j A)) (n + 1) := rfl
    rw [e, e2, h 0 (by omega), if_neg (by omega), Int.mul_zero, Int.zero_mul, Int.add_zero]
    refine sm_congr (n + 1) (fun j hj => ?_)
    rw [det_last n (A := del j A) (fun r hr => ?_)]
    unfold del sk
    rw [if_neg (by omega), h (r + 1) (by omega)]
    by_cases q : r = n
    · rw [if_pos (by omega), if_pos q]
    · rw [if_neg (by omega), if_neg q]
def pr (f : Nat → Int) : Nat → Int
  | 0 => 1
  | n + 1 => pr f n * f n
theorem pr_shift {f : Nat → Int} : ∀ (n : Nat), pr f (n + 1) = f 0 * pr (fun r => f (r + 1)) n
  | 0 => by simp [pr]
  | n + 1 => by rw [pr, pr_shift n, pr, Int.mul_assoc]
theorem pr_nonneg {f : Nat → Int} : ∀ (n : Nat), (∀ j, j < n → 0 ≤ f j) → 0 ≤ pr f n
  | 0, _ => Int.zero_le_ofNat 1
  | n + 1, h => by rw [pr]; exact Int.mul_nonneg (pr_nonneg n (fun j hj => h j (by omega))) (h n (by omega))
theorem sm_le {f g : Nat → Int} : ∀ (n : Nat), (∀ j, j < n → f j ≤ g j) → sm f n ≤ sm g n
  | 0, _ => by simp [sm]
  | n + 1, h => by
    have := sm_le n (fun j hj => h j (by omega))
    have := h n (by omega)
    rw [sm, sm]
    omega
theorem sm_abs {f : Nat → Int} : ∀ (n : Nat), ((sm f n).natAbs : Int) ≤ sm (fun j => ((f j).natAbs : Int)) n
  | 0 => by simp [sm]
  | n + 1 => by
    have := sm_abs (f := f) n
    rw [sm, sm]
    omega
theorem sm_sk {f : Nat → Int} {j : Nat} : ∀ (n : Nat), j ≤ n → sm (fun k => f (sk j k)) n + f j = sm f (n + 1)
  | 0, h => by
    have e : j = 0 := by omega
    subst e
    rfl
  | n + 1, h => by
    by_cases q : j = n + 1
    · subst q
      show _ + f (n + 1) = sm f (n + 1) + f (n + 1)
      congr 1
      refine sm_congr (n + 1) (fun k hk => ?_)
      unfold sk
      rw [if_pos hk]
    · have e := sm_sk (f := f) (j := j) n (by omega)
      have e1 : sm (fun k => f (sk j k)) (n + 1) = sm (fun k => f (sk j k)) n + f (sk j n) := rfl
      have e2 : sm f (n + 1 + 1) = sm f (n + 1) + f (n + 1) := rfl
      have e3 : f (sk j n) = f (n + 1) := by unfold sk; rw [if_neg (by omega)]
      omega
theorem det_abs : ∀ (n : Nat) {A : Nat → Nat → Int} {R : Nat → Int}, (∀ r, r < n → sm (fun c => ((A r c).natAbs : Int)) n ≤ R r) → ((det n A).natAbs : Int) ≤ pr R n
  | 0, _, _, _ => Int.le_refl 1
  | n + 1, A, R, h => by
    have hs0 : ∀ (f : Nat → Int) (m : Nat), 0 ≤ sm (fun c => ((f c).natAbs : Int)) m := fun f m => by
      have := sm_abs (f := f) m
      omega
    have hR : ∀ r, r < n → 0 ≤ R (r + 1) := fun r hr => by
      have h1 := h (r + 1) (by omega)
      have h2 := hs0 (A (r + 1)) (n + 1)
      omega
    have hP := pr_nonneg (f := fun r => R (r + 1)) n hR
    rw [pr_shift, det]
    refine Int.le_trans (sm_abs (n + 1)) ?_
    have h1 : sm (fun j => (((-1) ^ j * A 0 j * det n (del j A)).natAbs : Int)) (n + 1) ≤ sm (fun j => pr (fun r => R (r + 1)) n * ((A 0 j).natAbs : Int)) (n + 1) := by
      refine sm_le (n + 1) (fun j hj => ?_)
      have hd := det_abs n (A := del j A) (R := fun r => R (r + 1)) (fun r hr => by
        have e := sm_sk (f := fun c => ((A (r + 1) c).natAbs : Int)) (j := j) n (by omega)
        have h2 := h (r + 1) (by omega)
        have h3 : sm (fun c => ((del j A r c).natAbs : Int)) n = sm (fun k => ((A (r + 1) (sk j k)).natAbs : Int)) n := rfl
        omega)
      have hp : ((-1 : Int) ^ j).natAbs = 1 := by rw [Int.natAbs_pow]; simp
      rw [Int.natAbs_mul, Int.natAbs_mul, hp, Nat.one_mul, Int.natCast_mul, Int.mul_comm]
      exact Int.mul_le_mul_of_nonneg_right hd (by omega)
    refine Int.le_trans h1 ?_
    rw [sm_mul, Int.mul_comm]
    exact Int.mul_le_mul_of_nonneg_right (h 0 (by omega)) hP
