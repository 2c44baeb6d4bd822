section
/-! Determinants: Cramer's rule, a bound, the last column. -/
theorem rc_comm {A : Nat → Nat → Int} {c e : Nat} {u w : Nat → Int} (h : c ≠ e) : rc (rc A e w) c u = rc (rc A c u) e w := by
  funext r k
  unfold rc
  by_cases q : k = c
  · rw [if_pos q, if_neg (by omega), if_pos q]
  · rw [if_neg q]
    by_cases z : k = e
    · rw [if_pos z, if_pos z]
    · rw [if_neg z, if_neg z, if_neg q]
theorem rc_self {A : Nat → Nat → Int} {c : Nat} : rc A c (fun r => A r c) = A := by
  funext r k
  unfold rc
  by_cases q : k = c
  · rw [if_pos q, q]
  · rw [if_neg q]
theorem det_add {n : Nat} {A : Nat → Nat → Int} {c : Nat} {u w : Nat → Int} (h : c < n) : det n (rc A c (fun r => u r + w r)) = det n (rc A c u) + det n (rc A c w) := by
  have e := det_lin n (A := A) (c := c) (x := 1) (u := u) (w := w) h
  rw [show (fun r => 1 * u r + w r) = (fun r => u r + w r) from funext (fun r => by omega)] at e
  omega
def sw (A : Nat → Nat → Int) (c : Nat) : Nat → Nat → Int := rc (rc A (c + 1) (fun r => A r c)) c (fun r => A r (c + 1))
theorem det_sw {n : Nat} {A : Nat → Nat → Int} {c : Nat} (h : c + 1 < n) : det n (sw A c) = - det n A := by
  have z : ∀ u : Nat → Int, det n (rc (rc A c u) (c + 1) u) = 0 := fun u => by
    refine det_adj n h (fun r hr => ?_)
    unfold rc
    rw [if_neg (by omega), if_pos rfl, if_pos rfl]
  have C : ∀ u w : Nat → Int, rc (rc A c u) (c + 1) w = rc (rc A (c + 1) w) c u := fun u w => (rc_comm (by omega)).symm
  have L : ∀ w : Nat → Int, det n (rc (rc A c (fun r => A r c + A r (c + 1))) (c + 1) w) = det n (rc (rc A c (fun r => A r c)) (c + 1) w) + det n (rc (rc A c (fun r => A r (c + 1))) (c + 1) w) := fun w => by
    rw [C, C, C]
    exact det_add (by omega)
  have e := z (fun r => A r c + A r (c + 1))
  rw [det_add h, L, L, z, z] at e
  have e1 : rc (rc A c (fun r => A r c)) (c + 1) (fun r => A r (c + 1)) = A := by rw [rc_self, rc_self]
  rw [e1, C] at e
  unfold sw
  omega
theorem det_eq : ∀ (m : Nat) {n : Nat} {A : Nat → Nat → Int} {c : Nat}, c + 1 + m < n → (∀ r, r < n → A r c = A r (c + 1 + m)) → det n A = 0
  | 0, n, A, c, h, e => det_adj n h e
  | m + 1, n, A, c, h, e => by
    have h1 := det_sw (n := n) (A := A) (c := c + 1 + m) (by omega)
    have h2 : det n (sw A (c + 1 + m)) = 0 := by
      refine det_eq m (c := c) (by omega) (fun r hr => ?_)
      unfold sw rc
      rw [if_neg (by omega), if_neg (by omega), if_pos rfl]
      exact e r hr
    omega
theorem det_two {n : Nat} {A : Nat → Nat → Int} {c e : Nat} (hc : c < n) (he : e < n) (hne : c ≠ e) (h : ∀ r, r < n → A r c = A r e) : det n A = 0 := by
  by_cases q : c < e
  · refine det_eq (e - c - 1) (c := c) (by omega) (fun r hr => ?_)
    rw [show c + 1 + (e - c - 1) = e by omega]
    exact h r hr
  · refine det_eq (c - e - 1) (c := e) (by omega) (fun r hr => ?_)
    rw [show e + 1 + (c - e - 1) = c by omega]
    exact (h r hr).symm
theorem cramer {n : Nat} {A : Nat → Nat → Int} {x b : Nat → Int} {c : Nat} (hc : c < n) (h : ∀ r, r < n → sm (fun j => x j * A r j) n = b r) : det n (rc A c b) = x c * det n A := by
  have H : ∀ m, m ≤ n → det n (rc A c (fun r => sm (fun j => x j * A r j) m)) = if c < m then x c * det n A else 0 := by
    intro m
    induction m with
    | zero =>
      intro _
      have e := det_add (n := n) (A := A) (c := c) (u := fun _ => 0) (w := fun _ => 0) hc
      have e0 : det n (rc A c (fun _ => 0)) = 0 := by
        have e1 : det n (rc A c (fun _ => (0 : Int) + 0)) = det n (rc A c (fun _ => 0)) := rfl
        omega
      exact e0
    | succ m ih =>
      intro hm
      have e := det_lin n (A := A) (c := c) (x := x m) (u := fun r => A r m) (w := fun r => sm (fun j => x j * A r j) m) hc
      rw [show (fun r => x m * A r m + sm (fun j => x j * A r j) m) = (fun r => sm (fun j => x j * A r j) (m + 1)) from funext (fun r => by rw [sm]; omega), ih (by omega)] at e
      rw [e]
      by_cases q : m = c
      · subst q
        rw [rc_self, if_neg (by omega), if_pos (by omega)]
        omega
      · have z : det n (rc A c (fun r => A r m)) = 0 := by
          refine det_two hc (show m < n by omega) (fun w => q w.symm) (fun r hr => ?_)
          unfold rc
          rw [if_pos rfl, if_neg q]
        rw [z, Int.mul_zero, Int.zero_add]
        by_cases y : c < m
        · rw [if_pos y, if_pos (by omega)]
        · rw [if_neg y, if_neg (by omega)]
  have e := H n (Nat.le_refl _)
  rw [if_pos hc] at e
  rw [← e]
  refine det_congr n (fun r k hr hk => ?_)
  unfold rc
  by_cases q : k = c
  · rw [if_pos q, if_pos q]
    exact (h r hr).symm
  · rw [if_neg q, if_neg q]
theorem det_last : ∀ (n : Nat) {A : Nat → Nat → Int}, (∀ r, r ≤ n → A r n = if r = n then 1 else 0) → det (n + 1) A = det n A
  | 0, A, h => by
    have e : det 1 A = 0 + (-1) ^ 0 * A 0 0 * 1 := rfl
    rw [e, h 0 (by omega)]
    rfl
  | n + 1, A, h => by
    have e : det (n + 1 + 1) A = sm (fun j => (-1) ^ j * A 0 j * det (n + 1) (del j A)) (n + 1) + (-1) ^ (n + 1) * A 0 (n + 1) * det (n + 1) (del (n + 1) A) := rfl
    have e2 : det (n + 1) A = sm (fun j => (-1) ^ j * A 0 j * det n (del j A)) (n + 1) := rfl
    rw [e, e2, h 0 (by omega), if_neg (by omega), Int.mul_zero, Int.zero_mul, Int.add_zero]
    refine sm_congr (n + 1) (fun j hj => ?_)
    rw [det_last n (A := del j A) (fun r hr => ?_)]
    unfold del sk
    rw [if_neg (by omega), h (r + 1) (by omega)]
    by_cases q : r = n
    · rw [if_pos (by omega), if_pos q]
    · rw [if_neg (by omega), if_neg q]
def pr (f : Nat → Int) : Nat → Int
  | 0 => 1
  | n + 1 => pr f n * f n
theorem pr_shift {f : Nat → Int} : ∀ (n : Nat), pr f (n + 1) = f 0 * pr (fun r => f (r + 1)) n
  | 0 => by simp [pr]
  | n + 1 => by rw [pr, pr_shift n, pr, Int.mul_assoc]
theorem pr_nonneg {f : Nat → Int} : ∀ (n : Nat), (∀ j, j < n → 0 ≤ f j) → 0 ≤ pr f n
  | 0, _ => Int.zero_le_ofNat 1
  | n + 1, h => by rw [pr]; exact Int.mul_nonneg (pr_nonneg n (fun j hj => h j (by omega))) (h n (by omega))
theorem sm_le {f g : Nat → Int} : ∀ (n : Nat), (∀ j, j < n → f j ≤ g j) → sm f n ≤ sm g n
  | 0, _ => by simp [sm]
  | n + 1, h => by
    have := sm_le n (fun j hj => h j (by omega))
    have := h n (by omega)
    rw [sm, sm]
    omega
theorem sm_abs {f : Nat → Int} : ∀ (n : Nat), ((sm f n).natAbs : Int) ≤ sm (fun j => ((f j).natAbs : Int)) n
  | 0 => by simp [sm]
  | n + 1 => by
    have := sm_abs (f := f) n
    rw [sm, sm]
    omega
theorem sm_sk {f : Nat → Int} {j : Nat} : ∀ (n : Nat), j ≤ n → sm (fun k => f (sk j k)) n + f j = sm f (n + 1)
  | 0, h => by
    have e : j = 0 := by omega
    subst e
    rfl
  | n + 1, h => by
    by_cases q : j = n + 1
    · subst q
      show _ + f (n + 1) = sm f (n + 1) + f (n + 1)
      congr 1
      refine sm_congr (n + 1) (fun k hk => ?_)
      unfold sk
      rw [if_pos hk]
    · have e := sm_sk (f := f) (j := j) n (by omega)
      have e1 : sm (fun k => f (sk j k)) (n + 1) = sm (fun k => f (sk j k)) n + f (sk j n) := rfl
      have e2 : sm f (n + 1 + 1) = sm f (n + 1) + f (n + 1) := rfl
      have e3 : f (sk j n) = f (n + 1) := by unfold sk; rw [if_neg (by omega)]
      omega
theorem det_abs : ∀ (n : Nat) {A : Nat → Nat → Int} {R : Nat → Int}, (∀ r, r < n → sm (fun c => ((A r c).natAbs : Int)) n ≤ R r) → ((det n A).natAbs : Int) ≤ pr R n
  | 0, _, _, _ => Int.le_refl 1
  | n + 1, A, R, h => by
    have hs0 : ∀ (f : Nat → Int) (m : Nat), 0 ≤ sm (fun c => ((f c).natAbs : Int)) m := fun f m => by
      have := sm_abs (f := f) m
      omega
    have hR : ∀ r, r < n → 0 ≤ R (r + 1) := fun r hr => by
      have h1 := h (r + 1) (by omega)
      have h2 := hs0 (A (r + 1)) (n + 1)
      omega
    have hP := pr_nonneg (f := fun r => R (r + 1)) n hR
    rw [pr_shift, det]
    refine Int.le_trans (sm_abs (n + 1)) ?_
    have h1 : sm (fun j => (((-1) ^ j * A 0 j * det n (del j A)).natAbs : Int)) (n + 1) ≤ sm (fun j => pr (fun r => R (r + 1)) n * ((A 0 j).natAbs : Int)) (n + 1) := by
      refine sm_le (n + 1) (fun j hj => ?_)
      have hd := det_abs n (A := del j A) (R := fun r => R (r + 1)) (fun r hr => by
        have e := sm_sk (f := fun c => ((A (r + 1) c).natAbs : Int)) (j := j) n (by omega)
        have h2 := h (r + 1) (by omega)
        have h3 : sm (fun c => ((del j A r c).natAbs : Int)) n = sm (fun k => ((A (r + 1) (sk j k)).natAbs : Int)) n := rfl
        omega)
      have hp : ((-1 : Int) ^ j).natAbs = 1 := by rw [Int.natAbs_pow]; simp
      rw [Int.natAbs_mul, Int.natAbs_mul, hp, Nat.one_mul, Int.natCast_mul, Int.mul_comm]
      exact Int.mul_le_mul_of_nonneg_right hd (by omega)
    refine Int.le_trans h1 ?_
    rw [sm_mul, Int.mul_comm]
    exact Int.mul_le_mul_of_nonneg_right (h 0 (by omega)) hP
end
section
/-! Elimination of states, over fractions: what stays true. -/
def sr (f : Nat → Rat) : Nat → Rat
  | 0 => 0
  | n + 1 => sr f n + f n
theorem sr_congr {f g : Nat → Rat} : ∀ (n : Nat), (∀ j, j < n → f j = g j) → sr f n = sr g n
  | 0, _ => rfl
  | n + 1, h => by rw [sr, sr, sr_congr n (fun j hj => h j (by omega)), h n (by omega)]
theorem sr_add {f g : Nat → Rat} : ∀ (n : Nat), sr (fun j => f j + g j) n = sr f n + sr g n
  | 0 => by show (0 : Rat) = 0 + 0; grind
  | n + 1 => by rw [sr, sr, sr, sr_add n]; grind
theorem sr_mul {f : Nat → Rat} {x : Rat} : ∀ (n : Nat), sr (fun j => x * f j) n = x * sr f n
  | 0 => by simp [sr]
  | n + 1 => by rw [sr, sr, sr_mul n]; grind
theorem sr_le {f g : Nat → Rat} : ∀ (n : Nat), (∀ j, j < n → f j ≤ g j) → sr f n ≤ sr g n
  | 0, _ => by simp [sr]
  | n + 1, h => by
    have h1 := sr_le n (fun j hj => h j (by omega))
    have h2 := h n (by omega)
    rw [sr, sr]
    grind
theorem sr_nonneg {f : Nat → Rat} : ∀ (n : Nat), (∀ j, j < n → 0 ≤ f j) → 0 ≤ sr f n
  | 0, _ => by simp [sr]
  | n + 1, h => by
    have h1 := sr_nonneg n (fun j hj => h j (by omega))
    have h2 := h n (by omega)
    rw [sr]
    grind
theorem sr_shift {f : Nat → Rat} : ∀ (n : Nat), sr f (n + 1) = f 0 + sr (fun t => f (t + 1)) n
  | 0 => by show (0 : Rat) + f 0 = f 0 + 0; grind
  | n + 1 => by
    have e : sr f (n + 1 + 1) = sr f (n + 1) + f (n + 1) := rfl
    have e2 : sr (fun t => f (t + 1)) (n + 1) = sr (fun t => f (t + 1)) n + f (n + 1) := rfl
    rw [e, e2, sr_shift n]
    grind
theorem alg1 {a w H Y : Rat} (hw : (1 - a) * w = 1) (h1 : 0 ≤ w * ((1 - a) * H - Y)) : 0 ≤ H - w * Y := by
  have e : H - w * Y = w * ((1 - a) * H - Y) := by grind
  rw [e]
  exact h1
/-- one state is taken out -/
def gst (k : Nat) (q : Nat → Nat → Rat) : Nat → Nat → Rat := fun i j => q i j + q i k * ((1 - q k k)⁻¹ * q k j)
def gq (p : Nat → Nat → Rat) : Nat → Nat → Nat → Rat
  | 0 => p
  | k + 1 => gst k (gq p k)
/-- m states, k of them taken out; h says that each state loses something -/
def gok (m k : Nat) (q : Nat → Nat → Rat) (h : Nat → Rat) : Prop := (∀ i j, i < m → k ≤ j → j ≤ m → 0 ≤ q i j) ∧ (∀ i, i < m → sr (fun t => q i (k + t)) (m + 1 - k) ≤ 1) ∧ (∀ i, i < m → 0 < h i) ∧ (∀ i, i < m → sr (fun t => q i (k + t) * h (k + t)) (m - k) < h i)
theorem gok_pivot {m k : Nat} {q : Nat → Nat → Rat} {h : Nat → Rat} (g : gok m k q h) (hk : k < m) : 0 < 1 - q k k := by
  obtain ⟨g1, g2, g3, g4⟩ := g
  have a := g4 k hk
  rw [show m - k = (m - k - 1) + 1 by omega, sr_shift] at a
  have b : 0 ≤ sr (fun t => q k (k + (t + 1)) * h (k + (t + 1))) (m - k - 1) := sr_nonneg _ (fun t ht => Rat.mul_nonneg (g1 k _ hk (by omega) (by omega)) (Rat.le_of_lt (g3 _ (by omega))))
  have c := g3 k hk
  have e : q k (k + 0) * h (k + 0) = q k k * h k := rfl
  rw [e] at a
  refine Classical.byContradiction (fun w => ?_)
  have d : 0 ≤ (q k k - 1) * h k := Rat.mul_nonneg (by grind) (Rat.le_of_lt c)
  grind
theorem gok_step {m k : Nat} {q : Nat → Nat → Rat} {h : Nat → Rat} (g : gok m k q h) (hk : k < m) : gok m (k + 1) (gst k q) h := by
  have hp := gok_pivot g hk
  obtain ⟨g1, g2, g3, g4⟩ := g
  have hw0 : 0 < (1 - q k k)⁻¹ := Rat.inv_pos.2 hp
  have hw1 : (1 - q k k) * (1 - q k k)⁻¹ = 1 := Rat.mul_inv_cancel _ (by grind)
  have hg : ∀ i j, gst k q i j = q i j + q i k * ((1 - q k k)⁻¹ * q k j) := fun i j => rfl
  generalize (1 - q k k)⁻¹ = w at *
  have hr : ∀ j, k ≤ j → j ≤ m → 0 ≤ w * q k j := fun j h1 h2 => Rat.mul_nonneg (Rat.le_of_lt hw0) (g1 k j hk h1 h2)
  have hk0 : ∀ i, i < m → 0 ≤ q i k := fun i hi => g1 i k hi (by omega) (by omega)
  refine ⟨fun i j hi hj hj2 => ?_, fun i hi => ?_, g3, fun i hi => ?_⟩
  · rw [hg]
    have := g1 i j hi (by omega) hj2
    have := Rat.mul_nonneg (hk0 i hi) (hr j (by omega) hj2)
    grind
  · have e1 : sr (fun t => gst k q i (k + 1 + t)) (m + 1 - (k + 1)) = sr (fun t => q i (k + (t + 1))) (m - k) + q i k * (w * sr (fun t => q k (k + (t + 1))) (m - k)) := by
      rw [← sr_mul, ← sr_mul, ← sr_add, show m + 1 - (k + 1) = m - k by omega]
      refine sr_congr _ (fun t ht => ?_)
      rw [hg, show k + 1 + t = k + (t + 1) by omega]
    have e2 := g2 i hi
    have e3 := g2 k hk
    rw [show m + 1 - k = (m - k) + 1 by omega, sr_shift] at e2 e3
    have e2' : q i (k + 0) = q i k := rfl
    have e3' : q k (k + 0) = q k k := rfl
    rw [e2'] at e2
    rw [e3'] at e3
    rw [e1]
    generalize sr (fun t => q i (k + (t + 1))) (m - k) = X at *
    generalize sr (fun t => q k (k + (t + 1))) (m - k) = Y at *
    have h1 : 0 ≤ w * (1 - q k k - Y) := Rat.mul_nonneg (Rat.le_of_lt hw0) (by grind)
    have h2 : 0 ≤ q i k * (1 - w * Y) := Rat.mul_nonneg (hk0 i hi) (by grind)
    grind
  · have e1 : sr (fun t => gst k q i (k + 1 + t) * h (k + 1 + t)) (m - (k + 1)) = sr (fun t => q i (k + (t + 1)) * h (k + (t + 1))) (m - k - 1) + q i k * (w * sr (fun t => q k (k + (t + 1)) * h (k + (t + 1))) (m - k - 1)) := by
      rw [← sr_mul, ← sr_mul, ← sr_add, show m - (k + 1) = m - k - 1 by omega]
      refine sr_congr _ (fun t ht => ?_)
      rw [hg, show k + 1 + t = k + (t + 1) by omega]
      grind
    have e2 := g4 i hi
    have e3 := g4 k hk
    rw [show m - k = (m - k - 1) + 1 by omega, sr_shift] at e2 e3
    have e2' : q i (k + 0) * h (k + 0) = q i k * h k := rfl
    have e3' : q k (k + 0) * h (k + 0) = q k k * h k := rfl
    rw [e2'] at e2
    rw [e3'] at e3
    rw [e1]
    generalize sr (fun t => q i (k + (t + 1)) * h (k + (t + 1))) (m - k - 1) = X at *
    generalize sr (fun t => q k (k + (t + 1)) * h (k + (t + 1))) (m - k - 1) = Y at *
    have h1 : 0 ≤ w * ((1 - q k k) * h k - Y) := Rat.mul_nonneg (Rat.le_of_lt hw0) (by grind)
    have h2 : 0 ≤ q i k * (h k - w * Y) := Rat.mul_nonneg (hk0 i hi) (alg1 hw1 h1)
    clear g1 g2 g3 g4 hg hr hk0 e1 e2' e3' h1
    grind
theorem gok_all {m : Nat} {p : Nat → Nat → Rat} {h : Nat → Rat} (g : gok m 0 p h) : ∀ k, k ≤ m → gok m k (gq p k) h
  | 0, _ => g
  | k + 1, hk => gok_step (gok_all g k (by omega)) (by omega)
/-- what has been taken out still solves its rows -/
theorem gq_eq {m : Nat} {p : Nat → Nat → Rat} {h : Nat → Rat} (g : gok m 0 p h) : ∀ k, k ≤ m → ∀ i j, gq p k i j = p i j + sr (fun t => p i t * gq p k t j) k
  | 0, _, i, j => by show p i j = p i j + 0; grind
  | k + 1, hk, i, j => by
    have ih := gq_eq g k (by omega)
    have hp := gok_pivot (gok_all g k (by omega)) (by omega)
    have hw1 : (1 - gq p k k k) * (1 - gq p k k k)⁻¹ = 1 := Rat.mul_inv_cancel _ (by grind)
    have hg : ∀ i j, gq p (k + 1) i j = gq p k i j + gq p k i k * ((1 - gq p k k k)⁻¹ * gq p k k j) := fun i j => rfl
    have e1 : sr (fun t => p i t * gq p (k + 1) t j) (k + 1) = sr (fun t => p i t * gq p k t j) k + ((1 - gq p k k k)⁻¹ * gq p k k j) * sr (fun t => p i t * gq p k t k) k + p i k * gq p (k + 1) k j := by
      rw [sr, ← sr_mul, ← sr_add]
      congr 1
      refine sr_congr _ (fun t ht => ?_)
      rw [hg]
      grind
    have e2 := ih i j
    have e3 := ih i k
    rw [e1, hg i j, hg k j]
    generalize sr (fun t => p i t * gq p k t j) k = X at *
    generalize sr (fun t => p i t * gq p k t k) k = Y at *
    generalize (1 - gq p k k k)⁻¹ = w at *
    generalize gq p k k k = a at *
    generalize gq p k k j = b at *
    grind
end
section
/-! Elimination of states: what the fractions are divided by. -/
theorem rat_den (q : Rat) : q * ((q.den : Int) : Rat) = (q.num : Rat) := by
  have h : q = (q.num : Rat) / ((q.den : Int) : Rat) := by
    have := Rat.num_divInt_den q
    rw [Rat.divInt_eq_div] at this
    exact this.symm
  have hp : ((q.den : Int) : Rat) ≠ 0 := by
    have := q.den_pos
    intro w
    have w2 : (q.den : Int) = 0 := by exact_mod_cast w
    omega
  rw [Rat.div_def] at h
  have := Rat.inv_mul_cancel _ hp
  grind
theorem sm_cast {f : Nat → Int} : ∀ (n : Nat), ((sm f n : Int) : Rat) = sr (fun j => (f j : Rat)) n
  | 0 => rfl
  | n + 1 => by rw [sm, sr, Rat.intCast_add, sm_cast n]
theorem com_den (y : Nat → Rat) : ∀ n, ∃ E : Int, 0 < E ∧ ∃ Y : Nat → Int, ∀ c, c < n → y c * (E : Rat) = (Y c : Rat)
  | 0 => ⟨1, by omega, fun _ => 0, fun c hc => by omega⟩
  | n + 1 => by
    obtain ⟨E, h0, Y, hY⟩ := com_den y n
    have hd := (y n).den_pos
    refine ⟨E * ((y n).den : Int), Int.mul_pos h0 (by omega), fun c => if c = n then E * (y n).num else Y c * ((y n).den : Int), fun c hc => ?_⟩
    by_cases q : c = n
    · subst q
      show _ = ((if c = c then E * (y c).num else Y c * ((y c).den : Int) : Int) : Rat)
      rw [if_pos rfl, Rat.intCast_mul, Rat.intCast_mul, ← rat_den (y c)]
      grind
    · show _ = ((if c = n then E * (y n).num else Y c * ((y n).den : Int) : Int) : Rat)
      rw [if_neg q, Rat.intCast_mul, Rat.intCast_mul, ← hY c (by omega)]
      grind
theorem det_zero {n : Nat} {A : Nat → Nat → Int} {c : Nat} (hc : c < n) : det n (rc A c (fun _ => 0)) = 0 := by
  have e := det_add (n := n) (A := A) (c := c) (u := fun _ => 0) (w := fun _ => 0) hc
  have e1 : det n (rc A c (fun _ => (0 : Int) + 0)) = det n (rc A c (fun _ => 0)) := rfl
  omega
theorem det_smul {n : Nat} {A : Nat → Nat → Int} {c : Nat} {x : Int} {u : Nat → Int} (hc : c < n) : det n (rc A c (fun r => x * u r)) = x * det n (rc A c u) := by
  have e := det_lin n (A := A) (c := c) (x := x) (u := u) (w := fun _ => 0) hc
  rw [det_zero hc, Int.add_zero] at e
  rw [← e]
  congr 1
  funext r
  show rc A c (fun r => x * u r) r = rc A c (fun r => x * u r + 0) r
  simp only [Int.add_zero]
theorem cramerR {n : Nat} {A : Nat → Nat → Int} {y : Nat → Rat} {b : Nat → Int} {c : Nat} (hc : c < n) (h : ∀ r, r < n → sr (fun j => y j * (A r j : Rat)) n = (b r : Rat)) : ((det n (rc A c b) : Int) : Rat) = y c * ((det n A : Int) : Rat) := by
  obtain ⟨E, h0, Y, hY⟩ := com_den y n
  have hE : (E : Rat) ≠ 0 := by
    intro w
    have w2 : E = 0 := by exact_mod_cast w
    omega
  have hb : ∀ r, r < n → sm (fun j => Y j * A r j) n = E * b r := fun r hr => by
    have e : ((sm (fun j => Y j * A r j) n : Int) : Rat) = ((E * b r : Int) : Rat) := by
      rw [sm_cast, Rat.intCast_mul, ← h r hr, ← sr_mul]
      refine sr_congr n (fun j hj => ?_)
      rw [Rat.intCast_mul, ← hY j hj]
      grind
    exact_mod_cast e
  have e := cramer hc hb
  rw [det_smul hc] at e
  have e2 : ((E * det n (rc A c b) : Int) : Rat) = ((Y c * det n A : Int) : Rat) := by rw [e]
  rw [Rat.intCast_mul, Rat.intCast_mul, ← hY c hc] at e2
  have e3 := Rat.inv_mul_cancel _ hE
  generalize ((det n (rc A c b) : Int) : Rat) = P at *
  generalize ((det n A : Int) : Rat) = Q at *
  have e4 : (E : Rat)⁻¹ * ((E : Rat) * P) = (E : Rat)⁻¹ * (y c * (E : Rat) * Q) := by rw [e2]
  grind
/-- the rows in whole numbers -/
def bm (N : Nat → Nat → Int) (D : Nat → Int) : Nat → Nat → Int := fun r c => (if r = c then D r else 0) - N r c
theorem sr_pick {r : Nat} {x : Rat} {y : Nat → Rat} : ∀ (n : Nat), sr (fun c => if r = c then x * y c else 0) n = if r < n then x * y r else 0
  | 0 => by show (0 : Rat) = _; rw [if_neg (by omega)]
  | n + 1 => by
    rw [sr, sr_pick n]
    by_cases q : r = n
    · subst q
      rw [if_neg (by omega), if_pos rfl, if_pos (by omega)]
      grind
    · rw [if_neg q]
      by_cases z : r < n
      · rw [if_pos z, if_pos (by omega)]
        grind
      · rw [if_neg z, if_neg (by omega)]
        grind
theorem bm_row {N : Nat → Nat → Int} {D : Nat → Int} {p : Nat → Nat → Rat} {y : Nat → Rat} {r n : Nat} (hp : ∀ c, c < n → (D r : Rat) * p r c = (N r c : Rat)) : sr (fun c => y c * (bm N D r c : Rat)) n = (if r < n then (D r : Rat) * y r else 0) - (D r : Rat) * sr (fun c => p r c * y c) n := by
  have e : sr (fun c => y c * (bm N D r c : Rat)) n = sr (fun c => (if r = c then (D r : Rat) * y c else 0) + (- (D r : Rat)) * (p r c * y c)) n := by
    refine sr_congr n (fun c hc => ?_)
    unfold bm
    have h1 := hp c hc
    by_cases q : r = c
    · rw [if_pos q, if_pos q, Rat.intCast_sub, ← h1]
      grind
    · rw [if_neg q, if_neg q, Rat.intCast_sub, ← h1]
      have : ((0 : Int) : Rat) = 0 := rfl
      grind
  rw [e, sr_add, sr_pick, sr_mul]
  grind
end
section
/-! Elimination of states: the divisor is a determinant, positive and small. -/
section DV
variable {m : Nat} {p : Nat → Nat → Rat} {h : Nat → Rat} {N : Nat → Nat → Int} {D : Nat → Int}
theorem gq_solves (g : gok m 0 p h) (hp : ∀ r c, r < m → c ≤ m → (D r : Rat) * p r c = (N r c : Rat)) {k j r : Nat} (hk : k ≤ m) (hj : j ≤ m) (hr : r < k) : sr (fun c => gq p k c j * (bm N D r c : Rat)) k = (N r j : Rat) := by
  rw [bm_row (p := p) (fun c hc => hp r c (by omega) (by omega)), if_pos hr, ← hp r j (by omega) hj]
  have e := gq_eq g k hk r j
  generalize sr (fun c => p r c * gq p k c j) k = X at *
  grind
theorem det_step (g : gok m 0 p h) (hp : ∀ r c, r < m → c ≤ m → (D r : Rat) * p r c = (N r c : Rat)) {k : Nat} (hk : k < m) : ((det (k + 1) (bm N D) : Int) : Rat) = (1 - gq p k k k) * (D k : Rat) * ((det k (bm N D) : Int) : Rat) := by
  have hpv := gok_pivot (gok_all g k (by omega)) hk
  have hw1 : (1 - gq p k k k) * (1 - gq p k k k)⁻¹ = 1 := Rat.mul_inv_cancel _ (by grind)
  have hb : ∀ r, r < k + 1 → sr (fun c => (if c = k then (1 - gq p k k k)⁻¹ else (1 - gq p k k k)⁻¹ * gq p k c k) * (bm N D r c : Rat)) (k + 1) = (((D k) * (if r = k then 1 else 0) : Int) : Rat) := by
    intro r hr
    rw [bm_row (p := p) (fun c hc => hp r c (by omega) (by omega)), if_pos hr, sr, if_pos rfl]
    have e0 : sr (fun c => p r c * (if c = k then (1 - gq p k k k)⁻¹ else (1 - gq p k k k)⁻¹ * gq p k c k)) k = (1 - gq p k k k)⁻¹ * sr (fun c => p r c * gq p k c k) k := by
      rw [← sr_mul]
      refine sr_congr k (fun c hc => ?_)
      rw [if_neg (by omega)]
      grind
    rw [e0]
    have e1 := gq_eq g k (by omega) r k
    by_cases q : r = k
    · subst q
      rw [if_pos rfl, if_pos rfl, Int.mul_one]
      generalize sr (fun c => p r c * gq p r c r) r = X at *
      generalize hw : (1 - gq p r r r)⁻¹ = w at *
      grind
    · rw [if_neg q, if_neg q, Int.mul_zero]
      have z : ((0 : Int) : Rat) = 0 := rfl
      rw [z]
      generalize sr (fun c => p r c * gq p k c k) k = X at *
      generalize (1 - gq p k k k)⁻¹ = w at *
      grind
  have e := cramerR (n := k + 1) (A := bm N D) (c := k) (by omega) hb
  rw [det_smul (by omega), det_last k (fun r hr => by unfold rc; rw [if_pos rfl]), det_congr k (B := bm N D) (fun r c hr hc => by unfold rc; rw [if_neg (by omega)]), if_pos rfl, Rat.intCast_mul] at e
  generalize ((det (k + 1) (bm N D) : Int) : Rat) = P at *
  generalize ((det k (bm N D) : Int) : Rat) = Q at *
  generalize (1 - gq p k k k)⁻¹ = w at *
  generalize gq p k k k = a at *
  clear hb
  grind
theorem det_pos (g : gok m 0 p h) (hp : ∀ r c, r < m → c ≤ m → (D r : Rat) * p r c = (N r c : Rat)) (hD : ∀ r, r < m → 0 < D r) : ∀ k, k ≤ m → 0 < det k (bm N D)
  | 0, _ => Int.zero_lt_one
  | k + 1, hk => by
    have ih := det_pos g hp hD k (by omega)
    have e := det_step g hp (k := k) (by omega)
    have hpv := gok_pivot (gok_all g k (by omega)) (by omega)
    have h1 : 0 < ((det (k + 1) (bm N D) : Int) : Rat) := by
      rw [e]
      exact Rat.mul_pos (Rat.mul_pos hpv (Rat.intCast_pos.2 (hD k (by omega)))) (Rat.intCast_pos.2 ih)
    exact Rat.intCast_pos.1 h1
/-- the divisor makes whole numbers of what is taken out -/
theorem gq_int (g : gok m 0 p h) (hp : ∀ r c, r < m → c ≤ m → (D r : Rat) * p r c = (N r c : Rat)) {k j i : Nat} (hk : k ≤ m) (hj : j ≤ m) (hi : i < k) : ∃ z : Int, gq p k i j * ((det k (bm N D) : Int) : Rat) = (z : Rat) :=
  ⟨_, (cramerR (A := bm N D) (y := fun c => gq p k c j) (b := fun r => N r j) hi (fun r hr => gq_solves g hp hk hj hr)).symm⟩
theorem sr_int {f : Nat → Rat} : ∀ (n : Nat), (∀ c, c < n → ∃ z : Int, f c = (z : Rat)) → ∃ z : Int, sr f n = (z : Rat)
  | 0, _ => ⟨0, rfl⟩
  | n + 1, h => by
    obtain ⟨a, ha⟩ := sr_int n (fun c hc => h c (by omega))
    obtain ⟨b, hb⟩ := h n (by omega)
    exact ⟨a + b, by rw [sr, ha, hb, Rat.intCast_add]⟩
theorem gq_int2 (g : gok m 0 p h) (hp : ∀ r c, r < m → c ≤ m → (D r : Rat) * p r c = (N r c : Rat)) {k j i : Nat} (hk : k ≤ m) (hj : j ≤ m) (hi : i < m) : ∃ z : Int, gq p k i j * (((D i) * det k (bm N D) : Int) : Rat) = (z : Rat) := by
  have e := gq_eq g k hk i j
  obtain ⟨z, hz⟩ := sr_int (f := fun c => (N i c : Rat) * (gq p k c j * ((det k (bm N D) : Int) : Rat))) k (fun c hc => by
    obtain ⟨z, hz⟩ := gq_int g hp hk hj hc
    exact ⟨N i c * z, by rw [hz, Rat.intCast_mul]⟩)
  refine ⟨N i j * det k (bm N D) + z, ?_⟩
  have e2 : sr (fun c => (N i c : Rat) * (gq p k c j * ((det k (bm N D) : Int) : Rat))) k = ((D i : Rat) * ((det k (bm N D) : Int) : Rat)) * sr (fun c => p i c * gq p k c j) k := by
    rw [← sr_mul]
    refine sr_congr k (fun c hc => ?_)
    rw [← hp i c hi (by omega)]
    grind
  rw [Rat.intCast_add, Rat.intCast_mul, Rat.intCast_mul, ← hz, e2, ← hp i j hi hj]
  generalize sr (fun c => p i c * gq p k c j) k = X at *
  generalize ((det k (bm N D) : Int) : Rat) = Q at *
  grind
theorem sm_pickI {r : Nat} {x : Int} : ∀ (n : Nat), sm (fun c => if r = c then x else 0) n = if r < n then x else 0
  | 0 => by rw [if_neg (by omega)]; rfl
  | n + 1 => by
    rw [sm, sm_pickI n]
    by_cases q : r = n
    · subst q
      rw [if_neg (by omega), if_pos rfl, if_pos (by omega)]
      omega
    · rw [if_neg q]
      by_cases z : r < n
      · rw [if_pos z, if_pos (by omega)]; omega
      · rw [if_neg z, if_neg (by omega)]; rfl
theorem det_small {k : Nat} (hN : ∀ r c, r < k → c < k → 0 ≤ N r c) (hD : ∀ r, r < k → 0 ≤ D r ∧ sm (fun c => N r c) k ≤ D r) : ((det k (bm N D)).natAbs : Int) ≤ pr (fun r => 2 * D r) k := by
  refine det_abs k (fun r hr => ?_)
  have h1 : sm (fun c => ((bm N D r c).natAbs : Int)) k ≤ sm (fun c => (if r = c then D r else 0) + N r c) k := by
    refine sm_le k (fun c hc => ?_)
    have a := hN r c hr hc
    have b := (hD r hr).1
    unfold bm
    split <;> omega
  rw [sm_add, sm_pickI, if_pos hr] at h1
  have h2 : sm (N r) k ≤ D r := (hD r hr).2
  have h3 : sm (fun c => N r c) k = sm (N r) k := rfl
  omega
end DV
end
section
/-! Elimination of states: why each state loses something, and that a bound follows. -/
def pw (t : Rat) : Nat → Rat
  | 0 => 1
  | n + 1 => pw t n * t
theorem pw_pos {t : Rat} (h : 0 < t) : ∀ n, 0 < pw t n
  | 0 => by show (0 : Rat) < 1; grind
  | n + 1 => Rat.mul_pos (pw_pos h n) h
theorem pw_step {t : Rat} (h : 0 < t) (h1 : t ≤ 1) (n : Nat) : pw t (n + 1) ≤ pw t n := by
  have a : 0 ≤ pw t n * (1 - t) := Rat.mul_nonneg (Rat.le_of_lt (pw_pos h n)) (by grind)
  have e : pw t (n + 1) = pw t n * t := rfl
  grind
theorem pw_anti {t : Rat} (h : 0 < t) (h1 : t ≤ 1) {a : Nat} : ∀ (k : Nat), pw t (a + k) ≤ pw t a
  | 0 => by show pw t a ≤ pw t a; grind
  | k + 1 => by
    have h2 := pw_step h h1 (a + k)
    have h3 := pw_anti h h1 (a := a) k
    rw [show a + (k + 1) = a + k + 1 by omega]
    grind
theorem sr_one {f : Nat → Rat} {j : Nat} : ∀ (n : Nat), j < n → (∀ c, c < n → 0 ≤ f c) → f j ≤ sr f n
  | 0, hj, _ => by omega
  | n + 1, hj, h => by
    rw [sr]
    by_cases q : j = n
    · subst q
      have := sr_nonneg j (fun c hc => h c (by omega))
      grind
    · have h1 := sr_one (j := j) n (by omega) (fun c hc => h c (by omega))
      have h2 := h n (by omega)
      grind
theorem alg2 {c z w H : Rat} (e : w * H = 1) (d : 0 ≤ (c - z * w) * H) : z ≤ c * H := by
  have f : (c - z * w) * H = c * H - z * (w * H) := by grind
  rw [f, e] at d
  grind
section CE
variable {m : Nat} {p : Nat → Nat → Rat}
theorem gok0 {h : Nat → Rat} (h0 : ∀ i j, i < m → j ≤ m → 0 ≤ p i j) (h1 : ∀ i, i < m → sr (p i) (m + 1) ≤ 1) (h2 : ∀ i, i < m → 0 < h i) (h3 : ∀ i, i < m → sr (fun j => p i j * h j) m < h i) : gok m 0 p h := by
  refine ⟨fun i j hi _ hj => h0 i j hi hj, fun i hi => ?_, h2, fun i hi => ?_⟩
  · rw [sr_congr (g := p i) _ (fun t ht => by rw [Nat.zero_add])]
    exact h1 i hi
  · rw [sr_congr (g := fun j => p i j * h j) _ (fun t ht => by rw [Nat.zero_add])]
    exact h3 i hi
theorem gok0_h {h : Nat → Rat} (g : gok m 0 p h) {i : Nat} (hi : i < m) : sr (fun j => p i j * h j) m < h i := by
  have a := g.2.2.2 i hi
  rw [sr_congr (g := fun j => p i j * h j) _ (fun t ht => by rw [Nat.zero_add])] at a
  exact a
theorem cert {ρ : Nat → Nat} {u : Rat} (hu : 0 < u) (hu1 : u ≤ 1) (h0 : ∀ i j, i < m → j ≤ m → 0 ≤ p i j) (h1 : ∀ i, i < m → sr (p i) (m + 1) ≤ 1) (hr : ∀ i, i < m → sr (p i) m ≤ 1 - u ∨ ∃ j, j < m ∧ ρ j < ρ i ∧ u ≤ p i j) : ∃ h, gok m 0 p h := by
  have ht : 0 < u / 2 := by grind
  have ht1 : u / 2 ≤ 1 := by grind
  have htu : u / 2 < u := by grind
  generalize u / 2 = t at *
  have hs0 : ∀ n, 0 < pw t n := pw_pos ht
  have hs1 : ∀ n, pw t (n + 1) ≤ t := fun n => by
    have a := pw_anti ht ht1 (a := 1) n
    have e : pw t 1 = 1 * t := rfl
    rw [show 1 + n = n + 1 by omega] at a
    grind
  refine ⟨fun i => 1 - pw t (ρ i + 1), gok0 h0 h1 (fun i hi => ?_) (fun i hi => ?_)⟩
  · have := hs1 (ρ i)
    grind
  · have e : sr (fun j => p i j * (1 - pw t (ρ j + 1))) m = sr (p i) m - sr (fun j => p i j * pw t (ρ j + 1)) m := by
      have e1 : sr (fun j => p i j * (1 - pw t (ρ j + 1))) m = sr (fun j => p i j + (-1) * (p i j * pw t (ρ j + 1))) m := sr_congr m (fun j hj => by grind)
      rw [e1, sr_add, sr_mul]
      have e2 : sr (fun j => p i j) m = sr (p i) m := rfl
      grind
    have hn : ∀ c, c < m → 0 ≤ p i c * pw t (ρ c + 1) := fun c hc => Rat.mul_nonneg (h0 i c hi (by omega)) (Rat.le_of_lt (hs0 _))
    have hsm : sr (p i) m ≤ 1 := by
      have a := h1 i hi
      have b := h0 i m hi (by omega)
      rw [sr] at a
      grind
    show sr (fun j => p i j * (1 - pw t (ρ j + 1))) m < 1 - pw t (ρ i + 1)
    rw [e]
    rcases hr i hi with q | ⟨j, hj, q1, q2⟩
    · have a := sr_nonneg m hn
      have b := hs1 (ρ i)
      grind
    · have a := sr_one m hj hn
      have b : pw t (ρ i + 1) ≤ pw t (ρ j + 1) * t := by
        have c := pw_anti ht ht1 (a := ρ j + 2) (ρ i - ρ j - 1)
        rw [show ρ j + 2 + (ρ i - ρ j - 1) = ρ i + 1 by omega] at c
        exact c
      have c : 0 ≤ (p i j - u) * pw t (ρ j + 1) := Rat.mul_nonneg (by grind) (Rat.le_of_lt (hs0 _))
      have d : 0 < (u - t) * pw t (ρ j + 1) := Rat.mul_pos (by grind) (hs0 _)
      generalize pw t (ρ j + 1) = S at *
      generalize pw t (ρ i + 1) = R at *
      grind
theorem argmax (f : Nat → Rat) : ∀ n, 0 < n → ∃ i, i < n ∧ ∀ j, j < n → f j ≤ f i
  | 0, h => by omega
  | 1, _ => ⟨0, by omega, fun j hj => by rw [show j = 0 by omega]; exact Rat.le_refl⟩
  | n + 2, _ => by
    obtain ⟨i, hi, h⟩ := argmax f (n + 1) (by omega)
    by_cases q : f i ≤ f (n + 1)
    · refine ⟨n + 1, by omega, fun j hj => ?_⟩
      by_cases z : j = n + 1
      · rw [z]; exact Rat.le_refl
      · have := h j (by omega)
        grind
    · refine ⟨i, by omega, fun j hj => ?_⟩
      by_cases z : j = n + 1
      · rw [z]; grind
      · exact h j (by omega)
theorem maxp {h : Nat → Rat} (g : gok m 0 p h) {z : Nat → Rat} (hz : ∀ i, i < m → z i ≤ sr (fun j => p i j * z j) m) : ∀ i, i < m → z i ≤ 0 := by
  intro i0 hi0
  obtain ⟨i, hi, hm⟩ := argmax (fun i => z i * (h i)⁻¹) m (by omega)
  have hh := g.2.2.1
  have hc : ∀ j, j < m → z j ≤ (z i * (h i)⁻¹) * h j := fun j hj => by
    have a := hm j hj
    have b := hh j hj
    have c : (h j)⁻¹ * h j = 1 := Rat.inv_mul_cancel _ (by grind)
    have d : 0 ≤ (z i * (h i)⁻¹ - z j * (h j)⁻¹) * h j := Rat.mul_nonneg (by grind) (Rat.le_of_lt b)
    exact alg2 c d
  have hi1 : (z i * (h i)⁻¹) * h i = z i := by
    have b := hh i hi
    have c : (h i)⁻¹ * h i = 1 := Rat.inv_mul_cancel _ (by grind)
    grind
  generalize hcc : z i * (h i)⁻¹ = c at *
  by_cases q : c ≤ 0
  · have a := hc i0 hi0
    have b := Rat.mul_nonneg (a := -c) (b := h i0) (by grind) (Rat.le_of_lt (hh i0 hi0))
    grind
  · exfalso
    have a := gok0_h g hi
    have b : sr (fun j => p i j * z j) m ≤ sr (fun j => c * (p i j * h j)) m := sr_le m (fun j hj => by
      have x := hc j hj
      have y := Rat.mul_nonneg (a := p i j) (b := c * h j - z j) (g.1 i j hi (by omega) (by omega)) (by grind)
      grind)
    rw [sr_mul] at b
    have d := hz i hi
    have e : 0 < c * (h i - sr (fun j => p i j * h j) m) := Rat.mul_pos (by grind) (by grind)
    grind
end CE
end
section
/-! The value of a fraction of the reference. -/
def fv (M : mM) (f : Nat) : Rat := (sn M f : Rat) * (sd M f : Rat)⁻¹
theorem ic_ne {x : Int} (h : 0 < x) : (x : Rat) ≠ 0 := fun w => by
  have w2 : x = 0 := by exact_mod_cast w
  omega
theorem fv_of {X Y N D : Int} (hY : 0 < Y) (hD : (D : Rat) ≠ 0) (e : X * D = N * Y) : (X : Rat) * (Y : Rat)⁻¹ = (N : Rat) * (D : Rat)⁻¹ := by
  have e1 : (X : Rat) * (D : Rat) = (N : Rat) * (Y : Rat) := by rw [← Rat.intCast_mul, ← Rat.intCast_mul, e]
  have e2 := Rat.mul_inv_cancel _ (ic_ne hY)
  have e3 := Rat.mul_inv_cancel _ hD
  generalize (Y : Rat)⁻¹ = y at *
  generalize (D : Rat)⁻¹ = d at *
  generalize (X : Rat) = x at *
  generalize (N : Rat) = n at *
  generalize (Y : Rat) = Y at *
  generalize (D : Rat) = D at *
  have e4 : x * y * (D * d) = n * d * (Y * y) := by grind
  rw [e3, e2] at e4
  grind
section FV
variable {M M' : mM} {u a b ra rb : Nat}
theorem fv_mul (hA : Fq M a ra) (hB : Fq M b rb) (h : suQ M u (sn M a * sn M b) (sd M a * sd M b) M') : fv M' (u + 1) = fv M a * fv M b := by
  have p1 : 0 < sd M a := hA.2.2.2.2
  have p2 : 0 < sd M b := hB.2.2.2.2
  have p3 : 0 < sd M' (u + 1) := h.2.2.2.1.2.2.2.2
  have e := fv_of p3 (ic_ne (Int.mul_pos p1 p2)) h.2.2.2.2.2
  unfold fv
  rw [e, Rat.intCast_mul, Rat.intCast_mul]
  have e2 := Rat.mul_inv_cancel _ (ic_ne p1)
  have e3 := Rat.mul_inv_cancel _ (ic_ne p2)
  have e4 : ((sd M a : Rat) * (sd M b : Rat))⁻¹ = (sd M a : Rat)⁻¹ * (sd M b : Rat)⁻¹ := by grind
  rw [e4]
  grind
theorem fv_add {m : Int} (hm : m = 0 ∨ m = 1) (hA : Fq M a ra) (hB : Fq M b rb) (h : suQ M u (sn M a * sd M b + (if m = 1 then - (sn M b * sd M a) else sn M b * sd M a)) (sd M a * sd M b) M') : fv M' (u + 1) = if m = 1 then fv M a - fv M b else fv M a + fv M b := by
  have p1 : 0 < sd M a := hA.2.2.2.2
  have p2 : 0 < sd M b := hB.2.2.2.2
  have p3 : 0 < sd M' (u + 1) := h.2.2.2.1.2.2.2.2
  have e := fv_of p3 (ic_ne (Int.mul_pos p1 p2)) h.2.2.2.2.2
  have e2 := Rat.mul_inv_cancel _ (ic_ne p1)
  have e3 := Rat.mul_inv_cancel _ (ic_ne p2)
  have e4 : ((sd M a : Rat) * (sd M b : Rat))⁻¹ = (sd M a : Rat)⁻¹ * (sd M b : Rat)⁻¹ := by grind
  unfold fv
  rw [e, Rat.intCast_mul (sd M a), e4, Rat.intCast_add, Rat.intCast_mul]
  generalize hx : (sd M a : Rat)⁻¹ = x at *
  generalize hy : (sd M b : Rat)⁻¹ = y at *
  rcases hm with q | q
  · rw [if_neg (by omega), if_neg (by omega), Rat.intCast_mul]
    grind
  · rw [if_pos q, if_pos q, Rat.intCast_neg, Rat.intCast_mul]
    grind
theorem fv_set {M : mM} {f : Nat} {j k : Int} (h1 : sn M f = j) (h2 : sd M f = k) : fv M f = (j : Rat) * (k : Rat)⁻¹ := by
  unfold fv
  rw [h1, h2]
/-- in lowest terms: what makes the value whole is a multiple of the bottom -/
theorem fc_dvd {M : mM} {f r : Nat} {E z : Int} (hF : Fq M f r) (hC : Fc M f) (h : fv M f * (E : Rat) = (z : Rat)) : sd M f ∣ E := by
  have p : 0 < sd M f := hF.2.2.2.2
  have e : sn M f * E = z * sd M f := by
    have e1 : ((sn M f * E : Int) : Rat) = ((z * sd M f : Int) : Rat) := by
      rw [Rat.intCast_mul, Rat.intCast_mul, ← h]
      unfold fv
      have e2 := Rat.mul_inv_cancel _ (ic_ne p)
      grind
    exact_mod_cast e1
  have hn := hF.2.1.nonneg
  have e3 : (sn M f).natAbs = xn M (f + 1) := by
    unfold sn xn
    split <;> omega
  have e4 : (sd M f).natAbs = xn M (f + 3) := by
    have : sd M f = wv M (f + 3) := rfl
    unfold xn
    omega
  have hc : Nat.Coprime (sd M f).natAbs (sn M f).natAbs := by
    unfold Nat.Coprime
    rw [e3, e4, Nat.gcd_comm]
    exact hC.1
  have hd : (sd M f).natAbs ∣ (sn M f).natAbs * E.natAbs := by
    rw [← Int.natAbs_mul, e, Int.natAbs_mul]
    exact Nat.dvd_mul_left _ _
  exact Int.natAbs_dvd_natAbs.1 (hc.dvd_of_dvd_mul_left hd)
end FV
end
section
/-! Values: quotients and sizes; the solver's cells. -/
section FV
variable {M M' : mM} {u a b ra rb : Nat}
theorem fv_div (hA : Fq M a ra) (hB : Fq M b rb) (hb : sn M b ≠ 0) (h : suQ M u (sn M a * sd M b) (sd M a * sn M b) M') : fv M' (u + 1) * fv M b = fv M a := by
  have p1 : 0 < sd M a := hA.2.2.2.2
  have p2 : 0 < sd M b := hB.2.2.2.2
  have p3 : 0 < sd M' (u + 1) := h.2.2.2.1.2.2.2.2
  have hbr : (sn M b : Rat) ≠ 0 := fun w => hb (by exact_mod_cast w)
  have hn : ((sd M a * sn M b : Int) : Rat) ≠ 0 := fun w => by
    have w2 : sd M a * sn M b = 0 := by exact_mod_cast w
    rcases Int.mul_eq_zero.1 w2 with q | q
    · omega
    · exact hb q
  have e := fv_of p3 hn h.2.2.2.2.2
  have e2 := Rat.mul_inv_cancel _ (ic_ne p1)
  have e3 := Rat.mul_inv_cancel _ (ic_ne p2)
  have e5 := Rat.mul_inv_cancel _ hbr
  unfold fv
  rw [e, Rat.intCast_mul, Rat.intCast_mul]
  have e4 : ((sd M a : Rat) * (sn M b : Rat))⁻¹ = (sd M a : Rat)⁻¹ * (sn M b : Rat)⁻¹ := by grind
  rw [e4]
  grind
/-- how many parts a fraction in lowest terms takes -/
theorem fc_size {M : mM} {f r k : Nat} {E z : Int} (hF : Fq M f r) (hC : Fc M f) (h : fv M f * (E : Rat) = (z : Rat)) (hE0 : 0 < E) (hE : E < 16777216 ^ k) (hv : sn M f ≤ sd M f) (hv2 : - sd M f ≤ sn M f) : mI M (f + 1) 1 ≤ k ∧ mI M (f + 3) 1 ≤ k := by
  have hd := Int.le_of_dvd hE0 (fc_dvd hF hC h)
  have e1 : sd M f = wv M (f + 3) := rfl
  have hn := hF.2.1.nonneg
  have e2 : wv M (f + 1) ≤ sd M f := by
    unfold sn at hv hv2
    split at hv <;> omega
  exact ⟨hF.2.1.size (by omega), hF.2.2.1.size (by omega)⟩
end FV
/-- the cell of row i, column j -/
abbrev cel (s i j : Nat) : Nat := s + 12868 + 5 * (41 * i + j)
section VS
variable {G : mG} {d s : Nat} {M : mM}
theorem s_MS_cell {i j : Nat} (hi : i < 40) (hj : j < 41) (hO : mOk M) (hV : Vk M s) : Cr G y_MS_cell d [vr s, vi i, vi j] M (fun x M' => M' = M ∧ x = cel s i j) := by
  refine k_MS_cell hO ⟨by omega, by omega⟩ ⟨by omega, by omega⟩ ?_
  rw [hV.r25, hV.n41, show (41 * (i : Int) + (j : Int)).toNat = 41 * i + j by omega, hV.f41 _ (by omega)]
  exact ⟨hV.k0, hV.k41, by omega, rfl, rfl⟩
end VS
end
section
/-! The solver's table of fractions. -/
/-- a value that 56 parts hold -/
def Sml (x : Rat) : Prop := ∃ E z : Int, 0 < E ∧ E < 16777216 ^ 56 ∧ x * (E : Rat) = (z : Rat) ∧ x ≤ 1 ∧ -1 ≤ x
theorem fv_sd {M : mM} {f r : Nat} (hF : Fq M f r) : fv M f * (sd M f : Rat) = (sn M f : Rat) := by
  have p : 0 < sd M f := hF.2.2.2.2
  have e := Rat.mul_inv_cancel _ (ic_ne p)
  unfold fv
  grind
theorem ic_le {x y : Int} (h : (x : Rat) ≤ (y : Rat)) : x ≤ y := by exact_mod_cast h
theorem sml_size {M : mM} {f r : Nat} (hF : Fq M f r) (hC : Fc M f) (h : Sml (fv M f)) : mI M (f + 1) 1 ≤ 56 ∧ mI M (f + 3) 1 ≤ 56 := by
  obtain ⟨E, z, h0, h1, h2, h3, h4⟩ := h
  have p : 0 < sd M f := hF.2.2.2.2
  have pr : (0 : Rat) ≤ (sd M f : Rat) := Rat.le_of_lt (Rat.intCast_pos.2 p)
  have e := fv_sd hF
  have a1 : 0 ≤ (1 - fv M f) * (sd M f : Rat) := Rat.mul_nonneg (by grind) pr
  have a2 : 0 ≤ (1 + fv M f) * (sd M f : Rat) := Rat.mul_nonneg (by grind) pr
  have b1 : sn M f ≤ sd M f := ic_le (by grind)
  have b2 : - sd M f ≤ sn M f := ic_le (by rw [Rat.intCast_neg]; grind)
  exact fc_size hF hC h2 h0 h1 b1 b2
/-- m rows hold A -/
def Tb (M : mM) (s m : Nat) (A : Nat → Nat → Rat) : Prop := ∀ i j, i < m → j ≤ m → Fq M (cel s i j) 56 ∧ Fc M (cel s i j) ∧ fv M (cel s i j) = A i j
theorem fv_out {S : Nat → Prop} {M M' : mM} {f r : Nat} (h : Fq M f r) (k : FI S M M') (hs : ∀ x, S x → x < f ∨ f + 4 < x) : fv M' f = fv M f := by
  have e := h.out k hs
  unfold fv
  rw [e.2.1, e.2.2.1]
theorem Tb.out {S : Nat → Prop} {M M' : mM} {s m : Nat} {A : Nat → Nat → Rat} (h : Tb M s m A) (k : FI S M M') (hs : ∀ x, S x → x < s + 12868) : Tb M' s m A := by
  intro i j hi hj
  obtain ⟨h1, h2, h3⟩ := h i j hi hj
  have hs' : ∀ x, S x → x < cel s i j ∨ cel s i j + 4 < x := fun x q => Or.inl (by have := hs x q; unfold cel; omega)
  exact ⟨(h1.out k hs').1, h2.out h1 k hs', by rw [fv_out h1 k hs', h3]⟩
/-- one cell is written anew -/
theorem Tb.put {M M' : mM} {s m i j : Nat} {A : Nat → Nat → Rat} {v : Rat} (h : Tb M s m A) (hm : m ≤ 40) (hi : i < m) (hj : j ≤ m) (k : FI (fS (cel s i j)) M M') (h1 : Fq M' (cel s i j) 56) (h2 : Fc M' (cel s i j)) (h3 : fv M' (cel s i j) = v) : Tb M' s m (fun a b => if a = i ∧ b = j then v else A a b) := by
  intro a b ha hb
  by_cases q : a = i ∧ b = j
  · obtain ⟨q1, q2⟩ := q
    subst q1 q2
    exact ⟨h1, h2, h3.trans (if_pos ⟨rfl, rfl⟩).symm⟩
  · obtain ⟨g1, g2, g3⟩ := h a b ha hb
    have hs' : ∀ x, fS (cel s i j) x → x < cel s a b ∨ cel s a b + 4 < x := fun x w => by
      have w' : cel s i j ≤ x ∧ x ≤ cel s i j + 4 := w
      unfold cel at w' ⊢
      by_cases z : a = i
      · subst z
        have : b ≠ j := fun y => q ⟨rfl, y⟩
        omega
      · omega
    refine ⟨(g1.out k hs').1, g2.out g1 k hs', ?_⟩
    rw [fv_out g1 k hs', g3]
    exact (if_neg q).symm
/-- the solver's other fractions have room -/
def Wk (M : mM) (s : Nat) : Prop := Sz M (s + 1) ∧ Ft M (s + 42) 8 ∧ Ft M (s + 47) 56 ∧ Ft M (s + 52) 900 ∧ Ft M (s + 57) 900 ∧ Ft M (s + 62) 900
theorem fc_copy {M M' : mM} {a b : Nat} (hC : Fc M b) (e1 : wv M' (a + 1) = wv M (b + 1)) (e2 : wv M' (a + 3) = wv M (b + 3)) (e3 : mI M' a 2 = mI M b 2) : Fc M' a ∧ fv M' a = fv M b := by
  refine ⟨?_, ?_⟩
  · unfold Fc xn at hC ⊢
    rw [e1, e2, e3]
    exact hC
  · unfold fv sn sd
    rw [e1, e2, e3]
end
