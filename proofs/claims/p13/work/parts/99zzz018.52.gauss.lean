/-! Elimination of states, over fractions: what stays true. -/
def sr (f : Nat → Rat) : Nat → Rat
  | 0 => 0
  | n + 1 => sr f n + f n
theorem sr_congr {f g : Nat → Rat} : ∀ (n : Nat), (∀ j, j < n → f j = g j) → sr f n = sr g n
  | 0, _ => rfl
  | n + 1, h => by rw [sr, sr, sr_congr n (fun j hj => h j (by omega)), h n (by omega)]
theorem sr_add {f g : Nat → Rat} : ∀ (n : Nat), sr (fun j => f j + g j) n = sr f n + sr g n
  | 0 => by show (0 : Rat) = 0 + 0; grind
  | n + 1 => by rw [sr, sr, sr, sr_add n]; grind
theorem sr_mul {f : Nat → Rat} {x : Rat} : ∀ (n : Nat), sr (fun j => x * f j) n = x * sr f n
  | 0 => by simp [sr]
  | n + 1 => by rw [sr, sr, sr_mul n]; grind
theorem sr_le {f g : Nat → Rat} : ∀ (n : Nat), (∀ j, j < n → f j ≤ g j) → sr f n ≤ sr g n
  | 0, _ => by simp [sr]
  | n + 1, h => by
    have h1 := sr_le n (fun j hj => h j (by omega))
    have h2 := h n (by omega)
    rw [sr, sr]
    grind
theorem sr_nonneg {f : Nat → Rat} : ∀ (n : Nat), (∀ j, j < n → 0 ≤ f j) → 0 ≤ sr f n
  | 0, _ => by simp [sr]
  | n + 1, h => by
    have h1 := sr_nonneg n (fun j hj => h j (by omega))
    have h2 := h n (by omega)
    rw [sr]
    grind
theorem sr_shift {f : Nat → Rat} : ∀ (n : Nat), sr f (n + 1) = f 0 + sr (fun t => f (t + 1)) n
  | 0 => by show (0 : Rat) + f 0 = f 0 + 0; grind
  | n + 1 => by
    have e : sr f (n + 1 + 1) = sr f (n + 1) + f (n + 1) := rfl
    have e2 : sr (fun t => f (t + 1)) (n + 1) = sr (fun t => f (t + 1)) n + f (n + 1) := rfl
    rw [e, e2, sr_shift n]
    grind
theorem alg1 {a w H Y : Rat} (hw : (1 - a) * w = 1) (h1 : 0 ≤ w * ((1 - a) * H - Y)) : 0 ≤ H - w * Y := by
  have e : H - w * Y = w * ((1 - a) * H - Y) := by grind
  rw [e]
  exact h1
/-- one state is taken out -/
def gst (k : Nat) (q : Nat → Nat → Rat) : Nat → Nat → Rat := fun i j => q i j + q i k * ((1 - q k k)⁻¹ * q k j)
def gq (p : Nat → Nat → Rat) : Nat → Nat → Nat → Rat
  | 0 => p
  | k + 1 => gst k (gq p k)
/-- m states, k of them taken out; h says that each state loses something -/
def gok (m k : Nat) (q : Nat → Nat → Rat) (h : Nat → Rat) : Prop := (∀ i j, i < m → k ≤ j → j ≤ m → 0 ≤ q i j) ∧ (∀ i, i < m → sr (fun t => q i (k + t)) (m + 1 - k) ≤ 1) ∧ (∀ i, i < m → 0 < h i) ∧ (∀ i, i < m → sr (fun t => q i (k + t) * h (k + t)) (m - k) < h i)
theorem gok_pivot {m k : Nat} {q : Nat → Nat → Rat} {h : Nat → Rat} (g : gok m k q h) (hk : k < m) : 0 < 1 - q k k := by
  obtain ⟨g1, g2, g3, g4⟩ := g
  have a := g4 k hk
  rw [show m - k = (m - k - 1) + 1 by omega, sr_shift] at a
  have b : 0 ≤ sr (fun t => q k (k + (t + 1)) * h (k + (t + 1))) (m - k - 1) := sr_nonneg _ (fun t ht => Rat.mul_nonneg (g1 k _ hk (by omega) (by omega)) (Rat.le_of_lt (g3 _ (by omega))))
  have c := g3 k hk
  have e : q k (k + 0) * h (k + 0) = q k k * h k := rfl
  rw [e] at a
  refine Classical.byContradiction (fun w => ?_)
  have d : 0 ≤ (q k k - 1) * h k := Rat.mul_nonneg (by grind) (Rat.le_of_lt c)
  grind
theorem gok_step {m k : Nat} {q : Nat → Nat → Rat} {h : Nat → Rat} (g : gok m k q h) (hk : k < m) : gok m (k + 1) (gst k q) h := by
  have hp := gok_pivot g hk
  obtain ⟨g1, g2, g3, g4⟩ := g
  have hw0 : 0 < (1 - q k k)⁻¹ := Rat.inv_pos.2 hp
  have hw1 : (1 - q k k) * (1 - q k k)⁻¹ = 1 := Rat.mul_inv_cancel _ (by grind)
  have hg : ∀ i j, gst k q i j = q i j + q i k * ((1 - q k k)⁻¹ * q k j) := fun i j => rfl
  generalize (1 - q k k)⁻¹ = w at *
  have hr : ∀ j, k ≤ j → j ≤ m → 0 ≤ w * q k j := fun j h1 h2 => Rat.mul_nonneg (Rat.le_of_lt hw0) (g1 k j hk h1 h2)
  have hk0 : ∀ i, i < m → 0 ≤ q i k := fun i hi => g1 i k hi (by omega) (by omega)
  refine ⟨fun i j hi hj hj2 => ?_, fun i hi => ?_, g3, fun i hi => ?_⟩
  · rw [hg]
    have := g1 i j hi (by omega) hj2
    have := Rat.mul_nonneg (hk0 i hi) (hr j (by omega) hj2)
    grind
  · have e1 : sr (fun t => gst k q i (k + 1 + t)) (m + 1 - (k + 1)) = sr (fun t => q i (k + (t + 1))) (m - k) + q i k * (w * sr (fun t => q k (k + (t + 1))) (m - k)) := by
      rw [← sr_mul, ← sr_mul, ← sr_add, show m + 1 - (k + 1) = m - k by omega]
      refine sr_congr _ (fun t ht => ?_)
      rw [hg, show k + 1 + t = k + (t + 1) by omega]
    have e2 := g2 i hi
    have e3 := g2 k hk
    rw [show m + 1 - k = (m - k) + 1 by omega, sr_shift] at e2 e3
    have e2' : q i (k + 0) = q i k := rfl
    have e3' : q k (k + 0) = q k k := rfl
    rw [e2'] at e2
    rw [e3'] at e3
    rw [e1]
    generalize sr (fun t => q i (k + (t + 1))) (m - k) = X at *
    generalize sr (fun t => q k (k + (t + 1))) (m - k) = Y at *
    have h1 : 0 ≤ w * (1 - q k k - Y) := Rat.mul_nonneg (Rat.le_of_lt hw0) (by grind)
    have h2 : 0 ≤ q i k * (1 - w * Y) := Rat.mul_nonneg (hk0 i hi) (by grind)
    grind
  · have e1 : sr (fun t => gst k q i (k + 1 + t) * h (k + 1 + t)) (m - (k + 1)) = sr (fun t => q i (k + (t + 1)) * h (k + (t + 1))) (m - k - 1) + q i k * (w * sr (fun t => q k (k + (t + 1)) * h (k + (t + 1))) (m - k - 1)) := by
      rw [← sr_mul, ← sr_mul, ← sr_add, show m - (k + 1) = m - k - 1 by omega]
      refine sr_congr _ (fun t ht => ?_)
      rw [hg, show k + 1 + t = k + (t + 1) by omega]
      grind
    have e2 := g4 i hi
    have e3 := g4 k hk
    rw [show m - k = (m - k - 1) + 1 by omega, sr_shift] at e2 e3
    have e2' : q i (k + 0) * h (k + 0) = q i k * h k := rfl
    have e3' : q k (k + 0) * h (k + 0) = q k k * h k := rfl
    rw [e2'] at e2
    rw [e3'] at e3
    rw [e1]
    generalize sr (fun t => q i (k + (t + 1)) * h (k + (t + 1))) (m - k - 1) = X at *
    generalize sr (fun t => q k (k + (t + 1)) * h (k + (t + 1))) (m - k - 1) = Y at *
    have h1 : 0 ≤ w * ((1 - q k k) * h k - Y) := Rat.mul_nonneg (Rat.le_of_lt hw0) (by grind)
    have h2 : 0 ≤ q i k * (h k - w * Y) := Rat.mul_nonneg (hk0 i hi) (alg1 hw1 h1)
    clear g1 g2 g3 g4 hg hr hk0 e1 e2' e3' h1
    grind
theorem gok_all {m : Nat} {p : Nat → Nat → Rat} {h : Nat → Rat} (g : gok m 0 p h) : ∀ k, k ≤ m → gok m k (gq p k) h
  | 0, _ => g
  | k + 1, hk => gok_step (gok_all g k (by omega)) (by omega)
/-- what has been taken out still solves its rows -/
theorem gq_eq {m : Nat} {p : Nat → Nat → Rat} {h : Nat → Rat} (g : gok m 0 p h) : ∀ k, k ≤ m → ∀ i j, gq p k i j = p i j + sr (fun t => p i t * gq p k t j) k
  | 0, _, i, j => by show p i j = p i j + 0; grind
  | k + 1, hk, i, j => by
    have ih := gq_eq g k (by omega)
    have hp := gok_pivot (gok_all g k (by omega)) (by omega)
    have hw1 : (1 - gq p k k k) * (1 - gq p k k k)⁻¹ = 1 := Rat.mul_inv_cancel _ (by grind)
    have hg : ∀ i j, gq p (k + 1) i j = gq p k i j + gq p k i k * ((1 - gq p k k k)⁻¹ * gq p k k j) := fun i j => rfl
    have e1 : sr (fun t => p i t * gq p (k + 1) t j) (k + 1) = sr (fun t => p i t * gq p k t j) k + ((1 - gq p k k k)⁻¹ * gq p k k j) * sr (fun t => p i t * gq p k t k) k + p i k * gq p (k + 1) k j := by
      rw [sr, ← sr_mul, ← sr_add]
      congr 1
      refine sr_congr _ (fun t ht => ?_)
      rw [hg]
      grind
    have e2 := ih i j
    have e3 := ih i k
    rw [e1, hg i j, hg k j]
    generalize sr (fun t => p i t * gq p k t j) k = X at *
    generalize sr (fun t => p i t * gq p k t k) k = Y at *
    generalize (1 - gq p k k k)⁻¹ = w at *
    generalize gq p k k k = a at *
    generalize gq p k k j = b at *
    grind
