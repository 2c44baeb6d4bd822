/-! Elimination of states: why each state loses something, and that a bound follows. -/
def pw (t : Rat) : Nat → Rat
  | 0 => 1
  | n + 1 => pw t n * t
theorem pw_pos {t : Rat} (h : 0 < t) : ∀ n, 0 < pw t n
  | 0 => by show (0 : Rat) < 1; grind
  | n + 1 => Rat.mul_pos (pw_pos h n) h
theorem pw_step {t : Rat} (h : 0 < t) (h1 : t ≤ 1) (n : Nat) : pw t (n + 1) ≤ pw t n := by
  have a : 0 ≤ pw t n * (1 - t) := Rat.mul_nonneg (Rat.le_of_lt (pw_pos h n)) (by grind)
  have e : pw t (n + 1) = pw t n * t := rfl
  grind
theorem pw_anti {t : Rat} (h : 0 < t) (h1 : t ≤ 1) {a : Nat} : ∀ (k : Nat), pw t (a + k) ≤ pw t a
  | 0 => by show pw t a ≤ pw t a; grind
  | k + 1 => by
    have h2 := pw_step h h1 (a + k)
    have h3 := pw_anti h h1 (a := a) k
    rw [show a + (k + 1) = a + k + 1 by omega]
    grind
theorem sr_one {f : Nat → Rat} {j : Nat} : ∀ (n : Nat), j < n → (∀ c, c < n → 0 ≤ f c) → f j ≤ sr f n
  | 0, hj, _ => by omega
  | n + 1, hj, h => by
    rw [sr]
    by_cases q : j = n
    · subst q
      have := sr_nonneg j (fun c hc => h c (by omega))
      grind
    · have h1 := sr_one (j := j) n (by omega) (fun c hc => h c (by omega))
      have h2 := h n (by omega)
      grind
theorem alg2 {c z w H : Rat} (e : w * H = 1) (d : 0 ≤ (c - z * w) * H) : z ≤ c * H := by
  have f : (c - z * w) * H = c * H - z * (w * H) := by grind
  rw [f, e] at d
  grind
section CE
variable {m : Nat} {p : Nat → Nat → Rat}
theorem gok0 {h : Nat → Rat} (h0 : ∀ i j, i < m → j ≤ m → 0 ≤ p i j) (h1 : ∀ i, i < m → sr (p i) (m + 1) ≤ 1) (h2 : ∀ i, i < m → 0 < h i) (h3 : ∀ i, i < m → sr (fun j => p i j * h j) m < h i) : gok m 0 p h := by
  refine ⟨fun i j hi _ hj => h0 i j hi hj, fun i hi => ?_, h2, fun i hi => ?_⟩
  · rw [sr_congr (g := p i) _ (fun t ht => by rw [Nat.zero_add])]
    exact h1 i hi
  · rw [sr_congr (g := fun j => p i j * h j) _ (fun t ht => by rw [Nat.zero_add])]
    exact h3 i hi
theorem gok0_h {h : Nat → Rat} (g : gok m 0 p h) {i : Nat} (hi : i < m) : sr (fun j => p i j * h j) m < h i := by
  have a := g.2.2.2 i hi
  rw [sr_congr (g := fun j => p i j * h j) _ (fun t ht => by rw [Nat.zero_add])] at a
  exact a
theorem cert {ρ : Nat → Nat} {u : Rat} (hu : 0 < u) (hu1 : u ≤ 1) (h0 : ∀ i j, i < m → j ≤ m → 0 ≤ p i j) (h1 : ∀ i, i < m → sr (p i) (m + 1) ≤ 1) (hr : ∀ i, i < m → sr (p i) m ≤ 1 - u ∨ ∃ j, j < m ∧ ρ j < ρ i ∧ u ≤ p i j) : ∃ h, gok m 0 p h := by
  have ht : 0 < u / 2 := by grind
  have ht1 : u / 2 ≤ 1 := by grind
  have htu : u / 2 < u := by grind
  generalize u / 2 = t at *
  have hs0 : ∀ n, 0 < pw t n := pw_pos ht
  have hs1 : ∀ n, pw t (n + 1) ≤ t := fun n => by
    have a := pw_anti ht ht1 (a := 1) n
    have e : pw t 1 = 1 * t := rfl
    rw [show 1 + n = n + 1 by omega] at a
    grind
  refine ⟨fun i => 1 - pw t (ρ i + 1), gok0 h0 h1 (fun i hi => ?_) (fun i hi => ?_)⟩
  · have := hs1 (ρ i)
    grind
  · have e : sr (fun j => p i j * (1 - pw t (ρ j + 1))) m = sr (p i) m - sr (fun j => p i j * pw t (ρ j + 1)) m := by
      have e1 : sr (fun j => p i j * (1 - pw t (ρ j + 1))) m = sr (fun j => p i j + (-1) * (p i j * pw t (ρ j + 1))) m := sr_congr m (fun j hj => by grind)
      rw [e1, sr_add, sr_mul]
      have e2 : sr (fun j => p i j) m = sr (p i) m := rfl
      grind
    have hn : ∀ c, c < m → 0 ≤ p i c * pw t (ρ c + 1) := fun c hc => Rat.mul_nonneg (h0 i c hi (by omega)) (Rat.le_of_lt (hs0 _))
    have hsm : sr (p i) m ≤ 1 := by
      have a := h1 i hi
      have b := h0 i m hi (by omega)
      rw [sr] at a
      grind
    show sr (fun j => p i j * (1 - pw t (ρ j + 1))) m < 1 - pw t (ρ i + 1)
    rw [e]
    rcases hr i hi with q | ⟨j, hj, q1, q2⟩
    · have a := sr_nonneg m hn
      have b := hs1 (ρ i)
      grind
    · have a := sr_one m hj hn
      have b : pw t (ρ i + 1) ≤ pw t (ρ j + 1) * t := by
        have c := pw_anti ht ht1 (a := ρ j + 2) (ρ i - ρ j - 1)
        rw [show ρ j + 2 + (ρ i - ρ j - 1) = ρ i + 1 by omega] at c
        exact c
      have c : 0 ≤ (p i j - u) * pw t (ρ j + 1) := Rat.mul_nonneg (by grind) (Rat.le_of_lt (hs0 _))
      have d : 0 < (u - t) * pw t (ρ j + 1) := Rat.mul_pos (by grind) (hs0 _)
      generalize pw t (ρ j + 1) = S at *
      generalize pw t (ρ i + 1) = R at *
      grind
theorem argmax (f : Nat → Rat) : ∀ n, 0 < n → ∃ i, i < n ∧ ∀ j, j < n → f j ≤ f i
  | 0, h => by omega
  | 1, _ => ⟨0, by omega, fun j hj => by rw [show j = 0 by omega]; exact Rat.le_refl⟩
  | n + 2, _ => by
    obtain ⟨i, hi, h⟩ := argmax f (n + 1) (by omega)
    by_cases q : f i ≤ f (n + 1)
    · refine ⟨n + 1, by omega, fun j hj => ?_⟩
      by_cases z : j = n + 1
      · rw [z]; exact Rat.le_refl
      · have := h j (by omega)
        grind
    · refine ⟨i, by omega, fun j hj => ?_⟩
      by_cases z : j = n + 1
      · rw [z]; grind
      · exact h j (by omega)
theorem maxp {h : Nat → Rat} (g : gok m 0 p h) {z : Nat → Rat} (hz : ∀ i, i < m → z i ≤ sr (fun j => p i j * z j) m) : ∀ i, i < m → z i ≤ 0 := by
  intro i0 hi0
  obtain ⟨i, hi, hm⟩ := argmax (fun i => z i * (h i)⁻¹) m (by omega)
  have hh := g.2.2.1
  have hc : ∀ j, j < m → z j ≤ (z i * (h i)⁻¹) * h j := fun j hj => by
    have a := hm j hj
    have b := hh j hj
    have c : (h j)⁻¹ * h j = 1 := Rat.inv_mul_cancel _ (by grind)
    have d : 0 ≤ (z i * (h i)⁻¹ - z j * (h j)⁻¹) * h j := Rat.mul_nonneg (by grind) (Rat.le_of_lt b)
    exact alg2 c d
  have hi1 : (z i * (h i)⁻¹) * h i = z i := by
    have b := hh i hi
    have c : (h i)⁻¹ * h i = 1 := Rat.inv_mul_cancel _ (by grind)
    grind
  generalize hcc : z i * (h i)⁻¹ = c at *
  by_cases q : c ≤ 0
  · have a := hc i0 hi0
    have b := Rat.mul_nonneg (a := -c) (b := h i0) (by grind) (Rat.le_of_lt (hh i0 hi0))
    grind
  · exfalso
    have a := gok0_h g hi
    have b : sr (fun j => p i j * z j) m ≤ sr (fun j => c * (p i j * h j)) m := sr_le m (fun j hj => by
      have x := hc j hj
      have y := Rat.mul_nonneg (a := p i j) (b := c * h j - z j) (g.1 i j hi (by omega) (by omega)) (by grind)
      grind)
    rw [sr_mul] at b
    have d := hz i hi
    have e : 0 < c * (h i - sr (fun j => p i j * h j) m) := Rat.mul_pos (by grind) (by grind)
    grind
end CE
