/-! Elimination of states: the divisor is a determinant, positive and small. -/
section DV
variable {m : Nat} {p : Nat → Nat → Rat} {h : Nat → Rat} {N : Nat → Nat → Int} {D : Nat → Int}
theorem gq_solves (g : gok m 0 p h) (hp : ∀ r c, r < m → c ≤ m → (D r : Rat) * p r c = (N r c : Rat)) {k j r : Nat} (hk : k ≤ m) (hj : j ≤ m) (hr : r < k) : sr (fun c => gq p k c j * (bm N D r c : Rat)) k = (N r j : Rat) := by
  rw [bm_row (p := p) (fun c hc => hp r c (by omega) (by omega)), if_pos hr, ← hp r j (by omega) hj]
  have e := gq_eq g k hk r j
  generalize sr (fun c => p r c * gq p k c j) k = X at *
  grind
theorem det_step (g : gok m 0 p h) (hp : ∀ r c, r < m → c ≤ m → (D r : Rat) * p r c = (N r c : Rat)) {k : Nat} (hk : k < m) : ((det (k + 1) (bm N D) : Int) : Rat) = (1 - gq p k k k) * (D k : Rat) * ((det k (bm N D) : Int) : Rat) := by
  have hpv := gok_pivot (gok_all g k (by omega)) hk
  have hw1 : (1 - gq p k k k) * (1 - gq p k k k)⁻¹ = 1 := Rat.mul_inv_cancel _ (by grind)
  have hb : ∀ r, r < k + 1 → sr (fun c => (if c = k then (1 - gq p k k k)⁻¹ else (1 - gq p k k k)⁻¹ * gq p k c k) * (bm N D r c : Rat)) (k + 1) = (((D k) * (if r = k then 1 else 0) : Int) : Rat) := by
    intro r hr
    rw [bm_row (p := p) (fun c hc => hp r c (by omega) (by omega)), if_pos hr, sr, if_pos rfl]
    have e0 : sr (fun c => p r c * (if c = k then (1 - gq p k k k)⁻¹ else (1 - gq p k k k)⁻¹ * gq p k c k)) k = (1 - gq p k k k)⁻¹ * sr (fun c => p r c * gq p k c k) k := by
      rw [← sr_mul]
      refine sr_congr k (fun c hc => ?_)
      rw [if_neg (by omega)]
      grind
    rw [e0]
    have e1 := gq_eq g k (by omega) r k
    by_cases q : r = k
    · subst q
      rw [if_pos rfl, if_pos rfl, Int.mul_one]
      generalize sr (fun c => p r c * gq p r c r) r = X at *
      generalize hw : (1 - gq p r r r)⁻¹ = w at *
      grind
    · rw [if_neg q, if_neg q, Int.mul_zero]
      have z : ((0 : Int) : Rat) = 0 := rfl
      rw [z]
      generalize sr (fun c => p r c * gq p k c k) k = X at *
      generalize (1 - gq p k k k)⁻¹ = w at *
      grind
  have e := cramerR (n := k + 1) (A := bm N D) (c := k) (by omega) hb
  rw [det_smul (by omega), det_last k (fun r hr => by unfold rc; rw [if_pos rfl]), det_congr k (B := bm N D) (fun r c hr hc => by unfold rc; rw [if_neg (by omega)]), if_pos rfl, Rat.intCast_mul] at e
  generalize ((det (k + 1) (bm N D) : Int) : Rat) = P at *
  generalize ((det k (bm N D) : Int) : Rat) = Q at *
  generalize (1 - gq p k k k)⁻¹ = w at *
  generalize gq p k k k = a at *
  clear hb
  grind
theorem det_pos (g : gok m 0 p h) (hp : ∀ r c, r < m → c ≤ m → (D r : Rat) * p r c = (N r c : Rat)) (hD : ∀ r, r < m → 0 < D r) : ∀ k, k ≤ m → 0 < det k (bm N D)
  | 0, _ => Int.zero_lt_one
  | k + 1, hk => by
    have ih := det_pos g hp hD k (by omega)
    have e := det_step g hp (k := k) (by omega)
    have hpv := gok_pivot (gok_all g k (by omega)) (by omega)
    have h1 : 0 < ((det (k + 1) (bm N D) : Int) : Rat) := by
      rw [e]
      exact Rat.mul_pos (Rat.mul_pos hpv (Rat.intCast_pos.2 (hD k (by omega)))) (Rat.intCast_pos.2 ih)
    exact Rat.intCast_pos.1 h1
/-- the divisor makes whole numbers of what is taken out -/
theorem gq_int (g : gok m 0 p h) (hp : ∀ r c, r < m → c ≤ m → (D r : Rat) * p r c = (N r c : Rat)) {k j i : Nat} (hk : k ≤ m) (hj : j ≤ m) (hi : i < k) : ∃ z : Int, gq p k i j * ((det k (bm N D) : Int) : Rat) = (z : Rat) :=
  ⟨_, (cramerR (A := bm N D) (y := fun c => gq p k c j) (b := fun r => N r j) hi (fun r hr => gq_solves g hp hk hj hr)).symm⟩
theorem sr_int {f : Nat → Rat} : ∀ (n : Nat), (∀ c, c < n → ∃ z : Int, f c = (z : Rat)) → ∃ z : Int, sr f n = (z : Rat)
  | 0, _ => ⟨0, rfl⟩
  | n + 1, h => by
    obtain ⟨a, ha⟩ := sr_int n (fun c hc => h c (by omega))
    obtain ⟨b, hb⟩ := h n (by omega)
    exact ⟨a + b, by rw [sr, ha, hb, Rat.intCast_add]⟩
theorem gq_int2 (g : gok m 0 p h) (hp : ∀ r c, r < m → c ≤ m → (D r : Rat) * p r c = (N r c : Rat)) {k j i : Nat} (hk : k ≤ m) (hj : j ≤ m) (hi : i < m) : ∃ z : Int, gq p k i j * (((D i) * det k (bm N D) : Int) : Rat) = (z : Rat) := by
  have e := gq_eq g k hk i j
  obtain ⟨z, hz⟩ := sr_int (f := fun c => (N i c : Rat) * (gq p k c j * ((det k (bm N D) : Int) : Rat))) k (fun c hc => by
    obtain ⟨z, hz⟩ := gq_int g hp hk hj hc
    exact ⟨N i c * z, by rw [hz, Rat.intCast_mul]⟩)
  refine ⟨N i j * det k (bm N D) + z, ?_⟩
  have e2 : sr (fun c => (N i c : Rat) * (gq p k c j * ((det k (bm N D) : Int) : Rat))) k = ((D i : Rat) * ((det k (bm N D) : Int) : Rat)) * sr (fun c => p i c * gq p k c j) k := by
    rw [← sr_mul]
    refine sr_congr k (fun c hc => ?_)
    rw [← hp i c hi (by omega)]
    grind
  rw [Rat.intCast_add, Rat.intCast_mul, Rat.intCast_mul, ← hz, e2, ← hp i j hi hj]
  generalize sr (fun c => p i c * gq p k c j) k = X at *
  generalize ((det k (bm N D) : Int) : Rat) = Q at *
  grind
theorem sm_pickI {r : Nat} {x : Int} : ∀ (n : Nat), sm (fun c => if r = c then x else 0) n = if r < n then x else 0
  | 0 => by rw [if_neg (by omega)]; rfl
  | n + 1 => by
    rw [sm, sm_pickI n]
    by_cases q : r = n
    · subst q
      rw [if_neg (by omega), if_pos rfl, if_pos (by omega)]
      omega
    · rw [if_neg q]
      by_cases z : r < n
      · rw [if_pos z, if_pos (by omega)]; omega
      · rw [if_neg z, if_neg (by omega)]; rfl
theorem det_small {k : Nat} (hN : ∀ r c, r < k → c < k → 0 ≤ N r c) (hD : ∀ r, r < k → 0 ≤ D r ∧ sm (fun c => N r c) k ≤ D r) : ((det k (bm N D)).natAbs : Int) ≤ pr (fun r => 2 * D r) k := by
  refine det_abs k (fun r hr => ?_)
  have h1 : sm (fun c => ((bm N D r c).natAbs : Int)) k ≤ sm (fun c => (if r = c then D r else 0) + N r c) k := by
    refine sm_le k (fun c hc => ?_)
    have a := hN r c hr hc
    have b := (hD r hr).1
    unfold bm
    split <;> omega
  rw [sm_add, sm_pickI, if_pos hr] at h1
  have h2 : sm (N r) k ≤ D r := (hD r hr).2
  have h3 : sm (fun c => N r c) k = sm (N r) k := rfl
  omega
end DV
