/-! The Residues: inverses, rows. -/
section NBI
variable {G : mG} {d e n m i k rows : Nat} {M M0 M' M1 M2 M3 : mM} {P a b x y X Y : Int}
/-- on the way to an inverse -/
def InvI (P a b x y : Int) : Prop := (0 ≤ a ∧ a ≤ P) ∧ (0 ≤ b ∧ b ≤ P) ∧ ∃ X Y, (0 ≤ X ∧ X ≤ P) ∧ (0 ≤ Y ∧ Y ≤ P) ∧ ((x = X ∧ y = -Y) ∨ (x = -X ∧ y = Y)) ∧ a * Y + b * X = P
theorem inv_st (h : InvI P a b x y) (hb : 0 < b) : InvI P b (a - a / b * b) y (x - a / b * y) := by
  obtain ⟨⟨a0, a1⟩, ⟨b0, b1⟩, X, Y, ⟨X0, X1⟩, ⟨Y0, Y1⟩, s, e⟩ := h
  have q0 : 0 ≤ a / b := Int.ediv_nonneg a0 b0
  have r0 : 0 ≤ a - a / b * b := by have := Int.ediv_mul_le a (show b ≠ 0 by omega); omega
  have r1 : a - a / b * b < b := by have := Int.lt_ediv_add_one_mul_self a hb; rw [Int.add_mul, Int.one_mul] at this; omega
  have qY := Int.mul_nonneg q0 Y0
  generalize a / b = q at *
  have e' : b * (X + q * Y) + (a - q * b) * Y = P := by
    rw [Int.mul_add, Int.sub_mul, Int.mul_assoc, Int.mul_left_comm b q Y]
    have : b * X = b * X := rfl
    omega
  have rY := Int.mul_nonneg r0 Y0
  have bX := Int.mul_le_mul_of_nonneg_right (show 1 ≤ b by omega) (show 0 ≤ X + q * Y by omega)
  refine ⟨⟨b0, b1⟩, ⟨r0, by omega⟩, Y, X + q * Y, ⟨Y0, Y1⟩, ⟨by omega, by omega⟩, ?_, e'⟩
  rcases s with ⟨s1, s2⟩ | ⟨s1, s2⟩
  · refine Or.inr ⟨s2, ?_⟩
    rw [s1, s2, Int.mul_neg]
    omega
  · refine Or.inl ⟨s2, ?_⟩
    rw [s1, s2]
    omega
theorem InvI.bd (h : InvI P a b x y) (hP : P < 1073741824) : (i64 a ∧ i64 b ∧ i64 x ∧ i64 y) ∧ (-P ≤ x ∧ x ≤ P) := by
  obtain ⟨⟨a0, a1⟩, ⟨b0, b1⟩, X, Y, ⟨X0, X1⟩, ⟨Y0, Y1⟩, s, -⟩ := h
  unfold i64
  omega
theorem s_Re_inverse {v : Int} (hv : 0 ≤ v ∧ v ≤ P) (hP : 0 < P ∧ P < 1073741824) (hO : mOk M) : Ci G y_Re_inverse d [vi v, vi P] M (fun r M' => M' = M ∧ 0 ≤ r ∧ r ≤ P) := by
  refine k_Re_inverse hO ⟨by omega, by omega⟩ ⟨by omega, by omega⟩ ?_
  suffices HH : ∀ (t i : Nat) (a b x y : Int), 100 ≤ i + t → i ≤ 100 → InvI P a b x y → h_Re_inverse_16 G d P a b x y i M (fun r M' => M' = M ∧ 0 ≤ r ∧ r ≤ P) from
    HH 100 0 v P 1 0 (by omega) (by omega) ⟨hv, ⟨by omega, by omega⟩, 1, 0, ⟨by omega, by omega⟩, ⟨by omega, by omega⟩, Or.inl ⟨rfl, rfl⟩, by omega⟩
  have fin : ∀ {a b x y : Int}, InvI P a b x y → ∀ v7 : Int, v7 = (if (0 ≤ cmpL x 0) then x else x + P) → M = M ∧ 0 ≤ v7 ∧ v7 ≤ P := fun {a b x y} h v7 e7 => by
    have := h.bd hP.2
    have c : (0 ≤ cmpL x 0) ↔ 0 ≤ x := by
      unfold cmpL; split
      · constructor <;> intro h <;> omega
      · split <;> constructor <;> intro h <;> omega
    refine ⟨rfl, ?_⟩
    by_cases u : 0 ≤ cmpL x 0
    · rw [if_pos u] at e7
      have := c.1 u
      omega
    · rw [if_neg u] at e7
      have : ¬ 0 ≤ x := fun w => u (c.2 w)
      omega
  intro t
  induction t with
  | zero =>
    intro i a b x y h1 h2 hI
    obtain ⟨⟨b1, b2, b3, b4⟩, -⟩ := hI.bd hP.2
    exact k_Re_inverse_16 hO ⟨by omega, by omega⟩ b1 b2 b3 b4 ⟨by omega, by omega⟩ ⟨fun _ => fin hI, fun u => absurd (Or.inl (by omega)) u⟩
  | succ t ih =>
    intro i a b x y h1 h2 hI
    obtain ⟨⟨b1, b2, b3, b4⟩, -⟩ := hI.bd hP.2
    refine k_Re_inverse_16 hO ⟨by omega, by omega⟩ b1 b2 b3 b4 ⟨by omega, by omega⟩ ⟨fun _ => fin hI, fun u => ?_⟩
    have b0 : b ≠ 0 := fun w => u (Or.inr (j_c0.2 w))
    have a0 := hI.1.1
    have bb := hI.2.1.1
    rw [Int.tdiv_eq_ediv_of_nonneg a0, show ((i : Int) + 1) = ((i + 1 : Nat) : Int) by omega]
    exact ⟨b0, ih (i + 1) _ _ _ _ (by omega) (by omega) (inv_st hI (by omega))⟩
/-- the Residues' tables -/
def Rk (M : mM) (e : Nat) : Prop := mK M e = 12 ∧ (mR M e 0 = e + 1 ∧ mR M e 1 = e + 2 ∧ mR M e 2 = e + 3 ∧ mR M e 3 = e + 4 ∧ mR M e 4 = e + 5 ∧ mR M e 5 = e + 6 ∧ mR M e 6 = e + 7) ∧ (mK M (e + 1) = 30 ∧ mK M (e + 2) = 34 ∧ mK M (e + 3) = 30 ∧ mK M (e + 4) = 30 ∧ mK M (e + 5) = 30 ∧ mK M (e + 6) = 30) ∧ (mN M (e + 1) = 1640 ∧ mN M (e + 2) = 41 ∧ mN M (e + 3) = 1640 ∧ mN M (e + 4) = 40 ∧ mN M (e + 5) = 41 ∧ mN M (e + 6) = 41)
theorem Rk.fi {S : Nat → Prop} (h : Rk M e) (f : FI S M M') : Rk M' e := by
  unfold Rk at h ⊢
  rw [f.1, f.2.1, f.2.2.1]
  exact h
/-- residues in the table -/
def Wk9 (M : mM) (e : Nat) (P : Int) (N : Nat) : Prop := ∀ j, j < N → 0 ≤ mI M (e + 3) j ∧ mI M (e + 3) j < P
theorem wk_ui {j N : Nat} {v : Int} (h : Wk9 M e P N) (hv : 0 ≤ v ∧ v < P) (q : M' = mUI M (e + 3) j v) : Wk9 M' e P N := fun i hi => by
  rw [mI_ui _ i q]
  by_cases c : e + 3 = e + 3 ∧ i = j
  · rw [if_pos c]; exact hv
  · rw [if_neg c]; exact h i hi
theorem s_Re_swapRows {N p q : Nat} (hP : P < 1073741824) (h : Rk M e) (hw : Wk9 M e P N) (hN : N ≤ 1640) (hp : p + 41 ≤ N) (hq : q + 41 ≤ N) (hO : mOk M) : Cv G y_Re_swapRows d [vr e, vi p, vi q] M (fun M' => mOk M' ∧ FI (fun x => x = e + 3) M M' ∧ Wk9 M' e P N) := by
  refine k_Re_swapRows hO ⟨by omega, by omega⟩ ⟨by omega, by omega⟩ ?_
  suffices HH : ∀ (t i : Nat) (M1 : mM), 41 ≤ i + t → i ≤ 41 → mOk M1 → FI (fun x => x = e + 3) M M1 → Wk9 M1 e P N → h_Re_swapRows_2 G d e p q i M1 (fun M' => mOk M' ∧ FI (fun x => x = e + 3) M M' ∧ Wk9 M' e P N) from HH 41 0 M (by omega) (by omega) hO FI.refl hw
  intro t
  induction t with
  | zero =>
    intro i M1 h1 h2 o F w
    exact k_Re_swapRows_2 o ⟨by omega, by omega⟩ ⟨by omega, by omega⟩ ⟨by omega, by omega⟩ ⟨fun _ => ⟨o, F, w⟩, fun u => absurd (by omega) u⟩
  | succ t ih =>
    intro i M1 h1 h2 o F w
    refine k_Re_swapRows_2 o ⟨by omega, by omega⟩ ⟨by omega, by omega⟩ ⟨by omega, by omega⟩ ⟨fun _ => ⟨o, F, w⟩, fun u => ?_⟩
    have k1 := h.fi F
    have r2 := k1.2.1.2.2.1
    have n3 := k1.2.2.2.2.2.1
    have c3 := k1.2.2.1.2.2.1
    have wp := w (p + i) (by omega)
    have wq := w (q + i) (by omega)
    rw [r2, n3, show ((p : Nat) : Int) + ((i : Nat) : Int) = ((p + i : Nat) : Int) by omega, show ((q : Nat) : Int) + ((i : Nat) : Int) = ((q + i : Nat) : Int) by omega, Int.toNat_natCast, Int.toNat_natCast]
    refine ⟨k1.1, c3, ⟨by omega, by omega⟩, ⟨by omega, by omega⟩, ⟨by omega, by omega⟩, fun M8 e8 => ?_⟩
    have f8 : FI (fun x => x = e + 3) M1 M8 := by rw [e8]; exact FI.ui rfl
    rw [f8.1, f8.2.1, f8.2.2.1, r2, n3]
    refine ⟨c3, ⟨by omega, by omega⟩, fun M12 e12 => ?_⟩
    have f12 : FI (fun x => x = e + 3) M8 M12 := by rw [e12]; exact FI.ui rfl
    rw [show ((i : Int) + 1) = ((i + 1 : Nat) : Int) by omega]
    exact ih (i + 1) M12 (by omega) (by omega) (by rw [e12]; exact mOk_UI (by rw [e8]; exact mOk_UI o ⟨by omega, by omega⟩) ⟨by omega, by omega⟩) ((F.trans f8).trans f12) (wk_ui (wk_ui w wq e8) wp e12)
theorem tm_b {x : Int} (hx : 0 ≤ x) (hP : 0 < P) : Int.tmod x P = x % P ∧ 0 ≤ x % P ∧ x % P < P := ⟨Int.tmod_eq_emod_of_nonneg hx, Int.emod_nonneg _ (by omega), Int.emod_lt_of_pos _ hP⟩
theorem pr_b {x y z : Int} (hP : P < 1073741824) (hx : 0 ≤ x ∧ x ≤ P) (hy : 0 ≤ y ∧ y ≤ P) (hz : 0 ≤ z ∧ z ≤ P) : 0 ≤ z + x * y ∧ i64 (z + x * y) := by
  have h1 := Int.mul_nonneg hx.1 hy.1
  have h2 : x * y ≤ 1073741824 * y := Int.mul_le_mul_of_nonneg_right (by omega) hy.1
  unfold i64
  omega
end NBI
