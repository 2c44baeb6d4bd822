section
section
variable {G : mG} {d : Nat} {M : mM}
theorem x_Ma_commonDivisor {x y : Int} (hx : -9223372036854775807 ≤ x ∧ x ≤ 9223372036854775807) (hy : 1 ≤ y ∧ y ≤ 9223372036854775807) (hO : mOk M) : Cj G y_Ma_commonDivisor d [vl x, vl y] M (fun v M' => M' = M ∧ (1 ≤ v ∧ v ≤ y) ∧ v = (Int.gcd x y : Int)) := by
  refine k_Ma_commonDivisor hO ⟨by omega, by omega⟩ ⟨by omega, by omega⟩ (fun v2 e2 => ?_)
  have ev : v2 = (x.natAbs : Int) := by
    have := (cmpz x 0).1
    rw [e2]
    split <;> omega
  have ey : y = ((y.natAbs : Nat) : Int) := by omega
  have g0 : Int.gcd x y = Nat.gcd x.natAbs y.natAbs := rfl
  have gp : 1 ≤ Nat.gcd x.natAbs y.natAbs := Nat.gcd_pos_of_pos_right _ (by omega)
  have gl : Nat.gcd x.natAbs y.natAbs ≤ y.natAbs := Nat.gcd_le_right _ (by omega)
  have e100 : euq 100 x.natAbs y.natAbs = Nat.gcd x.natAbs y.natAbs := eu_100 (by omega)
  rw [g0]
  generalize Nat.gcd x.natAbs y.natAbs = gg at *
  have hp : x.natAbs ≤ 9223372036854775807 := by omega
  have hq : y.natAbs ≤ 9223372036854775807 := by omega
  have hyy : (gg : Int) ≤ y := by omega
  clear e2 g0 gl
  rw [ev]
  have key : ∀ (s i p q : Nat), i + s = 100 → p ≤ 9223372036854775807 → q ≤ 9223372036854775807 → euq s p q = gg → h_Ma_commonDivisor_20 G d (p : Int) (q : Int) i M (fun v M' => M' = M ∧ (1 ≤ v ∧ v ≤ y) ∧ v = (gg : Int)) := by
    intro s
    induction s with
    | zero =>
      intro i p q hi bp bq he
      have he : p = gg := he
      have ca := (cmpz (p : Int) 0).2.2.2.1
      refine k_Ma_commonDivisor_20 hO ⟨by omega, by omega⟩ ⟨by omega, by omega⟩ (i32s (by omega) (by omega)) ⟨fun _ v12 e12 => ?_, fun z => absurd (Or.inl (by omega)) z⟩
      rw [if_neg (by rw [ca]; omega)] at e12
      rw [e12, he]
      exact ⟨rfl, ⟨by omega, hyy⟩, rfl⟩
    | succ s ih =>
      intro i p q hi bp bq he
      have he : (if q = 0 then p else euq s q (p % q)) = gg := he
      have ca := (cmpz (p : Int) 0).2.2.2.1
      have cb := (cmpz (q : Int) 0).2.2.2.1
      refine k_Ma_commonDivisor_20 hO ⟨by omega, by omega⟩ ⟨by omega, by omega⟩ (i32s (by omega) (by omega)) ⟨fun z v12 e12 => ?_, fun z => ?_⟩
      · have q0 : q = 0 := by
          rcases z with z | z
          · omega
          · rw [cb] at z; omega
        rw [if_pos q0] at he
        rw [if_neg (by rw [ca]; omega)] at e12
        rw [e12, he]
        exact ⟨rfl, ⟨by omega, hyy⟩, rfl⟩
      · have q0 : q ≠ 0 := fun u => z (Or.inr (by rw [cb]; omega))
        rw [if_neg q0] at he
        have hlt := Nat.mod_lt p (Nat.pos_of_ne_zero q0)
        refine ⟨by omega, ?_⟩
        have em : Int.tmod (p : Int) (q : Int) = ((p % q : Nat) : Int) := rfl
        rw [em]
        exact ih (i + 1) q (p % q) (by omega) bq (by omega) he
  have k0 := key 100 0 x.natAbs y.natAbs (by omega) hp hq e100
  rw [← ey] at k0
  exact k0
end
end
