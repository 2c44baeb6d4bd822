/-! The value of a fraction of the reference. -/
def fv (M : mM) (f : Nat) : Rat := (sn M f : Rat) * (sd M f : Rat)⁻¹
theorem ic_ne {x : Int} (h : 0 < x) : (x : Rat) ≠ 0 := fun w => by
  have w2 : x = 0 := by exact_mod_cast w
  omega
theorem fv_of {X Y N D : Int} (hY : 0 < Y) (hD : (D : Rat) ≠ 0) (e : X * D = N * Y) : (X : Rat) * (Y : Rat)⁻¹ = (N : Rat) * (D : Rat)⁻¹ := by
  have e1 : (X : Rat) * (D : Rat) = (N : Rat) * (Y : Rat) := by rw [← Rat.intCast_mul, ← Rat.intCast_mul, e]
  have e2 := Rat.mul_inv_cancel _ (ic_ne hY)
  have e3 := Rat.mul_inv_cancel _ hD
  generalize (Y : Rat)⁻¹ = y at *
  generalize (D : Rat)⁻¹ = d at *
  generalize (X : Rat) = x at *
  generalize (N : Rat) = n at *
  generalize (Y : Rat) = Y at *
  generalize (D : Rat) = D at *
  have e4 : x * y * (D * d) = n * d * (Y * y) := by grind
  rw [e3, e2] at e4
  grind
section FV
variable {M M' : mM} {u a b ra rb : Nat}
theorem fv_mul (hA : Fq M a ra) (hB : Fq M b rb) (h : suQ M u (sn M a * sn M b) (sd M a * sd M b) M') : fv M' (u + 1) = fv M a * fv M b := by
  have p1 : 0 < sd M a := hA.2.2.2.2
  have p2 : 0 < sd M b := hB.2.2.2.2
  have p3 : 0 < sd M' (u + 1) := h.2.2.2.1.2.2.2.2
  have e := fv_of p3 (ic_ne (Int.mul_pos p1 p2)) h.2.2.2.2.2
  unfold fv
  rw [e, Rat.intCast_mul, Rat.intCast_mul]
  have e2 := Rat.mul_inv_cancel _ (ic_ne p1)
  have e3 := Rat.mul_inv_cancel _ (ic_ne p2)
  have e4 : ((sd M a : Rat) * (sd M b : Rat))⁻¹ = (sd M a : Rat)⁻¹ * (sd M b : Rat)⁻¹ := by grind
  rw [e4]
  grind
theorem fv_add {m : Int} (hm : m = 0 ∨ m = 1) (hA : Fq M a ra) (hB : Fq M b rb) (h : suQ M u (sn M a * sd M b + (if m = 1 then - (sn M b * sd M a) else sn M b * sd M a)) (sd M a * sd M b) M') : fv M' (u + 1) = if m = 1 then fv M a - fv M b else fv M a + fv M b := by
  have p1 : 0 < sd M a := hA.2.2.2.2
  have p2 : 0 < sd M b := hB.2.2.2.2
  have p3 : 0 < sd M' (u + 1) := h.2.2.2.1.2.2.2.2
  have e := fv_of p3 (ic_ne (Int.mul_pos p1 p2)) h.2.2.2.2.2
  have e2 := Rat.mul_inv_cancel _ (ic_ne p1)
  have e3 := Rat.mul_inv_cancel _ (ic_ne p2)
  have e4 : ((sd M a : Rat) * (sd M b : Rat))⁻¹ = (sd M a : Rat)⁻¹ * (sd M b : Rat)⁻¹ := by grind
  unfold fv
  rw [e, Rat.intCast_mul (sd M a), e4, Rat.intCast_add, Rat.intCast_mul]
  generalize hx : (sd M a : Rat)⁻¹ = x at *
  generalize hy : (sd M b : Rat)⁻¹ = y at *
  rcases hm with q | q
  · rw [if_neg (by omega), if_neg (by omega), Rat.intCast_mul]
    grind
  · rw [if_pos q, if_pos q, Rat.intCast_neg, Rat.intCast_mul]
    grind
theorem fv_set {M : mM} {f : Nat} {j k : Int} (h1 : sn M f = j) (h2 : sd M f = k) : fv M f = (j : Rat) * (k : Rat)⁻¹ := by
  unfold fv
  rw [h1, h2]
/-- in lowest terms: what makes the value whole is a multiple of the bottom -/
theorem fc_dvd {M : mM} {f r : Nat} {E z : Int} (hF : Fq M f r) (hC : Fc M f) (h : fv M f * (E : Rat) = (z : Rat)) : sd M f ∣ E := by
  have p : 0 < sd M f := hF.2.2.2.2
  have e : sn M f * E = z * sd M f := by
    have e1 : ((sn M f * E : Int) : Rat) = ((z * sd M f : Int) : Rat) := by
      rw [Rat.intCast_mul, Rat.intCast_mul, ← h]
      unfold fv
      have e2 := Rat.mul_inv_cancel _ (ic_ne p)
      grind
    exact_mod_cast e1
  have hn := hF.2.1.nonneg
  have e3 : (sn M f).natAbs = xn M (f + 1) := by
    unfold sn xn
    split <;> omega
  have e4 : (sd M f).natAbs = xn M (f + 3) := by
    have : sd M f = wv M (f + 3) := rfl
    unfold xn
    omega
  have hc : Nat.Coprime (sd M f).natAbs (sn M f).natAbs := by
    unfold Nat.Coprime
    rw [e3, e4, Nat.gcd_comm]
    exact hC.1
  have hd : (sd M f).natAbs ∣ (sn M f).natAbs * E.natAbs := by
    rw [← Int.natAbs_mul, e, Int.natAbs_mul]
    exact Nat.dvd_mul_left _ _
  exact Int.natAbs_dvd_natAbs.1 (hc.dvd_of_dvd_mul_left hd)
end FV
