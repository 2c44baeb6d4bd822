/-! Values: quotients and sizes; the solver's cells. -/
section FV
variable {M M' : mM} {u a b ra rb : Nat}
theorem fv_div (hA : Fq M a ra) (hB : Fq M b rb) (hb : sn M b ≠ 0) (h : suQ M u (sn M a * sd M b) (sd M a * sn M b) M') : fv M' (u + 1) * fv M b = fv M a := by
  have p1 : 0 < sd M a := hA.2.2.2.2
  have p2 : 0 < sd M b := hB.2.2.2.2
  have p3 : 0 < sd M' (u + 1) := h.2.2.2.1.2.2.2.2
  have hbr : (sn M b : Rat) ≠ 0 := fun w => hb (by exact_mod_cast w)
  have hn : ((sd M a * sn M b : Int) : Rat) ≠ 0 := fun w => by
    have w2 : sd M a * sn M b = 0 := by exact_mod_cast w
    rcases Int.mul_eq_zero.1 w2 with q | q
    · omega
    · exact hb q
  have e := fv_of p3 hn h.2.2.2.2.2
  have e2 := Rat.mul_inv_cancel _ (ic_ne p1)
  have e3 := Rat.mul_inv_cancel _ (ic_ne p2)
  have e5 := Rat.mul_inv_cancel _ hbr
  unfold fv
  rw [e, Rat.intCast_mul, Rat.intCast_mul]
  have e4 : ((sd M a : Rat) * (sn M b : Rat))⁻¹ = (sd M a : Rat)⁻¹ * (sn M b : Rat)⁻¹ := by grind
  rw [e4]
  grind
/-- how many parts a fraction in lowest terms takes -/
theorem fc_size {M : mM} {f r k : Nat} {E z : Int} (hF : Fq M f r) (hC : Fc M f) (h : fv M f * (E : Rat) = (z : Rat)) (hE0 : 0 < E) (hE : E < 16777216 ^ k) (hv : sn M f ≤ sd M f) (hv2 : - sd M f ≤ sn M f) : mI M (f + 1) 1 ≤ k ∧ mI M (f + 3) 1 ≤ k := by
  have hd := Int.le_of_dvd hE0 (fc_dvd hF hC h)
  have e1 : sd M f = wv M (f + 3) := rfl
  have hn := hF.2.1.nonneg
  have e2 : wv M (f + 1) ≤ sd M f := by
    unfold sn at hv hv2
    split at hv <;> omega
  exact ⟨hF.2.1.size (by omega), hF.2.2.1.size (by omega)⟩
end FV
/-- the cell of row i, column j -/
abbrev cel (s i j : Nat) : Nat := s + 12868 + 5 * (41 * i + j)
section VS
variable {G : mG} {d s : Nat} {M : mM}
theorem s_MS_cell {i j : Nat} (hi : i < 40) (hj : j < 41) (hO : mOk M) (hV : Vk M s) : Cr G y_MS_cell d [vr s, vi i, vi j] M (fun x M' => M' = M ∧ x = cel s i j) := by
  refine k_MS_cell hO ⟨by omega, by omega⟩ ⟨by omega, by omega⟩ ?_
  rw [hV.r25, hV.n41, show (41 * (i : Int) + (j : Int)).toNat = 41 * i + j by omega, hV.f41 _ (by omega)]
  exact ⟨hV.k0, hV.k41, by omega, rfl, rfl⟩
end VS
