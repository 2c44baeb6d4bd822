/-! The class's natural numbers: questions. -/
section NAB
variable {G : mG} {d a b Y Cy s n X Cx r t : Nat} {M M' M1 M2 : mM}
theorem s_Na_isOne (hO : mOk M) (h : Nt M a Y Cy s) : Ci G y_Na_isOne d [vr a] M (fun x M' => M' = M ∧ (x = 0 ∨ x = 1) ∧ (x ≠ 0 → dn (mI M Y) s = 1)) := by
  obtain ⟨⟨k0, r0, kY, nY, ⟨c1, c2⟩, -⟩, sz1, -⟩ := h
  refine k_Na_isOne hO ?_
  rw [r0, nY]
  refine ⟨k0, fun _ => ⟨kY, ⟨by omega, by omega⟩⟩, fun v6 e6 => ⟨rfl, ?_⟩⟩
  rw [e6]
  split
  · rename_i hc
    refine ⟨Or.inr rfl, fun _ => ?_⟩
    obtain ⟨h1, h2⟩ := hc
    have s1 : s = 1 := by
      rw [sz1] at h1
      omega
    rw [s1]
    show 0 + mI M Y 0 * 2 ^ (30 * 0) = 1
    rw [h2]
    decide
  · exact ⟨Or.inl rfl, fun u => absurd rfl u⟩
end NAB
