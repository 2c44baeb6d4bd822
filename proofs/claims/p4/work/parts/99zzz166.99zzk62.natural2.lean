/-! The class's natural numbers: questions. -/
section NAB
variable {G : mG} {d a b Y Cy s n X Cx r t : Nat} {M M' M1 M2 : mM}
theorem s_Na_isOne (hO : mOk M) (h : Nt M a Y Cy s) : Ci G y_Na_isOne d [vr a] M (fun x M' => M' = M ∧ (x = 0 ∨ x = 1)) := by
  obtain ⟨⟨k0, r0, kY, nY, ⟨c1, c2⟩, -⟩, -⟩ := h
  refine k_Na_isOne hO ?_
  rw [r0, nY]
  refine ⟨k0, fun _ => ⟨kY, ⟨by omega, by omega⟩⟩, fun v6 e6 => ⟨rfl, ?_⟩⟩
  rw [e6]
  split
  · exact Or.inr rfl
  · exact Or.inl rfl
theorem s_Na_order (hO : mOk M) (h : Nt M a Y Cy s) (k : Nt M b X Cx n) : Ci G y_Na_order d [vr a, vr b] M (fun x M' => M' = M ∧ (x = -1 ∨ x = 0 ∨ x = 1)) := by
  obtain ⟨⟨k0, r0, kY, nY, ⟨c1, c2⟩, -⟩, h1, h2, -⟩ := h
  obtain ⟨⟨l0, p0, kX, nX, ⟨e1, e2⟩, -⟩, g1, g2, -⟩ := k
  refine k_Na_order hO ?_
  rw [h1, g1]
  refine ⟨k0, l0, fun y => ?_, fun y v7 e7 => ⟨rfl, ?_⟩⟩
  · have sn : s = n := by omega
    subst sn
    suffices HH : ∀ t : Nat, t ≤ s → h_Na_order_35 G d a b (((t : Nat) : Int) - 1) M (fun x M' => M' = M ∧ (x = -1 ∨ x = 0 ∨ x = 1)) from HH s (Nat.le_refl _)
    intro t
    induction t with
    | zero =>
      intro ht
      exact k_Na_order_35 hO ⟨by omega, by omega⟩ ⟨fun _ => ⟨rfl, Or.inr (Or.inl rfl)⟩, fun y => absurd y (by omega)⟩
    | succ t ih =>
      intro ht
      refine k_Na_order_35 hO ⟨by omega, by omega⟩ ⟨fun y => absurd y (by omega), fun _ => ?_⟩
      rw [r0, p0, nY, nX, show Int.toNat (((t + 1 : Nat) : Int) - 1) = t by omega]
      refine ⟨k0, kY, by omega, l0, kX, by omega, fun _ => ?_, fun _ => ⟨by omega, by omega, fun v38 e38 => ⟨rfl, ?_⟩⟩⟩
      · rw [show ((t + 1 : Nat) : Int) - 1 + (-1) = ((t : Nat) : Int) - 1 by omega]
        exact ih (by omega)
      · rw [e38]
        split
        · exact Or.inr (Or.inr rfl)
        · exact Or.inl rfl
  · rw [e7]
    split
    · exact Or.inr (Or.inr rfl)
    · exact Or.inl rfl
end NAB
