section
section
variable {G : mG} {d z r w T A B D N C n p O P K k a s L V F d0 c : Nat} {M0 M M' M1 M2 M110 M126 M133 : mM} {H H' : Nat → Nat} {ns : Nat → Int} {wt : Int}
theorem x_RR_mayDeny (h : RB M z r w T A B D N C n p O P K) (hk : mI M r 12 = k) (hk3 : k ≤ 336) : Ci G y_RR_mayDeny (d + 1) [vr r] M (fun x M' => M' = M ∧ (x = 0 ∨ x = 1) ∧ (x ≠ 0 ↔ myd M r)) := by
  obtain ⟨-, ⟨k0, ⟨q8, -⟩, ⟨k1, -⟩, ⟨n1, -⟩⟩, -⟩ := id h
  refine k_RR_mayDeny h.1 ⟨k0, fun y => ⟨rfl, Or.inr rfl, fun _ => Or.inl y, fun _ => by omega⟩, fun y => ?_⟩
  rw [q8, n1]
  refine ⟨k1, by omega, (s_RR_level (h.1 _ _).1 h.1).mono (fun x M2 q => ?_)⟩
  obtain ⟨e2, ex⟩ := q
  subst e2
  have ek : ((mI M2 r 12) - 1).toNat = k - 1 := by omega
  rw [ek] at ex ⊢
  have := lvl_b (mI M2 (r + 1) (k - 1))
  have key : myd M2 r ↔ (lvl (mI M2 (r + 1) (k - 1)) < 4 ∧ mI M2 (r + 1) (k - 1) ≠ 40) := by
    constructor
    · intro q
      rcases q with q | ⟨j, j1, j2, j3⟩
      · exact absurd q y
      · have : j = k - 1 := by omega
        rw [this] at j2 j3
        exact ⟨j2, j3⟩
    · intro q
      exact Or.inr ⟨k - 1, by omega, q.1, q.2⟩
  rw [key]
  refine ⟨i32s (by omega) (by omega), h.1, fun v e => ⟨rfl, by rw [e]; split <;> omega, ?_⟩⟩
  rw [e]
  split
  · exact ⟨fun q => absurd rfl q, fun q => by omega⟩
  · exact ⟨fun _ => by omega, fun _ => by omega⟩
theorem gp_c9 {o : Int} (h : o = 37 ∨ o = 40 ∨ o = 41 ∨ o = 15 ∨ o = 16) : cdp o = 1 := by unfold cdp; split <;> omega
end
end
