/-! The reference: tree. -/
theorem JL.rs {w : Nat → Int} {p : Int} : ∀ {f i j : Nat} {s : List Int}, JL w p f i j s → ∃ rs, s = flat p rs ∧ rs ≠ [] ∧ (∀ i' j', (i', j') ∈ rs → Eo w 6 i' j' ∧ j' ≤ j ∧ j' - i' ≤ j - i) ∧ rsum rs ≤ j - i
  | 0, _, _, _, h => h.elim
  | f + 1, i, j, s, h => by
    rcases h with ⟨h1, h2⟩ | ⟨m, s2, h1, h2, h3, h4⟩
    · refine ⟨[(i, j)], h1, by simp, fun i' j' q => ?_, by show (j - i) + 0 ≤ _; omega⟩
      have q' := List.mem_singleton.1 q
      obtain ⟨q1, q2⟩ := Prod.mk.inj q'
      subst q1 q2
      exact ⟨h2, Nat.le_refl _, Nat.le_refl _⟩
    · obtain ⟨rs, k1, k2, k3, k4⟩ := JL.rs h4
      have p2 := h2.pr.1
      have hne : m + 1 < j := by
        cases rs with
        | nil => exact absurd rfl k2
        | cons x rs =>
          have a := k3 x.1 x.2 (List.mem_cons_self ..)
          have := a.1.pr.1
          have := a.2
          omega
      refine ⟨(i, m) :: rs, by rw [h3, k1]; rfl, by simp, fun i' j' q => ?_, by show (m - i) + rsum rs ≤ j - i; omega⟩
      rcases List.mem_cons.1 q with z | z
      · obtain ⟨q1, q2⟩ := Prod.mk.inj z
        subst q1 q2
        exact ⟨h2, by omega, by omega⟩
      · have a := k3 i' j' z
        exact ⟨a.1, a.2.1, by have := a.2.2; omega⟩
section MK
variable {G : mG} {d a N g : Nat} {M : mM} {root : Int} {Q : Int → mM → Prop}
end MK
