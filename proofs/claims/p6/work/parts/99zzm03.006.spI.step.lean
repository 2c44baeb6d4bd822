section
section
variable {G : mG} {d w T A B D N C k n j : Nat} {M M' M1 M2 M3 : mM} {kw : (Nat → Int) → Nat → Nat → Int} {c : Nat → Int}
theorem spI.fin (h : spI kw c N M A B D k j) (hj : j = N) (eA : ∀ i, i < k → mI M' A i = mI M A i) (eB : ∀ i, i < k → mI M' B i = mI M B i) (eD : ∀ i, i < k → mI M' D i = mI M D i) : spx kw c N M' A B D k := by
  obtain ⟨h1, h2, h3⟩ := h
  refine ⟨fun i hi => ?_, h2, ?_⟩
  · rw [eA i hi, eB i hi, eD i hi]; exact h1 i hi
  · rcases h3 with ⟨h3, h4⟩ | ⟨-, h4, h5⟩
    · exact Or.inl ⟨by rw [← h3]; exact hj, h4⟩
    · exact Or.inr ⟨h4, h5⟩
theorem spI.step {s am : Int} {r r' : Nat} (h : spI kw c N M A B D k j) (hj : j < N) (hw : wdx kw c N s j am j) (eA : ∀ i, mI M' A i = if i = k then s else mI M A i) (eB : ∀ i, mI M' B i = if i = k then (j : Int) else mI M B i) (eD : ∀ i, mI M' D i = if i = k then am else mI M D i) (h39 : wkq (kw c) c N j = 39 → r = N) (hn : wkq (kw c) c N j ≠ 39 → r = weq c N j) (hr : r' = skp c N r) : spI kw c N M' A B D (k + 1) r' := by
  obtain ⟨h1, h2, h3⟩ := h
  rcases h3 with ⟨h3, h4⟩ | ⟨h3, -⟩
  · subst h3
    refine ⟨fun i hi => ?_, fun i hi => h4 i (by omega), ?_⟩
    · rw [eA, eB, eD]
      by_cases y : i = k
      · rw [if_pos y, if_pos y, if_pos y, y]; exact ⟨hj, hw⟩
      · rw [if_neg y, if_neg y, if_neg y]; exact h1 i (by omega)
    · by_cases y : wkq (kw c) c N (pwq c N k) = 39
      · right
        have e := h39 y
        subst e
        refine ⟨by rw [hr]; unfold skp; rw [Nat.sub_self]; rfl, by omega, ?_⟩
        rw [show k + 1 - 1 = k by omega]; exact y
      · left
        refine ⟨by rw [hr, hn y]; rfl, fun i hi => ?_⟩
        by_cases z : i = k
        · rw [z]; exact y
        · exact h4 i (by omega)
  · omega
end
end
