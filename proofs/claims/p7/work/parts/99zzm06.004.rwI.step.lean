section
section
variable {G : mG} {d a : Nat} {M : mM} {kw : (Nat → Int) → Nat → Nat → Int}
/-- after cutting, exactly -/
def cutX (kw : (Nat → Int) → Nat → Nat → Int) (M : mM) (a : Nat) (M' : mM) : Prop := cutQ M a M' ∧ ∃ N, 1 ≤ N ∧ wds M' a N ∧ rwx kw (txc M a) (txn M a) a N M'
theorem rwI.fin0 {C : Nat → Int} {n c i : Nat} {M5 M6 : mM} (h : rwI kw C n a c i M5) (hi : i = n) (b6 : ∀ j, j < c → nt M6 (a + 5) j = nt M5 (a + 5) j ∧ nt M6 (a + 7) j = nt M5 (a + 7) j ∧ nt M6 (a + 9) j = nt M5 (a + 9) j) (v1 : nt M6 (a + 5) c = 0) (v2 : nt M6 (a + 7) c = n) : rwx kw C n a (c + 1) M6 := by
  refine ⟨fun j hj => ?_, Or.inl ⟨v1, by rw [show c + 1 - 1 = c by first | rfl | omega, ← h.2]; exact hi, v2⟩⟩
  obtain ⟨e1, e2, e3⟩ := b6 j (by omega)
  rw [e1, e2, e3]
  exact h.1 j (by omega)
theorem rwI.fin1 {C : Nat → Int} {n c i : Nat} {M5 M6 : mM} (h : rwI kw C n a c i M5) (hi : i < n) (hw : wkq (kw C) C n i = 39) (b6 : ∀ j, j < c → nt M6 (a + 5) j = nt M5 (a + 5) j ∧ nt M6 (a + 7) j = nt M5 (a + 7) j ∧ nt M6 (a + 9) j = nt M5 (a + 9) j) (v1 : nt M6 (a + 5) c = 39) (v2 : nt M6 (a + 7) c = i) : rwx kw C n a (c + 1) M6 := by
  refine ⟨fun j hj => ?_, Or.inr ⟨v1, by rw [show c + 1 - 1 = c by first | rfl | omega, ← h.2]; exact hi, by rw [show c + 1 - 1 = c by first | rfl | omega, ← h.2]; exact hw, by rw [show c + 1 - 1 = c by first | rfl | omega, ← h.2]; exact v2⟩⟩
  obtain ⟨e1, e2, e3⟩ := b6 j (by omega)
  rw [e1, e2, e3]
  exact h.1 j (by omega)
theorem rwI.step {C : Nat → Int} {n c i e : Nat} {M5 M6 : mM} {k : Int} (h : rwI kw C n a c i M5) (hi : i < n) (hk : k = wkq (kw C) C n i) (h39 : k ≠ 39) (he : e = weq C n i) (b6 : ∀ j, j < c → nt M6 (a + 5) j = nt M5 (a + 5) j ∧ nt M6 (a + 7) j = nt M5 (a + 7) j ∧ nt M6 (a + 9) j = nt M5 (a + 9) j) (v1 : nt M6 (a + 5) c = k) (v2 : nt M6 (a + 7) c = i) (v3 : nt M6 (a + 9) c = e) : rwI kw C n a (c + 1) (skp C n e) M6 := by
  refine ⟨fun j hj => ?_, by rw [he, h.2]; rfl⟩
  by_cases y : j = c
  · rw [y, ← h.2, v1, v2, v3, ← hk, he]
    exact ⟨hi, h39, rfl, rfl, rfl⟩
  · obtain ⟨e1, e2, e3⟩ := b6 j (by omega)
    rw [e1, e2, e3]
    exact h.1 j (by omega)
end
end
