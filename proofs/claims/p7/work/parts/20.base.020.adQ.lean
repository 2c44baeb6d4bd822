section
section
variable {G : mG} {d p : Nat} {M : mM}
theorem Nu.fn {P S : Nat → Prop} {M' : mM} (h : Nu M p) (f : FN P S M M') (hp : ¬ P p) (ha : ∀ q, P q → mR M p 0 ≠ mR M q 0) (ha2 : ¬ P (mR M p 0)) (hq : ∀ q, P q → p ≠ mR M q 0) (hs : ¬ S p) (hs2 : ¬ S (mR M p 0)) : Nu M' p ∧ ln M' p = ln M p ∧ (∀ j, nt M' p j = nt M p j) ∧ cp M' p = cp M p ∧ mR M' p = mR M p := by
  obtain ⟨h1, h2, ⟨h3, h4⟩, h5, h6⟩ := h
  obtain ⟨⟨f1, f0⟩, f2, f3, f4, f5⟩ := f
  have e1 := f3 p h3 hp
  have e2 := f4 p h3 hp (fun q w => hq q w) hs
  have e3 := f4 (mR M p 0) h4 ha2 ha hs2
  have e4 := f2 p h3
  have e5 := f2 (mR M p 0) h4
  have ec : cp M' p = cp M p := by unfold cp; rw [e1, e5.2]
  refine ⟨⟨by rw [e4.1]; exact h1, by rw [e1, e5.1]; exact h2, ⟨by omega, by rw [e1]; omega⟩, by rw [e2.1, ec]; exact h5, by rw [ec]; exact h6⟩, by unfold ln; rw [e2.1], fun j => by unfold nt; rw [e1, e3.1], ec, e1⟩
/-- what adding leaves behind -/
def adB (B : Nat) (M : mM) (p : Nat) (v : Int) (M' : mM) : Prop := mOk M' ∧ Nu M' p ∧ FN (fun x => x = p) (fun _ => False) M M' ∧ ln M' p = ln M p + 1 ∧ (∀ j : Nat, (j : Int) < ln M p → nt M' p j = nt M p j) ∧ nt M' p (ln M p).toNat = v ∧ (mS M' + 2 * cp M p = mS M + 2 * cp M' p ∧ mZ M' + cp M p / 16 ≤ mZ M + cp M' p / 16) ∧ (cp M' p = cp M p ∨ cp M' p ≤ 2 * B)
def adQ (M : mM) (p : Nat) (v : Int) (M' : mM) : Prop := adB 32768 M p v M'
end
end
