section
/-- P: lists that may have grown; S: other cells whose numbers may have changed -/
def FN (P S : Nat → Prop) (M M' : mM) : Prop := (mZ M ≤ mZ M' ∧ ∀ p, P p → p < mZ M) ∧ (∀ x, x < mZ M → mK M' x = mK M x ∧ mN M' x = mN M x) ∧ (∀ x, x < mZ M → ¬ P x → mR M' x = mR M x) ∧ (∀ x, x < mZ M → ¬ P x → (∀ p, P p → x ≠ mR M p 0) → ¬ S x → mI M' x = mI M x ∧ mL M' x = mL M x) ∧ (∀ p, P p → mR M' p 0 = mR M p 0 ∨ mZ M ≤ mR M' p 0)
end
