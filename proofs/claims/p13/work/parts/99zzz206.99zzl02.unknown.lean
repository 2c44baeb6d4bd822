/-! The class's Solver: the unknown states, their weights. -/
section NBO
variable {G : mG} {d s g cn cc bc i k n c lo hi un : Nat} {M M0 M' M1 M2 M3 : mM}
/-- the unknown states -/
def Unk (M : mM) (s cn un : Nat) : Prop := mI M s 10 = ((un : Nat) : Int) ∧ un ≤ 40 ∧ Slo M s un ∧ ∀ i, i < un → ∃ k c lo hi : Nat, mI M (s + 125) i = ((k : Nat) : Int) ∧ k < cn ∧ mI M (s + 126) i = ((c : Nat) : Int) ∧ mI M (s + 122) k = ((lo : Nat) : Int) ∧ mI M (s + 123) k = ((hi : Nat) : Int) ∧ lo ≤ c ∧ c < hi
def Sun (s x : Nat) : Prop := x = s ∨ x = s + 124 ∨ x = s + 125 ∨ x = s + 126
theorem sun_g (h : SG M s g cn cc bc) : ∀ i, i ≤ 9 → ¬ Sun s (g + i) := fun i hi u => by
  have := h.2.1.1.2
  unfold Sun at u
  omega
end NBO
