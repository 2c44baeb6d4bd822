/-! The reference: look. -/
section LW
variable {G : mG} {d a N g T K : Nat} {M : mM} {nm : Int → Prop} {co : Int}
/-- a tree has been looked at: a fault was told, or its names are known -/
def lkQ (co : Int) (M : mM) (a g N T K n e : Nat) (r : Int) (M3 : mM) : Prop := LO M a g N T K M3 ∧ (r = 0 ∨ r = 1) ∧ (mI M3 a 16 ≠ 0 ∨ (mI M3 a 16 = 0 ∧ (∃ f, Ty (nmr co M g) (tn M g) M3 g f 0 n e (fun _ => r)) ∧ ∀ j, (j < n ∨ e ≤ j) → va M3 g j = va M g j))
theorem LO.refl (h : Lc M a g N T K) : LO M a g N T K M := by
  have w := h.2.1.1.1
  exact ⟨Mv.refl h.1 w (fun q hq => w.lt (lkP_in h.2.2.2.2.2.1 hq)), h, fun _ _ _ => rfl, fun _ => ⟨rfl, rfl, rfl⟩, rfl⟩
end LW
