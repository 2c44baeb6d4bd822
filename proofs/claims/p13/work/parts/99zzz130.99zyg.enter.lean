/-! The reference: a state is entered. -/
section ENT
variable {G : mG} {d a g T R W C Z : Nat} {M M' : mM} {E : Eg9} {tg : Int} {P S : Nat → Prop}
theorem En.mv (h : En M a g R W) (w : Wd M a) (m : Mv P S M a M') (hin : ∀ q, P q → q ∈ nums a) (gs : Gs M M' g) (hS : ∀ x, S x → ¬ (a + 101 ≤ x ∧ x ≤ a + 104)) : En M' a g R W := by
  have c101 := m.cellL w hin (offx (a := a) (o := 101) (by decide)) (fun z => hS _ z (by omega))
  have c102 := m.cellL w hin (offx (a := a) (o := 102) (by decide)) (fun z => hS _ z (by omega))
  have c103 := m.cellL w hin (offx (a := a) (o := 103) (by decide)) (fun z => hS _ z (by omega))
  have c104 := m.cellL w hin (offx (a := a) (o := 104) (by decide)) (fun z => hS _ z (by omega))
  unfold En
  rw [gs_tn gs, c101.1, c102.1, c103.2, c104.2, (gs.2.1 13 (by omega) (by omega)).1, (gs.2.1 19 (by omega) (by omega)).1, (gs.2.1 20 (by omega) (by omega)).1]
  exact h
end ENT
