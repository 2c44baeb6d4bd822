/-! The reference: compile, to its end. -/
section CMP2
variable {G : mG} {d a gm gd : Nat} {M M1 M2 M3 : mM} {P S : Nat → Prop} {Nt9 : tP9}
theorem gd_mv {i9 : tI9} {g : Nat} (h : Gd i9 M2 g) (w : Wd M2 a) (hg : g = a + 13 ∨ g = a + 49) (m : Mv P S M2 a M3) (hin : ∀ q, P q → q ∈ nums a) (hP : ∀ q, P q → ¬ gL9 g q) (hS : ∀ x, S x → ¬ (x = g ∨ (g + 13 ≤ x ∧ x ≤ g + 29))) : Gd i9 M3 g := by
  have fre : ∀ i, 13 ≤ i → i ≤ 29 → g + i < a + 21192 ∧ g + i ∉ nums a ∧ (∀ q, q ∈ nums a → g + i ≠ q + 1) := fun i i1 i2 => by
    have : i = 13 ∨ i = 14 ∨ i = 15 ∨ i = 16 ∨ i = 17 ∨ i = 18 ∨ i = 19 ∨ i = 20 ∨ i = 21 ∨ i = 22 ∨ i = 23 ∨ i = 24 ∨ i = 25 ∨ i = 26 ∨ i = 27 ∨ i = 28 ∨ i = 29 := by omega
    rcases this with y | y | y | y | y | y | y | y | y | y | y | y | y | y | y | y | y <;> subst y <;> exact goffx hg (by decide) (by decide)
  exact h.ra (fun q hq => (m.lst (gL9_in hg hq) (fun z => hP _ z hq)).sl) (m.gI w hg hin (fun z => hS _ z (by omega))) (fun i i1 i2 => m.cellL w hin (fre i i1 i2) (fun z => hS _ z (by omega)))
/-- a step of the solver alone -/
theorem mv_sol (o : mOk M3) (w : Wd M2 a) (f : FI (vF (a + 117)) M2 M3) : Mv (fun _ => False) (vF (a + 117)) M2 a M3 := by
  refine mv_fi o w f (fun x z => ?_)
  have z' : a + 117 ≤ x ∧ x ≤ a + 117 + 21067 := z
  exact ⟨by omega, by omega, fun y => by have := nums_in y; omega, fun q hq y => by have := nums_in hq; omega⟩
theorem Df.good {g N T K R W C Z : Nat} {E : Eg9} {tg : Int} {X9 : xR9} {e9 : tE9} (h : Df M2 a g N T K R W C Z E tg) (hT : T ≤ 16384) (hZ : Z ≤ 16384) (ht : 0 ≤ tg) (ga : GaO E.2) (hX : X9 = XpG E.2) {i0 : Int} : Gd (i0, (W : Int), (R : Int), (C : Int), X9, e9) M2 g :=
  ⟨T, R, W, C, Z, E, tg, h.1.2.2.2.1, ⟨hT, hZ⟩, h.2.1, h.2.2.1, h.2.2.2.2, ht, h.2.1.2.1, h.2.1.1, h.2.1.2.2.1, ga, hX⟩
end CMP2
