section
section
variable {P S P' S' : Nat → Prop} {M M1 M2 : mM}
theorem FN.refl (h : ∀ p, P p → p < mZ M) : FN P S M M := ⟨⟨Nat.le_refl _, h⟩, fun _ _ => ⟨rfl, rfl⟩, fun _ _ _ => rfl, fun _ _ _ _ _ => ⟨rfl, rfl⟩, fun _ _ => Or.inl rfl⟩
theorem FN.trans (h : FN P S M M1) (k : FN P S M1 M2) : FN P S M M2 := by
  obtain ⟨⟨h1, h0⟩, h2, h3, h4, h5⟩ := h
  obtain ⟨⟨k1, k0⟩, k2, k3, k4, k5⟩ := k
  refine ⟨⟨by omega, h0⟩, fun x hx => ⟨((k2 x (by omega)).1).trans (h2 x hx).1, ((k2 x (by omega)).2).trans (h2 x hx).2⟩, fun x hx hp => (k3 x (by omega) hp).trans (h3 x hx hp), fun x hx hp hq hs => ?_, fun p hp => ?_⟩
  · have a := h4 x hx hp hq hs
    have b := k4 x (by omega) hp (fun p hp2 e => by
      rcases h5 p hp2 with w | w
      · exact hq p hp2 (e.trans w)
      · omega) hs
    exact ⟨b.1.trans a.1, b.2.trans a.2⟩
  · rcases h5 p hp with w | w
    · rcases k5 p hp with u | u
      · exact Or.inl (u.trans w)
      · exact Or.inr (by omega)
    · rcases k5 p hp with u | u
      · exact Or.inr (by omega)
      · exact Or.inr (by omega)
theorem FN.mono (h : FN P S M M1) (hp : ∀ p, P p → P' p) (hs : ∀ x, S x → S' x) (h0 : ∀ p, P' p → p < mZ M) : FN P' S' M M1 := by
  obtain ⟨⟨h1, -⟩, h2, h3, h4, h5⟩ := h
  refine ⟨⟨h1, h0⟩, h2, fun x hx hq => h3 x hx (fun w => hq (hp x w)), fun x hx hq hr hs' => h4 x hx (fun w => hq (hp x w)) (fun p w => hr p (hp p w)) (fun w => hs' (hs x w)), fun p hq => ?_⟩
  by_cases z : P p
  · exact h5 p z
  · exact Or.inl (by rw [h3 p (h0 p hq) z])
theorem FI.fn (h : FI S M M1) : FN (fun _ => False) S M M1 := by
  obtain ⟨h1, h2, h3, h4, h5, h6, h7⟩ := h
  exact ⟨⟨by rw [h5]; exact Nat.le_refl _, fun p q => q.elim⟩, fun x _ => ⟨by rw [h1], by rw [h2]⟩, fun x _ _ => by rw [h3], fun x _ _ _ q => ⟨h7 x q, by rw [h4]⟩, fun p q => q.elim⟩
end
end
