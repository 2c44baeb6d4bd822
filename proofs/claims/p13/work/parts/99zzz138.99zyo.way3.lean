/-! The reference: way, from its beginning. -/
section WAY3
variable {G : mG} {d a g T R W C Z n L w w0 : Nat} {M M2 : mM} {E : Eg9} {tg mul Sm A D : Int} {B : Nat → Nat}
theorem wyF.gs (h : wyF M a M2) (wd : Wd M a) (hg : g = a + 13 ∨ g = a + 49) : Gs M M2 g :=
  gs_st wd hg h.1 (fun q hq => wyP_in hq) (fun q hq z => by
    have z' : q = g + 1 ∨ q = g + 3 ∨ q = g + 5 ∨ q = g + 7 ∨ q = g + 9 ∨ q = g + 11 ∨ q = g + 30 ∨ q = g + 32 ∨ q = g + 34 := z
    have hq' : q = a + 99 ∨ q = a + 113 := hq
    omega) (fun x hx => by have := wyS_un hx; omega)
theorem wyQ.up {n' : Nat} {M' : mM} (h : wyQ M a g T R W C Z E tg n' L w w0 mul Sm B M') (hn : n ≤ n') : wyQ M a g T R W C Z E tg n L w w0 mul Sm B M' := by
  obtain ⟨h1, h2, h3, h4⟩ := h
  refine ⟨h1, h2, h3, h4.imp (fun z => z) (fun z => ?_)⟩
  obtain ⟨z1, n'', w'', z2, z3⟩ := z
  exact ⟨z1, n'', w'', by omega, z3⟩
/-- a state has been found or made -/
theorem wI.so {b n' : Nat} {x : Int} {M3 : mM} (h : wI M a g T R W C Z E tg n L w w0 mul Sm A D B b M2) (h1 : n' = n ∨ n' = n + 1) (h2 : n' ≤ 512) (m : Mv (fun _ => False) (fun y => y = a ∨ y = a + 105) M2 a M3) (h3 : mI M3 a 29 = (n' : Int)) (h4 : ∀ i, i ≠ 29 → mI M3 a i = mI M2 a i) (h5 : Vx M3 a g n' W) : wI M a g T R W C Z E tg n' L w w0 mul Sm A D B b M3 := by
  obtain ⟨x1, gg, en, xd, op, cA, cD⟩ := h
  have w2 := gg.2.1
  have hg := gg.2.2.1.2
  have no : ∀ q : Nat, False → q ∈ nums a := fun _ z => z.elim
  have gs := gs_st w2 hg m no (fun _ z => z.elim) (fun x z => by omega)
  obtain ⟨d1, d2, d3, d4, d5, d6, d7⟩ := xd
  have s : ∀ {q}, q ∈ nums a → sl M2 M3 q := fun hq => (m.lst hq (fun z => z)).sl
  have c : ∀ o, frO o → o ≠ 0 → o ≠ 105 → mI M3 (a + o) = mI M2 (a + o) ∧ mL M3 (a + o) = mL M2 (a + o) := fun o fo o0 o1 => m.cellL w2 no (offx fo) (by omega)
  have c85 := c 21185 (by decide) (by decide) (by decide)
  have c86 := c 21186 (by decide) (by decide) (by decide)
  have c87 := c 21187 (by decide) (by decide) (by decide)
  have c89 := c 21189 (by decide) (by decide) (by decide)
  have c90 := c 21190 (by decide) (by decide) (by decide)
  refine ⟨x1.trans (wyF.mk w2 m (fun _ z => z.elim) (fun x z => ?_) (fun i _ _ _ i4 _ => h4 i i4)), gg.gs m.1 m.2.1 (by rw [m.rfl_a w2 no]) gs, en.mv w2 m no gs (fun x z => by omega), ⟨⟨h3, by omega, h2⟩, by rw [h4 40 (by decide)]; exact d2, h5, fun j hj => ?_, by rw [(s k109).1, (s k111).1, (s k113).1, (s k115).1]; exact d5, d6, fun i hi => (d7 i hi).cg ((s k111).2 i) ((s k113).2 i) ((s k115).2 i) (fun j _ _ => by rw [c86.2, c87.2]; exact ⟨rfl, rfl⟩)⟩, op.mv w2 m no (fun _ z => z.elim) (fun x z => by omega), by rw [c89.2]; exact cA, by rw [c90.2]; exact cD⟩
  · rcases z with z | z
    · exact Or.inl (Or.inl z)
    · exact Or.inr (Or.inl z)
  · rw [c85.1, c86.2, c87.2]
    have := d4 j hj
    exact ⟨by omega, this.2⟩
end WAY3
