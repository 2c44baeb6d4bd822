/-! The reference: way. -/
section WAY2
variable {G : mG} {d a g T R W C Z n L w w0 : Nat} {M M2 : mM} {E : Eg9} {tg mul Sm A D : Int} {B : Nat → Nat}
/-- inside way -/
def wI (M : mM) (a g T R W C Z : Nat) (E : Eg9) (tg : Int) (n L w w0 : Nat) (mul Sm A D : Int) (B : Nat → Nat) (b : Nat) (M2 : mM) : Prop := wyF M a M2 ∧ GG M2 a g T R W C Z E tg ∧ En M2 a g R W ∧ XD M2 a g n W L w (L + 1) B ∧ Op M2 a L w0 w mul Sm ∧ mL M2 (a + 21189) b = A ∧ mL M2 (a + 21190) b = D
/-- a step that leaves ways and states -/
theorem wI.st {b : Nat} {M3 : mM} {P S : Nat → Prop} (h : wI M a g T R W C Z E tg n L w w0 mul Sm A D B b M2) (m : Mv P S M2 a M3) (hP : ∀ q, P q → q = a + 99) (hS : ∀ x, S x → woS a x ∨ x = a + 21188) (hf : ∀ i, i ≠ 16 → i ≠ 17 → i ≠ 23 → mI M3 a i = mI M2 a i) (en : En M3 a g R W) : wI M a g T R W C Z E tg n L w w0 mul Sm A D B b M3 := by
  obtain ⟨h1, h2, h3, h4, h5, h6, h7⟩ := h
  have w2 := h2.2.1
  have hg := h2.2.2.1.2
  have hin : ∀ q, P q → q ∈ nums a := fun q hq => in99 q (hP q hq)
  have un : ∀ x, S x → x = a ∨ (a + 97 ≤ x ∧ x ≤ a + 98) ∨ (a + 102 ≤ x ∧ x ≤ a + 104) ∨ x = a + 21188 := fun x hx => by
    have h' : (x = a ∨ x = a + 97 ∨ x = a + 98 ∨ x = a + 102 ∨ x = a + 103 ∨ x = a + 104) ∨ x = a + 21188 := hS x hx
    omega
  have gs := gs_st w2 hg m hin (fun q hq z => by
    have z' : q = g + 1 ∨ q = g + 3 ∨ q = g + 5 ∨ q = g + 7 ∨ q = g + 9 ∨ q = g + 11 ∨ q = g + 30 ∨ q = g + 32 ∨ q = g + 34 := z
    have := hP q hq
    omega) (fun x hx => by have := un x hx; omega)
  refine ⟨h1.trans (wyF.mk w2 m (fun q hq => Or.inl (hP q hq)) (fun x hx => (hS x hx).imp (fun z => z) (fun z => Or.inr (by omega))) (fun i i1 i2 i3 _ _ => hf i i1 i2 i3)), h2.gs m.1 m.2.1 (by rw [m.rfl_a w2 hin]) gs, en, h4.mv w2 m hin (fun q hq => by have := hP q hq; omega) (fun x hx => by have := un x hx; omega) gs (hf 29 (by decide) (by decide) (by decide)) (hf 40 (by decide) (by decide) (by decide)), h5.mv w2 m hin (fun q hq => by have := hP q hq; omega) (fun x hx => by have := un x hx; omega), ?_, ?_⟩
  · rw [(m.cellL w2 hin (offx (a := a) (o := 21189) (by decide)) (fun z => by have := un _ z; omega)).2]; exact h6
  · rw [(m.cellL w2 hin (offx (a := a) (o := 21190) (by decide)) (fun z => by have := un _ z; omega)).2]; exact h7
theorem wI.x {b : Nat} {S' : Int} (h : wI M a g T R W C Z E tg n L w w0 mul Sm A D B b M2) (z : mI M2 a 16 ≠ 0) : wyQ M a g T R W C Z E tg n L w w0 mul S' B M2 := ⟨h.1, h.2.1, h.2.2.1, Or.inl z⟩
theorem wI.stp {b : Nat} {S' c p : Int} {M3 : mM} (h : wI M a g T R W C Z E tg n L w w0 mul Sm A D B b M2) (hc : c ≠ 0) (q : Mv (fun _ => False) (fun x => x = a) M2 a M3 ∧ mI M3 a 16 = c ∧ mI M3 a 17 = p ∧ ∀ i, i ≠ 16 → i ≠ 17 → mI M3 a i = mI M2 a i) : wyQ M a g T R W C Z E tg n L w w0 mul S' B M3 := by
  have w2 := h.2.1.2.1
  have hg := h.2.1.2.2.1.2
  have no : ∀ q : Nat, False → q ∈ nums a := fun _ z => z.elim
  have gs := gs_st w2 hg q.1 no (fun _ z => z.elim) (fun x z => by omega)
  have en := h.2.2.1.mv w2 q.1 no gs (fun x z => by omega)
  exact (h.st q.1 (fun _ z => z.elim) (fun x z => Or.inl (Or.inl z)) (fun i i1 i2 _ => q.2.2.2 i i1 i2) en).x (by rw [q.2.1]; exact hc)
end WAY2
