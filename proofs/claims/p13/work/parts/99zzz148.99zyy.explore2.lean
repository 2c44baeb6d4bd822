/-! The reference: explore, its loops. -/
section EXP2
variable {G : mG} {d a g T R W C Z : Nat} {M M1 M2 M3 : mM} {E : Eg9} {tg : Int} {Nt9 : tP9}
theorem ag_mv {P S : Nat → Prop} (w : Wd M2 a) (m : Mv P S M2 a M3) (hin : ∀ q, P q → q ∈ nums a) (hS : ∀ x, S x → x < a + 117 ∨ a + 21184 < x) : Ag M2 M3 (a + 117) (a + 117 + 21067) := fun x x1 x2 => by
  have hz := w.2.2.2
  have f := m.2.2.2.1
  have np : ¬ P x := fun z => by have := nums_in (hin x z); omega
  refine ⟨(f.2.1 x (by omega)).1, (f.2.1 x (by omega)).2, f.2.2.1 x (by omega) np, (f.2.2.2.1 x (by omega) np (fun q hq z => ?_) (fun z => by have := hS x z; omega)).1⟩
  rcases (w.arr (hin q hq)).2 with y | y
  · have := nums_in (hin q hq); omega
  · omega
/-- explore's start: the solver is empty -/
def bE (Nt9 : tP9) (M : mM) (a g T R W C Z : Nat) (E : Eg9) (tg : Int) (M1 : mM) : Prop := FR M a M1 ∧ GG M1 a g T R W C Z E tg ∧ (Tpl Nt9 M1 (mR M1 a 1) ∧ ln M1 (mR M1 a 2) ≤ 16384) ∧ (0 ≤ mI M1 a 48 ∧ mI M1 a 48 ≤ 900 ∧ mI M1 a 11 = Nt9.2.2.1) ∧ (mI M1 a 11 ≠ 0 ∧ ((W : Int) = Nt9.2.2.2.1 ∧ (R : Int) = Nt9.2.2.2.2.1 ∧ (C : Int) = Nt9.2.2.2.2.2.1 ∧ GaO E.2 ∧ Nt9.2.2.2.2.2.2.1 = XpG E.2)) ∧ Sv M1 (a + 117) 0 ∧ mI M1 (a + 117) 2 = 0 ∧ mI M1 (a + 117) 3 = 0 ∧ ∀ v, v < 3 → mI M1 (a + 117 + 30) v = 0
theorem bE.st {P S : Nat → Prop} (h : bE Nt9 M a g T R W C Z E tg M1) (m : Mv P S M1 a M2) (hP : ∀ q, P q → xP a q) (hS : ∀ x, S x → xS a x) (hf : ∀ i, i ≠ 0 → i ≠ 12 → i ≠ 16 → i ≠ 17 → i ≠ 23 → i ≠ 29 → i ≠ 30 → i ≠ 40 → mI M2 a i = mI M1 a i) : bE Nt9 M a g T R W C Z E tg M2 := by
  obtain ⟨h1, h2, h3, h4, h5, h6, h7, h8, h9⟩ := h
  have w1 := h2.2.1
  have hg := h2.2.2.1.2
  have hin : ∀ q, P q → q ∈ nums a := fun q hq => xP_in (hP q hq)
  have unS : ∀ x, S x → x = a ∨ (a + 97 ≤ x ∧ x ≤ a + 108) ∨ (a + 21185 ≤ x ∧ x ≤ a + 21190) := fun x hx => hS x hx
  have unP : ∀ q, P q → q = a + 99 ∨ q = a + 109 ∨ q = a + 111 ∨ q = a + 113 ∨ q = a + 115 := fun q hq => hP q hq
  have ag := ag_mv w1 m hin (fun x hx => by have := unS x hx; omega)
  have R' := m.rfl_a w1 hin
  have tp := w1.tape
  have s13 := w1.1.2.1
  have gs := gs_st w1 hg m hin (fun q hq z => by
    have z' : q = g + 1 ∨ q = g + 3 ∨ q = g + 5 ∨ q = g + 7 ∨ q = g + 9 ∨ q = g + 11 ∨ q = g + 30 ∨ q = g + 32 ∨ q = g + 34 := z
    have := unP q hq
    omega) (fun x hx => by have := unS x hx; omega)
  refine ⟨h1.trans (FR.mv m hin (fun x hx => by have := unS x hx; omega)), h2.gs m.1 m.2.1 (by rw [R']) gs, ⟨by rw [R']; exact h3.1.sm (m.lst tp.1 (fun z => by have := unP _ z; omega)), by rw [R', (m.lst tp.2.1 (fun z => by have := unP _ z; omega)).1]; exact h3.2⟩, by rw [hf 48 (by decide) (by decide) (by decide) (by decide) (by decide) (by decide) (by decide) (by decide), hf 11 (by decide) (by decide) (by decide) (by decide) (by decide) (by decide) (by decide) (by decide)]; exact h4, by rw [hf 11 (by decide) (by decide) (by decide) (by decide) (by decide) (by decide) (by decide) (by decide)]; exact h5, h6.ag ag, ?_, ?_, fun v hv => ?_⟩
  · rw [(ag (a + 117) (by omega) (by omega)).2.2.2]; exact h7
  · rw [(ag (a + 117) (by omega) (by omega)).2.2.2]; exact h8
  · rw [(ag (a + 117 + 30) (by omega) (by omega)).2.2.2]; exact h9 v hv
theorem GG.gd {i9 : tI9} (h : GG M2 a g T R W C Z E tg) (e : (W : Int) = i9.2.1 ∧ (R : Int) = i9.2.2.1 ∧ (C : Int) = i9.2.2.2.1 ∧ GaO E.2 ∧ i9.2.2.2.2.1 = XpG E.2) : Gd i9 M2 g := ⟨T, R, W, C, Z, E, tg, h.2.2.2.1, h.2.2.2.2.1, h.2.2.2.2.2.1, h.2.2.2.2.2.2.1, h.2.2.2.2.2.2.2.1, h.2.2.2.2.2.2.2.2, h.2.2.2.2.2.1.2.1.trans e.1, h.2.2.2.2.2.1.1.trans e.2.1, h.2.2.2.2.2.1.2.2.1.trans e.2.2.1, e.2.2.2⟩
/-- no states -/
theorem bE.ri0 (h : bE Nt9 M a g T R W C Z E tg M1) (z : mI M1 a 29 = 0) : RI0 Nt9 M1 a ∧ FR M a M1 := by
  obtain ⟨h1, h2, h3, h4, h5, h6, h7, h8, h9⟩ := h
  refine ⟨⟨h2.1, h2.2.1, h3, ?_⟩, h1⟩
  rw [h2.2.2.1.1]
  exact ⟨by rw [z]; decide, by rw [z]; exact h6, fun _ => h2.gd h5.2, fun q => by rw [z] at q; exact absurd q (by decide), h4⟩
end EXP2
