/-! The reference: way; the open command. -/
section WAY4
variable {G : mG} {d a g T R W C Z n L w w0 : Nat} {M M2 M3 M' : mM} {E : Eg9} {tg mul Sm A D : Int} {B : Nat → Nat} {P S : Nat → Prop}
/-- what exploring may change -/
abbrev xP (a : Nat) : Nat → Prop := fun q => q = a + 99 ∨ q = a + 109 ∨ q = a + 111 ∨ q = a + 113 ∨ q = a + 115
abbrev xS (a : Nat) : Nat → Prop := fun x => x = a ∨ (a + 97 ≤ x ∧ x ≤ a + 108) ∨ (a + 21185 ≤ x ∧ x ≤ a + 21190)
def xF (M : mM) (a : Nat) (M' : mM) : Prop := Mv (xP a) (xS a) M a M' ∧ ∀ i, i ≠ 16 → i ≠ 17 → i ≠ 23 → i ≠ 29 → i ≠ 40 → mI M' a i = mI M a i
theorem xP_in {q : Nat} (h : xP a q) : q ∈ nums a := by
  rcases h with h | h | h | h | h <;> rw [h]
  · exact n99
  · exact k109
  · exact k111
  · exact k113
  · exact k115
theorem xF.refl (o : mOk M) (w : Wd M a) : xF M a M := ⟨Mv.refl o w (fun q hq => w.lt (xP_in hq)), fun _ _ _ _ _ _ => rfl⟩
theorem xF.trans (h : xF M a M2) (k : xF M2 a M3) : xF M a M3 := ⟨h.1.trans k.1, fun i i1 i2 i3 i4 i5 => (k.2 i i1 i2 i3 i4 i5).trans (h.2 i i1 i2 i3 i4 i5)⟩
theorem xF.mk (w : Wd M a) (m : Mv P S M a M') (hP : ∀ q, P q → xP a q) (hS : ∀ x, S x → xS a x) (hf : ∀ i, i ≠ 16 → i ≠ 17 → i ≠ 23 → i ≠ 29 → i ≠ 40 → mI M' a i = mI M a i) : xF M a M' := ⟨m.mono hP hS (fun q hq => w.lt (xP_in hq)), hf⟩
theorem xe.xf (h : xe M a M') (w : Wd M a) : xF M a M' := xF.mk w h.1 (fun q hq => Or.inl hq) (fun x hx => by
  have hx' : x = a ∨ (a + 97 ≤ x ∧ x ≤ a + 98) ∨ (a + 102 ≤ x ∧ x ≤ a + 104) ∨ (a + 21188 ≤ x ∧ x ≤ a + 21190) := hx
  show x = a ∨ (a + 97 ≤ x ∧ x ≤ a + 108) ∨ (a + 21185 ≤ x ∧ x ≤ a + 21190)
  omega) (fun i i1 i2 i3 _ _ => h.2 i i1 i2 i3)
theorem wyF.xf (h : wyF M a M') (w : Wd M a) : xF M a M' := xF.mk w h.1 (fun q hq => by
  have hq' : q = a + 99 ∨ q = a + 113 := hq
  show q = a + 99 ∨ q = a + 109 ∨ q = a + 111 ∨ q = a + 113 ∨ q = a + 115
  omega) (fun x hx => by
  have := wyS_un hx
  show x = a ∨ (a + 97 ≤ x ∧ x ≤ a + 108) ∨ (a + 21185 ≤ x ∧ x ≤ a + 21190)
  omega) h.2
theorem xF.gs (h : xF M a M') (wd : Wd M a) (hg : g = a + 13 ∨ g = a + 49) : Gs M M' g :=
  gs_st wd hg h.1 (fun q hq => xP_in hq) (fun q hq z => by
    have z' : q = g + 1 ∨ q = g + 3 ∨ q = g + 5 ∨ q = g + 7 ∨ q = g + 9 ∨ q = g + 11 ∨ q = g + 30 ∨ q = g + 32 ∨ q = g + 34 := z
    have hq' : q = a + 99 ∨ q = a + 109 ∨ q = a + 111 ∨ q = a + 113 ∨ q = a + 115 := hq
    omega) (fun x hx => by
    have hx' : x = a ∨ (a + 97 ≤ x ∧ x ≤ a + 108) ∨ (a + 21185 ≤ x ∧ x ≤ a + 21190) := hx
    omega)
theorem wyF.tab (h : wyF M a M') (w : Wd M a) : mI M' (a + 106) = mI M (a + 106) ∧ mI M' (a + 107) = mI M (a + 107) ∧ mI M' (a + 108) = mI M (a + 108) ∧ mL M' (a + 21189) = mL M (a + 21189) ∧ mL M' (a + 21190) = mL M (a + 21190) := by
  have hin : ∀ q, wyP a q → q ∈ nums a := fun q hq => wyP_in hq
  have ns : ∀ o, o = 106 ∨ o = 107 ∨ o = 108 ∨ o = 21189 ∨ o = 21190 → ¬ wyS a (a + o) := fun o ho z => by have := wyS_un z; omega
  exact ⟨(h.1.cellL w hin (offx (a := a) (o := 106) (by decide)) (ns _ (by omega))).1, (h.1.cellL w hin (offx (a := a) (o := 107) (by decide)) (ns _ (by omega))).1, (h.1.cellL w hin (offx (a := a) (o := 108) (by decide)) (ns _ (by omega))).1, (h.1.cellL w hin (offx (a := a) (o := 21189) (by decide)) (ns _ (by omega))).2, (h.1.cellL w hin (offx (a := a) (o := 21190) (by decide)) (ns _ (by omega))).2⟩
theorem xe.tab (h : xe M a M') (w : Wd M a) : mI M' (a + 106) = mI M (a + 106) ∧ mI M' (a + 107) = mI M (a + 107) ∧ mI M' (a + 108) = mI M (a + 108) := by
  have ns : ∀ o, o = 106 ∨ o = 107 ∨ o = 108 → ¬ xE a (a + o) := fun o ho z => by
    have z' : a + o = a ∨ (a + 97 ≤ a + o ∧ a + o ≤ a + 98) ∨ (a + 102 ≤ a + o ∧ a + o ≤ a + 104) ∨ (a + 21188 ≤ a + o ∧ a + o ≤ a + 21190) := z
    omega
  exact ⟨(h.1.cellL w in99 (offx (a := a) (o := 106) (by decide)) (ns _ (by omega))).1, (h.1.cellL w in99 (offx (a := a) (o := 107) (by decide)) (ns _ (by omega))).1, (h.1.cellL w in99 (offx (a := a) (o := 108) (by decide)) (ns _ (by omega))).1⟩
end WAY4
