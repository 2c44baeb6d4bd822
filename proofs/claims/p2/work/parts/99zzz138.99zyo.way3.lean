section
/-! The reference: way, from its beginning. -/
section WAY3
variable {G : mG} {d a g T R W C Z n L w w0 : Nat} {M M2 : mM} {E : Eg9} {tg mul Sm A D : Int} {B : Nat → Nat}
theorem wyF.gs (h : wyF M a M2) (wd : Wd M a) (hg : g = a + 13 ∨ g = a + 49) : Gs M M2 g :=
  gs_st wd hg h.1 (fun q hq => wyP_in hq) (fun q hq z => by
    have z' : q = g + 1 ∨ q = g + 3 ∨ q = g + 5 ∨ q = g + 7 ∨ q = g + 9 ∨ q = g + 11 ∨ q = g + 30 ∨ q = g + 32 ∨ q = g + 34 := z
    have hq' : q = a + 99 ∨ q = a + 113 := hq
    omega) (fun x hx => by have := wyS_un hx; omega)
theorem wyQ.up {n' : Nat} {M' : mM} (h : wyQ M a g T R W C Z E tg n' L w w0 mul Sm B M') (hn : n ≤ n') : wyQ M a g T R W C Z E tg n L w w0 mul Sm B M' := by
  obtain ⟨h1, h2, h3, h4⟩ := h
  refine ⟨h1, h2, h3, h4.imp (fun z => z) (fun z => ?_)⟩
  obtain ⟨z1, n'', w'', z2, z3⟩ := z
  exact ⟨z1, n'', w'', by omega, z3⟩
/-- a state has been found or made -/
theorem wI.so {b n' : Nat} {x : Int} {M3 : mM} (h : wI M a g T R W C Z E tg n L w w0 mul Sm A D B b M2) (h1 : n' = n ∨ n' = n + 1) (h2 : n' ≤ 512) (m : Mv (fun _ => False) (fun y => y = a ∨ y = a + 105) M2 a M3) (h3 : mI M3 a 29 = (n' : Int)) (h4 : ∀ i, i ≠ 29 → mI M3 a i = mI M2 a i) (h5 : Vx M3 a g n' W) : wI M a g T R W C Z E tg n' L w w0 mul Sm A D B b M3 := by
  obtain ⟨x1, gg, en, xd, op, cA, cD⟩ := h
  have w2 := gg.2.1
  have hg := gg.2.2.1.2
  have no : ∀ q : Nat, False → q ∈ nums a := fun _ z => z.elim
  have gs := gs_st w2 hg m no (fun _ z => z.elim) (fun x z => by omega)
  obtain ⟨d1, d2, d3, d4, d5, d6, d7⟩ := xd
  have s : ∀ {q}, q ∈ nums a → sl M2 M3 q := fun hq => (m.lst hq (fun z => z)).sl
  have c : ∀ o, frO o → o ≠ 0 → o ≠ 105 → mI M3 (a + o) = mI M2 (a + o) ∧ mL M3 (a + o) = mL M2 (a + o) := fun o fo o0 o1 => m.cellL w2 no (offx fo) (by omega)
  have c85 := c 21185 (by decide) (by decide) (by decide)
  have c86 := c 21186 (by decide) (by decide) (by decide)
  have c87 := c 21187 (by decide) (by decide) (by decide)
  have c89 := c 21189 (by decide) (by decide) (by decide)
  have c90 := c 21190 (by decide) (by decide) (by decide)
  refine ⟨x1.trans (wyF.mk w2 m (fun _ z => z.elim) (fun x z => ?_) (fun i _ _ _ i4 _ => h4 i i4)), gg.gs m.1 m.2.1 (by rw [m.rfl_a w2 no]) gs, en.mv w2 m no gs (fun x z => by omega), ⟨⟨h3, by omega, h2⟩, by rw [h4 40 (by decide)]; exact d2, h5, fun j hj => ?_, by rw [(s k109).1, (s k111).1, (s k113).1, (s k115).1]; exact d5, d6, fun i hi => (d7 i hi).cg ((s k111).2 i) ((s k113).2 i) ((s k115).2 i) (fun j _ _ => by rw [c86.2, c87.2]; exact ⟨rfl, rfl⟩)⟩, op.mv w2 m no (fun _ z => z.elim) (fun x z => by omega), by rw [c89.2]; exact cA, by rw [c90.2]; exact cD⟩
  · rcases z with z | z
    · exact Or.inl (Or.inl z)
    · exact Or.inr (Or.inl z)
  · rw [c85.1, c86.2, c87.2]
    have := d4 j hj
    exact ⟨by omega, this.2⟩
end WAY3
end
section
/-! The reference: way; the open command. -/
section WAY4
variable {G : mG} {d a g T R W C Z n L w w0 : Nat} {M M2 M3 M' : mM} {E : Eg9} {tg mul Sm A D : Int} {B : Nat → Nat} {P S : Nat → Prop}
/-- what exploring may change -/
abbrev xP (a : Nat) : Nat → Prop := fun q => q = a + 99 ∨ q = a + 109 ∨ q = a + 111 ∨ q = a + 113 ∨ q = a + 115
abbrev xS (a : Nat) : Nat → Prop := fun x => x = a ∨ (a + 97 ≤ x ∧ x ≤ a + 108) ∨ (a + 21185 ≤ x ∧ x ≤ a + 21190)
def xF (M : mM) (a : Nat) (M' : mM) : Prop := Mv (xP a) (xS a) M a M' ∧ ∀ i, i ≠ 16 → i ≠ 17 → i ≠ 23 → i ≠ 29 → i ≠ 40 → mI M' a i = mI M a i
theorem xP_in {q : Nat} (h : xP a q) : q ∈ nums a := by
  rcases h with h | h | h | h | h <;> rw [h]
  · exact n99
  · exact k109
  · exact k111
  · exact k113
  · exact k115
theorem xF.refl (o : mOk M) (w : Wd M a) : xF M a M := ⟨Mv.refl o w (fun q hq => w.lt (xP_in hq)), fun _ _ _ _ _ _ => rfl⟩
theorem xF.trans (h : xF M a M2) (k : xF M2 a M3) : xF M a M3 := ⟨h.1.trans k.1, fun i i1 i2 i3 i4 i5 => (k.2 i i1 i2 i3 i4 i5).trans (h.2 i i1 i2 i3 i4 i5)⟩
theorem xF.mk (w : Wd M a) (m : Mv P S M a M') (hP : ∀ q, P q → xP a q) (hS : ∀ x, S x → xS a x) (hf : ∀ i, i ≠ 16 → i ≠ 17 → i ≠ 23 → i ≠ 29 → i ≠ 40 → mI M' a i = mI M a i) : xF M a M' := ⟨m.mono hP hS (fun q hq => w.lt (xP_in hq)), hf⟩
theorem xe.xf (h : xe M a M') (w : Wd M a) : xF M a M' := xF.mk w h.1 (fun q hq => Or.inl hq) (fun x hx => by
  have hx' : x = a ∨ (a + 97 ≤ x ∧ x ≤ a + 98) ∨ (a + 102 ≤ x ∧ x ≤ a + 104) ∨ (a + 21188 ≤ x ∧ x ≤ a + 21190) := hx
  show x = a ∨ (a + 97 ≤ x ∧ x ≤ a + 108) ∨ (a + 21185 ≤ x ∧ x ≤ a + 21190)
  omega) (fun i i1 i2 i3 _ _ => h.2 i i1 i2 i3)
theorem wyF.xf (h : wyF M a M') (w : Wd M a) : xF M a M' := xF.mk w h.1 (fun q hq => by
  have hq' : q = a + 99 ∨ q = a + 113 := hq
  show q = a + 99 ∨ q = a + 109 ∨ q = a + 111 ∨ q = a + 113 ∨ q = a + 115
  omega) (fun x hx => by
  have := wyS_un hx
  show x = a ∨ (a + 97 ≤ x ∧ x ≤ a + 108) ∨ (a + 21185 ≤ x ∧ x ≤ a + 21190)
  omega) h.2
theorem xF.gs (h : xF M a M') (wd : Wd M a) (hg : g = a + 13 ∨ g = a + 49) : Gs M M' g :=
  gs_st wd hg h.1 (fun q hq => xP_in hq) (fun q hq z => by
    have z' : q = g + 1 ∨ q = g + 3 ∨ q = g + 5 ∨ q = g + 7 ∨ q = g + 9 ∨ q = g + 11 ∨ q = g + 30 ∨ q = g + 32 ∨ q = g + 34 := z
    have hq' : q = a + 99 ∨ q = a + 109 ∨ q = a + 111 ∨ q = a + 113 ∨ q = a + 115 := hq
    omega) (fun x hx => by
    have hx' : x = a ∨ (a + 97 ≤ x ∧ x ≤ a + 108) ∨ (a + 21185 ≤ x ∧ x ≤ a + 21190) := hx
    omega)
theorem wyF.tab (h : wyF M a M') (w : Wd M a) : mI M' (a + 106) = mI M (a + 106) ∧ mI M' (a + 107) = mI M (a + 107) ∧ mI M' (a + 108) = mI M (a + 108) ∧ mL M' (a + 21189) = mL M (a + 21189) ∧ mL M' (a + 21190) = mL M (a + 21190) := by
  have hin : ∀ q, wyP a q → q ∈ nums a := fun q hq => wyP_in hq
  have ns : ∀ o, o = 106 ∨ o = 107 ∨ o = 108 ∨ o = 21189 ∨ o = 21190 → ¬ wyS a (a + o) := fun o ho z => by have := wyS_un z; omega
  exact ⟨(h.1.cellL w hin (offx (a := a) (o := 106) (by decide)) (ns _ (by omega))).1, (h.1.cellL w hin (offx (a := a) (o := 107) (by decide)) (ns _ (by omega))).1, (h.1.cellL w hin (offx (a := a) (o := 108) (by decide)) (ns _ (by omega))).1, (h.1.cellL w hin (offx (a := a) (o := 21189) (by decide)) (ns _ (by omega))).2, (h.1.cellL w hin (offx (a := a) (o := 21190) (by decide)) (ns _ (by omega))).2⟩
theorem xe.tab (h : xe M a M') (w : Wd M a) : mI M' (a + 106) = mI M (a + 106) ∧ mI M' (a + 107) = mI M (a + 107) ∧ mI M' (a + 108) = mI M (a + 108) := by
  have ns : ∀ o, o = 106 ∨ o = 107 ∨ o = 108 → ¬ xE a (a + o) := fun o ho z => by
    have z' : a + o = a ∨ (a + 97 ≤ a + o ∧ a + o ≤ a + 98) ∨ (a + 102 ≤ a + o ∧ a + o ≤ a + 104) ∨ (a + 21188 ≤ a + o ∧ a + o ≤ a + 21190) := z
    omega
  exact ⟨(h.1.cellL w in99 (offx (a := a) (o := 106) (by decide)) (ns _ (by omega))).1, (h.1.cellL w in99 (offx (a := a) (o := 107) (by decide)) (ns _ (by omega))).1, (h.1.cellL w in99 (offx (a := a) (o := 108) (by decide)) (ns _ (by omega))).1⟩
end WAY4
end
section
/-! The reference: an enabled command, its ways. -/
section ENB
variable {G : mG} {d a g T R W C Z n L w0 k : Nat} {M M2 M' : mM} {E : Eg9} {tg mul : Int} {B : Nat → Nat}
/-- a command has been explored in state k -/
def enQ (M : mM) (a g T R W C Z : Nat) (E : Eg9) (tg : Int) (n L k : Nat) (B : Nat → Nat) (M' : mM) : Prop := xF M a M' ∧ GG M' a g T R W C Z E tg ∧ En M' a g R W ∧ mI M' (a + 107) = mI M (a + 107) ∧ (∀ k', k' ≠ k → mI M' (a + 108) k' = mI M (a + 108) k') ∧ (mI M' a 16 ≠ 0 ∨ (mI M' a 16 = 0 ∧ mI M' (a + 108) k = mI M (a + 108) k + 1 ∧ ∃ (n' w' : Nat) (B' : Nat → Nat), n ≤ n' ∧ (∀ i, i ≤ L → B' i = B i) ∧ B' (L + 1) = w' ∧ XD M' a g n' W (L + 1) w' (L + 1) B'))
/-- the command is complete -/
theorem Op.close {n' w' : Nat} (h : XD M' a g n' W L w' (L + 1) B) (hw0 : B L = w0) (op : Op M' a L w0 w' mul mul) (h8 : w' ≤ w0 + 8) : ∃ B' : Nat → Nat, (∀ i, i ≤ L → B' i = B i) ∧ B' (L + 1) = w' ∧ XD M' a g n' W (L + 1) w' (L + 1) B' := by
  obtain ⟨p1, p2, p3, p4, p5⟩ := op
  have ne : w0 < w' := by
    by_cases z : w0 < w'
    · exact z
    · rw [show w' - w0 = 0 by omega] at p5
      have : (0 : Int) = mul := p5
      omega
  obtain ⟨B', hB⟩ : ∃ B' : Nat → Nat, ∀ i, B' i = if i ≤ L then B i else w' := ⟨fun i => if i ≤ L then B i else w', fun _ => rfl⟩
  have bl : ∀ i, i ≤ L → B' i = B i := fun i hi => by rw [hB, if_pos hi]
  have bL : B' (L + 1) = w' := by rw [hB, if_neg (by omega)]
  refine ⟨B', bl, bL, ?_⟩
  obtain ⟨h1, h2, h3, h4, h5, h6, h7⟩ := h
  refine ⟨h1, h2, h3, h4, h5, ⟨by rw [bl 0 (by omega)]; exact h6.1, by rw [bL]; exact Nat.le_refl _, Nat.le_refl _⟩, fun i hi => ?_⟩
  by_cases z : i = L
  · subst z
    unfold okc
    rw [bL, bl i (Nat.le_refl _), hw0, p2.2.2]
    exact ⟨⟨ne, h8⟩, ⟨p2.1, p2.2.1⟩, p3, p4, p5⟩
  · have := h7 i (by omega)
    unfold okc at this ⊢
    rw [bl i (by omega), bl (i + 1) (by omega)]
    exact this
/-- inside the loop over the branches -/
def eI (M : mM) (a g T R W C Z : Nat) (E : Eg9) (tg : Int) (n L w0 k : Nat) (mul : Int) (B : Nat → Nat) (cA cD : Nat → Int) (b : Nat) (M2 : mM) : Prop := xF M a M2 ∧ GG M2 a g T R W C Z E tg ∧ En M2 a g R W ∧ (mI M2 (a + 107) = mI M (a + 107) ∧ (∀ k', k' ≠ k → mI M2 (a + 108) k' = mI M (a + 108) k') ∧ mI M2 (a + 108) k = mI M (a + 108) k + 1) ∧ (mI M2 a 16 = 0 → (mL M2 (a + 21189) = cA ∧ mL M2 (a + 21190) = cD) ∧ ∃ n2 w2 : Nat, n ≤ n2 ∧ XD M2 a g n2 W L w2 (L + 1) B ∧ Op M2 a L w0 w2 mul (sm (fun b' => cA b' * (mul / cD b')) b) ∧ w2 ≤ w0 + b)
end ENB
end
section
/-! The reference: enabled. -/
section ENB2
variable {G : mG} {d a g T R W C Z n L w k : Nat} {M M2 M3 : mM} {E : Eg9} {tg mul : Int} {B : Nat → Nat}
/-- before the command is put down -/
def eB (M : mM) (a g T R W C Z : Nat) (E : Eg9) (tg : Int) (n L w : Nat) (B : Nat → Nat) (M2 : mM) : Prop := xF M a M2 ∧ GG M2 a g T R W C Z E tg ∧ En M2 a g R W ∧ XD M2 a g n W L w L B ∧ mI M2 (a + 107) = mI M (a + 107) ∧ mI M2 (a + 108) = mI M (a + 108)
end ENB2
end
section
/-! The reference: enabled, to its end. -/
section ENB3
variable {G : mG} {d a g T R W C Z n L w k : Nat} {M M2 M3 : mM} {E : Eg9} {tg mul : Int} {B : Nat → Nat}
theorem XD.le {Ln : Nat} (h : XD M a g n W L w Ln B) : L ≤ 4096 := by
  have := h.mono 0 L (by omega) (Nat.le_refl _)
  have := h.2.2.2.2.2.1
  have := h.2.1.2
  omega
theorem sm_bd {f : Nat → Int} {c : Int} : ∀ (m : Nat), (∀ t, t < m → 0 ≤ f t ∧ f t ≤ c) → 0 ≤ sm f m ∧ sm f m ≤ m * c
  | 0, _ => ⟨Int.le_refl 0, by show (0 : Int) ≤ ((0 : Nat) : Int) * c; rw [show ((0 : Nat) : Int) = 0 from rfl, Int.zero_mul]; exact Int.le_refl 0⟩
  | m + 1, h => by
    have a := sm_bd m (fun t ht => h t (by omega))
    have b := h m (by omega)
    refine ⟨?_, ?_⟩
    · show 0 ≤ sm f m + f m
      omega
    · show sm f m + f m ≤ ((m + 1 : Nat) : Int) * c
      rw [show ((m + 1 : Nat) : Int) * c = (m : Int) * c + c by rw [Int.natCast_add, Int.add_mul]; show (m : Int) * c + 1 * c = _; rw [Int.one_mul]]
      omega
theorem en_stop {c p : Int} (h : eB M a g T R W C Z E tg n L w B M2) (hc : c ≠ 0) (q : Mv (fun _ => False) (fun x => x = a) M2 a M3 ∧ mI M3 a 16 = c ∧ mI M3 a 17 = p ∧ ∀ i, i ≠ 16 → i ≠ 17 → mI M3 a i = mI M2 a i) : enQ M a g T R W C Z E tg n L k B M3 := by
  obtain ⟨x1, gg, en, xd, t107, t108⟩ := h
  have w2 := gg.2.1
  have hg := gg.2.2.1.2
  have no : ∀ q : Nat, False → q ∈ nums a := fun _ z => z.elim
  have F : xF M2 a M3 := xF.mk w2 q.1 (fun _ z => z.elim) (fun x z => Or.inl z) (fun i i1 i2 _ _ _ => q.2.2.2 i i1 i2)
  have gs := F.gs w2 hg
  have c7 := (q.1.cellL w2 no (offx (a := a) (o := 107) (by decide)) (by omega)).1
  have c8 := (q.1.cellL w2 no (offx (a := a) (o := 108) (by decide)) (by omega)).1
  exact ⟨x1.trans F, gg.gs q.1.1 q.1.2.1 (by rw [q.1.rfl_a w2 no]) gs, en.mv w2 q.1 no gs (fun x z => by omega), by rw [c7]; exact t107, fun k' _ => by rw [c8, t108], Or.inl (by rw [q.2.1]; exact hc)⟩
end ENB3
end
section
/-! The reference: enabled, and a state. -/
section STA
variable {G : mG} {d a g T R W C Z n L w k : Nat} {M M2 M3 : mM} {E : Eg9} {tg : Int} {B : Nat → Nat}
/-- a state's commands so far -/
def sI (M : mM) (a g T R W C Z : Nat) (E : Eg9) (tg : Int) (n L k : Nat) (B : Nat → Nat) (M2 : mM) : Prop := xF M a M2 ∧ GG M2 a g T R W C Z E tg ∧ En M2 a g R W ∧ (mI M2 a 16 = 0 → (mI M2 (a + 107) k = (L : Int) ∧ (∀ k', k' ≠ k → mI M2 (a + 107) k' = mI M (a + 107) k' ∧ mI M2 (a + 108) k' = mI M (a + 108) k')) ∧ ∃ (n2 L2 w2 : Nat) (B2 : Nat → Nat), n ≤ n2 ∧ L ≤ L2 ∧ mI M2 (a + 108) k = ((L2 - L : Nat) : Int) ∧ (∀ i, i ≤ L → B2 i = B i) ∧ B2 L2 = w2 ∧ XD M2 a g n2 W L2 w2 L2 B2)
end STA
end
section
/-! The reference: a state is explored. -/
section STB
variable {G : mG} {d a g T R W C Z n L w k : Nat} {M : mM} {E : Eg9} {tg : Int} {B : Nat → Nat}
end STB
end
section
/-! The reference: the solver is told. -/
section TOL
variable {G : mG} {d s i c b : Nat} {M M' : mM} {F B : Nat → Nat} {mu to up dn : Nat → Int}
abbrev tlS (s : Nat) : Nat → Prop := fun y => y = s ∨ (s + 22 ≤ y ∧ y ≤ s + 28) ∨ y = s + 32
/-- the solver's room, with no values -/
def Rs (M : mM) (s : Nat) : Prop := Vk M s ∧ Wk M s ∧ Ct M s ∧ (∀ e, eL e → Rm M s e) ∧ ∀ w, w < 3 → mI M (s + 30) w = 0
theorem Rs.fi (h : Rs M s) (f : FI (tlS s) M M') : Rs M' s := by
  obtain ⟨h1, h2, h3, h4, h5⟩ := h
  have un : ∀ y, tlS s y → y = s ∨ (s + 22 ≤ y ∧ y ≤ s + 28) ∨ y = s + 32 := fun y hy => hy
  refine ⟨h1.fi f, h2.far f (fun y q => by have := un y q; omega), h3.out f (fun y q => by have := un y q; omega), fun e he => (h4 e he).out f (fun y q => by have := un y q; omega), fun w hw => ?_⟩
  rw [f.2.2.2.2.2.2 (s + 30) (fun q => by have := un _ q; omega)]
  exact h5 w hw
/-- i states, c commands and b branches have been told -/
def TL (M : mM) (s : Nat) (F B : Nat → Nat) (mu to up dn : Nat → Int) (i c b : Nat) : Prop := Rs M s ∧ (mI M s 1 = (i : Int) ∧ mI M s 2 = (c : Int) ∧ mI M s 3 = (b : Int)) ∧ ((∀ j, j < i → mI M (s + 23) j = (F j : Int)) ∧ mI M (s + 23) i = (c : Int)) ∧ ((∀ j, j < c → mI M (s + 25) j = (B j : Int)) ∧ mI M (s + 25) c = (b : Int)) ∧ (∀ j, j < c → mI M (s + 24) j = mu j) ∧ (∀ j, j < b → mI M (s + 26) j = to j ∧ mI M (s + 27) j = up j ∧ mI M (s + 28) j = dn j) ∧ (∀ j, j < i → mI M (s + 32) j = 0) ∧ 11 ≤ s ∧ ∀ j, j < i → mI M (s + 22) j = mI M (s - 11) j
theorem s_tl_state {q : Int} (hq : i32 q) (hO : mOk M) (h : TL M s F B mu to up dn i c b) (hi : i < 512) (hc : c = F i) (hq9 : q = mI M (s - 11) i) : Cv G y_MS_addState d [vr s, vi q] M (fun M' => mOk M' ∧ FI (tlS s) M M' ∧ TL M' s F B mu to up dn (i + 1) c b) := by
  obtain ⟨r, ⟨n1, n2, n3⟩, ⟨f1, f2⟩, ⟨b1, b2⟩, m1, w1, t1, u1, u2⟩ := h
  refine (s_MS_addState hq hO r.1 n1 hi).mono (fun M' t => ?_)
  obtain ⟨o, f, e1, e2, e3, e4⟩ := t
  have f' : FI (tlS s) M M' := f.mono (fun y z => by show y = s ∨ (s + 22 ≤ y ∧ y ≤ s + 28) ∨ y = s + 32; omega)
  have keep : ∀ x, (x = s + 24 ∨ x = s + 25 ∨ x = s + 26 ∨ x = s + 27 ∨ x = s + 28) → mI M' x = mI M x := fun x hx => f.2.2.2.2.2.2 x (by omega)
  refine ⟨o, f', r.fi f', ⟨by rw [e1, if_pos rfl]; omega, by rw [e1, if_neg (by omega)]; exact n2, by rw [e1, if_neg (by omega)]; exact n3⟩, ⟨fun j hj => ?_, by rw [e4, if_pos rfl]; exact n2⟩, by rw [keep (s + 25) (by omega)]; exact ⟨b1, b2⟩, by rw [keep (s + 24) (by omega)]; exact m1, by rw [keep (s + 26) (by omega), keep (s + 27) (by omega), keep (s + 28) (by omega)]; exact w1, fun j hj => ?_, u1, fun j hj => ?_⟩
  · rw [e4, if_neg (by omega)]
    by_cases z : j = i
    · rw [z, f2, hc]
    · exact f1 j (by omega)
  · rw [e3]
    by_cases z : j = i
    · rw [if_pos z]
    · rw [if_neg z]; exact t1 j (by omega)
  · rw [e2, f.2.2.2.2.2.2 (s - 11) (by omega)]
    by_cases z : j = i
    · rw [if_pos z, z]; exact hq9
    · rw [if_neg z]; exact u2 j (by omega)
theorem s_tl_command (hO : mOk M) (h : TL M s F B mu to up dn i c b) (hi : i ≤ 512) (hc : c < 4200) (hb : b = B c) (hm : i32 (mu c)) : Cv G y_MS_addCommand d [vr s, vi (mu c)] M (fun M' => mOk M' ∧ FI (tlS s) M M' ∧ TL M' s F B mu to up dn i (c + 1) b) := by
  obtain ⟨r, ⟨n1, n2, n3⟩, ⟨f1, f2⟩, ⟨b1, b2⟩, m1, w1, t1, u1, u2⟩ := h
  refine (s_MS_addCommand hm hO r.1 n1 hi n2 hc).mono (fun M' t => ?_)
  obtain ⟨o, f, e1, e2, e3, e4⟩ := t
  have f' : FI (tlS s) M M' := f.mono (fun y z => by show y = s ∨ (s + 22 ≤ y ∧ y ≤ s + 28) ∨ y = s + 32; omega)
  have keep : ∀ x, (x = s + 26 ∨ x = s + 27 ∨ x = s + 28 ∨ x = s + 32) → mI M' x = mI M x := fun x hx => f.2.2.2.2.2.2 x (by omega)
  refine ⟨o, f', r.fi f', ⟨by rw [e1, if_neg (by omega)]; exact n1, by rw [e1, if_pos rfl]; omega, by rw [e1, if_neg (by omega)]; exact n3⟩, ⟨fun j hj => by rw [e4, if_neg (by omega)]; exact f1 j hj, by rw [e4, if_pos rfl]; omega⟩, ⟨fun j hj => ?_, by rw [e3, if_pos rfl]; exact n3⟩, fun j hj => ?_, by rw [keep (s + 26) (by omega), keep (s + 27) (by omega), keep (s + 28) (by omega)]; exact w1, by rw [keep (s + 32) (by omega)]; exact t1, u1, fun j hj => by rw [f.2.2.2.2.2.2 (s + 22) (by omega), f.2.2.2.2.2.2 (s - 11) (by omega)]; exact u2 j hj⟩
  · rw [e3, if_neg (by omega)]
    by_cases z : j = c
    · rw [z, b2, hb]
    · exact b1 j (by omega)
  · rw [e2]
    by_cases z : j = c
    · rw [if_pos z, z]
    · rw [if_neg z]; exact m1 j (by omega)
theorem s_tl_branch (hO : mOk M) (h : TL M s F B mu to up dn i c b) (hc : c ≤ 4200) (hb : b < 4096) (h1 : i32 (to b)) (h2 : i32 (up b)) (h3 : i32 (dn b)) : Cv G y_MS_addBranch d [vr s, vi (to b), vi (up b), vi (dn b)] M (fun M' => mOk M' ∧ FI (tlS s) M M' ∧ TL M' s F B mu to up dn i c (b + 1)) := by
  obtain ⟨r, ⟨n1, n2, n3⟩, ⟨f1, f2⟩, ⟨b1, b2⟩, m1, w1, t1, u1, u2⟩ := h
  refine (s_MS_addBranch h1 h2 h3 hO r.1 n2 hc n3 hb).mono (fun M' t => ?_)
  obtain ⟨o, f, e1, e2, e3, e4, e5⟩ := t
  have f' : FI (tlS s) M M' := f.mono (fun y z => by show y = s ∨ (s + 22 ≤ y ∧ y ≤ s + 28) ∨ y = s + 32; omega)
  have keep : ∀ x, (x = s + 23 ∨ x = s + 24 ∨ x = s + 32) → mI M' x = mI M x := fun x hx => f.2.2.2.2.2.2 x (by omega)
  refine ⟨o, f', r.fi f', ⟨by rw [e1, if_neg (by omega)]; exact n1, by rw [e1, if_neg (by omega)]; exact n2, by rw [e1, if_pos rfl]; omega⟩, by rw [keep (s + 23) (by omega)]; exact ⟨f1, f2⟩, ⟨fun j hj => by rw [e5, if_neg (by omega)]; exact b1 j hj, by rw [e5, if_pos rfl]; omega⟩, by rw [keep (s + 24) (by omega)]; exact m1, fun j hj => ?_, by rw [keep (s + 32) (by omega)]; exact t1, u1, fun j hj => by rw [f.2.2.2.2.2.2 (s + 22) (by omega), f.2.2.2.2.2.2 (s - 11) (by omega)]; exact u2 j hj⟩
  rw [e2, e3, e4]
  by_cases z : j = b
  · rw [if_pos z, if_pos z, if_pos z, z]
    exact ⟨rfl, rfl, rfl⟩
  · rw [if_neg z, if_neg z, if_neg z]
    exact w1 j (by omega)
/-- all has been told: the solver is sound -/
theorem TL.sv {n L w : Nat} (h : TL M s F B mu to up dn n L w) (hn : n ≤ 512) (hL : L ≤ 4200) (hw : w ≤ 4096) (hF : F 0 = 0 ∧ F n = L ∧ ∀ k, k < n → F k ≤ F (k + 1)) (hB : B 0 = 0 ∧ B L = w ∧ ∀ k, k < L → B k < B (k + 1) ∧ B (k + 1) ≤ B k + 8) (hto : ∀ j, j < w → 0 ≤ to j ∧ to j < n) (hmu : ∀ k, k < L → 1 ≤ mu k ∧ mu k < 1000000000) (hud : ∀ j, j < w → 0 < up j ∧ 0 < dn j) (hdv : ∀ k, k < L → ∀ j, B k ≤ j → j < B (k + 1) → dn j ∣ mu k) (hsm : ∀ k, k < L → sm (fun t => up (B k + t) * (mu k / dn (B k + t))) (B (k + 1) - B k) = mu k) : Sv M s n ∧ ∀ k, k < n → mny M s k = ((F (k + 1) - F k : Nat) : Int) := by
  obtain ⟨⟨r1, r2, r3, r4, r5⟩, ⟨n1, n2, n3⟩, ⟨f1, f2⟩, ⟨b1, b2⟩, m1, w1, t1, -⟩ := h
  have mono : ∀ (H : Nat → Nat) (N : Nat), (∀ k, k < N → H k ≤ H (k + 1)) → ∀ i j, i ≤ j → j ≤ N → H i ≤ H j := fun H N hH i j hij hj => by
    induction j with
    | zero => rw [show i = 0 by omega]; exact Nat.le_refl _
    | succ j ih =>
      by_cases z : i = j + 1
      · rw [z]; exact Nat.le_refl _
      · have := ih (by omega) (by omega)
        have := hH j (by omega)
        omega
  have fF := mono F n hF.2.2
  have fB := mono B L (fun k hk => Nat.le_of_lt (hB.2.2 k hk).1)
  have eF : ∀ j, j ≤ n → mI M (s + 23) j = (F j : Int) := fun j hj => by
    by_cases z : j = n
    · rw [z, f2, hF.2.1]
    · exact f1 j (by omega)
  have eB : ∀ j, j ≤ L → mI M (s + 25) j = (B j : Int) := fun j hj => by
    by_cases z : j = L
    · rw [z, b2, hB.2.1]
    · exact b1 j (by omega)
  have my : ∀ k, k < n → mny M s k = ((F (k + 1) - F k : Nat) : Int) := fun k hk => by
    unfold mny
    rw [eF (k + 1) (by omega), eF k (by omega)]
    have := hF.2.2 k hk
    omega
  refine ⟨⟨r1, ⟨by omega, by omega, by omega, by omega, by rw [eF 0 (by omega), hF.1]; rfl, by rw [eB 0 (by omega), hB.1]; rfl, fun i j hij hj => ?_, by rw [n1, Int.toNat_natCast, eF n (Nat.le_refl _), hF.2.1, n2], fun i j hij hj => ?_, by rw [n2, Int.toNat_natCast, eB L (Nat.le_refl _), hB.2.1, n3], fun j hj => ?_⟩, fun k hk => ?_, n1, fun k hk => ?_, r2, r3, r4, fun v hv => ⟨Or.inl (r5 v hv), fun q => by rw [r5 v hv] at q; exact absurd q (by decide)⟩, fun q => by rw [r5 0 (by omega)] at q; exact absurd q (by decide)⟩, my⟩
  · rw [eF i (by omega), eF j (by omega)]
    have := fF i j hij (by omega)
    omega
  · rw [eB i (by omega), eB j (by omega)]
    have := fB i j hij (by omega)
    omega
  · rw [(w1 j (by omega)).1, n1]
    exact hto j (by omega)
  · have kL : k < L := by omega
    have bk := hB.2.2 k kL
    have bw := fB (k + 1) L (by omega) (Nat.le_refl _)
    have e1 : nb M s k = B (k + 1) - B k := by unfold nb; rw [eB (k + 1) (by omega), eB k (by omega)]; omega
    have e2 : bg M s k = B k := by unfold bg; rw [eB k (by omega)]; omega
    rw [e1, e2, m1 k kL]
    refine ⟨⟨(hmu k kL).1, (hmu k kL).2, by omega⟩, fun t ht => ?_, ?_⟩
    · have := w1 (B k + t) (by omega)
      rw [this.2.1, this.2.2]
      exact ⟨(hud _ (by omega)).1, (hud _ (by omega)).2, hdv k kL _ (by omega) (by omega)⟩
    · refine Eq.trans (sm_congr _ (fun t ht => ?_)) (hsm k kL)
      have := w1 (B k + t) (by omega)
      show mI M (s + 27) (B k + t) * (mu k / mI M (s + 28) (B k + t)) = up (B k + t) * (mu k / dn (B k + t))
      rw [this.2.1, this.2.2]
  · have kn : k < n := by omega
    rw [t1 k kn]
    exact ⟨Int.le_refl _, fun q => q⟩
end TOL
end
