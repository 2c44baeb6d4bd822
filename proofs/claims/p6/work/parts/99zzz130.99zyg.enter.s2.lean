section
/-! The reference: a way to a state. -/
section WAY
variable {G : mG} {d a g T R W C Z n L w w0 : Nat} {M M' M2 M3 : mM} {E : Nat → Nat} {tg mul Sm : Int} {B : Nat → Nat} {P S : Nat → Prop}
abbrev wyP (a : Nat) : Nat → Prop := fun q => q = a + 99 ∨ q = a + 113
abbrev wyS (a : Nat) : Nat → Prop := fun x => woS a x ∨ x = a + 105 ∨ (a + 21185 ≤ x ∧ x ≤ a + 21188)
def wyF (M : mM) (a : Nat) (M' : mM) : Prop := Mv (wyP a) (wyS a) M a M' ∧ ∀ i, i ≠ 16 → i ≠ 17 → i ≠ 23 → i ≠ 29 → i ≠ 40 → mI M' a i = mI M a i
theorem wyP_in {q : Nat} (h : wyP a q) : q ∈ nums a := by
  rcases h with h | h
  · rw [h]; exact n99
  · rw [h]; exact k113
theorem wyS_un {x : Nat} (h : wyS a x) : x = a ∨ (a + 97 ≤ x ∧ x ≤ a + 98) ∨ (a + 102 ≤ x ∧ x ≤ a + 105) ∨ (a + 21185 ≤ x ∧ x ≤ a + 21188) := by
  have h' : (x = a ∨ x = a + 97 ∨ x = a + 98 ∨ x = a + 102 ∨ x = a + 103 ∨ x = a + 104) ∨ x = a + 105 ∨ (a + 21185 ≤ x ∧ x ≤ a + 21188) := h
  omega
theorem wyF.trans (h : wyF M a M2) (k : wyF M2 a M3) : wyF M a M3 := ⟨h.1.trans k.1, fun i i1 i2 i3 i4 i5 => (k.2 i i1 i2 i3 i4 i5).trans (h.2 i i1 i2 i3 i4 i5)⟩
theorem wyF.mk (w : Wd M a) (m : Mv P S M a M') (hP : ∀ q, P q → wyP a q) (hS : ∀ x, S x → wyS a x) (hf : ∀ i, i ≠ 16 → i ≠ 17 → i ≠ 23 → i ≠ 29 → i ≠ 40 → mI M' a i = mI M a i) : wyF M a M' := ⟨m.mono hP hS (fun q hq => w.lt (wyP_in hq)), hf⟩
/-- a way has been found -/
def wyQ (M : mM) (a g T R W C Z : Nat) (E : Nat → Nat) (tg : Int) (n L w w0 : Nat) (mul Sm : Int) (B : Nat → Nat) (M' : mM) : Prop := wyF M a M' ∧ GG M' a g T R W C Z E tg ∧ En M' a g R W ∧ (mI M' a 16 ≠ 0 ∨ (mI M' a 16 = 0 ∧ ∃ n' w' : Nat, n ≤ n' ∧ (w' = w ∨ w' = w + 1) ∧ XD M' a g n' W L w' (L + 1) B ∧ Op M' a L w0 w' mul Sm))
theorem Op.same (h : Op M a L w0 w mul Sm) (c86 : mL M' (a + 21186) = mL M (a + 21186)) (c87 : mL M' (a + 21187) = mL M (a + 21187)) (l11 : sl M M' (a + 111)) (l13 : sl M M' (a + 113)) (l15 : sl M M' (a + 115)) : Op M' a L w0 w mul Sm := by
  unfold Op
  rw [c86, c87, l11.2, l13.2, l15.2]
  exact h
theorem Op.mv (h : Op M a L w0 w mul Sm) (w' : Wd M a) (m : Mv P S M a M') (hin : ∀ q, P q → q ∈ nums a) (hP : ∀ q, P q → q ≠ a + 111 ∧ q ≠ a + 113 ∧ q ≠ a + 115) (hS : ∀ x, S x → x ≠ a + 21186 ∧ x ≠ a + 21187) : Op M' a L w0 w mul Sm :=
  h.same (m.cellL w' hin (offx (a := a) (o := 21186) (by decide)) (fun z => (hS _ z).1 rfl)).2 (m.cellL w' hin (offx (a := a) (o := 21187) (by decide)) (fun z => (hS _ z).2 rfl)).2 (m.lst k111 (fun z => (hP _ z).1 rfl)).sl (m.lst k113 (fun z => (hP _ z).2.1 rfl)).sl (m.lst k115 (fun z => (hP _ z).2.2 rfl)).sl
/-- a new way is put down -/
theorem way_new {to A D : Int} {M4 M5 M6 M7 : mM} (o : mOk M2) (wd : Wd M2 a) (hg : g = a + 13 ∨ g = a + 49) (h : XD M2 a g n W L w (L + 1) B) (hw0 : B L = w0) (hp : Op M2 a L w0 w mul Sm) (hw : w < 4096) (ht : 0 ≤ to ∧ to < n) (hA : 0 < A ∧ A < 1000000000) (hD : 0 < D ∧ D < 1000000000) (hdm : D ∣ mul) (e3 : M3 = mUI M2 (a + 21185) w to) (e4 : M4 = mUL M3 (a + 21186) w A) (e5 : M5 = mUL M4 (a + 21187) w D) (e6 : M6 = mUI M5 a 40 ((w : Int) + 1)) (e7 : M7 = mUI M6 (mR M6 (a + 113) 0) L (nt M6 (a + 113) L + 1)) : (Wd M3 a ∧ Wd M4 a ∧ Wd M5 a ∧ Wd M6 a) ∧ (mI M3 a = mI M2 a ∧ mI M4 a = mI M2 a ∧ mI M5 a = mI M2 a) ∧ nt M6 (a + 113) L = ((w - w0 : Nat) : Int) ∧ ln M6 (a + 113) = (L + 1 : Nat) ∧ (mL M3 = mL M2 ∧ (∀ y, y ≠ a + 21186 → mL M4 y = mL M2 y)) ∧ wyF M2 a M7 ∧ Mv (fun x => x = a + 113) (fun x => x = a ∨ (a + 21185 ≤ x ∧ x ≤ a + 21187)) M2 a M7 ∧ mI M7 a 16 = mI M2 a 16 ∧ XD M7 a g n W L (w + 1) (L + 1) B ∧ Op M7 a L w0 (w + 1) mul (Sm + A * (mul / D)) := by
  have hn5 := h.1.2.2
  obtain ⟨m3, f3, l3⟩ := mv_cell (v := to) ⟨by omega, by omega⟩ o wd (show a ≤ a + 21185 by omega) (offx (a := a) (o := 21185) (by decide)) e3
  obtain ⟨m4, f4, n4, i4⟩ := mv_ulx (v := A) ⟨by omega, by omega⟩ m3.1 m3.2.1 e4
  obtain ⟨m5, f5, n5', i5⟩ := mv_ulx (v := D) ⟨by omega, by omega⟩ m4.1 m4.2.1 e5
  obtain ⟨m6, f6⟩ := mv_fld (v := (w : Int) + 1) (i32s (by omega) (by omega)) m5.1 m5.2.1 e6
  have no : ∀ q : Nat, False → q ∈ nums a := fun _ z => z.elim
  have nz : ∀ {Mx : mM} (q : Nat), False → q < mZ Mx := fun _ z => z.elim
  have m26 : Mv (fun _ => False) (fun x => x = a ∨ (a + 21185 ≤ x ∧ x ≤ a + 21187)) M2 a M6 := (((m3.mono (fun _ z => z) (fun x z => Or.inr (by omega)) nz).trans (m4.mono (fun _ z => z) (fun x z => Or.inr (by omega)) nz)).trans (m5.mono (fun _ z => z) (fun x z => Or.inr (by omega)) nz)).trans (m6.mono (fun _ z => z) (fun x z => Or.inl z) nz)
  have s6 : ∀ {q}, q ∈ nums a → sameN M2 M6 q := fun hq => m26.lst hq (fun z => z)
  obtain ⟨p1, p2, p3, p4, p5⟩ := id hp
  have t13 : nt M6 (a + 113) L = ((w - w0 : Nat) : Int) := by rw [(s6 k113).2.1]; exact p2.2.1
  obtain ⟨m7, l7, f7, -⟩ := mv_el (v := nt M6 (a + 113) L + 1) (by rw [t13]; exact i32s (by omega) (by omega)) m6.1 m6.2.1 k113 e7
  have i3a := (m3.fld wd no (by omega)).1
  have aI3 : mI M3 a = mI M2 a := i3a
  have aI4 : mI M4 a = mI M2 a := by rw [i4]; exact i3a
  have aI5 : mI M5 a = mI M2 a := by rw [i5]; exact aI4
  have in13 : ∀ q, q = a + 113 → q ∈ nums a := fun q hq => by rw [hq]; exact k113
  have aI7 : mI M7 a = mI M6 a := (m7.fld m6.2.1 in13 (fun z => z)).1
  have F7 : ∀ i, mI M7 a i = if i = 40 then (w : Int) + 1 else mI M2 a i := fun i => by rw [aI7, f6, aI5]
  have l13 : ∀ q, q = a + 113 → q < mZ M2 := fun q hq => by rw [hq]; exact wd.lt k113
  have m27 : Mv (fun x => x = a + 113) (fun x => x = a ∨ (a + 21185 ≤ x ∧ x ≤ a + 21187)) M2 a M7 := (m26.mono (fun _ z => z.elim) (fun x z => z) l13).trans (m7.mono (fun q hq => hq) (fun _ z => z.elim) (fun q hq => by rw [hq]; exact m6.2.1.lt k113))
  have gs := gs_st wd hg m27 in13 (fun q hq z => by
    have z' : q = g + 1 ∨ q = g + 3 ∨ q = g + 5 ∨ q = g + 7 ∨ q = g + 9 ∨ q = g + 11 ∨ q = g + 30 ∨ q = g + 32 ∨ q = g + 34 := z
    omega) (fun x hx => by omega)
  have W7 : wyF M2 a M7 := wyF.mk wd m27 (fun q hq => Or.inr hq) (fun x hx => by
    rcases hx with z | z
    · exact Or.inl (Or.inl z)
    · exact Or.inr (Or.inr (by omega))) (fun i _ _ _ _ i5 => by rw [F7, if_neg i5])
  have s7 : ∀ {q}, q ∈ nums a → q ≠ a + 113 → sl M2 M7 q := fun hq hne => (m27.lst hq hne).sl
  have c105 := (m27.cellL wd in13 (offx (a := a) (o := 105) (by decide)) (by omega)).1
  have w6 := m6.2.1
  have o85 := offx (a := a) (o := 21185) (by decide)
  have o86 := offx (a := a) (o := 21186) (by decide)
  have o87 := offx (a := a) (o := 21187) (by decide)
  have e85 : ∀ k, mI M7 (a + 21185) k = if k = w then to else mI M2 (a + 21185) k := fun k => by
    rw [(m7.cellL w6 in13 o85 (fun z => z)).1, (m6.cellL m5.2.1 no o85 (by omega)).1, i5, i4, f3]
    by_cases z : k = w
    · rw [if_pos ⟨rfl, z⟩, if_pos z]
    · rw [if_neg (fun y => z y.2), if_neg z]
  have e86 : ∀ k, mL M7 (a + 21186) k = if k = w then A else mL M2 (a + 21186) k := fun k => by
    rw [(m7.cellL w6 in13 o86 (fun z => z)).2, (m6.cellL m5.2.1 no o86 (by omega)).2, n5' _ (by omega), f4, l3]
  have e87 : ∀ k, mL M7 (a + 21187) k = if k = w then D else mL M2 (a + 21187) k := fun k => by
    rw [(m7.cellL w6 in13 o87 (fun z => z)).2, (m6.cellL m5.2.1 no o87 (by omega)).2, f5, n4 _ (by omega), l3]
  have e113 : ∀ k, nt M7 (a + 113) k = if k = L then ((w - w0 : Nat) : Int) + 1 else nt M2 (a + 113) k := fun k => by
    rw [f7, t13, (s6 k113).2.1]
  obtain ⟨h1, h2, h3, h4, h5, h6, h7⟩ := id h
  have mB := h.mono
  refine ⟨⟨m3.2.1, m4.2.1, m5.2.1, w6⟩, ⟨aI3, aI4, aI5⟩, t13, by rw [(s6 k113).1]; exact h5.2.2.1, ⟨l3, fun y hy => by rw [n4 y hy, l3]⟩, W7, m27, by rw [F7, if_neg (by decide)], ⟨by rw [F7, if_neg (by decide)]; exact h1, ⟨by rw [F7, if_pos rfl]; omega, by omega⟩, fun k v hk hv => ?_, fun j hj => ?_, ?_, ⟨h6.1, by omega, h6.2.2⟩, fun i hi => ?_⟩, by omega, ?_, p3, fun j j0 j1 => ?_, ?_⟩
  · rw [(gs.2.1 19 (by omega) (by omega)).1, (gs.2.1 20 (by omega) (by omega)).1, c105]
    exact h3 k v hk hv
  · rw [e85, e86, e87]
    by_cases z : j = w
    · rw [if_pos z, if_pos z, if_pos z]
      exact ⟨ht, hA, hD⟩
    · rw [if_neg z, if_neg z, if_neg z]
      exact h4 j (by omega)
  · rw [(s7 k109 (by omega)).1, (s7 k111 (by omega)).1, (s7 k115 (by omega)).1, l7, (s6 k113).1]
    exact h5
  · have := mB (i + 1) L (by omega) (Nat.le_refl _)
    refine (h7 i hi).cg ((s7 k111 (by omega)).2 i) (by rw [e113, if_neg (by omega)]) ((s7 k115 (by omega)).2 i) (fun j j0 j1 => ?_)
    rw [e86, e87, if_neg (by omega), if_neg (by omega)]
    exact ⟨rfl, rfl⟩
  · rw [(s7 k111 (by omega)).2, (s7 k115 (by omega)).2, e113, if_pos rfl]
    exact ⟨p2.1, by omega, p2.2.2⟩
  · rw [e87]
    by_cases z : j = w
    · rw [if_pos z]; exact hdm
    · rw [if_neg z]; exact p4 j j0 (by omega)
  · rw [show w + 1 - w0 = (w - w0) + 1 by omega]
    show sm (fun t => mL M7 (a + 21186) (w0 + t) * (mul / mL M7 (a + 21187) (w0 + t))) (w - w0) + mL M7 (a + 21186) (w0 + (w - w0)) * (mul / mL M7 (a + 21187) (w0 + (w - w0))) = _
    rw [show w0 + (w - w0) = w by omega, e86, e87, if_pos rfl, if_pos rfl, ← p5]
    have : sm (fun t => mL M7 (a + 21186) (w0 + t) * (mul / mL M7 (a + 21187) (w0 + t))) (w - w0) = sm (fun t => mL M2 (a + 21186) (w0 + t) * (mul / mL M2 (a + 21187) (w0 + t))) (w - w0) := sm_congr _ (fun t ht => by
      show mL M7 (a + 21186) (w0 + t) * (mul / mL M7 (a + 21187) (w0 + t)) = mL M2 (a + 21186) (w0 + t) * (mul / mL M2 (a + 21187) (w0 + t))
      rw [e86, e87, if_neg (by omega), if_neg (by omega)])
    rw [this]
end WAY
end
section
/-! The reference: way. -/
section WAY2
variable {G : mG} {d a g T R W C Z n L w w0 : Nat} {M M2 : mM} {E : Nat → Nat} {tg mul Sm A D : Int} {B : Nat → Nat}
/-- inside way -/
def wI (M : mM) (a g T R W C Z : Nat) (E : Nat → Nat) (tg : Int) (n L w w0 : Nat) (mul Sm A D : Int) (B : Nat → Nat) (b : Nat) (M2 : mM) : Prop := wyF M a M2 ∧ GG M2 a g T R W C Z E tg ∧ En M2 a g R W ∧ XD M2 a g n W L w (L + 1) B ∧ Op M2 a L w0 w mul Sm ∧ mL M2 (a + 21189) b = A ∧ mL M2 (a + 21190) b = D
/-- a step that leaves ways and states -/
theorem wI.st {b : Nat} {M3 : mM} {P S : Nat → Prop} (h : wI M a g T R W C Z E tg n L w w0 mul Sm A D B b M2) (m : Mv P S M2 a M3) (hP : ∀ q, P q → q = a + 99) (hS : ∀ x, S x → woS a x ∨ x = a + 21188) (hf : ∀ i, i ≠ 16 → i ≠ 17 → i ≠ 23 → mI M3 a i = mI M2 a i) (en : En M3 a g R W) : wI M a g T R W C Z E tg n L w w0 mul Sm A D B b M3 := by
  obtain ⟨h1, h2, h3, h4, h5, h6, h7⟩ := h
  have w2 := h2.2.1
  have hg := h2.2.2.1.2
  have hin : ∀ q, P q → q ∈ nums a := fun q hq => in99 q (hP q hq)
  have un : ∀ x, S x → x = a ∨ (a + 97 ≤ x ∧ x ≤ a + 98) ∨ (a + 102 ≤ x ∧ x ≤ a + 104) ∨ x = a + 21188 := fun x hx => by
    have h' : (x = a ∨ x = a + 97 ∨ x = a + 98 ∨ x = a + 102 ∨ x = a + 103 ∨ x = a + 104) ∨ x = a + 21188 := hS x hx
    omega
  have gs := gs_st w2 hg m hin (fun q hq z => by
    have z' : q = g + 1 ∨ q = g + 3 ∨ q = g + 5 ∨ q = g + 7 ∨ q = g + 9 ∨ q = g + 11 ∨ q = g + 30 ∨ q = g + 32 ∨ q = g + 34 := z
    have := hP q hq
    omega) (fun x hx => by have := un x hx; omega)
  refine ⟨h1.trans (wyF.mk w2 m (fun q hq => Or.inl (hP q hq)) (fun x hx => (hS x hx).imp (fun z => z) (fun z => Or.inr (by omega))) (fun i i1 i2 i3 _ _ => hf i i1 i2 i3)), h2.gs m.1 m.2.1 (by rw [m.rfl_a w2 hin]) gs, en, h4.mv w2 m hin (fun q hq => by have := hP q hq; omega) (fun x hx => by have := un x hx; omega) gs (hf 29 (by decide) (by decide) (by decide)) (hf 40 (by decide) (by decide) (by decide)), h5.mv w2 m hin (fun q hq => by have := hP q hq; omega) (fun x hx => by have := un x hx; omega), ?_, ?_⟩
  · rw [(m.cellL w2 hin (offx (a := a) (o := 21189) (by decide)) (fun z => by have := un _ z; omega)).2]; exact h6
  · rw [(m.cellL w2 hin (offx (a := a) (o := 21190) (by decide)) (fun z => by have := un _ z; omega)).2]; exact h7
theorem wI.x {b : Nat} {S' : Int} (h : wI M a g T R W C Z E tg n L w w0 mul Sm A D B b M2) (z : mI M2 a 16 ≠ 0) : wyQ M a g T R W C Z E tg n L w w0 mul S' B M2 := ⟨h.1, h.2.1, h.2.2.1, Or.inl z⟩
theorem wI.stp {b : Nat} {S' c p : Int} {M3 : mM} (h : wI M a g T R W C Z E tg n L w w0 mul Sm A D B b M2) (hc : c ≠ 0) (q : Mv (fun _ => False) (fun x => x = a) M2 a M3 ∧ mI M3 a 16 = c ∧ mI M3 a 17 = p ∧ ∀ i, i ≠ 16 → i ≠ 17 → mI M3 a i = mI M2 a i) : wyQ M a g T R W C Z E tg n L w w0 mul S' B M3 := by
  have w2 := h.2.1.2.1
  have hg := h.2.1.2.2.1.2
  have no : ∀ q : Nat, False → q ∈ nums a := fun _ z => z.elim
  have gs := gs_st w2 hg q.1 no (fun _ z => z.elim) (fun x z => by omega)
  have en := h.2.2.1.mv w2 q.1 no gs (fun x z => by omega)
  exact (h.st q.1 (fun _ z => z.elim) (fun x z => Or.inl (Or.inl z)) (fun i i1 i2 _ => q.2.2.2 i i1 i2) en).x (by rw [q.2.1]; exact hc)
/-- the way is looked for among those of this command -/
theorem s_way187 {b : Nat} {pl to : Int} (ipl : i32 pl) (hb : b < 8) (hw0 : B L = w0) (hA : 0 < A ∧ A < 1000000000) (hD : 0 < D ∧ D < 1000000000) (hdm : D ∣ mul) (hle : Sm + A * (mul / D) ≤ mul) (ht : 0 ≤ to ∧ to < n) (h : wI M a g T R W C Z E tg n L w w0 mul Sm A D B b M2) (z16 : mI M2 a 16 = 0) (hL : L ≤ 4096) : ∀ (t j : Nat), w0 ≤ j → j + t = w → h_MM_way_187 G (d + 6) a b pl to L j M2 (fun M' => mOk M' ∧ wyQ M a g T R W C Z E tg n L w w0 mul (Sm + A * (mul / D)) B M') := by
  obtain ⟨x1, gg, en, xd, op, cA, cD⟩ := id h
  have o2 := gg.1
  have w2 := gg.2.1
  have hg := gg.2.2.1.2
  have hn5 := xd.1.2.2
  have hw4 := xd.2.1.2
  have f40 := xd.2.1.1
  have l13 := xd.2.2.2.2.1.2.2.1
  have ito : i32 to := ⟨by omega, by omega⟩
  have ib : i32 (b : Int) := i32s (by omega) (by omega)
  have iL : i32 (L : Int) := i32s (by omega) (by omega)
  have b8 : ((0 : Int) ≤ (b : Int) ∧ (b : Int) < ((8 : Nat) : Int)) := by omega
  have pr : ∀ {Mx : mM}, Wd Mx a → (mR Mx a 41 = a + 21185 ∧ mR Mx a 42 = a + 21186 ∧ mR Mx a 43 = a + 21187 ∧ mR Mx a 45 = a + 21189 ∧ mR Mx a 46 = a + 21190) := fun w => ⟨w.1.2.2.2.2.2.2.1.1, w.1.2.2.2.2.2.2.1.2.1, w.1.2.2.2.2.2.2.1.2.2.1, w.1.2.2.2.2.2.2.1.2.2.2.2.1, w.1.2.2.2.2.2.2.1.2.2.2.2.2.1⟩
  have ar : ∀ {Mx : mM}, Wd Mx a → ((mK Mx (a + 21185) = 30 ∧ mN Mx (a + 21185) = 4096) ∧ (mK Mx (a + 21186) = 33 ∧ mN Mx (a + 21186) = 4096) ∧ (mK Mx (a + 21187) = 33 ∧ mN Mx (a + 21187) = 4096)) := fun w => ⟨w.1.2.2.2.2.2.2.2.2.2.1.1, w.1.2.2.2.2.2.2.2.2.2.1.2.1, w.1.2.2.2.2.2.2.2.2.2.1.2.2.1⟩
  intro t
  induction t with
  | zero =>
    intro j j0 hj
    have ej : j = w := by omega
    subst ej
    have bw : j < 4096 → ((0 : Int) ≤ (j : Int) ∧ (j : Int) < ((4096 : Nat) : Int)) := fun _ => by omega
    refine k_MM_way_187 o2 ib ipl ito iL (i32s (by omega) (by omega)) ⟨w2.1.1, ?_⟩
    rw [f40]
    refine ⟨fun _ => ⟨fun q => (s_MM_stop ⟨by decide, by decide⟩ ipl o2 w2).mono (fun M3 h3 => ⟨h3.1.1, h3.1.1, h.stp (by decide) h3⟩), fun q => ?_⟩, fun q => absurd (Int.le_refl _) q⟩
    have hw : j < 4096 := by omega
    have bw := bw hw
    rw [(pr w2).1, Int.toNat_natCast]
    refine ⟨(ar w2).1.1, by rw [(ar w2).1.2]; exact bw, fun M3 e3 => ?_⟩
    have N := fun (M4 M5 M6 M7 : mM) e4 e5 e6 e7 => way_new (M4 := M4) (M5 := M5) (M6 := M6) (M7 := M7) o2 w2 hg xd hw0 op hw ht hA hD hdm e3 e4 e5 e6 e7
    have N3 := N _ _ _ _ rfl rfl rfl rfl
    have w3 := N3.1.1
    have l3 := N3.2.2.2.2.1.1
    have a3 := N3.2.1.1
    rw [(pr w3).2.2.2.1, (pr w3).2.1, a3, f40, Int.toNat_natCast, Int.toNat_natCast, l3, cA]
    refine ⟨(r4546 w3).2.1.1, by rw [(r4546 w3).2.1.2]; exact b8, (ar w3).2.1.1, by rw [(ar w3).2.1.2]; exact bw, fun M4 e4 => ?_⟩
    have N4 := N M4 _ _ _ e4 rfl rfl rfl
    have w4 := N4.1.2.1
    have a4 := N4.2.1.2.1
    have l4 := N4.2.2.2.2.1.2
    rw [(pr w4).2.2.2.2, (pr w4).2.2.1, a4, f40, Int.toNat_natCast, l4 (a + 21190) (by omega), cD]
    refine ⟨(r4546 w4).2.2.1, by rw [(r4546 w4).2.2.2]; exact b8, (ar w4).2.2.1, by rw [(ar w4).2.2.2]; exact bw, fun M5 e5 => ?_⟩
    have N5 := N M4 M5 _ _ e4 e5 rfl rfl
    have w5 := N5.1.2.2.1
    have a5 := N5.2.1.2.2
    rw [a5, f40]
    refine ⟨i32s (by omega) (by omega), fun M6 e6 => ?_⟩
    have N6 := N M4 M5 M6 _ e4 e5 e6 rfl
    have w6 := N6.1.2.2.2
    have t13 : mI M6 (mR M6 (a + 113) 0) L = ((j - w0 : Nat) : Int) := N6.2.2.1
    have u13 := w6.nu (k113 (a := a))
    have c13 : ((L + 1 : Nat) : Int) ≤ cp M6 (a + 113) := by rw [← N6.2.2.2.1]; exact u13.2.2.2.1.2
    have ecp : mN M6 (mR M6 (a + 113) 0) = cp M6 (a + 113) := rfl
    rw [show mR M6 a 37 = a + 113 from w6.1.2.2.2.2.2.1.2.2.2.2.2.2.1, Int.toNat_natCast]
    refine ⟨u13.1, u13.2.1, by rw [ecp]; omega, by rw [ecp]; omega, by rw [t13]; exact i32s (by omega) (by omega), fun M7 e7 => ?_⟩
    obtain ⟨-, -, -, -, -, W7, m7, e16, X7, O7⟩ := N M4 M5 M6 M7 e4 e5 e6 e7
    have in13 : ∀ q, q = a + 113 → q ∈ nums a := fun q hq => by rw [hq]; exact k113
    have gs := gs_st w2 hg m7 in13 (fun q hq z => by
      have z' : q = g + 1 ∨ q = g + 3 ∨ q = g + 5 ∨ q = g + 7 ∨ q = g + 9 ∨ q = g + 11 ∨ q = g + 30 ∨ q = g + 32 ∨ q = g + 34 := z
      omega) (fun x hx => by omega)
    exact ⟨m7.1, x1.trans W7, gg.gs m7.1 m7.2.1 (by rw [m7.rfl_a w2 in13]) gs, en.mv w2 m7 in13 gs (fun x hx => by omega), Or.inr ⟨by rw [e16]; exact z16, n, j + 1, Nat.le_refl _, Or.inr rfl, X7, O7⟩⟩
  | succ t ih =>
    intro j j0 hj
    have bj : ((0 : Int) ≤ (j : Int) ∧ (j : Int) < ((4096 : Nat) : Int)) := by omega
    refine k_MM_way_187 o2 ib ipl ito iL (i32s (by omega) (by omega)) ⟨w2.1.1, ?_⟩
    rw [f40, (pr w2).1, (pr w2).2.2.2.1, (pr w2).2.2.2.2, Int.toNat_natCast, Int.toNat_natCast, cA, cD]
    refine ⟨fun q => absurd q (by omega), fun _ => ⟨(ar w2).1.1, by rw [(ar w2).1.2]; exact bj, fun _ => ⟨(r4546 w2).2.1.1, by rw [(r4546 w2).2.1.2]; exact b8, (r4546 w2).2.2.1, by rw [(r4546 w2).2.2.2]; exact b8, ?_⟩, fun _ => ?_⟩⟩
    · refine (s_MM_add (d := d + 5) hg o2 w2 xd hw0 op j0 (by omega) hA hD hdm hle).mono (fun M3 t3 => ?_)
      obtain ⟨o3, m3, i3, X3, O3⟩ := t3
      have no : ∀ q : Nat, False → q ∈ nums a := fun _ z => z.elim
      have gs := gs_st w2 hg m3 no (fun _ z => z.elim) (fun x z => by omega)
      have W3 : wyF M2 a M3 := wyF.mk w2 m3 (fun _ z => z.elim) (fun x z => Or.inr (Or.inr (by omega))) (fun i _ _ _ _ _ => by rw [i3])
      exact ⟨o3, o3, x1.trans W3, gg.gs o3 m3.2.1 (by rw [m3.rfl_a w2 no]) gs, en.mv w2 m3 no gs (fun x z => by omega), Or.inr ⟨by rw [i3]; exact z16, n, w, Nat.le_refl _, Or.inl rfl, X3, O3⟩⟩
    · rw [show (j : Int) + 1 = ((j + 1 : Nat) : Int) by omega]
      exact ih (j + 1) (by omega) (by omega)
end WAY2
end
