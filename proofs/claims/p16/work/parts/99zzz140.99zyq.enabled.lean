section
/-! The reference: an enabled command, its ways. -/
section ENB
variable {G : mG} {d a g T R W C Z n L w0 k : Nat} {M M2 M' : mM} {E : Eg9} {tg mul : Int} {B : Nat → Nat}
/-- a command has been explored in state k -/
def enQ (M : mM) (a g T R W C Z : Nat) (E : Eg9) (tg : Int) (n L k : Nat) (B : Nat → Nat) (M' : mM) : Prop := xF M a M' ∧ GG M' a g T R W C Z E tg ∧ En M' a g R W ∧ mI M' (a + 107) = mI M (a + 107) ∧ (∀ k', k' ≠ k → mI M' (a + 108) k' = mI M (a + 108) k') ∧ (mI M' a 16 ≠ 0 ∨ (mI M' a 16 = 0 ∧ mI M' (a + 108) k = mI M (a + 108) k + 1 ∧ ∃ (n' w' : Nat) (B' : Nat → Nat), n ≤ n' ∧ (∀ i, i ≤ L → B' i = B i) ∧ B' (L + 1) = w' ∧ XD M' a g n' W (L + 1) w' (L + 1) B'))
/-- the command is complete -/
theorem Op.close {n' w' : Nat} (h : XD M' a g n' W L w' (L + 1) B) (hw0 : B L = w0) (op : Op M' a L w0 w' mul mul) (h8 : w' ≤ w0 + 8) : ∃ B' : Nat → Nat, (∀ i, i ≤ L → B' i = B i) ∧ B' (L + 1) = w' ∧ XD M' a g n' W (L + 1) w' (L + 1) B' := by
  obtain ⟨p1, p2, p3, p4, p5⟩ := op
  have ne : w0 < w' := by
    by_cases z : w0 < w'
    · exact z
    · rw [show w' - w0 = 0 by omega] at p5
      have : (0 : Int) = mul := p5
      omega
  obtain ⟨B', hB⟩ : ∃ B' : Nat → Nat, ∀ i, B' i = if i ≤ L then B i else w' := ⟨fun i => if i ≤ L then B i else w', fun _ => rfl⟩
  have bl : ∀ i, i ≤ L → B' i = B i := fun i hi => by rw [hB, if_pos hi]
  have bL : B' (L + 1) = w' := by rw [hB, if_neg (by omega)]
  refine ⟨B', bl, bL, ?_⟩
  obtain ⟨h1, h2, h3, h4, h5, h6, h7⟩ := h
  refine ⟨h1, h2, h3, h4, h5, ⟨by rw [bl 0 (by omega)]; exact h6.1, by rw [bL]; exact Nat.le_refl _, Nat.le_refl _⟩, fun i hi => ?_⟩
  by_cases z : i = L
  · subst z
    unfold okc
    rw [bL, bl i (Nat.le_refl _), hw0, p2.2.2]
    exact ⟨⟨ne, h8⟩, ⟨p2.1, p2.2.1⟩, p3, p4, p5⟩
  · have := h7 i (by omega)
    unfold okc at this ⊢
    rw [bl i (by omega), bl (i + 1) (by omega)]
    exact this
/-- inside the loop over the branches -/
def eI (M : mM) (a g T R W C Z : Nat) (E : Eg9) (tg : Int) (n L w0 k : Nat) (mul : Int) (B : Nat → Nat) (cA cD : Nat → Int) (b : Nat) (M2 : mM) : Prop := xF M a M2 ∧ GG M2 a g T R W C Z E tg ∧ En M2 a g R W ∧ (mI M2 (a + 107) = mI M (a + 107) ∧ (∀ k', k' ≠ k → mI M2 (a + 108) k' = mI M (a + 108) k') ∧ mI M2 (a + 108) k = mI M (a + 108) k + 1) ∧ (mI M2 a 16 = 0 → (mL M2 (a + 21189) = cA ∧ mL M2 (a + 21190) = cD) ∧ ∃ n2 w2 : Nat, n ≤ n2 ∧ XD M2 a g n2 W L w2 (L + 1) B ∧ Op M2 a L w0 w2 mul (sm (fun b' => cA b' * (mul / cD b')) b) ∧ w2 ≤ w0 + b)
end ENB
end
section
/-! The reference: enabled. -/
section ENB2
variable {G : mG} {d a g T R W C Z n L w k : Nat} {M M2 M3 : mM} {E : Eg9} {tg mul : Int} {B : Nat → Nat}
/-- before the command is put down -/
def eB (M : mM) (a g T R W C Z : Nat) (E : Eg9) (tg : Int) (n L w : Nat) (B : Nat → Nat) (M2 : mM) : Prop := xF M a M2 ∧ GG M2 a g T R W C Z E tg ∧ En M2 a g R W ∧ XD M2 a g n W L w L B ∧ mI M2 (a + 107) = mI M (a + 107) ∧ mI M2 (a + 108) = mI M (a + 108)
end ENB2
end
section
/-! The reference: enabled, to its end. -/
section ENB3
variable {G : mG} {d a g T R W C Z n L w k : Nat} {M M2 M3 : mM} {E : Eg9} {tg mul : Int} {B : Nat → Nat}
theorem XD.le {Ln : Nat} (h : XD M a g n W L w Ln B) : L ≤ 4096 := by
  have := h.mono 0 L (by omega) (Nat.le_refl _)
  have := h.2.2.2.2.2.1
  have := h.2.1.2
  omega
theorem sm_bd {f : Nat → Int} {c : Int} : ∀ (m : Nat), (∀ t, t < m → 0 ≤ f t ∧ f t ≤ c) → 0 ≤ sm f m ∧ sm f m ≤ m * c
  | 0, _ => ⟨Int.le_refl 0, by show (0 : Int) ≤ ((0 : Nat) : Int) * c; rw [show ((0 : Nat) : Int) = 0 from rfl, Int.zero_mul]; exact Int.le_refl 0⟩
  | m + 1, h => by
    have a := sm_bd m (fun t ht => h t (by omega))
    have b := h m (by omega)
    refine ⟨?_, ?_⟩
    · show 0 ≤ sm f m + f m
      omega
    · show sm f m + f m ≤ ((m + 1 : Nat) : Int) * c
      rw [show ((m + 1 : Nat) : Int) * c = (m : Int) * c + c by rw [Int.natCast_add, Int.add_mul]; show (m : Int) * c + 1 * c = _; rw [Int.one_mul]]
      omega
theorem en_stop {c p : Int} (h : eB M a g T R W C Z E tg n L w B M2) (hc : c ≠ 0) (q : Mv (fun _ => False) (fun x => x = a) M2 a M3 ∧ mI M3 a 16 = c ∧ mI M3 a 17 = p ∧ ∀ i, i ≠ 16 → i ≠ 17 → mI M3 a i = mI M2 a i) : enQ M a g T R W C Z E tg n L k B M3 := by
  obtain ⟨x1, gg, en, xd, t107, t108⟩ := h
  have w2 := gg.2.1
  have hg := gg.2.2.1.2
  have no : ∀ q : Nat, False → q ∈ nums a := fun _ z => z.elim
  have F : xF M2 a M3 := xF.mk w2 q.1 (fun _ z => z.elim) (fun x z => Or.inl z) (fun i i1 i2 _ _ _ => q.2.2.2 i i1 i2)
  have gs := F.gs w2 hg
  have c7 := (q.1.cellL w2 no (offx (a := a) (o := 107) (by decide)) (by omega)).1
  have c8 := (q.1.cellL w2 no (offx (a := a) (o := 108) (by decide)) (by omega)).1
  exact ⟨x1.trans F, gg.gs q.1.1 q.1.2.1 (by rw [q.1.rfl_a w2 no]) gs, en.mv w2 q.1 no gs (fun x z => by omega), by rw [c7]; exact t107, fun k' _ => by rw [c8, t108], Or.inl (by rw [q.2.1]; exact hc)⟩
end ENB3
end
section
/-! The reference: enabled, and a state. -/
section STA
variable {G : mG} {d a g T R W C Z n L w k : Nat} {M M2 M3 : mM} {E : Eg9} {tg : Int} {B : Nat → Nat}
/-- a state's commands so far -/
def sI (M : mM) (a g T R W C Z : Nat) (E : Eg9) (tg : Int) (n L k : Nat) (B : Nat → Nat) (M2 : mM) : Prop := xF M a M2 ∧ GG M2 a g T R W C Z E tg ∧ En M2 a g R W ∧ (mI M2 a 16 = 0 → (mI M2 (a + 107) k = (L : Int) ∧ (∀ k', k' ≠ k → mI M2 (a + 107) k' = mI M (a + 107) k' ∧ mI M2 (a + 108) k' = mI M (a + 108) k')) ∧ ∃ (n2 L2 w2 : Nat) (B2 : Nat → Nat), n ≤ n2 ∧ L ≤ L2 ∧ mI M2 (a + 108) k = ((L2 - L : Nat) : Int) ∧ (∀ i, i ≤ L → B2 i = B i) ∧ B2 L2 = w2 ∧ XD M2 a g n2 W L2 w2 L2 B2)
end STA
end
section
/-! The reference: a state is explored. -/
section STB
variable {G : mG} {d a g T R W C Z n L w k : Nat} {M : mM} {E : Eg9} {tg : Int} {B : Nat → Nat}
end STB
end
section
/-! The reference: the solver is told. -/
section TOL
variable {G : mG} {d s i c b : Nat} {M M' : mM} {F B : Nat → Nat} {mu to up dn : Nat → Int}
abbrev tlS (s : Nat) : Nat → Prop := fun y => y = s ∨ (s + 22 ≤ y ∧ y ≤ s + 28) ∨ y = s + 32
/-- the solver's room, with no values -/
def Rs (M : mM) (s : Nat) : Prop := Vk M s ∧ Wk M s ∧ Ct M s ∧ (∀ e, eL e → Rm M s e) ∧ ∀ w, w < 3 → mI M (s + 30) w = 0
theorem Rs.fi (h : Rs M s) (f : FI (tlS s) M M') : Rs M' s := by
  obtain ⟨h1, h2, h3, h4, h5⟩ := h
  have un : ∀ y, tlS s y → y = s ∨ (s + 22 ≤ y ∧ y ≤ s + 28) ∨ y = s + 32 := fun y hy => hy
  refine ⟨h1.fi f, h2.far f (fun y q => by have := un y q; omega), h3.out f (fun y q => by have := un y q; omega), fun e he => (h4 e he).out f (fun y q => by have := un y q; omega), fun w hw => ?_⟩
  rw [f.2.2.2.2.2.2 (s + 30) (fun q => by have := un _ q; omega)]
  exact h5 w hw
/-- i states, c commands and b branches have been told -/
def TL (M : mM) (s : Nat) (F B : Nat → Nat) (mu to up dn : Nat → Int) (i c b : Nat) : Prop := Rs M s ∧ (mI M s 1 = (i : Int) ∧ mI M s 2 = (c : Int) ∧ mI M s 3 = (b : Int)) ∧ ((∀ j, j < i → mI M (s + 23) j = (F j : Int)) ∧ mI M (s + 23) i = (c : Int)) ∧ ((∀ j, j < c → mI M (s + 25) j = (B j : Int)) ∧ mI M (s + 25) c = (b : Int)) ∧ (∀ j, j < c → mI M (s + 24) j = mu j) ∧ (∀ j, j < b → mI M (s + 26) j = to j ∧ mI M (s + 27) j = up j ∧ mI M (s + 28) j = dn j) ∧ (∀ j, j < i → mI M (s + 32) j = 0) ∧ 11 ≤ s ∧ ∀ j, j < i → mI M (s + 22) j = mI M (s - 11) j
theorem s_tl_state {q : Int} (hq : i32 q) (hO : mOk M) (h : TL M s F B mu to up dn i c b) (hi : i < 512) (hc : c = F i) (hq9 : q = mI M (s - 11) i) : Cv G y_MS_addState d [vr s, vi q] M (fun M' => mOk M' ∧ FI (tlS s) M M' ∧ TL M' s F B mu to up dn (i + 1) c b) := by
  obtain ⟨r, ⟨n1, n2, n3⟩, ⟨f1, f2⟩, ⟨b1, b2⟩, m1, w1, t1, u1, u2⟩ := h
  refine (s_MS_addState hq hO r.1 n1 hi).mono (fun M' t => ?_)
  obtain ⟨o, f, e1, e2, e3, e4⟩ := t
  have f' : FI (tlS s) M M' := f.mono (fun y z => by show y = s ∨ (s + 22 ≤ y ∧ y ≤ s + 28) ∨ y = s + 32; omega)
  have keep : ∀ x, (x = s + 24 ∨ x = s + 25 ∨ x = s + 26 ∨ x = s + 27 ∨ x = s + 28) → mI M' x = mI M x := fun x hx => f.2.2.2.2.2.2 x (by omega)
  refine ⟨o, f', r.fi f', ⟨by rw [e1, if_pos rfl]; omega, by rw [e1, if_neg (by omega)]; exact n2, by rw [e1, if_neg (by omega)]; exact n3⟩, ⟨fun j hj => ?_, by rw [e4, if_pos rfl]; exact n2⟩, by rw [keep (s + 25) (by omega)]; exact ⟨b1, b2⟩, by rw [keep (s + 24) (by omega)]; exact m1, by rw [keep (s + 26) (by omega), keep (s + 27) (by omega), keep (s + 28) (by omega)]; exact w1, fun j hj => ?_, u1, fun j hj => ?_⟩
  · rw [e4, if_neg (by omega)]
    by_cases z : j = i
    · rw [z, f2, hc]
    · exact f1 j (by omega)
  · rw [e3]
    by_cases z : j = i
    · rw [if_pos z]
    · rw [if_neg z]; exact t1 j (by omega)
  · rw [e2, f.2.2.2.2.2.2 (s - 11) (by omega)]
    by_cases z : j = i
    · rw [if_pos z, z]; exact hq9
    · rw [if_neg z]; exact u2 j (by omega)
theorem s_tl_command (hO : mOk M) (h : TL M s F B mu to up dn i c b) (hi : i ≤ 512) (hc : c < 4200) (hb : b = B c) (hm : i32 (mu c)) : Cv G y_MS_addCommand d [vr s, vi (mu c)] M (fun M' => mOk M' ∧ FI (tlS s) M M' ∧ TL M' s F B mu to up dn i (c + 1) b) := by
  obtain ⟨r, ⟨n1, n2, n3⟩, ⟨f1, f2⟩, ⟨b1, b2⟩, m1, w1, t1, u1, u2⟩ := h
  refine (s_MS_addCommand hm hO r.1 n1 hi n2 hc).mono (fun M' t => ?_)
  obtain ⟨o, f, e1, e2, e3, e4⟩ := t
  have f' : FI (tlS s) M M' := f.mono (fun y z => by show y = s ∨ (s + 22 ≤ y ∧ y ≤ s + 28) ∨ y = s + 32; omega)
  have keep : ∀ x, (x = s + 26 ∨ x = s + 27 ∨ x = s + 28 ∨ x = s + 32) → mI M' x = mI M x := fun x hx => f.2.2.2.2.2.2 x (by omega)
  refine ⟨o, f', r.fi f', ⟨by rw [e1, if_neg (by omega)]; exact n1, by rw [e1, if_pos rfl]; omega, by rw [e1, if_neg (by omega)]; exact n3⟩, ⟨fun j hj => by rw [e4, if_neg (by omega)]; exact f1 j hj, by rw [e4, if_pos rfl]; omega⟩, ⟨fun j hj => ?_, by rw [e3, if_pos rfl]; exact n3⟩, fun j hj => ?_, by rw [keep (s + 26) (by omega), keep (s + 27) (by omega), keep (s + 28) (by omega)]; exact w1, by rw [keep (s + 32) (by omega)]; exact t1, u1, fun j hj => by rw [f.2.2.2.2.2.2 (s + 22) (by omega), f.2.2.2.2.2.2 (s - 11) (by omega)]; exact u2 j hj⟩
  · rw [e3, if_neg (by omega)]
    by_cases z : j = c
    · rw [z, b2, hb]
    · exact b1 j (by omega)
  · rw [e2]
    by_cases z : j = c
    · rw [if_pos z, z]
    · rw [if_neg z]; exact m1 j (by omega)
theorem s_tl_branch (hO : mOk M) (h : TL M s F B mu to up dn i c b) (hc : c ≤ 4200) (hb : b < 4096) (h1 : i32 (to b)) (h2 : i32 (up b)) (h3 : i32 (dn b)) : Cv G y_MS_addBranch d [vr s, vi (to b), vi (up b), vi (dn b)] M (fun M' => mOk M' ∧ FI (tlS s) M M' ∧ TL M' s F B mu to up dn i c (b + 1)) := by
  obtain ⟨r, ⟨n1, n2, n3⟩, ⟨f1, f2⟩, ⟨b1, b2⟩, m1, w1, t1, u1, u2⟩ := h
  refine (s_MS_addBranch h1 h2 h3 hO r.1 n2 hc n3 hb).mono (fun M' t => ?_)
  obtain ⟨o, f, e1, e2, e3, e4, e5⟩ := t
  have f' : FI (tlS s) M M' := f.mono (fun y z => by show y = s ∨ (s + 22 ≤ y ∧ y ≤ s + 28) ∨ y = s + 32; omega)
  have keep : ∀ x, (x = s + 23 ∨ x = s + 24 ∨ x = s + 32) → mI M' x = mI M x := fun x hx => f.2.2.2.2.2.2 x (by omega)
  refine ⟨o, f', r.fi f', ⟨by rw [e1, if_neg (by omega)]; exact n1, by rw [e1, if_neg (by omega)]; exact n2, by rw [e1, if_pos rfl]; omega⟩, by rw [keep (s + 23) (by omega)]; exact ⟨f1, f2⟩, ⟨fun j hj => by rw [e5, if_neg (by omega)]; exact b1 j hj, by rw [e5, if_pos rfl]; omega⟩, by rw [keep (s + 24) (by omega)]; exact m1, fun j hj => ?_, by rw [keep (s + 32) (by omega)]; exact t1, u1, fun j hj => by rw [f.2.2.2.2.2.2 (s + 22) (by omega), f.2.2.2.2.2.2 (s - 11) (by omega)]; exact u2 j hj⟩
  rw [e2, e3, e4]
  by_cases z : j = b
  · rw [if_pos z, if_pos z, if_pos z, z]
    exact ⟨rfl, rfl, rfl⟩
  · rw [if_neg z, if_neg z, if_neg z]
    exact w1 j (by omega)
/-- all has been told: the solver is sound -/
theorem TL.sv {n L w : Nat} (h : TL M s F B mu to up dn n L w) (hn : n ≤ 512) (hL : L ≤ 4200) (hw : w ≤ 4096) (hF : F 0 = 0 ∧ F n = L ∧ ∀ k, k < n → F k ≤ F (k + 1)) (hB : B 0 = 0 ∧ B L = w ∧ ∀ k, k < L → B k < B (k + 1) ∧ B (k + 1) ≤ B k + 8) (hto : ∀ j, j < w → 0 ≤ to j ∧ to j < n) (hmu : ∀ k, k < L → 1 ≤ mu k ∧ mu k < 1000000000) (hud : ∀ j, j < w → 0 < up j ∧ 0 < dn j) (hdv : ∀ k, k < L → ∀ j, B k ≤ j → j < B (k + 1) → dn j ∣ mu k) (hsm : ∀ k, k < L → sm (fun t => up (B k + t) * (mu k / dn (B k + t))) (B (k + 1) - B k) = mu k) : Sv M s n ∧ ∀ k, k < n → mny M s k = ((F (k + 1) - F k : Nat) : Int) := by
  obtain ⟨⟨r1, r2, r3, r4, r5⟩, ⟨n1, n2, n3⟩, ⟨f1, f2⟩, ⟨b1, b2⟩, m1, w1, t1, -⟩ := h
  have mono : ∀ (H : Nat → Nat) (N : Nat), (∀ k, k < N → H k ≤ H (k + 1)) → ∀ i j, i ≤ j → j ≤ N → H i ≤ H j := fun H N hH i j hij hj => by
    induction j with
    | zero => rw [show i = 0 by omega]; exact Nat.le_refl _
    | succ j ih =>
      by_cases z : i = j + 1
      · rw [z]; exact Nat.le_refl _
      · have := ih (by omega) (by omega)
        have := hH j (by omega)
        omega
  have fF := mono F n hF.2.2
  have fB := mono B L (fun k hk => Nat.le_of_lt (hB.2.2 k hk).1)
  have eF : ∀ j, j ≤ n → mI M (s + 23) j = (F j : Int) := fun j hj => by
    by_cases z : j = n
    · rw [z, f2, hF.2.1]
    · exact f1 j (by omega)
  have eB : ∀ j, j ≤ L → mI M (s + 25) j = (B j : Int) := fun j hj => by
    by_cases z : j = L
    · rw [z, b2, hB.2.1]
    · exact b1 j (by omega)
  have my : ∀ k, k < n → mny M s k = ((F (k + 1) - F k : Nat) : Int) := fun k hk => by
    unfold mny
    rw [eF (k + 1) (by omega), eF k (by omega)]
    have := hF.2.2 k hk
    omega
  refine ⟨⟨r1, ⟨by omega, by omega, by omega, by omega, by rw [eF 0 (by omega), hF.1]; rfl, by rw [eB 0 (by omega), hB.1]; rfl, fun i j hij hj => ?_, by rw [n1, Int.toNat_natCast, eF n (Nat.le_refl _), hF.2.1, n2], fun i j hij hj => ?_, by rw [n2, Int.toNat_natCast, eB L (Nat.le_refl _), hB.2.1, n3], fun j hj => ?_⟩, fun k hk => ?_, n1, fun k hk => ?_, r2, r3, r4, fun v hv => ⟨Or.inl (r5 v hv), fun q => by rw [r5 v hv] at q; exact absurd q (by decide)⟩, fun q => by rw [r5 0 (by omega)] at q; exact absurd q (by decide)⟩, my⟩
  · rw [eF i (by omega), eF j (by omega)]
    have := fF i j hij (by omega)
    omega
  · rw [eB i (by omega), eB j (by omega)]
    have := fB i j hij (by omega)
    omega
  · rw [(w1 j (by omega)).1, n1]
    exact hto j (by omega)
  · have kL : k < L := by omega
    have bk := hB.2.2 k kL
    have bw := fB (k + 1) L (by omega) (Nat.le_refl _)
    have e1 : nb M s k = B (k + 1) - B k := by unfold nb; rw [eB (k + 1) (by omega), eB k (by omega)]; omega
    have e2 : bg M s k = B k := by unfold bg; rw [eB k (by omega)]; omega
    rw [e1, e2, m1 k kL]
    refine ⟨⟨(hmu k kL).1, (hmu k kL).2, by omega⟩, fun t ht => ?_, ?_⟩
    · have := w1 (B k + t) (by omega)
      rw [this.2.1, this.2.2]
      exact ⟨(hud _ (by omega)).1, (hud _ (by omega)).2, hdv k kL _ (by omega) (by omega)⟩
    · refine Eq.trans (sm_congr _ (fun t ht => ?_)) (hsm k kL)
      have := w1 (B k + t) (by omega)
      show mI M (s + 27) (B k + t) * (mu k / mI M (s + 28) (B k + t)) = up (B k + t) * (mu k / dn (B k + t))
      rw [this.2.1, this.2.2]
  · have kn : k < n := by omega
    rw [t1 k kn]
    exact ⟨Int.le_refl _, fun q => q⟩
end TOL
end
section
/-! The reference: tellState. -/
section TEL
variable {G : mG} {d a n L w k : Nat} {M M2 : mM} {F B : Nat → Nat} {mu to up dn : Nat → Int}
/-- the tables of what was explored -/
def TT (M : mM) (a n L w : Nat) (F B : Nat → Nat) (mu to up dn : Nat → Int) : Prop := (n ≤ 512 ∧ L ≤ 4096 ∧ w ≤ 4096) ∧ (F n = L ∧ ∀ k, k < n → mI M (a + 107) k = (F k : Int) ∧ mI M (a + 108) k = ((F (k + 1) - F k : Nat) : Int) ∧ F k ≤ F (k + 1) ∧ F (k + 1) ≤ L) ∧ (ln M (a + 111) = (L : Int) ∧ ln M (a + 113) = (L : Int) ∧ ln M (a + 115) = (L : Int)) ∧ (∀ i, i < L → nt M (a + 111) i = (B i : Int) ∧ nt M (a + 113) i = ((B (i + 1) - B i : Nat) : Int) ∧ B i ≤ B (i + 1) ∧ B (i + 1) ≤ w ∧ nt M (a + 115) i = mu i) ∧ ∀ j, j < w → mI M (a + 21185) j = to j ∧ mL M (a + 21186) j = up j ∧ mL M (a + 21187) j = dn j ∧ i32 (to j) ∧ i32 (up j) ∧ i32 (dn j)
theorem tl_vF {s y : Nat} (h : tlS s y) : vF s y := by
  have h' : y = s ∨ (s + 22 ≤ y ∧ y ≤ s + 28) ∨ y = s + 32 := h
  show s ≤ y ∧ y ≤ s + 21067
  omega
theorem TT.mv {P S : Nat → Prop} {M' : mM} (h : TT M a n L w F B mu to up dn) (wd : Wd M a) (m : Mv P S M a M') (hin : ∀ q, P q → q ∈ nums a) (hP : ∀ q, P q → q ≠ a + 111 ∧ q ≠ a + 113 ∧ q ≠ a + 115) (hS : ∀ x, S x → x ≠ a + 107 ∧ x ≠ a + 108 ∧ x ≠ a + 21185 ∧ x ≠ a + 21186 ∧ x ≠ a + 21187) : TT M' a n L w F B mu to up dn := by
  have c7 := (m.cellL wd hin (offx (a := a) (o := 107) (by decide)) (fun z => (hS _ z).1 rfl)).1
  have c8 := (m.cellL wd hin (offx (a := a) (o := 108) (by decide)) (fun z => (hS _ z).2.1 rfl)).1
  have c85 := (m.cellL wd hin (offx (a := a) (o := 21185) (by decide)) (fun z => (hS _ z).2.2.1 rfl)).1
  have c86 := (m.cellL wd hin (offx (a := a) (o := 21186) (by decide)) (fun z => (hS _ z).2.2.2.1 rfl)).2
  have c87 := (m.cellL wd hin (offx (a := a) (o := 21187) (by decide)) (fun z => (hS _ z).2.2.2.2 rfl)).2
  have s11 := m.lst (k111 (a := a)) (fun z => (hP _ z).1 rfl)
  have s13 := m.lst (k113 (a := a)) (fun z => (hP _ z).2.1 rfl)
  have s15 := m.lst (k115 (a := a)) (fun z => (hP _ z).2.2 rfl)
  obtain ⟨h1, h2, h3, h4, h5⟩ := h
  refine ⟨h1, by rw [c7, c8]; exact h2, by rw [s11.1, s13.1, s15.1]; exact h3, fun i hi => ?_, by rw [c85, c86, c87]; exact h5⟩
  rw [s11.2.1, s13.2.1, s15.2.1]
  exact h4 i hi
/-- the reference while it tells -/
def tI (M : mM) (a n L w : Nat) (F B : Nat → Nat) (mu to up dn : Nat → Int) (i c b : Nat) (M2 : mM) : Prop := mOk M2 ∧ Wd M2 a ∧ FI (vF (a + 117)) M M2 ∧ TT M2 a n L w F B mu to up dn ∧ TL M2 (a + 117) F B mu to up dn i c b
theorem tI.st {i c b i' c' b' : Nat} {M3 : mM} (h : tI M a n L w F B mu to up dn i c b M2) (o : mOk M3) (f : FI (tlS (a + 117)) M2 M3) (t : TL M3 (a + 117) F B mu to up dn i' c' b') : tI M a n L w F B mu to up dn i' c' b' M3 := by
  have f' : FI (vF (a + 117)) M2 M3 := f.mono (fun y z => tl_vF z)
  have m := mv_sol o h.2.1 f'
  exact ⟨o, m.2.1, h.2.2.1.trans f', h.2.2.2.1.mv h.2.1 m (fun _ z => z.elim) (fun _ z => z.elim) (fun x z => by
    have z' : a + 117 ≤ x ∧ x ≤ a + 117 + 21067 := z
    omega), t⟩
theorem s_MM_tellState (h : tI M a n L w F B mu to up dn k (F k) (B (F k)) M2) (hk : k < n) (hmu : ∀ i, i < L → i32 (mu i)) : Cv G y_MM_tellState (d + 1) [vr a, vi k] M2 (fun M' => mOk M' ∧ tI M a n L w F B mu to up dn (k + 1) (F (k + 1)) (B (F (k + 1))) M') := by
  have R6 : ∀ {Mx : mM}, Wd Mx a → mR Mx a 32 = a + 106 ∧ mR Mx a 33 = a + 107 ∧ mR Mx a 34 = a + 108 ∧ mR Mx a 36 = a + 111 ∧ mR Mx a 37 = a + 113 ∧ mR Mx a 38 = a + 115 ∧ mR Mx a 39 = a + 117 := fun w => ⟨w.1.2.2.2.2.2.1.2.1, w.1.2.2.2.2.2.1.2.2.1, w.1.2.2.2.2.2.1.2.2.2.1, w.1.2.2.2.2.2.1.2.2.2.2.2.1, w.1.2.2.2.2.2.1.2.2.2.2.2.2.1, w.1.2.2.2.2.2.1.2.2.2.2.2.2.2.1, w.1.2.2.2.2.2.1.2.2.2.2.2.2.2.2⟩
  have A6 : ∀ {Mx : mM}, Wd Mx a → (mK Mx (a + 106) = 30 ∧ mN Mx (a + 106) = 512) ∧ (mK Mx (a + 107) = 30 ∧ mN Mx (a + 107) = 512) ∧ (mK Mx (a + 108) = 30 ∧ mN Mx (a + 108) = 512) := fun w => ⟨w.1.2.2.2.2.2.2.2.2.1.2.1, w.1.2.2.2.2.2.2.2.2.1.2.2.1, w.1.2.2.2.2.2.2.2.2.1.2.2.2⟩
  have pr : ∀ {Mx : mM}, Wd Mx a → (mR Mx a 41 = a + 21185 ∧ mR Mx a 42 = a + 21186 ∧ mR Mx a 43 = a + 21187) := fun w => ⟨w.1.2.2.2.2.2.2.1.1, w.1.2.2.2.2.2.2.1.2.1, w.1.2.2.2.2.2.2.1.2.2.1⟩
  have ar : ∀ {Mx : mM}, Wd Mx a → ((mK Mx (a + 21185) = 30 ∧ mN Mx (a + 21185) = 4096) ∧ (mK Mx (a + 21186) = 33 ∧ mN Mx (a + 21186) = 4096) ∧ (mK Mx (a + 21187) = 33 ∧ mN Mx (a + 21187) = 4096)) := fun w => ⟨w.1.2.2.2.2.2.2.2.2.2.1.1, w.1.2.2.2.2.2.2.2.2.2.1.2.1, w.1.2.2.2.2.2.2.2.2.2.1.2.2.1⟩
  have hb := h.2.2.2.1.1
  have hFk := h.2.2.2.1.2.1.2 k hk
  have ik : i32 (k : Int) := i32s (by omega) (by omega)
  have b512 : ((0 : Int) ≤ (k : Int) ∧ (k : Int) < ((512 : Nat) : Int)) := by omega
  have hF1 := hFk.2.2.1
  have hF2 := hFk.2.2.2
  have rd : ∀ {Mx : mM} {p j : Nat} {Q : Int → mM → Prop}, mOk Mx → Wd Mx a → p ∈ nums a → (j : Int) < ln Mx p → (∀ z, z = nt Mx p j → i32 z → Q z Mx) → Ci G y_MN_at d [vr p, vi j] Mx Q := fun ox wx hp hk hQ => by
    refine (s_MN_at ox (wx.nu hp) hk).mono (fun z M1 e1 => ?_)
    obtain ⟨e1, hz⟩ := e1
    subst e1
    exact hQ z hz (by rw [hz]; exact (ox _ _).1)
  -- the commands from i on
  suffices H : ∀ (t i : Nat) (M3 : mM), F k ≤ i → i + t = F (k + 1) → tI M a n L w F B mu to up dn (k + 1) i (B i) M3 → h_MM_tellState_20 G d a k i M3 (fun M' => mOk M' ∧ tI M a n L w F B mu to up dn (k + 1) (F (k + 1)) (B (F (k + 1))) M') by
    have o2 := h.1
    have w2 := h.2.1
    refine k_MM_tellState o2 ik ⟨w2.1.1, ?_⟩
    rw [(R6 w2).1, (R6 w2).2.2.2.2.2.2, Int.toNat_natCast]
    refine ⟨(A6 w2).1.1, by rw [(A6 w2).1.2]; exact b512, h.2.2.2.2.1.1.1, (s_tl_state (o2 _ _).1 o2 h.2.2.2.2 (by omega) rfl (by rw [show a + 117 - 11 = a + 106 by omega])).mono (fun M3 t3 => ?_)⟩
    have h3 := h.st t3.1 t3.2.1 t3.2.2
    have w3 := h3.2.1
    have e7 := (h3.2.2.2.1.2.1.2 k hk).1
    rw [(R6 w3).2.1, e7]
    exact ⟨t3.1, w3.1.1, (A6 w3).2.1.1, by rw [(A6 w3).2.1.2]; exact b512, H (F (k + 1) - F k) (F k) M3 (Nat.le_refl _) (by omega) h3⟩
  intro t
  induction t with
  | zero =>
    intro i M3 i0 hi h3
    have ei : i = F (k + 1) := by omega
    subst ei
    have w3 := h3.2.1
    obtain ⟨e7, e8, -, -⟩ := h3.2.2.2.1.2.1.2 k hk
    refine k_MM_tellState_20 h3.1 ik (i32s (by omega) (by omega)) ⟨w3.1.1, ?_⟩
    rw [(R6 w3).2.1, (R6 w3).2.2.1, Int.toNat_natCast, e7, e8]
    exact ⟨(A6 w3).2.1.1, by rw [(A6 w3).2.1.2]; exact b512, (A6 w3).2.2.1, by rw [(A6 w3).2.2.2]; exact b512, i32s (by omega) (by omega), fun _ => ⟨h3.1, h3⟩, fun q => absurd (by omega) q⟩
  | succ t ih =>
    intro i M3 i0 hi h3
    have o3 := h3.1
    have w3 := h3.2.1
    obtain ⟨e7, e8, -, -⟩ := h3.2.2.2.1.2.1.2 k hk
    have iL : i < L := by omega
    obtain ⟨l11, l13, l15⟩ := h3.2.2.2.1.2.2.1
    obtain ⟨v11, v13, v1, v2, v15⟩ := h3.2.2.2.1.2.2.2.1 i iL
    have ii : i32 (i : Int) := i32s (by omega) (by omega)
    refine k_MM_tellState_20 o3 ik ii ⟨w3.1.1, ?_⟩
    rw [(R6 w3).2.1, (R6 w3).2.2.1, (R6 w3).2.2.2.2.2.1, (R6 w3).2.2.2.2.2.2, Int.toNat_natCast, e7, e8]
    refine ⟨(A6 w3).2.1.1, by rw [(A6 w3).2.1.2]; exact b512, (A6 w3).2.2.1, by rw [(A6 w3).2.2.2]; exact b512, i32s (by omega) (by omega), fun q => absurd q (by omega), fun _ => ⟨(w3.nu k115).1, rd o3 w3 k115 (by rw [l15]; omega) (fun z hz iz => ⟨iz, o3, h3.2.2.2.2.1.1.1, ?_⟩)⟩⟩
    rw [hz.trans v15]
    refine (s_tl_command o3 h3.2.2.2.2 (by omega) (by omega) rfl (hmu i iL)).mono (fun M4 t4 => ?_)
    have h4 := h3.st t4.1 t4.2.1 t4.2.2
    have o4 := h4.1
    have w4 := h4.2.1
    obtain ⟨l11', l13', l15'⟩ := h4.2.2.2.1.2.2.1
    obtain ⟨v11', v13', -, -, -⟩ := h4.2.2.2.1.2.2.2.1 i iL
    rw [(R6 w4).2.2.2.1]
    refine ⟨o4, w4.1.1, (w4.nu k111).1, rd o4 w4 k111 (by rw [l11']; omega) (fun z hz iz => ⟨iz, o4, ?_⟩)⟩
    rw [hz.trans v11']
    -- the ways from j on
    suffices H2 : ∀ (u j : Nat) (M5 : mM), B i ≤ j → j + u = B (i + 1) → tI M a n L w F B mu to up dn (k + 1) (i + 1) j M5 → h_MM_tellState_61 G d a k i j M5 (fun M' => mOk M' ∧ tI M a n L w F B mu to up dn (k + 1) (F (k + 1)) (B (F (k + 1))) M') from H2 (B (i + 1) - B i) (B i) M4 (Nat.le_refl _) (by omega) h4
    intro u
    induction u with
    | zero =>
      intro j M5 j0 hj h5
      have ej : j = B (i + 1) := by omega
      subst ej
      have o5 := h5.1
      have w5 := h5.2.1
      obtain ⟨l11, l13, l15⟩ := h5.2.2.2.1.2.2.1
      obtain ⟨v11, v13, -, -, -⟩ := h5.2.2.2.1.2.2.2.1 i iL
      refine k_MM_tellState_61 o5 ik ii (i32s (by omega) (by omega)) ⟨w5.1.1, ?_⟩
      rw [(R6 w5).2.2.2.1]
      refine ⟨(w5.nu k111).1, rd o5 w5 k111 (by rw [l11]; omega) (fun z hz iz => ⟨iz, o5, w5.1.1, ?_⟩)⟩
      rw [(R6 w5).2.2.2.2.1]
      refine ⟨(w5.nu k113).1, rd o5 w5 k113 (by rw [l13]; omega) (fun y hy iy => ⟨iy, o5, ?_⟩)⟩
      rw [hz.trans v11, hy.trans v13, show (i : Int) + 1 = ((i + 1 : Nat) : Int) by omega]
      exact ⟨i32s (by omega) (by omega), fun _ => ih (i + 1) M5 (by omega) (by omega) h5, fun q => absurd (by omega) q⟩
    | succ u ih2 =>
      intro j M5 j0 hj h5
      have o5 := h5.1
      have w5 := h5.2.1
      obtain ⟨l11, l13, l15⟩ := h5.2.2.2.1.2.2.1
      obtain ⟨v11, v13, -, -, -⟩ := h5.2.2.2.1.2.2.2.1 i iL
      obtain ⟨j1, j2, j3, j4, j5, j6⟩ := h5.2.2.2.1.2.2.2.2 j (by omega)
      have bj : ((0 : Int) ≤ (j : Int) ∧ (j : Int) < ((4096 : Nat) : Int)) := by omega
      refine k_MM_tellState_61 o5 ik ii (i32s (by omega) (by omega)) ⟨w5.1.1, ?_⟩
      rw [(R6 w5).2.2.2.1]
      refine ⟨(w5.nu k111).1, rd o5 w5 k111 (by rw [l11]; omega) (fun z hz iz => ⟨iz, o5, w5.1.1, ?_⟩)⟩
      rw [(R6 w5).2.2.2.2.1]
      refine ⟨(w5.nu k113).1, rd o5 w5 k113 (by rw [l13]; omega) (fun y hy iy => ⟨iy, o5, ?_⟩)⟩
      rw [hz.trans v11, hy.trans v13, (pr w5).1, (pr w5).2.1, (pr w5).2.2, (R6 w5).2.2.2.2.2.2, Int.toNat_natCast, j1, j2, j3]
      refine ⟨i32s (by omega) (by omega), fun q => absurd q (by omega), fun _ => ⟨w5.1.1, (ar w5).1.1, by rw [(ar w5).1.2]; exact bj, (ar w5).2.1.1, by rw [(ar w5).2.1.2]; exact bj, (ar w5).2.2.1, by rw [(ar w5).2.2.2]; exact bj, h5.2.2.2.2.1.1.1, (s_tl_branch o5 h5.2.2.2.2 (by omega) (by omega) j4 j5 j6).mono (fun M6 t6 => ⟨t6.1, ?_⟩)⟩⟩
      have h6 := h5.st t6.1 t6.2.1 t6.2.2
      rw [show (j : Int) + 1 = ((j + 1 : Nat) : Int) by omega]
      exact ih2 (j + 1) M6 (by omega) (by omega) h6
end TEL
end
section
/-! The reference: explore, its beginning and its end. -/
section EXP
variable {G : mG} {d a g T R W C Z n L w : Nat} {M M2 M' : mM} {E : Eg9} {tg : Int} {B F : Nat → Nat} {Nt9 : tP9}
/-- nothing is told -/
theorem tl_zero {s : Nat} {mu to up dn : Nat → Int} (h : Sv M s 0) (h2 : mI M s 2 = 0) (h3 : mI M s 3 = 0) (h5 : ∀ w, w < 3 → mI M (s + 30) w = 0) (h11 : 11 ≤ s) : TL M s F B mu to up dn 0 0 0 := by
  obtain ⟨V, g, c, e, t, Wk', Ct', R', H, hc⟩ := h
  exact ⟨⟨V, Wk', Ct', R', h5⟩, ⟨e, h2, h3⟩, ⟨fun j hj => absurd hj (by omega), g.2.2.2.2.1⟩, ⟨fun j hj => absurd hj (by omega), g.2.2.2.2.2.1⟩, fun j hj => absurd hj (by omega), fun j hj => absurd hj (by omega), fun j hj => absurd hj (by omega), h11, fun j hj => absurd hj (by omega)⟩
/-- a call that leaves what was explored -/
def FX (M : mM) (a : Nat) (M' : mM) : Prop := FR M a M' ∧ xeF M M' a ∧ mI M' a 12 = mI M a 12 ∧ mI M' (a + 117 + 30) 0 = mI M (a + 117 + 30) 0
/-- all but whether values are worked out -/
def FX0 (M : mM) (a : Nat) (M' : mM) : Prop := FR M a M' ∧ xeF M M' a ∧ mI M' a 12 = mI M a 12
theorem FX0.fx (h : FX0 M a M') (k : mI M' (a + 117 + 30) 0 = mI M (a + 117 + 30) 0) : FX M a M' := ⟨h.1, h.2.1, h.2.2, k⟩
theorem FX.trans {M2 : mM} (h : FX M a M') (k : FX M' a M2) : FX M a M2 := ⟨h.1.trans k.1, h.2.1.trans k.2.1, k.2.2.1.trans h.2.2.1, k.2.2.2.trans h.2.2.2⟩
theorem RI0.step {j : Nat} {v : Int} (h : RI0 Nt9 M a) (hv : i32 v) (hj : j ≠ 11 ∧ j ≠ 29 ∧ j ≠ 48) (e : M' = mUI M a j v) (h0 : j < 12 := by decide) : RI0 Nt9 M' a ∧ FX M a M' ∧ (∀ i, mI M' a i = if i = j then v else mI M a i) := by
  obtain ⟨hO, w, ht, hx⟩ := h
  have hg := w.g9
  have p0 : pk M a (mR M a 9) M := ⟨hO, w, ra_mv (P := fun _ => False) (S := fun _ => False) w hg (Mv.refl hO w (fun _ z => z.elim)) (fun _ z => z.elim) (fun _ z => z.elim) (fun _ z => z.elim) ⟨rfl, rfl, rfl, rfl, rfl⟩, FR.mv (P := fun _ => False) (S := fun _ => False) (Mv.refl hO w (fun _ z => z.elim)) (fun _ z => z.elim) (fun _ z => z.elim)⟩
  obtain ⟨p2, f2, r2, s2⟩ := p0.fld hg hv ⟨hj.1, hj.2.1, hj.2.2, by omega, by omega⟩ e
  have tp := w.tape
  refine ⟨⟨p2.1, p2.2.1, ⟨by rw [r2]; exact ht.1.sm (s2 _ tp.1), by rw [r2, (s2 _ tp.2.1).1]; exact ht.2⟩, ?_⟩, ⟨p2.2.2.2, p2.2.2.1.2.2.2.2.2.2.2, by rw [f2, if_neg (by omega)], by rw [(p2.2.2.1.2.1 (a + 117 + 30) (by omega) (by omega)).2.2.2]⟩, f2⟩
  rw [r2]
  exact hx.ra p2.2.2.1
/-- the tables, as the solver will be told them -/
theorem XD.tt (h : XD M a g n W L w L B) (hw : B L = w) (hF : F 0 = 0 ∧ F n = L ∧ ∀ k, k < n → F k ≤ F (k + 1) ∧ mI M (a + 107) k = (F k : Int) ∧ mI M (a + 108) k = ((F (k + 1) - F k : Nat) : Int)) : TT M a n L w F B (nt M (a + 115)) (mI M (a + 21185)) (mL M (a + 21186)) (mL M (a + 21187)) := by
  have hL := h.le
  have mB := h.mono
  have mF : ∀ k, k ≤ n → F k ≤ L := fun k hk => by
    have : ∀ j, j ≤ n - k → F k ≤ F (k + j) := fun j => by
      induction j with
      | zero => intro _; exact Nat.le_refl _
      | succ j ih =>
        intro hj
        have a1 := ih (by omega)
        have a2 := (hF.2.2 (k + j) (by omega)).1
        have e : k + (j + 1) = k + j + 1 := by omega
        rw [e]
        omega
    have := this (n - k) (Nat.le_refl _)
    rw [show k + (n - k) = n by omega, hF.2.1] at this
    exact this
  obtain ⟨d1, d2, d3, d4, ⟨l1, l2, l3, l4⟩, d6, d7⟩ := h
  refine ⟨⟨d1.2.2, hL, d2.2⟩, ⟨hF.2.1, fun k hk => ⟨(hF.2.2 k hk).2.1, (hF.2.2 k hk).2.2, (hF.2.2 k hk).1, mF (k + 1) (by omega)⟩⟩, ⟨l2, l3, l4⟩, fun i hi => ?_, fun j hj => ?_⟩
  · obtain ⟨o1, o2, o3, o4, o5⟩ := d7 i hi
    have := mB (i + 1) L (by omega) (Nat.le_refl _)
    exact ⟨o2.1, o2.2, by omega, by omega, rfl⟩
  · obtain ⟨y1, y2, y3⟩ := d4 j hj
    exact ⟨rfl, rfl, rfl, ⟨by omega, by omega⟩, ⟨by omega, by omega⟩, ⟨by omega, by omega⟩⟩
/-- all states are told -/
theorem exp_sv {mu to up dn : Nat → Int} (h : XD M a g n W L w L B) (hw : B L = w) (hF : F 0 = 0 ∧ F n = L ∧ ∀ k, k < n → F k ≤ F (k + 1) ∧ mI M (a + 107) k = (F k : Int) ∧ mI M (a + 108) k = ((F (k + 1) - F k : Nat) : Int)) (e1 : mu = nt M (a + 115)) (e2 : to = mI M (a + 21185)) (e3 : up = mL M (a + 21186)) (e4 : dn = mL M (a + 21187)) (t : TL M2 (a + 117) F B mu to up dn n L w) : Sv M2 (a + 117) n ∧ ∀ k, k < n → mny M2 (a + 117) k = ((F (k + 1) - F k : Nat) : Int) := by
  subst e1 e2 e3 e4
  have hL := h.le
  have mB := h.mono
  obtain ⟨d1, d2, d3, d4, ⟨l1, l2, l3, l4⟩, d6, d7⟩ := id h
  refine t.sv d1.2.2 (by omega) d2.2 ⟨hF.1, hF.2.1, fun k hk => (hF.2.2 k hk).1⟩ ⟨d6.1, hw, fun k hk => (d7 k hk).1⟩ (fun j hj => (d4 j hj).1) (fun k hk => (d7 k hk).2.2.1) (fun j hj => ⟨(d4 j hj).2.1.1, (d4 j hj).2.2.1⟩) (fun k hk j j0 j1 => (d7 k hk).2.2.2.1 j j0 j1) (fun k hk => (d7 k hk).2.2.2.2)
/-- the states after the loop -/
def pI (M : mM) (a g T R W C Z : Nat) (E : Eg9) (tg : Int) (k : Nat) (M2 : mM) : Prop := xF M a M2 ∧ GG M2 a g T R W C Z E tg ∧ (mI M2 a 16 = 0 → ∃ (n L w : Nat) (B F : Nat → Nat), XD M2 a g n W L w L B ∧ B L = w ∧ k ≤ n ∧ (F 0 = 0 ∧ F k = L ∧ ∀ k', k' < k → F k' ≤ F (k' + 1) ∧ mI M2 (a + 107) k' = (F k' : Int) ∧ mI M2 (a + 108) k' = ((F (k' + 1) - F k' : Nat) : Int)))
theorem pI.next {k : Nat} {M3 : mM} (x : xF M a M2) (h : sI M2 a g T R W C Z E tg n L k B M3) (xd : XD M2 a g n W L w L B) (hw : B L = w) (hk : k < n) (hF : F 0 = 0 ∧ F k = L ∧ ∀ k', k' < k → F k' ≤ F (k' + 1) ∧ mI M2 (a + 107) k' = (F k' : Int) ∧ mI M2 (a + 108) k' = ((F (k' + 1) - F k' : Nat) : Int)) : pI M a g T R W C Z E tg (k + 1) M3 := by
  obtain ⟨x3, gg3, en3, hh⟩ := h
  refine ⟨x.trans x3, gg3, fun z => ?_⟩
  obtain ⟨⟨t1, t2⟩, n2, L2, w2, B2, y1, y2, y3, y4, y5, y6⟩ := hh z
  obtain ⟨F', hF'⟩ : ∃ F' : Nat → Nat, ∀ i, F' i = if i ≤ k then F i else L2 := ⟨fun i => if i ≤ k then F i else L2, fun _ => rfl⟩
  have fl : ∀ i, i ≤ k → F' i = F i := fun i hi => by rw [hF', if_pos hi]
  have fk : F' (k + 1) = L2 := by rw [hF', if_neg (by omega)]
  refine ⟨n2, L2, w2, B2, F', y6, y5, by omega, by rw [fl 0 (by omega)]; exact hF.1, fk, fun k' hk' => ?_⟩
  by_cases e : k' = k
  · subst e
    rw [fk, fl k' (Nat.le_refl _), hF.2.1]
    exact ⟨y2, t1, y3⟩
  · rw [fl k' (by omega), fl (k' + 1) (by omega), (t2 k' e).1, (t2 k' e).2]
    exact hF.2.2 k' (by omega)
end EXP
end
