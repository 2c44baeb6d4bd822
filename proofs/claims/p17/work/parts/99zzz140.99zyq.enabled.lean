section
/-! The reference: an enabled command, its ways. -/
section ENB
variable {G : mG} {d a g T R W C Z n L w0 k : Nat} {M M2 M' : mM} {E : Eg9} {tg mul : Int} {B : Nat → Nat}
/-- a command has been explored in state k -/
def enQ (M : mM) (a g T R W C Z : Nat) (E : Eg9) (tg : Int) (n L k : Nat) (B : Nat → Nat) (M' : mM) : Prop := xF M a M' ∧ GG M' a g T R W C Z E tg ∧ En M' a g R W ∧ mI M' (a + 107) = mI M (a + 107) ∧ (∀ k', k' ≠ k → mI M' (a + 108) k' = mI M (a + 108) k') ∧ (mI M' a 16 ≠ 0 ∨ (mI M' a 16 = 0 ∧ mI M' (a + 108) k = mI M (a + 108) k + 1 ∧ ∃ (n' w' : Nat) (B' : Nat → Nat), n ≤ n' ∧ (∀ i, i ≤ L → B' i = B i) ∧ B' (L + 1) = w' ∧ XD M' a g n' W (L + 1) w' (L + 1) B'))
/-- the command is complete -/
theorem Op.close {n' w' : Nat} (h : XD M' a g n' W L w' (L + 1) B) (hw0 : B L = w0) (op : Op M' a L w0 w' mul mul) (h8 : w' ≤ w0 + 8) : ∃ B' : Nat → Nat, (∀ i, i ≤ L → B' i = B i) ∧ B' (L + 1) = w' ∧ XD M' a g n' W (L + 1) w' (L + 1) B' := by
  obtain ⟨p1, p2, p3, p4, p5⟩ := op
  have ne : w0 < w' := by
    by_cases z : w0 < w'
    · exact z
    · rw [show w' - w0 = 0 by first | rfl | omega] at p5
      have : (0 : Int) = mul := p5
      omega
  obtain ⟨B', hB⟩ : ∃ B' : Nat → Nat, ∀ i, B' i = if i ≤ L then B i else w' := ⟨fun i => if i ≤ L then B i else w', fun _ => rfl⟩
  have bl : ∀ i, i ≤ L → B' i = B i := fun i hi => by rw [hB, if_pos hi]
  have bL : B' (L + 1) = w' := by rw [hB, if_neg (by omega)]
  refine ⟨B', bl, bL, ?_⟩
  obtain ⟨h1, h2, h3, h4, h5, h6, h7⟩ := h
  refine ⟨h1, h2, h3, h4, h5, ⟨by rw [bl 0 (by omega)]; exact h6.1, by rw [bL]; exact Nat.le_refl _, Nat.le_refl _⟩, fun i hi => ?_⟩
  by_cases z : i = L
  · subst z
    unfold okc
    rw [bL, bl i (Nat.le_refl _), hw0, p2.2.2]
    exact ⟨⟨ne, h8⟩, ⟨p2.1, p2.2.1⟩, p3, p4, p5⟩
  · have := h7 i (by omega)
    unfold okc at this ⊢
    rw [bl i (by omega), bl (i + 1) (by omega)]
    exact this
/-- inside the loop over the branches -/
def eI (M : mM) (a g T R W C Z : Nat) (E : Eg9) (tg : Int) (n L w0 k : Nat) (mul : Int) (B : Nat → Nat) (cA cD : Nat → Int) (b : Nat) (M2 : mM) : Prop := xF M a M2 ∧ GG M2 a g T R W C Z E tg ∧ En M2 a g R W ∧ (mI M2 (a + 107) = mI M (a + 107) ∧ (∀ k', k' ≠ k → mI M2 (a + 108) k' = mI M (a + 108) k') ∧ mI M2 (a + 108) k = mI M (a + 108) k + 1) ∧ (mI M2 a 16 = 0 → (mL M2 (a + 21189) = cA ∧ mL M2 (a + 21190) = cD) ∧ ∃ n2 w2 : Nat, n ≤ n2 ∧ XD M2 a g n2 W L w2 (L + 1) B ∧ Op M2 a L w0 w2 mul (sm (fun b' => cA b' * (mul / cD b')) b) ∧ w2 ≤ w0 + b)
end ENB
end
section
/-! The reference: enabled. -/
section ENB2
variable {G : mG} {d a g T R W C Z n L w k : Nat} {M M2 M3 : mM} {E : Eg9} {tg mul : Int} {B : Nat → Nat}
/-- before the command is put down -/
def eB (M : mM) (a g T R W C Z : Nat) (E : Eg9) (tg : Int) (n L w : Nat) (B : Nat → Nat) (M2 : mM) : Prop := xF M a M2 ∧ GG M2 a g T R W C Z E tg ∧ En M2 a g R W ∧ XD M2 a g n W L w L B ∧ mI M2 (a + 107) = mI M (a + 107) ∧ mI M2 (a + 108) = mI M (a + 108)
end ENB2
end
section
/-! The reference: enabled, to its end. -/
section ENB3
variable {G : mG} {d a g T R W C Z n L w k : Nat} {M M2 M3 : mM} {E : Eg9} {tg mul : Int} {B : Nat → Nat}
theorem XD.le {Ln : Nat} (h : XD M a g n W L w Ln B) : L ≤ 4096 := by
  have := h.mono 0 L (by omega) (Nat.le_refl _)
  have := h.2.2.2.2.2.1
  have := h.2.1.2
  omega
theorem sm_bd {f : Nat → Int} {c : Int} : ∀ (m : Nat), (∀ t, t < m → 0 ≤ f t ∧ f t ≤ c) → 0 ≤ sm f m ∧ sm f m ≤ m * c
  | 0, _ => ⟨Int.le_refl 0, by show (0 : Int) ≤ ((0 : Nat) : Int) * c; rw [show ((0 : Nat) : Int) = 0 from rfl, Int.zero_mul]; exact Int.le_refl 0⟩
  | m + 1, h => by
    have a := sm_bd m (fun t ht => h t (by omega))
    have b := h m (by omega)
    refine ⟨?_, ?_⟩
    · show 0 ≤ sm f m + f m
      omega
    · show sm f m + f m ≤ ((m + 1 : Nat) : Int) * c
      rw [show ((m + 1 : Nat) : Int) * c = (m : Int) * c + c by rw [Int.natCast_add, Int.add_mul]; show (m : Int) * c + 1 * c = _; rw [Int.one_mul]]
      omega
theorem en_stop {c p : Int} (h : eB M a g T R W C Z E tg n L w B M2) (hc : c ≠ 0) (q : Mv (fun _ => False) (fun x => x = a) M2 a M3 ∧ mI M3 a 16 = c ∧ mI M3 a 17 = p ∧ ∀ i, i ≠ 16 → i ≠ 17 → mI M3 a i = mI M2 a i) : enQ M a g T R W C Z E tg n L k B M3 := by
  obtain ⟨x1, gg, en, xd, t107, t108⟩ := h
  have w2 := gg.2.1
  have hg := gg.2.2.1.2
  have no : ∀ q : Nat, False → q ∈ nums a := fun _ z => z.elim
  have F : xF M2 a M3 := xF.mk w2 q.1 (fun _ z => z.elim) (fun x z => Or.inl z) (fun i i1 i2 _ _ _ => q.2.2.2 i i1 i2)
  have gs := F.gs w2 hg
  have c7 := (q.1.cellL w2 no (offx (a := a) (o := 107) (by decide)) (by omega)).1
  have c8 := (q.1.cellL w2 no (offx (a := a) (o := 108) (by decide)) (by omega)).1
  exact ⟨x1.trans F, gg.gs q.1.1 q.1.2.1 (by rw [q.1.rfl_a w2 no]) gs, en.mv w2 q.1 no gs (fun x z => by omega), by rw [c7]; exact t107, fun k' _ => by rw [c8, t108], Or.inl (by rw [q.2.1]; exact hc)⟩
end ENB3
end
section
/-! The reference: enabled, and a state. -/
section STA
variable {G : mG} {d a g T R W C Z n L w k : Nat} {M M2 M3 : mM} {E : Eg9} {tg : Int} {B : Nat → Nat}
/-- a state's commands so far -/
def sI (M : mM) (a g T R W C Z : Nat) (E : Eg9) (tg : Int) (n L k : Nat) (B : Nat → Nat) (M2 : mM) : Prop := xF M a M2 ∧ GG M2 a g T R W C Z E tg ∧ En M2 a g R W ∧ (mI M2 a 16 = 0 → (mI M2 (a + 107) k = (L : Int) ∧ (∀ k', k' ≠ k → mI M2 (a + 107) k' = mI M (a + 107) k' ∧ mI M2 (a + 108) k' = mI M (a + 108) k')) ∧ ∃ (n2 L2 w2 : Nat) (B2 : Nat → Nat), n ≤ n2 ∧ L ≤ L2 ∧ mI M2 (a + 108) k = ((L2 - L : Nat) : Int) ∧ (∀ i, i ≤ L → B2 i = B i) ∧ B2 L2 = w2 ∧ XD M2 a g n2 W L2 w2 L2 B2)
end STA
end
section
/-! The reference: a state is explored. -/
section STB
variable {G : mG} {d a g T R W C Z n L w k : Nat} {M : mM} {E : Eg9} {tg : Int} {B : Nat → Nat}
end STB
end
section
/-! The reference: the solver is told. -/
section TOL
variable {G : mG} {d s i c b : Nat} {M M' : mM} {F B : Nat → Nat} {mu to up dn : Nat → Int}
abbrev tlS (s : Nat) : Nat → Prop := fun y => y = s ∨ (s + 22 ≤ y ∧ y ≤ s + 28) ∨ y = s + 32
/-- the solver's room, with no values -/
def Rs (M : mM) (s : Nat) : Prop := Vk M s ∧ Wk M s ∧ Ct M s ∧ (∀ e, eL e → Rm M s e) ∧ ∀ w, w < 3 → mI M (s + 30) w = 0
theorem Rs.fi (h : Rs M s) (f : FI (tlS s) M M') : Rs M' s := by
  obtain ⟨h1, h2, h3, h4, h5⟩ := h
  have un : ∀ y, tlS s y → y = s ∨ (s + 22 ≤ y ∧ y ≤ s + 28) ∨ y = s + 32 := fun y hy => hy
  refine ⟨h1.fi f, h2.far f (fun y q => by have := un y q; omega), h3.out f (fun y q => by have := un y q; omega), fun e he => (h4 e he).out f (fun y q => by have := un y q; omega), fun w hw => ?_⟩
  rw [f.2.2.2.2.2.2 (s + 30) (fun q => by have := un _ q; omega)]
  exact h5 w hw
/-- i states, c commands and b branches have been told -/
def TL (M : mM) (s : Nat) (F B : Nat → Nat) (mu to up dn : Nat → Int) (i c b : Nat) : Prop := Rs M s ∧ (mI M s 1 = (i : Int) ∧ mI M s 2 = (c : Int) ∧ mI M s 3 = (b : Int)) ∧ ((∀ j, j < i → mI M (s + 23) j = (F j : Int)) ∧ mI M (s + 23) i = (c : Int)) ∧ ((∀ j, j < c → mI M (s + 25) j = (B j : Int)) ∧ mI M (s + 25) c = (b : Int)) ∧ (∀ j, j < c → mI M (s + 24) j = mu j) ∧ (∀ j, j < b → mI M (s + 26) j = to j ∧ mI M (s + 27) j = up j ∧ mI M (s + 28) j = dn j) ∧ (∀ j, j < i → mI M (s + 32) j = 0) ∧ 11 ≤ s ∧ ∀ j, j < i → mI M (s + 22) j = mI M (s - 11) j
theorem s_tl_state {q : Int} (hq : i32 q) (hO : mOk M) (h : TL M s F B mu to up dn i c b) (hi : i < 512) (hc : c = F i) (hq9 : q = mI M (s - 11) i) : Cv G y_MS_addState d [vr s, vi q] M (fun M' => mOk M' ∧ FI (tlS s) M M' ∧ TL M' s F B mu to up dn (i + 1) c b) := by
  obtain ⟨r, ⟨n1, n2, n3⟩, ⟨f1, f2⟩, ⟨b1, b2⟩, m1, w1, t1, u1, u2⟩ := h
  refine (s_MS_addState hq hO r.1 n1 hi).mono (fun M' t => ?_)
  obtain ⟨o, f, e1, e2, e3, e4⟩ := t
  have f' : FI (tlS s) M M' := f.mono (fun y z => by show y = s ∨ (s + 22 ≤ y ∧ y ≤ s + 28) ∨ y = s + 32; omega)
  have keep : ∀ x, (x = s + 24 ∨ x = s + 25 ∨ x = s + 26 ∨ x = s + 27 ∨ x = s + 28) → mI M' x = mI M x := fun x hx => f.2.2.2.2.2.2 x (by omega)
  refine ⟨o, f', r.fi f', ⟨by rw [e1, if_pos rfl]; omega, by rw [e1, if_neg (by omega)]; exact n2, by rw [e1, if_neg (by omega)]; exact n3⟩, ⟨fun j hj => ?_, by rw [e4, if_pos rfl]; exact n2⟩, by rw [keep (s + 25) (by omega)]; exact ⟨b1, b2⟩, by rw [keep (s + 24) (by omega)]; exact m1, by rw [keep (s + 26) (by omega), keep (s + 27) (by omega), keep (s + 28) (by omega)]; exact w1, fun j hj => ?_, u1, fun j hj => ?_⟩
  · rw [e4, if_neg (by omega)]
    by_cases z : j = i
    · rw [z, f2, hc]
    · exact f1 j (by omega)
  · rw [e3]
    by_cases z : j = i
    · rw [if_pos z]
    · rw [if_neg z]; exact t1 j (by omega)
  · rw [e2, f.2.2.2.2.2.2 (s - 11) (by omega)]
    by_cases z : j = i
    · rw [if_pos z, z]; exact hq9
    · rw [if_neg z]; exact u2 j (by omega)
theorem s_tl_command (hO : mOk M) (h : TL M s F B mu to up dn i c b) (hi : i ≤ 512) (hc : c < 4200) (hb : b = B c) (hm : i32 (mu c)) : Cv G y_MS_addCommand d [vr s, vi (mu c)] M (fun M' => mOk M' ∧ FI (tlS s) M M' ∧ TL M' s F B mu to up dn i (c + 1) b) := by
  obtain ⟨r, ⟨n1, n2, n3⟩, ⟨f1, f2⟩, ⟨b1, b2⟩, m1, w1, t1, u1, u2⟩ := h
  refine (s_MS_addCommand hm hO r.1 n1 hi n2 hc).mono (fun M' t => ?_)
  obtain ⟨o, f, e1, e2, e3, e4⟩ := t
  have f' : FI (tlS s) M M' := f.mono (fun y z => by show y = s ∨ (s + 22 ≤ y ∧ y ≤ s + 28) ∨ y = s + 32; omega)
  have keep : ∀ x, (x = s + 26 ∨ x = s + 27 ∨ x = s + 28 ∨ x = s + 32) → mI M' x = mI M x := fun x hx => f.2.2.2.2.2.2 x (by omega)
  refine ⟨o, f', r.fi f', ⟨by rw [e1, if_neg (by omega)]; exact n1, by rw [e1, if_pos rfl]; omega, by rw [e1, if_neg (by omega)]; exact n3⟩, ⟨fun j hj => by rw [e4, if_neg (by omega)]; exact f1 j hj, by rw [e4, if_pos rfl]; omega⟩, ⟨fun j hj => ?_, by rw [e3, if_pos rfl]; exact n3⟩, fun j hj => ?_, by rw [keep (s + 26) (by omega), keep (s + 27) (by omega), keep (s + 28) (by omega)]; exact w1, by rw [keep (s + 32) (by omega)]; exact t1, u1, fun j hj => by rw [f.2.2.2.2.2.2 (s + 22) (by omega), f.2.2.2.2.2.2 (s - 11) (by omega)]; exact u2 j hj⟩
  · rw [e3, if_neg (by omega)]
    by_cases z : j = c
    · rw [z, b2, hb]
    · exact b1 j (by omega)
  · rw [e2]
    by_cases z : j = c
    · rw [if_pos z, z]
    · rw [if_neg z]; exact m1 j (by omega)
theorem s_tl_branch (hO : mOk M) (h : TL M s F B mu to up dn i c b) (hc : c ≤ 4200) (hb : b < 4096) (h1 : i32 (to b)) (h2 : i32 (up b)) (h3 : i32 (dn b)) : Cv G y_MS_addBranch d [vr s, vi (to b), vi (up b), vi (dn b)] M (fun M' => mOk M' ∧ FI (tlS s) M M' ∧ TL M' s F B mu to up dn i c (b + 1)) := by
  obtain ⟨r, ⟨n1, n2, n3⟩, ⟨f1, f2⟩, ⟨b1, b2⟩, m1, w1, t1, u1, u2⟩ := h
  refine (s_MS_addBranch h1 h2 h3 hO r.1 n2 hc n3 hb).mono (fun M' t => ?_)
  obtain ⟨o, f, e1, e2, e3, e4, e5⟩ := t
  have f' : FI (tlS s) M M' := f.mono (fun y z => by show y = s ∨ (s + 22 ≤ y ∧ y ≤ s + 28) ∨ y = s + 32; omega)
  have keep : ∀ x, (x = s + 23 ∨ x = s + 24 ∨ x = s + 32) → mI M' x = mI M x := fun x hx => f.2.2.2.2.2.2 x (by omega)
  refine ⟨o, f', r.fi f', ⟨by rw [e1, if_neg (by omega)]; exact n1, by rw [e1, if_neg (by omega)]; exact n2, by rw [e1, if_pos rfl]; omega⟩, by rw [keep (s + 23) (by omega)]; exact ⟨f1, f2⟩, ⟨fun j hj => by rw [e5, if_neg (by omega)]; exact b1 j hj, by rw [e5, if_pos rfl]; omega⟩, by rw [keep (s + 24) (by omega)]; exact m1, fun j hj => ?_, by rw [keep (s + 32) (by omega)]; exact t1, u1, fun j hj => by rw [f.2.2.2.2.2.2 (s + 22) (by omega), f.2.2.2.2.2.2 (s - 11) (by omega)]; exact u2 j hj⟩
  rw [e2, e3, e4]
  by_cases z : j = b
  · rw [if_pos z, if_pos z, if_pos z, z]
    exact ⟨rfl, rfl, rfl⟩
  · rw [if_neg z, if_neg z, if_neg z]
    exact w1 j (by omega)
/-- all has been told: the solver is sound -/
theorem TL.sv {n L w : Nat} (h : TL M s F B mu to up dn n L w) (hn : n ≤ 512) (hL : L ≤ 4200) (hw : w ≤ 4096) (hF : F 0 = 0 ∧ F n = L ∧ ∀ k, k < n → F k ≤ F (k + 1)) (hB : B 0 = 0 ∧ B L = w ∧ ∀ k, k < L → B k < B (k + 1) ∧ B (k + 1) ≤ B k + 8) (hto : ∀ j, j < w → 0 ≤ to j ∧ to j < n) (hmu : ∀ k, k < L → 1 ≤ mu k ∧ mu k < 1000000000) (hud : ∀ j, j < w → 0 < up j ∧ 0 < dn j) (hdv : ∀ k, k < L → ∀ j, B k ≤ j → j < B (k + 1) → dn j ∣ mu k) (hsm : ∀ k, k < L → sm (fun t => up (B k + t) * (mu k / dn (B k + t))) (B (k + 1) - B k) = mu k) : Sv M s n ∧ ∀ k, k < n → mny M s k = ((F (k + 1) - F k : Nat) : Int) := by
  obtain ⟨⟨r1, r2, r3, r4, r5⟩, ⟨n1, n2, n3⟩, ⟨f1, f2⟩, ⟨b1, b2⟩, m1, w1, t1, -⟩ := h
  have mono : ∀ (H : Nat → Nat) (N : Nat), (∀ k, k < N → H k ≤ H (k + 1)) → ∀ i j, i ≤ j → j ≤ N → H i ≤ H j := fun H N hH i j hij hj => by
    induction j with
    | zero => rw [show i = 0 by first | rfl | omega]; exact Nat.le_refl _
    | succ j ih =>
      by_cases z : i = j + 1
      · rw [z]; exact Nat.le_refl _
      · have := ih (by omega) (by omega)
        have := hH j (by omega)
        omega
  have fF := mono F n hF.2.2
  have fB := mono B L (fun k hk => Nat.le_of_lt (hB.2.2 k hk).1)
  have eF : ∀ j, j ≤ n → mI M (s + 23) j = (F j : Int) := fun j hj => by
    by_cases z : j = n
    · rw [z, f2, hF.2.1]
    · exact f1 j (by omega)
  have eB : ∀ j, j ≤ L → mI M (s + 25) j = (B j : Int) := fun j hj => by
    by_cases z : j = L
    · rw [z, b2, hB.2.1]
    · exact b1 j (by omega)
  have my : ∀ k, k < n → mny M s k = ((F (k + 1) - F k : Nat) : Int) := fun k hk => by
    unfold mny
    rw [eF (k + 1) (by omega), eF k (by omega)]
    have := hF.2.2 k hk
    omega
  refine ⟨⟨r1, ⟨by omega, by omega, by omega, by omega, by rw [eF 0 (by omega), hF.1]; rfl, by rw [eB 0 (by omega), hB.1]; rfl, fun i j hij hj => ?_, by rw [n1, Int.toNat_natCast, eF n (Nat.le_refl _), hF.2.1, n2], fun i j hij hj => ?_, by rw [n2, Int.toNat_natCast, eB L (Nat.le_refl _), hB.2.1, n3], fun j hj => ?_⟩, fun k hk => ?_, n1, fun k hk => ?_, r2, r3, r4, fun v hv => ⟨Or.inl (r5 v hv), fun q => by rw [r5 v hv] at q; exact absurd q (by decide)⟩, fun q => by rw [r5 0 (by omega)] at q; exact absurd q (by decide)⟩, my⟩
  · rw [eF i (by omega), eF j (by omega)]
    have := fF i j hij (by omega)
    omega
  · rw [eB i (by omega), eB j (by omega)]
    have := fB i j hij (by omega)
    omega
  · rw [(w1 j (by omega)).1, n1]
    exact hto j (by omega)
  · have kL : k < L := by omega
    have bk := hB.2.2 k kL
    have bw := fB (k + 1) L (by omega) (Nat.le_refl _)
    have e1 : nb M s k = B (k + 1) - B k := by unfold nb; rw [eB (k + 1) (by omega), eB k (by omega)]; omega
    have e2 : bg M s k = B k := by unfold bg; rw [eB k (by omega)]; omega
    rw [e1, e2, m1 k kL]
    refine ⟨⟨(hmu k kL).1, (hmu k kL).2, by omega⟩, fun t ht => ?_, ?_⟩
    · have := w1 (B k + t) (by omega)
      rw [this.2.1, this.2.2]
      exact ⟨(hud _ (by omega)).1, (hud _ (by omega)).2, hdv k kL _ (by omega) (by omega)⟩
    · refine Eq.trans (sm_congr _ (fun t ht => ?_)) (hsm k kL)
      have := w1 (B k + t) (by omega)
      show mI M (s + 27) (B k + t) * (mu k / mI M (s + 28) (B k + t)) = up (B k + t) * (mu k / dn (B k + t))
      rw [this.2.1, this.2.2]
  · have kn : k < n := by omega
    rw [t1 k kn]
    exact ⟨Int.le_refl _, fun q => q⟩
end TOL
end
section
/-! The reference: tellState. -/
section TEL
variable {G : mG} {d a n L w k : Nat} {M M2 : mM} {F B : Nat → Nat} {mu to up dn : Nat → Int}
/-- the tables of what was explored -/
def TT (M : mM) (a n L w : Nat) (F B : Nat → Nat) (mu to up dn : Nat → Int) : Prop := (n ≤ 512 ∧ L ≤ 4096 ∧ w ≤ 4096) ∧ (F n = L ∧ ∀ k, k < n → mI M (a + 107) k = (F k : Int) ∧ mI M (a + 108) k = ((F (k + 1) - F k : Nat) : Int) ∧ F k ≤ F (k + 1) ∧ F (k + 1) ≤ L) ∧ (ln M (a + 111) = (L : Int) ∧ ln M (a + 113) = (L : Int) ∧ ln M (a + 115) = (L : Int)) ∧ (∀ i, i < L → nt M (a + 111) i = (B i : Int) ∧ nt M (a + 113) i = ((B (i + 1) - B i : Nat) : Int) ∧ B i ≤ B (i + 1) ∧ B (i + 1) ≤ w ∧ nt M (a + 115) i = mu i) ∧ ∀ j, j < w → mI M (a + 21185) j = to j ∧ mL M (a + 21186) j = up j ∧ mL M (a + 21187) j = dn j ∧ i32 (to j) ∧ i32 (up j) ∧ i32 (dn j)
theorem tl_vF {s y : Nat} (h : tlS s y) : vF s y := by
  have h' : y = s ∨ (s + 22 ≤ y ∧ y ≤ s + 28) ∨ y = s + 32 := h
  show s ≤ y ∧ y ≤ s + 21067
  omega
theorem TT.mv {P S : Nat → Prop} {M' : mM} (h : TT M a n L w F B mu to up dn) (wd : Wd M a) (m : Mv P S M a M') (hin : ∀ q, P q → q ∈ nums a) (hP : ∀ q, P q → q ≠ a + 111 ∧ q ≠ a + 113 ∧ q ≠ a + 115) (hS : ∀ x, S x → x ≠ a + 107 ∧ x ≠ a + 108 ∧ x ≠ a + 21185 ∧ x ≠ a + 21186 ∧ x ≠ a + 21187) : TT M' a n L w F B mu to up dn := by
  have c7 := (m.cellL wd hin (offx (a := a) (o := 107) (by decide)) (fun z => (hS _ z).1 rfl)).1
  have c8 := (m.cellL wd hin (offx (a := a) (o := 108) (by decide)) (fun z => (hS _ z).2.1 rfl)).1
  have c85 := (m.cellL wd hin (offx (a := a) (o := 21185) (by decide)) (fun z => (hS _ z).2.2.1 rfl)).1
  have c86 := (m.cellL wd hin (offx (a := a) (o := 21186) (by decide)) (fun z => (hS _ z).2.2.2.1 rfl)).2
  have c87 := (m.cellL wd hin (offx (a := a) (o := 21187) (by decide)) (fun z => (hS _ z).2.2.2.2 rfl)).2
  have s11 := m.lst (k111 (a := a)) (fun z => (hP _ z).1 rfl)
  have s13 := m.lst (k113 (a := a)) (fun z => (hP _ z).2.1 rfl)
  have s15 := m.lst (k115 (a := a)) (fun z => (hP _ z).2.2 rfl)
  obtain ⟨h1, h2, h3, h4, h5⟩ := h
  refine ⟨h1, by rw [c7, c8]; exact h2, by rw [s11.1, s13.1, s15.1]; exact h3, fun i hi => ?_, by rw [c85, c86, c87]; exact h5⟩
  rw [s11.2.1, s13.2.1, s15.2.1]
  exact h4 i hi
/-- the reference while it tells -/
def tI (M : mM) (a n L w : Nat) (F B : Nat → Nat) (mu to up dn : Nat → Int) (i c b : Nat) (M2 : mM) : Prop := mOk M2 ∧ Wd M2 a ∧ FI (vF (a + 117)) M M2 ∧ TT M2 a n L w F B mu to up dn ∧ TL M2 (a + 117) F B mu to up dn i c b
theorem tI.st {i c b i' c' b' : Nat} {M3 : mM} (h : tI M a n L w F B mu to up dn i c b M2) (o : mOk M3) (f : FI (tlS (a + 117)) M2 M3) (t : TL M3 (a + 117) F B mu to up dn i' c' b') : tI M a n L w F B mu to up dn i' c' b' M3 := by
  have f' : FI (vF (a + 117)) M2 M3 := f.mono (fun y z => tl_vF z)
  have m := mv_sol o h.2.1 f'
  exact ⟨o, m.2.1, h.2.2.1.trans f', h.2.2.2.1.mv h.2.1 m (fun _ z => z.elim) (fun _ z => z.elim) (fun x z => by
    have z' : a + 117 ≤ x ∧ x ≤ a + 117 + 21067 := z
    omega), t⟩
theorem s_MM_tellState (h : tI M a n L w F B mu to up dn k (F k) (B (F k)) M2) (hk : k < n) (hmu : ∀ i, i < L → i32 (mu i)) : Cv G y_MM_tellState (d + 1) [vr a, vi k] M2 (fun M' => mOk M' ∧ tI M a n L w F B mu to up dn (k + 1) (F (k + 1)) (B (F (k + 1))) M') := by
  have R6 : ∀ {Mx : mM}, Wd Mx a → mR Mx a 32 = a + 106 ∧ mR Mx a 33 = a + 107 ∧ mR Mx a 34 = a + 108 ∧ mR Mx a 36 = a + 111 ∧ mR Mx a 37 = a + 113 ∧ mR Mx a 38 = a + 115 ∧ mR Mx a 39 = a + 117 := fun w => ⟨w.1.2.2.2.2.2.1.2.1, w.1.2.2.2.2.2.1.2.2.1, w.1.2.2.2.2.2.1.2.2.2.1, w.1.2.2.2.2.2.1.2.2.2.2.2.1, w.1.2.2.2.2.2.1.2.2.2.2.2.2.1, w.1.2.2.2.2.2.1.2.2.2.2.2.2.2.1, w.1.2.2.2.2.2.1.2.2.2.2.2.2.2.2⟩
  have A6 : ∀ {Mx : mM}, Wd Mx a → (mK Mx (a + 106) = 30 ∧ mN Mx (a + 106) = 512) ∧ (mK Mx (a + 107) = 30 ∧ mN Mx (a + 107) = 512) ∧ (mK Mx (a + 108) = 30 ∧ mN Mx (a + 108) = 512) := fun w => ⟨w.1.2.2.2.2.2.2.2.2.1.2.1, w.1.2.2.2.2.2.2.2.2.1.2.2.1, w.1.2.2.2.2.2.2.2.2.1.2.2.2⟩
  have pr : ∀ {Mx : mM}, Wd Mx a → (mR Mx a 41 = a + 21185 ∧ mR Mx a 42 = a + 21186 ∧ mR Mx a 43 = a + 21187) := fun w => ⟨w.1.2.2.2.2.2.2.1.1, w.1.2.2.2.2.2.2.1.2.1, w.1.2.2.2.2.2.2.1.2.2.1⟩
  have ar : ∀ {Mx : mM}, Wd Mx a → ((mK Mx (a + 21185) = 30 ∧ mN Mx (a + 21185) = 4096) ∧ (mK Mx (a + 21186) = 33 ∧ mN Mx (a + 21186) = 4096) ∧ (mK Mx (a + 21187) = 33 ∧ mN Mx (a + 21187) = 4096)) := fun w => ⟨w.1.2.2.2.2.2.2.2.2.2.1.1, w.1.2.2.2.2.2.2.2.2.2.1.2.1, w.1.2.2.2.2.2.2.2.2.2.1.2.2.1⟩
  have hb := h.2.2.2.1.1
  have hFk := h.2.2.2.1.2.1.2 k hk
  have ik : i32 (k : Int) := i32s (by omega) (by omega)
  have b512 : ((0 : Int) ≤ (k : Int) ∧ (k : Int) < ((512 : Nat) : Int)) := by omega
  have hF1 := hFk.2.2.1
  have hF2 := hFk.2.2.2
  have rd : ∀ {Mx : mM} {p j : Nat} {Q : Int → mM → Prop}, mOk Mx → Wd Mx a → p ∈ nums a → (j : Int) < ln Mx p → (∀ z, z = nt Mx p j → i32 z → Q z Mx) → Ci G y_MN_at d [vr p, vi j] Mx Q := fun ox wx hp hk hQ => by
    refine (s_MN_at ox (wx.nu hp) hk).mono (fun z M1 e1 => ?_)
    obtain ⟨e1, hz⟩ := e1
    subst e1
    exact hQ z hz (by rw [hz]; exact (ox _ _).1)
  -- the commands from i on
  suffices H : ∀ (t i : Nat) (M3 : mM), F k ≤ i → i + t = F (k + 1) → tI M a n L w F B mu to up dn (k + 1) i (B i) M3 → h_MM_tellState_20 G d a k i M3 (fun M' => mOk M' ∧ tI M a n L w F B mu to up dn (k + 1) (F (k + 1)) (B (F (k + 1))) M') by
    have o2 := h.1
    have w2 := h.2.1
    refine k_MM_tellState o2 ik ⟨w2.1.1, ?_⟩
    rw [(R6 w2).1, (R6 w2).2.2.2.2.2.2, Int.toNat_natCast]
    refine ⟨(A6 w2).1.1, by rw [(A6 w2).1.2]; exact b512, h.2.2.2.2.1.1.1, (s_tl_state (o2 _ _).1 o2 h.2.2.2.2 (by omega) rfl (by rw [show a + 117 - 11 = a + 106 by first | rfl | omega])).mono (fun M3 t3 => ?_)⟩
    have h3 := h.st t3.1 t3.2.1 t3.2.2
    have w3 := h3.2.1
    have e7 := (h3.2.2.2.1.2.1.2 k hk).1
    rw [(R6 w3).2.1, e7]
    exact ⟨t3.1, w3.1.1, (A6 w3).2.1.1, by rw [(A6 w3).2.1.2]; exact b512, H (F (k + 1) - F k) (F k) M3 (Nat.le_refl _) (by omega) h3⟩
  intro t
  induction t with
  | zero =>
    intro i M3 i0 hi h3
    have ei : i = F (k + 1) := by omega
    subst ei
    have w3 := h3.2.1
    obtain ⟨e7, e8, -, -⟩ := h3.2.2.2.1.2.1.2 k hk
    refine k_MM_tellState_20 h3.1 ik (i32s (by omega) (by omega)) ⟨w3.1.1, ?_⟩
    rw [(R6 w3).2.1, (R6 w3).2.2.1, Int.toNat_natCast, e7, e8]
    exact ⟨(A6 w3).2.1.1, by rw [(A6 w3).2.1.2]; exact b512, (A6 w3).2.2.1, by rw [(A6 w3).2.2.2]; exact b512, i32s (by omega) (by omega), fun _ => ⟨h3.1, h3⟩, fun q => absurd (by omega) q⟩
  | succ t ih =>
    intro i M3 i0 hi h3
    have o3 := h3.1
    have w3 := h3.2.1
    obtain ⟨e7, e8, -, -⟩ := h3.2.2.2.1.2.1.2 k hk
    have iL : i < L := by omega
    obtain ⟨l11, l13, l15⟩ := h3.2.2.2.1.2.2.1
    obtain ⟨v11, v13, v1, v2, v15⟩ := h3.2.2.2.1.2.2.2.1 i iL
    have ii : i32 (i : Int) := i32s (by omega) (by omega)
    refine k_MM_tellState_20 o3 ik ii ⟨w3.1.1, ?_⟩
    rw [(R6 w3).2.1, (R6 w3).2.2.1, (R6 w3).2.2.2.2.2.1, (R6 w3).2.2.2.2.2.2, Int.toNat_natCast, e7, e8]
    refine ⟨(A6 w3).2.1.1, by rw [(A6 w3).2.1.2]; exact b512, (A6 w3).2.2.1, by rw [(A6 w3).2.2.2]; exact b512, i32s (by omega) (by omega), fun q => absurd q (by omega), fun _ => ⟨(w3.nu k115).1, rd o3 w3 k115 (by rw [l15]; omega) (fun z hz iz => ⟨iz, o3, h3.2.2.2.2.1.1.1, ?_⟩)⟩⟩
    rw [hz.trans v15]
    refine (s_tl_command o3 h3.2.2.2.2 (by omega) (by omega) rfl (hmu i iL)).mono (fun M4 t4 => ?_)
    have h4 := h3.st t4.1 t4.2.1 t4.2.2
    have o4 := h4.1
    have w4 := h4.2.1
    obtain ⟨l11', l13', l15'⟩ := h4.2.2.2.1.2.2.1
    obtain ⟨v11', v13', -, -, -⟩ := h4.2.2.2.1.2.2.2.1 i iL
    rw [(R6 w4).2.2.2.1]
    refine ⟨o4, w4.1.1, (w4.nu k111).1, rd o4 w4 k111 (by rw [l11']; omega) (fun z hz iz => ⟨iz, o4, ?_⟩)⟩
    rw [hz.trans v11']
    -- the ways from j on
    suffices H2 : ∀ (u j : Nat) (M5 : mM), B i ≤ j → j + u = B (i + 1) → tI M a n L w F B mu to up dn (k + 1) (i + 1) j M5 → h_MM_tellState_61 G d a k i j M5 (fun M' => mOk M' ∧ tI M a n L w F B mu to up dn (k + 1) (F (k + 1)) (B (F (k + 1))) M') from H2 (B (i + 1) - B i) (B i) M4 (Nat.le_refl _) (by omega) h4
    intro u
    induction u with
    | zero =>
      intro j M5 j0 hj h5
      have ej : j = B (i + 1) := by omega
      subst ej
      have o5 := h5.1
      have w5 := h5.2.1
      obtain ⟨l11, l13, l15⟩ := h5.2.2.2.1.2.2.1
      obtain ⟨v11, v13, -, -, -⟩ := h5.2.2.2.1.2.2.2.1 i iL
      refine k_MM_tellState_61 o5 ik ii (i32s (by omega) (by omega)) ⟨w5.1.1, ?_⟩
      rw [(R6 w5).2.2.2.1]
      refine ⟨(w5.nu k111).1, rd o5 w5 k111 (by rw [l11]; omega) (fun z hz iz => ⟨iz, o5, w5.1.1, ?_⟩)⟩
      rw [(R6 w5).2.2.2.2.1]
      refine ⟨(w5.nu k113).1, rd o5 w5 k113 (by rw [l13]; omega) (fun y hy iy => ⟨iy, o5, ?_⟩)⟩
      rw [hz.trans v11, hy.trans v13, show (i : Int) + 1 = ((i + 1 : Nat) : Int) by first | rfl | omega]
      exact ⟨i32s (by omega) (by omega), fun _ => ih (i + 1) M5 (by omega) (by omega) h5, fun q => absurd (by omega) q⟩
    | succ u ih2 =>
      intro j M5 j0 hj h5
      have o5 := h5.1
      have w5 := h5.2.1
      obtain ⟨l11, l13, l15⟩ := h5.2.2.2.1.2.2.1
      obtain ⟨v11, v13, -, -, -⟩ := h5.2.2.2.1.2.2.2.1 i iL
      obtain ⟨j1, j2, j3, j4, j5, j6⟩ := h5.2.2.2.1.2.2.2.2 j (by omega)
      have bj : ((0 : Int) ≤ (j : Int) ∧ (j : Int) < ((4096 : Nat) : Int)) := by omega
      refine k_MM_tellState_61 o5 ik ii (i32s (by omega) (by omega)) ⟨w5.1.1, ?_⟩
      rw [(R6 w5).2.2.2.1]
      refine ⟨(w5.nu k111).1, rd o5 w5 k111 (by rw [l11]; omega) (fun z hz iz => ⟨iz, o5, w5.1.1, ?_⟩)⟩
      rw [(R6 w5).2.2.2.2.1]
      refine ⟨(w5.nu k113).1, rd o5 w5 k113 (by rw [l13]; omega) (fun y hy iy => ⟨iy, o5, ?_⟩)⟩
      rw [hz.trans v11, hy.trans v13, (pr w5).1, (pr w5).2.1, (pr w5).2.2, (R6 w5).2.2.2.2.2.2, Int.toNat_natCast, j1, j2, j3]
      refine ⟨i32s (by omega) (by omega), fun q => absurd q (by omega), fun _ => ⟨w5.1.1, (ar w5).1.1, by rw [(ar w5).1.2]; exact bj, (ar w5).2.1.1, by rw [(ar w5).2.1.2]; exact bj, (ar w5).2.2.1, by rw [(ar w5).2.2.2]; exact bj, h5.2.2.2.2.1.1.1, (s_tl_branch o5 h5.2.2.2.2 (by omega) (by omega) j4 j5 j6).mono (fun M6 t6 => ⟨t6.1, ?_⟩)⟩⟩
      have h6 := h5.st t6.1 t6.2.1 t6.2.2
      rw [show (j : Int) + 1 = ((j + 1 : Nat) : Int) by first | rfl | omega]
      exact ih2 (j + 1) M6 (by omega) (by omega) h6
end TEL
end
section
/-! The reference: explore, its beginning and its end. -/
section EXP
variable {G : mG} {d a g T R W C Z n L w : Nat} {M M2 M' : mM} {E : Eg9} {tg : Int} {B F : Nat → Nat} {Nt9 : tP9}
/-- nothing is told -/
theorem tl_zero {s : Nat} {mu to up dn : Nat → Int} (h : Sv M s 0) (h2 : mI M s 2 = 0) (h3 : mI M s 3 = 0) (h5 : ∀ w, w < 3 → mI M (s + 30) w = 0) (h11 : 11 ≤ s) : TL M s F B mu to up dn 0 0 0 := by
  obtain ⟨V, g, c, e, t, Wk', Ct', R', H, hc⟩ := h
  exact ⟨⟨V, Wk', Ct', R', h5⟩, ⟨e, h2, h3⟩, ⟨fun j hj => absurd hj (by omega), g.2.2.2.2.1⟩, ⟨fun j hj => absurd hj (by omega), g.2.2.2.2.2.1⟩, fun j hj => absurd hj (by omega), fun j hj => absurd hj (by omega), fun j hj => absurd hj (by omega), h11, fun j hj => absurd hj (by omega)⟩
/-- a call that leaves what was explored -/
def FX (M : mM) (a : Nat) (M' : mM) : Prop := FR M a M' ∧ xeF M M' a ∧ mI M' a 12 = mI M a 12 ∧ mI M' (a + 117 + 30) 0 = mI M (a + 117 + 30) 0
/-- all but whether values are worked out -/
def FX0 (M : mM) (a : Nat) (M' : mM) : Prop := FR M a M' ∧ xeF M M' a ∧ mI M' a 12 = mI M a 12
theorem FX0.fx (h : FX0 M a M') (k : mI M' (a + 117 + 30) 0 = mI M (a + 117 + 30) 0) : FX M a M' := ⟨h.1, h.2.1, h.2.2, k⟩
theorem FX.trans {M2 : mM} (h : FX M a M') (k : FX M' a M2) : FX M a M2 := ⟨h.1.trans k.1, h.2.1.trans k.2.1, k.2.2.1.trans h.2.2.1, k.2.2.2.trans h.2.2.2⟩
theorem RI0.step {j : Nat} {v : Int} (h : RI0 Nt9 M a) (hv : i32 v) (hj : j ≠ 11 ∧ j ≠ 29 ∧ j ≠ 48) (e : M' = mUI M a j v) (h0 : j < 12 := by decide) : RI0 Nt9 M' a ∧ FX M a M' ∧ (∀ i, mI M' a i = if i = j then v else mI M a i) := by
  obtain ⟨hO, w, ht, hx⟩ := h
  have hg := w.g9
  have p0 : pk M a (mR M a 9) M := ⟨hO, w, ra_mv (P := fun _ => False) (S := fun _ => False) w hg (Mv.refl hO w (fun _ z => z.elim)) (fun _ z => z.elim) (fun _ z => z.elim) (fun _ z => z.elim) ⟨rfl, rfl, rfl, rfl, rfl⟩, FR.mv (P := fun _ => False) (S := fun _ => False) (Mv.refl hO w (fun _ z => z.elim)) (fun _ z => z.elim) (fun _ z => z.elim)⟩
  obtain ⟨p2, f2, r2, s2⟩ := p0.fld hg hv ⟨hj.1, hj.2.1, hj.2.2, by omega, by omega⟩ e
  have tp := w.tape
  refine ⟨⟨p2.1, p2.2.1, ⟨by rw [r2]; exact ht.1.sm (s2 _ tp.1), by rw [r2, (s2 _ tp.2.1).1]; exact ht.2⟩, ?_⟩, ⟨p2.2.2.2, p2.2.2.1.2.2.2.2.2.2.2, by rw [f2, if_neg (by omega)], by rw [(p2.2.2.1.2.1 (a + 117 + 30) (by omega) (by omega)).2.2.2]⟩, f2⟩
  rw [r2]
  exact hx.ra p2.2.2.1
/-- the tables, as the solver will be told them -/
theorem XD.tt (h : XD M a g n W L w L B) (hw : B L = w) (hF : F 0 = 0 ∧ F n = L ∧ ∀ k, k < n → F k ≤ F (k + 1) ∧ mI M (a + 107) k = (F k : Int) ∧ mI M (a + 108) k = ((F (k + 1) - F k : Nat) : Int)) : TT M a n L w F B (nt M (a + 115)) (mI M (a + 21185)) (mL M (a + 21186)) (mL M (a + 21187)) := by
  have hL := h.le
  have mB := h.mono
  have mF : ∀ k, k ≤ n → F k ≤ L := fun k hk => by
    have : ∀ j, j ≤ n - k → F k ≤ F (k + j) := fun j => by
      induction j with
      | zero => intro _; exact Nat.le_refl _
      | succ j ih =>
        intro hj
        have a1 := ih (by omega)
        have a2 := (hF.2.2 (k + j) (by omega)).1
        have e : k + (j + 1) = k + j + 1 := by omega
        rw [e]
        omega
    have := this (n - k) (Nat.le_refl _)
    rw [show k + (n - k) = n by first | rfl | omega, hF.2.1] at this
    exact this
  obtain ⟨d1, d2, d3, d4, ⟨l1, l2, l3, l4⟩, d6, d7⟩ := h
  refine ⟨⟨d1.2.2, hL, d2.2⟩, ⟨hF.2.1, fun k hk => ⟨(hF.2.2 k hk).2.1, (hF.2.2 k hk).2.2, (hF.2.2 k hk).1, mF (k + 1) (by omega)⟩⟩, ⟨l2, l3, l4⟩, fun i hi => ?_, fun j hj => ?_⟩
  · obtain ⟨o1, o2, o3, o4, o5⟩ := d7 i hi
    have := mB (i + 1) L (by omega) (Nat.le_refl _)
    exact ⟨o2.1, o2.2, by omega, by omega, rfl⟩
  · obtain ⟨y1, y2, y3⟩ := d4 j hj
    exact ⟨rfl, rfl, rfl, ⟨by omega, by omega⟩, ⟨by omega, by omega⟩, ⟨by omega, by omega⟩⟩
/-- all states are told -/
theorem exp_sv {mu to up dn : Nat → Int} (h : XD M a g n W L w L B) (hw : B L = w) (hF : F 0 = 0 ∧ F n = L ∧ ∀ k, k < n → F k ≤ F (k + 1) ∧ mI M (a + 107) k = (F k : Int) ∧ mI M (a + 108) k = ((F (k + 1) - F k : Nat) : Int)) (e1 : mu = nt M (a + 115)) (e2 : to = mI M (a + 21185)) (e3 : up = mL M (a + 21186)) (e4 : dn = mL M (a + 21187)) (t : TL M2 (a + 117) F B mu to up dn n L w) : Sv M2 (a + 117) n ∧ ∀ k, k < n → mny M2 (a + 117) k = ((F (k + 1) - F k : Nat) : Int) := by
  subst e1 e2 e3 e4
  have hL := h.le
  have mB := h.mono
  obtain ⟨d1, d2, d3, d4, ⟨l1, l2, l3, l4⟩, d6, d7⟩ := id h
  refine t.sv d1.2.2 (by omega) d2.2 ⟨hF.1, hF.2.1, fun k hk => (hF.2.2 k hk).1⟩ ⟨d6.1, hw, fun k hk => (d7 k hk).1⟩ (fun j hj => (d4 j hj).1) (fun k hk => (d7 k hk).2.2.1) (fun j hj => ⟨(d4 j hj).2.1.1, (d4 j hj).2.2.1⟩) (fun k hk j j0 j1 => (d7 k hk).2.2.2.1 j j0 j1) (fun k hk => (d7 k hk).2.2.2.2)
/-- the states after the loop -/
def pI (M : mM) (a g T R W C Z : Nat) (E : Eg9) (tg : Int) (k : Nat) (M2 : mM) : Prop := xF M a M2 ∧ GG M2 a g T R W C Z E tg ∧ (mI M2 a 16 = 0 → ∃ (n L w : Nat) (B F : Nat → Nat), XD M2 a g n W L w L B ∧ B L = w ∧ k ≤ n ∧ (F 0 = 0 ∧ F k = L ∧ ∀ k', k' < k → F k' ≤ F (k' + 1) ∧ mI M2 (a + 107) k' = (F k' : Int) ∧ mI M2 (a + 108) k' = ((F (k' + 1) - F k' : Nat) : Int)))
theorem pI.next {k : Nat} {M3 : mM} (x : xF M a M2) (h : sI M2 a g T R W C Z E tg n L k B M3) (xd : XD M2 a g n W L w L B) (hw : B L = w) (hk : k < n) (hF : F 0 = 0 ∧ F k = L ∧ ∀ k', k' < k → F k' ≤ F (k' + 1) ∧ mI M2 (a + 107) k' = (F k' : Int) ∧ mI M2 (a + 108) k' = ((F (k' + 1) - F k' : Nat) : Int)) : pI M a g T R W C Z E tg (k + 1) M3 := by
  obtain ⟨x3, gg3, en3, hh⟩ := h
  refine ⟨x.trans x3, gg3, fun z => ?_⟩
  obtain ⟨⟨t1, t2⟩, n2, L2, w2, B2, y1, y2, y3, y4, y5, y6⟩ := hh z
  obtain ⟨F', hF'⟩ : ∃ F' : Nat → Nat, ∀ i, F' i = if i ≤ k then F i else L2 := ⟨fun i => if i ≤ k then F i else L2, fun _ => rfl⟩
  have fl : ∀ i, i ≤ k → F' i = F i := fun i hi => by rw [hF', if_pos hi]
  have fk : F' (k + 1) = L2 := by rw [hF', if_neg (by omega)]
  refine ⟨n2, L2, w2, B2, F', y6, y5, by omega, by rw [fl 0 (by omega)]; exact hF.1, fk, fun k' hk' => ?_⟩
  by_cases e : k' = k
  · subst e
    rw [fk, fl k' (Nat.le_refl _), hF.2.1]
    exact ⟨y2, t1, y3⟩
  · rw [fl k' (by omega), fl (k' + 1) (by omega), (t2 k' e).1, (t2 k' e).2]
    exact hF.2.2 k' (by omega)
end EXP
end
section
/-! The reference: explore, its loops. -/
section EXP2
variable {G : mG} {d a g T R W C Z : Nat} {M M1 M2 M3 : mM} {E : Eg9} {tg : Int} {Nt9 : tP9}
theorem ag_mv {P S : Nat → Prop} (w : Wd M2 a) (m : Mv P S M2 a M3) (hin : ∀ q, P q → q ∈ nums a) (hS : ∀ x, S x → x < a + 117 ∨ a + 21184 < x) : Ag M2 M3 (a + 117) (a + 117 + 21067) := fun x x1 x2 => by
  have hz := w.2.2.2
  have f := m.2.2.2.1
  have np : ¬ P x := fun z => by have := nums_in (hin x z); omega
  refine ⟨(f.2.1 x (by omega)).1, (f.2.1 x (by omega)).2, f.2.2.1 x (by omega) np, (f.2.2.2.1 x (by omega) np (fun q hq z => ?_) (fun z => by have := hS x z; omega)).1⟩
  rcases (w.arr (hin q hq)).2 with y | y
  · have := nums_in (hin q hq); omega
  · omega
/-- explore's start: the solver is empty -/
def bE (Nt9 : tP9) (M : mM) (a g T R W C Z : Nat) (E : Eg9) (tg : Int) (M1 : mM) : Prop := FR M a M1 ∧ GG M1 a g T R W C Z E tg ∧ (Tpl Nt9 M1 (mR M1 a 1) ∧ ln M1 (mR M1 a 2) ≤ 16384) ∧ (0 ≤ mI M1 a 48 ∧ mI M1 a 48 ≤ 900 ∧ mI M1 a 11 = Nt9.2.2.1) ∧ (mI M1 a 11 ≠ 0 ∧ ((W : Int) = Nt9.2.2.2.1 ∧ (R : Int) = Nt9.2.2.2.2.1 ∧ (C : Int) = Nt9.2.2.2.2.2.1 ∧ GaO E.2 ∧ Nt9.2.2.2.2.2.2.1 = XpG E.2)) ∧ Sv M1 (a + 117) 0 ∧ mI M1 (a + 117) 2 = 0 ∧ mI M1 (a + 117) 3 = 0 ∧ ∀ v, v < 3 → mI M1 (a + 117 + 30) v = 0
theorem bE.st {P S : Nat → Prop} (h : bE Nt9 M a g T R W C Z E tg M1) (m : Mv P S M1 a M2) (hP : ∀ q, P q → xP a q) (hS : ∀ x, S x → xS a x) (hf : ∀ i, i ≠ 0 → i ≠ 12 → i ≠ 16 → i ≠ 17 → i ≠ 23 → i ≠ 29 → i ≠ 30 → i ≠ 40 → mI M2 a i = mI M1 a i) : bE Nt9 M a g T R W C Z E tg M2 := by
  obtain ⟨h1, h2, h3, h4, h5, h6, h7, h8, h9⟩ := h
  have w1 := h2.2.1
  have hg := h2.2.2.1.2
  have hin : ∀ q, P q → q ∈ nums a := fun q hq => xP_in (hP q hq)
  have unS : ∀ x, S x → x = a ∨ (a + 97 ≤ x ∧ x ≤ a + 108) ∨ (a + 21185 ≤ x ∧ x ≤ a + 21190) := fun x hx => hS x hx
  have unP : ∀ q, P q → q = a + 99 ∨ q = a + 109 ∨ q = a + 111 ∨ q = a + 113 ∨ q = a + 115 := fun q hq => hP q hq
  have ag := ag_mv w1 m hin (fun x hx => by have := unS x hx; omega)
  have R' := m.rfl_a w1 hin
  have tp := w1.tape
  have s13 := w1.1.2.1
  have gs := gs_st w1 hg m hin (fun q hq z => by
    have z' : q = g + 1 ∨ q = g + 3 ∨ q = g + 5 ∨ q = g + 7 ∨ q = g + 9 ∨ q = g + 11 ∨ q = g + 30 ∨ q = g + 32 ∨ q = g + 34 := z
    have := unP q hq
    omega) (fun x hx => by have := unS x hx; omega)
  refine ⟨h1.trans (FR.mv m hin (fun x hx => by have := unS x hx; omega)), h2.gs m.1 m.2.1 (by rw [R']) gs, ⟨by rw [R']; exact h3.1.sm (m.lst tp.1 (fun z => by have := unP _ z; omega)), by rw [R', (m.lst tp.2.1 (fun z => by have := unP _ z; omega)).1]; exact h3.2⟩, by rw [hf 48 (by decide) (by decide) (by decide) (by decide) (by decide) (by decide) (by decide) (by decide), hf 11 (by decide) (by decide) (by decide) (by decide) (by decide) (by decide) (by decide) (by decide)]; exact h4, by rw [hf 11 (by decide) (by decide) (by decide) (by decide) (by decide) (by decide) (by decide) (by decide)]; exact h5, h6.ag ag, ?_, ?_, fun v hv => ?_⟩
  · rw [(ag (a + 117) (by omega) (by omega)).2.2.2]; exact h7
  · rw [(ag (a + 117) (by omega) (by omega)).2.2.2]; exact h8
  · rw [(ag (a + 117 + 30) (by omega) (by omega)).2.2.2]; exact h9 v hv
theorem GG.gd {i9 : tI9} (h : GG M2 a g T R W C Z E tg) (e : (W : Int) = i9.2.1 ∧ (R : Int) = i9.2.2.1 ∧ (C : Int) = i9.2.2.2.1 ∧ GaO E.2 ∧ i9.2.2.2.2.1 = XpG E.2) : Gd i9 M2 g := ⟨T, R, W, C, Z, E, tg, h.2.2.2.1, h.2.2.2.2.1, h.2.2.2.2.2.1, h.2.2.2.2.2.2.1, h.2.2.2.2.2.2.2.1, h.2.2.2.2.2.2.2.2, h.2.2.2.2.2.1.2.1.trans e.1, h.2.2.2.2.2.1.1.trans e.2.1, h.2.2.2.2.2.1.2.2.1.trans e.2.2.1, e.2.2.2⟩
/-- no states -/
theorem bE.ri0 (h : bE Nt9 M a g T R W C Z E tg M1) (z : mI M1 a 29 = 0) : RI0 Nt9 M1 a ∧ FR M a M1 := by
  obtain ⟨h1, h2, h3, h4, h5, h6, h7, h8, h9⟩ := h
  refine ⟨⟨h2.1, h2.2.1, h3, ?_⟩, h1⟩
  rw [h2.2.2.1.1]
  exact ⟨by rw [z]; decide, by rw [z]; exact h6, fun _ => h2.gd h5.2, fun q => by rw [z] at q; exact absurd q (by decide), h4⟩
end EXP2
end
section
/-! The reference: explore. -/
section EXP3
variable {G : mG} {d a g T R W C Z : Nat} {M M1 : mM} {E : Eg9} {tg : Int} {Nt9 : tP9}
end EXP3
end
section
/-! The class's game: places, the program it explores, runs of its machine. -/
section GAA
variable {G : mG} {d z g p O P K V F L cnt U w9 Ab Be C Ab0 Be0 C0 s h t c : Nat} {M0 M M' M1 M2 : mM} {ns : Nat → Int} {sf ef : Nat → Nat} {H : Nat → Nat} {S R : Nat → Prop}
/-- the game's places -/
def GK (M : mM) (g : Nat) : Prop := mK M g = 7 ∧ (mR M g 1 = g + 1 ∧ mR M g 2 = g + 2 ∧ mR M g 3 = g + 3 ∧ mR M g 4 = g + 4 ∧ mR M g 5 = g + 5 ∧ mR M g 6 = g + 6 ∧ mR M g 7 = g + 7 ∧ mR M g 8 = g + 8 ∧ mR M g 9 = g + 9 ∧ mR M g 15 = g + 10 ∧ mR M g 16 = g + 20 ∧ mR M g 17 = g + 21 ∧ mR M g 18 = g + 22) ∧ (mK M (g + 1) = 30 ∧ mK M (g + 2) = 30 ∧ mK M (g + 3) = 30 ∧ mK M (g + 4) = 30 ∧ mK M (g + 5) = 30 ∧ mK M (g + 6) = 30 ∧ mK M (g + 7) = 30 ∧ mK M (g + 8) = 30 ∧ mK M (g + 9) = 30 ∧ mK M (g + 20) = 30 ∧ mK M (g + 21) = 30 ∧ mK M (g + 22) = 30) ∧ (mN M (g + 1) = 6144 ∧ mN M (g + 2) = 512 ∧ mN M (g + 3) = 512 ∧ mN M (g + 4) = 513 ∧ mN M (g + 5) = 4097 ∧ mN M (g + 6) = 4097 ∧ mN M (g + 7) = 4098 ∧ mN M (g + 8) = 4096 ∧ mN M (g + 9) = 4096 ∧ mN M (g + 20) = 1024 ∧ mN M (g + 21) = 8 ∧ mN M (g + 22) = 8)
theorem GK.eq2 (hk : GK M g) (v : ∀ i, i ≤ 22 → mK M' (g + i) = mK M (g + i) ∧ mN M' (g + i) = mN M (g + i)) (hr : ∀ i, i ≠ 14 → mR M' g i = mR M g i) : GK M' g := by
  unfold GK at hk ⊢
  have v0 := v 0 (by omega)
  rw [Nat.add_zero] at v0
  rw [v0.1, hr 1 (by omega), hr 2 (by omega), hr 3 (by omega), hr 4 (by omega), hr 5 (by omega), hr 6 (by omega), hr 7 (by omega), hr 8 (by omega), hr 9 (by omega), hr 15 (by omega), hr 16 (by omega), hr 17 (by omega), hr 18 (by omega), (v 1 (by omega)).1, (v 2 (by omega)).1, (v 3 (by omega)).1, (v 4 (by omega)).1, (v 5 (by omega)).1, (v 6 (by omega)).1, (v 7 (by omega)).1, (v 8 (by omega)).1, (v 9 (by omega)).1, (v 20 (by omega)).1, (v 21 (by omega)).1, (v 22 (by omega)).1, (v 1 (by omega)).2, (v 2 (by omega)).2, (v 3 (by omega)).2, (v 4 (by omega)).2, (v 5 (by omega)).2, (v 6 (by omega)).2, (v 7 (by omega)).2, (v 8 (by omega)).2, (v 9 (by omega)).2, (v 20 (by omega)).2, (v 21 (by omega)).2, (v 22 (by omega)).2]
  exact hk
/-- a program that may be explored -/
def PW (M : mM) (z p O P K V F : Nat) (ns : Nat → Int) (sf ef : Nat → Nat) (L cnt : Nat) : Prop := PK M z p O P K ∧ (mI M p 2 = ((L : Nat) : Int) ∧ L ≤ K ∧ L ≤ 16384) ∧ (mI M p 3 = ((V : Nat) : Int) ∧ V ≤ 12) ∧ F ≤ 60 ∧ (mI M p 12 = ((cnt : Nat) : Int) ∧ cnt ≤ 60) ∧ mI M p 11 ≠ -1 ∧ ∃ u : Nat, mI M (p + 12) cnt = ((u : Nat) : Int) ∧ PG M p O P V F ns sf ef L cnt u
theorem PW.fa (h : PW M z p O P K V F ns sf ef L cnt) (f : FA S R M M') (hp : ¬ R p) (hs : ∀ i, i ≤ 15 → ¬ S (p + i)) (hO : ¬ S O) (hP : ¬ S P) : PW M' z p O P K V F ns sf ef L cnt := by
  obtain ⟨h1, h2, h3, h4, h5, h6, u, h7, h8⟩ := h
  obtain ⟨-, -, -, ⟨o1, o2, o3, o4⟩, ⟨pz0, pz1, pz2⟩, -⟩ := id h1
  have e : ∀ i, i ≤ 15 → mI M' (p + i) = mI M (p + i) := fun i hi => (f.2 (p + i) (by omega)).2.2.2.2 (hs i hi)
  have eO : mI M' O = mI M O := (f.2 O pz1).2.2.2.2 hO
  have eP : mI M' P = mI M P := (f.2 P pz2).2.2.2.2 hP
  have e0 := e 0 (by omega)
  rw [Nat.add_zero] at e0
  exact ⟨h1.fa f hp, by rw [e0]; exact h2, by rw [e0]; exact h3, h4, by rw [e0]; exact h5, by rw [e0]; exact h6, u, by rw [e 12 (by omega)]; exact h7, h8.cg (by rw [e0]) (fun i _ _ => e i (by omega)) (fun b _ => ⟨by rw [e 14 (by omega)], by rw [e 15 (by omega)]⟩) (fun i _ => ⟨by rw [eO], by rw [eP]⟩)⟩
/-- what exploring may change -/
def gaS (g Ab Be : Nat) : Nat → Prop := fun x => (g ≤ x ∧ x ≤ g + 22) ∨ x = Ab ∨ x = Be
def gaR (g : Nat) : Nat → Prop := fun x => x = g ∨ x = g + 10
def gaF (M0 : mM) (g Ab0 Be0 C0 : Nat) (M : mM) (Ab Be C : Nat) : Prop := FA (gaS g Ab0 Be0) (gaR g) M0 M ∧ ((Ab = Ab0 ∨ mZ M0 ≤ Ab) ∧ (Be = Be0 ∨ mZ M0 ≤ Be)) ∧ (mS M + 4 * C0 = mS M0 + 4 * C ∧ 32 * mZ M + C0 ≤ 32 * mZ M0 + C)
theorem gaF.refl : gaF M g Ab Be C M Ab Be C := ⟨FA.refl, ⟨Or.inl rfl, Or.inl rfl⟩, rfl, Nat.le_refl _⟩
theorem gaF.trans {Ab1 Be1 C1 : Nat} (f : gaF M0 g Ab0 Be0 C0 M Ab Be C) (k : gaF M g Ab Be C M1 Ab1 Be1 C1) : gaF M0 g Ab0 Be0 C0 M1 Ab1 Be1 C1 := by
  obtain ⟨f1, ⟨f2, f3⟩, f4, f5⟩ := f
  obtain ⟨g1, ⟨g2, g3⟩, g4, g5⟩ := k
  have zz := f1.1.1
  refine ⟨f1.trans2 g1 (fun x hx y => ?_) (fun _ _ y => y), ⟨by omega, by omega⟩, by omega, by omega⟩
  have y' : (g ≤ x ∧ x ≤ g + 22) ∨ x = Ab ∨ x = Be := y
  show (g ≤ x ∧ x ≤ g + 22) ∨ x = Ab0 ∨ x = Be0
  omega
/-- the game while it explores: all but the counts -/
def GY (U w9 : Nat) (M0 : mM) (z g p O P K V F : Nat) (ns : Nat → Int) (sf ef : Nat → Nat) (L cnt Ab0 Be0 C0 : Nat) (M : mM) (Ab Be C : Nat) : Prop := mOk M ∧ GK M g ∧ MK M z (g + 10) U Ab Be C ∧ PW M z p O P K V F ns sf ef L cnt ∧ (mR M g 14 = p ∧ mR M (g + 10) 0 = p) ∧ (g + 23 ≤ z ∧ (g + 22 < p ∨ p + 15 < g) ∧ (O ≠ Ab ∧ O ≠ Be ∧ P ≠ Ab ∧ P ≠ Be)) ∧ MT M (g + 10) (fun x => x < 60 ∧ w9 = 1) ∧ gaF M0 g Ab0 Be0 C0 M Ab Be C ∧ (∀ x, x < 60 → mI M (g + 15) x ≤ mI M (g + 10) 9) ∧ (∀ i, i ≤ 15 → mI M (p + i) = mI M0 (p + i))
/-- exploring, after the first state has been entered -/
abbrev GX (M0 : mM) (z g p O P K V F : Nat) (ns : Nat → Int) (sf ef : Nat → Nat) (L cnt Ab0 Be0 C0 : Nat) (M : mM) (Ab Be C : Nat) : Prop := GY (g + 1) 1 M0 z g p O P K V F ns sf ef L cnt Ab0 Be0 C0 M Ab Be C
theorem ga_ne {g p O P Ab Be z : Nat} (h1 : g + 23 ≤ z) (h2 : g + 22 < p ∨ p + 15 < g) (h3 : O ≠ Ab ∧ O ≠ Be ∧ P ≠ Ab ∧ P ≠ Be) (o1 : O = p + 1 ∨ z ≤ O) (o2 : P = p + 2 ∨ z ≤ P) (o4 : p + 16 ≤ z) (a1 : Ab = g + 10 + 3 ∨ z ≤ Ab) (a2 : Be = g + 10 + 4 ∨ z ≤ Be) : (∀ i, i ≤ 15 → ¬ gaS g Ab Be (p + i)) ∧ ¬ gaS g Ab Be O ∧ ¬ gaS g Ab Be P ∧ ¬ gaR g p := by
  refine ⟨fun i hi y => ?_, fun y => ?_, fun y => ?_, fun y => ?_⟩
  · have y' : (g ≤ p + i ∧ p + i ≤ g + 22) ∨ p + i = Ab ∨ p + i = Be := y
    omega
  · have y' : (g ≤ O ∧ O ≤ g + 22) ∨ O = Ab ∨ O = Be := y
    omega
  · have y' : (g ≤ P ∧ P ≤ g + 22) ∨ P = Ab ∨ P = Be := y
    omega
  · have y' : p = g ∨ p = g + 10 := y
    omega
theorem GY.ne (h : GY U w9 M0 z g p O P K V F ns sf ef L cnt Ab0 Be0 C0 M Ab Be C) : (∀ i, i ≤ 15 → ¬ gaS g Ab Be (p + i)) ∧ ¬ gaS g Ab Be O ∧ ¬ gaS g Ab Be P ∧ ¬ gaR g p := by
  obtain ⟨-, -, hk, hp, -, ⟨h1, h2, h3⟩, -⟩ := h
  obtain ⟨o1, o2, -, o4⟩ := hp.1.2.2.2.1
  obtain ⟨a1, a2, -, -⟩ := hk.2.2.2.2.2.1
  exact ga_ne h1 h2 h3 o1 o2 o4 a1 a2
/-- ints of the game's own tables change (not the machine's) -/
theorem GY.fi (h : GY U w9 M0 z g p O P K V F ns sf ef L cnt Ab0 Be0 C0 M Ab Be C) (ok : mOk M') (f : FI (fun x => (g ≤ x ∧ x ≤ g + 9) ∨ x = g + 12 ∨ (g + 20 ≤ x ∧ x ≤ g + 22)) M M') : GY U w9 M0 z g p O P K V F ns sf ef L cnt Ab0 Be0 C0 M' Ab Be C := by
  have ne := h.ne
  obtain ⟨-, h2, h3, h4, h5, h6, h7, h8, h9, h10⟩ := h
  have f9 : FI (gaS g Ab Be) M M' := f.mono (fun x y => Or.inl (by
    have y' : (g ≤ x ∧ x ≤ g + 9) ∨ x = g + 12 ∨ (g + 20 ≤ x ∧ x ≤ g + 22) := y
    omega))
  have em : ∀ i, i = 0 ∨ (3 ≤ i ∧ i ≤ 9) → mI M' (g + 10 + i) = mI M (g + 10 + i) := fun i hi => f.2.2.2.2.2.2 _ (fun y => by
    have y' : (g ≤ g + 10 + i ∧ g + 10 + i ≤ g + 9) ∨ g + 10 + i = g + 12 ∨ (g + 20 ≤ g + 10 + i ∧ g + 10 + i ≤ g + 22) := y
    omega)
  have e0 := em 0 (Or.inl rfl)
  rw [Nat.add_zero] at e0
  refine ⟨ok, h2.eq2 (fun i _ => ⟨by rw [f.1], by rw [f.2.1]⟩) (fun i _ => by rw [f.2.2.1]), h3.fi f (by rw [e0]), h4.fa (FI.fa (R := fun _ => False) f9) (fun y => y) ne.1 ne.2.1 ne.2.2.1, by rw [f.2.2.1]; exact h5, h6, fun x hx => ?_, h8.trans ⟨(FI.fa f9).mono (fun _ _ y => y) (fun _ _ y => y), ⟨Or.inl rfl, Or.inl rfl⟩, by rw [f.2.2.2.2.2.1], by rw [f.2.2.2.2.1]; exact Nat.le_refl _⟩, fun x hx => by
    rw [show g + 15 = g + 10 + 5 by first | rfl | omega, em 5 (by omega), e0]
    exact h9 x hx, fun i hi => by rw [f9.2.2.2.2.2.2 _ (ne.1 i hi)]; exact h10 i hi⟩
  rw [em 5 (by omega), em 7 (by omega), e0]
  exact h7 x hx
end GAA
end
section
/-! The class's game: small steps, and a state that is entered. -/
section GAB
variable {G : mG} {d z g p O P K V F L cnt U w9 Ab Be C Ab0 Be0 C0 s h t c cn k : Nat} {M0 M M' M1 M2 : mM} {ns : Nat → Int} {sf ef : Nat → Nat} {H : Nat → Nat} {S R : Nat → Prop}
theorem s_JA_fill {a : Nat} {v : Int} (hO : mOk M) (hK : mK M a = 30) (hN : mN M a ≤ 100000) (hv : i32 v) : Cv G y_JA_fill d [vr a, vi v] M (fun M' => mOk M' ∧ FI (fun x => x = a) M M' ∧ ∀ i, i < mN M a → mI M' a i = v) := by
  refine k_JA_fill hO hv ⟨hK, ?_⟩
  suffices HH : ∀ (t i : Nat) (M1 : mM), mN M a ≤ i + t → i ≤ mN M a → mOk M1 → FI (fun x => x = a) M M1 → (∀ j, j < i → mI M1 a j = v) → h_JA_fill_5 G d a v i (mN M a : Int) M1 (fun M' => mOk M' ∧ FI (fun x => x = a) M M' ∧ ∀ i, i < mN M a → mI M' a i = v) from HH (mN M a) 0 M (by omega) (by omega) hO FI.refl (fun j hj => absurd hj (by omega))
  intro t
  induction t with
  | zero =>
    intro i M1 h1 h2 o f hj
    exact k_JA_fill_5 o hv ⟨by omega, by omega⟩ ⟨by omega, by omega⟩ ⟨fun _ => ⟨o, f, fun j hj' => hj j (by omega)⟩, fun y => absurd y (by omega)⟩
  | succ t ih =>
    intro i M1 h1 h2 o f hj
    refine k_JA_fill_5 o hv ⟨by omega, by omega⟩ ⟨by omega, by omega⟩ ⟨fun y => ⟨o, f, fun j hj' => hj j (by omega)⟩, fun y => ?_⟩
    rw [f.1, f.2.1, Int.toNat_natCast]
    refine ⟨hK, by omega, fun M8 e8 => ?_⟩
    rw [show ((i : Int) + 1) = ((i + 1 : Nat) : Int) by first | rfl | omega]
    refine ih (i + 1) M8 (by omega) (by omega) (by rw [e8]; exact mOk_UI o hv) (f.trans (by rw [e8]; exact FI.ui rfl)) (fun j hj' => ?_)
    rw [mI_ui a j e8]
    by_cases y : j = i
    · rw [if_pos ⟨rfl, y⟩]
    · rw [if_neg (fun u => y u.2)]
      exact hj j (by omega)
theorem s_Ga_clear (hO : mOk M) (hk : mK M g = 7) : Cv G y_Ga_clear d [vr g] M (fun M' => mOk M' ∧ FI (fun x => x = g) M M' ∧ (∀ i, mI M' g i = if i = 13 then 0 else if i = 12 then 0 else if i = 0 then 0 else mI M g i)) := by
  refine k_Ga_clear hO ⟨hk, fun M2 e2 M4 e4 M6 e6 => ?_⟩
  have f2 : FI (fun x => x = g) M M2 := by rw [e2]; exact FI.ui rfl
  have f4 : FI (fun x => x = g) M2 M4 := by rw [e4]; exact FI.ui rfl
  have f6 : FI (fun x => x = g) M4 M6 := by rw [e6]; exact FI.ui rfl
  refine ⟨by rw [e6]; exact mOk_UI (by rw [e4]; exact mOk_UI (by rw [e2]; exact mOk_UI hO ⟨by decide, by decide⟩) ⟨by decide, by decide⟩) ⟨by decide, by decide⟩, (f2.trans f4).trans f6, fun i => ?_⟩
  rw [mI_ui g i e6, mI_ui g i e4, mI_ui g i e2]
  by_cases y13 : i = 13
  · rw [if_pos ⟨rfl, y13⟩, if_pos y13]
  · rw [if_neg (fun u => y13 u.2), if_neg y13]
    by_cases y12 : i = 12
    · rw [if_pos ⟨rfl, y12⟩, if_pos y12]
    · rw [if_neg (fun u => y12 u.2), if_neg y12]
      by_cases y0 : i = 0
      · rw [if_pos ⟨rfl, y0⟩, if_pos y0]
      · rw [if_neg (fun u => y0 u.2), if_neg y0]
/-- a place is told: nothing else of the game changes -/
def plQ (M : mM) (g : Nat) (M' : mM) : Prop := mOk M' ∧ FI (fun x => x = g) M M' ∧ ∀ i, i ≠ 10 → mI M' g i = mI M g i
/-- slots tell states -/
def SLt (M : mM) (g cn : Nat) : Prop := ∀ i, i < 1024 → mI M (g + 20) i = -1 ∨ (0 ≤ mI M (g + 20) i ∧ mI M (g + 20) i < cn)
/-- what enter comes to -/
def enG (U w9 : Nat) (M0 : mM) (z g p O P K V F : Nat) (ns : Nat → Int) (sf ef : Nat → Nat) (L cnt Ab0 Be0 C0 : Nat) (M : mM) (Ab Be C cn : Nat) (r : Int) (M' : mM)   : Prop := GY U w9 M0 z g p O P K V F ns sf ef L cnt Ab0 Be0 C0 M' Ab Be C ∧ FI (fun x => x = g ∨ x = g + 1 ∨ x = g + 20) M M' ∧ (∀ i, i ≠ 0 → mI M' g i = mI M g i) ∧ ∃ cn' : Nat, mI M' g 0 = ((cn' : Nat) : Int) ∧ cn ≤ cn' ∧ cn' ≤ 512 ∧ SLt M' g cn' ∧ (r = -1 ∨ (0 ≤ r ∧ r < cn')) ∧ i32 r ∧ (r = -1 → cn = 512)
end GAB
end
section
/-! The class's game: a command's chances are weighed. -/
section GAC
variable {G : mG} {d z g p O P K V F L cnt U Ab Be C Ab0 Be0 C0 s h t c cn k u v cc : Nat} {M0 M M' M1 M2 : mM} {ns : Nat → Int} {sf ef : Nat → Nat} {H : Nat → Nat} {S R : Nat → Prop}
/-- what chances sum up to, times mu -/
def shS (M : mM) (g : Nat) (mu : Int) : Nat → Int
  | 0 => 0
  | b + 1 => shS M g mu b + Int.tdiv mu (mI M (g + 22) b) * mI M (g + 21) b
/-- chances of n branches -/
def chz (M : mM) (g n : Nat) : Prop := ∀ b, b < n → 0 ≤ mI M (g + 21) b ∧ mI M (g + 21) b ≤ mI M (g + 22) b ∧ 1 ≤ mI M (g + 22) b ∧ mI M (g + 22) b < 1000000000
/-- what stays when chances are weighed -/
def wgF (M : mM) (g : Nat) (M' : mM) : Prop := (∀ i, i ≠ 10 → mI M' g i = mI M g i) ∧ (∀ i, 1 ≤ i → i ≤ 9 → i ≠ 6 → mI M' (g + i) = mI M (g + i)) ∧ mI M' (g + 20) = mI M (g + 20) ∧ (∀ i, i ≠ (mI M g 12).toNat → mI M' (g + 6) i = mI M (g + 6) i) ∧ mI M' (g + 10) 9 = mI M (g + 10) 9
theorem wgF.refl : wgF M g M := ⟨fun _ _ => rfl, fun _ _ _ _ => rfl, rfl, fun _ _ => rfl, rfl⟩
theorem wgF.trans (f : wgF M g M1) (k : wgF M1 g M2) : wgF M g M2 := by
  obtain ⟨f1, f2, f3, f4, f5⟩ := f
  obtain ⟨g1, g2, g3, g4, g5⟩ := k
  exact ⟨fun i hi => by rw [g1 i hi, f1 i hi], fun i a b c => by rw [g2 i a b c, f2 i a b c], by rw [g3, f3], fun i hi => by rw [g4 i (by rw [f1 12 (by decide)]; exact hi), f4 i hi], by rw [g5, f5]⟩
theorem PG.fbm {Bn : Nat} (hg : PG M p O P V F ns sf ef L cnt Bn) : ∀ (t j : Nat), j + t = cnt → ∃ x y : Nat, mI M (p + 12) j = ((x : Nat) : Int) ∧ mI M (p + 12) cnt = ((y : Nat) : Int) ∧ x ≤ y ∧ y ≤ Bn ∧ y ≤ 8 * cnt
  | 0, j, hj => by
    obtain ⟨y, e1, e2, e3⟩ := hg.2.2.2.2.2.1
    have : j = cnt := by omega
    subst this
    exact ⟨y, y, e1, e1, Nat.le_refl _, e2, e3⟩
  | t + 1, j, hj => by
    obtain ⟨x, y, e1, e2, e3, e4, e5⟩ := PG.fbm hg t (j + 1) (by omega)
    obtain ⟨a, b, f1, f2, f3, f4⟩ := hg.2.2.2.2.1 j (by omega)
    rw [e1] at f2
    exact ⟨a, y, f1, e2, by omega, e4, e5⟩
/-- a command of the program -/
theorem PW.cmd (hp : PW M z p O P K V F ns sf ef L cnt) (hc : c < cnt) : ∃ u v : Nat, mI M (p + 12) c = ((u : Nat) : Int) ∧ mI M (p + 12) (c + 1) = ((v : Nat) : Int) ∧ u ≤ v ∧ v ≤ u + 8 ∧ v ≤ 480 ∧ (∀ b, b < v → ∃ s1 s2 : Nat, mI M (p + 14) b = ((s1 : Nat) : Int) ∧ PC M O P V F ns ef L s1 1 ∧ mI M (p + 15) b = ((s2 : Nat) : Int) ∧ PC M O P V F ns ef L s2 0) ∧ ∃ sg : Nat, mI M (p + 11) c = ((sg : Nat) : Int) ∧ PC M O P V F ns ef L sg 1 := by
  obtain ⟨p1, -, -, -, ⟨-, p9⟩, -, u0, p11, p12⟩ := hp
  obtain ⟨u, v, e1, e2, e3, e4⟩ := p12.2.2.2.2.1 c hc
  obtain ⟨x, y, f1, f2, f3, f4, f5⟩ := p12.fbm (cnt - (c + 1)) (c + 1) (by omega)
  rw [e2] at f1
  obtain ⟨sg, g1, g2⟩ := p12.2.2.1 c hc
  exact ⟨u, v, e1, e2, e3, e4, by omega, fun b hb => p12.2.2.2.2.2.2 b (by omega), sg, g1, g2⟩
end GAC
end
section
/-! The class's game: weighChances. -/
section GAD
variable {G : mG} {d z g p O P K V F L cnt U Ab Be C Ab0 Be0 C0 s h t c cn k u v cc n : Nat} {M0 M M' M1 M2 : mM} {ns : Nat → Int} {sf ef : Nat → Nat} {H : Nat → Nat} {S R : Nat → Prop}
/-- what weighing comes to -/
def weQ (M0 : mM) (z g p O P K V F : Nat) (ns : Nat → Int) (sf ef : Nat → Nat) (L cnt Ab0 Be0 C0 : Nat) (MB : mM) (n cc : Nat) (r : Int) (M' : mM) : Prop := i32 r ∧ wgF MB g M' ∧ (∃ Ab Be C, GX M0 z g p O P K V F ns sf ef L cnt Ab0 Be0 C0 M' Ab Be C) ∧ (r = 0 → chz M' g n ∧ ∃ mu : Nat, mI M' (g + 6) cc = ((mu : Nat) : Int) ∧ 1 ≤ mu ∧ mu < 1000000000 ∧ shS M' g mu n = ((mu : Nat) : Int) ∧ ∀ b, b < n → (mI M' (g + 22) b) ∣ ((mu : Nat) : Int))
theorem pl_we (hx : GX M0 z g p O P K V F ns sf ef L cnt Ab0 Be0 C0 M Ab Be C) (hw : wgF M1 g M) (q : plQ M g M') {r : Int} (ir : i32 r) (hr : r ≠ 0) : weQ M0 z g p O P K V F ns sf ef L cnt Ab0 Be0 C0 M1 n cc r M' := by
  obtain ⟨q1, q2, q3⟩ := q
  have nb : ∀ x, x ≠ g → mI M' x = mI M x := fun x hx => q2.2.2.2.2.2.2 x hx
  refine ⟨ir, hw.trans ⟨q3, fun i i1 _ _ => nb _ (by omega), nb _ (by omega), fun i _ => by rw [nb _ (by omega)], by rw [nb _ (by omega)]⟩, ⟨Ab, Be, C, hx.fi q1 (q2.mono (fun x y => Or.inl (by have y' : x = g := y; omega)))⟩, fun u => absurd u hr⟩
end GAD
end
section
/-! The class's game: weighChances, the whole. -/
section GAE
variable {G : mG} {d z g p O P K V F L cnt U Ab Be C Ab0 Be0 C0 s h t c cn k u v cc n : Nat} {M0 M M' M1 M2 : mM} {ns : Nat → Int} {sf ef : Nat → Nat} {H : Nat → Nat} {S R : Nat → Prop}
/-- cells that a run leaves alone -/
theorem ga_ce (hx : GX M0 z g p O P K V F ns sf ef L cnt Ab0 Be0 C0 M Ab Be C) (f : FA (mcS (g + 10) Ab Be) (fun x => x = g + 10) M M') : (∀ i, i ≤ 9 ∨ (20 ≤ i ∧ i ≤ 22) → mI M' (g + i) = mI M (g + i)) ∧ (∀ i, i ≤ 15 → mI M' (p + i) = mI M (p + i)) := by
  have ne := hx.ne
  obtain ⟨-, -, h3, h4, -, ⟨h61, h62, h63⟩, -⟩ := hx
  obtain ⟨a1, a2, -, -⟩ := h3.2.2.2.2.2.1
  have z1 := h3.2.2.2.2.2.2.1.1
  have o4 := h4.1.2.2.2.1.2.2.2
  clear h3 h4
  refine ⟨fun i hi => (f.2 (g + i) (by omega)).2.2.2.2 (fun y => ?_), fun i hi => (f.2 (p + i) (by omega)).2.2.2.2 (fun y => ne.1 i hi ?_)⟩
  · have y' : g + i = g + 10 ∨ g + i = g + 10 + 2 ∨ (g + 10 + 5 ≤ g + i ∧ g + i ≤ g + 10 + 9) ∨ g + i = Ab ∨ g + i = Be := y
    omega
  · have y' : p + i = g + 10 ∨ p + i = g + 10 + 2 ∨ (g + 10 + 5 ≤ p + i ∧ p + i ≤ g + 10 + 9) ∨ p + i = Ab ∨ p + i = Be := y
    show (g ≤ p + i ∧ p + i ≤ g + 22) ∨ p + i = Ab ∨ p + i = Be
    omega
theorem ga_wg (hx : GX M0 z g p O P K V F ns sf ef L cnt Ab0 Be0 C0 M Ab Be C) (f : FA (mcS (g + 10) Ab Be) (fun x => x = g + 10) M M') (h9 : mI M' (g + 10) 9 = mI M (g + 10) 9) : wgF M g M' := by
  obtain ⟨e1, -⟩ := ga_ce hx f
  have e0 := e1 0 (by omega)
  rw [Nat.add_zero] at e0
  exact ⟨fun i _ => by rw [e0], fun i _ i9 _ => e1 i (by omega), e1 20 (by omega), fun i _ => by rw [e1 6 (by omega)], h9⟩
end GAE
end
section
/-! The class's game: a branch is followed. -/
section GAF
variable {G : mG} {d z g p O P K V F L cnt U Ab Be C Ab0 Be0 C0 s h t c cn k u v cc n bc bc0 x a0 : Nat} {M0 M M' M1 M2 : mM} {ns : Nat → Int} {sf ef : Nat → Nat} {H : Nat → Nat} {S R : Nat → Prop} {sm sh : Int}
/-- the sum of the weights from x on -/
def wsm (M : mM) (g x : Nat) : Nat → Int
  | 0 => 0
  | i + 1 => wsm M g x i + mI M (g + 9) (x + i)
theorem wsm_cg : ∀ n, (∀ i, x ≤ i → i < x + n → mI M' (g + 9) i = mI M (g + 9) i) → wsm M' g x n = wsm M g x n
  | 0, _ => rfl
  | n + 1, hh => by
    show wsm M' g x n + mI M' (g + 9) (x + n) = wsm M g x n + mI M (g + 9) (x + n)
    rw [wsm_cg n (fun i h1 h2 => hh i h1 (by omega)), hh (x + n) (by omega) (by omega)]
theorem wsm_add (he : ∀ i, mI M' (g + 9) i = if i = a0 then mI M (g + 9) a0 + sh else mI M (g + 9) i) (hx : x ≤ a0) : ∀ n, wsm M' g x n = if a0 < x + n then wsm M g x n + sh else wsm M g x n
  | 0 => by
    rw [if_neg (by omega)]
    rfl
  | n + 1 => by
    show wsm M' g x n + mI M' (g + 9) (x + n) = _
    rw [wsm_add he hx n, he]
    have e : wsm M g x (n + 1) = wsm M g x n + mI M (g + 9) (x + n) := rfl
    by_cases y : a0 = x + n
    · rw [if_neg (by omega), if_pos y.symm, if_pos (by omega), e, ← y]
      omega
    · have y3 : ¬ x + n = a0 := fun t => y t.symm
      by_cases y2 : a0 < x + n
      · rw [if_pos y2, if_neg y3, if_pos (by omega), e]
        omega
      · rw [if_neg y2, if_neg y3, if_neg (by omega), e]
theorem wsm_ge (hw : ∀ i, x ≤ i → i < x + n → 1 ≤ mI M (g + 9) i) : ∀ m, m ≤ n → (m : Int) ≤ wsm M g x m
  | 0, _ => Int.le_refl _
  | m + 1, hm => by
    have e : wsm M g x (m + 1) = wsm M g x m + mI M (g + 9) (x + m) := rfl
    have := wsm_ge hw m (by omega)
    have := hw (x + m) (by omega) (by omega)
    rw [e]
    omega
theorem wsm_le (hw : ∀ i, x ≤ i → i < x + n → 1 ≤ mI M (g + 9) i) : ∀ m, m ≤ n → ∀ i, x ≤ i → i < x + m → mI M (g + 9) i ≤ wsm M g x m
  | 0, _, i, h1, h2 => absurd h2 (by omega)
  | m + 1, hm, i, h1, h2 => by
    have e : wsm M g x (m + 1) = wsm M g x m + mI M (g + 9) (x + m) := rfl
    have := wsm_ge hw m (by omega)
    have := hw (x + m) (by omega) (by omega)
    rw [e]
    by_cases y : i = x + m
    · rw [y]; omega
    · have := wsm_le hw m (by omega) i h1 (by omega)
      omega
/-- a command in progress: branches from bc0 to bc, of sum sm -/
def ipG (M : mM) (g cn bc0 bc : Nat) (sm : Int) : Prop := bc0 ≤ bc ∧ bc ≤ 4096 ∧ (∀ i, bc0 ≤ i → i < bc → 0 ≤ mI M (g + 8) i ∧ mI M (g + 8) i < cn ∧ 1 ≤ mI M (g + 9) i) ∧ wsm M g bc0 (bc - bc0) = sm
/-- what following may change -/
def flF (M : mM) (g p : Nat) (bc0 : Nat) (M' : mM) : Prop := (∀ i, i ≠ 0 → i ≠ 10 → i ≠ 13 → mI M' g i = mI M g i) ∧ (∀ i, 2 ≤ i → i ≤ 7 → mI M' (g + i) = mI M (g + i)) ∧ (mI M' (g + 21) = mI M (g + 21) ∧ mI M' (g + 22) = mI M (g + 22)) ∧ mI M' (g + 10) 9 = mI M (g + 10) 9 ∧ (∀ i, i ≤ 15 → mI M' (p + i) = mI M (p + i)) ∧ (∀ i, i < bc0 → mI M' (g + 8) i = mI M (g + 8) i ∧ mI M' (g + 9) i = mI M (g + 9) i)
theorem flF.refl : flF M g p bc0 M := ⟨fun _ _ _ _ => rfl, fun _ _ _ => rfl, ⟨rfl, rfl⟩, rfl, fun _ _ => rfl, fun _ _ => ⟨rfl, rfl⟩⟩
theorem flF.trans (f : flF M g p bc0 M1) (k : flF M1 g p bc0 M2) : flF M g p bc0 M2 := by
  obtain ⟨f1, f2, ⟨f3, f4⟩, f5, f6, f7⟩ := f
  obtain ⟨g1, g2, ⟨g3, g4⟩, g5, g6, g7⟩ := k
  exact ⟨fun i a b c => by rw [g1 i a b c, f1 i a b c], fun i a b => by rw [g2 i a b, f2 i a b], ⟨by rw [g3, f3], by rw [g4, f4]⟩, by rw [g5, f5], fun i hi => by rw [g6 i hi, f6 i hi], fun i hi => ⟨by rw [(g7 i hi).1, (f7 i hi).1], by rw [(g7 i hi).2, (f7 i hi).2]⟩⟩
/-- what following a branch comes to -/
def foQ (M0 : mM) (z g p O P K V F : Nat) (ns : Nat → Int) (sf ef : Nat → Nat) (L cnt Ab0 Be0 C0 : Nat) (MB : mM) (bc0 : Nat) (cn : Nat) (sm : Int) (r : Int) (M' : mM) : Prop := i32 r ∧ flF MB g p bc0 M' ∧ (∃ Ab Be C, GX M0 z g p O P K V F ns sf ef L cnt Ab0 Be0 C0 M' Ab Be C) ∧ ∃ cn' bc' : Nat, (mI M' g 0 = ((cn' : Nat) : Int) ∧ cn ≤ cn' ∧ cn' ≤ 512 ∧ SLt M' g cn') ∧ mI M' g 13 = ((bc' : Nat) : Int) ∧ bc0 ≤ bc' ∧ (bc' ≤ 4096 ∧ ((bc' : Nat) : Int) ≤ mI MB g 13 + 1) ∧ (r = 0 → ipG M' g cn' bc0 bc' sm)
theorem ga_off (hx : GX M0 z g p O P K V F ns sf ef L cnt Ab0 Be0 C0 M Ab Be C) : ∀ i j, i ≤ 15 → j ≤ 22 → p + i ≠ g + j := fun i j hi hj => by
  have := hx.2.2.2.2.2.1.2.1
  omega
end GAF
end
section
/-! The class's game: follow, the whole; tryCommand. -/
section GAG
variable {G : mG} {d z g p O P K V F L cnt U Ab Be C Ab0 Be0 C0 s h t c cn k u v cc n bc bc0 x a0 br : Nat} {M0 M M' M1 M2 : mM} {ns : Nat → Int} {sf ef : Nat → Nat} {H : Nat → Nat} {S R : Nat → Prop} {sm sh : Int}
theorem pl_fo {r : Int} (hb1 : mI M1 g 13 = ((bc : Nat) : Int)) (hx : GX M0 z g p O P K V F ns sf ef L cnt Ab0 Be0 C0 M Ab Be C) (hf : flF M1 g p bc0 M) (hcn : mI M g 0 = ((cn : Nat) : Int)) (hk : k ≤ cn) (hcn5 : cn ≤ 512) (hsl : SLt M g cn) (hbc : mI M g 13 = ((bc : Nat) : Int)) (hb : bc0 ≤ bc ∧ bc ≤ 4096) (q : plQ M g M') (ir : i32 r) (hr : r ≠ 0) : foQ M0 z g p O P K V F ns sf ef L cnt Ab0 Be0 C0 M1 bc0 k sm r M' := by
  obtain ⟨q1, q2, q3⟩ := q
  have off := ga_off hx
  have nb : ∀ x, x ≠ g → mI M' x = mI M x := fun x hx => q2.2.2.2.2.2.2 x hx
  exact ⟨ir, hf.trans ⟨fun i _ i10 _ => q3 i i10, fun i i2 _ => nb _ (by omega), ⟨nb _ (by omega), nb _ (by omega)⟩, by rw [nb _ (by omega)], fun i hi => nb _ (off i 0 hi (by omega)), fun i _ => ⟨by rw [nb _ (by omega)], by rw [nb _ (by omega)]⟩⟩, ⟨Ab, Be, C, hx.fi q1 (q2.mono (fun x y => Or.inl (by have y' : x = g := y; omega)))⟩, cn, bc, ⟨by rw [q3 0 (by decide)]; exact hcn, hk, hcn5, fun i hi => by rw [nb _ (by omega)]; exact hsl i hi⟩, by rw [q3 13 (by decide)]; exact hbc, hb.1, ⟨hb.2, by omega⟩, fun u => absurd u hr⟩
end GAG
end
section
/-! The class's game: tryCommand. -/
section GAH
variable {G : mG} {d z g p O P K V F L cnt U Ab Be C Ab0 Be0 C0 s h t c cn k u v cc n bc bc0 x a0 br mu cn0 : Nat} {M0 M M' M1 M2 MB : mM} {ns : Nat → Int} {sf ef : Nat → Nat} {H : Nat → Nat} {S R : Nat → Prop} {sm sh : Int}
/-- a command of the game -/
def cmdG (M : mM) (g cn bc c : Nat) : Prop := ∃ x y mu : Nat, mI M (g + 7) c = ((x : Nat) : Int) ∧ mI M (g + 7) (c + 1) = ((y : Nat) : Int) ∧ (x < y ∧ y ≤ x + 8) ∧ y ≤ bc ∧ (∀ i, x ≤ i → i < y → 0 ≤ mI M (g + 8) i ∧ mI M (g + 8) i < cn ∧ 1 ≤ mI M (g + 9) i) ∧ mI M (g + 6) c = ((mu : Nat) : Int) ∧ 1 ≤ mu ∧ mu < 1000000000 ∧ wsm M g x (y - x) = ((mu : Nat) : Int) ∧ 0 ≤ mI M (g + 5) c ∧ mI M (g + 5) c < 60
theorem cmdG.cg {cn' bc' : Nat} (hh : cmdG M g cn bc c) (e7 : mI M' (g + 7) c = mI M (g + 7) c ∧ mI M' (g + 7) (c + 1) = mI M (g + 7) (c + 1)) (e6 : mI M' (g + 6) c = mI M (g + 6) c) (e5 : mI M' (g + 5) c = mI M (g + 5) c) (e8 : ∀ i, i < bc → mI M' (g + 8) i = mI M (g + 8) i ∧ mI M' (g + 9) i = mI M (g + 9) i) (hcn : cn ≤ cn') (hbc : bc ≤ bc') : cmdG M' g cn' bc' c := by
  obtain ⟨x, y, mu, h1, h2, h3, h4, h5, h6, h7, h8, h9, h10⟩ := hh
  refine ⟨x, y, mu, by rw [e7.1]; exact h1, by rw [e7.2]; exact h2, h3, by omega, fun i a b => ?_, by rw [e6]; exact h6, h7, h8, ?_, by rw [e5]; exact h10⟩
  · rw [(e8 i (by omega)).1, (e8 i (by omega)).2]
    obtain ⟨a1, a2, a3⟩ := h5 i a b
    exact ⟨a1, by omega, a3⟩
  · rw [wsm_cg (M := M) _ (fun i a b => (e8 i (by omega)).2)]
    exact h9
/-- the game's tables, up to state k -/
def GT (M : mM) (g cn k cc bc : Nat) : Prop := cc ≤ bc ∧ bc ≤ 4096 ∧ (∀ c, c < cc → cmdG M g cn bc c) ∧ (0 < cc → mI M (g + 7) 0 = 0 ∧ mI M (g + 7) cc = ((bc : Nat) : Int)) ∧ (cc = 0 → bc = 0) ∧ (∀ j, j ≤ k → ∃ x y : Nat, mI M (g + 4) j = ((x : Nat) : Int) ∧ mI M (g + 4) (j + 1) = ((y : Nat) : Int) ∧ x ≤ y ∧ y ≤ cc) ∧ mI M (g + 4) 0 = 0 ∧ mI M (g + 4) (k + 1) = ((cc : Nat) : Int)
/-- what a state was told is one of its commands, or 0; a player's state has a command -/
def GS1 (M : mM) (g j : Nat) : Prop := ∀ x y : Nat, mI M (g + 4) j = ((x : Nat) : Int) → mI M (g + 4) (j + 1) = ((y : Nat) : Int) → (0 ≤ mI M (g + 3) j ∧ (mI M (g + 3) j < ((y : Nat) : Int) - ((x : Nat) : Int) ∨ mI M (g + 3) j = 0)) ∧ ((mI M (g + 2) j = 1 ∨ mI M (g + 2) j = 2) → x < y)
def GS (M : mM) (g k : Nat) : Prop := ∀ j, j ≤ k → GS1 M g j
theorem GS1.cg {j : Nat} (h : GS1 M g j) (e2 : mI M' (g + 2) j = mI M (g + 2) j) (e3 : mI M' (g + 3) j = mI M (g + 3) j) (e4 : mI M' (g + 4) j = mI M (g + 4) j) (e5 : mI M' (g + 4) (j + 1) = mI M (g + 4) (j + 1)) : GS1 M' g j := by
  unfold GS1 at h ⊢
  rw [e2, e3, e4, e5]
  exact h
theorem GS.eq (h : GS M g k) (e : ∀ i, i ≤ 9 ∨ (20 ≤ i ∧ i ≤ 22) → mI M' (g + i) = mI M (g + i)) : GS M' g k := fun j hj => (h j hj).cg (by rw [e 2 (by omega)]) (by rw [e 3 (by omega)]) (by rw [e 4 (by omega)]) (by rw [e 4 (by omega)])
/-- what trying a command comes to -/
def tcQ (M0 : mM) (z g p O P K V F : Nat) (ns : Nat → Int) (sf ef : Nat → Nat) (L cnt Ab0 Be0 C0 : Nat) (MB : mM) (k cn : Nat) (r : Int) (M' : mM) : Prop := i32 r ∧ (∃ Ab Be C, GX M0 z g p O P K V F ns sf ef L cnt Ab0 Be0 C0 M' Ab Be C) ∧ mI M' (g + 10) 9 = mI MB (g + 10) 9 ∧ (r = 0 → ∃ cn' cc' bc' : Nat, (mI M' g 0 = ((cn' : Nat) : Int) ∧ cn ≤ cn' ∧ cn' ≤ 512 ∧ SLt M' g cn') ∧ mI M' g 12 = ((cc' : Nat) : Int) ∧ mI M' g 13 = ((bc' : Nat) : Int) ∧ GT M' g cn' k cc' bc' ∧ GS M' g k)
/-- shares -/
theorem share_ok (hch : chz M g n) (hd : ∀ b, b < n → (mI M (g + 22) b) ∣ ((mu : Nat) : Int)) (hmu : 1 ≤ mu) {b : Nat} (hb : b < n) : 0 ≤ Int.tdiv mu (mI M (g + 22) b) * mI M (g + 21) b ∧ (mI M (g + 21) b ≠ 0 → 1 ≤ Int.tdiv mu (mI M (g + 22) b) * mI M (g + 21) b) := by
  obtain ⟨b1, b2, b3, b4⟩ := hch b hb
  obtain ⟨q, eq⟩ := hd b hb
  have et : Int.tdiv mu (mI M (g + 22) b) = q := by
    rw [eq, Int.tdiv_eq_ediv_of_nonneg (by rw [← eq]; omega)]
    exact Int.mul_ediv_cancel_left _ (by omega)
  have q1 : 1 ≤ q := by
    by_cases y : 1 ≤ q
    · exact y
    · have := Int.mul_le_mul_of_nonneg_left (show q ≤ 0 by omega) (show 0 ≤ mI M (g + 22) b by omega)
      rw [← eq] at this
      omega
  rw [et]
  refine ⟨Int.mul_nonneg (by omega) b1, fun y => ?_⟩
  exact Int.mul_pos (by omega) (by omega)
theorem shS_mono (hch : chz M g n) (hd : ∀ b, b < n → (mI M (g + 22) b) ∣ ((mu : Nat) : Int)) (hmu : 1 ≤ mu) : ∀ (t b : Nat), b + t = n → 0 ≤ shS M g mu b → shS M g mu b ≤ shS M g mu n
  | 0, b, e, _ => by rw [show b = n by first | rfl | omega]; exact Int.le_refl _
  | t + 1, b, e, h0 => by
    have s1 := (share_ok hch hd hmu (b := b) (by omega)).1
    have e1 : shS M g mu (b + 1) = shS M g mu b + Int.tdiv mu (mI M (g + 22) b) * mI M (g + 21) b := rfl
    have := shS_mono hch hd hmu t (b + 1) (by omega) (by rw [e1]; omega)
    rw [e1] at this
    omega
end GAH
end
section
/-! The class's game: tryCommand, the whole; lookAt. -/
section GAI
variable {G : mG} {d z g p O P K V F L cnt U w9 Ab Be C Ab0 Be0 C0 s h t c cn k u v cc n bc bc0 x a0 br mu cn0 : Nat} {M0 M M' M1 M2 MB : mM} {ns : Nat → Int} {sf ef : Nat → Nat} {H : Nat → Nat} {S R : Nat → Prop} {sm sh : Int}
/-- between two commands of state k -/
def GQ (M : mM) (g cn k cc bc : Nat) : Prop := (mI M g 0 = ((cn : Nat) : Int) ∧ cn ≤ 512 ∧ SLt M g cn) ∧ mI M g 12 = ((cc : Nat) : Int) ∧ mI M g 13 = ((bc : Nat) : Int) ∧ GT M g cn k cc bc
/-- a run changes nothing of it -/
theorem GQ.eq (hq : GQ M g cn k cc bc) (e : ∀ i, i ≤ 9 ∨ (20 ≤ i ∧ i ≤ 22) → mI M' (g + i) = mI M (g + i)) : GQ M' g cn k cc bc := by
  have e0 := e 0 (by omega)
  rw [Nat.add_zero] at e0
  obtain ⟨⟨q1, q2, q3⟩, q4, q5, q6⟩ := hq
  have e4 := e 4 (by omega)
  have e7 := e 7 (by omega)
  refine ⟨⟨by rw [e0]; exact q1, q2, fun i hi => by rw [e 20 (by omega)]; exact q3 i hi⟩, by rw [e0]; exact q4, by rw [e0]; exact q5, ?_⟩
  obtain ⟨t1, t2, t3, t4, t5, t6, t7, t8⟩ := q6
  exact ⟨t1, t2, fun c hc => (t3 c hc).cg ⟨by rw [e7], by rw [e7]⟩ (by rw [e 6 (by omega)]) (by rw [e 5 (by omega)]) (fun i _ => ⟨by rw [e 8 (by omega)], by rw [e 9 (by omega)]⟩) (Nat.le_refl _) (Nat.le_refl _), by rw [e7]; exact t4, t5, by rw [e4]; exact t6, by rw [e4]; exact t7, by rw [e4]; exact t8⟩
theorem tcQ_eq {M3 : mM} (e : mI MB (g + 10) 9 = mI M3 (g + 10) 9) : tcQ M0 z g p O P K V F ns sf ef L cnt Ab0 Be0 C0 MB k cn = tcQ M0 z g p O P K V F ns sf ef L cnt Ab0 Be0 C0 M3 k cn := by
  funext r M'
  unfold tcQ
  rw [e]
end GAI
end
section
/-! The class's game: discover. -/
section GAJ
variable {G : mG} {d z g p O P K V F L cnt U w9 Ab Be C Ab0 Be0 C0 s h t c cn k u v cc n bc bc0 x a0 br mu cn0 : Nat} {M0 M M' M1 M2 MB : mM} {ns : Nat → Int} {sf ef : Nat → Nat} {H : Nat → Nat} {S R : Nat → Prop} {sm sh : Int}
/-- all states are found: a game of cn states -/
def GE (M : mM) (g cn : Nat) : Prop := ∃ cc bc : Nat, 1 ≤ cn ∧ GQ M g cn (cn - 1) cc bc ∧ GS M g (cn - 1)
/-- what discover comes to -/
def dcQ (M0 : mM) (z g p O P K V F : Nat) (ns : Nat → Int) (sf ef : Nat → Nat) (L cnt Ab0 Be0 C0 : Nat) (st : Int) (r : Int) (M' : mM) : Prop := i32 r ∧ (∃ U w9 Ab Be C, (U = g + 1 ∨ U = g + 11) ∧ GY U w9 M0 z g p O P K V F ns sf ef L cnt Ab0 Be0 C0 M' Ab Be C) ∧ (mI M' (g + 10) 9 ≤ st + 512 ∧ st ≤ mI M' (g + 10) 9) ∧ (r = 0 → ∃ cn : Nat, GE M' g cn) ∧ (r ≠ 0 → mI M' g 0 = 0 ∧ mI M' g 12 = 0 ∧ mI M' g 13 = 0)
end GAJ
end
section
/-! The class's game: discover, the whole. -/
section GAK
variable {G : mG} {d z g p O P K V F L cnt U w9 Ab Be C Ab0 Be0 C0 s h t c cn k u v cc n bc bc0 x a0 br mu cn0 : Nat} {M0 M M' M1 M2 MB : mM} {ns : Nat → Int} {sf ef : Nat → Nat} {H : Nat → Nat} {S R : Nat → Prop} {sm sh : Int}
/-- the game at rest, and a program to explore -/
def GZ (M : mM) (z g p O P K V F : Nat) (ns : Nat → Int) (sf ef : Nat → Nat) (L cnt U Ab Be C : Nat) : Prop := mOk M ∧ GK M g ∧ MK M z (g + 10) U Ab Be C ∧ (U = g + 1 ∨ U = g + 11) ∧ PW M z p O P K V F ns sf ef L cnt ∧ (g + 23 ≤ z ∧ (g + 22 < p ∨ p + 15 < g) ∧ (O ≠ Ab ∧ O ≠ Be ∧ P ≠ Ab ∧ P ≠ Be)) ∧ (∀ x, x < 60 → mI M (g + 15) x ≤ mI M (g + 10) 9) ∧ (0 ≤ mI M (g + 10) 9 ∧ mI M (g + 10) 9 < 100000000)
end GAK
end
section
/-! The class's game: questions. -/
section GAL
variable {G : mG} {d g c cn k cc bc : Nat} {M M' : mM}
theorem s_Ga_hasState {l : Int} (il : i32 l) (h1 : mOk M) (hk : mK M g = 7) (hc : mI M g 0 = ((cn : Nat) : Int)) : Ci G y_Ga_hasState d [vr g, vi l] M (fun r M' => M' = M ∧ (r = 0 ∨ r = 1) ∧ (r ≠ 0 ↔ (0 ≤ l ∧ l < cn))) := by
  refine k_Ga_hasState h1 il ⟨fun _ => hk, fun v4 e4 => ⟨rfl, ?_⟩⟩
  rw [hc] at e4
  by_cases y : l < 0 ∨ ((cn : Nat) : Int) ≤ l
  · rw [if_pos y] at e4
    rw [e4]
    exact ⟨Or.inl rfl, ⟨fun t => absurd rfl t, fun t => by omega⟩⟩
  · rw [if_neg y] at e4
    rw [e4]
    exact ⟨Or.inr rfl, ⟨fun _ => by omega, fun _ => by decide⟩⟩
/-- the game at rest: no states, or all of them -/
def GR (M : mM) (g cn cc bc : Nat) : Prop := (cn = 0 ∧ mI M g 0 = 0) ∨ (1 ≤ cn ∧ GQ M g cn (cn - 1) cc bc)
theorem s_Ga_commandAt {l1 l2 : Int} (i1 : i32 l1) (i2 : i32 l2) (h1 : mOk M) (hk : GK M g) (hr : GR M g cn cc bc) : Ci G y_Ga_commandAt (d + 1) [vr g, vi l1, vi l2] M (fun r M' => M' = M ∧ i32 r ∧ (r = -1 ∨ (0 ≤ r ∧ r < cc ∧ 1 ≤ cn))) := by
  obtain ⟨g0, ⟨-, -, -, g4, -⟩, ⟨-, -, -, k4, -⟩, ⟨-, -, -, n4, -⟩⟩ := id hk
  have hc : mI M g 0 = ((cn : Nat) : Int) := by
    rcases hr with ⟨e1, e2⟩ | ⟨-, q⟩
    · rw [e1]; exact e2
    · exact q.1.1
  refine k_Ga_commandAt h1 i1 i2 ⟨g0, (s_Ga_hasState i1 h1 g0 hc).mono (fun x3 M2 q => ?_)⟩
  obtain ⟨e2, hx, hiff⟩ := q
  subst e2
  have rows : x3 ≠ 0 → ∃ a b : Nat, mI M2 (g + 4) l1.toNat = ((a : Nat) : Int) ∧ mI M2 (g + 4) (l1 + 1).toNat = ((b : Nat) : Int) ∧ a ≤ b ∧ b ≤ cc ∧ cc ≤ 4096 ∧ 0 ≤ l1 ∧ l1 < 512 ∧ 1 ≤ cn := fun y => by
    have b := hiff.mp y
    rcases hr with ⟨e1, -⟩ | ⟨c1, q⟩
    · omega
    · obtain ⟨⟨-, q2, -⟩, -, -, t1, t2, -, -, -, t6, -⟩ := q
      obtain ⟨x, y', f1, f2, f3, f4⟩ := t6 l1.toNat (by omega)
      exact ⟨x, y', f1, by rw [show (l1 + 1).toNat = l1.toNat + 1 by first | rfl | omega]; exact f2, f3, f4, by omega, b.1, by omega, c1⟩
  clear hr hiff
  rw [g4, n4]
  refine ⟨m_b32 hx, h1, fun y _ => ?_, fun _ => ⟨rfl, ⟨by decide, by decide⟩, Or.inl rfl⟩, fun y => ?_⟩
  · obtain ⟨a, b, f1, f2, f3, f4, f5, f6, f7, f8⟩ := rows y
    rw [f1, f2]
    exact ⟨g0, k4, by omega, by omega, ⟨by omega, by omega⟩⟩
  · have y0 : x3 ≠ 0 := fun t => y (Or.inl t)
    obtain ⟨a, b, f1, f2, f3, f4, f5, f6, f7, f8⟩ := rows y0
    have y1 : 0 ≤ l2 := by
      by_cases t : l2 < 0
      · exact absurd (Or.inr (Or.inl t)) y
      · omega
    have y2 : l2 < mI M2 (g + 4) (Int.toNat (l1 + 1)) - mI M2 (g + 4) (Int.toNat l1) := Classical.byContradiction (fun t => y (Or.inr (Or.inr t)))
    rw [f1, f2] at y2
    rw [f1]
    exact ⟨g0, k4, by omega, rfl, ⟨by omega, by omega⟩, Or.inr ⟨by omega, by omega, f8⟩⟩
theorem s_Ga_drawn {l2 : Int} (i2 : i32 l2) (h1 : mOk M) (hk : GK M g) (hc : c < cc) (hcc : cc ≤ bc) (hbc : bc ≤ 4096) (hcn : cn ≤ 512) (hm : cmdG M g cn bc c) : Ci G y_Ga_drawn d [vr g, vi c, vi l2] M (fun r M' => M' = M ∧ i32 r ∧ (r = -1 ∨ (0 ≤ r ∧ r < cn))) := by
  obtain ⟨g0, ⟨-, -, -, -, -, g6, g7, g8, g9, -⟩, ⟨-, -, -, -, -, k6, k7, k8, k9, -⟩, ⟨-, -, -, -, -, n6, n7, n8, n9, -⟩⟩ := id hk
  obtain ⟨x, y, mu, e1, e2, e3, e4, e5, e6, e7, e8, e9, -⟩ := hm
  have wl : ∀ i, x ≤ i → i < y → mI M (g + 9) i < 1000000000 := fun i a b => by
    have := wsm_le (M := M) (g := g) (x := x) (n := y - x) (fun i a b => (e5 i a (by omega)).2.2) (y - x) (Nat.le_refl _) i a (by omega)
    rw [e9] at this
    omega
  refine k_Ga_drawn h1 (i32s (by omega) (by omega)) i2 ?_
  rw [g6, n6, g7, n7, Int.toNat_natCast, e6, e1]
  refine ⟨g0, k6, by omega, k7, by omega, ?_⟩
  have b3 : i64 (l2 * ((mu : Nat) : Int)) := by
    have n1 : l2.natAbs ≤ 2147483648 := by unfold i32 at i2; omega
    have n2 : (((mu : Nat) : Int)).natAbs ≤ 1000000000 := by omega
    have := mulab n1 n2
    exact ⟨by omega, by omega⟩
  suffices HH : ∀ (t i : Nat) (j5 : Int), y ≤ i + t → x ≤ i → i ≤ y → 0 ≤ j5 → j5 ≤ ((i - x : Nat) : Int) * 1000000000 → h_Ga_drawn_22 G d g c (l2 * ((mu : Nat) : Int)) j5 i M (fun r M' => M' = M ∧ i32 r ∧ (r = -1 ∨ (0 ≤ r ∧ r < cn))) from HH (y - x) x 0 (by omega) (Nat.le_refl _) (by omega) (Int.le_refl _) (by omega)
  intro t
  induction t with
  | zero =>
    intro i j5 h2 h3 h4 h5 h6
    refine k_Ga_drawn_22 h1 (i32s (by omega) (by omega)) b3 ⟨by omega, by omega⟩ (i32s (by omega) (by omega)) ?_
    rw [g7, n7, show Int.toNat ((c : Int) + 1) = c + 1 by first | rfl | omega, e2]
    exact ⟨g0, k7, by omega, fun _ => ⟨rfl, ⟨by decide, by decide⟩, Or.inl rfl⟩, fun u => absurd u (by omega)⟩
  | succ t ih =>
    intro i j5 h2 h3 h4 h5 h6
    refine k_Ga_drawn_22 h1 (i32s (by omega) (by omega)) b3 ⟨by omega, by omega⟩ (i32s (by omega) (by omega)) ?_
    rw [g7, n7, show Int.toNat ((c : Int) + 1) = c + 1 by first | rfl | omega, e2, g8, g9, n8, n9, Int.toNat_natCast]
    refine ⟨g0, k7, by omega, fun _ => ⟨rfl, ⟨by decide, by decide⟩, Or.inl rfl⟩, fun u => ?_⟩
    have iy : i < y := by omega
    obtain ⟨w1, w2, w3⟩ := e5 i h3 iy
    have w4 := wl i h3 iy
    refine ⟨k9, by omega, fun _ => ?_, fun _ => ⟨k8, by omega, rfl, ⟨by omega, by omega⟩, Or.inr ⟨w1, w2⟩⟩⟩
    rw [show ((i : Int) + 1) = ((i + 1 : Nat) : Int) by first | rfl | omega]
    exact ih (i + 1) _ (by omega) (by omega) (by omega) (by omega) (by rw [show i + 1 - x = (i - x) + 1 by first | rfl | omega]; omega)
end GAL
end
section
/-! The class's game, exactly: is it the next state. -/
section GAX
variable {G : mG} {d z g p O P K V F L cnt U w9 Ab Be C Ab0 Be0 C0 cn k : Nat} {M0 M : mM} {ns : Nat → Int} {sf ef : Nat → Nat}
theorem x_Ga_isNext (hx : GY U w9 M0 z g p O P K V F ns sf ef L cnt Ab0 Be0 C0 M Ab Be C) (hk : k < 512) : Ci G y_Ga_isNext d [vr g, vi k] M (fun r M' => M' = M ∧ (r = 0 ∨ r = 1) ∧ (r = 1 ↔ ∀ v, v < V → mI M (g + 1) (12 * k + v) = mI M (g + 10 + 2) v)) := by
  obtain ⟨h1, h2, h3, h4, h5, -⟩ := hx
  obtain ⟨g0, ⟨g1, -, -, -, -, -, -, -, -, g15, -⟩, ⟨k1, -⟩, ⟨n1, -⟩⟩ := h2
  obtain ⟨p5, p6⟩ := h4.2.2.1
  have m0 := h3.1
  have m5 := h3.2.1.2.1
  have km := h3.2.2.1.2.1
  have nm := h3.2.2.2.1.1
  refine k_Ga_isNext h1 (i32s (by omega) (by omega)) ?_
  suffices HH : ∀ (t i : Nat), V ≤ i + t → i ≤ V → (∀ v, v < i → mI M (g + 1) (12 * k + v) = mI M (g + 10 + 2) v) → h_Ga_isNext_2 G d g k i M (fun r M' => M' = M ∧ (r = 0 ∨ r = 1) ∧ (r = 1 ↔ ∀ v, v < V → mI M (g + 1) (12 * k + v) = mI M (g + 10 + 2) v)) from HH V 0 (by omega) (by omega) (fun v hv => absurd hv (by omega))
  intro t
  induction t with
  | zero =>
    intro i hi hi2 he
    refine k_Ga_isNext_2 h1 (i32s (by omega) (by omega)) (i32s (by omega) (by omega)) ?_
    rw [h5.1, p5]
    exact ⟨g0, h4.1.1, fun _ => ⟨rfl, Or.inr rfl, fun _ v hv => he v (by omega), fun _ => rfl⟩, fun y => absurd y (by omega)⟩
  | succ t ih =>
    intro i hi hi2 he
    refine k_Ga_isNext_2 h1 (i32s (by omega) (by omega)) (i32s (by omega) (by omega)) ?_
    have t1 : Int.toNat ((k : Int) * 12 + (i : Int)) = 12 * k + i := by omega
    rw [h5.1, p5, g1, n1, g15, m5, nm, t1, Int.toNat_natCast]
    refine ⟨g0, h4.1.1, fun y => ⟨rfl, Or.inr rfl, fun _ v hv => he v (by omega), fun _ => rfl⟩, fun y => ⟨k1, by omega, m0, km, by omega, fun e1 => ?_, fun e1 => ⟨rfl, Or.inl rfl, fun u => absurd u (by decide), fun u => absurd (u i (by omega)) e1⟩⟩⟩
    rw [show ((i : Int) + 1) = ((i + 1 : Nat) : Int) by first | rfl | omega]
    refine ih (i + 1) (by omega) (by omega) (fun v hv => ?_)
    by_cases y2 : v = i
    · rw [y2]; exact e1
    · exact he v (by omega)
end GAX
end
section
/-! The class's game, exactly: a state is entered. -/
/-- the hash of a state -/
def hq9 (f : Nat → Int) : Nat → Int
  | 0 => 0
  | i + 1 => w32 (hq9 f i * 31 + f i)
def hs9 (f : Nat → Int) (V : Nat) : Nat := (andI (xorI (hq9 f V) (ushrI (hq9 f V) 15)) 1023).toNat
theorem hq9_cg {f f' : Nat → Int} : ∀ {V : Nat}, (∀ v, v < V → f v = f' v) → hq9 f V = hq9 f' V
  | 0, _ => rfl
  | V + 1, h => by
    show w32 (hq9 f V * 31 + f V) = w32 (hq9 f' V * 31 + f' V)
    rw [hq9_cg (fun v hv => h v (by omega)), h V (by omega)]
theorem hs9_cg {f f' : Nat → Int} {V : Nat} (h : ∀ v, v < V → f v = f' v) : hs9 f V = hs9 f' V := by
  unfold hs9
  rw [hq9_cg h]
theorem SLq.cg {sl : Nat → Int} {hs hs' : Nat → Nat} {n : Nat} (h : SLq sl hs n) (e : ∀ k, k < n → hs k = hs' k) : SLq sl hs' n := ⟨h.1, fun k hk => by rw [← e k hk]; exact h.2.1 k hk, h.2.2⟩
/-- the slots tell the states, and these are all different -/
def SLm (M : mM) (g V cn : Nat) : Prop := SLq (mI M (g + 20)) (fun k => hs9 (fun v => mI M (g + 1) (12 * k + v)) V) cn ∧ ∀ i j, i < cn → j < cn → (∀ v, v < V → mI M (g + 1) (12 * i + v) = mI M (g + 1) (12 * j + v)) → i = j
/-- state k is the next one -/
def mtk (M : mM) (g V k : Nat) : Prop := ∀ v, v < V → mI M (g + 1) (12 * k + v) = mI M (g + 10 + 2) v
def enX (M : mM) (g V cn : Nat) (r : Int) (M' : mM) : Prop := (∃ k : Nat, k < cn ∧ mtk M g V k ∧ r = (k : Int) ∧ M' = M) ∨ ((∀ k, k < cn → ¬ mtk M g V k) ∧ ((cn = 512 ∧ r = -1 ∧ M' = M) ∨ (cn < 512 ∧ r = (cn : Int) ∧ mI M' g 0 = ((cn + 1 : Nat) : Int) ∧ SLm M' g V (cn + 1) ∧ (∀ v, v < 12 → mI M' (g + 1) (12 * cn + v) = mI M (g + 10 + 2) v) ∧ ∀ j, j < 12 * cn → mI M' (g + 1) j = mI M (g + 1) j)))
section GAW
variable {G : mG} {d z g p O P K V F L cnt U w9 Ab Be C Ab0 Be0 C0 cn k : Nat} {M0 M : mM} {ns : Nat → Int} {sf ef : Nat → Nat}
theorem x_en51 {h : Nat} (hx : GY U w9 M0 z g p O P K V F ns sf ef L cnt Ab0 Be0 C0 M Ab Be C) (hc : mI M g 0 = ((cn : Nat) : Int)) (hcn : cn ≤ 512) (sm : SLm M g V cn) (hh : h = hs9 (fun v => mI M (g + 10 + 2) v) V) : ∀ (t i : Nat), 1024 ≤ i + t → i ≤ 1024 → (∀ t', t' < i → ∃ k : Nat, k < cn ∧ mI M (g + 20) ((h + t') % 1024) = (k : Int) ∧ ¬ mtk M g V k) → h_Ga_enter_51 G (d + 1) g (((h + i) % 1024 : Nat) : Int) i M (fun r M' => enG U w9 M0 z g p O P K V F ns sf ef L cnt Ab0 Be0 C0 M Ab Be C cn r M' ∧ enX M g V cn r M') := by
  have hs : SLt M g cn := fun i hi => (sm.1.1 i hi).imp id (fun ⟨k, k1, k2⟩ => ⟨by omega, by omega⟩)
  have hV : V ≤ 12 := hx.2.2.2.1.2.2.1.2
  have md : ∀ x : Nat, x % 1024 < 1024 := fun x => Nat.mod_lt _ (by decide)
  obtain ⟨h1, h2, h3, h4, h5, -⟩ := id hx
  obtain ⟨g0, ⟨g1, -, -, -, -, -, -, -, -, g15, g16, -⟩, ⟨k1, -, -, -, -, -, -, -, -, k20, -⟩, ⟨n1, -, -, -, -, -, -, -, -, n20, -⟩⟩ := h2
  have m0 := h3.1
  have m5 := h3.2.1.2.1
  have km := h3.2.2.1.2.1
  have nm := h3.2.2.2.1.1
  -- a new state
  have new : ∀ {sl i : Nat}, sl < 1024 → i < 1024 → sl = (h + i) % 1024 → mI M (g + 20) sl = -1 → (∀ t, t < i → mI M (g + 20) ((h + t) % 1024) ≠ -1) → (∀ k, k < cn → ¬ mtk M g V k) → mK M g = 7 ∧ ((mI M g 0 = 512) → (enG U w9 M0 z g p O P K V F ns sf ef L cnt Ab0 Be0 C0 M Ab Be C cn (-1) M ∧ enX M g V cn (-1) M)) ∧ (¬ (mI M g 0 = 512) → (mK M (mR M g 16) = 30 ∧ ((0 : Int) ≤ sl ∧ (sl : Int) < (mN M (mR M g 16) : Int)) ∧ ∀ M23, M23 = mUI M (mR M g 16) (Int.toNat sl) (mI M g 0) → mK M23 (mR M23 g 15) = 5 ∧ mK M23 (mR M23 (mR M23 g 15) 5) = 30 ∧ mK M23 (mR M23 g 1) = 30 ∧ ((0 : Int) ≤ 0 ∧ (0 : Int) ≤ (mI M23 g 0) * 12 ∧ (0 : Int) ≤ 12 ∧ 0 + 12 ≤ (mN M23 (mR M23 (mR M23 g 15) 5) : Int) ∧ ((mI M23 g 0) * 12) + 12 ≤ (mN M23 (mR M23 g 1) : Int)) ∧ ∀ M29, M29 = mCpy M23 (mR M23 (mR M23 g 15) 5) (mR M23 g 1) 0 (Int.toNat ((mI M23 g 0) * 12)) 12 → i32 ((mI M29 g 0) + 1) ∧ ∀ M32, M32 = mUI M29 g 0 ((mI M29 g 0) + 1) → enG U w9 M0 z g p O P K V F ns sf ef L cnt Ab0 Be0 C0 M Ab Be C cn ((mI M32 g 0) - 1) M32 ∧ enX M g V cn ((mI M32 g 0) - 1) M32)) := fun {sl i9} hsl hi9 esl fsl bsl nom => by
    refine ⟨g0, fun y => ⟨⟨hx, FI.refl, fun _ _ => rfl, cn, hc, Nat.le_refl _, hcn, hs, Or.inl rfl, ⟨by decide, by decide⟩, fun _ => by omega⟩, Or.inr ⟨nom, Or.inl ⟨by omega, rfl, rfl⟩⟩⟩, fun y => ?_⟩
    rw [g16, n20, Int.toNat_natCast, hc]
    refine ⟨k20, by omega, fun M23 e23 => ?_⟩
    have f23 : FI (fun x => x = g + 20) M M23 := by rw [e23]; exact FI.ui rfl
    have c23 : mI M23 g 0 = ((cn : Nat) : Int) := by rw [f23.2.2.2.2.2.2 g (show ¬ g = g + 20 by first | rfl | omega)]; exact hc
    rw [f23.1, f23.2.1, f23.2.2.1, g15, m5, g1, n1, nm, c23]
    refine ⟨m0, km, k1, ⟨by omega, by omega, by omega, by omega, by omega⟩, fun M29 e29 => ?_⟩
    have f29 : FI (fun x => x = g + 1) M23 M29 := by
      rw [e29]
      refine ⟨rfl, rfl, rfl, rfl, rfl, rfl, fun x hx => ?_⟩
      funext j
      exact if_neg (fun u => hx u.1)
    have c29 : mI M29 g 0 = ((cn : Nat) : Int) := by rw [f29.2.2.2.2.2.2 g (show ¬ g = g + 1 by first | rfl | omega)]; exact c23
    rw [c29]
    refine ⟨⟨by omega, by omega⟩, fun M32 e32 => ?_⟩
    have f32 : FI (fun x => x = g) M29 M32 := by rw [e32]; exact FI.ui rfl
    have c32 : mI M32 g 0 = ((cn + 1 : Nat) : Int) := by rw [mI_ui g 0 e32, if_pos ⟨rfl, rfl⟩]; omega
    have ff : FI (fun x => x = g ∨ x = g + 1 ∨ x = g + 20) M M32 := ((f23.mono (fun _ y => Or.inr (Or.inr y))).trans (f29.mono (fun _ y => Or.inr (Or.inl y)))).trans (f32.mono (fun _ y => Or.inl y))
    have o32 : mOk M32 := by rw [e32]; exact mOk_UI (by rw [e29]; exact mOk_Cpy (by rw [e23]; exact mOk_UI h1 ⟨by omega, by omega⟩)) ⟨by omega, by omega⟩
    rw [c32]
    have n32 : ∀ j, mI M32 (g + 1) j = if 12 * cn ≤ j ∧ j < 12 * cn + 12 then mI M (g + 10 + 2) (j - 12 * cn) else mI M (g + 1) j := fun j => by
      rw [f32.2.2.2.2.2.2 _ (show ¬ g + 1 = g by first | rfl | omega), e29]
      show (if g + 1 = g + 1 ∧ Int.toNat (((cn : Nat) : Int) * 12) ≤ j ∧ j < Int.toNat (((cn : Nat) : Int) * 12) + 12 then mI M23 (g + 10 + 2) (0 + (j - Int.toNat (((cn : Nat) : Int) * 12))) else mI M23 (g + 1) j) = _
      rw [show Int.toNat (((cn : Nat) : Int) * 12) = 12 * cn by first | rfl | omega, f23.2.2.2.2.2.2 _ (show ¬ g + 10 + 2 = g + 20 by first | rfl | omega), f23.2.2.2.2.2.2 _ (show ¬ g + 1 = g + 20 by first | rfl | omega), Nat.zero_add]
      by_cases y3 : 12 * cn ≤ j ∧ j < 12 * cn + 12
      · rw [if_pos ⟨rfl, y3⟩, if_pos y3]
      · rw [if_neg (fun q => y3 q.2), if_neg y3]
    have s32 : ∀ j, mI M32 (g + 20) j = if j = sl then ((cn : Nat) : Int) else mI M (g + 20) j := fun j => by
      rw [f32.2.2.2.2.2.2 _ (show ¬ g + 20 = g by first | rfl | omega), f29.2.2.2.2.2.2 _ (show ¬ g + 20 = g + 1 by first | rfl | omega), mI_ui _ j e23]
      by_cases y3 : j = sl
      · rw [if_pos ⟨rfl, y3⟩, if_pos y3]
      · rw [if_neg (fun q => y3 q.2), if_neg y3]
    have old : ∀ k v, k < cn → v < V → mI M32 (g + 1) (12 * k + v) = mI M (g + 1) (12 * k + v) := fun k v hk hv => by
      rw [n32, if_neg (by omega)]
    have nw : ∀ v, v < 12 → mI M32 (g + 1) (12 * cn + v) = mI M (g + 10 + 2) v := fun v hv => by
      rw [n32, if_pos (by omega), show 12 * cn + v - 12 * cn = v by first | rfl | omega]
    have sq : SLm M32 g V (cn + 1) := by
      refine ⟨SLq.put (h := h) (t := i9) (sl := mI M (g + 20)) (sm.1.cg (fun k hk => hs9_cg (fun v hv => (old k v hk hv).symm))) ?_ hi9 (by rw [← esl]; exact fsl) bsl (fun j _ => by rw [s32, esl]), fun i j hi hj eq => ?_⟩
      · show hs9 (fun v => mI M32 (g + 1) (12 * cn + v)) V % 1024 = h % 1024
        rw [hh, hs9_cg (f := fun v => mI M32 (g + 1) (12 * cn + v)) (f' := fun v => mI M (g + 10 + 2) v) (fun v hv => nw v (by omega))]
      · by_cases yi : i = cn <;> by_cases yj : j = cn
        · omega
        · refine absurd (fun v hv => ?_) (nom j (by omega))
          rw [← old j v (by omega) hv, ← eq v hv, yi]
          exact nw v (by omega)
        · refine absurd (fun v hv => ?_) (nom i (by omega))
          rw [← old i v (by omega) hv, eq v hv, yj]
          exact nw v (by omega)
        · refine sm.2 i j (by omega) (by omega) (fun v hv => ?_)
          rw [← old i v (by omega) hv, ← old j v (by omega) hv]
          exact eq v hv
    refine ⟨?_, Or.inr ⟨nom, Or.inr ⟨by omega, by omega, c32, sq, nw, fun j hj => by rw [n32, if_neg (by omega)]⟩⟩⟩
    refine ⟨hx.fi o32 (ff.mono (fun x y => by
      have y' : x = g ∨ x = g + 1 ∨ x = g + 20 := y
      show (g ≤ x ∧ x ≤ g + 9) ∨ x = g + 12 ∨ (g + 20 ≤ x ∧ x ≤ g + 22)
      omega)), ff, fun i hi => ?_, cn + 1, c32, by omega, by omega, fun i hi => ?_, Or.inr ⟨by omega, by omega⟩, ⟨by omega, by omega⟩, fun t => absurd t (by omega)⟩
    · rw [mI_ui g i e32, if_neg (fun u => hi u.2), f29.2.2.2.2.2.2 g (show ¬ g = g + 1 by first | rfl | omega), f23.2.2.2.2.2.2 g (show ¬ g = g + 20 by first | rfl | omega)]
    · rw [f32.2.2.2.2.2.2 _ (show ¬ g + 20 = g by first | rfl | omega), f29.2.2.2.2.2.2 _ (show ¬ g + 20 = g + 1 by first | rfl | omega), mI_ui _ i e23]
      by_cases y0 : i = sl
      · rw [if_pos ⟨rfl, y0⟩]
        exact Or.inr ⟨by omega, by omega⟩
      · rw [if_neg (fun u => y0 u.2)]
        rcases hs i hi with u | u
        · exact Or.inl u
        · exact Or.inr ⟨u.1, by omega⟩
  have nof : ∀ i, i < 1024 → (∀ t', t' < i → ∃ k : Nat, k < cn ∧ mI M (g + 20) ((h + t') % 1024) = (k : Int) ∧ ¬ mtk M g V k) → mI M (g + 20) ((h + i) % 1024) = -1 → ∀ k, k < cn → ¬ mtk M g V k := fun i hi bf fr k hk mt => by
    have eh : hs9 (fun v => mI M (g + 1) (12 * k + v)) V = h := by rw [hh]; exact hs9_cg mt
    have st := sm.1.step (t := i) hk hi (fun t' ht' => by
      show mI M (g + 20) ((hs9 (fun v => mI M (g + 1) (12 * k + v)) V + t') % 1024) ≠ (k : Int)
      rw [eh]
      obtain ⟨k', a1, a2, a3⟩ := bf t' ht'
      intro w
      rw [a2] at w
      have : k' = k := by omega
      rw [this] at a3
      exact a3 mt)
    have st : mI M (g + 20) ((hs9 (fun v => mI M (g + 1) (12 * k + v)) V + i) % 1024) ≠ -1 := st
    rw [eh] at st
    exact st fr
  intro t
  induction t with
  | zero =>
    intro i hi hi2 bf
    obtain ⟨t0, a1, a2⟩ := sm.1.free (h := h) (by omega)
    obtain ⟨k, k1, k2, -⟩ := bf t0 (by omega)
    rw [k2] at a2
    omega
  | succ t ih =>
    intro i hi hi2 bf
    obtain ⟨sl, esl⟩ : ∃ sl, sl = (h + i) % 1024 := ⟨_, rfl⟩
    have hsl : sl < 1024 := by rw [esl]; exact md _
    have i10 : i < 1024 := by
      by_cases u : i = 1024
      · obtain ⟨t0, a1, a2⟩ := sm.1.free (h := h) (by omega)
        obtain ⟨k, k1, k2, -⟩ := bf t0 (by omega)
        rw [k2] at a2
        omega
      · omega
    rw [← esl]
    refine k_Ga_enter_51 h1 (i32s (by omega) (by omega)) (i32s (by omega) (by omega)) ⟨fun _ => ⟨g0, by rw [g16]; exact k20, by rw [g16, n20]; omega⟩, fun y => ?_, fun y => ?_⟩
    · rw [g16, Int.toNat_natCast] at y
      have fsl : mI M (g + 20) sl = -1 := y.resolve_left (by omega)
      have nn := nof i i10 bf (by rw [← esl]; exact fsl)
      exact new hsl i10 esl fsl (fun t' ht' => by
        obtain ⟨k, k1, k2, -⟩ := bf t' ht'
        rw [k2]
        omega) nn
    rw [g16, Int.toNat_natCast] at y
    have y1 : mI M (g + 20) sl ≠ -1 := fun u => y (Or.inr u)
    obtain ⟨k, kc, ek⟩ := (sm.1.1 sl hsl).resolve_left y1
    rw [g16, n20, Int.toNat_natCast, ek]
    refine ⟨g0, k20, by omega, (x_Ga_isNext hx (by omega)).mono (fun r M' q => ?_)⟩
    obtain ⟨e, hr, hm⟩ := q
    subst e
    rw [g16, n20, ek]
    have ia := i_and (x := (sl : Int) + 1) 10 (by decide) 1023 (by decide) ⟨by decide, by decide⟩
    have p10 : (2 : Int) ^ 10 = 1024 := by decide
    rw [p10] at ia
    have es2 : andI ((sl : Int) + 1) 1023 = (((h + (i + 1)) % 1024 : Nat) : Int) := by rw [ia]; omega
    refine ⟨m_b32 hr, h1, fun r0 => ?_, fun r1 => ⟨g0, k20, by omega, ⟨hx, FI.refl, fun _ _ => rfl, cn, hc, Nat.le_refl _, hcn, hs, Or.inr ⟨by omega, by omega⟩, ⟨by omega, by omega⟩, fun t => absurd t (by omega)⟩, Or.inl ⟨k, kc, hm.mp (by omega), rfl, rfl⟩⟩⟩
    rw [es2, show ((i : Int) + 1) = ((i + 1 : Nat) : Int) by first | rfl | omega]
    refine ih (i + 1) (by omega) (by omega) (fun t' ht' => ?_)
    by_cases y2 : t' = i
    · rw [y2, ← esl]
      exact ⟨k, kc, ek, fun mt => by have := hm.mpr mt; omega⟩
    · exact bf t' (by omega)
theorem x_Ga_enter (hx : GY U w9 M0 z g p O P K V F ns sf ef L cnt Ab0 Be0 C0 M Ab Be C) (hc : mI M g 0 = ((cn : Nat) : Int)) (hcn : cn ≤ 512) (sm : SLm M g V cn) : Ci G y_Ga_enter (d + 2) [vr g] M (fun r M' => enG U w9 M0 z g p O P K V F ns sf ef L cnt Ab0 Be0 C0 M Ab Be C cn r M' ∧ enX M g V cn r M') := by
  obtain ⟨h1, h2, h3, h4, h5, -⟩ := id hx
  obtain ⟨g0, ⟨g1, -, -, -, -, -, -, -, -, g15, g16, -⟩, -, -⟩ := h2
  obtain ⟨p5, p6⟩ := h4.2.2.1
  have m0 := h3.1
  have m5 := h3.2.1.2.1
  have km := h3.2.2.1.2.1
  have nm := h3.2.2.2.1.1
  refine k_Ga_enter h1 ?_
  suffices HH : ∀ (t i : Nat) (x : Int), V ≤ i + t → i ≤ V → i32 x → x = hq9 (fun v => mI M (g + 10 + 2) v) i → h_Ga_enter_4 G (d + 1) g x i M (fun r M' => enG U w9 M0 z g p O P K V F ns sf ef L cnt Ab0 Be0 C0 M Ab Be C cn r M' ∧ enX M g V cn r M') from HH V 0 0 (by omega) (by omega) ⟨by decide, by decide⟩ rfl
  have fin : h_Ga_enter_51 G (d + 1) g (andI (xorI (hq9 (fun v => mI M (g + 10 + 2) v) V) (ushrI (hq9 (fun v => mI M (g + 10 + 2) v) V) 15)) 1023) 0 M (fun r M' => enG U w9 M0 z g p O P K V F ns sf ef L cnt Ab0 Be0 C0 M Ab Be C cn r M' ∧ enX M g V cn r M') := by
    have ia := i_and (x := xorI (hq9 (fun v => mI M (g + 10 + 2) v) V) (ushrI (hq9 (fun v => mI M (g + 10 + 2) v) V) 15)) 10 (by decide) 1023 (by decide) ⟨by decide, by decide⟩
    have p10 : (2 : Int) ^ 10 = 1024 := by decide
    rw [p10] at ia
    have es : andI (xorI (hq9 (fun v => mI M (g + 10 + 2) v) V) (ushrI (hq9 (fun v => mI M (g + 10 + 2) v) V) 15)) 1023 = (((hs9 (fun v => mI M (g + 10 + 2) v) V + 0) % 1024 : Nat) : Int) := by
      unfold hs9
      rw [ia]
      omega
    rw [es]
    exact x_en51 hx hc hcn sm rfl 1024 0 (by omega) (by omega) (fun t' ht' => absurd ht' (by omega))
  intro t
  induction t with
  | zero =>
    intro i x hi hi2 ix ex
    refine k_Ga_enter_4w h1 ix (i32s (by omega) (by omega)) ?_
    rw [h5.1, p5]
    exact ⟨g0, h4.1.1, fun y0 => by rw [ex, show i = V by first | rfl | omega]; exact fin, fun y => absurd y (by omega)⟩
  | succ t ih =>
    intro i x hi hi2 ix ex
    refine k_Ga_enter_4w h1 ix (i32s (by omega) (by omega)) ?_
    rw [h5.1, p5, g15, m5, nm]
    refine ⟨g0, h4.1.1, fun y0 => by rw [ex, show i = V by first | rfl | omega]; exact fin, fun y => ⟨m0, km, by omega, ?_⟩⟩
    rw [show ((i : Int) + 1) = ((i + 1 : Nat) : Int) by first | rfl | omega]
    refine ih (i + 1) _ (by omega) (by omega) i32_w32 ?_
    rw [ex, Int.toNat_natCast]
    rfl
end GAW
end
