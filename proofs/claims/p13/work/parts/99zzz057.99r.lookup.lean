/-! The reference: looking a name up. -/
section LK2
variable {G : mG} {d a N g T K : Nat} {M M2 : mM}
abbrev lkP (a g : Nat) : Nat → Prop := fun x => x = a + 93 ∨ x = a + 95 ∨ x = g + 7
theorem lkP_in {q : Nat} (hg : g = a + 13 ∨ g = a + 49) (h : lkP a g q) : q ∈ nums a := by
  rcases h with h | h | h
  · rw [h]; exact n93
  · rw [h]; exact n95
  · exact tL_in hg (by omega)
/-- a cell that belongs to no list -/
abbrev frO (o : Nat) : Prop := o < 21192 ∧ o ∉ nuO ∧ ∀ q, q ∈ nuO → o ≠ q + 1
theorem offx {o : Nat} (h : frO o) : a + o < a + 21192 ∧ a + o ∉ nums a ∧ (∀ q, q ∈ nums a → a + o ≠ q + 1) := by
  refine ⟨by have := h.1; omega, fun z => ?_, fun q z e => ?_⟩
  · obtain ⟨o', z1, z2⟩ := nums_off.1 z
    have : o' = o := by omega
    rw [this] at z1
    exact h.2.1 z1
  · obtain ⟨o', z1, z2⟩ := nums_off.1 z
    exact h.2.2 o' z1 (by omega)
theorem goffx {i : Nat} (hg : g = a + 13 ∨ g = a + 49) (h1 : frO (13 + i)) (h2 : frO (49 + i)) : g + i < a + 21192 ∧ g + i ∉ nums a ∧ (∀ q, q ∈ nums a → g + i ≠ q + 1) := by
  rcases hg with z | z
  · rw [z, Nat.add_assoc]
    exact offx h1
  · rw [z, Nat.add_assoc]
    exact offx h2
theorem Mv.cell {P S : Nat → Prop} {M3 : mM} {x : Nat} (m : Mv P S M2 a M3) (w : Wd M2 a) (hin : ∀ q, P q → q ∈ nums a) (hx : x < a + 21192) (h1 : x ∉ nums a) (h2 : ∀ q, q ∈ nums a → x ≠ q + 1) (hS : ¬ S x) : mI M3 x = mI M2 x := by
  have hz := w.2.2.2
  exact (m.2.2.2.1.2.2.2.1 x (by omega) (fun z => h1 (hin x z)) (fun q hq z => by
    rcases (w.arr (hin q hq)).2 with y | y
    · exact h2 q (hin q hq) (z.trans y)
    · omega) hS).1
theorem Mv.cellL {P S : Nat → Prop} {M3 : mM} {x : Nat} (m : Mv P S M2 a M3) (w : Wd M2 a) (hin : ∀ q, P q → q ∈ nums a) (hx : x < a + 21192 ∧ x ∉ nums a ∧ (∀ q, q ∈ nums a → x ≠ q + 1)) (hS : ¬ S x) : mI M3 x = mI M2 x ∧ mL M3 x = mL M2 x := by
  have hz := w.2.2.2
  exact m.2.2.2.1.2.2.2.1 x (by omega) (fun z => hx.2.1 (hin x z)) (fun q hq z => by
    rcases (w.arr (hin q hq)).2 with y | y
    · exact hx.2.2 q (hin q hq) (z.trans y)
    · omega) hS
/-- the draft while its trees are looked at -/
def Lc (M : mM) (a g N T K : Nat) : Prop := mOk M ∧ Wx M a N ∧ Nm M a g N K ∧ nd M g T ∧ mR M a 10 = g ∧ (g = a + 13 ∨ g = a + 49) ∧ (0 ≤ mI M g 6 ∧ mI M g 6 ≤ 60 ∧ 0 ≤ mI M g 12 ∧ mI M g 12 ≤ 12) ∧ T ≤ 30000
/-- nothing but values of names, truths and looks has changed -/
def LO (M : mM) (a g N T K : Nat) (M2 : mM) : Prop := Mv (lkP a g) (fun x => x = a) M a M2 ∧ Lc M2 a g N T K ∧ (∀ i, i ≠ 16 → i ≠ 17 → mI M2 a i = mI M a i) ∧ (∀ n, so M2 g n = so M g n ∧ fp M2 g n = fp M g n ∧ np M2 g n = np M g n) ∧ mI M2 g = mI M g
theorem lkP_no (hg : g = a + 13 ∨ g = a + 49) (h : Wd M a) : ¬ lkP a g (a + 5) ∧ ¬ lkP a g (a + 7) ∧ ¬ lkP a g (a + 9) ∧ ¬ lkP a g (mR M a 2) ∧ ¬ lkP a g (a + 85) ∧ ¬ lkP a g (a + 87) ∧ ¬ lkP a g (a + 89) := by
  have h1 := h.1.2.1
  refine ⟨by omega, by omega, by omega, ?_, by omega, by omega, by omega⟩
  rcases h1 with w | w <;> rw [w.2] <;> omega
/-- a step that changes only those -/
theorem Lc.step {P S : Nat → Prop} {M3 : mM} (h : Lc M2 a g N T K) (m : Mv P S M2 a M3) (hP : ∀ q, P q → lkP a g q) (hS : ∀ x, S x → x = a) (h7 : ln M3 (g + 7) = ln M2 (g + 7)) : Lc M3 a g N T K ∧ (∀ n, so M3 g n = so M2 g n ∧ fp M3 g n = fp M2 g n ∧ np M3 g n = np M2 g n) ∧ mI M3 g = mI M2 g ∧ Mv (lkP a g) (fun x => x = a) M2 a M3 := by
  obtain ⟨hO, hx, hn, hd, h10, hg, hb, hT⟩ := h
  have w := hx.1.1
  have hz := w.2.2.2
  have no := lkP_no hg w
  have hin : ∀ q, P q → q ∈ nums a := fun q hq => lkP_in hg (hP q hq)
  have keep : ∀ q, q ∈ nums a → ¬ lkP a g q → sameN M2 M3 q := fun q hq hne => m.lst hq (fun z => hne (hP q z))
  have gfree : g ∉ nums a := fun z => by
    obtain ⟨o, z1, z2⟩ := nums_off.1 z
    rcases hg with y | y
    · have : o = 13 := by omega
      rw [this] at z1; exact absurd z1 (by decide)
    · have : o = 49 := by omega
      rw [this] at z1; exact absurd z1 (by decide)
  have gI : mI M3 g = mI M2 g := (m.2.2.2.1.2.2.2.1 g (by omega) (fun z => gfree (hin g z)) (fun q hq z => by
    rcases (w.arr (hin q hq)).2 with y | y
    · have : g = q + 1 := by omega
      have q' := hP q hq
      omega
    · omega) (fun z => by have := hS g z; omega)).1
  have o13 := goffx (i := 13) hg (by decide) (by decide)
  have c13 : mI M3 (g + 13) = mI M2 (g + 13) := m.cell w hin o13.1 o13.2.1 o13.2.2 (fun z => by have := hS _ z; omega)
  have k1 := keep (g + 1) (tL_in hg (by omega)) (by omega)
  have k9 := keep (g + 9) (tL_in hg (by omega)) (by omega)
  have k11 := keep (g + 11) (tL_in hg (by omega)) (by omega)
  have k85 := keep _ (n85 (a := a)) no.2.2.2.2.1
  have k87 := keep _ (n87 (a := a)) no.2.2.2.2.2.1
  have k89 := keep _ (n89 (a := a)) no.2.2.2.2.2.2
  refine ⟨⟨m.1, hx.mv m hin (fun z => no.1 (hP _ z)) (fun z => no.2.1 (hP _ z)) (fun z => no.2.2.1 (hP _ z)) (fun z => no.2.2.2.1 (hP _ z)), ?_, fun q hq => ?_, by rw [m.rfl_a w hin]; exact h10, hg, by rw [gI]; exact hb, hT⟩, fun n => ⟨k1.2.1 n, k9.2.1 n, k11.2.1 n⟩, gI, m.mono hP hS (fun q hq => w.lt (lkP_in hg hq))⟩
  · obtain ⟨n1, n2, n3, n4, n5'⟩ := hn
    refine ⟨by rw [k85.1]; exact n1, by rw [k87.1]; exact n2, by rw [k89.1]; exact n3, n4, fun k hk => ?_⟩
    rw [k85.2.1, k87.2.1, k89.2.1, gI, c13]
    exact n5' k hk
  · by_cases z : q = g + 7
    · rw [z, h7]; exact hd _ (by omega)
    · rw [(keep q (tL_in hg hq) (by omega)).1]; exact hd q hq
theorem LO.step {P S : Nat → Prop} {M3 : mM} (h : LO M a g N T K M2) (m : Mv P S M2 a M3) (hP : ∀ q, P q → lkP a g q) (hS : ∀ x, S x → x = a) (h7 : ln M3 (g + 7) = ln M2 (g + 7)) (hf : ∀ i, i ≠ 16 → i ≠ 17 → mI M3 a i = mI M2 a i) : LO M a g N T K M3 := by
  obtain ⟨k1, k2, k3, k4⟩ := h.2.1.step m hP hS h7
  exact ⟨h.1.trans k4, k1, fun i a1 a2 => (hf i a1 a2).trans (h.2.2.1 i a1 a2), fun n => ⟨(k2 n).1.trans (h.2.2.2.1 n).1, (k2 n).2.1.trans (h.2.2.2.1 n).2.1, (k2 n).2.2.trans (h.2.2.2.1 n).2.2⟩, k3.trans h.2.2.2.2⟩
/-- a name as it is known: a rule, or 100 and a variable -/
def nmr (co : Int) (M : mM) (g : Nat) (v : Int) : Prop := (0 ≤ v ∧ v < mI M g 6 ∧ v < 60 ∧ (co ≠ 0 → mI M (g + 13) v.toNat = 0)) ∨ (co = 0 ∧ 100 ≤ v ∧ v < 100 + mI M g 12 ∧ v < 112)
theorem goff {x : Nat} (hg : g = a + 13 ∨ g = a + 49) (hx : x = g + 14 ∨ x = g + 18) : x < a + 21192 ∧ x ∉ nums a ∧ (∀ q, q ∈ nums a → x ≠ q + 1) ∧ x ≠ a := by
  refine ⟨by omega, fun z => ?_, fun q z e => ?_, by omega⟩
  · obtain ⟨o, z1, z2⟩ := nums_off.1 z
    have : o = 27 ∨ o = 31 ∨ o = 63 ∨ o = 67 := by omega
    rcases this with y | y | y | y <;> rw [y] at z1 <;> exact absurd z1 (by decide)
  · obtain ⟨o, z1, z2⟩ := nums_off.1 z
    have : o = 26 ∨ o = 30 ∨ o = 62 ∨ o = 66 := by omega
    rcases this with y | y | y | y <;> rw [y] at z1 <;> exact absurd z1 (by decide)
/-- the type of a name: 1 a truth, 0 a number -/
def tn (M : mM) (g : Nat) (v : Int) : Int := if (if 100 ≤ v then mI M (g + 18) (v - 100).toNat else mI M (g + 14) v.toNat) = 0 then 0 else 1
theorem LO.fm (w : Wd M a) (h : LO M a g N T K M2) : mI M2 (g + 13) = mI M (g + 13) := by
  have hg := h.2.1.2.2.2.2.2.1
  have o13 := goffx (i := 13) hg (by decide) (by decide)
  exact h.1.cell w (fun q hq => lkP_in hg hq) o13.1 o13.2.1 o13.2.2 (by omega)
theorem LO.tn (w : Wd M a) (h : LO M a g N T K M2) : mI M2 (g + 14) = mI M (g + 14) ∧ mI M2 (g + 18) = mI M (g + 18) := by
  have hg := h.2.1.2.2.2.2.2.1
  have a1 := goff (x := g + 14) hg (Or.inl rfl)
  have a2 := goff (x := g + 18) hg (Or.inr rfl)
  exact ⟨h.1.cell w (fun q hq => lkP_in hg hq) a1.1 a1.2.1 a1.2.2.1 a1.2.2.2, h.1.cell w (fun q hq => lkP_in hg hq) a2.1 a2.2.1 a2.2.2.1 a2.2.2.2⟩
end LK2
