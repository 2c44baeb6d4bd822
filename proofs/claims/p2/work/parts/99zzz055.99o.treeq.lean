section
/-! The reference: tree, the whole. -/
section TQ
variable {G : mG} {d a N g T i j : Nat} {M : mM}
/-- a tree more -/
def trQ (M : mM) (a g N T i j : Nat) (r : Int) (M' : mM) : Prop := Mv (trP a g) (fun _ => False) M a M' ∧ r = T ∧ ∃ T', nd M' g T' ∧ T < T' ∧ T' ≤ T + (j - i) ∧ To (nmw (wk M a) N) M' g 0 T T' ∧ np M' g T = -1 ∧ ∀ n, n < T → so M' g n = so M g n ∧ va M' g n = va M g n ∧ fp M' g n = fp M g n ∧ np M' g n = np M g n
end TQ
end
section
/-! The reference: turning a pile, looking a name up. -/
section LU
variable {G : mG} {d a N g T K : Nat} {M M2 : mM}
theorem n93 : a + 93 ∈ nums a := nums_o (by decide)
theorem n95 : a + 95 ∈ nums a := nums_o (by decide)
theorem s_MM_turn {L k : Nat} (hO : mOk M) (h : Wd M a) (hl : ln M (a + 95) = (L + 2 * k : Nat)) (hb : L + 2 * k ≤ 200000) (hk : 1 ≤ k) : Cv G y_MM_turn (d + 1) [vr a, vi L] M (fun M' => Mv (fun x => x = a + 95) (fun _ => False) M a M' ∧ ln M' (a + 95) = ln M (a + 95) ∧ (∀ j, j < k → nt M' (a + 95) (L + 2 * j) = nt M (a + 95) (L + 2 * (k - 1 - j))) ∧ ∀ i, (∀ j, j < k → i ≠ L + 2 * j) → nt M' (a + 95) i = nt M (a + 95) i) := by
  have r20 : ∀ (M3 : mM), Wd M3 a → mR M3 a 20 = a + 95 := fun M3 w => w.1.2.2.2.2.1.2.2.2.2.2.1
  have l0 : mI M (a + 95) 1 = (L + 2 * k : Nat) := hl
  refine k_MM_turn hO ⟨by omega, by omega⟩ ?_
  rw [r20 M h, l0]
  refine ⟨h.1.1, (h.nu n95).1, ?_⟩
  -- t pairs have been turned
  suffices H : ∀ (c t : Nat) (M3 : mM), c + t = k → Mv (fun x => x = a + 95) (fun _ => False) M a M3 → ln M3 (a + 95) = ln M (a + 95) → 2 * t ≤ k → (∀ j, j < k → nt M3 (a + 95) (L + 2 * j) = if j < t ∨ k - 1 - j < t then nt M (a + 95) (L + 2 * (k - 1 - j)) else nt M (a + 95) (L + 2 * j)) → (∀ i, (∀ j, j < k → i ≠ L + 2 * j) → nt M3 (a + 95) i = nt M (a + 95) i) → h_MM_turn_12 G d a (L + 2 * t : Nat) ((L + 2 * k : Nat) - 2 - 2 * (t : Int)) M3 (fun M' => Mv (fun x => x = a + 95) (fun _ => False) M a M' ∧ ln M' (a + 95) = ln M (a + 95) ∧ (∀ j, j < k → nt M' (a + 95) (L + 2 * j) = nt M (a + 95) (L + 2 * (k - 1 - j))) ∧ ∀ i, (∀ j, j < k → i ≠ L + 2 * j) → nt M' (a + 95) i = nt M (a + 95) i) by
    have := H k 0 M (by omega) (Mv.refl hO h (fun q hq => by rw [hq]; exact h.lt n95)) rfl (by omega) (fun j hj => by rw [if_neg (by omega)]) (fun i _ => rfl)
    rw [show L + 2 * 0 = L by omega, show ((L + 2 * k : Nat) : Int) - 2 - 2 * ((0 : Nat) : Int) = ((L + 2 * k : Nat) : Int) - 2 by omega] at this
    exact this
  intro c
  induction c with
  | zero => intro t M3 hc _ _ h2; omega
  | succ c ih =>
    intro t M3 hc m3 l3 ht h3 o3
    have w3 := m3.2.1
    have u3 := w3.nu (p := a + 95) n95
    have c3 : ((L + 2 * k : Nat) : Int) ≤ cp M3 (a + 95) := by rw [← hl, ← l3]; exact u3.2.2.2.1.2
    have ecp : mN M3 (mR M3 (a + 95) 0) = cp M3 (a + 95) := rfl
    refine k_MM_turn_12 m3.1 ⟨by omega, by omega⟩ ⟨by omega, by omega⟩ ⟨fun q => ⟨m3, l3, fun j hj => ?_, o3⟩, fun q => ?_⟩
    · rw [h3 j hj]
      by_cases z : j < t ∨ k - 1 - j < t
      · rw [if_pos z]
      · rw [if_neg z, show k - 1 - j = j by omega]
    · rw [r20 M3 w3]
      refine ⟨w3.1.1, u3.1, (s_MN_at m3.1 u3 (by omega)).mono (fun x M4 h4 => ?_)⟩
      obtain ⟨e4, hx⟩ := h4
      subst e4
      rw [r20 M4 w3, show ((L + 2 * k : Nat) : Int) - 2 - 2 * (t : Int) = ((L + 2 * (k - 1 - t) : Nat) : Int) by omega]
      refine ⟨by rw [hx]; exact (m3.1 _ _).1, m3.1, w3.1.1, u3.1, (s_MN_at m3.1 u3 (by omega)).mono (fun y M5 h5 => ?_)⟩
      obtain ⟨e5, hy⟩ := h5
      subst e5
      have hx32 : i32 x := by rw [hx]; exact (m3.1 _ _).1
      have hy32 : i32 y := by rw [hy]; exact (m3.1 _ _).1
      refine ⟨hy32, m3.1, u3.2.1, by omega, fun M6 e6 => ?_⟩
      rw [Int.toNat_natCast] at e6
      obtain ⟨m6, l6, k6, -⟩ := mv_el hy32 m3.1 w3 n95 e6
      have w6 := m6.2.1
      have u6 := w6.nu (p := a + 95) n95
      have c6 : ((L + 2 * k : Nat) : Int) ≤ cp M6 (a + 95) := by rw [← hl, ← l3, ← l6]; exact u6.2.2.2.1.2
      have ecp6 : mN M6 (mR M6 (a + 95) 0) = cp M6 (a + 95) := rfl
      rw [r20 M6 w6]
      refine ⟨w6.1.1, u6.1, u6.2.1, by omega, fun M7 e7 => ?_⟩
      rw [Int.toNat_natCast] at e7
      obtain ⟨m7, l7, k7, -⟩ := mv_el hx32 m6.1 w6 n95 e7
      have nx := ih (t + 1) M7 (by omega) ((m3.trans m6).trans m7) (by rw [l7, l6, l3]) (by omega) (fun j hj => ?_) (fun i hi => ?_)
      · rw [show ((L + 2 * (t + 1) : Nat) : Int) = ((L + 2 * t : Nat) : Int) + 2 by omega, show ((L + 2 * k : Nat) : Int) - 2 - 2 * ((t + 1 : Nat) : Int) = ((L + 2 * (k - 1 - t) : Nat) : Int) - 2 by omega] at nx
        exact nx
      · rw [k7, k6]
        by_cases z1 : j = k - 1 - t
        · rw [if_pos (by omega), hx, h3 t (by omega), if_neg (by omega), if_pos (by omega), z1, show k - 1 - (k - 1 - t) = t by omega]
        · rw [if_neg (by omega)]
          by_cases z2 : j = t
          · rw [if_pos (by omega), hy, h3 (k - 1 - t) (by omega), if_neg (by omega), if_pos (by omega), z2]
          · rw [if_neg (by omega), h3 j hj]
            by_cases z3 : j < t ∨ k - 1 - j < t
            · rw [if_pos z3, if_pos (by omega)]
            · rw [if_neg z3, if_neg (by omega)]
      · rw [k7, k6, if_neg (hi (k - 1 - t) (by omega)), if_neg (hi t (by omega))]
        exact o3 i hi
end LU
end
section
/-! The reference: looking a name up. -/
section LK2
variable {G : mG} {d a N g T K : Nat} {M M2 : mM}
abbrev lkP (a g : Nat) : Nat → Prop := fun x => x = a + 93 ∨ x = a + 95 ∨ x = g + 7
theorem lkP_in {q : Nat} (hg : g = a + 13 ∨ g = a + 49) (h : lkP a g q) : q ∈ nums a := by
  rcases h with h | h | h
  · rw [h]; exact n93
  · rw [h]; exact n95
  · exact tL_in hg (by omega)
/-- a cell that belongs to no list -/
abbrev frO (o : Nat) : Prop := o < 21192 ∧ o ∉ nuO ∧ ∀ q, q ∈ nuO → o ≠ q + 1
theorem offx {o : Nat} (h : frO o) : a + o < a + 21192 ∧ a + o ∉ nums a ∧ (∀ q, q ∈ nums a → a + o ≠ q + 1) := by
  refine ⟨by have := h.1; omega, fun z => ?_, fun q z e => ?_⟩
  · obtain ⟨o', z1, z2⟩ := nums_off.1 z
    have : o' = o := by omega
    rw [this] at z1
    exact h.2.1 z1
  · obtain ⟨o', z1, z2⟩ := nums_off.1 z
    exact h.2.2 o' z1 (by omega)
theorem goffx {i : Nat} (hg : g = a + 13 ∨ g = a + 49) (h1 : frO (13 + i)) (h2 : frO (49 + i)) : g + i < a + 21192 ∧ g + i ∉ nums a ∧ (∀ q, q ∈ nums a → g + i ≠ q + 1) := by
  rcases hg with z | z
  · rw [z, Nat.add_assoc]
    exact offx h1
  · rw [z, Nat.add_assoc]
    exact offx h2
theorem Mv.cell {P S : Nat → Prop} {M3 : mM} {x : Nat} (m : Mv P S M2 a M3) (w : Wd M2 a) (hin : ∀ q, P q → q ∈ nums a) (hx : x < a + 21192) (h1 : x ∉ nums a) (h2 : ∀ q, q ∈ nums a → x ≠ q + 1) (hS : ¬ S x) : mI M3 x = mI M2 x := by
  have hz := w.2.2.2
  exact (m.2.2.2.1.2.2.2.1 x (by omega) (fun z => h1 (hin x z)) (fun q hq z => by
    rcases (w.arr (hin q hq)).2 with y | y
    · exact h2 q (hin q hq) (z.trans y)
    · omega) hS).1
theorem Mv.cellL {P S : Nat → Prop} {M3 : mM} {x : Nat} (m : Mv P S M2 a M3) (w : Wd M2 a) (hin : ∀ q, P q → q ∈ nums a) (hx : x < a + 21192 ∧ x ∉ nums a ∧ (∀ q, q ∈ nums a → x ≠ q + 1)) (hS : ¬ S x) : mI M3 x = mI M2 x ∧ mL M3 x = mL M2 x := by
  have hz := w.2.2.2
  exact m.2.2.2.1.2.2.2.1 x (by omega) (fun z => hx.2.1 (hin x z)) (fun q hq z => by
    rcases (w.arr (hin q hq)).2 with y | y
    · exact hx.2.2 q (hin q hq) (z.trans y)
    · omega) hS
/-- the draft while its trees are looked at -/
def Lc (M : mM) (a g N T K : Nat) : Prop := mOk M ∧ Wx M a N ∧ Nm M a g N K ∧ nd M g T ∧ mR M a 10 = g ∧ (g = a + 13 ∨ g = a + 49) ∧ (0 ≤ mI M g 6 ∧ mI M g 6 ≤ 60 ∧ 0 ≤ mI M g 12 ∧ mI M g 12 ≤ 12) ∧ T ≤ 30000
/-- nothing but values of names, truths and looks has changed -/
def LO (M : mM) (a g N T K : Nat) (M2 : mM) : Prop := Mv (lkP a g) (fun x => x = a) M a M2 ∧ Lc M2 a g N T K ∧ (∀ i, i ≠ 16 → i ≠ 17 → mI M2 a i = mI M a i) ∧ (∀ n, so M2 g n = so M g n ∧ fp M2 g n = fp M g n ∧ np M2 g n = np M g n) ∧ mI M2 g = mI M g
theorem lkP_no (hg : g = a + 13 ∨ g = a + 49) (h : Wd M a) : ¬ lkP a g (a + 5) ∧ ¬ lkP a g (a + 7) ∧ ¬ lkP a g (a + 9) ∧ ¬ lkP a g (mR M a 2) ∧ ¬ lkP a g (a + 85) ∧ ¬ lkP a g (a + 87) ∧ ¬ lkP a g (a + 89) := by
  have h1 := h.1.2.1
  refine ⟨by omega, by omega, by omega, ?_, by omega, by omega, by omega⟩
  rcases h1 with w | w <;> rw [w.2] <;> omega
/-- a step that changes only those -/
theorem Lc.step {P S : Nat → Prop} {M3 : mM} (h : Lc M2 a g N T K) (m : Mv P S M2 a M3) (hP : ∀ q, P q → lkP a g q) (hS : ∀ x, S x → x = a) (h7 : ln M3 (g + 7) = ln M2 (g + 7)) : Lc M3 a g N T K ∧ (∀ n, so M3 g n = so M2 g n ∧ fp M3 g n = fp M2 g n ∧ np M3 g n = np M2 g n) ∧ mI M3 g = mI M2 g ∧ Mv (lkP a g) (fun x => x = a) M2 a M3 := by
  obtain ⟨hO, hx, hn, hd, h10, hg, hb, hT⟩ := h
  have w := hx.1.1
  have hz := w.2.2.2
  have no := lkP_no hg w
  have hin : ∀ q, P q → q ∈ nums a := fun q hq => lkP_in hg (hP q hq)
  have keep : ∀ q, q ∈ nums a → ¬ lkP a g q → sameN M2 M3 q := fun q hq hne => m.lst hq (fun z => hne (hP q z))
  have gfree : g ∉ nums a := fun z => by
    obtain ⟨o, z1, z2⟩ := nums_off.1 z
    rcases hg with y | y
    · have : o = 13 := by omega
      rw [this] at z1; exact absurd z1 (by decide)
    · have : o = 49 := by omega
      rw [this] at z1; exact absurd z1 (by decide)
  have gI : mI M3 g = mI M2 g := (m.2.2.2.1.2.2.2.1 g (by omega) (fun z => gfree (hin g z)) (fun q hq z => by
    rcases (w.arr (hin q hq)).2 with y | y
    · have : g = q + 1 := by omega
      have q' := hP q hq
      omega
    · omega) (fun z => by have := hS g z; omega)).1
  have o13 := goffx (i := 13) hg (by decide) (by decide)
  have c13 : mI M3 (g + 13) = mI M2 (g + 13) := m.cell w hin o13.1 o13.2.1 o13.2.2 (fun z => by have := hS _ z; omega)
  have k1 := keep (g + 1) (tL_in hg (by omega)) (by omega)
  have k9 := keep (g + 9) (tL_in hg (by omega)) (by omega)
  have k11 := keep (g + 11) (tL_in hg (by omega)) (by omega)
  have k85 := keep _ (n85 (a := a)) no.2.2.2.2.1
  have k87 := keep _ (n87 (a := a)) no.2.2.2.2.2.1
  have k89 := keep _ (n89 (a := a)) no.2.2.2.2.2.2
  refine ⟨⟨m.1, hx.mv m hin (fun z => no.1 (hP _ z)) (fun z => no.2.1 (hP _ z)) (fun z => no.2.2.1 (hP _ z)) (fun z => no.2.2.2.1 (hP _ z)), ?_, fun q hq => ?_, by rw [m.rfl_a w hin]; exact h10, hg, by rw [gI]; exact hb, hT⟩, fun n => ⟨k1.2.1 n, k9.2.1 n, k11.2.1 n⟩, gI, m.mono hP hS (fun q hq => w.lt (lkP_in hg hq))⟩
  · obtain ⟨n1, n2, n3, n4, n5'⟩ := hn
    refine ⟨by rw [k85.1]; exact n1, by rw [k87.1]; exact n2, by rw [k89.1]; exact n3, n4, fun k hk => ?_⟩
    rw [k85.2.1, k87.2.1, k89.2.1, gI, c13]
    exact n5' k hk
  · by_cases z : q = g + 7
    · rw [z, h7]; exact hd _ (by omega)
    · rw [(keep q (tL_in hg hq) (by omega)).1]; exact hd q hq
theorem LO.step {P S : Nat → Prop} {M3 : mM} (h : LO M a g N T K M2) (m : Mv P S M2 a M3) (hP : ∀ q, P q → lkP a g q) (hS : ∀ x, S x → x = a) (h7 : ln M3 (g + 7) = ln M2 (g + 7)) (hf : ∀ i, i ≠ 16 → i ≠ 17 → mI M3 a i = mI M2 a i) : LO M a g N T K M3 := by
  obtain ⟨k1, k2, k3, k4⟩ := h.2.1.step m hP hS h7
  exact ⟨h.1.trans k4, k1, fun i a1 a2 => (hf i a1 a2).trans (h.2.2.1 i a1 a2), fun n => ⟨(k2 n).1.trans (h.2.2.2.1 n).1, (k2 n).2.1.trans (h.2.2.2.1 n).2.1, (k2 n).2.2.trans (h.2.2.2.1 n).2.2⟩, k3.trans h.2.2.2.2⟩
/-- a name as it is known: a rule, or 100 and a variable -/
def nmr (co : Int) (M : mM) (g : Nat) (v : Int) : Prop := (0 ≤ v ∧ v < mI M g 6 ∧ v < 60 ∧ (co ≠ 0 → mI M (g + 13) v.toNat = 0)) ∨ (co = 0 ∧ 100 ≤ v ∧ v < 100 + mI M g 12 ∧ v < 112)
theorem goff {x : Nat} (hg : g = a + 13 ∨ g = a + 49) (hx : x = g + 14 ∨ x = g + 18) : x < a + 21192 ∧ x ∉ nums a ∧ (∀ q, q ∈ nums a → x ≠ q + 1) ∧ x ≠ a := by
  refine ⟨by omega, fun z => ?_, fun q z e => ?_, by omega⟩
  · obtain ⟨o, z1, z2⟩ := nums_off.1 z
    have : o = 27 ∨ o = 31 ∨ o = 63 ∨ o = 67 := by omega
    rcases this with y | y | y | y <;> rw [y] at z1 <;> exact absurd z1 (by decide)
  · obtain ⟨o, z1, z2⟩ := nums_off.1 z
    have : o = 26 ∨ o = 30 ∨ o = 62 ∨ o = 66 := by omega
    rcases this with y | y | y | y <;> rw [y] at z1 <;> exact absurd z1 (by decide)
/-- the type of a name: 1 a truth, 0 a number -/
def tn (M : mM) (g : Nat) (v : Int) : Int := if (if 100 ≤ v then mI M (g + 18) (v - 100).toNat else mI M (g + 14) v.toNat) = 0 then 0 else 1
theorem LO.fm (w : Wd M a) (h : LO M a g N T K M2) : mI M2 (g + 13) = mI M (g + 13) := by
  have hg := h.2.1.2.2.2.2.2.1
  have o13 := goffx (i := 13) hg (by decide) (by decide)
  exact h.1.cell w (fun q hq => lkP_in hg hq) o13.1 o13.2.1 o13.2.2 (by omega)
theorem LO.tn (w : Wd M a) (h : LO M a g N T K M2) : mI M2 (g + 14) = mI M (g + 14) ∧ mI M2 (g + 18) = mI M (g + 18) := by
  have hg := h.2.1.2.2.2.2.2.1
  have a1 := goff (x := g + 14) hg (Or.inl rfl)
  have a2 := goff (x := g + 18) hg (Or.inr rfl)
  exact ⟨h.1.cell w (fun q hq => lkP_in hg hq) a1.1 a1.2.1 a1.2.2.1 a1.2.2.2, h.1.cell w (fun q hq => lkP_in hg hq) a2.1 a2.2.1 a2.2.2.1 a2.2.2.2⟩
end LK2
end
section
/-! The reference: looking at a node. -/
section LA
variable {G : mG} {d a N g T K n L : Nat} {M M2 M4 : mM}
/-- the type of a node, from its parts' types: 1 a truth, 0 a number -/
def tyr (s : Int) (k : Nat) (u : Nat → Int) (t : Int) : Prop := if s = 29 ∨ s = 30 ∨ s = 31 then (∀ j, j < k → u j = 1) ∧ t = 1 else if s = 18 ∨ s = 23 then u 0 = u 1 ∧ t = 1 else if s = 32 then u 0 = 1 ∧ u 1 = t ∧ u 2 = t else (∀ j, j < k → u j = 0) ∧ t = if 19 ≤ s ∧ s ≤ 22 then 1 else 0
def tyn (w : Int → Int) (s v : Int) (k : Nat) (u : Nat → Int) (t : Int) : Prop := if s = 1 then t = w v else if s = 2 then t = 0 else if s = 12 ∨ s = 13 then t = 1 else tyr s k u t
/-- what becomes of the names -/
def laE (co : Int) (M M2 : mM) (a g n k : Nat) (u : Nat → Int) (t : Int) (M3 : mM) : Prop := mI M3 a 16 ≠ 0 ∨ (mI M3 a 16 = mI M2 a 16 ∧ (so M2 g n = 1 → nmr co M g (va M3 g n)) ∧ (∀ k, (k ≠ n ∨ so M2 g n ≠ 1) → va M3 g k = va M2 g k) ∧ tyn (tn M g) (so M2 g n) (va M3 g n) k u t)
/-- how many parts a node has, as the program counts them -/
def pks (nm : Int → Prop) (M : mM) (g T n k : Nat) : Prop := (k = 0 ∧ fp M g n = -1 ∧ (so M g n = 1 ∨ so M g n = 2 ∨ so M g n = 12 ∨ so M g n = 13)) ∨ (1 ≤ k ∧ k ≤ 30000 ∧ ari (so M g n) k ∧ fp M g n = ((n + 1 : Nat) : Int) ∧ ∃ f e : Nat, e ≤ T ∧ Tn nm M g f k (n + 1) e)
theorem s_MM_parts {nm : Int → Prop} {k : Nat} (h : LO M a g N T K M2) (hn : n < T) (hk : pks nm M2 g T n k) : Ci G y_MM_parts (d + 1) [vr a, vi n] M2 (fun r M' => M' = M2 ∧ r = k) := by
  obtain ⟨hO, hw, -, hd, h10, hg, -, hT⟩ := id h.2.1
  have w := hw.1.1
  have gp := w.gp hg
  have r4 : mR M2 g 4 = g + 9 := gp.2.1.2.2.2.2.1
  have u9 := w.nu (tL_in (a := a) (q := g + 9) hg (tLk9 g))
  have l9 := hd (g + 9) (by first | exact tLk9 g | omega)
  refine k_MM_parts hO (i32s (by omega) (by omega)) ?_
  rw [h10, r4]
  refine ⟨w.1.1, gp.1, u9.1, (s_MN_at hO u9 (by omega)).mono (fun z M1 e1 => ?_)⟩
  obtain ⟨e1, hz⟩ := e1
  subst e1
  refine ⟨by rw [hz]; exact (hO _ _).1, hO, ?_⟩
  rcases hk with ⟨k0, k1, -⟩ | ⟨k0, k1, k2, k3, f, e, k4, k5⟩
  · have : z = -1 := hz.trans k1
    rw [this]
    exact k_MM_parts_14 hO ⟨by omega, by omega⟩ (i32s (by omega) (by omega)) ⟨fun _ => ⟨rfl, by omega⟩, fun q => by omega⟩
  · have : z = ((n + 1 : Nat) : Int) := hz.trans k3
    rw [this]
    have := s_pt14 (G := G) (d := d) hO w hg h10 hd (by omega) k f (n + 1) e 0 k0 k5 k4 (by omega) (by omega)
    rw [show (0 : Int) + (k : Int) = (k : Int) by omega] at this
    exact this
end LA
end
section
/-! The reference: looking at a node, to the end. -/
section LB
variable {G : mG} {d a N g T K n L : Nat} {M M2 : mM}
/-- a sum -/
def su (u : Nat → Int) : Nat → Int
  | 0 => 0
  | j + 1 => su u j + u j
theorem su_b {u : Nat → Int} : ∀ {k : Nat}, (∀ j, j < k → u j = 0 ∨ u j = 1) → 0 ≤ su u k ∧ su u k ≤ k ∧ (su u k = k → ∀ j, j < k → u j = 1) ∧ (su u k = 0 → ∀ j, j < k → u j = 0)
  | 0, _ => ⟨by rw [su]; omega, by rw [su]; omega, fun _ j hj => by omega, fun _ j hj => by omega⟩
  | k + 1, h => by
    obtain ⟨a1, a2, a3, a4⟩ := su_b (k := k) (fun j hj => h j (by omega))
    have := h k (by omega)
    rw [su]
    refine ⟨by omega, by omega, fun e j hj => ?_, fun e j hj => ?_⟩
    · by_cases z : j = k
      · rw [z]; omega
      · exact a3 (by omega) j (by omega)
    · by_cases z : j = k
      · rw [z]; omega
      · exact a4 (by omega) j (by omega)
end LB
end
section
/-! The reference: the pile of nodes to look at. -/
section LP
variable {G : mG} {d a N g T K : Nat} {M M2 M3 M4 : mM} {nm : Int → Prop}
/-- only the pile of looks has changed -/
def kp (M : mM) (a g N T K : Nat) (M3 M4 : mM) : Prop := LO M a g N T K M4 ∧ mI M4 a 16 = mI M3 a 16 ∧ (∀ k, va M4 g k = va M3 g k) ∧ sameN M3 M4 (a + 93)
theorem kp.refl (h : LO M a g N T K M3) : kp M a g N T K M3 M3 := ⟨h, rfl, fun _ => rfl, sameN.refl⟩
theorem kp.trans {M5 : mM} (h : kp M a g N T K M3 M4) (k : kp M a g N T K M4 M5) : kp M a g N T K M3 M5 :=
  ⟨k.1, k.2.1.trans h.2.1, fun n => (k.2.2.1 n).trans (h.2.2.1 n), h.2.2.2.trans k.2.2.2⟩
theorem kp.mk {S : Nat → Prop} (h : LO M a g N T K M3) (m : Mv (fun x => x = a + 95) S M3 a M4) (hS : ∀ x, ¬ S x) : kp M a g N T K M3 M4 := by
  obtain ⟨hO, hw, -, -, -, hg, -, -⟩ := id h.2.1
  have w := hw.1.1
  have f := (m.fld w (fun q hq => by rw [hq]; exact n95) (hS a)).1
  have s7 := m.lst (tL_in (a := a) (q := g + 7) hg (tLk7 g)) (by omega)
  exact ⟨h.step m (fun q hq => Or.inr (Or.inl hq)) (fun x hx => (hS x hx).elim) s7.1 (fun i _ _ => by rw [f]), by rw [f], s7.2.1, m.lst n93 (by omega)⟩
theorem Tn.lo {f md n e : Nat} (h : Tn nm M3 g f md n e) (h3 : LO M a g N T K M3) (h4 : LO M a g N T K M4) (hv : ∀ k, n ≤ k → k < e → va M4 g k = va M3 g k) : Tn nm M4 g f md n e := by
  have s : ∀ k, so M4 g k = so M3 g k ∧ fp M4 g k = fp M3 g k ∧ np M4 g k = np M3 g k := fun k => by
    have a1 := h3.2.2.2.1 k
    have a2 := h4.2.2.2.1 k
    exact ⟨a2.1.trans a1.1.symm, a2.2.1.trans a1.2.1.symm, a2.2.2.trans a1.2.2.symm⟩
  exact h.fr (fun k b1 b2 => ⟨(s k).1, hv k b1 b2, (s k).2.1⟩) (fun k _ _ => (s k).2.2) (fun _ => (s n).2.2)
theorem s_lk_push {X : Nat} {v : Int} (hv : i32 v) (h : LO M a g N T K M3) (hl : ln M3 (a + 95) = (X : Int)) (hX : X ≤ 65000) : Cv G y_MN_add d [vr (a + 95), vi v] M3 (fun M4 => mOk M4 ∧ kp M a g N T K M3 M4 ∧ ln M4 (a + 95) = (X + 1 : Nat) ∧ (∀ j, j < X → nt M4 (a + 95) j = nt M3 (a + 95) j) ∧ nt M4 (a + 95) X = v) := by
  obtain ⟨hO, hw, -⟩ := id h.2.1
  have w := hw.1.1
  refine (s_MN_addB (B := 65536) hv hO (w.nu n95) (by omega) (by decide)).mono (fun M4 t => ?_)
  have m := mv_addB w n95 (Or.inr (Or.inr (Or.inl rfl))) t
  obtain ⟨-, -, -, t1, t2, t3, -⟩ := t
  rw [hl] at t1 t2 t3
  rw [Int.toNat_natCast] at t3
  exact ⟨m.1, kp.mk h m (fun _ z => z), by rw [t1]; omega, fun j hj => t2 j (by omega), t3⟩
theorem s_lk_pop {X : Nat} (h : LO M a g N T K M3) (hl : ln M3 (a + 95) = (X + 1 : Nat)) : Ci G y_MN_take d [vr (a + 95)] M3 (fun x M4 => i32 x ∧ mOk M4 ∧ kp M a g N T K M3 M4 ∧ ln M4 (a + 95) = (X : Int) ∧ (∀ j, nt M4 (a + 95) j = nt M3 (a + 95) j) ∧ x = nt M3 (a + 95) X) := by
  obtain ⟨hO, hw, -⟩ := id h.2.1
  have w := hw.1.1
  refine (s_MN_take hO (w.nu n95) (by omega)).mono (fun x M4 t => ?_)
  have m := mv_take w n95 t
  obtain ⟨-, -, -, t1, t2, t3⟩ := t
  rw [hl] at t1 t3
  rw [show (((X + 1 : Nat) : Int) - 1).toNat = X by omega] at t3
  exact ⟨by rw [t3]; exact (hO _ _).1, m.1, kp.mk h m (fun _ z => z), by rw [t1]; omega, t2, t3⟩
/-- the brothers from n on -/
def ci (M : mM) (g n : Nat) : Nat → Int
  | 0 => n
  | j + 1 => np M g (ci M g n j).toNat
theorem ci_succ {n m : Nat} (h : np M g n = (m : Int)) : ∀ j, ci M g n (j + 1) = ci M g m j
  | 0 => h
  | j + 1 => by
    have := ci_succ h j
    rw [ci, this, ci]
theorem Tn.ge : ∀ {f md n e : Nat}, Tn nm M g f md n e → n + md ≤ e := by
  intro f
  induction f with
  | zero => intro md n e h; exact h.elim
  | succ f ih =>
    intro md n e h
    have hl := h.lt
    rw [Tn] at h
    by_cases c0 : md = 0
    · omega
    · rw [if_neg c0] at h
      by_cases c1 : md = 1
      · omega
      · rw [if_neg c1] at h
        obtain ⟨m, -, h2, h3⟩ := h
        have := h2.lt
        have := ih h3
        omega
/-- pushing the parts -/
theorem s_look126 {co : Int} {Q : Int → mM → Prop} {X : Nat} (hco : i32 co) (hX : X ≤ 65000) : ∀ (k f c e Y : Nat) (M3 : mM), 1 ≤ k → Tn nm M3 g f k c e → e ≤ T → LO M a g N T K M3 → ln M3 (a + 95) = (Y : Int) → Y + 2 * k ≤ 65000 → (∀ M4, kp M a g N T K M3 M4 → ln M4 (a + 95) = (Y + 2 * k : Nat) → (∀ j, j < Y → nt M4 (a + 95) j = nt M3 (a + 95) j) → (∀ j, j < k → nt M4 (a + 95) (Y + 2 * j) = ci M g c j ∧ nt M4 (a + 95) (Y + 2 * j + 1) = 0) → h_MM_look_126 G d a co (-1) X M4 Q) → h_MM_look_126 G d a co c X M3 Q := by
  intro k
  induction k with
  | zero => intro f c e Y M3 hk; omega
  | succ k ih =>
    intro f c e Y M3 hk ht he h3 l3 hY hQ
    obtain ⟨hO, hw, -, -, h10, hg, -, hT⟩ := id h3.2.1
    have w := hw.1.1
    have hlt := ht.lt
    have r20 : ∀ {M3 : mM}, Wd M3 a → mR M3 a 20 = a + 95 := fun w => w.1.2.2.2.2.1.2.2.2.2.2.1
    refine k_MM_look_126 hO hco (i32s (by omega) (by omega)) (i32s (by omega) (by omega)) ⟨fun q => by omega, fun _ => ?_⟩
    rw [r20 w]
    refine ⟨w.1.1, (w.nu n95).1, (s_lk_push (i32s (by omega) (by omega)) h3 l3 (by omega)).mono (fun M4 h4 => ?_)⟩
    obtain ⟨o4, k4, l4, e4, v4⟩ := h4
    have w4 := k4.1.2.1.2.1.1.1
    rw [r20 w4]
    refine ⟨o4, w4.1.1, (w4.nu n95).1, (s_lk_push (i32s (by omega) (by omega)) k4.1 l4 (by omega)).mono (fun M5 h5 => ?_)⟩
    obtain ⟨o5, k5, l5, e5, v5⟩ := h5
    obtain ⟨-, hw5, -, hd5, h105, -, -, -⟩ := id k5.1.2.1
    have w5 := hw5.1.1
    have gp := w5.gp hg
    have r5 : mR M5 g 5 = g + 11 := gp.2.1.2.2.2.2.2.1
    have u11 := w5.nu (tL_in (a := a) (q := g + 11) hg (tLk11 g))
    have l11 := hd5 (g + 11) (by omega)
    rw [h105, r5]
    refine ⟨o5, w5.1.1, gp.1, u11.1, (s_MN_at o5 u11 (by omega)).mono (fun z M6 e6 => ?_)⟩
    obtain ⟨e6, hz⟩ := e6
    subst e6
    refine ⟨by rw [hz]; exact (o5 _ _).1, o5, ?_⟩
    have kk := k4.trans k5
    have ht6 : Tn nm M6 g f (k + 1) c e := ht.lo h3 kk.1 (fun j _ _ => kk.2.2.1 j)
    have hnp : np M6 g c = np M g c := (kk.1.2.2.2.1 c).2.2
    have base : ∀ j, j < Y → nt M6 (a + 95) j = nt M3 (a + 95) j := fun j hj => (e5 j (by omega)).trans (e4 j hj)
    have b0 : nt M6 (a + 95) Y = (c : Int) := (e5 Y (by omega)).trans v4
    cases f with
    | zero => exact ht6.elim
    | succ f =>
      rw [Tn, if_neg (by omega)] at ht6
      by_cases k0 : k + 1 = 1
      · rw [if_pos k0] at ht6
        have : z = -1 := hz.trans ht6.1
        rw [this]
        refine hQ M6 kk (by rw [l5]; omega) base (fun j hj => ?_)
        have : j = 0 := by omega
        subst this
        exact ⟨b0, v5⟩
      · rw [if_neg k0] at ht6
        obtain ⟨m, q1, q2, q3⟩ := ht6
        have hzm : z = (m : Int) := hz.trans q1
        rw [hzm]
        refine ih f m e (Y + 2) M6 (by omega) q3 he kk.1 (by rw [l5]) (by omega) (fun M7 k7 l7 e7 v7 => ?_)
        refine hQ M7 (kk.trans k7) (by rw [l7]; omega) (fun j hj => (e7 j (by omega)).trans (base j hj)) (fun j hj => ?_)
        cases j with
        | zero => exact ⟨(e7 Y (by omega)).trans b0, (e7 (Y + 1) (by omega)).trans v5⟩
        | succ j =>
          have := v7 j (by omega)
          rw [ci_succ (hnp.symm.trans q1), show Y + 2 * (j + 1) = Y + 2 + 2 * j by omega]
          exact this
end LP
end
section
/-! The reference: trees with types. -/
section TY
variable {a N g T K : Nat} {M M3 M4 : mM} {nm : Int → Prop} {w : Int → Int}
/-- as Tn, and u tells the brothers' types -/
def Ty (nm : Int → Prop) (w : Int → Int) (M : mM) (g : Nat) : Nat → Nat → Nat → Nat → (Nat → Int) → Prop
  | 0, _, _, _, _ => False
  | f + 1, md, n, e, u => if md = 0 then n < e ∧ (u 0 = 0 ∨ u 0 = 1) ∧ ((e = n + 1 ∧ fp M g n = -1 ∧ (so M g n = 1 ∨ so M g n = 2 ∨ so M g n = 12 ∨ so M g n = 13) ∧ (so M g n = 2 → 0 ≤ va M g n ∧ va M g n < 1000000000) ∧ (so M g n = 1 → nm (va M g n)) ∧ tyn w (so M g n) (va M g n) 0 (fun _ => 0) (u 0)) ∨ ∃ (k : Nat) (c : Nat → Int), 1 ≤ k ∧ ari (so M g n) k ∧ fp M g n = ((n + 1 : Nat) : Int) ∧ Ty nm w M g f k (n + 1) e c ∧ tyn w (so M g n) (va M g n) k c (u 0))
    else if md = 1 then np M g n = -1 ∧ Ty nm w M g f 0 n e u else ∃ m : Nat, np M g n = (m : Int) ∧ Ty nm w M g f 0 n m u ∧ Ty nm w M g f (md - 1) m e (fun j => u (j + 1))
theorem Ty.tn : ∀ {f md n e : Nat} {u : Nat → Int}, Ty nm w M g f md n e u → Tn nm M g f md n e := by
  intro f
  induction f with
  | zero => intro md n e u h; exact h.elim
  | succ f ih =>
    intro md n e u h
    rw [Ty] at h
    rw [Tn]
    by_cases c0 : md = 0
    · rw [if_pos c0] at h ⊢
      obtain ⟨h1, -, h2⟩ := h
      refine ⟨h1, ?_⟩
      rcases h2 with ⟨b1, b2, b3, b4, b5, -⟩ | ⟨k, c, b1, b2, b3, b4, -⟩
      · exact Or.inl ⟨b1, b2, b3, b4, b5⟩
      · exact Or.inr ⟨k, b1, b2, b3, ih b4⟩
    · rw [if_neg c0] at h ⊢
      by_cases c1 : md = 1
      · rw [if_pos c1] at h ⊢
        exact ⟨h.1, ih h.2⟩
      · rw [if_neg c1] at h ⊢
        obtain ⟨m, q1, q2, q3⟩ := h
        exact ⟨m, q1, ih q2, ih q3⟩
theorem Ty.cg : ∀ {f md n e : Nat} {u v : Nat → Int}, Ty nm w M g f md n e u → (∀ j, j < md + (1 - md) → v j = u j) → Ty nm w M g f md n e v := by
  intro f
  induction f with
  | zero => intro md n e u v h; exact h.elim
  | succ f ih =>
    intro md n e u v h hv
    rw [Ty] at h ⊢
    have h0 := hv 0 (by omega)
    by_cases c0 : md = 0
    · rw [if_pos c0] at h ⊢
      rw [h0]
      exact h
    · rw [if_neg c0] at h ⊢
      by_cases c1 : md = 1
      · rw [if_pos c1] at h ⊢
        exact ⟨h.1, ih h.2 (fun j hj => hv j (by omega))⟩
      · rw [if_neg c1] at h ⊢
        obtain ⟨m, q1, q2, q3⟩ := h
        exact ⟨m, q1, ih q2 (fun j hj => hv j (by omega)), ih q3 (fun j hj => hv (j + 1) (by omega))⟩
theorem Ty.fr : ∀ {f md n e : Nat} {u : Nat → Int}, Ty nm w M3 g f md n e u → (∀ k, n ≤ k → k < e → so M4 g k = so M3 g k ∧ va M4 g k = va M3 g k ∧ fp M4 g k = fp M3 g k) → (∀ k, n < k → k < e → np M4 g k = np M3 g k) → (md ≠ 0 → np M4 g n = np M3 g n) → Ty nm w M4 g f md n e u := by
  intro f
  induction f with
  | zero => intro md n e u h; exact h.elim
  | succ f ih =>
    intro md n e u h h1 h2 h3
    have hlt := h.tn.lt
    rw [Ty] at h ⊢
    by_cases c0 : md = 0
    · rw [if_pos c0] at h ⊢
      have k := h1 n (Nat.le_refl _) hlt
      rw [k.1, k.2.1, k.2.2]
      refine ⟨h.1, h.2.1, ?_⟩
      rcases h.2.2 with q | ⟨k', c, q1, q2, q3, q4, q5⟩
      · exact Or.inl q
      · have := q4.tn.lt
        exact Or.inr ⟨k', c, q1, q2, q3, ih q4 (fun x a b => h1 x (by omega) b) (fun x a b => h2 x (by omega) b) (fun _ => h2 (n + 1) (by omega) this), q5⟩
    · rw [if_neg c0] at h ⊢
      by_cases c1 : md = 1
      · rw [if_pos c1] at h ⊢
        exact ⟨by rw [h3 c0]; exact h.1, ih h.2 h1 h2 (fun z => absurd rfl z)⟩
      · rw [if_neg c1] at h ⊢
        obtain ⟨m, q1, q2, q3⟩ := h
        have l1 := q2.tn.lt
        have l2 := q3.tn.lt
        exact ⟨m, by rw [h3 c0]; exact q1, ih q2 (fun x a b => h1 x a (by omega)) (fun x a b => h2 x a (by omega)) (fun z => absurd rfl z), ih q3 (fun x a b => h1 x (by omega) b) (fun x a b => h2 x (by omega) b) (fun _ => h2 m l1 l2)⟩
theorem Ty.lo {f md n e : Nat} {u : Nat → Int} (h : Ty nm w M3 g f md n e u) (h3 : LO M a g N T K M3) (h4 : LO M a g N T K M4) (hv : ∀ k, n ≤ k → k < e → va M4 g k = va M3 g k) : Ty nm w M4 g f md n e u := by
  have s : ∀ k, so M4 g k = so M3 g k ∧ fp M4 g k = fp M3 g k ∧ np M4 g k = np M3 g k := fun k => by
    have a1 := h3.2.2.2.1 k
    have a2 := h4.2.2.2.1 k
    exact ⟨a2.1.trans a1.1.symm, a2.2.1.trans a1.2.1.symm, a2.2.2.trans a1.2.2.symm⟩
  exact h.fr (fun k b1 b2 => ⟨(s k).1, hv k b1 b2, (s k).2.1⟩) (fun k _ _ => (s k).2.2) (fun _ => (s n).2.2)
/-- more names, the same types -/
theorem Ty.mono {nm' : Int → Prop} {w' : Int → Int} (hn : ∀ v, nm v → nm' v ∧ w' v = w v) : ∀ {f md n e : Nat} {u : Nat → Int}, Ty nm w M g f md n e u → Ty nm' w' M g f md n e u := by
  intro f
  induction f with
  | zero => intro md n e u h; exact h.elim
  | succ f ih =>
    intro md n e u h
    rw [Ty] at h ⊢
    by_cases c0 : md = 0
    · rw [if_pos c0] at h ⊢
      refine ⟨h.1, h.2.1, ?_⟩
      rcases h.2.2 with ⟨b1, b2, b3, b4, b5, b6⟩ | ⟨k', c, q1, q2, q3, q4, q5⟩
      · refine Or.inl ⟨b1, b2, b3, b4, fun z => (hn _ (b5 z)).1, ?_⟩
        unfold tyn at b6 ⊢
        by_cases z : so M g n = 1
        · rw [if_pos z] at b6 ⊢
          rw [(hn _ (b5 z)).2]
          exact b6
        · rw [if_neg z] at b6 ⊢
          exact b6
      · refine Or.inr ⟨k', c, q1, q2, q3, ih q4, ?_⟩
        have z : so M g n ≠ 1 := fun z => by unfold ari at q2; omega
        unfold tyn at q5 ⊢
        rw [if_neg z] at q5 ⊢
        exact q5
    · rw [if_neg c0] at h ⊢
      by_cases c1 : md = 1
      · rw [if_pos c1] at h ⊢
        exact ⟨h.1, ih h.2⟩
      · rw [if_neg c1] at h ⊢
        obtain ⟨m, q1, q2, q3⟩ := h
        exact ⟨m, q1, ih q2, ih q3⟩
end TY
end
section
/-! The reference: looking at a tree. -/
section LV
variable {G : mG} {d a N g T K : Nat} {M M2 M3 M4 : mM} {nm : Int → Prop} {Q : Int → mM → Prop} {co : Int}
theorem r20w (w : Wd M a) : mR M a 20 = a + 95 := w.1.2.2.2.2.1.2.2.2.2.2.1
/-- a pair is taken from the pile -/
theorem s_lk2 {n X : Nat} {s : Int} (hco : i32 co) (h : LO M a g N T K M2) (h16 : mI M2 a 16 = 0) (hn : n < T) (hl : ln M2 (a + 95) = (X + 2 : Nat)) (hX : X ≤ 64000) (e0 : nt M2 (a + 95) X = (n : Int)) (e1 : nt M2 (a + 95) (X + 1) = s)
    (hA : (s = 1 ∨ ¬ (0 ≤ fp M2 g n)) → ∀ M5, kp M a g N T K M2 M5 → ln M5 (a + 95) = (X : Int) → (∀ j, nt M5 (a + 95) j = nt M2 (a + 95) j) → Cv G y_MM_lookAt (d + 5) [vr a, vi n, vi co] M5 (fun M6 => mOk M6 ∧ h_MM_look_32 G (d + 5) a co M6 Q))
    (hB : ¬ (s = 1 ∨ ¬ (0 ≤ fp M2 g n)) → ∀ M6, kp M a g N T K M2 M6 → ln M6 (a + 95) = (X + 2 : Nat) → (∀ j, j < X → nt M6 (a + 95) j = nt M2 (a + 95) j) → nt M6 (a + 95) X = (n : Int) → nt M6 (a + 95) (X + 1) = 1 → h_MM_look_126 G (d + 5) a co (fp M2 g n) (X + 2 : Nat) M6 Q) : h_MM_look_32 G (d + 5) a co M2 Q := by
  obtain ⟨hO, hw, -, -, -, hg, -, hT⟩ := id h.2.1
  have w := hw.1.1
  have hl' : mI M2 (a + 95) 1 = (X + 2 : Nat) := hl
  refine k_MM_look_32 hO hco ?_
  rw [r20w w, hl', h16]
  refine ⟨w.1.1, (w.nu n95).1, fun q => by omega, fun _ => (s_lk_pop (X := X + 1) h hl).mono (fun x M4 h4 => ?_)⟩
  obtain ⟨i4, o4, k4, l4, t4, v4⟩ := h4
  have w4 := k4.1.2.1.2.1.1.1
  rw [r20w w4]
  refine ⟨i4, o4, w4.1.1, (w4.nu n95).1, (s_lk_pop (X := X) k4.1 l4).mono (fun y M5 h5 => ?_)⟩
  obtain ⟨i5, o5, k5, l5, t5, v5⟩ := h5
  have kk := k4.trans k5
  obtain ⟨-, hw5, -, hd5, h105, -, -, -⟩ := id kk.1.2.1
  have w5 := hw5.1.1
  have gp := w5.gp hg
  have r4 : mR M5 g 4 = g + 9 := gp.2.1.2.2.2.2.1
  have u9 := w5.nu (tL_in (a := a) (q := g + 9) hg (tLk9 g))
  have l9 := hd5 (g + 9) (by omega)
  have hy : y = (n : Int) := by rw [v5, t4, e0]
  have hx : x = s := by rw [v4, e1]
  subst hy
  subst hx
  rw [h105, r4]
  refine ⟨i5, o5, w5.1.1, gp.1, u9.1, (s_MN_at o5 u9 (by omega)).mono (fun z M6 e6 => ?_)⟩
  obtain ⟨e6, hz⟩ := e6
  subst e6
  have hz' : z = fp M2 g n := by
    have b1 := (kk.1.2.2.2.1 n).2.1
    have b2 := (h.2.2.2.1 n).2.1
    exact hz.trans (b1.trans b2.symm)
  refine ⟨by rw [hz]; exact (o5 _ _).1, o5, ?_⟩
  rw [hz']
  refine ⟨fun q => ⟨w5.1.1, hA q M6 kk l5 (fun j => (t5 j).trans (t4 j))⟩, fun q => ?_⟩
  rw [r20w w5]
  refine ⟨w5.1.1, (w5.nu n95).1, (s_lk_push (i32s (by omega) (by omega)) kk.1 l5 (by omega)).mono (fun M7 h7 => ?_)⟩
  obtain ⟨o7, k7, l7, t7, v7⟩ := h7
  have w7 := k7.1.2.1.2.1.1.1
  rw [r20w w7]
  refine ⟨o7, w7.1.1, (w7.nu n95).1, (s_lk_push (i32s (by omega) (by omega)) k7.1 l7 (by omega)).mono (fun M8 h8 => ?_)⟩
  obtain ⟨o8, k8, l8, t8, v8⟩ := h8
  have w8 := k8.1.2.1.2.1.1.1
  have l8' : mI M8 (a + 95) 1 = (X + 2 : Nat) := l8
  rw [r20w w8, l8']
  exact ⟨o8, w8.1.1, (w8.nu n95).1, hB q M8 (kk.trans (k7.trans k8)) l8 (fun j hj => by rw [t8 j (by omega), t7 j hj, t5, t4]) (by rw [t8 X (by omega), v7]) v8⟩
/-- trees have been looked at -/
def lkR (co : Int) (M : mM) (a g N T K Lk L kk f md n e : Nat) (M2 M3 : mM) : Prop := LO M a g N T K M3 ∧ mI M3 a 16 = 0 ∧ ln M3 (a + 95) = (Lk : Int) ∧ (∀ j, j < Lk → nt M3 (a + 95) j = nt M2 (a + 95) j) ∧ ln M3 (a + 93) = (L + kk : Nat) ∧ (∀ j, j < L → nt M3 (a + 93) j = nt M2 (a + 93) j) ∧ (∃ u : Nat → Int, (∀ j, j < kk → nt M3 (a + 93) (L + j) = u j) ∧ (∀ j, j < kk → u j = 0 ∨ u j = 1) ∧ Ty (nmr co M g) (tn M g) M3 g f md n e u) ∧ ∀ j, (j < n ∨ e ≤ j) → va M3 g j = va M2 g j
end LV
end
