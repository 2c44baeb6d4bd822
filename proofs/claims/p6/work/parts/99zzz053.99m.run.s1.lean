section
/-! The reference: turning a pile, looking a name up. -/
section LU
variable {G : mG} {d a N g T K : Nat} {M M2 : mM}
theorem n93 : a + 93 ∈ nums a := nums_o (by decide)
theorem n95 : a + 95 ∈ nums a := nums_o (by decide)
theorem s_MM_turn {L k : Nat} (hO : mOk M) (h : Wd M a) (hl : ln M (a + 95) = (L + 2 * k : Nat)) (hb : L + 2 * k ≤ 200000) (hk : 1 ≤ k) : Cv G y_MM_turn (d + 1) [vr a, vi L] M (fun M' => Mv (fun x => x = a + 95) (fun _ => False) M a M' ∧ ln M' (a + 95) = ln M (a + 95) ∧ (∀ j, j < k → nt M' (a + 95) (L + 2 * j) = nt M (a + 95) (L + 2 * (k - 1 - j))) ∧ ∀ i, (∀ j, j < k → i ≠ L + 2 * j) → nt M' (a + 95) i = nt M (a + 95) i) := by
  have r20 : ∀ (M3 : mM), Wd M3 a → mR M3 a 20 = a + 95 := fun M3 w => w.1.2.2.2.2.1.2.2.2.2.2.1
  have l0 : mI M (a + 95) 1 = (L + 2 * k : Nat) := hl
  refine k_MM_turn hO ⟨by omega, by omega⟩ ?_
  rw [r20 M h, l0]
  refine ⟨h.1.1, (h.nu n95).1, ?_⟩
  -- t pairs have been turned
  suffices H : ∀ (c t : Nat) (M3 : mM), c + t = k → Mv (fun x => x = a + 95) (fun _ => False) M a M3 → ln M3 (a + 95) = ln M (a + 95) → 2 * t ≤ k → (∀ j, j < k → nt M3 (a + 95) (L + 2 * j) = if j < t ∨ k - 1 - j < t then nt M (a + 95) (L + 2 * (k - 1 - j)) else nt M (a + 95) (L + 2 * j)) → (∀ i, (∀ j, j < k → i ≠ L + 2 * j) → nt M3 (a + 95) i = nt M (a + 95) i) → h_MM_turn_12 G d a (L + 2 * t : Nat) ((L + 2 * k : Nat) - 2 - 2 * (t : Int)) M3 (fun M' => Mv (fun x => x = a + 95) (fun _ => False) M a M' ∧ ln M' (a + 95) = ln M (a + 95) ∧ (∀ j, j < k → nt M' (a + 95) (L + 2 * j) = nt M (a + 95) (L + 2 * (k - 1 - j))) ∧ ∀ i, (∀ j, j < k → i ≠ L + 2 * j) → nt M' (a + 95) i = nt M (a + 95) i) by
    have := H k 0 M (by omega) (Mv.refl hO h (fun q hq => by rw [hq]; exact h.lt n95)) rfl (by omega) (fun j hj => by rw [if_neg (by omega)]) (fun i _ => rfl)
    rw [show L + 2 * 0 = L by omega, show ((L + 2 * k : Nat) : Int) - 2 - 2 * ((0 : Nat) : Int) = ((L + 2 * k : Nat) : Int) - 2 by omega] at this
    exact this
  intro c
  induction c with
  | zero => intro t M3 hc _ _ h2; omega
  | succ c ih =>
    intro t M3 hc m3 l3 ht h3 o3
    have w3 := m3.2.1
    have u3 := w3.nu (p := a + 95) n95
    have c3 : ((L + 2 * k : Nat) : Int) ≤ cp M3 (a + 95) := by rw [← hl, ← l3]; exact u3.2.2.2.1.2
    have ecp : mN M3 (mR M3 (a + 95) 0) = cp M3 (a + 95) := rfl
    refine k_MM_turn_12 m3.1 ⟨by omega, by omega⟩ ⟨by omega, by omega⟩ ⟨fun q => ⟨m3, l3, fun j hj => ?_, o3⟩, fun q => ?_⟩
    · rw [h3 j hj]
      by_cases z : j < t ∨ k - 1 - j < t
      · rw [if_pos z]
      · rw [if_neg z, show k - 1 - j = j by omega]
    · rw [r20 M3 w3]
      refine ⟨w3.1.1, u3.1, (s_MN_at m3.1 u3 (by omega)).mono (fun x M4 h4 => ?_)⟩
      obtain ⟨e4, hx⟩ := h4
      subst e4
      rw [r20 M4 w3, show ((L + 2 * k : Nat) : Int) - 2 - 2 * (t : Int) = ((L + 2 * (k - 1 - t) : Nat) : Int) by omega]
      refine ⟨by rw [hx]; exact (m3.1 _ _).1, m3.1, w3.1.1, u3.1, (s_MN_at m3.1 u3 (by omega)).mono (fun y M5 h5 => ?_)⟩
      obtain ⟨e5, hy⟩ := h5
      subst e5
      have hx32 : i32 x := by rw [hx]; exact (m3.1 _ _).1
      have hy32 : i32 y := by rw [hy]; exact (m3.1 _ _).1
      refine ⟨hy32, m3.1, u3.2.1, by omega, fun M6 e6 => ?_⟩
      rw [Int.toNat_natCast] at e6
      obtain ⟨m6, l6, k6, -⟩ := mv_el hy32 m3.1 w3 n95 e6
      have w6 := m6.2.1
      have u6 := w6.nu (p := a + 95) n95
      have c6 : ((L + 2 * k : Nat) : Int) ≤ cp M6 (a + 95) := by rw [← hl, ← l3, ← l6]; exact u6.2.2.2.1.2
      have ecp6 : mN M6 (mR M6 (a + 95) 0) = cp M6 (a + 95) := rfl
      rw [r20 M6 w6]
      refine ⟨w6.1.1, u6.1, u6.2.1, by omega, fun M7 e7 => ?_⟩
      rw [Int.toNat_natCast] at e7
      obtain ⟨m7, l7, k7, -⟩ := mv_el hx32 m6.1 w6 n95 e7
      have nx := ih (t + 1) M7 (by omega) ((m3.trans m6).trans m7) (by rw [l7, l6, l3]) (by omega) (fun j hj => ?_) (fun i hi => ?_)
      · rw [show ((L + 2 * (t + 1) : Nat) : Int) = ((L + 2 * t : Nat) : Int) + 2 by omega, show ((L + 2 * k : Nat) : Int) - 2 - 2 * ((t + 1 : Nat) : Int) = ((L + 2 * (k - 1 - t) : Nat) : Int) - 2 by omega] at nx
        exact nx
      · rw [k7, k6]
        by_cases z1 : j = k - 1 - t
        · rw [if_pos (by omega), hx, h3 t (by omega), if_neg (by omega), if_pos (by omega), z1, show k - 1 - (k - 1 - t) = t by omega]
        · rw [if_neg (by omega)]
          by_cases z2 : j = t
          · rw [if_pos (by omega), hy, h3 (k - 1 - t) (by omega), if_neg (by omega), if_pos (by omega), z2]
          · rw [if_neg (by omega), h3 j hj]
            by_cases z3 : j < t ∨ k - 1 - j < t
            · rw [if_pos z3, if_pos (by omega)]
            · rw [if_neg z3, if_neg (by omega)]
      · rw [k7, k6, if_neg (hi (k - 1 - t) (by omega)), if_neg (hi t (by omega))]
        exact o3 i hi
end LU
end
section
/-! The reference: looking a name up. -/
section LK2
variable {G : mG} {d a N g T K : Nat} {M M2 : mM}
abbrev lkP (a g : Nat) : Nat → Prop := fun x => x = a + 93 ∨ x = a + 95 ∨ x = g + 7
theorem lkP_in {q : Nat} (hg : g = a + 13 ∨ g = a + 49) (h : lkP a g q) : q ∈ nums a := by
  rcases h with h | h | h
  · rw [h]; exact n93
  · rw [h]; exact n95
  · exact tL_in hg (by omega)
/-- a cell that belongs to no list -/
abbrev frO (o : Nat) : Prop := o < 21192 ∧ o ∉ nuO ∧ ∀ q, q ∈ nuO → o ≠ q + 1
theorem offx {o : Nat} (h : frO o) : a + o < a + 21192 ∧ a + o ∉ nums a ∧ (∀ q, q ∈ nums a → a + o ≠ q + 1) := by
  refine ⟨by have := h.1; omega, fun z => ?_, fun q z e => ?_⟩
  · obtain ⟨o', z1, z2⟩ := nums_off.1 z
    have : o' = o := by omega
    rw [this] at z1
    exact h.2.1 z1
  · obtain ⟨o', z1, z2⟩ := nums_off.1 z
    exact h.2.2 o' z1 (by omega)
theorem goffx {i : Nat} (hg : g = a + 13 ∨ g = a + 49) (h1 : frO (13 + i)) (h2 : frO (49 + i)) : g + i < a + 21192 ∧ g + i ∉ nums a ∧ (∀ q, q ∈ nums a → g + i ≠ q + 1) := by
  rcases hg with z | z
  · rw [z, Nat.add_assoc]
    exact offx h1
  · rw [z, Nat.add_assoc]
    exact offx h2
theorem Mv.cell {P S : Nat → Prop} {M3 : mM} {x : Nat} (m : Mv P S M2 a M3) (w : Wd M2 a) (hin : ∀ q, P q → q ∈ nums a) (hx : x < a + 21192) (h1 : x ∉ nums a) (h2 : ∀ q, q ∈ nums a → x ≠ q + 1) (hS : ¬ S x) : mI M3 x = mI M2 x := by
  have hz := w.2.2.2
  exact (m.2.2.2.1.2.2.2.1 x (by omega) (fun z => h1 (hin x z)) (fun q hq z => by
    rcases (w.arr (hin q hq)).2 with y | y
    · exact h2 q (hin q hq) (z.trans y)
    · omega) hS).1
theorem Mv.cellL {P S : Nat → Prop} {M3 : mM} {x : Nat} (m : Mv P S M2 a M3) (w : Wd M2 a) (hin : ∀ q, P q → q ∈ nums a) (hx : x < a + 21192 ∧ x ∉ nums a ∧ (∀ q, q ∈ nums a → x ≠ q + 1)) (hS : ¬ S x) : mI M3 x = mI M2 x ∧ mL M3 x = mL M2 x := by
  have hz := w.2.2.2
  exact m.2.2.2.1.2.2.2.1 x (by omega) (fun z => hx.2.1 (hin x z)) (fun q hq z => by
    rcases (w.arr (hin q hq)).2 with y | y
    · exact hx.2.2 q (hin q hq) (z.trans y)
    · omega) hS
/-- the draft while its trees are looked at -/
def Lc (M : mM) (a g N T K : Nat) : Prop := mOk M ∧ Wx M a N ∧ Nm M a g N K ∧ nd M g T ∧ mR M a 10 = g ∧ (g = a + 13 ∨ g = a + 49) ∧ (0 ≤ mI M g 6 ∧ mI M g 6 ≤ 60 ∧ 0 ≤ mI M g 12 ∧ mI M g 12 ≤ 12) ∧ T ≤ 30000
/-- nothing but values of names, truths and looks has changed -/
def LO (M : mM) (a g N T K : Nat) (M2 : mM) : Prop := Mv (lkP a g) (fun x => x = a) M a M2 ∧ Lc M2 a g N T K ∧ (∀ i, i ≠ 16 → i ≠ 17 → mI M2 a i = mI M a i) ∧ (∀ n, so M2 g n = so M g n ∧ fp M2 g n = fp M g n ∧ np M2 g n = np M g n) ∧ mI M2 g = mI M g
theorem lkP_no (hg : g = a + 13 ∨ g = a + 49) (h : Wd M a) : ¬ lkP a g (a + 5) ∧ ¬ lkP a g (a + 7) ∧ ¬ lkP a g (a + 9) ∧ ¬ lkP a g (mR M a 2) ∧ ¬ lkP a g (a + 85) ∧ ¬ lkP a g (a + 87) ∧ ¬ lkP a g (a + 89) := by
  have h1 := h.1.2.1
  refine ⟨by omega, by omega, by omega, ?_, by omega, by omega, by omega⟩
  rcases h1 with w | w <;> rw [w.2] <;> omega
/-- a step that changes only those -/
theorem Lc.step {P S : Nat → Prop} {M3 : mM} (h : Lc M2 a g N T K) (m : Mv P S M2 a M3) (hP : ∀ q, P q → lkP a g q) (hS : ∀ x, S x → x = a) (h7 : ln M3 (g + 7) = ln M2 (g + 7)) : Lc M3 a g N T K ∧ (∀ n, so M3 g n = so M2 g n ∧ fp M3 g n = fp M2 g n ∧ np M3 g n = np M2 g n) ∧ mI M3 g = mI M2 g ∧ Mv (lkP a g) (fun x => x = a) M2 a M3 := by
  obtain ⟨hO, hx, hn, hd, h10, hg, hb, hT⟩ := h
  have w := hx.1.1
  have hz := w.2.2.2
  have no := lkP_no hg w
  have hin : ∀ q, P q → q ∈ nums a := fun q hq => lkP_in hg (hP q hq)
  have keep : ∀ q, q ∈ nums a → ¬ lkP a g q → sameN M2 M3 q := fun q hq hne => m.lst hq (fun z => hne (hP q z))
  have gfree : g ∉ nums a := fun z => by
    obtain ⟨o, z1, z2⟩ := nums_off.1 z
    rcases hg with y | y
    · have : o = 13 := by omega
      rw [this] at z1; exact absurd z1 (by decide)
    · have : o = 49 := by omega
      rw [this] at z1; exact absurd z1 (by decide)
  have gI : mI M3 g = mI M2 g := (m.2.2.2.1.2.2.2.1 g (by omega) (fun z => gfree (hin g z)) (fun q hq z => by
    rcases (w.arr (hin q hq)).2 with y | y
    · have : g = q + 1 := by omega
      have q' := hP q hq
      omega
    · omega) (fun z => by have := hS g z; omega)).1
  have o13 := goffx (i := 13) hg (by decide) (by decide)
  have c13 : mI M3 (g + 13) = mI M2 (g + 13) := m.cell w hin o13.1 o13.2.1 o13.2.2 (fun z => by have := hS _ z; omega)
  have k1 := keep (g + 1) (tL_in hg (by omega)) (by omega)
  have k9 := keep (g + 9) (tL_in hg (by omega)) (by omega)
  have k11 := keep (g + 11) (tL_in hg (by omega)) (by omega)
  have k85 := keep _ (n85 (a := a)) no.2.2.2.2.1
  have k87 := keep _ (n87 (a := a)) no.2.2.2.2.2.1
  have k89 := keep _ (n89 (a := a)) no.2.2.2.2.2.2
  refine ⟨⟨m.1, hx.mv m hin (fun z => no.1 (hP _ z)) (fun z => no.2.1 (hP _ z)) (fun z => no.2.2.1 (hP _ z)) (fun z => no.2.2.2.1 (hP _ z)), ?_, fun q hq => ?_, by rw [m.rfl_a w hin]; exact h10, hg, by rw [gI]; exact hb, hT⟩, fun n => ⟨k1.2.1 n, k9.2.1 n, k11.2.1 n⟩, gI, m.mono hP hS (fun q hq => w.lt (lkP_in hg hq))⟩
  · obtain ⟨n1, n2, n3, n4, n5'⟩ := hn
    refine ⟨by rw [k85.1]; exact n1, by rw [k87.1]; exact n2, by rw [k89.1]; exact n3, n4, fun k hk => ?_⟩
    rw [k85.2.1, k87.2.1, k89.2.1, gI, c13]
    exact n5' k hk
  · by_cases z : q = g + 7
    · rw [z, h7]; exact hd _ (by omega)
    · rw [(keep q (tL_in hg hq) (by omega)).1]; exact hd q hq
theorem LO.step {P S : Nat → Prop} {M3 : mM} (h : LO M a g N T K M2) (m : Mv P S M2 a M3) (hP : ∀ q, P q → lkP a g q) (hS : ∀ x, S x → x = a) (h7 : ln M3 (g + 7) = ln M2 (g + 7)) (hf : ∀ i, i ≠ 16 → i ≠ 17 → mI M3 a i = mI M2 a i) : LO M a g N T K M3 := by
  obtain ⟨k1, k2, k3, k4⟩ := h.2.1.step m hP hS h7
  exact ⟨h.1.trans k4, k1, fun i a1 a2 => (hf i a1 a2).trans (h.2.2.1 i a1 a2), fun n => ⟨(k2 n).1.trans (h.2.2.2.1 n).1, (k2 n).2.1.trans (h.2.2.2.1 n).2.1, (k2 n).2.2.trans (h.2.2.2.1 n).2.2⟩, k3.trans h.2.2.2.2⟩
/-- a name as it is known: a rule, or 100 and a variable -/
def nmr (co : Int) (M : mM) (g : Nat) (v : Int) : Prop := (0 ≤ v ∧ v < mI M g 6 ∧ v < 60 ∧ (co ≠ 0 → mI M (g + 13) v.toNat = 0)) ∨ (co = 0 ∧ 100 ≤ v ∧ v < 100 + mI M g 12 ∧ v < 112)
theorem goff {x : Nat} (hg : g = a + 13 ∨ g = a + 49) (hx : x = g + 14 ∨ x = g + 18) : x < a + 21192 ∧ x ∉ nums a ∧ (∀ q, q ∈ nums a → x ≠ q + 1) ∧ x ≠ a := by
  refine ⟨by omega, fun z => ?_, fun q z e => ?_, by omega⟩
  · obtain ⟨o, z1, z2⟩ := nums_off.1 z
    have : o = 27 ∨ o = 31 ∨ o = 63 ∨ o = 67 := by omega
    rcases this with y | y | y | y <;> rw [y] at z1 <;> exact absurd z1 (by decide)
  · obtain ⟨o, z1, z2⟩ := nums_off.1 z
    have : o = 26 ∨ o = 30 ∨ o = 62 ∨ o = 66 := by omega
    rcases this with y | y | y | y <;> rw [y] at z1 <;> exact absurd z1 (by decide)
/-- the type of a name: 1 a truth, 0 a number -/
def tn (M : mM) (g : Nat) (v : Int) : Int := if (if 100 ≤ v then mI M (g + 18) (v - 100).toNat else mI M (g + 14) v.toNat) = 0 then 0 else 1
theorem LO.fm (w : Wd M a) (h : LO M a g N T K M2) : mI M2 (g + 13) = mI M (g + 13) := by
  have hg := h.2.1.2.2.2.2.2.1
  have o13 := goffx (i := 13) hg (by decide) (by decide)
  exact h.1.cell w (fun q hq => lkP_in hg hq) o13.1 o13.2.1 o13.2.2 (by omega)
theorem LO.tn (w : Wd M a) (h : LO M a g N T K M2) : mI M2 (g + 14) = mI M (g + 14) ∧ mI M2 (g + 18) = mI M (g + 18) := by
  have hg := h.2.1.2.2.2.2.2.1
  have a1 := goff (x := g + 14) hg (Or.inl rfl)
  have a2 := goff (x := g + 18) hg (Or.inr rfl)
  exact ⟨h.1.cell w (fun q hq => lkP_in hg hq) a1.1 a1.2.1 a1.2.2.1 a1.2.2.2, h.1.cell w (fun q hq => lkP_in hg hq) a2.1 a2.2.1 a2.2.2.1 a2.2.2.2⟩
/-- looking up ends -/
def luQ (co : Int) (M M2 : mM) (a g N T K n : Nat) (r : Int) (M3 : mM) : Prop := LO M a g N T K M3 ∧ (r = 0 ∨ r = 1) ∧ sameN M2 M3 (a + 93) ∧ sameN M2 M3 (a + 95) ∧ ((mI M3 a 16 = 2 ∧ ∀ k, va M3 g k = va M2 g k) ∨ (mI M3 a 16 = mI M2 a 16 ∧ (nmr co M g (va M3 g n) ∧ r = tn M g (va M3 g n)) ∧ ∀ k, k ≠ n → va M3 g k = va M2 g k))
theorem s_MM_lookUp {n : Nat} {co : Int} (hco : i32 co) (hw0 : Wd M a) (h : LO M a g N T K M2) (hn : n < T) (hv : 0 ≤ va M2 g n ∧ va M2 g n < N) : Ci G y_MM_lookUp (d + 4) [vr a, vi n, vi co] M2 (luQ co M M2 a g N T K n) := by
  obtain ⟨hO, hx, hnm, hd, h10, hg, hb, hT⟩ := id h.2.1
  have w := hx.1.1
  have gp := w.gp hg
  obtain ⟨n1, n2, n3, n4, n5'⟩ := id hnm
  have r3 : mR M2 g 3 = g + 7 := gp.2.1.2.2.2.1
  have r1 : mR M2 g 1 = g + 3 := gp.2.1.2.1
  have r14 : mR M2 a 14 = a + 87 := w.1.2.2.2.2.1.2.1
  have r15 : mR M2 a 15 = a + 89 := w.1.2.2.2.2.1.2.2.1
  have u7 := w.nu (tL_in (a := a) (q := g + 7) hg (by omega))
  have u3 := w.nu (tL_in (a := a) (q := g + 3) hg (by omega))
  have l7 := hd (g + 7) (by omega)
  have l3 := hd (g + 3) (by omega)
  have c7 : (T : Int) ≤ cp M2 (g + 7) := by rw [← l7]; exact u7.2.2.2.1.2
  have gI := h.2.2.2.2
  -- a list is read
  have rd : ∀ {p k : Nat} {Q : Int → mM → Prop}, p ∈ nums a → (k : Int) < ln M2 p → (∀ z, z = nt M2 p k → i32 z → Q z M2) → Ci G y_MN_at (d + 3) [vr p, vi k] M2 Q := fun hp hk hQ => by
    refine (s_MN_at hO (w.nu hp) hk).mono (fun z M1 e1 => ?_)
    obtain ⟨e1, hz⟩ := e1
    subst e1
    exact hQ z hz (by rw [hz]; exact (hO _ _).1)
  -- the fault is told
  have flt : ∀ (y : Int), i32 y → Cv G y_MM_stop (d + 3) [vr a, vi 2, vi y] M2 (fun M4 => mOk M4 ∧ luQ co M M2 a g N T K n 0 M4) := fun y hy => by
    refine (s_MM_stop (i32s (by omega) (by omega)) hy hO w).mono (fun M4 h4 => ?_)
    obtain ⟨m4, f1, f2, f3⟩ := h4
    have s7 := m4.lst (tL_in (a := a) (q := g + 7) hg (by omega)) (fun z => z)
    exact ⟨m4.1, h.step m4 (fun q hq => hq.elim) (fun x hx => hx) s7.1 f3, Or.inl rfl, m4.lst n93 (fun z => z), m4.lst n95 (fun z => z), Or.inl ⟨f1, fun k => s7.2.1 k⟩⟩
  refine k_MM_lookUp hO (i32s (by omega) (by omega)) hco ?_
  rw [h10, r3]
  refine ⟨w.1.1, gp.1, u7.1, rd (tL_in hg (by omega)) (by omega) (fun x1 e1 i1 => ⟨i1, hO, w.1.1, ?_⟩)⟩
  have e1' : x1 = va M2 g n := e1
  rw [show x1 = ((x1.toNat : Nat) : Int) by omega]
  refine (s_MM_find (d := d) hO hx hnm (by omega)).mono (fun k M3 h3 => ?_)
  obtain ⟨e3, k0, k1⟩ := h3
  subst e3
  have fault : Ci G y_MN_at (d + 3) [vr (g + 3), vi n] M3 (fun x18 M17 => i32 x18 ∧ mOk M17 ∧ (mK M17 a = 14 ∧ Cv G y_MM_stop (d + 3) [vr a, vi 2, vi x18] M17 (fun M21 => mOk M21 ∧ luQ co M M3 a g N T K n 0 M21))) := rd (tL_in hg (by omega)) (by omega) (fun y ey iy => ⟨iy, hO, w.1.1, flt y iy⟩)
  -- the name's place among the known ones
  have good : ∀ (kk : Nat) (x : Int), kk < K → x = nt M3 (a + 89) kk → i32 x → (co ≠ 0 → nt M3 (a + 87) kk = 1) → (mK M3 g = 16 ∧ mK M3 (g + 7) = 15 ∧ mK M3 (a + 87) = 15 ∧ Ci G y_MN_at (d + 3) [vr (a + 87), vi kk] M3 (fun x36 M35 => i32 x36 ∧ mOk M35 ∧ (∀ v39 : Int, v39 = (if (x36 = 3) then 100 + x else x) → mK M35 (mR M3 (g + 7) 0) = 30 ∧ ((0 : Int) ≤ n ∧ (n : Int) < (mN M35 (mR M3 (g + 7) 0) : Int)) ∧ i32 v39 ∧ ∀ M45, M45 = mUI M35 (mR M3 (g + 7) 0) (Int.toNat n) v39 → mK M45 a = 14 ∧ mK M45 (mR M45 a 14) = 15 ∧ Ci G y_MN_at (d + 3) [vr (mR M45 a 14), vi kk] M45 (fun x50 M49 => i32 x50 ∧ mOk M49 ∧ ((((x50 = 3) → (mK M49 a = 14 ∧ mK M49 (mR M49 a 10) = 16 ∧ mK M49 (mR M49 (mR M49 a 10) 13) = 31 ∧ ((0 : Int) ≤ x ∧ x < (mN M49 (mR M49 (mR M49 a 10) 13) : Int)))) ∧ (¬ (x50 = 3) → (mK M49 a = 14 ∧ mK M49 (mR M49 a 10) = 16 ∧ mK M49 (mR M49 (mR M49 a 10) 8) = 31 ∧ ((0 : Int) ≤ x ∧ x < (mN M49 (mR M49 (mR M49 a 10) 8) : Int))))) ∧ ∀ v61 : Int, v61 = (if (x50 = 3) then mI M49 (mR M49 (mR M49 a 10) 13) (Int.toNat x) else mI M49 (mR M49 (mR M49 a 10) 8) (Int.toNat x)) → i32 v61 ∧ ∀ v66 : Int, v66 = (if (v61 = 0) then 0 else 1) → luQ co M M3 a g N T K n v66 M49))))) := fun kk x hkk ex ix hc1 => by
    obtain ⟨-, hk, hk1⟩ := n5' kk hkk
    rw [← ex] at hk hk1
    refine ⟨gp.1, u7.1, (w.nu n87).1, rd n87 (by omega) (fun s es is => ⟨is, hO, fun v hv => ⟨u7.2.1, ⟨by omega, by have : mN M3 (mR M3 (g + 7) 0) = cp M3 (g + 7) := rfl; omega⟩, i32s (by split at hv <;> omega) (by split at hv <;> omega), fun M4 e4 => ?_⟩⟩)⟩
    rw [← es] at hk hc1 hk1
    rw [Int.toNat_natCast] at e4
    obtain ⟨m4, l4, k4, -⟩ := mv_el (v := v) (i32s (by split at hv <;> omega) (by split at hv <;> omega)) hO w (tL_in (a := a) (q := g + 7) hg (by omega)) e4
    have w4 := m4.2.1
    have f4 := (m4.fld w (fun q hq => by rw [hq]; exact tL_in hg (by omega)) (fun hq => hq)).1
    have L4 : LO M a g N T K M4 := h.step m4 (fun q hq => Or.inr (Or.inr hq)) (fun x hx => hx.elim) l4 (fun i _ _ => by rw [f4])
    have s87 := m4.lst (n87 (a := a)) (by omega)
    have gp4 := w4.gp hg
    have d4 : mR M4 a 10 = g := L4.2.1.2.2.2.2.1
    have r144 : mR M4 a 14 = a + 87 := w4.1.2.2.2.2.1.2.1
    rw [r144]
    refine ⟨w4.1.1, (w4.nu n87).1, (s_MN_at m4.1 (w4.nu n87) (by rw [s87.1]; omega)).mono (fun s' M5 e5 => ?_)⟩
    obtain ⟨e5, hs'⟩ := e5
    subst e5
    rw [s87.2.1, ← es] at hs'
    subst hs'
    rw [d4, gp4.2.2.1.1, gp4.2.1.2.2.2.2.2.2.2.1, gp4.2.2.2.2.1.1.2, gp4.2.2.2.1.2.1.2]
    refine ⟨is, m4.1, ⟨fun q => ⟨w4.1.1, gp4.1, gp4.2.2.2.2.1.1.1, by omega⟩, fun q => ⟨w4.1.1, gp4.1, gp4.2.2.2.1.2.1.1, by omega⟩⟩, fun u hu => ⟨by rw [hu]; split <;> exact (m4.1 _ _).1, fun z hz => ⟨L4, by split at hz <;> omega, m4.lst n93 (by omega), m4.lst n95 (by omega), Or.inr ⟨by rw [f4], ?_, fun k hk => by show nt M5 (g + 7) k = _; rw [k4 k, if_neg hk]⟩⟩⟩⟩
    show nmr co M g (nt M5 (g + 7) n) ∧ z = tn M g (nt M5 (g + 7) n)
    rw [k4 n, if_pos rfl]
    refine ⟨?_, ?_⟩
    · unfold nmr
      rw [← gI]
      have f13 := h.fm hw0
      rw [← f13]
      by_cases c3 : s' = 3
      · rw [if_pos c3] at hv
        refine Or.inr ⟨?_, by omega, by omega, by omega⟩
        by_cases z0 : co = 0
        · exact z0
        · have := hc1 z0
          omega
      · rw [if_neg c3] at hv
        refine Or.inl ⟨by omega, by omega, by omega, fun z0 => ?_⟩
        rw [hv]
        exact hk1 (hc1 z0)
    · obtain ⟨y1, y2⟩ := L4.tn hw0
      rw [hz, hu, y1, y2]
      unfold tn
      by_cases c3 : s' = 3
      · rw [if_pos c3] at hv
        rw [if_pos c3, hv, if_pos (show (100 : Int) ≤ 100 + x by omega), show (100 + x - 100).toNat = x.toNat by omega]
      · rw [if_neg c3] at hv
        rw [if_neg c3, hv, if_neg (show ¬ (100 : Int) ≤ x by omega)]
  refine ⟨i32s (by omega) (by omega), hO, fun q => ?_, fun q => ⟨fun q2 => ?_, fun q2 => ?_⟩⟩
  · rw [h10, r1]
    exact ⟨w.1.1, gp.1, u3.1, fault⟩
  · rw [r15, show k = ((k.toNat : Nat) : Int) by omega]
    refine ⟨w.1.1, (w.nu n89).1, rd n89 (by omega) (fun x ex ix => ⟨ix, hO, w.1.1, ?_⟩)⟩
    rw [h10, r3, r14]
    exact good k.toNat x (by omega) ex ix (fun z => absurd q2 z)
  · rw [r14, show k = ((k.toNat : Nat) : Int) by omega]
    refine ⟨w.1.1, (w.nu n87).1, rd n87 (by omega) (fun s es is => ⟨is, hO, fun q3 => ?_, fun q3 => ?_⟩)⟩
    · rw [r15]
      refine ⟨w.1.1, (w.nu n89).1, rd n89 (by omega) (fun x ex ix => ⟨ix, hO, w.1.1, ?_⟩)⟩
      rw [h10, r3, r14]
      exact good k.toNat x (by omega) ex ix (fun _ => es.symm.trans q3)
    · rw [h10, r1]
      exact ⟨w.1.1, gp.1, u3.1, fault⟩
end LK2
end
section
/-! The reference: looking at a node. -/
section LA
variable {G : mG} {d a N g T K n L : Nat} {M M2 M4 : mM}
/-- the type of a node, from its parts' types: 1 a truth, 0 a number -/
def tyr (s : Int) (k : Nat) (u : Nat → Int) (t : Int) : Prop := if s = 29 ∨ s = 30 ∨ s = 31 then (∀ j, j < k → u j = 1) ∧ t = 1 else if s = 18 ∨ s = 23 then u 0 = u 1 ∧ t = 1 else if s = 32 then u 0 = 1 ∧ u 1 = t ∧ u 2 = t else (∀ j, j < k → u j = 0) ∧ t = if 19 ≤ s ∧ s ≤ 22 then 1 else 0
def tyn (w : Int → Int) (s v : Int) (k : Nat) (u : Nat → Int) (t : Int) : Prop := if s = 1 then t = w v else if s = 2 then t = 0 else if s = 12 ∨ s = 13 then t = 1 else tyr s k u t
/-- what becomes of the names -/
def laE (co : Int) (M M2 : mM) (a g n k : Nat) (u : Nat → Int) (t : Int) (M3 : mM) : Prop := mI M3 a 16 ≠ 0 ∨ (mI M3 a 16 = mI M2 a 16 ∧ (so M2 g n = 1 → nmr co M g (va M3 g n)) ∧ (∀ k, (k ≠ n ∨ so M2 g n ≠ 1) → va M3 g k = va M2 g k) ∧ tyn (tn M g) (so M2 g n) (va M3 g n) k u t)
/-- a node has been looked at -/
def laQ (co : Int) (M M2 : mM) (a g N T K n L k : Nat) (u : Nat → Int) (M5 : mM) : Prop := LO M a g N T K M5 ∧ sameN M2 M5 (a + 95) ∧ ln M5 (a + 93) = (L + 1 : Nat) ∧ (∀ j, j < L → nt M5 (a + 93) j = nt M2 (a + 93) j) ∧ (nt M5 (a + 93) L = 0 ∨ nt M5 (a + 93) L = 1) ∧ laE co M M2 a g n k u (nt M5 (a + 93) L) M5
theorem la386 {co : Int} {k : Nat} {u : Nat → Int} {x : Int} (hx : x = 0 ∨ x = 1) (h : LO M a g N T K M4) (s93 : sameN M2 M4 (a + 93)) (s95 : sameN M2 M4 (a + 95)) (e : laE co M M2 a g n k u x M4) (hL : ln M2 (a + 93) = (L + k : Nat)) (hb : L + k ≤ 65000) : h_MM_lookAt_386 G d a L x M4 (laQ co M M2 a g N T K n L k u) := by
  obtain ⟨hO, hw, -, -, -, hg, -, -⟩ := id h.2.1
  have w := hw.1.1
  have r19 : ∀ {M3 : mM}, Wd M3 a → mR M3 a 19 = a + 93 := fun w => w.1.2.2.2.2.1.2.2.2.2.1
  refine k_MM_lookAt_386 hO (i32s (by omega) (by omega)) (i32s (by omega) (by omega)) ?_
  rw [r19 w]
  refine ⟨w.1.1, (w.nu n93).1, fun M5 e5 => ?_⟩
  obtain ⟨m5, l5, t5, -⟩ := mv_set hO w n93 (v := (L : Int)) (by omega) (by rw [s93.1, hL]; omega) e5
  have w5 := m5.2.1
  have g7 : g + 7 ∈ nums a := tL_in hg (by omega)
  have f5 := (m5.fld w (fun q hq => by rw [hq]; exact n93) (fun hq => hq)).1
  have L5 : LO M a g N T K M5 := h.step m5 (fun q hq => Or.inl hq) (fun x hx => hx.elim) (m5.lst g7 (by omega)).1 (fun i _ _ => by rw [f5])
  rw [r19 w5]
  refine ⟨(w5.nu n93).1, (s_MN_addB (B := 65536) (i32s (by omega) (by omega)) m5.1 (w5.nu n93) (by rw [l5]; omega) (by decide)).mono (fun M6 t6 => ?_)⟩
  have m6 := mv_addB w5 n93 (Or.inr (Or.inl rfl)) t6
  have f6 := (m6.fld w5 (fun q hq => by rw [hq]; exact n93) (fun hq => hq)).1
  have L6 : LO M a g N T K M6 := L5.step m6 (fun q hq => Or.inl hq) (fun x hx => hx.elim) (m6.lst g7 (by omega)).1 (fun i _ _ => by rw [f6])
  obtain ⟨-, -, -, t1, t2, t3, -⟩ := t6
  rw [l5] at t1 t2 t3
  rw [Int.toNat_natCast] at t3
  have v6 : ∀ k, va M6 g k = va M4 g k := fun k => ((m6.lst g7 (by omega)).2.1 k).trans ((m5.lst g7 (by omega)).2.1 k)
  refine ⟨m6.1, L6, ?_, by rw [t1]; omega, fun j hj => by rw [t2 j (by omega), t5, s93.2.1], by rw [t3]; exact hx, ?_⟩
  · exact sameN.trans s95 (sameN.trans (m5.lst n95 (by omega)) (m6.lst n95 (by omega)))
  · unfold laE at e ⊢
    rw [f6, f5, t3]
    simp only [v6]
    exact e
/-- how many parts a node has, as the program counts them -/
def pks (nm : Int → Prop) (M : mM) (g T n k : Nat) : Prop := (k = 0 ∧ fp M g n = -1 ∧ (so M g n = 1 ∨ so M g n = 2 ∨ so M g n = 12 ∨ so M g n = 13)) ∨ (1 ≤ k ∧ k ≤ 30000 ∧ ari (so M g n) k ∧ fp M g n = ((n + 1 : Nat) : Int) ∧ ∃ f e : Nat, e ≤ T ∧ Tn nm M g f k (n + 1) e)
theorem s_MM_parts {nm : Int → Prop} {k : Nat} (h : LO M a g N T K M2) (hn : n < T) (hk : pks nm M2 g T n k) : Ci G y_MM_parts (d + 1) [vr a, vi n] M2 (fun r M' => M' = M2 ∧ r = k) := by
  obtain ⟨hO, hw, -, hd, h10, hg, -, hT⟩ := id h.2.1
  have w := hw.1.1
  have gp := w.gp hg
  have r4 : mR M2 g 4 = g + 9 := gp.2.1.2.2.2.2.1
  have u9 := w.nu (tL_in (a := a) (q := g + 9) hg (by omega))
  have l9 := hd (g + 9) (by omega)
  refine k_MM_parts hO (i32s (by omega) (by omega)) ?_
  rw [h10, r4]
  refine ⟨w.1.1, gp.1, u9.1, (s_MN_at hO u9 (by omega)).mono (fun z M1 e1 => ?_)⟩
  obtain ⟨e1, hz⟩ := e1
  subst e1
  refine ⟨by rw [hz]; exact (hO _ _).1, hO, ?_⟩
  rcases hk with ⟨k0, k1, -⟩ | ⟨k0, k1, k2, k3, f, e, k4, k5⟩
  · have : z = -1 := hz.trans k1
    rw [this]
    exact k_MM_parts_14 hO ⟨by omega, by omega⟩ (i32s (by omega) (by omega)) ⟨fun _ => ⟨rfl, by omega⟩, fun q => by omega⟩
  · have : z = ((n + 1 : Nat) : Int) := hz.trans k3
    rw [this]
    have := s_pt14 (G := G) (d := d) hO w hg h10 hd (by omega) k f (n + 1) e 0 k0 k5 k4 (by omega) (by omega)
    rw [show (0 : Int) + (k : Int) = (k : Int) by omega] at this
    exact this
end LA
end
