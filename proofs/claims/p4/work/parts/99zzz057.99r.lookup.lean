/-! The reference: looking a name up. -/
section LK2
variable {G : mG} {d a N g T K : Nat} {M M2 : mM}
abbrev lkP (a g : Nat) : Nat → Prop := fun x => x = a + 93 ∨ x = a + 95 ∨ x = g + 7
theorem lkP_in {q : Nat} (hg : g = a + 13 ∨ g = a + 49) (h : lkP a g q) : q ∈ nums a := by
  rcases h with h | h | h
  · rw [h]; exact n93
  · rw [h]; exact n95
  · exact tL_in hg (by omega)
/-- a cell that belongs to no list -/
abbrev frO (o : Nat) : Prop := o < 21192 ∧ o ∉ nuO ∧ ∀ q, q ∈ nuO → o ≠ q + 1
theorem offx {o : Nat} (h : frO o) : a + o < a + 21192 ∧ a + o ∉ nums a ∧ (∀ q, q ∈ nums a → a + o ≠ q + 1) := by
  refine ⟨by have := h.1; omega, fun z => ?_, fun q z e => ?_⟩
  · obtain ⟨o', z1, z2⟩ := nums_off.1 z
    have : o' = o := by omega
    rw [this] at z1
    exact h.2.1 z1
  · obtain ⟨o', z1, z2⟩ := nums_off.1 z
    exact h.2.2 o' z1 (by omega)
theorem goffx {i : Nat} (hg : g = a + 13 ∨ g = a + 49) (h1 : frO (13 + i)) (h2 : frO (49 + i)) : g + i < a + 21192 ∧ g + i ∉ nums a ∧ (∀ q, q ∈ nums a → g + i ≠ q + 1) := by
  rcases hg with z | z
  · rw [z, Nat.add_assoc]
    exact offx h1
  · rw [z, Nat.add_assoc]
    exact offx h2
theorem Mv.cell {P S : Nat → Prop} {M3 : mM} {x : Nat} (m : Mv P S M2 a M3) (w : Wd M2 a) (hin : ∀ q, P q → q ∈ nums a) (hx : x < a + 21192) (h1 : x ∉ nums a) (h2 : ∀ q, q ∈ nums a → x ≠ q + 1) (hS : ¬ S x) : mI M3 x = mI M2 x := by
  have hz := w.2.2.2
  exact (m.2.2.2.1.2.2.2.1 x (by omega) (fun z => h1 (hin x z)) (fun q hq z => by
    rcases (w.arr (hin q hq)).2 with y | y
    · exact h2 q (hin q hq) (z.trans y)
    · omega) hS).1
theorem Mv.cellL {P S : Nat → Prop} {M3 : mM} {x : Nat} (m : Mv P S M2 a M3) (w : Wd M2 a) (hin : ∀ q, P q → q ∈ nums a) (hx : x < a + 21192 ∧ x ∉ nums a ∧ (∀ q, q ∈ nums a → x ≠ q + 1)) (hS : ¬ S x) : mI M3 x = mI M2 x ∧ mL M3 x = mL M2 x := by
  have hz := w.2.2.2
  exact m.2.2.2.1.2.2.2.1 x (by omega) (fun z => hx.2.1 (hin x z)) (fun q hq z => by
    rcases (w.arr (hin q hq)).2 with y | y
    · exact hx.2.2 q (hin q hq) (z.trans y)
    · omega) hS
/-- the draft while its trees are looked at -/
def Lc (M : mM) (a g N T K : Nat) : Prop := mOk M ∧ Wx M a N ∧ Nm M a g N K ∧ nd M g T ∧ mR M a 10 = g ∧ (g = a + 13 ∨ g = a + 49) ∧ (0 ≤ mI M g 6 ∧ mI M g 6 ≤ 60 ∧ 0 ≤ mI M g 12 ∧ mI M g 12 ≤ 12) ∧ T ≤ 30000
/-- nothing but values of names, truths and looks has changed -/
def LO (M : mM) (a g N T K : Nat) (M2 : mM) : Prop := Mv (lkP a g) (fun x => x = a) M a M2 ∧ Lc M2 a g N T K ∧ (∀ i, i ≠ 16 → i ≠ 17 → mI M2 a i = mI M a i) ∧ (∀ n, so M2 g n = so M g n ∧ fp M2 g n = fp M g n ∧ np M2 g n = np M g n) ∧ mI M2 g = mI M g
theorem lkP_no (hg : g = a + 13 ∨ g = a + 49) (h : Wd M a) : ¬ lkP a g (a + 5) ∧ ¬ lkP a g (a + 7) ∧ ¬ lkP a g (a + 9) ∧ ¬ lkP a g (mR M a 2) ∧ ¬ lkP a g (a + 85) ∧ ¬ lkP a g (a + 87) ∧ ¬ lkP a g (a + 89) := by
  have h1 := h.1.2.1
  refine ⟨by omega, by omega, by omega, ?_, by omega, by omega, by omega⟩
  rcases h1 with w | w <;> rw [w.2] <;> omega
/-- a step that changes only those -/
theorem Lc.step {P S : Nat → Prop} {M3 : mM} (h : Lc M2 a g N T K) (m : Mv P S M2 a M3) (hP : ∀ q, P q → lkP a g q) (hS : ∀ x, S x → x = a) (h7 : ln M3 (g + 7) = ln M2 (g + 7)) : Lc M3 a g N T K ∧ (∀ n, so M3 g n = so M2 g n ∧ fp M3 g n = fp M2 g n ∧ np M3 g n = np M2 g n) ∧ mI M3 g = mI M2 g ∧ Mv (lkP a g) (fun x => x = a) M2 a M3 := by
  obtain ⟨hO, hx, hn, hd, h10, hg, hb, hT⟩ := h
  have w := hx.1.1
  have hz := w.2.2.2
  have no := lkP_no hg w
  have hin : ∀ q, P q → q ∈ nums a := fun q hq => lkP_in hg (hP q hq)
  have keep : ∀ q, q ∈ nums a → ¬ lkP a g q → sameN M2 M3 q := fun q hq hne => m.lst hq (fun z => hne (hP q z))
  have gfree : g ∉ nums a := fun z => by
    obtain ⟨o, z1, z2⟩ := nums_off.1 z
    rcases hg with y | y
    · have : o = 13 := by omega
      rw [this] at z1; exact absurd z1 (by decide)
    · have : o = 49 := by omega
      rw [this] at z1; exact absurd z1 (by decide)
  have gI : mI M3 g = mI M2 g := (m.2.2.2.1.2.2.2.1 g (by omega) (fun z => gfree (hin g z)) (fun q hq z => by
    rcases (w.arr (hin q hq)).2 with y | y
    · have : g = q + 1 := by omega
      have q' := hP q hq
      omega
    · omega) (fun z => by have := hS g z; omega)).1
  have o13 := goffx (i := 13) hg (by decide) (by decide)
  have c13 : mI M3 (g + 13) = mI M2 (g + 13) := m.cell w hin o13.1 o13.2.1 o13.2.2 (fun z => by have := hS _ z; omega)
  have k1 := keep (g + 1) (tL_in hg (by omega)) (by omega)
  have k9 := keep (g + 9) (tL_in hg (by omega)) (by omega)
  have k11 := keep (g + 11) (tL_in hg (by omega)) (by omega)
  have k85 := keep _ (n85 (a := a)) no.2.2.2.2.1
  have k87 := keep _ (n87 (a := a)) no.2.2.2.2.2.1
  have k89 := keep _ (n89 (a := a)) no.2.2.2.2.2.2
  refine ⟨⟨m.1, hx.mv m hin (fun z => no.1 (hP _ z)) (fun z => no.2.1 (hP _ z)) (fun z => no.2.2.1 (hP _ z)) (fun z => no.2.2.2.1 (hP _ z)), ?_, fun q hq => ?_, by rw [m.rfl_a w hin]; exact h10, hg, by rw [gI]; exact hb, hT⟩, fun n => ⟨k1.2.1 n, k9.2.1 n, k11.2.1 n⟩, gI, m.mono hP hS (fun q hq => w.lt (lkP_in hg hq))⟩
  · obtain ⟨n1, n2, n3, n4, n5'⟩ := hn
    refine ⟨by rw [k85.1]; exact n1, by rw [k87.1]; exact n2, by rw [k89.1]; exact n3, n4, fun k hk => ?_⟩
    rw [k85.2.1, k87.2.1, k89.2.1, gI, c13]
    exact n5' k hk
  · by_cases z : q = g + 7
    · rw [z, h7]; exact hd _ (by omega)
    · rw [(keep q (tL_in hg hq) (by omega)).1]; exact hd q hq
theorem LO.step {P S : Nat → Prop} {M3 : mM} (h : LO M a g N T K M2) (m : Mv P S M2 a M3) (hP : ∀ q, P q → lkP a g q) (hS : ∀ x, S x → x = a) (h7 : ln M3 (g + 7) = ln M2 (g + 7)) (hf : ∀ i, i ≠ 16 → i ≠ 17 → mI M3 a i = mI M2 a i) : LO M a g N T K M3 := by
  obtain ⟨k1, k2, k3, k4⟩ := h.2.1.step m hP hS h7
  exact ⟨h.1.trans k4, k1, fun i a1 a2 => (hf i a1 a2).trans (h.2.2.1 i a1 a2), fun n => ⟨(k2 n).1.trans (h.2.2.2.1 n).1, (k2 n).2.1.trans (h.2.2.2.1 n).2.1, (k2 n).2.2.trans (h.2.2.2.1 n).2.2⟩, k3.trans h.2.2.2.2⟩
/-- a name as it is known: a rule, or 100 and a variable -/
def nmr (co : Int) (M : mM) (g : Nat) (v : Int) : Prop := (0 ≤ v ∧ v < mI M g 6 ∧ v < 60 ∧ (co ≠ 0 → mI M (g + 13) v.toNat = 0)) ∨ (co = 0 ∧ 100 ≤ v ∧ v < 100 + mI M g 12 ∧ v < 112)
theorem goff {x : Nat} (hg : g = a + 13 ∨ g = a + 49) (hx : x = g + 14 ∨ x = g + 18) : x < a + 21192 ∧ x ∉ nums a ∧ (∀ q, q ∈ nums a → x ≠ q + 1) ∧ x ≠ a := by
  refine ⟨by omega, fun z => ?_, fun q z e => ?_, by omega⟩
  · obtain ⟨o, z1, z2⟩ := nums_off.1 z
    have : o = 27 ∨ o = 31 ∨ o = 63 ∨ o = 67 := by omega
    rcases this with y | y | y | y <;> rw [y] at z1 <;> exact absurd z1 (by decide)
  · obtain ⟨o, z1, z2⟩ := nums_off.1 z
    have : o = 26 ∨ o = 30 ∨ o = 62 ∨ o = 66 := by omega
    rcases this with y | y | y | y <;> rw [y] at z1 <;> exact absurd z1 (by decide)
/-- the type of a name: 1 a truth, 0 a number -/
def tn (M : mM) (g : Nat) (v : Int) : Int := if (if 100 ≤ v then mI M (g + 18) (v - 100).toNat else mI M (g + 14) v.toNat) = 0 then 0 else 1
theorem LO.fm (w : Wd M a) (h : LO M a g N T K M2) : mI M2 (g + 13) = mI M (g + 13) := by
  have hg := h.2.1.2.2.2.2.2.1
  have o13 := goffx (i := 13) hg (by decide) (by decide)
  exact h.1.cell w (fun q hq => lkP_in hg hq) o13.1 o13.2.1 o13.2.2 (by omega)
theorem LO.tn (w : Wd M a) (h : LO M a g N T K M2) : mI M2 (g + 14) = mI M (g + 14) ∧ mI M2 (g + 18) = mI M (g + 18) := by
  have hg := h.2.1.2.2.2.2.2.1
  have a1 := goff (x := g + 14) hg (Or.inl rfl)
  have a2 := goff (x := g + 18) hg (Or.inr rfl)
  exact ⟨h.1.cell w (fun q hq => lkP_in hg hq) a1.1 a1.2.1 a1.2.2.1 a1.2.2.2, h.1.cell w (fun q hq => lkP_in hg hq) a2.1 a2.2.1 a2.2.2.1 a2.2.2.2⟩
/-- looking up ends -/
def luQ (co : Int) (M M2 : mM) (a g N T K n : Nat) (r : Int) (M3 : mM) : Prop := LO M a g N T K M3 ∧ (r = 0 ∨ r = 1) ∧ sameN M2 M3 (a + 93) ∧ sameN M2 M3 (a + 95) ∧ ((mI M3 a 16 = 2 ∧ ∀ k, va M3 g k = va M2 g k) ∨ (mI M3 a 16 = mI M2 a 16 ∧ (nmr co M g (va M3 g n) ∧ r = tn M g (va M3 g n)) ∧ ∀ k, k ≠ n → va M3 g k = va M2 g k))
theorem s_MM_lookUp {n : Nat} {co : Int} (hco : i32 co) (hw0 : Wd M a) (h : LO M a g N T K M2) (hn : n < T) (hv : 0 ≤ va M2 g n ∧ va M2 g n < N) : Ci G y_MM_lookUp (d + 4) [vr a, vi n, vi co] M2 (luQ co M M2 a g N T K n) := by
  obtain ⟨hO, hx, hnm, hd, h10, hg, hb, hT⟩ := id h.2.1
  have w := hx.1.1
  have gp := w.gp hg
  obtain ⟨n1, n2, n3, n4, n5'⟩ := id hnm
  have r3 : mR M2 g 3 = g + 7 := gp.2.1.2.2.2.1
  have r1 : mR M2 g 1 = g + 3 := gp.2.1.2.1
  have r14 : mR M2 a 14 = a + 87 := w.1.2.2.2.2.1.2.1
  have r15 : mR M2 a 15 = a + 89 := w.1.2.2.2.2.1.2.2.1
  have u7 := w.nu (tL_in (a := a) (q := g + 7) hg (by omega))
  have u3 := w.nu (tL_in (a := a) (q := g + 3) hg (by omega))
  have l7 := hd (g + 7) (by omega)
  have l3 := hd (g + 3) (by omega)
  have c7 : (T : Int) ≤ cp M2 (g + 7) := by rw [← l7]; exact u7.2.2.2.1.2
  have gI := h.2.2.2.2
  -- a list is read
  have rd : ∀ {p k : Nat} {Q : Int → mM → Prop}, p ∈ nums a → (k : Int) < ln M2 p → (∀ z, z = nt M2 p k → i32 z → Q z M2) → Ci G y_MN_at (d + 3) [vr p, vi k] M2 Q := fun hp hk hQ => by
    refine (s_MN_at hO (w.nu hp) hk).mono (fun z M1 e1 => ?_)
    obtain ⟨e1, hz⟩ := e1
    subst e1
    exact hQ z hz (by rw [hz]; exact (hO _ _).1)
  -- the fault is told
  have flt : ∀ (y : Int), i32 y → Cv G y_MM_stop (d + 3) [vr a, vi 2, vi y] M2 (fun M4 => mOk M4 ∧ luQ co M M2 a g N T K n 0 M4) := fun y hy => by
    refine (s_MM_stop (i32s (by omega) (by omega)) hy hO w).mono (fun M4 h4 => ?_)
    obtain ⟨m4, f1, f2, f3⟩ := h4
    have s7 := m4.lst (tL_in (a := a) (q := g + 7) hg (by omega)) (fun z => z)
    exact ⟨m4.1, h.step m4 (fun q hq => hq.elim) (fun x hx => hx) s7.1 f3, Or.inl rfl, m4.lst n93 (fun z => z), m4.lst n95 (fun z => z), Or.inl ⟨f1, fun k => s7.2.1 k⟩⟩
  refine k_MM_lookUp hO (i32s (by omega) (by omega)) hco ?_
  rw [h10, r3]
  refine ⟨w.1.1, gp.1, u7.1, rd (tL_in hg (by omega)) (by omega) (fun x1 e1 i1 => ⟨i1, hO, w.1.1, ?_⟩)⟩
  have e1' : x1 = va M2 g n := e1
  rw [show x1 = ((x1.toNat : Nat) : Int) by omega]
  refine (s_MM_find (d := d) hO hx hnm (by omega)).mono (fun k M3 h3 => ?_)
  obtain ⟨e3, k0, k1⟩ := h3
  subst e3
  have fault : Ci G y_MN_at (d + 3) [vr (g + 3), vi n] M3 (fun x18 M17 => i32 x18 ∧ mOk M17 ∧ (mK M17 a = 14 ∧ Cv G y_MM_stop (d + 3) [vr a, vi 2, vi x18] M17 (fun M21 => mOk M21 ∧ luQ co M M3 a g N T K n 0 M21))) := rd (tL_in hg (by omega)) (by omega) (fun y ey iy => ⟨iy, hO, w.1.1, flt y iy⟩)
  -- the name's place among the known ones
  have good : ∀ (kk : Nat) (x : Int), kk < K → x = nt M3 (a + 89) kk → i32 x → (co ≠ 0 → nt M3 (a + 87) kk = 1) → (mK M3 g = 16 ∧ mK M3 (g + 7) = 15 ∧ mK M3 (a + 87) = 15 ∧ Ci G y_MN_at (d + 3) [vr (a + 87), vi kk] M3 (fun x36 M35 => i32 x36 ∧ mOk M35 ∧ (∀ v39 : Int, v39 = (if (x36 = 3) then 100 + x else x) → mK M35 (mR M3 (g + 7) 0) = 30 ∧ ((0 : Int) ≤ n ∧ (n : Int) < (mN M35 (mR M3 (g + 7) 0) : Int)) ∧ i32 v39 ∧ ∀ M45, M45 = mUI M35 (mR M3 (g + 7) 0) (Int.toNat n) v39 → mK M45 a = 14 ∧ mK M45 (mR M45 a 14) = 15 ∧ Ci G y_MN_at (d + 3) [vr (mR M45 a 14), vi kk] M45 (fun x50 M49 => i32 x50 ∧ mOk M49 ∧ ((((x50 = 3) → (mK M49 a = 14 ∧ mK M49 (mR M49 a 10) = 16 ∧ mK M49 (mR M49 (mR M49 a 10) 13) = 31 ∧ ((0 : Int) ≤ x ∧ x < (mN M49 (mR M49 (mR M49 a 10) 13) : Int)))) ∧ (¬ (x50 = 3) → (mK M49 a = 14 ∧ mK M49 (mR M49 a 10) = 16 ∧ mK M49 (mR M49 (mR M49 a 10) 8) = 31 ∧ ((0 : Int) ≤ x ∧ x < (mN M49 (mR M49 (mR M49 a 10) 8) : Int))))) ∧ ∀ v61 : Int, v61 = (if (x50 = 3) then mI M49 (mR M49 (mR M49 a 10) 13) (Int.toNat x) else mI M49 (mR M49 (mR M49 a 10) 8) (Int.toNat x)) → i32 v61 ∧ ∀ v66 : Int, v66 = (if (v61 = 0) then 0 else 1) → luQ co M M3 a g N T K n v66 M49))))) := fun kk x hkk ex ix hc1 => by
    obtain ⟨-, hk, hk1⟩ := n5' kk hkk
    rw [← ex] at hk hk1
    refine ⟨gp.1, u7.1, (w.nu n87).1, rd n87 (by omega) (fun s es is => ⟨is, hO, fun v hv => ⟨u7.2.1, ⟨by omega, by have : mN M3 (mR M3 (g + 7) 0) = cp M3 (g + 7) := rfl; omega⟩, i32s (by split at hv <;> omega) (by split at hv <;> omega), fun M4 e4 => ?_⟩⟩)⟩
    rw [← es] at hk hc1 hk1
    rw [Int.toNat_natCast] at e4
    obtain ⟨m4, l4, k4, -⟩ := mv_el (v := v) (i32s (by split at hv <;> omega) (by split at hv <;> omega)) hO w (tL_in (a := a) (q := g + 7) hg (by omega)) e4
    have w4 := m4.2.1
    have f4 := (m4.fld w (fun q hq => by rw [hq]; exact tL_in hg (by omega)) (fun hq => hq)).1
    have L4 : LO M a g N T K M4 := h.step m4 (fun q hq => Or.inr (Or.inr hq)) (fun x hx => hx.elim) l4 (fun i _ _ => by rw [f4])
    have s87 := m4.lst (n87 (a := a)) (by omega)
    have gp4 := w4.gp hg
    have d4 : mR M4 a 10 = g := L4.2.1.2.2.2.2.1
    have r144 : mR M4 a 14 = a + 87 := w4.1.2.2.2.2.1.2.1
    rw [r144]
    refine ⟨w4.1.1, (w4.nu n87).1, (s_MN_at m4.1 (w4.nu n87) (by rw [s87.1]; omega)).mono (fun s' M5 e5 => ?_)⟩
    obtain ⟨e5, hs'⟩ := e5
    subst e5
    rw [s87.2.1, ← es] at hs'
    subst hs'
    rw [d4, gp4.2.2.1.1, gp4.2.1.2.2.2.2.2.2.2.1, gp4.2.2.2.2.1.1.2, gp4.2.2.2.1.2.1.2]
    refine ⟨is, m4.1, ⟨fun q => ⟨w4.1.1, gp4.1, gp4.2.2.2.2.1.1.1, by omega⟩, fun q => ⟨w4.1.1, gp4.1, gp4.2.2.2.1.2.1.1, by omega⟩⟩, fun u hu => ⟨by rw [hu]; split <;> exact (m4.1 _ _).1, fun z hz => ⟨L4, by split at hz <;> omega, m4.lst n93 (by omega), m4.lst n95 (by omega), Or.inr ⟨by rw [f4], ?_, fun k hk => by show nt M5 (g + 7) k = _; rw [k4 k, if_neg hk]⟩⟩⟩⟩
    show nmr co M g (nt M5 (g + 7) n) ∧ z = tn M g (nt M5 (g + 7) n)
    rw [k4 n, if_pos rfl]
    refine ⟨?_, ?_⟩
    · unfold nmr
      rw [← gI]
      have f13 := h.fm hw0
      rw [← f13]
      by_cases c3 : s' = 3
      · rw [if_pos c3] at hv
        refine Or.inr ⟨?_, by omega, by omega, by omega⟩
        by_cases z0 : co = 0
        · exact z0
        · have := hc1 z0
          omega
      · rw [if_neg c3] at hv
        refine Or.inl ⟨by omega, by omega, by omega, fun z0 => ?_⟩
        rw [hv]
        exact hk1 (hc1 z0)
    · obtain ⟨y1, y2⟩ := L4.tn hw0
      rw [hz, hu, y1, y2]
      unfold tn
      by_cases c3 : s' = 3
      · rw [if_pos c3] at hv
        rw [if_pos c3, hv, if_pos (show (100 : Int) ≤ 100 + x by omega), show (100 + x - 100).toNat = x.toNat by omega]
      · rw [if_neg c3] at hv
        rw [if_neg c3, hv, if_neg (show ¬ (100 : Int) ≤ x by omega)]
  refine ⟨i32s (by omega) (by omega), hO, fun q => ?_, fun q => ⟨fun q2 => ?_, fun q2 => ?_⟩⟩
  · rw [h10, r1]
    exact ⟨w.1.1, gp.1, u3.1, fault⟩
  · rw [r15, show k = ((k.toNat : Nat) : Int) by omega]
    refine ⟨w.1.1, (w.nu n89).1, rd n89 (by omega) (fun x ex ix => ⟨ix, hO, w.1.1, ?_⟩)⟩
    rw [h10, r3, r14]
    exact good k.toNat x (by omega) ex ix (fun z => absurd q2 z)
  · rw [r14, show k = ((k.toNat : Nat) : Int) by omega]
    refine ⟨w.1.1, (w.nu n87).1, rd n87 (by omega) (fun s es is => ⟨is, hO, fun q3 => ?_, fun q3 => ?_⟩)⟩
    · rw [r15]
      refine ⟨w.1.1, (w.nu n89).1, rd n89 (by omega) (fun x ex ix => ⟨ix, hO, w.1.1, ?_⟩)⟩
      rw [h10, r3, r14]
      exact good k.toNat x (by omega) ex ix (fun _ => es.symm.trans q3)
    · rw [h10, r1]
      exact ⟨w.1.1, gp.1, u3.1, fault⟩
end LK2
