section
/-! The reference: a rule is read and looked at. -/
section RU
variable {G : mG} {d a N g T K i j : Nat} {M M2 M3 : mM} {r co tr : Int}
theorem goff0 (hg : g = a + 13 ∨ g = a + 49) : g < a + 21192 ∧ g ∉ nums a ∧ (∀ q, q ∈ nums a → g ≠ q + 1) ∧ g ≠ a := by
  refine ⟨by omega, fun z => ?_, fun q z e => ?_, by omega⟩
  · obtain ⟨o, z1, z2⟩ := nums_off.1 z
    have : o = 13 ∨ o = 49 := by omega
    rcases this with y | y <;> rw [y] at z1 <;> exact absurd z1 (by decide)
  · obtain ⟨o, z1, z2⟩ := nums_off.1 z
    have : o = 12 ∨ o = 48 := by omega
    rcases this with y | y <;> rw [y] at z1 <;> exact absurd z1 (by decide)
abbrev rlP (a g : Nat) : Nat → Prop := fun x => trP a g x ∨ lkP a g x
theorem rlP_in {q : Nat} (hg : g = a + 13 ∨ g = a + 49) (h : rlP a g q) : q ∈ nums a := h.elim (fun z => trP_in hg z) (fun z => lkP_in hg z)
/-- a tree has been made -/
theorem tr_lc (h : Lc M a g N T K) (hT : T + (j - i) ≤ 30000) (t : trQ M a g N T i j r M2) : r = T ∧ ∃ T', T < T' ∧ T' ≤ T + (j - i) ∧ Lc M2 a g N T' K ∧ To (nmw (wk M a) N) M2 g 0 T T' ∧ (mI M2 a = mI M a ∧ mI M2 g = mI M g ∧ (∀ co, nmr co M2 g = nmr co M g) ∧ tn M2 g = tn M g) ∧ Mv (rlP a g) (fun x => x = a) M a M2 ∧ ∀ n, n < T → so M2 g n = so M g n ∧ va M2 g n = va M g n ∧ fp M2 g n = fp M g n ∧ np M2 g n = np M g n := by
  obtain ⟨m, e, T', hn, t1, t2, t3, t4, t5⟩ := t
  obtain ⟨hO, hx, hnm, hd, h10, hg, hb, -⟩ := h
  have w := hx.1.1
  have hin : ∀ q, trP a g q → q ∈ nums a := fun q hq => trP_in hg hq
  have h2 : ¬ trP a g (mR M a 2) := by
    rcases w.1.2.1 with y | y <;> rw [y.2] <;> omega
  have a0 := goff0 hg
  have a1 := goff (x := g + 14) hg (Or.inl rfl)
  have a2 := goff (x := g + 18) hg (Or.inr rfl)
  have gI := m.cell w hin a0.1 a0.2.1 a0.2.2.1 (fun z => z)
  have o13 := goffx (i := 13) hg (by decide) (by decide)
  have g13 := m.cell w hin o13.1 o13.2.1 o13.2.2 (fun z => z)
  have g14 := m.cell w hin a1.1 a1.2.1 a1.2.2.1 (fun z => z)
  have g18 := m.cell w hin a2.1 a2.2.1 a2.2.2.1 (fun z => z)
  have aI := (m.fld w hin (fun z => z)).1
  have k85 := m.lst (n85 (a := a)) (by omega)
  have k87 := m.lst (n87 (a := a)) (by omega)
  have k89 := m.lst (n89 (a := a)) (by omega)
  refine ⟨e, T', t1, t2, ⟨m.1, hx.mv m hin (by omega) (by omega) (by omega) h2, ?_, hn, by rw [m.rfl_a w hin]; exact h10, hg, by rw [gI]; exact hb, by omega⟩, t3, ⟨aI, gI, ?_, ?_⟩, m.mono (fun q hq => Or.inl hq) (fun x hx => hx.elim) (fun q hq => w.lt (rlP_in hg hq)), t5⟩
  · obtain ⟨n1, n2, n3, n4, n5'⟩ := hnm
    refine ⟨by rw [k85.1]; exact n1, by rw [k87.1]; exact n2, by rw [k89.1]; exact n3, n4, fun k hk => ?_⟩
    rw [k85.2.1, k87.2.1, k89.2.1, gI, g13]
    exact n5' k hk
  · intro co
    funext v
    unfold nmr
    rw [gI, g13]
  · funext v
    unfold tn
    rw [g14, g18]
/-- a tree has been made and looked at -/
def rlR (co : Int) (M : mM) (a g N T K T' : Nat) (r : Int) (M3 : mM) : Prop := Mv (rlP a g) (fun x => x = a) M a M3 ∧ Lc M3 a g N T' K ∧ (∀ i, i ≠ 16 → i ≠ 17 → mI M3 a i = mI M a i) ∧ mI M3 g = mI M g ∧ (r = 0 ∨ r = 1) ∧ (mI M3 a 16 ≠ 0 ∨ (mI M3 a 16 = 0 ∧ (∃ f, Ty (nmr co M g) (tn M g) M3 g f 0 T T' (fun _ => r)) ∧ ∀ n, n < T → so M3 g n = so M g n ∧ va M3 g n = va M g n ∧ fp M3 g n = fp M g n ∧ np M3 g n = np M g n))
theorem tl_rl {T' : Nat} (hL : Lc M a g N T K) (h : Lc M2 a g N T' K) (e : mI M2 a = mI M a ∧ mI M2 g = mI M g ∧ (∀ co, nmr co M2 g = nmr co M g) ∧ tn M2 g = tn M g) (m : Mv (rlP a g) (fun x => x = a) M a M2) (s : ∀ n, n < T → so M2 g n = so M g n ∧ va M2 g n = va M g n ∧ fp M2 g n = fp M g n ∧ np M2 g n = np M g n) (q : lkQ co M2 a g N T' K T T' r M3) : rlR co M a g N T K T' r M3 := by
  obtain ⟨q1, q2, q3⟩ := q
  have hg := h.2.2.2.2.2.1
  have w2 := h.2.1.1.1
  refine ⟨m.trans (q1.1.mono (fun x hx => Or.inr hx) (fun x hx => hx) (fun x hx => w2.lt (rlP_in hg hx))), q1.2.1, fun i i1 i2 => by rw [q1.2.2.1 i i1 i2, e.1], q1.2.2.2.2.trans e.2.1, q2, ?_⟩
  rcases q3 with z | ⟨z1, z2, z3⟩
  · exact Or.inl z
  · rw [e.2.2.1, e.2.2.2] at z2
    refine Or.inr ⟨z1, z2, fun n hn => ?_⟩
    obtain ⟨b1, b2, b3, b4⟩ := s n hn
    obtain ⟨c1, c2, c3⟩ := q1.2.2.2.1 n
    exact ⟨c1.trans b1, (z3 n (Or.inl hn)).trans b2, c2.trans b3, c3.trans b4⟩
/-- a rule of a wanted type -/
def rlQ (co : Int) (M : mM) (a g N T K i j : Nat) (tr r : Int) (M3 : mM) : Prop := r = T ∧ ∃ T', T < T' ∧ T' ≤ T + (j - i) ∧ rlR co M a g N T K T' tr M3
theorem s_MM_rule1 (hco : i32 co) (htr : tr = 0 ∨ tr = 1) (h : Lc M a g N T K) (hT : T + (j - i) ≤ 30000) (he : Eo (wk M a) 6 i j) (hj : j < N) : Ci G y_MM_rule1 (d + 7) [vr a, vi i, vi j, vi tr, vi co] M (rlQ co M a g N T K i j tr) := by
  obtain ⟨hO, hx, -, hd, h10, hg, -, -⟩ := id h
  have w := hx.1.1
  have hN := hx.1.2.2
  have hij := he.pr.1
  refine k_MM_rule1 hO (i32s (by omega) (by omega)) (i32s (by omega) (by omega)) (i32s (by omega) (by omega)) hco ⟨w.1.1, (s_MM_tree (d := d) hO hx hg h10 hd he hj (by omega)).mono (fun r M2 t => ?_)⟩
  obtain ⟨er, T', t1, t2, L2, t3, e2, m2, s2⟩ := tr_lc h hT t
  subst er
  have w2 := L2.2.1.1.1
  refine ⟨i32s (by omega) (by omega), L2.1, w2.1.1, (s_MM_look (d := d) hco (fun v hv => ⟨hv.1, hv.2.1⟩) L2 t3 (Nat.le_refl _)).mono (fun x M3 q => ?_)⟩
  have R := tl_rl h L2 e2 m2 s2 q
  obtain ⟨R1, R2, R3, R4, R5, R6⟩ := id R
  have w3 := R2.2.1.1.1
  refine ⟨i32s (by omega) (by omega), R2.1, w3.1.1, fun z => ⟨rfl, T', t1, t2, R1, R2, R3, R4, htr, ?_⟩, fun z => (s_MM_place0 (d := d + 5) R2.1 R2.2.1 (by omega)).mono (fun y M4 h4 => ?_)⟩
  · by_cases z1 : mI M3 a 16 = 0
    · rcases z with z | z
      · exact absurd z1 z
      · rw [← z]; exact R6
    · exact Or.inl z1
  · obtain ⟨e4, hy⟩ := h4
    subst e4
    have hy32 : i32 y := by rw [hy]; exact (R2.1 _ _).1
    refine ⟨hy32, R2.1, w3.1.1, (s_MM_stop (i32s (by omega) (by omega)) hy32 R2.1 w3).mono (fun M5 h5 => ?_)⟩
    obtain ⟨m5, f1, f2, f3⟩ := h5
    have s7 := m5.lst (tL_in (a := a) (q := g + 7) hg (by omega)) (fun z => z)
    obtain ⟨L5, -, g5, k5⟩ := R2.step m5 (fun q hq => hq.elim) (fun x hx => hx) s7.1
    exact ⟨m5.1, rfl, T', t1, t2, R1.trans (k5.mono (fun x hx => Or.inr hx) (fun x hx => hx) (fun x hx => w3.lt (rlP_in hg hx))), L5, fun i i1 i2 => (f3 i i1 i2).trans (R3 i i1 i2), g5.trans R4, htr, Or.inl (by rw [f1]; decide)⟩
end RU
end
section
/-! The reference: the pile of what is to do. -/
section TD
variable {G : mG} {d a : Nat} {M : mM}
theorem n99 : a + 99 ∈ nums a := nums_o (by decide)
theorem r24w (w : Wd M a) : mR M a 24 = a + 99 := w.1.2.2.2.2.1.2.2.2.2.2.2.2.2.1
/-- two numbers are pushed -/
theorem s_MM_todo {X : Nat} {u v : Int} (hu : i32 u) (hv : i32 v) (hO : mOk M) (h : Wd M a) (hl : ln M (a + 99) = (X : Int)) (hX : X ≤ 65000) : Cv G y_MM_todo (d + 1) [vr a, vi u, vi v] M (fun M' => mOk M' ∧ Mv (fun x => x = a + 99) (fun _ => False) M a M' ∧ ln M' (a + 99) = (X + 2 : Nat) ∧ (∀ j, j < X → nt M' (a + 99) j = nt M (a + 99) j) ∧ nt M' (a + 99) X = u ∧ nt M' (a + 99) (X + 1) = v) := by
  refine k_MM_todo hO hu hv ?_
  rw [r24w h]
  refine ⟨h.1.1, (h.nu n99).1, (s_MN_addB (B := 65536) hu hO (h.nu n99) (by omega) (by decide)).mono (fun M1 t => ?_)⟩
  have m1 := mv_addB h n99 (Or.inr (Or.inr (Or.inr rfl))) t
  have w1 := m1.2.1
  obtain ⟨-, -, -, t1, t2, t3, -⟩ := t
  rw [hl] at t1 t2 t3
  rw [Int.toNat_natCast] at t3
  rw [r24w w1]
  refine ⟨m1.1, w1.1.1, (w1.nu n99).1, (s_MN_addB (B := 65536) hv m1.1 (w1.nu n99) (by omega) (by decide)).mono (fun M2 t' => ?_)⟩
  have m2 := mv_addB w1 n99 (Or.inr (Or.inr (Or.inr rfl))) t'
  obtain ⟨-, -, -, s1, s2, s3, -⟩ := t'
  rw [t1] at s1 s2 s3
  rw [show ((X : Int) + 1).toNat = X + 1 by omega] at s3
  exact ⟨m2.1, m2.1, m1.trans m2, by rw [s1]; omega, fun j hj => by rw [s2 j (by omega), t2 j (by omega)], by rw [s2 X (by omega)]; exact t3, s3⟩
theorem s_MM_turnTodo {L k : Nat} (hO : mOk M) (h : Wd M a) (hl : ln M (a + 99) = (L + 2 * k : Nat)) (hb : L + 2 * k ≤ 200000) (hk : 1 ≤ k) : Cv G y_MM_turnTodo (d + 1) [vr a, vi L] M (fun M' => Mv (fun x => x = a + 99) (fun _ => False) M a M' ∧ ln M' (a + 99) = ln M (a + 99) ∧ (∀ j, j < k → nt M' (a + 99) (L + 2 * j + 1) = nt M (a + 99) (L + 2 * (k - 1 - j) + 1)) ∧ ∀ i, (∀ j, j < k → i ≠ L + 2 * j + 1) → nt M' (a + 99) i = nt M (a + 99) i) := by
  have r24 : ∀ (M3 : mM), Wd M3 a → mR M3 a 24 = a + 99 := fun M3 w => w.1.2.2.2.2.1.2.2.2.2.2.2.2.2.1
  have l0 : mI M (a + 99) 1 = (L + 2 * k : Nat) := hl
  refine k_MM_turnTodo hO ⟨by omega, by omega⟩ ?_
  rw [r24 M h, l0]
  refine ⟨h.1.1, (h.nu n99).1, ?_⟩
  -- t pairs have been turned
  suffices H : ∀ (c t : Nat) (M3 : mM), c + t = k → Mv (fun x => x = a + 99) (fun _ => False) M a M3 → ln M3 (a + 99) = ln M (a + 99) → 2 * t ≤ k → (∀ j, j < k → nt M3 (a + 99) (L + 2 * j + 1) = if j < t ∨ k - 1 - j < t then nt M (a + 99) (L + 2 * (k - 1 - j) + 1) else nt M (a + 99) (L + 2 * j + 1)) → (∀ i, (∀ j, j < k → i ≠ L + 2 * j + 1) → nt M3 (a + 99) i = nt M (a + 99) i) → h_MM_turnTodo_12 G d a (L + 2 * t : Nat) ((L + 2 * k : Nat) - 2 - 2 * (t : Int)) M3 (fun M' => Mv (fun x => x = a + 99) (fun _ => False) M a M' ∧ ln M' (a + 99) = ln M (a + 99) ∧ (∀ j, j < k → nt M' (a + 99) (L + 2 * j + 1) = nt M (a + 99) (L + 2 * (k - 1 - j) + 1)) ∧ ∀ i, (∀ j, j < k → i ≠ L + 2 * j + 1) → nt M' (a + 99) i = nt M (a + 99) i) by
    have := H k 0 M (by omega) (Mv.refl hO h (fun q hq => by rw [hq]; exact h.lt n99)) rfl (by omega) (fun j hj => by rw [if_neg (by omega)]) (fun i _ => rfl)
    rw [show L + 2 * 0 = L by omega, show ((L + 2 * k : Nat) : Int) - 2 - 2 * ((0 : Nat) : Int) = ((L + 2 * k : Nat) : Int) - 2 by omega] at this
    exact this
  intro c
  induction c with
  | zero => intro t M3 hc _ _ h2; omega
  | succ c ih =>
    intro t M3 hc m3 l3 ht h3 o3
    have w3 := m3.2.1
    have u3 := w3.nu (p := a + 99) n99
    have c3 : ((L + 2 * k : Nat) : Int) ≤ cp M3 (a + 99) := by rw [← hl, ← l3]; exact u3.2.2.2.1.2
    have ecp : mN M3 (mR M3 (a + 99) 0) = cp M3 (a + 99) := rfl
    refine k_MM_turnTodo_12 m3.1 ⟨by omega, by omega⟩ ⟨by omega, by omega⟩ ⟨fun q => ⟨m3, l3, fun j hj => ?_, o3⟩, fun q => ?_⟩
    · rw [h3 j hj]
      by_cases z : j < t ∨ k - 1 - j < t
      · rw [if_pos z]
      · rw [if_neg z, show k - 1 - j = j by omega]
    · rw [r24 M3 w3, show ((L + 2 * t : Nat) : Int) + 1 = ((L + 2 * t + 1 : Nat) : Int) by omega, show ((L + 2 * k : Nat) : Int) - 2 - 2 * (t : Int) + 1 = ((L + 2 * (k - 1 - t) + 1 : Nat) : Int) by omega]
      refine ⟨w3.1.1, u3.1, (s_MN_at m3.1 u3 (by omega)).mono (fun x M4 h4 => ?_)⟩
      obtain ⟨e4, hx⟩ := h4
      subst e4
      rw [r24 M4 w3]
      refine ⟨by rw [hx]; exact (m3.1 _ _).1, m3.1, w3.1.1, u3.1, (s_MN_at m3.1 u3 (by omega)).mono (fun y M5 h5 => ?_)⟩
      obtain ⟨e5, hy⟩ := h5
      subst e5
      have hx32 : i32 x := by rw [hx]; exact (m3.1 _ _).1
      have hy32 : i32 y := by rw [hy]; exact (m3.1 _ _).1
      refine ⟨hy32, m3.1, u3.2.1, by omega, fun M6 e6 => ?_⟩
      rw [Int.toNat_natCast] at e6
      obtain ⟨m6, l6, k6, -⟩ := mv_el hy32 m3.1 w3 n99 e6
      have w6 := m6.2.1
      have u6 := w6.nu (p := a + 99) n99
      have c6 : ((L + 2 * k : Nat) : Int) ≤ cp M6 (a + 99) := by rw [← hl, ← l3, ← l6]; exact u6.2.2.2.1.2
      have ecp6 : mN M6 (mR M6 (a + 99) 0) = cp M6 (a + 99) := rfl
      rw [r24 M6 w6]
      refine ⟨w6.1.1, u6.1, u6.2.1, by omega, fun M7 e7 => ?_⟩
      rw [Int.toNat_natCast] at e7
      obtain ⟨m7, l7, k7, -⟩ := mv_el hx32 m6.1 w6 n99 e7
      have nx := ih (t + 1) M7 (by omega) ((m3.trans m6).trans m7) (by rw [l7, l6, l3]) (by omega) (fun j hj => ?_) (fun i hi => ?_)
      · rw [show ((L + 2 * (t + 1) : Nat) : Int) = ((L + 2 * t : Nat) : Int) + 2 by omega, show ((L + 2 * k : Nat) : Int) - 2 - 2 * ((t + 1 : Nat) : Int) = ((L + 2 * k : Nat) : Int) - 2 - 2 * (t : Int) - 2 by omega] at nx
        exact nx
      · rw [k7, k6]
        by_cases z1 : j = k - 1 - t
        · rw [if_pos (by omega), hx, h3 t (by omega), if_neg (by omega), if_pos (by omega), z1, show k - 1 - (k - 1 - t) = t by omega]
        · rw [if_neg (by omega)]
          by_cases z2 : j = t
          · rw [if_pos (by omega), hy, h3 (k - 1 - t) (by omega), if_neg (by omega), if_pos (by omega), z2]
          · rw [if_neg (by omega), h3 j hj]
            by_cases z3 : j < t ∨ k - 1 - j < t
            · rw [if_pos z3, if_pos (by omega)]
            · rw [if_neg z3, if_neg (by omega)]
      · rw [k7, k6, if_neg (hi (k - 1 - t) (by omega)), if_neg (hi t (by omega))]
        exact o3 i hi
end TD
end
section
/-! The reference: a name's value. -/
section NV
variable {G : mG} {F : Prop} {d a g R W T V X : Nat} {M : mM}
/-- a game whose constants, met formulas and variables have values of their types -/
def Ev (F : Prop) (M : mM) (a g R W T : Nat) : Prop := mOk M ∧ Wd M a ∧ (g = a + 13 ∨ g = a + 49) ∧ nd M g T ∧ (R ≤ 60 ∧ W ≤ 12 ∧ T ≤ 16384) ∧ (∀ r : Nat, r < R → (mI M (g + 13) r = 0 → vok (tn M g r) (mL M (g + 16) r) (mL M (g + 17) r)) ∧ (F → mI M (g + 13) r ≠ 0 → mI M (a + 102) r ≠ 0 → vok (tn M g r) (mL M (a + 103) r) (mL M (a + 104) r))) ∧ (F → ∀ v : Nat, v < W → vok (tn M g (100 + v)) (mI M (a + 101) v) (if mI M (g + 18) v = 0 then 1 else 0))
/-- the names a tree may hold: constants, and with F formulas and variables too -/
def nme (F : Prop) (M : mM) (g R W : Nat) (v : Int) : Prop := (0 ≤ v ∧ v < R ∧ (F ∨ mI M (g + 13) v.toNat = 0)) ∨ (F ∧ 100 ≤ v ∧ v < 100 + W)
/-- a formula is to be worked out -/
def nfQ (F : Prop) (M : mM) (a g X : Nat) (v : Int) (M' : mM) : Prop := F ∧ v < 100 ∧ mI M (g + 13) v.toNat ≠ 0 ∧ mI M (a + 102) v.toNat = 0 ∧ Mv (fun x => x = a + 99) (fun _ => False) M a M' ∧ ln M' (a + 99) = (X + 4 : Nat) ∧ (∀ j, j < X → nt M' (a + 99) j = nt M (a + 99) j) ∧ nt M' (a + 99) X = 3 ∧ nt M' (a + 99) (X + 1) = v ∧ nt M' (a + 99) (X + 2) = 0 ∧ nt M' (a + 99) (X + 3) = mI M (g + 15) v.toNat
/-- a value is pushed, or a formula is to be worked out -/
def naQ (F : Prop) (M : mM) (a g V X : Nat) (v : Int) (M' : mM) : Prop := (∃ A B : Int, vok (tn M g v) A B ∧ psQ M a V A B M') ∨ nfQ F M a g X v M'
theorem goff15 (hg : g = a + 13 ∨ g = a + 49) : g + 15 < a + 21192 ∧ g + 15 ∉ nums a ∧ (∀ q, q ∈ nums a → g + 15 ≠ q + 1) := by
  refine ⟨by omega, fun z => ?_, fun q z e => ?_⟩
  · obtain ⟨o, z1, z2⟩ := nums_off.1 z
    have : o = 28 ∨ o = 64 := by omega
    rcases this with y | y <;> rw [y] at z1 <;> exact absurd z1 (by decide)
  · obtain ⟨o, z1, z2⟩ := nums_off.1 z
    have : o = 27 ∨ o = 63 := by omega
    rcases this with y | y <;> rw [y] at z1 <;> exact absurd z1 (by decide)
theorem s_MM_name {v : Int} (h : Ev F M a g R W T) (hvn : nme F M g R W v) (hV : mI M a 23 = (V : Int)) (hb : V < 16400) (hl : ln M (a + 99) = (X : Int)) (hX : X ≤ 64000) : Cv G y_MM_name (d + 2) [vr a, vr g, vi v] M (fun M' => mOk M' ∧ naQ F M a g V X v M') := by
  have hv : (0 ≤ v ∧ v < R) ∨ (100 ≤ v ∧ v < 100 + W) := hvn.elim (fun z => Or.inl ⟨z.1, z.2.1⟩) (fun z => Or.inr z.2)
  obtain ⟨hO, w, hg, hn, hB, hr, hw⟩ := h
  have gp := w.gp hg
  have r7 : mR M g 7 = g + 13 := gp.2.1.2.2.2.2.2.2.1
  have r9 : mR M g 9 = g + 15 := gp.2.1.2.2.2.2.2.2.2.2.1
  have r10 : mR M g 10 = g + 16 := gp.2.1.2.2.2.2.2.2.2.2.2.1
  have r11 : mR M g 11 = g + 17 := gp.2.1.2.2.2.2.2.2.2.2.2.2
  have r13 : mR M g 13 = g + 18 := gp.2.2.1.1
  have B := w.1.2.2.2.2.1.2.2.2.2.2.2.2.2.2
  have r25 : mR M a 25 = a + 101 := B.1
  have r26 : mR M a 26 = a + 102 := B.2.1
  have r27 : mR M a 27 = a + 103 := B.2.2.1
  have r28 : mR M a 28 = a + 104 := B.2.2.2
  have A8 := w.1.2.2.2.2.2.2.2.1
  have g13 := gp.2.2.2.1.1
  have g15 := gp.2.2.2.1.2.2.1
  have g16 := gp.2.2.2.1.2.2.2.1
  have g17 := gp.2.2.2.1.2.2.2.2
  have g18 := gp.2.2.2.2.1.1
  refine k_MM_name hO ⟨by omega, by omega⟩ ?_
  rw [r7, r10, r11, r13, r25, r26, r27, r28]
  refine ⟨fun q => ?_, fun q => ?_⟩
  · have hvr : v.toNat < R := by omega
    obtain ⟨b1, b2⟩ := hr v.toNat hvr
    have hF : mI M (g + 13) v.toNat ≠ 0 → F := fun z => hvn.elim (fun y => y.2.2.elim (fun x => x) (fun x => absurd x z)) (fun y => y.1)
    rw [show ((v.toNat : Nat) : Int) = v by omega] at b1 b2
    refine ⟨gp.1, g13.1, by rw [g13.2]; omega, fun z => ⟨g16.1, by rw [g16.2]; omega, g17.1, by rw [g17.2]; omega, w.1.1, (s_MM_push (hO _ _).2 (hO _ _).2 hO w hV hb).mono (fun M' t => ⟨t.1, t.1, Or.inl ⟨_, _, b1 z, t.2⟩⟩)⟩, fun z => ⟨w.1.1, A8.2.2.2.1.1, by rw [A8.2.2.2.1.2]; omega, fun z2 => ?_, fun z2 => ⟨A8.2.2.2.2.1.1, by rw [A8.2.2.2.2.1.2]; omega, A8.2.2.2.2.2.1, by rw [A8.2.2.2.2.2.2]; omega, (s_MM_push (hO _ _).2 (hO _ _).2 hO w hV hb).mono (fun M' t => ⟨t.1, t.1, Or.inl ⟨_, _, b2 (hF z) z z2, t.2⟩⟩)⟩⟩⟩
    refine (s_MM_todo (d := d) ⟨by omega, by omega⟩ ⟨by omega, by omega⟩ hO w hl (by omega)).mono (fun M2 t => ?_)
    obtain ⟨o2, m2, l2, e2, x2, y2⟩ := t
    have w2 := m2.2.1
    have gp2 := w2.gp hg
    have q15 := goff15 hg
    have c15 := m2.cell w (fun q hq => by rw [hq]; exact n99) q15.1 q15.2.1 q15.2.2 (fun z => z)
    rw [show mR M2 g 9 = g + 15 from gp2.2.1.2.2.2.2.2.2.2.2.1, c15]
    refine ⟨o2, gp2.1, gp2.2.2.2.1.2.2.1.1, by rw [gp2.2.2.2.1.2.2.1.2]; omega, w2.1.1, (s_MM_todo (d := d) ⟨by omega, by omega⟩ (hO _ _).1 o2 w2 l2 (by omega)).mono (fun M3 t => ?_)⟩
    obtain ⟨o3, m3, l3, e3, x3, y3⟩ := t
    exact ⟨o3, o3, Or.inr ⟨hF z, q, z, z2, m2.trans m3, by rw [l3], fun j hj => by rw [e3 j (by omega), e2 j hj], by rw [e3 X (by omega)]; exact x2, by rw [e3 (X + 1) (by omega)]; exact y2, x3, y3⟩⟩
  · have hF : F := hvn.elim (fun y => absurd y.2.1 (by omega)) (fun y => y.1)
    have b := hw hF (v - 100).toNat (by omega)
    rw [show (100 : Int) + ((v - 100).toNat : Nat) = v by omega] at b
    refine ⟨w.1.1, A8.2.2.1.1, by rw [A8.2.2.1.2]; omega, gp.1, g18.1, by rw [g18.2]; omega, fun u hu => ?_⟩
    rw [← hu] at b
    have i1 := (hO (a + 101) (v - 100).toNat).1
    exact (s_MM_push ⟨by have := i1.1; omega, by have := i1.2; omega⟩ ⟨by split at hu <;> omega, by split at hu <;> omega⟩ hO w hV hb).mono (fun M' t => ⟨t.1, t.1, Or.inl ⟨_, _, b, t.2⟩⟩)
end NV
end
