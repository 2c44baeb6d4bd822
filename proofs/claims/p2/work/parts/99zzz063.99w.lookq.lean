section
/-! The reference: look. -/
section LW
variable {G : mG} {d a N g T K : Nat} {M : mM} {nm : Int → Prop} {co : Int}
/-- a tree has been looked at: a fault was told, or its names are known -/
def lkQ (co : Int) (M : mM) (a g N T K n e : Nat) (r : Int) (M3 : mM) : Prop := LO M a g N T K M3 ∧ (r = 0 ∨ r = 1) ∧ (mI M3 a 16 ≠ 0 ∨ (mI M3 a 16 = 0 ∧ (∃ f, Ty (nmr co M g) (tn M g) M3 g f 0 n e (fun _ => r)) ∧ ∀ j, (j < n ∨ e ≤ j) → va M3 g j = va M g j))
theorem LO.refl (h : Lc M a g N T K) : LO M a g N T K M := by
  have w := h.2.1.1.1
  exact ⟨Mv.refl h.1 w (fun q hq => w.lt (lkP_in h.2.2.2.2.2.1 hq)), h, fun _ _ _ => rfl, fun _ => ⟨rfl, rfl, rfl⟩, rfl⟩
end LW
end
section
/-! The reference: a rule is read and looked at. -/
section RU
variable {G : mG} {d a N g T K i j : Nat} {M M2 M3 : mM} {r co tr : Int}
theorem goff0 (hg : g = a + 13 ∨ g = a + 49) : g < a + 21192 ∧ g ∉ nums a ∧ (∀ q, q ∈ nums a → g ≠ q + 1) ∧ g ≠ a := by
  refine ⟨by omega, fun z => ?_, fun q z e => ?_, by omega⟩
  · obtain ⟨o, z1, z2⟩ := nums_off.1 z
    have : o = 13 ∨ o = 49 := by omega
    rcases this with y | y <;> rw [y] at z1 <;> exact absurd z1 (by decide)
  · obtain ⟨o, z1, z2⟩ := nums_off.1 z
    have : o = 12 ∨ o = 48 := by omega
    rcases this with y | y <;> rw [y] at z1 <;> exact absurd z1 (by decide)
abbrev rlP (a g : Nat) : Nat → Prop := fun x => trP a g x ∨ lkP a g x
theorem rlP_in {q : Nat} (hg : g = a + 13 ∨ g = a + 49) (h : rlP a g q) : q ∈ nums a := h.elim (fun z => trP_in hg z) (fun z => lkP_in hg z)
/-- a tree has been made -/
theorem tr_lc (h : Lc M a g N T K) (hT : T + (j - i) ≤ 30000) (t : trQ M a g N T i j r M2) : r = T ∧ ∃ T', T < T' ∧ T' ≤ T + (j - i) ∧ Lc M2 a g N T' K ∧ To (nmw (wk M a) N) M2 g 0 T T' ∧ (mI M2 a = mI M a ∧ mI M2 g = mI M g ∧ (∀ co, nmr co M2 g = nmr co M g) ∧ tn M2 g = tn M g) ∧ Mv (rlP a g) (fun x => x = a) M a M2 ∧ ∀ n, n < T → so M2 g n = so M g n ∧ va M2 g n = va M g n ∧ fp M2 g n = fp M g n ∧ np M2 g n = np M g n := by
  obtain ⟨m, e, T', hn, t1, t2, t3, t4, t5⟩ := t
  obtain ⟨hO, hx, hnm, hd, h10, hg, hb, -⟩ := h
  have w := hx.1.1
  have hin : ∀ q, trP a g q → q ∈ nums a := fun q hq => trP_in hg hq
  have h2 : ¬ trP a g (mR M a 2) := by
    rcases w.1.2.1 with y | y <;> rw [y.2] <;> omega
  have a0 := goff0 hg
  have a1 := goff (x := g + 14) hg (Or.inl rfl)
  have a2 := goff (x := g + 18) hg (Or.inr rfl)
  have gI := m.cell w hin a0.1 a0.2.1 a0.2.2.1 (fun z => z)
  have o13 := goffx (i := 13) hg (by decide) (by decide)
  have g13 := m.cell w hin o13.1 o13.2.1 o13.2.2 (fun z => z)
  have g14 := m.cell w hin a1.1 a1.2.1 a1.2.2.1 (fun z => z)
  have g18 := m.cell w hin a2.1 a2.2.1 a2.2.2.1 (fun z => z)
  have aI := (m.fld w hin (fun z => z)).1
  have k85 := m.lst (n85 (a := a)) (by omega)
  have k87 := m.lst (n87 (a := a)) (by omega)
  have k89 := m.lst (n89 (a := a)) (by omega)
  refine ⟨e, T', t1, t2, ⟨m.1, hx.mv m hin (by omega) (by omega) (by omega) h2, ?_, hn, by rw [m.rfl_a w hin]; exact h10, hg, by rw [gI]; exact hb, by omega⟩, t3, ⟨aI, gI, ?_, ?_⟩, m.mono (fun q hq => Or.inl hq) (fun x hx => hx.elim) (fun q hq => w.lt (rlP_in hg hq)), t5⟩
  · obtain ⟨n1, n2, n3, n4, n5'⟩ := hnm
    refine ⟨by rw [k85.1]; exact n1, by rw [k87.1]; exact n2, by rw [k89.1]; exact n3, n4, fun k hk => ?_⟩
    rw [k85.2.1, k87.2.1, k89.2.1, gI, g13]
    exact n5' k hk
  · intro co
    funext v
    unfold nmr
    rw [gI, g13]
  · funext v
    unfold tn
    rw [g14, g18]
/-- a tree has been made and looked at -/
def rlR (co : Int) (M : mM) (a g N T K T' : Nat) (r : Int) (M3 : mM) : Prop := Mv (rlP a g) (fun x => x = a) M a M3 ∧ Lc M3 a g N T' K ∧ (∀ i, i ≠ 16 → i ≠ 17 → mI M3 a i = mI M a i) ∧ mI M3 g = mI M g ∧ (r = 0 ∨ r = 1) ∧ (mI M3 a 16 ≠ 0 ∨ (mI M3 a 16 = 0 ∧ (∃ f, Ty (nmr co M g) (tn M g) M3 g f 0 T T' (fun _ => r)) ∧ ∀ n, n < T → so M3 g n = so M g n ∧ va M3 g n = va M g n ∧ fp M3 g n = fp M g n ∧ np M3 g n = np M g n))
theorem tl_rl {T' : Nat} (hL : Lc M a g N T K) (h : Lc M2 a g N T' K) (e : mI M2 a = mI M a ∧ mI M2 g = mI M g ∧ (∀ co, nmr co M2 g = nmr co M g) ∧ tn M2 g = tn M g) (m : Mv (rlP a g) (fun x => x = a) M a M2) (s : ∀ n, n < T → so M2 g n = so M g n ∧ va M2 g n = va M g n ∧ fp M2 g n = fp M g n ∧ np M2 g n = np M g n) (q : lkQ co M2 a g N T' K T T' r M3) : rlR co M a g N T K T' r M3 := by
  obtain ⟨q1, q2, q3⟩ := q
  have hg := h.2.2.2.2.2.1
  have w2 := h.2.1.1.1
  refine ⟨m.trans (q1.1.mono (fun x hx => Or.inr hx) (fun x hx => hx) (fun x hx => w2.lt (rlP_in hg hx))), q1.2.1, fun i i1 i2 => by rw [q1.2.2.1 i i1 i2, e.1], q1.2.2.2.2.trans e.2.1, q2, ?_⟩
  rcases q3 with z | ⟨z1, z2, z3⟩
  · exact Or.inl z
  · rw [e.2.2.1, e.2.2.2] at z2
    refine Or.inr ⟨z1, z2, fun n hn => ?_⟩
    obtain ⟨b1, b2, b3, b4⟩ := s n hn
    obtain ⟨c1, c2, c3⟩ := q1.2.2.2.1 n
    exact ⟨c1.trans b1, (z3 n (Or.inl hn)).trans b2, c2.trans b3, c3.trans b4⟩
end RU
end
section
/-! The reference: the pile of what is to do. -/
section TD
variable {G : mG} {d a : Nat} {M : mM}
theorem n99 : a + 99 ∈ nums a := nums_o (by decide)
theorem r24w (w : Wd M a) : mR M a 24 = a + 99 := w.1.2.2.2.2.1.2.2.2.2.2.2.2.2.1
/-- two numbers are pushed -/
theorem s_MM_todo {X : Nat} {u v : Int} (hu : i32 u) (hv : i32 v) (hO : mOk M) (h : Wd M a) (hl : ln M (a + 99) = (X : Int)) (hX : X ≤ 65000) : Cv G y_MM_todo (d + 1) [vr a, vi u, vi v] M (fun M' => mOk M' ∧ Mv (fun x => x = a + 99) (fun _ => False) M a M' ∧ ln M' (a + 99) = (X + 2 : Nat) ∧ (∀ j, j < X → nt M' (a + 99) j = nt M (a + 99) j) ∧ nt M' (a + 99) X = u ∧ nt M' (a + 99) (X + 1) = v) := by
  refine k_MM_todo hO hu hv ?_
  rw [r24w h]
  refine ⟨h.1.1, (h.nu n99).1, (s_MN_addB (B := 65536) hu hO (h.nu n99) (by omega) (by decide)).mono (fun M1 t => ?_)⟩
  have m1 := mv_addB h n99 (Or.inr (Or.inr (Or.inr rfl))) t
  have w1 := m1.2.1
  obtain ⟨-, -, -, t1, t2, t3, -⟩ := t
  rw [hl] at t1 t2 t3
  rw [Int.toNat_natCast] at t3
  rw [r24w w1]
  refine ⟨m1.1, w1.1.1, (w1.nu n99).1, (s_MN_addB (B := 65536) hv m1.1 (w1.nu n99) (by omega) (by decide)).mono (fun M2 t' => ?_)⟩
  have m2 := mv_addB w1 n99 (Or.inr (Or.inr (Or.inr rfl))) t'
  obtain ⟨-, -, -, s1, s2, s3, -⟩ := t'
  rw [t1] at s1 s2 s3
  rw [show ((X : Int) + 1).toNat = X + 1 by omega] at s3
  exact ⟨m2.1, m2.1, m1.trans m2, by rw [s1]; omega, fun j hj => by rw [s2 j (by omega), t2 j (by omega)], by rw [s2 X (by omega)]; exact t3, s3⟩
theorem s_MM_turnTodo {L k : Nat} (hO : mOk M) (h : Wd M a) (hl : ln M (a + 99) = (L + 2 * k : Nat)) (hb : L + 2 * k ≤ 200000) (hk : 1 ≤ k) : Cv G y_MM_turnTodo (d + 1) [vr a, vi L] M (fun M' => Mv (fun x => x = a + 99) (fun _ => False) M a M' ∧ ln M' (a + 99) = ln M (a + 99) ∧ (∀ j, j < k → nt M' (a + 99) (L + 2 * j + 1) = nt M (a + 99) (L + 2 * (k - 1 - j) + 1)) ∧ ∀ i, (∀ j, j < k → i ≠ L + 2 * j + 1) → nt M' (a + 99) i = nt M (a + 99) i) := by
  have r24 : ∀ (M3 : mM), Wd M3 a → mR M3 a 24 = a + 99 := fun M3 w => w.1.2.2.2.2.1.2.2.2.2.2.2.2.2.1
  have l0 : mI M (a + 99) 1 = (L + 2 * k : Nat) := hl
  refine k_MM_turnTodo hO ⟨by omega, by omega⟩ ?_
  rw [r24 M h, l0]
  refine ⟨h.1.1, (h.nu n99).1, ?_⟩
  -- t pairs have been turned
  suffices H : ∀ (c t : Nat) (M3 : mM), c + t = k → Mv (fun x => x = a + 99) (fun _ => False) M a M3 → ln M3 (a + 99) = ln M (a + 99) → 2 * t ≤ k → (∀ j, j < k → nt M3 (a + 99) (L + 2 * j + 1) = if j < t ∨ k - 1 - j < t then nt M (a + 99) (L + 2 * (k - 1 - j) + 1) else nt M (a + 99) (L + 2 * j + 1)) → (∀ i, (∀ j, j < k → i ≠ L + 2 * j + 1) → nt M3 (a + 99) i = nt M (a + 99) i) → h_MM_turnTodo_12 G d a (L + 2 * t : Nat) ((L + 2 * k : Nat) - 2 - 2 * (t : Int)) M3 (fun M' => Mv (fun x => x = a + 99) (fun _ => False) M a M' ∧ ln M' (a + 99) = ln M (a + 99) ∧ (∀ j, j < k → nt M' (a + 99) (L + 2 * j + 1) = nt M (a + 99) (L + 2 * (k - 1 - j) + 1)) ∧ ∀ i, (∀ j, j < k → i ≠ L + 2 * j + 1) → nt M' (a + 99) i = nt M (a + 99) i) by
    have := H k 0 M (by omega) (Mv.refl hO h (fun q hq => by rw [hq]; exact h.lt n99)) rfl (by omega) (fun j hj => by rw [if_neg (by omega)]) (fun i _ => rfl)
    rw [show L + 2 * 0 = L by omega, show ((L + 2 * k : Nat) : Int) - 2 - 2 * ((0 : Nat) : Int) = ((L + 2 * k : Nat) : Int) - 2 by omega] at this
    exact this
  intro c
  induction c with
  | zero => intro t M3 hc _ _ h2; omega
  | succ c ih =>
    intro t M3 hc m3 l3 ht h3 o3
    have w3 := m3.2.1
    have u3 := w3.nu (p := a + 99) n99
    have c3 : ((L + 2 * k : Nat) : Int) ≤ cp M3 (a + 99) := by rw [← hl, ← l3]; exact u3.2.2.2.1.2
    have ecp : mN M3 (mR M3 (a + 99) 0) = cp M3 (a + 99) := rfl
    refine k_MM_turnTodo_12 m3.1 ⟨by omega, by omega⟩ ⟨by omega, by omega⟩ ⟨fun q => ⟨m3, l3, fun j hj => ?_, o3⟩, fun q => ?_⟩
    · rw [h3 j hj]
      by_cases z : j < t ∨ k - 1 - j < t
      · rw [if_pos z]
      · rw [if_neg z, show k - 1 - j = j by omega]
    · rw [r24 M3 w3, show ((L + 2 * t : Nat) : Int) + 1 = ((L + 2 * t + 1 : Nat) : Int) by omega, show ((L + 2 * k : Nat) : Int) - 2 - 2 * (t : Int) + 1 = ((L + 2 * (k - 1 - t) + 1 : Nat) : Int) by omega]
      refine ⟨w3.1.1, u3.1, (s_MN_at m3.1 u3 (by omega)).mono (fun x M4 h4 => ?_)⟩
      obtain ⟨e4, hx⟩ := h4
      subst e4
      rw [r24 M4 w3]
      refine ⟨by rw [hx]; exact (m3.1 _ _).1, m3.1, w3.1.1, u3.1, (s_MN_at m3.1 u3 (by omega)).mono (fun y M5 h5 => ?_)⟩
      obtain ⟨e5, hy⟩ := h5
      subst e5
      have hx32 : i32 x := by rw [hx]; exact (m3.1 _ _).1
      have hy32 : i32 y := by rw [hy]; exact (m3.1 _ _).1
      refine ⟨hy32, m3.1, u3.2.1, by omega, fun M6 e6 => ?_⟩
      rw [Int.toNat_natCast] at e6
      obtain ⟨m6, l6, k6, -⟩ := mv_el hy32 m3.1 w3 n99 e6
      have w6 := m6.2.1
      have u6 := w6.nu (p := a + 99) n99
      have c6 : ((L + 2 * k : Nat) : Int) ≤ cp M6 (a + 99) := by rw [← hl, ← l3, ← l6]; exact u6.2.2.2.1.2
      have ecp6 : mN M6 (mR M6 (a + 99) 0) = cp M6 (a + 99) := rfl
      rw [r24 M6 w6]
      refine ⟨w6.1.1, u6.1, u6.2.1, by omega, fun M7 e7 => ?_⟩
      rw [Int.toNat_natCast] at e7
      obtain ⟨m7, l7, k7, -⟩ := mv_el hx32 m6.1 w6 n99 e7
      have nx := ih (t + 1) M7 (by omega) ((m3.trans m6).trans m7) (by rw [l7, l6, l3]) (by omega) (fun j hj => ?_) (fun i hi => ?_)
      · rw [show ((L + 2 * (t + 1) : Nat) : Int) = ((L + 2 * t : Nat) : Int) + 2 by omega, show ((L + 2 * k : Nat) : Int) - 2 - 2 * ((t + 1 : Nat) : Int) = ((L + 2 * k : Nat) : Int) - 2 - 2 * (t : Int) - 2 by omega] at nx
        exact nx
      · rw [k7, k6]
        by_cases z1 : j = k - 1 - t
        · rw [if_pos (by omega), hx, h3 t (by omega), if_neg (by omega), if_pos (by omega), z1, show k - 1 - (k - 1 - t) = t by omega]
        · rw [if_neg (by omega)]
          by_cases z2 : j = t
          · rw [if_pos (by omega), hy, h3 (k - 1 - t) (by omega), if_neg (by omega), if_pos (by omega), z2]
          · rw [if_neg (by omega), h3 j hj]
            by_cases z3 : j < t ∨ k - 1 - j < t
            · rw [if_pos z3, if_pos (by omega)]
            · rw [if_neg z3, if_neg (by omega)]
      · rw [k7, k6, if_neg (hi (k - 1 - t) (by omega)), if_neg (hi t (by omega))]
        exact o3 i hi
end TD
end
section
/-! The reference: a name's value. -/
section NV
variable {G : mG} {F : Prop} {d a g R W T V X : Nat} {M : mM}
/-- a game whose constants, met formulas and variables have values of their types -/
def Ev (F : Prop) (M : mM) (a g R W T : Nat) : Prop := mOk M ∧ Wd M a ∧ (g = a + 13 ∨ g = a + 49) ∧ nd M g T ∧ (R ≤ 60 ∧ W ≤ 12 ∧ T ≤ 16384) ∧ (∀ r : Nat, r < R → (mI M (g + 13) r = 0 → vok (tn M g r) (mL M (g + 16) r) (mL M (g + 17) r)) ∧ (F → mI M (g + 13) r ≠ 0 → mI M (a + 102) r ≠ 0 → vok (tn M g r) (mL M (a + 103) r) (mL M (a + 104) r))) ∧ (F → ∀ v : Nat, v < W → vok (tn M g (100 + v)) (mI M (a + 101) v) (if mI M (g + 18) v = 0 then 1 else 0))
/-- the names a tree may hold: constants, and with F formulas and variables too -/
def nme (F : Prop) (M : mM) (g R W : Nat) (v : Int) : Prop := (0 ≤ v ∧ v < R ∧ (F ∨ mI M (g + 13) v.toNat = 0)) ∨ (F ∧ 100 ≤ v ∧ v < 100 + W)
/-- a formula is to be worked out -/
def nfQ (F : Prop) (M : mM) (a g X : Nat) (v : Int) (M' : mM) : Prop := F ∧ v < 100 ∧ mI M (g + 13) v.toNat ≠ 0 ∧ mI M (a + 102) v.toNat = 0 ∧ Mv (fun x => x = a + 99) (fun _ => False) M a M' ∧ ln M' (a + 99) = (X + 4 : Nat) ∧ (∀ j, j < X → nt M' (a + 99) j = nt M (a + 99) j) ∧ nt M' (a + 99) X = 3 ∧ nt M' (a + 99) (X + 1) = v ∧ nt M' (a + 99) (X + 2) = 0 ∧ nt M' (a + 99) (X + 3) = mI M (g + 15) v.toNat
theorem goff15 (hg : g = a + 13 ∨ g = a + 49) : g + 15 < a + 21192 ∧ g + 15 ∉ nums a ∧ (∀ q, q ∈ nums a → g + 15 ≠ q + 1) := by
  refine ⟨by omega, fun z => ?_, fun q z e => ?_⟩
  · obtain ⟨o, z1, z2⟩ := nums_off.1 z
    have : o = 28 ∨ o = 64 := by omega
    rcases this with y | y <;> rw [y] at z1 <;> exact absurd z1 (by decide)
  · obtain ⟨o, z1, z2⟩ := nums_off.1 z
    have : o = 27 ∨ o = 63 := by omega
    rcases this with y | y <;> rw [y] at z1 <;> exact absurd z1 (by decide)
end NV
end
section
/-! The reference: and, or, ask go on or end. -/
section CH
variable {G : mG} {F : Prop} {d a g R W T V X n c1 c2 : Nat} {M : mM}
end CH
end
section
/-! The reference: a node's value from its parts' values. -/
section FI2
variable {G : mG} {F : Prop} {d a g R W T V n : Nat} {M : mM} {Q : mM → Prop}
theorem s_fin32 {nm : Int → Prop} {s p : Int} (is : i32 s) (ip : i32 p) (h : Ev F M a g R W T) : ∀ (k f n e c : Nat), 1 ≤ k → Tn nm M g f k n e → e ≤ T → c + k ≤ 100000 → h_MM_finish_32 G d a g s p (c + k : Nat) (-1) M Q → h_MM_finish_32 G d a g s p c n M Q := by
  obtain ⟨hO, w, hg, hd, hB, -, -⟩ := h
  have gp := w.gp hg
  have i11 := tL_in (a := a) (q := g + 11) hg (tLk11 g)
  have l11 := hd (g + 11) (by first | exact tLk11 g | omega)
  have r5 : mR M g 5 = g + 11 := gp.2.1.2.2.2.2.2.1
  intro k
  induction k with
  | zero => intro f n e c hk; omega
  | succ k ih =>
    intro f n e c hk ht he hc hQ
    have hlt := ht.lt
    cases f with
    | zero => exact ht.elim
    | succ f =>
      have ht' : Tn nm M g (f + 1) (k + 1) n e := ht
      rw [Tn, if_neg (by omega)] at ht'
      refine k_MM_finish_32 hO is ip (i32s (by omega) (by omega)) (i32s (by omega) (by omega)) ⟨fun q => by omega, fun _ => ?_⟩
      rw [r5]
      refine ⟨gp.1, (w.nu i11).1, (s_MN_at hO (w.nu i11) (by omega)).mono (fun z M1 e1 => ?_)⟩
      obtain ⟨e1, hz⟩ := e1
      subst e1
      refine ⟨by rw [hz]; exact (hO _ _).1, hO, ?_⟩
      by_cases k0 : k + 1 = 1
      · rw [if_pos k0] at ht'
        rw [show z = -1 from hz.trans ht'.1, show (c : Int) + 1 = ((c + (k + 1) : Nat) : Int) by omega]
        exact hQ
      · rw [if_neg k0] at ht'
        obtain ⟨m, q1, q2, q3⟩ := ht'
        rw [show z = (m : Int) from hz.trans q1, show (c : Int) + 1 = ((c + 1 : Nat) : Int) by omega]
        refine ih f m e (c + 1) (by omega) q3 he (by omega) ?_
        rw [show c + 1 + k = c + (k + 1) by omega]
        exact hQ
/-- a field is written first -/
theorem rkQ.pre {t : Int} {M2 M' : mM} (m : Mv (fun _ => False) (fun x => x = a) M a M2) (f : ∀ i, i ≠ 23 → mI M2 a i = mI M a i) (w : Wd M a) (h : rkQ M2 a V t M') : rkQ M a V t M' := by
  have z := w.2.2.2
  have cl : ∀ x, x < mZ M → x ≠ a → mL M2 x = mL M x := fun x hx hne => (m.2.2.2.1.2.2.2.1 x hx (fun y => y) (fun p y => y.elim) hne).2
  obtain ⟨h1, h2, h3, h4⟩ := h
  refine ⟨(m.mono (fun _ y => y) (fun x y => Or.inl y) (fun _ y => y.elim)).trans h1, fun i i1 i2 i3 => (h2 i i1 i2 i3).trans (f i i3), fun k hk => ⟨by rw [(h3 k hk).1, cl _ (by omega) (by omega)], by rw [(h3 k hk).2, cl _ (by omega) (by omega)]⟩, ?_⟩
  rw [← f 16 (by omega)]
  exact h4
end FI2
end
section
/-! The reference: finish. -/
section FI3
variable {G : mG} {F : Prop} {d a g R W T V n : Nat} {M : mM}
end FI3
end
section
/-! The reference: a name is known. -/
section KN
variable {G : mG} {d a K : Nat} {M : mM}
abbrev knP (a : Nat) : Nat → Prop := fun x => x = a + 85 ∨ x = a + 87 ∨ x = a + 89
theorem knP_in {q : Nat} (h : knP a q) : q ∈ nums a := by
  rcases h with h | h | h
  · rw [h]; exact n85
  · rw [h]; exact n87
  · rw [h]; exact n89
theorem s_MM_know {u v x : Int} (hu : i32 u) (hv : i32 v) (hx : i32 x) (hO : mOk M) (h : Wd M a) (l1 : ln M (a + 85) = (K : Int)) (l2 : ln M (a + 87) = (K : Int)) (l3 : ln M (a + 89) = (K : Int)) (hK : K ≤ 1000) : Cv G y_MM_know (d + 1) [vr a, vi u, vi v, vi x] M (fun M' => mOk M' ∧ Mv (knP a) (fun _ => False) M a M' ∧ (ln M' (a + 85) = (K + 1 : Nat) ∧ ln M' (a + 87) = (K + 1 : Nat) ∧ ln M' (a + 89) = (K + 1 : Nat)) ∧ (∀ j, j < K → nt M' (a + 85) j = nt M (a + 85) j ∧ nt M' (a + 87) j = nt M (a + 87) j ∧ nt M' (a + 89) j = nt M (a + 89) j) ∧ nt M' (a + 85) K = u ∧ nt M' (a + 87) K = v ∧ nt M' (a + 89) K = x) := by
  have r13 : ∀ {M3 : mM}, Wd M3 a → mR M3 a 13 = a + 85 := fun w => w.1.2.2.2.2.1.1
  have r14 : ∀ {M3 : mM}, Wd M3 a → mR M3 a 14 = a + 87 := fun w => w.1.2.2.2.2.1.2.1
  have r15 : ∀ {M3 : mM}, Wd M3 a → mR M3 a 15 = a + 89 := fun w => w.1.2.2.2.2.1.2.2.1
  have lt : ∀ {M5 : mM}, Wd M5 a → ∀ q, knP a q → q < mZ M5 := fun w q hq => w.lt (knP_in hq)
  refine k_MM_know hO hu hv hx ?_
  rw [r13 h]
  refine ⟨h.1.1, (h.nu n85).1, (s_MN_add hu hO (h.nu n85) (by omega)).mono (fun M1 t => ?_)⟩
  have m1 := mv_add h n85 t
  have w1 := m1.2.1
  obtain ⟨-, -, -, a1, a2, a3, -⟩ := t
  rw [l1] at a1 a2 a3
  rw [Int.toNat_natCast] at a3
  have s17 := m1.lst (n87 (a := a)) (by omega)
  have s19 := m1.lst (n89 (a := a)) (by omega)
  rw [r14 w1]
  refine ⟨m1.1, w1.1.1, (w1.nu n87).1, (s_MN_add hv m1.1 (w1.nu n87) (by rw [s17.1]; omega)).mono (fun M2 t => ?_)⟩
  have m2 := mv_add w1 n87 t
  have w2 := m2.2.1
  obtain ⟨-, -, -, b1, b2, b3, -⟩ := t
  rw [s17.1, l2] at b1 b2 b3
  rw [Int.toNat_natCast] at b3
  have s25 := m2.lst (n85 (a := a)) (by omega)
  have s29 := m2.lst (n89 (a := a)) (by omega)
  rw [r15 w2]
  refine ⟨m2.1, w2.1.1, (w2.nu n89).1, (s_MN_add hx m2.1 (w2.nu n89) (by rw [s29.1, s19.1]; omega)).mono (fun M3 t => ?_)⟩
  have m3 := mv_add w2 n89 t
  obtain ⟨-, -, -, c1, c2, c3, -⟩ := t
  rw [s29.1, s19.1, l3] at c1 c2 c3
  rw [Int.toNat_natCast] at c3
  have s35 := m3.lst (n85 (a := a)) (by omega)
  have s37 := m3.lst (n87 (a := a)) (by omega)
  refine ⟨m3.1, m3.1, ((m1.mono (fun q hq => Or.inl hq) (fun _ z => z) (lt h)).trans (m2.mono (fun q hq => Or.inr (Or.inl hq)) (fun _ z => z) (lt w1))).trans (m3.mono (fun q hq => Or.inr (Or.inr hq)) (fun _ z => z) (lt w2)), ⟨by rw [s35.1, s25.1, a1]; omega, by rw [s37.1, b1]; omega, by rw [c1]; omega⟩, fun j hj => ⟨by rw [s35.2.1, s25.2.1, a2 j (by omega)], by rw [s37.2.1, b2 j (by omega), s17.2.1], by rw [c2 j (by omega), s29.2.1, s19.2.1]⟩, by rw [s35.2.1, s25.2.1]; exact a3, by rw [s37.2.1]; exact b3, c3⟩
end KN
end
