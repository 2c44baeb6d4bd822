/-! The reference: a rule is read and looked at. -/
section RU
variable {G : mG} {d a N g T K i j : Nat} {M M2 M3 : mM} {r co tr : Int}
theorem goff0 (hg : g = a + 13 ∨ g = a + 49) : g < a + 21192 ∧ g ∉ nums a ∧ (∀ q, q ∈ nums a → g ≠ q + 1) ∧ g ≠ a := by
  refine ⟨by omega, fun z => ?_, fun q z e => ?_, by omega⟩
  · obtain ⟨o, z1, z2⟩ := nums_off.1 z
    have : o = 13 ∨ o = 49 := by omega
    rcases this with y | y <;> rw [y] at z1 <;> exact absurd z1 (by decide)
  · obtain ⟨o, z1, z2⟩ := nums_off.1 z
    have : o = 12 ∨ o = 48 := by omega
    rcases this with y | y <;> rw [y] at z1 <;> exact absurd z1 (by decide)
abbrev rlP (a g : Nat) : Nat → Prop := fun x => trP a g x ∨ lkP a g x
theorem rlP_in {q : Nat} (hg : g = a + 13 ∨ g = a + 49) (h : rlP a g q) : q ∈ nums a := h.elim (fun z => trP_in hg z) (fun z => lkP_in hg z)
/-- a tree has been made -/
theorem tr_lc (h : Lc M a g N T K) (hT : T + (j - i) ≤ 30000) (t : trQ M a g N T i j r M2) : r = T ∧ ∃ T', T < T' ∧ T' ≤ T + (j - i) ∧ Lc M2 a g N T' K ∧ To (nmw (wk M a) N) M2 g 0 T T' ∧ (mI M2 a = mI M a ∧ mI M2 g = mI M g ∧ (∀ co, nmr co M2 g = nmr co M g) ∧ tn M2 g = tn M g) ∧ Mv (rlP a g) (fun x => x = a) M a M2 ∧ ∀ n, n < T → so M2 g n = so M g n ∧ va M2 g n = va M g n ∧ fp M2 g n = fp M g n ∧ np M2 g n = np M g n := by
  obtain ⟨m, e, T', hn, t1, t2, t3, t4, t5⟩ := t
  obtain ⟨hO, hx, hnm, hd, h10, hg, hb, -⟩ := h
  have w := hx.1.1
  have hin : ∀ q, trP a g q → q ∈ nums a := fun q hq => trP_in hg hq
  have h2 : ¬ trP a g (mR M a 2) := by
    rcases w.1.2.1 with y | y <;> rw [y.2] <;> omega
  have a0 := goff0 hg
  have a1 := goff (x := g + 14) hg (Or.inl rfl)
  have a2 := goff (x := g + 18) hg (Or.inr rfl)
  have gI := m.cell w hin a0.1 a0.2.1 a0.2.2.1 (fun z => z)
  have o13 := goffx (i := 13) hg (by decide) (by decide)
  have g13 := m.cell w hin o13.1 o13.2.1 o13.2.2 (fun z => z)
  have g14 := m.cell w hin a1.1 a1.2.1 a1.2.2.1 (fun z => z)
  have g18 := m.cell w hin a2.1 a2.2.1 a2.2.2.1 (fun z => z)
  have aI := (m.fld w hin (fun z => z)).1
  have k85 := m.lst (n85 (a := a)) (by omega)
  have k87 := m.lst (n87 (a := a)) (by omega)
  have k89 := m.lst (n89 (a := a)) (by omega)
  refine ⟨e, T', t1, t2, ⟨m.1, hx.mv m hin (by omega) (by omega) (by omega) h2, ?_, hn, by rw [m.rfl_a w hin]; exact h10, hg, by rw [gI]; exact hb, by omega⟩, t3, ⟨aI, gI, ?_, ?_⟩, m.mono (fun q hq => Or.inl hq) (fun x hx => hx.elim) (fun q hq => w.lt (rlP_in hg hq)), t5⟩
  · obtain ⟨n1, n2, n3, n4, n5'⟩ := hnm
    refine ⟨by rw [k85.1]; exact n1, by rw [k87.1]; exact n2, by rw [k89.1]; exact n3, n4, fun k hk => ?_⟩
    rw [k85.2.1, k87.2.1, k89.2.1, gI, g13]
    exact n5' k hk
  · intro co
    funext v
    unfold nmr
    rw [gI, g13]
  · funext v
    unfold tn
    rw [g14, g18]
/-- a tree has been made and looked at -/
def rlR (co : Int) (M : mM) (a g N T K T' : Nat) (r : Int) (M3 : mM) : Prop := Mv (rlP a g) (fun x => x = a) M a M3 ∧ Lc M3 a g N T' K ∧ (∀ i, i ≠ 16 → i ≠ 17 → mI M3 a i = mI M a i) ∧ mI M3 g = mI M g ∧ (r = 0 ∨ r = 1) ∧ (mI M3 a 16 ≠ 0 ∨ (mI M3 a 16 = 0 ∧ (∃ f, Ty (nmr co M g) (tn M g) M3 g f 0 T T' (fun _ => r)) ∧ ∀ n, n < T → so M3 g n = so M g n ∧ va M3 g n = va M g n ∧ fp M3 g n = fp M g n ∧ np M3 g n = np M g n))
theorem tl_rl {T' : Nat} (hL : Lc M a g N T K) (h : Lc M2 a g N T' K) (e : mI M2 a = mI M a ∧ mI M2 g = mI M g ∧ (∀ co, nmr co M2 g = nmr co M g) ∧ tn M2 g = tn M g) (m : Mv (rlP a g) (fun x => x = a) M a M2) (s : ∀ n, n < T → so M2 g n = so M g n ∧ va M2 g n = va M g n ∧ fp M2 g n = fp M g n ∧ np M2 g n = np M g n) (q : lkQ co M2 a g N T' K T T' r M3) : rlR co M a g N T K T' r M3 := by
  obtain ⟨q1, q2, q3⟩ := q
  have hg := h.2.2.2.2.2.1
  have w2 := h.2.1.1.1
  refine ⟨m.trans (q1.1.mono (fun x hx => Or.inr hx) (fun x hx => hx) (fun x hx => w2.lt (rlP_in hg hx))), q1.2.1, fun i i1 i2 => by rw [q1.2.2.1 i i1 i2, e.1], q1.2.2.2.2.trans e.2.1, q2, ?_⟩
  rcases q3 with z | ⟨z1, z2, z3⟩
  · exact Or.inl z
  · rw [e.2.2.1, e.2.2.2] at z2
    refine Or.inr ⟨z1, z2, fun n hn => ?_⟩
    obtain ⟨b1, b2, b3, b4⟩ := s n hn
    obtain ⟨c1, c2, c3⟩ := q1.2.2.2.1 n
    exact ⟨c1.trans b1, (z3 n (Or.inl hn)).trans b2, c2.trans b3, c3.trans b4⟩
end RU
