/-! The reference's look answers what the least closed set says. -/
section RSV
variable {T : xt9} {J : Nat → Prop} {x : Int × List sc9} {k s : Nat} {M M' : mM} {r : Int}
/-- the solver's tables are those of T -/
def SvT (M : mM) (s : Nat) (T : xt9) : Prop := mI M s 1 = ((T.length : Nat) : Int) ∧ ∀ (k : Nat) (x : Int × List sc9), T[k]? = some x → mI M (s + 22) k = x.1 ∧ mny M s k = ((x.2.length : Nat) : Int) ∧ ∀ (i : Nat) (c : sc9), x.2[i]? = some c → mI M (s + 24) ((mI M (s + 23) k).toNat + i) = c.2.1 ∧ (∀ J : Nat → Prop, leadQ J M s k i ↔ ldA9 J c) ∧ (∀ b, b ∈ c.2.2 → b.1 < T.length) ∧ ∀ f : Nat → Rat, cw M s (cx M s k i) f = wr9 f c
theorem SvT.sv (h : SvT M s T) (e1 : mI M' s 1 = mI M s 1) (e : ∀ i, 22 ≤ i → i ≤ 28 → mI M' (s + i) = mI M (s + i)) : SvT M' s T := by
  refine ⟨by rw [e1]; exact h.1, fun k x hx => ?_⟩
  obtain ⟨h1, h2, h3⟩ := h.2 k x hx
  have ew : ∀ (c : Nat) (f : Nat → Rat), cw M' s c f = cw M s c f := fun c f => by
    unfold cw chq bg nb tg
    rw [e 25 (by decide) (by decide), e 26 (by decide) (by decide), e 27 (by decide) (by decide), e 28 (by decide) (by decide)]
  have ex : cx M' s = cx M s := by
    funext a b
    unfold cx
    rw [e 23 (by decide) (by decide)]
  unfold mny leadQ at *
  rw [e 22 (by decide) (by decide), e 23 (by decide) (by decide), e 24 (by decide) (by decide), e 25 (by decide) (by decide), e 26 (by decide) (by decide)]
  refine ⟨h1, h2, fun i c hc => ?_⟩
  obtain ⟨g1, g2, g3, g4⟩ := h3 i c hc
  exact ⟨g1, g2, g3, fun f => by rw [ew, ex]; exact g4 f⟩
theorem lt_some {α : Type} {l : List α} {i : Nat} {a : α} (h : l[i]? = some a) : i < l.length := (List.getElem?_eq_some_iff.mp h).1
theorem co_iff (h : SvT M s T) (k0 : mI M s 17 = 0) (hx : T[k]? = some x) : comesQ J M s k 0 ↔ coA9 J x := by
  obtain ⟨a1, a2, a3⟩ := h.2 k x hx
  have use : x.1 ≠ 0 → ∀ i, useP M s k i 0 := fun n i => Or.inl ⟨Or.inr rfl, Or.inl (by rw [k0, a1]; exact fun u => n u.symm)⟩
  unfold comesQ coA9
  rw [a1, a2]
  constructor
  · intro u
    rcases u with ⟨u1, i, u2, -, u3⟩ | ⟨u1, u2, u3⟩
    · have hi := List.getElem?_eq_getElem (l := x.2) (i := i) (by omega)
      exact Or.inl ⟨u1, _, List.mem_of_getElem? hi, ((a3 i _ hi).2.1 J).mp u3⟩
    · refine Or.inr ⟨u1, fun e => by rw [e] at u2; exact absurd u2 (by decide), fun c hc => ?_⟩
      obtain ⟨i, hi⟩ := List.getElem?_of_mem hc
      have lt := lt_some hi
      exact ((a3 i c hi).2.1 J).mp (u3 i (by omega) (use (by rw [u1]; decide) i))
  · intro u
    rcases u with ⟨u1, c, hc, u2⟩ | ⟨u1, u2, u3⟩
    · obtain ⟨i, hi⟩ := List.getElem?_of_mem hc
      have lt := lt_some hi
      exact Or.inl ⟨u1, i, by omega, use (by rw [u1]; decide) i, ((a3 i c hi).2.1 J).mpr u2⟩
    · refine Or.inr ⟨u1, ?_, fun i hi _ => ?_⟩
      · have : x.2.length ≠ 0 := fun e => u2 (List.length_eq_zero_iff.mp e)
        omega
      · have g := List.getElem?_eq_getElem (l := x.2) (i := i) (by omega)
        exact ((a3 i _ g).2.1 J).mpr (u3 _ (List.mem_of_getElem? g))
theorem ref_sv (hS : SvT M s T) (hG : GW M s) (k0 : mI M s 17 = 0) (hk : ∀ (k : Nat) (x : Int × List sc9), T[k]? = some x → x.1 = 0 → x.2 = []) (hg : gvQ M s 0 M') (hl : lokX M' s r) : svA9 T r := by
  obtain ⟨⟨ρ, t, o, f, g3⟩, g4⟩ := hg
  obtain ⟨e, w, hw, hr⟩ := hl
  have nS : ∀ y, y ≠ s + 36 → mI M' y = mI M y := fun y hy => f.2.2.2.2.2.2 y hy
  have es : mI M' s = mI M s := nS s (by omega)
  have e22 : mI M' (s + 22) = mI M (s + 22) := nS _ (by omega)
  have e23 : mI M' (s + 23) = mI M (s + 23) := nS _ (by omega)
  have e24 : mI M' (s + 24) = mI M (s + 24) := nS _ (by omega)
  have e32 : mI M' (s + 32) = mI M (s + 32) := nS _ (by omega)
  have len : (mI M' s 1).toNat = T.length := by rw [es, hS.1]; exact Int.toNat_natCast _
  rw [len] at hr
  have lt : ∀ (k : Nat) (x : Int × List sc9), T[k]? = some x → (k : Int) < mI M s 1 := fun k x hx => by
    have := lt_some hx
    rw [hS.1]
    omega
  have at9 : ∀ k : Nat, (k : Int) < mI M s 1 → ∃ x, T[k]? = some x := fun k hk => ⟨_, List.getElem?_eq_getElem (by rw [hS.1] at hk; omega)⟩
  have L : lsA9 T (fun k => (k : Int) < mI M s 1 ∧ mI M' (s + 36) k = 1) := by
    refine ⟨fun k x hx u => ⟨lt k x hx, ?_⟩, fun J' hc => rk_in ρ (fun k hJ => ?_) hc⟩
    · obtain ⟨b1, b2, b3⟩ := g3 k (lt k x hx)
      rcases b1 with y | y
      · exfalso
        rcases u with u | u
        · have := b2 (by rw [(hS.2 k x hx).1]; exact u)
          omega
        · refine g4 k (lt k x hx) y ((co_iff hS k0 hx).mpr (u.mono (fun j hj => ?_)))
          show mI M' (s + 36) j ≠ 0
          rw [hj.2]
          decide
      · exact y
    · obtain ⟨x, hx⟩ := at9 k hJ.1
      obtain ⟨b1, b2, b3⟩ := g3 k hJ.1
      refine ⟨x, hx, ?_⟩
      rcases (b3 hJ.2).2 with u | u
      · exact Or.inl (by rw [← (hS.2 k x hx).1]; exact u)
      · refine Or.inr ((co_iff hS k0 hx).mp (u.mono hG hJ.1 (fun j hj v => ⟨⟨hj, ?_⟩, v.2⟩)))
        have v1 : mI M' (s + 36) j ≠ 0 := v.1
        rcases (g3 j hj).1 with y | y
        · exact absurd y v1
        · exact y
  have uk : ∀ (k : Nat) (x : Int × List sc9), T[k]? = some x → (unk M' s k ↔ (((k : Int) < mI M s 1 ∧ mI M' (s + 36) k = 1) ∧ x.1 ≠ 3)) := fun k x hx => by
    have l := lt k x hx
    have b := (g3 k l).1
    unfold unk
    rw [e22, (hS.2 k x hx).1]
    constructor
    · intro u
      refine ⟨⟨l, ?_⟩, u.2⟩
      rcases b with y | y
      · exact absurd y u.1
      · exact y
    · intro u
      exact ⟨by rw [u.1.2]; decide, u.2⟩
  have U : unA9 T (fun k => (k : Int) < mI M s 1 ∧ mI M' (s + 36) k = 1) e := fun k x hx => by
    obtain ⟨c1, c2⟩ := hw k (by rw [es]; exact lt k x hx)
    exact ⟨fun u => (c1 ((uk k x hx).mpr u)).1, fun u => (c2 (fun v => u ((uk k x hx).mp v))).1⟩
  have Wt : ∀ (k : Nat) (x : Int × List sc9), T[k]? = some x → (e k = 1 → weA9 x (w k)) ∧ (e k = 0 → w k = 0) := fun k x hx => by
    obtain ⟨c1, c2⟩ := hw k (by rw [es]; exact lt k x hx)
    by_cases u : unk M' s k
    · obtain ⟨d1, D, v, d2, d3, d4, d5, d6⟩ := c1 u
      refine ⟨fun _ => ⟨D, v, ⟨d2, fun c hc => ?_, ?_⟩, d5, d6⟩, fun z => by omega⟩
      · obtain ⟨i, hi⟩ := List.getElem?_of_mem hc
        have li := lt_some hi
        obtain ⟨a1, a2, a3⟩ := hS.2 k x hx
        have q := d3 i (by unfold mny; rw [e23]; show (i : Int) < mny M s k; rw [a2]; omega) (Or.inl (by rw [es, k0, e22, a1]; exact fun z => absurd hc (by rw [hk k x hx z.symm]; exact List.not_mem_nil)))
        rw [e24, e23, (a3 i c hi).1] at q
        exact q
      · rcases d4 with y | ⟨i, y1, -, y2⟩
        · exact Or.inl y
        · obtain ⟨a1, a2, a3⟩ := hS.2 k x hx
          have y1' : (i : Int) < mny M s k := by unfold mny at y1; rw [e23] at y1; exact y1
          rw [a2] at y1'
          have g := List.getElem?_eq_getElem (l := x.2) (i := i) (by omega)
          refine Or.inr ⟨_, List.mem_of_getElem? g, ?_⟩
          rw [← (a3 i _ g).1, ← e24, ← e23]
          exact y2
    · obtain ⟨d1, d2⟩ := c2 u
      exact ⟨fun z => by omega, fun _ => d2⟩
  refine ⟨_, e, L, U, ?_⟩
  rcases hr with ⟨y1, y2⟩ | ⟨y1, y2, y3⟩ | ⟨y1, y2, y3⟩
  · exact Or.inl ⟨y1, y2⟩
  · exact Or.inr ⟨y1, w, Wt, Or.inl ⟨y2, y3⟩⟩
  · exact Or.inr ⟨y1, w, Wt, Or.inr ⟨y2, y3⟩⟩
end RSV
