/-! The reference: enabled. -/
section ENB2
variable {G : mG} {d a g T R W C Z n L w k : Nat} {M M2 M3 : mM} {E : Nat → Nat} {tg mul : Int} {B : Nat → Nat}
/-- before the command is put down -/
def eB (M : mM) (a g T R W C Z : Nat) (E : Nat → Nat) (tg : Int) (n L w : Nat) (B : Nat → Nat) (M2 : mM) : Prop := xF M a M2 ∧ GG M2 a g T R W C Z E tg ∧ En M2 a g R W ∧ XD M2 a g n W L w L B ∧ mI M2 (a + 107) = mI M (a + 107) ∧ mI M2 (a + 108) = mI M (a + 108)
/-- the command is put on the lists -/
theorem en_put {c : Nat} {M4 M5 M6 M7 : mM} (h : eB M a g T R W C Z E tg n L w B M2) (hw : B L = w) (hk : 0 ≤ mI M (a + 108) k ∧ mI M (a + 108) k ≤ 5000) (hm : 1 ≤ mul ∧ mul < 1000000000) (a3 : adQ M2 (a + 109) c M3) (a4 : adQ M3 (a + 115) mul M4) (a5 : adQ M4 (a + 111) (w : Int) M5) (a6 : adQ M5 (a + 113) 0 M6) (e7 : M7 = mUI M6 (a + 108) k (mI M (a + 108) k + 1)) : (mL M7 = mL M6 ∧ mL M6 (a + 21189) = mL M2 (a + 21189) ∧ mL M6 (a + 21190) = mL M2 (a + 21190)) ∧ mI M7 a = mI M2 a ∧ mOk M7 ∧ xF M a M7 ∧ GG M7 a g T R W C Z E tg ∧ En M7 a g R W ∧ (mI M7 (a + 107) = mI M (a + 107) ∧ (∀ k', k' ≠ k → mI M7 (a + 108) k' = mI M (a + 108) k') ∧ mI M7 (a + 108) k = mI M (a + 108) k + 1) ∧ XD M7 a g n W L w (L + 1) B ∧ Op M7 a L w w mul 0 := by
  obtain ⟨x1, gg, en, xd, t107, t108⟩ := h
  obtain ⟨d1, d2, d3, d4, ⟨l109, l111, l113, l115⟩, d6, d7⟩ := id xd
  have w2 := gg.2.1
  have hg := gg.2.2.1.2
  have m3 := mv_add w2 k109 a3
  have w3 := m3.2.1
  have m4 := mv_add w3 k115 a4
  have w4 := m4.2.1
  have m5 := mv_add w4 k111 a5
  have w5 := m5.2.1
  have m6 := mv_add w5 k113 a6
  have w6 := m6.2.1
  obtain ⟨m7, f7, l7⟩ := mv_cell (v := mI M (a + 108) k + 1) (i32s (by omega) (by omega)) m6.1 w6 (show a ≤ a + 108 by omega) (offx (a := a) (o := 108) (by decide)) e7
  have i1 : ∀ {p q : Nat}, p ∈ nums a → q = p → q ∈ nums a := fun hp hq => by rw [hq]; exact hp
  have up : ∀ {Mx My : mM} {p : Nat}, Wd Mx a → xP a p → Mv (fun x => x = p) (fun _ => False) Mx a My → Mv (xP a) (fun x => x = a + 108) Mx a My := fun wx hp m => m.mono (fun q hq => by rw [hq]; exact hp) (fun _ z => z.elim) (fun q hq => wx.lt (xP_in hq))
  have mm : Mv (xP a) (fun x => x = a + 108) M2 a M7 := ((((up w2 (by show a + 109 = a + 99 ∨ a + 109 = a + 109 ∨ a + 109 = a + 111 ∨ a + 109 = a + 113 ∨ a + 109 = a + 115; omega) m3).trans (up w3 (by show a + 115 = a + 99 ∨ a + 115 = a + 109 ∨ a + 115 = a + 111 ∨ a + 115 = a + 113 ∨ a + 115 = a + 115; omega) m4)).trans (up w4 (by show a + 111 = a + 99 ∨ a + 111 = a + 109 ∨ a + 111 = a + 111 ∨ a + 111 = a + 113 ∨ a + 111 = a + 115; omega) m5)).trans (up w5 (by show a + 113 = a + 99 ∨ a + 113 = a + 109 ∨ a + 113 = a + 111 ∨ a + 113 = a + 113 ∨ a + 113 = a + 115; omega) m6)).trans (m7.mono (fun _ z => z.elim) (fun x z => z) (fun q hq => w6.lt (xP_in hq)))
  have hin : ∀ q, xP a q → q ∈ nums a := fun q hq => xP_in hq
  have aI : mI M7 a = mI M2 a := (mm.fld w2 hin (by omega)).1
  have F27 : xF M2 a M7 := xF.mk w2 mm (fun q hq => hq) (fun x hx => Or.inr (Or.inl (by omega))) (fun i _ _ _ _ _ => by rw [aI])
  have gs := F27.gs w2 hg
  have s7 : ∀ {q}, q ∈ nums a → sameN M6 M7 q := fun hq => m7.lst hq (fun z => z)
  have cl : ∀ o, frO o → o ≠ 108 → mI M7 (a + o) = mI M2 (a + o) ∧ mL M7 (a + o) = mL M2 (a + o) := fun o fo ho => mm.cellL w2 hin (offx fo) (by omega)
  have c86 := cl 21186 (by decide) (by decide)
  have c87 := cl 21187 (by decide) (by decide)
  have c85 := cl 21185 (by decide) (by decide)
  have c105 := cl 105 (by decide) (by decide)
  have c107 := cl 107 (by decide) (by decide)
  have c89 := cl 21189 (by decide) (by decide)
  have c90 := cl 21190 (by decide) (by decide)
  have e108 : mI M6 (a + 108) = mI M (a + 108) := by
    rw [← t108, (m6.cellL w5 (fun q hq => i1 k113 hq) (offx (a := a) (o := 108) (by decide)) (fun z => z)).1, (m5.cellL w4 (fun q hq => i1 k111 hq) (offx (a := a) (o := 108) (by decide)) (fun z => z)).1, (m4.cellL w3 (fun q hq => i1 k115 hq) (offx (a := a) (o := 108) (by decide)) (fun z => z)).1, (m3.cellL w2 (fun q hq => i1 k109 hq) (offx (a := a) (o := 108) (by decide)) (fun z => z)).1]
  -- the lists
  have q109 : ln M7 (a + 109) = (L + 1 : Nat) := by rw [(s7 k109).1, (m6.lst k109 (by omega)).1, (m5.lst k109 (by omega)).1, (m4.lst k109 (by omega)).1, a3.2.2.2.1, l109]; omega
  have z115 : ln M3 (a + 115) = (L : Int) := by rw [(m3.lst k115 (by omega)).1, l115]
  have z111 : ln M4 (a + 111) = (L : Int) := by rw [(m4.lst k111 (by omega)).1, (m3.lst k111 (by omega)).1, l111]
  have z113 : ln M5 (a + 113) = (L : Int) := by rw [(m5.lst k113 (by omega)).1, (m4.lst k113 (by omega)).1, (m3.lst k113 (by omega)).1, l113]
  have q115 : ln M7 (a + 115) = (L + 1 : Nat) := by rw [(s7 k115).1, (m6.lst k115 (by omega)).1, (m5.lst k115 (by omega)).1, a4.2.2.2.1, z115]; omega
  have q111 : ln M7 (a + 111) = (L + 1 : Nat) := by rw [(s7 k111).1, (m6.lst k111 (by omega)).1, a5.2.2.2.1, z111]; omega
  have q113 : ln M7 (a + 113) = (L + 1 : Nat) := by rw [(s7 k113).1, a6.2.2.2.1, z113]; omega
  have v115 : nt M7 (a + 115) L = mul := by
    rw [(s7 k115).2.1, (m6.lst k115 (by omega)).2.1, (m5.lst k115 (by omega)).2.1]
    have := a4.2.2.2.2.2.1
    rw [z115, Int.toNat_natCast] at this
    exact this
  have v111 : nt M7 (a + 111) L = (w : Int) := by
    rw [(s7 k111).2.1, (m6.lst k111 (by omega)).2.1]
    have := a5.2.2.2.2.2.1
    rw [z111, Int.toNat_natCast] at this
    exact this
  have v113 : nt M7 (a + 113) L = 0 := by
    rw [(s7 k113).2.1]
    have := a6.2.2.2.2.2.1
    rw [z113, Int.toNat_natCast] at this
    exact this
  have o115 : ∀ i, i < L → nt M7 (a + 115) i = nt M2 (a + 115) i := fun i hi => by rw [(s7 k115).2.1, (m6.lst k115 (by omega)).2.1, (m5.lst k115 (by omega)).2.1, a4.2.2.2.2.1 i (by rw [z115]; omega), (m3.lst k115 (by omega)).2.1]
  have o111 : ∀ i, i < L → nt M7 (a + 111) i = nt M2 (a + 111) i := fun i hi => by rw [(s7 k111).2.1, (m6.lst k111 (by omega)).2.1, a5.2.2.2.2.1 i (by rw [z111]; omega), (m4.lst k111 (by omega)).2.1, (m3.lst k111 (by omega)).2.1]
  have o113 : ∀ i, i < L → nt M7 (a + 113) i = nt M2 (a + 113) i := fun i hi => by rw [(s7 k113).2.1, a6.2.2.2.2.1 i (by rw [z113]; omega), (m5.lst k113 (by omega)).2.1, (m4.lst k113 (by omega)).2.1, (m3.lst k113 (by omega)).2.1]
  refine ⟨⟨l7, by rw [← l7]; exact c89.2, by rw [← l7]; exact c90.2⟩, aI, m7.1, x1.trans F27, gg.gs m7.1 m7.2.1 (by rw [mm.rfl_a w2 hin]) gs, en.mv w2 mm hin gs (fun x hx => by omega), ⟨by rw [c107.1]; exact t107, fun k' hk' => by rw [f7, if_neg (fun z => hk' z.2), e108], by rw [f7, if_pos ⟨rfl, rfl⟩]⟩, ⟨by rw [aI]; exact d1, by rw [aI]; exact d2, fun k' v hk' hv => ?_, fun j hj => by rw [c85.1, c86.2, c87.2]; exact d4 j hj, ⟨q109, q111, q113, q115⟩, ⟨d6.1, d6.2.1, by omega⟩, fun i hi => (d7 i hi).cg (o111 i hi) (o113 i hi) (o115 i hi) (fun j _ _ => by rw [c86.2, c87.2]; exact ⟨rfl, rfl⟩)⟩, Nat.le_refl _, ⟨v111, by rw [v113, Nat.sub_self]; rfl, v115⟩, hm, fun j j0 j1 => absurd j1 (by omega), by rw [Nat.sub_self]; rfl⟩
  rw [(gs.2.1 19 (by omega) (by omega)).1, (gs.2.1 20 (by omega) (by omega)).1, c105.1]
  exact d3 k' v hk' hv
end ENB2
