section
/-! The reference: enabled. -/
section ENB2
variable {G : mG} {d a g T R W C Z n L w k : Nat} {M M2 M3 : mM} {E : Nat → Nat} {tg mul : Int} {B : Nat → Nat}
/-- before the command is put down -/
def eB (M : mM) (a g T R W C Z : Nat) (E : Nat → Nat) (tg : Int) (n L w : Nat) (B : Nat → Nat) (M2 : mM) : Prop := xF M a M2 ∧ GG M2 a g T R W C Z E tg ∧ En M2 a g R W ∧ XD M2 a g n W L w L B ∧ mI M2 (a + 107) = mI M (a + 107) ∧ mI M2 (a + 108) = mI M (a + 108)
/-- the command is put on the lists -/
theorem en_put {c : Nat} {M4 M5 M6 M7 : mM} (h : eB M a g T R W C Z E tg n L w B M2) (hw : B L = w) (hk : 0 ≤ mI M (a + 108) k ∧ mI M (a + 108) k ≤ 5000) (hm : 1 ≤ mul ∧ mul < 1000000000) (a3 : adQ M2 (a + 109) c M3) (a4 : adQ M3 (a + 115) mul M4) (a5 : adQ M4 (a + 111) (w : Int) M5) (a6 : adQ M5 (a + 113) 0 M6) (e7 : M7 = mUI M6 (a + 108) k (mI M (a + 108) k + 1)) : (mL M7 = mL M6 ∧ mL M6 (a + 21189) = mL M2 (a + 21189) ∧ mL M6 (a + 21190) = mL M2 (a + 21190)) ∧ mI M7 a = mI M2 a ∧ mOk M7 ∧ xF M a M7 ∧ GG M7 a g T R W C Z E tg ∧ En M7 a g R W ∧ (mI M7 (a + 107) = mI M (a + 107) ∧ (∀ k', k' ≠ k → mI M7 (a + 108) k' = mI M (a + 108) k') ∧ mI M7 (a + 108) k = mI M (a + 108) k + 1) ∧ XD M7 a g n W L w (L + 1) B ∧ Op M7 a L w w mul 0 := by
  obtain ⟨x1, gg, en, xd, t107, t108⟩ := h
  obtain ⟨d1, d2, d3, d4, ⟨l109, l111, l113, l115⟩, d6, d7⟩ := id xd
  have w2 := gg.2.1
  have hg := gg.2.2.1.2
  have m3 := mv_add w2 k109 a3
  have w3 := m3.2.1
  have m4 := mv_add w3 k115 a4
  have w4 := m4.2.1
  have m5 := mv_add w4 k111 a5
  have w5 := m5.2.1
  have m6 := mv_add w5 k113 a6
  have w6 := m6.2.1
  obtain ⟨m7, f7, l7⟩ := mv_cell (v := mI M (a + 108) k + 1) (i32s (by omega) (by omega)) m6.1 w6 (show a ≤ a + 108 by omega) (offx (a := a) (o := 108) (by decide)) e7
  have i1 : ∀ {p q : Nat}, p ∈ nums a → q = p → q ∈ nums a := fun hp hq => by rw [hq]; exact hp
  have up : ∀ {Mx My : mM} {p : Nat}, Wd Mx a → xP a p → Mv (fun x => x = p) (fun _ => False) Mx a My → Mv (xP a) (fun x => x = a + 108) Mx a My := fun wx hp m => m.mono (fun q hq => by rw [hq]; exact hp) (fun _ z => z.elim) (fun q hq => wx.lt (xP_in hq))
  have mm : Mv (xP a) (fun x => x = a + 108) M2 a M7 := ((((up w2 (by show a + 109 = a + 99 ∨ a + 109 = a + 109 ∨ a + 109 = a + 111 ∨ a + 109 = a + 113 ∨ a + 109 = a + 115; omega) m3).trans (up w3 (by show a + 115 = a + 99 ∨ a + 115 = a + 109 ∨ a + 115 = a + 111 ∨ a + 115 = a + 113 ∨ a + 115 = a + 115; omega) m4)).trans (up w4 (by show a + 111 = a + 99 ∨ a + 111 = a + 109 ∨ a + 111 = a + 111 ∨ a + 111 = a + 113 ∨ a + 111 = a + 115; omega) m5)).trans (up w5 (by show a + 113 = a + 99 ∨ a + 113 = a + 109 ∨ a + 113 = a + 111 ∨ a + 113 = a + 113 ∨ a + 113 = a + 115; omega) m6)).trans (m7.mono (fun _ z => z.elim) (fun x z => z) (fun q hq => w6.lt (xP_in hq)))
  have hin : ∀ q, xP a q → q ∈ nums a := fun q hq => xP_in hq
  have aI : mI M7 a = mI M2 a := (mm.fld w2 hin (by omega)).1
  have F27 : xF M2 a M7 := xF.mk w2 mm (fun q hq => hq) (fun x hx => Or.inr (Or.inl (by omega))) (fun i _ _ _ _ _ => by rw [aI])
  have gs := F27.gs w2 hg
  have s7 : ∀ {q}, q ∈ nums a → sameN M6 M7 q := fun hq => m7.lst hq (fun z => z)
  have cl : ∀ o, frO o → o ≠ 108 → mI M7 (a + o) = mI M2 (a + o) ∧ mL M7 (a + o) = mL M2 (a + o) := fun o fo ho => mm.cellL w2 hin (offx fo) (by omega)
  have c86 := cl 21186 (by decide) (by decide)
  have c87 := cl 21187 (by decide) (by decide)
  have c85 := cl 21185 (by decide) (by decide)
  have c105 := cl 105 (by decide) (by decide)
  have c107 := cl 107 (by decide) (by decide)
  have c89 := cl 21189 (by decide) (by decide)
  have c90 := cl 21190 (by decide) (by decide)
  have e108 : mI M6 (a + 108) = mI M (a + 108) := by
    rw [← t108, (m6.cellL w5 (fun q hq => i1 k113 hq) (offx (a := a) (o := 108) (by decide)) (fun z => z)).1, (m5.cellL w4 (fun q hq => i1 k111 hq) (offx (a := a) (o := 108) (by decide)) (fun z => z)).1, (m4.cellL w3 (fun q hq => i1 k115 hq) (offx (a := a) (o := 108) (by decide)) (fun z => z)).1, (m3.cellL w2 (fun q hq => i1 k109 hq) (offx (a := a) (o := 108) (by decide)) (fun z => z)).1]
  -- the lists
  have q109 : ln M7 (a + 109) = (L + 1 : Nat) := by rw [(s7 k109).1, (m6.lst k109 (by omega)).1, (m5.lst k109 (by omega)).1, (m4.lst k109 (by omega)).1, a3.2.2.2.1, l109]; omega
  have z115 : ln M3 (a + 115) = (L : Int) := by rw [(m3.lst k115 (by omega)).1, l115]
  have z111 : ln M4 (a + 111) = (L : Int) := by rw [(m4.lst k111 (by omega)).1, (m3.lst k111 (by omega)).1, l111]
  have z113 : ln M5 (a + 113) = (L : Int) := by rw [(m5.lst k113 (by omega)).1, (m4.lst k113 (by omega)).1, (m3.lst k113 (by omega)).1, l113]
  have q115 : ln M7 (a + 115) = (L + 1 : Nat) := by rw [(s7 k115).1, (m6.lst k115 (by omega)).1, (m5.lst k115 (by omega)).1, a4.2.2.2.1, z115]; omega
  have q111 : ln M7 (a + 111) = (L + 1 : Nat) := by rw [(s7 k111).1, (m6.lst k111 (by omega)).1, a5.2.2.2.1, z111]; omega
  have q113 : ln M7 (a + 113) = (L + 1 : Nat) := by rw [(s7 k113).1, a6.2.2.2.1, z113]; omega
  have v115 : nt M7 (a + 115) L = mul := by
    rw [(s7 k115).2.1, (m6.lst k115 (by omega)).2.1, (m5.lst k115 (by omega)).2.1]
    have := a4.2.2.2.2.2.1
    rw [z115, Int.toNat_natCast] at this
    exact this
  have v111 : nt M7 (a + 111) L = (w : Int) := by
    rw [(s7 k111).2.1, (m6.lst k111 (by omega)).2.1]
    have := a5.2.2.2.2.2.1
    rw [z111, Int.toNat_natCast] at this
    exact this
  have v113 : nt M7 (a + 113) L = 0 := by
    rw [(s7 k113).2.1]
    have := a6.2.2.2.2.2.1
    rw [z113, Int.toNat_natCast] at this
    exact this
  have o115 : ∀ i, i < L → nt M7 (a + 115) i = nt M2 (a + 115) i := fun i hi => by rw [(s7 k115).2.1, (m6.lst k115 (by omega)).2.1, (m5.lst k115 (by omega)).2.1, a4.2.2.2.2.1 i (by rw [z115]; omega), (m3.lst k115 (by omega)).2.1]
  have o111 : ∀ i, i < L → nt M7 (a + 111) i = nt M2 (a + 111) i := fun i hi => by rw [(s7 k111).2.1, (m6.lst k111 (by omega)).2.1, a5.2.2.2.2.1 i (by rw [z111]; omega), (m4.lst k111 (by omega)).2.1, (m3.lst k111 (by omega)).2.1]
  have o113 : ∀ i, i < L → nt M7 (a + 113) i = nt M2 (a + 113) i := fun i hi => by rw [(s7 k113).2.1, a6.2.2.2.2.1 i (by rw [z113]; omega), (m5.lst k113 (by omega)).2.1, (m4.lst k113 (by omega)).2.1, (m3.lst k113 (by omega)).2.1]
  refine ⟨⟨l7, by rw [← l7]; exact c89.2, by rw [← l7]; exact c90.2⟩, aI, m7.1, x1.trans F27, gg.gs m7.1 m7.2.1 (by rw [mm.rfl_a w2 hin]) gs, en.mv w2 mm hin gs (fun x hx => by omega), ⟨by rw [c107.1]; exact t107, fun k' hk' => by rw [f7, if_neg (fun z => hk' z.2), e108], by rw [f7, if_pos ⟨rfl, rfl⟩]⟩, ⟨by rw [aI]; exact d1, by rw [aI]; exact d2, fun k' v hk' hv => ?_, fun j hj => by rw [c85.1, c86.2, c87.2]; exact d4 j hj, ⟨q109, q111, q113, q115⟩, ⟨d6.1, d6.2.1, by omega⟩, fun i hi => (d7 i hi).cg (o111 i hi) (o113 i hi) (o115 i hi) (fun j _ _ => by rw [c86.2, c87.2]; exact ⟨rfl, rfl⟩)⟩, Nat.le_refl _, ⟨v111, by rw [v113, Nat.sub_self]; rfl, v115⟩, hm, fun j j0 j1 => absurd j1 (by omega), by rw [Nat.sub_self]; rfl⟩
  rw [(gs.2.1 19 (by omega) (by omega)).1, (gs.2.1 20 (by omega) (by omega)).1, c105.1]
  exact d3 k' v hk' hv
end ENB2
end
section
/-! The reference: enabled, to its end. -/
section ENB3
variable {G : mG} {d a g T R W C Z n L w k : Nat} {M M2 M3 : mM} {E : Nat → Nat} {tg mul : Int} {B : Nat → Nat}
theorem XD.le {Ln : Nat} (h : XD M a g n W L w Ln B) : L ≤ 4096 := by
  have := h.mono 0 L (by omega) (Nat.le_refl _)
  have := h.2.2.2.2.2.1
  have := h.2.1.2
  omega
theorem sm_bd {f : Nat → Int} {c : Int} : ∀ (m : Nat), (∀ t, t < m → 0 ≤ f t ∧ f t ≤ c) → 0 ≤ sm f m ∧ sm f m ≤ m * c
  | 0, _ => ⟨Int.le_refl 0, by show (0 : Int) ≤ ((0 : Nat) : Int) * c; rw [show ((0 : Nat) : Int) = 0 from rfl, Int.zero_mul]; exact Int.le_refl 0⟩
  | m + 1, h => by
    have a := sm_bd m (fun t ht => h t (by omega))
    have b := h m (by omega)
    refine ⟨?_, ?_⟩
    · show 0 ≤ sm f m + f m
      omega
    · show sm f m + f m ≤ ((m + 1 : Nat) : Int) * c
      rw [show ((m + 1 : Nat) : Int) * c = (m : Int) * c + c by rw [Int.natCast_add, Int.add_mul]; show (m : Int) * c + 1 * c = _; rw [Int.one_mul]]
      omega
theorem en_stop {c p : Int} (h : eB M a g T R W C Z E tg n L w B M2) (hc : c ≠ 0) (q : Mv (fun _ => False) (fun x => x = a) M2 a M3 ∧ mI M3 a 16 = c ∧ mI M3 a 17 = p ∧ ∀ i, i ≠ 16 → i ≠ 17 → mI M3 a i = mI M2 a i) : enQ M a g T R W C Z E tg n L k B M3 := by
  obtain ⟨x1, gg, en, xd, t107, t108⟩ := h
  have w2 := gg.2.1
  have hg := gg.2.2.1.2
  have no : ∀ q : Nat, False → q ∈ nums a := fun _ z => z.elim
  have F : xF M2 a M3 := xF.mk w2 q.1 (fun _ z => z.elim) (fun x z => Or.inl z) (fun i i1 i2 _ _ _ => q.2.2.2 i i1 i2)
  have gs := F.gs w2 hg
  have c7 := (q.1.cellL w2 no (offx (a := a) (o := 107) (by decide)) (by omega)).1
  have c8 := (q.1.cellL w2 no (offx (a := a) (o := 108) (by decide)) (by omega)).1
  exact ⟨x1.trans F, gg.gs q.1.1 q.1.2.1 (by rw [q.1.rfl_a w2 no]) gs, en.mv w2 q.1 no gs (fun x z => by omega), by rw [c7]; exact t107, fun k' _ => by rw [c8, t108], Or.inl (by rw [q.2.1]; exact hc)⟩
theorem s_en87 {c nb : Nat} {pl : Int} (h0 : GG M a g T R W C Z E tg) (h : eB M a g T R W C Z E tg n L w B M2) (z16 : mI M2 a 16 = 0) (hw : B L = w) (hk5 : k < 512) (hk : 0 ≤ mI M (a + 108) k ∧ mI M (a + 108) k ≤ 5000) (hc : c < C) (hnb : mI M (g + 25) c = (nb : Int)) (ipl : i32 pl) (hm : 1 ≤ mul ∧ mul < 1000000000) (hch : chk1 M2 a nb) (hdv : ∀ b' : Nat, b' < nb → mL M2 (a + 21190) b' ∣ mul) : ∀ (t b : Nat), b + t = nb → h_MM_enabled_87 G (d + 7) a k c pl mul (sm (fun b' => mL M2 (a + 21189) b' * (mul / mL M2 (a + 21190) b')) b) b M2 (fun M' => mOk M' ∧ enQ M a g T R W C Z E tg n L k B M') := by
  obtain ⟨x1, gg, en, xd, t107, t108⟩ := id h
  have o2 := gg.1
  have w2 := gg.2.1
  have hg := gg.2.2.1.2
  have hBd := gg.2.2.2.2.2.2.2.1.1
  have wd0 := h0.2.1
  have gs := x1.gs wd0 hg
  have r25 : mI M2 (g + 25) c = (nb : Int) := by rw [(gs.2.1 25 (by omega) (by omega)).1]; exact hnb
  have nb8 : nb ≤ 8 := by
    have := (h0.2.2.2.2.2.2.2.1.2.2.2.2.1 c hc).2.2.1
    omega
  have hL := xd.le
  have term : ∀ b', b' < nb → 0 ≤ mL M2 (a + 21189) b' * (mul / mL M2 (a + 21190) b') ∧ mL M2 (a + 21189) b' * (mul / mL M2 (a + 21190) b') ≤ mul := fun b' hb' => by
    have c1 := hch b' hb'
    obtain ⟨q, hq⟩ := hdv b' hb'
    have e : mul / mL M2 (a + 21190) b' = q := by rw [hq]; exact Int.mul_ediv_cancel_left q (by omega)
    have q0 : 0 ≤ q := by rw [← e]; exact Int.ediv_nonneg (by omega) (by omega)
    rw [e]
    refine ⟨Int.mul_nonneg (by omega) q0, ?_⟩
    have := Int.mul_le_mul_of_nonneg_right c1.2.1 q0
    omega
  have ik : i32 (k : Int) := i32s (by omega) (by omega)
  have ic : i32 (c : Int) := i32s (by omega) (by omega)
  have im : i64 mul := ⟨by omega, by omega⟩
  have b60 : ((0 : Int) ≤ (c : Int) ∧ (c : Int) < ((60 : Nat) : Int)) := by omega
  have b512 : ((0 : Int) ≤ (k : Int) ∧ (k : Int) < ((512 : Nat) : Int)) := by omega
  have sb : ∀ b, b ≤ nb → i64 (sm (fun b' => mL M2 (a + 21189) b' * (mul / mL M2 (a + 21190) b')) b) := fun b hb => by
    have := sm_bd (f := fun b' => mL M2 (a + 21189) b' * (mul / mL M2 (a + 21190) b')) (c := mul) b (fun t ht => term t (by omega))
    have h8 : (b : Int) * mul ≤ 8 * 1000000000 := Int.mul_le_mul (by omega) (by omega) (by omega) (by omega)
    exact ⟨by omega, by omega⟩
  intro t
  induction t with
  | zero =>
    intro b hb
    have eb : b = nb := by omega
    subst eb
    refine k_MM_enabled_87 o2 ik ic ipl im (sb b (Nat.le_refl _)) (i32s (by omega) (by omega)) ⟨w2.1.1, ?_⟩
    rw [gg.2.2.1.1, show mR M2 g 22 = g + 25 from (w2.gp hg).2.2.1.2.2.2.2.2.2.2.1, Int.toNat_natCast, r25, show mR M2 a 35 = a + 109 from w2.1.2.2.2.2.2.1.2.2.2.2.1]
    refine ⟨(w2.gp hg).1, (w2.gp hg).2.2.2.2.2.2.2.2.1.1, by rw [(w2.gp hg).2.2.2.2.2.2.2.2.1.2]; exact b60, fun _ => ⟨fun q => ⟨(w2.nu k109).1, ?_⟩, fun q => (s_MM_stop ⟨by decide, by decide⟩ ipl o2 w2).mono (fun M3 h3 => ⟨h3.1.1, h3.1.1, en_stop h (by decide) h3⟩)⟩, fun q => absurd (Int.le_refl _) q⟩
    have hsum := (cmpz _ _).2.2.2.1.1 q
    obtain ⟨l109, l111, l113, l115⟩ := xd.2.2.2.2.1
    refine (s_MN_add ic o2 (w2.nu k109) (by rw [l109]; omega)).mono (fun M3 a3 => ?_)
    have m3 := mv_add w2 k109 a3
    have w3 := m3.2.1
    have z115 : ln M3 (a + 115) = (L : Int) := by rw [(m3.lst k115 (by omega)).1, l115]
    have z111 : ln M3 (a + 111) = (L : Int) := by rw [(m3.lst k111 (by omega)).1, l111]
    have z113 : ln M3 (a + 113) = (L : Int) := by rw [(m3.lst k113 (by omega)).1, l113]
    rw [show mR M3 a 38 = a + 115 from w3.1.2.2.2.2.2.1.2.2.2.2.2.2.2.1]
    refine ⟨m3.1, w3.1.1, (w3.nu k115).1, (s_MN_add ⟨by omega, by omega⟩ m3.1 (w3.nu k115) (by rw [z115]; omega)).mono (fun M4 a4 => ?_)⟩
    have m4 := mv_add w3 k115 a4
    have w4 := m4.2.1
    have i1 : ∀ {p q : Nat}, p ∈ nums a → q = p → q ∈ nums a := fun hp hq => by rw [hq]; exact hp
    have e40 : mI M4 a 40 = (w : Int) := by
      rw [(m4.fld w3 (fun q hq => i1 k115 hq) (fun z => z)).1, (m3.fld w2 (fun q hq => i1 k109 hq) (fun z => z)).1]
      exact xd.2.1.1
    have w4096 := xd.2.1.2
    rw [show mR M4 a 36 = a + 111 from w4.1.2.2.2.2.2.1.2.2.2.2.2.1, e40]
    refine ⟨m4.1, w4.1.1, (w4.nu k111).1, (s_MN_add (i32s (by omega) (by omega)) m4.1 (w4.nu k111) (by rw [(m4.lst k111 (by omega)).1, z111]; omega)).mono (fun M5 a5 => ?_)⟩
    have m5 := mv_add w4 k111 a5
    have w5 := m5.2.1
    rw [show mR M5 a 37 = a + 113 from w5.1.2.2.2.2.2.1.2.2.2.2.2.2.1]
    refine ⟨m5.1, w5.1.1, (w5.nu k113).1, (s_MN_add ⟨by decide, by decide⟩ m5.1 (w5.nu k113) (by rw [(m5.lst k113 (by omega)).1, (m4.lst k113 (by omega)).1, z113]; omega)).mono (fun M6 a6 => ?_)⟩
    have m6 := mv_add w5 k113 a6
    have w6 := m6.2.1
    have A8 : mK M6 (a + 108) = 30 ∧ mN M6 (a + 108) = 512 := w6.1.2.2.2.2.2.2.2.2.1.2.2.2
    have e108 : mI M6 (a + 108) = mI M (a + 108) := by
      rw [← t108, (m6.cellL w5 (fun q hq => i1 k113 hq) (offx (a := a) (o := 108) (by decide)) (fun z => z)).1, (m5.cellL w4 (fun q hq => i1 k111 hq) (offx (a := a) (o := 108) (by decide)) (fun z => z)).1, (m4.cellL w3 (fun q hq => i1 k115 hq) (offx (a := a) (o := 108) (by decide)) (fun z => z)).1, (m3.cellL w2 (fun q hq => i1 k109 hq) (offx (a := a) (o := 108) (by decide)) (fun z => z)).1]
    rw [show mR M6 a 34 = a + 108 from w6.1.2.2.2.2.2.1.2.2.2.1, Int.toNat_natCast, e108]
    refine ⟨m6.1, w6.1.1, A8.1, by rw [A8.2]; exact b512, by rw [A8.2]; exact b512, i32s (by omega) (by omega), fun M7 e7 => ?_⟩
    obtain ⟨⟨u1, u2, u3⟩, u4, u5, u6, u7, u8, u9, u10, u11⟩ := en_put (c := c) h hw hk hm a3 a4 a5 a6 e7
    refine s_en201 h0 ipl hc hnb hw hL (fun b' hb' => ⟨(hch b' hb').1, (hch b' hb').2.1, (hch b' hb').2.2.1, (hch b' hb').2.2.2, hdv b' hb'⟩) hm.1 hsum b 0 M7 (by omega) ⟨u6, u7, u8, u9, fun _ => ⟨⟨by rw [u1]; exact u2, by rw [u1]; exact u3⟩, n, w, Nat.le_refl _, u10, u11, by omega⟩⟩
  | succ t ih =>
    intro b hb
    have b8 : ((0 : Int) ≤ (b : Int) ∧ (b : Int) < ((8 : Nat) : Int)) := by omega
    have c1 := hch b (by omega)
    have nx := ih (b + 1) (by omega)
    refine k_MM_enabled_87 o2 ik ic ipl im (sb b (by omega)) (i32s (by omega) (by omega)) ⟨w2.1.1, ?_⟩
    rw [gg.2.2.1.1, show mR M2 g 22 = g + 25 from (w2.gp hg).2.2.1.2.2.2.2.2.2.2.1, Int.toNat_natCast, r25, (r4546 w2).1.1, (r4546 w2).1.2, Int.toNat_natCast, Int.toNat_natCast]
    refine ⟨(w2.gp hg).1, (w2.gp hg).2.2.2.2.2.2.2.2.1.1, by rw [(w2.gp hg).2.2.2.2.2.2.2.2.1.2]; exact b60, fun q => absurd q (by omega), fun _ => ⟨(r4546 w2).2.1.1, by rw [(r4546 w2).2.1.2]; exact b8, (r4546 w2).2.2.1, by rw [(r4546 w2).2.2.2]; exact b8, by omega, ?_⟩⟩
    rw [show Int.tdiv mul (mL M2 (a + 21190) b) = mul / mL M2 (a + 21190) b from Int.tdiv_eq_ediv_of_nonneg (by omega), show (b : Int) + 1 = ((b + 1 : Nat) : Int) by omega]
    exact nx
end ENB3
end
section
/-! The reference: enabled, and a state. -/
section STA
variable {G : mG} {d a g T R W C Z n L w k : Nat} {M M2 M3 : mM} {E : Nat → Nat} {tg : Int} {B : Nat → Nat}
theorem s_MM_enabled {c : Nat} (h : GG M a g T R W C Z E tg) (hn : En M a g R W) (xd : XD M a g n W L w L B) (hw : B L = w) (z16 : mI M a 16 = 0) (hk5 : k < 512) (hk : 0 ≤ mI M (a + 108) k ∧ mI M (a + 108) k ≤ 5000) (hc : c < C) : Cv G y_MM_enabled (d + 8) [vr a, vi k, vi c] M (fun M' => mOk M' ∧ enQ M a g T R W C Z E tg n L k B M') := by
  have o := h.1
  have wd := h.2.1
  have hg := h.2.2.1.2
  have hD := h.2.2.2.2.2.2.2.1
  have hBd := hD.1
  have cc := hD.2.2.2.2.1 c hc
  obtain ⟨nb, hnb⟩ : ∃ nb : Nat, mI M (g + 25) c = (nb : Int) := ⟨(mI M (g + 25) c).toNat, by have := cc.2.1; omega⟩
  have b60 : ((0 : Int) ≤ (c : Int) ∧ (c : Int) < ((60 : Nat) : Int)) := by omega
  have b512 : ((0 : Int) ≤ (k : Int) ∧ (k : Int) < ((512 : Nat) : Int)) := by omega
  have A6 : mK M (a + 106) = 30 ∧ mN M (a + 106) = 512 := wd.1.2.2.2.2.2.2.2.2.1.2.1
  have ipl : i32 (mI M (g + 23) c) := (o _ _).1
  have eb0 : eB M a g T R W C Z E tg n L w B M := ⟨xF.refl o wd, h, hn, xd, rfl, rfl⟩
  refine k_MM_enabled o (i32s (by omega) (by omega)) (i32s (by omega) (by omega)) ⟨wd.1.1, ?_⟩
  rw [h.2.2.1.1, show mR M g 19 = g + 22 from (wd.gp hg).2.2.1.2.2.2.2.1, show mR M g 20 = g + 23 from (wd.gp hg).2.2.1.2.2.2.2.2.1, show mR M a 32 = a + 106 from wd.1.2.2.2.2.2.1.2.1, Int.toNat_natCast, Int.toNat_natCast]
  refine ⟨(wd.gp hg).1, (wd.gp hg).2.2.2.2.2.1.1, by rw [(wd.gp hg).2.2.2.2.2.1.2]; exact b60, fun v hv => ⟨(wd.gp hg).2.2.2.2.2.2.1.1, by rw [(wd.gp hg).2.2.2.2.2.2.1.2]; exact b60, A6.1, by rw [A6.2]; exact b512, fun _ => by rw [A6.2]; exact b512, fun _ => ⟨by rw [A6.2]; exact b512, fun M2 e2 => ?_⟩, fun _ => (s_MM_stop ⟨by decide, by decide⟩ ipl o wd).mono (fun M3 h3 => ⟨h3.1.1, h3.1.1, en_stop eb0 (by decide) h3⟩)⟩⟩
  have iv : i32 v := by rw [hv]; split <;> exact ⟨by decide, by decide⟩
  obtain ⟨m2, f2, l2⟩ := mv_cell iv o wd (show a ≤ a + 106 by omega) (offx (a := a) (o := 106) (by decide)) e2
  have no : ∀ q : Nat, False → q ∈ nums a := fun _ z => z.elim
  have w2 := m2.2.1
  have aI := (m2.fld wd no (by omega)).1
  have F2 : xF M a M2 := xF.mk wd m2 (fun _ z => z.elim) (fun x z => Or.inr (Or.inl (by omega))) (fun i _ _ _ _ _ => by rw [aI])
  have gs2 := F2.gs wd hg
  have gg2 := h.gs m2.1 w2 (by rw [m2.rfl_a wd no]) gs2
  have en2 := hn.mv wd m2 no gs2 (fun x z => by omega)
  have xd2 := xd.mv wd m2 no (fun _ z => z.elim) (fun x z => by omega) gs2 (by rw [aI]) (by rw [aI])
  have c7 := (m2.cellL wd no (offx (a := a) (o := 107) (by decide)) (by omega)).1
  have c8 := (m2.cellL wd no (offx (a := a) (o := 108) (by decide)) (by omega)).1
  refine (s_MM_chances (d := d + 1) gg2 en2 hc ipl (by rw [(gs2.2.1 25 (by omega) (by omega)).1]; exact hnb)).mono (fun mul M3 t3 => ?_)
  obtain ⟨i3, o3, -, ⟨x3, gg3, en3⟩, v3⟩ := t3
  have w3 := gg3.2.1
  have gs3 := x3.gs w2 hg
  have un : ∀ x, xE a x → x = a ∨ (a + 97 ≤ x ∧ x ≤ a + 98) ∨ (a + 102 ≤ x ∧ x ≤ a + 104) ∨ (a + 21188 ≤ x ∧ x ≤ a + 21190) := fun x hx => hx
  have xd3 := xd2.mv w2 x3.1 in99 (fun q hq => by omega) (fun x hx => by have := un x hx; omega) gs3 (x3.2 29 (by decide) (by decide) (by decide)) (x3.2 40 (by decide) (by decide) (by decide))
  have tb := x3.tab w2
  have eb3 : eB M a g T R W C Z E tg n L w B M3 := ⟨F2.trans (x3.xf w2), gg3, en3, xd3, by rw [tb.2.1]; exact c7, by rw [tb.2.2]; exact c8⟩
  refine ⟨i3, o3, w3.1.1, fun z3 => ?_, fun z3 => ⟨o3, eb3.1, gg3, en3, eb3.2.2.2.2.1, fun k' _ => by rw [eb3.2.2.2.2.2], Or.inl z3⟩⟩
  rcases v3 with y | ⟨-, u1, u2, u3, u4⟩
  · exact absurd z3 y
  · exact s_en87 h eb3 z3 hw hk5 hk hc hnb ipl ⟨u2, u3⟩ u1 u4 nb 0 (by omega)
/-- a state's commands so far -/
def sI (M : mM) (a g T R W C Z : Nat) (E : Nat → Nat) (tg : Int) (n L k : Nat) (B : Nat → Nat) (M2 : mM) : Prop := xF M a M2 ∧ GG M2 a g T R W C Z E tg ∧ En M2 a g R W ∧ (mI M2 a 16 = 0 → (mI M2 (a + 107) k = (L : Int) ∧ (∀ k', k' ≠ k → mI M2 (a + 107) k' = mI M (a + 107) k' ∧ mI M2 (a + 108) k' = mI M (a + 108) k')) ∧ ∃ (n2 L2 w2 : Nat) (B2 : Nat → Nat), n ≤ n2 ∧ L ≤ L2 ∧ mI M2 (a + 108) k = ((L2 - L : Nat) : Int) ∧ (∀ i, i ≤ L → B2 i = B i) ∧ B2 L2 = w2 ∧ XD M2 a g n2 W L2 w2 L2 B2)
theorem s_st72 (hk5 : k < 512) : ∀ (t c : Nat) (M2 : mM), c + t = C → sI M a g T R W C Z E tg n L k B M2 → h_MM_state0_72 G (d + 8) a k c M2 (fun M' => mOk M' ∧ sI M a g T R W C Z E tg n L k B M') := by
  intro t
  induction t with
  | zero =>
    intro c M2 hc h
    have ec : c = C := by omega
    subst ec
    obtain ⟨x1, gg, en, hh⟩ := id h
    have w2 := gg.2.1
    have hg := gg.2.2.1.2
    have hBd := gg.2.2.2.2.2.2.2.1.1
    refine k_MM_state0_72 gg.1 (i32s (by omega) (by omega)) (i32s (by omega) (by omega)) ⟨w2.1.1, ?_⟩
    rw [gg.2.2.1.1, gg.2.2.2.2.2.1.2.2.1]
    exact ⟨(w2.gp hg).1, fun _ => ⟨gg.1, h⟩, fun q => absurd (Or.inl (Int.le_refl _)) q⟩
  | succ t ih =>
    intro c M2 hc h
    obtain ⟨x1, gg, en, hh⟩ := id h
    have w2 := gg.2.1
    have hg := gg.2.2.1.2
    have hD := gg.2.2.2.2.2.2.2.1
    have hBd := hD.1
    have cc := hD.2.2.2.2.1 c (by omega)
    have b60 : ((0 : Int) ≤ (c : Int) ∧ (c : Int) < ((60 : Nat) : Int)) := by omega
    refine k_MM_state0_72 gg.1 (i32s (by omega) (by omega)) (i32s (by omega) (by omega)) ⟨w2.1.1, ?_⟩
    rw [gg.2.2.1.1, gg.2.2.2.2.2.1.2.2.1, show mR M2 g 21 = g + 24 from (w2.gp hg).2.2.1.2.2.2.2.2.2.1, Int.toNat_natCast]
    refine ⟨(w2.gp hg).1, fun q => ⟨gg.1, h⟩, fun q => ⟨(w2.gp hg).2.2.2.2.2.2.2.1.1, by rw [(w2.gp hg).2.2.2.2.2.2.2.1.2]; exact b60, (s_MM_reach (d := d + 3) gg en cc.1).mono (fun M3 t3 => ?_)⟩⟩
    have z2 : mI M2 a 16 = 0 := Classical.byContradiction (fun z => q (Or.inr z))
    obtain ⟨⟨t1, t2⟩, n2, L2, w2', B2, y1, y2, y3, y4, y5, y6⟩ := hh z2
    obtain ⟨o3, xr3, gg3, en3, v3⟩ := t3
    have x3 := xr3.xe w2
    have w3 := gg3.2.1
    have gs3 := x3.gs w2 hg
    have tb := x3.tab w2
    have un : ∀ x, xE a x → x = a ∨ (a + 97 ≤ x ∧ x ≤ a + 98) ∨ (a + 102 ≤ x ∧ x ≤ a + 104) ∨ (a + 21188 ≤ x ∧ x ≤ a + 21190) := fun x hx => hx
    have xd3 := y6.mv w2 x3.1 in99 (fun q hq => by omega) (fun x hx => by have := un x hx; omega) gs3 (x3.2 29 (by decide) (by decide) (by decide)) (x3.2 40 (by decide) (by decide) (by decide))
    have s3 : sI M a g T R W C Z E tg n L k B M3 := ⟨x1.trans (x3.xf w2), gg3, en3, fun _ => ⟨by rw [tb.2.1, tb.2.2]; exact ⟨t1, t2⟩, n2, L2, w2', B2, y1, y2, by rw [tb.2.2]; exact y3, y4, y5, xd3⟩⟩
    have A7 : mK M3 (a + 97) = 33 ∧ mN M3 (a + 97) = 16400 := w3.1.2.2.2.2.2.2.2.1.1
    rw [show mR M3 a 21 = a + 97 from w3.1.2.2.2.2.1.2.2.2.2.2.2.1]
    rw [show (c : Int) + 1 = ((c + 1 : Nat) : Int) by omega]
    refine ⟨o3, w3.1.1, fun _ => ⟨A7.1, by rw [A7.2]; decide⟩, fun q3 => ?_, fun _ => ih (c + 1) M3 (by omega) s3⟩
    have hL2 := xd3.le
    refine (s_MM_enabled (d := d) (k := k) (c := c) gg3 en3 xd3 y5 q3.1 hk5 (by rw [tb.2.2, y3]; omega) (by omega)).mono (fun M4 t4 => ⟨t4.1, ih (c + 1) M4 (by omega) ?_⟩)
    obtain ⟨-, x4, gg4, en4, k7, k8, v4⟩ := t4
    refine ⟨s3.1.trans x4, gg4, en4, fun z4 => ?_⟩
    rcases v4 with y | ⟨-, u1, n4, w4, B4, u2, u3, u4, u5⟩
    · exact absurd z4 y
    · refine ⟨⟨by rw [k7, tb.2.1]; exact t1, fun k' hk' => ⟨by rw [k7, tb.2.1]; exact (t2 k' hk').1, by rw [k8 k' hk', tb.2.2]; exact (t2 k' hk').2⟩⟩, n4, L2 + 1, w4, B4, by omega, by omega, by rw [u1, tb.2.2, y3]; omega, fun i hi => by rw [u3 i (by omega)]; exact y4 i hi, u4, u5⟩
end STA
end
