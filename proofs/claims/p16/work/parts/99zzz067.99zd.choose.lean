/-! The reference: and, or, ask go on or end. -/
section CH
variable {G : mG} {F : Prop} {d a g R W T V X n c1 c2 : Nat} {M : mM}
/-- the first part's value stays, or it is taken and another part is begun -/
def coQ (M : mM) (a g V X n c2 : Nat) (M' : mM) : Prop := (so M g n ≠ 32 ∧ M' = M) ∨ ∃ c : Int, (c = c2 ∨ (so M g n = 32 ∧ c = np M g c2)) ∧ Mv (fun x => x = a + 99) (fun x => x = a) M a M' ∧ mI M' a 23 = (V : Int) ∧ (∀ i, i ≠ 23 → mI M' a i = mI M a i) ∧ ln M' (a + 99) = (X + 2 : Nat) ∧ (∀ j, j < X → nt M' (a + 99) j = nt M (a + 99) j) ∧ nt M' (a + 99) X = 0 ∧ nt M' (a + 99) (X + 1) = c
theorem s_MM_choose0 (h : Ev F M a g R W T) (hn : n < T) (h1 : fp M g n = (c1 : Int)) (h1T : c1 < T) (h2 : np M g c1 = (c2 : Int)) (h2T : c2 < T) (hV : mI M a 23 = (V + 1 : Nat)) (hb : V < 16400) (hl : ln M (a + 99) = (X : Int)) (hX : X ≤ 64000) : Cv G y_MM_choose0 (d + 2) [vr a, vr g, vi n] M (fun M' => mOk M' ∧ coQ M a g V X n c2 M') := by
  obtain ⟨hO, w, hg, hd, hB, -, -⟩ := h
  have gp := w.gp hg
  have r0 : mR M g 0 = g + 1 := gp.2.1.1
  have r4 : mR M g 4 = g + 9 := gp.2.1.2.2.2.2.1
  have r5 : mR M g 5 = g + 11 := gp.2.1.2.2.2.2.2.1
  have r21 : mR M a 21 = a + 97 := w.1.2.2.2.2.1.2.2.2.2.2.2.1
  have n97 : mK M (a + 97) = 33 ∧ mN M (a + 97) = 16400 := w.1.2.2.2.2.2.2.2.1.1
  have i1 := tL_in (a := a) (q := g + 1) hg (tLk1 g)
  have i9 := tL_in (a := a) (q := g + 9) hg (tLk9 g)
  have i11 := tL_in (a := a) (q := g + 11) hg (tLk11 g)
  have l1 := hd (g + 1) (by first | exact tLk1 g | omega)
  have l9 := hd (g + 9) (by first | exact tLk9 g | omega)
  have l11 := hd (g + 11) (by first | exact tLk11 g | omega)
  have rd : ∀ {p j : Nat} {Q : Int → mM → Prop}, p ∈ nums a → (j : Int) < ln M p → (∀ z, z = nt M p j → i32 z → Q z M) → Ci G y_MN_at (d + 1) [vr p, vi j] M Q := fun hp hk hQ => by
    refine (s_MN_at hO (w.nu hp) hk).mono (fun z M1 e1 => ?_)
    obtain ⟨e1, hz⟩ := e1
    subst e1
    exact hQ z hz (by rw [hz]; exact (hO _ _).1)
  -- the value is taken
  have go : ∀ (M2 : mM) (c : Int), i32 c → M2 = mUI M a 23 (V : Int) → (c = c2 ∨ (so M g n = 32 ∧ c = np M g c2)) → Cv G y_MM_todo (d + 1) [vr a, vi 0, vi c] M2 (fun M' => mOk M' ∧ (mOk M' ∧ coQ M a g V X n c2 M')) := fun M2 c hc e2 hcc => by
    obtain ⟨m2, f2⟩ := mv_fld (v := (V : Int)) ⟨by omega, by omega⟩ hO w e2
    have s2 := m2.lst (n99 (a := a)) (fun z => z)
    refine (s_MM_todo (d := d) ⟨by omega, by omega⟩ hc m2.1 m2.2.1 (by rw [s2.1]; exact hl) (by omega)).mono (fun M3 t => ?_)
    obtain ⟨o3, m3, l3, e3, x3, y3⟩ := t
    have f3 := (m3.fld m2.2.1 (fun q hq => by rw [hq]; exact n99) (fun z => z)).1
    have lt : ∀ {M5 : mM}, Wd M5 a → ∀ q, q = a + 99 → q < mZ M5 := fun w q hq => by rw [hq]; exact w.lt n99
    refine ⟨o3, o3, Or.inr ⟨c, hcc, (m2.mono (fun _ z => z.elim) (fun x hx => hx) (lt w)).trans (m3.mono (fun x hx => hx) (fun x hx => hx.elim) (lt m2.2.1)), by rw [f3, f2, if_pos rfl], fun i hi => by rw [f3, f2, if_neg hi], l3, fun j hj => by rw [e3 j hj, s2.2.1], x3, y3⟩⟩
  have eV : ((V + 1 : Nat) : Int) - 1 = (V : Int) := by omega
  refine k_MM_choose0 hO (i32s (by omega) (by omega)) ?_
  rw [r0]
  refine ⟨gp.1, (w.nu i1).1, rd i1 (by omega) (fun s hs is => ⟨is, hO, w.1.1, ?_⟩)⟩
  have hs' : s = so M g n := hs
  rw [r21, hV, r4, r5, eV]
  refine ⟨n97.1, by rw [n97.2]; omega, fun v10 _ => ⟨gp.1, (w.nu i9).1, rd i9 (by omega) (fun x18 h18 i18 => ⟨i18, hO, (w.nu i11).1, ?_⟩)⟩⟩
  have e18 : x18 = (c1 : Int) := h18.trans h1
  subst e18
  refine rd i11 (by omega) (fun x22 h22 i22 => ⟨i22, hO, fun q => ⟨w.1.1, ?_⟩, fun q v54 _ => ⟨fun _ => ⟨w.1.1, ?_⟩, fun _ => ⟨hO, Or.inl ⟨by rw [← hs']; exact q, rfl⟩⟩⟩⟩)
  · have e22 : x22 = (c2 : Int) := h22.trans h2
    subst e22
    rw [hV, eV]
    refine ⟨⟨by omega, by omega⟩, fun M2 e2 => ⟨fun _ => ?_, fun _ => go M2 _ i22 e2 (Or.inl rfl)⟩⟩
    obtain ⟨m2, f2⟩ := mv_fld (v := (V : Int)) ⟨by omega, by omega⟩ hO w e2
    have w2 := m2.2.1
    have gp2 := w2.gp hg
    have s11 := m2.lst i11 (fun z => z)
    rw [show mR M2 g 5 = g + 11 from gp2.2.1.2.2.2.2.2.1]
    refine ⟨gp2.1, (w2.nu i11).1, (s_MN_at m2.1 (w2.nu i11) (by rw [s11.1]; omega)).mono (fun z M3 e3 => ?_)⟩
    obtain ⟨e3, hz⟩ := e3
    subst e3
    have iz : i32 z := by rw [hz]; exact (m2.1 _ _).1
    exact ⟨iz, m2.1, w2.1.1, go M3 z iz e2 (Or.inr ⟨by rw [← hs']; exact q, by rw [hz, s11.2.1]⟩)⟩
  · have e22 : x22 = (c2 : Int) := h22.trans h2
    subst e22
    rw [hV, eV]
    exact ⟨⟨by omega, by omega⟩, fun M2 e2 => go M2 _ i22 e2 (Or.inl rfl)⟩
end CH
