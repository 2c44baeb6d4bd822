/-! The reference: a name's value. -/
section NV
variable {G : mG} {F : Prop} {d a g R W T V X : Nat} {M : mM}
/-- a game whose constants, met formulas and variables have values of their types -/
def Ev (F : Prop) (M : mM) (a g R W T : Nat) : Prop := mOk M ∧ Wd M a ∧ (g = a + 13 ∨ g = a + 49) ∧ nd M g T ∧ (R ≤ 60 ∧ W ≤ 12 ∧ T ≤ 16384) ∧ (∀ r : Nat, r < R → (mI M (g + 13) r = 0 → vok (tn M g r) (mL M (g + 16) r) (mL M (g + 17) r)) ∧ (F → mI M (g + 13) r ≠ 0 → mI M (a + 102) r ≠ 0 → vok (tn M g r) (mL M (a + 103) r) (mL M (a + 104) r))) ∧ (F → ∀ v : Nat, v < W → vok (tn M g (100 + v)) (mI M (a + 101) v) (if mI M (g + 18) v = 0 then 1 else 0))
/-- the names a tree may hold: constants, and with F formulas and variables too -/
def nme (F : Prop) (M : mM) (g R W : Nat) (v : Int) : Prop := (0 ≤ v ∧ v < R ∧ (F ∨ mI M (g + 13) v.toNat = 0)) ∨ (F ∧ 100 ≤ v ∧ v < 100 + W)
/-- a formula is to be worked out -/
def nfQ (F : Prop) (M : mM) (a g X : Nat) (v : Int) (M' : mM) : Prop := F ∧ v < 100 ∧ mI M (g + 13) v.toNat ≠ 0 ∧ mI M (a + 102) v.toNat = 0 ∧ Mv (fun x => x = a + 99) (fun _ => False) M a M' ∧ ln M' (a + 99) = (X + 4 : Nat) ∧ (∀ j, j < X → nt M' (a + 99) j = nt M (a + 99) j) ∧ nt M' (a + 99) X = 3 ∧ nt M' (a + 99) (X + 1) = v ∧ nt M' (a + 99) (X + 2) = 0 ∧ nt M' (a + 99) (X + 3) = mI M (g + 15) v.toNat
/-- a value is pushed, or a formula is to be worked out -/
def naQ (F : Prop) (M : mM) (a g V X : Nat) (v : Int) (M' : mM) : Prop := (∃ A B : Int, vok (tn M g v) A B ∧ psQ M a V A B M') ∨ nfQ F M a g X v M'
theorem goff15 (hg : g = a + 13 ∨ g = a + 49) : g + 15 < a + 21192 ∧ g + 15 ∉ nums a ∧ (∀ q, q ∈ nums a → g + 15 ≠ q + 1) := by
  refine ⟨by omega, fun z => ?_, fun q z e => ?_⟩
  · obtain ⟨o, z1, z2⟩ := nums_off.1 z
    have : o = 28 ∨ o = 64 := by omega
    rcases this with y | y <;> rw [y] at z1 <;> exact absurd z1 (by decide)
  · obtain ⟨o, z1, z2⟩ := nums_off.1 z
    have : o = 27 ∨ o = 63 := by omega
    rcases this with y | y <;> rw [y] at z1 <;> exact absurd z1 (by decide)
theorem s_MM_name {v : Int} (h : Ev F M a g R W T) (hvn : nme F M g R W v) (hV : mI M a 23 = (V : Int)) (hb : V < 16400) (hl : ln M (a + 99) = (X : Int)) (hX : X ≤ 64000) : Cv G y_MM_name (d + 2) [vr a, vr g, vi v] M (fun M' => mOk M' ∧ naQ F M a g V X v M') := by
  have hv : (0 ≤ v ∧ v < R) ∨ (100 ≤ v ∧ v < 100 + W) := hvn.elim (fun z => Or.inl ⟨z.1, z.2.1⟩) (fun z => Or.inr z.2)
  obtain ⟨hO, w, hg, hn, hB, hr, hw⟩ := h
  have gp := w.gp hg
  have r7 : mR M g 7 = g + 13 := gp.2.1.2.2.2.2.2.2.1
  have r9 : mR M g 9 = g + 15 := gp.2.1.2.2.2.2.2.2.2.2.1
  have r10 : mR M g 10 = g + 16 := gp.2.1.2.2.2.2.2.2.2.2.2.1
  have r11 : mR M g 11 = g + 17 := gp.2.1.2.2.2.2.2.2.2.2.2.2
  have r13 : mR M g 13 = g + 18 := gp.2.2.1.1
  have B := w.1.2.2.2.2.1.2.2.2.2.2.2.2.2.2
  have r25 : mR M a 25 = a + 101 := B.1
  have r26 : mR M a 26 = a + 102 := B.2.1
  have r27 : mR M a 27 = a + 103 := B.2.2.1
  have r28 : mR M a 28 = a + 104 := B.2.2.2
  have A8 := w.1.2.2.2.2.2.2.2.1
  have g13 := gp.2.2.2.1.1
  have g15 := gp.2.2.2.1.2.2.1
  have g16 := gp.2.2.2.1.2.2.2.1
  have g17 := gp.2.2.2.1.2.2.2.2
  have g18 := gp.2.2.2.2.1.1
  refine k_MM_name hO ⟨by omega, by omega⟩ ?_
  rw [r7, r10, r11, r13, r25, r26, r27, r28]
  refine ⟨fun q => ?_, fun q => ?_⟩
  · have hvr : v.toNat < R := by omega
    obtain ⟨b1, b2⟩ := hr v.toNat hvr
    have hF : mI M (g + 13) v.toNat ≠ 0 → F := fun z => hvn.elim (fun y => y.2.2.elim (fun x => x) (fun x => absurd x z)) (fun y => y.1)
    rw [show ((v.toNat : Nat) : Int) = v by omega] at b1 b2
    refine ⟨gp.1, g13.1, by rw [g13.2]; omega, fun z => ⟨g16.1, by rw [g16.2]; omega, g17.1, by rw [g17.2]; omega, w.1.1, (s_MM_push (hO _ _).2 (hO _ _).2 hO w hV hb).mono (fun M' t => ⟨t.1, t.1, Or.inl ⟨_, _, b1 z, t.2⟩⟩)⟩, fun z => ⟨w.1.1, A8.2.2.2.1.1, by rw [A8.2.2.2.1.2]; omega, fun z2 => ?_, fun z2 => ⟨A8.2.2.2.2.1.1, by rw [A8.2.2.2.2.1.2]; omega, A8.2.2.2.2.2.1, by rw [A8.2.2.2.2.2.2]; omega, (s_MM_push (hO _ _).2 (hO _ _).2 hO w hV hb).mono (fun M' t => ⟨t.1, t.1, Or.inl ⟨_, _, b2 (hF z) z z2, t.2⟩⟩)⟩⟩⟩
    refine (s_MM_todo (d := d) ⟨by omega, by omega⟩ ⟨by omega, by omega⟩ hO w hl (by omega)).mono (fun M2 t => ?_)
    obtain ⟨o2, m2, l2, e2, x2, y2⟩ := t
    have w2 := m2.2.1
    have gp2 := w2.gp hg
    have q15 := goff15 hg
    have c15 := m2.cell w (fun q hq => by rw [hq]; exact n99) q15.1 q15.2.1 q15.2.2 (fun z => z)
    rw [show mR M2 g 9 = g + 15 from gp2.2.1.2.2.2.2.2.2.2.2.1, c15]
    refine ⟨o2, gp2.1, gp2.2.2.2.1.2.2.1.1, by rw [gp2.2.2.2.1.2.2.1.2]; omega, w2.1.1, (s_MM_todo (d := d) ⟨by omega, by omega⟩ (hO _ _).1 o2 w2 l2 (by omega)).mono (fun M3 t => ?_)⟩
    obtain ⟨o3, m3, l3, e3, x3, y3⟩ := t
    exact ⟨o3, o3, Or.inr ⟨hF z, q, z, z2, m2.trans m3, by rw [l3], fun j hj => by rw [e3 j (by omega), e2 j hj], by rw [e3 X (by omega)]; exact x2, by rw [e3 (X + 1) (by omega)]; exact y2, x3, y3⟩⟩
  · have hF : F := hvn.elim (fun y => absurd y.2.1 (by omega)) (fun y => y.1)
    have b := hw hF (v - 100).toNat (by omega)
    rw [show (100 : Int) + ((v - 100).toNat : Nat) = v by omega] at b
    refine ⟨w.1.1, A8.2.2.1.1, by rw [A8.2.2.1.2]; omega, gp.1, g18.1, by rw [g18.2]; omega, fun u hu => ?_⟩
    rw [← hu] at b
    have i1 := (hO (a + 101) (v - 100).toNat).1
    exact (s_MM_push ⟨by have := i1.1; omega, by have := i1.2; omega⟩ ⟨by split at hu <;> omega, by split at hu <;> omega⟩ hO w hV hb).mono (fun M' t => ⟨t.1, t.1, Or.inl ⟨_, _, b, t.2⟩⟩)
end NV
