/-! The reference: tellState. -/
section TEL
variable {G : mG} {d a n L w k : Nat} {M M2 : mM} {F B : Nat → Nat} {mu to up dn : Nat → Int}
/-- the tables of what was explored -/
def TT (M : mM) (a n L w : Nat) (F B : Nat → Nat) (mu to up dn : Nat → Int) : Prop := (n ≤ 512 ∧ L ≤ 4096 ∧ w ≤ 4096) ∧ (F n = L ∧ ∀ k, k < n → mI M (a + 107) k = (F k : Int) ∧ mI M (a + 108) k = ((F (k + 1) - F k : Nat) : Int) ∧ F k ≤ F (k + 1) ∧ F (k + 1) ≤ L) ∧ (ln M (a + 111) = (L : Int) ∧ ln M (a + 113) = (L : Int) ∧ ln M (a + 115) = (L : Int)) ∧ (∀ i, i < L → nt M (a + 111) i = (B i : Int) ∧ nt M (a + 113) i = ((B (i + 1) - B i : Nat) : Int) ∧ B i ≤ B (i + 1) ∧ B (i + 1) ≤ w ∧ nt M (a + 115) i = mu i) ∧ ∀ j, j < w → mI M (a + 21185) j = to j ∧ mL M (a + 21186) j = up j ∧ mL M (a + 21187) j = dn j ∧ i32 (to j) ∧ i32 (up j) ∧ i32 (dn j)
theorem tl_vF {s y : Nat} (h : tlS s y) : vF s y := by
  have h' : y = s ∨ (s + 22 ≤ y ∧ y ≤ s + 28) ∨ y = s + 32 := h
  show s ≤ y ∧ y ≤ s + 21067
  omega
theorem TT.mv {P S : Nat → Prop} {M' : mM} (h : TT M a n L w F B mu to up dn) (wd : Wd M a) (m : Mv P S M a M') (hin : ∀ q, P q → q ∈ nums a) (hP : ∀ q, P q → q ≠ a + 111 ∧ q ≠ a + 113 ∧ q ≠ a + 115) (hS : ∀ x, S x → x ≠ a + 107 ∧ x ≠ a + 108 ∧ x ≠ a + 21185 ∧ x ≠ a + 21186 ∧ x ≠ a + 21187) : TT M' a n L w F B mu to up dn := by
  have c7 := (m.cellL wd hin (offx (a := a) (o := 107) (by decide)) (fun z => (hS _ z).1 rfl)).1
  have c8 := (m.cellL wd hin (offx (a := a) (o := 108) (by decide)) (fun z => (hS _ z).2.1 rfl)).1
  have c85 := (m.cellL wd hin (offx (a := a) (o := 21185) (by decide)) (fun z => (hS _ z).2.2.1 rfl)).1
  have c86 := (m.cellL wd hin (offx (a := a) (o := 21186) (by decide)) (fun z => (hS _ z).2.2.2.1 rfl)).2
  have c87 := (m.cellL wd hin (offx (a := a) (o := 21187) (by decide)) (fun z => (hS _ z).2.2.2.2 rfl)).2
  have s11 := m.lst (k111 (a := a)) (fun z => (hP _ z).1 rfl)
  have s13 := m.lst (k113 (a := a)) (fun z => (hP _ z).2.1 rfl)
  have s15 := m.lst (k115 (a := a)) (fun z => (hP _ z).2.2 rfl)
  obtain ⟨h1, h2, h3, h4, h5⟩ := h
  refine ⟨h1, by rw [c7, c8]; exact h2, by rw [s11.1, s13.1, s15.1]; exact h3, fun i hi => ?_, by rw [c85, c86, c87]; exact h5⟩
  rw [s11.2.1, s13.2.1, s15.2.1]
  exact h4 i hi
/-- the reference while it tells -/
def tI (M : mM) (a n L w : Nat) (F B : Nat → Nat) (mu to up dn : Nat → Int) (i c b : Nat) (M2 : mM) : Prop := mOk M2 ∧ Wd M2 a ∧ FI (vF (a + 117)) M M2 ∧ TT M2 a n L w F B mu to up dn ∧ TL M2 (a + 117) F B mu to up dn i c b
theorem tI.st {i c b i' c' b' : Nat} {M3 : mM} (h : tI M a n L w F B mu to up dn i c b M2) (o : mOk M3) (f : FI (tlS (a + 117)) M2 M3) (t : TL M3 (a + 117) F B mu to up dn i' c' b') : tI M a n L w F B mu to up dn i' c' b' M3 := by
  have f' : FI (vF (a + 117)) M2 M3 := f.mono (fun y z => tl_vF z)
  have m := mv_sol o h.2.1 f'
  exact ⟨o, m.2.1, h.2.2.1.trans f', h.2.2.2.1.mv h.2.1 m (fun _ z => z.elim) (fun _ z => z.elim) (fun x z => by
    have z' : a + 117 ≤ x ∧ x ≤ a + 117 + 21067 := z
    omega), t⟩
theorem s_MM_tellState (h : tI M a n L w F B mu to up dn k (F k) (B (F k)) M2) (hk : k < n) (hmu : ∀ i, i < L → i32 (mu i)) : Cv G y_MM_tellState (d + 1) [vr a, vi k] M2 (fun M' => mOk M' ∧ tI M a n L w F B mu to up dn (k + 1) (F (k + 1)) (B (F (k + 1))) M') := by
  have R6 : ∀ {Mx : mM}, Wd Mx a → mR Mx a 32 = a + 106 ∧ mR Mx a 33 = a + 107 ∧ mR Mx a 34 = a + 108 ∧ mR Mx a 36 = a + 111 ∧ mR Mx a 37 = a + 113 ∧ mR Mx a 38 = a + 115 ∧ mR Mx a 39 = a + 117 := fun w => ⟨w.1.2.2.2.2.2.1.2.1, w.1.2.2.2.2.2.1.2.2.1, w.1.2.2.2.2.2.1.2.2.2.1, w.1.2.2.2.2.2.1.2.2.2.2.2.1, w.1.2.2.2.2.2.1.2.2.2.2.2.2.1, w.1.2.2.2.2.2.1.2.2.2.2.2.2.2.1, w.1.2.2.2.2.2.1.2.2.2.2.2.2.2.2⟩
  have A6 : ∀ {Mx : mM}, Wd Mx a → (mK Mx (a + 106) = 30 ∧ mN Mx (a + 106) = 512) ∧ (mK Mx (a + 107) = 30 ∧ mN Mx (a + 107) = 512) ∧ (mK Mx (a + 108) = 30 ∧ mN Mx (a + 108) = 512) := fun w => ⟨w.1.2.2.2.2.2.2.2.2.1.2.1, w.1.2.2.2.2.2.2.2.2.1.2.2.1, w.1.2.2.2.2.2.2.2.2.1.2.2.2⟩
  have pr : ∀ {Mx : mM}, Wd Mx a → (mR Mx a 41 = a + 21185 ∧ mR Mx a 42 = a + 21186 ∧ mR Mx a 43 = a + 21187) := fun w => ⟨w.1.2.2.2.2.2.2.1.1, w.1.2.2.2.2.2.2.1.2.1, w.1.2.2.2.2.2.2.1.2.2.1⟩
  have ar : ∀ {Mx : mM}, Wd Mx a → ((mK Mx (a + 21185) = 30 ∧ mN Mx (a + 21185) = 4096) ∧ (mK Mx (a + 21186) = 33 ∧ mN Mx (a + 21186) = 4096) ∧ (mK Mx (a + 21187) = 33 ∧ mN Mx (a + 21187) = 4096)) := fun w => ⟨w.1.2.2.2.2.2.2.2.2.2.1.1, w.1.2.2.2.2.2.2.2.2.2.1.2.1, w.1.2.2.2.2.2.2.2.2.2.1.2.2.1⟩
  have hb := h.2.2.2.1.1
  have hFk := h.2.2.2.1.2.1.2 k hk
  have ik : i32 (k : Int) := i32s (by omega) (by omega)
  have b512 : ((0 : Int) ≤ (k : Int) ∧ (k : Int) < ((512 : Nat) : Int)) := by omega
  have hF1 := hFk.2.2.1
  have hF2 := hFk.2.2.2
  have rd : ∀ {Mx : mM} {p j : Nat} {Q : Int → mM → Prop}, mOk Mx → Wd Mx a → p ∈ nums a → (j : Int) < ln Mx p → (∀ z, z = nt Mx p j → i32 z → Q z Mx) → Ci G y_MN_at d [vr p, vi j] Mx Q := fun ox wx hp hk hQ => by
    refine (s_MN_at ox (wx.nu hp) hk).mono (fun z M1 e1 => ?_)
    obtain ⟨e1, hz⟩ := e1
    subst e1
    exact hQ z hz (by rw [hz]; exact (ox _ _).1)
  -- the commands from i on
  suffices H : ∀ (t i : Nat) (M3 : mM), F k ≤ i → i + t = F (k + 1) → tI M a n L w F B mu to up dn (k + 1) i (B i) M3 → h_MM_tellState_20 G d a k i M3 (fun M' => mOk M' ∧ tI M a n L w F B mu to up dn (k + 1) (F (k + 1)) (B (F (k + 1))) M') by
    have o2 := h.1
    have w2 := h.2.1
    refine k_MM_tellState o2 ik ⟨w2.1.1, ?_⟩
    rw [(R6 w2).1, (R6 w2).2.2.2.2.2.2, Int.toNat_natCast]
    refine ⟨(A6 w2).1.1, by rw [(A6 w2).1.2]; exact b512, h.2.2.2.2.1.1.1, (s_tl_state (o2 _ _).1 o2 h.2.2.2.2 (by omega) rfl (by rw [show a + 117 - 11 = a + 106 by omega])).mono (fun M3 t3 => ?_)⟩
    have h3 := h.st t3.1 t3.2.1 t3.2.2
    have w3 := h3.2.1
    have e7 := (h3.2.2.2.1.2.1.2 k hk).1
    rw [(R6 w3).2.1, e7]
    exact ⟨t3.1, w3.1.1, (A6 w3).2.1.1, by rw [(A6 w3).2.1.2]; exact b512, H (F (k + 1) - F k) (F k) M3 (Nat.le_refl _) (by omega) h3⟩
  intro t
  induction t with
  | zero =>
    intro i M3 i0 hi h3
    have ei : i = F (k + 1) := by omega
    subst ei
    have w3 := h3.2.1
    obtain ⟨e7, e8, -, -⟩ := h3.2.2.2.1.2.1.2 k hk
    refine k_MM_tellState_20 h3.1 ik (i32s (by omega) (by omega)) ⟨w3.1.1, ?_⟩
    rw [(R6 w3).2.1, (R6 w3).2.2.1, Int.toNat_natCast, e7, e8]
    exact ⟨(A6 w3).2.1.1, by rw [(A6 w3).2.1.2]; exact b512, (A6 w3).2.2.1, by rw [(A6 w3).2.2.2]; exact b512, i32s (by omega) (by omega), fun _ => ⟨h3.1, h3⟩, fun q => absurd (by omega) q⟩
  | succ t ih =>
    intro i M3 i0 hi h3
    have o3 := h3.1
    have w3 := h3.2.1
    obtain ⟨e7, e8, -, -⟩ := h3.2.2.2.1.2.1.2 k hk
    have iL : i < L := by omega
    obtain ⟨l11, l13, l15⟩ := h3.2.2.2.1.2.2.1
    obtain ⟨v11, v13, v1, v2, v15⟩ := h3.2.2.2.1.2.2.2.1 i iL
    have ii : i32 (i : Int) := i32s (by omega) (by omega)
    refine k_MM_tellState_20 o3 ik ii ⟨w3.1.1, ?_⟩
    rw [(R6 w3).2.1, (R6 w3).2.2.1, (R6 w3).2.2.2.2.2.1, (R6 w3).2.2.2.2.2.2, Int.toNat_natCast, e7, e8]
    refine ⟨(A6 w3).2.1.1, by rw [(A6 w3).2.1.2]; exact b512, (A6 w3).2.2.1, by rw [(A6 w3).2.2.2]; exact b512, i32s (by omega) (by omega), fun q => absurd q (by omega), fun _ => ⟨(w3.nu k115).1, rd o3 w3 k115 (by rw [l15]; omega) (fun z hz iz => ⟨iz, o3, h3.2.2.2.2.1.1.1, ?_⟩)⟩⟩
    rw [hz.trans v15]
    refine (s_tl_command o3 h3.2.2.2.2 (by omega) (by omega) rfl (hmu i iL)).mono (fun M4 t4 => ?_)
    have h4 := h3.st t4.1 t4.2.1 t4.2.2
    have o4 := h4.1
    have w4 := h4.2.1
    obtain ⟨l11', l13', l15'⟩ := h4.2.2.2.1.2.2.1
    obtain ⟨v11', v13', -, -, -⟩ := h4.2.2.2.1.2.2.2.1 i iL
    rw [(R6 w4).2.2.2.1]
    refine ⟨o4, w4.1.1, (w4.nu k111).1, rd o4 w4 k111 (by rw [l11']; omega) (fun z hz iz => ⟨iz, o4, ?_⟩)⟩
    rw [hz.trans v11']
    -- the ways from j on
    suffices H2 : ∀ (u j : Nat) (M5 : mM), B i ≤ j → j + u = B (i + 1) → tI M a n L w F B mu to up dn (k + 1) (i + 1) j M5 → h_MM_tellState_61 G d a k i j M5 (fun M' => mOk M' ∧ tI M a n L w F B mu to up dn (k + 1) (F (k + 1)) (B (F (k + 1))) M') from H2 (B (i + 1) - B i) (B i) M4 (Nat.le_refl _) (by omega) h4
    intro u
    induction u with
    | zero =>
      intro j M5 j0 hj h5
      have ej : j = B (i + 1) := by omega
      subst ej
      have o5 := h5.1
      have w5 := h5.2.1
      obtain ⟨l11, l13, l15⟩ := h5.2.2.2.1.2.2.1
      obtain ⟨v11, v13, -, -, -⟩ := h5.2.2.2.1.2.2.2.1 i iL
      refine k_MM_tellState_61 o5 ik ii (i32s (by omega) (by omega)) ⟨w5.1.1, ?_⟩
      rw [(R6 w5).2.2.2.1]
      refine ⟨(w5.nu k111).1, rd o5 w5 k111 (by rw [l11]; omega) (fun z hz iz => ⟨iz, o5, w5.1.1, ?_⟩)⟩
      rw [(R6 w5).2.2.2.2.1]
      refine ⟨(w5.nu k113).1, rd o5 w5 k113 (by rw [l13]; omega) (fun y hy iy => ⟨iy, o5, ?_⟩)⟩
      rw [hz.trans v11, hy.trans v13, show (i : Int) + 1 = ((i + 1 : Nat) : Int) by omega]
      exact ⟨i32s (by omega) (by omega), fun _ => ih (i + 1) M5 (by omega) (by omega) h5, fun q => absurd (by omega) q⟩
    | succ u ih2 =>
      intro j M5 j0 hj h5
      have o5 := h5.1
      have w5 := h5.2.1
      obtain ⟨l11, l13, l15⟩ := h5.2.2.2.1.2.2.1
      obtain ⟨v11, v13, -, -, -⟩ := h5.2.2.2.1.2.2.2.1 i iL
      obtain ⟨j1, j2, j3, j4, j5, j6⟩ := h5.2.2.2.1.2.2.2.2 j (by omega)
      have bj : ((0 : Int) ≤ (j : Int) ∧ (j : Int) < ((4096 : Nat) : Int)) := by omega
      refine k_MM_tellState_61 o5 ik ii (i32s (by omega) (by omega)) ⟨w5.1.1, ?_⟩
      rw [(R6 w5).2.2.2.1]
      refine ⟨(w5.nu k111).1, rd o5 w5 k111 (by rw [l11]; omega) (fun z hz iz => ⟨iz, o5, w5.1.1, ?_⟩)⟩
      rw [(R6 w5).2.2.2.2.1]
      refine ⟨(w5.nu k113).1, rd o5 w5 k113 (by rw [l13]; omega) (fun y hy iy => ⟨iy, o5, ?_⟩)⟩
      rw [hz.trans v11, hy.trans v13, (pr w5).1, (pr w5).2.1, (pr w5).2.2, (R6 w5).2.2.2.2.2.2, Int.toNat_natCast, j1, j2, j3]
      refine ⟨i32s (by omega) (by omega), fun q => absurd q (by omega), fun _ => ⟨w5.1.1, (ar w5).1.1, by rw [(ar w5).1.2]; exact bj, (ar w5).2.1.1, by rw [(ar w5).2.1.2]; exact bj, (ar w5).2.2.1, by rw [(ar w5).2.2.2]; exact bj, h5.2.2.2.2.1.1.1, (s_tl_branch o5 h5.2.2.2.2 (by omega) (by omega) j4 j5 j6).mono (fun M6 t6 => ⟨t6.1, ?_⟩)⟩⟩
      have h6 := h5.st t6.1 t6.2.1 t6.2.2
      rw [show (j : Int) + 1 = ((j + 1 : Nat) : Int) by omega]
      exact ih2 (j + 1) M6 (by omega) (by omega) h6
end TEL
