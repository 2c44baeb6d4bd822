section
/-! The reference: tellState. -/
section TEL
variable {G : mG} {d a n L w k : Nat} {M M2 : mM} {F B : Nat → Nat} {mu to up dn : Nat → Int}
/-- the tables of what was explored -/
def TT (M : mM) (a n L w : Nat) (F B : Nat → Nat) (mu to up dn : Nat → Int) : Prop := (n ≤ 512 ∧ L ≤ 4096 ∧ w ≤ 4096) ∧ (F n = L ∧ ∀ k, k < n → mI M (a + 107) k = (F k : Int) ∧ mI M (a + 108) k = ((F (k + 1) - F k : Nat) : Int) ∧ F k ≤ F (k + 1) ∧ F (k + 1) ≤ L) ∧ (ln M (a + 111) = (L : Int) ∧ ln M (a + 113) = (L : Int) ∧ ln M (a + 115) = (L : Int)) ∧ (∀ i, i < L → nt M (a + 111) i = (B i : Int) ∧ nt M (a + 113) i = ((B (i + 1) - B i : Nat) : Int) ∧ B i ≤ B (i + 1) ∧ B (i + 1) ≤ w ∧ nt M (a + 115) i = mu i) ∧ ∀ j, j < w → mI M (a + 21185) j = to j ∧ mL M (a + 21186) j = up j ∧ mL M (a + 21187) j = dn j ∧ i32 (to j) ∧ i32 (up j) ∧ i32 (dn j)
theorem tl_vF {s y : Nat} (h : tlS s y) : vF s y := by
  have h' : y = s ∨ (s + 22 ≤ y ∧ y ≤ s + 28) ∨ y = s + 32 := h
  show s ≤ y ∧ y ≤ s + 21067
  omega
theorem TT.mv {P S : Nat → Prop} {M' : mM} (h : TT M a n L w F B mu to up dn) (wd : Wd M a) (m : Mv P S M a M') (hin : ∀ q, P q → q ∈ nums a) (hP : ∀ q, P q → q ≠ a + 111 ∧ q ≠ a + 113 ∧ q ≠ a + 115) (hS : ∀ x, S x → x ≠ a + 107 ∧ x ≠ a + 108 ∧ x ≠ a + 21185 ∧ x ≠ a + 21186 ∧ x ≠ a + 21187) : TT M' a n L w F B mu to up dn := by
  have c7 := (m.cellL wd hin (offx (a := a) (o := 107) (by decide)) (fun z => (hS _ z).1 rfl)).1
  have c8 := (m.cellL wd hin (offx (a := a) (o := 108) (by decide)) (fun z => (hS _ z).2.1 rfl)).1
  have c85 := (m.cellL wd hin (offx (a := a) (o := 21185) (by decide)) (fun z => (hS _ z).2.2.1 rfl)).1
  have c86 := (m.cellL wd hin (offx (a := a) (o := 21186) (by decide)) (fun z => (hS _ z).2.2.2.1 rfl)).2
  have c87 := (m.cellL wd hin (offx (a := a) (o := 21187) (by decide)) (fun z => (hS _ z).2.2.2.2 rfl)).2
  have s11 := m.lst (k111 (a := a)) (fun z => (hP _ z).1 rfl)
  have s13 := m.lst (k113 (a := a)) (fun z => (hP _ z).2.1 rfl)
  have s15 := m.lst (k115 (a := a)) (fun z => (hP _ z).2.2 rfl)
  obtain ⟨h1, h2, h3, h4, h5⟩ := h
  refine ⟨h1, by rw [c7, c8]; exact h2, by rw [s11.1, s13.1, s15.1]; exact h3, fun i hi => ?_, by rw [c85, c86, c87]; exact h5⟩
  rw [s11.2.1, s13.2.1, s15.2.1]
  exact h4 i hi
/-- the reference while it tells -/
def tI (M : mM) (a n L w : Nat) (F B : Nat → Nat) (mu to up dn : Nat → Int) (i c b : Nat) (M2 : mM) : Prop := mOk M2 ∧ Wd M2 a ∧ FI (vF (a + 117)) M M2 ∧ TT M2 a n L w F B mu to up dn ∧ TL M2 (a + 117) F B mu to up dn i c b
theorem tI.st {i c b i' c' b' : Nat} {M3 : mM} (h : tI M a n L w F B mu to up dn i c b M2) (o : mOk M3) (f : FI (tlS (a + 117)) M2 M3) (t : TL M3 (a + 117) F B mu to up dn i' c' b') : tI M a n L w F B mu to up dn i' c' b' M3 := by
  have f' : FI (vF (a + 117)) M2 M3 := f.mono (fun y z => tl_vF z)
  have m := mv_sol o h.2.1 f'
  exact ⟨o, m.2.1, h.2.2.1.trans f', h.2.2.2.1.mv h.2.1 m (fun _ z => z.elim) (fun _ z => z.elim) (fun x z => by
    have z' : a + 117 ≤ x ∧ x ≤ a + 117 + 21067 := z
    omega), t⟩
theorem s_MM_tellState (h : tI M a n L w F B mu to up dn k (F k) (B (F k)) M2) (hk : k < n) (hmu : ∀ i, i < L → i32 (mu i)) : Cv G y_MM_tellState (d + 1) [vr a, vi k] M2 (fun M' => mOk M' ∧ tI M a n L w F B mu to up dn (k + 1) (F (k + 1)) (B (F (k + 1))) M') := by
  have R6 : ∀ {Mx : mM}, Wd Mx a → mR Mx a 32 = a + 106 ∧ mR Mx a 33 = a + 107 ∧ mR Mx a 34 = a + 108 ∧ mR Mx a 36 = a + 111 ∧ mR Mx a 37 = a + 113 ∧ mR Mx a 38 = a + 115 ∧ mR Mx a 39 = a + 117 := fun w => ⟨w.1.2.2.2.2.2.1.2.1, w.1.2.2.2.2.2.1.2.2.1, w.1.2.2.2.2.2.1.2.2.2.1, w.1.2.2.2.2.2.1.2.2.2.2.2.1, w.1.2.2.2.2.2.1.2.2.2.2.2.2.1, w.1.2.2.2.2.2.1.2.2.2.2.2.2.2.1, w.1.2.2.2.2.2.1.2.2.2.2.2.2.2.2⟩
  have A6 : ∀ {Mx : mM}, Wd Mx a → (mK Mx (a + 106) = 30 ∧ mN Mx (a + 106) = 512) ∧ (mK Mx (a + 107) = 30 ∧ mN Mx (a + 107) = 512) ∧ (mK Mx (a + 108) = 30 ∧ mN Mx (a + 108) = 512) := fun w => ⟨w.1.2.2.2.2.2.2.2.2.1.2.1, w.1.2.2.2.2.2.2.2.2.1.2.2.1, w.1.2.2.2.2.2.2.2.2.1.2.2.2⟩
  have pr : ∀ {Mx : mM}, Wd Mx a → (mR Mx a 41 = a + 21185 ∧ mR Mx a 42 = a + 21186 ∧ mR Mx a 43 = a + 21187) := fun w => ⟨w.1.2.2.2.2.2.2.1.1, w.1.2.2.2.2.2.2.1.2.1, w.1.2.2.2.2.2.2.1.2.2.1⟩
  have ar : ∀ {Mx : mM}, Wd Mx a → ((mK Mx (a + 21185) = 30 ∧ mN Mx (a + 21185) = 4096) ∧ (mK Mx (a + 21186) = 33 ∧ mN Mx (a + 21186) = 4096) ∧ (mK Mx (a + 21187) = 33 ∧ mN Mx (a + 21187) = 4096)) := fun w => ⟨w.1.2.2.2.2.2.2.2.2.2.1.1, w.1.2.2.2.2.2.2.2.2.2.1.2.1, w.1.2.2.2.2.2.2.2.2.2.1.2.2.1⟩
  have hb := h.2.2.2.1.1
  have hFk := h.2.2.2.1.2.1.2 k hk
  have ik : i32 (k : Int) := i32s (by omega) (by omega)
  have b512 : ((0 : Int) ≤ (k : Int) ∧ (k : Int) < ((512 : Nat) : Int)) := by omega
  have hF1 := hFk.2.2.1
  have hF2 := hFk.2.2.2
  have rd : ∀ {Mx : mM} {p j : Nat} {Q : Int → mM → Prop}, mOk Mx → Wd Mx a → p ∈ nums a → (j : Int) < ln Mx p → (∀ z, z = nt Mx p j → i32 z → Q z Mx) → Ci G y_MN_at d [vr p, vi j] Mx Q := fun ox wx hp hk hQ => by
    refine (s_MN_at ox (wx.nu hp) hk).mono (fun z M1 e1 => ?_)
    obtain ⟨e1, hz⟩ := e1
    subst e1
    exact hQ z hz (by rw [hz]; exact (ox _ _).1)
  -- the commands from i on
  suffices H : ∀ (t i : Nat) (M3 : mM), F k ≤ i → i + t = F (k + 1) → tI M a n L w F B mu to up dn (k + 1) i (B i) M3 → h_MM_tellState_20 G d a k i M3 (fun M' => mOk M' ∧ tI M a n L w F B mu to up dn (k + 1) (F (k + 1)) (B (F (k + 1))) M') by
    have o2 := h.1
    have w2 := h.2.1
    refine k_MM_tellState o2 ik ⟨w2.1.1, ?_⟩
    rw [(R6 w2).1, (R6 w2).2.2.2.2.2.2, Int.toNat_natCast]
    refine ⟨(A6 w2).1.1, by rw [(A6 w2).1.2]; exact b512, h.2.2.2.2.1.1.1, (s_tl_state (o2 _ _).1 o2 h.2.2.2.2 (by omega) rfl (by rw [show a + 117 - 11 = a + 106 by omega])).mono (fun M3 t3 => ?_)⟩
    have h3 := h.st t3.1 t3.2.1 t3.2.2
    have w3 := h3.2.1
    have e7 := (h3.2.2.2.1.2.1.2 k hk).1
    rw [(R6 w3).2.1, e7]
    exact ⟨t3.1, w3.1.1, (A6 w3).2.1.1, by rw [(A6 w3).2.1.2]; exact b512, H (F (k + 1) - F k) (F k) M3 (Nat.le_refl _) (by omega) h3⟩
  intro t
  induction t with
  | zero =>
    intro i M3 i0 hi h3
    have ei : i = F (k + 1) := by omega
    subst ei
    have w3 := h3.2.1
    obtain ⟨e7, e8, -, -⟩ := h3.2.2.2.1.2.1.2 k hk
    refine k_MM_tellState_20 h3.1 ik (i32s (by omega) (by omega)) ⟨w3.1.1, ?_⟩
    rw [(R6 w3).2.1, (R6 w3).2.2.1, Int.toNat_natCast, e7, e8]
    exact ⟨(A6 w3).2.1.1, by rw [(A6 w3).2.1.2]; exact b512, (A6 w3).2.2.1, by rw [(A6 w3).2.2.2]; exact b512, i32s (by omega) (by omega), fun _ => ⟨h3.1, h3⟩, fun q => absurd (by omega) q⟩
  | succ t ih =>
    intro i M3 i0 hi h3
    have o3 := h3.1
    have w3 := h3.2.1
    obtain ⟨e7, e8, -, -⟩ := h3.2.2.2.1.2.1.2 k hk
    have iL : i < L := by omega
    obtain ⟨l11, l13, l15⟩ := h3.2.2.2.1.2.2.1
    obtain ⟨v11, v13, v1, v2, v15⟩ := h3.2.2.2.1.2.2.2.1 i iL
    have ii : i32 (i : Int) := i32s (by omega) (by omega)
    refine k_MM_tellState_20 o3 ik ii ⟨w3.1.1, ?_⟩
    rw [(R6 w3).2.1, (R6 w3).2.2.1, (R6 w3).2.2.2.2.2.1, (R6 w3).2.2.2.2.2.2, Int.toNat_natCast, e7, e8]
    refine ⟨(A6 w3).2.1.1, by rw [(A6 w3).2.1.2]; exact b512, (A6 w3).2.2.1, by rw [(A6 w3).2.2.2]; exact b512, i32s (by omega) (by omega), fun q => absurd q (by omega), fun _ => ⟨(w3.nu k115).1, rd o3 w3 k115 (by rw [l15]; omega) (fun z hz iz => ⟨iz, o3, h3.2.2.2.2.1.1.1, ?_⟩)⟩⟩
    rw [hz.trans v15]
    refine (s_tl_command o3 h3.2.2.2.2 (by omega) (by omega) rfl (hmu i iL)).mono (fun M4 t4 => ?_)
    have h4 := h3.st t4.1 t4.2.1 t4.2.2
    have o4 := h4.1
    have w4 := h4.2.1
    obtain ⟨l11', l13', l15'⟩ := h4.2.2.2.1.2.2.1
    obtain ⟨v11', v13', -, -, -⟩ := h4.2.2.2.1.2.2.2.1 i iL
    rw [(R6 w4).2.2.2.1]
    refine ⟨o4, w4.1.1, (w4.nu k111).1, rd o4 w4 k111 (by rw [l11']; omega) (fun z hz iz => ⟨iz, o4, ?_⟩)⟩
    rw [hz.trans v11']
    -- the ways from j on
    suffices H2 : ∀ (u j : Nat) (M5 : mM), B i ≤ j → j + u = B (i + 1) → tI M a n L w F B mu to up dn (k + 1) (i + 1) j M5 → h_MM_tellState_61 G d a k i j M5 (fun M' => mOk M' ∧ tI M a n L w F B mu to up dn (k + 1) (F (k + 1)) (B (F (k + 1))) M') from H2 (B (i + 1) - B i) (B i) M4 (Nat.le_refl _) (by omega) h4
    intro u
    induction u with
    | zero =>
      intro j M5 j0 hj h5
      have ej : j = B (i + 1) := by omega
      subst ej
      have o5 := h5.1
      have w5 := h5.2.1
      obtain ⟨l11, l13, l15⟩ := h5.2.2.2.1.2.2.1
      obtain ⟨v11, v13, -, -, -⟩ := h5.2.2.2.1.2.2.2.1 i iL
      refine k_MM_tellState_61 o5 ik ii (i32s (by omega) (by omega)) ⟨w5.1.1, ?_⟩
      rw [(R6 w5).2.2.2.1]
      refine ⟨(w5.nu k111).1, rd o5 w5 k111 (by rw [l11]; omega) (fun z hz iz => ⟨iz, o5, w5.1.1, ?_⟩)⟩
      rw [(R6 w5).2.2.2.2.1]
      refine ⟨(w5.nu k113).1, rd o5 w5 k113 (by rw [l13]; omega) (fun y hy iy => ⟨iy, o5, ?_⟩)⟩
      rw [hz.trans v11, hy.trans v13, show (i : Int) + 1 = ((i + 1 : Nat) : Int) by omega]
      exact ⟨i32s (by omega) (by omega), fun _ => ih (i + 1) M5 (by omega) (by omega) h5, fun q => absurd (by omega) q⟩
    | succ u ih2 =>
      intro j M5 j0 hj h5
      have o5 := h5.1
      have w5 := h5.2.1
      obtain ⟨l11, l13, l15⟩ := h5.2.2.2.1.2.2.1
      obtain ⟨v11, v13, -, -, -⟩ := h5.2.2.2.1.2.2.2.1 i iL
      obtain ⟨j1, j2, j3, j4, j5, j6⟩ := h5.2.2.2.1.2.2.2.2 j (by omega)
      have bj : ((0 : Int) ≤ (j : Int) ∧ (j : Int) < ((4096 : Nat) : Int)) := by omega
      refine k_MM_tellState_61 o5 ik ii (i32s (by omega) (by omega)) ⟨w5.1.1, ?_⟩
      rw [(R6 w5).2.2.2.1]
      refine ⟨(w5.nu k111).1, rd o5 w5 k111 (by rw [l11]; omega) (fun z hz iz => ⟨iz, o5, w5.1.1, ?_⟩)⟩
      rw [(R6 w5).2.2.2.2.1]
      refine ⟨(w5.nu k113).1, rd o5 w5 k113 (by rw [l13]; omega) (fun y hy iy => ⟨iy, o5, ?_⟩)⟩
      rw [hz.trans v11, hy.trans v13, (pr w5).1, (pr w5).2.1, (pr w5).2.2, (R6 w5).2.2.2.2.2.2, Int.toNat_natCast, j1, j2, j3]
      refine ⟨i32s (by omega) (by omega), fun q => absurd q (by omega), fun _ => ⟨w5.1.1, (ar w5).1.1, by rw [(ar w5).1.2]; exact bj, (ar w5).2.1.1, by rw [(ar w5).2.1.2]; exact bj, (ar w5).2.2.1, by rw [(ar w5).2.2.2]; exact bj, h5.2.2.2.2.1.1.1, (s_tl_branch o5 h5.2.2.2.2 (by omega) (by omega) j4 j5 j6).mono (fun M6 t6 => ⟨t6.1, ?_⟩)⟩⟩
      have h6 := h5.st t6.1 t6.2.1 t6.2.2
      rw [show (j : Int) + 1 = ((j + 1 : Nat) : Int) by omega]
      exact ih2 (j + 1) M6 (by omega) (by omega) h6
end TEL
end
section
/-! The reference: explore, its beginning and its end. -/
section EXP
variable {G : mG} {d a g T R W C Z n L w : Nat} {M M2 M' : mM} {E : Eg9} {tg : Int} {B F : Nat → Nat} {Nt9 : tP9}
/-- nothing is told -/
theorem tl_zero {s : Nat} {mu to up dn : Nat → Int} (h : Sv M s 0) (h2 : mI M s 2 = 0) (h3 : mI M s 3 = 0) (h5 : ∀ w, w < 3 → mI M (s + 30) w = 0) (h11 : 11 ≤ s) : TL M s F B mu to up dn 0 0 0 := by
  obtain ⟨V, g, c, e, t, Wk', Ct', R', H, hc⟩ := h
  exact ⟨⟨V, Wk', Ct', R', h5⟩, ⟨e, h2, h3⟩, ⟨fun j hj => absurd hj (by omega), g.2.2.2.2.1⟩, ⟨fun j hj => absurd hj (by omega), g.2.2.2.2.2.1⟩, fun j hj => absurd hj (by omega), fun j hj => absurd hj (by omega), fun j hj => absurd hj (by omega), h11, fun j hj => absurd hj (by omega)⟩
/-- a call that leaves what was explored -/
def FX (M : mM) (a : Nat) (M' : mM) : Prop := FR M a M' ∧ xeF M M' a ∧ mI M' a 12 = mI M a 12 ∧ mI M' (a + 117 + 30) 0 = mI M (a + 117 + 30) 0
/-- all but whether values are worked out -/
def FX0 (M : mM) (a : Nat) (M' : mM) : Prop := FR M a M' ∧ xeF M M' a ∧ mI M' a 12 = mI M a 12
theorem FX0.fx (h : FX0 M a M') (k : mI M' (a + 117 + 30) 0 = mI M (a + 117 + 30) 0) : FX M a M' := ⟨h.1, h.2.1, h.2.2, k⟩
theorem FX.trans {M2 : mM} (h : FX M a M') (k : FX M' a M2) : FX M a M2 := ⟨h.1.trans k.1, h.2.1.trans k.2.1, k.2.2.1.trans h.2.2.1, k.2.2.2.trans h.2.2.2⟩
theorem RI0.step {j : Nat} {v : Int} (h : RI0 Nt9 M a) (hv : i32 v) (hj : j ≠ 11 ∧ j ≠ 29 ∧ j ≠ 48) (e : M' = mUI M a j v) (h0 : j < 12 := by decide) : RI0 Nt9 M' a ∧ FX M a M' ∧ (∀ i, mI M' a i = if i = j then v else mI M a i) := by
  obtain ⟨hO, w, ht, hx⟩ := h
  have hg := w.g9
  have p0 : pk M a (mR M a 9) M := ⟨hO, w, ra_mv (P := fun _ => False) (S := fun _ => False) w hg (Mv.refl hO w (fun _ z => z.elim)) (fun _ z => z.elim) (fun _ z => z.elim) (fun _ z => z.elim) ⟨rfl, rfl, rfl, rfl, rfl⟩, FR.mv (P := fun _ => False) (S := fun _ => False) (Mv.refl hO w (fun _ z => z.elim)) (fun _ z => z.elim) (fun _ z => z.elim)⟩
  obtain ⟨p2, f2, r2, s2⟩ := p0.fld hg hv ⟨hj.1, hj.2.1, hj.2.2, by omega, by omega⟩ e
  have tp := w.tape
  refine ⟨⟨p2.1, p2.2.1, ⟨by rw [r2]; exact ht.1.sm (s2 _ tp.1), by rw [r2, (s2 _ tp.2.1).1]; exact ht.2⟩, ?_⟩, ⟨p2.2.2.2, p2.2.2.1.2.2.2.2.2.2.2, by rw [f2, if_neg (by omega)], by rw [(p2.2.2.1.2.1 (a + 117 + 30) (by omega) (by omega)).2.2.2]⟩, f2⟩
  rw [r2]
  exact hx.ra p2.2.2.1
/-- the tables, as the solver will be told them -/
theorem XD.tt (h : XD M a g n W L w L B) (hw : B L = w) (hF : F 0 = 0 ∧ F n = L ∧ ∀ k, k < n → F k ≤ F (k + 1) ∧ mI M (a + 107) k = (F k : Int) ∧ mI M (a + 108) k = ((F (k + 1) - F k : Nat) : Int)) : TT M a n L w F B (nt M (a + 115)) (mI M (a + 21185)) (mL M (a + 21186)) (mL M (a + 21187)) := by
  have hL := h.le
  have mB := h.mono
  have mF : ∀ k, k ≤ n → F k ≤ L := fun k hk => by
    have : ∀ j, j ≤ n - k → F k ≤ F (k + j) := fun j => by
      induction j with
      | zero => intro _; exact Nat.le_refl _
      | succ j ih =>
        intro hj
        have a1 := ih (by omega)
        have a2 := (hF.2.2 (k + j) (by omega)).1
        have e : k + (j + 1) = k + j + 1 := by omega
        rw [e]
        omega
    have := this (n - k) (Nat.le_refl _)
    rw [show k + (n - k) = n by omega, hF.2.1] at this
    exact this
  obtain ⟨d1, d2, d3, d4, ⟨l1, l2, l3, l4⟩, d6, d7⟩ := h
  refine ⟨⟨d1.2.2, hL, d2.2⟩, ⟨hF.2.1, fun k hk => ⟨(hF.2.2 k hk).2.1, (hF.2.2 k hk).2.2, (hF.2.2 k hk).1, mF (k + 1) (by omega)⟩⟩, ⟨l2, l3, l4⟩, fun i hi => ?_, fun j hj => ?_⟩
  · obtain ⟨o1, o2, o3, o4, o5⟩ := d7 i hi
    have := mB (i + 1) L (by omega) (Nat.le_refl _)
    exact ⟨o2.1, o2.2, by omega, by omega, rfl⟩
  · obtain ⟨y1, y2, y3⟩ := d4 j hj
    exact ⟨rfl, rfl, rfl, ⟨by omega, by omega⟩, ⟨by omega, by omega⟩, ⟨by omega, by omega⟩⟩
/-- all states are told -/
theorem exp_sv {mu to up dn : Nat → Int} (h : XD M a g n W L w L B) (hw : B L = w) (hF : F 0 = 0 ∧ F n = L ∧ ∀ k, k < n → F k ≤ F (k + 1) ∧ mI M (a + 107) k = (F k : Int) ∧ mI M (a + 108) k = ((F (k + 1) - F k : Nat) : Int)) (e1 : mu = nt M (a + 115)) (e2 : to = mI M (a + 21185)) (e3 : up = mL M (a + 21186)) (e4 : dn = mL M (a + 21187)) (t : TL M2 (a + 117) F B mu to up dn n L w) : Sv M2 (a + 117) n ∧ ∀ k, k < n → mny M2 (a + 117) k = ((F (k + 1) - F k : Nat) : Int) := by
  subst e1 e2 e3 e4
  have hL := h.le
  have mB := h.mono
  obtain ⟨d1, d2, d3, d4, ⟨l1, l2, l3, l4⟩, d6, d7⟩ := id h
  refine t.sv d1.2.2 (by omega) d2.2 ⟨hF.1, hF.2.1, fun k hk => (hF.2.2 k hk).1⟩ ⟨d6.1, hw, fun k hk => (d7 k hk).1⟩ (fun j hj => (d4 j hj).1) (fun k hk => (d7 k hk).2.2.1) (fun j hj => ⟨(d4 j hj).2.1.1, (d4 j hj).2.2.1⟩) (fun k hk j j0 j1 => (d7 k hk).2.2.2.1 j j0 j1) (fun k hk => (d7 k hk).2.2.2.2)
/-- the states after the loop -/
def pI (M : mM) (a g T R W C Z : Nat) (E : Eg9) (tg : Int) (k : Nat) (M2 : mM) : Prop := xF M a M2 ∧ GG M2 a g T R W C Z E tg ∧ (mI M2 a 16 = 0 → ∃ (n L w : Nat) (B F : Nat → Nat), XD M2 a g n W L w L B ∧ B L = w ∧ k ≤ n ∧ (F 0 = 0 ∧ F k = L ∧ ∀ k', k' < k → F k' ≤ F (k' + 1) ∧ mI M2 (a + 107) k' = (F k' : Int) ∧ mI M2 (a + 108) k' = ((F (k' + 1) - F k' : Nat) : Int)))
theorem pI.next {k : Nat} {M3 : mM} (x : xF M a M2) (h : sI M2 a g T R W C Z E tg n L k B M3) (xd : XD M2 a g n W L w L B) (hw : B L = w) (hk : k < n) (hF : F 0 = 0 ∧ F k = L ∧ ∀ k', k' < k → F k' ≤ F (k' + 1) ∧ mI M2 (a + 107) k' = (F k' : Int) ∧ mI M2 (a + 108) k' = ((F (k' + 1) - F k' : Nat) : Int)) : pI M a g T R W C Z E tg (k + 1) M3 := by
  obtain ⟨x3, gg3, en3, hh⟩ := h
  refine ⟨x.trans x3, gg3, fun z => ?_⟩
  obtain ⟨⟨t1, t2⟩, n2, L2, w2, B2, y1, y2, y3, y4, y5, y6⟩ := hh z
  obtain ⟨F', hF'⟩ : ∃ F' : Nat → Nat, ∀ i, F' i = if i ≤ k then F i else L2 := ⟨fun i => if i ≤ k then F i else L2, fun _ => rfl⟩
  have fl : ∀ i, i ≤ k → F' i = F i := fun i hi => by rw [hF', if_pos hi]
  have fk : F' (k + 1) = L2 := by rw [hF', if_neg (by omega)]
  refine ⟨n2, L2, w2, B2, F', y6, y5, by omega, by rw [fl 0 (by omega)]; exact hF.1, fk, fun k' hk' => ?_⟩
  by_cases e : k' = k
  · subst e
    rw [fk, fl k' (Nat.le_refl _), hF.2.1]
    exact ⟨y2, t1, y3⟩
  · rw [fl k' (by omega), fl (k' + 1) (by omega), (t2 k' e).1, (t2 k' e).2]
    exact hF.2.2 k' (by omega)
end EXP
end
section
/-! The reference: explore, its loops. -/
section EXP2
variable {G : mG} {d a g T R W C Z : Nat} {M M1 M2 M3 : mM} {E : Eg9} {tg : Int} {Nt9 : tP9}
theorem ag_mv {P S : Nat → Prop} (w : Wd M2 a) (m : Mv P S M2 a M3) (hin : ∀ q, P q → q ∈ nums a) (hS : ∀ x, S x → x < a + 117 ∨ a + 21184 < x) : Ag M2 M3 (a + 117) (a + 117 + 21067) := fun x x1 x2 => by
  have hz := w.2.2.2
  have f := m.2.2.2.1
  have np : ¬ P x := fun z => by have := nums_in (hin x z); omega
  refine ⟨(f.2.1 x (by omega)).1, (f.2.1 x (by omega)).2, f.2.2.1 x (by omega) np, (f.2.2.2.1 x (by omega) np (fun q hq z => ?_) (fun z => by have := hS x z; omega)).1⟩
  rcases (w.arr (hin q hq)).2 with y | y
  · have := nums_in (hin q hq); omega
  · omega
/-- explore's start: the solver is empty -/
def bE (Nt9 : tP9) (M : mM) (a g T R W C Z : Nat) (E : Eg9) (tg : Int) (M1 : mM) : Prop := FR M a M1 ∧ GG M1 a g T R W C Z E tg ∧ (Tpl Nt9 M1 (mR M1 a 1) ∧ ln M1 (mR M1 a 2) ≤ 16384) ∧ (0 ≤ mI M1 a 48 ∧ mI M1 a 48 ≤ 900 ∧ mI M1 a 11 = Nt9.2.2.1) ∧ (mI M1 a 11 ≠ 0 ∧ ((W : Int) = Nt9.2.2.2.1 ∧ (R : Int) = Nt9.2.2.2.2.1 ∧ (C : Int) = Nt9.2.2.2.2.2.1 ∧ GaO E.2 ∧ Nt9.2.2.2.2.2.2.1 = XpG E.2)) ∧ Sv M1 (a + 117) 0 ∧ mI M1 (a + 117) 2 = 0 ∧ mI M1 (a + 117) 3 = 0 ∧ ∀ v, v < 3 → mI M1 (a + 117 + 30) v = 0
theorem bE.st {P S : Nat → Prop} (h : bE Nt9 M a g T R W C Z E tg M1) (m : Mv P S M1 a M2) (hP : ∀ q, P q → xP a q) (hS : ∀ x, S x → xS a x) (hf : ∀ i, i ≠ 0 → i ≠ 12 → i ≠ 16 → i ≠ 17 → i ≠ 23 → i ≠ 29 → i ≠ 30 → i ≠ 40 → mI M2 a i = mI M1 a i) : bE Nt9 M a g T R W C Z E tg M2 := by
  obtain ⟨h1, h2, h3, h4, h5, h6, h7, h8, h9⟩ := h
  have w1 := h2.2.1
  have hg := h2.2.2.1.2
  have hin : ∀ q, P q → q ∈ nums a := fun q hq => xP_in (hP q hq)
  have unS : ∀ x, S x → x = a ∨ (a + 97 ≤ x ∧ x ≤ a + 108) ∨ (a + 21185 ≤ x ∧ x ≤ a + 21190) := fun x hx => hS x hx
  have unP : ∀ q, P q → q = a + 99 ∨ q = a + 109 ∨ q = a + 111 ∨ q = a + 113 ∨ q = a + 115 := fun q hq => hP q hq
  have ag := ag_mv w1 m hin (fun x hx => by have := unS x hx; omega)
  have R' := m.rfl_a w1 hin
  have tp := w1.tape
  have s13 := w1.1.2.1
  have gs := gs_st w1 hg m hin (fun q hq z => by
    have z' : q = g + 1 ∨ q = g + 3 ∨ q = g + 5 ∨ q = g + 7 ∨ q = g + 9 ∨ q = g + 11 ∨ q = g + 30 ∨ q = g + 32 ∨ q = g + 34 := z
    have := unP q hq
    omega) (fun x hx => by have := unS x hx; omega)
  refine ⟨h1.trans (FR.mv m hin (fun x hx => by have := unS x hx; omega)), h2.gs m.1 m.2.1 (by rw [R']) gs, ⟨by rw [R']; exact h3.1.sm (m.lst tp.1 (fun z => by have := unP _ z; omega)), by rw [R', (m.lst tp.2.1 (fun z => by have := unP _ z; omega)).1]; exact h3.2⟩, by rw [hf 48 (by decide) (by decide) (by decide) (by decide) (by decide) (by decide) (by decide) (by decide), hf 11 (by decide) (by decide) (by decide) (by decide) (by decide) (by decide) (by decide) (by decide)]; exact h4, by rw [hf 11 (by decide) (by decide) (by decide) (by decide) (by decide) (by decide) (by decide) (by decide)]; exact h5, h6.ag ag, ?_, ?_, fun v hv => ?_⟩
  · rw [(ag (a + 117) (by omega) (by omega)).2.2.2]; exact h7
  · rw [(ag (a + 117) (by omega) (by omega)).2.2.2]; exact h8
  · rw [(ag (a + 117 + 30) (by omega) (by omega)).2.2.2]; exact h9 v hv
theorem GG.gd {i9 : tI9} (h : GG M2 a g T R W C Z E tg) (e : (W : Int) = i9.2.1 ∧ (R : Int) = i9.2.2.1 ∧ (C : Int) = i9.2.2.2.1 ∧ GaO E.2 ∧ i9.2.2.2.2.1 = XpG E.2) : Gd i9 M2 g := ⟨T, R, W, C, Z, E, tg, h.2.2.2.1, h.2.2.2.2.1, h.2.2.2.2.2.1, h.2.2.2.2.2.2.1, h.2.2.2.2.2.2.2.1, h.2.2.2.2.2.2.2.2, h.2.2.2.2.2.1.2.1.trans e.1, h.2.2.2.2.2.1.1.trans e.2.1, h.2.2.2.2.2.1.2.2.1.trans e.2.2.1, e.2.2.2⟩
/-- no states -/
theorem bE.ri0 (h : bE Nt9 M a g T R W C Z E tg M1) (z : mI M1 a 29 = 0) : RI0 Nt9 M1 a ∧ FR M a M1 := by
  obtain ⟨h1, h2, h3, h4, h5, h6, h7, h8, h9⟩ := h
  refine ⟨⟨h2.1, h2.2.1, h3, ?_⟩, h1⟩
  rw [h2.2.2.1.1]
  exact ⟨by rw [z]; decide, by rw [z]; exact h6, fun _ => h2.gd h5.2, fun q => by rw [z] at q; exact absurd q (by decide), h4⟩
end EXP2
end
section
/-! The reference: explore. -/
section EXP3
variable {G : mG} {d a g T R W C Z : Nat} {M M1 : mM} {E : Eg9} {tg : Int} {Nt9 : tP9}
end EXP3
end
section
/-! The class's game: places, the program it explores, runs of its machine. -/
section GAA
variable {G : mG} {d z g p O P K V F L cnt U w9 Ab Be C Ab0 Be0 C0 s h t c : Nat} {M0 M M' M1 M2 : mM} {ns : Nat → Int} {sf ef : Nat → Nat} {H : Nat → Nat} {S R : Nat → Prop}
/-- the game's places -/
def GK (M : mM) (g : Nat) : Prop := mK M g = 7 ∧ (mR M g 1 = g + 1 ∧ mR M g 2 = g + 2 ∧ mR M g 3 = g + 3 ∧ mR M g 4 = g + 4 ∧ mR M g 5 = g + 5 ∧ mR M g 6 = g + 6 ∧ mR M g 7 = g + 7 ∧ mR M g 8 = g + 8 ∧ mR M g 9 = g + 9 ∧ mR M g 15 = g + 10 ∧ mR M g 16 = g + 20 ∧ mR M g 17 = g + 21 ∧ mR M g 18 = g + 22) ∧ (mK M (g + 1) = 30 ∧ mK M (g + 2) = 30 ∧ mK M (g + 3) = 30 ∧ mK M (g + 4) = 30 ∧ mK M (g + 5) = 30 ∧ mK M (g + 6) = 30 ∧ mK M (g + 7) = 30 ∧ mK M (g + 8) = 30 ∧ mK M (g + 9) = 30 ∧ mK M (g + 20) = 30 ∧ mK M (g + 21) = 30 ∧ mK M (g + 22) = 30) ∧ (mN M (g + 1) = 6144 ∧ mN M (g + 2) = 512 ∧ mN M (g + 3) = 512 ∧ mN M (g + 4) = 513 ∧ mN M (g + 5) = 4097 ∧ mN M (g + 6) = 4097 ∧ mN M (g + 7) = 4098 ∧ mN M (g + 8) = 4096 ∧ mN M (g + 9) = 4096 ∧ mN M (g + 20) = 1024 ∧ mN M (g + 21) = 8 ∧ mN M (g + 22) = 8)
theorem GK.eq2 (hk : GK M g) (v : ∀ i, i ≤ 22 → mK M' (g + i) = mK M (g + i) ∧ mN M' (g + i) = mN M (g + i)) (hr : ∀ i, i ≠ 14 → mR M' g i = mR M g i) : GK M' g := by
  unfold GK at hk ⊢
  have v0 := v 0 (by omega)
  rw [Nat.add_zero] at v0
  rw [v0.1, hr 1 (by omega), hr 2 (by omega), hr 3 (by omega), hr 4 (by omega), hr 5 (by omega), hr 6 (by omega), hr 7 (by omega), hr 8 (by omega), hr 9 (by omega), hr 15 (by omega), hr 16 (by omega), hr 17 (by omega), hr 18 (by omega), (v 1 (by omega)).1, (v 2 (by omega)).1, (v 3 (by omega)).1, (v 4 (by omega)).1, (v 5 (by omega)).1, (v 6 (by omega)).1, (v 7 (by omega)).1, (v 8 (by omega)).1, (v 9 (by omega)).1, (v 20 (by omega)).1, (v 21 (by omega)).1, (v 22 (by omega)).1, (v 1 (by omega)).2, (v 2 (by omega)).2, (v 3 (by omega)).2, (v 4 (by omega)).2, (v 5 (by omega)).2, (v 6 (by omega)).2, (v 7 (by omega)).2, (v 8 (by omega)).2, (v 9 (by omega)).2, (v 20 (by omega)).2, (v 21 (by omega)).2, (v 22 (by omega)).2]
  exact hk
/-- a program that may be explored -/
def PW (M : mM) (z p O P K V F : Nat) (ns : Nat → Int) (sf ef : Nat → Nat) (L cnt : Nat) : Prop := PK M z p O P K ∧ (mI M p 2 = ((L : Nat) : Int) ∧ L ≤ K ∧ L ≤ 16384) ∧ (mI M p 3 = ((V : Nat) : Int) ∧ V ≤ 12) ∧ F ≤ 60 ∧ (mI M p 12 = ((cnt : Nat) : Int) ∧ cnt ≤ 60) ∧ mI M p 11 ≠ -1 ∧ ∃ u : Nat, mI M (p + 12) cnt = ((u : Nat) : Int) ∧ PG M p O P V F ns sf ef L cnt u
theorem PW.fa (h : PW M z p O P K V F ns sf ef L cnt) (f : FA S R M M') (hp : ¬ R p) (hs : ∀ i, i ≤ 15 → ¬ S (p + i)) (hO : ¬ S O) (hP : ¬ S P) : PW M' z p O P K V F ns sf ef L cnt := by
  obtain ⟨h1, h2, h3, h4, h5, h6, u, h7, h8⟩ := h
  obtain ⟨-, -, -, ⟨o1, o2, o3, o4⟩, ⟨pz0, pz1, pz2⟩, -⟩ := id h1
  have e : ∀ i, i ≤ 15 → mI M' (p + i) = mI M (p + i) := fun i hi => (f.2 (p + i) (by omega)).2.2.2.2 (hs i hi)
  have eO : mI M' O = mI M O := (f.2 O pz1).2.2.2.2 hO
  have eP : mI M' P = mI M P := (f.2 P pz2).2.2.2.2 hP
  have e0 := e 0 (by omega)
  rw [Nat.add_zero] at e0
  exact ⟨h1.fa f hp, by rw [e0]; exact h2, by rw [e0]; exact h3, h4, by rw [e0]; exact h5, by rw [e0]; exact h6, u, by rw [e 12 (by omega)]; exact h7, h8.cg (by rw [e0]) (fun i _ _ => e i (by omega)) (fun b _ => ⟨by rw [e 14 (by omega)], by rw [e 15 (by omega)]⟩) (fun i _ => ⟨by rw [eO], by rw [eP]⟩)⟩
/-- what exploring may change -/
def gaS (g Ab Be : Nat) : Nat → Prop := fun x => (g ≤ x ∧ x ≤ g + 22) ∨ x = Ab ∨ x = Be
def gaR (g : Nat) : Nat → Prop := fun x => x = g ∨ x = g + 10
def gaF (M0 : mM) (g Ab0 Be0 C0 : Nat) (M : mM) (Ab Be C : Nat) : Prop := FA (gaS g Ab0 Be0) (gaR g) M0 M ∧ ((Ab = Ab0 ∨ mZ M0 ≤ Ab) ∧ (Be = Be0 ∨ mZ M0 ≤ Be)) ∧ (mS M + 4 * C0 = mS M0 + 4 * C ∧ 32 * mZ M + C0 ≤ 32 * mZ M0 + C)
theorem gaF.refl : gaF M g Ab Be C M Ab Be C := ⟨FA.refl, ⟨Or.inl rfl, Or.inl rfl⟩, rfl, Nat.le_refl _⟩
theorem gaF.trans {Ab1 Be1 C1 : Nat} (f : gaF M0 g Ab0 Be0 C0 M Ab Be C) (k : gaF M g Ab Be C M1 Ab1 Be1 C1) : gaF M0 g Ab0 Be0 C0 M1 Ab1 Be1 C1 := by
  obtain ⟨f1, ⟨f2, f3⟩, f4, f5⟩ := f
  obtain ⟨g1, ⟨g2, g3⟩, g4, g5⟩ := k
  have zz := f1.1.1
  refine ⟨f1.trans2 g1 (fun x hx y => ?_) (fun _ _ y => y), ⟨by omega, by omega⟩, by omega, by omega⟩
  have y' : (g ≤ x ∧ x ≤ g + 22) ∨ x = Ab ∨ x = Be := y
  show (g ≤ x ∧ x ≤ g + 22) ∨ x = Ab0 ∨ x = Be0
  omega
/-- the game while it explores: all but the counts -/
def GY (U w9 : Nat) (M0 : mM) (z g p O P K V F : Nat) (ns : Nat → Int) (sf ef : Nat → Nat) (L cnt Ab0 Be0 C0 : Nat) (M : mM) (Ab Be C : Nat) : Prop := mOk M ∧ GK M g ∧ MK M z (g + 10) U Ab Be C ∧ PW M z p O P K V F ns sf ef L cnt ∧ (mR M g 14 = p ∧ mR M (g + 10) 0 = p) ∧ (g + 23 ≤ z ∧ (g + 22 < p ∨ p + 15 < g) ∧ (O ≠ Ab ∧ O ≠ Be ∧ P ≠ Ab ∧ P ≠ Be)) ∧ MT M (g + 10) (fun x => x < 60 ∧ w9 = 1) ∧ gaF M0 g Ab0 Be0 C0 M Ab Be C ∧ (∀ x, x < 60 → mI M (g + 15) x ≤ mI M (g + 10) 9) ∧ (∀ i, i ≤ 15 → mI M (p + i) = mI M0 (p + i))
/-- exploring, after the first state has been entered -/
abbrev GX (M0 : mM) (z g p O P K V F : Nat) (ns : Nat → Int) (sf ef : Nat → Nat) (L cnt Ab0 Be0 C0 : Nat) (M : mM) (Ab Be C : Nat) : Prop := GY (g + 1) 1 M0 z g p O P K V F ns sf ef L cnt Ab0 Be0 C0 M Ab Be C
theorem ga_ne {g p O P Ab Be z : Nat} (h1 : g + 23 ≤ z) (h2 : g + 22 < p ∨ p + 15 < g) (h3 : O ≠ Ab ∧ O ≠ Be ∧ P ≠ Ab ∧ P ≠ Be) (o1 : O = p + 1 ∨ z ≤ O) (o2 : P = p + 2 ∨ z ≤ P) (o4 : p + 16 ≤ z) (a1 : Ab = g + 10 + 3 ∨ z ≤ Ab) (a2 : Be = g + 10 + 4 ∨ z ≤ Be) : (∀ i, i ≤ 15 → ¬ gaS g Ab Be (p + i)) ∧ ¬ gaS g Ab Be O ∧ ¬ gaS g Ab Be P ∧ ¬ gaR g p := by
  refine ⟨fun i hi y => ?_, fun y => ?_, fun y => ?_, fun y => ?_⟩
  · have y' : (g ≤ p + i ∧ p + i ≤ g + 22) ∨ p + i = Ab ∨ p + i = Be := y
    omega
  · have y' : (g ≤ O ∧ O ≤ g + 22) ∨ O = Ab ∨ O = Be := y
    omega
  · have y' : (g ≤ P ∧ P ≤ g + 22) ∨ P = Ab ∨ P = Be := y
    omega
  · have y' : p = g ∨ p = g + 10 := y
    omega
theorem GY.ne (h : GY U w9 M0 z g p O P K V F ns sf ef L cnt Ab0 Be0 C0 M Ab Be C) : (∀ i, i ≤ 15 → ¬ gaS g Ab Be (p + i)) ∧ ¬ gaS g Ab Be O ∧ ¬ gaS g Ab Be P ∧ ¬ gaR g p := by
  obtain ⟨-, -, hk, hp, -, ⟨h1, h2, h3⟩, -⟩ := h
  obtain ⟨o1, o2, -, o4⟩ := hp.1.2.2.2.1
  obtain ⟨a1, a2, -, -⟩ := hk.2.2.2.2.2.1
  exact ga_ne h1 h2 h3 o1 o2 o4 a1 a2
/-- ints of the game's own tables change (not the machine's) -/
theorem GY.fi (h : GY U w9 M0 z g p O P K V F ns sf ef L cnt Ab0 Be0 C0 M Ab Be C) (ok : mOk M') (f : FI (fun x => (g ≤ x ∧ x ≤ g + 9) ∨ x = g + 12 ∨ (g + 20 ≤ x ∧ x ≤ g + 22)) M M') : GY U w9 M0 z g p O P K V F ns sf ef L cnt Ab0 Be0 C0 M' Ab Be C := by
  have ne := h.ne
  obtain ⟨-, h2, h3, h4, h5, h6, h7, h8, h9, h10⟩ := h
  have f9 : FI (gaS g Ab Be) M M' := f.mono (fun x y => Or.inl (by
    have y' : (g ≤ x ∧ x ≤ g + 9) ∨ x = g + 12 ∨ (g + 20 ≤ x ∧ x ≤ g + 22) := y
    omega))
  have em : ∀ i, i = 0 ∨ (3 ≤ i ∧ i ≤ 9) → mI M' (g + 10 + i) = mI M (g + 10 + i) := fun i hi => f.2.2.2.2.2.2 _ (fun y => by
    have y' : (g ≤ g + 10 + i ∧ g + 10 + i ≤ g + 9) ∨ g + 10 + i = g + 12 ∨ (g + 20 ≤ g + 10 + i ∧ g + 10 + i ≤ g + 22) := y
    omega)
  have e0 := em 0 (Or.inl rfl)
  rw [Nat.add_zero] at e0
  refine ⟨ok, h2.eq2 (fun i _ => ⟨by rw [f.1], by rw [f.2.1]⟩) (fun i _ => by rw [f.2.2.1]), h3.fi f (by rw [e0]), h4.fa (FI.fa (R := fun _ => False) f9) (fun y => y) ne.1 ne.2.1 ne.2.2.1, by rw [f.2.2.1]; exact h5, h6, fun x hx => ?_, h8.trans ⟨(FI.fa f9).mono (fun _ _ y => y) (fun _ _ y => y), ⟨Or.inl rfl, Or.inl rfl⟩, by rw [f.2.2.2.2.2.1], by rw [f.2.2.2.2.1]; exact Nat.le_refl _⟩, fun x hx => by
    rw [show g + 15 = g + 10 + 5 by omega, em 5 (by omega), e0]
    exact h9 x hx, fun i hi => by rw [f9.2.2.2.2.2.2 _ (ne.1 i hi)]; exact h10 i hi⟩
  rw [em 5 (by omega), em 7 (by omega), e0]
  exact h7 x hx
end GAA
end
section
/-! The class's game: small steps, and a state that is entered. -/
section GAB
variable {G : mG} {d z g p O P K V F L cnt U w9 Ab Be C Ab0 Be0 C0 s h t c cn k : Nat} {M0 M M' M1 M2 : mM} {ns : Nat → Int} {sf ef : Nat → Nat} {H : Nat → Nat} {S R : Nat → Prop}
theorem s_JA_fill {a : Nat} {v : Int} (hO : mOk M) (hK : mK M a = 30) (hN : mN M a ≤ 100000) (hv : i32 v) : Cv G y_JA_fill d [vr a, vi v] M (fun M' => mOk M' ∧ FI (fun x => x = a) M M' ∧ ∀ i, i < mN M a → mI M' a i = v) := by
  refine k_JA_fill hO hv ⟨hK, ?_⟩
  suffices HH : ∀ (t i : Nat) (M1 : mM), mN M a ≤ i + t → i ≤ mN M a → mOk M1 → FI (fun x => x = a) M M1 → (∀ j, j < i → mI M1 a j = v) → h_JA_fill_5 G d a v i (mN M a : Int) M1 (fun M' => mOk M' ∧ FI (fun x => x = a) M M' ∧ ∀ i, i < mN M a → mI M' a i = v) from HH (mN M a) 0 M (by omega) (by omega) hO FI.refl (fun j hj => absurd hj (by omega))
  intro t
  induction t with
  | zero =>
    intro i M1 h1 h2 o f hj
    exact k_JA_fill_5 o hv ⟨by omega, by omega⟩ ⟨by omega, by omega⟩ ⟨fun _ => ⟨o, f, fun j hj' => hj j (by omega)⟩, fun y => absurd y (by omega)⟩
  | succ t ih =>
    intro i M1 h1 h2 o f hj
    refine k_JA_fill_5 o hv ⟨by omega, by omega⟩ ⟨by omega, by omega⟩ ⟨fun y => ⟨o, f, fun j hj' => hj j (by omega)⟩, fun y => ?_⟩
    rw [f.1, f.2.1, Int.toNat_natCast]
    refine ⟨hK, by omega, fun M8 e8 => ?_⟩
    rw [show ((i : Int) + 1) = ((i + 1 : Nat) : Int) by omega]
    refine ih (i + 1) M8 (by omega) (by omega) (by rw [e8]; exact mOk_UI o hv) (f.trans (by rw [e8]; exact FI.ui rfl)) (fun j hj' => ?_)
    rw [mI_ui a j e8]
    by_cases y : j = i
    · rw [if_pos ⟨rfl, y⟩]
    · rw [if_neg (fun u => y u.2)]
      exact hj j (by omega)
theorem s_Ga_clear (hO : mOk M) (hk : mK M g = 7) : Cv G y_Ga_clear d [vr g] M (fun M' => mOk M' ∧ FI (fun x => x = g) M M' ∧ (∀ i, mI M' g i = if i = 13 then 0 else if i = 12 then 0 else if i = 0 then 0 else mI M g i)) := by
  refine k_Ga_clear hO ⟨hk, fun M2 e2 M4 e4 M6 e6 => ?_⟩
  have f2 : FI (fun x => x = g) M M2 := by rw [e2]; exact FI.ui rfl
  have f4 : FI (fun x => x = g) M2 M4 := by rw [e4]; exact FI.ui rfl
  have f6 : FI (fun x => x = g) M4 M6 := by rw [e6]; exact FI.ui rfl
  refine ⟨by rw [e6]; exact mOk_UI (by rw [e4]; exact mOk_UI (by rw [e2]; exact mOk_UI hO ⟨by decide, by decide⟩) ⟨by decide, by decide⟩) ⟨by decide, by decide⟩, (f2.trans f4).trans f6, fun i => ?_⟩
  rw [mI_ui g i e6, mI_ui g i e4, mI_ui g i e2]
  by_cases y13 : i = 13
  · rw [if_pos ⟨rfl, y13⟩, if_pos y13]
  · rw [if_neg (fun u => y13 u.2), if_neg y13]
    by_cases y12 : i = 12
    · rw [if_pos ⟨rfl, y12⟩, if_pos y12]
    · rw [if_neg (fun u => y12 u.2), if_neg y12]
      by_cases y0 : i = 0
      · rw [if_pos ⟨rfl, y0⟩, if_pos y0]
      · rw [if_neg (fun u => y0 u.2), if_neg y0]
/-- a place is told: nothing else of the game changes -/
def plQ (M : mM) (g : Nat) (M' : mM) : Prop := mOk M' ∧ FI (fun x => x = g) M M' ∧ ∀ i, i ≠ 10 → mI M' g i = mI M g i
/-- slots tell states -/
def SLt (M : mM) (g cn : Nat) : Prop := ∀ i, i < 1024 → mI M (g + 20) i = -1 ∨ (0 ≤ mI M (g + 20) i ∧ mI M (g + 20) i < cn)
/-- what enter comes to -/
def enG (U w9 : Nat) (M0 : mM) (z g p O P K V F : Nat) (ns : Nat → Int) (sf ef : Nat → Nat) (L cnt Ab0 Be0 C0 : Nat) (M : mM) (Ab Be C cn : Nat) (r : Int) (M' : mM)   : Prop := GY U w9 M0 z g p O P K V F ns sf ef L cnt Ab0 Be0 C0 M' Ab Be C ∧ FI (fun x => x = g ∨ x = g + 1 ∨ x = g + 20) M M' ∧ (∀ i, i ≠ 0 → mI M' g i = mI M g i) ∧ ∃ cn' : Nat, mI M' g 0 = ((cn' : Nat) : Int) ∧ cn ≤ cn' ∧ cn' ≤ 512 ∧ SLt M' g cn' ∧ (r = -1 ∨ (0 ≤ r ∧ r < cn')) ∧ i32 r ∧ (r = -1 → cn = 512)
end GAB
end
section
/-! The class's game: a command's chances are weighed. -/
section GAC
variable {G : mG} {d z g p O P K V F L cnt U Ab Be C Ab0 Be0 C0 s h t c cn k u v cc : Nat} {M0 M M' M1 M2 : mM} {ns : Nat → Int} {sf ef : Nat → Nat} {H : Nat → Nat} {S R : Nat → Prop}
/-- what chances sum up to, times mu -/
def shS (M : mM) (g : Nat) (mu : Int) : Nat → Int
  | 0 => 0
  | b + 1 => shS M g mu b + Int.tdiv mu (mI M (g + 22) b) * mI M (g + 21) b
/-- chances of n branches -/
def chz (M : mM) (g n : Nat) : Prop := ∀ b, b < n → 0 ≤ mI M (g + 21) b ∧ mI M (g + 21) b ≤ mI M (g + 22) b ∧ 1 ≤ mI M (g + 22) b ∧ mI M (g + 22) b < 1000000000
/-- what stays when chances are weighed -/
def wgF (M : mM) (g : Nat) (M' : mM) : Prop := (∀ i, i ≠ 10 → mI M' g i = mI M g i) ∧ (∀ i, 1 ≤ i → i ≤ 9 → i ≠ 6 → mI M' (g + i) = mI M (g + i)) ∧ mI M' (g + 20) = mI M (g + 20) ∧ (∀ i, i ≠ (mI M g 12).toNat → mI M' (g + 6) i = mI M (g + 6) i) ∧ mI M' (g + 10) 9 = mI M (g + 10) 9
theorem wgF.refl : wgF M g M := ⟨fun _ _ => rfl, fun _ _ _ _ => rfl, rfl, fun _ _ => rfl, rfl⟩
theorem wgF.trans (f : wgF M g M1) (k : wgF M1 g M2) : wgF M g M2 := by
  obtain ⟨f1, f2, f3, f4, f5⟩ := f
  obtain ⟨g1, g2, g3, g4, g5⟩ := k
  exact ⟨fun i hi => by rw [g1 i hi, f1 i hi], fun i a b c => by rw [g2 i a b c, f2 i a b c], by rw [g3, f3], fun i hi => by rw [g4 i (by rw [f1 12 (by decide)]; exact hi), f4 i hi], by rw [g5, f5]⟩
theorem PG.fbm {Bn : Nat} (hg : PG M p O P V F ns sf ef L cnt Bn) : ∀ (t j : Nat), j + t = cnt → ∃ x y : Nat, mI M (p + 12) j = ((x : Nat) : Int) ∧ mI M (p + 12) cnt = ((y : Nat) : Int) ∧ x ≤ y ∧ y ≤ Bn ∧ y ≤ 8 * cnt
  | 0, j, hj => by
    obtain ⟨y, e1, e2, e3⟩ := hg.2.2.2.2.2.1
    have : j = cnt := by omega
    subst this
    exact ⟨y, y, e1, e1, Nat.le_refl _, e2, e3⟩
  | t + 1, j, hj => by
    obtain ⟨x, y, e1, e2, e3, e4, e5⟩ := PG.fbm hg t (j + 1) (by omega)
    obtain ⟨a, b, f1, f2, f3, f4⟩ := hg.2.2.2.2.1 j (by omega)
    rw [e1] at f2
    exact ⟨a, y, f1, e2, by omega, e4, e5⟩
/-- a command of the program -/
theorem PW.cmd (hp : PW M z p O P K V F ns sf ef L cnt) (hc : c < cnt) : ∃ u v : Nat, mI M (p + 12) c = ((u : Nat) : Int) ∧ mI M (p + 12) (c + 1) = ((v : Nat) : Int) ∧ u ≤ v ∧ v ≤ u + 8 ∧ v ≤ 480 ∧ (∀ b, b < v → ∃ s1 s2 : Nat, mI M (p + 14) b = ((s1 : Nat) : Int) ∧ PC M O P V F ns ef L s1 1 ∧ mI M (p + 15) b = ((s2 : Nat) : Int) ∧ PC M O P V F ns ef L s2 0) ∧ ∃ sg : Nat, mI M (p + 11) c = ((sg : Nat) : Int) ∧ PC M O P V F ns ef L sg 1 := by
  obtain ⟨p1, -, -, -, ⟨-, p9⟩, -, u0, p11, p12⟩ := hp
  obtain ⟨u, v, e1, e2, e3, e4⟩ := p12.2.2.2.2.1 c hc
  obtain ⟨x, y, f1, f2, f3, f4, f5⟩ := p12.fbm (cnt - (c + 1)) (c + 1) (by omega)
  rw [e2] at f1
  obtain ⟨sg, g1, g2⟩ := p12.2.2.1 c hc
  exact ⟨u, v, e1, e2, e3, e4, by omega, fun b hb => p12.2.2.2.2.2.2 b (by omega), sg, g1, g2⟩
end GAC
end
section
/-! The class's game: weighChances. -/
section GAD
variable {G : mG} {d z g p O P K V F L cnt U Ab Be C Ab0 Be0 C0 s h t c cn k u v cc n : Nat} {M0 M M' M1 M2 : mM} {ns : Nat → Int} {sf ef : Nat → Nat} {H : Nat → Nat} {S R : Nat → Prop}
/-- what weighing comes to -/
def weQ (M0 : mM) (z g p O P K V F : Nat) (ns : Nat → Int) (sf ef : Nat → Nat) (L cnt Ab0 Be0 C0 : Nat) (MB : mM) (n cc : Nat) (r : Int) (M' : mM) : Prop := i32 r ∧ wgF MB g M' ∧ (∃ Ab Be C, GX M0 z g p O P K V F ns sf ef L cnt Ab0 Be0 C0 M' Ab Be C) ∧ (r = 0 → chz M' g n ∧ ∃ mu : Nat, mI M' (g + 6) cc = ((mu : Nat) : Int) ∧ 1 ≤ mu ∧ mu < 1000000000 ∧ shS M' g mu n = ((mu : Nat) : Int) ∧ ∀ b, b < n → (mI M' (g + 22) b) ∣ ((mu : Nat) : Int))
theorem pl_we (hx : GX M0 z g p O P K V F ns sf ef L cnt Ab0 Be0 C0 M Ab Be C) (hw : wgF M1 g M) (q : plQ M g M') {r : Int} (ir : i32 r) (hr : r ≠ 0) : weQ M0 z g p O P K V F ns sf ef L cnt Ab0 Be0 C0 M1 n cc r M' := by
  obtain ⟨q1, q2, q3⟩ := q
  have nb : ∀ x, x ≠ g → mI M' x = mI M x := fun x hx => q2.2.2.2.2.2.2 x hx
  refine ⟨ir, hw.trans ⟨q3, fun i i1 _ _ => nb _ (by omega), nb _ (by omega), fun i _ => by rw [nb _ (by omega)], by rw [nb _ (by omega)]⟩, ⟨Ab, Be, C, hx.fi q1 (q2.mono (fun x y => Or.inl (by have y' : x = g := y; omega)))⟩, fun u => absurd u hr⟩
end GAD
end
