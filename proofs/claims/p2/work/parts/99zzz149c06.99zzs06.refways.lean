section
/-! The reference: ways, exactly. -/
section WYX
variable {G : mG} {d a g T R W C Z n L w w0 i m : Nat} {M M' M2 M3 M4 : mM} {E : Eg9} {tg mul Sm A D : Int} {B : Nat → Nat}
theorem gcd_1 {q x y A' D' : Int} (hq : 1 ≤ q) (e1 : x = q * A') (e2 : y = q * D') (hg : ∀ z : Int, z ∣ x → z ∣ y → z ∣ q) : Int.gcd A' D' = 1 := by
  have d1 : (Int.gcd A' D' : Int) ∣ A' := Int.gcd_dvd_left ..
  have d2 : (Int.gcd A' D' : Int) ∣ D' := Int.gcd_dvd_right ..
  have d3 := hg (q * (Int.gcd A' D' : Int)) (by rw [e1]; exact Int.mul_dvd_mul (Int.dvd_refl q) d1) (by rw [e2]; exact Int.mul_dvd_mul (Int.dvd_refl q) d2)
  obtain ⟨t, ht⟩ := d3
  have t1 : (Int.gcd A' D' : Int) * t = 1 := by
    have : q * ((Int.gcd A' D' : Int) * t) = q * 1 := by rw [Int.mul_one, ← Int.mul_assoc]; exact ht.symm
    exact Int.eq_of_mul_eq_mul_left (show q ≠ 0 by omega) this
  have := Int.eq_one_of_mul_eq_one_right (show (0 : Int) ≤ (Int.gcd A' D' : Int) by omega) t1
  omega
theorem x_MM_add {j : Nat} {A D : Int} (hg : g = a + 13 ∨ g = a + 49) (o : mOk M) (w' : Wd M a) (h : XD M a g n W L w (L + 1) B) (hw0 : B L = w0) (hp : Op M a L w0 w mul Sm) (j0 : w0 ≤ j) (j1 : j < w) (hA : 0 < A ∧ A < 1000000000) (hD : 0 < D ∧ D < 1000000000) (hdm : D ∣ mul) (hle : Sm + A * (mul / D) ≤ mul) : Cv G y_MM_add (d + 1) [vr a, vi j, vl A, vl D] M (fun M' => mOk M' ∧ Mv (fun _ => False) (fun x => a + 21186 ≤ x ∧ x ≤ a + 21187) M a M' ∧ mI M' = mI M ∧ XD M' a g n W L w (L + 1) B ∧ Op M' a L w0 w mul (Sm + A * (mul / D)) ∧ (∀ k, k ≠ j → mL M' (a + 21186) k = mL M (a + 21186) k ∧ mL M' (a + 21187) k = mL M (a + 21187) k) ∧ mL M' (a + 21186) j * (mul / mL M' (a + 21187) j) = mL M (a + 21186) j * (mul / mL M (a + 21187) j) + A * (mul / D) ∧ Int.gcd (mL M' (a + 21186) j) (mL M' (a + 21187) j) = 1) := by
  obtain ⟨y1, y2, y3⟩ := h.2.2.2.1 j j1
  have hw4 := h.2.1.2
  obtain ⟨p1, p2, p3, p4, p5⟩ := id hp
  have r42 : mR M a 42 = a + 21186 := w'.1.2.2.2.2.2.2.1.2.1
  have r43 : mR M a 43 = a + 21187 := w'.1.2.2.2.2.2.2.1.2.2.1
  have A6 : mK M (a + 21186) = 33 ∧ mN M (a + 21186) = 4096 := w'.1.2.2.2.2.2.2.2.2.2.1.2.1
  have A7 : mK M (a + 21187) = 33 ∧ mN M (a + 21187) = 4096 := w'.1.2.2.2.2.2.2.2.2.2.1.2.2.1
  have bj : ((0 : Int) ≤ (j : Int) ∧ (j : Int) < ((4096 : Nat) : Int)) := by omega
  refine k_MM_add o (i32s (by omega) (by omega)) ⟨by omega, by omega⟩ ⟨by omega, by omega⟩ ⟨w'.1.1, ?_⟩
  rw [r42, r43, Int.toNat_natCast]
  generalize hXA : mL M (a + 21186) j = XA at *
  generalize hXD : mL M (a + 21187) j = XDn at *
  have m1 : 0 ≤ XA * D ∧ XA * D ≤ 1000000000 * 1000000000 := ⟨Int.mul_nonneg (by omega) (by omega), Int.mul_le_mul (by omega) (by omega) (by omega) (by omega)⟩
  have m2 : 0 ≤ A * XDn ∧ A * XDn ≤ 1000000000 * 1000000000 := ⟨Int.mul_nonneg (by omega) (by omega), Int.mul_le_mul (by omega) (by omega) (by omega) (by omega)⟩
  have m3 : 0 < XDn * D ∧ XDn * D ≤ 1000000000 * 1000000000 := ⟨Int.mul_pos (by omega) (by omega), Int.mul_le_mul (by omega) (by omega) (by omega) (by omega)⟩
  have is : i64 (XA * D + A * XDn) := ⟨by omega, by omega⟩
  have iy : i64 (XDn * D) := ⟨by omega, by omega⟩
  refine ⟨A6.1, by rw [A6.2]; exact bj, A7.1, by rw [A7.2]; exact bj, by rw [A7.2]; exact bj, (s_MM_divisor2 (by omega) ⟨by omega, iy⟩ o).mono (fun q M1 h1 => ?_)⟩
  obtain ⟨e1, q1, q2, ⟨A', hA'⟩, ⟨D', hD'⟩, hgcd⟩ := h1
  subst e1
  have qn : q ≠ 0 := by omega
  have t1 : Int.tdiv (XA * D + A * XDn) q = A' := by rw [hA']; exact Int.mul_tdiv_cancel_left A' qn
  have t2 : Int.tdiv (XDn * D) q = D' := by rw [hD']; exact Int.mul_tdiv_cancel_left D' qn
  have xdm : XDn ∣ mul := by rw [← hXD]; exact p4 j j0 j1
  obtain ⟨A0, D0, dm, key⟩ := add_math (mul := mul) y3.1 hD.1 y2.1 hA.1 xdm hdm q1 hA' hD' hgcd
  -- the terms of the sum
  have nn : ∀ t, t < w - w0 → 0 ≤ mL M1 (a + 21186) (w0 + t) * (mul / mL M1 (a + 21187) (w0 + t)) := fun t ht => by
    have := h.2.2.2.1 (w0 + t) (by omega)
    exact Int.mul_nonneg (by omega) (Int.ediv_nonneg (by omega) (by omega))
  have le1 := sm_le1 (f := fun t => mL M1 (a + 21186) (w0 + t) * (mul / mL M1 (a + 21187) (w0 + t))) (t0 := j - w0) (w - w0) (by omega) nn
  rw [p5] at le1
  have le1' : XA * (mul / XDn) ≤ Sm := by
    have e : w0 + (j - w0) = j := by omega
    have : mL M1 (a + 21186) (w0 + (j - w0)) * (mul / mL M1 (a + 21187) (w0 + (j - w0))) ≤ Sm := le1
    rw [e, hXA, hXD] at this
    exact this
  obtain ⟨m, hm⟩ := dm
  have mm : mul / D' = m := by rw [hm]; exact Int.mul_ediv_cancel_left m (by omega)
  have m0 : 0 < m := by
    by_cases z : 0 < m
    · exact z
    · have := Int.mul_le_mul_of_nonneg_left (show m ≤ 0 by omega) (show 0 ≤ D' by omega)
      omega
  have AD : A' ≤ D' := by
    by_cases z : A' ≤ D'
    · exact z
    · have k1 := Int.mul_lt_mul_of_pos_right (show D' < A' by omega) m0
      rw [mm] at key
      omega
  have Dm : D' ≤ mul := by
    have := Int.mul_le_mul_of_nonneg_left (show 1 ≤ m by omega) (show 0 ≤ D' by omega)
    omega
  have iA' : i64 A' := ⟨by omega, by omega⟩
  have iD' : i64 D' := ⟨by omega, by omega⟩
  rw [t1, t2]
  refine ⟨⟨by omega, by have := iy.2; omega⟩, o, w'.1.1, is, qn, ?_⟩
  rw [r42]
  refine ⟨A6.1, by rw [A6.2]; exact bj, iA', fun M2 e2 => ⟨iy, qn, ?_⟩⟩
  obtain ⟨k2, f2, n2, i2⟩ := mv_ulx iA' o w' e2
  have w2 := k2.2.1
  rw [show mR M2 a 43 = a + 21187 from w2.1.2.2.2.2.2.2.1.2.2.1]
  have A72 : mK M2 (a + 21187) = 33 ∧ mN M2 (a + 21187) = 4096 := w2.1.2.2.2.2.2.2.2.2.2.1.2.2.1
  refine ⟨A72.1, by rw [A72.2]; exact bj, iD', fun M3 e3 => ?_⟩
  obtain ⟨k3, f3, n3, i3⟩ := mv_ulx iD' k2.1 w2 e3
  have iI : mI M3 = mI M1 := by rw [i3, i2]
  have l86 : ∀ k, mL M3 (a + 21186) k = if k = j then A' else mL M1 (a + 21186) k := fun k => by rw [n3 _ (by omega), f2]
  have l87 : ∀ k, mL M3 (a + 21187) k = if k = j then D' else mL M1 (a + 21187) k := fun k => by rw [f3, n2 _ (by omega)]
  have kk : Mv (fun _ => False) (fun x => a + 21186 ≤ x ∧ x ≤ a + 21187) M1 a M3 := (k2.mono (fun _ z => z) (fun x z => by omega) (fun _ z => z.elim)).trans (k3.mono (fun _ z => z) (fun x z => by omega) (fun _ z => z.elim))
  have no : ∀ q : Nat, False → q ∈ nums a := fun _ z => z.elim
  have gs := gs_st w' hg kk no (fun _ z => z.elim) (fun x z => by omega)
  have s : ∀ {q}, q ∈ nums a → sameN M1 M3 q := fun hq => kk.lst hq (fun z => z)
  obtain ⟨h1, h2, h3, h4, h5, h6, h7⟩ := id h
  have mB := h.mono
  refine ⟨kk.1, kk, iI, ⟨by rw [iI]; exact h1, by rw [iI]; exact h2, fun k v hk hv => ?_, fun i hi => ?_, by rw [(s k109).1, (s k111).1, (s k113).1, (s k115).1]; exact h5, h6, fun i hi => (h7 i hi).cg ((s k111).2.1 i) ((s k113).2.1 i) ((s k115).2.1 i) (fun t _ t2 => ?_)⟩, ⟨p1, by rw [(s k111).2.1, (s k113).2.1, (s k115).2.1]; exact p2, p3, fun i i1 i2' => ?_, ?_⟩, fun k hk => ⟨by rw [l86, if_neg hk], by rw [l87, if_neg hk]⟩, by rw [l86, l87, if_pos rfl, if_pos rfl]; exact key, by rw [l86, l87, if_pos rfl, if_pos rfl]; exact gcd_1 q1 hA' hD' hgcd⟩
  · rw [iI]; exact h3 k v hk hv
  · rw [iI, l86, l87]
    by_cases z : i = j
    · rw [if_pos z, if_pos z]
      exact ⟨(h4 i hi).1, by omega, by omega⟩
    · rw [if_neg z, if_neg z]
      exact h4 i hi
  · have := mB (i + 1) L (by omega) (Nat.le_refl _)
    rw [l86, l87, if_neg (by omega), if_neg (by omega)]
    exact ⟨rfl, rfl⟩
  · rw [l87]
    by_cases z : i = j
    · rw [if_pos z, hm]; exact Int.dvd_mul_right D' m
    · rw [if_neg z]; exact p4 i i1 i2'
  · rw [sm_upd (f := fun t => mL M1 (a + 21186) (w0 + t) * (mul / mL M1 (a + 21187) (w0 + t))) (t0 := j - w0) (w - w0) (by omega) (fun t ht hne => ?_), p5]
    · show Sm - mL M1 (a + 21186) (w0 + (j - w0)) * (mul / mL M1 (a + 21187) (w0 + (j - w0))) + mL M3 (a + 21186) (w0 + (j - w0)) * (mul / mL M3 (a + 21187) (w0 + (j - w0))) = _
      rw [show w0 + (j - w0) = j by omega, l86, l87, if_pos rfl, if_pos rfl, hXA, hXD, key]
      omega
    · show mL M3 (a + 21186) (w0 + t) * (mul / mL M3 (a + 21187) (w0 + t)) = mL M1 (a + 21186) (w0 + t) * (mul / mL M1 (a + 21187) (w0 + t))
      rw [l86, l87, if_neg (by omega), if_neg (by omega)]
/-- a new way is put down -/
theorem way_newx {to A D : Int} {M4 M5 M6 M7 : mM} (o : mOk M2) (wd : Wd M2 a) (hg : g = a + 13 ∨ g = a + 49) (h : XD M2 a g n W L w (L + 1) B) (hw0 : B L = w0) (hp : Op M2 a L w0 w mul Sm) (hw : w < 4096) (ht : 0 ≤ to ∧ to < n) (hA : 0 < A ∧ A < 1000000000) (hD : 0 < D ∧ D < 1000000000) (hdm : D ∣ mul) (e3 : M3 = mUI M2 (a + 21185) w to) (e4 : M4 = mUL M3 (a + 21186) w A) (e5 : M5 = mUL M4 (a + 21187) w D) (e6 : M6 = mUI M5 a 40 ((w : Int) + 1)) (e7 : M7 = mUI M6 (mR M6 (a + 113) 0) L (nt M6 (a + 113) L + 1)) : (Wd M3 a ∧ Wd M4 a ∧ Wd M5 a ∧ Wd M6 a) ∧ (mI M3 a = mI M2 a ∧ mI M4 a = mI M2 a ∧ mI M5 a = mI M2 a) ∧ nt M6 (a + 113) L = ((w - w0 : Nat) : Int) ∧ ln M6 (a + 113) = (L + 1 : Nat) ∧ (mL M3 = mL M2 ∧ (∀ y, y ≠ a + 21186 → mL M4 y = mL M2 y)) ∧ wyF M2 a M7 ∧ Mv (fun x => x = a + 113) (fun x => x = a ∨ (a + 21185 ≤ x ∧ x ≤ a + 21187)) M2 a M7 ∧ mI M7 a 16 = mI M2 a 16 ∧ XD M7 a g n W L (w + 1) (L + 1) B ∧ Op M7 a L w0 (w + 1) mul (Sm + A * (mul / D)) ∧ (∀ k, mI M7 (a + 21185) k = if k = w then to else mI M2 (a + 21185) k) ∧ (∀ k, mL M7 (a + 21186) k = if k = w then A else mL M2 (a + 21186) k) ∧ (∀ k, mL M7 (a + 21187) k = if k = w then D else mL M2 (a + 21187) k) ∧ mI M7 (a + 105) = mI M2 (a + 105) := by
  have hn5 := h.1.2.2
  obtain ⟨m3, f3, l3⟩ := mv_cell (v := to) ⟨by omega, by omega⟩ o wd (show a ≤ a + 21185 by omega) (offx (a := a) (o := 21185) (by decide)) e3
  obtain ⟨m4, f4, n4, i4⟩ := mv_ulx (v := A) ⟨by omega, by omega⟩ m3.1 m3.2.1 e4
  obtain ⟨m5, f5, n5', i5⟩ := mv_ulx (v := D) ⟨by omega, by omega⟩ m4.1 m4.2.1 e5
  obtain ⟨m6, f6⟩ := mv_fld (v := (w : Int) + 1) (i32s (by omega) (by omega)) m5.1 m5.2.1 e6
  have no : ∀ q : Nat, False → q ∈ nums a := fun _ z => z.elim
  have nz : ∀ {Mx : mM} (q : Nat), False → q < mZ Mx := fun _ z => z.elim
  have m26 : Mv (fun _ => False) (fun x => x = a ∨ (a + 21185 ≤ x ∧ x ≤ a + 21187)) M2 a M6 := (((m3.mono (fun _ z => z) (fun x z => Or.inr (by omega)) nz).trans (m4.mono (fun _ z => z) (fun x z => Or.inr (by omega)) nz)).trans (m5.mono (fun _ z => z) (fun x z => Or.inr (by omega)) nz)).trans (m6.mono (fun _ z => z) (fun x z => Or.inl z) nz)
  have s6 : ∀ {q}, q ∈ nums a → sameN M2 M6 q := fun hq => m26.lst hq (fun z => z)
  obtain ⟨p1, p2, p3, p4, p5⟩ := id hp
  have t13 : nt M6 (a + 113) L = ((w - w0 : Nat) : Int) := by rw [(s6 k113).2.1]; exact p2.2.1
  obtain ⟨m7, l7, f7, -⟩ := mv_el (v := nt M6 (a + 113) L + 1) (by rw [t13]; exact i32s (by omega) (by omega)) m6.1 m6.2.1 k113 e7
  have i3a := (m3.fld wd no (by omega)).1
  have aI3 : mI M3 a = mI M2 a := i3a
  have aI4 : mI M4 a = mI M2 a := by rw [i4]; exact i3a
  have aI5 : mI M5 a = mI M2 a := by rw [i5]; exact aI4
  have in13 : ∀ q, q = a + 113 → q ∈ nums a := fun q hq => by rw [hq]; exact k113
  have aI7 : mI M7 a = mI M6 a := (m7.fld m6.2.1 in13 (fun z => z)).1
  have F7 : ∀ i, mI M7 a i = if i = 40 then (w : Int) + 1 else mI M2 a i := fun i => by rw [aI7, f6, aI5]
  have l13 : ∀ q, q = a + 113 → q < mZ M2 := fun q hq => by rw [hq]; exact wd.lt k113
  have m27 : Mv (fun x => x = a + 113) (fun x => x = a ∨ (a + 21185 ≤ x ∧ x ≤ a + 21187)) M2 a M7 := (m26.mono (fun _ z => z.elim) (fun x z => z) l13).trans (m7.mono (fun q hq => hq) (fun _ z => z.elim) (fun q hq => by rw [hq]; exact m6.2.1.lt k113))
  have gs := gs_st wd hg m27 in13 (fun q hq z => by
    have z' : q = g + 1 ∨ q = g + 3 ∨ q = g + 5 ∨ q = g + 7 ∨ q = g + 9 ∨ q = g + 11 ∨ q = g + 30 ∨ q = g + 32 ∨ q = g + 34 := z
    omega) (fun x hx => by omega)
  have W7 : wyF M2 a M7 := wyF.mk wd m27 (fun q hq => Or.inr hq) (fun x hx => by
    rcases hx with z | z
    · exact Or.inl (Or.inl z)
    · exact Or.inr (Or.inr (by omega))) (fun i _ _ _ _ i5 => by rw [F7, if_neg i5])
  have s7 : ∀ {q}, q ∈ nums a → q ≠ a + 113 → sl M2 M7 q := fun hq hne => (m27.lst hq hne).sl
  have c105 := (m27.cellL wd in13 (offx (a := a) (o := 105) (by decide)) (by omega)).1
  have w6 := m6.2.1
  have o85 := offx (a := a) (o := 21185) (by decide)
  have o86 := offx (a := a) (o := 21186) (by decide)
  have o87 := offx (a := a) (o := 21187) (by decide)
  have e85 : ∀ k, mI M7 (a + 21185) k = if k = w then to else mI M2 (a + 21185) k := fun k => by
    rw [(m7.cellL w6 in13 o85 (fun z => z)).1, (m6.cellL m5.2.1 no o85 (by omega)).1, i5, i4, f3]
    by_cases z : k = w
    · rw [if_pos ⟨rfl, z⟩, if_pos z]
    · rw [if_neg (fun y => z y.2), if_neg z]
  have e86 : ∀ k, mL M7 (a + 21186) k = if k = w then A else mL M2 (a + 21186) k := fun k => by
    rw [(m7.cellL w6 in13 o86 (fun z => z)).2, (m6.cellL m5.2.1 no o86 (by omega)).2, n5' _ (by omega), f4, l3]
  have e87 : ∀ k, mL M7 (a + 21187) k = if k = w then D else mL M2 (a + 21187) k := fun k => by
    rw [(m7.cellL w6 in13 o87 (fun z => z)).2, (m6.cellL m5.2.1 no o87 (by omega)).2, f5, n4 _ (by omega), l3]
  have e113 : ∀ k, nt M7 (a + 113) k = if k = L then ((w - w0 : Nat) : Int) + 1 else nt M2 (a + 113) k := fun k => by
    rw [f7, t13, (s6 k113).2.1]
  obtain ⟨h1, h2, h3, h4, h5, h6, h7⟩ := id h
  have mB := h.mono
  refine ⟨⟨m3.2.1, m4.2.1, m5.2.1, w6⟩, ⟨aI3, aI4, aI5⟩, t13, by rw [(s6 k113).1]; exact h5.2.2.1, ⟨l3, fun y hy => by rw [n4 y hy, l3]⟩, W7, m27, by rw [F7, if_neg (by decide)], ⟨by rw [F7, if_neg (by decide)]; exact h1, ⟨by rw [F7, if_pos rfl]; omega, by omega⟩, fun k v hk hv => ?_, fun j hj => ?_, ?_, ⟨h6.1, by omega, h6.2.2⟩, fun i hi => ?_⟩, ⟨by omega, ?_, p3, fun j j0 j1 => ?_, ?_⟩, e85, e86, e87, c105⟩
  · rw [(gs.2.1 19 (by omega) (by omega)).1, (gs.2.1 20 (by omega) (by omega)).1, c105]
    exact h3 k v hk hv
  · rw [e85, e86, e87]
    by_cases z : j = w
    · rw [if_pos z, if_pos z, if_pos z]
      exact ⟨ht, hA, hD⟩
    · rw [if_neg z, if_neg z, if_neg z]
      exact h4 j (by omega)
  · rw [(s7 k109 (by omega)).1, (s7 k111 (by omega)).1, (s7 k115 (by omega)).1, l7, (s6 k113).1]
    exact h5
  · have := mB (i + 1) L (by omega) (Nat.le_refl _)
    refine (h7 i hi).cg ((s7 k111 (by omega)).2 i) (by rw [e113, if_neg (by omega)]) ((s7 k115 (by omega)).2 i) (fun j j0 j1 => ?_)
    rw [e86, e87, if_neg (by omega), if_neg (by omega)]
    exact ⟨rfl, rfl⟩
  · rw [(s7 k111 (by omega)).2, (s7 k115 (by omega)).2, e113, if_pos rfl]
    exact ⟨p2.1, by omega, p2.2.2⟩
  · rw [e87]
    by_cases z : j = w
    · rw [if_pos z]; exact hdm
    · rw [if_neg z]; exact p4 j j0 (by omega)
  · rw [show w + 1 - w0 = (w - w0) + 1 by omega]
    show sm (fun t => mL M7 (a + 21186) (w0 + t) * (mul / mL M7 (a + 21187) (w0 + t))) (w - w0) + mL M7 (a + 21186) (w0 + (w - w0)) * (mul / mL M7 (a + 21187) (w0 + (w - w0))) = _
    rw [show w0 + (w - w0) = w by omega, e86, e87, if_pos rfl, if_pos rfl, ← p5]
    have : sm (fun t => mL M7 (a + 21186) (w0 + t) * (mul / mL M7 (a + 21187) (w0 + t))) (w - w0) = sm (fun t => mL M2 (a + 21186) (w0 + t) * (mul / mL M2 (a + 21187) (w0 + t))) (w - w0) := sm_congr _ (fun t ht => by
      show mL M7 (a + 21186) (w0 + t) * (mul / mL M7 (a + 21187) (w0 + t)) = mL M2 (a + 21186) (w0 + t) * (mul / mL M2 (a + 21187) (w0 + t))
      rw [e86, e87, if_neg (by omega), if_neg (by omega)])
    rw [this]
/-- the ways from w0 on: goals and shares -/
def brR (M : mM) (a w0 : Nat) (mul : Int) (m : Nat) : List (Nat × Int) := (List.range m).map (fun t => ((mI M (a + 21185) (w0 + t)).toNat, mL M (a + 21186) (w0 + t) * (mul / mL M (a + 21187) (w0 + t))))
/-- the ways' chances stand in lowest terms -/
def Wc (M : mM) (a w : Nat) : Prop := ∀ j : Nat, j < w → Int.gcd (mL M (a + 21186) j) (mL M (a + 21187) j) = 1
/-- the ways before w0 are the same -/
def Lw (M M' : mM) (a w0 : Nat) : Prop := ∀ j : Nat, j < w0 → mI M' (a + 21185) j = mI M (a + 21185) j ∧ mL M' (a + 21186) j = mL M (a + 21186) j ∧ mL M' (a + 21187) j = mL M (a + 21187) j
theorem brR_len : (brR M a w0 mul m).length = m := by
  unfold brR
  rw [List.length_map, List.length_range]
theorem brR_s : brR M a w0 mul (m + 1) = brR M a w0 mul m ++ [((mI M (a + 21185) (w0 + m)).toNat, mL M (a + 21186) (w0 + m) * (mul / mL M (a + 21187) (w0 + m)))] := by
  unfold brR
  rw [List.range_succ, List.map_append]
  rfl
theorem brR_cg (h : ∀ i, w0 ≤ i → i < w0 + m → mI M' (a + 21185) i = mI M (a + 21185) i ∧ mL M' (a + 21186) i = mL M (a + 21186) i ∧ mL M' (a + 21187) i = mL M (a + 21187) i) : brR M' a w0 mul m = brR M a w0 mul m := by
  unfold brR
  refine List.map_congr_left (fun t ht => ?_)
  have := List.mem_range.mp ht
  obtain ⟨h1, h2, h3⟩ := h (w0 + t) (by omega) (by omega)
  rw [h1, h2, h3]
theorem brR_mem {x : Nat × Int} (h : x ∈ brR M a w0 mul m) : ∃ i, w0 ≤ i ∧ i < w0 + m ∧ x = ((mI M (a + 21185) i).toNat, mL M (a + 21186) i * (mul / mL M (a + 21187) i)) := by
  unfold brR at h
  obtain ⟨t, ht, e⟩ := List.mem_map.mp h
  have := List.mem_range.mp ht
  exact ⟨w0 + t, by omega, by omega, e.symm⟩
theorem brR_sp : ∀ m, brR M a w0 mul (i + 1 + m) = brR M a w0 mul i ++ ((mI M (a + 21185) (w0 + i)).toNat, mL M (a + 21186) (w0 + i) * (mul / mL M (a + 21187) (w0 + i))) :: brR M a (w0 + i + 1) mul m
  | 0 => by rw [show i + 1 + 0 = i + 1 by omega, brR_s]; rfl
  | m + 1 => by
    rw [show i + 1 + (m + 1) = (i + 1 + m) + 1 by omega, brR_s, brR_sp m, brR_s (w0 := w0 + i + 1), show w0 + (i + 1 + m) = w0 + i + 1 + m by omega, List.append_assoc]
    rfl
/-- what following a branch comes to -/
def foR (fq : List (br9 × (Int × Int)) → List (List Int) → List (Nat × Int) → (Int × Int) × List (List Int) × List (Nat × Int)) (x : br9 × (Int × Int)) (S : List (List Int)) (Bl : List (Nat × Int)) (a W w0 : Nat) (mul : Int) (xv : Int → vrs) (g R : Nat) (M M' : mM) : Prop := (mI M' a 16 ≠ 0 ∧ ∀ rest, (fq (x :: rest) S Bl).1 = (mI M' a 16, mI M' a 17)) ∨ (mI M' a 16 = 0 ∧ ∃ (S' : List (List Int)) (B' : List (Nat × Int)), (∀ rest, fq (x :: rest) S Bl = fq rest S' B') ∧ mI M' a 29 = ((S'.length : Nat) : Int) ∧ SmR M' a W S'.length = S' ∧ ∃ w' : Nat, mI M' a 40 = (w' : Int) ∧ brR M' a w0 mul (w' - w0) = B' ∧ Wc M' a w' ∧ XVq M' a g R W xv ∧ Lw M M' a w0)
/-- the way is looked for among those of this command -/
theorem x_way187 {b tn9 : Nat} {pc to : Int} {fq : List (br9 × (Int × Int)) → List (List Int) → List (Nat × Int) → (Int × Int) × List (List Int) × List (Nat × Int)} {x : br9 × (Int × Int)} {S S2 : List (List Int)} {Bl : List (Nat × Int)} {xv : Int → vrs} (lw : Lw M M2 a w0) (xq : XVq M2 a g R W xv) (eS : S2.length = n ∧ SmR M2 a W n = S2) (hBl : Bl = brR M2 a w0 mul (w - w0)) (wc : Wc M2 a w) (gAD : Int.gcd A D = 1) (etn : to = ((tn9 : Nat) : Int)) (hfq : ∀ rest, fq (x :: rest) S Bl = match jnq9 tn9 (mul / D * A) Bl with | some B' => fq rest S2 B' | none => if w0 + Bl.length = 4096 then ((5, pc), S2, Bl) else fq rest S2 (Bl ++ [(tn9, mul / D * A)])) (ipl : i32 pc) (hb : b < 8) (hw0 : B L = w0) (hA : 0 < A ∧ A < 1000000000) (hD : 0 < D ∧ D < 1000000000) (hdm : D ∣ mul) (hle : Sm + A * (mul / D) ≤ mul) (ht : 0 ≤ to ∧ to < n) (h : wI M a g T R W C Z E tg n L w w0 mul Sm A D B b M2) (z16 : mI M2 a 16 = 0) (hL : L ≤ 4096) : ∀ (t j : Nat), w0 ≤ j → j + t = w → (∀ j', w0 ≤ j' → j' < j → mI M2 (a + 21185) j' ≠ to) → h_MM_way_187 G (d + 6) a b pc to L j M2 (fun M' => mOk M' ∧ wyQ M a g T R W C Z E tg n L w w0 mul (Sm + A * (mul / D)) B M' ∧ foR fq x S Bl a W w0 mul xv g R M M') := by
  obtain ⟨x1, gg, en, xd, op, cA, cD⟩ := id h
  have o2 := gg.1
  have w2 := gg.2.1
  have hg := gg.2.2.1.2
  have hn5 := xd.1.2.2
  have hw4 := xd.2.1.2
  have f40 := xd.2.1.1
  have l13 := xd.2.2.2.2.1.2.2.1
  have ito : i32 to := ⟨by omega, by omega⟩
  have ib : i32 (b : Int) := i32s (by omega) (by omega)
  have iL : i32 (L : Int) := i32s (by omega) (by omega)
  have b8 : ((0 : Int) ≤ (b : Int) ∧ (b : Int) < ((8 : Nat) : Int)) := by omega
  have pr : ∀ {Mx : mM}, Wd Mx a → (mR Mx a 41 = a + 21185 ∧ mR Mx a 42 = a + 21186 ∧ mR Mx a 43 = a + 21187 ∧ mR Mx a 45 = a + 21189 ∧ mR Mx a 46 = a + 21190) := fun w => ⟨w.1.2.2.2.2.2.2.1.1, w.1.2.2.2.2.2.2.1.2.1, w.1.2.2.2.2.2.2.1.2.2.1, w.1.2.2.2.2.2.2.1.2.2.2.2.1, w.1.2.2.2.2.2.2.1.2.2.2.2.2.1⟩
  have ar : ∀ {Mx : mM}, Wd Mx a → ((mK Mx (a + 21185) = 30 ∧ mN Mx (a + 21185) = 4096) ∧ (mK Mx (a + 21186) = 33 ∧ mN Mx (a + 21186) = 4096) ∧ (mK Mx (a + 21187) = 33 ∧ mN Mx (a + 21187) = 4096)) := fun w => ⟨w.1.2.2.2.2.2.2.2.2.2.1.1, w.1.2.2.2.2.2.2.2.2.2.1.2.1, w.1.2.2.2.2.2.2.2.2.2.1.2.2.1⟩
  intro t
  induction t with
  | zero =>
    intro j j0 hj hno
    have ej : j = w := by omega
    subst ej
    have bw : j < 4096 → ((0 : Int) ≤ (j : Int) ∧ (j : Int) < ((4096 : Nat) : Int)) := fun _ => by omega
    have jn : jnq9 tn9 (mul / D * A) Bl = none := jnq_n _ (fun y hy => by
      rw [hBl] at hy
      obtain ⟨i, i1, i2, i3⟩ := brR_mem hy
      have e1 := hno i i1 (by omega)
      have e2 := (xd.2.2.2.1 i (by omega)).1.1
      rw [i3]
      show (mI M2 (a + 21185) i).toNat ≠ tn9
      omega)
    have lB : w0 + Bl.length = j := by rw [hBl, brR_len]; omega
    refine k_MM_way_187 o2 ib ipl ito iL (i32s (by omega) (by omega)) ⟨w2.1.1, ?_⟩
    rw [f40]
    refine ⟨fun _ => ⟨fun q => (s_MM_stop ⟨by decide, by decide⟩ ipl o2 w2).mono (fun M3 h3 => ⟨h3.1.1, h3.1.1, h.stp (by decide) h3, Or.inl ⟨by rw [h3.2.1]; decide, fun rest => ?_⟩⟩), fun q => ?_⟩, fun q => absurd (Int.le_refl _) q⟩
    · rw [hfq rest, jn, h3.2.1, h3.2.2.1]
      show (if w0 + Bl.length = 4096 then ((5, pc), S2, Bl) else _).1 = _
      rw [if_pos (by omega)]
    have hw : j < 4096 := by omega
    have bw := bw hw
    rw [(pr w2).1, Int.toNat_natCast]
    refine ⟨(ar w2).1.1, by rw [(ar w2).1.2]; exact bw, fun M3 e3 => ?_⟩
    have N := fun (M4 M5 M6 M7 : mM) e4 e5 e6 e7 => way_newx (M4 := M4) (M5 := M5) (M6 := M6) (M7 := M7) o2 w2 hg xd hw0 op hw ht hA hD hdm e3 e4 e5 e6 e7
    have N3 := N _ _ _ _ rfl rfl rfl rfl
    have w3 := N3.1.1
    have l3 := N3.2.2.2.2.1.1
    have a3 := N3.2.1.1
    rw [(pr w3).2.2.2.1, (pr w3).2.1, a3, f40, Int.toNat_natCast, Int.toNat_natCast, l3, cA]
    refine ⟨(r4546 w3).2.1.1, by rw [(r4546 w3).2.1.2]; exact b8, (ar w3).2.1.1, by rw [(ar w3).2.1.2]; exact bw, fun M4 e4 => ?_⟩
    have N4 := N M4 _ _ _ e4 rfl rfl rfl
    have w4 := N4.1.2.1
    have a4 := N4.2.1.2.1
    have l4 := N4.2.2.2.2.1.2
    rw [(pr w4).2.2.2.2, (pr w4).2.2.1, a4, f40, Int.toNat_natCast, l4 (a + 21190) (by omega), cD]
    refine ⟨(r4546 w4).2.2.1, by rw [(r4546 w4).2.2.2]; exact b8, (ar w4).2.2.1, by rw [(ar w4).2.2.2]; exact bw, fun M5 e5 => ?_⟩
    have N5 := N M4 M5 _ _ e4 e5 rfl rfl
    have w5 := N5.1.2.2.1
    have a5 := N5.2.1.2.2
    rw [a5, f40]
    refine ⟨i32s (by omega) (by omega), fun M6 e6 => ?_⟩
    have N6 := N M4 M5 M6 _ e4 e5 e6 rfl
    have w6 := N6.1.2.2.2
    have t13 : mI M6 (mR M6 (a + 113) 0) L = ((j - w0 : Nat) : Int) := N6.2.2.1
    have u13 := w6.nu (k113 (a := a))
    have c13 : ((L + 1 : Nat) : Int) ≤ cp M6 (a + 113) := by rw [← N6.2.2.2.1]; exact u13.2.2.2.1.2
    have ecp : mN M6 (mR M6 (a + 113) 0) = cp M6 (a + 113) := rfl
    rw [show mR M6 a 37 = a + 113 from w6.1.2.2.2.2.2.1.2.2.2.2.2.2.1, Int.toNat_natCast]
    refine ⟨u13.1, u13.2.1, by rw [ecp]; omega, by rw [ecp]; omega, by rw [t13]; exact i32s (by omega) (by omega), fun M7 e7 => ?_⟩
    obtain ⟨-, -, -, -, -, W7, m7, e16, X7, O7, y85, y86, y87, y105⟩ := N M4 M5 M6 M7 e4 e5 e6 e7
    have in13 : ∀ q, q = a + 113 → q ∈ nums a := fun q hq => by rw [hq]; exact k113
    have gs := gs_st w2 hg m7 in13 (fun q hq z => by
      have z' : q = g + 1 ∨ q = g + 3 ∨ q = g + 5 ∨ q = g + 7 ∨ q = g + 9 ∨ q = g + 11 ∨ q = g + 30 ∨ q = g + 32 ∨ q = g + 34 := z
      omega) (fun x hx => by omega)
    refine ⟨m7.1, ⟨x1.trans W7, gg.gs m7.1 m7.2.1 (by rw [m7.rfl_a w2 in13]) gs, en.mv w2 m7 in13 gs (fun x hx => by omega), Or.inr ⟨by rw [e16]; exact z16, n, j + 1, Nat.le_refl _, Or.inr rfl, X7, O7⟩⟩, Or.inr ⟨by rw [e16]; exact z16, S2, Bl ++ [(tn9, mul / D * A)], fun rest => ?_, ?_, ?_, j + 1, X7.2.1.1, ?_, ?_, xq.mv w2 m7 in13 gs (fun x hx => by omega), fun i hi => ?_⟩⟩
    · rw [hfq rest, jn]
      show (if w0 + Bl.length = 4096 then ((5, pc), S2, Bl) else _) = _
      rw [if_neg (by omega)]
    · rw [eS.1]
      exact X7.1.1
    · rw [eS.1, SmR_cg (M := M2) gg.2.2.2.2.2.2.2.1.1.2.1 (fun j _ => by rw [y105])]
      exact eS.2
    · rw [show j + 1 - w0 = (j - w0) + 1 by omega, brR_s, brR_cg (M := M2) (fun i i1 i2 => by rw [y85, y86, y87, if_neg (by omega), if_neg (by omega), if_neg (by omega)]; exact ⟨rfl, rfl, rfl⟩), ← hBl, show w0 + (j - w0) = j by omega, y85, y86, y87, if_pos rfl, if_pos rfl, if_pos rfl, etn, Int.toNat_natCast, Int.mul_comm]
    · intro i hi
      rw [y86, y87]
      by_cases y : i = j
      · rw [if_pos y, if_pos y]; exact gAD
      · rw [if_neg y, if_neg y]; exact wc i (by omega)
    · rw [y85, y86, y87, if_neg (by omega), if_neg (by omega), if_neg (by omega)]
      exact lw i hi
  | succ t ih =>
    intro j j0 hj hno
    have bj : ((0 : Int) ≤ (j : Int) ∧ (j : Int) < ((4096 : Nat) : Int)) := by omega
    refine k_MM_way_187 o2 ib ipl ito iL (i32s (by omega) (by omega)) ⟨w2.1.1, ?_⟩
    rw [f40, (pr w2).1, (pr w2).2.2.2.1, (pr w2).2.2.2.2, Int.toNat_natCast, Int.toNat_natCast, cA, cD]
    refine ⟨fun q => absurd q (by omega), fun _ => ⟨(ar w2).1.1, by rw [(ar w2).1.2]; exact bj, fun qt => ⟨(r4546 w2).2.1.1, by rw [(r4546 w2).2.1.2]; exact b8, (r4546 w2).2.2.1, by rw [(r4546 w2).2.2.2]; exact b8, ?_⟩, fun qt => ?_⟩⟩
    · refine (x_MM_add (d := d + 5) hg o2 w2 xd hw0 op j0 (by omega) hA hD hdm hle).mono (fun M3 t3 => ?_)
      obtain ⟨o3, m3, i3, X3, O3, y1, y2, y3⟩ := t3
      have no : ∀ q : Nat, False → q ∈ nums a := fun _ z => z.elim
      have gs := gs_st w2 hg m3 no (fun _ z => z.elim) (fun x z => by omega)
      have W3 : wyF M2 a M3 := wyF.mk w2 m3 (fun _ z => z.elim) (fun x z => Or.inr (Or.inr (by omega))) (fun i _ _ _ _ _ => by rw [i3])
      have qe : mI M2 (a + 21185) j = to := qt
      have sp : Bl = brR M2 a w0 mul (j - w0) ++ ((mI M2 (a + 21185) j).toNat, mL M2 (a + 21186) j * (mul / mL M2 (a + 21187) j)) :: brR M2 a (j + 1) mul (w - (j + 1)) := by
        have := brR_sp (M := M2) (a := a) (w0 := w0) (mul := mul) (i := j - w0) (w - (j + 1))
        rw [show j - w0 + 1 + (w - (j + 1)) = w - w0 by omega, show w0 + (j - w0) = j by omega] at this
        rw [hBl]
        exact this
      have sp3 : brR M3 a w0 mul (w - w0) = brR M2 a w0 mul (j - w0) ++ ((mI M2 (a + 21185) j).toNat, mL M2 (a + 21186) j * (mul / mL M2 (a + 21187) j) + mul / D * A) :: brR M2 a (j + 1) mul (w - (j + 1)) := by
        have := brR_sp (M := M3) (a := a) (w0 := w0) (mul := mul) (i := j - w0) (w - (j + 1))
        rw [show j - w0 + 1 + (w - (j + 1)) = w - w0 by omega, show w0 + (j - w0) = j by omega] at this
        rw [this, y2, i3, Int.mul_comm A, brR_cg (M := M2) (M' := M3) (fun i i1 i2 => by rw [i3]; exact ⟨rfl, y1 i (by omega)⟩), brR_cg (M := M2) (M' := M3) (w0 := j + 1) (fun i i1 i2 => by rw [i3]; exact ⟨rfl, y1 i (by omega)⟩)]
      have jn : jnq9 tn9 (mul / D * A) Bl = some (brR M3 a w0 mul (w - w0)) := by
        rw [sp, sp3]
        refine jnq_s (by show (mI M2 (a + 21185) j).toNat = tn9; rw [qe, etn, Int.toNat_natCast]) _ (fun y hy => ?_)
        obtain ⟨i, i1, i2, i3'⟩ := brR_mem hy
        have e1 := hno i i1 (by omega)
        have e2 := (xd.2.2.2.1 i (by omega)).1.1
        rw [i3']
        show (mI M2 (a + 21185) i).toNat ≠ tn9
        omega
      exact ⟨o3, o3, ⟨x1.trans W3, gg.gs o3 m3.2.1 (by rw [m3.rfl_a w2 no]) gs, en.mv w2 m3 no gs (fun x z => by omega), Or.inr ⟨by rw [i3]; exact z16, n, w, Nat.le_refl _, Or.inl rfl, X3, O3⟩⟩, Or.inr ⟨by rw [i3]; exact z16, S2, brR M3 a w0 mul (w - w0), fun rest => by rw [hfq rest, jn], by rw [i3, eS.1]; exact xd.1.1, by rw [eS.1, SmR_cg (M := M2) gg.2.2.2.2.2.2.2.1.1.2.1 (fun j _ => by rw [i3])]; exact eS.2, w, by rw [i3]; exact f40, rfl, fun i hi => by
        by_cases y : i = j
        · rw [y]; exact y3
        · rw [(y1 i y).1, (y1 i y).2]; exact wc i hi, xq.mv w2 m3 no gs (fun x z => by omega), fun i hi => by rw [i3, (y1 i (by omega)).1, (y1 i (by omega)).2]; exact lw i hi⟩⟩
    · rw [show (j : Int) + 1 = ((j + 1 : Nat) : Int) by omega]
      exact ih (j + 1) (by omega) (by omega) (fun j' h1 h2 => by
        by_cases y : j' = j
        · rw [y]; exact qt
        · exact hno j' h1 (by omega))
end WYX
end
section
/-! The reference: way, exactly. -/
section WZX
variable {G : mG} {d a g T R W C Z n L w w0 : Nat} {M M2 : mM} {E : Eg9} {tg mul Sm A D : Int} {B : Nat → Nat} {ww pl lo hi : Nat → Int} {XV : List Int → Int → vrs} {ev : List Int → Nat → Nat → vrs} {cvS : List Int → Nat → vrs} {stp : List Int → List (Nat × Nat × Nat × Nat) → (Int × Int) × List Int} {tgI : Nat × Nat} {cms : List cm9} {sg : List Int}
theorem x_way59 {b c fs mn : Nat} {pc : Int} {br : br9} {S : List (List Int)} {Bl : List (Nat × Int)} (hev : ∀ sg i j, ev sg i j = vlq ww (cvS sg) pl 0 0 i j) (hstp : ∀ sg l, stp sg l = ((stq9 ww (cvS sg) pl lo hi l (fun v => sg.getD v 0)).1, (List.range W).map (stq9 ww (cvS sg) pl lo hi l (fun v => sg.getD v 0)).2)) (hp : GP ww pl XV ev M g R W C T E tgI cms lo hi) (hbr : RBr ww pl XV ev M g R W T E (8 * c + b) br) (gAD : Int.gcd A D = 1) (h0 : GG M a g T R W C Z E tg) (ipl : i32 pc) (hb : b < 8) (hc : c < C) (h28 : mI M (g + 28) (8 * c + b) = (fs : Int)) (h29 : mI M (g + 29) (8 * c + b) = (mn : Int)) (hfm : fs + mn ≤ Z) (hw0 : B L = w0) (hA : 0 < A ∧ A < 1000000000) (hD : 0 < D ∧ D < 1000000000) (hdm : D ∣ mul) (hle : Sm + A * (mul / D) ≤ mul) (hL : L ≤ 4096) : ∀ (t i : Nat) (M2 : mM), fs ≤ i → i + t = fs + mn → wI M a g T R W C Z E tg n L w w0 mul Sm A D B b M2 → (mI M2 a 16 = 0 → Nxv M2 a g W) → (mI M2 a 16 = 0 → (S.length = n ∧ SmR M2 a W n = S ∧ brR M2 a w0 mul (w - w0) = Bl ∧ Wc M2 a w ∧ Lw M M2 a w0) ∧ XVq M2 a g R W (XV sg) ∧ ∃ nx : Nat → Int, (∀ v, v < W → mI M2 (a + 21188) v = nx v) ∧ stq9 ww (cvS sg) pl lo hi br.2.2 (fun v => sg.getD v 0) = stq9 ww (cvS sg) pl lo hi (br.2.2.drop (i - fs)) nx) → (mI M2 a 16 ≠ 0 → (stq9 ww (cvS sg) pl lo hi br.2.2 (fun v => sg.getD v 0)).1 = (mI M2 a 16, mI M2 a 17)) → h_MM_way_59 G (d + 6) a b pc (8 * c + b : Nat) fs i M2 (fun M' => mOk M' ∧ wyQ M a g T R W C Z E tg n L w w0 mul (Sm + A * (mul / D)) B M' ∧ foR (flq9 stp sg pc mul w0) (br, A, D) S Bl a W w0 mul (XV sg) g R M M') := by
  have wd0 := h0.2.1
  have hR := h0.2.2.2.2.2.2.2.1.1.1
  have hW12 := h0.2.2.2.2.2.2.2.1.1.2.1
  have hlen : br.2.2.length = mn := by
    have e := hbr.2.2.1
    rw [h29] at e
    omega
  have hne : ((br, A, D) : br9 × (Int × Int)).2.1 ≠ 0 := by show A ≠ 0; omega
  have flt : ∀ {M2 : mM}, mI M2 a 16 ≠ 0 → (stq9 ww (cvS sg) pl lo hi br.2.2 (fun v => sg.getD v 0)).1 = (mI M2 a 16, mI M2 a 17) → foR (flq9 stp sg pc mul w0) (br, A, D) S Bl a W w0 mul (XV sg) g R M M2 := fun {M2} z e => Or.inl ⟨z, fun rest => by
    have e1 : (stp sg br.2.2).1 = (mI M2 a 16, mI M2 a 17) := by rw [hstp]; exact e
    rw [flq_f hne (by show (stp sg br.2.2).1.1 ≠ 0; rw [e1]; exact z)]
    exact e1⟩
  have hg := h0.2.2.1.2
  have hBd := h0.2.2.2.2.2.2.2.1.1
  have hZ := h0.2.2.2.2.1.2
  have ib : i32 (b : Int) := i32s (by omega) (by omega)
  have ix : i32 ((8 * c + b : Nat) : Int) := i32s (by omega) (by omega)
  have ifs : i32 (fs : Int) := i32s (by omega) (by omega)
  have b480 : ((0 : Int) ≤ ((8 * c + b : Nat) : Int) ∧ ((8 * c + b : Nat) : Int) < ((480 : Nat) : Int)) := by omega
  intro t
  induction t with
  | zero =>
    intro i M2 i0 hi9 h hnx hz hf
    have ei : i = fs + mn := by omega
    subst ei
    obtain ⟨x1, gg, en, xd, op, cA, cD⟩ := id h
    have o2 := gg.1
    have w2 := gg.2.1
    have gs := x1.gs wd0 hg
    have r29 : mI M2 (g + 29) (8 * c + b) = (mn : Int) := by rw [(gs.2.1 29 (by omega) (by omega)).1]; exact h29
    refine k_MM_way_59 o2 ib ipl ix ifs (i32s (by omega) (by omega)) ⟨w2.1.1, ?_⟩
    rw [gg.2.2.1.1, show mR M2 g 26 = g + 29 from (w2.gp hg).2.2.1.2.2.2.2.2.2.2.2.2.2.2.1, Int.toNat_natCast, r29]
    refine ⟨(w2.gp hg).1, (w2.gp hg).2.2.2.2.2.2.2.2.2.2.2.2.1, by rw [(w2.gp hg).2.2.2.2.2.2.2.2.2.2.2.2.2]; exact b480, i32s (by omega) (by omega), fun _ => ⟨fun z16 => ?_, fun z16 => ⟨o2, h.x z16, flt z16 (hf z16)⟩⟩, fun q => absurd (Or.inl (by omega)) q⟩
    obtain ⟨⟨eS1, eS2, eB, eW, eL⟩, zx, nx, zn, zs⟩ := hz z16
    rw [show fs + mn - fs = mn by omega, List.drop_eq_nil_of_le (by omega)] at zs
    have zs : stq9 ww (cvS sg) pl lo hi br.2.2 (fun v => sg.getD v 0) = ((0, 0), nx) := zs
    have sp1 : (stp sg br.2.2).1 = (0, 0) := by rw [hstp, zs]
    have sp2 : (stp sg br.2.2).2 = nxR M2 a W := by
      rw [hstp, zs]
      unfold nxR
      exact List.map_congr_left (fun v hv => (zn v (List.mem_range.mp hv)).symm)
    refine (x_MM_stateOf (d := d + 6) gg xd.1.1 xd.1.2.2 xd.2.2.1 (hnx z16)).mono (fun x M3 t3 => ?_)
    obtain ⟨ixx, o3, hs, hso⟩ := t3
    rw [eS2, ← sp2] at hso
    refine ⟨ixx, o3, ?_⟩
    rcases hs with ⟨y1, y2⟩ | ⟨n', y1, y2, y3, y4, m3, y5, y6, y7⟩
    · subst y2
      refine ⟨fun q => by omega, fun _ => ⟨w2.1.1, ?_⟩⟩
      rw [gg.2.2.1.1, show mR M3 g 24 = g + 27 from (w2.gp hg).2.2.1.2.2.2.2.2.2.2.2.2.1]
      refine ⟨(w2.gp hg).1, (w2.gp hg).2.2.2.2.2.2.2.2.2.2.1.1, by rw [(w2.gp hg).2.2.2.2.2.2.2.2.2.2.1.2]; exact b480, (s_MM_stop ⟨by decide, by decide⟩ (o2 _ _).1 o2 w2).mono (fun M4 h4 => ⟨h4.1.1, h4.1.1, h.stp (by decide) h4, Or.inl ⟨by rw [h4.2.1]; decide, fun rest => ?_⟩⟩)⟩
      have en9 : enq9 S (stp sg br.2.2).2 = none := by
        rcases hso with ⟨e, -⟩ | ⟨k, S', -, e, -⟩
        · exact e
        · omega
      rw [flq_n hne (by show (stp sg br.2.2).1.1 = 0; rw [sp1]) en9, h4.2.1, h4.2.2.1]
      show ((5 : Int), br.1) = _
      rw [(gs.2.1 27 (by omega) (by omega)).1, hbr.1]
    · obtain ⟨kk, S', en9, ek, el, eS⟩ : ∃ (k : Nat) (S' : List (List Int)), enq9 S (stp sg br.2.2).2 = some (k, S') ∧ x = (k : Int) ∧ mI M3 a 29 = ((S'.length : Nat) : Int) ∧ SmR M3 a W S'.length = S' := by
        rcases hso with ⟨-, e⟩ | e
        · omega
        · exact e
      have eln : S'.length = n' := by
        rw [y5] at el
        omega
      rw [eln] at eS
      have h3 := h.so (x := x) y1 y2 m3 y5 y6 y7
      have gg3 := h3.2.1
      have w3 := gg3.2.1
      have op3 := h3.2.2.2.2.1
      have l111 : mI M3 (a + 111) 1 = (L + 1 : Nat) := h3.2.2.2.1.2.2.2.2.1.2.1
      refine ⟨fun _ => ⟨w3.1.1, ?_⟩, fun q => absurd y3 q⟩
      rw [show mR M3 a 36 = a + 111 from w3.1.2.2.2.2.2.1.2.2.2.2.2.1, l111, show ((L + 1 : Nat) : Int) - 1 = (L : Int) by omega]
      refine ⟨(w3.nu k111).1, (s_MN_at o3 (w3.nu k111) (by show (L : Int) < mI M3 (a + 111) 1; rw [l111]; omega)).mono (fun u M4 e4 => ?_)⟩
      obtain ⟨e4, hu⟩ := e4
      subst e4
      have hu' : u = (w0 : Int) := hu.trans op3.2.1.1
      subst hu'
      refine ⟨i32s (by have := h3.2.2.2.1.2.1.2; have := op3.1; omega) (by have := h3.2.2.2.1.2.1.2; have := op3.1; omega), o3, ?_⟩
      have no : ∀ q : Nat, False → q ∈ nums a := fun _ z => z.elim
      have gs23 := gs_st w2 hg m3 no (fun _ z => z.elim) (fun x z => by omega)
      have cc : ∀ o, frO o → o ≠ 0 → o ≠ 105 → mI M4 (a + o) = mI M2 (a + o) ∧ mL M4 (a + o) = mL M2 (a + o) := fun o fo o0 o1 => m3.cellL w2 no (offx fo) (by omega)
      have c85 := (cc 21185 (by decide) (by decide) (by decide)).1
      have c86 := (cc 21186 (by decide) (by decide) (by decide)).2
      have c87 := (cc 21187 (by decide) (by decide) (by decide)).2
      have eB3 : Bl = brR M4 a w0 mul (w - w0) := by
        rw [← eB]
        exact (brR_cg (M := M2) (M' := M4) (fun i _ _ => by rw [c85, c86, c87]; exact ⟨rfl, rfl, rfl⟩)).symm
      have eW3 : Wc M4 a w := fun j hj => by
        rw [c86, c87]
        exact eW j hj
      have key := x_way187 (G := G) (d := d) (fq := flq9 stp sg pc mul w0) (x := (br, A, D)) (S := S) (S2 := S') (tn9 := kk) (xv := XV sg) (fun j hj => by rw [c85, c86, c87]; exact eL j hj) (zx.mv w2 m3 no gs23 (fun x z => by omega)) ⟨eln, eS⟩ eB3 eW3 gAD ek (fun rest => flq_e hne (by show (stp sg br.2.2).1.1 = 0; rw [sp1]) en9) ipl hb hw0 hA hD hdm hle ⟨y3, y4⟩ h3 (by rw [y6 16 (by decide)]; exact z16) hL (w - w0) w0 (Nat.le_refl _) (by have := op3.1; omega) (fun j' h1 h2 => absurd h2 (by omega))
      have hq : ∀ M', (mOk M' ∧ wyQ M a g T R W C Z E tg n' L w w0 mul (Sm + A * (mul / D)) B M' ∧ foR (flq9 stp sg pc mul w0) (br, A, D) S Bl a W w0 mul (XV sg) g R M M') → mOk M' ∧ wyQ M a g T R W C Z E tg n L w w0 mul (Sm + A * (mul / D)) B M' ∧ foR (flq9 stp sg pc mul w0) (br, A, D) S Bl a W w0 mul (XV sg) g R M M' := fun M' z => ⟨z.1, z.2.1.up (by omega), z.2.2⟩
      exact mWm.mono key (fun r M' z => ⟨z.1, hq M' z.2⟩)
  | succ t ih =>
    intro i M2 i0 hi9 h hnx hz hf
    obtain ⟨x1, gg, en, xd, op, cA, cD⟩ := id h
    have o2 := gg.1
    have w2 := gg.2.1
    have gs := x1.gs wd0 hg
    have r29 : mI M2 (g + 29) (8 * c + b) = (mn : Int) := by rw [(gs.2.1 29 (by omega) (by omega)).1]; exact h29
    have iZ : i < Z := by omega
    obtain ⟨z30, z32, z34⟩ := gg.2.2.2.2.2.2.1
    have hD2 := gg.2.2.2.2.2.2.2.1
    obtain ⟨s1, s2, s3⟩ := hD2.2.2.2.2.2.1 i iZ
    refine k_MM_way_59 o2 ib ipl ix ifs (i32s (by omega) (by omega)) ⟨w2.1.1, ?_⟩
    rw [gg.2.2.1.1, show mR M2 g 26 = g + 29 from (w2.gp hg).2.2.1.2.2.2.2.2.2.2.2.2.2.2.1, show mR M2 g 27 = g + 30 from (w2.gp hg).2.2.1.2.2.2.2.2.2.2.2.2.2.2.2.1, Int.toNat_natCast, r29]
    refine ⟨(w2.gp hg).1, (w2.gp hg).2.2.2.2.2.2.2.2.2.2.2.2.1, by rw [(w2.gp hg).2.2.2.2.2.2.2.2.2.2.2.2.2]; exact b480, i32s (by omega) (by omega), fun q => ⟨fun z16 => absurd z16 (by
      rcases q with q | q
      · omega
      · exact q), fun z16 => ⟨o2, h.x z16, flt z16 (hf z16)⟩⟩, fun q => ⟨(w2.nu (n30 hg)).1, ?_⟩⟩
    have z16 : mI M2 a 16 = 0 := Classical.byContradiction (fun z => q (Or.inr z))
    obtain ⟨⟨eS1, eS2, eB, eW, eL⟩, zx, nx, zn, zs⟩ := hz z16
    obtain ⟨sq, hsq⟩ : ∃ sq, br.2.2[i - fs]? = some sq := ⟨_, List.getElem?_eq_getElem (by omega)⟩
    have dq : br.2.2.drop (i - fs) = sq :: br.2.2.drop (i + 1 - fs) := by
      obtain ⟨hl, he⟩ := List.getElem?_eq_some_iff.mp hsq
      rw [List.drop_eq_getElem_cons hl, he, show i - fs + 1 = i + 1 - fs by omega]
    rw [dq] at zs
    have gs02 : Gs M M2 g := gs
    obtain ⟨-, -, -, fs', hfs', hsets⟩ := hbr.gs gs02 hR
    have efs : fs' = fs := by
      have e1 : mI M2 (g + 28) (8 * c + b) = (fs : Int) := by rw [(gs.2.1 28 (by omega) (by omega)).1]; exact h28
      omega
    subst efs
    obtain ⟨sv1, sv2, sv3, sv4⟩ := hsets (i - fs') sq hsq
    rw [show fs' + (i - fs') = i by omega] at sv1 sv2 sv4
    have hp2 := hp.gs gs02 hR
    have rd : ∀ {p : Nat} {Q : Int → mM → Prop}, p ∈ nums a → (i : Int) < ln M2 p → (∀ z, z = nt M2 p i → i32 z → Q z M2) → Ci G y_MN_at (d + 6) [vr p, vi i] M2 Q := fun hp hk hQ => by
      refine (s_MN_at o2 (w2.nu hp) hk).mono (fun z M1 e1 => ?_)
      obtain ⟨e1, hz⟩ := e1
      subst e1
      exact hQ z hz (by rw [hz]; exact (o2 _ _).1)
    refine rd (n30 hg) (by rw [z30]; omega) (fun v hv iv => ⟨iv, o2, w2.1.1, ?_⟩)
    rw [gg.2.2.1.1, show mR M2 g 29 = g + 34 from (w2.gp hg).2.2.1.2.2.2.2.2.2.2.2.2.2.2.2.2.2]
    refine ⟨(w2.gp hg).1, (w2.nu (n34 hg)).1, rd (n34 hg) (by rw [z34]; omega) (fun rt hrt irt => ⟨irt, o2, w2.1.1, ?_⟩)⟩
    rw [gg.2.2.1.1, show mR M2 g 28 = g + 32 from (w2.gp hg).2.2.1.2.2.2.2.2.2.2.2.2.2.2.2.2.1]
    refine ⟨(w2.gp hg).1, (w2.nu (n32 hg)).1, rd (n32 hg) (by rw [z32]; omega) (fun p hp' ip => ⟨ip, o2, w2.1.1, ?_⟩)⟩
    have hv' : v = ((sq.1 : Nat) : Int) := hv.trans sv1
    subst hv'
    rw [← hrt] at sv4
    have hpp : p = pl sq.2.2.2 := hp'.trans sv2
    refine (x_MM_set1 (d := d) (sg := sg) gg en (hnx z16) sv3 hp2.1 zx z16 (hp2.2.2.2.1 sq.1 sv3).1 (hp2.2.2.2.1 sq.1 sv3).2 sv4 ip).mono (fun M3 t3 => ⟨t3.1, ?_⟩)
    obtain ⟨-, ⟨m3, f3, gg3, en3, nx3⟩, u3⟩ := t3
    rw [hev, hpp] at u3
    have h3 := h.st m3 (fun q hq => hq) (fun x hx => hx) f3 en3
    rw [show (i : Int) + 1 = ((i + 1 : Nat) : Int) by omega]
    refine ih (i + 1) M3 (by omega) (by omega) h3 nx3 (fun z3 => ?_) (fun z3 => ?_)
    · rcases u3 with u | ⟨u1, u2, u3', -⟩ | ⟨u1, u2, u3', u4, u5⟩
      · exact absurd (u.2.1.symm.trans z3) u.1
      · exact absurd (u3'.symm.trans z3) u2
      have un : ∀ x, sxS a x → x = a ∨ (a + 97 ≤ x ∧ x ≤ a + 98) ∨ (a + 102 ≤ x ∧ x ≤ a + 104) ∨ x = a + 21188 := fun x hx => by
        have h' : (x = a ∨ x = a + 97 ∨ x = a + 98 ∨ x = a + 102 ∨ x = a + 103 ∨ x = a + 104) ∨ x = a + 21188 := hx
        omega
      have cc : ∀ o, frO o → (o = 105 ∨ o = 21185 ∨ o = 21186 ∨ o = 21187) → mI M3 (a + o) = mI M2 (a + o) ∧ mL M3 (a + o) = mL M2 (a + o) := fun o fo ho => m3.cellL w2 in99 (offx fo) (fun z => by have := un _ z; omega)
      have c105 := (cc 105 (by decide) (by omega)).1
      have c85 := (cc 21185 (by decide) (by omega)).1
      have c86 := (cc 21186 (by decide) (by omega)).2
      have c87 := (cc 21187 (by decide) (by omega)).2
      refine ⟨⟨eS1, ?_, ?_, fun j hj => ?_, fun j hj => by rw [c85, c86, c87]; exact eL j hj⟩, u5, fun v => if v = sq.1 then (vlq ww (cvS sg) pl 0 0 sq.2.1 sq.2.2.1).2.1 else nx v, fun v hv9 => ?_, ?_⟩
      · rw [SmR_cg (M := M2) hW12 (fun j _ => by rw [c105])]; exact eS2
      · rw [brR_cg (M := M2) (M' := M3) (fun i _ _ => by rw [c85, c86, c87]; exact ⟨rfl, rfl, rfl⟩)]; exact eB
      · rw [c86, c87]; exact eW j hj
      · rw [u4, zn v hv9]
      · rw [zs, stq9, if_neg (fun u => u u1), if_neg (fun u => u (by rw [u2]))]
    · rw [zs, stq9]
      rcases u3 with u | ⟨u1, u2, u3', u4⟩ | ⟨-, -, u3', -⟩
      · rw [if_pos u.1]
        show ((vlq ww (cvS sg) pl 0 0 sq.2.1 sq.2.2.1).1, (vlq ww (cvS sg) pl 0 0 sq.2.1 sq.2.2.1).2.1) = _
        rw [u.2.1, u.2.2]
      · rw [if_neg (fun u => u u1), if_pos u2]
        show stfq _ _ _ _ _ = _
        rw [u3', u4]
      · exact absurd u3' z3
theorem x_MM_way {b c : Nat} {pc : Int} {br : br9} {S : List (List Int)} {Bl : List (Nat × Int)} (hev : ∀ sg i j, ev sg i j = vlq ww (cvS sg) pl 0 0 i j) (hstp : ∀ sg l, stp sg l = ((stq9 ww (cvS sg) pl lo hi l (fun v => sg.getD v 0)).1, (List.range W).map (stq9 ww (cvS sg) pl lo hi l (fun v => sg.getD v 0)).2)) (hp : GP ww pl XV ev M g R W C T E tgI cms lo hi) (hbr : RBr ww pl XV ev M g R W T E (8 * c + b) br) (gAD : Int.gcd A D = 1) (z16 : mI M a 16 = 0) (eS : S.length = n ∧ SmR M a W n = S) (eB : brR M a w0 mul (w - w0) = Bl) (eW : Wc M a w) (xq : XVq M a g R W (XV sg)) (hsg : ∀ v, v < W → mI M (a + 101) v = sg.getD v 0) (h : wI M a g T R W C Z E tg n L w w0 mul Sm A D B b M) (ipl : i32 pc) (hc : c < C) (hbn : (b : Int) < mI M (g + 25) c) (hw0 : B L = w0) (hA : 0 < A ∧ A < 1000000000) (hD : 0 < D ∧ D < 1000000000) (hdm : D ∣ mul) (hle : Sm + A * (mul / D) ≤ mul) (hL : L ≤ 4096) : Cv G y_MM_way (d + 7) [vr a, vi c, vi b, vi pc] M (fun M' => mOk M' ∧ wyQ M a g T R W C Z E tg n L w w0 mul (Sm + A * (mul / D)) B M' ∧ foR (flq9 stp sg pc mul w0) (br, A, D) S Bl a W w0 mul (XV sg) g R M M') := by
  obtain ⟨x1, gg, en, xd, op, cA, cD⟩ := id h
  have wd := gg.2.1
  have hg := gg.2.2.1.2
  have hD0 := gg.2.2.2.2.2.2.2.1
  have hBd := hD0.1
  have cc := hD0.2.2.2.2.1 c hc
  have hb : b < 8 := by have := cc.2.2.1; omega
  have bc := cc.2.2.2 b hbn
  obtain ⟨fs, hfs⟩ : ∃ fs : Nat, mI M (g + 28) (8 * c + b) = (fs : Int) := ⟨(mI M (g + 28) (8 * c + b)).toNat, by have := bc.2.1; omega⟩
  obtain ⟨mn, hmn⟩ : ∃ mn : Nat, mI M (g + 29) (8 * c + b) = (mn : Int) := ⟨(mI M (g + 29) (8 * c + b)).toNat, by have := bc.2.2.1; omega⟩
  have hfm : fs + mn ≤ Z := by have := bc.2.2.2; omega
  have g12 := gg.2.2.2.2.2.1.2.1
  have ib : i32 (b : Int) := i32s (by omega) (by omega)
  have ix : i32 ((8 * c + b : Nat) : Int) := i32s (by omega) (by omega)
  have b480 : ((0 : Int) ≤ ((8 * c + b : Nat) : Int) ∧ ((8 * c + b : Nat) : Int) < ((480 : Nat) : Int)) := by omega
  refine k_MM_way gg.1 (i32s (by omega) (by omega)) ib ipl ?_
  rw [show 8 * (c : Int) + (b : Int) = ((8 * c + b : Nat) : Int) by omega]
  suffices H : ∀ (t v : Nat) (M2 : mM), v + t = W → wI M a g T R W C Z E tg n L w w0 mul Sm A D B b M2 → mI M2 (a + 101) = mI M (a + 101) → (∀ v', v' < v → mI M2 (a + 21188) v' = mI M (a + 101) v') → (mI M2 a 16 = 0 ∧ SmR M2 a W n = S ∧ brR M2 a w0 mul (w - w0) = Bl ∧ Wc M2 a w ∧ XVq M2 a g R W (XV sg) ∧ Lw M M2 a w0) → h_MM_way_11 G (d + 6) a b pc (8 * c + b : Nat) v M2 (fun M' => mOk M' ∧ wyQ M a g T R W C Z E tg n L w w0 mul (Sm + A * (mul / D)) B M' ∧ foR (flq9 stp sg pc mul w0) (br, A, D) S Bl a W w0 mul (XV sg) g R M M') from H W 0 M (by omega) h rfl (fun v' hv' => absurd hv' (by omega)) ⟨z16, eS.2, eB, eW, xq, fun _ _ => ⟨rfl, rfl, rfl⟩⟩
  have hW12 := gg.2.2.2.2.2.2.2.1.1.2.1
  intro t
  induction t with
  | zero =>
    intro v M2 hv h2 e101 hn hk
    have ev : v = W := by omega
    subst ev
    have gg2 := h2.2.1
    have w2 := gg2.2.1
    have gs := h2.1.gs wd hg
    have r28 : mI M2 (g + 28) (8 * c + b) = (fs : Int) := by rw [(gs.2.1 28 (by omega) (by omega)).1]; exact hfs
    refine k_MM_way_11 gg2.1 ib ipl ix (i32s (by omega) (by omega)) ⟨w2.1.1, ?_⟩
    rw [gg2.2.2.1.1, gg2.2.2.2.2.2.1.2.1, show mR M2 g 25 = g + 28 from (w2.gp hg).2.2.1.2.2.2.2.2.2.2.2.2.2.1, Int.toNat_natCast, r28]
    refine ⟨(w2.gp hg).1, fun _ => ⟨(w2.gp hg).2.2.2.2.2.2.2.2.2.2.2.1.1, by rw [(w2.gp hg).2.2.2.2.2.2.2.2.2.2.2.1.2]; exact b480, x_way59 hev hstp hp hbr gAD gg ipl hb hc hfs hmn hfm hw0 hA hD hdm hle hL mn fs M2 (Nat.le_refl _) rfl h2 (fun _ v' hv' => ?_) (fun _ => ⟨⟨eS.1, hk.2.1, hk.2.2.1, hk.2.2.2.1, hk.2.2.2.2.2⟩, hk.2.2.2.2.1, fun v => sg.getD v 0, fun v' hv' => by rw [hn v' hv']; exact hsg v' hv', by rw [Nat.sub_self]; rfl⟩) (fun z => absurd hk.1 z)⟩, fun q => absurd (Int.le_refl _) q⟩
    rw [(gs.2.1 19 (by omega) (by omega)).1, (gs.2.1 20 (by omega) (by omega)).1, hn v' hv']
    exact en.2 v' hv'
  | succ t ih =>
    intro v M2 hv h2 e101 hn hk
    have gg2 := h2.2.1
    have w2 := gg2.2.1
    have A1 : mK M2 (a + 101) = 30 ∧ mN M2 (a + 101) = 12 := w2.1.2.2.2.2.2.2.2.1.2.2.1
    have A8 : mK M2 (a + 21188) = 30 ∧ mN M2 (a + 21188) = 12 := w2.1.2.2.2.2.2.2.2.2.2.1.2.2.2.1
    have b12 : ((0 : Int) ≤ (v : Int) ∧ (v : Int) < ((12 : Nat) : Int)) := by omega
    refine k_MM_way_11 gg2.1 ib ipl ix (i32s (by omega) (by omega)) ⟨w2.1.1, ?_⟩
    rw [gg2.2.2.1.1, gg2.2.2.2.2.2.1.2.1, show mR M2 a 25 = a + 101 from w2.1.2.2.2.2.1.2.2.2.2.2.2.2.2.2.1, show mR M2 a 44 = a + 21188 from w2.1.2.2.2.2.2.2.1.2.2.2.1, Int.toNat_natCast, Int.toNat_natCast, e101]
    refine ⟨(w2.gp hg).1, fun q => absurd q (by omega), fun _ => ⟨A1.1, by rw [A1.2]; exact b12, A8.1, by rw [A8.2]; exact b12, fun M3 e3 => ?_⟩⟩
    obtain ⟨m3, f3, l3⟩ := mv_cell (gg.1 _ _).1 gg2.1 w2 (show a ≤ a + 21188 by omega) (offx (a := a) (o := 21188) (by decide)) e3
    have no : ∀ q : Nat, False → q ∈ nums a := fun _ z => z.elim
    have gs3 := gs_st w2 hg m3 no (fun _ z => z.elim) (fun x z => by omega)
    have en3 := h2.2.2.1.mv w2 m3 no gs3 (fun x z => by omega)
    have h3 := h2.st m3 (fun _ z => z.elim) (fun x z => Or.inr z) (fun i _ _ _ => by rw [(m3.fld w2 no (by omega)).1]) en3
    have cc : ∀ o, frO o → (o = 105 ∨ o = 21185 ∨ o = 21186 ∨ o = 21187) → mI M3 (a + o) = mI M2 (a + o) ∧ mL M3 (a + o) = mL M2 (a + o) := fun o fo ho => m3.cellL w2 no (offx fo) (by omega)
    have nx := ih (v + 1) M3 (by omega) h3 (by rw [← e101]; exact (m3.cellL w2 no (offx (a := a) (o := 101) (by decide)) (by omega)).1) (fun v' hv' => ?_) ⟨by rw [(m3.fld w2 no (by omega)).1]; exact hk.1, by rw [SmR_cg (M := M2) hW12 (fun j _ => by rw [(cc 105 (by decide) (by omega)).1])]; exact hk.2.1, by rw [brR_cg (M := M2) (M' := M3) (fun i _ _ => by rw [(cc 21185 (by decide) (by omega)).1, (cc 21186 (by decide) (by omega)).2, (cc 21187 (by decide) (by omega)).2]; exact ⟨rfl, rfl, rfl⟩)]; exact hk.2.2.1, fun j hj => by rw [(cc 21186 (by decide) (by omega)).2, (cc 21187 (by decide) (by omega)).2]; exact hk.2.2.2.1 j hj, hk.2.2.2.2.1.mv w2 m3 no gs3 (fun x z => by omega), fun j hj => by rw [(cc 21185 (by decide) (by omega)).1, (cc 21186 (by decide) (by omega)).2, (cc 21187 (by decide) (by omega)).2]; exact hk.2.2.2.2.2 j hj⟩
    · rw [show ((v + 1 : Nat) : Int) = (v : Int) + 1 by omega] at nx
      exact nx
    · rw [f3]
      by_cases y : v' = v
      · rw [if_pos ⟨rfl, y⟩, y]
      · rw [if_neg (fun z => y z.2)]
        exact hn v' (by omega)
end WZX
end
section
/-! The reference: an enabled command, exactly. -/
section ENX2
variable {G : mG} {d a g T R W C Z n L w w0 k : Nat} {M M' M2 M3 : mM} {E : Eg9} {tg mul : Int} {B : Nat → Nat} {ww pl lo hi : Nat → Int} {XV : List Int → Int → vrs} {ev : List Int → Nat → Nat → vrs} {cvS : List Int → Nat → vrs} {stp : List Int → List (Nat × Nat × Nat × Nat) → (Int × Int) × List Int} {tgI : Nat × Nat} {cms : List cm9} {sg : List Int}
/-- command number i -/
def cmQ (M : mM) (a i : Nat) : sc9 := ((nt M (a + 109) i).toNat, nt M (a + 115) i, brR M a (nt M (a + 111) i).toNat (nt M (a + 115) i) (nt M (a + 113) i).toNat)
/-- m commands from L0 on -/
def cmL (M : mM) (a L0 m : Nat) : List sc9 := (List.range m).map (fun t => cmQ M a (L0 + t))
/-- a state's kind and commands -/
def stR (M : mM) (a k : Nat) : Int × List sc9 := (mI M (a + 106) k, cmL M a (mI M (a + 107) k).toNat (mI M (a + 108) k).toNat)
/-- the first k states -/
def xtR (M : mM) (a k : Nat) : xt9 := (List.range k).map (stR M a)
theorem cmL_s {L0 m : Nat} : cmL M a L0 (m + 1) = cmL M a L0 m ++ [cmQ M a (L0 + m)] := by
  unfold cmL
  rw [List.range_succ, List.map_append]
  rfl
theorem cmL_cg {L0 m : Nat} (h : ∀ i, L0 ≤ i → i < L0 + m → cmQ M' a i = cmQ M a i) : cmL M' a L0 m = cmL M a L0 m := by
  unfold cmL
  exact List.map_congr_left (fun t ht => h (L0 + t) (by omega) (by have := List.mem_range.mp ht; omega))
theorem xtR_s : xtR M a (k + 1) = xtR M a k ++ [stR M a k] := by
  unfold xtR
  rw [List.range_succ, List.map_append]
  rfl
theorem xtR_cg (h6 : ∀ k', k' < k → mI M' (a + 106) k' = mI M (a + 106) k') (h7 : ∀ k', k' < k → mI M' (a + 107) k' = mI M (a + 107) k' ∧ mI M' (a + 108) k' = mI M (a + 108) k') (hb : ∀ k', k' < k → (mI M (a + 107) k').toNat + (mI M (a + 108) k').toNat ≤ L) (hc : ∀ i, i < L → cmQ M' a i = cmQ M a i) : xtR M' a k = xtR M a k := by
  unfold xtR
  refine List.map_congr_left (fun k' hk => ?_)
  have hk' := List.mem_range.mp hk
  unfold stR
  rw [h6 k' hk', (h7 k' hk').1, (h7 k' hk').2, cmL_cg (M := M) (fun i i1 i2 => hc i (by have := hb k' hk'; omega))]
theorem smq_1 {m : Int} {c : Int × Int} : ∀ l : List (Int × Int), smq9 m (l ++ [c]) = smq9 m l + m / c.2 * c.1
  | [] => by
    show m / c.2 * c.1 + 0 = 0 + m / c.2 * c.1
    omega
  | x :: l => by
    show m / x.2 * x.1 + smq9 m (l ++ [c]) = m / x.2 * x.1 + smq9 m l + m / c.2 * c.1
    rw [smq_1 l]
    omega
theorem chq_get {br : br9} : ∀ {l : List br9} {b : Nat}, (chq9 ev sg l).1.1 = 0 → l[b]? = some br → (chq9 ev sg l).2[b]? = some (ev sg br.2.1.1 br.2.1.2).2 ∧ (ev sg br.2.1.1 br.2.1.2).1 = 0
  | [], b, _, h => by simp at h
  | x :: l, b, h0, h => by
    by_cases c1 : (ev sg x.2.1.1 x.2.1.2).1 = 0
    rotate_left
    · rw [chq_f c1] at h0
      exact absurd h0 c1
    by_cases c2 : (ev sg x.2.1.1 x.2.1.2).2.1 < 0 ∨ (ev sg x.2.1.1 x.2.1.2).2.2 < (ev sg x.2.1.1 x.2.1.2).2.1
    · rw [chq_r c1 c2] at h0
      exact absurd (show (11 : Int) = 0 from h0) (by decide)
    rw [chq_s c1 c2] at h0 ⊢
    cases b with
    | zero =>
      have e : x = br := by simpa using h
      subst e
      exact ⟨rfl, c1⟩
    | succ b =>
      have h' : l[b]? = some br := by simpa using h
      have := chq_get (b := b) (l := l) h0 h'
      exact ⟨by simpa using this.1, this.2⟩
/-- chances stand in lowest terms -/
def GOk (ev : List Int → Nat → Nat → vrs) (cms : List cm9) (sg : List Int) : Prop := ∀ (c : Nat) (cm : cm9), cms[c]? = some cm → ∀ (b : Nat) (br : br9), cm.2.2.2[b]? = some br → (ev sg br.2.1.1 br.2.1.2).1 = 0 → Int.gcd (ev sg br.2.1.1 br.2.1.2).2.1 (ev sg br.2.1.1 br.2.1.2).2.2 = 1
/-- tables stay while a command's branches are followed -/
def Tq (M M' : mM) (a L w0 : Nat) : Prop := nt M' (a + 109) = nt M (a + 109) ∧ nt M' (a + 111) = nt M (a + 111) ∧ nt M' (a + 115) = nt M (a + 115) ∧ (∀ i, i < L → nt M' (a + 113) i = nt M (a + 113) i) ∧ mI M' (a + 106) = mI M (a + 106) ∧ Lw M M' a w0
theorem Tq.refl : Tq M M a L w0 := ⟨rfl, rfl, rfl, fun _ _ => rfl, rfl, fun _ _ => ⟨rfl, rfl, rfl⟩⟩
theorem Tq.trans (h : Tq M M2 a L w0) (k : Tq M2 M3 a L w0) : Tq M M3 a L w0 := ⟨k.1.trans h.1, k.2.1.trans h.2.1, k.2.2.1.trans h.2.2.1, fun i hi => (k.2.2.2.1 i hi).trans (h.2.2.2.1 i hi), k.2.2.2.2.1.trans h.2.2.2.2.1, fun j hj => ⟨(k.2.2.2.2.2 j hj).1.trans (h.2.2.2.2.2 j hj).1, (k.2.2.2.2.2 j hj).2.1.trans (h.2.2.2.2.2 j hj).2.1, (k.2.2.2.2.2 j hj).2.2.trans (h.2.2.2.2.2 j hj).2.2⟩⟩
/-- states and branches so far -/
def exS (S : List (List Int)) (Bl : List (Nat × Int)) (M7 : mM) (a W L w0 : Nat) (mul : Int) (xv : Int → vrs) (g R : Nat) (M2 : mM) : Prop := mI M2 a 29 = ((S.length : Nat) : Int) ∧ SmR M2 a W S.length = S ∧ ∃ w9 : Nat, mI M2 a 40 = (w9 : Int) ∧ brR M2 a w0 mul (w9 - w0) = Bl ∧ Wc M2 a w9 ∧ XVq M2 a g R W xv ∧ Tq M7 M2 a L w0
/-- all branches have been followed -/
def enZ9 (fl : (Int × Int) × List (List Int) × List (Nat × Int)) (M7 : mM) (a W L w0 : Nat) (mul : Int) (xv : Int → vrs) (g R : Nat) (sg : List Int) (M' : mM) : Prop := (mI M' a 16 ≠ 0 ∧ fl.1 = (mI M' a 16, mI M' a 17)) ∨ (mI M' a 16 = 0 ∧ ∃ (S : List (List Int)) (Bl : List (Nat × Int)), fl = ((0, 0), S, Bl) ∧ exS S Bl M7 a W L w0 mul xv g R M' ∧ ∀ v, v < W → mI M' (a + 101) v = sg.getD v 0)
/-- between two commands of state k -/
def GQr (M : mM) (a W k L0 : Nat) (T : xt9) (s : sl9) : Prop := s.1 = (0, 0) ∧ mI M a 29 = ((s.2.1.length : Nat) : Int) ∧ SmR M a W s.2.1.length = s.2.1 ∧ xtR M a k = T ∧ mI M (a + 106) k = s.2.2.1 ∧ (∀ k', k' < k → (mI M (a + 107) k').toNat + (mI M (a + 108) k').toNat ≤ L0) ∧ ∃ L w : Nat, mI M (a + 107) k = (L0 : Int) ∧ (L0 ≤ L ∧ mI M (a + 108) k = ((L - L0 : Nat) : Int)) ∧ ln M (a + 109) = (L : Int) ∧ mI M a 40 = (w : Int) ∧ cmL M a L0 (L - L0) = s.2.2.2 ∧ nbx9 T + nbq9 s.2.2.2 = w ∧ Wc M a w
/-- what an enabled command comes to -/
def eyX (RR : sl9) (T9 : xt9) (a W k L0 : Nat) (xv : Int → vrs) (g R : Nat) (sg : List Int) (M' : mM) : Prop := (mI M' a 16 ≠ 0 ∧ RR.1 = (mI M' a 16, mI M' a 17)) ∨ (mI M' a 16 = 0 ∧ GQr M' a W k L0 T9 RR ∧ XVq M' a g R W xv ∧ ∀ v, v < W → mI M' (a + 101) v = sg.getD v 0)
/-- the command is put on the lists -/
theorem en_putx {c : Nat} {M4 M5 M6 M7 : mM} (h : eB M a g T R W C Z E tg n L w B M2) (hw : B L = w) (hk : 0 ≤ mI M (a + 108) k ∧ mI M (a + 108) k ≤ 5000) (hm : 1 ≤ mul ∧ mul < 1000000000) (a3 : adQ M2 (a + 109) c M3) (a4 : adQ M3 (a + 115) mul M4) (a5 : adQ M4 (a + 111) (w : Int) M5) (a6 : adQ M5 (a + 113) 0 M6) (e7 : M7 = mUI M6 (a + 108) k (mI M (a + 108) k + 1)) : (mL M7 = mL M6 ∧ mL M6 (a + 21189) = mL M2 (a + 21189) ∧ mL M6 (a + 21190) = mL M2 (a + 21190)) ∧ mI M7 a = mI M2 a ∧ mOk M7 ∧ xF M a M7 ∧ GG M7 a g T R W C Z E tg ∧ En M7 a g R W ∧ (mI M7 (a + 107) = mI M (a + 107) ∧ (∀ k', k' ≠ k → mI M7 (a + 108) k' = mI M (a + 108) k') ∧ mI M7 (a + 108) k = mI M (a + 108) k + 1) ∧ XD M7 a g n W L w (L + 1) B ∧ Op M7 a L w w mul 0 ∧ (nt M7 (a + 109) L = (c : Int) ∧ ∀ i, i < L → nt M7 (a + 109) i = nt M2 (a + 109) i ∧ nt M7 (a + 111) i = nt M2 (a + 111) i ∧ nt M7 (a + 113) i = nt M2 (a + 113) i ∧ nt M7 (a + 115) i = nt M2 (a + 115) i) ∧ mI M7 (a + 106) = mI M2 (a + 106) ∧ mI M7 (a + 105) = mI M2 (a + 105) ∧ (mI M7 (a + 21185) = mI M2 (a + 21185) ∧ mL M7 (a + 21186) = mL M2 (a + 21186) ∧ mL M7 (a + 21187) = mL M2 (a + 21187)) ∧ Mv (xP a) (fun x => x = a + 108) M2 a M7 ∧ Gs M2 M7 g := by
  obtain ⟨x1, gg, en, xd, t107, t108⟩ := h
  obtain ⟨d1, d2, d3, d4, ⟨l109, l111, l113, l115⟩, d6, d7⟩ := id xd
  have w2 := gg.2.1
  have hg := gg.2.2.1.2
  have m3 := mv_add w2 k109 a3
  have w3 := m3.2.1
  have m4 := mv_add w3 k115 a4
  have w4 := m4.2.1
  have m5 := mv_add w4 k111 a5
  have w5 := m5.2.1
  have m6 := mv_add w5 k113 a6
  have w6 := m6.2.1
  obtain ⟨m7, f7, l7⟩ := mv_cell (v := mI M (a + 108) k + 1) (i32s (by omega) (by omega)) m6.1 w6 (show a ≤ a + 108 by omega) (offx (a := a) (o := 108) (by decide)) e7
  have i1 : ∀ {p q : Nat}, p ∈ nums a → q = p → q ∈ nums a := fun hp hq => by rw [hq]; exact hp
  have up : ∀ {Mx My : mM} {p : Nat}, Wd Mx a → xP a p → Mv (fun x => x = p) (fun _ => False) Mx a My → Mv (xP a) (fun x => x = a + 108) Mx a My := fun wx hp m => m.mono (fun q hq => by rw [hq]; exact hp) (fun _ z => z.elim) (fun q hq => wx.lt (xP_in hq))
  have mm : Mv (xP a) (fun x => x = a + 108) M2 a M7 := ((((up w2 (by show a + 109 = a + 99 ∨ a + 109 = a + 109 ∨ a + 109 = a + 111 ∨ a + 109 = a + 113 ∨ a + 109 = a + 115; omega) m3).trans (up w3 (by show a + 115 = a + 99 ∨ a + 115 = a + 109 ∨ a + 115 = a + 111 ∨ a + 115 = a + 113 ∨ a + 115 = a + 115; omega) m4)).trans (up w4 (by show a + 111 = a + 99 ∨ a + 111 = a + 109 ∨ a + 111 = a + 111 ∨ a + 111 = a + 113 ∨ a + 111 = a + 115; omega) m5)).trans (up w5 (by show a + 113 = a + 99 ∨ a + 113 = a + 109 ∨ a + 113 = a + 111 ∨ a + 113 = a + 113 ∨ a + 113 = a + 115; omega) m6)).trans (m7.mono (fun _ z => z.elim) (fun x z => z) (fun q hq => w6.lt (xP_in hq)))
  have hin : ∀ q, xP a q → q ∈ nums a := fun q hq => xP_in hq
  have aI : mI M7 a = mI M2 a := (mm.fld w2 hin (by omega)).1
  have F27 : xF M2 a M7 := xF.mk w2 mm (fun q hq => hq) (fun x hx => Or.inr (Or.inl (by omega))) (fun i _ _ _ _ _ => by rw [aI])
  have gs := F27.gs w2 hg
  have s7 : ∀ {q}, q ∈ nums a → sameN M6 M7 q := fun hq => m7.lst hq (fun z => z)
  have cl : ∀ o, frO o → o ≠ 108 → mI M7 (a + o) = mI M2 (a + o) ∧ mL M7 (a + o) = mL M2 (a + o) := fun o fo ho => mm.cellL w2 hin (offx fo) (by omega)
  have c86 := cl 21186 (by decide) (by decide)
  have c87 := cl 21187 (by decide) (by decide)
  have c85 := cl 21185 (by decide) (by decide)
  have c105 := cl 105 (by decide) (by decide)
  have c107 := cl 107 (by decide) (by decide)
  have c89 := cl 21189 (by decide) (by decide)
  have c90 := cl 21190 (by decide) (by decide)
  have e108 : mI M6 (a + 108) = mI M (a + 108) := by
    rw [← t108, (m6.cellL w5 (fun q hq => i1 k113 hq) (offx (a := a) (o := 108) (by decide)) (fun z => z)).1, (m5.cellL w4 (fun q hq => i1 k111 hq) (offx (a := a) (o := 108) (by decide)) (fun z => z)).1, (m4.cellL w3 (fun q hq => i1 k115 hq) (offx (a := a) (o := 108) (by decide)) (fun z => z)).1, (m3.cellL w2 (fun q hq => i1 k109 hq) (offx (a := a) (o := 108) (by decide)) (fun z => z)).1]
  -- the lists
  have q109 : ln M7 (a + 109) = (L + 1 : Nat) := by rw [(s7 k109).1, (m6.lst k109 (by omega)).1, (m5.lst k109 (by omega)).1, (m4.lst k109 (by omega)).1, a3.2.2.2.1, l109]; omega
  have z115 : ln M3 (a + 115) = (L : Int) := by rw [(m3.lst k115 (by omega)).1, l115]
  have z111 : ln M4 (a + 111) = (L : Int) := by rw [(m4.lst k111 (by omega)).1, (m3.lst k111 (by omega)).1, l111]
  have z113 : ln M5 (a + 113) = (L : Int) := by rw [(m5.lst k113 (by omega)).1, (m4.lst k113 (by omega)).1, (m3.lst k113 (by omega)).1, l113]
  have q115 : ln M7 (a + 115) = (L + 1 : Nat) := by rw [(s7 k115).1, (m6.lst k115 (by omega)).1, (m5.lst k115 (by omega)).1, a4.2.2.2.1, z115]; omega
  have q111 : ln M7 (a + 111) = (L + 1 : Nat) := by rw [(s7 k111).1, (m6.lst k111 (by omega)).1, a5.2.2.2.1, z111]; omega
  have q113 : ln M7 (a + 113) = (L + 1 : Nat) := by rw [(s7 k113).1, a6.2.2.2.1, z113]; omega
  have v115 : nt M7 (a + 115) L = mul := by
    rw [(s7 k115).2.1, (m6.lst k115 (by omega)).2.1, (m5.lst k115 (by omega)).2.1]
    have := a4.2.2.2.2.2.1
    rw [z115, Int.toNat_natCast] at this
    exact this
  have v111 : nt M7 (a + 111) L = (w : Int) := by
    rw [(s7 k111).2.1, (m6.lst k111 (by omega)).2.1]
    have := a5.2.2.2.2.2.1
    rw [z111, Int.toNat_natCast] at this
    exact this
  have v113 : nt M7 (a + 113) L = 0 := by
    rw [(s7 k113).2.1]
    have := a6.2.2.2.2.2.1
    rw [z113, Int.toNat_natCast] at this
    exact this
  have o115 : ∀ i, i < L → nt M7 (a + 115) i = nt M2 (a + 115) i := fun i hi => by rw [(s7 k115).2.1, (m6.lst k115 (by omega)).2.1, (m5.lst k115 (by omega)).2.1, a4.2.2.2.2.1 i (by rw [z115]; omega), (m3.lst k115 (by omega)).2.1]
  have o111 : ∀ i, i < L → nt M7 (a + 111) i = nt M2 (a + 111) i := fun i hi => by rw [(s7 k111).2.1, (m6.lst k111 (by omega)).2.1, a5.2.2.2.2.1 i (by rw [z111]; omega), (m4.lst k111 (by omega)).2.1, (m3.lst k111 (by omega)).2.1]
  have o113 : ∀ i, i < L → nt M7 (a + 113) i = nt M2 (a + 113) i := fun i hi => by rw [(s7 k113).2.1, a6.2.2.2.2.1 i (by rw [z113]; omega), (m5.lst k113 (by omega)).2.1, (m4.lst k113 (by omega)).2.1, (m3.lst k113 (by omega)).2.1]
  have v109 : nt M7 (a + 109) L = (c : Int) := by
    rw [(s7 k109).2.1, (m6.lst k109 (by omega)).2.1, (m5.lst k109 (by omega)).2.1, (m4.lst k109 (by omega)).2.1]
    have := a3.2.2.2.2.2.1
    rw [l109, Int.toNat_natCast] at this
    exact this
  have o109 : ∀ i, i < L → nt M7 (a + 109) i = nt M2 (a + 109) i := fun i hi => by rw [(s7 k109).2.1, (m6.lst k109 (by omega)).2.1, (m5.lst k109 (by omega)).2.1, (m4.lst k109 (by omega)).2.1, a3.2.2.2.2.1 i (by rw [l109]; omega)]
  have c106 := cl 106 (by decide) (by decide)
  refine ⟨⟨l7, by rw [← l7]; exact c89.2, by rw [← l7]; exact c90.2⟩, aI, m7.1, x1.trans F27, gg.gs m7.1 m7.2.1 (by rw [mm.rfl_a w2 hin]) gs, en.mv w2 mm hin gs (fun x hx => by omega), ⟨by rw [c107.1]; exact t107, fun k' hk' => by rw [f7, if_neg (fun z => hk' z.2), e108], by rw [f7, if_pos ⟨rfl, rfl⟩]⟩, ⟨by rw [aI]; exact d1, by rw [aI]; exact d2, fun k' v hk' hv => ?_, fun j hj => by rw [c85.1, c86.2, c87.2]; exact d4 j hj, ⟨q109, q111, q113, q115⟩, ⟨d6.1, d6.2.1, by omega⟩, fun i hi => (d7 i hi).cg (o111 i hi) (o113 i hi) (o115 i hi) (fun j _ _ => by rw [c86.2, c87.2]; exact ⟨rfl, rfl⟩)⟩, ⟨Nat.le_refl _, ⟨v111, by rw [v113, Nat.sub_self]; rfl, v115⟩, hm, fun j j0 j1 => absurd j1 (by omega), by rw [Nat.sub_self]; rfl⟩, ⟨v109, fun i hi => ⟨o109 i hi, o111 i hi, o113 i hi, o115 i hi⟩⟩, c106.1, c105.1, ⟨c85.1, c86.2, c87.2⟩, mm, gs⟩
  rw [(gs.2.1 19 (by omega) (by omega)).1, (gs.2.1 20 (by omega) (by omega)).1, c105.1]
  exact d3 k' v hk' hv
theorem x_en201 {c nb : Nat} {pc : Int} {cA cD : Nat → Int} {cm : cm9} {zl : List (br9 × (Int × Int))} {S0 : List (List Int)} {M7 : mM} (hev : ∀ sg i j, ev sg i j = vlq ww (cvS sg) pl 0 0 i j) (hstp : ∀ sg l, stp sg l = ((stq9 ww (cvS sg) pl lo hi l (fun v => sg.getD v 0)).1, (List.range W).map (stq9 ww (cvS sg) pl lo hi l (fun v => sg.getD v 0)).2)) (hp : GP ww pl XV ev M g R W C T E tgI cms lo hi) (hcm : RCm ww pl XV ev M g R W T E c cm) (hzl : ∀ b, b < nb → ∃ br, cm.2.2.2[b]? = some br ∧ zl[b]? = some (br, cA b, cD b)) (hzn : zl.length = nb) (hgd : ∀ b', b' < nb → Int.gcd (cA b') (cD b') = 1) (h0 : GG M a g T R W C Z E tg) (ipl : i32 pc) (hc : c < C) (hnb : mI M (g + 25) c = (nb : Int)) (hw0 : B L = w0) (hL : L ≤ 4096) (hch : ∀ b', b' < nb → 0 ≤ cA b' ∧ cA b' ≤ cD b' ∧ 1 ≤ cD b' ∧ cD b' < 1000000000 ∧ cD b' ∣ mul) (hmul : 1 ≤ mul) (hsum : sm (fun b' => cA b' * (mul / cD b')) nb = mul) : ∀ (t b : Nat) (M2 : mM), b + t = nb → eI M a g T R W C Z E tg n L w0 k mul B cA cD b M2 → (mI M2 a 16 = 0 → ∃ (S : List (List Int)) (Bl : List (Nat × Int)), flq9 stp sg pc mul w0 zl S0 [] = flq9 stp sg pc mul w0 (zl.drop b) S Bl ∧ exS S Bl M7 a W L w0 mul (XV sg) g R M2 ∧ ∀ v, v < W → mI M2 (a + 101) v = sg.getD v 0) → (mI M2 a 16 ≠ 0 → (flq9 stp sg pc mul w0 zl S0 []).1 = (mI M2 a 16, mI M2 a 17)) → h_MM_enabled_201 G (d + 7) a c pc b M2 (fun M' => mOk M' ∧ enQ M a g T R W C Z E tg n L k B M' ∧ enZ9 (flq9 stp sg pc mul w0 zl S0 []) M7 a W L w0 mul (XV sg) g R sg M') := by
  have wd0 := h0.2.1
  have hR := h0.2.2.2.2.2.2.2.1.1.1
  have hg := h0.2.2.1.2
  have hBd := h0.2.2.2.2.2.2.2.1.1
  have nb8 : nb ≤ 8 := by
    have := (h0.2.2.2.2.2.2.2.1.2.2.2.2.1 c hc).2.2.1
    omega
  have ic : i32 (c : Int) := i32s (by omega) (by omega)
  have b60 : ((0 : Int) ≤ (c : Int) ∧ (c : Int) < ((60 : Nat) : Int)) := by omega
  have term : ∀ b', b' < nb → 0 ≤ cA b' * (mul / cD b') := fun b' hb' => by
    have := hch b' hb'
    exact Int.mul_nonneg (by omega) (Int.ediv_nonneg (by omega) (by omega))
  have finx : ∀ (b : Nat) (M2 : mM), eI M a g T R W C Z E tg n L w0 k mul B cA cD b M2 → mI M2 a 16 ≠ 0 → (flq9 stp sg pc mul w0 zl S0 []).1 = (mI M2 a 16, mI M2 a 17) → mOk M2 ∧ enQ M a g T R W C Z E tg n L k B M2 ∧ enZ9 (flq9 stp sg pc mul w0 zl S0 []) M7 a W L w0 mul (XV sg) g R sg M2 := fun b M2 h z e => ⟨h.2.1.1, ⟨h.1, h.2.1, h.2.2.1, h.2.2.2.1.1, h.2.2.2.1.2.1, Or.inl z⟩, Or.inl ⟨z, e⟩⟩
  intro t
  induction t with
  | zero =>
    intro b M2 hb h hz hf
    have eb : b = nb := by omega
    subst eb
    obtain ⟨x1, gg, en, tb, hh⟩ := id h
    have w2 := gg.2.1
    have gs := x1.gs wd0 hg
    have r25 : mI M2 (g + 25) c = (b : Int) := by rw [(gs.2.1 25 (by omega) (by omega)).1]; exact hnb
    refine k_MM_enabled_201 gg.1 ic ipl (i32s (by omega) (by omega)) ⟨w2.1.1, ?_⟩
    rw [gg.2.2.1.1, show mR M2 g 22 = g + 25 from (w2.gp hg).2.2.1.2.2.2.2.2.2.2.1, Int.toNat_natCast, r25]
    refine ⟨(w2.gp hg).1, (w2.gp hg).2.2.2.2.2.2.2.2.1.1, by rw [(w2.gp hg).2.2.2.2.2.2.2.2.1.2]; exact b60, fun _ => ?_, fun q => absurd (Or.inl (Int.le_refl _)) q⟩
    by_cases z : mI M2 a 16 = 0
    · obtain ⟨-, n2, w2', y1, y2, y3, y4⟩ := hh z
      rw [hsum] at y3
      obtain ⟨B', u1, u2, u3⟩ := Op.close y2 hw0 y3 (by omega)
      obtain ⟨S, Bl, z1, z2, z3⟩ := hz z
      refine ⟨gg.1, ⟨x1, gg, en, tb.1, tb.2.1, Or.inr ⟨z, tb.2.2, n2, w2', B', y1, u1, u2, u3⟩⟩, Or.inr ⟨z, S, Bl, ?_, z2, z3⟩⟩
      rw [z1, List.drop_eq_nil_of_le (by omega)]
      rfl
    · exact finx b M2 h z (hf z)
  | succ t ih =>
    intro b M2 hb h hz hf
    obtain ⟨x1, gg, en, tb, hh⟩ := id h
    have w2 := gg.2.1
    have gs := x1.gs wd0 hg
    have r25 : mI M2 (g + 25) c = (nb : Int) := by rw [(gs.2.1 25 (by omega) (by omega)).1]; exact hnb
    have b8 : ((0 : Int) ≤ (b : Int) ∧ (b : Int) < ((8 : Nat) : Int)) := by omega
    have hbn : b < nb := by omega
    refine k_MM_enabled_201 gg.1 ic ipl (i32s (by omega) (by omega)) ⟨w2.1.1, ?_⟩
    rw [gg.2.2.1.1, show mR M2 g 22 = g + 25 from (w2.gp hg).2.2.1.2.2.2.2.2.2.2.1, Int.toNat_natCast, r25, (r4546 w2).1.1, Int.toNat_natCast]
    refine ⟨(w2.gp hg).1, (w2.gp hg).2.2.2.2.2.2.2.2.1.1, by rw [(w2.gp hg).2.2.2.2.2.2.2.2.1.2]; exact b60, fun q => finx b M2 h ?_ (hf ?_), fun q => ⟨(r4546 w2).2.1.1, by rw [(r4546 w2).2.1.2]; exact b8, fun q0 => ?_, fun q0 => ?_⟩⟩
    · rcases q with q | q
      · omega
      · exact q
    · rcases q with q | q
      · omega
      · exact q
    · have z : mI M2 a 16 = 0 := Classical.byContradiction (fun z => q (Or.inr z))
      obtain ⟨⟨e1, e2⟩, n2, w2', y1, y2, y3, y4⟩ := hh z
      have c0 : cA b = 0 := by rw [← e1]; exact (cmpz _ _).2.2.2.1.1 q0
      rw [show (b : Int) + 1 = ((b + 1 : Nat) : Int) by omega]
      refine ih (b + 1) M2 (by omega) ⟨x1, gg, en, tb, fun _ => ⟨⟨e1, e2⟩, n2, w2', y1, y2, ?_, by omega⟩⟩ (fun _ => ?_) (fun z' => absurd z z')
      rotate_left
      · obtain ⟨S, Bl, z1, z2, z3⟩ := hz z
        obtain ⟨br, -, hb2⟩ := hzl b hbn
        have dq : zl.drop b = (br, cA b, cD b) :: zl.drop (b + 1) := by
          obtain ⟨hl, he⟩ := List.getElem?_eq_some_iff.mp hb2
          rw [List.drop_eq_getElem_cons hl, he]
        exact ⟨S, Bl, by rw [z1, dq, flq_0 (show cA b = 0 from c0)], z2, z3⟩
      have : sm (fun b' => cA b' * (mul / cD b')) (b + 1) = sm (fun b' => cA b' * (mul / cD b')) b := by
        show sm (fun b' => cA b' * (mul / cD b')) b + cA b * (mul / cD b) = _
        rw [c0, Int.zero_mul]; omega
      rw [this]
      exact y3
    · have z : mI M2 a 16 = 0 := Classical.byContradiction (fun z => q (Or.inr z))
      obtain ⟨⟨e1, e2⟩, n2, w2', y1, y2, y3, y4⟩ := hh z
      have c0 : cA b ≠ 0 := fun y => q0 ((cmpz _ _).2.2.2.1.2 (by rw [e1]; exact y))
      obtain ⟨k1, k2, k3, k4, k5⟩ := hch b hbn
      have wi : wI M2 a g T R W C Z E tg n2 L w2' w0 mul (sm (fun b' => cA b' * (mul / cD b')) b) (cA b) (cD b) B b M2 := ⟨wyF.mk (P := fun _ => False) (S := fun _ => False) w2 (Mv.refl gg.1 w2 (fun _ z => z.elim)) (fun _ z => z.elim) (fun _ z => z.elim) (fun _ _ _ _ _ _ => rfl), gg, en, y2, y3, by rw [e1], by rw [e2]⟩
      have le : sm (fun b' => cA b' * (mul / cD b')) b + cA b * (mul / cD b) ≤ mul := by
        have := sm_part (f := fun b' => cA b' * (mul / cD b')) (a := b + 1) (nb - (b + 1)) (fun c hc => term c (by omega))
        rw [show b + 1 + (nb - (b + 1)) = nb by omega, hsum] at this
        exact this
      obtain ⟨S, Bl, z1, z2, z3⟩ := hz z
      obtain ⟨br, hb1, hb2⟩ := hzl b hbn
      have dq : zl.drop b = (br, cA b, cD b) :: zl.drop (b + 1) := by
        obtain ⟨hl, he⟩ := List.getElem?_eq_some_iff.mp hb2
        rw [List.drop_eq_getElem_cons hl, he]
      rw [dq] at z1
      obtain ⟨q29, qS, w9, q40, qB, qW, qX, qT⟩ := z2
      have ew : w9 = w2' := by
        have := y2.2.1.1
        omega
      subst ew
      have eln : S.length = n2 := by
        have := y2.1.1
        omega
      rw [eln] at qS
      refine (x_MM_way (d := d) hev hstp (hp.gs gs hR) ((hcm.2.2.2.2 b br hb1).gs gs hR) (hgd b hbn) z ⟨eln, qS⟩ qB qW qX z3 wi ipl hc (by rw [r25]; omega) hw0 ⟨by omega, by omega⟩ ⟨by omega, by omega⟩ k5 le hL).mono (fun M3 t3 => ⟨t3.1, ?_⟩)
      obtain ⟨-, ⟨W3, gg3, en3, hq⟩, fo⟩ := t3
      have tab := W3.tab w2
      rw [show (b : Int) + 1 = ((b + 1 : Nat) : Int) by omega]
      refine ih (b + 1) M3 (by omega) ⟨x1.trans (W3.xf w2), gg3, en3, ?_, fun z3 => ?_⟩ (fun z4 => ?_) (fun z4 => ?_)
      · rw [tab.2.1, tab.2.2.1]; exact tb
      · rcases hq with y | ⟨-, n3, w3, u1, u2, u3, u4⟩
        · exact absurd z3 y
        · exact ⟨⟨tab.2.2.2.1.trans e1, tab.2.2.2.2.trans e2⟩, n3, w3, by omega, u3, u4, by omega⟩
      · rcases fo with ⟨f1, -⟩ | ⟨-, S', B', f1, f2, f3, w', f4, f5, f6, f7, f8⟩
        · exact absurd z4 f1
        rcases hq with y | ⟨-, n3, w3, u1, u2, u3, u4⟩
        · exact absurd z4 y
        refine ⟨S', B', by rw [z1, f1], ⟨f2, f3, w', f4, f5, f6, f7, qT.trans ?_⟩, fun v hv => ?_⟩
        · have hin : ∀ q, wyP a q → q ∈ nums a := fun q hq => wyP_in hq
          have ls : ∀ {q}, q ∈ nums a → q ≠ a + 99 → q ≠ a + 113 → nt M3 q = nt M2 q := fun hq n1 n2 => funext (fun j => (W3.1.lst hq (fun z => by
            have z' : _ = a + 99 ∨ _ = a + 113 := z
            omega)).2.1 j)
          exact ⟨ls k109 (by omega) (by omega), ls k111 (by omega) (by omega), ls k115 (by omega) (by omega), fun i hi => by rw [(u3.2.2.2.2.2.2 i hi).2.1.2, (y2.2.2.2.2.2.2 i hi).2.1.2], tab.1, f8⟩
        · have hin : ∀ q, wyP a q → q ∈ nums a := fun q hq => wyP_in hq
          rw [(W3.1.cellL w2 hin (offx (a := a) (o := 101) (by decide)) (fun z => by have := wyS_un z; omega)).1]
          exact z3 v hv
      · rcases fo with ⟨-, f1⟩ | ⟨f1, -⟩
        · rw [z1]
          exact f1 _
        · exact absurd f1 z4
end ENX2
end
section
/-! The reference: an enabled command, exactly. -/
section ENX3
variable {G : mG} {d a g T R W C Z n L w w0 k : Nat} {M M' M2 M3 : mM} {E : Eg9} {tg mul : Int} {B : Nat → Nat} {ww pl lo hi : Nat → Int} {XV : List Int → Int → vrs} {ev : List Int → Nat → Nat → vrs} {cvS : List Int → Nat → vrs} {stp : List Int → List (Nat × Nat × Nat × Nat) → (Int × Int) × List Int} {tgI : Nat × Nat} {cms : List cm9} {sg : List Int}
theorem x_en87 {c nb : Nat} {cm : cm9} {RR s9 : sl9} {T9 : xt9} {L0 : Nat} (hev : ∀ sg i j, ev sg i j = vlq ww (cvS sg) pl 0 0 i j) (hstp : ∀ sg l, stp sg l = ((stq9 ww (cvS sg) pl lo hi l (fun v => sg.getD v 0)).1, (List.range W).map (stq9 ww (cvS sg) pl lo hi l (fun v => sg.getD v 0)).2)) (hp : GP ww pl XV ev M g R W C T E tgI cms lo hi) (hcm : RCm ww pl XV ev M g R W T E c cm) (hR1 : smq9 mul (lchR M2 a nb) ≠ mul → RR = ((11, cm.2.1), s9.2)) (hR2 : smq9 mul (lchR M2 a nb) = mul → ∀ fl, flq9 stp sg cm.2.1 mul w (cm.2.2.2.zip (lchR M2 a nb)) s9.2.1 [] = fl → RR = (fl.1, fl.2.1, cm.1, s9.2.2.2 ++ [(c, mul, fl.2.2)])) (xq : XVq M2 a g R W (XV sg)) (hsg : ∀ v, v < W → mI M2 (a + 101) v = sg.getD v 0) (gq : GQr M2 a W k L0 T9 (s9.1, s9.2.1, cm.1, s9.2.2.2)) (hgd : ∀ b', b' < nb → Int.gcd (mL M2 (a + 21189) b') (mL M2 (a + 21190) b') = 1) (h0 : GG M a g T R W C Z E tg) (h : eB M a g T R W C Z E tg n L w B M2) (z16 : mI M2 a 16 = 0) (hw : B L = w) (hk5 : k < 512) (hk : 0 ≤ mI M (a + 108) k ∧ mI M (a + 108) k ≤ 5000) (hc : c < C) (hnb : mI M (g + 25) c = (nb : Int)) (hm : 1 ≤ mul ∧ mul < 1000000000) (hch : chk1 M2 a nb) (hdv : ∀ b' : Nat, b' < nb → mL M2 (a + 21190) b' ∣ mul) : ∀ (t b : Nat), b + t = nb → h_MM_enabled_87 G (d + 7) a k c cm.2.1 mul (sm (fun b' => mL M2 (a + 21189) b' * (mul / mL M2 (a + 21190) b')) b) b M2 (fun M' => mOk M' ∧ enQ M a g T R W C Z E tg n L k B M' ∧ eyX RR T9 a W k L0 (XV sg) g R sg M') := by
  obtain ⟨x1, gg, en, xd, t107, t108⟩ := id h
  have ipl : i32 cm.2.1 := by rw [← hcm.2.1]; exact (h0.1 _ _).1
  have hlen : cm.2.2.2.length = nb := by
    have e := hcm.2.2.2.1
    rw [hnb] at e
    omega
  have smE : ∀ m, sm (fun b' => mL M2 (a + 21189) b' * (mul / mL M2 (a + 21190) b')) m = smq9 mul (lchR M2 a m) := fun m => by
    induction m with
    | zero => rfl
    | succ m ih =>
      show sm (fun b' => mL M2 (a + 21189) b' * (mul / mL M2 (a + 21190) b')) m + mL M2 (a + 21189) m * (mul / mL M2 (a + 21190) m) = _
      rw [ih, lchR_s, smq_1, Int.mul_comm]
  have o2 := gg.1
  have w2 := gg.2.1
  have hg := gg.2.2.1.2
  have hBd := gg.2.2.2.2.2.2.2.1.1
  have wd0 := h0.2.1
  have gs := x1.gs wd0 hg
  have r25 : mI M2 (g + 25) c = (nb : Int) := by rw [(gs.2.1 25 (by omega) (by omega)).1]; exact hnb
  have nb8 : nb ≤ 8 := by
    have := (h0.2.2.2.2.2.2.2.1.2.2.2.2.1 c hc).2.2.1
    omega
  have hL := xd.le
  have term : ∀ b', b' < nb → 0 ≤ mL M2 (a + 21189) b' * (mul / mL M2 (a + 21190) b') ∧ mL M2 (a + 21189) b' * (mul / mL M2 (a + 21190) b') ≤ mul := fun b' hb' => by
    have c1 := hch b' hb'
    obtain ⟨q, hq⟩ := hdv b' hb'
    have e : mul / mL M2 (a + 21190) b' = q := by rw [hq]; exact Int.mul_ediv_cancel_left q (by omega)
    have q0 : 0 ≤ q := by rw [← e]; exact Int.ediv_nonneg (by omega) (by omega)
    rw [e]
    refine ⟨Int.mul_nonneg (by omega) q0, ?_⟩
    have := Int.mul_le_mul_of_nonneg_right c1.2.1 q0
    omega
  have ik : i32 (k : Int) := i32s (by omega) (by omega)
  have ic : i32 (c : Int) := i32s (by omega) (by omega)
  have im : i64 mul := ⟨by omega, by omega⟩
  have b60 : ((0 : Int) ≤ (c : Int) ∧ (c : Int) < ((60 : Nat) : Int)) := by omega
  have b512 : ((0 : Int) ≤ (k : Int) ∧ (k : Int) < ((512 : Nat) : Int)) := by omega
  have sb : ∀ b, b ≤ nb → i64 (sm (fun b' => mL M2 (a + 21189) b' * (mul / mL M2 (a + 21190) b')) b) := fun b hb => by
    have := sm_bd (f := fun b' => mL M2 (a + 21189) b' * (mul / mL M2 (a + 21190) b')) (c := mul) b (fun t ht => term t (by omega))
    have h8 : (b : Int) * mul ≤ 8 * 1000000000 := Int.mul_le_mul (by omega) (by omega) (by omega) (by omega)
    exact ⟨by omega, by omega⟩
  intro t
  induction t with
  | zero =>
    intro b hb
    have eb : b = nb := by omega
    subst eb
    refine k_MM_enabled_87 o2 ik ic ipl im (sb b (Nat.le_refl _)) (i32s (by omega) (by omega)) ⟨w2.1.1, ?_⟩
    rw [gg.2.2.1.1, show mR M2 g 22 = g + 25 from (w2.gp hg).2.2.1.2.2.2.2.2.2.2.1, Int.toNat_natCast, r25, show mR M2 a 35 = a + 109 from w2.1.2.2.2.2.2.1.2.2.2.2.1]
    refine ⟨(w2.gp hg).1, (w2.gp hg).2.2.2.2.2.2.2.2.1.1, by rw [(w2.gp hg).2.2.2.2.2.2.2.2.1.2]; exact b60, fun _ => ⟨fun q => ⟨(w2.nu k109).1, ?_⟩, fun q => (s_MM_stop ⟨by decide, by decide⟩ ipl o2 w2).mono (fun M3 h3 => ⟨h3.1.1, h3.1.1, en_stop h (by decide) h3, Or.inl ⟨by rw [h3.2.1]; decide, by rw [hR1 (fun u => q ((cmpz _ _).2.2.2.1.2 (by rw [smE]; exact u))), h3.2.1, h3.2.2.1]⟩⟩)⟩, fun q => absurd (Int.le_refl _) q⟩
    have hsum := (cmpz _ _).2.2.2.1.1 q
    obtain ⟨l109, l111, l113, l115⟩ := xd.2.2.2.2.1
    refine (s_MN_add ic o2 (w2.nu k109) (by rw [l109]; omega)).mono (fun M3 a3 => ?_)
    have m3 := mv_add w2 k109 a3
    have w3 := m3.2.1
    have z115 : ln M3 (a + 115) = (L : Int) := by rw [(m3.lst k115 (by omega)).1, l115]
    have z111 : ln M3 (a + 111) = (L : Int) := by rw [(m3.lst k111 (by omega)).1, l111]
    have z113 : ln M3 (a + 113) = (L : Int) := by rw [(m3.lst k113 (by omega)).1, l113]
    rw [show mR M3 a 38 = a + 115 from w3.1.2.2.2.2.2.1.2.2.2.2.2.2.2.1]
    refine ⟨m3.1, w3.1.1, (w3.nu k115).1, (s_MN_add ⟨by omega, by omega⟩ m3.1 (w3.nu k115) (by rw [z115]; omega)).mono (fun M4 a4 => ?_)⟩
    have m4 := mv_add w3 k115 a4
    have w4 := m4.2.1
    have i1 : ∀ {p q : Nat}, p ∈ nums a → q = p → q ∈ nums a := fun hp hq => by rw [hq]; exact hp
    have e40 : mI M4 a 40 = (w : Int) := by
      rw [(m4.fld w3 (fun q hq => i1 k115 hq) (fun z => z)).1, (m3.fld w2 (fun q hq => i1 k109 hq) (fun z => z)).1]
      exact xd.2.1.1
    have w4096 := xd.2.1.2
    rw [show mR M4 a 36 = a + 111 from w4.1.2.2.2.2.2.1.2.2.2.2.2.1, e40]
    refine ⟨m4.1, w4.1.1, (w4.nu k111).1, (s_MN_add (i32s (by omega) (by omega)) m4.1 (w4.nu k111) (by rw [(m4.lst k111 (by omega)).1, z111]; omega)).mono (fun M5 a5 => ?_)⟩
    have m5 := mv_add w4 k111 a5
    have w5 := m5.2.1
    rw [show mR M5 a 37 = a + 113 from w5.1.2.2.2.2.2.1.2.2.2.2.2.2.1]
    refine ⟨m5.1, w5.1.1, (w5.nu k113).1, (s_MN_add ⟨by decide, by decide⟩ m5.1 (w5.nu k113) (by rw [(m5.lst k113 (by omega)).1, (m4.lst k113 (by omega)).1, z113]; omega)).mono (fun M6 a6 => ?_)⟩
    have m6 := mv_add w5 k113 a6
    have w6 := m6.2.1
    have A8 : mK M6 (a + 108) = 30 ∧ mN M6 (a + 108) = 512 := w6.1.2.2.2.2.2.2.2.2.1.2.2.2
    have e108 : mI M6 (a + 108) = mI M (a + 108) := by
      rw [← t108, (m6.cellL w5 (fun q hq => i1 k113 hq) (offx (a := a) (o := 108) (by decide)) (fun z => z)).1, (m5.cellL w4 (fun q hq => i1 k111 hq) (offx (a := a) (o := 108) (by decide)) (fun z => z)).1, (m4.cellL w3 (fun q hq => i1 k115 hq) (offx (a := a) (o := 108) (by decide)) (fun z => z)).1, (m3.cellL w2 (fun q hq => i1 k109 hq) (offx (a := a) (o := 108) (by decide)) (fun z => z)).1]
    rw [show mR M6 a 34 = a + 108 from w6.1.2.2.2.2.2.1.2.2.2.1, Int.toNat_natCast, e108]
    refine ⟨m6.1, w6.1.1, A8.1, by rw [A8.2]; exact b512, by rw [A8.2]; exact b512, i32s (by omega) (by omega), fun M7 e7 => ?_⟩
    obtain ⟨⟨u1, u2, u3⟩, u4, u5, u6, u7, u8, u9, u10, u11, ⟨p109, po⟩, p106, p105, ⟨p85, p86, p87⟩, mm, gs27⟩ := en_putx (c := c) h hw hk hm a3 a4 a5 a6 e7
    have hW12 := hBd.2.1
    obtain ⟨g1, g2, g3, g4, g5, g6, L2, w9, g7, g8, g9, g10, g11, g12, g13⟩ := gq
    have eL : L2 = L := by
      have := l109
      omega
    have ew : w9 = w := by
      have := xd.2.1.1
      omega
    subst eL ew
    have hsum' : smq9 mul (lchR M2 a b) = mul := by rw [← smE]; exact hsum
    have cqe : ∀ i, i < L2 → cmQ M7 a i = cmQ M2 a i := fun i hi => by
      unfold cmQ
      rw [(po i hi).1, (po i hi).2.1, (po i hi).2.2.1, (po i hi).2.2.2, brR_cg (M := M2) (M' := M7) (fun _ _ _ => by rw [p85, p86, p87]; exact ⟨rfl, rfl, rfl⟩)]
    have key := x_en201 (G := G) (k := k) (zl := cm.2.2.2.zip (lchR M2 a b)) (S0 := s9.2.1) (M7 := M7) (n := n) (d := d) (cA := mL M2 (a + 21189)) (cD := mL M2 (a + 21190)) (sg := sg) hev hstp hp hcm (fun b' hb' => ⟨cm.2.2.2[b']'(by omega), List.getElem?_eq_getElem _, by rw [List.getElem?_zip_eq_some]; exact ⟨List.getElem?_eq_getElem _, lchR_get hb'⟩⟩) (by rw [List.length_zip, lchR_len]; omega) hgd h0 ipl hc hnb hw hL (fun b' hb' => ⟨(hch b' hb').1, (hch b' hb').2.1, (hch b' hb').2.2.1, (hch b' hb').2.2.2, hdv b' hb'⟩) hm.1 hsum b 0 M7 (by omega) ⟨u6, u7, u8, u9, fun _ => ⟨⟨by rw [u1]; exact u2, by rw [u1]; exact u3⟩, n, w9, Nat.le_refl _, u10, u11, by omega⟩⟩ (fun _ => ⟨s9.2.1, [], rfl, ⟨by rw [u4]; exact g2, by rw [SmR_cg (M := M2) hW12 (fun j _ => by rw [p105])]; exact g3, w9, by rw [u4]; exact g10, by rw [Nat.sub_self]; rfl, fun j hj => by rw [p86, p87]; exact g13 j hj, xq.mv w2 mm (fun q hq => xP_in hq) gs27 (fun x hx => by omega), Tq.refl⟩, fun v hv => by rw [(mm.cellL w2 (fun q hq => xP_in hq) (offx (a := a) (o := 101) (by decide)) (by omega)).1]; exact hsg v hv⟩) (fun z => absurd (by rw [u4]; exact z16) z)
    refine mWm.mono key (fun r9 M9 z9 => ⟨z9.1, z9.2.1, z9.2.2.1, ?_⟩)
    have zE := z9.2.2.1
    rcases z9.2.2.2 with ⟨e1, e2⟩ | ⟨e1, S', B', e2, ⟨e3, e4, w', e5, e6, e7', e8, e9⟩, e10⟩
    · refine Or.inl ⟨e1, ?_⟩
      rw [hR2 hsum' _ rfl]
      exact e2
    rw [hR2 hsum' _ rfl, e2]
    obtain ⟨q1, q2, q3, q4, q5, q6⟩ := e9
    obtain ⟨x9, gg9, en9, t107', t108', v9⟩ := zE
    rcases v9 with y | ⟨-, v9, n9, w9', B9, b1, b2, b3, b4⟩
    · exact absurd e1 y
    have ew9 : w9' = w' := by
      have := b4.2.1.1
      omega
    subst ew9
    have o9 := b4.2.2.2.2.2.2 L2 (by omega)
    have hw0 : w9 ≤ w9' := by
      have h1 := o9.1.1
      have h2 := b2 L2 (Nat.le_refl _)
      omega
    have cq9 : ∀ i, i < L2 → cmQ M9 a i = cmQ M2 a i := fun i hi => by
      rw [← cqe i hi]
      have oi := u10.2.2.2.2.2.2 i hi
      have mB := u10.mono (i + 1) L2 (by omega) (Nat.le_refl _)
      unfold cmQ
      rw [q1, q2, q3, q4 i hi, oi.2.1.1, oi.2.1.2, Int.toNat_natCast, Int.toNat_natCast, brR_cg (M := M7) (M' := M9) (fun j j1 j2 => q6 j (by have := oi.1.1; omega))]
    have cqL : cmQ M9 a L2 = (c, mul, B') := by
      unfold cmQ
      rw [q1, p109, Int.toNat_natCast, o9.2.1.2, b2 L2 (Nat.le_refl _), b3, hw, q2, u11.2.1.1, q3, u11.2.1.2.2, Int.toNat_natCast, Int.toNat_natCast, e6]
    have e106 : mI M9 (a + 106) = mI M2 (a + 106) := q5.trans p106
    have e107 : mI M9 (a + 107) = mI M2 (a + 107) := t107'.trans t107.symm
    have e108 : ∀ k', k' ≠ k → mI M9 (a + 108) k' = mI M2 (a + 108) k' := fun k' hk' => by rw [t108' k' hk', t108]
    have hB' : B'.length = w9' - w9 := by rw [← e6, brR_len]
    refine Or.inr ⟨e1, ⟨rfl, e3, e4, ?_, by rw [e106]; exact g5, fun k' hk' => ?_, L2 + 1, w9', by rw [e107]; exact g7, ⟨by omega, ?_⟩, b4.2.2.2.2.1.1, e5, ?_, ?_, e7'⟩, e8, e10⟩
    · rw [← g4]
      exact xtR_cg (L := L0) (fun k' _ => by rw [e106]) (fun k' hk' => ⟨by rw [e107], e108 k' (by omega)⟩) g6 (fun i hi => cq9 i (by omega))
    · rw [e107, e108 k' (by omega)]
      exact g6 k' hk'
    · rw [v9, ← t108, g8.2]
      omega
    · show cmL M9 a L0 (L2 + 1 - L0) = s9.2.2.2 ++ [(c, mul, B')]
      rw [show L2 + 1 - L0 = (L2 - L0) + 1 by omega, cmL_s, cmL_cg (M := M2) (fun i i1 i2 => cq9 i (by omega)), show L0 + (L2 - L0) = L2 by omega, cqL]
      exact congrArg (fun x => x ++ [(c, mul, B')]) g11
    · show nbx9 T9 + nbq9 (s9.2.2.2 ++ [(c, mul, B')]) = w9'
      have g12' : nbx9 T9 + nbq9 s9.2.2.2 = w9 := g12
      rw [nbq_app]
      show nbx9 T9 + (nbq9 s9.2.2.2 + (B'.length + 0)) = w9'
      omega
  | succ t ih =>
    intro b hb
    have b8 : ((0 : Int) ≤ (b : Int) ∧ (b : Int) < ((8 : Nat) : Int)) := by omega
    have c1 := hch b (by omega)
    have nx := ih (b + 1) (by omega)
    refine k_MM_enabled_87 o2 ik ic ipl im (sb b (by omega)) (i32s (by omega) (by omega)) ⟨w2.1.1, ?_⟩
    rw [gg.2.2.1.1, show mR M2 g 22 = g + 25 from (w2.gp hg).2.2.1.2.2.2.2.2.2.2.1, Int.toNat_natCast, r25, (r4546 w2).1.1, (r4546 w2).1.2, Int.toNat_natCast, Int.toNat_natCast]
    refine ⟨(w2.gp hg).1, (w2.gp hg).2.2.2.2.2.2.2.2.1.1, by rw [(w2.gp hg).2.2.2.2.2.2.2.2.1.2]; exact b60, fun q => absurd q (by omega), fun _ => ⟨(r4546 w2).2.1.1, by rw [(r4546 w2).2.1.2]; exact b8, (r4546 w2).2.2.1, by rw [(r4546 w2).2.2.2]; exact b8, by omega, ?_⟩⟩
    rw [show Int.tdiv mul (mL M2 (a + 21190) b) = mul / mL M2 (a + 21190) b from Int.tdiv_eq_ediv_of_nonneg (by omega), show (b : Int) + 1 = ((b + 1 : Nat) : Int) by omega]
    exact nx
theorem x_MM_enabled {c L0 : Nat} {cm : cm9} {s9 : sl9} {T9 : xt9} (hev : ∀ sg i j, ev sg i j = vlq ww (cvS sg) pl 0 0 i j) (hstp : ∀ sg l, stp sg l = ((stq9 ww (cvS sg) pl lo hi l (fun v => sg.getD v 0)).1, (List.range W).map (stq9 ww (cvS sg) pl lo hi l (fun v => sg.getD v 0)).2)) (hp : GP ww pl XV ev M g R W C T E tgI cms lo hi) (hcm : cms[c]? = some cm) (hok : GOk ev cms sg) (hg1 : (ev sg cm.2.2.1.1 cm.2.2.1.2).1 = 0) (hg2 : (ev sg cm.2.2.1.1 cm.2.2.1.2).2.1 ≠ 0) (xq : XVq M a g R W (XV sg)) (hsg : ∀ v, v < W → mI M (a + 101) v = sg.getD v 0) (gq : GQr M a W k L0 T9 s9) (h : GG M a g T R W C Z E tg) (hn : En M a g R W) (xd : XD M a g n W L w L B) (hw : B L = w) (z16 : mI M a 16 = 0) (hk5 : k < 512) (hk : 0 ≤ mI M (a + 108) k ∧ mI M (a + 108) k ≤ 5000) (hc : c < C) : Cv G y_MM_enabled (d + 8) [vr a, vi k, vi c] M (fun M' => mOk M' ∧ enQ M a g T R W C Z E tg n L k B M' ∧ eyX (tcq9 ev stp sg (nbx9 T9) c cm s9) T9 a W k L0 (XV sg) g R sg M') := by
  have o := h.1
  have wd := h.2.1
  have hR := h.2.2.2.2.2.2.2.1.1.1
  have hW12 := h.2.2.2.2.2.2.2.1.1.2.1
  have rc := hp.2.2.2.2.2.2 c cm hcm
  have hg := h.2.2.1.2
  have hD := h.2.2.2.2.2.2.2.1
  have hBd := hD.1
  have cc := hD.2.2.2.2.1 c hc
  obtain ⟨nb, hnb⟩ : ∃ nb : Nat, mI M (g + 25) c = (nb : Int) := ⟨(mI M (g + 25) c).toNat, by have := cc.2.1; omega⟩
  have b60 : ((0 : Int) ≤ (c : Int) ∧ (c : Int) < ((60 : Nat) : Int)) := by omega
  have b512 : ((0 : Int) ≤ (k : Int) ∧ (k : Int) < ((512 : Nat) : Int)) := by omega
  have A6 : mK M (a + 106) = 30 ∧ mN M (a + 106) = 512 := wd.1.2.2.2.2.2.2.2.2.1.2.1
  have ipl : i32 (mI M (g + 23) c) := (o _ _).1
  have eb0 : eB M a g T R W C Z E tg n L w B M := ⟨xF.refl o wd, h, hn, xd, rfl, rfl⟩
  have gk : mI M (a + 106) k = s9.2.2.1 := gq.2.2.2.2.1
  have cmv : ∀ v : Int, v = (if mI M (g + 22) c = 0 then 1 else 2) → v = cm.1 := fun v hv => by
    rcases rc.1 with ⟨y1, y2⟩ | ⟨y1, y2⟩
    · rw [hv, if_pos y2, y1]
    · rw [hv, if_neg y2, y1]
  refine k_MM_enabled o (i32s (by omega) (by omega)) (i32s (by omega) (by omega)) ⟨wd.1.1, ?_⟩
  rw [h.2.2.1.1, show mR M g 19 = g + 22 from (wd.gp hg).2.2.1.2.2.2.2.1, show mR M g 20 = g + 23 from (wd.gp hg).2.2.1.2.2.2.2.2.1, show mR M a 32 = a + 106 from wd.1.2.2.2.2.2.1.2.1, Int.toNat_natCast, Int.toNat_natCast]
  refine ⟨(wd.gp hg).1, (wd.gp hg).2.2.2.2.2.1.1, by rw [(wd.gp hg).2.2.2.2.2.1.2]; exact b60, fun v hv => ⟨(wd.gp hg).2.2.2.2.2.2.1.1, by rw [(wd.gp hg).2.2.2.2.2.2.1.2]; exact b60, A6.1, by rw [A6.2]; exact b512, fun _ => by rw [A6.2]; exact b512, fun qk => ⟨by rw [A6.2]; exact b512, fun M2 e2 => ?_⟩, fun qk => (s_MM_stop ⟨by decide, by decide⟩ ipl o wd).mono (fun M3 h3 => ⟨h3.1.1, h3.1.1, en_stop eb0 (by decide) h3, Or.inl ⟨by rw [h3.2.1]; decide, by rw [tcq_m hg1 hg2 ⟨fun u => qk (Or.inl (gk.trans u)), fun u => qk (Or.inr (gk.trans (u.trans (cmv v hv).symm)))⟩, h3.2.1, h3.2.2.1, rc.2.1]⟩⟩)⟩⟩
  have iv : i32 v := by rw [hv]; split <;> exact ⟨by decide, by decide⟩
  obtain ⟨m2, f2', l2⟩ := mv_cell iv o wd (show a ≤ a + 106 by omega) (offx (a := a) (o := 106) (by decide)) e2
  have no : ∀ q : Nat, False → q ∈ nums a := fun _ z => z.elim
  have w2 := m2.2.1
  have aI := (m2.fld wd no (by omega)).1
  have F2 : xF M a M2 := xF.mk wd m2 (fun _ z => z.elim) (fun x z => Or.inr (Or.inl (by omega))) (fun i _ _ _ _ _ => by rw [aI])
  have gs2 := F2.gs wd hg
  have gg2 := h.gs m2.1 w2 (by rw [m2.rfl_a wd no]) gs2
  have en2 := hn.mv wd m2 no gs2 (fun x z => by omega)
  have xd2 := xd.mv wd m2 no (fun _ z => z.elim) (fun x z => by omega) gs2 (by rw [aI]) (by rw [aI])
  have c7 := (m2.cellL wd no (offx (a := a) (o := 107) (by decide)) (by omega)).1
  have c8 := (m2.cellL wd no (offx (a := a) (o := 108) (by decide)) (by omega)).1
  have hpk : ¬ (s9.2.2.1 ≠ 0 ∧ s9.2.2.1 ≠ cm.1) := fun u => by
    rcases qk with y | y
    · exact u.1 (gk.symm.trans y)
    · exact u.2 (gk.symm.trans (y.trans (cmv v hv)))
  have z162 : mI M2 a 16 = 0 := by rw [aI]; exact z16
  have hp2 := hp.gs gs2 hR
  refine (x_MM_chances (d := d + 1) (sg := sg) gg2 en2 hp2 (xq.mv wd m2 no gs2 (fun x z => by omega)) z162 hcm hc ipl (by rw [(gs2.2.1 25 (by omega) (by omega)).1]; exact hnb)).mono (fun mul M3 t3 => ?_)
  obtain ⟨i3, o3, ⟨-, ⟨x3, gg3, en3⟩, v3⟩, y3⟩ := t3
  have w3 := gg3.2.1
  have gs3 := x3.gs w2 hg
  have un : ∀ x, xE a x → x = a ∨ (a + 97 ≤ x ∧ x ≤ a + 98) ∨ (a + 102 ≤ x ∧ x ≤ a + 104) ∨ (a + 21188 ≤ x ∧ x ≤ a + 21190) := fun x hx => hx
  have xd3 := xd2.mv w2 x3.1 in99 (fun q hq => by omega) (fun x hx => by have := un x hx; omega) gs3 (x3.2 29 (by decide) (by decide) (by decide)) (x3.2 40 (by decide) (by decide) (by decide))
  have tb := x3.tab w2
  have eb3 : eB M a g T R W C Z E tg n L w B M3 := ⟨F2.trans (x3.xf w2), gg3, en3, xd3, by rw [tb.2.1]; exact c7, by rw [tb.2.2]; exact c8⟩
  refine ⟨i3, o3, w3.1.1, fun z3 => ?_, fun z3 => ⟨o3, ⟨eb3.1, gg3, en3, eb3.2.2.2.2.1, fun k' _ => by rw [eb3.2.2.2.2.2], Or.inl z3⟩, Or.inl ⟨z3, ?_⟩⟩⟩
  rotate_left
  · rcases y3 with (⟨y1, y2, y4⟩ | ⟨y1, y2, y4, y5⟩) | ⟨-, -, y4, -⟩
    · rw [tcq_c hg1 hg2 hpk y1, y2, y4]
    · rw [tcq_u hg1 hg2 hpk y1 y2, y4, y5, rc.2.1]
    · exact absurd y4 z3
  rcases v3 with y | ⟨-, u1, u2, u3, u4⟩
  · exact absurd z3 y
  obtain ⟨f1, f2, -, f3, f4, f5⟩ : (chq9 ev sg cm.2.2.2).1.1 = 0 ∧ muq9 (chq9 ev sg cm.2.2.2).2 1 ≠ 0 ∧ mI M3 a 16 = 0 ∧ mul = muq9 (chq9 ev sg cm.2.2.2).2 1 ∧ lchR M3 a nb = (chq9 ev sg cm.2.2.2).2 ∧ XVq M3 a g R W (XV sg) := by
    rcases y3 with (⟨y1, y2, -⟩ | ⟨y1, y2, y4, y5⟩) | y4
    · exact absurd (y2.symm.trans z3) y1
    · rw [z3] at y4
      exact absurd y4 (by decide)
    · exact y4
  have hlen : cm.2.2.2.length = nb := by
    have e := rc.2.2.2.1
    rw [hnb] at e
    omega
  have e101 : ∀ v, v < W → mI M3 (a + 101) v = sg.getD v 0 := fun v' hv' => by
    rw [(x3.1.cellL w2 in99 (offx (a := a) (o := 101) (by decide)) (fun z => by have := un _ z; omega)).1, (m2.cellL wd no (offx (a := a) (o := 101) (by decide)) (by omega)).1]
    exact hsg v' hv'
  have gF := F2.trans (x3.xf w2)
  have gs03 := gs2.trans gs3
  obtain ⟨g1, g2, g3, g4, g5, g6, L2, w9, g7, g8, g9, g10, g11, g12, g13⟩ := gq
  have c3 : ∀ o, frO o → (o = 105 ∨ o = 106 ∨ o = 107 ∨ o = 108 ∨ o = 21185 ∨ o = 21186 ∨ o = 21187) → mI M3 (a + o) = mI M2 (a + o) ∧ mL M3 (a + o) = mL M2 (a + o) := fun o fo ho => x3.1.cellL w2 in99 (offx fo) (fun z => by have := un _ z; omega)
  have c2 : ∀ o, frO o → (o = 105 ∨ o = 107 ∨ o = 108 ∨ o = 21185 ∨ o = 21186 ∨ o = 21187) → mI M2 (a + o) = mI M (a + o) ∧ mL M2 (a + o) = mL M (a + o) := fun o fo ho => m2.cellL wd no (offx fo) (by omega)
  have ls : ∀ {q}, q ∈ nums a → q ≠ a + 99 → ln M3 q = ln M q ∧ nt M3 q = nt M q := fun hq n1 => by
    have s3 := x3.1.lst hq n1
    have s2 := m2.lst hq (fun z => z)
    exact ⟨s3.1.trans s2.1, funext (fun j => (s3.2.1 j).trans (s2.2.1 j))⟩
  have i29 : mI M3 a 29 = mI M a 29 := (x3.2 29 (by decide) (by decide) (by decide)).trans (by rw [aI])
  have i40 : mI M3 a 40 = mI M a 40 := (x3.2 40 (by decide) (by decide) (by decide)).trans (by rw [aI])
  have b5 := (c3 105 (by decide) (by omega)).1.trans (c2 105 (by decide) (by omega)).1
  have b7 := (c3 107 (by decide) (by omega)).1.trans (c2 107 (by decide) (by omega)).1
  have b8 := (c3 108 (by decide) (by omega)).1.trans (c2 108 (by decide) (by omega)).1
  have b85 := (c3 21185 (by decide) (by omega)).1.trans (c2 21185 (by decide) (by omega)).1
  have b86 := (c3 21186 (by decide) (by omega)).2.trans (c2 21186 (by decide) (by omega)).2
  have b87 := (c3 21187 (by decide) (by omega)).2.trans (c2 21187 (by decide) (by omega)).2
  have b6 : ∀ k', mI M3 (a + 106) k' = if k' = k then cm.1 else mI M (a + 106) k' := fun k' => by
    rw [(c3 106 (by decide) (by omega)).1, f2', cmv v hv]
    by_cases y : k' = k
    · rw [if_pos ⟨rfl, y⟩, if_pos y]
    · rw [if_neg (fun z => y z.2), if_neg y]
  have cq : ∀ i, cmQ M3 a i = cmQ M a i := fun i => by
    unfold cmQ
    rw [(ls k109 (by omega)).2, (ls k111 (by omega)).2, (ls k113 (by omega)).2, (ls k115 (by omega)).2, brR_cg (M := M) (M' := M3) (fun _ _ _ => by rw [b85, b86, b87]; exact ⟨rfl, rfl, rfl⟩)]
  have gq3 : GQr M3 a W k L0 T9 (s9.1, s9.2.1, cm.1, s9.2.2.2) := ⟨g1, by rw [i29]; exact g2, by rw [SmR_cg (M := M) hW12 (fun j _ => by rw [b5])]; exact g3, by rw [← g4]; exact xtR_cg (L := L0) (fun k' hk' => by rw [b6, if_neg (by omega)]) (fun k' _ => by rw [b7, b8]; exact ⟨rfl, rfl⟩) g6 (fun i _ => cq i), by rw [b6, if_pos rfl], fun k' hk' => by rw [b7, b8]; exact g6 k' hk', L2, w9, by rw [b7]; exact g7, by rw [b8]; exact g8, by rw [(ls k109 (by omega)).1]; exact g9, by rw [i40]; exact g10, by rw [cmL_cg (M := M) (fun i _ _ => cq i)]; exact g11, g12, fun j hj => by rw [b86, b87]; exact g13 j hj⟩
  have ew : w9 = w := by
    have := xd.2.1.1
    omega
  have hgd : ∀ b', b' < nb → Int.gcd (mL M3 (a + 21189) b') (mL M3 (a + 21190) b') = 1 := fun b' hb' => by
    have e1 := chq_get f1 (List.getElem?_eq_getElem (show b' < cm.2.2.2.length by omega))
    have e2 := lchR_get (M := M3) (a := a) hb'
    rw [f4, e1.1] at e2
    have e3 := Option.some.inj e2
    have e4 := hok c cm hcm b' _ (List.getElem?_eq_getElem (show b' < cm.2.2.2.length by omega)) e1.2
    rw [e3] at e4
    exact e4
  have key := x_en87 (G := G) (d := d) (sg := sg) (RR := tcq9 ev stp sg (nbx9 T9) c cm s9) (s9 := s9) (T9 := T9) (L0 := L0) hev hstp hp rc (fun y => by rw [f4, f3] at y; exact tcq_s hg1 hg2 hpk f1 f2 y) (fun y fl hfl => by
    rw [f4, f3] at y hfl
    rw [f3]
    refine tcq_e hg1 hg2 hpk f1 f2 y ?_
    rw [g12, ew]
    exact hfl) f5 e101 gq3 hgd h eb3 z3 hw hk5 hk hc hnb ⟨u2, u3⟩ u1 u4 nb 0 (by omega)
  rw [rc.2.1]
  exact key
end ENX3
end
