/-! The reference: ways, exactly. -/
section WYX
variable {G : mG} {d a g T R W C Z n L w w0 i m : Nat} {M M' M2 M3 M4 : mM} {E : Eg9} {tg mul Sm A D : Int} {B : Nat → Nat}
theorem gcd_1 {q x y A' D' : Int} (hq : 1 ≤ q) (e1 : x = q * A') (e2 : y = q * D') (hg : ∀ z : Int, z ∣ x → z ∣ y → z ∣ q) : Int.gcd A' D' = 1 := by
  have d1 : (Int.gcd A' D' : Int) ∣ A' := Int.gcd_dvd_left ..
  have d2 : (Int.gcd A' D' : Int) ∣ D' := Int.gcd_dvd_right ..
  have d3 := hg (q * (Int.gcd A' D' : Int)) (by rw [e1]; exact Int.mul_dvd_mul (Int.dvd_refl q) d1) (by rw [e2]; exact Int.mul_dvd_mul (Int.dvd_refl q) d2)
  obtain ⟨t, ht⟩ := d3
  have t1 : (Int.gcd A' D' : Int) * t = 1 := by
    have : q * ((Int.gcd A' D' : Int) * t) = q * 1 := by rw [Int.mul_one, ← Int.mul_assoc]; exact ht.symm
    exact Int.eq_of_mul_eq_mul_left (show q ≠ 0 by omega) this
  have := Int.eq_one_of_mul_eq_one_right (show (0 : Int) ≤ (Int.gcd A' D' : Int) by omega) t1
  omega
theorem x_MM_add {j : Nat} {A D : Int} (hg : g = a + 13 ∨ g = a + 49) (o : mOk M) (w' : Wd M a) (h : XD M a g n W L w (L + 1) B) (hw0 : B L = w0) (hp : Op M a L w0 w mul Sm) (j0 : w0 ≤ j) (j1 : j < w) (hA : 0 < A ∧ A < 1000000000) (hD : 0 < D ∧ D < 1000000000) (hdm : D ∣ mul) (hle : Sm + A * (mul / D) ≤ mul) : Cv G y_MM_add (d + 1) [vr a, vi j, vl A, vl D] M (fun M' => mOk M' ∧ Mv (fun _ => False) (fun x => a + 21186 ≤ x ∧ x ≤ a + 21187) M a M' ∧ mI M' = mI M ∧ XD M' a g n W L w (L + 1) B ∧ Op M' a L w0 w mul (Sm + A * (mul / D)) ∧ (∀ k, k ≠ j → mL M' (a + 21186) k = mL M (a + 21186) k ∧ mL M' (a + 21187) k = mL M (a + 21187) k) ∧ mL M' (a + 21186) j * (mul / mL M' (a + 21187) j) = mL M (a + 21186) j * (mul / mL M (a + 21187) j) + A * (mul / D) ∧ Int.gcd (mL M' (a + 21186) j) (mL M' (a + 21187) j) = 1) := by
  obtain ⟨y1, y2, y3⟩ := h.2.2.2.1 j j1
  have hw4 := h.2.1.2
  obtain ⟨p1, p2, p3, p4, p5⟩ := id hp
  have r42 : mR M a 42 = a + 21186 := w'.1.2.2.2.2.2.2.1.2.1
  have r43 : mR M a 43 = a + 21187 := w'.1.2.2.2.2.2.2.1.2.2.1
  have A6 : mK M (a + 21186) = 33 ∧ mN M (a + 21186) = 4096 := w'.1.2.2.2.2.2.2.2.2.2.1.2.1
  have A7 : mK M (a + 21187) = 33 ∧ mN M (a + 21187) = 4096 := w'.1.2.2.2.2.2.2.2.2.2.1.2.2.1
  have bj : ((0 : Int) ≤ (j : Int) ∧ (j : Int) < ((4096 : Nat) : Int)) := by omega
  refine k_MM_add o (i32s (by omega) (by omega)) ⟨by omega, by omega⟩ ⟨by omega, by omega⟩ ⟨w'.1.1, ?_⟩
  rw [r42, r43, Int.toNat_natCast]
  generalize hXA : mL M (a + 21186) j = XA at *
  generalize hXD : mL M (a + 21187) j = XDn at *
  have m1 : 0 ≤ XA * D ∧ XA * D ≤ 1000000000 * 1000000000 := ⟨Int.mul_nonneg (by omega) (by omega), Int.mul_le_mul (by omega) (by omega) (by omega) (by omega)⟩
  have m2 : 0 ≤ A * XDn ∧ A * XDn ≤ 1000000000 * 1000000000 := ⟨Int.mul_nonneg (by omega) (by omega), Int.mul_le_mul (by omega) (by omega) (by omega) (by omega)⟩
  have m3 : 0 < XDn * D ∧ XDn * D ≤ 1000000000 * 1000000000 := ⟨Int.mul_pos (by omega) (by omega), Int.mul_le_mul (by omega) (by omega) (by omega) (by omega)⟩
  have is : i64 (XA * D + A * XDn) := ⟨by omega, by omega⟩
  have iy : i64 (XDn * D) := ⟨by omega, by omega⟩
  refine ⟨A6.1, by rw [A6.2]; exact bj, A7.1, by rw [A7.2]; exact bj, by rw [A7.2]; exact bj, (s_MM_divisor2 (by omega) ⟨by omega, iy⟩ o).mono (fun q M1 h1 => ?_)⟩
  obtain ⟨e1, q1, q2, ⟨A', hA'⟩, ⟨D', hD'⟩, hgcd⟩ := h1
  subst e1
  have qn : q ≠ 0 := by omega
  have t1 : Int.tdiv (XA * D + A * XDn) q = A' := by rw [hA']; exact Int.mul_tdiv_cancel_left A' qn
  have t2 : Int.tdiv (XDn * D) q = D' := by rw [hD']; exact Int.mul_tdiv_cancel_left D' qn
  have xdm : XDn ∣ mul := by rw [← hXD]; exact p4 j j0 j1
  obtain ⟨A0, D0, dm, key⟩ := add_math (mul := mul) y3.1 hD.1 y2.1 hA.1 xdm hdm q1 hA' hD' hgcd
  -- the terms of the sum
  have nn : ∀ t, t < w - w0 → 0 ≤ mL M1 (a + 21186) (w0 + t) * (mul / mL M1 (a + 21187) (w0 + t)) := fun t ht => by
    have := h.2.2.2.1 (w0 + t) (by omega)
    exact Int.mul_nonneg (by omega) (Int.ediv_nonneg (by omega) (by omega))
  have le1 := sm_le1 (f := fun t => mL M1 (a + 21186) (w0 + t) * (mul / mL M1 (a + 21187) (w0 + t))) (t0 := j - w0) (w - w0) (by omega) nn
  rw [p5] at le1
  have le1' : XA * (mul / XDn) ≤ Sm := by
    have e : w0 + (j - w0) = j := by omega
    have : mL M1 (a + 21186) (w0 + (j - w0)) * (mul / mL M1 (a + 21187) (w0 + (j - w0))) ≤ Sm := le1
    rw [e, hXA, hXD] at this
    exact this
  obtain ⟨m, hm⟩ := dm
  have mm : mul / D' = m := by rw [hm]; exact Int.mul_ediv_cancel_left m (by omega)
  have m0 : 0 < m := by
    by_cases z : 0 < m
    · exact z
    · have := Int.mul_le_mul_of_nonneg_left (show m ≤ 0 by omega) (show 0 ≤ D' by omega)
      omega
  have AD : A' ≤ D' := by
    by_cases z : A' ≤ D'
    · exact z
    · have k1 := Int.mul_lt_mul_of_pos_right (show D' < A' by omega) m0
      rw [mm] at key
      omega
  have Dm : D' ≤ mul := by
    have := Int.mul_le_mul_of_nonneg_left (show 1 ≤ m by omega) (show 0 ≤ D' by omega)
    omega
  have iA' : i64 A' := ⟨by omega, by omega⟩
  have iD' : i64 D' := ⟨by omega, by omega⟩
  rw [t1, t2]
  refine ⟨⟨by omega, by have := iy.2; omega⟩, o, w'.1.1, is, qn, ?_⟩
  rw [r42]
  refine ⟨A6.1, by rw [A6.2]; exact bj, iA', fun M2 e2 => ⟨iy, qn, ?_⟩⟩
  obtain ⟨k2, f2, n2, i2⟩ := mv_ulx iA' o w' e2
  have w2 := k2.2.1
  rw [show mR M2 a 43 = a + 21187 from w2.1.2.2.2.2.2.2.1.2.2.1]
  have A72 : mK M2 (a + 21187) = 33 ∧ mN M2 (a + 21187) = 4096 := w2.1.2.2.2.2.2.2.2.2.2.1.2.2.1
  refine ⟨A72.1, by rw [A72.2]; exact bj, iD', fun M3 e3 => ?_⟩
  obtain ⟨k3, f3, n3, i3⟩ := mv_ulx iD' k2.1 w2 e3
  have iI : mI M3 = mI M1 := by rw [i3, i2]
  have l86 : ∀ k, mL M3 (a + 21186) k = if k = j then A' else mL M1 (a + 21186) k := fun k => by rw [n3 _ (by omega), f2]
  have l87 : ∀ k, mL M3 (a + 21187) k = if k = j then D' else mL M1 (a + 21187) k := fun k => by rw [f3, n2 _ (by omega)]
  have kk : Mv (fun _ => False) (fun x => a + 21186 ≤ x ∧ x ≤ a + 21187) M1 a M3 := (k2.mono (fun _ z => z) (fun x z => by omega) (fun _ z => z.elim)).trans (k3.mono (fun _ z => z) (fun x z => by omega) (fun _ z => z.elim))
  have no : ∀ q : Nat, False → q ∈ nums a := fun _ z => z.elim
  have gs := gs_st w' hg kk no (fun _ z => z.elim) (fun x z => by omega)
  have s : ∀ {q}, q ∈ nums a → sameN M1 M3 q := fun hq => kk.lst hq (fun z => z)
  obtain ⟨h1, h2, h3, h4, h5, h6, h7⟩ := id h
  have mB := h.mono
  refine ⟨kk.1, kk, iI, ⟨by rw [iI]; exact h1, by rw [iI]; exact h2, fun k v hk hv => ?_, fun i hi => ?_, by rw [(s k109).1, (s k111).1, (s k113).1, (s k115).1]; exact h5, h6, fun i hi => (h7 i hi).cg ((s k111).2.1 i) ((s k113).2.1 i) ((s k115).2.1 i) (fun t _ t2 => ?_)⟩, ⟨p1, by rw [(s k111).2.1, (s k113).2.1, (s k115).2.1]; exact p2, p3, fun i i1 i2' => ?_, ?_⟩, fun k hk => ⟨by rw [l86, if_neg hk], by rw [l87, if_neg hk]⟩, by rw [l86, l87, if_pos rfl, if_pos rfl]; exact key, by rw [l86, l87, if_pos rfl, if_pos rfl]; exact gcd_1 q1 hA' hD' hgcd⟩
  · rw [iI]; exact h3 k v hk hv
  · rw [iI, l86, l87]
    by_cases z : i = j
    · rw [if_pos z, if_pos z]
      exact ⟨(h4 i hi).1, by omega, by omega⟩
    · rw [if_neg z, if_neg z]
      exact h4 i hi
  · have := mB (i + 1) L (by omega) (Nat.le_refl _)
    rw [l86, l87, if_neg (by omega), if_neg (by omega)]
    exact ⟨rfl, rfl⟩
  · rw [l87]
    by_cases z : i = j
    · rw [if_pos z, hm]; exact Int.dvd_mul_right D' m
    · rw [if_neg z]; exact p4 i i1 i2'
  · rw [sm_upd (f := fun t => mL M1 (a + 21186) (w0 + t) * (mul / mL M1 (a + 21187) (w0 + t))) (t0 := j - w0) (w - w0) (by omega) (fun t ht hne => ?_), p5]
    · show Sm - mL M1 (a + 21186) (w0 + (j - w0)) * (mul / mL M1 (a + 21187) (w0 + (j - w0))) + mL M3 (a + 21186) (w0 + (j - w0)) * (mul / mL M3 (a + 21187) (w0 + (j - w0))) = _
      rw [show w0 + (j - w0) = j by omega, l86, l87, if_pos rfl, if_pos rfl, hXA, hXD, key]
      omega
    · show mL M3 (a + 21186) (w0 + t) * (mul / mL M3 (a + 21187) (w0 + t)) = mL M1 (a + 21186) (w0 + t) * (mul / mL M1 (a + 21187) (w0 + t))
      rw [l86, l87, if_neg (by omega), if_neg (by omega)]
/-- a new way is put down -/
theorem way_newx {to A D : Int} {M4 M5 M6 M7 : mM} (o : mOk M2) (wd : Wd M2 a) (hg : g = a + 13 ∨ g = a + 49) (h : XD M2 a g n W L w (L + 1) B) (hw0 : B L = w0) (hp : Op M2 a L w0 w mul Sm) (hw : w < 4096) (ht : 0 ≤ to ∧ to < n) (hA : 0 < A ∧ A < 1000000000) (hD : 0 < D ∧ D < 1000000000) (hdm : D ∣ mul) (e3 : M3 = mUI M2 (a + 21185) w to) (e4 : M4 = mUL M3 (a + 21186) w A) (e5 : M5 = mUL M4 (a + 21187) w D) (e6 : M6 = mUI M5 a 40 ((w : Int) + 1)) (e7 : M7 = mUI M6 (mR M6 (a + 113) 0) L (nt M6 (a + 113) L + 1)) : (Wd M3 a ∧ Wd M4 a ∧ Wd M5 a ∧ Wd M6 a) ∧ (mI M3 a = mI M2 a ∧ mI M4 a = mI M2 a ∧ mI M5 a = mI M2 a) ∧ nt M6 (a + 113) L = ((w - w0 : Nat) : Int) ∧ ln M6 (a + 113) = (L + 1 : Nat) ∧ (mL M3 = mL M2 ∧ (∀ y, y ≠ a + 21186 → mL M4 y = mL M2 y)) ∧ wyF M2 a M7 ∧ Mv (fun x => x = a + 113) (fun x => x = a ∨ (a + 21185 ≤ x ∧ x ≤ a + 21187)) M2 a M7 ∧ mI M7 a 16 = mI M2 a 16 ∧ XD M7 a g n W L (w + 1) (L + 1) B ∧ Op M7 a L w0 (w + 1) mul (Sm + A * (mul / D)) ∧ (∀ k, mI M7 (a + 21185) k = if k = w then to else mI M2 (a + 21185) k) ∧ (∀ k, mL M7 (a + 21186) k = if k = w then A else mL M2 (a + 21186) k) ∧ (∀ k, mL M7 (a + 21187) k = if k = w then D else mL M2 (a + 21187) k) ∧ mI M7 (a + 105) = mI M2 (a + 105) := by
  have hn5 := h.1.2.2
  obtain ⟨m3, f3, l3⟩ := mv_cell (v := to) ⟨by omega, by omega⟩ o wd (show a ≤ a + 21185 by omega) (offx (a := a) (o := 21185) (by decide)) e3
  obtain ⟨m4, f4, n4, i4⟩ := mv_ulx (v := A) ⟨by omega, by omega⟩ m3.1 m3.2.1 e4
  obtain ⟨m5, f5, n5', i5⟩ := mv_ulx (v := D) ⟨by omega, by omega⟩ m4.1 m4.2.1 e5
  obtain ⟨m6, f6⟩ := mv_fld (v := (w : Int) + 1) (i32s (by omega) (by omega)) m5.1 m5.2.1 e6
  have no : ∀ q : Nat, False → q ∈ nums a := fun _ z => z.elim
  have nz : ∀ {Mx : mM} (q : Nat), False → q < mZ Mx := fun _ z => z.elim
  have m26 : Mv (fun _ => False) (fun x => x = a ∨ (a + 21185 ≤ x ∧ x ≤ a + 21187)) M2 a M6 := (((m3.mono (fun _ z => z) (fun x z => Or.inr (by omega)) nz).trans (m4.mono (fun _ z => z) (fun x z => Or.inr (by omega)) nz)).trans (m5.mono (fun _ z => z) (fun x z => Or.inr (by omega)) nz)).trans (m6.mono (fun _ z => z) (fun x z => Or.inl z) nz)
  have s6 : ∀ {q}, q ∈ nums a → sameN M2 M6 q := fun hq => m26.lst hq (fun z => z)
  obtain ⟨p1, p2, p3, p4, p5⟩ := id hp
  have t13 : nt M6 (a + 113) L = ((w - w0 : Nat) : Int) := by rw [(s6 k113).2.1]; exact p2.2.1
  obtain ⟨m7, l7, f7, -⟩ := mv_el (v := nt M6 (a + 113) L + 1) (by rw [t13]; exact i32s (by omega) (by omega)) m6.1 m6.2.1 k113 e7
  have i3a := (m3.fld wd no (by omega)).1
  have aI3 : mI M3 a = mI M2 a := i3a
  have aI4 : mI M4 a = mI M2 a := by rw [i4]; exact i3a
  have aI5 : mI M5 a = mI M2 a := by rw [i5]; exact aI4
  have in13 : ∀ q, q = a + 113 → q ∈ nums a := fun q hq => by rw [hq]; exact k113
  have aI7 : mI M7 a = mI M6 a := (m7.fld m6.2.1 in13 (fun z => z)).1
  have F7 : ∀ i, mI M7 a i = if i = 40 then (w : Int) + 1 else mI M2 a i := fun i => by rw [aI7, f6, aI5]
  have l13 : ∀ q, q = a + 113 → q < mZ M2 := fun q hq => by rw [hq]; exact wd.lt k113
  have m27 : Mv (fun x => x = a + 113) (fun x => x = a ∨ (a + 21185 ≤ x ∧ x ≤ a + 21187)) M2 a M7 := (m26.mono (fun _ z => z.elim) (fun x z => z) l13).trans (m7.mono (fun q hq => hq) (fun _ z => z.elim) (fun q hq => by rw [hq]; exact m6.2.1.lt k113))
  have gs := gs_st wd hg m27 in13 (fun q hq z => by
    have z' : q = g + 1 ∨ q = g + 3 ∨ q = g + 5 ∨ q = g + 7 ∨ q = g + 9 ∨ q = g + 11 ∨ q = g + 30 ∨ q = g + 32 ∨ q = g + 34 := z
    omega) (fun x hx => by omega)
  have W7 : wyF M2 a M7 := wyF.mk wd m27 (fun q hq => Or.inr hq) (fun x hx => by
    rcases hx with z | z
    · exact Or.inl (Or.inl z)
    · exact Or.inr (Or.inr (by omega))) (fun i _ _ _ _ i5 => by rw [F7, if_neg i5])
  have s7 : ∀ {q}, q ∈ nums a → q ≠ a + 113 → sl M2 M7 q := fun hq hne => (m27.lst hq hne).sl
  have c105 := (m27.cellL wd in13 (offx (a := a) (o := 105) (by decide)) (by omega)).1
  have w6 := m6.2.1
  have o85 := offx (a := a) (o := 21185) (by decide)
  have o86 := offx (a := a) (o := 21186) (by decide)
  have o87 := offx (a := a) (o := 21187) (by decide)
  have e85 : ∀ k, mI M7 (a + 21185) k = if k = w then to else mI M2 (a + 21185) k := fun k => by
    rw [(m7.cellL w6 in13 o85 (fun z => z)).1, (m6.cellL m5.2.1 no o85 (by omega)).1, i5, i4, f3]
    by_cases z : k = w
    · rw [if_pos ⟨rfl, z⟩, if_pos z]
    · rw [if_neg (fun y => z y.2), if_neg z]
  have e86 : ∀ k, mL M7 (a + 21186) k = if k = w then A else mL M2 (a + 21186) k := fun k => by
    rw [(m7.cellL w6 in13 o86 (fun z => z)).2, (m6.cellL m5.2.1 no o86 (by omega)).2, n5' _ (by omega), f4, l3]
  have e87 : ∀ k, mL M7 (a + 21187) k = if k = w then D else mL M2 (a + 21187) k := fun k => by
    rw [(m7.cellL w6 in13 o87 (fun z => z)).2, (m6.cellL m5.2.1 no o87 (by omega)).2, f5, n4 _ (by omega), l3]
  have e113 : ∀ k, nt M7 (a + 113) k = if k = L then ((w - w0 : Nat) : Int) + 1 else nt M2 (a + 113) k := fun k => by
    rw [f7, t13, (s6 k113).2.1]
  obtain ⟨h1, h2, h3, h4, h5, h6, h7⟩ := id h
  have mB := h.mono
  refine ⟨⟨m3.2.1, m4.2.1, m5.2.1, w6⟩, ⟨aI3, aI4, aI5⟩, t13, by rw [(s6 k113).1]; exact h5.2.2.1, ⟨l3, fun y hy => by rw [n4 y hy, l3]⟩, W7, m27, by rw [F7, if_neg (by decide)], ⟨by rw [F7, if_neg (by decide)]; exact h1, ⟨by rw [F7, if_pos rfl]; omega, by omega⟩, fun k v hk hv => ?_, fun j hj => ?_, ?_, ⟨h6.1, by omega, h6.2.2⟩, fun i hi => ?_⟩, ⟨by omega, ?_, p3, fun j j0 j1 => ?_, ?_⟩, e85, e86, e87, c105⟩
  · rw [(gs.2.1 19 (by omega) (by omega)).1, (gs.2.1 20 (by omega) (by omega)).1, c105]
    exact h3 k v hk hv
  · rw [e85, e86, e87]
    by_cases z : j = w
    · rw [if_pos z, if_pos z, if_pos z]
      exact ⟨ht, hA, hD⟩
    · rw [if_neg z, if_neg z, if_neg z]
      exact h4 j (by omega)
  · rw [(s7 k109 (by omega)).1, (s7 k111 (by omega)).1, (s7 k115 (by omega)).1, l7, (s6 k113).1]
    exact h5
  · have := mB (i + 1) L (by omega) (Nat.le_refl _)
    refine (h7 i hi).cg ((s7 k111 (by omega)).2 i) (by rw [e113, if_neg (by omega)]) ((s7 k115 (by omega)).2 i) (fun j j0 j1 => ?_)
    rw [e86, e87, if_neg (by omega), if_neg (by omega)]
    exact ⟨rfl, rfl⟩
  · rw [(s7 k111 (by omega)).2, (s7 k115 (by omega)).2, e113, if_pos rfl]
    exact ⟨p2.1, by omega, p2.2.2⟩
  · rw [e87]
    by_cases z : j = w
    · rw [if_pos z]; exact hdm
    · rw [if_neg z]; exact p4 j j0 (by omega)
  · rw [show w + 1 - w0 = (w - w0) + 1 by omega]
    show sm (fun t => mL M7 (a + 21186) (w0 + t) * (mul / mL M7 (a + 21187) (w0 + t))) (w - w0) + mL M7 (a + 21186) (w0 + (w - w0)) * (mul / mL M7 (a + 21187) (w0 + (w - w0))) = _
    rw [show w0 + (w - w0) = w by omega, e86, e87, if_pos rfl, if_pos rfl, ← p5]
    have : sm (fun t => mL M7 (a + 21186) (w0 + t) * (mul / mL M7 (a + 21187) (w0 + t))) (w - w0) = sm (fun t => mL M2 (a + 21186) (w0 + t) * (mul / mL M2 (a + 21187) (w0 + t))) (w - w0) := sm_congr _ (fun t ht => by
      show mL M7 (a + 21186) (w0 + t) * (mul / mL M7 (a + 21187) (w0 + t)) = mL M2 (a + 21186) (w0 + t) * (mul / mL M2 (a + 21187) (w0 + t))
      rw [e86, e87, if_neg (by omega), if_neg (by omega)])
    rw [this]
/-- the ways from w0 on: goals and shares -/
def brR (M : mM) (a w0 : Nat) (mul : Int) (m : Nat) : List (Nat × Int) := (List.range m).map (fun t => ((mI M (a + 21185) (w0 + t)).toNat, mL M (a + 21186) (w0 + t) * (mul / mL M (a + 21187) (w0 + t))))
/-- the ways' chances stand in lowest terms -/
def Wc (M : mM) (a w : Nat) : Prop := ∀ j : Nat, j < w → Int.gcd (mL M (a + 21186) j) (mL M (a + 21187) j) = 1
/-- the ways before w0 are the same -/
def Lw (M M' : mM) (a w0 : Nat) : Prop := ∀ j : Nat, j < w0 → mI M' (a + 21185) j = mI M (a + 21185) j ∧ mL M' (a + 21186) j = mL M (a + 21186) j ∧ mL M' (a + 21187) j = mL M (a + 21187) j
theorem brR_len : (brR M a w0 mul m).length = m := by
  unfold brR
  rw [List.length_map, List.length_range]
theorem brR_s : brR M a w0 mul (m + 1) = brR M a w0 mul m ++ [((mI M (a + 21185) (w0 + m)).toNat, mL M (a + 21186) (w0 + m) * (mul / mL M (a + 21187) (w0 + m)))] := by
  unfold brR
  rw [List.range_succ, List.map_append]
  rfl
theorem brR_cg (h : ∀ i, w0 ≤ i → i < w0 + m → mI M' (a + 21185) i = mI M (a + 21185) i ∧ mL M' (a + 21186) i = mL M (a + 21186) i ∧ mL M' (a + 21187) i = mL M (a + 21187) i) : brR M' a w0 mul m = brR M a w0 mul m := by
  unfold brR
  refine List.map_congr_left (fun t ht => ?_)
  have := List.mem_range.mp ht
  obtain ⟨h1, h2, h3⟩ := h (w0 + t) (by omega) (by omega)
  rw [h1, h2, h3]
theorem brR_mem {x : Nat × Int} (h : x ∈ brR M a w0 mul m) : ∃ i, w0 ≤ i ∧ i < w0 + m ∧ x = ((mI M (a + 21185) i).toNat, mL M (a + 21186) i * (mul / mL M (a + 21187) i)) := by
  unfold brR at h
  obtain ⟨t, ht, e⟩ := List.mem_map.mp h
  have := List.mem_range.mp ht
  exact ⟨w0 + t, by omega, by omega, e.symm⟩
theorem brR_sp : ∀ m, brR M a w0 mul (i + 1 + m) = brR M a w0 mul i ++ ((mI M (a + 21185) (w0 + i)).toNat, mL M (a + 21186) (w0 + i) * (mul / mL M (a + 21187) (w0 + i))) :: brR M a (w0 + i + 1) mul m
  | 0 => by rw [show i + 1 + 0 = i + 1 by omega, brR_s]; rfl
  | m + 1 => by
    rw [show i + 1 + (m + 1) = (i + 1 + m) + 1 by omega, brR_s, brR_sp m, brR_s (w0 := w0 + i + 1), show w0 + (i + 1 + m) = w0 + i + 1 + m by omega, List.append_assoc]
    rfl
/-- what following a branch comes to -/
def foR (fq : List (br9 × (Int × Int)) → List (List Int) → List (Nat × Int) → (Int × Int) × List (List Int) × List (Nat × Int)) (x : br9 × (Int × Int)) (S : List (List Int)) (Bl : List (Nat × Int)) (a W w0 : Nat) (mul : Int) (xv : Int → vrs) (g R : Nat) (M M' : mM) : Prop := (mI M' a 16 ≠ 0 ∧ ∀ rest, (fq (x :: rest) S Bl).1 = (mI M' a 16, mI M' a 17)) ∨ (mI M' a 16 = 0 ∧ ∃ (S' : List (List Int)) (B' : List (Nat × Int)), (∀ rest, fq (x :: rest) S Bl = fq rest S' B') ∧ mI M' a 29 = ((S'.length : Nat) : Int) ∧ SmR M' a W S'.length = S' ∧ ∃ w' : Nat, mI M' a 40 = (w' : Int) ∧ brR M' a w0 mul (w' - w0) = B' ∧ Wc M' a w' ∧ XVq M' a g R W xv ∧ Lw M M' a w0)
/-- the way is looked for among those of this command -/
theorem x_way187 {b tn9 : Nat} {pc to : Int} {fq : List (br9 × (Int × Int)) → List (List Int) → List (Nat × Int) → (Int × Int) × List (List Int) × List (Nat × Int)} {x : br9 × (Int × Int)} {S S2 : List (List Int)} {Bl : List (Nat × Int)} {xv : Int → vrs} (lw : Lw M M2 a w0) (xq : XVq M2 a g R W xv) (eS : S2.length = n ∧ SmR M2 a W n = S2) (hBl : Bl = brR M2 a w0 mul (w - w0)) (wc : Wc M2 a w) (gAD : Int.gcd A D = 1) (etn : to = ((tn9 : Nat) : Int)) (hfq : ∀ rest, fq (x :: rest) S Bl = match jnq9 tn9 (mul / D * A) Bl with | some B' => fq rest S2 B' | none => if w0 + Bl.length = 4096 then ((5, pc), S2, Bl) else fq rest S2 (Bl ++ [(tn9, mul / D * A)])) (ipl : i32 pc) (hb : b < 8) (hw0 : B L = w0) (hA : 0 < A ∧ A < 1000000000) (hD : 0 < D ∧ D < 1000000000) (hdm : D ∣ mul) (hle : Sm + A * (mul / D) ≤ mul) (ht : 0 ≤ to ∧ to < n) (h : wI M a g T R W C Z E tg n L w w0 mul Sm A D B b M2) (z16 : mI M2 a 16 = 0) (hL : L ≤ 4096) : ∀ (t j : Nat), w0 ≤ j → j + t = w → (∀ j', w0 ≤ j' → j' < j → mI M2 (a + 21185) j' ≠ to) → h_MM_way_187 G (d + 6) a b pc to L j M2 (fun M' => mOk M' ∧ wyQ M a g T R W C Z E tg n L w w0 mul (Sm + A * (mul / D)) B M' ∧ foR fq x S Bl a W w0 mul xv g R M M') := by
  obtain ⟨x1, gg, en, xd, op, cA, cD⟩ := id h
  have o2 := gg.1
  have w2 := gg.2.1
  have hg := gg.2.2.1.2
  have hn5 := xd.1.2.2
  have hw4 := xd.2.1.2
  have f40 := xd.2.1.1
  have l13 := xd.2.2.2.2.1.2.2.1
  have ito : i32 to := ⟨by omega, by omega⟩
  have ib : i32 (b : Int) := i32s (by omega) (by omega)
  have iL : i32 (L : Int) := i32s (by omega) (by omega)
  have b8 : ((0 : Int) ≤ (b : Int) ∧ (b : Int) < ((8 : Nat) : Int)) := by omega
  have pr : ∀ {Mx : mM}, Wd Mx a → (mR Mx a 41 = a + 21185 ∧ mR Mx a 42 = a + 21186 ∧ mR Mx a 43 = a + 21187 ∧ mR Mx a 45 = a + 21189 ∧ mR Mx a 46 = a + 21190) := fun w => ⟨w.1.2.2.2.2.2.2.1.1, w.1.2.2.2.2.2.2.1.2.1, w.1.2.2.2.2.2.2.1.2.2.1, w.1.2.2.2.2.2.2.1.2.2.2.2.1, w.1.2.2.2.2.2.2.1.2.2.2.2.2.1⟩
  have ar : ∀ {Mx : mM}, Wd Mx a → ((mK Mx (a + 21185) = 30 ∧ mN Mx (a + 21185) = 4096) ∧ (mK Mx (a + 21186) = 33 ∧ mN Mx (a + 21186) = 4096) ∧ (mK Mx (a + 21187) = 33 ∧ mN Mx (a + 21187) = 4096)) := fun w => ⟨w.1.2.2.2.2.2.2.2.2.2.1.1, w.1.2.2.2.2.2.2.2.2.2.1.2.1, w.1.2.2.2.2.2.2.2.2.2.1.2.2.1⟩
  intro t
  induction t with
  | zero =>
    intro j j0 hj hno
    have ej : j = w := by omega
    subst ej
    have bw : j < 4096 → ((0 : Int) ≤ (j : Int) ∧ (j : Int) < ((4096 : Nat) : Int)) := fun _ => by omega
    have jn : jnq9 tn9 (mul / D * A) Bl = none := jnq_n _ (fun y hy => by
      rw [hBl] at hy
      obtain ⟨i, i1, i2, i3⟩ := brR_mem hy
      have e1 := hno i i1 (by omega)
      have e2 := (xd.2.2.2.1 i (by omega)).1.1
      rw [i3]
      show (mI M2 (a + 21185) i).toNat ≠ tn9
      omega)
    have lB : w0 + Bl.length = j := by rw [hBl, brR_len]; omega
    refine k_MM_way_187 o2 ib ipl ito iL (i32s (by omega) (by omega)) ⟨w2.1.1, ?_⟩
    rw [f40]
    refine ⟨fun _ => ⟨fun q => (s_MM_stop ⟨by decide, by decide⟩ ipl o2 w2).mono (fun M3 h3 => ⟨h3.1.1, h3.1.1, h.stp (by decide) h3, Or.inl ⟨by rw [h3.2.1]; decide, fun rest => ?_⟩⟩), fun q => ?_⟩, fun q => absurd (Int.le_refl _) q⟩
    · rw [hfq rest, jn, h3.2.1, h3.2.2.1]
      show (if w0 + Bl.length = 4096 then ((5, pc), S2, Bl) else _).1 = _
      rw [if_pos (by omega)]
    have hw : j < 4096 := by omega
    have bw := bw hw
    rw [(pr w2).1, Int.toNat_natCast]
    refine ⟨(ar w2).1.1, by rw [(ar w2).1.2]; exact bw, fun M3 e3 => ?_⟩
    have N := fun (M4 M5 M6 M7 : mM) e4 e5 e6 e7 => way_newx (M4 := M4) (M5 := M5) (M6 := M6) (M7 := M7) o2 w2 hg xd hw0 op hw ht hA hD hdm e3 e4 e5 e6 e7
    have N3 := N _ _ _ _ rfl rfl rfl rfl
    have w3 := N3.1.1
    have l3 := N3.2.2.2.2.1.1
    have a3 := N3.2.1.1
    rw [(pr w3).2.2.2.1, (pr w3).2.1, a3, f40, Int.toNat_natCast, Int.toNat_natCast, l3, cA]
    refine ⟨(r4546 w3).2.1.1, by rw [(r4546 w3).2.1.2]; exact b8, (ar w3).2.1.1, by rw [(ar w3).2.1.2]; exact bw, fun M4 e4 => ?_⟩
    have N4 := N M4 _ _ _ e4 rfl rfl rfl
    have w4 := N4.1.2.1
    have a4 := N4.2.1.2.1
    have l4 := N4.2.2.2.2.1.2
    rw [(pr w4).2.2.2.2, (pr w4).2.2.1, a4, f40, Int.toNat_natCast, l4 (a + 21190) (by omega), cD]
    refine ⟨(r4546 w4).2.2.1, by rw [(r4546 w4).2.2.2]; exact b8, (ar w4).2.2.1, by rw [(ar w4).2.2.2]; exact bw, fun M5 e5 => ?_⟩
    have N5 := N M4 M5 _ _ e4 e5 rfl rfl
    have w5 := N5.1.2.2.1
    have a5 := N5.2.1.2.2
    rw [a5, f40]
    refine ⟨i32s (by omega) (by omega), fun M6 e6 => ?_⟩
    have N6 := N M4 M5 M6 _ e4 e5 e6 rfl
    have w6 := N6.1.2.2.2
    have t13 : mI M6 (mR M6 (a + 113) 0) L = ((j - w0 : Nat) : Int) := N6.2.2.1
    have u13 := w6.nu (k113 (a := a))
    have c13 : ((L + 1 : Nat) : Int) ≤ cp M6 (a + 113) := by rw [← N6.2.2.2.1]; exact u13.2.2.2.1.2
    have ecp : mN M6 (mR M6 (a + 113) 0) = cp M6 (a + 113) := rfl
    rw [show mR M6 a 37 = a + 113 from w6.1.2.2.2.2.2.1.2.2.2.2.2.2.1, Int.toNat_natCast]
    refine ⟨u13.1, u13.2.1, by rw [ecp]; omega, by rw [ecp]; omega, by rw [t13]; exact i32s (by omega) (by omega), fun M7 e7 => ?_⟩
    obtain ⟨-, -, -, -, -, W7, m7, e16, X7, O7, y85, y86, y87, y105⟩ := N M4 M5 M6 M7 e4 e5 e6 e7
    have in13 : ∀ q, q = a + 113 → q ∈ nums a := fun q hq => by rw [hq]; exact k113
    have gs := gs_st w2 hg m7 in13 (fun q hq z => by
      have z' : q = g + 1 ∨ q = g + 3 ∨ q = g + 5 ∨ q = g + 7 ∨ q = g + 9 ∨ q = g + 11 ∨ q = g + 30 ∨ q = g + 32 ∨ q = g + 34 := z
      omega) (fun x hx => by omega)
    refine ⟨m7.1, ⟨x1.trans W7, gg.gs m7.1 m7.2.1 (by rw [m7.rfl_a w2 in13]) gs, en.mv w2 m7 in13 gs (fun x hx => by omega), Or.inr ⟨by rw [e16]; exact z16, n, j + 1, Nat.le_refl _, Or.inr rfl, X7, O7⟩⟩, Or.inr ⟨by rw [e16]; exact z16, S2, Bl ++ [(tn9, mul / D * A)], fun rest => ?_, ?_, ?_, j + 1, X7.2.1.1, ?_, ?_, xq.mv w2 m7 in13 gs (fun x hx => by omega), fun i hi => ?_⟩⟩
    · rw [hfq rest, jn]
      show (if w0 + Bl.length = 4096 then ((5, pc), S2, Bl) else _) = _
      rw [if_neg (by omega)]
    · rw [eS.1]
      exact X7.1.1
    · rw [eS.1, SmR_cg (M := M2) gg.2.2.2.2.2.2.2.1.1.2.1 (fun j _ => by rw [y105])]
      exact eS.2
    · rw [show j + 1 - w0 = (j - w0) + 1 by omega, brR_s, brR_cg (M := M2) (fun i i1 i2 => by rw [y85, y86, y87, if_neg (by omega), if_neg (by omega), if_neg (by omega)]; exact ⟨rfl, rfl, rfl⟩), ← hBl, show w0 + (j - w0) = j by omega, y85, y86, y87, if_pos rfl, if_pos rfl, if_pos rfl, etn, Int.toNat_natCast, Int.mul_comm]
    · intro i hi
      rw [y86, y87]
      by_cases y : i = j
      · rw [if_pos y, if_pos y]; exact gAD
      · rw [if_neg y, if_neg y]; exact wc i (by omega)
    · rw [y85, y86, y87, if_neg (by omega), if_neg (by omega), if_neg (by omega)]
      exact lw i hi
  | succ t ih =>
    intro j j0 hj hno
    have bj : ((0 : Int) ≤ (j : Int) ∧ (j : Int) < ((4096 : Nat) : Int)) := by omega
    refine k_MM_way_187 o2 ib ipl ito iL (i32s (by omega) (by omega)) ⟨w2.1.1, ?_⟩
    rw [f40, (pr w2).1, (pr w2).2.2.2.1, (pr w2).2.2.2.2, Int.toNat_natCast, Int.toNat_natCast, cA, cD]
    refine ⟨fun q => absurd q (by omega), fun _ => ⟨(ar w2).1.1, by rw [(ar w2).1.2]; exact bj, fun qt => ⟨(r4546 w2).2.1.1, by rw [(r4546 w2).2.1.2]; exact b8, (r4546 w2).2.2.1, by rw [(r4546 w2).2.2.2]; exact b8, ?_⟩, fun qt => ?_⟩⟩
    · refine (x_MM_add (d := d + 5) hg o2 w2 xd hw0 op j0 (by omega) hA hD hdm hle).mono (fun M3 t3 => ?_)
      obtain ⟨o3, m3, i3, X3, O3, y1, y2, y3⟩ := t3
      have no : ∀ q : Nat, False → q ∈ nums a := fun _ z => z.elim
      have gs := gs_st w2 hg m3 no (fun _ z => z.elim) (fun x z => by omega)
      have W3 : wyF M2 a M3 := wyF.mk w2 m3 (fun _ z => z.elim) (fun x z => Or.inr (Or.inr (by omega))) (fun i _ _ _ _ _ => by rw [i3])
      have qe : mI M2 (a + 21185) j = to := qt
      have sp : Bl = brR M2 a w0 mul (j - w0) ++ ((mI M2 (a + 21185) j).toNat, mL M2 (a + 21186) j * (mul / mL M2 (a + 21187) j)) :: brR M2 a (j + 1) mul (w - (j + 1)) := by
        have := brR_sp (M := M2) (a := a) (w0 := w0) (mul := mul) (i := j - w0) (w - (j + 1))
        rw [show j - w0 + 1 + (w - (j + 1)) = w - w0 by omega, show w0 + (j - w0) = j by omega] at this
        rw [hBl]
        exact this
      have sp3 : brR M3 a w0 mul (w - w0) = brR M2 a w0 mul (j - w0) ++ ((mI M2 (a + 21185) j).toNat, mL M2 (a + 21186) j * (mul / mL M2 (a + 21187) j) + mul / D * A) :: brR M2 a (j + 1) mul (w - (j + 1)) := by
        have := brR_sp (M := M3) (a := a) (w0 := w0) (mul := mul) (i := j - w0) (w - (j + 1))
        rw [show j - w0 + 1 + (w - (j + 1)) = w - w0 by omega, show w0 + (j - w0) = j by omega] at this
        rw [this, y2, i3, Int.mul_comm A, brR_cg (M := M2) (M' := M3) (fun i i1 i2 => by rw [i3]; exact ⟨rfl, y1 i (by omega)⟩), brR_cg (M := M2) (M' := M3) (w0 := j + 1) (fun i i1 i2 => by rw [i3]; exact ⟨rfl, y1 i (by omega)⟩)]
      have jn : jnq9 tn9 (mul / D * A) Bl = some (brR M3 a w0 mul (w - w0)) := by
        rw [sp, sp3]
        refine jnq_s (by show (mI M2 (a + 21185) j).toNat = tn9; rw [qe, etn, Int.toNat_natCast]) _ (fun y hy => ?_)
        obtain ⟨i, i1, i2, i3'⟩ := brR_mem hy
        have e1 := hno i i1 (by omega)
        have e2 := (xd.2.2.2.1 i (by omega)).1.1
        rw [i3']
        show (mI M2 (a + 21185) i).toNat ≠ tn9
        omega
      exact ⟨o3, o3, ⟨x1.trans W3, gg.gs o3 m3.2.1 (by rw [m3.rfl_a w2 no]) gs, en.mv w2 m3 no gs (fun x z => by omega), Or.inr ⟨by rw [i3]; exact z16, n, w, Nat.le_refl _, Or.inl rfl, X3, O3⟩⟩, Or.inr ⟨by rw [i3]; exact z16, S2, brR M3 a w0 mul (w - w0), fun rest => by rw [hfq rest, jn], by rw [i3, eS.1]; exact xd.1.1, by rw [eS.1, SmR_cg (M := M2) gg.2.2.2.2.2.2.2.1.1.2.1 (fun j _ => by rw [i3])]; exact eS.2, w, by rw [i3]; exact f40, rfl, fun i hi => by
        by_cases y : i = j
        · rw [y]; exact y3
        · rw [(y1 i y).1, (y1 i y).2]; exact wc i hi, xq.mv w2 m3 no gs (fun x z => by omega), fun i hi => by rw [i3, (y1 i (by omega)).1, (y1 i (by omega)).2]; exact lw i hi⟩⟩
    · rw [show (j : Int) + 1 = ((j + 1 : Nat) : Int) by omega]
      exact ih (j + 1) (by omega) (by omega) (fun j' h1 h2 => by
        by_cases y : j' = j
        · rw [y]; exact qt
        · exact hno j' h1 (by omega))
end WYX
