/-! The reference's public methods: adopt, print, compare, billionths, choice, rank, next, check. -/
section PUD
variable {G : mG} {d a s n k w : Nat} {M M' M2 : mM} {S : Nat → Prop} {Nt9 : tP9}
theorem s_MS_billionths2 (hO : mOk M) (h : Sv M s n) (hk : k < n) (hw : w < 3) (hh : mI M (s + 30) w ≠ 0) : Ci G y_MS_billionths (d + 4) [vr s, vi k, vi w] M (fun r M' => i32 r ∧ mOk M' ∧ FI (vK s) M M' ∧ Sv M' s n) := by
  have hn5 := h.n5
  obtain ⟨a1, a2⟩ := h.frac hk hw hh
  have al := a1.low
  obtain ⟨V, g, c, e, t, W, -⟩ := id h
  have hp : 0 < wv M (frc s k w + 3) := a1.1.2.2.2.2
  have hb : wv M (frc s k w + 1) * 1000000000 / wv M (frc s k w + 3) < 2147483648 := by
    refine Int.lt_of_le_of_lt (Int.ediv_le_of_le_mul hp (b := 1000000000) ?_) (by omega)
    have := Int.mul_le_mul_of_nonneg_right al.1 (show (0 : Int) ≤ 1000000000 by omega)
    rw [Int.mul_comm 1000000000]
    exact this
  refine k_MS_billionths hO ⟨by omega, by omega⟩ ⟨by omega, by omega⟩ ?_
  rw [V.r11, V.n29, V.r0, a2]
  refine ⟨V.k0, V.k29, by omega, W.1.1.1, (s_MU_billionths (d := d) hO W.1 a1.1 (by unfold suO frc; omega) (by omega) (by omega) hb).mono (fun u M1 h1 => ?_)⟩
  obtain ⟨o1, f1, Z1, hu⟩ := h1
  have h0 : 0 ≤ u := by rw [hu]; exact Int.ediv_nonneg (Int.mul_nonneg a1.1.2.1.nonneg (by omega)) (by omega)
  exact ⟨⟨by omega, by omega⟩, o1, ⟨by omega, by omega⟩, o1, f1.mono (fun y q => by omega), h.out f1 (fun y q => by omega) (W.out f1 Z1 (fun y q => by omega))⟩
theorem s_MS_choiceOf2 (hO : mOk M) (h : Sv M s n) (hk : k < n) : Ci G y_MS_choiceOf d [vr s, vi k] M (fun r M' => M' = M ∧ i32 r) := by
  have hn5 := h.n5
  obtain ⟨V, -⟩ := id h
  refine k_MS_choiceOf hO ⟨by omega, by omega⟩ ?_
  rw [V.r15, V.n33]
  exact ⟨V.k0, V.k33, by omega, rfl, (hO _ _).1⟩
theorem s_MS_rankOf2 (hO : mOk M) (h : Sv M s n) (hk : k < n) : Ci G y_MS_rankOf d [vr s, vi k] M (fun r M' => M' = M ∧ i32 r) := by
  have hn5 := h.n5
  obtain ⟨V, -⟩ := id h
  refine k_MS_rankOf hO ⟨by omega, by omega⟩ ?_
  rw [V.r16, V.n34]
  exact ⟨V.k0, V.k34, by omega, rfl, (hO _ _).1⟩
theorem r_MM_adopt (h : RI Nt9 M a) : Cv G y_MM_adopt (d + 2) [vr a] M (fun M' => (RI Nt9 M' a ∧ FX M a M') ∧ mI M' a 0 = if Nt9.2.2.2.2.2.2.2.1.2.2 = 0 then 1 else 0) := by
  refine k_MM_adopt h.1 ?_
  rw [h.2.1.pl3.2.2.2.2.2.2.2.2]
  refine ⟨h.2.1.1.1, h.sv.1.1, (s_MS_hasValues h.1 h.sv).mono (fun x M1 q => ?_)⟩
  obtain ⟨e1, hx, ex⟩ := q
  subst e1
  refine ⟨i32s (by omega) (by omega), h.1, fun v e => ⟨h.2.1.1.1, fun M2 e2 => ?_⟩⟩
  have iv : i32 v := by rw [e]; split <;> exact ⟨by decide, by decide⟩
  obtain ⟨r2, F2, f2⟩ := h.step iv ⟨by decide, by decide, by decide⟩ e2
  rw [r2.2.1.pl3.2.2.2.2.2.2.2.2]
  have kne := h.xe.2.1.2
  have v2 : mI M2 a 0 = if Nt9.2.2.2.2.2.2.2.1.2.2 = 0 then 1 else 0 := by rw [f2, if_pos rfl, e, ex, kne]
  refine ⟨fun q => ?_, fun _ => ⟨⟨r2, F2⟩, v2⟩⟩
  have x0 : x ≠ 0 := fun z => by
    rw [f2, if_pos rfl, e, if_pos z] at q
    omega
  have e30 : mI M2 (a + 117 + 30) 0 = 1 := by
    rw [e2, mI_UI, if_neg (fun z => by omega), ← ex]
    omega
  refine ⟨r2.sv.1.1, (s_MS_adopt r2.1 r2.sv e30).mono (fun M3 q => ?_)⟩
  obtain ⟨o, f, S3⟩ := q
  obtain ⟨r3, F3, a3⟩ := r2.sol o (fi_vk f).1 (fun x z => Or.inl z) S3 (fi_vk f).2
  exact ⟨o, ⟨r3, F2.trans F3⟩, by rw [a3]; exact v2⟩
theorem r_MM_check (h : RI Nt9 M a) : Ci G y_MM_check (d + 1) [vr a] M (rQ Nt9 M a) := by
  refine k_MM_check h.1 ⟨h.2.1.1.1, fun M2 e2 => ?_⟩
  obtain ⟨r2, F2, -⟩ := h.step ⟨by decide, by decide⟩ ⟨by decide, by decide, by decide⟩ e2
  rw [r2.2.1.pl3.2.2.2.2.2.2.2.2]
  refine ⟨r2.sv.1.1, (s_MS_hasValues r2.1 r2.sv).mono (fun x M1 q => ?_)⟩
  obtain ⟨e1, hx, ex⟩ := q
  subst e1
  refine ⟨i32s (by omega) (by omega), r2.1, fun v e => ⟨?_, r2, F2⟩⟩
  rw [e]
  split <;> exact ⟨by decide, by decide⟩
theorem r_MM_billionths {l1 l2 : Int} (i1 : i32 l1) (i2 : i32 l2) (h : RI Nt9 M a) : Ci G y_MM_billionths (d + 5) [vr a, vi l1, vi l2] M (rQ Nt9 M a) := by
  refine k_MM_billionths h.1 i1 i2 ⟨h.2.1.1.1, fun M2 e2 => ?_⟩
  obtain ⟨r2, F2, -⟩ := h.step ⟨by decide, by decide⟩ ⟨by decide, by decide, by decide⟩ e2
  rw [r2.2.1.pl3.2.2.2.2.2.2.2.2]
  refine ⟨r2.sv.1.1, (s_MS_isThere i1 i2 r2.1 r2.sv).mono (fun x M1 q => ?_)⟩
  obtain ⟨e1, hx, ex⟩ := q
  subst e1
  rw [r2.2.1.pl3.2.2.2.2.2.2.2.2]
  refine ⟨i32s (by omega) (by omega), r2.1, fun _ => ⟨⟨by decide, by decide⟩, r2, F2⟩, fun y => ⟨r2.2.1.1.1, r2.sv.1.1, ?_⟩⟩
  obtain ⟨y1, y2, y3, y4, y5⟩ := ex.1 y
  clear ex
  have t := s_MS_billionths2 (G := G) (d := d) (k := l1.toNat) (w := l2.toNat) r2.1 r2.sv (by omega) (by omega) y5
  rw [Int.toNat_of_nonneg y1, Int.toNat_of_nonneg y3] at t
  refine t.mono (fun z M3 q => ?_)
  obtain ⟨iz, o, f, S3⟩ := q
  obtain ⟨r3, F3, -⟩ := r2.sol o (fi_vk f).1 (fun x z => Or.inl z) S3 (fi_vk f).2
  exact ⟨iz, o, iz, r3, F2.trans F3⟩
theorem r_MM_compare {l1 l2 l3 l4 : Int} (i1 : i32 l1) (i2 : i32 l2) (i3 : i32 l3) (i4 : i32 l4) (h : RI Nt9 M a) : Ci G y_MM_compare (d + 4) [vr a, vi l1, vi l2, vi l3, vi l4] M (rQ Nt9 M a) := by
  refine k_MM_compare h.1 i1 i2 i3 i4 ⟨h.2.1.1.1, fun M2 e2 => ?_⟩
  obtain ⟨r2, F2, -⟩ := h.step ⟨by decide, by decide⟩ ⟨by decide, by decide, by decide⟩ e2
  rw [r2.2.1.pl3.2.2.2.2.2.2.2.2]
  refine ⟨r2.sv.1.1, (s_MS_isThere i1 i2 r2.1 r2.sv).mono (fun x M1 q => ?_)⟩
  obtain ⟨e1, hx, ex⟩ := q
  subst e1
  rw [r2.2.1.pl3.2.2.2.2.2.2.2.2]
  refine ⟨i32s (by omega) (by omega), r2.1, fun _ => ⟨⟨by decide, by decide⟩, r2, F2⟩, fun y => ⟨r2.2.1.1.1, r2.sv.1.1, (s_MS_isThere i3 i4 r2.1 r2.sv).mono (fun x' M1 q => ?_)⟩⟩
  obtain ⟨e1, hx', ex'⟩ := q
  subst e1
  rw [r2.2.1.pl3.2.2.2.2.2.2.2.2]
  refine ⟨i32s (by omega) (by omega), r2.1, fun _ => ⟨⟨by decide, by decide⟩, r2, F2⟩, fun y' => ⟨r2.2.1.1.1, r2.sv.1.1, ?_⟩⟩
  obtain ⟨y1, y2, y3, y4, y5⟩ := ex.1 y
  obtain ⟨z1, z2, z3, z4, z5⟩ := ex'.1 y'
  clear ex ex'
  have t := s_MS_compare (G := G) (d := d) (k := l1.toNat) (w := l2.toNat) (j := l3.toNat) (w' := l4.toNat) r2.1 r2.sv (by omega) (by omega) y5 (by omega) (by omega) z5
  rw [Int.toNat_of_nonneg y1, Int.toNat_of_nonneg y3, Int.toNat_of_nonneg z1, Int.toNat_of_nonneg z3] at t
  refine t.mono (fun z M3 q => ?_)
  obtain ⟨o, f, S3, b1, b2⟩ := q
  obtain ⟨r3, F3, -⟩ := r2.sol o (fi_vk f).1 (fun x z => Or.inl z) S3 (fi_vk f).2
  have iz : i32 z := i32s (by omega) (by omega)
  exact ⟨iz, o, iz, r3, F2.trans F3⟩
theorem RI0.prn {v : Int} (h : RI0 Nt9 M a) (h0 : 0 ≤ v) (h1 : v ≤ 900) (e : M' = mUI M a 48 v) : RI0 Nt9 M' a ∧ FX M a M' := by
  obtain ⟨hO, w, ht, hx⟩ := h
  have hg := w.g9
  obtain ⟨m, f⟩ := mv_fld (v := v) (i32s (by omega) (by omega)) hO w e
  have no : ∀ q : Nat, False → q ∈ nums a := fun _ z => z.elim
  have tp := w.tape
  have aR := m.rfl_a w no
  obtain ⟨x1, x2, x3, x4, x5⟩ := hx
  have cI : ∀ x, x ≠ a → mI M' x = mI M x := fun x hx' => by rw [e]; funext j; rw [mI_UI, if_neg (fun z => hx' z.1)]
  refine ⟨⟨m.1, m.2.1, ⟨by rw [aR]; exact ht.1.sm (m.lst tp.1 (fun z => z)), by rw [aR, (m.lst tp.2.1 (fun z => z)).1]; exact ht.2⟩, ?_⟩, FR.mv m no (fun x z => by omega), ⟨⟨by rw [f, if_neg (by decide)], by rw [f, if_neg (by decide)], by rw [f, if_neg (by decide)]⟩, ⟨cI _ (by omega), cI _ (by omega), cI _ (by omega), cI _ (by omega), cI _ (by omega)⟩, ⟨by rw [e]; rfl, by rw [e]; rfl⟩, (m.lst (nums_o (by decide)) (fun z => z)).sl, (m.lst (nums_o (by decide)) (fun z => z)).sl, (m.lst (nums_o (by decide)) (fun z => z)).sl, (m.lst (nums_o (by decide)) (fun z => z)).sl, by rw [cI _ (by omega)], fun i p q => cI _ (by omega)⟩, by rw [f, if_neg (by decide)], by rw [cI _ (by omega)]⟩
  unfold RX
  rw [aR, f 29, if_neg (by decide), f 11, if_neg (by decide), f 48, if_pos rfl]
  refine ⟨x1, x2.ag (ag_mv w m no (fun x z => by omega)), fun q => gd_mv (x3 q) w hg m no (fun _ z => z.elim) (fun x z => by omega), fun q => ⟨(x4 q).1, ?_⟩, h0, h1, x5.2.2⟩
  obtain ⟨y1, y2, y3, y4⟩ := (x4 q).2
  have s9 := m.lst (q := a + 109) (nums_o (by decide)) (fun z => z)
  have s11 := m.lst (q := a + 111) (nums_o (by decide)) (fun z => z)
  have s13 := m.lst (q := a + 113) (nums_o (by decide)) (fun z => z)
  unfold XL mny
  rw [f 29, if_neg (by decide), s9.1, s11.1, s13.1, cI (a + 107) (by omega), cI (a + 108) (by omega), cI (a + 117 + 23) (by omega)]
  refine ⟨y1, y2, y3, fun i hi => ?_⟩
  rw [s11.2.1, s13.2.1]
  exact y4 i hi
theorem RI.prn {v : Int} (h : RI Nt9 M a) (h0 : 0 ≤ v) (h1 : v ≤ 900) (e : M' = mUI M a 48 v) : RI Nt9 M' a ∧ FX M a M' := by
  obtain ⟨a1, a2⟩ := h.r0.prn h0 h1 e
  exact ⟨a1.ri (h.xe.fx a2), a2⟩
theorem r_MM_print {l1 l2 : Int} (i1 : i32 l1) (i2 : i32 l2) (h : RI Nt9 M a) : Ci G y_MM_print (d + 5) [vr a, vi l1, vi l2] M (rQ Nt9 M a) := by
  refine k_MM_print h.1 i1 i2 ⟨h.2.1.1.1, fun M2 e2 => ?_⟩
  obtain ⟨r2, F2, -⟩ := h.step ⟨by decide, by decide⟩ ⟨by decide, by decide, by decide⟩ e2
  rw [r2.2.1.pl3.2.2.2.2.2.2.2.2]
  refine ⟨r2.sv.1.1, (s_MS_isThere i1 i2 r2.1 r2.sv).mono (fun x M1 q => ?_)⟩
  obtain ⟨e1, hx, ex⟩ := q
  subst e1
  rw [r2.2.1.pl3.2.2.2.2.2.2.2.2, r2.2.1.pl5.2]
  refine ⟨i32s (by omega) (by omega), r2.1, fun _ => ⟨⟨by decide, by decide⟩, r2, F2⟩, fun y => ⟨r2.2.1.1.1, r2.sv.1.1, ?_⟩⟩
  obtain ⟨y1, y2, y3, y4, y5⟩ := ex.1 y
  clear ex
  have B := r2.2.1.pl6.2.2.2
  have t := s_MS_print (G := G) (d := d) (k := l1.toNat) (w := l2.toNat) (o := a + 21191) r2.1 r2.sv (by omega) (by omega) y5 B.1 (by omega) (by omega)
  rw [Int.toNat_of_nonneg y1, Int.toNat_of_nonneg y3] at t
  refine t.mono (fun z M3 q => ?_)
  obtain ⟨o, f, S3, b0, b1⟩ := q
  obtain ⟨r3, F3, -⟩ := r2.sol o f (fun x z => by
    have z' : x = a + 117 + 12 ∨ x = a + 117 + 13 ∨ x = a + 117 + 67 ∨ x = a + 21191 := z
    by_cases u : x = a + 21191
    · exact Or.inr u
    · refine Or.inl ?_
      show a + 117 ≤ x ∧ x ≤ a + 117 + 21067 ∧ (x < a + 117 + 22 ∨ a + 117 + 28 < x)
      omega) S3 (by
    rw [f.2.2.2.2.2.2 (a + 117 + 30) (fun z => by
      have z' : a + 117 + 30 = a + 117 + 12 ∨ a + 117 + 30 = a + 117 + 13 ∨ a + 117 + 30 = a + 117 + 67 ∨ a + 117 + 30 = a + 21191 := z
      omega)])
  refine ⟨i32s (by omega) (by omega), o, r3.2.1.1.1, fun M4 e4 => ?_⟩
  obtain ⟨r4, F4⟩ := r3.prn b0 (by omega) e4
  exact ⟨(r4.1 _ _).1, r4, F2.trans (F3.trans F4)⟩
theorem r_MM_choice {l : Int} (hl : i32 l) (h : RI Nt9 M a) : Ci G y_MM_choice (d + 1) [vr a, vi l] M (rQ Nt9 M a) := by
  refine k_MM_choice h.1 hl ⟨h.2.1.1.1, (r_MM_isState hl h).mono (fun x M1 q => ?_)⟩
  obtain ⟨⟨ix, r1, F1⟩, hx⟩ := q
  rw [r1.2.1.pl3.2.2.2.2.2.2.2.2]
  refine ⟨ix, r1.1, fun _ => ⟨⟨by decide, by decide⟩, r1, F1⟩, fun y => ⟨r1.2.1.1.1, r1.sv.1.1, (s_MS_hasValues r1.1 r1.sv).mono (fun u M2 q => ?_)⟩⟩
  obtain ⟨e1, hu, -⟩ := q
  subst e1
  rw [r1.2.1.pl3.2.2.2.2.2.2.2.2]
  have b := hx y
  have t := s_MS_choiceOf2 (G := G) (d := d) (k := l.toNat) r1.1 r1.sv (by omega)
  rw [Int.toNat_of_nonneg b.1] at t
  refine ⟨i32s (by omega) (by omega), r1.1, fun _ => ⟨⟨by decide, by decide⟩, r1, F1⟩, fun _ => ⟨r1.2.1.1.1, r1.sv.1.1, t.mono (fun z M3 q => ?_)⟩⟩
  obtain ⟨e3, iz⟩ := q
  subst e3
  exact ⟨iz, r1.1, iz, r1, F1⟩
theorem r_MM_rank {l : Int} (hl : i32 l) (h : RI Nt9 M a) : Ci G y_MM_rank (d + 1) [vr a, vi l] M (rQ Nt9 M a) := by
  refine k_MM_rank h.1 hl ⟨h.2.1.1.1, (r_MM_isState hl h).mono (fun x M1 q => ?_)⟩
  obtain ⟨⟨ix, r1, F1⟩, hx⟩ := q
  rw [r1.2.1.pl3.2.2.2.2.2.2.2.2]
  refine ⟨ix, r1.1, fun _ => ⟨⟨by decide, by decide⟩, r1, F1⟩, fun y => ⟨r1.2.1.1.1, r1.sv.1.1, (s_MS_hasValues r1.1 r1.sv).mono (fun u M2 q => ?_)⟩⟩
  obtain ⟨e1, hu, -⟩ := q
  subst e1
  rw [r1.2.1.pl3.2.2.2.2.2.2.2.2]
  have b := hx y
  have t := s_MS_rankOf2 (G := G) (d := d) (k := l.toNat) r1.1 r1.sv (by omega)
  rw [Int.toNat_of_nonneg b.1] at t
  refine ⟨i32s (by omega) (by omega), r1.1, fun _ => ⟨⟨by decide, by decide⟩, r1, F1⟩, fun _ => ⟨r1.2.1.1.1, r1.sv.1.1, t.mono (fun z M3 q => ?_)⟩⟩
  obtain ⟨e3, iz⟩ := q
  subst e3
  exact ⟨iz, r1.1, iz, r1, F1⟩
theorem r_MM_next {l1 l2 : Int} (i1 : i32 l1) (i2 : i32 l2) (h : RI Nt9 M a) : Ci G y_MM_next (d + 2) [vr a, vi l1, vi l2] M (rQ Nt9 M a) := by
  refine k_MM_next h.1 i1 i2 ⟨h.2.1.1.1, (r_MM_isState i1 h).mono (fun x M1 q => ?_)⟩
  obtain ⟨⟨ix, r1, F1⟩, hx⟩ := q
  rw [r1.2.1.pl3.2.2.2.2.2.2.2.2]
  refine ⟨ix, r1.1, fun _ => ⟨⟨by decide, by decide⟩, r1, F1⟩, fun y => ⟨r1.2.1.1.1, r1.sv.1.1, ?_⟩⟩
  have b := hx (fun z => y (Or.inl z))
  have b2 : 0 ≤ l2 := Int.not_lt.mp (fun z => y (Or.inr z))
  have t := s_MS_nextOf (G := G) (d := d) (k := l1.toNat) (r := l2) b2 i2.2 r1.1 r1.sv (by omega)
  rw [Int.toNat_of_nonneg b.1] at t
  refine t.mono (fun z M3 q => ?_)
  obtain ⟨e3, hz⟩ := q
  subst e3
  have iz : i32 z := by
    rcases hz with ⟨-, z1⟩ | ⟨-, t', -, z1, -⟩
    · rw [z1]; exact i1
    · rw [z1]; exact (r1.1 _ _).1
  exact ⟨iz, r1.1, iz, r1, F1⟩
end PUD
