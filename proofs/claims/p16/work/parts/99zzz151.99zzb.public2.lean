section
/-! The reference's public methods that read the tables and call the solver. -/
section PUC
variable {G : mG} {d a s n k w : Nat} {M M' M2 : mM} {S : Nat → Prop} {Nt9 : tP9}
theorem rQ.one {l : Int} (h : RI Nt9 M' a) (F : FX M a M') (hl : i32 l) : rQ Nt9 M a l M' := ⟨hl, h, F⟩
theorem RI.n5 (h : RI Nt9 M a) : 0 ≤ mI M a 29 ∧ mI M a 29 ≤ 512 := h.2.2.2.1
theorem r_MM_isCommand {l1 l2 : Int} (i1 : i32 l1) (i2 : i32 l2) (h : RI Nt9 M a) : Ci G y_MM_isCommand (d + 1) [vr a, vi l1, vi l2] M (fun r M' => rQ Nt9 M a r M' ∧ (r ≠ 0 → (0 ≤ l1 ∧ l1 < mI M' a 29) ∧ 0 ≤ l2 ∧ l2 < mI M' (a + 108) l1.toNat)) := by
  refine k_MM_isCommand h.1 i1 i2 ⟨h.2.1.1.1, (r_MM_isState i1 h).mono (fun x M1 q => ?_)⟩
  obtain ⟨⟨ix, r1, F1⟩, hx⟩ := q
  have b := r1.n5
  have A := r1.2.1.pl4
  rw [r1.2.1.pl3.2.2.2.1]
  refine ⟨ix, r1.1, fun y _ => ⟨r1.2.1.1.1, A.2.2.2.1, by rw [A.2.2.2.2]; have := hx y; omega⟩, fun v e => ?_⟩
  by_cases y : x = 0 ∨ l2 < 0 ∨ mI M1 (a + 108) l1.toNat ≤ l2
  · rw [if_pos y] at e
    exact ⟨⟨by rw [e]; exact ⟨by decide, by decide⟩, r1, F1⟩, fun z => absurd e z⟩
  · rw [if_neg y] at e
    exact ⟨⟨by rw [e]; exact ⟨by decide, by decide⟩, r1, F1⟩, fun _ => ⟨hx (by omega), by omega, by omega⟩⟩
/-- a command's place -/
theorem RI.cm {l1 l2 : Int} (h : RI Nt9 M a) (q1 : 0 ≤ l1 ∧ l1 < mI M a 29) (q2 : 0 ≤ l2) (q3 : l2 < mI M (a + 108) l1.toNat) : ∃ j : Nat, mI M (a + 107) l1.toNat + l2 = j ∧ (j : Int) < ln M (a + 109) ∧ ln M (a + 111) = ln M (a + 109) ∧ ln M (a + 113) = ln M (a + 109) ∧ 0 ≤ nt M (a + 111) j ∧ 0 ≤ nt M (a + 113) j ∧ nt M (a + 111) j + nt M (a + 113) j ≤ 4096 ∧ l2 < mny M (a + 117) l1.toNat := by
  obtain ⟨x1, x2, x3, x4⟩ := (h.2.2.2.2.2.2.1 (by omega)).2
  have y := x1 l1.toNat (by omega)
  refine ⟨(mI M (a + 107) l1.toNat + l2).toNat, by omega, by omega, x2, x3, ?_⟩
  have z := x4 (mI M (a + 107) l1.toNat + l2).toNat (by omega)
  exact ⟨z.1, z.2.1, z.2.2, by omega⟩
theorem r_MM_command {l1 l2 : Int} (i1 : i32 l1) (i2 : i32 l2) (h : RI Nt9 M a) : Ci G y_MM_command (d + 2) [vr a, vi l1, vi l2] M (rQ Nt9 M a) := by
  refine k_MM_command h.1 i1 i2 ⟨h.2.1.1.1, (r_MM_isCommand i1 i2 h).mono (fun x M1 q => ?_)⟩
  obtain ⟨⟨ix, r1, F1⟩, hx⟩ := q
  have b := r1.n5
  have w := r1.2.1
  refine ⟨ix, r1.1, fun _ => ⟨⟨by decide, by decide⟩, r1, F1⟩, fun y => ?_⟩
  obtain ⟨q1, q2, q3⟩ := hx y
  obtain ⟨j, e, j1, j2, j3, -⟩ := r1.cm q1 q2 q3
  have A := w.pl4
  rw [w.pl3.2.2.1, w.pl3.2.2.2.2.1, e]
  have hN := w.nu (p := a + 109) (nums_o (by decide))
  refine ⟨w.1.1, A.2.2.1.1, by rw [A.2.2.1.2]; omega, hN.1, (s_MN_at r1.1 hN j1).mono (fun z M2 q2 => ?_)⟩
  obtain ⟨e2, e3⟩ := q2
  subst e2
  have iz : i32 z := by rw [e3]; exact (r1.1 _ _).1
  exact ⟨iz, r1.1, iz, r1, F1⟩
theorem r_MM_character {l : Int} (hl : i32 l) (h : RI Nt9 M a) : Ci G y_MM_character d [vr a, vi l] M (rQ Nt9 M a) := by
  refine k_MM_character h.1 hl ⟨h.2.1.1.1, fun M2 e2 => ?_⟩
  obtain ⟨r2, F2, -⟩ := h.step ⟨by decide, by decide⟩ ⟨by decide, by decide, by decide⟩ e2
  have b := r2.2.2.2.2.2.2.2
  have B := r2.2.1.pl6
  rw [r2.2.1.pl5.2]
  refine ⟨fun y1 y2 => ⟨B.2.2.2.1, by rw [B.2.2.2.2]; omega⟩, fun v e => ⟨?_, r2, F2⟩⟩
  rw [e]
  split
  · exact ⟨by decide, by decide⟩
  · exact (r2.1 _ _).1
/-- the solver and its number of states -/
theorem RI.sv (h : RI Nt9 M a) : Sv M (a + 117) (mI M a 29).toNat := h.2.2.2.2.1
theorem r_MM_solve (h : RI Nt9 M a) : Ci G y_MM_solve (d + 11) [vr a] M (fun r M' => ∃ n1 : tP9, (i32 r ∧ RI n1 M' a ∧ FR M a M') ∧ ((Nt9.2.2.2.2.2.2.2.2.1 = [] ∧ n1 = Nt9 ∧ mI M' a 0 = 1) ∨ (Nt9.2.2.2.2.2.2.2.2.1 ≠ [] ∧ n1 = (Nt9.1, Nt9.2.1, kn9 Nt9.2.2 (if r = 0 then 1 else 0)) ∧ mI M' a 0 = 0 ∧ kdT Nt9.2.2.2.2.2.2.2.2.2 ∧ svA9 Nt9.2.2.2.2.2.2.2.2.2 r))) := by
  have l29 := h.xe.2.2.1
  obtain ⟨F, hF⟩ := fall_ex
  refine k_MM_solve h.1 ⟨h.2.1.1.1, fun v e M2 e2 => ?_⟩
  have iv : i32 v := by rw [e]; split <;> exact ⟨by decide, by decide⟩
  obtain ⟨r2, F2, f2⟩ := h.step iv ⟨by decide, by decide, by decide⟩ e2
  have z2 : mI M2 a 0 = v := by rw [f2, if_pos rfl]
  rw [r2.2.1.pl3.2.2.2.2.2.2.2.2]
  refine ⟨fun u => ⟨r2.sv.1.1, (s_MS_solve hF r2.1 r2.sv).mono (fun x M3 q => ?_)⟩, fun u => ⟨Nt9, ⟨⟨by decide, by decide⟩, r2, F2.1⟩, Or.inl ?_⟩⟩
  · obtain ⟨⟨o, f, S3, hx⟩, hv, hk⟩ := q
    obtain ⟨r3, F3, a3⟩ := r2.solv o f (fun x z => Or.inl z) S3 hk
    have ix : i32 x := i32s (by omega) (by omega)
    have ne : Nt9.2.2.2.2.2.2.2.2.1 ≠ [] := fun z => by
      rw [z2, e] at u
      rw [z] at l29
      rw [if_pos (by rw [l29]; rfl)] at u
      exact absurd u (by decide)
    obtain ⟨W, -, -, w3, w4⟩ := r2.xe.2.2.2.2 ne
    refine ⟨ix, o, _, ⟨ix, r3, F2.1.trans F3⟩, Or.inr ⟨ne, rfl, ?_, w4, hv _ w3 w4⟩⟩
    rw [a3, z2, e]
    refine if_neg (fun z => ne ?_)
    rw [l29] at z
    exact List.length_eq_zero_iff.mp (by omega)
  · have z0 : mI M a 29 = 0 := Classical.byContradiction (fun z => u (by rw [z2, e, if_neg z]; decide))
    rw [l29] at z0
    exact ⟨List.length_eq_zero_iff.mp (by omega), rfl, by rw [z2, e, if_pos (by rw [l29]; exact z0)]⟩
theorem r_MM_judge {l : Int} (hl : i32 l) (h : RI Nt9 M a) : Ci G y_MM_judge (d + 11) [vr a, vi l] M (rQ Nt9 M a) := by
  obtain ⟨F, hF⟩ := fall_ex
  refine k_MM_judge h.1 hl ⟨⟨fun _ => h.2.1.1.1, fun _ _ => h.2.1.1.1⟩, fun v e => ⟨h.2.1.1.1, fun M2 e2 => ?_⟩⟩
  have iv : i32 v := by rw [e]; (repeat' split) <;> exact ⟨by decide, by decide⟩
  obtain ⟨r2, F2, f2⟩ := h.step iv ⟨by decide, by decide, by decide⟩ e2
  rw [r2.2.1.pl3.2.2.2.2.2.2.2.2]
  refine ⟨fun q => ⟨r2.sv.1.1, (s_MS_judge hF ?_ r2.1 r2.sv).mono (fun x M3 q => ?_)⟩, fun _ => ⟨⟨by decide, by decide⟩, r2, F2⟩⟩
  · rw [f2, if_pos rfl, e] at q
    by_cases y1 : l = 1
    · exact Or.inl y1
    · by_cases y2 : l = 2
      · exact Or.inr y2
      · rw [if_neg y1, if_neg y2] at q
        omega
  · obtain ⟨⟨o, f, S3, hx⟩, hk⟩ := q
    obtain ⟨r3, F3, -⟩ := r2.sol o f (fun x z => Or.inl z) S3 hk
    have ix : i32 x := i32s (by omega) (by omega)
    exact ⟨ix, o, ix, r3, F2.trans F3⟩
theorem r_MM_within {l : Int} (hl : i32 l) (h : RI Nt9 M a) : Ci G y_MM_within (d + 8) [vr a, vi l] M (fun r M' => rQ Nt9 M a r M' ∧ ((¬ (0 ≤ l ∧ l ≤ 32) ∧ mI M' a 0 = 1) ∨ ((0 ≤ l ∧ l ≤ 32) ∧ Nt9.2.2.2.2.2.2.2.2.1 = [] ∧ mI M' a 0 = 2) ∨ ((0 ≤ l ∧ l ≤ 32) ∧ Nt9.2.2.2.2.2.2.2.2.1 ≠ [] ∧ mI M' a 0 = 0 ∧ anA9 Nt9.2.2.2.2.2.2.2.2.2 l.toNat r))) := by
  have l29 := h.xe.2.2.1
  refine k_MM_within h.1 hl ⟨fun _ _ => h.2.1.1.1, fun v e => ⟨h.2.1.1.1, fun M2 e2 => ?_⟩⟩
  have iv : i32 v := by rw [e]; (repeat' split) <;> exact ⟨by decide, by decide⟩
  obtain ⟨r2, F2, f2⟩ := h.step iv ⟨by decide, by decide, by decide⟩ e2
  have z2 : mI M2 a 0 = v := by rw [f2, if_pos rfl]
  rw [r2.2.1.pl3.2.2.2.2.2.2.2.2]
  refine ⟨fun q => ?_, fun q => ⟨⟨⟨by decide, by decide⟩, r2, F2⟩, ?_⟩⟩
  rotate_left
  · rw [z2]
    rw [z2] at q
    by_cases y1 : l < 0
    · rw [if_pos y1] at e
      exact Or.inl ⟨fun z => by omega, e⟩
    · by_cases y2 : l ≤ 32
      · by_cases y3 : mI M a 29 = 0
        · rw [if_neg y1, if_pos y2, if_pos y3] at e
          rw [l29] at y3
          exact Or.inr (Or.inl ⟨⟨by omega, y2⟩, List.length_eq_zero_iff.mp (by omega), e⟩)
        · rw [if_neg y1, if_pos y2, if_neg y3] at e
          omega
      · rw [if_neg y1, if_neg y2] at e
        exact Or.inl ⟨fun z => y2 z.2, e⟩
  have lb : 0 ≤ l ∧ l ≤ 32 := by
    rw [f2, if_pos rfl, e] at q
    by_cases y1 : l < 0
    · rw [if_pos y1] at q
      omega
    · by_cases y2 : l ≤ 32
      · omega
      · rw [if_neg y1, if_neg y2] at q
        omega
  have y3 : mI M a 29 ≠ 0 := fun y3 => by
    rw [z2, e, if_neg (by omega), if_pos lb.2, if_pos y3] at q
    exact absurd q (by decide)
  have v0 : v = 0 := by rw [e, if_neg (by omega), if_pos lb.2, if_neg y3]
  have ne : Nt9.2.2.2.2.2.2.2.2.1 ≠ [] := fun z => by
    rw [z] at l29
    exact y3 l29
  refine ⟨r2.sv.1.1, (s_MS_within lb.1 lb.2 r2.1 r2.sv).mono (fun x M3 q => ?_)⟩
  obtain ⟨W, -, -, w3, w4⟩ := r2.xe.2.2.2.2 ne
  obtain ⟨⟨o, f, S3, hx⟩, hk, hw⟩ := q
  obtain ⟨r3, F3, a3⟩ := r2.sol o f (fun x z => Or.inl z) S3 hk
  have ix : i32 x := i32s (by omega) (by omega)
  exact ⟨ix, o, ⟨ix, r3, F2.trans F3⟩, Or.inr (Or.inr ⟨lb, ne, by rw [a3, z2, v0], hw _ w3⟩)⟩
end PUC
end
section
/-! The reference's public methods: adopt, print, compare, billionths, choice, rank, next, check. -/
section PUD
variable {G : mG} {d a s n k w : Nat} {M M' M2 : mM} {S : Nat → Prop} {Nt9 : tP9}
theorem s_MS_billionths2 (hO : mOk M) (h : Sv M s n) (hk : k < n) (hw : w < 3) (hh : mI M (s + 30) w ≠ 0) : Ci G y_MS_billionths (d + 4) [vr s, vi k, vi w] M (fun r M' => i32 r ∧ mOk M' ∧ FI (vK s) M M' ∧ Sv M' s n) := by
  have hn5 := h.n5
  obtain ⟨a1, a2⟩ := h.frac hk hw hh
  have al := a1.low
  obtain ⟨V, g, c, e, t, W, -⟩ := id h
  have hp : 0 < wv M (frc s k w + 3) := a1.1.2.2.2.2
  have hb : wv M (frc s k w + 1) * 1000000000 / wv M (frc s k w + 3) < 2147483648 := by
    refine Int.lt_of_le_of_lt (Int.ediv_le_of_le_mul hp (b := 1000000000) ?_) (by omega)
    have := Int.mul_le_mul_of_nonneg_right al.1 (show (0 : Int) ≤ 1000000000 by omega)
    rw [Int.mul_comm 1000000000]
    exact this
  refine k_MS_billionths hO ⟨by omega, by omega⟩ ⟨by omega, by omega⟩ ?_
  rw [V.r11, V.n29, V.r0, a2]
  refine ⟨V.k0, V.k29, by omega, W.1.1.1, (s_MU_billionths (d := d) hO W.1 a1.1 (by unfold suO frc; omega) (by omega) (by omega) hb).mono (fun u M1 h1 => ?_)⟩
  obtain ⟨o1, f1, Z1, hu⟩ := h1
  have h0 : 0 ≤ u := by rw [hu]; exact Int.ediv_nonneg (Int.mul_nonneg a1.1.2.1.nonneg (by omega)) (by omega)
  exact ⟨⟨by omega, by omega⟩, o1, ⟨by omega, by omega⟩, o1, f1.mono (fun y q => by omega), h.out f1 (fun y q => by omega) (W.out f1 Z1 (fun y q => by omega))⟩
theorem s_MS_choiceOf2 (hO : mOk M) (h : Sv M s n) (hk : k < n) : Ci G y_MS_choiceOf d [vr s, vi k] M (fun r M' => M' = M ∧ i32 r) := by
  have hn5 := h.n5
  obtain ⟨V, -⟩ := id h
  refine k_MS_choiceOf hO ⟨by omega, by omega⟩ ?_
  rw [V.r15, V.n33]
  exact ⟨V.k0, V.k33, by omega, rfl, (hO _ _).1⟩
theorem s_MS_rankOf2 (hO : mOk M) (h : Sv M s n) (hk : k < n) : Ci G y_MS_rankOf d [vr s, vi k] M (fun r M' => M' = M ∧ i32 r) := by
  have hn5 := h.n5
  obtain ⟨V, -⟩ := id h
  refine k_MS_rankOf hO ⟨by omega, by omega⟩ ?_
  rw [V.r16, V.n34]
  exact ⟨V.k0, V.k34, by omega, rfl, (hO _ _).1⟩
theorem r_MM_adopt (h : RI Nt9 M a) : Cv G y_MM_adopt (d + 2) [vr a] M (fun M' => (RI Nt9 M' a ∧ FX M a M') ∧ mI M' a 0 = if Nt9.2.2.2.2.2.2.2.1.2.2 = 0 then 1 else 0) := by
  refine k_MM_adopt h.1 ?_
  rw [h.2.1.pl3.2.2.2.2.2.2.2.2]
  refine ⟨h.2.1.1.1, h.sv.1.1, (s_MS_hasValues h.1 h.sv).mono (fun x M1 q => ?_)⟩
  obtain ⟨e1, hx, ex⟩ := q
  subst e1
  refine ⟨i32s (by omega) (by omega), h.1, fun v e => ⟨h.2.1.1.1, fun M2 e2 => ?_⟩⟩
  have iv : i32 v := by rw [e]; split <;> exact ⟨by decide, by decide⟩
  obtain ⟨r2, F2, f2⟩ := h.step iv ⟨by decide, by decide, by decide⟩ e2
  rw [r2.2.1.pl3.2.2.2.2.2.2.2.2]
  have kne := h.xe.2.1.2
  have v2 : mI M2 a 0 = if Nt9.2.2.2.2.2.2.2.1.2.2 = 0 then 1 else 0 := by rw [f2, if_pos rfl, e, ex, kne]
  refine ⟨fun q => ?_, fun _ => ⟨⟨r2, F2⟩, v2⟩⟩
  have x0 : x ≠ 0 := fun z => by
    rw [f2, if_pos rfl, e, if_pos z] at q
    omega
  have e30 : mI M2 (a + 117 + 30) 0 = 1 := by
    rw [e2, mI_UI, if_neg (fun z => by omega), ← ex]
    omega
  refine ⟨r2.sv.1.1, (s_MS_adopt r2.1 r2.sv e30).mono (fun M3 q => ?_)⟩
  obtain ⟨o, f, S3⟩ := q
  obtain ⟨r3, F3, a3⟩ := r2.sol o (fi_vk f).1 (fun x z => Or.inl z) S3 (fi_vk f).2
  exact ⟨o, ⟨r3, F2.trans F3⟩, by rw [a3]; exact v2⟩
theorem r_MM_check (h : RI Nt9 M a) : Ci G y_MM_check (d + 1) [vr a] M (rQ Nt9 M a) := by
  refine k_MM_check h.1 ⟨h.2.1.1.1, fun M2 e2 => ?_⟩
  obtain ⟨r2, F2, -⟩ := h.step ⟨by decide, by decide⟩ ⟨by decide, by decide, by decide⟩ e2
  rw [r2.2.1.pl3.2.2.2.2.2.2.2.2]
  refine ⟨r2.sv.1.1, (s_MS_hasValues r2.1 r2.sv).mono (fun x M1 q => ?_)⟩
  obtain ⟨e1, hx, ex⟩ := q
  subst e1
  refine ⟨i32s (by omega) (by omega), r2.1, fun v e => ⟨?_, r2, F2⟩⟩
  rw [e]
  split <;> exact ⟨by decide, by decide⟩
theorem r_MM_billionths {l1 l2 : Int} (i1 : i32 l1) (i2 : i32 l2) (h : RI Nt9 M a) : Ci G y_MM_billionths (d + 5) [vr a, vi l1, vi l2] M (rQ Nt9 M a) := by
  refine k_MM_billionths h.1 i1 i2 ⟨h.2.1.1.1, fun M2 e2 => ?_⟩
  obtain ⟨r2, F2, -⟩ := h.step ⟨by decide, by decide⟩ ⟨by decide, by decide, by decide⟩ e2
  rw [r2.2.1.pl3.2.2.2.2.2.2.2.2]
  refine ⟨r2.sv.1.1, (s_MS_isThere i1 i2 r2.1 r2.sv).mono (fun x M1 q => ?_)⟩
  obtain ⟨e1, hx, ex⟩ := q
  subst e1
  rw [r2.2.1.pl3.2.2.2.2.2.2.2.2]
  refine ⟨i32s (by omega) (by omega), r2.1, fun _ => ⟨⟨by decide, by decide⟩, r2, F2⟩, fun y => ⟨r2.2.1.1.1, r2.sv.1.1, ?_⟩⟩
  obtain ⟨y1, y2, y3, y4, y5⟩ := ex.1 y
  clear ex
  have t := s_MS_billionths2 (G := G) (d := d) (k := l1.toNat) (w := l2.toNat) r2.1 r2.sv (by omega) (by omega) y5
  rw [Int.toNat_of_nonneg y1, Int.toNat_of_nonneg y3] at t
  refine t.mono (fun z M3 q => ?_)
  obtain ⟨iz, o, f, S3⟩ := q
  obtain ⟨r3, F3, -⟩ := r2.sol o (fi_vk f).1 (fun x z => Or.inl z) S3 (fi_vk f).2
  exact ⟨iz, o, iz, r3, F2.trans F3⟩
theorem r_MM_compare {l1 l2 l3 l4 : Int} (i1 : i32 l1) (i2 : i32 l2) (i3 : i32 l3) (i4 : i32 l4) (h : RI Nt9 M a) : Ci G y_MM_compare (d + 4) [vr a, vi l1, vi l2, vi l3, vi l4] M (rQ Nt9 M a) := by
  refine k_MM_compare h.1 i1 i2 i3 i4 ⟨h.2.1.1.1, fun M2 e2 => ?_⟩
  obtain ⟨r2, F2, -⟩ := h.step ⟨by decide, by decide⟩ ⟨by decide, by decide, by decide⟩ e2
  rw [r2.2.1.pl3.2.2.2.2.2.2.2.2]
  refine ⟨r2.sv.1.1, (s_MS_isThere i1 i2 r2.1 r2.sv).mono (fun x M1 q => ?_)⟩
  obtain ⟨e1, hx, ex⟩ := q
  subst e1
  rw [r2.2.1.pl3.2.2.2.2.2.2.2.2]
  refine ⟨i32s (by omega) (by omega), r2.1, fun _ => ⟨⟨by decide, by decide⟩, r2, F2⟩, fun y => ⟨r2.2.1.1.1, r2.sv.1.1, (s_MS_isThere i3 i4 r2.1 r2.sv).mono (fun x' M1 q => ?_)⟩⟩
  obtain ⟨e1, hx', ex'⟩ := q
  subst e1
  rw [r2.2.1.pl3.2.2.2.2.2.2.2.2]
  refine ⟨i32s (by omega) (by omega), r2.1, fun _ => ⟨⟨by decide, by decide⟩, r2, F2⟩, fun y' => ⟨r2.2.1.1.1, r2.sv.1.1, ?_⟩⟩
  obtain ⟨y1, y2, y3, y4, y5⟩ := ex.1 y
  obtain ⟨z1, z2, z3, z4, z5⟩ := ex'.1 y'
  clear ex ex'
  have t := s_MS_compare (G := G) (d := d) (k := l1.toNat) (w := l2.toNat) (j := l3.toNat) (w' := l4.toNat) r2.1 r2.sv (by omega) (by omega) y5 (by omega) (by omega) z5
  rw [Int.toNat_of_nonneg y1, Int.toNat_of_nonneg y3, Int.toNat_of_nonneg z1, Int.toNat_of_nonneg z3] at t
  refine t.mono (fun z M3 q => ?_)
  obtain ⟨o, f, S3, b1, b2⟩ := q
  obtain ⟨r3, F3, -⟩ := r2.sol o (fi_vk f).1 (fun x z => Or.inl z) S3 (fi_vk f).2
  have iz : i32 z := i32s (by omega) (by omega)
  exact ⟨iz, o, iz, r3, F2.trans F3⟩
theorem RI0.prn {v : Int} (h : RI0 Nt9 M a) (h0 : 0 ≤ v) (h1 : v ≤ 900) (e : M' = mUI M a 48 v) : RI0 Nt9 M' a ∧ FX M a M' := by
  obtain ⟨hO, w, ht, hx⟩ := h
  have hg := w.g9
  obtain ⟨m, f⟩ := mv_fld (v := v) (i32s (by omega) (by omega)) hO w e
  have no : ∀ q : Nat, False → q ∈ nums a := fun _ z => z.elim
  have tp := w.tape
  have aR := m.rfl_a w no
  obtain ⟨x1, x2, x3, x4, x5⟩ := hx
  have cI : ∀ x, x ≠ a → mI M' x = mI M x := fun x hx' => by rw [e]; funext j; rw [mI_UI, if_neg (fun z => hx' z.1)]
  refine ⟨⟨m.1, m.2.1, ⟨by rw [aR]; exact ht.1.sm (m.lst tp.1 (fun z => z)), by rw [aR, (m.lst tp.2.1 (fun z => z)).1]; exact ht.2⟩, ?_⟩, FR.mv m no (fun x z => by omega), ⟨⟨by rw [f, if_neg (by decide)], by rw [f, if_neg (by decide)], by rw [f, if_neg (by decide)]⟩, ⟨cI _ (by omega), cI _ (by omega), cI _ (by omega), cI _ (by omega), cI _ (by omega)⟩, ⟨by rw [e]; rfl, by rw [e]; rfl⟩, (m.lst (nums_o (by decide)) (fun z => z)).sl, (m.lst (nums_o (by decide)) (fun z => z)).sl, (m.lst (nums_o (by decide)) (fun z => z)).sl, (m.lst (nums_o (by decide)) (fun z => z)).sl, by rw [cI _ (by omega)], fun i p q => cI _ (by omega)⟩, by rw [f, if_neg (by decide)], by rw [cI _ (by omega)]⟩
  unfold RX
  rw [aR, f 29, if_neg (by decide), f 11, if_neg (by decide), f 48, if_pos rfl]
  refine ⟨x1, x2.ag (ag_mv w m no (fun x z => by omega)), fun q => gd_mv (x3 q) w hg m no (fun _ z => z.elim) (fun x z => by omega), fun q => ⟨(x4 q).1, ?_⟩, h0, h1, x5.2.2⟩
  obtain ⟨y1, y2, y3, y4⟩ := (x4 q).2
  have s9 := m.lst (q := a + 109) (nums_o (by decide)) (fun z => z)
  have s11 := m.lst (q := a + 111) (nums_o (by decide)) (fun z => z)
  have s13 := m.lst (q := a + 113) (nums_o (by decide)) (fun z => z)
  unfold XL mny
  rw [f 29, if_neg (by decide), s9.1, s11.1, s13.1, cI (a + 107) (by omega), cI (a + 108) (by omega), cI (a + 117 + 23) (by omega)]
  refine ⟨y1, y2, y3, fun i hi => ?_⟩
  rw [s11.2.1, s13.2.1]
  exact y4 i hi
theorem RI.prn {v : Int} (h : RI Nt9 M a) (h0 : 0 ≤ v) (h1 : v ≤ 900) (e : M' = mUI M a 48 v) : RI Nt9 M' a ∧ FX M a M' := by
  obtain ⟨a1, a2⟩ := h.r0.prn h0 h1 e
  exact ⟨a1.ri (h.xe.fx a2), a2⟩
theorem r_MM_print {l1 l2 : Int} (i1 : i32 l1) (i2 : i32 l2) (h : RI Nt9 M a) : Ci G y_MM_print (d + 5) [vr a, vi l1, vi l2] M (rQ Nt9 M a) := by
  refine k_MM_print h.1 i1 i2 ⟨h.2.1.1.1, fun M2 e2 => ?_⟩
  obtain ⟨r2, F2, -⟩ := h.step ⟨by decide, by decide⟩ ⟨by decide, by decide, by decide⟩ e2
  rw [r2.2.1.pl3.2.2.2.2.2.2.2.2]
  refine ⟨r2.sv.1.1, (s_MS_isThere i1 i2 r2.1 r2.sv).mono (fun x M1 q => ?_)⟩
  obtain ⟨e1, hx, ex⟩ := q
  subst e1
  rw [r2.2.1.pl3.2.2.2.2.2.2.2.2, r2.2.1.pl5.2]
  refine ⟨i32s (by omega) (by omega), r2.1, fun _ => ⟨⟨by decide, by decide⟩, r2, F2⟩, fun y => ⟨r2.2.1.1.1, r2.sv.1.1, ?_⟩⟩
  obtain ⟨y1, y2, y3, y4, y5⟩ := ex.1 y
  clear ex
  have B := r2.2.1.pl6.2.2.2
  have t := s_MS_print (G := G) (d := d) (k := l1.toNat) (w := l2.toNat) (o := a + 21191) r2.1 r2.sv (by omega) (by omega) y5 B.1 (by omega) (by omega)
  rw [Int.toNat_of_nonneg y1, Int.toNat_of_nonneg y3] at t
  refine t.mono (fun z M3 q => ?_)
  obtain ⟨o, f, S3, b0, b1⟩ := q
  obtain ⟨r3, F3, -⟩ := r2.sol o f (fun x z => by
    have z' : x = a + 117 + 12 ∨ x = a + 117 + 13 ∨ x = a + 117 + 67 ∨ x = a + 21191 := z
    by_cases u : x = a + 21191
    · exact Or.inr u
    · refine Or.inl ?_
      show a + 117 ≤ x ∧ x ≤ a + 117 + 21067 ∧ (x < a + 117 + 22 ∨ a + 117 + 28 < x)
      omega) S3 (by
    rw [f.2.2.2.2.2.2 (a + 117 + 30) (fun z => by
      have z' : a + 117 + 30 = a + 117 + 12 ∨ a + 117 + 30 = a + 117 + 13 ∨ a + 117 + 30 = a + 117 + 67 ∨ a + 117 + 30 = a + 21191 := z
      omega)])
  refine ⟨i32s (by omega) (by omega), o, r3.2.1.1.1, fun M4 e4 => ?_⟩
  obtain ⟨r4, F4⟩ := r3.prn b0 (by omega) e4
  exact ⟨(r4.1 _ _).1, r4, F2.trans (F3.trans F4)⟩
theorem r_MM_choice {l : Int} (hl : i32 l) (h : RI Nt9 M a) : Ci G y_MM_choice (d + 1) [vr a, vi l] M (rQ Nt9 M a) := by
  refine k_MM_choice h.1 hl ⟨h.2.1.1.1, (r_MM_isState hl h).mono (fun x M1 q => ?_)⟩
  obtain ⟨⟨ix, r1, F1⟩, hx⟩ := q
  rw [r1.2.1.pl3.2.2.2.2.2.2.2.2]
  refine ⟨ix, r1.1, fun _ => ⟨⟨by decide, by decide⟩, r1, F1⟩, fun y => ⟨r1.2.1.1.1, r1.sv.1.1, (s_MS_hasValues r1.1 r1.sv).mono (fun u M2 q => ?_)⟩⟩
  obtain ⟨e1, hu, -⟩ := q
  subst e1
  rw [r1.2.1.pl3.2.2.2.2.2.2.2.2]
  have b := hx y
  have t := s_MS_choiceOf2 (G := G) (d := d) (k := l.toNat) r1.1 r1.sv (by omega)
  rw [Int.toNat_of_nonneg b.1] at t
  refine ⟨i32s (by omega) (by omega), r1.1, fun _ => ⟨⟨by decide, by decide⟩, r1, F1⟩, fun _ => ⟨r1.2.1.1.1, r1.sv.1.1, t.mono (fun z M3 q => ?_)⟩⟩
  obtain ⟨e3, iz⟩ := q
  subst e3
  exact ⟨iz, r1.1, iz, r1, F1⟩
theorem r_MM_rank {l : Int} (hl : i32 l) (h : RI Nt9 M a) : Ci G y_MM_rank (d + 1) [vr a, vi l] M (rQ Nt9 M a) := by
  refine k_MM_rank h.1 hl ⟨h.2.1.1.1, (r_MM_isState hl h).mono (fun x M1 q => ?_)⟩
  obtain ⟨⟨ix, r1, F1⟩, hx⟩ := q
  rw [r1.2.1.pl3.2.2.2.2.2.2.2.2]
  refine ⟨ix, r1.1, fun _ => ⟨⟨by decide, by decide⟩, r1, F1⟩, fun y => ⟨r1.2.1.1.1, r1.sv.1.1, (s_MS_hasValues r1.1 r1.sv).mono (fun u M2 q => ?_)⟩⟩
  obtain ⟨e1, hu, -⟩ := q
  subst e1
  rw [r1.2.1.pl3.2.2.2.2.2.2.2.2]
  have b := hx y
  have t := s_MS_rankOf2 (G := G) (d := d) (k := l.toNat) r1.1 r1.sv (by omega)
  rw [Int.toNat_of_nonneg b.1] at t
  refine ⟨i32s (by omega) (by omega), r1.1, fun _ => ⟨⟨by decide, by decide⟩, r1, F1⟩, fun _ => ⟨r1.2.1.1.1, r1.sv.1.1, t.mono (fun z M3 q => ?_)⟩⟩
  obtain ⟨e3, iz⟩ := q
  subst e3
  exact ⟨iz, r1.1, iz, r1, F1⟩
theorem r_MM_next {l1 l2 : Int} (i1 : i32 l1) (i2 : i32 l2) (h : RI Nt9 M a) : Ci G y_MM_next (d + 2) [vr a, vi l1, vi l2] M (rQ Nt9 M a) := by
  refine k_MM_next h.1 i1 i2 ⟨h.2.1.1.1, (r_MM_isState i1 h).mono (fun x M1 q => ?_)⟩
  obtain ⟨⟨ix, r1, F1⟩, hx⟩ := q
  rw [r1.2.1.pl3.2.2.2.2.2.2.2.2]
  refine ⟨ix, r1.1, fun _ => ⟨⟨by decide, by decide⟩, r1, F1⟩, fun y => ⟨r1.2.1.1.1, r1.sv.1.1, ?_⟩⟩
  have b := hx (fun z => y (Or.inl z))
  have b2 : 0 ≤ l2 := Int.not_lt.mp (fun z => y (Or.inr z))
  have t := s_MS_nextOf (G := G) (d := d) (k := l1.toNat) (r := l2) b2 i2.2 r1.1 r1.sv (by omega)
  rw [Int.toNat_of_nonneg b.1] at t
  refine t.mono (fun z M3 q => ?_)
  obtain ⟨e3, hz⟩ := q
  subst e3
  have iz : i32 z := by
    rcases hz with ⟨-, z1⟩ | ⟨-, t', -, z1, -⟩
    · rw [z1]; exact i1
    · rw [z1]; exact (r1.1 _ _).1
  exact ⟨iz, r1.1, iz, r1, F1⟩
end PUD
end
section
/-! The reference's compile and explore, with what was explored. -/
section PUE
variable {G : mG} {d a : Nat} {M M' : mM} {Nt9 : tP9}
/-- the latest fault is at p -/
def plc (i : tI9) (p : Int) : tI9 := (i.1, i.2.1, i.2.2.1, i.2.2.2.1, i.2.2.2.2.1, (p, i.2.2.2.2.2.1.2), i.2.2.2.2.2.2)
/-- what exploring leaves -/
def exp9 (i : tI9) : tI9 := (i.1, i.2.1, i.2.2.1, i.2.2.2.1, i.2.2.2.2.1, exG i.2.2.2.2.1)
theorem RI0.e9 {l : Int} {c : Nat → Int} {i : tI9} {e : tE9} (h : RI0 (l, c, i) M a) : RI0 (l, c, i.1, i.2.1, i.2.2.1, i.2.2.2.1, i.2.2.2.2.1, e) M a := by
  obtain ⟨h1, h2, h3, h4, h5, h6, h7, h8⟩ := h
  exact ⟨h1, h2, h3, h4, h5, h6, h7, h8⟩
theorem r_MM_compile (hWK : WKx G kwx) (h : RI Nt9 M a) : Ci G y_MM_compile (d + 12) [vr a] M (fun r M' => ∃ i8 : tI9, ((i32 r ∧ RI (z9 i8) M' a ∧ FR M a M') ∧ cmR Nt9.2.1 Nt9.1.toNat a r (mI M' a 12) (i8.2.1, i8.2.2.1, i8.2.2.2.1, i8.2.2.2.2.1)) ∧ ((r ≠ 0 ∧ i8 = plc Nt9.2.2 (mI M' a 12)) ∨ (r = 0 ∧ i8.1 = 1 ∧ i8.2.2.2.2.2 = ((-1, Nt9.2.2.2.2.2.2.2.1.2.1, 0), [], []) ∧ mI M' a 12 = -1))) := by
  refine (x_MM_compile hWK h.r0).mono (fun r M' q => ?_)
  obtain ⟨i8, ⟨⟨q1, q2, q3⟩, q4⟩, q5⟩ := q
  obtain ⟨x1, x2, x3, x4, x5⟩ := h.xe
  rcases q5 with ⟨z, e8, k, k9⟩ | ⟨z, ⟨e81, e82⟩, k29, k30, k31⟩
  · subst e8
    refine ⟨plc Nt9.2.2 (mI M' a 12), ⟨⟨q1, (RI0.e9 (e := ((mI M' a 12, Nt9.2.2.2.2.2.2.2.1.2), Nt9.2.2.2.2.2.2.2.2)) q2).ri ⟨rfl, ⟨by rw [k.1.2.1]; exact x2.1, k9.trans x2.2⟩, by rw [k.1.1]; exact x3, x4, fun u => ?_⟩, q3⟩, q4⟩, Or.inl ⟨z, rfl⟩⟩
    obtain ⟨W, w1, w2, w3, w4⟩ := x5 u
    exact ⟨W, w1, w2.xe k, w3.xe k, w4⟩
  · have p12 : mI M' a 12 = -1 := by
      obtain ⟨Mw, N, -, -, -, y⟩ := q4
      rcases y with ⟨y, -⟩ | ⟨-, -, sF, -, y⟩
      · rw [y] at z
        exact absurd z (by decide)
      · rcases y with ⟨y1, y2, -⟩ | ⟨-, -, y3, -⟩
        · exact absurd (y2.symm.trans z) y1
        · exact y3
    refine ⟨i8, ⟨⟨q1, q2.ri ?_, q3⟩, q4⟩, Or.inr ⟨z, e81, e82, p12⟩⟩
    show XE i8 M' a
    unfold XE
    rw [e82]
    exact ⟨p12, ⟨by rw [k30]; exact x2.1, k31⟩, k29, fun _ => rfl, fun u => absurd rfl u⟩
theorem xU.xe (h : xU M M' a) (w : Wd M a) : xeF M M' a ∧ mI M' a 12 = mI M a 12 ∧ mI M' (a + 117 + 30) 0 = mI M (a + 117 + 30) 0 := by
  obtain ⟨h1, h2, h3, h4⟩ := h
  have s : ∀ q, q ∈ nums a → sl M M' q := fun q hq => by
    have n1 := nums_in hq
    have na : mR M q 0 ≠ a := by
      rcases (w.arr hq).2 with y | y <;> omega
    refine ⟨by unfold ln; rw [h3 q (by omega)], fun j => ?_⟩
    unfold nt
    rw [h1, h3 _ na]
  exact ⟨⟨⟨h4 29 (by decide), h4 30 (by decide), h4 40 (by decide)⟩, ⟨h3 _ (by omega), h3 _ (by omega), h3 _ (by omega), h3 _ (by omega), h3 _ (by omega)⟩, by rw [h2]; exact ⟨rfl, rfl⟩, s _ (nums_o (by decide)), s _ (nums_o (by decide)), s _ (nums_o (by decide)), s _ (nums_o (by decide)), by rw [h3 _ (by omega)], fun i p q => h3 _ (by omega)⟩, h4 12 (by decide), by rw [h3 _ (by omega)]⟩
theorem r_MM_explore (h : RI Nt9 M a) : Ci G y_MM_explore (d + 10) [vr a] M (fun r M' => ∃ n1 : tP9, (i32 r ∧ RI n1 M' a ∧ FR M a M') ∧ ((Nt9.2.2.1 = 0 ∧ n1 = Nt9 ∧ mI M' a 0 = 1) ∨ (Nt9.2.2.1 ≠ 0 ∧ n1 = (Nt9.1, Nt9.2.1, exp9 Nt9.2.2) ∧ r = Nt9.2.2.2.2.2.2.1.1.1 ∧ mI M' a 0 = 0))) := by
  refine (x_MM_expl (d := d) h.r0).mono (fun r M' q => ?_)
  obtain ⟨⟨q1, q2, q3⟩, q4⟩ := q
  rcases q4 with ⟨y1, y2, y3⟩ | ⟨y1, ⟨W, w1, w2⟩, y3⟩
  · obtain ⟨k1, k2, k3⟩ := y3.xe h.2.1
    exact ⟨Nt9, ⟨q1, q2.ri (h.xe.xe k1 k2 k3), q3⟩, Or.inl ⟨y1, rfl, y2⟩⟩
  · obtain ⟨e1, e2⟩ := w2.xe (i9 := exp9 Nt9.2.2) w1 rfl
    exact ⟨(Nt9.1, Nt9.2.1, exp9 Nt9.2.2), ⟨q1, (RI0.e9 (l := Nt9.1) (c := Nt9.2.1) (i := Nt9.2.2) (e := exG Nt9.2.2.2.2.2.2.1) q2).ri e1, q3⟩, Or.inr ⟨y1, rfl, e2, y3⟩⟩
end PUE
end
section
/-! The reference answers the questions about the states as the tables say. -/
section RAS
variable {G : mG} {d a : Nat} {M M' : mM} {Nt9 : tP9} {i9 : tI9}
theorem XE.st (h : XE i9 M a) (l : Int) : stA9 i9.2.2.2.2.2.2.2 l = if 0 ≤ l ∧ l < mI M a 29 then some (stR M a l.toNat) else none := by
  obtain ⟨-, -, h3, h4, h5⟩ := h
  unfold stA9
  by_cases y : l < 0
  · rw [if_pos y, if_neg (by omega)]
  rw [if_neg y]
  by_cases z : i9.2.2.2.2.2.2.1 = []
  · rw [h4 z, if_neg (by rw [h3, z]; show ¬ (0 ≤ l ∧ l < ((0 : Nat) : Int)); omega)]
    all_goals rfl
  · obtain ⟨W, -, ⟨L, w, B, -, -, -, -, -, -, -, -, hT⟩, -⟩ := h5 z
    rw [← hT]
    unfold xtR
    rw [rget]
    by_cases u : 0 ≤ l ∧ l < mI M a 29
    · rw [if_pos u, if_pos (by omega)]
    · rw [if_neg u, if_neg (by omega)]
/-- the tables of a state that is there -/
theorem XE.xf (h : XE i9 M a) {l : Int} (hl : 0 ≤ l ∧ l < mI M a 29) : ∃ W : Nat, (W : Int) = i9.2.1 ∧ XF M a W i9.2.2.2.2.2.2.1 i9.2.2.2.2.2.2.2 := by
  obtain ⟨-, -, h3, -, h5⟩ := h
  have ne : i9.2.2.2.2.2.2.1 ≠ [] := fun z => by
    rw [z] at h3
    have : mI M a 29 = ((0 : Nat) : Int) := h3
    omega
  obtain ⟨W, w1, w2, -⟩ := h5 ne
  exact ⟨W, w1, w2⟩
theorem e_MM_isState {l : Int} (hl : i32 l) (h : RI Nt9 M a) : Ci G y_MM_isState d [vr a, vi l] M (fun r M' => rQ Nt9 M a r M' ∧ (r ≠ 0 ↔ (0 ≤ l ∧ l < mI M' a 29))) := by
  refine k_MM_isState h.1 hl ⟨h.2.1.1.1, fun M2 e2 v e => ?_⟩
  obtain ⟨r2, F2, -⟩ := h.step ⟨by decide, by decide⟩ ⟨by decide, by decide, by decide⟩ e2
  by_cases y : l < 0 ∨ mI M2 a 29 ≤ l
  · rw [if_pos y] at e
    exact ⟨⟨by rw [e]; exact ⟨by decide, by decide⟩, r2, F2⟩, fun z => absurd e z, fun z => by omega⟩
  · rw [if_neg y] at e
    exact ⟨⟨by rw [e]; exact ⟨by decide, by decide⟩, r2, F2⟩, fun _ => by omega, fun _ => by rw [e]; decide⟩
theorem e_MM_kind {l : Int} (hl : i32 l) (h : RI Nt9 M a) : Ci G y_MM_kind (d + 1) [vr a, vi l] M (fun r M' => rQ Nt9 M a r M' ∧ r = kdA9 Nt9.2.2.2.2.2.2.2.2.2 l) := by
  refine k_MM_kind h.1 hl ⟨h.2.1.1.1, (e_MM_isState hl h).mono (fun x M1 q => ?_)⟩
  obtain ⟨⟨ix, r1, F1⟩, hx⟩ := q
  have b := r1.n5
  have A := r1.2.1.pl4
  rw [r1.2.1.pl3.2.1]
  refine ⟨ix, r1.1, fun y => ⟨r1.2.1.1.1, A.2.1.1, by rw [A.2.1.2]; have := hx.mp y; omega⟩, fun v e => ⟨⟨?_, r1, F1⟩, ?_⟩⟩
  · rw [e]
    split
    · exact ⟨by decide, by decide⟩
    · exact (r1.1 _ _).1
  · unfold kdA9
    rw [e, r1.xe.st]
    by_cases y : x = 0
    · rw [if_pos y, if_neg (fun z => (hx.mpr z) y)]
      all_goals rfl
    · rw [if_neg y, if_pos (hx.mp y)]
      all_goals rfl
theorem e_MM_commands {l : Int} (hl : i32 l) (h : RI Nt9 M a) : Ci G y_MM_commands (d + 1) [vr a, vi l] M (fun r M' => rQ Nt9 M a r M' ∧ r = cnA9 Nt9.2.2.2.2.2.2.2.2.2 l) := by
  refine k_MM_commands h.1 hl ⟨h.2.1.1.1, (e_MM_isState hl h).mono (fun x M1 q => ?_)⟩
  obtain ⟨⟨ix, r1, F1⟩, hx⟩ := q
  have b := r1.n5
  have A := r1.2.1.pl4
  rw [r1.2.1.pl3.2.2.2.1]
  refine ⟨ix, r1.1, fun y => ⟨r1.2.1.1.1, A.2.2.2.1, by rw [A.2.2.2.2]; have := hx.mp y; omega⟩, fun v e => ⟨⟨?_, r1, F1⟩, ?_⟩⟩
  · rw [e]
    split
    · exact ⟨by decide, by decide⟩
    · exact (r1.1 _ _).1
  · unfold cnA9
    rw [e, r1.xe.st]
    by_cases y : x = 0
    · rw [if_pos y, if_neg (fun z => (hx.mpr z) y)]
      all_goals rfl
    · have z := hx.mp y
      rw [if_neg y, if_pos z]
      have y1 := ((r1.2.2.2.2.2.2.1 (by omega)).2.1 l.toNat (by omega)).2.1
      show mI M1 (a + 108) l.toNat = (((cmL M1 a (mI M1 (a + 107) l.toNat).toNat (mI M1 (a + 108) l.toNat).toNat).length : Nat) : Int)
      unfold cmL
      rw [List.length_map, List.length_range]
      omega
/-- a command: where it stands -/
def cpR (M : mM) (a : Nat) (l1 l2 : Int) : Prop := (0 ≤ l1 ∧ l1 < mI M a 29) ∧ 0 ≤ l2 ∧ l2 < mI M (a + 108) l1.toNat
theorem e_MM_isCommand {l1 l2 : Int} (i1 : i32 l1) (i2 : i32 l2) (h : RI Nt9 M a) : Ci G y_MM_isCommand (d + 1) [vr a, vi l1, vi l2] M (fun r M' => rQ Nt9 M a r M' ∧ (r ≠ 0 ↔ cpR M' a l1 l2)) := by
  refine k_MM_isCommand h.1 i1 i2 ⟨h.2.1.1.1, (e_MM_isState i1 h).mono (fun x M1 q => ?_)⟩
  obtain ⟨⟨ix, r1, F1⟩, hx⟩ := q
  have b := r1.n5
  have A := r1.2.1.pl4
  rw [r1.2.1.pl3.2.2.2.1]
  refine ⟨ix, r1.1, fun y _ => ⟨r1.2.1.1.1, A.2.2.2.1, by rw [A.2.2.2.2]; have := hx.mp y; omega⟩, fun v e => ?_⟩
  by_cases y : x = 0 ∨ l2 < 0 ∨ mI M1 (a + 108) l1.toNat ≤ l2
  · rw [if_pos y] at e
    exact ⟨⟨by rw [e]; exact ⟨by decide, by decide⟩, r1, F1⟩, fun z => absurd e z, fun z => by
      rcases y with y | y | y
      · exact absurd y (hx.mpr z.1)
      · exact absurd z.2.1 (by omega)
      · exact absurd z.2.2 (by omega)⟩
  · rw [if_neg y] at e
    exact ⟨⟨by rw [e]; exact ⟨by decide, by decide⟩, r1, F1⟩, fun _ => ⟨hx.mp (by omega), by omega, by omega⟩, fun _ => by rw [e]; decide⟩
theorem XE.cm1 (h : XE i9 M a) {l1 l2 : Int} (n : ¬ cpR M a l1 l2) : cmA9 i9.2.2.2.2.2.2.2 l1 l2 = none := by
  unfold cmA9
  rw [h.st]
  by_cases y : 0 ≤ l1 ∧ l1 < mI M a 29
  · rw [if_pos y]
    show (if l2 < 0 then none else (cmL M a (mI M (a + 107) l1.toNat).toNat (mI M (a + 108) l1.toNat).toNat)[l2.toNat]?) = _
    by_cases z : l2 < 0
    · rw [if_pos z]
    · rw [if_neg z]
      unfold cmL
      rw [rget, if_neg (fun u => n ⟨y, by omega, by omega⟩)]
  · rw [if_neg y]
    all_goals rfl
theorem XE.cm2 (h : XE i9 M a) {l1 l2 : Int} (c : cpR M a l1 l2) : cmA9 i9.2.2.2.2.2.2.2 l1 l2 = some (cmQ M a ((mI M (a + 107) l1.toNat).toNat + l2.toNat)) := by
  obtain ⟨y, z, u⟩ := c
  unfold cmA9
  rw [h.st, if_pos y]
  show (if l2 < 0 then none else (cmL M a (mI M (a + 107) l1.toNat).toNat (mI M (a + 108) l1.toNat).toNat)[l2.toNat]?) = _
  rw [if_neg (by omega)]
  unfold cmL
  rw [rget, if_pos (by omega)]
theorem e_MM_branches {l1 l2 : Int} (i1 : i32 l1) (i2 : i32 l2) (h : RI Nt9 M a) : Ci G y_MM_branches (d + 2) [vr a, vi l1, vi l2] M (fun r M' => rQ Nt9 M a r M' ∧ r = bnA9 Nt9.2.2.2.2.2.2.2.2.2 l1 l2) := by
  refine k_MM_branches h.1 i1 i2 ⟨h.2.1.1.1, (e_MM_isCommand i1 i2 h).mono (fun x M1 q => ?_)⟩
  obtain ⟨⟨ix, r1, F1⟩, hx⟩ := q
  have b := r1.n5
  have w := r1.2.1
  refine ⟨ix, r1.1, fun u => ⟨⟨⟨by decide, by decide⟩, r1, F1⟩, ?_⟩, fun y => ?_⟩
  · unfold bnA9
    rw [r1.xe.cm1 (fun z => (hx.mpr z) u)]
    all_goals rfl
  have hc := hx.mp y
  have cm := r1.xe.cm2 hc
  obtain ⟨q1, q2, q3⟩ := hc
  obtain ⟨j, e, j1, j2, j3, -, j5, -⟩ := r1.cm q1 q2 q3
  have y1 := ((r1.2.2.2.2.2.2.1 (by omega)).2.1 l1.toNat (by omega)).1
  have ej : (mI M1 (a + 107) l1.toNat).toNat + l2.toNat = j := by omega
  rw [ej] at cm
  have A := w.pl4
  rw [w.pl3.2.2.1, w.pl3.2.2.2.2.2.2.1, e]
  have hN := w.nu (p := a + 113) (nums_o (by decide))
  refine ⟨w.1.1, A.2.2.1.1, by rw [A.2.2.1.2]; omega, hN.1, (s_MN_at r1.1 hN (by omega)).mono (fun z M2 q2 => ?_)⟩
  obtain ⟨e2, e3⟩ := q2
  subst e2
  have iz : i32 z := by rw [e3]; exact (r1.1 _ _).1
  refine ⟨iz, r1.1, ⟨iz, r1, F1⟩, ?_⟩
  unfold bnA9
  rw [cm, e3]
  show nt M2 (a + 113) j = (((brR M2 a (nt M2 (a + 111) j).toNat (nt M2 (a + 115) j) (nt M2 (a + 113) j).toNat).length : Nat) : Int)
  unfold brR
  rw [List.length_map, List.length_range]
  omega
theorem e_MM_branch1 {l1 l2 l3 l4 : Int} (i1 : i32 l1) (i2 : i32 l2) (i3 : i32 l3) (i4 : i32 l4) (h : RI Nt9 M a) : Ci G y_MM_branch1 (d + 2) [vr a, vi l1, vi l2, vi l3, vi l4] M (fun r M' => (RI Nt9 M' a ∧ FX M a M') ∧ r = brA9 Nt9.2.2.2.2.2.2.2.2.2 l1 l2 l3 l4) := by
  refine k_MM_branch1 h.1 i1 i2 i3 i4 ⟨h.2.1.1.1, (e_MM_isCommand i1 i2 h).mono (fun x M1 q => ?_)⟩
  obtain ⟨⟨ix, r1, F1⟩, hx⟩ := q
  have b := r1.n5
  have w := r1.2.1
  refine ⟨ix, r1.1, fun u => ⟨⟨r1, F1⟩, ?_⟩, fun y => ?_⟩
  · unfold brA9
    by_cases hc : cpR M1 a l1 l2
    · rw [r1.xe.cm2 hc]
      have u3 : l3 < 0 := by
        rcases u with u | u
        · exact absurd u (hx.mpr hc)
        · exact u
      show -1 = ((bqA9 _ l3).map _).getD (-1)
      unfold bqA9
      rw [if_pos u3]
      all_goals rfl
    · rw [r1.xe.cm1 hc]
      all_goals rfl
  have hc := hx.mp (fun z => y (Or.inl z))
  have cm := r1.xe.cm2 hc
  obtain ⟨q1, q2, q3⟩ := hc
  obtain ⟨j, e, j1, j2, j3, j4, j5, j6, -⟩ := r1.cm q1 q2 q3
  have y1 := ((r1.2.2.2.2.2.2.1 (by omega)).2.1 l1.toNat (by omega)).1
  have ej : (mI M1 (a + 107) l1.toNat).toNat + l2.toNat = j := by omega
  rw [ej] at cm
  have y3 : 0 ≤ l3 := Int.not_lt.mp (fun z => y (Or.inr z))
  have A := w.pl4
  rw [w.pl3.2.2.1, w.pl3.2.2.2.2.2.2.1, e]
  have hN := w.nu (p := a + 113) (nums_o (by decide))
  have hN1 := w.nu (p := a + 111) (nums_o (by decide))
  refine ⟨w.1.1, A.2.2.1.1, by rw [A.2.2.1.2]; omega, hN.1, (s_MN_at r1.1 hN (by omega)).mono (fun z M2 q2 => ?_)⟩
  obtain ⟨e2, e3⟩ := q2
  subst e2
  have iz : i32 z := by rw [e3]; exact (r1.1 _ _).1
  have bq : bqA9 (cmQ M2 a j) l3 = if l3 < z then some ((mI M2 (a + 21185) ((nt M2 (a + 111) j).toNat + l3.toNat)).toNat, mL M2 (a + 21186) ((nt M2 (a + 111) j).toNat + l3.toNat) * (nt M2 (a + 115) j / mL M2 (a + 21187) ((nt M2 (a + 111) j).toNat + l3.toNat))) else none := by
    unfold bqA9
    rw [if_neg (by omega)]
    show (brR M2 a (nt M2 (a + 111) j).toNat (nt M2 (a + 115) j) (nt M2 (a + 113) j).toNat)[l3.toNat]? = _
    unfold brR
    rw [rget, e3]
    by_cases u : l3 < nt M2 (a + 113) j
    · rw [if_pos (by omega), if_pos u]
    · rw [if_neg (by omega), if_neg u]
  refine ⟨iz, r1.1, fun u => ⟨⟨r1, F1⟩, ?_⟩, fun u => ?_⟩
  · unfold brA9
    rw [cm]
    show -1 = ((bqA9 (cmQ M2 a j) l3).map (b1A9 (nt M2 (a + 115) j) l4)).getD (-1)
    rw [bq]
    by_cases v : l3 < z
    · rw [if_pos v]
      show -1 = b1A9 _ l4 _
      unfold b1A9
      rw [if_neg (by omega), if_neg (by omega), if_neg (by omega)]
    · rw [if_neg v]
      all_goals rfl
  have uz : l3 < z := Int.not_le.mp (fun t => u (Or.inl t))
  rw [if_pos uz] at bq
  rw [w.pl3.2.2.1, w.pl3.2.2.2.2.2.1, e]
  refine ⟨w.1.1, A.2.2.1.1, by rw [A.2.2.1.2]; omega, hN1.1, (s_MN_at r1.1 hN1 (by omega)).mono (fun t M3 q3 => ?_)⟩
  obtain ⟨e4, e5⟩ := q3
  subst e4
  have it : i32 t := by rw [e5]; exact (r1.1 _ _).1
  have B := w.pl6
  have C := w.pl5
  have bt : (0 : Int) ≤ t + l3 ∧ t + l3 < ((4096 : Nat) : Int) := by omega
  rw [C.1.1, C.1.2.1, C.1.2.2, B.1.2, B.2.1.2, B.2.2.1.2]
  refine ⟨it, r1.1, ⟨fun _ => ⟨w.1.1, B.1.1, bt⟩, fun _ => ⟨fun _ => ⟨w.1.1, B.2.1.1, bt⟩, fun _ => ⟨w.1.1, B.2.2.1.1, bt⟩⟩⟩, fun v ev => ⟨⟨r1, F1⟩, ?_⟩⟩
  obtain ⟨W, -, L, wn, Bn, -, -, hWy, ⟨hL, -⟩, ⟨hB0, hBL⟩, hok, hWc, -⟩ := r1.xe.xf q1
  have jL : j < L := by rw [hL] at j1; omega
  have ok := hok j jL
  have mono : ∀ m k, k + m ≤ L → Bn k ≤ Bn (k + m) := fun m => by
    induction m with
    | zero => exact fun k _ => Nat.le_refl _
    | succ m ih => exact fun k hk => Nat.le_trans (ih k (by omega)) (Nat.le_of_lt (hok (k + m) (by omega)).1.1)
  have bL : Bn (j + 1) ≤ wn := by
    have := mono (L - (j + 1)) (j + 1) (by omega)
    rw [show j + 1 + (L - (j + 1)) = L by omega, hBL] at this
    exact this
  obtain ⟨⟨o1, o2⟩, ⟨o3, o4⟩, ⟨o5, o6⟩, o7, -⟩ := ok
  have ei : (t + l3).toNat = (nt M3 (a + 111) j).toNat + l3.toNat := by omega
  have eB : (nt M3 (a + 111) j).toNat = Bn j := by omega
  have lt : l3.toNat < Bn (j + 1) - Bn j := by omega
  have Wyj := hWy (Bn j + l3.toNat) (by omega)
  have Wcj := hWc (Bn j + l3.toNat) (by omega)
  have dv := o7 (Bn j + l3.toNat) (by omega) (by omega)
  rw [ei, eB] at ev
  rw [eB] at bq
  unfold brA9
  rw [cm]
  show v = ((bqA9 (cmQ M3 a j) l3).map (b1A9 (nt M3 (a + 115) j) l4)).getD (-1)
  rw [bq]
  show v = b1A9 (nt M3 (a + 115) j) l4 _
  unfold b1A9
  have lw := low9 Wyj.2.1.1 Wyj.2.2.1 (show 0 < nt M3 (a + 115) j by omega) Wcj dv
  rw [ev]
  by_cases u0 : l4 = 0
  · rw [if_pos u0, if_pos u0]
    show _ = (((mI M3 (a + 21185) (Bn j + l3.toNat)).toNat : Nat) : Int)
    have := Wyj.1.1
    omega
  · rw [if_neg u0, if_neg u0]
    by_cases u1 : l4 = 1
    · rw [if_pos u1, if_pos u1]
      exact lw.1.symm
    · rw [if_neg u1, if_neg u1, if_pos (by omega)]
      exact lw.2.symm
theorem e_MM_variable {l1 l2 : Int} (i1 : i32 l1) (i2 : i32 l2) (h : RI Nt9 M a) : Ci G y_MM_variable d [vr a, vi l1, vi l2] M (fun r M' => rQ Nt9 M a r M' ∧ ((¬ ((0 ≤ l1 ∧ l1 < ((Nt9.2.2.2.2.2.2.2.2.1.length : Nat) : Int)) ∧ (0 ≤ l2 ∧ l2 < Nt9.2.2.2.1)) ∧ mI M' a 0 = 1) ∨ (((0 ≤ l1 ∧ l1 < ((Nt9.2.2.2.2.2.2.2.2.1.length : Nat) : Int)) ∧ (0 ≤ l2 ∧ l2 < Nt9.2.2.2.1)) ∧ mI M' a 0 = 0 ∧ r = vaA9 Nt9.2.2.2.2.2.2.2.2.1 l1 l2))) := by
  have k9 := (h.2.1.gp h.2.1.g9).1
  refine k_MM_variable h.1 i1 i2 ⟨fun _ => ⟨h.2.1.1.1, fun _ _ => k9⟩, fun v e => ⟨h.2.1.1.1, fun M2 e2 => ?_⟩⟩
  have iv : i32 v := by rw [e]; split <;> exact ⟨by decide, by decide⟩
  obtain ⟨r2, F2, f2⟩ := h.step iv ⟨by decide, by decide, by decide⟩ e2
  have n29 := h.xe.2.2.1
  have gw : mI M a 11 ≠ 0 → mI M (mR M a 9) 12 = Nt9.2.2.2.1 ∧ Nt9.2.2.2.1 ≤ 12 := fun kn => by
    obtain ⟨T, R, W, C, Z, E, tg, g1, g2, g3, g4, g5, g6, q1, -⟩ := h.2.2.2.2.2.1 kn
    have bW := g5.1
    have eW := g3.2.1
    exact ⟨q1, by rw [← q1]; omega⟩
  refine ⟨fun q => ?_, fun v18 e18 => ⟨⟨?_, r2, F2⟩, ?_⟩⟩
  · have b := h.2.2.2.1
    rw [f2, if_pos rfl] at q
    by_cases y : l1 < 0 ∨ mI M a 29 ≤ l1 ∨ l2 < 0 ∨ ¬ l2 < mI M (mR M a 9) 12
    · rw [if_pos y] at e
      omega
    · have kn : mI M a 11 ≠ 0 := (h.2.2.2.2.2.2.1 (by omega)).1
      have := gw kn
      rw [r2.2.1.pl3.1, r2.2.1.pl4.1.1, r2.2.1.pl4.1.2]
      exact ⟨rfl, by omega, by omega⟩
  · rw [e18]
    split
    · exact (r2.1 _ _).1
    · exact ⟨by decide, by decide⟩
  · have v0 : mI M2 a 0 = v := by rw [f2, if_pos rfl]
    rw [v0] at e18 ⊢
    by_cases y : l1 < 0 ∨ mI M a 29 ≤ l1 ∨ l2 < 0 ∨ ¬ l2 < mI M (mR M a 9) 12
    · rw [if_pos y] at e
      refine Or.inl ⟨fun z => ?_, e⟩
      have kn : mI M a 11 ≠ 0 := (h.2.2.2.2.2.2.1 (by omega)).1
      have := gw kn
      omega
    · rw [if_neg y] at e
      have kn : mI M a 11 ≠ 0 := (h.2.2.2.2.2.2.1 (by omega)).1
      have gg := gw kn
      have rg : (0 ≤ l1 ∧ l1 < ((Nt9.2.2.2.2.2.2.2.2.1.length : Nat) : Int)) ∧ (0 ≤ l2 ∧ l2 < Nt9.2.2.2.1) := ⟨⟨by omega, by omega⟩, by omega, by omega⟩
      refine Or.inr ⟨rg, e, ?_⟩
      rw [if_pos (by omega), r2.2.1.pl3.1] at e18
      have n2 : mI M2 a 29 = mI M a 29 := by rw [f2, if_neg (by decide)]
      obtain ⟨W, hW, L, wn, Bn, -, -, -, -, -, -, -, hS, -⟩ := r2.xe.xf (l := l1) (by rw [n2]; omega)
      unfold vaA9
      rw [← hS]
      unfold SmR
      rw [rget, if_pos (by omega)]
      show v18 = ((lsR M2 a W l1.toNat)[l2.toNat]?).getD 0
      unfold lsR
      rw [rget, if_pos (by omega), e18]
      show _ = mI M2 (a + 105) (12 * l1.toNat + l2.toNat)
      rw [show (12 * l1 + l2).toNat = 12 * l1.toNat + l2.toNat by omega]
end RAS
end
section
/-! The reference's choose: whether it is refused. -/
section RCH
variable {G : mG} {d a : Nat} {M M' : mM} {Nt9 : tP9} {i9 : tI9}
theorem e_MM_choose1 {l1 l2 : Int} (i1 : i32 l1) (i2 : i32 l2) (h : RI Nt9 M a) : Cv G y_MM_choose1 (d + 2) [vr a, vi l1, vi l2] M (fun M' => (RI Nt9 M' a ∧ FX M a M') ∧ ((cmA9 Nt9.2.2.2.2.2.2.2.2.2 l1 l2 = none ∧ mI M' a 0 = 1) ∨ (cmA9 Nt9.2.2.2.2.2.2.2.2.2 l1 l2 ≠ none ∧ mI M' a 0 = 0))) := by
  refine k_MM_choose1 h.1 i1 i2 ⟨h.2.1.1.1, (e_MM_isCommand i1 i2 h).mono (fun x M1 q => ?_)⟩
  obtain ⟨⟨ix, r1, F1⟩, hx⟩ := q
  refine ⟨ix, r1.1, fun v e => ⟨r1.2.1.1.1, fun M2 e2 => ?_⟩⟩
  have iv : i32 v := by rw [e]; split <;> exact ⟨by decide, by decide⟩
  obtain ⟨r2, F2, f2⟩ := r1.step iv ⟨by decide, by decide, by decide⟩ e2
  rw [r2.2.1.pl3.2.2.2.2.2.2.2.2]
  refine ⟨fun q => ?_, fun q => ⟨⟨r2, F1.trans F2⟩, Or.inl ?_⟩⟩
  · have x0 : x ≠ 0 := fun z => by
      rw [f2, if_pos rfl, e, if_pos z] at q
      omega
    have hc := hx.mp x0
    have cm := r1.xe.cm2 hc
    obtain ⟨q1, q2, q3⟩ := hc
    have e8 : mI M2 (a + 108) = mI M1 (a + 108) := by rw [e2]; funext j; rw [mI_UI, if_neg (fun z => by omega)]
    have e29 : mI M2 a 29 = mI M1 a 29 := by rw [f2, if_neg (by decide)]
    obtain ⟨j, -, -, -, -, -, -, -, j7⟩ := r2.cm (by rw [e29]; exact q1) q2 (by rw [e8]; exact q3)
    have t := s_MS_tell (G := G) (d := d + 1) (k := l1.toNat) (i := l2.toNat) r2.1 r2.sv (by omega) (by omega)
    rw [Int.toNat_of_nonneg q1.1, Int.toNat_of_nonneg q2] at t
    refine ⟨r2.sv.1.1, t.mono (fun M3 q => ?_)⟩
    obtain ⟨o, f, S3⟩ := q
    obtain ⟨r3, F3, e3⟩ := r2.sol o (fi_vk f).1 (fun x z => Or.inl z) S3 (fi_vk f).2
    exact ⟨o, ⟨r3, F1.trans (F2.trans F3)⟩, Or.inr ⟨by rw [cm]; exact Option.some_ne_none _, by rw [e3, f2, if_pos rfl, e, if_neg x0]⟩⟩
  · have x0 : x = 0 := Classical.byContradiction (fun z => by
      rw [f2, if_pos rfl, e, if_neg z] at q
      omega)
    exact ⟨r1.xe.cm1 (fun z => (hx.mpr z) x0), by rw [f2, if_pos rfl, e, if_pos x0]⟩
end RCH
end
section
/-! The class's natural numbers: places, values, small steps. -/
section NAA
variable {G : mG} {d a b Y Cy s n X Cx t : Nat} {M M' M1 M2 : mM}
/-- the value of k limbs of thirty bits -/
def dn (f : Nat → Int) : Nat → Int
  | 0 => 0
  | k + 1 => dn f k + f k * 2 ^ (30 * k)
theorem dn_cg {f g : Nat → Int} : ∀ k, (∀ j, j < k → f j = g j) → dn f k = dn g k
  | 0, _ => rfl
  | k + 1, h => by
    show dn f k + f k * 2 ^ (30 * k) = dn g k + g k * 2 ^ (30 * k)
    rw [dn_cg k (fun j hj => h j (by omega)), h k (by omega)]
/-- a number's places: Y its limbs, of Cy places -/
def Nl (M : mM) (a Y Cy : Nat) : Prop := mK M a = 10 ∧ mR M a 0 = Y ∧ mK M Y = 30 ∧ mN M Y = Cy ∧ (4 ≤ Cy ∧ Cy ≤ 100000) ∧ a ≠ Y ∧ (a < mZ M ∧ Y < mZ M)
/-- limbs that are limbs -/
def lim (M : mM) (Y n : Nat) : Prop := ∀ j, j < n → 0 ≤ mI M Y j ∧ mI M Y j < 1073741824
/-- a number of s limbs -/
def Nt (M : mM) (a Y Cy s : Nat) : Prop := Nl M a Y Cy ∧ mI M a 1 = ((s : Nat) : Int) ∧ s ≤ Cy ∧ lim M Y s ∧ (0 < s → mI M Y (s - 1) ≠ 0)
theorem Nl.fi {S : Nat → Prop} (h : Nl M a Y Cy) (f : FI S M M') : Nl M' a Y Cy := by
  obtain ⟨f1, f2, f3, -, f5, -⟩ := f
  unfold Nl at h ⊢
  rw [f1, f2, f3, f5]
  exact h
theorem s_Na_trim (hO : mOk M) (h : Nl M a Y Cy) (hn : n ≤ Cy) (hl : lim M Y n) : Cv G y_Na_trim d [vr a, vi n] M (fun M' => mOk M' ∧ FI (fun x => x = a) M M' ∧ (∀ i, i ≠ 1 → mI M' a i = mI M a i) ∧ ∃ s, s ≤ n ∧ Nt M' a Y Cy s ∧ dn (mI M' Y) s = dn (mI M Y) n) := by
  obtain ⟨k0, r0, kY, nY, ⟨c1, c2⟩, ne, z1, z2⟩ := id h
  refine k_Na_trim hO ⟨by omega, by omega⟩ ⟨k0, fun M2 e2 => ?_⟩
  have f2 : FI (fun x => x = a) M M2 := by rw [e2]; exact FI.ui rfl
  suffices HH : ∀ (t : Nat) (M1 : mM), t ≤ n → mOk M1 → FI (fun x => x = a) M M1 → (∀ i, i ≠ 1 → mI M1 a i = mI M a i) → mI M1 a 1 = ((t : Nat) : Int) → dn (mI M Y) t = dn (mI M Y) n → h_Na_trim_5 G d a M1 (fun M' => mOk M' ∧ FI (fun x => x = a) M M' ∧ (∀ i, i ≠ 1 → mI M' a i = mI M a i) ∧ ∃ s, s ≤ n ∧ Nt M' a Y Cy s ∧ dn (mI M' Y) s = dn (mI M Y) n) from HH n M2 (Nat.le_refl _) (by rw [e2]; exact mOk_UI hO ⟨by omega, by omega⟩) f2 (fun i hi => by rw [mI_ui a i e2, if_neg (fun u => hi u.2)]) (by rw [mI_ui a 1 e2, if_pos ⟨rfl, rfl⟩]) rfl
  intro t
  induction t with
  | zero =>
    intro M1 ht o f hi h1 hd
    have nb := f.2.2.2.2.2.2 Y (fun u => ne u.symm)
    refine k_Na_trim_5 o ⟨by rw [f.1]; exact k0, fun y => absurd y (by omega), fun _ => ⟨o, f, hi, 0, by omega, ⟨h.fi f, h1, by omega, fun j hj => absurd hj (by omega), fun u => absurd u (by omega)⟩, hd⟩, fun y => absurd (Or.inl (by omega)) y⟩
  | succ t ih =>
    intro M1 ht o f hi h1 hd
    have nb := f.2.2.2.2.2.2 Y (fun u => ne u.symm)
    refine k_Na_trim_5 o ?_
    rw [f.1, f.2.1, f.2.2.1, r0, nY, h1, show Int.toNat (((t + 1 : Nat) : Int) - 1) = t by omega, nb]
    refine ⟨k0, fun _ => ⟨kY, by omega⟩, fun y => ⟨o, f, hi, t + 1, ht, ⟨h.fi f, h1, by omega, fun j hj => by rw [nb]; exact hl j (by omega), fun _ => ?_⟩, hd⟩, fun y => ⟨⟨by omega, by omega⟩, fun M14 e14 => ?_⟩⟩
    · rw [nb, show t + 1 - 1 = t by omega]
      rcases y with y | y
      · omega
      · exact y
    · have y0 : mI M Y t = 0 := Classical.byContradiction (fun u => y (Or.inr u))
      have f14 : FI (fun x => x = a) M1 M14 := by rw [e14]; exact FI.ui rfl
      refine ih M14 (by omega) (by rw [e14]; exact mOk_UI o ⟨by omega, by omega⟩) (f.trans f14) (fun i hi' => by rw [mI_ui a i e14, if_neg (fun u => hi' u.2)]; exact hi i hi') (by rw [mI_ui a 1 e14, if_pos ⟨rfl, rfl⟩]; omega) ?_
      rw [← hd]
      show dn (mI M Y) t = dn (mI M Y) t + mI M Y t * 2 ^ (30 * t)
      rw [y0, Int.zero_mul, Int.add_zero]
/-- room for w limbs -/
theorem s_Na_reserve {w : Nat} (hO : mOk M) (h : Nl M a Y Cy) (hw : w ≤ 50000) (hC : Cy ≤ 50000) : Cv G y_Na_reserve (d + 2) [vr a, vi w] M (fun M' => mOk M' ∧ ∃ Y' Cy', Nl M' a Y' Cy' ∧ w ≤ Cy' ∧ Cy ≤ Cy' ∧ FA (fun _ => False) (fun x => x = a) M M' ∧ (∀ i, i ≠ 0 → mR M' a i = mR M a i) ∧ (∀ j, j < Cy → mI M' Y' j = mI M Y j) ∧ ((Y' = Y ∧ Cy' = Cy ∧ M' = M) ∨ (Y' = mZ M ∧ mZ M' = mZ M + 1 ∧ mS M' = mS M + Cy' ∧ 2 * Cy ≤ Cy' ∧ Cy' ≤ 2 * w))) := by
  obtain ⟨k0, r0, kY, nY, ⟨c1, c2⟩, ne, z1, z2⟩ := id h
  refine k_Na_reserve hO ⟨by omega, by omega⟩ ?_
  rw [r0, nY]
  refine ⟨k0, kY, ⟨by omega, by omega⟩, fun y => ⟨hO, Y, Cy, h, by omega, Nat.le_refl _, FA.refl, fun _ _ => rfl, fun _ _ => rfl, Or.inl ⟨rfl, rfl, rfl⟩⟩, fun y => ⟨⟨by omega, by omega⟩, ?_⟩⟩
  obtain ⟨l, el, l1, l2, l3⟩ : ∃ l : Nat, (if ((w : Nat) : Int) < 2 * ((Cy : Nat) : Int) then 2 * ((Cy : Nat) : Int) else ((w : Nat) : Int)) = ((l : Nat) : Int) ∧ 2 * Cy ≤ l ∧ w ≤ l ∧ l ≤ 2 * w := by
    by_cases u : ((w : Nat) : Int) < 2 * ((Cy : Nat) : Int)
    · exact ⟨2 * Cy, by rw [if_pos u]; omega, by omega, by omega, by omega⟩
    · exact ⟨w, by rw [if_neg u], by omega, by omega, by omega⟩
  rw [el]
  refine (s_JA_copyOf hO kY z2 (by omega) (by omega)).mono (fun x M9 q => ?_)
  obtain ⟨ex, o9, f9, Z9, S9, K9, N9, I9⟩ := q
  subst ex
  rw [nY] at I9
  refine ⟨o9, by rw [(f9.2 a z1).1]; exact k0, fun M15 e15 => ?_⟩
  have F15 : FA (fun _ => False) (fun x => x = a) M M15 := (f9.mono (fun _ _ y => y) (fun _ _ y => y.elim)).trans (FA.ur rfl e15)
  have Z15 : mZ M15 = mZ M + 1 := by rw [e15]; exact Z9
  refine ⟨by rw [e15]; exact mOk_UR o9, mZ M, l, ⟨by rw [(F15.2 a z1).1]; exact k0, by rw [e15, mR_UR, if_pos ⟨rfl, rfl⟩], by rw [e15]; exact K9, by rw [e15]; exact N9, ⟨by omega, by omega⟩, by omega, by omega, by omega⟩, l2, by omega, F15, fun i hi => by rw [e15, mR_UR, if_neg (fun u => hi u.2), (f9.2 a z1).2.2.2.1 (fun q => q)], fun j hj => by rw [e15, mI_UR]; exact I9 j hj, Or.inr ⟨rfl, Z15, by rw [e15, mS_UR]; exact S9, l1, l3⟩⟩
theorem s_Na_put0 {x : Int} (hx : 0 ≤ x ∧ x < 1073741824) (hO : mOk M) (h : Nl M a Y Cy) : Cv G y_Na_put0 d [vr a, vi x] M (fun M' => mOk M' ∧ FI (fun y => y = a ∨ y = Y) M M' ∧ ∃ s, s ≤ 1 ∧ Nt M' a Y Cy s ∧ dn (mI M' Y) s = x) := by
  obtain ⟨k0, r0, kY, nY, ⟨c1, c2⟩, ne, z1, z2⟩ := id h
  refine k_Na_put0 hO ⟨by omega, by omega⟩ ?_
  rw [r0, nY]
  refine ⟨k0, kY, ⟨by omega, by omega⟩, fun M4 e4 v7 e7 M12 e12 => ?_⟩
  have f4 : FI (fun y => y = Y) M M4 := by rw [e4]; exact FI.ui rfl
  have f12 : FI (fun y => y = a) M4 M12 := by rw [e12]; exact FI.ui rfl
  have ff : FI (fun y => y = a ∨ y = Y) M M12 := (f4.mono (fun _ y => Or.inr y)).trans (f12.mono (fun _ y => Or.inl y))
  have b7 : v7 = 0 ∨ v7 = 1 := by rw [e7]; split <;> omega
  have y12 : mI M12 Y 0 = x := by rw [f12.2.2.2.2.2.2 Y (fun u => ne u.symm), mI_ui Y 0 e4, if_pos ⟨rfl, rfl⟩]
  have a12 : mI M12 a 1 = v7 := by rw [mI_ui a 1 e12, if_pos ⟨rfl, rfl⟩]
  refine ⟨by rw [e12]; exact mOk_UI (by rw [e4]; exact mOk_UI hO ⟨by omega, by omega⟩) (m_b32 b7), ff, ?_⟩
  by_cases y : x = 0
  · rw [if_pos y] at e7
    exact ⟨0, by omega, ⟨h.fi ff, by rw [a12, e7]; rfl, by omega, fun j hj => absurd hj (by omega), fun u => absurd u (by omega)⟩, y.symm⟩
  · rw [if_neg y] at e7
    refine ⟨1, Nat.le_refl _, ⟨h.fi ff, by rw [a12, e7]; rfl, by omega, fun j hj => ?_, fun _ => by rw [show 1 - 1 = 0 by omega, y12]; exact y⟩, ?_⟩
    · rw [show j = 0 by omega, y12]
      exact hx
    · show 0 + mI M12 Y 0 * 2 ^ (30 * 0) = x
      rw [y12]
      simp
end NAA
end
section
/-! The class's natural numbers: questions. -/
section NAB
variable {G : mG} {d a b Y Cy s n X Cx r t : Nat} {M M' M1 M2 : mM}
theorem s_Na_isOne (hO : mOk M) (h : Nt M a Y Cy s) : Ci G y_Na_isOne d [vr a] M (fun x M' => M' = M ∧ (x = 0 ∨ x = 1) ∧ (x ≠ 0 → dn (mI M Y) s = 1)) := by
  obtain ⟨⟨k0, r0, kY, nY, ⟨c1, c2⟩, -⟩, sz1, -⟩ := h
  refine k_Na_isOne hO ?_
  rw [r0, nY]
  refine ⟨k0, fun _ => ⟨kY, ⟨by omega, by omega⟩⟩, fun v6 e6 => ⟨rfl, ?_⟩⟩
  rw [e6]
  split
  · rename_i hc
    refine ⟨Or.inr rfl, fun _ => ?_⟩
    obtain ⟨h1, h2⟩ := hc
    have s1 : s = 1 := by
      rw [sz1] at h1
      omega
    rw [s1]
    show 0 + mI M Y 0 * 2 ^ (30 * 0) = 1
    rw [h2]
    decide
  · exact ⟨Or.inl rfl, fun u => absurd rfl u⟩
end NAB
end
section
/-! Limbs of thirty bits: longs' bits, values, and Knuth's guess. -/
theorem j_and (x : Int) : andL x 1073741823 = x % 1073741824 := by
  unfold andL
  show (BitVec.ofInt 64 x &&& 1073741823#64).toInt = _
  have h0 : (BitVec.ofInt 64 x &&& 1073741823#64).toNat = (BitVec.ofInt 64 x).toNat % 1073741824 := by
    rw [BitVec.toNat_and]
    exact Nat.and_two_pow_sub_one_eq_mod _ 30
  have h1 : (BitVec.ofInt 64 x).toNat = (x % 18446744073709551616).toNat := by
    rw [BitVec.toNat_ofInt]; rfl
  rw [BitVec.toInt_eq_toNat_cond, h0, h1]
  have h3 : ((x % 18446744073709551616).toNat : Int) = x % 18446744073709551616 := Int.toNat_of_nonneg (Int.emod_nonneg _ (by decide))
  split <;> omega
theorem j_shr {x : Int} (h : i64 x) : shrL x 30 = x / 1073741824 := by
  unfold shrL
  show (BitVec.sshiftRight (BitVec.ofInt 64 x) _).toInt = _
  rw [BitVec.toInt_sshiftRight]
  have := i64_toInt h
  have e : (BitVec.ofInt 64 x).toInt = x := this
  rw [e]
  show x >>> 30 = _
  rw [Int.shiftRight_eq_div_pow]
  rfl
theorem j_ushr {x : Int} (h0 : 0 ≤ x) (h : x < 9223372036854775808) : ushrL x 30 = x / 1073741824 := by
  unfold ushrL
  show (BitVec.ushiftRight (BitVec.ofInt 64 x) 30).toInt = _
  have h1 : (BitVec.ofInt 64 x).toNat = x.toNat := by
    rw [BitVec.toNat_ofInt]
    show (x % 18446744073709551616).toNat = _
    rw [Int.emod_eq_of_lt h0 (by omega)]
  have h2 : (BitVec.ushiftRight (BitVec.ofInt 64 x) 30).toNat = x.toNat / 1073741824 := by
    show ((BitVec.ofInt 64 x) >>> 30).toNat = _
    rw [BitVec.toNat_ushiftRight, h1, Nat.shiftRight_eq_div_pow]
  rw [BitVec.toInt_eq_toNat_cond, h2]
  have h3 : ((x.toNat : Nat) : Int) = x := Int.toNat_of_nonneg h0
  split <;> omega
theorem j_shl {x : Int} (h : -8589934592 ≤ x ∧ x < 8589934592) : shlL x 30 = x * 1073741824 := by
  unfold shlL
  show ((BitVec.ofInt 64 x) <<< 30).toInt = _
  have e : (BitVec.ofInt 64 x) <<< 30 = BitVec.ofInt 64 (x * 1073741824) := by
    apply BitVec.eq_of_toNat_eq
    rw [BitVec.toNat_shiftLeft, BitVec.toNat_ofInt, BitVec.toNat_ofInt, Nat.shiftLeft_eq]
    show (x % 18446744073709551616).toNat * 1073741824 % 18446744073709551616 = ((x * 1073741824) % 18446744073709551616).toNat
    omega
  rw [e]
  exact i64_toInt (x := x * 1073741824) (by unfold i64; omega)
theorem j_c0 {x : Int} : cmpL x 0 = 0 ↔ x = 0 := by
  unfold cmpL; split
  · constructor <;> intro h <;> omega
  · split <;> constructor <;> intro h <;> first | omega | contradiction
theorem j_cn {x : Int} : cmpL x 0 < 0 ↔ x < 0 := by
  unfold cmpL; split
  · constructor <;> intro h <;> omega
  · split <;> constructor <;> intro h <;> omega
theorem j_cle {x z : Int} : cmpL x z ≤ 0 ↔ x ≤ z := by
  unfold cmpL; split
  · constructor <;> intro h <;> omega
  · split <;> constructor <;> intro h <;> omega
/-- powers of two as shifts of 1 -/
theorem j_sh1 : ∀ k : Nat, k ≤ 30 → shlI 1 (k : Int) = 2 ^ k := by
  have : ∀ k : Nat, k ≤ 30 → shlI 1 (k : Int) = ((2 ^ k : Nat) : Int) := by decide
  intro k hk
  rw [this k hk]
  norm_cast
section KNU
variable {P U V two u2 Ul v1 v2 Vl g : Int}
theorem kn_le {a b c : Int} (h : a ≤ b) (hc : 0 ≤ c) : a * c ≤ b * c := Int.mul_le_mul_of_nonneg_right h hc
/-- the guess is not too small -/
theorem kn_up (hP : 0 < P) (eU : U = (two * 1073741824 + u2) * P + Ul) (eV : V = (v1 * 1073741824 + v2) * P + Vl) (hl : Ul < P) (h2 : u2 < 1073741824) (k2 : 0 ≤ v2) (kl : 0 ≤ Vl) (hUV : U < V * 1073741824) (hg : 0 ≤ g) (h : g = 1073741823 ∨ two < (g + 1) * v1) : U < (g + 1) * V := by
  rcases h with h | h
  · rw [h]; omega
  · have a1 : (two + 1) * (1073741824 * P) ≤ ((g + 1) * v1) * (1073741824 * P) := kn_le (by omega) (by omega)
    have a2 : (u2 + 1) * P ≤ 1073741824 * P := kn_le (by omega) (by omega)
    have a3 : 0 ≤ (g + 1) * v2 * P := Int.mul_nonneg (Int.mul_nonneg (by omega) k2) (by omega)
    have a4 : 0 ≤ (g + 1) * Vl := Int.mul_nonneg (by omega) kl
    rw [eU, eV]
    clear eU eV hUV k2 kl h h2 hg
    grind
/-- and at most two too large -/
theorem kn_dn (hP : 0 < P) (eU : U = (two * 1073741824 + u2) * P + Ul) (eV : V = (v1 * 1073741824 + v2) * P + Vl) (hl : 0 ≤ Ul) (h2 : 0 ≤ u2) (k2 : 0 ≤ v2 ∧ v2 < 1073741824) (kl : 0 ≤ Vl ∧ Vl < P) (hv : 1073741824 ≤ 2 * v1) (hg : 0 ≤ g ∧ g < 1073741824) (h : g * v1 ≤ two) : (g - 2) * V ≤ U := by
  have a1 : (g * v1) * (1073741824 * P) ≤ two * (1073741824 * P) := kn_le h (by omega)
  have a2 : (v2 + 1) * P ≤ 1073741824 * P := kn_le (by omega) (by omega)
  have a3 : g * (v2 * P + Vl) ≤ g * (1073741824 * P) := Int.mul_le_mul_of_nonneg_left (by rw [Int.add_mul] at a2; omega) hg.1
  have a4 : g * (1073741824 * P) ≤ (2 * v1) * (1073741824 * P) := kn_le (by omega) (by omega)
  have a5 : 0 ≤ u2 * P := Int.mul_nonneg h2 (by omega)
  have a6 : 0 ≤ v2 * P := Int.mul_nonneg k2.1 (by omega)
  obtain ⟨k21, k22⟩ := k2
  obtain ⟨kl1, kl2⟩ := kl
  rw [eU, eV]
  clear eU eV h hg hv h2 a2 k21 k22
  grind
/-- a guess that the third limb tells to be too large -/
theorem kn_dec (hP : 0 < P) (eU : U = (two * 1073741824 + u2) * P + Ul) (eV : V = (v1 * 1073741824 + v2) * P + Vl) (hl : Ul < P) (kl : 0 ≤ Vl) (hg : 0 ≤ g) (h : (two - g * v1) * 1073741824 + u2 < g * v2) : U < (g - 1 + 1) * V := by
  have a1 : ((two - g * v1) * 1073741824 + u2 + 1) * P ≤ (g * v2) * P := kn_le (by omega) (by omega)
  have a4 : 0 ≤ g * Vl := Int.mul_nonneg hg kl
  rw [eU, eV]
  clear eU eV h hg
  grind
/-- a guess that the third limb lets pass is at most one too large -/
theorem kn_one (hP : 0 < P) (eU : U = (two * 1073741824 + u2) * P + Ul) (eV : V = (v1 * 1073741824 + v2) * P + Vl) (hl : 0 ≤ Ul) (k2 : 0 ≤ v2) (kl : 0 ≤ Vl ∧ Vl < P) (hv : 1 ≤ v1) (hg : 0 ≤ g ∧ g < 1073741824) (h : g * v2 ≤ (two - g * v1) * 1073741824 + u2) : (g - 1) * V ≤ U := by
  have a1 : (g * v2) * P ≤ ((two - g * v1) * 1073741824 + u2) * P := kn_le (by omega) (by omega)
  have a3 : g * Vl ≤ g * P := Int.mul_le_mul_of_nonneg_left (by omega) hg.1
  have a4 : g * P ≤ 1073741824 * P := kn_le (by omega) (by omega)
  have a5 : 1 * (1073741824 * P) ≤ v1 * (1073741824 * P) := kn_le hv (by omega)
  have a6 : 0 ≤ v2 * P := Int.mul_nonneg k2 (by omega)
  obtain ⟨kl1, kl2⟩ := kl
  rw [eU, eV]
  clear eU eV h hg hv k2
  grind
/-- what is left by the guess -/
theorem kn_rest (hP : 0 < P) (eU : U = (two * 1073741824 + u2) * P + Ul) (eV : V = (v1 * 1073741824 + v2) * P + Vl) (hl : 0 ≤ Ul) (h2 : 0 ≤ u2) (k2 : v2 < 1073741824) (kl : Vl < P) (hv : v1 < 1073741824) (hUV : U < V * 1073741824) (h1 : g * v1 ≤ two) (h : g = 1073741823 ∨ two < (g + 1) * v1) : 0 ≤ two - g * v1 ∧ two - g * v1 < 2147483648 := by
  refine ⟨by omega, ?_⟩
  rcases h with h | h
  · have a2 : (v2 + 1) * P ≤ 1073741824 * P := kn_le (by omega) (by omega)
    have a5 : 0 ≤ u2 * P := Int.mul_nonneg h2 (by omega)
    have a6 : two * (1073741824 * P) < ((v1 + 1) * 1073741824) * (1073741824 * P) := by
      clear h h1
      grind
    have a7 : two < (v1 + 1) * 1073741824 := Int.lt_of_mul_lt_mul_right a6 (by omega)
    rw [h]
    omega
  · rw [Int.add_mul, Int.one_mul] at h
    omega
/-- the true quotient -/
theorem kn_q {R : Int} (h1 : U < (g + 1) * V) (h0 : (g - 1) * V ≤ U) (hR : U - g * V = R) : (0 ≤ R → R < V) ∧ (R < 0 → 0 ≤ R + V) := by
  rw [Int.add_mul, Int.one_mul] at h1
  rw [Int.sub_mul, Int.one_mul] at h0
  omega
end KNU
theorem p30 (k : Nat) : (2 : Int) ^ (30 * (k + 1)) = 2 ^ (30 * k) * 1073741824 := by
  rw [show 30 * (k + 1) = 30 * k + 30 by omega, Int.pow_add]
  rfl
theorem p30p (k : Nat) : (0 : Int) < 2 ^ (30 * k) := Int.pow_pos (by decide)
theorem p30a (m k : Nat) : (2 : Int) ^ (30 * (m + k)) = 2 ^ (30 * m) * 2 ^ (30 * k) := by
  rw [show 30 * (m + k) = 30 * m + 30 * k by omega, Int.pow_add]
theorem p30m {m k : Nat} (h : m ≤ k) : (2 : Int) ^ (30 * m) ≤ 2 ^ (30 * k) := by
  obtain ⟨t, rfl⟩ := Nat.le.dest h
  rw [p30a]
  have h1 : (1 : Int) ≤ 2 ^ (30 * t) := p30p t
  have h2 := Int.mul_le_mul_of_nonneg_left h1 (Int.le_of_lt (p30p m))
  omega
theorem dn_s (f : Nat → Int) (k : Nat) : dn f (k + 1) = dn f k + f k * 2 ^ (30 * k) := rfl
/-- limbs -/
def lms (f : Nat → Int) (n : Nat) : Prop := ∀ j, j < n → 0 ≤ f j ∧ f j < 1073741824
theorem dn_nn {f : Nat → Int} : ∀ {n : Nat}, lms f n → 0 ≤ dn f n
  | 0, _ => Int.le_refl _
  | n + 1, h => by
    rw [dn_s]
    have h1 := dn_nn (n := n) (fun j hj => h j (by omega))
    have h2 := Int.mul_nonneg (h n (by omega)).1 (Int.le_of_lt (p30p n))
    omega
theorem dn_lt {f : Nat → Int} : ∀ {n : Nat}, lms f n → dn f n < 2 ^ (30 * n)
  | 0, _ => (by decide : (0 : Int) < 2 ^ (30 * 0))
  | n + 1, h => by
    rw [dn_s, p30]
    have h1 := dn_lt (n := n) (fun j hj => h j (by omega))
    have h2 := Int.mul_le_mul_of_nonneg_right (c := 2 ^ (30 * n)) (show f n ≤ 1073741823 by have := h n (by omega); omega) (Int.le_of_lt (p30p n))
    omega
theorem dn_ge {f : Nat → Int} {n : Nat} (h : lms f (n + 1)) (h0 : f n ≠ 0) : 2 ^ (30 * n) ≤ dn f (n + 1) := by
  rw [dn_s]
  have h1 := dn_nn (n := n) (fun j hj => h j (by omega))
  have h2 := Int.mul_le_mul_of_nonneg_right (c := 2 ^ (30 * n)) (show 1 ≤ f n by have := h n (by omega); omega) (Int.le_of_lt (p30p n))
  omega
/-- a number of s limbs without its highest is less -/
theorem dn_top {f : Nat → Int} {n : Nat} (h : lms f (n + 1)) (h0 : 2 ^ (30 * n) ≤ dn f (n + 1)) : f n ≠ 0 := by
  intro z
  rw [dn_s, z] at h0
  have h1 := dn_lt (n := n) (fun j hj => h j (by omega))
  omega
theorem dn_up {f g : Nat → Int} {i : Nat} : ∀ {n : Nat}, i < n → (∀ j, j < n → j ≠ i → g j = f j) → dn g n = dn f n + (g i - f i) * 2 ^ (30 * i)
  | 0, hi, _ => absurd hi (by omega)
  | n + 1, hi, h => by
    rw [dn_s, dn_s]
    by_cases z : i = n
    · subst z
      rw [dn_cg i (fun j hj => h j (by omega) (by omega)), Int.sub_mul]
      omega
    · rw [dn_up (n := n) (by omega) (fun j hj hj' => h j (by omega) hj'), h n (by omega) (fun u => z u.symm)]
      omega
theorem dn_z {f : Nat → Int} {s : Nat} : ∀ {n : Nat}, s ≤ n → (∀ j, s ≤ j → j < n → f j = 0) → dn f n = dn f s
  | 0, hs, _ => by rw [show s = 0 by omega]
  | n + 1, hs, h => by
    by_cases z : s = n + 1
    · rw [z]
    · rw [dn_s, h n (by omega) (by omega), dn_z (n := n) (by omega) (fun j h1 h2 => h j h1 (by omega))]
      omega
theorem dn_sp (f : Nat → Int) (m : Nat) : ∀ n, dn f (m + n) = dn f m + 2 ^ (30 * m) * dn (fun j => f (m + j)) n
  | 0 => by show dn f m = dn f m + 2 ^ (30 * m) * 0; omega
  | n + 1 => by
    show dn f (m + n) + f (m + n) * 2 ^ (30 * (m + n)) = dn f m + 2 ^ (30 * m) * (dn (fun j => f (m + j)) n + f (m + n) * 2 ^ (30 * n))
    rw [dn_sp f m n, p30a, Int.mul_add, Int.add_assoc, Int.mul_left_comm]
/-- the lowest limb apart -/
theorem dn_lo (f : Nat → Int) (n : Nat) : dn f (n + 1) = f 0 + 1073741824 * dn (fun j => f (1 + j)) n := by
  rw [show n + 1 = 1 + n by omega, dn_sp]
  show 0 + f 0 * 2 ^ (30 * 0) + _ = _
  rw [show (2 : Int) ^ (30 * 0) = 1 by decide, show (2 : Int) ^ (30 * 1) = 1073741824 by decide]
  omega
/-- sizes by values -/
theorem dn_sz {f : Nat → Int} {s n : Nat} (h : lms f s) (h0 : 0 < s → f (s - 1) ≠ 0) (hv : dn f s < 2 ^ (30 * n)) : s ≤ n := by
  refine Classical.byContradiction (fun u => ?_)
  obtain ⟨t, rfl⟩ : ∃ t, s = t + 1 := ⟨s - 1, by omega⟩
  have h1 := dn_ge h (h0 (by omega))
  have h2 := p30m (m := n) (k := t) (by omega)
  omega
/-- one step of a carry -/
theorem c_st {D D' l x : Int} {i : Nat} (e : D' = D + (x % 1073741824 - l) * 2 ^ (30 * i)) : D' + x / 1073741824 * 2 ^ (30 * (i + 1)) = D + (x - l) * 2 ^ (30 * i) := by
  rw [e, p30]
  have h := Int.emod_add_mul_ediv x 1073741824
  generalize (2 : Int) ^ (30 * i) = p at *
  have h2 : x * p = (x % 1073741824) * p + (x / 1073741824) * (p * 1073741824) := by
    conv => lhs; rw [← h]
    rw [Int.add_mul, Int.mul_comm 1073741824, Int.mul_assoc, Int.mul_comm 1073741824]
  rw [Int.sub_mul, Int.sub_mul, h2]
  omega
theorem al_mul {D1 D0 c f l p e : Int} (h : D1 + c * p = D0 + (f - 1) * e) : D1 + ((c + f * l) - l) * p = D0 + (f - 1) * (e + l * p) := by grind
theorem al_add {D1 D0 c f l p e x : Int} (h : D1 + c * p = D0 + f * e) : D1 + ((c + (l + f * x)) - l) * p = D0 + f * (e + x * p) := by grind
theorem al_car {D1 T c l p : Int} (h : D1 + c * p = T) : D1 + ((c + l) - l) * p = T := by grind
theorem al_prod {D1 D0 c f l pi pj e x : Int} (h : D1 + c * (pi * pj) = D0 + f * (pi * e)) : D1 + ((c + (l + f * x)) - l) * (pi * pj) = D0 + f * (pi * (e + x * pj)) := by grind
theorem al_div {N D e dv r p l q : Int} (h : N = dv * (D - (e + l * p)) + r * (p * 1073741824) + (e + l * p)) : N = dv * (D + (q - l) * p - e) + ((r * 1073741824 + l) - dv * q) * p + e := by grind
theorem al_sub {D1 D0 c f l p e x : Int} (h : D1 + c * p = D0 - f * e) : D1 + ((c + (l - f * x)) - l) * p = D0 - f * (e + x * p) := by grind
theorem al_cmb {D1 D0 c f g u v p e k : Int} (h : D1 + c * p = D0 - e + f * e + g * k) : D1 + ((c + (f * u + g * v)) - u) * p = D0 - (e + u * p) + f * (e + u * p) + g * (k + v * p) := by grind
theorem al_cmb2 {D1 D0 c f g u v p e k : Int} (h : D1 + c * p = D0 - k + f * e + g * k) : D1 + ((c + (f * u + g * v)) - v) * p = D0 - (k + v * p) + f * (e + u * p) + g * (k + v * p) := by grind
end
