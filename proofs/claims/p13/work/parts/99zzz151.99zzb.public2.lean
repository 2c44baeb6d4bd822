/-! The reference's public methods that read the tables and call the solver. -/
section PUC
variable {G : mG} {d a s n k w : Nat} {M M' M2 : mM} {S : Nat → Prop} {Nt9 : tP9}
theorem rQ.one {l : Int} (h : RI Nt9 M' a) (F : FX M a M') (hl : i32 l) : rQ Nt9 M a l M' := ⟨hl, h, F⟩
theorem RI.n5 (h : RI Nt9 M a) : 0 ≤ mI M a 29 ∧ mI M a 29 ≤ 512 := h.2.2.2.1
theorem r_MM_isCommand {l1 l2 : Int} (i1 : i32 l1) (i2 : i32 l2) (h : RI Nt9 M a) : Ci G y_MM_isCommand (d + 1) [vr a, vi l1, vi l2] M (fun r M' => rQ Nt9 M a r M' ∧ (r ≠ 0 → (0 ≤ l1 ∧ l1 < mI M' a 29) ∧ 0 ≤ l2 ∧ l2 < mI M' (a + 108) l1.toNat)) := by
  refine k_MM_isCommand h.1 i1 i2 ⟨h.2.1.1.1, (r_MM_isState i1 h).mono (fun x M1 q => ?_)⟩
  obtain ⟨⟨ix, r1, F1⟩, hx⟩ := q
  have b := r1.n5
  have A := r1.2.1.pl4
  rw [r1.2.1.pl3.2.2.2.1]
  refine ⟨ix, r1.1, fun y _ => ⟨r1.2.1.1.1, A.2.2.2.1, by rw [A.2.2.2.2]; have := hx y; omega⟩, fun v e => ?_⟩
  by_cases y : x = 0 ∨ l2 < 0 ∨ mI M1 (a + 108) l1.toNat ≤ l2
  · rw [if_pos y] at e
    exact ⟨⟨by rw [e]; exact ⟨by decide, by decide⟩, r1, F1⟩, fun z => absurd e z⟩
  · rw [if_neg y] at e
    exact ⟨⟨by rw [e]; exact ⟨by decide, by decide⟩, r1, F1⟩, fun _ => ⟨hx (by omega), by omega, by omega⟩⟩
/-- a command's place -/
theorem RI.cm {l1 l2 : Int} (h : RI Nt9 M a) (q1 : 0 ≤ l1 ∧ l1 < mI M a 29) (q2 : 0 ≤ l2) (q3 : l2 < mI M (a + 108) l1.toNat) : ∃ j : Nat, mI M (a + 107) l1.toNat + l2 = j ∧ (j : Int) < ln M (a + 109) ∧ ln M (a + 111) = ln M (a + 109) ∧ ln M (a + 113) = ln M (a + 109) ∧ 0 ≤ nt M (a + 111) j ∧ 0 ≤ nt M (a + 113) j ∧ nt M (a + 111) j + nt M (a + 113) j ≤ 4096 ∧ l2 < mny M (a + 117) l1.toNat := by
  obtain ⟨x1, x2, x3, x4⟩ := (h.2.2.2.2.2.2.1 (by omega)).2
  have y := x1 l1.toNat (by omega)
  refine ⟨(mI M (a + 107) l1.toNat + l2).toNat, by omega, by omega, x2, x3, ?_⟩
  have z := x4 (mI M (a + 107) l1.toNat + l2).toNat (by omega)
  exact ⟨z.1, z.2.1, z.2.2, by omega⟩
theorem r_MM_command {l1 l2 : Int} (i1 : i32 l1) (i2 : i32 l2) (h : RI Nt9 M a) : Ci G y_MM_command (d + 2) [vr a, vi l1, vi l2] M (rQ Nt9 M a) := by
  refine k_MM_command h.1 i1 i2 ⟨h.2.1.1.1, (r_MM_isCommand i1 i2 h).mono (fun x M1 q => ?_)⟩
  obtain ⟨⟨ix, r1, F1⟩, hx⟩ := q
  have b := r1.n5
  have w := r1.2.1
  refine ⟨ix, r1.1, fun _ => ⟨⟨by decide, by decide⟩, r1, F1⟩, fun y => ?_⟩
  obtain ⟨q1, q2, q3⟩ := hx y
  obtain ⟨j, e, j1, j2, j3, -⟩ := r1.cm q1 q2 q3
  have A := w.pl4
  rw [w.pl3.2.2.1, w.pl3.2.2.2.2.1, e]
  have hN := w.nu (p := a + 109) (nums_o (by decide))
  refine ⟨w.1.1, A.2.2.1.1, by rw [A.2.2.1.2]; omega, hN.1, (s_MN_at r1.1 hN j1).mono (fun z M2 q2 => ?_)⟩
  obtain ⟨e2, e3⟩ := q2
  subst e2
  have iz : i32 z := by rw [e3]; exact (r1.1 _ _).1
  exact ⟨iz, r1.1, iz, r1, F1⟩
theorem r_MM_character {l : Int} (hl : i32 l) (h : RI Nt9 M a) : Ci G y_MM_character d [vr a, vi l] M (rQ Nt9 M a) := by
  refine k_MM_character h.1 hl ⟨h.2.1.1.1, fun M2 e2 => ?_⟩
  obtain ⟨r2, F2, -⟩ := h.step ⟨by decide, by decide⟩ ⟨by decide, by decide, by decide⟩ e2
  have b := r2.2.2.2.2.2.2.2
  have B := r2.2.1.pl6
  rw [r2.2.1.pl5.2]
  refine ⟨fun y1 y2 => ⟨B.2.2.2.1, by rw [B.2.2.2.2]; omega⟩, fun v e => ⟨?_, r2, F2⟩⟩
  rw [e]
  split
  · exact ⟨by decide, by decide⟩
  · exact (r2.1 _ _).1
/-- the solver and its number of states -/
theorem RI.sv (h : RI Nt9 M a) : Sv M (a + 117) (mI M a 29).toNat := h.2.2.2.2.1
theorem r_MM_solve (h : RI Nt9 M a) : Ci G y_MM_solve (d + 11) [vr a] M (fun r M' => ∃ n1 : tP9, (i32 r ∧ RI n1 M' a ∧ FR M a M') ∧ ((Nt9.2.2.2.2.2.2.2.2.1 = [] ∧ n1 = Nt9 ∧ mI M' a 0 = 1) ∨ (Nt9.2.2.2.2.2.2.2.2.1 ≠ [] ∧ n1 = (Nt9.1, Nt9.2.1, kn9 Nt9.2.2 (if r = 0 then 1 else 0)) ∧ mI M' a 0 = 0 ∧ kdT Nt9.2.2.2.2.2.2.2.2.2 ∧ svA9 Nt9.2.2.2.2.2.2.2.2.2 r))) := by
  have l29 := h.xe.2.2.1
  obtain ⟨F, hF⟩ := fall_ex
  refine k_MM_solve h.1 ⟨h.2.1.1.1, fun v e M2 e2 => ?_⟩
  have iv : i32 v := by rw [e]; split <;> exact ⟨by decide, by decide⟩
  obtain ⟨r2, F2, f2⟩ := h.step iv ⟨by decide, by decide, by decide⟩ e2
  have z2 : mI M2 a 0 = v := by rw [f2, if_pos rfl]
  rw [r2.2.1.pl3.2.2.2.2.2.2.2.2]
  refine ⟨fun u => ⟨r2.sv.1.1, (s_MS_solve hF r2.1 r2.sv).mono (fun x M3 q => ?_)⟩, fun u => ⟨Nt9, ⟨⟨by decide, by decide⟩, r2, F2.1⟩, Or.inl ?_⟩⟩
  · obtain ⟨⟨o, f, S3, hx⟩, hv, hk⟩ := q
    obtain ⟨r3, F3, a3⟩ := r2.solv o f (fun x z => Or.inl z) S3 hk
    have ix : i32 x := i32s (by omega) (by omega)
    have ne : Nt9.2.2.2.2.2.2.2.2.1 ≠ [] := fun z => by
      rw [z2, e] at u
      rw [z] at l29
      rw [if_pos (by rw [l29]; rfl)] at u
      exact absurd u (by decide)
    obtain ⟨W, -, -, w3, w4⟩ := r2.xe.2.2.2.2 ne
    refine ⟨ix, o, _, ⟨ix, r3, F2.1.trans F3⟩, Or.inr ⟨ne, rfl, ?_, w4, hv _ w3 w4⟩⟩
    rw [a3, z2, e]
    refine if_neg (fun z => ne ?_)
    rw [l29] at z
    exact List.length_eq_zero_iff.mp (by omega)
  · have z0 : mI M a 29 = 0 := Classical.byContradiction (fun z => u (by rw [z2, e, if_neg z]; decide))
    rw [l29] at z0
    exact ⟨List.length_eq_zero_iff.mp (by omega), rfl, by rw [z2, e, if_pos (by rw [l29]; exact z0)]⟩
theorem r_MM_judge {l : Int} (hl : i32 l) (h : RI Nt9 M a) : Ci G y_MM_judge (d + 11) [vr a, vi l] M (rQ Nt9 M a) := by
  obtain ⟨F, hF⟩ := fall_ex
  refine k_MM_judge h.1 hl ⟨⟨fun _ => h.2.1.1.1, fun _ _ => h.2.1.1.1⟩, fun v e => ⟨h.2.1.1.1, fun M2 e2 => ?_⟩⟩
  have iv : i32 v := by rw [e]; (repeat' split) <;> exact ⟨by decide, by decide⟩
  obtain ⟨r2, F2, f2⟩ := h.step iv ⟨by decide, by decide, by decide⟩ e2
  rw [r2.2.1.pl3.2.2.2.2.2.2.2.2]
  refine ⟨fun q => ⟨r2.sv.1.1, (s_MS_judge hF ?_ r2.1 r2.sv).mono (fun x M3 q => ?_)⟩, fun _ => ⟨⟨by decide, by decide⟩, r2, F2⟩⟩
  · rw [f2, if_pos rfl, e] at q
    by_cases y1 : l = 1
    · exact Or.inl y1
    · by_cases y2 : l = 2
      · exact Or.inr y2
      · rw [if_neg y1, if_neg y2] at q
        omega
  · obtain ⟨⟨o, f, S3, hx⟩, hk⟩ := q
    obtain ⟨r3, F3, -⟩ := r2.sol o f (fun x z => Or.inl z) S3 hk
    have ix : i32 x := i32s (by omega) (by omega)
    exact ⟨ix, o, ix, r3, F2.trans F3⟩
theorem r_MM_within {l : Int} (hl : i32 l) (h : RI Nt9 M a) : Ci G y_MM_within (d + 8) [vr a, vi l] M (fun r M' => rQ Nt9 M a r M' ∧ ((¬ (0 ≤ l ∧ l ≤ 32) ∧ mI M' a 0 = 1) ∨ ((0 ≤ l ∧ l ≤ 32) ∧ Nt9.2.2.2.2.2.2.2.2.1 = [] ∧ mI M' a 0 = 2) ∨ ((0 ≤ l ∧ l ≤ 32) ∧ Nt9.2.2.2.2.2.2.2.2.1 ≠ [] ∧ mI M' a 0 = 0 ∧ anA9 Nt9.2.2.2.2.2.2.2.2.2 l.toNat r))) := by
  have l29 := h.xe.2.2.1
  refine k_MM_within h.1 hl ⟨fun _ _ => h.2.1.1.1, fun v e => ⟨h.2.1.1.1, fun M2 e2 => ?_⟩⟩
  have iv : i32 v := by rw [e]; (repeat' split) <;> exact ⟨by decide, by decide⟩
  obtain ⟨r2, F2, f2⟩ := h.step iv ⟨by decide, by decide, by decide⟩ e2
  have z2 : mI M2 a 0 = v := by rw [f2, if_pos rfl]
  rw [r2.2.1.pl3.2.2.2.2.2.2.2.2]
  refine ⟨fun q => ?_, fun q => ⟨⟨⟨by decide, by decide⟩, r2, F2⟩, ?_⟩⟩
  rotate_left
  · rw [z2]
    rw [z2] at q
    by_cases y1 : l < 0
    · rw [if_pos y1] at e
      exact Or.inl ⟨fun z => by omega, e⟩
    · by_cases y2 : l ≤ 32
      · by_cases y3 : mI M a 29 = 0
        · rw [if_neg y1, if_pos y2, if_pos y3] at e
          rw [l29] at y3
          exact Or.inr (Or.inl ⟨⟨by omega, y2⟩, List.length_eq_zero_iff.mp (by omega), e⟩)
        · rw [if_neg y1, if_pos y2, if_neg y3] at e
          omega
      · rw [if_neg y1, if_neg y2] at e
        exact Or.inl ⟨fun z => y2 z.2, e⟩
  have lb : 0 ≤ l ∧ l ≤ 32 := by
    rw [f2, if_pos rfl, e] at q
    by_cases y1 : l < 0
    · rw [if_pos y1] at q
      omega
    · by_cases y2 : l ≤ 32
      · omega
      · rw [if_neg y1, if_neg y2] at q
        omega
  have y3 : mI M a 29 ≠ 0 := fun y3 => by
    rw [z2, e, if_neg (by omega), if_pos lb.2, if_pos y3] at q
    exact absurd q (by decide)
  have v0 : v = 0 := by rw [e, if_neg (by omega), if_pos lb.2, if_neg y3]
  have ne : Nt9.2.2.2.2.2.2.2.2.1 ≠ [] := fun z => by
    rw [z] at l29
    exact y3 l29
  refine ⟨r2.sv.1.1, (s_MS_within lb.1 lb.2 r2.1 r2.sv).mono (fun x M3 q => ?_)⟩
  obtain ⟨W, -, -, w3, w4⟩ := r2.xe.2.2.2.2 ne
  obtain ⟨⟨o, f, S3, hx⟩, hk, hw⟩ := q
  obtain ⟨r3, F3, a3⟩ := r2.sol o f (fun x z => Or.inl z) S3 hk
  have ix : i32 x := i32s (by omega) (by omega)
  exact ⟨ix, o, ⟨ix, r3, F2.trans F3⟩, Or.inr (Or.inr ⟨lb, ne, by rw [a3, z2, v0], hw _ w3⟩)⟩
end PUC
