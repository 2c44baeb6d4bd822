/-! The reference's command. -/
section RAC
variable {G : mG} {d a : Nat} {M M' : mM} {Nt9 : tP9} {i9 : tI9}
theorem e_MM_command {l1 l2 : Int} (i1 : i32 l1) (i2 : i32 l2) (h : RI Nt9 M a) : Ci G y_MM_command (d + 2) [vr a, vi l1, vi l2] M (fun r M' => rQ Nt9 M a r M' ∧ r = caA9 Nt9.2.2.2.2.2.2.2.2.2 l1 l2) := by
  refine k_MM_command h.1 i1 i2 ⟨h.2.1.1.1, (e_MM_isCommand i1 i2 h).mono (fun x M1 q => ?_)⟩
  obtain ⟨⟨ix, r1, F1⟩, hx⟩ := q
  have b := r1.n5
  have w := r1.2.1
  refine ⟨ix, r1.1, fun u => ⟨⟨⟨by decide, by decide⟩, r1, F1⟩, ?_⟩, fun y => ?_⟩
  · unfold caA9
    rw [r1.xe.cm1 (fun z => (hx.mpr z) u)]
    all_goals rfl
  have hc := hx.mp y
  have cm := r1.xe.cm2 hc
  obtain ⟨q1, q2, q3⟩ := hc
  obtain ⟨j, e, j1, j2, j3, -⟩ := r1.cm q1 q2 q3
  have y1 := ((r1.2.2.2.2.2.2.1 (by omega)).2.1 l1.toNat (by omega)).1
  have ej : (mI M1 (a + 107) l1.toNat).toNat + l2.toNat = j := by omega
  rw [ej] at cm
  have A := w.pl4
  rw [w.pl3.2.2.1, w.pl3.2.2.2.2.1, e]
  have hN := w.nu (p := a + 109) (nums_o (by decide))
  refine ⟨w.1.1, A.2.2.1.1, by rw [A.2.2.1.2]; omega, hN.1, (s_MN_at r1.1 hN j1).mono (fun z M2 q2 => ?_)⟩
  obtain ⟨e2, e3⟩ := q2
  subst e2
  have iz : i32 z := by rw [e3]; exact (r1.1 _ _).1
  refine ⟨iz, r1.1, ⟨iz, r1, F1⟩, ?_⟩
  unfold caA9
  rw [cm, e3]
  all_goals rfl
end RAC
