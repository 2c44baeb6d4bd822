/-! The reference's choose: whether it is refused. -/
section RCH
variable {G : mG} {d a : Nat} {M M' : mM} {Nt9 : tP9} {i9 : tI9}
theorem e_MM_choose1 {l1 l2 : Int} (i1 : i32 l1) (i2 : i32 l2) (h : RI Nt9 M a) : Cv G y_MM_choose1 (d + 2) [vr a, vi l1, vi l2] M (fun M' => (RI Nt9 M' a ∧ FX M a M') ∧ ((cmA9 Nt9.2.2.2.2.2.2.2.2.2 l1 l2 = none ∧ mI M' a 0 = 1) ∨ (cmA9 Nt9.2.2.2.2.2.2.2.2.2 l1 l2 ≠ none ∧ mI M' a 0 = 0))) := by
  refine k_MM_choose1 h.1 i1 i2 ⟨h.2.1.1.1, (e_MM_isCommand i1 i2 h).mono (fun x M1 q => ?_)⟩
  obtain ⟨⟨ix, r1, F1⟩, hx⟩ := q
  refine ⟨ix, r1.1, fun v e => ⟨r1.2.1.1.1, fun M2 e2 => ?_⟩⟩
  have iv : i32 v := by rw [e]; split <;> exact ⟨by decide, by decide⟩
  obtain ⟨r2, F2, f2⟩ := r1.step iv ⟨by decide, by decide, by decide⟩ e2
  rw [r2.2.1.pl3.2.2.2.2.2.2.2.2]
  refine ⟨fun q => ?_, fun q => ⟨⟨r2, F1.trans F2⟩, Or.inl ?_⟩⟩
  · have x0 : x ≠ 0 := fun z => by
      rw [f2, if_pos rfl, e, if_pos z] at q
      omega
    have hc := hx.mp x0
    have cm := r1.xe.cm2 hc
    obtain ⟨q1, q2, q3⟩ := hc
    have e8 : mI M2 (a + 108) = mI M1 (a + 108) := by rw [e2]; funext j; rw [mI_UI, if_neg (fun z => by omega)]
    have e29 : mI M2 a 29 = mI M1 a 29 := by rw [f2, if_neg (by decide)]
    obtain ⟨j, -, -, -, -, -, -, -, j7⟩ := r2.cm (by rw [e29]; exact q1) q2 (by rw [e8]; exact q3)
    have t := s_MS_tell (G := G) (d := d + 1) (k := l1.toNat) (i := l2.toNat) r2.1 r2.sv (by omega) (by omega)
    rw [Int.toNat_of_nonneg q1.1, Int.toNat_of_nonneg q2] at t
    refine ⟨r2.sv.1.1, t.mono (fun M3 q => ?_)⟩
    obtain ⟨o, f, S3⟩ := q
    obtain ⟨r3, F3, e3⟩ := r2.sol o (fi_vk f).1 (fun x z => Or.inl z) S3 (fi_vk f).2
    exact ⟨o, ⟨r3, F1.trans (F2.trans F3)⟩, Or.inr ⟨by rw [cm]; exact Option.some_ne_none _, by rw [e3, f2, if_pos rfl, e, if_neg x0]⟩⟩
  · have x0 : x = 0 := Classical.byContradiction (fun z => by
      rw [f2, if_pos rfl, e, if_neg z] at q
      omega)
    exact ⟨r1.xe.cm1 (fun z => (hx.mpr z) x0), by rw [f2, if_pos rfl, e, if_pos x0]⟩
end RCH
