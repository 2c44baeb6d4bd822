section
section
variable {G : mG} {d p : Nat} {M : mM}
theorem s_MN_add {v : Int} (hv : i32 v) (hO : mOk M) (hN : Nu M p) (hsz : ln M p ≤ 32768) : Cv G y_MN_add d [vr p, vi v] M (adQ M p v) := s_MN_addB (B := 32768) hv hO hN hsz (by decide)
theorem s_MN_at {j : Nat} (hO : mOk M) (hN : Nu M p) (hj : (j : Int) < ln M p) : Ci G y_MN_at d [vr p, vi j] M (fun x M' => M' = M ∧ x = nt M p j) := by
  obtain ⟨h1, h2, -, ⟨h5, h5'⟩, ⟨h6, h7, h8⟩⟩ := id hN
  unfold ln at hj
  have ecp : mN M (mR M p 0) = cp M p := rfl
  refine k_MN_at hO ⟨by omega, by omega⟩ ⟨h1, h2, by omega, rfl, ?_⟩
  rw [Int.toNat_natCast]
  rfl
theorem s_MN_last (hO : mOk M) (hN : Nu M p) (hj : 0 < ln M p) : Ci G y_MN_last d [vr p] M (fun x M' => M' = M ∧ x = nt M p (ln M p - 1).toNat) := by
  obtain ⟨h1, h2, -, ⟨h5, h5'⟩, ⟨h6, h7, h8⟩⟩ := id hN
  unfold ln at hj ⊢
  have ecp : mN M (mR M p 0) = cp M p := rfl
  exact k_MN_last hO ⟨h1, h2, by omega, rfl, rfl⟩
/-- what taking leaves behind -/
def tkQ (M : mM) (p : Nat) (x : Int) (M' : mM) : Prop := mOk M' ∧ Nu M' p ∧ FI (fun y => y = p) M M' ∧ ln M' p = ln M p - 1 ∧ (∀ j, nt M' p j = nt M p j) ∧ x = nt M p (ln M p - 1).toNat
theorem nu_set {M' : mM} {v : Int} (hN : Nu M p) (h0 : 0 ≤ v) (h1 : v ≤ mI M p 1) (e : M' = mUI M p 1 v) : Nu M' p ∧ FI (fun y => y = p) M M' ∧ ln M' p = v ∧ (∀ j, nt M' p j = nt M p j) ∧ cp M' p = cp M p := by
  obtain ⟨g1, g2, g3, ⟨h5, h5'⟩, h6⟩ := id hN
  have f : FI (fun y => y = p) M M' := by rw [e]; exact FI.ui rfl
  have hne : mR M p 0 ≠ p := fun w => by rw [w, g1] at g2; omega
  have er : mR M' p 0 = mR M p 0 := by rw [e]; rfl
  have ec : cp M' p = cp M p := by unfold cp; rw [er, e]; rfl
  have il : mI M' p 1 = v := by rw [e, mI_UI, if_pos ⟨rfl, rfl⟩]
  refine ⟨⟨by rw [f.1]; exact g1, by rw [er, f.1]; exact g2, by rw [er, f.2.2.2.2.1]; exact g3, by rw [il, ec]; omega, by rw [ec]; exact h6⟩, f, il, fun j => ?_, ec⟩
  unfold nt
  rw [er, f.2.2.2.2.2.2 _ hne]
theorem s_MN_take (hO : mOk M) (hN : Nu M p) (hj : 0 < ln M p) : Ci G y_MN_take d [vr p] M (tkQ M p) := by
  obtain ⟨h1, h2, -, ⟨h5, h5'⟩, ⟨h6, h7, h8⟩⟩ := id hN
  unfold ln at hj
  have ecp : mN M (mR M p 0) = cp M p := rfl
  refine k_MN_take hO ⟨h1, ⟨by omega, by omega⟩, fun M1 e1 => ?_⟩
  obtain ⟨a1, a2, a3, a4, a5⟩ := nu_set hN (v := mI M p 1 - 1) (by omega) (by omega) e1
  have o1 : mOk M1 := by rw [e1]; exact mOk_UI hO ⟨by omega, by omega⟩
  have hl : mI M1 p 1 = mI M p 1 - 1 := a3
  have ecp1 : mN M1 (mR M1 p 0) = cp M1 p := rfl
  rw [hl]
  exact ⟨a1.2.1, by omega, o1, a1, a2, a3, a4, (a4 _)⟩
end
end
