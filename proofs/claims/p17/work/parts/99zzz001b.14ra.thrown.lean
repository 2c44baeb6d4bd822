/-! The reference's thrown(). -/
theorem s_MM_thrown {G : mG} {d a : Nat} {M : mM} (ka : mK M a = 14) : Ci G y_MM_thrown d [vr a] M (fun r M' => M' = M ∧ r = mI M a 0) := by
  refine wm_open (y := y_MM_thrown) rfl (Nat.le_of_ble_eq_true rfl) (L := [vr a]) rfl ?_
  refine wm_aload_n d_MM_thrown_0 rfl rfl ?_
  refine gf_MM_142 rfl d_MM_thrown_1 ka ?_
  exact wm_ireturn d_MM_thrown_4 rfl rfl ⟨_, rfl, rfl, rfl⟩
