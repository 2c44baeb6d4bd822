/-! The law's helpers where nothing is thrown. -/
theorem n_La_end {G : mG} {M : mM} {d t o : Nat} {l l1 l2 : Int} {Q0 : Int → mM → Prop} (kt : mK M t = 1) (h : Ci G y_CA_end d [vr t, vi l] M Q0) (hq : ∀ r M1, Q0 r M1 → i32 r ∧ mK M1 o = 33 ∧ 0 < mN M1 o) : CiW G y_La_end hs_end (d + 1) [vr t, vi l, vr o] M (fun x M2 => x = 0 ∧ ∃ r M1, Q0 r M1 ∧ M2 = mUL M1 o 0 r) := by
  refine wm_openW rfl (Nat.le_of_ble_eq_true rfl) (L := [vr t, vi l, vr o, vd]) rfl ?_
  refine wm_aload_n d_La_end_0 rfl rfl ?_
  refine wm_iconst d_La_end_1 ?_
  refine wm_aload_n d_La_end_2 rfl rfl ?_
  refine wm_iload_n d_La_end_3 rfl rfl ?_
  refine wm_callV (y2 := y_CA_end) (c := 0) (n := 1) (As := [vi l]) rfl rfl rfl kh_7_176 kh_7_177 kh_7_178 k1_1 kh_7_179 ⟨by decide, by decide, by decide +kernel⟩ (by decide) rfl rfl (Nat.le_of_ble_eq_true rfl) d_La_end_4 kt ?_
  refine mCm.mono h (fun r9 M1 q => ?_)
  obtain ⟨r, rfl, q⟩ := q
  obtain ⟨ir, ko, no⟩ := hq r M1 q
  refine wm_i2l d_La_end_7 ir ?_
  refine wm_last d_La_end_8 ko ⟨by decide, by omega⟩ ⟨by have := ir.1; omega, by have := ir.2; omega⟩ ?_
  refine wm_goto (tgt := 15) d_La_end_9 rfl ?_
  refine wm_iconst d_La_end_15 ?_
  refine wm_ireturn d_La_end_16 rfl rfl ?_
  exact ⟨_, rfl, rfl, r, M1, q, rfl⟩
theorem n_La_explore {G : mG} {M : mM} {d t o : Nat} {l l1 l2 : Int} {Q0 : Int → mM → Prop} (kt : mK M t = 1) (h : Ci G y_CA_explore d [vr t] M Q0) (hq : ∀ r M1, Q0 r M1 → i32 r ∧ mK M1 o = 33 ∧ 0 < mN M1 o) : CiW G y_La_explore hs_explore (d + 1) [vr t, vr o] M (fun x M2 => x = 0 ∧ ∃ r M1, Q0 r M1 ∧ M2 = mUL M1 o 0 r) := by
  refine wm_openW rfl (Nat.le_of_ble_eq_true rfl) (L := [vr t, vr o, vd]) rfl ?_
  refine wm_aload_n d_La_explore_0 rfl rfl ?_
  refine wm_iconst d_La_explore_1 ?_
  refine wm_aload_n d_La_explore_2 rfl rfl ?_
  refine wm_callV (y2 := y_CA_explore) (c := 0) (n := 0) (As := []) rfl rfl rfl kh_7_195 kh_7_196 kh_7_197 k1_1 kh_7_198 ⟨by decide, by decide, by decide +kernel⟩ (by decide) rfl rfl (Nat.le_of_ble_eq_true rfl) d_La_explore_3 kt ?_
  refine mCm.mono h (fun r9 M1 q => ?_)
  obtain ⟨r, rfl, q⟩ := q
  obtain ⟨ir, ko, no⟩ := hq r M1 q
  refine wm_i2l d_La_explore_6 ir ?_
  refine wm_last d_La_explore_7 ko ⟨by decide, by omega⟩ ⟨by have := ir.1; omega, by have := ir.2; omega⟩ ?_
  refine wm_goto (tgt := 14) d_La_explore_8 rfl ?_
  refine wm_iconst d_La_explore_14 ?_
  refine wm_ireturn d_La_explore_15 rfl rfl ?_
  exact ⟨_, rfl, rfl, r, M1, q, rfl⟩
theorem n_La_variable {G : mG} {M : mM} {d t o : Nat} {l l1 l2 : Int} {Q0 : Int → mM → Prop} (kt : mK M t = 1) (h : Ci G y_CA_variable d [vr t, vi l1, vi l2] M Q0) (hq : ∀ r M1, Q0 r M1 → i32 r ∧ mK M1 o = 33 ∧ 0 < mN M1 o) : CiW G y_La_variable hs_variable (d + 1) [vr t, vi l1, vi l2, vr o] M (fun x M2 => x = 0 ∧ ∃ r M1, Q0 r M1 ∧ M2 = mUL M1 o 0 r) := by
  refine wm_openW rfl (Nat.le_of_ble_eq_true rfl) (L := [vr t, vi l1, vi l2, vr o, vd]) rfl ?_
  refine wm_aload_n d_La_variable_0 rfl rfl ?_
  refine wm_iconst d_La_variable_1 ?_
  refine wm_aload_n d_La_variable_2 rfl rfl ?_
  refine wm_iload_n d_La_variable_3 rfl rfl ?_
  refine wm_iload_n d_La_variable_4 rfl rfl ?_
  refine wm_callV (y2 := y_CA_variable) (c := 0) (n := 2) (As := [vi l1, vi l2]) rfl rfl rfl kh_8_31 kh_8_32 kh_8_33 k1_1 kh_8_34 ⟨by decide, by decide, by decide +kernel⟩ (by decide) rfl rfl (Nat.le_of_ble_eq_true rfl) d_La_variable_5 kt ?_
  refine mCm.mono h (fun r9 M1 q => ?_)
  obtain ⟨r, rfl, q⟩ := q
  obtain ⟨ir, ko, no⟩ := hq r M1 q
  refine wm_i2l d_La_variable_8 ir ?_
  refine wm_last d_La_variable_9 ko ⟨by decide, by omega⟩ ⟨by have := ir.1; omega, by have := ir.2; omega⟩ ?_
  refine wm_goto (tgt := 17) d_La_variable_10 rfl ?_
  refine wm_iconst d_La_variable_17 ?_
  refine wm_ireturn d_La_variable_18 rfl rfl ?_
  exact ⟨_, rfl, rfl, r, M1, q, rfl⟩
theorem n_La_solve {G : mG} {M : mM} {d t o : Nat} {l l1 l2 : Int} {Q0 : Int → mM → Prop} (kt : mK M t = 1) (h : Ci G y_CA_solve d [vr t] M Q0) (hq : ∀ r M1, Q0 r M1 → i32 r ∧ mK M1 o = 33 ∧ 0 < mN M1 o) : CiW G y_La_solve hs_solve (d + 1) [vr t, vr o] M (fun x M2 => x = 0 ∧ ∃ r M1, Q0 r M1 ∧ M2 = mUL M1 o 0 r) := by
  refine wm_openW rfl (Nat.le_of_ble_eq_true rfl) (L := [vr t, vr o, vd]) rfl ?_
  refine wm_aload_n d_La_solve_0 rfl rfl ?_
  refine wm_iconst d_La_solve_1 ?_
  refine wm_aload_n d_La_solve_2 rfl rfl ?_
  refine wm_callV (y2 := y_CA_solve) (c := 0) (n := 0) (As := []) rfl rfl rfl kh_8_53 kh_8_54 kh_8_55 k1_1 kh_8_56 ⟨by decide, by decide, by decide +kernel⟩ (by decide) rfl rfl (Nat.le_of_ble_eq_true rfl) d_La_solve_3 kt ?_
  refine mCm.mono h (fun r9 M1 q => ?_)
  obtain ⟨r, rfl, q⟩ := q
  obtain ⟨ir, ko, no⟩ := hq r M1 q
  refine wm_i2l d_La_solve_6 ir ?_
  refine wm_last d_La_solve_7 ko ⟨by decide, by omega⟩ ⟨by have := ir.1; omega, by have := ir.2; omega⟩ ?_
  refine wm_goto (tgt := 14) d_La_solve_8 rfl ?_
  refine wm_iconst d_La_solve_14 ?_
  refine wm_ireturn d_La_solve_15 rfl rfl ?_
  exact ⟨_, rfl, rfl, r, M1, q, rfl⟩
theorem n_La_within {G : mG} {M : mM} {d t o : Nat} {l l1 l2 : Int} {Q0 : Int → mM → Prop} (kt : mK M t = 1) (h : Ci G y_CA_within d [vr t, vi l] M Q0) (hq : ∀ r M1, Q0 r M1 → i32 r ∧ mK M1 o = 33 ∧ 0 < mN M1 o) : CiW G y_La_within hs_within (d + 1) [vr t, vi l, vr o] M (fun x M2 => x = 0 ∧ ∃ r M1, Q0 r M1 ∧ M2 = mUL M1 o 0 r) := by
  refine wm_openW rfl (Nat.le_of_ble_eq_true rfl) (L := [vr t, vi l, vr o, vd]) rfl ?_
  refine wm_aload_n d_La_within_0 rfl rfl ?_
  refine wm_iconst d_La_within_1 ?_
  refine wm_aload_n d_La_within_2 rfl rfl ?_
  refine wm_iload_n d_La_within_3 rfl rfl ?_
  refine wm_callV (y2 := y_CA_within) (c := 0) (n := 1) (As := [vi l]) rfl rfl rfl kh_8_160 kh_8_161 kh_8_162 k1_1 kh_8_163 ⟨by decide, by decide, by decide +kernel⟩ (by decide) rfl rfl (Nat.le_of_ble_eq_true rfl) d_La_within_4 kt ?_
  refine mCm.mono h (fun r9 M1 q => ?_)
  obtain ⟨r, rfl, q⟩ := q
  obtain ⟨ir, ko, no⟩ := hq r M1 q
  refine wm_i2l d_La_within_7 ir ?_
  refine wm_last d_La_within_8 ko ⟨by decide, by omega⟩ ⟨by have := ir.1; omega, by have := ir.2; omega⟩ ?_
  refine wm_goto (tgt := 18) d_La_within_9 rfl ?_
  refine wm_iconst d_La_within_18 ?_
  refine wm_ireturn d_La_within_19 rfl rfl ?_
  exact ⟨_, rfl, rfl, r, M1, q, rfl⟩
theorem n_La_choose {G : mG} {M : mM} {d t : Nat} {l l1 l2 : Int} {Q0 : mM → Prop} (kt : mK M t = 1) (h : Cv G y_CA_choose d [vr t, vi l1, vi l2] M Q0) : CiW G y_La_choose hs_choose (d + 1) [vr t, vi l1, vi l2] M (fun x M2 => x = 0 ∧ Q0 M2) := by
  refine wm_openW rfl (Nat.le_of_ble_eq_true rfl) (L := [vr t, vi l1, vi l2, vd]) rfl ?_
  refine wm_aload_n d_La_choose_0 rfl rfl ?_
  refine wm_iload_n d_La_choose_1 rfl rfl ?_
  refine wm_iload_n d_La_choose_2 rfl rfl ?_
  refine wm_callV (y2 := y_CA_choose) (c := 0) (n := 2) (As := [vi l1, vi l2]) rfl rfl rfl kh_8_180 kh_8_181 kh_8_182 k1_1 kh_8_183 ⟨by decide, by decide, by decide +kernel⟩ (by decide) rfl rfl (Nat.le_of_ble_eq_true rfl) d_La_choose_3 kt ?_
  refine mCm.mono h (fun r9 M1 q => ?_)
  obtain ⟨rfl, q⟩ := q
  refine wm_goto (tgt := 12) d_La_choose_6 rfl ?_
  refine wm_iconst d_La_choose_12 ?_
  refine wm_ireturn d_La_choose_13 rfl rfl ?_
  exact ⟨_, rfl, rfl, q⟩
theorem n_La_adopt {G : mG} {M : mM} {d t : Nat} {l l1 l2 : Int} {Q0 : mM → Prop} (kt : mK M t = 1) (h : Cv G y_CA_adopt d [vr t] M Q0) : CiW G y_La_adopt hs_adopt (d + 1) [vr t] M (fun x M2 => x = 0 ∧ Q0 M2) := by
  refine wm_openW rfl (Nat.le_of_ble_eq_true rfl) (L := [vr t, vd]) rfl ?_
  refine wm_aload_n d_La_adopt_0 rfl rfl ?_
  refine wm_callV (y2 := y_CA_adopt) (c := 0) (n := 0) (As := []) rfl rfl rfl kh_8_187 kh_8_188 kh_8_189 k1_1 kh_8_190 ⟨by decide, by decide, by decide +kernel⟩ (by decide) rfl rfl (Nat.le_of_ble_eq_true rfl) d_La_adopt_1 kt ?_
  refine mCm.mono h (fun r9 M1 q => ?_)
  obtain ⟨rfl, q⟩ := q
  refine wm_goto (tgt := 10) d_La_adopt_4 rfl ?_
  refine wm_iconst d_La_adopt_10 ?_
  refine wm_ireturn d_La_adopt_11 rfl rfl ?_
  exact ⟨_, rfl, rfl, q⟩
theorem n_La_judge {G : mG} {M : mM} {d t o : Nat} {l l1 l2 : Int} {Q0 : Int → mM → Prop} (kt : mK M t = 1) (h : Ci G y_CA_judge d [vr t, vi l] M Q0) (hq : ∀ r M1, Q0 r M1 → i32 r ∧ mK M1 o = 33 ∧ 0 < mN M1 o) : CiW G y_La_judge hs_judge (d + 1) [vr t, vi l, vr o] M (fun x M2 => x = 0 ∧ ∃ r M1, Q0 r M1 ∧ M2 = mUL M1 o 0 r) := by
  refine wm_openW rfl (Nat.le_of_ble_eq_true rfl) (L := [vr t, vi l, vr o, vd]) rfl ?_
  refine wm_aload_n d_La_judge_0 rfl rfl ?_
  refine wm_iconst d_La_judge_1 ?_
  refine wm_aload_n d_La_judge_2 rfl rfl ?_
  refine wm_iload_n d_La_judge_3 rfl rfl ?_
  refine wm_callV (y2 := y_CA_judge) (c := 0) (n := 1) (As := [vi l]) rfl rfl rfl kh_8_195 kh_8_196 kh_8_197 k1_1 kh_8_198 ⟨by decide, by decide, by decide +kernel⟩ (by decide) rfl rfl (Nat.le_of_ble_eq_true rfl) d_La_judge_4 kt ?_
  refine mCm.mono h (fun r9 M1 q => ?_)
  obtain ⟨r, rfl, q⟩ := q
  obtain ⟨ir, ko, no⟩ := hq r M1 q
  refine wm_i2l d_La_judge_7 ir ?_
  refine wm_last d_La_judge_8 ko ⟨by decide, by omega⟩ ⟨by have := ir.1; omega, by have := ir.2; omega⟩ ?_
  refine wm_goto (tgt := 18) d_La_judge_9 rfl ?_
  refine wm_iconst d_La_judge_18 ?_
  refine wm_ireturn d_La_judge_19 rfl rfl ?_
  exact ⟨_, rfl, rfl, r, M1, q, rfl⟩
