/-! The eight throws. -/
theorem kx_A1 : (Jvm.Cond.classLink "ChanceArena" (117 : Nat) "java/lang/IllegalArgumentException") ∈ lw_R := zR (zk_7 _ (List.mem_of_getElem? (i := 192) rfl)) rfl
theorem kx_A2 : (Jvm.Cond.initialized "java/lang/IllegalArgumentException") ∈ lw_R := zR (zk_1 _ (List.mem_of_getElem? (i := 25) rfl)) rfl
theorem kx_S1 : (Jvm.Cond.classLink "ChanceArena" (149 : Nat) "java/lang/IllegalStateException") ∈ lw_R := zR (zk_7 _ (List.mem_of_getElem? (i := 211) rfl)) rfl
theorem kx_S2 : (Jvm.Cond.initialized "java/lang/IllegalStateException") ∈ lw_R := zR (zk_1 _ (List.mem_of_getElem? (i := 33) rfl)) rfl
theorem kx_B1 : (Jvm.Cond.classLink "ChanceArena" (167 : Nat) "java/lang/IndexOutOfBoundsException") ∈ lw_R := zR (zk_8 _ (List.mem_of_getElem? (i := 47) rfl)) rfl
theorem kx_B2 : (Jvm.Cond.initialized "java/lang/IndexOutOfBoundsException") ∈ lw_R := zR (zk_1 _ (List.mem_of_getElem? (i := 34) rfl)) rfl
theorem dx_CA_end_19 : decode y_CA_end.2.1 19 = .ok (.new 117, 3) := by decide +kernel
theorem dx_CA_end_22 : decode y_CA_end.2.1 22 = .ok (.dup, 1) := by decide +kernel
theorem dx_CA_end_23 : decode y_CA_end.2.1 23 = .ok (.invokespecial 119, 3) := by decide +kernel
theorem dx_CA_end_26 : decode y_CA_end.2.1 26 = .ok (.athrow, 1) := by decide +kernel
theorem dx_CA_explore_7 : decode y_CA_explore.2.1 7 = .ok (.new 149, 3) := by decide +kernel
theorem dx_CA_explore_10 : decode y_CA_explore.2.1 10 = .ok (.dup, 1) := by decide +kernel
theorem dx_CA_explore_11 : decode y_CA_explore.2.1 11 = .ok (.invokespecial 151, 3) := by decide +kernel
theorem dx_CA_explore_14 : decode y_CA_explore.2.1 14 = .ok (.athrow, 1) := by decide +kernel
theorem dx_CA_variable_26 : decode y_CA_variable.2.1 26 = .ok (.new 167, 3) := by decide +kernel
theorem dx_CA_variable_29 : decode y_CA_variable.2.1 29 = .ok (.dup, 1) := by decide +kernel
theorem dx_CA_variable_30 : decode y_CA_variable.2.1 30 = .ok (.invokespecial 169, 3) := by decide +kernel
theorem dx_CA_variable_33 : decode y_CA_variable.2.1 33 = .ok (.athrow, 1) := by decide +kernel
theorem dx_CA_solve_10 : decode y_CA_solve.2.1 10 = .ok (.new 149, 3) := by decide +kernel
theorem dx_CA_solve_13 : decode y_CA_solve.2.1 13 = .ok (.dup, 1) := by decide +kernel
theorem dx_CA_solve_14 : decode y_CA_solve.2.1 14 = .ok (.invokespecial 151, 3) := by decide +kernel
theorem dx_CA_solve_17 : decode y_CA_solve.2.1 17 = .ok (.athrow, 1) := by decide +kernel
theorem dx_CA_within_10 : decode y_CA_within.2.1 10 = .ok (.new 117, 3) := by decide +kernel
theorem dx_CA_within_13 : decode y_CA_within.2.1 13 = .ok (.dup, 1) := by decide +kernel
theorem dx_CA_within_14 : decode y_CA_within.2.1 14 = .ok (.invokespecial 119, 3) := by decide +kernel
theorem dx_CA_within_17 : decode y_CA_within.2.1 17 = .ok (.athrow, 1) := by decide +kernel
theorem dx_CA_within_28 : decode y_CA_within.2.1 28 = .ok (.new 149, 3) := by decide +kernel
theorem dx_CA_within_31 : decode y_CA_within.2.1 31 = .ok (.dup, 1) := by decide +kernel
theorem dx_CA_within_32 : decode y_CA_within.2.1 32 = .ok (.invokespecial 151, 3) := by decide +kernel
theorem dx_CA_within_35 : decode y_CA_within.2.1 35 = .ok (.athrow, 1) := by decide +kernel
theorem dx_CA_choose_13 : decode y_CA_choose.2.1 13 = .ok (.new 167, 3) := by decide +kernel
theorem dx_CA_choose_16 : decode y_CA_choose.2.1 16 = .ok (.dup, 1) := by decide +kernel
theorem dx_CA_choose_17 : decode y_CA_choose.2.1 17 = .ok (.invokespecial 169, 3) := by decide +kernel
theorem dx_CA_choose_20 : decode y_CA_choose.2.1 20 = .ok (.athrow, 1) := by decide +kernel
theorem dx_CA_adopt_10 : decode y_CA_adopt.2.1 10 = .ok (.new 149, 3) := by decide +kernel
theorem dx_CA_adopt_13 : decode y_CA_adopt.2.1 13 = .ok (.dup, 1) := by decide +kernel
theorem dx_CA_adopt_14 : decode y_CA_adopt.2.1 14 = .ok (.invokespecial 151, 3) := by decide +kernel
theorem dx_CA_adopt_17 : decode y_CA_adopt.2.1 17 = .ok (.athrow, 1) := by decide +kernel
theorem dx_CA_judge_10 : decode y_CA_judge.2.1 10 = .ok (.new 117, 3) := by decide +kernel
theorem dx_CA_judge_13 : decode y_CA_judge.2.1 13 = .ok (.dup, 1) := by decide +kernel
theorem dx_CA_judge_14 : decode y_CA_judge.2.1 14 = .ok (.invokespecial 119, 3) := by decide +kernel
theorem dx_CA_judge_17 : decode y_CA_judge.2.1 17 = .ok (.athrow, 1) := by decide +kernel
theorem dx_CA_judge_28 : decode y_CA_judge.2.1 28 = .ok (.new 149, 3) := by decide +kernel
theorem dx_CA_judge_31 : decode y_CA_judge.2.1 31 = .ok (.dup, 1) := by decide +kernel
theorem dx_CA_judge_32 : decode y_CA_judge.2.1 32 = .ok (.invokespecial 151, 3) := by decide +kernel
theorem dx_CA_judge_35 : decode y_CA_judge.2.1 35 = .ok (.athrow, 1) := by decide +kernel
section EIG
variable {G : mG} {d t g p v : Nat} {M : mM} {l l1 l2 : Int}
theorem t_CA_end (hT : TH G) (h6 : 6 ≤ d) (hO : mOk M) (il : i32 l) (kt : mK M t = 1) (c : ¬ (0 ≤ l ∧ l ≤ 20 ∧ 20 ≤ mI M t 1)) : mCt G y_CA_end d [vr t, vi l] M "java/lang/IllegalArgumentException" := by
  refine mCt.of (pc := 19) (ic := 119) (ix := 117) hT rfl (Nat.le_of_ble_eq_true rfl) (L := [vr t, vi l]) rfl (by decide +kernel) zA_IAE kx_A1 kx_A2 dx_CA_end_19 dx_CA_end_22 dx_CA_end_23 dx_CA_end_26 h6 ?_
  refine go_iload_n d_CA_end_0 rfl rfl ?_
  refine go_if_lt (tgt := 19) d_CA_end_1 rfl il (fun _ => mGo.refl) (fun c1 => ?_)
  refine go_iload_n d_CA_end_4 rfl rfl ?_
  refine go_bipush d_CA_end_5 (by decide) ?_
  refine go_icmp_gt (tgt := 19) d_CA_end_7 rfl il ⟨by decide, by decide⟩ (fun _ => mGo.refl) (fun c2 => ?_)
  refine go_aload_n d_CA_end_10 rfl rfl ?_
  refine gg_CA_13 rfl d_CA_end_11 kt ?_
  refine go_bipush d_CA_end_14 (by decide) ?_
  exact go_icmp_ge (tgt := 27) d_CA_end_16 rfl (hO _ _).1 ⟨by decide, by decide⟩ (fun c3 => absurd (⟨by omega, by omega, c3⟩) c) (fun _ => mGo.refl)
theorem t_CA_explore (hT : TH G) (h6 : 6 ≤ d) (hO : mOk M) (kt : mK M t = 1) (c : mI M t 6 = 0) : mCt G y_CA_explore d [vr t] M "java/lang/IllegalStateException" := by
  refine mCt.of (pc := 7) (ic := 151) (ix := 149) hT rfl (Nat.le_of_ble_eq_true rfl) (L := [vr t, vd]) rfl (by decide +kernel) zA_ISE kx_S1 kx_S2 dx_CA_explore_7 dx_CA_explore_10 dx_CA_explore_11 dx_CA_explore_14 h6 ?_
  refine go_aload_n d_CA_explore_0 rfl rfl ?_
  refine gg_CA_41 rfl d_CA_explore_1 kt ?_
  exact go_if_ne (tgt := 15) d_CA_explore_4 rfl (hO _ _).1 (fun q => absurd c q) (fun _ => mGo.refl)
theorem t_CA_solve (hT : TH G) (h6 : 6 ≤ d) (hO : mOk M) (kt : mK M t = 1) (rg : mR M t 9 = g) (kg : mK M g = 7) (c : mI M g 0 = 0) : mCt G y_CA_solve d [vr t] M "java/lang/IllegalStateException" := by
  refine mCt.of (pc := 10) (ic := 151) (ix := 149) hT rfl (Nat.le_of_ble_eq_true rfl) (L := [vr t, vd]) rfl (by decide +kernel) zA_ISE kx_S1 kx_S2 dx_CA_solve_10 dx_CA_solve_13 dx_CA_solve_14 dx_CA_solve_17 h6 ?_
  refine go_aload_n d_CA_solve_0 rfl rfl ?_
  refine gg_CA_54 rfl d_CA_solve_1 kt ?_
  rw [rg]
  refine gg_CA_160 rfl d_CA_solve_4 kg ?_
  exact go_if_ne (tgt := 18) d_CA_solve_7 rfl (hO _ _).1 (fun q => absurd c q) (fun _ => mGo.refl)
theorem t_CA_adopt (hT : TH G) (h6 : 6 ≤ d) (hO : mOk M) (kt : mK M t = 1) (rv : mR M t 11 = v) (kv : mK M v = 13) (c : mI M v 1 = 0) : mCt G y_CA_adopt d [vr t] M "java/lang/IllegalStateException" := by
  refine mCt.of (pc := 10) (ic := 151) (ix := 149) hT rfl (Nat.le_of_ble_eq_true rfl) (L := [vr t, vd]) rfl (by decide +kernel) zA_ISE kx_S1 kx_S2 dx_CA_adopt_10 dx_CA_adopt_13 dx_CA_adopt_14 dx_CA_adopt_17 h6 ?_
  refine go_aload_n d_CA_adopt_0 rfl rfl ?_
  refine gg_CA_70 rfl d_CA_adopt_1 kt ?_
  rw [rv]
  refine gg_CA_137 rfl d_CA_adopt_4 kv ?_
  exact go_if_ne (tgt := 18) d_CA_adopt_7 rfl (hO _ _).1 (fun q => absurd c q) (fun _ => mGo.refl)
theorem t_CA_within1 (hT : TH G) (h6 : 6 ≤ d) (il : i32 l) (c : ¬ (0 ≤ l ∧ l ≤ 32)) : mCt G y_CA_within d [vr t, vi l] M "java/lang/IllegalArgumentException" := by
  refine mCt.of (pc := 10) (ic := 119) (ix := 117) hT rfl (Nat.le_of_ble_eq_true rfl) (L := [vr t, vi l, vd, vd]) rfl (by decide +kernel) zA_IAE kx_A1 kx_A2 dx_CA_within_10 dx_CA_within_13 dx_CA_within_14 dx_CA_within_17 h6 ?_
  refine go_iload_n d_CA_within_0 rfl rfl ?_
  refine go_if_lt (tgt := 10) d_CA_within_1 rfl il (fun _ => mGo.refl) (fun c1 => ?_)
  refine go_iload_n d_CA_within_4 rfl rfl ?_
  refine go_bipush d_CA_within_5 (by decide) ?_
  exact go_icmp_le (tgt := 18) d_CA_within_7 rfl il ⟨by decide, by decide⟩ (fun c2 => absurd ⟨by omega, c2⟩ c) (fun _ => mGo.refl)
theorem t_CA_within2 (hT : TH G) (h6 : 6 ≤ d) (hO : mOk M) (il : i32 l) (c : 0 ≤ l ∧ l ≤ 32) (kt : mK M t = 1) (rg : mR M t 9 = g) (kg : mK M g = 7) (c0 : mI M g 0 = 0) : mCt G y_CA_within d [vr t, vi l] M "java/lang/IllegalStateException" := by
  refine mCt.of (pc := 28) (ic := 151) (ix := 149) hT rfl (Nat.le_of_ble_eq_true rfl) (L := [vr t, vi l, vd, vd]) rfl (by decide +kernel) zA_ISE kx_S1 kx_S2 dx_CA_within_28 dx_CA_within_31 dx_CA_within_32 dx_CA_within_35 h6 ?_
  refine go_iload_n d_CA_within_0 rfl rfl ?_
  refine go_if_lt (tgt := 10) d_CA_within_1 rfl il (fun q => by omega) (fun c1 => ?_)
  refine go_iload_n d_CA_within_4 rfl rfl ?_
  refine go_bipush d_CA_within_5 (by decide) ?_
  refine go_icmp_le (tgt := 18) d_CA_within_7 rfl il ⟨by decide, by decide⟩ (fun _ => ?_) (fun q => by omega)
  refine go_aload_n d_CA_within_18 rfl rfl ?_
  refine gg_CA_54 rfl d_CA_within_19 kt ?_
  rw [rg]
  refine gg_CA_160 rfl d_CA_within_22 kg ?_
  exact go_if_ne (tgt := 36) d_CA_within_25 rfl (hO _ _).1 (fun q => absurd c0 q) (fun _ => mGo.refl)
theorem t_CA_judge1 (hT : TH G) (h6 : 6 ≤ d) (il : i32 l) (c : ¬ (l = 1 ∨ l = 2)) : mCt G y_CA_judge d [vr t, vi l] M "java/lang/IllegalArgumentException" := by
  refine mCt.of (pc := 10) (ic := 119) (ix := 117) hT rfl (Nat.le_of_ble_eq_true rfl) (L := [vr t, vi l]) rfl (by decide +kernel) zA_IAE kx_A1 kx_A2 dx_CA_judge_10 dx_CA_judge_13 dx_CA_judge_14 dx_CA_judge_17 h6 ?_
  refine go_iload_n d_CA_judge_0 rfl rfl ?_
  refine go_iconst d_CA_judge_1 ?_
  refine go_icmp_eq (tgt := 18) d_CA_judge_2 rfl il ⟨by decide, by decide⟩ (fun q => absurd (Or.inl q) c) (fun _ => ?_)
  refine go_iload_n d_CA_judge_5 rfl rfl ?_
  refine go_iconst d_CA_judge_6 ?_
  exact go_icmp_eq (tgt := 18) d_CA_judge_7 rfl il ⟨by decide, by decide⟩ (fun q => absurd (Or.inr q) c) (fun _ => mGo.refl)
theorem t_CA_judge2 (hT : TH G) (h6 : 6 ≤ d) (hO : mOk M) (il : i32 l) (c : l = 1 ∨ l = 2) (kt : mK M t = 1) (rg : mR M t 9 = g) (kg : mK M g = 7) (c0 : mI M g 0 = 0) : mCt G y_CA_judge d [vr t, vi l] M "java/lang/IllegalStateException" := by
  refine mCt.of (pc := 28) (ic := 151) (ix := 149) hT rfl (Nat.le_of_ble_eq_true rfl) (L := [vr t, vi l]) rfl (by decide +kernel) zA_ISE kx_S1 kx_S2 dx_CA_judge_28 dx_CA_judge_31 dx_CA_judge_32 dx_CA_judge_35 h6 ?_
  have fin : mGo G y_CA_judge d [vr t, vi l] M 18 [] 28 [] := by
    refine go_aload_n d_CA_judge_18 rfl rfl ?_
    refine gg_CA_54 rfl d_CA_judge_19 kt ?_
    rw [rg]
    refine gg_CA_160 rfl d_CA_judge_22 kg ?_
    exact go_if_ne (tgt := 36) d_CA_judge_25 rfl (hO _ _).1 (fun q => absurd c0 q) (fun _ => mGo.refl)
  refine go_iload_n d_CA_judge_0 rfl rfl ?_
  refine go_iconst d_CA_judge_1 ?_
  refine go_icmp_eq (tgt := 18) d_CA_judge_2 rfl il ⟨by decide, by decide⟩ (fun _ => fin) (fun q => ?_)
  refine go_iload_n d_CA_judge_5 rfl rfl ?_
  refine go_iconst d_CA_judge_6 ?_
  exact go_icmp_eq (tgt := 18) d_CA_judge_7 rfl il ⟨by decide, by decide⟩ (fun _ => fin) (fun q' => absurd c (fun u => u.elim q q'))
theorem t_CA_variable (hT : TH G) (h6 : 6 ≤ d) (hO : mOk M) (i1 : i32 l1) (i2 : i32 l2) (kt : mK M t = 1) (rg : mR M t 9 = g) (kg : mK M g = 7) (rp : mR M t 4 = p) (kp : mK M p = 6) (c : ¬ ((0 ≤ l1 ∧ l1 < mI M g 0) ∧ (0 ≤ l2 ∧ l2 < mI M p 3))) : mCt G y_CA_variable (d + 1) [vr t, vi l1, vi l2] M "java/lang/IndexOutOfBoundsException" := by
  have h6 : 6 ≤ d + 1 := by omega
  refine mCt.of (pc := 26) (ic := 169) (ix := 167) hT rfl (Nat.le_of_ble_eq_true rfl) (L := [vr t, vi l1, vi l2]) rfl (by decide +kernel) zA_IOB kx_B1 kx_B2 dx_CA_variable_26 dx_CA_variable_29 dx_CA_variable_30 dx_CA_variable_33 h6 ?_
  refine go_aload_n d_CA_variable_0 rfl rfl ?_
  refine gg_CA_54 rfl d_CA_variable_1 kt ?_
  rw [rg]
  refine go_iload_n d_CA_variable_4 rfl rfl ?_
  have hs := p_Ga_hasState (G := G) (d := d) hO i1 kg
  refine go_callP (y2 := y_Ga_hasState) (c := 6) (n := 1) (As := [vi l1]) rfl rfl rfl k5_149 k5_150 k5_151 k1_7 k5_152 ⟨by decide, by decide, by decide +kernel⟩ (by decide) rfl rfl (Nat.le_of_ble_eq_true rfl) d_CA_variable_5 kg hs ?_
  by_cases c1 : 0 ≤ l1 ∧ l1 < mI M g 0
  · rw [if_pos c1]
    refine go_if_eq (tgt := 26) d_CA_variable_8 rfl ⟨by decide, by decide⟩ (fun _ => mGo.refl) (fun _ => ?_)
    refine go_iload_n d_CA_variable_11 rfl rfl ?_
    refine go_if_lt (tgt := 26) d_CA_variable_12 rfl i2 (fun _ => mGo.refl) (fun c2 => ?_)
    refine go_iload_n d_CA_variable_15 rfl rfl ?_
    refine go_aload_n d_CA_variable_16 rfl rfl ?_
    refine gg_CA_34 rfl d_CA_variable_17 kt ?_
    rw [rp]
    refine gg_CA_140 rfl d_CA_variable_20 kp ?_
    exact go_icmp_lt (tgt := 34) d_CA_variable_23 rfl i2 (hO _ _).1 (fun c3 => absurd ⟨c1, by omega, c3⟩ c) (fun _ => mGo.refl)
  · rw [if_neg c1]
    exact go_if_eq (tgt := 26) d_CA_variable_8 rfl ⟨by decide, by decide⟩ (fun _ => mGo.refl) (fun q => absurd rfl q)
theorem p_Ga_commandAt {F : Nat} (hO : mOk M) (i1 : i32 l1) (i2 : i32 l2) (kg : mK M g = 7) (r4 : mR M g 4 = F) (kF : mK M F = 30) (nF : mI M g 0 < mN M F) (iF : (0 ≤ l1 ∧ l1 < mI M g 0) → i32 (mI M F (l1 + 1).toNat - mI M F l1.toNat)) (c : ¬ ((0 ≤ l1 ∧ l1 < mI M g 0) ∧ 0 ≤ l2 ∧ l2 < mI M F (l1 + 1).toNat - mI M F l1.toNat)) : mCp G y_Ga_commandAt (d + 1) [vr g, vi l1, vi l2] M (-1) := by
  refine mCp.of (pc := 32) rfl (Nat.le_of_ble_eq_true rfl) (L := [vr g, vi l1, vi l2]) rfl d_Ga_commandAt_32 rfl rfl ?_
  have fin : mGo G y_Ga_commandAt (d + 1) [vr g, vi l1, vi l2] M 31 [] 32 [vi (-1)] := go_iconst d_Ga_commandAt_31 mGo.refl
  refine go_aload_n d_Ga_commandAt_0 rfl rfl ?_
  refine go_iload_n d_Ga_commandAt_1 rfl rfl ?_
  have hs := p_Ga_hasState (G := G) (d := d) hO i1 kg
  refine go_callP (y2 := y_Ga_hasState) (c := 6) (n := 1) (As := [vi l1]) rfl rfl rfl k5_165 k5_150 k5_151 k1_7 k5_152 ⟨by decide, by decide, by decide +kernel⟩ (by decide) rfl rfl (Nat.le_of_ble_eq_true rfl) d_Ga_commandAt_2 kg hs ?_
  by_cases c1 : 0 ≤ l1 ∧ l1 < mI M g 0
  · rw [if_pos c1]
    have i1' := iF c1
    refine go_if_eq (tgt := 31) d_Ga_commandAt_5 rfl ⟨by decide, by decide⟩ (fun _ => fin) (fun _ => ?_)
    refine go_iload_n d_Ga_commandAt_8 rfl rfl ?_
    refine go_if_lt (tgt := 31) d_Ga_commandAt_9 rfl i2 (fun _ => fin) (fun c2 => ?_)
    refine go_iload_n d_Ga_commandAt_12 rfl rfl ?_
    refine go_aload_n d_Ga_commandAt_13 rfl rfl ?_
    refine gg_Ga_21 rfl d_Ga_commandAt_14 kg ?_
    rw [r4]
    refine go_iload_n d_Ga_commandAt_17 rfl rfl ?_
    refine go_iconst d_Ga_commandAt_18 ?_
    refine go_iadd d_Ga_commandAt_19 ?_
    refine go_iald d_Ga_commandAt_20 kF ⟨by omega, by omega⟩ ?_
    refine go_aload_n d_Ga_commandAt_21 rfl rfl ?_
    refine gg_Ga_21 rfl d_Ga_commandAt_22 kg ?_
    rw [r4]
    refine go_iload_n d_Ga_commandAt_25 rfl rfl ?_
    refine go_iald d_Ga_commandAt_26 kF ⟨by omega, by omega⟩ ?_
    refine go_isub d_Ga_commandAt_27 ?_
    exact go_icmp_lt (tgt := 33) d_Ga_commandAt_28 rfl i2 i1' (fun c3 => absurd ⟨c1, by omega, c3⟩ c) (fun _ => fin)
  · rw [if_neg c1]
    exact go_if_eq (tgt := 31) d_Ga_commandAt_5 rfl ⟨by decide, by decide⟩ (fun _ => fin) (fun q => absurd rfl q)
theorem t_CA_choose {F : Nat} (hT : TH G) (h6 : 6 ≤ d) (hO : mOk M) (i1 : i32 l1) (i2 : i32 l2) (kt : mK M t = 1) (rg : mR M t 9 = g) (kg : mK M g = 7) (r4 : mR M g 4 = F) (kF : mK M F = 30) (nF : mI M g 0 < mN M F) (iF : (0 ≤ l1 ∧ l1 < mI M g 0) → i32 (mI M F (l1 + 1).toNat - mI M F l1.toNat)) (c : ¬ ((0 ≤ l1 ∧ l1 < mI M g 0) ∧ 0 ≤ l2 ∧ l2 < mI M F (l1 + 1).toNat - mI M F l1.toNat)) : mCt G y_CA_choose (d + 2) [vr t, vi l1, vi l2] M "java/lang/IndexOutOfBoundsException" := by
  have h6 : 6 ≤ d + 2 := by omega
  refine mCt.of (pc := 13) (ic := 169) (ix := 167) hT rfl (Nat.le_of_ble_eq_true rfl) (L := [vr t, vi l1, vi l2]) rfl (by decide +kernel) zA_IOB kx_B1 kx_B2 dx_CA_choose_13 dx_CA_choose_16 dx_CA_choose_17 dx_CA_choose_20 h6 ?_
  refine go_aload_n d_CA_choose_0 rfl rfl ?_
  refine gg_CA_54 rfl d_CA_choose_1 kt ?_
  rw [rg]
  refine go_iload_n d_CA_choose_4 rfl rfl ?_
  refine go_iload_n d_CA_choose_5 rfl rfl ?_
  have hs := p_Ga_commandAt (G := G) (d := d) hO i1 i2 kg r4 kF nF iF c
  refine go_callP (y2 := y_Ga_commandAt) (c := 6) (n := 2) (As := [vi l1, vi l2]) rfl rfl rfl k5_161 k5_162 k5_163 k1_7 k5_164 ⟨by decide, by decide, by decide +kernel⟩ (by decide) rfl rfl (Nat.le_of_ble_eq_true rfl) d_CA_choose_6 kg hs ?_
  refine go_iconst d_CA_choose_9 ?_
  exact go_icmp_ne (tgt := 21) d_CA_choose_10 rfl ⟨by decide, by decide⟩ ⟨by decide, by decide⟩ (fun q => absurd rfl q) (fun _ => mGo.refl)
end EIG
