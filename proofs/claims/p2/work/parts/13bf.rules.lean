theorem d_JI_nlz_0 : decode y_JI_nlz.2.1 0 = .ok (.iload_n 0, 1) := by decide +kernel
theorem d_JI_nlz_1 : decode y_JI_nlz.2.1 1 = .ok (.ifCond .gt 14, 3) := by decide +kernel
theorem d_JI_nlz_15 : decode y_JI_nlz.2.1 15 = .ok (.bipush 31, 2) := by decide +kernel
theorem d_JI_nlz_17 : decode y_JI_nlz.2.1 17 = .ok (.istore_n 1, 1) := by decide +kernel
theorem d_JI_nlz_18 : decode y_JI_nlz.2.1 18 = .ok (.iload_n 0, 1) := by decide +kernel
theorem d_JI_nlz_19 : decode y_JI_nlz.2.1 19 = .ok (.ldc_w 264, 3) := by decide +kernel
theorem d_JI_nlz_4 : decode y_JI_nlz.2.1 4 = .ok (.iload_n 0, 1) := by decide +kernel
theorem d_JI_nlz_5 : decode y_JI_nlz.2.1 5 = .ok (.ifCond .ne 8, 3) := by decide +kernel
theorem d_JI_nlz_8 : decode y_JI_nlz.2.1 8 = .ok (.bipush 32, 2) := by decide +kernel
theorem d_JI_nlz_10 : decode y_JI_nlz.2.1 10 = .ok (.goto 4, 3) := by decide +kernel
theorem d_JI_nlz_14 : decode y_JI_nlz.2.1 14 = .ok (.ireturn, 1) := by decide +kernel
theorem d_JI_nlz_13 : decode y_JI_nlz.2.1 13 = .ok (.iconst 0, 1) := by decide +kernel
theorem d_JI_nlz_22 : decode y_JI_nlz.2.1 22 = .ok (.if_icmp .lt 11, 3) := by decide +kernel
theorem d_JI_nlz_25 : decode y_JI_nlz.2.1 25 = .ok (.iinc 1 (-16), 3) := by decide +kernel
theorem d_JI_nlz_28 : decode y_JI_nlz.2.1 28 = .ok (.iload_n 0, 1) := by decide +kernel
theorem d_JI_nlz_29 : decode y_JI_nlz.2.1 29 = .ok (.bipush 16, 2) := by decide +kernel
theorem d_JI_nlz_31 : decode y_JI_nlz.2.1 31 = .ok (.iushr, 1) := by decide +kernel
theorem d_JI_nlz_32 : decode y_JI_nlz.2.1 32 = .ok (.istore_n 0, 1) := by decide +kernel
theorem d_JI_nlz_33 : decode y_JI_nlz.2.1 33 = .ok (.iload_n 0, 1) := by decide +kernel
theorem d_JI_nlz_34 : decode y_JI_nlz.2.1 34 = .ok (.sipush 256, 3) := by decide +kernel
theorem d_JI_nlz_37 : decode y_JI_nlz.2.1 37 = .ok (.if_icmp .lt 11, 3) := by decide +kernel
theorem d_JI_nlz_40 : decode y_JI_nlz.2.1 40 = .ok (.iinc 1 (-8), 3) := by decide +kernel
theorem d_JI_nlz_43 : decode y_JI_nlz.2.1 43 = .ok (.iload_n 0, 1) := by decide +kernel
theorem d_JI_nlz_44 : decode y_JI_nlz.2.1 44 = .ok (.bipush 8, 2) := by decide +kernel
theorem d_JI_nlz_46 : decode y_JI_nlz.2.1 46 = .ok (.iushr, 1) := by decide +kernel
theorem d_JI_nlz_47 : decode y_JI_nlz.2.1 47 = .ok (.istore_n 0, 1) := by decide +kernel
theorem d_JI_nlz_48 : decode y_JI_nlz.2.1 48 = .ok (.iload_n 0, 1) := by decide +kernel
theorem d_JI_nlz_49 : decode y_JI_nlz.2.1 49 = .ok (.bipush 16, 2) := by decide +kernel
theorem d_JI_nlz_51 : decode y_JI_nlz.2.1 51 = .ok (.if_icmp .lt 10, 3) := by decide +kernel
theorem d_JI_nlz_54 : decode y_JI_nlz.2.1 54 = .ok (.iinc 1 (-4), 3) := by decide +kernel
theorem d_JI_nlz_57 : decode y_JI_nlz.2.1 57 = .ok (.iload_n 0, 1) := by decide +kernel
theorem d_JI_nlz_58 : decode y_JI_nlz.2.1 58 = .ok (.iconst 4, 1) := by decide +kernel
theorem d_JI_nlz_59 : decode y_JI_nlz.2.1 59 = .ok (.iushr, 1) := by decide +kernel
theorem d_JI_nlz_60 : decode y_JI_nlz.2.1 60 = .ok (.istore_n 0, 1) := by decide +kernel
theorem d_JI_nlz_61 : decode y_JI_nlz.2.1 61 = .ok (.iload_n 0, 1) := by decide +kernel
theorem d_JI_nlz_62 : decode y_JI_nlz.2.1 62 = .ok (.iconst 4, 1) := by decide +kernel
theorem d_JI_nlz_63 : decode y_JI_nlz.2.1 63 = .ok (.if_icmp .lt 10, 3) := by decide +kernel
theorem d_JI_nlz_66 : decode y_JI_nlz.2.1 66 = .ok (.iinc 1 (-2), 3) := by decide +kernel
theorem d_JI_nlz_69 : decode y_JI_nlz.2.1 69 = .ok (.iload_n 0, 1) := by decide +kernel
theorem d_JI_nlz_70 : decode y_JI_nlz.2.1 70 = .ok (.iconst 2, 1) := by decide +kernel
theorem d_JI_nlz_71 : decode y_JI_nlz.2.1 71 = .ok (.iushr, 1) := by decide +kernel
theorem d_JI_nlz_72 : decode y_JI_nlz.2.1 72 = .ok (.istore_n 0, 1) := by decide +kernel
theorem d_JI_nlz_73 : decode y_JI_nlz.2.1 73 = .ok (.iload_n 1, 1) := by decide +kernel
theorem d_JI_nlz_74 : decode y_JI_nlz.2.1 74 = .ok (.iload_n 0, 1) := by decide +kernel
theorem d_JI_nlz_75 : decode y_JI_nlz.2.1 75 = .ok (.iconst 1, 1) := by decide +kernel
theorem d_JI_nlz_76 : decode y_JI_nlz.2.1 76 = .ok (.iushr, 1) := by decide +kernel
theorem d_JI_nlz_77 : decode y_JI_nlz.2.1 77 = .ok (.isub, 1) := by decide +kernel
theorem d_JI_nlz_78 : decode y_JI_nlz.2.1 78 = .ok (.ireturn, 1) := by decide +kernel
theorem k_JI_nlz {G : mG} {d : Nat} {l0 : Int} {M : mM} {Q : Int → mM → Prop} (hO : mOk M) (hi_l0 : i32 l0)
    (h : ((0 < l0) → (∀ v5 : Int, v5 = (if (l0 < 65536) then l0 else ushrI l0 16) → ∀ v6 : Int, v6 = (if (l0 < 65536) then 31 else 31 + (-16)) → ∀ v12 : Int, v12 = (if (v5 < 256) then v5 else ushrI v5 8) → ∀ v13 : Int, v13 = (if (v5 < 256) then v6 else v6 + (-8)) → ∀ v19 : Int, v19 = (if (v12 < 16) then v12 else ushrI v12 4) → ∀ v20 : Int, v20 = (if (v12 < 16) then v13 else v13 + (-4)) → ∀ v26 : Int, v26 = (if (v19 < 4) then v19 else ushrI v19 2) → ∀ v27 : Int, v27 = (if (v19 < 4) then v20 else v20 + (-2)) → Q (v27 - (ushrI v26 1)) M)) ∧ (¬ (0 < l0) → (∀ v41 : Int, v41 = (if (l0 = 0) then 32 else 0) → Q v41 M))) :
    Ci G y_JI_nlz d [vi l0] M Q := by
  refine wm_open (y := y_JI_nlz) rfl (Nat.le_of_ble_eq_true rfl) (L := [vi l0, vd]) rfl ?_
  refine wm_iload_n d_JI_nlz_0 rfl rfl ?_
  refine wm_if_gt (tgt := 15) d_JI_nlz_1 rfl hi_l0 (fun c3 => ?_) (fun c3 => ?_)
  · replace h := h.1 c3
    refine wm_bipush d_JI_nlz_15 (by decide) ?_
    refine wm_istore_n d_JI_nlz_17 rfl (by decide) (L' := [vi l0, vi 31]) rfl ?_
    refine wm_iload_n d_JI_nlz_18 rfl rfl ?_
    refine wm_ldcw (x := 65536) d_JI_nlz_19 k5_224 (by decide) ?_
    have hJ : ∀ v5 : Int, v5 = (if (l0 < 65536) then l0 else ushrI l0 16) → ∀ v6 : Int, v6 = (if (l0 < 65536) then 31 else 31 + (-16)) → mWm G y_JI_nlz d 33 [vi v5, vi v6] [] M (fun r9 M9 => ∃ x9, r9 = some (vi x9) ∧ Q x9 M9) := by
      intro v5 e8
      intro v6 e9
      have h := h v5 e8 v6 e9
      have h10 : i32 v5 := by rw [e8]; (repeat' split) <;> first | exact hi_l0 | exact (m_i32 _)
      refine wm_iload_n d_JI_nlz_33 rfl rfl ?_
      refine wm_sipush d_JI_nlz_34 (by decide) ?_
      have hJ : ∀ v12 : Int, v12 = (if (v5 < 256) then v5 else ushrI v5 8) → ∀ v13 : Int, v13 = (if (v5 < 256) then v6 else v6 + (-8)) → mWm G y_JI_nlz d 48 [vi v12, vi v13] [] M (fun r9 M9 => ∃ x9, r9 = some (vi x9) ∧ Q x9 M9) := by
        intro v12 e15
        intro v13 e16
        have h := h v12 e15 v13 e16
        have h17 : i32 v12 := by rw [e15]; (repeat' split) <;> first | exact h10 | exact (m_i32 _)
        refine wm_iload_n d_JI_nlz_48 rfl rfl ?_
        refine wm_bipush d_JI_nlz_49 (by decide) ?_
        have hJ : ∀ v19 : Int, v19 = (if (v12 < 16) then v12 else ushrI v12 4) → ∀ v20 : Int, v20 = (if (v12 < 16) then v13 else v13 + (-4)) → mWm G y_JI_nlz d 61 [vi v19, vi v20] [] M (fun r9 M9 => ∃ x9, r9 = some (vi x9) ∧ Q x9 M9) := by
          intro v19 e22
          intro v20 e23
          have h := h v19 e22 v20 e23
          have h24 : i32 v19 := by rw [e22]; (repeat' split) <;> first | exact h17 | exact (m_i32 _)
          refine wm_iload_n d_JI_nlz_61 rfl rfl ?_
          refine wm_iconst d_JI_nlz_62 ?_
          have hJ : ∀ v26 : Int, v26 = (if (v19 < 4) then v19 else ushrI v19 2) → ∀ v27 : Int, v27 = (if (v19 < 4) then v20 else v20 + (-2)) → mWm G y_JI_nlz d 73 [vi v26, vi v27] [] M (fun r9 M9 => ∃ x9, r9 = some (vi x9) ∧ Q x9 M9) := by
            intro v26 e29
            intro v27 e30
            have h := h v26 e29 v27 e30
            have h31 : i32 v26 := by rw [e29]; (repeat' split) <;> first | exact h24 | exact (m_i32 _)
            refine wm_iload_n d_JI_nlz_73 rfl rfl ?_
            refine wm_iload_n d_JI_nlz_74 rfl rfl ?_
            refine wm_iconst d_JI_nlz_75 ?_
            refine wm_iushr d_JI_nlz_76 ?_
            refine wm_isub d_JI_nlz_77 ?_
            refine wm_ireturn d_JI_nlz_78 rfl rfl ?_
            exact ⟨_, rfl, h⟩
          clear h
          refine wm_icmp_lt (tgt := 73) d_JI_nlz_63 rfl h24 ⟨by decide, by decide⟩ (fun c25 => ?_) (fun c25 => ?_)
          · exact hJ v19 (if_pos c25).symm v20 (if_pos c25).symm
          · refine wm_iinc d_JI_nlz_66 (by decide) rfl (L' := [vi v19, vi (v20 + (-2))]) rfl ?_
            refine wm_iload_n d_JI_nlz_69 rfl rfl ?_
            refine wm_iconst d_JI_nlz_70 ?_
            refine wm_iushr d_JI_nlz_71 ?_
            refine wm_istore_n d_JI_nlz_72 rfl (by decide) (L' := [vi (ushrI v19 2), vi (v20 + (-2))]) rfl ?_
            exact hJ (ushrI v19 2) (if_neg c25).symm (v20 + (-2)) (if_neg c25).symm
        clear h
        refine wm_icmp_lt (tgt := 61) d_JI_nlz_51 rfl h17 ⟨by decide, by decide⟩ (fun c18 => ?_) (fun c18 => ?_)
        · exact hJ v12 (if_pos c18).symm v13 (if_pos c18).symm
        · refine wm_iinc d_JI_nlz_54 (by decide) rfl (L' := [vi v12, vi (v13 + (-4))]) rfl ?_
          refine wm_iload_n d_JI_nlz_57 rfl rfl ?_
          refine wm_iconst d_JI_nlz_58 ?_
          refine wm_iushr d_JI_nlz_59 ?_
          refine wm_istore_n d_JI_nlz_60 rfl (by decide) (L' := [vi (ushrI v12 4), vi (v13 + (-4))]) rfl ?_
          exact hJ (ushrI v12 4) (if_neg c18).symm (v13 + (-4)) (if_neg c18).symm
      clear h
      refine wm_icmp_lt (tgt := 48) d_JI_nlz_37 rfl h10 ⟨by decide, by decide⟩ (fun c11 => ?_) (fun c11 => ?_)
      · exact hJ v5 (if_pos c11).symm v6 (if_pos c11).symm
      · refine wm_iinc d_JI_nlz_40 (by decide) rfl (L' := [vi v5, vi (v6 + (-8))]) rfl ?_
        refine wm_iload_n d_JI_nlz_43 rfl rfl ?_
        refine wm_bipush d_JI_nlz_44 (by decide) ?_
        refine wm_iushr d_JI_nlz_46 ?_
        refine wm_istore_n d_JI_nlz_47 rfl (by decide) (L' := [vi (ushrI v5 8), vi (v6 + (-8))]) rfl ?_
        exact hJ (ushrI v5 8) (if_neg c11).symm (v6 + (-8)) (if_neg c11).symm
    clear h
    refine wm_icmp_lt (tgt := 33) d_JI_nlz_22 rfl hi_l0 ⟨by decide, by decide⟩ (fun c4 => ?_) (fun c4 => ?_)
    · exact hJ l0 (if_pos c4).symm 31 (if_pos c4).symm
    · refine wm_iinc d_JI_nlz_25 (by decide) rfl (L' := [vi l0, vi (31 + (-16))]) rfl ?_
      refine wm_iload_n d_JI_nlz_28 rfl rfl ?_
      refine wm_bipush d_JI_nlz_29 (by decide) ?_
      refine wm_iushr d_JI_nlz_31 ?_
      refine wm_istore_n d_JI_nlz_32 rfl (by decide) (L' := [vi (ushrI l0 16), vi (31 + (-16))]) rfl ?_
      exact hJ (ushrI l0 16) (if_neg c4).symm (31 + (-16)) (if_neg c4).symm
  · replace h := h.2 c3
    refine wm_iload_n d_JI_nlz_4 rfl rfl ?_
    have hJ : ∀ v41 : Int, v41 = (if (l0 = 0) then 32 else 0) → mWm G y_JI_nlz d 14 [vd, vd] [vi v41] M (fun r9 M9 => ∃ x9, r9 = some (vi x9) ∧ Q x9 M9) := by
      intro v41 e43
      have h := h v41 e43
      have h44 : i32 v41 := by rw [e43]; (repeat' split) <;> first | exact ⟨by decide, by decide⟩ | exact ⟨by decide, by decide⟩
      refine wm_ireturn d_JI_nlz_14 rfl rfl ?_
      exact ⟨_, rfl, h⟩
    clear h
    refine wm_if_ne (tgt := 13) d_JI_nlz_5 rfl hi_l0 (fun c40 => ?_) (fun c40 => ?_)
    · refine wm_iconst d_JI_nlz_13 ?_
      refine wm_less (L' := [vd, vd]) ⟨Or.inl rfl, Or.inl rfl, trivial⟩ ?_
      exact hJ 0 (if_neg c40).symm
    · replace c40 := Classical.not_not.mp c40
      refine wm_bipush d_JI_nlz_8 (by decide) ?_
      refine wm_goto (tgt := 14) d_JI_nlz_10 rfl ?_
      refine wm_less (L' := [vd, vd]) ⟨Or.inl rfl, Or.inl rfl, trivial⟩ ?_
      exact hJ 32 (if_pos c40).symm
theorem d_JL_compare_0 : decode y_JL_compare.2.1 0 = .ok (.lload_n 0, 1) := by decide +kernel
theorem d_JL_compare_1 : decode y_JL_compare.2.1 1 = .ok (.lload_n 2, 1) := by decide +kernel
theorem d_JL_compare_2 : decode y_JL_compare.2.1 2 = .ok (.lcmp, 1) := by decide +kernel
theorem d_JL_compare_3 : decode y_JL_compare.2.1 3 = .ok (.ifCond .ge 7, 3) := by decide +kernel
theorem d_JL_compare_10 : decode y_JL_compare.2.1 10 = .ok (.lload_n 0, 1) := by decide +kernel
theorem d_JL_compare_11 : decode y_JL_compare.2.1 11 = .ok (.lload_n 2, 1) := by decide +kernel
theorem d_JL_compare_12 : decode y_JL_compare.2.1 12 = .ok (.lcmp, 1) := by decide +kernel
theorem d_JL_compare_13 : decode y_JL_compare.2.1 13 = .ok (.ifCond .ne 7, 3) := by decide +kernel
theorem d_JL_compare_16 : decode y_JL_compare.2.1 16 = .ok (.iconst 0, 1) := by decide +kernel
theorem d_JL_compare_17 : decode y_JL_compare.2.1 17 = .ok (.goto 4, 3) := by decide +kernel
theorem d_JL_compare_20 : decode y_JL_compare.2.1 20 = .ok (.iconst 1, 1) := by decide +kernel
theorem d_JL_compare_6 : decode y_JL_compare.2.1 6 = .ok (.iconst (-1), 1) := by decide +kernel
theorem d_JL_compare_7 : decode y_JL_compare.2.1 7 = .ok (.goto 14, 3) := by decide +kernel
theorem d_JL_compare_21 : decode y_JL_compare.2.1 21 = .ok (.ireturn, 1) := by decide +kernel
theorem k_JL_compare {G : mG} {d : Nat} {j0 : Int} {j2 : Int} {M : mM} {Q : Int → mM → Prop} (hO : mOk M) (hi_j0 : i64 j0) (hi_j2 : i64 j2)
    (h : ∀ v3 : Int, v3 = (if 0 ≤ cmpL j0 j2 then (if cmpL j0 j2 = 0 then 0 else 1) else (-1)) → Q v3 M) :
    Ci G y_JL_compare d [vl j0, vl j2] M Q := by
  refine wm_open (y := y_JL_compare) rfl (Nat.le_of_ble_eq_true rfl) (L := [vl j0, vd, vl j2, vd]) rfl ?_
  refine wm_lload_n d_JL_compare_0 rfl rfl ?_
  refine wm_lload_n d_JL_compare_1 rfl rfl ?_
  refine wm_lcmp d_JL_compare_2 hi_j0 hi_j2 ?_
  have hJ : ∀ v3 : Int, v3 = (if 0 ≤ cmpL j0 j2 then (if cmpL j0 j2 = 0 then 0 else 1) else (-1)) → mWm G y_JL_compare d 21 [vd, vd, vd, vd] [vi v3] M (fun r9 M9 => ∃ x9, r9 = some (vi x9) ∧ Q x9 M9) := by
    intro v3 e5
    have h := h v3 e5
    have h6 : i32 v3 := by rw [e5]; (repeat' split) <;> first | exact ⟨by decide, by decide⟩ | exact ⟨by decide, by decide⟩ | exact ⟨by decide, by decide⟩
    refine wm_ireturn d_JL_compare_21 rfl rfl ?_
    exact ⟨_, rfl, h⟩
  clear h
  refine wm_if_ge (tgt := 10) d_JL_compare_3 rfl (m_cmp32 _ _) (fun c1 => ?_) (fun c1 => ?_)
  · refine wm_lload_n d_JL_compare_10 rfl rfl ?_
    refine wm_lload_n d_JL_compare_11 rfl rfl ?_
    refine wm_lcmp d_JL_compare_12 hi_j0 hi_j2 ?_
    refine wm_if_ne (tgt := 20) d_JL_compare_13 rfl (m_cmp32 _ _) (fun c2 => ?_) (fun c2 => ?_)
    · refine wm_iconst d_JL_compare_20 ?_
      refine wm_less (L' := [vd, vd, vd, vd]) ⟨Or.inl rfl, Or.inl rfl, Or.inl rfl, Or.inl rfl, trivial⟩ ?_
      exact hJ 1 (by rw [if_pos c1, if_neg c2])
    · replace c2 := Classical.not_not.mp c2
      refine wm_iconst d_JL_compare_16 ?_
      refine wm_goto (tgt := 21) d_JL_compare_17 rfl ?_
      refine wm_less (L' := [vd, vd, vd, vd]) ⟨Or.inl rfl, Or.inl rfl, Or.inl rfl, Or.inl rfl, trivial⟩ ?_
      exact hJ 0 (by rw [if_pos c1, if_pos c2])
  · refine wm_iconst d_JL_compare_6 ?_
    refine wm_goto (tgt := 21) d_JL_compare_7 rfl ?_
    refine wm_less (L' := [vd, vd, vd, vd]) ⟨Or.inl rfl, Or.inl rfl, Or.inl rfl, Or.inl rfl, trivial⟩ ?_
    exact hJ (-1) (by rw [if_neg c1])
theorem d_JM_floorMod_0 : decode y_JM_floorMod.2.1 0 = .ok (.lload_n 0, 1) := by decide +kernel
theorem d_JM_floorMod_1 : decode y_JM_floorMod.2.1 1 = .ok (.lload_n 2, 1) := by decide +kernel
theorem d_JM_floorMod_2 : decode y_JM_floorMod.2.1 2 = .ok (.lrem, 1) := by decide +kernel
theorem d_JM_floorMod_3 : decode y_JM_floorMod.2.1 3 = .ok (.lstore 4, 2) := by decide +kernel
theorem d_JM_floorMod_5 : decode y_JM_floorMod.2.1 5 = .ok (.lload_n 0, 1) := by decide +kernel
theorem d_JM_floorMod_6 : decode y_JM_floorMod.2.1 6 = .ok (.lload_n 2, 1) := by decide +kernel
theorem d_JM_floorMod_7 : decode y_JM_floorMod.2.1 7 = .ok (.lxor, 1) := by decide +kernel
theorem d_JM_floorMod_8 : decode y_JM_floorMod.2.1 8 = .ok (.lconst 0, 1) := by decide +kernel
theorem d_JM_floorMod_9 : decode y_JM_floorMod.2.1 9 = .ok (.lcmp, 1) := by decide +kernel
theorem d_JM_floorMod_10 : decode y_JM_floorMod.2.1 10 = .ok (.ifCond .ge 15, 3) := by decide +kernel
theorem d_JM_floorMod_13 : decode y_JM_floorMod.2.1 13 = .ok (.lload 4, 2) := by decide +kernel
theorem d_JM_floorMod_15 : decode y_JM_floorMod.2.1 15 = .ok (.lconst 0, 1) := by decide +kernel
theorem d_JM_floorMod_16 : decode y_JM_floorMod.2.1 16 = .ok (.lcmp, 1) := by decide +kernel
theorem d_JM_floorMod_17 : decode y_JM_floorMod.2.1 17 = .ok (.ifCond .eq 8, 3) := by decide +kernel
theorem d_JM_floorMod_20 : decode y_JM_floorMod.2.1 20 = .ok (.lload 4, 2) := by decide +kernel
theorem d_JM_floorMod_22 : decode y_JM_floorMod.2.1 22 = .ok (.lload_n 2, 1) := by decide +kernel
theorem d_JM_floorMod_23 : decode y_JM_floorMod.2.1 23 = .ok (.ladd, 1) := by decide +kernel
theorem d_JM_floorMod_24 : decode y_JM_floorMod.2.1 24 = .ok (.lreturn, 1) := by decide +kernel
theorem d_JM_floorMod_25 : decode y_JM_floorMod.2.1 25 = .ok (.lload 4, 2) := by decide +kernel
theorem d_JM_floorMod_27 : decode y_JM_floorMod.2.1 27 = .ok (.lreturn, 1) := by decide +kernel
theorem k_JM_floorMod {G : mG} {d : Nat} {j0 : Int} {j2 : Int} {M : mM} {Q : Int → mM → Prop} (hO : mOk M) (hi_j0 : i64 j0) (hi_j2 : i64 j2)
    (h : j2 ≠ 0 ∧ (((0 ≤ cmpL (xorL j0 j2) 0) ∨ (cmpL (Int.tmod j0 j2) 0 = 0)) → (Q (Int.tmod j0 j2) M)) ∧ (¬ ((0 ≤ cmpL (xorL j0 j2) 0) ∨ (cmpL (Int.tmod j0 j2) 0 = 0)) → (Q ((Int.tmod j0 j2) + j2) M))) :
    Cj G y_JM_floorMod d [vl j0, vl j2] M Q := by
  refine wm_open (y := y_JM_floorMod) rfl (Nat.le_of_ble_eq_true rfl) (L := [vl j0, vd, vl j2, vd, vd, vd]) rfl ?_
  obtain ⟨h1, h⟩ := h
  refine wm_lload_n d_JM_floorMod_0 rfl rfl ?_
  refine wm_lload_n d_JM_floorMod_1 rfl rfl ?_
  refine wm_lrem d_JM_floorMod_2 hi_j0 hi_j2 h1 ?_
  refine wm_lstore d_JM_floorMod_3 (by decide) (L' := [vl j0, vd, vl j2, vd, vl (Int.tmod j0 j2), vd]) rfl ?_
  refine wm_lload_n d_JM_floorMod_5 rfl rfl ?_
  refine wm_lload_n d_JM_floorMod_6 rfl rfl ?_
  refine wm_lxor d_JM_floorMod_7 ?_
  refine wm_lconst (x := 0) d_JM_floorMod_8 rfl ?_
  refine wm_lcmp d_JM_floorMod_9 (m_i64 _) ⟨by decide, by decide⟩ ?_
  have hE0 : ((0 ≤ cmpL (xorL j0 j2) 0) ∨ (cmpL (Int.tmod j0 j2) 0 = 0)) → mWm G y_JM_floorMod d 25 [vl j0, vd, vl j2, vd, vl (Int.tmod j0 j2), vd] [] M (fun r9 M9 => ∃ x9, r9 = some (vl x9) ∧ Q x9 M9) := by
    intro q5
    have h := h.1 q5
    refine wm_lload d_JM_floorMod_25 rfl ?_
    refine wm_lreturn d_JM_floorMod_27 rfl ?_
    exact ⟨_, rfl, h⟩
  have hE1 : ¬ ((0 ≤ cmpL (xorL j0 j2) 0) ∨ (cmpL (Int.tmod j0 j2) 0 = 0)) → mWm G y_JM_floorMod d 20 [vl j0, vd, vl j2, vd, vl (Int.tmod j0 j2), vd] [] M (fun r9 M9 => ∃ x9, r9 = some (vl x9) ∧ Q x9 M9) := by
    intro q6
    have h := h.2 q6
    refine wm_lload d_JM_floorMod_20 rfl ?_
    refine wm_lload_n d_JM_floorMod_22 rfl rfl ?_
    refine wm_ladd d_JM_floorMod_23 ?_
    refine wm_lreturn d_JM_floorMod_24 rfl ?_
    exact ⟨_, rfl, h⟩
  clear h
  refine wm_if_ge (tgt := 25) d_JM_floorMod_10 rfl (m_cmp32 _ _) (fun c3 => ?_) (fun c3 => ?_)
  · exact hE0 (Or.inl c3)
  · refine wm_lload d_JM_floorMod_13 rfl ?_
    refine wm_lconst (x := 0) d_JM_floorMod_15 rfl ?_
    refine wm_lcmp d_JM_floorMod_16 (m_tmod64 hi_j0 hi_j2) ⟨by decide, by decide⟩ ?_
    refine wm_if_eq (tgt := 25) d_JM_floorMod_17 rfl (m_cmp32 _ _) (fun c2 => ?_) (fun c2 => ?_)
    · exact hE0 (Or.inr c2)
    · exact hE1 (fun z7 => Or.elim z7 c3 c2)
