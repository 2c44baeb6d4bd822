theorem d_MM_set0_0 : decode y_MM_set0.2.1 0 = .ok (.iload_n 1, 1) := by decide +kernel
theorem d_MM_set0_1 : decode y_MM_set0.2.1 1 = .ok (.bipush 36, 2) := by decide +kernel
theorem d_MM_set0_3 : decode y_MM_set0.2.1 3 = .ok (.if_icmp .ne 10, 3) := by decide +kernel
theorem d_MM_set0_6 : decode y_MM_set0.2.1 6 = .ok (.aload_n 0, 1) := by decide +kernel
theorem d_MM_set0_7 : decode y_MM_set0.2.1 7 = .ok (.invokevirtual 254, 3) := by decide +kernel
theorem d_MM_set0_10 : decode y_MM_set0.2.1 10 = .ok (.ifCond .ne 5, 3) := by decide +kernel
theorem d_MM_set0_15 : decode y_MM_set0.2.1 15 = .ok (.aload_n 0, 1) := by decide +kernel
theorem d_MM_set0_16 : decode y_MM_set0.2.1 16 = .ok (.getfield 28, 3) := by decide +kernel
theorem d_MM_set0_19 : decode y_MM_set0.2.1 19 = .ok (.bipush 75, 2) := by decide +kernel
theorem d_MM_set0_13 : decode y_MM_set0.2.1 13 = .ok (.iconst (-1), 1) := by decide +kernel
theorem d_MM_set0_14 : decode y_MM_set0.2.1 14 = .ok (.ireturn, 1) := by decide +kernel
theorem d_MM_set0_21 : decode y_MM_set0.2.1 21 = .ok (.invokevirtual 152, 3) := by decide +kernel
theorem d_MM_set0_24 : decode y_MM_set0.2.1 24 = .ok (.aload_n 0, 1) := by decide +kernel
theorem d_MM_set0_25 : decode y_MM_set0.2.1 25 = .ok (.getfield 28, 3) := by decide +kernel
theorem d_MM_set0_28 : decode y_MM_set0.2.1 28 = .ok (.bipush 37, 2) := by decide +kernel
theorem d_MM_set0_30 : decode y_MM_set0.2.1 30 = .ok (.invokevirtual 152, 3) := by decide +kernel
theorem d_MM_set0_33 : decode y_MM_set0.2.1 33 = .ok (.aload_n 0, 1) := by decide +kernel
theorem d_MM_set0_34 : decode y_MM_set0.2.1 34 = .ok (.getfield 28, 3) := by decide +kernel
theorem d_MM_set0_37 : decode y_MM_set0.2.1 37 = .ok (.bipush 61, 2) := by decide +kernel
theorem d_MM_set0_39 : decode y_MM_set0.2.1 39 = .ok (.invokevirtual 152, 3) := by decide +kernel
theorem d_MM_set0_42 : decode y_MM_set0.2.1 42 = .ok (.aload_n 0, 1) := by decide +kernel
theorem d_MM_set0_43 : decode y_MM_set0.2.1 43 = .ok (.iconst 1, 1) := by decide +kernel
theorem d_MM_set0_44 : decode y_MM_set0.2.1 44 = .ok (.bipush 38, 2) := by decide +kernel
theorem d_MM_set0_46 : decode y_MM_set0.2.1 46 = .ok (.bipush 23, 2) := by decide +kernel
theorem d_MM_set0_48 : decode y_MM_set0.2.1 48 = .ok (.invokevirtual 244, 3) := by decide +kernel
theorem d_MM_set0_51 : decode y_MM_set0.2.1 51 = .ok (.iconst 1, 1) := by decide +kernel
theorem d_MM_set0_52 : decode y_MM_set0.2.1 52 = .ok (.ireturn, 1) := by decide +kernel
theorem k_MM_set0 {G : mG} {d : Nat} {a0 : Nat} {l1 : Int} {M : mM} {Q : Int → mM → Prop} (hO : mOk M) (hi_l1 : i32 l1)
    (h : ((l1 = 36) → (mK M a0 = 14 ∧ Ci G y_MM_level d [vr a0] M (fun x5 M4 => i32 x5 ∧ mOk M4 ∧ (((x5 = 0) → (Q (-1) M4)) ∧ (¬ (x5 = 0) → (mK M4 a0 = 14 ∧ mK M4 (mR M4 a0 6) = 15 ∧ Cv G y_MN_add d [vr (mR M4 a0 6), vi 75] M4 (fun M11 => mOk M11 ∧ (mK M11 a0 = 14 ∧ mK M11 (mR M11 a0 6) = 15 ∧ Cv G y_MN_add d [vr (mR M11 a0 6), vi 37] M11 (fun M16 => mOk M16 ∧ (mK M16 a0 = 14 ∧ mK M16 (mR M16 a0 6) = 15 ∧ Cv G y_MN_add d [vr (mR M16 a0 6), vi 61] M16 (fun M21 => mOk M21 ∧ (mK M21 a0 = 14 ∧ Cv G y_MM_want d [vr a0, vi 1, vi 38, vi 23] M21 (fun M25 => mOk M25 ∧ (Q 1 M25)))))))))))))) ∧ (¬ (l1 = 36) → (Q (-1) M))) :
    Ci G y_MM_set0 (d + 1) [vr a0, vi l1] M Q := by
  refine wm_open (y := y_MM_set0) rfl (Nat.le_of_ble_eq_true rfl) (L := [vr a0, vi l1]) rfl ?_
  refine wm_iload_n d_MM_set0_0 rfl rfl ?_
  refine wm_bipush d_MM_set0_1 (by decide) ?_
  refine wm_icmp_ne (tgt := 13) d_MM_set0_3 rfl hi_l1 ⟨by decide, by decide⟩ (fun c2 => ?_) (fun c2 => ?_)
  · replace h := h.2 c2
    refine wm_iconst d_MM_set0_13 ?_
    refine wm_ireturn d_MM_set0_14 rfl rfl ?_
    exact ⟨_, rfl, h⟩
  · replace c2 := Classical.not_not.mp c2
    replace h := h.1 c2
    obtain ⟨h3, h⟩ := h
    refine wm_aload_n d_MM_set0_6 rfl rfl ?_
    refine cf_MM_254 rfl d_MM_set0_7 h3 (Nat.le_of_ble_eq_true rfl) (Ci.mono h (fun x5 M4 h => ?_))
    obtain ⟨h6, hOM4, h⟩ := h
    refine wm_if_ne (tgt := 15) d_MM_set0_10 rfl h6 (fun c8 => ?_) (fun c8 => ?_)
    · replace h := h.2 c8
      obtain ⟨h9, h⟩ := h
      obtain ⟨h10, h⟩ := h
      refine wm_aload_n d_MM_set0_15 rfl rfl ?_
      refine gf_MM_28 rfl d_MM_set0_16 h9 ?_
      refine wm_bipush d_MM_set0_19 (by decide) ?_
      refine cf_MM_152 rfl d_MM_set0_21 h10 (Nat.le_of_ble_eq_true rfl) (Cv.mono h (fun M11 h => ?_))
      obtain ⟨hOM11, h⟩ := h
      obtain ⟨h14, h⟩ := h
      obtain ⟨h15, h⟩ := h
      refine wm_aload_n d_MM_set0_24 rfl rfl ?_
      refine gf_MM_28 rfl d_MM_set0_25 h14 ?_
      refine wm_bipush d_MM_set0_28 (by decide) ?_
      refine cf_MM_152 rfl d_MM_set0_30 h15 (Nat.le_of_ble_eq_true rfl) (Cv.mono h (fun M16 h => ?_))
      obtain ⟨hOM16, h⟩ := h
      obtain ⟨h19, h⟩ := h
      obtain ⟨h20, h⟩ := h
      refine wm_aload_n d_MM_set0_33 rfl rfl ?_
      refine gf_MM_28 rfl d_MM_set0_34 h19 ?_
      refine wm_bipush d_MM_set0_37 (by decide) ?_
      refine cf_MM_152 rfl d_MM_set0_39 h20 (Nat.le_of_ble_eq_true rfl) (Cv.mono h (fun M21 h => ?_))
      obtain ⟨hOM21, h⟩ := h
      obtain ⟨h24, h⟩ := h
      refine wm_aload_n d_MM_set0_42 rfl rfl ?_
      refine wm_iconst d_MM_set0_43 ?_
      refine wm_bipush d_MM_set0_44 (by decide) ?_
      refine wm_bipush d_MM_set0_46 (by decide) ?_
      refine cf_MM_244 rfl d_MM_set0_48 h24 (Nat.le_of_ble_eq_true rfl) (Cv.mono h (fun M25 h => ?_))
      obtain ⟨hOM25, h⟩ := h
      refine wm_iconst d_MM_set0_51 ?_
      refine wm_ireturn d_MM_set0_52 rfl rfl ?_
      exact ⟨_, rfl, h⟩
    · replace c8 := Classical.not_not.mp c8
      replace h := h.1 c8
      refine wm_iconst d_MM_set0_13 ?_
      refine wm_ireturn d_MM_set0_14 rfl rfl ?_
      exact ⟨_, rfl, h⟩
theorem d_MM_anItem_0 : decode y_MM_anItem.2.1 0 = .ok (.iload_n 1, 1) := by decide +kernel
theorem d_MM_anItem_1 : decode y_MM_anItem.2.1 1 = .ok (.ifCond .ne 5, 3) := by decide +kernel
theorem d_MM_anItem_4 : decode y_MM_anItem.2.1 4 = .ok (.iconst 1, 1) := by decide +kernel
theorem d_MM_anItem_5 : decode y_MM_anItem.2.1 5 = .ok (.ireturn, 1) := by decide +kernel
theorem d_MM_anItem_6 : decode y_MM_anItem.2.1 6 = .ok (.aload_n 0, 1) := by decide +kernel
theorem d_MM_anItem_7 : decode y_MM_anItem.2.1 7 = .ok (.getfield 28, 3) := by decide +kernel
theorem d_MM_anItem_10 : decode y_MM_anItem.2.1 10 = .ok (.bipush 50, 2) := by decide +kernel
theorem d_MM_anItem_12 : decode y_MM_anItem.2.1 12 = .ok (.invokevirtual 152, 3) := by decide +kernel
theorem d_MM_anItem_15 : decode y_MM_anItem.2.1 15 = .ok (.aload_n 0, 1) := by decide +kernel
theorem d_MM_anItem_16 : decode y_MM_anItem.2.1 16 = .ok (.getfield 28, 3) := by decide +kernel
theorem d_MM_anItem_19 : decode y_MM_anItem.2.1 19 = .ok (.bipush 34, 2) := by decide +kernel
theorem d_MM_anItem_21 : decode y_MM_anItem.2.1 21 = .ok (.invokevirtual 152, 3) := by decide +kernel
theorem d_MM_anItem_24 : decode y_MM_anItem.2.1 24 = .ok (.iload_n 1, 1) := by decide +kernel
theorem d_MM_anItem_25 : decode y_MM_anItem.2.1 25 = .ok (.tableswitch 114 3 11 #[51, 62, 114, 51, 93, 93, 114, 114, 82], 51) := by decide +kernel
theorem d_MM_anItem_76 : decode y_MM_anItem.2.1 76 = .ok (.aload_n 0, 1) := by decide +kernel
theorem d_MM_anItem_77 : decode y_MM_anItem.2.1 77 = .ok (.getfield 28, 3) := by decide +kernel
theorem d_MM_anItem_80 : decode y_MM_anItem.2.1 80 = .ok (.bipush 51, 2) := by decide +kernel
theorem d_MM_anItem_82 : decode y_MM_anItem.2.1 82 = .ok (.invokevirtual 152, 3) := by decide +kernel
theorem d_MM_anItem_85 : decode y_MM_anItem.2.1 85 = .ok (.iconst 1, 1) := by decide +kernel
theorem d_MM_anItem_86 : decode y_MM_anItem.2.1 86 = .ok (.ireturn, 1) := by decide +kernel
theorem d_MM_anItem_87 : decode y_MM_anItem.2.1 87 = .ok (.aload_n 0, 1) := by decide +kernel
theorem d_MM_anItem_88 : decode y_MM_anItem.2.1 88 = .ok (.getfield 28, 3) := by decide +kernel
theorem d_MM_anItem_91 : decode y_MM_anItem.2.1 91 = .ok (.bipush 54, 2) := by decide +kernel
theorem d_MM_anItem_93 : decode y_MM_anItem.2.1 93 = .ok (.invokevirtual 152, 3) := by decide +kernel
theorem d_MM_anItem_96 : decode y_MM_anItem.2.1 96 = .ok (.aload_n 0, 1) := by decide +kernel
theorem d_MM_anItem_97 : decode y_MM_anItem.2.1 97 = .ok (.iconst 1, 1) := by decide +kernel
theorem d_MM_anItem_98 : decode y_MM_anItem.2.1 98 = .ok (.bipush 33, 2) := by decide +kernel
theorem d_MM_anItem_100 : decode y_MM_anItem.2.1 100 = .ok (.bipush 53, 2) := by decide +kernel
theorem d_MM_anItem_102 : decode y_MM_anItem.2.1 102 = .ok (.invokevirtual 244, 3) := by decide +kernel
theorem d_MM_anItem_105 : decode y_MM_anItem.2.1 105 = .ok (.iconst 1, 1) := by decide +kernel
theorem d_MM_anItem_106 : decode y_MM_anItem.2.1 106 = .ok (.ireturn, 1) := by decide +kernel
theorem d_MM_anItem_118 : decode y_MM_anItem.2.1 118 = .ok (.aload_n 0, 1) := by decide +kernel
theorem d_MM_anItem_119 : decode y_MM_anItem.2.1 119 = .ok (.getfield 28, 3) := by decide +kernel
theorem d_MM_anItem_122 : decode y_MM_anItem.2.1 122 = .ok (.bipush 57, 2) := by decide +kernel
theorem d_MM_anItem_124 : decode y_MM_anItem.2.1 124 = .ok (.invokevirtual 152, 3) := by decide +kernel
theorem d_MM_anItem_127 : decode y_MM_anItem.2.1 127 = .ok (.aload_n 0, 1) := by decide +kernel
theorem d_MM_anItem_128 : decode y_MM_anItem.2.1 128 = .ok (.bipush 61, 2) := by decide +kernel
theorem d_MM_anItem_130 : decode y_MM_anItem.2.1 130 = .ok (.bipush 17, 2) := by decide +kernel
theorem d_MM_anItem_132 : decode y_MM_anItem.2.1 132 = .ok (.bipush 56, 2) := by decide +kernel
theorem d_MM_anItem_134 : decode y_MM_anItem.2.1 134 = .ok (.invokevirtual 244, 3) := by decide +kernel
theorem d_MM_anItem_137 : decode y_MM_anItem.2.1 137 = .ok (.iconst 1, 1) := by decide +kernel
theorem d_MM_anItem_138 : decode y_MM_anItem.2.1 138 = .ok (.ireturn, 1) := by decide +kernel
theorem d_MM_anItem_107 : decode y_MM_anItem.2.1 107 = .ok (.aload_n 0, 1) := by decide +kernel
theorem d_MM_anItem_108 : decode y_MM_anItem.2.1 108 = .ok (.getfield 28, 3) := by decide +kernel
theorem d_MM_anItem_111 : decode y_MM_anItem.2.1 111 = .ok (.bipush 61, 2) := by decide +kernel
theorem d_MM_anItem_113 : decode y_MM_anItem.2.1 113 = .ok (.invokevirtual 152, 3) := by decide +kernel
theorem d_MM_anItem_116 : decode y_MM_anItem.2.1 116 = .ok (.iconst 1, 1) := by decide +kernel
theorem d_MM_anItem_117 : decode y_MM_anItem.2.1 117 = .ok (.ireturn, 1) := by decide +kernel
theorem d_MM_anItem_139 : decode y_MM_anItem.2.1 139 = .ok (.iconst (-1), 1) := by decide +kernel
theorem d_MM_anItem_140 : decode y_MM_anItem.2.1 140 = .ok (.ireturn, 1) := by decide +kernel
theorem k_MM_anItem {G : mG} {d : Nat} {a0 : Nat} {l1 : Int} {M : mM} {Q : Int → mM → Prop} (hO : mOk M) (hi_l1 : i32 l1)
    (h : ((l1 = 0) → (Q 1 M)) ∧ (¬ (l1 = 0) → (mK M a0 = 14 ∧ mK M (mR M a0 6) = 15 ∧ Cv G y_MN_add d [vr (mR M a0 6), vi 50] M (fun M5 => mOk M5 ∧ (mK M5 a0 = 14 ∧ mK M5 (mR M5 a0 6) = 15 ∧ Cv G y_MN_add d [vr (mR M5 a0 6), vi 34] M5 (fun M10 => mOk M10 ∧ (((l1 = 3 ∨ l1 = 6) → (mK M10 a0 = 14 ∧ mK M10 (mR M10 a0 6) = 15 ∧ Cv G y_MN_add d [vr (mR M10 a0 6), vi 51] M10 (fun M18 => mOk M18 ∧ (Q 1 M18)))) ∧ (¬ (l1 = 3 ∨ l1 = 6) → (((l1 = 4) → (mK M10 a0 = 14 ∧ mK M10 (mR M10 a0 6) = 15 ∧ Cv G y_MN_add d [vr (mR M10 a0 6), vi 54] M10 (fun M25 => mOk M25 ∧ (mK M25 a0 = 14 ∧ Cv G y_MM_want d [vr a0, vi 1, vi 33, vi 53] M25 (fun M29 => mOk M29 ∧ (Q 1 M29)))))) ∧ (¬ (l1 = 4) → (((l1 = 7 ∨ l1 = 8) → (mK M10 a0 = 14 ∧ mK M10 (mR M10 a0 6) = 15 ∧ Cv G y_MN_add d [vr (mR M10 a0 6), vi 57] M10 (fun M36 => mOk M36 ∧ (mK M36 a0 = 14 ∧ Cv G y_MM_want d [vr a0, vi 61, vi 17, vi 56] M36 (fun M40 => mOk M40 ∧ (Q 1 M40)))))) ∧ (¬ (l1 = 7 ∨ l1 = 8) → (((l1 = 11) → (mK M10 a0 = 14 ∧ mK M10 (mR M10 a0 6) = 15 ∧ Cv G y_MN_add d [vr (mR M10 a0 6), vi 61] M10 (fun M47 => mOk M47 ∧ (Q 1 M47)))) ∧ (¬ (l1 = 11) → (Q (-1) M10))))))))))))))) :
    Ci G y_MM_anItem (d + 1) [vr a0, vi l1] M Q := by
  refine wm_open (y := y_MM_anItem) rfl (Nat.le_of_ble_eq_true rfl) (L := [vr a0, vi l1]) rfl ?_
  refine wm_iload_n d_MM_anItem_0 rfl rfl ?_
  refine wm_if_ne (tgt := 6) d_MM_anItem_1 rfl hi_l1 (fun c2 => ?_) (fun c2 => ?_)
  · replace h := h.2 c2
    obtain ⟨h3, h⟩ := h
    obtain ⟨h4, h⟩ := h
    refine wm_aload_n d_MM_anItem_6 rfl rfl ?_
    refine gf_MM_28 rfl d_MM_anItem_7 h3 ?_
    refine wm_bipush d_MM_anItem_10 (by decide) ?_
    refine cf_MM_152 rfl d_MM_anItem_12 h4 (Nat.le_of_ble_eq_true rfl) (Cv.mono h (fun M5 h => ?_))
    obtain ⟨hOM5, h⟩ := h
    obtain ⟨h8, h⟩ := h
    obtain ⟨h9, h⟩ := h
    refine wm_aload_n d_MM_anItem_15 rfl rfl ?_
    refine gf_MM_28 rfl d_MM_anItem_16 h8 ?_
    refine wm_bipush d_MM_anItem_19 (by decide) ?_
    refine cf_MM_152 rfl d_MM_anItem_21 h9 (Nat.le_of_ble_eq_true rfl) (Cv.mono h (fun M10 h => ?_))
    obtain ⟨hOM10, h⟩ := h
    refine wm_iload_n d_MM_anItem_24 rfl rfl ?_
    by_cases c15 : l1 = 3 ∨ l1 = 6
    · replace h := h.1 c15
      refine wm_tableIn (tgt := 76) (off := 51) d_MM_anItem_25 hi_l1 (by omega) (by omega) (by rcases c15 with q9 | q9 <;> (rw [q9]; rfl)) rfl ?_
      obtain ⟨h16, h⟩ := h
      obtain ⟨h17, h⟩ := h
      refine wm_aload_n d_MM_anItem_76 rfl rfl ?_
      refine gf_MM_28 rfl d_MM_anItem_77 h16 ?_
      refine wm_bipush d_MM_anItem_80 (by decide) ?_
      refine cf_MM_152 rfl d_MM_anItem_82 h17 (Nat.le_of_ble_eq_true rfl) (Cv.mono h (fun M18 h => ?_))
      obtain ⟨hOM18, h⟩ := h
      refine wm_iconst d_MM_anItem_85 ?_
      refine wm_ireturn d_MM_anItem_86 rfl rfl ?_
      exact ⟨_, rfl, h⟩
    · replace h := h.2 c15
      by_cases c22 : l1 = 4
      · replace h := h.1 c22
        refine wm_tableIn (tgt := 87) (off := 62) d_MM_anItem_25 hi_l1 (by omega) (by omega) (by rw [c22]; rfl) rfl ?_
        obtain ⟨h23, h⟩ := h
        obtain ⟨h24, h⟩ := h
        refine wm_aload_n d_MM_anItem_87 rfl rfl ?_
        refine gf_MM_28 rfl d_MM_anItem_88 h23 ?_
        refine wm_bipush d_MM_anItem_91 (by decide) ?_
        refine cf_MM_152 rfl d_MM_anItem_93 h24 (Nat.le_of_ble_eq_true rfl) (Cv.mono h (fun M25 h => ?_))
        obtain ⟨hOM25, h⟩ := h
        obtain ⟨h28, h⟩ := h
        refine wm_aload_n d_MM_anItem_96 rfl rfl ?_
        refine wm_iconst d_MM_anItem_97 ?_
        refine wm_bipush d_MM_anItem_98 (by decide) ?_
        refine wm_bipush d_MM_anItem_100 (by decide) ?_
        refine cf_MM_244 rfl d_MM_anItem_102 h28 (Nat.le_of_ble_eq_true rfl) (Cv.mono h (fun M29 h => ?_))
        obtain ⟨hOM29, h⟩ := h
        refine wm_iconst d_MM_anItem_105 ?_
        refine wm_ireturn d_MM_anItem_106 rfl rfl ?_
        exact ⟨_, rfl, h⟩
      · replace h := h.2 c22
        by_cases c33 : l1 = 7 ∨ l1 = 8
        · replace h := h.1 c33
          refine wm_tableIn (tgt := 118) (off := 93) d_MM_anItem_25 hi_l1 (by omega) (by omega) (by rcases c33 with q9 | q9 <;> (rw [q9]; rfl)) rfl ?_
          obtain ⟨h34, h⟩ := h
          obtain ⟨h35, h⟩ := h
          refine wm_aload_n d_MM_anItem_118 rfl rfl ?_
          refine gf_MM_28 rfl d_MM_anItem_119 h34 ?_
          refine wm_bipush d_MM_anItem_122 (by decide) ?_
          refine cf_MM_152 rfl d_MM_anItem_124 h35 (Nat.le_of_ble_eq_true rfl) (Cv.mono h (fun M36 h => ?_))
          obtain ⟨hOM36, h⟩ := h
          obtain ⟨h39, h⟩ := h
          refine wm_aload_n d_MM_anItem_127 rfl rfl ?_
          refine wm_bipush d_MM_anItem_128 (by decide) ?_
          refine wm_bipush d_MM_anItem_130 (by decide) ?_
          refine wm_bipush d_MM_anItem_132 (by decide) ?_
          refine cf_MM_244 rfl d_MM_anItem_134 h39 (Nat.le_of_ble_eq_true rfl) (Cv.mono h (fun M40 h => ?_))
          obtain ⟨hOM40, h⟩ := h
          refine wm_iconst d_MM_anItem_137 ?_
          refine wm_ireturn d_MM_anItem_138 rfl rfl ?_
          exact ⟨_, rfl, h⟩
        · replace h := h.2 c33
          by_cases c44 : l1 = 11
          · replace h := h.1 c44
            refine wm_tableIn (tgt := 107) (off := 82) d_MM_anItem_25 hi_l1 (by omega) (by omega) (by rw [c44]; rfl) rfl ?_
            obtain ⟨h45, h⟩ := h
            obtain ⟨h46, h⟩ := h
            refine wm_aload_n d_MM_anItem_107 rfl rfl ?_
            refine gf_MM_28 rfl d_MM_anItem_108 h45 ?_
            refine wm_bipush d_MM_anItem_111 (by decide) ?_
            refine cf_MM_152 rfl d_MM_anItem_113 h46 (Nat.le_of_ble_eq_true rfl) (Cv.mono h (fun M47 h => ?_))
            obtain ⟨hOM47, h⟩ := h
            refine wm_iconst d_MM_anItem_116 ?_
            refine wm_ireturn d_MM_anItem_117 rfl rfl ?_
            exact ⟨_, rfl, h⟩
          · replace h := h.2 c44
            refine wm_tableD (tgt := 139) (off := 114) d_MM_anItem_25 hi_l1 (if q8 : 3 ≤ l1 ∧ l1 ≤ 11 then Or.inr ⟨q8.1, q8.2, by
      have q9 : l1 = 5 ∨ l1 = 9 ∨ l1 = 10 := by omega
      rcases q9 with q9 | q9 | q9 <;> (rw [q9]; rfl)⟩ else Or.inl (by omega)) rfl ?_
            refine wm_iconst d_MM_anItem_139 ?_
            refine wm_ireturn d_MM_anItem_140 rfl rfl ?_
            exact ⟨_, rfl, h⟩
  · replace c2 := Classical.not_not.mp c2
    replace h := h.1 c2
    refine wm_iconst d_MM_anItem_4 ?_
    refine wm_ireturn d_MM_anItem_5 rfl rfl ?_
    exact ⟨_, rfl, h⟩
theorem d_MM_rule0_0 : decode y_MM_rule0.2.1 0 = .ok (.iload_n 1, 1) := by decide +kernel
theorem d_MM_rule0_1 : decode y_MM_rule0.2.1 1 = .ok (.tableswitch 408 61 76 #[79, 99, 114, 134, 154, 174, 194, 251, 271, 291, 317, 337, 408, 369, 408, 389], 79) := by decide +kernel
theorem d_MM_rule0_80 : decode y_MM_rule0.2.1 80 = .ok (.aload_n 0, 1) := by decide +kernel
theorem d_MM_rule0_81 : decode y_MM_rule0.2.1 81 = .ok (.getfield 28, 3) := by decide +kernel
theorem d_MM_rule0_84 : decode y_MM_rule0.2.1 84 = .ok (.bipush 62, 2) := by decide +kernel
theorem d_MM_rule0_86 : decode y_MM_rule0.2.1 86 = .ok (.invokevirtual 152, 3) := by decide +kernel
theorem d_MM_rule0_89 : decode y_MM_rule0.2.1 89 = .ok (.aload_n 0, 1) := by decide +kernel
theorem d_MM_rule0_90 : decode y_MM_rule0.2.1 90 = .ok (.getfield 28, 3) := by decide +kernel
theorem d_MM_rule0_93 : decode y_MM_rule0.2.1 93 = .ok (.bipush 63, 2) := by decide +kernel
theorem d_MM_rule0_95 : decode y_MM_rule0.2.1 95 = .ok (.invokevirtual 152, 3) := by decide +kernel
theorem d_MM_rule0_98 : decode y_MM_rule0.2.1 98 = .ok (.iconst 0, 1) := by decide +kernel
theorem d_MM_rule0_99 : decode y_MM_rule0.2.1 99 = .ok (.ireturn, 1) := by decide +kernel
theorem d_MM_rule0_100 : decode y_MM_rule0.2.1 100 = .ok (.iload_n 2, 1) := by decide +kernel
theorem d_MM_rule0_101 : decode y_MM_rule0.2.1 101 = .ok (.bipush 32, 2) := by decide +kernel
theorem d_MM_rule0_103 : decode y_MM_rule0.2.1 103 = .ok (.if_icmp .ne 10, 3) := by decide +kernel
theorem d_MM_rule0_106 : decode y_MM_rule0.2.1 106 = .ok (.aload_n 0, 1) := by decide +kernel
theorem d_MM_rule0_113 : decode y_MM_rule0.2.1 113 = .ok (.iconst 0, 1) := by decide +kernel
theorem d_MM_rule0_107 : decode y_MM_rule0.2.1 107 = .ok (.invokevirtual 258, 3) := by decide +kernel
theorem d_MM_rule0_110 : decode y_MM_rule0.2.1 110 = .ok (.goto 4, 3) := by decide +kernel
theorem d_MM_rule0_115 : decode y_MM_rule0.2.1 115 = .ok (.aload_n 0, 1) := by decide +kernel
theorem d_MM_rule0_116 : decode y_MM_rule0.2.1 116 = .ok (.getfield 28, 3) := by decide +kernel
theorem d_MM_rule0_119 : decode y_MM_rule0.2.1 119 = .ok (.bipush 64, 2) := by decide +kernel
theorem d_MM_rule0_121 : decode y_MM_rule0.2.1 121 = .ok (.invokevirtual 152, 3) := by decide +kernel
theorem d_MM_rule0_124 : decode y_MM_rule0.2.1 124 = .ok (.aload_n 0, 1) := by decide +kernel
theorem d_MM_rule0_125 : decode y_MM_rule0.2.1 125 = .ok (.getfield 28, 3) := by decide +kernel
theorem d_MM_rule0_128 : decode y_MM_rule0.2.1 128 = .ok (.bipush 65, 2) := by decide +kernel
theorem d_MM_rule0_130 : decode y_MM_rule0.2.1 130 = .ok (.invokevirtual 152, 3) := by decide +kernel
theorem d_MM_rule0_133 : decode y_MM_rule0.2.1 133 = .ok (.iconst 0, 1) := by decide +kernel
theorem d_MM_rule0_134 : decode y_MM_rule0.2.1 134 = .ok (.ireturn, 1) := by decide +kernel
theorem d_MM_rule0_135 : decode y_MM_rule0.2.1 135 = .ok (.aload_n 0, 1) := by decide +kernel
theorem d_MM_rule0_136 : decode y_MM_rule0.2.1 136 = .ok (.iload_n 2, 1) := by decide +kernel
theorem d_MM_rule0_137 : decode y_MM_rule0.2.1 137 = .ok (.bipush 30, 2) := by decide +kernel
theorem d_MM_rule0_139 : decode y_MM_rule0.2.1 139 = .ok (.if_icmp .ne 7, 3) := by decide +kernel
theorem d_MM_rule0_142 : decode y_MM_rule0.2.1 142 = .ok (.iconst 1, 1) := by decide +kernel
theorem d_MM_rule0_143 : decode y_MM_rule0.2.1 143 = .ok (.goto 4, 3) := by decide +kernel
theorem d_MM_rule0_146 : decode y_MM_rule0.2.1 146 = .ok (.iconst 0, 1) := by decide +kernel
theorem d_MM_rule0_147 : decode y_MM_rule0.2.1 147 = .ok (.bipush 64, 2) := by decide +kernel
theorem d_MM_rule0_149 : decode y_MM_rule0.2.1 149 = .ok (.bipush 65, 2) := by decide +kernel
theorem d_MM_rule0_151 : decode y_MM_rule0.2.1 151 = .ok (.invokevirtual 247, 3) := by decide +kernel
theorem d_MM_rule0_154 : decode y_MM_rule0.2.1 154 = .ok (.ireturn, 1) := by decide +kernel
theorem d_MM_rule0_155 : decode y_MM_rule0.2.1 155 = .ok (.aload_n 0, 1) := by decide +kernel
theorem d_MM_rule0_156 : decode y_MM_rule0.2.1 156 = .ok (.getfield 28, 3) := by decide +kernel
theorem d_MM_rule0_159 : decode y_MM_rule0.2.1 159 = .ok (.bipush 66, 2) := by decide +kernel
theorem d_MM_rule0_161 : decode y_MM_rule0.2.1 161 = .ok (.invokevirtual 152, 3) := by decide +kernel
theorem d_MM_rule0_164 : decode y_MM_rule0.2.1 164 = .ok (.aload_n 0, 1) := by decide +kernel
theorem d_MM_rule0_165 : decode y_MM_rule0.2.1 165 = .ok (.getfield 28, 3) := by decide +kernel
theorem d_MM_rule0_168 : decode y_MM_rule0.2.1 168 = .ok (.bipush 67, 2) := by decide +kernel
theorem d_MM_rule0_170 : decode y_MM_rule0.2.1 170 = .ok (.invokevirtual 152, 3) := by decide +kernel
theorem d_MM_rule0_173 : decode y_MM_rule0.2.1 173 = .ok (.iconst 0, 1) := by decide +kernel
theorem d_MM_rule0_174 : decode y_MM_rule0.2.1 174 = .ok (.ireturn, 1) := by decide +kernel
theorem d_MM_rule0_175 : decode y_MM_rule0.2.1 175 = .ok (.aload_n 0, 1) := by decide +kernel
theorem d_MM_rule0_176 : decode y_MM_rule0.2.1 176 = .ok (.iload_n 2, 1) := by decide +kernel
theorem d_MM_rule0_177 : decode y_MM_rule0.2.1 177 = .ok (.bipush 29, 2) := by decide +kernel
theorem d_MM_rule0_179 : decode y_MM_rule0.2.1 179 = .ok (.if_icmp .ne 7, 3) := by decide +kernel
theorem d_MM_rule0_182 : decode y_MM_rule0.2.1 182 = .ok (.iconst 1, 1) := by decide +kernel
theorem d_MM_rule0_183 : decode y_MM_rule0.2.1 183 = .ok (.goto 4, 3) := by decide +kernel
theorem d_MM_rule0_186 : decode y_MM_rule0.2.1 186 = .ok (.iconst 0, 1) := by decide +kernel
theorem d_MM_rule0_187 : decode y_MM_rule0.2.1 187 = .ok (.bipush 66, 2) := by decide +kernel
theorem d_MM_rule0_189 : decode y_MM_rule0.2.1 189 = .ok (.bipush 67, 2) := by decide +kernel
theorem d_MM_rule0_191 : decode y_MM_rule0.2.1 191 = .ok (.invokevirtual 247, 3) := by decide +kernel
theorem d_MM_rule0_194 : decode y_MM_rule0.2.1 194 = .ok (.ireturn, 1) := by decide +kernel
theorem d_MM_rule0_195 : decode y_MM_rule0.2.1 195 = .ok (.iload_n 2, 1) := by decide +kernel
theorem d_MM_rule0_196 : decode y_MM_rule0.2.1 196 = .ok (.bipush 31, 2) := by decide +kernel
theorem d_MM_rule0_198 : decode y_MM_rule0.2.1 198 = .ok (.if_icmp .ne 34, 3) := by decide +kernel
theorem d_MM_rule0_201 : decode y_MM_rule0.2.1 201 = .ok (.aload_n 0, 1) := by decide +kernel
theorem d_MM_rule0_202 : decode y_MM_rule0.2.1 202 = .ok (.getfield 28, 3) := by decide +kernel
theorem d_MM_rule0_205 : decode y_MM_rule0.2.1 205 = .ok (.bipush 75, 2) := by decide +kernel
theorem d_MM_rule0_232 : decode y_MM_rule0.2.1 232 = .ok (.aload_n 0, 1) := by decide +kernel
theorem d_MM_rule0_233 : decode y_MM_rule0.2.1 233 = .ok (.getfield 28, 3) := by decide +kernel
theorem d_MM_rule0_236 : decode y_MM_rule0.2.1 236 = .ok (.bipush 68, 2) := by decide +kernel
theorem d_MM_rule0_207 : decode y_MM_rule0.2.1 207 = .ok (.invokevirtual 152, 3) := by decide +kernel
theorem d_MM_rule0_210 : decode y_MM_rule0.2.1 210 = .ok (.aload_n 0, 1) := by decide +kernel
theorem d_MM_rule0_211 : decode y_MM_rule0.2.1 211 = .ok (.getfield 28, 3) := by decide +kernel
theorem d_MM_rule0_214 : decode y_MM_rule0.2.1 214 = .ok (.bipush 67, 2) := by decide +kernel
theorem d_MM_rule0_216 : decode y_MM_rule0.2.1 216 = .ok (.invokevirtual 152, 3) := by decide +kernel
theorem d_MM_rule0_219 : decode y_MM_rule0.2.1 219 = .ok (.aload_n 0, 1) := by decide +kernel
theorem d_MM_rule0_220 : decode y_MM_rule0.2.1 220 = .ok (.invokevirtual 254, 3) := by decide +kernel
theorem d_MM_rule0_223 : decode y_MM_rule0.2.1 223 = .ok (.ifCond .eq 7, 3) := by decide +kernel
theorem d_MM_rule0_230 : decode y_MM_rule0.2.1 230 = .ok (.iconst (-1), 1) := by decide +kernel
theorem d_MM_rule0_226 : decode y_MM_rule0.2.1 226 = .ok (.iconst 1, 1) := by decide +kernel
theorem d_MM_rule0_227 : decode y_MM_rule0.2.1 227 = .ok (.goto 4, 3) := by decide +kernel
theorem d_MM_rule0_231 : decode y_MM_rule0.2.1 231 = .ok (.ireturn, 1) := by decide +kernel
theorem d_MM_rule0_238 : decode y_MM_rule0.2.1 238 = .ok (.invokevirtual 152, 3) := by decide +kernel
theorem d_MM_rule0_241 : decode y_MM_rule0.2.1 241 = .ok (.aload_n 0, 1) := by decide +kernel
theorem d_MM_rule0_242 : decode y_MM_rule0.2.1 242 = .ok (.getfield 28, 3) := by decide +kernel
theorem d_MM_rule0_245 : decode y_MM_rule0.2.1 245 = .ok (.bipush 69, 2) := by decide +kernel
theorem d_MM_rule0_247 : decode y_MM_rule0.2.1 247 = .ok (.invokevirtual 152, 3) := by decide +kernel
theorem d_MM_rule0_250 : decode y_MM_rule0.2.1 250 = .ok (.iconst 0, 1) := by decide +kernel
theorem d_MM_rule0_251 : decode y_MM_rule0.2.1 251 = .ok (.ireturn, 1) := by decide +kernel
theorem d_MM_rule0_252 : decode y_MM_rule0.2.1 252 = .ok (.iload_n 2, 1) := by decide +kernel
theorem d_MM_rule0_253 : decode y_MM_rule0.2.1 253 = .ok (.invokestatic 261, 3) := by decide +kernel
theorem d_MM_rule0_256 : decode y_MM_rule0.2.1 256 = .ok (.ifCond .eq 14, 3) := by decide +kernel
theorem d_MM_rule0_270 : decode y_MM_rule0.2.1 270 = .ok (.iconst 0, 1) := by decide +kernel
theorem d_MM_rule0_271 : decode y_MM_rule0.2.1 271 = .ok (.ireturn, 1) := by decide +kernel
theorem d_MM_rule0_259 : decode y_MM_rule0.2.1 259 = .ok (.aload_n 0, 1) := by decide +kernel
theorem d_MM_rule0_260 : decode y_MM_rule0.2.1 260 = .ok (.getfield 28, 3) := by decide +kernel
theorem d_MM_rule0_263 : decode y_MM_rule0.2.1 263 = .ok (.bipush 69, 2) := by decide +kernel
theorem d_MM_rule0_265 : decode y_MM_rule0.2.1 265 = .ok (.invokevirtual 152, 3) := by decide +kernel
theorem d_MM_rule0_268 : decode y_MM_rule0.2.1 268 = .ok (.iconst 1, 1) := by decide +kernel
theorem d_MM_rule0_269 : decode y_MM_rule0.2.1 269 = .ok (.ireturn, 1) := by decide +kernel
theorem d_MM_rule0_272 : decode y_MM_rule0.2.1 272 = .ok (.aload_n 0, 1) := by decide +kernel
theorem d_MM_rule0_273 : decode y_MM_rule0.2.1 273 = .ok (.getfield 28, 3) := by decide +kernel
theorem d_MM_rule0_276 : decode y_MM_rule0.2.1 276 = .ok (.bipush 70, 2) := by decide +kernel
theorem d_MM_rule0_278 : decode y_MM_rule0.2.1 278 = .ok (.invokevirtual 152, 3) := by decide +kernel
theorem d_MM_rule0_281 : decode y_MM_rule0.2.1 281 = .ok (.aload_n 0, 1) := by decide +kernel
theorem d_MM_rule0_282 : decode y_MM_rule0.2.1 282 = .ok (.getfield 28, 3) := by decide +kernel
theorem d_MM_rule0_285 : decode y_MM_rule0.2.1 285 = .ok (.bipush 71, 2) := by decide +kernel
theorem d_MM_rule0_287 : decode y_MM_rule0.2.1 287 = .ok (.invokevirtual 152, 3) := by decide +kernel
theorem d_MM_rule0_290 : decode y_MM_rule0.2.1 290 = .ok (.iconst 0, 1) := by decide +kernel
theorem d_MM_rule0_291 : decode y_MM_rule0.2.1 291 = .ok (.ireturn, 1) := by decide +kernel
theorem d_MM_rule0_292 : decode y_MM_rule0.2.1 292 = .ok (.aload_n 0, 1) := by decide +kernel
theorem d_MM_rule0_293 : decode y_MM_rule0.2.1 293 = .ok (.iload_n 2, 1) := by decide +kernel
theorem d_MM_rule0_294 : decode y_MM_rule0.2.1 294 = .ok (.bipush 24, 2) := by decide +kernel
theorem d_MM_rule0_296 : decode y_MM_rule0.2.1 296 = .ok (.if_icmp .eq 9, 3) := by decide +kernel
theorem d_MM_rule0_305 : decode y_MM_rule0.2.1 305 = .ok (.iconst 1, 1) := by decide +kernel
theorem d_MM_rule0_306 : decode y_MM_rule0.2.1 306 = .ok (.goto 4, 3) := by decide +kernel
theorem d_MM_rule0_299 : decode y_MM_rule0.2.1 299 = .ok (.iload_n 2, 1) := by decide +kernel
theorem d_MM_rule0_300 : decode y_MM_rule0.2.1 300 = .ok (.bipush 25, 2) := by decide +kernel
theorem d_MM_rule0_302 : decode y_MM_rule0.2.1 302 = .ok (.if_icmp .ne 7, 3) := by decide +kernel
theorem d_MM_rule0_309 : decode y_MM_rule0.2.1 309 = .ok (.iconst 0, 1) := by decide +kernel
theorem d_MM_rule0_310 : decode y_MM_rule0.2.1 310 = .ok (.bipush 70, 2) := by decide +kernel
theorem d_MM_rule0_312 : decode y_MM_rule0.2.1 312 = .ok (.bipush 71, 2) := by decide +kernel
theorem d_MM_rule0_314 : decode y_MM_rule0.2.1 314 = .ok (.invokevirtual 247, 3) := by decide +kernel
theorem d_MM_rule0_317 : decode y_MM_rule0.2.1 317 = .ok (.ireturn, 1) := by decide +kernel
theorem d_MM_rule0_318 : decode y_MM_rule0.2.1 318 = .ok (.aload_n 0, 1) := by decide +kernel
theorem d_MM_rule0_319 : decode y_MM_rule0.2.1 319 = .ok (.getfield 28, 3) := by decide +kernel
theorem d_MM_rule0_322 : decode y_MM_rule0.2.1 322 = .ok (.bipush 72, 2) := by decide +kernel
theorem d_MM_rule0_324 : decode y_MM_rule0.2.1 324 = .ok (.invokevirtual 152, 3) := by decide +kernel
theorem d_MM_rule0_327 : decode y_MM_rule0.2.1 327 = .ok (.aload_n 0, 1) := by decide +kernel
theorem d_MM_rule0_328 : decode y_MM_rule0.2.1 328 = .ok (.getfield 28, 3) := by decide +kernel
theorem d_MM_rule0_331 : decode y_MM_rule0.2.1 331 = .ok (.bipush 73, 2) := by decide +kernel
theorem d_MM_rule0_333 : decode y_MM_rule0.2.1 333 = .ok (.invokevirtual 152, 3) := by decide +kernel
theorem d_MM_rule0_336 : decode y_MM_rule0.2.1 336 = .ok (.iconst 0, 1) := by decide +kernel
theorem d_MM_rule0_337 : decode y_MM_rule0.2.1 337 = .ok (.ireturn, 1) := by decide +kernel
theorem d_MM_rule0_338 : decode y_MM_rule0.2.1 338 = .ok (.aload_n 0, 1) := by decide +kernel
theorem d_MM_rule0_339 : decode y_MM_rule0.2.1 339 = .ok (.iload_n 2, 1) := by decide +kernel
theorem d_MM_rule0_340 : decode y_MM_rule0.2.1 340 = .ok (.bipush 26, 2) := by decide +kernel
theorem d_MM_rule0_342 : decode y_MM_rule0.2.1 342 = .ok (.if_icmp .eq 15, 3) := by decide +kernel
theorem d_MM_rule0_357 : decode y_MM_rule0.2.1 357 = .ok (.iconst 1, 1) := by decide +kernel
theorem d_MM_rule0_358 : decode y_MM_rule0.2.1 358 = .ok (.goto 4, 3) := by decide +kernel
theorem d_MM_rule0_345 : decode y_MM_rule0.2.1 345 = .ok (.iload_n 2, 1) := by decide +kernel
theorem d_MM_rule0_346 : decode y_MM_rule0.2.1 346 = .ok (.bipush 27, 2) := by decide +kernel
theorem d_MM_rule0_348 : decode y_MM_rule0.2.1 348 = .ok (.if_icmp .eq 9, 3) := by decide +kernel
theorem d_MM_rule0_351 : decode y_MM_rule0.2.1 351 = .ok (.iload_n 2, 1) := by decide +kernel
theorem d_MM_rule0_352 : decode y_MM_rule0.2.1 352 = .ok (.bipush 28, 2) := by decide +kernel
theorem d_MM_rule0_354 : decode y_MM_rule0.2.1 354 = .ok (.if_icmp .ne 7, 3) := by decide +kernel
theorem d_MM_rule0_361 : decode y_MM_rule0.2.1 361 = .ok (.iconst 0, 1) := by decide +kernel
theorem d_MM_rule0_362 : decode y_MM_rule0.2.1 362 = .ok (.bipush 72, 2) := by decide +kernel
theorem d_MM_rule0_364 : decode y_MM_rule0.2.1 364 = .ok (.bipush 73, 2) := by decide +kernel
theorem d_MM_rule0_366 : decode y_MM_rule0.2.1 366 = .ok (.invokevirtual 247, 3) := by decide +kernel
theorem d_MM_rule0_369 : decode y_MM_rule0.2.1 369 = .ok (.ireturn, 1) := by decide +kernel
theorem d_MM_rule0_370 : decode y_MM_rule0.2.1 370 = .ok (.aload_n 0, 1) := by decide +kernel
theorem d_MM_rule0_371 : decode y_MM_rule0.2.1 371 = .ok (.iload_n 2, 1) := by decide +kernel
theorem d_MM_rule0_372 : decode y_MM_rule0.2.1 372 = .ok (.bipush 35, 2) := by decide +kernel
theorem d_MM_rule0_374 : decode y_MM_rule0.2.1 374 = .ok (.if_icmp .ne 7, 3) := by decide +kernel
theorem d_MM_rule0_377 : decode y_MM_rule0.2.1 377 = .ok (.iconst 1, 1) := by decide +kernel
theorem d_MM_rule0_378 : decode y_MM_rule0.2.1 378 = .ok (.goto 4, 3) := by decide +kernel
theorem d_MM_rule0_381 : decode y_MM_rule0.2.1 381 = .ok (.iconst 0, 1) := by decide +kernel
theorem d_MM_rule0_382 : decode y_MM_rule0.2.1 382 = .ok (.bipush 74, 2) := by decide +kernel
theorem d_MM_rule0_384 : decode y_MM_rule0.2.1 384 = .ok (.bipush 61, 2) := by decide +kernel
theorem d_MM_rule0_386 : decode y_MM_rule0.2.1 386 = .ok (.invokevirtual 247, 3) := by decide +kernel
theorem d_MM_rule0_389 : decode y_MM_rule0.2.1 389 = .ok (.ireturn, 1) := by decide +kernel
theorem d_MM_rule0_390 : decode y_MM_rule0.2.1 390 = .ok (.iload_n 2, 1) := by decide +kernel
theorem d_MM_rule0_391 : decode y_MM_rule0.2.1 391 = .ok (.bipush 36, 2) := by decide +kernel
theorem d_MM_rule0_393 : decode y_MM_rule0.2.1 393 = .ok (.if_icmp .ne 14, 3) := by decide +kernel
theorem d_MM_rule0_396 : decode y_MM_rule0.2.1 396 = .ok (.aload_n 0, 1) := by decide +kernel
theorem d_MM_rule0_397 : decode y_MM_rule0.2.1 397 = .ok (.invokevirtual 254, 3) := by decide +kernel
theorem d_MM_rule0_400 : decode y_MM_rule0.2.1 400 = .ok (.ifCond .eq 7, 3) := by decide +kernel
theorem d_MM_rule0_403 : decode y_MM_rule0.2.1 403 = .ok (.iconst 1, 1) := by decide +kernel
theorem d_MM_rule0_404 : decode y_MM_rule0.2.1 404 = .ok (.goto 4, 3) := by decide +kernel
theorem d_MM_rule0_407 : decode y_MM_rule0.2.1 407 = .ok (.iconst (-1), 1) := by decide +kernel
theorem d_MM_rule0_409 : decode y_MM_rule0.2.1 409 = .ok (.aload_n 0, 1) := by decide +kernel
theorem d_MM_rule0_410 : decode y_MM_rule0.2.1 410 = .ok (.iload_n 2, 1) := by decide +kernel
theorem d_MM_rule0_411 : decode y_MM_rule0.2.1 411 = .ok (.invokevirtual 264, 3) := by decide +kernel
theorem d_MM_rule0_414 : decode y_MM_rule0.2.1 414 = .ok (.ireturn, 1) := by decide +kernel
theorem d_MM_rule0_114 : decode y_MM_rule0.2.1 114 = .ok (.ireturn, 1) := by decide +kernel
theorem d_MM_rule0_408 : decode y_MM_rule0.2.1 408 = .ok (.ireturn, 1) := by decide +kernel
def h_MM_rule0_114 (G : mG) (d : Nat) (k0 : Int) (M : mM) (Q : Int → mM → Prop) : Prop := mWm G y_MM_rule0 (d + 1) 114 [vd, vd, vd] [vi k0] M (fun r9 M9 => ∃ x9, r9 = some (vi x9) ∧ Q x9 M9)
def h_MM_rule0_408 (G : mG) (d : Nat) (k0 : Int) (M : mM) (Q : Int → mM → Prop) : Prop := mWm G y_MM_rule0 (d + 1) 408 [vd, vd, vd] [vi k0] M (fun r9 M9 => ∃ x9, r9 = some (vi x9) ∧ Q x9 M9)
theorem k_MM_rule0 {G : mG} {d : Nat} {a0 : Nat} {l1 : Int} {l2 : Int} {M : mM} {Q : Int → mM → Prop} (hO : mOk M) (hi_l1 : i32 l1) (hi_l2 : i32 l2)
    (h : ((l1 = 61) → (mK M a0 = 14 ∧ mK M (mR M a0 6) = 15 ∧ Cv G y_MN_add d [vr (mR M a0 6), vi 62] M (fun M6 => mOk M6 ∧ (mK M6 a0 = 14 ∧ mK M6 (mR M6 a0 6) = 15 ∧ Cv G y_MN_add d [vr (mR M6 a0 6), vi 63] M6 (fun M11 => mOk M11 ∧ (Q 0 M11)))))) ∧ (¬ (l1 = 61) → (((l1 = 62) → (((l2 = 32) → (mK M a0 = 14 ∧ Ci G y_MM_ask d [vr a0] M (fun x20 M19 => i32 x20 ∧ mOk M19 ∧ (h_MM_rule0_114 G d x20 M19 Q)))) ∧ (¬ (l2 = 32) → (h_MM_rule0_114 G d 0 M Q)))) ∧ (¬ (l1 = 62) → (((l1 = 63) → (mK M a0 = 14 ∧ mK M (mR M a0 6) = 15 ∧ Cv G y_MN_add d [vr (mR M a0 6), vi 64] M (fun M26 => mOk M26 ∧ (mK M26 a0 = 14 ∧ mK M26 (mR M26 a0 6) = 15 ∧ Cv G y_MN_add d [vr (mR M26 a0 6), vi 65] M26 (fun M31 => mOk M31 ∧ (Q 0 M31)))))) ∧ (¬ (l1 = 63) → (((l1 = 64) → (∀ v37 : Int, v37 = (if (l2 = 30) then 1 else 0) → mK M a0 = 14 ∧ Ci G y_MM_again d [vr a0, vi v37, vi 64, vi 65] M (fun x44 M43 => i32 x44 ∧ mOk M43 ∧ (Q x44 M43)))) ∧ (¬ (l1 = 64) → (((l1 = 65) → (mK M a0 = 14 ∧ mK M (mR M a0 6) = 15 ∧ Cv G y_MN_add d [vr (mR M a0 6), vi 66] M (fun M51 => mOk M51 ∧ (mK M51 a0 = 14 ∧ mK M51 (mR M51 a0 6) = 15 ∧ Cv G y_MN_add d [vr (mR M51 a0 6), vi 67] M51 (fun M56 => mOk M56 ∧ (Q 0 M56)))))) ∧ (¬ (l1 = 65) → (((l1 = 66) → (∀ v62 : Int, v62 = (if (l2 = 29) then 1 else 0) → mK M a0 = 14 ∧ Ci G y_MM_again d [vr a0, vi v62, vi 66, vi 67] M (fun x69 M68 => i32 x69 ∧ mOk M68 ∧ (Q x69 M68)))) ∧ (¬ (l1 = 66) → (((l1 = 67) → (((l2 = 31) → (mK M a0 = 14 ∧ mK M (mR M a0 6) = 15 ∧ Cv G y_MN_add d [vr (mR M a0 6), vi 75] M (fun M78 => mOk M78 ∧ (mK M78 a0 = 14 ∧ mK M78 (mR M78 a0 6) = 15 ∧ Cv G y_MN_add d [vr (mR M78 a0 6), vi 67] M78 (fun M83 => mOk M83 ∧ (mK M83 a0 = 14 ∧ Ci G y_MM_level d [vr a0] M83 (fun x88 M87 => i32 x88 ∧ mOk M87 ∧ (∀ v91 : Int, v91 = (if (x88 = 0) then (-1) else 1) → Q v91 M87)))))))) ∧ (¬ (l2 = 31) → (mK M a0 = 14 ∧ mK M (mR M a0 6) = 15 ∧ Cv G y_MN_add d [vr (mR M a0 6), vi 68] M (fun M98 => mOk M98 ∧ (mK M98 a0 = 14 ∧ mK M98 (mR M98 a0 6) = 15 ∧ Cv G y_MN_add d [vr (mR M98 a0 6), vi 69] M98 (fun M103 => mOk M103 ∧ (Q 0 M103)))))))) ∧ (¬ (l1 = 67) → (((l1 = 68) → (Ci G y_MM_isComparison d [vi l2] M (fun x109 M108 => i32 x109 ∧ mOk M108 ∧ (((x109 = 0) → (Q 0 M108)) ∧ (¬ (x109 = 0) → (mK M108 a0 = 14 ∧ mK M108 (mR M108 a0 6) = 15 ∧ Cv G y_MN_add d [vr (mR M108 a0 6), vi 69] M108 (fun M115 => mOk M115 ∧ (Q 1 M115)))))))) ∧ (¬ (l1 = 68) → (((l1 = 69) → (mK M a0 = 14 ∧ mK M (mR M a0 6) = 15 ∧ Cv G y_MN_add d [vr (mR M a0 6), vi 70] M (fun M122 => mOk M122 ∧ (mK M122 a0 = 14 ∧ mK M122 (mR M122 a0 6) = 15 ∧ Cv G y_MN_add d [vr (mR M122 a0 6), vi 71] M122 (fun M127 => mOk M127 ∧ (Q 0 M127)))))) ∧ (¬ (l1 = 69) → (((l1 = 70) → (∀ v134 : Int, v134 = (if ((l2 = 24) ∨ (l2 = 25)) then 1 else 0) → mK M a0 = 14 ∧ Ci G y_MM_again d [vr a0, vi v134, vi 70, vi 71] M (fun x141 M140 => i32 x141 ∧ mOk M140 ∧ (Q x141 M140)))) ∧ (¬ (l1 = 70) → (((l1 = 71) → (mK M a0 = 14 ∧ mK M (mR M a0 6) = 15 ∧ Cv G y_MN_add d [vr (mR M a0 6), vi 72] M (fun M149 => mOk M149 ∧ (mK M149 a0 = 14 ∧ mK M149 (mR M149 a0 6) = 15 ∧ Cv G y_MN_add d [vr (mR M149 a0 6), vi 73] M149 (fun M154 => mOk M154 ∧ (Q 0 M154)))))) ∧ (¬ (l1 = 71) → (((l1 = 72) → (∀ v162 : Int, v162 = (if ((l2 = 26) ∨ ((l2 = 27) ∨ (l2 = 28))) then 1 else 0) → mK M a0 = 14 ∧ Ci G y_MM_again d [vr a0, vi v162, vi 72, vi 73] M (fun x169 M168 => i32 x169 ∧ mOk M168 ∧ (Q x169 M168)))) ∧ (¬ (l1 = 72) → (((l1 = 74) → (∀ v177 : Int, v177 = (if (l2 = 35) then 1 else 0) → mK M a0 = 14 ∧ Ci G y_MM_again d [vr a0, vi v177, vi 74, vi 61] M (fun x184 M183 => i32 x184 ∧ mOk M183 ∧ (Q x184 M183)))) ∧ (¬ (l1 = 74) → (((l1 = 76) → (((l2 = 36) → (mK M a0 = 14 ∧ Ci G y_MM_level d [vr a0] M (fun x193 M192 => i32 x193 ∧ mOk M192 ∧ (((x193 = 0) → (h_MM_rule0_408 G d (-1) M192 Q)) ∧ (¬ (x193 = 0) → (h_MM_rule0_408 G d 1 M192 Q)))))) ∧ (¬ (l2 = 36) → (h_MM_rule0_408 G d (-1) M Q)))) ∧ (¬ (l1 = 76) → (mK M a0 = 14 ∧ Ci G y_MM_sign d [vr a0, vi l2] M (fun x199 M198 => i32 x199 ∧ mOk M198 ∧ (Q x199 M198))))))))))))))))))))))))))))))) :
    Ci G y_MM_rule0 (d + 1) [vr a0, vi l1, vi l2] M Q := by
  refine wm_open (y := y_MM_rule0) rfl (Nat.le_of_ble_eq_true rfl) (L := [vr a0, vi l1, vi l2]) rfl ?_
  refine wm_iload_n d_MM_rule0_0 rfl rfl ?_
  by_cases c3 : l1 = 61
  · replace h := h.1 c3
    refine wm_tableIn (tgt := 80) (off := 79) d_MM_rule0_1 hi_l1 (by omega) (by omega) (by rw [c3]; rfl) rfl ?_
    obtain ⟨h4, h⟩ := h
    obtain ⟨h5, h⟩ := h
    refine wm_aload_n d_MM_rule0_80 rfl rfl ?_
    refine gf_MM_28 rfl d_MM_rule0_81 h4 ?_
    refine wm_bipush d_MM_rule0_84 (by decide) ?_
    refine cf_MM_152 rfl d_MM_rule0_86 h5 (Nat.le_of_ble_eq_true rfl) (Cv.mono h (fun M6 h => ?_))
    obtain ⟨hOM6, h⟩ := h
    obtain ⟨h9, h⟩ := h
    obtain ⟨h10, h⟩ := h
    refine wm_aload_n d_MM_rule0_89 rfl rfl ?_
    refine gf_MM_28 rfl d_MM_rule0_90 h9 ?_
    refine wm_bipush d_MM_rule0_93 (by decide) ?_
    refine cf_MM_152 rfl d_MM_rule0_95 h10 (Nat.le_of_ble_eq_true rfl) (Cv.mono h (fun M11 h => ?_))
    obtain ⟨hOM11, h⟩ := h
    refine wm_iconst d_MM_rule0_98 ?_
    refine wm_ireturn d_MM_rule0_99 rfl rfl ?_
    exact ⟨_, rfl, h⟩
  · replace h := h.2 c3
    by_cases c15 : l1 = 62
    · replace h := h.1 c15
      refine wm_tableIn (tgt := 100) (off := 99) d_MM_rule0_1 hi_l1 (by omega) (by omega) (by rw [c15]; rfl) rfl ?_
      refine wm_iload_n d_MM_rule0_100 rfl rfl ?_
      refine wm_bipush d_MM_rule0_101 (by decide) ?_
      refine wm_icmp_ne (tgt := 113) d_MM_rule0_103 rfl hi_l2 ⟨by decide, by decide⟩ (fun c17 => ?_) (fun c17 => ?_)
      · replace h := h.2 c17
        refine wm_iconst d_MM_rule0_113 ?_
        refine wm_less (L' := [vd, vd, vd]) ⟨Or.inl rfl, Or.inl rfl, Or.inl rfl, trivial⟩ ?_
        exact h
      · replace c17 := Classical.not_not.mp c17
        replace h := h.1 c17
        obtain ⟨h18, h⟩ := h
        refine wm_aload_n d_MM_rule0_106 rfl rfl ?_
        refine cf_MM_258 rfl d_MM_rule0_107 h18 (Nat.le_of_ble_eq_true rfl) (Ci.mono h (fun x20 M19 h => ?_))
        obtain ⟨h21, hOM19, h⟩ := h
        refine wm_goto (tgt := 114) d_MM_rule0_110 rfl ?_
        refine wm_less (L' := [vd, vd, vd]) ⟨Or.inl rfl, Or.inl rfl, Or.inl rfl, trivial⟩ ?_
        exact h
    · replace h := h.2 c15
      by_cases c23 : l1 = 63
      · replace h := h.1 c23
        refine wm_tableIn (tgt := 115) (off := 114) d_MM_rule0_1 hi_l1 (by omega) (by omega) (by rw [c23]; rfl) rfl ?_
        obtain ⟨h24, h⟩ := h
        obtain ⟨h25, h⟩ := h
        refine wm_aload_n d_MM_rule0_115 rfl rfl ?_
        refine gf_MM_28 rfl d_MM_rule0_116 h24 ?_
        refine wm_bipush d_MM_rule0_119 (by decide) ?_
        refine cf_MM_152 rfl d_MM_rule0_121 h25 (Nat.le_of_ble_eq_true rfl) (Cv.mono h (fun M26 h => ?_))
        obtain ⟨hOM26, h⟩ := h
        obtain ⟨h29, h⟩ := h
        obtain ⟨h30, h⟩ := h
        refine wm_aload_n d_MM_rule0_124 rfl rfl ?_
        refine gf_MM_28 rfl d_MM_rule0_125 h29 ?_
        refine wm_bipush d_MM_rule0_128 (by decide) ?_
        refine cf_MM_152 rfl d_MM_rule0_130 h30 (Nat.le_of_ble_eq_true rfl) (Cv.mono h (fun M31 h => ?_))
        obtain ⟨hOM31, h⟩ := h
        refine wm_iconst d_MM_rule0_133 ?_
        refine wm_ireturn d_MM_rule0_134 rfl rfl ?_
        exact ⟨_, rfl, h⟩
      · replace h := h.2 c23
        by_cases c35 : l1 = 64
        · replace h := h.1 c35
          refine wm_tableIn (tgt := 135) (off := 134) d_MM_rule0_1 hi_l1 (by omega) (by omega) (by rw [c35]; rfl) rfl ?_
          refine wm_aload_n d_MM_rule0_135 rfl rfl ?_
          refine wm_iload_n d_MM_rule0_136 rfl rfl ?_
          refine wm_bipush d_MM_rule0_137 (by decide) ?_
          have hJ : ∀ v37 : Int, v37 = (if (l2 = 30) then 1 else 0) → mWm G y_MM_rule0 (d + 1) 147 [vd, vd, vd] [vi v37, vr a0] M (fun r9 M9 => ∃ x9, r9 = some (vi x9) ∧ Q x9 M9) := by
            intro v37 e39
            have h := h v37 e39
            have h40 : i32 v37 := by rw [e39]; (repeat' split) <;> first | exact ⟨by decide, by decide⟩ | exact ⟨by decide, by decide⟩
            have h41 : (v37 = 0 ∨ v37 = 1) := by rw [e39]; (repeat' split) <;> decide
            obtain ⟨h42, h⟩ := h
            refine wm_bipush d_MM_rule0_147 (by decide) ?_
            refine wm_bipush d_MM_rule0_149 (by decide) ?_
            refine cf_MM_247 rfl d_MM_rule0_151 h42 (Nat.le_of_ble_eq_true rfl) (Ci.mono h (fun x44 M43 h => ?_))
            obtain ⟨h45, hOM43, h⟩ := h
            refine wm_ireturn d_MM_rule0_154 rfl rfl ?_
            exact ⟨_, rfl, h⟩
          clear h
          refine wm_icmp_ne (tgt := 146) d_MM_rule0_139 rfl hi_l2 ⟨by decide, by decide⟩ (fun c36 => ?_) (fun c36 => ?_)
          · refine wm_iconst d_MM_rule0_146 ?_
            refine wm_less (L' := [vd, vd, vd]) ⟨Or.inl rfl, Or.inl rfl, Or.inl rfl, trivial⟩ ?_
            exact hJ 0 (if_neg c36).symm
          · replace c36 := Classical.not_not.mp c36
            refine wm_iconst d_MM_rule0_142 ?_
            refine wm_goto (tgt := 147) d_MM_rule0_143 rfl ?_
            refine wm_less (L' := [vd, vd, vd]) ⟨Or.inl rfl, Or.inl rfl, Or.inl rfl, trivial⟩ ?_
            exact hJ 1 (if_pos c36).symm
        · replace h := h.2 c35
          by_cases c48 : l1 = 65
          · replace h := h.1 c48
            refine wm_tableIn (tgt := 155) (off := 154) d_MM_rule0_1 hi_l1 (by omega) (by omega) (by rw [c48]; rfl) rfl ?_
            obtain ⟨h49, h⟩ := h
            obtain ⟨h50, h⟩ := h
            refine wm_aload_n d_MM_rule0_155 rfl rfl ?_
            refine gf_MM_28 rfl d_MM_rule0_156 h49 ?_
            refine wm_bipush d_MM_rule0_159 (by decide) ?_
            refine cf_MM_152 rfl d_MM_rule0_161 h50 (Nat.le_of_ble_eq_true rfl) (Cv.mono h (fun M51 h => ?_))
            obtain ⟨hOM51, h⟩ := h
            obtain ⟨h54, h⟩ := h
            obtain ⟨h55, h⟩ := h
            refine wm_aload_n d_MM_rule0_164 rfl rfl ?_
            refine gf_MM_28 rfl d_MM_rule0_165 h54 ?_
            refine wm_bipush d_MM_rule0_168 (by decide) ?_
            refine cf_MM_152 rfl d_MM_rule0_170 h55 (Nat.le_of_ble_eq_true rfl) (Cv.mono h (fun M56 h => ?_))
            obtain ⟨hOM56, h⟩ := h
            refine wm_iconst d_MM_rule0_173 ?_
            refine wm_ireturn d_MM_rule0_174 rfl rfl ?_
            exact ⟨_, rfl, h⟩
          · replace h := h.2 c48
            by_cases c60 : l1 = 66
            · replace h := h.1 c60
              refine wm_tableIn (tgt := 175) (off := 174) d_MM_rule0_1 hi_l1 (by omega) (by omega) (by rw [c60]; rfl) rfl ?_
              refine wm_aload_n d_MM_rule0_175 rfl rfl ?_
              refine wm_iload_n d_MM_rule0_176 rfl rfl ?_
              refine wm_bipush d_MM_rule0_177 (by decide) ?_
              have hJ : ∀ v62 : Int, v62 = (if (l2 = 29) then 1 else 0) → mWm G y_MM_rule0 (d + 1) 187 [vd, vd, vd] [vi v62, vr a0] M (fun r9 M9 => ∃ x9, r9 = some (vi x9) ∧ Q x9 M9) := by
                intro v62 e64
                have h := h v62 e64
                have h65 : i32 v62 := by rw [e64]; (repeat' split) <;> first | exact ⟨by decide, by decide⟩ | exact ⟨by decide, by decide⟩
                have h66 : (v62 = 0 ∨ v62 = 1) := by rw [e64]; (repeat' split) <;> decide
                obtain ⟨h67, h⟩ := h
                refine wm_bipush d_MM_rule0_187 (by decide) ?_
                refine wm_bipush d_MM_rule0_189 (by decide) ?_
                refine cf_MM_247 rfl d_MM_rule0_191 h67 (Nat.le_of_ble_eq_true rfl) (Ci.mono h (fun x69 M68 h => ?_))
                obtain ⟨h70, hOM68, h⟩ := h
                refine wm_ireturn d_MM_rule0_194 rfl rfl ?_
                exact ⟨_, rfl, h⟩
              clear h
              refine wm_icmp_ne (tgt := 186) d_MM_rule0_179 rfl hi_l2 ⟨by decide, by decide⟩ (fun c61 => ?_) (fun c61 => ?_)
              · refine wm_iconst d_MM_rule0_186 ?_
                refine wm_less (L' := [vd, vd, vd]) ⟨Or.inl rfl, Or.inl rfl, Or.inl rfl, trivial⟩ ?_
                exact hJ 0 (if_neg c61).symm
              · replace c61 := Classical.not_not.mp c61
                refine wm_iconst d_MM_rule0_182 ?_
                refine wm_goto (tgt := 187) d_MM_rule0_183 rfl ?_
                refine wm_less (L' := [vd, vd, vd]) ⟨Or.inl rfl, Or.inl rfl, Or.inl rfl, trivial⟩ ?_
                exact hJ 1 (if_pos c61).symm
            · replace h := h.2 c60
              by_cases c73 : l1 = 67
              · replace h := h.1 c73
                refine wm_tableIn (tgt := 195) (off := 194) d_MM_rule0_1 hi_l1 (by omega) (by omega) (by rw [c73]; rfl) rfl ?_
                refine wm_iload_n d_MM_rule0_195 rfl rfl ?_
                refine wm_bipush d_MM_rule0_196 (by decide) ?_
                refine wm_icmp_ne (tgt := 232) d_MM_rule0_198 rfl hi_l2 ⟨by decide, by decide⟩ (fun c75 => ?_) (fun c75 => ?_)
                · replace h := h.2 c75
                  obtain ⟨h96, h⟩ := h
                  obtain ⟨h97, h⟩ := h
                  refine wm_aload_n d_MM_rule0_232 rfl rfl ?_
                  refine gf_MM_28 rfl d_MM_rule0_233 h96 ?_
                  refine wm_bipush d_MM_rule0_236 (by decide) ?_
                  refine cf_MM_152 rfl d_MM_rule0_238 h97 (Nat.le_of_ble_eq_true rfl) (Cv.mono h (fun M98 h => ?_))
                  obtain ⟨hOM98, h⟩ := h
                  obtain ⟨h101, h⟩ := h
                  obtain ⟨h102, h⟩ := h
                  refine wm_aload_n d_MM_rule0_241 rfl rfl ?_
                  refine gf_MM_28 rfl d_MM_rule0_242 h101 ?_
                  refine wm_bipush d_MM_rule0_245 (by decide) ?_
                  refine cf_MM_152 rfl d_MM_rule0_247 h102 (Nat.le_of_ble_eq_true rfl) (Cv.mono h (fun M103 h => ?_))
                  obtain ⟨hOM103, h⟩ := h
                  refine wm_iconst d_MM_rule0_250 ?_
                  refine wm_ireturn d_MM_rule0_251 rfl rfl ?_
                  exact ⟨_, rfl, h⟩
                · replace c75 := Classical.not_not.mp c75
                  replace h := h.1 c75
                  obtain ⟨h76, h⟩ := h
                  obtain ⟨h77, h⟩ := h
                  refine wm_aload_n d_MM_rule0_201 rfl rfl ?_
                  refine gf_MM_28 rfl d_MM_rule0_202 h76 ?_
                  refine wm_bipush d_MM_rule0_205 (by decide) ?_
                  refine cf_MM_152 rfl d_MM_rule0_207 h77 (Nat.le_of_ble_eq_true rfl) (Cv.mono h (fun M78 h => ?_))
                  obtain ⟨hOM78, h⟩ := h
                  obtain ⟨h81, h⟩ := h
                  obtain ⟨h82, h⟩ := h
                  refine wm_aload_n d_MM_rule0_210 rfl rfl ?_
                  refine gf_MM_28 rfl d_MM_rule0_211 h81 ?_
                  refine wm_bipush d_MM_rule0_214 (by decide) ?_
                  refine cf_MM_152 rfl d_MM_rule0_216 h82 (Nat.le_of_ble_eq_true rfl) (Cv.mono h (fun M83 h => ?_))
                  obtain ⟨hOM83, h⟩ := h
                  obtain ⟨h86, h⟩ := h
                  refine wm_aload_n d_MM_rule0_219 rfl rfl ?_
                  refine cf_MM_254 rfl d_MM_rule0_220 h86 (Nat.le_of_ble_eq_true rfl) (Ci.mono h (fun x88 M87 h => ?_))
                  obtain ⟨h89, hOM87, h⟩ := h
                  have hJ : ∀ v91 : Int, v91 = (if (x88 = 0) then (-1) else 1) → mWm G y_MM_rule0 (d + 1) 231 [vd, vd, vd] [vi v91] M87 (fun r9 M9 => ∃ x9, r9 = some (vi x9) ∧ Q x9 M9) := by
                    intro v91 e93
                    have h := h v91 e93
                    have h94 : i32 v91 := by rw [e93]; (repeat' split) <;> first | exact ⟨by decide, by decide⟩ | exact ⟨by decide, by decide⟩
                    refine wm_ireturn d_MM_rule0_231 rfl rfl ?_
                    exact ⟨_, rfl, h⟩
                  clear h
                  refine wm_if_eq (tgt := 230) d_MM_rule0_223 rfl h89 (fun c90 => ?_) (fun c90 => ?_)
                  · refine wm_iconst d_MM_rule0_230 ?_
                    refine wm_less (L' := [vd, vd, vd]) ⟨Or.inl rfl, Or.inl rfl, Or.inl rfl, trivial⟩ ?_
                    exact hJ (-1) (if_pos c90).symm
                  · refine wm_iconst d_MM_rule0_226 ?_
                    refine wm_goto (tgt := 231) d_MM_rule0_227 rfl ?_
                    refine wm_less (L' := [vd, vd, vd]) ⟨Or.inl rfl, Or.inl rfl, Or.inl rfl, trivial⟩ ?_
                    exact hJ 1 (if_neg c90).symm
              · replace h := h.2 c73
                by_cases c107 : l1 = 68
                · replace h := h.1 c107
                  refine wm_tableIn (tgt := 252) (off := 251) d_MM_rule0_1 hi_l1 (by omega) (by omega) (by rw [c107]; rfl) rfl ?_
                  refine wm_iload_n d_MM_rule0_252 rfl rfl ?_
                  refine cf_MM_261 rfl d_MM_rule0_253 (Nat.le_of_ble_eq_true rfl) (Ci.mono h (fun x109 M108 h => ?_))
                  obtain ⟨h110, hOM108, h⟩ := h
                  refine wm_if_eq (tgt := 270) d_MM_rule0_256 rfl h110 (fun c112 => ?_) (fun c112 => ?_)
                  · replace h := h.1 c112
                    refine wm_iconst d_MM_rule0_270 ?_
                    refine wm_ireturn d_MM_rule0_271 rfl rfl ?_
                    exact ⟨_, rfl, h⟩
                  · replace h := h.2 c112
                    obtain ⟨h113, h⟩ := h
                    obtain ⟨h114, h⟩ := h
                    refine wm_aload_n d_MM_rule0_259 rfl rfl ?_
                    refine gf_MM_28 rfl d_MM_rule0_260 h113 ?_
                    refine wm_bipush d_MM_rule0_263 (by decide) ?_
                    refine cf_MM_152 rfl d_MM_rule0_265 h114 (Nat.le_of_ble_eq_true rfl) (Cv.mono h (fun M115 h => ?_))
                    obtain ⟨hOM115, h⟩ := h
                    refine wm_iconst d_MM_rule0_268 ?_
                    refine wm_ireturn d_MM_rule0_269 rfl rfl ?_
                    exact ⟨_, rfl, h⟩
                · replace h := h.2 c107
                  by_cases c119 : l1 = 69
                  · replace h := h.1 c119
                    refine wm_tableIn (tgt := 272) (off := 271) d_MM_rule0_1 hi_l1 (by omega) (by omega) (by rw [c119]; rfl) rfl ?_
                    obtain ⟨h120, h⟩ := h
                    obtain ⟨h121, h⟩ := h
                    refine wm_aload_n d_MM_rule0_272 rfl rfl ?_
                    refine gf_MM_28 rfl d_MM_rule0_273 h120 ?_
                    refine wm_bipush d_MM_rule0_276 (by decide) ?_
                    refine cf_MM_152 rfl d_MM_rule0_278 h121 (Nat.le_of_ble_eq_true rfl) (Cv.mono h (fun M122 h => ?_))
                    obtain ⟨hOM122, h⟩ := h
                    obtain ⟨h125, h⟩ := h
                    obtain ⟨h126, h⟩ := h
                    refine wm_aload_n d_MM_rule0_281 rfl rfl ?_
                    refine gf_MM_28 rfl d_MM_rule0_282 h125 ?_
                    refine wm_bipush d_MM_rule0_285 (by decide) ?_
                    refine cf_MM_152 rfl d_MM_rule0_287 h126 (Nat.le_of_ble_eq_true rfl) (Cv.mono h (fun M127 h => ?_))
                    obtain ⟨hOM127, h⟩ := h
                    refine wm_iconst d_MM_rule0_290 ?_
                    refine wm_ireturn d_MM_rule0_291 rfl rfl ?_
                    exact ⟨_, rfl, h⟩
                  · replace h := h.2 c119
                    by_cases c131 : l1 = 70
                    · replace h := h.1 c131
                      refine wm_tableIn (tgt := 292) (off := 291) d_MM_rule0_1 hi_l1 (by omega) (by omega) (by rw [c131]; rfl) rfl ?_
                      refine wm_aload_n d_MM_rule0_292 rfl rfl ?_
                      refine wm_iload_n d_MM_rule0_293 rfl rfl ?_
                      refine wm_bipush d_MM_rule0_294 (by decide) ?_
                      have hJ : ∀ v134 : Int, v134 = (if ((l2 = 24) ∨ (l2 = 25)) then 1 else 0) → mWm G y_MM_rule0 (d + 1) 310 [vd, vd, vd] [vi v134, vr a0] M (fun r9 M9 => ∃ x9, r9 = some (vi x9) ∧ Q x9 M9) := by
                        intro v134 e136
                        have h := h v134 e136
                        have h137 : i32 v134 := by rw [e136]; (repeat' split) <;> first | exact ⟨by decide, by decide⟩ | exact ⟨by decide, by decide⟩
                        have h138 : (v134 = 0 ∨ v134 = 1) := by rw [e136]; (repeat' split) <;> decide
                        obtain ⟨h139, h⟩ := h
                        refine wm_bipush d_MM_rule0_310 (by decide) ?_
                        refine wm_bipush d_MM_rule0_312 (by decide) ?_
                        refine cf_MM_247 rfl d_MM_rule0_314 h139 (Nat.le_of_ble_eq_true rfl) (Ci.mono h (fun x141 M140 h => ?_))
                        obtain ⟨h142, hOM140, h⟩ := h
                        refine wm_ireturn d_MM_rule0_317 rfl rfl ?_
                        exact ⟨_, rfl, h⟩
                      clear h
                      refine wm_icmp_eq (tgt := 305) d_MM_rule0_296 rfl hi_l2 ⟨by decide, by decide⟩ (fun c132 => ?_) (fun c132 => ?_)
                      · refine wm_iconst d_MM_rule0_305 ?_
                        refine wm_goto (tgt := 310) d_MM_rule0_306 rfl ?_
                        refine wm_less (L' := [vd, vd, vd]) ⟨Or.inl rfl, Or.inl rfl, Or.inl rfl, trivial⟩ ?_
                        exact hJ 1 (if_pos (Or.inl c132)).symm
                      · refine wm_iload_n d_MM_rule0_299 rfl rfl ?_
                        refine wm_bipush d_MM_rule0_300 (by decide) ?_
                        refine wm_icmp_ne (tgt := 309) d_MM_rule0_302 rfl hi_l2 ⟨by decide, by decide⟩ (fun c133 => ?_) (fun c133 => ?_)
                        · refine wm_iconst d_MM_rule0_309 ?_
                          refine wm_less (L' := [vd, vd, vd]) ⟨Or.inl rfl, Or.inl rfl, Or.inl rfl, trivial⟩ ?_
                          exact hJ 0 (if_neg (fun z143 => Or.elim z143 c132 c133)).symm
                        · replace c133 := Classical.not_not.mp c133
                          refine wm_iconst d_MM_rule0_305 ?_
                          refine wm_goto (tgt := 310) d_MM_rule0_306 rfl ?_
                          refine wm_less (L' := [vd, vd, vd]) ⟨Or.inl rfl, Or.inl rfl, Or.inl rfl, trivial⟩ ?_
                          exact hJ 1 (if_pos (Or.inr c133)).symm
                    · replace h := h.2 c131
                      by_cases c146 : l1 = 71
                      · replace h := h.1 c146
                        refine wm_tableIn (tgt := 318) (off := 317) d_MM_rule0_1 hi_l1 (by omega) (by omega) (by rw [c146]; rfl) rfl ?_
                        obtain ⟨h147, h⟩ := h
                        obtain ⟨h148, h⟩ := h
                        refine wm_aload_n d_MM_rule0_318 rfl rfl ?_
                        refine gf_MM_28 rfl d_MM_rule0_319 h147 ?_
                        refine wm_bipush d_MM_rule0_322 (by decide) ?_
                        refine cf_MM_152 rfl d_MM_rule0_324 h148 (Nat.le_of_ble_eq_true rfl) (Cv.mono h (fun M149 h => ?_))
                        obtain ⟨hOM149, h⟩ := h
                        obtain ⟨h152, h⟩ := h
                        obtain ⟨h153, h⟩ := h
                        refine wm_aload_n d_MM_rule0_327 rfl rfl ?_
                        refine gf_MM_28 rfl d_MM_rule0_328 h152 ?_
                        refine wm_bipush d_MM_rule0_331 (by decide) ?_
                        refine cf_MM_152 rfl d_MM_rule0_333 h153 (Nat.le_of_ble_eq_true rfl) (Cv.mono h (fun M154 h => ?_))
                        obtain ⟨hOM154, h⟩ := h
                        refine wm_iconst d_MM_rule0_336 ?_
                        refine wm_ireturn d_MM_rule0_337 rfl rfl ?_
                        exact ⟨_, rfl, h⟩
                      · replace h := h.2 c146
                        by_cases c158 : l1 = 72
                        · replace h := h.1 c158
                          refine wm_tableIn (tgt := 338) (off := 337) d_MM_rule0_1 hi_l1 (by omega) (by omega) (by rw [c158]; rfl) rfl ?_
                          refine wm_aload_n d_MM_rule0_338 rfl rfl ?_
                          refine wm_iload_n d_MM_rule0_339 rfl rfl ?_
                          refine wm_bipush d_MM_rule0_340 (by decide) ?_
                          have hJ : ∀ v162 : Int, v162 = (if ((l2 = 26) ∨ ((l2 = 27) ∨ (l2 = 28))) then 1 else 0) → mWm G y_MM_rule0 (d + 1) 362 [vd, vd, vd] [vi v162, vr a0] M (fun r9 M9 => ∃ x9, r9 = some (vi x9) ∧ Q x9 M9) := by
                            intro v162 e164
                            have h := h v162 e164
                            have h165 : i32 v162 := by rw [e164]; (repeat' split) <;> first | exact ⟨by decide, by decide⟩ | exact ⟨by decide, by decide⟩
                            have h166 : (v162 = 0 ∨ v162 = 1) := by rw [e164]; (repeat' split) <;> decide
                            obtain ⟨h167, h⟩ := h
                            refine wm_bipush d_MM_rule0_362 (by decide) ?_
                            refine wm_bipush d_MM_rule0_364 (by decide) ?_
                            refine cf_MM_247 rfl d_MM_rule0_366 h167 (Nat.le_of_ble_eq_true rfl) (Ci.mono h (fun x169 M168 h => ?_))
                            obtain ⟨h170, hOM168, h⟩ := h
                            refine wm_ireturn d_MM_rule0_369 rfl rfl ?_
                            exact ⟨_, rfl, h⟩
                          clear h
                          refine wm_icmp_eq (tgt := 357) d_MM_rule0_342 rfl hi_l2 ⟨by decide, by decide⟩ (fun c159 => ?_) (fun c159 => ?_)
                          · refine wm_iconst d_MM_rule0_357 ?_
                            refine wm_goto (tgt := 362) d_MM_rule0_358 rfl ?_
                            refine wm_less (L' := [vd, vd, vd]) ⟨Or.inl rfl, Or.inl rfl, Or.inl rfl, trivial⟩ ?_
                            exact hJ 1 (if_pos (Or.inl c159)).symm
                          · refine wm_iload_n d_MM_rule0_345 rfl rfl ?_
                            refine wm_bipush d_MM_rule0_346 (by decide) ?_
                            refine wm_icmp_eq (tgt := 357) d_MM_rule0_348 rfl hi_l2 ⟨by decide, by decide⟩ (fun c160 => ?_) (fun c160 => ?_)
                            · refine wm_iconst d_MM_rule0_357 ?_
                              refine wm_goto (tgt := 362) d_MM_rule0_358 rfl ?_
                              refine wm_less (L' := [vd, vd, vd]) ⟨Or.inl rfl, Or.inl rfl, Or.inl rfl, trivial⟩ ?_
                              exact hJ 1 (if_pos (Or.inr (Or.inl c160))).symm
                            · refine wm_iload_n d_MM_rule0_351 rfl rfl ?_
                              refine wm_bipush d_MM_rule0_352 (by decide) ?_
                              refine wm_icmp_ne (tgt := 361) d_MM_rule0_354 rfl hi_l2 ⟨by decide, by decide⟩ (fun c161 => ?_) (fun c161 => ?_)
                              · refine wm_iconst d_MM_rule0_361 ?_
                                refine wm_less (L' := [vd, vd, vd]) ⟨Or.inl rfl, Or.inl rfl, Or.inl rfl, trivial⟩ ?_
                                exact hJ 0 (if_neg (fun z171 => Or.elim z171 c159 (fun z172 => Or.elim z172 c160 c161))).symm
                              · replace c161 := Classical.not_not.mp c161
                                refine wm_iconst d_MM_rule0_357 ?_
                                refine wm_goto (tgt := 362) d_MM_rule0_358 rfl ?_
                                refine wm_less (L' := [vd, vd, vd]) ⟨Or.inl rfl, Or.inl rfl, Or.inl rfl, trivial⟩ ?_
                                exact hJ 1 (if_pos (Or.inr (Or.inr c161))).symm
                        · replace h := h.2 c158
                          by_cases c175 : l1 = 74
                          · replace h := h.1 c175
                            refine wm_tableIn (tgt := 370) (off := 369) d_MM_rule0_1 hi_l1 (by omega) (by omega) (by rw [c175]; rfl) rfl ?_
                            refine wm_aload_n d_MM_rule0_370 rfl rfl ?_
                            refine wm_iload_n d_MM_rule0_371 rfl rfl ?_
                            refine wm_bipush d_MM_rule0_372 (by decide) ?_
                            have hJ : ∀ v177 : Int, v177 = (if (l2 = 35) then 1 else 0) → mWm G y_MM_rule0 (d + 1) 382 [vd, vd, vd] [vi v177, vr a0] M (fun r9 M9 => ∃ x9, r9 = some (vi x9) ∧ Q x9 M9) := by
                              intro v177 e179
                              have h := h v177 e179
                              have h180 : i32 v177 := by rw [e179]; (repeat' split) <;> first | exact ⟨by decide, by decide⟩ | exact ⟨by decide, by decide⟩
                              have h181 : (v177 = 0 ∨ v177 = 1) := by rw [e179]; (repeat' split) <;> decide
                              obtain ⟨h182, h⟩ := h
                              refine wm_bipush d_MM_rule0_382 (by decide) ?_
                              refine wm_bipush d_MM_rule0_384 (by decide) ?_
                              refine cf_MM_247 rfl d_MM_rule0_386 h182 (Nat.le_of_ble_eq_true rfl) (Ci.mono h (fun x184 M183 h => ?_))
                              obtain ⟨h185, hOM183, h⟩ := h
                              refine wm_ireturn d_MM_rule0_389 rfl rfl ?_
                              exact ⟨_, rfl, h⟩
                            clear h
                            refine wm_icmp_ne (tgt := 381) d_MM_rule0_374 rfl hi_l2 ⟨by decide, by decide⟩ (fun c176 => ?_) (fun c176 => ?_)
                            · refine wm_iconst d_MM_rule0_381 ?_
                              refine wm_less (L' := [vd, vd, vd]) ⟨Or.inl rfl, Or.inl rfl, Or.inl rfl, trivial⟩ ?_
                              exact hJ 0 (if_neg c176).symm
                            · replace c176 := Classical.not_not.mp c176
                              refine wm_iconst d_MM_rule0_377 ?_
                              refine wm_goto (tgt := 382) d_MM_rule0_378 rfl ?_
                              refine wm_less (L' := [vd, vd, vd]) ⟨Or.inl rfl, Or.inl rfl, Or.inl rfl, trivial⟩ ?_
                              exact hJ 1 (if_pos c176).symm
                          · replace h := h.2 c175
                            by_cases c188 : l1 = 76
                            · replace h := h.1 c188
                              refine wm_tableIn (tgt := 390) (off := 389) d_MM_rule0_1 hi_l1 (by omega) (by omega) (by rw [c188]; rfl) rfl ?_
                              refine wm_iload_n d_MM_rule0_390 rfl rfl ?_
                              refine wm_bipush d_MM_rule0_391 (by decide) ?_
                              refine wm_icmp_ne (tgt := 407) d_MM_rule0_393 rfl hi_l2 ⟨by decide, by decide⟩ (fun c190 => ?_) (fun c190 => ?_)
                              · replace h := h.2 c190
                                refine wm_iconst d_MM_rule0_407 ?_
                                refine wm_less (L' := [vd, vd, vd]) ⟨Or.inl rfl, Or.inl rfl, Or.inl rfl, trivial⟩ ?_
                                exact h
                              · replace c190 := Classical.not_not.mp c190
                                replace h := h.1 c190
                                obtain ⟨h191, h⟩ := h
                                refine wm_aload_n d_MM_rule0_396 rfl rfl ?_
                                refine cf_MM_254 rfl d_MM_rule0_397 h191 (Nat.le_of_ble_eq_true rfl) (Ci.mono h (fun x193 M192 h => ?_))
                                obtain ⟨h194, hOM192, h⟩ := h
                                refine wm_if_eq (tgt := 407) d_MM_rule0_400 rfl h194 (fun c196 => ?_) (fun c196 => ?_)
                                · replace h := h.1 c196
                                  refine wm_iconst d_MM_rule0_407 ?_
                                  refine wm_less (L' := [vd, vd, vd]) ⟨Or.inl rfl, Or.inl rfl, Or.inl rfl, trivial⟩ ?_
                                  exact h
                                · replace h := h.2 c196
                                  refine wm_iconst d_MM_rule0_403 ?_
                                  refine wm_goto (tgt := 408) d_MM_rule0_404 rfl ?_
                                  refine wm_less (L' := [vd, vd, vd]) ⟨Or.inl rfl, Or.inl rfl, Or.inl rfl, trivial⟩ ?_
                                  exact h
                            · replace h := h.2 c188
                              refine wm_tableD (tgt := 409) (off := 408) d_MM_rule0_1 hi_l1 (if q8 : 61 ≤ l1 ∧ l1 ≤ 76 then Or.inr ⟨q8.1, q8.2, by
      have q9 : l1 = 73 ∨ l1 = 75 := by omega
      rcases q9 with q9 | q9 <;> (rw [q9]; rfl)⟩ else Or.inl (by omega)) rfl ?_
                              obtain ⟨h197, h⟩ := h
                              refine wm_aload_n d_MM_rule0_409 rfl rfl ?_
                              refine wm_iload_n d_MM_rule0_410 rfl rfl ?_
                              refine cf_MM_264 rfl d_MM_rule0_411 h197 (Nat.le_of_ble_eq_true rfl) (Ci.mono h (fun x199 M198 h => ?_))
                              obtain ⟨h200, hOM198, h⟩ := h
                              refine wm_ireturn d_MM_rule0_414 rfl rfl ?_
                              exact ⟨_, rfl, h⟩
theorem k_MM_rule0_114 {G : mG} {d : Nat} {k0 : Int} {M : mM} {Q : Int → mM → Prop} (hO : mOk M) (hi_k0 : i32 k0)
    (h : Q k0 M) :
    h_MM_rule0_114 G d k0 M Q := by
  unfold h_MM_rule0_114
  refine wm_ireturn d_MM_rule0_114 rfl rfl ?_
  exact ⟨_, rfl, h⟩
theorem k_MM_rule0_408 {G : mG} {d : Nat} {k0 : Int} {M : mM} {Q : Int → mM → Prop} (hO : mOk M) (hi_k0 : i32 k0)
    (h : Q k0 M) :
    h_MM_rule0_408 G d k0 M Q := by
  unfold h_MM_rule0_408
  refine wm_ireturn d_MM_rule0_408 rfl rfl ?_
  exact ⟨_, rfl, h⟩
theorem d_MM_ask_0 : decode y_MM_ask.2.1 0 = .ok (.aload_n 0, 1) := by decide +kernel
theorem d_MM_ask_1 : decode y_MM_ask.2.1 1 = .ok (.getfield 28, 3) := by decide +kernel
theorem d_MM_ask_4 : decode y_MM_ask.2.1 4 = .ok (.bipush 75, 2) := by decide +kernel
theorem d_MM_ask_6 : decode y_MM_ask.2.1 6 = .ok (.invokevirtual 152, 3) := by decide +kernel
theorem d_MM_ask_9 : decode y_MM_ask.2.1 9 = .ok (.aload_n 0, 1) := by decide +kernel
theorem d_MM_ask_10 : decode y_MM_ask.2.1 10 = .ok (.bipush 61, 2) := by decide +kernel
theorem d_MM_ask_12 : decode y_MM_ask.2.1 12 = .ok (.bipush 33, 2) := by decide +kernel
theorem d_MM_ask_14 : decode y_MM_ask.2.1 14 = .ok (.bipush 61, 2) := by decide +kernel
theorem d_MM_ask_16 : decode y_MM_ask.2.1 16 = .ok (.invokevirtual 244, 3) := by decide +kernel
theorem d_MM_ask_19 : decode y_MM_ask.2.1 19 = .ok (.aload_n 0, 1) := by decide +kernel
theorem d_MM_ask_20 : decode y_MM_ask.2.1 20 = .ok (.invokevirtual 254, 3) := by decide +kernel
theorem d_MM_ask_23 : decode y_MM_ask.2.1 23 = .ok (.ifCond .eq 7, 3) := by decide +kernel
theorem d_MM_ask_30 : decode y_MM_ask.2.1 30 = .ok (.iconst (-1), 1) := by decide +kernel
theorem d_MM_ask_26 : decode y_MM_ask.2.1 26 = .ok (.iconst 1, 1) := by decide +kernel
theorem d_MM_ask_27 : decode y_MM_ask.2.1 27 = .ok (.goto 4, 3) := by decide +kernel
theorem d_MM_ask_31 : decode y_MM_ask.2.1 31 = .ok (.ireturn, 1) := by decide +kernel
theorem k_MM_ask {G : mG} {d : Nat} {a0 : Nat} {M : mM} {Q : Int → mM → Prop} (hO : mOk M)
    (h : mK M a0 = 14 ∧ mK M (mR M a0 6) = 15 ∧ Cv G y_MN_add d [vr (mR M a0 6), vi 75] M (fun M3 => mOk M3 ∧ (mK M3 a0 = 14 ∧ Cv G y_MM_want d [vr a0, vi 61, vi 33, vi 61] M3 (fun M7 => mOk M7 ∧ (mK M7 a0 = 14 ∧ Ci G y_MM_level d [vr a0] M7 (fun x12 M11 => i32 x12 ∧ mOk M11 ∧ (∀ v15 : Int, v15 = (if (x12 = 0) then (-1) else 1) → Q v15 M11))))))) :
    Ci G y_MM_ask (d + 1) [vr a0] M Q := by
  refine wm_open (y := y_MM_ask) rfl (Nat.le_of_ble_eq_true rfl) (L := [vr a0]) rfl ?_
  obtain ⟨h1, h⟩ := h
  obtain ⟨h2, h⟩ := h
  refine wm_aload_n d_MM_ask_0 rfl rfl ?_
  refine gf_MM_28 rfl d_MM_ask_1 h1 ?_
  refine wm_bipush d_MM_ask_4 (by decide) ?_
  refine cf_MM_152 rfl d_MM_ask_6 h2 (Nat.le_of_ble_eq_true rfl) (Cv.mono h (fun M3 h => ?_))
  obtain ⟨hOM3, h⟩ := h
  obtain ⟨h6, h⟩ := h
  refine wm_aload_n d_MM_ask_9 rfl rfl ?_
  refine wm_bipush d_MM_ask_10 (by decide) ?_
  refine wm_bipush d_MM_ask_12 (by decide) ?_
  refine wm_bipush d_MM_ask_14 (by decide) ?_
  refine cf_MM_244 rfl d_MM_ask_16 h6 (Nat.le_of_ble_eq_true rfl) (Cv.mono h (fun M7 h => ?_))
  obtain ⟨hOM7, h⟩ := h
  obtain ⟨h10, h⟩ := h
  refine wm_aload_n d_MM_ask_19 rfl rfl ?_
  refine cf_MM_254 rfl d_MM_ask_20 h10 (Nat.le_of_ble_eq_true rfl) (Ci.mono h (fun x12 M11 h => ?_))
  obtain ⟨h13, hOM11, h⟩ := h
  have hJ : ∀ v15 : Int, v15 = (if (x12 = 0) then (-1) else 1) → mWm G y_MM_ask (d + 1) 31 [vd] [vi v15] M11 (fun r9 M9 => ∃ x9, r9 = some (vi x9) ∧ Q x9 M9) := by
    intro v15 e17
    have h := h v15 e17
    have h18 : i32 v15 := by rw [e17]; (repeat' split) <;> first | exact ⟨by decide, by decide⟩ | exact ⟨by decide, by decide⟩
    refine wm_ireturn d_MM_ask_31 rfl rfl ?_
    exact ⟨_, rfl, h⟩
  clear h
  refine wm_if_eq (tgt := 30) d_MM_ask_23 rfl h13 (fun c14 => ?_) (fun c14 => ?_)
  · refine wm_iconst d_MM_ask_30 ?_
    refine wm_less (L' := [vd]) ⟨Or.inl rfl, trivial⟩ ?_
    exact hJ (-1) (if_pos c14).symm
  · refine wm_iconst d_MM_ask_26 ?_
    refine wm_goto (tgt := 31) d_MM_ask_27 rfl ?_
    refine wm_less (L' := [vd]) ⟨Or.inl rfl, trivial⟩ ?_
    exact hJ 1 (if_neg c14).symm
theorem d_MM_again_0 : decode y_MM_again.2.1 0 = .ok (.iload_n 1, 1) := by decide +kernel
theorem d_MM_again_1 : decode y_MM_again.2.1 1 = .ok (.ifCond .ne 5, 3) := by decide +kernel
theorem d_MM_again_4 : decode y_MM_again.2.1 4 = .ok (.iconst 0, 1) := by decide +kernel
theorem d_MM_again_5 : decode y_MM_again.2.1 5 = .ok (.ireturn, 1) := by decide +kernel
theorem d_MM_again_6 : decode y_MM_again.2.1 6 = .ok (.aload_n 0, 1) := by decide +kernel
theorem d_MM_again_7 : decode y_MM_again.2.1 7 = .ok (.getfield 28, 3) := by decide +kernel
theorem d_MM_again_10 : decode y_MM_again.2.1 10 = .ok (.iload_n 2, 1) := by decide +kernel
theorem d_MM_again_11 : decode y_MM_again.2.1 11 = .ok (.invokevirtual 152, 3) := by decide +kernel
theorem d_MM_again_14 : decode y_MM_again.2.1 14 = .ok (.aload_n 0, 1) := by decide +kernel
theorem d_MM_again_15 : decode y_MM_again.2.1 15 = .ok (.getfield 28, 3) := by decide +kernel
theorem d_MM_again_18 : decode y_MM_again.2.1 18 = .ok (.iload_n 3, 1) := by decide +kernel
theorem d_MM_again_19 : decode y_MM_again.2.1 19 = .ok (.invokevirtual 152, 3) := by decide +kernel
theorem d_MM_again_22 : decode y_MM_again.2.1 22 = .ok (.iconst 1, 1) := by decide +kernel
theorem d_MM_again_23 : decode y_MM_again.2.1 23 = .ok (.ireturn, 1) := by decide +kernel
theorem k_MM_again {G : mG} {d : Nat} {a0 : Nat} {l1 : Int} {l2 : Int} {l3 : Int} {M : mM} {Q : Int → mM → Prop} (hO : mOk M) (hi_l1 : i32 l1) (hi_l2 : i32 l2) (hi_l3 : i32 l3)
    (h : ((l1 = 0) → (Q 0 M)) ∧ (¬ (l1 = 0) → (mK M a0 = 14 ∧ mK M (mR M a0 6) = 15 ∧ Cv G y_MN_add d [vr (mR M a0 6), vi l2] M (fun M5 => mOk M5 ∧ (mK M5 a0 = 14 ∧ mK M5 (mR M5 a0 6) = 15 ∧ Cv G y_MN_add d [vr (mR M5 a0 6), vi l3] M5 (fun M10 => mOk M10 ∧ (Q 1 M10))))))) :
    Ci G y_MM_again (d + 1) [vr a0, vi l1, vi l2, vi l3] M Q := by
  refine wm_open (y := y_MM_again) rfl (Nat.le_of_ble_eq_true rfl) (L := [vr a0, vi l1, vi l2, vi l3]) rfl ?_
  refine wm_iload_n d_MM_again_0 rfl rfl ?_
  refine wm_if_ne (tgt := 6) d_MM_again_1 rfl hi_l1 (fun c2 => ?_) (fun c2 => ?_)
  · replace h := h.2 c2
    obtain ⟨h3, h⟩ := h
    obtain ⟨h4, h⟩ := h
    refine wm_aload_n d_MM_again_6 rfl rfl ?_
    refine gf_MM_28 rfl d_MM_again_7 h3 ?_
    refine wm_iload_n d_MM_again_10 rfl rfl ?_
    refine cf_MM_152 rfl d_MM_again_11 h4 (Nat.le_of_ble_eq_true rfl) (Cv.mono h (fun M5 h => ?_))
    obtain ⟨hOM5, h⟩ := h
    obtain ⟨h8, h⟩ := h
    obtain ⟨h9, h⟩ := h
    refine wm_aload_n d_MM_again_14 rfl rfl ?_
    refine gf_MM_28 rfl d_MM_again_15 h8 ?_
    refine wm_iload_n d_MM_again_18 rfl rfl ?_
    refine cf_MM_152 rfl d_MM_again_19 h9 (Nat.le_of_ble_eq_true rfl) (Cv.mono h (fun M10 h => ?_))
    obtain ⟨hOM10, h⟩ := h
    refine wm_iconst d_MM_again_22 ?_
    refine wm_ireturn d_MM_again_23 rfl rfl ?_
    exact ⟨_, rfl, h⟩
  · replace c2 := Classical.not_not.mp c2
    replace h := h.1 c2
    refine wm_iconst d_MM_again_4 ?_
    refine wm_ireturn d_MM_again_5 rfl rfl ?_
    exact ⟨_, rfl, h⟩
theorem d_MM_sign_0 : decode y_MM_sign.2.1 0 = .ok (.iload_n 1, 1) := by decide +kernel
theorem d_MM_sign_1 : decode y_MM_sign.2.1 1 = .ok (.lookupswitch 195 #[(1, 106), (2, 106), (12, 106), (13, 106), (14, 148), (15, 148), (25, 75), (36, 108)], 75) := by decide +kernel
theorem z_MM_sign_1_s : lkS #[(1, 106), (2, 106), (12, 106), (13, 106), (14, 148), (15, 148), (25, 75), (36, 108)] := by unfold lkS; decide
theorem d_MM_sign_107 : decode y_MM_sign.2.1 107 = .ok (.iconst 1, 1) := by decide +kernel
theorem d_MM_sign_108 : decode y_MM_sign.2.1 108 = .ok (.ireturn, 1) := by decide +kernel
theorem d_MM_sign_149 : decode y_MM_sign.2.1 149 = .ok (.aload_n 0, 1) := by decide +kernel
theorem d_MM_sign_150 : decode y_MM_sign.2.1 150 = .ok (.getfield 28, 3) := by decide +kernel
theorem d_MM_sign_153 : decode y_MM_sign.2.1 153 = .ok (.bipush 75, 2) := by decide +kernel
theorem d_MM_sign_155 : decode y_MM_sign.2.1 155 = .ok (.invokevirtual 152, 3) := by decide +kernel
theorem d_MM_sign_158 : decode y_MM_sign.2.1 158 = .ok (.aload_n 0, 1) := by decide +kernel
theorem d_MM_sign_159 : decode y_MM_sign.2.1 159 = .ok (.getfield 28, 3) := by decide +kernel
theorem d_MM_sign_162 : decode y_MM_sign.2.1 162 = .ok (.bipush 37, 2) := by decide +kernel
theorem d_MM_sign_164 : decode y_MM_sign.2.1 164 = .ok (.invokevirtual 152, 3) := by decide +kernel
theorem d_MM_sign_167 : decode y_MM_sign.2.1 167 = .ok (.aload_n 0, 1) := by decide +kernel
theorem d_MM_sign_168 : decode y_MM_sign.2.1 168 = .ok (.getfield 28, 3) := by decide +kernel
theorem d_MM_sign_171 : decode y_MM_sign.2.1 171 = .ok (.bipush 74, 2) := by decide +kernel
theorem d_MM_sign_173 : decode y_MM_sign.2.1 173 = .ok (.invokevirtual 152, 3) := by decide +kernel
theorem d_MM_sign_176 : decode y_MM_sign.2.1 176 = .ok (.aload_n 0, 1) := by decide +kernel
theorem d_MM_sign_177 : decode y_MM_sign.2.1 177 = .ok (.getfield 28, 3) := by decide +kernel
theorem d_MM_sign_180 : decode y_MM_sign.2.1 180 = .ok (.bipush 61, 2) := by decide +kernel
theorem d_MM_sign_182 : decode y_MM_sign.2.1 182 = .ok (.invokevirtual 152, 3) := by decide +kernel
theorem d_MM_sign_185 : decode y_MM_sign.2.1 185 = .ok (.aload_n 0, 1) := by decide +kernel
theorem d_MM_sign_186 : decode y_MM_sign.2.1 186 = .ok (.getfield 28, 3) := by decide +kernel
theorem d_MM_sign_189 : decode y_MM_sign.2.1 189 = .ok (.bipush 76, 2) := by decide +kernel
theorem d_MM_sign_191 : decode y_MM_sign.2.1 191 = .ok (.invokevirtual 152, 3) := by decide +kernel
theorem d_MM_sign_194 : decode y_MM_sign.2.1 194 = .ok (.iconst 1, 1) := by decide +kernel
theorem d_MM_sign_195 : decode y_MM_sign.2.1 195 = .ok (.ireturn, 1) := by decide +kernel
theorem d_MM_sign_76 : decode y_MM_sign.2.1 76 = .ok (.aload_n 0, 1) := by decide +kernel
theorem d_MM_sign_77 : decode y_MM_sign.2.1 77 = .ok (.getfield 28, 3) := by decide +kernel
theorem d_MM_sign_80 : decode y_MM_sign.2.1 80 = .ok (.bipush 75, 2) := by decide +kernel
theorem d_MM_sign_82 : decode y_MM_sign.2.1 82 = .ok (.invokevirtual 152, 3) := by decide +kernel
theorem d_MM_sign_85 : decode y_MM_sign.2.1 85 = .ok (.aload_n 0, 1) := by decide +kernel
theorem d_MM_sign_86 : decode y_MM_sign.2.1 86 = .ok (.getfield 28, 3) := by decide +kernel
theorem d_MM_sign_89 : decode y_MM_sign.2.1 89 = .ok (.bipush 73, 2) := by decide +kernel
theorem d_MM_sign_91 : decode y_MM_sign.2.1 91 = .ok (.invokevirtual 152, 3) := by decide +kernel
theorem d_MM_sign_94 : decode y_MM_sign.2.1 94 = .ok (.aload_n 0, 1) := by decide +kernel
theorem d_MM_sign_95 : decode y_MM_sign.2.1 95 = .ok (.invokevirtual 254, 3) := by decide +kernel
theorem d_MM_sign_98 : decode y_MM_sign.2.1 98 = .ok (.ifCond .eq 7, 3) := by decide +kernel
theorem d_MM_sign_105 : decode y_MM_sign.2.1 105 = .ok (.iconst (-1), 1) := by decide +kernel
theorem d_MM_sign_101 : decode y_MM_sign.2.1 101 = .ok (.iconst 1, 1) := by decide +kernel
theorem d_MM_sign_102 : decode y_MM_sign.2.1 102 = .ok (.goto 4, 3) := by decide +kernel
theorem d_MM_sign_106 : decode y_MM_sign.2.1 106 = .ok (.ireturn, 1) := by decide +kernel
theorem d_MM_sign_109 : decode y_MM_sign.2.1 109 = .ok (.aload_n 0, 1) := by decide +kernel
theorem d_MM_sign_110 : decode y_MM_sign.2.1 110 = .ok (.getfield 28, 3) := by decide +kernel
theorem d_MM_sign_113 : decode y_MM_sign.2.1 113 = .ok (.bipush 75, 2) := by decide +kernel
theorem d_MM_sign_115 : decode y_MM_sign.2.1 115 = .ok (.invokevirtual 152, 3) := by decide +kernel
theorem d_MM_sign_118 : decode y_MM_sign.2.1 118 = .ok (.aload_n 0, 1) := by decide +kernel
theorem d_MM_sign_119 : decode y_MM_sign.2.1 119 = .ok (.getfield 28, 3) := by decide +kernel
theorem d_MM_sign_122 : decode y_MM_sign.2.1 122 = .ok (.bipush 37, 2) := by decide +kernel
theorem d_MM_sign_124 : decode y_MM_sign.2.1 124 = .ok (.invokevirtual 152, 3) := by decide +kernel
theorem d_MM_sign_127 : decode y_MM_sign.2.1 127 = .ok (.aload_n 0, 1) := by decide +kernel
theorem d_MM_sign_128 : decode y_MM_sign.2.1 128 = .ok (.getfield 28, 3) := by decide +kernel
theorem d_MM_sign_131 : decode y_MM_sign.2.1 131 = .ok (.bipush 61, 2) := by decide +kernel
theorem d_MM_sign_133 : decode y_MM_sign.2.1 133 = .ok (.invokevirtual 152, 3) := by decide +kernel
theorem d_MM_sign_136 : decode y_MM_sign.2.1 136 = .ok (.aload_n 0, 1) := by decide +kernel
theorem d_MM_sign_137 : decode y_MM_sign.2.1 137 = .ok (.invokevirtual 254, 3) := by decide +kernel
theorem d_MM_sign_140 : decode y_MM_sign.2.1 140 = .ok (.ifCond .eq 7, 3) := by decide +kernel
theorem d_MM_sign_147 : decode y_MM_sign.2.1 147 = .ok (.iconst (-1), 1) := by decide +kernel
theorem d_MM_sign_143 : decode y_MM_sign.2.1 143 = .ok (.iconst 1, 1) := by decide +kernel
theorem d_MM_sign_144 : decode y_MM_sign.2.1 144 = .ok (.goto 4, 3) := by decide +kernel
theorem d_MM_sign_148 : decode y_MM_sign.2.1 148 = .ok (.ireturn, 1) := by decide +kernel
theorem d_MM_sign_196 : decode y_MM_sign.2.1 196 = .ok (.iconst (-1), 1) := by decide +kernel
theorem d_MM_sign_197 : decode y_MM_sign.2.1 197 = .ok (.ireturn, 1) := by decide +kernel
theorem k_MM_sign {G : mG} {d : Nat} {a0 : Nat} {l1 : Int} {M : mM} {Q : Int → mM → Prop} (hO : mOk M) (hi_l1 : i32 l1)
    (h : ((l1 = 1 ∨ l1 = 2 ∨ l1 = 12 ∨ l1 = 13) → (Q 1 M)) ∧ (¬ (l1 = 1 ∨ l1 = 2 ∨ l1 = 12 ∨ l1 = 13) → (((l1 = 14 ∨ l1 = 15) → (mK M a0 = 14 ∧ mK M (mR M a0 6) = 15 ∧ Cv G y_MN_add d [vr (mR M a0 6), vi 75] M (fun M5 => mOk M5 ∧ (mK M5 a0 = 14 ∧ mK M5 (mR M5 a0 6) = 15 ∧ Cv G y_MN_add d [vr (mR M5 a0 6), vi 37] M5 (fun M10 => mOk M10 ∧ (mK M10 a0 = 14 ∧ mK M10 (mR M10 a0 6) = 15 ∧ Cv G y_MN_add d [vr (mR M10 a0 6), vi 74] M10 (fun M15 => mOk M15 ∧ (mK M15 a0 = 14 ∧ mK M15 (mR M15 a0 6) = 15 ∧ Cv G y_MN_add d [vr (mR M15 a0 6), vi 61] M15 (fun M20 => mOk M20 ∧ (mK M20 a0 = 14 ∧ mK M20 (mR M20 a0 6) = 15 ∧ Cv G y_MN_add d [vr (mR M20 a0 6), vi 76] M20 (fun M25 => mOk M25 ∧ (Q 1 M25)))))))))))) ∧ (¬ (l1 = 14 ∨ l1 = 15) → (((l1 = 25) → (mK M a0 = 14 ∧ mK M (mR M a0 6) = 15 ∧ Cv G y_MN_add d [vr (mR M a0 6), vi 75] M (fun M31 => mOk M31 ∧ (mK M31 a0 = 14 ∧ mK M31 (mR M31 a0 6) = 15 ∧ Cv G y_MN_add d [vr (mR M31 a0 6), vi 73] M31 (fun M36 => mOk M36 ∧ (mK M36 a0 = 14 ∧ Ci G y_MM_level d [vr a0] M36 (fun x41 M40 => i32 x41 ∧ mOk M40 ∧ (∀ v44 : Int, v44 = (if (x41 = 0) then (-1) else 1) → Q v44 M40)))))))) ∧ (¬ (l1 = 25) → (((l1 = 36) → (mK M a0 = 14 ∧ mK M (mR M a0 6) = 15 ∧ Cv G y_MN_add d [vr (mR M a0 6), vi 75] M (fun M52 => mOk M52 ∧ (mK M52 a0 = 14 ∧ mK M52 (mR M52 a0 6) = 15 ∧ Cv G y_MN_add d [vr (mR M52 a0 6), vi 37] M52 (fun M57 => mOk M57 ∧ (mK M57 a0 = 14 ∧ mK M57 (mR M57 a0 6) = 15 ∧ Cv G y_MN_add d [vr (mR M57 a0 6), vi 61] M57 (fun M62 => mOk M62 ∧ (mK M62 a0 = 14 ∧ Ci G y_MM_level d [vr a0] M62 (fun x67 M66 => i32 x67 ∧ mOk M66 ∧ (∀ v70 : Int, v70 = (if (x67 = 0) then (-1) else 1) → Q v70 M66)))))))))) ∧ (¬ (l1 = 36) → (Q (-1) M))))))))) :
    Ci G y_MM_sign (d + 1) [vr a0, vi l1] M Q := by
  refine wm_open (y := y_MM_sign) rfl (Nat.le_of_ble_eq_true rfl) (L := [vr a0, vi l1]) rfl ?_
  refine wm_iload_n d_MM_sign_0 rfl rfl ?_
  by_cases c1 : l1 = 1 ∨ l1 = 2 ∨ l1 = 12 ∨ l1 = 13
  · replace h := h.1 c1
    refine wm_lookup (tgt := 107) (off := 106) d_MM_sign_1 z_MM_sign_1_s hi_l1 (by rcases c1 with q9 | q9 | q9 | q9 <;> (rw [q9]; rfl)) rfl ?_
    refine wm_iconst d_MM_sign_107 ?_
    refine wm_ireturn d_MM_sign_108 rfl rfl ?_
    exact ⟨_, rfl, h⟩
  · replace h := h.2 c1
    by_cases c2 : l1 = 14 ∨ l1 = 15
    · replace h := h.1 c2
      refine wm_lookup (tgt := 149) (off := 148) d_MM_sign_1 z_MM_sign_1_s hi_l1 (by rcases c2 with q9 | q9 <;> (rw [q9]; rfl)) rfl ?_
      obtain ⟨h3, h⟩ := h
      obtain ⟨h4, h⟩ := h
      refine wm_aload_n d_MM_sign_149 rfl rfl ?_
      refine gf_MM_28 rfl d_MM_sign_150 h3 ?_
      refine wm_bipush d_MM_sign_153 (by decide) ?_
      refine cf_MM_152 rfl d_MM_sign_155 h4 (Nat.le_of_ble_eq_true rfl) (Cv.mono h (fun M5 h => ?_))
      obtain ⟨hOM5, h⟩ := h
      obtain ⟨h8, h⟩ := h
      obtain ⟨h9, h⟩ := h
      refine wm_aload_n d_MM_sign_158 rfl rfl ?_
      refine gf_MM_28 rfl d_MM_sign_159 h8 ?_
      refine wm_bipush d_MM_sign_162 (by decide) ?_
      refine cf_MM_152 rfl d_MM_sign_164 h9 (Nat.le_of_ble_eq_true rfl) (Cv.mono h (fun M10 h => ?_))
      obtain ⟨hOM10, h⟩ := h
      obtain ⟨h13, h⟩ := h
      obtain ⟨h14, h⟩ := h
      refine wm_aload_n d_MM_sign_167 rfl rfl ?_
      refine gf_MM_28 rfl d_MM_sign_168 h13 ?_
      refine wm_bipush d_MM_sign_171 (by decide) ?_
      refine cf_MM_152 rfl d_MM_sign_173 h14 (Nat.le_of_ble_eq_true rfl) (Cv.mono h (fun M15 h => ?_))
      obtain ⟨hOM15, h⟩ := h
      obtain ⟨h18, h⟩ := h
      obtain ⟨h19, h⟩ := h
      refine wm_aload_n d_MM_sign_176 rfl rfl ?_
      refine gf_MM_28 rfl d_MM_sign_177 h18 ?_
      refine wm_bipush d_MM_sign_180 (by decide) ?_
      refine cf_MM_152 rfl d_MM_sign_182 h19 (Nat.le_of_ble_eq_true rfl) (Cv.mono h (fun M20 h => ?_))
      obtain ⟨hOM20, h⟩ := h
      obtain ⟨h23, h⟩ := h
      obtain ⟨h24, h⟩ := h
      refine wm_aload_n d_MM_sign_185 rfl rfl ?_
      refine gf_MM_28 rfl d_MM_sign_186 h23 ?_
      refine wm_bipush d_MM_sign_189 (by decide) ?_
      refine cf_MM_152 rfl d_MM_sign_191 h24 (Nat.le_of_ble_eq_true rfl) (Cv.mono h (fun M25 h => ?_))
      obtain ⟨hOM25, h⟩ := h
      refine wm_iconst d_MM_sign_194 ?_
      refine wm_ireturn d_MM_sign_195 rfl rfl ?_
      exact ⟨_, rfl, h⟩
    · replace h := h.2 c2
      by_cases c28 : l1 = 25
      · replace h := h.1 c28
        refine wm_lookup (tgt := 76) (off := 75) d_MM_sign_1 z_MM_sign_1_s hi_l1 (by rw [c28]; rfl) rfl ?_
        obtain ⟨h29, h⟩ := h
        obtain ⟨h30, h⟩ := h
        refine wm_aload_n d_MM_sign_76 rfl rfl ?_
        refine gf_MM_28 rfl d_MM_sign_77 h29 ?_
        refine wm_bipush d_MM_sign_80 (by decide) ?_
        refine cf_MM_152 rfl d_MM_sign_82 h30 (Nat.le_of_ble_eq_true rfl) (Cv.mono h (fun M31 h => ?_))
        obtain ⟨hOM31, h⟩ := h
        obtain ⟨h34, h⟩ := h
        obtain ⟨h35, h⟩ := h
        refine wm_aload_n d_MM_sign_85 rfl rfl ?_
        refine gf_MM_28 rfl d_MM_sign_86 h34 ?_
        refine wm_bipush d_MM_sign_89 (by decide) ?_
        refine cf_MM_152 rfl d_MM_sign_91 h35 (Nat.le_of_ble_eq_true rfl) (Cv.mono h (fun M36 h => ?_))
        obtain ⟨hOM36, h⟩ := h
        obtain ⟨h39, h⟩ := h
        refine wm_aload_n d_MM_sign_94 rfl rfl ?_
        refine cf_MM_254 rfl d_MM_sign_95 h39 (Nat.le_of_ble_eq_true rfl) (Ci.mono h (fun x41 M40 h => ?_))
        obtain ⟨h42, hOM40, h⟩ := h
        have hJ : ∀ v44 : Int, v44 = (if (x41 = 0) then (-1) else 1) → mWm G y_MM_sign (d + 1) 106 [vd, vd] [vi v44] M40 (fun r9 M9 => ∃ x9, r9 = some (vi x9) ∧ Q x9 M9) := by
          intro v44 e46
          have h := h v44 e46
          have h47 : i32 v44 := by rw [e46]; (repeat' split) <;> first | exact ⟨by decide, by decide⟩ | exact ⟨by decide, by decide⟩
          refine wm_ireturn d_MM_sign_106 rfl rfl ?_
          exact ⟨_, rfl, h⟩
        clear h
        refine wm_if_eq (tgt := 105) d_MM_sign_98 rfl h42 (fun c43 => ?_) (fun c43 => ?_)
        · refine wm_iconst d_MM_sign_105 ?_
          refine wm_less (L' := [vd, vd]) ⟨Or.inl rfl, Or.inl rfl, trivial⟩ ?_
          exact hJ (-1) (if_pos c43).symm
        · refine wm_iconst d_MM_sign_101 ?_
          refine wm_goto (tgt := 106) d_MM_sign_102 rfl ?_
          refine wm_less (L' := [vd, vd]) ⟨Or.inl rfl, Or.inl rfl, trivial⟩ ?_
          exact hJ 1 (if_neg c43).symm
      · replace h := h.2 c28
        by_cases c49 : l1 = 36
        · replace h := h.1 c49
          refine wm_lookup (tgt := 109) (off := 108) d_MM_sign_1 z_MM_sign_1_s hi_l1 (by rw [c49]; rfl) rfl ?_
          obtain ⟨h50, h⟩ := h
          obtain ⟨h51, h⟩ := h
          refine wm_aload_n d_MM_sign_109 rfl rfl ?_
          refine gf_MM_28 rfl d_MM_sign_110 h50 ?_
          refine wm_bipush d_MM_sign_113 (by decide) ?_
          refine cf_MM_152 rfl d_MM_sign_115 h51 (Nat.le_of_ble_eq_true rfl) (Cv.mono h (fun M52 h => ?_))
          obtain ⟨hOM52, h⟩ := h
          obtain ⟨h55, h⟩ := h
          obtain ⟨h56, h⟩ := h
          refine wm_aload_n d_MM_sign_118 rfl rfl ?_
          refine gf_MM_28 rfl d_MM_sign_119 h55 ?_
          refine wm_bipush d_MM_sign_122 (by decide) ?_
          refine cf_MM_152 rfl d_MM_sign_124 h56 (Nat.le_of_ble_eq_true rfl) (Cv.mono h (fun M57 h => ?_))
          obtain ⟨hOM57, h⟩ := h
          obtain ⟨h60, h⟩ := h
          obtain ⟨h61, h⟩ := h
          refine wm_aload_n d_MM_sign_127 rfl rfl ?_
          refine gf_MM_28 rfl d_MM_sign_128 h60 ?_
          refine wm_bipush d_MM_sign_131 (by decide) ?_
          refine cf_MM_152 rfl d_MM_sign_133 h61 (Nat.le_of_ble_eq_true rfl) (Cv.mono h (fun M62 h => ?_))
          obtain ⟨hOM62, h⟩ := h
          obtain ⟨h65, h⟩ := h
          refine wm_aload_n d_MM_sign_136 rfl rfl ?_
          refine cf_MM_254 rfl d_MM_sign_137 h65 (Nat.le_of_ble_eq_true rfl) (Ci.mono h (fun x67 M66 h => ?_))
          obtain ⟨h68, hOM66, h⟩ := h
          have hJ : ∀ v70 : Int, v70 = (if (x67 = 0) then (-1) else 1) → mWm G y_MM_sign (d + 1) 148 [vd, vd] [vi v70] M66 (fun r9 M9 => ∃ x9, r9 = some (vi x9) ∧ Q x9 M9) := by
            intro v70 e72
            have h := h v70 e72
            have h73 : i32 v70 := by rw [e72]; (repeat' split) <;> first | exact ⟨by decide, by decide⟩ | exact ⟨by decide, by decide⟩
            refine wm_ireturn d_MM_sign_148 rfl rfl ?_
            exact ⟨_, rfl, h⟩
          clear h
          refine wm_if_eq (tgt := 147) d_MM_sign_140 rfl h68 (fun c69 => ?_) (fun c69 => ?_)
          · refine wm_iconst d_MM_sign_147 ?_
            refine wm_less (L' := [vd, vd]) ⟨Or.inl rfl, Or.inl rfl, trivial⟩ ?_
            exact hJ (-1) (if_pos c69).symm
          · refine wm_iconst d_MM_sign_143 ?_
            refine wm_goto (tgt := 148) d_MM_sign_144 rfl ?_
            refine wm_less (L' := [vd, vd]) ⟨Or.inl rfl, Or.inl rfl, trivial⟩ ?_
            exact hJ 1 (if_neg c69).symm
        · replace h := h.2 c49
          refine wm_lookup (tgt := 196) (off := 195) d_MM_sign_1 z_MM_sign_1_s hi_l1 (by simp [Op.lookupswitch.offset]; repeat rw [if_neg (by omega)]) rfl ?_
          refine wm_iconst d_MM_sign_196 ?_
          refine wm_ireturn d_MM_sign_197 rfl rfl ?_
          exact ⟨_, rfl, h⟩
theorem d_MM_stop_0 : decode y_MM_stop.2.1 0 = .ok (.aload_n 0, 1) := by decide +kernel
theorem d_MM_stop_1 : decode y_MM_stop.2.1 1 = .ok (.iload_n 1, 1) := by decide +kernel
theorem d_MM_stop_2 : decode y_MM_stop.2.1 2 = .ok (.putfield 267, 3) := by decide +kernel
theorem d_MM_stop_5 : decode y_MM_stop.2.1 5 = .ok (.aload_n 0, 1) := by decide +kernel
theorem d_MM_stop_6 : decode y_MM_stop.2.1 6 = .ok (.iload_n 2, 1) := by decide +kernel
theorem d_MM_stop_7 : decode y_MM_stop.2.1 7 = .ok (.putfield 270, 3) := by decide +kernel
theorem d_MM_stop_10 : decode y_MM_stop.2.1 10 = .ok (.return_, 1) := by decide +kernel
theorem k_MM_stop {G : mG} {d : Nat} {a0 : Nat} {l1 : Int} {l2 : Int} {M : mM} {Q : mM → Prop} (hO : mOk M) (hi_l1 : i32 l1) (hi_l2 : i32 l2)
    (h : mK M a0 = 14 ∧ ∀ M2, M2 = mUI M a0 16 l1 → ∀ M4, M4 = mUI M2 a0 17 l2 → Q M4) :
    Cv G y_MM_stop d [vr a0, vi l1, vi l2] M Q := by
  refine wm_open (y := y_MM_stop) rfl (Nat.le_of_ble_eq_true rfl) (L := [vr a0, vi l1, vi l2]) rfl ?_
  obtain ⟨h1, h⟩ := h
  obtain ⟨M2, e3⟩ : ∃ M2, M2 = mUI M a0 16 l1 := ⟨_, rfl⟩
  replace h := h M2 e3
  obtain ⟨M4, e5⟩ : ∃ M4, M4 = mUI M2 a0 17 l2 := ⟨_, rfl⟩
  replace h := h M4 e5
  refine wm_aload_n d_MM_stop_0 rfl rfl ?_
  refine wm_iload_n d_MM_stop_1 rfl rfl ?_
  have hOM2 : mOk M2 := by rw [e3]; exact mOk_UI hO hi_l1
  refine pf_MM_267 rfl d_MM_stop_2 h1 hi_l1 e3 ?_
  refine wm_aload_n d_MM_stop_5 rfl rfl ?_
  refine wm_iload_n d_MM_stop_6 rfl rfl ?_
  have hOM4 : mOk M4 := by rw [e5]; exact mOk_UI hOM2 hi_l2
  refine pf_MM_270 rfl d_MM_stop_7 (by rw [e3]; exact h1) hi_l2 e5 ?_
  refine wm_return d_MM_stop_10 rfl ?_
  exact ⟨rfl, h⟩
theorem d_MM_word1_0 : decode y_MM_word1.2.1 0 = .ok (.aload_n 0, 1) := by decide +kernel
theorem d_MM_word1_1 : decode y_MM_word1.2.1 1 = .ok (.getfield 19, 3) := by decide +kernel
theorem d_MM_word1_4 : decode y_MM_word1.2.1 4 = .ok (.iload_n 1, 1) := by decide +kernel
theorem d_MM_word1_5 : decode y_MM_word1.2.1 5 = .ok (.invokevirtual 155, 3) := by decide +kernel
theorem d_MM_word1_8 : decode y_MM_word1.2.1 8 = .ok (.ireturn, 1) := by decide +kernel
theorem k_MM_word1 {G : mG} {d : Nat} {a0 : Nat} {l1 : Int} {M : mM} {Q : Int → mM → Prop} (hO : mOk M) (hi_l1 : i32 l1)
    (h : mK M a0 = 14 ∧ mK M (mR M a0 3) = 15 ∧ Ci G y_MN_at d [vr (mR M a0 3), vi l1] M (fun x4 M3 => i32 x4 ∧ mOk M3 ∧ (Q x4 M3))) :
    Ci G y_MM_word1 (d + 1) [vr a0, vi l1] M Q := by
  refine wm_open (y := y_MM_word1) rfl (Nat.le_of_ble_eq_true rfl) (L := [vr a0, vi l1]) rfl ?_
  obtain ⟨h1, h⟩ := h
  obtain ⟨h2, h⟩ := h
  refine wm_aload_n d_MM_word1_0 rfl rfl ?_
  refine gf_MM_19 rfl d_MM_word1_1 h1 ?_
  refine wm_iload_n d_MM_word1_4 rfl rfl ?_
  refine cf_MM_155 rfl d_MM_word1_5 h2 (Nat.le_of_ble_eq_true rfl) (Ci.mono h (fun x4 M3 h => ?_))
  obtain ⟨h5, hOM3, h⟩ := h
  refine wm_ireturn d_MM_word1_8 rfl rfl ?_
  exact ⟨_, rfl, h⟩
theorem d_MM_place0_0 : decode y_MM_place0.2.1 0 = .ok (.aload_n 0, 1) := by decide +kernel
theorem d_MM_place0_1 : decode y_MM_place0.2.1 1 = .ok (.getfield 22, 3) := by decide +kernel
theorem d_MM_place0_4 : decode y_MM_place0.2.1 4 = .ok (.iload_n 1, 1) := by decide +kernel
theorem d_MM_place0_5 : decode y_MM_place0.2.1 5 = .ok (.invokevirtual 155, 3) := by decide +kernel
theorem d_MM_place0_8 : decode y_MM_place0.2.1 8 = .ok (.ireturn, 1) := by decide +kernel
theorem k_MM_place0 {G : mG} {d : Nat} {a0 : Nat} {l1 : Int} {M : mM} {Q : Int → mM → Prop} (hO : mOk M) (hi_l1 : i32 l1)
    (h : mK M a0 = 14 ∧ mK M (mR M a0 4) = 15 ∧ Ci G y_MN_at d [vr (mR M a0 4), vi l1] M (fun x4 M3 => i32 x4 ∧ mOk M3 ∧ (Q x4 M3))) :
    Ci G y_MM_place0 (d + 1) [vr a0, vi l1] M Q := by
  refine wm_open (y := y_MM_place0) rfl (Nat.le_of_ble_eq_true rfl) (L := [vr a0, vi l1]) rfl ?_
  obtain ⟨h1, h⟩ := h
  obtain ⟨h2, h⟩ := h
  refine wm_aload_n d_MM_place0_0 rfl rfl ?_
  refine gf_MM_22 rfl d_MM_place0_1 h1 ?_
  refine wm_iload_n d_MM_place0_4 rfl rfl ?_
  refine cf_MM_155 rfl d_MM_place0_5 h2 (Nat.le_of_ble_eq_true rfl) (Ci.mono h (fun x4 M3 h => ?_))
  obtain ⟨h5, hOM3, h⟩ := h
  refine wm_ireturn d_MM_place0_8 rfl rfl ?_
  exact ⟨_, rfl, h⟩
theorem d_MM_node_0 : decode y_MM_node.2.1 0 = .ok (.aload_n 0, 1) := by decide +kernel
theorem d_MM_node_1 : decode y_MM_node.2.1 1 = .ok (.getfield 38, 3) := by decide +kernel
theorem d_MM_node_4 : decode y_MM_node.2.1 4 = .ok (.getfield 273, 3) := by decide +kernel
theorem d_MM_node_7 : decode y_MM_node.2.1 7 = .ok (.iload_n 1, 1) := by decide +kernel
theorem d_MM_node_8 : decode y_MM_node.2.1 8 = .ok (.invokevirtual 152, 3) := by decide +kernel
theorem d_MM_node_11 : decode y_MM_node.2.1 11 = .ok (.aload_n 0, 1) := by decide +kernel
theorem d_MM_node_12 : decode y_MM_node.2.1 12 = .ok (.getfield 38, 3) := by decide +kernel
theorem d_MM_node_15 : decode y_MM_node.2.1 15 = .ok (.getfield 276, 3) := by decide +kernel
theorem d_MM_node_18 : decode y_MM_node.2.1 18 = .ok (.aload_n 0, 1) := by decide +kernel
theorem d_MM_node_19 : decode y_MM_node.2.1 19 = .ok (.iload_n 2, 1) := by decide +kernel
theorem d_MM_node_20 : decode y_MM_node.2.1 20 = .ok (.invokevirtual 279, 3) := by decide +kernel
theorem d_MM_node_23 : decode y_MM_node.2.1 23 = .ok (.invokevirtual 152, 3) := by decide +kernel
theorem d_MM_node_26 : decode y_MM_node.2.1 26 = .ok (.aload_n 0, 1) := by decide +kernel
theorem d_MM_node_27 : decode y_MM_node.2.1 27 = .ok (.getfield 38, 3) := by decide +kernel
theorem d_MM_node_30 : decode y_MM_node.2.1 30 = .ok (.getfield 281, 3) := by decide +kernel
theorem d_MM_node_33 : decode y_MM_node.2.1 33 = .ok (.aload_n 0, 1) := by decide +kernel
theorem d_MM_node_34 : decode y_MM_node.2.1 34 = .ok (.iload_n 3, 1) := by decide +kernel
theorem d_MM_node_35 : decode y_MM_node.2.1 35 = .ok (.invokevirtual 279, 3) := by decide +kernel
theorem d_MM_node_38 : decode y_MM_node.2.1 38 = .ok (.invokevirtual 152, 3) := by decide +kernel
theorem d_MM_node_41 : decode y_MM_node.2.1 41 = .ok (.aload_n 0, 1) := by decide +kernel
theorem d_MM_node_42 : decode y_MM_node.2.1 42 = .ok (.getfield 38, 3) := by decide +kernel
theorem d_MM_node_45 : decode y_MM_node.2.1 45 = .ok (.getfield 284, 3) := by decide +kernel
theorem d_MM_node_48 : decode y_MM_node.2.1 48 = .ok (.iconst 0, 1) := by decide +kernel
theorem d_MM_node_49 : decode y_MM_node.2.1 49 = .ok (.invokevirtual 152, 3) := by decide +kernel
theorem d_MM_node_52 : decode y_MM_node.2.1 52 = .ok (.aload_n 0, 1) := by decide +kernel
theorem d_MM_node_53 : decode y_MM_node.2.1 53 = .ok (.getfield 38, 3) := by decide +kernel
theorem d_MM_node_56 : decode y_MM_node.2.1 56 = .ok (.getfield 287, 3) := by decide +kernel
theorem d_MM_node_59 : decode y_MM_node.2.1 59 = .ok (.iconst (-1), 1) := by decide +kernel
theorem d_MM_node_60 : decode y_MM_node.2.1 60 = .ok (.invokevirtual 152, 3) := by decide +kernel
theorem d_MM_node_63 : decode y_MM_node.2.1 63 = .ok (.aload_n 0, 1) := by decide +kernel
theorem d_MM_node_64 : decode y_MM_node.2.1 64 = .ok (.getfield 38, 3) := by decide +kernel
theorem d_MM_node_67 : decode y_MM_node.2.1 67 = .ok (.getfield 290, 3) := by decide +kernel
theorem d_MM_node_70 : decode y_MM_node.2.1 70 = .ok (.iconst (-1), 1) := by decide +kernel
theorem d_MM_node_71 : decode y_MM_node.2.1 71 = .ok (.invokevirtual 152, 3) := by decide +kernel
theorem d_MM_node_74 : decode y_MM_node.2.1 74 = .ok (.aload_n 0, 1) := by decide +kernel
theorem d_MM_node_75 : decode y_MM_node.2.1 75 = .ok (.getfield 38, 3) := by decide +kernel
theorem d_MM_node_78 : decode y_MM_node.2.1 78 = .ok (.getfield 273, 3) := by decide +kernel
theorem d_MM_node_81 : decode y_MM_node.2.1 81 = .ok (.getfield 145, 3) := by decide +kernel
theorem d_MM_node_84 : decode y_MM_node.2.1 84 = .ok (.iconst 1, 1) := by decide +kernel
theorem d_MM_node_85 : decode y_MM_node.2.1 85 = .ok (.isub, 1) := by decide +kernel
theorem d_MM_node_86 : decode y_MM_node.2.1 86 = .ok (.ireturn, 1) := by decide +kernel
theorem k_MM_node {G : mG} {d : Nat} {a0 : Nat} {l1 : Int} {l2 : Int} {l3 : Int} {M : mM} {Q : Int → mM → Prop} (hO : mOk M) (hi_l1 : i32 l1) (hi_l2 : i32 l2) (hi_l3 : i32 l3)
    (h : mK M a0 = 14 ∧ mK M (mR M a0 10) = 16 ∧ mK M (mR M (mR M a0 10) 0) = 15 ∧ Cv G y_MN_add d [vr (mR M (mR M a0 10) 0), vi l1] M (fun M4 => mOk M4 ∧ (mK M4 a0 = 14 ∧ mK M4 (mR M4 a0 10) = 16 ∧ Ci G y_MM_place0 d [vr a0, vi l2] M4 (fun x10 M9 => i32 x10 ∧ mOk M9 ∧ (mK M9 (mR M4 (mR M4 a0 10) 1) = 15 ∧ Cv G y_MN_add d [vr (mR M4 (mR M4 a0 10) 1), vi x10] M9 (fun M13 => mOk M13 ∧ (mK M13 a0 = 14 ∧ mK M13 (mR M13 a0 10) = 16 ∧ Ci G y_MM_place0 d [vr a0, vi l3] M13 (fun x19 M18 => i32 x19 ∧ mOk M18 ∧ (mK M18 (mR M13 (mR M13 a0 10) 2) = 15 ∧ Cv G y_MN_add d [vr (mR M13 (mR M13 a0 10) 2), vi x19] M18 (fun M22 => mOk M22 ∧ (mK M22 a0 = 14 ∧ mK M22 (mR M22 a0 10) = 16 ∧ mK M22 (mR M22 (mR M22 a0 10) 3) = 15 ∧ Cv G y_MN_add d [vr (mR M22 (mR M22 a0 10) 3), vi 0] M22 (fun M28 => mOk M28 ∧ (mK M28 a0 = 14 ∧ mK M28 (mR M28 a0 10) = 16 ∧ mK M28 (mR M28 (mR M28 a0 10) 4) = 15 ∧ Cv G y_MN_add d [vr (mR M28 (mR M28 a0 10) 4), vi (-1)] M28 (fun M34 => mOk M34 ∧ (mK M34 a0 = 14 ∧ mK M34 (mR M34 a0 10) = 16 ∧ mK M34 (mR M34 (mR M34 a0 10) 5) = 15 ∧ Cv G y_MN_add d [vr (mR M34 (mR M34 a0 10) 5), vi (-1)] M34 (fun M40 => mOk M40 ∧ (mK M40 a0 = 14 ∧ mK M40 (mR M40 a0 10) = 16 ∧ mK M40 (mR M40 (mR M40 a0 10) 0) = 15 ∧ Q ((mI M40 (mR M40 (mR M40 a0 10) 0) 1) - 1) M40))))))))))))))))) :
    Ci G y_MM_node (d + 1) [vr a0, vi l1, vi l2, vi l3] M Q := by
  refine wm_open (y := y_MM_node) rfl (Nat.le_of_ble_eq_true rfl) (L := [vr a0, vi l1, vi l2, vi l3]) rfl ?_
  obtain ⟨h1, h⟩ := h
  obtain ⟨h2, h⟩ := h
  obtain ⟨h3, h⟩ := h
  refine wm_aload_n d_MM_node_0 rfl rfl ?_
  refine gf_MM_38 rfl d_MM_node_1 h1 ?_
  refine gf_MM_273 rfl d_MM_node_4 h2 ?_
  refine wm_iload_n d_MM_node_7 rfl rfl ?_
  refine cf_MM_152 rfl d_MM_node_8 h3 (Nat.le_of_ble_eq_true rfl) (Cv.mono h (fun M4 h => ?_))
  obtain ⟨hOM4, h⟩ := h
  obtain ⟨h7, h⟩ := h
  obtain ⟨h8, h⟩ := h
  refine wm_aload_n d_MM_node_11 rfl rfl ?_
  refine gf_MM_38 rfl d_MM_node_12 h7 ?_
  refine gf_MM_276 rfl d_MM_node_15 h8 ?_
  refine wm_aload_n d_MM_node_18 rfl rfl ?_
  refine wm_iload_n d_MM_node_19 rfl rfl ?_
  refine cf_MM_279 rfl d_MM_node_20 h7 (Nat.le_of_ble_eq_true rfl) (Ci.mono h (fun x10 M9 h => ?_))
  obtain ⟨h11, hOM9, h⟩ := h
  obtain ⟨h12, h⟩ := h
  refine cf_MM_152 rfl d_MM_node_23 h12 (Nat.le_of_ble_eq_true rfl) (Cv.mono h (fun M13 h => ?_))
  obtain ⟨hOM13, h⟩ := h
  obtain ⟨h16, h⟩ := h
  obtain ⟨h17, h⟩ := h
  refine wm_aload_n d_MM_node_26 rfl rfl ?_
  refine gf_MM_38 rfl d_MM_node_27 h16 ?_
  refine gf_MM_281 rfl d_MM_node_30 h17 ?_
  refine wm_aload_n d_MM_node_33 rfl rfl ?_
  refine wm_iload_n d_MM_node_34 rfl rfl ?_
  refine cf_MM_279 rfl d_MM_node_35 h16 (Nat.le_of_ble_eq_true rfl) (Ci.mono h (fun x19 M18 h => ?_))
  obtain ⟨h20, hOM18, h⟩ := h
  obtain ⟨h21, h⟩ := h
  refine cf_MM_152 rfl d_MM_node_38 h21 (Nat.le_of_ble_eq_true rfl) (Cv.mono h (fun M22 h => ?_))
  obtain ⟨hOM22, h⟩ := h
  obtain ⟨h25, h⟩ := h
  obtain ⟨h26, h⟩ := h
  obtain ⟨h27, h⟩ := h
  refine wm_aload_n d_MM_node_41 rfl rfl ?_
  refine gf_MM_38 rfl d_MM_node_42 h25 ?_
  refine gf_MM_284 rfl d_MM_node_45 h26 ?_
  refine wm_iconst d_MM_node_48 ?_
  refine cf_MM_152 rfl d_MM_node_49 h27 (Nat.le_of_ble_eq_true rfl) (Cv.mono h (fun M28 h => ?_))
  obtain ⟨hOM28, h⟩ := h
  obtain ⟨h31, h⟩ := h
  obtain ⟨h32, h⟩ := h
  obtain ⟨h33, h⟩ := h
  refine wm_aload_n d_MM_node_52 rfl rfl ?_
  refine gf_MM_38 rfl d_MM_node_53 h31 ?_
  refine gf_MM_287 rfl d_MM_node_56 h32 ?_
  refine wm_iconst d_MM_node_59 ?_
  refine cf_MM_152 rfl d_MM_node_60 h33 (Nat.le_of_ble_eq_true rfl) (Cv.mono h (fun M34 h => ?_))
  obtain ⟨hOM34, h⟩ := h
  obtain ⟨h37, h⟩ := h
  obtain ⟨h38, h⟩ := h
  obtain ⟨h39, h⟩ := h
  refine wm_aload_n d_MM_node_63 rfl rfl ?_
  refine gf_MM_38 rfl d_MM_node_64 h37 ?_
  refine gf_MM_290 rfl d_MM_node_67 h38 ?_
  refine wm_iconst d_MM_node_70 ?_
  refine cf_MM_152 rfl d_MM_node_71 h39 (Nat.le_of_ble_eq_true rfl) (Cv.mono h (fun M40 h => ?_))
  obtain ⟨hOM40, h⟩ := h
  obtain ⟨h43, h⟩ := h
  obtain ⟨h44, h⟩ := h
  obtain ⟨h45, h⟩ := h
  refine wm_aload_n d_MM_node_74 rfl rfl ?_
  refine gf_MM_38 rfl d_MM_node_75 h43 ?_
  refine gf_MM_273 rfl d_MM_node_78 h44 ?_
  refine gf_MM_145 rfl d_MM_node_81 h45 ?_
  refine wm_iconst d_MM_node_84 ?_
  refine wm_isub d_MM_node_85 ?_
  refine wm_ireturn d_MM_node_86 rfl rfl ?_
  exact ⟨_, rfl, h⟩
theorem d_MM_join_0 : decode y_MM_join.2.1 0 = .ok (.iload_n 1, 1) := by decide +kernel
theorem d_MM_join_1 : decode y_MM_join.2.1 1 = .ok (.ifCond .ge 4, 3) := by decide +kernel
theorem d_MM_join_5 : decode y_MM_join.2.1 5 = .ok (.aload_n 0, 1) := by decide +kernel
theorem d_MM_join_6 : decode y_MM_join.2.1 6 = .ok (.getfield 38, 3) := by decide +kernel
theorem d_MM_join_9 : decode y_MM_join.2.1 9 = .ok (.getfield 287, 3) := by decide +kernel
theorem d_MM_join_12 : decode y_MM_join.2.1 12 = .ok (.iload_n 1, 1) := by decide +kernel
theorem d_MM_join_4 : decode y_MM_join.2.1 4 = .ok (.return_, 1) := by decide +kernel
theorem d_MM_join_13 : decode y_MM_join.2.1 13 = .ok (.invokevirtual 155, 3) := by decide +kernel
theorem d_MM_join_16 : decode y_MM_join.2.1 16 = .ok (.ifCond .ge 17, 3) := by decide +kernel
theorem d_MM_join_33 : decode y_MM_join.2.1 33 = .ok (.aload_n 0, 1) := by decide +kernel
theorem d_MM_join_34 : decode y_MM_join.2.1 34 = .ok (.getfield 38, 3) := by decide +kernel
theorem d_MM_join_37 : decode y_MM_join.2.1 37 = .ok (.getfield 287, 3) := by decide +kernel
theorem d_MM_join_40 : decode y_MM_join.2.1 40 = .ok (.iload_n 1, 1) := by decide +kernel
theorem d_MM_join_19 : decode y_MM_join.2.1 19 = .ok (.aload_n 0, 1) := by decide +kernel
theorem d_MM_join_20 : decode y_MM_join.2.1 20 = .ok (.getfield 38, 3) := by decide +kernel
theorem d_MM_join_23 : decode y_MM_join.2.1 23 = .ok (.getfield 287, 3) := by decide +kernel
theorem d_MM_join_26 : decode y_MM_join.2.1 26 = .ok (.getfield 293, 3) := by decide +kernel
theorem d_MM_join_29 : decode y_MM_join.2.1 29 = .ok (.iload_n 1, 1) := by decide +kernel
theorem d_MM_join_30 : decode y_MM_join.2.1 30 = .ok (.iload_n 2, 1) := by decide +kernel
theorem d_MM_join_31 : decode y_MM_join.2.1 31 = .ok (.iastore, 1) := by decide +kernel
theorem d_MM_join_32 : decode y_MM_join.2.1 32 = .ok (.return_, 1) := by decide +kernel
theorem d_MM_join_41 : decode y_MM_join.2.1 41 = .ok (.invokevirtual 155, 3) := by decide +kernel
theorem d_MM_join_44 : decode y_MM_join.2.1 44 = .ok (.istore_n 3, 1) := by decide +kernel
theorem d_MM_join_45 : decode y_MM_join.2.1 45 = .ok (.aload_n 0, 1) := by decide +kernel
theorem d_MM_join_46 : decode y_MM_join.2.1 46 = .ok (.getfield 38, 3) := by decide +kernel
theorem d_MM_join_49 : decode y_MM_join.2.1 49 = .ok (.getfield 290, 3) := by decide +kernel
theorem d_MM_join_52 : decode y_MM_join.2.1 52 = .ok (.iload_n 3, 1) := by decide +kernel
theorem d_MM_join_53 : decode y_MM_join.2.1 53 = .ok (.invokevirtual 155, 3) := by decide +kernel
theorem d_MM_join_56 : decode y_MM_join.2.1 56 = .ok (.ifCond .lt 18, 3) := by decide +kernel
theorem d_MM_join_74 : decode y_MM_join.2.1 74 = .ok (.aload_n 0, 1) := by decide +kernel
theorem d_MM_join_75 : decode y_MM_join.2.1 75 = .ok (.getfield 38, 3) := by decide +kernel
theorem d_MM_join_78 : decode y_MM_join.2.1 78 = .ok (.getfield 290, 3) := by decide +kernel
theorem d_MM_join_81 : decode y_MM_join.2.1 81 = .ok (.getfield 293, 3) := by decide +kernel
theorem d_MM_join_84 : decode y_MM_join.2.1 84 = .ok (.iload_n 3, 1) := by decide +kernel
theorem d_MM_join_85 : decode y_MM_join.2.1 85 = .ok (.iload_n 2, 1) := by decide +kernel
theorem d_MM_join_86 : decode y_MM_join.2.1 86 = .ok (.iastore, 1) := by decide +kernel
theorem d_MM_join_87 : decode y_MM_join.2.1 87 = .ok (.return_, 1) := by decide +kernel
theorem d_MM_join_59 : decode y_MM_join.2.1 59 = .ok (.aload_n 0, 1) := by decide +kernel
theorem d_MM_join_60 : decode y_MM_join.2.1 60 = .ok (.getfield 38, 3) := by decide +kernel
theorem d_MM_join_63 : decode y_MM_join.2.1 63 = .ok (.getfield 290, 3) := by decide +kernel
theorem d_MM_join_66 : decode y_MM_join.2.1 66 = .ok (.iload_n 3, 1) := by decide +kernel
theorem d_MM_join_67 : decode y_MM_join.2.1 67 = .ok (.invokevirtual 155, 3) := by decide +kernel
theorem d_MM_join_70 : decode y_MM_join.2.1 70 = .ok (.istore_n 3, 1) := by decide +kernel
theorem d_MM_join_71 : decode y_MM_join.2.1 71 = .ok (.goto (-26), 3) := by decide +kernel
def h_MM_join_45 (G : mG) (d : Nat) (a0 : Nat) (l2 : Int) (l3 : Int) (M : mM) (Q : mM → Prop) : Prop := mWm G y_MM_join (d + 1) 45 [vr a0, vd, vi l2, vi l3] [] M (fun r9 M9 => r9 = none ∧ Q M9)
theorem k_MM_join {G : mG} {d : Nat} {a0 : Nat} {l1 : Int} {l2 : Int} {M : mM} {Q : mM → Prop} (hO : mOk M) (hi_l1 : i32 l1) (hi_l2 : i32 l2)
    (h : ((0 ≤ l1) → (mK M a0 = 14 ∧ mK M (mR M a0 10) = 16 ∧ mK M (mR M (mR M a0 10) 4) = 15 ∧ Ci G y_MN_at d [vr (mR M (mR M a0 10) 4), vi l1] M (fun x7 M6 => i32 x7 ∧ mOk M6 ∧ (((0 ≤ x7) → (mK M6 a0 = 14 ∧ mK M6 (mR M6 a0 10) = 16 ∧ mK M6 (mR M6 (mR M6 a0 10) 4) = 15 ∧ Ci G y_MN_at d [vr (mR M6 (mR M6 a0 10) 4), vi l1] M6 (fun x20 M19 => i32 x20 ∧ mOk M19 ∧ (h_MM_join_45 G d a0 l2 x20 M19 Q)))) ∧ (¬ (0 ≤ x7) → (mK M6 a0 = 14 ∧ mK M6 (mR M6 a0 10) = 16 ∧ mK M6 (mR M6 (mR M6 a0 10) 4) = 15 ∧ mK M6 (mR M6 (mR M6 (mR M6 a0 10) 4) 0) = 30 ∧ ((0 : Int) ≤ l1 ∧ l1 < (mN M6 (mR M6 (mR M6 (mR M6 a0 10) 4) 0) : Int)) ∧ ∀ M27, M27 = mUI M6 (mR M6 (mR M6 (mR M6 a0 10) 4) 0) (Int.toNat l1) l2 → Q M27)))))) ∧ (¬ (0 ≤ l1) → (Q M))) :
    Cv G y_MM_join (d + 1) [vr a0, vi l1, vi l2] M Q := by
  refine wm_open (y := y_MM_join) rfl (Nat.le_of_ble_eq_true rfl) (L := [vr a0, vi l1, vi l2, vd]) rfl ?_
  refine wm_iload_n d_MM_join_0 rfl rfl ?_
  refine wm_if_ge (tgt := 5) d_MM_join_1 rfl hi_l1 (fun c2 => ?_) (fun c2 => ?_)
  · replace h := h.1 c2
    obtain ⟨h3, h⟩ := h
    obtain ⟨h4, h⟩ := h
    obtain ⟨h5, h⟩ := h
    refine wm_aload_n d_MM_join_5 rfl rfl ?_
    refine gf_MM_38 rfl d_MM_join_6 h3 ?_
    refine gf_MM_287 rfl d_MM_join_9 h4 ?_
    refine wm_iload_n d_MM_join_12 rfl rfl ?_
    refine cf_MM_155 rfl d_MM_join_13 h5 (Nat.le_of_ble_eq_true rfl) (Ci.mono h (fun x7 M6 h => ?_))
    obtain ⟨h8, hOM6, h⟩ := h
    refine wm_if_ge (tgt := 33) d_MM_join_16 rfl h8 (fun c15 => ?_) (fun c15 => ?_)
    · replace h := h.1 c15
      obtain ⟨h16, h⟩ := h
      obtain ⟨h17, h⟩ := h
      obtain ⟨h18, h⟩ := h
      refine wm_aload_n d_MM_join_33 rfl rfl ?_
      refine gf_MM_38 rfl d_MM_join_34 h16 ?_
      refine gf_MM_287 rfl d_MM_join_37 h17 ?_
      refine wm_iload_n d_MM_join_40 rfl rfl ?_
      refine cf_MM_155 rfl d_MM_join_41 h18 (Nat.le_of_ble_eq_true rfl) (Ci.mono h (fun x20 M19 h => ?_))
      obtain ⟨h21, hOM19, h⟩ := h
      refine wm_istore_n d_MM_join_44 rfl (by decide) (L' := [vr a0, vi l1, vi l2, vi x20]) rfl ?_
      refine wm_less (L' := [vr a0, vd, vi l2, vi x20]) ⟨Or.inr rfl, Or.inl rfl, Or.inr rfl, Or.inr rfl, trivial⟩ ?_
      exact h
    · replace h := h.2 c15
      obtain ⟨h22, h⟩ := h
      obtain ⟨h23, h⟩ := h
      obtain ⟨h24, h⟩ := h
      obtain ⟨h25, h⟩ := h
      obtain ⟨h26, h⟩ := h
      obtain ⟨M27, e28⟩ : ∃ M27, M27 = mUI M6 (mR M6 (mR M6 (mR M6 a0 10) 4) 0) (Int.toNat l1) l2 := ⟨_, rfl⟩
      replace h := h M27 e28
      refine wm_aload_n d_MM_join_19 rfl rfl ?_
      refine gf_MM_38 rfl d_MM_join_20 h22 ?_
      refine gf_MM_287 rfl d_MM_join_23 h23 ?_
      refine gf_MM_293 rfl d_MM_join_26 h24 ?_
      refine wm_iload_n d_MM_join_29 rfl rfl ?_
      refine wm_iload_n d_MM_join_30 rfl rfl ?_
      have hOM27 : mOk M27 := by rw [e28]; exact mOk_UI hOM6 hi_l2
      refine wm_iastE d_MM_join_31 h25 h26 hi_l2 e28 ?_
      refine wm_return d_MM_join_32 rfl ?_
      exact ⟨rfl, h⟩
  · replace h := h.2 c2
    refine wm_return d_MM_join_4 rfl ?_
    exact ⟨rfl, h⟩
theorem k_MM_join_45 {G : mG} {d : Nat} {a0 : Nat} {l2 : Int} {l3 : Int} {M : mM} {Q : mM → Prop} (hO : mOk M) (hi_l2 : i32 l2) (hi_l3 : i32 l3)
    (h : mK M a0 = 14 ∧ mK M (mR M a0 10) = 16 ∧ mK M (mR M (mR M a0 10) 5) = 15 ∧ Ci G y_MN_at d [vr (mR M (mR M a0 10) 5), vi l3] M (fun x33 M32 => i32 x33 ∧ mOk M32 ∧ (((x33 < 0) → (mK M32 a0 = 14 ∧ mK M32 (mR M32 a0 10) = 16 ∧ mK M32 (mR M32 (mR M32 a0 10) 5) = 15 ∧ mK M32 (mR M32 (mR M32 (mR M32 a0 10) 5) 0) = 30 ∧ ((0 : Int) ≤ l3 ∧ l3 < (mN M32 (mR M32 (mR M32 (mR M32 a0 10) 5) 0) : Int)) ∧ ∀ M47, M47 = mUI M32 (mR M32 (mR M32 (mR M32 a0 10) 5) 0) (Int.toNat l3) l2 → Q M47)) ∧ (¬ (x33 < 0) → (mK M32 a0 = 14 ∧ mK M32 (mR M32 a0 10) = 16 ∧ mK M32 (mR M32 (mR M32 a0 10) 5) = 15 ∧ Ci G y_MN_at d [vr (mR M32 (mR M32 a0 10) 5), vi l3] M32 (fun x53 M52 => i32 x53 ∧ mOk M52 ∧ (h_MM_join_45 G d a0 l2 x53 M52 Q))))))) :
    h_MM_join_45 G d a0 l2 l3 M Q := by
  unfold h_MM_join_45
  obtain ⟨h29, h⟩ := h
  obtain ⟨h30, h⟩ := h
  obtain ⟨h31, h⟩ := h
  refine wm_aload_n d_MM_join_45 rfl rfl ?_
  refine gf_MM_38 rfl d_MM_join_46 h29 ?_
  refine gf_MM_290 rfl d_MM_join_49 h30 ?_
  refine wm_iload_n d_MM_join_52 rfl rfl ?_
  refine cf_MM_155 rfl d_MM_join_53 h31 (Nat.le_of_ble_eq_true rfl) (Ci.mono h (fun x33 M32 h => ?_))
  obtain ⟨h34, hOM32, h⟩ := h
  refine wm_if_lt (tgt := 74) d_MM_join_56 rfl h34 (fun c41 => ?_) (fun c41 => ?_)
  · replace h := h.1 c41
    obtain ⟨h42, h⟩ := h
    obtain ⟨h43, h⟩ := h
    obtain ⟨h44, h⟩ := h
    obtain ⟨h45, h⟩ := h
    obtain ⟨h46, h⟩ := h
    obtain ⟨M47, e48⟩ : ∃ M47, M47 = mUI M32 (mR M32 (mR M32 (mR M32 a0 10) 5) 0) (Int.toNat l3) l2 := ⟨_, rfl⟩
    replace h := h M47 e48
    refine wm_aload_n d_MM_join_74 rfl rfl ?_
    refine gf_MM_38 rfl d_MM_join_75 h42 ?_
    refine gf_MM_290 rfl d_MM_join_78 h43 ?_
    refine gf_MM_293 rfl d_MM_join_81 h44 ?_
    refine wm_iload_n d_MM_join_84 rfl rfl ?_
    refine wm_iload_n d_MM_join_85 rfl rfl ?_
    have hOM47 : mOk M47 := by rw [e48]; exact mOk_UI hOM32 hi_l2
    refine wm_iastE d_MM_join_86 h45 h46 hi_l2 e48 ?_
    refine wm_return d_MM_join_87 rfl ?_
    exact ⟨rfl, h⟩
  · replace h := h.2 c41
    obtain ⟨h49, h⟩ := h
    obtain ⟨h50, h⟩ := h
    obtain ⟨h51, h⟩ := h
    refine wm_aload_n d_MM_join_59 rfl rfl ?_
    refine gf_MM_38 rfl d_MM_join_60 h49 ?_
    refine gf_MM_290 rfl d_MM_join_63 h50 ?_
    refine wm_iload_n d_MM_join_66 rfl rfl ?_
    refine cf_MM_155 rfl d_MM_join_67 h51 (Nat.le_of_ble_eq_true rfl) (Ci.mono h (fun x53 M52 h => ?_))
    obtain ⟨h54, hOM52, h⟩ := h
    refine wm_istore_n d_MM_join_70 rfl (by decide) (L' := [vr a0, vd, vi l2, vi x53]) rfl ?_
    refine wm_goto (tgt := 45) d_MM_join_71 rfl ?_
    exact h
theorem d_MM_job_0 : decode y_MM_job.2.1 0 = .ok (.aload_n 0, 1) := by decide +kernel
theorem d_MM_job_1 : decode y_MM_job.2.1 1 = .ok (.getfield 54, 3) := by decide +kernel
theorem d_MM_job_4 : decode y_MM_job.2.1 4 = .ok (.iload_n 1, 1) := by decide +kernel
theorem d_MM_job_5 : decode y_MM_job.2.1 5 = .ok (.invokevirtual 152, 3) := by decide +kernel
theorem d_MM_job_8 : decode y_MM_job.2.1 8 = .ok (.aload_n 0, 1) := by decide +kernel
theorem d_MM_job_9 : decode y_MM_job.2.1 9 = .ok (.getfield 54, 3) := by decide +kernel
theorem d_MM_job_12 : decode y_MM_job.2.1 12 = .ok (.iload_n 2, 1) := by decide +kernel
theorem d_MM_job_13 : decode y_MM_job.2.1 13 = .ok (.invokevirtual 152, 3) := by decide +kernel
theorem d_MM_job_16 : decode y_MM_job.2.1 16 = .ok (.aload_n 0, 1) := by decide +kernel
theorem d_MM_job_17 : decode y_MM_job.2.1 17 = .ok (.getfield 54, 3) := by decide +kernel
theorem d_MM_job_20 : decode y_MM_job.2.1 20 = .ok (.iload_n 3, 1) := by decide +kernel
theorem d_MM_job_21 : decode y_MM_job.2.1 21 = .ok (.invokevirtual 152, 3) := by decide +kernel
theorem d_MM_job_24 : decode y_MM_job.2.1 24 = .ok (.return_, 1) := by decide +kernel
theorem k_MM_job {G : mG} {d : Nat} {a0 : Nat} {l1 : Int} {l2 : Int} {l3 : Int} {M : mM} {Q : mM → Prop} (hO : mOk M) (hi_l1 : i32 l1) (hi_l2 : i32 l2) (hi_l3 : i32 l3)
    (h : mK M a0 = 14 ∧ mK M (mR M a0 18) = 15 ∧ Cv G y_MN_add d [vr (mR M a0 18), vi l1] M (fun M3 => mOk M3 ∧ (mK M3 a0 = 14 ∧ mK M3 (mR M3 a0 18) = 15 ∧ Cv G y_MN_add d [vr (mR M3 a0 18), vi l2] M3 (fun M8 => mOk M8 ∧ (mK M8 a0 = 14 ∧ mK M8 (mR M8 a0 18) = 15 ∧ Cv G y_MN_add d [vr (mR M8 a0 18), vi l3] M8 (fun M13 => mOk M13 ∧ (Q M13))))))) :
    Cv G y_MM_job (d + 1) [vr a0, vi l1, vi l2, vi l3] M Q := by
  refine wm_open (y := y_MM_job) rfl (Nat.le_of_ble_eq_true rfl) (L := [vr a0, vi l1, vi l2, vi l3]) rfl ?_
  obtain ⟨h1, h⟩ := h
  obtain ⟨h2, h⟩ := h
  refine wm_aload_n d_MM_job_0 rfl rfl ?_
  refine gf_MM_54 rfl d_MM_job_1 h1 ?_
  refine wm_iload_n d_MM_job_4 rfl rfl ?_
  refine cf_MM_152 rfl d_MM_job_5 h2 (Nat.le_of_ble_eq_true rfl) (Cv.mono h (fun M3 h => ?_))
  obtain ⟨hOM3, h⟩ := h
  obtain ⟨h6, h⟩ := h
  obtain ⟨h7, h⟩ := h
  refine wm_aload_n d_MM_job_8 rfl rfl ?_
  refine gf_MM_54 rfl d_MM_job_9 h6 ?_
  refine wm_iload_n d_MM_job_12 rfl rfl ?_
  refine cf_MM_152 rfl d_MM_job_13 h7 (Nat.le_of_ble_eq_true rfl) (Cv.mono h (fun M8 h => ?_))
  obtain ⟨hOM8, h⟩ := h
  obtain ⟨h11, h⟩ := h
  obtain ⟨h12, h⟩ := h
  refine wm_aload_n d_MM_job_16 rfl rfl ?_
  refine gf_MM_54 rfl d_MM_job_17 h11 ?_
  refine wm_iload_n d_MM_job_20 rfl rfl ?_
  refine cf_MM_152 rfl d_MM_job_21 h12 (Nat.le_of_ble_eq_true rfl) (Cv.mono h (fun M13 h => ?_))
  obtain ⟨hOM13, h⟩ := h
  refine wm_return d_MM_job_24 rfl ?_
  exact ⟨rfl, h⟩
theorem d_MM_tree_0 : decode y_MM_tree.2.1 0 = .ok (.aload_n 0, 1) := by decide +kernel
theorem d_MM_tree_1 : decode y_MM_tree.2.1 1 = .ok (.getfield 54, 3) := by decide +kernel
theorem d_MM_tree_4 : decode y_MM_tree.2.1 4 = .ok (.iconst 0, 1) := by decide +kernel
theorem d_MM_tree_5 : decode y_MM_tree.2.1 5 = .ok (.putfield 145, 3) := by decide +kernel
theorem d_MM_tree_8 : decode y_MM_tree.2.1 8 = .ok (.aload_n 0, 1) := by decide +kernel
theorem d_MM_tree_9 : decode y_MM_tree.2.1 9 = .ok (.getfield 38, 3) := by decide +kernel
theorem d_MM_tree_12 : decode y_MM_tree.2.1 12 = .ok (.getfield 273, 3) := by decide +kernel
theorem d_MM_tree_15 : decode y_MM_tree.2.1 15 = .ok (.getfield 145, 3) := by decide +kernel
theorem d_MM_tree_18 : decode y_MM_tree.2.1 18 = .ok (.istore_n 3, 1) := by decide +kernel
theorem d_MM_tree_19 : decode y_MM_tree.2.1 19 = .ok (.aload_n 0, 1) := by decide +kernel
theorem d_MM_tree_20 : decode y_MM_tree.2.1 20 = .ok (.iconst (-1), 1) := by decide +kernel
theorem d_MM_tree_21 : decode y_MM_tree.2.1 21 = .ok (.iload_n 1, 1) := by decide +kernel
theorem d_MM_tree_22 : decode y_MM_tree.2.1 22 = .ok (.iload_n 2, 1) := by decide +kernel
theorem d_MM_tree_23 : decode y_MM_tree.2.1 23 = .ok (.invokevirtual 296, 3) := by decide +kernel
theorem d_MM_tree_26 : decode y_MM_tree.2.1 26 = .ok (.aload_n 0, 1) := by decide +kernel
theorem d_MM_tree_27 : decode y_MM_tree.2.1 27 = .ok (.getfield 54, 3) := by decide +kernel
theorem d_MM_tree_30 : decode y_MM_tree.2.1 30 = .ok (.getfield 145, 3) := by decide +kernel
theorem d_MM_tree_33 : decode y_MM_tree.2.1 33 = .ok (.ifCond .le 39, 3) := by decide +kernel
theorem d_MM_tree_72 : decode y_MM_tree.2.1 72 = .ok (.iload_n 3, 1) := by decide +kernel
theorem d_MM_tree_73 : decode y_MM_tree.2.1 73 = .ok (.ireturn, 1) := by decide +kernel
theorem d_MM_tree_36 : decode y_MM_tree.2.1 36 = .ok (.aload_n 0, 1) := by decide +kernel
theorem d_MM_tree_37 : decode y_MM_tree.2.1 37 = .ok (.getfield 54, 3) := by decide +kernel
theorem d_MM_tree_40 : decode y_MM_tree.2.1 40 = .ok (.invokevirtual 232, 3) := by decide +kernel
theorem d_MM_tree_43 : decode y_MM_tree.2.1 43 = .ok (.istore 4, 2) := by decide +kernel
theorem d_MM_tree_45 : decode y_MM_tree.2.1 45 = .ok (.aload_n 0, 1) := by decide +kernel
theorem d_MM_tree_46 : decode y_MM_tree.2.1 46 = .ok (.getfield 54, 3) := by decide +kernel
theorem d_MM_tree_49 : decode y_MM_tree.2.1 49 = .ok (.invokevirtual 232, 3) := by decide +kernel
theorem d_MM_tree_52 : decode y_MM_tree.2.1 52 = .ok (.istore 5, 2) := by decide +kernel
theorem d_MM_tree_54 : decode y_MM_tree.2.1 54 = .ok (.aload_n 0, 1) := by decide +kernel
theorem d_MM_tree_55 : decode y_MM_tree.2.1 55 = .ok (.aload_n 0, 1) := by decide +kernel
theorem d_MM_tree_56 : decode y_MM_tree.2.1 56 = .ok (.getfield 54, 3) := by decide +kernel
theorem d_MM_tree_59 : decode y_MM_tree.2.1 59 = .ok (.invokevirtual 232, 3) := by decide +kernel
theorem d_MM_tree_62 : decode y_MM_tree.2.1 62 = .ok (.iload 5, 2) := by decide +kernel
theorem d_MM_tree_64 : decode y_MM_tree.2.1 64 = .ok (.iload 4, 2) := by decide +kernel
theorem d_MM_tree_66 : decode y_MM_tree.2.1 66 = .ok (.invokevirtual 299, 3) := by decide +kernel
theorem d_MM_tree_69 : decode y_MM_tree.2.1 69 = .ok (.goto (-43), 3) := by decide +kernel
def h_MM_tree_26 (G : mG) (d : Nat) (a0 : Nat) (l3 : Int) (M : mM) (Q : Int → mM → Prop) : Prop := mWm G y_MM_tree (d + 1) 26 [vr a0, vd, vd, vi l3, vd, vd] [] M (fun r9 M9 => ∃ x9, r9 = some (vi x9) ∧ Q x9 M9)
theorem k_MM_tree {G : mG} {d : Nat} {a0 : Nat} {l1 : Int} {l2 : Int} {M : mM} {Q : Int → mM → Prop} (hO : mOk M) (hi_l1 : i32 l1) (hi_l2 : i32 l2)
    (h : mK M a0 = 14 ∧ mK M (mR M a0 18) = 15 ∧ ∀ M3, M3 = mUI M (mR M a0 18) 1 0 → mK M3 (mR M3 a0 10) = 16 ∧ mK M3 (mR M3 (mR M3 a0 10) 0) = 15 ∧ Cv G y_MM_job d [vr a0, vi (-1), vi l1, vi l2] M3 (fun M7 => mOk M7 ∧ (h_MM_tree_26 G d a0 (mI M3 (mR M3 (mR M3 a0 10) 0) 1) M7 Q))) :
    Ci G y_MM_tree (d + 1) [vr a0, vi l1, vi l2] M Q := by
  refine wm_open (y := y_MM_tree) rfl (Nat.le_of_ble_eq_true rfl) (L := [vr a0, vi l1, vi l2, vd, vd, vd]) rfl ?_
  obtain ⟨h1, h⟩ := h
  obtain ⟨h2, h⟩ := h
  obtain ⟨M3, e4⟩ : ∃ M3, M3 = mUI M (mR M a0 18) 1 0 := ⟨_, rfl⟩
  replace h := h M3 e4
  obtain ⟨h5, h⟩ := h
  obtain ⟨h6, h⟩ := h
  refine wm_aload_n d_MM_tree_0 rfl rfl ?_
  refine gf_MM_54 rfl d_MM_tree_1 h1 ?_
  refine wm_iconst d_MM_tree_4 ?_
  have hOM3 : mOk M3 := by rw [e4]; exact mOk_UI hO ⟨by decide, by decide⟩
  refine pf_MM_145 rfl d_MM_tree_5 h2 ⟨by decide, by decide⟩ e4 ?_
  refine wm_aload_n d_MM_tree_8 rfl rfl ?_
  refine gf_MM_38 rfl d_MM_tree_9 (by rw [e4]; exact h1) ?_
  refine gf_MM_273 rfl d_MM_tree_12 h5 ?_
  refine gf_MM_145 rfl d_MM_tree_15 h6 ?_
  refine wm_istore_n d_MM_tree_18 rfl (by decide) (L' := [vr a0, vi l1, vi l2, vi (mI M3 (mR M3 (mR M3 a0 10) 0) 1), vd, vd]) rfl ?_
  refine wm_aload_n d_MM_tree_19 rfl rfl ?_
  refine wm_iconst d_MM_tree_20 ?_
  refine wm_iload_n d_MM_tree_21 rfl rfl ?_
  refine wm_iload_n d_MM_tree_22 rfl rfl ?_
  refine cf_MM_296 rfl d_MM_tree_23 (by rw [e4]; exact h1) (Nat.le_of_ble_eq_true rfl) (Cv.mono h (fun M7 h => ?_))
  obtain ⟨hOM7, h⟩ := h
  refine wm_less (L' := [vr a0, vd, vd, vi (mI M3 (mR M3 (mR M3 a0 10) 0) 1), vd, vd]) ⟨Or.inr rfl, Or.inl rfl, Or.inl rfl, Or.inr rfl, Or.inl rfl, Or.inl rfl, trivial⟩ ?_
  exact h
theorem k_MM_tree_26 {G : mG} {d : Nat} {a0 : Nat} {l3 : Int} {M : mM} {Q : Int → mM → Prop} (hO : mOk M) (hi_l3 : i32 l3)
    (h : mK M a0 = 14 ∧ mK M (mR M a0 18) = 15 ∧ ((mI M (mR M a0 18) 1 ≤ 0) → (Q l3 M)) ∧ (¬ (mI M (mR M a0 18) 1 ≤ 0) → (Ci G y_MN_take d [vr (mR M a0 18)] M (fun x15 M14 => i32 x15 ∧ mOk M14 ∧ (mK M14 a0 = 14 ∧ mK M14 (mR M14 a0 18) = 15 ∧ Ci G y_MN_take d [vr (mR M14 a0 18)] M14 (fun x20 M19 => i32 x20 ∧ mOk M19 ∧ (mK M19 a0 = 14 ∧ mK M19 (mR M19 a0 18) = 15 ∧ Ci G y_MN_take d [vr (mR M19 a0 18)] M19 (fun x25 M24 => i32 x25 ∧ mOk M24 ∧ (mK M24 a0 = 14 ∧ Cv G y_MM_part d [vr a0, vi x25, vi x20, vi x15] M24 (fun M28 => mOk M28 ∧ (h_MM_tree_26 G d a0 l3 M28 Q))))))))))) :
    h_MM_tree_26 G d a0 l3 M Q := by
  unfold h_MM_tree_26
  obtain ⟨h10, h⟩ := h
  obtain ⟨h11, h⟩ := h
  refine wm_aload_n d_MM_tree_26 rfl rfl ?_
  refine gf_MM_54 rfl d_MM_tree_27 h10 ?_
  refine gf_MM_145 rfl d_MM_tree_30 h11 ?_
  refine wm_if_le (tgt := 72) d_MM_tree_33 rfl (hO _ _).1 (fun c13 => ?_) (fun c13 => ?_)
  · replace h := h.1 c13
    refine wm_iload_n d_MM_tree_72 rfl rfl ?_
    refine wm_ireturn d_MM_tree_73 rfl rfl ?_
    exact ⟨_, rfl, h⟩
  · replace h := h.2 c13
    refine wm_aload_n d_MM_tree_36 rfl rfl ?_
    refine gf_MM_54 rfl d_MM_tree_37 h10 ?_
    refine cf_MM_232 rfl d_MM_tree_40 h11 (Nat.le_of_ble_eq_true rfl) (Ci.mono h (fun x15 M14 h => ?_))
    obtain ⟨h16, hOM14, h⟩ := h
    obtain ⟨h17, h⟩ := h
    obtain ⟨h18, h⟩ := h
    refine wm_istore d_MM_tree_43 (by decide) (L' := [vr a0, vd, vd, vi l3, vi x15, vd]) rfl ?_
    refine wm_aload_n d_MM_tree_45 rfl rfl ?_
    refine gf_MM_54 rfl d_MM_tree_46 h17 ?_
    refine cf_MM_232 rfl d_MM_tree_49 h18 (Nat.le_of_ble_eq_true rfl) (Ci.mono h (fun x20 M19 h => ?_))
    obtain ⟨h21, hOM19, h⟩ := h
    obtain ⟨h22, h⟩ := h
    obtain ⟨h23, h⟩ := h
    refine wm_istore d_MM_tree_52 (by decide) (L' := [vr a0, vd, vd, vi l3, vi x15, vi x20]) rfl ?_
    refine wm_aload_n d_MM_tree_54 rfl rfl ?_
    refine wm_aload_n d_MM_tree_55 rfl rfl ?_
    refine gf_MM_54 rfl d_MM_tree_56 h22 ?_
    refine cf_MM_232 rfl d_MM_tree_59 h23 (Nat.le_of_ble_eq_true rfl) (Ci.mono h (fun x25 M24 h => ?_))
    obtain ⟨h26, hOM24, h⟩ := h
    obtain ⟨h27, h⟩ := h
    refine wm_iload d_MM_tree_62 rfl ?_
    refine wm_iload d_MM_tree_64 rfl ?_
    refine cf_MM_299 rfl d_MM_tree_66 h27 (Nat.le_of_ble_eq_true rfl) (Cv.mono h (fun M28 h => ?_))
    obtain ⟨hOM28, h⟩ := h
    refine wm_goto (tgt := 26) d_MM_tree_69 rfl ?_
    refine wm_less (L' := [vr a0, vd, vd, vi l3, vd, vd]) ⟨Or.inr rfl, Or.inl rfl, Or.inl rfl, Or.inr rfl, Or.inl rfl, Or.inl rfl, trivial⟩ ?_
    exact h
theorem d_MM_isOperand_0 : decode y_MM_isOperand.2.1 0 = .ok (.aload_n 0, 1) := by decide +kernel
theorem d_MM_isOperand_1 : decode y_MM_isOperand.2.1 1 = .ok (.iload_n 1, 1) := by decide +kernel
theorem d_MM_isOperand_2 : decode y_MM_isOperand.2.1 2 = .ok (.invokevirtual 302, 3) := by decide +kernel
theorem d_MM_isOperand_5 : decode y_MM_isOperand.2.1 5 = .ok (.iconst 2, 1) := by decide +kernel
theorem d_MM_isOperand_6 : decode y_MM_isOperand.2.1 6 = .ok (.if_icmp .eq 42, 3) := by decide +kernel
theorem d_MM_isOperand_48 : decode y_MM_isOperand.2.1 48 = .ok (.iconst 1, 1) := by decide +kernel
theorem d_MM_isOperand_49 : decode y_MM_isOperand.2.1 49 = .ok (.goto 4, 3) := by decide +kernel
theorem d_MM_isOperand_9 : decode y_MM_isOperand.2.1 9 = .ok (.aload_n 0, 1) := by decide +kernel
theorem d_MM_isOperand_10 : decode y_MM_isOperand.2.1 10 = .ok (.iload_n 1, 1) := by decide +kernel
theorem d_MM_isOperand_53 : decode y_MM_isOperand.2.1 53 = .ok (.ireturn, 1) := by decide +kernel
theorem d_MM_isOperand_11 : decode y_MM_isOperand.2.1 11 = .ok (.invokevirtual 302, 3) := by decide +kernel
theorem d_MM_isOperand_14 : decode y_MM_isOperand.2.1 14 = .ok (.iconst 1, 1) := by decide +kernel
theorem d_MM_isOperand_15 : decode y_MM_isOperand.2.1 15 = .ok (.if_icmp .eq 33, 3) := by decide +kernel
theorem d_MM_isOperand_18 : decode y_MM_isOperand.2.1 18 = .ok (.aload_n 0, 1) := by decide +kernel
theorem d_MM_isOperand_19 : decode y_MM_isOperand.2.1 19 = .ok (.iload_n 1, 1) := by decide +kernel
theorem d_MM_isOperand_20 : decode y_MM_isOperand.2.1 20 = .ok (.invokevirtual 302, 3) := by decide +kernel
theorem d_MM_isOperand_23 : decode y_MM_isOperand.2.1 23 = .ok (.bipush 12, 2) := by decide +kernel
theorem d_MM_isOperand_25 : decode y_MM_isOperand.2.1 25 = .ok (.if_icmp .eq 23, 3) := by decide +kernel
theorem d_MM_isOperand_28 : decode y_MM_isOperand.2.1 28 = .ok (.aload_n 0, 1) := by decide +kernel
theorem d_MM_isOperand_29 : decode y_MM_isOperand.2.1 29 = .ok (.iload_n 1, 1) := by decide +kernel
theorem d_MM_isOperand_30 : decode y_MM_isOperand.2.1 30 = .ok (.invokevirtual 302, 3) := by decide +kernel
theorem d_MM_isOperand_33 : decode y_MM_isOperand.2.1 33 = .ok (.bipush 13, 2) := by decide +kernel
theorem d_MM_isOperand_35 : decode y_MM_isOperand.2.1 35 = .ok (.if_icmp .eq 13, 3) := by decide +kernel
theorem d_MM_isOperand_38 : decode y_MM_isOperand.2.1 38 = .ok (.aload_n 0, 1) := by decide +kernel
theorem d_MM_isOperand_39 : decode y_MM_isOperand.2.1 39 = .ok (.iload_n 1, 1) := by decide +kernel
theorem d_MM_isOperand_40 : decode y_MM_isOperand.2.1 40 = .ok (.invokevirtual 302, 3) := by decide +kernel
theorem d_MM_isOperand_43 : decode y_MM_isOperand.2.1 43 = .ok (.bipush 37, 2) := by decide +kernel
theorem d_MM_isOperand_45 : decode y_MM_isOperand.2.1 45 = .ok (.if_icmp .ne 7, 3) := by decide +kernel
theorem d_MM_isOperand_52 : decode y_MM_isOperand.2.1 52 = .ok (.iconst 0, 1) := by decide +kernel
theorem k_MM_isOperand {G : mG} {d : Nat} {a0 : Nat} {l1 : Int} {M : mM} {Q : Int → mM → Prop} (hO : mOk M) (hi_l1 : i32 l1)
    (h : mK M a0 = 14 ∧ Ci G y_MM_word1 d [vr a0, vi l1] M (fun x3 M2 => i32 x3 ∧ mOk M2 ∧ (((x3 = 2) → (Q 1 M2)) ∧ (¬ (x3 = 2) → (mK M2 a0 = 14 ∧ Ci G y_MM_word1 d [vr a0, vi l1] M2 (fun x10 M9 => i32 x10 ∧ mOk M9 ∧ (((x10 = 1) → (Q 1 M9)) ∧ (¬ (x10 = 1) → (mK M9 a0 = 14 ∧ Ci G y_MM_word1 d [vr a0, vi l1] M9 (fun x17 M16 => i32 x17 ∧ mOk M16 ∧ (((x17 = 12) → (Q 1 M16)) ∧ (¬ (x17 = 12) → (mK M16 a0 = 14 ∧ Ci G y_MM_word1 d [vr a0, vi l1] M16 (fun x24 M23 => i32 x24 ∧ mOk M23 ∧ (((x24 = 13) → (Q 1 M23)) ∧ (¬ (x24 = 13) → (mK M23 a0 = 14 ∧ Ci G y_MM_word1 d [vr a0, vi l1] M23 (fun x31 M30 => i32 x31 ∧ mOk M30 ∧ (∀ v34 : Int, v34 = (if (x31 = 37) then 1 else 0) → Q v34 M30))))))))))))))))))) :
    Ci G y_MM_isOperand (d + 1) [vr a0, vi l1] M Q := by
  refine wm_open (y := y_MM_isOperand) rfl (Nat.le_of_ble_eq_true rfl) (L := [vr a0, vi l1]) rfl ?_
  obtain ⟨h1, h⟩ := h
  refine wm_aload_n d_MM_isOperand_0 rfl rfl ?_
  refine wm_iload_n d_MM_isOperand_1 rfl rfl ?_
  refine cf_MM_302 rfl d_MM_isOperand_2 h1 (Nat.le_of_ble_eq_true rfl) (Ci.mono h (fun x3 M2 h => ?_))
  obtain ⟨h4, hOM2, h⟩ := h
  refine wm_iconst d_MM_isOperand_5 ?_
  refine wm_icmp_eq (tgt := 48) d_MM_isOperand_6 rfl h4 ⟨by decide, by decide⟩ (fun c7 => ?_) (fun c7 => ?_)
  · replace h := h.1 c7
    refine wm_iconst d_MM_isOperand_48 ?_
    refine wm_goto (tgt := 53) d_MM_isOperand_49 rfl ?_
    refine wm_ireturn d_MM_isOperand_53 rfl (m_nb (by decide)) ?_
    exact ⟨_, rfl, h⟩
  · replace h := h.2 c7
    obtain ⟨h8, h⟩ := h
    refine wm_aload_n d_MM_isOperand_9 rfl rfl ?_
    refine wm_iload_n d_MM_isOperand_10 rfl rfl ?_
    refine cf_MM_302 rfl d_MM_isOperand_11 h8 (Nat.le_of_ble_eq_true rfl) (Ci.mono h (fun x10 M9 h => ?_))
    obtain ⟨h11, hOM9, h⟩ := h
    refine wm_iconst d_MM_isOperand_14 ?_
    refine wm_icmp_eq (tgt := 48) d_MM_isOperand_15 rfl h11 ⟨by decide, by decide⟩ (fun c14 => ?_) (fun c14 => ?_)
    · replace h := h.1 c14
      refine wm_iconst d_MM_isOperand_48 ?_
      refine wm_goto (tgt := 53) d_MM_isOperand_49 rfl ?_
      refine wm_ireturn d_MM_isOperand_53 rfl (m_nb (by decide)) ?_
      exact ⟨_, rfl, h⟩
    · replace h := h.2 c14
      obtain ⟨h15, h⟩ := h
      refine wm_aload_n d_MM_isOperand_18 rfl rfl ?_
      refine wm_iload_n d_MM_isOperand_19 rfl rfl ?_
      refine cf_MM_302 rfl d_MM_isOperand_20 h15 (Nat.le_of_ble_eq_true rfl) (Ci.mono h (fun x17 M16 h => ?_))
      obtain ⟨h18, hOM16, h⟩ := h
      refine wm_bipush d_MM_isOperand_23 (by decide) ?_
      refine wm_icmp_eq (tgt := 48) d_MM_isOperand_25 rfl h18 ⟨by decide, by decide⟩ (fun c21 => ?_) (fun c21 => ?_)
      · replace h := h.1 c21
        refine wm_iconst d_MM_isOperand_48 ?_
        refine wm_goto (tgt := 53) d_MM_isOperand_49 rfl ?_
        refine wm_ireturn d_MM_isOperand_53 rfl (m_nb (by decide)) ?_
        exact ⟨_, rfl, h⟩
      · replace h := h.2 c21
        obtain ⟨h22, h⟩ := h
        refine wm_aload_n d_MM_isOperand_28 rfl rfl ?_
        refine wm_iload_n d_MM_isOperand_29 rfl rfl ?_
        refine cf_MM_302 rfl d_MM_isOperand_30 h22 (Nat.le_of_ble_eq_true rfl) (Ci.mono h (fun x24 M23 h => ?_))
        obtain ⟨h25, hOM23, h⟩ := h
        refine wm_bipush d_MM_isOperand_33 (by decide) ?_
        refine wm_icmp_eq (tgt := 48) d_MM_isOperand_35 rfl h25 ⟨by decide, by decide⟩ (fun c28 => ?_) (fun c28 => ?_)
        · replace h := h.1 c28
          refine wm_iconst d_MM_isOperand_48 ?_
          refine wm_goto (tgt := 53) d_MM_isOperand_49 rfl ?_
          refine wm_ireturn d_MM_isOperand_53 rfl (m_nb (by decide)) ?_
          exact ⟨_, rfl, h⟩
        · replace h := h.2 c28
          obtain ⟨h29, h⟩ := h
          refine wm_aload_n d_MM_isOperand_38 rfl rfl ?_
          refine wm_iload_n d_MM_isOperand_39 rfl rfl ?_
          refine cf_MM_302 rfl d_MM_isOperand_40 h29 (Nat.le_of_ble_eq_true rfl) (Ci.mono h (fun x31 M30 h => ?_))
          obtain ⟨h32, hOM30, h⟩ := h
          refine wm_bipush d_MM_isOperand_43 (by decide) ?_
          have hJ : ∀ v34 : Int, v34 = (if (x31 = 37) then 1 else 0) → mWm G y_MM_isOperand (d + 1) 53 [vd, vd] [vi v34] M30 (fun r9 M9 => ∃ x9, r9 = some (vi x9) ∧ Q x9 M9) := by
            intro v34 e36
            have h := h v34 e36
            have h37 : i32 v34 := by rw [e36]; (repeat' split) <;> first | exact ⟨by decide, by decide⟩ | exact ⟨by decide, by decide⟩
            have h38 : (v34 = 0 ∨ v34 = 1) := by rw [e36]; (repeat' split) <;> decide
            refine wm_ireturn d_MM_isOperand_53 rfl (m_nb h38) ?_
            exact ⟨_, rfl, h⟩
          clear h
          refine wm_icmp_ne (tgt := 52) d_MM_isOperand_45 rfl h32 ⟨by decide, by decide⟩ (fun c33 => ?_) (fun c33 => ?_)
          · refine wm_iconst d_MM_isOperand_52 ?_
            refine wm_less (L' := [vd, vd]) ⟨Or.inl rfl, Or.inl rfl, trivial⟩ ?_
            exact hJ 0 (if_neg c33).symm
          · replace c33 := Classical.not_not.mp c33
            refine wm_iconst d_MM_isOperand_48 ?_
            refine wm_goto (tgt := 53) d_MM_isOperand_49 rfl ?_
            refine wm_less (L' := [vd, vd]) ⟨Or.inl rfl, Or.inl rfl, trivial⟩ ?_
            exact hJ 1 (if_pos c33).symm
theorem d_MM_looseness_0 : decode y_MM_looseness.2.1 0 = .ok (.aload_n 0, 1) := by decide +kernel
theorem d_MM_looseness_1 : decode y_MM_looseness.2.1 1 = .ok (.iload_n 1, 1) := by decide +kernel
theorem d_MM_looseness_2 : decode y_MM_looseness.2.1 2 = .ok (.invokevirtual 302, 3) := by decide +kernel
theorem d_MM_looseness_5 : decode y_MM_looseness.2.1 5 = .ok (.istore_n 3, 1) := by decide +kernel
theorem d_MM_looseness_6 : decode y_MM_looseness.2.1 6 = .ok (.iload_n 3, 1) := by decide +kernel
theorem d_MM_looseness_7 : decode y_MM_looseness.2.1 7 = .ok (.bipush 32, 2) := by decide +kernel
theorem d_MM_looseness_9 : decode y_MM_looseness.2.1 9 = .ok (.if_icmp .ne 6, 3) := by decide +kernel
theorem d_MM_looseness_12 : decode y_MM_looseness.2.1 12 = .ok (.bipush 6, 2) := by decide +kernel
theorem d_MM_looseness_14 : decode y_MM_looseness.2.1 14 = .ok (.ireturn, 1) := by decide +kernel
theorem d_MM_looseness_15 : decode y_MM_looseness.2.1 15 = .ok (.iload_n 3, 1) := by decide +kernel
theorem d_MM_looseness_16 : decode y_MM_looseness.2.1 16 = .ok (.bipush 30, 2) := by decide +kernel
theorem d_MM_looseness_18 : decode y_MM_looseness.2.1 18 = .ok (.if_icmp .eq 9, 3) := by decide +kernel
theorem d_MM_looseness_21 : decode y_MM_looseness.2.1 21 = .ok (.iload_n 3, 1) := by decide +kernel
theorem d_MM_looseness_22 : decode y_MM_looseness.2.1 22 = .ok (.bipush 29, 2) := by decide +kernel
theorem d_MM_looseness_24 : decode y_MM_looseness.2.1 24 = .ok (.if_icmp .ne 15, 3) := by decide +kernel
theorem d_MM_looseness_39 : decode y_MM_looseness.2.1 39 = .ok (.iload_n 3, 1) := by decide +kernel
theorem d_MM_looseness_27 : decode y_MM_looseness.2.1 27 = .ok (.iload_n 3, 1) := by decide +kernel
theorem d_MM_looseness_28 : decode y_MM_looseness.2.1 28 = .ok (.bipush 30, 2) := by decide +kernel
theorem d_MM_looseness_30 : decode y_MM_looseness.2.1 30 = .ok (.if_icmp .ne 7, 3) := by decide +kernel
theorem d_MM_looseness_33 : decode y_MM_looseness.2.1 33 = .ok (.iconst 5, 1) := by decide +kernel
theorem d_MM_looseness_34 : decode y_MM_looseness.2.1 34 = .ok (.goto 4, 3) := by decide +kernel
theorem d_MM_looseness_37 : decode y_MM_looseness.2.1 37 = .ok (.iconst 4, 1) := by decide +kernel
theorem d_MM_looseness_38 : decode y_MM_looseness.2.1 38 = .ok (.ireturn, 1) := by decide +kernel
theorem d_MM_looseness_40 : decode y_MM_looseness.2.1 40 = .ok (.invokestatic 261, 3) := by decide +kernel
theorem d_MM_looseness_43 : decode y_MM_looseness.2.1 43 = .ok (.ifCond .eq 5, 3) := by decide +kernel
theorem d_MM_looseness_48 : decode y_MM_looseness.2.1 48 = .ok (.iload_n 3, 1) := by decide +kernel
theorem d_MM_looseness_49 : decode y_MM_looseness.2.1 49 = .ok (.bipush 24, 2) := by decide +kernel
theorem d_MM_looseness_46 : decode y_MM_looseness.2.1 46 = .ok (.iconst 3, 1) := by decide +kernel
theorem d_MM_looseness_47 : decode y_MM_looseness.2.1 47 = .ok (.ireturn, 1) := by decide +kernel
theorem d_MM_looseness_51 : decode y_MM_looseness.2.1 51 = .ok (.if_icmp .eq 9, 3) := by decide +kernel
theorem d_MM_looseness_54 : decode y_MM_looseness.2.1 54 = .ok (.iload_n 3, 1) := by decide +kernel
theorem d_MM_looseness_55 : decode y_MM_looseness.2.1 55 = .ok (.bipush 25, 2) := by decide +kernel
theorem d_MM_looseness_57 : decode y_MM_looseness.2.1 57 = .ok (.if_icmp .ne 24, 3) := by decide +kernel
theorem d_MM_looseness_81 : decode y_MM_looseness.2.1 81 = .ok (.iload_n 3, 1) := by decide +kernel
theorem d_MM_looseness_82 : decode y_MM_looseness.2.1 82 = .ok (.bipush 26, 2) := by decide +kernel
theorem d_MM_looseness_84 : decode y_MM_looseness.2.1 84 = .ok (.if_icmp .eq 15, 3) := by decide +kernel
theorem d_MM_looseness_87 : decode y_MM_looseness.2.1 87 = .ok (.iload_n 3, 1) := by decide +kernel
theorem d_MM_looseness_88 : decode y_MM_looseness.2.1 88 = .ok (.bipush 27, 2) := by decide +kernel
theorem d_MM_looseness_90 : decode y_MM_looseness.2.1 90 = .ok (.if_icmp .eq 9, 3) := by decide +kernel
theorem d_MM_looseness_93 : decode y_MM_looseness.2.1 93 = .ok (.iload_n 3, 1) := by decide +kernel
theorem d_MM_looseness_94 : decode y_MM_looseness.2.1 94 = .ok (.bipush 28, 2) := by decide +kernel
theorem d_MM_looseness_96 : decode y_MM_looseness.2.1 96 = .ok (.if_icmp .ne 7, 3) := by decide +kernel
theorem d_MM_looseness_103 : decode y_MM_looseness.2.1 103 = .ok (.iconst 0, 1) := by decide +kernel
theorem d_MM_looseness_104 : decode y_MM_looseness.2.1 104 = .ok (.ireturn, 1) := by decide +kernel
theorem d_MM_looseness_60 : decode y_MM_looseness.2.1 60 = .ok (.iload_n 1, 1) := by decide +kernel
theorem d_MM_looseness_61 : decode y_MM_looseness.2.1 61 = .ok (.iload_n 2, 1) := by decide +kernel
theorem d_MM_looseness_62 : decode y_MM_looseness.2.1 62 = .ok (.if_icmp .le 17, 3) := by decide +kernel
theorem d_MM_looseness_65 : decode y_MM_looseness.2.1 65 = .ok (.aload_n 0, 1) := by decide +kernel
theorem d_MM_looseness_66 : decode y_MM_looseness.2.1 66 = .ok (.iload_n 1, 1) := by decide +kernel
theorem d_MM_looseness_67 : decode y_MM_looseness.2.1 67 = .ok (.iconst 1, 1) := by decide +kernel
theorem d_MM_looseness_68 : decode y_MM_looseness.2.1 68 = .ok (.isub, 1) := by decide +kernel
theorem d_MM_looseness_79 : decode y_MM_looseness.2.1 79 = .ok (.iconst 0, 1) := by decide +kernel
theorem d_MM_looseness_69 : decode y_MM_looseness.2.1 69 = .ok (.invokevirtual 304, 3) := by decide +kernel
theorem d_MM_looseness_72 : decode y_MM_looseness.2.1 72 = .ok (.ifCond .eq 7, 3) := by decide +kernel
theorem d_MM_looseness_75 : decode y_MM_looseness.2.1 75 = .ok (.iconst 2, 1) := by decide +kernel
theorem d_MM_looseness_76 : decode y_MM_looseness.2.1 76 = .ok (.goto 4, 3) := by decide +kernel
theorem d_MM_looseness_99 : decode y_MM_looseness.2.1 99 = .ok (.iconst 1, 1) := by decide +kernel
theorem d_MM_looseness_100 : decode y_MM_looseness.2.1 100 = .ok (.goto 4, 3) := by decide +kernel
theorem d_MM_looseness_80 : decode y_MM_looseness.2.1 80 = .ok (.ireturn, 1) := by decide +kernel
def h_MM_looseness_80 (G : mG) (d : Nat) (k0 : Int) (M : mM) (Q : Int → mM → Prop) : Prop := mWm G y_MM_looseness (d + 1) 80 [vd, vd, vd, vd] [vi k0] M (fun r9 M9 => ∃ x9, r9 = some (vi x9) ∧ Q x9 M9)
theorem k_MM_looseness {G : mG} {d : Nat} {a0 : Nat} {l1 : Int} {l2 : Int} {M : mM} {Q : Int → mM → Prop} (hO : mOk M) (hi_l1 : i32 l1) (hi_l2 : i32 l2)
    (h : mK M a0 = 14 ∧ Ci G y_MM_word1 d [vr a0, vi l1] M (fun x3 M2 => i32 x3 ∧ mOk M2 ∧ (((x3 = 32) → (Q 6 M2)) ∧ (¬ (x3 = 32) → ((((x3 = 30) ∨ (x3 = 29)) → (∀ v14 : Int, v14 = (if (x3 = 30) then 5 else 4) → Q v14 M2)) ∧ (¬ ((x3 = 30) ∨ (x3 = 29)) → (Ci G y_MM_isComparison d [vi x3] M2 (fun x21 M20 => i32 x21 ∧ mOk M20 ∧ (((x21 = 0) → ((((x3 = 24) ∨ (x3 = 25)) → (((l1 ≤ l2) → (h_MM_looseness_80 G d 0 M20 Q)) ∧ (¬ (l1 ≤ l2) → (mK M20 a0 = 14 ∧ Ci G y_MM_isOperand d [vr a0, vi (l1 - 1)] M20 (fun x41 M40 => i32 x41 ∧ mOk M40 ∧ (((x41 = 0) → (h_MM_looseness_80 G d 0 M40 Q)) ∧ (¬ (x41 = 0) → (h_MM_looseness_80 G d 2 M40 Q)))))))) ∧ (¬ ((x3 = 24) ∨ (x3 = 25)) → (∀ v49 : Int, v49 = (if ((x3 = 26) ∨ ((x3 = 27) ∨ (x3 = 28))) then 1 else 0) → Q v49 M20)))) ∧ (¬ (x21 = 0) → (Q 3 M20))))))))))) :
    Ci G y_MM_looseness (d + 1) [vr a0, vi l1, vi l2] M Q := by
  refine wm_open (y := y_MM_looseness) rfl (Nat.le_of_ble_eq_true rfl) (L := [vr a0, vi l1, vi l2, vd]) rfl ?_
  obtain ⟨h1, h⟩ := h
  refine wm_aload_n d_MM_looseness_0 rfl rfl ?_
  refine wm_iload_n d_MM_looseness_1 rfl rfl ?_
  refine cf_MM_302 rfl d_MM_looseness_2 h1 (Nat.le_of_ble_eq_true rfl) (Ci.mono h (fun x3 M2 h => ?_))
  obtain ⟨h4, hOM2, h⟩ := h
  refine wm_istore_n d_MM_looseness_5 rfl (by decide) (L' := [vr a0, vi l1, vi l2, vi x3]) rfl ?_
  refine wm_iload_n d_MM_looseness_6 rfl rfl ?_
  refine wm_bipush d_MM_looseness_7 (by decide) ?_
  refine wm_icmp_ne (tgt := 15) d_MM_looseness_9 rfl h4 ⟨by decide, by decide⟩ (fun c8 => ?_) (fun c8 => ?_)
  · replace h := h.2 c8
    refine wm_iload_n d_MM_looseness_15 rfl rfl ?_
    refine wm_bipush d_MM_looseness_16 (by decide) ?_
    have hE0 : ((x3 = 30) ∨ (x3 = 29)) → mWm G y_MM_looseness (d + 1) 27 [vr a0, vi l1, vi l2, vi x3] [] M2 (fun r9 M9 => ∃ x9, r9 = some (vi x9) ∧ Q x9 M9) := by
      intro q12
      have h := h.1 q12
      refine wm_iload_n d_MM_looseness_27 rfl rfl ?_
      refine wm_bipush d_MM_looseness_28 (by decide) ?_
      have hJ : ∀ v14 : Int, v14 = (if (x3 = 30) then 5 else 4) → mWm G y_MM_looseness (d + 1) 38 [vd, vd, vd, vd] [vi v14] M2 (fun r9 M9 => ∃ x9, r9 = some (vi x9) ∧ Q x9 M9) := by
        intro v14 e16
        have h := h v14 e16
        have h17 : i32 v14 := by rw [e16]; (repeat' split) <;> first | exact ⟨by decide, by decide⟩ | exact ⟨by decide, by decide⟩
        refine wm_ireturn d_MM_looseness_38 rfl rfl ?_
        exact ⟨_, rfl, h⟩
      clear h
      refine wm_icmp_ne (tgt := 37) d_MM_looseness_30 rfl h4 ⟨by decide, by decide⟩ (fun c13 => ?_) (fun c13 => ?_)
      · refine wm_iconst d_MM_looseness_37 ?_
        refine wm_less (L' := [vd, vd, vd, vd]) ⟨Or.inl rfl, Or.inl rfl, Or.inl rfl, Or.inl rfl, trivial⟩ ?_
        exact hJ 4 (if_neg c13).symm
      · replace c13 := Classical.not_not.mp c13
        refine wm_iconst d_MM_looseness_33 ?_
        refine wm_goto (tgt := 38) d_MM_looseness_34 rfl ?_
        refine wm_less (L' := [vd, vd, vd, vd]) ⟨Or.inl rfl, Or.inl rfl, Or.inl rfl, Or.inl rfl, trivial⟩ ?_
        exact hJ 5 (if_pos c13).symm
    have hE1 : ¬ ((x3 = 30) ∨ (x3 = 29)) → mWm G y_MM_looseness (d + 1) 39 [vr a0, vi l1, vi l2, vi x3] [] M2 (fun r9 M9 => ∃ x9, r9 = some (vi x9) ∧ Q x9 M9) := by
      intro q19
      have h := h.2 q19
      refine wm_iload_n d_MM_looseness_39 rfl rfl ?_
      refine cf_MM_261 rfl d_MM_looseness_40 (Nat.le_of_ble_eq_true rfl) (Ci.mono h (fun x21 M20 h => ?_))
      obtain ⟨h22, hOM20, h⟩ := h
      refine wm_if_eq (tgt := 48) d_MM_looseness_43 rfl h22 (fun c29 => ?_) (fun c29 => ?_)
      · replace h := h.1 c29
        refine wm_iload_n d_MM_looseness_48 rfl rfl ?_
        refine wm_bipush d_MM_looseness_49 (by decide) ?_
        have hE0 : ((x3 = 24) ∨ (x3 = 25)) → mWm G y_MM_looseness (d + 1) 60 [vr a0, vi l1, vi l2, vi x3] [] M20 (fun r9 M9 => ∃ x9, r9 = some (vi x9) ∧ Q x9 M9) := by
          intro q36
          have h := h.1 q36
          refine wm_iload_n d_MM_looseness_60 rfl rfl ?_
          refine wm_iload_n d_MM_looseness_61 rfl rfl ?_
          refine wm_icmp_le (tgt := 79) d_MM_looseness_62 rfl hi_l1 hi_l2 (fun c38 => ?_) (fun c38 => ?_)
          · replace h := h.1 c38
            refine wm_iconst d_MM_looseness_79 ?_
            refine wm_less (L' := [vd, vd, vd, vd]) ⟨Or.inl rfl, Or.inl rfl, Or.inl rfl, Or.inl rfl, trivial⟩ ?_
            exact h
          · replace h := h.2 c38
            obtain ⟨h39, h⟩ := h
            refine wm_aload_n d_MM_looseness_65 rfl rfl ?_
            refine wm_iload_n d_MM_looseness_66 rfl rfl ?_
            refine wm_iconst d_MM_looseness_67 ?_
            refine wm_isub d_MM_looseness_68 ?_
            refine cf_MM_304 rfl d_MM_looseness_69 h39 (Nat.le_of_ble_eq_true rfl) (Ci.mono h (fun x41 M40 h => ?_))
            obtain ⟨h42, hOM40, h⟩ := h
            refine wm_if_eq (tgt := 79) d_MM_looseness_72 rfl h42 (fun c44 => ?_) (fun c44 => ?_)
            · replace h := h.1 c44
              refine wm_iconst d_MM_looseness_79 ?_
              refine wm_less (L' := [vd, vd, vd, vd]) ⟨Or.inl rfl, Or.inl rfl, Or.inl rfl, Or.inl rfl, trivial⟩ ?_
              exact h
            · replace h := h.2 c44
              refine wm_iconst d_MM_looseness_75 ?_
              refine wm_goto (tgt := 80) d_MM_looseness_76 rfl ?_
              refine wm_less (L' := [vd, vd, vd, vd]) ⟨Or.inl rfl, Or.inl rfl, Or.inl rfl, Or.inl rfl, trivial⟩ ?_
              exact h
        have hE1 : ¬ ((x3 = 24) ∨ (x3 = 25)) → mWm G y_MM_looseness (d + 1) 81 [vr a0, vi l1, vi l2, vi x3] [] M20 (fun r9 M9 => ∃ x9, r9 = some (vi x9) ∧ Q x9 M9) := by
          intro q45
          have h := h.2 q45
          refine wm_iload_n d_MM_looseness_81 rfl rfl ?_
          refine wm_bipush d_MM_looseness_82 (by decide) ?_
          have hJ : ∀ v49 : Int, v49 = (if ((x3 = 26) ∨ ((x3 = 27) ∨ (x3 = 28))) then 1 else 0) → mWm G y_MM_looseness (d + 1) 104 [vd, vd, vd, vd] [vi v49] M20 (fun r9 M9 => ∃ x9, r9 = some (vi x9) ∧ Q x9 M9) := by
            intro v49 e51
            have h := h v49 e51
            have h52 : i32 v49 := by rw [e51]; (repeat' split) <;> first | exact ⟨by decide, by decide⟩ | exact ⟨by decide, by decide⟩
            have h53 : (v49 = 0 ∨ v49 = 1) := by rw [e51]; (repeat' split) <;> decide
            refine wm_ireturn d_MM_looseness_104 rfl rfl ?_
            exact ⟨_, rfl, h⟩
          clear h
          refine wm_icmp_eq (tgt := 99) d_MM_looseness_84 rfl h4 ⟨by decide, by decide⟩ (fun c46 => ?_) (fun c46 => ?_)
          · refine wm_iconst d_MM_looseness_99 ?_
            refine wm_goto (tgt := 104) d_MM_looseness_100 rfl ?_
            refine wm_less (L' := [vd, vd, vd, vd]) ⟨Or.inl rfl, Or.inl rfl, Or.inl rfl, Or.inl rfl, trivial⟩ ?_
            exact hJ 1 (if_pos (Or.inl c46)).symm
          · refine wm_iload_n d_MM_looseness_87 rfl rfl ?_
            refine wm_bipush d_MM_looseness_88 (by decide) ?_
            refine wm_icmp_eq (tgt := 99) d_MM_looseness_90 rfl h4 ⟨by decide, by decide⟩ (fun c47 => ?_) (fun c47 => ?_)
            · refine wm_iconst d_MM_looseness_99 ?_
              refine wm_goto (tgt := 104) d_MM_looseness_100 rfl ?_
              refine wm_less (L' := [vd, vd, vd, vd]) ⟨Or.inl rfl, Or.inl rfl, Or.inl rfl, Or.inl rfl, trivial⟩ ?_
              exact hJ 1 (if_pos (Or.inr (Or.inl c47))).symm
            · refine wm_iload_n d_MM_looseness_93 rfl rfl ?_
              refine wm_bipush d_MM_looseness_94 (by decide) ?_
              refine wm_icmp_ne (tgt := 103) d_MM_looseness_96 rfl h4 ⟨by decide, by decide⟩ (fun c48 => ?_) (fun c48 => ?_)
              · refine wm_iconst d_MM_looseness_103 ?_
                refine wm_less (L' := [vd, vd, vd, vd]) ⟨Or.inl rfl, Or.inl rfl, Or.inl rfl, Or.inl rfl, trivial⟩ ?_
                exact hJ 0 (if_neg (fun z54 => Or.elim z54 c46 (fun z55 => Or.elim z55 c47 c48))).symm
              · replace c48 := Classical.not_not.mp c48
                refine wm_iconst d_MM_looseness_99 ?_
                refine wm_goto (tgt := 104) d_MM_looseness_100 rfl ?_
                refine wm_less (L' := [vd, vd, vd, vd]) ⟨Or.inl rfl, Or.inl rfl, Or.inl rfl, Or.inl rfl, trivial⟩ ?_
                exact hJ 1 (if_pos (Or.inr (Or.inr c48))).symm
        clear h
        refine wm_icmp_eq (tgt := 60) d_MM_looseness_51 rfl h4 ⟨by decide, by decide⟩ (fun c34 => ?_) (fun c34 => ?_)
        · exact hE0 (Or.inl c34)
        · refine wm_iload_n d_MM_looseness_54 rfl rfl ?_
          refine wm_bipush d_MM_looseness_55 (by decide) ?_
          refine wm_icmp_ne (tgt := 81) d_MM_looseness_57 rfl h4 ⟨by decide, by decide⟩ (fun c33 => ?_) (fun c33 => ?_)
          · exact hE1 (fun z57 => Or.elim z57 c34 c33)
          · replace c33 := Classical.not_not.mp c33
            exact hE0 (Or.inr c33)
      · replace h := h.2 c29
        refine wm_iconst d_MM_looseness_46 ?_
        refine wm_ireturn d_MM_looseness_47 rfl rfl ?_
        exact ⟨_, rfl, h⟩
    clear h
    refine wm_icmp_eq (tgt := 27) d_MM_looseness_18 rfl h4 ⟨by decide, by decide⟩ (fun c10 => ?_) (fun c10 => ?_)
    · exact hE0 (Or.inl c10)
    · refine wm_iload_n d_MM_looseness_21 rfl rfl ?_
      refine wm_bipush d_MM_looseness_22 (by decide) ?_
      refine wm_icmp_ne (tgt := 39) d_MM_looseness_24 rfl h4 ⟨by decide, by decide⟩ (fun c9 => ?_) (fun c9 => ?_)
      · exact hE1 (fun z59 => Or.elim z59 c10 c9)
      · replace c9 := Classical.not_not.mp c9
        exact hE0 (Or.inr c9)
  · replace c8 := Classical.not_not.mp c8
    replace h := h.1 c8
    refine wm_bipush d_MM_looseness_12 (by decide) ?_
    refine wm_ireturn d_MM_looseness_14 rfl rfl ?_
    exact ⟨_, rfl, h⟩
theorem k_MM_looseness_80 {G : mG} {d : Nat} {k0 : Int} {M : mM} {Q : Int → mM → Prop} (hO : mOk M) (hi_k0 : i32 k0)
    (h : Q k0 M) :
    h_MM_looseness_80 G d k0 M Q := by
  unfold h_MM_looseness_80
  refine wm_ireturn d_MM_looseness_80 rfl rfl ?_
  exact ⟨_, rfl, h⟩
