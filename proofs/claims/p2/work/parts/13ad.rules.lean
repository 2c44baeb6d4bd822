section
theorem d_MM_set0_0 : decode y_MM_set0.2.1 0 = .ok (.iload_n 1, 1) := dc9_27 (by decide +kernel)
theorem d_MM_set0_1 : decode y_MM_set0.2.1 1 = .ok (.bipush 36, 2) := dc9_16 (by decide +kernel)
theorem d_MM_set0_3 : decode y_MM_set0.2.1 3 = .ok (.if_icmp .ne 10, 3) := dc9_160 (by decide +kernel)
theorem d_MM_set0_6 : decode y_MM_set0.2.1 6 = .ok (.aload_n 0, 1) := dc9_42 (by decide +kernel)
theorem d_MM_set0_7 : decode y_MM_set0.2.1 7 = .ok (.invokevirtual 254, 3) := dc9_182 (by decide +kernel)
theorem d_MM_set0_10 : decode y_MM_set0.2.1 10 = .ok (.ifCond .ne 5, 3) := dc9_154 (by decide +kernel)
theorem d_MM_set0_15 : decode y_MM_set0.2.1 15 = .ok (.aload_n 0, 1) := dc9_42 (by decide +kernel)
theorem d_MM_set0_16 : decode y_MM_set0.2.1 16 = .ok (.getfield 28, 3) := dc9_180 (by decide +kernel)
theorem d_MM_set0_19 : decode y_MM_set0.2.1 19 = .ok (.bipush 75, 2) := dc9_16 (by decide +kernel)
theorem d_MM_set0_13 : decode y_MM_set0.2.1 13 = .ok (.iconst (-1), 1) := dc9_2 (by decide +kernel)
theorem d_MM_set0_14 : decode y_MM_set0.2.1 14 = .ok (.ireturn, 1) := dc9_172 (by decide +kernel)
theorem d_MM_set0_21 : decode y_MM_set0.2.1 21 = .ok (.invokevirtual 152, 3) := dc9_182 (by decide +kernel)
theorem d_MM_set0_24 : decode y_MM_set0.2.1 24 = .ok (.aload_n 0, 1) := dc9_42 (by decide +kernel)
theorem d_MM_set0_25 : decode y_MM_set0.2.1 25 = .ok (.getfield 28, 3) := dc9_180 (by decide +kernel)
theorem d_MM_set0_28 : decode y_MM_set0.2.1 28 = .ok (.bipush 37, 2) := dc9_16 (by decide +kernel)
theorem d_MM_set0_30 : decode y_MM_set0.2.1 30 = .ok (.invokevirtual 152, 3) := dc9_182 (by decide +kernel)
theorem d_MM_set0_33 : decode y_MM_set0.2.1 33 = .ok (.aload_n 0, 1) := dc9_42 (by decide +kernel)
theorem d_MM_set0_34 : decode y_MM_set0.2.1 34 = .ok (.getfield 28, 3) := dc9_180 (by decide +kernel)
theorem d_MM_set0_37 : decode y_MM_set0.2.1 37 = .ok (.bipush 61, 2) := dc9_16 (by decide +kernel)
theorem d_MM_set0_39 : decode y_MM_set0.2.1 39 = .ok (.invokevirtual 152, 3) := dc9_182 (by decide +kernel)
theorem d_MM_set0_42 : decode y_MM_set0.2.1 42 = .ok (.aload_n 0, 1) := dc9_42 (by decide +kernel)
theorem d_MM_set0_43 : decode y_MM_set0.2.1 43 = .ok (.iconst 1, 1) := dc9_4 (by decide +kernel)
theorem d_MM_set0_44 : decode y_MM_set0.2.1 44 = .ok (.bipush 38, 2) := dc9_16 (by decide +kernel)
theorem d_MM_set0_46 : decode y_MM_set0.2.1 46 = .ok (.bipush 23, 2) := dc9_16 (by decide +kernel)
theorem d_MM_set0_48 : decode y_MM_set0.2.1 48 = .ok (.invokevirtual 244, 3) := dc9_182 (by decide +kernel)
theorem d_MM_set0_51 : decode y_MM_set0.2.1 51 = .ok (.iconst 1, 1) := dc9_4 (by decide +kernel)
theorem d_MM_set0_52 : decode y_MM_set0.2.1 52 = .ok (.ireturn, 1) := dc9_172 (by decide +kernel)
theorem k_MM_set0 {G : mG} {d : Nat} {a0 : Nat} {l1 : Int} {M : mM} {Q : Int → mM → Prop} (hO : mOk M) (hi_l1 : i32 l1)
    (h : ((l1 = 36) → (mK M a0 = 14 ∧ Ci G y_MM_level d [vr a0] M (fun x5 M4 => i32 x5 ∧ mOk M4 ∧ (((x5 = 0) → (Q (-1) M4)) ∧ (¬ (x5 = 0) → (mK M4 a0 = 14 ∧ mK M4 (mR M4 a0 6) = 15 ∧ Cv G y_MN_add d [vr (mR M4 a0 6), vi 75] M4 (fun M11 => mOk M11 ∧ (mK M11 a0 = 14 ∧ mK M11 (mR M11 a0 6) = 15 ∧ Cv G y_MN_add d [vr (mR M11 a0 6), vi 37] M11 (fun M16 => mOk M16 ∧ (mK M16 a0 = 14 ∧ mK M16 (mR M16 a0 6) = 15 ∧ Cv G y_MN_add d [vr (mR M16 a0 6), vi 61] M16 (fun M21 => mOk M21 ∧ (mK M21 a0 = 14 ∧ Cv G y_MM_want d [vr a0, vi 1, vi 38, vi 23] M21 (fun M25 => mOk M25 ∧ (Q 1 M25)))))))))))))) ∧ (¬ (l1 = 36) → (Q (-1) M))) :
    Ci G y_MM_set0 (d + 1) [vr a0, vi l1] M Q := by
  refine wm_open (y := y_MM_set0) rfl (Nat.le_of_ble_eq_true rfl) (L := [vr a0, vi l1]) rfl ?_
  refine wm_iload_n d_MM_set0_0 rfl rfl ?_
  refine wm_bipush d_MM_set0_1 (by decide) ?_
  refine wm_icmp_ne (tgt := 13) d_MM_set0_3 rfl hi_l1 ⟨by decide, by decide⟩ (fun c2 => ?_) (fun c2 => ?_)
  · replace h := h.2 c2
    refine wm_iconst d_MM_set0_13 ?_
    refine wm_ireturn d_MM_set0_14 rfl rfl ?_
    exact ⟨_, rfl, h⟩
  · replace c2 := Classical.not_not.mp c2
    replace h := h.1 c2
    obtain ⟨h3, h⟩ := h
    refine wm_aload_n d_MM_set0_6 rfl rfl ?_
    refine cf_MM_254 rfl d_MM_set0_7 h3 (Nat.le_of_ble_eq_true rfl) (Ci.mono h (fun x5 M4 h => ?_))
    obtain ⟨h6, hOM4, h⟩ := h
    refine wm_if_ne (tgt := 15) d_MM_set0_10 rfl h6 (fun c8 => ?_) (fun c8 => ?_)
    · replace h := h.2 c8
      obtain ⟨h9, h⟩ := h
      obtain ⟨h10, h⟩ := h
      refine wm_aload_n d_MM_set0_15 rfl rfl ?_
      refine gf_MM_28 rfl d_MM_set0_16 h9 ?_
      refine wm_bipush d_MM_set0_19 (by decide) ?_
      refine cf_MM_152 rfl d_MM_set0_21 h10 (Nat.le_of_ble_eq_true rfl) (Cv.mono h (fun M11 h => ?_))
      obtain ⟨hOM11, h⟩ := h
      obtain ⟨h14, h⟩ := h
      obtain ⟨h15, h⟩ := h
      refine wm_aload_n d_MM_set0_24 rfl rfl ?_
      refine gf_MM_28 rfl d_MM_set0_25 h14 ?_
      refine wm_bipush d_MM_set0_28 (by decide) ?_
      refine cf_MM_152 rfl d_MM_set0_30 h15 (Nat.le_of_ble_eq_true rfl) (Cv.mono h (fun M16 h => ?_))
      obtain ⟨hOM16, h⟩ := h
      obtain ⟨h19, h⟩ := h
      obtain ⟨h20, h⟩ := h
      refine wm_aload_n d_MM_set0_33 rfl rfl ?_
      refine gf_MM_28 rfl d_MM_set0_34 h19 ?_
      refine wm_bipush d_MM_set0_37 (by decide) ?_
      refine cf_MM_152 rfl d_MM_set0_39 h20 (Nat.le_of_ble_eq_true rfl) (Cv.mono h (fun M21 h => ?_))
      obtain ⟨hOM21, h⟩ := h
      obtain ⟨h24, h⟩ := h
      refine wm_aload_n d_MM_set0_42 rfl rfl ?_
      refine wm_iconst d_MM_set0_43 ?_
      refine wm_bipush d_MM_set0_44 (by decide) ?_
      refine wm_bipush d_MM_set0_46 (by decide) ?_
      refine cf_MM_244 rfl d_MM_set0_48 h24 (Nat.le_of_ble_eq_true rfl) (Cv.mono h (fun M25 h => ?_))
      obtain ⟨hOM25, h⟩ := h
      refine wm_iconst d_MM_set0_51 ?_
      refine wm_ireturn d_MM_set0_52 rfl rfl ?_
      exact ⟨_, rfl, h⟩
    · replace c8 := Classical.not_not.mp c8
      replace h := h.1 c8
      refine wm_iconst d_MM_set0_13 ?_
      refine wm_ireturn d_MM_set0_14 rfl rfl ?_
      exact ⟨_, rfl, h⟩
theorem d_MM_anItem_0 : decode y_MM_anItem.2.1 0 = .ok (.iload_n 1, 1) := dc9_27 (by decide +kernel)
theorem d_MM_anItem_1 : decode y_MM_anItem.2.1 1 = .ok (.ifCond .ne 5, 3) := dc9_154 (by decide +kernel)
theorem d_MM_anItem_4 : decode y_MM_anItem.2.1 4 = .ok (.iconst 1, 1) := dc9_4 (by decide +kernel)
theorem d_MM_anItem_5 : decode y_MM_anItem.2.1 5 = .ok (.ireturn, 1) := dc9_172 (by decide +kernel)
theorem d_MM_anItem_6 : decode y_MM_anItem.2.1 6 = .ok (.aload_n 0, 1) := dc9_42 (by decide +kernel)
theorem d_MM_anItem_7 : decode y_MM_anItem.2.1 7 = .ok (.getfield 28, 3) := dc9_180 (by decide +kernel)
theorem d_MM_anItem_10 : decode y_MM_anItem.2.1 10 = .ok (.bipush 50, 2) := dc9_16 (by decide +kernel)
theorem d_MM_anItem_12 : decode y_MM_anItem.2.1 12 = .ok (.invokevirtual 152, 3) := dc9_182 (by decide +kernel)
theorem d_MM_anItem_15 : decode y_MM_anItem.2.1 15 = .ok (.aload_n 0, 1) := dc9_42 (by decide +kernel)
theorem d_MM_anItem_16 : decode y_MM_anItem.2.1 16 = .ok (.getfield 28, 3) := dc9_180 (by decide +kernel)
theorem d_MM_anItem_19 : decode y_MM_anItem.2.1 19 = .ok (.bipush 34, 2) := dc9_16 (by decide +kernel)
theorem d_MM_anItem_21 : decode y_MM_anItem.2.1 21 = .ok (.invokevirtual 152, 3) := dc9_182 (by decide +kernel)
theorem d_MM_anItem_24 : decode y_MM_anItem.2.1 24 = .ok (.iload_n 1, 1) := dc9_27 (by decide +kernel)
theorem d_MM_anItem_25 : decode y_MM_anItem.2.1 25 = .ok (.tableswitch 114 3 11 #[51, 62, 114, 51, 93, 93, 114, 114, 82], 51) := by decide +kernel
theorem d_MM_anItem_76 : decode y_MM_anItem.2.1 76 = .ok (.aload_n 0, 1) := dc9_42 (by decide +kernel)
theorem d_MM_anItem_77 : decode y_MM_anItem.2.1 77 = .ok (.getfield 28, 3) := dc9_180 (by decide +kernel)
theorem d_MM_anItem_80 : decode y_MM_anItem.2.1 80 = .ok (.bipush 51, 2) := dc9_16 (by decide +kernel)
theorem d_MM_anItem_82 : decode y_MM_anItem.2.1 82 = .ok (.invokevirtual 152, 3) := dc9_182 (by decide +kernel)
theorem d_MM_anItem_85 : decode y_MM_anItem.2.1 85 = .ok (.iconst 1, 1) := dc9_4 (by decide +kernel)
theorem d_MM_anItem_86 : decode y_MM_anItem.2.1 86 = .ok (.ireturn, 1) := dc9_172 (by decide +kernel)
theorem d_MM_anItem_87 : decode y_MM_anItem.2.1 87 = .ok (.aload_n 0, 1) := dc9_42 (by decide +kernel)
theorem d_MM_anItem_88 : decode y_MM_anItem.2.1 88 = .ok (.getfield 28, 3) := dc9_180 (by decide +kernel)
theorem d_MM_anItem_91 : decode y_MM_anItem.2.1 91 = .ok (.bipush 54, 2) := dc9_16 (by decide +kernel)
theorem d_MM_anItem_93 : decode y_MM_anItem.2.1 93 = .ok (.invokevirtual 152, 3) := dc9_182 (by decide +kernel)
theorem d_MM_anItem_96 : decode y_MM_anItem.2.1 96 = .ok (.aload_n 0, 1) := dc9_42 (by decide +kernel)
theorem d_MM_anItem_97 : decode y_MM_anItem.2.1 97 = .ok (.iconst 1, 1) := dc9_4 (by decide +kernel)
theorem d_MM_anItem_98 : decode y_MM_anItem.2.1 98 = .ok (.bipush 33, 2) := dc9_16 (by decide +kernel)
theorem d_MM_anItem_100 : decode y_MM_anItem.2.1 100 = .ok (.bipush 53, 2) := dc9_16 (by decide +kernel)
theorem d_MM_anItem_102 : decode y_MM_anItem.2.1 102 = .ok (.invokevirtual 244, 3) := dc9_182 (by decide +kernel)
theorem d_MM_anItem_105 : decode y_MM_anItem.2.1 105 = .ok (.iconst 1, 1) := dc9_4 (by decide +kernel)
theorem d_MM_anItem_106 : decode y_MM_anItem.2.1 106 = .ok (.ireturn, 1) := dc9_172 (by decide +kernel)
theorem d_MM_anItem_118 : decode y_MM_anItem.2.1 118 = .ok (.aload_n 0, 1) := dc9_42 (by decide +kernel)
theorem d_MM_anItem_119 : decode y_MM_anItem.2.1 119 = .ok (.getfield 28, 3) := dc9_180 (by decide +kernel)
theorem d_MM_anItem_122 : decode y_MM_anItem.2.1 122 = .ok (.bipush 57, 2) := dc9_16 (by decide +kernel)
theorem d_MM_anItem_124 : decode y_MM_anItem.2.1 124 = .ok (.invokevirtual 152, 3) := dc9_182 (by decide +kernel)
theorem d_MM_anItem_127 : decode y_MM_anItem.2.1 127 = .ok (.aload_n 0, 1) := dc9_42 (by decide +kernel)
theorem d_MM_anItem_128 : decode y_MM_anItem.2.1 128 = .ok (.bipush 61, 2) := dc9_16 (by decide +kernel)
theorem d_MM_anItem_130 : decode y_MM_anItem.2.1 130 = .ok (.bipush 17, 2) := dc9_16 (by decide +kernel)
theorem d_MM_anItem_132 : decode y_MM_anItem.2.1 132 = .ok (.bipush 56, 2) := dc9_16 (by decide +kernel)
theorem d_MM_anItem_134 : decode y_MM_anItem.2.1 134 = .ok (.invokevirtual 244, 3) := dc9_182 (by decide +kernel)
theorem d_MM_anItem_137 : decode y_MM_anItem.2.1 137 = .ok (.iconst 1, 1) := dc9_4 (by decide +kernel)
theorem d_MM_anItem_138 : decode y_MM_anItem.2.1 138 = .ok (.ireturn, 1) := dc9_172 (by decide +kernel)
theorem d_MM_anItem_107 : decode y_MM_anItem.2.1 107 = .ok (.aload_n 0, 1) := dc9_42 (by decide +kernel)
theorem d_MM_anItem_108 : decode y_MM_anItem.2.1 108 = .ok (.getfield 28, 3) := dc9_180 (by decide +kernel)
theorem d_MM_anItem_111 : decode y_MM_anItem.2.1 111 = .ok (.bipush 61, 2) := dc9_16 (by decide +kernel)
theorem d_MM_anItem_113 : decode y_MM_anItem.2.1 113 = .ok (.invokevirtual 152, 3) := dc9_182 (by decide +kernel)
theorem d_MM_anItem_116 : decode y_MM_anItem.2.1 116 = .ok (.iconst 1, 1) := dc9_4 (by decide +kernel)
theorem d_MM_anItem_117 : decode y_MM_anItem.2.1 117 = .ok (.ireturn, 1) := dc9_172 (by decide +kernel)
theorem d_MM_anItem_139 : decode y_MM_anItem.2.1 139 = .ok (.iconst (-1), 1) := dc9_2 (by decide +kernel)
theorem d_MM_anItem_140 : decode y_MM_anItem.2.1 140 = .ok (.ireturn, 1) := dc9_172 (by decide +kernel)
theorem k_MM_anItem {G : mG} {d : Nat} {a0 : Nat} {l1 : Int} {M : mM} {Q : Int → mM → Prop} (hO : mOk M) (hi_l1 : i32 l1)
    (h : ((l1 = 0) → (Q 1 M)) ∧ (¬ (l1 = 0) → (mK M a0 = 14 ∧ mK M (mR M a0 6) = 15 ∧ Cv G y_MN_add d [vr (mR M a0 6), vi 50] M (fun M5 => mOk M5 ∧ (mK M5 a0 = 14 ∧ mK M5 (mR M5 a0 6) = 15 ∧ Cv G y_MN_add d [vr (mR M5 a0 6), vi 34] M5 (fun M10 => mOk M10 ∧ (((l1 = 3 ∨ l1 = 6) → (mK M10 a0 = 14 ∧ mK M10 (mR M10 a0 6) = 15 ∧ Cv G y_MN_add d [vr (mR M10 a0 6), vi 51] M10 (fun M18 => mOk M18 ∧ (Q 1 M18)))) ∧ (¬ (l1 = 3 ∨ l1 = 6) → (((l1 = 4) → (mK M10 a0 = 14 ∧ mK M10 (mR M10 a0 6) = 15 ∧ Cv G y_MN_add d [vr (mR M10 a0 6), vi 54] M10 (fun M25 => mOk M25 ∧ (mK M25 a0 = 14 ∧ Cv G y_MM_want d [vr a0, vi 1, vi 33, vi 53] M25 (fun M29 => mOk M29 ∧ (Q 1 M29)))))) ∧ (¬ (l1 = 4) → (((l1 = 7 ∨ l1 = 8) → (mK M10 a0 = 14 ∧ mK M10 (mR M10 a0 6) = 15 ∧ Cv G y_MN_add d [vr (mR M10 a0 6), vi 57] M10 (fun M36 => mOk M36 ∧ (mK M36 a0 = 14 ∧ Cv G y_MM_want d [vr a0, vi 61, vi 17, vi 56] M36 (fun M40 => mOk M40 ∧ (Q 1 M40)))))) ∧ (¬ (l1 = 7 ∨ l1 = 8) → (((l1 = 11) → (mK M10 a0 = 14 ∧ mK M10 (mR M10 a0 6) = 15 ∧ Cv G y_MN_add d [vr (mR M10 a0 6), vi 61] M10 (fun M47 => mOk M47 ∧ (Q 1 M47)))) ∧ (¬ (l1 = 11) → (Q (-1) M10))))))))))))))) :
    Ci G y_MM_anItem (d + 1) [vr a0, vi l1] M Q := by
  refine wm_open (y := y_MM_anItem) rfl (Nat.le_of_ble_eq_true rfl) (L := [vr a0, vi l1]) rfl ?_
  refine wm_iload_n d_MM_anItem_0 rfl rfl ?_
  refine wm_if_ne (tgt := 6) d_MM_anItem_1 rfl hi_l1 (fun c2 => ?_) (fun c2 => ?_)
  · replace h := h.2 c2
    obtain ⟨h3, h⟩ := h
    obtain ⟨h4, h⟩ := h
    refine wm_aload_n d_MM_anItem_6 rfl rfl ?_
    refine gf_MM_28 rfl d_MM_anItem_7 h3 ?_
    refine wm_bipush d_MM_anItem_10 (by decide) ?_
    refine cf_MM_152 rfl d_MM_anItem_12 h4 (Nat.le_of_ble_eq_true rfl) (Cv.mono h (fun M5 h => ?_))
    obtain ⟨hOM5, h⟩ := h
    obtain ⟨h8, h⟩ := h
    obtain ⟨h9, h⟩ := h
    refine wm_aload_n d_MM_anItem_15 rfl rfl ?_
    refine gf_MM_28 rfl d_MM_anItem_16 h8 ?_
    refine wm_bipush d_MM_anItem_19 (by decide) ?_
    refine cf_MM_152 rfl d_MM_anItem_21 h9 (Nat.le_of_ble_eq_true rfl) (Cv.mono h (fun M10 h => ?_))
    obtain ⟨hOM10, h⟩ := h
    refine wm_iload_n d_MM_anItem_24 rfl rfl ?_
    by_cases c15 : l1 = 3 ∨ l1 = 6
    · replace h := h.1 c15
      refine wm_tableIn (tgt := 76) (off := 51) d_MM_anItem_25 hi_l1 (by omega) (by omega) (by rcases c15 with q9 | q9 <;> (rw [q9]; rfl)) rfl ?_
      obtain ⟨h16, h⟩ := h
      obtain ⟨h17, h⟩ := h
      refine wm_aload_n d_MM_anItem_76 rfl rfl ?_
      refine gf_MM_28 rfl d_MM_anItem_77 h16 ?_
      refine wm_bipush d_MM_anItem_80 (by decide) ?_
      refine cf_MM_152 rfl d_MM_anItem_82 h17 (Nat.le_of_ble_eq_true rfl) (Cv.mono h (fun M18 h => ?_))
      obtain ⟨hOM18, h⟩ := h
      refine wm_iconst d_MM_anItem_85 ?_
      refine wm_ireturn d_MM_anItem_86 rfl rfl ?_
      exact ⟨_, rfl, h⟩
    · replace h := h.2 c15
      by_cases c22 : l1 = 4
      · replace h := h.1 c22
        refine wm_tableIn (tgt := 87) (off := 62) d_MM_anItem_25 hi_l1 (by omega) (by omega) (by rw [c22]; rfl) rfl ?_
        obtain ⟨h23, h⟩ := h
        obtain ⟨h24, h⟩ := h
        refine wm_aload_n d_MM_anItem_87 rfl rfl ?_
        refine gf_MM_28 rfl d_MM_anItem_88 h23 ?_
        refine wm_bipush d_MM_anItem_91 (by decide) ?_
        refine cf_MM_152 rfl d_MM_anItem_93 h24 (Nat.le_of_ble_eq_true rfl) (Cv.mono h (fun M25 h => ?_))
        obtain ⟨hOM25, h⟩ := h
        obtain ⟨h28, h⟩ := h
        refine wm_aload_n d_MM_anItem_96 rfl rfl ?_
        refine wm_iconst d_MM_anItem_97 ?_
        refine wm_bipush d_MM_anItem_98 (by decide) ?_
        refine wm_bipush d_MM_anItem_100 (by decide) ?_
        refine cf_MM_244 rfl d_MM_anItem_102 h28 (Nat.le_of_ble_eq_true rfl) (Cv.mono h (fun M29 h => ?_))
        obtain ⟨hOM29, h⟩ := h
        refine wm_iconst d_MM_anItem_105 ?_
        refine wm_ireturn d_MM_anItem_106 rfl rfl ?_
        exact ⟨_, rfl, h⟩
      · replace h := h.2 c22
        by_cases c33 : l1 = 7 ∨ l1 = 8
        · replace h := h.1 c33
          refine wm_tableIn (tgt := 118) (off := 93) d_MM_anItem_25 hi_l1 (by omega) (by omega) (by rcases c33 with q9 | q9 <;> (rw [q9]; rfl)) rfl ?_
          obtain ⟨h34, h⟩ := h
          obtain ⟨h35, h⟩ := h
          refine wm_aload_n d_MM_anItem_118 rfl rfl ?_
          refine gf_MM_28 rfl d_MM_anItem_119 h34 ?_
          refine wm_bipush d_MM_anItem_122 (by decide) ?_
          refine cf_MM_152 rfl d_MM_anItem_124 h35 (Nat.le_of_ble_eq_true rfl) (Cv.mono h (fun M36 h => ?_))
          obtain ⟨hOM36, h⟩ := h
          obtain ⟨h39, h⟩ := h
          refine wm_aload_n d_MM_anItem_127 rfl rfl ?_
          refine wm_bipush d_MM_anItem_128 (by decide) ?_
          refine wm_bipush d_MM_anItem_130 (by decide) ?_
          refine wm_bipush d_MM_anItem_132 (by decide) ?_
          refine cf_MM_244 rfl d_MM_anItem_134 h39 (Nat.le_of_ble_eq_true rfl) (Cv.mono h (fun M40 h => ?_))
          obtain ⟨hOM40, h⟩ := h
          refine wm_iconst d_MM_anItem_137 ?_
          refine wm_ireturn d_MM_anItem_138 rfl rfl ?_
          exact ⟨_, rfl, h⟩
        · replace h := h.2 c33
          by_cases c44 : l1 = 11
          · replace h := h.1 c44
            refine wm_tableIn (tgt := 107) (off := 82) d_MM_anItem_25 hi_l1 (by omega) (by omega) (by rw [c44]; rfl) rfl ?_
            obtain ⟨h45, h⟩ := h
            obtain ⟨h46, h⟩ := h
            refine wm_aload_n d_MM_anItem_107 rfl rfl ?_
            refine gf_MM_28 rfl d_MM_anItem_108 h45 ?_
            refine wm_bipush d_MM_anItem_111 (by decide) ?_
            refine cf_MM_152 rfl d_MM_anItem_113 h46 (Nat.le_of_ble_eq_true rfl) (Cv.mono h (fun M47 h => ?_))
            obtain ⟨hOM47, h⟩ := h
            refine wm_iconst d_MM_anItem_116 ?_
            refine wm_ireturn d_MM_anItem_117 rfl rfl ?_
            exact ⟨_, rfl, h⟩
          · replace h := h.2 c44
            refine wm_tableD (tgt := 139) (off := 114) d_MM_anItem_25 hi_l1 (if q8 : 3 ≤ l1 ∧ l1 ≤ 11 then Or.inr ⟨q8.1, q8.2, by
      have q9 : l1 = 5 ∨ l1 = 9 ∨ l1 = 10 := by omega
      rcases q9 with q9 | q9 | q9 <;> (rw [q9]; rfl)⟩ else Or.inl (by omega)) rfl ?_
            refine wm_iconst d_MM_anItem_139 ?_
            refine wm_ireturn d_MM_anItem_140 rfl rfl ?_
            exact ⟨_, rfl, h⟩
  · replace c2 := Classical.not_not.mp c2
    replace h := h.1 c2
    refine wm_iconst d_MM_anItem_4 ?_
    refine wm_ireturn d_MM_anItem_5 rfl rfl ?_
    exact ⟨_, rfl, h⟩
theorem d_MM_rule0_0 : decode y_MM_rule0.2.1 0 = .ok (.iload_n 1, 1) := dc9_27 (by decide +kernel)
theorem d_MM_rule0_1 : decode y_MM_rule0.2.1 1 = .ok (.tableswitch 408 61 76 #[79, 99, 114, 134, 154, 174, 194, 251, 271, 291, 317, 337, 408, 369, 408, 389], 79) := by decide +kernel
theorem d_MM_rule0_80 : decode y_MM_rule0.2.1 80 = .ok (.aload_n 0, 1) := dc9_42 (by decide +kernel)
theorem d_MM_rule0_81 : decode y_MM_rule0.2.1 81 = .ok (.getfield 28, 3) := dc9_180 (by decide +kernel)
theorem d_MM_rule0_84 : decode y_MM_rule0.2.1 84 = .ok (.bipush 62, 2) := dc9_16 (by decide +kernel)
theorem d_MM_rule0_86 : decode y_MM_rule0.2.1 86 = .ok (.invokevirtual 152, 3) := dc9_182 (by decide +kernel)
theorem d_MM_rule0_89 : decode y_MM_rule0.2.1 89 = .ok (.aload_n 0, 1) := dc9_42 (by decide +kernel)
theorem d_MM_rule0_90 : decode y_MM_rule0.2.1 90 = .ok (.getfield 28, 3) := dc9_180 (by decide +kernel)
theorem d_MM_rule0_93 : decode y_MM_rule0.2.1 93 = .ok (.bipush 63, 2) := dc9_16 (by decide +kernel)
theorem d_MM_rule0_95 : decode y_MM_rule0.2.1 95 = .ok (.invokevirtual 152, 3) := dc9_182 (by decide +kernel)
theorem d_MM_rule0_98 : decode y_MM_rule0.2.1 98 = .ok (.iconst 0, 1) := dc9_3 (by decide +kernel)
theorem d_MM_rule0_99 : decode y_MM_rule0.2.1 99 = .ok (.ireturn, 1) := dc9_172 (by decide +kernel)
theorem d_MM_rule0_100 : decode y_MM_rule0.2.1 100 = .ok (.iload_n 2, 1) := dc9_28 (by decide +kernel)
theorem d_MM_rule0_101 : decode y_MM_rule0.2.1 101 = .ok (.bipush 32, 2) := dc9_16 (by decide +kernel)
theorem d_MM_rule0_103 : decode y_MM_rule0.2.1 103 = .ok (.if_icmp .ne 10, 3) := dc9_160 (by decide +kernel)
theorem d_MM_rule0_106 : decode y_MM_rule0.2.1 106 = .ok (.aload_n 0, 1) := dc9_42 (by decide +kernel)
theorem d_MM_rule0_113 : decode y_MM_rule0.2.1 113 = .ok (.iconst 0, 1) := dc9_3 (by decide +kernel)
theorem d_MM_rule0_107 : decode y_MM_rule0.2.1 107 = .ok (.invokevirtual 258, 3) := dc9_182 (by decide +kernel)
theorem d_MM_rule0_110 : decode y_MM_rule0.2.1 110 = .ok (.goto 4, 3) := dc9_167 (by decide +kernel)
theorem d_MM_rule0_115 : decode y_MM_rule0.2.1 115 = .ok (.aload_n 0, 1) := dc9_42 (by decide +kernel)
theorem d_MM_rule0_116 : decode y_MM_rule0.2.1 116 = .ok (.getfield 28, 3) := dc9_180 (by decide +kernel)
theorem d_MM_rule0_119 : decode y_MM_rule0.2.1 119 = .ok (.bipush 64, 2) := dc9_16 (by decide +kernel)
theorem d_MM_rule0_121 : decode y_MM_rule0.2.1 121 = .ok (.invokevirtual 152, 3) := dc9_182 (by decide +kernel)
theorem d_MM_rule0_124 : decode y_MM_rule0.2.1 124 = .ok (.aload_n 0, 1) := dc9_42 (by decide +kernel)
theorem d_MM_rule0_125 : decode y_MM_rule0.2.1 125 = .ok (.getfield 28, 3) := dc9_180 (by decide +kernel)
theorem d_MM_rule0_128 : decode y_MM_rule0.2.1 128 = .ok (.bipush 65, 2) := dc9_16 (by decide +kernel)
theorem d_MM_rule0_130 : decode y_MM_rule0.2.1 130 = .ok (.invokevirtual 152, 3) := dc9_182 (by decide +kernel)
theorem d_MM_rule0_133 : decode y_MM_rule0.2.1 133 = .ok (.iconst 0, 1) := dc9_3 (by decide +kernel)
theorem d_MM_rule0_134 : decode y_MM_rule0.2.1 134 = .ok (.ireturn, 1) := dc9_172 (by decide +kernel)
theorem d_MM_rule0_135 : decode y_MM_rule0.2.1 135 = .ok (.aload_n 0, 1) := dc9_42 (by decide +kernel)
theorem d_MM_rule0_136 : decode y_MM_rule0.2.1 136 = .ok (.iload_n 2, 1) := dc9_28 (by decide +kernel)
theorem d_MM_rule0_137 : decode y_MM_rule0.2.1 137 = .ok (.bipush 30, 2) := dc9_16 (by decide +kernel)
theorem d_MM_rule0_139 : decode y_MM_rule0.2.1 139 = .ok (.if_icmp .ne 7, 3) := dc9_160 (by decide +kernel)
theorem d_MM_rule0_142 : decode y_MM_rule0.2.1 142 = .ok (.iconst 1, 1) := dc9_4 (by decide +kernel)
theorem d_MM_rule0_143 : decode y_MM_rule0.2.1 143 = .ok (.goto 4, 3) := dc9_167 (by decide +kernel)
theorem d_MM_rule0_146 : decode y_MM_rule0.2.1 146 = .ok (.iconst 0, 1) := dc9_3 (by decide +kernel)
theorem d_MM_rule0_147 : decode y_MM_rule0.2.1 147 = .ok (.bipush 64, 2) := dc9_16 (by decide +kernel)
theorem d_MM_rule0_149 : decode y_MM_rule0.2.1 149 = .ok (.bipush 65, 2) := dc9_16 (by decide +kernel)
theorem d_MM_rule0_151 : decode y_MM_rule0.2.1 151 = .ok (.invokevirtual 247, 3) := dc9_182 (by decide +kernel)
theorem d_MM_rule0_154 : decode y_MM_rule0.2.1 154 = .ok (.ireturn, 1) := dc9_172 (by decide +kernel)
theorem d_MM_rule0_155 : decode y_MM_rule0.2.1 155 = .ok (.aload_n 0, 1) := dc9_42 (by decide +kernel)
theorem d_MM_rule0_156 : decode y_MM_rule0.2.1 156 = .ok (.getfield 28, 3) := dc9_180 (by decide +kernel)
theorem d_MM_rule0_159 : decode y_MM_rule0.2.1 159 = .ok (.bipush 66, 2) := dc9_16 (by decide +kernel)
theorem d_MM_rule0_161 : decode y_MM_rule0.2.1 161 = .ok (.invokevirtual 152, 3) := dc9_182 (by decide +kernel)
theorem d_MM_rule0_164 : decode y_MM_rule0.2.1 164 = .ok (.aload_n 0, 1) := dc9_42 (by decide +kernel)
theorem d_MM_rule0_165 : decode y_MM_rule0.2.1 165 = .ok (.getfield 28, 3) := dc9_180 (by decide +kernel)
theorem d_MM_rule0_168 : decode y_MM_rule0.2.1 168 = .ok (.bipush 67, 2) := dc9_16 (by decide +kernel)
theorem d_MM_rule0_170 : decode y_MM_rule0.2.1 170 = .ok (.invokevirtual 152, 3) := dc9_182 (by decide +kernel)
theorem d_MM_rule0_173 : decode y_MM_rule0.2.1 173 = .ok (.iconst 0, 1) := dc9_3 (by decide +kernel)
theorem d_MM_rule0_174 : decode y_MM_rule0.2.1 174 = .ok (.ireturn, 1) := dc9_172 (by decide +kernel)
theorem d_MM_rule0_175 : decode y_MM_rule0.2.1 175 = .ok (.aload_n 0, 1) := dc9_42 (by decide +kernel)
theorem d_MM_rule0_176 : decode y_MM_rule0.2.1 176 = .ok (.iload_n 2, 1) := dc9_28 (by decide +kernel)
theorem d_MM_rule0_177 : decode y_MM_rule0.2.1 177 = .ok (.bipush 29, 2) := dc9_16 (by decide +kernel)
theorem d_MM_rule0_179 : decode y_MM_rule0.2.1 179 = .ok (.if_icmp .ne 7, 3) := dc9_160 (by decide +kernel)
theorem d_MM_rule0_182 : decode y_MM_rule0.2.1 182 = .ok (.iconst 1, 1) := dc9_4 (by decide +kernel)
theorem d_MM_rule0_183 : decode y_MM_rule0.2.1 183 = .ok (.goto 4, 3) := dc9_167 (by decide +kernel)
theorem d_MM_rule0_186 : decode y_MM_rule0.2.1 186 = .ok (.iconst 0, 1) := dc9_3 (by decide +kernel)
theorem d_MM_rule0_187 : decode y_MM_rule0.2.1 187 = .ok (.bipush 66, 2) := dc9_16 (by decide +kernel)
theorem d_MM_rule0_189 : decode y_MM_rule0.2.1 189 = .ok (.bipush 67, 2) := dc9_16 (by decide +kernel)
theorem d_MM_rule0_191 : decode y_MM_rule0.2.1 191 = .ok (.invokevirtual 247, 3) := dc9_182 (by decide +kernel)
theorem d_MM_rule0_194 : decode y_MM_rule0.2.1 194 = .ok (.ireturn, 1) := dc9_172 (by decide +kernel)
theorem d_MM_rule0_195 : decode y_MM_rule0.2.1 195 = .ok (.iload_n 2, 1) := dc9_28 (by decide +kernel)
theorem d_MM_rule0_196 : decode y_MM_rule0.2.1 196 = .ok (.bipush 31, 2) := dc9_16 (by decide +kernel)
theorem d_MM_rule0_198 : decode y_MM_rule0.2.1 198 = .ok (.if_icmp .ne 34, 3) := dc9_160 (by decide +kernel)
theorem d_MM_rule0_201 : decode y_MM_rule0.2.1 201 = .ok (.aload_n 0, 1) := dc9_42 (by decide +kernel)
theorem d_MM_rule0_202 : decode y_MM_rule0.2.1 202 = .ok (.getfield 28, 3) := dc9_180 (by decide +kernel)
theorem d_MM_rule0_205 : decode y_MM_rule0.2.1 205 = .ok (.bipush 75, 2) := dc9_16 (by decide +kernel)
theorem d_MM_rule0_232 : decode y_MM_rule0.2.1 232 = .ok (.aload_n 0, 1) := dc9_42 (by decide +kernel)
theorem d_MM_rule0_233 : decode y_MM_rule0.2.1 233 = .ok (.getfield 28, 3) := dc9_180 (by decide +kernel)
theorem d_MM_rule0_236 : decode y_MM_rule0.2.1 236 = .ok (.bipush 68, 2) := dc9_16 (by decide +kernel)
theorem d_MM_rule0_207 : decode y_MM_rule0.2.1 207 = .ok (.invokevirtual 152, 3) := dc9_182 (by decide +kernel)
theorem d_MM_rule0_210 : decode y_MM_rule0.2.1 210 = .ok (.aload_n 0, 1) := dc9_42 (by decide +kernel)
theorem d_MM_rule0_211 : decode y_MM_rule0.2.1 211 = .ok (.getfield 28, 3) := dc9_180 (by decide +kernel)
theorem d_MM_rule0_214 : decode y_MM_rule0.2.1 214 = .ok (.bipush 67, 2) := dc9_16 (by decide +kernel)
theorem d_MM_rule0_216 : decode y_MM_rule0.2.1 216 = .ok (.invokevirtual 152, 3) := dc9_182 (by decide +kernel)
theorem d_MM_rule0_219 : decode y_MM_rule0.2.1 219 = .ok (.aload_n 0, 1) := dc9_42 (by decide +kernel)
theorem d_MM_rule0_220 : decode y_MM_rule0.2.1 220 = .ok (.invokevirtual 254, 3) := dc9_182 (by decide +kernel)
theorem d_MM_rule0_223 : decode y_MM_rule0.2.1 223 = .ok (.ifCond .eq 7, 3) := dc9_153 (by decide +kernel)
theorem d_MM_rule0_230 : decode y_MM_rule0.2.1 230 = .ok (.iconst (-1), 1) := dc9_2 (by decide +kernel)
theorem d_MM_rule0_226 : decode y_MM_rule0.2.1 226 = .ok (.iconst 1, 1) := dc9_4 (by decide +kernel)
theorem d_MM_rule0_227 : decode y_MM_rule0.2.1 227 = .ok (.goto 4, 3) := dc9_167 (by decide +kernel)
theorem d_MM_rule0_231 : decode y_MM_rule0.2.1 231 = .ok (.ireturn, 1) := dc9_172 (by decide +kernel)
theorem d_MM_rule0_238 : decode y_MM_rule0.2.1 238 = .ok (.invokevirtual 152, 3) := dc9_182 (by decide +kernel)
theorem d_MM_rule0_241 : decode y_MM_rule0.2.1 241 = .ok (.aload_n 0, 1) := dc9_42 (by decide +kernel)
theorem d_MM_rule0_242 : decode y_MM_rule0.2.1 242 = .ok (.getfield 28, 3) := dc9_180 (by decide +kernel)
theorem d_MM_rule0_245 : decode y_MM_rule0.2.1 245 = .ok (.bipush 69, 2) := dc9_16 (by decide +kernel)
theorem d_MM_rule0_247 : decode y_MM_rule0.2.1 247 = .ok (.invokevirtual 152, 3) := dc9_182 (by decide +kernel)
theorem d_MM_rule0_250 : decode y_MM_rule0.2.1 250 = .ok (.iconst 0, 1) := dc9_3 (by decide +kernel)
theorem d_MM_rule0_251 : decode y_MM_rule0.2.1 251 = .ok (.ireturn, 1) := dc9_172 (by decide +kernel)
theorem d_MM_rule0_252 : decode y_MM_rule0.2.1 252 = .ok (.iload_n 2, 1) := dc9_28 (by decide +kernel)
theorem d_MM_rule0_253 : decode y_MM_rule0.2.1 253 = .ok (.invokestatic 261, 3) := dc9_184 (by decide +kernel)
theorem d_MM_rule0_256 : decode y_MM_rule0.2.1 256 = .ok (.ifCond .eq 14, 3) := dc9_153 (by decide +kernel)
theorem d_MM_rule0_270 : decode y_MM_rule0.2.1 270 = .ok (.iconst 0, 1) := dc9_3 (by decide +kernel)
theorem d_MM_rule0_271 : decode y_MM_rule0.2.1 271 = .ok (.ireturn, 1) := dc9_172 (by decide +kernel)
theorem d_MM_rule0_259 : decode y_MM_rule0.2.1 259 = .ok (.aload_n 0, 1) := dc9_42 (by decide +kernel)
theorem d_MM_rule0_260 : decode y_MM_rule0.2.1 260 = .ok (.getfield 28, 3) := dc9_180 (by decide +kernel)
theorem d_MM_rule0_263 : decode y_MM_rule0.2.1 263 = .ok (.bipush 69, 2) := dc9_16 (by decide +kernel)
theorem d_MM_rule0_265 : decode y_MM_rule0.2.1 265 = .ok (.invokevirtual 152, 3) := dc9_182 (by decide +kernel)
theorem d_MM_rule0_268 : decode y_MM_rule0.2.1 268 = .ok (.iconst 1, 1) := dc9_4 (by decide +kernel)
theorem d_MM_rule0_269 : decode y_MM_rule0.2.1 269 = .ok (.ireturn, 1) := dc9_172 (by decide +kernel)
theorem d_MM_rule0_272 : decode y_MM_rule0.2.1 272 = .ok (.aload_n 0, 1) := dc9_42 (by decide +kernel)
theorem d_MM_rule0_273 : decode y_MM_rule0.2.1 273 = .ok (.getfield 28, 3) := dc9_180 (by decide +kernel)
theorem d_MM_rule0_276 : decode y_MM_rule0.2.1 276 = .ok (.bipush 70, 2) := dc9_16 (by decide +kernel)
theorem d_MM_rule0_278 : decode y_MM_rule0.2.1 278 = .ok (.invokevirtual 152, 3) := dc9_182 (by decide +kernel)
theorem d_MM_rule0_281 : decode y_MM_rule0.2.1 281 = .ok (.aload_n 0, 1) := dc9_42 (by decide +kernel)
theorem d_MM_rule0_282 : decode y_MM_rule0.2.1 282 = .ok (.getfield 28, 3) := dc9_180 (by decide +kernel)
theorem d_MM_rule0_285 : decode y_MM_rule0.2.1 285 = .ok (.bipush 71, 2) := dc9_16 (by decide +kernel)
theorem d_MM_rule0_287 : decode y_MM_rule0.2.1 287 = .ok (.invokevirtual 152, 3) := dc9_182 (by decide +kernel)
theorem d_MM_rule0_290 : decode y_MM_rule0.2.1 290 = .ok (.iconst 0, 1) := dc9_3 (by decide +kernel)
theorem d_MM_rule0_291 : decode y_MM_rule0.2.1 291 = .ok (.ireturn, 1) := dc9_172 (by decide +kernel)
theorem d_MM_rule0_292 : decode y_MM_rule0.2.1 292 = .ok (.aload_n 0, 1) := dc9_42 (by decide +kernel)
theorem d_MM_rule0_293 : decode y_MM_rule0.2.1 293 = .ok (.iload_n 2, 1) := dc9_28 (by decide +kernel)
theorem d_MM_rule0_294 : decode y_MM_rule0.2.1 294 = .ok (.bipush 24, 2) := dc9_16 (by decide +kernel)
theorem d_MM_rule0_296 : decode y_MM_rule0.2.1 296 = .ok (.if_icmp .eq 9, 3) := dc9_159 (by decide +kernel)
theorem d_MM_rule0_305 : decode y_MM_rule0.2.1 305 = .ok (.iconst 1, 1) := dc9_4 (by decide +kernel)
theorem d_MM_rule0_306 : decode y_MM_rule0.2.1 306 = .ok (.goto 4, 3) := dc9_167 (by decide +kernel)
theorem d_MM_rule0_299 : decode y_MM_rule0.2.1 299 = .ok (.iload_n 2, 1) := dc9_28 (by decide +kernel)
theorem d_MM_rule0_300 : decode y_MM_rule0.2.1 300 = .ok (.bipush 25, 2) := dc9_16 (by decide +kernel)
theorem d_MM_rule0_302 : decode y_MM_rule0.2.1 302 = .ok (.if_icmp .ne 7, 3) := dc9_160 (by decide +kernel)
theorem d_MM_rule0_309 : decode y_MM_rule0.2.1 309 = .ok (.iconst 0, 1) := dc9_3 (by decide +kernel)
theorem d_MM_rule0_310 : decode y_MM_rule0.2.1 310 = .ok (.bipush 70, 2) := dc9_16 (by decide +kernel)
theorem d_MM_rule0_312 : decode y_MM_rule0.2.1 312 = .ok (.bipush 71, 2) := dc9_16 (by decide +kernel)
theorem d_MM_rule0_314 : decode y_MM_rule0.2.1 314 = .ok (.invokevirtual 247, 3) := dc9_182 (by decide +kernel)
theorem d_MM_rule0_317 : decode y_MM_rule0.2.1 317 = .ok (.ireturn, 1) := dc9_172 (by decide +kernel)
theorem d_MM_rule0_318 : decode y_MM_rule0.2.1 318 = .ok (.aload_n 0, 1) := dc9_42 (by decide +kernel)
theorem d_MM_rule0_319 : decode y_MM_rule0.2.1 319 = .ok (.getfield 28, 3) := dc9_180 (by decide +kernel)
theorem d_MM_rule0_322 : decode y_MM_rule0.2.1 322 = .ok (.bipush 72, 2) := dc9_16 (by decide +kernel)
theorem d_MM_rule0_324 : decode y_MM_rule0.2.1 324 = .ok (.invokevirtual 152, 3) := dc9_182 (by decide +kernel)
theorem d_MM_rule0_327 : decode y_MM_rule0.2.1 327 = .ok (.aload_n 0, 1) := dc9_42 (by decide +kernel)
theorem d_MM_rule0_328 : decode y_MM_rule0.2.1 328 = .ok (.getfield 28, 3) := dc9_180 (by decide +kernel)
theorem d_MM_rule0_331 : decode y_MM_rule0.2.1 331 = .ok (.bipush 73, 2) := dc9_16 (by decide +kernel)
theorem d_MM_rule0_333 : decode y_MM_rule0.2.1 333 = .ok (.invokevirtual 152, 3) := dc9_182 (by decide +kernel)
theorem d_MM_rule0_336 : decode y_MM_rule0.2.1 336 = .ok (.iconst 0, 1) := dc9_3 (by decide +kernel)
theorem d_MM_rule0_337 : decode y_MM_rule0.2.1 337 = .ok (.ireturn, 1) := dc9_172 (by decide +kernel)
theorem d_MM_rule0_338 : decode y_MM_rule0.2.1 338 = .ok (.aload_n 0, 1) := dc9_42 (by decide +kernel)
theorem d_MM_rule0_339 : decode y_MM_rule0.2.1 339 = .ok (.iload_n 2, 1) := dc9_28 (by decide +kernel)
theorem d_MM_rule0_340 : decode y_MM_rule0.2.1 340 = .ok (.bipush 26, 2) := dc9_16 (by decide +kernel)
theorem d_MM_rule0_342 : decode y_MM_rule0.2.1 342 = .ok (.if_icmp .eq 15, 3) := dc9_159 (by decide +kernel)
theorem d_MM_rule0_357 : decode y_MM_rule0.2.1 357 = .ok (.iconst 1, 1) := dc9_4 (by decide +kernel)
theorem d_MM_rule0_358 : decode y_MM_rule0.2.1 358 = .ok (.goto 4, 3) := dc9_167 (by decide +kernel)
theorem d_MM_rule0_345 : decode y_MM_rule0.2.1 345 = .ok (.iload_n 2, 1) := dc9_28 (by decide +kernel)
theorem d_MM_rule0_346 : decode y_MM_rule0.2.1 346 = .ok (.bipush 27, 2) := dc9_16 (by decide +kernel)
theorem d_MM_rule0_348 : decode y_MM_rule0.2.1 348 = .ok (.if_icmp .eq 9, 3) := dc9_159 (by decide +kernel)
theorem d_MM_rule0_351 : decode y_MM_rule0.2.1 351 = .ok (.iload_n 2, 1) := dc9_28 (by decide +kernel)
theorem d_MM_rule0_352 : decode y_MM_rule0.2.1 352 = .ok (.bipush 28, 2) := dc9_16 (by decide +kernel)
theorem d_MM_rule0_354 : decode y_MM_rule0.2.1 354 = .ok (.if_icmp .ne 7, 3) := dc9_160 (by decide +kernel)
theorem d_MM_rule0_361 : decode y_MM_rule0.2.1 361 = .ok (.iconst 0, 1) := dc9_3 (by decide +kernel)
theorem d_MM_rule0_362 : decode y_MM_rule0.2.1 362 = .ok (.bipush 72, 2) := dc9_16 (by decide +kernel)
theorem d_MM_rule0_364 : decode y_MM_rule0.2.1 364 = .ok (.bipush 73, 2) := dc9_16 (by decide +kernel)
theorem d_MM_rule0_366 : decode y_MM_rule0.2.1 366 = .ok (.invokevirtual 247, 3) := dc9_182 (by decide +kernel)
theorem d_MM_rule0_369 : decode y_MM_rule0.2.1 369 = .ok (.ireturn, 1) := dc9_172 (by decide +kernel)
theorem d_MM_rule0_370 : decode y_MM_rule0.2.1 370 = .ok (.aload_n 0, 1) := dc9_42 (by decide +kernel)
theorem d_MM_rule0_371 : decode y_MM_rule0.2.1 371 = .ok (.iload_n 2, 1) := dc9_28 (by decide +kernel)
theorem d_MM_rule0_372 : decode y_MM_rule0.2.1 372 = .ok (.bipush 35, 2) := dc9_16 (by decide +kernel)
theorem d_MM_rule0_374 : decode y_MM_rule0.2.1 374 = .ok (.if_icmp .ne 7, 3) := dc9_160 (by decide +kernel)
theorem d_MM_rule0_377 : decode y_MM_rule0.2.1 377 = .ok (.iconst 1, 1) := dc9_4 (by decide +kernel)
theorem d_MM_rule0_378 : decode y_MM_rule0.2.1 378 = .ok (.goto 4, 3) := dc9_167 (by decide +kernel)
theorem d_MM_rule0_381 : decode y_MM_rule0.2.1 381 = .ok (.iconst 0, 1) := dc9_3 (by decide +kernel)
theorem d_MM_rule0_382 : decode y_MM_rule0.2.1 382 = .ok (.bipush 74, 2) := dc9_16 (by decide +kernel)
theorem d_MM_rule0_384 : decode y_MM_rule0.2.1 384 = .ok (.bipush 61, 2) := dc9_16 (by decide +kernel)
theorem d_MM_rule0_386 : decode y_MM_rule0.2.1 386 = .ok (.invokevirtual 247, 3) := dc9_182 (by decide +kernel)
theorem d_MM_rule0_389 : decode y_MM_rule0.2.1 389 = .ok (.ireturn, 1) := dc9_172 (by decide +kernel)
theorem d_MM_rule0_390 : decode y_MM_rule0.2.1 390 = .ok (.iload_n 2, 1) := dc9_28 (by decide +kernel)
theorem d_MM_rule0_391 : decode y_MM_rule0.2.1 391 = .ok (.bipush 36, 2) := dc9_16 (by decide +kernel)
theorem d_MM_rule0_393 : decode y_MM_rule0.2.1 393 = .ok (.if_icmp .ne 14, 3) := dc9_160 (by decide +kernel)
theorem d_MM_rule0_396 : decode y_MM_rule0.2.1 396 = .ok (.aload_n 0, 1) := dc9_42 (by decide +kernel)
theorem d_MM_rule0_397 : decode y_MM_rule0.2.1 397 = .ok (.invokevirtual 254, 3) := dc9_182 (by decide +kernel)
theorem d_MM_rule0_400 : decode y_MM_rule0.2.1 400 = .ok (.ifCond .eq 7, 3) := dc9_153 (by decide +kernel)
theorem d_MM_rule0_403 : decode y_MM_rule0.2.1 403 = .ok (.iconst 1, 1) := dc9_4 (by decide +kernel)
theorem d_MM_rule0_404 : decode y_MM_rule0.2.1 404 = .ok (.goto 4, 3) := dc9_167 (by decide +kernel)
theorem d_MM_rule0_407 : decode y_MM_rule0.2.1 407 = .ok (.iconst (-1), 1) := dc9_2 (by decide +kernel)
theorem d_MM_rule0_409 : decode y_MM_rule0.2.1 409 = .ok (.aload_n 0, 1) := dc9_42 (by decide +kernel)
theorem d_MM_rule0_410 : decode y_MM_rule0.2.1 410 = .ok (.iload_n 2, 1) := dc9_28 (by decide +kernel)
theorem d_MM_rule0_411 : decode y_MM_rule0.2.1 411 = .ok (.invokevirtual 264, 3) := dc9_182 (by decide +kernel)
theorem d_MM_rule0_414 : decode y_MM_rule0.2.1 414 = .ok (.ireturn, 1) := dc9_172 (by decide +kernel)
theorem d_MM_rule0_114 : decode y_MM_rule0.2.1 114 = .ok (.ireturn, 1) := dc9_172 (by decide +kernel)
theorem d_MM_rule0_408 : decode y_MM_rule0.2.1 408 = .ok (.ireturn, 1) := dc9_172 (by decide +kernel)
def h_MM_rule0_114 (G : mG) (d : Nat) (k0 : Int) (M : mM) (Q : Int → mM → Prop) : Prop := mWm G y_MM_rule0 (d + 1) 114 [vd, vd, vd] [vi k0] M (fun r9 M9 => ∃ x9, r9 = some (vi x9) ∧ Q x9 M9)
def h_MM_rule0_408 (G : mG) (d : Nat) (k0 : Int) (M : mM) (Q : Int → mM → Prop) : Prop := mWm G y_MM_rule0 (d + 1) 408 [vd, vd, vd] [vi k0] M (fun r9 M9 => ∃ x9, r9 = some (vi x9) ∧ Q x9 M9)
theorem k_MM_rule0 {G : mG} {d : Nat} {a0 : Nat} {l1 : Int} {l2 : Int} {M : mM} {Q : Int → mM → Prop} (hO : mOk M) (hi_l1 : i32 l1) (hi_l2 : i32 l2)
    (h : ((l1 = 61) → (mK M a0 = 14 ∧ mK M (mR M a0 6) = 15 ∧ Cv G y_MN_add d [vr (mR M a0 6), vi 62] M (fun M6 => mOk M6 ∧ (mK M6 a0 = 14 ∧ mK M6 (mR M6 a0 6) = 15 ∧ Cv G y_MN_add d [vr (mR M6 a0 6), vi 63] M6 (fun M11 => mOk M11 ∧ (Q 0 M11)))))) ∧ (¬ (l1 = 61) → (((l1 = 62) → (((l2 = 32) → (mK M a0 = 14 ∧ Ci G y_MM_ask d [vr a0] M (fun x20 M19 => i32 x20 ∧ mOk M19 ∧ (h_MM_rule0_114 G d x20 M19 Q)))) ∧ (¬ (l2 = 32) → (h_MM_rule0_114 G d 0 M Q)))) ∧ (¬ (l1 = 62) → (((l1 = 63) → (mK M a0 = 14 ∧ mK M (mR M a0 6) = 15 ∧ Cv G y_MN_add d [vr (mR M a0 6), vi 64] M (fun M26 => mOk M26 ∧ (mK M26 a0 = 14 ∧ mK M26 (mR M26 a0 6) = 15 ∧ Cv G y_MN_add d [vr (mR M26 a0 6), vi 65] M26 (fun M31 => mOk M31 ∧ (Q 0 M31)))))) ∧ (¬ (l1 = 63) → (((l1 = 64) → (∀ v37 : Int, v37 = (if (l2 = 30) then 1 else 0) → mK M a0 = 14 ∧ Ci G y_MM_again d [vr a0, vi v37, vi 64, vi 65] M (fun x44 M43 => i32 x44 ∧ mOk M43 ∧ (Q x44 M43)))) ∧ (¬ (l1 = 64) → (((l1 = 65) → (mK M a0 = 14 ∧ mK M (mR M a0 6) = 15 ∧ Cv G y_MN_add d [vr (mR M a0 6), vi 66] M (fun M51 => mOk M51 ∧ (mK M51 a0 = 14 ∧ mK M51 (mR M51 a0 6) = 15 ∧ Cv G y_MN_add d [vr (mR M51 a0 6), vi 67] M51 (fun M56 => mOk M56 ∧ (Q 0 M56)))))) ∧ (¬ (l1 = 65) → (((l1 = 66) → (∀ v62 : Int, v62 = (if (l2 = 29) then 1 else 0) → mK M a0 = 14 ∧ Ci G y_MM_again d [vr a0, vi v62, vi 66, vi 67] M (fun x69 M68 => i32 x69 ∧ mOk M68 ∧ (Q x69 M68)))) ∧ (¬ (l1 = 66) → (((l1 = 67) → (((l2 = 31) → (mK M a0 = 14 ∧ mK M (mR M a0 6) = 15 ∧ Cv G y_MN_add d [vr (mR M a0 6), vi 75] M (fun M78 => mOk M78 ∧ (mK M78 a0 = 14 ∧ mK M78 (mR M78 a0 6) = 15 ∧ Cv G y_MN_add d [vr (mR M78 a0 6), vi 67] M78 (fun M83 => mOk M83 ∧ (mK M83 a0 = 14 ∧ Ci G y_MM_level d [vr a0] M83 (fun x88 M87 => i32 x88 ∧ mOk M87 ∧ (∀ v91 : Int, v91 = (if (x88 = 0) then (-1) else 1) → Q v91 M87)))))))) ∧ (¬ (l2 = 31) → (mK M a0 = 14 ∧ mK M (mR M a0 6) = 15 ∧ Cv G y_MN_add d [vr (mR M a0 6), vi 68] M (fun M98 => mOk M98 ∧ (mK M98 a0 = 14 ∧ mK M98 (mR M98 a0 6) = 15 ∧ Cv G y_MN_add d [vr (mR M98 a0 6), vi 69] M98 (fun M103 => mOk M103 ∧ (Q 0 M103)))))))) ∧ (¬ (l1 = 67) → (((l1 = 68) → (Ci G y_MM_isComparison d [vi l2] M (fun x109 M108 => i32 x109 ∧ mOk M108 ∧ (((x109 = 0) → (Q 0 M108)) ∧ (¬ (x109 = 0) → (mK M108 a0 = 14 ∧ mK M108 (mR M108 a0 6) = 15 ∧ Cv G y_MN_add d [vr (mR M108 a0 6), vi 69] M108 (fun M115 => mOk M115 ∧ (Q 1 M115)))))))) ∧ (¬ (l1 = 68) → (((l1 = 69) → (mK M a0 = 14 ∧ mK M (mR M a0 6) = 15 ∧ Cv G y_MN_add d [vr (mR M a0 6), vi 70] M (fun M122 => mOk M122 ∧ (mK M122 a0 = 14 ∧ mK M122 (mR M122 a0 6) = 15 ∧ Cv G y_MN_add d [vr (mR M122 a0 6), vi 71] M122 (fun M127 => mOk M127 ∧ (Q 0 M127)))))) ∧ (¬ (l1 = 69) → (((l1 = 70) → (∀ v134 : Int, v134 = (if ((l2 = 24) ∨ (l2 = 25)) then 1 else 0) → mK M a0 = 14 ∧ Ci G y_MM_again d [vr a0, vi v134, vi 70, vi 71] M (fun x141 M140 => i32 x141 ∧ mOk M140 ∧ (Q x141 M140)))) ∧ (¬ (l1 = 70) → (((l1 = 71) → (mK M a0 = 14 ∧ mK M (mR M a0 6) = 15 ∧ Cv G y_MN_add d [vr (mR M a0 6), vi 72] M (fun M149 => mOk M149 ∧ (mK M149 a0 = 14 ∧ mK M149 (mR M149 a0 6) = 15 ∧ Cv G y_MN_add d [vr (mR M149 a0 6), vi 73] M149 (fun M154 => mOk M154 ∧ (Q 0 M154)))))) ∧ (¬ (l1 = 71) → (((l1 = 72) → (∀ v162 : Int, v162 = (if ((l2 = 26) ∨ ((l2 = 27) ∨ (l2 = 28))) then 1 else 0) → mK M a0 = 14 ∧ Ci G y_MM_again d [vr a0, vi v162, vi 72, vi 73] M (fun x169 M168 => i32 x169 ∧ mOk M168 ∧ (Q x169 M168)))) ∧ (¬ (l1 = 72) → (((l1 = 74) → (∀ v177 : Int, v177 = (if (l2 = 35) then 1 else 0) → mK M a0 = 14 ∧ Ci G y_MM_again d [vr a0, vi v177, vi 74, vi 61] M (fun x184 M183 => i32 x184 ∧ mOk M183 ∧ (Q x184 M183)))) ∧ (¬ (l1 = 74) → (((l1 = 76) → (((l2 = 36) → (mK M a0 = 14 ∧ Ci G y_MM_level d [vr a0] M (fun x193 M192 => i32 x193 ∧ mOk M192 ∧ (((x193 = 0) → (h_MM_rule0_408 G d (-1) M192 Q)) ∧ (¬ (x193 = 0) → (h_MM_rule0_408 G d 1 M192 Q)))))) ∧ (¬ (l2 = 36) → (h_MM_rule0_408 G d (-1) M Q)))) ∧ (¬ (l1 = 76) → (mK M a0 = 14 ∧ Ci G y_MM_sign d [vr a0, vi l2] M (fun x199 M198 => i32 x199 ∧ mOk M198 ∧ (Q x199 M198))))))))))))))))))))))))))))))) :
    Ci G y_MM_rule0 (d + 1) [vr a0, vi l1, vi l2] M Q := by
  refine wm_open (y := y_MM_rule0) rfl (Nat.le_of_ble_eq_true rfl) (L := [vr a0, vi l1, vi l2]) rfl ?_
  refine wm_iload_n d_MM_rule0_0 rfl rfl ?_
  by_cases c3 : l1 = 61
  · replace h := h.1 c3
    refine wm_tableIn (tgt := 80) (off := 79) d_MM_rule0_1 hi_l1 (by omega) (by omega) (by rw [c3]; rfl) rfl ?_
    obtain ⟨h4, h⟩ := h
    obtain ⟨h5, h⟩ := h
    refine wm_aload_n d_MM_rule0_80 rfl rfl ?_
    refine gf_MM_28 rfl d_MM_rule0_81 h4 ?_
    refine wm_bipush d_MM_rule0_84 (by decide) ?_
    refine cf_MM_152 rfl d_MM_rule0_86 h5 (Nat.le_of_ble_eq_true rfl) (Cv.mono h (fun M6 h => ?_))
    obtain ⟨hOM6, h⟩ := h
    obtain ⟨h9, h⟩ := h
    obtain ⟨h10, h⟩ := h
    refine wm_aload_n d_MM_rule0_89 rfl rfl ?_
    refine gf_MM_28 rfl d_MM_rule0_90 h9 ?_
    refine wm_bipush d_MM_rule0_93 (by decide) ?_
    refine cf_MM_152 rfl d_MM_rule0_95 h10 (Nat.le_of_ble_eq_true rfl) (Cv.mono h (fun M11 h => ?_))
    obtain ⟨hOM11, h⟩ := h
    refine wm_iconst d_MM_rule0_98 ?_
    refine wm_ireturn d_MM_rule0_99 rfl rfl ?_
    exact ⟨_, rfl, h⟩
  · replace h := h.2 c3
    by_cases c15 : l1 = 62
    · replace h := h.1 c15
      refine wm_tableIn (tgt := 100) (off := 99) d_MM_rule0_1 hi_l1 (by omega) (by omega) (by rw [c15]; rfl) rfl ?_
      refine wm_iload_n d_MM_rule0_100 rfl rfl ?_
      refine wm_bipush d_MM_rule0_101 (by decide) ?_
      refine wm_icmp_ne (tgt := 113) d_MM_rule0_103 rfl hi_l2 ⟨by decide, by decide⟩ (fun c17 => ?_) (fun c17 => ?_)
      · replace h := h.2 c17
        refine wm_iconst d_MM_rule0_113 ?_
        refine wm_less (L' := [vd, vd, vd]) ⟨Or.inl rfl, Or.inl rfl, Or.inl rfl, trivial⟩ ?_
        exact h
      · replace c17 := Classical.not_not.mp c17
        replace h := h.1 c17
        obtain ⟨h18, h⟩ := h
        refine wm_aload_n d_MM_rule0_106 rfl rfl ?_
        refine cf_MM_258 rfl d_MM_rule0_107 h18 (Nat.le_of_ble_eq_true rfl) (Ci.mono h (fun x20 M19 h => ?_))
        obtain ⟨h21, hOM19, h⟩ := h
        refine wm_goto (tgt := 114) d_MM_rule0_110 rfl ?_
        refine wm_less (L' := [vd, vd, vd]) ⟨Or.inl rfl, Or.inl rfl, Or.inl rfl, trivial⟩ ?_
        exact h
    · replace h := h.2 c15
      by_cases c23 : l1 = 63
      · replace h := h.1 c23
        refine wm_tableIn (tgt := 115) (off := 114) d_MM_rule0_1 hi_l1 (by omega) (by omega) (by rw [c23]; rfl) rfl ?_
        obtain ⟨h24, h⟩ := h
        obtain ⟨h25, h⟩ := h
        refine wm_aload_n d_MM_rule0_115 rfl rfl ?_
        refine gf_MM_28 rfl d_MM_rule0_116 h24 ?_
        refine wm_bipush d_MM_rule0_119 (by decide) ?_
        refine cf_MM_152 rfl d_MM_rule0_121 h25 (Nat.le_of_ble_eq_true rfl) (Cv.mono h (fun M26 h => ?_))
        obtain ⟨hOM26, h⟩ := h
        obtain ⟨h29, h⟩ := h
        obtain ⟨h30, h⟩ := h
        refine wm_aload_n d_MM_rule0_124 rfl rfl ?_
        refine gf_MM_28 rfl d_MM_rule0_125 h29 ?_
        refine wm_bipush d_MM_rule0_128 (by decide) ?_
        refine cf_MM_152 rfl d_MM_rule0_130 h30 (Nat.le_of_ble_eq_true rfl) (Cv.mono h (fun M31 h => ?_))
        obtain ⟨hOM31, h⟩ := h
        refine wm_iconst d_MM_rule0_133 ?_
        refine wm_ireturn d_MM_rule0_134 rfl rfl ?_
        exact ⟨_, rfl, h⟩
      · replace h := h.2 c23
        by_cases c35 : l1 = 64
        · replace h := h.1 c35
          refine wm_tableIn (tgt := 135) (off := 134) d_MM_rule0_1 hi_l1 (by omega) (by omega) (by rw [c35]; rfl) rfl ?_
          refine wm_aload_n d_MM_rule0_135 rfl rfl ?_
          refine wm_iload_n d_MM_rule0_136 rfl rfl ?_
          refine wm_bipush d_MM_rule0_137 (by decide) ?_
          have hJ : ∀ v37 : Int, v37 = (if (l2 = 30) then 1 else 0) → mWm G y_MM_rule0 (d + 1) 147 [vd, vd, vd] [vi v37, vr a0] M (fun r9 M9 => ∃ x9, r9 = some (vi x9) ∧ Q x9 M9) := by
            intro v37 e39
            have h := h v37 e39
            have h40 : i32 v37 := by rw [e39]; (repeat' split) <;> first | exact ⟨by decide, by decide⟩ | exact ⟨by decide, by decide⟩
            have h41 : (v37 = 0 ∨ v37 = 1) := by rw [e39]; (repeat' split) <;> decide
            obtain ⟨h42, h⟩ := h
            refine wm_bipush d_MM_rule0_147 (by decide) ?_
            refine wm_bipush d_MM_rule0_149 (by decide) ?_
            refine cf_MM_247 rfl d_MM_rule0_151 h42 (Nat.le_of_ble_eq_true rfl) (Ci.mono h (fun x44 M43 h => ?_))
            obtain ⟨h45, hOM43, h⟩ := h
            refine wm_ireturn d_MM_rule0_154 rfl rfl ?_
            exact ⟨_, rfl, h⟩
          clear h
          refine wm_icmp_ne (tgt := 146) d_MM_rule0_139 rfl hi_l2 ⟨by decide, by decide⟩ (fun c36 => ?_) (fun c36 => ?_)
          · refine wm_iconst d_MM_rule0_146 ?_
            refine wm_less (L' := [vd, vd, vd]) ⟨Or.inl rfl, Or.inl rfl, Or.inl rfl, trivial⟩ ?_
            exact hJ 0 (if_neg c36).symm
          · replace c36 := Classical.not_not.mp c36
            refine wm_iconst d_MM_rule0_142 ?_
            refine wm_goto (tgt := 147) d_MM_rule0_143 rfl ?_
            refine wm_less (L' := [vd, vd, vd]) ⟨Or.inl rfl, Or.inl rfl, Or.inl rfl, trivial⟩ ?_
            exact hJ 1 (if_pos c36).symm
        · replace h := h.2 c35
          by_cases c48 : l1 = 65
          · replace h := h.1 c48
            refine wm_tableIn (tgt := 155) (off := 154) d_MM_rule0_1 hi_l1 (by omega) (by omega) (by rw [c48]; rfl) rfl ?_
            obtain ⟨h49, h⟩ := h
            obtain ⟨h50, h⟩ := h
            refine wm_aload_n d_MM_rule0_155 rfl rfl ?_
            refine gf_MM_28 rfl d_MM_rule0_156 h49 ?_
            refine wm_bipush d_MM_rule0_159 (by decide) ?_
            refine cf_MM_152 rfl d_MM_rule0_161 h50 (Nat.le_of_ble_eq_true rfl) (Cv.mono h (fun M51 h => ?_))
            obtain ⟨hOM51, h⟩ := h
            obtain ⟨h54, h⟩ := h
            obtain ⟨h55, h⟩ := h
            refine wm_aload_n d_MM_rule0_164 rfl rfl ?_
            refine gf_MM_28 rfl d_MM_rule0_165 h54 ?_
            refine wm_bipush d_MM_rule0_168 (by decide) ?_
            refine cf_MM_152 rfl d_MM_rule0_170 h55 (Nat.le_of_ble_eq_true rfl) (Cv.mono h (fun M56 h => ?_))
            obtain ⟨hOM56, h⟩ := h
            refine wm_iconst d_MM_rule0_173 ?_
            refine wm_ireturn d_MM_rule0_174 rfl rfl ?_
            exact ⟨_, rfl, h⟩
          · replace h := h.2 c48
            by_cases c60 : l1 = 66
            · replace h := h.1 c60
              refine wm_tableIn (tgt := 175) (off := 174) d_MM_rule0_1 hi_l1 (by omega) (by omega) (by rw [c60]; rfl) rfl ?_
              refine wm_aload_n d_MM_rule0_175 rfl rfl ?_
              refine wm_iload_n d_MM_rule0_176 rfl rfl ?_
              refine wm_bipush d_MM_rule0_177 (by decide) ?_
              have hJ : ∀ v62 : Int, v62 = (if (l2 = 29) then 1 else 0) → mWm G y_MM_rule0 (d + 1) 187 [vd, vd, vd] [vi v62, vr a0] M (fun r9 M9 => ∃ x9, r9 = some (vi x9) ∧ Q x9 M9) := by
                intro v62 e64
                have h := h v62 e64
                have h65 : i32 v62 := by rw [e64]; (repeat' split) <;> first | exact ⟨by decide, by decide⟩ | exact ⟨by decide, by decide⟩
                have h66 : (v62 = 0 ∨ v62 = 1) := by rw [e64]; (repeat' split) <;> decide
                obtain ⟨h67, h⟩ := h
                refine wm_bipush d_MM_rule0_187 (by decide) ?_
                refine wm_bipush d_MM_rule0_189 (by decide) ?_
                refine cf_MM_247 rfl d_MM_rule0_191 h67 (Nat.le_of_ble_eq_true rfl) (Ci.mono h (fun x69 M68 h => ?_))
                obtain ⟨h70, hOM68, h⟩ := h
                refine wm_ireturn d_MM_rule0_194 rfl rfl ?_
                exact ⟨_, rfl, h⟩
              clear h
              refine wm_icmp_ne (tgt := 186) d_MM_rule0_179 rfl hi_l2 ⟨by decide, by decide⟩ (fun c61 => ?_) (fun c61 => ?_)
              · refine wm_iconst d_MM_rule0_186 ?_
                refine wm_less (L' := [vd, vd, vd]) ⟨Or.inl rfl, Or.inl rfl, Or.inl rfl, trivial⟩ ?_
                exact hJ 0 (if_neg c61).symm
              · replace c61 := Classical.not_not.mp c61
                refine wm_iconst d_MM_rule0_182 ?_
                refine wm_goto (tgt := 187) d_MM_rule0_183 rfl ?_
                refine wm_less (L' := [vd, vd, vd]) ⟨Or.inl rfl, Or.inl rfl, Or.inl rfl, trivial⟩ ?_
                exact hJ 1 (if_pos c61).symm
            · replace h := h.2 c60
              by_cases c73 : l1 = 67
              · replace h := h.1 c73
                refine wm_tableIn (tgt := 195) (off := 194) d_MM_rule0_1 hi_l1 (by omega) (by omega) (by rw [c73]; rfl) rfl ?_
                refine wm_iload_n d_MM_rule0_195 rfl rfl ?_
                refine wm_bipush d_MM_rule0_196 (by decide) ?_
                refine wm_icmp_ne (tgt := 232) d_MM_rule0_198 rfl hi_l2 ⟨by decide, by decide⟩ (fun c75 => ?_) (fun c75 => ?_)
                · replace h := h.2 c75
                  obtain ⟨h96, h⟩ := h
                  obtain ⟨h97, h⟩ := h
                  refine wm_aload_n d_MM_rule0_232 rfl rfl ?_
                  refine gf_MM_28 rfl d_MM_rule0_233 h96 ?_
                  refine wm_bipush d_MM_rule0_236 (by decide) ?_
                  refine cf_MM_152 rfl d_MM_rule0_238 h97 (Nat.le_of_ble_eq_true rfl) (Cv.mono h (fun M98 h => ?_))
                  obtain ⟨hOM98, h⟩ := h
                  obtain ⟨h101, h⟩ := h
                  obtain ⟨h102, h⟩ := h
                  refine wm_aload_n d_MM_rule0_241 rfl rfl ?_
                  refine gf_MM_28 rfl d_MM_rule0_242 h101 ?_
                  refine wm_bipush d_MM_rule0_245 (by decide) ?_
                  refine cf_MM_152 rfl d_MM_rule0_247 h102 (Nat.le_of_ble_eq_true rfl) (Cv.mono h (fun M103 h => ?_))
                  obtain ⟨hOM103, h⟩ := h
                  refine wm_iconst d_MM_rule0_250 ?_
                  refine wm_ireturn d_MM_rule0_251 rfl rfl ?_
                  exact ⟨_, rfl, h⟩
                · replace c75 := Classical.not_not.mp c75
                  replace h := h.1 c75
                  obtain ⟨h76, h⟩ := h
                  obtain ⟨h77, h⟩ := h
                  refine wm_aload_n d_MM_rule0_201 rfl rfl ?_
                  refine gf_MM_28 rfl d_MM_rule0_202 h76 ?_
                  refine wm_bipush d_MM_rule0_205 (by decide) ?_
                  refine cf_MM_152 rfl d_MM_rule0_207 h77 (Nat.le_of_ble_eq_true rfl) (Cv.mono h (fun M78 h => ?_))
                  obtain ⟨hOM78, h⟩ := h
                  obtain ⟨h81, h⟩ := h
                  obtain ⟨h82, h⟩ := h
                  refine wm_aload_n d_MM_rule0_210 rfl rfl ?_
                  refine gf_MM_28 rfl d_MM_rule0_211 h81 ?_
                  refine wm_bipush d_MM_rule0_214 (by decide) ?_
                  refine cf_MM_152 rfl d_MM_rule0_216 h82 (Nat.le_of_ble_eq_true rfl) (Cv.mono h (fun M83 h => ?_))
                  obtain ⟨hOM83, h⟩ := h
                  obtain ⟨h86, h⟩ := h
                  refine wm_aload_n d_MM_rule0_219 rfl rfl ?_
                  refine cf_MM_254 rfl d_MM_rule0_220 h86 (Nat.le_of_ble_eq_true rfl) (Ci.mono h (fun x88 M87 h => ?_))
                  obtain ⟨h89, hOM87, h⟩ := h
                  have hJ : ∀ v91 : Int, v91 = (if (x88 = 0) then (-1) else 1) → mWm G y_MM_rule0 (d + 1) 231 [vd, vd, vd] [vi v91] M87 (fun r9 M9 => ∃ x9, r9 = some (vi x9) ∧ Q x9 M9) := by
                    intro v91 e93
                    have h := h v91 e93
                    have h94 : i32 v91 := by rw [e93]; (repeat' split) <;> first | exact ⟨by decide, by decide⟩ | exact ⟨by decide, by decide⟩
                    refine wm_ireturn d_MM_rule0_231 rfl rfl ?_
                    exact ⟨_, rfl, h⟩
                  clear h
                  refine wm_if_eq (tgt := 230) d_MM_rule0_223 rfl h89 (fun c90 => ?_) (fun c90 => ?_)
                  · refine wm_iconst d_MM_rule0_230 ?_
                    refine wm_less (L' := [vd, vd, vd]) ⟨Or.inl rfl, Or.inl rfl, Or.inl rfl, trivial⟩ ?_
                    exact hJ (-1) (if_pos c90).symm
                  · refine wm_iconst d_MM_rule0_226 ?_
                    refine wm_goto (tgt := 231) d_MM_rule0_227 rfl ?_
                    refine wm_less (L' := [vd, vd, vd]) ⟨Or.inl rfl, Or.inl rfl, Or.inl rfl, trivial⟩ ?_
                    exact hJ 1 (if_neg c90).symm
              · replace h := h.2 c73
                by_cases c107 : l1 = 68
                · replace h := h.1 c107
                  refine wm_tableIn (tgt := 252) (off := 251) d_MM_rule0_1 hi_l1 (by omega) (by omega) (by rw [c107]; rfl) rfl ?_
                  refine wm_iload_n d_MM_rule0_252 rfl rfl ?_
                  refine cf_MM_261 rfl d_MM_rule0_253 (Nat.le_of_ble_eq_true rfl) (Ci.mono h (fun x109 M108 h => ?_))
                  obtain ⟨h110, hOM108, h⟩ := h
                  refine wm_if_eq (tgt := 270) d_MM_rule0_256 rfl h110 (fun c112 => ?_) (fun c112 => ?_)
                  · replace h := h.1 c112
                    refine wm_iconst d_MM_rule0_270 ?_
                    refine wm_ireturn d_MM_rule0_271 rfl rfl ?_
                    exact ⟨_, rfl, h⟩
                  · replace h := h.2 c112
                    obtain ⟨h113, h⟩ := h
                    obtain ⟨h114, h⟩ := h
                    refine wm_aload_n d_MM_rule0_259 rfl rfl ?_
                    refine gf_MM_28 rfl d_MM_rule0_260 h113 ?_
                    refine wm_bipush d_MM_rule0_263 (by decide) ?_
                    refine cf_MM_152 rfl d_MM_rule0_265 h114 (Nat.le_of_ble_eq_true rfl) (Cv.mono h (fun M115 h => ?_))
                    obtain ⟨hOM115, h⟩ := h
                    refine wm_iconst d_MM_rule0_268 ?_
                    refine wm_ireturn d_MM_rule0_269 rfl rfl ?_
                    exact ⟨_, rfl, h⟩
                · replace h := h.2 c107
                  by_cases c119 : l1 = 69
                  · replace h := h.1 c119
                    refine wm_tableIn (tgt := 272) (off := 271) d_MM_rule0_1 hi_l1 (by omega) (by omega) (by rw [c119]; rfl) rfl ?_
                    obtain ⟨h120, h⟩ := h
                    obtain ⟨h121, h⟩ := h
                    refine wm_aload_n d_MM_rule0_272 rfl rfl ?_
                    refine gf_MM_28 rfl d_MM_rule0_273 h120 ?_
                    refine wm_bipush d_MM_rule0_276 (by decide) ?_
                    refine cf_MM_152 rfl d_MM_rule0_278 h121 (Nat.le_of_ble_eq_true rfl) (Cv.mono h (fun M122 h => ?_))
                    obtain ⟨hOM122, h⟩ := h
                    obtain ⟨h125, h⟩ := h
                    obtain ⟨h126, h⟩ := h
                    refine wm_aload_n d_MM_rule0_281 rfl rfl ?_
                    refine gf_MM_28 rfl d_MM_rule0_282 h125 ?_
                    refine wm_bipush d_MM_rule0_285 (by decide) ?_
                    refine cf_MM_152 rfl d_MM_rule0_287 h126 (Nat.le_of_ble_eq_true rfl) (Cv.mono h (fun M127 h => ?_))
                    obtain ⟨hOM127, h⟩ := h
                    refine wm_iconst d_MM_rule0_290 ?_
                    refine wm_ireturn d_MM_rule0_291 rfl rfl ?_
                    exact ⟨_, rfl, h⟩
                  · replace h := h.2 c119
                    by_cases c131 : l1 = 70
                    · replace h := h.1 c131
                      refine wm_tableIn (tgt := 292) (off := 291) d_MM_rule0_1 hi_l1 (by omega) (by omega) (by rw [c131]; rfl) rfl ?_
                      refine wm_aload_n d_MM_rule0_292 rfl rfl ?_
                      refine wm_iload_n d_MM_rule0_293 rfl rfl ?_
                      refine wm_bipush d_MM_rule0_294 (by decide) ?_
                      have hJ : ∀ v134 : Int, v134 = (if ((l2 = 24) ∨ (l2 = 25)) then 1 else 0) → mWm G y_MM_rule0 (d + 1) 310 [vd, vd, vd] [vi v134, vr a0] M (fun r9 M9 => ∃ x9, r9 = some (vi x9) ∧ Q x9 M9) := by
                        intro v134 e136
                        have h := h v134 e136
                        have h137 : i32 v134 := by rw [e136]; (repeat' split) <;> first | exact ⟨by decide, by decide⟩ | exact ⟨by decide, by decide⟩
                        have h138 : (v134 = 0 ∨ v134 = 1) := by rw [e136]; (repeat' split) <;> decide
                        obtain ⟨h139, h⟩ := h
                        refine wm_bipush d_MM_rule0_310 (by decide) ?_
                        refine wm_bipush d_MM_rule0_312 (by decide) ?_
                        refine cf_MM_247 rfl d_MM_rule0_314 h139 (Nat.le_of_ble_eq_true rfl) (Ci.mono h (fun x141 M140 h => ?_))
                        obtain ⟨h142, hOM140, h⟩ := h
                        refine wm_ireturn d_MM_rule0_317 rfl rfl ?_
                        exact ⟨_, rfl, h⟩
                      clear h
                      refine wm_icmp_eq (tgt := 305) d_MM_rule0_296 rfl hi_l2 ⟨by decide, by decide⟩ (fun c132 => ?_) (fun c132 => ?_)
                      · refine wm_iconst d_MM_rule0_305 ?_
                        refine wm_goto (tgt := 310) d_MM_rule0_306 rfl ?_
                        refine wm_less (L' := [vd, vd, vd]) ⟨Or.inl rfl, Or.inl rfl, Or.inl rfl, trivial⟩ ?_
                        exact hJ 1 (if_pos (Or.inl c132)).symm
                      · refine wm_iload_n d_MM_rule0_299 rfl rfl ?_
                        refine wm_bipush d_MM_rule0_300 (by decide) ?_
                        refine wm_icmp_ne (tgt := 309) d_MM_rule0_302 rfl hi_l2 ⟨by decide, by decide⟩ (fun c133 => ?_) (fun c133 => ?_)
                        · refine wm_iconst d_MM_rule0_309 ?_
                          refine wm_less (L' := [vd, vd, vd]) ⟨Or.inl rfl, Or.inl rfl, Or.inl rfl, trivial⟩ ?_
                          exact hJ 0 (if_neg (fun z143 => Or.elim z143 c132 c133)).symm
                        · replace c133 := Classical.not_not.mp c133
                          refine wm_iconst d_MM_rule0_305 ?_
                          refine wm_goto (tgt := 310) d_MM_rule0_306 rfl ?_
                          refine wm_less (L' := [vd, vd, vd]) ⟨Or.inl rfl, Or.inl rfl, Or.inl rfl, trivial⟩ ?_
                          exact hJ 1 (if_pos (Or.inr c133)).symm
                    · replace h := h.2 c131
                      by_cases c146 : l1 = 71
                      · replace h := h.1 c146
                        refine wm_tableIn (tgt := 318) (off := 317) d_MM_rule0_1 hi_l1 (by omega) (by omega) (by rw [c146]; rfl) rfl ?_
                        obtain ⟨h147, h⟩ := h
                        obtain ⟨h148, h⟩ := h
                        refine wm_aload_n d_MM_rule0_318 rfl rfl ?_
                        refine gf_MM_28 rfl d_MM_rule0_319 h147 ?_
                        refine wm_bipush d_MM_rule0_322 (by decide) ?_
                        refine cf_MM_152 rfl d_MM_rule0_324 h148 (Nat.le_of_ble_eq_true rfl) (Cv.mono h (fun M149 h => ?_))
                        obtain ⟨hOM149, h⟩ := h
                        obtain ⟨h152, h⟩ := h
                        obtain ⟨h153, h⟩ := h
                        refine wm_aload_n d_MM_rule0_327 rfl rfl ?_
                        refine gf_MM_28 rfl d_MM_rule0_328 h152 ?_
                        refine wm_bipush d_MM_rule0_331 (by decide) ?_
                        refine cf_MM_152 rfl d_MM_rule0_333 h153 (Nat.le_of_ble_eq_true rfl) (Cv.mono h (fun M154 h => ?_))
                        obtain ⟨hOM154, h⟩ := h
                        refine wm_iconst d_MM_rule0_336 ?_
                        refine wm_ireturn d_MM_rule0_337 rfl rfl ?_
                        exact ⟨_, rfl, h⟩
                      · replace h := h.2 c146
                        by_cases c158 : l1 = 72
                        · replace h := h.1 c158
                          refine wm_tableIn (tgt := 338) (off := 337) d_MM_rule0_1 hi_l1 (by omega) (by omega) (by rw [c158]; rfl) rfl ?_
                          refine wm_aload_n d_MM_rule0_338 rfl rfl ?_
                          refine wm_iload_n d_MM_rule0_339 rfl rfl ?_
                          refine wm_bipush d_MM_rule0_340 (by decide) ?_
                          have hJ : ∀ v162 : Int, v162 = (if ((l2 = 26) ∨ ((l2 = 27) ∨ (l2 = 28))) then 1 else 0) → mWm G y_MM_rule0 (d + 1) 362 [vd, vd, vd] [vi v162, vr a0] M (fun r9 M9 => ∃ x9, r9 = some (vi x9) ∧ Q x9 M9) := by
                            intro v162 e164
                            have h := h v162 e164
                            have h165 : i32 v162 := by rw [e164]; (repeat' split) <;> first | exact ⟨by decide, by decide⟩ | exact ⟨by decide, by decide⟩
                            have h166 : (v162 = 0 ∨ v162 = 1) := by rw [e164]; (repeat' split) <;> decide
                            obtain ⟨h167, h⟩ := h
                            refine wm_bipush d_MM_rule0_362 (by decide) ?_
                            refine wm_bipush d_MM_rule0_364 (by decide) ?_
                            refine cf_MM_247 rfl d_MM_rule0_366 h167 (Nat.le_of_ble_eq_true rfl) (Ci.mono h (fun x169 M168 h => ?_))
                            obtain ⟨h170, hOM168, h⟩ := h
                            refine wm_ireturn d_MM_rule0_369 rfl rfl ?_
                            exact ⟨_, rfl, h⟩
                          clear h
                          refine wm_icmp_eq (tgt := 357) d_MM_rule0_342 rfl hi_l2 ⟨by decide, by decide⟩ (fun c159 => ?_) (fun c159 => ?_)
                          · refine wm_iconst d_MM_rule0_357 ?_
                            refine wm_goto (tgt := 362) d_MM_rule0_358 rfl ?_
                            refine wm_less (L' := [vd, vd, vd]) ⟨Or.inl rfl, Or.inl rfl, Or.inl rfl, trivial⟩ ?_
                            exact hJ 1 (if_pos (Or.inl c159)).symm
                          · refine wm_iload_n d_MM_rule0_345 rfl rfl ?_
                            refine wm_bipush d_MM_rule0_346 (by decide) ?_
                            refine wm_icmp_eq (tgt := 357) d_MM_rule0_348 rfl hi_l2 ⟨by decide, by decide⟩ (fun c160 => ?_) (fun c160 => ?_)
                            · refine wm_iconst d_MM_rule0_357 ?_
                              refine wm_goto (tgt := 362) d_MM_rule0_358 rfl ?_
                              refine wm_less (L' := [vd, vd, vd]) ⟨Or.inl rfl, Or.inl rfl, Or.inl rfl, trivial⟩ ?_
                              exact hJ 1 (if_pos (Or.inr (Or.inl c160))).symm
                            · refine wm_iload_n d_MM_rule0_351 rfl rfl ?_
                              refine wm_bipush d_MM_rule0_352 (by decide) ?_
                              refine wm_icmp_ne (tgt := 361) d_MM_rule0_354 rfl hi_l2 ⟨by decide, by decide⟩ (fun c161 => ?_) (fun c161 => ?_)
                              · refine wm_iconst d_MM_rule0_361 ?_
                                refine wm_less (L' := [vd, vd, vd]) ⟨Or.inl rfl, Or.inl rfl, Or.inl rfl, trivial⟩ ?_
                                exact hJ 0 (if_neg (fun z171 => Or.elim z171 c159 (fun z172 => Or.elim z172 c160 c161))).symm
                              · replace c161 := Classical.not_not.mp c161
                                refine wm_iconst d_MM_rule0_357 ?_
                                refine wm_goto (tgt := 362) d_MM_rule0_358 rfl ?_
                                refine wm_less (L' := [vd, vd, vd]) ⟨Or.inl rfl, Or.inl rfl, Or.inl rfl, trivial⟩ ?_
                                exact hJ 1 (if_pos (Or.inr (Or.inr c161))).symm
                        · replace h := h.2 c158
                          by_cases c175 : l1 = 74
                          · replace h := h.1 c175
                            refine wm_tableIn (tgt := 370) (off := 369) d_MM_rule0_1 hi_l1 (by omega) (by omega) (by rw [c175]; rfl) rfl ?_
                            refine wm_aload_n d_MM_rule0_370 rfl rfl ?_
                            refine wm_iload_n d_MM_rule0_371 rfl rfl ?_
                            refine wm_bipush d_MM_rule0_372 (by decide) ?_
                            have hJ : ∀ v177 : Int, v177 = (if (l2 = 35) then 1 else 0) → mWm G y_MM_rule0 (d + 1) 382 [vd, vd, vd] [vi v177, vr a0] M (fun r9 M9 => ∃ x9, r9 = some (vi x9) ∧ Q x9 M9) := by
                              intro v177 e179
                              have h := h v177 e179
                              have h180 : i32 v177 := by rw [e179]; (repeat' split) <;> first | exact ⟨by decide, by decide⟩ | exact ⟨by decide, by decide⟩
                              have h181 : (v177 = 0 ∨ v177 = 1) := by rw [e179]; (repeat' split) <;> decide
                              obtain ⟨h182, h⟩ := h
                              refine wm_bipush d_MM_rule0_382 (by decide) ?_
                              refine wm_bipush d_MM_rule0_384 (by decide) ?_
                              refine cf_MM_247 rfl d_MM_rule0_386 h182 (Nat.le_of_ble_eq_true rfl) (Ci.mono h (fun x184 M183 h => ?_))
                              obtain ⟨h185, hOM183, h⟩ := h
                              refine wm_ireturn d_MM_rule0_389 rfl rfl ?_
                              exact ⟨_, rfl, h⟩
                            clear h
                            refine wm_icmp_ne (tgt := 381) d_MM_rule0_374 rfl hi_l2 ⟨by decide, by decide⟩ (fun c176 => ?_) (fun c176 => ?_)
                            · refine wm_iconst d_MM_rule0_381 ?_
                              refine wm_less (L' := [vd, vd, vd]) ⟨Or.inl rfl, Or.inl rfl, Or.inl rfl, trivial⟩ ?_
                              exact hJ 0 (if_neg c176).symm
                            · replace c176 := Classical.not_not.mp c176
                              refine wm_iconst d_MM_rule0_377 ?_
                              refine wm_goto (tgt := 382) d_MM_rule0_378 rfl ?_
                              refine wm_less (L' := [vd, vd, vd]) ⟨Or.inl rfl, Or.inl rfl, Or.inl rfl, trivial⟩ ?_
                              exact hJ 1 (if_pos c176).symm
                          · replace h := h.2 c175
                            by_cases c188 : l1 = 76
                            · replace h := h.1 c188
                              refine wm_tableIn (tgt := 390) (off := 389) d_MM_rule0_1 hi_l1 (by omega) (by omega) (by rw [c188]; rfl) rfl ?_
                              refine wm_iload_n d_MM_rule0_390 rfl rfl ?_
                              refine wm_bipush d_MM_rule0_391 (by decide) ?_
                              refine wm_icmp_ne (tgt := 407) d_MM_rule0_393 rfl hi_l2 ⟨by decide, by decide⟩ (fun c190 => ?_) (fun c190 => ?_)
                              · replace h := h.2 c190
                                refine wm_iconst d_MM_rule0_407 ?_
                                refine wm_less (L' := [vd, vd, vd]) ⟨Or.inl rfl, Or.inl rfl, Or.inl rfl, trivial⟩ ?_
                                exact h
                              · replace c190 := Classical.not_not.mp c190
                                replace h := h.1 c190
                                obtain ⟨h191, h⟩ := h
                                refine wm_aload_n d_MM_rule0_396 rfl rfl ?_
                                refine cf_MM_254 rfl d_MM_rule0_397 h191 (Nat.le_of_ble_eq_true rfl) (Ci.mono h (fun x193 M192 h => ?_))
                                obtain ⟨h194, hOM192, h⟩ := h
                                refine wm_if_eq (tgt := 407) d_MM_rule0_400 rfl h194 (fun c196 => ?_) (fun c196 => ?_)
                                · replace h := h.1 c196
                                  refine wm_iconst d_MM_rule0_407 ?_
                                  refine wm_less (L' := [vd, vd, vd]) ⟨Or.inl rfl, Or.inl rfl, Or.inl rfl, trivial⟩ ?_
                                  exact h
                                · replace h := h.2 c196
                                  refine wm_iconst d_MM_rule0_403 ?_
                                  refine wm_goto (tgt := 408) d_MM_rule0_404 rfl ?_
                                  refine wm_less (L' := [vd, vd, vd]) ⟨Or.inl rfl, Or.inl rfl, Or.inl rfl, trivial⟩ ?_
                                  exact h
                            · replace h := h.2 c188
                              refine wm_tableD (tgt := 409) (off := 408) d_MM_rule0_1 hi_l1 (if q8 : 61 ≤ l1 ∧ l1 ≤ 76 then Or.inr ⟨q8.1, q8.2, by
      have q9 : l1 = 73 ∨ l1 = 75 := by omega
      rcases q9 with q9 | q9 <;> (rw [q9]; rfl)⟩ else Or.inl (by omega)) rfl ?_
                              obtain ⟨h197, h⟩ := h
                              refine wm_aload_n d_MM_rule0_409 rfl rfl ?_
                              refine wm_iload_n d_MM_rule0_410 rfl rfl ?_
                              refine cf_MM_264 rfl d_MM_rule0_411 h197 (Nat.le_of_ble_eq_true rfl) (Ci.mono h (fun x199 M198 h => ?_))
                              obtain ⟨h200, hOM198, h⟩ := h
                              refine wm_ireturn d_MM_rule0_414 rfl rfl ?_
                              exact ⟨_, rfl, h⟩
theorem k_MM_rule0_114 {G : mG} {d : Nat} {k0 : Int} {M : mM} {Q : Int → mM → Prop} (hO : mOk M) (hi_k0 : i32 k0)
    (h : Q k0 M) :
    h_MM_rule0_114 G d k0 M Q := by
  unfold h_MM_rule0_114
  refine wm_ireturn d_MM_rule0_114 rfl rfl ?_
  exact ⟨_, rfl, h⟩
theorem k_MM_rule0_408 {G : mG} {d : Nat} {k0 : Int} {M : mM} {Q : Int → mM → Prop} (hO : mOk M) (hi_k0 : i32 k0)
    (h : Q k0 M) :
    h_MM_rule0_408 G d k0 M Q := by
  unfold h_MM_rule0_408
  refine wm_ireturn d_MM_rule0_408 rfl rfl ?_
  exact ⟨_, rfl, h⟩
theorem d_MM_ask_0 : decode y_MM_ask.2.1 0 = .ok (.aload_n 0, 1) := dc9_42 (by decide +kernel)
theorem d_MM_ask_1 : decode y_MM_ask.2.1 1 = .ok (.getfield 28, 3) := dc9_180 (by decide +kernel)
theorem d_MM_ask_4 : decode y_MM_ask.2.1 4 = .ok (.bipush 75, 2) := dc9_16 (by decide +kernel)
theorem d_MM_ask_6 : decode y_MM_ask.2.1 6 = .ok (.invokevirtual 152, 3) := dc9_182 (by decide +kernel)
theorem d_MM_ask_9 : decode y_MM_ask.2.1 9 = .ok (.aload_n 0, 1) := dc9_42 (by decide +kernel)
theorem d_MM_ask_10 : decode y_MM_ask.2.1 10 = .ok (.bipush 61, 2) := dc9_16 (by decide +kernel)
theorem d_MM_ask_12 : decode y_MM_ask.2.1 12 = .ok (.bipush 33, 2) := dc9_16 (by decide +kernel)
theorem d_MM_ask_14 : decode y_MM_ask.2.1 14 = .ok (.bipush 61, 2) := dc9_16 (by decide +kernel)
theorem d_MM_ask_16 : decode y_MM_ask.2.1 16 = .ok (.invokevirtual 244, 3) := dc9_182 (by decide +kernel)
theorem d_MM_ask_19 : decode y_MM_ask.2.1 19 = .ok (.aload_n 0, 1) := dc9_42 (by decide +kernel)
theorem d_MM_ask_20 : decode y_MM_ask.2.1 20 = .ok (.invokevirtual 254, 3) := dc9_182 (by decide +kernel)
theorem d_MM_ask_23 : decode y_MM_ask.2.1 23 = .ok (.ifCond .eq 7, 3) := dc9_153 (by decide +kernel)
theorem d_MM_ask_30 : decode y_MM_ask.2.1 30 = .ok (.iconst (-1), 1) := dc9_2 (by decide +kernel)
theorem d_MM_ask_26 : decode y_MM_ask.2.1 26 = .ok (.iconst 1, 1) := dc9_4 (by decide +kernel)
theorem d_MM_ask_27 : decode y_MM_ask.2.1 27 = .ok (.goto 4, 3) := dc9_167 (by decide +kernel)
theorem d_MM_ask_31 : decode y_MM_ask.2.1 31 = .ok (.ireturn, 1) := dc9_172 (by decide +kernel)
theorem k_MM_ask {G : mG} {d : Nat} {a0 : Nat} {M : mM} {Q : Int → mM → Prop} (hO : mOk M)
    (h : mK M a0 = 14 ∧ mK M (mR M a0 6) = 15 ∧ Cv G y_MN_add d [vr (mR M a0 6), vi 75] M (fun M3 => mOk M3 ∧ (mK M3 a0 = 14 ∧ Cv G y_MM_want d [vr a0, vi 61, vi 33, vi 61] M3 (fun M7 => mOk M7 ∧ (mK M7 a0 = 14 ∧ Ci G y_MM_level d [vr a0] M7 (fun x12 M11 => i32 x12 ∧ mOk M11 ∧ (∀ v15 : Int, v15 = (if (x12 = 0) then (-1) else 1) → Q v15 M11))))))) :
    Ci G y_MM_ask (d + 1) [vr a0] M Q := by
  refine wm_open (y := y_MM_ask) rfl (Nat.le_of_ble_eq_true rfl) (L := [vr a0]) rfl ?_
  obtain ⟨h1, h⟩ := h
  obtain ⟨h2, h⟩ := h
  refine wm_aload_n d_MM_ask_0 rfl rfl ?_
  refine gf_MM_28 rfl d_MM_ask_1 h1 ?_
  refine wm_bipush d_MM_ask_4 (by decide) ?_
  refine cf_MM_152 rfl d_MM_ask_6 h2 (Nat.le_of_ble_eq_true rfl) (Cv.mono h (fun M3 h => ?_))
  obtain ⟨hOM3, h⟩ := h
  obtain ⟨h6, h⟩ := h
  refine wm_aload_n d_MM_ask_9 rfl rfl ?_
  refine wm_bipush d_MM_ask_10 (by decide) ?_
  refine wm_bipush d_MM_ask_12 (by decide) ?_
  refine wm_bipush d_MM_ask_14 (by decide) ?_
  refine cf_MM_244 rfl d_MM_ask_16 h6 (Nat.le_of_ble_eq_true rfl) (Cv.mono h (fun M7 h => ?_))
  obtain ⟨hOM7, h⟩ := h
  obtain ⟨h10, h⟩ := h
  refine wm_aload_n d_MM_ask_19 rfl rfl ?_
  refine cf_MM_254 rfl d_MM_ask_20 h10 (Nat.le_of_ble_eq_true rfl) (Ci.mono h (fun x12 M11 h => ?_))
  obtain ⟨h13, hOM11, h⟩ := h
  have hJ : ∀ v15 : Int, v15 = (if (x12 = 0) then (-1) else 1) → mWm G y_MM_ask (d + 1) 31 [vd] [vi v15] M11 (fun r9 M9 => ∃ x9, r9 = some (vi x9) ∧ Q x9 M9) := by
    intro v15 e17
    have h := h v15 e17
    have h18 : i32 v15 := by rw [e17]; (repeat' split) <;> first | exact ⟨by decide, by decide⟩ | exact ⟨by decide, by decide⟩
    refine wm_ireturn d_MM_ask_31 rfl rfl ?_
    exact ⟨_, rfl, h⟩
  clear h
  refine wm_if_eq (tgt := 30) d_MM_ask_23 rfl h13 (fun c14 => ?_) (fun c14 => ?_)
  · refine wm_iconst d_MM_ask_30 ?_
    refine wm_less (L' := [vd]) ⟨Or.inl rfl, trivial⟩ ?_
    exact hJ (-1) (if_pos c14).symm
  · refine wm_iconst d_MM_ask_26 ?_
    refine wm_goto (tgt := 31) d_MM_ask_27 rfl ?_
    refine wm_less (L' := [vd]) ⟨Or.inl rfl, trivial⟩ ?_
    exact hJ 1 (if_neg c14).symm
theorem d_MM_again_0 : decode y_MM_again.2.1 0 = .ok (.iload_n 1, 1) := dc9_27 (by decide +kernel)
theorem d_MM_again_1 : decode y_MM_again.2.1 1 = .ok (.ifCond .ne 5, 3) := dc9_154 (by decide +kernel)
theorem d_MM_again_4 : decode y_MM_again.2.1 4 = .ok (.iconst 0, 1) := dc9_3 (by decide +kernel)
theorem d_MM_again_5 : decode y_MM_again.2.1 5 = .ok (.ireturn, 1) := dc9_172 (by decide +kernel)
theorem d_MM_again_6 : decode y_MM_again.2.1 6 = .ok (.aload_n 0, 1) := dc9_42 (by decide +kernel)
theorem d_MM_again_7 : decode y_MM_again.2.1 7 = .ok (.getfield 28, 3) := dc9_180 (by decide +kernel)
theorem d_MM_again_10 : decode y_MM_again.2.1 10 = .ok (.iload_n 2, 1) := dc9_28 (by decide +kernel)
theorem d_MM_again_11 : decode y_MM_again.2.1 11 = .ok (.invokevirtual 152, 3) := dc9_182 (by decide +kernel)
theorem d_MM_again_14 : decode y_MM_again.2.1 14 = .ok (.aload_n 0, 1) := dc9_42 (by decide +kernel)
theorem d_MM_again_15 : decode y_MM_again.2.1 15 = .ok (.getfield 28, 3) := dc9_180 (by decide +kernel)
theorem d_MM_again_18 : decode y_MM_again.2.1 18 = .ok (.iload_n 3, 1) := dc9_29 (by decide +kernel)
theorem d_MM_again_19 : decode y_MM_again.2.1 19 = .ok (.invokevirtual 152, 3) := dc9_182 (by decide +kernel)
theorem d_MM_again_22 : decode y_MM_again.2.1 22 = .ok (.iconst 1, 1) := dc9_4 (by decide +kernel)
theorem d_MM_again_23 : decode y_MM_again.2.1 23 = .ok (.ireturn, 1) := dc9_172 (by decide +kernel)
theorem k_MM_again {G : mG} {d : Nat} {a0 : Nat} {l1 : Int} {l2 : Int} {l3 : Int} {M : mM} {Q : Int → mM → Prop} (hO : mOk M) (hi_l1 : i32 l1) (hi_l2 : i32 l2) (hi_l3 : i32 l3)
    (h : ((l1 = 0) → (Q 0 M)) ∧ (¬ (l1 = 0) → (mK M a0 = 14 ∧ mK M (mR M a0 6) = 15 ∧ Cv G y_MN_add d [vr (mR M a0 6), vi l2] M (fun M5 => mOk M5 ∧ (mK M5 a0 = 14 ∧ mK M5 (mR M5 a0 6) = 15 ∧ Cv G y_MN_add d [vr (mR M5 a0 6), vi l3] M5 (fun M10 => mOk M10 ∧ (Q 1 M10))))))) :
    Ci G y_MM_again (d + 1) [vr a0, vi l1, vi l2, vi l3] M Q := by
  refine wm_open (y := y_MM_again) rfl (Nat.le_of_ble_eq_true rfl) (L := [vr a0, vi l1, vi l2, vi l3]) rfl ?_
  refine wm_iload_n d_MM_again_0 rfl rfl ?_
  refine wm_if_ne (tgt := 6) d_MM_again_1 rfl hi_l1 (fun c2 => ?_) (fun c2 => ?_)
  · replace h := h.2 c2
    obtain ⟨h3, h⟩ := h
    obtain ⟨h4, h⟩ := h
    refine wm_aload_n d_MM_again_6 rfl rfl ?_
    refine gf_MM_28 rfl d_MM_again_7 h3 ?_
    refine wm_iload_n d_MM_again_10 rfl rfl ?_
    refine cf_MM_152 rfl d_MM_again_11 h4 (Nat.le_of_ble_eq_true rfl) (Cv.mono h (fun M5 h => ?_))
    obtain ⟨hOM5, h⟩ := h
    obtain ⟨h8, h⟩ := h
    obtain ⟨h9, h⟩ := h
    refine wm_aload_n d_MM_again_14 rfl rfl ?_
    refine gf_MM_28 rfl d_MM_again_15 h8 ?_
    refine wm_iload_n d_MM_again_18 rfl rfl ?_
    refine cf_MM_152 rfl d_MM_again_19 h9 (Nat.le_of_ble_eq_true rfl) (Cv.mono h (fun M10 h => ?_))
    obtain ⟨hOM10, h⟩ := h
    refine wm_iconst d_MM_again_22 ?_
    refine wm_ireturn d_MM_again_23 rfl rfl ?_
    exact ⟨_, rfl, h⟩
  · replace c2 := Classical.not_not.mp c2
    replace h := h.1 c2
    refine wm_iconst d_MM_again_4 ?_
    refine wm_ireturn d_MM_again_5 rfl rfl ?_
    exact ⟨_, rfl, h⟩
theorem d_MM_sign_0 : decode y_MM_sign.2.1 0 = .ok (.iload_n 1, 1) := dc9_27 (by decide +kernel)
theorem d_MM_sign_1 : decode y_MM_sign.2.1 1 = .ok (.lookupswitch 195 #[(1, 106), (2, 106), (12, 106), (13, 106), (14, 148), (15, 148), (25, 75), (36, 108)], 75) := by decide +kernel
theorem z_MM_sign_1_s : lkS #[(1, 106), (2, 106), (12, 106), (13, 106), (14, 148), (15, 148), (25, 75), (36, 108)] := by unfold lkS; decide
theorem d_MM_sign_107 : decode y_MM_sign.2.1 107 = .ok (.iconst 1, 1) := dc9_4 (by decide +kernel)
theorem d_MM_sign_108 : decode y_MM_sign.2.1 108 = .ok (.ireturn, 1) := dc9_172 (by decide +kernel)
theorem d_MM_sign_149 : decode y_MM_sign.2.1 149 = .ok (.aload_n 0, 1) := dc9_42 (by decide +kernel)
theorem d_MM_sign_150 : decode y_MM_sign.2.1 150 = .ok (.getfield 28, 3) := dc9_180 (by decide +kernel)
theorem d_MM_sign_153 : decode y_MM_sign.2.1 153 = .ok (.bipush 75, 2) := dc9_16 (by decide +kernel)
theorem d_MM_sign_155 : decode y_MM_sign.2.1 155 = .ok (.invokevirtual 152, 3) := dc9_182 (by decide +kernel)
theorem d_MM_sign_158 : decode y_MM_sign.2.1 158 = .ok (.aload_n 0, 1) := dc9_42 (by decide +kernel)
theorem d_MM_sign_159 : decode y_MM_sign.2.1 159 = .ok (.getfield 28, 3) := dc9_180 (by decide +kernel)
theorem d_MM_sign_162 : decode y_MM_sign.2.1 162 = .ok (.bipush 37, 2) := dc9_16 (by decide +kernel)
theorem d_MM_sign_164 : decode y_MM_sign.2.1 164 = .ok (.invokevirtual 152, 3) := dc9_182 (by decide +kernel)
theorem d_MM_sign_167 : decode y_MM_sign.2.1 167 = .ok (.aload_n 0, 1) := dc9_42 (by decide +kernel)
theorem d_MM_sign_168 : decode y_MM_sign.2.1 168 = .ok (.getfield 28, 3) := dc9_180 (by decide +kernel)
theorem d_MM_sign_171 : decode y_MM_sign.2.1 171 = .ok (.bipush 74, 2) := dc9_16 (by decide +kernel)
theorem d_MM_sign_173 : decode y_MM_sign.2.1 173 = .ok (.invokevirtual 152, 3) := dc9_182 (by decide +kernel)
theorem d_MM_sign_176 : decode y_MM_sign.2.1 176 = .ok (.aload_n 0, 1) := dc9_42 (by decide +kernel)
theorem d_MM_sign_177 : decode y_MM_sign.2.1 177 = .ok (.getfield 28, 3) := dc9_180 (by decide +kernel)
theorem d_MM_sign_180 : decode y_MM_sign.2.1 180 = .ok (.bipush 61, 2) := dc9_16 (by decide +kernel)
theorem d_MM_sign_182 : decode y_MM_sign.2.1 182 = .ok (.invokevirtual 152, 3) := dc9_182 (by decide +kernel)
theorem d_MM_sign_185 : decode y_MM_sign.2.1 185 = .ok (.aload_n 0, 1) := dc9_42 (by decide +kernel)
theorem d_MM_sign_186 : decode y_MM_sign.2.1 186 = .ok (.getfield 28, 3) := dc9_180 (by decide +kernel)
theorem d_MM_sign_189 : decode y_MM_sign.2.1 189 = .ok (.bipush 76, 2) := dc9_16 (by decide +kernel)
theorem d_MM_sign_191 : decode y_MM_sign.2.1 191 = .ok (.invokevirtual 152, 3) := dc9_182 (by decide +kernel)
theorem d_MM_sign_194 : decode y_MM_sign.2.1 194 = .ok (.iconst 1, 1) := dc9_4 (by decide +kernel)
theorem d_MM_sign_195 : decode y_MM_sign.2.1 195 = .ok (.ireturn, 1) := dc9_172 (by decide +kernel)
theorem d_MM_sign_76 : decode y_MM_sign.2.1 76 = .ok (.aload_n 0, 1) := dc9_42 (by decide +kernel)
theorem d_MM_sign_77 : decode y_MM_sign.2.1 77 = .ok (.getfield 28, 3) := dc9_180 (by decide +kernel)
theorem d_MM_sign_80 : decode y_MM_sign.2.1 80 = .ok (.bipush 75, 2) := dc9_16 (by decide +kernel)
theorem d_MM_sign_82 : decode y_MM_sign.2.1 82 = .ok (.invokevirtual 152, 3) := dc9_182 (by decide +kernel)
theorem d_MM_sign_85 : decode y_MM_sign.2.1 85 = .ok (.aload_n 0, 1) := dc9_42 (by decide +kernel)
theorem d_MM_sign_86 : decode y_MM_sign.2.1 86 = .ok (.getfield 28, 3) := dc9_180 (by decide +kernel)
theorem d_MM_sign_89 : decode y_MM_sign.2.1 89 = .ok (.bipush 73, 2) := dc9_16 (by decide +kernel)
theorem d_MM_sign_91 : decode y_MM_sign.2.1 91 = .ok (.invokevirtual 152, 3) := dc9_182 (by decide +kernel)
theorem d_MM_sign_94 : decode y_MM_sign.2.1 94 = .ok (.aload_n 0, 1) := dc9_42 (by decide +kernel)
theorem d_MM_sign_95 : decode y_MM_sign.2.1 95 = .ok (.invokevirtual 254, 3) := dc9_182 (by decide +kernel)
theorem d_MM_sign_98 : decode y_MM_sign.2.1 98 = .ok (.ifCond .eq 7, 3) := dc9_153 (by decide +kernel)
theorem d_MM_sign_105 : decode y_MM_sign.2.1 105 = .ok (.iconst (-1), 1) := dc9_2 (by decide +kernel)
theorem d_MM_sign_101 : decode y_MM_sign.2.1 101 = .ok (.iconst 1, 1) := dc9_4 (by decide +kernel)
theorem d_MM_sign_102 : decode y_MM_sign.2.1 102 = .ok (.goto 4, 3) := dc9_167 (by decide +kernel)
theorem d_MM_sign_106 : decode y_MM_sign.2.1 106 = .ok (.ireturn, 1) := dc9_172 (by decide +kernel)
theorem d_MM_sign_109 : decode y_MM_sign.2.1 109 = .ok (.aload_n 0, 1) := dc9_42 (by decide +kernel)
theorem d_MM_sign_110 : decode y_MM_sign.2.1 110 = .ok (.getfield 28, 3) := dc9_180 (by decide +kernel)
theorem d_MM_sign_113 : decode y_MM_sign.2.1 113 = .ok (.bipush 75, 2) := dc9_16 (by decide +kernel)
theorem d_MM_sign_115 : decode y_MM_sign.2.1 115 = .ok (.invokevirtual 152, 3) := dc9_182 (by decide +kernel)
theorem d_MM_sign_118 : decode y_MM_sign.2.1 118 = .ok (.aload_n 0, 1) := dc9_42 (by decide +kernel)
theorem d_MM_sign_119 : decode y_MM_sign.2.1 119 = .ok (.getfield 28, 3) := dc9_180 (by decide +kernel)
theorem d_MM_sign_122 : decode y_MM_sign.2.1 122 = .ok (.bipush 37, 2) := dc9_16 (by decide +kernel)
theorem d_MM_sign_124 : decode y_MM_sign.2.1 124 = .ok (.invokevirtual 152, 3) := dc9_182 (by decide +kernel)
theorem d_MM_sign_127 : decode y_MM_sign.2.1 127 = .ok (.aload_n 0, 1) := dc9_42 (by decide +kernel)
theorem d_MM_sign_128 : decode y_MM_sign.2.1 128 = .ok (.getfield 28, 3) := dc9_180 (by decide +kernel)
theorem d_MM_sign_131 : decode y_MM_sign.2.1 131 = .ok (.bipush 61, 2) := dc9_16 (by decide +kernel)
theorem d_MM_sign_133 : decode y_MM_sign.2.1 133 = .ok (.invokevirtual 152, 3) := dc9_182 (by decide +kernel)
theorem d_MM_sign_136 : decode y_MM_sign.2.1 136 = .ok (.aload_n 0, 1) := dc9_42 (by decide +kernel)
theorem d_MM_sign_137 : decode y_MM_sign.2.1 137 = .ok (.invokevirtual 254, 3) := dc9_182 (by decide +kernel)
theorem d_MM_sign_140 : decode y_MM_sign.2.1 140 = .ok (.ifCond .eq 7, 3) := dc9_153 (by decide +kernel)
theorem d_MM_sign_147 : decode y_MM_sign.2.1 147 = .ok (.iconst (-1), 1) := dc9_2 (by decide +kernel)
theorem d_MM_sign_143 : decode y_MM_sign.2.1 143 = .ok (.iconst 1, 1) := dc9_4 (by decide +kernel)
theorem d_MM_sign_144 : decode y_MM_sign.2.1 144 = .ok (.goto 4, 3) := dc9_167 (by decide +kernel)
theorem d_MM_sign_148 : decode y_MM_sign.2.1 148 = .ok (.ireturn, 1) := dc9_172 (by decide +kernel)
theorem d_MM_sign_196 : decode y_MM_sign.2.1 196 = .ok (.iconst (-1), 1) := dc9_2 (by decide +kernel)
theorem d_MM_sign_197 : decode y_MM_sign.2.1 197 = .ok (.ireturn, 1) := dc9_172 (by decide +kernel)
theorem k_MM_sign {G : mG} {d : Nat} {a0 : Nat} {l1 : Int} {M : mM} {Q : Int → mM → Prop} (hO : mOk M) (hi_l1 : i32 l1)
    (h : ((l1 = 1 ∨ l1 = 2 ∨ l1 = 12 ∨ l1 = 13) → (Q 1 M)) ∧ (¬ (l1 = 1 ∨ l1 = 2 ∨ l1 = 12 ∨ l1 = 13) → (((l1 = 14 ∨ l1 = 15) → (mK M a0 = 14 ∧ mK M (mR M a0 6) = 15 ∧ Cv G y_MN_add d [vr (mR M a0 6), vi 75] M (fun M5 => mOk M5 ∧ (mK M5 a0 = 14 ∧ mK M5 (mR M5 a0 6) = 15 ∧ Cv G y_MN_add d [vr (mR M5 a0 6), vi 37] M5 (fun M10 => mOk M10 ∧ (mK M10 a0 = 14 ∧ mK M10 (mR M10 a0 6) = 15 ∧ Cv G y_MN_add d [vr (mR M10 a0 6), vi 74] M10 (fun M15 => mOk M15 ∧ (mK M15 a0 = 14 ∧ mK M15 (mR M15 a0 6) = 15 ∧ Cv G y_MN_add d [vr (mR M15 a0 6), vi 61] M15 (fun M20 => mOk M20 ∧ (mK M20 a0 = 14 ∧ mK M20 (mR M20 a0 6) = 15 ∧ Cv G y_MN_add d [vr (mR M20 a0 6), vi 76] M20 (fun M25 => mOk M25 ∧ (Q 1 M25)))))))))))) ∧ (¬ (l1 = 14 ∨ l1 = 15) → (((l1 = 25) → (mK M a0 = 14 ∧ mK M (mR M a0 6) = 15 ∧ Cv G y_MN_add d [vr (mR M a0 6), vi 75] M (fun M31 => mOk M31 ∧ (mK M31 a0 = 14 ∧ mK M31 (mR M31 a0 6) = 15 ∧ Cv G y_MN_add d [vr (mR M31 a0 6), vi 73] M31 (fun M36 => mOk M36 ∧ (mK M36 a0 = 14 ∧ Ci G y_MM_level d [vr a0] M36 (fun x41 M40 => i32 x41 ∧ mOk M40 ∧ (∀ v44 : Int, v44 = (if (x41 = 0) then (-1) else 1) → Q v44 M40)))))))) ∧ (¬ (l1 = 25) → (((l1 = 36) → (mK M a0 = 14 ∧ mK M (mR M a0 6) = 15 ∧ Cv G y_MN_add d [vr (mR M a0 6), vi 75] M (fun M52 => mOk M52 ∧ (mK M52 a0 = 14 ∧ mK M52 (mR M52 a0 6) = 15 ∧ Cv G y_MN_add d [vr (mR M52 a0 6), vi 37] M52 (fun M57 => mOk M57 ∧ (mK M57 a0 = 14 ∧ mK M57 (mR M57 a0 6) = 15 ∧ Cv G y_MN_add d [vr (mR M57 a0 6), vi 61] M57 (fun M62 => mOk M62 ∧ (mK M62 a0 = 14 ∧ Ci G y_MM_level d [vr a0] M62 (fun x67 M66 => i32 x67 ∧ mOk M66 ∧ (∀ v70 : Int, v70 = (if (x67 = 0) then (-1) else 1) → Q v70 M66)))))))))) ∧ (¬ (l1 = 36) → (Q (-1) M))))))))) :
    Ci G y_MM_sign (d + 1) [vr a0, vi l1] M Q := by
  refine wm_open (y := y_MM_sign) rfl (Nat.le_of_ble_eq_true rfl) (L := [vr a0, vi l1]) rfl ?_
  refine wm_iload_n d_MM_sign_0 rfl rfl ?_
  by_cases c1 : l1 = 1 ∨ l1 = 2 ∨ l1 = 12 ∨ l1 = 13
  · replace h := h.1 c1
    refine wm_lookup (tgt := 107) (off := 106) d_MM_sign_1 z_MM_sign_1_s hi_l1 (by rcases c1 with q9 | q9 | q9 | q9 <;> (rw [q9]; rfl)) rfl ?_
    refine wm_iconst d_MM_sign_107 ?_
    refine wm_ireturn d_MM_sign_108 rfl rfl ?_
    exact ⟨_, rfl, h⟩
  · replace h := h.2 c1
    by_cases c2 : l1 = 14 ∨ l1 = 15
    · replace h := h.1 c2
      refine wm_lookup (tgt := 149) (off := 148) d_MM_sign_1 z_MM_sign_1_s hi_l1 (by rcases c2 with q9 | q9 <;> (rw [q9]; rfl)) rfl ?_
      obtain ⟨h3, h⟩ := h
      obtain ⟨h4, h⟩ := h
      refine wm_aload_n d_MM_sign_149 rfl rfl ?_
      refine gf_MM_28 rfl d_MM_sign_150 h3 ?_
      refine wm_bipush d_MM_sign_153 (by decide) ?_
      refine cf_MM_152 rfl d_MM_sign_155 h4 (Nat.le_of_ble_eq_true rfl) (Cv.mono h (fun M5 h => ?_))
      obtain ⟨hOM5, h⟩ := h
      obtain ⟨h8, h⟩ := h
      obtain ⟨h9, h⟩ := h
      refine wm_aload_n d_MM_sign_158 rfl rfl ?_
      refine gf_MM_28 rfl d_MM_sign_159 h8 ?_
      refine wm_bipush d_MM_sign_162 (by decide) ?_
      refine cf_MM_152 rfl d_MM_sign_164 h9 (Nat.le_of_ble_eq_true rfl) (Cv.mono h (fun M10 h => ?_))
      obtain ⟨hOM10, h⟩ := h
      obtain ⟨h13, h⟩ := h
      obtain ⟨h14, h⟩ := h
      refine wm_aload_n d_MM_sign_167 rfl rfl ?_
      refine gf_MM_28 rfl d_MM_sign_168 h13 ?_
      refine wm_bipush d_MM_sign_171 (by decide) ?_
      refine cf_MM_152 rfl d_MM_sign_173 h14 (Nat.le_of_ble_eq_true rfl) (Cv.mono h (fun M15 h => ?_))
      obtain ⟨hOM15, h⟩ := h
      obtain ⟨h18, h⟩ := h
      obtain ⟨h19, h⟩ := h
      refine wm_aload_n d_MM_sign_176 rfl rfl ?_
      refine gf_MM_28 rfl d_MM_sign_177 h18 ?_
      refine wm_bipush d_MM_sign_180 (by decide) ?_
      refine cf_MM_152 rfl d_MM_sign_182 h19 (Nat.le_of_ble_eq_true rfl) (Cv.mono h (fun M20 h => ?_))
      obtain ⟨hOM20, h⟩ := h
      obtain ⟨h23, h⟩ := h
      obtain ⟨h24, h⟩ := h
      refine wm_aload_n d_MM_sign_185 rfl rfl ?_
      refine gf_MM_28 rfl d_MM_sign_186 h23 ?_
      refine wm_bipush d_MM_sign_189 (by decide) ?_
      refine cf_MM_152 rfl d_MM_sign_191 h24 (Nat.le_of_ble_eq_true rfl) (Cv.mono h (fun M25 h => ?_))
      obtain ⟨hOM25, h⟩ := h
      refine wm_iconst d_MM_sign_194 ?_
      refine wm_ireturn d_MM_sign_195 rfl rfl ?_
      exact ⟨_, rfl, h⟩
    · replace h := h.2 c2
      by_cases c28 : l1 = 25
      · replace h := h.1 c28
        refine wm_lookup (tgt := 76) (off := 75) d_MM_sign_1 z_MM_sign_1_s hi_l1 (by rw [c28]; rfl) rfl ?_
        obtain ⟨h29, h⟩ := h
        obtain ⟨h30, h⟩ := h
        refine wm_aload_n d_MM_sign_76 rfl rfl ?_
        refine gf_MM_28 rfl d_MM_sign_77 h29 ?_
        refine wm_bipush d_MM_sign_80 (by decide) ?_
        refine cf_MM_152 rfl d_MM_sign_82 h30 (Nat.le_of_ble_eq_true rfl) (Cv.mono h (fun M31 h => ?_))
        obtain ⟨hOM31, h⟩ := h
        obtain ⟨h34, h⟩ := h
        obtain ⟨h35, h⟩ := h
        refine wm_aload_n d_MM_sign_85 rfl rfl ?_
        refine gf_MM_28 rfl d_MM_sign_86 h34 ?_
        refine wm_bipush d_MM_sign_89 (by decide) ?_
        refine cf_MM_152 rfl d_MM_sign_91 h35 (Nat.le_of_ble_eq_true rfl) (Cv.mono h (fun M36 h => ?_))
        obtain ⟨hOM36, h⟩ := h
        obtain ⟨h39, h⟩ := h
        refine wm_aload_n d_MM_sign_94 rfl rfl ?_
        refine cf_MM_254 rfl d_MM_sign_95 h39 (Nat.le_of_ble_eq_true rfl) (Ci.mono h (fun x41 M40 h => ?_))
        obtain ⟨h42, hOM40, h⟩ := h
        have hJ : ∀ v44 : Int, v44 = (if (x41 = 0) then (-1) else 1) → mWm G y_MM_sign (d + 1) 106 [vd, vd] [vi v44] M40 (fun r9 M9 => ∃ x9, r9 = some (vi x9) ∧ Q x9 M9) := by
          intro v44 e46
          have h := h v44 e46
          have h47 : i32 v44 := by rw [e46]; (repeat' split) <;> first | exact ⟨by decide, by decide⟩ | exact ⟨by decide, by decide⟩
          refine wm_ireturn d_MM_sign_106 rfl rfl ?_
          exact ⟨_, rfl, h⟩
        clear h
        refine wm_if_eq (tgt := 105) d_MM_sign_98 rfl h42 (fun c43 => ?_) (fun c43 => ?_)
        · refine wm_iconst d_MM_sign_105 ?_
          refine wm_less (L' := [vd, vd]) ⟨Or.inl rfl, Or.inl rfl, trivial⟩ ?_
          exact hJ (-1) (if_pos c43).symm
        · refine wm_iconst d_MM_sign_101 ?_
          refine wm_goto (tgt := 106) d_MM_sign_102 rfl ?_
          refine wm_less (L' := [vd, vd]) ⟨Or.inl rfl, Or.inl rfl, trivial⟩ ?_
          exact hJ 1 (if_neg c43).symm
      · replace h := h.2 c28
        by_cases c49 : l1 = 36
        · replace h := h.1 c49
          refine wm_lookup (tgt := 109) (off := 108) d_MM_sign_1 z_MM_sign_1_s hi_l1 (by rw [c49]; rfl) rfl ?_
          obtain ⟨h50, h⟩ := h
          obtain ⟨h51, h⟩ := h
          refine wm_aload_n d_MM_sign_109 rfl rfl ?_
          refine gf_MM_28 rfl d_MM_sign_110 h50 ?_
          refine wm_bipush d_MM_sign_113 (by decide) ?_
          refine cf_MM_152 rfl d_MM_sign_115 h51 (Nat.le_of_ble_eq_true rfl) (Cv.mono h (fun M52 h => ?_))
          obtain ⟨hOM52, h⟩ := h
          obtain ⟨h55, h⟩ := h
          obtain ⟨h56, h⟩ := h
          refine wm_aload_n d_MM_sign_118 rfl rfl ?_
          refine gf_MM_28 rfl d_MM_sign_119 h55 ?_
          refine wm_bipush d_MM_sign_122 (by decide) ?_
          refine cf_MM_152 rfl d_MM_sign_124 h56 (Nat.le_of_ble_eq_true rfl) (Cv.mono h (fun M57 h => ?_))
          obtain ⟨hOM57, h⟩ := h
          obtain ⟨h60, h⟩ := h
          obtain ⟨h61, h⟩ := h
          refine wm_aload_n d_MM_sign_127 rfl rfl ?_
          refine gf_MM_28 rfl d_MM_sign_128 h60 ?_
          refine wm_bipush d_MM_sign_131 (by decide) ?_
          refine cf_MM_152 rfl d_MM_sign_133 h61 (Nat.le_of_ble_eq_true rfl) (Cv.mono h (fun M62 h => ?_))
          obtain ⟨hOM62, h⟩ := h
          obtain ⟨h65, h⟩ := h
          refine wm_aload_n d_MM_sign_136 rfl rfl ?_
          refine cf_MM_254 rfl d_MM_sign_137 h65 (Nat.le_of_ble_eq_true rfl) (Ci.mono h (fun x67 M66 h => ?_))
          obtain ⟨h68, hOM66, h⟩ := h
          have hJ : ∀ v70 : Int, v70 = (if (x67 = 0) then (-1) else 1) → mWm G y_MM_sign (d + 1) 148 [vd, vd] [vi v70] M66 (fun r9 M9 => ∃ x9, r9 = some (vi x9) ∧ Q x9 M9) := by
            intro v70 e72
            have h := h v70 e72
            have h73 : i32 v70 := by rw [e72]; (repeat' split) <;> first | exact ⟨by decide, by decide⟩ | exact ⟨by decide, by decide⟩
            refine wm_ireturn d_MM_sign_148 rfl rfl ?_
            exact ⟨_, rfl, h⟩
          clear h
          refine wm_if_eq (tgt := 147) d_MM_sign_140 rfl h68 (fun c69 => ?_) (fun c69 => ?_)
          · refine wm_iconst d_MM_sign_147 ?_
            refine wm_less (L' := [vd, vd]) ⟨Or.inl rfl, Or.inl rfl, trivial⟩ ?_
            exact hJ (-1) (if_pos c69).symm
          · refine wm_iconst d_MM_sign_143 ?_
            refine wm_goto (tgt := 148) d_MM_sign_144 rfl ?_
            refine wm_less (L' := [vd, vd]) ⟨Or.inl rfl, Or.inl rfl, trivial⟩ ?_
            exact hJ 1 (if_neg c69).symm
        · replace h := h.2 c49
          refine wm_lookup (tgt := 196) (off := 195) d_MM_sign_1 z_MM_sign_1_s hi_l1 (by simp [Op.lookupswitch.offset]; repeat rw [if_neg (by omega)]) rfl ?_
          refine wm_iconst d_MM_sign_196 ?_
          refine wm_ireturn d_MM_sign_197 rfl rfl ?_
          exact ⟨_, rfl, h⟩
theorem d_MM_stop_0 : decode y_MM_stop.2.1 0 = .ok (.aload_n 0, 1) := dc9_42 (by decide +kernel)
theorem d_MM_stop_1 : decode y_MM_stop.2.1 1 = .ok (.iload_n 1, 1) := dc9_27 (by decide +kernel)
theorem d_MM_stop_2 : decode y_MM_stop.2.1 2 = .ok (.putfield 267, 3) := dc9_181 (by decide +kernel)
theorem d_MM_stop_5 : decode y_MM_stop.2.1 5 = .ok (.aload_n 0, 1) := dc9_42 (by decide +kernel)
theorem d_MM_stop_6 : decode y_MM_stop.2.1 6 = .ok (.iload_n 2, 1) := dc9_28 (by decide +kernel)
theorem d_MM_stop_7 : decode y_MM_stop.2.1 7 = .ok (.putfield 270, 3) := dc9_181 (by decide +kernel)
theorem d_MM_stop_10 : decode y_MM_stop.2.1 10 = .ok (.return_, 1) := dc9_177 (by decide +kernel)
theorem k_MM_stop {G : mG} {d : Nat} {a0 : Nat} {l1 : Int} {l2 : Int} {M : mM} {Q : mM → Prop} (hO : mOk M) (hi_l1 : i32 l1) (hi_l2 : i32 l2)
    (h : mK M a0 = 14 ∧ ∀ M2, M2 = mUI M a0 16 l1 → ∀ M4, M4 = mUI M2 a0 17 l2 → Q M4) :
    Cv G y_MM_stop d [vr a0, vi l1, vi l2] M Q := by
  refine wm_open (y := y_MM_stop) rfl (Nat.le_of_ble_eq_true rfl) (L := [vr a0, vi l1, vi l2]) rfl ?_
  obtain ⟨h1, h⟩ := h
  obtain ⟨M2, e3⟩ : ∃ M2, M2 = mUI M a0 16 l1 := ⟨_, rfl⟩
  replace h := h M2 e3
  obtain ⟨M4, e5⟩ : ∃ M4, M4 = mUI M2 a0 17 l2 := ⟨_, rfl⟩
  replace h := h M4 e5
  refine wm_aload_n d_MM_stop_0 rfl rfl ?_
  refine wm_iload_n d_MM_stop_1 rfl rfl ?_
  have hOM2 : mOk M2 := by rw [e3]; exact mOk_UI hO hi_l1
  refine pf_MM_267 rfl d_MM_stop_2 h1 hi_l1 e3 ?_
  refine wm_aload_n d_MM_stop_5 rfl rfl ?_
  refine wm_iload_n d_MM_stop_6 rfl rfl ?_
  have hOM4 : mOk M4 := by rw [e5]; exact mOk_UI hOM2 hi_l2
  refine pf_MM_270 rfl d_MM_stop_7 (by rw [e3]; exact h1) hi_l2 e5 ?_
  refine wm_return d_MM_stop_10 rfl ?_
  exact ⟨rfl, h⟩
theorem d_MM_word1_0 : decode y_MM_word1.2.1 0 = .ok (.aload_n 0, 1) := dc9_42 (by decide +kernel)
theorem d_MM_word1_1 : decode y_MM_word1.2.1 1 = .ok (.getfield 19, 3) := dc9_180 (by decide +kernel)
theorem d_MM_word1_4 : decode y_MM_word1.2.1 4 = .ok (.iload_n 1, 1) := dc9_27 (by decide +kernel)
theorem d_MM_word1_5 : decode y_MM_word1.2.1 5 = .ok (.invokevirtual 155, 3) := dc9_182 (by decide +kernel)
theorem d_MM_word1_8 : decode y_MM_word1.2.1 8 = .ok (.ireturn, 1) := dc9_172 (by decide +kernel)
theorem k_MM_word1 {G : mG} {d : Nat} {a0 : Nat} {l1 : Int} {M : mM} {Q : Int → mM → Prop} (hO : mOk M) (hi_l1 : i32 l1)
    (h : mK M a0 = 14 ∧ mK M (mR M a0 3) = 15 ∧ Ci G y_MN_at d [vr (mR M a0 3), vi l1] M (fun x4 M3 => i32 x4 ∧ mOk M3 ∧ (Q x4 M3))) :
    Ci G y_MM_word1 (d + 1) [vr a0, vi l1] M Q := by
  refine wm_open (y := y_MM_word1) rfl (Nat.le_of_ble_eq_true rfl) (L := [vr a0, vi l1]) rfl ?_
  obtain ⟨h1, h⟩ := h
  obtain ⟨h2, h⟩ := h
  refine wm_aload_n d_MM_word1_0 rfl rfl ?_
  refine gf_MM_19 rfl d_MM_word1_1 h1 ?_
  refine wm_iload_n d_MM_word1_4 rfl rfl ?_
  refine cf_MM_155 rfl d_MM_word1_5 h2 (Nat.le_of_ble_eq_true rfl) (Ci.mono h (fun x4 M3 h => ?_))
  obtain ⟨h5, hOM3, h⟩ := h
  refine wm_ireturn d_MM_word1_8 rfl rfl ?_
  exact ⟨_, rfl, h⟩
theorem d_MM_place0_0 : decode y_MM_place0.2.1 0 = .ok (.aload_n 0, 1) := dc9_42 (by decide +kernel)
theorem d_MM_place0_1 : decode y_MM_place0.2.1 1 = .ok (.getfield 22, 3) := dc9_180 (by decide +kernel)
theorem d_MM_place0_4 : decode y_MM_place0.2.1 4 = .ok (.iload_n 1, 1) := dc9_27 (by decide +kernel)
theorem d_MM_place0_5 : decode y_MM_place0.2.1 5 = .ok (.invokevirtual 155, 3) := dc9_182 (by decide +kernel)
theorem d_MM_place0_8 : decode y_MM_place0.2.1 8 = .ok (.ireturn, 1) := dc9_172 (by decide +kernel)
theorem k_MM_place0 {G : mG} {d : Nat} {a0 : Nat} {l1 : Int} {M : mM} {Q : Int → mM → Prop} (hO : mOk M) (hi_l1 : i32 l1)
    (h : mK M a0 = 14 ∧ mK M (mR M a0 4) = 15 ∧ Ci G y_MN_at d [vr (mR M a0 4), vi l1] M (fun x4 M3 => i32 x4 ∧ mOk M3 ∧ (Q x4 M3))) :
    Ci G y_MM_place0 (d + 1) [vr a0, vi l1] M Q := by
  refine wm_open (y := y_MM_place0) rfl (Nat.le_of_ble_eq_true rfl) (L := [vr a0, vi l1]) rfl ?_
  obtain ⟨h1, h⟩ := h
  obtain ⟨h2, h⟩ := h
  refine wm_aload_n d_MM_place0_0 rfl rfl ?_
  refine gf_MM_22 rfl d_MM_place0_1 h1 ?_
  refine wm_iload_n d_MM_place0_4 rfl rfl ?_
  refine cf_MM_155 rfl d_MM_place0_5 h2 (Nat.le_of_ble_eq_true rfl) (Ci.mono h (fun x4 M3 h => ?_))
  obtain ⟨h5, hOM3, h⟩ := h
  refine wm_ireturn d_MM_place0_8 rfl rfl ?_
  exact ⟨_, rfl, h⟩
theorem d_MM_node_0 : decode y_MM_node.2.1 0 = .ok (.aload_n 0, 1) := dc9_42 (by decide +kernel)
theorem d_MM_node_1 : decode y_MM_node.2.1 1 = .ok (.getfield 38, 3) := dc9_180 (by decide +kernel)
theorem d_MM_node_4 : decode y_MM_node.2.1 4 = .ok (.getfield 273, 3) := dc9_180 (by decide +kernel)
theorem d_MM_node_7 : decode y_MM_node.2.1 7 = .ok (.iload_n 1, 1) := dc9_27 (by decide +kernel)
theorem d_MM_node_8 : decode y_MM_node.2.1 8 = .ok (.invokevirtual 152, 3) := dc9_182 (by decide +kernel)
theorem d_MM_node_11 : decode y_MM_node.2.1 11 = .ok (.aload_n 0, 1) := dc9_42 (by decide +kernel)
theorem d_MM_node_12 : decode y_MM_node.2.1 12 = .ok (.getfield 38, 3) := dc9_180 (by decide +kernel)
theorem d_MM_node_15 : decode y_MM_node.2.1 15 = .ok (.getfield 276, 3) := dc9_180 (by decide +kernel)
theorem d_MM_node_18 : decode y_MM_node.2.1 18 = .ok (.aload_n 0, 1) := dc9_42 (by decide +kernel)
theorem d_MM_node_19 : decode y_MM_node.2.1 19 = .ok (.iload_n 2, 1) := dc9_28 (by decide +kernel)
theorem d_MM_node_20 : decode y_MM_node.2.1 20 = .ok (.invokevirtual 279, 3) := dc9_182 (by decide +kernel)
theorem d_MM_node_23 : decode y_MM_node.2.1 23 = .ok (.invokevirtual 152, 3) := dc9_182 (by decide +kernel)
theorem d_MM_node_26 : decode y_MM_node.2.1 26 = .ok (.aload_n 0, 1) := dc9_42 (by decide +kernel)
theorem d_MM_node_27 : decode y_MM_node.2.1 27 = .ok (.getfield 38, 3) := dc9_180 (by decide +kernel)
theorem d_MM_node_30 : decode y_MM_node.2.1 30 = .ok (.getfield 281, 3) := dc9_180 (by decide +kernel)
theorem d_MM_node_33 : decode y_MM_node.2.1 33 = .ok (.aload_n 0, 1) := dc9_42 (by decide +kernel)
theorem d_MM_node_34 : decode y_MM_node.2.1 34 = .ok (.iload_n 3, 1) := dc9_29 (by decide +kernel)
theorem d_MM_node_35 : decode y_MM_node.2.1 35 = .ok (.invokevirtual 279, 3) := dc9_182 (by decide +kernel)
theorem d_MM_node_38 : decode y_MM_node.2.1 38 = .ok (.invokevirtual 152, 3) := dc9_182 (by decide +kernel)
theorem d_MM_node_41 : decode y_MM_node.2.1 41 = .ok (.aload_n 0, 1) := dc9_42 (by decide +kernel)
theorem d_MM_node_42 : decode y_MM_node.2.1 42 = .ok (.getfield 38, 3) := dc9_180 (by decide +kernel)
theorem d_MM_node_45 : decode y_MM_node.2.1 45 = .ok (.getfield 284, 3) := dc9_180 (by decide +kernel)
theorem d_MM_node_48 : decode y_MM_node.2.1 48 = .ok (.iconst 0, 1) := dc9_3 (by decide +kernel)
theorem d_MM_node_49 : decode y_MM_node.2.1 49 = .ok (.invokevirtual 152, 3) := dc9_182 (by decide +kernel)
theorem d_MM_node_52 : decode y_MM_node.2.1 52 = .ok (.aload_n 0, 1) := dc9_42 (by decide +kernel)
theorem d_MM_node_53 : decode y_MM_node.2.1 53 = .ok (.getfield 38, 3) := dc9_180 (by decide +kernel)
theorem d_MM_node_56 : decode y_MM_node.2.1 56 = .ok (.getfield 287, 3) := dc9_180 (by decide +kernel)
theorem d_MM_node_59 : decode y_MM_node.2.1 59 = .ok (.iconst (-1), 1) := dc9_2 (by decide +kernel)
theorem d_MM_node_60 : decode y_MM_node.2.1 60 = .ok (.invokevirtual 152, 3) := dc9_182 (by decide +kernel)
theorem d_MM_node_63 : decode y_MM_node.2.1 63 = .ok (.aload_n 0, 1) := dc9_42 (by decide +kernel)
theorem d_MM_node_64 : decode y_MM_node.2.1 64 = .ok (.getfield 38, 3) := dc9_180 (by decide +kernel)
theorem d_MM_node_67 : decode y_MM_node.2.1 67 = .ok (.getfield 290, 3) := dc9_180 (by decide +kernel)
theorem d_MM_node_70 : decode y_MM_node.2.1 70 = .ok (.iconst (-1), 1) := dc9_2 (by decide +kernel)
theorem d_MM_node_71 : decode y_MM_node.2.1 71 = .ok (.invokevirtual 152, 3) := dc9_182 (by decide +kernel)
theorem d_MM_node_74 : decode y_MM_node.2.1 74 = .ok (.aload_n 0, 1) := dc9_42 (by decide +kernel)
theorem d_MM_node_75 : decode y_MM_node.2.1 75 = .ok (.getfield 38, 3) := dc9_180 (by decide +kernel)
theorem d_MM_node_78 : decode y_MM_node.2.1 78 = .ok (.getfield 273, 3) := dc9_180 (by decide +kernel)
theorem d_MM_node_81 : decode y_MM_node.2.1 81 = .ok (.getfield 145, 3) := dc9_180 (by decide +kernel)
theorem d_MM_node_84 : decode y_MM_node.2.1 84 = .ok (.iconst 1, 1) := dc9_4 (by decide +kernel)
theorem d_MM_node_85 : decode y_MM_node.2.1 85 = .ok (.isub, 1) := dc9_100 (by decide +kernel)
theorem d_MM_node_86 : decode y_MM_node.2.1 86 = .ok (.ireturn, 1) := dc9_172 (by decide +kernel)
theorem k_MM_node {G : mG} {d : Nat} {a0 : Nat} {l1 : Int} {l2 : Int} {l3 : Int} {M : mM} {Q : Int → mM → Prop} (hO : mOk M) (hi_l1 : i32 l1) (hi_l2 : i32 l2) (hi_l3 : i32 l3)
    (h : mK M a0 = 14 ∧ mK M (mR M a0 10) = 16 ∧ mK M (mR M (mR M a0 10) 0) = 15 ∧ Cv G y_MN_add d [vr (mR M (mR M a0 10) 0), vi l1] M (fun M4 => mOk M4 ∧ (mK M4 a0 = 14 ∧ mK M4 (mR M4 a0 10) = 16 ∧ Ci G y_MM_place0 d [vr a0, vi l2] M4 (fun x10 M9 => i32 x10 ∧ mOk M9 ∧ (mK M9 (mR M4 (mR M4 a0 10) 1) = 15 ∧ Cv G y_MN_add d [vr (mR M4 (mR M4 a0 10) 1), vi x10] M9 (fun M13 => mOk M13 ∧ (mK M13 a0 = 14 ∧ mK M13 (mR M13 a0 10) = 16 ∧ Ci G y_MM_place0 d [vr a0, vi l3] M13 (fun x19 M18 => i32 x19 ∧ mOk M18 ∧ (mK M18 (mR M13 (mR M13 a0 10) 2) = 15 ∧ Cv G y_MN_add d [vr (mR M13 (mR M13 a0 10) 2), vi x19] M18 (fun M22 => mOk M22 ∧ (mK M22 a0 = 14 ∧ mK M22 (mR M22 a0 10) = 16 ∧ mK M22 (mR M22 (mR M22 a0 10) 3) = 15 ∧ Cv G y_MN_add d [vr (mR M22 (mR M22 a0 10) 3), vi 0] M22 (fun M28 => mOk M28 ∧ (mK M28 a0 = 14 ∧ mK M28 (mR M28 a0 10) = 16 ∧ mK M28 (mR M28 (mR M28 a0 10) 4) = 15 ∧ Cv G y_MN_add d [vr (mR M28 (mR M28 a0 10) 4), vi (-1)] M28 (fun M34 => mOk M34 ∧ (mK M34 a0 = 14 ∧ mK M34 (mR M34 a0 10) = 16 ∧ mK M34 (mR M34 (mR M34 a0 10) 5) = 15 ∧ Cv G y_MN_add d [vr (mR M34 (mR M34 a0 10) 5), vi (-1)] M34 (fun M40 => mOk M40 ∧ (mK M40 a0 = 14 ∧ mK M40 (mR M40 a0 10) = 16 ∧ mK M40 (mR M40 (mR M40 a0 10) 0) = 15 ∧ Q ((mI M40 (mR M40 (mR M40 a0 10) 0) 1) - 1) M40))))))))))))))))) :
    Ci G y_MM_node (d + 1) [vr a0, vi l1, vi l2, vi l3] M Q := by
  refine wm_open (y := y_MM_node) rfl (Nat.le_of_ble_eq_true rfl) (L := [vr a0, vi l1, vi l2, vi l3]) rfl ?_
  obtain ⟨h1, h⟩ := h
  obtain ⟨h2, h⟩ := h
  obtain ⟨h3, h⟩ := h
  refine wm_aload_n d_MM_node_0 rfl rfl ?_
  refine gf_MM_38 rfl d_MM_node_1 h1 ?_
  refine gf_MM_273 rfl d_MM_node_4 h2 ?_
  refine wm_iload_n d_MM_node_7 rfl rfl ?_
  refine cf_MM_152 rfl d_MM_node_8 h3 (Nat.le_of_ble_eq_true rfl) (Cv.mono h (fun M4 h => ?_))
  obtain ⟨hOM4, h⟩ := h
  obtain ⟨h7, h⟩ := h
  obtain ⟨h8, h⟩ := h
  refine wm_aload_n d_MM_node_11 rfl rfl ?_
  refine gf_MM_38 rfl d_MM_node_12 h7 ?_
  refine gf_MM_276 rfl d_MM_node_15 h8 ?_
  refine wm_aload_n d_MM_node_18 rfl rfl ?_
  refine wm_iload_n d_MM_node_19 rfl rfl ?_
  refine cf_MM_279 rfl d_MM_node_20 h7 (Nat.le_of_ble_eq_true rfl) (Ci.mono h (fun x10 M9 h => ?_))
  obtain ⟨h11, hOM9, h⟩ := h
  obtain ⟨h12, h⟩ := h
  refine cf_MM_152 rfl d_MM_node_23 h12 (Nat.le_of_ble_eq_true rfl) (Cv.mono h (fun M13 h => ?_))
  obtain ⟨hOM13, h⟩ := h
  obtain ⟨h16, h⟩ := h
  obtain ⟨h17, h⟩ := h
  refine wm_aload_n d_MM_node_26 rfl rfl ?_
  refine gf_MM_38 rfl d_MM_node_27 h16 ?_
  refine gf_MM_281 rfl d_MM_node_30 h17 ?_
  refine wm_aload_n d_MM_node_33 rfl rfl ?_
  refine wm_iload_n d_MM_node_34 rfl rfl ?_
  refine cf_MM_279 rfl d_MM_node_35 h16 (Nat.le_of_ble_eq_true rfl) (Ci.mono h (fun x19 M18 h => ?_))
  obtain ⟨h20, hOM18, h⟩ := h
  obtain ⟨h21, h⟩ := h
  refine cf_MM_152 rfl d_MM_node_38 h21 (Nat.le_of_ble_eq_true rfl) (Cv.mono h (fun M22 h => ?_))
  obtain ⟨hOM22, h⟩ := h
  obtain ⟨h25, h⟩ := h
  obtain ⟨h26, h⟩ := h
  obtain ⟨h27, h⟩ := h
  refine wm_aload_n d_MM_node_41 rfl rfl ?_
  refine gf_MM_38 rfl d_MM_node_42 h25 ?_
  refine gf_MM_284 rfl d_MM_node_45 h26 ?_
  refine wm_iconst d_MM_node_48 ?_
  refine cf_MM_152 rfl d_MM_node_49 h27 (Nat.le_of_ble_eq_true rfl) (Cv.mono h (fun M28 h => ?_))
  obtain ⟨hOM28, h⟩ := h
  obtain ⟨h31, h⟩ := h
  obtain ⟨h32, h⟩ := h
  obtain ⟨h33, h⟩ := h
  refine wm_aload_n d_MM_node_52 rfl rfl ?_
  refine gf_MM_38 rfl d_MM_node_53 h31 ?_
  refine gf_MM_287 rfl d_MM_node_56 h32 ?_
  refine wm_iconst d_MM_node_59 ?_
  refine cf_MM_152 rfl d_MM_node_60 h33 (Nat.le_of_ble_eq_true rfl) (Cv.mono h (fun M34 h => ?_))
  obtain ⟨hOM34, h⟩ := h
  obtain ⟨h37, h⟩ := h
  obtain ⟨h38, h⟩ := h
  obtain ⟨h39, h⟩ := h
  refine wm_aload_n d_MM_node_63 rfl rfl ?_
  refine gf_MM_38 rfl d_MM_node_64 h37 ?_
  refine gf_MM_290 rfl d_MM_node_67 h38 ?_
  refine wm_iconst d_MM_node_70 ?_
  refine cf_MM_152 rfl d_MM_node_71 h39 (Nat.le_of_ble_eq_true rfl) (Cv.mono h (fun M40 h => ?_))
  obtain ⟨hOM40, h⟩ := h
  obtain ⟨h43, h⟩ := h
  obtain ⟨h44, h⟩ := h
  obtain ⟨h45, h⟩ := h
  refine wm_aload_n d_MM_node_74 rfl rfl ?_
  refine gf_MM_38 rfl d_MM_node_75 h43 ?_
  refine gf_MM_273 rfl d_MM_node_78 h44 ?_
  refine gf_MM_145 rfl d_MM_node_81 h45 ?_
  refine wm_iconst d_MM_node_84 ?_
  refine wm_isub d_MM_node_85 ?_
  refine wm_ireturn d_MM_node_86 rfl rfl ?_
  exact ⟨_, rfl, h⟩
theorem d_MM_join_0 : decode y_MM_join.2.1 0 = .ok (.iload_n 1, 1) := dc9_27 (by decide +kernel)
theorem d_MM_join_1 : decode y_MM_join.2.1 1 = .ok (.ifCond .ge 4, 3) := dc9_156 (by decide +kernel)
theorem d_MM_join_5 : decode y_MM_join.2.1 5 = .ok (.aload_n 0, 1) := dc9_42 (by decide +kernel)
theorem d_MM_join_6 : decode y_MM_join.2.1 6 = .ok (.getfield 38, 3) := dc9_180 (by decide +kernel)
theorem d_MM_join_9 : decode y_MM_join.2.1 9 = .ok (.getfield 287, 3) := dc9_180 (by decide +kernel)
theorem d_MM_join_12 : decode y_MM_join.2.1 12 = .ok (.iload_n 1, 1) := dc9_27 (by decide +kernel)
theorem d_MM_join_4 : decode y_MM_join.2.1 4 = .ok (.return_, 1) := dc9_177 (by decide +kernel)
theorem d_MM_join_13 : decode y_MM_join.2.1 13 = .ok (.invokevirtual 155, 3) := dc9_182 (by decide +kernel)
theorem d_MM_join_16 : decode y_MM_join.2.1 16 = .ok (.ifCond .ge 17, 3) := dc9_156 (by decide +kernel)
theorem d_MM_join_33 : decode y_MM_join.2.1 33 = .ok (.aload_n 0, 1) := dc9_42 (by decide +kernel)
theorem d_MM_join_34 : decode y_MM_join.2.1 34 = .ok (.getfield 38, 3) := dc9_180 (by decide +kernel)
theorem d_MM_join_37 : decode y_MM_join.2.1 37 = .ok (.getfield 287, 3) := dc9_180 (by decide +kernel)
theorem d_MM_join_40 : decode y_MM_join.2.1 40 = .ok (.iload_n 1, 1) := dc9_27 (by decide +kernel)
theorem d_MM_join_19 : decode y_MM_join.2.1 19 = .ok (.aload_n 0, 1) := dc9_42 (by decide +kernel)
theorem d_MM_join_20 : decode y_MM_join.2.1 20 = .ok (.getfield 38, 3) := dc9_180 (by decide +kernel)
theorem d_MM_join_23 : decode y_MM_join.2.1 23 = .ok (.getfield 287, 3) := dc9_180 (by decide +kernel)
theorem d_MM_join_26 : decode y_MM_join.2.1 26 = .ok (.getfield 293, 3) := dc9_180 (by decide +kernel)
theorem d_MM_join_29 : decode y_MM_join.2.1 29 = .ok (.iload_n 1, 1) := dc9_27 (by decide +kernel)
theorem d_MM_join_30 : decode y_MM_join.2.1 30 = .ok (.iload_n 2, 1) := dc9_28 (by decide +kernel)
theorem d_MM_join_31 : decode y_MM_join.2.1 31 = .ok (.iastore, 1) := dc9_79 (by decide +kernel)
theorem d_MM_join_32 : decode y_MM_join.2.1 32 = .ok (.return_, 1) := dc9_177 (by decide +kernel)
theorem d_MM_join_41 : decode y_MM_join.2.1 41 = .ok (.invokevirtual 155, 3) := dc9_182 (by decide +kernel)
theorem d_MM_join_44 : decode y_MM_join.2.1 44 = .ok (.istore_n 3, 1) := dc9_62 (by decide +kernel)
theorem d_MM_join_45 : decode y_MM_join.2.1 45 = .ok (.aload_n 0, 1) := dc9_42 (by decide +kernel)
theorem d_MM_join_46 : decode y_MM_join.2.1 46 = .ok (.getfield 38, 3) := dc9_180 (by decide +kernel)
theorem d_MM_join_49 : decode y_MM_join.2.1 49 = .ok (.getfield 290, 3) := dc9_180 (by decide +kernel)
theorem d_MM_join_52 : decode y_MM_join.2.1 52 = .ok (.iload_n 3, 1) := dc9_29 (by decide +kernel)
theorem d_MM_join_53 : decode y_MM_join.2.1 53 = .ok (.invokevirtual 155, 3) := dc9_182 (by decide +kernel)
theorem d_MM_join_56 : decode y_MM_join.2.1 56 = .ok (.ifCond .lt 18, 3) := dc9_155 (by decide +kernel)
theorem d_MM_join_74 : decode y_MM_join.2.1 74 = .ok (.aload_n 0, 1) := dc9_42 (by decide +kernel)
theorem d_MM_join_75 : decode y_MM_join.2.1 75 = .ok (.getfield 38, 3) := dc9_180 (by decide +kernel)
theorem d_MM_join_78 : decode y_MM_join.2.1 78 = .ok (.getfield 290, 3) := dc9_180 (by decide +kernel)
theorem d_MM_join_81 : decode y_MM_join.2.1 81 = .ok (.getfield 293, 3) := dc9_180 (by decide +kernel)
theorem d_MM_join_84 : decode y_MM_join.2.1 84 = .ok (.iload_n 3, 1) := dc9_29 (by decide +kernel)
theorem d_MM_join_85 : decode y_MM_join.2.1 85 = .ok (.iload_n 2, 1) := dc9_28 (by decide +kernel)
theorem d_MM_join_86 : decode y_MM_join.2.1 86 = .ok (.iastore, 1) := dc9_79 (by decide +kernel)
theorem d_MM_join_87 : decode y_MM_join.2.1 87 = .ok (.return_, 1) := dc9_177 (by decide +kernel)
theorem d_MM_join_59 : decode y_MM_join.2.1 59 = .ok (.aload_n 0, 1) := dc9_42 (by decide +kernel)
theorem d_MM_join_60 : decode y_MM_join.2.1 60 = .ok (.getfield 38, 3) := dc9_180 (by decide +kernel)
theorem d_MM_join_63 : decode y_MM_join.2.1 63 = .ok (.getfield 290, 3) := dc9_180 (by decide +kernel)
theorem d_MM_join_66 : decode y_MM_join.2.1 66 = .ok (.iload_n 3, 1) := dc9_29 (by decide +kernel)
theorem d_MM_join_67 : decode y_MM_join.2.1 67 = .ok (.invokevirtual 155, 3) := dc9_182 (by decide +kernel)
theorem d_MM_join_70 : decode y_MM_join.2.1 70 = .ok (.istore_n 3, 1) := dc9_62 (by decide +kernel)
theorem d_MM_join_71 : decode y_MM_join.2.1 71 = .ok (.goto (-26), 3) := dc9_167 (by decide +kernel)
def h_MM_join_45 (G : mG) (d : Nat) (a0 : Nat) (l2 : Int) (l3 : Int) (M : mM) (Q : mM → Prop) : Prop := mWm G y_MM_join (d + 1) 45 [vr a0, vd, vi l2, vi l3] [] M (fun r9 M9 => r9 = none ∧ Q M9)
theorem k_MM_join {G : mG} {d : Nat} {a0 : Nat} {l1 : Int} {l2 : Int} {M : mM} {Q : mM → Prop} (hO : mOk M) (hi_l1 : i32 l1) (hi_l2 : i32 l2)
    (h : ((0 ≤ l1) → (mK M a0 = 14 ∧ mK M (mR M a0 10) = 16 ∧ mK M (mR M (mR M a0 10) 4) = 15 ∧ Ci G y_MN_at d [vr (mR M (mR M a0 10) 4), vi l1] M (fun x7 M6 => i32 x7 ∧ mOk M6 ∧ (((0 ≤ x7) → (mK M6 a0 = 14 ∧ mK M6 (mR M6 a0 10) = 16 ∧ mK M6 (mR M6 (mR M6 a0 10) 4) = 15 ∧ Ci G y_MN_at d [vr (mR M6 (mR M6 a0 10) 4), vi l1] M6 (fun x20 M19 => i32 x20 ∧ mOk M19 ∧ (h_MM_join_45 G d a0 l2 x20 M19 Q)))) ∧ (¬ (0 ≤ x7) → (mK M6 a0 = 14 ∧ mK M6 (mR M6 a0 10) = 16 ∧ mK M6 (mR M6 (mR M6 a0 10) 4) = 15 ∧ mK M6 (mR M6 (mR M6 (mR M6 a0 10) 4) 0) = 30 ∧ ((0 : Int) ≤ l1 ∧ l1 < (mN M6 (mR M6 (mR M6 (mR M6 a0 10) 4) 0) : Int)) ∧ ∀ M27, M27 = mUI M6 (mR M6 (mR M6 (mR M6 a0 10) 4) 0) (Int.toNat l1) l2 → Q M27)))))) ∧ (¬ (0 ≤ l1) → (Q M))) :
    Cv G y_MM_join (d + 1) [vr a0, vi l1, vi l2] M Q := by
  refine wm_open (y := y_MM_join) rfl (Nat.le_of_ble_eq_true rfl) (L := [vr a0, vi l1, vi l2, vd]) rfl ?_
  refine wm_iload_n d_MM_join_0 rfl rfl ?_
  refine wm_if_ge (tgt := 5) d_MM_join_1 rfl hi_l1 (fun c2 => ?_) (fun c2 => ?_)
  · replace h := h.1 c2
    obtain ⟨h3, h⟩ := h
    obtain ⟨h4, h⟩ := h
    obtain ⟨h5, h⟩ := h
    refine wm_aload_n d_MM_join_5 rfl rfl ?_
    refine gf_MM_38 rfl d_MM_join_6 h3 ?_
    refine gf_MM_287 rfl d_MM_join_9 h4 ?_
    refine wm_iload_n d_MM_join_12 rfl rfl ?_
    refine cf_MM_155 rfl d_MM_join_13 h5 (Nat.le_of_ble_eq_true rfl) (Ci.mono h (fun x7 M6 h => ?_))
    obtain ⟨h8, hOM6, h⟩ := h
    refine wm_if_ge (tgt := 33) d_MM_join_16 rfl h8 (fun c15 => ?_) (fun c15 => ?_)
    · replace h := h.1 c15
      obtain ⟨h16, h⟩ := h
      obtain ⟨h17, h⟩ := h
      obtain ⟨h18, h⟩ := h
      refine wm_aload_n d_MM_join_33 rfl rfl ?_
      refine gf_MM_38 rfl d_MM_join_34 h16 ?_
      refine gf_MM_287 rfl d_MM_join_37 h17 ?_
      refine wm_iload_n d_MM_join_40 rfl rfl ?_
      refine cf_MM_155 rfl d_MM_join_41 h18 (Nat.le_of_ble_eq_true rfl) (Ci.mono h (fun x20 M19 h => ?_))
      obtain ⟨h21, hOM19, h⟩ := h
      refine wm_istore_n d_MM_join_44 rfl (by decide) (L' := [vr a0, vi l1, vi l2, vi x20]) rfl ?_
      refine wm_less (L' := [vr a0, vd, vi l2, vi x20]) ⟨Or.inr rfl, Or.inl rfl, Or.inr rfl, Or.inr rfl, trivial⟩ ?_
      exact h
    · replace h := h.2 c15
      obtain ⟨h22, h⟩ := h
      obtain ⟨h23, h⟩ := h
      obtain ⟨h24, h⟩ := h
      obtain ⟨h25, h⟩ := h
      obtain ⟨h26, h⟩ := h
      obtain ⟨M27, e28⟩ : ∃ M27, M27 = mUI M6 (mR M6 (mR M6 (mR M6 a0 10) 4) 0) (Int.toNat l1) l2 := ⟨_, rfl⟩
      replace h := h M27 e28
      refine wm_aload_n d_MM_join_19 rfl rfl ?_
      refine gf_MM_38 rfl d_MM_join_20 h22 ?_
      refine gf_MM_287 rfl d_MM_join_23 h23 ?_
      refine gf_MM_293 rfl d_MM_join_26 h24 ?_
      refine wm_iload_n d_MM_join_29 rfl rfl ?_
      refine wm_iload_n d_MM_join_30 rfl rfl ?_
      have hOM27 : mOk M27 := by rw [e28]; exact mOk_UI hOM6 hi_l2
      refine wm_iastE d_MM_join_31 h25 h26 hi_l2 e28 ?_
      refine wm_return d_MM_join_32 rfl ?_
      exact ⟨rfl, h⟩
  · replace h := h.2 c2
    refine wm_return d_MM_join_4 rfl ?_
    exact ⟨rfl, h⟩
theorem k_MM_join_45 {G : mG} {d : Nat} {a0 : Nat} {l2 : Int} {l3 : Int} {M : mM} {Q : mM → Prop} (hO : mOk M) (hi_l2 : i32 l2) (hi_l3 : i32 l3)
    (h : mK M a0 = 14 ∧ mK M (mR M a0 10) = 16 ∧ mK M (mR M (mR M a0 10) 5) = 15 ∧ Ci G y_MN_at d [vr (mR M (mR M a0 10) 5), vi l3] M (fun x33 M32 => i32 x33 ∧ mOk M32 ∧ (((x33 < 0) → (mK M32 a0 = 14 ∧ mK M32 (mR M32 a0 10) = 16 ∧ mK M32 (mR M32 (mR M32 a0 10) 5) = 15 ∧ mK M32 (mR M32 (mR M32 (mR M32 a0 10) 5) 0) = 30 ∧ ((0 : Int) ≤ l3 ∧ l3 < (mN M32 (mR M32 (mR M32 (mR M32 a0 10) 5) 0) : Int)) ∧ ∀ M47, M47 = mUI M32 (mR M32 (mR M32 (mR M32 a0 10) 5) 0) (Int.toNat l3) l2 → Q M47)) ∧ (¬ (x33 < 0) → (mK M32 a0 = 14 ∧ mK M32 (mR M32 a0 10) = 16 ∧ mK M32 (mR M32 (mR M32 a0 10) 5) = 15 ∧ Ci G y_MN_at d [vr (mR M32 (mR M32 a0 10) 5), vi l3] M32 (fun x53 M52 => i32 x53 ∧ mOk M52 ∧ (h_MM_join_45 G d a0 l2 x53 M52 Q))))))) :
    h_MM_join_45 G d a0 l2 l3 M Q := by
  unfold h_MM_join_45
  obtain ⟨h29, h⟩ := h
  obtain ⟨h30, h⟩ := h
  obtain ⟨h31, h⟩ := h
  refine wm_aload_n d_MM_join_45 rfl rfl ?_
  refine gf_MM_38 rfl d_MM_join_46 h29 ?_
  refine gf_MM_290 rfl d_MM_join_49 h30 ?_
  refine wm_iload_n d_MM_join_52 rfl rfl ?_
  refine cf_MM_155 rfl d_MM_join_53 h31 (Nat.le_of_ble_eq_true rfl) (Ci.mono h (fun x33 M32 h => ?_))
  obtain ⟨h34, hOM32, h⟩ := h
  refine wm_if_lt (tgt := 74) d_MM_join_56 rfl h34 (fun c41 => ?_) (fun c41 => ?_)
  · replace h := h.1 c41
    obtain ⟨h42, h⟩ := h
    obtain ⟨h43, h⟩ := h
    obtain ⟨h44, h⟩ := h
    obtain ⟨h45, h⟩ := h
    obtain ⟨h46, h⟩ := h
    obtain ⟨M47, e48⟩ : ∃ M47, M47 = mUI M32 (mR M32 (mR M32 (mR M32 a0 10) 5) 0) (Int.toNat l3) l2 := ⟨_, rfl⟩
    replace h := h M47 e48
    refine wm_aload_n d_MM_join_74 rfl rfl ?_
    refine gf_MM_38 rfl d_MM_join_75 h42 ?_
    refine gf_MM_290 rfl d_MM_join_78 h43 ?_
    refine gf_MM_293 rfl d_MM_join_81 h44 ?_
    refine wm_iload_n d_MM_join_84 rfl rfl ?_
    refine wm_iload_n d_MM_join_85 rfl rfl ?_
    have hOM47 : mOk M47 := by rw [e48]; exact mOk_UI hOM32 hi_l2
    refine wm_iastE d_MM_join_86 h45 h46 hi_l2 e48 ?_
    refine wm_return d_MM_join_87 rfl ?_
    exact ⟨rfl, h⟩
  · replace h := h.2 c41
    obtain ⟨h49, h⟩ := h
    obtain ⟨h50, h⟩ := h
    obtain ⟨h51, h⟩ := h
    refine wm_aload_n d_MM_join_59 rfl rfl ?_
    refine gf_MM_38 rfl d_MM_join_60 h49 ?_
    refine gf_MM_290 rfl d_MM_join_63 h50 ?_
    refine wm_iload_n d_MM_join_66 rfl rfl ?_
    refine cf_MM_155 rfl d_MM_join_67 h51 (Nat.le_of_ble_eq_true rfl) (Ci.mono h (fun x53 M52 h => ?_))
    obtain ⟨h54, hOM52, h⟩ := h
    refine wm_istore_n d_MM_join_70 rfl (by decide) (L' := [vr a0, vd, vi l2, vi x53]) rfl ?_
    refine wm_goto (tgt := 45) d_MM_join_71 rfl ?_
    exact h
theorem d_MM_job_0 : decode y_MM_job.2.1 0 = .ok (.aload_n 0, 1) := dc9_42 (by decide +kernel)
theorem d_MM_job_1 : decode y_MM_job.2.1 1 = .ok (.getfield 54, 3) := dc9_180 (by decide +kernel)
theorem d_MM_job_4 : decode y_MM_job.2.1 4 = .ok (.iload_n 1, 1) := dc9_27 (by decide +kernel)
theorem d_MM_job_5 : decode y_MM_job.2.1 5 = .ok (.invokevirtual 152, 3) := dc9_182 (by decide +kernel)
theorem d_MM_job_8 : decode y_MM_job.2.1 8 = .ok (.aload_n 0, 1) := dc9_42 (by decide +kernel)
theorem d_MM_job_9 : decode y_MM_job.2.1 9 = .ok (.getfield 54, 3) := dc9_180 (by decide +kernel)
theorem d_MM_job_12 : decode y_MM_job.2.1 12 = .ok (.iload_n 2, 1) := dc9_28 (by decide +kernel)
theorem d_MM_job_13 : decode y_MM_job.2.1 13 = .ok (.invokevirtual 152, 3) := dc9_182 (by decide +kernel)
theorem d_MM_job_16 : decode y_MM_job.2.1 16 = .ok (.aload_n 0, 1) := dc9_42 (by decide +kernel)
theorem d_MM_job_17 : decode y_MM_job.2.1 17 = .ok (.getfield 54, 3) := dc9_180 (by decide +kernel)
theorem d_MM_job_20 : decode y_MM_job.2.1 20 = .ok (.iload_n 3, 1) := dc9_29 (by decide +kernel)
theorem d_MM_job_21 : decode y_MM_job.2.1 21 = .ok (.invokevirtual 152, 3) := dc9_182 (by decide +kernel)
theorem d_MM_job_24 : decode y_MM_job.2.1 24 = .ok (.return_, 1) := dc9_177 (by decide +kernel)
theorem k_MM_job {G : mG} {d : Nat} {a0 : Nat} {l1 : Int} {l2 : Int} {l3 : Int} {M : mM} {Q : mM → Prop} (hO : mOk M) (hi_l1 : i32 l1) (hi_l2 : i32 l2) (hi_l3 : i32 l3)
    (h : mK M a0 = 14 ∧ mK M (mR M a0 18) = 15 ∧ Cv G y_MN_add d [vr (mR M a0 18), vi l1] M (fun M3 => mOk M3 ∧ (mK M3 a0 = 14 ∧ mK M3 (mR M3 a0 18) = 15 ∧ Cv G y_MN_add d [vr (mR M3 a0 18), vi l2] M3 (fun M8 => mOk M8 ∧ (mK M8 a0 = 14 ∧ mK M8 (mR M8 a0 18) = 15 ∧ Cv G y_MN_add d [vr (mR M8 a0 18), vi l3] M8 (fun M13 => mOk M13 ∧ (Q M13))))))) :
    Cv G y_MM_job (d + 1) [vr a0, vi l1, vi l2, vi l3] M Q := by
  refine wm_open (y := y_MM_job) rfl (Nat.le_of_ble_eq_true rfl) (L := [vr a0, vi l1, vi l2, vi l3]) rfl ?_
  obtain ⟨h1, h⟩ := h
  obtain ⟨h2, h⟩ := h
  refine wm_aload_n d_MM_job_0 rfl rfl ?_
  refine gf_MM_54 rfl d_MM_job_1 h1 ?_
  refine wm_iload_n d_MM_job_4 rfl rfl ?_
  refine cf_MM_152 rfl d_MM_job_5 h2 (Nat.le_of_ble_eq_true rfl) (Cv.mono h (fun M3 h => ?_))
  obtain ⟨hOM3, h⟩ := h
  obtain ⟨h6, h⟩ := h
  obtain ⟨h7, h⟩ := h
  refine wm_aload_n d_MM_job_8 rfl rfl ?_
  refine gf_MM_54 rfl d_MM_job_9 h6 ?_
  refine wm_iload_n d_MM_job_12 rfl rfl ?_
  refine cf_MM_152 rfl d_MM_job_13 h7 (Nat.le_of_ble_eq_true rfl) (Cv.mono h (fun M8 h => ?_))
  obtain ⟨hOM8, h⟩ := h
  obtain ⟨h11, h⟩ := h
  obtain ⟨h12, h⟩ := h
  refine wm_aload_n d_MM_job_16 rfl rfl ?_
  refine gf_MM_54 rfl d_MM_job_17 h11 ?_
  refine wm_iload_n d_MM_job_20 rfl rfl ?_
  refine cf_MM_152 rfl d_MM_job_21 h12 (Nat.le_of_ble_eq_true rfl) (Cv.mono h (fun M13 h => ?_))
  obtain ⟨hOM13, h⟩ := h
  refine wm_return d_MM_job_24 rfl ?_
  exact ⟨rfl, h⟩
theorem d_MM_tree_0 : decode y_MM_tree.2.1 0 = .ok (.aload_n 0, 1) := dc9_42 (by decide +kernel)
theorem d_MM_tree_1 : decode y_MM_tree.2.1 1 = .ok (.getfield 54, 3) := dc9_180 (by decide +kernel)
theorem d_MM_tree_4 : decode y_MM_tree.2.1 4 = .ok (.iconst 0, 1) := dc9_3 (by decide +kernel)
theorem d_MM_tree_5 : decode y_MM_tree.2.1 5 = .ok (.putfield 145, 3) := dc9_181 (by decide +kernel)
theorem d_MM_tree_8 : decode y_MM_tree.2.1 8 = .ok (.aload_n 0, 1) := dc9_42 (by decide +kernel)
theorem d_MM_tree_9 : decode y_MM_tree.2.1 9 = .ok (.getfield 38, 3) := dc9_180 (by decide +kernel)
theorem d_MM_tree_12 : decode y_MM_tree.2.1 12 = .ok (.getfield 273, 3) := dc9_180 (by decide +kernel)
theorem d_MM_tree_15 : decode y_MM_tree.2.1 15 = .ok (.getfield 145, 3) := dc9_180 (by decide +kernel)
theorem d_MM_tree_18 : decode y_MM_tree.2.1 18 = .ok (.istore_n 3, 1) := dc9_62 (by decide +kernel)
theorem d_MM_tree_19 : decode y_MM_tree.2.1 19 = .ok (.aload_n 0, 1) := dc9_42 (by decide +kernel)
theorem d_MM_tree_20 : decode y_MM_tree.2.1 20 = .ok (.iconst (-1), 1) := dc9_2 (by decide +kernel)
theorem d_MM_tree_21 : decode y_MM_tree.2.1 21 = .ok (.iload_n 1, 1) := dc9_27 (by decide +kernel)
theorem d_MM_tree_22 : decode y_MM_tree.2.1 22 = .ok (.iload_n 2, 1) := dc9_28 (by decide +kernel)
theorem d_MM_tree_23 : decode y_MM_tree.2.1 23 = .ok (.invokevirtual 296, 3) := dc9_182 (by decide +kernel)
theorem d_MM_tree_26 : decode y_MM_tree.2.1 26 = .ok (.aload_n 0, 1) := dc9_42 (by decide +kernel)
theorem d_MM_tree_27 : decode y_MM_tree.2.1 27 = .ok (.getfield 54, 3) := dc9_180 (by decide +kernel)
theorem d_MM_tree_30 : decode y_MM_tree.2.1 30 = .ok (.getfield 145, 3) := dc9_180 (by decide +kernel)
theorem d_MM_tree_33 : decode y_MM_tree.2.1 33 = .ok (.ifCond .le 39, 3) := dc9_158 (by decide +kernel)
theorem d_MM_tree_72 : decode y_MM_tree.2.1 72 = .ok (.iload_n 3, 1) := dc9_29 (by decide +kernel)
theorem d_MM_tree_73 : decode y_MM_tree.2.1 73 = .ok (.ireturn, 1) := dc9_172 (by decide +kernel)
theorem d_MM_tree_36 : decode y_MM_tree.2.1 36 = .ok (.aload_n 0, 1) := dc9_42 (by decide +kernel)
theorem d_MM_tree_37 : decode y_MM_tree.2.1 37 = .ok (.getfield 54, 3) := dc9_180 (by decide +kernel)
theorem d_MM_tree_40 : decode y_MM_tree.2.1 40 = .ok (.invokevirtual 232, 3) := dc9_182 (by decide +kernel)
theorem d_MM_tree_43 : decode y_MM_tree.2.1 43 = .ok (.istore 4, 2) := dc9_54 (by decide +kernel)
theorem d_MM_tree_45 : decode y_MM_tree.2.1 45 = .ok (.aload_n 0, 1) := dc9_42 (by decide +kernel)
theorem d_MM_tree_46 : decode y_MM_tree.2.1 46 = .ok (.getfield 54, 3) := dc9_180 (by decide +kernel)
theorem d_MM_tree_49 : decode y_MM_tree.2.1 49 = .ok (.invokevirtual 232, 3) := dc9_182 (by decide +kernel)
theorem d_MM_tree_52 : decode y_MM_tree.2.1 52 = .ok (.istore 5, 2) := dc9_54 (by decide +kernel)
theorem d_MM_tree_54 : decode y_MM_tree.2.1 54 = .ok (.aload_n 0, 1) := dc9_42 (by decide +kernel)
theorem d_MM_tree_55 : decode y_MM_tree.2.1 55 = .ok (.aload_n 0, 1) := dc9_42 (by decide +kernel)
theorem d_MM_tree_56 : decode y_MM_tree.2.1 56 = .ok (.getfield 54, 3) := dc9_180 (by decide +kernel)
theorem d_MM_tree_59 : decode y_MM_tree.2.1 59 = .ok (.invokevirtual 232, 3) := dc9_182 (by decide +kernel)
theorem d_MM_tree_62 : decode y_MM_tree.2.1 62 = .ok (.iload 5, 2) := dc9_21 (by decide +kernel)
theorem d_MM_tree_64 : decode y_MM_tree.2.1 64 = .ok (.iload 4, 2) := dc9_21 (by decide +kernel)
theorem d_MM_tree_66 : decode y_MM_tree.2.1 66 = .ok (.invokevirtual 299, 3) := dc9_182 (by decide +kernel)
theorem d_MM_tree_69 : decode y_MM_tree.2.1 69 = .ok (.goto (-43), 3) := dc9_167 (by decide +kernel)
def h_MM_tree_26 (G : mG) (d : Nat) (a0 : Nat) (l3 : Int) (M : mM) (Q : Int → mM → Prop) : Prop := mWm G y_MM_tree (d + 1) 26 [vr a0, vd, vd, vi l3, vd, vd] [] M (fun r9 M9 => ∃ x9, r9 = some (vi x9) ∧ Q x9 M9)
theorem k_MM_tree {G : mG} {d : Nat} {a0 : Nat} {l1 : Int} {l2 : Int} {M : mM} {Q : Int → mM → Prop} (hO : mOk M) (hi_l1 : i32 l1) (hi_l2 : i32 l2)
    (h : mK M a0 = 14 ∧ mK M (mR M a0 18) = 15 ∧ ∀ M3, M3 = mUI M (mR M a0 18) 1 0 → mK M3 (mR M3 a0 10) = 16 ∧ mK M3 (mR M3 (mR M3 a0 10) 0) = 15 ∧ Cv G y_MM_job d [vr a0, vi (-1), vi l1, vi l2] M3 (fun M7 => mOk M7 ∧ (h_MM_tree_26 G d a0 (mI M3 (mR M3 (mR M3 a0 10) 0) 1) M7 Q))) :
    Ci G y_MM_tree (d + 1) [vr a0, vi l1, vi l2] M Q := by
  refine wm_open (y := y_MM_tree) rfl (Nat.le_of_ble_eq_true rfl) (L := [vr a0, vi l1, vi l2, vd, vd, vd]) rfl ?_
  obtain ⟨h1, h⟩ := h
  obtain ⟨h2, h⟩ := h
  obtain ⟨M3, e4⟩ : ∃ M3, M3 = mUI M (mR M a0 18) 1 0 := ⟨_, rfl⟩
  replace h := h M3 e4
  obtain ⟨h5, h⟩ := h
  obtain ⟨h6, h⟩ := h
  refine wm_aload_n d_MM_tree_0 rfl rfl ?_
  refine gf_MM_54 rfl d_MM_tree_1 h1 ?_
  refine wm_iconst d_MM_tree_4 ?_
  have hOM3 : mOk M3 := by rw [e4]; exact mOk_UI hO ⟨by decide, by decide⟩
  refine pf_MM_145 rfl d_MM_tree_5 h2 ⟨by decide, by decide⟩ e4 ?_
  refine wm_aload_n d_MM_tree_8 rfl rfl ?_
  refine gf_MM_38 rfl d_MM_tree_9 (by rw [e4]; exact h1) ?_
  refine gf_MM_273 rfl d_MM_tree_12 h5 ?_
  refine gf_MM_145 rfl d_MM_tree_15 h6 ?_
  refine wm_istore_n d_MM_tree_18 rfl (by decide) (L' := [vr a0, vi l1, vi l2, vi (mI M3 (mR M3 (mR M3 a0 10) 0) 1), vd, vd]) rfl ?_
  refine wm_aload_n d_MM_tree_19 rfl rfl ?_
  refine wm_iconst d_MM_tree_20 ?_
  refine wm_iload_n d_MM_tree_21 rfl rfl ?_
  refine wm_iload_n d_MM_tree_22 rfl rfl ?_
  refine cf_MM_296 rfl d_MM_tree_23 (by rw [e4]; exact h1) (Nat.le_of_ble_eq_true rfl) (Cv.mono h (fun M7 h => ?_))
  obtain ⟨hOM7, h⟩ := h
  refine wm_less (L' := [vr a0, vd, vd, vi (mI M3 (mR M3 (mR M3 a0 10) 0) 1), vd, vd]) ⟨Or.inr rfl, Or.inl rfl, Or.inl rfl, Or.inr rfl, Or.inl rfl, Or.inl rfl, trivial⟩ ?_
  exact h
theorem k_MM_tree_26 {G : mG} {d : Nat} {a0 : Nat} {l3 : Int} {M : mM} {Q : Int → mM → Prop} (hO : mOk M) (hi_l3 : i32 l3)
    (h : mK M a0 = 14 ∧ mK M (mR M a0 18) = 15 ∧ ((mI M (mR M a0 18) 1 ≤ 0) → (Q l3 M)) ∧ (¬ (mI M (mR M a0 18) 1 ≤ 0) → (Ci G y_MN_take d [vr (mR M a0 18)] M (fun x15 M14 => i32 x15 ∧ mOk M14 ∧ (mK M14 a0 = 14 ∧ mK M14 (mR M14 a0 18) = 15 ∧ Ci G y_MN_take d [vr (mR M14 a0 18)] M14 (fun x20 M19 => i32 x20 ∧ mOk M19 ∧ (mK M19 a0 = 14 ∧ mK M19 (mR M19 a0 18) = 15 ∧ Ci G y_MN_take d [vr (mR M19 a0 18)] M19 (fun x25 M24 => i32 x25 ∧ mOk M24 ∧ (mK M24 a0 = 14 ∧ Cv G y_MM_part d [vr a0, vi x25, vi x20, vi x15] M24 (fun M28 => mOk M28 ∧ (h_MM_tree_26 G d a0 l3 M28 Q))))))))))) :
    h_MM_tree_26 G d a0 l3 M Q := by
  unfold h_MM_tree_26
  obtain ⟨h10, h⟩ := h
  obtain ⟨h11, h⟩ := h
  refine wm_aload_n d_MM_tree_26 rfl rfl ?_
  refine gf_MM_54 rfl d_MM_tree_27 h10 ?_
  refine gf_MM_145 rfl d_MM_tree_30 h11 ?_
  refine wm_if_le (tgt := 72) d_MM_tree_33 rfl (hO _ _).1 (fun c13 => ?_) (fun c13 => ?_)
  · replace h := h.1 c13
    refine wm_iload_n d_MM_tree_72 rfl rfl ?_
    refine wm_ireturn d_MM_tree_73 rfl rfl ?_
    exact ⟨_, rfl, h⟩
  · replace h := h.2 c13
    refine wm_aload_n d_MM_tree_36 rfl rfl ?_
    refine gf_MM_54 rfl d_MM_tree_37 h10 ?_
    refine cf_MM_232 rfl d_MM_tree_40 h11 (Nat.le_of_ble_eq_true rfl) (Ci.mono h (fun x15 M14 h => ?_))
    obtain ⟨h16, hOM14, h⟩ := h
    obtain ⟨h17, h⟩ := h
    obtain ⟨h18, h⟩ := h
    refine wm_istore d_MM_tree_43 (by decide) (L' := [vr a0, vd, vd, vi l3, vi x15, vd]) rfl ?_
    refine wm_aload_n d_MM_tree_45 rfl rfl ?_
    refine gf_MM_54 rfl d_MM_tree_46 h17 ?_
    refine cf_MM_232 rfl d_MM_tree_49 h18 (Nat.le_of_ble_eq_true rfl) (Ci.mono h (fun x20 M19 h => ?_))
    obtain ⟨h21, hOM19, h⟩ := h
    obtain ⟨h22, h⟩ := h
    obtain ⟨h23, h⟩ := h
    refine wm_istore d_MM_tree_52 (by decide) (L' := [vr a0, vd, vd, vi l3, vi x15, vi x20]) rfl ?_
    refine wm_aload_n d_MM_tree_54 rfl rfl ?_
    refine wm_aload_n d_MM_tree_55 rfl rfl ?_
    refine gf_MM_54 rfl d_MM_tree_56 h22 ?_
    refine cf_MM_232 rfl d_MM_tree_59 h23 (Nat.le_of_ble_eq_true rfl) (Ci.mono h (fun x25 M24 h => ?_))
    obtain ⟨h26, hOM24, h⟩ := h
    obtain ⟨h27, h⟩ := h
    refine wm_iload d_MM_tree_62 rfl ?_
    refine wm_iload d_MM_tree_64 rfl ?_
    refine cf_MM_299 rfl d_MM_tree_66 h27 (Nat.le_of_ble_eq_true rfl) (Cv.mono h (fun M28 h => ?_))
    obtain ⟨hOM28, h⟩ := h
    refine wm_goto (tgt := 26) d_MM_tree_69 rfl ?_
    refine wm_less (L' := [vr a0, vd, vd, vi l3, vd, vd]) ⟨Or.inr rfl, Or.inl rfl, Or.inl rfl, Or.inr rfl, Or.inl rfl, Or.inl rfl, trivial⟩ ?_
    exact h
theorem d_MM_isOperand_0 : decode y_MM_isOperand.2.1 0 = .ok (.aload_n 0, 1) := dc9_42 (by decide +kernel)
theorem d_MM_isOperand_1 : decode y_MM_isOperand.2.1 1 = .ok (.iload_n 1, 1) := dc9_27 (by decide +kernel)
theorem d_MM_isOperand_2 : decode y_MM_isOperand.2.1 2 = .ok (.invokevirtual 302, 3) := dc9_182 (by decide +kernel)
theorem d_MM_isOperand_5 : decode y_MM_isOperand.2.1 5 = .ok (.iconst 2, 1) := dc9_5 (by decide +kernel)
theorem d_MM_isOperand_6 : decode y_MM_isOperand.2.1 6 = .ok (.if_icmp .eq 42, 3) := dc9_159 (by decide +kernel)
theorem d_MM_isOperand_48 : decode y_MM_isOperand.2.1 48 = .ok (.iconst 1, 1) := dc9_4 (by decide +kernel)
theorem d_MM_isOperand_49 : decode y_MM_isOperand.2.1 49 = .ok (.goto 4, 3) := dc9_167 (by decide +kernel)
theorem d_MM_isOperand_9 : decode y_MM_isOperand.2.1 9 = .ok (.aload_n 0, 1) := dc9_42 (by decide +kernel)
theorem d_MM_isOperand_10 : decode y_MM_isOperand.2.1 10 = .ok (.iload_n 1, 1) := dc9_27 (by decide +kernel)
theorem d_MM_isOperand_53 : decode y_MM_isOperand.2.1 53 = .ok (.ireturn, 1) := dc9_172 (by decide +kernel)
theorem d_MM_isOperand_11 : decode y_MM_isOperand.2.1 11 = .ok (.invokevirtual 302, 3) := dc9_182 (by decide +kernel)
theorem d_MM_isOperand_14 : decode y_MM_isOperand.2.1 14 = .ok (.iconst 1, 1) := dc9_4 (by decide +kernel)
theorem d_MM_isOperand_15 : decode y_MM_isOperand.2.1 15 = .ok (.if_icmp .eq 33, 3) := dc9_159 (by decide +kernel)
theorem d_MM_isOperand_18 : decode y_MM_isOperand.2.1 18 = .ok (.aload_n 0, 1) := dc9_42 (by decide +kernel)
theorem d_MM_isOperand_19 : decode y_MM_isOperand.2.1 19 = .ok (.iload_n 1, 1) := dc9_27 (by decide +kernel)
theorem d_MM_isOperand_20 : decode y_MM_isOperand.2.1 20 = .ok (.invokevirtual 302, 3) := dc9_182 (by decide +kernel)
theorem d_MM_isOperand_23 : decode y_MM_isOperand.2.1 23 = .ok (.bipush 12, 2) := dc9_16 (by decide +kernel)
theorem d_MM_isOperand_25 : decode y_MM_isOperand.2.1 25 = .ok (.if_icmp .eq 23, 3) := dc9_159 (by decide +kernel)
theorem d_MM_isOperand_28 : decode y_MM_isOperand.2.1 28 = .ok (.aload_n 0, 1) := dc9_42 (by decide +kernel)
theorem d_MM_isOperand_29 : decode y_MM_isOperand.2.1 29 = .ok (.iload_n 1, 1) := dc9_27 (by decide +kernel)
theorem d_MM_isOperand_30 : decode y_MM_isOperand.2.1 30 = .ok (.invokevirtual 302, 3) := dc9_182 (by decide +kernel)
theorem d_MM_isOperand_33 : decode y_MM_isOperand.2.1 33 = .ok (.bipush 13, 2) := dc9_16 (by decide +kernel)
theorem d_MM_isOperand_35 : decode y_MM_isOperand.2.1 35 = .ok (.if_icmp .eq 13, 3) := dc9_159 (by decide +kernel)
theorem d_MM_isOperand_38 : decode y_MM_isOperand.2.1 38 = .ok (.aload_n 0, 1) := dc9_42 (by decide +kernel)
theorem d_MM_isOperand_39 : decode y_MM_isOperand.2.1 39 = .ok (.iload_n 1, 1) := dc9_27 (by decide +kernel)
theorem d_MM_isOperand_40 : decode y_MM_isOperand.2.1 40 = .ok (.invokevirtual 302, 3) := dc9_182 (by decide +kernel)
theorem d_MM_isOperand_43 : decode y_MM_isOperand.2.1 43 = .ok (.bipush 37, 2) := dc9_16 (by decide +kernel)
theorem d_MM_isOperand_45 : decode y_MM_isOperand.2.1 45 = .ok (.if_icmp .ne 7, 3) := dc9_160 (by decide +kernel)
theorem d_MM_isOperand_52 : decode y_MM_isOperand.2.1 52 = .ok (.iconst 0, 1) := dc9_3 (by decide +kernel)
theorem k_MM_isOperand {G : mG} {d : Nat} {a0 : Nat} {l1 : Int} {M : mM} {Q : Int → mM → Prop} (hO : mOk M) (hi_l1 : i32 l1)
    (h : mK M a0 = 14 ∧ Ci G y_MM_word1 d [vr a0, vi l1] M (fun x3 M2 => i32 x3 ∧ mOk M2 ∧ (((x3 = 2) → (Q 1 M2)) ∧ (¬ (x3 = 2) → (mK M2 a0 = 14 ∧ Ci G y_MM_word1 d [vr a0, vi l1] M2 (fun x10 M9 => i32 x10 ∧ mOk M9 ∧ (((x10 = 1) → (Q 1 M9)) ∧ (¬ (x10 = 1) → (mK M9 a0 = 14 ∧ Ci G y_MM_word1 d [vr a0, vi l1] M9 (fun x17 M16 => i32 x17 ∧ mOk M16 ∧ (((x17 = 12) → (Q 1 M16)) ∧ (¬ (x17 = 12) → (mK M16 a0 = 14 ∧ Ci G y_MM_word1 d [vr a0, vi l1] M16 (fun x24 M23 => i32 x24 ∧ mOk M23 ∧ (((x24 = 13) → (Q 1 M23)) ∧ (¬ (x24 = 13) → (mK M23 a0 = 14 ∧ Ci G y_MM_word1 d [vr a0, vi l1] M23 (fun x31 M30 => i32 x31 ∧ mOk M30 ∧ (∀ v34 : Int, v34 = (if (x31 = 37) then 1 else 0) → Q v34 M30))))))))))))))))))) :
    Ci G y_MM_isOperand (d + 1) [vr a0, vi l1] M Q := by
  refine wm_open (y := y_MM_isOperand) rfl (Nat.le_of_ble_eq_true rfl) (L := [vr a0, vi l1]) rfl ?_
  obtain ⟨h1, h⟩ := h
  refine wm_aload_n d_MM_isOperand_0 rfl rfl ?_
  refine wm_iload_n d_MM_isOperand_1 rfl rfl ?_
  refine cf_MM_302 rfl d_MM_isOperand_2 h1 (Nat.le_of_ble_eq_true rfl) (Ci.mono h (fun x3 M2 h => ?_))
  obtain ⟨h4, hOM2, h⟩ := h
  refine wm_iconst d_MM_isOperand_5 ?_
  refine wm_icmp_eq (tgt := 48) d_MM_isOperand_6 rfl h4 ⟨by decide, by decide⟩ (fun c7 => ?_) (fun c7 => ?_)
  · replace h := h.1 c7
    refine wm_iconst d_MM_isOperand_48 ?_
    refine wm_goto (tgt := 53) d_MM_isOperand_49 rfl ?_
    refine wm_ireturn d_MM_isOperand_53 rfl (m_nb (by decide)) ?_
    exact ⟨_, rfl, h⟩
  · replace h := h.2 c7
    obtain ⟨h8, h⟩ := h
    refine wm_aload_n d_MM_isOperand_9 rfl rfl ?_
    refine wm_iload_n d_MM_isOperand_10 rfl rfl ?_
    refine cf_MM_302 rfl d_MM_isOperand_11 h8 (Nat.le_of_ble_eq_true rfl) (Ci.mono h (fun x10 M9 h => ?_))
    obtain ⟨h11, hOM9, h⟩ := h
    refine wm_iconst d_MM_isOperand_14 ?_
    refine wm_icmp_eq (tgt := 48) d_MM_isOperand_15 rfl h11 ⟨by decide, by decide⟩ (fun c14 => ?_) (fun c14 => ?_)
    · replace h := h.1 c14
      refine wm_iconst d_MM_isOperand_48 ?_
      refine wm_goto (tgt := 53) d_MM_isOperand_49 rfl ?_
      refine wm_ireturn d_MM_isOperand_53 rfl (m_nb (by decide)) ?_
      exact ⟨_, rfl, h⟩
    · replace h := h.2 c14
      obtain ⟨h15, h⟩ := h
      refine wm_aload_n d_MM_isOperand_18 rfl rfl ?_
      refine wm_iload_n d_MM_isOperand_19 rfl rfl ?_
      refine cf_MM_302 rfl d_MM_isOperand_20 h15 (Nat.le_of_ble_eq_true rfl) (Ci.mono h (fun x17 M16 h => ?_))
      obtain ⟨h18, hOM16, h⟩ := h
      refine wm_bipush d_MM_isOperand_23 (by decide) ?_
      refine wm_icmp_eq (tgt := 48) d_MM_isOperand_25 rfl h18 ⟨by decide, by decide⟩ (fun c21 => ?_) (fun c21 => ?_)
      · replace h := h.1 c21
        refine wm_iconst d_MM_isOperand_48 ?_
        refine wm_goto (tgt := 53) d_MM_isOperand_49 rfl ?_
        refine wm_ireturn d_MM_isOperand_53 rfl (m_nb (by decide)) ?_
        exact ⟨_, rfl, h⟩
      · replace h := h.2 c21
        obtain ⟨h22, h⟩ := h
        refine wm_aload_n d_MM_isOperand_28 rfl rfl ?_
        refine wm_iload_n d_MM_isOperand_29 rfl rfl ?_
        refine cf_MM_302 rfl d_MM_isOperand_30 h22 (Nat.le_of_ble_eq_true rfl) (Ci.mono h (fun x24 M23 h => ?_))
        obtain ⟨h25, hOM23, h⟩ := h
        refine wm_bipush d_MM_isOperand_33 (by decide) ?_
        refine wm_icmp_eq (tgt := 48) d_MM_isOperand_35 rfl h25 ⟨by decide, by decide⟩ (fun c28 => ?_) (fun c28 => ?_)
        · replace h := h.1 c28
          refine wm_iconst d_MM_isOperand_48 ?_
          refine wm_goto (tgt := 53) d_MM_isOperand_49 rfl ?_
          refine wm_ireturn d_MM_isOperand_53 rfl (m_nb (by decide)) ?_
          exact ⟨_, rfl, h⟩
        · replace h := h.2 c28
          obtain ⟨h29, h⟩ := h
          refine wm_aload_n d_MM_isOperand_38 rfl rfl ?_
          refine wm_iload_n d_MM_isOperand_39 rfl rfl ?_
          refine cf_MM_302 rfl d_MM_isOperand_40 h29 (Nat.le_of_ble_eq_true rfl) (Ci.mono h (fun x31 M30 h => ?_))
          obtain ⟨h32, hOM30, h⟩ := h
          refine wm_bipush d_MM_isOperand_43 (by decide) ?_
          have hJ : ∀ v34 : Int, v34 = (if (x31 = 37) then 1 else 0) → mWm G y_MM_isOperand (d + 1) 53 [vd, vd] [vi v34] M30 (fun r9 M9 => ∃ x9, r9 = some (vi x9) ∧ Q x9 M9) := by
            intro v34 e36
            have h := h v34 e36
            have h37 : i32 v34 := by rw [e36]; (repeat' split) <;> first | exact ⟨by decide, by decide⟩ | exact ⟨by decide, by decide⟩
            have h38 : (v34 = 0 ∨ v34 = 1) := by rw [e36]; (repeat' split) <;> decide
            refine wm_ireturn d_MM_isOperand_53 rfl (m_nb h38) ?_
            exact ⟨_, rfl, h⟩
          clear h
          refine wm_icmp_ne (tgt := 52) d_MM_isOperand_45 rfl h32 ⟨by decide, by decide⟩ (fun c33 => ?_) (fun c33 => ?_)
          · refine wm_iconst d_MM_isOperand_52 ?_
            refine wm_less (L' := [vd, vd]) ⟨Or.inl rfl, Or.inl rfl, trivial⟩ ?_
            exact hJ 0 (if_neg c33).symm
          · replace c33 := Classical.not_not.mp c33
            refine wm_iconst d_MM_isOperand_48 ?_
            refine wm_goto (tgt := 53) d_MM_isOperand_49 rfl ?_
            refine wm_less (L' := [vd, vd]) ⟨Or.inl rfl, Or.inl rfl, trivial⟩ ?_
            exact hJ 1 (if_pos c33).symm
theorem d_MM_looseness_0 : decode y_MM_looseness.2.1 0 = .ok (.aload_n 0, 1) := dc9_42 (by decide +kernel)
theorem d_MM_looseness_1 : decode y_MM_looseness.2.1 1 = .ok (.iload_n 1, 1) := dc9_27 (by decide +kernel)
theorem d_MM_looseness_2 : decode y_MM_looseness.2.1 2 = .ok (.invokevirtual 302, 3) := dc9_182 (by decide +kernel)
theorem d_MM_looseness_5 : decode y_MM_looseness.2.1 5 = .ok (.istore_n 3, 1) := dc9_62 (by decide +kernel)
theorem d_MM_looseness_6 : decode y_MM_looseness.2.1 6 = .ok (.iload_n 3, 1) := dc9_29 (by decide +kernel)
theorem d_MM_looseness_7 : decode y_MM_looseness.2.1 7 = .ok (.bipush 32, 2) := dc9_16 (by decide +kernel)
theorem d_MM_looseness_9 : decode y_MM_looseness.2.1 9 = .ok (.if_icmp .ne 6, 3) := dc9_160 (by decide +kernel)
theorem d_MM_looseness_12 : decode y_MM_looseness.2.1 12 = .ok (.bipush 6, 2) := dc9_16 (by decide +kernel)
theorem d_MM_looseness_14 : decode y_MM_looseness.2.1 14 = .ok (.ireturn, 1) := dc9_172 (by decide +kernel)
theorem d_MM_looseness_15 : decode y_MM_looseness.2.1 15 = .ok (.iload_n 3, 1) := dc9_29 (by decide +kernel)
theorem d_MM_looseness_16 : decode y_MM_looseness.2.1 16 = .ok (.bipush 30, 2) := dc9_16 (by decide +kernel)
theorem d_MM_looseness_18 : decode y_MM_looseness.2.1 18 = .ok (.if_icmp .eq 9, 3) := dc9_159 (by decide +kernel)
theorem d_MM_looseness_21 : decode y_MM_looseness.2.1 21 = .ok (.iload_n 3, 1) := dc9_29 (by decide +kernel)
theorem d_MM_looseness_22 : decode y_MM_looseness.2.1 22 = .ok (.bipush 29, 2) := dc9_16 (by decide +kernel)
theorem d_MM_looseness_24 : decode y_MM_looseness.2.1 24 = .ok (.if_icmp .ne 15, 3) := dc9_160 (by decide +kernel)
theorem d_MM_looseness_39 : decode y_MM_looseness.2.1 39 = .ok (.iload_n 3, 1) := dc9_29 (by decide +kernel)
theorem d_MM_looseness_27 : decode y_MM_looseness.2.1 27 = .ok (.iload_n 3, 1) := dc9_29 (by decide +kernel)
theorem d_MM_looseness_28 : decode y_MM_looseness.2.1 28 = .ok (.bipush 30, 2) := dc9_16 (by decide +kernel)
theorem d_MM_looseness_30 : decode y_MM_looseness.2.1 30 = .ok (.if_icmp .ne 7, 3) := dc9_160 (by decide +kernel)
theorem d_MM_looseness_33 : decode y_MM_looseness.2.1 33 = .ok (.iconst 5, 1) := dc9_8 (by decide +kernel)
theorem d_MM_looseness_34 : decode y_MM_looseness.2.1 34 = .ok (.goto 4, 3) := dc9_167 (by decide +kernel)
theorem d_MM_looseness_37 : decode y_MM_looseness.2.1 37 = .ok (.iconst 4, 1) := dc9_7 (by decide +kernel)
theorem d_MM_looseness_38 : decode y_MM_looseness.2.1 38 = .ok (.ireturn, 1) := dc9_172 (by decide +kernel)
theorem d_MM_looseness_40 : decode y_MM_looseness.2.1 40 = .ok (.invokestatic 261, 3) := dc9_184 (by decide +kernel)
theorem d_MM_looseness_43 : decode y_MM_looseness.2.1 43 = .ok (.ifCond .eq 5, 3) := dc9_153 (by decide +kernel)
theorem d_MM_looseness_48 : decode y_MM_looseness.2.1 48 = .ok (.iload_n 3, 1) := dc9_29 (by decide +kernel)
theorem d_MM_looseness_49 : decode y_MM_looseness.2.1 49 = .ok (.bipush 24, 2) := dc9_16 (by decide +kernel)
theorem d_MM_looseness_46 : decode y_MM_looseness.2.1 46 = .ok (.iconst 3, 1) := dc9_6 (by decide +kernel)
theorem d_MM_looseness_47 : decode y_MM_looseness.2.1 47 = .ok (.ireturn, 1) := dc9_172 (by decide +kernel)
theorem d_MM_looseness_51 : decode y_MM_looseness.2.1 51 = .ok (.if_icmp .eq 9, 3) := dc9_159 (by decide +kernel)
theorem d_MM_looseness_54 : decode y_MM_looseness.2.1 54 = .ok (.iload_n 3, 1) := dc9_29 (by decide +kernel)
theorem d_MM_looseness_55 : decode y_MM_looseness.2.1 55 = .ok (.bipush 25, 2) := dc9_16 (by decide +kernel)
theorem d_MM_looseness_57 : decode y_MM_looseness.2.1 57 = .ok (.if_icmp .ne 24, 3) := dc9_160 (by decide +kernel)
theorem d_MM_looseness_81 : decode y_MM_looseness.2.1 81 = .ok (.iload_n 3, 1) := dc9_29 (by decide +kernel)
theorem d_MM_looseness_82 : decode y_MM_looseness.2.1 82 = .ok (.bipush 26, 2) := dc9_16 (by decide +kernel)
theorem d_MM_looseness_84 : decode y_MM_looseness.2.1 84 = .ok (.if_icmp .eq 15, 3) := dc9_159 (by decide +kernel)
theorem d_MM_looseness_87 : decode y_MM_looseness.2.1 87 = .ok (.iload_n 3, 1) := dc9_29 (by decide +kernel)
theorem d_MM_looseness_88 : decode y_MM_looseness.2.1 88 = .ok (.bipush 27, 2) := dc9_16 (by decide +kernel)
theorem d_MM_looseness_90 : decode y_MM_looseness.2.1 90 = .ok (.if_icmp .eq 9, 3) := dc9_159 (by decide +kernel)
theorem d_MM_looseness_93 : decode y_MM_looseness.2.1 93 = .ok (.iload_n 3, 1) := dc9_29 (by decide +kernel)
theorem d_MM_looseness_94 : decode y_MM_looseness.2.1 94 = .ok (.bipush 28, 2) := dc9_16 (by decide +kernel)
theorem d_MM_looseness_96 : decode y_MM_looseness.2.1 96 = .ok (.if_icmp .ne 7, 3) := dc9_160 (by decide +kernel)
theorem d_MM_looseness_103 : decode y_MM_looseness.2.1 103 = .ok (.iconst 0, 1) := dc9_3 (by decide +kernel)
theorem d_MM_looseness_104 : decode y_MM_looseness.2.1 104 = .ok (.ireturn, 1) := dc9_172 (by decide +kernel)
theorem d_MM_looseness_60 : decode y_MM_looseness.2.1 60 = .ok (.iload_n 1, 1) := dc9_27 (by decide +kernel)
theorem d_MM_looseness_61 : decode y_MM_looseness.2.1 61 = .ok (.iload_n 2, 1) := dc9_28 (by decide +kernel)
theorem d_MM_looseness_62 : decode y_MM_looseness.2.1 62 = .ok (.if_icmp .le 17, 3) := dc9_164 (by decide +kernel)
theorem d_MM_looseness_65 : decode y_MM_looseness.2.1 65 = .ok (.aload_n 0, 1) := dc9_42 (by decide +kernel)
theorem d_MM_looseness_66 : decode y_MM_looseness.2.1 66 = .ok (.iload_n 1, 1) := dc9_27 (by decide +kernel)
theorem d_MM_looseness_67 : decode y_MM_looseness.2.1 67 = .ok (.iconst 1, 1) := dc9_4 (by decide +kernel)
theorem d_MM_looseness_68 : decode y_MM_looseness.2.1 68 = .ok (.isub, 1) := dc9_100 (by decide +kernel)
theorem d_MM_looseness_79 : decode y_MM_looseness.2.1 79 = .ok (.iconst 0, 1) := dc9_3 (by decide +kernel)
theorem d_MM_looseness_69 : decode y_MM_looseness.2.1 69 = .ok (.invokevirtual 304, 3) := dc9_182 (by decide +kernel)
theorem d_MM_looseness_72 : decode y_MM_looseness.2.1 72 = .ok (.ifCond .eq 7, 3) := dc9_153 (by decide +kernel)
theorem d_MM_looseness_75 : decode y_MM_looseness.2.1 75 = .ok (.iconst 2, 1) := dc9_5 (by decide +kernel)
theorem d_MM_looseness_76 : decode y_MM_looseness.2.1 76 = .ok (.goto 4, 3) := dc9_167 (by decide +kernel)
theorem d_MM_looseness_99 : decode y_MM_looseness.2.1 99 = .ok (.iconst 1, 1) := dc9_4 (by decide +kernel)
theorem d_MM_looseness_100 : decode y_MM_looseness.2.1 100 = .ok (.goto 4, 3) := dc9_167 (by decide +kernel)
theorem d_MM_looseness_80 : decode y_MM_looseness.2.1 80 = .ok (.ireturn, 1) := dc9_172 (by decide +kernel)
def h_MM_looseness_80 (G : mG) (d : Nat) (k0 : Int) (M : mM) (Q : Int → mM → Prop) : Prop := mWm G y_MM_looseness (d + 1) 80 [vd, vd, vd, vd] [vi k0] M (fun r9 M9 => ∃ x9, r9 = some (vi x9) ∧ Q x9 M9)
theorem k_MM_looseness {G : mG} {d : Nat} {a0 : Nat} {l1 : Int} {l2 : Int} {M : mM} {Q : Int → mM → Prop} (hO : mOk M) (hi_l1 : i32 l1) (hi_l2 : i32 l2)
    (h : mK M a0 = 14 ∧ Ci G y_MM_word1 d [vr a0, vi l1] M (fun x3 M2 => i32 x3 ∧ mOk M2 ∧ (((x3 = 32) → (Q 6 M2)) ∧ (¬ (x3 = 32) → ((((x3 = 30) ∨ (x3 = 29)) → (∀ v14 : Int, v14 = (if (x3 = 30) then 5 else 4) → Q v14 M2)) ∧ (¬ ((x3 = 30) ∨ (x3 = 29)) → (Ci G y_MM_isComparison d [vi x3] M2 (fun x21 M20 => i32 x21 ∧ mOk M20 ∧ (((x21 = 0) → ((((x3 = 24) ∨ (x3 = 25)) → (((l1 ≤ l2) → (h_MM_looseness_80 G d 0 M20 Q)) ∧ (¬ (l1 ≤ l2) → (mK M20 a0 = 14 ∧ Ci G y_MM_isOperand d [vr a0, vi (l1 - 1)] M20 (fun x41 M40 => i32 x41 ∧ mOk M40 ∧ (((x41 = 0) → (h_MM_looseness_80 G d 0 M40 Q)) ∧ (¬ (x41 = 0) → (h_MM_looseness_80 G d 2 M40 Q)))))))) ∧ (¬ ((x3 = 24) ∨ (x3 = 25)) → (∀ v49 : Int, v49 = (if ((x3 = 26) ∨ ((x3 = 27) ∨ (x3 = 28))) then 1 else 0) → Q v49 M20)))) ∧ (¬ (x21 = 0) → (Q 3 M20))))))))))) :
    Ci G y_MM_looseness (d + 1) [vr a0, vi l1, vi l2] M Q := by
  refine wm_open (y := y_MM_looseness) rfl (Nat.le_of_ble_eq_true rfl) (L := [vr a0, vi l1, vi l2, vd]) rfl ?_
  obtain ⟨h1, h⟩ := h
  refine wm_aload_n d_MM_looseness_0 rfl rfl ?_
  refine wm_iload_n d_MM_looseness_1 rfl rfl ?_
  refine cf_MM_302 rfl d_MM_looseness_2 h1 (Nat.le_of_ble_eq_true rfl) (Ci.mono h (fun x3 M2 h => ?_))
  obtain ⟨h4, hOM2, h⟩ := h
  refine wm_istore_n d_MM_looseness_5 rfl (by decide) (L' := [vr a0, vi l1, vi l2, vi x3]) rfl ?_
  refine wm_iload_n d_MM_looseness_6 rfl rfl ?_
  refine wm_bipush d_MM_looseness_7 (by decide) ?_
  refine wm_icmp_ne (tgt := 15) d_MM_looseness_9 rfl h4 ⟨by decide, by decide⟩ (fun c8 => ?_) (fun c8 => ?_)
  · replace h := h.2 c8
    refine wm_iload_n d_MM_looseness_15 rfl rfl ?_
    refine wm_bipush d_MM_looseness_16 (by decide) ?_
    have hE0 : ((x3 = 30) ∨ (x3 = 29)) → mWm G y_MM_looseness (d + 1) 27 [vr a0, vi l1, vi l2, vi x3] [] M2 (fun r9 M9 => ∃ x9, r9 = some (vi x9) ∧ Q x9 M9) := by
      intro q12
      have h := h.1 q12
      refine wm_iload_n d_MM_looseness_27 rfl rfl ?_
      refine wm_bipush d_MM_looseness_28 (by decide) ?_
      have hJ : ∀ v14 : Int, v14 = (if (x3 = 30) then 5 else 4) → mWm G y_MM_looseness (d + 1) 38 [vd, vd, vd, vd] [vi v14] M2 (fun r9 M9 => ∃ x9, r9 = some (vi x9) ∧ Q x9 M9) := by
        intro v14 e16
        have h := h v14 e16
        have h17 : i32 v14 := by rw [e16]; (repeat' split) <;> first | exact ⟨by decide, by decide⟩ | exact ⟨by decide, by decide⟩
        refine wm_ireturn d_MM_looseness_38 rfl rfl ?_
        exact ⟨_, rfl, h⟩
      clear h
      refine wm_icmp_ne (tgt := 37) d_MM_looseness_30 rfl h4 ⟨by decide, by decide⟩ (fun c13 => ?_) (fun c13 => ?_)
      · refine wm_iconst d_MM_looseness_37 ?_
        refine wm_less (L' := [vd, vd, vd, vd]) ⟨Or.inl rfl, Or.inl rfl, Or.inl rfl, Or.inl rfl, trivial⟩ ?_
        exact hJ 4 (if_neg c13).symm
      · replace c13 := Classical.not_not.mp c13
        refine wm_iconst d_MM_looseness_33 ?_
        refine wm_goto (tgt := 38) d_MM_looseness_34 rfl ?_
        refine wm_less (L' := [vd, vd, vd, vd]) ⟨Or.inl rfl, Or.inl rfl, Or.inl rfl, Or.inl rfl, trivial⟩ ?_
        exact hJ 5 (if_pos c13).symm
    have hE1 : ¬ ((x3 = 30) ∨ (x3 = 29)) → mWm G y_MM_looseness (d + 1) 39 [vr a0, vi l1, vi l2, vi x3] [] M2 (fun r9 M9 => ∃ x9, r9 = some (vi x9) ∧ Q x9 M9) := by
      intro q19
      have h := h.2 q19
      refine wm_iload_n d_MM_looseness_39 rfl rfl ?_
      refine cf_MM_261 rfl d_MM_looseness_40 (Nat.le_of_ble_eq_true rfl) (Ci.mono h (fun x21 M20 h => ?_))
      obtain ⟨h22, hOM20, h⟩ := h
      refine wm_if_eq (tgt := 48) d_MM_looseness_43 rfl h22 (fun c29 => ?_) (fun c29 => ?_)
      · replace h := h.1 c29
        refine wm_iload_n d_MM_looseness_48 rfl rfl ?_
        refine wm_bipush d_MM_looseness_49 (by decide) ?_
        have hE0 : ((x3 = 24) ∨ (x3 = 25)) → mWm G y_MM_looseness (d + 1) 60 [vr a0, vi l1, vi l2, vi x3] [] M20 (fun r9 M9 => ∃ x9, r9 = some (vi x9) ∧ Q x9 M9) := by
          intro q36
          have h := h.1 q36
          refine wm_iload_n d_MM_looseness_60 rfl rfl ?_
          refine wm_iload_n d_MM_looseness_61 rfl rfl ?_
          refine wm_icmp_le (tgt := 79) d_MM_looseness_62 rfl hi_l1 hi_l2 (fun c38 => ?_) (fun c38 => ?_)
          · replace h := h.1 c38
            refine wm_iconst d_MM_looseness_79 ?_
            refine wm_less (L' := [vd, vd, vd, vd]) ⟨Or.inl rfl, Or.inl rfl, Or.inl rfl, Or.inl rfl, trivial⟩ ?_
            exact h
          · replace h := h.2 c38
            obtain ⟨h39, h⟩ := h
            refine wm_aload_n d_MM_looseness_65 rfl rfl ?_
            refine wm_iload_n d_MM_looseness_66 rfl rfl ?_
            refine wm_iconst d_MM_looseness_67 ?_
            refine wm_isub d_MM_looseness_68 ?_
            refine cf_MM_304 rfl d_MM_looseness_69 h39 (Nat.le_of_ble_eq_true rfl) (Ci.mono h (fun x41 M40 h => ?_))
            obtain ⟨h42, hOM40, h⟩ := h
            refine wm_if_eq (tgt := 79) d_MM_looseness_72 rfl h42 (fun c44 => ?_) (fun c44 => ?_)
            · replace h := h.1 c44
              refine wm_iconst d_MM_looseness_79 ?_
              refine wm_less (L' := [vd, vd, vd, vd]) ⟨Or.inl rfl, Or.inl rfl, Or.inl rfl, Or.inl rfl, trivial⟩ ?_
              exact h
            · replace h := h.2 c44
              refine wm_iconst d_MM_looseness_75 ?_
              refine wm_goto (tgt := 80) d_MM_looseness_76 rfl ?_
              refine wm_less (L' := [vd, vd, vd, vd]) ⟨Or.inl rfl, Or.inl rfl, Or.inl rfl, Or.inl rfl, trivial⟩ ?_
              exact h
        have hE1 : ¬ ((x3 = 24) ∨ (x3 = 25)) → mWm G y_MM_looseness (d + 1) 81 [vr a0, vi l1, vi l2, vi x3] [] M20 (fun r9 M9 => ∃ x9, r9 = some (vi x9) ∧ Q x9 M9) := by
          intro q45
          have h := h.2 q45
          refine wm_iload_n d_MM_looseness_81 rfl rfl ?_
          refine wm_bipush d_MM_looseness_82 (by decide) ?_
          have hJ : ∀ v49 : Int, v49 = (if ((x3 = 26) ∨ ((x3 = 27) ∨ (x3 = 28))) then 1 else 0) → mWm G y_MM_looseness (d + 1) 104 [vd, vd, vd, vd] [vi v49] M20 (fun r9 M9 => ∃ x9, r9 = some (vi x9) ∧ Q x9 M9) := by
            intro v49 e51
            have h := h v49 e51
            have h52 : i32 v49 := by rw [e51]; (repeat' split) <;> first | exact ⟨by decide, by decide⟩ | exact ⟨by decide, by decide⟩
            have h53 : (v49 = 0 ∨ v49 = 1) := by rw [e51]; (repeat' split) <;> decide
            refine wm_ireturn d_MM_looseness_104 rfl rfl ?_
            exact ⟨_, rfl, h⟩
          clear h
          refine wm_icmp_eq (tgt := 99) d_MM_looseness_84 rfl h4 ⟨by decide, by decide⟩ (fun c46 => ?_) (fun c46 => ?_)
          · refine wm_iconst d_MM_looseness_99 ?_
            refine wm_goto (tgt := 104) d_MM_looseness_100 rfl ?_
            refine wm_less (L' := [vd, vd, vd, vd]) ⟨Or.inl rfl, Or.inl rfl, Or.inl rfl, Or.inl rfl, trivial⟩ ?_
            exact hJ 1 (if_pos (Or.inl c46)).symm
          · refine wm_iload_n d_MM_looseness_87 rfl rfl ?_
            refine wm_bipush d_MM_looseness_88 (by decide) ?_
            refine wm_icmp_eq (tgt := 99) d_MM_looseness_90 rfl h4 ⟨by decide, by decide⟩ (fun c47 => ?_) (fun c47 => ?_)
            · refine wm_iconst d_MM_looseness_99 ?_
              refine wm_goto (tgt := 104) d_MM_looseness_100 rfl ?_
              refine wm_less (L' := [vd, vd, vd, vd]) ⟨Or.inl rfl, Or.inl rfl, Or.inl rfl, Or.inl rfl, trivial⟩ ?_
              exact hJ 1 (if_pos (Or.inr (Or.inl c47))).symm
            · refine wm_iload_n d_MM_looseness_93 rfl rfl ?_
              refine wm_bipush d_MM_looseness_94 (by decide) ?_
              refine wm_icmp_ne (tgt := 103) d_MM_looseness_96 rfl h4 ⟨by decide, by decide⟩ (fun c48 => ?_) (fun c48 => ?_)
              · refine wm_iconst d_MM_looseness_103 ?_
                refine wm_less (L' := [vd, vd, vd, vd]) ⟨Or.inl rfl, Or.inl rfl, Or.inl rfl, Or.inl rfl, trivial⟩ ?_
                exact hJ 0 (if_neg (fun z54 => Or.elim z54 c46 (fun z55 => Or.elim z55 c47 c48))).symm
              · replace c48 := Classical.not_not.mp c48
                refine wm_iconst d_MM_looseness_99 ?_
                refine wm_goto (tgt := 104) d_MM_looseness_100 rfl ?_
                refine wm_less (L' := [vd, vd, vd, vd]) ⟨Or.inl rfl, Or.inl rfl, Or.inl rfl, Or.inl rfl, trivial⟩ ?_
                exact hJ 1 (if_pos (Or.inr (Or.inr c48))).symm
        clear h
        refine wm_icmp_eq (tgt := 60) d_MM_looseness_51 rfl h4 ⟨by decide, by decide⟩ (fun c34 => ?_) (fun c34 => ?_)
        · exact hE0 (Or.inl c34)
        · refine wm_iload_n d_MM_looseness_54 rfl rfl ?_
          refine wm_bipush d_MM_looseness_55 (by decide) ?_
          refine wm_icmp_ne (tgt := 81) d_MM_looseness_57 rfl h4 ⟨by decide, by decide⟩ (fun c33 => ?_) (fun c33 => ?_)
          · exact hE1 (fun z57 => Or.elim z57 c34 c33)
          · replace c33 := Classical.not_not.mp c33
            exact hE0 (Or.inr c33)
      · replace h := h.2 c29
        refine wm_iconst d_MM_looseness_46 ?_
        refine wm_ireturn d_MM_looseness_47 rfl rfl ?_
        exact ⟨_, rfl, h⟩
    clear h
    refine wm_icmp_eq (tgt := 27) d_MM_looseness_18 rfl h4 ⟨by decide, by decide⟩ (fun c10 => ?_) (fun c10 => ?_)
    · exact hE0 (Or.inl c10)
    · refine wm_iload_n d_MM_looseness_21 rfl rfl ?_
      refine wm_bipush d_MM_looseness_22 (by decide) ?_
      refine wm_icmp_ne (tgt := 39) d_MM_looseness_24 rfl h4 ⟨by decide, by decide⟩ (fun c9 => ?_) (fun c9 => ?_)
      · exact hE1 (fun z59 => Or.elim z59 c10 c9)
      · replace c9 := Classical.not_not.mp c9
        exact hE0 (Or.inr c9)
  · replace c8 := Classical.not_not.mp c8
    replace h := h.1 c8
    refine wm_bipush d_MM_looseness_12 (by decide) ?_
    refine wm_ireturn d_MM_looseness_14 rfl rfl ?_
    exact ⟨_, rfl, h⟩
theorem k_MM_looseness_80 {G : mG} {d : Nat} {k0 : Int} {M : mM} {Q : Int → mM → Prop} (hO : mOk M) (hi_k0 : i32 k0)
    (h : Q k0 M) :
    h_MM_looseness_80 G d k0 M Q := by
  unfold h_MM_looseness_80
  refine wm_ireturn d_MM_looseness_80 rfl rfl ?_
  exact ⟨_, rfl, h⟩
end
section
theorem d_MM_loosest_0 : decode y_MM_loosest.2.1 0 = .ok (.iconst (-1), 1) := dc9_2 (by decide +kernel)
theorem d_MM_loosest_1 : decode y_MM_loosest.2.1 1 = .ok (.istore_n 3, 1) := dc9_62 (by decide +kernel)
theorem d_MM_loosest_2 : decode y_MM_loosest.2.1 2 = .ok (.iconst 0, 1) := dc9_3 (by decide +kernel)
theorem d_MM_loosest_3 : decode y_MM_loosest.2.1 3 = .ok (.istore 4, 2) := dc9_54 (by decide +kernel)
theorem d_MM_loosest_5 : decode y_MM_loosest.2.1 5 = .ok (.iconst 0, 1) := dc9_3 (by decide +kernel)
theorem d_MM_loosest_6 : decode y_MM_loosest.2.1 6 = .ok (.istore 5, 2) := dc9_54 (by decide +kernel)
theorem d_MM_loosest_8 : decode y_MM_loosest.2.1 8 = .ok (.iload_n 1, 1) := dc9_27 (by decide +kernel)
theorem d_MM_loosest_9 : decode y_MM_loosest.2.1 9 = .ok (.istore 6, 2) := dc9_54 (by decide +kernel)
theorem d_MM_loosest_11 : decode y_MM_loosest.2.1 11 = .ok (.iload 6, 2) := dc9_21 (by decide +kernel)
theorem d_MM_loosest_13 : decode y_MM_loosest.2.1 13 = .ok (.iload_n 2, 1) := dc9_28 (by decide +kernel)
theorem d_MM_loosest_14 : decode y_MM_loosest.2.1 14 = .ok (.if_icmp .ge 104, 3) := dc9_162 (by decide +kernel)
theorem d_MM_loosest_118 : decode y_MM_loosest.2.1 118 = .ok (.aload_n 0, 1) := dc9_42 (by decide +kernel)
theorem d_MM_loosest_119 : decode y_MM_loosest.2.1 119 = .ok (.iload_n 1, 1) := dc9_27 (by decide +kernel)
theorem d_MM_loosest_17 : decode y_MM_loosest.2.1 17 = .ok (.aload_n 0, 1) := dc9_42 (by decide +kernel)
theorem d_MM_loosest_18 : decode y_MM_loosest.2.1 18 = .ok (.iload 6, 2) := dc9_21 (by decide +kernel)
theorem d_MM_loosest_120 : decode y_MM_loosest.2.1 120 = .ok (.invokevirtual 302, 3) := dc9_182 (by decide +kernel)
theorem d_MM_loosest_123 : decode y_MM_loosest.2.1 123 = .ok (.bipush 31, 2) := dc9_16 (by decide +kernel)
theorem d_MM_loosest_125 : decode y_MM_loosest.2.1 125 = .ok (.if_icmp .ne 13, 3) := dc9_160 (by decide +kernel)
theorem d_MM_loosest_128 : decode y_MM_loosest.2.1 128 = .ok (.iload 4, 2) := dc9_21 (by decide +kernel)
theorem d_MM_loosest_130 : decode y_MM_loosest.2.1 130 = .ok (.iconst 4, 1) := dc9_7 (by decide +kernel)
theorem d_MM_loosest_131 : decode y_MM_loosest.2.1 131 = .ok (.if_icmp .ge 7, 3) := dc9_162 (by decide +kernel)
theorem d_MM_loosest_138 : decode y_MM_loosest.2.1 138 = .ok (.iload_n 3, 1) := dc9_29 (by decide +kernel)
theorem d_MM_loosest_134 : decode y_MM_loosest.2.1 134 = .ok (.iconst (-1), 1) := dc9_2 (by decide +kernel)
theorem d_MM_loosest_135 : decode y_MM_loosest.2.1 135 = .ok (.goto 4, 3) := dc9_167 (by decide +kernel)
theorem d_MM_loosest_139 : decode y_MM_loosest.2.1 139 = .ok (.ireturn, 1) := dc9_172 (by decide +kernel)
theorem d_MM_loosest_20 : decode y_MM_loosest.2.1 20 = .ok (.invokevirtual 302, 3) := dc9_182 (by decide +kernel)
theorem d_MM_loosest_23 : decode y_MM_loosest.2.1 23 = .ok (.bipush 37, 2) := dc9_16 (by decide +kernel)
theorem d_MM_loosest_25 : decode y_MM_loosest.2.1 25 = .ok (.if_icmp .ne 10, 3) := dc9_160 (by decide +kernel)
theorem d_MM_loosest_28 : decode y_MM_loosest.2.1 28 = .ok (.iload 5, 2) := dc9_21 (by decide +kernel)
theorem d_MM_loosest_30 : decode y_MM_loosest.2.1 30 = .ok (.iconst 1, 1) := dc9_4 (by decide +kernel)
theorem d_MM_loosest_31 : decode y_MM_loosest.2.1 31 = .ok (.isub, 1) := dc9_100 (by decide +kernel)
theorem d_MM_loosest_32 : decode y_MM_loosest.2.1 32 = .ok (.goto 5, 3) := dc9_167 (by decide +kernel)
theorem d_MM_loosest_35 : decode y_MM_loosest.2.1 35 = .ok (.iload 5, 2) := dc9_21 (by decide +kernel)
theorem d_MM_loosest_37 : decode y_MM_loosest.2.1 37 = .ok (.istore 5, 2) := dc9_54 (by decide +kernel)
theorem d_MM_loosest_39 : decode y_MM_loosest.2.1 39 = .ok (.iload 5, 2) := dc9_21 (by decide +kernel)
theorem d_MM_loosest_41 : decode y_MM_loosest.2.1 41 = .ok (.ifCond .ne 13, 3) := dc9_154 (by decide +kernel)
theorem d_MM_loosest_44 : decode y_MM_loosest.2.1 44 = .ok (.aload_n 0, 1) := dc9_42 (by decide +kernel)
theorem d_MM_loosest_45 : decode y_MM_loosest.2.1 45 = .ok (.iload 6, 2) := dc9_21 (by decide +kernel)
theorem d_MM_loosest_47 : decode y_MM_loosest.2.1 47 = .ok (.iload_n 1, 1) := dc9_27 (by decide +kernel)
theorem d_MM_loosest_54 : decode y_MM_loosest.2.1 54 = .ok (.iconst 0, 1) := dc9_3 (by decide +kernel)
theorem d_MM_loosest_48 : decode y_MM_loosest.2.1 48 = .ok (.invokevirtual 307, 3) := dc9_182 (by decide +kernel)
theorem d_MM_loosest_51 : decode y_MM_loosest.2.1 51 = .ok (.goto 4, 3) := dc9_167 (by decide +kernel)
theorem d_MM_loosest_55 : decode y_MM_loosest.2.1 55 = .ok (.istore 7, 2) := dc9_54 (by decide +kernel)
theorem d_MM_loosest_57 : decode y_MM_loosest.2.1 57 = .ok (.iload 7, 2) := dc9_21 (by decide +kernel)
theorem d_MM_loosest_59 : decode y_MM_loosest.2.1 59 = .ok (.iload 4, 2) := dc9_21 (by decide +kernel)
theorem d_MM_loosest_61 : decode y_MM_loosest.2.1 61 = .ok (.if_icmp .gt 22, 3) := dc9_163 (by decide +kernel)
theorem d_MM_loosest_83 : decode y_MM_loosest.2.1 83 = .ok (.iload 7, 2) := dc9_21 (by decide +kernel)
theorem d_MM_loosest_85 : decode y_MM_loosest.2.1 85 = .ok (.istore 4, 2) := dc9_54 (by decide +kernel)
theorem d_MM_loosest_87 : decode y_MM_loosest.2.1 87 = .ok (.iload 6, 2) := dc9_21 (by decide +kernel)
theorem d_MM_loosest_89 : decode y_MM_loosest.2.1 89 = .ok (.istore_n 3, 1) := dc9_62 (by decide +kernel)
theorem d_MM_loosest_64 : decode y_MM_loosest.2.1 64 = .ok (.iload 7, 2) := dc9_21 (by decide +kernel)
theorem d_MM_loosest_66 : decode y_MM_loosest.2.1 66 = .ok (.ifCond .le 24, 3) := dc9_158 (by decide +kernel)
theorem d_MM_loosest_69 : decode y_MM_loosest.2.1 69 = .ok (.iload 7, 2) := dc9_21 (by decide +kernel)
theorem d_MM_loosest_71 : decode y_MM_loosest.2.1 71 = .ok (.iload 4, 2) := dc9_21 (by decide +kernel)
theorem d_MM_loosest_73 : decode y_MM_loosest.2.1 73 = .ok (.if_icmp .ne 17, 3) := dc9_160 (by decide +kernel)
theorem d_MM_loosest_76 : decode y_MM_loosest.2.1 76 = .ok (.iload 7, 2) := dc9_21 (by decide +kernel)
theorem d_MM_loosest_78 : decode y_MM_loosest.2.1 78 = .ok (.bipush 6, 2) := dc9_16 (by decide +kernel)
theorem d_MM_loosest_80 : decode y_MM_loosest.2.1 80 = .ok (.if_icmp .ge 10, 3) := dc9_162 (by decide +kernel)
theorem d_MM_loosest_90 : decode y_MM_loosest.2.1 90 = .ok (.aload_n 0, 1) := dc9_42 (by decide +kernel)
theorem d_MM_loosest_91 : decode y_MM_loosest.2.1 91 = .ok (.iload 6, 2) := dc9_21 (by decide +kernel)
theorem d_MM_loosest_93 : decode y_MM_loosest.2.1 93 = .ok (.invokevirtual 302, 3) := dc9_182 (by decide +kernel)
theorem d_MM_loosest_96 : decode y_MM_loosest.2.1 96 = .ok (.bipush 36, 2) := dc9_16 (by decide +kernel)
theorem d_MM_loosest_98 : decode y_MM_loosest.2.1 98 = .ok (.if_icmp .ne 10, 3) := dc9_160 (by decide +kernel)
theorem d_MM_loosest_101 : decode y_MM_loosest.2.1 101 = .ok (.iload 5, 2) := dc9_21 (by decide +kernel)
theorem d_MM_loosest_103 : decode y_MM_loosest.2.1 103 = .ok (.iconst 1, 1) := dc9_4 (by decide +kernel)
theorem d_MM_loosest_104 : decode y_MM_loosest.2.1 104 = .ok (.iadd, 1) := dc9_96 (by decide +kernel)
theorem d_MM_loosest_105 : decode y_MM_loosest.2.1 105 = .ok (.goto 5, 3) := dc9_167 (by decide +kernel)
theorem d_MM_loosest_108 : decode y_MM_loosest.2.1 108 = .ok (.iload 5, 2) := dc9_21 (by decide +kernel)
theorem d_MM_loosest_110 : decode y_MM_loosest.2.1 110 = .ok (.istore 5, 2) := dc9_54 (by decide +kernel)
theorem d_MM_loosest_112 : decode y_MM_loosest.2.1 112 = .ok (.iinc 6 1, 3) := by decide +kernel
theorem d_MM_loosest_115 : decode y_MM_loosest.2.1 115 = .ok (.goto (-104), 3) := dc9_167 (by decide +kernel)
def h_MM_loosest_11 (G : mG) (d : Nat) (a0 : Nat) (l1 : Int) (l2 : Int) (l3 : Int) (l4 : Int) (l5 : Int) (l6 : Int) (M : mM) (Q : Int → mM → Prop) : Prop := mWm G y_MM_loosest (d + 1) 11 [vr a0, vi l1, vi l2, vi l3, vi l4, vi l5, vi l6, vd] [] M (fun r9 M9 => ∃ x9, r9 = some (vi x9) ∧ Q x9 M9)
def h_MM_loosest_55 (G : mG) (d : Nat) (a0 : Nat) (l1 : Int) (l2 : Int) (l3 : Int) (l4 : Int) (l5 : Int) (l6 : Int) (k0 : Int) (M : mM) (Q : Int → mM → Prop) : Prop := mWm G y_MM_loosest (d + 1) 55 [vr a0, vi l1, vi l2, vi l3, vi l4, vi l5, vi l6, vd] [vi k0] M (fun r9 M9 => ∃ x9, r9 = some (vi x9) ∧ Q x9 M9)
theorem k_MM_loosest {G : mG} {d : Nat} {a0 : Nat} {l1 : Int} {l2 : Int} {M : mM} {Q : Int → mM → Prop} (hO : mOk M) (hi_l1 : i32 l1) (hi_l2 : i32 l2)
    (h : h_MM_loosest_11 G d a0 l1 l2 (-1) 0 0 l1 M Q) :
    Ci G y_MM_loosest (d + 1) [vr a0, vi l1, vi l2] M Q := by
  refine wm_open (y := y_MM_loosest) rfl (Nat.le_of_ble_eq_true rfl) (L := [vr a0, vi l1, vi l2, vd, vd, vd, vd, vd]) rfl ?_
  refine wm_iconst d_MM_loosest_0 ?_
  refine wm_istore_n d_MM_loosest_1 rfl (by decide) (L' := [vr a0, vi l1, vi l2, vi (-1), vd, vd, vd, vd]) rfl ?_
  refine wm_iconst d_MM_loosest_2 ?_
  refine wm_istore d_MM_loosest_3 (by decide) (L' := [vr a0, vi l1, vi l2, vi (-1), vi 0, vd, vd, vd]) rfl ?_
  refine wm_iconst d_MM_loosest_5 ?_
  refine wm_istore d_MM_loosest_6 (by decide) (L' := [vr a0, vi l1, vi l2, vi (-1), vi 0, vi 0, vd, vd]) rfl ?_
  refine wm_iload_n d_MM_loosest_8 rfl rfl ?_
  refine wm_istore d_MM_loosest_9 (by decide) (L' := [vr a0, vi l1, vi l2, vi (-1), vi 0, vi 0, vi l1, vd]) rfl ?_
  exact h
theorem k_MM_loosest_11 {G : mG} {d : Nat} {a0 : Nat} {l1 : Int} {l2 : Int} {l3 : Int} {l4 : Int} {l5 : Int} {l6 : Int} {M : mM} {Q : Int → mM → Prop} (hO : mOk M) (hi_l1 : i32 l1) (hi_l2 : i32 l2) (hi_l3 : i32 l3) (hi_l4 : i32 l4) (hi_l5 : i32 l5) (hi_l6 : i32 l6)
    (h : ((l2 ≤ l6) → (mK M a0 = 14 ∧ Ci G y_MM_word1 d [vr a0, vi l1] M (fun x5 M4 => i32 x5 ∧ mOk M4 ∧ (∀ v9 : Int, v9 = (if ((¬ (x5 = 31)) ∨ (4 ≤ l4)) then l3 else (-1)) → Q v9 M4)))) ∧ (¬ (l2 ≤ l6) → (mK M a0 = 14 ∧ Ci G y_MM_word1 d [vr a0, vi l6] M (fun x17 M16 => i32 x17 ∧ mOk M16 ∧ (∀ v20 : Int, v20 = (if (x17 = 37) then l5 - 1 else l5) → i32 v20 ∧ ((v20 = 0) → (mK M16 a0 = 14 ∧ Ci G y_MM_looseness d [vr a0, vi l6, vi l1] M16 (fun x29 M28 => i32 x29 ∧ mOk M28 ∧ (h_MM_loosest_55 G d a0 l1 l2 l3 l4 v20 l6 x29 M28 Q)))) ∧ (¬ (v20 = 0) → (h_MM_loosest_55 G d a0 l1 l2 l3 l4 v20 l6 0 M16 Q))))))) :
    h_MM_loosest_11 G d a0 l1 l2 l3 l4 l5 l6 M Q := by
  unfold h_MM_loosest_11
  refine wm_iload d_MM_loosest_11 rfl ?_
  refine wm_iload_n d_MM_loosest_13 rfl rfl ?_
  refine wm_icmp_ge (tgt := 118) d_MM_loosest_14 rfl hi_l6 hi_l2 (fun c2 => ?_) (fun c2 => ?_)
  · replace h := h.1 c2
    obtain ⟨h3, h⟩ := h
    refine wm_aload_n d_MM_loosest_118 rfl rfl ?_
    refine wm_iload_n d_MM_loosest_119 rfl rfl ?_
    refine cf_MM_302 rfl d_MM_loosest_120 h3 (Nat.le_of_ble_eq_true rfl) (Ci.mono h (fun x5 M4 h => ?_))
    obtain ⟨h6, hOM4, h⟩ := h
    refine wm_bipush d_MM_loosest_123 (by decide) ?_
    have hJ : ∀ v9 : Int, v9 = (if ((¬ (x5 = 31)) ∨ (4 ≤ l4)) then l3 else (-1)) → mWm G y_MM_loosest (d + 1) 139 [vd, vd, vd, vd, vd, vd, vd, vd] [vi v9] M4 (fun r9 M9 => ∃ x9, r9 = some (vi x9) ∧ Q x9 M9) := by
      intro v9 e11
      have h := h v9 e11
      have h12 : i32 v9 := by rw [e11]; (repeat' split) <;> first | exact hi_l3 | exact ⟨by decide, by decide⟩
      refine wm_ireturn d_MM_loosest_139 rfl rfl ?_
      exact ⟨_, rfl, h⟩
    clear h
    refine wm_icmp_ne (tgt := 138) d_MM_loosest_125 rfl h6 ⟨by decide, by decide⟩ (fun c7 => ?_) (fun c7 => ?_)
    · refine wm_iload_n d_MM_loosest_138 rfl rfl ?_
      refine wm_less (L' := [vd, vd, vd, vd, vd, vd, vd, vd]) ⟨Or.inl rfl, Or.inl rfl, Or.inl rfl, Or.inl rfl, Or.inl rfl, Or.inl rfl, Or.inl rfl, Or.inl rfl, trivial⟩ ?_
      exact hJ l3 (if_pos (Or.inl c7)).symm
    · replace c7 := Classical.not_not.mp c7
      refine wm_iload d_MM_loosest_128 rfl ?_
      refine wm_iconst d_MM_loosest_130 ?_
      refine wm_icmp_ge (tgt := 138) d_MM_loosest_131 rfl hi_l4 ⟨by decide, by decide⟩ (fun c8 => ?_) (fun c8 => ?_)
      · refine wm_iload_n d_MM_loosest_138 rfl rfl ?_
        refine wm_less (L' := [vd, vd, vd, vd, vd, vd, vd, vd]) ⟨Or.inl rfl, Or.inl rfl, Or.inl rfl, Or.inl rfl, Or.inl rfl, Or.inl rfl, Or.inl rfl, Or.inl rfl, trivial⟩ ?_
        exact hJ l3 (if_pos (Or.inr c8)).symm
      · refine wm_iconst d_MM_loosest_134 ?_
        refine wm_goto (tgt := 139) d_MM_loosest_135 rfl ?_
        refine wm_less (L' := [vd, vd, vd, vd, vd, vd, vd, vd]) ⟨Or.inl rfl, Or.inl rfl, Or.inl rfl, Or.inl rfl, Or.inl rfl, Or.inl rfl, Or.inl rfl, Or.inl rfl, trivial⟩ ?_
        exact hJ (-1) (if_neg (fun z13 => Or.elim z13 (fun w => w c7) c8)).symm
  · replace h := h.2 c2
    obtain ⟨h15, h⟩ := h
    refine wm_aload_n d_MM_loosest_17 rfl rfl ?_
    refine wm_iload d_MM_loosest_18 rfl ?_
    refine cf_MM_302 rfl d_MM_loosest_20 h15 (Nat.le_of_ble_eq_true rfl) (Ci.mono h (fun x17 M16 h => ?_))
    obtain ⟨h18, hOM16, h⟩ := h
    refine wm_bipush d_MM_loosest_23 (by decide) ?_
    have hJ : ∀ v20 : Int, v20 = (if (x17 = 37) then l5 - 1 else l5) → mWm G y_MM_loosest (d + 1) 37 [vr a0, vi l1, vi l2, vi l3, vi l4, vd, vi l6, vd] [vi v20] M16 (fun r9 M9 => ∃ x9, r9 = some (vi x9) ∧ Q x9 M9) := by
      intro v20 e22
      have h := h v20 e22
      obtain ⟨h25, h⟩ := h
      refine wm_istore d_MM_loosest_37 (by decide) (L' := [vr a0, vi l1, vi l2, vi l3, vi l4, vi v20, vi l6, vd]) rfl ?_
      refine wm_iload d_MM_loosest_39 rfl ?_
      refine wm_if_ne (tgt := 54) d_MM_loosest_41 rfl h25 (fun c26 => ?_) (fun c26 => ?_)
      · replace h := h.2 c26
        refine wm_iconst d_MM_loosest_54 ?_
        exact h
      · replace c26 := Classical.not_not.mp c26
        replace h := h.1 c26
        obtain ⟨h27, h⟩ := h
        refine wm_aload_n d_MM_loosest_44 rfl rfl ?_
        refine wm_iload d_MM_loosest_45 rfl ?_
        refine wm_iload_n d_MM_loosest_47 rfl rfl ?_
        refine cf_MM_307 rfl d_MM_loosest_48 h27 (Nat.le_of_ble_eq_true rfl) (Ci.mono h (fun x29 M28 h => ?_))
        obtain ⟨h30, hOM28, h⟩ := h
        refine wm_goto (tgt := 55) d_MM_loosest_51 rfl ?_
        exact h
    clear h
    refine wm_icmp_ne (tgt := 35) d_MM_loosest_25 rfl h18 ⟨by decide, by decide⟩ (fun c19 => ?_) (fun c19 => ?_)
    · refine wm_iload d_MM_loosest_35 rfl ?_
      refine wm_less (L' := [vr a0, vi l1, vi l2, vi l3, vi l4, vd, vi l6, vd]) ⟨Or.inr rfl, Or.inr rfl, Or.inr rfl, Or.inr rfl, Or.inr rfl, Or.inl rfl, Or.inr rfl, Or.inl rfl, trivial⟩ ?_
      exact hJ l5 (if_neg c19).symm
    · replace c19 := Classical.not_not.mp c19
      refine wm_iload d_MM_loosest_28 rfl ?_
      refine wm_iconst d_MM_loosest_30 ?_
      refine wm_isub d_MM_loosest_31 ?_
      refine wm_goto (tgt := 37) d_MM_loosest_32 rfl ?_
      refine wm_less (L' := [vr a0, vi l1, vi l2, vi l3, vi l4, vd, vi l6, vd]) ⟨Or.inr rfl, Or.inr rfl, Or.inr rfl, Or.inr rfl, Or.inr rfl, Or.inl rfl, Or.inr rfl, Or.inl rfl, trivial⟩ ?_
      exact hJ (l5 - 1) (if_pos c19).symm
theorem k_MM_loosest_55 {G : mG} {d : Nat} {a0 : Nat} {l1 : Int} {l2 : Int} {l3 : Int} {l4 : Int} {l5 : Int} {l6 : Int} {k0 : Int} {M : mM} {Q : Int → mM → Prop} (hO : mOk M) (hi_l1 : i32 l1) (hi_l2 : i32 l2) (hi_l3 : i32 l3) (hi_l4 : i32 l4) (hi_l5 : i32 l5) (hi_l6 : i32 l6) (hi_k0 : i32 k0)
    (h : ∀ v36 : Int, v36 = (if ((l4 < k0) ∨ ((¬ (k0 ≤ 0)) ∧ ((k0 = l4) ∧ (¬ (6 ≤ k0))))) then l6 else l3) → ∀ v37 : Int, v37 = (if ((l4 < k0) ∨ ((¬ (k0 ≤ 0)) ∧ ((k0 = l4) ∧ (¬ (6 ≤ k0))))) then k0 else l4) → mK M a0 = 14 ∧ Ci G y_MM_word1 d [vr a0, vi l6] M (fun x45 M44 => i32 x45 ∧ mOk M44 ∧ (∀ v48 : Int, v48 = (if (x45 = 36) then l5 + 1 else l5) → h_MM_loosest_11 G d a0 l1 l2 v36 v37 v48 (l6 + 1) M44 Q))) :
    h_MM_loosest_55 G d a0 l1 l2 l3 l4 l5 l6 k0 M Q := by
  unfold h_MM_loosest_55
  refine wm_istore d_MM_loosest_55 (by decide) (L' := [vr a0, vi l1, vi l2, vi l3, vi l4, vi l5, vi l6, vi k0]) rfl ?_
  refine wm_iload d_MM_loosest_57 rfl ?_
  refine wm_iload d_MM_loosest_59 rfl ?_
  have hJ : ∀ v36 : Int, v36 = (if ((l4 < k0) ∨ ((¬ (k0 ≤ 0)) ∧ ((k0 = l4) ∧ (¬ (6 ≤ k0))))) then l6 else l3) → ∀ v37 : Int, v37 = (if ((l4 < k0) ∨ ((¬ (k0 ≤ 0)) ∧ ((k0 = l4) ∧ (¬ (6 ≤ k0))))) then k0 else l4) → mWm G y_MM_loosest (d + 1) 90 [vr a0, vi l1, vi l2, vi v36, vi v37, vi l5, vi l6, vd] [] M (fun r9 M9 => ∃ x9, r9 = some (vi x9) ∧ Q x9 M9) := by
    intro v36 e39
    intro v37 e40
    have h := h v36 e39 v37 e40
    have h41 : i32 v36 := by rw [e39]; (repeat' split) <;> first | exact hi_l6 | exact hi_l3
    have h42 : i32 v37 := by rw [e40]; (repeat' split) <;> first | exact hi_k0 | exact hi_l4
    obtain ⟨h43, h⟩ := h
    refine wm_aload_n d_MM_loosest_90 rfl rfl ?_
    refine wm_iload d_MM_loosest_91 rfl ?_
    refine cf_MM_302 rfl d_MM_loosest_93 h43 (Nat.le_of_ble_eq_true rfl) (Ci.mono h (fun x45 M44 h => ?_))
    obtain ⟨h46, hOM44, h⟩ := h
    refine wm_bipush d_MM_loosest_96 (by decide) ?_
    have hJ : ∀ v48 : Int, v48 = (if (x45 = 36) then l5 + 1 else l5) → mWm G y_MM_loosest (d + 1) 110 [vr a0, vi l1, vi l2, vi v36, vi v37, vd, vi l6, vd] [vi v48] M44 (fun r9 M9 => ∃ x9, r9 = some (vi x9) ∧ Q x9 M9) := by
      intro v48 e50
      have h := h v48 e50
      refine wm_istore d_MM_loosest_110 (by decide) (L' := [vr a0, vi l1, vi l2, vi v36, vi v37, vi v48, vi l6, vd]) rfl ?_
      refine wm_iinc d_MM_loosest_112 (by decide) rfl (L' := [vr a0, vi l1, vi l2, vi v36, vi v37, vi v48, vi (l6 + 1), vd]) rfl ?_
      refine wm_goto (tgt := 11) d_MM_loosest_115 rfl ?_
      exact h
    clear h
    refine wm_icmp_ne (tgt := 108) d_MM_loosest_98 rfl h46 ⟨by decide, by decide⟩ (fun c47 => ?_) (fun c47 => ?_)
    · refine wm_iload d_MM_loosest_108 rfl ?_
      refine wm_less (L' := [vr a0, vi l1, vi l2, vi v36, vi v37, vd, vi l6, vd]) ⟨Or.inr rfl, Or.inr rfl, Or.inr rfl, Or.inr rfl, Or.inr rfl, Or.inl rfl, Or.inr rfl, Or.inl rfl, trivial⟩ ?_
      exact hJ l5 (if_neg c47).symm
    · replace c47 := Classical.not_not.mp c47
      refine wm_iload d_MM_loosest_101 rfl ?_
      refine wm_iconst d_MM_loosest_103 ?_
      refine wm_iadd d_MM_loosest_104 ?_
      refine wm_goto (tgt := 110) d_MM_loosest_105 rfl ?_
      refine wm_less (L' := [vr a0, vi l1, vi l2, vi v36, vi v37, vd, vi l6, vd]) ⟨Or.inr rfl, Or.inr rfl, Or.inr rfl, Or.inr rfl, Or.inr rfl, Or.inl rfl, Or.inr rfl, Or.inl rfl, trivial⟩ ?_
      exact hJ (l5 + 1) (if_pos c47).symm
  clear h
  refine wm_icmp_gt (tgt := 83) d_MM_loosest_61 rfl hi_k0 hi_l4 (fun c32 => ?_) (fun c32 => ?_)
  · refine wm_iload d_MM_loosest_83 rfl ?_
    refine wm_istore d_MM_loosest_85 (by decide) (L' := [vr a0, vi l1, vi l2, vi l3, vi k0, vi l5, vi l6, vi k0]) rfl ?_
    refine wm_iload d_MM_loosest_87 rfl ?_
    refine wm_istore_n d_MM_loosest_89 rfl (by decide) (L' := [vr a0, vi l1, vi l2, vi l6, vi k0, vi l5, vi l6, vi k0]) rfl ?_
    refine wm_less (L' := [vr a0, vi l1, vi l2, vi l6, vi k0, vi l5, vi l6, vd]) ⟨Or.inr rfl, Or.inr rfl, Or.inr rfl, Or.inr rfl, Or.inr rfl, Or.inr rfl, Or.inr rfl, Or.inl rfl, trivial⟩ ?_
    exact hJ l6 (if_pos (Or.inl c32)).symm k0 (if_pos (Or.inl c32)).symm
  · refine wm_iload d_MM_loosest_64 rfl ?_
    refine wm_if_le (tgt := 90) d_MM_loosest_66 rfl hi_k0 (fun c33 => ?_) (fun c33 => ?_)
    · refine wm_less (L' := [vr a0, vi l1, vi l2, vi l3, vi l4, vi l5, vi l6, vd]) ⟨Or.inr rfl, Or.inr rfl, Or.inr rfl, Or.inr rfl, Or.inr rfl, Or.inr rfl, Or.inr rfl, Or.inl rfl, trivial⟩ ?_
      exact hJ l3 (if_neg (fun z52 => Or.elim z52 c32 (fun z53 => z53.1 c33))).symm l4 (if_neg (fun z54 => Or.elim z54 c32 (fun z55 => z55.1 c33))).symm
    · refine wm_iload d_MM_loosest_69 rfl ?_
      refine wm_iload d_MM_loosest_71 rfl ?_
      refine wm_icmp_ne (tgt := 90) d_MM_loosest_73 rfl hi_k0 hi_l4 (fun c34 => ?_) (fun c34 => ?_)
      · refine wm_less (L' := [vr a0, vi l1, vi l2, vi l3, vi l4, vi l5, vi l6, vd]) ⟨Or.inr rfl, Or.inr rfl, Or.inr rfl, Or.inr rfl, Or.inr rfl, Or.inr rfl, Or.inr rfl, Or.inl rfl, trivial⟩ ?_
        exact hJ l3 (if_neg (fun z64 => Or.elim z64 c32 (fun z65 => (fun z66 => c34 z66.1) z65.2))).symm l4 (if_neg (fun z67 => Or.elim z67 c32 (fun z68 => (fun z69 => c34 z69.1) z68.2))).symm
      · replace c34 := Classical.not_not.mp c34
        refine wm_iload d_MM_loosest_76 rfl ?_
        refine wm_bipush d_MM_loosest_78 (by decide) ?_
        refine wm_icmp_ge (tgt := 90) d_MM_loosest_80 rfl hi_k0 ⟨by decide, by decide⟩ (fun c35 => ?_) (fun c35 => ?_)
        · refine wm_less (L' := [vr a0, vi l1, vi l2, vi l3, vi l4, vi l5, vi l6, vd]) ⟨Or.inr rfl, Or.inr rfl, Or.inr rfl, Or.inr rfl, Or.inr rfl, Or.inr rfl, Or.inr rfl, Or.inl rfl, trivial⟩ ?_
          exact hJ l3 (if_neg (fun z56 => Or.elim z56 c32 (fun z57 => (fun z58 => (fun z59 => z59 c35) z58.2) z57.2))).symm l4 (if_neg (fun z60 => Or.elim z60 c32 (fun z61 => (fun z62 => (fun z63 => z63 c35) z62.2) z61.2))).symm
        · refine wm_iload d_MM_loosest_83 rfl ?_
          refine wm_istore d_MM_loosest_85 (by decide) (L' := [vr a0, vi l1, vi l2, vi l3, vi k0, vi l5, vi l6, vi k0]) rfl ?_
          refine wm_iload d_MM_loosest_87 rfl ?_
          refine wm_istore_n d_MM_loosest_89 rfl (by decide) (L' := [vr a0, vi l1, vi l2, vi l6, vi k0, vi l5, vi l6, vi k0]) rfl ?_
          refine wm_less (L' := [vr a0, vi l1, vi l2, vi l6, vi k0, vi l5, vi l6, vd]) ⟨Or.inr rfl, Or.inr rfl, Or.inr rfl, Or.inr rfl, Or.inr rfl, Or.inr rfl, Or.inr rfl, Or.inl rfl, trivial⟩ ?_
          exact hJ l6 (if_pos (Or.inr ⟨c33, ⟨c34, c35⟩⟩)).symm k0 (if_pos (Or.inr ⟨c33, ⟨c34, c35⟩⟩)).symm
theorem d_MM_colonOf_0 : decode y_MM_colonOf.2.1 0 = .ok (.iconst 0, 1) := dc9_3 (by decide +kernel)
theorem d_MM_colonOf_1 : decode y_MM_colonOf.2.1 1 = .ok (.istore_n 3, 1) := dc9_62 (by decide +kernel)
theorem d_MM_colonOf_2 : decode y_MM_colonOf.2.1 2 = .ok (.iconst 0, 1) := dc9_3 (by decide +kernel)
theorem d_MM_colonOf_3 : decode y_MM_colonOf.2.1 3 = .ok (.istore 4, 2) := dc9_54 (by decide +kernel)
theorem d_MM_colonOf_5 : decode y_MM_colonOf.2.1 5 = .ok (.iload_n 1, 1) := dc9_27 (by decide +kernel)
theorem d_MM_colonOf_6 : decode y_MM_colonOf.2.1 6 = .ok (.istore 5, 2) := dc9_54 (by decide +kernel)
theorem d_MM_colonOf_8 : decode y_MM_colonOf.2.1 8 = .ok (.iconst 0, 1) := dc9_3 (by decide +kernel)
theorem d_MM_colonOf_9 : decode y_MM_colonOf.2.1 9 = .ok (.istore 6, 2) := dc9_54 (by decide +kernel)
theorem d_MM_colonOf_11 : decode y_MM_colonOf.2.1 11 = .ok (.iload 6, 2) := dc9_21 (by decide +kernel)
theorem d_MM_colonOf_13 : decode y_MM_colonOf.2.1 13 = .ok (.ifCond .ne 109, 3) := dc9_154 (by decide +kernel)
theorem d_MM_colonOf_16 : decode y_MM_colonOf.2.1 16 = .ok (.iinc 5 1, 3) := by decide +kernel
theorem d_MM_colonOf_19 : decode y_MM_colonOf.2.1 19 = .ok (.aload_n 0, 1) := dc9_42 (by decide +kernel)
theorem d_MM_colonOf_20 : decode y_MM_colonOf.2.1 20 = .ok (.iload 5, 2) := dc9_21 (by decide +kernel)
theorem d_MM_colonOf_122 : decode y_MM_colonOf.2.1 122 = .ok (.iload 5, 2) := dc9_21 (by decide +kernel)
theorem d_MM_colonOf_124 : decode y_MM_colonOf.2.1 124 = .ok (.ireturn, 1) := dc9_172 (by decide +kernel)
theorem d_MM_colonOf_22 : decode y_MM_colonOf.2.1 22 = .ok (.invokevirtual 302, 3) := dc9_182 (by decide +kernel)
theorem d_MM_colonOf_25 : decode y_MM_colonOf.2.1 25 = .ok (.istore 7, 2) := dc9_54 (by decide +kernel)
theorem d_MM_colonOf_27 : decode y_MM_colonOf.2.1 27 = .ok (.iload 7, 2) := dc9_21 (by decide +kernel)
theorem d_MM_colonOf_29 : decode y_MM_colonOf.2.1 29 = .ok (.bipush 36, 2) := dc9_16 (by decide +kernel)
theorem d_MM_colonOf_31 : decode y_MM_colonOf.2.1 31 = .ok (.if_icmp .ne 10, 3) := dc9_160 (by decide +kernel)
theorem d_MM_colonOf_34 : decode y_MM_colonOf.2.1 34 = .ok (.iload 4, 2) := dc9_21 (by decide +kernel)
theorem d_MM_colonOf_36 : decode y_MM_colonOf.2.1 36 = .ok (.iconst 1, 1) := dc9_4 (by decide +kernel)
theorem d_MM_colonOf_37 : decode y_MM_colonOf.2.1 37 = .ok (.iadd, 1) := dc9_96 (by decide +kernel)
theorem d_MM_colonOf_38 : decode y_MM_colonOf.2.1 38 = .ok (.goto 19, 3) := dc9_167 (by decide +kernel)
theorem d_MM_colonOf_41 : decode y_MM_colonOf.2.1 41 = .ok (.iload 7, 2) := dc9_21 (by decide +kernel)
theorem d_MM_colonOf_43 : decode y_MM_colonOf.2.1 43 = .ok (.bipush 37, 2) := dc9_16 (by decide +kernel)
theorem d_MM_colonOf_45 : decode y_MM_colonOf.2.1 45 = .ok (.if_icmp .ne 10, 3) := dc9_160 (by decide +kernel)
theorem d_MM_colonOf_48 : decode y_MM_colonOf.2.1 48 = .ok (.iload 4, 2) := dc9_21 (by decide +kernel)
theorem d_MM_colonOf_50 : decode y_MM_colonOf.2.1 50 = .ok (.iconst 1, 1) := dc9_4 (by decide +kernel)
theorem d_MM_colonOf_51 : decode y_MM_colonOf.2.1 51 = .ok (.isub, 1) := dc9_100 (by decide +kernel)
theorem d_MM_colonOf_52 : decode y_MM_colonOf.2.1 52 = .ok (.goto 5, 3) := dc9_167 (by decide +kernel)
theorem d_MM_colonOf_55 : decode y_MM_colonOf.2.1 55 = .ok (.iload 4, 2) := dc9_21 (by decide +kernel)
theorem d_MM_colonOf_57 : decode y_MM_colonOf.2.1 57 = .ok (.istore 4, 2) := dc9_54 (by decide +kernel)
theorem d_MM_colonOf_59 : decode y_MM_colonOf.2.1 59 = .ok (.iload 7, 2) := dc9_21 (by decide +kernel)
theorem d_MM_colonOf_61 : decode y_MM_colonOf.2.1 61 = .ok (.bipush 33, 2) := dc9_16 (by decide +kernel)
theorem d_MM_colonOf_63 : decode y_MM_colonOf.2.1 63 = .ok (.if_icmp .ne 16, 3) := dc9_160 (by decide +kernel)
theorem d_MM_colonOf_66 : decode y_MM_colonOf.2.1 66 = .ok (.iload 4, 2) := dc9_21 (by decide +kernel)
theorem d_MM_colonOf_68 : decode y_MM_colonOf.2.1 68 = .ok (.ifCond .ne 11, 3) := dc9_154 (by decide +kernel)
theorem d_MM_colonOf_71 : decode y_MM_colonOf.2.1 71 = .ok (.iload_n 3, 1) := dc9_29 (by decide +kernel)
theorem d_MM_colonOf_72 : decode y_MM_colonOf.2.1 72 = .ok (.ifCond .ne 7, 3) := dc9_154 (by decide +kernel)
theorem d_MM_colonOf_75 : decode y_MM_colonOf.2.1 75 = .ok (.iconst 1, 1) := dc9_4 (by decide +kernel)
theorem d_MM_colonOf_76 : decode y_MM_colonOf.2.1 76 = .ok (.goto 4, 3) := dc9_167 (by decide +kernel)
theorem d_MM_colonOf_79 : decode y_MM_colonOf.2.1 79 = .ok (.iconst 0, 1) := dc9_3 (by decide +kernel)
theorem d_MM_colonOf_80 : decode y_MM_colonOf.2.1 80 = .ok (.istore 6, 2) := dc9_54 (by decide +kernel)
theorem d_MM_colonOf_82 : decode y_MM_colonOf.2.1 82 = .ok (.iload 4, 2) := dc9_21 (by decide +kernel)
theorem d_MM_colonOf_84 : decode y_MM_colonOf.2.1 84 = .ok (.ifCond .le 7, 3) := dc9_158 (by decide +kernel)
theorem d_MM_colonOf_91 : decode y_MM_colonOf.2.1 91 = .ok (.iload 7, 2) := dc9_21 (by decide +kernel)
theorem d_MM_colonOf_93 : decode y_MM_colonOf.2.1 93 = .ok (.bipush 32, 2) := dc9_16 (by decide +kernel)
theorem d_MM_colonOf_95 : decode y_MM_colonOf.2.1 95 = .ok (.if_icmp .ne 9, 3) := dc9_160 (by decide +kernel)
theorem d_MM_colonOf_98 : decode y_MM_colonOf.2.1 98 = .ok (.iload_n 3, 1) := dc9_29 (by decide +kernel)
theorem d_MM_colonOf_99 : decode y_MM_colonOf.2.1 99 = .ok (.iconst 1, 1) := dc9_4 (by decide +kernel)
theorem d_MM_colonOf_100 : decode y_MM_colonOf.2.1 100 = .ok (.iadd, 1) := dc9_96 (by decide +kernel)
theorem d_MM_colonOf_101 : decode y_MM_colonOf.2.1 101 = .ok (.goto 17, 3) := dc9_167 (by decide +kernel)
theorem d_MM_colonOf_104 : decode y_MM_colonOf.2.1 104 = .ok (.iload 7, 2) := dc9_21 (by decide +kernel)
theorem d_MM_colonOf_106 : decode y_MM_colonOf.2.1 106 = .ok (.bipush 33, 2) := dc9_16 (by decide +kernel)
theorem d_MM_colonOf_108 : decode y_MM_colonOf.2.1 108 = .ok (.if_icmp .ne 9, 3) := dc9_160 (by decide +kernel)
theorem d_MM_colonOf_111 : decode y_MM_colonOf.2.1 111 = .ok (.iload_n 3, 1) := dc9_29 (by decide +kernel)
theorem d_MM_colonOf_112 : decode y_MM_colonOf.2.1 112 = .ok (.iconst 1, 1) := dc9_4 (by decide +kernel)
theorem d_MM_colonOf_113 : decode y_MM_colonOf.2.1 113 = .ok (.isub, 1) := dc9_100 (by decide +kernel)
theorem d_MM_colonOf_114 : decode y_MM_colonOf.2.1 114 = .ok (.goto 4, 3) := dc9_167 (by decide +kernel)
theorem d_MM_colonOf_117 : decode y_MM_colonOf.2.1 117 = .ok (.iload_n 3, 1) := dc9_29 (by decide +kernel)
theorem d_MM_colonOf_87 : decode y_MM_colonOf.2.1 87 = .ok (.iload_n 3, 1) := dc9_29 (by decide +kernel)
theorem d_MM_colonOf_88 : decode y_MM_colonOf.2.1 88 = .ok (.goto 30, 3) := dc9_167 (by decide +kernel)
theorem d_MM_colonOf_118 : decode y_MM_colonOf.2.1 118 = .ok (.istore_n 3, 1) := dc9_62 (by decide +kernel)
theorem d_MM_colonOf_119 : decode y_MM_colonOf.2.1 119 = .ok (.goto (-108), 3) := dc9_167 (by decide +kernel)
def h_MM_colonOf_11 (G : mG) (d : Nat) (a0 : Nat) (l3 : Int) (l4 : Int) (l5 : Int) (l6 : Int) (M : mM) (Q : Int → mM → Prop) : Prop := mWm G y_MM_colonOf (d + 1) 11 [vr a0, vd, vd, vi l3, vi l4, vi l5, vi l6, vd] [] M (fun r9 M9 => ∃ x9, r9 = some (vi x9) ∧ Q x9 M9)
theorem k_MM_colonOf {G : mG} {d : Nat} {a0 : Nat} {l1 : Int} {l2 : Int} {M : mM} {Q : Int → mM → Prop} (hO : mOk M) (hi_l1 : i32 l1) (hi_l2 : i32 l2)
    (h : h_MM_colonOf_11 G d a0 0 0 l1 0 M Q) :
    Ci G y_MM_colonOf (d + 1) [vr a0, vi l1, vi l2] M Q := by
  refine wm_open (y := y_MM_colonOf) rfl (Nat.le_of_ble_eq_true rfl) (L := [vr a0, vi l1, vi l2, vd, vd, vd, vd, vd]) rfl ?_
  refine wm_iconst d_MM_colonOf_0 ?_
  refine wm_istore_n d_MM_colonOf_1 rfl (by decide) (L' := [vr a0, vi l1, vi l2, vi 0, vd, vd, vd, vd]) rfl ?_
  refine wm_iconst d_MM_colonOf_2 ?_
  refine wm_istore d_MM_colonOf_3 (by decide) (L' := [vr a0, vi l1, vi l2, vi 0, vi 0, vd, vd, vd]) rfl ?_
  refine wm_iload_n d_MM_colonOf_5 rfl rfl ?_
  refine wm_istore d_MM_colonOf_6 (by decide) (L' := [vr a0, vi l1, vi l2, vi 0, vi 0, vi l1, vd, vd]) rfl ?_
  refine wm_iconst d_MM_colonOf_8 ?_
  refine wm_istore d_MM_colonOf_9 (by decide) (L' := [vr a0, vi l1, vi l2, vi 0, vi 0, vi l1, vi 0, vd]) rfl ?_
  refine wm_less (L' := [vr a0, vd, vd, vi 0, vi 0, vi l1, vi 0, vd]) ⟨Or.inr rfl, Or.inl rfl, Or.inl rfl, Or.inr rfl, Or.inr rfl, Or.inr rfl, Or.inr rfl, Or.inl rfl, trivial⟩ ?_
  exact h
theorem k_MM_colonOf_11 {G : mG} {d : Nat} {a0 : Nat} {l3 : Int} {l4 : Int} {l5 : Int} {l6 : Int} {M : mM} {Q : Int → mM → Prop} (hO : mOk M) (hi_l3 : i32 l3) (hi_l4 : i32 l4) (hi_l5 : i32 l5) (hi_l6 : i32 l6)
    (h : ((l6 = 0) → (mK M a0 = 14 ∧ Ci G y_MM_word1 d [vr a0, vi (l5 + 1)] M (fun x5 M4 => i32 x5 ∧ mOk M4 ∧ (∀ v9 : Int, v9 = (if x5 = 36 then l4 + 1 else (if x5 = 37 then l4 - 1 else l4)) → ((x5 = 33) → i32 v9) ∧ ∀ v16 : Int, v16 = (if ((x5 = 33) ∧ ((v9 = 0) ∧ (l3 = 0))) then 1 else 0) → i32 v9 ∧ ∀ v25 : Int, v25 = (if v9 ≤ 0 then (if x5 = 32 then l3 + 1 else (if x5 = 33 then l3 - 1 else l3)) else l3) → h_MM_colonOf_11 G d a0 v25 v9 (l5 + 1) v16 M4 Q)))) ∧ (¬ (l6 = 0) → (Q l5 M))) :
    h_MM_colonOf_11 G d a0 l3 l4 l5 l6 M Q := by
  unfold h_MM_colonOf_11
  refine wm_iload d_MM_colonOf_11 rfl ?_
  refine wm_if_ne (tgt := 122) d_MM_colonOf_13 rfl hi_l6 (fun c2 => ?_) (fun c2 => ?_)
  · replace h := h.2 c2
    refine wm_iload d_MM_colonOf_122 rfl ?_
    refine wm_ireturn d_MM_colonOf_124 rfl rfl ?_
    exact ⟨_, rfl, h⟩
  · replace c2 := Classical.not_not.mp c2
    replace h := h.1 c2
    obtain ⟨h3, h⟩ := h
    refine wm_iinc d_MM_colonOf_16 (by decide) rfl (L' := [vr a0, vd, vd, vi l3, vi l4, vi (l5 + 1), vi l6, vd]) rfl ?_
    refine wm_aload_n d_MM_colonOf_19 rfl rfl ?_
    refine wm_iload d_MM_colonOf_20 rfl ?_
    refine cf_MM_302 rfl d_MM_colonOf_22 h3 (Nat.le_of_ble_eq_true rfl) (Ci.mono h (fun x5 M4 h => ?_))
    obtain ⟨h6, hOM4, h⟩ := h
    refine wm_istore d_MM_colonOf_25 (by decide) (L' := [vr a0, vd, vd, vi l3, vi l4, vi (l5 + 1), vi l6, vi x5]) rfl ?_
    refine wm_iload d_MM_colonOf_27 rfl ?_
    refine wm_bipush d_MM_colonOf_29 (by decide) ?_
    have hJ : ∀ v9 : Int, v9 = (if x5 = 36 then l4 + 1 else (if x5 = 37 then l4 - 1 else l4)) → mWm G y_MM_colonOf (d + 1) 57 [vr a0, vd, vd, vi l3, vd, vi (l5 + 1), vd, vi x5] [vi v9] M4 (fun r9 M9 => ∃ x9, r9 = some (vi x9) ∧ Q x9 M9) := by
      intro v9 e11
      have h := h v9 e11
      refine wm_istore d_MM_colonOf_57 (by decide) (L' := [vr a0, vd, vd, vi l3, vi v9, vi (l5 + 1), vd, vi x5]) rfl ?_
      refine wm_iload d_MM_colonOf_59 rfl ?_
      refine wm_bipush d_MM_colonOf_61 (by decide) ?_
      obtain ⟨s17, h⟩ := h
      have hJ : ∀ v16 : Int, v16 = (if ((x5 = 33) ∧ ((v9 = 0) ∧ (l3 = 0))) then 1 else 0) → mWm G y_MM_colonOf (d + 1) 80 [vr a0, vd, vd, vi l3, vi v9, vi (l5 + 1), vd, vi x5] [vi v16] M4 (fun r9 M9 => ∃ x9, r9 = some (vi x9) ∧ Q x9 M9) := by
        intro v16 e18
        have h := h v16 e18
        have h19 : i32 v16 := by rw [e18]; (repeat' split) <;> first | exact ⟨by decide, by decide⟩ | exact ⟨by decide, by decide⟩
        have h20 : (v16 = 0 ∨ v16 = 1) := by rw [e18]; (repeat' split) <;> decide
        obtain ⟨h21, h⟩ := h
        refine wm_istore d_MM_colonOf_80 (by decide) (L' := [vr a0, vd, vd, vi l3, vi v9, vi (l5 + 1), vi v16, vi x5]) rfl ?_
        refine wm_iload d_MM_colonOf_82 rfl ?_
        have hJ : ∀ v25 : Int, v25 = (if v9 ≤ 0 then (if x5 = 32 then l3 + 1 else (if x5 = 33 then l3 - 1 else l3)) else l3) → mWm G y_MM_colonOf (d + 1) 118 [vr a0, vd, vd, vd, vi v9, vi (l5 + 1), vi v16, vd] [vi v25] M4 (fun r9 M9 => ∃ x9, r9 = some (vi x9) ∧ Q x9 M9) := by
          intro v25 e27
          have h := h v25 e27
          refine wm_istore_n d_MM_colonOf_118 rfl (by decide) (L' := [vr a0, vd, vd, vi v25, vi v9, vi (l5 + 1), vi v16, vd]) rfl ?_
          refine wm_goto (tgt := 11) d_MM_colonOf_119 rfl ?_
          exact h
        clear h
        refine wm_if_le (tgt := 91) d_MM_colonOf_84 rfl h21 (fun c22 => ?_) (fun c22 => ?_)
        · refine wm_iload d_MM_colonOf_91 rfl ?_
          refine wm_bipush d_MM_colonOf_93 (by decide) ?_
          refine wm_icmp_ne (tgt := 104) d_MM_colonOf_95 rfl h6 ⟨by decide, by decide⟩ (fun c23 => ?_) (fun c23 => ?_)
          · refine wm_iload d_MM_colonOf_104 rfl ?_
            refine wm_bipush d_MM_colonOf_106 (by decide) ?_
            refine wm_icmp_ne (tgt := 117) d_MM_colonOf_108 rfl h6 ⟨by decide, by decide⟩ (fun c24 => ?_) (fun c24 => ?_)
            · refine wm_iload_n d_MM_colonOf_117 rfl rfl ?_
              refine wm_less (L' := [vr a0, vd, vd, vd, vi v9, vi (l5 + 1), vi v16, vd]) ⟨Or.inr rfl, Or.inl rfl, Or.inl rfl, Or.inl rfl, Or.inr rfl, Or.inr rfl, Or.inr rfl, Or.inl rfl, trivial⟩ ?_
              exact hJ l3 (by rw [if_pos c22, if_neg c23, if_neg c24])
            · replace c24 := Classical.not_not.mp c24
              refine wm_iload_n d_MM_colonOf_111 rfl rfl ?_
              refine wm_iconst d_MM_colonOf_112 ?_
              refine wm_isub d_MM_colonOf_113 ?_
              refine wm_goto (tgt := 118) d_MM_colonOf_114 rfl ?_
              refine wm_less (L' := [vr a0, vd, vd, vd, vi v9, vi (l5 + 1), vi v16, vd]) ⟨Or.inr rfl, Or.inl rfl, Or.inl rfl, Or.inl rfl, Or.inr rfl, Or.inr rfl, Or.inr rfl, Or.inl rfl, trivial⟩ ?_
              exact hJ (l3 - 1) (by rw [if_pos c22, if_neg c23, if_pos c24])
          · replace c23 := Classical.not_not.mp c23
            refine wm_iload_n d_MM_colonOf_98 rfl rfl ?_
            refine wm_iconst d_MM_colonOf_99 ?_
            refine wm_iadd d_MM_colonOf_100 ?_
            refine wm_goto (tgt := 118) d_MM_colonOf_101 rfl ?_
            refine wm_less (L' := [vr a0, vd, vd, vd, vi v9, vi (l5 + 1), vi v16, vd]) ⟨Or.inr rfl, Or.inl rfl, Or.inl rfl, Or.inl rfl, Or.inr rfl, Or.inr rfl, Or.inr rfl, Or.inl rfl, trivial⟩ ?_
            exact hJ (l3 + 1) (by rw [if_pos c22, if_pos c23])
        · refine wm_iload_n d_MM_colonOf_87 rfl rfl ?_
          refine wm_goto (tgt := 118) d_MM_colonOf_88 rfl ?_
          refine wm_less (L' := [vr a0, vd, vd, vd, vi v9, vi (l5 + 1), vi v16, vd]) ⟨Or.inr rfl, Or.inl rfl, Or.inl rfl, Or.inl rfl, Or.inr rfl, Or.inr rfl, Or.inr rfl, Or.inl rfl, trivial⟩ ?_
          exact hJ l3 (by rw [if_neg c22])
      clear h
      have s28 := s17
      refine wm_icmp_ne (tgt := 79) d_MM_colonOf_63 rfl h6 ⟨by decide, by decide⟩ (fun c12 => ?_) (fun c12 => ?_)
      · refine wm_iconst d_MM_colonOf_79 ?_
        exact hJ 0 (if_neg (fun z34 => c12 z34.1)).symm
      · replace c12 := Classical.not_not.mp c12
        have s28 := s28 c12
        have h13 := s28
        refine wm_iload d_MM_colonOf_66 rfl ?_
        refine wm_if_ne (tgt := 79) d_MM_colonOf_68 rfl h13 (fun c14 => ?_) (fun c14 => ?_)
        · refine wm_iconst d_MM_colonOf_79 ?_
          exact hJ 0 (if_neg (fun z32 => (fun z33 => c14 z33.1) z32.2)).symm
        · replace c14 := Classical.not_not.mp c14
          refine wm_iload_n d_MM_colonOf_71 rfl rfl ?_
          refine wm_if_ne (tgt := 79) d_MM_colonOf_72 rfl hi_l3 (fun c15 => ?_) (fun c15 => ?_)
          · refine wm_iconst d_MM_colonOf_79 ?_
            exact hJ 0 (if_neg (fun z29 => (fun z30 => c15 z30.2) z29.2)).symm
          · replace c15 := Classical.not_not.mp c15
            refine wm_iconst d_MM_colonOf_75 ?_
            refine wm_goto (tgt := 80) d_MM_colonOf_76 rfl ?_
            exact hJ 1 (if_pos ⟨c12, ⟨c14, c15⟩⟩).symm
    clear h
    refine wm_icmp_ne (tgt := 41) d_MM_colonOf_31 rfl h6 ⟨by decide, by decide⟩ (fun c7 => ?_) (fun c7 => ?_)
    · refine wm_iload d_MM_colonOf_41 rfl ?_
      refine wm_bipush d_MM_colonOf_43 (by decide) ?_
      refine wm_icmp_ne (tgt := 55) d_MM_colonOf_45 rfl h6 ⟨by decide, by decide⟩ (fun c8 => ?_) (fun c8 => ?_)
      · refine wm_iload d_MM_colonOf_55 rfl ?_
        refine wm_less (L' := [vr a0, vd, vd, vi l3, vd, vi (l5 + 1), vd, vi x5]) ⟨Or.inr rfl, Or.inl rfl, Or.inl rfl, Or.inr rfl, Or.inl rfl, Or.inr rfl, Or.inl rfl, Or.inr rfl, trivial⟩ ?_
        exact hJ l4 (by rw [if_neg c7, if_neg c8])
      · replace c8 := Classical.not_not.mp c8
        refine wm_iload d_MM_colonOf_48 rfl ?_
        refine wm_iconst d_MM_colonOf_50 ?_
        refine wm_isub d_MM_colonOf_51 ?_
        refine wm_goto (tgt := 57) d_MM_colonOf_52 rfl ?_
        refine wm_less (L' := [vr a0, vd, vd, vi l3, vd, vi (l5 + 1), vd, vi x5]) ⟨Or.inr rfl, Or.inl rfl, Or.inl rfl, Or.inr rfl, Or.inl rfl, Or.inr rfl, Or.inl rfl, Or.inr rfl, trivial⟩ ?_
        exact hJ (l4 - 1) (by rw [if_neg c7, if_pos c8])
    · replace c7 := Classical.not_not.mp c7
      refine wm_iload d_MM_colonOf_34 rfl ?_
      refine wm_iconst d_MM_colonOf_36 ?_
      refine wm_iadd d_MM_colonOf_37 ?_
      refine wm_goto (tgt := 57) d_MM_colonOf_38 rfl ?_
      refine wm_less (L' := [vr a0, vd, vd, vi l3, vd, vi (l5 + 1), vd, vi x5]) ⟨Or.inr rfl, Or.inl rfl, Or.inl rfl, Or.inr rfl, Or.inl rfl, Or.inr rfl, Or.inl rfl, Or.inr rfl, trivial⟩ ?_
      exact hJ (l4 + 1) (by rw [if_pos c7])
theorem d_MM_part_0 : decode y_MM_part.2.1 0 = .ok (.aload_n 0, 1) := dc9_42 (by decide +kernel)
theorem d_MM_part_1 : decode y_MM_part.2.1 1 = .ok (.iload_n 2, 1) := dc9_28 (by decide +kernel)
theorem d_MM_part_2 : decode y_MM_part.2.1 2 = .ok (.iload_n 3, 1) := dc9_29 (by decide +kernel)
theorem d_MM_part_3 : decode y_MM_part.2.1 3 = .ok (.invokevirtual 310, 3) := dc9_182 (by decide +kernel)
theorem d_MM_part_6 : decode y_MM_part.2.1 6 = .ok (.istore 4, 2) := dc9_54 (by decide +kernel)
theorem d_MM_part_8 : decode y_MM_part.2.1 8 = .ok (.iload 4, 2) := dc9_21 (by decide +kernel)
theorem d_MM_part_10 : decode y_MM_part.2.1 10 = .ok (.ifCond .lt 99, 3) := dc9_155 (by decide +kernel)
theorem d_MM_part_109 : decode y_MM_part.2.1 109 = .ok (.aload_n 0, 1) := dc9_42 (by decide +kernel)
theorem d_MM_part_110 : decode y_MM_part.2.1 110 = .ok (.iload_n 2, 1) := dc9_28 (by decide +kernel)
theorem d_MM_part_13 : decode y_MM_part.2.1 13 = .ok (.aload_n 0, 1) := dc9_42 (by decide +kernel)
theorem d_MM_part_14 : decode y_MM_part.2.1 14 = .ok (.aload_n 0, 1) := dc9_42 (by decide +kernel)
theorem d_MM_part_15 : decode y_MM_part.2.1 15 = .ok (.iload 4, 2) := dc9_21 (by decide +kernel)
theorem d_MM_part_111 : decode y_MM_part.2.1 111 = .ok (.invokevirtual 302, 3) := dc9_182 (by decide +kernel)
theorem d_MM_part_114 : decode y_MM_part.2.1 114 = .ok (.istore 5, 2) := dc9_54 (by decide +kernel)
theorem d_MM_part_116 : decode y_MM_part.2.1 116 = .ok (.iload 5, 2) := dc9_21 (by decide +kernel)
theorem d_MM_part_118 : decode y_MM_part.2.1 118 = .ok (.bipush 36, 2) := dc9_16 (by decide +kernel)
theorem d_MM_part_120 : decode y_MM_part.2.1 120 = .ok (.if_icmp .ne 15, 3) := dc9_160 (by decide +kernel)
theorem d_MM_part_123 : decode y_MM_part.2.1 123 = .ok (.aload_n 0, 1) := dc9_42 (by decide +kernel)
theorem d_MM_part_124 : decode y_MM_part.2.1 124 = .ok (.iload_n 1, 1) := dc9_27 (by decide +kernel)
theorem d_MM_part_125 : decode y_MM_part.2.1 125 = .ok (.iload_n 2, 1) := dc9_28 (by decide +kernel)
theorem d_MM_part_126 : decode y_MM_part.2.1 126 = .ok (.iconst 1, 1) := dc9_4 (by decide +kernel)
theorem d_MM_part_127 : decode y_MM_part.2.1 127 = .ok (.iadd, 1) := dc9_96 (by decide +kernel)
theorem d_MM_part_128 : decode y_MM_part.2.1 128 = .ok (.iload_n 3, 1) := dc9_29 (by decide +kernel)
theorem d_MM_part_129 : decode y_MM_part.2.1 129 = .ok (.iconst 1, 1) := dc9_4 (by decide +kernel)
theorem d_MM_part_130 : decode y_MM_part.2.1 130 = .ok (.isub, 1) := dc9_100 (by decide +kernel)
theorem d_MM_part_135 : decode y_MM_part.2.1 135 = .ok (.aload_n 0, 1) := dc9_42 (by decide +kernel)
theorem d_MM_part_136 : decode y_MM_part.2.1 136 = .ok (.iload 5, 2) := dc9_21 (by decide +kernel)
theorem d_MM_part_138 : decode y_MM_part.2.1 138 = .ok (.bipush 25, 2) := dc9_16 (by decide +kernel)
theorem d_MM_part_131 : decode y_MM_part.2.1 131 = .ok (.invokevirtual 296, 3) := dc9_182 (by decide +kernel)
theorem d_MM_part_134 : decode y_MM_part.2.1 134 = .ok (.return_, 1) := dc9_177 (by decide +kernel)
theorem d_MM_part_140 : decode y_MM_part.2.1 140 = .ok (.if_icmp .ne 8, 3) := dc9_160 (by decide +kernel)
theorem d_MM_part_143 : decode y_MM_part.2.1 143 = .ok (.bipush 45, 2) := dc9_16 (by decide +kernel)
theorem d_MM_part_145 : decode y_MM_part.2.1 145 = .ok (.goto 5, 3) := dc9_167 (by decide +kernel)
theorem d_MM_part_148 : decode y_MM_part.2.1 148 = .ok (.iload 5, 2) := dc9_21 (by decide +kernel)
theorem d_MM_part_150 : decode y_MM_part.2.1 150 = .ok (.iload_n 2, 1) := dc9_28 (by decide +kernel)
theorem d_MM_part_151 : decode y_MM_part.2.1 151 = .ok (.iload_n 2, 1) := dc9_28 (by decide +kernel)
theorem d_MM_part_152 : decode y_MM_part.2.1 152 = .ok (.invokevirtual 313, 3) := dc9_182 (by decide +kernel)
theorem d_MM_part_155 : decode y_MM_part.2.1 155 = .ok (.istore 6, 2) := dc9_54 (by decide +kernel)
theorem d_MM_part_157 : decode y_MM_part.2.1 157 = .ok (.aload_n 0, 1) := dc9_42 (by decide +kernel)
theorem d_MM_part_158 : decode y_MM_part.2.1 158 = .ok (.iload_n 1, 1) := dc9_27 (by decide +kernel)
theorem d_MM_part_159 : decode y_MM_part.2.1 159 = .ok (.iload 6, 2) := dc9_21 (by decide +kernel)
theorem d_MM_part_161 : decode y_MM_part.2.1 161 = .ok (.invokevirtual 317, 3) := dc9_182 (by decide +kernel)
theorem d_MM_part_164 : decode y_MM_part.2.1 164 = .ok (.iload 5, 2) := dc9_21 (by decide +kernel)
theorem d_MM_part_166 : decode y_MM_part.2.1 166 = .ok (.bipush 25, 2) := dc9_16 (by decide +kernel)
theorem d_MM_part_168 : decode y_MM_part.2.1 168 = .ok (.if_icmp .eq 10, 3) := dc9_159 (by decide +kernel)
theorem d_MM_part_171 : decode y_MM_part.2.1 171 = .ok (.iload 5, 2) := dc9_21 (by decide +kernel)
theorem d_MM_part_173 : decode y_MM_part.2.1 173 = .ok (.bipush 31, 2) := dc9_16 (by decide +kernel)
theorem d_MM_part_175 : decode y_MM_part.2.1 175 = .ok (.if_icmp .ne 16, 3) := dc9_160 (by decide +kernel)
theorem d_MM_part_191 : decode y_MM_part.2.1 191 = .ok (.iload 5, 2) := dc9_21 (by decide +kernel)
theorem d_MM_part_193 : decode y_MM_part.2.1 193 = .ok (.iconst 2, 1) := dc9_5 (by decide +kernel)
theorem d_MM_part_194 : decode y_MM_part.2.1 194 = .ok (.if_icmp .ne 24, 3) := dc9_160 (by decide +kernel)
theorem d_MM_part_197 : decode y_MM_part.2.1 197 = .ok (.aload_n 0, 1) := dc9_42 (by decide +kernel)
theorem d_MM_part_198 : decode y_MM_part.2.1 198 = .ok (.getfield 38, 3) := dc9_180 (by decide +kernel)
theorem d_MM_part_201 : decode y_MM_part.2.1 201 = .ok (.getfield 284, 3) := dc9_180 (by decide +kernel)
theorem d_MM_part_204 : decode y_MM_part.2.1 204 = .ok (.getfield 293, 3) := dc9_180 (by decide +kernel)
theorem d_MM_part_207 : decode y_MM_part.2.1 207 = .ok (.iload 6, 2) := dc9_21 (by decide +kernel)
theorem d_MM_part_209 : decode y_MM_part.2.1 209 = .ok (.aload_n 0, 1) := dc9_42 (by decide +kernel)
theorem d_MM_part_210 : decode y_MM_part.2.1 210 = .ok (.iload_n 2, 1) := dc9_28 (by decide +kernel)
theorem d_MM_part_218 : decode y_MM_part.2.1 218 = .ok (.iload 5, 2) := dc9_21 (by decide +kernel)
theorem d_MM_part_220 : decode y_MM_part.2.1 220 = .ok (.iconst 1, 1) := dc9_4 (by decide +kernel)
theorem d_MM_part_221 : decode y_MM_part.2.1 221 = .ok (.if_icmp .ne 20, 3) := dc9_160 (by decide +kernel)
theorem d_MM_part_224 : decode y_MM_part.2.1 224 = .ok (.aload_n 0, 1) := dc9_42 (by decide +kernel)
theorem d_MM_part_225 : decode y_MM_part.2.1 225 = .ok (.getfield 38, 3) := dc9_180 (by decide +kernel)
theorem d_MM_part_228 : decode y_MM_part.2.1 228 = .ok (.getfield 284, 3) := dc9_180 (by decide +kernel)
theorem d_MM_part_231 : decode y_MM_part.2.1 231 = .ok (.getfield 293, 3) := dc9_180 (by decide +kernel)
theorem d_MM_part_234 : decode y_MM_part.2.1 234 = .ok (.iload 6, 2) := dc9_21 (by decide +kernel)
theorem d_MM_part_236 : decode y_MM_part.2.1 236 = .ok (.iload_n 2, 1) := dc9_28 (by decide +kernel)
theorem d_MM_part_237 : decode y_MM_part.2.1 237 = .ok (.iastore, 1) := dc9_79 (by decide +kernel)
theorem d_MM_part_238 : decode y_MM_part.2.1 238 = .ok (.goto 29, 3) := dc9_167 (by decide +kernel)
theorem d_MM_part_241 : decode y_MM_part.2.1 241 = .ok (.iload 5, 2) := dc9_21 (by decide +kernel)
theorem d_MM_part_243 : decode y_MM_part.2.1 243 = .ok (.bipush 14, 2) := dc9_16 (by decide +kernel)
theorem d_MM_part_245 : decode y_MM_part.2.1 245 = .ok (.if_icmp .eq 10, 3) := dc9_159 (by decide +kernel)
theorem d_MM_part_248 : decode y_MM_part.2.1 248 = .ok (.iload 5, 2) := dc9_21 (by decide +kernel)
theorem d_MM_part_250 : decode y_MM_part.2.1 250 = .ok (.bipush 15, 2) := dc9_16 (by decide +kernel)
theorem d_MM_part_252 : decode y_MM_part.2.1 252 = .ok (.if_icmp .ne 15, 3) := dc9_160 (by decide +kernel)
theorem d_MM_part_178 : decode y_MM_part.2.1 178 = .ok (.aload_n 0, 1) := dc9_42 (by decide +kernel)
theorem d_MM_part_179 : decode y_MM_part.2.1 179 = .ok (.iload 6, 2) := dc9_21 (by decide +kernel)
theorem d_MM_part_181 : decode y_MM_part.2.1 181 = .ok (.iload_n 2, 1) := dc9_28 (by decide +kernel)
theorem d_MM_part_182 : decode y_MM_part.2.1 182 = .ok (.iconst 1, 1) := dc9_4 (by decide +kernel)
theorem d_MM_part_183 : decode y_MM_part.2.1 183 = .ok (.iadd, 1) := dc9_96 (by decide +kernel)
theorem d_MM_part_184 : decode y_MM_part.2.1 184 = .ok (.iload_n 3, 1) := dc9_29 (by decide +kernel)
theorem d_MM_part_185 : decode y_MM_part.2.1 185 = .ok (.invokevirtual 296, 3) := dc9_182 (by decide +kernel)
theorem d_MM_part_188 : decode y_MM_part.2.1 188 = .ok (.goto 79, 3) := dc9_167 (by decide +kernel)
theorem d_MM_part_211 : decode y_MM_part.2.1 211 = .ok (.invokevirtual 324, 3) := dc9_182 (by decide +kernel)
theorem d_MM_part_214 : decode y_MM_part.2.1 214 = .ok (.iastore, 1) := dc9_79 (by decide +kernel)
theorem d_MM_part_215 : decode y_MM_part.2.1 215 = .ok (.goto 52, 3) := dc9_167 (by decide +kernel)
theorem d_MM_part_255 : decode y_MM_part.2.1 255 = .ok (.aload_n 0, 1) := dc9_42 (by decide +kernel)
theorem d_MM_part_256 : decode y_MM_part.2.1 256 = .ok (.iload 6, 2) := dc9_21 (by decide +kernel)
theorem d_MM_part_258 : decode y_MM_part.2.1 258 = .ok (.iload_n 2, 1) := dc9_28 (by decide +kernel)
theorem d_MM_part_259 : decode y_MM_part.2.1 259 = .ok (.iconst 2, 1) := dc9_5 (by decide +kernel)
theorem d_MM_part_260 : decode y_MM_part.2.1 260 = .ok (.iadd, 1) := dc9_96 (by decide +kernel)
theorem d_MM_part_261 : decode y_MM_part.2.1 261 = .ok (.iload_n 3, 1) := dc9_29 (by decide +kernel)
theorem d_MM_part_262 : decode y_MM_part.2.1 262 = .ok (.iconst 1, 1) := dc9_4 (by decide +kernel)
theorem d_MM_part_263 : decode y_MM_part.2.1 263 = .ok (.isub, 1) := dc9_100 (by decide +kernel)
theorem d_MM_part_264 : decode y_MM_part.2.1 264 = .ok (.invokevirtual 327, 3) := dc9_182 (by decide +kernel)
theorem d_MM_part_17 : decode y_MM_part.2.1 17 = .ok (.invokevirtual 302, 3) := dc9_182 (by decide +kernel)
theorem d_MM_part_20 : decode y_MM_part.2.1 20 = .ok (.iload 4, 2) := dc9_21 (by decide +kernel)
theorem d_MM_part_22 : decode y_MM_part.2.1 22 = .ok (.iload_n 2, 1) := dc9_28 (by decide +kernel)
theorem d_MM_part_23 : decode y_MM_part.2.1 23 = .ok (.invokevirtual 313, 3) := dc9_182 (by decide +kernel)
theorem d_MM_part_26 : decode y_MM_part.2.1 26 = .ok (.istore 5, 2) := dc9_54 (by decide +kernel)
theorem d_MM_part_28 : decode y_MM_part.2.1 28 = .ok (.aload_n 0, 1) := dc9_42 (by decide +kernel)
theorem d_MM_part_29 : decode y_MM_part.2.1 29 = .ok (.iload_n 1, 1) := dc9_27 (by decide +kernel)
theorem d_MM_part_30 : decode y_MM_part.2.1 30 = .ok (.iload 5, 2) := dc9_21 (by decide +kernel)
theorem d_MM_part_32 : decode y_MM_part.2.1 32 = .ok (.invokevirtual 317, 3) := dc9_182 (by decide +kernel)
theorem d_MM_part_35 : decode y_MM_part.2.1 35 = .ok (.aload_n 0, 1) := dc9_42 (by decide +kernel)
theorem d_MM_part_36 : decode y_MM_part.2.1 36 = .ok (.iload 4, 2) := dc9_21 (by decide +kernel)
theorem d_MM_part_38 : decode y_MM_part.2.1 38 = .ok (.invokevirtual 302, 3) := dc9_182 (by decide +kernel)
theorem d_MM_part_41 : decode y_MM_part.2.1 41 = .ok (.bipush 32, 2) := dc9_16 (by decide +kernel)
theorem d_MM_part_43 : decode y_MM_part.2.1 43 = .ok (.if_icmp .eq 24, 3) := dc9_159 (by decide +kernel)
theorem d_MM_part_67 : decode y_MM_part.2.1 67 = .ok (.aload_n 0, 1) := dc9_42 (by decide +kernel)
theorem d_MM_part_68 : decode y_MM_part.2.1 68 = .ok (.iload 4, 2) := dc9_21 (by decide +kernel)
theorem d_MM_part_70 : decode y_MM_part.2.1 70 = .ok (.iload_n 3, 1) := dc9_29 (by decide +kernel)
theorem d_MM_part_46 : decode y_MM_part.2.1 46 = .ok (.aload_n 0, 1) := dc9_42 (by decide +kernel)
theorem d_MM_part_47 : decode y_MM_part.2.1 47 = .ok (.iload 5, 2) := dc9_21 (by decide +kernel)
theorem d_MM_part_49 : decode y_MM_part.2.1 49 = .ok (.iload 4, 2) := dc9_21 (by decide +kernel)
theorem d_MM_part_51 : decode y_MM_part.2.1 51 = .ok (.iconst 1, 1) := dc9_4 (by decide +kernel)
theorem d_MM_part_52 : decode y_MM_part.2.1 52 = .ok (.iadd, 1) := dc9_96 (by decide +kernel)
theorem d_MM_part_53 : decode y_MM_part.2.1 53 = .ok (.iload_n 3, 1) := dc9_29 (by decide +kernel)
theorem d_MM_part_71 : decode y_MM_part.2.1 71 = .ok (.invokevirtual 321, 3) := dc9_182 (by decide +kernel)
theorem d_MM_part_74 : decode y_MM_part.2.1 74 = .ok (.istore 6, 2) := dc9_54 (by decide +kernel)
theorem d_MM_part_76 : decode y_MM_part.2.1 76 = .ok (.aload_n 0, 1) := dc9_42 (by decide +kernel)
theorem d_MM_part_77 : decode y_MM_part.2.1 77 = .ok (.iload 5, 2) := dc9_21 (by decide +kernel)
theorem d_MM_part_79 : decode y_MM_part.2.1 79 = .ok (.iload 6, 2) := dc9_21 (by decide +kernel)
theorem d_MM_part_81 : decode y_MM_part.2.1 81 = .ok (.iconst 1, 1) := dc9_4 (by decide +kernel)
theorem d_MM_part_82 : decode y_MM_part.2.1 82 = .ok (.iadd, 1) := dc9_96 (by decide +kernel)
theorem d_MM_part_83 : decode y_MM_part.2.1 83 = .ok (.iload_n 3, 1) := dc9_29 (by decide +kernel)
theorem d_MM_part_84 : decode y_MM_part.2.1 84 = .ok (.invokevirtual 296, 3) := dc9_182 (by decide +kernel)
theorem d_MM_part_87 : decode y_MM_part.2.1 87 = .ok (.aload_n 0, 1) := dc9_42 (by decide +kernel)
theorem d_MM_part_88 : decode y_MM_part.2.1 88 = .ok (.iload 5, 2) := dc9_21 (by decide +kernel)
theorem d_MM_part_90 : decode y_MM_part.2.1 90 = .ok (.iload 4, 2) := dc9_21 (by decide +kernel)
theorem d_MM_part_92 : decode y_MM_part.2.1 92 = .ok (.iconst 1, 1) := dc9_4 (by decide +kernel)
theorem d_MM_part_93 : decode y_MM_part.2.1 93 = .ok (.iadd, 1) := dc9_96 (by decide +kernel)
theorem d_MM_part_94 : decode y_MM_part.2.1 94 = .ok (.iload 6, 2) := dc9_21 (by decide +kernel)
theorem d_MM_part_96 : decode y_MM_part.2.1 96 = .ok (.invokevirtual 296, 3) := dc9_182 (by decide +kernel)
theorem d_MM_part_99 : decode y_MM_part.2.1 99 = .ok (.aload_n 0, 1) := dc9_42 (by decide +kernel)
theorem d_MM_part_100 : decode y_MM_part.2.1 100 = .ok (.iload 5, 2) := dc9_21 (by decide +kernel)
theorem d_MM_part_102 : decode y_MM_part.2.1 102 = .ok (.iload_n 2, 1) := dc9_28 (by decide +kernel)
theorem d_MM_part_103 : decode y_MM_part.2.1 103 = .ok (.iload 4, 2) := dc9_21 (by decide +kernel)
theorem d_MM_part_105 : decode y_MM_part.2.1 105 = .ok (.invokevirtual 296, 3) := dc9_182 (by decide +kernel)
theorem d_MM_part_108 : decode y_MM_part.2.1 108 = .ok (.return_, 1) := dc9_177 (by decide +kernel)
theorem d_MM_part_54 : decode y_MM_part.2.1 54 = .ok (.invokevirtual 296, 3) := dc9_182 (by decide +kernel)
theorem d_MM_part_57 : decode y_MM_part.2.1 57 = .ok (.aload_n 0, 1) := dc9_42 (by decide +kernel)
theorem d_MM_part_58 : decode y_MM_part.2.1 58 = .ok (.iload 5, 2) := dc9_21 (by decide +kernel)
theorem d_MM_part_60 : decode y_MM_part.2.1 60 = .ok (.iload_n 2, 1) := dc9_28 (by decide +kernel)
theorem d_MM_part_61 : decode y_MM_part.2.1 61 = .ok (.iload 4, 2) := dc9_21 (by decide +kernel)
theorem d_MM_part_63 : decode y_MM_part.2.1 63 = .ok (.invokevirtual 296, 3) := dc9_182 (by decide +kernel)
theorem d_MM_part_66 : decode y_MM_part.2.1 66 = .ok (.return_, 1) := dc9_177 (by decide +kernel)
theorem d_MM_part_267 : decode y_MM_part.2.1 267 = .ok (.return_, 1) := dc9_177 (by decide +kernel)
def h_MM_part_267 (G : mG) (d : Nat) (M : mM) (Q : mM → Prop) : Prop := mWm G y_MM_part (d + 1) 267 [vd, vd, vd, vd, vd, vd, vd] [] M (fun r9 M9 => r9 = none ∧ Q M9)
theorem k_MM_part {G : mG} {d : Nat} {a0 : Nat} {l1 : Int} {l2 : Int} {l3 : Int} {M : mM} {Q : mM → Prop} (hO : mOk M) (hi_l1 : i32 l1) (hi_l2 : i32 l2) (hi_l3 : i32 l3)
    (h : mK M a0 = 14 ∧ Ci G y_MM_loosest d [vr a0, vi l2, vi l3] M (fun x3 M2 => i32 x3 ∧ mOk M2 ∧ (((x3 < 0) → (mK M2 a0 = 14 ∧ Ci G y_MM_word1 d [vr a0, vi l2] M2 (fun x9 M8 => i32 x9 ∧ mOk M8 ∧ (((x9 = 36) → (mK M8 a0 = 14 ∧ Cv G y_MM_job d [vr a0, vi l1, vi (l2 + 1), vi (l3 - 1)] M8 (fun M14 => mOk M14 ∧ (Q M14)))) ∧ (¬ (x9 = 36) → (∀ v18 : Int, v18 = (if (x9 = 25) then 45 else x9) → mK M8 a0 = 14 ∧ Ci G y_MM_node d [vr a0, vi v18, vi l2, vi l2] M8 (fun x24 M23 => i32 x24 ∧ mOk M23 ∧ (mK M23 a0 = 14 ∧ Cv G y_MM_join d [vr a0, vi l1, vi x24] M23 (fun M27 => mOk M27 ∧ ((((x9 = 25) ∨ (x9 = 31)) → (mK M27 a0 = 14 ∧ Cv G y_MM_job d [vr a0, vi x24, vi (l2 + 1), vi l3] M27 (fun M44 => mOk M44 ∧ (h_MM_part_267 G d  M44 Q)))) ∧ (¬ ((x9 = 25) ∨ (x9 = 31)) → (((x9 = 2) → (mK M27 a0 = 14 ∧ mK M27 (mR M27 a0 10) = 16 ∧ mK M27 (mR M27 (mR M27 a0 10) 3) = 15 ∧ Ci G y_MM_numberOf d [vr a0, vi l2] M27 (fun x62 M61 => i32 x62 ∧ mOk M61 ∧ (mK M61 (mR M27 (mR M27 (mR M27 a0 10) 3) 0) = 30 ∧ ((0 : Int) ≤ x24 ∧ x24 < (mN M61 (mR M27 (mR M27 (mR M27 a0 10) 3) 0) : Int)) ∧ ∀ M66, M66 = mUI M61 (mR M27 (mR M27 (mR M27 a0 10) 3) 0) (Int.toNat x24) x62 → h_MM_part_267 G d  M66 Q)))) ∧ (¬ (x9 = 2) → (((x9 = 1) → (mK M27 a0 = 14 ∧ mK M27 (mR M27 a0 10) = 16 ∧ mK M27 (mR M27 (mR M27 a0 10) 3) = 15 ∧ mK M27 (mR M27 (mR M27 (mR M27 a0 10) 3) 0) = 30 ∧ ((0 : Int) ≤ x24 ∧ x24 < (mN M27 (mR M27 (mR M27 (mR M27 a0 10) 3) 0) : Int)) ∧ ∀ M82, M82 = mUI M27 (mR M27 (mR M27 (mR M27 a0 10) 3) 0) (Int.toNat x24) l2 → h_MM_part_267 G d  M82 Q)) ∧ (¬ (x9 = 1) → ((((x9 = 14) ∨ (x9 = 15)) → (mK M27 a0 = 14 ∧ Cv G y_MM_list d [vr a0, vi x24, vi (l2 + 2), vi (l3 - 1)] M27 (fun M89 => mOk M89 ∧ (h_MM_part_267 G d  M89 Q)))) ∧ (¬ ((x9 = 14) ∨ (x9 = 15)) → (h_MM_part_267 G d  M27 Q)))))))))))))))))) ∧ (¬ (x3 < 0) → (mK M2 a0 = 14 ∧ Ci G y_MM_word1 d [vr a0, vi x3] M2 (fun x100 M99 => i32 x100 ∧ mOk M99 ∧ (mK M99 a0 = 14 ∧ Ci G y_MM_node d [vr a0, vi x100, vi x3, vi l2] M99 (fun x104 M103 => i32 x104 ∧ mOk M103 ∧ (mK M103 a0 = 14 ∧ Cv G y_MM_join d [vr a0, vi l1, vi x104] M103 (fun M107 => mOk M107 ∧ (mK M107 a0 = 14 ∧ Ci G y_MM_word1 d [vr a0, vi x3] M107 (fun x112 M111 => i32 x112 ∧ mOk M111 ∧ (((x112 = 32) → (mK M111 a0 = 14 ∧ Ci G y_MM_colonOf d [vr a0, vi x3, vi l3] M111 (fun x118 M117 => i32 x118 ∧ mOk M117 ∧ (mK M117 a0 = 14 ∧ Cv G y_MM_job d [vr a0, vi x104, vi (x118 + 1), vi l3] M117 (fun M121 => mOk M121 ∧ (mK M121 a0 = 14 ∧ Cv G y_MM_job d [vr a0, vi x104, vi (x3 + 1), vi x118] M121 (fun M125 => mOk M125 ∧ (mK M125 a0 = 14 ∧ Cv G y_MM_job d [vr a0, vi x104, vi l2, vi x3] M125 (fun M129 => mOk M129 ∧ (Q M129)))))))))) ∧ (¬ (x112 = 32) → (mK M111 a0 = 14 ∧ Cv G y_MM_job d [vr a0, vi x104, vi (x3 + 1), vi l3] M111 (fun M133 => mOk M133 ∧ (mK M133 a0 = 14 ∧ Cv G y_MM_job d [vr a0, vi x104, vi l2, vi x3] M133 (fun M137 => mOk M137 ∧ (Q M137))))))))))))))))))) :
    Cv G y_MM_part (d + 1) [vr a0, vi l1, vi l2, vi l3] M Q := by
  refine wm_open (y := y_MM_part) rfl (Nat.le_of_ble_eq_true rfl) (L := [vr a0, vi l1, vi l2, vi l3, vd, vd, vd]) rfl ?_
  obtain ⟨h1, h⟩ := h
  refine wm_aload_n d_MM_part_0 rfl rfl ?_
  refine wm_iload_n d_MM_part_1 rfl rfl ?_
  refine wm_iload_n d_MM_part_2 rfl rfl ?_
  refine cf_MM_310 rfl d_MM_part_3 h1 (Nat.le_of_ble_eq_true rfl) (Ci.mono h (fun x3 M2 h => ?_))
  obtain ⟨h4, hOM2, h⟩ := h
  refine wm_istore d_MM_part_6 (by decide) (L' := [vr a0, vi l1, vi l2, vi l3, vi x3, vd, vd]) rfl ?_
  refine wm_iload d_MM_part_8 rfl ?_
  refine wm_if_lt (tgt := 109) d_MM_part_10 rfl h4 (fun c6 => ?_) (fun c6 => ?_)
  · replace h := h.1 c6
    obtain ⟨h7, h⟩ := h
    refine wm_aload_n d_MM_part_109 rfl rfl ?_
    refine wm_iload_n d_MM_part_110 rfl rfl ?_
    refine cf_MM_302 rfl d_MM_part_111 h7 (Nat.le_of_ble_eq_true rfl) (Ci.mono h (fun x9 M8 h => ?_))
    obtain ⟨h10, hOM8, h⟩ := h
    refine wm_istore d_MM_part_114 (by decide) (L' := [vr a0, vi l1, vi l2, vi l3, vi x3, vi x9, vd]) rfl ?_
    refine wm_iload d_MM_part_116 rfl ?_
    refine wm_bipush d_MM_part_118 (by decide) ?_
    refine wm_icmp_ne (tgt := 135) d_MM_part_120 rfl h10 ⟨by decide, by decide⟩ (fun c12 => ?_) (fun c12 => ?_)
    · replace h := h.2 c12
      refine wm_aload_n d_MM_part_135 rfl rfl ?_
      refine wm_iload d_MM_part_136 rfl ?_
      refine wm_bipush d_MM_part_138 (by decide) ?_
      have hJ : ∀ v18 : Int, v18 = (if (x9 = 25) then 45 else x9) → mWm G y_MM_part (d + 1) 150 [vr a0, vi l1, vi l2, vi l3, vd, vi x9, vd] [vi v18, vr a0] M8 (fun r9 M9 => r9 = none ∧ Q M9) := by
        intro v18 e20
        have h := h v18 e20
        have h21 : i32 v18 := by rw [e20]; (repeat' split) <;> first | exact ⟨by decide, by decide⟩ | exact h10
        obtain ⟨h22, h⟩ := h
        refine wm_iload_n d_MM_part_150 rfl rfl ?_
        refine wm_iload_n d_MM_part_151 rfl rfl ?_
        refine cf_MM_313 rfl d_MM_part_152 h22 (Nat.le_of_ble_eq_true rfl) (Ci.mono h (fun x24 M23 h => ?_))
        obtain ⟨h25, hOM23, h⟩ := h
        obtain ⟨h26, h⟩ := h
        refine wm_istore d_MM_part_155 (by decide) (L' := [vr a0, vi l1, vi l2, vi l3, vd, vi x9, vi x24]) rfl ?_
        refine wm_aload_n d_MM_part_157 rfl rfl ?_
        refine wm_iload_n d_MM_part_158 rfl rfl ?_
        refine wm_iload d_MM_part_159 rfl ?_
        refine cf_MM_317 rfl d_MM_part_161 h26 (Nat.le_of_ble_eq_true rfl) (Cv.mono h (fun M27 h => ?_))
        obtain ⟨hOM27, h⟩ := h
        refine wm_iload d_MM_part_164 rfl ?_
        refine wm_bipush d_MM_part_166 (by decide) ?_
        have hE0 : ((x9 = 25) ∨ (x9 = 31)) → mWm G y_MM_part (d + 1) 178 [vr a0, vi l1, vi l2, vi l3, vd, vi x9, vi x24] [] M27 (fun r9 M9 => r9 = none ∧ Q M9) := by
          intro q42
          have h := h.1 q42
          obtain ⟨h43, h⟩ := h
          refine wm_aload_n d_MM_part_178 rfl rfl ?_
          refine wm_iload d_MM_part_179 rfl ?_
          refine wm_iload_n d_MM_part_181 rfl rfl ?_
          refine wm_iconst d_MM_part_182 ?_
          refine wm_iadd d_MM_part_183 ?_
          refine wm_iload_n d_MM_part_184 rfl rfl ?_
          refine cf_MM_296 rfl d_MM_part_185 h43 (Nat.le_of_ble_eq_true rfl) (Cv.mono h (fun M44 h => ?_))
          obtain ⟨hOM44, h⟩ := h
          refine wm_goto (tgt := 267) d_MM_part_188 rfl ?_
          refine wm_less (L' := [vd, vd, vd, vd, vd, vd, vd]) ⟨Or.inl rfl, Or.inl rfl, Or.inl rfl, Or.inl rfl, Or.inl rfl, Or.inl rfl, Or.inl rfl, trivial⟩ ?_
          exact h
        have hE1 : ¬ ((x9 = 25) ∨ (x9 = 31)) → mWm G y_MM_part (d + 1) 191 [vr a0, vi l1, vi l2, vi l3, vd, vi x9, vi x24] [] M27 (fun r9 M9 => r9 = none ∧ Q M9) := by
          intro q47
          have h := h.2 q47
          refine wm_iload d_MM_part_191 rfl ?_
          refine wm_iconst d_MM_part_193 ?_
          refine wm_icmp_ne (tgt := 218) d_MM_part_194 rfl h10 ⟨by decide, by decide⟩ (fun c57 => ?_) (fun c57 => ?_)
          · replace h := h.2 c57
            refine wm_iload d_MM_part_218 rfl ?_
            refine wm_iconst d_MM_part_220 ?_
            refine wm_icmp_ne (tgt := 241) d_MM_part_221 rfl h10 ⟨by decide, by decide⟩ (fun c76 => ?_) (fun c76 => ?_)
            · replace h := h.2 c76
              refine wm_iload d_MM_part_241 rfl ?_
              refine wm_bipush d_MM_part_243 (by decide) ?_
              have hE0 : ((x9 = 14) ∨ (x9 = 15)) → mWm G y_MM_part (d + 1) 255 [vr a0, vi l1, vi l2, vi l3, vd, vi x9, vi x24] [] M27 (fun r9 M9 => r9 = none ∧ Q M9) := by
                intro q87
                have h := h.1 q87
                obtain ⟨h88, h⟩ := h
                refine wm_aload_n d_MM_part_255 rfl rfl ?_
                refine wm_iload d_MM_part_256 rfl ?_
                refine wm_iload_n d_MM_part_258 rfl rfl ?_
                refine wm_iconst d_MM_part_259 ?_
                refine wm_iadd d_MM_part_260 ?_
                refine wm_iload_n d_MM_part_261 rfl rfl ?_
                refine wm_iconst d_MM_part_262 ?_
                refine wm_isub d_MM_part_263 ?_
                refine cf_MM_327 rfl d_MM_part_264 h88 (Nat.le_of_ble_eq_true rfl) (Cv.mono h (fun M89 h => ?_))
                obtain ⟨hOM89, h⟩ := h
                refine wm_less (L' := [vd, vd, vd, vd, vd, vd, vd]) ⟨Or.inl rfl, Or.inl rfl, Or.inl rfl, Or.inl rfl, Or.inl rfl, Or.inl rfl, Or.inl rfl, trivial⟩ ?_
                exact h
              have hE1 : ¬ ((x9 = 14) ∨ (x9 = 15)) → mWm G y_MM_part (d + 1) 267 [vr a0, vi l1, vi l2, vi l3, vd, vi x9, vi x24] [] M27 (fun r9 M9 => r9 = none ∧ Q M9) := by
                intro q92
                have h := h.2 q92
                refine wm_less (L' := [vd, vd, vd, vd, vd, vd, vd]) ⟨Or.inl rfl, Or.inl rfl, Or.inl rfl, Or.inl rfl, Or.inl rfl, Or.inl rfl, Or.inl rfl, trivial⟩ ?_
                exact h
              clear h
              refine wm_icmp_eq (tgt := 255) d_MM_part_245 rfl h10 ⟨by decide, by decide⟩ (fun c85 => ?_) (fun c85 => ?_)
              · exact hE0 (Or.inl c85)
              · refine wm_iload d_MM_part_248 rfl ?_
                refine wm_bipush d_MM_part_250 (by decide) ?_
                refine wm_icmp_ne (tgt := 267) d_MM_part_252 rfl h10 ⟨by decide, by decide⟩ (fun c84 => ?_) (fun c84 => ?_)
                · exact hE1 (fun z93 => Or.elim z93 c85 c84)
                · replace c84 := Classical.not_not.mp c84
                  exact hE0 (Or.inr c84)
            · replace c76 := Classical.not_not.mp c76
              replace h := h.1 c76
              obtain ⟨h77, h⟩ := h
              obtain ⟨h78, h⟩ := h
              obtain ⟨h79, h⟩ := h
              obtain ⟨h80, h⟩ := h
              obtain ⟨h81, h⟩ := h
              obtain ⟨M82, e83⟩ : ∃ M82, M82 = mUI M27 (mR M27 (mR M27 (mR M27 a0 10) 3) 0) (Int.toNat x24) l2 := ⟨_, rfl⟩
              replace h := h M82 e83
              refine wm_aload_n d_MM_part_224 rfl rfl ?_
              refine gf_MM_38 rfl d_MM_part_225 h77 ?_
              refine gf_MM_284 rfl d_MM_part_228 h78 ?_
              refine gf_MM_293 rfl d_MM_part_231 h79 ?_
              refine wm_iload d_MM_part_234 rfl ?_
              refine wm_iload_n d_MM_part_236 rfl rfl ?_
              have hOM82 : mOk M82 := by rw [e83]; exact mOk_UI hOM27 hi_l2
              refine wm_iastE d_MM_part_237 h80 h81 hi_l2 e83 ?_
              refine wm_goto (tgt := 267) d_MM_part_238 rfl ?_
              refine wm_less (L' := [vd, vd, vd, vd, vd, vd, vd]) ⟨Or.inl rfl, Or.inl rfl, Or.inl rfl, Or.inl rfl, Or.inl rfl, Or.inl rfl, Or.inl rfl, trivial⟩ ?_
              exact h
          · replace c57 := Classical.not_not.mp c57
            replace h := h.1 c57
            obtain ⟨h58, h⟩ := h
            obtain ⟨h59, h⟩ := h
            obtain ⟨h60, h⟩ := h
            refine wm_aload_n d_MM_part_197 rfl rfl ?_
            refine gf_MM_38 rfl d_MM_part_198 h58 ?_
            refine gf_MM_284 rfl d_MM_part_201 h59 ?_
            refine gf_MM_293 rfl d_MM_part_204 h60 ?_
            refine wm_iload d_MM_part_207 rfl ?_
            refine wm_aload_n d_MM_part_209 rfl rfl ?_
            refine wm_iload_n d_MM_part_210 rfl rfl ?_
            refine cf_MM_324 rfl d_MM_part_211 h58 (Nat.le_of_ble_eq_true rfl) (Ci.mono h (fun x62 M61 h => ?_))
            obtain ⟨h63, hOM61, h⟩ := h
            obtain ⟨h64, h⟩ := h
            obtain ⟨h65, h⟩ := h
            obtain ⟨M66, e67⟩ : ∃ M66, M66 = mUI M61 (mR M27 (mR M27 (mR M27 a0 10) 3) 0) (Int.toNat x24) x62 := ⟨_, rfl⟩
            replace h := h M66 e67
            have hOM66 : mOk M66 := by rw [e67]; exact mOk_UI hOM61 h63
            refine wm_iastE d_MM_part_214 h64 h65 h63 e67 ?_
            refine wm_goto (tgt := 267) d_MM_part_215 rfl ?_
            refine wm_less (L' := [vd, vd, vd, vd, vd, vd, vd]) ⟨Or.inl rfl, Or.inl rfl, Or.inl rfl, Or.inl rfl, Or.inl rfl, Or.inl rfl, Or.inl rfl, trivial⟩ ?_
            exact h
        clear h
        refine wm_icmp_eq (tgt := 178) d_MM_part_168 rfl h10 ⟨by decide, by decide⟩ (fun c40 => ?_) (fun c40 => ?_)
        · exact hE0 (Or.inl c40)
        · refine wm_iload d_MM_part_171 rfl ?_
          refine wm_bipush d_MM_part_173 (by decide) ?_
          refine wm_icmp_ne (tgt := 191) d_MM_part_175 rfl h10 ⟨by decide, by decide⟩ (fun c39 => ?_) (fun c39 => ?_)
          · exact hE1 (fun z95 => Or.elim z95 c40 c39)
          · replace c39 := Classical.not_not.mp c39
            exact hE0 (Or.inr c39)
      clear h
      refine wm_icmp_ne (tgt := 148) d_MM_part_140 rfl h10 ⟨by decide, by decide⟩ (fun c17 => ?_) (fun c17 => ?_)
      · refine wm_iload d_MM_part_148 rfl ?_
        refine wm_less (L' := [vr a0, vi l1, vi l2, vi l3, vd, vi x9, vd]) ⟨Or.inr rfl, Or.inr rfl, Or.inr rfl, Or.inr rfl, Or.inl rfl, Or.inr rfl, Or.inl rfl, trivial⟩ ?_
        exact hJ x9 (if_neg c17).symm
      · replace c17 := Classical.not_not.mp c17
        refine wm_bipush d_MM_part_143 (by decide) ?_
        refine wm_goto (tgt := 150) d_MM_part_145 rfl ?_
        refine wm_less (L' := [vr a0, vi l1, vi l2, vi l3, vd, vi x9, vd]) ⟨Or.inr rfl, Or.inr rfl, Or.inr rfl, Or.inr rfl, Or.inl rfl, Or.inr rfl, Or.inl rfl, trivial⟩ ?_
        exact hJ 45 (if_pos c17).symm
    · replace c12 := Classical.not_not.mp c12
      replace h := h.1 c12
      obtain ⟨h13, h⟩ := h
      refine wm_aload_n d_MM_part_123 rfl rfl ?_
      refine wm_iload_n d_MM_part_124 rfl rfl ?_
      refine wm_iload_n d_MM_part_125 rfl rfl ?_
      refine wm_iconst d_MM_part_126 ?_
      refine wm_iadd d_MM_part_127 ?_
      refine wm_iload_n d_MM_part_128 rfl rfl ?_
      refine wm_iconst d_MM_part_129 ?_
      refine wm_isub d_MM_part_130 ?_
      refine cf_MM_296 rfl d_MM_part_131 h13 (Nat.le_of_ble_eq_true rfl) (Cv.mono h (fun M14 h => ?_))
      obtain ⟨hOM14, h⟩ := h
      refine wm_return d_MM_part_134 rfl ?_
      exact ⟨rfl, h⟩
  · replace h := h.2 c6
    obtain ⟨h98, h⟩ := h
    refine wm_aload_n d_MM_part_13 rfl rfl ?_
    refine wm_aload_n d_MM_part_14 rfl rfl ?_
    refine wm_iload d_MM_part_15 rfl ?_
    refine cf_MM_302 rfl d_MM_part_17 h98 (Nat.le_of_ble_eq_true rfl) (Ci.mono h (fun x100 M99 h => ?_))
    obtain ⟨h101, hOM99, h⟩ := h
    obtain ⟨h102, h⟩ := h
    refine wm_iload d_MM_part_20 rfl ?_
    refine wm_iload_n d_MM_part_22 rfl rfl ?_
    refine cf_MM_313 rfl d_MM_part_23 h102 (Nat.le_of_ble_eq_true rfl) (Ci.mono h (fun x104 M103 h => ?_))
    obtain ⟨h105, hOM103, h⟩ := h
    obtain ⟨h106, h⟩ := h
    refine wm_istore d_MM_part_26 (by decide) (L' := [vr a0, vi l1, vi l2, vi l3, vi x3, vi x104, vd]) rfl ?_
    refine wm_aload_n d_MM_part_28 rfl rfl ?_
    refine wm_iload_n d_MM_part_29 rfl rfl ?_
    refine wm_iload d_MM_part_30 rfl ?_
    refine cf_MM_317 rfl d_MM_part_32 h106 (Nat.le_of_ble_eq_true rfl) (Cv.mono h (fun M107 h => ?_))
    obtain ⟨hOM107, h⟩ := h
    obtain ⟨h110, h⟩ := h
    refine wm_aload_n d_MM_part_35 rfl rfl ?_
    refine wm_iload d_MM_part_36 rfl ?_
    refine cf_MM_302 rfl d_MM_part_38 h110 (Nat.le_of_ble_eq_true rfl) (Ci.mono h (fun x112 M111 h => ?_))
    obtain ⟨h113, hOM111, h⟩ := h
    refine wm_bipush d_MM_part_41 (by decide) ?_
    refine wm_icmp_eq (tgt := 67) d_MM_part_43 rfl h113 ⟨by decide, by decide⟩ (fun c115 => ?_) (fun c115 => ?_)
    · replace h := h.1 c115
      obtain ⟨h116, h⟩ := h
      refine wm_aload_n d_MM_part_67 rfl rfl ?_
      refine wm_iload d_MM_part_68 rfl ?_
      refine wm_iload_n d_MM_part_70 rfl rfl ?_
      refine cf_MM_321 rfl d_MM_part_71 h116 (Nat.le_of_ble_eq_true rfl) (Ci.mono h (fun x118 M117 h => ?_))
      obtain ⟨h119, hOM117, h⟩ := h
      obtain ⟨h120, h⟩ := h
      refine wm_istore d_MM_part_74 (by decide) (L' := [vr a0, vi l1, vi l2, vi l3, vi x3, vi x104, vi x118]) rfl ?_
      refine wm_aload_n d_MM_part_76 rfl rfl ?_
      refine wm_iload d_MM_part_77 rfl ?_
      refine wm_iload d_MM_part_79 rfl ?_
      refine wm_iconst d_MM_part_81 ?_
      refine wm_iadd d_MM_part_82 ?_
      refine wm_iload_n d_MM_part_83 rfl rfl ?_
      refine cf_MM_296 rfl d_MM_part_84 h120 (Nat.le_of_ble_eq_true rfl) (Cv.mono h (fun M121 h => ?_))
      obtain ⟨hOM121, h⟩ := h
      obtain ⟨h124, h⟩ := h
      refine wm_aload_n d_MM_part_87 rfl rfl ?_
      refine wm_iload d_MM_part_88 rfl ?_
      refine wm_iload d_MM_part_90 rfl ?_
      refine wm_iconst d_MM_part_92 ?_
      refine wm_iadd d_MM_part_93 ?_
      refine wm_iload d_MM_part_94 rfl ?_
      refine cf_MM_296 rfl d_MM_part_96 h124 (Nat.le_of_ble_eq_true rfl) (Cv.mono h (fun M125 h => ?_))
      obtain ⟨hOM125, h⟩ := h
      obtain ⟨h128, h⟩ := h
      refine wm_aload_n d_MM_part_99 rfl rfl ?_
      refine wm_iload d_MM_part_100 rfl ?_
      refine wm_iload_n d_MM_part_102 rfl rfl ?_
      refine wm_iload d_MM_part_103 rfl ?_
      refine cf_MM_296 rfl d_MM_part_105 h128 (Nat.le_of_ble_eq_true rfl) (Cv.mono h (fun M129 h => ?_))
      obtain ⟨hOM129, h⟩ := h
      refine wm_return d_MM_part_108 rfl ?_
      exact ⟨rfl, h⟩
    · replace h := h.2 c115
      obtain ⟨h132, h⟩ := h
      refine wm_aload_n d_MM_part_46 rfl rfl ?_
      refine wm_iload d_MM_part_47 rfl ?_
      refine wm_iload d_MM_part_49 rfl ?_
      refine wm_iconst d_MM_part_51 ?_
      refine wm_iadd d_MM_part_52 ?_
      refine wm_iload_n d_MM_part_53 rfl rfl ?_
      refine cf_MM_296 rfl d_MM_part_54 h132 (Nat.le_of_ble_eq_true rfl) (Cv.mono h (fun M133 h => ?_))
      obtain ⟨hOM133, h⟩ := h
      obtain ⟨h136, h⟩ := h
      refine wm_aload_n d_MM_part_57 rfl rfl ?_
      refine wm_iload d_MM_part_58 rfl ?_
      refine wm_iload_n d_MM_part_60 rfl rfl ?_
      refine wm_iload d_MM_part_61 rfl ?_
      refine cf_MM_296 rfl d_MM_part_63 h136 (Nat.le_of_ble_eq_true rfl) (Cv.mono h (fun M137 h => ?_))
      obtain ⟨hOM137, h⟩ := h
      refine wm_return d_MM_part_66 rfl ?_
      exact ⟨rfl, h⟩
theorem k_MM_part_267 {G : mG} {d : Nat} {M : mM} {Q : mM → Prop} (hO : mOk M)
    (h : Q M) :
    h_MM_part_267 G d  M Q := by
  unfold h_MM_part_267
  refine wm_return d_MM_part_267 rfl ?_
  exact ⟨rfl, h⟩
theorem d_MM_list_0 : decode y_MM_list.2.1 0 = .ok (.iload_n 3, 1) := dc9_29 (by decide +kernel)
theorem d_MM_list_1 : decode y_MM_list.2.1 1 = .ok (.istore 4, 2) := dc9_54 (by decide +kernel)
theorem d_MM_list_3 : decode y_MM_list.2.1 3 = .ok (.iconst 0, 1) := dc9_3 (by decide +kernel)
theorem d_MM_list_4 : decode y_MM_list.2.1 4 = .ok (.istore 5, 2) := dc9_54 (by decide +kernel)
theorem d_MM_list_6 : decode y_MM_list.2.1 6 = .ok (.iload_n 3, 1) := dc9_29 (by decide +kernel)
theorem d_MM_list_7 : decode y_MM_list.2.1 7 = .ok (.iconst 1, 1) := dc9_4 (by decide +kernel)
theorem d_MM_list_8 : decode y_MM_list.2.1 8 = .ok (.isub, 1) := dc9_100 (by decide +kernel)
theorem d_MM_list_9 : decode y_MM_list.2.1 9 = .ok (.istore 6, 2) := dc9_54 (by decide +kernel)
theorem d_MM_list_11 : decode y_MM_list.2.1 11 = .ok (.iload 6, 2) := dc9_21 (by decide +kernel)
theorem d_MM_list_13 : decode y_MM_list.2.1 13 = .ok (.iload_n 2, 1) := dc9_28 (by decide +kernel)
theorem d_MM_list_14 : decode y_MM_list.2.1 14 = .ok (.iconst 1, 1) := dc9_4 (by decide +kernel)
theorem d_MM_list_15 : decode y_MM_list.2.1 15 = .ok (.isub, 1) := dc9_100 (by decide +kernel)
theorem d_MM_list_16 : decode y_MM_list.2.1 16 = .ok (.if_icmp .lt 87, 3) := dc9_161 (by decide +kernel)
theorem d_MM_list_103 : decode y_MM_list.2.1 103 = .ok (.return_, 1) := dc9_177 (by decide +kernel)
theorem d_MM_list_19 : decode y_MM_list.2.1 19 = .ok (.iload 6, 2) := dc9_21 (by decide +kernel)
theorem d_MM_list_21 : decode y_MM_list.2.1 21 = .ok (.iload_n 2, 1) := dc9_28 (by decide +kernel)
theorem d_MM_list_22 : decode y_MM_list.2.1 22 = .ok (.if_icmp .ge 8, 3) := dc9_162 (by decide +kernel)
theorem d_MM_list_30 : decode y_MM_list.2.1 30 = .ok (.aload_n 0, 1) := dc9_42 (by decide +kernel)
theorem d_MM_list_31 : decode y_MM_list.2.1 31 = .ok (.iload 6, 2) := dc9_21 (by decide +kernel)
theorem d_MM_list_25 : decode y_MM_list.2.1 25 = .ok (.bipush 35, 2) := dc9_16 (by decide +kernel)
theorem d_MM_list_27 : decode y_MM_list.2.1 27 = .ok (.goto 9, 3) := dc9_167 (by decide +kernel)
theorem d_MM_list_33 : decode y_MM_list.2.1 33 = .ok (.invokevirtual 302, 3) := dc9_182 (by decide +kernel)
theorem d_MM_list_36 : decode y_MM_list.2.1 36 = .ok (.istore 7, 2) := dc9_54 (by decide +kernel)
theorem d_MM_list_38 : decode y_MM_list.2.1 38 = .ok (.iload 7, 2) := dc9_21 (by decide +kernel)
theorem d_MM_list_40 : decode y_MM_list.2.1 40 = .ok (.bipush 37, 2) := dc9_16 (by decide +kernel)
theorem d_MM_list_42 : decode y_MM_list.2.1 42 = .ok (.if_icmp .ne 10, 3) := dc9_160 (by decide +kernel)
theorem d_MM_list_45 : decode y_MM_list.2.1 45 = .ok (.iload 5, 2) := dc9_21 (by decide +kernel)
theorem d_MM_list_47 : decode y_MM_list.2.1 47 = .ok (.iconst 1, 1) := dc9_4 (by decide +kernel)
theorem d_MM_list_48 : decode y_MM_list.2.1 48 = .ok (.iadd, 1) := dc9_96 (by decide +kernel)
theorem d_MM_list_49 : decode y_MM_list.2.1 49 = .ok (.goto 19, 3) := dc9_167 (by decide +kernel)
theorem d_MM_list_52 : decode y_MM_list.2.1 52 = .ok (.iload 7, 2) := dc9_21 (by decide +kernel)
theorem d_MM_list_54 : decode y_MM_list.2.1 54 = .ok (.bipush 36, 2) := dc9_16 (by decide +kernel)
theorem d_MM_list_56 : decode y_MM_list.2.1 56 = .ok (.if_icmp .ne 10, 3) := dc9_160 (by decide +kernel)
theorem d_MM_list_59 : decode y_MM_list.2.1 59 = .ok (.iload 5, 2) := dc9_21 (by decide +kernel)
theorem d_MM_list_61 : decode y_MM_list.2.1 61 = .ok (.iconst 1, 1) := dc9_4 (by decide +kernel)
theorem d_MM_list_62 : decode y_MM_list.2.1 62 = .ok (.isub, 1) := dc9_100 (by decide +kernel)
theorem d_MM_list_63 : decode y_MM_list.2.1 63 = .ok (.goto 5, 3) := dc9_167 (by decide +kernel)
theorem d_MM_list_66 : decode y_MM_list.2.1 66 = .ok (.iload 5, 2) := dc9_21 (by decide +kernel)
theorem d_MM_list_68 : decode y_MM_list.2.1 68 = .ok (.istore 5, 2) := dc9_54 (by decide +kernel)
theorem d_MM_list_70 : decode y_MM_list.2.1 70 = .ok (.iload 5, 2) := dc9_21 (by decide +kernel)
theorem d_MM_list_72 : decode y_MM_list.2.1 72 = .ok (.ifCond .ne 25, 3) := dc9_154 (by decide +kernel)
theorem d_MM_list_75 : decode y_MM_list.2.1 75 = .ok (.iload 7, 2) := dc9_21 (by decide +kernel)
theorem d_MM_list_77 : decode y_MM_list.2.1 77 = .ok (.bipush 35, 2) := dc9_16 (by decide +kernel)
theorem d_MM_list_79 : decode y_MM_list.2.1 79 = .ok (.if_icmp .ne 18, 3) := dc9_160 (by decide +kernel)
theorem d_MM_list_82 : decode y_MM_list.2.1 82 = .ok (.aload_n 0, 1) := dc9_42 (by decide +kernel)
theorem d_MM_list_83 : decode y_MM_list.2.1 83 = .ok (.iload_n 1, 1) := dc9_27 (by decide +kernel)
theorem d_MM_list_84 : decode y_MM_list.2.1 84 = .ok (.iload 6, 2) := dc9_21 (by decide +kernel)
theorem d_MM_list_86 : decode y_MM_list.2.1 86 = .ok (.iconst 1, 1) := dc9_4 (by decide +kernel)
theorem d_MM_list_87 : decode y_MM_list.2.1 87 = .ok (.iadd, 1) := dc9_96 (by decide +kernel)
theorem d_MM_list_88 : decode y_MM_list.2.1 88 = .ok (.iload 4, 2) := dc9_21 (by decide +kernel)
theorem d_MM_list_90 : decode y_MM_list.2.1 90 = .ok (.invokevirtual 296, 3) := dc9_182 (by decide +kernel)
theorem d_MM_list_93 : decode y_MM_list.2.1 93 = .ok (.iload 6, 2) := dc9_21 (by decide +kernel)
theorem d_MM_list_95 : decode y_MM_list.2.1 95 = .ok (.istore 4, 2) := dc9_54 (by decide +kernel)
theorem d_MM_list_97 : decode y_MM_list.2.1 97 = .ok (.iinc 6 (-1), 3) := by decide +kernel
theorem d_MM_list_100 : decode y_MM_list.2.1 100 = .ok (.goto (-89), 3) := dc9_167 (by decide +kernel)
def h_MM_list_11 (G : mG) (d : Nat) (a0 : Nat) (l1 : Int) (l2 : Int) (l4 : Int) (l5 : Int) (l6 : Int) (M : mM) (Q : mM → Prop) : Prop := mWm G y_MM_list (d + 1) 11 [vr a0, vi l1, vi l2, vd, vi l4, vi l5, vi l6, vd] [] M (fun r9 M9 => r9 = none ∧ Q M9)
def h_MM_list_36 (G : mG) (d : Nat) (a0 : Nat) (l1 : Int) (l2 : Int) (l4 : Int) (l5 : Int) (l6 : Int) (k0 : Int) (M : mM) (Q : mM → Prop) : Prop := mWm G y_MM_list (d + 1) 36 [vr a0, vi l1, vi l2, vd, vi l4, vi l5, vi l6, vd] [vi k0] M (fun r9 M9 => r9 = none ∧ Q M9)
theorem k_MM_list {G : mG} {d : Nat} {a0 : Nat} {l1 : Int} {l2 : Int} {l3 : Int} {M : mM} {Q : mM → Prop} (hO : mOk M) (hi_l1 : i32 l1) (hi_l2 : i32 l2) (hi_l3 : i32 l3)
    (h : h_MM_list_11 G d a0 l1 l2 l3 0 (l3 - 1) M Q) :
    Cv G y_MM_list (d + 1) [vr a0, vi l1, vi l2, vi l3] M Q := by
  refine wm_open (y := y_MM_list) rfl (Nat.le_of_ble_eq_true rfl) (L := [vr a0, vi l1, vi l2, vi l3, vd, vd, vd, vd]) rfl ?_
  refine wm_iload_n d_MM_list_0 rfl rfl ?_
  refine wm_istore d_MM_list_1 (by decide) (L' := [vr a0, vi l1, vi l2, vi l3, vi l3, vd, vd, vd]) rfl ?_
  refine wm_iconst d_MM_list_3 ?_
  refine wm_istore d_MM_list_4 (by decide) (L' := [vr a0, vi l1, vi l2, vi l3, vi l3, vi 0, vd, vd]) rfl ?_
  refine wm_iload_n d_MM_list_6 rfl rfl ?_
  refine wm_iconst d_MM_list_7 ?_
  refine wm_isub d_MM_list_8 ?_
  refine wm_istore d_MM_list_9 (by decide) (L' := [vr a0, vi l1, vi l2, vi l3, vi l3, vi 0, vi (l3 - 1), vd]) rfl ?_
  refine wm_less (L' := [vr a0, vi l1, vi l2, vd, vi l3, vi 0, vi (l3 - 1), vd]) ⟨Or.inr rfl, Or.inr rfl, Or.inr rfl, Or.inl rfl, Or.inr rfl, Or.inr rfl, Or.inr rfl, Or.inl rfl, trivial⟩ ?_
  exact h
theorem k_MM_list_11 {G : mG} {d : Nat} {a0 : Nat} {l1 : Int} {l2 : Int} {l4 : Int} {l5 : Int} {l6 : Int} {M : mM} {Q : mM → Prop} (hO : mOk M) (hi_l1 : i32 l1) (hi_l2 : i32 l2) (hi_l4 : i32 l4) (hi_l5 : i32 l5) (hi_l6 : i32 l6)
    (h : i32 (l2 - 1) ∧ ((l6 < l2 - 1) → (Q M)) ∧ (¬ (l6 < l2 - 1) → (((l2 ≤ l6) → (mK M a0 = 14 ∧ Ci G y_MM_word1 d [vr a0, vi l6] M (fun x10 M9 => i32 x10 ∧ mOk M9 ∧ (h_MM_list_36 G d a0 l1 l2 l4 l5 l6 x10 M9 Q)))) ∧ (¬ (l2 ≤ l6) → (h_MM_list_36 G d a0 l1 l2 l4 l5 l6 35 M Q))))) :
    h_MM_list_11 G d a0 l1 l2 l4 l5 l6 M Q := by
  unfold h_MM_list_11
  obtain ⟨h4, h⟩ := h
  refine wm_iload d_MM_list_11 rfl ?_
  refine wm_iload_n d_MM_list_13 rfl rfl ?_
  refine wm_iconst d_MM_list_14 ?_
  refine wm_isub d_MM_list_15 ?_
  refine wm_icmp_lt (tgt := 103) d_MM_list_16 rfl hi_l6 h4 (fun c5 => ?_) (fun c5 => ?_)
  · replace h := h.1 c5
    refine wm_return d_MM_list_103 rfl ?_
    exact ⟨rfl, h⟩
  · replace h := h.2 c5
    refine wm_iload d_MM_list_19 rfl ?_
    refine wm_iload_n d_MM_list_21 rfl rfl ?_
    refine wm_icmp_ge (tgt := 30) d_MM_list_22 rfl hi_l6 hi_l2 (fun c7 => ?_) (fun c7 => ?_)
    · replace h := h.1 c7
      obtain ⟨h8, h⟩ := h
      refine wm_aload_n d_MM_list_30 rfl rfl ?_
      refine wm_iload d_MM_list_31 rfl ?_
      refine cf_MM_302 rfl d_MM_list_33 h8 (Nat.le_of_ble_eq_true rfl) (Ci.mono h (fun x10 M9 h => ?_))
      obtain ⟨h11, hOM9, h⟩ := h
      exact h
    · replace h := h.2 c7
      refine wm_bipush d_MM_list_25 (by decide) ?_
      refine wm_goto (tgt := 36) d_MM_list_27 rfl ?_
      exact h
theorem k_MM_list_36 {G : mG} {d : Nat} {a0 : Nat} {l1 : Int} {l2 : Int} {l4 : Int} {l5 : Int} {l6 : Int} {k0 : Int} {M : mM} {Q : mM → Prop} (hO : mOk M) (hi_l1 : i32 l1) (hi_l2 : i32 l2) (hi_l4 : i32 l4) (hi_l5 : i32 l5) (hi_l6 : i32 l6) (hi_k0 : i32 k0)
    (h : ∀ v14 : Int, v14 = (if k0 = 37 then l5 + 1 else (if k0 = 36 then l5 - 1 else l5)) → i32 v14 ∧ (((v14 = 0) ∧ (k0 = 35)) → (mK M a0 = 14 ∧ Cv G y_MM_job d [vr a0, vi l1, vi (l6 + 1), vi l4] M (fun M26 => mOk M26 ∧ (h_MM_list_11 G d a0 l1 l2 l6 v14 (l6 + (-1)) M26 Q)))) ∧ (¬ ((v14 = 0) ∧ (k0 = 35)) → (h_MM_list_11 G d a0 l1 l2 l4 v14 (l6 + (-1)) M Q))) :
    h_MM_list_36 G d a0 l1 l2 l4 l5 l6 k0 M Q := by
  unfold h_MM_list_36
  refine wm_istore d_MM_list_36 (by decide) (L' := [vr a0, vi l1, vi l2, vd, vi l4, vi l5, vi l6, vi k0]) rfl ?_
  refine wm_iload d_MM_list_38 rfl ?_
  refine wm_bipush d_MM_list_40 (by decide) ?_
  have hJ : ∀ v14 : Int, v14 = (if k0 = 37 then l5 + 1 else (if k0 = 36 then l5 - 1 else l5)) → mWm G y_MM_list (d + 1) 68 [vr a0, vi l1, vi l2, vd, vi l4, vd, vi l6, vi k0] [vi v14] M (fun r9 M9 => r9 = none ∧ Q M9) := by
    intro v14 e16
    have h := h v14 e16
    obtain ⟨h20, h⟩ := h
    refine wm_istore d_MM_list_68 (by decide) (L' := [vr a0, vi l1, vi l2, vd, vi l4, vi v14, vi l6, vi k0]) rfl ?_
    refine wm_iload d_MM_list_70 rfl ?_
    have hE0 : ((v14 = 0) ∧ (k0 = 35)) → mWm G y_MM_list (d + 1) 82 [vr a0, vi l1, vi l2, vd, vi l4, vi v14, vi l6, vi k0] [] M (fun r9 M9 => r9 = none ∧ Q M9) := by
      intro q24
      have h := h.1 q24
      obtain ⟨h25, h⟩ := h
      refine wm_aload_n d_MM_list_82 rfl rfl ?_
      refine wm_iload_n d_MM_list_83 rfl rfl ?_
      refine wm_iload d_MM_list_84 rfl ?_
      refine wm_iconst d_MM_list_86 ?_
      refine wm_iadd d_MM_list_87 ?_
      refine wm_iload d_MM_list_88 rfl ?_
      refine cf_MM_296 rfl d_MM_list_90 h25 (Nat.le_of_ble_eq_true rfl) (Cv.mono h (fun M26 h => ?_))
      obtain ⟨hOM26, h⟩ := h
      refine wm_iload d_MM_list_93 rfl ?_
      refine wm_istore d_MM_list_95 (by decide) (L' := [vr a0, vi l1, vi l2, vd, vi l6, vi v14, vi l6, vi k0]) rfl ?_
      refine wm_iinc d_MM_list_97 (by decide) rfl (L' := [vr a0, vi l1, vi l2, vd, vi l6, vi v14, vi (l6 + (-1)), vi k0]) rfl ?_
      refine wm_goto (tgt := 11) d_MM_list_100 rfl ?_
      refine wm_less (L' := [vr a0, vi l1, vi l2, vd, vi l6, vi v14, vi (l6 + (-1)), vd]) ⟨Or.inr rfl, Or.inr rfl, Or.inr rfl, Or.inl rfl, Or.inr rfl, Or.inr rfl, Or.inr rfl, Or.inl rfl, trivial⟩ ?_
      exact h
    have hE1 : ¬ ((v14 = 0) ∧ (k0 = 35)) → mWm G y_MM_list (d + 1) 97 [vr a0, vi l1, vi l2, vd, vi l4, vi v14, vi l6, vi k0] [] M (fun r9 M9 => r9 = none ∧ Q M9) := by
      intro q29
      have h := h.2 q29
      refine wm_iinc d_MM_list_97 (by decide) rfl (L' := [vr a0, vi l1, vi l2, vd, vi l4, vi v14, vi (l6 + (-1)), vi k0]) rfl ?_
      refine wm_goto (tgt := 11) d_MM_list_100 rfl ?_
      refine wm_less (L' := [vr a0, vi l1, vi l2, vd, vi l4, vi v14, vi (l6 + (-1)), vd]) ⟨Or.inr rfl, Or.inr rfl, Or.inr rfl, Or.inl rfl, Or.inr rfl, Or.inr rfl, Or.inr rfl, Or.inl rfl, trivial⟩ ?_
      exact h
    clear h
    refine wm_if_ne (tgt := 97) d_MM_list_72 rfl h20 (fun c22 => ?_) (fun c22 => ?_)
    · exact hE1 (fun z32 => c22 z32.1)
    · replace c22 := Classical.not_not.mp c22
      refine wm_iload d_MM_list_75 rfl ?_
      refine wm_bipush d_MM_list_77 (by decide) ?_
      refine wm_icmp_ne (tgt := 97) d_MM_list_79 rfl hi_k0 ⟨by decide, by decide⟩ (fun c21 => ?_) (fun c21 => ?_)
      · exact hE1 (fun z30 => c21 z30.2)
      · replace c21 := Classical.not_not.mp c21
        exact hE0 ⟨c22, c21⟩
  clear h
  refine wm_icmp_ne (tgt := 52) d_MM_list_42 rfl hi_k0 ⟨by decide, by decide⟩ (fun c12 => ?_) (fun c12 => ?_)
  · refine wm_iload d_MM_list_52 rfl ?_
    refine wm_bipush d_MM_list_54 (by decide) ?_
    refine wm_icmp_ne (tgt := 66) d_MM_list_56 rfl hi_k0 ⟨by decide, by decide⟩ (fun c13 => ?_) (fun c13 => ?_)
    · refine wm_iload d_MM_list_66 rfl ?_
      refine wm_less (L' := [vr a0, vi l1, vi l2, vd, vi l4, vd, vi l6, vi k0]) ⟨Or.inr rfl, Or.inr rfl, Or.inr rfl, Or.inl rfl, Or.inr rfl, Or.inl rfl, Or.inr rfl, Or.inr rfl, trivial⟩ ?_
      exact hJ l5 (by rw [if_neg c12, if_neg c13])
    · replace c13 := Classical.not_not.mp c13
      refine wm_iload d_MM_list_59 rfl ?_
      refine wm_iconst d_MM_list_61 ?_
      refine wm_isub d_MM_list_62 ?_
      refine wm_goto (tgt := 68) d_MM_list_63 rfl ?_
      refine wm_less (L' := [vr a0, vi l1, vi l2, vd, vi l4, vd, vi l6, vi k0]) ⟨Or.inr rfl, Or.inr rfl, Or.inr rfl, Or.inl rfl, Or.inr rfl, Or.inl rfl, Or.inr rfl, Or.inr rfl, trivial⟩ ?_
      exact hJ (l5 - 1) (by rw [if_neg c12, if_pos c13])
  · replace c12 := Classical.not_not.mp c12
    refine wm_iload d_MM_list_45 rfl ?_
    refine wm_iconst d_MM_list_47 ?_
    refine wm_iadd d_MM_list_48 ?_
    refine wm_goto (tgt := 68) d_MM_list_49 rfl ?_
    refine wm_less (L' := [vr a0, vi l1, vi l2, vd, vi l4, vd, vi l6, vi k0]) ⟨Or.inr rfl, Or.inr rfl, Or.inr rfl, Or.inl rfl, Or.inr rfl, Or.inl rfl, Or.inr rfl, Or.inr rfl, trivial⟩ ?_
    exact hJ (l5 + 1) (by rw [if_pos c12])
theorem d_MM_numberOf_0 : decode y_MM_numberOf.2.1 0 = .ok (.iconst 0, 1) := dc9_3 (by decide +kernel)
theorem d_MM_numberOf_1 : decode y_MM_numberOf.2.1 1 = .ok (.istore_n 2, 1) := dc9_61 (by decide +kernel)
theorem d_MM_numberOf_2 : decode y_MM_numberOf.2.1 2 = .ok (.aload_n 0, 1) := dc9_42 (by decide +kernel)
theorem d_MM_numberOf_3 : decode y_MM_numberOf.2.1 3 = .ok (.iload_n 1, 1) := dc9_27 (by decide +kernel)
theorem d_MM_numberOf_4 : decode y_MM_numberOf.2.1 4 = .ok (.invokevirtual 279, 3) := dc9_182 (by decide +kernel)
theorem d_MM_numberOf_7 : decode y_MM_numberOf.2.1 7 = .ok (.istore_n 3, 1) := dc9_62 (by decide +kernel)
theorem d_MM_numberOf_8 : decode y_MM_numberOf.2.1 8 = .ok (.iload_n 3, 1) := dc9_29 (by decide +kernel)
theorem d_MM_numberOf_9 : decode y_MM_numberOf.2.1 9 = .ok (.aload_n 0, 1) := dc9_42 (by decide +kernel)
theorem d_MM_numberOf_10 : decode y_MM_numberOf.2.1 10 = .ok (.getfield 25, 3) := dc9_180 (by decide +kernel)
theorem d_MM_numberOf_13 : decode y_MM_numberOf.2.1 13 = .ok (.iload_n 1, 1) := dc9_27 (by decide +kernel)
theorem d_MM_numberOf_14 : decode y_MM_numberOf.2.1 14 = .ok (.invokevirtual 155, 3) := dc9_182 (by decide +kernel)
theorem d_MM_numberOf_17 : decode y_MM_numberOf.2.1 17 = .ok (.if_icmp .ge 26, 3) := dc9_162 (by decide +kernel)
theorem d_MM_numberOf_43 : decode y_MM_numberOf.2.1 43 = .ok (.iload_n 2, 1) := dc9_28 (by decide +kernel)
theorem d_MM_numberOf_44 : decode y_MM_numberOf.2.1 44 = .ok (.ireturn, 1) := dc9_172 (by decide +kernel)
theorem d_MM_numberOf_20 : decode y_MM_numberOf.2.1 20 = .ok (.bipush 10, 2) := dc9_16 (by decide +kernel)
theorem d_MM_numberOf_22 : decode y_MM_numberOf.2.1 22 = .ok (.iload_n 2, 1) := dc9_28 (by decide +kernel)
theorem d_MM_numberOf_23 : decode y_MM_numberOf.2.1 23 = .ok (.imul, 1) := dc9_104 (by decide +kernel)
theorem d_MM_numberOf_24 : decode y_MM_numberOf.2.1 24 = .ok (.aload_n 0, 1) := dc9_42 (by decide +kernel)
theorem d_MM_numberOf_25 : decode y_MM_numberOf.2.1 25 = .ok (.getfield 16, 3) := dc9_180 (by decide +kernel)
theorem d_MM_numberOf_28 : decode y_MM_numberOf.2.1 28 = .ok (.iload_n 3, 1) := dc9_29 (by decide +kernel)
theorem d_MM_numberOf_29 : decode y_MM_numberOf.2.1 29 = .ok (.invokevirtual 155, 3) := dc9_182 (by decide +kernel)
theorem d_MM_numberOf_32 : decode y_MM_numberOf.2.1 32 = .ok (.iadd, 1) := dc9_96 (by decide +kernel)
theorem d_MM_numberOf_33 : decode y_MM_numberOf.2.1 33 = .ok (.bipush 48, 2) := dc9_16 (by decide +kernel)
theorem d_MM_numberOf_35 : decode y_MM_numberOf.2.1 35 = .ok (.isub, 1) := dc9_100 (by decide +kernel)
theorem d_MM_numberOf_36 : decode y_MM_numberOf.2.1 36 = .ok (.istore_n 2, 1) := dc9_61 (by decide +kernel)
theorem d_MM_numberOf_37 : decode y_MM_numberOf.2.1 37 = .ok (.iinc 3 1, 3) := by decide +kernel
theorem d_MM_numberOf_40 : decode y_MM_numberOf.2.1 40 = .ok (.goto (-32), 3) := dc9_167 (by decide +kernel)
def h_MM_numberOf_8 (G : mG) (d : Nat) (a0 : Nat) (l1 : Int) (l2 : Int) (l3 : Int) (M : mM) (Q : Int → mM → Prop) : Prop := mWm G y_MM_numberOf (d + 1) 8 [vr a0, vi l1, vi l2, vi l3] [] M (fun r9 M9 => ∃ x9, r9 = some (vi x9) ∧ Q x9 M9)
theorem k_MM_numberOf {G : mG} {d : Nat} {a0 : Nat} {l1 : Int} {M : mM} {Q : Int → mM → Prop} (hO : mOk M) (hi_l1 : i32 l1)
    (h : mK M a0 = 14 ∧ Ci G y_MM_place0 d [vr a0, vi l1] M (fun x3 M2 => i32 x3 ∧ mOk M2 ∧ (h_MM_numberOf_8 G d a0 l1 0 x3 M2 Q))) :
    Ci G y_MM_numberOf (d + 1) [vr a0, vi l1] M Q := by
  refine wm_open (y := y_MM_numberOf) rfl (Nat.le_of_ble_eq_true rfl) (L := [vr a0, vi l1, vd, vd]) rfl ?_
  obtain ⟨h1, h⟩ := h
  refine wm_iconst d_MM_numberOf_0 ?_
  refine wm_istore_n d_MM_numberOf_1 rfl (by decide) (L' := [vr a0, vi l1, vi 0, vd]) rfl ?_
  refine wm_aload_n d_MM_numberOf_2 rfl rfl ?_
  refine wm_iload_n d_MM_numberOf_3 rfl rfl ?_
  refine cf_MM_279 rfl d_MM_numberOf_4 h1 (Nat.le_of_ble_eq_true rfl) (Ci.mono h (fun x3 M2 h => ?_))
  obtain ⟨h4, hOM2, h⟩ := h
  refine wm_istore_n d_MM_numberOf_7 rfl (by decide) (L' := [vr a0, vi l1, vi 0, vi x3]) rfl ?_
  exact h
theorem k_MM_numberOf_8 {G : mG} {d : Nat} {a0 : Nat} {l1 : Int} {l2 : Int} {l3 : Int} {M : mM} {Q : Int → mM → Prop} (hO : mOk M) (hi_l1 : i32 l1) (hi_l2 : i32 l2) (hi_l3 : i32 l3)
    (h : mK M a0 = 14 ∧ mK M (mR M a0 5) = 15 ∧ Ci G y_MN_at d [vr (mR M a0 5), vi l1] M (fun x8 M7 => i32 x8 ∧ mOk M7 ∧ (((x8 ≤ l3) → (Q l2 M7)) ∧ (¬ (x8 ≤ l3) → (mK M7 a0 = 14 ∧ mK M7 (mR M7 a0 2) = 15 ∧ Ci G y_MN_at d [vr (mR M7 a0 2), vi l3] M7 (fun x15 M14 => i32 x15 ∧ mOk M14 ∧ (h_MM_numberOf_8 G d a0 l1 (((10 * l2) + x15) - 48) (l3 + 1) M14 Q))))))) :
    h_MM_numberOf_8 G d a0 l1 l2 l3 M Q := by
  unfold h_MM_numberOf_8
  obtain ⟨h5, h⟩ := h
  obtain ⟨h6, h⟩ := h
  refine wm_iload_n d_MM_numberOf_8 rfl rfl ?_
  refine wm_aload_n d_MM_numberOf_9 rfl rfl ?_
  refine gf_MM_25 rfl d_MM_numberOf_10 h5 ?_
  refine wm_iload_n d_MM_numberOf_13 rfl rfl ?_
  refine cf_MM_155 rfl d_MM_numberOf_14 h6 (Nat.le_of_ble_eq_true rfl) (Ci.mono h (fun x8 M7 h => ?_))
  obtain ⟨h9, hOM7, h⟩ := h
  refine wm_icmp_ge (tgt := 43) d_MM_numberOf_17 rfl hi_l3 h9 (fun c11 => ?_) (fun c11 => ?_)
  · replace h := h.1 c11
    refine wm_iload_n d_MM_numberOf_43 rfl rfl ?_
    refine wm_ireturn d_MM_numberOf_44 rfl rfl ?_
    exact ⟨_, rfl, h⟩
  · replace h := h.2 c11
    obtain ⟨h12, h⟩ := h
    obtain ⟨h13, h⟩ := h
    refine wm_bipush d_MM_numberOf_20 (by decide) ?_
    refine wm_iload_n d_MM_numberOf_22 rfl rfl ?_
    refine wm_imul d_MM_numberOf_23 ?_
    refine wm_aload_n d_MM_numberOf_24 rfl rfl ?_
    refine gf_MM_16 rfl d_MM_numberOf_25 h12 ?_
    refine wm_iload_n d_MM_numberOf_28 rfl rfl ?_
    refine cf_MM_155 rfl d_MM_numberOf_29 h13 (Nat.le_of_ble_eq_true rfl) (Ci.mono h (fun x15 M14 h => ?_))
    obtain ⟨h16, hOM14, h⟩ := h
    refine wm_iadd d_MM_numberOf_32 ?_
    refine wm_bipush d_MM_numberOf_33 (by decide) ?_
    refine wm_isub d_MM_numberOf_35 ?_
    refine wm_istore_n d_MM_numberOf_36 rfl (by decide) (L' := [vr a0, vi l1, vi (((10 * l2) + x15) - 48), vi l3]) rfl ?_
    refine wm_iinc d_MM_numberOf_37 (by decide) rfl (L' := [vr a0, vi l1, vi (((10 * l2) + x15) - 48), vi (l3 + 1)]) rfl ?_
    refine wm_goto (tgt := 8) d_MM_numberOf_40 rfl ?_
    exact h
theorem d_MM_sameWord_0 : decode y_MM_sameWord.2.1 0 = .ok (.aload_n 0, 1) := dc9_42 (by decide +kernel)
theorem d_MM_sameWord_1 : decode y_MM_sameWord.2.1 1 = .ok (.getfield 25, 3) := dc9_180 (by decide +kernel)
theorem d_MM_sameWord_4 : decode y_MM_sameWord.2.1 4 = .ok (.iload_n 1, 1) := dc9_27 (by decide +kernel)
theorem d_MM_sameWord_5 : decode y_MM_sameWord.2.1 5 = .ok (.invokevirtual 155, 3) := dc9_182 (by decide +kernel)
theorem d_MM_sameWord_8 : decode y_MM_sameWord.2.1 8 = .ok (.aload_n 0, 1) := dc9_42 (by decide +kernel)
theorem d_MM_sameWord_9 : decode y_MM_sameWord.2.1 9 = .ok (.iload_n 1, 1) := dc9_27 (by decide +kernel)
theorem d_MM_sameWord_10 : decode y_MM_sameWord.2.1 10 = .ok (.invokevirtual 279, 3) := dc9_182 (by decide +kernel)
theorem d_MM_sameWord_13 : decode y_MM_sameWord.2.1 13 = .ok (.isub, 1) := dc9_100 (by decide +kernel)
theorem d_MM_sameWord_14 : decode y_MM_sameWord.2.1 14 = .ok (.istore_n 3, 1) := dc9_62 (by decide +kernel)
theorem d_MM_sameWord_15 : decode y_MM_sameWord.2.1 15 = .ok (.aload_n 0, 1) := dc9_42 (by decide +kernel)
theorem d_MM_sameWord_16 : decode y_MM_sameWord.2.1 16 = .ok (.getfield 25, 3) := dc9_180 (by decide +kernel)
theorem d_MM_sameWord_19 : decode y_MM_sameWord.2.1 19 = .ok (.iload_n 2, 1) := dc9_28 (by decide +kernel)
theorem d_MM_sameWord_20 : decode y_MM_sameWord.2.1 20 = .ok (.invokevirtual 155, 3) := dc9_182 (by decide +kernel)
theorem d_MM_sameWord_23 : decode y_MM_sameWord.2.1 23 = .ok (.aload_n 0, 1) := dc9_42 (by decide +kernel)
theorem d_MM_sameWord_24 : decode y_MM_sameWord.2.1 24 = .ok (.iload_n 2, 1) := dc9_28 (by decide +kernel)
theorem d_MM_sameWord_25 : decode y_MM_sameWord.2.1 25 = .ok (.invokevirtual 279, 3) := dc9_182 (by decide +kernel)
theorem d_MM_sameWord_28 : decode y_MM_sameWord.2.1 28 = .ok (.isub, 1) := dc9_100 (by decide +kernel)
theorem d_MM_sameWord_29 : decode y_MM_sameWord.2.1 29 = .ok (.iload_n 3, 1) := dc9_29 (by decide +kernel)
theorem d_MM_sameWord_30 : decode y_MM_sameWord.2.1 30 = .ok (.if_icmp .ne 7, 3) := dc9_160 (by decide +kernel)
theorem d_MM_sameWord_33 : decode y_MM_sameWord.2.1 33 = .ok (.iconst 1, 1) := dc9_4 (by decide +kernel)
theorem d_MM_sameWord_34 : decode y_MM_sameWord.2.1 34 = .ok (.goto 4, 3) := dc9_167 (by decide +kernel)
theorem d_MM_sameWord_37 : decode y_MM_sameWord.2.1 37 = .ok (.iconst 0, 1) := dc9_3 (by decide +kernel)
theorem d_MM_sameWord_38 : decode y_MM_sameWord.2.1 38 = .ok (.istore 4, 2) := dc9_54 (by decide +kernel)
theorem d_MM_sameWord_40 : decode y_MM_sameWord.2.1 40 = .ok (.iconst 0, 1) := dc9_3 (by decide +kernel)
theorem d_MM_sameWord_41 : decode y_MM_sameWord.2.1 41 = .ok (.istore 5, 2) := dc9_54 (by decide +kernel)
theorem d_MM_sameWord_43 : decode y_MM_sameWord.2.1 43 = .ok (.iload 5, 2) := dc9_21 (by decide +kernel)
theorem d_MM_sameWord_45 : decode y_MM_sameWord.2.1 45 = .ok (.iload_n 3, 1) := dc9_29 (by decide +kernel)
theorem d_MM_sameWord_46 : decode y_MM_sameWord.2.1 46 = .ok (.if_icmp .ge 54, 3) := dc9_162 (by decide +kernel)
theorem d_MM_sameWord_49 : decode y_MM_sameWord.2.1 49 = .ok (.iload 4, 2) := dc9_21 (by decide +kernel)
theorem d_MM_sameWord_51 : decode y_MM_sameWord.2.1 51 = .ok (.ifCond .eq 49, 3) := dc9_153 (by decide +kernel)
theorem d_MM_sameWord_54 : decode y_MM_sameWord.2.1 54 = .ok (.aload_n 0, 1) := dc9_42 (by decide +kernel)
theorem d_MM_sameWord_55 : decode y_MM_sameWord.2.1 55 = .ok (.getfield 16, 3) := dc9_180 (by decide +kernel)
theorem d_MM_sameWord_58 : decode y_MM_sameWord.2.1 58 = .ok (.aload_n 0, 1) := dc9_42 (by decide +kernel)
theorem d_MM_sameWord_59 : decode y_MM_sameWord.2.1 59 = .ok (.iload_n 1, 1) := dc9_27 (by decide +kernel)
theorem d_MM_sameWord_100 : decode y_MM_sameWord.2.1 100 = .ok (.iload 4, 2) := dc9_21 (by decide +kernel)
theorem d_MM_sameWord_102 : decode y_MM_sameWord.2.1 102 = .ok (.ireturn, 1) := dc9_172 (by decide +kernel)
theorem d_MM_sameWord_60 : decode y_MM_sameWord.2.1 60 = .ok (.invokevirtual 279, 3) := dc9_182 (by decide +kernel)
theorem d_MM_sameWord_63 : decode y_MM_sameWord.2.1 63 = .ok (.iload 5, 2) := dc9_21 (by decide +kernel)
theorem d_MM_sameWord_65 : decode y_MM_sameWord.2.1 65 = .ok (.iadd, 1) := dc9_96 (by decide +kernel)
theorem d_MM_sameWord_66 : decode y_MM_sameWord.2.1 66 = .ok (.invokevirtual 155, 3) := dc9_182 (by decide +kernel)
theorem d_MM_sameWord_69 : decode y_MM_sameWord.2.1 69 = .ok (.aload_n 0, 1) := dc9_42 (by decide +kernel)
theorem d_MM_sameWord_70 : decode y_MM_sameWord.2.1 70 = .ok (.getfield 16, 3) := dc9_180 (by decide +kernel)
theorem d_MM_sameWord_73 : decode y_MM_sameWord.2.1 73 = .ok (.aload_n 0, 1) := dc9_42 (by decide +kernel)
theorem d_MM_sameWord_74 : decode y_MM_sameWord.2.1 74 = .ok (.iload_n 2, 1) := dc9_28 (by decide +kernel)
theorem d_MM_sameWord_75 : decode y_MM_sameWord.2.1 75 = .ok (.invokevirtual 279, 3) := dc9_182 (by decide +kernel)
theorem d_MM_sameWord_78 : decode y_MM_sameWord.2.1 78 = .ok (.iload 5, 2) := dc9_21 (by decide +kernel)
theorem d_MM_sameWord_80 : decode y_MM_sameWord.2.1 80 = .ok (.iadd, 1) := dc9_96 (by decide +kernel)
theorem d_MM_sameWord_81 : decode y_MM_sameWord.2.1 81 = .ok (.invokevirtual 155, 3) := dc9_182 (by decide +kernel)
theorem d_MM_sameWord_84 : decode y_MM_sameWord.2.1 84 = .ok (.if_icmp .ne 7, 3) := dc9_160 (by decide +kernel)
theorem d_MM_sameWord_87 : decode y_MM_sameWord.2.1 87 = .ok (.iconst 1, 1) := dc9_4 (by decide +kernel)
theorem d_MM_sameWord_88 : decode y_MM_sameWord.2.1 88 = .ok (.goto 4, 3) := dc9_167 (by decide +kernel)
theorem d_MM_sameWord_91 : decode y_MM_sameWord.2.1 91 = .ok (.iconst 0, 1) := dc9_3 (by decide +kernel)
theorem d_MM_sameWord_92 : decode y_MM_sameWord.2.1 92 = .ok (.istore 4, 2) := dc9_54 (by decide +kernel)
theorem d_MM_sameWord_94 : decode y_MM_sameWord.2.1 94 = .ok (.iinc 5 1, 3) := by decide +kernel
theorem d_MM_sameWord_97 : decode y_MM_sameWord.2.1 97 = .ok (.goto (-54), 3) := dc9_167 (by decide +kernel)
def h_MM_sameWord_43 (G : mG) (d : Nat) (a0 : Nat) (l1 : Int) (l2 : Int) (l3 : Int) (l4 : Int) (l5 : Int) (M : mM) (Q : Int → mM → Prop) : Prop := mWm G y_MM_sameWord (d + 1) 43 [vr a0, vi l1, vi l2, vi l3, vi l4, vi l5] [] M (fun r9 M9 => ∃ x9, r9 = some (vi x9) ∧ Q x9 M9)
theorem k_MM_sameWord {G : mG} {d : Nat} {a0 : Nat} {l1 : Int} {l2 : Int} {M : mM} {Q : Int → mM → Prop} (hO : mOk M) (hi_l1 : i32 l1) (hi_l2 : i32 l2)
    (h : mK M a0 = 14 ∧ mK M (mR M a0 5) = 15 ∧ Ci G y_MN_at d [vr (mR M a0 5), vi l1] M (fun x4 M3 => i32 x4 ∧ mOk M3 ∧ (mK M3 a0 = 14 ∧ Ci G y_MM_place0 d [vr a0, vi l1] M3 (fun x8 M7 => i32 x8 ∧ mOk M7 ∧ (mK M7 a0 = 14 ∧ mK M7 (mR M7 a0 5) = 15 ∧ Ci G y_MN_at d [vr (mR M7 a0 5), vi l2] M7 (fun x13 M12 => i32 x13 ∧ mOk M12 ∧ (mK M12 a0 = 14 ∧ Ci G y_MM_place0 d [vr a0, vi l2] M12 (fun x17 M16 => i32 x17 ∧ mOk M16 ∧ (i32 (x13 - x17) ∧ i32 (x4 - x8) ∧ ∀ v22 : Int, v22 = (if (x13 - x17 = x4 - x8) then 1 else 0) → h_MM_sameWord_43 G d a0 l1 l2 (x4 - x8) v22 0 M16 Q))))))))) :
    Ci G y_MM_sameWord (d + 1) [vr a0, vi l1, vi l2] M Q := by
  refine wm_open (y := y_MM_sameWord) rfl (Nat.le_of_ble_eq_true rfl) (L := [vr a0, vi l1, vi l2, vd, vd, vd]) rfl ?_
  obtain ⟨h1, h⟩ := h
  obtain ⟨h2, h⟩ := h
  refine wm_aload_n d_MM_sameWord_0 rfl rfl ?_
  refine gf_MM_25 rfl d_MM_sameWord_1 h1 ?_
  refine wm_iload_n d_MM_sameWord_4 rfl rfl ?_
  refine cf_MM_155 rfl d_MM_sameWord_5 h2 (Nat.le_of_ble_eq_true rfl) (Ci.mono h (fun x4 M3 h => ?_))
  obtain ⟨h5, hOM3, h⟩ := h
  obtain ⟨h6, h⟩ := h
  refine wm_aload_n d_MM_sameWord_8 rfl rfl ?_
  refine wm_iload_n d_MM_sameWord_9 rfl rfl ?_
  refine cf_MM_279 rfl d_MM_sameWord_10 h6 (Nat.le_of_ble_eq_true rfl) (Ci.mono h (fun x8 M7 h => ?_))
  obtain ⟨h9, hOM7, h⟩ := h
  obtain ⟨h10, h⟩ := h
  obtain ⟨h11, h⟩ := h
  refine wm_isub d_MM_sameWord_13 ?_
  refine wm_istore_n d_MM_sameWord_14 rfl (by decide) (L' := [vr a0, vi l1, vi l2, vi (x4 - x8), vd, vd]) rfl ?_
  refine wm_aload_n d_MM_sameWord_15 rfl rfl ?_
  refine gf_MM_25 rfl d_MM_sameWord_16 h10 ?_
  refine wm_iload_n d_MM_sameWord_19 rfl rfl ?_
  refine cf_MM_155 rfl d_MM_sameWord_20 h11 (Nat.le_of_ble_eq_true rfl) (Ci.mono h (fun x13 M12 h => ?_))
  obtain ⟨h14, hOM12, h⟩ := h
  obtain ⟨h15, h⟩ := h
  refine wm_aload_n d_MM_sameWord_23 rfl rfl ?_
  refine wm_iload_n d_MM_sameWord_24 rfl rfl ?_
  refine cf_MM_279 rfl d_MM_sameWord_25 h15 (Nat.le_of_ble_eq_true rfl) (Ci.mono h (fun x17 M16 h => ?_))
  obtain ⟨h18, hOM16, h⟩ := h
  obtain ⟨h19, h⟩ := h
  obtain ⟨h20, h⟩ := h
  refine wm_isub d_MM_sameWord_28 ?_
  refine wm_iload_n d_MM_sameWord_29 rfl rfl ?_
  have hJ : ∀ v22 : Int, v22 = (if (x13 - x17 = x4 - x8) then 1 else 0) → mWm G y_MM_sameWord (d + 1) 38 [vr a0, vi l1, vi l2, vi (x4 - x8), vd, vd] [vi v22] M16 (fun r9 M9 => ∃ x9, r9 = some (vi x9) ∧ Q x9 M9) := by
    intro v22 e24
    have h := h v22 e24
    have h25 : i32 v22 := by rw [e24]; (repeat' split) <;> first | exact ⟨by decide, by decide⟩ | exact ⟨by decide, by decide⟩
    have h26 : (v22 = 0 ∨ v22 = 1) := by rw [e24]; (repeat' split) <;> decide
    refine wm_istore d_MM_sameWord_38 (by decide) (L' := [vr a0, vi l1, vi l2, vi (x4 - x8), vi v22, vd]) rfl ?_
    refine wm_iconst d_MM_sameWord_40 ?_
    refine wm_istore d_MM_sameWord_41 (by decide) (L' := [vr a0, vi l1, vi l2, vi (x4 - x8), vi v22, vi 0]) rfl ?_
    exact h
  clear h
  refine wm_icmp_ne (tgt := 37) d_MM_sameWord_30 rfl h19 h20 (fun c21 => ?_) (fun c21 => ?_)
  · refine wm_iconst d_MM_sameWord_37 ?_
    exact hJ 0 (if_neg c21).symm
  · replace c21 := Classical.not_not.mp c21
    refine wm_iconst d_MM_sameWord_33 ?_
    refine wm_goto (tgt := 38) d_MM_sameWord_34 rfl ?_
    exact hJ 1 (if_pos c21).symm
theorem k_MM_sameWord_43 {G : mG} {d : Nat} {a0 : Nat} {l1 : Int} {l2 : Int} {l3 : Int} {l4 : Int} {l5 : Int} {M : mM} {Q : Int → mM → Prop} (hO : mOk M) (hi_l1 : i32 l1) (hi_l2 : i32 l2) (hi_l3 : i32 l3) (hi_l4 : i32 l4) (hi_l5 : i32 l5)
    (h : (((l3 ≤ l5) ∨ (l4 = 0)) → ((l4 = 0 ∨ l4 = 1) ∧ Q l4 M)) ∧ (¬ ((l3 ≤ l5) ∨ (l4 = 0)) → (mK M a0 = 14 ∧ Ci G y_MM_place0 d [vr a0, vi l1] M (fun x36 M35 => i32 x36 ∧ mOk M35 ∧ (mK M35 (mR M a0 2) = 15 ∧ Ci G y_MN_at d [vr (mR M a0 2), vi (x36 + l5)] M35 (fun x40 M39 => i32 x40 ∧ mOk M39 ∧ (mK M39 a0 = 14 ∧ Ci G y_MM_place0 d [vr a0, vi l2] M39 (fun x44 M43 => i32 x44 ∧ mOk M43 ∧ (mK M43 (mR M39 a0 2) = 15 ∧ Ci G y_MN_at d [vr (mR M39 a0 2), vi (x44 + l5)] M43 (fun x48 M47 => i32 x48 ∧ mOk M47 ∧ (∀ v51 : Int, v51 = (if (x40 = x48) then 1 else 0) → h_MM_sameWord_43 G d a0 l1 l2 l3 v51 (l5 + 1) M47 Q))))))))))) :
    h_MM_sameWord_43 G d a0 l1 l2 l3 l4 l5 M Q := by
  unfold h_MM_sameWord_43
  refine wm_iload d_MM_sameWord_43 rfl ?_
  refine wm_iload_n d_MM_sameWord_45 rfl rfl ?_
  have hE0 : ((l3 ≤ l5) ∨ (l4 = 0)) → mWm G y_MM_sameWord (d + 1) 100 [vr a0, vi l1, vi l2, vi l3, vi l4, vi l5] [] M (fun r9 M9 => ∃ x9, r9 = some (vi x9) ∧ Q x9 M9) := by
    intro q31
    have h := h.1 q31
    obtain ⟨h32, h⟩ := h
    refine wm_iload d_MM_sameWord_100 rfl ?_
    refine wm_ireturn d_MM_sameWord_102 rfl (m_nb h32) ?_
    exact ⟨_, rfl, h⟩
  have hE1 : ¬ ((l3 ≤ l5) ∨ (l4 = 0)) → mWm G y_MM_sameWord (d + 1) 54 [vr a0, vi l1, vi l2, vi l3, vi l4, vi l5] [] M (fun r9 M9 => ∃ x9, r9 = some (vi x9) ∧ Q x9 M9) := by
    intro q33
    have h := h.2 q33
    obtain ⟨h34, h⟩ := h
    refine wm_aload_n d_MM_sameWord_54 rfl rfl ?_
    refine gf_MM_16 rfl d_MM_sameWord_55 h34 ?_
    refine wm_aload_n d_MM_sameWord_58 rfl rfl ?_
    refine wm_iload_n d_MM_sameWord_59 rfl rfl ?_
    refine cf_MM_279 rfl d_MM_sameWord_60 h34 (Nat.le_of_ble_eq_true rfl) (Ci.mono h (fun x36 M35 h => ?_))
    obtain ⟨h37, hOM35, h⟩ := h
    obtain ⟨h38, h⟩ := h
    refine wm_iload d_MM_sameWord_63 rfl ?_
    refine wm_iadd d_MM_sameWord_65 ?_
    refine cf_MM_155 rfl d_MM_sameWord_66 h38 (Nat.le_of_ble_eq_true rfl) (Ci.mono h (fun x40 M39 h => ?_))
    obtain ⟨h41, hOM39, h⟩ := h
    obtain ⟨h42, h⟩ := h
    refine wm_aload_n d_MM_sameWord_69 rfl rfl ?_
    refine gf_MM_16 rfl d_MM_sameWord_70 h42 ?_
    refine wm_aload_n d_MM_sameWord_73 rfl rfl ?_
    refine wm_iload_n d_MM_sameWord_74 rfl rfl ?_
    refine cf_MM_279 rfl d_MM_sameWord_75 h42 (Nat.le_of_ble_eq_true rfl) (Ci.mono h (fun x44 M43 h => ?_))
    obtain ⟨h45, hOM43, h⟩ := h
    obtain ⟨h46, h⟩ := h
    refine wm_iload d_MM_sameWord_78 rfl ?_
    refine wm_iadd d_MM_sameWord_80 ?_
    refine cf_MM_155 rfl d_MM_sameWord_81 h46 (Nat.le_of_ble_eq_true rfl) (Ci.mono h (fun x48 M47 h => ?_))
    obtain ⟨h49, hOM47, h⟩ := h
    have hJ : ∀ v51 : Int, v51 = (if (x40 = x48) then 1 else 0) → mWm G y_MM_sameWord (d + 1) 92 [vr a0, vi l1, vi l2, vi l3, vd, vi l5] [vi v51] M47 (fun r9 M9 => ∃ x9, r9 = some (vi x9) ∧ Q x9 M9) := by
      intro v51 e53
      have h := h v51 e53
      have h54 : i32 v51 := by rw [e53]; (repeat' split) <;> first | exact ⟨by decide, by decide⟩ | exact ⟨by decide, by decide⟩
      have h55 : (v51 = 0 ∨ v51 = 1) := by rw [e53]; (repeat' split) <;> decide
      refine wm_istore d_MM_sameWord_92 (by decide) (L' := [vr a0, vi l1, vi l2, vi l3, vi v51, vi l5]) rfl ?_
      refine wm_iinc d_MM_sameWord_94 (by decide) rfl (L' := [vr a0, vi l1, vi l2, vi l3, vi v51, vi (l5 + 1)]) rfl ?_
      refine wm_goto (tgt := 43) d_MM_sameWord_97 rfl ?_
      exact h
    clear h
    refine wm_icmp_ne (tgt := 91) d_MM_sameWord_84 rfl h41 h49 (fun c50 => ?_) (fun c50 => ?_)
    · refine wm_iconst d_MM_sameWord_91 ?_
      refine wm_less (L' := [vr a0, vi l1, vi l2, vi l3, vd, vi l5]) ⟨Or.inr rfl, Or.inr rfl, Or.inr rfl, Or.inr rfl, Or.inl rfl, Or.inr rfl, trivial⟩ ?_
      exact hJ 0 (if_neg c50).symm
    · replace c50 := Classical.not_not.mp c50
      refine wm_iconst d_MM_sameWord_87 ?_
      refine wm_goto (tgt := 92) d_MM_sameWord_88 rfl ?_
      refine wm_less (L' := [vr a0, vi l1, vi l2, vi l3, vd, vi l5]) ⟨Or.inr rfl, Or.inr rfl, Or.inr rfl, Or.inr rfl, Or.inl rfl, Or.inr rfl, trivial⟩ ?_
      exact hJ 1 (if_pos c50).symm
  clear h
  refine wm_icmp_ge (tgt := 100) d_MM_sameWord_46 rfl hi_l5 hi_l3 (fun c29 => ?_) (fun c29 => ?_)
  · exact hE0 (Or.inl c29)
  · refine wm_iload d_MM_sameWord_49 rfl ?_
    refine wm_if_eq (tgt := 100) d_MM_sameWord_51 rfl hi_l4 (fun c28 => ?_) (fun c28 => ?_)
    · exact hE0 (Or.inr c28)
    · exact hE1 (fun z57 => Or.elim z57 c29 c28)
theorem d_MM_find_0 : decode y_MM_find.2.1 0 = .ok (.iconst (-1), 1) := dc9_2 (by decide +kernel)
theorem d_MM_find_1 : decode y_MM_find.2.1 1 = .ok (.istore_n 2, 1) := dc9_61 (by decide +kernel)
theorem d_MM_find_2 : decode y_MM_find.2.1 2 = .ok (.iconst 0, 1) := dc9_3 (by decide +kernel)
theorem d_MM_find_3 : decode y_MM_find.2.1 3 = .ok (.istore_n 3, 1) := dc9_62 (by decide +kernel)
theorem d_MM_find_4 : decode y_MM_find.2.1 4 = .ok (.iload_n 3, 1) := dc9_29 (by decide +kernel)
theorem d_MM_find_5 : decode y_MM_find.2.1 5 = .ok (.aload_n 0, 1) := dc9_42 (by decide +kernel)
theorem d_MM_find_6 : decode y_MM_find.2.1 6 = .ok (.getfield 45, 3) := dc9_180 (by decide +kernel)
theorem d_MM_find_9 : decode y_MM_find.2.1 9 = .ok (.getfield 145, 3) := dc9_180 (by decide +kernel)
theorem d_MM_find_12 : decode y_MM_find.2.1 12 = .ok (.if_icmp .ge 31, 3) := dc9_162 (by decide +kernel)
theorem d_MM_find_43 : decode y_MM_find.2.1 43 = .ok (.iload_n 2, 1) := dc9_28 (by decide +kernel)
theorem d_MM_find_44 : decode y_MM_find.2.1 44 = .ok (.ireturn, 1) := dc9_172 (by decide +kernel)
theorem d_MM_find_15 : decode y_MM_find.2.1 15 = .ok (.aload_n 0, 1) := dc9_42 (by decide +kernel)
theorem d_MM_find_16 : decode y_MM_find.2.1 16 = .ok (.aload_n 0, 1) := dc9_42 (by decide +kernel)
theorem d_MM_find_17 : decode y_MM_find.2.1 17 = .ok (.getfield 45, 3) := dc9_180 (by decide +kernel)
theorem d_MM_find_20 : decode y_MM_find.2.1 20 = .ok (.iload_n 3, 1) := dc9_29 (by decide +kernel)
theorem d_MM_find_21 : decode y_MM_find.2.1 21 = .ok (.invokevirtual 155, 3) := dc9_182 (by decide +kernel)
theorem d_MM_find_24 : decode y_MM_find.2.1 24 = .ok (.iload_n 1, 1) := dc9_27 (by decide +kernel)
theorem d_MM_find_25 : decode y_MM_find.2.1 25 = .ok (.invokevirtual 330, 3) := dc9_182 (by decide +kernel)
theorem d_MM_find_28 : decode y_MM_find.2.1 28 = .ok (.ifCond .eq 7, 3) := dc9_153 (by decide +kernel)
theorem d_MM_find_35 : decode y_MM_find.2.1 35 = .ok (.iload_n 2, 1) := dc9_28 (by decide +kernel)
theorem d_MM_find_31 : decode y_MM_find.2.1 31 = .ok (.iload_n 3, 1) := dc9_29 (by decide +kernel)
theorem d_MM_find_32 : decode y_MM_find.2.1 32 = .ok (.goto 4, 3) := dc9_167 (by decide +kernel)
theorem d_MM_find_36 : decode y_MM_find.2.1 36 = .ok (.istore_n 2, 1) := dc9_61 (by decide +kernel)
theorem d_MM_find_37 : decode y_MM_find.2.1 37 = .ok (.iinc 3 1, 3) := by decide +kernel
theorem d_MM_find_40 : decode y_MM_find.2.1 40 = .ok (.goto (-36), 3) := dc9_167 (by decide +kernel)
def h_MM_find_4 (G : mG) (d : Nat) (a0 : Nat) (l1 : Int) (l2 : Int) (l3 : Int) (M : mM) (Q : Int → mM → Prop) : Prop := mWm G y_MM_find (d + 1) 4 [vr a0, vi l1, vi l2, vi l3] [] M (fun r9 M9 => ∃ x9, r9 = some (vi x9) ∧ Q x9 M9)
theorem k_MM_find {G : mG} {d : Nat} {a0 : Nat} {l1 : Int} {M : mM} {Q : Int → mM → Prop} (hO : mOk M) (hi_l1 : i32 l1)
    (h : h_MM_find_4 G d a0 l1 (-1) 0 M Q) :
    Ci G y_MM_find (d + 1) [vr a0, vi l1] M Q := by
  refine wm_open (y := y_MM_find) rfl (Nat.le_of_ble_eq_true rfl) (L := [vr a0, vi l1, vd, vd]) rfl ?_
  refine wm_iconst d_MM_find_0 ?_
  refine wm_istore_n d_MM_find_1 rfl (by decide) (L' := [vr a0, vi l1, vi (-1), vd]) rfl ?_
  refine wm_iconst d_MM_find_2 ?_
  refine wm_istore_n d_MM_find_3 rfl (by decide) (L' := [vr a0, vi l1, vi (-1), vi 0]) rfl ?_
  exact h
theorem k_MM_find_4 {G : mG} {d : Nat} {a0 : Nat} {l1 : Int} {l2 : Int} {l3 : Int} {M : mM} {Q : Int → mM → Prop} (hO : mOk M) (hi_l1 : i32 l1) (hi_l2 : i32 l2) (hi_l3 : i32 l3)
    (h : mK M a0 = 14 ∧ mK M (mR M a0 13) = 15 ∧ ((mI M (mR M a0 13) 1 ≤ l3) → (Q l2 M)) ∧ (¬ (mI M (mR M a0 13) 1 ≤ l3) → (Ci G y_MN_at d [vr (mR M a0 13), vi l3] M (fun x6 M5 => i32 x6 ∧ mOk M5 ∧ (mK M5 a0 = 14 ∧ Ci G y_MM_sameWord d [vr a0, vi x6, vi l1] M5 (fun x10 M9 => i32 x10 ∧ mOk M9 ∧ (∀ v13 : Int, v13 = (if (x10 = 0) then l2 else l3) → h_MM_find_4 G d a0 l1 v13 (l3 + 1) M9 Q))))))) :
    h_MM_find_4 G d a0 l1 l2 l3 M Q := by
  unfold h_MM_find_4
  obtain ⟨h1, h⟩ := h
  obtain ⟨h2, h⟩ := h
  refine wm_iload_n d_MM_find_4 rfl rfl ?_
  refine wm_aload_n d_MM_find_5 rfl rfl ?_
  refine gf_MM_45 rfl d_MM_find_6 h1 ?_
  refine gf_MM_145 rfl d_MM_find_9 h2 ?_
  refine wm_icmp_ge (tgt := 43) d_MM_find_12 rfl hi_l3 (hO _ _).1 (fun c4 => ?_) (fun c4 => ?_)
  · replace h := h.1 c4
    refine wm_iload_n d_MM_find_43 rfl rfl ?_
    refine wm_ireturn d_MM_find_44 rfl rfl ?_
    exact ⟨_, rfl, h⟩
  · replace h := h.2 c4
    refine wm_aload_n d_MM_find_15 rfl rfl ?_
    refine wm_aload_n d_MM_find_16 rfl rfl ?_
    refine gf_MM_45 rfl d_MM_find_17 h1 ?_
    refine wm_iload_n d_MM_find_20 rfl rfl ?_
    refine cf_MM_155 rfl d_MM_find_21 h2 (Nat.le_of_ble_eq_true rfl) (Ci.mono h (fun x6 M5 h => ?_))
    obtain ⟨h7, hOM5, h⟩ := h
    obtain ⟨h8, h⟩ := h
    refine wm_iload_n d_MM_find_24 rfl rfl ?_
    refine cf_MM_330 rfl d_MM_find_25 h8 (Nat.le_of_ble_eq_true rfl) (Ci.mono h (fun x10 M9 h => ?_))
    obtain ⟨h11, hOM9, h⟩ := h
    have hJ : ∀ v13 : Int, v13 = (if (x10 = 0) then l2 else l3) → mWm G y_MM_find (d + 1) 36 [vr a0, vi l1, vd, vi l3] [vi v13] M9 (fun r9 M9 => ∃ x9, r9 = some (vi x9) ∧ Q x9 M9) := by
      intro v13 e15
      have h := h v13 e15
      have h16 : i32 v13 := by rw [e15]; (repeat' split) <;> first | exact hi_l2 | exact hi_l3
      refine wm_istore_n d_MM_find_36 rfl (by decide) (L' := [vr a0, vi l1, vi v13, vi l3]) rfl ?_
      refine wm_iinc d_MM_find_37 (by decide) rfl (L' := [vr a0, vi l1, vi v13, vi (l3 + 1)]) rfl ?_
      refine wm_goto (tgt := 4) d_MM_find_40 rfl ?_
      exact h
    clear h
    refine wm_if_eq (tgt := 35) d_MM_find_28 rfl h11 (fun c12 => ?_) (fun c12 => ?_)
    · refine wm_iload_n d_MM_find_35 rfl rfl ?_
      refine wm_less (L' := [vr a0, vi l1, vd, vi l3]) ⟨Or.inr rfl, Or.inr rfl, Or.inl rfl, Or.inr rfl, trivial⟩ ?_
      exact hJ l2 (if_pos c12).symm
    · refine wm_iload_n d_MM_find_31 rfl rfl ?_
      refine wm_goto (tgt := 36) d_MM_find_32 rfl ?_
      refine wm_less (L' := [vr a0, vi l1, vd, vi l3]) ⟨Or.inr rfl, Or.inr rfl, Or.inl rfl, Or.inr rfl, trivial⟩ ?_
      exact hJ l3 (if_neg c12).symm
theorem d_MM_know_0 : decode y_MM_know.2.1 0 = .ok (.aload_n 0, 1) := dc9_42 (by decide +kernel)
theorem d_MM_know_1 : decode y_MM_know.2.1 1 = .ok (.getfield 45, 3) := dc9_180 (by decide +kernel)
theorem d_MM_know_4 : decode y_MM_know.2.1 4 = .ok (.iload_n 1, 1) := dc9_27 (by decide +kernel)
theorem d_MM_know_5 : decode y_MM_know.2.1 5 = .ok (.invokevirtual 152, 3) := dc9_182 (by decide +kernel)
theorem d_MM_know_8 : decode y_MM_know.2.1 8 = .ok (.aload_n 0, 1) := dc9_42 (by decide +kernel)
theorem d_MM_know_9 : decode y_MM_know.2.1 9 = .ok (.getfield 48, 3) := dc9_180 (by decide +kernel)
theorem d_MM_know_12 : decode y_MM_know.2.1 12 = .ok (.iload_n 2, 1) := dc9_28 (by decide +kernel)
theorem d_MM_know_13 : decode y_MM_know.2.1 13 = .ok (.invokevirtual 152, 3) := dc9_182 (by decide +kernel)
theorem d_MM_know_16 : decode y_MM_know.2.1 16 = .ok (.aload_n 0, 1) := dc9_42 (by decide +kernel)
theorem d_MM_know_17 : decode y_MM_know.2.1 17 = .ok (.getfield 51, 3) := dc9_180 (by decide +kernel)
theorem d_MM_know_20 : decode y_MM_know.2.1 20 = .ok (.iload_n 3, 1) := dc9_29 (by decide +kernel)
theorem d_MM_know_21 : decode y_MM_know.2.1 21 = .ok (.invokevirtual 152, 3) := dc9_182 (by decide +kernel)
theorem d_MM_know_24 : decode y_MM_know.2.1 24 = .ok (.return_, 1) := dc9_177 (by decide +kernel)
theorem k_MM_know {G : mG} {d : Nat} {a0 : Nat} {l1 : Int} {l2 : Int} {l3 : Int} {M : mM} {Q : mM → Prop} (hO : mOk M) (hi_l1 : i32 l1) (hi_l2 : i32 l2) (hi_l3 : i32 l3)
    (h : mK M a0 = 14 ∧ mK M (mR M a0 13) = 15 ∧ Cv G y_MN_add d [vr (mR M a0 13), vi l1] M (fun M3 => mOk M3 ∧ (mK M3 a0 = 14 ∧ mK M3 (mR M3 a0 14) = 15 ∧ Cv G y_MN_add d [vr (mR M3 a0 14), vi l2] M3 (fun M8 => mOk M8 ∧ (mK M8 a0 = 14 ∧ mK M8 (mR M8 a0 15) = 15 ∧ Cv G y_MN_add d [vr (mR M8 a0 15), vi l3] M8 (fun M13 => mOk M13 ∧ (Q M13))))))) :
    Cv G y_MM_know (d + 1) [vr a0, vi l1, vi l2, vi l3] M Q := by
  refine wm_open (y := y_MM_know) rfl (Nat.le_of_ble_eq_true rfl) (L := [vr a0, vi l1, vi l2, vi l3]) rfl ?_
  obtain ⟨h1, h⟩ := h
  obtain ⟨h2, h⟩ := h
  refine wm_aload_n d_MM_know_0 rfl rfl ?_
  refine gf_MM_45 rfl d_MM_know_1 h1 ?_
  refine wm_iload_n d_MM_know_4 rfl rfl ?_
  refine cf_MM_152 rfl d_MM_know_5 h2 (Nat.le_of_ble_eq_true rfl) (Cv.mono h (fun M3 h => ?_))
  obtain ⟨hOM3, h⟩ := h
  obtain ⟨h6, h⟩ := h
  obtain ⟨h7, h⟩ := h
  refine wm_aload_n d_MM_know_8 rfl rfl ?_
  refine gf_MM_48 rfl d_MM_know_9 h6 ?_
  refine wm_iload_n d_MM_know_12 rfl rfl ?_
  refine cf_MM_152 rfl d_MM_know_13 h7 (Nat.le_of_ble_eq_true rfl) (Cv.mono h (fun M8 h => ?_))
  obtain ⟨hOM8, h⟩ := h
  obtain ⟨h11, h⟩ := h
  obtain ⟨h12, h⟩ := h
  refine wm_aload_n d_MM_know_16 rfl rfl ?_
  refine gf_MM_51 rfl d_MM_know_17 h11 ?_
  refine wm_iload_n d_MM_know_20 rfl rfl ?_
  refine cf_MM_152 rfl d_MM_know_21 h12 (Nat.le_of_ble_eq_true rfl) (Cv.mono h (fun M13 h => ?_))
  obtain ⟨hOM13, h⟩ := h
  refine wm_return d_MM_know_24 rfl ?_
  exact ⟨rfl, h⟩
theorem d_MM_look_0 : decode y_MM_look.2.1 0 = .ok (.aload_n 0, 1) := dc9_42 (by decide +kernel)
theorem d_MM_look_1 : decode y_MM_look.2.1 1 = .ok (.getfield 60, 3) := dc9_180 (by decide +kernel)
theorem d_MM_look_4 : decode y_MM_look.2.1 4 = .ok (.iconst 0, 1) := dc9_3 (by decide +kernel)
theorem d_MM_look_5 : decode y_MM_look.2.1 5 = .ok (.putfield 145, 3) := dc9_181 (by decide +kernel)
theorem d_MM_look_8 : decode y_MM_look.2.1 8 = .ok (.aload_n 0, 1) := dc9_42 (by decide +kernel)
theorem d_MM_look_9 : decode y_MM_look.2.1 9 = .ok (.getfield 57, 3) := dc9_180 (by decide +kernel)
theorem d_MM_look_12 : decode y_MM_look.2.1 12 = .ok (.iconst 0, 1) := dc9_3 (by decide +kernel)
theorem d_MM_look_13 : decode y_MM_look.2.1 13 = .ok (.putfield 145, 3) := dc9_181 (by decide +kernel)
theorem d_MM_look_16 : decode y_MM_look.2.1 16 = .ok (.aload_n 0, 1) := dc9_42 (by decide +kernel)
theorem d_MM_look_17 : decode y_MM_look.2.1 17 = .ok (.getfield 60, 3) := dc9_180 (by decide +kernel)
theorem d_MM_look_20 : decode y_MM_look.2.1 20 = .ok (.iload_n 1, 1) := dc9_27 (by decide +kernel)
theorem d_MM_look_21 : decode y_MM_look.2.1 21 = .ok (.invokevirtual 152, 3) := dc9_182 (by decide +kernel)
theorem d_MM_look_24 : decode y_MM_look.2.1 24 = .ok (.aload_n 0, 1) := dc9_42 (by decide +kernel)
theorem d_MM_look_25 : decode y_MM_look.2.1 25 = .ok (.getfield 60, 3) := dc9_180 (by decide +kernel)
theorem d_MM_look_28 : decode y_MM_look.2.1 28 = .ok (.iconst 0, 1) := dc9_3 (by decide +kernel)
theorem d_MM_look_29 : decode y_MM_look.2.1 29 = .ok (.invokevirtual 152, 3) := dc9_182 (by decide +kernel)
theorem d_MM_look_32 : decode y_MM_look.2.1 32 = .ok (.aload_n 0, 1) := dc9_42 (by decide +kernel)
theorem d_MM_look_33 : decode y_MM_look.2.1 33 = .ok (.getfield 60, 3) := dc9_180 (by decide +kernel)
theorem d_MM_look_36 : decode y_MM_look.2.1 36 = .ok (.getfield 145, 3) := dc9_180 (by decide +kernel)
theorem d_MM_look_39 : decode y_MM_look.2.1 39 = .ok (.ifCond .le 135, 3) := dc9_158 (by decide +kernel)
theorem d_MM_look_42 : decode y_MM_look.2.1 42 = .ok (.aload_n 0, 1) := dc9_42 (by decide +kernel)
theorem d_MM_look_43 : decode y_MM_look.2.1 43 = .ok (.getfield 267, 3) := dc9_180 (by decide +kernel)
theorem d_MM_look_46 : decode y_MM_look.2.1 46 = .ok (.ifCond .ne 128, 3) := dc9_154 (by decide +kernel)
theorem d_MM_look_49 : decode y_MM_look.2.1 49 = .ok (.aload_n 0, 1) := dc9_42 (by decide +kernel)
theorem d_MM_look_50 : decode y_MM_look.2.1 50 = .ok (.getfield 60, 3) := dc9_180 (by decide +kernel)
theorem d_MM_look_174 : decode y_MM_look.2.1 174 = .ok (.aload_n 0, 1) := dc9_42 (by decide +kernel)
theorem d_MM_look_175 : decode y_MM_look.2.1 175 = .ok (.getfield 267, 3) := dc9_180 (by decide +kernel)
theorem d_MM_look_178 : decode y_MM_look.2.1 178 = .ok (.ifCond .ne 18, 3) := dc9_154 (by decide +kernel)
theorem d_MM_look_181 : decode y_MM_look.2.1 181 = .ok (.aload_n 0, 1) := dc9_42 (by decide +kernel)
theorem d_MM_look_182 : decode y_MM_look.2.1 182 = .ok (.getfield 57, 3) := dc9_180 (by decide +kernel)
theorem d_MM_look_185 : decode y_MM_look.2.1 185 = .ok (.invokevirtual 341, 3) := dc9_182 (by decide +kernel)
theorem d_MM_look_188 : decode y_MM_look.2.1 188 = .ok (.iconst 1, 1) := dc9_4 (by decide +kernel)
theorem d_MM_look_189 : decode y_MM_look.2.1 189 = .ok (.if_icmp .ne 7, 3) := dc9_160 (by decide +kernel)
theorem d_MM_look_192 : decode y_MM_look.2.1 192 = .ok (.iconst 1, 1) := dc9_4 (by decide +kernel)
theorem d_MM_look_193 : decode y_MM_look.2.1 193 = .ok (.goto 4, 3) := dc9_167 (by decide +kernel)
theorem d_MM_look_196 : decode y_MM_look.2.1 196 = .ok (.iconst 0, 1) := dc9_3 (by decide +kernel)
theorem d_MM_look_197 : decode y_MM_look.2.1 197 = .ok (.ireturn, 1) := dc9_172 (by decide +kernel)
theorem d_MM_look_53 : decode y_MM_look.2.1 53 = .ok (.invokevirtual 232, 3) := dc9_182 (by decide +kernel)
theorem d_MM_look_56 : decode y_MM_look.2.1 56 = .ok (.istore_n 3, 1) := dc9_62 (by decide +kernel)
theorem d_MM_look_57 : decode y_MM_look.2.1 57 = .ok (.aload_n 0, 1) := dc9_42 (by decide +kernel)
theorem d_MM_look_58 : decode y_MM_look.2.1 58 = .ok (.getfield 60, 3) := dc9_180 (by decide +kernel)
theorem d_MM_look_61 : decode y_MM_look.2.1 61 = .ok (.invokevirtual 232, 3) := dc9_182 (by decide +kernel)
theorem d_MM_look_64 : decode y_MM_look.2.1 64 = .ok (.istore 4, 2) := dc9_54 (by decide +kernel)
theorem d_MM_look_66 : decode y_MM_look.2.1 66 = .ok (.aload_n 0, 1) := dc9_42 (by decide +kernel)
theorem d_MM_look_67 : decode y_MM_look.2.1 67 = .ok (.getfield 38, 3) := dc9_180 (by decide +kernel)
theorem d_MM_look_70 : decode y_MM_look.2.1 70 = .ok (.getfield 287, 3) := dc9_180 (by decide +kernel)
theorem d_MM_look_73 : decode y_MM_look.2.1 73 = .ok (.iload 4, 2) := dc9_21 (by decide +kernel)
theorem d_MM_look_75 : decode y_MM_look.2.1 75 = .ok (.invokevirtual 155, 3) := dc9_182 (by decide +kernel)
theorem d_MM_look_78 : decode y_MM_look.2.1 78 = .ok (.istore 5, 2) := dc9_54 (by decide +kernel)
theorem d_MM_look_80 : decode y_MM_look.2.1 80 = .ok (.iload_n 3, 1) := dc9_29 (by decide +kernel)
theorem d_MM_look_81 : decode y_MM_look.2.1 81 = .ok (.iconst 1, 1) := dc9_4 (by decide +kernel)
theorem d_MM_look_82 : decode y_MM_look.2.1 82 = .ok (.if_icmp .eq 8, 3) := dc9_159 (by decide +kernel)
theorem d_MM_look_85 : decode y_MM_look.2.1 85 = .ok (.iload 5, 2) := dc9_21 (by decide +kernel)
theorem d_MM_look_87 : decode y_MM_look.2.1 87 = .ok (.ifCond .ge 13, 3) := dc9_156 (by decide +kernel)
theorem d_MM_look_100 : decode y_MM_look.2.1 100 = .ok (.aload_n 0, 1) := dc9_42 (by decide +kernel)
theorem d_MM_look_101 : decode y_MM_look.2.1 101 = .ok (.getfield 60, 3) := dc9_180 (by decide +kernel)
theorem d_MM_look_104 : decode y_MM_look.2.1 104 = .ok (.iload 4, 2) := dc9_21 (by decide +kernel)
theorem d_MM_look_90 : decode y_MM_look.2.1 90 = .ok (.aload_n 0, 1) := dc9_42 (by decide +kernel)
theorem d_MM_look_91 : decode y_MM_look.2.1 91 = .ok (.iload 4, 2) := dc9_21 (by decide +kernel)
theorem d_MM_look_93 : decode y_MM_look.2.1 93 = .ok (.iload_n 2, 1) := dc9_28 (by decide +kernel)
theorem d_MM_look_94 : decode y_MM_look.2.1 94 = .ok (.invokevirtual 334, 3) := dc9_182 (by decide +kernel)
theorem d_MM_look_97 : decode y_MM_look.2.1 97 = .ok (.goto 74, 3) := dc9_167 (by decide +kernel)
theorem d_MM_look_171 : decode y_MM_look.2.1 171 = .ok (.goto (-139), 3) := dc9_167 (by decide +kernel)
theorem d_MM_look_106 : decode y_MM_look.2.1 106 = .ok (.invokevirtual 152, 3) := dc9_182 (by decide +kernel)
theorem d_MM_look_109 : decode y_MM_look.2.1 109 = .ok (.aload_n 0, 1) := dc9_42 (by decide +kernel)
theorem d_MM_look_110 : decode y_MM_look.2.1 110 = .ok (.getfield 60, 3) := dc9_180 (by decide +kernel)
theorem d_MM_look_113 : decode y_MM_look.2.1 113 = .ok (.iconst 1, 1) := dc9_4 (by decide +kernel)
theorem d_MM_look_114 : decode y_MM_look.2.1 114 = .ok (.invokevirtual 152, 3) := dc9_182 (by decide +kernel)
theorem d_MM_look_117 : decode y_MM_look.2.1 117 = .ok (.aload_n 0, 1) := dc9_42 (by decide +kernel)
theorem d_MM_look_118 : decode y_MM_look.2.1 118 = .ok (.getfield 60, 3) := dc9_180 (by decide +kernel)
theorem d_MM_look_121 : decode y_MM_look.2.1 121 = .ok (.getfield 145, 3) := dc9_180 (by decide +kernel)
theorem d_MM_look_124 : decode y_MM_look.2.1 124 = .ok (.istore 6, 2) := dc9_54 (by decide +kernel)
theorem d_MM_look_126 : decode y_MM_look.2.1 126 = .ok (.iload 5, 2) := dc9_21 (by decide +kernel)
theorem d_MM_look_128 : decode y_MM_look.2.1 128 = .ok (.ifCond .lt 37, 3) := dc9_155 (by decide +kernel)
theorem d_MM_look_165 : decode y_MM_look.2.1 165 = .ok (.aload_n 0, 1) := dc9_42 (by decide +kernel)
theorem d_MM_look_166 : decode y_MM_look.2.1 166 = .ok (.iload 6, 2) := dc9_21 (by decide +kernel)
theorem d_MM_look_131 : decode y_MM_look.2.1 131 = .ok (.aload_n 0, 1) := dc9_42 (by decide +kernel)
theorem d_MM_look_132 : decode y_MM_look.2.1 132 = .ok (.getfield 60, 3) := dc9_180 (by decide +kernel)
theorem d_MM_look_135 : decode y_MM_look.2.1 135 = .ok (.iload 5, 2) := dc9_21 (by decide +kernel)
theorem d_MM_look_168 : decode y_MM_look.2.1 168 = .ok (.invokevirtual 338, 3) := dc9_182 (by decide +kernel)
theorem d_MM_look_137 : decode y_MM_look.2.1 137 = .ok (.invokevirtual 152, 3) := dc9_182 (by decide +kernel)
theorem d_MM_look_140 : decode y_MM_look.2.1 140 = .ok (.aload_n 0, 1) := dc9_42 (by decide +kernel)
theorem d_MM_look_141 : decode y_MM_look.2.1 141 = .ok (.getfield 60, 3) := dc9_180 (by decide +kernel)
theorem d_MM_look_144 : decode y_MM_look.2.1 144 = .ok (.iconst 0, 1) := dc9_3 (by decide +kernel)
theorem d_MM_look_145 : decode y_MM_look.2.1 145 = .ok (.invokevirtual 152, 3) := dc9_182 (by decide +kernel)
theorem d_MM_look_148 : decode y_MM_look.2.1 148 = .ok (.aload_n 0, 1) := dc9_42 (by decide +kernel)
theorem d_MM_look_149 : decode y_MM_look.2.1 149 = .ok (.getfield 38, 3) := dc9_180 (by decide +kernel)
theorem d_MM_look_152 : decode y_MM_look.2.1 152 = .ok (.getfield 290, 3) := dc9_180 (by decide +kernel)
theorem d_MM_look_155 : decode y_MM_look.2.1 155 = .ok (.iload 5, 2) := dc9_21 (by decide +kernel)
theorem d_MM_look_157 : decode y_MM_look.2.1 157 = .ok (.invokevirtual 155, 3) := dc9_182 (by decide +kernel)
theorem d_MM_look_160 : decode y_MM_look.2.1 160 = .ok (.istore 5, 2) := dc9_54 (by decide +kernel)
theorem d_MM_look_162 : decode y_MM_look.2.1 162 = .ok (.goto (-36), 3) := dc9_167 (by decide +kernel)
def h_MM_look_32 (G : mG) (d : Nat) (a0 : Nat) (l2 : Int) (M : mM) (Q : Int → mM → Prop) : Prop := mWm G y_MM_look (d + 1) 32 [vr a0, vd, vi l2, vd, vd, vd, vd] [] M (fun r9 M9 => ∃ x9, r9 = some (vi x9) ∧ Q x9 M9)
def h_MM_look_126 (G : mG) (d : Nat) (a0 : Nat) (l2 : Int) (l5 : Int) (l6 : Int) (M : mM) (Q : Int → mM → Prop) : Prop := mWm G y_MM_look (d + 1) 126 [vr a0, vd, vi l2, vd, vd, vi l5, vi l6] [] M (fun r9 M9 => ∃ x9, r9 = some (vi x9) ∧ Q x9 M9)
theorem k_MM_look {G : mG} {d : Nat} {a0 : Nat} {l1 : Int} {l2 : Int} {M : mM} {Q : Int → mM → Prop} (hO : mOk M) (hi_l1 : i32 l1) (hi_l2 : i32 l2)
    (h : mK M a0 = 14 ∧ mK M (mR M a0 20) = 15 ∧ ∀ M3, M3 = mUI M (mR M a0 20) 1 0 → mK M3 (mR M3 a0 19) = 15 ∧ ∀ M6, M6 = mUI M3 (mR M3 a0 19) 1 0 → mK M6 (mR M6 a0 20) = 15 ∧ Cv G y_MN_add d [vr (mR M6 a0 20), vi l1] M6 (fun M9 => mOk M9 ∧ (mK M9 a0 = 14 ∧ mK M9 (mR M9 a0 20) = 15 ∧ Cv G y_MN_add d [vr (mR M9 a0 20), vi 0] M9 (fun M14 => mOk M14 ∧ (h_MM_look_32 G d a0 l2 M14 Q))))) :
    Ci G y_MM_look (d + 1) [vr a0, vi l1, vi l2] M Q := by
  refine wm_open (y := y_MM_look) rfl (Nat.le_of_ble_eq_true rfl) (L := [vr a0, vi l1, vi l2, vd, vd, vd, vd]) rfl ?_
  obtain ⟨h1, h⟩ := h
  obtain ⟨h2, h⟩ := h
  obtain ⟨M3, e4⟩ : ∃ M3, M3 = mUI M (mR M a0 20) 1 0 := ⟨_, rfl⟩
  replace h := h M3 e4
  obtain ⟨h5, h⟩ := h
  obtain ⟨M6, e7⟩ : ∃ M6, M6 = mUI M3 (mR M3 a0 19) 1 0 := ⟨_, rfl⟩
  replace h := h M6 e7
  obtain ⟨h8, h⟩ := h
  refine wm_aload_n d_MM_look_0 rfl rfl ?_
  refine gf_MM_60 rfl d_MM_look_1 h1 ?_
  refine wm_iconst d_MM_look_4 ?_
  have hOM3 : mOk M3 := by rw [e4]; exact mOk_UI hO ⟨by decide, by decide⟩
  refine pf_MM_145 rfl d_MM_look_5 h2 ⟨by decide, by decide⟩ e4 ?_
  refine wm_aload_n d_MM_look_8 rfl rfl ?_
  refine gf_MM_57 rfl d_MM_look_9 (by rw [e4]; exact h1) ?_
  refine wm_iconst d_MM_look_12 ?_
  have hOM6 : mOk M6 := by rw [e7]; exact mOk_UI hOM3 ⟨by decide, by decide⟩
  refine pf_MM_145 rfl d_MM_look_13 h5 ⟨by decide, by decide⟩ e7 ?_
  refine wm_aload_n d_MM_look_16 rfl rfl ?_
  refine gf_MM_60 rfl d_MM_look_17 (by rw [e7, e4]; exact h1) ?_
  refine wm_iload_n d_MM_look_20 rfl rfl ?_
  refine cf_MM_152 rfl d_MM_look_21 h8 (Nat.le_of_ble_eq_true rfl) (Cv.mono h (fun M9 h => ?_))
  obtain ⟨hOM9, h⟩ := h
  obtain ⟨h12, h⟩ := h
  obtain ⟨h13, h⟩ := h
  refine wm_aload_n d_MM_look_24 rfl rfl ?_
  refine gf_MM_60 rfl d_MM_look_25 h12 ?_
  refine wm_iconst d_MM_look_28 ?_
  refine cf_MM_152 rfl d_MM_look_29 h13 (Nat.le_of_ble_eq_true rfl) (Cv.mono h (fun M14 h => ?_))
  obtain ⟨hOM14, h⟩ := h
  refine wm_less (L' := [vr a0, vd, vi l2, vd, vd, vd, vd]) ⟨Or.inr rfl, Or.inl rfl, Or.inr rfl, Or.inl rfl, Or.inl rfl, Or.inl rfl, Or.inl rfl, trivial⟩ ?_
  exact h
theorem k_MM_look_32 {G : mG} {d : Nat} {a0 : Nat} {l2 : Int} {M : mM} {Q : Int → mM → Prop} (hO : mOk M) (hi_l2 : i32 l2)
    (h : mK M a0 = 14 ∧ mK M (mR M a0 20) = 15 ∧ (((mI M (mR M a0 20) 1 ≤ 0) ∨ (¬ (mI M a0 16 = 0))) → (((mI M a0 16 = 0) → (mK M (mR M a0 19) = 15 ∧ Ci G y_MN_last d [vr (mR M a0 19)] M (fun x28 M27 => i32 x28 ∧ mOk M27 ∧ (∀ v31 : Int, v31 = (if (x28 = 1) then 1 else 0) → Q v31 M27)))) ∧ (¬ (mI M a0 16 = 0) → (Q 0 M)))) ∧ (¬ ((mI M (mR M a0 20) 1 ≤ 0) ∨ (¬ (mI M a0 16 = 0))) → (Ci G y_MN_take d [vr (mR M a0 20)] M (fun x39 M38 => i32 x39 ∧ mOk M38 ∧ (mK M38 a0 = 14 ∧ mK M38 (mR M38 a0 20) = 15 ∧ Ci G y_MN_take d [vr (mR M38 a0 20)] M38 (fun x44 M43 => i32 x44 ∧ mOk M43 ∧ (mK M43 a0 = 14 ∧ mK M43 (mR M43 a0 10) = 16 ∧ mK M43 (mR M43 (mR M43 a0 10) 4) = 15 ∧ Ci G y_MN_at d [vr (mR M43 (mR M43 a0 10) 4), vi x44] M43 (fun x50 M49 => i32 x50 ∧ mOk M49 ∧ ((((x39 = 1) ∨ (¬ (0 ≤ x50))) → (mK M49 a0 = 14 ∧ Cv G y_MM_lookAt d [vr a0, vi x44, vi l2] M49 (fun M57 => mOk M57 ∧ (h_MM_look_32 G d a0 l2 M57 Q)))) ∧ (¬ ((x39 = 1) ∨ (¬ (0 ≤ x50))) → (mK M49 a0 = 14 ∧ mK M49 (mR M49 a0 20) = 15 ∧ Cv G y_MN_add d [vr (mR M49 a0 20), vi x44] M49 (fun M63 => mOk M63 ∧ (mK M63 a0 = 14 ∧ mK M63 (mR M63 a0 20) = 15 ∧ Cv G y_MN_add d [vr (mR M63 a0 20), vi 1] M63 (fun M68 => mOk M68 ∧ (mK M68 a0 = 14 ∧ mK M68 (mR M68 a0 20) = 15 ∧ h_MM_look_126 G d a0 l2 x50 (mI M68 (mR M68 a0 20) 1) M68 Q))))))))))))))) :
    h_MM_look_32 G d a0 l2 M Q := by
  unfold h_MM_look_32
  obtain ⟨h17, h⟩ := h
  obtain ⟨h18, h⟩ := h
  refine wm_aload_n d_MM_look_32 rfl rfl ?_
  refine gf_MM_60 rfl d_MM_look_33 h17 ?_
  refine gf_MM_145 rfl d_MM_look_36 h18 ?_
  have hE0 : ((mI M (mR M a0 20) 1 ≤ 0) ∨ (¬ (mI M a0 16 = 0))) → mWm G y_MM_look (d + 1) 174 [vr a0, vd, vi l2, vd, vd, vd, vd] [] M (fun r9 M9 => ∃ x9, r9 = some (vi x9) ∧ Q x9 M9) := by
    intro q22
    have h := h.1 q22
    refine wm_aload_n d_MM_look_174 rfl rfl ?_
    refine gf_MM_267 rfl d_MM_look_175 h17 ?_
    refine wm_if_ne (tgt := 196) d_MM_look_178 rfl (hO _ _).1 (fun c25 => ?_) (fun c25 => ?_)
    · replace h := h.2 c25
      refine wm_iconst d_MM_look_196 ?_
      refine wm_ireturn d_MM_look_197 rfl (m_nb (by decide)) ?_
      exact ⟨_, rfl, h⟩
    · replace c25 := Classical.not_not.mp c25
      replace h := h.1 c25
      obtain ⟨h26, h⟩ := h
      refine wm_aload_n d_MM_look_181 rfl rfl ?_
      refine gf_MM_57 rfl d_MM_look_182 h17 ?_
      refine cf_MM_341 rfl d_MM_look_185 h26 (Nat.le_of_ble_eq_true rfl) (Ci.mono h (fun x28 M27 h => ?_))
      obtain ⟨h29, hOM27, h⟩ := h
      refine wm_iconst d_MM_look_188 ?_
      have hJ : ∀ v31 : Int, v31 = (if (x28 = 1) then 1 else 0) → mWm G y_MM_look (d + 1) 197 [vd, vd, vd, vd, vd, vd, vd] [vi v31] M27 (fun r9 M9 => ∃ x9, r9 = some (vi x9) ∧ Q x9 M9) := by
        intro v31 e33
        have h := h v31 e33
        have h34 : i32 v31 := by rw [e33]; (repeat' split) <;> first | exact ⟨by decide, by decide⟩ | exact ⟨by decide, by decide⟩
        have h35 : (v31 = 0 ∨ v31 = 1) := by rw [e33]; (repeat' split) <;> decide
        refine wm_ireturn d_MM_look_197 rfl (m_nb h35) ?_
        exact ⟨_, rfl, h⟩
      clear h
      refine wm_icmp_ne (tgt := 196) d_MM_look_189 rfl h29 ⟨by decide, by decide⟩ (fun c30 => ?_) (fun c30 => ?_)
      · refine wm_iconst d_MM_look_196 ?_
        refine wm_less (L' := [vd, vd, vd, vd, vd, vd, vd]) ⟨Or.inl rfl, Or.inl rfl, Or.inl rfl, Or.inl rfl, Or.inl rfl, Or.inl rfl, Or.inl rfl, trivial⟩ ?_
        exact hJ 0 (if_neg c30).symm
      · replace c30 := Classical.not_not.mp c30
        refine wm_iconst d_MM_look_192 ?_
        refine wm_goto (tgt := 197) d_MM_look_193 rfl ?_
        refine wm_less (L' := [vd, vd, vd, vd, vd, vd, vd]) ⟨Or.inl rfl, Or.inl rfl, Or.inl rfl, Or.inl rfl, Or.inl rfl, Or.inl rfl, Or.inl rfl, trivial⟩ ?_
        exact hJ 1 (if_pos c30).symm
  have hE1 : ¬ ((mI M (mR M a0 20) 1 ≤ 0) ∨ (¬ (mI M a0 16 = 0))) → mWm G y_MM_look (d + 1) 49 [vr a0, vd, vi l2, vd, vd, vd, vd] [] M (fun r9 M9 => ∃ x9, r9 = some (vi x9) ∧ Q x9 M9) := by
    intro q37
    have h := h.2 q37
    refine wm_aload_n d_MM_look_49 rfl rfl ?_
    refine gf_MM_60 rfl d_MM_look_50 h17 ?_
    refine cf_MM_232 rfl d_MM_look_53 h18 (Nat.le_of_ble_eq_true rfl) (Ci.mono h (fun x39 M38 h => ?_))
    obtain ⟨h40, hOM38, h⟩ := h
    obtain ⟨h41, h⟩ := h
    obtain ⟨h42, h⟩ := h
    refine wm_istore_n d_MM_look_56 rfl (by decide) (L' := [vr a0, vd, vi l2, vi x39, vd, vd, vd]) rfl ?_
    refine wm_aload_n d_MM_look_57 rfl rfl ?_
    refine gf_MM_60 rfl d_MM_look_58 h41 ?_
    refine cf_MM_232 rfl d_MM_look_61 h42 (Nat.le_of_ble_eq_true rfl) (Ci.mono h (fun x44 M43 h => ?_))
    obtain ⟨h45, hOM43, h⟩ := h
    obtain ⟨h46, h⟩ := h
    obtain ⟨h47, h⟩ := h
    obtain ⟨h48, h⟩ := h
    refine wm_istore d_MM_look_64 (by decide) (L' := [vr a0, vd, vi l2, vi x39, vi x44, vd, vd]) rfl ?_
    refine wm_aload_n d_MM_look_66 rfl rfl ?_
    refine gf_MM_38 rfl d_MM_look_67 h46 ?_
    refine gf_MM_287 rfl d_MM_look_70 h47 ?_
    refine wm_iload d_MM_look_73 rfl ?_
    refine cf_MM_155 rfl d_MM_look_75 h48 (Nat.le_of_ble_eq_true rfl) (Ci.mono h (fun x50 M49 h => ?_))
    obtain ⟨h51, hOM49, h⟩ := h
    refine wm_istore d_MM_look_78 (by decide) (L' := [vr a0, vd, vi l2, vi x39, vi x44, vi x50, vd]) rfl ?_
    refine wm_iload_n d_MM_look_80 rfl rfl ?_
    refine wm_iconst d_MM_look_81 ?_
    have hE0 : ((x39 = 1) ∨ (¬ (0 ≤ x50))) → mWm G y_MM_look (d + 1) 90 [vr a0, vd, vi l2, vi x39, vi x44, vi x50, vd] [] M49 (fun r9 M9 => ∃ x9, r9 = some (vi x9) ∧ Q x9 M9) := by
      intro q55
      have h := h.1 q55
      obtain ⟨h56, h⟩ := h
      refine wm_aload_n d_MM_look_90 rfl rfl ?_
      refine wm_iload d_MM_look_91 rfl ?_
      refine wm_iload_n d_MM_look_93 rfl rfl ?_
      refine cf_MM_334 rfl d_MM_look_94 h56 (Nat.le_of_ble_eq_true rfl) (Cv.mono h (fun M57 h => ?_))
      obtain ⟨hOM57, h⟩ := h
      refine wm_goto (tgt := 171) d_MM_look_97 rfl ?_
      refine wm_goto (tgt := 32) d_MM_look_171 rfl ?_
      refine wm_less (L' := [vr a0, vd, vi l2, vd, vd, vd, vd]) ⟨Or.inr rfl, Or.inl rfl, Or.inr rfl, Or.inl rfl, Or.inl rfl, Or.inl rfl, Or.inl rfl, trivial⟩ ?_
      exact h
    have hE1 : ¬ ((x39 = 1) ∨ (¬ (0 ≤ x50))) → mWm G y_MM_look (d + 1) 100 [vr a0, vd, vi l2, vi x39, vi x44, vi x50, vd] [] M49 (fun r9 M9 => ∃ x9, r9 = some (vi x9) ∧ Q x9 M9) := by
      intro q60
      have h := h.2 q60
      obtain ⟨h61, h⟩ := h
      obtain ⟨h62, h⟩ := h
      refine wm_aload_n d_MM_look_100 rfl rfl ?_
      refine gf_MM_60 rfl d_MM_look_101 h61 ?_
      refine wm_iload d_MM_look_104 rfl ?_
      refine cf_MM_152 rfl d_MM_look_106 h62 (Nat.le_of_ble_eq_true rfl) (Cv.mono h (fun M63 h => ?_))
      obtain ⟨hOM63, h⟩ := h
      obtain ⟨h66, h⟩ := h
      obtain ⟨h67, h⟩ := h
      refine wm_aload_n d_MM_look_109 rfl rfl ?_
      refine gf_MM_60 rfl d_MM_look_110 h66 ?_
      refine wm_iconst d_MM_look_113 ?_
      refine cf_MM_152 rfl d_MM_look_114 h67 (Nat.le_of_ble_eq_true rfl) (Cv.mono h (fun M68 h => ?_))
      obtain ⟨hOM68, h⟩ := h
      obtain ⟨h71, h⟩ := h
      obtain ⟨h72, h⟩ := h
      refine wm_aload_n d_MM_look_117 rfl rfl ?_
      refine gf_MM_60 rfl d_MM_look_118 h71 ?_
      refine gf_MM_145 rfl d_MM_look_121 h72 ?_
      refine wm_istore d_MM_look_124 (by decide) (L' := [vr a0, vd, vi l2, vi x39, vi x44, vi x50, vi (mI M68 (mR M68 a0 20) 1)]) rfl ?_
      refine wm_less (L' := [vr a0, vd, vi l2, vd, vd, vi x50, vi (mI M68 (mR M68 a0 20) 1)]) ⟨Or.inr rfl, Or.inl rfl, Or.inr rfl, Or.inl rfl, Or.inl rfl, Or.inr rfl, Or.inr rfl, trivial⟩ ?_
      exact h
    clear h
    refine wm_icmp_eq (tgt := 90) d_MM_look_82 rfl h40 ⟨by decide, by decide⟩ (fun c53 => ?_) (fun c53 => ?_)
    · exact hE0 (Or.inl c53)
    · refine wm_iload d_MM_look_85 rfl ?_
      refine wm_if_ge (tgt := 100) d_MM_look_87 rfl h51 (fun c52 => ?_) (fun c52 => ?_)
      · exact hE1 (fun z73 => Or.elim z73 c53 (fun z74 => z74 c52))
      · exact hE0 (Or.inr c52)
  clear h
  refine wm_if_le (tgt := 174) d_MM_look_39 rfl (hO _ _).1 (fun c20 => ?_) (fun c20 => ?_)
  · exact hE0 (Or.inl c20)
  · refine wm_aload_n d_MM_look_42 rfl rfl ?_
    refine gf_MM_267 rfl d_MM_look_43 h17 ?_
    refine wm_if_ne (tgt := 174) d_MM_look_46 rfl (hO _ _).1 (fun c19 => ?_) (fun c19 => ?_)
    · exact hE0 (Or.inr c19)
    · replace c19 := Classical.not_not.mp c19
      exact hE1 (fun z75 => Or.elim z75 c20 (fun z76 => z76 c19))
theorem k_MM_look_126 {G : mG} {d : Nat} {a0 : Nat} {l2 : Int} {l5 : Int} {l6 : Int} {M : mM} {Q : Int → mM → Prop} (hO : mOk M) (hi_l2 : i32 l2) (hi_l5 : i32 l5) (hi_l6 : i32 l6)
    (h : ((l5 < 0) → (mK M a0 = 14 ∧ Cv G y_MM_turn d [vr a0, vi l6] M (fun M80 => mOk M80 ∧ (h_MM_look_32 G d a0 l2 M80 Q)))) ∧ (¬ (l5 < 0) → (mK M a0 = 14 ∧ mK M (mR M a0 20) = 15 ∧ Cv G y_MN_add d [vr (mR M a0 20), vi l5] M (fun M85 => mOk M85 ∧ (mK M85 a0 = 14 ∧ mK M85 (mR M85 a0 20) = 15 ∧ Cv G y_MN_add d [vr (mR M85 a0 20), vi 0] M85 (fun M90 => mOk M90 ∧ (mK M90 a0 = 14 ∧ mK M90 (mR M90 a0 10) = 16 ∧ mK M90 (mR M90 (mR M90 a0 10) 5) = 15 ∧ Ci G y_MN_at d [vr (mR M90 (mR M90 a0 10) 5), vi l5] M90 (fun x97 M96 => i32 x97 ∧ mOk M96 ∧ (h_MM_look_126 G d a0 l2 x97 l6 M96 Q))))))))) :
    h_MM_look_126 G d a0 l2 l5 l6 M Q := by
  unfold h_MM_look_126
  refine wm_iload d_MM_look_126 rfl ?_
  refine wm_if_lt (tgt := 165) d_MM_look_128 rfl hi_l5 (fun c78 => ?_) (fun c78 => ?_)
  · replace h := h.1 c78
    obtain ⟨h79, h⟩ := h
    refine wm_aload_n d_MM_look_165 rfl rfl ?_
    refine wm_iload d_MM_look_166 rfl ?_
    refine cf_MM_338 rfl d_MM_look_168 h79 (Nat.le_of_ble_eq_true rfl) (Cv.mono h (fun M80 h => ?_))
    obtain ⟨hOM80, h⟩ := h
    refine wm_goto (tgt := 32) d_MM_look_171 rfl ?_
    refine wm_less (L' := [vr a0, vd, vi l2, vd, vd, vd, vd]) ⟨Or.inr rfl, Or.inl rfl, Or.inr rfl, Or.inl rfl, Or.inl rfl, Or.inl rfl, Or.inl rfl, trivial⟩ ?_
    exact h
  · replace h := h.2 c78
    obtain ⟨h83, h⟩ := h
    obtain ⟨h84, h⟩ := h
    refine wm_aload_n d_MM_look_131 rfl rfl ?_
    refine gf_MM_60 rfl d_MM_look_132 h83 ?_
    refine wm_iload d_MM_look_135 rfl ?_
    refine cf_MM_152 rfl d_MM_look_137 h84 (Nat.le_of_ble_eq_true rfl) (Cv.mono h (fun M85 h => ?_))
    obtain ⟨hOM85, h⟩ := h
    obtain ⟨h88, h⟩ := h
    obtain ⟨h89, h⟩ := h
    refine wm_aload_n d_MM_look_140 rfl rfl ?_
    refine gf_MM_60 rfl d_MM_look_141 h88 ?_
    refine wm_iconst d_MM_look_144 ?_
    refine cf_MM_152 rfl d_MM_look_145 h89 (Nat.le_of_ble_eq_true rfl) (Cv.mono h (fun M90 h => ?_))
    obtain ⟨hOM90, h⟩ := h
    obtain ⟨h93, h⟩ := h
    obtain ⟨h94, h⟩ := h
    obtain ⟨h95, h⟩ := h
    refine wm_aload_n d_MM_look_148 rfl rfl ?_
    refine gf_MM_38 rfl d_MM_look_149 h93 ?_
    refine gf_MM_290 rfl d_MM_look_152 h94 ?_
    refine wm_iload d_MM_look_155 rfl ?_
    refine cf_MM_155 rfl d_MM_look_157 h95 (Nat.le_of_ble_eq_true rfl) (Ci.mono h (fun x97 M96 h => ?_))
    obtain ⟨h98, hOM96, h⟩ := h
    refine wm_istore d_MM_look_160 (by decide) (L' := [vr a0, vd, vi l2, vd, vd, vi x97, vi l6]) rfl ?_
    refine wm_goto (tgt := 126) d_MM_look_162 rfl ?_
    exact h
theorem d_MM_turn_0 : decode y_MM_turn.2.1 0 = .ok (.iload_n 1, 1) := dc9_27 (by decide +kernel)
theorem d_MM_turn_1 : decode y_MM_turn.2.1 1 = .ok (.istore_n 2, 1) := dc9_61 (by decide +kernel)
theorem d_MM_turn_2 : decode y_MM_turn.2.1 2 = .ok (.aload_n 0, 1) := dc9_42 (by decide +kernel)
theorem d_MM_turn_3 : decode y_MM_turn.2.1 3 = .ok (.getfield 60, 3) := dc9_180 (by decide +kernel)
theorem d_MM_turn_6 : decode y_MM_turn.2.1 6 = .ok (.getfield 145, 3) := dc9_180 (by decide +kernel)
theorem d_MM_turn_9 : decode y_MM_turn.2.1 9 = .ok (.iconst 2, 1) := dc9_5 (by decide +kernel)
theorem d_MM_turn_10 : decode y_MM_turn.2.1 10 = .ok (.isub, 1) := dc9_100 (by decide +kernel)
theorem d_MM_turn_11 : decode y_MM_turn.2.1 11 = .ok (.istore_n 3, 1) := dc9_62 (by decide +kernel)
theorem d_MM_turn_12 : decode y_MM_turn.2.1 12 = .ok (.iload_n 2, 1) := dc9_28 (by decide +kernel)
theorem d_MM_turn_13 : decode y_MM_turn.2.1 13 = .ok (.iload_n 3, 1) := dc9_29 (by decide +kernel)
theorem d_MM_turn_14 : decode y_MM_turn.2.1 14 = .ok (.if_icmp .ge 52, 3) := dc9_162 (by decide +kernel)
theorem d_MM_turn_66 : decode y_MM_turn.2.1 66 = .ok (.return_, 1) := dc9_177 (by decide +kernel)
theorem d_MM_turn_17 : decode y_MM_turn.2.1 17 = .ok (.aload_n 0, 1) := dc9_42 (by decide +kernel)
theorem d_MM_turn_18 : decode y_MM_turn.2.1 18 = .ok (.getfield 60, 3) := dc9_180 (by decide +kernel)
theorem d_MM_turn_21 : decode y_MM_turn.2.1 21 = .ok (.iload_n 2, 1) := dc9_28 (by decide +kernel)
theorem d_MM_turn_22 : decode y_MM_turn.2.1 22 = .ok (.invokevirtual 155, 3) := dc9_182 (by decide +kernel)
theorem d_MM_turn_25 : decode y_MM_turn.2.1 25 = .ok (.istore 4, 2) := dc9_54 (by decide +kernel)
theorem d_MM_turn_27 : decode y_MM_turn.2.1 27 = .ok (.aload_n 0, 1) := dc9_42 (by decide +kernel)
theorem d_MM_turn_28 : decode y_MM_turn.2.1 28 = .ok (.getfield 60, 3) := dc9_180 (by decide +kernel)
theorem d_MM_turn_31 : decode y_MM_turn.2.1 31 = .ok (.getfield 293, 3) := dc9_180 (by decide +kernel)
theorem d_MM_turn_34 : decode y_MM_turn.2.1 34 = .ok (.iload_n 2, 1) := dc9_28 (by decide +kernel)
theorem d_MM_turn_35 : decode y_MM_turn.2.1 35 = .ok (.aload_n 0, 1) := dc9_42 (by decide +kernel)
theorem d_MM_turn_36 : decode y_MM_turn.2.1 36 = .ok (.getfield 60, 3) := dc9_180 (by decide +kernel)
theorem d_MM_turn_39 : decode y_MM_turn.2.1 39 = .ok (.iload_n 3, 1) := dc9_29 (by decide +kernel)
theorem d_MM_turn_40 : decode y_MM_turn.2.1 40 = .ok (.invokevirtual 155, 3) := dc9_182 (by decide +kernel)
theorem d_MM_turn_43 : decode y_MM_turn.2.1 43 = .ok (.iastore, 1) := dc9_79 (by decide +kernel)
theorem d_MM_turn_44 : decode y_MM_turn.2.1 44 = .ok (.aload_n 0, 1) := dc9_42 (by decide +kernel)
theorem d_MM_turn_45 : decode y_MM_turn.2.1 45 = .ok (.getfield 60, 3) := dc9_180 (by decide +kernel)
theorem d_MM_turn_48 : decode y_MM_turn.2.1 48 = .ok (.getfield 293, 3) := dc9_180 (by decide +kernel)
theorem d_MM_turn_51 : decode y_MM_turn.2.1 51 = .ok (.iload_n 3, 1) := dc9_29 (by decide +kernel)
theorem d_MM_turn_52 : decode y_MM_turn.2.1 52 = .ok (.iload 4, 2) := dc9_21 (by decide +kernel)
theorem d_MM_turn_54 : decode y_MM_turn.2.1 54 = .ok (.iastore, 1) := dc9_79 (by decide +kernel)
theorem d_MM_turn_55 : decode y_MM_turn.2.1 55 = .ok (.iload_n 2, 1) := dc9_28 (by decide +kernel)
theorem d_MM_turn_56 : decode y_MM_turn.2.1 56 = .ok (.iconst 2, 1) := dc9_5 (by decide +kernel)
theorem d_MM_turn_57 : decode y_MM_turn.2.1 57 = .ok (.iadd, 1) := dc9_96 (by decide +kernel)
theorem d_MM_turn_58 : decode y_MM_turn.2.1 58 = .ok (.istore_n 2, 1) := dc9_61 (by decide +kernel)
theorem d_MM_turn_59 : decode y_MM_turn.2.1 59 = .ok (.iload_n 3, 1) := dc9_29 (by decide +kernel)
theorem d_MM_turn_60 : decode y_MM_turn.2.1 60 = .ok (.iconst 2, 1) := dc9_5 (by decide +kernel)
theorem d_MM_turn_61 : decode y_MM_turn.2.1 61 = .ok (.isub, 1) := dc9_100 (by decide +kernel)
theorem d_MM_turn_62 : decode y_MM_turn.2.1 62 = .ok (.istore_n 3, 1) := dc9_62 (by decide +kernel)
theorem d_MM_turn_63 : decode y_MM_turn.2.1 63 = .ok (.goto (-51), 3) := dc9_167 (by decide +kernel)
def h_MM_turn_12 (G : mG) (d : Nat) (a0 : Nat) (l2 : Int) (l3 : Int) (M : mM) (Q : mM → Prop) : Prop := mWm G y_MM_turn (d + 1) 12 [vr a0, vd, vi l2, vi l3, vd] [] M (fun r9 M9 => r9 = none ∧ Q M9)
theorem k_MM_turn {G : mG} {d : Nat} {a0 : Nat} {l1 : Int} {M : mM} {Q : mM → Prop} (hO : mOk M) (hi_l1 : i32 l1)
    (h : mK M a0 = 14 ∧ mK M (mR M a0 20) = 15 ∧ h_MM_turn_12 G d a0 l1 ((mI M (mR M a0 20) 1) - 2) M Q) :
    Cv G y_MM_turn (d + 1) [vr a0, vi l1] M Q := by
  refine wm_open (y := y_MM_turn) rfl (Nat.le_of_ble_eq_true rfl) (L := [vr a0, vi l1, vd, vd, vd]) rfl ?_
  obtain ⟨h1, h⟩ := h
  obtain ⟨h2, h⟩ := h
  refine wm_iload_n d_MM_turn_0 rfl rfl ?_
  refine wm_istore_n d_MM_turn_1 rfl (by decide) (L' := [vr a0, vi l1, vi l1, vd, vd]) rfl ?_
  refine wm_aload_n d_MM_turn_2 rfl rfl ?_
  refine gf_MM_60 rfl d_MM_turn_3 h1 ?_
  refine gf_MM_145 rfl d_MM_turn_6 h2 ?_
  refine wm_iconst d_MM_turn_9 ?_
  refine wm_isub d_MM_turn_10 ?_
  refine wm_istore_n d_MM_turn_11 rfl (by decide) (L' := [vr a0, vi l1, vi l1, vi ((mI M (mR M a0 20) 1) - 2), vd]) rfl ?_
  refine wm_less (L' := [vr a0, vd, vi l1, vi ((mI M (mR M a0 20) 1) - 2), vd]) ⟨Or.inr rfl, Or.inl rfl, Or.inr rfl, Or.inr rfl, Or.inl rfl, trivial⟩ ?_
  exact h
theorem k_MM_turn_12 {G : mG} {d : Nat} {a0 : Nat} {l2 : Int} {l3 : Int} {M : mM} {Q : mM → Prop} (hO : mOk M) (hi_l2 : i32 l2) (hi_l3 : i32 l3)
    (h : ((l3 ≤ l2) → (Q M)) ∧ (¬ (l3 ≤ l2) → (mK M a0 = 14 ∧ mK M (mR M a0 20) = 15 ∧ Ci G y_MN_at d [vr (mR M a0 20), vi l2] M (fun x8 M7 => i32 x8 ∧ mOk M7 ∧ (mK M7 a0 = 14 ∧ mK M7 (mR M7 a0 20) = 15 ∧ Ci G y_MN_at d [vr (mR M7 a0 20), vi l3] M7 (fun x13 M12 => i32 x13 ∧ mOk M12 ∧ (mK M12 (mR M7 (mR M7 a0 20) 0) = 30 ∧ ((0 : Int) ≤ l2 ∧ l2 < (mN M12 (mR M7 (mR M7 a0 20) 0) : Int)) ∧ ∀ M17, M17 = mUI M12 (mR M7 (mR M7 a0 20) 0) (Int.toNat l2) x13 → mK M17 a0 = 14 ∧ mK M17 (mR M17 a0 20) = 15 ∧ mK M17 (mR M17 (mR M17 a0 20) 0) = 30 ∧ ((0 : Int) ≤ l3 ∧ l3 < (mN M17 (mR M17 (mR M17 a0 20) 0) : Int)) ∧ ∀ M23, M23 = mUI M17 (mR M17 (mR M17 a0 20) 0) (Int.toNat l3) x8 → h_MM_turn_12 G d a0 (l2 + 2) (l3 - 2) M23 Q))))))) :
    h_MM_turn_12 G d a0 l2 l3 M Q := by
  unfold h_MM_turn_12
  refine wm_iload_n d_MM_turn_12 rfl rfl ?_
  refine wm_iload_n d_MM_turn_13 rfl rfl ?_
  refine wm_icmp_ge (tgt := 66) d_MM_turn_14 rfl hi_l2 hi_l3 (fun c4 => ?_) (fun c4 => ?_)
  · replace h := h.1 c4
    refine wm_return d_MM_turn_66 rfl ?_
    exact ⟨rfl, h⟩
  · replace h := h.2 c4
    obtain ⟨h5, h⟩ := h
    obtain ⟨h6, h⟩ := h
    refine wm_aload_n d_MM_turn_17 rfl rfl ?_
    refine gf_MM_60 rfl d_MM_turn_18 h5 ?_
    refine wm_iload_n d_MM_turn_21 rfl rfl ?_
    refine cf_MM_155 rfl d_MM_turn_22 h6 (Nat.le_of_ble_eq_true rfl) (Ci.mono h (fun x8 M7 h => ?_))
    obtain ⟨h9, hOM7, h⟩ := h
    obtain ⟨h10, h⟩ := h
    obtain ⟨h11, h⟩ := h
    refine wm_istore d_MM_turn_25 (by decide) (L' := [vr a0, vd, vi l2, vi l3, vi x8]) rfl ?_
    refine wm_aload_n d_MM_turn_27 rfl rfl ?_
    refine gf_MM_60 rfl d_MM_turn_28 h10 ?_
    refine gf_MM_293 rfl d_MM_turn_31 h11 ?_
    refine wm_iload_n d_MM_turn_34 rfl rfl ?_
    refine wm_aload_n d_MM_turn_35 rfl rfl ?_
    refine gf_MM_60 rfl d_MM_turn_36 h10 ?_
    refine wm_iload_n d_MM_turn_39 rfl rfl ?_
    refine cf_MM_155 rfl d_MM_turn_40 h11 (Nat.le_of_ble_eq_true rfl) (Ci.mono h (fun x13 M12 h => ?_))
    obtain ⟨h14, hOM12, h⟩ := h
    obtain ⟨h15, h⟩ := h
    obtain ⟨h16, h⟩ := h
    obtain ⟨M17, e18⟩ : ∃ M17, M17 = mUI M12 (mR M7 (mR M7 a0 20) 0) (Int.toNat l2) x13 := ⟨_, rfl⟩
    replace h := h M17 e18
    obtain ⟨h19, h⟩ := h
    obtain ⟨h20, h⟩ := h
    obtain ⟨h21, h⟩ := h
    obtain ⟨h22, h⟩ := h
    obtain ⟨M23, e24⟩ : ∃ M23, M23 = mUI M17 (mR M17 (mR M17 a0 20) 0) (Int.toNat l3) x8 := ⟨_, rfl⟩
    replace h := h M23 e24
    have hOM17 : mOk M17 := by rw [e18]; exact mOk_UI hOM12 h14
    refine wm_iastE d_MM_turn_43 h15 h16 h14 e18 ?_
    refine wm_aload_n d_MM_turn_44 rfl rfl ?_
    refine gf_MM_60 rfl d_MM_turn_45 h19 ?_
    refine gf_MM_293 rfl d_MM_turn_48 h20 ?_
    refine wm_iload_n d_MM_turn_51 rfl rfl ?_
    refine wm_iload d_MM_turn_52 rfl ?_
    have hOM23 : mOk M23 := by rw [e24]; exact mOk_UI hOM17 h9
    refine wm_iastE d_MM_turn_54 h21 h22 h9 e24 ?_
    refine wm_iload_n d_MM_turn_55 rfl rfl ?_
    refine wm_iconst d_MM_turn_56 ?_
    refine wm_iadd d_MM_turn_57 ?_
    refine wm_istore_n d_MM_turn_58 rfl (by decide) (L' := [vr a0, vd, vi (l2 + 2), vi l3, vi x8]) rfl ?_
    refine wm_iload_n d_MM_turn_59 rfl rfl ?_
    refine wm_iconst d_MM_turn_60 ?_
    refine wm_isub d_MM_turn_61 ?_
    refine wm_istore_n d_MM_turn_62 rfl (by decide) (L' := [vr a0, vd, vi (l2 + 2), vi (l3 - 2), vi x8]) rfl ?_
    refine wm_goto (tgt := 12) d_MM_turn_63 rfl ?_
    refine wm_less (L' := [vr a0, vd, vi (l2 + 2), vi (l3 - 2), vd]) ⟨Or.inr rfl, Or.inl rfl, Or.inr rfl, Or.inr rfl, Or.inl rfl, trivial⟩ ?_
    exact h
theorem d_MM_parts_0 : decode y_MM_parts.2.1 0 = .ok (.iconst 0, 1) := dc9_3 (by decide +kernel)
theorem d_MM_parts_1 : decode y_MM_parts.2.1 1 = .ok (.istore_n 2, 1) := dc9_61 (by decide +kernel)
theorem d_MM_parts_2 : decode y_MM_parts.2.1 2 = .ok (.aload_n 0, 1) := dc9_42 (by decide +kernel)
theorem d_MM_parts_3 : decode y_MM_parts.2.1 3 = .ok (.getfield 38, 3) := dc9_180 (by decide +kernel)
theorem d_MM_parts_6 : decode y_MM_parts.2.1 6 = .ok (.getfield 287, 3) := dc9_180 (by decide +kernel)
theorem d_MM_parts_9 : decode y_MM_parts.2.1 9 = .ok (.iload_n 1, 1) := dc9_27 (by decide +kernel)
theorem d_MM_parts_10 : decode y_MM_parts.2.1 10 = .ok (.invokevirtual 155, 3) := dc9_182 (by decide +kernel)
theorem d_MM_parts_13 : decode y_MM_parts.2.1 13 = .ok (.istore_n 3, 1) := dc9_62 (by decide +kernel)
theorem d_MM_parts_14 : decode y_MM_parts.2.1 14 = .ok (.iload_n 3, 1) := dc9_29 (by decide +kernel)
theorem d_MM_parts_15 : decode y_MM_parts.2.1 15 = .ok (.ifCond .lt 21, 3) := dc9_155 (by decide +kernel)
theorem d_MM_parts_36 : decode y_MM_parts.2.1 36 = .ok (.iload_n 2, 1) := dc9_28 (by decide +kernel)
theorem d_MM_parts_37 : decode y_MM_parts.2.1 37 = .ok (.ireturn, 1) := dc9_172 (by decide +kernel)
theorem d_MM_parts_18 : decode y_MM_parts.2.1 18 = .ok (.iinc 2 1, 3) := by decide +kernel
theorem d_MM_parts_21 : decode y_MM_parts.2.1 21 = .ok (.aload_n 0, 1) := dc9_42 (by decide +kernel)
theorem d_MM_parts_22 : decode y_MM_parts.2.1 22 = .ok (.getfield 38, 3) := dc9_180 (by decide +kernel)
theorem d_MM_parts_25 : decode y_MM_parts.2.1 25 = .ok (.getfield 290, 3) := dc9_180 (by decide +kernel)
theorem d_MM_parts_28 : decode y_MM_parts.2.1 28 = .ok (.iload_n 3, 1) := dc9_29 (by decide +kernel)
theorem d_MM_parts_29 : decode y_MM_parts.2.1 29 = .ok (.invokevirtual 155, 3) := dc9_182 (by decide +kernel)
theorem d_MM_parts_32 : decode y_MM_parts.2.1 32 = .ok (.istore_n 3, 1) := dc9_62 (by decide +kernel)
theorem d_MM_parts_33 : decode y_MM_parts.2.1 33 = .ok (.goto (-19), 3) := dc9_167 (by decide +kernel)
def h_MM_parts_14 (G : mG) (d : Nat) (a0 : Nat) (l2 : Int) (l3 : Int) (M : mM) (Q : Int → mM → Prop) : Prop := mWm G y_MM_parts (d + 1) 14 [vr a0, vd, vi l2, vi l3] [] M (fun r9 M9 => ∃ x9, r9 = some (vi x9) ∧ Q x9 M9)
theorem k_MM_parts {G : mG} {d : Nat} {a0 : Nat} {l1 : Int} {M : mM} {Q : Int → mM → Prop} (hO : mOk M) (hi_l1 : i32 l1)
    (h : mK M a0 = 14 ∧ mK M (mR M a0 10) = 16 ∧ mK M (mR M (mR M a0 10) 4) = 15 ∧ Ci G y_MN_at d [vr (mR M (mR M a0 10) 4), vi l1] M (fun x5 M4 => i32 x5 ∧ mOk M4 ∧ (h_MM_parts_14 G d a0 0 x5 M4 Q))) :
    Ci G y_MM_parts (d + 1) [vr a0, vi l1] M Q := by
  refine wm_open (y := y_MM_parts) rfl (Nat.le_of_ble_eq_true rfl) (L := [vr a0, vi l1, vd, vd]) rfl ?_
  obtain ⟨h1, h⟩ := h
  obtain ⟨h2, h⟩ := h
  obtain ⟨h3, h⟩ := h
  refine wm_iconst d_MM_parts_0 ?_
  refine wm_istore_n d_MM_parts_1 rfl (by decide) (L' := [vr a0, vi l1, vi 0, vd]) rfl ?_
  refine wm_aload_n d_MM_parts_2 rfl rfl ?_
  refine gf_MM_38 rfl d_MM_parts_3 h1 ?_
  refine gf_MM_287 rfl d_MM_parts_6 h2 ?_
  refine wm_iload_n d_MM_parts_9 rfl rfl ?_
  refine cf_MM_155 rfl d_MM_parts_10 h3 (Nat.le_of_ble_eq_true rfl) (Ci.mono h (fun x5 M4 h => ?_))
  obtain ⟨h6, hOM4, h⟩ := h
  refine wm_istore_n d_MM_parts_13 rfl (by decide) (L' := [vr a0, vi l1, vi 0, vi x5]) rfl ?_
  refine wm_less (L' := [vr a0, vd, vi 0, vi x5]) ⟨Or.inr rfl, Or.inl rfl, Or.inr rfl, Or.inr rfl, trivial⟩ ?_
  exact h
theorem k_MM_parts_14 {G : mG} {d : Nat} {a0 : Nat} {l2 : Int} {l3 : Int} {M : mM} {Q : Int → mM → Prop} (hO : mOk M) (hi_l2 : i32 l2) (hi_l3 : i32 l3)
    (h : ((l3 < 0) → (Q l2 M)) ∧ (¬ (l3 < 0) → (mK M a0 = 14 ∧ mK M (mR M a0 10) = 16 ∧ mK M (mR M (mR M a0 10) 5) = 15 ∧ Ci G y_MN_at d [vr (mR M (mR M a0 10) 5), vi l3] M (fun x13 M12 => i32 x13 ∧ mOk M12 ∧ (h_MM_parts_14 G d a0 (l2 + 1) x13 M12 Q))))) :
    h_MM_parts_14 G d a0 l2 l3 M Q := by
  unfold h_MM_parts_14
  refine wm_iload_n d_MM_parts_14 rfl rfl ?_
  refine wm_if_lt (tgt := 36) d_MM_parts_15 rfl hi_l3 (fun c8 => ?_) (fun c8 => ?_)
  · replace h := h.1 c8
    refine wm_iload_n d_MM_parts_36 rfl rfl ?_
    refine wm_ireturn d_MM_parts_37 rfl rfl ?_
    exact ⟨_, rfl, h⟩
  · replace h := h.2 c8
    obtain ⟨h9, h⟩ := h
    obtain ⟨h10, h⟩ := h
    obtain ⟨h11, h⟩ := h
    refine wm_iinc d_MM_parts_18 (by decide) rfl (L' := [vr a0, vd, vi (l2 + 1), vi l3]) rfl ?_
    refine wm_aload_n d_MM_parts_21 rfl rfl ?_
    refine gf_MM_38 rfl d_MM_parts_22 h9 ?_
    refine gf_MM_290 rfl d_MM_parts_25 h10 ?_
    refine wm_iload_n d_MM_parts_28 rfl rfl ?_
    refine cf_MM_155 rfl d_MM_parts_29 h11 (Nat.le_of_ble_eq_true rfl) (Ci.mono h (fun x13 M12 h => ?_))
    obtain ⟨h14, hOM12, h⟩ := h
    refine wm_istore_n d_MM_parts_32 rfl (by decide) (L' := [vr a0, vd, vi (l2 + 1), vi x13]) rfl ?_
    refine wm_goto (tgt := 14) d_MM_parts_33 rfl ?_
    exact h
end
section
theorem d_MM_lookAt_0 : decode y_MM_lookAt.2.1 0 = .ok (.aload_n 0, 1) := dc9_42 (by decide +kernel)
theorem d_MM_lookAt_1 : decode y_MM_lookAt.2.1 1 = .ok (.getfield 38, 3) := dc9_180 (by decide +kernel)
theorem d_MM_lookAt_4 : decode y_MM_lookAt.2.1 4 = .ok (.getfield 273, 3) := dc9_180 (by decide +kernel)
theorem d_MM_lookAt_7 : decode y_MM_lookAt.2.1 7 = .ok (.iload_n 1, 1) := dc9_27 (by decide +kernel)
theorem d_MM_lookAt_8 : decode y_MM_lookAt.2.1 8 = .ok (.invokevirtual 155, 3) := dc9_182 (by decide +kernel)
theorem d_MM_lookAt_11 : decode y_MM_lookAt.2.1 11 = .ok (.istore_n 3, 1) := dc9_62 (by decide +kernel)
theorem d_MM_lookAt_12 : decode y_MM_lookAt.2.1 12 = .ok (.aload_n 0, 1) := dc9_42 (by decide +kernel)
theorem d_MM_lookAt_13 : decode y_MM_lookAt.2.1 13 = .ok (.getfield 38, 3) := dc9_180 (by decide +kernel)
theorem d_MM_lookAt_16 : decode y_MM_lookAt.2.1 16 = .ok (.getfield 276, 3) := dc9_180 (by decide +kernel)
theorem d_MM_lookAt_19 : decode y_MM_lookAt.2.1 19 = .ok (.iload_n 1, 1) := dc9_27 (by decide +kernel)
theorem d_MM_lookAt_20 : decode y_MM_lookAt.2.1 20 = .ok (.invokevirtual 155, 3) := dc9_182 (by decide +kernel)
theorem d_MM_lookAt_23 : decode y_MM_lookAt.2.1 23 = .ok (.istore 4, 2) := dc9_54 (by decide +kernel)
theorem d_MM_lookAt_25 : decode y_MM_lookAt.2.1 25 = .ok (.aload_n 0, 1) := dc9_42 (by decide +kernel)
theorem d_MM_lookAt_26 : decode y_MM_lookAt.2.1 26 = .ok (.iload_n 1, 1) := dc9_27 (by decide +kernel)
theorem d_MM_lookAt_27 : decode y_MM_lookAt.2.1 27 = .ok (.invokevirtual 344, 3) := dc9_182 (by decide +kernel)
theorem d_MM_lookAt_30 : decode y_MM_lookAt.2.1 30 = .ok (.istore 5, 2) := dc9_54 (by decide +kernel)
theorem d_MM_lookAt_32 : decode y_MM_lookAt.2.1 32 = .ok (.aload_n 0, 1) := dc9_42 (by decide +kernel)
theorem d_MM_lookAt_33 : decode y_MM_lookAt.2.1 33 = .ok (.getfield 57, 3) := dc9_180 (by decide +kernel)
theorem d_MM_lookAt_36 : decode y_MM_lookAt.2.1 36 = .ok (.getfield 145, 3) := dc9_180 (by decide +kernel)
theorem d_MM_lookAt_39 : decode y_MM_lookAt.2.1 39 = .ok (.iload 5, 2) := dc9_21 (by decide +kernel)
theorem d_MM_lookAt_41 : decode y_MM_lookAt.2.1 41 = .ok (.isub, 1) := dc9_100 (by decide +kernel)
theorem d_MM_lookAt_42 : decode y_MM_lookAt.2.1 42 = .ok (.istore 6, 2) := dc9_54 (by decide +kernel)
theorem d_MM_lookAt_44 : decode y_MM_lookAt.2.1 44 = .ok (.iconst 0, 1) := dc9_3 (by decide +kernel)
theorem d_MM_lookAt_45 : decode y_MM_lookAt.2.1 45 = .ok (.istore 7, 2) := dc9_54 (by decide +kernel)
theorem d_MM_lookAt_47 : decode y_MM_lookAt.2.1 47 = .ok (.iload 6, 2) := dc9_21 (by decide +kernel)
theorem d_MM_lookAt_49 : decode y_MM_lookAt.2.1 49 = .ok (.istore 8, 2) := dc9_54 (by decide +kernel)
theorem d_MM_lookAt_51 : decode y_MM_lookAt.2.1 51 = .ok (.iload 8, 2) := dc9_21 (by decide +kernel)
theorem d_MM_lookAt_53 : decode y_MM_lookAt.2.1 53 = .ok (.aload_n 0, 1) := dc9_42 (by decide +kernel)
theorem d_MM_lookAt_54 : decode y_MM_lookAt.2.1 54 = .ok (.getfield 57, 3) := dc9_180 (by decide +kernel)
theorem d_MM_lookAt_57 : decode y_MM_lookAt.2.1 57 = .ok (.getfield 145, 3) := dc9_180 (by decide +kernel)
theorem d_MM_lookAt_60 : decode y_MM_lookAt.2.1 60 = .ok (.if_icmp .ge 23, 3) := dc9_162 (by decide +kernel)
theorem d_MM_lookAt_83 : decode y_MM_lookAt.2.1 83 = .ok (.iconst 1, 1) := dc9_4 (by decide +kernel)
theorem d_MM_lookAt_84 : decode y_MM_lookAt.2.1 84 = .ok (.istore 8, 2) := dc9_54 (by decide +kernel)
theorem d_MM_lookAt_86 : decode y_MM_lookAt.2.1 86 = .ok (.iconst 0, 1) := dc9_3 (by decide +kernel)
theorem d_MM_lookAt_87 : decode y_MM_lookAt.2.1 87 = .ok (.istore 9, 2) := dc9_54 (by decide +kernel)
theorem d_MM_lookAt_89 : decode y_MM_lookAt.2.1 89 = .ok (.iload_n 3, 1) := dc9_29 (by decide +kernel)
theorem d_MM_lookAt_63 : decode y_MM_lookAt.2.1 63 = .ok (.iload 7, 2) := dc9_21 (by decide +kernel)
theorem d_MM_lookAt_65 : decode y_MM_lookAt.2.1 65 = .ok (.aload_n 0, 1) := dc9_42 (by decide +kernel)
theorem d_MM_lookAt_66 : decode y_MM_lookAt.2.1 66 = .ok (.getfield 57, 3) := dc9_180 (by decide +kernel)
theorem d_MM_lookAt_69 : decode y_MM_lookAt.2.1 69 = .ok (.iload 8, 2) := dc9_21 (by decide +kernel)
theorem d_MM_lookAt_90 : decode y_MM_lookAt.2.1 90 = .ok (.tableswitch 258 1 32 #[151, 142, 258, 258, 258, 258, 258, 258, 258, 258, 258, 145, 145, 258, 258, 258, 258, 182, 258, 258, 258, 258, 182, 258, 258, 258, 258, 258, 162, 162, 162, 201], 142) := by decide +kernel
theorem d_MM_lookAt_241 : decode y_MM_lookAt.2.1 241 = .ok (.aload_n 0, 1) := dc9_42 (by decide +kernel)
theorem d_MM_lookAt_242 : decode y_MM_lookAt.2.1 242 = .ok (.iload_n 1, 1) := dc9_27 (by decide +kernel)
theorem d_MM_lookAt_243 : decode y_MM_lookAt.2.1 243 = .ok (.iload_n 2, 1) := dc9_28 (by decide +kernel)
theorem d_MM_lookAt_244 : decode y_MM_lookAt.2.1 244 = .ok (.invokevirtual 347, 3) := dc9_182 (by decide +kernel)
theorem d_MM_lookAt_247 : decode y_MM_lookAt.2.1 247 = .ok (.istore 9, 2) := dc9_54 (by decide +kernel)
theorem d_MM_lookAt_249 : decode y_MM_lookAt.2.1 249 = .ok (.goto 125, 3) := dc9_167 (by decide +kernel)
theorem d_MM_lookAt_374 : decode y_MM_lookAt.2.1 374 = .ok (.iload 8, 2) := dc9_21 (by decide +kernel)
theorem d_MM_lookAt_376 : decode y_MM_lookAt.2.1 376 = .ok (.ifCond .ne 10, 3) := dc9_154 (by decide +kernel)
theorem d_MM_lookAt_379 : decode y_MM_lookAt.2.1 379 = .ok (.aload_n 0, 1) := dc9_42 (by decide +kernel)
theorem d_MM_lookAt_380 : decode y_MM_lookAt.2.1 380 = .ok (.iconst 3, 1) := dc9_6 (by decide +kernel)
theorem d_MM_lookAt_381 : decode y_MM_lookAt.2.1 381 = .ok (.iload 4, 2) := dc9_21 (by decide +kernel)
theorem d_MM_lookAt_383 : decode y_MM_lookAt.2.1 383 = .ok (.invokevirtual 351, 3) := dc9_182 (by decide +kernel)
theorem d_MM_lookAt_232 : decode y_MM_lookAt.2.1 232 = .ok (.goto 142, 3) := dc9_167 (by decide +kernel)
theorem d_MM_lookAt_235 : decode y_MM_lookAt.2.1 235 = .ok (.iconst 1, 1) := dc9_4 (by decide +kernel)
theorem d_MM_lookAt_236 : decode y_MM_lookAt.2.1 236 = .ok (.istore 9, 2) := dc9_54 (by decide +kernel)
theorem d_MM_lookAt_238 : decode y_MM_lookAt.2.1 238 = .ok (.goto 136, 3) := dc9_167 (by decide +kernel)
theorem d_MM_lookAt_272 : decode y_MM_lookAt.2.1 272 = .ok (.iload 7, 2) := dc9_21 (by decide +kernel)
theorem d_MM_lookAt_274 : decode y_MM_lookAt.2.1 274 = .ok (.iconst 1, 1) := dc9_4 (by decide +kernel)
theorem d_MM_lookAt_275 : decode y_MM_lookAt.2.1 275 = .ok (.if_icmp .eq 7, 3) := dc9_159 (by decide +kernel)
theorem d_MM_lookAt_282 : decode y_MM_lookAt.2.1 282 = .ok (.iconst 0, 1) := dc9_3 (by decide +kernel)
theorem d_MM_lookAt_278 : decode y_MM_lookAt.2.1 278 = .ok (.iconst 1, 1) := dc9_4 (by decide +kernel)
theorem d_MM_lookAt_279 : decode y_MM_lookAt.2.1 279 = .ok (.goto 4, 3) := dc9_167 (by decide +kernel)
theorem d_MM_lookAt_283 : decode y_MM_lookAt.2.1 283 = .ok (.istore 8, 2) := dc9_54 (by decide +kernel)
theorem d_MM_lookAt_285 : decode y_MM_lookAt.2.1 285 = .ok (.iconst 1, 1) := dc9_4 (by decide +kernel)
theorem d_MM_lookAt_286 : decode y_MM_lookAt.2.1 286 = .ok (.istore 9, 2) := dc9_54 (by decide +kernel)
theorem d_MM_lookAt_288 : decode y_MM_lookAt.2.1 288 = .ok (.goto 86, 3) := dc9_167 (by decide +kernel)
theorem d_MM_lookAt_252 : decode y_MM_lookAt.2.1 252 = .ok (.iload 7, 2) := dc9_21 (by decide +kernel)
theorem d_MM_lookAt_254 : decode y_MM_lookAt.2.1 254 = .ok (.iload 5, 2) := dc9_21 (by decide +kernel)
theorem d_MM_lookAt_256 : decode y_MM_lookAt.2.1 256 = .ok (.if_icmp .ne 7, 3) := dc9_160 (by decide +kernel)
theorem d_MM_lookAt_259 : decode y_MM_lookAt.2.1 259 = .ok (.iconst 1, 1) := dc9_4 (by decide +kernel)
theorem d_MM_lookAt_260 : decode y_MM_lookAt.2.1 260 = .ok (.goto 4, 3) := dc9_167 (by decide +kernel)
theorem d_MM_lookAt_263 : decode y_MM_lookAt.2.1 263 = .ok (.iconst 0, 1) := dc9_3 (by decide +kernel)
theorem d_MM_lookAt_264 : decode y_MM_lookAt.2.1 264 = .ok (.istore 8, 2) := dc9_54 (by decide +kernel)
theorem d_MM_lookAt_266 : decode y_MM_lookAt.2.1 266 = .ok (.iconst 1, 1) := dc9_4 (by decide +kernel)
theorem d_MM_lookAt_267 : decode y_MM_lookAt.2.1 267 = .ok (.istore 9, 2) := dc9_54 (by decide +kernel)
theorem d_MM_lookAt_269 : decode y_MM_lookAt.2.1 269 = .ok (.goto 105, 3) := dc9_167 (by decide +kernel)
theorem d_MM_lookAt_291 : decode y_MM_lookAt.2.1 291 = .ok (.aload_n 0, 1) := dc9_42 (by decide +kernel)
theorem d_MM_lookAt_292 : decode y_MM_lookAt.2.1 292 = .ok (.getfield 57, 3) := dc9_180 (by decide +kernel)
theorem d_MM_lookAt_295 : decode y_MM_lookAt.2.1 295 = .ok (.iload 6, 2) := dc9_21 (by decide +kernel)
theorem d_MM_lookAt_297 : decode y_MM_lookAt.2.1 297 = .ok (.invokevirtual 155, 3) := dc9_182 (by decide +kernel)
theorem d_MM_lookAt_300 : decode y_MM_lookAt.2.1 300 = .ok (.iconst 1, 1) := dc9_4 (by decide +kernel)
theorem d_MM_lookAt_301 : decode y_MM_lookAt.2.1 301 = .ok (.if_icmp .ne 32, 3) := dc9_160 (by decide +kernel)
theorem d_MM_lookAt_304 : decode y_MM_lookAt.2.1 304 = .ok (.aload_n 0, 1) := dc9_42 (by decide +kernel)
theorem d_MM_lookAt_305 : decode y_MM_lookAt.2.1 305 = .ok (.getfield 57, 3) := dc9_180 (by decide +kernel)
theorem d_MM_lookAt_308 : decode y_MM_lookAt.2.1 308 = .ok (.iload 6, 2) := dc9_21 (by decide +kernel)
theorem d_MM_lookAt_310 : decode y_MM_lookAt.2.1 310 = .ok (.iconst 1, 1) := dc9_4 (by decide +kernel)
theorem d_MM_lookAt_311 : decode y_MM_lookAt.2.1 311 = .ok (.iadd, 1) := dc9_96 (by decide +kernel)
theorem d_MM_lookAt_312 : decode y_MM_lookAt.2.1 312 = .ok (.invokevirtual 155, 3) := dc9_182 (by decide +kernel)
theorem d_MM_lookAt_315 : decode y_MM_lookAt.2.1 315 = .ok (.aload_n 0, 1) := dc9_42 (by decide +kernel)
theorem d_MM_lookAt_316 : decode y_MM_lookAt.2.1 316 = .ok (.getfield 57, 3) := dc9_180 (by decide +kernel)
theorem d_MM_lookAt_319 : decode y_MM_lookAt.2.1 319 = .ok (.iload 6, 2) := dc9_21 (by decide +kernel)
theorem d_MM_lookAt_321 : decode y_MM_lookAt.2.1 321 = .ok (.iconst 2, 1) := dc9_5 (by decide +kernel)
theorem d_MM_lookAt_322 : decode y_MM_lookAt.2.1 322 = .ok (.iadd, 1) := dc9_96 (by decide +kernel)
theorem d_MM_lookAt_323 : decode y_MM_lookAt.2.1 323 = .ok (.invokevirtual 155, 3) := dc9_182 (by decide +kernel)
theorem d_MM_lookAt_326 : decode y_MM_lookAt.2.1 326 = .ok (.if_icmp .ne 7, 3) := dc9_160 (by decide +kernel)
theorem d_MM_lookAt_329 : decode y_MM_lookAt.2.1 329 = .ok (.iconst 1, 1) := dc9_4 (by decide +kernel)
theorem d_MM_lookAt_330 : decode y_MM_lookAt.2.1 330 = .ok (.goto 4, 3) := dc9_167 (by decide +kernel)
theorem d_MM_lookAt_333 : decode y_MM_lookAt.2.1 333 = .ok (.iconst 0, 1) := dc9_3 (by decide +kernel)
theorem d_MM_lookAt_348 : decode y_MM_lookAt.2.1 348 = .ok (.iload 7, 2) := dc9_21 (by decide +kernel)
theorem d_MM_lookAt_350 : decode y_MM_lookAt.2.1 350 = .ok (.ifCond .ne 7, 3) := dc9_154 (by decide +kernel)
theorem d_MM_lookAt_353 : decode y_MM_lookAt.2.1 353 = .ok (.iconst 1, 1) := dc9_4 (by decide +kernel)
theorem d_MM_lookAt_354 : decode y_MM_lookAt.2.1 354 = .ok (.goto 4, 3) := dc9_167 (by decide +kernel)
theorem d_MM_lookAt_357 : decode y_MM_lookAt.2.1 357 = .ok (.iconst 0, 1) := dc9_3 (by decide +kernel)
theorem d_MM_lookAt_358 : decode y_MM_lookAt.2.1 358 = .ok (.istore 8, 2) := dc9_54 (by decide +kernel)
theorem d_MM_lookAt_360 : decode y_MM_lookAt.2.1 360 = .ok (.iload_n 3, 1) := dc9_29 (by decide +kernel)
theorem d_MM_lookAt_361 : decode y_MM_lookAt.2.1 361 = .ok (.invokestatic 261, 3) := dc9_184 (by decide +kernel)
theorem d_MM_lookAt_364 : decode y_MM_lookAt.2.1 364 = .ok (.ifCond .eq 7, 3) := dc9_153 (by decide +kernel)
theorem d_MM_lookAt_371 : decode y_MM_lookAt.2.1 371 = .ok (.iconst 0, 1) := dc9_3 (by decide +kernel)
theorem d_MM_lookAt_367 : decode y_MM_lookAt.2.1 367 = .ok (.iconst 1, 1) := dc9_4 (by decide +kernel)
theorem d_MM_lookAt_368 : decode y_MM_lookAt.2.1 368 = .ok (.goto 4, 3) := dc9_167 (by decide +kernel)
theorem d_MM_lookAt_372 : decode y_MM_lookAt.2.1 372 = .ok (.istore 9, 2) := dc9_54 (by decide +kernel)
theorem d_MM_lookAt_71 : decode y_MM_lookAt.2.1 71 = .ok (.invokevirtual 155, 3) := dc9_182 (by decide +kernel)
theorem d_MM_lookAt_74 : decode y_MM_lookAt.2.1 74 = .ok (.iadd, 1) := dc9_96 (by decide +kernel)
theorem d_MM_lookAt_75 : decode y_MM_lookAt.2.1 75 = .ok (.istore 7, 2) := dc9_54 (by decide +kernel)
theorem d_MM_lookAt_77 : decode y_MM_lookAt.2.1 77 = .ok (.iinc 8 1, 3) := by decide +kernel
theorem d_MM_lookAt_80 : decode y_MM_lookAt.2.1 80 = .ok (.goto (-29), 3) := dc9_167 (by decide +kernel)
theorem d_MM_lookAt_334 : decode y_MM_lookAt.2.1 334 = .ok (.istore 8, 2) := dc9_54 (by decide +kernel)
theorem d_MM_lookAt_336 : decode y_MM_lookAt.2.1 336 = .ok (.aload_n 0, 1) := dc9_42 (by decide +kernel)
theorem d_MM_lookAt_337 : decode y_MM_lookAt.2.1 337 = .ok (.getfield 57, 3) := dc9_180 (by decide +kernel)
theorem d_MM_lookAt_340 : decode y_MM_lookAt.2.1 340 = .ok (.invokevirtual 341, 3) := dc9_182 (by decide +kernel)
theorem d_MM_lookAt_343 : decode y_MM_lookAt.2.1 343 = .ok (.istore 9, 2) := dc9_54 (by decide +kernel)
theorem d_MM_lookAt_345 : decode y_MM_lookAt.2.1 345 = .ok (.goto 29, 3) := dc9_167 (by decide +kernel)
theorem d_MM_lookAt_386 : decode y_MM_lookAt.2.1 386 = .ok (.aload_n 0, 1) := dc9_42 (by decide +kernel)
theorem d_MM_lookAt_387 : decode y_MM_lookAt.2.1 387 = .ok (.getfield 57, 3) := dc9_180 (by decide +kernel)
theorem d_MM_lookAt_390 : decode y_MM_lookAt.2.1 390 = .ok (.iload 6, 2) := dc9_21 (by decide +kernel)
theorem d_MM_lookAt_392 : decode y_MM_lookAt.2.1 392 = .ok (.putfield 145, 3) := dc9_181 (by decide +kernel)
theorem d_MM_lookAt_395 : decode y_MM_lookAt.2.1 395 = .ok (.aload_n 0, 1) := dc9_42 (by decide +kernel)
theorem d_MM_lookAt_396 : decode y_MM_lookAt.2.1 396 = .ok (.getfield 57, 3) := dc9_180 (by decide +kernel)
theorem d_MM_lookAt_399 : decode y_MM_lookAt.2.1 399 = .ok (.iload 9, 2) := dc9_21 (by decide +kernel)
theorem d_MM_lookAt_401 : decode y_MM_lookAt.2.1 401 = .ok (.invokevirtual 152, 3) := dc9_182 (by decide +kernel)
theorem d_MM_lookAt_404 : decode y_MM_lookAt.2.1 404 = .ok (.return_, 1) := dc9_177 (by decide +kernel)
def h_MM_lookAt_51 (G : mG) (d : Nat) (a0 : Nat) (l1 : Int) (l2 : Int) (l3 : Int) (l4 : Int) (l5 : Int) (l6 : Int) (l7 : Int) (l8 : Int) (M : mM) (Q : mM → Prop) : Prop := mWm G y_MM_lookAt (d + 1) 51 [vr a0, vi l1, vi l2, vi l3, vi l4, vi l5, vi l6, vi l7, vi l8, vd] [] M (fun r9 M9 => r9 = none ∧ Q M9)
def h_MM_lookAt_334 (G : mG) (d : Nat) (a0 : Nat) (l4 : Int) (l6 : Int) (k0 : Int) (M : mM) (Q : mM → Prop) : Prop := mWm G y_MM_lookAt (d + 1) 334 [vr a0, vd, vd, vd, vi l4, vd, vi l6, vd, vd, vd] [vi k0] M (fun r9 M9 => r9 = none ∧ Q M9)
def h_MM_lookAt_386 (G : mG) (d : Nat) (a0 : Nat) (l6 : Int) (l9 : Int) (M : mM) (Q : mM → Prop) : Prop := mWm G y_MM_lookAt (d + 1) 386 [vr a0, vd, vd, vd, vd, vd, vi l6, vd, vd, vi l9] [] M (fun r9 M9 => r9 = none ∧ Q M9)
theorem k_MM_lookAt {G : mG} {d : Nat} {a0 : Nat} {l1 : Int} {l2 : Int} {M : mM} {Q : mM → Prop} (hO : mOk M) (hi_l1 : i32 l1) (hi_l2 : i32 l2)
    (h : mK M a0 = 14 ∧ mK M (mR M a0 10) = 16 ∧ mK M (mR M (mR M a0 10) 0) = 15 ∧ Ci G y_MN_at d [vr (mR M (mR M a0 10) 0), vi l1] M (fun x5 M4 => i32 x5 ∧ mOk M4 ∧ (mK M4 a0 = 14 ∧ mK M4 (mR M4 a0 10) = 16 ∧ mK M4 (mR M4 (mR M4 a0 10) 1) = 15 ∧ Ci G y_MN_at d [vr (mR M4 (mR M4 a0 10) 1), vi l1] M4 (fun x11 M10 => i32 x11 ∧ mOk M10 ∧ (mK M10 a0 = 14 ∧ Ci G y_MM_parts d [vr a0, vi l1] M10 (fun x15 M14 => i32 x15 ∧ mOk M14 ∧ (mK M14 a0 = 14 ∧ mK M14 (mR M14 a0 19) = 15 ∧ h_MM_lookAt_51 G d a0 l1 l2 x5 x11 x15 ((mI M14 (mR M14 a0 19) 1) - x15) 0 ((mI M14 (mR M14 a0 19) 1) - x15) M14 Q))))))) :
    Cv G y_MM_lookAt (d + 1) [vr a0, vi l1, vi l2] M Q := by
  refine wm_open (y := y_MM_lookAt) rfl (Nat.le_of_ble_eq_true rfl) (L := [vr a0, vi l1, vi l2, vd, vd, vd, vd, vd, vd, vd]) rfl ?_
  obtain ⟨h1, h⟩ := h
  obtain ⟨h2, h⟩ := h
  obtain ⟨h3, h⟩ := h
  refine wm_aload_n d_MM_lookAt_0 rfl rfl ?_
  refine gf_MM_38 rfl d_MM_lookAt_1 h1 ?_
  refine gf_MM_273 rfl d_MM_lookAt_4 h2 ?_
  refine wm_iload_n d_MM_lookAt_7 rfl rfl ?_
  refine cf_MM_155 rfl d_MM_lookAt_8 h3 (Nat.le_of_ble_eq_true rfl) (Ci.mono h (fun x5 M4 h => ?_))
  obtain ⟨h6, hOM4, h⟩ := h
  obtain ⟨h7, h⟩ := h
  obtain ⟨h8, h⟩ := h
  obtain ⟨h9, h⟩ := h
  refine wm_istore_n d_MM_lookAt_11 rfl (by decide) (L' := [vr a0, vi l1, vi l2, vi x5, vd, vd, vd, vd, vd, vd]) rfl ?_
  refine wm_aload_n d_MM_lookAt_12 rfl rfl ?_
  refine gf_MM_38 rfl d_MM_lookAt_13 h7 ?_
  refine gf_MM_276 rfl d_MM_lookAt_16 h8 ?_
  refine wm_iload_n d_MM_lookAt_19 rfl rfl ?_
  refine cf_MM_155 rfl d_MM_lookAt_20 h9 (Nat.le_of_ble_eq_true rfl) (Ci.mono h (fun x11 M10 h => ?_))
  obtain ⟨h12, hOM10, h⟩ := h
  obtain ⟨h13, h⟩ := h
  refine wm_istore d_MM_lookAt_23 (by decide) (L' := [vr a0, vi l1, vi l2, vi x5, vi x11, vd, vd, vd, vd, vd]) rfl ?_
  refine wm_aload_n d_MM_lookAt_25 rfl rfl ?_
  refine wm_iload_n d_MM_lookAt_26 rfl rfl ?_
  refine cf_MM_344 rfl d_MM_lookAt_27 h13 (Nat.le_of_ble_eq_true rfl) (Ci.mono h (fun x15 M14 h => ?_))
  obtain ⟨h16, hOM14, h⟩ := h
  obtain ⟨h17, h⟩ := h
  obtain ⟨h18, h⟩ := h
  refine wm_istore d_MM_lookAt_30 (by decide) (L' := [vr a0, vi l1, vi l2, vi x5, vi x11, vi x15, vd, vd, vd, vd]) rfl ?_
  refine wm_aload_n d_MM_lookAt_32 rfl rfl ?_
  refine gf_MM_57 rfl d_MM_lookAt_33 h17 ?_
  refine gf_MM_145 rfl d_MM_lookAt_36 h18 ?_
  refine wm_iload d_MM_lookAt_39 rfl ?_
  refine wm_isub d_MM_lookAt_41 ?_
  refine wm_istore d_MM_lookAt_42 (by decide) (L' := [vr a0, vi l1, vi l2, vi x5, vi x11, vi x15, vi ((mI M14 (mR M14 a0 19) 1) - x15), vd, vd, vd]) rfl ?_
  refine wm_iconst d_MM_lookAt_44 ?_
  refine wm_istore d_MM_lookAt_45 (by decide) (L' := [vr a0, vi l1, vi l2, vi x5, vi x11, vi x15, vi ((mI M14 (mR M14 a0 19) 1) - x15), vi 0, vd, vd]) rfl ?_
  refine wm_iload d_MM_lookAt_47 rfl ?_
  refine wm_istore d_MM_lookAt_49 (by decide) (L' := [vr a0, vi l1, vi l2, vi x5, vi x11, vi x15, vi ((mI M14 (mR M14 a0 19) 1) - x15), vi 0, vi ((mI M14 (mR M14 a0 19) 1) - x15), vd]) rfl ?_
  exact h
theorem k_MM_lookAt_51 {G : mG} {d : Nat} {a0 : Nat} {l1 : Int} {l2 : Int} {l3 : Int} {l4 : Int} {l5 : Int} {l6 : Int} {l7 : Int} {l8 : Int} {M : mM} {Q : mM → Prop} (hO : mOk M) (hi_l1 : i32 l1) (hi_l2 : i32 l2) (hi_l3 : i32 l3) (hi_l4 : i32 l4) (hi_l5 : i32 l5) (hi_l6 : i32 l6) (hi_l7 : i32 l7) (hi_l8 : i32 l8)
    (h : mK M a0 = 14 ∧ mK M (mR M a0 19) = 15 ∧ ((mI M (mR M a0 19) 1 ≤ l8) → (((l3 = 1) → (Ci G y_MM_lookUp d [vr a0, vi l1, vi l2] M (fun x27 M26 => i32 x27 ∧ mOk M26 ∧ ((((1 : Int) = 0) → (mK M26 a0 = 14 ∧ Cv G y_MM_stop d [vr a0, vi 3, vi l4] M26 (fun M32 => mOk M32 ∧ (h_MM_lookAt_386 G d a0 l6 x27 M32 Q)))) ∧ (¬ ((1 : Int) = 0) → (h_MM_lookAt_386 G d a0 l6 x27 M26 Q)))))) ∧ (¬ (l3 = 1) → (((l3 = 2) → ((((1 : Int) = 0) → (Cv G y_MM_stop d [vr a0, vi 3, vi l4] M (fun M39 => mOk M39 ∧ (h_MM_lookAt_386 G d a0 l6 0 M39 Q)))) ∧ (¬ ((1 : Int) = 0) → (h_MM_lookAt_386 G d a0 l6 0 M Q)))) ∧ (¬ (l3 = 2) → (((l3 = 12 ∨ l3 = 13) → ((((1 : Int) = 0) → (Cv G y_MM_stop d [vr a0, vi 3, vi l4] M (fun M46 => mOk M46 ∧ (h_MM_lookAt_386 G d a0 l6 1 M46 Q)))) ∧ (¬ ((1 : Int) = 0) → (h_MM_lookAt_386 G d a0 l6 1 M Q)))) ∧ (¬ (l3 = 12 ∨ l3 = 13) → (((l3 = 18 ∨ l3 = 23) → (∀ v52 : Int, v52 = (if (l7 = 1) then 0 else 1) → ((v52 = 0) → (Cv G y_MM_stop d [vr a0, vi 3, vi l4] M (fun M59 => mOk M59 ∧ (h_MM_lookAt_386 G d a0 l6 1 M59 Q)))) ∧ (¬ (v52 = 0) → (h_MM_lookAt_386 G d a0 l6 1 M Q)))) ∧ (¬ (l3 = 18 ∨ l3 = 23) → (((l3 = 29 ∨ l3 = 30 ∨ l3 = 31) → (∀ v66 : Int, v66 = (if (l7 = l5) then 1 else 0) → ((v66 = 0) → (Cv G y_MM_stop d [vr a0, vi 3, vi l4] M (fun M73 => mOk M73 ∧ (h_MM_lookAt_386 G d a0 l6 1 M73 Q)))) ∧ (¬ (v66 = 0) → (h_MM_lookAt_386 G d a0 l6 1 M Q)))) ∧ (¬ (l3 = 29 ∨ l3 = 30 ∨ l3 = 31) → (((l3 = 32) → (Ci G y_MN_at d [vr (mR M a0 19), vi l6] M (fun x80 M79 => i32 x80 ∧ mOk M79 ∧ (((x80 = 1) → (mK M79 a0 = 14 ∧ mK M79 (mR M79 a0 19) = 15 ∧ Ci G y_MN_at d [vr (mR M79 a0 19), vi (l6 + 1)] M79 (fun x87 M86 => i32 x87 ∧ mOk M86 ∧ (mK M86 a0 = 14 ∧ mK M86 (mR M86 a0 19) = 15 ∧ Ci G y_MN_at d [vr (mR M86 a0 19), vi (l6 + 2)] M86 (fun x92 M91 => i32 x92 ∧ mOk M91 ∧ (((x87 = x92) → (h_MM_lookAt_334 G d a0 l4 l6 1 M91 Q)) ∧ (¬ (x87 = x92) → (h_MM_lookAt_334 G d a0 l4 l6 0 M91 Q)))))))) ∧ (¬ (x80 = 1) → (h_MM_lookAt_334 G d a0 l4 l6 0 M79 Q)))))) ∧ (¬ (l3 = 32) → (∀ v97 : Int, v97 = (if (l7 = 0) then 1 else 0) → Ci G y_MM_isComparison d [vi l3] M (fun x103 M102 => i32 x103 ∧ mOk M102 ∧ (∀ v106 : Int, v106 = (if (x103 = 0) then 0 else 1) → ((v97 = 0) → (mK M102 a0 = 14 ∧ Cv G y_MM_stop d [vr a0, vi 3, vi l4] M102 (fun M114 => mOk M114 ∧ (h_MM_lookAt_386 G d a0 l6 v106 M114 Q)))) ∧ (¬ (v97 = 0) → (h_MM_lookAt_386 G d a0 l6 v106 M102 Q)))))))))))))))))) ∧ (¬ (mI M (mR M a0 19) 1 ≤ l8) → (Ci G y_MN_at d [vr (mR M a0 19), vi l8] M (fun x120 M119 => i32 x120 ∧ mOk M119 ∧ (h_MM_lookAt_51 G d a0 l1 l2 l3 l4 l5 l6 (l7 + x120) (l8 + 1) M119 Q))))) :
    h_MM_lookAt_51 G d a0 l1 l2 l3 l4 l5 l6 l7 l8 M Q := by
  unfold h_MM_lookAt_51
  obtain ⟨h19, h⟩ := h
  obtain ⟨h20, h⟩ := h
  refine wm_iload d_MM_lookAt_51 rfl ?_
  refine wm_aload_n d_MM_lookAt_53 rfl rfl ?_
  refine gf_MM_57 rfl d_MM_lookAt_54 h19 ?_
  refine gf_MM_145 rfl d_MM_lookAt_57 h20 ?_
  refine wm_icmp_ge (tgt := 83) d_MM_lookAt_60 rfl hi_l8 (hO _ _).1 (fun c22 => ?_) (fun c22 => ?_)
  · replace h := h.1 c22
    refine wm_iconst d_MM_lookAt_83 ?_
    refine wm_istore d_MM_lookAt_84 (by decide) (L' := [vr a0, vi l1, vi l2, vi l3, vi l4, vi l5, vi l6, vi l7, vi 1, vd]) rfl ?_
    refine wm_iconst d_MM_lookAt_86 ?_
    refine wm_istore d_MM_lookAt_87 (by decide) (L' := [vr a0, vi l1, vi l2, vi l3, vi l4, vi l5, vi l6, vi l7, vi 1, vi 0]) rfl ?_
    refine wm_iload_n d_MM_lookAt_89 rfl rfl ?_
    by_cases c25 : l3 = 1
    · replace h := h.1 c25
      refine wm_tableIn (tgt := 241) (off := 151) d_MM_lookAt_90 hi_l3 (by omega) (by omega) (by rw [c25]; rfl) rfl ?_
      refine wm_aload_n d_MM_lookAt_241 rfl rfl ?_
      refine wm_iload_n d_MM_lookAt_242 rfl rfl ?_
      refine wm_iload_n d_MM_lookAt_243 rfl rfl ?_
      refine cf_MM_347 rfl d_MM_lookAt_244 h19 (Nat.le_of_ble_eq_true rfl) (Ci.mono h (fun x27 M26 h => ?_))
      obtain ⟨h28, hOM26, h⟩ := h
      refine wm_istore d_MM_lookAt_247 (by decide) (L' := [vr a0, vi l1, vi l2, vi l3, vi l4, vi l5, vi l6, vi l7, vi 1, vi x27]) rfl ?_
      refine wm_goto (tgt := 374) d_MM_lookAt_249 rfl ?_
      refine wm_iload d_MM_lookAt_374 rfl ?_
      refine wm_if_ne (tgt := 386) d_MM_lookAt_376 rfl ⟨by decide, by decide⟩ (fun c30 => ?_) (fun c30 => ?_)
      · replace h := h.2 c30
        refine wm_less (L' := [vr a0, vd, vd, vd, vd, vd, vi l6, vd, vd, vi x27]) ⟨Or.inr rfl, Or.inl rfl, Or.inl rfl, Or.inl rfl, Or.inl rfl, Or.inl rfl, Or.inr rfl, Or.inl rfl, Or.inl rfl, Or.inr rfl, trivial⟩ ?_
        exact h
      · replace c30 := Classical.not_not.mp c30
        replace h := h.1 c30
        obtain ⟨h31, h⟩ := h
        refine wm_aload_n d_MM_lookAt_379 rfl rfl ?_
        refine wm_iconst d_MM_lookAt_380 ?_
        refine wm_iload d_MM_lookAt_381 rfl ?_
        refine cf_MM_351 rfl d_MM_lookAt_383 h31 (Nat.le_of_ble_eq_true rfl) (Cv.mono h (fun M32 h => ?_))
        obtain ⟨hOM32, h⟩ := h
        refine wm_less (L' := [vr a0, vd, vd, vd, vd, vd, vi l6, vd, vd, vi x27]) ⟨Or.inr rfl, Or.inl rfl, Or.inl rfl, Or.inl rfl, Or.inl rfl, Or.inl rfl, Or.inr rfl, Or.inl rfl, Or.inl rfl, Or.inr rfl, trivial⟩ ?_
        exact h
    · replace h := h.2 c25
      by_cases c36 : l3 = 2
      · replace h := h.1 c36
        refine wm_tableIn (tgt := 232) (off := 142) d_MM_lookAt_90 hi_l3 (by omega) (by omega) (by rw [c36]; rfl) rfl ?_
        refine wm_goto (tgt := 374) d_MM_lookAt_232 rfl ?_
        refine wm_iload d_MM_lookAt_374 rfl ?_
        refine wm_if_ne (tgt := 386) d_MM_lookAt_376 rfl ⟨by decide, by decide⟩ (fun c38 => ?_) (fun c38 => ?_)
        · replace h := h.2 c38
          refine wm_less (L' := [vr a0, vd, vd, vd, vd, vd, vi l6, vd, vd, vi 0]) ⟨Or.inr rfl, Or.inl rfl, Or.inl rfl, Or.inl rfl, Or.inl rfl, Or.inl rfl, Or.inr rfl, Or.inl rfl, Or.inl rfl, Or.inr rfl, trivial⟩ ?_
          exact h
        · replace c38 := Classical.not_not.mp c38
          replace h := h.1 c38
          refine wm_aload_n d_MM_lookAt_379 rfl rfl ?_
          refine wm_iconst d_MM_lookAt_380 ?_
          refine wm_iload d_MM_lookAt_381 rfl ?_
          refine cf_MM_351 rfl d_MM_lookAt_383 h19 (Nat.le_of_ble_eq_true rfl) (Cv.mono h (fun M39 h => ?_))
          obtain ⟨hOM39, h⟩ := h
          refine wm_less (L' := [vr a0, vd, vd, vd, vd, vd, vi l6, vd, vd, vi 0]) ⟨Or.inr rfl, Or.inl rfl, Or.inl rfl, Or.inl rfl, Or.inl rfl, Or.inl rfl, Or.inr rfl, Or.inl rfl, Or.inl rfl, Or.inr rfl, trivial⟩ ?_
          exact h
      · replace h := h.2 c36
        by_cases c43 : l3 = 12 ∨ l3 = 13
        · replace h := h.1 c43
          refine wm_tableIn (tgt := 235) (off := 145) d_MM_lookAt_90 hi_l3 (by omega) (by omega) (by rcases c43 with q9 | q9 <;> (rw [q9]; rfl)) rfl ?_
          refine wm_iconst d_MM_lookAt_235 ?_
          refine wm_istore d_MM_lookAt_236 (by decide) (L' := [vr a0, vi l1, vi l2, vi l3, vi l4, vi l5, vi l6, vi l7, vi 1, vi 1]) rfl ?_
          refine wm_goto (tgt := 374) d_MM_lookAt_238 rfl ?_
          refine wm_iload d_MM_lookAt_374 rfl ?_
          refine wm_if_ne (tgt := 386) d_MM_lookAt_376 rfl ⟨by decide, by decide⟩ (fun c45 => ?_) (fun c45 => ?_)
          · replace h := h.2 c45
            refine wm_less (L' := [vr a0, vd, vd, vd, vd, vd, vi l6, vd, vd, vi 1]) ⟨Or.inr rfl, Or.inl rfl, Or.inl rfl, Or.inl rfl, Or.inl rfl, Or.inl rfl, Or.inr rfl, Or.inl rfl, Or.inl rfl, Or.inr rfl, trivial⟩ ?_
            exact h
          · replace c45 := Classical.not_not.mp c45
            replace h := h.1 c45
            refine wm_aload_n d_MM_lookAt_379 rfl rfl ?_
            refine wm_iconst d_MM_lookAt_380 ?_
            refine wm_iload d_MM_lookAt_381 rfl ?_
            refine cf_MM_351 rfl d_MM_lookAt_383 h19 (Nat.le_of_ble_eq_true rfl) (Cv.mono h (fun M46 h => ?_))
            obtain ⟨hOM46, h⟩ := h
            refine wm_less (L' := [vr a0, vd, vd, vd, vd, vd, vi l6, vd, vd, vi 1]) ⟨Or.inr rfl, Or.inl rfl, Or.inl rfl, Or.inl rfl, Or.inl rfl, Or.inl rfl, Or.inr rfl, Or.inl rfl, Or.inl rfl, Or.inr rfl, trivial⟩ ?_
            exact h
        · replace h := h.2 c43
          by_cases c50 : l3 = 18 ∨ l3 = 23
          · replace h := h.1 c50
            refine wm_tableIn (tgt := 272) (off := 182) d_MM_lookAt_90 hi_l3 (by omega) (by omega) (by rcases c50 with q9 | q9 <;> (rw [q9]; rfl)) rfl ?_
            refine wm_iload d_MM_lookAt_272 rfl ?_
            refine wm_iconst d_MM_lookAt_274 ?_
            have hJ : ∀ v52 : Int, v52 = (if (l7 = 1) then 0 else 1) → mWm G y_MM_lookAt (d + 1) 283 [vr a0, vd, vd, vd, vi l4, vd, vi l6, vd, vd, vd] [vi v52] M (fun r9 M9 => r9 = none ∧ Q M9) := by
              intro v52 e54
              have h := h v52 e54
              have h55 : i32 v52 := by rw [e54]; (repeat' split) <;> first | exact ⟨by decide, by decide⟩ | exact ⟨by decide, by decide⟩
              have h56 : (v52 = 0 ∨ v52 = 1) := by rw [e54]; (repeat' split) <;> decide
              refine wm_istore d_MM_lookAt_283 (by decide) (L' := [vr a0, vd, vd, vd, vi l4, vd, vi l6, vd, vi v52, vd]) rfl ?_
              refine wm_iconst d_MM_lookAt_285 ?_
              refine wm_istore d_MM_lookAt_286 (by decide) (L' := [vr a0, vd, vd, vd, vi l4, vd, vi l6, vd, vi v52, vi 1]) rfl ?_
              refine wm_goto (tgt := 374) d_MM_lookAt_288 rfl ?_
              refine wm_iload d_MM_lookAt_374 rfl ?_
              refine wm_if_ne (tgt := 386) d_MM_lookAt_376 rfl h55 (fun c58 => ?_) (fun c58 => ?_)
              · replace h := h.2 c58
                refine wm_less (L' := [vr a0, vd, vd, vd, vd, vd, vi l6, vd, vd, vi 1]) ⟨Or.inr rfl, Or.inl rfl, Or.inl rfl, Or.inl rfl, Or.inl rfl, Or.inl rfl, Or.inr rfl, Or.inl rfl, Or.inl rfl, Or.inr rfl, trivial⟩ ?_
                exact h
              · replace c58 := Classical.not_not.mp c58
                replace h := h.1 c58
                refine wm_aload_n d_MM_lookAt_379 rfl rfl ?_
                refine wm_iconst d_MM_lookAt_380 ?_
                refine wm_iload d_MM_lookAt_381 rfl ?_
                refine cf_MM_351 rfl d_MM_lookAt_383 h19 (Nat.le_of_ble_eq_true rfl) (Cv.mono h (fun M59 h => ?_))
                obtain ⟨hOM59, h⟩ := h
                refine wm_less (L' := [vr a0, vd, vd, vd, vd, vd, vi l6, vd, vd, vi 1]) ⟨Or.inr rfl, Or.inl rfl, Or.inl rfl, Or.inl rfl, Or.inl rfl, Or.inl rfl, Or.inr rfl, Or.inl rfl, Or.inl rfl, Or.inr rfl, trivial⟩ ?_
                exact h
            clear h
            refine wm_icmp_eq (tgt := 282) d_MM_lookAt_275 rfl hi_l7 ⟨by decide, by decide⟩ (fun c51 => ?_) (fun c51 => ?_)
            · refine wm_iconst d_MM_lookAt_282 ?_
              refine wm_less (L' := [vr a0, vd, vd, vd, vi l4, vd, vi l6, vd, vd, vd]) ⟨Or.inr rfl, Or.inl rfl, Or.inl rfl, Or.inl rfl, Or.inr rfl, Or.inl rfl, Or.inr rfl, Or.inl rfl, Or.inl rfl, Or.inl rfl, trivial⟩ ?_
              exact hJ 0 (if_pos c51).symm
            · refine wm_iconst d_MM_lookAt_278 ?_
              refine wm_goto (tgt := 283) d_MM_lookAt_279 rfl ?_
              refine wm_less (L' := [vr a0, vd, vd, vd, vi l4, vd, vi l6, vd, vd, vd]) ⟨Or.inr rfl, Or.inl rfl, Or.inl rfl, Or.inl rfl, Or.inr rfl, Or.inl rfl, Or.inr rfl, Or.inl rfl, Or.inl rfl, Or.inl rfl, trivial⟩ ?_
              exact hJ 1 (if_neg c51).symm
          · replace h := h.2 c50
            by_cases c64 : l3 = 29 ∨ l3 = 30 ∨ l3 = 31
            · replace h := h.1 c64
              refine wm_tableIn (tgt := 252) (off := 162) d_MM_lookAt_90 hi_l3 (by omega) (by omega) (by rcases c64 with q9 | q9 | q9 <;> (rw [q9]; rfl)) rfl ?_
              refine wm_iload d_MM_lookAt_252 rfl ?_
              refine wm_iload d_MM_lookAt_254 rfl ?_
              have hJ : ∀ v66 : Int, v66 = (if (l7 = l5) then 1 else 0) → mWm G y_MM_lookAt (d + 1) 264 [vr a0, vd, vd, vd, vi l4, vd, vi l6, vd, vd, vd] [vi v66] M (fun r9 M9 => r9 = none ∧ Q M9) := by
                intro v66 e68
                have h := h v66 e68
                have h69 : i32 v66 := by rw [e68]; (repeat' split) <;> first | exact ⟨by decide, by decide⟩ | exact ⟨by decide, by decide⟩
                have h70 : (v66 = 0 ∨ v66 = 1) := by rw [e68]; (repeat' split) <;> decide
                refine wm_istore d_MM_lookAt_264 (by decide) (L' := [vr a0, vd, vd, vd, vi l4, vd, vi l6, vd, vi v66, vd]) rfl ?_
                refine wm_iconst d_MM_lookAt_266 ?_
                refine wm_istore d_MM_lookAt_267 (by decide) (L' := [vr a0, vd, vd, vd, vi l4, vd, vi l6, vd, vi v66, vi 1]) rfl ?_
                refine wm_goto (tgt := 374) d_MM_lookAt_269 rfl ?_
                refine wm_iload d_MM_lookAt_374 rfl ?_
                refine wm_if_ne (tgt := 386) d_MM_lookAt_376 rfl h69 (fun c72 => ?_) (fun c72 => ?_)
                · replace h := h.2 c72
                  refine wm_less (L' := [vr a0, vd, vd, vd, vd, vd, vi l6, vd, vd, vi 1]) ⟨Or.inr rfl, Or.inl rfl, Or.inl rfl, Or.inl rfl, Or.inl rfl, Or.inl rfl, Or.inr rfl, Or.inl rfl, Or.inl rfl, Or.inr rfl, trivial⟩ ?_
                  exact h
                · replace c72 := Classical.not_not.mp c72
                  replace h := h.1 c72
                  refine wm_aload_n d_MM_lookAt_379 rfl rfl ?_
                  refine wm_iconst d_MM_lookAt_380 ?_
                  refine wm_iload d_MM_lookAt_381 rfl ?_
                  refine cf_MM_351 rfl d_MM_lookAt_383 h19 (Nat.le_of_ble_eq_true rfl) (Cv.mono h (fun M73 h => ?_))
                  obtain ⟨hOM73, h⟩ := h
                  refine wm_less (L' := [vr a0, vd, vd, vd, vd, vd, vi l6, vd, vd, vi 1]) ⟨Or.inr rfl, Or.inl rfl, Or.inl rfl, Or.inl rfl, Or.inl rfl, Or.inl rfl, Or.inr rfl, Or.inl rfl, Or.inl rfl, Or.inr rfl, trivial⟩ ?_
                  exact h
              clear h
              refine wm_icmp_ne (tgt := 263) d_MM_lookAt_256 rfl hi_l7 hi_l5 (fun c65 => ?_) (fun c65 => ?_)
              · refine wm_iconst d_MM_lookAt_263 ?_
                refine wm_less (L' := [vr a0, vd, vd, vd, vi l4, vd, vi l6, vd, vd, vd]) ⟨Or.inr rfl, Or.inl rfl, Or.inl rfl, Or.inl rfl, Or.inr rfl, Or.inl rfl, Or.inr rfl, Or.inl rfl, Or.inl rfl, Or.inl rfl, trivial⟩ ?_
                exact hJ 0 (if_neg c65).symm
              · replace c65 := Classical.not_not.mp c65
                refine wm_iconst d_MM_lookAt_259 ?_
                refine wm_goto (tgt := 264) d_MM_lookAt_260 rfl ?_
                refine wm_less (L' := [vr a0, vd, vd, vd, vi l4, vd, vi l6, vd, vd, vd]) ⟨Or.inr rfl, Or.inl rfl, Or.inl rfl, Or.inl rfl, Or.inr rfl, Or.inl rfl, Or.inr rfl, Or.inl rfl, Or.inl rfl, Or.inl rfl, trivial⟩ ?_
                exact hJ 1 (if_pos c65).symm
            · replace h := h.2 c64
              by_cases c78 : l3 = 32
              · replace h := h.1 c78
                refine wm_tableIn (tgt := 291) (off := 201) d_MM_lookAt_90 hi_l3 (by omega) (by omega) (by rw [c78]; rfl) rfl ?_
                refine wm_aload_n d_MM_lookAt_291 rfl rfl ?_
                refine gf_MM_57 rfl d_MM_lookAt_292 h19 ?_
                refine wm_iload d_MM_lookAt_295 rfl ?_
                refine cf_MM_155 rfl d_MM_lookAt_297 h20 (Nat.le_of_ble_eq_true rfl) (Ci.mono h (fun x80 M79 h => ?_))
                obtain ⟨h81, hOM79, h⟩ := h
                refine wm_iconst d_MM_lookAt_300 ?_
                refine wm_icmp_ne (tgt := 333) d_MM_lookAt_301 rfl h81 ⟨by decide, by decide⟩ (fun c83 => ?_) (fun c83 => ?_)
                · replace h := h.2 c83
                  refine wm_iconst d_MM_lookAt_333 ?_
                  refine wm_less (L' := [vr a0, vd, vd, vd, vi l4, vd, vi l6, vd, vd, vd]) ⟨Or.inr rfl, Or.inl rfl, Or.inl rfl, Or.inl rfl, Or.inr rfl, Or.inl rfl, Or.inr rfl, Or.inl rfl, Or.inl rfl, Or.inl rfl, trivial⟩ ?_
                  exact h
                · replace c83 := Classical.not_not.mp c83
                  replace h := h.1 c83
                  obtain ⟨h84, h⟩ := h
                  obtain ⟨h85, h⟩ := h
                  refine wm_aload_n d_MM_lookAt_304 rfl rfl ?_
                  refine gf_MM_57 rfl d_MM_lookAt_305 h84 ?_
                  refine wm_iload d_MM_lookAt_308 rfl ?_
                  refine wm_iconst d_MM_lookAt_310 ?_
                  refine wm_iadd d_MM_lookAt_311 ?_
                  refine cf_MM_155 rfl d_MM_lookAt_312 h85 (Nat.le_of_ble_eq_true rfl) (Ci.mono h (fun x87 M86 h => ?_))
                  obtain ⟨h88, hOM86, h⟩ := h
                  obtain ⟨h89, h⟩ := h
                  obtain ⟨h90, h⟩ := h
                  refine wm_aload_n d_MM_lookAt_315 rfl rfl ?_
                  refine gf_MM_57 rfl d_MM_lookAt_316 h89 ?_
                  refine wm_iload d_MM_lookAt_319 rfl ?_
                  refine wm_iconst d_MM_lookAt_321 ?_
                  refine wm_iadd d_MM_lookAt_322 ?_
                  refine cf_MM_155 rfl d_MM_lookAt_323 h90 (Nat.le_of_ble_eq_true rfl) (Ci.mono h (fun x92 M91 h => ?_))
                  obtain ⟨h93, hOM91, h⟩ := h
                  refine wm_icmp_ne (tgt := 333) d_MM_lookAt_326 rfl h88 h93 (fun c95 => ?_) (fun c95 => ?_)
                  · replace h := h.2 c95
                    refine wm_iconst d_MM_lookAt_333 ?_
                    refine wm_less (L' := [vr a0, vd, vd, vd, vi l4, vd, vi l6, vd, vd, vd]) ⟨Or.inr rfl, Or.inl rfl, Or.inl rfl, Or.inl rfl, Or.inr rfl, Or.inl rfl, Or.inr rfl, Or.inl rfl, Or.inl rfl, Or.inl rfl, trivial⟩ ?_
                    exact h
                  · replace c95 := Classical.not_not.mp c95
                    replace h := h.1 c95
                    refine wm_iconst d_MM_lookAt_329 ?_
                    refine wm_goto (tgt := 334) d_MM_lookAt_330 rfl ?_
                    refine wm_less (L' := [vr a0, vd, vd, vd, vi l4, vd, vi l6, vd, vd, vd]) ⟨Or.inr rfl, Or.inl rfl, Or.inl rfl, Or.inl rfl, Or.inr rfl, Or.inl rfl, Or.inr rfl, Or.inl rfl, Or.inl rfl, Or.inl rfl, trivial⟩ ?_
                    exact h
              · replace h := h.2 c78
                refine wm_tableD (tgt := 348) (off := 258) d_MM_lookAt_90 hi_l3 (if q8 : 1 ≤ l3 ∧ l3 ≤ 32 then Or.inr ⟨q8.1, q8.2, by
      have q9 : l3 = 3 ∨ l3 = 4 ∨ l3 = 5 ∨ l3 = 6 ∨ l3 = 7 ∨ l3 = 8 ∨ l3 = 9 ∨ l3 = 10 ∨ l3 = 11 ∨ l3 = 14 ∨ l3 = 15 ∨ l3 = 16 ∨ l3 = 17 ∨ l3 = 19 ∨ l3 = 20 ∨ l3 = 21 ∨ l3 = 22 ∨ l3 = 24 ∨ l3 = 25 ∨ l3 = 26 ∨ l3 = 27 ∨ l3 = 28 := by omega
      rcases q9 with q9 | q9 | q9 | q9 | q9 | q9 | q9 | q9 | q9 | q9 | q9 | q9 | q9 | q9 | q9 | q9 | q9 | q9 | q9 | q9 | q9 | q9 <;> (rw [q9]; rfl)⟩ else Or.inl (by omega)) rfl ?_
                refine wm_iload d_MM_lookAt_348 rfl ?_
                have hJ : ∀ v97 : Int, v97 = (if (l7 = 0) then 1 else 0) → mWm G y_MM_lookAt (d + 1) 358 [vr a0, vd, vd, vi l3, vi l4, vd, vi l6, vd, vd, vd] [vi v97] M (fun r9 M9 => r9 = none ∧ Q M9) := by
                  intro v97 e99
                  have h := h v97 e99
                  have h100 : i32 v97 := by rw [e99]; (repeat' split) <;> first | exact ⟨by decide, by decide⟩ | exact ⟨by decide, by decide⟩
                  have h101 : (v97 = 0 ∨ v97 = 1) := by rw [e99]; (repeat' split) <;> decide
                  refine wm_istore d_MM_lookAt_358 (by decide) (L' := [vr a0, vd, vd, vi l3, vi l4, vd, vi l6, vd, vi v97, vd]) rfl ?_
                  refine wm_iload_n d_MM_lookAt_360 rfl rfl ?_
                  refine cf_MM_261 rfl d_MM_lookAt_361 (Nat.le_of_ble_eq_true rfl) (Ci.mono h (fun x103 M102 h => ?_))
                  obtain ⟨h104, hOM102, h⟩ := h
                  have hJ : ∀ v106 : Int, v106 = (if (x103 = 0) then 0 else 1) → mWm G y_MM_lookAt (d + 1) 372 [vr a0, vd, vd, vd, vi l4, vd, vi l6, vd, vi v97, vd] [vi v106] M102 (fun r9 M9 => r9 = none ∧ Q M9) := by
                    intro v106 e108
                    have h := h v106 e108
                    have h109 : i32 v106 := by rw [e108]; (repeat' split) <;> first | exact ⟨by decide, by decide⟩ | exact ⟨by decide, by decide⟩
                    have h110 : (v106 = 0 ∨ v106 = 1) := by rw [e108]; (repeat' split) <;> decide
                    refine wm_istore d_MM_lookAt_372 (by decide) (L' := [vr a0, vd, vd, vd, vi l4, vd, vi l6, vd, vi v97, vi v106]) rfl ?_
                    refine wm_iload d_MM_lookAt_374 rfl ?_
                    refine wm_if_ne (tgt := 386) d_MM_lookAt_376 rfl h100 (fun c112 => ?_) (fun c112 => ?_)
                    · replace h := h.2 c112
                      refine wm_less (L' := [vr a0, vd, vd, vd, vd, vd, vi l6, vd, vd, vi v106]) ⟨Or.inr rfl, Or.inl rfl, Or.inl rfl, Or.inl rfl, Or.inl rfl, Or.inl rfl, Or.inr rfl, Or.inl rfl, Or.inl rfl, Or.inr rfl, trivial⟩ ?_
                      exact h
                    · replace c112 := Classical.not_not.mp c112
                      replace h := h.1 c112
                      obtain ⟨h113, h⟩ := h
                      refine wm_aload_n d_MM_lookAt_379 rfl rfl ?_
                      refine wm_iconst d_MM_lookAt_380 ?_
                      refine wm_iload d_MM_lookAt_381 rfl ?_
                      refine cf_MM_351 rfl d_MM_lookAt_383 h113 (Nat.le_of_ble_eq_true rfl) (Cv.mono h (fun M114 h => ?_))
                      obtain ⟨hOM114, h⟩ := h
                      refine wm_less (L' := [vr a0, vd, vd, vd, vd, vd, vi l6, vd, vd, vi v106]) ⟨Or.inr rfl, Or.inl rfl, Or.inl rfl, Or.inl rfl, Or.inl rfl, Or.inl rfl, Or.inr rfl, Or.inl rfl, Or.inl rfl, Or.inr rfl, trivial⟩ ?_
                      exact h
                  clear h
                  refine wm_if_eq (tgt := 371) d_MM_lookAt_364 rfl h104 (fun c105 => ?_) (fun c105 => ?_)
                  · refine wm_iconst d_MM_lookAt_371 ?_
                    refine wm_less (L' := [vr a0, vd, vd, vd, vi l4, vd, vi l6, vd, vi v97, vd]) ⟨Or.inr rfl, Or.inl rfl, Or.inl rfl, Or.inl rfl, Or.inr rfl, Or.inl rfl, Or.inr rfl, Or.inl rfl, Or.inr rfl, Or.inl rfl, trivial⟩ ?_
                    exact hJ 0 (if_pos c105).symm
                  · refine wm_iconst d_MM_lookAt_367 ?_
                    refine wm_goto (tgt := 372) d_MM_lookAt_368 rfl ?_
                    refine wm_less (L' := [vr a0, vd, vd, vd, vi l4, vd, vi l6, vd, vi v97, vd]) ⟨Or.inr rfl, Or.inl rfl, Or.inl rfl, Or.inl rfl, Or.inr rfl, Or.inl rfl, Or.inr rfl, Or.inl rfl, Or.inr rfl, Or.inl rfl, trivial⟩ ?_
                    exact hJ 1 (if_neg c105).symm
                clear h
                refine wm_if_ne (tgt := 357) d_MM_lookAt_350 rfl hi_l7 (fun c96 => ?_) (fun c96 => ?_)
                · refine wm_iconst d_MM_lookAt_357 ?_
                  refine wm_less (L' := [vr a0, vd, vd, vi l3, vi l4, vd, vi l6, vd, vd, vd]) ⟨Or.inr rfl, Or.inl rfl, Or.inl rfl, Or.inr rfl, Or.inr rfl, Or.inl rfl, Or.inr rfl, Or.inl rfl, Or.inl rfl, Or.inl rfl, trivial⟩ ?_
                  exact hJ 0 (if_neg c96).symm
                · replace c96 := Classical.not_not.mp c96
                  refine wm_iconst d_MM_lookAt_353 ?_
                  refine wm_goto (tgt := 358) d_MM_lookAt_354 rfl ?_
                  refine wm_less (L' := [vr a0, vd, vd, vi l3, vi l4, vd, vi l6, vd, vd, vd]) ⟨Or.inr rfl, Or.inl rfl, Or.inl rfl, Or.inr rfl, Or.inr rfl, Or.inl rfl, Or.inr rfl, Or.inl rfl, Or.inl rfl, Or.inl rfl, trivial⟩ ?_
                  exact hJ 1 (if_pos c96).symm
  · replace h := h.2 c22
    refine wm_iload d_MM_lookAt_63 rfl ?_
    refine wm_aload_n d_MM_lookAt_65 rfl rfl ?_
    refine gf_MM_57 rfl d_MM_lookAt_66 h19 ?_
    refine wm_iload d_MM_lookAt_69 rfl ?_
    refine cf_MM_155 rfl d_MM_lookAt_71 h20 (Nat.le_of_ble_eq_true rfl) (Ci.mono h (fun x120 M119 h => ?_))
    obtain ⟨h121, hOM119, h⟩ := h
    refine wm_iadd d_MM_lookAt_74 ?_
    refine wm_istore d_MM_lookAt_75 (by decide) (L' := [vr a0, vi l1, vi l2, vi l3, vi l4, vi l5, vi l6, vi (l7 + x120), vi l8, vd]) rfl ?_
    refine wm_iinc d_MM_lookAt_77 (by decide) rfl (L' := [vr a0, vi l1, vi l2, vi l3, vi l4, vi l5, vi l6, vi (l7 + x120), vi (l8 + 1), vd]) rfl ?_
    refine wm_goto (tgt := 51) d_MM_lookAt_80 rfl ?_
    exact h
theorem k_MM_lookAt_334 {G : mG} {d : Nat} {a0 : Nat} {l4 : Int} {l6 : Int} {k0 : Int} {M : mM} {Q : mM → Prop} (hO : mOk M) (hi_l4 : i32 l4) (hi_l6 : i32 l6) (hi_k0 : i32 k0)
    (h : mK M a0 = 14 ∧ mK M (mR M a0 19) = 15 ∧ Ci G y_MN_last d [vr (mR M a0 19)] M (fun x125 M124 => i32 x125 ∧ mOk M124 ∧ (((k0 = 0) → (mK M124 a0 = 14 ∧ Cv G y_MM_stop d [vr a0, vi 3, vi l4] M124 (fun M130 => mOk M130 ∧ (h_MM_lookAt_386 G d a0 l6 x125 M130 Q)))) ∧ (¬ (k0 = 0) → (h_MM_lookAt_386 G d a0 l6 x125 M124 Q))))) :
    h_MM_lookAt_334 G d a0 l4 l6 k0 M Q := by
  unfold h_MM_lookAt_334
  obtain ⟨h122, h⟩ := h
  obtain ⟨h123, h⟩ := h
  refine wm_istore d_MM_lookAt_334 (by decide) (L' := [vr a0, vd, vd, vd, vi l4, vd, vi l6, vd, vi k0, vd]) rfl ?_
  refine wm_aload_n d_MM_lookAt_336 rfl rfl ?_
  refine gf_MM_57 rfl d_MM_lookAt_337 h122 ?_
  refine cf_MM_341 rfl d_MM_lookAt_340 h123 (Nat.le_of_ble_eq_true rfl) (Ci.mono h (fun x125 M124 h => ?_))
  obtain ⟨h126, hOM124, h⟩ := h
  refine wm_istore d_MM_lookAt_343 (by decide) (L' := [vr a0, vd, vd, vd, vi l4, vd, vi l6, vd, vi k0, vi x125]) rfl ?_
  refine wm_goto (tgt := 374) d_MM_lookAt_345 rfl ?_
  refine wm_iload d_MM_lookAt_374 rfl ?_
  refine wm_if_ne (tgt := 386) d_MM_lookAt_376 rfl hi_k0 (fun c128 => ?_) (fun c128 => ?_)
  · replace h := h.2 c128
    refine wm_less (L' := [vr a0, vd, vd, vd, vd, vd, vi l6, vd, vd, vi x125]) ⟨Or.inr rfl, Or.inl rfl, Or.inl rfl, Or.inl rfl, Or.inl rfl, Or.inl rfl, Or.inr rfl, Or.inl rfl, Or.inl rfl, Or.inr rfl, trivial⟩ ?_
    exact h
  · replace c128 := Classical.not_not.mp c128
    replace h := h.1 c128
    obtain ⟨h129, h⟩ := h
    refine wm_aload_n d_MM_lookAt_379 rfl rfl ?_
    refine wm_iconst d_MM_lookAt_380 ?_
    refine wm_iload d_MM_lookAt_381 rfl ?_
    refine cf_MM_351 rfl d_MM_lookAt_383 h129 (Nat.le_of_ble_eq_true rfl) (Cv.mono h (fun M130 h => ?_))
    obtain ⟨hOM130, h⟩ := h
    refine wm_less (L' := [vr a0, vd, vd, vd, vd, vd, vi l6, vd, vd, vi x125]) ⟨Or.inr rfl, Or.inl rfl, Or.inl rfl, Or.inl rfl, Or.inl rfl, Or.inl rfl, Or.inr rfl, Or.inl rfl, Or.inl rfl, Or.inr rfl, trivial⟩ ?_
    exact h
theorem k_MM_lookAt_386 {G : mG} {d : Nat} {a0 : Nat} {l6 : Int} {l9 : Int} {M : mM} {Q : mM → Prop} (hO : mOk M) (hi_l6 : i32 l6) (hi_l9 : i32 l9)
    (h : mK M a0 = 14 ∧ mK M (mR M a0 19) = 15 ∧ ∀ M135, M135 = mUI M (mR M a0 19) 1 l6 → mK M135 (mR M135 a0 19) = 15 ∧ Cv G y_MN_add d [vr (mR M135 a0 19), vi l9] M135 (fun M138 => mOk M138 ∧ (Q M138))) :
    h_MM_lookAt_386 G d a0 l6 l9 M Q := by
  unfold h_MM_lookAt_386
  obtain ⟨h133, h⟩ := h
  obtain ⟨h134, h⟩ := h
  obtain ⟨M135, e136⟩ : ∃ M135, M135 = mUI M (mR M a0 19) 1 l6 := ⟨_, rfl⟩
  replace h := h M135 e136
  obtain ⟨h137, h⟩ := h
  refine wm_aload_n d_MM_lookAt_386 rfl rfl ?_
  refine gf_MM_57 rfl d_MM_lookAt_387 h133 ?_
  refine wm_iload d_MM_lookAt_390 rfl ?_
  have hOM135 : mOk M135 := by rw [e136]; exact mOk_UI hO hi_l6
  refine pf_MM_145 rfl d_MM_lookAt_392 h134 hi_l6 e136 ?_
  refine wm_aload_n d_MM_lookAt_395 rfl rfl ?_
  refine gf_MM_57 rfl d_MM_lookAt_396 (by rw [e136]; exact h133) ?_
  refine wm_iload d_MM_lookAt_399 rfl ?_
  refine cf_MM_152 rfl d_MM_lookAt_401 h137 (Nat.le_of_ble_eq_true rfl) (Cv.mono h (fun M138 h => ?_))
  obtain ⟨hOM138, h⟩ := h
  refine wm_return d_MM_lookAt_404 rfl ?_
  exact ⟨rfl, h⟩
theorem d_MM_lookUp_0 : decode y_MM_lookUp.2.1 0 = .ok (.aload_n 0, 1) := dc9_42 (by decide +kernel)
theorem d_MM_lookUp_1 : decode y_MM_lookUp.2.1 1 = .ok (.aload_n 0, 1) := dc9_42 (by decide +kernel)
theorem d_MM_lookUp_2 : decode y_MM_lookUp.2.1 2 = .ok (.getfield 38, 3) := dc9_180 (by decide +kernel)
theorem d_MM_lookUp_5 : decode y_MM_lookUp.2.1 5 = .ok (.getfield 284, 3) := dc9_180 (by decide +kernel)
theorem d_MM_lookUp_8 : decode y_MM_lookUp.2.1 8 = .ok (.iload_n 1, 1) := dc9_27 (by decide +kernel)
theorem d_MM_lookUp_9 : decode y_MM_lookUp.2.1 9 = .ok (.invokevirtual 155, 3) := dc9_182 (by decide +kernel)
theorem d_MM_lookUp_12 : decode y_MM_lookUp.2.1 12 = .ok (.invokevirtual 354, 3) := dc9_182 (by decide +kernel)
theorem d_MM_lookUp_15 : decode y_MM_lookUp.2.1 15 = .ok (.istore_n 3, 1) := dc9_62 (by decide +kernel)
theorem d_MM_lookUp_16 : decode y_MM_lookUp.2.1 16 = .ok (.iload_n 3, 1) := dc9_29 (by decide +kernel)
theorem d_MM_lookUp_17 : decode y_MM_lookUp.2.1 17 = .ok (.ifCond .lt 19, 3) := dc9_155 (by decide +kernel)
theorem d_MM_lookUp_20 : decode y_MM_lookUp.2.1 20 = .ok (.iload_n 2, 1) := dc9_28 (by decide +kernel)
theorem d_MM_lookUp_21 : decode y_MM_lookUp.2.1 21 = .ok (.ifCond .eq 33, 3) := dc9_153 (by decide +kernel)
theorem d_MM_lookUp_24 : decode y_MM_lookUp.2.1 24 = .ok (.aload_n 0, 1) := dc9_42 (by decide +kernel)
theorem d_MM_lookUp_25 : decode y_MM_lookUp.2.1 25 = .ok (.getfield 48, 3) := dc9_180 (by decide +kernel)
theorem d_MM_lookUp_28 : decode y_MM_lookUp.2.1 28 = .ok (.iload_n 3, 1) := dc9_29 (by decide +kernel)
theorem d_MM_lookUp_36 : decode y_MM_lookUp.2.1 36 = .ok (.aload_n 0, 1) := dc9_42 (by decide +kernel)
theorem d_MM_lookUp_37 : decode y_MM_lookUp.2.1 37 = .ok (.iconst 2, 1) := dc9_5 (by decide +kernel)
theorem d_MM_lookUp_38 : decode y_MM_lookUp.2.1 38 = .ok (.aload_n 0, 1) := dc9_42 (by decide +kernel)
theorem d_MM_lookUp_39 : decode y_MM_lookUp.2.1 39 = .ok (.getfield 38, 3) := dc9_180 (by decide +kernel)
theorem d_MM_lookUp_42 : decode y_MM_lookUp.2.1 42 = .ok (.getfield 276, 3) := dc9_180 (by decide +kernel)
theorem d_MM_lookUp_45 : decode y_MM_lookUp.2.1 45 = .ok (.iload_n 1, 1) := dc9_27 (by decide +kernel)
theorem d_MM_lookUp_46 : decode y_MM_lookUp.2.1 46 = .ok (.invokevirtual 155, 3) := dc9_182 (by decide +kernel)
theorem d_MM_lookUp_49 : decode y_MM_lookUp.2.1 49 = .ok (.invokevirtual 351, 3) := dc9_182 (by decide +kernel)
theorem d_MM_lookUp_52 : decode y_MM_lookUp.2.1 52 = .ok (.iconst 0, 1) := dc9_3 (by decide +kernel)
theorem d_MM_lookUp_53 : decode y_MM_lookUp.2.1 53 = .ok (.ireturn, 1) := dc9_172 (by decide +kernel)
theorem d_MM_lookUp_54 : decode y_MM_lookUp.2.1 54 = .ok (.aload_n 0, 1) := dc9_42 (by decide +kernel)
theorem d_MM_lookUp_55 : decode y_MM_lookUp.2.1 55 = .ok (.getfield 51, 3) := dc9_180 (by decide +kernel)
theorem d_MM_lookUp_58 : decode y_MM_lookUp.2.1 58 = .ok (.iload_n 3, 1) := dc9_29 (by decide +kernel)
theorem d_MM_lookUp_59 : decode y_MM_lookUp.2.1 59 = .ok (.invokevirtual 155, 3) := dc9_182 (by decide +kernel)
theorem d_MM_lookUp_62 : decode y_MM_lookUp.2.1 62 = .ok (.istore 4, 2) := dc9_54 (by decide +kernel)
theorem d_MM_lookUp_64 : decode y_MM_lookUp.2.1 64 = .ok (.aload_n 0, 1) := dc9_42 (by decide +kernel)
theorem d_MM_lookUp_65 : decode y_MM_lookUp.2.1 65 = .ok (.getfield 38, 3) := dc9_180 (by decide +kernel)
theorem d_MM_lookUp_68 : decode y_MM_lookUp.2.1 68 = .ok (.getfield 284, 3) := dc9_180 (by decide +kernel)
theorem d_MM_lookUp_71 : decode y_MM_lookUp.2.1 71 = .ok (.getfield 293, 3) := dc9_180 (by decide +kernel)
theorem d_MM_lookUp_74 : decode y_MM_lookUp.2.1 74 = .ok (.iload_n 1, 1) := dc9_27 (by decide +kernel)
theorem d_MM_lookUp_75 : decode y_MM_lookUp.2.1 75 = .ok (.aload_n 0, 1) := dc9_42 (by decide +kernel)
theorem d_MM_lookUp_76 : decode y_MM_lookUp.2.1 76 = .ok (.getfield 48, 3) := dc9_180 (by decide +kernel)
theorem d_MM_lookUp_79 : decode y_MM_lookUp.2.1 79 = .ok (.iload_n 3, 1) := dc9_29 (by decide +kernel)
theorem d_MM_lookUp_80 : decode y_MM_lookUp.2.1 80 = .ok (.invokevirtual 155, 3) := dc9_182 (by decide +kernel)
theorem d_MM_lookUp_83 : decode y_MM_lookUp.2.1 83 = .ok (.iconst 3, 1) := dc9_6 (by decide +kernel)
theorem d_MM_lookUp_84 : decode y_MM_lookUp.2.1 84 = .ok (.if_icmp .ne 11, 3) := dc9_160 (by decide +kernel)
theorem d_MM_lookUp_87 : decode y_MM_lookUp.2.1 87 = .ok (.bipush 100, 2) := dc9_16 (by decide +kernel)
theorem d_MM_lookUp_89 : decode y_MM_lookUp.2.1 89 = .ok (.iload 4, 2) := dc9_21 (by decide +kernel)
theorem d_MM_lookUp_91 : decode y_MM_lookUp.2.1 91 = .ok (.iadd, 1) := dc9_96 (by decide +kernel)
theorem d_MM_lookUp_92 : decode y_MM_lookUp.2.1 92 = .ok (.goto 5, 3) := dc9_167 (by decide +kernel)
theorem d_MM_lookUp_95 : decode y_MM_lookUp.2.1 95 = .ok (.iload 4, 2) := dc9_21 (by decide +kernel)
theorem d_MM_lookUp_97 : decode y_MM_lookUp.2.1 97 = .ok (.iastore, 1) := dc9_79 (by decide +kernel)
theorem d_MM_lookUp_98 : decode y_MM_lookUp.2.1 98 = .ok (.aload_n 0, 1) := dc9_42 (by decide +kernel)
theorem d_MM_lookUp_99 : decode y_MM_lookUp.2.1 99 = .ok (.getfield 48, 3) := dc9_180 (by decide +kernel)
theorem d_MM_lookUp_102 : decode y_MM_lookUp.2.1 102 = .ok (.iload_n 3, 1) := dc9_29 (by decide +kernel)
theorem d_MM_lookUp_103 : decode y_MM_lookUp.2.1 103 = .ok (.invokevirtual 155, 3) := dc9_182 (by decide +kernel)
theorem d_MM_lookUp_106 : decode y_MM_lookUp.2.1 106 = .ok (.iconst 3, 1) := dc9_6 (by decide +kernel)
theorem d_MM_lookUp_107 : decode y_MM_lookUp.2.1 107 = .ok (.if_icmp .ne 16, 3) := dc9_160 (by decide +kernel)
theorem d_MM_lookUp_110 : decode y_MM_lookUp.2.1 110 = .ok (.aload_n 0, 1) := dc9_42 (by decide +kernel)
theorem d_MM_lookUp_111 : decode y_MM_lookUp.2.1 111 = .ok (.getfield 38, 3) := dc9_180 (by decide +kernel)
theorem d_MM_lookUp_114 : decode y_MM_lookUp.2.1 114 = .ok (.getfield 357, 3) := dc9_180 (by decide +kernel)
theorem d_MM_lookUp_117 : decode y_MM_lookUp.2.1 117 = .ok (.iload 4, 2) := dc9_21 (by decide +kernel)
theorem d_MM_lookUp_119 : decode y_MM_lookUp.2.1 119 = .ok (.baload, 1) := dc9_51 (by decide +kernel)
theorem d_MM_lookUp_120 : decode y_MM_lookUp.2.1 120 = .ok (.goto 13, 3) := dc9_167 (by decide +kernel)
theorem d_MM_lookUp_123 : decode y_MM_lookUp.2.1 123 = .ok (.aload_n 0, 1) := dc9_42 (by decide +kernel)
theorem d_MM_lookUp_124 : decode y_MM_lookUp.2.1 124 = .ok (.getfield 38, 3) := dc9_180 (by decide +kernel)
theorem d_MM_lookUp_127 : decode y_MM_lookUp.2.1 127 = .ok (.getfield 360, 3) := dc9_180 (by decide +kernel)
theorem d_MM_lookUp_130 : decode y_MM_lookUp.2.1 130 = .ok (.iload 4, 2) := dc9_21 (by decide +kernel)
theorem d_MM_lookUp_132 : decode y_MM_lookUp.2.1 132 = .ok (.baload, 1) := dc9_51 (by decide +kernel)
theorem d_MM_lookUp_133 : decode y_MM_lookUp.2.1 133 = .ok (.istore 5, 2) := dc9_54 (by decide +kernel)
theorem d_MM_lookUp_135 : decode y_MM_lookUp.2.1 135 = .ok (.iload 5, 2) := dc9_21 (by decide +kernel)
theorem d_MM_lookUp_137 : decode y_MM_lookUp.2.1 137 = .ok (.ifCond .eq 7, 3) := dc9_153 (by decide +kernel)
theorem d_MM_lookUp_144 : decode y_MM_lookUp.2.1 144 = .ok (.iconst 0, 1) := dc9_3 (by decide +kernel)
theorem d_MM_lookUp_140 : decode y_MM_lookUp.2.1 140 = .ok (.iconst 1, 1) := dc9_4 (by decide +kernel)
theorem d_MM_lookUp_141 : decode y_MM_lookUp.2.1 141 = .ok (.goto 4, 3) := dc9_167 (by decide +kernel)
theorem d_MM_lookUp_145 : decode y_MM_lookUp.2.1 145 = .ok (.ireturn, 1) := dc9_172 (by decide +kernel)
theorem d_MM_lookUp_29 : decode y_MM_lookUp.2.1 29 = .ok (.invokevirtual 155, 3) := dc9_182 (by decide +kernel)
theorem d_MM_lookUp_32 : decode y_MM_lookUp.2.1 32 = .ok (.iconst 1, 1) := dc9_4 (by decide +kernel)
theorem d_MM_lookUp_33 : decode y_MM_lookUp.2.1 33 = .ok (.if_icmp .eq 21, 3) := dc9_159 (by decide +kernel)
theorem k_MM_lookUp {G : mG} {d : Nat} {a0 : Nat} {l1 : Int} {l2 : Int} {M : mM} {Q : Int → mM → Prop} (hO : mOk M) (hi_l1 : i32 l1) (hi_l2 : i32 l2)
    (h : mK M a0 = 14 ∧ mK M (mR M a0 10) = 16 ∧ mK M (mR M (mR M a0 10) 3) = 15 ∧ Ci G y_MN_at d [vr (mR M (mR M a0 10) 3), vi l1] M (fun x5 M4 => i32 x5 ∧ mOk M4 ∧ (mK M4 a0 = 14 ∧ Ci G y_MM_find d [vr a0, vi x5] M4 (fun x9 M8 => i32 x9 ∧ mOk M8 ∧ (((x9 < 0) → (mK M8 a0 = 14 ∧ mK M8 (mR M8 a0 10) = 16 ∧ mK M8 (mR M8 (mR M8 a0 10) 1) = 15 ∧ Ci G y_MN_at d [vr (mR M8 (mR M8 a0 10) 1), vi l1] M8 (fun x18 M17 => i32 x18 ∧ mOk M17 ∧ (mK M17 a0 = 14 ∧ Cv G y_MM_stop d [vr a0, vi 2, vi x18] M17 (fun M21 => mOk M21 ∧ (Q 0 M21)))))) ∧ (¬ (x9 < 0) → (((l2 = 0) → (mK M8 a0 = 14 ∧ mK M8 (mR M8 a0 15) = 15 ∧ Ci G y_MN_at d [vr (mR M8 a0 15), vi x9] M8 (fun x29 M28 => i32 x29 ∧ mOk M28 ∧ (mK M28 a0 = 14 ∧ mK M28 (mR M28 a0 10) = 16 ∧ mK M28 (mR M28 (mR M28 a0 10) 3) = 15 ∧ mK M28 (mR M28 a0 14) = 15 ∧ Ci G y_MN_at d [vr (mR M28 a0 14), vi x9] M28 (fun x36 M35 => i32 x36 ∧ mOk M35 ∧ (∀ v39 : Int, v39 = (if (x36 = 3) then 100 + x29 else x29) → mK M35 (mR M28 (mR M28 (mR M28 a0 10) 3) 0) = 30 ∧ ((0 : Int) ≤ l1 ∧ l1 < (mN M35 (mR M28 (mR M28 (mR M28 a0 10) 3) 0) : Int)) ∧ i32 v39 ∧ ∀ M45, M45 = mUI M35 (mR M28 (mR M28 (mR M28 a0 10) 3) 0) (Int.toNat l1) v39 → mK M45 a0 = 14 ∧ mK M45 (mR M45 a0 14) = 15 ∧ Ci G y_MN_at d [vr (mR M45 a0 14), vi x9] M45 (fun x50 M49 => i32 x50 ∧ mOk M49 ∧ ((((x50 = 3) → (mK M49 a0 = 14 ∧ mK M49 (mR M49 a0 10) = 16 ∧ mK M49 (mR M49 (mR M49 a0 10) 13) = 31 ∧ ((0 : Int) ≤ x29 ∧ x29 < (mN M49 (mR M49 (mR M49 a0 10) 13) : Int)))) ∧ (¬ (x50 = 3) → (mK M49 a0 = 14 ∧ mK M49 (mR M49 a0 10) = 16 ∧ mK M49 (mR M49 (mR M49 a0 10) 8) = 31 ∧ ((0 : Int) ≤ x29 ∧ x29 < (mN M49 (mR M49 (mR M49 a0 10) 8) : Int))))) ∧ ∀ v61 : Int, v61 = (if (x50 = 3) then mI M49 (mR M49 (mR M49 a0 10) 13) (Int.toNat x29) else mI M49 (mR M49 (mR M49 a0 10) 8) (Int.toNat x29)) → i32 v61 ∧ ∀ v66 : Int, v66 = (if (v61 = 0) then 0 else 1) → Q v66 M49)))))))) ∧ (¬ (l2 = 0) → (mK M8 a0 = 14 ∧ mK M8 (mR M8 a0 14) = 15 ∧ Ci G y_MN_at d [vr (mR M8 a0 14), vi x9] M8 (fun x79 M78 => i32 x79 ∧ mOk M78 ∧ (((x79 = 1) → (mK M78 a0 = 14 ∧ mK M78 (mR M78 a0 15) = 15 ∧ Ci G y_MN_at d [vr (mR M78 a0 15), vi x9] M78 (fun x86 M85 => i32 x86 ∧ mOk M85 ∧ (mK M85 a0 = 14 ∧ mK M85 (mR M85 a0 10) = 16 ∧ mK M85 (mR M85 (mR M85 a0 10) 3) = 15 ∧ mK M85 (mR M85 a0 14) = 15 ∧ Ci G y_MN_at d [vr (mR M85 a0 14), vi x9] M85 (fun x93 M92 => i32 x93 ∧ mOk M92 ∧ (∀ v96 : Int, v96 = (if (x93 = 3) then 100 + x86 else x86) → mK M92 (mR M85 (mR M85 (mR M85 a0 10) 3) 0) = 30 ∧ ((0 : Int) ≤ l1 ∧ l1 < (mN M92 (mR M85 (mR M85 (mR M85 a0 10) 3) 0) : Int)) ∧ i32 v96 ∧ ∀ M102, M102 = mUI M92 (mR M85 (mR M85 (mR M85 a0 10) 3) 0) (Int.toNat l1) v96 → mK M102 a0 = 14 ∧ mK M102 (mR M102 a0 14) = 15 ∧ Ci G y_MN_at d [vr (mR M102 a0 14), vi x9] M102 (fun x107 M106 => i32 x107 ∧ mOk M106 ∧ ((((x107 = 3) → (mK M106 a0 = 14 ∧ mK M106 (mR M106 a0 10) = 16 ∧ mK M106 (mR M106 (mR M106 a0 10) 13) = 31 ∧ ((0 : Int) ≤ x86 ∧ x86 < (mN M106 (mR M106 (mR M106 a0 10) 13) : Int)))) ∧ (¬ (x107 = 3) → (mK M106 a0 = 14 ∧ mK M106 (mR M106 a0 10) = 16 ∧ mK M106 (mR M106 (mR M106 a0 10) 8) = 31 ∧ ((0 : Int) ≤ x86 ∧ x86 < (mN M106 (mR M106 (mR M106 a0 10) 8) : Int))))) ∧ ∀ v118 : Int, v118 = (if (x107 = 3) then mI M106 (mR M106 (mR M106 a0 10) 13) (Int.toNat x86) else mI M106 (mR M106 (mR M106 a0 10) 8) (Int.toNat x86)) → i32 v118 ∧ ∀ v123 : Int, v123 = (if (v118 = 0) then 0 else 1) → Q v123 M106)))))))) ∧ (¬ (x79 = 1) → (mK M78 a0 = 14 ∧ mK M78 (mR M78 a0 10) = 16 ∧ mK M78 (mR M78 (mR M78 a0 10) 1) = 15 ∧ Ci G y_MN_at d [vr (mR M78 (mR M78 a0 10) 1), vi l1] M78 (fun x137 M136 => i32 x137 ∧ mOk M136 ∧ (mK M136 a0 = 14 ∧ Cv G y_MM_stop d [vr a0, vi 2, vi x137] M136 (fun M140 => mOk M140 ∧ (Q 0 M140))))))))))))))))) :
    Ci G y_MM_lookUp (d + 1) [vr a0, vi l1, vi l2] M Q := by
  refine wm_open (y := y_MM_lookUp) rfl (Nat.le_of_ble_eq_true rfl) (L := [vr a0, vi l1, vi l2, vd, vd, vd]) rfl ?_
  obtain ⟨h1, h⟩ := h
  obtain ⟨h2, h⟩ := h
  obtain ⟨h3, h⟩ := h
  refine wm_aload_n d_MM_lookUp_0 rfl rfl ?_
  refine wm_aload_n d_MM_lookUp_1 rfl rfl ?_
  refine gf_MM_38 rfl d_MM_lookUp_2 h1 ?_
  refine gf_MM_284 rfl d_MM_lookUp_5 h2 ?_
  refine wm_iload_n d_MM_lookUp_8 rfl rfl ?_
  refine cf_MM_155 rfl d_MM_lookUp_9 h3 (Nat.le_of_ble_eq_true rfl) (Ci.mono h (fun x5 M4 h => ?_))
  obtain ⟨h6, hOM4, h⟩ := h
  obtain ⟨h7, h⟩ := h
  refine cf_MM_354 rfl d_MM_lookUp_12 h7 (Nat.le_of_ble_eq_true rfl) (Ci.mono h (fun x9 M8 h => ?_))
  obtain ⟨h10, hOM8, h⟩ := h
  refine wm_istore_n d_MM_lookUp_15 rfl (by decide) (L' := [vr a0, vi l1, vi l2, vi x9, vd, vd]) rfl ?_
  refine wm_iload_n d_MM_lookUp_16 rfl rfl ?_
  refine wm_if_lt (tgt := 36) d_MM_lookUp_17 rfl h10 (fun c13 => ?_) (fun c13 => ?_)
  · replace h := h.1 c13
    obtain ⟨h14, h⟩ := h
    obtain ⟨h15, h⟩ := h
    obtain ⟨h16, h⟩ := h
    refine wm_aload_n d_MM_lookUp_36 rfl rfl ?_
    refine wm_iconst d_MM_lookUp_37 ?_
    refine wm_aload_n d_MM_lookUp_38 rfl rfl ?_
    refine gf_MM_38 rfl d_MM_lookUp_39 h14 ?_
    refine gf_MM_276 rfl d_MM_lookUp_42 h15 ?_
    refine wm_iload_n d_MM_lookUp_45 rfl rfl ?_
    refine cf_MM_155 rfl d_MM_lookUp_46 h16 (Nat.le_of_ble_eq_true rfl) (Ci.mono h (fun x18 M17 h => ?_))
    obtain ⟨h19, hOM17, h⟩ := h
    obtain ⟨h20, h⟩ := h
    refine cf_MM_351 rfl d_MM_lookUp_49 h20 (Nat.le_of_ble_eq_true rfl) (Cv.mono h (fun M21 h => ?_))
    obtain ⟨hOM21, h⟩ := h
    refine wm_iconst d_MM_lookUp_52 ?_
    refine wm_ireturn d_MM_lookUp_53 rfl rfl ?_
    exact ⟨_, rfl, h⟩
  · replace h := h.2 c13
    refine wm_iload_n d_MM_lookUp_20 rfl rfl ?_
    refine wm_if_eq (tgt := 54) d_MM_lookUp_21 rfl hi_l2 (fun c25 => ?_) (fun c25 => ?_)
    · replace h := h.1 c25
      obtain ⟨h26, h⟩ := h
      obtain ⟨h27, h⟩ := h
      refine wm_aload_n d_MM_lookUp_54 rfl rfl ?_
      refine gf_MM_51 rfl d_MM_lookUp_55 h26 ?_
      refine wm_iload_n d_MM_lookUp_58 rfl rfl ?_
      refine cf_MM_155 rfl d_MM_lookUp_59 h27 (Nat.le_of_ble_eq_true rfl) (Ci.mono h (fun x29 M28 h => ?_))
      obtain ⟨h30, hOM28, h⟩ := h
      obtain ⟨h31, h⟩ := h
      obtain ⟨h32, h⟩ := h
      obtain ⟨h33, h⟩ := h
      obtain ⟨h34, h⟩ := h
      refine wm_istore d_MM_lookUp_62 (by decide) (L' := [vr a0, vi l1, vi l2, vi x9, vi x29, vd]) rfl ?_
      refine wm_aload_n d_MM_lookUp_64 rfl rfl ?_
      refine gf_MM_38 rfl d_MM_lookUp_65 h31 ?_
      refine gf_MM_284 rfl d_MM_lookUp_68 h32 ?_
      refine gf_MM_293 rfl d_MM_lookUp_71 h33 ?_
      refine wm_iload_n d_MM_lookUp_74 rfl rfl ?_
      refine wm_aload_n d_MM_lookUp_75 rfl rfl ?_
      refine gf_MM_48 rfl d_MM_lookUp_76 h31 ?_
      refine wm_iload_n d_MM_lookUp_79 rfl rfl ?_
      refine cf_MM_155 rfl d_MM_lookUp_80 h34 (Nat.le_of_ble_eq_true rfl) (Ci.mono h (fun x36 M35 h => ?_))
      obtain ⟨h37, hOM35, h⟩ := h
      refine wm_iconst d_MM_lookUp_83 ?_
      have hJ : ∀ v39 : Int, v39 = (if (x36 = 3) then 100 + x29 else x29) → mWm G y_MM_lookUp (d + 1) 97 [vr a0, vd, vd, vi x9, vi x29, vd] [vi v39, vi l1, vr (mR M28 (mR M28 (mR M28 a0 10) 3) 0)] M35 (fun r9 M9 => ∃ x9, r9 = some (vi x9) ∧ Q x9 M9) := by
        intro v39 e41
        have h := h v39 e41
        obtain ⟨h42, h⟩ := h
        obtain ⟨h43, h⟩ := h
        obtain ⟨h44, h⟩ := h
        obtain ⟨M45, e46⟩ : ∃ M45, M45 = mUI M35 (mR M28 (mR M28 (mR M28 a0 10) 3) 0) (Int.toNat l1) v39 := ⟨_, rfl⟩
        replace h := h M45 e46
        obtain ⟨h47, h⟩ := h
        obtain ⟨h48, h⟩ := h
        have hOM45 : mOk M45 := by rw [e46]; exact mOk_UI hOM35 h44
        refine wm_iastE d_MM_lookUp_97 h42 h43 h44 e46 ?_
        refine wm_aload_n d_MM_lookUp_98 rfl rfl ?_
        refine gf_MM_48 rfl d_MM_lookUp_99 h47 ?_
        refine wm_iload_n d_MM_lookUp_102 rfl rfl ?_
        refine cf_MM_155 rfl d_MM_lookUp_103 h48 (Nat.le_of_ble_eq_true rfl) (Ci.mono h (fun x50 M49 h => ?_))
        obtain ⟨h51, hOM49, h⟩ := h
        refine wm_iconst d_MM_lookUp_106 ?_
        obtain ⟨s62, h⟩ := h
        have hJ : ∀ v61 : Int, v61 = (if (x50 = 3) then mI M49 (mR M49 (mR M49 a0 10) 13) (Int.toNat x29) else mI M49 (mR M49 (mR M49 a0 10) 8) (Int.toNat x29)) → mWm G y_MM_lookUp (d + 1) 133 [vd, vd, vd, vd, vd, vd] [vi v61] M49 (fun r9 M9 => ∃ x9, r9 = some (vi x9) ∧ Q x9 M9) := by
          intro v61 e63
          have h := h v61 e63
          obtain ⟨h64, h⟩ := h
          refine wm_istore d_MM_lookUp_133 (by decide) (L' := [vd, vd, vd, vd, vd, vi v61]) rfl ?_
          refine wm_iload d_MM_lookUp_135 rfl ?_
          have hJ : ∀ v66 : Int, v66 = (if (v61 = 0) then 0 else 1) → mWm G y_MM_lookUp (d + 1) 145 [vd, vd, vd, vd, vd, vd] [vi v66] M49 (fun r9 M9 => ∃ x9, r9 = some (vi x9) ∧ Q x9 M9) := by
            intro v66 e68
            have h := h v66 e68
            have h69 : i32 v66 := by rw [e68]; (repeat' split) <;> first | exact ⟨by decide, by decide⟩ | exact ⟨by decide, by decide⟩
            have h70 : (v66 = 0 ∨ v66 = 1) := by rw [e68]; (repeat' split) <;> decide
            refine wm_ireturn d_MM_lookUp_145 rfl rfl ?_
            exact ⟨_, rfl, h⟩
          clear h
          refine wm_if_eq (tgt := 144) d_MM_lookUp_137 rfl h64 (fun c65 => ?_) (fun c65 => ?_)
          · refine wm_iconst d_MM_lookUp_144 ?_
            refine wm_less (L' := [vd, vd, vd, vd, vd, vd]) ⟨Or.inl rfl, Or.inl rfl, Or.inl rfl, Or.inl rfl, Or.inl rfl, Or.inl rfl, trivial⟩ ?_
            exact hJ 0 (if_pos c65).symm
          · refine wm_iconst d_MM_lookUp_140 ?_
            refine wm_goto (tgt := 145) d_MM_lookUp_141 rfl ?_
            refine wm_less (L' := [vd, vd, vd, vd, vd, vd]) ⟨Or.inl rfl, Or.inl rfl, Or.inl rfl, Or.inl rfl, Or.inl rfl, Or.inl rfl, trivial⟩ ?_
            exact hJ 1 (if_neg c65).symm
        clear h
        obtain ⟨s72, s73⟩ := s62
        refine wm_icmp_ne (tgt := 123) d_MM_lookUp_107 rfl h51 ⟨by decide, by decide⟩ (fun c52 => ?_) (fun c52 => ?_)
        · have s73 := s73 c52
          obtain ⟨h57, h58, h59, h60⟩ := s73
          refine wm_aload_n d_MM_lookUp_123 rfl rfl ?_
          refine gf_MM_38 rfl d_MM_lookUp_124 h57 ?_
          refine gf_MM_360 rfl d_MM_lookUp_127 h58 ?_
          refine wm_iload d_MM_lookUp_130 rfl ?_
          refine wm_zald d_MM_lookUp_132 h59 h60 ?_
          refine wm_less (L' := [vd, vd, vd, vd, vd, vd]) ⟨Or.inl rfl, Or.inl rfl, Or.inl rfl, Or.inl rfl, Or.inl rfl, Or.inl rfl, trivial⟩ ?_
          exact hJ (mI M49 (mR M49 (mR M49 a0 10) 8) (Int.toNat x29)) (if_neg c52).symm
        · replace c52 := Classical.not_not.mp c52
          have s72 := s72 c52
          obtain ⟨h53, h54, h55, h56⟩ := s72
          refine wm_aload_n d_MM_lookUp_110 rfl rfl ?_
          refine gf_MM_38 rfl d_MM_lookUp_111 h53 ?_
          refine gf_MM_357 rfl d_MM_lookUp_114 h54 ?_
          refine wm_iload d_MM_lookUp_117 rfl ?_
          refine wm_zald d_MM_lookUp_119 h55 h56 ?_
          refine wm_goto (tgt := 133) d_MM_lookUp_120 rfl ?_
          refine wm_less (L' := [vd, vd, vd, vd, vd, vd]) ⟨Or.inl rfl, Or.inl rfl, Or.inl rfl, Or.inl rfl, Or.inl rfl, Or.inl rfl, trivial⟩ ?_
          exact hJ (mI M49 (mR M49 (mR M49 a0 10) 13) (Int.toNat x29)) (if_pos c52).symm
      clear h
      refine wm_icmp_ne (tgt := 95) d_MM_lookUp_84 rfl h37 ⟨by decide, by decide⟩ (fun c38 => ?_) (fun c38 => ?_)
      · refine wm_iload d_MM_lookUp_95 rfl ?_
        refine wm_less (L' := [vr a0, vd, vd, vi x9, vi x29, vd]) ⟨Or.inr rfl, Or.inl rfl, Or.inl rfl, Or.inr rfl, Or.inr rfl, Or.inl rfl, trivial⟩ ?_
        exact hJ x29 (if_neg c38).symm
      · replace c38 := Classical.not_not.mp c38
        refine wm_bipush d_MM_lookUp_87 (by decide) ?_
        refine wm_iload d_MM_lookUp_89 rfl ?_
        refine wm_iadd d_MM_lookUp_91 ?_
        refine wm_goto (tgt := 97) d_MM_lookUp_92 rfl ?_
        refine wm_less (L' := [vr a0, vd, vd, vi x9, vi x29, vd]) ⟨Or.inr rfl, Or.inl rfl, Or.inl rfl, Or.inr rfl, Or.inr rfl, Or.inl rfl, trivial⟩ ?_
        exact hJ (100 + x29) (if_pos c38).symm
    · replace h := h.2 c25
      obtain ⟨h76, h⟩ := h
      obtain ⟨h77, h⟩ := h
      refine wm_aload_n d_MM_lookUp_24 rfl rfl ?_
      refine gf_MM_48 rfl d_MM_lookUp_25 h76 ?_
      refine wm_iload_n d_MM_lookUp_28 rfl rfl ?_
      refine cf_MM_155 rfl d_MM_lookUp_29 h77 (Nat.le_of_ble_eq_true rfl) (Ci.mono h (fun x79 M78 h => ?_))
      obtain ⟨h80, hOM78, h⟩ := h
      refine wm_iconst d_MM_lookUp_32 ?_
      refine wm_icmp_eq (tgt := 54) d_MM_lookUp_33 rfl h80 ⟨by decide, by decide⟩ (fun c82 => ?_) (fun c82 => ?_)
      · replace h := h.1 c82
        obtain ⟨h83, h⟩ := h
        obtain ⟨h84, h⟩ := h
        refine wm_aload_n d_MM_lookUp_54 rfl rfl ?_
        refine gf_MM_51 rfl d_MM_lookUp_55 h83 ?_
        refine wm_iload_n d_MM_lookUp_58 rfl rfl ?_
        refine cf_MM_155 rfl d_MM_lookUp_59 h84 (Nat.le_of_ble_eq_true rfl) (Ci.mono h (fun x86 M85 h => ?_))
        obtain ⟨h87, hOM85, h⟩ := h
        obtain ⟨h88, h⟩ := h
        obtain ⟨h89, h⟩ := h
        obtain ⟨h90, h⟩ := h
        obtain ⟨h91, h⟩ := h
        refine wm_istore d_MM_lookUp_62 (by decide) (L' := [vr a0, vi l1, vi l2, vi x9, vi x86, vd]) rfl ?_
        refine wm_aload_n d_MM_lookUp_64 rfl rfl ?_
        refine gf_MM_38 rfl d_MM_lookUp_65 h88 ?_
        refine gf_MM_284 rfl d_MM_lookUp_68 h89 ?_
        refine gf_MM_293 rfl d_MM_lookUp_71 h90 ?_
        refine wm_iload_n d_MM_lookUp_74 rfl rfl ?_
        refine wm_aload_n d_MM_lookUp_75 rfl rfl ?_
        refine gf_MM_48 rfl d_MM_lookUp_76 h88 ?_
        refine wm_iload_n d_MM_lookUp_79 rfl rfl ?_
        refine cf_MM_155 rfl d_MM_lookUp_80 h91 (Nat.le_of_ble_eq_true rfl) (Ci.mono h (fun x93 M92 h => ?_))
        obtain ⟨h94, hOM92, h⟩ := h
        refine wm_iconst d_MM_lookUp_83 ?_
        have hJ : ∀ v96 : Int, v96 = (if (x93 = 3) then 100 + x86 else x86) → mWm G y_MM_lookUp (d + 1) 97 [vr a0, vd, vd, vi x9, vi x86, vd] [vi v96, vi l1, vr (mR M85 (mR M85 (mR M85 a0 10) 3) 0)] M92 (fun r9 M9 => ∃ x9, r9 = some (vi x9) ∧ Q x9 M9) := by
          intro v96 e98
          have h := h v96 e98
          obtain ⟨h99, h⟩ := h
          obtain ⟨h100, h⟩ := h
          obtain ⟨h101, h⟩ := h
          obtain ⟨M102, e103⟩ : ∃ M102, M102 = mUI M92 (mR M85 (mR M85 (mR M85 a0 10) 3) 0) (Int.toNat l1) v96 := ⟨_, rfl⟩
          replace h := h M102 e103
          obtain ⟨h104, h⟩ := h
          obtain ⟨h105, h⟩ := h
          have hOM102 : mOk M102 := by rw [e103]; exact mOk_UI hOM92 h101
          refine wm_iastE d_MM_lookUp_97 h99 h100 h101 e103 ?_
          refine wm_aload_n d_MM_lookUp_98 rfl rfl ?_
          refine gf_MM_48 rfl d_MM_lookUp_99 h104 ?_
          refine wm_iload_n d_MM_lookUp_102 rfl rfl ?_
          refine cf_MM_155 rfl d_MM_lookUp_103 h105 (Nat.le_of_ble_eq_true rfl) (Ci.mono h (fun x107 M106 h => ?_))
          obtain ⟨h108, hOM106, h⟩ := h
          refine wm_iconst d_MM_lookUp_106 ?_
          obtain ⟨s119, h⟩ := h
          have hJ : ∀ v118 : Int, v118 = (if (x107 = 3) then mI M106 (mR M106 (mR M106 a0 10) 13) (Int.toNat x86) else mI M106 (mR M106 (mR M106 a0 10) 8) (Int.toNat x86)) → mWm G y_MM_lookUp (d + 1) 133 [vd, vd, vd, vd, vd, vd] [vi v118] M106 (fun r9 M9 => ∃ x9, r9 = some (vi x9) ∧ Q x9 M9) := by
            intro v118 e120
            have h := h v118 e120
            obtain ⟨h121, h⟩ := h
            refine wm_istore d_MM_lookUp_133 (by decide) (L' := [vd, vd, vd, vd, vd, vi v118]) rfl ?_
            refine wm_iload d_MM_lookUp_135 rfl ?_
            have hJ : ∀ v123 : Int, v123 = (if (v118 = 0) then 0 else 1) → mWm G y_MM_lookUp (d + 1) 145 [vd, vd, vd, vd, vd, vd] [vi v123] M106 (fun r9 M9 => ∃ x9, r9 = some (vi x9) ∧ Q x9 M9) := by
              intro v123 e125
              have h := h v123 e125
              have h126 : i32 v123 := by rw [e125]; (repeat' split) <;> first | exact ⟨by decide, by decide⟩ | exact ⟨by decide, by decide⟩
              have h127 : (v123 = 0 ∨ v123 = 1) := by rw [e125]; (repeat' split) <;> decide
              refine wm_ireturn d_MM_lookUp_145 rfl rfl ?_
              exact ⟨_, rfl, h⟩
            clear h
            refine wm_if_eq (tgt := 144) d_MM_lookUp_137 rfl h121 (fun c122 => ?_) (fun c122 => ?_)
            · refine wm_iconst d_MM_lookUp_144 ?_
              refine wm_less (L' := [vd, vd, vd, vd, vd, vd]) ⟨Or.inl rfl, Or.inl rfl, Or.inl rfl, Or.inl rfl, Or.inl rfl, Or.inl rfl, trivial⟩ ?_
              exact hJ 0 (if_pos c122).symm
            · refine wm_iconst d_MM_lookUp_140 ?_
              refine wm_goto (tgt := 145) d_MM_lookUp_141 rfl ?_
              refine wm_less (L' := [vd, vd, vd, vd, vd, vd]) ⟨Or.inl rfl, Or.inl rfl, Or.inl rfl, Or.inl rfl, Or.inl rfl, Or.inl rfl, trivial⟩ ?_
              exact hJ 1 (if_neg c122).symm
          clear h
          obtain ⟨s129, s130⟩ := s119
          refine wm_icmp_ne (tgt := 123) d_MM_lookUp_107 rfl h108 ⟨by decide, by decide⟩ (fun c109 => ?_) (fun c109 => ?_)
          · have s130 := s130 c109
            obtain ⟨h114, h115, h116, h117⟩ := s130
            refine wm_aload_n d_MM_lookUp_123 rfl rfl ?_
            refine gf_MM_38 rfl d_MM_lookUp_124 h114 ?_
            refine gf_MM_360 rfl d_MM_lookUp_127 h115 ?_
            refine wm_iload d_MM_lookUp_130 rfl ?_
            refine wm_zald d_MM_lookUp_132 h116 h117 ?_
            refine wm_less (L' := [vd, vd, vd, vd, vd, vd]) ⟨Or.inl rfl, Or.inl rfl, Or.inl rfl, Or.inl rfl, Or.inl rfl, Or.inl rfl, trivial⟩ ?_
            exact hJ (mI M106 (mR M106 (mR M106 a0 10) 8) (Int.toNat x86)) (if_neg c109).symm
          · replace c109 := Classical.not_not.mp c109
            have s129 := s129 c109
            obtain ⟨h110, h111, h112, h113⟩ := s129
            refine wm_aload_n d_MM_lookUp_110 rfl rfl ?_
            refine gf_MM_38 rfl d_MM_lookUp_111 h110 ?_
            refine gf_MM_357 rfl d_MM_lookUp_114 h111 ?_
            refine wm_iload d_MM_lookUp_117 rfl ?_
            refine wm_zald d_MM_lookUp_119 h112 h113 ?_
            refine wm_goto (tgt := 133) d_MM_lookUp_120 rfl ?_
            refine wm_less (L' := [vd, vd, vd, vd, vd, vd]) ⟨Or.inl rfl, Or.inl rfl, Or.inl rfl, Or.inl rfl, Or.inl rfl, Or.inl rfl, trivial⟩ ?_
            exact hJ (mI M106 (mR M106 (mR M106 a0 10) 13) (Int.toNat x86)) (if_pos c109).symm
        clear h
        refine wm_icmp_ne (tgt := 95) d_MM_lookUp_84 rfl h94 ⟨by decide, by decide⟩ (fun c95 => ?_) (fun c95 => ?_)
        · refine wm_iload d_MM_lookUp_95 rfl ?_
          refine wm_less (L' := [vr a0, vd, vd, vi x9, vi x86, vd]) ⟨Or.inr rfl, Or.inl rfl, Or.inl rfl, Or.inr rfl, Or.inr rfl, Or.inl rfl, trivial⟩ ?_
          exact hJ x86 (if_neg c95).symm
        · replace c95 := Classical.not_not.mp c95
          refine wm_bipush d_MM_lookUp_87 (by decide) ?_
          refine wm_iload d_MM_lookUp_89 rfl ?_
          refine wm_iadd d_MM_lookUp_91 ?_
          refine wm_goto (tgt := 97) d_MM_lookUp_92 rfl ?_
          refine wm_less (L' := [vr a0, vd, vd, vi x9, vi x86, vd]) ⟨Or.inr rfl, Or.inl rfl, Or.inl rfl, Or.inr rfl, Or.inr rfl, Or.inl rfl, trivial⟩ ?_
          exact hJ (100 + x86) (if_pos c95).symm
      · replace h := h.2 c82
        obtain ⟨h133, h⟩ := h
        obtain ⟨h134, h⟩ := h
        obtain ⟨h135, h⟩ := h
        refine wm_aload_n d_MM_lookUp_36 rfl rfl ?_
        refine wm_iconst d_MM_lookUp_37 ?_
        refine wm_aload_n d_MM_lookUp_38 rfl rfl ?_
        refine gf_MM_38 rfl d_MM_lookUp_39 h133 ?_
        refine gf_MM_276 rfl d_MM_lookUp_42 h134 ?_
        refine wm_iload_n d_MM_lookUp_45 rfl rfl ?_
        refine cf_MM_155 rfl d_MM_lookUp_46 h135 (Nat.le_of_ble_eq_true rfl) (Ci.mono h (fun x137 M136 h => ?_))
        obtain ⟨h138, hOM136, h⟩ := h
        obtain ⟨h139, h⟩ := h
        refine cf_MM_351 rfl d_MM_lookUp_49 h139 (Nat.le_of_ble_eq_true rfl) (Cv.mono h (fun M140 h => ?_))
        obtain ⟨hOM140, h⟩ := h
        refine wm_iconst d_MM_lookUp_52 ?_
        refine wm_ireturn d_MM_lookUp_53 rfl rfl ?_
        exact ⟨_, rfl, h⟩
theorem d_MM_rule1_0 : decode y_MM_rule1.2.1 0 = .ok (.aload_n 0, 1) := dc9_42 (by decide +kernel)
theorem d_MM_rule1_1 : decode y_MM_rule1.2.1 1 = .ok (.iload_n 1, 1) := dc9_27 (by decide +kernel)
theorem d_MM_rule1_2 : decode y_MM_rule1.2.1 2 = .ok (.iload_n 2, 1) := dc9_28 (by decide +kernel)
theorem d_MM_rule1_3 : decode y_MM_rule1.2.1 3 = .ok (.invokevirtual 363, 3) := dc9_182 (by decide +kernel)
theorem d_MM_rule1_6 : decode y_MM_rule1.2.1 6 = .ok (.istore 5, 2) := dc9_54 (by decide +kernel)
theorem d_MM_rule1_8 : decode y_MM_rule1.2.1 8 = .ok (.aload_n 0, 1) := dc9_42 (by decide +kernel)
theorem d_MM_rule1_9 : decode y_MM_rule1.2.1 9 = .ok (.iload 5, 2) := dc9_21 (by decide +kernel)
theorem d_MM_rule1_11 : decode y_MM_rule1.2.1 11 = .ok (.iload 4, 2) := dc9_21 (by decide +kernel)
theorem d_MM_rule1_13 : decode y_MM_rule1.2.1 13 = .ok (.invokevirtual 366, 3) := dc9_182 (by decide +kernel)
theorem d_MM_rule1_16 : decode y_MM_rule1.2.1 16 = .ok (.istore 6, 2) := dc9_54 (by decide +kernel)
theorem d_MM_rule1_18 : decode y_MM_rule1.2.1 18 = .ok (.aload_n 0, 1) := dc9_42 (by decide +kernel)
theorem d_MM_rule1_19 : decode y_MM_rule1.2.1 19 = .ok (.getfield 267, 3) := dc9_180 (by decide +kernel)
theorem d_MM_rule1_22 : decode y_MM_rule1.2.1 22 = .ok (.ifCond .ne 19, 3) := dc9_154 (by decide +kernel)
theorem d_MM_rule1_25 : decode y_MM_rule1.2.1 25 = .ok (.iload 6, 2) := dc9_21 (by decide +kernel)
theorem d_MM_rule1_27 : decode y_MM_rule1.2.1 27 = .ok (.iload_n 3, 1) := dc9_29 (by decide +kernel)
theorem d_MM_rule1_28 : decode y_MM_rule1.2.1 28 = .ok (.if_icmp .eq 13, 3) := dc9_159 (by decide +kernel)
theorem d_MM_rule1_31 : decode y_MM_rule1.2.1 31 = .ok (.aload_n 0, 1) := dc9_42 (by decide +kernel)
theorem d_MM_rule1_32 : decode y_MM_rule1.2.1 32 = .ok (.iconst 3, 1) := dc9_6 (by decide +kernel)
theorem d_MM_rule1_33 : decode y_MM_rule1.2.1 33 = .ok (.aload_n 0, 1) := dc9_42 (by decide +kernel)
theorem d_MM_rule1_34 : decode y_MM_rule1.2.1 34 = .ok (.iload_n 1, 1) := dc9_27 (by decide +kernel)
theorem d_MM_rule1_41 : decode y_MM_rule1.2.1 41 = .ok (.iload 5, 2) := dc9_21 (by decide +kernel)
theorem d_MM_rule1_43 : decode y_MM_rule1.2.1 43 = .ok (.ireturn, 1) := dc9_172 (by decide +kernel)
theorem d_MM_rule1_35 : decode y_MM_rule1.2.1 35 = .ok (.invokevirtual 279, 3) := dc9_182 (by decide +kernel)
theorem d_MM_rule1_38 : decode y_MM_rule1.2.1 38 = .ok (.invokevirtual 351, 3) := dc9_182 (by decide +kernel)
theorem k_MM_rule1 {G : mG} {d : Nat} {a0 : Nat} {l1 : Int} {l2 : Int} {l3 : Int} {l4 : Int} {M : mM} {Q : Int → mM → Prop} (hO : mOk M) (hi_l1 : i32 l1) (hi_l2 : i32 l2) (hi_l3 : i32 l3) (hi_l4 : i32 l4)
    (h : mK M a0 = 14 ∧ Ci G y_MM_tree d [vr a0, vi l1, vi l2] M (fun x3 M2 => i32 x3 ∧ mOk M2 ∧ (mK M2 a0 = 14 ∧ Ci G y_MM_look d [vr a0, vi x3, vi l4] M2 (fun x7 M6 => i32 x7 ∧ mOk M6 ∧ (mK M6 a0 = 14 ∧ (((¬ (mI M6 a0 16 = 0)) ∨ (x7 = l3)) → (Q x3 M6)) ∧ (¬ ((¬ (mI M6 a0 16 = 0)) ∨ (x7 = l3)) → (Ci G y_MM_place0 d [vr a0, vi l1] M6 (fun x18 M17 => i32 x18 ∧ mOk M17 ∧ (mK M17 a0 = 14 ∧ Cv G y_MM_stop d [vr a0, vi 3, vi x18] M17 (fun M21 => mOk M21 ∧ (Q x3 M21))))))))))) :
    Ci G y_MM_rule1 (d + 1) [vr a0, vi l1, vi l2, vi l3, vi l4] M Q := by
  refine wm_open (y := y_MM_rule1) rfl (Nat.le_of_ble_eq_true rfl) (L := [vr a0, vi l1, vi l2, vi l3, vi l4, vd, vd]) rfl ?_
  obtain ⟨h1, h⟩ := h
  refine wm_aload_n d_MM_rule1_0 rfl rfl ?_
  refine wm_iload_n d_MM_rule1_1 rfl rfl ?_
  refine wm_iload_n d_MM_rule1_2 rfl rfl ?_
  refine cf_MM_363 rfl d_MM_rule1_3 h1 (Nat.le_of_ble_eq_true rfl) (Ci.mono h (fun x3 M2 h => ?_))
  obtain ⟨h4, hOM2, h⟩ := h
  obtain ⟨h5, h⟩ := h
  refine wm_istore d_MM_rule1_6 (by decide) (L' := [vr a0, vi l1, vi l2, vi l3, vi l4, vi x3, vd]) rfl ?_
  refine wm_aload_n d_MM_rule1_8 rfl rfl ?_
  refine wm_iload d_MM_rule1_9 rfl ?_
  refine wm_iload d_MM_rule1_11 rfl ?_
  refine cf_MM_366 rfl d_MM_rule1_13 h5 (Nat.le_of_ble_eq_true rfl) (Ci.mono h (fun x7 M6 h => ?_))
  obtain ⟨h8, hOM6, h⟩ := h
  obtain ⟨h9, h⟩ := h
  refine wm_istore d_MM_rule1_16 (by decide) (L' := [vr a0, vi l1, vi l2, vi l3, vi l4, vi x3, vi x7]) rfl ?_
  refine wm_aload_n d_MM_rule1_18 rfl rfl ?_
  refine gf_MM_267 rfl d_MM_rule1_19 h9 ?_
  have hE0 : ((¬ (mI M6 a0 16 = 0)) ∨ (x7 = l3)) → mWm G y_MM_rule1 (d + 1) 41 [vr a0, vi l1, vi l2, vi l3, vi l4, vi x3, vi x7] [] M6 (fun r9 M9 => ∃ x9, r9 = some (vi x9) ∧ Q x9 M9) := by
    intro q15
    have h := h.1 q15
    refine wm_iload d_MM_rule1_41 rfl ?_
    refine wm_ireturn d_MM_rule1_43 rfl rfl ?_
    exact ⟨_, rfl, h⟩
  have hE1 : ¬ ((¬ (mI M6 a0 16 = 0)) ∨ (x7 = l3)) → mWm G y_MM_rule1 (d + 1) 31 [vr a0, vi l1, vi l2, vi l3, vi l4, vi x3, vi x7] [] M6 (fun r9 M9 => ∃ x9, r9 = some (vi x9) ∧ Q x9 M9) := by
    intro q16
    have h := h.2 q16
    refine wm_aload_n d_MM_rule1_31 rfl rfl ?_
    refine wm_iconst d_MM_rule1_32 ?_
    refine wm_aload_n d_MM_rule1_33 rfl rfl ?_
    refine wm_iload_n d_MM_rule1_34 rfl rfl ?_
    refine cf_MM_279 rfl d_MM_rule1_35 h9 (Nat.le_of_ble_eq_true rfl) (Ci.mono h (fun x18 M17 h => ?_))
    obtain ⟨h19, hOM17, h⟩ := h
    obtain ⟨h20, h⟩ := h
    refine cf_MM_351 rfl d_MM_rule1_38 h20 (Nat.le_of_ble_eq_true rfl) (Cv.mono h (fun M21 h => ?_))
    obtain ⟨hOM21, h⟩ := h
    refine wm_iload d_MM_rule1_41 rfl ?_
    refine wm_ireturn d_MM_rule1_43 rfl rfl ?_
    exact ⟨_, rfl, h⟩
  clear h
  refine wm_if_ne (tgt := 41) d_MM_rule1_22 rfl (hOM6 _ _).1 (fun c13 => ?_) (fun c13 => ?_)
  · exact hE0 (Or.inl c13)
  · replace c13 := Classical.not_not.mp c13
    refine wm_iload d_MM_rule1_25 rfl ?_
    refine wm_iload_n d_MM_rule1_27 rfl rfl ?_
    refine wm_icmp_eq (tgt := 41) d_MM_rule1_28 rfl h8 hi_l3 (fun c12 => ?_) (fun c12 => ?_)
    · exact hE0 (Or.inr c12)
    · exact hE1 (fun z24 => Or.elim z24 (fun w => w c13) c12)
theorem d_MM_push_0 : decode y_MM_push.2.1 0 = .ok (.aload_n 0, 1) := dc9_42 (by decide +kernel)
theorem d_MM_push_1 : decode y_MM_push.2.1 1 = .ok (.getfield 63, 3) := dc9_180 (by decide +kernel)
theorem d_MM_push_4 : decode y_MM_push.2.1 4 = .ok (.aload_n 0, 1) := dc9_42 (by decide +kernel)
theorem d_MM_push_5 : decode y_MM_push.2.1 5 = .ok (.getfield 370, 3) := dc9_180 (by decide +kernel)
theorem d_MM_push_8 : decode y_MM_push.2.1 8 = .ok (.lload_n 1, 1) := dc9_31 (by decide +kernel)
theorem d_MM_push_9 : decode y_MM_push.2.1 9 = .ok (.lastore, 1) := dc9_80 (by decide +kernel)
theorem d_MM_push_10 : decode y_MM_push.2.1 10 = .ok (.aload_n 0, 1) := dc9_42 (by decide +kernel)
theorem d_MM_push_11 : decode y_MM_push.2.1 11 = .ok (.getfield 67, 3) := dc9_180 (by decide +kernel)
theorem d_MM_push_14 : decode y_MM_push.2.1 14 = .ok (.aload_n 0, 1) := dc9_42 (by decide +kernel)
theorem d_MM_push_15 : decode y_MM_push.2.1 15 = .ok (.getfield 370, 3) := dc9_180 (by decide +kernel)
theorem d_MM_push_18 : decode y_MM_push.2.1 18 = .ok (.lload_n 3, 1) := dc9_33 (by decide +kernel)
theorem d_MM_push_19 : decode y_MM_push.2.1 19 = .ok (.lastore, 1) := dc9_80 (by decide +kernel)
theorem d_MM_push_20 : decode y_MM_push.2.1 20 = .ok (.aload_n 0, 1) := dc9_42 (by decide +kernel)
theorem d_MM_push_21 : decode y_MM_push.2.1 21 = .ok (.aload_n 0, 1) := dc9_42 (by decide +kernel)
theorem d_MM_push_22 : decode y_MM_push.2.1 22 = .ok (.getfield 370, 3) := dc9_180 (by decide +kernel)
theorem d_MM_push_25 : decode y_MM_push.2.1 25 = .ok (.iconst 1, 1) := dc9_4 (by decide +kernel)
theorem d_MM_push_26 : decode y_MM_push.2.1 26 = .ok (.iadd, 1) := dc9_96 (by decide +kernel)
theorem d_MM_push_27 : decode y_MM_push.2.1 27 = .ok (.putfield 370, 3) := dc9_181 (by decide +kernel)
theorem d_MM_push_30 : decode y_MM_push.2.1 30 = .ok (.return_, 1) := dc9_177 (by decide +kernel)
theorem k_MM_push {G : mG} {d : Nat} {a0 : Nat} {j1 : Int} {j3 : Int} {M : mM} {Q : mM → Prop} (hO : mOk M) (hi_j1 : i64 j1) (hi_j3 : i64 j3)
    (h : mK M a0 = 14 ∧ mK M (mR M a0 21) = 33 ∧ ((0 : Int) ≤ mI M a0 23 ∧ mI M a0 23 < (mN M (mR M a0 21) : Int)) ∧ ∀ M4, M4 = mUL M (mR M a0 21) (Int.toNat (mI M a0 23)) j1 → mK M4 (mR M4 a0 22) = 33 ∧ ((0 : Int) ≤ mI M4 a0 23 ∧ mI M4 a0 23 < (mN M4 (mR M4 a0 22) : Int)) ∧ ∀ M8, M8 = mUL M4 (mR M4 a0 22) (Int.toNat (mI M4 a0 23)) j3 → i32 ((mI M8 a0 23) + 1) ∧ ∀ M11, M11 = mUI M8 a0 23 ((mI M8 a0 23) + 1) → Q M11) :
    Cv G y_MM_push d [vr a0, vl j1, vl j3] M Q := by
  refine wm_open (y := y_MM_push) rfl (Nat.le_of_ble_eq_true rfl) (L := [vr a0, vl j1, vd, vl j3, vd]) rfl ?_
  obtain ⟨h1, h⟩ := h
  obtain ⟨h2, h⟩ := h
  obtain ⟨h3, h⟩ := h
  obtain ⟨M4, e5⟩ : ∃ M4, M4 = mUL M (mR M a0 21) (Int.toNat (mI M a0 23)) j1 := ⟨_, rfl⟩
  replace h := h M4 e5
  obtain ⟨h6, h⟩ := h
  obtain ⟨h7, h⟩ := h
  obtain ⟨M8, e9⟩ : ∃ M8, M8 = mUL M4 (mR M4 a0 22) (Int.toNat (mI M4 a0 23)) j3 := ⟨_, rfl⟩
  replace h := h M8 e9
  obtain ⟨h10, h⟩ := h
  obtain ⟨M11, e12⟩ : ∃ M11, M11 = mUI M8 a0 23 ((mI M8 a0 23) + 1) := ⟨_, rfl⟩
  replace h := h M11 e12
  refine wm_aload_n d_MM_push_0 rfl rfl ?_
  refine gf_MM_63 rfl d_MM_push_1 h1 ?_
  refine wm_aload_n d_MM_push_4 rfl rfl ?_
  refine gf_MM_370 rfl d_MM_push_5 h1 ?_
  refine wm_lload_n d_MM_push_8 rfl rfl ?_
  have hOM4 : mOk M4 := by rw [e5]; exact mOk_UL hO hi_j1
  refine wm_lastE d_MM_push_9 h2 h3 hi_j1 e5 ?_
  refine wm_aload_n d_MM_push_10 rfl rfl ?_
  refine gf_MM_67 rfl d_MM_push_11 (by rw [e5]; exact h1) ?_
  refine wm_aload_n d_MM_push_14 rfl rfl ?_
  refine gf_MM_370 rfl d_MM_push_15 (by rw [e5]; exact h1) ?_
  refine wm_lload_n d_MM_push_18 rfl rfl ?_
  have hOM8 : mOk M8 := by rw [e9]; exact mOk_UL hOM4 hi_j3
  refine wm_lastE d_MM_push_19 h6 h7 hi_j3 e9 ?_
  refine wm_aload_n d_MM_push_20 rfl rfl ?_
  refine wm_aload_n d_MM_push_21 rfl rfl ?_
  refine gf_MM_370 rfl d_MM_push_22 (by rw [e9, e5]; exact h1) ?_
  refine wm_iconst d_MM_push_25 ?_
  refine wm_iadd d_MM_push_26 ?_
  have hOM11 : mOk M11 := by rw [e12]; exact mOk_UI hOM8 h10
  refine pf_MM_370 rfl d_MM_push_27 (by rw [e9, e5]; exact h1) h10 e12 ?_
  refine wm_return d_MM_push_30 rfl ?_
  exact ⟨rfl, h⟩
theorem d_MM_pushTruth_0 : decode y_MM_pushTruth.2.1 0 = .ok (.aload_n 0, 1) := dc9_42 (by decide +kernel)
theorem d_MM_pushTruth_1 : decode y_MM_pushTruth.2.1 1 = .ok (.iload_n 1, 1) := dc9_27 (by decide +kernel)
theorem d_MM_pushTruth_2 : decode y_MM_pushTruth.2.1 2 = .ok (.ifCond .eq 7, 3) := dc9_153 (by decide +kernel)
theorem d_MM_pushTruth_9 : decode y_MM_pushTruth.2.1 9 = .ok (.lconst 0, 1) := dc9_9 (by decide +kernel)
theorem d_MM_pushTruth_5 : decode y_MM_pushTruth.2.1 5 = .ok (.lconst 1, 1) := dc9_10 (by decide +kernel)
theorem d_MM_pushTruth_6 : decode y_MM_pushTruth.2.1 6 = .ok (.goto 4, 3) := dc9_167 (by decide +kernel)
theorem d_MM_pushTruth_10 : decode y_MM_pushTruth.2.1 10 = .ok (.lconst 0, 1) := dc9_9 (by decide +kernel)
theorem d_MM_pushTruth_11 : decode y_MM_pushTruth.2.1 11 = .ok (.invokevirtual 373, 3) := dc9_182 (by decide +kernel)
theorem d_MM_pushTruth_14 : decode y_MM_pushTruth.2.1 14 = .ok (.return_, 1) := dc9_177 (by decide +kernel)
theorem k_MM_pushTruth {G : mG} {d : Nat} {a0 : Nat} {l1 : Int} {M : mM} {Q : mM → Prop} (hO : mOk M) (hi_l1 : i32 l1)
    (h : ∀ v2 : Int, v2 = (if (l1 = 0) then 0 else 1) → mK M a0 = 14 ∧ Cv G y_MM_push d [vr a0, vl v2, vl 0] M (fun M7 => mOk M7 ∧ (Q M7))) :
    Cv G y_MM_pushTruth (d + 1) [vr a0, vi l1] M Q := by
  refine wm_open (y := y_MM_pushTruth) rfl (Nat.le_of_ble_eq_true rfl) (L := [vr a0, vi l1]) rfl ?_
  refine wm_aload_n d_MM_pushTruth_0 rfl rfl ?_
  refine wm_iload_n d_MM_pushTruth_1 rfl rfl ?_
  have hJ : ∀ v2 : Int, v2 = (if (l1 = 0) then 0 else 1) → mWm G y_MM_pushTruth (d + 1) 10 [vd, vd] [vl v2, vr a0] M (fun r9 M9 => r9 = none ∧ Q M9) := by
    intro v2 e4
    have h := h v2 e4
    have h5 : (v2 = 0 ∨ v2 = 1) := by rw [e4]; (repeat' split) <;> decide
    obtain ⟨h6, h⟩ := h
    refine wm_lconst (x := 0) d_MM_pushTruth_10 rfl ?_
    refine cf_MM_373 rfl d_MM_pushTruth_11 h6 (Nat.le_of_ble_eq_true rfl) (Cv.mono h (fun M7 h => ?_))
    obtain ⟨hOM7, h⟩ := h
    refine wm_return d_MM_pushTruth_14 rfl ?_
    exact ⟨rfl, h⟩
  clear h
  refine wm_if_eq (tgt := 9) d_MM_pushTruth_2 rfl hi_l1 (fun c1 => ?_) (fun c1 => ?_)
  · refine wm_lconst (x := 0) d_MM_pushTruth_9 rfl ?_
    refine wm_less (L' := [vd, vd]) ⟨Or.inl rfl, Or.inl rfl, trivial⟩ ?_
    exact hJ 0 (if_pos c1).symm
  · refine wm_lconst (x := 1) d_MM_pushTruth_5 rfl ?_
    refine wm_goto (tgt := 10) d_MM_pushTruth_6 rfl ?_
    refine wm_less (L' := [vd, vd]) ⟨Or.inl rfl, Or.inl rfl, trivial⟩ ?_
    exact hJ 1 (if_neg c1).symm
theorem d_MM_divisor_0 : decode y_MM_divisor.2.1 0 = .ok (.lload_n 0, 1) := dc9_30 (by decide +kernel)
theorem d_MM_divisor_1 : decode y_MM_divisor.2.1 1 = .ok (.lconst 0, 1) := dc9_9 (by decide +kernel)
theorem d_MM_divisor_2 : decode y_MM_divisor.2.1 2 = .ok (.lcmp, 1) := dc9_148 (by decide +kernel)
theorem d_MM_divisor_3 : decode y_MM_divisor.2.1 3 = .ok (.ifCond .ge 8, 3) := dc9_156 (by decide +kernel)
theorem d_MM_divisor_11 : decode y_MM_divisor.2.1 11 = .ok (.lload_n 0, 1) := dc9_30 (by decide +kernel)
theorem d_MM_divisor_6 : decode y_MM_divisor.2.1 6 = .ok (.lload_n 0, 1) := dc9_30 (by decide +kernel)
theorem d_MM_divisor_7 : decode y_MM_divisor.2.1 7 = .ok (.lneg, 1) := dc9_117 (by decide +kernel)
theorem d_MM_divisor_8 : decode y_MM_divisor.2.1 8 = .ok (.goto 4, 3) := dc9_167 (by decide +kernel)
theorem d_MM_divisor_12 : decode y_MM_divisor.2.1 12 = .ok (.lstore 4, 2) := dc9_55 (by decide +kernel)
theorem d_MM_divisor_14 : decode y_MM_divisor.2.1 14 = .ok (.lload_n 2, 1) := dc9_32 (by decide +kernel)
theorem d_MM_divisor_15 : decode y_MM_divisor.2.1 15 = .ok (.lstore 6, 2) := dc9_55 (by decide +kernel)
theorem d_MM_divisor_17 : decode y_MM_divisor.2.1 17 = .ok (.lload 6, 2) := dc9_22 (by decide +kernel)
theorem d_MM_divisor_19 : decode y_MM_divisor.2.1 19 = .ok (.lconst 0, 1) := dc9_9 (by decide +kernel)
theorem d_MM_divisor_20 : decode y_MM_divisor.2.1 20 = .ok (.lcmp, 1) := dc9_148 (by decide +kernel)
theorem d_MM_divisor_21 : decode y_MM_divisor.2.1 21 = .ok (.ifCond .le 21, 3) := dc9_158 (by decide +kernel)
theorem d_MM_divisor_42 : decode y_MM_divisor.2.1 42 = .ok (.lload 4, 2) := dc9_22 (by decide +kernel)
theorem d_MM_divisor_44 : decode y_MM_divisor.2.1 44 = .ok (.lreturn, 1) := dc9_173 (by decide +kernel)
theorem d_MM_divisor_24 : decode y_MM_divisor.2.1 24 = .ok (.lload 4, 2) := dc9_22 (by decide +kernel)
theorem d_MM_divisor_26 : decode y_MM_divisor.2.1 26 = .ok (.lload 6, 2) := dc9_22 (by decide +kernel)
theorem d_MM_divisor_28 : decode y_MM_divisor.2.1 28 = .ok (.lrem, 1) := dc9_113 (by decide +kernel)
theorem d_MM_divisor_29 : decode y_MM_divisor.2.1 29 = .ok (.lstore 8, 2) := dc9_55 (by decide +kernel)
theorem d_MM_divisor_31 : decode y_MM_divisor.2.1 31 = .ok (.lload 6, 2) := dc9_22 (by decide +kernel)
theorem d_MM_divisor_33 : decode y_MM_divisor.2.1 33 = .ok (.lstore 4, 2) := dc9_55 (by decide +kernel)
theorem d_MM_divisor_35 : decode y_MM_divisor.2.1 35 = .ok (.lload 8, 2) := dc9_22 (by decide +kernel)
theorem d_MM_divisor_37 : decode y_MM_divisor.2.1 37 = .ok (.lstore 6, 2) := dc9_55 (by decide +kernel)
theorem d_MM_divisor_39 : decode y_MM_divisor.2.1 39 = .ok (.goto (-22), 3) := dc9_167 (by decide +kernel)
def h_MM_divisor_17 (G : mG) (d : Nat) (j4 : Int) (j6 : Int) (M : mM) (Q : Int → mM → Prop) : Prop := mWm G y_MM_divisor d 17 [vd, vd, vd, vd, vl j4, vd, vl j6, vd, vd, vd] [] M (fun r9 M9 => ∃ x9, r9 = some (vl x9) ∧ Q x9 M9)
theorem k_MM_divisor {G : mG} {d : Nat} {j0 : Int} {j2 : Int} {M : mM} {Q : Int → mM → Prop} (hO : mOk M) (hi_j0 : i64 j0) (hi_j2 : i64 j2)
    (h : ∀ v2 : Int, v2 = (if (0 ≤ cmpL j0 0) then j0 else -j0) → h_MM_divisor_17 G d v2 j2 M Q) :
    Cj G y_MM_divisor d [vl j0, vl j2] M Q := by
  refine wm_open (y := y_MM_divisor) rfl (Nat.le_of_ble_eq_true rfl) (L := [vl j0, vd, vl j2, vd, vd, vd, vd, vd, vd, vd]) rfl ?_
  refine wm_lload_n d_MM_divisor_0 rfl rfl ?_
  refine wm_lconst (x := 0) d_MM_divisor_1 rfl ?_
  refine wm_lcmp d_MM_divisor_2 hi_j0 ⟨by decide, by decide⟩ ?_
  have hJ : ∀ v2 : Int, v2 = (if (0 ≤ cmpL j0 0) then j0 else -j0) → mWm G y_MM_divisor d 12 [vd, vd, vl j2, vd, vd, vd, vd, vd, vd, vd] [vl v2] M (fun r9 M9 => ∃ x9, r9 = some (vl x9) ∧ Q x9 M9) := by
    intro v2 e4
    have h := h v2 e4
    refine wm_lstore d_MM_divisor_12 (by decide) (L' := [vd, vd, vl j2, vd, vl v2, vd, vd, vd, vd, vd]) rfl ?_
    refine wm_lload_n d_MM_divisor_14 rfl rfl ?_
    refine wm_lstore d_MM_divisor_15 (by decide) (L' := [vd, vd, vl j2, vd, vl v2, vd, vl j2, vd, vd, vd]) rfl ?_
    refine wm_less (L' := [vd, vd, vd, vd, vl v2, vd, vl j2, vd, vd, vd]) ⟨Or.inl rfl, Or.inl rfl, Or.inl rfl, Or.inl rfl, Or.inr rfl, Or.inl rfl, Or.inr rfl, Or.inl rfl, Or.inl rfl, Or.inl rfl, trivial⟩ ?_
    exact h
  clear h
  refine wm_if_ge (tgt := 11) d_MM_divisor_3 rfl (m_cmp32 _ _) (fun c1 => ?_) (fun c1 => ?_)
  · refine wm_lload_n d_MM_divisor_11 rfl rfl ?_
    refine wm_less (L' := [vd, vd, vl j2, vd, vd, vd, vd, vd, vd, vd]) ⟨Or.inl rfl, Or.inl rfl, Or.inr rfl, Or.inl rfl, Or.inl rfl, Or.inl rfl, Or.inl rfl, Or.inl rfl, Or.inl rfl, Or.inl rfl, trivial⟩ ?_
    exact hJ j0 (if_pos c1).symm
  · refine wm_lload_n d_MM_divisor_6 rfl rfl ?_
    refine wm_lneg d_MM_divisor_7 ?_
    refine wm_goto (tgt := 12) d_MM_divisor_8 rfl ?_
    refine wm_less (L' := [vd, vd, vl j2, vd, vd, vd, vd, vd, vd, vd]) ⟨Or.inl rfl, Or.inl rfl, Or.inr rfl, Or.inl rfl, Or.inl rfl, Or.inl rfl, Or.inl rfl, Or.inl rfl, Or.inl rfl, Or.inl rfl, trivial⟩ ?_
    exact hJ (-j0) (if_neg c1).symm
theorem k_MM_divisor_17 {G : mG} {d : Nat} {j4 : Int} {j6 : Int} {M : mM} {Q : Int → mM → Prop} (hO : mOk M) (hi_j4 : i64 j4) (hi_j6 : i64 j6)
    (h : ((cmpL j6 0 ≤ 0) → (Q j4 M)) ∧ (¬ (cmpL j6 0 ≤ 0) → (j6 ≠ 0 ∧ h_MM_divisor_17 G d j6 (Int.tmod j4 j6) M Q))) :
    h_MM_divisor_17 G d j4 j6 M Q := by
  unfold h_MM_divisor_17
  refine wm_lload d_MM_divisor_17 rfl ?_
  refine wm_lconst (x := 0) d_MM_divisor_19 rfl ?_
  refine wm_lcmp d_MM_divisor_20 hi_j6 ⟨by decide, by decide⟩ ?_
  refine wm_if_le (tgt := 42) d_MM_divisor_21 rfl (m_cmp32 _ _) (fun c8 => ?_) (fun c8 => ?_)
  · replace h := h.1 c8
    refine wm_lload d_MM_divisor_42 rfl ?_
    refine wm_lreturn d_MM_divisor_44 rfl ?_
    exact ⟨_, rfl, h⟩
  · replace h := h.2 c8
    obtain ⟨h9, h⟩ := h
    refine wm_lload d_MM_divisor_24 rfl ?_
    refine wm_lload d_MM_divisor_26 rfl ?_
    refine wm_lrem d_MM_divisor_28 hi_j4 hi_j6 h9 ?_
    refine wm_lstore d_MM_divisor_29 (by decide) (L' := [vd, vd, vd, vd, vl j4, vd, vl j6, vd, vl (Int.tmod j4 j6), vd]) rfl ?_
    refine wm_lload d_MM_divisor_31 rfl ?_
    refine wm_lstore d_MM_divisor_33 (by decide) (L' := [vd, vd, vd, vd, vl j6, vd, vl j6, vd, vl (Int.tmod j4 j6), vd]) rfl ?_
    refine wm_lload d_MM_divisor_35 rfl ?_
    refine wm_lstore d_MM_divisor_37 (by decide) (L' := [vd, vd, vd, vd, vl j6, vd, vl (Int.tmod j4 j6), vd, vl (Int.tmod j4 j6), vd]) rfl ?_
    refine wm_goto (tgt := 17) d_MM_divisor_39 rfl ?_
    refine wm_less (L' := [vd, vd, vd, vd, vl j6, vd, vl (Int.tmod j4 j6), vd, vd, vd]) ⟨Or.inl rfl, Or.inl rfl, Or.inl rfl, Or.inl rfl, Or.inr rfl, Or.inl rfl, Or.inr rfl, Or.inl rfl, Or.inl rfl, Or.inl rfl, trivial⟩ ?_
    exact h
theorem d_MM_pushFraction_0 : decode y_MM_pushFraction.2.1 0 = .ok (.lload_n 1, 1) := dc9_31 (by decide +kernel)
theorem d_MM_pushFraction_1 : decode y_MM_pushFraction.2.1 1 = .ok (.lload_n 3, 1) := dc9_33 (by decide +kernel)
theorem d_MM_pushFraction_2 : decode y_MM_pushFraction.2.1 2 = .ok (.invokestatic 377, 3) := dc9_184 (by decide +kernel)
theorem d_MM_pushFraction_5 : decode y_MM_pushFraction.2.1 5 = .ok (.lstore 6, 2) := dc9_55 (by decide +kernel)
theorem d_MM_pushFraction_7 : decode y_MM_pushFraction.2.1 7 = .ok (.lload_n 1, 1) := dc9_31 (by decide +kernel)
theorem d_MM_pushFraction_8 : decode y_MM_pushFraction.2.1 8 = .ok (.lload 6, 2) := dc9_22 (by decide +kernel)
theorem d_MM_pushFraction_10 : decode y_MM_pushFraction.2.1 10 = .ok (.ldiv, 1) := dc9_109 (by decide +kernel)
theorem d_MM_pushFraction_11 : decode y_MM_pushFraction.2.1 11 = .ok (.lstore 8, 2) := dc9_55 (by decide +kernel)
theorem d_MM_pushFraction_13 : decode y_MM_pushFraction.2.1 13 = .ok (.lload_n 3, 1) := dc9_33 (by decide +kernel)
theorem d_MM_pushFraction_14 : decode y_MM_pushFraction.2.1 14 = .ok (.lload 6, 2) := dc9_22 (by decide +kernel)
theorem d_MM_pushFraction_16 : decode y_MM_pushFraction.2.1 16 = .ok (.ldiv, 1) := dc9_109 (by decide +kernel)
theorem d_MM_pushFraction_17 : decode y_MM_pushFraction.2.1 17 = .ok (.lstore 10, 2) := dc9_55 (by decide +kernel)
theorem d_MM_pushFraction_19 : decode y_MM_pushFraction.2.1 19 = .ok (.lload 8, 2) := dc9_22 (by decide +kernel)
theorem d_MM_pushFraction_21 : decode y_MM_pushFraction.2.1 21 = .ok (.ldc2_w 381, 3) := dc9_20 (by decide +kernel)
theorem d_MM_pushFraction_24 : decode y_MM_pushFraction.2.1 24 = .ok (.lcmp, 1) := dc9_148 (by decide +kernel)
theorem d_MM_pushFraction_25 : decode y_MM_pushFraction.2.1 25 = .ok (.ifCond .ge 21, 3) := dc9_156 (by decide +kernel)
theorem d_MM_pushFraction_46 : decode y_MM_pushFraction.2.1 46 = .ok (.aload_n 0, 1) := dc9_42 (by decide +kernel)
theorem d_MM_pushFraction_47 : decode y_MM_pushFraction.2.1 47 = .ok (.bipush 6, 2) := dc9_16 (by decide +kernel)
theorem d_MM_pushFraction_49 : decode y_MM_pushFraction.2.1 49 = .ok (.iload 5, 2) := dc9_21 (by decide +kernel)
theorem d_MM_pushFraction_28 : decode y_MM_pushFraction.2.1 28 = .ok (.lload 8, 2) := dc9_22 (by decide +kernel)
theorem d_MM_pushFraction_30 : decode y_MM_pushFraction.2.1 30 = .ok (.ldc2_w 383, 3) := dc9_20 (by decide +kernel)
theorem d_MM_pushFraction_33 : decode y_MM_pushFraction.2.1 33 = .ok (.lcmp, 1) := dc9_148 (by decide +kernel)
theorem d_MM_pushFraction_34 : decode y_MM_pushFraction.2.1 34 = .ok (.ifCond .le 12, 3) := dc9_158 (by decide +kernel)
theorem d_MM_pushFraction_37 : decode y_MM_pushFraction.2.1 37 = .ok (.lload 10, 2) := dc9_22 (by decide +kernel)
theorem d_MM_pushFraction_39 : decode y_MM_pushFraction.2.1 39 = .ok (.ldc2_w 381, 3) := dc9_20 (by decide +kernel)
theorem d_MM_pushFraction_42 : decode y_MM_pushFraction.2.1 42 = .ok (.lcmp, 1) := dc9_148 (by decide +kernel)
theorem d_MM_pushFraction_43 : decode y_MM_pushFraction.2.1 43 = .ok (.ifCond .lt 11, 3) := dc9_155 (by decide +kernel)
theorem d_MM_pushFraction_51 : decode y_MM_pushFraction.2.1 51 = .ok (.invokevirtual 351, 3) := dc9_182 (by decide +kernel)
theorem d_MM_pushFraction_54 : decode y_MM_pushFraction.2.1 54 = .ok (.aload_n 0, 1) := dc9_42 (by decide +kernel)
theorem d_MM_pushFraction_55 : decode y_MM_pushFraction.2.1 55 = .ok (.lload 8, 2) := dc9_22 (by decide +kernel)
theorem d_MM_pushFraction_57 : decode y_MM_pushFraction.2.1 57 = .ok (.lload 10, 2) := dc9_22 (by decide +kernel)
theorem d_MM_pushFraction_59 : decode y_MM_pushFraction.2.1 59 = .ok (.invokevirtual 373, 3) := dc9_182 (by decide +kernel)
theorem d_MM_pushFraction_62 : decode y_MM_pushFraction.2.1 62 = .ok (.return_, 1) := dc9_177 (by decide +kernel)
theorem k_MM_pushFraction {G : mG} {d : Nat} {a0 : Nat} {j1 : Int} {j3 : Int} {l5 : Int} {M : mM} {Q : mM → Prop} (hO : mOk M) (hi_j1 : i64 j1) (hi_j3 : i64 j3) (hi_l5 : i32 l5)
    (h : Cj G y_MM_divisor d [vl j1, vl j3] M (fun x2 M1 => i64 x2 ∧ mOk M1 ∧ (x2 ≠ 0 ∧ x2 ≠ 0 ∧ i64 (Int.tdiv j1 x2) ∧ (¬ (0 ≤ cmpL (Int.tdiv j1 x2) 1000000000) → (¬ (cmpL (Int.tdiv j1 x2) (-1000000000) ≤ 0) → i64 (Int.tdiv j3 x2))) ∧ (((0 ≤ cmpL (Int.tdiv j1 x2) 1000000000) ∨ ((cmpL (Int.tdiv j1 x2) (-1000000000) ≤ 0) ∨ (¬ (cmpL (Int.tdiv j3 x2) 1000000000 < 0)))) → (mK M1 a0 = 14 ∧ Cv G y_MM_stop d [vr a0, vi 6, vi l5] M1 (fun M15 => mOk M15 ∧ (mK M15 a0 = 14 ∧ Cv G y_MM_push d [vr a0, vl (Int.tdiv j1 x2), vl (Int.tdiv j3 x2)] M15 (fun M19 => mOk M19 ∧ (Q M19)))))) ∧ (¬ ((0 ≤ cmpL (Int.tdiv j1 x2) 1000000000) ∨ ((cmpL (Int.tdiv j1 x2) (-1000000000) ≤ 0) ∨ (¬ (cmpL (Int.tdiv j3 x2) 1000000000 < 0)))) → (mK M1 a0 = 14 ∧ Cv G y_MM_push d [vr a0, vl (Int.tdiv j1 x2), vl (Int.tdiv j3 x2)] M1 (fun M24 => mOk M24 ∧ (Q M24))))))) :
    Cv G y_MM_pushFraction (d + 1) [vr a0, vl j1, vl j3, vi l5] M Q := by
  refine wm_open (y := y_MM_pushFraction) rfl (Nat.le_of_ble_eq_true rfl) (L := [vr a0, vl j1, vd, vl j3, vd, vi l5, vd, vd, vd, vd, vd, vd]) rfl ?_
  refine wm_lload_n d_MM_pushFraction_0 rfl rfl ?_
  refine wm_lload_n d_MM_pushFraction_1 rfl rfl ?_
  refine cf_MM_377 rfl d_MM_pushFraction_2 (Nat.le_of_ble_eq_true rfl) (Cj.mono h (fun x2 M1 h => ?_))
  obtain ⟨h3, hOM1, h⟩ := h
  obtain ⟨h4, h⟩ := h
  obtain ⟨h5, h⟩ := h
  obtain ⟨h6, h⟩ := h
  refine wm_lstore d_MM_pushFraction_5 (by decide) (L' := [vr a0, vl j1, vd, vl j3, vd, vi l5, vl x2, vd, vd, vd, vd, vd]) rfl ?_
  refine wm_lload_n d_MM_pushFraction_7 rfl rfl ?_
  refine wm_lload d_MM_pushFraction_8 rfl ?_
  refine wm_ldiv d_MM_pushFraction_10 hi_j1 h3 h4 ?_
  refine wm_lstore d_MM_pushFraction_11 (by decide) (L' := [vr a0, vl j1, vd, vl j3, vd, vi l5, vl x2, vd, vl (Int.tdiv j1 x2), vd, vd, vd]) rfl ?_
  refine wm_lload_n d_MM_pushFraction_13 rfl rfl ?_
  refine wm_lload d_MM_pushFraction_14 rfl ?_
  refine wm_ldiv d_MM_pushFraction_16 hi_j3 h3 h5 ?_
  refine wm_lstore d_MM_pushFraction_17 (by decide) (L' := [vr a0, vl j1, vd, vl j3, vd, vi l5, vl x2, vd, vl (Int.tdiv j1 x2), vd, vl (Int.tdiv j3 x2), vd]) rfl ?_
  refine wm_lload d_MM_pushFraction_19 rfl ?_
  refine wm_ldc2 (x := 1000000000) d_MM_pushFraction_21 k12_27 (by decide) ?_
  refine wm_lcmp d_MM_pushFraction_24 h6 ⟨by decide, by decide⟩ ?_
  obtain ⟨s12, h⟩ := h
  have hE0 : ((0 ≤ cmpL (Int.tdiv j1 x2) 1000000000) ∨ ((cmpL (Int.tdiv j1 x2) (-1000000000) ≤ 0) ∨ (¬ (cmpL (Int.tdiv j3 x2) 1000000000 < 0)))) → mWm G y_MM_pushFraction (d + 1) 46 [vr a0, vl j1, vd, vl j3, vd, vi l5, vl x2, vd, vl (Int.tdiv j1 x2), vd, vl (Int.tdiv j3 x2), vd] [] M1 (fun r9 M9 => r9 = none ∧ Q M9) := by
    intro q13
    have h := h.1 q13
    obtain ⟨h14, h⟩ := h
    refine wm_aload_n d_MM_pushFraction_46 rfl rfl ?_
    refine wm_bipush d_MM_pushFraction_47 (by decide) ?_
    refine wm_iload d_MM_pushFraction_49 rfl ?_
    refine cf_MM_351 rfl d_MM_pushFraction_51 h14 (Nat.le_of_ble_eq_true rfl) (Cv.mono h (fun M15 h => ?_))
    obtain ⟨hOM15, h⟩ := h
    obtain ⟨h18, h⟩ := h
    refine wm_aload_n d_MM_pushFraction_54 rfl rfl ?_
    refine wm_lload d_MM_pushFraction_55 rfl ?_
    refine wm_lload d_MM_pushFraction_57 rfl ?_
    refine cf_MM_373 rfl d_MM_pushFraction_59 h18 (Nat.le_of_ble_eq_true rfl) (Cv.mono h (fun M19 h => ?_))
    obtain ⟨hOM19, h⟩ := h
    refine wm_return d_MM_pushFraction_62 rfl ?_
    exact ⟨rfl, h⟩
  have hE1 : ¬ ((0 ≤ cmpL (Int.tdiv j1 x2) 1000000000) ∨ ((cmpL (Int.tdiv j1 x2) (-1000000000) ≤ 0) ∨ (¬ (cmpL (Int.tdiv j3 x2) 1000000000 < 0)))) → mWm G y_MM_pushFraction (d + 1) 54 [vr a0, vl j1, vd, vl j3, vd, vi l5, vl x2, vd, vl (Int.tdiv j1 x2), vd, vl (Int.tdiv j3 x2), vd] [] M1 (fun r9 M9 => r9 = none ∧ Q M9) := by
    intro q22
    have h := h.2 q22
    obtain ⟨h23, h⟩ := h
    refine wm_aload_n d_MM_pushFraction_54 rfl rfl ?_
    refine wm_lload d_MM_pushFraction_55 rfl ?_
    refine wm_lload d_MM_pushFraction_57 rfl ?_
    refine cf_MM_373 rfl d_MM_pushFraction_59 h23 (Nat.le_of_ble_eq_true rfl) (Cv.mono h (fun M24 h => ?_))
    obtain ⟨hOM24, h⟩ := h
    refine wm_return d_MM_pushFraction_62 rfl ?_
    exact ⟨rfl, h⟩
  clear h
  have s27 := s12
  refine wm_if_ge (tgt := 46) d_MM_pushFraction_25 rfl (m_cmp32 _ _) (fun c11 => ?_) (fun c11 => ?_)
  · exact hE0 (Or.inl c11)
  · have s27 := s27 c11
    have s28 := s27
    refine wm_lload d_MM_pushFraction_28 rfl ?_
    refine wm_ldc2 (x := (-1000000000)) d_MM_pushFraction_30 k12_28 (by decide) ?_
    refine wm_lcmp d_MM_pushFraction_33 h6 ⟨by decide, by decide⟩ ?_
    refine wm_if_le (tgt := 46) d_MM_pushFraction_34 rfl (m_cmp32 _ _) (fun c10 => ?_) (fun c10 => ?_)
    · exact hE0 (Or.inr (Or.inl c10))
    · have s28 := s28 c10
      have h8 := s28
      refine wm_lload d_MM_pushFraction_37 rfl ?_
      refine wm_ldc2 (x := 1000000000) d_MM_pushFraction_39 k12_27 (by decide) ?_
      refine wm_lcmp d_MM_pushFraction_42 h8 ⟨by decide, by decide⟩ ?_
      refine wm_if_lt (tgt := 54) d_MM_pushFraction_43 rfl (m_cmp32 _ _) (fun c9 => ?_) (fun c9 => ?_)
      · exact hE1 (fun z29 => Or.elim z29 c11 (fun z30 => Or.elim z30 c10 (fun z31 => z31 c9)))
      · exact hE0 (Or.inr (Or.inr c9))
theorem d_MM_todo_0 : decode y_MM_todo.2.1 0 = .ok (.aload_n 0, 1) := dc9_42 (by decide +kernel)
theorem d_MM_todo_1 : decode y_MM_todo.2.1 1 = .ok (.getfield 70, 3) := dc9_180 (by decide +kernel)
theorem d_MM_todo_4 : decode y_MM_todo.2.1 4 = .ok (.iload_n 1, 1) := dc9_27 (by decide +kernel)
theorem d_MM_todo_5 : decode y_MM_todo.2.1 5 = .ok (.invokevirtual 152, 3) := dc9_182 (by decide +kernel)
theorem d_MM_todo_8 : decode y_MM_todo.2.1 8 = .ok (.aload_n 0, 1) := dc9_42 (by decide +kernel)
theorem d_MM_todo_9 : decode y_MM_todo.2.1 9 = .ok (.getfield 70, 3) := dc9_180 (by decide +kernel)
theorem d_MM_todo_12 : decode y_MM_todo.2.1 12 = .ok (.iload_n 2, 1) := dc9_28 (by decide +kernel)
theorem d_MM_todo_13 : decode y_MM_todo.2.1 13 = .ok (.invokevirtual 152, 3) := dc9_182 (by decide +kernel)
theorem d_MM_todo_16 : decode y_MM_todo.2.1 16 = .ok (.return_, 1) := dc9_177 (by decide +kernel)
theorem k_MM_todo {G : mG} {d : Nat} {a0 : Nat} {l1 : Int} {l2 : Int} {M : mM} {Q : mM → Prop} (hO : mOk M) (hi_l1 : i32 l1) (hi_l2 : i32 l2)
    (h : mK M a0 = 14 ∧ mK M (mR M a0 24) = 15 ∧ Cv G y_MN_add d [vr (mR M a0 24), vi l1] M (fun M3 => mOk M3 ∧ (mK M3 a0 = 14 ∧ mK M3 (mR M3 a0 24) = 15 ∧ Cv G y_MN_add d [vr (mR M3 a0 24), vi l2] M3 (fun M8 => mOk M8 ∧ (Q M8))))) :
    Cv G y_MM_todo (d + 1) [vr a0, vi l1, vi l2] M Q := by
  refine wm_open (y := y_MM_todo) rfl (Nat.le_of_ble_eq_true rfl) (L := [vr a0, vi l1, vi l2]) rfl ?_
  obtain ⟨h1, h⟩ := h
  obtain ⟨h2, h⟩ := h
  refine wm_aload_n d_MM_todo_0 rfl rfl ?_
  refine gf_MM_70 rfl d_MM_todo_1 h1 ?_
  refine wm_iload_n d_MM_todo_4 rfl rfl ?_
  refine cf_MM_152 rfl d_MM_todo_5 h2 (Nat.le_of_ble_eq_true rfl) (Cv.mono h (fun M3 h => ?_))
  obtain ⟨hOM3, h⟩ := h
  obtain ⟨h6, h⟩ := h
  obtain ⟨h7, h⟩ := h
  refine wm_aload_n d_MM_todo_8 rfl rfl ?_
  refine gf_MM_70 rfl d_MM_todo_9 h6 ?_
  refine wm_iload_n d_MM_todo_12 rfl rfl ?_
  refine cf_MM_152 rfl d_MM_todo_13 h7 (Nat.le_of_ble_eq_true rfl) (Cv.mono h (fun M8 h => ?_))
  obtain ⟨hOM8, h⟩ := h
  refine wm_return d_MM_todo_16 rfl ?_
  exact ⟨rfl, h⟩
theorem d_MM_workOut_0 : decode y_MM_workOut.2.1 0 = .ok (.aload_n 0, 1) := dc9_42 (by decide +kernel)
theorem d_MM_workOut_1 : decode y_MM_workOut.2.1 1 = .ok (.iconst 0, 1) := dc9_3 (by decide +kernel)
theorem d_MM_workOut_2 : decode y_MM_workOut.2.1 2 = .ok (.putfield 370, 3) := dc9_181 (by decide +kernel)
theorem d_MM_workOut_5 : decode y_MM_workOut.2.1 5 = .ok (.aload_n 0, 1) := dc9_42 (by decide +kernel)
theorem d_MM_workOut_6 : decode y_MM_workOut.2.1 6 = .ok (.getfield 70, 3) := dc9_180 (by decide +kernel)
theorem d_MM_workOut_9 : decode y_MM_workOut.2.1 9 = .ok (.iconst 0, 1) := dc9_3 (by decide +kernel)
theorem d_MM_workOut_10 : decode y_MM_workOut.2.1 10 = .ok (.putfield 145, 3) := dc9_181 (by decide +kernel)
theorem d_MM_workOut_13 : decode y_MM_workOut.2.1 13 = .ok (.aload_n 0, 1) := dc9_42 (by decide +kernel)
theorem d_MM_workOut_14 : decode y_MM_workOut.2.1 14 = .ok (.iconst 0, 1) := dc9_3 (by decide +kernel)
theorem d_MM_workOut_15 : decode y_MM_workOut.2.1 15 = .ok (.iload_n 2, 1) := dc9_28 (by decide +kernel)
theorem d_MM_workOut_16 : decode y_MM_workOut.2.1 16 = .ok (.invokevirtual 385, 3) := dc9_182 (by decide +kernel)
theorem d_MM_workOut_19 : decode y_MM_workOut.2.1 19 = .ok (.aload_n 0, 1) := dc9_42 (by decide +kernel)
theorem d_MM_workOut_20 : decode y_MM_workOut.2.1 20 = .ok (.getfield 70, 3) := dc9_180 (by decide +kernel)
theorem d_MM_workOut_23 : decode y_MM_workOut.2.1 23 = .ok (.getfield 145, 3) := dc9_180 (by decide +kernel)
theorem d_MM_workOut_26 : decode y_MM_workOut.2.1 26 = .ok (.ifCond .le 115, 3) := dc9_158 (by decide +kernel)
theorem d_MM_workOut_29 : decode y_MM_workOut.2.1 29 = .ok (.aload_n 0, 1) := dc9_42 (by decide +kernel)
theorem d_MM_workOut_30 : decode y_MM_workOut.2.1 30 = .ok (.getfield 267, 3) := dc9_180 (by decide +kernel)
theorem d_MM_workOut_33 : decode y_MM_workOut.2.1 33 = .ok (.ifCond .ne 108, 3) := dc9_154 (by decide +kernel)
theorem d_MM_workOut_36 : decode y_MM_workOut.2.1 36 = .ok (.aload_n 0, 1) := dc9_42 (by decide +kernel)
theorem d_MM_workOut_37 : decode y_MM_workOut.2.1 37 = .ok (.getfield 70, 3) := dc9_180 (by decide +kernel)
theorem d_MM_workOut_141 : decode y_MM_workOut.2.1 141 = .ok (.return_, 1) := dc9_177 (by decide +kernel)
theorem d_MM_workOut_40 : decode y_MM_workOut.2.1 40 = .ok (.invokevirtual 232, 3) := dc9_182 (by decide +kernel)
theorem d_MM_workOut_43 : decode y_MM_workOut.2.1 43 = .ok (.istore_n 3, 1) := dc9_62 (by decide +kernel)
theorem d_MM_workOut_44 : decode y_MM_workOut.2.1 44 = .ok (.aload_n 0, 1) := dc9_42 (by decide +kernel)
theorem d_MM_workOut_45 : decode y_MM_workOut.2.1 45 = .ok (.getfield 70, 3) := dc9_180 (by decide +kernel)
theorem d_MM_workOut_48 : decode y_MM_workOut.2.1 48 = .ok (.invokevirtual 232, 3) := dc9_182 (by decide +kernel)
theorem d_MM_workOut_51 : decode y_MM_workOut.2.1 51 = .ok (.istore 4, 2) := dc9_54 (by decide +kernel)
theorem d_MM_workOut_53 : decode y_MM_workOut.2.1 53 = .ok (.iload 4, 2) := dc9_21 (by decide +kernel)
theorem d_MM_workOut_55 : decode y_MM_workOut.2.1 55 = .ok (.ifCond .ne 12, 3) := dc9_154 (by decide +kernel)
theorem d_MM_workOut_58 : decode y_MM_workOut.2.1 58 = .ok (.aload_n 0, 1) := dc9_42 (by decide +kernel)
theorem d_MM_workOut_59 : decode y_MM_workOut.2.1 59 = .ok (.aload_n 1, 1) := dc9_43 (by decide +kernel)
theorem d_MM_workOut_60 : decode y_MM_workOut.2.1 60 = .ok (.iload_n 3, 1) := dc9_29 (by decide +kernel)
theorem d_MM_workOut_67 : decode y_MM_workOut.2.1 67 = .ok (.iload 4, 2) := dc9_21 (by decide +kernel)
theorem d_MM_workOut_69 : decode y_MM_workOut.2.1 69 = .ok (.iconst 1, 1) := dc9_4 (by decide +kernel)
theorem d_MM_workOut_70 : decode y_MM_workOut.2.1 70 = .ok (.if_icmp .ne 12, 3) := dc9_160 (by decide +kernel)
theorem d_MM_workOut_73 : decode y_MM_workOut.2.1 73 = .ok (.aload_n 0, 1) := dc9_42 (by decide +kernel)
theorem d_MM_workOut_74 : decode y_MM_workOut.2.1 74 = .ok (.aload_n 1, 1) := dc9_43 (by decide +kernel)
theorem d_MM_workOut_75 : decode y_MM_workOut.2.1 75 = .ok (.iload_n 3, 1) := dc9_29 (by decide +kernel)
theorem d_MM_workOut_82 : decode y_MM_workOut.2.1 82 = .ok (.iload 4, 2) := dc9_21 (by decide +kernel)
theorem d_MM_workOut_84 : decode y_MM_workOut.2.1 84 = .ok (.iconst 2, 1) := dc9_5 (by decide +kernel)
theorem d_MM_workOut_85 : decode y_MM_workOut.2.1 85 = .ok (.if_icmp .ne 12, 3) := dc9_160 (by decide +kernel)
theorem d_MM_workOut_88 : decode y_MM_workOut.2.1 88 = .ok (.aload_n 0, 1) := dc9_42 (by decide +kernel)
theorem d_MM_workOut_89 : decode y_MM_workOut.2.1 89 = .ok (.aload_n 1, 1) := dc9_43 (by decide +kernel)
theorem d_MM_workOut_90 : decode y_MM_workOut.2.1 90 = .ok (.iload_n 3, 1) := dc9_29 (by decide +kernel)
theorem d_MM_workOut_97 : decode y_MM_workOut.2.1 97 = .ok (.aload_n 0, 1) := dc9_42 (by decide +kernel)
theorem d_MM_workOut_98 : decode y_MM_workOut.2.1 98 = .ok (.getfield 77, 3) := dc9_180 (by decide +kernel)
theorem d_MM_workOut_101 : decode y_MM_workOut.2.1 101 = .ok (.iload_n 3, 1) := dc9_29 (by decide +kernel)
theorem d_MM_workOut_102 : decode y_MM_workOut.2.1 102 = .ok (.iconst 1, 1) := dc9_4 (by decide +kernel)
theorem d_MM_workOut_103 : decode y_MM_workOut.2.1 103 = .ok (.bastore, 1) := dc9_84 (by decide +kernel)
theorem d_MM_workOut_104 : decode y_MM_workOut.2.1 104 = .ok (.aload_n 0, 1) := dc9_42 (by decide +kernel)
theorem d_MM_workOut_105 : decode y_MM_workOut.2.1 105 = .ok (.getfield 81, 3) := dc9_180 (by decide +kernel)
theorem d_MM_workOut_108 : decode y_MM_workOut.2.1 108 = .ok (.iload_n 3, 1) := dc9_29 (by decide +kernel)
theorem d_MM_workOut_109 : decode y_MM_workOut.2.1 109 = .ok (.aload_n 0, 1) := dc9_42 (by decide +kernel)
theorem d_MM_workOut_110 : decode y_MM_workOut.2.1 110 = .ok (.getfield 63, 3) := dc9_180 (by decide +kernel)
theorem d_MM_workOut_113 : decode y_MM_workOut.2.1 113 = .ok (.aload_n 0, 1) := dc9_42 (by decide +kernel)
theorem d_MM_workOut_114 : decode y_MM_workOut.2.1 114 = .ok (.getfield 370, 3) := dc9_180 (by decide +kernel)
theorem d_MM_workOut_117 : decode y_MM_workOut.2.1 117 = .ok (.iconst 1, 1) := dc9_4 (by decide +kernel)
theorem d_MM_workOut_118 : decode y_MM_workOut.2.1 118 = .ok (.isub, 1) := dc9_100 (by decide +kernel)
theorem d_MM_workOut_119 : decode y_MM_workOut.2.1 119 = .ok (.laload, 1) := dc9_47 (by decide +kernel)
theorem d_MM_workOut_120 : decode y_MM_workOut.2.1 120 = .ok (.lastore, 1) := dc9_80 (by decide +kernel)
theorem d_MM_workOut_61 : decode y_MM_workOut.2.1 61 = .ok (.invokevirtual 387, 3) := dc9_182 (by decide +kernel)
theorem d_MM_workOut_64 : decode y_MM_workOut.2.1 64 = .ok (.goto 74, 3) := dc9_167 (by decide +kernel)
theorem d_MM_workOut_76 : decode y_MM_workOut.2.1 76 = .ok (.invokevirtual 391, 3) := dc9_182 (by decide +kernel)
theorem d_MM_workOut_79 : decode y_MM_workOut.2.1 79 = .ok (.goto 59, 3) := dc9_167 (by decide +kernel)
theorem d_MM_workOut_91 : decode y_MM_workOut.2.1 91 = .ok (.invokevirtual 394, 3) := dc9_182 (by decide +kernel)
theorem d_MM_workOut_94 : decode y_MM_workOut.2.1 94 = .ok (.goto 44, 3) := dc9_167 (by decide +kernel)
theorem d_MM_workOut_121 : decode y_MM_workOut.2.1 121 = .ok (.aload_n 0, 1) := dc9_42 (by decide +kernel)
theorem d_MM_workOut_122 : decode y_MM_workOut.2.1 122 = .ok (.getfield 84, 3) := dc9_180 (by decide +kernel)
theorem d_MM_workOut_125 : decode y_MM_workOut.2.1 125 = .ok (.iload_n 3, 1) := dc9_29 (by decide +kernel)
theorem d_MM_workOut_126 : decode y_MM_workOut.2.1 126 = .ok (.aload_n 0, 1) := dc9_42 (by decide +kernel)
theorem d_MM_workOut_127 : decode y_MM_workOut.2.1 127 = .ok (.getfield 67, 3) := dc9_180 (by decide +kernel)
theorem d_MM_workOut_130 : decode y_MM_workOut.2.1 130 = .ok (.aload_n 0, 1) := dc9_42 (by decide +kernel)
theorem d_MM_workOut_131 : decode y_MM_workOut.2.1 131 = .ok (.getfield 370, 3) := dc9_180 (by decide +kernel)
theorem d_MM_workOut_134 : decode y_MM_workOut.2.1 134 = .ok (.iconst 1, 1) := dc9_4 (by decide +kernel)
theorem d_MM_workOut_135 : decode y_MM_workOut.2.1 135 = .ok (.isub, 1) := dc9_100 (by decide +kernel)
theorem d_MM_workOut_136 : decode y_MM_workOut.2.1 136 = .ok (.laload, 1) := dc9_47 (by decide +kernel)
theorem d_MM_workOut_137 : decode y_MM_workOut.2.1 137 = .ok (.lastore, 1) := dc9_80 (by decide +kernel)
theorem d_MM_workOut_138 : decode y_MM_workOut.2.1 138 = .ok (.goto (-119), 3) := dc9_167 (by decide +kernel)
def h_MM_workOut_19 (G : mG) (d : Nat) (a0 : Nat) (a1 : Nat) (M : mM) (Q : mM → Prop) : Prop := mWm G y_MM_workOut (d + 1) 19 [vr a0, vr a1, vd, vd, vd] [] M (fun r9 M9 => r9 = none ∧ Q M9)
def h_MM_workOut_138 (G : mG) (d : Nat) (a0 : Nat) (a1 : Nat) (M : mM) (Q : mM → Prop) : Prop := mWm G y_MM_workOut (d + 1) 138 [vr a0, vr a1, vd, vd, vd] [] M (fun r9 M9 => r9 = none ∧ Q M9)
theorem k_MM_workOut {G : mG} {d : Nat} {a0 : Nat} {a1 : Nat} {l2 : Int} {M : mM} {Q : mM → Prop} (hO : mOk M) (hi_l2 : i32 l2)
    (h : mK M a0 = 14 ∧ ∀ M2, M2 = mUI M a0 23 0 → mK M2 (mR M2 a0 24) = 15 ∧ ∀ M5, M5 = mUI M2 (mR M2 a0 24) 1 0 → Cv G y_MM_todo d [vr a0, vi 0, vi l2] M5 (fun M7 => mOk M7 ∧ (h_MM_workOut_19 G d a0 a1 M7 Q))) :
    Cv G y_MM_workOut (d + 1) [vr a0, vr a1, vi l2] M Q := by
  refine wm_open (y := y_MM_workOut) rfl (Nat.le_of_ble_eq_true rfl) (L := [vr a0, vr a1, vi l2, vd, vd]) rfl ?_
  obtain ⟨h1, h⟩ := h
  obtain ⟨M2, e3⟩ : ∃ M2, M2 = mUI M a0 23 0 := ⟨_, rfl⟩
  replace h := h M2 e3
  obtain ⟨h4, h⟩ := h
  obtain ⟨M5, e6⟩ : ∃ M5, M5 = mUI M2 (mR M2 a0 24) 1 0 := ⟨_, rfl⟩
  replace h := h M5 e6
  refine wm_aload_n d_MM_workOut_0 rfl rfl ?_
  refine wm_iconst d_MM_workOut_1 ?_
  have hOM2 : mOk M2 := by rw [e3]; exact mOk_UI hO ⟨by decide, by decide⟩
  refine pf_MM_370 rfl d_MM_workOut_2 h1 ⟨by decide, by decide⟩ e3 ?_
  refine wm_aload_n d_MM_workOut_5 rfl rfl ?_
  refine gf_MM_70 rfl d_MM_workOut_6 (by rw [e3]; exact h1) ?_
  refine wm_iconst d_MM_workOut_9 ?_
  have hOM5 : mOk M5 := by rw [e6]; exact mOk_UI hOM2 ⟨by decide, by decide⟩
  refine pf_MM_145 rfl d_MM_workOut_10 h4 ⟨by decide, by decide⟩ e6 ?_
  refine wm_aload_n d_MM_workOut_13 rfl rfl ?_
  refine wm_iconst d_MM_workOut_14 ?_
  refine wm_iload_n d_MM_workOut_15 rfl rfl ?_
  refine cf_MM_385 rfl d_MM_workOut_16 (by rw [e6, e3]; exact h1) (Nat.le_of_ble_eq_true rfl) (Cv.mono h (fun M7 h => ?_))
  obtain ⟨hOM7, h⟩ := h
  refine wm_less (L' := [vr a0, vr a1, vd, vd, vd]) ⟨Or.inr rfl, Or.inr rfl, Or.inl rfl, Or.inl rfl, Or.inl rfl, trivial⟩ ?_
  exact h
theorem k_MM_workOut_19 {G : mG} {d : Nat} {a0 : Nat} {a1 : Nat} {M : mM} {Q : mM → Prop} (hO : mOk M)
    (h : mK M a0 = 14 ∧ mK M (mR M a0 24) = 15 ∧ (((mI M (mR M a0 24) 1 ≤ 0) ∨ (¬ (mI M a0 16 = 0))) → (Q M)) ∧ (¬ ((mI M (mR M a0 24) 1 ≤ 0) ∨ (¬ (mI M a0 16 = 0))) → (Ci G y_MN_take d [vr (mR M a0 24)] M (fun x18 M17 => i32 x18 ∧ mOk M17 ∧ (mK M17 a0 = 14 ∧ mK M17 (mR M17 a0 24) = 15 ∧ Ci G y_MN_take d [vr (mR M17 a0 24)] M17 (fun x23 M22 => i32 x23 ∧ mOk M22 ∧ (((x23 = 0) → (mK M22 a0 = 14 ∧ Cv G y_MM_begin d [vr a0, vr a1, vi x18] M22 (fun M30 => mOk M30 ∧ (h_MM_workOut_138 G d a0 a1 M30 Q)))) ∧ (¬ (x23 = 0) → (((x23 = 1) → (mK M22 a0 = 14 ∧ Cv G y_MM_finish d [vr a0, vr a1, vi x18] M22 (fun M37 => mOk M37 ∧ (h_MM_workOut_138 G d a0 a1 M37 Q)))) ∧ (¬ (x23 = 1) → (((x23 = 2) → (mK M22 a0 = 14 ∧ Cv G y_MM_choose0 d [vr a0, vr a1, vi x18] M22 (fun M43 => mOk M43 ∧ (h_MM_workOut_138 G d a0 a1 M43 Q)))) ∧ (¬ (x23 = 2) → (mK M22 a0 = 14 ∧ mK M22 (mR M22 a0 26) = 31 ∧ ((0 : Int) ≤ x18 ∧ x18 < (mN M22 (mR M22 a0 26) : Int)) ∧ ∀ M49, M49 = mUI M22 (mR M22 a0 26) (Int.toNat x18) 1 → mK M49 (mR M49 a0 21) = 33 ∧ ((0 : Int) ≤ (mI M49 a0 23) - 1 ∧ (mI M49 a0 23) - 1 < (mN M49 (mR M49 a0 21) : Int)) ∧ mK M49 (mR M49 a0 27) = 33 ∧ ((0 : Int) ≤ x18 ∧ x18 < (mN M49 (mR M49 a0 27) : Int)) ∧ ∀ M55, M55 = mUL M49 (mR M49 a0 27) (Int.toNat x18) (mL M49 (mR M49 a0 21) (Int.toNat ((mI M49 a0 23) - 1))) → mK M55 (mR M55 a0 22) = 33 ∧ ((0 : Int) ≤ (mI M55 a0 23) - 1 ∧ (mI M55 a0 23) - 1 < (mN M55 (mR M55 a0 22) : Int)) ∧ mK M55 (mR M55 a0 28) = 33 ∧ ((0 : Int) ≤ x18 ∧ x18 < (mN M55 (mR M55 a0 28) : Int)) ∧ ∀ M61, M61 = mUL M55 (mR M55 a0 28) (Int.toNat x18) (mL M55 (mR M55 a0 22) (Int.toNat ((mI M55 a0 23) - 1))) → h_MM_workOut_138 G d a0 a1 M61 Q))))))))))))) :
    h_MM_workOut_19 G d a0 a1 M Q := by
  unfold h_MM_workOut_19
  obtain ⟨h10, h⟩ := h
  obtain ⟨h11, h⟩ := h
  refine wm_aload_n d_MM_workOut_19 rfl rfl ?_
  refine gf_MM_70 rfl d_MM_workOut_20 h10 ?_
  refine gf_MM_145 rfl d_MM_workOut_23 h11 ?_
  have hE0 : ((mI M (mR M a0 24) 1 ≤ 0) ∨ (¬ (mI M a0 16 = 0))) → mWm G y_MM_workOut (d + 1) 141 [vr a0, vr a1, vd, vd, vd] [] M (fun r9 M9 => r9 = none ∧ Q M9) := by
    intro q15
    have h := h.1 q15
    refine wm_return d_MM_workOut_141 rfl ?_
    exact ⟨rfl, h⟩
  have hE1 : ¬ ((mI M (mR M a0 24) 1 ≤ 0) ∨ (¬ (mI M a0 16 = 0))) → mWm G y_MM_workOut (d + 1) 36 [vr a0, vr a1, vd, vd, vd] [] M (fun r9 M9 => r9 = none ∧ Q M9) := by
    intro q16
    have h := h.2 q16
    refine wm_aload_n d_MM_workOut_36 rfl rfl ?_
    refine gf_MM_70 rfl d_MM_workOut_37 h10 ?_
    refine cf_MM_232 rfl d_MM_workOut_40 h11 (Nat.le_of_ble_eq_true rfl) (Ci.mono h (fun x18 M17 h => ?_))
    obtain ⟨h19, hOM17, h⟩ := h
    obtain ⟨h20, h⟩ := h
    obtain ⟨h21, h⟩ := h
    refine wm_istore_n d_MM_workOut_43 rfl (by decide) (L' := [vr a0, vr a1, vd, vi x18, vd]) rfl ?_
    refine wm_aload_n d_MM_workOut_44 rfl rfl ?_
    refine gf_MM_70 rfl d_MM_workOut_45 h20 ?_
    refine cf_MM_232 rfl d_MM_workOut_48 h21 (Nat.le_of_ble_eq_true rfl) (Ci.mono h (fun x23 M22 h => ?_))
    obtain ⟨h24, hOM22, h⟩ := h
    refine wm_istore d_MM_workOut_51 (by decide) (L' := [vr a0, vr a1, vd, vi x18, vi x23]) rfl ?_
    refine wm_iload d_MM_workOut_53 rfl ?_
    refine wm_if_ne (tgt := 67) d_MM_workOut_55 rfl h24 (fun c28 => ?_) (fun c28 => ?_)
    · replace h := h.2 c28
      refine wm_iload d_MM_workOut_67 rfl ?_
      refine wm_iconst d_MM_workOut_69 ?_
      refine wm_icmp_ne (tgt := 82) d_MM_workOut_70 rfl h24 ⟨by decide, by decide⟩ (fun c35 => ?_) (fun c35 => ?_)
      · replace h := h.2 c35
        refine wm_iload d_MM_workOut_82 rfl ?_
        refine wm_iconst d_MM_workOut_84 ?_
        refine wm_icmp_ne (tgt := 97) d_MM_workOut_85 rfl h24 ⟨by decide, by decide⟩ (fun c41 => ?_) (fun c41 => ?_)
        · replace h := h.2 c41
          obtain ⟨h46, h⟩ := h
          obtain ⟨h47, h⟩ := h
          obtain ⟨h48, h⟩ := h
          obtain ⟨M49, e50⟩ : ∃ M49, M49 = mUI M22 (mR M22 a0 26) (Int.toNat x18) 1 := ⟨_, rfl⟩
          replace h := h M49 e50
          obtain ⟨h51, h⟩ := h
          obtain ⟨h52, h⟩ := h
          obtain ⟨h53, h⟩ := h
          obtain ⟨h54, h⟩ := h
          obtain ⟨M55, e56⟩ : ∃ M55, M55 = mUL M49 (mR M49 a0 27) (Int.toNat x18) (mL M49 (mR M49 a0 21) (Int.toNat ((mI M49 a0 23) - 1))) := ⟨_, rfl⟩
          replace h := h M55 e56
          obtain ⟨h57, h⟩ := h
          obtain ⟨h58, h⟩ := h
          obtain ⟨h59, h⟩ := h
          obtain ⟨h60, h⟩ := h
          obtain ⟨M61, e62⟩ : ∃ M61, M61 = mUL M55 (mR M55 a0 28) (Int.toNat x18) (mL M55 (mR M55 a0 22) (Int.toNat ((mI M55 a0 23) - 1))) := ⟨_, rfl⟩
          replace h := h M61 e62
          refine wm_aload_n d_MM_workOut_97 rfl rfl ?_
          refine gf_MM_77 rfl d_MM_workOut_98 h46 ?_
          refine wm_iload_n d_MM_workOut_101 rfl rfl ?_
          refine wm_iconst d_MM_workOut_102 ?_
          have hOM49 : mOk M49 := by rw [e50]; exact mOk_UI hOM22 (m_b32 (by decide))
          refine wm_zastE d_MM_workOut_103 h47 h48 (by decide) e50 ?_
          refine wm_aload_n d_MM_workOut_104 rfl rfl ?_
          refine gf_MM_81 rfl d_MM_workOut_105 (by rw [e50]; exact h46) ?_
          refine wm_iload_n d_MM_workOut_108 rfl rfl ?_
          refine wm_aload_n d_MM_workOut_109 rfl rfl ?_
          refine gf_MM_63 rfl d_MM_workOut_110 (by rw [e50]; exact h46) ?_
          refine wm_aload_n d_MM_workOut_113 rfl rfl ?_
          refine gf_MM_370 rfl d_MM_workOut_114 (by rw [e50]; exact h46) ?_
          refine wm_iconst d_MM_workOut_117 ?_
          refine wm_isub d_MM_workOut_118 ?_
          refine wm_lald d_MM_workOut_119 h51 h52 ?_
          have hOM55 : mOk M55 := by rw [e56]; exact mOk_UL hOM49 (hOM49 _ _).2
          refine wm_lastE d_MM_workOut_120 h53 h54 (hOM49 _ _).2 e56 ?_
          refine wm_aload_n d_MM_workOut_121 rfl rfl ?_
          refine gf_MM_84 rfl d_MM_workOut_122 (by rw [e56, e50]; exact h46) ?_
          refine wm_iload_n d_MM_workOut_125 rfl rfl ?_
          refine wm_aload_n d_MM_workOut_126 rfl rfl ?_
          refine gf_MM_67 rfl d_MM_workOut_127 (by rw [e56, e50]; exact h46) ?_
          refine wm_aload_n d_MM_workOut_130 rfl rfl ?_
          refine gf_MM_370 rfl d_MM_workOut_131 (by rw [e56, e50]; exact h46) ?_
          refine wm_iconst d_MM_workOut_134 ?_
          refine wm_isub d_MM_workOut_135 ?_
          refine wm_lald d_MM_workOut_136 h57 h58 ?_
          have hOM61 : mOk M61 := by rw [e62]; exact mOk_UL hOM55 (hOM55 _ _).2
          refine wm_lastE d_MM_workOut_137 h59 h60 (hOM55 _ _).2 e62 ?_
          refine wm_less (L' := [vr a0, vr a1, vd, vd, vd]) ⟨Or.inr rfl, Or.inr rfl, Or.inl rfl, Or.inl rfl, Or.inl rfl, trivial⟩ ?_
          exact h
        · replace c41 := Classical.not_not.mp c41
          replace h := h.1 c41
          obtain ⟨h42, h⟩ := h
          refine wm_aload_n d_MM_workOut_88 rfl rfl ?_
          refine wm_aload_n d_MM_workOut_89 rfl rfl ?_
          refine wm_iload_n d_MM_workOut_90 rfl rfl ?_
          refine cf_MM_394 rfl d_MM_workOut_91 h42 (Nat.le_of_ble_eq_true rfl) (Cv.mono h (fun M43 h => ?_))
          obtain ⟨hOM43, h⟩ := h
          refine wm_goto (tgt := 138) d_MM_workOut_94 rfl ?_
          refine wm_less (L' := [vr a0, vr a1, vd, vd, vd]) ⟨Or.inr rfl, Or.inr rfl, Or.inl rfl, Or.inl rfl, Or.inl rfl, trivial⟩ ?_
          exact h
      · replace c35 := Classical.not_not.mp c35
        replace h := h.1 c35
        obtain ⟨h36, h⟩ := h
        refine wm_aload_n d_MM_workOut_73 rfl rfl ?_
        refine wm_aload_n d_MM_workOut_74 rfl rfl ?_
        refine wm_iload_n d_MM_workOut_75 rfl rfl ?_
        refine cf_MM_391 rfl d_MM_workOut_76 h36 (Nat.le_of_ble_eq_true rfl) (Cv.mono h (fun M37 h => ?_))
        obtain ⟨hOM37, h⟩ := h
        refine wm_goto (tgt := 138) d_MM_workOut_79 rfl ?_
        refine wm_less (L' := [vr a0, vr a1, vd, vd, vd]) ⟨Or.inr rfl, Or.inr rfl, Or.inl rfl, Or.inl rfl, Or.inl rfl, trivial⟩ ?_
        exact h
    · replace c28 := Classical.not_not.mp c28
      replace h := h.1 c28
      obtain ⟨h29, h⟩ := h
      refine wm_aload_n d_MM_workOut_58 rfl rfl ?_
      refine wm_aload_n d_MM_workOut_59 rfl rfl ?_
      refine wm_iload_n d_MM_workOut_60 rfl rfl ?_
      refine cf_MM_387 rfl d_MM_workOut_61 h29 (Nat.le_of_ble_eq_true rfl) (Cv.mono h (fun M30 h => ?_))
      obtain ⟨hOM30, h⟩ := h
      refine wm_goto (tgt := 138) d_MM_workOut_64 rfl ?_
      refine wm_less (L' := [vr a0, vr a1, vd, vd, vd]) ⟨Or.inr rfl, Or.inr rfl, Or.inl rfl, Or.inl rfl, Or.inl rfl, trivial⟩ ?_
      exact h
  clear h
  refine wm_if_le (tgt := 141) d_MM_workOut_26 rfl (hO _ _).1 (fun c13 => ?_) (fun c13 => ?_)
  · exact hE0 (Or.inl c13)
  · refine wm_aload_n d_MM_workOut_29 rfl rfl ?_
    refine gf_MM_267 rfl d_MM_workOut_30 h10 ?_
    refine wm_if_ne (tgt := 141) d_MM_workOut_33 rfl (hO _ _).1 (fun c12 => ?_) (fun c12 => ?_)
    · exact hE0 (Or.inr c12)
    · replace c12 := Classical.not_not.mp c12
      exact hE1 (fun z63 => Or.elim z63 c13 (fun z64 => z64 c12))
theorem k_MM_workOut_138 {G : mG} {d : Nat} {a0 : Nat} {a1 : Nat} {M : mM} {Q : mM → Prop} (hO : mOk M)
    (h : h_MM_workOut_19 G d a0 a1 M Q) :
    h_MM_workOut_138 G d a0 a1 M Q := by
  unfold h_MM_workOut_138
  refine wm_goto (tgt := 19) d_MM_workOut_138 rfl ?_
  exact h
theorem d_MM_begin_0 : decode y_MM_begin.2.1 0 = .ok (.aload_n 1, 1) := dc9_43 (by decide +kernel)
theorem d_MM_begin_1 : decode y_MM_begin.2.1 1 = .ok (.getfield 273, 3) := dc9_180 (by decide +kernel)
theorem d_MM_begin_4 : decode y_MM_begin.2.1 4 = .ok (.iload_n 2, 1) := dc9_28 (by decide +kernel)
theorem d_MM_begin_5 : decode y_MM_begin.2.1 5 = .ok (.invokevirtual 155, 3) := dc9_182 (by decide +kernel)
theorem d_MM_begin_8 : decode y_MM_begin.2.1 8 = .ok (.istore_n 3, 1) := dc9_62 (by decide +kernel)
theorem d_MM_begin_9 : decode y_MM_begin.2.1 9 = .ok (.aload_n 1, 1) := dc9_43 (by decide +kernel)
theorem d_MM_begin_10 : decode y_MM_begin.2.1 10 = .ok (.getfield 287, 3) := dc9_180 (by decide +kernel)
theorem d_MM_begin_13 : decode y_MM_begin.2.1 13 = .ok (.iload_n 2, 1) := dc9_28 (by decide +kernel)
theorem d_MM_begin_14 : decode y_MM_begin.2.1 14 = .ok (.invokevirtual 155, 3) := dc9_182 (by decide +kernel)
theorem d_MM_begin_17 : decode y_MM_begin.2.1 17 = .ok (.istore 4, 2) := dc9_54 (by decide +kernel)
theorem d_MM_begin_19 : decode y_MM_begin.2.1 19 = .ok (.iload_n 3, 1) := dc9_29 (by decide +kernel)
theorem d_MM_begin_20 : decode y_MM_begin.2.1 20 = .ok (.lookupswitch 127 #[(1, 99), (2, 68), (12, 83), (13, 83), (29, 113), (30, 113), (32, 113)], 68) := by decide +kernel
theorem z_MM_begin_20_s : lkS #[(1, 99), (2, 68), (12, 83), (13, 83), (29, 113), (30, 113), (32, 113)] := by unfold lkS; decide
theorem d_MM_begin_119 : decode y_MM_begin.2.1 119 = .ok (.aload_n 0, 1) := dc9_42 (by decide +kernel)
theorem d_MM_begin_120 : decode y_MM_begin.2.1 120 = .ok (.aload_n 1, 1) := dc9_43 (by decide +kernel)
theorem d_MM_begin_121 : decode y_MM_begin.2.1 121 = .ok (.aload_n 1, 1) := dc9_43 (by decide +kernel)
theorem d_MM_begin_122 : decode y_MM_begin.2.1 122 = .ok (.getfield 284, 3) := dc9_180 (by decide +kernel)
theorem d_MM_begin_125 : decode y_MM_begin.2.1 125 = .ok (.iload_n 2, 1) := dc9_28 (by decide +kernel)
theorem d_MM_begin_126 : decode y_MM_begin.2.1 126 = .ok (.invokevirtual 155, 3) := dc9_182 (by decide +kernel)
theorem d_MM_begin_129 : decode y_MM_begin.2.1 129 = .ok (.invokevirtual 401, 3) := dc9_182 (by decide +kernel)
theorem d_MM_begin_132 : decode y_MM_begin.2.1 132 = .ok (.return_, 1) := dc9_177 (by decide +kernel)
theorem d_MM_begin_88 : decode y_MM_begin.2.1 88 = .ok (.aload_n 0, 1) := dc9_42 (by decide +kernel)
theorem d_MM_begin_89 : decode y_MM_begin.2.1 89 = .ok (.aload_n 1, 1) := dc9_43 (by decide +kernel)
theorem d_MM_begin_90 : decode y_MM_begin.2.1 90 = .ok (.getfield 284, 3) := dc9_180 (by decide +kernel)
theorem d_MM_begin_93 : decode y_MM_begin.2.1 93 = .ok (.iload_n 2, 1) := dc9_28 (by decide +kernel)
theorem d_MM_begin_94 : decode y_MM_begin.2.1 94 = .ok (.invokevirtual 155, 3) := dc9_182 (by decide +kernel)
theorem d_MM_begin_97 : decode y_MM_begin.2.1 97 = .ok (.i2l, 1) := dc9_133 (by decide +kernel)
theorem d_MM_begin_98 : decode y_MM_begin.2.1 98 = .ok (.lconst 1, 1) := dc9_10 (by decide +kernel)
theorem d_MM_begin_99 : decode y_MM_begin.2.1 99 = .ok (.invokevirtual 373, 3) := dc9_182 (by decide +kernel)
theorem d_MM_begin_102 : decode y_MM_begin.2.1 102 = .ok (.return_, 1) := dc9_177 (by decide +kernel)
theorem d_MM_begin_103 : decode y_MM_begin.2.1 103 = .ok (.aload_n 0, 1) := dc9_42 (by decide +kernel)
theorem d_MM_begin_104 : decode y_MM_begin.2.1 104 = .ok (.iload_n 3, 1) := dc9_29 (by decide +kernel)
theorem d_MM_begin_105 : decode y_MM_begin.2.1 105 = .ok (.bipush 12, 2) := dc9_16 (by decide +kernel)
theorem d_MM_begin_107 : decode y_MM_begin.2.1 107 = .ok (.if_icmp .ne 7, 3) := dc9_160 (by decide +kernel)
theorem d_MM_begin_110 : decode y_MM_begin.2.1 110 = .ok (.iconst 1, 1) := dc9_4 (by decide +kernel)
theorem d_MM_begin_111 : decode y_MM_begin.2.1 111 = .ok (.goto 4, 3) := dc9_167 (by decide +kernel)
theorem d_MM_begin_114 : decode y_MM_begin.2.1 114 = .ok (.iconst 0, 1) := dc9_3 (by decide +kernel)
theorem d_MM_begin_115 : decode y_MM_begin.2.1 115 = .ok (.invokevirtual 397, 3) := dc9_182 (by decide +kernel)
theorem d_MM_begin_118 : decode y_MM_begin.2.1 118 = .ok (.return_, 1) := dc9_177 (by decide +kernel)
theorem d_MM_begin_133 : decode y_MM_begin.2.1 133 = .ok (.aload_n 0, 1) := dc9_42 (by decide +kernel)
theorem d_MM_begin_134 : decode y_MM_begin.2.1 134 = .ok (.iconst 2, 1) := dc9_5 (by decide +kernel)
theorem d_MM_begin_135 : decode y_MM_begin.2.1 135 = .ok (.iload_n 2, 1) := dc9_28 (by decide +kernel)
theorem d_MM_begin_136 : decode y_MM_begin.2.1 136 = .ok (.invokevirtual 385, 3) := dc9_182 (by decide +kernel)
theorem d_MM_begin_139 : decode y_MM_begin.2.1 139 = .ok (.aload_n 0, 1) := dc9_42 (by decide +kernel)
theorem d_MM_begin_140 : decode y_MM_begin.2.1 140 = .ok (.iconst 0, 1) := dc9_3 (by decide +kernel)
theorem d_MM_begin_141 : decode y_MM_begin.2.1 141 = .ok (.iload 4, 2) := dc9_21 (by decide +kernel)
theorem d_MM_begin_143 : decode y_MM_begin.2.1 143 = .ok (.invokevirtual 385, 3) := dc9_182 (by decide +kernel)
theorem d_MM_begin_146 : decode y_MM_begin.2.1 146 = .ok (.return_, 1) := dc9_177 (by decide +kernel)
theorem d_MM_begin_147 : decode y_MM_begin.2.1 147 = .ok (.aload_n 0, 1) := dc9_42 (by decide +kernel)
theorem d_MM_begin_148 : decode y_MM_begin.2.1 148 = .ok (.iconst 1, 1) := dc9_4 (by decide +kernel)
theorem d_MM_begin_149 : decode y_MM_begin.2.1 149 = .ok (.iload_n 2, 1) := dc9_28 (by decide +kernel)
theorem d_MM_begin_150 : decode y_MM_begin.2.1 150 = .ok (.invokevirtual 385, 3) := dc9_182 (by decide +kernel)
theorem d_MM_begin_153 : decode y_MM_begin.2.1 153 = .ok (.aload_n 0, 1) := dc9_42 (by decide +kernel)
theorem d_MM_begin_154 : decode y_MM_begin.2.1 154 = .ok (.getfield 70, 3) := dc9_180 (by decide +kernel)
theorem d_MM_begin_157 : decode y_MM_begin.2.1 157 = .ok (.getfield 145, 3) := dc9_180 (by decide +kernel)
theorem d_MM_begin_160 : decode y_MM_begin.2.1 160 = .ok (.istore 5, 2) := dc9_54 (by decide +kernel)
theorem d_MM_begin_162 : decode y_MM_begin.2.1 162 = .ok (.iload 4, 2) := dc9_21 (by decide +kernel)
theorem d_MM_begin_164 : decode y_MM_begin.2.1 164 = .ok (.istore 6, 2) := dc9_54 (by decide +kernel)
theorem d_MM_begin_166 : decode y_MM_begin.2.1 166 = .ok (.iload 6, 2) := dc9_21 (by decide +kernel)
theorem d_MM_begin_168 : decode y_MM_begin.2.1 168 = .ok (.ifCond .lt 24, 3) := dc9_155 (by decide +kernel)
theorem d_MM_begin_192 : decode y_MM_begin.2.1 192 = .ok (.aload_n 0, 1) := dc9_42 (by decide +kernel)
theorem d_MM_begin_193 : decode y_MM_begin.2.1 193 = .ok (.iload 5, 2) := dc9_21 (by decide +kernel)
theorem d_MM_begin_171 : decode y_MM_begin.2.1 171 = .ok (.aload_n 0, 1) := dc9_42 (by decide +kernel)
theorem d_MM_begin_172 : decode y_MM_begin.2.1 172 = .ok (.iconst 0, 1) := dc9_3 (by decide +kernel)
theorem d_MM_begin_173 : decode y_MM_begin.2.1 173 = .ok (.iload 6, 2) := dc9_21 (by decide +kernel)
theorem d_MM_begin_195 : decode y_MM_begin.2.1 195 = .ok (.invokevirtual 404, 3) := dc9_182 (by decide +kernel)
theorem d_MM_begin_198 : decode y_MM_begin.2.1 198 = .ok (.return_, 1) := dc9_177 (by decide +kernel)
theorem d_MM_begin_175 : decode y_MM_begin.2.1 175 = .ok (.invokevirtual 385, 3) := dc9_182 (by decide +kernel)
theorem d_MM_begin_178 : decode y_MM_begin.2.1 178 = .ok (.aload_n 1, 1) := dc9_43 (by decide +kernel)
theorem d_MM_begin_179 : decode y_MM_begin.2.1 179 = .ok (.getfield 290, 3) := dc9_180 (by decide +kernel)
theorem d_MM_begin_182 : decode y_MM_begin.2.1 182 = .ok (.iload 6, 2) := dc9_21 (by decide +kernel)
theorem d_MM_begin_184 : decode y_MM_begin.2.1 184 = .ok (.invokevirtual 155, 3) := dc9_182 (by decide +kernel)
theorem d_MM_begin_187 : decode y_MM_begin.2.1 187 = .ok (.istore 6, 2) := dc9_54 (by decide +kernel)
theorem d_MM_begin_189 : decode y_MM_begin.2.1 189 = .ok (.goto (-23), 3) := dc9_167 (by decide +kernel)
def h_MM_begin_166 (G : mG) (d : Nat) (a0 : Nat) (a1 : Nat) (l5 : Int) (l6 : Int) (M : mM) (Q : mM → Prop) : Prop := mWm G y_MM_begin (d + 1) 166 [vr a0, vr a1, vd, vd, vd, vi l5, vi l6] [] M (fun r9 M9 => r9 = none ∧ Q M9)
theorem k_MM_begin {G : mG} {d : Nat} {a0 : Nat} {a1 : Nat} {l2 : Int} {M : mM} {Q : mM → Prop} (hO : mOk M) (hi_l2 : i32 l2)
    (h : mK M a1 = 16 ∧ mK M (mR M a1 0) = 15 ∧ Ci G y_MN_at d [vr (mR M a1 0), vi l2] M (fun x4 M3 => i32 x4 ∧ mOk M3 ∧ (mK M3 a1 = 16 ∧ mK M3 (mR M3 a1 4) = 15 ∧ Ci G y_MN_at d [vr (mR M3 a1 4), vi l2] M3 (fun x9 M8 => i32 x9 ∧ mOk M8 ∧ (((x4 = 1) → (mK M8 a1 = 16 ∧ mK M8 (mR M8 a1 3) = 15 ∧ Ci G y_MN_at d [vr (mR M8 a1 3), vi l2] M8 (fun x15 M14 => i32 x15 ∧ mOk M14 ∧ (mK M14 a0 = 14 ∧ Cv G y_MM_name d [vr a0, vr a1, vi x15] M14 (fun M18 => mOk M18 ∧ (Q M18)))))) ∧ (¬ (x4 = 1) → (((x4 = 2) → (mK M8 a1 = 16 ∧ mK M8 (mR M8 a1 3) = 15 ∧ Ci G y_MN_at d [vr (mR M8 a1 3), vi l2] M8 (fun x25 M24 => i32 x25 ∧ mOk M24 ∧ (mK M24 a0 = 14 ∧ Cv G y_MM_push d [vr a0, vl x25, vl 1] M24 (fun M28 => mOk M28 ∧ (Q M28)))))) ∧ (¬ (x4 = 2) → (((x4 = 12 ∨ x4 = 13) → (∀ v33 : Int, v33 = (if (x4 = 12) then 1 else 0) → mK M8 a0 = 14 ∧ Cv G y_MM_pushTruth d [vr a0, vi v33] M8 (fun M39 => mOk M39 ∧ (Q M39)))) ∧ (¬ (x4 = 12 ∨ x4 = 13) → (((x4 = 29 ∨ x4 = 30 ∨ x4 = 32) → (mK M8 a0 = 14 ∧ Cv G y_MM_todo d [vr a0, vi 2, vi l2] M8 (fun M45 => mOk M45 ∧ (mK M45 a0 = 14 ∧ Cv G y_MM_todo d [vr a0, vi 0, vi x9] M45 (fun M49 => mOk M49 ∧ (Q M49)))))) ∧ (¬ (x4 = 29 ∨ x4 = 30 ∨ x4 = 32) → (mK M8 a0 = 14 ∧ Cv G y_MM_todo d [vr a0, vi 1, vi l2] M8 (fun M53 => mOk M53 ∧ (mK M53 a0 = 14 ∧ mK M53 (mR M53 a0 24) = 15 ∧ h_MM_begin_166 G d a0 a1 (mI M53 (mR M53 a0 24) 1) x9 M53 Q))))))))))))))) :
    Cv G y_MM_begin (d + 1) [vr a0, vr a1, vi l2] M Q := by
  refine wm_open (y := y_MM_begin) rfl (Nat.le_of_ble_eq_true rfl) (L := [vr a0, vr a1, vi l2, vd, vd, vd, vd]) rfl ?_
  obtain ⟨h1, h⟩ := h
  obtain ⟨h2, h⟩ := h
  refine wm_aload_n d_MM_begin_0 rfl rfl ?_
  refine gf_MM_273 rfl d_MM_begin_1 h1 ?_
  refine wm_iload_n d_MM_begin_4 rfl rfl ?_
  refine cf_MM_155 rfl d_MM_begin_5 h2 (Nat.le_of_ble_eq_true rfl) (Ci.mono h (fun x4 M3 h => ?_))
  obtain ⟨h5, hOM3, h⟩ := h
  obtain ⟨h6, h⟩ := h
  obtain ⟨h7, h⟩ := h
  refine wm_istore_n d_MM_begin_8 rfl (by decide) (L' := [vr a0, vr a1, vi l2, vi x4, vd, vd, vd]) rfl ?_
  refine wm_aload_n d_MM_begin_9 rfl rfl ?_
  refine gf_MM_287 rfl d_MM_begin_10 h6 ?_
  refine wm_iload_n d_MM_begin_13 rfl rfl ?_
  refine cf_MM_155 rfl d_MM_begin_14 h7 (Nat.le_of_ble_eq_true rfl) (Ci.mono h (fun x9 M8 h => ?_))
  obtain ⟨h10, hOM8, h⟩ := h
  refine wm_istore d_MM_begin_17 (by decide) (L' := [vr a0, vr a1, vi l2, vi x4, vi x9, vd, vd]) rfl ?_
  refine wm_iload_n d_MM_begin_19 rfl rfl ?_
  by_cases c11 : x4 = 1
  · replace h := h.1 c11
    refine wm_lookup (tgt := 119) (off := 99) d_MM_begin_20 z_MM_begin_20_s h5 (by rw [c11]; rfl) rfl ?_
    obtain ⟨h12, h⟩ := h
    obtain ⟨h13, h⟩ := h
    refine wm_aload_n d_MM_begin_119 rfl rfl ?_
    refine wm_aload_n d_MM_begin_120 rfl rfl ?_
    refine wm_aload_n d_MM_begin_121 rfl rfl ?_
    refine gf_MM_284 rfl d_MM_begin_122 h12 ?_
    refine wm_iload_n d_MM_begin_125 rfl rfl ?_
    refine cf_MM_155 rfl d_MM_begin_126 h13 (Nat.le_of_ble_eq_true rfl) (Ci.mono h (fun x15 M14 h => ?_))
    obtain ⟨h16, hOM14, h⟩ := h
    obtain ⟨h17, h⟩ := h
    refine cf_MM_401 rfl d_MM_begin_129 h17 (Nat.le_of_ble_eq_true rfl) (Cv.mono h (fun M18 h => ?_))
    obtain ⟨hOM18, h⟩ := h
    refine wm_return d_MM_begin_132 rfl ?_
    exact ⟨rfl, h⟩
  · replace h := h.2 c11
    by_cases c21 : x4 = 2
    · replace h := h.1 c21
      refine wm_lookup (tgt := 88) (off := 68) d_MM_begin_20 z_MM_begin_20_s h5 (by rw [c21]; rfl) rfl ?_
      obtain ⟨h22, h⟩ := h
      obtain ⟨h23, h⟩ := h
      refine wm_aload_n d_MM_begin_88 rfl rfl ?_
      refine wm_aload_n d_MM_begin_89 rfl rfl ?_
      refine gf_MM_284 rfl d_MM_begin_90 h22 ?_
      refine wm_iload_n d_MM_begin_93 rfl rfl ?_
      refine cf_MM_155 rfl d_MM_begin_94 h23 (Nat.le_of_ble_eq_true rfl) (Ci.mono h (fun x25 M24 h => ?_))
      obtain ⟨h26, hOM24, h⟩ := h
      obtain ⟨h27, h⟩ := h
      refine wm_i2l d_MM_begin_97 h26 ?_
      refine wm_lconst (x := 1) d_MM_begin_98 rfl ?_
      refine cf_MM_373 rfl d_MM_begin_99 h27 (Nat.le_of_ble_eq_true rfl) (Cv.mono h (fun M28 h => ?_))
      obtain ⟨hOM28, h⟩ := h
      refine wm_return d_MM_begin_102 rfl ?_
      exact ⟨rfl, h⟩
    · replace h := h.2 c21
      by_cases c31 : x4 = 12 ∨ x4 = 13
      · replace h := h.1 c31
        refine wm_lookup (tgt := 103) (off := 83) d_MM_begin_20 z_MM_begin_20_s h5 (by rcases c31 with q9 | q9 <;> (rw [q9]; rfl)) rfl ?_
        refine wm_aload_n d_MM_begin_103 rfl rfl ?_
        refine wm_iload_n d_MM_begin_104 rfl rfl ?_
        refine wm_bipush d_MM_begin_105 (by decide) ?_
        have hJ : ∀ v33 : Int, v33 = (if (x4 = 12) then 1 else 0) → mWm G y_MM_begin (d + 1) 115 [vd, vd, vd, vd, vd, vd, vd] [vi v33, vr a0] M8 (fun r9 M9 => r9 = none ∧ Q M9) := by
          intro v33 e35
          have h := h v33 e35
          have h36 : i32 v33 := by rw [e35]; (repeat' split) <;> first | exact ⟨by decide, by decide⟩ | exact ⟨by decide, by decide⟩
          have h37 : (v33 = 0 ∨ v33 = 1) := by rw [e35]; (repeat' split) <;> decide
          obtain ⟨h38, h⟩ := h
          refine cf_MM_397 rfl d_MM_begin_115 h38 (Nat.le_of_ble_eq_true rfl) (Cv.mono h (fun M39 h => ?_))
          obtain ⟨hOM39, h⟩ := h
          refine wm_return d_MM_begin_118 rfl ?_
          exact ⟨rfl, h⟩
        clear h
        refine wm_icmp_ne (tgt := 114) d_MM_begin_107 rfl h5 ⟨by decide, by decide⟩ (fun c32 => ?_) (fun c32 => ?_)
        · refine wm_iconst d_MM_begin_114 ?_
          refine wm_less (L' := [vd, vd, vd, vd, vd, vd, vd]) ⟨Or.inl rfl, Or.inl rfl, Or.inl rfl, Or.inl rfl, Or.inl rfl, Or.inl rfl, Or.inl rfl, trivial⟩ ?_
          exact hJ 0 (if_neg c32).symm
        · replace c32 := Classical.not_not.mp c32
          refine wm_iconst d_MM_begin_110 ?_
          refine wm_goto (tgt := 115) d_MM_begin_111 rfl ?_
          refine wm_less (L' := [vd, vd, vd, vd, vd, vd, vd]) ⟨Or.inl rfl, Or.inl rfl, Or.inl rfl, Or.inl rfl, Or.inl rfl, Or.inl rfl, Or.inl rfl, trivial⟩ ?_
          exact hJ 1 (if_pos c32).symm
      · replace h := h.2 c31
        by_cases c43 : x4 = 29 ∨ x4 = 30 ∨ x4 = 32
        · replace h := h.1 c43
          refine wm_lookup (tgt := 133) (off := 113) d_MM_begin_20 z_MM_begin_20_s h5 (by rcases c43 with q9 | q9 | q9 <;> (rw [q9]; rfl)) rfl ?_
          obtain ⟨h44, h⟩ := h
          refine wm_aload_n d_MM_begin_133 rfl rfl ?_
          refine wm_iconst d_MM_begin_134 ?_
          refine wm_iload_n d_MM_begin_135 rfl rfl ?_
          refine cf_MM_385 rfl d_MM_begin_136 h44 (Nat.le_of_ble_eq_true rfl) (Cv.mono h (fun M45 h => ?_))
          obtain ⟨hOM45, h⟩ := h
          obtain ⟨h48, h⟩ := h
          refine wm_aload_n d_MM_begin_139 rfl rfl ?_
          refine wm_iconst d_MM_begin_140 ?_
          refine wm_iload d_MM_begin_141 rfl ?_
          refine cf_MM_385 rfl d_MM_begin_143 h48 (Nat.le_of_ble_eq_true rfl) (Cv.mono h (fun M49 h => ?_))
          obtain ⟨hOM49, h⟩ := h
          refine wm_return d_MM_begin_146 rfl ?_
          exact ⟨rfl, h⟩
        · replace h := h.2 c43
          refine wm_lookup (tgt := 147) (off := 127) d_MM_begin_20 z_MM_begin_20_s h5 (by simp [Op.lookupswitch.offset]; repeat rw [if_neg (by omega)]) rfl ?_
          obtain ⟨h52, h⟩ := h
          refine wm_aload_n d_MM_begin_147 rfl rfl ?_
          refine wm_iconst d_MM_begin_148 ?_
          refine wm_iload_n d_MM_begin_149 rfl rfl ?_
          refine cf_MM_385 rfl d_MM_begin_150 h52 (Nat.le_of_ble_eq_true rfl) (Cv.mono h (fun M53 h => ?_))
          obtain ⟨hOM53, h⟩ := h
          obtain ⟨h56, h⟩ := h
          obtain ⟨h57, h⟩ := h
          refine wm_aload_n d_MM_begin_153 rfl rfl ?_
          refine gf_MM_70 rfl d_MM_begin_154 h56 ?_
          refine gf_MM_145 rfl d_MM_begin_157 h57 ?_
          refine wm_istore d_MM_begin_160 (by decide) (L' := [vr a0, vr a1, vi l2, vi x4, vi x9, vi (mI M53 (mR M53 a0 24) 1), vd]) rfl ?_
          refine wm_iload d_MM_begin_162 rfl ?_
          refine wm_istore d_MM_begin_164 (by decide) (L' := [vr a0, vr a1, vi l2, vi x4, vi x9, vi (mI M53 (mR M53 a0 24) 1), vi x9]) rfl ?_
          refine wm_less (L' := [vr a0, vr a1, vd, vd, vd, vi (mI M53 (mR M53 a0 24) 1), vi x9]) ⟨Or.inr rfl, Or.inr rfl, Or.inl rfl, Or.inl rfl, Or.inl rfl, Or.inr rfl, Or.inr rfl, trivial⟩ ?_
          exact h
theorem k_MM_begin_166 {G : mG} {d : Nat} {a0 : Nat} {a1 : Nat} {l5 : Int} {l6 : Int} {M : mM} {Q : mM → Prop} (hO : mOk M) (hi_l5 : i32 l5) (hi_l6 : i32 l6)
    (h : ((l6 < 0) → (mK M a0 = 14 ∧ Cv G y_MM_turnTodo d [vr a0, vi l5] M (fun M61 => mOk M61 ∧ (Q M61)))) ∧ (¬ (l6 < 0) → (mK M a0 = 14 ∧ Cv G y_MM_todo d [vr a0, vi 0, vi l6] M (fun M65 => mOk M65 ∧ (mK M65 a1 = 16 ∧ mK M65 (mR M65 a1 5) = 15 ∧ Ci G y_MN_at d [vr (mR M65 a1 5), vi l6] M65 (fun x71 M70 => i32 x71 ∧ mOk M70 ∧ (h_MM_begin_166 G d a0 a1 l5 x71 M70 Q))))))) :
    h_MM_begin_166 G d a0 a1 l5 l6 M Q := by
  unfold h_MM_begin_166
  refine wm_iload d_MM_begin_166 rfl ?_
  refine wm_if_lt (tgt := 192) d_MM_begin_168 rfl hi_l6 (fun c59 => ?_) (fun c59 => ?_)
  · replace h := h.1 c59
    obtain ⟨h60, h⟩ := h
    refine wm_aload_n d_MM_begin_192 rfl rfl ?_
    refine wm_iload d_MM_begin_193 rfl ?_
    refine cf_MM_404 rfl d_MM_begin_195 h60 (Nat.le_of_ble_eq_true rfl) (Cv.mono h (fun M61 h => ?_))
    obtain ⟨hOM61, h⟩ := h
    refine wm_return d_MM_begin_198 rfl ?_
    exact ⟨rfl, h⟩
  · replace h := h.2 c59
    obtain ⟨h64, h⟩ := h
    refine wm_aload_n d_MM_begin_171 rfl rfl ?_
    refine wm_iconst d_MM_begin_172 ?_
    refine wm_iload d_MM_begin_173 rfl ?_
    refine cf_MM_385 rfl d_MM_begin_175 h64 (Nat.le_of_ble_eq_true rfl) (Cv.mono h (fun M65 h => ?_))
    obtain ⟨hOM65, h⟩ := h
    obtain ⟨h68, h⟩ := h
    obtain ⟨h69, h⟩ := h
    refine wm_aload_n d_MM_begin_178 rfl rfl ?_
    refine gf_MM_290 rfl d_MM_begin_179 h68 ?_
    refine wm_iload d_MM_begin_182 rfl ?_
    refine cf_MM_155 rfl d_MM_begin_184 h69 (Nat.le_of_ble_eq_true rfl) (Ci.mono h (fun x71 M70 h => ?_))
    obtain ⟨h72, hOM70, h⟩ := h
    refine wm_istore d_MM_begin_187 (by decide) (L' := [vr a0, vr a1, vd, vd, vd, vi l5, vi x71]) rfl ?_
    refine wm_goto (tgt := 166) d_MM_begin_189 rfl ?_
    exact h
theorem d_MM_turnTodo_0 : decode y_MM_turnTodo.2.1 0 = .ok (.iload_n 1, 1) := dc9_27 (by decide +kernel)
theorem d_MM_turnTodo_1 : decode y_MM_turnTodo.2.1 1 = .ok (.istore_n 2, 1) := dc9_61 (by decide +kernel)
theorem d_MM_turnTodo_2 : decode y_MM_turnTodo.2.1 2 = .ok (.aload_n 0, 1) := dc9_42 (by decide +kernel)
theorem d_MM_turnTodo_3 : decode y_MM_turnTodo.2.1 3 = .ok (.getfield 70, 3) := dc9_180 (by decide +kernel)
theorem d_MM_turnTodo_6 : decode y_MM_turnTodo.2.1 6 = .ok (.getfield 145, 3) := dc9_180 (by decide +kernel)
theorem d_MM_turnTodo_9 : decode y_MM_turnTodo.2.1 9 = .ok (.iconst 2, 1) := dc9_5 (by decide +kernel)
theorem d_MM_turnTodo_10 : decode y_MM_turnTodo.2.1 10 = .ok (.isub, 1) := dc9_100 (by decide +kernel)
theorem d_MM_turnTodo_11 : decode y_MM_turnTodo.2.1 11 = .ok (.istore_n 3, 1) := dc9_62 (by decide +kernel)
theorem d_MM_turnTodo_12 : decode y_MM_turnTodo.2.1 12 = .ok (.iload_n 2, 1) := dc9_28 (by decide +kernel)
theorem d_MM_turnTodo_13 : decode y_MM_turnTodo.2.1 13 = .ok (.iload_n 3, 1) := dc9_29 (by decide +kernel)
theorem d_MM_turnTodo_14 : decode y_MM_turnTodo.2.1 14 = .ok (.if_icmp .ge 60, 3) := dc9_162 (by decide +kernel)
theorem d_MM_turnTodo_74 : decode y_MM_turnTodo.2.1 74 = .ok (.return_, 1) := dc9_177 (by decide +kernel)
theorem d_MM_turnTodo_17 : decode y_MM_turnTodo.2.1 17 = .ok (.aload_n 0, 1) := dc9_42 (by decide +kernel)
theorem d_MM_turnTodo_18 : decode y_MM_turnTodo.2.1 18 = .ok (.getfield 70, 3) := dc9_180 (by decide +kernel)
theorem d_MM_turnTodo_21 : decode y_MM_turnTodo.2.1 21 = .ok (.iload_n 2, 1) := dc9_28 (by decide +kernel)
theorem d_MM_turnTodo_22 : decode y_MM_turnTodo.2.1 22 = .ok (.iconst 1, 1) := dc9_4 (by decide +kernel)
theorem d_MM_turnTodo_23 : decode y_MM_turnTodo.2.1 23 = .ok (.iadd, 1) := dc9_96 (by decide +kernel)
theorem d_MM_turnTodo_24 : decode y_MM_turnTodo.2.1 24 = .ok (.invokevirtual 155, 3) := dc9_182 (by decide +kernel)
theorem d_MM_turnTodo_27 : decode y_MM_turnTodo.2.1 27 = .ok (.istore 4, 2) := dc9_54 (by decide +kernel)
theorem d_MM_turnTodo_29 : decode y_MM_turnTodo.2.1 29 = .ok (.aload_n 0, 1) := dc9_42 (by decide +kernel)
theorem d_MM_turnTodo_30 : decode y_MM_turnTodo.2.1 30 = .ok (.getfield 70, 3) := dc9_180 (by decide +kernel)
theorem d_MM_turnTodo_33 : decode y_MM_turnTodo.2.1 33 = .ok (.getfield 293, 3) := dc9_180 (by decide +kernel)
theorem d_MM_turnTodo_36 : decode y_MM_turnTodo.2.1 36 = .ok (.iload_n 2, 1) := dc9_28 (by decide +kernel)
theorem d_MM_turnTodo_37 : decode y_MM_turnTodo.2.1 37 = .ok (.iconst 1, 1) := dc9_4 (by decide +kernel)
theorem d_MM_turnTodo_38 : decode y_MM_turnTodo.2.1 38 = .ok (.iadd, 1) := dc9_96 (by decide +kernel)
theorem d_MM_turnTodo_39 : decode y_MM_turnTodo.2.1 39 = .ok (.aload_n 0, 1) := dc9_42 (by decide +kernel)
theorem d_MM_turnTodo_40 : decode y_MM_turnTodo.2.1 40 = .ok (.getfield 70, 3) := dc9_180 (by decide +kernel)
theorem d_MM_turnTodo_43 : decode y_MM_turnTodo.2.1 43 = .ok (.iload_n 3, 1) := dc9_29 (by decide +kernel)
theorem d_MM_turnTodo_44 : decode y_MM_turnTodo.2.1 44 = .ok (.iconst 1, 1) := dc9_4 (by decide +kernel)
theorem d_MM_turnTodo_45 : decode y_MM_turnTodo.2.1 45 = .ok (.iadd, 1) := dc9_96 (by decide +kernel)
theorem d_MM_turnTodo_46 : decode y_MM_turnTodo.2.1 46 = .ok (.invokevirtual 155, 3) := dc9_182 (by decide +kernel)
theorem d_MM_turnTodo_49 : decode y_MM_turnTodo.2.1 49 = .ok (.iastore, 1) := dc9_79 (by decide +kernel)
theorem d_MM_turnTodo_50 : decode y_MM_turnTodo.2.1 50 = .ok (.aload_n 0, 1) := dc9_42 (by decide +kernel)
theorem d_MM_turnTodo_51 : decode y_MM_turnTodo.2.1 51 = .ok (.getfield 70, 3) := dc9_180 (by decide +kernel)
theorem d_MM_turnTodo_54 : decode y_MM_turnTodo.2.1 54 = .ok (.getfield 293, 3) := dc9_180 (by decide +kernel)
theorem d_MM_turnTodo_57 : decode y_MM_turnTodo.2.1 57 = .ok (.iload_n 3, 1) := dc9_29 (by decide +kernel)
theorem d_MM_turnTodo_58 : decode y_MM_turnTodo.2.1 58 = .ok (.iconst 1, 1) := dc9_4 (by decide +kernel)
theorem d_MM_turnTodo_59 : decode y_MM_turnTodo.2.1 59 = .ok (.iadd, 1) := dc9_96 (by decide +kernel)
theorem d_MM_turnTodo_60 : decode y_MM_turnTodo.2.1 60 = .ok (.iload 4, 2) := dc9_21 (by decide +kernel)
theorem d_MM_turnTodo_62 : decode y_MM_turnTodo.2.1 62 = .ok (.iastore, 1) := dc9_79 (by decide +kernel)
theorem d_MM_turnTodo_63 : decode y_MM_turnTodo.2.1 63 = .ok (.iload_n 2, 1) := dc9_28 (by decide +kernel)
theorem d_MM_turnTodo_64 : decode y_MM_turnTodo.2.1 64 = .ok (.iconst 2, 1) := dc9_5 (by decide +kernel)
theorem d_MM_turnTodo_65 : decode y_MM_turnTodo.2.1 65 = .ok (.iadd, 1) := dc9_96 (by decide +kernel)
theorem d_MM_turnTodo_66 : decode y_MM_turnTodo.2.1 66 = .ok (.istore_n 2, 1) := dc9_61 (by decide +kernel)
theorem d_MM_turnTodo_67 : decode y_MM_turnTodo.2.1 67 = .ok (.iload_n 3, 1) := dc9_29 (by decide +kernel)
theorem d_MM_turnTodo_68 : decode y_MM_turnTodo.2.1 68 = .ok (.iconst 2, 1) := dc9_5 (by decide +kernel)
theorem d_MM_turnTodo_69 : decode y_MM_turnTodo.2.1 69 = .ok (.isub, 1) := dc9_100 (by decide +kernel)
theorem d_MM_turnTodo_70 : decode y_MM_turnTodo.2.1 70 = .ok (.istore_n 3, 1) := dc9_62 (by decide +kernel)
theorem d_MM_turnTodo_71 : decode y_MM_turnTodo.2.1 71 = .ok (.goto (-59), 3) := dc9_167 (by decide +kernel)
def h_MM_turnTodo_12 (G : mG) (d : Nat) (a0 : Nat) (l2 : Int) (l3 : Int) (M : mM) (Q : mM → Prop) : Prop := mWm G y_MM_turnTodo (d + 1) 12 [vr a0, vd, vi l2, vi l3, vd] [] M (fun r9 M9 => r9 = none ∧ Q M9)
theorem k_MM_turnTodo {G : mG} {d : Nat} {a0 : Nat} {l1 : Int} {M : mM} {Q : mM → Prop} (hO : mOk M) (hi_l1 : i32 l1)
    (h : mK M a0 = 14 ∧ mK M (mR M a0 24) = 15 ∧ h_MM_turnTodo_12 G d a0 l1 ((mI M (mR M a0 24) 1) - 2) M Q) :
    Cv G y_MM_turnTodo (d + 1) [vr a0, vi l1] M Q := by
  refine wm_open (y := y_MM_turnTodo) rfl (Nat.le_of_ble_eq_true rfl) (L := [vr a0, vi l1, vd, vd, vd]) rfl ?_
  obtain ⟨h1, h⟩ := h
  obtain ⟨h2, h⟩ := h
  refine wm_iload_n d_MM_turnTodo_0 rfl rfl ?_
  refine wm_istore_n d_MM_turnTodo_1 rfl (by decide) (L' := [vr a0, vi l1, vi l1, vd, vd]) rfl ?_
  refine wm_aload_n d_MM_turnTodo_2 rfl rfl ?_
  refine gf_MM_70 rfl d_MM_turnTodo_3 h1 ?_
  refine gf_MM_145 rfl d_MM_turnTodo_6 h2 ?_
  refine wm_iconst d_MM_turnTodo_9 ?_
  refine wm_isub d_MM_turnTodo_10 ?_
  refine wm_istore_n d_MM_turnTodo_11 rfl (by decide) (L' := [vr a0, vi l1, vi l1, vi ((mI M (mR M a0 24) 1) - 2), vd]) rfl ?_
  refine wm_less (L' := [vr a0, vd, vi l1, vi ((mI M (mR M a0 24) 1) - 2), vd]) ⟨Or.inr rfl, Or.inl rfl, Or.inr rfl, Or.inr rfl, Or.inl rfl, trivial⟩ ?_
  exact h
theorem k_MM_turnTodo_12 {G : mG} {d : Nat} {a0 : Nat} {l2 : Int} {l3 : Int} {M : mM} {Q : mM → Prop} (hO : mOk M) (hi_l2 : i32 l2) (hi_l3 : i32 l3)
    (h : ((l3 ≤ l2) → (Q M)) ∧ (¬ (l3 ≤ l2) → (mK M a0 = 14 ∧ mK M (mR M a0 24) = 15 ∧ Ci G y_MN_at d [vr (mR M a0 24), vi (l2 + 1)] M (fun x8 M7 => i32 x8 ∧ mOk M7 ∧ (mK M7 a0 = 14 ∧ mK M7 (mR M7 a0 24) = 15 ∧ Ci G y_MN_at d [vr (mR M7 a0 24), vi (l3 + 1)] M7 (fun x13 M12 => i32 x13 ∧ mOk M12 ∧ (mK M12 (mR M7 (mR M7 a0 24) 0) = 30 ∧ ((0 : Int) ≤ l2 + 1 ∧ l2 + 1 < (mN M12 (mR M7 (mR M7 a0 24) 0) : Int)) ∧ ∀ M17, M17 = mUI M12 (mR M7 (mR M7 a0 24) 0) (Int.toNat (l2 + 1)) x13 → mK M17 a0 = 14 ∧ mK M17 (mR M17 a0 24) = 15 ∧ mK M17 (mR M17 (mR M17 a0 24) 0) = 30 ∧ ((0 : Int) ≤ l3 + 1 ∧ l3 + 1 < (mN M17 (mR M17 (mR M17 a0 24) 0) : Int)) ∧ ∀ M23, M23 = mUI M17 (mR M17 (mR M17 a0 24) 0) (Int.toNat (l3 + 1)) x8 → h_MM_turnTodo_12 G d a0 (l2 + 2) (l3 - 2) M23 Q))))))) :
    h_MM_turnTodo_12 G d a0 l2 l3 M Q := by
  unfold h_MM_turnTodo_12
  refine wm_iload_n d_MM_turnTodo_12 rfl rfl ?_
  refine wm_iload_n d_MM_turnTodo_13 rfl rfl ?_
  refine wm_icmp_ge (tgt := 74) d_MM_turnTodo_14 rfl hi_l2 hi_l3 (fun c4 => ?_) (fun c4 => ?_)
  · replace h := h.1 c4
    refine wm_return d_MM_turnTodo_74 rfl ?_
    exact ⟨rfl, h⟩
  · replace h := h.2 c4
    obtain ⟨h5, h⟩ := h
    obtain ⟨h6, h⟩ := h
    refine wm_aload_n d_MM_turnTodo_17 rfl rfl ?_
    refine gf_MM_70 rfl d_MM_turnTodo_18 h5 ?_
    refine wm_iload_n d_MM_turnTodo_21 rfl rfl ?_
    refine wm_iconst d_MM_turnTodo_22 ?_
    refine wm_iadd d_MM_turnTodo_23 ?_
    refine cf_MM_155 rfl d_MM_turnTodo_24 h6 (Nat.le_of_ble_eq_true rfl) (Ci.mono h (fun x8 M7 h => ?_))
    obtain ⟨h9, hOM7, h⟩ := h
    obtain ⟨h10, h⟩ := h
    obtain ⟨h11, h⟩ := h
    refine wm_istore d_MM_turnTodo_27 (by decide) (L' := [vr a0, vd, vi l2, vi l3, vi x8]) rfl ?_
    refine wm_aload_n d_MM_turnTodo_29 rfl rfl ?_
    refine gf_MM_70 rfl d_MM_turnTodo_30 h10 ?_
    refine gf_MM_293 rfl d_MM_turnTodo_33 h11 ?_
    refine wm_iload_n d_MM_turnTodo_36 rfl rfl ?_
    refine wm_iconst d_MM_turnTodo_37 ?_
    refine wm_iadd d_MM_turnTodo_38 ?_
    refine wm_aload_n d_MM_turnTodo_39 rfl rfl ?_
    refine gf_MM_70 rfl d_MM_turnTodo_40 h10 ?_
    refine wm_iload_n d_MM_turnTodo_43 rfl rfl ?_
    refine wm_iconst d_MM_turnTodo_44 ?_
    refine wm_iadd d_MM_turnTodo_45 ?_
    refine cf_MM_155 rfl d_MM_turnTodo_46 h11 (Nat.le_of_ble_eq_true rfl) (Ci.mono h (fun x13 M12 h => ?_))
    obtain ⟨h14, hOM12, h⟩ := h
    obtain ⟨h15, h⟩ := h
    obtain ⟨h16, h⟩ := h
    obtain ⟨M17, e18⟩ : ∃ M17, M17 = mUI M12 (mR M7 (mR M7 a0 24) 0) (Int.toNat (l2 + 1)) x13 := ⟨_, rfl⟩
    replace h := h M17 e18
    obtain ⟨h19, h⟩ := h
    obtain ⟨h20, h⟩ := h
    obtain ⟨h21, h⟩ := h
    obtain ⟨h22, h⟩ := h
    obtain ⟨M23, e24⟩ : ∃ M23, M23 = mUI M17 (mR M17 (mR M17 a0 24) 0) (Int.toNat (l3 + 1)) x8 := ⟨_, rfl⟩
    replace h := h M23 e24
    have hOM17 : mOk M17 := by rw [e18]; exact mOk_UI hOM12 h14
    refine wm_iastE d_MM_turnTodo_49 h15 h16 h14 e18 ?_
    refine wm_aload_n d_MM_turnTodo_50 rfl rfl ?_
    refine gf_MM_70 rfl d_MM_turnTodo_51 h19 ?_
    refine gf_MM_293 rfl d_MM_turnTodo_54 h20 ?_
    refine wm_iload_n d_MM_turnTodo_57 rfl rfl ?_
    refine wm_iconst d_MM_turnTodo_58 ?_
    refine wm_iadd d_MM_turnTodo_59 ?_
    refine wm_iload d_MM_turnTodo_60 rfl ?_
    have hOM23 : mOk M23 := by rw [e24]; exact mOk_UI hOM17 h9
    refine wm_iastE d_MM_turnTodo_62 h21 h22 h9 e24 ?_
    refine wm_iload_n d_MM_turnTodo_63 rfl rfl ?_
    refine wm_iconst d_MM_turnTodo_64 ?_
    refine wm_iadd d_MM_turnTodo_65 ?_
    refine wm_istore_n d_MM_turnTodo_66 rfl (by decide) (L' := [vr a0, vd, vi (l2 + 2), vi l3, vi x8]) rfl ?_
    refine wm_iload_n d_MM_turnTodo_67 rfl rfl ?_
    refine wm_iconst d_MM_turnTodo_68 ?_
    refine wm_isub d_MM_turnTodo_69 ?_
    refine wm_istore_n d_MM_turnTodo_70 rfl (by decide) (L' := [vr a0, vd, vi (l2 + 2), vi (l3 - 2), vi x8]) rfl ?_
    refine wm_goto (tgt := 12) d_MM_turnTodo_71 rfl ?_
    refine wm_less (L' := [vr a0, vd, vi (l2 + 2), vi (l3 - 2), vd]) ⟨Or.inr rfl, Or.inl rfl, Or.inr rfl, Or.inr rfl, Or.inl rfl, trivial⟩ ?_
    exact h
end
