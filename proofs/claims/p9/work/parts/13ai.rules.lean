theorem d_MM_commandItem_0 : decode y_MM_commandItem.2.1 0 = .ok (.aload_n 0, 1) := by decide +kernel
theorem d_MM_commandItem_1 : decode y_MM_commandItem.2.1 1 = .ok (.getfield 38, 3) := by decide +kernel
theorem d_MM_commandItem_4 : decode y_MM_commandItem.2.1 4 = .ok (.getfield 474, 3) := by decide +kernel
theorem d_MM_commandItem_7 : decode y_MM_commandItem.2.1 7 = .ok (.bipush 60, 2) := by decide +kernel
theorem d_MM_commandItem_9 : decode y_MM_commandItem.2.1 9 = .ok (.if_icmp .ne 14, 3) := by decide +kernel
theorem d_MM_commandItem_12 : decode y_MM_commandItem.2.1 12 = .ok (.aload_n 0, 1) := by decide +kernel
theorem d_MM_commandItem_13 : decode y_MM_commandItem.2.1 13 = .ok (.iconst 5, 1) := by decide +kernel
theorem d_MM_commandItem_14 : decode y_MM_commandItem.2.1 14 = .ok (.aload_n 0, 1) := by decide +kernel
theorem d_MM_commandItem_15 : decode y_MM_commandItem.2.1 15 = .ok (.iload_n 1, 1) := by decide +kernel
theorem d_MM_commandItem_23 : decode y_MM_commandItem.2.1 23 = .ok (.aload_n 0, 1) := by decide +kernel
theorem d_MM_commandItem_24 : decode y_MM_commandItem.2.1 24 = .ok (.getfield 38, 3) := by decide +kernel
theorem d_MM_commandItem_27 : decode y_MM_commandItem.2.1 27 = .ok (.getfield 474, 3) := by decide +kernel
theorem d_MM_commandItem_30 : decode y_MM_commandItem.2.1 30 = .ok (.istore_n 3, 1) := by decide +kernel
theorem d_MM_commandItem_31 : decode y_MM_commandItem.2.1 31 = .ok (.aload_n 0, 1) := by decide +kernel
theorem d_MM_commandItem_32 : decode y_MM_commandItem.2.1 32 = .ok (.iload_n 1, 1) := by decide +kernel
theorem d_MM_commandItem_33 : decode y_MM_commandItem.2.1 33 = .ok (.iconst 1, 1) := by decide +kernel
theorem d_MM_commandItem_34 : decode y_MM_commandItem.2.1 34 = .ok (.iadd, 1) := by decide +kernel
theorem d_MM_commandItem_35 : decode y_MM_commandItem.2.1 35 = .ok (.bipush 17, 2) := by decide +kernel
theorem d_MM_commandItem_16 : decode y_MM_commandItem.2.1 16 = .ok (.invokevirtual 279, 3) := by decide +kernel
theorem d_MM_commandItem_19 : decode y_MM_commandItem.2.1 19 = .ok (.invokevirtual 351, 3) := by decide +kernel
theorem d_MM_commandItem_22 : decode y_MM_commandItem.2.1 22 = .ok (.return_, 1) := by decide +kernel
theorem d_MM_commandItem_37 : decode y_MM_commandItem.2.1 37 = .ok (.invokevirtual 430, 3) := by decide +kernel
theorem d_MM_commandItem_40 : decode y_MM_commandItem.2.1 40 = .ok (.istore 4, 2) := by decide +kernel
theorem d_MM_commandItem_42 : decode y_MM_commandItem.2.1 42 = .ok (.aload_n 0, 1) := by decide +kernel
theorem d_MM_commandItem_43 : decode y_MM_commandItem.2.1 43 = .ok (.getfield 38, 3) := by decide +kernel
theorem d_MM_commandItem_46 : decode y_MM_commandItem.2.1 46 = .ok (.getfield 477, 3) := by decide +kernel
theorem d_MM_commandItem_49 : decode y_MM_commandItem.2.1 49 = .ok (.iload_n 3, 1) := by decide +kernel
theorem d_MM_commandItem_50 : decode y_MM_commandItem.2.1 50 = .ok (.aload_n 0, 1) := by decide +kernel
theorem d_MM_commandItem_51 : decode y_MM_commandItem.2.1 51 = .ok (.iload_n 1, 1) := by decide +kernel
theorem d_MM_commandItem_52 : decode y_MM_commandItem.2.1 52 = .ok (.invokevirtual 302, 3) := by decide +kernel
theorem d_MM_commandItem_55 : decode y_MM_commandItem.2.1 55 = .ok (.bipush 8, 2) := by decide +kernel
theorem d_MM_commandItem_57 : decode y_MM_commandItem.2.1 57 = .ok (.if_icmp .ne 7, 3) := by decide +kernel
theorem d_MM_commandItem_60 : decode y_MM_commandItem.2.1 60 = .ok (.iconst 1, 1) := by decide +kernel
theorem d_MM_commandItem_61 : decode y_MM_commandItem.2.1 61 = .ok (.goto 4, 3) := by decide +kernel
theorem d_MM_commandItem_64 : decode y_MM_commandItem.2.1 64 = .ok (.iconst 0, 1) := by decide +kernel
theorem d_MM_commandItem_65 : decode y_MM_commandItem.2.1 65 = .ok (.bastore, 1) := by decide +kernel
theorem d_MM_commandItem_66 : decode y_MM_commandItem.2.1 66 = .ok (.aload_n 0, 1) := by decide +kernel
theorem d_MM_commandItem_67 : decode y_MM_commandItem.2.1 67 = .ok (.getfield 38, 3) := by decide +kernel
theorem d_MM_commandItem_70 : decode y_MM_commandItem.2.1 70 = .ok (.getfield 480, 3) := by decide +kernel
theorem d_MM_commandItem_73 : decode y_MM_commandItem.2.1 73 = .ok (.iload_n 3, 1) := by decide +kernel
theorem d_MM_commandItem_74 : decode y_MM_commandItem.2.1 74 = .ok (.aload_n 0, 1) := by decide +kernel
theorem d_MM_commandItem_75 : decode y_MM_commandItem.2.1 75 = .ok (.iload_n 1, 1) := by decide +kernel
theorem d_MM_commandItem_76 : decode y_MM_commandItem.2.1 76 = .ok (.invokevirtual 279, 3) := by decide +kernel
theorem d_MM_commandItem_79 : decode y_MM_commandItem.2.1 79 = .ok (.iastore, 1) := by decide +kernel
theorem d_MM_commandItem_80 : decode y_MM_commandItem.2.1 80 = .ok (.aload_n 0, 1) := by decide +kernel
theorem d_MM_commandItem_81 : decode y_MM_commandItem.2.1 81 = .ok (.getfield 38, 3) := by decide +kernel
theorem d_MM_commandItem_84 : decode y_MM_commandItem.2.1 84 = .ok (.getfield 483, 3) := by decide +kernel
theorem d_MM_commandItem_87 : decode y_MM_commandItem.2.1 87 = .ok (.iload_n 3, 1) := by decide +kernel
theorem d_MM_commandItem_88 : decode y_MM_commandItem.2.1 88 = .ok (.aload_n 0, 1) := by decide +kernel
theorem d_MM_commandItem_89 : decode y_MM_commandItem.2.1 89 = .ok (.iload_n 1, 1) := by decide +kernel
theorem d_MM_commandItem_90 : decode y_MM_commandItem.2.1 90 = .ok (.iconst 1, 1) := by decide +kernel
theorem d_MM_commandItem_91 : decode y_MM_commandItem.2.1 91 = .ok (.iadd, 1) := by decide +kernel
theorem d_MM_commandItem_92 : decode y_MM_commandItem.2.1 92 = .ok (.iload 4, 2) := by decide +kernel
theorem d_MM_commandItem_94 : decode y_MM_commandItem.2.1 94 = .ok (.iconst 1, 1) := by decide +kernel
theorem d_MM_commandItem_95 : decode y_MM_commandItem.2.1 95 = .ok (.iconst 0, 1) := by decide +kernel
theorem d_MM_commandItem_96 : decode y_MM_commandItem.2.1 96 = .ok (.invokevirtual 441, 3) := by decide +kernel
theorem d_MM_commandItem_99 : decode y_MM_commandItem.2.1 99 = .ok (.iastore, 1) := by decide +kernel
theorem d_MM_commandItem_100 : decode y_MM_commandItem.2.1 100 = .ok (.aload_n 0, 1) := by decide +kernel
theorem d_MM_commandItem_101 : decode y_MM_commandItem.2.1 101 = .ok (.getfield 38, 3) := by decide +kernel
theorem d_MM_commandItem_104 : decode y_MM_commandItem.2.1 104 = .ok (.getfield 486, 3) := by decide +kernel
theorem d_MM_commandItem_107 : decode y_MM_commandItem.2.1 107 = .ok (.iload_n 3, 1) := by decide +kernel
theorem d_MM_commandItem_108 : decode y_MM_commandItem.2.1 108 = .ok (.iconst 0, 1) := by decide +kernel
theorem d_MM_commandItem_109 : decode y_MM_commandItem.2.1 109 = .ok (.iastore, 1) := by decide +kernel
theorem d_MM_commandItem_110 : decode y_MM_commandItem.2.1 110 = .ok (.iload 4, 2) := by decide +kernel
theorem d_MM_commandItem_112 : decode y_MM_commandItem.2.1 112 = .ok (.iconst 1, 1) := by decide +kernel
theorem d_MM_commandItem_113 : decode y_MM_commandItem.2.1 113 = .ok (.iadd, 1) := by decide +kernel
theorem d_MM_commandItem_114 : decode y_MM_commandItem.2.1 114 = .ok (.istore 5, 2) := by decide +kernel
theorem d_MM_commandItem_116 : decode y_MM_commandItem.2.1 116 = .ok (.aload_n 0, 1) := by decide +kernel
theorem d_MM_commandItem_117 : decode y_MM_commandItem.2.1 117 = .ok (.getfield 267, 3) := by decide +kernel
theorem d_MM_commandItem_120 : decode y_MM_commandItem.2.1 120 = .ok (.ifCond .ne 24, 3) := by decide +kernel
theorem d_MM_commandItem_123 : decode y_MM_commandItem.2.1 123 = .ok (.iload 5, 2) := by decide +kernel
theorem d_MM_commandItem_125 : decode y_MM_commandItem.2.1 125 = .ok (.iload_n 2, 1) := by decide +kernel
theorem d_MM_commandItem_126 : decode y_MM_commandItem.2.1 126 = .ok (.if_icmp .ge 18, 3) := by decide +kernel
theorem d_MM_commandItem_129 : decode y_MM_commandItem.2.1 129 = .ok (.aload_n 0, 1) := by decide +kernel
theorem d_MM_commandItem_130 : decode y_MM_commandItem.2.1 130 = .ok (.iload_n 3, 1) := by decide +kernel
theorem d_MM_commandItem_131 : decode y_MM_commandItem.2.1 131 = .ok (.iload 5, 2) := by decide +kernel
theorem d_MM_commandItem_133 : decode y_MM_commandItem.2.1 133 = .ok (.iload_n 2, 1) := by decide +kernel
theorem d_MM_commandItem_144 : decode y_MM_commandItem.2.1 144 = .ok (.aload_n 0, 1) := by decide +kernel
theorem d_MM_commandItem_145 : decode y_MM_commandItem.2.1 145 = .ok (.getfield 38, 3) := by decide +kernel
theorem d_MM_commandItem_148 : decode y_MM_commandItem.2.1 148 = .ok (.iload_n 3, 1) := by decide +kernel
theorem d_MM_commandItem_149 : decode y_MM_commandItem.2.1 149 = .ok (.iconst 1, 1) := by decide +kernel
theorem d_MM_commandItem_150 : decode y_MM_commandItem.2.1 150 = .ok (.iadd, 1) := by decide +kernel
theorem d_MM_commandItem_151 : decode y_MM_commandItem.2.1 151 = .ok (.putfield 474, 3) := by decide +kernel
theorem d_MM_commandItem_154 : decode y_MM_commandItem.2.1 154 = .ok (.return_, 1) := by decide +kernel
theorem d_MM_commandItem_134 : decode y_MM_commandItem.2.1 134 = .ok (.invokevirtual 489, 3) := by decide +kernel
theorem d_MM_commandItem_137 : decode y_MM_commandItem.2.1 137 = .ok (.iconst 1, 1) := by decide +kernel
theorem d_MM_commandItem_138 : decode y_MM_commandItem.2.1 138 = .ok (.iadd, 1) := by decide +kernel
theorem d_MM_commandItem_139 : decode y_MM_commandItem.2.1 139 = .ok (.istore 5, 2) := by decide +kernel
theorem d_MM_commandItem_141 : decode y_MM_commandItem.2.1 141 = .ok (.goto (-25), 3) := by decide +kernel
def h_MM_commandItem_116 (G : mG) (d : Nat) (a0 : Nat) (l2 : Int) (l3 : Int) (l5 : Int) (M : mM) (Q : mM → Prop) : Prop := mWm G y_MM_commandItem (d + 1) 116 [vr a0, vd, vi l2, vi l3, vd, vi l5] [] M (fun r9 M9 => r9 = none ∧ Q M9)
theorem k_MM_commandItem {G : mG} {d : Nat} {a0 : Nat} {l1 : Int} {l2 : Int} {M : mM} {Q : mM → Prop} (hO : mOk M) (hi_l1 : i32 l1) (hi_l2 : i32 l2)
    (h : mK M a0 = 14 ∧ mK M (mR M a0 10) = 16 ∧ ((mI M (mR M a0 10) 18 = 60) → (Ci G y_MM_place0 d [vr a0, vi l1] M (fun x6 M5 => i32 x6 ∧ mOk M5 ∧ (mK M5 a0 = 14 ∧ Cv G y_MM_stop d [vr a0, vi 5, vi x6] M5 (fun M9 => mOk M9 ∧ (Q M9)))))) ∧ (¬ (mI M (mR M a0 10) 18 = 60) → (Ci G y_MM_until d [vr a0, vi (l1 + 1), vi 17] M (fun x13 M12 => i32 x13 ∧ mOk M12 ∧ (mK M12 a0 = 14 ∧ mK M12 (mR M12 a0 10) = 16 ∧ Ci G y_MM_word1 d [vr a0, vi l1] M12 (fun x18 M17 => i32 x18 ∧ mOk M17 ∧ (∀ v21 : Int, v21 = (if (x18 = 8) then 1 else 0) → mK M17 (mR M12 (mR M12 a0 10) 19) = 31 ∧ ((0 : Int) ≤ mI M (mR M a0 10) 18 ∧ mI M (mR M a0 10) 18 < (mN M17 (mR M12 (mR M12 a0 10) 19) : Int)) ∧ ∀ M28, M28 = mUI M17 (mR M12 (mR M12 a0 10) 19) (Int.toNat (mI M (mR M a0 10) 18)) v21 → mK M28 a0 = 14 ∧ mK M28 (mR M28 a0 10) = 16 ∧ Ci G y_MM_place0 d [vr a0, vi l1] M28 (fun x33 M32 => i32 x33 ∧ mOk M32 ∧ (mK M32 (mR M28 (mR M28 a0 10) 20) = 30 ∧ ((0 : Int) ≤ mI M (mR M a0 10) 18 ∧ mI M (mR M a0 10) 18 < (mN M32 (mR M28 (mR M28 a0 10) 20) : Int)) ∧ ∀ M37, M37 = mUI M32 (mR M28 (mR M28 a0 10) 20) (Int.toNat (mI M (mR M a0 10) 18)) x33 → mK M37 a0 = 14 ∧ mK M37 (mR M37 a0 10) = 16 ∧ Ci G y_MM_rule1 d [vr a0, vi (l1 + 1), vi x13, vi 1, vi 0] M37 (fun x42 M41 => i32 x42 ∧ mOk M41 ∧ (mK M41 (mR M37 (mR M37 a0 10) 21) = 30 ∧ ((0 : Int) ≤ mI M (mR M a0 10) 18 ∧ mI M (mR M a0 10) 18 < (mN M41 (mR M37 (mR M37 a0 10) 21) : Int)) ∧ ∀ M46, M46 = mUI M41 (mR M37 (mR M37 a0 10) 21) (Int.toNat (mI M (mR M a0 10) 18)) x42 → mK M46 a0 = 14 ∧ mK M46 (mR M46 a0 10) = 16 ∧ mK M46 (mR M46 (mR M46 a0 10) 22) = 30 ∧ ((0 : Int) ≤ mI M (mR M a0 10) 18 ∧ mI M (mR M a0 10) 18 < (mN M46 (mR M46 (mR M46 a0 10) 22) : Int)) ∧ ∀ M52, M52 = mUI M46 (mR M46 (mR M46 a0 10) 22) (Int.toNat (mI M (mR M a0 10) 18)) 0 → h_MM_commandItem_116 G d a0 l2 (mI M (mR M a0 10) 18) (x13 + 1) M52 Q))))))))))) :
    Cv G y_MM_commandItem (d + 1) [vr a0, vi l1, vi l2] M Q := by
  refine wm_open (y := y_MM_commandItem) rfl (Nat.le_of_ble_eq_true rfl) (L := [vr a0, vi l1, vi l2, vd, vd, vd]) rfl ?_
  obtain ⟨h1, h⟩ := h
  obtain ⟨h2, h⟩ := h
  refine wm_aload_n d_MM_commandItem_0 rfl rfl ?_
  refine gf_MM_38 rfl d_MM_commandItem_1 h1 ?_
  refine gf_MM_474 rfl d_MM_commandItem_4 h2 ?_
  refine wm_bipush d_MM_commandItem_7 (by decide) ?_
  refine wm_icmp_ne (tgt := 23) d_MM_commandItem_9 rfl (hO _ _).1 ⟨by decide, by decide⟩ (fun c4 => ?_) (fun c4 => ?_)
  · replace h := h.2 c4
    refine wm_aload_n d_MM_commandItem_23 rfl rfl ?_
    refine gf_MM_38 rfl d_MM_commandItem_24 h1 ?_
    refine gf_MM_474 rfl d_MM_commandItem_27 h2 ?_
    refine wm_istore_n d_MM_commandItem_30 rfl (by decide) (L' := [vr a0, vi l1, vi l2, vi (mI M (mR M a0 10) 18), vd, vd]) rfl ?_
    refine wm_aload_n d_MM_commandItem_31 rfl rfl ?_
    refine wm_iload_n d_MM_commandItem_32 rfl rfl ?_
    refine wm_iconst d_MM_commandItem_33 ?_
    refine wm_iadd d_MM_commandItem_34 ?_
    refine wm_bipush d_MM_commandItem_35 (by decide) ?_
    refine cf_MM_430 rfl d_MM_commandItem_37 h1 (Nat.le_of_ble_eq_true rfl) (Ci.mono h (fun x13 M12 h => ?_))
    obtain ⟨h14, hOM12, h⟩ := h
    obtain ⟨h15, h⟩ := h
    obtain ⟨h16, h⟩ := h
    refine wm_istore d_MM_commandItem_40 (by decide) (L' := [vr a0, vi l1, vi l2, vi (mI M (mR M a0 10) 18), vi x13, vd]) rfl ?_
    refine wm_aload_n d_MM_commandItem_42 rfl rfl ?_
    refine gf_MM_38 rfl d_MM_commandItem_43 h15 ?_
    refine gf_MM_477 rfl d_MM_commandItem_46 h16 ?_
    refine wm_iload_n d_MM_commandItem_49 rfl rfl ?_
    refine wm_aload_n d_MM_commandItem_50 rfl rfl ?_
    refine wm_iload_n d_MM_commandItem_51 rfl rfl ?_
    refine cf_MM_302 rfl d_MM_commandItem_52 h15 (Nat.le_of_ble_eq_true rfl) (Ci.mono h (fun x18 M17 h => ?_))
    obtain ⟨h19, hOM17, h⟩ := h
    refine wm_bipush d_MM_commandItem_55 (by decide) ?_
    have hJ : ∀ v21 : Int, v21 = (if (x18 = 8) then 1 else 0) → mWm G y_MM_commandItem (d + 1) 65 [vr a0, vi l1, vi l2, vi (mI M (mR M a0 10) 18), vi x13, vd] [vi v21, vi (mI M (mR M a0 10) 18), vr (mR M12 (mR M12 a0 10) 19)] M17 (fun r9 M9 => r9 = none ∧ Q M9) := by
      intro v21 e23
      have h := h v21 e23
      have h24 : i32 v21 := by rw [e23]; (repeat' split) <;> first | exact ⟨by decide, by decide⟩ | exact ⟨by decide, by decide⟩
      have h25 : (v21 = 0 ∨ v21 = 1) := by rw [e23]; (repeat' split) <;> decide
      obtain ⟨h26, h⟩ := h
      obtain ⟨h27, h⟩ := h
      obtain ⟨M28, e29⟩ : ∃ M28, M28 = mUI M17 (mR M12 (mR M12 a0 10) 19) (Int.toNat (mI M (mR M a0 10) 18)) v21 := ⟨_, rfl⟩
      replace h := h M28 e29
      obtain ⟨h30, h⟩ := h
      obtain ⟨h31, h⟩ := h
      have hOM28 : mOk M28 := by rw [e29]; exact mOk_UI hOM17 (m_b32 h25)
      refine wm_zastE d_MM_commandItem_65 h26 h27 h25 e29 ?_
      refine wm_aload_n d_MM_commandItem_66 rfl rfl ?_
      refine gf_MM_38 rfl d_MM_commandItem_67 h30 ?_
      refine gf_MM_480 rfl d_MM_commandItem_70 h31 ?_
      refine wm_iload_n d_MM_commandItem_73 rfl rfl ?_
      refine wm_aload_n d_MM_commandItem_74 rfl rfl ?_
      refine wm_iload_n d_MM_commandItem_75 rfl rfl ?_
      refine cf_MM_279 rfl d_MM_commandItem_76 h30 (Nat.le_of_ble_eq_true rfl) (Ci.mono h (fun x33 M32 h => ?_))
      obtain ⟨h34, hOM32, h⟩ := h
      obtain ⟨h35, h⟩ := h
      obtain ⟨h36, h⟩ := h
      obtain ⟨M37, e38⟩ : ∃ M37, M37 = mUI M32 (mR M28 (mR M28 a0 10) 20) (Int.toNat (mI M (mR M a0 10) 18)) x33 := ⟨_, rfl⟩
      replace h := h M37 e38
      obtain ⟨h39, h⟩ := h
      obtain ⟨h40, h⟩ := h
      have hOM37 : mOk M37 := by rw [e38]; exact mOk_UI hOM32 h34
      refine wm_iastE d_MM_commandItem_79 h35 h36 h34 e38 ?_
      refine wm_aload_n d_MM_commandItem_80 rfl rfl ?_
      refine gf_MM_38 rfl d_MM_commandItem_81 h39 ?_
      refine gf_MM_483 rfl d_MM_commandItem_84 h40 ?_
      refine wm_iload_n d_MM_commandItem_87 rfl rfl ?_
      refine wm_aload_n d_MM_commandItem_88 rfl rfl ?_
      refine wm_iload_n d_MM_commandItem_89 rfl rfl ?_
      refine wm_iconst d_MM_commandItem_90 ?_
      refine wm_iadd d_MM_commandItem_91 ?_
      refine wm_iload d_MM_commandItem_92 rfl ?_
      refine wm_iconst d_MM_commandItem_94 ?_
      refine wm_iconst d_MM_commandItem_95 ?_
      refine cf_MM_441 rfl d_MM_commandItem_96 h39 (Nat.le_of_ble_eq_true rfl) (Ci.mono h (fun x42 M41 h => ?_))
      obtain ⟨h43, hOM41, h⟩ := h
      obtain ⟨h44, h⟩ := h
      obtain ⟨h45, h⟩ := h
      obtain ⟨M46, e47⟩ : ∃ M46, M46 = mUI M41 (mR M37 (mR M37 a0 10) 21) (Int.toNat (mI M (mR M a0 10) 18)) x42 := ⟨_, rfl⟩
      replace h := h M46 e47
      obtain ⟨h48, h⟩ := h
      obtain ⟨h49, h⟩ := h
      obtain ⟨h50, h⟩ := h
      obtain ⟨h51, h⟩ := h
      obtain ⟨M52, e53⟩ : ∃ M52, M52 = mUI M46 (mR M46 (mR M46 a0 10) 22) (Int.toNat (mI M (mR M a0 10) 18)) 0 := ⟨_, rfl⟩
      replace h := h M52 e53
      have hOM46 : mOk M46 := by rw [e47]; exact mOk_UI hOM41 h43
      refine wm_iastE d_MM_commandItem_99 h44 h45 h43 e47 ?_
      refine wm_aload_n d_MM_commandItem_100 rfl rfl ?_
      refine gf_MM_38 rfl d_MM_commandItem_101 h48 ?_
      refine gf_MM_486 rfl d_MM_commandItem_104 h49 ?_
      refine wm_iload_n d_MM_commandItem_107 rfl rfl ?_
      refine wm_iconst d_MM_commandItem_108 ?_
      have hOM52 : mOk M52 := by rw [e53]; exact mOk_UI hOM46 ⟨by decide, by decide⟩
      refine wm_iastE d_MM_commandItem_109 h50 h51 ⟨by decide, by decide⟩ e53 ?_
      refine wm_iload d_MM_commandItem_110 rfl ?_
      refine wm_iconst d_MM_commandItem_112 ?_
      refine wm_iadd d_MM_commandItem_113 ?_
      refine wm_istore d_MM_commandItem_114 (by decide) (L' := [vr a0, vi l1, vi l2, vi (mI M (mR M a0 10) 18), vi x13, vi (x13 + 1)]) rfl ?_
      refine wm_less (L' := [vr a0, vd, vi l2, vi (mI M (mR M a0 10) 18), vd, vi (x13 + 1)]) ⟨Or.inr rfl, Or.inl rfl, Or.inr rfl, Or.inr rfl, Or.inl rfl, Or.inr rfl, trivial⟩ ?_
      exact h
    clear h
    refine wm_icmp_ne (tgt := 64) d_MM_commandItem_57 rfl h19 ⟨by decide, by decide⟩ (fun c20 => ?_) (fun c20 => ?_)
    · refine wm_iconst d_MM_commandItem_64 ?_
      exact hJ 0 (if_neg c20).symm
    · replace c20 := Classical.not_not.mp c20
      refine wm_iconst d_MM_commandItem_60 ?_
      refine wm_goto (tgt := 65) d_MM_commandItem_61 rfl ?_
      exact hJ 1 (if_pos c20).symm
  · replace c4 := Classical.not_not.mp c4
    replace h := h.1 c4
    refine wm_aload_n d_MM_commandItem_12 rfl rfl ?_
    refine wm_iconst d_MM_commandItem_13 ?_
    refine wm_aload_n d_MM_commandItem_14 rfl rfl ?_
    refine wm_iload_n d_MM_commandItem_15 rfl rfl ?_
    refine cf_MM_279 rfl d_MM_commandItem_16 h1 (Nat.le_of_ble_eq_true rfl) (Ci.mono h (fun x6 M5 h => ?_))
    obtain ⟨h7, hOM5, h⟩ := h
    obtain ⟨h8, h⟩ := h
    refine cf_MM_351 rfl d_MM_commandItem_19 h8 (Nat.le_of_ble_eq_true rfl) (Cv.mono h (fun M9 h => ?_))
    obtain ⟨hOM9, h⟩ := h
    refine wm_return d_MM_commandItem_22 rfl ?_
    exact ⟨rfl, h⟩
theorem k_MM_commandItem_116 {G : mG} {d : Nat} {a0 : Nat} {l2 : Int} {l3 : Int} {l5 : Int} {M : mM} {Q : mM → Prop} (hO : mOk M) (hi_l2 : i32 l2) (hi_l3 : i32 l3) (hi_l5 : i32 l5)
    (h : mK M a0 = 14 ∧ (((¬ (mI M a0 16 = 0)) ∨ (l2 ≤ l5)) → (mK M (mR M a0 10) = 16 ∧ i32 (l3 + 1) ∧ ∀ M62, M62 = mUI M (mR M a0 10) 18 (l3 + 1) → Q M62)) ∧ (¬ ((¬ (mI M a0 16 = 0)) ∨ (l2 ≤ l5)) → (Ci G y_MM_branch0 d [vr a0, vi l3, vi l5, vi l2] M (fun x66 M65 => i32 x66 ∧ mOk M65 ∧ (h_MM_commandItem_116 G d a0 l2 l3 (x66 + 1) M65 Q))))) :
    h_MM_commandItem_116 G d a0 l2 l3 l5 M Q := by
  unfold h_MM_commandItem_116
  obtain ⟨h55, h⟩ := h
  refine wm_aload_n d_MM_commandItem_116 rfl rfl ?_
  refine gf_MM_267 rfl d_MM_commandItem_117 h55 ?_
  have hE0 : ((¬ (mI M a0 16 = 0)) ∨ (l2 ≤ l5)) → mWm G y_MM_commandItem (d + 1) 144 [vr a0, vd, vi l2, vi l3, vd, vi l5] [] M (fun r9 M9 => r9 = none ∧ Q M9) := by
    intro q59
    have h := h.1 q59
    obtain ⟨h60, h⟩ := h
    obtain ⟨h61, h⟩ := h
    obtain ⟨M62, e63⟩ : ∃ M62, M62 = mUI M (mR M a0 10) 18 (l3 + 1) := ⟨_, rfl⟩
    replace h := h M62 e63
    refine wm_aload_n d_MM_commandItem_144 rfl rfl ?_
    refine gf_MM_38 rfl d_MM_commandItem_145 h55 ?_
    refine wm_iload_n d_MM_commandItem_148 rfl rfl ?_
    refine wm_iconst d_MM_commandItem_149 ?_
    refine wm_iadd d_MM_commandItem_150 ?_
    have hOM62 : mOk M62 := by rw [e63]; exact mOk_UI hO h61
    refine pf_MM_474 rfl d_MM_commandItem_151 h60 h61 e63 ?_
    refine wm_return d_MM_commandItem_154 rfl ?_
    exact ⟨rfl, h⟩
  have hE1 : ¬ ((¬ (mI M a0 16 = 0)) ∨ (l2 ≤ l5)) → mWm G y_MM_commandItem (d + 1) 129 [vr a0, vd, vi l2, vi l3, vd, vi l5] [] M (fun r9 M9 => r9 = none ∧ Q M9) := by
    intro q64
    have h := h.2 q64
    refine wm_aload_n d_MM_commandItem_129 rfl rfl ?_
    refine wm_iload_n d_MM_commandItem_130 rfl rfl ?_
    refine wm_iload d_MM_commandItem_131 rfl ?_
    refine wm_iload_n d_MM_commandItem_133 rfl rfl ?_
    refine cf_MM_489 rfl d_MM_commandItem_134 h55 (Nat.le_of_ble_eq_true rfl) (Ci.mono h (fun x66 M65 h => ?_))
    obtain ⟨h67, hOM65, h⟩ := h
    refine wm_iconst d_MM_commandItem_137 ?_
    refine wm_iadd d_MM_commandItem_138 ?_
    refine wm_istore d_MM_commandItem_139 (by decide) (L' := [vr a0, vd, vi l2, vi l3, vd, vi (x66 + 1)]) rfl ?_
    refine wm_goto (tgt := 116) d_MM_commandItem_141 rfl ?_
    exact h
  clear h
  refine wm_if_ne (tgt := 144) d_MM_commandItem_120 rfl (hO _ _).1 (fun c57 => ?_) (fun c57 => ?_)
  · exact hE0 (Or.inl c57)
  · replace c57 := Classical.not_not.mp c57
    refine wm_iload d_MM_commandItem_123 rfl ?_
    refine wm_iload_n d_MM_commandItem_125 rfl rfl ?_
    refine wm_icmp_ge (tgt := 144) d_MM_commandItem_126 rfl hi_l5 hi_l2 (fun c56 => ?_) (fun c56 => ?_)
    · exact hE0 (Or.inr c56)
    · exact hE1 (fun z68 => Or.elim z68 (fun w => w c57) c56)
theorem d_MM_branch0_0 : decode y_MM_branch0.2.1 0 = .ok (.aload_n 0, 1) := by decide +kernel
theorem d_MM_branch0_1 : decode y_MM_branch0.2.1 1 = .ok (.getfield 38, 3) := by decide +kernel
theorem d_MM_branch0_4 : decode y_MM_branch0.2.1 4 = .ok (.getfield 486, 3) := by decide +kernel
theorem d_MM_branch0_7 : decode y_MM_branch0.2.1 7 = .ok (.iload_n 1, 1) := by decide +kernel
theorem d_MM_branch0_8 : decode y_MM_branch0.2.1 8 = .ok (.iaload, 1) := by decide +kernel
theorem d_MM_branch0_9 : decode y_MM_branch0.2.1 9 = .ok (.istore 4, 2) := by decide +kernel
theorem d_MM_branch0_11 : decode y_MM_branch0.2.1 11 = .ok (.iload 4, 2) := by decide +kernel
theorem d_MM_branch0_13 : decode y_MM_branch0.2.1 13 = .ok (.bipush 8, 2) := by decide +kernel
theorem d_MM_branch0_15 : decode y_MM_branch0.2.1 15 = .ok (.if_icmp .ne 15, 3) := by decide +kernel
theorem d_MM_branch0_18 : decode y_MM_branch0.2.1 18 = .ok (.aload_n 0, 1) := by decide +kernel
theorem d_MM_branch0_19 : decode y_MM_branch0.2.1 19 = .ok (.iconst 5, 1) := by decide +kernel
theorem d_MM_branch0_20 : decode y_MM_branch0.2.1 20 = .ok (.aload_n 0, 1) := by decide +kernel
theorem d_MM_branch0_21 : decode y_MM_branch0.2.1 21 = .ok (.iload_n 2, 1) := by decide +kernel
theorem d_MM_branch0_30 : decode y_MM_branch0.2.1 30 = .ok (.aload_n 0, 1) := by decide +kernel
theorem d_MM_branch0_31 : decode y_MM_branch0.2.1 31 = .ok (.iload_n 2, 1) := by decide +kernel
theorem d_MM_branch0_32 : decode y_MM_branch0.2.1 32 = .ok (.bipush 33, 2) := by decide +kernel
theorem d_MM_branch0_22 : decode y_MM_branch0.2.1 22 = .ok (.invokevirtual 279, 3) := by decide +kernel
theorem d_MM_branch0_25 : decode y_MM_branch0.2.1 25 = .ok (.invokevirtual 351, 3) := by decide +kernel
theorem d_MM_branch0_28 : decode y_MM_branch0.2.1 28 = .ok (.iload_n 3, 1) := by decide +kernel
theorem d_MM_branch0_29 : decode y_MM_branch0.2.1 29 = .ok (.ireturn, 1) := by decide +kernel
theorem d_MM_branch0_34 : decode y_MM_branch0.2.1 34 = .ok (.invokevirtual 430, 3) := by decide +kernel
theorem d_MM_branch0_37 : decode y_MM_branch0.2.1 37 = .ok (.istore 5, 2) := by decide +kernel
theorem d_MM_branch0_39 : decode y_MM_branch0.2.1 39 = .ok (.bipush 8, 2) := by decide +kernel
theorem d_MM_branch0_41 : decode y_MM_branch0.2.1 41 = .ok (.iload_n 1, 1) := by decide +kernel
theorem d_MM_branch0_42 : decode y_MM_branch0.2.1 42 = .ok (.imul, 1) := by decide +kernel
theorem d_MM_branch0_43 : decode y_MM_branch0.2.1 43 = .ok (.iload 4, 2) := by decide +kernel
theorem d_MM_branch0_45 : decode y_MM_branch0.2.1 45 = .ok (.iadd, 1) := by decide +kernel
theorem d_MM_branch0_46 : decode y_MM_branch0.2.1 46 = .ok (.istore 6, 2) := by decide +kernel
theorem d_MM_branch0_48 : decode y_MM_branch0.2.1 48 = .ok (.aload_n 0, 1) := by decide +kernel
theorem d_MM_branch0_49 : decode y_MM_branch0.2.1 49 = .ok (.getfield 38, 3) := by decide +kernel
theorem d_MM_branch0_52 : decode y_MM_branch0.2.1 52 = .ok (.getfield 492, 3) := by decide +kernel
theorem d_MM_branch0_55 : decode y_MM_branch0.2.1 55 = .ok (.iload 6, 2) := by decide +kernel
theorem d_MM_branch0_57 : decode y_MM_branch0.2.1 57 = .ok (.aload_n 0, 1) := by decide +kernel
theorem d_MM_branch0_58 : decode y_MM_branch0.2.1 58 = .ok (.iload_n 2, 1) := by decide +kernel
theorem d_MM_branch0_59 : decode y_MM_branch0.2.1 59 = .ok (.iload 5, 2) := by decide +kernel
theorem d_MM_branch0_61 : decode y_MM_branch0.2.1 61 = .ok (.iconst 0, 1) := by decide +kernel
theorem d_MM_branch0_62 : decode y_MM_branch0.2.1 62 = .ok (.iconst 0, 1) := by decide +kernel
theorem d_MM_branch0_63 : decode y_MM_branch0.2.1 63 = .ok (.invokevirtual 441, 3) := by decide +kernel
theorem d_MM_branch0_66 : decode y_MM_branch0.2.1 66 = .ok (.iastore, 1) := by decide +kernel
theorem d_MM_branch0_67 : decode y_MM_branch0.2.1 67 = .ok (.aload_n 0, 1) := by decide +kernel
theorem d_MM_branch0_68 : decode y_MM_branch0.2.1 68 = .ok (.getfield 38, 3) := by decide +kernel
theorem d_MM_branch0_71 : decode y_MM_branch0.2.1 71 = .ok (.getfield 495, 3) := by decide +kernel
theorem d_MM_branch0_74 : decode y_MM_branch0.2.1 74 = .ok (.iload 6, 2) := by decide +kernel
theorem d_MM_branch0_76 : decode y_MM_branch0.2.1 76 = .ok (.aload_n 0, 1) := by decide +kernel
theorem d_MM_branch0_77 : decode y_MM_branch0.2.1 77 = .ok (.iload_n 2, 1) := by decide +kernel
theorem d_MM_branch0_78 : decode y_MM_branch0.2.1 78 = .ok (.invokevirtual 279, 3) := by decide +kernel
theorem d_MM_branch0_81 : decode y_MM_branch0.2.1 81 = .ok (.iastore, 1) := by decide +kernel
theorem d_MM_branch0_82 : decode y_MM_branch0.2.1 82 = .ok (.aload_n 0, 1) := by decide +kernel
theorem d_MM_branch0_83 : decode y_MM_branch0.2.1 83 = .ok (.getfield 38, 3) := by decide +kernel
theorem d_MM_branch0_86 : decode y_MM_branch0.2.1 86 = .ok (.getfield 498, 3) := by decide +kernel
theorem d_MM_branch0_89 : decode y_MM_branch0.2.1 89 = .ok (.iload 6, 2) := by decide +kernel
theorem d_MM_branch0_91 : decode y_MM_branch0.2.1 91 = .ok (.aload_n 0, 1) := by decide +kernel
theorem d_MM_branch0_92 : decode y_MM_branch0.2.1 92 = .ok (.getfield 38, 3) := by decide +kernel
theorem d_MM_branch0_95 : decode y_MM_branch0.2.1 95 = .ok (.getfield 501, 3) := by decide +kernel
theorem d_MM_branch0_98 : decode y_MM_branch0.2.1 98 = .ok (.getfield 145, 3) := by decide +kernel
theorem d_MM_branch0_101 : decode y_MM_branch0.2.1 101 = .ok (.iastore, 1) := by decide +kernel
theorem d_MM_branch0_102 : decode y_MM_branch0.2.1 102 = .ok (.iload 5, 2) := by decide +kernel
theorem d_MM_branch0_104 : decode y_MM_branch0.2.1 104 = .ok (.iconst 1, 1) := by decide +kernel
theorem d_MM_branch0_105 : decode y_MM_branch0.2.1 105 = .ok (.iadd, 1) := by decide +kernel
theorem d_MM_branch0_106 : decode y_MM_branch0.2.1 106 = .ok (.istore 7, 2) := by decide +kernel
theorem d_MM_branch0_108 : decode y_MM_branch0.2.1 108 = .ok (.aload_n 0, 1) := by decide +kernel
theorem d_MM_branch0_109 : decode y_MM_branch0.2.1 109 = .ok (.iload 7, 2) := by decide +kernel
theorem d_MM_branch0_111 : decode y_MM_branch0.2.1 111 = .ok (.invokevirtual 302, 3) := by decide +kernel
theorem d_MM_branch0_114 : decode y_MM_branch0.2.1 114 = .ok (.bipush 10, 2) := by decide +kernel
theorem d_MM_branch0_116 : decode y_MM_branch0.2.1 116 = .ok (.if_icmp .ne 9, 3) := by decide +kernel
theorem d_MM_branch0_119 : decode y_MM_branch0.2.1 119 = .ok (.iinc 7 1, 3) := by decide +kernel
theorem d_MM_branch0_122 : decode y_MM_branch0.2.1 122 = .ok (.goto 73, 3) := by decide +kernel
theorem d_MM_branch0_195 : decode y_MM_branch0.2.1 195 = .ok (.aload_n 0, 1) := by decide +kernel
theorem d_MM_branch0_196 : decode y_MM_branch0.2.1 196 = .ok (.getfield 38, 3) := by decide +kernel
theorem d_MM_branch0_199 : decode y_MM_branch0.2.1 199 = .ok (.getfield 507, 3) := by decide +kernel
theorem d_MM_branch0_202 : decode y_MM_branch0.2.1 202 = .ok (.iload 6, 2) := by decide +kernel
theorem d_MM_branch0_204 : decode y_MM_branch0.2.1 204 = .ok (.aload_n 0, 1) := by decide +kernel
theorem d_MM_branch0_205 : decode y_MM_branch0.2.1 205 = .ok (.getfield 38, 3) := by decide +kernel
theorem d_MM_branch0_208 : decode y_MM_branch0.2.1 208 = .ok (.getfield 501, 3) := by decide +kernel
theorem d_MM_branch0_211 : decode y_MM_branch0.2.1 211 = .ok (.getfield 145, 3) := by decide +kernel
theorem d_MM_branch0_214 : decode y_MM_branch0.2.1 214 = .ok (.aload_n 0, 1) := by decide +kernel
theorem d_MM_branch0_215 : decode y_MM_branch0.2.1 215 = .ok (.getfield 38, 3) := by decide +kernel
theorem d_MM_branch0_218 : decode y_MM_branch0.2.1 218 = .ok (.getfield 498, 3) := by decide +kernel
theorem d_MM_branch0_221 : decode y_MM_branch0.2.1 221 = .ok (.iload 6, 2) := by decide +kernel
theorem d_MM_branch0_223 : decode y_MM_branch0.2.1 223 = .ok (.iaload, 1) := by decide +kernel
theorem d_MM_branch0_224 : decode y_MM_branch0.2.1 224 = .ok (.isub, 1) := by decide +kernel
theorem d_MM_branch0_225 : decode y_MM_branch0.2.1 225 = .ok (.iastore, 1) := by decide +kernel
theorem d_MM_branch0_226 : decode y_MM_branch0.2.1 226 = .ok (.aload_n 0, 1) := by decide +kernel
theorem d_MM_branch0_227 : decode y_MM_branch0.2.1 227 = .ok (.getfield 38, 3) := by decide +kernel
theorem d_MM_branch0_230 : decode y_MM_branch0.2.1 230 = .ok (.getfield 486, 3) := by decide +kernel
theorem d_MM_branch0_233 : decode y_MM_branch0.2.1 233 = .ok (.iload_n 1, 1) := by decide +kernel
theorem d_MM_branch0_234 : decode y_MM_branch0.2.1 234 = .ok (.iload 4, 2) := by decide +kernel
theorem d_MM_branch0_236 : decode y_MM_branch0.2.1 236 = .ok (.iconst 1, 1) := by decide +kernel
theorem d_MM_branch0_237 : decode y_MM_branch0.2.1 237 = .ok (.iadd, 1) := by decide +kernel
theorem d_MM_branch0_238 : decode y_MM_branch0.2.1 238 = .ok (.iastore, 1) := by decide +kernel
theorem d_MM_branch0_125 : decode y_MM_branch0.2.1 125 = .ok (.iconst 1, 1) := by decide +kernel
theorem d_MM_branch0_126 : decode y_MM_branch0.2.1 126 = .ok (.istore 8, 2) := by decide +kernel
theorem d_MM_branch0_239 : decode y_MM_branch0.2.1 239 = .ok (.iload 7, 2) := by decide +kernel
theorem d_MM_branch0_241 : decode y_MM_branch0.2.1 241 = .ok (.ireturn, 1) := by decide +kernel
theorem d_MM_branch0_128 : decode y_MM_branch0.2.1 128 = .ok (.iload 8, 2) := by decide +kernel
theorem d_MM_branch0_130 : decode y_MM_branch0.2.1 130 = .ok (.ifCond .eq 65, 3) := by decide +kernel
theorem d_MM_branch0_133 : decode y_MM_branch0.2.1 133 = .ok (.aload_n 0, 1) := by decide +kernel
theorem d_MM_branch0_134 : decode y_MM_branch0.2.1 134 = .ok (.getfield 267, 3) := by decide +kernel
theorem d_MM_branch0_137 : decode y_MM_branch0.2.1 137 = .ok (.ifCond .ne 58, 3) := by decide +kernel
theorem d_MM_branch0_140 : decode y_MM_branch0.2.1 140 = .ok (.aload_n 0, 1) := by decide +kernel
theorem d_MM_branch0_141 : decode y_MM_branch0.2.1 141 = .ok (.iload 7, 2) := by decide +kernel
theorem d_MM_branch0_143 : decode y_MM_branch0.2.1 143 = .ok (.aload_n 0, 1) := by decide +kernel
theorem d_MM_branch0_144 : decode y_MM_branch0.2.1 144 = .ok (.getfield 38, 3) := by decide +kernel
theorem d_MM_branch0_147 : decode y_MM_branch0.2.1 147 = .ok (.getfield 498, 3) := by decide +kernel
theorem d_MM_branch0_150 : decode y_MM_branch0.2.1 150 = .ok (.iload 6, 2) := by decide +kernel
theorem d_MM_branch0_152 : decode y_MM_branch0.2.1 152 = .ok (.iaload, 1) := by decide +kernel
theorem d_MM_branch0_153 : decode y_MM_branch0.2.1 153 = .ok (.invokevirtual 504, 3) := by decide +kernel
theorem d_MM_branch0_156 : decode y_MM_branch0.2.1 156 = .ok (.istore 7, 2) := by decide +kernel
theorem d_MM_branch0_158 : decode y_MM_branch0.2.1 158 = .ok (.aload_n 0, 1) := by decide +kernel
theorem d_MM_branch0_159 : decode y_MM_branch0.2.1 159 = .ok (.iload 7, 2) := by decide +kernel
theorem d_MM_branch0_161 : decode y_MM_branch0.2.1 161 = .ok (.invokevirtual 302, 3) := by decide +kernel
theorem d_MM_branch0_164 : decode y_MM_branch0.2.1 164 = .ok (.bipush 29, 2) := by decide +kernel
theorem d_MM_branch0_166 : decode y_MM_branch0.2.1 166 = .ok (.if_icmp .ne 7, 3) := by decide +kernel
theorem d_MM_branch0_169 : decode y_MM_branch0.2.1 169 = .ok (.iconst 1, 1) := by decide +kernel
theorem d_MM_branch0_170 : decode y_MM_branch0.2.1 170 = .ok (.goto 4, 3) := by decide +kernel
theorem d_MM_branch0_173 : decode y_MM_branch0.2.1 173 = .ok (.iconst 0, 1) := by decide +kernel
theorem d_MM_branch0_174 : decode y_MM_branch0.2.1 174 = .ok (.istore 8, 2) := by decide +kernel
theorem d_MM_branch0_176 : decode y_MM_branch0.2.1 176 = .ok (.iload 8, 2) := by decide +kernel
theorem d_MM_branch0_178 : decode y_MM_branch0.2.1 178 = .ok (.ifCond .eq 10, 3) := by decide +kernel
theorem d_MM_branch0_188 : decode y_MM_branch0.2.1 188 = .ok (.iload 7, 2) := by decide +kernel
theorem d_MM_branch0_181 : decode y_MM_branch0.2.1 181 = .ok (.iload 7, 2) := by decide +kernel
theorem d_MM_branch0_183 : decode y_MM_branch0.2.1 183 = .ok (.iconst 1, 1) := by decide +kernel
theorem d_MM_branch0_184 : decode y_MM_branch0.2.1 184 = .ok (.iadd, 1) := by decide +kernel
theorem d_MM_branch0_185 : decode y_MM_branch0.2.1 185 = .ok (.goto 5, 3) := by decide +kernel
theorem d_MM_branch0_190 : decode y_MM_branch0.2.1 190 = .ok (.istore 7, 2) := by decide +kernel
theorem d_MM_branch0_192 : decode y_MM_branch0.2.1 192 = .ok (.goto (-64), 3) := by decide +kernel
def h_MM_branch0_128 (G : mG) (d : Nat) (a0 : Nat) (l1 : Int) (l4 : Int) (l6 : Int) (l7 : Int) (l8 : Int) (M : mM) (Q : Int → mM → Prop) : Prop := mWm G y_MM_branch0 (d + 1) 128 [vr a0, vi l1, vd, vd, vi l4, vd, vi l6, vi l7, vi l8] [] M (fun r9 M9 => ∃ x9, r9 = some (vi x9) ∧ Q x9 M9)
theorem k_MM_branch0 {G : mG} {d : Nat} {a0 : Nat} {l1 : Int} {l2 : Int} {l3 : Int} {M : mM} {Q : Int → mM → Prop} (hO : mOk M) (hi_l1 : i32 l1) (hi_l2 : i32 l2) (hi_l3 : i32 l3)
    (h : mK M a0 = 14 ∧ mK M (mR M a0 10) = 16 ∧ mK M (mR M (mR M a0 10) 22) = 30 ∧ ((0 : Int) ≤ l1 ∧ l1 < (mN M (mR M (mR M a0 10) 22) : Int)) ∧ ((mI M (mR M (mR M a0 10) 22) (Int.toNat l1) = 8) → (Ci G y_MM_place0 d [vr a0, vi l2] M (fun x8 M7 => i32 x8 ∧ mOk M7 ∧ (mK M7 a0 = 14 ∧ Cv G y_MM_stop d [vr a0, vi 5, vi x8] M7 (fun M11 => mOk M11 ∧ (Q l3 M11)))))) ∧ (¬ (mI M (mR M (mR M a0 10) 22) (Int.toNat l1) = 8) → (Ci G y_MM_until d [vr a0, vi l2, vi 33] M (fun x15 M14 => i32 x15 ∧ mOk M14 ∧ (mK M14 a0 = 14 ∧ mK M14 (mR M14 a0 10) = 16 ∧ Ci G y_MM_rule1 d [vr a0, vi l2, vi x15, vi 0, vi 0] M14 (fun x20 M19 => i32 x20 ∧ mOk M19 ∧ (mK M19 (mR M14 (mR M14 a0 10) 23) = 30 ∧ ((0 : Int) ≤ (8 * l1) + (mI M (mR M (mR M a0 10) 22) (Int.toNat l1)) ∧ (8 * l1) + (mI M (mR M (mR M a0 10) 22) (Int.toNat l1)) < (mN M19 (mR M14 (mR M14 a0 10) 23) : Int)) ∧ ∀ M24, M24 = mUI M19 (mR M14 (mR M14 a0 10) 23) (Int.toNat ((8 * l1) + (mI M (mR M (mR M a0 10) 22) (Int.toNat l1)))) x20 → mK M24 a0 = 14 ∧ mK M24 (mR M24 a0 10) = 16 ∧ Ci G y_MM_place0 d [vr a0, vi l2] M24 (fun x29 M28 => i32 x29 ∧ mOk M28 ∧ (mK M28 (mR M24 (mR M24 a0 10) 24) = 30 ∧ ((0 : Int) ≤ (8 * l1) + (mI M (mR M (mR M a0 10) 22) (Int.toNat l1)) ∧ (8 * l1) + (mI M (mR M (mR M a0 10) 22) (Int.toNat l1)) < (mN M28 (mR M24 (mR M24 a0 10) 24) : Int)) ∧ ∀ M33, M33 = mUI M28 (mR M24 (mR M24 a0 10) 24) (Int.toNat ((8 * l1) + (mI M (mR M (mR M a0 10) 22) (Int.toNat l1)))) x29 → mK M33 a0 = 14 ∧ mK M33 (mR M33 a0 10) = 16 ∧ mK M33 (mR M33 (mR M33 a0 10) 27) = 15 ∧ mK M33 (mR M33 (mR M33 a0 10) 25) = 30 ∧ ((0 : Int) ≤ (8 * l1) + (mI M (mR M (mR M a0 10) 22) (Int.toNat l1)) ∧ (8 * l1) + (mI M (mR M (mR M a0 10) 22) (Int.toNat l1)) < (mN M33 (mR M33 (mR M33 a0 10) 25) : Int)) ∧ ∀ M40, M40 = mUI M33 (mR M33 (mR M33 a0 10) 25) (Int.toNat ((8 * l1) + (mI M (mR M (mR M a0 10) 22) (Int.toNat l1)))) (mI M33 (mR M33 (mR M33 a0 10) 27) 1) → Ci G y_MM_word1 d [vr a0, vi (x15 + 1)] M40 (fun x43 M42 => i32 x43 ∧ mOk M42 ∧ (((x43 = 10) → (mK M42 a0 = 14 ∧ mK M42 (mR M42 a0 10) = 16 ∧ mK M42 (mR M42 (mR M42 a0 10) 27) = 15 ∧ mK M42 (mR M42 (mR M42 a0 10) 25) = 30 ∧ ((0 : Int) ≤ (8 * l1) + (mI M (mR M (mR M a0 10) 22) (Int.toNat l1)) ∧ (8 * l1) + (mI M (mR M (mR M a0 10) 22) (Int.toNat l1)) < (mN M42 (mR M42 (mR M42 a0 10) 25) : Int)) ∧ mK M42 (mR M42 (mR M42 a0 10) 26) = 30 ∧ ((0 : Int) ≤ (8 * l1) + (mI M (mR M (mR M a0 10) 22) (Int.toNat l1)) ∧ (8 * l1) + (mI M (mR M (mR M a0 10) 22) (Int.toNat l1)) < (mN M42 (mR M42 (mR M42 a0 10) 26) : Int)) ∧ i32 ((mI M42 (mR M42 (mR M42 a0 10) 27) 1) - (mI M42 (mR M42 (mR M42 a0 10) 25) (Int.toNat ((8 * l1) + (mI M (mR M (mR M a0 10) 22) (Int.toNat l1)))))) ∧ ∀ M55, M55 = mUI M42 (mR M42 (mR M42 a0 10) 26) (Int.toNat ((8 * l1) + (mI M (mR M (mR M a0 10) 22) (Int.toNat l1)))) ((mI M42 (mR M42 (mR M42 a0 10) 27) 1) - (mI M42 (mR M42 (mR M42 a0 10) 25) (Int.toNat ((8 * l1) + (mI M (mR M (mR M a0 10) 22) (Int.toNat l1)))))) → mK M55 (mR M55 a0 10) = 16 ∧ mK M55 (mR M55 (mR M55 a0 10) 22) = 30 ∧ ((0 : Int) ≤ l1 ∧ l1 < (mN M55 (mR M55 (mR M55 a0 10) 22) : Int)) ∧ i32 ((mI M (mR M (mR M a0 10) 22) (Int.toNat l1)) + 1) ∧ ∀ M61, M61 = mUI M55 (mR M55 (mR M55 a0 10) 22) (Int.toNat l1) ((mI M (mR M (mR M a0 10) 22) (Int.toNat l1)) + 1) → Q ((x15 + 1) + 1) M61)) ∧ (¬ (x43 = 10) → (h_MM_branch0_128 G d a0 l1 (mI M (mR M (mR M a0 10) 22) (Int.toNat l1)) ((8 * l1) + (mI M (mR M (mR M a0 10) 22) (Int.toNat l1))) (x15 + 1) 1 M42 Q))))))))))))) :
    Ci G y_MM_branch0 (d + 1) [vr a0, vi l1, vi l2, vi l3] M Q := by
  refine wm_open (y := y_MM_branch0) rfl (Nat.le_of_ble_eq_true rfl) (L := [vr a0, vi l1, vi l2, vi l3, vd, vd, vd, vd, vd]) rfl ?_
  obtain ⟨h1, h⟩ := h
  obtain ⟨h2, h⟩ := h
  obtain ⟨h3, h⟩ := h
  obtain ⟨h4, h⟩ := h
  refine wm_aload_n d_MM_branch0_0 rfl rfl ?_
  refine gf_MM_38 rfl d_MM_branch0_1 h1 ?_
  refine gf_MM_486 rfl d_MM_branch0_4 h2 ?_
  refine wm_iload_n d_MM_branch0_7 rfl rfl ?_
  refine wm_iald d_MM_branch0_8 h3 h4 ?_
  refine wm_istore d_MM_branch0_9 (by decide) (L' := [vr a0, vi l1, vi l2, vi l3, vi (mI M (mR M (mR M a0 10) 22) (Int.toNat l1)), vd, vd, vd, vd]) rfl ?_
  refine wm_iload d_MM_branch0_11 rfl ?_
  refine wm_bipush d_MM_branch0_13 (by decide) ?_
  refine wm_icmp_ne (tgt := 30) d_MM_branch0_15 rfl (hO _ _).1 ⟨by decide, by decide⟩ (fun c6 => ?_) (fun c6 => ?_)
  · replace h := h.2 c6
    refine wm_aload_n d_MM_branch0_30 rfl rfl ?_
    refine wm_iload_n d_MM_branch0_31 rfl rfl ?_
    refine wm_bipush d_MM_branch0_32 (by decide) ?_
    refine cf_MM_430 rfl d_MM_branch0_34 h1 (Nat.le_of_ble_eq_true rfl) (Ci.mono h (fun x15 M14 h => ?_))
    obtain ⟨h16, hOM14, h⟩ := h
    obtain ⟨h17, h⟩ := h
    obtain ⟨h18, h⟩ := h
    refine wm_istore d_MM_branch0_37 (by decide) (L' := [vr a0, vi l1, vi l2, vi l3, vi (mI M (mR M (mR M a0 10) 22) (Int.toNat l1)), vi x15, vd, vd, vd]) rfl ?_
    refine wm_bipush d_MM_branch0_39 (by decide) ?_
    refine wm_iload_n d_MM_branch0_41 rfl rfl ?_
    refine wm_imul d_MM_branch0_42 ?_
    refine wm_iload d_MM_branch0_43 rfl ?_
    refine wm_iadd d_MM_branch0_45 ?_
    refine wm_istore d_MM_branch0_46 (by decide) (L' := [vr a0, vi l1, vi l2, vi l3, vi (mI M (mR M (mR M a0 10) 22) (Int.toNat l1)), vi x15, vi ((8 * l1) + (mI M (mR M (mR M a0 10) 22) (Int.toNat l1))), vd, vd]) rfl ?_
    refine wm_aload_n d_MM_branch0_48 rfl rfl ?_
    refine gf_MM_38 rfl d_MM_branch0_49 h17 ?_
    refine gf_MM_492 rfl d_MM_branch0_52 h18 ?_
    refine wm_iload d_MM_branch0_55 rfl ?_
    refine wm_aload_n d_MM_branch0_57 rfl rfl ?_
    refine wm_iload_n d_MM_branch0_58 rfl rfl ?_
    refine wm_iload d_MM_branch0_59 rfl ?_
    refine wm_iconst d_MM_branch0_61 ?_
    refine wm_iconst d_MM_branch0_62 ?_
    refine cf_MM_441 rfl d_MM_branch0_63 h17 (Nat.le_of_ble_eq_true rfl) (Ci.mono h (fun x20 M19 h => ?_))
    obtain ⟨h21, hOM19, h⟩ := h
    obtain ⟨h22, h⟩ := h
    obtain ⟨h23, h⟩ := h
    obtain ⟨M24, e25⟩ : ∃ M24, M24 = mUI M19 (mR M14 (mR M14 a0 10) 23) (Int.toNat ((8 * l1) + (mI M (mR M (mR M a0 10) 22) (Int.toNat l1)))) x20 := ⟨_, rfl⟩
    replace h := h M24 e25
    obtain ⟨h26, h⟩ := h
    obtain ⟨h27, h⟩ := h
    have hOM24 : mOk M24 := by rw [e25]; exact mOk_UI hOM19 h21
    refine wm_iastE d_MM_branch0_66 h22 h23 h21 e25 ?_
    refine wm_aload_n d_MM_branch0_67 rfl rfl ?_
    refine gf_MM_38 rfl d_MM_branch0_68 h26 ?_
    refine gf_MM_495 rfl d_MM_branch0_71 h27 ?_
    refine wm_iload d_MM_branch0_74 rfl ?_
    refine wm_aload_n d_MM_branch0_76 rfl rfl ?_
    refine wm_iload_n d_MM_branch0_77 rfl rfl ?_
    refine cf_MM_279 rfl d_MM_branch0_78 h26 (Nat.le_of_ble_eq_true rfl) (Ci.mono h (fun x29 M28 h => ?_))
    obtain ⟨h30, hOM28, h⟩ := h
    obtain ⟨h31, h⟩ := h
    obtain ⟨h32, h⟩ := h
    obtain ⟨M33, e34⟩ : ∃ M33, M33 = mUI M28 (mR M24 (mR M24 a0 10) 24) (Int.toNat ((8 * l1) + (mI M (mR M (mR M a0 10) 22) (Int.toNat l1)))) x29 := ⟨_, rfl⟩
    replace h := h M33 e34
    obtain ⟨h35, h⟩ := h
    obtain ⟨h36, h⟩ := h
    obtain ⟨h37, h⟩ := h
    obtain ⟨h38, h⟩ := h
    obtain ⟨h39, h⟩ := h
    obtain ⟨M40, e41⟩ : ∃ M40, M40 = mUI M33 (mR M33 (mR M33 a0 10) 25) (Int.toNat ((8 * l1) + (mI M (mR M (mR M a0 10) 22) (Int.toNat l1)))) (mI M33 (mR M33 (mR M33 a0 10) 27) 1) := ⟨_, rfl⟩
    replace h := h M40 e41
    have hOM33 : mOk M33 := by rw [e34]; exact mOk_UI hOM28 h30
    refine wm_iastE d_MM_branch0_81 h31 h32 h30 e34 ?_
    refine wm_aload_n d_MM_branch0_82 rfl rfl ?_
    refine gf_MM_38 rfl d_MM_branch0_83 h35 ?_
    refine gf_MM_498 rfl d_MM_branch0_86 h36 ?_
    refine wm_iload d_MM_branch0_89 rfl ?_
    refine wm_aload_n d_MM_branch0_91 rfl rfl ?_
    refine gf_MM_38 rfl d_MM_branch0_92 h35 ?_
    refine gf_MM_501 rfl d_MM_branch0_95 h36 ?_
    refine gf_MM_145 rfl d_MM_branch0_98 h37 ?_
    have hOM40 : mOk M40 := by rw [e41]; exact mOk_UI hOM33 (hOM33 _ _).1
    refine wm_iastE d_MM_branch0_101 h38 h39 (hOM33 _ _).1 e41 ?_
    refine wm_iload d_MM_branch0_102 rfl ?_
    refine wm_iconst d_MM_branch0_104 ?_
    refine wm_iadd d_MM_branch0_105 ?_
    refine wm_istore d_MM_branch0_106 (by decide) (L' := [vr a0, vi l1, vi l2, vi l3, vi (mI M (mR M (mR M a0 10) 22) (Int.toNat l1)), vi x15, vi ((8 * l1) + (mI M (mR M (mR M a0 10) 22) (Int.toNat l1))), vi (x15 + 1), vd]) rfl ?_
    refine wm_aload_n d_MM_branch0_108 rfl rfl ?_
    refine wm_iload d_MM_branch0_109 rfl ?_
    refine cf_MM_302 rfl d_MM_branch0_111 (by rw [e41]; exact h35) (Nat.le_of_ble_eq_true rfl) (Ci.mono h (fun x43 M42 h => ?_))
    obtain ⟨h44, hOM42, h⟩ := h
    refine wm_bipush d_MM_branch0_114 (by decide) ?_
    refine wm_icmp_ne (tgt := 125) d_MM_branch0_116 rfl h44 ⟨by decide, by decide⟩ (fun c46 => ?_) (fun c46 => ?_)
    · replace h := h.2 c46
      refine wm_iconst d_MM_branch0_125 ?_
      refine wm_istore d_MM_branch0_126 (by decide) (L' := [vr a0, vi l1, vi l2, vi l3, vi (mI M (mR M (mR M a0 10) 22) (Int.toNat l1)), vi x15, vi ((8 * l1) + (mI M (mR M (mR M a0 10) 22) (Int.toNat l1))), vi (x15 + 1), vi 1]) rfl ?_
      refine wm_less (L' := [vr a0, vi l1, vd, vd, vi (mI M (mR M (mR M a0 10) 22) (Int.toNat l1)), vd, vi ((8 * l1) + (mI M (mR M (mR M a0 10) 22) (Int.toNat l1))), vi (x15 + 1), vi 1]) ⟨Or.inr rfl, Or.inr rfl, Or.inl rfl, Or.inl rfl, Or.inr rfl, Or.inl rfl, Or.inr rfl, Or.inr rfl, Or.inr rfl, trivial⟩ ?_
      exact h
    · replace c46 := Classical.not_not.mp c46
      replace h := h.1 c46
      obtain ⟨h47, h⟩ := h
      obtain ⟨h48, h⟩ := h
      obtain ⟨h49, h⟩ := h
      obtain ⟨h50, h⟩ := h
      obtain ⟨h51, h⟩ := h
      obtain ⟨h52, h⟩ := h
      obtain ⟨h53, h⟩ := h
      obtain ⟨h54, h⟩ := h
      obtain ⟨M55, e56⟩ : ∃ M55, M55 = mUI M42 (mR M42 (mR M42 a0 10) 26) (Int.toNat ((8 * l1) + (mI M (mR M (mR M a0 10) 22) (Int.toNat l1)))) ((mI M42 (mR M42 (mR M42 a0 10) 27) 1) - (mI M42 (mR M42 (mR M42 a0 10) 25) (Int.toNat ((8 * l1) + (mI M (mR M (mR M a0 10) 22) (Int.toNat l1)))))) := ⟨_, rfl⟩
      replace h := h M55 e56
      obtain ⟨h57, h⟩ := h
      obtain ⟨h58, h⟩ := h
      obtain ⟨h59, h⟩ := h
      obtain ⟨h60, h⟩ := h
      obtain ⟨M61, e62⟩ : ∃ M61, M61 = mUI M55 (mR M55 (mR M55 a0 10) 22) (Int.toNat l1) ((mI M (mR M (mR M a0 10) 22) (Int.toNat l1)) + 1) := ⟨_, rfl⟩
      replace h := h M61 e62
      refine wm_iinc d_MM_branch0_119 (by decide) rfl (L' := [vr a0, vi l1, vi l2, vi l3, vi (mI M (mR M (mR M a0 10) 22) (Int.toNat l1)), vi x15, vi ((8 * l1) + (mI M (mR M (mR M a0 10) 22) (Int.toNat l1))), vi ((x15 + 1) + 1), vd]) rfl ?_
      refine wm_goto (tgt := 195) d_MM_branch0_122 rfl ?_
      refine wm_aload_n d_MM_branch0_195 rfl rfl ?_
      refine gf_MM_38 rfl d_MM_branch0_196 h47 ?_
      refine gf_MM_507 rfl d_MM_branch0_199 h48 ?_
      refine wm_iload d_MM_branch0_202 rfl ?_
      refine wm_aload_n d_MM_branch0_204 rfl rfl ?_
      refine gf_MM_38 rfl d_MM_branch0_205 h47 ?_
      refine gf_MM_501 rfl d_MM_branch0_208 h48 ?_
      refine gf_MM_145 rfl d_MM_branch0_211 h49 ?_
      refine wm_aload_n d_MM_branch0_214 rfl rfl ?_
      refine gf_MM_38 rfl d_MM_branch0_215 h47 ?_
      refine gf_MM_498 rfl d_MM_branch0_218 h48 ?_
      refine wm_iload d_MM_branch0_221 rfl ?_
      refine wm_iald d_MM_branch0_223 h50 h51 ?_
      refine wm_isub d_MM_branch0_224 ?_
      have hOM55 : mOk M55 := by rw [e56]; exact mOk_UI hOM42 h54
      refine wm_iastE d_MM_branch0_225 h52 h53 h54 e56 ?_
      refine wm_aload_n d_MM_branch0_226 rfl rfl ?_
      refine gf_MM_38 rfl d_MM_branch0_227 (by rw [e56]; exact h47) ?_
      refine gf_MM_486 rfl d_MM_branch0_230 h57 ?_
      refine wm_iload_n d_MM_branch0_233 rfl rfl ?_
      refine wm_iload d_MM_branch0_234 rfl ?_
      refine wm_iconst d_MM_branch0_236 ?_
      refine wm_iadd d_MM_branch0_237 ?_
      have hOM61 : mOk M61 := by rw [e62]; exact mOk_UI hOM55 h60
      refine wm_iastE d_MM_branch0_238 h58 h59 h60 e62 ?_
      refine wm_iload d_MM_branch0_239 rfl ?_
      refine wm_ireturn d_MM_branch0_241 rfl rfl ?_
      exact ⟨_, rfl, h⟩
  · replace c6 := Classical.not_not.mp c6
    replace h := h.1 c6
    refine wm_aload_n d_MM_branch0_18 rfl rfl ?_
    refine wm_iconst d_MM_branch0_19 ?_
    refine wm_aload_n d_MM_branch0_20 rfl rfl ?_
    refine wm_iload_n d_MM_branch0_21 rfl rfl ?_
    refine cf_MM_279 rfl d_MM_branch0_22 h1 (Nat.le_of_ble_eq_true rfl) (Ci.mono h (fun x8 M7 h => ?_))
    obtain ⟨h9, hOM7, h⟩ := h
    obtain ⟨h10, h⟩ := h
    refine cf_MM_351 rfl d_MM_branch0_25 h10 (Nat.le_of_ble_eq_true rfl) (Cv.mono h (fun M11 h => ?_))
    obtain ⟨hOM11, h⟩ := h
    refine wm_iload_n d_MM_branch0_28 rfl rfl ?_
    refine wm_ireturn d_MM_branch0_29 rfl rfl ?_
    exact ⟨_, rfl, h⟩
theorem k_MM_branch0_128 {G : mG} {d : Nat} {a0 : Nat} {l1 : Int} {l4 : Int} {l6 : Int} {l7 : Int} {l8 : Int} {M : mM} {Q : Int → mM → Prop} (hO : mOk M) (hi_l1 : i32 l1) (hi_l4 : i32 l4) (hi_l6 : i32 l6) (hi_l7 : i32 l7) (hi_l8 : i32 l8)
    (h : (¬ (l8 = 0) → mK M a0 = 14) ∧ (((l8 = 0) ∨ (¬ (mI M a0 16 = 0))) → (mK M a0 = 14 ∧ mK M (mR M a0 10) = 16 ∧ mK M (mR M (mR M a0 10) 27) = 15 ∧ mK M (mR M (mR M a0 10) 25) = 30 ∧ ((0 : Int) ≤ l6 ∧ l6 < (mN M (mR M (mR M a0 10) 25) : Int)) ∧ mK M (mR M (mR M a0 10) 26) = 30 ∧ ((0 : Int) ≤ l6 ∧ l6 < (mN M (mR M (mR M a0 10) 26) : Int)) ∧ i32 ((mI M (mR M (mR M a0 10) 27) 1) - (mI M (mR M (mR M a0 10) 25) (Int.toNat l6))) ∧ ∀ M76, M76 = mUI M (mR M (mR M a0 10) 26) (Int.toNat l6) ((mI M (mR M (mR M a0 10) 27) 1) - (mI M (mR M (mR M a0 10) 25) (Int.toNat l6))) → mK M76 (mR M76 a0 10) = 16 ∧ mK M76 (mR M76 (mR M76 a0 10) 22) = 30 ∧ ((0 : Int) ≤ l1 ∧ l1 < (mN M76 (mR M76 (mR M76 a0 10) 22) : Int)) ∧ i32 (l4 + 1) ∧ ∀ M82, M82 = mUI M76 (mR M76 (mR M76 a0 10) 22) (Int.toNat l1) (l4 + 1) → Q l7 M82)) ∧ (¬ ((l8 = 0) ∨ (¬ (mI M a0 16 = 0))) → (mK M a0 = 14 ∧ mK M (mR M a0 10) = 16 ∧ mK M (mR M (mR M a0 10) 25) = 30 ∧ ((0 : Int) ≤ l6 ∧ l6 < (mN M (mR M (mR M a0 10) 25) : Int)) ∧ Ci G y_MM_setItem d [vr a0, vi l7, vi (mI M (mR M (mR M a0 10) 25) (Int.toNat l6))] M (fun x90 M89 => i32 x90 ∧ mOk M89 ∧ (mK M89 a0 = 14 ∧ Ci G y_MM_word1 d [vr a0, vi x90] M89 (fun x94 M93 => i32 x94 ∧ mOk M93 ∧ (∀ v97 : Int, v97 = (if (x94 = 29) then 1 else 0) → ∀ v103 : Int, v103 = (if (v97 = 0) then x90 else x90 + 1) → h_MM_branch0_128 G d a0 l1 l4 l6 v103 v97 M93 Q))))))) :
    h_MM_branch0_128 G d a0 l1 l4 l6 l7 l8 M Q := by
  unfold h_MM_branch0_128
  refine wm_iload d_MM_branch0_128 rfl ?_
  obtain ⟨s66, h⟩ := h
  have hE0 : ((l8 = 0) ∨ (¬ (mI M a0 16 = 0))) → mWm G y_MM_branch0 (d + 1) 195 [vr a0, vi l1, vd, vd, vi l4, vd, vi l6, vi l7, vi l8] [] M (fun r9 M9 => ∃ x9, r9 = some (vi x9) ∧ Q x9 M9) := by
    intro q67
    have h := h.1 q67
    obtain ⟨h68, h⟩ := h
    obtain ⟨h69, h⟩ := h
    obtain ⟨h70, h⟩ := h
    obtain ⟨h71, h⟩ := h
    obtain ⟨h72, h⟩ := h
    obtain ⟨h73, h⟩ := h
    obtain ⟨h74, h⟩ := h
    obtain ⟨h75, h⟩ := h
    obtain ⟨M76, e77⟩ : ∃ M76, M76 = mUI M (mR M (mR M a0 10) 26) (Int.toNat l6) ((mI M (mR M (mR M a0 10) 27) 1) - (mI M (mR M (mR M a0 10) 25) (Int.toNat l6))) := ⟨_, rfl⟩
    replace h := h M76 e77
    obtain ⟨h78, h⟩ := h
    obtain ⟨h79, h⟩ := h
    obtain ⟨h80, h⟩ := h
    obtain ⟨h81, h⟩ := h
    obtain ⟨M82, e83⟩ : ∃ M82, M82 = mUI M76 (mR M76 (mR M76 a0 10) 22) (Int.toNat l1) (l4 + 1) := ⟨_, rfl⟩
    replace h := h M82 e83
    refine wm_aload_n d_MM_branch0_195 rfl rfl ?_
    refine gf_MM_38 rfl d_MM_branch0_196 h68 ?_
    refine gf_MM_507 rfl d_MM_branch0_199 h69 ?_
    refine wm_iload d_MM_branch0_202 rfl ?_
    refine wm_aload_n d_MM_branch0_204 rfl rfl ?_
    refine gf_MM_38 rfl d_MM_branch0_205 h68 ?_
    refine gf_MM_501 rfl d_MM_branch0_208 h69 ?_
    refine gf_MM_145 rfl d_MM_branch0_211 h70 ?_
    refine wm_aload_n d_MM_branch0_214 rfl rfl ?_
    refine gf_MM_38 rfl d_MM_branch0_215 h68 ?_
    refine gf_MM_498 rfl d_MM_branch0_218 h69 ?_
    refine wm_iload d_MM_branch0_221 rfl ?_
    refine wm_iald d_MM_branch0_223 h71 h72 ?_
    refine wm_isub d_MM_branch0_224 ?_
    have hOM76 : mOk M76 := by rw [e77]; exact mOk_UI hO h75
    refine wm_iastE d_MM_branch0_225 h73 h74 h75 e77 ?_
    refine wm_aload_n d_MM_branch0_226 rfl rfl ?_
    refine gf_MM_38 rfl d_MM_branch0_227 (by rw [e77]; exact h68) ?_
    refine gf_MM_486 rfl d_MM_branch0_230 h78 ?_
    refine wm_iload_n d_MM_branch0_233 rfl rfl ?_
    refine wm_iload d_MM_branch0_234 rfl ?_
    refine wm_iconst d_MM_branch0_236 ?_
    refine wm_iadd d_MM_branch0_237 ?_
    have hOM82 : mOk M82 := by rw [e83]; exact mOk_UI hOM76 h81
    refine wm_iastE d_MM_branch0_238 h79 h80 h81 e83 ?_
    refine wm_iload d_MM_branch0_239 rfl ?_
    refine wm_ireturn d_MM_branch0_241 rfl rfl ?_
    exact ⟨_, rfl, h⟩
  have hE1 : ¬ ((l8 = 0) ∨ (¬ (mI M a0 16 = 0))) → mWm G y_MM_branch0 (d + 1) 140 [vr a0, vi l1, vd, vd, vi l4, vd, vi l6, vi l7, vi l8] [] M (fun r9 M9 => ∃ x9, r9 = some (vi x9) ∧ Q x9 M9) := by
    intro q84
    have h := h.2 q84
    obtain ⟨h85, h⟩ := h
    obtain ⟨h86, h⟩ := h
    obtain ⟨h87, h⟩ := h
    obtain ⟨h88, h⟩ := h
    refine wm_aload_n d_MM_branch0_140 rfl rfl ?_
    refine wm_iload d_MM_branch0_141 rfl ?_
    refine wm_aload_n d_MM_branch0_143 rfl rfl ?_
    refine gf_MM_38 rfl d_MM_branch0_144 h85 ?_
    refine gf_MM_498 rfl d_MM_branch0_147 h86 ?_
    refine wm_iload d_MM_branch0_150 rfl ?_
    refine wm_iald d_MM_branch0_152 h87 h88 ?_
    refine cf_MM_504 rfl d_MM_branch0_153 h85 (Nat.le_of_ble_eq_true rfl) (Ci.mono h (fun x90 M89 h => ?_))
    obtain ⟨h91, hOM89, h⟩ := h
    obtain ⟨h92, h⟩ := h
    refine wm_istore d_MM_branch0_156 (by decide) (L' := [vr a0, vi l1, vd, vd, vi l4, vd, vi l6, vi x90, vi l8]) rfl ?_
    refine wm_aload_n d_MM_branch0_158 rfl rfl ?_
    refine wm_iload d_MM_branch0_159 rfl ?_
    refine cf_MM_302 rfl d_MM_branch0_161 h92 (Nat.le_of_ble_eq_true rfl) (Ci.mono h (fun x94 M93 h => ?_))
    obtain ⟨h95, hOM93, h⟩ := h
    refine wm_bipush d_MM_branch0_164 (by decide) ?_
    have hJ : ∀ v97 : Int, v97 = (if (x94 = 29) then 1 else 0) → mWm G y_MM_branch0 (d + 1) 174 [vr a0, vi l1, vd, vd, vi l4, vd, vi l6, vi x90, vd] [vi v97] M93 (fun r9 M9 => ∃ x9, r9 = some (vi x9) ∧ Q x9 M9) := by
      intro v97 e99
      have h := h v97 e99
      have h100 : i32 v97 := by rw [e99]; (repeat' split) <;> first | exact ⟨by decide, by decide⟩ | exact ⟨by decide, by decide⟩
      have h101 : (v97 = 0 ∨ v97 = 1) := by rw [e99]; (repeat' split) <;> decide
      refine wm_istore d_MM_branch0_174 (by decide) (L' := [vr a0, vi l1, vd, vd, vi l4, vd, vi l6, vi x90, vi v97]) rfl ?_
      refine wm_iload d_MM_branch0_176 rfl ?_
      have hJ : ∀ v103 : Int, v103 = (if (v97 = 0) then x90 else x90 + 1) → mWm G y_MM_branch0 (d + 1) 190 [vr a0, vi l1, vd, vd, vi l4, vd, vi l6, vd, vi v97] [vi v103] M93 (fun r9 M9 => ∃ x9, r9 = some (vi x9) ∧ Q x9 M9) := by
        intro v103 e105
        have h := h v103 e105
        refine wm_istore d_MM_branch0_190 (by decide) (L' := [vr a0, vi l1, vd, vd, vi l4, vd, vi l6, vi v103, vi v97]) rfl ?_
        refine wm_goto (tgt := 128) d_MM_branch0_192 rfl ?_
        exact h
      clear h
      refine wm_if_eq (tgt := 188) d_MM_branch0_178 rfl h100 (fun c102 => ?_) (fun c102 => ?_)
      · refine wm_iload d_MM_branch0_188 rfl ?_
        refine wm_less (L' := [vr a0, vi l1, vd, vd, vi l4, vd, vi l6, vd, vi v97]) ⟨Or.inr rfl, Or.inr rfl, Or.inl rfl, Or.inl rfl, Or.inr rfl, Or.inl rfl, Or.inr rfl, Or.inl rfl, Or.inr rfl, trivial⟩ ?_
        exact hJ x90 (if_pos c102).symm
      · refine wm_iload d_MM_branch0_181 rfl ?_
        refine wm_iconst d_MM_branch0_183 ?_
        refine wm_iadd d_MM_branch0_184 ?_
        refine wm_goto (tgt := 190) d_MM_branch0_185 rfl ?_
        refine wm_less (L' := [vr a0, vi l1, vd, vd, vi l4, vd, vi l6, vd, vi v97]) ⟨Or.inr rfl, Or.inr rfl, Or.inl rfl, Or.inl rfl, Or.inr rfl, Or.inl rfl, Or.inr rfl, Or.inl rfl, Or.inr rfl, trivial⟩ ?_
        exact hJ (x90 + 1) (if_neg c102).symm
    clear h
    refine wm_icmp_ne (tgt := 173) d_MM_branch0_166 rfl h95 ⟨by decide, by decide⟩ (fun c96 => ?_) (fun c96 => ?_)
    · refine wm_iconst d_MM_branch0_173 ?_
      refine wm_less (L' := [vr a0, vi l1, vd, vd, vi l4, vd, vi l6, vi x90, vd]) ⟨Or.inr rfl, Or.inr rfl, Or.inl rfl, Or.inl rfl, Or.inr rfl, Or.inl rfl, Or.inr rfl, Or.inr rfl, Or.inl rfl, trivial⟩ ?_
      exact hJ 0 (if_neg c96).symm
    · replace c96 := Classical.not_not.mp c96
      refine wm_iconst d_MM_branch0_169 ?_
      refine wm_goto (tgt := 174) d_MM_branch0_170 rfl ?_
      refine wm_less (L' := [vr a0, vi l1, vd, vd, vi l4, vd, vi l6, vi x90, vd]) ⟨Or.inr rfl, Or.inr rfl, Or.inl rfl, Or.inl rfl, Or.inr rfl, Or.inl rfl, Or.inr rfl, Or.inr rfl, Or.inl rfl, trivial⟩ ?_
      exact hJ 1 (if_pos c96).symm
  clear h
  have s108 := s66
  refine wm_if_eq (tgt := 195) d_MM_branch0_130 rfl hi_l8 (fun c65 => ?_) (fun c65 => ?_)
  · exact hE0 (Or.inl c65)
  · have s108 := s108 c65
    have h63 := s108
    refine wm_aload_n d_MM_branch0_133 rfl rfl ?_
    refine gf_MM_267 rfl d_MM_branch0_134 h63 ?_
    refine wm_if_ne (tgt := 195) d_MM_branch0_137 rfl (hO _ _).1 (fun c64 => ?_) (fun c64 => ?_)
    · exact hE0 (Or.inr c64)
    · replace c64 := Classical.not_not.mp c64
      exact hE1 (fun z109 => Or.elim z109 c65 (fun z110 => z110 c64))
theorem d_MM_setItem_0 : decode y_MM_setItem.2.1 0 = .ok (.aload_n 0, 1) := by decide +kernel
theorem d_MM_setItem_1 : decode y_MM_setItem.2.1 1 = .ok (.iload_n 1, 1) := by decide +kernel
theorem d_MM_setItem_2 : decode y_MM_setItem.2.1 2 = .ok (.invokevirtual 510, 3) := by decide +kernel
theorem d_MM_setItem_5 : decode y_MM_setItem.2.1 5 = .ok (.istore_n 3, 1) := by decide +kernel
theorem d_MM_setItem_6 : decode y_MM_setItem.2.1 6 = .ok (.aload_n 0, 1) := by decide +kernel
theorem d_MM_setItem_7 : decode y_MM_setItem.2.1 7 = .ok (.iload_n 1, 1) := by decide +kernel
theorem d_MM_setItem_8 : decode y_MM_setItem.2.1 8 = .ok (.iconst 1, 1) := by decide +kernel
theorem d_MM_setItem_9 : decode y_MM_setItem.2.1 9 = .ok (.iadd, 1) := by decide +kernel
theorem d_MM_setItem_10 : decode y_MM_setItem.2.1 10 = .ok (.invokevirtual 354, 3) := by decide +kernel
theorem d_MM_setItem_13 : decode y_MM_setItem.2.1 13 = .ok (.istore 4, 2) := by decide +kernel
theorem d_MM_setItem_15 : decode y_MM_setItem.2.1 15 = .ok (.iload 4, 2) := by decide +kernel
theorem d_MM_setItem_17 : decode y_MM_setItem.2.1 17 = .ok (.ifCond .lt 16, 3) := by decide +kernel
theorem d_MM_setItem_20 : decode y_MM_setItem.2.1 20 = .ok (.aload_n 0, 1) := by decide +kernel
theorem d_MM_setItem_21 : decode y_MM_setItem.2.1 21 = .ok (.getfield 48, 3) := by decide +kernel
theorem d_MM_setItem_24 : decode y_MM_setItem.2.1 24 = .ok (.iload 4, 2) := by decide +kernel
theorem d_MM_setItem_33 : decode y_MM_setItem.2.1 33 = .ok (.aload_n 0, 1) := by decide +kernel
theorem d_MM_setItem_34 : decode y_MM_setItem.2.1 34 = .ok (.iconst 2, 1) := by decide +kernel
theorem d_MM_setItem_35 : decode y_MM_setItem.2.1 35 = .ok (.aload_n 0, 1) := by decide +kernel
theorem d_MM_setItem_36 : decode y_MM_setItem.2.1 36 = .ok (.iload_n 1, 1) := by decide +kernel
theorem d_MM_setItem_37 : decode y_MM_setItem.2.1 37 = .ok (.iconst 1, 1) := by decide +kernel
theorem d_MM_setItem_38 : decode y_MM_setItem.2.1 38 = .ok (.iadd, 1) := by decide +kernel
theorem d_MM_setItem_39 : decode y_MM_setItem.2.1 39 = .ok (.invokevirtual 279, 3) := by decide +kernel
theorem d_MM_setItem_42 : decode y_MM_setItem.2.1 42 = .ok (.invokevirtual 351, 3) := by decide +kernel
theorem d_MM_setItem_45 : decode y_MM_setItem.2.1 45 = .ok (.iload_n 3, 1) := by decide +kernel
theorem d_MM_setItem_46 : decode y_MM_setItem.2.1 46 = .ok (.ireturn, 1) := by decide +kernel
theorem d_MM_setItem_26 : decode y_MM_setItem.2.1 26 = .ok (.invokevirtual 155, 3) := by decide +kernel
theorem d_MM_setItem_29 : decode y_MM_setItem.2.1 29 = .ok (.iconst 3, 1) := by decide +kernel
theorem d_MM_setItem_30 : decode y_MM_setItem.2.1 30 = .ok (.if_icmp .eq 17, 3) := by decide +kernel
theorem d_MM_setItem_47 : decode y_MM_setItem.2.1 47 = .ok (.aload_n 0, 1) := by decide +kernel
theorem d_MM_setItem_48 : decode y_MM_setItem.2.1 48 = .ok (.getfield 51, 3) := by decide +kernel
theorem d_MM_setItem_51 : decode y_MM_setItem.2.1 51 = .ok (.iload 4, 2) := by decide +kernel
theorem d_MM_setItem_53 : decode y_MM_setItem.2.1 53 = .ok (.invokevirtual 155, 3) := by decide +kernel
theorem d_MM_setItem_56 : decode y_MM_setItem.2.1 56 = .ok (.istore 5, 2) := by decide +kernel
theorem d_MM_setItem_58 : decode y_MM_setItem.2.1 58 = .ok (.iload_n 2, 1) := by decide +kernel
theorem d_MM_setItem_59 : decode y_MM_setItem.2.1 59 = .ok (.istore 6, 2) := by decide +kernel
theorem d_MM_setItem_61 : decode y_MM_setItem.2.1 61 = .ok (.iload 6, 2) := by decide +kernel
theorem d_MM_setItem_63 : decode y_MM_setItem.2.1 63 = .ok (.aload_n 0, 1) := by decide +kernel
theorem d_MM_setItem_64 : decode y_MM_setItem.2.1 64 = .ok (.getfield 38, 3) := by decide +kernel
theorem d_MM_setItem_67 : decode y_MM_setItem.2.1 67 = .ok (.getfield 501, 3) := by decide +kernel
theorem d_MM_setItem_70 : decode y_MM_setItem.2.1 70 = .ok (.getfield 145, 3) := by decide +kernel
theorem d_MM_setItem_73 : decode y_MM_setItem.2.1 73 = .ok (.if_icmp .ge 40, 3) := by decide +kernel
theorem d_MM_setItem_113 : decode y_MM_setItem.2.1 113 = .ok (.aload_n 0, 1) := by decide +kernel
theorem d_MM_setItem_114 : decode y_MM_setItem.2.1 114 = .ok (.iload_n 1, 1) := by decide +kernel
theorem d_MM_setItem_115 : decode y_MM_setItem.2.1 115 = .ok (.iconst 4, 1) := by decide +kernel
theorem d_MM_setItem_116 : decode y_MM_setItem.2.1 116 = .ok (.iadd, 1) := by decide +kernel
theorem d_MM_setItem_117 : decode y_MM_setItem.2.1 117 = .ok (.iload_n 3, 1) := by decide +kernel
theorem d_MM_setItem_118 : decode y_MM_setItem.2.1 118 = .ok (.aload_n 0, 1) := by decide +kernel
theorem d_MM_setItem_119 : decode y_MM_setItem.2.1 119 = .ok (.getfield 38, 3) := by decide +kernel
theorem d_MM_setItem_122 : decode y_MM_setItem.2.1 122 = .ok (.getfield 357, 3) := by decide +kernel
theorem d_MM_setItem_125 : decode y_MM_setItem.2.1 125 = .ok (.iload 5, 2) := by decide +kernel
theorem d_MM_setItem_127 : decode y_MM_setItem.2.1 127 = .ok (.baload, 1) := by decide +kernel
theorem d_MM_setItem_128 : decode y_MM_setItem.2.1 128 = .ok (.iconst 0, 1) := by decide +kernel
theorem d_MM_setItem_76 : decode y_MM_setItem.2.1 76 = .ok (.aload_n 0, 1) := by decide +kernel
theorem d_MM_setItem_77 : decode y_MM_setItem.2.1 77 = .ok (.getfield 38, 3) := by decide +kernel
theorem d_MM_setItem_80 : decode y_MM_setItem.2.1 80 = .ok (.getfield 501, 3) := by decide +kernel
theorem d_MM_setItem_83 : decode y_MM_setItem.2.1 83 = .ok (.iload 6, 2) := by decide +kernel
theorem d_MM_setItem_129 : decode y_MM_setItem.2.1 129 = .ok (.invokevirtual 441, 3) := by decide +kernel
theorem d_MM_setItem_132 : decode y_MM_setItem.2.1 132 = .ok (.istore 6, 2) := by decide +kernel
theorem d_MM_setItem_134 : decode y_MM_setItem.2.1 134 = .ok (.aload_n 0, 1) := by decide +kernel
theorem d_MM_setItem_135 : decode y_MM_setItem.2.1 135 = .ok (.getfield 38, 3) := by decide +kernel
theorem d_MM_setItem_138 : decode y_MM_setItem.2.1 138 = .ok (.getfield 501, 3) := by decide +kernel
theorem d_MM_setItem_141 : decode y_MM_setItem.2.1 141 = .ok (.iload 5, 2) := by decide +kernel
theorem d_MM_setItem_143 : decode y_MM_setItem.2.1 143 = .ok (.invokevirtual 152, 3) := by decide +kernel
theorem d_MM_setItem_146 : decode y_MM_setItem.2.1 146 = .ok (.aload_n 0, 1) := by decide +kernel
theorem d_MM_setItem_147 : decode y_MM_setItem.2.1 147 = .ok (.getfield 38, 3) := by decide +kernel
theorem d_MM_setItem_150 : decode y_MM_setItem.2.1 150 = .ok (.getfield 513, 3) := by decide +kernel
theorem d_MM_setItem_153 : decode y_MM_setItem.2.1 153 = .ok (.aload_n 0, 1) := by decide +kernel
theorem d_MM_setItem_154 : decode y_MM_setItem.2.1 154 = .ok (.iload_n 1, 1) := by decide +kernel
theorem d_MM_setItem_155 : decode y_MM_setItem.2.1 155 = .ok (.invokevirtual 279, 3) := by decide +kernel
theorem d_MM_setItem_158 : decode y_MM_setItem.2.1 158 = .ok (.invokevirtual 152, 3) := by decide +kernel
theorem d_MM_setItem_161 : decode y_MM_setItem.2.1 161 = .ok (.aload_n 0, 1) := by decide +kernel
theorem d_MM_setItem_162 : decode y_MM_setItem.2.1 162 = .ok (.getfield 38, 3) := by decide +kernel
theorem d_MM_setItem_165 : decode y_MM_setItem.2.1 165 = .ok (.getfield 516, 3) := by decide +kernel
theorem d_MM_setItem_168 : decode y_MM_setItem.2.1 168 = .ok (.iload 6, 2) := by decide +kernel
theorem d_MM_setItem_170 : decode y_MM_setItem.2.1 170 = .ok (.invokevirtual 152, 3) := by decide +kernel
theorem d_MM_setItem_173 : decode y_MM_setItem.2.1 173 = .ok (.iload_n 3, 1) := by decide +kernel
theorem d_MM_setItem_174 : decode y_MM_setItem.2.1 174 = .ok (.iconst 1, 1) := by decide +kernel
theorem d_MM_setItem_175 : decode y_MM_setItem.2.1 175 = .ok (.iadd, 1) := by decide +kernel
theorem d_MM_setItem_176 : decode y_MM_setItem.2.1 176 = .ok (.ireturn, 1) := by decide +kernel
theorem d_MM_setItem_85 : decode y_MM_setItem.2.1 85 = .ok (.invokevirtual 155, 3) := by decide +kernel
theorem d_MM_setItem_88 : decode y_MM_setItem.2.1 88 = .ok (.iload 5, 2) := by decide +kernel
theorem d_MM_setItem_90 : decode y_MM_setItem.2.1 90 = .ok (.if_icmp .ne 17, 3) := by decide +kernel
theorem d_MM_setItem_93 : decode y_MM_setItem.2.1 93 = .ok (.aload_n 0, 1) := by decide +kernel
theorem d_MM_setItem_94 : decode y_MM_setItem.2.1 94 = .ok (.iconst 4, 1) := by decide +kernel
theorem d_MM_setItem_95 : decode y_MM_setItem.2.1 95 = .ok (.aload_n 0, 1) := by decide +kernel
theorem d_MM_setItem_96 : decode y_MM_setItem.2.1 96 = .ok (.iload_n 1, 1) := by decide +kernel
theorem d_MM_setItem_97 : decode y_MM_setItem.2.1 97 = .ok (.iconst 1, 1) := by decide +kernel
theorem d_MM_setItem_98 : decode y_MM_setItem.2.1 98 = .ok (.iadd, 1) := by decide +kernel
theorem d_MM_setItem_107 : decode y_MM_setItem.2.1 107 = .ok (.iinc 6 1, 3) := by decide +kernel
theorem d_MM_setItem_110 : decode y_MM_setItem.2.1 110 = .ok (.goto (-49), 3) := by decide +kernel
theorem d_MM_setItem_99 : decode y_MM_setItem.2.1 99 = .ok (.invokevirtual 279, 3) := by decide +kernel
theorem d_MM_setItem_102 : decode y_MM_setItem.2.1 102 = .ok (.invokevirtual 351, 3) := by decide +kernel
theorem d_MM_setItem_105 : decode y_MM_setItem.2.1 105 = .ok (.iload_n 3, 1) := by decide +kernel
theorem d_MM_setItem_106 : decode y_MM_setItem.2.1 106 = .ok (.ireturn, 1) := by decide +kernel
def h_MM_setItem_61 (G : mG) (d : Nat) (a0 : Nat) (l1 : Int) (l3 : Int) (l5 : Int) (l6 : Int) (M : mM) (Q : Int → mM → Prop) : Prop := mWm G y_MM_setItem (d + 1) 61 [vr a0, vi l1, vd, vi l3, vd, vi l5, vi l6] [] M (fun r9 M9 => ∃ x9, r9 = some (vi x9) ∧ Q x9 M9)
theorem k_MM_setItem {G : mG} {d : Nat} {a0 : Nat} {l1 : Int} {l2 : Int} {M : mM} {Q : Int → mM → Prop} (hO : mOk M) (hi_l1 : i32 l1) (hi_l2 : i32 l2)
    (h : mK M a0 = 14 ∧ Ci G y_MM_closeOf d [vr a0, vi l1] M (fun x3 M2 => i32 x3 ∧ mOk M2 ∧ (mK M2 a0 = 14 ∧ Ci G y_MM_find d [vr a0, vi (l1 + 1)] M2 (fun x7 M6 => i32 x7 ∧ mOk M6 ∧ (((x7 < 0) → (mK M6 a0 = 14 ∧ Ci G y_MM_place0 d [vr a0, vi (l1 + 1)] M6 (fun x13 M12 => i32 x13 ∧ mOk M12 ∧ (mK M12 a0 = 14 ∧ Cv G y_MM_stop d [vr a0, vi 2, vi x13] M12 (fun M16 => mOk M16 ∧ (Q x3 M16)))))) ∧ (¬ (x7 < 0) → (mK M6 a0 = 14 ∧ mK M6 (mR M6 a0 14) = 15 ∧ Ci G y_MN_at d [vr (mR M6 a0 14), vi x7] M6 (fun x22 M21 => i32 x22 ∧ mOk M21 ∧ (((x22 = 3) → (mK M21 a0 = 14 ∧ mK M21 (mR M21 a0 15) = 15 ∧ Ci G y_MN_at d [vr (mR M21 a0 15), vi x7] M21 (fun x29 M28 => i32 x29 ∧ mOk M28 ∧ (h_MM_setItem_61 G d a0 l1 x3 x29 l2 M28 Q)))) ∧ (¬ (x22 = 3) → (mK M21 a0 = 14 ∧ Ci G y_MM_place0 d [vr a0, vi (l1 + 1)] M21 (fun x33 M32 => i32 x33 ∧ mOk M32 ∧ (mK M32 a0 = 14 ∧ Cv G y_MM_stop d [vr a0, vi 2, vi x33] M32 (fun M36 => mOk M36 ∧ (Q x3 M36))))))))))))))) :
    Ci G y_MM_setItem (d + 1) [vr a0, vi l1, vi l2] M Q := by
  refine wm_open (y := y_MM_setItem) rfl (Nat.le_of_ble_eq_true rfl) (L := [vr a0, vi l1, vi l2, vd, vd, vd, vd]) rfl ?_
  obtain ⟨h1, h⟩ := h
  refine wm_aload_n d_MM_setItem_0 rfl rfl ?_
  refine wm_iload_n d_MM_setItem_1 rfl rfl ?_
  refine cf_MM_510 rfl d_MM_setItem_2 h1 (Nat.le_of_ble_eq_true rfl) (Ci.mono h (fun x3 M2 h => ?_))
  obtain ⟨h4, hOM2, h⟩ := h
  obtain ⟨h5, h⟩ := h
  refine wm_istore_n d_MM_setItem_5 rfl (by decide) (L' := [vr a0, vi l1, vi l2, vi x3, vd, vd, vd]) rfl ?_
  refine wm_aload_n d_MM_setItem_6 rfl rfl ?_
  refine wm_iload_n d_MM_setItem_7 rfl rfl ?_
  refine wm_iconst d_MM_setItem_8 ?_
  refine wm_iadd d_MM_setItem_9 ?_
  refine cf_MM_354 rfl d_MM_setItem_10 h5 (Nat.le_of_ble_eq_true rfl) (Ci.mono h (fun x7 M6 h => ?_))
  obtain ⟨h8, hOM6, h⟩ := h
  refine wm_istore d_MM_setItem_13 (by decide) (L' := [vr a0, vi l1, vi l2, vi x3, vi x7, vd, vd]) rfl ?_
  refine wm_iload d_MM_setItem_15 rfl ?_
  refine wm_if_lt (tgt := 33) d_MM_setItem_17 rfl h8 (fun c10 => ?_) (fun c10 => ?_)
  · replace h := h.1 c10
    obtain ⟨h11, h⟩ := h
    refine wm_aload_n d_MM_setItem_33 rfl rfl ?_
    refine wm_iconst d_MM_setItem_34 ?_
    refine wm_aload_n d_MM_setItem_35 rfl rfl ?_
    refine wm_iload_n d_MM_setItem_36 rfl rfl ?_
    refine wm_iconst d_MM_setItem_37 ?_
    refine wm_iadd d_MM_setItem_38 ?_
    refine cf_MM_279 rfl d_MM_setItem_39 h11 (Nat.le_of_ble_eq_true rfl) (Ci.mono h (fun x13 M12 h => ?_))
    obtain ⟨h14, hOM12, h⟩ := h
    obtain ⟨h15, h⟩ := h
    refine cf_MM_351 rfl d_MM_setItem_42 h15 (Nat.le_of_ble_eq_true rfl) (Cv.mono h (fun M16 h => ?_))
    obtain ⟨hOM16, h⟩ := h
    refine wm_iload_n d_MM_setItem_45 rfl rfl ?_
    refine wm_ireturn d_MM_setItem_46 rfl rfl ?_
    exact ⟨_, rfl, h⟩
  · replace h := h.2 c10
    obtain ⟨h19, h⟩ := h
    obtain ⟨h20, h⟩ := h
    refine wm_aload_n d_MM_setItem_20 rfl rfl ?_
    refine gf_MM_48 rfl d_MM_setItem_21 h19 ?_
    refine wm_iload d_MM_setItem_24 rfl ?_
    refine cf_MM_155 rfl d_MM_setItem_26 h20 (Nat.le_of_ble_eq_true rfl) (Ci.mono h (fun x22 M21 h => ?_))
    obtain ⟨h23, hOM21, h⟩ := h
    refine wm_iconst d_MM_setItem_29 ?_
    refine wm_icmp_eq (tgt := 47) d_MM_setItem_30 rfl h23 ⟨by decide, by decide⟩ (fun c25 => ?_) (fun c25 => ?_)
    · replace h := h.1 c25
      obtain ⟨h26, h⟩ := h
      obtain ⟨h27, h⟩ := h
      refine wm_aload_n d_MM_setItem_47 rfl rfl ?_
      refine gf_MM_51 rfl d_MM_setItem_48 h26 ?_
      refine wm_iload d_MM_setItem_51 rfl ?_
      refine cf_MM_155 rfl d_MM_setItem_53 h27 (Nat.le_of_ble_eq_true rfl) (Ci.mono h (fun x29 M28 h => ?_))
      obtain ⟨h30, hOM28, h⟩ := h
      refine wm_istore d_MM_setItem_56 (by decide) (L' := [vr a0, vi l1, vi l2, vi x3, vi x7, vi x29, vd]) rfl ?_
      refine wm_iload_n d_MM_setItem_58 rfl rfl ?_
      refine wm_istore d_MM_setItem_59 (by decide) (L' := [vr a0, vi l1, vi l2, vi x3, vi x7, vi x29, vi l2]) rfl ?_
      refine wm_less (L' := [vr a0, vi l1, vd, vi x3, vd, vi x29, vi l2]) ⟨Or.inr rfl, Or.inr rfl, Or.inl rfl, Or.inr rfl, Or.inl rfl, Or.inr rfl, Or.inr rfl, trivial⟩ ?_
      exact h
    · replace h := h.2 c25
      obtain ⟨h31, h⟩ := h
      refine wm_aload_n d_MM_setItem_33 rfl rfl ?_
      refine wm_iconst d_MM_setItem_34 ?_
      refine wm_aload_n d_MM_setItem_35 rfl rfl ?_
      refine wm_iload_n d_MM_setItem_36 rfl rfl ?_
      refine wm_iconst d_MM_setItem_37 ?_
      refine wm_iadd d_MM_setItem_38 ?_
      refine cf_MM_279 rfl d_MM_setItem_39 h31 (Nat.le_of_ble_eq_true rfl) (Ci.mono h (fun x33 M32 h => ?_))
      obtain ⟨h34, hOM32, h⟩ := h
      obtain ⟨h35, h⟩ := h
      refine cf_MM_351 rfl d_MM_setItem_42 h35 (Nat.le_of_ble_eq_true rfl) (Cv.mono h (fun M36 h => ?_))
      obtain ⟨hOM36, h⟩ := h
      refine wm_iload_n d_MM_setItem_45 rfl rfl ?_
      refine wm_ireturn d_MM_setItem_46 rfl rfl ?_
      exact ⟨_, rfl, h⟩
theorem k_MM_setItem_61 {G : mG} {d : Nat} {a0 : Nat} {l1 : Int} {l3 : Int} {l5 : Int} {l6 : Int} {M : mM} {Q : Int → mM → Prop} (hO : mOk M) (hi_l1 : i32 l1) (hi_l3 : i32 l3) (hi_l5 : i32 l5) (hi_l6 : i32 l6)
    (h : mK M a0 = 14 ∧ mK M (mR M a0 10) = 16 ∧ mK M (mR M (mR M a0 10) 27) = 15 ∧ ((mI M (mR M (mR M a0 10) 27) 1 ≤ l6) → (mK M (mR M (mR M a0 10) 13) = 31 ∧ ((0 : Int) ≤ l5 ∧ l5 < (mN M (mR M (mR M a0 10) 13) : Int)) ∧ Ci G y_MM_rule1 d [vr a0, vi (l1 + 4), vi l3, vi (mI M (mR M (mR M a0 10) 13) (Int.toNat l5)), vi 0] M (fun x47 M46 => i32 x47 ∧ mOk M46 ∧ (mK M46 a0 = 14 ∧ mK M46 (mR M46 a0 10) = 16 ∧ mK M46 (mR M46 (mR M46 a0 10) 27) = 15 ∧ Cv G y_MN_add d [vr (mR M46 (mR M46 a0 10) 27), vi l5] M46 (fun M52 => mOk M52 ∧ (mK M52 a0 = 14 ∧ mK M52 (mR M52 a0 10) = 16 ∧ Ci G y_MM_place0 d [vr a0, vi l1] M52 (fun x58 M57 => i32 x58 ∧ mOk M57 ∧ (mK M57 (mR M52 (mR M52 a0 10) 28) = 15 ∧ Cv G y_MN_add d [vr (mR M52 (mR M52 a0 10) 28), vi x58] M57 (fun M61 => mOk M61 ∧ (mK M61 a0 = 14 ∧ mK M61 (mR M61 a0 10) = 16 ∧ mK M61 (mR M61 (mR M61 a0 10) 29) = 15 ∧ Cv G y_MN_add d [vr (mR M61 (mR M61 a0 10) 29), vi x47] M61 (fun M67 => mOk M67 ∧ (Q (l3 + 1) M67)))))))))))) ∧ (¬ (mI M (mR M (mR M a0 10) 27) 1 ≤ l6) → (Ci G y_MN_at d [vr (mR M (mR M a0 10) 27), vi l6] M (fun x71 M70 => i32 x71 ∧ mOk M70 ∧ (((x71 = l5) → (mK M70 a0 = 14 ∧ Ci G y_MM_place0 d [vr a0, vi (l1 + 1)] M70 (fun x77 M76 => i32 x77 ∧ mOk M76 ∧ (mK M76 a0 = 14 ∧ Cv G y_MM_stop d [vr a0, vi 4, vi x77] M76 (fun M80 => mOk M80 ∧ (Q l3 M80)))))) ∧ (¬ (x71 = l5) → (h_MM_setItem_61 G d a0 l1 l3 l5 (l6 + 1) M70 Q))))))) :
    h_MM_setItem_61 G d a0 l1 l3 l5 l6 M Q := by
  unfold h_MM_setItem_61
  obtain ⟨h39, h⟩ := h
  obtain ⟨h40, h⟩ := h
  obtain ⟨h41, h⟩ := h
  refine wm_iload d_MM_setItem_61 rfl ?_
  refine wm_aload_n d_MM_setItem_63 rfl rfl ?_
  refine gf_MM_38 rfl d_MM_setItem_64 h39 ?_
  refine gf_MM_501 rfl d_MM_setItem_67 h40 ?_
  refine gf_MM_145 rfl d_MM_setItem_70 h41 ?_
  refine wm_icmp_ge (tgt := 113) d_MM_setItem_73 rfl hi_l6 (hO _ _).1 (fun c43 => ?_) (fun c43 => ?_)
  · replace h := h.1 c43
    obtain ⟨h44, h⟩ := h
    obtain ⟨h45, h⟩ := h
    refine wm_aload_n d_MM_setItem_113 rfl rfl ?_
    refine wm_iload_n d_MM_setItem_114 rfl rfl ?_
    refine wm_iconst d_MM_setItem_115 ?_
    refine wm_iadd d_MM_setItem_116 ?_
    refine wm_iload_n d_MM_setItem_117 rfl rfl ?_
    refine wm_aload_n d_MM_setItem_118 rfl rfl ?_
    refine gf_MM_38 rfl d_MM_setItem_119 h39 ?_
    refine gf_MM_357 rfl d_MM_setItem_122 h40 ?_
    refine wm_iload d_MM_setItem_125 rfl ?_
    refine wm_zald d_MM_setItem_127 h44 h45 ?_
    refine wm_iconst d_MM_setItem_128 ?_
    refine cf_MM_441 rfl d_MM_setItem_129 h39 (Nat.le_of_ble_eq_true rfl) (Ci.mono h (fun x47 M46 h => ?_))
    obtain ⟨h48, hOM46, h⟩ := h
    obtain ⟨h49, h⟩ := h
    obtain ⟨h50, h⟩ := h
    obtain ⟨h51, h⟩ := h
    refine wm_istore d_MM_setItem_132 (by decide) (L' := [vr a0, vi l1, vd, vi l3, vd, vi l5, vi x47]) rfl ?_
    refine wm_aload_n d_MM_setItem_134 rfl rfl ?_
    refine gf_MM_38 rfl d_MM_setItem_135 h49 ?_
    refine gf_MM_501 rfl d_MM_setItem_138 h50 ?_
    refine wm_iload d_MM_setItem_141 rfl ?_
    refine cf_MM_152 rfl d_MM_setItem_143 h51 (Nat.le_of_ble_eq_true rfl) (Cv.mono h (fun M52 h => ?_))
    obtain ⟨hOM52, h⟩ := h
    obtain ⟨h55, h⟩ := h
    obtain ⟨h56, h⟩ := h
    refine wm_aload_n d_MM_setItem_146 rfl rfl ?_
    refine gf_MM_38 rfl d_MM_setItem_147 h55 ?_
    refine gf_MM_513 rfl d_MM_setItem_150 h56 ?_
    refine wm_aload_n d_MM_setItem_153 rfl rfl ?_
    refine wm_iload_n d_MM_setItem_154 rfl rfl ?_
    refine cf_MM_279 rfl d_MM_setItem_155 h55 (Nat.le_of_ble_eq_true rfl) (Ci.mono h (fun x58 M57 h => ?_))
    obtain ⟨h59, hOM57, h⟩ := h
    obtain ⟨h60, h⟩ := h
    refine cf_MM_152 rfl d_MM_setItem_158 h60 (Nat.le_of_ble_eq_true rfl) (Cv.mono h (fun M61 h => ?_))
    obtain ⟨hOM61, h⟩ := h
    obtain ⟨h64, h⟩ := h
    obtain ⟨h65, h⟩ := h
    obtain ⟨h66, h⟩ := h
    refine wm_aload_n d_MM_setItem_161 rfl rfl ?_
    refine gf_MM_38 rfl d_MM_setItem_162 h64 ?_
    refine gf_MM_516 rfl d_MM_setItem_165 h65 ?_
    refine wm_iload d_MM_setItem_168 rfl ?_
    refine cf_MM_152 rfl d_MM_setItem_170 h66 (Nat.le_of_ble_eq_true rfl) (Cv.mono h (fun M67 h => ?_))
    obtain ⟨hOM67, h⟩ := h
    refine wm_iload_n d_MM_setItem_173 rfl rfl ?_
    refine wm_iconst d_MM_setItem_174 ?_
    refine wm_iadd d_MM_setItem_175 ?_
    refine wm_ireturn d_MM_setItem_176 rfl rfl ?_
    exact ⟨_, rfl, h⟩
  · replace h := h.2 c43
    refine wm_aload_n d_MM_setItem_76 rfl rfl ?_
    refine gf_MM_38 rfl d_MM_setItem_77 h39 ?_
    refine gf_MM_501 rfl d_MM_setItem_80 h40 ?_
    refine wm_iload d_MM_setItem_83 rfl ?_
    refine cf_MM_155 rfl d_MM_setItem_85 h41 (Nat.le_of_ble_eq_true rfl) (Ci.mono h (fun x71 M70 h => ?_))
    obtain ⟨h72, hOM70, h⟩ := h
    refine wm_iload d_MM_setItem_88 rfl ?_
    refine wm_icmp_ne (tgt := 107) d_MM_setItem_90 rfl h72 hi_l5 (fun c74 => ?_) (fun c74 => ?_)
    · replace h := h.2 c74
      refine wm_iinc d_MM_setItem_107 (by decide) rfl (L' := [vr a0, vi l1, vd, vi l3, vd, vi l5, vi (l6 + 1)]) rfl ?_
      refine wm_goto (tgt := 61) d_MM_setItem_110 rfl ?_
      exact h
    · replace c74 := Classical.not_not.mp c74
      replace h := h.1 c74
      obtain ⟨h75, h⟩ := h
      refine wm_aload_n d_MM_setItem_93 rfl rfl ?_
      refine wm_iconst d_MM_setItem_94 ?_
      refine wm_aload_n d_MM_setItem_95 rfl rfl ?_
      refine wm_iload_n d_MM_setItem_96 rfl rfl ?_
      refine wm_iconst d_MM_setItem_97 ?_
      refine wm_iadd d_MM_setItem_98 ?_
      refine cf_MM_279 rfl d_MM_setItem_99 h75 (Nat.le_of_ble_eq_true rfl) (Ci.mono h (fun x77 M76 h => ?_))
      obtain ⟨h78, hOM76, h⟩ := h
      obtain ⟨h79, h⟩ := h
      refine cf_MM_351 rfl d_MM_setItem_102 h79 (Nat.le_of_ble_eq_true rfl) (Cv.mono h (fun M80 h => ?_))
      obtain ⟨hOM80, h⟩ := h
      refine wm_iload_n d_MM_setItem_105 rfl rfl ?_
      refine wm_ireturn d_MM_setItem_106 rfl rfl ?_
      exact ⟨_, rfl, h⟩
theorem d_MM_compile_0 : decode y_MM_compile.2.1 0 = .ok (.aload_n 0, 1) := by decide +kernel
theorem d_MM_compile_1 : decode y_MM_compile.2.1 1 = .ok (.iconst 0, 1) := by decide +kernel
theorem d_MM_compile_2 : decode y_MM_compile.2.1 2 = .ok (.putfield 142, 3) := by decide +kernel
theorem d_MM_compile_5 : decode y_MM_compile.2.1 5 = .ok (.aload_n 0, 1) := by decide +kernel
theorem d_MM_compile_6 : decode y_MM_compile.2.1 6 = .ok (.getfield 16, 3) := by decide +kernel
theorem d_MM_compile_9 : decode y_MM_compile.2.1 9 = .ok (.astore_n 1, 1) := by decide +kernel
theorem d_MM_compile_10 : decode y_MM_compile.2.1 10 = .ok (.aload_n 0, 1) := by decide +kernel
theorem d_MM_compile_11 : decode y_MM_compile.2.1 11 = .ok (.aload_n 0, 1) := by decide +kernel
theorem d_MM_compile_12 : decode y_MM_compile.2.1 12 = .ok (.getfield 10, 3) := by decide +kernel
theorem d_MM_compile_15 : decode y_MM_compile.2.1 15 = .ok (.putfield 16, 3) := by decide +kernel
theorem d_MM_compile_18 : decode y_MM_compile.2.1 18 = .ok (.aload_n 0, 1) := by decide +kernel
theorem d_MM_compile_19 : decode y_MM_compile.2.1 19 = .ok (.aload_n 1, 1) := by decide +kernel
theorem d_MM_compile_20 : decode y_MM_compile.2.1 20 = .ok (.putfield 10, 3) := by decide +kernel
theorem d_MM_compile_23 : decode y_MM_compile.2.1 23 = .ok (.aload_n 0, 1) := by decide +kernel
theorem d_MM_compile_24 : decode y_MM_compile.2.1 24 = .ok (.getfield 10, 3) := by decide +kernel
theorem d_MM_compile_27 : decode y_MM_compile.2.1 27 = .ok (.iconst 0, 1) := by decide +kernel
theorem d_MM_compile_28 : decode y_MM_compile.2.1 28 = .ok (.putfield 145, 3) := by decide +kernel
theorem d_MM_compile_31 : decode y_MM_compile.2.1 31 = .ok (.aload_n 0, 1) := by decide +kernel
theorem d_MM_compile_32 : decode y_MM_compile.2.1 32 = .ok (.invokevirtual 519, 3) := by decide +kernel
theorem d_MM_compile_35 : decode y_MM_compile.2.1 35 = .ok (.aload_n 0, 1) := by decide +kernel
theorem d_MM_compile_36 : decode y_MM_compile.2.1 36 = .ok (.invokevirtual 522, 3) := by decide +kernel
theorem d_MM_compile_39 : decode y_MM_compile.2.1 39 = .ok (.ifCond .ne 17, 3) := by decide +kernel
theorem d_MM_compile_42 : decode y_MM_compile.2.1 42 = .ok (.aload_n 0, 1) := by decide +kernel
theorem d_MM_compile_43 : decode y_MM_compile.2.1 43 = .ok (.aload_n 0, 1) := by decide +kernel
theorem d_MM_compile_44 : decode y_MM_compile.2.1 44 = .ok (.aload_n 0, 1) := by decide +kernel
theorem d_MM_compile_45 : decode y_MM_compile.2.1 45 = .ok (.getfield 229, 3) := by decide +kernel
theorem d_MM_compile_56 : decode y_MM_compile.2.1 56 = .ok (.aload_n 0, 1) := by decide +kernel
theorem d_MM_compile_48 : decode y_MM_compile.2.1 48 = .ok (.invokevirtual 279, 3) := by decide +kernel
theorem d_MM_compile_51 : decode y_MM_compile.2.1 51 = .ok (.putfield 41, 3) := by decide +kernel
theorem d_MM_compile_54 : decode y_MM_compile.2.1 54 = .ok (.iconst 1, 1) := by decide +kernel
theorem d_MM_compile_55 : decode y_MM_compile.2.1 55 = .ok (.ireturn, 1) := by decide +kernel
theorem d_MM_compile_57 : decode y_MM_compile.2.1 57 = .ok (.invokevirtual 525, 3) := by decide +kernel
theorem d_MM_compile_60 : decode y_MM_compile.2.1 60 = .ok (.aload_n 0, 1) := by decide +kernel
theorem d_MM_compile_61 : decode y_MM_compile.2.1 61 = .ok (.getfield 267, 3) := by decide +kernel
theorem d_MM_compile_64 : decode y_MM_compile.2.1 64 = .ok (.ifCond .eq 16, 3) := by decide +kernel
theorem d_MM_compile_80 : decode y_MM_compile.2.1 80 = .ok (.aload_n 0, 1) := by decide +kernel
theorem d_MM_compile_81 : decode y_MM_compile.2.1 81 = .ok (.getfield 34, 3) := by decide +kernel
theorem d_MM_compile_84 : decode y_MM_compile.2.1 84 = .ok (.astore_n 2, 1) := by decide +kernel
theorem d_MM_compile_85 : decode y_MM_compile.2.1 85 = .ok (.aload_n 0, 1) := by decide +kernel
theorem d_MM_compile_86 : decode y_MM_compile.2.1 86 = .ok (.aload_n 0, 1) := by decide +kernel
theorem d_MM_compile_87 : decode y_MM_compile.2.1 87 = .ok (.getfield 38, 3) := by decide +kernel
theorem d_MM_compile_90 : decode y_MM_compile.2.1 90 = .ok (.putfield 34, 3) := by decide +kernel
theorem d_MM_compile_93 : decode y_MM_compile.2.1 93 = .ok (.aload_n 0, 1) := by decide +kernel
theorem d_MM_compile_94 : decode y_MM_compile.2.1 94 = .ok (.aload_n 2, 1) := by decide +kernel
theorem d_MM_compile_95 : decode y_MM_compile.2.1 95 = .ok (.putfield 38, 3) := by decide +kernel
theorem d_MM_compile_67 : decode y_MM_compile.2.1 67 = .ok (.aload_n 0, 1) := by decide +kernel
theorem d_MM_compile_68 : decode y_MM_compile.2.1 68 = .ok (.aload_n 0, 1) := by decide +kernel
theorem d_MM_compile_69 : decode y_MM_compile.2.1 69 = .ok (.getfield 270, 3) := by decide +kernel
theorem d_MM_compile_72 : decode y_MM_compile.2.1 72 = .ok (.putfield 41, 3) := by decide +kernel
theorem d_MM_compile_75 : decode y_MM_compile.2.1 75 = .ok (.aload_n 0, 1) := by decide +kernel
theorem d_MM_compile_76 : decode y_MM_compile.2.1 76 = .ok (.getfield 267, 3) := by decide +kernel
theorem d_MM_compile_79 : decode y_MM_compile.2.1 79 = .ok (.ireturn, 1) := by decide +kernel
theorem d_MM_compile_98 : decode y_MM_compile.2.1 98 = .ok (.aload_n 0, 1) := by decide +kernel
theorem d_MM_compile_99 : decode y_MM_compile.2.1 99 = .ok (.iconst 1, 1) := by decide +kernel
theorem d_MM_compile_100 : decode y_MM_compile.2.1 100 = .ok (.putfield 528, 3) := by decide +kernel
theorem d_MM_compile_103 : decode y_MM_compile.2.1 103 = .ok (.aload_n 0, 1) := by decide +kernel
theorem d_MM_compile_104 : decode y_MM_compile.2.1 104 = .ok (.iconst 0, 1) := by decide +kernel
theorem d_MM_compile_105 : decode y_MM_compile.2.1 105 = .ok (.putfield 532, 3) := by decide +kernel
theorem d_MM_compile_108 : decode y_MM_compile.2.1 108 = .ok (.aload_n 0, 1) := by decide +kernel
theorem d_MM_compile_109 : decode y_MM_compile.2.1 109 = .ok (.getfield 117, 3) := by decide +kernel
theorem d_MM_compile_112 : decode y_MM_compile.2.1 112 = .ok (.invokevirtual 535, 3) := by decide +kernel
theorem d_MM_compile_115 : decode y_MM_compile.2.1 115 = .ok (.aload_n 0, 1) := by decide +kernel
theorem d_MM_compile_116 : decode y_MM_compile.2.1 116 = .ok (.iconst (-1), 1) := by decide +kernel
theorem d_MM_compile_117 : decode y_MM_compile.2.1 117 = .ok (.putfield 41, 3) := by decide +kernel
theorem d_MM_compile_120 : decode y_MM_compile.2.1 120 = .ok (.iconst 0, 1) := by decide +kernel
theorem d_MM_compile_121 : decode y_MM_compile.2.1 121 = .ok (.ireturn, 1) := by decide +kernel
theorem k_MM_compile {G : mG} {d : Nat} {a0 : Nat} {M : mM} {Q : Int → mM → Prop} (hO : mOk M)
    (h : mK M a0 = 14 ∧ ∀ M2, M2 = mUI M a0 0 0 → ∀ M4, M4 = mUR M2 a0 2 (mR M2 a0 1) → ∀ M6, M6 = mUR M4 a0 1 (mR M2 a0 2) → mK M6 (mR M6 a0 1) = 15 ∧ ∀ M9, M9 = mUI M6 (mR M6 a0 1) 1 0 → Cv G y_MM_cut d [vr a0] M9 (fun M11 => mOk M11 ∧ (mK M11 a0 = 14 ∧ Ci G y_MM_readText d [vr a0] M11 (fun x16 M15 => i32 x16 ∧ mOk M15 ∧ (((x16 = 0) → (mK M15 a0 = 14 ∧ Ci G y_MM_place0 d [vr a0, vi (mI M15 a0 8)] M15 (fun x22 M21 => i32 x22 ∧ mOk M21 ∧ (mK M21 a0 = 14 ∧ ∀ M25, M25 = mUI M21 a0 12 x22 → Q 1 M25)))) ∧ (¬ (x16 = 0) → (mK M15 a0 = 14 ∧ Cv G y_MM_items0 d [vr a0] M15 (fun M28 => mOk M28 ∧ (mK M28 a0 = 14 ∧ ((mI M28 a0 16 = 0) → (∀ M34, M34 = mUR M28 a0 9 (mR M28 a0 10) → ∀ M36, M36 = mUR M34 a0 10 (mR M28 a0 9) → ∀ M38, M38 = mUI M36 a0 11 1 → ∀ M40, M40 = mUI M38 a0 29 0 → mK M40 (mR M40 a0 39) = 17 ∧ Cv G y_MS_clear d [vr (mR M40 a0 39)] M40 (fun M43 => mOk M43 ∧ (mK M43 a0 = 14 ∧ ∀ M47, M47 = mUI M43 a0 12 (-1) → Q 0 M47)))) ∧ (¬ (mI M28 a0 16 = 0) → (∀ M49, M49 = mUI M28 a0 12 (mI M28 a0 17) → Q (mI M49 a0 16) M49))))))))))) :
    Ci G y_MM_compile (d + 1) [vr a0] M Q := by
  refine wm_open (y := y_MM_compile) rfl (Nat.le_of_ble_eq_true rfl) (L := [vr a0, vd, vd]) rfl ?_
  obtain ⟨h1, h⟩ := h
  obtain ⟨M2, e3⟩ : ∃ M2, M2 = mUI M a0 0 0 := ⟨_, rfl⟩
  replace h := h M2 e3
  obtain ⟨M4, e5⟩ : ∃ M4, M4 = mUR M2 a0 2 (mR M2 a0 1) := ⟨_, rfl⟩
  replace h := h M4 e5
  obtain ⟨M6, e7⟩ : ∃ M6, M6 = mUR M4 a0 1 (mR M2 a0 2) := ⟨_, rfl⟩
  replace h := h M6 e7
  obtain ⟨h8, h⟩ := h
  obtain ⟨M9, e10⟩ : ∃ M9, M9 = mUI M6 (mR M6 a0 1) 1 0 := ⟨_, rfl⟩
  replace h := h M9 e10
  refine wm_aload_n d_MM_compile_0 rfl rfl ?_
  refine wm_iconst d_MM_compile_1 ?_
  have hOM2 : mOk M2 := by rw [e3]; exact mOk_UI hO ⟨by decide, by decide⟩
  refine pf_MM_142 rfl d_MM_compile_2 h1 ⟨by decide, by decide⟩ e3 ?_
  refine wm_aload_n d_MM_compile_5 rfl rfl ?_
  refine gf_MM_16 rfl d_MM_compile_6 (by rw [e3]; exact h1) ?_
  refine wm_astore_n d_MM_compile_9 rfl (by decide) (L' := [vr a0, vr (mR M2 a0 2), vd]) rfl ?_
  refine wm_aload_n d_MM_compile_10 rfl rfl ?_
  refine wm_aload_n d_MM_compile_11 rfl rfl ?_
  refine gf_MM_10 rfl d_MM_compile_12 (by rw [e3]; exact h1) ?_
  have hOM4 : mOk M4 := by rw [e5]; exact mOk_UR hOM2
  refine pf_MM_16 rfl d_MM_compile_15 (by rw [e3]; exact h1) e5 ?_
  refine wm_aload_n d_MM_compile_18 rfl rfl ?_
  refine wm_aload_n d_MM_compile_19 rfl rfl ?_
  have hOM6 : mOk M6 := by rw [e7]; exact mOk_UR hOM4
  refine pf_MM_10 rfl d_MM_compile_20 (by rw [e5, e3]; exact h1) e7 ?_
  refine wm_aload_n d_MM_compile_23 rfl rfl ?_
  refine gf_MM_10 rfl d_MM_compile_24 (by rw [e7, e5, e3]; exact h1) ?_
  refine wm_iconst d_MM_compile_27 ?_
  have hOM9 : mOk M9 := by rw [e10]; exact mOk_UI hOM6 ⟨by decide, by decide⟩
  refine pf_MM_145 rfl d_MM_compile_28 h8 ⟨by decide, by decide⟩ e10 ?_
  refine wm_aload_n d_MM_compile_31 rfl rfl ?_
  refine cf_MM_519 rfl d_MM_compile_32 (by rw [e10, e7, e5, e3]; exact h1) (Nat.le_of_ble_eq_true rfl) (Cv.mono h (fun M11 h => ?_))
  obtain ⟨hOM11, h⟩ := h
  obtain ⟨h14, h⟩ := h
  refine wm_aload_n d_MM_compile_35 rfl rfl ?_
  refine cf_MM_522 rfl d_MM_compile_36 h14 (Nat.le_of_ble_eq_true rfl) (Ci.mono h (fun x16 M15 h => ?_))
  obtain ⟨h17, hOM15, h⟩ := h
  refine wm_if_ne (tgt := 56) d_MM_compile_39 rfl h17 (fun c19 => ?_) (fun c19 => ?_)
  · replace h := h.2 c19
    obtain ⟨h27, h⟩ := h
    refine wm_aload_n d_MM_compile_56 rfl rfl ?_
    refine cf_MM_525 rfl d_MM_compile_57 h27 (Nat.le_of_ble_eq_true rfl) (Cv.mono h (fun M28 h => ?_))
    obtain ⟨hOM28, h⟩ := h
    obtain ⟨h31, h⟩ := h
    refine wm_aload_n d_MM_compile_60 rfl rfl ?_
    refine gf_MM_267 rfl d_MM_compile_61 h31 ?_
    refine wm_if_eq (tgt := 80) d_MM_compile_64 rfl (hOM28 _ _).1 (fun c33 => ?_) (fun c33 => ?_)
    · replace h := h.1 c33
      obtain ⟨M34, e35⟩ : ∃ M34, M34 = mUR M28 a0 9 (mR M28 a0 10) := ⟨_, rfl⟩
      replace h := h M34 e35
      obtain ⟨M36, e37⟩ : ∃ M36, M36 = mUR M34 a0 10 (mR M28 a0 9) := ⟨_, rfl⟩
      replace h := h M36 e37
      obtain ⟨M38, e39⟩ : ∃ M38, M38 = mUI M36 a0 11 1 := ⟨_, rfl⟩
      replace h := h M38 e39
      obtain ⟨M40, e41⟩ : ∃ M40, M40 = mUI M38 a0 29 0 := ⟨_, rfl⟩
      replace h := h M40 e41
      obtain ⟨h42, h⟩ := h
      refine wm_aload_n d_MM_compile_80 rfl rfl ?_
      refine gf_MM_34 rfl d_MM_compile_81 h31 ?_
      refine wm_astore_n d_MM_compile_84 rfl (by decide) (L' := [vr a0, vr (mR M2 a0 2), vr (mR M28 a0 9)]) rfl ?_
      refine wm_aload_n d_MM_compile_85 rfl rfl ?_
      refine wm_aload_n d_MM_compile_86 rfl rfl ?_
      refine gf_MM_38 rfl d_MM_compile_87 h31 ?_
      have hOM34 : mOk M34 := by rw [e35]; exact mOk_UR hOM28
      refine pf_MM_34 rfl d_MM_compile_90 h31 e35 ?_
      refine wm_aload_n d_MM_compile_93 rfl rfl ?_
      refine wm_aload_n d_MM_compile_94 rfl rfl ?_
      have hOM36 : mOk M36 := by rw [e37]; exact mOk_UR hOM34
      refine pf_MM_38 rfl d_MM_compile_95 (by rw [e35]; exact h31) e37 ?_
      refine wm_aload_n d_MM_compile_98 rfl rfl ?_
      refine wm_iconst d_MM_compile_99 ?_
      have hOM38 : mOk M38 := by rw [e39]; exact mOk_UI hOM36 (m_b32 (by decide))
      refine pf_MM_528 rfl d_MM_compile_100 (by rw [e37, e35]; exact h31) (by decide) e39 ?_
      refine wm_aload_n d_MM_compile_103 rfl rfl ?_
      refine wm_iconst d_MM_compile_104 ?_
      have hOM40 : mOk M40 := by rw [e41]; exact mOk_UI hOM38 ⟨by decide, by decide⟩
      refine pf_MM_532 rfl d_MM_compile_105 (by rw [e39, e37, e35]; exact h31) ⟨by decide, by decide⟩ e41 ?_
      refine wm_aload_n d_MM_compile_108 rfl rfl ?_
      refine gf_MM_117 rfl d_MM_compile_109 (by rw [e41, e39, e37, e35]; exact h31) ?_
      refine cf_MM_535 rfl d_MM_compile_112 h42 (Nat.le_of_ble_eq_true rfl) (Cv.mono h (fun M43 h => ?_))
      obtain ⟨hOM43, h⟩ := h
      obtain ⟨h46, h⟩ := h
      obtain ⟨M47, e48⟩ : ∃ M47, M47 = mUI M43 a0 12 (-1) := ⟨_, rfl⟩
      replace h := h M47 e48
      refine wm_aload_n d_MM_compile_115 rfl rfl ?_
      refine wm_iconst d_MM_compile_116 ?_
      have hOM47 : mOk M47 := by rw [e48]; exact mOk_UI hOM43 ⟨by decide, by decide⟩
      refine pf_MM_41 rfl d_MM_compile_117 h46 ⟨by decide, by decide⟩ e48 ?_
      refine wm_iconst d_MM_compile_120 ?_
      refine wm_ireturn d_MM_compile_121 rfl rfl ?_
      exact ⟨_, rfl, h⟩
    · replace h := h.2 c33
      obtain ⟨M49, e50⟩ : ∃ M49, M49 = mUI M28 a0 12 (mI M28 a0 17) := ⟨_, rfl⟩
      replace h := h M49 e50
      refine wm_aload_n d_MM_compile_67 rfl rfl ?_
      refine wm_aload_n d_MM_compile_68 rfl rfl ?_
      refine gf_MM_270 rfl d_MM_compile_69 h31 ?_
      have hOM49 : mOk M49 := by rw [e50]; exact mOk_UI hOM28 (hOM28 _ _).1
      refine pf_MM_41 rfl d_MM_compile_72 h31 (hOM28 _ _).1 e50 ?_
      refine wm_aload_n d_MM_compile_75 rfl rfl ?_
      refine gf_MM_267 rfl d_MM_compile_76 (by rw [e50]; exact h31) ?_
      refine wm_ireturn d_MM_compile_79 rfl rfl ?_
      exact ⟨_, rfl, h⟩
  · replace c19 := Classical.not_not.mp c19
    replace h := h.1 c19
    obtain ⟨h20, h⟩ := h
    refine wm_aload_n d_MM_compile_42 rfl rfl ?_
    refine wm_aload_n d_MM_compile_43 rfl rfl ?_
    refine wm_aload_n d_MM_compile_44 rfl rfl ?_
    refine gf_MM_229 rfl d_MM_compile_45 h20 ?_
    refine cf_MM_279 rfl d_MM_compile_48 h20 (Nat.le_of_ble_eq_true rfl) (Ci.mono h (fun x22 M21 h => ?_))
    obtain ⟨h23, hOM21, h⟩ := h
    obtain ⟨h24, h⟩ := h
    obtain ⟨M25, e26⟩ : ∃ M25, M25 = mUI M21 a0 12 x22 := ⟨_, rfl⟩
    replace h := h M25 e26
    have hOM25 : mOk M25 := by rw [e26]; exact mOk_UI hOM21 h23
    refine pf_MM_41 rfl d_MM_compile_51 h24 h23 e26 ?_
    refine wm_iconst d_MM_compile_54 ?_
    refine wm_ireturn d_MM_compile_55 rfl rfl ?_
    exact ⟨_, rfl, h⟩
theorem d_MM_place1_0 : decode y_MM_place1.2.1 0 = .ok (.aload_n 0, 1) := by decide +kernel
theorem d_MM_place1_1 : decode y_MM_place1.2.1 1 = .ok (.iconst 0, 1) := by decide +kernel
theorem d_MM_place1_2 : decode y_MM_place1.2.1 2 = .ok (.putfield 142, 3) := by decide +kernel
theorem d_MM_place1_5 : decode y_MM_place1.2.1 5 = .ok (.aload_n 0, 1) := by decide +kernel
theorem d_MM_place1_6 : decode y_MM_place1.2.1 6 = .ok (.getfield 41, 3) := by decide +kernel
theorem d_MM_place1_9 : decode y_MM_place1.2.1 9 = .ok (.ireturn, 1) := by decide +kernel
theorem k_MM_place1 {G : mG} {d : Nat} {a0 : Nat} {M : mM} {Q : Int → mM → Prop} (hO : mOk M)
    (h : mK M a0 = 14 ∧ ∀ M2, M2 = mUI M a0 0 0 → Q (mI M2 a0 12) M2) :
    Ci G y_MM_place1 d [vr a0] M Q := by
  refine wm_open (y := y_MM_place1) rfl (Nat.le_of_ble_eq_true rfl) (L := [vr a0]) rfl ?_
  obtain ⟨h1, h⟩ := h
  obtain ⟨M2, e3⟩ : ∃ M2, M2 = mUI M a0 0 0 := ⟨_, rfl⟩
  replace h := h M2 e3
  refine wm_aload_n d_MM_place1_0 rfl rfl ?_
  refine wm_iconst d_MM_place1_1 ?_
  have hOM2 : mOk M2 := by rw [e3]; exact mOk_UI hO ⟨by decide, by decide⟩
  refine pf_MM_142 rfl d_MM_place1_2 h1 ⟨by decide, by decide⟩ e3 ?_
  refine wm_aload_n d_MM_place1_5 rfl rfl ?_
  refine gf_MM_41 rfl d_MM_place1_6 (by rw [e3]; exact h1) ?_
  refine wm_ireturn d_MM_place1_9 rfl rfl ?_
  exact ⟨_, rfl, h⟩
theorem d_MM_items1_0 : decode y_MM_items1.2.1 0 = .ok (.aload_n 0, 1) := by decide +kernel
theorem d_MM_items1_1 : decode y_MM_items1.2.1 1 = .ok (.iconst 0, 1) := by decide +kernel
theorem d_MM_items1_2 : decode y_MM_items1.2.1 2 = .ok (.putfield 142, 3) := by decide +kernel
theorem d_MM_items1_5 : decode y_MM_items1.2.1 5 = .ok (.aload_n 0, 1) := by decide +kernel
theorem d_MM_items1_6 : decode y_MM_items1.2.1 6 = .ok (.getfield 528, 3) := by decide +kernel
theorem d_MM_items1_9 : decode y_MM_items1.2.1 9 = .ok (.ifCond .ne 7, 3) := by decide +kernel
theorem d_MM_items1_12 : decode y_MM_items1.2.1 12 = .ok (.iconst (-1), 1) := by decide +kernel
theorem d_MM_items1_13 : decode y_MM_items1.2.1 13 = .ok (.goto 48, 3) := by decide +kernel
theorem d_MM_items1_16 : decode y_MM_items1.2.1 16 = .ok (.iload_n 1, 1) := by decide +kernel
theorem d_MM_items1_17 : decode y_MM_items1.2.1 17 = .ok (.ifCond .ne 13, 3) := by decide +kernel
theorem d_MM_items1_20 : decode y_MM_items1.2.1 20 = .ok (.aload_n 0, 1) := by decide +kernel
theorem d_MM_items1_21 : decode y_MM_items1.2.1 21 = .ok (.getfield 34, 3) := by decide +kernel
theorem d_MM_items1_24 : decode y_MM_items1.2.1 24 = .ok (.getfield 456, 3) := by decide +kernel
theorem d_MM_items1_27 : decode y_MM_items1.2.1 27 = .ok (.goto 34, 3) := by decide +kernel
theorem d_MM_items1_30 : decode y_MM_items1.2.1 30 = .ok (.iload_n 1, 1) := by decide +kernel
theorem d_MM_items1_31 : decode y_MM_items1.2.1 31 = .ok (.iconst 1, 1) := by decide +kernel
theorem d_MM_items1_32 : decode y_MM_items1.2.1 32 = .ok (.if_icmp .ne 13, 3) := by decide +kernel
theorem d_MM_items1_35 : decode y_MM_items1.2.1 35 = .ok (.aload_n 0, 1) := by decide +kernel
theorem d_MM_items1_36 : decode y_MM_items1.2.1 36 = .ok (.getfield 34, 3) := by decide +kernel
theorem d_MM_items1_39 : decode y_MM_items1.2.1 39 = .ok (.getfield 447, 3) := by decide +kernel
theorem d_MM_items1_42 : decode y_MM_items1.2.1 42 = .ok (.goto 19, 3) := by decide +kernel
theorem d_MM_items1_45 : decode y_MM_items1.2.1 45 = .ok (.iload_n 1, 1) := by decide +kernel
theorem d_MM_items1_46 : decode y_MM_items1.2.1 46 = .ok (.iconst 2, 1) := by decide +kernel
theorem d_MM_items1_47 : decode y_MM_items1.2.1 47 = .ok (.if_icmp .ne 13, 3) := by decide +kernel
theorem d_MM_items1_50 : decode y_MM_items1.2.1 50 = .ok (.aload_n 0, 1) := by decide +kernel
theorem d_MM_items1_51 : decode y_MM_items1.2.1 51 = .ok (.getfield 34, 3) := by decide +kernel
theorem d_MM_items1_54 : decode y_MM_items1.2.1 54 = .ok (.getfield 474, 3) := by decide +kernel
theorem d_MM_items1_57 : decode y_MM_items1.2.1 57 = .ok (.goto 4, 3) := by decide +kernel
theorem d_MM_items1_60 : decode y_MM_items1.2.1 60 = .ok (.iconst (-1), 1) := by decide +kernel
theorem d_MM_items1_61 : decode y_MM_items1.2.1 61 = .ok (.ireturn, 1) := by decide +kernel
theorem k_MM_items1 {G : mG} {d : Nat} {a0 : Nat} {l1 : Int} {M : mM} {Q : Int → mM → Prop} (hO : mOk M) (hi_l1 : i32 l1)
    (h : mK M a0 = 14 ∧ ∀ M2, M2 = mUI M a0 0 0 → (¬ (mI M2 a0 11 = 0) → (((l1 = 0) → mK M2 (mR M2 a0 9) = 16) ∧ (¬ (l1 = 0) → (((l1 = 1) → mK M2 (mR M2 a0 9) = 16) ∧ (¬ (l1 = 1) → ((l1 = 2) → mK M2 (mR M2 a0 9) = 16)))))) ∧ ∀ v11 : Int, v11 = (if mI M2 a0 11 = 0 then (-1) else (if l1 = 0 then mI M2 (mR M2 a0 9) 12 else (if l1 = 1 then mI M2 (mR M2 a0 9) 6 else (if l1 = 2 then mI M2 (mR M2 a0 9) 18 else (-1))))) → Q v11 M2) :
    Ci G y_MM_items1 d [vr a0, vi l1] M Q := by
  refine wm_open (y := y_MM_items1) rfl (Nat.le_of_ble_eq_true rfl) (L := [vr a0, vi l1]) rfl ?_
  obtain ⟨h1, h⟩ := h
  obtain ⟨M2, e3⟩ : ∃ M2, M2 = mUI M a0 0 0 := ⟨_, rfl⟩
  replace h := h M2 e3
  refine wm_aload_n d_MM_items1_0 rfl rfl ?_
  refine wm_iconst d_MM_items1_1 ?_
  have hOM2 : mOk M2 := by rw [e3]; exact mOk_UI hO ⟨by decide, by decide⟩
  refine pf_MM_142 rfl d_MM_items1_2 h1 ⟨by decide, by decide⟩ e3 ?_
  refine wm_aload_n d_MM_items1_5 rfl rfl ?_
  refine gf_MM_528 rfl d_MM_items1_6 (by rw [e3]; exact h1) ?_
  obtain ⟨s12, h⟩ := h
  have hJ : ∀ v11 : Int, v11 = (if mI M2 a0 11 = 0 then (-1) else (if l1 = 0 then mI M2 (mR M2 a0 9) 12 else (if l1 = 1 then mI M2 (mR M2 a0 9) 6 else (if l1 = 2 then mI M2 (mR M2 a0 9) 18 else (-1))))) → mWm G y_MM_items1 d 61 [vd, vd] [vi v11] M2 (fun r9 M9 => ∃ x9, r9 = some (vi x9) ∧ Q x9 M9) := by
    intro v11 e13
    have h := h v11 e13
    refine wm_ireturn d_MM_items1_61 rfl rfl ?_
    exact ⟨_, rfl, h⟩
  clear h
  have s14 := s12
  refine wm_if_ne (tgt := 16) d_MM_items1_9 rfl (hOM2 _ _).1 (fun c4 => ?_) (fun c4 => ?_)
  · have s14 := s14 c4
    obtain ⟨s15, s16⟩ := s14
    refine wm_iload_n d_MM_items1_16 rfl rfl ?_
    refine wm_if_ne (tgt := 30) d_MM_items1_17 rfl hi_l1 (fun c5 => ?_) (fun c5 => ?_)
    · have s16 := s16 c5
      obtain ⟨s17, s18⟩ := s16
      refine wm_iload_n d_MM_items1_30 rfl rfl ?_
      refine wm_iconst d_MM_items1_31 ?_
      refine wm_icmp_ne (tgt := 45) d_MM_items1_32 rfl hi_l1 ⟨by decide, by decide⟩ (fun c7 => ?_) (fun c7 => ?_)
      · have s18 := s18 c7
        have s19 := s18
        refine wm_iload_n d_MM_items1_45 rfl rfl ?_
        refine wm_iconst d_MM_items1_46 ?_
        refine wm_icmp_ne (tgt := 60) d_MM_items1_47 rfl hi_l1 ⟨by decide, by decide⟩ (fun c9 => ?_) (fun c9 => ?_)
        · refine wm_iconst d_MM_items1_60 ?_
          refine wm_less (L' := [vd, vd]) ⟨Or.inl rfl, Or.inl rfl, trivial⟩ ?_
          exact hJ (-1) (by rw [if_neg c4, if_neg c5, if_neg c7, if_neg c9])
        · replace c9 := Classical.not_not.mp c9
          have s19 := s19 c9
          have h10 := s19
          refine wm_aload_n d_MM_items1_50 rfl rfl ?_
          refine gf_MM_34 rfl d_MM_items1_51 (by rw [e3]; exact h1) ?_
          refine gf_MM_474 rfl d_MM_items1_54 h10 ?_
          refine wm_goto (tgt := 61) d_MM_items1_57 rfl ?_
          refine wm_less (L' := [vd, vd]) ⟨Or.inl rfl, Or.inl rfl, trivial⟩ ?_
          exact hJ (mI M2 (mR M2 a0 9) 18) (by rw [if_neg c4, if_neg c5, if_neg c7, if_pos c9])
      · replace c7 := Classical.not_not.mp c7
        have s17 := s17 c7
        have h8 := s17
        refine wm_aload_n d_MM_items1_35 rfl rfl ?_
        refine gf_MM_34 rfl d_MM_items1_36 (by rw [e3]; exact h1) ?_
        refine gf_MM_447 rfl d_MM_items1_39 h8 ?_
        refine wm_goto (tgt := 61) d_MM_items1_42 rfl ?_
        refine wm_less (L' := [vd, vd]) ⟨Or.inl rfl, Or.inl rfl, trivial⟩ ?_
        exact hJ (mI M2 (mR M2 a0 9) 6) (by rw [if_neg c4, if_neg c5, if_pos c7])
    · replace c5 := Classical.not_not.mp c5
      have s15 := s15 c5
      have h6 := s15
      refine wm_aload_n d_MM_items1_20 rfl rfl ?_
      refine gf_MM_34 rfl d_MM_items1_21 (by rw [e3]; exact h1) ?_
      refine gf_MM_456 rfl d_MM_items1_24 h6 ?_
      refine wm_goto (tgt := 61) d_MM_items1_27 rfl ?_
      refine wm_less (L' := [vd, vd]) ⟨Or.inl rfl, Or.inl rfl, trivial⟩ ?_
      exact hJ (mI M2 (mR M2 a0 9) 12) (by rw [if_neg c4, if_pos c5])
  · replace c4 := Classical.not_not.mp c4
    refine wm_iconst d_MM_items1_12 ?_
    refine wm_goto (tgt := 61) d_MM_items1_13 rfl ?_
    refine wm_less (L' := [vd, vd]) ⟨Or.inl rfl, Or.inl rfl, trivial⟩ ?_
    exact hJ (-1) (by rw [if_pos c4])
theorem d_MM_reach_0 : decode y_MM_reach.2.1 0 = .ok (.aload_n 0, 1) := by decide +kernel
theorem d_MM_reach_1 : decode y_MM_reach.2.1 1 = .ok (.aload_n 0, 1) := by decide +kernel
theorem d_MM_reach_2 : decode y_MM_reach.2.1 2 = .ok (.getfield 34, 3) := by decide +kernel
theorem d_MM_reach_5 : decode y_MM_reach.2.1 5 = .ok (.iload_n 1, 1) := by decide +kernel
theorem d_MM_reach_6 : decode y_MM_reach.2.1 6 = .ok (.invokevirtual 450, 3) := by decide +kernel
theorem d_MM_reach_9 : decode y_MM_reach.2.1 9 = .ok (.return_, 1) := by decide +kernel
theorem k_MM_reach {G : mG} {d : Nat} {a0 : Nat} {l1 : Int} {M : mM} {Q : mM → Prop} (hO : mOk M) (hi_l1 : i32 l1)
    (h : mK M a0 = 14 ∧ Cv G y_MM_workOut d [vr a0, vr (mR M a0 9), vi l1] M (fun M2 => mOk M2 ∧ (Q M2))) :
    Cv G y_MM_reach (d + 1) [vr a0, vi l1] M Q := by
  refine wm_open (y := y_MM_reach) rfl (Nat.le_of_ble_eq_true rfl) (L := [vr a0, vi l1]) rfl ?_
  obtain ⟨h1, h⟩ := h
  refine wm_aload_n d_MM_reach_0 rfl rfl ?_
  refine wm_aload_n d_MM_reach_1 rfl rfl ?_
  refine gf_MM_34 rfl d_MM_reach_2 h1 ?_
  refine wm_iload_n d_MM_reach_5 rfl rfl ?_
  refine cf_MM_450 rfl d_MM_reach_6 h1 (Nat.le_of_ble_eq_true rfl) (Cv.mono h (fun M2 h => ?_))
  obtain ⟨hOM2, h⟩ := h
  refine wm_return d_MM_reach_9 rfl ?_
  exact ⟨rfl, h⟩
theorem d_MM_enter_0 : decode y_MM_enter.2.1 0 = .ok (.iconst 0, 1) := by decide +kernel
theorem d_MM_enter_1 : decode y_MM_enter.2.1 1 = .ok (.istore_n 2, 1) := by decide +kernel
theorem d_MM_enter_2 : decode y_MM_enter.2.1 2 = .ok (.iload_n 2, 1) := by decide +kernel
theorem d_MM_enter_3 : decode y_MM_enter.2.1 3 = .ok (.aload_n 0, 1) := by decide +kernel
theorem d_MM_enter_4 : decode y_MM_enter.2.1 4 = .ok (.getfield 34, 3) := by decide +kernel
theorem d_MM_enter_7 : decode y_MM_enter.2.1 7 = .ok (.getfield 456, 3) := by decide +kernel
theorem d_MM_enter_10 : decode y_MM_enter.2.1 10 = .ok (.if_icmp .ge 26, 3) := by decide +kernel
theorem d_MM_enter_36 : decode y_MM_enter.2.1 36 = .ok (.iconst 0, 1) := by decide +kernel
theorem d_MM_enter_37 : decode y_MM_enter.2.1 37 = .ok (.istore_n 2, 1) := by decide +kernel
theorem d_MM_enter_13 : decode y_MM_enter.2.1 13 = .ok (.aload_n 0, 1) := by decide +kernel
theorem d_MM_enter_14 : decode y_MM_enter.2.1 14 = .ok (.getfield 73, 3) := by decide +kernel
theorem d_MM_enter_17 : decode y_MM_enter.2.1 17 = .ok (.iload_n 2, 1) := by decide +kernel
theorem d_MM_enter_18 : decode y_MM_enter.2.1 18 = .ok (.aload_n 0, 1) := by decide +kernel
theorem d_MM_enter_19 : decode y_MM_enter.2.1 19 = .ok (.getfield 90, 3) := by decide +kernel
theorem d_MM_enter_22 : decode y_MM_enter.2.1 22 = .ok (.bipush 12, 2) := by decide +kernel
theorem d_MM_enter_24 : decode y_MM_enter.2.1 24 = .ok (.iload_n 1, 1) := by decide +kernel
theorem d_MM_enter_25 : decode y_MM_enter.2.1 25 = .ok (.imul, 1) := by decide +kernel
theorem d_MM_enter_26 : decode y_MM_enter.2.1 26 = .ok (.iload_n 2, 1) := by decide +kernel
theorem d_MM_enter_27 : decode y_MM_enter.2.1 27 = .ok (.iadd, 1) := by decide +kernel
theorem d_MM_enter_28 : decode y_MM_enter.2.1 28 = .ok (.iaload, 1) := by decide +kernel
theorem d_MM_enter_29 : decode y_MM_enter.2.1 29 = .ok (.iastore, 1) := by decide +kernel
theorem d_MM_enter_30 : decode y_MM_enter.2.1 30 = .ok (.iinc 2 1, 3) := by decide +kernel
theorem d_MM_enter_33 : decode y_MM_enter.2.1 33 = .ok (.goto (-31), 3) := by decide +kernel
theorem d_MM_enter_38 : decode y_MM_enter.2.1 38 = .ok (.iload_n 2, 1) := by decide +kernel
theorem d_MM_enter_39 : decode y_MM_enter.2.1 39 = .ok (.aload_n 0, 1) := by decide +kernel
theorem d_MM_enter_40 : decode y_MM_enter.2.1 40 = .ok (.getfield 34, 3) := by decide +kernel
theorem d_MM_enter_43 : decode y_MM_enter.2.1 43 = .ok (.getfield 447, 3) := by decide +kernel
theorem d_MM_enter_46 : decode y_MM_enter.2.1 46 = .ok (.if_icmp .ge 16, 3) := by decide +kernel
theorem d_MM_enter_62 : decode y_MM_enter.2.1 62 = .ok (.return_, 1) := by decide +kernel
theorem d_MM_enter_49 : decode y_MM_enter.2.1 49 = .ok (.aload_n 0, 1) := by decide +kernel
theorem d_MM_enter_50 : decode y_MM_enter.2.1 50 = .ok (.getfield 77, 3) := by decide +kernel
theorem d_MM_enter_53 : decode y_MM_enter.2.1 53 = .ok (.iload_n 2, 1) := by decide +kernel
theorem d_MM_enter_54 : decode y_MM_enter.2.1 54 = .ok (.iconst 0, 1) := by decide +kernel
theorem d_MM_enter_55 : decode y_MM_enter.2.1 55 = .ok (.bastore, 1) := by decide +kernel
theorem d_MM_enter_56 : decode y_MM_enter.2.1 56 = .ok (.iinc 2 1, 3) := by decide +kernel
theorem d_MM_enter_59 : decode y_MM_enter.2.1 59 = .ok (.goto (-21), 3) := by decide +kernel
def h_MM_enter_2 (G : mG) (d : Nat) (a0 : Nat) (l1 : Int) (l2 : Int) (M : mM) (Q : mM → Prop) : Prop := mWm G y_MM_enter d 2 [vr a0, vi l1, vi l2] [] M (fun r9 M9 => r9 = none ∧ Q M9)
def h_MM_enter_38 (G : mG) (d : Nat) (a0 : Nat) (l2 : Int) (M : mM) (Q : mM → Prop) : Prop := mWm G y_MM_enter d 38 [vr a0, vd, vi l2] [] M (fun r9 M9 => r9 = none ∧ Q M9)
theorem k_MM_enter {G : mG} {d : Nat} {a0 : Nat} {l1 : Int} {M : mM} {Q : mM → Prop} (hO : mOk M) (hi_l1 : i32 l1)
    (h : h_MM_enter_2 G d a0 l1 0 M Q) :
    Cv G y_MM_enter d [vr a0, vi l1] M Q := by
  refine wm_open (y := y_MM_enter) rfl (Nat.le_of_ble_eq_true rfl) (L := [vr a0, vi l1, vd]) rfl ?_
  refine wm_iconst d_MM_enter_0 ?_
  refine wm_istore_n d_MM_enter_1 rfl (by decide) (L' := [vr a0, vi l1, vi 0]) rfl ?_
  exact h
theorem k_MM_enter_2 {G : mG} {d : Nat} {a0 : Nat} {l1 : Int} {l2 : Int} {M : mM} {Q : mM → Prop} (hO : mOk M) (hi_l1 : i32 l1) (hi_l2 : i32 l2)
    (h : mK M a0 = 14 ∧ mK M (mR M a0 9) = 16 ∧ ((mI M (mR M a0 9) 12 ≤ l2) → (h_MM_enter_38 G d a0 0 M Q)) ∧ (¬ (mI M (mR M a0 9) 12 ≤ l2) → (mK M (mR M a0 31) = 30 ∧ ((0 : Int) ≤ (12 * l1) + l2 ∧ (12 * l1) + l2 < (mN M (mR M a0 31) : Int)) ∧ mK M (mR M a0 25) = 30 ∧ ((0 : Int) ≤ l2 ∧ l2 < (mN M (mR M a0 25) : Int)) ∧ ∀ M13, M13 = mUI M (mR M a0 25) (Int.toNat l2) (mI M (mR M a0 31) (Int.toNat ((12 * l1) + l2))) → h_MM_enter_2 G d a0 l1 (l2 + 1) M13 Q))) :
    h_MM_enter_2 G d a0 l1 l2 M Q := by
  unfold h_MM_enter_2
  obtain ⟨h1, h⟩ := h
  obtain ⟨h2, h⟩ := h
  refine wm_iload_n d_MM_enter_2 rfl rfl ?_
  refine wm_aload_n d_MM_enter_3 rfl rfl ?_
  refine gf_MM_34 rfl d_MM_enter_4 h1 ?_
  refine gf_MM_456 rfl d_MM_enter_7 h2 ?_
  refine wm_icmp_ge (tgt := 36) d_MM_enter_10 rfl hi_l2 (hO _ _).1 (fun c8 => ?_) (fun c8 => ?_)
  · replace h := h.1 c8
    refine wm_iconst d_MM_enter_36 ?_
    refine wm_istore_n d_MM_enter_37 rfl (by decide) (L' := [vr a0, vi l1, vi 0]) rfl ?_
    refine wm_less (L' := [vr a0, vd, vi 0]) ⟨Or.inr rfl, Or.inl rfl, Or.inr rfl, trivial⟩ ?_
    exact h
  · replace h := h.2 c8
    obtain ⟨h9, h⟩ := h
    obtain ⟨h10, h⟩ := h
    obtain ⟨h11, h⟩ := h
    obtain ⟨h12, h⟩ := h
    obtain ⟨M13, e14⟩ : ∃ M13, M13 = mUI M (mR M a0 25) (Int.toNat l2) (mI M (mR M a0 31) (Int.toNat ((12 * l1) + l2))) := ⟨_, rfl⟩
    replace h := h M13 e14
    refine wm_aload_n d_MM_enter_13 rfl rfl ?_
    refine gf_MM_73 rfl d_MM_enter_14 h1 ?_
    refine wm_iload_n d_MM_enter_17 rfl rfl ?_
    refine wm_aload_n d_MM_enter_18 rfl rfl ?_
    refine gf_MM_90 rfl d_MM_enter_19 h1 ?_
    refine wm_bipush d_MM_enter_22 (by decide) ?_
    refine wm_iload_n d_MM_enter_24 rfl rfl ?_
    refine wm_imul d_MM_enter_25 ?_
    refine wm_iload_n d_MM_enter_26 rfl rfl ?_
    refine wm_iadd d_MM_enter_27 ?_
    refine wm_iald d_MM_enter_28 h9 h10 ?_
    have hOM13 : mOk M13 := by rw [e14]; exact mOk_UI hO (hO _ _).1
    refine wm_iastE d_MM_enter_29 h11 h12 (hO _ _).1 e14 ?_
    refine wm_iinc d_MM_enter_30 (by decide) rfl (L' := [vr a0, vi l1, vi (l2 + 1)]) rfl ?_
    refine wm_goto (tgt := 2) d_MM_enter_33 rfl ?_
    exact h
theorem k_MM_enter_38 {G : mG} {d : Nat} {a0 : Nat} {l2 : Int} {M : mM} {Q : mM → Prop} (hO : mOk M) (hi_l2 : i32 l2)
    (h : mK M a0 = 14 ∧ mK M (mR M a0 9) = 16 ∧ ((mI M (mR M a0 9) 6 ≤ l2) → (Q M)) ∧ (¬ (mI M (mR M a0 9) 6 ≤ l2) → (mK M (mR M a0 26) = 31 ∧ ((0 : Int) ≤ l2 ∧ l2 < (mN M (mR M a0 26) : Int)) ∧ ∀ M23, M23 = mUI M (mR M a0 26) (Int.toNat l2) 0 → h_MM_enter_38 G d a0 (l2 + 1) M23 Q))) :
    h_MM_enter_38 G d a0 l2 M Q := by
  unfold h_MM_enter_38
  obtain ⟨h15, h⟩ := h
  obtain ⟨h16, h⟩ := h
  refine wm_iload_n d_MM_enter_38 rfl rfl ?_
  refine wm_aload_n d_MM_enter_39 rfl rfl ?_
  refine gf_MM_34 rfl d_MM_enter_40 h15 ?_
  refine gf_MM_447 rfl d_MM_enter_43 h16 ?_
  refine wm_icmp_ge (tgt := 62) d_MM_enter_46 rfl hi_l2 (hO _ _).1 (fun c20 => ?_) (fun c20 => ?_)
  · replace h := h.1 c20
    refine wm_return d_MM_enter_62 rfl ?_
    exact ⟨rfl, h⟩
  · replace h := h.2 c20
    obtain ⟨h21, h⟩ := h
    obtain ⟨h22, h⟩ := h
    obtain ⟨M23, e24⟩ : ∃ M23, M23 = mUI M (mR M a0 26) (Int.toNat l2) 0 := ⟨_, rfl⟩
    replace h := h M23 e24
    refine wm_aload_n d_MM_enter_49 rfl rfl ?_
    refine gf_MM_77 rfl d_MM_enter_50 h15 ?_
    refine wm_iload_n d_MM_enter_53 rfl rfl ?_
    refine wm_iconst d_MM_enter_54 ?_
    have hOM23 : mOk M23 := by rw [e24]; exact mOk_UI hO (m_b32 (by decide))
    refine wm_zastE d_MM_enter_55 h21 h22 (by decide) e24 ?_
    refine wm_iinc d_MM_enter_56 (by decide) rfl (L' := [vr a0, vd, vi (l2 + 1)]) rfl ?_
    refine wm_goto (tgt := 38) d_MM_enter_59 rfl ?_
    exact h
theorem d_MM_explore_0 : decode y_MM_explore.2.1 0 = .ok (.aload_n 0, 1) := by decide +kernel
theorem d_MM_explore_1 : decode y_MM_explore.2.1 1 = .ok (.aload_n 0, 1) := by decide +kernel
theorem d_MM_explore_2 : decode y_MM_explore.2.1 2 = .ok (.getfield 528, 3) := by decide +kernel
theorem d_MM_explore_5 : decode y_MM_explore.2.1 5 = .ok (.ifCond .eq 7, 3) := by decide +kernel
theorem d_MM_explore_12 : decode y_MM_explore.2.1 12 = .ok (.iconst 1, 1) := by decide +kernel
theorem d_MM_explore_8 : decode y_MM_explore.2.1 8 = .ok (.iconst 0, 1) := by decide +kernel
theorem d_MM_explore_9 : decode y_MM_explore.2.1 9 = .ok (.goto 4, 3) := by decide +kernel
theorem d_MM_explore_13 : decode y_MM_explore.2.1 13 = .ok (.putfield 142, 3) := by decide +kernel
theorem d_MM_explore_16 : decode y_MM_explore.2.1 16 = .ok (.aload_n 0, 1) := by decide +kernel
theorem d_MM_explore_17 : decode y_MM_explore.2.1 17 = .ok (.getfield 142, 3) := by decide +kernel
theorem d_MM_explore_20 : decode y_MM_explore.2.1 20 = .ok (.ifCond .le 5, 3) := by decide +kernel
theorem d_MM_explore_25 : decode y_MM_explore.2.1 25 = .ok (.aload_n 0, 1) := by decide +kernel
theorem d_MM_explore_26 : decode y_MM_explore.2.1 26 = .ok (.iconst 1, 1) := by decide +kernel
theorem d_MM_explore_27 : decode y_MM_explore.2.1 27 = .ok (.putfield 532, 3) := by decide +kernel
theorem d_MM_explore_30 : decode y_MM_explore.2.1 30 = .ok (.aload_n 0, 1) := by decide +kernel
theorem d_MM_explore_31 : decode y_MM_explore.2.1 31 = .ok (.iconst 0, 1) := by decide +kernel
theorem d_MM_explore_32 : decode y_MM_explore.2.1 32 = .ok (.putfield 536, 3) := by decide +kernel
theorem d_MM_explore_23 : decode y_MM_explore.2.1 23 = .ok (.iconst 0, 1) := by decide +kernel
theorem d_MM_explore_24 : decode y_MM_explore.2.1 24 = .ok (.ireturn, 1) := by decide +kernel
theorem d_MM_explore_35 : decode y_MM_explore.2.1 35 = .ok (.aload_n 0, 1) := by decide +kernel
theorem d_MM_explore_36 : decode y_MM_explore.2.1 36 = .ok (.getfield 102, 3) := by decide +kernel
theorem d_MM_explore_39 : decode y_MM_explore.2.1 39 = .ok (.iconst 0, 1) := by decide +kernel
theorem d_MM_explore_40 : decode y_MM_explore.2.1 40 = .ok (.putfield 145, 3) := by decide +kernel
theorem d_MM_explore_43 : decode y_MM_explore.2.1 43 = .ok (.aload_n 0, 1) := by decide +kernel
theorem d_MM_explore_44 : decode y_MM_explore.2.1 44 = .ok (.getfield 105, 3) := by decide +kernel
theorem d_MM_explore_47 : decode y_MM_explore.2.1 47 = .ok (.iconst 0, 1) := by decide +kernel
theorem d_MM_explore_48 : decode y_MM_explore.2.1 48 = .ok (.putfield 145, 3) := by decide +kernel
theorem d_MM_explore_51 : decode y_MM_explore.2.1 51 = .ok (.aload_n 0, 1) := by decide +kernel
theorem d_MM_explore_52 : decode y_MM_explore.2.1 52 = .ok (.getfield 108, 3) := by decide +kernel
theorem d_MM_explore_55 : decode y_MM_explore.2.1 55 = .ok (.iconst 0, 1) := by decide +kernel
theorem d_MM_explore_56 : decode y_MM_explore.2.1 56 = .ok (.putfield 145, 3) := by decide +kernel
theorem d_MM_explore_59 : decode y_MM_explore.2.1 59 = .ok (.aload_n 0, 1) := by decide +kernel
theorem d_MM_explore_60 : decode y_MM_explore.2.1 60 = .ok (.getfield 111, 3) := by decide +kernel
theorem d_MM_explore_63 : decode y_MM_explore.2.1 63 = .ok (.iconst 0, 1) := by decide +kernel
theorem d_MM_explore_64 : decode y_MM_explore.2.1 64 = .ok (.putfield 145, 3) := by decide +kernel
theorem d_MM_explore_67 : decode y_MM_explore.2.1 67 = .ok (.aload_n 0, 1) := by decide +kernel
theorem d_MM_explore_68 : decode y_MM_explore.2.1 68 = .ok (.getfield 117, 3) := by decide +kernel
theorem d_MM_explore_71 : decode y_MM_explore.2.1 71 = .ok (.invokevirtual 535, 3) := by decide +kernel
theorem d_MM_explore_74 : decode y_MM_explore.2.1 74 = .ok (.aload_n 0, 1) := by decide +kernel
theorem d_MM_explore_75 : decode y_MM_explore.2.1 75 = .ok (.iconst 0, 1) := by decide +kernel
theorem d_MM_explore_76 : decode y_MM_explore.2.1 76 = .ok (.putfield 267, 3) := by decide +kernel
theorem d_MM_explore_79 : decode y_MM_explore.2.1 79 = .ok (.iconst 0, 1) := by decide +kernel
theorem d_MM_explore_80 : decode y_MM_explore.2.1 80 = .ok (.istore_n 1, 1) := by decide +kernel
theorem d_MM_explore_81 : decode y_MM_explore.2.1 81 = .ok (.iload_n 1, 1) := by decide +kernel
theorem d_MM_explore_82 : decode y_MM_explore.2.1 82 = .ok (.aload_n 0, 1) := by decide +kernel
theorem d_MM_explore_83 : decode y_MM_explore.2.1 83 = .ok (.getfield 34, 3) := by decide +kernel
theorem d_MM_explore_86 : decode y_MM_explore.2.1 86 = .ok (.getfield 456, 3) := by decide +kernel
theorem d_MM_explore_89 : decode y_MM_explore.2.1 89 = .ok (.if_icmp .ge 24, 3) := by decide +kernel
theorem d_MM_explore_113 : decode y_MM_explore.2.1 113 = .ok (.iconst 0, 1) := by decide +kernel
theorem d_MM_explore_114 : decode y_MM_explore.2.1 114 = .ok (.istore_n 1, 1) := by decide +kernel
theorem d_MM_explore_92 : decode y_MM_explore.2.1 92 = .ok (.aload_n 0, 1) := by decide +kernel
theorem d_MM_explore_93 : decode y_MM_explore.2.1 93 = .ok (.getfield 90, 3) := by decide +kernel
theorem d_MM_explore_96 : decode y_MM_explore.2.1 96 = .ok (.iload_n 1, 1) := by decide +kernel
theorem d_MM_explore_97 : decode y_MM_explore.2.1 97 = .ok (.aload_n 0, 1) := by decide +kernel
theorem d_MM_explore_98 : decode y_MM_explore.2.1 98 = .ok (.getfield 34, 3) := by decide +kernel
theorem d_MM_explore_101 : decode y_MM_explore.2.1 101 = .ok (.getfield 469, 3) := by decide +kernel
theorem d_MM_explore_104 : decode y_MM_explore.2.1 104 = .ok (.iload_n 1, 1) := by decide +kernel
theorem d_MM_explore_105 : decode y_MM_explore.2.1 105 = .ok (.iaload, 1) := by decide +kernel
theorem d_MM_explore_106 : decode y_MM_explore.2.1 106 = .ok (.iastore, 1) := by decide +kernel
theorem d_MM_explore_107 : decode y_MM_explore.2.1 107 = .ok (.iinc 1 1, 3) := by decide +kernel
theorem d_MM_explore_110 : decode y_MM_explore.2.1 110 = .ok (.goto (-29), 3) := by decide +kernel
theorem d_MM_explore_115 : decode y_MM_explore.2.1 115 = .ok (.iload_n 1, 1) := by decide +kernel
theorem d_MM_explore_116 : decode y_MM_explore.2.1 116 = .ok (.aload_n 0, 1) := by decide +kernel
theorem d_MM_explore_117 : decode y_MM_explore.2.1 117 = .ok (.getfield 532, 3) := by decide +kernel
theorem d_MM_explore_120 : decode y_MM_explore.2.1 120 = .ok (.if_icmp .ge 21, 3) := by decide +kernel
theorem d_MM_explore_123 : decode y_MM_explore.2.1 123 = .ok (.aload_n 0, 1) := by decide +kernel
theorem d_MM_explore_124 : decode y_MM_explore.2.1 124 = .ok (.getfield 267, 3) := by decide +kernel
theorem d_MM_explore_127 : decode y_MM_explore.2.1 127 = .ok (.ifCond .ne 14, 3) := by decide +kernel
theorem d_MM_explore_130 : decode y_MM_explore.2.1 130 = .ok (.aload_n 0, 1) := by decide +kernel
theorem d_MM_explore_131 : decode y_MM_explore.2.1 131 = .ok (.iload_n 1, 1) := by decide +kernel
theorem d_MM_explore_141 : decode y_MM_explore.2.1 141 = .ok (.aload_n 0, 1) := by decide +kernel
theorem d_MM_explore_142 : decode y_MM_explore.2.1 142 = .ok (.aload_n 0, 1) := by decide +kernel
theorem d_MM_explore_143 : decode y_MM_explore.2.1 143 = .ok (.getfield 267, 3) := by decide +kernel
theorem d_MM_explore_146 : decode y_MM_explore.2.1 146 = .ok (.ifCond .ne 7, 3) := by decide +kernel
theorem d_MM_explore_149 : decode y_MM_explore.2.1 149 = .ok (.iconst (-1), 1) := by decide +kernel
theorem d_MM_explore_150 : decode y_MM_explore.2.1 150 = .ok (.goto 6, 3) := by decide +kernel
theorem d_MM_explore_153 : decode y_MM_explore.2.1 153 = .ok (.iload_n 1, 1) := by decide +kernel
theorem d_MM_explore_154 : decode y_MM_explore.2.1 154 = .ok (.iconst 1, 1) := by decide +kernel
theorem d_MM_explore_155 : decode y_MM_explore.2.1 155 = .ok (.isub, 1) := by decide +kernel
theorem d_MM_explore_156 : decode y_MM_explore.2.1 156 = .ok (.putfield 87, 3) := by decide +kernel
theorem d_MM_explore_159 : decode y_MM_explore.2.1 159 = .ok (.aload_n 0, 1) := by decide +kernel
theorem d_MM_explore_160 : decode y_MM_explore.2.1 160 = .ok (.aload_n 0, 1) := by decide +kernel
theorem d_MM_explore_161 : decode y_MM_explore.2.1 161 = .ok (.getfield 267, 3) := by decide +kernel
theorem d_MM_explore_164 : decode y_MM_explore.2.1 164 = .ok (.ifCond .ne 7, 3) := by decide +kernel
theorem d_MM_explore_167 : decode y_MM_explore.2.1 167 = .ok (.iconst (-1), 1) := by decide +kernel
theorem d_MM_explore_168 : decode y_MM_explore.2.1 168 = .ok (.goto 7, 3) := by decide +kernel
theorem d_MM_explore_171 : decode y_MM_explore.2.1 171 = .ok (.aload_n 0, 1) := by decide +kernel
theorem d_MM_explore_172 : decode y_MM_explore.2.1 172 = .ok (.getfield 270, 3) := by decide +kernel
theorem d_MM_explore_175 : decode y_MM_explore.2.1 175 = .ok (.putfield 41, 3) := by decide +kernel
theorem d_MM_explore_178 : decode y_MM_explore.2.1 178 = .ok (.aload_n 0, 1) := by decide +kernel
theorem d_MM_explore_179 : decode y_MM_explore.2.1 179 = .ok (.aload_n 0, 1) := by decide +kernel
theorem d_MM_explore_180 : decode y_MM_explore.2.1 180 = .ok (.getfield 267, 3) := by decide +kernel
theorem d_MM_explore_183 : decode y_MM_explore.2.1 183 = .ok (.ifCond .ne 10, 3) := by decide +kernel
theorem d_MM_explore_186 : decode y_MM_explore.2.1 186 = .ok (.aload_n 0, 1) := by decide +kernel
theorem d_MM_explore_187 : decode y_MM_explore.2.1 187 = .ok (.getfield 532, 3) := by decide +kernel
theorem d_MM_explore_190 : decode y_MM_explore.2.1 190 = .ok (.goto 4, 3) := by decide +kernel
theorem d_MM_explore_193 : decode y_MM_explore.2.1 193 = .ok (.iconst 0, 1) := by decide +kernel
theorem d_MM_explore_194 : decode y_MM_explore.2.1 194 = .ok (.putfield 532, 3) := by decide +kernel
theorem d_MM_explore_197 : decode y_MM_explore.2.1 197 = .ok (.iconst 0, 1) := by decide +kernel
theorem d_MM_explore_198 : decode y_MM_explore.2.1 198 = .ok (.istore_n 2, 1) := by decide +kernel
theorem d_MM_explore_132 : decode y_MM_explore.2.1 132 = .ok (.invokevirtual 539, 3) := by decide +kernel
theorem d_MM_explore_135 : decode y_MM_explore.2.1 135 = .ok (.iinc 1 1, 3) := by decide +kernel
theorem d_MM_explore_138 : decode y_MM_explore.2.1 138 = .ok (.goto (-23), 3) := by decide +kernel
theorem d_MM_explore_199 : decode y_MM_explore.2.1 199 = .ok (.iload_n 2, 1) := by decide +kernel
theorem d_MM_explore_200 : decode y_MM_explore.2.1 200 = .ok (.aload_n 0, 1) := by decide +kernel
theorem d_MM_explore_201 : decode y_MM_explore.2.1 201 = .ok (.getfield 532, 3) := by decide +kernel
theorem d_MM_explore_204 : decode y_MM_explore.2.1 204 = .ok (.if_icmp .ge 14, 3) := by decide +kernel
theorem d_MM_explore_218 : decode y_MM_explore.2.1 218 = .ok (.aload_n 0, 1) := by decide +kernel
theorem d_MM_explore_219 : decode y_MM_explore.2.1 219 = .ok (.getfield 267, 3) := by decide +kernel
theorem d_MM_explore_222 : decode y_MM_explore.2.1 222 = .ok (.ireturn, 1) := by decide +kernel
theorem d_MM_explore_207 : decode y_MM_explore.2.1 207 = .ok (.aload_n 0, 1) := by decide +kernel
theorem d_MM_explore_208 : decode y_MM_explore.2.1 208 = .ok (.iload_n 2, 1) := by decide +kernel
theorem d_MM_explore_209 : decode y_MM_explore.2.1 209 = .ok (.invokevirtual 542, 3) := by decide +kernel
theorem d_MM_explore_212 : decode y_MM_explore.2.1 212 = .ok (.iinc 2 1, 3) := by decide +kernel
theorem d_MM_explore_215 : decode y_MM_explore.2.1 215 = .ok (.goto (-16), 3) := by decide +kernel
def h_MM_explore_81 (G : mG) (d : Nat) (a0 : Nat) (l1 : Int) (M : mM) (Q : Int → mM → Prop) : Prop := mWm G y_MM_explore (d + 1) 81 [vr a0, vi l1, vd] [] M (fun r9 M9 => ∃ x9, r9 = some (vi x9) ∧ Q x9 M9)
def h_MM_explore_115 (G : mG) (d : Nat) (a0 : Nat) (l1 : Int) (M : mM) (Q : Int → mM → Prop) : Prop := mWm G y_MM_explore (d + 1) 115 [vr a0, vi l1, vd] [] M (fun r9 M9 => ∃ x9, r9 = some (vi x9) ∧ Q x9 M9)
def h_MM_explore_199 (G : mG) (d : Nat) (a0 : Nat) (l2 : Int) (M : mM) (Q : Int → mM → Prop) : Prop := mWm G y_MM_explore (d + 1) 199 [vr a0, vd, vi l2] [] M (fun r9 M9 => ∃ x9, r9 = some (vi x9) ∧ Q x9 M9)
theorem k_MM_explore {G : mG} {d : Nat} {a0 : Nat} {M : mM} {Q : Int → mM → Prop} (hO : mOk M)
    (h : mK M a0 = 14 ∧ ∀ v3 : Int, v3 = (if (mI M a0 11 = 0) then 1 else 0) → ∀ M8, M8 = mUI M a0 0 v3 → ((mI M8 a0 0 ≤ 0) → (∀ M12, M12 = mUI M8 a0 29 1 → ∀ M14, M14 = mUI M12 a0 40 0 → mK M14 (mR M14 a0 35) = 15 ∧ ∀ M17, M17 = mUI M14 (mR M14 a0 35) 1 0 → mK M17 (mR M17 a0 36) = 15 ∧ ∀ M20, M20 = mUI M17 (mR M17 a0 36) 1 0 → mK M20 (mR M20 a0 37) = 15 ∧ ∀ M23, M23 = mUI M20 (mR M20 a0 37) 1 0 → mK M23 (mR M23 a0 38) = 15 ∧ ∀ M26, M26 = mUI M23 (mR M23 a0 38) 1 0 → mK M26 (mR M26 a0 39) = 17 ∧ Cv G y_MS_clear d [vr (mR M26 a0 39)] M26 (fun M29 => mOk M29 ∧ (mK M29 a0 = 14 ∧ ∀ M33, M33 = mUI M29 a0 16 0 → h_MM_explore_81 G d a0 0 M33 Q)))) ∧ (¬ (mI M8 a0 0 ≤ 0) → (Q 0 M8))) :
    Ci G y_MM_explore (d + 1) [vr a0] M Q := by
  refine wm_open (y := y_MM_explore) rfl (Nat.le_of_ble_eq_true rfl) (L := [vr a0, vd, vd]) rfl ?_
  obtain ⟨h1, h⟩ := h
  refine wm_aload_n d_MM_explore_0 rfl rfl ?_
  refine wm_aload_n d_MM_explore_1 rfl rfl ?_
  refine gf_MM_528 rfl d_MM_explore_2 h1 ?_
  have hJ : ∀ v3 : Int, v3 = (if (mI M a0 11 = 0) then 1 else 0) → mWm G y_MM_explore (d + 1) 13 [vr a0, vd, vd] [vi v3, vr a0] M (fun r9 M9 => ∃ x9, r9 = some (vi x9) ∧ Q x9 M9) := by
    intro v3 e5
    have h := h v3 e5
    have h6 : i32 v3 := by rw [e5]; (repeat' split) <;> first | exact ⟨by decide, by decide⟩ | exact ⟨by decide, by decide⟩
    have h7 : (v3 = 0 ∨ v3 = 1) := by rw [e5]; (repeat' split) <;> decide
    obtain ⟨M8, e9⟩ : ∃ M8, M8 = mUI M a0 0 v3 := ⟨_, rfl⟩
    replace h := h M8 e9
    have hOM8 : mOk M8 := by rw [e9]; exact mOk_UI hO h6
    refine pf_MM_142 rfl d_MM_explore_13 h1 h6 e9 ?_
    refine wm_aload_n d_MM_explore_16 rfl rfl ?_
    refine gf_MM_142 rfl d_MM_explore_17 (by rw [e9]; exact h1) ?_
    refine wm_if_le (tgt := 25) d_MM_explore_20 rfl (hOM8 _ _).1 (fun c11 => ?_) (fun c11 => ?_)
    · replace h := h.1 c11
      obtain ⟨M12, e13⟩ : ∃ M12, M12 = mUI M8 a0 29 1 := ⟨_, rfl⟩
      replace h := h M12 e13
      obtain ⟨M14, e15⟩ : ∃ M14, M14 = mUI M12 a0 40 0 := ⟨_, rfl⟩
      replace h := h M14 e15
      obtain ⟨h16, h⟩ := h
      obtain ⟨M17, e18⟩ : ∃ M17, M17 = mUI M14 (mR M14 a0 35) 1 0 := ⟨_, rfl⟩
      replace h := h M17 e18
      obtain ⟨h19, h⟩ := h
      obtain ⟨M20, e21⟩ : ∃ M20, M20 = mUI M17 (mR M17 a0 36) 1 0 := ⟨_, rfl⟩
      replace h := h M20 e21
      obtain ⟨h22, h⟩ := h
      obtain ⟨M23, e24⟩ : ∃ M23, M23 = mUI M20 (mR M20 a0 37) 1 0 := ⟨_, rfl⟩
      replace h := h M23 e24
      obtain ⟨h25, h⟩ := h
      obtain ⟨M26, e27⟩ : ∃ M26, M26 = mUI M23 (mR M23 a0 38) 1 0 := ⟨_, rfl⟩
      replace h := h M26 e27
      obtain ⟨h28, h⟩ := h
      refine wm_aload_n d_MM_explore_25 rfl rfl ?_
      refine wm_iconst d_MM_explore_26 ?_
      have hOM12 : mOk M12 := by rw [e13]; exact mOk_UI hOM8 ⟨by decide, by decide⟩
      refine pf_MM_532 rfl d_MM_explore_27 (by rw [e9]; exact h1) ⟨by decide, by decide⟩ e13 ?_
      refine wm_aload_n d_MM_explore_30 rfl rfl ?_
      refine wm_iconst d_MM_explore_31 ?_
      have hOM14 : mOk M14 := by rw [e15]; exact mOk_UI hOM12 ⟨by decide, by decide⟩
      refine pf_MM_536 rfl d_MM_explore_32 (by rw [e13, e9]; exact h1) ⟨by decide, by decide⟩ e15 ?_
      refine wm_aload_n d_MM_explore_35 rfl rfl ?_
      refine gf_MM_102 rfl d_MM_explore_36 (by rw [e15, e13, e9]; exact h1) ?_
      refine wm_iconst d_MM_explore_39 ?_
      have hOM17 : mOk M17 := by rw [e18]; exact mOk_UI hOM14 ⟨by decide, by decide⟩
      refine pf_MM_145 rfl d_MM_explore_40 h16 ⟨by decide, by decide⟩ e18 ?_
      refine wm_aload_n d_MM_explore_43 rfl rfl ?_
      refine gf_MM_105 rfl d_MM_explore_44 (by rw [e18, e15, e13, e9]; exact h1) ?_
      refine wm_iconst d_MM_explore_47 ?_
      have hOM20 : mOk M20 := by rw [e21]; exact mOk_UI hOM17 ⟨by decide, by decide⟩
      refine pf_MM_145 rfl d_MM_explore_48 h19 ⟨by decide, by decide⟩ e21 ?_
      refine wm_aload_n d_MM_explore_51 rfl rfl ?_
      refine gf_MM_108 rfl d_MM_explore_52 (by rw [e21, e18, e15, e13, e9]; exact h1) ?_
      refine wm_iconst d_MM_explore_55 ?_
      have hOM23 : mOk M23 := by rw [e24]; exact mOk_UI hOM20 ⟨by decide, by decide⟩
      refine pf_MM_145 rfl d_MM_explore_56 h22 ⟨by decide, by decide⟩ e24 ?_
      refine wm_aload_n d_MM_explore_59 rfl rfl ?_
      refine gf_MM_111 rfl d_MM_explore_60 (by rw [e24, e21, e18, e15, e13, e9]; exact h1) ?_
      refine wm_iconst d_MM_explore_63 ?_
      have hOM26 : mOk M26 := by rw [e27]; exact mOk_UI hOM23 ⟨by decide, by decide⟩
      refine pf_MM_145 rfl d_MM_explore_64 h25 ⟨by decide, by decide⟩ e27 ?_
      refine wm_aload_n d_MM_explore_67 rfl rfl ?_
      refine gf_MM_117 rfl d_MM_explore_68 (by rw [e27, e24, e21, e18, e15, e13, e9]; exact h1) ?_
      refine cf_MM_535 rfl d_MM_explore_71 h28 (Nat.le_of_ble_eq_true rfl) (Cv.mono h (fun M29 h => ?_))
      obtain ⟨hOM29, h⟩ := h
      obtain ⟨h32, h⟩ := h
      obtain ⟨M33, e34⟩ : ∃ M33, M33 = mUI M29 a0 16 0 := ⟨_, rfl⟩
      replace h := h M33 e34
      refine wm_aload_n d_MM_explore_74 rfl rfl ?_
      refine wm_iconst d_MM_explore_75 ?_
      have hOM33 : mOk M33 := by rw [e34]; exact mOk_UI hOM29 ⟨by decide, by decide⟩
      refine pf_MM_267 rfl d_MM_explore_76 h32 ⟨by decide, by decide⟩ e34 ?_
      refine wm_iconst d_MM_explore_79 ?_
      refine wm_istore_n d_MM_explore_80 rfl (by decide) (L' := [vr a0, vi 0, vd]) rfl ?_
      exact h
    · replace h := h.2 c11
      refine wm_iconst d_MM_explore_23 ?_
      refine wm_ireturn d_MM_explore_24 rfl rfl ?_
      exact ⟨_, rfl, h⟩
  clear h
  refine wm_if_eq (tgt := 12) d_MM_explore_5 rfl (hO _ _).1 (fun c2 => ?_) (fun c2 => ?_)
  · refine wm_iconst d_MM_explore_12 ?_
    exact hJ 1 (if_pos c2).symm
  · refine wm_iconst d_MM_explore_8 ?_
    refine wm_goto (tgt := 13) d_MM_explore_9 rfl ?_
    exact hJ 0 (if_neg c2).symm
theorem k_MM_explore_81 {G : mG} {d : Nat} {a0 : Nat} {l1 : Int} {M : mM} {Q : Int → mM → Prop} (hO : mOk M) (hi_l1 : i32 l1)
    (h : mK M a0 = 14 ∧ mK M (mR M a0 9) = 16 ∧ ((mI M (mR M a0 9) 12 ≤ l1) → (h_MM_explore_115 G d a0 0 M Q)) ∧ (¬ (mI M (mR M a0 9) 12 ≤ l1) → (mK M (mR M (mR M a0 9) 16) = 30 ∧ ((0 : Int) ≤ l1 ∧ l1 < (mN M (mR M (mR M a0 9) 16) : Int)) ∧ mK M (mR M a0 31) = 30 ∧ ((0 : Int) ≤ l1 ∧ l1 < (mN M (mR M a0 31) : Int)) ∧ ∀ M48, M48 = mUI M (mR M a0 31) (Int.toNat l1) (mI M (mR M (mR M a0 9) 16) (Int.toNat l1)) → h_MM_explore_81 G d a0 (l1 + 1) M48 Q))) :
    h_MM_explore_81 G d a0 l1 M Q := by
  unfold h_MM_explore_81
  obtain ⟨h36, h⟩ := h
  obtain ⟨h37, h⟩ := h
  refine wm_iload_n d_MM_explore_81 rfl rfl ?_
  refine wm_aload_n d_MM_explore_82 rfl rfl ?_
  refine gf_MM_34 rfl d_MM_explore_83 h36 ?_
  refine gf_MM_456 rfl d_MM_explore_86 h37 ?_
  refine wm_icmp_ge (tgt := 113) d_MM_explore_89 rfl hi_l1 (hO _ _).1 (fun c43 => ?_) (fun c43 => ?_)
  · replace h := h.1 c43
    refine wm_iconst d_MM_explore_113 ?_
    refine wm_istore_n d_MM_explore_114 rfl (by decide) (L' := [vr a0, vi 0, vd]) rfl ?_
    exact h
  · replace h := h.2 c43
    obtain ⟨h44, h⟩ := h
    obtain ⟨h45, h⟩ := h
    obtain ⟨h46, h⟩ := h
    obtain ⟨h47, h⟩ := h
    obtain ⟨M48, e49⟩ : ∃ M48, M48 = mUI M (mR M a0 31) (Int.toNat l1) (mI M (mR M (mR M a0 9) 16) (Int.toNat l1)) := ⟨_, rfl⟩
    replace h := h M48 e49
    refine wm_aload_n d_MM_explore_92 rfl rfl ?_
    refine gf_MM_90 rfl d_MM_explore_93 h36 ?_
    refine wm_iload_n d_MM_explore_96 rfl rfl ?_
    refine wm_aload_n d_MM_explore_97 rfl rfl ?_
    refine gf_MM_34 rfl d_MM_explore_98 h36 ?_
    refine gf_MM_469 rfl d_MM_explore_101 h37 ?_
    refine wm_iload_n d_MM_explore_104 rfl rfl ?_
    refine wm_iald d_MM_explore_105 h44 h45 ?_
    have hOM48 : mOk M48 := by rw [e49]; exact mOk_UI hO (hO _ _).1
    refine wm_iastE d_MM_explore_106 h46 h47 (hO _ _).1 e49 ?_
    refine wm_iinc d_MM_explore_107 (by decide) rfl (L' := [vr a0, vi (l1 + 1), vd]) rfl ?_
    refine wm_goto (tgt := 81) d_MM_explore_110 rfl ?_
    exact h
theorem k_MM_explore_115 {G : mG} {d : Nat} {a0 : Nat} {l1 : Int} {M : mM} {Q : Int → mM → Prop} (hO : mOk M) (hi_l1 : i32 l1)
    (h : mK M a0 = 14 ∧ (((mI M a0 29 ≤ l1) ∨ (¬ (mI M a0 16 = 0))) → (∀ v56 : Int, v56 = (if (mI M a0 16 = 0) then (-1) else l1 - 1) → i32 v56 ∧ ∀ M60, M60 = mUI M a0 30 v56 → ∀ v63 : Int, v63 = (if (mI M60 a0 16 = 0) then (-1) else mI M60 a0 17) → i32 v63 ∧ ∀ M67, M67 = mUI M60 a0 12 v63 → ∀ v70 : Int, v70 = (if (mI M67 a0 16 = 0) then mI M67 a0 29 else 0) → i32 v70 ∧ ∀ M74, M74 = mUI M67 a0 29 v70 → h_MM_explore_199 G d a0 0 M74 Q)) ∧ (¬ ((mI M a0 29 ≤ l1) ∨ (¬ (mI M a0 16 = 0))) → (Cv G y_MM_state0 d [vr a0, vi l1] M (fun M80 => mOk M80 ∧ (h_MM_explore_115 G d a0 (l1 + 1) M80 Q))))) :
    h_MM_explore_115 G d a0 l1 M Q := by
  unfold h_MM_explore_115
  obtain ⟨h50, h⟩ := h
  refine wm_iload_n d_MM_explore_115 rfl rfl ?_
  refine wm_aload_n d_MM_explore_116 rfl rfl ?_
  refine gf_MM_532 rfl d_MM_explore_117 h50 ?_
  have hE0 : ((mI M a0 29 ≤ l1) ∨ (¬ (mI M a0 16 = 0))) → mWm G y_MM_explore (d + 1) 141 [vr a0, vi l1, vd] [] M (fun r9 M9 => ∃ x9, r9 = some (vi x9) ∧ Q x9 M9) := by
    intro q54
    have h := h.1 q54
    refine wm_aload_n d_MM_explore_141 rfl rfl ?_
    refine wm_aload_n d_MM_explore_142 rfl rfl ?_
    refine gf_MM_267 rfl d_MM_explore_143 h50 ?_
    have hJ : ∀ v56 : Int, v56 = (if (mI M a0 16 = 0) then (-1) else l1 - 1) → mWm G y_MM_explore (d + 1) 156 [vr a0, vd, vd] [vi v56, vr a0] M (fun r9 M9 => ∃ x9, r9 = some (vi x9) ∧ Q x9 M9) := by
      intro v56 e58
      have h := h v56 e58
      obtain ⟨h59, h⟩ := h
      obtain ⟨M60, e61⟩ : ∃ M60, M60 = mUI M a0 30 v56 := ⟨_, rfl⟩
      replace h := h M60 e61
      have hOM60 : mOk M60 := by rw [e61]; exact mOk_UI hO h59
      refine pf_MM_87 rfl d_MM_explore_156 h50 h59 e61 ?_
      refine wm_aload_n d_MM_explore_159 rfl rfl ?_
      refine wm_aload_n d_MM_explore_160 rfl rfl ?_
      refine gf_MM_267 rfl d_MM_explore_161 (by rw [e61]; exact h50) ?_
      have hJ : ∀ v63 : Int, v63 = (if (mI M60 a0 16 = 0) then (-1) else mI M60 a0 17) → mWm G y_MM_explore (d + 1) 175 [vr a0, vd, vd] [vi v63, vr a0] M60 (fun r9 M9 => ∃ x9, r9 = some (vi x9) ∧ Q x9 M9) := by
        intro v63 e65
        have h := h v63 e65
        obtain ⟨h66, h⟩ := h
        obtain ⟨M67, e68⟩ : ∃ M67, M67 = mUI M60 a0 12 v63 := ⟨_, rfl⟩
        replace h := h M67 e68
        have hOM67 : mOk M67 := by rw [e68]; exact mOk_UI hOM60 h66
        refine pf_MM_41 rfl d_MM_explore_175 (by rw [e61]; exact h50) h66 e68 ?_
        refine wm_aload_n d_MM_explore_178 rfl rfl ?_
        refine wm_aload_n d_MM_explore_179 rfl rfl ?_
        refine gf_MM_267 rfl d_MM_explore_180 (by rw [e68, e61]; exact h50) ?_
        have hJ : ∀ v70 : Int, v70 = (if (mI M67 a0 16 = 0) then mI M67 a0 29 else 0) → mWm G y_MM_explore (d + 1) 194 [vr a0, vd, vd] [vi v70, vr a0] M67 (fun r9 M9 => ∃ x9, r9 = some (vi x9) ∧ Q x9 M9) := by
          intro v70 e72
          have h := h v70 e72
          obtain ⟨h73, h⟩ := h
          obtain ⟨M74, e75⟩ : ∃ M74, M74 = mUI M67 a0 29 v70 := ⟨_, rfl⟩
          replace h := h M74 e75
          have hOM74 : mOk M74 := by rw [e75]; exact mOk_UI hOM67 h73
          refine pf_MM_532 rfl d_MM_explore_194 (by rw [e68, e61]; exact h50) h73 e75 ?_
          refine wm_iconst d_MM_explore_197 ?_
          refine wm_istore_n d_MM_explore_198 rfl (by decide) (L' := [vr a0, vd, vi 0]) rfl ?_
          exact h
        clear h
        refine wm_if_ne (tgt := 193) d_MM_explore_183 rfl (hOM67 _ _).1 (fun c69 => ?_) (fun c69 => ?_)
        · refine wm_iconst d_MM_explore_193 ?_
          exact hJ 0 (if_neg c69).symm
        · replace c69 := Classical.not_not.mp c69
          refine wm_aload_n d_MM_explore_186 rfl rfl ?_
          refine gf_MM_532 rfl d_MM_explore_187 (by rw [e68, e61]; exact h50) ?_
          refine wm_goto (tgt := 194) d_MM_explore_190 rfl ?_
          exact hJ (mI M67 a0 29) (if_pos c69).symm
      clear h
      refine wm_if_ne (tgt := 171) d_MM_explore_164 rfl (hOM60 _ _).1 (fun c62 => ?_) (fun c62 => ?_)
      · refine wm_aload_n d_MM_explore_171 rfl rfl ?_
        refine gf_MM_270 rfl d_MM_explore_172 (by rw [e61]; exact h50) ?_
        exact hJ (mI M60 a0 17) (if_neg c62).symm
      · replace c62 := Classical.not_not.mp c62
        refine wm_iconst d_MM_explore_167 ?_
        refine wm_goto (tgt := 175) d_MM_explore_168 rfl ?_
        exact hJ (-1) (if_pos c62).symm
    clear h
    refine wm_if_ne (tgt := 153) d_MM_explore_146 rfl (hO _ _).1 (fun c55 => ?_) (fun c55 => ?_)
    · refine wm_iload_n d_MM_explore_153 rfl rfl ?_
      refine wm_iconst d_MM_explore_154 ?_
      refine wm_isub d_MM_explore_155 ?_
      refine wm_less (L' := [vr a0, vd, vd]) ⟨Or.inr rfl, Or.inl rfl, Or.inl rfl, trivial⟩ ?_
      exact hJ (l1 - 1) (if_neg c55).symm
    · replace c55 := Classical.not_not.mp c55
      refine wm_iconst d_MM_explore_149 ?_
      refine wm_goto (tgt := 156) d_MM_explore_150 rfl ?_
      refine wm_less (L' := [vr a0, vd, vd]) ⟨Or.inr rfl, Or.inl rfl, Or.inl rfl, trivial⟩ ?_
      exact hJ (-1) (if_pos c55).symm
  have hE1 : ¬ ((mI M a0 29 ≤ l1) ∨ (¬ (mI M a0 16 = 0))) → mWm G y_MM_explore (d + 1) 130 [vr a0, vi l1, vd] [] M (fun r9 M9 => ∃ x9, r9 = some (vi x9) ∧ Q x9 M9) := by
    intro q79
    have h := h.2 q79
    refine wm_aload_n d_MM_explore_130 rfl rfl ?_
    refine wm_iload_n d_MM_explore_131 rfl rfl ?_
    refine cf_MM_539 rfl d_MM_explore_132 h50 (Nat.le_of_ble_eq_true rfl) (Cv.mono h (fun M80 h => ?_))
    obtain ⟨hOM80, h⟩ := h
    refine wm_iinc d_MM_explore_135 (by decide) rfl (L' := [vr a0, vi (l1 + 1), vd]) rfl ?_
    refine wm_goto (tgt := 115) d_MM_explore_138 rfl ?_
    exact h
  clear h
  refine wm_icmp_ge (tgt := 141) d_MM_explore_120 rfl hi_l1 (hO _ _).1 (fun c52 => ?_) (fun c52 => ?_)
  · exact hE0 (Or.inl c52)
  · refine wm_aload_n d_MM_explore_123 rfl rfl ?_
    refine gf_MM_267 rfl d_MM_explore_124 h50 ?_
    refine wm_if_ne (tgt := 141) d_MM_explore_127 rfl (hO _ _).1 (fun c51 => ?_) (fun c51 => ?_)
    · exact hE0 (Or.inr c51)
    · replace c51 := Classical.not_not.mp c51
      exact hE1 (fun z83 => Or.elim z83 c52 (fun z84 => z84 c51))
theorem k_MM_explore_199 {G : mG} {d : Nat} {a0 : Nat} {l2 : Int} {M : mM} {Q : Int → mM → Prop} (hO : mOk M) (hi_l2 : i32 l2)
    (h : mK M a0 = 14 ∧ ((mI M a0 29 ≤ l2) → (Q (mI M a0 16) M)) ∧ (¬ (mI M a0 29 ≤ l2) → (Cv G y_MM_tellState d [vr a0, vi l2] M (fun M88 => mOk M88 ∧ (h_MM_explore_199 G d a0 (l2 + 1) M88 Q))))) :
    h_MM_explore_199 G d a0 l2 M Q := by
  unfold h_MM_explore_199
  obtain ⟨h85, h⟩ := h
  refine wm_iload_n d_MM_explore_199 rfl rfl ?_
  refine wm_aload_n d_MM_explore_200 rfl rfl ?_
  refine gf_MM_532 rfl d_MM_explore_201 h85 ?_
  refine wm_icmp_ge (tgt := 218) d_MM_explore_204 rfl hi_l2 (hO _ _).1 (fun c87 => ?_) (fun c87 => ?_)
  · replace h := h.1 c87
    refine wm_aload_n d_MM_explore_218 rfl rfl ?_
    refine gf_MM_267 rfl d_MM_explore_219 h85 ?_
    refine wm_ireturn d_MM_explore_222 rfl rfl ?_
    exact ⟨_, rfl, h⟩
  · replace h := h.2 c87
    refine wm_aload_n d_MM_explore_207 rfl rfl ?_
    refine wm_iload_n d_MM_explore_208 rfl rfl ?_
    refine cf_MM_542 rfl d_MM_explore_209 h85 (Nat.le_of_ble_eq_true rfl) (Cv.mono h (fun M88 h => ?_))
    obtain ⟨hOM88, h⟩ := h
    refine wm_iinc d_MM_explore_212 (by decide) rfl (L' := [vr a0, vd, vi (l2 + 1)]) rfl ?_
    refine wm_goto (tgt := 199) d_MM_explore_215 rfl ?_
    exact h
