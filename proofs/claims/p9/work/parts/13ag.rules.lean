theorem d_MM_name_0 : decode y_MM_name.2.1 0 = .ok (.iload_n 2, 1) := by decide +kernel
theorem d_MM_name_1 : decode y_MM_name.2.1 1 = .ok (.bipush 100, 2) := by decide +kernel
theorem d_MM_name_3 : decode y_MM_name.2.1 3 = .ok (.if_icmp .lt 36, 3) := by decide +kernel
theorem d_MM_name_39 : decode y_MM_name.2.1 39 = .ok (.aload_n 1, 1) := by decide +kernel
theorem d_MM_name_40 : decode y_MM_name.2.1 40 = .ok (.getfield 407, 3) := by decide +kernel
theorem d_MM_name_43 : decode y_MM_name.2.1 43 = .ok (.iload_n 2, 1) := by decide +kernel
theorem d_MM_name_44 : decode y_MM_name.2.1 44 = .ok (.baload, 1) := by decide +kernel
theorem d_MM_name_45 : decode y_MM_name.2.1 45 = .ok (.ifCond .ne 22, 3) := by decide +kernel
theorem d_MM_name_48 : decode y_MM_name.2.1 48 = .ok (.aload_n 0, 1) := by decide +kernel
theorem d_MM_name_49 : decode y_MM_name.2.1 49 = .ok (.aload_n 1, 1) := by decide +kernel
theorem d_MM_name_50 : decode y_MM_name.2.1 50 = .ok (.getfield 410, 3) := by decide +kernel
theorem d_MM_name_53 : decode y_MM_name.2.1 53 = .ok (.iload_n 2, 1) := by decide +kernel
theorem d_MM_name_54 : decode y_MM_name.2.1 54 = .ok (.laload, 1) := by decide +kernel
theorem d_MM_name_55 : decode y_MM_name.2.1 55 = .ok (.aload_n 1, 1) := by decide +kernel
theorem d_MM_name_56 : decode y_MM_name.2.1 56 = .ok (.getfield 411, 3) := by decide +kernel
theorem d_MM_name_59 : decode y_MM_name.2.1 59 = .ok (.iload_n 2, 1) := by decide +kernel
theorem d_MM_name_60 : decode y_MM_name.2.1 60 = .ok (.laload, 1) := by decide +kernel
theorem d_MM_name_6 : decode y_MM_name.2.1 6 = .ok (.iload_n 2, 1) := by decide +kernel
theorem d_MM_name_7 : decode y_MM_name.2.1 7 = .ok (.bipush 100, 2) := by decide +kernel
theorem d_MM_name_9 : decode y_MM_name.2.1 9 = .ok (.isub, 1) := by decide +kernel
theorem d_MM_name_10 : decode y_MM_name.2.1 10 = .ok (.istore_n 3, 1) := by decide +kernel
theorem d_MM_name_11 : decode y_MM_name.2.1 11 = .ok (.aload_n 0, 1) := by decide +kernel
theorem d_MM_name_12 : decode y_MM_name.2.1 12 = .ok (.aload_n 0, 1) := by decide +kernel
theorem d_MM_name_13 : decode y_MM_name.2.1 13 = .ok (.getfield 73, 3) := by decide +kernel
theorem d_MM_name_16 : decode y_MM_name.2.1 16 = .ok (.iload_n 3, 1) := by decide +kernel
theorem d_MM_name_17 : decode y_MM_name.2.1 17 = .ok (.iaload, 1) := by decide +kernel
theorem d_MM_name_18 : decode y_MM_name.2.1 18 = .ok (.i2l, 1) := by decide +kernel
theorem d_MM_name_19 : decode y_MM_name.2.1 19 = .ok (.aload_n 1, 1) := by decide +kernel
theorem d_MM_name_20 : decode y_MM_name.2.1 20 = .ok (.getfield 357, 3) := by decide +kernel
theorem d_MM_name_23 : decode y_MM_name.2.1 23 = .ok (.iload_n 3, 1) := by decide +kernel
theorem d_MM_name_24 : decode y_MM_name.2.1 24 = .ok (.baload, 1) := by decide +kernel
theorem d_MM_name_67 : decode y_MM_name.2.1 67 = .ok (.aload_n 0, 1) := by decide +kernel
theorem d_MM_name_68 : decode y_MM_name.2.1 68 = .ok (.getfield 77, 3) := by decide +kernel
theorem d_MM_name_71 : decode y_MM_name.2.1 71 = .ok (.iload_n 2, 1) := by decide +kernel
theorem d_MM_name_72 : decode y_MM_name.2.1 72 = .ok (.baload, 1) := by decide +kernel
theorem d_MM_name_73 : decode y_MM_name.2.1 73 = .ok (.ifCond .eq 22, 3) := by decide +kernel
theorem d_MM_name_95 : decode y_MM_name.2.1 95 = .ok (.aload_n 0, 1) := by decide +kernel
theorem d_MM_name_96 : decode y_MM_name.2.1 96 = .ok (.iconst 3, 1) := by decide +kernel
theorem d_MM_name_97 : decode y_MM_name.2.1 97 = .ok (.iload_n 2, 1) := by decide +kernel
theorem d_MM_name_76 : decode y_MM_name.2.1 76 = .ok (.aload_n 0, 1) := by decide +kernel
theorem d_MM_name_77 : decode y_MM_name.2.1 77 = .ok (.aload_n 0, 1) := by decide +kernel
theorem d_MM_name_78 : decode y_MM_name.2.1 78 = .ok (.getfield 81, 3) := by decide +kernel
theorem d_MM_name_81 : decode y_MM_name.2.1 81 = .ok (.iload_n 2, 1) := by decide +kernel
theorem d_MM_name_82 : decode y_MM_name.2.1 82 = .ok (.laload, 1) := by decide +kernel
theorem d_MM_name_83 : decode y_MM_name.2.1 83 = .ok (.aload_n 0, 1) := by decide +kernel
theorem d_MM_name_84 : decode y_MM_name.2.1 84 = .ok (.getfield 84, 3) := by decide +kernel
theorem d_MM_name_87 : decode y_MM_name.2.1 87 = .ok (.iload_n 2, 1) := by decide +kernel
theorem d_MM_name_88 : decode y_MM_name.2.1 88 = .ok (.laload, 1) := by decide +kernel
theorem d_MM_name_61 : decode y_MM_name.2.1 61 = .ok (.invokevirtual 373, 3) := by decide +kernel
theorem d_MM_name_64 : decode y_MM_name.2.1 64 = .ok (.goto 48, 3) := by decide +kernel
theorem d_MM_name_112 : decode y_MM_name.2.1 112 = .ok (.return_, 1) := by decide +kernel
theorem d_MM_name_98 : decode y_MM_name.2.1 98 = .ok (.invokevirtual 385, 3) := by decide +kernel
theorem d_MM_name_101 : decode y_MM_name.2.1 101 = .ok (.aload_n 0, 1) := by decide +kernel
theorem d_MM_name_102 : decode y_MM_name.2.1 102 = .ok (.iconst 0, 1) := by decide +kernel
theorem d_MM_name_103 : decode y_MM_name.2.1 103 = .ok (.aload_n 1, 1) := by decide +kernel
theorem d_MM_name_104 : decode y_MM_name.2.1 104 = .ok (.getfield 412, 3) := by decide +kernel
theorem d_MM_name_107 : decode y_MM_name.2.1 107 = .ok (.iload_n 2, 1) := by decide +kernel
theorem d_MM_name_108 : decode y_MM_name.2.1 108 = .ok (.iaload, 1) := by decide +kernel
theorem d_MM_name_109 : decode y_MM_name.2.1 109 = .ok (.invokevirtual 385, 3) := by decide +kernel
theorem d_MM_name_89 : decode y_MM_name.2.1 89 = .ok (.invokevirtual 373, 3) := by decide +kernel
theorem d_MM_name_92 : decode y_MM_name.2.1 92 = .ok (.goto 20, 3) := by decide +kernel
theorem d_MM_name_25 : decode y_MM_name.2.1 25 = .ok (.ifCond .eq 7, 3) := by decide +kernel
theorem d_MM_name_32 : decode y_MM_name.2.1 32 = .ok (.lconst 1, 1) := by decide +kernel
theorem d_MM_name_28 : decode y_MM_name.2.1 28 = .ok (.lconst 0, 1) := by decide +kernel
theorem d_MM_name_29 : decode y_MM_name.2.1 29 = .ok (.goto 4, 3) := by decide +kernel
theorem d_MM_name_33 : decode y_MM_name.2.1 33 = .ok (.invokevirtual 373, 3) := by decide +kernel
theorem d_MM_name_36 : decode y_MM_name.2.1 36 = .ok (.goto 76, 3) := by decide +kernel
theorem k_MM_name {G : mG} {d : Nat} {a0 : Nat} {a1 : Nat} {l2 : Int} {M : mM} {Q : mM → Prop} (hO : mOk M) (hi_l2 : i32 l2)
    (h : ((l2 < 100) → (mK M a1 = 16 ∧ mK M (mR M a1 7) = 31 ∧ ((0 : Int) ≤ l2 ∧ l2 < (mN M (mR M a1 7) : Int)) ∧ ((mI M (mR M a1 7) (Int.toNat l2) = 0) → (mK M (mR M a1 10) = 33 ∧ ((0 : Int) ≤ l2 ∧ l2 < (mN M (mR M a1 10) : Int)) ∧ mK M (mR M a1 11) = 33 ∧ ((0 : Int) ≤ l2 ∧ l2 < (mN M (mR M a1 11) : Int)) ∧ mK M a0 = 14 ∧ Cv G y_MM_push d [vr a0, vl (mL M (mR M a1 10) (Int.toNat l2)), vl (mL M (mR M a1 11) (Int.toNat l2))] M (fun M45 => mOk M45 ∧ (Q M45)))) ∧ (¬ (mI M (mR M a1 7) (Int.toNat l2) = 0) → (mK M a0 = 14 ∧ mK M (mR M a0 26) = 31 ∧ ((0 : Int) ≤ l2 ∧ l2 < (mN M (mR M a0 26) : Int)) ∧ ((mI M (mR M a0 26) (Int.toNat l2) = 0) → (Cv G y_MM_todo d [vr a0, vi 3, vi l2] M (fun M54 => mOk M54 ∧ (mK M54 a1 = 16 ∧ mK M54 (mR M54 a1 9) = 30 ∧ ((0 : Int) ≤ l2 ∧ l2 < (mN M54 (mR M54 a1 9) : Int)) ∧ mK M54 a0 = 14 ∧ Cv G y_MM_todo d [vr a0, vi 0, vi (mI M54 (mR M54 a1 9) (Int.toNat l2))] M54 (fun M61 => mOk M61 ∧ (Q M61)))))) ∧ (¬ (mI M (mR M a0 26) (Int.toNat l2) = 0) → (mK M (mR M a0 27) = 33 ∧ ((0 : Int) ≤ l2 ∧ l2 < (mN M (mR M a0 27) : Int)) ∧ mK M (mR M a0 28) = 33 ∧ ((0 : Int) ≤ l2 ∧ l2 < (mN M (mR M a0 28) : Int)) ∧ Cv G y_MM_push d [vr a0, vl (mL M (mR M a0 27) (Int.toNat l2)), vl (mL M (mR M a0 28) (Int.toNat l2))] M (fun M68 => mOk M68 ∧ (Q M68)))))))) ∧ (¬ (l2 < 100) → (mK M a0 = 14 ∧ mK M (mR M a0 25) = 30 ∧ ((0 : Int) ≤ l2 - 100 ∧ l2 - 100 < (mN M (mR M a0 25) : Int)) ∧ mK M a1 = 16 ∧ mK M (mR M a1 13) = 31 ∧ ((0 : Int) ≤ l2 - 100 ∧ l2 - 100 < (mN M (mR M a1 13) : Int)) ∧ ∀ v78 : Int, v78 = (if (mI M (mR M a1 13) (Int.toNat (l2 - 100)) = 0) then 1 else 0) → Cv G y_MM_push d [vr a0, vl (mI M (mR M a0 25) (Int.toNat (l2 - 100))), vl v78] M (fun M82 => mOk M82 ∧ (Q M82))))) :
    Cv G y_MM_name (d + 1) [vr a0, vr a1, vi l2] M Q := by
  refine wm_open (y := y_MM_name) rfl (Nat.le_of_ble_eq_true rfl) (L := [vr a0, vr a1, vi l2, vd]) rfl ?_
  refine wm_iload_n d_MM_name_0 rfl rfl ?_
  refine wm_bipush d_MM_name_1 (by decide) ?_
  refine wm_icmp_lt (tgt := 39) d_MM_name_3 rfl hi_l2 ⟨by decide, by decide⟩ (fun c25 => ?_) (fun c25 => ?_)
  · replace h := h.1 c25
    obtain ⟨h26, h⟩ := h
    obtain ⟨h27, h⟩ := h
    obtain ⟨h28, h⟩ := h
    refine wm_aload_n d_MM_name_39 rfl rfl ?_
    refine gf_MM_407 rfl d_MM_name_40 h26 ?_
    refine wm_iload_n d_MM_name_43 rfl rfl ?_
    refine wm_zald d_MM_name_44 h27 h28 ?_
    refine wm_if_ne (tgt := 67) d_MM_name_45 rfl (hO _ _).1 (fun c39 => ?_) (fun c39 => ?_)
    · replace h := h.2 c39
      obtain ⟨h48, h⟩ := h
      obtain ⟨h49, h⟩ := h
      obtain ⟨h50, h⟩ := h
      refine wm_aload_n d_MM_name_67 rfl rfl ?_
      refine gf_MM_77 rfl d_MM_name_68 h48 ?_
      refine wm_iload_n d_MM_name_71 rfl rfl ?_
      refine wm_zald d_MM_name_72 h49 h50 ?_
      refine wm_if_eq (tgt := 95) d_MM_name_73 rfl (hO _ _).1 (fun c53 => ?_) (fun c53 => ?_)
      · replace h := h.1 c53
        refine wm_aload_n d_MM_name_95 rfl rfl ?_
        refine wm_iconst d_MM_name_96 ?_
        refine wm_iload_n d_MM_name_97 rfl rfl ?_
        refine cf_MM_385 rfl d_MM_name_98 h48 (Nat.le_of_ble_eq_true rfl) (Cv.mono h (fun M54 h => ?_))
        obtain ⟨hOM54, h⟩ := h
        obtain ⟨h57, h⟩ := h
        obtain ⟨h58, h⟩ := h
        obtain ⟨h59, h⟩ := h
        obtain ⟨h60, h⟩ := h
        refine wm_aload_n d_MM_name_101 rfl rfl ?_
        refine wm_iconst d_MM_name_102 ?_
        refine wm_aload_n d_MM_name_103 rfl rfl ?_
        refine gf_MM_412 rfl d_MM_name_104 h57 ?_
        refine wm_iload_n d_MM_name_107 rfl rfl ?_
        refine wm_iald d_MM_name_108 h58 h59 ?_
        refine cf_MM_385 rfl d_MM_name_109 h60 (Nat.le_of_ble_eq_true rfl) (Cv.mono h (fun M61 h => ?_))
        obtain ⟨hOM61, h⟩ := h
        refine wm_return d_MM_name_112 rfl ?_
        exact ⟨rfl, h⟩
      · replace h := h.2 c53
        obtain ⟨h64, h⟩ := h
        obtain ⟨h65, h⟩ := h
        obtain ⟨h66, h⟩ := h
        obtain ⟨h67, h⟩ := h
        refine wm_aload_n d_MM_name_76 rfl rfl ?_
        refine wm_aload_n d_MM_name_77 rfl rfl ?_
        refine gf_MM_81 rfl d_MM_name_78 h48 ?_
        refine wm_iload_n d_MM_name_81 rfl rfl ?_
        refine wm_lald d_MM_name_82 h64 h65 ?_
        refine wm_aload_n d_MM_name_83 rfl rfl ?_
        refine gf_MM_84 rfl d_MM_name_84 h48 ?_
        refine wm_iload_n d_MM_name_87 rfl rfl ?_
        refine wm_lald d_MM_name_88 h66 h67 ?_
        refine cf_MM_373 rfl d_MM_name_89 h48 (Nat.le_of_ble_eq_true rfl) (Cv.mono h (fun M68 h => ?_))
        obtain ⟨hOM68, h⟩ := h
        refine wm_goto (tgt := 112) d_MM_name_92 rfl ?_
        refine wm_return d_MM_name_112 rfl ?_
        exact ⟨rfl, h⟩
    · replace c39 := Classical.not_not.mp c39
      replace h := h.1 c39
      obtain ⟨h40, h⟩ := h
      obtain ⟨h41, h⟩ := h
      obtain ⟨h42, h⟩ := h
      obtain ⟨h43, h⟩ := h
      obtain ⟨h44, h⟩ := h
      refine wm_aload_n d_MM_name_48 rfl rfl ?_
      refine wm_aload_n d_MM_name_49 rfl rfl ?_
      refine gf_MM_410 rfl d_MM_name_50 h26 ?_
      refine wm_iload_n d_MM_name_53 rfl rfl ?_
      refine wm_lald d_MM_name_54 h40 h41 ?_
      refine wm_aload_n d_MM_name_55 rfl rfl ?_
      refine gf_MM_411 rfl d_MM_name_56 h26 ?_
      refine wm_iload_n d_MM_name_59 rfl rfl ?_
      refine wm_lald d_MM_name_60 h42 h43 ?_
      refine cf_MM_373 rfl d_MM_name_61 h44 (Nat.le_of_ble_eq_true rfl) (Cv.mono h (fun M45 h => ?_))
      obtain ⟨hOM45, h⟩ := h
      refine wm_goto (tgt := 112) d_MM_name_64 rfl ?_
      refine wm_return d_MM_name_112 rfl ?_
      exact ⟨rfl, h⟩
  · replace h := h.2 c25
    obtain ⟨h71, h⟩ := h
    obtain ⟨h72, h⟩ := h
    obtain ⟨h73, h⟩ := h
    obtain ⟨h74, h⟩ := h
    obtain ⟨h75, h⟩ := h
    obtain ⟨h76, h⟩ := h
    refine wm_iload_n d_MM_name_6 rfl rfl ?_
    refine wm_bipush d_MM_name_7 (by decide) ?_
    refine wm_isub d_MM_name_9 ?_
    refine wm_istore_n d_MM_name_10 rfl (by decide) (L' := [vr a0, vr a1, vi l2, vi (l2 - 100)]) rfl ?_
    refine wm_aload_n d_MM_name_11 rfl rfl ?_
    refine wm_aload_n d_MM_name_12 rfl rfl ?_
    refine gf_MM_73 rfl d_MM_name_13 h71 ?_
    refine wm_iload_n d_MM_name_16 rfl rfl ?_
    refine wm_iald d_MM_name_17 h72 h73 ?_
    refine wm_i2l d_MM_name_18 (hO _ _).1 ?_
    refine wm_aload_n d_MM_name_19 rfl rfl ?_
    refine gf_MM_357 rfl d_MM_name_20 h74 ?_
    refine wm_iload_n d_MM_name_23 rfl rfl ?_
    refine wm_zald d_MM_name_24 h75 h76 ?_
    have hJ : ∀ v78 : Int, v78 = (if (mI M (mR M a1 13) (Int.toNat (l2 - 100)) = 0) then 1 else 0) → mWm G y_MM_name (d + 1) 33 [vd, vd, vd, vd] [vl v78, vl (mI M (mR M a0 25) (Int.toNat (l2 - 100))), vr a0] M (fun r9 M9 => r9 = none ∧ Q M9) := by
      intro v78 e80
      have h := h v78 e80
      have h81 : (v78 = 0 ∨ v78 = 1) := by rw [e80]; (repeat' split) <;> decide
      refine cf_MM_373 rfl d_MM_name_33 h71 (Nat.le_of_ble_eq_true rfl) (Cv.mono h (fun M82 h => ?_))
      obtain ⟨hOM82, h⟩ := h
      refine wm_goto (tgt := 112) d_MM_name_36 rfl ?_
      refine wm_return d_MM_name_112 rfl ?_
      exact ⟨rfl, h⟩
    clear h
    refine wm_if_eq (tgt := 32) d_MM_name_25 rfl (hO _ _).1 (fun c77 => ?_) (fun c77 => ?_)
    · refine wm_lconst (x := 1) d_MM_name_32 rfl ?_
      refine wm_less (L' := [vd, vd, vd, vd]) ⟨Or.inl rfl, Or.inl rfl, Or.inl rfl, Or.inl rfl, trivial⟩ ?_
      exact hJ 1 (if_pos c77).symm
    · refine wm_lconst (x := 0) d_MM_name_28 rfl ?_
      refine wm_goto (tgt := 33) d_MM_name_29 rfl ?_
      refine wm_less (L' := [vd, vd, vd, vd]) ⟨Or.inl rfl, Or.inl rfl, Or.inl rfl, Or.inl rfl, trivial⟩ ?_
      exact hJ 0 (if_neg c77).symm
theorem d_MM_choose0_0 : decode y_MM_choose0.2.1 0 = .ok (.aload_n 1, 1) := by decide +kernel
theorem d_MM_choose0_1 : decode y_MM_choose0.2.1 1 = .ok (.getfield 273, 3) := by decide +kernel
theorem d_MM_choose0_4 : decode y_MM_choose0.2.1 4 = .ok (.iload_n 2, 1) := by decide +kernel
theorem d_MM_choose0_5 : decode y_MM_choose0.2.1 5 = .ok (.invokevirtual 155, 3) := by decide +kernel
theorem d_MM_choose0_8 : decode y_MM_choose0.2.1 8 = .ok (.istore_n 3, 1) := by decide +kernel
theorem d_MM_choose0_9 : decode y_MM_choose0.2.1 9 = .ok (.aload_n 0, 1) := by decide +kernel
theorem d_MM_choose0_10 : decode y_MM_choose0.2.1 10 = .ok (.getfield 63, 3) := by decide +kernel
theorem d_MM_choose0_13 : decode y_MM_choose0.2.1 13 = .ok (.aload_n 0, 1) := by decide +kernel
theorem d_MM_choose0_14 : decode y_MM_choose0.2.1 14 = .ok (.getfield 370, 3) := by decide +kernel
theorem d_MM_choose0_17 : decode y_MM_choose0.2.1 17 = .ok (.iconst 1, 1) := by decide +kernel
theorem d_MM_choose0_18 : decode y_MM_choose0.2.1 18 = .ok (.isub, 1) := by decide +kernel
theorem d_MM_choose0_19 : decode y_MM_choose0.2.1 19 = .ok (.laload, 1) := by decide +kernel
theorem d_MM_choose0_20 : decode y_MM_choose0.2.1 20 = .ok (.lconst 1, 1) := by decide +kernel
theorem d_MM_choose0_21 : decode y_MM_choose0.2.1 21 = .ok (.lcmp, 1) := by decide +kernel
theorem d_MM_choose0_22 : decode y_MM_choose0.2.1 22 = .ok (.ifCond .ne 7, 3) := by decide +kernel
theorem d_MM_choose0_25 : decode y_MM_choose0.2.1 25 = .ok (.iconst 1, 1) := by decide +kernel
theorem d_MM_choose0_26 : decode y_MM_choose0.2.1 26 = .ok (.goto 4, 3) := by decide +kernel
theorem d_MM_choose0_29 : decode y_MM_choose0.2.1 29 = .ok (.iconst 0, 1) := by decide +kernel
theorem d_MM_choose0_30 : decode y_MM_choose0.2.1 30 = .ok (.istore 4, 2) := by decide +kernel
theorem d_MM_choose0_32 : decode y_MM_choose0.2.1 32 = .ok (.aload_n 1, 1) := by decide +kernel
theorem d_MM_choose0_33 : decode y_MM_choose0.2.1 33 = .ok (.getfield 290, 3) := by decide +kernel
theorem d_MM_choose0_36 : decode y_MM_choose0.2.1 36 = .ok (.aload_n 1, 1) := by decide +kernel
theorem d_MM_choose0_37 : decode y_MM_choose0.2.1 37 = .ok (.getfield 287, 3) := by decide +kernel
theorem d_MM_choose0_40 : decode y_MM_choose0.2.1 40 = .ok (.iload_n 2, 1) := by decide +kernel
theorem d_MM_choose0_41 : decode y_MM_choose0.2.1 41 = .ok (.invokevirtual 155, 3) := by decide +kernel
theorem d_MM_choose0_44 : decode y_MM_choose0.2.1 44 = .ok (.invokevirtual 155, 3) := by decide +kernel
theorem d_MM_choose0_47 : decode y_MM_choose0.2.1 47 = .ok (.istore 5, 2) := by decide +kernel
theorem d_MM_choose0_49 : decode y_MM_choose0.2.1 49 = .ok (.iload_n 3, 1) := by decide +kernel
theorem d_MM_choose0_50 : decode y_MM_choose0.2.1 50 = .ok (.bipush 32, 2) := by decide +kernel
theorem d_MM_choose0_52 : decode y_MM_choose0.2.1 52 = .ok (.if_icmp .ne 40, 3) := by decide +kernel
theorem d_MM_choose0_55 : decode y_MM_choose0.2.1 55 = .ok (.aload_n 0, 1) := by decide +kernel
theorem d_MM_choose0_56 : decode y_MM_choose0.2.1 56 = .ok (.aload_n 0, 1) := by decide +kernel
theorem d_MM_choose0_57 : decode y_MM_choose0.2.1 57 = .ok (.getfield 370, 3) := by decide +kernel
theorem d_MM_choose0_60 : decode y_MM_choose0.2.1 60 = .ok (.iconst 1, 1) := by decide +kernel
theorem d_MM_choose0_61 : decode y_MM_choose0.2.1 61 = .ok (.isub, 1) := by decide +kernel
theorem d_MM_choose0_62 : decode y_MM_choose0.2.1 62 = .ok (.putfield 370, 3) := by decide +kernel
theorem d_MM_choose0_65 : decode y_MM_choose0.2.1 65 = .ok (.aload_n 0, 1) := by decide +kernel
theorem d_MM_choose0_66 : decode y_MM_choose0.2.1 66 = .ok (.iconst 0, 1) := by decide +kernel
theorem d_MM_choose0_67 : decode y_MM_choose0.2.1 67 = .ok (.iload 4, 2) := by decide +kernel
theorem d_MM_choose0_69 : decode y_MM_choose0.2.1 69 = .ok (.ifCond .eq 8, 3) := by decide +kernel
theorem d_MM_choose0_77 : decode y_MM_choose0.2.1 77 = .ok (.aload_n 1, 1) := by decide +kernel
theorem d_MM_choose0_78 : decode y_MM_choose0.2.1 78 = .ok (.getfield 290, 3) := by decide +kernel
theorem d_MM_choose0_81 : decode y_MM_choose0.2.1 81 = .ok (.iload 5, 2) := by decide +kernel
theorem d_MM_choose0_92 : decode y_MM_choose0.2.1 92 = .ok (.iload 4, 2) := by decide +kernel
theorem d_MM_choose0_94 : decode y_MM_choose0.2.1 94 = .ok (.iload_n 3, 1) := by decide +kernel
theorem d_MM_choose0_95 : decode y_MM_choose0.2.1 95 = .ok (.bipush 29, 2) := by decide +kernel
theorem d_MM_choose0_72 : decode y_MM_choose0.2.1 72 = .ok (.iload 5, 2) := by decide +kernel
theorem d_MM_choose0_74 : decode y_MM_choose0.2.1 74 = .ok (.goto 12, 3) := by decide +kernel
theorem d_MM_choose0_83 : decode y_MM_choose0.2.1 83 = .ok (.invokevirtual 155, 3) := by decide +kernel
theorem d_MM_choose0_86 : decode y_MM_choose0.2.1 86 = .ok (.invokevirtual 385, 3) := by decide +kernel
theorem d_MM_choose0_89 : decode y_MM_choose0.2.1 89 = .ok (.goto 36, 3) := by decide +kernel
theorem d_MM_choose0_125 : decode y_MM_choose0.2.1 125 = .ok (.return_, 1) := by decide +kernel
theorem d_MM_choose0_97 : decode y_MM_choose0.2.1 97 = .ok (.if_icmp .ne 7, 3) := by decide +kernel
theorem d_MM_choose0_100 : decode y_MM_choose0.2.1 100 = .ok (.iconst 1, 1) := by decide +kernel
theorem d_MM_choose0_101 : decode y_MM_choose0.2.1 101 = .ok (.goto 4, 3) := by decide +kernel
theorem d_MM_choose0_104 : decode y_MM_choose0.2.1 104 = .ok (.iconst 0, 1) := by decide +kernel
theorem d_MM_choose0_105 : decode y_MM_choose0.2.1 105 = .ok (.if_icmp .ne 20, 3) := by decide +kernel
theorem d_MM_choose0_108 : decode y_MM_choose0.2.1 108 = .ok (.aload_n 0, 1) := by decide +kernel
theorem d_MM_choose0_109 : decode y_MM_choose0.2.1 109 = .ok (.aload_n 0, 1) := by decide +kernel
theorem d_MM_choose0_110 : decode y_MM_choose0.2.1 110 = .ok (.getfield 370, 3) := by decide +kernel
theorem d_MM_choose0_113 : decode y_MM_choose0.2.1 113 = .ok (.iconst 1, 1) := by decide +kernel
theorem d_MM_choose0_114 : decode y_MM_choose0.2.1 114 = .ok (.isub, 1) := by decide +kernel
theorem d_MM_choose0_115 : decode y_MM_choose0.2.1 115 = .ok (.putfield 370, 3) := by decide +kernel
theorem d_MM_choose0_118 : decode y_MM_choose0.2.1 118 = .ok (.aload_n 0, 1) := by decide +kernel
theorem d_MM_choose0_119 : decode y_MM_choose0.2.1 119 = .ok (.iconst 0, 1) := by decide +kernel
theorem d_MM_choose0_120 : decode y_MM_choose0.2.1 120 = .ok (.iload 5, 2) := by decide +kernel
theorem d_MM_choose0_122 : decode y_MM_choose0.2.1 122 = .ok (.invokevirtual 385, 3) := by decide +kernel
theorem k_MM_choose0 {G : mG} {d : Nat} {a0 : Nat} {a1 : Nat} {l2 : Int} {M : mM} {Q : mM → Prop} (hO : mOk M) (hi_l2 : i32 l2)
    (h : mK M a1 = 16 ∧ mK M (mR M a1 0) = 15 ∧ Ci G y_MN_at d [vr (mR M a1 0), vi l2] M (fun x4 M3 => i32 x4 ∧ mOk M3 ∧ (mK M3 a0 = 14 ∧ mK M3 (mR M3 a0 21) = 33 ∧ ((0 : Int) ≤ (mI M3 a0 23) - 1 ∧ (mI M3 a0 23) - 1 < (mN M3 (mR M3 a0 21) : Int)) ∧ ∀ v10 : Int, v10 = (if (cmpL (mL M3 (mR M3 a0 21) (Int.toNat ((mI M3 a0 23) - 1))) 1 = 0) then 1 else 0) → mK M3 a1 = 16 ∧ mK M3 (mR M3 a1 4) = 15 ∧ Ci G y_MN_at d [vr (mR M3 a1 4), vi l2] M3 (fun x18 M17 => i32 x18 ∧ mOk M17 ∧ (mK M17 (mR M3 a1 5) = 15 ∧ Ci G y_MN_at d [vr (mR M3 a1 5), vi x18] M17 (fun x22 M21 => i32 x22 ∧ mOk M21 ∧ (((x4 = 32) → (mK M21 a0 = 14 ∧ i32 ((mI M21 a0 23) - 1) ∧ ∀ M35, M35 = mUI M21 a0 23 ((mI M21 a0 23) - 1) → ((v10 = 0) → (mK M35 a1 = 16 ∧ mK M35 (mR M35 a1 5) = 15 ∧ Ci G y_MN_at d [vr (mR M35 a1 5), vi x22] M35 (fun x44 M43 => i32 x44 ∧ mOk M43 ∧ (mK M43 a0 = 14 ∧ Cv G y_MM_todo d [vr a0, vi 0, vi x44] M43 (fun M47 => mOk M47 ∧ (Q M47)))))) ∧ (¬ (v10 = 0) → (Cv G y_MM_todo d [vr a0, vi 0, vi x22] M35 (fun M50 => mOk M50 ∧ (Q M50)))))) ∧ (¬ (x4 = 32) → (∀ v54 : Int, v54 = (if (x4 = 29) then 1 else 0) → ((v10 = v54) → (mK M21 a0 = 14 ∧ i32 ((mI M21 a0 23) - 1) ∧ ∀ M66, M66 = mUI M21 a0 23 ((mI M21 a0 23) - 1) → Cv G y_MM_todo d [vr a0, vi 0, vi x22] M66 (fun M68 => mOk M68 ∧ (Q M68)))) ∧ (¬ (v10 = v54) → (Q M21))))))))))) :
    Cv G y_MM_choose0 (d + 1) [vr a0, vr a1, vi l2] M Q := by
  refine wm_open (y := y_MM_choose0) rfl (Nat.le_of_ble_eq_true rfl) (L := [vr a0, vr a1, vi l2, vd, vd, vd]) rfl ?_
  obtain ⟨h1, h⟩ := h
  obtain ⟨h2, h⟩ := h
  refine wm_aload_n d_MM_choose0_0 rfl rfl ?_
  refine gf_MM_273 rfl d_MM_choose0_1 h1 ?_
  refine wm_iload_n d_MM_choose0_4 rfl rfl ?_
  refine cf_MM_155 rfl d_MM_choose0_5 h2 (Nat.le_of_ble_eq_true rfl) (Ci.mono h (fun x4 M3 h => ?_))
  obtain ⟨h5, hOM3, h⟩ := h
  obtain ⟨h6, h⟩ := h
  obtain ⟨h7, h⟩ := h
  obtain ⟨h8, h⟩ := h
  refine wm_istore_n d_MM_choose0_8 rfl (by decide) (L' := [vr a0, vr a1, vi l2, vi x4, vd, vd]) rfl ?_
  refine wm_aload_n d_MM_choose0_9 rfl rfl ?_
  refine gf_MM_63 rfl d_MM_choose0_10 h6 ?_
  refine wm_aload_n d_MM_choose0_13 rfl rfl ?_
  refine gf_MM_370 rfl d_MM_choose0_14 h6 ?_
  refine wm_iconst d_MM_choose0_17 ?_
  refine wm_isub d_MM_choose0_18 ?_
  refine wm_lald d_MM_choose0_19 h7 h8 ?_
  refine wm_lconst (x := 1) d_MM_choose0_20 rfl ?_
  refine wm_lcmp d_MM_choose0_21 (hOM3 _ _).2 ⟨by decide, by decide⟩ ?_
  have hJ : ∀ v10 : Int, v10 = (if (cmpL (mL M3 (mR M3 a0 21) (Int.toNat ((mI M3 a0 23) - 1))) 1 = 0) then 1 else 0) → mWm G y_MM_choose0 (d + 1) 30 [vr a0, vr a1, vi l2, vi x4, vd, vd] [vi v10] M3 (fun r9 M9 => r9 = none ∧ Q M9) := by
    intro v10 e12
    have h := h v10 e12
    have h13 : i32 v10 := by rw [e12]; (repeat' split) <;> first | exact ⟨by decide, by decide⟩ | exact ⟨by decide, by decide⟩
    have h14 : (v10 = 0 ∨ v10 = 1) := by rw [e12]; (repeat' split) <;> decide
    obtain ⟨h15, h⟩ := h
    obtain ⟨h16, h⟩ := h
    refine wm_istore d_MM_choose0_30 (by decide) (L' := [vr a0, vr a1, vi l2, vi x4, vi v10, vd]) rfl ?_
    refine wm_aload_n d_MM_choose0_32 rfl rfl ?_
    refine gf_MM_290 rfl d_MM_choose0_33 h15 ?_
    refine wm_aload_n d_MM_choose0_36 rfl rfl ?_
    refine gf_MM_287 rfl d_MM_choose0_37 h15 ?_
    refine wm_iload_n d_MM_choose0_40 rfl rfl ?_
    refine cf_MM_155 rfl d_MM_choose0_41 h16 (Nat.le_of_ble_eq_true rfl) (Ci.mono h (fun x18 M17 h => ?_))
    obtain ⟨h19, hOM17, h⟩ := h
    obtain ⟨h20, h⟩ := h
    refine cf_MM_155 rfl d_MM_choose0_44 h20 (Nat.le_of_ble_eq_true rfl) (Ci.mono h (fun x22 M21 h => ?_))
    obtain ⟨h23, hOM21, h⟩ := h
    refine wm_istore d_MM_choose0_47 (by decide) (L' := [vr a0, vr a1, vi l2, vi x4, vi v10, vi x22]) rfl ?_
    refine wm_iload_n d_MM_choose0_49 rfl rfl ?_
    refine wm_bipush d_MM_choose0_50 (by decide) ?_
    refine wm_icmp_ne (tgt := 92) d_MM_choose0_52 rfl h5 ⟨by decide, by decide⟩ (fun c32 => ?_) (fun c32 => ?_)
    · replace h := h.2 c32
      refine wm_iload d_MM_choose0_92 rfl ?_
      refine wm_iload_n d_MM_choose0_94 rfl rfl ?_
      refine wm_bipush d_MM_choose0_95 (by decide) ?_
      have hJ : ∀ v54 : Int, v54 = (if (x4 = 29) then 1 else 0) → mWm G y_MM_choose0 (d + 1) 105 [vr a0, vd, vd, vd, vd, vi x22] [vi v54, vi v10] M21 (fun r9 M9 => r9 = none ∧ Q M9) := by
        intro v54 e56
        have h := h v54 e56
        have h57 : i32 v54 := by rw [e56]; (repeat' split) <;> first | exact ⟨by decide, by decide⟩ | exact ⟨by decide, by decide⟩
        have h58 : (v54 = 0 ∨ v54 = 1) := by rw [e56]; (repeat' split) <;> decide
        refine wm_icmp_ne (tgt := 125) d_MM_choose0_105 rfl h13 h57 (fun c63 => ?_) (fun c63 => ?_)
        · replace h := h.2 c63
          refine wm_return d_MM_choose0_125 rfl ?_
          exact ⟨rfl, h⟩
        · replace c63 := Classical.not_not.mp c63
          replace h := h.1 c63
          obtain ⟨h64, h⟩ := h
          obtain ⟨h65, h⟩ := h
          obtain ⟨M66, e67⟩ : ∃ M66, M66 = mUI M21 a0 23 ((mI M21 a0 23) - 1) := ⟨_, rfl⟩
          replace h := h M66 e67
          refine wm_aload_n d_MM_choose0_108 rfl rfl ?_
          refine wm_aload_n d_MM_choose0_109 rfl rfl ?_
          refine gf_MM_370 rfl d_MM_choose0_110 h64 ?_
          refine wm_iconst d_MM_choose0_113 ?_
          refine wm_isub d_MM_choose0_114 ?_
          have hOM66 : mOk M66 := by rw [e67]; exact mOk_UI hOM21 h65
          refine pf_MM_370 rfl d_MM_choose0_115 h64 h65 e67 ?_
          refine wm_aload_n d_MM_choose0_118 rfl rfl ?_
          refine wm_iconst d_MM_choose0_119 ?_
          refine wm_iload d_MM_choose0_120 rfl ?_
          refine cf_MM_385 rfl d_MM_choose0_122 (by rw [e67]; exact h64) (Nat.le_of_ble_eq_true rfl) (Cv.mono h (fun M68 h => ?_))
          obtain ⟨hOM68, h⟩ := h
          refine wm_return d_MM_choose0_125 rfl ?_
          exact ⟨rfl, h⟩
      clear h
      refine wm_icmp_ne (tgt := 104) d_MM_choose0_97 rfl h5 ⟨by decide, by decide⟩ (fun c53 => ?_) (fun c53 => ?_)
      · refine wm_iconst d_MM_choose0_104 ?_
        refine wm_less (L' := [vr a0, vd, vd, vd, vd, vi x22]) ⟨Or.inr rfl, Or.inl rfl, Or.inl rfl, Or.inl rfl, Or.inl rfl, Or.inr rfl, trivial⟩ ?_
        exact hJ 0 (if_neg c53).symm
      · replace c53 := Classical.not_not.mp c53
        refine wm_iconst d_MM_choose0_100 ?_
        refine wm_goto (tgt := 105) d_MM_choose0_101 rfl ?_
        refine wm_less (L' := [vr a0, vd, vd, vd, vd, vi x22]) ⟨Or.inr rfl, Or.inl rfl, Or.inl rfl, Or.inl rfl, Or.inl rfl, Or.inr rfl, trivial⟩ ?_
        exact hJ 1 (if_pos c53).symm
    · replace c32 := Classical.not_not.mp c32
      replace h := h.1 c32
      obtain ⟨h33, h⟩ := h
      obtain ⟨h34, h⟩ := h
      obtain ⟨M35, e36⟩ : ∃ M35, M35 = mUI M21 a0 23 ((mI M21 a0 23) - 1) := ⟨_, rfl⟩
      replace h := h M35 e36
      refine wm_aload_n d_MM_choose0_55 rfl rfl ?_
      refine wm_aload_n d_MM_choose0_56 rfl rfl ?_
      refine gf_MM_370 rfl d_MM_choose0_57 h33 ?_
      refine wm_iconst d_MM_choose0_60 ?_
      refine wm_isub d_MM_choose0_61 ?_
      have hOM35 : mOk M35 := by rw [e36]; exact mOk_UI hOM21 h34
      refine pf_MM_370 rfl d_MM_choose0_62 h33 h34 e36 ?_
      refine wm_aload_n d_MM_choose0_65 rfl rfl ?_
      refine wm_iconst d_MM_choose0_66 ?_
      refine wm_iload d_MM_choose0_67 rfl ?_
      refine wm_if_eq (tgt := 77) d_MM_choose0_69 rfl h13 (fun c40 => ?_) (fun c40 => ?_)
      · replace h := h.1 c40
        obtain ⟨h41, h⟩ := h
        obtain ⟨h42, h⟩ := h
        refine wm_aload_n d_MM_choose0_77 rfl rfl ?_
        refine gf_MM_290 rfl d_MM_choose0_78 h41 ?_
        refine wm_iload d_MM_choose0_81 rfl ?_
        refine cf_MM_155 rfl d_MM_choose0_83 h42 (Nat.le_of_ble_eq_true rfl) (Ci.mono h (fun x44 M43 h => ?_))
        obtain ⟨h45, hOM43, h⟩ := h
        obtain ⟨h46, h⟩ := h
        refine cf_MM_385 rfl d_MM_choose0_86 h46 (Nat.le_of_ble_eq_true rfl) (Cv.mono h (fun M47 h => ?_))
        obtain ⟨hOM47, h⟩ := h
        refine wm_goto (tgt := 125) d_MM_choose0_89 rfl ?_
        refine wm_return d_MM_choose0_125 rfl ?_
        exact ⟨rfl, h⟩
      · replace h := h.2 c40
        refine wm_iload d_MM_choose0_72 rfl ?_
        refine wm_goto (tgt := 86) d_MM_choose0_74 rfl ?_
        refine cf_MM_385 rfl d_MM_choose0_86 (by rw [e36]; exact h33) (Nat.le_of_ble_eq_true rfl) (Cv.mono h (fun M50 h => ?_))
        obtain ⟨hOM50, h⟩ := h
        refine wm_goto (tgt := 125) d_MM_choose0_89 rfl ?_
        refine wm_return d_MM_choose0_125 rfl ?_
        exact ⟨rfl, h⟩
  clear h
  refine wm_if_ne (tgt := 29) d_MM_choose0_22 rfl (m_cmp32 _ _) (fun c9 => ?_) (fun c9 => ?_)
  · refine wm_iconst d_MM_choose0_29 ?_
    exact hJ 0 (if_neg c9).symm
  · replace c9 := Classical.not_not.mp c9
    refine wm_iconst d_MM_choose0_25 ?_
    refine wm_goto (tgt := 30) d_MM_choose0_26 rfl ?_
    exact hJ 1 (if_pos c9).symm
theorem d_MM_finish_0 : decode y_MM_finish.2.1 0 = .ok (.aload_n 1, 1) := by decide +kernel
theorem d_MM_finish_1 : decode y_MM_finish.2.1 1 = .ok (.getfield 273, 3) := by decide +kernel
theorem d_MM_finish_4 : decode y_MM_finish.2.1 4 = .ok (.iload_n 2, 1) := by decide +kernel
theorem d_MM_finish_5 : decode y_MM_finish.2.1 5 = .ok (.invokevirtual 155, 3) := by decide +kernel
theorem d_MM_finish_8 : decode y_MM_finish.2.1 8 = .ok (.istore_n 3, 1) := by decide +kernel
theorem d_MM_finish_9 : decode y_MM_finish.2.1 9 = .ok (.aload_n 1, 1) := by decide +kernel
theorem d_MM_finish_10 : decode y_MM_finish.2.1 10 = .ok (.getfield 276, 3) := by decide +kernel
theorem d_MM_finish_13 : decode y_MM_finish.2.1 13 = .ok (.iload_n 2, 1) := by decide +kernel
theorem d_MM_finish_14 : decode y_MM_finish.2.1 14 = .ok (.invokevirtual 155, 3) := by decide +kernel
theorem d_MM_finish_17 : decode y_MM_finish.2.1 17 = .ok (.istore 4, 2) := by decide +kernel
theorem d_MM_finish_19 : decode y_MM_finish.2.1 19 = .ok (.iconst 0, 1) := by decide +kernel
theorem d_MM_finish_20 : decode y_MM_finish.2.1 20 = .ok (.istore 5, 2) := by decide +kernel
theorem d_MM_finish_22 : decode y_MM_finish.2.1 22 = .ok (.aload_n 1, 1) := by decide +kernel
theorem d_MM_finish_23 : decode y_MM_finish.2.1 23 = .ok (.getfield 287, 3) := by decide +kernel
theorem d_MM_finish_26 : decode y_MM_finish.2.1 26 = .ok (.iload_n 2, 1) := by decide +kernel
theorem d_MM_finish_27 : decode y_MM_finish.2.1 27 = .ok (.invokevirtual 155, 3) := by decide +kernel
theorem d_MM_finish_30 : decode y_MM_finish.2.1 30 = .ok (.istore 6, 2) := by decide +kernel
theorem d_MM_finish_32 : decode y_MM_finish.2.1 32 = .ok (.iload 6, 2) := by decide +kernel
theorem d_MM_finish_34 : decode y_MM_finish.2.1 34 = .ok (.ifCond .lt 20, 3) := by decide +kernel
theorem d_MM_finish_54 : decode y_MM_finish.2.1 54 = .ok (.aload_n 0, 1) := by decide +kernel
theorem d_MM_finish_55 : decode y_MM_finish.2.1 55 = .ok (.getfield 370, 3) := by decide +kernel
theorem d_MM_finish_58 : decode y_MM_finish.2.1 58 = .ok (.iload 5, 2) := by decide +kernel
theorem d_MM_finish_60 : decode y_MM_finish.2.1 60 = .ok (.isub, 1) := by decide +kernel
theorem d_MM_finish_61 : decode y_MM_finish.2.1 61 = .ok (.istore 6, 2) := by decide +kernel
theorem d_MM_finish_63 : decode y_MM_finish.2.1 63 = .ok (.aload_n 0, 1) := by decide +kernel
theorem d_MM_finish_64 : decode y_MM_finish.2.1 64 = .ok (.iload 6, 2) := by decide +kernel
theorem d_MM_finish_66 : decode y_MM_finish.2.1 66 = .ok (.putfield 370, 3) := by decide +kernel
theorem d_MM_finish_69 : decode y_MM_finish.2.1 69 = .ok (.iload_n 3, 1) := by decide +kernel
theorem d_MM_finish_70 : decode y_MM_finish.2.1 70 = .ok (.bipush 31, 2) := by decide +kernel
theorem d_MM_finish_37 : decode y_MM_finish.2.1 37 = .ok (.iinc 5 1, 3) := by decide +kernel
theorem d_MM_finish_40 : decode y_MM_finish.2.1 40 = .ok (.aload_n 1, 1) := by decide +kernel
theorem d_MM_finish_41 : decode y_MM_finish.2.1 41 = .ok (.getfield 290, 3) := by decide +kernel
theorem d_MM_finish_44 : decode y_MM_finish.2.1 44 = .ok (.iload 6, 2) := by decide +kernel
theorem d_MM_finish_72 : decode y_MM_finish.2.1 72 = .ok (.if_icmp .ne 27, 3) := by decide +kernel
theorem d_MM_finish_75 : decode y_MM_finish.2.1 75 = .ok (.aload_n 0, 1) := by decide +kernel
theorem d_MM_finish_76 : decode y_MM_finish.2.1 76 = .ok (.aload_n 0, 1) := by decide +kernel
theorem d_MM_finish_77 : decode y_MM_finish.2.1 77 = .ok (.getfield 63, 3) := by decide +kernel
theorem d_MM_finish_80 : decode y_MM_finish.2.1 80 = .ok (.iload 6, 2) := by decide +kernel
theorem d_MM_finish_82 : decode y_MM_finish.2.1 82 = .ok (.laload, 1) := by decide +kernel
theorem d_MM_finish_83 : decode y_MM_finish.2.1 83 = .ok (.lconst 0, 1) := by decide +kernel
theorem d_MM_finish_84 : decode y_MM_finish.2.1 84 = .ok (.lcmp, 1) := by decide +kernel
theorem d_MM_finish_99 : decode y_MM_finish.2.1 99 = .ok (.iload_n 3, 1) := by decide +kernel
theorem d_MM_finish_100 : decode y_MM_finish.2.1 100 = .ok (.bipush 45, 2) := by decide +kernel
theorem d_MM_finish_102 : decode y_MM_finish.2.1 102 = .ok (.if_icmp .ne 25, 3) := by decide +kernel
theorem d_MM_finish_105 : decode y_MM_finish.2.1 105 = .ok (.aload_n 0, 1) := by decide +kernel
theorem d_MM_finish_106 : decode y_MM_finish.2.1 106 = .ok (.aload_n 0, 1) := by decide +kernel
theorem d_MM_finish_107 : decode y_MM_finish.2.1 107 = .ok (.getfield 63, 3) := by decide +kernel
theorem d_MM_finish_110 : decode y_MM_finish.2.1 110 = .ok (.iload 6, 2) := by decide +kernel
theorem d_MM_finish_112 : decode y_MM_finish.2.1 112 = .ok (.laload, 1) := by decide +kernel
theorem d_MM_finish_113 : decode y_MM_finish.2.1 113 = .ok (.lneg, 1) := by decide +kernel
theorem d_MM_finish_114 : decode y_MM_finish.2.1 114 = .ok (.aload_n 0, 1) := by decide +kernel
theorem d_MM_finish_115 : decode y_MM_finish.2.1 115 = .ok (.getfield 67, 3) := by decide +kernel
theorem d_MM_finish_118 : decode y_MM_finish.2.1 118 = .ok (.iload 6, 2) := by decide +kernel
theorem d_MM_finish_120 : decode y_MM_finish.2.1 120 = .ok (.laload, 1) := by decide +kernel
theorem d_MM_finish_127 : decode y_MM_finish.2.1 127 = .ok (.iload_n 3, 1) := by decide +kernel
theorem d_MM_finish_128 : decode y_MM_finish.2.1 128 = .ok (.bipush 14, 2) := by decide +kernel
theorem d_MM_finish_130 : decode y_MM_finish.2.1 130 = .ok (.if_icmp .eq 9, 3) := by decide +kernel
theorem d_MM_finish_133 : decode y_MM_finish.2.1 133 = .ok (.iload_n 3, 1) := by decide +kernel
theorem d_MM_finish_134 : decode y_MM_finish.2.1 134 = .ok (.bipush 15, 2) := by decide +kernel
theorem d_MM_finish_136 : decode y_MM_finish.2.1 136 = .ok (.if_icmp .ne 25, 3) := by decide +kernel
theorem d_MM_finish_161 : decode y_MM_finish.2.1 161 = .ok (.iload_n 3, 1) := by decide +kernel
theorem d_MM_finish_85 : decode y_MM_finish.2.1 85 = .ok (.ifCond .ne 7, 3) := by decide +kernel
theorem d_MM_finish_88 : decode y_MM_finish.2.1 88 = .ok (.iconst 1, 1) := by decide +kernel
theorem d_MM_finish_89 : decode y_MM_finish.2.1 89 = .ok (.goto 4, 3) := by decide +kernel
theorem d_MM_finish_92 : decode y_MM_finish.2.1 92 = .ok (.iconst 0, 1) := by decide +kernel
theorem d_MM_finish_93 : decode y_MM_finish.2.1 93 = .ok (.invokevirtual 397, 3) := by decide +kernel
theorem d_MM_finish_96 : decode y_MM_finish.2.1 96 = .ok (.goto 304, 3) := by decide +kernel
theorem d_MM_finish_121 : decode y_MM_finish.2.1 121 = .ok (.invokevirtual 373, 3) := by decide +kernel
theorem d_MM_finish_124 : decode y_MM_finish.2.1 124 = .ok (.goto 276, 3) := by decide +kernel
theorem d_MM_finish_139 : decode y_MM_finish.2.1 139 = .ok (.aload_n 0, 1) := by decide +kernel
theorem d_MM_finish_140 : decode y_MM_finish.2.1 140 = .ok (.iload_n 3, 1) := by decide +kernel
theorem d_MM_finish_141 : decode y_MM_finish.2.1 141 = .ok (.bipush 14, 2) := by decide +kernel
theorem d_MM_finish_143 : decode y_MM_finish.2.1 143 = .ok (.if_icmp .ne 7, 3) := by decide +kernel
theorem d_MM_finish_146 : decode y_MM_finish.2.1 146 = .ok (.iconst 1, 1) := by decide +kernel
theorem d_MM_finish_147 : decode y_MM_finish.2.1 147 = .ok (.goto 4, 3) := by decide +kernel
theorem d_MM_finish_150 : decode y_MM_finish.2.1 150 = .ok (.iconst 0, 1) := by decide +kernel
theorem d_MM_finish_151 : decode y_MM_finish.2.1 151 = .ok (.iload 6, 2) := by decide +kernel
theorem d_MM_finish_153 : decode y_MM_finish.2.1 153 = .ok (.iload 5, 2) := by decide +kernel
theorem d_MM_finish_155 : decode y_MM_finish.2.1 155 = .ok (.invokevirtual 415, 3) := by decide +kernel
theorem d_MM_finish_158 : decode y_MM_finish.2.1 158 = .ok (.goto 242, 3) := by decide +kernel
theorem d_MM_finish_162 : decode y_MM_finish.2.1 162 = .ok (.invokestatic 261, 3) := by decide +kernel
theorem d_MM_finish_165 : decode y_MM_finish.2.1 165 = .ok (.ifCond .eq 196, 3) := by decide +kernel
theorem d_MM_finish_361 : decode y_MM_finish.2.1 361 = .ok (.aload_n 0, 1) := by decide +kernel
theorem d_MM_finish_362 : decode y_MM_finish.2.1 362 = .ok (.iload_n 3, 1) := by decide +kernel
theorem d_MM_finish_363 : decode y_MM_finish.2.1 363 = .ok (.aload_n 0, 1) := by decide +kernel
theorem d_MM_finish_364 : decode y_MM_finish.2.1 364 = .ok (.getfield 63, 3) := by decide +kernel
theorem d_MM_finish_367 : decode y_MM_finish.2.1 367 = .ok (.iload 6, 2) := by decide +kernel
theorem d_MM_finish_369 : decode y_MM_finish.2.1 369 = .ok (.laload, 1) := by decide +kernel
theorem d_MM_finish_370 : decode y_MM_finish.2.1 370 = .ok (.aload_n 0, 1) := by decide +kernel
theorem d_MM_finish_371 : decode y_MM_finish.2.1 371 = .ok (.getfield 67, 3) := by decide +kernel
theorem d_MM_finish_374 : decode y_MM_finish.2.1 374 = .ok (.iload 6, 2) := by decide +kernel
theorem d_MM_finish_376 : decode y_MM_finish.2.1 376 = .ok (.laload, 1) := by decide +kernel
theorem d_MM_finish_377 : decode y_MM_finish.2.1 377 = .ok (.aload_n 0, 1) := by decide +kernel
theorem d_MM_finish_378 : decode y_MM_finish.2.1 378 = .ok (.getfield 63, 3) := by decide +kernel
theorem d_MM_finish_381 : decode y_MM_finish.2.1 381 = .ok (.iload 6, 2) := by decide +kernel
theorem d_MM_finish_383 : decode y_MM_finish.2.1 383 = .ok (.iconst 1, 1) := by decide +kernel
theorem d_MM_finish_384 : decode y_MM_finish.2.1 384 = .ok (.iadd, 1) := by decide +kernel
theorem d_MM_finish_385 : decode y_MM_finish.2.1 385 = .ok (.laload, 1) := by decide +kernel
theorem d_MM_finish_386 : decode y_MM_finish.2.1 386 = .ok (.aload_n 0, 1) := by decide +kernel
theorem d_MM_finish_387 : decode y_MM_finish.2.1 387 = .ok (.getfield 67, 3) := by decide +kernel
theorem d_MM_finish_390 : decode y_MM_finish.2.1 390 = .ok (.iload 6, 2) := by decide +kernel
theorem d_MM_finish_392 : decode y_MM_finish.2.1 392 = .ok (.iconst 1, 1) := by decide +kernel
theorem d_MM_finish_393 : decode y_MM_finish.2.1 393 = .ok (.iadd, 1) := by decide +kernel
theorem d_MM_finish_394 : decode y_MM_finish.2.1 394 = .ok (.laload, 1) := by decide +kernel
theorem d_MM_finish_395 : decode y_MM_finish.2.1 395 = .ok (.iload 4, 2) := by decide +kernel
theorem d_MM_finish_168 : decode y_MM_finish.2.1 168 = .ok (.aload_n 0, 1) := by decide +kernel
theorem d_MM_finish_169 : decode y_MM_finish.2.1 169 = .ok (.getfield 67, 3) := by decide +kernel
theorem d_MM_finish_172 : decode y_MM_finish.2.1 172 = .ok (.iload 6, 2) := by decide +kernel
theorem d_MM_finish_174 : decode y_MM_finish.2.1 174 = .ok (.laload, 1) := by decide +kernel
theorem d_MM_finish_175 : decode y_MM_finish.2.1 175 = .ok (.lconst 0, 1) := by decide +kernel
theorem d_MM_finish_176 : decode y_MM_finish.2.1 176 = .ok (.lcmp, 1) := by decide +kernel
theorem d_MM_finish_177 : decode y_MM_finish.2.1 177 = .ok (.ifCond .ne 23, 3) := by decide +kernel
theorem d_MM_finish_180 : decode y_MM_finish.2.1 180 = .ok (.aload_n 0, 1) := by decide +kernel
theorem d_MM_finish_181 : decode y_MM_finish.2.1 181 = .ok (.getfield 63, 3) := by decide +kernel
theorem d_MM_finish_184 : decode y_MM_finish.2.1 184 = .ok (.iload 6, 2) := by decide +kernel
theorem d_MM_finish_186 : decode y_MM_finish.2.1 186 = .ok (.laload, 1) := by decide +kernel
theorem d_MM_finish_187 : decode y_MM_finish.2.1 187 = .ok (.aload_n 0, 1) := by decide +kernel
theorem d_MM_finish_188 : decode y_MM_finish.2.1 188 = .ok (.getfield 63, 3) := by decide +kernel
theorem d_MM_finish_191 : decode y_MM_finish.2.1 191 = .ok (.iload 6, 2) := by decide +kernel
theorem d_MM_finish_193 : decode y_MM_finish.2.1 193 = .ok (.iconst 1, 1) := by decide +kernel
theorem d_MM_finish_194 : decode y_MM_finish.2.1 194 = .ok (.iadd, 1) := by decide +kernel
theorem d_MM_finish_195 : decode y_MM_finish.2.1 195 = .ok (.laload, 1) := by decide +kernel
theorem d_MM_finish_196 : decode y_MM_finish.2.1 196 = .ok (.lsub, 1) := by decide +kernel
theorem d_MM_finish_197 : decode y_MM_finish.2.1 197 = .ok (.goto 38, 3) := by decide +kernel
theorem d_MM_finish_235 : decode y_MM_finish.2.1 235 = .ok (.lstore 7, 2) := by decide +kernel
theorem d_MM_finish_237 : decode y_MM_finish.2.1 237 = .ok (.aload_n 0, 1) := by decide +kernel
theorem d_MM_finish_238 : decode y_MM_finish.2.1 238 = .ok (.iload_n 3, 1) := by decide +kernel
theorem d_MM_finish_239 : decode y_MM_finish.2.1 239 = .ok (.bipush 23, 2) := by decide +kernel
theorem d_MM_finish_200 : decode y_MM_finish.2.1 200 = .ok (.aload_n 0, 1) := by decide +kernel
theorem d_MM_finish_201 : decode y_MM_finish.2.1 201 = .ok (.getfield 63, 3) := by decide +kernel
theorem d_MM_finish_204 : decode y_MM_finish.2.1 204 = .ok (.iload 6, 2) := by decide +kernel
theorem d_MM_finish_206 : decode y_MM_finish.2.1 206 = .ok (.laload, 1) := by decide +kernel
theorem d_MM_finish_207 : decode y_MM_finish.2.1 207 = .ok (.aload_n 0, 1) := by decide +kernel
theorem d_MM_finish_208 : decode y_MM_finish.2.1 208 = .ok (.getfield 67, 3) := by decide +kernel
theorem d_MM_finish_211 : decode y_MM_finish.2.1 211 = .ok (.iload 6, 2) := by decide +kernel
theorem d_MM_finish_213 : decode y_MM_finish.2.1 213 = .ok (.iconst 1, 1) := by decide +kernel
theorem d_MM_finish_214 : decode y_MM_finish.2.1 214 = .ok (.iadd, 1) := by decide +kernel
theorem d_MM_finish_215 : decode y_MM_finish.2.1 215 = .ok (.laload, 1) := by decide +kernel
theorem d_MM_finish_216 : decode y_MM_finish.2.1 216 = .ok (.lmul, 1) := by decide +kernel
theorem d_MM_finish_217 : decode y_MM_finish.2.1 217 = .ok (.aload_n 0, 1) := by decide +kernel
theorem d_MM_finish_218 : decode y_MM_finish.2.1 218 = .ok (.getfield 63, 3) := by decide +kernel
theorem d_MM_finish_221 : decode y_MM_finish.2.1 221 = .ok (.iload 6, 2) := by decide +kernel
theorem d_MM_finish_223 : decode y_MM_finish.2.1 223 = .ok (.iconst 1, 1) := by decide +kernel
theorem d_MM_finish_224 : decode y_MM_finish.2.1 224 = .ok (.iadd, 1) := by decide +kernel
theorem d_MM_finish_225 : decode y_MM_finish.2.1 225 = .ok (.laload, 1) := by decide +kernel
theorem d_MM_finish_226 : decode y_MM_finish.2.1 226 = .ok (.aload_n 0, 1) := by decide +kernel
theorem d_MM_finish_227 : decode y_MM_finish.2.1 227 = .ok (.getfield 67, 3) := by decide +kernel
theorem d_MM_finish_230 : decode y_MM_finish.2.1 230 = .ok (.iload 6, 2) := by decide +kernel
theorem d_MM_finish_232 : decode y_MM_finish.2.1 232 = .ok (.laload, 1) := by decide +kernel
theorem d_MM_finish_233 : decode y_MM_finish.2.1 233 = .ok (.lmul, 1) := by decide +kernel
theorem d_MM_finish_234 : decode y_MM_finish.2.1 234 = .ok (.lsub, 1) := by decide +kernel
theorem d_MM_finish_397 : decode y_MM_finish.2.1 397 = .ok (.invokevirtual 419, 3) := by decide +kernel
theorem d_MM_finish_241 : decode y_MM_finish.2.1 241 = .ok (.if_icmp .ne 18, 3) := by decide +kernel
theorem d_MM_finish_244 : decode y_MM_finish.2.1 244 = .ok (.lload 7, 2) := by decide +kernel
theorem d_MM_finish_246 : decode y_MM_finish.2.1 246 = .ok (.lconst 0, 1) := by decide +kernel
theorem d_MM_finish_247 : decode y_MM_finish.2.1 247 = .ok (.lcmp, 1) := by decide +kernel
theorem d_MM_finish_248 : decode y_MM_finish.2.1 248 = .ok (.ifCond .ne 7, 3) := by decide +kernel
theorem d_MM_finish_251 : decode y_MM_finish.2.1 251 = .ok (.iconst 1, 1) := by decide +kernel
theorem d_MM_finish_252 : decode y_MM_finish.2.1 252 = .ok (.goto 103, 3) := by decide +kernel
theorem d_MM_finish_255 : decode y_MM_finish.2.1 255 = .ok (.iconst 0, 1) := by decide +kernel
theorem d_MM_finish_256 : decode y_MM_finish.2.1 256 = .ok (.goto 99, 3) := by decide +kernel
theorem d_MM_finish_259 : decode y_MM_finish.2.1 259 = .ok (.iload_n 3, 1) := by decide +kernel
theorem d_MM_finish_260 : decode y_MM_finish.2.1 260 = .ok (.bipush 18, 2) := by decide +kernel
theorem d_MM_finish_262 : decode y_MM_finish.2.1 262 = .ok (.if_icmp .ne 18, 3) := by decide +kernel
theorem d_MM_finish_265 : decode y_MM_finish.2.1 265 = .ok (.lload 7, 2) := by decide +kernel
theorem d_MM_finish_267 : decode y_MM_finish.2.1 267 = .ok (.lconst 0, 1) := by decide +kernel
theorem d_MM_finish_268 : decode y_MM_finish.2.1 268 = .ok (.lcmp, 1) := by decide +kernel
theorem d_MM_finish_269 : decode y_MM_finish.2.1 269 = .ok (.ifCond .eq 7, 3) := by decide +kernel
theorem d_MM_finish_276 : decode y_MM_finish.2.1 276 = .ok (.iconst 0, 1) := by decide +kernel
theorem d_MM_finish_277 : decode y_MM_finish.2.1 277 = .ok (.goto 78, 3) := by decide +kernel
theorem d_MM_finish_272 : decode y_MM_finish.2.1 272 = .ok (.iconst 1, 1) := by decide +kernel
theorem d_MM_finish_273 : decode y_MM_finish.2.1 273 = .ok (.goto 82, 3) := by decide +kernel
theorem d_MM_finish_280 : decode y_MM_finish.2.1 280 = .ok (.iload_n 3, 1) := by decide +kernel
theorem d_MM_finish_281 : decode y_MM_finish.2.1 281 = .ok (.bipush 21, 2) := by decide +kernel
theorem d_MM_finish_283 : decode y_MM_finish.2.1 283 = .ok (.if_icmp .ne 18, 3) := by decide +kernel
theorem d_MM_finish_286 : decode y_MM_finish.2.1 286 = .ok (.lload 7, 2) := by decide +kernel
theorem d_MM_finish_288 : decode y_MM_finish.2.1 288 = .ok (.lconst 0, 1) := by decide +kernel
theorem d_MM_finish_289 : decode y_MM_finish.2.1 289 = .ok (.lcmp, 1) := by decide +kernel
theorem d_MM_finish_290 : decode y_MM_finish.2.1 290 = .ok (.ifCond .ge 7, 3) := by decide +kernel
theorem d_MM_finish_297 : decode y_MM_finish.2.1 297 = .ok (.iconst 0, 1) := by decide +kernel
theorem d_MM_finish_298 : decode y_MM_finish.2.1 298 = .ok (.goto 57, 3) := by decide +kernel
theorem d_MM_finish_293 : decode y_MM_finish.2.1 293 = .ok (.iconst 1, 1) := by decide +kernel
theorem d_MM_finish_294 : decode y_MM_finish.2.1 294 = .ok (.goto 61, 3) := by decide +kernel
theorem d_MM_finish_301 : decode y_MM_finish.2.1 301 = .ok (.iload_n 3, 1) := by decide +kernel
theorem d_MM_finish_302 : decode y_MM_finish.2.1 302 = .ok (.bipush 19, 2) := by decide +kernel
theorem d_MM_finish_304 : decode y_MM_finish.2.1 304 = .ok (.if_icmp .ne 18, 3) := by decide +kernel
theorem d_MM_finish_307 : decode y_MM_finish.2.1 307 = .ok (.lload 7, 2) := by decide +kernel
theorem d_MM_finish_309 : decode y_MM_finish.2.1 309 = .ok (.lconst 0, 1) := by decide +kernel
theorem d_MM_finish_310 : decode y_MM_finish.2.1 310 = .ok (.lcmp, 1) := by decide +kernel
theorem d_MM_finish_311 : decode y_MM_finish.2.1 311 = .ok (.ifCond .gt 7, 3) := by decide +kernel
theorem d_MM_finish_318 : decode y_MM_finish.2.1 318 = .ok (.iconst 0, 1) := by decide +kernel
theorem d_MM_finish_319 : decode y_MM_finish.2.1 319 = .ok (.goto 36, 3) := by decide +kernel
theorem d_MM_finish_314 : decode y_MM_finish.2.1 314 = .ok (.iconst 1, 1) := by decide +kernel
theorem d_MM_finish_315 : decode y_MM_finish.2.1 315 = .ok (.goto 40, 3) := by decide +kernel
theorem d_MM_finish_322 : decode y_MM_finish.2.1 322 = .ok (.iload_n 3, 1) := by decide +kernel
theorem d_MM_finish_323 : decode y_MM_finish.2.1 323 = .ok (.bipush 22, 2) := by decide +kernel
theorem d_MM_finish_325 : decode y_MM_finish.2.1 325 = .ok (.if_icmp .ne 18, 3) := by decide +kernel
theorem d_MM_finish_328 : decode y_MM_finish.2.1 328 = .ok (.lload 7, 2) := by decide +kernel
theorem d_MM_finish_330 : decode y_MM_finish.2.1 330 = .ok (.lconst 0, 1) := by decide +kernel
theorem d_MM_finish_331 : decode y_MM_finish.2.1 331 = .ok (.lcmp, 1) := by decide +kernel
theorem d_MM_finish_332 : decode y_MM_finish.2.1 332 = .ok (.ifCond .le 7, 3) := by decide +kernel
theorem d_MM_finish_339 : decode y_MM_finish.2.1 339 = .ok (.iconst 0, 1) := by decide +kernel
theorem d_MM_finish_340 : decode y_MM_finish.2.1 340 = .ok (.goto 15, 3) := by decide +kernel
theorem d_MM_finish_335 : decode y_MM_finish.2.1 335 = .ok (.iconst 1, 1) := by decide +kernel
theorem d_MM_finish_336 : decode y_MM_finish.2.1 336 = .ok (.goto 19, 3) := by decide +kernel
theorem d_MM_finish_343 : decode y_MM_finish.2.1 343 = .ok (.lload 7, 2) := by decide +kernel
theorem d_MM_finish_345 : decode y_MM_finish.2.1 345 = .ok (.lconst 0, 1) := by decide +kernel
theorem d_MM_finish_346 : decode y_MM_finish.2.1 346 = .ok (.lcmp, 1) := by decide +kernel
theorem d_MM_finish_347 : decode y_MM_finish.2.1 347 = .ok (.ifCond .lt 7, 3) := by decide +kernel
theorem d_MM_finish_354 : decode y_MM_finish.2.1 354 = .ok (.iconst 0, 1) := by decide +kernel
theorem d_MM_finish_350 : decode y_MM_finish.2.1 350 = .ok (.iconst 1, 1) := by decide +kernel
theorem d_MM_finish_351 : decode y_MM_finish.2.1 351 = .ok (.goto 4, 3) := by decide +kernel
theorem d_MM_finish_355 : decode y_MM_finish.2.1 355 = .ok (.invokevirtual 397, 3) := by decide +kernel
theorem d_MM_finish_358 : decode y_MM_finish.2.1 358 = .ok (.goto 42, 3) := by decide +kernel
theorem d_MM_finish_46 : decode y_MM_finish.2.1 46 = .ok (.invokevirtual 155, 3) := by decide +kernel
theorem d_MM_finish_49 : decode y_MM_finish.2.1 49 = .ok (.istore 6, 2) := by decide +kernel
theorem d_MM_finish_51 : decode y_MM_finish.2.1 51 = .ok (.goto (-19), 3) := by decide +kernel
theorem d_MM_finish_400 : decode y_MM_finish.2.1 400 = .ok (.return_, 1) := by decide +kernel
def h_MM_finish_32 (G : mG) (d : Nat) (a0 : Nat) (a1 : Nat) (l3 : Int) (l4 : Int) (l5 : Int) (l6 : Int) (M : mM) (Q : mM → Prop) : Prop := mWm G y_MM_finish (d + 1) 32 [vr a0, vr a1, vd, vi l3, vi l4, vi l5, vi l6, vd, vd] [] M (fun r9 M9 => r9 = none ∧ Q M9)
def h_MM_finish_400 (G : mG) (d : Nat) (M : mM) (Q : mM → Prop) : Prop := mWm G y_MM_finish (d + 1) 400 [vd, vd, vd, vd, vd, vd, vd, vd, vd] [] M (fun r9 M9 => r9 = none ∧ Q M9)
theorem k_MM_finish {G : mG} {d : Nat} {a0 : Nat} {a1 : Nat} {l2 : Int} {M : mM} {Q : mM → Prop} (hO : mOk M) (hi_l2 : i32 l2)
    (h : mK M a1 = 16 ∧ mK M (mR M a1 0) = 15 ∧ Ci G y_MN_at d [vr (mR M a1 0), vi l2] M (fun x4 M3 => i32 x4 ∧ mOk M3 ∧ (mK M3 a1 = 16 ∧ mK M3 (mR M3 a1 1) = 15 ∧ Ci G y_MN_at d [vr (mR M3 a1 1), vi l2] M3 (fun x9 M8 => i32 x9 ∧ mOk M8 ∧ (mK M8 a1 = 16 ∧ mK M8 (mR M8 a1 4) = 15 ∧ Ci G y_MN_at d [vr (mR M8 a1 4), vi l2] M8 (fun x14 M13 => i32 x14 ∧ mOk M13 ∧ (h_MM_finish_32 G d a0 a1 x4 x9 0 x14 M13 Q))))))) :
    Cv G y_MM_finish (d + 1) [vr a0, vr a1, vi l2] M Q := by
  refine wm_open (y := y_MM_finish) rfl (Nat.le_of_ble_eq_true rfl) (L := [vr a0, vr a1, vi l2, vd, vd, vd, vd, vd, vd]) rfl ?_
  obtain ⟨h1, h⟩ := h
  obtain ⟨h2, h⟩ := h
  refine wm_aload_n d_MM_finish_0 rfl rfl ?_
  refine gf_MM_273 rfl d_MM_finish_1 h1 ?_
  refine wm_iload_n d_MM_finish_4 rfl rfl ?_
  refine cf_MM_155 rfl d_MM_finish_5 h2 (Nat.le_of_ble_eq_true rfl) (Ci.mono h (fun x4 M3 h => ?_))
  obtain ⟨h5, hOM3, h⟩ := h
  obtain ⟨h6, h⟩ := h
  obtain ⟨h7, h⟩ := h
  refine wm_istore_n d_MM_finish_8 rfl (by decide) (L' := [vr a0, vr a1, vi l2, vi x4, vd, vd, vd, vd, vd]) rfl ?_
  refine wm_aload_n d_MM_finish_9 rfl rfl ?_
  refine gf_MM_276 rfl d_MM_finish_10 h6 ?_
  refine wm_iload_n d_MM_finish_13 rfl rfl ?_
  refine cf_MM_155 rfl d_MM_finish_14 h7 (Nat.le_of_ble_eq_true rfl) (Ci.mono h (fun x9 M8 h => ?_))
  obtain ⟨h10, hOM8, h⟩ := h
  obtain ⟨h11, h⟩ := h
  obtain ⟨h12, h⟩ := h
  refine wm_istore d_MM_finish_17 (by decide) (L' := [vr a0, vr a1, vi l2, vi x4, vi x9, vd, vd, vd, vd]) rfl ?_
  refine wm_iconst d_MM_finish_19 ?_
  refine wm_istore d_MM_finish_20 (by decide) (L' := [vr a0, vr a1, vi l2, vi x4, vi x9, vi 0, vd, vd, vd]) rfl ?_
  refine wm_aload_n d_MM_finish_22 rfl rfl ?_
  refine gf_MM_287 rfl d_MM_finish_23 h11 ?_
  refine wm_iload_n d_MM_finish_26 rfl rfl ?_
  refine cf_MM_155 rfl d_MM_finish_27 h12 (Nat.le_of_ble_eq_true rfl) (Ci.mono h (fun x14 M13 h => ?_))
  obtain ⟨h15, hOM13, h⟩ := h
  refine wm_istore d_MM_finish_30 (by decide) (L' := [vr a0, vr a1, vi l2, vi x4, vi x9, vi 0, vi x14, vd, vd]) rfl ?_
  refine wm_less (L' := [vr a0, vr a1, vd, vi x4, vi x9, vi 0, vi x14, vd, vd]) ⟨Or.inr rfl, Or.inr rfl, Or.inl rfl, Or.inr rfl, Or.inr rfl, Or.inr rfl, Or.inr rfl, Or.inl rfl, Or.inl rfl, trivial⟩ ?_
  exact h
theorem k_MM_finish_32 {G : mG} {d : Nat} {a0 : Nat} {a1 : Nat} {l3 : Int} {l4 : Int} {l5 : Int} {l6 : Int} {M : mM} {Q : mM → Prop} (hO : mOk M) (hi_l3 : i32 l3) (hi_l4 : i32 l4) (hi_l5 : i32 l5) (hi_l6 : i32 l6)
    (h : ((l6 < 0) → (mK M a0 = 14 ∧ i32 ((mI M a0 23) - l5) ∧ ∀ M22, M22 = mUI M a0 23 ((mI M a0 23) - l5) → ((l3 = 31) → (mK M22 (mR M22 a0 21) = 33 ∧ ((0 : Int) ≤ (mI M a0 23) - l5 ∧ (mI M a0 23) - l5 < (mN M22 (mR M22 a0 21) : Int)) ∧ ∀ v34 : Int, v34 = (if (cmpL (mL M22 (mR M22 a0 21) (Int.toNat ((mI M a0 23) - l5))) 0 = 0) then 1 else 0) → Cv G y_MM_pushTruth d [vr a0, vi v34] M22 (fun M39 => mOk M39 ∧ (h_MM_finish_400 G d  M39 Q)))) ∧ (¬ (l3 = 31) → (((l3 = 45) → (mK M22 (mR M22 a0 21) = 33 ∧ ((0 : Int) ≤ (mI M a0 23) - l5 ∧ (mI M a0 23) - l5 < (mN M22 (mR M22 a0 21) : Int)) ∧ mK M22 (mR M22 a0 22) = 33 ∧ ((0 : Int) ≤ (mI M a0 23) - l5 ∧ (mI M a0 23) - l5 < (mN M22 (mR M22 a0 22) : Int)) ∧ Cv G y_MM_push d [vr a0, vl (-(mL M22 (mR M22 a0 21) (Int.toNat ((mI M a0 23) - l5)))), vl (mL M22 (mR M22 a0 22) (Int.toNat ((mI M a0 23) - l5)))] M22 (fun M51 => mOk M51 ∧ (h_MM_finish_400 G d  M51 Q)))) ∧ (¬ (l3 = 45) → ((((l3 = 14) ∨ (l3 = 15)) → (∀ v59 : Int, v59 = (if (l3 = 14) then 1 else 0) → Cv G y_MM_best d [vr a0, vi v59, vi ((mI M a0 23) - l5), vi l5] M22 (fun M64 => mOk M64 ∧ (h_MM_finish_400 G d  M64 Q)))) ∧ (¬ ((l3 = 14) ∨ (l3 = 15)) → (Ci G y_MM_isComparison d [vi l3] M22 (fun x70 M69 => i32 x70 ∧ mOk M69 ∧ (((x70 = 0) → (mK M69 a0 = 14 ∧ mK M69 (mR M69 a0 21) = 33 ∧ ((0 : Int) ≤ (mI M a0 23) - l5 ∧ (mI M a0 23) - l5 < (mN M69 (mR M69 a0 21) : Int)) ∧ mK M69 (mR M69 a0 22) = 33 ∧ ((0 : Int) ≤ (mI M a0 23) - l5 ∧ (mI M a0 23) - l5 < (mN M69 (mR M69 a0 22) : Int)) ∧ ((0 : Int) ≤ ((mI M a0 23) - l5) + 1 ∧ ((mI M a0 23) - l5) + 1 < (mN M69 (mR M69 a0 21) : Int)) ∧ ((0 : Int) ≤ ((mI M a0 23) - l5) + 1 ∧ ((mI M a0 23) - l5) + 1 < (mN M69 (mR M69 a0 22) : Int)) ∧ Cv G y_MM_reckon d [vr a0, vi l3, vl (mL M69 (mR M69 a0 21) (Int.toNat ((mI M a0 23) - l5))), vl (mL M69 (mR M69 a0 22) (Int.toNat ((mI M a0 23) - l5))), vl (mL M69 (mR M69 a0 21) (Int.toNat (((mI M a0 23) - l5) + 1))), vl (mL M69 (mR M69 a0 22) (Int.toNat (((mI M a0 23) - l5) + 1))), vi l4] M69 (fun M93 => mOk M93 ∧ (h_MM_finish_400 G d  M93 Q)))) ∧ (¬ (x70 = 0) → (mK M69 a0 = 14 ∧ mK M69 (mR M69 a0 22) = 33 ∧ ((0 : Int) ≤ (mI M a0 23) - l5 ∧ (mI M a0 23) - l5 < (mN M69 (mR M69 a0 22) : Int)) ∧ (((cmpL (mL M69 (mR M69 a0 22) (Int.toNat ((mI M a0 23) - l5))) 0 = 0) → (mK M69 (mR M69 a0 21) = 33 ∧ ((0 : Int) ≤ (mI M a0 23) - l5 ∧ (mI M a0 23) - l5 < (mN M69 (mR M69 a0 21) : Int)) ∧ ((0 : Int) ≤ ((mI M a0 23) - l5) + 1 ∧ ((mI M a0 23) - l5) + 1 < (mN M69 (mR M69 a0 21) : Int)))) ∧ (¬ (cmpL (mL M69 (mR M69 a0 22) (Int.toNat ((mI M a0 23) - l5))) 0 = 0) → (mK M69 (mR M69 a0 21) = 33 ∧ ((0 : Int) ≤ (mI M a0 23) - l5 ∧ (mI M a0 23) - l5 < (mN M69 (mR M69 a0 21) : Int)) ∧ ((0 : Int) ≤ ((mI M a0 23) - l5) + 1 ∧ ((mI M a0 23) - l5) + 1 < (mN M69 (mR M69 a0 22) : Int)) ∧ ((0 : Int) ≤ ((mI M a0 23) - l5) + 1 ∧ ((mI M a0 23) - l5) + 1 < (mN M69 (mR M69 a0 21) : Int)) ∧ ((0 : Int) ≤ (mI M a0 23) - l5 ∧ (mI M a0 23) - l5 < (mN M69 (mR M69 a0 22) : Int))))) ∧ ∀ v108 : Int, v108 = (if (cmpL (mL M69 (mR M69 a0 22) (Int.toNat ((mI M a0 23) - l5))) 0 = 0) then (mL M69 (mR M69 a0 21) (Int.toNat ((mI M a0 23) - l5))) - (mL M69 (mR M69 a0 21) (Int.toNat (((mI M a0 23) - l5) + 1))) else ((mL M69 (mR M69 a0 21) (Int.toNat ((mI M a0 23) - l5))) * (mL M69 (mR M69 a0 22) (Int.toNat (((mI M a0 23) - l5) + 1)))) - ((mL M69 (mR M69 a0 21) (Int.toNat (((mI M a0 23) - l5) + 1))) * (mL M69 (mR M69 a0 22) (Int.toNat ((mI M a0 23) - l5))))) → (((l3 = 23) → i64 v108) ∧ (¬ (l3 = 23) → (((l3 = 18) → i64 v108) ∧ (¬ (l3 = 18) → (((l3 = 21) → i64 v108) ∧ (¬ (l3 = 21) → (((l3 = 19) → i64 v108) ∧ (¬ (l3 = 19) → (((l3 = 22) → i64 v108) ∧ (¬ (l3 = 22) → i64 v108)))))))))) ∧ ∀ v128 : Int, v128 = (if (((l3 = 23) ∧ (cmpL v108 0 = 0)) ∨ ((¬ (l3 = 23)) ∧ (((l3 = 18) ∧ (¬ (cmpL v108 0 = 0))) ∨ ((¬ (l3 = 18)) ∧ (((l3 = 21) ∧ (¬ (0 ≤ cmpL v108 0))) ∨ ((¬ (l3 = 21)) ∧ (((l3 = 19) ∧ (¬ (0 < cmpL v108 0))) ∨ ((¬ (l3 = 19)) ∧ (((l3 = 22) ∧ (¬ (cmpL v108 0 ≤ 0))) ∨ ((¬ (l3 = 22)) ∧ (¬ (cmpL v108 0 < 0)))))))))))) then 1 else 0) → Cv G y_MM_pushTruth d [vr a0, vi v128] M69 (fun M133 => mOk M133 ∧ (h_MM_finish_400 G d  M133 Q)))))))))))))) ∧ (¬ (l6 < 0) → (mK M a1 = 16 ∧ mK M (mR M a1 5) = 15 ∧ Ci G y_MN_at d [vr (mR M a1 5), vi l6] M (fun x180 M179 => i32 x180 ∧ mOk M179 ∧ (h_MM_finish_32 G d a0 a1 l3 l4 (l5 + 1) x180 M179 Q))))) :
    h_MM_finish_32 G d a0 a1 l3 l4 l5 l6 M Q := by
  unfold h_MM_finish_32
  refine wm_iload d_MM_finish_32 rfl ?_
  refine wm_if_lt (tgt := 54) d_MM_finish_34 rfl hi_l6 (fun c19 => ?_) (fun c19 => ?_)
  · replace h := h.1 c19
    obtain ⟨h20, h⟩ := h
    obtain ⟨h21, h⟩ := h
    obtain ⟨M22, e23⟩ : ∃ M22, M22 = mUI M a0 23 ((mI M a0 23) - l5) := ⟨_, rfl⟩
    replace h := h M22 e23
    refine wm_aload_n d_MM_finish_54 rfl rfl ?_
    refine gf_MM_370 rfl d_MM_finish_55 h20 ?_
    refine wm_iload d_MM_finish_58 rfl ?_
    refine wm_isub d_MM_finish_60 ?_
    refine wm_istore d_MM_finish_61 (by decide) (L' := [vr a0, vr a1, vd, vi l3, vi l4, vi l5, vi ((mI M a0 23) - l5), vd, vd]) rfl ?_
    refine wm_aload_n d_MM_finish_63 rfl rfl ?_
    refine wm_iload d_MM_finish_64 rfl ?_
    have hOM22 : mOk M22 := by rw [e23]; exact mOk_UI hO h21
    refine pf_MM_370 rfl d_MM_finish_66 h20 h21 e23 ?_
    refine wm_iload_n d_MM_finish_69 rfl rfl ?_
    refine wm_bipush d_MM_finish_70 (by decide) ?_
    refine wm_icmp_ne (tgt := 99) d_MM_finish_72 rfl hi_l3 ⟨by decide, by decide⟩ (fun c30 => ?_) (fun c30 => ?_)
    · replace h := h.2 c30
      refine wm_iload_n d_MM_finish_99 rfl rfl ?_
      refine wm_bipush d_MM_finish_100 (by decide) ?_
      refine wm_icmp_ne (tgt := 127) d_MM_finish_102 rfl hi_l3 ⟨by decide, by decide⟩ (fun c46 => ?_) (fun c46 => ?_)
      · replace h := h.2 c46
        refine wm_iload_n d_MM_finish_127 rfl rfl ?_
        refine wm_bipush d_MM_finish_128 (by decide) ?_
        have hE0 : ((l3 = 14) ∨ (l3 = 15)) → mWm G y_MM_finish (d + 1) 139 [vr a0, vr a1, vd, vi l3, vi l4, vi l5, vi ((mI M a0 23) - l5), vd, vd] [] M22 (fun r9 M9 => r9 = none ∧ Q M9) := by
          intro q57
          have h := h.1 q57
          refine wm_aload_n d_MM_finish_139 rfl rfl ?_
          refine wm_iload_n d_MM_finish_140 rfl rfl ?_
          refine wm_bipush d_MM_finish_141 (by decide) ?_
          have hJ : ∀ v59 : Int, v59 = (if (l3 = 14) then 1 else 0) → mWm G y_MM_finish (d + 1) 151 [vd, vd, vd, vd, vd, vi l5, vi ((mI M a0 23) - l5), vd, vd] [vi v59, vr a0] M22 (fun r9 M9 => r9 = none ∧ Q M9) := by
            intro v59 e61
            have h := h v59 e61
            have h62 : i32 v59 := by rw [e61]; (repeat' split) <;> first | exact ⟨by decide, by decide⟩ | exact ⟨by decide, by decide⟩
            have h63 : (v59 = 0 ∨ v59 = 1) := by rw [e61]; (repeat' split) <;> decide
            refine wm_iload d_MM_finish_151 rfl ?_
            refine wm_iload d_MM_finish_153 rfl ?_
            refine cf_MM_415 rfl d_MM_finish_155 (by rw [e23]; exact h20) (Nat.le_of_ble_eq_true rfl) (Cv.mono h (fun M64 h => ?_))
            obtain ⟨hOM64, h⟩ := h
            refine wm_goto (tgt := 400) d_MM_finish_158 rfl ?_
            refine wm_less (L' := [vd, vd, vd, vd, vd, vd, vd, vd, vd]) ⟨Or.inl rfl, Or.inl rfl, Or.inl rfl, Or.inl rfl, Or.inl rfl, Or.inl rfl, Or.inl rfl, Or.inl rfl, Or.inl rfl, trivial⟩ ?_
            exact h
          clear h
          refine wm_icmp_ne (tgt := 150) d_MM_finish_143 rfl hi_l3 ⟨by decide, by decide⟩ (fun c58 => ?_) (fun c58 => ?_)
          · refine wm_iconst d_MM_finish_150 ?_
            refine wm_less (L' := [vd, vd, vd, vd, vd, vi l5, vi ((mI M a0 23) - l5), vd, vd]) ⟨Or.inl rfl, Or.inl rfl, Or.inl rfl, Or.inl rfl, Or.inl rfl, Or.inr rfl, Or.inr rfl, Or.inl rfl, Or.inl rfl, trivial⟩ ?_
            exact hJ 0 (if_neg c58).symm
          · replace c58 := Classical.not_not.mp c58
            refine wm_iconst d_MM_finish_146 ?_
            refine wm_goto (tgt := 151) d_MM_finish_147 rfl ?_
            refine wm_less (L' := [vd, vd, vd, vd, vd, vi l5, vi ((mI M a0 23) - l5), vd, vd]) ⟨Or.inl rfl, Or.inl rfl, Or.inl rfl, Or.inl rfl, Or.inl rfl, Or.inr rfl, Or.inr rfl, Or.inl rfl, Or.inl rfl, trivial⟩ ?_
            exact hJ 1 (if_pos c58).symm
        have hE1 : ¬ ((l3 = 14) ∨ (l3 = 15)) → mWm G y_MM_finish (d + 1) 161 [vr a0, vr a1, vd, vi l3, vi l4, vi l5, vi ((mI M a0 23) - l5), vd, vd] [] M22 (fun r9 M9 => r9 = none ∧ Q M9) := by
          intro q68
          have h := h.2 q68
          refine wm_iload_n d_MM_finish_161 rfl rfl ?_
          refine cf_MM_261 rfl d_MM_finish_162 (Nat.le_of_ble_eq_true rfl) (Ci.mono h (fun x70 M69 h => ?_))
          obtain ⟨h71, hOM69, h⟩ := h
          refine wm_if_eq (tgt := 361) d_MM_finish_165 rfl h71 (fun c85 => ?_) (fun c85 => ?_)
          · replace h := h.1 c85
            obtain ⟨h86, h⟩ := h
            obtain ⟨h87, h⟩ := h
            obtain ⟨h88, h⟩ := h
            obtain ⟨h89, h⟩ := h
            obtain ⟨h90, h⟩ := h
            obtain ⟨h91, h⟩ := h
            obtain ⟨h92, h⟩ := h
            refine wm_aload_n d_MM_finish_361 rfl rfl ?_
            refine wm_iload_n d_MM_finish_362 rfl rfl ?_
            refine wm_aload_n d_MM_finish_363 rfl rfl ?_
            refine gf_MM_63 rfl d_MM_finish_364 h86 ?_
            refine wm_iload d_MM_finish_367 rfl ?_
            refine wm_lald d_MM_finish_369 h87 h88 ?_
            refine wm_aload_n d_MM_finish_370 rfl rfl ?_
            refine gf_MM_67 rfl d_MM_finish_371 h86 ?_
            refine wm_iload d_MM_finish_374 rfl ?_
            refine wm_lald d_MM_finish_376 h89 h90 ?_
            refine wm_aload_n d_MM_finish_377 rfl rfl ?_
            refine gf_MM_63 rfl d_MM_finish_378 h86 ?_
            refine wm_iload d_MM_finish_381 rfl ?_
            refine wm_iconst d_MM_finish_383 ?_
            refine wm_iadd d_MM_finish_384 ?_
            refine wm_lald d_MM_finish_385 h87 h91 ?_
            refine wm_aload_n d_MM_finish_386 rfl rfl ?_
            refine gf_MM_67 rfl d_MM_finish_387 h86 ?_
            refine wm_iload d_MM_finish_390 rfl ?_
            refine wm_iconst d_MM_finish_392 ?_
            refine wm_iadd d_MM_finish_393 ?_
            refine wm_lald d_MM_finish_394 h89 h92 ?_
            refine wm_iload d_MM_finish_395 rfl ?_
            refine cf_MM_419 rfl d_MM_finish_397 h86 (Nat.le_of_ble_eq_true rfl) (Cv.mono h (fun M93 h => ?_))
            obtain ⟨hOM93, h⟩ := h
            refine wm_less (L' := [vd, vd, vd, vd, vd, vd, vd, vd, vd]) ⟨Or.inl rfl, Or.inl rfl, Or.inl rfl, Or.inl rfl, Or.inl rfl, Or.inl rfl, Or.inl rfl, Or.inl rfl, Or.inl rfl, trivial⟩ ?_
            exact h
          · replace h := h.2 c85
            obtain ⟨h96, h⟩ := h
            obtain ⟨h97, h⟩ := h
            obtain ⟨h98, h⟩ := h
            refine wm_aload_n d_MM_finish_168 rfl rfl ?_
            refine gf_MM_67 rfl d_MM_finish_169 h96 ?_
            refine wm_iload d_MM_finish_172 rfl ?_
            refine wm_lald d_MM_finish_174 h97 h98 ?_
            refine wm_lconst (x := 0) d_MM_finish_175 rfl ?_
            refine wm_lcmp d_MM_finish_176 (hOM69 _ _).2 ⟨by decide, by decide⟩ ?_
            obtain ⟨s109, h⟩ := h
            have hJ : ∀ v108 : Int, v108 = (if (cmpL (mL M69 (mR M69 a0 22) (Int.toNat ((mI M a0 23) - l5))) 0 = 0) then (mL M69 (mR M69 a0 21) (Int.toNat ((mI M a0 23) - l5))) - (mL M69 (mR M69 a0 21) (Int.toNat (((mI M a0 23) - l5) + 1))) else ((mL M69 (mR M69 a0 21) (Int.toNat ((mI M a0 23) - l5))) * (mL M69 (mR M69 a0 22) (Int.toNat (((mI M a0 23) - l5) + 1)))) - ((mL M69 (mR M69 a0 21) (Int.toNat (((mI M a0 23) - l5) + 1))) * (mL M69 (mR M69 a0 22) (Int.toNat ((mI M a0 23) - l5))))) → mWm G y_MM_finish (d + 1) 235 [vr a0, vd, vd, vi l3, vd, vd, vd, vd, vd] [vl v108] M69 (fun r9 M9 => r9 = none ∧ Q M9) := by
              intro v108 e110
              have h := h v108 e110
              refine wm_lstore d_MM_finish_235 (by decide) (L' := [vr a0, vd, vd, vi l3, vd, vd, vd, vl v108, vd]) rfl ?_
              refine wm_aload_n d_MM_finish_237 rfl rfl ?_
              refine wm_iload_n d_MM_finish_238 rfl rfl ?_
              refine wm_bipush d_MM_finish_239 (by decide) ?_
              obtain ⟨s129, h⟩ := h
              have hJ : ∀ v128 : Int, v128 = (if (((l3 = 23) ∧ (cmpL v108 0 = 0)) ∨ ((¬ (l3 = 23)) ∧ (((l3 = 18) ∧ (¬ (cmpL v108 0 = 0))) ∨ ((¬ (l3 = 18)) ∧ (((l3 = 21) ∧ (¬ (0 ≤ cmpL v108 0))) ∨ ((¬ (l3 = 21)) ∧ (((l3 = 19) ∧ (¬ (0 < cmpL v108 0))) ∨ ((¬ (l3 = 19)) ∧ (((l3 = 22) ∧ (¬ (cmpL v108 0 ≤ 0))) ∨ ((¬ (l3 = 22)) ∧ (¬ (cmpL v108 0 < 0)))))))))))) then 1 else 0) → mWm G y_MM_finish (d + 1) 355 [vd, vd, vd, vd, vd, vd, vd, vd, vd] [vi v128, vr a0] M69 (fun r9 M9 => r9 = none ∧ Q M9) := by
                intro v128 e130
                have h := h v128 e130
                have h131 : i32 v128 := by rw [e130]; (repeat' split) <;> first | exact ⟨by decide, by decide⟩ | exact ⟨by decide, by decide⟩
                have h132 : (v128 = 0 ∨ v128 = 1) := by rw [e130]; (repeat' split) <;> decide
                refine cf_MM_397 rfl d_MM_finish_355 h96 (Nat.le_of_ble_eq_true rfl) (Cv.mono h (fun M133 h => ?_))
                obtain ⟨hOM133, h⟩ := h
                refine wm_goto (tgt := 400) d_MM_finish_358 rfl ?_
                exact h
              clear h
              obtain ⟨s136, s137⟩ := s129
              refine wm_icmp_ne (tgt := 259) d_MM_finish_241 rfl hi_l3 ⟨by decide, by decide⟩ (fun c111 => ?_) (fun c111 => ?_)
              · have s137 := s137 c111
                obtain ⟨s140, s141⟩ := s137
                refine wm_iload_n d_MM_finish_259 rfl rfl ?_
                refine wm_bipush d_MM_finish_260 (by decide) ?_
                refine wm_icmp_ne (tgt := 280) d_MM_finish_262 rfl hi_l3 ⟨by decide, by decide⟩ (fun c114 => ?_) (fun c114 => ?_)
                · have s141 := s141 c114
                  obtain ⟨s145, s146⟩ := s141
                  refine wm_iload_n d_MM_finish_280 rfl rfl ?_
                  refine wm_bipush d_MM_finish_281 (by decide) ?_
                  refine wm_icmp_ne (tgt := 301) d_MM_finish_283 rfl hi_l3 ⟨by decide, by decide⟩ (fun c117 => ?_) (fun c117 => ?_)
                  · have s146 := s146 c117
                    obtain ⟨s151, s152⟩ := s146
                    refine wm_iload_n d_MM_finish_301 rfl rfl ?_
                    refine wm_bipush d_MM_finish_302 (by decide) ?_
                    refine wm_icmp_ne (tgt := 322) d_MM_finish_304 rfl hi_l3 ⟨by decide, by decide⟩ (fun c120 => ?_) (fun c120 => ?_)
                    · have s152 := s152 c120
                      obtain ⟨s158, s159⟩ := s152
                      refine wm_iload_n d_MM_finish_322 rfl rfl ?_
                      refine wm_bipush d_MM_finish_323 (by decide) ?_
                      refine wm_icmp_ne (tgt := 343) d_MM_finish_325 rfl hi_l3 ⟨by decide, by decide⟩ (fun c123 => ?_) (fun c123 => ?_)
                      · have s159 := s159 c123
                        have h126 := s159
                        refine wm_lload d_MM_finish_343 rfl ?_
                        refine wm_lconst (x := 0) d_MM_finish_345 rfl ?_
                        refine wm_lcmp d_MM_finish_346 h126 ⟨by decide, by decide⟩ ?_
                        refine wm_if_lt (tgt := 354) d_MM_finish_347 rfl (m_cmp32 _ _) (fun c127 => ?_) (fun c127 => ?_)
                        · refine wm_iconst d_MM_finish_354 ?_
                          refine wm_less (L' := [vd, vd, vd, vd, vd, vd, vd, vd, vd]) ⟨Or.inl rfl, Or.inl rfl, Or.inl rfl, Or.inl rfl, Or.inl rfl, Or.inl rfl, Or.inl rfl, Or.inl rfl, Or.inl rfl, trivial⟩ ?_
                          exact hJ 0 (if_neg (fun z166 => Or.elim z166 (fun w => c111 w.1) (fun w => (fun z167 => Or.elim z167 (fun w => c114 w.1) (fun w => (fun z168 => Or.elim z168 (fun w => c117 w.1) (fun w => (fun z169 => Or.elim z169 (fun w => c120 w.1) (fun w => (fun z170 => Or.elim z170 (fun w => c123 w.1) (fun w => (fun z171 => z171 c127) w.2)) w.2)) w.2)) w.2)) w.2))).symm
                        · refine wm_iconst d_MM_finish_350 ?_
                          refine wm_goto (tgt := 355) d_MM_finish_351 rfl ?_
                          refine wm_less (L' := [vd, vd, vd, vd, vd, vd, vd, vd, vd]) ⟨Or.inl rfl, Or.inl rfl, Or.inl rfl, Or.inl rfl, Or.inl rfl, Or.inl rfl, Or.inl rfl, Or.inl rfl, Or.inl rfl, trivial⟩ ?_
                          exact hJ 1 (if_pos (Or.inr ⟨c111, (Or.inr ⟨c114, (Or.inr ⟨c117, (Or.inr ⟨c120, (Or.inr ⟨c123, c127⟩)⟩)⟩)⟩)⟩)).symm
                      · replace c123 := Classical.not_not.mp c123
                        have s158 := s158 c123
                        have h124 := s158
                        refine wm_lload d_MM_finish_328 rfl ?_
                        refine wm_lconst (x := 0) d_MM_finish_330 rfl ?_
                        refine wm_lcmp d_MM_finish_331 h124 ⟨by decide, by decide⟩ ?_
                        refine wm_if_le (tgt := 339) d_MM_finish_332 rfl (m_cmp32 _ _) (fun c125 => ?_) (fun c125 => ?_)
                        · refine wm_iconst d_MM_finish_339 ?_
                          refine wm_goto (tgt := 355) d_MM_finish_340 rfl ?_
                          refine wm_less (L' := [vd, vd, vd, vd, vd, vd, vd, vd, vd]) ⟨Or.inl rfl, Or.inl rfl, Or.inl rfl, Or.inl rfl, Or.inl rfl, Or.inl rfl, Or.inl rfl, Or.inl rfl, Or.inl rfl, trivial⟩ ?_
                          exact hJ 0 (if_neg (fun z160 => Or.elim z160 (fun w => c111 w.1) (fun w => (fun z161 => Or.elim z161 (fun w => c114 w.1) (fun w => (fun z162 => Or.elim z162 (fun w => c117 w.1) (fun w => (fun z163 => Or.elim z163 (fun w => c120 w.1) (fun w => (fun z164 => Or.elim z164 (fun w => (fun z165 => z165 c125) w.2) (fun w => w.1 c123)) w.2)) w.2)) w.2)) w.2))).symm
                        · refine wm_iconst d_MM_finish_335 ?_
                          refine wm_goto (tgt := 355) d_MM_finish_336 rfl ?_
                          refine wm_less (L' := [vd, vd, vd, vd, vd, vd, vd, vd, vd]) ⟨Or.inl rfl, Or.inl rfl, Or.inl rfl, Or.inl rfl, Or.inl rfl, Or.inl rfl, Or.inl rfl, Or.inl rfl, Or.inl rfl, trivial⟩ ?_
                          exact hJ 1 (if_pos (Or.inr ⟨c111, (Or.inr ⟨c114, (Or.inr ⟨c117, (Or.inr ⟨c120, (Or.inl ⟨c123, c125⟩)⟩)⟩)⟩)⟩)).symm
                    · replace c120 := Classical.not_not.mp c120
                      have s151 := s151 c120
                      have h121 := s151
                      refine wm_lload d_MM_finish_307 rfl ?_
                      refine wm_lconst (x := 0) d_MM_finish_309 rfl ?_
                      refine wm_lcmp d_MM_finish_310 h121 ⟨by decide, by decide⟩ ?_
                      refine wm_if_gt (tgt := 318) d_MM_finish_311 rfl (m_cmp32 _ _) (fun c122 => ?_) (fun c122 => ?_)
                      · refine wm_iconst d_MM_finish_318 ?_
                        refine wm_goto (tgt := 355) d_MM_finish_319 rfl ?_
                        refine wm_less (L' := [vd, vd, vd, vd, vd, vd, vd, vd, vd]) ⟨Or.inl rfl, Or.inl rfl, Or.inl rfl, Or.inl rfl, Or.inl rfl, Or.inl rfl, Or.inl rfl, Or.inl rfl, Or.inl rfl, trivial⟩ ?_
                        exact hJ 0 (if_neg (fun z153 => Or.elim z153 (fun w => c111 w.1) (fun w => (fun z154 => Or.elim z154 (fun w => c114 w.1) (fun w => (fun z155 => Or.elim z155 (fun w => c117 w.1) (fun w => (fun z156 => Or.elim z156 (fun w => (fun z157 => z157 c122) w.2) (fun w => w.1 c120)) w.2)) w.2)) w.2))).symm
                      · refine wm_iconst d_MM_finish_314 ?_
                        refine wm_goto (tgt := 355) d_MM_finish_315 rfl ?_
                        refine wm_less (L' := [vd, vd, vd, vd, vd, vd, vd, vd, vd]) ⟨Or.inl rfl, Or.inl rfl, Or.inl rfl, Or.inl rfl, Or.inl rfl, Or.inl rfl, Or.inl rfl, Or.inl rfl, Or.inl rfl, trivial⟩ ?_
                        exact hJ 1 (if_pos (Or.inr ⟨c111, (Or.inr ⟨c114, (Or.inr ⟨c117, (Or.inl ⟨c120, c122⟩)⟩)⟩)⟩)).symm
                  · replace c117 := Classical.not_not.mp c117
                    have s145 := s145 c117
                    have h118 := s145
                    refine wm_lload d_MM_finish_286 rfl ?_
                    refine wm_lconst (x := 0) d_MM_finish_288 rfl ?_
                    refine wm_lcmp d_MM_finish_289 h118 ⟨by decide, by decide⟩ ?_
                    refine wm_if_ge (tgt := 297) d_MM_finish_290 rfl (m_cmp32 _ _) (fun c119 => ?_) (fun c119 => ?_)
                    · refine wm_iconst d_MM_finish_297 ?_
                      refine wm_goto (tgt := 355) d_MM_finish_298 rfl ?_
                      refine wm_less (L' := [vd, vd, vd, vd, vd, vd, vd, vd, vd]) ⟨Or.inl rfl, Or.inl rfl, Or.inl rfl, Or.inl rfl, Or.inl rfl, Or.inl rfl, Or.inl rfl, Or.inl rfl, Or.inl rfl, trivial⟩ ?_
                      exact hJ 0 (if_neg (fun z147 => Or.elim z147 (fun w => c111 w.1) (fun w => (fun z148 => Or.elim z148 (fun w => c114 w.1) (fun w => (fun z149 => Or.elim z149 (fun w => (fun z150 => z150 c119) w.2) (fun w => w.1 c117)) w.2)) w.2))).symm
                    · refine wm_iconst d_MM_finish_293 ?_
                      refine wm_goto (tgt := 355) d_MM_finish_294 rfl ?_
                      refine wm_less (L' := [vd, vd, vd, vd, vd, vd, vd, vd, vd]) ⟨Or.inl rfl, Or.inl rfl, Or.inl rfl, Or.inl rfl, Or.inl rfl, Or.inl rfl, Or.inl rfl, Or.inl rfl, Or.inl rfl, trivial⟩ ?_
                      exact hJ 1 (if_pos (Or.inr ⟨c111, (Or.inr ⟨c114, (Or.inl ⟨c117, c119⟩)⟩)⟩)).symm
                · replace c114 := Classical.not_not.mp c114
                  have s140 := s140 c114
                  have h115 := s140
                  refine wm_lload d_MM_finish_265 rfl ?_
                  refine wm_lconst (x := 0) d_MM_finish_267 rfl ?_
                  refine wm_lcmp d_MM_finish_268 h115 ⟨by decide, by decide⟩ ?_
                  refine wm_if_eq (tgt := 276) d_MM_finish_269 rfl (m_cmp32 _ _) (fun c116 => ?_) (fun c116 => ?_)
                  · refine wm_iconst d_MM_finish_276 ?_
                    refine wm_goto (tgt := 355) d_MM_finish_277 rfl ?_
                    refine wm_less (L' := [vd, vd, vd, vd, vd, vd, vd, vd, vd]) ⟨Or.inl rfl, Or.inl rfl, Or.inl rfl, Or.inl rfl, Or.inl rfl, Or.inl rfl, Or.inl rfl, Or.inl rfl, Or.inl rfl, trivial⟩ ?_
                    exact hJ 0 (if_neg (fun z142 => Or.elim z142 (fun w => c111 w.1) (fun w => (fun z143 => Or.elim z143 (fun w => (fun z144 => z144 c116) w.2) (fun w => w.1 c114)) w.2))).symm
                  · refine wm_iconst d_MM_finish_272 ?_
                    refine wm_goto (tgt := 355) d_MM_finish_273 rfl ?_
                    refine wm_less (L' := [vd, vd, vd, vd, vd, vd, vd, vd, vd]) ⟨Or.inl rfl, Or.inl rfl, Or.inl rfl, Or.inl rfl, Or.inl rfl, Or.inl rfl, Or.inl rfl, Or.inl rfl, Or.inl rfl, trivial⟩ ?_
                    exact hJ 1 (if_pos (Or.inr ⟨c111, (Or.inl ⟨c114, c116⟩)⟩)).symm
              · replace c111 := Classical.not_not.mp c111
                have s136 := s136 c111
                have h112 := s136
                refine wm_lload d_MM_finish_244 rfl ?_
                refine wm_lconst (x := 0) d_MM_finish_246 rfl ?_
                refine wm_lcmp d_MM_finish_247 h112 ⟨by decide, by decide⟩ ?_
                refine wm_if_ne (tgt := 255) d_MM_finish_248 rfl (m_cmp32 _ _) (fun c113 => ?_) (fun c113 => ?_)
                · refine wm_iconst d_MM_finish_255 ?_
                  refine wm_goto (tgt := 355) d_MM_finish_256 rfl ?_
                  refine wm_less (L' := [vd, vd, vd, vd, vd, vd, vd, vd, vd]) ⟨Or.inl rfl, Or.inl rfl, Or.inl rfl, Or.inl rfl, Or.inl rfl, Or.inl rfl, Or.inl rfl, Or.inl rfl, Or.inl rfl, trivial⟩ ?_
                  exact hJ 0 (if_neg (fun z138 => Or.elim z138 (fun w => c113 w.2) (fun w => w.1 c111))).symm
                · replace c113 := Classical.not_not.mp c113
                  refine wm_iconst d_MM_finish_251 ?_
                  refine wm_goto (tgt := 355) d_MM_finish_252 rfl ?_
                  refine wm_less (L' := [vd, vd, vd, vd, vd, vd, vd, vd, vd]) ⟨Or.inl rfl, Or.inl rfl, Or.inl rfl, Or.inl rfl, Or.inl rfl, Or.inl rfl, Or.inl rfl, Or.inl rfl, Or.inl rfl, trivial⟩ ?_
                  exact hJ 1 (if_pos (Or.inl ⟨c111, c113⟩)).symm
            clear h
            obtain ⟨s172, s173⟩ := s109
            refine wm_if_ne (tgt := 200) d_MM_finish_177 rfl (m_cmp32 _ _) (fun c99 => ?_) (fun c99 => ?_)
            · have s173 := s173 c99
              obtain ⟨h103, h104, h105, h106, h107⟩ := s173
              refine wm_aload_n d_MM_finish_200 rfl rfl ?_
              refine gf_MM_63 rfl d_MM_finish_201 h96 ?_
              refine wm_iload d_MM_finish_204 rfl ?_
              refine wm_lald d_MM_finish_206 h103 h104 ?_
              refine wm_aload_n d_MM_finish_207 rfl rfl ?_
              refine gf_MM_67 rfl d_MM_finish_208 h96 ?_
              refine wm_iload d_MM_finish_211 rfl ?_
              refine wm_iconst d_MM_finish_213 ?_
              refine wm_iadd d_MM_finish_214 ?_
              refine wm_lald d_MM_finish_215 h97 h105 ?_
              refine wm_lmul d_MM_finish_216 ?_
              refine wm_aload_n d_MM_finish_217 rfl rfl ?_
              refine gf_MM_63 rfl d_MM_finish_218 h96 ?_
              refine wm_iload d_MM_finish_221 rfl ?_
              refine wm_iconst d_MM_finish_223 ?_
              refine wm_iadd d_MM_finish_224 ?_
              refine wm_lald d_MM_finish_225 h103 h106 ?_
              refine wm_aload_n d_MM_finish_226 rfl rfl ?_
              refine gf_MM_67 rfl d_MM_finish_227 h96 ?_
              refine wm_iload d_MM_finish_230 rfl ?_
              refine wm_lald d_MM_finish_232 h97 h107 ?_
              refine wm_lmul d_MM_finish_233 ?_
              refine wm_lsub d_MM_finish_234 ?_
              refine wm_less (L' := [vr a0, vd, vd, vi l3, vd, vd, vd, vd, vd]) ⟨Or.inr rfl, Or.inl rfl, Or.inl rfl, Or.inr rfl, Or.inl rfl, Or.inl rfl, Or.inl rfl, Or.inl rfl, Or.inl rfl, trivial⟩ ?_
              exact hJ (((mL M69 (mR M69 a0 21) (Int.toNat ((mI M a0 23) - l5))) * (mL M69 (mR M69 a0 22) (Int.toNat (((mI M a0 23) - l5) + 1)))) - ((mL M69 (mR M69 a0 21) (Int.toNat (((mI M a0 23) - l5) + 1))) * (mL M69 (mR M69 a0 22) (Int.toNat ((mI M a0 23) - l5))))) (if_neg c99).symm
            · replace c99 := Classical.not_not.mp c99
              have s172 := s172 c99
              obtain ⟨h100, h101, h102⟩ := s172
              refine wm_aload_n d_MM_finish_180 rfl rfl ?_
              refine gf_MM_63 rfl d_MM_finish_181 h96 ?_
              refine wm_iload d_MM_finish_184 rfl ?_
              refine wm_lald d_MM_finish_186 h100 h101 ?_
              refine wm_aload_n d_MM_finish_187 rfl rfl ?_
              refine gf_MM_63 rfl d_MM_finish_188 h96 ?_
              refine wm_iload d_MM_finish_191 rfl ?_
              refine wm_iconst d_MM_finish_193 ?_
              refine wm_iadd d_MM_finish_194 ?_
              refine wm_lald d_MM_finish_195 h100 h102 ?_
              refine wm_lsub d_MM_finish_196 ?_
              refine wm_goto (tgt := 235) d_MM_finish_197 rfl ?_
              refine wm_less (L' := [vr a0, vd, vd, vi l3, vd, vd, vd, vd, vd]) ⟨Or.inr rfl, Or.inl rfl, Or.inl rfl, Or.inr rfl, Or.inl rfl, Or.inl rfl, Or.inl rfl, Or.inl rfl, Or.inl rfl, trivial⟩ ?_
              exact hJ ((mL M69 (mR M69 a0 21) (Int.toNat ((mI M a0 23) - l5))) - (mL M69 (mR M69 a0 21) (Int.toNat (((mI M a0 23) - l5) + 1)))) (if_pos c99).symm
        clear h
        refine wm_icmp_eq (tgt := 139) d_MM_finish_130 rfl hi_l3 ⟨by decide, by decide⟩ (fun c55 => ?_) (fun c55 => ?_)
        · exact hE0 (Or.inl c55)
        · refine wm_iload_n d_MM_finish_133 rfl rfl ?_
          refine wm_bipush d_MM_finish_134 (by decide) ?_
          refine wm_icmp_ne (tgt := 161) d_MM_finish_136 rfl hi_l3 ⟨by decide, by decide⟩ (fun c54 => ?_) (fun c54 => ?_)
          · exact hE1 (fun z175 => Or.elim z175 c55 c54)
          · replace c54 := Classical.not_not.mp c54
            exact hE0 (Or.inr c54)
      · replace c46 := Classical.not_not.mp c46
        replace h := h.1 c46
        obtain ⟨h47, h⟩ := h
        obtain ⟨h48, h⟩ := h
        obtain ⟨h49, h⟩ := h
        obtain ⟨h50, h⟩ := h
        refine wm_aload_n d_MM_finish_105 rfl rfl ?_
        refine wm_aload_n d_MM_finish_106 rfl rfl ?_
        refine gf_MM_63 rfl d_MM_finish_107 (by rw [e23]; exact h20) ?_
        refine wm_iload d_MM_finish_110 rfl ?_
        refine wm_lald d_MM_finish_112 h47 h48 ?_
        refine wm_lneg d_MM_finish_113 ?_
        refine wm_aload_n d_MM_finish_114 rfl rfl ?_
        refine gf_MM_67 rfl d_MM_finish_115 (by rw [e23]; exact h20) ?_
        refine wm_iload d_MM_finish_118 rfl ?_
        refine wm_lald d_MM_finish_120 h49 h50 ?_
        refine cf_MM_373 rfl d_MM_finish_121 (by rw [e23]; exact h20) (Nat.le_of_ble_eq_true rfl) (Cv.mono h (fun M51 h => ?_))
        obtain ⟨hOM51, h⟩ := h
        refine wm_goto (tgt := 400) d_MM_finish_124 rfl ?_
        refine wm_less (L' := [vd, vd, vd, vd, vd, vd, vd, vd, vd]) ⟨Or.inl rfl, Or.inl rfl, Or.inl rfl, Or.inl rfl, Or.inl rfl, Or.inl rfl, Or.inl rfl, Or.inl rfl, Or.inl rfl, trivial⟩ ?_
        exact h
    · replace c30 := Classical.not_not.mp c30
      replace h := h.1 c30
      obtain ⟨h31, h⟩ := h
      obtain ⟨h32, h⟩ := h
      refine wm_aload_n d_MM_finish_75 rfl rfl ?_
      refine wm_aload_n d_MM_finish_76 rfl rfl ?_
      refine gf_MM_63 rfl d_MM_finish_77 (by rw [e23]; exact h20) ?_
      refine wm_iload d_MM_finish_80 rfl ?_
      refine wm_lald d_MM_finish_82 h31 h32 ?_
      refine wm_lconst (x := 0) d_MM_finish_83 rfl ?_
      refine wm_lcmp d_MM_finish_84 (hOM22 _ _).2 ⟨by decide, by decide⟩ ?_
      have hJ : ∀ v34 : Int, v34 = (if (cmpL (mL M22 (mR M22 a0 21) (Int.toNat ((mI M a0 23) - l5))) 0 = 0) then 1 else 0) → mWm G y_MM_finish (d + 1) 93 [vd, vd, vd, vd, vd, vd, vd, vd, vd] [vi v34, vr a0] M22 (fun r9 M9 => r9 = none ∧ Q M9) := by
        intro v34 e36
        have h := h v34 e36
        have h37 : i32 v34 := by rw [e36]; (repeat' split) <;> first | exact ⟨by decide, by decide⟩ | exact ⟨by decide, by decide⟩
        have h38 : (v34 = 0 ∨ v34 = 1) := by rw [e36]; (repeat' split) <;> decide
        refine cf_MM_397 rfl d_MM_finish_93 (by rw [e23]; exact h20) (Nat.le_of_ble_eq_true rfl) (Cv.mono h (fun M39 h => ?_))
        obtain ⟨hOM39, h⟩ := h
        refine wm_goto (tgt := 400) d_MM_finish_96 rfl ?_
        exact h
      clear h
      refine wm_if_ne (tgt := 92) d_MM_finish_85 rfl (m_cmp32 _ _) (fun c33 => ?_) (fun c33 => ?_)
      · refine wm_iconst d_MM_finish_92 ?_
        refine wm_less (L' := [vd, vd, vd, vd, vd, vd, vd, vd, vd]) ⟨Or.inl rfl, Or.inl rfl, Or.inl rfl, Or.inl rfl, Or.inl rfl, Or.inl rfl, Or.inl rfl, Or.inl rfl, Or.inl rfl, trivial⟩ ?_
        exact hJ 0 (if_neg c33).symm
      · replace c33 := Classical.not_not.mp c33
        refine wm_iconst d_MM_finish_88 ?_
        refine wm_goto (tgt := 93) d_MM_finish_89 rfl ?_
        refine wm_less (L' := [vd, vd, vd, vd, vd, vd, vd, vd, vd]) ⟨Or.inl rfl, Or.inl rfl, Or.inl rfl, Or.inl rfl, Or.inl rfl, Or.inl rfl, Or.inl rfl, Or.inl rfl, Or.inl rfl, trivial⟩ ?_
        exact hJ 1 (if_pos c33).symm
  · replace h := h.2 c19
    obtain ⟨h177, h⟩ := h
    obtain ⟨h178, h⟩ := h
    refine wm_iinc d_MM_finish_37 (by decide) rfl (L' := [vr a0, vr a1, vd, vi l3, vi l4, vi (l5 + 1), vi l6, vd, vd]) rfl ?_
    refine wm_aload_n d_MM_finish_40 rfl rfl ?_
    refine gf_MM_290 rfl d_MM_finish_41 h177 ?_
    refine wm_iload d_MM_finish_44 rfl ?_
    refine cf_MM_155 rfl d_MM_finish_46 h178 (Nat.le_of_ble_eq_true rfl) (Ci.mono h (fun x180 M179 h => ?_))
    obtain ⟨h181, hOM179, h⟩ := h
    refine wm_istore d_MM_finish_49 (by decide) (L' := [vr a0, vr a1, vd, vi l3, vi l4, vi (l5 + 1), vi x180, vd, vd]) rfl ?_
    refine wm_goto (tgt := 32) d_MM_finish_51 rfl ?_
    exact h
theorem k_MM_finish_400 {G : mG} {d : Nat} {M : mM} {Q : mM → Prop} (hO : mOk M)
    (h : Q M) :
    h_MM_finish_400 G d  M Q := by
  unfold h_MM_finish_400
  refine wm_return d_MM_finish_400 rfl ?_
  exact ⟨rfl, h⟩
theorem d_MM_best_0 : decode y_MM_best.2.1 0 = .ok (.iload_n 2, 1) := by decide +kernel
theorem d_MM_best_1 : decode y_MM_best.2.1 1 = .ok (.istore 4, 2) := by decide +kernel
theorem d_MM_best_3 : decode y_MM_best.2.1 3 = .ok (.iload_n 2, 1) := by decide +kernel
theorem d_MM_best_4 : decode y_MM_best.2.1 4 = .ok (.iconst 1, 1) := by decide +kernel
theorem d_MM_best_5 : decode y_MM_best.2.1 5 = .ok (.iadd, 1) := by decide +kernel
theorem d_MM_best_6 : decode y_MM_best.2.1 6 = .ok (.istore 5, 2) := by decide +kernel
theorem d_MM_best_8 : decode y_MM_best.2.1 8 = .ok (.iload 5, 2) := by decide +kernel
theorem d_MM_best_10 : decode y_MM_best.2.1 10 = .ok (.iload_n 2, 1) := by decide +kernel
theorem d_MM_best_11 : decode y_MM_best.2.1 11 = .ok (.iload_n 3, 1) := by decide +kernel
theorem d_MM_best_12 : decode y_MM_best.2.1 12 = .ok (.iadd, 1) := by decide +kernel
theorem d_MM_best_13 : decode y_MM_best.2.1 13 = .ok (.if_icmp .ge 73, 3) := by decide +kernel
theorem d_MM_best_86 : decode y_MM_best.2.1 86 = .ok (.aload_n 0, 1) := by decide +kernel
theorem d_MM_best_87 : decode y_MM_best.2.1 87 = .ok (.aload_n 0, 1) := by decide +kernel
theorem d_MM_best_88 : decode y_MM_best.2.1 88 = .ok (.getfield 63, 3) := by decide +kernel
theorem d_MM_best_91 : decode y_MM_best.2.1 91 = .ok (.iload 4, 2) := by decide +kernel
theorem d_MM_best_93 : decode y_MM_best.2.1 93 = .ok (.laload, 1) := by decide +kernel
theorem d_MM_best_94 : decode y_MM_best.2.1 94 = .ok (.aload_n 0, 1) := by decide +kernel
theorem d_MM_best_95 : decode y_MM_best.2.1 95 = .ok (.getfield 67, 3) := by decide +kernel
theorem d_MM_best_98 : decode y_MM_best.2.1 98 = .ok (.iload 4, 2) := by decide +kernel
theorem d_MM_best_100 : decode y_MM_best.2.1 100 = .ok (.laload, 1) := by decide +kernel
theorem d_MM_best_16 : decode y_MM_best.2.1 16 = .ok (.aload_n 0, 1) := by decide +kernel
theorem d_MM_best_17 : decode y_MM_best.2.1 17 = .ok (.getfield 63, 3) := by decide +kernel
theorem d_MM_best_20 : decode y_MM_best.2.1 20 = .ok (.iload 5, 2) := by decide +kernel
theorem d_MM_best_22 : decode y_MM_best.2.1 22 = .ok (.laload, 1) := by decide +kernel
theorem d_MM_best_23 : decode y_MM_best.2.1 23 = .ok (.aload_n 0, 1) := by decide +kernel
theorem d_MM_best_24 : decode y_MM_best.2.1 24 = .ok (.getfield 67, 3) := by decide +kernel
theorem d_MM_best_27 : decode y_MM_best.2.1 27 = .ok (.iload 4, 2) := by decide +kernel
theorem d_MM_best_29 : decode y_MM_best.2.1 29 = .ok (.laload, 1) := by decide +kernel
theorem d_MM_best_30 : decode y_MM_best.2.1 30 = .ok (.lmul, 1) := by decide +kernel
theorem d_MM_best_31 : decode y_MM_best.2.1 31 = .ok (.aload_n 0, 1) := by decide +kernel
theorem d_MM_best_32 : decode y_MM_best.2.1 32 = .ok (.getfield 63, 3) := by decide +kernel
theorem d_MM_best_35 : decode y_MM_best.2.1 35 = .ok (.iload 4, 2) := by decide +kernel
theorem d_MM_best_37 : decode y_MM_best.2.1 37 = .ok (.laload, 1) := by decide +kernel
theorem d_MM_best_38 : decode y_MM_best.2.1 38 = .ok (.aload_n 0, 1) := by decide +kernel
theorem d_MM_best_39 : decode y_MM_best.2.1 39 = .ok (.getfield 67, 3) := by decide +kernel
theorem d_MM_best_42 : decode y_MM_best.2.1 42 = .ok (.iload 5, 2) := by decide +kernel
theorem d_MM_best_44 : decode y_MM_best.2.1 44 = .ok (.laload, 1) := by decide +kernel
theorem d_MM_best_45 : decode y_MM_best.2.1 45 = .ok (.lmul, 1) := by decide +kernel
theorem d_MM_best_46 : decode y_MM_best.2.1 46 = .ok (.lsub, 1) := by decide +kernel
theorem d_MM_best_47 : decode y_MM_best.2.1 47 = .ok (.lstore 6, 2) := by decide +kernel
theorem d_MM_best_49 : decode y_MM_best.2.1 49 = .ok (.iload_n 1, 1) := by decide +kernel
theorem d_MM_best_101 : decode y_MM_best.2.1 101 = .ok (.invokevirtual 373, 3) := by decide +kernel
theorem d_MM_best_104 : decode y_MM_best.2.1 104 = .ok (.return_, 1) := by decide +kernel
theorem d_MM_best_50 : decode y_MM_best.2.1 50 = .ok (.ifCond .eq 10, 3) := by decide +kernel
theorem d_MM_best_60 : decode y_MM_best.2.1 60 = .ok (.iload_n 1, 1) := by decide +kernel
theorem d_MM_best_61 : decode y_MM_best.2.1 61 = .ok (.ifCond .ne 15, 3) := by decide +kernel
theorem d_MM_best_64 : decode y_MM_best.2.1 64 = .ok (.lload 6, 2) := by decide +kernel
theorem d_MM_best_66 : decode y_MM_best.2.1 66 = .ok (.lconst 0, 1) := by decide +kernel
theorem d_MM_best_67 : decode y_MM_best.2.1 67 = .ok (.lcmp, 1) := by decide +kernel
theorem d_MM_best_68 : decode y_MM_best.2.1 68 = .ok (.ifCond .le 8, 3) := by decide +kernel
theorem d_MM_best_76 : decode y_MM_best.2.1 76 = .ok (.iload 4, 2) := by decide +kernel
theorem d_MM_best_71 : decode y_MM_best.2.1 71 = .ok (.iload 5, 2) := by decide +kernel
theorem d_MM_best_73 : decode y_MM_best.2.1 73 = .ok (.goto 5, 3) := by decide +kernel
theorem d_MM_best_53 : decode y_MM_best.2.1 53 = .ok (.lload 6, 2) := by decide +kernel
theorem d_MM_best_55 : decode y_MM_best.2.1 55 = .ok (.lconst 0, 1) := by decide +kernel
theorem d_MM_best_56 : decode y_MM_best.2.1 56 = .ok (.lcmp, 1) := by decide +kernel
theorem d_MM_best_57 : decode y_MM_best.2.1 57 = .ok (.ifCond .lt 14, 3) := by decide +kernel
theorem d_MM_best_78 : decode y_MM_best.2.1 78 = .ok (.istore 4, 2) := by decide +kernel
theorem d_MM_best_80 : decode y_MM_best.2.1 80 = .ok (.iinc 5 1, 3) := by decide +kernel
theorem d_MM_best_83 : decode y_MM_best.2.1 83 = .ok (.goto (-75), 3) := by decide +kernel
def h_MM_best_8 (G : mG) (d : Nat) (a0 : Nat) (l1 : Int) (l2 : Int) (l3 : Int) (l4 : Int) (l5 : Int) (M : mM) (Q : mM → Prop) : Prop := mWm G y_MM_best (d + 1) 8 [vr a0, vi l1, vi l2, vi l3, vi l4, vi l5, vd, vd] [] M (fun r9 M9 => r9 = none ∧ Q M9)
theorem k_MM_best {G : mG} {d : Nat} {a0 : Nat} {l1 : Int} {l2 : Int} {l3 : Int} {M : mM} {Q : mM → Prop} (hO : mOk M) (hi_l1 : i32 l1) (hi_l2 : i32 l2) (hi_l3 : i32 l3)
    (h : h_MM_best_8 G d a0 l1 l2 l3 l2 (l2 + 1) M Q) :
    Cv G y_MM_best (d + 1) [vr a0, vi l1, vi l2, vi l3] M Q := by
  refine wm_open (y := y_MM_best) rfl (Nat.le_of_ble_eq_true rfl) (L := [vr a0, vi l1, vi l2, vi l3, vd, vd, vd, vd]) rfl ?_
  refine wm_iload_n d_MM_best_0 rfl rfl ?_
  refine wm_istore d_MM_best_1 (by decide) (L' := [vr a0, vi l1, vi l2, vi l3, vi l2, vd, vd, vd]) rfl ?_
  refine wm_iload_n d_MM_best_3 rfl rfl ?_
  refine wm_iconst d_MM_best_4 ?_
  refine wm_iadd d_MM_best_5 ?_
  refine wm_istore d_MM_best_6 (by decide) (L' := [vr a0, vi l1, vi l2, vi l3, vi l2, vi (l2 + 1), vd, vd]) rfl ?_
  exact h
theorem k_MM_best_8 {G : mG} {d : Nat} {a0 : Nat} {l1 : Int} {l2 : Int} {l3 : Int} {l4 : Int} {l5 : Int} {M : mM} {Q : mM → Prop} (hO : mOk M) (hi_l1 : i32 l1) (hi_l2 : i32 l2) (hi_l3 : i32 l3) (hi_l4 : i32 l4) (hi_l5 : i32 l5)
    (h : i32 (l2 + l3) ∧ ((l2 + l3 ≤ l5) → (mK M a0 = 14 ∧ mK M (mR M a0 21) = 33 ∧ ((0 : Int) ≤ l4 ∧ l4 < (mN M (mR M a0 21) : Int)) ∧ mK M (mR M a0 22) = 33 ∧ ((0 : Int) ≤ l4 ∧ l4 < (mN M (mR M a0 22) : Int)) ∧ Cv G y_MM_push d [vr a0, vl (mL M (mR M a0 21) (Int.toNat l4)), vl (mL M (mR M a0 22) (Int.toNat l4))] M (fun M17 => mOk M17 ∧ (Q M17)))) ∧ (¬ (l2 + l3 ≤ l5) → (mK M a0 = 14 ∧ mK M (mR M a0 21) = 33 ∧ ((0 : Int) ≤ l5 ∧ l5 < (mN M (mR M a0 21) : Int)) ∧ mK M (mR M a0 22) = 33 ∧ ((0 : Int) ≤ l4 ∧ l4 < (mN M (mR M a0 22) : Int)) ∧ ((0 : Int) ≤ l4 ∧ l4 < (mN M (mR M a0 21) : Int)) ∧ ((0 : Int) ≤ l5 ∧ l5 < (mN M (mR M a0 22) : Int)) ∧ (((l1 = 0) → ((l1 = 0) → i64 (((mL M (mR M a0 21) (Int.toNat l5)) * (mL M (mR M a0 22) (Int.toNat l4))) - ((mL M (mR M a0 21) (Int.toNat l4)) * (mL M (mR M a0 22) (Int.toNat l5)))))) ∧ (¬ (l1 = 0) → i64 (((mL M (mR M a0 21) (Int.toNat l5)) * (mL M (mR M a0 22) (Int.toNat l4))) - ((mL M (mR M a0 21) (Int.toNat l4)) * (mL M (mR M a0 22) (Int.toNat l5)))))) ∧ ∀ v35 : Int, v35 = (if (((l1 = 0) ∧ ((¬ (l1 = 0)) ∨ (cmpL (((mL M (mR M a0 21) (Int.toNat l5)) * (mL M (mR M a0 22) (Int.toNat l4))) - ((mL M (mR M a0 21) (Int.toNat l4)) * (mL M (mR M a0 22) (Int.toNat l5)))) 0 ≤ 0))) ∨ ((¬ (l1 = 0)) ∧ ((¬ (cmpL (((mL M (mR M a0 21) (Int.toNat l5)) * (mL M (mR M a0 22) (Int.toNat l4))) - ((mL M (mR M a0 21) (Int.toNat l4)) * (mL M (mR M a0 22) (Int.toNat l5)))) 0 < 0)) ∧ ((¬ (l1 = 0)) ∨ (cmpL (((mL M (mR M a0 21) (Int.toNat l5)) * (mL M (mR M a0 22) (Int.toNat l4))) - ((mL M (mR M a0 21) (Int.toNat l4)) * (mL M (mR M a0 22) (Int.toNat l5)))) 0 ≤ 0))))) then l4 else l5) → h_MM_best_8 G d a0 l1 l2 l3 v35 (l5 + 1) M Q))) :
    h_MM_best_8 G d a0 l1 l2 l3 l4 l5 M Q := by
  unfold h_MM_best_8
  obtain ⟨h10, h⟩ := h
  refine wm_iload d_MM_best_8 rfl ?_
  refine wm_iload_n d_MM_best_10 rfl rfl ?_
  refine wm_iload_n d_MM_best_11 rfl rfl ?_
  refine wm_iadd d_MM_best_12 ?_
  refine wm_icmp_ge (tgt := 86) d_MM_best_13 rfl hi_l5 h10 (fun c11 => ?_) (fun c11 => ?_)
  · replace h := h.1 c11
    obtain ⟨h12, h⟩ := h
    obtain ⟨h13, h⟩ := h
    obtain ⟨h14, h⟩ := h
    obtain ⟨h15, h⟩ := h
    obtain ⟨h16, h⟩ := h
    refine wm_aload_n d_MM_best_86 rfl rfl ?_
    refine wm_aload_n d_MM_best_87 rfl rfl ?_
    refine gf_MM_63 rfl d_MM_best_88 h12 ?_
    refine wm_iload d_MM_best_91 rfl ?_
    refine wm_lald d_MM_best_93 h13 h14 ?_
    refine wm_aload_n d_MM_best_94 rfl rfl ?_
    refine gf_MM_67 rfl d_MM_best_95 h12 ?_
    refine wm_iload d_MM_best_98 rfl ?_
    refine wm_lald d_MM_best_100 h15 h16 ?_
    refine cf_MM_373 rfl d_MM_best_101 h12 (Nat.le_of_ble_eq_true rfl) (Cv.mono h (fun M17 h => ?_))
    obtain ⟨hOM17, h⟩ := h
    refine wm_return d_MM_best_104 rfl ?_
    exact ⟨rfl, h⟩
  · replace h := h.2 c11
    obtain ⟨h20, h⟩ := h
    obtain ⟨h21, h⟩ := h
    obtain ⟨h22, h⟩ := h
    obtain ⟨h23, h⟩ := h
    obtain ⟨h24, h⟩ := h
    obtain ⟨h25, h⟩ := h
    obtain ⟨h26, h⟩ := h
    refine wm_aload_n d_MM_best_16 rfl rfl ?_
    refine gf_MM_63 rfl d_MM_best_17 h20 ?_
    refine wm_iload d_MM_best_20 rfl ?_
    refine wm_lald d_MM_best_22 h21 h22 ?_
    refine wm_aload_n d_MM_best_23 rfl rfl ?_
    refine gf_MM_67 rfl d_MM_best_24 h20 ?_
    refine wm_iload d_MM_best_27 rfl ?_
    refine wm_lald d_MM_best_29 h23 h24 ?_
    refine wm_lmul d_MM_best_30 ?_
    refine wm_aload_n d_MM_best_31 rfl rfl ?_
    refine gf_MM_63 rfl d_MM_best_32 h20 ?_
    refine wm_iload d_MM_best_35 rfl ?_
    refine wm_lald d_MM_best_37 h21 h25 ?_
    refine wm_aload_n d_MM_best_38 rfl rfl ?_
    refine gf_MM_67 rfl d_MM_best_39 h20 ?_
    refine wm_iload d_MM_best_42 rfl ?_
    refine wm_lald d_MM_best_44 h23 h26 ?_
    refine wm_lmul d_MM_best_45 ?_
    refine wm_lsub d_MM_best_46 ?_
    refine wm_lstore d_MM_best_47 (by decide) (L' := [vr a0, vi l1, vi l2, vi l3, vi l4, vi l5, vl (((mL M (mR M a0 21) (Int.toNat l5)) * (mL M (mR M a0 22) (Int.toNat l4))) - ((mL M (mR M a0 21) (Int.toNat l4)) * (mL M (mR M a0 22) (Int.toNat l5)))), vd]) rfl ?_
    refine wm_iload_n d_MM_best_49 rfl rfl ?_
    obtain ⟨s36, h⟩ := h
    have hJ : ∀ v35 : Int, v35 = (if (((l1 = 0) ∧ ((¬ (l1 = 0)) ∨ (cmpL (((mL M (mR M a0 21) (Int.toNat l5)) * (mL M (mR M a0 22) (Int.toNat l4))) - ((mL M (mR M a0 21) (Int.toNat l4)) * (mL M (mR M a0 22) (Int.toNat l5)))) 0 ≤ 0))) ∨ ((¬ (l1 = 0)) ∧ ((¬ (cmpL (((mL M (mR M a0 21) (Int.toNat l5)) * (mL M (mR M a0 22) (Int.toNat l4))) - ((mL M (mR M a0 21) (Int.toNat l4)) * (mL M (mR M a0 22) (Int.toNat l5)))) 0 < 0)) ∧ ((¬ (l1 = 0)) ∨ (cmpL (((mL M (mR M a0 21) (Int.toNat l5)) * (mL M (mR M a0 22) (Int.toNat l4))) - ((mL M (mR M a0 21) (Int.toNat l4)) * (mL M (mR M a0 22) (Int.toNat l5)))) 0 ≤ 0))))) then l4 else l5) → mWm G y_MM_best (d + 1) 78 [vr a0, vi l1, vi l2, vi l3, vd, vi l5, vd, vd] [vi v35] M (fun r9 M9 => r9 = none ∧ Q M9) := by
      intro v35 e37
      have h := h v35 e37
      have h38 : i32 v35 := by rw [e37]; (repeat' split) <;> first | exact hi_l4 | exact hi_l5
      refine wm_istore d_MM_best_78 (by decide) (L' := [vr a0, vi l1, vi l2, vi l3, vi v35, vi l5, vd, vd]) rfl ?_
      refine wm_iinc d_MM_best_80 (by decide) rfl (L' := [vr a0, vi l1, vi l2, vi l3, vi v35, vi (l5 + 1), vd, vd]) rfl ?_
      refine wm_goto (tgt := 8) d_MM_best_83 rfl ?_
      exact h
    clear h
    obtain ⟨s39, s40⟩ := s36
    refine wm_if_eq (tgt := 60) d_MM_best_50 rfl hi_l1 (fun c27 => ?_) (fun c27 => ?_)
    · have s39 := s39 c27
      have s41 := s39
      refine wm_iload_n d_MM_best_60 rfl rfl ?_
      refine wm_if_ne (tgt := 76) d_MM_best_61 rfl hi_l1 (fun c28 => ?_) (fun c28 => ?_)
      · refine wm_iload d_MM_best_76 rfl ?_
        refine wm_less (L' := [vr a0, vi l1, vi l2, vi l3, vd, vi l5, vd, vd]) ⟨Or.inr rfl, Or.inr rfl, Or.inr rfl, Or.inr rfl, Or.inl rfl, Or.inr rfl, Or.inl rfl, Or.inl rfl, trivial⟩ ?_
        exact hJ l4 (if_pos (Or.inl ⟨c27, (Or.inl c28)⟩)).symm
      · replace c28 := Classical.not_not.mp c28
        have s41 := s41 c28
        have h29 := s41
        refine wm_lload d_MM_best_64 rfl ?_
        refine wm_lconst (x := 0) d_MM_best_66 rfl ?_
        refine wm_lcmp d_MM_best_67 h29 ⟨by decide, by decide⟩ ?_
        refine wm_if_le (tgt := 76) d_MM_best_68 rfl (m_cmp32 _ _) (fun c30 => ?_) (fun c30 => ?_)
        · refine wm_iload d_MM_best_76 rfl ?_
          refine wm_less (L' := [vr a0, vi l1, vi l2, vi l3, vd, vi l5, vd, vd]) ⟨Or.inr rfl, Or.inr rfl, Or.inr rfl, Or.inr rfl, Or.inl rfl, Or.inr rfl, Or.inl rfl, Or.inl rfl, trivial⟩ ?_
          exact hJ l4 (if_pos (Or.inl ⟨c27, (Or.inr c30)⟩)).symm
        · refine wm_iload d_MM_best_71 rfl ?_
          refine wm_goto (tgt := 78) d_MM_best_73 rfl ?_
          refine wm_less (L' := [vr a0, vi l1, vi l2, vi l3, vd, vi l5, vd, vd]) ⟨Or.inr rfl, Or.inr rfl, Or.inr rfl, Or.inr rfl, Or.inl rfl, Or.inr rfl, Or.inl rfl, Or.inl rfl, trivial⟩ ?_
          exact hJ l5 (if_neg (fun z42 => Or.elim z42 (fun w => (fun z43 => Or.elim z43 (fun w => w c28) c30) w.2) (fun w => w.1 c27))).symm
    · have s40 := s40 c27
      have h31 := s40
      refine wm_lload d_MM_best_53 rfl ?_
      refine wm_lconst (x := 0) d_MM_best_55 rfl ?_
      refine wm_lcmp d_MM_best_56 h31 ⟨by decide, by decide⟩ ?_
      refine wm_if_lt (tgt := 71) d_MM_best_57 rfl (m_cmp32 _ _) (fun c32 => ?_) (fun c32 => ?_)
      · refine wm_iload d_MM_best_71 rfl ?_
        refine wm_goto (tgt := 78) d_MM_best_73 rfl ?_
        refine wm_less (L' := [vr a0, vi l1, vi l2, vi l3, vd, vi l5, vd, vd]) ⟨Or.inr rfl, Or.inr rfl, Or.inr rfl, Or.inr rfl, Or.inl rfl, Or.inr rfl, Or.inl rfl, Or.inl rfl, trivial⟩ ?_
        exact hJ l5 (if_neg (fun z45 => Or.elim z45 (fun w => c27 w.1) (fun w => (fun z46 => z46.1 c32) w.2))).symm
      · refine wm_iload_n d_MM_best_60 rfl rfl ?_
        refine wm_if_ne (tgt := 76) d_MM_best_61 rfl hi_l1 (fun c33 => ?_) (fun c33 => ?_)
        · refine wm_iload d_MM_best_76 rfl ?_
          refine wm_less (L' := [vr a0, vi l1, vi l2, vi l3, vd, vi l5, vd, vd]) ⟨Or.inr rfl, Or.inr rfl, Or.inr rfl, Or.inr rfl, Or.inl rfl, Or.inr rfl, Or.inl rfl, Or.inl rfl, trivial⟩ ?_
          exact hJ l4 (if_pos (Or.inr ⟨c27, ⟨c32, (Or.inl c33)⟩⟩)).symm
        · replace c33 := Classical.not_not.mp c33
          refine wm_lload d_MM_best_64 rfl ?_
          refine wm_lconst (x := 0) d_MM_best_66 rfl ?_
          refine wm_lcmp d_MM_best_67 h31 ⟨by decide, by decide⟩ ?_
          refine wm_if_le (tgt := 76) d_MM_best_68 rfl (m_cmp32 _ _) (fun c34 => ?_) (fun c34 => ?_)
          · refine wm_iload d_MM_best_76 rfl ?_
            refine wm_less (L' := [vr a0, vi l1, vi l2, vi l3, vd, vi l5, vd, vd]) ⟨Or.inr rfl, Or.inr rfl, Or.inr rfl, Or.inr rfl, Or.inl rfl, Or.inr rfl, Or.inl rfl, Or.inl rfl, trivial⟩ ?_
            exact hJ l4 (if_pos (Or.inr ⟨c27, ⟨c32, (Or.inr c34)⟩⟩)).symm
          · refine wm_iload d_MM_best_71 rfl ?_
            refine wm_goto (tgt := 78) d_MM_best_73 rfl ?_
            refine wm_less (L' := [vr a0, vi l1, vi l2, vi l3, vd, vi l5, vd, vd]) ⟨Or.inr rfl, Or.inr rfl, Or.inr rfl, Or.inr rfl, Or.inl rfl, Or.inr rfl, Or.inl rfl, Or.inl rfl, trivial⟩ ?_
            exact hJ l5 (if_neg (fun z47 => Or.elim z47 (fun w => c27 w.1) (fun w => (fun z48 => (fun z49 => Or.elim z49 (fun w => w c33) c34) z48.2) w.2))).symm
theorem d_MM_reckon_0 : decode y_MM_reckon.2.1 0 = .ok (.iload_n 1, 1) := by decide +kernel
theorem d_MM_reckon_1 : decode y_MM_reckon.2.1 1 = .ok (.tableswitch 156 24 27 #[31, 53, 75, 91], 31) := by decide +kernel
theorem d_MM_reckon_32 : decode y_MM_reckon.2.1 32 = .ok (.aload_n 0, 1) := by decide +kernel
theorem d_MM_reckon_33 : decode y_MM_reckon.2.1 33 = .ok (.lload_n 2, 1) := by decide +kernel
theorem d_MM_reckon_34 : decode y_MM_reckon.2.1 34 = .ok (.lload 8, 2) := by decide +kernel
theorem d_MM_reckon_36 : decode y_MM_reckon.2.1 36 = .ok (.lmul, 1) := by decide +kernel
theorem d_MM_reckon_37 : decode y_MM_reckon.2.1 37 = .ok (.lload 6, 2) := by decide +kernel
theorem d_MM_reckon_39 : decode y_MM_reckon.2.1 39 = .ok (.lload 4, 2) := by decide +kernel
theorem d_MM_reckon_41 : decode y_MM_reckon.2.1 41 = .ok (.lmul, 1) := by decide +kernel
theorem d_MM_reckon_42 : decode y_MM_reckon.2.1 42 = .ok (.ladd, 1) := by decide +kernel
theorem d_MM_reckon_43 : decode y_MM_reckon.2.1 43 = .ok (.lload 4, 2) := by decide +kernel
theorem d_MM_reckon_45 : decode y_MM_reckon.2.1 45 = .ok (.lload 8, 2) := by decide +kernel
theorem d_MM_reckon_47 : decode y_MM_reckon.2.1 47 = .ok (.lmul, 1) := by decide +kernel
theorem d_MM_reckon_48 : decode y_MM_reckon.2.1 48 = .ok (.iload 10, 2) := by decide +kernel
theorem d_MM_reckon_50 : decode y_MM_reckon.2.1 50 = .ok (.invokevirtual 423, 3) := by decide +kernel
theorem d_MM_reckon_53 : decode y_MM_reckon.2.1 53 = .ok (.return_, 1) := by decide +kernel
theorem d_MM_reckon_54 : decode y_MM_reckon.2.1 54 = .ok (.aload_n 0, 1) := by decide +kernel
theorem d_MM_reckon_55 : decode y_MM_reckon.2.1 55 = .ok (.lload_n 2, 1) := by decide +kernel
theorem d_MM_reckon_56 : decode y_MM_reckon.2.1 56 = .ok (.lload 8, 2) := by decide +kernel
theorem d_MM_reckon_58 : decode y_MM_reckon.2.1 58 = .ok (.lmul, 1) := by decide +kernel
theorem d_MM_reckon_59 : decode y_MM_reckon.2.1 59 = .ok (.lload 6, 2) := by decide +kernel
theorem d_MM_reckon_61 : decode y_MM_reckon.2.1 61 = .ok (.lload 4, 2) := by decide +kernel
theorem d_MM_reckon_63 : decode y_MM_reckon.2.1 63 = .ok (.lmul, 1) := by decide +kernel
theorem d_MM_reckon_64 : decode y_MM_reckon.2.1 64 = .ok (.lsub, 1) := by decide +kernel
theorem d_MM_reckon_65 : decode y_MM_reckon.2.1 65 = .ok (.lload 4, 2) := by decide +kernel
theorem d_MM_reckon_67 : decode y_MM_reckon.2.1 67 = .ok (.lload 8, 2) := by decide +kernel
theorem d_MM_reckon_69 : decode y_MM_reckon.2.1 69 = .ok (.lmul, 1) := by decide +kernel
theorem d_MM_reckon_70 : decode y_MM_reckon.2.1 70 = .ok (.iload 10, 2) := by decide +kernel
theorem d_MM_reckon_72 : decode y_MM_reckon.2.1 72 = .ok (.invokevirtual 423, 3) := by decide +kernel
theorem d_MM_reckon_75 : decode y_MM_reckon.2.1 75 = .ok (.return_, 1) := by decide +kernel
theorem d_MM_reckon_76 : decode y_MM_reckon.2.1 76 = .ok (.aload_n 0, 1) := by decide +kernel
theorem d_MM_reckon_77 : decode y_MM_reckon.2.1 77 = .ok (.lload_n 2, 1) := by decide +kernel
theorem d_MM_reckon_78 : decode y_MM_reckon.2.1 78 = .ok (.lload 6, 2) := by decide +kernel
theorem d_MM_reckon_80 : decode y_MM_reckon.2.1 80 = .ok (.lmul, 1) := by decide +kernel
theorem d_MM_reckon_81 : decode y_MM_reckon.2.1 81 = .ok (.lload 4, 2) := by decide +kernel
theorem d_MM_reckon_83 : decode y_MM_reckon.2.1 83 = .ok (.lload 8, 2) := by decide +kernel
theorem d_MM_reckon_85 : decode y_MM_reckon.2.1 85 = .ok (.lmul, 1) := by decide +kernel
theorem d_MM_reckon_86 : decode y_MM_reckon.2.1 86 = .ok (.iload 10, 2) := by decide +kernel
theorem d_MM_reckon_88 : decode y_MM_reckon.2.1 88 = .ok (.invokevirtual 423, 3) := by decide +kernel
theorem d_MM_reckon_91 : decode y_MM_reckon.2.1 91 = .ok (.return_, 1) := by decide +kernel
theorem d_MM_reckon_92 : decode y_MM_reckon.2.1 92 = .ok (.lload 6, 2) := by decide +kernel
theorem d_MM_reckon_94 : decode y_MM_reckon.2.1 94 = .ok (.lconst 0, 1) := by decide +kernel
theorem d_MM_reckon_95 : decode y_MM_reckon.2.1 95 = .ok (.lcmp, 1) := by decide +kernel
theorem d_MM_reckon_96 : decode y_MM_reckon.2.1 96 = .ok (.ifCond .ne 14, 3) := by decide +kernel
theorem d_MM_reckon_99 : decode y_MM_reckon.2.1 99 = .ok (.aload_n 0, 1) := by decide +kernel
theorem d_MM_reckon_100 : decode y_MM_reckon.2.1 100 = .ok (.bipush 7, 2) := by decide +kernel
theorem d_MM_reckon_102 : decode y_MM_reckon.2.1 102 = .ok (.iload 10, 2) := by decide +kernel
theorem d_MM_reckon_110 : decode y_MM_reckon.2.1 110 = .ok (.aload_n 0, 1) := by decide +kernel
theorem d_MM_reckon_111 : decode y_MM_reckon.2.1 111 = .ok (.lload 6, 2) := by decide +kernel
theorem d_MM_reckon_113 : decode y_MM_reckon.2.1 113 = .ok (.lconst 0, 1) := by decide +kernel
theorem d_MM_reckon_114 : decode y_MM_reckon.2.1 114 = .ok (.lcmp, 1) := by decide +kernel
theorem d_MM_reckon_104 : decode y_MM_reckon.2.1 104 = .ok (.invokevirtual 351, 3) := by decide +kernel
theorem d_MM_reckon_107 : decode y_MM_reckon.2.1 107 = .ok (.goto 49, 3) := by decide +kernel
theorem d_MM_reckon_115 : decode y_MM_reckon.2.1 115 = .ok (.ifCond .ge 11, 3) := by decide +kernel
theorem d_MM_reckon_126 : decode y_MM_reckon.2.1 126 = .ok (.lload_n 2, 1) := by decide +kernel
theorem d_MM_reckon_127 : decode y_MM_reckon.2.1 127 = .ok (.lload 8, 2) := by decide +kernel
theorem d_MM_reckon_129 : decode y_MM_reckon.2.1 129 = .ok (.lmul, 1) := by decide +kernel
theorem d_MM_reckon_118 : decode y_MM_reckon.2.1 118 = .ok (.lload_n 2, 1) := by decide +kernel
theorem d_MM_reckon_119 : decode y_MM_reckon.2.1 119 = .ok (.lneg, 1) := by decide +kernel
theorem d_MM_reckon_120 : decode y_MM_reckon.2.1 120 = .ok (.lload 8, 2) := by decide +kernel
theorem d_MM_reckon_122 : decode y_MM_reckon.2.1 122 = .ok (.lmul, 1) := by decide +kernel
theorem d_MM_reckon_123 : decode y_MM_reckon.2.1 123 = .ok (.goto 7, 3) := by decide +kernel
theorem d_MM_reckon_130 : decode y_MM_reckon.2.1 130 = .ok (.lload 6, 2) := by decide +kernel
theorem d_MM_reckon_132 : decode y_MM_reckon.2.1 132 = .ok (.lconst 0, 1) := by decide +kernel
theorem d_MM_reckon_133 : decode y_MM_reckon.2.1 133 = .ok (.lcmp, 1) := by decide +kernel
theorem d_MM_reckon_134 : decode y_MM_reckon.2.1 134 = .ok (.ifCond .ge 12, 3) := by decide +kernel
theorem d_MM_reckon_146 : decode y_MM_reckon.2.1 146 = .ok (.lload 6, 2) := by decide +kernel
theorem d_MM_reckon_148 : decode y_MM_reckon.2.1 148 = .ok (.lload 4, 2) := by decide +kernel
theorem d_MM_reckon_150 : decode y_MM_reckon.2.1 150 = .ok (.lmul, 1) := by decide +kernel
theorem d_MM_reckon_137 : decode y_MM_reckon.2.1 137 = .ok (.lload 6, 2) := by decide +kernel
theorem d_MM_reckon_139 : decode y_MM_reckon.2.1 139 = .ok (.lneg, 1) := by decide +kernel
theorem d_MM_reckon_140 : decode y_MM_reckon.2.1 140 = .ok (.lload 4, 2) := by decide +kernel
theorem d_MM_reckon_142 : decode y_MM_reckon.2.1 142 = .ok (.lmul, 1) := by decide +kernel
theorem d_MM_reckon_143 : decode y_MM_reckon.2.1 143 = .ok (.goto 8, 3) := by decide +kernel
theorem d_MM_reckon_151 : decode y_MM_reckon.2.1 151 = .ok (.iload 10, 2) := by decide +kernel
theorem d_MM_reckon_153 : decode y_MM_reckon.2.1 153 = .ok (.invokevirtual 423, 3) := by decide +kernel
theorem d_MM_reckon_157 : decode y_MM_reckon.2.1 157 = .ok (.lload 4, 2) := by decide +kernel
theorem d_MM_reckon_159 : decode y_MM_reckon.2.1 159 = .ok (.lconst 1, 1) := by decide +kernel
theorem d_MM_reckon_160 : decode y_MM_reckon.2.1 160 = .ok (.lcmp, 1) := by decide +kernel
theorem d_MM_reckon_161 : decode y_MM_reckon.2.1 161 = .ok (.ifCond .ne 10, 3) := by decide +kernel
theorem d_MM_reckon_164 : decode y_MM_reckon.2.1 164 = .ok (.lload 8, 2) := by decide +kernel
theorem d_MM_reckon_166 : decode y_MM_reckon.2.1 166 = .ok (.lconst 1, 1) := by decide +kernel
theorem d_MM_reckon_167 : decode y_MM_reckon.2.1 167 = .ok (.lcmp, 1) := by decide +kernel
theorem d_MM_reckon_168 : decode y_MM_reckon.2.1 168 = .ok (.ifCond .eq 14, 3) := by decide +kernel
theorem d_MM_reckon_182 : decode y_MM_reckon.2.1 182 = .ok (.lload 6, 2) := by decide +kernel
theorem d_MM_reckon_184 : decode y_MM_reckon.2.1 184 = .ok (.lconst 0, 1) := by decide +kernel
theorem d_MM_reckon_185 : decode y_MM_reckon.2.1 185 = .ok (.lcmp, 1) := by decide +kernel
theorem d_MM_reckon_186 : decode y_MM_reckon.2.1 186 = .ok (.ifCond .gt 14, 3) := by decide +kernel
theorem d_MM_reckon_200 : decode y_MM_reckon.2.1 200 = .ok (.aload_n 0, 1) := by decide +kernel
theorem d_MM_reckon_201 : decode y_MM_reckon.2.1 201 = .ok (.lload_n 2, 1) := by decide +kernel
theorem d_MM_reckon_202 : decode y_MM_reckon.2.1 202 = .ok (.lload 6, 2) := by decide +kernel
theorem d_MM_reckon_204 : decode y_MM_reckon.2.1 204 = .ok (.lrem, 1) := by decide +kernel
theorem d_MM_reckon_205 : decode y_MM_reckon.2.1 205 = .ok (.lconst 0, 1) := by decide +kernel
theorem d_MM_reckon_206 : decode y_MM_reckon.2.1 206 = .ok (.lcmp, 1) := by decide +kernel
theorem d_MM_reckon_189 : decode y_MM_reckon.2.1 189 = .ok (.aload_n 0, 1) := by decide +kernel
theorem d_MM_reckon_190 : decode y_MM_reckon.2.1 190 = .ok (.bipush 7, 2) := by decide +kernel
theorem d_MM_reckon_192 : decode y_MM_reckon.2.1 192 = .ok (.iload 10, 2) := by decide +kernel
theorem d_MM_reckon_207 : decode y_MM_reckon.2.1 207 = .ok (.ifCond .ge 13, 3) := by decide +kernel
theorem d_MM_reckon_220 : decode y_MM_reckon.2.1 220 = .ok (.lload_n 2, 1) := by decide +kernel
theorem d_MM_reckon_221 : decode y_MM_reckon.2.1 221 = .ok (.lload 6, 2) := by decide +kernel
theorem d_MM_reckon_223 : decode y_MM_reckon.2.1 223 = .ok (.lrem, 1) := by decide +kernel
theorem d_MM_reckon_210 : decode y_MM_reckon.2.1 210 = .ok (.lload_n 2, 1) := by decide +kernel
theorem d_MM_reckon_211 : decode y_MM_reckon.2.1 211 = .ok (.lload 6, 2) := by decide +kernel
theorem d_MM_reckon_213 : decode y_MM_reckon.2.1 213 = .ok (.lrem, 1) := by decide +kernel
theorem d_MM_reckon_214 : decode y_MM_reckon.2.1 214 = .ok (.lload 6, 2) := by decide +kernel
theorem d_MM_reckon_216 : decode y_MM_reckon.2.1 216 = .ok (.ladd, 1) := by decide +kernel
theorem d_MM_reckon_217 : decode y_MM_reckon.2.1 217 = .ok (.goto 7, 3) := by decide +kernel
theorem d_MM_reckon_224 : decode y_MM_reckon.2.1 224 = .ok (.lconst 1, 1) := by decide +kernel
theorem d_MM_reckon_225 : decode y_MM_reckon.2.1 225 = .ok (.invokevirtual 373, 3) := by decide +kernel
theorem d_MM_reckon_194 : decode y_MM_reckon.2.1 194 = .ok (.invokevirtual 351, 3) := by decide +kernel
theorem d_MM_reckon_197 : decode y_MM_reckon.2.1 197 = .ok (.goto 31, 3) := by decide +kernel
theorem d_MM_reckon_171 : decode y_MM_reckon.2.1 171 = .ok (.aload_n 0, 1) := by decide +kernel
theorem d_MM_reckon_172 : decode y_MM_reckon.2.1 172 = .ok (.bipush 8, 2) := by decide +kernel
theorem d_MM_reckon_174 : decode y_MM_reckon.2.1 174 = .ok (.iload 10, 2) := by decide +kernel
theorem d_MM_reckon_176 : decode y_MM_reckon.2.1 176 = .ok (.invokevirtual 351, 3) := by decide +kernel
theorem d_MM_reckon_179 : decode y_MM_reckon.2.1 179 = .ok (.goto 49, 3) := by decide +kernel
theorem d_MM_reckon_156 : decode y_MM_reckon.2.1 156 = .ok (.return_, 1) := by decide +kernel
theorem d_MM_reckon_228 : decode y_MM_reckon.2.1 228 = .ok (.return_, 1) := by decide +kernel
def h_MM_reckon_156 (G : mG) (d : Nat) (M : mM) (Q : mM → Prop) : Prop := mWm G y_MM_reckon (d + 1) 156 [vd, vd, vd, vd, vd, vd, vd, vd, vd, vd, vd] [] M (fun r9 M9 => r9 = none ∧ Q M9)
def h_MM_reckon_228 (G : mG) (d : Nat) (M : mM) (Q : mM → Prop) : Prop := mWm G y_MM_reckon (d + 1) 228 [vd, vd, vd, vd, vd, vd, vd, vd, vd, vd, vd] [] M (fun r9 M9 => r9 = none ∧ Q M9)
theorem k_MM_reckon {G : mG} {d : Nat} {a0 : Nat} {l1 : Int} {j2 : Int} {j4 : Int} {j6 : Int} {j8 : Int} {l10 : Int} {M : mM} {Q : mM → Prop} (hO : mOk M) (hi_l1 : i32 l1) (hi_j2 : i64 j2) (hi_j4 : i64 j4) (hi_j6 : i64 j6) (hi_j8 : i64 j8) (hi_l10 : i32 l10)
    (h : ((l1 = 24) → (mK M a0 = 14 ∧ Cv G y_MM_pushFraction d [vr a0, vl ((j2 * j8) + (j6 * j4)), vl (j4 * j8), vi l10] M (fun M3 => mOk M3 ∧ (Q M3)))) ∧ (¬ (l1 = 24) → (((l1 = 25) → (mK M a0 = 14 ∧ Cv G y_MM_pushFraction d [vr a0, vl ((j2 * j8) - (j6 * j4)), vl (j4 * j8), vi l10] M (fun M8 => mOk M8 ∧ (Q M8)))) ∧ (¬ (l1 = 25) → (((l1 = 26) → (mK M a0 = 14 ∧ Cv G y_MM_pushFraction d [vr a0, vl (j2 * j6), vl (j4 * j8), vi l10] M (fun M13 => mOk M13 ∧ (Q M13)))) ∧ (¬ (l1 = 26) → (((l1 = 27) → (((cmpL j6 0 = 0) → (mK M a0 = 14 ∧ Cv G y_MM_stop d [vr a0, vi 7, vi l10] M (fun M20 => mOk M20 ∧ (h_MM_reckon_156 G d  M20 Q)))) ∧ (¬ (cmpL j6 0 = 0) → (∀ v24 : Int, v24 = (if (0 ≤ cmpL j6 0) then j2 * j8 else (-j2) * j8) → ∀ v28 : Int, v28 = (if (0 ≤ cmpL j6 0) then j6 * j4 else (-j6) * j4) → mK M a0 = 14 ∧ Cv G y_MM_pushFraction d [vr a0, vl v24, vl v28, vi l10] M (fun M32 => mOk M32 ∧ (h_MM_reckon_156 G d  M32 Q)))))) ∧ (¬ (l1 = 27) → ((((cmpL j4 1 = 0) ∧ (cmpL j8 1 = 0)) → (((0 < cmpL j6 0) → (j6 ≠ 0 ∧ (((0 ≤ cmpL (Int.tmod j2 j6) 0) → j6 ≠ 0) ∧ (¬ (0 ≤ cmpL (Int.tmod j2 j6) 0) → j6 ≠ 0)) ∧ ∀ v50 : Int, v50 = (if (0 ≤ cmpL (Int.tmod j2 j6) 0) then Int.tmod j2 j6 else (Int.tmod j2 j6) + j6) → mK M a0 = 14 ∧ Cv G y_MM_push d [vr a0, vl v50, vl 1] M (fun M54 => mOk M54 ∧ (h_MM_reckon_228 G d  M54 Q)))) ∧ (¬ (0 < cmpL j6 0) → (mK M a0 = 14 ∧ Cv G y_MM_stop d [vr a0, vi 7, vi l10] M (fun M61 => mOk M61 ∧ (h_MM_reckon_228 G d  M61 Q)))))) ∧ (¬ ((cmpL j4 1 = 0) ∧ (cmpL j8 1 = 0)) → (mK M a0 = 14 ∧ Cv G y_MM_stop d [vr a0, vi 8, vi l10] M (fun M66 => mOk M66 ∧ (h_MM_reckon_228 G d  M66 Q))))))))))))) :
    Cv G y_MM_reckon (d + 1) [vr a0, vi l1, vl j2, vl j4, vl j6, vl j8, vi l10] M Q := by
  refine wm_open (y := y_MM_reckon) rfl (Nat.le_of_ble_eq_true rfl) (L := [vr a0, vi l1, vl j2, vd, vl j4, vd, vl j6, vd, vl j8, vd, vi l10]) rfl ?_
  refine wm_iload_n d_MM_reckon_0 rfl rfl ?_
  by_cases c1 : l1 = 24
  · replace h := h.1 c1
    refine wm_tableIn (tgt := 32) (off := 31) d_MM_reckon_1 hi_l1 (by omega) (by omega) (by rw [c1]; rfl) rfl ?_
    obtain ⟨h2, h⟩ := h
    refine wm_aload_n d_MM_reckon_32 rfl rfl ?_
    refine wm_lload_n d_MM_reckon_33 rfl rfl ?_
    refine wm_lload d_MM_reckon_34 rfl ?_
    refine wm_lmul d_MM_reckon_36 ?_
    refine wm_lload d_MM_reckon_37 rfl ?_
    refine wm_lload d_MM_reckon_39 rfl ?_
    refine wm_lmul d_MM_reckon_41 ?_
    refine wm_ladd d_MM_reckon_42 ?_
    refine wm_lload d_MM_reckon_43 rfl ?_
    refine wm_lload d_MM_reckon_45 rfl ?_
    refine wm_lmul d_MM_reckon_47 ?_
    refine wm_iload d_MM_reckon_48 rfl ?_
    refine cf_MM_423 rfl d_MM_reckon_50 h2 (Nat.le_of_ble_eq_true rfl) (Cv.mono h (fun M3 h => ?_))
    obtain ⟨hOM3, h⟩ := h
    refine wm_return d_MM_reckon_53 rfl ?_
    exact ⟨rfl, h⟩
  · replace h := h.2 c1
    by_cases c6 : l1 = 25
    · replace h := h.1 c6
      refine wm_tableIn (tgt := 54) (off := 53) d_MM_reckon_1 hi_l1 (by omega) (by omega) (by rw [c6]; rfl) rfl ?_
      obtain ⟨h7, h⟩ := h
      refine wm_aload_n d_MM_reckon_54 rfl rfl ?_
      refine wm_lload_n d_MM_reckon_55 rfl rfl ?_
      refine wm_lload d_MM_reckon_56 rfl ?_
      refine wm_lmul d_MM_reckon_58 ?_
      refine wm_lload d_MM_reckon_59 rfl ?_
      refine wm_lload d_MM_reckon_61 rfl ?_
      refine wm_lmul d_MM_reckon_63 ?_
      refine wm_lsub d_MM_reckon_64 ?_
      refine wm_lload d_MM_reckon_65 rfl ?_
      refine wm_lload d_MM_reckon_67 rfl ?_
      refine wm_lmul d_MM_reckon_69 ?_
      refine wm_iload d_MM_reckon_70 rfl ?_
      refine cf_MM_423 rfl d_MM_reckon_72 h7 (Nat.le_of_ble_eq_true rfl) (Cv.mono h (fun M8 h => ?_))
      obtain ⟨hOM8, h⟩ := h
      refine wm_return d_MM_reckon_75 rfl ?_
      exact ⟨rfl, h⟩
    · replace h := h.2 c6
      by_cases c11 : l1 = 26
      · replace h := h.1 c11
        refine wm_tableIn (tgt := 76) (off := 75) d_MM_reckon_1 hi_l1 (by omega) (by omega) (by rw [c11]; rfl) rfl ?_
        obtain ⟨h12, h⟩ := h
        refine wm_aload_n d_MM_reckon_76 rfl rfl ?_
        refine wm_lload_n d_MM_reckon_77 rfl rfl ?_
        refine wm_lload d_MM_reckon_78 rfl ?_
        refine wm_lmul d_MM_reckon_80 ?_
        refine wm_lload d_MM_reckon_81 rfl ?_
        refine wm_lload d_MM_reckon_83 rfl ?_
        refine wm_lmul d_MM_reckon_85 ?_
        refine wm_iload d_MM_reckon_86 rfl ?_
        refine cf_MM_423 rfl d_MM_reckon_88 h12 (Nat.le_of_ble_eq_true rfl) (Cv.mono h (fun M13 h => ?_))
        obtain ⟨hOM13, h⟩ := h
        refine wm_return d_MM_reckon_91 rfl ?_
        exact ⟨rfl, h⟩
      · replace h := h.2 c11
        by_cases c16 : l1 = 27
        · replace h := h.1 c16
          refine wm_tableIn (tgt := 92) (off := 91) d_MM_reckon_1 hi_l1 (by omega) (by omega) (by rw [c16]; rfl) rfl ?_
          refine wm_lload d_MM_reckon_92 rfl ?_
          refine wm_lconst (x := 0) d_MM_reckon_94 rfl ?_
          refine wm_lcmp d_MM_reckon_95 hi_j6 ⟨by decide, by decide⟩ ?_
          refine wm_if_ne (tgt := 110) d_MM_reckon_96 rfl (m_cmp32 _ _) (fun c18 => ?_) (fun c18 => ?_)
          · replace h := h.2 c18
            refine wm_aload_n d_MM_reckon_110 rfl rfl ?_
            refine wm_lload d_MM_reckon_111 rfl ?_
            refine wm_lconst (x := 0) d_MM_reckon_113 rfl ?_
            refine wm_lcmp d_MM_reckon_114 hi_j6 ⟨by decide, by decide⟩ ?_
            have hJ : ∀ v24 : Int, v24 = (if (0 ≤ cmpL j6 0) then j2 * j8 else (-j2) * j8) → mWm G y_MM_reckon (d + 1) 130 [vd, vd, vd, vd, vl j4, vd, vl j6, vd, vd, vd, vi l10] [vl v24, vr a0] M (fun r9 M9 => r9 = none ∧ Q M9) := by
              intro v24 e26
              have h := h v24 e26
              refine wm_lload d_MM_reckon_130 rfl ?_
              refine wm_lconst (x := 0) d_MM_reckon_132 rfl ?_
              refine wm_lcmp d_MM_reckon_133 hi_j6 ⟨by decide, by decide⟩ ?_
              have hJ : ∀ v28 : Int, v28 = (if (0 ≤ cmpL j6 0) then j6 * j4 else (-j6) * j4) → mWm G y_MM_reckon (d + 1) 151 [vd, vd, vd, vd, vd, vd, vd, vd, vd, vd, vi l10] [vl v28, vl v24, vr a0] M (fun r9 M9 => r9 = none ∧ Q M9) := by
                intro v28 e30
                have h := h v28 e30
                obtain ⟨h31, h⟩ := h
                refine wm_iload d_MM_reckon_151 rfl ?_
                refine cf_MM_423 rfl d_MM_reckon_153 h31 (Nat.le_of_ble_eq_true rfl) (Cv.mono h (fun M32 h => ?_))
                obtain ⟨hOM32, h⟩ := h
                refine wm_less (L' := [vd, vd, vd, vd, vd, vd, vd, vd, vd, vd, vd]) ⟨Or.inl rfl, Or.inl rfl, Or.inl rfl, Or.inl rfl, Or.inl rfl, Or.inl rfl, Or.inl rfl, Or.inl rfl, Or.inl rfl, Or.inl rfl, Or.inl rfl, trivial⟩ ?_
                exact h
              clear h
              refine wm_if_ge (tgt := 146) d_MM_reckon_134 rfl (m_cmp32 _ _) (fun c27 => ?_) (fun c27 => ?_)
              · refine wm_lload d_MM_reckon_146 rfl ?_
                refine wm_lload d_MM_reckon_148 rfl ?_
                refine wm_lmul d_MM_reckon_150 ?_
                refine wm_less (L' := [vd, vd, vd, vd, vd, vd, vd, vd, vd, vd, vi l10]) ⟨Or.inl rfl, Or.inl rfl, Or.inl rfl, Or.inl rfl, Or.inl rfl, Or.inl rfl, Or.inl rfl, Or.inl rfl, Or.inl rfl, Or.inl rfl, Or.inr rfl, trivial⟩ ?_
                exact hJ (j6 * j4) (if_pos c27).symm
              · refine wm_lload d_MM_reckon_137 rfl ?_
                refine wm_lneg d_MM_reckon_139 ?_
                refine wm_lload d_MM_reckon_140 rfl ?_
                refine wm_lmul d_MM_reckon_142 ?_
                refine wm_goto (tgt := 151) d_MM_reckon_143 rfl ?_
                refine wm_less (L' := [vd, vd, vd, vd, vd, vd, vd, vd, vd, vd, vi l10]) ⟨Or.inl rfl, Or.inl rfl, Or.inl rfl, Or.inl rfl, Or.inl rfl, Or.inl rfl, Or.inl rfl, Or.inl rfl, Or.inl rfl, Or.inl rfl, Or.inr rfl, trivial⟩ ?_
                exact hJ ((-j6) * j4) (if_neg c27).symm
            clear h
            refine wm_if_ge (tgt := 126) d_MM_reckon_115 rfl (m_cmp32 _ _) (fun c23 => ?_) (fun c23 => ?_)
            · refine wm_lload_n d_MM_reckon_126 rfl rfl ?_
              refine wm_lload d_MM_reckon_127 rfl ?_
              refine wm_lmul d_MM_reckon_129 ?_
              refine wm_less (L' := [vd, vd, vd, vd, vl j4, vd, vl j6, vd, vd, vd, vi l10]) ⟨Or.inl rfl, Or.inl rfl, Or.inl rfl, Or.inl rfl, Or.inr rfl, Or.inl rfl, Or.inr rfl, Or.inl rfl, Or.inl rfl, Or.inl rfl, Or.inr rfl, trivial⟩ ?_
              exact hJ (j2 * j8) (if_pos c23).symm
            · refine wm_lload_n d_MM_reckon_118 rfl rfl ?_
              refine wm_lneg d_MM_reckon_119 ?_
              refine wm_lload d_MM_reckon_120 rfl ?_
              refine wm_lmul d_MM_reckon_122 ?_
              refine wm_goto (tgt := 130) d_MM_reckon_123 rfl ?_
              refine wm_less (L' := [vd, vd, vd, vd, vl j4, vd, vl j6, vd, vd, vd, vi l10]) ⟨Or.inl rfl, Or.inl rfl, Or.inl rfl, Or.inl rfl, Or.inr rfl, Or.inl rfl, Or.inr rfl, Or.inl rfl, Or.inl rfl, Or.inl rfl, Or.inr rfl, trivial⟩ ?_
              exact hJ ((-j2) * j8) (if_neg c23).symm
          · replace c18 := Classical.not_not.mp c18
            replace h := h.1 c18
            obtain ⟨h19, h⟩ := h
            refine wm_aload_n d_MM_reckon_99 rfl rfl ?_
            refine wm_bipush d_MM_reckon_100 (by decide) ?_
            refine wm_iload d_MM_reckon_102 rfl ?_
            refine cf_MM_351 rfl d_MM_reckon_104 h19 (Nat.le_of_ble_eq_true rfl) (Cv.mono h (fun M20 h => ?_))
            obtain ⟨hOM20, h⟩ := h
            refine wm_goto (tgt := 156) d_MM_reckon_107 rfl ?_
            refine wm_less (L' := [vd, vd, vd, vd, vd, vd, vd, vd, vd, vd, vd]) ⟨Or.inl rfl, Or.inl rfl, Or.inl rfl, Or.inl rfl, Or.inl rfl, Or.inl rfl, Or.inl rfl, Or.inl rfl, Or.inl rfl, Or.inl rfl, Or.inl rfl, trivial⟩ ?_
            exact h
        · replace h := h.2 c16
          refine wm_tableOut (tgt := 157) d_MM_reckon_1 hi_l1 (by omega) rfl ?_
          refine wm_lload d_MM_reckon_157 rfl ?_
          refine wm_lconst (x := 1) d_MM_reckon_159 rfl ?_
          refine wm_lcmp d_MM_reckon_160 hi_j4 ⟨by decide, by decide⟩ ?_
          have hE0 : ((cmpL j4 1 = 0) ∧ (cmpL j8 1 = 0)) → mWm G y_MM_reckon (d + 1) 182 [vr a0, vi l1, vl j2, vd, vl j4, vd, vl j6, vd, vl j8, vd, vi l10] [] M (fun r9 M9 => r9 = none ∧ Q M9) := by
            intro q42
            have h := h.1 q42
            refine wm_lload d_MM_reckon_182 rfl ?_
            refine wm_lconst (x := 0) d_MM_reckon_184 rfl ?_
            refine wm_lcmp d_MM_reckon_185 hi_j6 ⟨by decide, by decide⟩ ?_
            refine wm_if_gt (tgt := 200) d_MM_reckon_186 rfl (m_cmp32 _ _) (fun c45 => ?_) (fun c45 => ?_)
            · replace h := h.1 c45
              obtain ⟨h46, h⟩ := h
              refine wm_aload_n d_MM_reckon_200 rfl rfl ?_
              refine wm_lload_n d_MM_reckon_201 rfl rfl ?_
              refine wm_lload d_MM_reckon_202 rfl ?_
              refine wm_lrem d_MM_reckon_204 hi_j2 hi_j6 h46 ?_
              refine wm_lconst (x := 0) d_MM_reckon_205 rfl ?_
              refine wm_lcmp d_MM_reckon_206 (m_tmod64 hi_j2 hi_j6) ⟨by decide, by decide⟩ ?_
              obtain ⟨s51, h⟩ := h
              have hJ : ∀ v50 : Int, v50 = (if (0 ≤ cmpL (Int.tmod j2 j6) 0) then Int.tmod j2 j6 else (Int.tmod j2 j6) + j6) → mWm G y_MM_reckon (d + 1) 224 [vd, vd, vd, vd, vd, vd, vd, vd, vd, vd, vd] [vl v50, vr a0] M (fun r9 M9 => r9 = none ∧ Q M9) := by
                intro v50 e52
                have h := h v50 e52
                obtain ⟨h53, h⟩ := h
                refine wm_lconst (x := 1) d_MM_reckon_224 rfl ?_
                refine cf_MM_373 rfl d_MM_reckon_225 h53 (Nat.le_of_ble_eq_true rfl) (Cv.mono h (fun M54 h => ?_))
                obtain ⟨hOM54, h⟩ := h
                exact h
              clear h
              obtain ⟨s57, s58⟩ := s51
              refine wm_if_ge (tgt := 220) d_MM_reckon_207 rfl (m_cmp32 _ _) (fun c47 => ?_) (fun c47 => ?_)
              · have s57 := s57 c47
                have h48 := s57
                refine wm_lload_n d_MM_reckon_220 rfl rfl ?_
                refine wm_lload d_MM_reckon_221 rfl ?_
                refine wm_lrem d_MM_reckon_223 hi_j2 hi_j6 h48 ?_
                refine wm_less (L' := [vd, vd, vd, vd, vd, vd, vd, vd, vd, vd, vd]) ⟨Or.inl rfl, Or.inl rfl, Or.inl rfl, Or.inl rfl, Or.inl rfl, Or.inl rfl, Or.inl rfl, Or.inl rfl, Or.inl rfl, Or.inl rfl, Or.inl rfl, trivial⟩ ?_
                exact hJ (Int.tmod j2 j6) (if_pos c47).symm
              · have s58 := s58 c47
                have h49 := s58
                refine wm_lload_n d_MM_reckon_210 rfl rfl ?_
                refine wm_lload d_MM_reckon_211 rfl ?_
                refine wm_lrem d_MM_reckon_213 hi_j2 hi_j6 h49 ?_
                refine wm_lload d_MM_reckon_214 rfl ?_
                refine wm_ladd d_MM_reckon_216 ?_
                refine wm_goto (tgt := 224) d_MM_reckon_217 rfl ?_
                refine wm_less (L' := [vd, vd, vd, vd, vd, vd, vd, vd, vd, vd, vd]) ⟨Or.inl rfl, Or.inl rfl, Or.inl rfl, Or.inl rfl, Or.inl rfl, Or.inl rfl, Or.inl rfl, Or.inl rfl, Or.inl rfl, Or.inl rfl, Or.inl rfl, trivial⟩ ?_
                exact hJ ((Int.tmod j2 j6) + j6) (if_neg c47).symm
            · replace h := h.2 c45
              obtain ⟨h60, h⟩ := h
              refine wm_aload_n d_MM_reckon_189 rfl rfl ?_
              refine wm_bipush d_MM_reckon_190 (by decide) ?_
              refine wm_iload d_MM_reckon_192 rfl ?_
              refine cf_MM_351 rfl d_MM_reckon_194 h60 (Nat.le_of_ble_eq_true rfl) (Cv.mono h (fun M61 h => ?_))
              obtain ⟨hOM61, h⟩ := h
              refine wm_goto (tgt := 228) d_MM_reckon_197 rfl ?_
              refine wm_less (L' := [vd, vd, vd, vd, vd, vd, vd, vd, vd, vd, vd]) ⟨Or.inl rfl, Or.inl rfl, Or.inl rfl, Or.inl rfl, Or.inl rfl, Or.inl rfl, Or.inl rfl, Or.inl rfl, Or.inl rfl, Or.inl rfl, Or.inl rfl, trivial⟩ ?_
              exact h
          have hE1 : ¬ ((cmpL j4 1 = 0) ∧ (cmpL j8 1 = 0)) → mWm G y_MM_reckon (d + 1) 171 [vr a0, vi l1, vl j2, vd, vl j4, vd, vl j6, vd, vl j8, vd, vi l10] [] M (fun r9 M9 => r9 = none ∧ Q M9) := by
            intro q64
            have h := h.2 q64
            obtain ⟨h65, h⟩ := h
            refine wm_aload_n d_MM_reckon_171 rfl rfl ?_
            refine wm_bipush d_MM_reckon_172 (by decide) ?_
            refine wm_iload d_MM_reckon_174 rfl ?_
            refine cf_MM_351 rfl d_MM_reckon_176 h65 (Nat.le_of_ble_eq_true rfl) (Cv.mono h (fun M66 h => ?_))
            obtain ⟨hOM66, h⟩ := h
            refine wm_goto (tgt := 228) d_MM_reckon_179 rfl ?_
            refine wm_less (L' := [vd, vd, vd, vd, vd, vd, vd, vd, vd, vd, vd]) ⟨Or.inl rfl, Or.inl rfl, Or.inl rfl, Or.inl rfl, Or.inl rfl, Or.inl rfl, Or.inl rfl, Or.inl rfl, Or.inl rfl, Or.inl rfl, Or.inl rfl, trivial⟩ ?_
            exact h
          clear h
          refine wm_if_ne (tgt := 171) d_MM_reckon_161 rfl (m_cmp32 _ _) (fun c40 => ?_) (fun c40 => ?_)
          · exact hE1 (fun z71 => c40 z71.1)
          · replace c40 := Classical.not_not.mp c40
            refine wm_lload d_MM_reckon_164 rfl ?_
            refine wm_lconst (x := 1) d_MM_reckon_166 rfl ?_
            refine wm_lcmp d_MM_reckon_167 hi_j8 ⟨by decide, by decide⟩ ?_
            refine wm_if_eq (tgt := 182) d_MM_reckon_168 rfl (m_cmp32 _ _) (fun c39 => ?_) (fun c39 => ?_)
            · exact hE0 ⟨c40, c39⟩
            · exact hE1 (fun z69 => c39 z69.2)
theorem k_MM_reckon_156 {G : mG} {d : Nat} {M : mM} {Q : mM → Prop} (hO : mOk M)
    (h : Q M) :
    h_MM_reckon_156 G d  M Q := by
  unfold h_MM_reckon_156
  refine wm_return d_MM_reckon_156 rfl ?_
  exact ⟨rfl, h⟩
theorem k_MM_reckon_228 {G : mG} {d : Nat} {M : mM} {Q : mM → Prop} (hO : mOk M)
    (h : Q M) :
    h_MM_reckon_228 G d  M Q := by
  unfold h_MM_reckon_228
  refine wm_return d_MM_reckon_228 rfl ?_
  exact ⟨rfl, h⟩
theorem d_MM_until_0 : decode y_MM_until.2.1 0 = .ok (.iconst 0, 1) := by decide +kernel
theorem d_MM_until_1 : decode y_MM_until.2.1 1 = .ok (.istore_n 3, 1) := by decide +kernel
theorem d_MM_until_2 : decode y_MM_until.2.1 2 = .ok (.iconst 0, 1) := by decide +kernel
theorem d_MM_until_3 : decode y_MM_until.2.1 3 = .ok (.istore 4, 2) := by decide +kernel
theorem d_MM_until_5 : decode y_MM_until.2.1 5 = .ok (.iload_n 1, 1) := by decide +kernel
theorem d_MM_until_6 : decode y_MM_until.2.1 6 = .ok (.istore 5, 2) := by decide +kernel
theorem d_MM_until_8 : decode y_MM_until.2.1 8 = .ok (.aload_n 0, 1) := by decide +kernel
theorem d_MM_until_9 : decode y_MM_until.2.1 9 = .ok (.iload 5, 2) := by decide +kernel
theorem d_MM_until_11 : decode y_MM_until.2.1 11 = .ok (.invokevirtual 302, 3) := by decide +kernel
theorem d_MM_until_14 : decode y_MM_until.2.1 14 = .ok (.iload_n 2, 1) := by decide +kernel
theorem d_MM_until_15 : decode y_MM_until.2.1 15 = .ok (.if_icmp .ne 12, 3) := by decide +kernel
theorem d_MM_until_18 : decode y_MM_until.2.1 18 = .ok (.iload_n 3, 1) := by decide +kernel
theorem d_MM_until_19 : decode y_MM_until.2.1 19 = .ok (.ifCond .gt 8, 3) := by decide +kernel
theorem d_MM_until_22 : decode y_MM_until.2.1 22 = .ok (.iload 4, 2) := by decide +kernel
theorem d_MM_until_24 : decode y_MM_until.2.1 24 = .ok (.ifCond .le 86, 3) := by decide +kernel
theorem d_MM_until_110 : decode y_MM_until.2.1 110 = .ok (.iload 5, 2) := by decide +kernel
theorem d_MM_until_112 : decode y_MM_until.2.1 112 = .ok (.ireturn, 1) := by decide +kernel
theorem d_MM_until_27 : decode y_MM_until.2.1 27 = .ok (.aload_n 0, 1) := by decide +kernel
theorem d_MM_until_28 : decode y_MM_until.2.1 28 = .ok (.iload 5, 2) := by decide +kernel
theorem d_MM_until_30 : decode y_MM_until.2.1 30 = .ok (.invokevirtual 302, 3) := by decide +kernel
theorem d_MM_until_33 : decode y_MM_until.2.1 33 = .ok (.istore 6, 2) := by decide +kernel
theorem d_MM_until_35 : decode y_MM_until.2.1 35 = .ok (.iload 6, 2) := by decide +kernel
theorem d_MM_until_37 : decode y_MM_until.2.1 37 = .ok (.bipush 36, 2) := by decide +kernel
theorem d_MM_until_39 : decode y_MM_until.2.1 39 = .ok (.if_icmp .ne 9, 3) := by decide +kernel
theorem d_MM_until_42 : decode y_MM_until.2.1 42 = .ok (.iload_n 3, 1) := by decide +kernel
theorem d_MM_until_43 : decode y_MM_until.2.1 43 = .ok (.iconst 1, 1) := by decide +kernel
theorem d_MM_until_44 : decode y_MM_until.2.1 44 = .ok (.iadd, 1) := by decide +kernel
theorem d_MM_until_45 : decode y_MM_until.2.1 45 = .ok (.goto 17, 3) := by decide +kernel
theorem d_MM_until_48 : decode y_MM_until.2.1 48 = .ok (.iload 6, 2) := by decide +kernel
theorem d_MM_until_50 : decode y_MM_until.2.1 50 = .ok (.bipush 37, 2) := by decide +kernel
theorem d_MM_until_52 : decode y_MM_until.2.1 52 = .ok (.if_icmp .ne 9, 3) := by decide +kernel
theorem d_MM_until_55 : decode y_MM_until.2.1 55 = .ok (.iload_n 3, 1) := by decide +kernel
theorem d_MM_until_56 : decode y_MM_until.2.1 56 = .ok (.iconst 1, 1) := by decide +kernel
theorem d_MM_until_57 : decode y_MM_until.2.1 57 = .ok (.isub, 1) := by decide +kernel
theorem d_MM_until_58 : decode y_MM_until.2.1 58 = .ok (.goto 4, 3) := by decide +kernel
theorem d_MM_until_61 : decode y_MM_until.2.1 61 = .ok (.iload_n 3, 1) := by decide +kernel
theorem d_MM_until_62 : decode y_MM_until.2.1 62 = .ok (.istore_n 3, 1) := by decide +kernel
theorem d_MM_until_63 : decode y_MM_until.2.1 63 = .ok (.iload_n 3, 1) := by decide +kernel
theorem d_MM_until_64 : decode y_MM_until.2.1 64 = .ok (.ifCond .le 8, 3) := by decide +kernel
theorem d_MM_until_72 : decode y_MM_until.2.1 72 = .ok (.iload 6, 2) := by decide +kernel
theorem d_MM_until_74 : decode y_MM_until.2.1 74 = .ok (.bipush 32, 2) := by decide +kernel
theorem d_MM_until_76 : decode y_MM_until.2.1 76 = .ok (.if_icmp .ne 10, 3) := by decide +kernel
theorem d_MM_until_79 : decode y_MM_until.2.1 79 = .ok (.iload 4, 2) := by decide +kernel
theorem d_MM_until_81 : decode y_MM_until.2.1 81 = .ok (.iconst 1, 1) := by decide +kernel
theorem d_MM_until_82 : decode y_MM_until.2.1 82 = .ok (.iadd, 1) := by decide +kernel
theorem d_MM_until_83 : decode y_MM_until.2.1 83 = .ok (.goto 19, 3) := by decide +kernel
theorem d_MM_until_86 : decode y_MM_until.2.1 86 = .ok (.iload 6, 2) := by decide +kernel
theorem d_MM_until_88 : decode y_MM_until.2.1 88 = .ok (.bipush 33, 2) := by decide +kernel
theorem d_MM_until_90 : decode y_MM_until.2.1 90 = .ok (.if_icmp .ne 10, 3) := by decide +kernel
theorem d_MM_until_93 : decode y_MM_until.2.1 93 = .ok (.iload 4, 2) := by decide +kernel
theorem d_MM_until_95 : decode y_MM_until.2.1 95 = .ok (.iconst 1, 1) := by decide +kernel
theorem d_MM_until_96 : decode y_MM_until.2.1 96 = .ok (.isub, 1) := by decide +kernel
theorem d_MM_until_97 : decode y_MM_until.2.1 97 = .ok (.goto 5, 3) := by decide +kernel
theorem d_MM_until_100 : decode y_MM_until.2.1 100 = .ok (.iload 4, 2) := by decide +kernel
theorem d_MM_until_67 : decode y_MM_until.2.1 67 = .ok (.iload 4, 2) := by decide +kernel
theorem d_MM_until_69 : decode y_MM_until.2.1 69 = .ok (.goto 33, 3) := by decide +kernel
theorem d_MM_until_102 : decode y_MM_until.2.1 102 = .ok (.istore 4, 2) := by decide +kernel
theorem d_MM_until_104 : decode y_MM_until.2.1 104 = .ok (.iinc 5 1, 3) := by decide +kernel
theorem d_MM_until_107 : decode y_MM_until.2.1 107 = .ok (.goto (-99), 3) := by decide +kernel
def h_MM_until_8 (G : mG) (d : Nat) (a0 : Nat) (l2 : Int) (l3 : Int) (l4 : Int) (l5 : Int) (M : mM) (Q : Int → mM → Prop) : Prop := mWm G y_MM_until (d + 1) 8 [vr a0, vd, vi l2, vi l3, vi l4, vi l5, vd] [] M (fun r9 M9 => ∃ x9, r9 = some (vi x9) ∧ Q x9 M9)
theorem k_MM_until {G : mG} {d : Nat} {a0 : Nat} {l1 : Int} {l2 : Int} {M : mM} {Q : Int → mM → Prop} (hO : mOk M) (hi_l1 : i32 l1) (hi_l2 : i32 l2)
    (h : h_MM_until_8 G d a0 l2 0 0 l1 M Q) :
    Ci G y_MM_until (d + 1) [vr a0, vi l1, vi l2] M Q := by
  refine wm_open (y := y_MM_until) rfl (Nat.le_of_ble_eq_true rfl) (L := [vr a0, vi l1, vi l2, vd, vd, vd, vd]) rfl ?_
  refine wm_iconst d_MM_until_0 ?_
  refine wm_istore_n d_MM_until_1 rfl (by decide) (L' := [vr a0, vi l1, vi l2, vi 0, vd, vd, vd]) rfl ?_
  refine wm_iconst d_MM_until_2 ?_
  refine wm_istore d_MM_until_3 (by decide) (L' := [vr a0, vi l1, vi l2, vi 0, vi 0, vd, vd]) rfl ?_
  refine wm_iload_n d_MM_until_5 rfl rfl ?_
  refine wm_istore d_MM_until_6 (by decide) (L' := [vr a0, vi l1, vi l2, vi 0, vi 0, vi l1, vd]) rfl ?_
  refine wm_less (L' := [vr a0, vd, vi l2, vi 0, vi 0, vi l1, vd]) ⟨Or.inr rfl, Or.inl rfl, Or.inr rfl, Or.inr rfl, Or.inr rfl, Or.inr rfl, Or.inl rfl, trivial⟩ ?_
  exact h
theorem k_MM_until_8 {G : mG} {d : Nat} {a0 : Nat} {l2 : Int} {l3 : Int} {l4 : Int} {l5 : Int} {M : mM} {Q : Int → mM → Prop} (hO : mOk M) (hi_l2 : i32 l2) (hi_l3 : i32 l3) (hi_l4 : i32 l4) (hi_l5 : i32 l5)
    (h : mK M a0 = 14 ∧ Ci G y_MM_word1 d [vr a0, vi l5] M (fun x3 M2 => i32 x3 ∧ mOk M2 ∧ ((((¬ (x3 = l2)) ∨ ((0 < l3) ∨ (¬ (l4 ≤ 0)))) → (mK M2 a0 = 14 ∧ Ci G y_MM_word1 d [vr a0, vi l5] M2 (fun x12 M11 => i32 x12 ∧ mOk M11 ∧ (∀ v16 : Int, v16 = (if x12 = 36 then l3 + 1 else (if x12 = 37 then l3 - 1 else l3)) → i32 v16 ∧ ∀ v23 : Int, v23 = (if v16 ≤ 0 then (if x12 = 32 then l4 + 1 else (if x12 = 33 then l4 - 1 else l4)) else l4) → h_MM_until_8 G d a0 l2 v16 v23 (l5 + 1) M11 Q)))) ∧ (¬ ((¬ (x3 = l2)) ∨ ((0 < l3) ∨ (¬ (l4 ≤ 0)))) → (Q l5 M2))))) :
    h_MM_until_8 G d a0 l2 l3 l4 l5 M Q := by
  unfold h_MM_until_8
  obtain ⟨h1, h⟩ := h
  refine wm_aload_n d_MM_until_8 rfl rfl ?_
  refine wm_iload d_MM_until_9 rfl ?_
  refine cf_MM_302 rfl d_MM_until_11 h1 (Nat.le_of_ble_eq_true rfl) (Ci.mono h (fun x3 M2 h => ?_))
  obtain ⟨h4, hOM2, h⟩ := h
  refine wm_iload_n d_MM_until_14 rfl rfl ?_
  have hE0 : ((¬ (x3 = l2)) ∨ ((0 < l3) ∨ (¬ (l4 ≤ 0)))) → mWm G y_MM_until (d + 1) 27 [vr a0, vd, vi l2, vi l3, vi l4, vi l5, vd] [] M2 (fun r9 M9 => ∃ x9, r9 = some (vi x9) ∧ Q x9 M9) := by
    intro q9
    have h := h.1 q9
    obtain ⟨h10, h⟩ := h
    refine wm_aload_n d_MM_until_27 rfl rfl ?_
    refine wm_iload d_MM_until_28 rfl ?_
    refine cf_MM_302 rfl d_MM_until_30 h10 (Nat.le_of_ble_eq_true rfl) (Ci.mono h (fun x12 M11 h => ?_))
    obtain ⟨h13, hOM11, h⟩ := h
    refine wm_istore d_MM_until_33 (by decide) (L' := [vr a0, vd, vi l2, vi l3, vi l4, vi l5, vi x12]) rfl ?_
    refine wm_iload d_MM_until_35 rfl ?_
    refine wm_bipush d_MM_until_37 (by decide) ?_
    have hJ : ∀ v16 : Int, v16 = (if x12 = 36 then l3 + 1 else (if x12 = 37 then l3 - 1 else l3)) → mWm G y_MM_until (d + 1) 62 [vr a0, vd, vi l2, vd, vi l4, vi l5, vi x12] [vi v16] M11 (fun r9 M9 => ∃ x9, r9 = some (vi x9) ∧ Q x9 M9) := by
      intro v16 e18
      have h := h v16 e18
      obtain ⟨h19, h⟩ := h
      refine wm_istore_n d_MM_until_62 rfl (by decide) (L' := [vr a0, vd, vi l2, vi v16, vi l4, vi l5, vi x12]) rfl ?_
      refine wm_iload_n d_MM_until_63 rfl rfl ?_
      have hJ : ∀ v23 : Int, v23 = (if v16 ≤ 0 then (if x12 = 32 then l4 + 1 else (if x12 = 33 then l4 - 1 else l4)) else l4) → mWm G y_MM_until (d + 1) 102 [vr a0, vd, vi l2, vi v16, vd, vi l5, vd] [vi v23] M11 (fun r9 M9 => ∃ x9, r9 = some (vi x9) ∧ Q x9 M9) := by
        intro v23 e25
        have h := h v23 e25
        refine wm_istore d_MM_until_102 (by decide) (L' := [vr a0, vd, vi l2, vi v16, vi v23, vi l5, vd]) rfl ?_
        refine wm_iinc d_MM_until_104 (by decide) rfl (L' := [vr a0, vd, vi l2, vi v16, vi v23, vi (l5 + 1), vd]) rfl ?_
        refine wm_goto (tgt := 8) d_MM_until_107 rfl ?_
        exact h
      clear h
      refine wm_if_le (tgt := 72) d_MM_until_64 rfl h19 (fun c20 => ?_) (fun c20 => ?_)
      · refine wm_iload d_MM_until_72 rfl ?_
        refine wm_bipush d_MM_until_74 (by decide) ?_
        refine wm_icmp_ne (tgt := 86) d_MM_until_76 rfl h13 ⟨by decide, by decide⟩ (fun c21 => ?_) (fun c21 => ?_)
        · refine wm_iload d_MM_until_86 rfl ?_
          refine wm_bipush d_MM_until_88 (by decide) ?_
          refine wm_icmp_ne (tgt := 100) d_MM_until_90 rfl h13 ⟨by decide, by decide⟩ (fun c22 => ?_) (fun c22 => ?_)
          · refine wm_iload d_MM_until_100 rfl ?_
            refine wm_less (L' := [vr a0, vd, vi l2, vi v16, vd, vi l5, vd]) ⟨Or.inr rfl, Or.inl rfl, Or.inr rfl, Or.inr rfl, Or.inl rfl, Or.inr rfl, Or.inl rfl, trivial⟩ ?_
            exact hJ l4 (by rw [if_pos c20, if_neg c21, if_neg c22])
          · replace c22 := Classical.not_not.mp c22
            refine wm_iload d_MM_until_93 rfl ?_
            refine wm_iconst d_MM_until_95 ?_
            refine wm_isub d_MM_until_96 ?_
            refine wm_goto (tgt := 102) d_MM_until_97 rfl ?_
            refine wm_less (L' := [vr a0, vd, vi l2, vi v16, vd, vi l5, vd]) ⟨Or.inr rfl, Or.inl rfl, Or.inr rfl, Or.inr rfl, Or.inl rfl, Or.inr rfl, Or.inl rfl, trivial⟩ ?_
            exact hJ (l4 - 1) (by rw [if_pos c20, if_neg c21, if_pos c22])
        · replace c21 := Classical.not_not.mp c21
          refine wm_iload d_MM_until_79 rfl ?_
          refine wm_iconst d_MM_until_81 ?_
          refine wm_iadd d_MM_until_82 ?_
          refine wm_goto (tgt := 102) d_MM_until_83 rfl ?_
          refine wm_less (L' := [vr a0, vd, vi l2, vi v16, vd, vi l5, vd]) ⟨Or.inr rfl, Or.inl rfl, Or.inr rfl, Or.inr rfl, Or.inl rfl, Or.inr rfl, Or.inl rfl, trivial⟩ ?_
          exact hJ (l4 + 1) (by rw [if_pos c20, if_pos c21])
      · refine wm_iload d_MM_until_67 rfl ?_
        refine wm_goto (tgt := 102) d_MM_until_69 rfl ?_
        refine wm_less (L' := [vr a0, vd, vi l2, vi v16, vd, vi l5, vd]) ⟨Or.inr rfl, Or.inl rfl, Or.inr rfl, Or.inr rfl, Or.inl rfl, Or.inr rfl, Or.inl rfl, trivial⟩ ?_
        exact hJ l4 (by rw [if_neg c20])
    clear h
    refine wm_icmp_ne (tgt := 48) d_MM_until_39 rfl h13 ⟨by decide, by decide⟩ (fun c14 => ?_) (fun c14 => ?_)
    · refine wm_iload d_MM_until_48 rfl ?_
      refine wm_bipush d_MM_until_50 (by decide) ?_
      refine wm_icmp_ne (tgt := 61) d_MM_until_52 rfl h13 ⟨by decide, by decide⟩ (fun c15 => ?_) (fun c15 => ?_)
      · refine wm_iload_n d_MM_until_61 rfl rfl ?_
        refine wm_less (L' := [vr a0, vd, vi l2, vd, vi l4, vi l5, vi x12]) ⟨Or.inr rfl, Or.inl rfl, Or.inr rfl, Or.inl rfl, Or.inr rfl, Or.inr rfl, Or.inr rfl, trivial⟩ ?_
        exact hJ l3 (by rw [if_neg c14, if_neg c15])
      · replace c15 := Classical.not_not.mp c15
        refine wm_iload_n d_MM_until_55 rfl rfl ?_
        refine wm_iconst d_MM_until_56 ?_
        refine wm_isub d_MM_until_57 ?_
        refine wm_goto (tgt := 62) d_MM_until_58 rfl ?_
        refine wm_less (L' := [vr a0, vd, vi l2, vd, vi l4, vi l5, vi x12]) ⟨Or.inr rfl, Or.inl rfl, Or.inr rfl, Or.inl rfl, Or.inr rfl, Or.inr rfl, Or.inr rfl, trivial⟩ ?_
        exact hJ (l3 - 1) (by rw [if_neg c14, if_pos c15])
    · replace c14 := Classical.not_not.mp c14
      refine wm_iload_n d_MM_until_42 rfl rfl ?_
      refine wm_iconst d_MM_until_43 ?_
      refine wm_iadd d_MM_until_44 ?_
      refine wm_goto (tgt := 62) d_MM_until_45 rfl ?_
      refine wm_less (L' := [vr a0, vd, vi l2, vd, vi l4, vi l5, vi x12]) ⟨Or.inr rfl, Or.inl rfl, Or.inr rfl, Or.inl rfl, Or.inr rfl, Or.inr rfl, Or.inr rfl, trivial⟩ ?_
      exact hJ (l3 + 1) (by rw [if_pos c14])
  have hE1 : ¬ ((¬ (x3 = l2)) ∨ ((0 < l3) ∨ (¬ (l4 ≤ 0)))) → mWm G y_MM_until (d + 1) 110 [vr a0, vd, vi l2, vi l3, vi l4, vi l5, vd] [] M2 (fun r9 M9 => ∃ x9, r9 = some (vi x9) ∧ Q x9 M9) := by
    intro q26
    have h := h.2 q26
    refine wm_iload d_MM_until_110 rfl ?_
    refine wm_ireturn d_MM_until_112 rfl rfl ?_
    exact ⟨_, rfl, h⟩
  clear h
  refine wm_icmp_ne (tgt := 27) d_MM_until_15 rfl h4 hi_l2 (fun c7 => ?_) (fun c7 => ?_)
  · exact hE0 (Or.inl c7)
  · replace c7 := Classical.not_not.mp c7
    refine wm_iload_n d_MM_until_18 rfl rfl ?_
    refine wm_if_gt (tgt := 27) d_MM_until_19 rfl hi_l3 (fun c6 => ?_) (fun c6 => ?_)
    · exact hE0 (Or.inr (Or.inl c6))
    · refine wm_iload d_MM_until_22 rfl ?_
      refine wm_if_le (tgt := 110) d_MM_until_24 rfl hi_l4 (fun c5 => ?_) (fun c5 => ?_)
      · exact hE1 (fun z27 => Or.elim z27 (fun w => w c7) (fun z28 => Or.elim z28 c6 (fun z29 => z29 c5)))
      · exact hE0 (Or.inr (Or.inr c5))
theorem d_MM_closeOf_0 : decode y_MM_closeOf.2.1 0 = .ok (.iconst 0, 1) := by decide +kernel
theorem d_MM_closeOf_1 : decode y_MM_closeOf.2.1 1 = .ok (.istore_n 2, 1) := by decide +kernel
theorem d_MM_closeOf_2 : decode y_MM_closeOf.2.1 2 = .ok (.iload_n 1, 1) := by decide +kernel
theorem d_MM_closeOf_3 : decode y_MM_closeOf.2.1 3 = .ok (.istore_n 3, 1) := by decide +kernel
theorem d_MM_closeOf_4 : decode y_MM_closeOf.2.1 4 = .ok (.aload_n 0, 1) := by decide +kernel
theorem d_MM_closeOf_5 : decode y_MM_closeOf.2.1 5 = .ok (.iload_n 3, 1) := by decide +kernel
theorem d_MM_closeOf_6 : decode y_MM_closeOf.2.1 6 = .ok (.invokevirtual 302, 3) := by decide +kernel
theorem d_MM_closeOf_9 : decode y_MM_closeOf.2.1 9 = .ok (.bipush 36, 2) := by decide +kernel
theorem d_MM_closeOf_11 : decode y_MM_closeOf.2.1 11 = .ok (.if_icmp .ne 9, 3) := by decide +kernel
theorem d_MM_closeOf_14 : decode y_MM_closeOf.2.1 14 = .ok (.iload_n 2, 1) := by decide +kernel
theorem d_MM_closeOf_15 : decode y_MM_closeOf.2.1 15 = .ok (.iconst 1, 1) := by decide +kernel
theorem d_MM_closeOf_16 : decode y_MM_closeOf.2.1 16 = .ok (.iadd, 1) := by decide +kernel
theorem d_MM_closeOf_17 : decode y_MM_closeOf.2.1 17 = .ok (.goto 20, 3) := by decide +kernel
theorem d_MM_closeOf_20 : decode y_MM_closeOf.2.1 20 = .ok (.aload_n 0, 1) := by decide +kernel
theorem d_MM_closeOf_21 : decode y_MM_closeOf.2.1 21 = .ok (.iload_n 3, 1) := by decide +kernel
theorem d_MM_closeOf_37 : decode y_MM_closeOf.2.1 37 = .ok (.istore_n 2, 1) := by decide +kernel
theorem d_MM_closeOf_38 : decode y_MM_closeOf.2.1 38 = .ok (.iinc 3 1, 3) := by decide +kernel
theorem d_MM_closeOf_41 : decode y_MM_closeOf.2.1 41 = .ok (.iload_n 2, 1) := by decide +kernel
theorem d_MM_closeOf_42 : decode y_MM_closeOf.2.1 42 = .ok (.ifCond .gt (-38), 3) := by decide +kernel
theorem d_MM_closeOf_45 : decode y_MM_closeOf.2.1 45 = .ok (.iload_n 3, 1) := by decide +kernel
theorem d_MM_closeOf_46 : decode y_MM_closeOf.2.1 46 = .ok (.iconst 1, 1) := by decide +kernel
theorem d_MM_closeOf_47 : decode y_MM_closeOf.2.1 47 = .ok (.isub, 1) := by decide +kernel
theorem d_MM_closeOf_48 : decode y_MM_closeOf.2.1 48 = .ok (.ireturn, 1) := by decide +kernel
theorem d_MM_closeOf_22 : decode y_MM_closeOf.2.1 22 = .ok (.invokevirtual 302, 3) := by decide +kernel
theorem d_MM_closeOf_25 : decode y_MM_closeOf.2.1 25 = .ok (.bipush 37, 2) := by decide +kernel
theorem d_MM_closeOf_27 : decode y_MM_closeOf.2.1 27 = .ok (.if_icmp .ne 9, 3) := by decide +kernel
theorem d_MM_closeOf_30 : decode y_MM_closeOf.2.1 30 = .ok (.iload_n 2, 1) := by decide +kernel
theorem d_MM_closeOf_31 : decode y_MM_closeOf.2.1 31 = .ok (.iconst 1, 1) := by decide +kernel
theorem d_MM_closeOf_32 : decode y_MM_closeOf.2.1 32 = .ok (.isub, 1) := by decide +kernel
theorem d_MM_closeOf_33 : decode y_MM_closeOf.2.1 33 = .ok (.goto 4, 3) := by decide +kernel
theorem d_MM_closeOf_36 : decode y_MM_closeOf.2.1 36 = .ok (.iload_n 2, 1) := by decide +kernel
def h_MM_closeOf_4 (G : mG) (d : Nat) (a0 : Nat) (l2 : Int) (l3 : Int) (M : mM) (Q : Int → mM → Prop) : Prop := mWm G y_MM_closeOf (d + 1) 4 [vr a0, vd, vi l2, vi l3] [] M (fun r9 M9 => ∃ x9, r9 = some (vi x9) ∧ Q x9 M9)
theorem k_MM_closeOf {G : mG} {d : Nat} {a0 : Nat} {l1 : Int} {M : mM} {Q : Int → mM → Prop} (hO : mOk M) (hi_l1 : i32 l1)
    (h : h_MM_closeOf_4 G d a0 0 l1 M Q) :
    Ci G y_MM_closeOf (d + 1) [vr a0, vi l1] M Q := by
  refine wm_open (y := y_MM_closeOf) rfl (Nat.le_of_ble_eq_true rfl) (L := [vr a0, vi l1, vd, vd]) rfl ?_
  refine wm_iconst d_MM_closeOf_0 ?_
  refine wm_istore_n d_MM_closeOf_1 rfl (by decide) (L' := [vr a0, vi l1, vi 0, vd]) rfl ?_
  refine wm_iload_n d_MM_closeOf_2 rfl rfl ?_
  refine wm_istore_n d_MM_closeOf_3 rfl (by decide) (L' := [vr a0, vi l1, vi 0, vi l1]) rfl ?_
  refine wm_less (L' := [vr a0, vd, vi 0, vi l1]) ⟨Or.inr rfl, Or.inl rfl, Or.inr rfl, Or.inr rfl, trivial⟩ ?_
  exact h
theorem k_MM_closeOf_4 {G : mG} {d : Nat} {a0 : Nat} {l2 : Int} {l3 : Int} {M : mM} {Q : Int → mM → Prop} (hO : mOk M) (hi_l2 : i32 l2) (hi_l3 : i32 l3)
    (h : mK M a0 = 14 ∧ Ci G y_MM_word1 d [vr a0, vi l3] M (fun x3 M2 => i32 x3 ∧ mOk M2 ∧ (((x3 = 36) → (i32 (l2 + 1) ∧ ((0 < l2 + 1) → (h_MM_closeOf_4 G d a0 (l2 + 1) (l3 + 1) M2 Q)) ∧ (¬ (0 < l2 + 1) → (Q ((l3 + 1) - 1) M2)))) ∧ (¬ (x3 = 36) → (mK M2 a0 = 14 ∧ Ci G y_MM_word1 d [vr a0, vi l3] M2 (fun x14 M13 => i32 x14 ∧ mOk M13 ∧ (∀ v17 : Int, v17 = (if (x14 = 37) then l2 - 1 else l2) → i32 v17 ∧ ((0 < v17) → (h_MM_closeOf_4 G d a0 v17 (l3 + 1) M13 Q)) ∧ (¬ (0 < v17) → (Q ((l3 + 1) - 1) M13))))))))) :
    h_MM_closeOf_4 G d a0 l2 l3 M Q := by
  unfold h_MM_closeOf_4
  obtain ⟨h1, h⟩ := h
  refine wm_aload_n d_MM_closeOf_4 rfl rfl ?_
  refine wm_iload_n d_MM_closeOf_5 rfl rfl ?_
  refine cf_MM_302 rfl d_MM_closeOf_6 h1 (Nat.le_of_ble_eq_true rfl) (Ci.mono h (fun x3 M2 h => ?_))
  obtain ⟨h4, hOM2, h⟩ := h
  refine wm_bipush d_MM_closeOf_9 (by decide) ?_
  refine wm_icmp_ne (tgt := 20) d_MM_closeOf_11 rfl h4 ⟨by decide, by decide⟩ (fun c7 => ?_) (fun c7 => ?_)
  · replace h := h.2 c7
    obtain ⟨h12, h⟩ := h
    refine wm_aload_n d_MM_closeOf_20 rfl rfl ?_
    refine wm_iload_n d_MM_closeOf_21 rfl rfl ?_
    refine cf_MM_302 rfl d_MM_closeOf_22 h12 (Nat.le_of_ble_eq_true rfl) (Ci.mono h (fun x14 M13 h => ?_))
    obtain ⟨h15, hOM13, h⟩ := h
    refine wm_bipush d_MM_closeOf_25 (by decide) ?_
    have hJ : ∀ v17 : Int, v17 = (if (x14 = 37) then l2 - 1 else l2) → mWm G y_MM_closeOf (d + 1) 37 [vr a0, vd, vd, vi l3] [vi v17] M13 (fun r9 M9 => ∃ x9, r9 = some (vi x9) ∧ Q x9 M9) := by
      intro v17 e19
      have h := h v17 e19
      obtain ⟨h22, h⟩ := h
      refine wm_istore_n d_MM_closeOf_37 rfl (by decide) (L' := [vr a0, vd, vi v17, vi l3]) rfl ?_
      refine wm_iinc d_MM_closeOf_38 (by decide) rfl (L' := [vr a0, vd, vi v17, vi (l3 + 1)]) rfl ?_
      refine wm_iload_n d_MM_closeOf_41 rfl rfl ?_
      refine wm_if_gt (tgt := 4) d_MM_closeOf_42 rfl h22 (fun c23 => ?_) (fun c23 => ?_)
      · replace h := h.1 c23
        exact h
      · replace h := h.2 c23
        refine wm_iload_n d_MM_closeOf_45 rfl rfl ?_
        refine wm_iconst d_MM_closeOf_46 ?_
        refine wm_isub d_MM_closeOf_47 ?_
        refine wm_ireturn d_MM_closeOf_48 rfl rfl ?_
        exact ⟨_, rfl, h⟩
    clear h
    refine wm_icmp_ne (tgt := 36) d_MM_closeOf_27 rfl h15 ⟨by decide, by decide⟩ (fun c16 => ?_) (fun c16 => ?_)
    · refine wm_iload_n d_MM_closeOf_36 rfl rfl ?_
      refine wm_less (L' := [vr a0, vd, vd, vi l3]) ⟨Or.inr rfl, Or.inl rfl, Or.inl rfl, Or.inr rfl, trivial⟩ ?_
      exact hJ l2 (if_neg c16).symm
    · replace c16 := Classical.not_not.mp c16
      refine wm_iload_n d_MM_closeOf_30 rfl rfl ?_
      refine wm_iconst d_MM_closeOf_31 ?_
      refine wm_isub d_MM_closeOf_32 ?_
      refine wm_goto (tgt := 37) d_MM_closeOf_33 rfl ?_
      refine wm_less (L' := [vr a0, vd, vd, vi l3]) ⟨Or.inr rfl, Or.inl rfl, Or.inl rfl, Or.inr rfl, trivial⟩ ?_
      exact hJ (l2 - 1) (if_pos c16).symm
  · replace c7 := Classical.not_not.mp c7
    replace h := h.1 c7
    obtain ⟨h10, h⟩ := h
    refine wm_iload_n d_MM_closeOf_14 rfl rfl ?_
    refine wm_iconst d_MM_closeOf_15 ?_
    refine wm_iadd d_MM_closeOf_16 ?_
    refine wm_goto (tgt := 37) d_MM_closeOf_17 rfl ?_
    refine wm_istore_n d_MM_closeOf_37 rfl (by decide) (L' := [vr a0, vd, vi (l2 + 1), vi l3]) rfl ?_
    refine wm_iinc d_MM_closeOf_38 (by decide) rfl (L' := [vr a0, vd, vi (l2 + 1), vi (l3 + 1)]) rfl ?_
    refine wm_iload_n d_MM_closeOf_41 rfl rfl ?_
    refine wm_if_gt (tgt := 4) d_MM_closeOf_42 rfl h10 (fun c11 => ?_) (fun c11 => ?_)
    · replace h := h.1 c11
      exact h
    · replace h := h.2 c11
      refine wm_iload_n d_MM_closeOf_45 rfl rfl ?_
      refine wm_iconst d_MM_closeOf_46 ?_
      refine wm_isub d_MM_closeOf_47 ?_
      refine wm_ireturn d_MM_closeOf_48 rfl rfl ?_
      exact ⟨_, rfl, h⟩
