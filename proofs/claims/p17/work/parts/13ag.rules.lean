section
theorem d_MM_name_0 : decode y_MM_name.2.1 0 = .ok (.iload_n 2, 1) := dc9_28 (by decide +kernel)
theorem d_MM_name_1 : decode y_MM_name.2.1 1 = .ok (.bipush 100, 2) := dc9_16 (by decide +kernel)
theorem d_MM_name_3 : decode y_MM_name.2.1 3 = .ok (.if_icmp .lt 36, 3) := dc9_161 (by decide +kernel)
theorem d_MM_name_39 : decode y_MM_name.2.1 39 = .ok (.aload_n 1, 1) := dc9_43 (by decide +kernel)
theorem d_MM_name_40 : decode y_MM_name.2.1 40 = .ok (.getfield 407, 3) := dc9_180 (by decide +kernel)
theorem d_MM_name_43 : decode y_MM_name.2.1 43 = .ok (.iload_n 2, 1) := dc9_28 (by decide +kernel)
theorem d_MM_name_44 : decode y_MM_name.2.1 44 = .ok (.baload, 1) := dc9_51 (by decide +kernel)
theorem d_MM_name_45 : decode y_MM_name.2.1 45 = .ok (.ifCond .ne 22, 3) := dc9_154 (by decide +kernel)
theorem d_MM_name_48 : decode y_MM_name.2.1 48 = .ok (.aload_n 0, 1) := dc9_42 (by decide +kernel)
theorem d_MM_name_49 : decode y_MM_name.2.1 49 = .ok (.aload_n 1, 1) := dc9_43 (by decide +kernel)
theorem d_MM_name_50 : decode y_MM_name.2.1 50 = .ok (.getfield 410, 3) := dc9_180 (by decide +kernel)
theorem d_MM_name_53 : decode y_MM_name.2.1 53 = .ok (.iload_n 2, 1) := dc9_28 (by decide +kernel)
theorem d_MM_name_54 : decode y_MM_name.2.1 54 = .ok (.laload, 1) := dc9_47 (by decide +kernel)
theorem d_MM_name_55 : decode y_MM_name.2.1 55 = .ok (.aload_n 1, 1) := dc9_43 (by decide +kernel)
theorem d_MM_name_56 : decode y_MM_name.2.1 56 = .ok (.getfield 411, 3) := dc9_180 (by decide +kernel)
theorem d_MM_name_59 : decode y_MM_name.2.1 59 = .ok (.iload_n 2, 1) := dc9_28 (by decide +kernel)
theorem d_MM_name_60 : decode y_MM_name.2.1 60 = .ok (.laload, 1) := dc9_47 (by decide +kernel)
theorem d_MM_name_6 : decode y_MM_name.2.1 6 = .ok (.iload_n 2, 1) := dc9_28 (by decide +kernel)
theorem d_MM_name_7 : decode y_MM_name.2.1 7 = .ok (.bipush 100, 2) := dc9_16 (by decide +kernel)
theorem d_MM_name_9 : decode y_MM_name.2.1 9 = .ok (.isub, 1) := dc9_100 (by decide +kernel)
theorem d_MM_name_10 : decode y_MM_name.2.1 10 = .ok (.istore_n 3, 1) := dc9_62 (by decide +kernel)
theorem d_MM_name_11 : decode y_MM_name.2.1 11 = .ok (.aload_n 0, 1) := dc9_42 (by decide +kernel)
theorem d_MM_name_12 : decode y_MM_name.2.1 12 = .ok (.aload_n 0, 1) := dc9_42 (by decide +kernel)
theorem d_MM_name_13 : decode y_MM_name.2.1 13 = .ok (.getfield 73, 3) := dc9_180 (by decide +kernel)
theorem d_MM_name_16 : decode y_MM_name.2.1 16 = .ok (.iload_n 3, 1) := dc9_29 (by decide +kernel)
theorem d_MM_name_17 : decode y_MM_name.2.1 17 = .ok (.iaload, 1) := dc9_46 (by decide +kernel)
theorem d_MM_name_18 : decode y_MM_name.2.1 18 = .ok (.i2l, 1) := dc9_133 (by decide +kernel)
theorem d_MM_name_19 : decode y_MM_name.2.1 19 = .ok (.aload_n 1, 1) := dc9_43 (by decide +kernel)
theorem d_MM_name_20 : decode y_MM_name.2.1 20 = .ok (.getfield 357, 3) := dc9_180 (by decide +kernel)
theorem d_MM_name_23 : decode y_MM_name.2.1 23 = .ok (.iload_n 3, 1) := dc9_29 (by decide +kernel)
theorem d_MM_name_24 : decode y_MM_name.2.1 24 = .ok (.baload, 1) := dc9_51 (by decide +kernel)
theorem d_MM_name_67 : decode y_MM_name.2.1 67 = .ok (.aload_n 0, 1) := dc9_42 (by decide +kernel)
theorem d_MM_name_68 : decode y_MM_name.2.1 68 = .ok (.getfield 77, 3) := dc9_180 (by decide +kernel)
theorem d_MM_name_71 : decode y_MM_name.2.1 71 = .ok (.iload_n 2, 1) := dc9_28 (by decide +kernel)
theorem d_MM_name_72 : decode y_MM_name.2.1 72 = .ok (.baload, 1) := dc9_51 (by decide +kernel)
theorem d_MM_name_73 : decode y_MM_name.2.1 73 = .ok (.ifCond .eq 22, 3) := dc9_153 (by decide +kernel)
theorem d_MM_name_95 : decode y_MM_name.2.1 95 = .ok (.aload_n 0, 1) := dc9_42 (by decide +kernel)
theorem d_MM_name_96 : decode y_MM_name.2.1 96 = .ok (.iconst 3, 1) := dc9_6 (by decide +kernel)
theorem d_MM_name_97 : decode y_MM_name.2.1 97 = .ok (.iload_n 2, 1) := dc9_28 (by decide +kernel)
theorem d_MM_name_76 : decode y_MM_name.2.1 76 = .ok (.aload_n 0, 1) := dc9_42 (by decide +kernel)
theorem d_MM_name_77 : decode y_MM_name.2.1 77 = .ok (.aload_n 0, 1) := dc9_42 (by decide +kernel)
theorem d_MM_name_78 : decode y_MM_name.2.1 78 = .ok (.getfield 81, 3) := dc9_180 (by decide +kernel)
theorem d_MM_name_81 : decode y_MM_name.2.1 81 = .ok (.iload_n 2, 1) := dc9_28 (by decide +kernel)
theorem d_MM_name_82 : decode y_MM_name.2.1 82 = .ok (.laload, 1) := dc9_47 (by decide +kernel)
theorem d_MM_name_83 : decode y_MM_name.2.1 83 = .ok (.aload_n 0, 1) := dc9_42 (by decide +kernel)
theorem d_MM_name_84 : decode y_MM_name.2.1 84 = .ok (.getfield 84, 3) := dc9_180 (by decide +kernel)
theorem d_MM_name_87 : decode y_MM_name.2.1 87 = .ok (.iload_n 2, 1) := dc9_28 (by decide +kernel)
theorem d_MM_name_88 : decode y_MM_name.2.1 88 = .ok (.laload, 1) := dc9_47 (by decide +kernel)
theorem d_MM_name_61 : decode y_MM_name.2.1 61 = .ok (.invokevirtual 373, 3) := dc9_182 (by decide +kernel)
theorem d_MM_name_64 : decode y_MM_name.2.1 64 = .ok (.goto 48, 3) := dc9_167 (by decide +kernel)
theorem d_MM_name_112 : decode y_MM_name.2.1 112 = .ok (.return_, 1) := dc9_177 (by decide +kernel)
theorem d_MM_name_98 : decode y_MM_name.2.1 98 = .ok (.invokevirtual 385, 3) := dc9_182 (by decide +kernel)
theorem d_MM_name_101 : decode y_MM_name.2.1 101 = .ok (.aload_n 0, 1) := dc9_42 (by decide +kernel)
theorem d_MM_name_102 : decode y_MM_name.2.1 102 = .ok (.iconst 0, 1) := dc9_3 (by decide +kernel)
theorem d_MM_name_103 : decode y_MM_name.2.1 103 = .ok (.aload_n 1, 1) := dc9_43 (by decide +kernel)
theorem d_MM_name_104 : decode y_MM_name.2.1 104 = .ok (.getfield 412, 3) := dc9_180 (by decide +kernel)
theorem d_MM_name_107 : decode y_MM_name.2.1 107 = .ok (.iload_n 2, 1) := dc9_28 (by decide +kernel)
theorem d_MM_name_108 : decode y_MM_name.2.1 108 = .ok (.iaload, 1) := dc9_46 (by decide +kernel)
theorem d_MM_name_109 : decode y_MM_name.2.1 109 = .ok (.invokevirtual 385, 3) := dc9_182 (by decide +kernel)
theorem d_MM_name_89 : decode y_MM_name.2.1 89 = .ok (.invokevirtual 373, 3) := dc9_182 (by decide +kernel)
theorem d_MM_name_92 : decode y_MM_name.2.1 92 = .ok (.goto 20, 3) := dc9_167 (by decide +kernel)
theorem d_MM_name_25 : decode y_MM_name.2.1 25 = .ok (.ifCond .eq 7, 3) := dc9_153 (by decide +kernel)
theorem d_MM_name_32 : decode y_MM_name.2.1 32 = .ok (.lconst 1, 1) := dc9_10 (by decide +kernel)
theorem d_MM_name_28 : decode y_MM_name.2.1 28 = .ok (.lconst 0, 1) := dc9_9 (by decide +kernel)
theorem d_MM_name_29 : decode y_MM_name.2.1 29 = .ok (.goto 4, 3) := dc9_167 (by decide +kernel)
theorem d_MM_name_33 : decode y_MM_name.2.1 33 = .ok (.invokevirtual 373, 3) := dc9_182 (by decide +kernel)
theorem d_MM_name_36 : decode y_MM_name.2.1 36 = .ok (.goto 76, 3) := dc9_167 (by decide +kernel)
theorem k_MM_name {G : mG} {d : Nat} {a0 : Nat} {a1 : Nat} {l2 : Int} {M : mM} {Q : mM → Prop} (hO : mOk M) (hi_l2 : i32 l2)
    (h : ((l2 < 100) → (mK M a1 = 16 ∧ mK M (mR M a1 7) = 31 ∧ ((0 : Int) ≤ l2 ∧ l2 < (mN M (mR M a1 7) : Int)) ∧ ((mI M (mR M a1 7) (Int.toNat l2) = 0) → (mK M (mR M a1 10) = 33 ∧ ((0 : Int) ≤ l2 ∧ l2 < (mN M (mR M a1 10) : Int)) ∧ mK M (mR M a1 11) = 33 ∧ ((0 : Int) ≤ l2 ∧ l2 < (mN M (mR M a1 11) : Int)) ∧ mK M a0 = 14 ∧ Cv G y_MM_push d [vr a0, vl (mL M (mR M a1 10) (Int.toNat l2)), vl (mL M (mR M a1 11) (Int.toNat l2))] M (fun M45 => mOk M45 ∧ (Q M45)))) ∧ (¬ (mI M (mR M a1 7) (Int.toNat l2) = 0) → (mK M a0 = 14 ∧ mK M (mR M a0 26) = 31 ∧ ((0 : Int) ≤ l2 ∧ l2 < (mN M (mR M a0 26) : Int)) ∧ ((mI M (mR M a0 26) (Int.toNat l2) = 0) → (Cv G y_MM_todo d [vr a0, vi 3, vi l2] M (fun M54 => mOk M54 ∧ (mK M54 a1 = 16 ∧ mK M54 (mR M54 a1 9) = 30 ∧ ((0 : Int) ≤ l2 ∧ l2 < (mN M54 (mR M54 a1 9) : Int)) ∧ mK M54 a0 = 14 ∧ Cv G y_MM_todo d [vr a0, vi 0, vi (mI M54 (mR M54 a1 9) (Int.toNat l2))] M54 (fun M61 => mOk M61 ∧ (Q M61)))))) ∧ (¬ (mI M (mR M a0 26) (Int.toNat l2) = 0) → (mK M (mR M a0 27) = 33 ∧ ((0 : Int) ≤ l2 ∧ l2 < (mN M (mR M a0 27) : Int)) ∧ mK M (mR M a0 28) = 33 ∧ ((0 : Int) ≤ l2 ∧ l2 < (mN M (mR M a0 28) : Int)) ∧ Cv G y_MM_push d [vr a0, vl (mL M (mR M a0 27) (Int.toNat l2)), vl (mL M (mR M a0 28) (Int.toNat l2))] M (fun M68 => mOk M68 ∧ (Q M68)))))))) ∧ (¬ (l2 < 100) → (mK M a0 = 14 ∧ mK M (mR M a0 25) = 30 ∧ ((0 : Int) ≤ l2 - 100 ∧ l2 - 100 < (mN M (mR M a0 25) : Int)) ∧ mK M a1 = 16 ∧ mK M (mR M a1 13) = 31 ∧ ((0 : Int) ≤ l2 - 100 ∧ l2 - 100 < (mN M (mR M a1 13) : Int)) ∧ ∀ v78 : Int, v78 = (if (mI M (mR M a1 13) (Int.toNat (l2 - 100)) = 0) then 1 else 0) → Cv G y_MM_push d [vr a0, vl (mI M (mR M a0 25) (Int.toNat (l2 - 100))), vl v78] M (fun M82 => mOk M82 ∧ (Q M82))))) :
    Cv G y_MM_name (d + 1) [vr a0, vr a1, vi l2] M Q := by
  refine wm_open (y := y_MM_name) rfl (Nat.le_of_ble_eq_true rfl) (L := [vr a0, vr a1, vi l2, vd]) rfl ?_
  refine wm_iload_n d_MM_name_0 rfl rfl ?_
  refine wm_bipush d_MM_name_1 (by decide) ?_
  refine wm_icmp_lt (tgt := 39) d_MM_name_3 rfl hi_l2 ⟨by decide, by decide⟩ (fun c25 => ?_) (fun c25 => ?_)
  · replace h := h.1 c25
    obtain ⟨h26, h⟩ := h
    obtain ⟨h27, h⟩ := h
    obtain ⟨h28, h⟩ := h
    refine wm_aload_n d_MM_name_39 rfl rfl ?_
    refine gf_MM_407 rfl d_MM_name_40 h26 ?_
    refine wm_iload_n d_MM_name_43 rfl rfl ?_
    refine wm_zald d_MM_name_44 h27 h28 ?_
    refine wm_if_ne (tgt := 67) d_MM_name_45 rfl (hO _ _).1 (fun c39 => ?_) (fun c39 => ?_)
    · replace h := h.2 c39
      obtain ⟨h48, h⟩ := h
      obtain ⟨h49, h⟩ := h
      obtain ⟨h50, h⟩ := h
      refine wm_aload_n d_MM_name_67 rfl rfl ?_
      refine gf_MM_77 rfl d_MM_name_68 h48 ?_
      refine wm_iload_n d_MM_name_71 rfl rfl ?_
      refine wm_zald d_MM_name_72 h49 h50 ?_
      refine wm_if_eq (tgt := 95) d_MM_name_73 rfl (hO _ _).1 (fun c53 => ?_) (fun c53 => ?_)
      · replace h := h.1 c53
        refine wm_aload_n d_MM_name_95 rfl rfl ?_
        refine wm_iconst d_MM_name_96 ?_
        refine wm_iload_n d_MM_name_97 rfl rfl ?_
        refine cf_MM_385 rfl d_MM_name_98 h48 (Nat.le_of_ble_eq_true rfl) (Cv.mono h (fun M54 h => ?_))
        obtain ⟨hOM54, h⟩ := h
        obtain ⟨h57, h⟩ := h
        obtain ⟨h58, h⟩ := h
        obtain ⟨h59, h⟩ := h
        obtain ⟨h60, h⟩ := h
        refine wm_aload_n d_MM_name_101 rfl rfl ?_
        refine wm_iconst d_MM_name_102 ?_
        refine wm_aload_n d_MM_name_103 rfl rfl ?_
        refine gf_MM_412 rfl d_MM_name_104 h57 ?_
        refine wm_iload_n d_MM_name_107 rfl rfl ?_
        refine wm_iald d_MM_name_108 h58 h59 ?_
        refine cf_MM_385 rfl d_MM_name_109 h60 (Nat.le_of_ble_eq_true rfl) (Cv.mono h (fun M61 h => ?_))
        obtain ⟨hOM61, h⟩ := h
        refine wm_return d_MM_name_112 rfl ?_
        exact ⟨rfl, h⟩
      · replace h := h.2 c53
        obtain ⟨h64, h⟩ := h
        obtain ⟨h65, h⟩ := h
        obtain ⟨h66, h⟩ := h
        obtain ⟨h67, h⟩ := h
        refine wm_aload_n d_MM_name_76 rfl rfl ?_
        refine wm_aload_n d_MM_name_77 rfl rfl ?_
        refine gf_MM_81 rfl d_MM_name_78 h48 ?_
        refine wm_iload_n d_MM_name_81 rfl rfl ?_
        refine wm_lald d_MM_name_82 h64 h65 ?_
        refine wm_aload_n d_MM_name_83 rfl rfl ?_
        refine gf_MM_84 rfl d_MM_name_84 h48 ?_
        refine wm_iload_n d_MM_name_87 rfl rfl ?_
        refine wm_lald d_MM_name_88 h66 h67 ?_
        refine cf_MM_373 rfl d_MM_name_89 h48 (Nat.le_of_ble_eq_true rfl) (Cv.mono h (fun M68 h => ?_))
        obtain ⟨hOM68, h⟩ := h
        refine wm_goto (tgt := 112) d_MM_name_92 rfl ?_
        refine wm_return d_MM_name_112 rfl ?_
        exact ⟨rfl, h⟩
    · replace c39 := Classical.not_not.mp c39
      replace h := h.1 c39
      obtain ⟨h40, h⟩ := h
      obtain ⟨h41, h⟩ := h
      obtain ⟨h42, h⟩ := h
      obtain ⟨h43, h⟩ := h
      obtain ⟨h44, h⟩ := h
      refine wm_aload_n d_MM_name_48 rfl rfl ?_
      refine wm_aload_n d_MM_name_49 rfl rfl ?_
      refine gf_MM_410 rfl d_MM_name_50 h26 ?_
      refine wm_iload_n d_MM_name_53 rfl rfl ?_
      refine wm_lald d_MM_name_54 h40 h41 ?_
      refine wm_aload_n d_MM_name_55 rfl rfl ?_
      refine gf_MM_411 rfl d_MM_name_56 h26 ?_
      refine wm_iload_n d_MM_name_59 rfl rfl ?_
      refine wm_lald d_MM_name_60 h42 h43 ?_
      refine cf_MM_373 rfl d_MM_name_61 h44 (Nat.le_of_ble_eq_true rfl) (Cv.mono h (fun M45 h => ?_))
      obtain ⟨hOM45, h⟩ := h
      refine wm_goto (tgt := 112) d_MM_name_64 rfl ?_
      refine wm_return d_MM_name_112 rfl ?_
      exact ⟨rfl, h⟩
  · replace h := h.2 c25
    obtain ⟨h71, h⟩ := h
    obtain ⟨h72, h⟩ := h
    obtain ⟨h73, h⟩ := h
    obtain ⟨h74, h⟩ := h
    obtain ⟨h75, h⟩ := h
    obtain ⟨h76, h⟩ := h
    refine wm_iload_n d_MM_name_6 rfl rfl ?_
    refine wm_bipush d_MM_name_7 (by decide) ?_
    refine wm_isub d_MM_name_9 ?_
    refine wm_istore_n d_MM_name_10 rfl (by decide) (L' := [vr a0, vr a1, vi l2, vi (l2 - 100)]) rfl ?_
    refine wm_aload_n d_MM_name_11 rfl rfl ?_
    refine wm_aload_n d_MM_name_12 rfl rfl ?_
    refine gf_MM_73 rfl d_MM_name_13 h71 ?_
    refine wm_iload_n d_MM_name_16 rfl rfl ?_
    refine wm_iald d_MM_name_17 h72 h73 ?_
    refine wm_i2l d_MM_name_18 (hO _ _).1 ?_
    refine wm_aload_n d_MM_name_19 rfl rfl ?_
    refine gf_MM_357 rfl d_MM_name_20 h74 ?_
    refine wm_iload_n d_MM_name_23 rfl rfl ?_
    refine wm_zald d_MM_name_24 h75 h76 ?_
    have hJ : ∀ v78 : Int, v78 = (if (mI M (mR M a1 13) (Int.toNat (l2 - 100)) = 0) then 1 else 0) → mWm G y_MM_name (d + 1) 33 [vd, vd, vd, vd] [vl v78, vl (mI M (mR M a0 25) (Int.toNat (l2 - 100))), vr a0] M (fun r9 M9 => r9 = none ∧ Q M9) := by
      intro v78 e80
      have h := h v78 e80
      have h81 : (v78 = 0 ∨ v78 = 1) := by rw [e80]; (repeat' split) <;> decide
      refine cf_MM_373 rfl d_MM_name_33 h71 (Nat.le_of_ble_eq_true rfl) (Cv.mono h (fun M82 h => ?_))
      obtain ⟨hOM82, h⟩ := h
      refine wm_goto (tgt := 112) d_MM_name_36 rfl ?_
      refine wm_return d_MM_name_112 rfl ?_
      exact ⟨rfl, h⟩
    clear h
    refine wm_if_eq (tgt := 32) d_MM_name_25 rfl (hO _ _).1 (fun c77 => ?_) (fun c77 => ?_)
    · refine wm_lconst (x := 1) d_MM_name_32 rfl ?_
      refine wm_less (L' := [vd, vd, vd, vd]) ⟨Or.inl rfl, Or.inl rfl, Or.inl rfl, Or.inl rfl, trivial⟩ ?_
      exact hJ 1 (if_pos c77).symm
    · refine wm_lconst (x := 0) d_MM_name_28 rfl ?_
      refine wm_goto (tgt := 33) d_MM_name_29 rfl ?_
      refine wm_less (L' := [vd, vd, vd, vd]) ⟨Or.inl rfl, Or.inl rfl, Or.inl rfl, Or.inl rfl, trivial⟩ ?_
      exact hJ 0 (if_neg c77).symm
theorem d_MM_choose0_0 : decode y_MM_choose0.2.1 0 = .ok (.aload_n 1, 1) := dc9_43 (by decide +kernel)
theorem d_MM_choose0_1 : decode y_MM_choose0.2.1 1 = .ok (.getfield 273, 3) := dc9_180 (by decide +kernel)
theorem d_MM_choose0_4 : decode y_MM_choose0.2.1 4 = .ok (.iload_n 2, 1) := dc9_28 (by decide +kernel)
theorem d_MM_choose0_5 : decode y_MM_choose0.2.1 5 = .ok (.invokevirtual 155, 3) := dc9_182 (by decide +kernel)
theorem d_MM_choose0_8 : decode y_MM_choose0.2.1 8 = .ok (.istore_n 3, 1) := dc9_62 (by decide +kernel)
theorem d_MM_choose0_9 : decode y_MM_choose0.2.1 9 = .ok (.aload_n 0, 1) := dc9_42 (by decide +kernel)
theorem d_MM_choose0_10 : decode y_MM_choose0.2.1 10 = .ok (.getfield 63, 3) := dc9_180 (by decide +kernel)
theorem d_MM_choose0_13 : decode y_MM_choose0.2.1 13 = .ok (.aload_n 0, 1) := dc9_42 (by decide +kernel)
theorem d_MM_choose0_14 : decode y_MM_choose0.2.1 14 = .ok (.getfield 370, 3) := dc9_180 (by decide +kernel)
theorem d_MM_choose0_17 : decode y_MM_choose0.2.1 17 = .ok (.iconst 1, 1) := dc9_4 (by decide +kernel)
theorem d_MM_choose0_18 : decode y_MM_choose0.2.1 18 = .ok (.isub, 1) := dc9_100 (by decide +kernel)
theorem d_MM_choose0_19 : decode y_MM_choose0.2.1 19 = .ok (.laload, 1) := dc9_47 (by decide +kernel)
theorem d_MM_choose0_20 : decode y_MM_choose0.2.1 20 = .ok (.lconst 1, 1) := dc9_10 (by decide +kernel)
theorem d_MM_choose0_21 : decode y_MM_choose0.2.1 21 = .ok (.lcmp, 1) := dc9_148 (by decide +kernel)
theorem d_MM_choose0_22 : decode y_MM_choose0.2.1 22 = .ok (.ifCond .ne 7, 3) := dc9_154 (by decide +kernel)
theorem d_MM_choose0_25 : decode y_MM_choose0.2.1 25 = .ok (.iconst 1, 1) := dc9_4 (by decide +kernel)
theorem d_MM_choose0_26 : decode y_MM_choose0.2.1 26 = .ok (.goto 4, 3) := dc9_167 (by decide +kernel)
theorem d_MM_choose0_29 : decode y_MM_choose0.2.1 29 = .ok (.iconst 0, 1) := dc9_3 (by decide +kernel)
theorem d_MM_choose0_30 : decode y_MM_choose0.2.1 30 = .ok (.istore 4, 2) := dc9_54 (by decide +kernel)
theorem d_MM_choose0_32 : decode y_MM_choose0.2.1 32 = .ok (.aload_n 1, 1) := dc9_43 (by decide +kernel)
theorem d_MM_choose0_33 : decode y_MM_choose0.2.1 33 = .ok (.getfield 290, 3) := dc9_180 (by decide +kernel)
theorem d_MM_choose0_36 : decode y_MM_choose0.2.1 36 = .ok (.aload_n 1, 1) := dc9_43 (by decide +kernel)
theorem d_MM_choose0_37 : decode y_MM_choose0.2.1 37 = .ok (.getfield 287, 3) := dc9_180 (by decide +kernel)
theorem d_MM_choose0_40 : decode y_MM_choose0.2.1 40 = .ok (.iload_n 2, 1) := dc9_28 (by decide +kernel)
theorem d_MM_choose0_41 : decode y_MM_choose0.2.1 41 = .ok (.invokevirtual 155, 3) := dc9_182 (by decide +kernel)
theorem d_MM_choose0_44 : decode y_MM_choose0.2.1 44 = .ok (.invokevirtual 155, 3) := dc9_182 (by decide +kernel)
theorem d_MM_choose0_47 : decode y_MM_choose0.2.1 47 = .ok (.istore 5, 2) := dc9_54 (by decide +kernel)
theorem d_MM_choose0_49 : decode y_MM_choose0.2.1 49 = .ok (.iload_n 3, 1) := dc9_29 (by decide +kernel)
theorem d_MM_choose0_50 : decode y_MM_choose0.2.1 50 = .ok (.bipush 32, 2) := dc9_16 (by decide +kernel)
theorem d_MM_choose0_52 : decode y_MM_choose0.2.1 52 = .ok (.if_icmp .ne 40, 3) := dc9_160 (by decide +kernel)
theorem d_MM_choose0_55 : decode y_MM_choose0.2.1 55 = .ok (.aload_n 0, 1) := dc9_42 (by decide +kernel)
theorem d_MM_choose0_56 : decode y_MM_choose0.2.1 56 = .ok (.aload_n 0, 1) := dc9_42 (by decide +kernel)
theorem d_MM_choose0_57 : decode y_MM_choose0.2.1 57 = .ok (.getfield 370, 3) := dc9_180 (by decide +kernel)
theorem d_MM_choose0_60 : decode y_MM_choose0.2.1 60 = .ok (.iconst 1, 1) := dc9_4 (by decide +kernel)
theorem d_MM_choose0_61 : decode y_MM_choose0.2.1 61 = .ok (.isub, 1) := dc9_100 (by decide +kernel)
theorem d_MM_choose0_62 : decode y_MM_choose0.2.1 62 = .ok (.putfield 370, 3) := dc9_181 (by decide +kernel)
theorem d_MM_choose0_65 : decode y_MM_choose0.2.1 65 = .ok (.aload_n 0, 1) := dc9_42 (by decide +kernel)
theorem d_MM_choose0_66 : decode y_MM_choose0.2.1 66 = .ok (.iconst 0, 1) := dc9_3 (by decide +kernel)
theorem d_MM_choose0_67 : decode y_MM_choose0.2.1 67 = .ok (.iload 4, 2) := dc9_21 (by decide +kernel)
theorem d_MM_choose0_69 : decode y_MM_choose0.2.1 69 = .ok (.ifCond .eq 8, 3) := dc9_153 (by decide +kernel)
theorem d_MM_choose0_77 : decode y_MM_choose0.2.1 77 = .ok (.aload_n 1, 1) := dc9_43 (by decide +kernel)
theorem d_MM_choose0_78 : decode y_MM_choose0.2.1 78 = .ok (.getfield 290, 3) := dc9_180 (by decide +kernel)
theorem d_MM_choose0_81 : decode y_MM_choose0.2.1 81 = .ok (.iload 5, 2) := dc9_21 (by decide +kernel)
theorem d_MM_choose0_92 : decode y_MM_choose0.2.1 92 = .ok (.iload 4, 2) := dc9_21 (by decide +kernel)
theorem d_MM_choose0_94 : decode y_MM_choose0.2.1 94 = .ok (.iload_n 3, 1) := dc9_29 (by decide +kernel)
theorem d_MM_choose0_95 : decode y_MM_choose0.2.1 95 = .ok (.bipush 29, 2) := dc9_16 (by decide +kernel)
theorem d_MM_choose0_72 : decode y_MM_choose0.2.1 72 = .ok (.iload 5, 2) := dc9_21 (by decide +kernel)
theorem d_MM_choose0_74 : decode y_MM_choose0.2.1 74 = .ok (.goto 12, 3) := dc9_167 (by decide +kernel)
theorem d_MM_choose0_83 : decode y_MM_choose0.2.1 83 = .ok (.invokevirtual 155, 3) := dc9_182 (by decide +kernel)
theorem d_MM_choose0_86 : decode y_MM_choose0.2.1 86 = .ok (.invokevirtual 385, 3) := dc9_182 (by decide +kernel)
theorem d_MM_choose0_89 : decode y_MM_choose0.2.1 89 = .ok (.goto 36, 3) := dc9_167 (by decide +kernel)
theorem d_MM_choose0_125 : decode y_MM_choose0.2.1 125 = .ok (.return_, 1) := dc9_177 (by decide +kernel)
theorem d_MM_choose0_97 : decode y_MM_choose0.2.1 97 = .ok (.if_icmp .ne 7, 3) := dc9_160 (by decide +kernel)
theorem d_MM_choose0_100 : decode y_MM_choose0.2.1 100 = .ok (.iconst 1, 1) := dc9_4 (by decide +kernel)
theorem d_MM_choose0_101 : decode y_MM_choose0.2.1 101 = .ok (.goto 4, 3) := dc9_167 (by decide +kernel)
theorem d_MM_choose0_104 : decode y_MM_choose0.2.1 104 = .ok (.iconst 0, 1) := dc9_3 (by decide +kernel)
theorem d_MM_choose0_105 : decode y_MM_choose0.2.1 105 = .ok (.if_icmp .ne 20, 3) := dc9_160 (by decide +kernel)
theorem d_MM_choose0_108 : decode y_MM_choose0.2.1 108 = .ok (.aload_n 0, 1) := dc9_42 (by decide +kernel)
theorem d_MM_choose0_109 : decode y_MM_choose0.2.1 109 = .ok (.aload_n 0, 1) := dc9_42 (by decide +kernel)
theorem d_MM_choose0_110 : decode y_MM_choose0.2.1 110 = .ok (.getfield 370, 3) := dc9_180 (by decide +kernel)
theorem d_MM_choose0_113 : decode y_MM_choose0.2.1 113 = .ok (.iconst 1, 1) := dc9_4 (by decide +kernel)
theorem d_MM_choose0_114 : decode y_MM_choose0.2.1 114 = .ok (.isub, 1) := dc9_100 (by decide +kernel)
theorem d_MM_choose0_115 : decode y_MM_choose0.2.1 115 = .ok (.putfield 370, 3) := dc9_181 (by decide +kernel)
theorem d_MM_choose0_118 : decode y_MM_choose0.2.1 118 = .ok (.aload_n 0, 1) := dc9_42 (by decide +kernel)
theorem d_MM_choose0_119 : decode y_MM_choose0.2.1 119 = .ok (.iconst 0, 1) := dc9_3 (by decide +kernel)
theorem d_MM_choose0_120 : decode y_MM_choose0.2.1 120 = .ok (.iload 5, 2) := dc9_21 (by decide +kernel)
theorem d_MM_choose0_122 : decode y_MM_choose0.2.1 122 = .ok (.invokevirtual 385, 3) := dc9_182 (by decide +kernel)
theorem k_MM_choose0 {G : mG} {d : Nat} {a0 : Nat} {a1 : Nat} {l2 : Int} {M : mM} {Q : mM → Prop} (hO : mOk M) (hi_l2 : i32 l2)
    (h : mK M a1 = 16 ∧ mK M (mR M a1 0) = 15 ∧ Ci G y_MN_at d [vr (mR M a1 0), vi l2] M (fun x4 M3 => i32 x4 ∧ mOk M3 ∧ (mK M3 a0 = 14 ∧ mK M3 (mR M3 a0 21) = 33 ∧ ((0 : Int) ≤ (mI M3 a0 23) - 1 ∧ (mI M3 a0 23) - 1 < (mN M3 (mR M3 a0 21) : Int)) ∧ ∀ v10 : Int, v10 = (if (cmpL (mL M3 (mR M3 a0 21) (Int.toNat ((mI M3 a0 23) - 1))) 1 = 0) then 1 else 0) → mK M3 a1 = 16 ∧ mK M3 (mR M3 a1 4) = 15 ∧ Ci G y_MN_at d [vr (mR M3 a1 4), vi l2] M3 (fun x18 M17 => i32 x18 ∧ mOk M17 ∧ (mK M17 (mR M3 a1 5) = 15 ∧ Ci G y_MN_at d [vr (mR M3 a1 5), vi x18] M17 (fun x22 M21 => i32 x22 ∧ mOk M21 ∧ (((x4 = 32) → (mK M21 a0 = 14 ∧ i32 ((mI M21 a0 23) - 1) ∧ ∀ M35, M35 = mUI M21 a0 23 ((mI M21 a0 23) - 1) → ((v10 = 0) → (mK M35 a1 = 16 ∧ mK M35 (mR M35 a1 5) = 15 ∧ Ci G y_MN_at d [vr (mR M35 a1 5), vi x22] M35 (fun x44 M43 => i32 x44 ∧ mOk M43 ∧ (mK M43 a0 = 14 ∧ Cv G y_MM_todo d [vr a0, vi 0, vi x44] M43 (fun M47 => mOk M47 ∧ (Q M47)))))) ∧ (¬ (v10 = 0) → (Cv G y_MM_todo d [vr a0, vi 0, vi x22] M35 (fun M50 => mOk M50 ∧ (Q M50)))))) ∧ (¬ (x4 = 32) → (∀ v54 : Int, v54 = (if (x4 = 29) then 1 else 0) → ((v10 = v54) → (mK M21 a0 = 14 ∧ i32 ((mI M21 a0 23) - 1) ∧ ∀ M66, M66 = mUI M21 a0 23 ((mI M21 a0 23) - 1) → Cv G y_MM_todo d [vr a0, vi 0, vi x22] M66 (fun M68 => mOk M68 ∧ (Q M68)))) ∧ (¬ (v10 = v54) → (Q M21))))))))))) :
    Cv G y_MM_choose0 (d + 1) [vr a0, vr a1, vi l2] M Q := by
  refine wm_open (y := y_MM_choose0) rfl (Nat.le_of_ble_eq_true rfl) (L := [vr a0, vr a1, vi l2, vd, vd, vd]) rfl ?_
  obtain ⟨h1, h⟩ := h
  obtain ⟨h2, h⟩ := h
  refine wm_aload_n d_MM_choose0_0 rfl rfl ?_
  refine gf_MM_273 rfl d_MM_choose0_1 h1 ?_
  refine wm_iload_n d_MM_choose0_4 rfl rfl ?_
  refine cf_MM_155 rfl d_MM_choose0_5 h2 (Nat.le_of_ble_eq_true rfl) (Ci.mono h (fun x4 M3 h => ?_))
  obtain ⟨h5, hOM3, h⟩ := h
  obtain ⟨h6, h⟩ := h
  obtain ⟨h7, h⟩ := h
  obtain ⟨h8, h⟩ := h
  refine wm_istore_n d_MM_choose0_8 rfl (by decide) (L' := [vr a0, vr a1, vi l2, vi x4, vd, vd]) rfl ?_
  refine wm_aload_n d_MM_choose0_9 rfl rfl ?_
  refine gf_MM_63 rfl d_MM_choose0_10 h6 ?_
  refine wm_aload_n d_MM_choose0_13 rfl rfl ?_
  refine gf_MM_370 rfl d_MM_choose0_14 h6 ?_
  refine wm_iconst d_MM_choose0_17 ?_
  refine wm_isub d_MM_choose0_18 ?_
  refine wm_lald d_MM_choose0_19 h7 h8 ?_
  refine wm_lconst (x := 1) d_MM_choose0_20 rfl ?_
  refine wm_lcmp d_MM_choose0_21 (hOM3 _ _).2 ⟨by decide, by decide⟩ ?_
  have hJ : ∀ v10 : Int, v10 = (if (cmpL (mL M3 (mR M3 a0 21) (Int.toNat ((mI M3 a0 23) - 1))) 1 = 0) then 1 else 0) → mWm G y_MM_choose0 (d + 1) 30 [vr a0, vr a1, vi l2, vi x4, vd, vd] [vi v10] M3 (fun r9 M9 => r9 = none ∧ Q M9) := by
    intro v10 e12
    have h := h v10 e12
    have h13 : i32 v10 := by rw [e12]; (repeat' split) <;> first | exact ⟨by decide, by decide⟩ | exact ⟨by decide, by decide⟩
    have h14 : (v10 = 0 ∨ v10 = 1) := by rw [e12]; (repeat' split) <;> decide
    obtain ⟨h15, h⟩ := h
    obtain ⟨h16, h⟩ := h
    refine wm_istore d_MM_choose0_30 (by decide) (L' := [vr a0, vr a1, vi l2, vi x4, vi v10, vd]) rfl ?_
    refine wm_aload_n d_MM_choose0_32 rfl rfl ?_
    refine gf_MM_290 rfl d_MM_choose0_33 h15 ?_
    refine wm_aload_n d_MM_choose0_36 rfl rfl ?_
    refine gf_MM_287 rfl d_MM_choose0_37 h15 ?_
    refine wm_iload_n d_MM_choose0_40 rfl rfl ?_
    refine cf_MM_155 rfl d_MM_choose0_41 h16 (Nat.le_of_ble_eq_true rfl) (Ci.mono h (fun x18 M17 h => ?_))
    obtain ⟨h19, hOM17, h⟩ := h
    obtain ⟨h20, h⟩ := h
    refine cf_MM_155 rfl d_MM_choose0_44 h20 (Nat.le_of_ble_eq_true rfl) (Ci.mono h (fun x22 M21 h => ?_))
    obtain ⟨h23, hOM21, h⟩ := h
    refine wm_istore d_MM_choose0_47 (by decide) (L' := [vr a0, vr a1, vi l2, vi x4, vi v10, vi x22]) rfl ?_
    refine wm_iload_n d_MM_choose0_49 rfl rfl ?_
    refine wm_bipush d_MM_choose0_50 (by decide) ?_
    refine wm_icmp_ne (tgt := 92) d_MM_choose0_52 rfl h5 ⟨by decide, by decide⟩ (fun c32 => ?_) (fun c32 => ?_)
    · replace h := h.2 c32
      refine wm_iload d_MM_choose0_92 rfl ?_
      refine wm_iload_n d_MM_choose0_94 rfl rfl ?_
      refine wm_bipush d_MM_choose0_95 (by decide) ?_
      have hJ : ∀ v54 : Int, v54 = (if (x4 = 29) then 1 else 0) → mWm G y_MM_choose0 (d + 1) 105 [vr a0, vd, vd, vd, vd, vi x22] [vi v54, vi v10] M21 (fun r9 M9 => r9 = none ∧ Q M9) := by
        intro v54 e56
        have h := h v54 e56
        have h57 : i32 v54 := by rw [e56]; (repeat' split) <;> first | exact ⟨by decide, by decide⟩ | exact ⟨by decide, by decide⟩
        have h58 : (v54 = 0 ∨ v54 = 1) := by rw [e56]; (repeat' split) <;> decide
        refine wm_icmp_ne (tgt := 125) d_MM_choose0_105 rfl h13 h57 (fun c63 => ?_) (fun c63 => ?_)
        · replace h := h.2 c63
          refine wm_return d_MM_choose0_125 rfl ?_
          exact ⟨rfl, h⟩
        · replace c63 := Classical.not_not.mp c63
          replace h := h.1 c63
          obtain ⟨h64, h⟩ := h
          obtain ⟨h65, h⟩ := h
          obtain ⟨M66, e67⟩ : ∃ M66, M66 = mUI M21 a0 23 ((mI M21 a0 23) - 1) := ⟨_, rfl⟩
          replace h := h M66 e67
          refine wm_aload_n d_MM_choose0_108 rfl rfl ?_
          refine wm_aload_n d_MM_choose0_109 rfl rfl ?_
          refine gf_MM_370 rfl d_MM_choose0_110 h64 ?_
          refine wm_iconst d_MM_choose0_113 ?_
          refine wm_isub d_MM_choose0_114 ?_
          have hOM66 : mOk M66 := by rw [e67]; exact mOk_UI hOM21 h65
          refine pf_MM_370 rfl d_MM_choose0_115 h64 h65 e67 ?_
          refine wm_aload_n d_MM_choose0_118 rfl rfl ?_
          refine wm_iconst d_MM_choose0_119 ?_
          refine wm_iload d_MM_choose0_120 rfl ?_
          refine cf_MM_385 rfl d_MM_choose0_122 (by rw [e67]; exact h64) (Nat.le_of_ble_eq_true rfl) (Cv.mono h (fun M68 h => ?_))
          obtain ⟨hOM68, h⟩ := h
          refine wm_return d_MM_choose0_125 rfl ?_
          exact ⟨rfl, h⟩
      clear h
      refine wm_icmp_ne (tgt := 104) d_MM_choose0_97 rfl h5 ⟨by decide, by decide⟩ (fun c53 => ?_) (fun c53 => ?_)
      · refine wm_iconst d_MM_choose0_104 ?_
        refine wm_less (L' := [vr a0, vd, vd, vd, vd, vi x22]) ⟨Or.inr rfl, Or.inl rfl, Or.inl rfl, Or.inl rfl, Or.inl rfl, Or.inr rfl, trivial⟩ ?_
        exact hJ 0 (if_neg c53).symm
      · replace c53 := Classical.not_not.mp c53
        refine wm_iconst d_MM_choose0_100 ?_
        refine wm_goto (tgt := 105) d_MM_choose0_101 rfl ?_
        refine wm_less (L' := [vr a0, vd, vd, vd, vd, vi x22]) ⟨Or.inr rfl, Or.inl rfl, Or.inl rfl, Or.inl rfl, Or.inl rfl, Or.inr rfl, trivial⟩ ?_
        exact hJ 1 (if_pos c53).symm
    · replace c32 := Classical.not_not.mp c32
      replace h := h.1 c32
      obtain ⟨h33, h⟩ := h
      obtain ⟨h34, h⟩ := h
      obtain ⟨M35, e36⟩ : ∃ M35, M35 = mUI M21 a0 23 ((mI M21 a0 23) - 1) := ⟨_, rfl⟩
      replace h := h M35 e36
      refine wm_aload_n d_MM_choose0_55 rfl rfl ?_
      refine wm_aload_n d_MM_choose0_56 rfl rfl ?_
      refine gf_MM_370 rfl d_MM_choose0_57 h33 ?_
      refine wm_iconst d_MM_choose0_60 ?_
      refine wm_isub d_MM_choose0_61 ?_
      have hOM35 : mOk M35 := by rw [e36]; exact mOk_UI hOM21 h34
      refine pf_MM_370 rfl d_MM_choose0_62 h33 h34 e36 ?_
      refine wm_aload_n d_MM_choose0_65 rfl rfl ?_
      refine wm_iconst d_MM_choose0_66 ?_
      refine wm_iload d_MM_choose0_67 rfl ?_
      refine wm_if_eq (tgt := 77) d_MM_choose0_69 rfl h13 (fun c40 => ?_) (fun c40 => ?_)
      · replace h := h.1 c40
        obtain ⟨h41, h⟩ := h
        obtain ⟨h42, h⟩ := h
        refine wm_aload_n d_MM_choose0_77 rfl rfl ?_
        refine gf_MM_290 rfl d_MM_choose0_78 h41 ?_
        refine wm_iload d_MM_choose0_81 rfl ?_
        refine cf_MM_155 rfl d_MM_choose0_83 h42 (Nat.le_of_ble_eq_true rfl) (Ci.mono h (fun x44 M43 h => ?_))
        obtain ⟨h45, hOM43, h⟩ := h
        obtain ⟨h46, h⟩ := h
        refine cf_MM_385 rfl d_MM_choose0_86 h46 (Nat.le_of_ble_eq_true rfl) (Cv.mono h (fun M47 h => ?_))
        obtain ⟨hOM47, h⟩ := h
        refine wm_goto (tgt := 125) d_MM_choose0_89 rfl ?_
        refine wm_return d_MM_choose0_125 rfl ?_
        exact ⟨rfl, h⟩
      · replace h := h.2 c40
        refine wm_iload d_MM_choose0_72 rfl ?_
        refine wm_goto (tgt := 86) d_MM_choose0_74 rfl ?_
        refine cf_MM_385 rfl d_MM_choose0_86 (by rw [e36]; exact h33) (Nat.le_of_ble_eq_true rfl) (Cv.mono h (fun M50 h => ?_))
        obtain ⟨hOM50, h⟩ := h
        refine wm_goto (tgt := 125) d_MM_choose0_89 rfl ?_
        refine wm_return d_MM_choose0_125 rfl ?_
        exact ⟨rfl, h⟩
  clear h
  refine wm_if_ne (tgt := 29) d_MM_choose0_22 rfl (m_cmp32 _ _) (fun c9 => ?_) (fun c9 => ?_)
  · refine wm_iconst d_MM_choose0_29 ?_
    exact hJ 0 (if_neg c9).symm
  · replace c9 := Classical.not_not.mp c9
    refine wm_iconst d_MM_choose0_25 ?_
    refine wm_goto (tgt := 30) d_MM_choose0_26 rfl ?_
    exact hJ 1 (if_pos c9).symm
theorem d_MM_finish_0 : decode y_MM_finish.2.1 0 = .ok (.aload_n 1, 1) := dc9_43 (by decide +kernel)
theorem d_MM_finish_1 : decode y_MM_finish.2.1 1 = .ok (.getfield 273, 3) := dc9_180 (by decide +kernel)
theorem d_MM_finish_4 : decode y_MM_finish.2.1 4 = .ok (.iload_n 2, 1) := dc9_28 (by decide +kernel)
theorem d_MM_finish_5 : decode y_MM_finish.2.1 5 = .ok (.invokevirtual 155, 3) := dc9_182 (by decide +kernel)
theorem d_MM_finish_8 : decode y_MM_finish.2.1 8 = .ok (.istore_n 3, 1) := dc9_62 (by decide +kernel)
theorem d_MM_finish_9 : decode y_MM_finish.2.1 9 = .ok (.aload_n 1, 1) := dc9_43 (by decide +kernel)
theorem d_MM_finish_10 : decode y_MM_finish.2.1 10 = .ok (.getfield 276, 3) := dc9_180 (by decide +kernel)
theorem d_MM_finish_13 : decode y_MM_finish.2.1 13 = .ok (.iload_n 2, 1) := dc9_28 (by decide +kernel)
theorem d_MM_finish_14 : decode y_MM_finish.2.1 14 = .ok (.invokevirtual 155, 3) := dc9_182 (by decide +kernel)
theorem d_MM_finish_17 : decode y_MM_finish.2.1 17 = .ok (.istore 4, 2) := dc9_54 (by decide +kernel)
theorem d_MM_finish_19 : decode y_MM_finish.2.1 19 = .ok (.iconst 0, 1) := dc9_3 (by decide +kernel)
theorem d_MM_finish_20 : decode y_MM_finish.2.1 20 = .ok (.istore 5, 2) := dc9_54 (by decide +kernel)
theorem d_MM_finish_22 : decode y_MM_finish.2.1 22 = .ok (.aload_n 1, 1) := dc9_43 (by decide +kernel)
theorem d_MM_finish_23 : decode y_MM_finish.2.1 23 = .ok (.getfield 287, 3) := dc9_180 (by decide +kernel)
theorem d_MM_finish_26 : decode y_MM_finish.2.1 26 = .ok (.iload_n 2, 1) := dc9_28 (by decide +kernel)
theorem d_MM_finish_27 : decode y_MM_finish.2.1 27 = .ok (.invokevirtual 155, 3) := dc9_182 (by decide +kernel)
theorem d_MM_finish_30 : decode y_MM_finish.2.1 30 = .ok (.istore 6, 2) := dc9_54 (by decide +kernel)
theorem d_MM_finish_32 : decode y_MM_finish.2.1 32 = .ok (.iload 6, 2) := dc9_21 (by decide +kernel)
theorem d_MM_finish_34 : decode y_MM_finish.2.1 34 = .ok (.ifCond .lt 20, 3) := dc9_155 (by decide +kernel)
theorem d_MM_finish_54 : decode y_MM_finish.2.1 54 = .ok (.aload_n 0, 1) := dc9_42 (by decide +kernel)
theorem d_MM_finish_55 : decode y_MM_finish.2.1 55 = .ok (.getfield 370, 3) := dc9_180 (by decide +kernel)
theorem d_MM_finish_58 : decode y_MM_finish.2.1 58 = .ok (.iload 5, 2) := dc9_21 (by decide +kernel)
theorem d_MM_finish_60 : decode y_MM_finish.2.1 60 = .ok (.isub, 1) := dc9_100 (by decide +kernel)
theorem d_MM_finish_61 : decode y_MM_finish.2.1 61 = .ok (.istore 6, 2) := dc9_54 (by decide +kernel)
theorem d_MM_finish_63 : decode y_MM_finish.2.1 63 = .ok (.aload_n 0, 1) := dc9_42 (by decide +kernel)
theorem d_MM_finish_64 : decode y_MM_finish.2.1 64 = .ok (.iload 6, 2) := dc9_21 (by decide +kernel)
theorem d_MM_finish_66 : decode y_MM_finish.2.1 66 = .ok (.putfield 370, 3) := dc9_181 (by decide +kernel)
theorem d_MM_finish_69 : decode y_MM_finish.2.1 69 = .ok (.iload_n 3, 1) := dc9_29 (by decide +kernel)
theorem d_MM_finish_70 : decode y_MM_finish.2.1 70 = .ok (.bipush 31, 2) := dc9_16 (by decide +kernel)
theorem d_MM_finish_37 : decode y_MM_finish.2.1 37 = .ok (.iinc 5 1, 3) := by decide +kernel
theorem d_MM_finish_40 : decode y_MM_finish.2.1 40 = .ok (.aload_n 1, 1) := dc9_43 (by decide +kernel)
theorem d_MM_finish_41 : decode y_MM_finish.2.1 41 = .ok (.getfield 290, 3) := dc9_180 (by decide +kernel)
theorem d_MM_finish_44 : decode y_MM_finish.2.1 44 = .ok (.iload 6, 2) := dc9_21 (by decide +kernel)
theorem d_MM_finish_72 : decode y_MM_finish.2.1 72 = .ok (.if_icmp .ne 27, 3) := dc9_160 (by decide +kernel)
theorem d_MM_finish_75 : decode y_MM_finish.2.1 75 = .ok (.aload_n 0, 1) := dc9_42 (by decide +kernel)
theorem d_MM_finish_76 : decode y_MM_finish.2.1 76 = .ok (.aload_n 0, 1) := dc9_42 (by decide +kernel)
theorem d_MM_finish_77 : decode y_MM_finish.2.1 77 = .ok (.getfield 63, 3) := dc9_180 (by decide +kernel)
theorem d_MM_finish_80 : decode y_MM_finish.2.1 80 = .ok (.iload 6, 2) := dc9_21 (by decide +kernel)
theorem d_MM_finish_82 : decode y_MM_finish.2.1 82 = .ok (.laload, 1) := dc9_47 (by decide +kernel)
theorem d_MM_finish_83 : decode y_MM_finish.2.1 83 = .ok (.lconst 0, 1) := dc9_9 (by decide +kernel)
theorem d_MM_finish_84 : decode y_MM_finish.2.1 84 = .ok (.lcmp, 1) := dc9_148 (by decide +kernel)
theorem d_MM_finish_99 : decode y_MM_finish.2.1 99 = .ok (.iload_n 3, 1) := dc9_29 (by decide +kernel)
theorem d_MM_finish_100 : decode y_MM_finish.2.1 100 = .ok (.bipush 45, 2) := dc9_16 (by decide +kernel)
theorem d_MM_finish_102 : decode y_MM_finish.2.1 102 = .ok (.if_icmp .ne 25, 3) := dc9_160 (by decide +kernel)
theorem d_MM_finish_105 : decode y_MM_finish.2.1 105 = .ok (.aload_n 0, 1) := dc9_42 (by decide +kernel)
theorem d_MM_finish_106 : decode y_MM_finish.2.1 106 = .ok (.aload_n 0, 1) := dc9_42 (by decide +kernel)
theorem d_MM_finish_107 : decode y_MM_finish.2.1 107 = .ok (.getfield 63, 3) := dc9_180 (by decide +kernel)
theorem d_MM_finish_110 : decode y_MM_finish.2.1 110 = .ok (.iload 6, 2) := dc9_21 (by decide +kernel)
theorem d_MM_finish_112 : decode y_MM_finish.2.1 112 = .ok (.laload, 1) := dc9_47 (by decide +kernel)
theorem d_MM_finish_113 : decode y_MM_finish.2.1 113 = .ok (.lneg, 1) := dc9_117 (by decide +kernel)
theorem d_MM_finish_114 : decode y_MM_finish.2.1 114 = .ok (.aload_n 0, 1) := dc9_42 (by decide +kernel)
theorem d_MM_finish_115 : decode y_MM_finish.2.1 115 = .ok (.getfield 67, 3) := dc9_180 (by decide +kernel)
theorem d_MM_finish_118 : decode y_MM_finish.2.1 118 = .ok (.iload 6, 2) := dc9_21 (by decide +kernel)
theorem d_MM_finish_120 : decode y_MM_finish.2.1 120 = .ok (.laload, 1) := dc9_47 (by decide +kernel)
theorem d_MM_finish_127 : decode y_MM_finish.2.1 127 = .ok (.iload_n 3, 1) := dc9_29 (by decide +kernel)
theorem d_MM_finish_128 : decode y_MM_finish.2.1 128 = .ok (.bipush 14, 2) := dc9_16 (by decide +kernel)
theorem d_MM_finish_130 : decode y_MM_finish.2.1 130 = .ok (.if_icmp .eq 9, 3) := dc9_159 (by decide +kernel)
theorem d_MM_finish_133 : decode y_MM_finish.2.1 133 = .ok (.iload_n 3, 1) := dc9_29 (by decide +kernel)
theorem d_MM_finish_134 : decode y_MM_finish.2.1 134 = .ok (.bipush 15, 2) := dc9_16 (by decide +kernel)
theorem d_MM_finish_136 : decode y_MM_finish.2.1 136 = .ok (.if_icmp .ne 25, 3) := dc9_160 (by decide +kernel)
theorem d_MM_finish_161 : decode y_MM_finish.2.1 161 = .ok (.iload_n 3, 1) := dc9_29 (by decide +kernel)
theorem d_MM_finish_85 : decode y_MM_finish.2.1 85 = .ok (.ifCond .ne 7, 3) := dc9_154 (by decide +kernel)
theorem d_MM_finish_88 : decode y_MM_finish.2.1 88 = .ok (.iconst 1, 1) := dc9_4 (by decide +kernel)
theorem d_MM_finish_89 : decode y_MM_finish.2.1 89 = .ok (.goto 4, 3) := dc9_167 (by decide +kernel)
theorem d_MM_finish_92 : decode y_MM_finish.2.1 92 = .ok (.iconst 0, 1) := dc9_3 (by decide +kernel)
theorem d_MM_finish_93 : decode y_MM_finish.2.1 93 = .ok (.invokevirtual 397, 3) := dc9_182 (by decide +kernel)
theorem d_MM_finish_96 : decode y_MM_finish.2.1 96 = .ok (.goto 304, 3) := dc9_167 (by decide +kernel)
theorem d_MM_finish_121 : decode y_MM_finish.2.1 121 = .ok (.invokevirtual 373, 3) := dc9_182 (by decide +kernel)
theorem d_MM_finish_124 : decode y_MM_finish.2.1 124 = .ok (.goto 276, 3) := dc9_167 (by decide +kernel)
theorem d_MM_finish_139 : decode y_MM_finish.2.1 139 = .ok (.aload_n 0, 1) := dc9_42 (by decide +kernel)
theorem d_MM_finish_140 : decode y_MM_finish.2.1 140 = .ok (.iload_n 3, 1) := dc9_29 (by decide +kernel)
theorem d_MM_finish_141 : decode y_MM_finish.2.1 141 = .ok (.bipush 14, 2) := dc9_16 (by decide +kernel)
theorem d_MM_finish_143 : decode y_MM_finish.2.1 143 = .ok (.if_icmp .ne 7, 3) := dc9_160 (by decide +kernel)
theorem d_MM_finish_146 : decode y_MM_finish.2.1 146 = .ok (.iconst 1, 1) := dc9_4 (by decide +kernel)
theorem d_MM_finish_147 : decode y_MM_finish.2.1 147 = .ok (.goto 4, 3) := dc9_167 (by decide +kernel)
theorem d_MM_finish_150 : decode y_MM_finish.2.1 150 = .ok (.iconst 0, 1) := dc9_3 (by decide +kernel)
theorem d_MM_finish_151 : decode y_MM_finish.2.1 151 = .ok (.iload 6, 2) := dc9_21 (by decide +kernel)
theorem d_MM_finish_153 : decode y_MM_finish.2.1 153 = .ok (.iload 5, 2) := dc9_21 (by decide +kernel)
theorem d_MM_finish_155 : decode y_MM_finish.2.1 155 = .ok (.invokevirtual 415, 3) := dc9_182 (by decide +kernel)
theorem d_MM_finish_158 : decode y_MM_finish.2.1 158 = .ok (.goto 242, 3) := dc9_167 (by decide +kernel)
theorem d_MM_finish_162 : decode y_MM_finish.2.1 162 = .ok (.invokestatic 261, 3) := dc9_184 (by decide +kernel)
theorem d_MM_finish_165 : decode y_MM_finish.2.1 165 = .ok (.ifCond .eq 196, 3) := dc9_153 (by decide +kernel)
theorem d_MM_finish_361 : decode y_MM_finish.2.1 361 = .ok (.aload_n 0, 1) := dc9_42 (by decide +kernel)
theorem d_MM_finish_362 : decode y_MM_finish.2.1 362 = .ok (.iload_n 3, 1) := dc9_29 (by decide +kernel)
theorem d_MM_finish_363 : decode y_MM_finish.2.1 363 = .ok (.aload_n 0, 1) := dc9_42 (by decide +kernel)
theorem d_MM_finish_364 : decode y_MM_finish.2.1 364 = .ok (.getfield 63, 3) := dc9_180 (by decide +kernel)
theorem d_MM_finish_367 : decode y_MM_finish.2.1 367 = .ok (.iload 6, 2) := dc9_21 (by decide +kernel)
theorem d_MM_finish_369 : decode y_MM_finish.2.1 369 = .ok (.laload, 1) := dc9_47 (by decide +kernel)
theorem d_MM_finish_370 : decode y_MM_finish.2.1 370 = .ok (.aload_n 0, 1) := dc9_42 (by decide +kernel)
theorem d_MM_finish_371 : decode y_MM_finish.2.1 371 = .ok (.getfield 67, 3) := dc9_180 (by decide +kernel)
theorem d_MM_finish_374 : decode y_MM_finish.2.1 374 = .ok (.iload 6, 2) := dc9_21 (by decide +kernel)
theorem d_MM_finish_376 : decode y_MM_finish.2.1 376 = .ok (.laload, 1) := dc9_47 (by decide +kernel)
theorem d_MM_finish_377 : decode y_MM_finish.2.1 377 = .ok (.aload_n 0, 1) := dc9_42 (by decide +kernel)
theorem d_MM_finish_378 : decode y_MM_finish.2.1 378 = .ok (.getfield 63, 3) := dc9_180 (by decide +kernel)
theorem d_MM_finish_381 : decode y_MM_finish.2.1 381 = .ok (.iload 6, 2) := dc9_21 (by decide +kernel)
theorem d_MM_finish_383 : decode y_MM_finish.2.1 383 = .ok (.iconst 1, 1) := dc9_4 (by decide +kernel)
theorem d_MM_finish_384 : decode y_MM_finish.2.1 384 = .ok (.iadd, 1) := dc9_96 (by decide +kernel)
theorem d_MM_finish_385 : decode y_MM_finish.2.1 385 = .ok (.laload, 1) := dc9_47 (by decide +kernel)
theorem d_MM_finish_386 : decode y_MM_finish.2.1 386 = .ok (.aload_n 0, 1) := dc9_42 (by decide +kernel)
theorem d_MM_finish_387 : decode y_MM_finish.2.1 387 = .ok (.getfield 67, 3) := dc9_180 (by decide +kernel)
theorem d_MM_finish_390 : decode y_MM_finish.2.1 390 = .ok (.iload 6, 2) := dc9_21 (by decide +kernel)
theorem d_MM_finish_392 : decode y_MM_finish.2.1 392 = .ok (.iconst 1, 1) := dc9_4 (by decide +kernel)
theorem d_MM_finish_393 : decode y_MM_finish.2.1 393 = .ok (.iadd, 1) := dc9_96 (by decide +kernel)
theorem d_MM_finish_394 : decode y_MM_finish.2.1 394 = .ok (.laload, 1) := dc9_47 (by decide +kernel)
theorem d_MM_finish_395 : decode y_MM_finish.2.1 395 = .ok (.iload 4, 2) := dc9_21 (by decide +kernel)
theorem d_MM_finish_168 : decode y_MM_finish.2.1 168 = .ok (.aload_n 0, 1) := dc9_42 (by decide +kernel)
theorem d_MM_finish_169 : decode y_MM_finish.2.1 169 = .ok (.getfield 67, 3) := dc9_180 (by decide +kernel)
theorem d_MM_finish_172 : decode y_MM_finish.2.1 172 = .ok (.iload 6, 2) := dc9_21 (by decide +kernel)
theorem d_MM_finish_174 : decode y_MM_finish.2.1 174 = .ok (.laload, 1) := dc9_47 (by decide +kernel)
theorem d_MM_finish_175 : decode y_MM_finish.2.1 175 = .ok (.lconst 0, 1) := dc9_9 (by decide +kernel)
theorem d_MM_finish_176 : decode y_MM_finish.2.1 176 = .ok (.lcmp, 1) := dc9_148 (by decide +kernel)
theorem d_MM_finish_177 : decode y_MM_finish.2.1 177 = .ok (.ifCond .ne 23, 3) := dc9_154 (by decide +kernel)
theorem d_MM_finish_180 : decode y_MM_finish.2.1 180 = .ok (.aload_n 0, 1) := dc9_42 (by decide +kernel)
theorem d_MM_finish_181 : decode y_MM_finish.2.1 181 = .ok (.getfield 63, 3) := dc9_180 (by decide +kernel)
theorem d_MM_finish_184 : decode y_MM_finish.2.1 184 = .ok (.iload 6, 2) := dc9_21 (by decide +kernel)
theorem d_MM_finish_186 : decode y_MM_finish.2.1 186 = .ok (.laload, 1) := dc9_47 (by decide +kernel)
theorem d_MM_finish_187 : decode y_MM_finish.2.1 187 = .ok (.aload_n 0, 1) := dc9_42 (by decide +kernel)
theorem d_MM_finish_188 : decode y_MM_finish.2.1 188 = .ok (.getfield 63, 3) := dc9_180 (by decide +kernel)
theorem d_MM_finish_191 : decode y_MM_finish.2.1 191 = .ok (.iload 6, 2) := dc9_21 (by decide +kernel)
theorem d_MM_finish_193 : decode y_MM_finish.2.1 193 = .ok (.iconst 1, 1) := dc9_4 (by decide +kernel)
theorem d_MM_finish_194 : decode y_MM_finish.2.1 194 = .ok (.iadd, 1) := dc9_96 (by decide +kernel)
theorem d_MM_finish_195 : decode y_MM_finish.2.1 195 = .ok (.laload, 1) := dc9_47 (by decide +kernel)
theorem d_MM_finish_196 : decode y_MM_finish.2.1 196 = .ok (.lsub, 1) := dc9_101 (by decide +kernel)
theorem d_MM_finish_197 : decode y_MM_finish.2.1 197 = .ok (.goto 38, 3) := dc9_167 (by decide +kernel)
theorem d_MM_finish_235 : decode y_MM_finish.2.1 235 = .ok (.lstore 7, 2) := dc9_55 (by decide +kernel)
theorem d_MM_finish_237 : decode y_MM_finish.2.1 237 = .ok (.aload_n 0, 1) := dc9_42 (by decide +kernel)
theorem d_MM_finish_238 : decode y_MM_finish.2.1 238 = .ok (.iload_n 3, 1) := dc9_29 (by decide +kernel)
theorem d_MM_finish_239 : decode y_MM_finish.2.1 239 = .ok (.bipush 23, 2) := dc9_16 (by decide +kernel)
theorem d_MM_finish_200 : decode y_MM_finish.2.1 200 = .ok (.aload_n 0, 1) := dc9_42 (by decide +kernel)
theorem d_MM_finish_201 : decode y_MM_finish.2.1 201 = .ok (.getfield 63, 3) := dc9_180 (by decide +kernel)
theorem d_MM_finish_204 : decode y_MM_finish.2.1 204 = .ok (.iload 6, 2) := dc9_21 (by decide +kernel)
theorem d_MM_finish_206 : decode y_MM_finish.2.1 206 = .ok (.laload, 1) := dc9_47 (by decide +kernel)
theorem d_MM_finish_207 : decode y_MM_finish.2.1 207 = .ok (.aload_n 0, 1) := dc9_42 (by decide +kernel)
theorem d_MM_finish_208 : decode y_MM_finish.2.1 208 = .ok (.getfield 67, 3) := dc9_180 (by decide +kernel)
theorem d_MM_finish_211 : decode y_MM_finish.2.1 211 = .ok (.iload 6, 2) := dc9_21 (by decide +kernel)
theorem d_MM_finish_213 : decode y_MM_finish.2.1 213 = .ok (.iconst 1, 1) := dc9_4 (by decide +kernel)
theorem d_MM_finish_214 : decode y_MM_finish.2.1 214 = .ok (.iadd, 1) := dc9_96 (by decide +kernel)
theorem d_MM_finish_215 : decode y_MM_finish.2.1 215 = .ok (.laload, 1) := dc9_47 (by decide +kernel)
theorem d_MM_finish_216 : decode y_MM_finish.2.1 216 = .ok (.lmul, 1) := dc9_105 (by decide +kernel)
theorem d_MM_finish_217 : decode y_MM_finish.2.1 217 = .ok (.aload_n 0, 1) := dc9_42 (by decide +kernel)
theorem d_MM_finish_218 : decode y_MM_finish.2.1 218 = .ok (.getfield 63, 3) := dc9_180 (by decide +kernel)
theorem d_MM_finish_221 : decode y_MM_finish.2.1 221 = .ok (.iload 6, 2) := dc9_21 (by decide +kernel)
theorem d_MM_finish_223 : decode y_MM_finish.2.1 223 = .ok (.iconst 1, 1) := dc9_4 (by decide +kernel)
theorem d_MM_finish_224 : decode y_MM_finish.2.1 224 = .ok (.iadd, 1) := dc9_96 (by decide +kernel)
theorem d_MM_finish_225 : decode y_MM_finish.2.1 225 = .ok (.laload, 1) := dc9_47 (by decide +kernel)
theorem d_MM_finish_226 : decode y_MM_finish.2.1 226 = .ok (.aload_n 0, 1) := dc9_42 (by decide +kernel)
theorem d_MM_finish_227 : decode y_MM_finish.2.1 227 = .ok (.getfield 67, 3) := dc9_180 (by decide +kernel)
theorem d_MM_finish_230 : decode y_MM_finish.2.1 230 = .ok (.iload 6, 2) := dc9_21 (by decide +kernel)
theorem d_MM_finish_232 : decode y_MM_finish.2.1 232 = .ok (.laload, 1) := dc9_47 (by decide +kernel)
theorem d_MM_finish_233 : decode y_MM_finish.2.1 233 = .ok (.lmul, 1) := dc9_105 (by decide +kernel)
theorem d_MM_finish_234 : decode y_MM_finish.2.1 234 = .ok (.lsub, 1) := dc9_101 (by decide +kernel)
theorem d_MM_finish_397 : decode y_MM_finish.2.1 397 = .ok (.invokevirtual 419, 3) := dc9_182 (by decide +kernel)
theorem d_MM_finish_241 : decode y_MM_finish.2.1 241 = .ok (.if_icmp .ne 18, 3) := dc9_160 (by decide +kernel)
theorem d_MM_finish_244 : decode y_MM_finish.2.1 244 = .ok (.lload 7, 2) := dc9_22 (by decide +kernel)
theorem d_MM_finish_246 : decode y_MM_finish.2.1 246 = .ok (.lconst 0, 1) := dc9_9 (by decide +kernel)
theorem d_MM_finish_247 : decode y_MM_finish.2.1 247 = .ok (.lcmp, 1) := dc9_148 (by decide +kernel)
theorem d_MM_finish_248 : decode y_MM_finish.2.1 248 = .ok (.ifCond .ne 7, 3) := dc9_154 (by decide +kernel)
theorem d_MM_finish_251 : decode y_MM_finish.2.1 251 = .ok (.iconst 1, 1) := dc9_4 (by decide +kernel)
theorem d_MM_finish_252 : decode y_MM_finish.2.1 252 = .ok (.goto 103, 3) := dc9_167 (by decide +kernel)
theorem d_MM_finish_255 : decode y_MM_finish.2.1 255 = .ok (.iconst 0, 1) := dc9_3 (by decide +kernel)
theorem d_MM_finish_256 : decode y_MM_finish.2.1 256 = .ok (.goto 99, 3) := dc9_167 (by decide +kernel)
theorem d_MM_finish_259 : decode y_MM_finish.2.1 259 = .ok (.iload_n 3, 1) := dc9_29 (by decide +kernel)
theorem d_MM_finish_260 : decode y_MM_finish.2.1 260 = .ok (.bipush 18, 2) := dc9_16 (by decide +kernel)
theorem d_MM_finish_262 : decode y_MM_finish.2.1 262 = .ok (.if_icmp .ne 18, 3) := dc9_160 (by decide +kernel)
theorem d_MM_finish_265 : decode y_MM_finish.2.1 265 = .ok (.lload 7, 2) := dc9_22 (by decide +kernel)
theorem d_MM_finish_267 : decode y_MM_finish.2.1 267 = .ok (.lconst 0, 1) := dc9_9 (by decide +kernel)
theorem d_MM_finish_268 : decode y_MM_finish.2.1 268 = .ok (.lcmp, 1) := dc9_148 (by decide +kernel)
theorem d_MM_finish_269 : decode y_MM_finish.2.1 269 = .ok (.ifCond .eq 7, 3) := dc9_153 (by decide +kernel)
theorem d_MM_finish_276 : decode y_MM_finish.2.1 276 = .ok (.iconst 0, 1) := dc9_3 (by decide +kernel)
theorem d_MM_finish_277 : decode y_MM_finish.2.1 277 = .ok (.goto 78, 3) := dc9_167 (by decide +kernel)
theorem d_MM_finish_272 : decode y_MM_finish.2.1 272 = .ok (.iconst 1, 1) := dc9_4 (by decide +kernel)
theorem d_MM_finish_273 : decode y_MM_finish.2.1 273 = .ok (.goto 82, 3) := dc9_167 (by decide +kernel)
theorem d_MM_finish_280 : decode y_MM_finish.2.1 280 = .ok (.iload_n 3, 1) := dc9_29 (by decide +kernel)
theorem d_MM_finish_281 : decode y_MM_finish.2.1 281 = .ok (.bipush 21, 2) := dc9_16 (by decide +kernel)
theorem d_MM_finish_283 : decode y_MM_finish.2.1 283 = .ok (.if_icmp .ne 18, 3) := dc9_160 (by decide +kernel)
theorem d_MM_finish_286 : decode y_MM_finish.2.1 286 = .ok (.lload 7, 2) := dc9_22 (by decide +kernel)
theorem d_MM_finish_288 : decode y_MM_finish.2.1 288 = .ok (.lconst 0, 1) := dc9_9 (by decide +kernel)
theorem d_MM_finish_289 : decode y_MM_finish.2.1 289 = .ok (.lcmp, 1) := dc9_148 (by decide +kernel)
theorem d_MM_finish_290 : decode y_MM_finish.2.1 290 = .ok (.ifCond .ge 7, 3) := dc9_156 (by decide +kernel)
theorem d_MM_finish_297 : decode y_MM_finish.2.1 297 = .ok (.iconst 0, 1) := dc9_3 (by decide +kernel)
theorem d_MM_finish_298 : decode y_MM_finish.2.1 298 = .ok (.goto 57, 3) := dc9_167 (by decide +kernel)
theorem d_MM_finish_293 : decode y_MM_finish.2.1 293 = .ok (.iconst 1, 1) := dc9_4 (by decide +kernel)
theorem d_MM_finish_294 : decode y_MM_finish.2.1 294 = .ok (.goto 61, 3) := dc9_167 (by decide +kernel)
theorem d_MM_finish_301 : decode y_MM_finish.2.1 301 = .ok (.iload_n 3, 1) := dc9_29 (by decide +kernel)
theorem d_MM_finish_302 : decode y_MM_finish.2.1 302 = .ok (.bipush 19, 2) := dc9_16 (by decide +kernel)
theorem d_MM_finish_304 : decode y_MM_finish.2.1 304 = .ok (.if_icmp .ne 18, 3) := dc9_160 (by decide +kernel)
theorem d_MM_finish_307 : decode y_MM_finish.2.1 307 = .ok (.lload 7, 2) := dc9_22 (by decide +kernel)
theorem d_MM_finish_309 : decode y_MM_finish.2.1 309 = .ok (.lconst 0, 1) := dc9_9 (by decide +kernel)
theorem d_MM_finish_310 : decode y_MM_finish.2.1 310 = .ok (.lcmp, 1) := dc9_148 (by decide +kernel)
theorem d_MM_finish_311 : decode y_MM_finish.2.1 311 = .ok (.ifCond .gt 7, 3) := dc9_157 (by decide +kernel)
theorem d_MM_finish_318 : decode y_MM_finish.2.1 318 = .ok (.iconst 0, 1) := dc9_3 (by decide +kernel)
theorem d_MM_finish_319 : decode y_MM_finish.2.1 319 = .ok (.goto 36, 3) := dc9_167 (by decide +kernel)
theorem d_MM_finish_314 : decode y_MM_finish.2.1 314 = .ok (.iconst 1, 1) := dc9_4 (by decide +kernel)
theorem d_MM_finish_315 : decode y_MM_finish.2.1 315 = .ok (.goto 40, 3) := dc9_167 (by decide +kernel)
theorem d_MM_finish_322 : decode y_MM_finish.2.1 322 = .ok (.iload_n 3, 1) := dc9_29 (by decide +kernel)
theorem d_MM_finish_323 : decode y_MM_finish.2.1 323 = .ok (.bipush 22, 2) := dc9_16 (by decide +kernel)
theorem d_MM_finish_325 : decode y_MM_finish.2.1 325 = .ok (.if_icmp .ne 18, 3) := dc9_160 (by decide +kernel)
theorem d_MM_finish_328 : decode y_MM_finish.2.1 328 = .ok (.lload 7, 2) := dc9_22 (by decide +kernel)
theorem d_MM_finish_330 : decode y_MM_finish.2.1 330 = .ok (.lconst 0, 1) := dc9_9 (by decide +kernel)
theorem d_MM_finish_331 : decode y_MM_finish.2.1 331 = .ok (.lcmp, 1) := dc9_148 (by decide +kernel)
theorem d_MM_finish_332 : decode y_MM_finish.2.1 332 = .ok (.ifCond .le 7, 3) := dc9_158 (by decide +kernel)
theorem d_MM_finish_339 : decode y_MM_finish.2.1 339 = .ok (.iconst 0, 1) := dc9_3 (by decide +kernel)
theorem d_MM_finish_340 : decode y_MM_finish.2.1 340 = .ok (.goto 15, 3) := dc9_167 (by decide +kernel)
theorem d_MM_finish_335 : decode y_MM_finish.2.1 335 = .ok (.iconst 1, 1) := dc9_4 (by decide +kernel)
theorem d_MM_finish_336 : decode y_MM_finish.2.1 336 = .ok (.goto 19, 3) := dc9_167 (by decide +kernel)
theorem d_MM_finish_343 : decode y_MM_finish.2.1 343 = .ok (.lload 7, 2) := dc9_22 (by decide +kernel)
theorem d_MM_finish_345 : decode y_MM_finish.2.1 345 = .ok (.lconst 0, 1) := dc9_9 (by decide +kernel)
theorem d_MM_finish_346 : decode y_MM_finish.2.1 346 = .ok (.lcmp, 1) := dc9_148 (by decide +kernel)
theorem d_MM_finish_347 : decode y_MM_finish.2.1 347 = .ok (.ifCond .lt 7, 3) := dc9_155 (by decide +kernel)
theorem d_MM_finish_354 : decode y_MM_finish.2.1 354 = .ok (.iconst 0, 1) := dc9_3 (by decide +kernel)
theorem d_MM_finish_350 : decode y_MM_finish.2.1 350 = .ok (.iconst 1, 1) := dc9_4 (by decide +kernel)
theorem d_MM_finish_351 : decode y_MM_finish.2.1 351 = .ok (.goto 4, 3) := dc9_167 (by decide +kernel)
theorem d_MM_finish_355 : decode y_MM_finish.2.1 355 = .ok (.invokevirtual 397, 3) := dc9_182 (by decide +kernel)
theorem d_MM_finish_358 : decode y_MM_finish.2.1 358 = .ok (.goto 42, 3) := dc9_167 (by decide +kernel)
theorem d_MM_finish_46 : decode y_MM_finish.2.1 46 = .ok (.invokevirtual 155, 3) := dc9_182 (by decide +kernel)
theorem d_MM_finish_49 : decode y_MM_finish.2.1 49 = .ok (.istore 6, 2) := dc9_54 (by decide +kernel)
theorem d_MM_finish_51 : decode y_MM_finish.2.1 51 = .ok (.goto (-19), 3) := dc9_167 (by decide +kernel)
theorem d_MM_finish_400 : decode y_MM_finish.2.1 400 = .ok (.return_, 1) := dc9_177 (by decide +kernel)
def h_MM_finish_32 (G : mG) (d : Nat) (a0 : Nat) (a1 : Nat) (l3 : Int) (l4 : Int) (l5 : Int) (l6 : Int) (M : mM) (Q : mM → Prop) : Prop := mWm G y_MM_finish (d + 1) 32 [vr a0, vr a1, vd, vi l3, vi l4, vi l5, vi l6, vd, vd] [] M (fun r9 M9 => r9 = none ∧ Q M9)
def h_MM_finish_400 (G : mG) (d : Nat) (M : mM) (Q : mM → Prop) : Prop := mWm G y_MM_finish (d + 1) 400 [vd, vd, vd, vd, vd, vd, vd, vd, vd] [] M (fun r9 M9 => r9 = none ∧ Q M9)
theorem k_MM_finish {G : mG} {d : Nat} {a0 : Nat} {a1 : Nat} {l2 : Int} {M : mM} {Q : mM → Prop} (hO : mOk M) (hi_l2 : i32 l2)
    (h : mK M a1 = 16 ∧ mK M (mR M a1 0) = 15 ∧ Ci G y_MN_at d [vr (mR M a1 0), vi l2] M (fun x4 M3 => i32 x4 ∧ mOk M3 ∧ (mK M3 a1 = 16 ∧ mK M3 (mR M3 a1 1) = 15 ∧ Ci G y_MN_at d [vr (mR M3 a1 1), vi l2] M3 (fun x9 M8 => i32 x9 ∧ mOk M8 ∧ (mK M8 a1 = 16 ∧ mK M8 (mR M8 a1 4) = 15 ∧ Ci G y_MN_at d [vr (mR M8 a1 4), vi l2] M8 (fun x14 M13 => i32 x14 ∧ mOk M13 ∧ (h_MM_finish_32 G d a0 a1 x4 x9 0 x14 M13 Q))))))) :
    Cv G y_MM_finish (d + 1) [vr a0, vr a1, vi l2] M Q := by
  refine wm_open (y := y_MM_finish) rfl (Nat.le_of_ble_eq_true rfl) (L := [vr a0, vr a1, vi l2, vd, vd, vd, vd, vd, vd]) rfl ?_
  obtain ⟨h1, h⟩ := h
  obtain ⟨h2, h⟩ := h
  refine wm_aload_n d_MM_finish_0 rfl rfl ?_
  refine gf_MM_273 rfl d_MM_finish_1 h1 ?_
  refine wm_iload_n d_MM_finish_4 rfl rfl ?_
  refine cf_MM_155 rfl d_MM_finish_5 h2 (Nat.le_of_ble_eq_true rfl) (Ci.mono h (fun x4 M3 h => ?_))
  obtain ⟨h5, hOM3, h⟩ := h
  obtain ⟨h6, h⟩ := h
  obtain ⟨h7, h⟩ := h
  refine wm_istore_n d_MM_finish_8 rfl (by decide) (L' := [vr a0, vr a1, vi l2, vi x4, vd, vd, vd, vd, vd]) rfl ?_
  refine wm_aload_n d_MM_finish_9 rfl rfl ?_
  refine gf_MM_276 rfl d_MM_finish_10 h6 ?_
  refine wm_iload_n d_MM_finish_13 rfl rfl ?_
  refine cf_MM_155 rfl d_MM_finish_14 h7 (Nat.le_of_ble_eq_true rfl) (Ci.mono h (fun x9 M8 h => ?_))
  obtain ⟨h10, hOM8, h⟩ := h
  obtain ⟨h11, h⟩ := h
  obtain ⟨h12, h⟩ := h
  refine wm_istore d_MM_finish_17 (by decide) (L' := [vr a0, vr a1, vi l2, vi x4, vi x9, vd, vd, vd, vd]) rfl ?_
  refine wm_iconst d_MM_finish_19 ?_
  refine wm_istore d_MM_finish_20 (by decide) (L' := [vr a0, vr a1, vi l2, vi x4, vi x9, vi 0, vd, vd, vd]) rfl ?_
  refine wm_aload_n d_MM_finish_22 rfl rfl ?_
  refine gf_MM_287 rfl d_MM_finish_23 h11 ?_
  refine wm_iload_n d_MM_finish_26 rfl rfl ?_
  refine cf_MM_155 rfl d_MM_finish_27 h12 (Nat.le_of_ble_eq_true rfl) (Ci.mono h (fun x14 M13 h => ?_))
  obtain ⟨h15, hOM13, h⟩ := h
  refine wm_istore d_MM_finish_30 (by decide) (L' := [vr a0, vr a1, vi l2, vi x4, vi x9, vi 0, vi x14, vd, vd]) rfl ?_
  refine wm_less (L' := [vr a0, vr a1, vd, vi x4, vi x9, vi 0, vi x14, vd, vd]) ⟨Or.inr rfl, Or.inr rfl, Or.inl rfl, Or.inr rfl, Or.inr rfl, Or.inr rfl, Or.inr rfl, Or.inl rfl, Or.inl rfl, trivial⟩ ?_
  exact h
theorem k_MM_finish_32 {G : mG} {d : Nat} {a0 : Nat} {a1 : Nat} {l3 : Int} {l4 : Int} {l5 : Int} {l6 : Int} {M : mM} {Q : mM → Prop} (hO : mOk M) (hi_l3 : i32 l3) (hi_l4 : i32 l4) (hi_l5 : i32 l5) (hi_l6 : i32 l6)
    (h : ((l6 < 0) → (mK M a0 = 14 ∧ i32 ((mI M a0 23) - l5) ∧ ∀ M22, M22 = mUI M a0 23 ((mI M a0 23) - l5) → ((l3 = 31) → (mK M22 (mR M22 a0 21) = 33 ∧ ((0 : Int) ≤ (mI M a0 23) - l5 ∧ (mI M a0 23) - l5 < (mN M22 (mR M22 a0 21) : Int)) ∧ ∀ v34 : Int, v34 = (if (cmpL (mL M22 (mR M22 a0 21) (Int.toNat ((mI M a0 23) - l5))) 0 = 0) then 1 else 0) → Cv G y_MM_pushTruth d [vr a0, vi v34] M22 (fun M39 => mOk M39 ∧ (h_MM_finish_400 G d  M39 Q)))) ∧ (¬ (l3 = 31) → (((l3 = 45) → (mK M22 (mR M22 a0 21) = 33 ∧ ((0 : Int) ≤ (mI M a0 23) - l5 ∧ (mI M a0 23) - l5 < (mN M22 (mR M22 a0 21) : Int)) ∧ mK M22 (mR M22 a0 22) = 33 ∧ ((0 : Int) ≤ (mI M a0 23) - l5 ∧ (mI M a0 23) - l5 < (mN M22 (mR M22 a0 22) : Int)) ∧ Cv G y_MM_push d [vr a0, vl (-(mL M22 (mR M22 a0 21) (Int.toNat ((mI M a0 23) - l5)))), vl (mL M22 (mR M22 a0 22) (Int.toNat ((mI M a0 23) - l5)))] M22 (fun M51 => mOk M51 ∧ (h_MM_finish_400 G d  M51 Q)))) ∧ (¬ (l3 = 45) → ((((l3 = 14) ∨ (l3 = 15)) → (∀ v59 : Int, v59 = (if (l3 = 14) then 1 else 0) → Cv G y_MM_best d [vr a0, vi v59, vi ((mI M a0 23) - l5), vi l5] M22 (fun M64 => mOk M64 ∧ (h_MM_finish_400 G d  M64 Q)))) ∧ (¬ ((l3 = 14) ∨ (l3 = 15)) → (Ci G y_MM_isComparison d [vi l3] M22 (fun x70 M69 => i32 x70 ∧ mOk M69 ∧ (((x70 = 0) → (mK M69 a0 = 14 ∧ mK M69 (mR M69 a0 21) = 33 ∧ ((0 : Int) ≤ (mI M a0 23) - l5 ∧ (mI M a0 23) - l5 < (mN M69 (mR M69 a0 21) : Int)) ∧ mK M69 (mR M69 a0 22) = 33 ∧ ((0 : Int) ≤ (mI M a0 23) - l5 ∧ (mI M a0 23) - l5 < (mN M69 (mR M69 a0 22) : Int)) ∧ ((0 : Int) ≤ ((mI M a0 23) - l5) + 1 ∧ ((mI M a0 23) - l5) + 1 < (mN M69 (mR M69 a0 21) : Int)) ∧ ((0 : Int) ≤ ((mI M a0 23) - l5) + 1 ∧ ((mI M a0 23) - l5) + 1 < (mN M69 (mR M69 a0 22) : Int)) ∧ Cv G y_MM_reckon d [vr a0, vi l3, vl (mL M69 (mR M69 a0 21) (Int.toNat ((mI M a0 23) - l5))), vl (mL M69 (mR M69 a0 22) (Int.toNat ((mI M a0 23) - l5))), vl (mL M69 (mR M69 a0 21) (Int.toNat (((mI M a0 23) - l5) + 1))), vl (mL M69 (mR M69 a0 22) (Int.toNat (((mI M a0 23) - l5) + 1))), vi l4] M69 (fun M93 => mOk M93 ∧ (h_MM_finish_400 G d  M93 Q)))) ∧ (¬ (x70 = 0) → (mK M69 a0 = 14 ∧ mK M69 (mR M69 a0 22) = 33 ∧ ((0 : Int) ≤ (mI M a0 23) - l5 ∧ (mI M a0 23) - l5 < (mN M69 (mR M69 a0 22) : Int)) ∧ (((cmpL (mL M69 (mR M69 a0 22) (Int.toNat ((mI M a0 23) - l5))) 0 = 0) → (mK M69 (mR M69 a0 21) = 33 ∧ ((0 : Int) ≤ (mI M a0 23) - l5 ∧ (mI M a0 23) - l5 < (mN M69 (mR M69 a0 21) : Int)) ∧ ((0 : Int) ≤ ((mI M a0 23) - l5) + 1 ∧ ((mI M a0 23) - l5) + 1 < (mN M69 (mR M69 a0 21) : Int)))) ∧ (¬ (cmpL (mL M69 (mR M69 a0 22) (Int.toNat ((mI M a0 23) - l5))) 0 = 0) → (mK M69 (mR M69 a0 21) = 33 ∧ ((0 : Int) ≤ (mI M a0 23) - l5 ∧ (mI M a0 23) - l5 < (mN M69 (mR M69 a0 21) : Int)) ∧ ((0 : Int) ≤ ((mI M a0 23) - l5) + 1 ∧ ((mI M a0 23) - l5) + 1 < (mN M69 (mR M69 a0 22) : Int)) ∧ ((0 : Int) ≤ ((mI M a0 23) - l5) + 1 ∧ ((mI M a0 23) - l5) + 1 < (mN M69 (mR M69 a0 21) : Int)) ∧ ((0 : Int) ≤ (mI M a0 23) - l5 ∧ (mI M a0 23) - l5 < (mN M69 (mR M69 a0 22) : Int))))) ∧ ∀ v108 : Int, v108 = (if (cmpL (mL M69 (mR M69 a0 22) (Int.toNat ((mI M a0 23) - l5))) 0 = 0) then (mL M69 (mR M69 a0 21) (Int.toNat ((mI M a0 23) - l5))) - (mL M69 (mR M69 a0 21) (Int.toNat (((mI M a0 23) - l5) + 1))) else ((mL M69 (mR M69 a0 21) (Int.toNat ((mI M a0 23) - l5))) * (mL M69 (mR M69 a0 22) (Int.toNat (((mI M a0 23) - l5) + 1)))) - ((mL M69 (mR M69 a0 21) (Int.toNat (((mI M a0 23) - l5) + 1))) * (mL M69 (mR M69 a0 22) (Int.toNat ((mI M a0 23) - l5))))) → (((l3 = 23) → i64 v108) ∧ (¬ (l3 = 23) → (((l3 = 18) → i64 v108) ∧ (¬ (l3 = 18) → (((l3 = 21) → i64 v108) ∧ (¬ (l3 = 21) → (((l3 = 19) → i64 v108) ∧ (¬ (l3 = 19) → (((l3 = 22) → i64 v108) ∧ (¬ (l3 = 22) → i64 v108)))))))))) ∧ ∀ v128 : Int, v128 = (if (((l3 = 23) ∧ (cmpL v108 0 = 0)) ∨ ((¬ (l3 = 23)) ∧ (((l3 = 18) ∧ (¬ (cmpL v108 0 = 0))) ∨ ((¬ (l3 = 18)) ∧ (((l3 = 21) ∧ (¬ (0 ≤ cmpL v108 0))) ∨ ((¬ (l3 = 21)) ∧ (((l3 = 19) ∧ (¬ (0 < cmpL v108 0))) ∨ ((¬ (l3 = 19)) ∧ (((l3 = 22) ∧ (¬ (cmpL v108 0 ≤ 0))) ∨ ((¬ (l3 = 22)) ∧ (¬ (cmpL v108 0 < 0)))))))))))) then 1 else 0) → Cv G y_MM_pushTruth d [vr a0, vi v128] M69 (fun M133 => mOk M133 ∧ (h_MM_finish_400 G d  M133 Q)))))))))))))) ∧ (¬ (l6 < 0) → (mK M a1 = 16 ∧ mK M (mR M a1 5) = 15 ∧ Ci G y_MN_at d [vr (mR M a1 5), vi l6] M (fun x180 M179 => i32 x180 ∧ mOk M179 ∧ (h_MM_finish_32 G d a0 a1 l3 l4 (l5 + 1) x180 M179 Q))))) :
    h_MM_finish_32 G d a0 a1 l3 l4 l5 l6 M Q := by
  unfold h_MM_finish_32
  refine wm_iload d_MM_finish_32 rfl ?_
  refine wm_if_lt (tgt := 54) d_MM_finish_34 rfl hi_l6 (fun c19 => ?_) (fun c19 => ?_)
  · replace h := h.1 c19
    obtain ⟨h20, h⟩ := h
    obtain ⟨h21, h⟩ := h
    obtain ⟨M22, e23⟩ : ∃ M22, M22 = mUI M a0 23 ((mI M a0 23) - l5) := ⟨_, rfl⟩
    replace h := h M22 e23
    refine wm_aload_n d_MM_finish_54 rfl rfl ?_
    refine gf_MM_370 rfl d_MM_finish_55 h20 ?_
    refine wm_iload d_MM_finish_58 rfl ?_
    refine wm_isub d_MM_finish_60 ?_
    refine wm_istore d_MM_finish_61 (by decide) (L' := [vr a0, vr a1, vd, vi l3, vi l4, vi l5, vi ((mI M a0 23) - l5), vd, vd]) rfl ?_
    refine wm_aload_n d_MM_finish_63 rfl rfl ?_
    refine wm_iload d_MM_finish_64 rfl ?_
    have hOM22 : mOk M22 := by rw [e23]; exact mOk_UI hO h21
    refine pf_MM_370 rfl d_MM_finish_66 h20 h21 e23 ?_
    refine wm_iload_n d_MM_finish_69 rfl rfl ?_
    refine wm_bipush d_MM_finish_70 (by decide) ?_
    refine wm_icmp_ne (tgt := 99) d_MM_finish_72 rfl hi_l3 ⟨by decide, by decide⟩ (fun c30 => ?_) (fun c30 => ?_)
    · replace h := h.2 c30
      refine wm_iload_n d_MM_finish_99 rfl rfl ?_
      refine wm_bipush d_MM_finish_100 (by decide) ?_
      refine wm_icmp_ne (tgt := 127) d_MM_finish_102 rfl hi_l3 ⟨by decide, by decide⟩ (fun c46 => ?_) (fun c46 => ?_)
      · replace h := h.2 c46
        refine wm_iload_n d_MM_finish_127 rfl rfl ?_
        refine wm_bipush d_MM_finish_128 (by decide) ?_
        have hE0 : ((l3 = 14) ∨ (l3 = 15)) → mWm G y_MM_finish (d + 1) 139 [vr a0, vr a1, vd, vi l3, vi l4, vi l5, vi ((mI M a0 23) - l5), vd, vd] [] M22 (fun r9 M9 => r9 = none ∧ Q M9) := by
          intro q57
          have h := h.1 q57
          refine wm_aload_n d_MM_finish_139 rfl rfl ?_
          refine wm_iload_n d_MM_finish_140 rfl rfl ?_
          refine wm_bipush d_MM_finish_141 (by decide) ?_
          have hJ : ∀ v59 : Int, v59 = (if (l3 = 14) then 1 else 0) → mWm G y_MM_finish (d + 1) 151 [vd, vd, vd, vd, vd, vi l5, vi ((mI M a0 23) - l5), vd, vd] [vi v59, vr a0] M22 (fun r9 M9 => r9 = none ∧ Q M9) := by
            intro v59 e61
            have h := h v59 e61
            have h62 : i32 v59 := by rw [e61]; (repeat' split) <;> first | exact ⟨by decide, by decide⟩ | exact ⟨by decide, by decide⟩
            have h63 : (v59 = 0 ∨ v59 = 1) := by rw [e61]; (repeat' split) <;> decide
            refine wm_iload d_MM_finish_151 rfl ?_
            refine wm_iload d_MM_finish_153 rfl ?_
            refine cf_MM_415 rfl d_MM_finish_155 (by rw [e23]; exact h20) (Nat.le_of_ble_eq_true rfl) (Cv.mono h (fun M64 h => ?_))
            obtain ⟨hOM64, h⟩ := h
            refine wm_goto (tgt := 400) d_MM_finish_158 rfl ?_
            refine wm_less (L' := [vd, vd, vd, vd, vd, vd, vd, vd, vd]) ⟨Or.inl rfl, Or.inl rfl, Or.inl rfl, Or.inl rfl, Or.inl rfl, Or.inl rfl, Or.inl rfl, Or.inl rfl, Or.inl rfl, trivial⟩ ?_
            exact h
          clear h
          refine wm_icmp_ne (tgt := 150) d_MM_finish_143 rfl hi_l3 ⟨by decide, by decide⟩ (fun c58 => ?_) (fun c58 => ?_)
          · refine wm_iconst d_MM_finish_150 ?_
            refine wm_less (L' := [vd, vd, vd, vd, vd, vi l5, vi ((mI M a0 23) - l5), vd, vd]) ⟨Or.inl rfl, Or.inl rfl, Or.inl rfl, Or.inl rfl, Or.inl rfl, Or.inr rfl, Or.inr rfl, Or.inl rfl, Or.inl rfl, trivial⟩ ?_
            exact hJ 0 (if_neg c58).symm
          · replace c58 := Classical.not_not.mp c58
            refine wm_iconst d_MM_finish_146 ?_
            refine wm_goto (tgt := 151) d_MM_finish_147 rfl ?_
            refine wm_less (L' := [vd, vd, vd, vd, vd, vi l5, vi ((mI M a0 23) - l5), vd, vd]) ⟨Or.inl rfl, Or.inl rfl, Or.inl rfl, Or.inl rfl, Or.inl rfl, Or.inr rfl, Or.inr rfl, Or.inl rfl, Or.inl rfl, trivial⟩ ?_
            exact hJ 1 (if_pos c58).symm
        have hE1 : ¬ ((l3 = 14) ∨ (l3 = 15)) → mWm G y_MM_finish (d + 1) 161 [vr a0, vr a1, vd, vi l3, vi l4, vi l5, vi ((mI M a0 23) - l5), vd, vd] [] M22 (fun r9 M9 => r9 = none ∧ Q M9) := by
          intro q68
          have h := h.2 q68
          refine wm_iload_n d_MM_finish_161 rfl rfl ?_
          refine cf_MM_261 rfl d_MM_finish_162 (Nat.le_of_ble_eq_true rfl) (Ci.mono h (fun x70 M69 h => ?_))
          obtain ⟨h71, hOM69, h⟩ := h
          refine wm_if_eq (tgt := 361) d_MM_finish_165 rfl h71 (fun c85 => ?_) (fun c85 => ?_)
          · replace h := h.1 c85
            obtain ⟨h86, h⟩ := h
            obtain ⟨h87, h⟩ := h
            obtain ⟨h88, h⟩ := h
            obtain ⟨h89, h⟩ := h
            obtain ⟨h90, h⟩ := h
            obtain ⟨h91, h⟩ := h
            obtain ⟨h92, h⟩ := h
            refine wm_aload_n d_MM_finish_361 rfl rfl ?_
            refine wm_iload_n d_MM_finish_362 rfl rfl ?_
            refine wm_aload_n d_MM_finish_363 rfl rfl ?_
            refine gf_MM_63 rfl d_MM_finish_364 h86 ?_
            refine wm_iload d_MM_finish_367 rfl ?_
            refine wm_lald d_MM_finish_369 h87 h88 ?_
            refine wm_aload_n d_MM_finish_370 rfl rfl ?_
            refine gf_MM_67 rfl d_MM_finish_371 h86 ?_
            refine wm_iload d_MM_finish_374 rfl ?_
            refine wm_lald d_MM_finish_376 h89 h90 ?_
            refine wm_aload_n d_MM_finish_377 rfl rfl ?_
            refine gf_MM_63 rfl d_MM_finish_378 h86 ?_
            refine wm_iload d_MM_finish_381 rfl ?_
            refine wm_iconst d_MM_finish_383 ?_
            refine wm_iadd d_MM_finish_384 ?_
            refine wm_lald d_MM_finish_385 h87 h91 ?_
            refine wm_aload_n d_MM_finish_386 rfl rfl ?_
            refine gf_MM_67 rfl d_MM_finish_387 h86 ?_
            refine wm_iload d_MM_finish_390 rfl ?_
            refine wm_iconst d_MM_finish_392 ?_
            refine wm_iadd d_MM_finish_393 ?_
            refine wm_lald d_MM_finish_394 h89 h92 ?_
            refine wm_iload d_MM_finish_395 rfl ?_
            refine cf_MM_419 rfl d_MM_finish_397 h86 (Nat.le_of_ble_eq_true rfl) (Cv.mono h (fun M93 h => ?_))
            obtain ⟨hOM93, h⟩ := h
            refine wm_less (L' := [vd, vd, vd, vd, vd, vd, vd, vd, vd]) ⟨Or.inl rfl, Or.inl rfl, Or.inl rfl, Or.inl rfl, Or.inl rfl, Or.inl rfl, Or.inl rfl, Or.inl rfl, Or.inl rfl, trivial⟩ ?_
            exact h
          · replace h := h.2 c85
            obtain ⟨h96, h⟩ := h
            obtain ⟨h97, h⟩ := h
            obtain ⟨h98, h⟩ := h
            refine wm_aload_n d_MM_finish_168 rfl rfl ?_
            refine gf_MM_67 rfl d_MM_finish_169 h96 ?_
            refine wm_iload d_MM_finish_172 rfl ?_
            refine wm_lald d_MM_finish_174 h97 h98 ?_
            refine wm_lconst (x := 0) d_MM_finish_175 rfl ?_
            refine wm_lcmp d_MM_finish_176 (hOM69 _ _).2 ⟨by decide, by decide⟩ ?_
            obtain ⟨s109, h⟩ := h
            have hJ : ∀ v108 : Int, v108 = (if (cmpL (mL M69 (mR M69 a0 22) (Int.toNat ((mI M a0 23) - l5))) 0 = 0) then (mL M69 (mR M69 a0 21) (Int.toNat ((mI M a0 23) - l5))) - (mL M69 (mR M69 a0 21) (Int.toNat (((mI M a0 23) - l5) + 1))) else ((mL M69 (mR M69 a0 21) (Int.toNat ((mI M a0 23) - l5))) * (mL M69 (mR M69 a0 22) (Int.toNat (((mI M a0 23) - l5) + 1)))) - ((mL M69 (mR M69 a0 21) (Int.toNat (((mI M a0 23) - l5) + 1))) * (mL M69 (mR M69 a0 22) (Int.toNat ((mI M a0 23) - l5))))) → mWm G y_MM_finish (d + 1) 235 [vr a0, vd, vd, vi l3, vd, vd, vd, vd, vd] [vl v108] M69 (fun r9 M9 => r9 = none ∧ Q M9) := by
              intro v108 e110
              have h := h v108 e110
              refine wm_lstore d_MM_finish_235 (by decide) (L' := [vr a0, vd, vd, vi l3, vd, vd, vd, vl v108, vd]) rfl ?_
              refine wm_aload_n d_MM_finish_237 rfl rfl ?_
              refine wm_iload_n d_MM_finish_238 rfl rfl ?_
              refine wm_bipush d_MM_finish_239 (by decide) ?_
              obtain ⟨s129, h⟩ := h
              have hJ : ∀ v128 : Int, v128 = (if (((l3 = 23) ∧ (cmpL v108 0 = 0)) ∨ ((¬ (l3 = 23)) ∧ (((l3 = 18) ∧ (¬ (cmpL v108 0 = 0))) ∨ ((¬ (l3 = 18)) ∧ (((l3 = 21) ∧ (¬ (0 ≤ cmpL v108 0))) ∨ ((¬ (l3 = 21)) ∧ (((l3 = 19) ∧ (¬ (0 < cmpL v108 0))) ∨ ((¬ (l3 = 19)) ∧ (((l3 = 22) ∧ (¬ (cmpL v108 0 ≤ 0))) ∨ ((¬ (l3 = 22)) ∧ (¬ (cmpL v108 0 < 0)))))))))))) then 1 else 0) → mWm G y_MM_finish (d + 1) 355 [vd, vd, vd, vd, vd, vd, vd, vd, vd] [vi v128, vr a0] M69 (fun r9 M9 => r9 = none ∧ Q M9) := by
                intro v128 e130
                have h := h v128 e130
                have h131 : i32 v128 := by rw [e130]; (repeat' split) <;> first | exact ⟨by decide, by decide⟩ | exact ⟨by decide, by decide⟩
                have h132 : (v128 = 0 ∨ v128 = 1) := by rw [e130]; (repeat' split) <;> decide
                refine cf_MM_397 rfl d_MM_finish_355 h96 (Nat.le_of_ble_eq_true rfl) (Cv.mono h (fun M133 h => ?_))
                obtain ⟨hOM133, h⟩ := h
                refine wm_goto (tgt := 400) d_MM_finish_358 rfl ?_
                exact h
              clear h
              obtain ⟨s136, s137⟩ := s129
              refine wm_icmp_ne (tgt := 259) d_MM_finish_241 rfl hi_l3 ⟨by decide, by decide⟩ (fun c111 => ?_) (fun c111 => ?_)
              · have s137 := s137 c111
                obtain ⟨s140, s141⟩ := s137
                refine wm_iload_n d_MM_finish_259 rfl rfl ?_
                refine wm_bipush d_MM_finish_260 (by decide) ?_
                refine wm_icmp_ne (tgt := 280) d_MM_finish_262 rfl hi_l3 ⟨by decide, by decide⟩ (fun c114 => ?_) (fun c114 => ?_)
                · have s141 := s141 c114
                  obtain ⟨s145, s146⟩ := s141
                  refine wm_iload_n d_MM_finish_280 rfl rfl ?_
                  refine wm_bipush d_MM_finish_281 (by decide) ?_
                  refine wm_icmp_ne (tgt := 301) d_MM_finish_283 rfl hi_l3 ⟨by decide, by decide⟩ (fun c117 => ?_) (fun c117 => ?_)
                  · have s146 := s146 c117
                    obtain ⟨s151, s152⟩ := s146
                    refine wm_iload_n d_MM_finish_301 rfl rfl ?_
                    refine wm_bipush d_MM_finish_302 (by decide) ?_
                    refine wm_icmp_ne (tgt := 322) d_MM_finish_304 rfl hi_l3 ⟨by decide, by decide⟩ (fun c120 => ?_) (fun c120 => ?_)
                    · have s152 := s152 c120
                      obtain ⟨s158, s159⟩ := s152
                      refine wm_iload_n d_MM_finish_322 rfl rfl ?_
                      refine wm_bipush d_MM_finish_323 (by decide) ?_
                      refine wm_icmp_ne (tgt := 343) d_MM_finish_325 rfl hi_l3 ⟨by decide, by decide⟩ (fun c123 => ?_) (fun c123 => ?_)
                      · have s159 := s159 c123
                        have h126 := s159
                        refine wm_lload d_MM_finish_343 rfl ?_
                        refine wm_lconst (x := 0) d_MM_finish_345 rfl ?_
                        refine wm_lcmp d_MM_finish_346 h126 ⟨by decide, by decide⟩ ?_
                        refine wm_if_lt (tgt := 354) d_MM_finish_347 rfl (m_cmp32 _ _) (fun c127 => ?_) (fun c127 => ?_)
                        · refine wm_iconst d_MM_finish_354 ?_
                          refine wm_less (L' := [vd, vd, vd, vd, vd, vd, vd, vd, vd]) ⟨Or.inl rfl, Or.inl rfl, Or.inl rfl, Or.inl rfl, Or.inl rfl, Or.inl rfl, Or.inl rfl, Or.inl rfl, Or.inl rfl, trivial⟩ ?_
                          exact hJ 0 (if_neg (fun z166 => Or.elim z166 (fun w => c111 w.1) (fun w => (fun z167 => Or.elim z167 (fun w => c114 w.1) (fun w => (fun z168 => Or.elim z168 (fun w => c117 w.1) (fun w => (fun z169 => Or.elim z169 (fun w => c120 w.1) (fun w => (fun z170 => Or.elim z170 (fun w => c123 w.1) (fun w => (fun z171 => z171 c127) w.2)) w.2)) w.2)) w.2)) w.2))).symm
                        · refine wm_iconst d_MM_finish_350 ?_
                          refine wm_goto (tgt := 355) d_MM_finish_351 rfl ?_
                          refine wm_less (L' := [vd, vd, vd, vd, vd, vd, vd, vd, vd]) ⟨Or.inl rfl, Or.inl rfl, Or.inl rfl, Or.inl rfl, Or.inl rfl, Or.inl rfl, Or.inl rfl, Or.inl rfl, Or.inl rfl, trivial⟩ ?_
                          exact hJ 1 (if_pos (Or.inr ⟨c111, (Or.inr ⟨c114, (Or.inr ⟨c117, (Or.inr ⟨c120, (Or.inr ⟨c123, c127⟩)⟩)⟩)⟩)⟩)).symm
                      · replace c123 := Classical.not_not.mp c123
                        have s158 := s158 c123
                        have h124 := s158
                        refine wm_lload d_MM_finish_328 rfl ?_
                        refine wm_lconst (x := 0) d_MM_finish_330 rfl ?_
                        refine wm_lcmp d_MM_finish_331 h124 ⟨by decide, by decide⟩ ?_
                        refine wm_if_le (tgt := 339) d_MM_finish_332 rfl (m_cmp32 _ _) (fun c125 => ?_) (fun c125 => ?_)
                        · refine wm_iconst d_MM_finish_339 ?_
                          refine wm_goto (tgt := 355) d_MM_finish_340 rfl ?_
                          refine wm_less (L' := [vd, vd, vd, vd, vd, vd, vd, vd, vd]) ⟨Or.inl rfl, Or.inl rfl, Or.inl rfl, Or.inl rfl, Or.inl rfl, Or.inl rfl, Or.inl rfl, Or.inl rfl, Or.inl rfl, trivial⟩ ?_
                          exact hJ 0 (if_neg (fun z160 => Or.elim z160 (fun w => c111 w.1) (fun w => (fun z161 => Or.elim z161 (fun w => c114 w.1) (fun w => (fun z162 => Or.elim z162 (fun w => c117 w.1) (fun w => (fun z163 => Or.elim z163 (fun w => c120 w.1) (fun w => (fun z164 => Or.elim z164 (fun w => (fun z165 => z165 c125) w.2) (fun w => w.1 c123)) w.2)) w.2)) w.2)) w.2))).symm
                        · refine wm_iconst d_MM_finish_335 ?_
                          refine wm_goto (tgt := 355) d_MM_finish_336 rfl ?_
                          refine wm_less (L' := [vd, vd, vd, vd, vd, vd, vd, vd, vd]) ⟨Or.inl rfl, Or.inl rfl, Or.inl rfl, Or.inl rfl, Or.inl rfl, Or.inl rfl, Or.inl rfl, Or.inl rfl, Or.inl rfl, trivial⟩ ?_
                          exact hJ 1 (if_pos (Or.inr ⟨c111, (Or.inr ⟨c114, (Or.inr ⟨c117, (Or.inr ⟨c120, (Or.inl ⟨c123, c125⟩)⟩)⟩)⟩)⟩)).symm
                    · replace c120 := Classical.not_not.mp c120
                      have s151 := s151 c120
                      have h121 := s151
                      refine wm_lload d_MM_finish_307 rfl ?_
                      refine wm_lconst (x := 0) d_MM_finish_309 rfl ?_
                      refine wm_lcmp d_MM_finish_310 h121 ⟨by decide, by decide⟩ ?_
                      refine wm_if_gt (tgt := 318) d_MM_finish_311 rfl (m_cmp32 _ _) (fun c122 => ?_) (fun c122 => ?_)
                      · refine wm_iconst d_MM_finish_318 ?_
                        refine wm_goto (tgt := 355) d_MM_finish_319 rfl ?_
                        refine wm_less (L' := [vd, vd, vd, vd, vd, vd, vd, vd, vd]) ⟨Or.inl rfl, Or.inl rfl, Or.inl rfl, Or.inl rfl, Or.inl rfl, Or.inl rfl, Or.inl rfl, Or.inl rfl, Or.inl rfl, trivial⟩ ?_
                        exact hJ 0 (if_neg (fun z153 => Or.elim z153 (fun w => c111 w.1) (fun w => (fun z154 => Or.elim z154 (fun w => c114 w.1) (fun w => (fun z155 => Or.elim z155 (fun w => c117 w.1) (fun w => (fun z156 => Or.elim z156 (fun w => (fun z157 => z157 c122) w.2) (fun w => w.1 c120)) w.2)) w.2)) w.2))).symm
                      · refine wm_iconst d_MM_finish_314 ?_
                        refine wm_goto (tgt := 355) d_MM_finish_315 rfl ?_
                        refine wm_less (L' := [vd, vd, vd, vd, vd, vd, vd, vd, vd]) ⟨Or.inl rfl, Or.inl rfl, Or.inl rfl, Or.inl rfl, Or.inl rfl, Or.inl rfl, Or.inl rfl, Or.inl rfl, Or.inl rfl, trivial⟩ ?_
                        exact hJ 1 (if_pos (Or.inr ⟨c111, (Or.inr ⟨c114, (Or.inr ⟨c117, (Or.inl ⟨c120, c122⟩)⟩)⟩)⟩)).symm
                  · replace c117 := Classical.not_not.mp c117
                    have s145 := s145 c117
                    have h118 := s145
                    refine wm_lload d_MM_finish_286 rfl ?_
                    refine wm_lconst (x := 0) d_MM_finish_288 rfl ?_
                    refine wm_lcmp d_MM_finish_289 h118 ⟨by decide, by decide⟩ ?_
                    refine wm_if_ge (tgt := 297) d_MM_finish_290 rfl (m_cmp32 _ _) (fun c119 => ?_) (fun c119 => ?_)
                    · refine wm_iconst d_MM_finish_297 ?_
                      refine wm_goto (tgt := 355) d_MM_finish_298 rfl ?_
                      refine wm_less (L' := [vd, vd, vd, vd, vd, vd, vd, vd, vd]) ⟨Or.inl rfl, Or.inl rfl, Or.inl rfl, Or.inl rfl, Or.inl rfl, Or.inl rfl, Or.inl rfl, Or.inl rfl, Or.inl rfl, trivial⟩ ?_
                      exact hJ 0 (if_neg (fun z147 => Or.elim z147 (fun w => c111 w.1) (fun w => (fun z148 => Or.elim z148 (fun w => c114 w.1) (fun w => (fun z149 => Or.elim z149 (fun w => (fun z150 => z150 c119) w.2) (fun w => w.1 c117)) w.2)) w.2))).symm
                    · refine wm_iconst d_MM_finish_293 ?_
                      refine wm_goto (tgt := 355) d_MM_finish_294 rfl ?_
                      refine wm_less (L' := [vd, vd, vd, vd, vd, vd, vd, vd, vd]) ⟨Or.inl rfl, Or.inl rfl, Or.inl rfl, Or.inl rfl, Or.inl rfl, Or.inl rfl, Or.inl rfl, Or.inl rfl, Or.inl rfl, trivial⟩ ?_
                      exact hJ 1 (if_pos (Or.inr ⟨c111, (Or.inr ⟨c114, (Or.inl ⟨c117, c119⟩)⟩)⟩)).symm
                · replace c114 := Classical.not_not.mp c114
                  have s140 := s140 c114
                  have h115 := s140
                  refine wm_lload d_MM_finish_265 rfl ?_
                  refine wm_lconst (x := 0) d_MM_finish_267 rfl ?_
                  refine wm_lcmp d_MM_finish_268 h115 ⟨by decide, by decide⟩ ?_
                  refine wm_if_eq (tgt := 276) d_MM_finish_269 rfl (m_cmp32 _ _) (fun c116 => ?_) (fun c116 => ?_)
                  · refine wm_iconst d_MM_finish_276 ?_
                    refine wm_goto (tgt := 355) d_MM_finish_277 rfl ?_
                    refine wm_less (L' := [vd, vd, vd, vd, vd, vd, vd, vd, vd]) ⟨Or.inl rfl, Or.inl rfl, Or.inl rfl, Or.inl rfl, Or.inl rfl, Or.inl rfl, Or.inl rfl, Or.inl rfl, Or.inl rfl, trivial⟩ ?_
                    exact hJ 0 (if_neg (fun z142 => Or.elim z142 (fun w => c111 w.1) (fun w => (fun z143 => Or.elim z143 (fun w => (fun z144 => z144 c116) w.2) (fun w => w.1 c114)) w.2))).symm
                  · refine wm_iconst d_MM_finish_272 ?_
                    refine wm_goto (tgt := 355) d_MM_finish_273 rfl ?_
                    refine wm_less (L' := [vd, vd, vd, vd, vd, vd, vd, vd, vd]) ⟨Or.inl rfl, Or.inl rfl, Or.inl rfl, Or.inl rfl, Or.inl rfl, Or.inl rfl, Or.inl rfl, Or.inl rfl, Or.inl rfl, trivial⟩ ?_
                    exact hJ 1 (if_pos (Or.inr ⟨c111, (Or.inl ⟨c114, c116⟩)⟩)).symm
              · replace c111 := Classical.not_not.mp c111
                have s136 := s136 c111
                have h112 := s136
                refine wm_lload d_MM_finish_244 rfl ?_
                refine wm_lconst (x := 0) d_MM_finish_246 rfl ?_
                refine wm_lcmp d_MM_finish_247 h112 ⟨by decide, by decide⟩ ?_
                refine wm_if_ne (tgt := 255) d_MM_finish_248 rfl (m_cmp32 _ _) (fun c113 => ?_) (fun c113 => ?_)
                · refine wm_iconst d_MM_finish_255 ?_
                  refine wm_goto (tgt := 355) d_MM_finish_256 rfl ?_
                  refine wm_less (L' := [vd, vd, vd, vd, vd, vd, vd, vd, vd]) ⟨Or.inl rfl, Or.inl rfl, Or.inl rfl, Or.inl rfl, Or.inl rfl, Or.inl rfl, Or.inl rfl, Or.inl rfl, Or.inl rfl, trivial⟩ ?_
                  exact hJ 0 (if_neg (fun z138 => Or.elim z138 (fun w => c113 w.2) (fun w => w.1 c111))).symm
                · replace c113 := Classical.not_not.mp c113
                  refine wm_iconst d_MM_finish_251 ?_
                  refine wm_goto (tgt := 355) d_MM_finish_252 rfl ?_
                  refine wm_less (L' := [vd, vd, vd, vd, vd, vd, vd, vd, vd]) ⟨Or.inl rfl, Or.inl rfl, Or.inl rfl, Or.inl rfl, Or.inl rfl, Or.inl rfl, Or.inl rfl, Or.inl rfl, Or.inl rfl, trivial⟩ ?_
                  exact hJ 1 (if_pos (Or.inl ⟨c111, c113⟩)).symm
            clear h
            obtain ⟨s172, s173⟩ := s109
            refine wm_if_ne (tgt := 200) d_MM_finish_177 rfl (m_cmp32 _ _) (fun c99 => ?_) (fun c99 => ?_)
            · have s173 := s173 c99
              obtain ⟨h103, h104, h105, h106, h107⟩ := s173
              refine wm_aload_n d_MM_finish_200 rfl rfl ?_
              refine gf_MM_63 rfl d_MM_finish_201 h96 ?_
              refine wm_iload d_MM_finish_204 rfl ?_
              refine wm_lald d_MM_finish_206 h103 h104 ?_
              refine wm_aload_n d_MM_finish_207 rfl rfl ?_
              refine gf_MM_67 rfl d_MM_finish_208 h96 ?_
              refine wm_iload d_MM_finish_211 rfl ?_
              refine wm_iconst d_MM_finish_213 ?_
              refine wm_iadd d_MM_finish_214 ?_
              refine wm_lald d_MM_finish_215 h97 h105 ?_
              refine wm_lmul d_MM_finish_216 ?_
              refine wm_aload_n d_MM_finish_217 rfl rfl ?_
              refine gf_MM_63 rfl d_MM_finish_218 h96 ?_
              refine wm_iload d_MM_finish_221 rfl ?_
              refine wm_iconst d_MM_finish_223 ?_
              refine wm_iadd d_MM_finish_224 ?_
              refine wm_lald d_MM_finish_225 h103 h106 ?_
              refine wm_aload_n d_MM_finish_226 rfl rfl ?_
              refine gf_MM_67 rfl d_MM_finish_227 h96 ?_
              refine wm_iload d_MM_finish_230 rfl ?_
              refine wm_lald d_MM_finish_232 h97 h107 ?_
              refine wm_lmul d_MM_finish_233 ?_
              refine wm_lsub d_MM_finish_234 ?_
              refine wm_less (L' := [vr a0, vd, vd, vi l3, vd, vd, vd, vd, vd]) ⟨Or.inr rfl, Or.inl rfl, Or.inl rfl, Or.inr rfl, Or.inl rfl, Or.inl rfl, Or.inl rfl, Or.inl rfl, Or.inl rfl, trivial⟩ ?_
              exact hJ (((mL M69 (mR M69 a0 21) (Int.toNat ((mI M a0 23) - l5))) * (mL M69 (mR M69 a0 22) (Int.toNat (((mI M a0 23) - l5) + 1)))) - ((mL M69 (mR M69 a0 21) (Int.toNat (((mI M a0 23) - l5) + 1))) * (mL M69 (mR M69 a0 22) (Int.toNat ((mI M a0 23) - l5))))) (if_neg c99).symm
            · replace c99 := Classical.not_not.mp c99
              have s172 := s172 c99
              obtain ⟨h100, h101, h102⟩ := s172
              refine wm_aload_n d_MM_finish_180 rfl rfl ?_
              refine gf_MM_63 rfl d_MM_finish_181 h96 ?_
              refine wm_iload d_MM_finish_184 rfl ?_
              refine wm_lald d_MM_finish_186 h100 h101 ?_
              refine wm_aload_n d_MM_finish_187 rfl rfl ?_
              refine gf_MM_63 rfl d_MM_finish_188 h96 ?_
              refine wm_iload d_MM_finish_191 rfl ?_
              refine wm_iconst d_MM_finish_193 ?_
              refine wm_iadd d_MM_finish_194 ?_
              refine wm_lald d_MM_finish_195 h100 h102 ?_
              refine wm_lsub d_MM_finish_196 ?_
              refine wm_goto (tgt := 235) d_MM_finish_197 rfl ?_
              refine wm_less (L' := [vr a0, vd, vd, vi l3, vd, vd, vd, vd, vd]) ⟨Or.inr rfl, Or.inl rfl, Or.inl rfl, Or.inr rfl, Or.inl rfl, Or.inl rfl, Or.inl rfl, Or.inl rfl, Or.inl rfl, trivial⟩ ?_
              exact hJ ((mL M69 (mR M69 a0 21) (Int.toNat ((mI M a0 23) - l5))) - (mL M69 (mR M69 a0 21) (Int.toNat (((mI M a0 23) - l5) + 1)))) (if_pos c99).symm
        clear h
        refine wm_icmp_eq (tgt := 139) d_MM_finish_130 rfl hi_l3 ⟨by decide, by decide⟩ (fun c55 => ?_) (fun c55 => ?_)
        · exact hE0 (Or.inl c55)
        · refine wm_iload_n d_MM_finish_133 rfl rfl ?_
          refine wm_bipush d_MM_finish_134 (by decide) ?_
          refine wm_icmp_ne (tgt := 161) d_MM_finish_136 rfl hi_l3 ⟨by decide, by decide⟩ (fun c54 => ?_) (fun c54 => ?_)
          · exact hE1 (fun z175 => Or.elim z175 c55 c54)
          · replace c54 := Classical.not_not.mp c54
            exact hE0 (Or.inr c54)
      · replace c46 := Classical.not_not.mp c46
        replace h := h.1 c46
        obtain ⟨h47, h⟩ := h
        obtain ⟨h48, h⟩ := h
        obtain ⟨h49, h⟩ := h
        obtain ⟨h50, h⟩ := h
        refine wm_aload_n d_MM_finish_105 rfl rfl ?_
        refine wm_aload_n d_MM_finish_106 rfl rfl ?_
        refine gf_MM_63 rfl d_MM_finish_107 (by rw [e23]; exact h20) ?_
        refine wm_iload d_MM_finish_110 rfl ?_
        refine wm_lald d_MM_finish_112 h47 h48 ?_
        refine wm_lneg d_MM_finish_113 ?_
        refine wm_aload_n d_MM_finish_114 rfl rfl ?_
        refine gf_MM_67 rfl d_MM_finish_115 (by rw [e23]; exact h20) ?_
        refine wm_iload d_MM_finish_118 rfl ?_
        refine wm_lald d_MM_finish_120 h49 h50 ?_
        refine cf_MM_373 rfl d_MM_finish_121 (by rw [e23]; exact h20) (Nat.le_of_ble_eq_true rfl) (Cv.mono h (fun M51 h => ?_))
        obtain ⟨hOM51, h⟩ := h
        refine wm_goto (tgt := 400) d_MM_finish_124 rfl ?_
        refine wm_less (L' := [vd, vd, vd, vd, vd, vd, vd, vd, vd]) ⟨Or.inl rfl, Or.inl rfl, Or.inl rfl, Or.inl rfl, Or.inl rfl, Or.inl rfl, Or.inl rfl, Or.inl rfl, Or.inl rfl, trivial⟩ ?_
        exact h
    · replace c30 := Classical.not_not.mp c30
      replace h := h.1 c30
      obtain ⟨h31, h⟩ := h
      obtain ⟨h32, h⟩ := h
      refine wm_aload_n d_MM_finish_75 rfl rfl ?_
      refine wm_aload_n d_MM_finish_76 rfl rfl ?_
      refine gf_MM_63 rfl d_MM_finish_77 (by rw [e23]; exact h20) ?_
      refine wm_iload d_MM_finish_80 rfl ?_
      refine wm_lald d_MM_finish_82 h31 h32 ?_
      refine wm_lconst (x := 0) d_MM_finish_83 rfl ?_
      refine wm_lcmp d_MM_finish_84 (hOM22 _ _).2 ⟨by decide, by decide⟩ ?_
      have hJ : ∀ v34 : Int, v34 = (if (cmpL (mL M22 (mR M22 a0 21) (Int.toNat ((mI M a0 23) - l5))) 0 = 0) then 1 else 0) → mWm G y_MM_finish (d + 1) 93 [vd, vd, vd, vd, vd, vd, vd, vd, vd] [vi v34, vr a0] M22 (fun r9 M9 => r9 = none ∧ Q M9) := by
        intro v34 e36
        have h := h v34 e36
        have h37 : i32 v34 := by rw [e36]; (repeat' split) <;> first | exact ⟨by decide, by decide⟩ | exact ⟨by decide, by decide⟩
        have h38 : (v34 = 0 ∨ v34 = 1) := by rw [e36]; (repeat' split) <;> decide
        refine cf_MM_397 rfl d_MM_finish_93 (by rw [e23]; exact h20) (Nat.le_of_ble_eq_true rfl) (Cv.mono h (fun M39 h => ?_))
        obtain ⟨hOM39, h⟩ := h
        refine wm_goto (tgt := 400) d_MM_finish_96 rfl ?_
        exact h
      clear h
      refine wm_if_ne (tgt := 92) d_MM_finish_85 rfl (m_cmp32 _ _) (fun c33 => ?_) (fun c33 => ?_)
      · refine wm_iconst d_MM_finish_92 ?_
        refine wm_less (L' := [vd, vd, vd, vd, vd, vd, vd, vd, vd]) ⟨Or.inl rfl, Or.inl rfl, Or.inl rfl, Or.inl rfl, Or.inl rfl, Or.inl rfl, Or.inl rfl, Or.inl rfl, Or.inl rfl, trivial⟩ ?_
        exact hJ 0 (if_neg c33).symm
      · replace c33 := Classical.not_not.mp c33
        refine wm_iconst d_MM_finish_88 ?_
        refine wm_goto (tgt := 93) d_MM_finish_89 rfl ?_
        refine wm_less (L' := [vd, vd, vd, vd, vd, vd, vd, vd, vd]) ⟨Or.inl rfl, Or.inl rfl, Or.inl rfl, Or.inl rfl, Or.inl rfl, Or.inl rfl, Or.inl rfl, Or.inl rfl, Or.inl rfl, trivial⟩ ?_
        exact hJ 1 (if_pos c33).symm
  · replace h := h.2 c19
    obtain ⟨h177, h⟩ := h
    obtain ⟨h178, h⟩ := h
    refine wm_iinc d_MM_finish_37 (by decide) rfl (L' := [vr a0, vr a1, vd, vi l3, vi l4, vi (l5 + 1), vi l6, vd, vd]) rfl ?_
    refine wm_aload_n d_MM_finish_40 rfl rfl ?_
    refine gf_MM_290 rfl d_MM_finish_41 h177 ?_
    refine wm_iload d_MM_finish_44 rfl ?_
    refine cf_MM_155 rfl d_MM_finish_46 h178 (Nat.le_of_ble_eq_true rfl) (Ci.mono h (fun x180 M179 h => ?_))
    obtain ⟨h181, hOM179, h⟩ := h
    refine wm_istore d_MM_finish_49 (by decide) (L' := [vr a0, vr a1, vd, vi l3, vi l4, vi (l5 + 1), vi x180, vd, vd]) rfl ?_
    refine wm_goto (tgt := 32) d_MM_finish_51 rfl ?_
    exact h
theorem k_MM_finish_400 {G : mG} {d : Nat} {M : mM} {Q : mM → Prop} (hO : mOk M)
    (h : Q M) :
    h_MM_finish_400 G d  M Q := by
  unfold h_MM_finish_400
  refine wm_return d_MM_finish_400 rfl ?_
  exact ⟨rfl, h⟩
theorem d_MM_best_0 : decode y_MM_best.2.1 0 = .ok (.iload_n 2, 1) := dc9_28 (by decide +kernel)
theorem d_MM_best_1 : decode y_MM_best.2.1 1 = .ok (.istore 4, 2) := dc9_54 (by decide +kernel)
theorem d_MM_best_3 : decode y_MM_best.2.1 3 = .ok (.iload_n 2, 1) := dc9_28 (by decide +kernel)
theorem d_MM_best_4 : decode y_MM_best.2.1 4 = .ok (.iconst 1, 1) := dc9_4 (by decide +kernel)
theorem d_MM_best_5 : decode y_MM_best.2.1 5 = .ok (.iadd, 1) := dc9_96 (by decide +kernel)
theorem d_MM_best_6 : decode y_MM_best.2.1 6 = .ok (.istore 5, 2) := dc9_54 (by decide +kernel)
theorem d_MM_best_8 : decode y_MM_best.2.1 8 = .ok (.iload 5, 2) := dc9_21 (by decide +kernel)
theorem d_MM_best_10 : decode y_MM_best.2.1 10 = .ok (.iload_n 2, 1) := dc9_28 (by decide +kernel)
theorem d_MM_best_11 : decode y_MM_best.2.1 11 = .ok (.iload_n 3, 1) := dc9_29 (by decide +kernel)
theorem d_MM_best_12 : decode y_MM_best.2.1 12 = .ok (.iadd, 1) := dc9_96 (by decide +kernel)
theorem d_MM_best_13 : decode y_MM_best.2.1 13 = .ok (.if_icmp .ge 73, 3) := dc9_162 (by decide +kernel)
theorem d_MM_best_86 : decode y_MM_best.2.1 86 = .ok (.aload_n 0, 1) := dc9_42 (by decide +kernel)
theorem d_MM_best_87 : decode y_MM_best.2.1 87 = .ok (.aload_n 0, 1) := dc9_42 (by decide +kernel)
theorem d_MM_best_88 : decode y_MM_best.2.1 88 = .ok (.getfield 63, 3) := dc9_180 (by decide +kernel)
theorem d_MM_best_91 : decode y_MM_best.2.1 91 = .ok (.iload 4, 2) := dc9_21 (by decide +kernel)
theorem d_MM_best_93 : decode y_MM_best.2.1 93 = .ok (.laload, 1) := dc9_47 (by decide +kernel)
theorem d_MM_best_94 : decode y_MM_best.2.1 94 = .ok (.aload_n 0, 1) := dc9_42 (by decide +kernel)
theorem d_MM_best_95 : decode y_MM_best.2.1 95 = .ok (.getfield 67, 3) := dc9_180 (by decide +kernel)
theorem d_MM_best_98 : decode y_MM_best.2.1 98 = .ok (.iload 4, 2) := dc9_21 (by decide +kernel)
theorem d_MM_best_100 : decode y_MM_best.2.1 100 = .ok (.laload, 1) := dc9_47 (by decide +kernel)
theorem d_MM_best_16 : decode y_MM_best.2.1 16 = .ok (.aload_n 0, 1) := dc9_42 (by decide +kernel)
theorem d_MM_best_17 : decode y_MM_best.2.1 17 = .ok (.getfield 63, 3) := dc9_180 (by decide +kernel)
theorem d_MM_best_20 : decode y_MM_best.2.1 20 = .ok (.iload 5, 2) := dc9_21 (by decide +kernel)
theorem d_MM_best_22 : decode y_MM_best.2.1 22 = .ok (.laload, 1) := dc9_47 (by decide +kernel)
theorem d_MM_best_23 : decode y_MM_best.2.1 23 = .ok (.aload_n 0, 1) := dc9_42 (by decide +kernel)
theorem d_MM_best_24 : decode y_MM_best.2.1 24 = .ok (.getfield 67, 3) := dc9_180 (by decide +kernel)
theorem d_MM_best_27 : decode y_MM_best.2.1 27 = .ok (.iload 4, 2) := dc9_21 (by decide +kernel)
theorem d_MM_best_29 : decode y_MM_best.2.1 29 = .ok (.laload, 1) := dc9_47 (by decide +kernel)
theorem d_MM_best_30 : decode y_MM_best.2.1 30 = .ok (.lmul, 1) := dc9_105 (by decide +kernel)
theorem d_MM_best_31 : decode y_MM_best.2.1 31 = .ok (.aload_n 0, 1) := dc9_42 (by decide +kernel)
theorem d_MM_best_32 : decode y_MM_best.2.1 32 = .ok (.getfield 63, 3) := dc9_180 (by decide +kernel)
theorem d_MM_best_35 : decode y_MM_best.2.1 35 = .ok (.iload 4, 2) := dc9_21 (by decide +kernel)
theorem d_MM_best_37 : decode y_MM_best.2.1 37 = .ok (.laload, 1) := dc9_47 (by decide +kernel)
theorem d_MM_best_38 : decode y_MM_best.2.1 38 = .ok (.aload_n 0, 1) := dc9_42 (by decide +kernel)
theorem d_MM_best_39 : decode y_MM_best.2.1 39 = .ok (.getfield 67, 3) := dc9_180 (by decide +kernel)
theorem d_MM_best_42 : decode y_MM_best.2.1 42 = .ok (.iload 5, 2) := dc9_21 (by decide +kernel)
theorem d_MM_best_44 : decode y_MM_best.2.1 44 = .ok (.laload, 1) := dc9_47 (by decide +kernel)
theorem d_MM_best_45 : decode y_MM_best.2.1 45 = .ok (.lmul, 1) := dc9_105 (by decide +kernel)
theorem d_MM_best_46 : decode y_MM_best.2.1 46 = .ok (.lsub, 1) := dc9_101 (by decide +kernel)
theorem d_MM_best_47 : decode y_MM_best.2.1 47 = .ok (.lstore 6, 2) := dc9_55 (by decide +kernel)
theorem d_MM_best_49 : decode y_MM_best.2.1 49 = .ok (.iload_n 1, 1) := dc9_27 (by decide +kernel)
theorem d_MM_best_101 : decode y_MM_best.2.1 101 = .ok (.invokevirtual 373, 3) := dc9_182 (by decide +kernel)
theorem d_MM_best_104 : decode y_MM_best.2.1 104 = .ok (.return_, 1) := dc9_177 (by decide +kernel)
theorem d_MM_best_50 : decode y_MM_best.2.1 50 = .ok (.ifCond .eq 10, 3) := dc9_153 (by decide +kernel)
theorem d_MM_best_60 : decode y_MM_best.2.1 60 = .ok (.iload_n 1, 1) := dc9_27 (by decide +kernel)
theorem d_MM_best_61 : decode y_MM_best.2.1 61 = .ok (.ifCond .ne 15, 3) := dc9_154 (by decide +kernel)
theorem d_MM_best_64 : decode y_MM_best.2.1 64 = .ok (.lload 6, 2) := dc9_22 (by decide +kernel)
theorem d_MM_best_66 : decode y_MM_best.2.1 66 = .ok (.lconst 0, 1) := dc9_9 (by decide +kernel)
theorem d_MM_best_67 : decode y_MM_best.2.1 67 = .ok (.lcmp, 1) := dc9_148 (by decide +kernel)
theorem d_MM_best_68 : decode y_MM_best.2.1 68 = .ok (.ifCond .le 8, 3) := dc9_158 (by decide +kernel)
theorem d_MM_best_76 : decode y_MM_best.2.1 76 = .ok (.iload 4, 2) := dc9_21 (by decide +kernel)
theorem d_MM_best_71 : decode y_MM_best.2.1 71 = .ok (.iload 5, 2) := dc9_21 (by decide +kernel)
theorem d_MM_best_73 : decode y_MM_best.2.1 73 = .ok (.goto 5, 3) := dc9_167 (by decide +kernel)
theorem d_MM_best_53 : decode y_MM_best.2.1 53 = .ok (.lload 6, 2) := dc9_22 (by decide +kernel)
theorem d_MM_best_55 : decode y_MM_best.2.1 55 = .ok (.lconst 0, 1) := dc9_9 (by decide +kernel)
theorem d_MM_best_56 : decode y_MM_best.2.1 56 = .ok (.lcmp, 1) := dc9_148 (by decide +kernel)
theorem d_MM_best_57 : decode y_MM_best.2.1 57 = .ok (.ifCond .lt 14, 3) := dc9_155 (by decide +kernel)
theorem d_MM_best_78 : decode y_MM_best.2.1 78 = .ok (.istore 4, 2) := dc9_54 (by decide +kernel)
theorem d_MM_best_80 : decode y_MM_best.2.1 80 = .ok (.iinc 5 1, 3) := by decide +kernel
theorem d_MM_best_83 : decode y_MM_best.2.1 83 = .ok (.goto (-75), 3) := dc9_167 (by decide +kernel)
def h_MM_best_8 (G : mG) (d : Nat) (a0 : Nat) (l1 : Int) (l2 : Int) (l3 : Int) (l4 : Int) (l5 : Int) (M : mM) (Q : mM → Prop) : Prop := mWm G y_MM_best (d + 1) 8 [vr a0, vi l1, vi l2, vi l3, vi l4, vi l5, vd, vd] [] M (fun r9 M9 => r9 = none ∧ Q M9)
theorem k_MM_best {G : mG} {d : Nat} {a0 : Nat} {l1 : Int} {l2 : Int} {l3 : Int} {M : mM} {Q : mM → Prop} (hO : mOk M) (hi_l1 : i32 l1) (hi_l2 : i32 l2) (hi_l3 : i32 l3)
    (h : h_MM_best_8 G d a0 l1 l2 l3 l2 (l2 + 1) M Q) :
    Cv G y_MM_best (d + 1) [vr a0, vi l1, vi l2, vi l3] M Q := by
  refine wm_open (y := y_MM_best) rfl (Nat.le_of_ble_eq_true rfl) (L := [vr a0, vi l1, vi l2, vi l3, vd, vd, vd, vd]) rfl ?_
  refine wm_iload_n d_MM_best_0 rfl rfl ?_
  refine wm_istore d_MM_best_1 (by decide) (L' := [vr a0, vi l1, vi l2, vi l3, vi l2, vd, vd, vd]) rfl ?_
  refine wm_iload_n d_MM_best_3 rfl rfl ?_
  refine wm_iconst d_MM_best_4 ?_
  refine wm_iadd d_MM_best_5 ?_
  refine wm_istore d_MM_best_6 (by decide) (L' := [vr a0, vi l1, vi l2, vi l3, vi l2, vi (l2 + 1), vd, vd]) rfl ?_
  exact h
theorem k_MM_best_8 {G : mG} {d : Nat} {a0 : Nat} {l1 : Int} {l2 : Int} {l3 : Int} {l4 : Int} {l5 : Int} {M : mM} {Q : mM → Prop} (hO : mOk M) (hi_l1 : i32 l1) (hi_l2 : i32 l2) (hi_l3 : i32 l3) (hi_l4 : i32 l4) (hi_l5 : i32 l5)
    (h : i32 (l2 + l3) ∧ ((l2 + l3 ≤ l5) → (mK M a0 = 14 ∧ mK M (mR M a0 21) = 33 ∧ ((0 : Int) ≤ l4 ∧ l4 < (mN M (mR M a0 21) : Int)) ∧ mK M (mR M a0 22) = 33 ∧ ((0 : Int) ≤ l4 ∧ l4 < (mN M (mR M a0 22) : Int)) ∧ Cv G y_MM_push d [vr a0, vl (mL M (mR M a0 21) (Int.toNat l4)), vl (mL M (mR M a0 22) (Int.toNat l4))] M (fun M17 => mOk M17 ∧ (Q M17)))) ∧ (¬ (l2 + l3 ≤ l5) → (mK M a0 = 14 ∧ mK M (mR M a0 21) = 33 ∧ ((0 : Int) ≤ l5 ∧ l5 < (mN M (mR M a0 21) : Int)) ∧ mK M (mR M a0 22) = 33 ∧ ((0 : Int) ≤ l4 ∧ l4 < (mN M (mR M a0 22) : Int)) ∧ ((0 : Int) ≤ l4 ∧ l4 < (mN M (mR M a0 21) : Int)) ∧ ((0 : Int) ≤ l5 ∧ l5 < (mN M (mR M a0 22) : Int)) ∧ (((l1 = 0) → ((l1 = 0) → i64 (((mL M (mR M a0 21) (Int.toNat l5)) * (mL M (mR M a0 22) (Int.toNat l4))) - ((mL M (mR M a0 21) (Int.toNat l4)) * (mL M (mR M a0 22) (Int.toNat l5)))))) ∧ (¬ (l1 = 0) → i64 (((mL M (mR M a0 21) (Int.toNat l5)) * (mL M (mR M a0 22) (Int.toNat l4))) - ((mL M (mR M a0 21) (Int.toNat l4)) * (mL M (mR M a0 22) (Int.toNat l5)))))) ∧ ∀ v35 : Int, v35 = (if (((l1 = 0) ∧ ((¬ (l1 = 0)) ∨ (cmpL (((mL M (mR M a0 21) (Int.toNat l5)) * (mL M (mR M a0 22) (Int.toNat l4))) - ((mL M (mR M a0 21) (Int.toNat l4)) * (mL M (mR M a0 22) (Int.toNat l5)))) 0 ≤ 0))) ∨ ((¬ (l1 = 0)) ∧ ((¬ (cmpL (((mL M (mR M a0 21) (Int.toNat l5)) * (mL M (mR M a0 22) (Int.toNat l4))) - ((mL M (mR M a0 21) (Int.toNat l4)) * (mL M (mR M a0 22) (Int.toNat l5)))) 0 < 0)) ∧ ((¬ (l1 = 0)) ∨ (cmpL (((mL M (mR M a0 21) (Int.toNat l5)) * (mL M (mR M a0 22) (Int.toNat l4))) - ((mL M (mR M a0 21) (Int.toNat l4)) * (mL M (mR M a0 22) (Int.toNat l5)))) 0 ≤ 0))))) then l4 else l5) → h_MM_best_8 G d a0 l1 l2 l3 v35 (l5 + 1) M Q))) :
    h_MM_best_8 G d a0 l1 l2 l3 l4 l5 M Q := by
  unfold h_MM_best_8
  obtain ⟨h10, h⟩ := h
  refine wm_iload d_MM_best_8 rfl ?_
  refine wm_iload_n d_MM_best_10 rfl rfl ?_
  refine wm_iload_n d_MM_best_11 rfl rfl ?_
  refine wm_iadd d_MM_best_12 ?_
  refine wm_icmp_ge (tgt := 86) d_MM_best_13 rfl hi_l5 h10 (fun c11 => ?_) (fun c11 => ?_)
  · replace h := h.1 c11
    obtain ⟨h12, h⟩ := h
    obtain ⟨h13, h⟩ := h
    obtain ⟨h14, h⟩ := h
    obtain ⟨h15, h⟩ := h
    obtain ⟨h16, h⟩ := h
    refine wm_aload_n d_MM_best_86 rfl rfl ?_
    refine wm_aload_n d_MM_best_87 rfl rfl ?_
    refine gf_MM_63 rfl d_MM_best_88 h12 ?_
    refine wm_iload d_MM_best_91 rfl ?_
    refine wm_lald d_MM_best_93 h13 h14 ?_
    refine wm_aload_n d_MM_best_94 rfl rfl ?_
    refine gf_MM_67 rfl d_MM_best_95 h12 ?_
    refine wm_iload d_MM_best_98 rfl ?_
    refine wm_lald d_MM_best_100 h15 h16 ?_
    refine cf_MM_373 rfl d_MM_best_101 h12 (Nat.le_of_ble_eq_true rfl) (Cv.mono h (fun M17 h => ?_))
    obtain ⟨hOM17, h⟩ := h
    refine wm_return d_MM_best_104 rfl ?_
    exact ⟨rfl, h⟩
  · replace h := h.2 c11
    obtain ⟨h20, h⟩ := h
    obtain ⟨h21, h⟩ := h
    obtain ⟨h22, h⟩ := h
    obtain ⟨h23, h⟩ := h
    obtain ⟨h24, h⟩ := h
    obtain ⟨h25, h⟩ := h
    obtain ⟨h26, h⟩ := h
    refine wm_aload_n d_MM_best_16 rfl rfl ?_
    refine gf_MM_63 rfl d_MM_best_17 h20 ?_
    refine wm_iload d_MM_best_20 rfl ?_
    refine wm_lald d_MM_best_22 h21 h22 ?_
    refine wm_aload_n d_MM_best_23 rfl rfl ?_
    refine gf_MM_67 rfl d_MM_best_24 h20 ?_
    refine wm_iload d_MM_best_27 rfl ?_
    refine wm_lald d_MM_best_29 h23 h24 ?_
    refine wm_lmul d_MM_best_30 ?_
    refine wm_aload_n d_MM_best_31 rfl rfl ?_
    refine gf_MM_63 rfl d_MM_best_32 h20 ?_
    refine wm_iload d_MM_best_35 rfl ?_
    refine wm_lald d_MM_best_37 h21 h25 ?_
    refine wm_aload_n d_MM_best_38 rfl rfl ?_
    refine gf_MM_67 rfl d_MM_best_39 h20 ?_
    refine wm_iload d_MM_best_42 rfl ?_
    refine wm_lald d_MM_best_44 h23 h26 ?_
    refine wm_lmul d_MM_best_45 ?_
    refine wm_lsub d_MM_best_46 ?_
    refine wm_lstore d_MM_best_47 (by decide) (L' := [vr a0, vi l1, vi l2, vi l3, vi l4, vi l5, vl (((mL M (mR M a0 21) (Int.toNat l5)) * (mL M (mR M a0 22) (Int.toNat l4))) - ((mL M (mR M a0 21) (Int.toNat l4)) * (mL M (mR M a0 22) (Int.toNat l5)))), vd]) rfl ?_
    refine wm_iload_n d_MM_best_49 rfl rfl ?_
    obtain ⟨s36, h⟩ := h
    have hJ : ∀ v35 : Int, v35 = (if (((l1 = 0) ∧ ((¬ (l1 = 0)) ∨ (cmpL (((mL M (mR M a0 21) (Int.toNat l5)) * (mL M (mR M a0 22) (Int.toNat l4))) - ((mL M (mR M a0 21) (Int.toNat l4)) * (mL M (mR M a0 22) (Int.toNat l5)))) 0 ≤ 0))) ∨ ((¬ (l1 = 0)) ∧ ((¬ (cmpL (((mL M (mR M a0 21) (Int.toNat l5)) * (mL M (mR M a0 22) (Int.toNat l4))) - ((mL M (mR M a0 21) (Int.toNat l4)) * (mL M (mR M a0 22) (Int.toNat l5)))) 0 < 0)) ∧ ((¬ (l1 = 0)) ∨ (cmpL (((mL M (mR M a0 21) (Int.toNat l5)) * (mL M (mR M a0 22) (Int.toNat l4))) - ((mL M (mR M a0 21) (Int.toNat l4)) * (mL M (mR M a0 22) (Int.toNat l5)))) 0 ≤ 0))))) then l4 else l5) → mWm G y_MM_best (d + 1) 78 [vr a0, vi l1, vi l2, vi l3, vd, vi l5, vd, vd] [vi v35] M (fun r9 M9 => r9 = none ∧ Q M9) := by
      intro v35 e37
      have h := h v35 e37
      have h38 : i32 v35 := by rw [e37]; (repeat' split) <;> first | exact hi_l4 | exact hi_l5
      refine wm_istore d_MM_best_78 (by decide) (L' := [vr a0, vi l1, vi l2, vi l3, vi v35, vi l5, vd, vd]) rfl ?_
      refine wm_iinc d_MM_best_80 (by decide) rfl (L' := [vr a0, vi l1, vi l2, vi l3, vi v35, vi (l5 + 1), vd, vd]) rfl ?_
      refine wm_goto (tgt := 8) d_MM_best_83 rfl ?_
      exact h
    clear h
    obtain ⟨s39, s40⟩ := s36
    refine wm_if_eq (tgt := 60) d_MM_best_50 rfl hi_l1 (fun c27 => ?_) (fun c27 => ?_)
    · have s39 := s39 c27
      have s41 := s39
      refine wm_iload_n d_MM_best_60 rfl rfl ?_
      refine wm_if_ne (tgt := 76) d_MM_best_61 rfl hi_l1 (fun c28 => ?_) (fun c28 => ?_)
      · refine wm_iload d_MM_best_76 rfl ?_
        refine wm_less (L' := [vr a0, vi l1, vi l2, vi l3, vd, vi l5, vd, vd]) ⟨Or.inr rfl, Or.inr rfl, Or.inr rfl, Or.inr rfl, Or.inl rfl, Or.inr rfl, Or.inl rfl, Or.inl rfl, trivial⟩ ?_
        exact hJ l4 (if_pos (Or.inl ⟨c27, (Or.inl c28)⟩)).symm
      · replace c28 := Classical.not_not.mp c28
        have s41 := s41 c28
        have h29 := s41
        refine wm_lload d_MM_best_64 rfl ?_
        refine wm_lconst (x := 0) d_MM_best_66 rfl ?_
        refine wm_lcmp d_MM_best_67 h29 ⟨by decide, by decide⟩ ?_
        refine wm_if_le (tgt := 76) d_MM_best_68 rfl (m_cmp32 _ _) (fun c30 => ?_) (fun c30 => ?_)
        · refine wm_iload d_MM_best_76 rfl ?_
          refine wm_less (L' := [vr a0, vi l1, vi l2, vi l3, vd, vi l5, vd, vd]) ⟨Or.inr rfl, Or.inr rfl, Or.inr rfl, Or.inr rfl, Or.inl rfl, Or.inr rfl, Or.inl rfl, Or.inl rfl, trivial⟩ ?_
          exact hJ l4 (if_pos (Or.inl ⟨c27, (Or.inr c30)⟩)).symm
        · refine wm_iload d_MM_best_71 rfl ?_
          refine wm_goto (tgt := 78) d_MM_best_73 rfl ?_
          refine wm_less (L' := [vr a0, vi l1, vi l2, vi l3, vd, vi l5, vd, vd]) ⟨Or.inr rfl, Or.inr rfl, Or.inr rfl, Or.inr rfl, Or.inl rfl, Or.inr rfl, Or.inl rfl, Or.inl rfl, trivial⟩ ?_
          exact hJ l5 (if_neg (fun z42 => Or.elim z42 (fun w => (fun z43 => Or.elim z43 (fun w => w c28) c30) w.2) (fun w => w.1 c27))).symm
    · have s40 := s40 c27
      have h31 := s40
      refine wm_lload d_MM_best_53 rfl ?_
      refine wm_lconst (x := 0) d_MM_best_55 rfl ?_
      refine wm_lcmp d_MM_best_56 h31 ⟨by decide, by decide⟩ ?_
      refine wm_if_lt (tgt := 71) d_MM_best_57 rfl (m_cmp32 _ _) (fun c32 => ?_) (fun c32 => ?_)
      · refine wm_iload d_MM_best_71 rfl ?_
        refine wm_goto (tgt := 78) d_MM_best_73 rfl ?_
        refine wm_less (L' := [vr a0, vi l1, vi l2, vi l3, vd, vi l5, vd, vd]) ⟨Or.inr rfl, Or.inr rfl, Or.inr rfl, Or.inr rfl, Or.inl rfl, Or.inr rfl, Or.inl rfl, Or.inl rfl, trivial⟩ ?_
        exact hJ l5 (if_neg (fun z45 => Or.elim z45 (fun w => c27 w.1) (fun w => (fun z46 => z46.1 c32) w.2))).symm
      · refine wm_iload_n d_MM_best_60 rfl rfl ?_
        refine wm_if_ne (tgt := 76) d_MM_best_61 rfl hi_l1 (fun c33 => ?_) (fun c33 => ?_)
        · refine wm_iload d_MM_best_76 rfl ?_
          refine wm_less (L' := [vr a0, vi l1, vi l2, vi l3, vd, vi l5, vd, vd]) ⟨Or.inr rfl, Or.inr rfl, Or.inr rfl, Or.inr rfl, Or.inl rfl, Or.inr rfl, Or.inl rfl, Or.inl rfl, trivial⟩ ?_
          exact hJ l4 (if_pos (Or.inr ⟨c27, ⟨c32, (Or.inl c33)⟩⟩)).symm
        · replace c33 := Classical.not_not.mp c33
          refine wm_lload d_MM_best_64 rfl ?_
          refine wm_lconst (x := 0) d_MM_best_66 rfl ?_
          refine wm_lcmp d_MM_best_67 h31 ⟨by decide, by decide⟩ ?_
          refine wm_if_le (tgt := 76) d_MM_best_68 rfl (m_cmp32 _ _) (fun c34 => ?_) (fun c34 => ?_)
          · refine wm_iload d_MM_best_76 rfl ?_
            refine wm_less (L' := [vr a0, vi l1, vi l2, vi l3, vd, vi l5, vd, vd]) ⟨Or.inr rfl, Or.inr rfl, Or.inr rfl, Or.inr rfl, Or.inl rfl, Or.inr rfl, Or.inl rfl, Or.inl rfl, trivial⟩ ?_
            exact hJ l4 (if_pos (Or.inr ⟨c27, ⟨c32, (Or.inr c34)⟩⟩)).symm
          · refine wm_iload d_MM_best_71 rfl ?_
            refine wm_goto (tgt := 78) d_MM_best_73 rfl ?_
            refine wm_less (L' := [vr a0, vi l1, vi l2, vi l3, vd, vi l5, vd, vd]) ⟨Or.inr rfl, Or.inr rfl, Or.inr rfl, Or.inr rfl, Or.inl rfl, Or.inr rfl, Or.inl rfl, Or.inl rfl, trivial⟩ ?_
            exact hJ l5 (if_neg (fun z47 => Or.elim z47 (fun w => c27 w.1) (fun w => (fun z48 => (fun z49 => Or.elim z49 (fun w => w c33) c34) z48.2) w.2))).symm
theorem d_MM_reckon_0 : decode y_MM_reckon.2.1 0 = .ok (.iload_n 1, 1) := dc9_27 (by decide +kernel)
theorem d_MM_reckon_1 : decode y_MM_reckon.2.1 1 = .ok (.tableswitch 156 24 27 #[31, 53, 75, 91], 31) := by decide +kernel
theorem d_MM_reckon_32 : decode y_MM_reckon.2.1 32 = .ok (.aload_n 0, 1) := dc9_42 (by decide +kernel)
theorem d_MM_reckon_33 : decode y_MM_reckon.2.1 33 = .ok (.lload_n 2, 1) := dc9_32 (by decide +kernel)
theorem d_MM_reckon_34 : decode y_MM_reckon.2.1 34 = .ok (.lload 8, 2) := dc9_22 (by decide +kernel)
theorem d_MM_reckon_36 : decode y_MM_reckon.2.1 36 = .ok (.lmul, 1) := dc9_105 (by decide +kernel)
theorem d_MM_reckon_37 : decode y_MM_reckon.2.1 37 = .ok (.lload 6, 2) := dc9_22 (by decide +kernel)
theorem d_MM_reckon_39 : decode y_MM_reckon.2.1 39 = .ok (.lload 4, 2) := dc9_22 (by decide +kernel)
theorem d_MM_reckon_41 : decode y_MM_reckon.2.1 41 = .ok (.lmul, 1) := dc9_105 (by decide +kernel)
theorem d_MM_reckon_42 : decode y_MM_reckon.2.1 42 = .ok (.ladd, 1) := dc9_97 (by decide +kernel)
theorem d_MM_reckon_43 : decode y_MM_reckon.2.1 43 = .ok (.lload 4, 2) := dc9_22 (by decide +kernel)
theorem d_MM_reckon_45 : decode y_MM_reckon.2.1 45 = .ok (.lload 8, 2) := dc9_22 (by decide +kernel)
theorem d_MM_reckon_47 : decode y_MM_reckon.2.1 47 = .ok (.lmul, 1) := dc9_105 (by decide +kernel)
theorem d_MM_reckon_48 : decode y_MM_reckon.2.1 48 = .ok (.iload 10, 2) := dc9_21 (by decide +kernel)
theorem d_MM_reckon_50 : decode y_MM_reckon.2.1 50 = .ok (.invokevirtual 423, 3) := dc9_182 (by decide +kernel)
theorem d_MM_reckon_53 : decode y_MM_reckon.2.1 53 = .ok (.return_, 1) := dc9_177 (by decide +kernel)
theorem d_MM_reckon_54 : decode y_MM_reckon.2.1 54 = .ok (.aload_n 0, 1) := dc9_42 (by decide +kernel)
theorem d_MM_reckon_55 : decode y_MM_reckon.2.1 55 = .ok (.lload_n 2, 1) := dc9_32 (by decide +kernel)
theorem d_MM_reckon_56 : decode y_MM_reckon.2.1 56 = .ok (.lload 8, 2) := dc9_22 (by decide +kernel)
theorem d_MM_reckon_58 : decode y_MM_reckon.2.1 58 = .ok (.lmul, 1) := dc9_105 (by decide +kernel)
theorem d_MM_reckon_59 : decode y_MM_reckon.2.1 59 = .ok (.lload 6, 2) := dc9_22 (by decide +kernel)
theorem d_MM_reckon_61 : decode y_MM_reckon.2.1 61 = .ok (.lload 4, 2) := dc9_22 (by decide +kernel)
theorem d_MM_reckon_63 : decode y_MM_reckon.2.1 63 = .ok (.lmul, 1) := dc9_105 (by decide +kernel)
theorem d_MM_reckon_64 : decode y_MM_reckon.2.1 64 = .ok (.lsub, 1) := dc9_101 (by decide +kernel)
theorem d_MM_reckon_65 : decode y_MM_reckon.2.1 65 = .ok (.lload 4, 2) := dc9_22 (by decide +kernel)
theorem d_MM_reckon_67 : decode y_MM_reckon.2.1 67 = .ok (.lload 8, 2) := dc9_22 (by decide +kernel)
theorem d_MM_reckon_69 : decode y_MM_reckon.2.1 69 = .ok (.lmul, 1) := dc9_105 (by decide +kernel)
theorem d_MM_reckon_70 : decode y_MM_reckon.2.1 70 = .ok (.iload 10, 2) := dc9_21 (by decide +kernel)
theorem d_MM_reckon_72 : decode y_MM_reckon.2.1 72 = .ok (.invokevirtual 423, 3) := dc9_182 (by decide +kernel)
theorem d_MM_reckon_75 : decode y_MM_reckon.2.1 75 = .ok (.return_, 1) := dc9_177 (by decide +kernel)
theorem d_MM_reckon_76 : decode y_MM_reckon.2.1 76 = .ok (.aload_n 0, 1) := dc9_42 (by decide +kernel)
theorem d_MM_reckon_77 : decode y_MM_reckon.2.1 77 = .ok (.lload_n 2, 1) := dc9_32 (by decide +kernel)
theorem d_MM_reckon_78 : decode y_MM_reckon.2.1 78 = .ok (.lload 6, 2) := dc9_22 (by decide +kernel)
theorem d_MM_reckon_80 : decode y_MM_reckon.2.1 80 = .ok (.lmul, 1) := dc9_105 (by decide +kernel)
theorem d_MM_reckon_81 : decode y_MM_reckon.2.1 81 = .ok (.lload 4, 2) := dc9_22 (by decide +kernel)
theorem d_MM_reckon_83 : decode y_MM_reckon.2.1 83 = .ok (.lload 8, 2) := dc9_22 (by decide +kernel)
theorem d_MM_reckon_85 : decode y_MM_reckon.2.1 85 = .ok (.lmul, 1) := dc9_105 (by decide +kernel)
theorem d_MM_reckon_86 : decode y_MM_reckon.2.1 86 = .ok (.iload 10, 2) := dc9_21 (by decide +kernel)
theorem d_MM_reckon_88 : decode y_MM_reckon.2.1 88 = .ok (.invokevirtual 423, 3) := dc9_182 (by decide +kernel)
theorem d_MM_reckon_91 : decode y_MM_reckon.2.1 91 = .ok (.return_, 1) := dc9_177 (by decide +kernel)
theorem d_MM_reckon_92 : decode y_MM_reckon.2.1 92 = .ok (.lload 6, 2) := dc9_22 (by decide +kernel)
theorem d_MM_reckon_94 : decode y_MM_reckon.2.1 94 = .ok (.lconst 0, 1) := dc9_9 (by decide +kernel)
theorem d_MM_reckon_95 : decode y_MM_reckon.2.1 95 = .ok (.lcmp, 1) := dc9_148 (by decide +kernel)
theorem d_MM_reckon_96 : decode y_MM_reckon.2.1 96 = .ok (.ifCond .ne 14, 3) := dc9_154 (by decide +kernel)
theorem d_MM_reckon_99 : decode y_MM_reckon.2.1 99 = .ok (.aload_n 0, 1) := dc9_42 (by decide +kernel)
theorem d_MM_reckon_100 : decode y_MM_reckon.2.1 100 = .ok (.bipush 7, 2) := dc9_16 (by decide +kernel)
theorem d_MM_reckon_102 : decode y_MM_reckon.2.1 102 = .ok (.iload 10, 2) := dc9_21 (by decide +kernel)
theorem d_MM_reckon_110 : decode y_MM_reckon.2.1 110 = .ok (.aload_n 0, 1) := dc9_42 (by decide +kernel)
theorem d_MM_reckon_111 : decode y_MM_reckon.2.1 111 = .ok (.lload 6, 2) := dc9_22 (by decide +kernel)
theorem d_MM_reckon_113 : decode y_MM_reckon.2.1 113 = .ok (.lconst 0, 1) := dc9_9 (by decide +kernel)
theorem d_MM_reckon_114 : decode y_MM_reckon.2.1 114 = .ok (.lcmp, 1) := dc9_148 (by decide +kernel)
theorem d_MM_reckon_104 : decode y_MM_reckon.2.1 104 = .ok (.invokevirtual 351, 3) := dc9_182 (by decide +kernel)
theorem d_MM_reckon_107 : decode y_MM_reckon.2.1 107 = .ok (.goto 49, 3) := dc9_167 (by decide +kernel)
theorem d_MM_reckon_115 : decode y_MM_reckon.2.1 115 = .ok (.ifCond .ge 11, 3) := dc9_156 (by decide +kernel)
theorem d_MM_reckon_126 : decode y_MM_reckon.2.1 126 = .ok (.lload_n 2, 1) := dc9_32 (by decide +kernel)
theorem d_MM_reckon_127 : decode y_MM_reckon.2.1 127 = .ok (.lload 8, 2) := dc9_22 (by decide +kernel)
theorem d_MM_reckon_129 : decode y_MM_reckon.2.1 129 = .ok (.lmul, 1) := dc9_105 (by decide +kernel)
theorem d_MM_reckon_118 : decode y_MM_reckon.2.1 118 = .ok (.lload_n 2, 1) := dc9_32 (by decide +kernel)
theorem d_MM_reckon_119 : decode y_MM_reckon.2.1 119 = .ok (.lneg, 1) := dc9_117 (by decide +kernel)
theorem d_MM_reckon_120 : decode y_MM_reckon.2.1 120 = .ok (.lload 8, 2) := dc9_22 (by decide +kernel)
theorem d_MM_reckon_122 : decode y_MM_reckon.2.1 122 = .ok (.lmul, 1) := dc9_105 (by decide +kernel)
theorem d_MM_reckon_123 : decode y_MM_reckon.2.1 123 = .ok (.goto 7, 3) := dc9_167 (by decide +kernel)
theorem d_MM_reckon_130 : decode y_MM_reckon.2.1 130 = .ok (.lload 6, 2) := dc9_22 (by decide +kernel)
theorem d_MM_reckon_132 : decode y_MM_reckon.2.1 132 = .ok (.lconst 0, 1) := dc9_9 (by decide +kernel)
theorem d_MM_reckon_133 : decode y_MM_reckon.2.1 133 = .ok (.lcmp, 1) := dc9_148 (by decide +kernel)
theorem d_MM_reckon_134 : decode y_MM_reckon.2.1 134 = .ok (.ifCond .ge 12, 3) := dc9_156 (by decide +kernel)
theorem d_MM_reckon_146 : decode y_MM_reckon.2.1 146 = .ok (.lload 6, 2) := dc9_22 (by decide +kernel)
theorem d_MM_reckon_148 : decode y_MM_reckon.2.1 148 = .ok (.lload 4, 2) := dc9_22 (by decide +kernel)
theorem d_MM_reckon_150 : decode y_MM_reckon.2.1 150 = .ok (.lmul, 1) := dc9_105 (by decide +kernel)
theorem d_MM_reckon_137 : decode y_MM_reckon.2.1 137 = .ok (.lload 6, 2) := dc9_22 (by decide +kernel)
theorem d_MM_reckon_139 : decode y_MM_reckon.2.1 139 = .ok (.lneg, 1) := dc9_117 (by decide +kernel)
theorem d_MM_reckon_140 : decode y_MM_reckon.2.1 140 = .ok (.lload 4, 2) := dc9_22 (by decide +kernel)
theorem d_MM_reckon_142 : decode y_MM_reckon.2.1 142 = .ok (.lmul, 1) := dc9_105 (by decide +kernel)
theorem d_MM_reckon_143 : decode y_MM_reckon.2.1 143 = .ok (.goto 8, 3) := dc9_167 (by decide +kernel)
theorem d_MM_reckon_151 : decode y_MM_reckon.2.1 151 = .ok (.iload 10, 2) := dc9_21 (by decide +kernel)
theorem d_MM_reckon_153 : decode y_MM_reckon.2.1 153 = .ok (.invokevirtual 423, 3) := dc9_182 (by decide +kernel)
theorem d_MM_reckon_157 : decode y_MM_reckon.2.1 157 = .ok (.lload 4, 2) := dc9_22 (by decide +kernel)
theorem d_MM_reckon_159 : decode y_MM_reckon.2.1 159 = .ok (.lconst 1, 1) := dc9_10 (by decide +kernel)
theorem d_MM_reckon_160 : decode y_MM_reckon.2.1 160 = .ok (.lcmp, 1) := dc9_148 (by decide +kernel)
theorem d_MM_reckon_161 : decode y_MM_reckon.2.1 161 = .ok (.ifCond .ne 10, 3) := dc9_154 (by decide +kernel)
theorem d_MM_reckon_164 : decode y_MM_reckon.2.1 164 = .ok (.lload 8, 2) := dc9_22 (by decide +kernel)
theorem d_MM_reckon_166 : decode y_MM_reckon.2.1 166 = .ok (.lconst 1, 1) := dc9_10 (by decide +kernel)
theorem d_MM_reckon_167 : decode y_MM_reckon.2.1 167 = .ok (.lcmp, 1) := dc9_148 (by decide +kernel)
theorem d_MM_reckon_168 : decode y_MM_reckon.2.1 168 = .ok (.ifCond .eq 14, 3) := dc9_153 (by decide +kernel)
theorem d_MM_reckon_182 : decode y_MM_reckon.2.1 182 = .ok (.lload 6, 2) := dc9_22 (by decide +kernel)
theorem d_MM_reckon_184 : decode y_MM_reckon.2.1 184 = .ok (.lconst 0, 1) := dc9_9 (by decide +kernel)
theorem d_MM_reckon_185 : decode y_MM_reckon.2.1 185 = .ok (.lcmp, 1) := dc9_148 (by decide +kernel)
theorem d_MM_reckon_186 : decode y_MM_reckon.2.1 186 = .ok (.ifCond .gt 14, 3) := dc9_157 (by decide +kernel)
theorem d_MM_reckon_200 : decode y_MM_reckon.2.1 200 = .ok (.aload_n 0, 1) := dc9_42 (by decide +kernel)
theorem d_MM_reckon_201 : decode y_MM_reckon.2.1 201 = .ok (.lload_n 2, 1) := dc9_32 (by decide +kernel)
theorem d_MM_reckon_202 : decode y_MM_reckon.2.1 202 = .ok (.lload 6, 2) := dc9_22 (by decide +kernel)
theorem d_MM_reckon_204 : decode y_MM_reckon.2.1 204 = .ok (.lrem, 1) := dc9_113 (by decide +kernel)
theorem d_MM_reckon_205 : decode y_MM_reckon.2.1 205 = .ok (.lconst 0, 1) := dc9_9 (by decide +kernel)
theorem d_MM_reckon_206 : decode y_MM_reckon.2.1 206 = .ok (.lcmp, 1) := dc9_148 (by decide +kernel)
theorem d_MM_reckon_189 : decode y_MM_reckon.2.1 189 = .ok (.aload_n 0, 1) := dc9_42 (by decide +kernel)
theorem d_MM_reckon_190 : decode y_MM_reckon.2.1 190 = .ok (.bipush 7, 2) := dc9_16 (by decide +kernel)
theorem d_MM_reckon_192 : decode y_MM_reckon.2.1 192 = .ok (.iload 10, 2) := dc9_21 (by decide +kernel)
theorem d_MM_reckon_207 : decode y_MM_reckon.2.1 207 = .ok (.ifCond .ge 13, 3) := dc9_156 (by decide +kernel)
theorem d_MM_reckon_220 : decode y_MM_reckon.2.1 220 = .ok (.lload_n 2, 1) := dc9_32 (by decide +kernel)
theorem d_MM_reckon_221 : decode y_MM_reckon.2.1 221 = .ok (.lload 6, 2) := dc9_22 (by decide +kernel)
theorem d_MM_reckon_223 : decode y_MM_reckon.2.1 223 = .ok (.lrem, 1) := dc9_113 (by decide +kernel)
theorem d_MM_reckon_210 : decode y_MM_reckon.2.1 210 = .ok (.lload_n 2, 1) := dc9_32 (by decide +kernel)
theorem d_MM_reckon_211 : decode y_MM_reckon.2.1 211 = .ok (.lload 6, 2) := dc9_22 (by decide +kernel)
theorem d_MM_reckon_213 : decode y_MM_reckon.2.1 213 = .ok (.lrem, 1) := dc9_113 (by decide +kernel)
theorem d_MM_reckon_214 : decode y_MM_reckon.2.1 214 = .ok (.lload 6, 2) := dc9_22 (by decide +kernel)
theorem d_MM_reckon_216 : decode y_MM_reckon.2.1 216 = .ok (.ladd, 1) := dc9_97 (by decide +kernel)
theorem d_MM_reckon_217 : decode y_MM_reckon.2.1 217 = .ok (.goto 7, 3) := dc9_167 (by decide +kernel)
theorem d_MM_reckon_224 : decode y_MM_reckon.2.1 224 = .ok (.lconst 1, 1) := dc9_10 (by decide +kernel)
theorem d_MM_reckon_225 : decode y_MM_reckon.2.1 225 = .ok (.invokevirtual 373, 3) := dc9_182 (by decide +kernel)
theorem d_MM_reckon_194 : decode y_MM_reckon.2.1 194 = .ok (.invokevirtual 351, 3) := dc9_182 (by decide +kernel)
theorem d_MM_reckon_197 : decode y_MM_reckon.2.1 197 = .ok (.goto 31, 3) := dc9_167 (by decide +kernel)
theorem d_MM_reckon_171 : decode y_MM_reckon.2.1 171 = .ok (.aload_n 0, 1) := dc9_42 (by decide +kernel)
theorem d_MM_reckon_172 : decode y_MM_reckon.2.1 172 = .ok (.bipush 8, 2) := dc9_16 (by decide +kernel)
theorem d_MM_reckon_174 : decode y_MM_reckon.2.1 174 = .ok (.iload 10, 2) := dc9_21 (by decide +kernel)
theorem d_MM_reckon_176 : decode y_MM_reckon.2.1 176 = .ok (.invokevirtual 351, 3) := dc9_182 (by decide +kernel)
theorem d_MM_reckon_179 : decode y_MM_reckon.2.1 179 = .ok (.goto 49, 3) := dc9_167 (by decide +kernel)
theorem d_MM_reckon_156 : decode y_MM_reckon.2.1 156 = .ok (.return_, 1) := dc9_177 (by decide +kernel)
theorem d_MM_reckon_228 : decode y_MM_reckon.2.1 228 = .ok (.return_, 1) := dc9_177 (by decide +kernel)
def h_MM_reckon_156 (G : mG) (d : Nat) (M : mM) (Q : mM → Prop) : Prop := mWm G y_MM_reckon (d + 1) 156 [vd, vd, vd, vd, vd, vd, vd, vd, vd, vd, vd] [] M (fun r9 M9 => r9 = none ∧ Q M9)
def h_MM_reckon_228 (G : mG) (d : Nat) (M : mM) (Q : mM → Prop) : Prop := mWm G y_MM_reckon (d + 1) 228 [vd, vd, vd, vd, vd, vd, vd, vd, vd, vd, vd] [] M (fun r9 M9 => r9 = none ∧ Q M9)
theorem k_MM_reckon {G : mG} {d : Nat} {a0 : Nat} {l1 : Int} {j2 : Int} {j4 : Int} {j6 : Int} {j8 : Int} {l10 : Int} {M : mM} {Q : mM → Prop} (hO : mOk M) (hi_l1 : i32 l1) (hi_j2 : i64 j2) (hi_j4 : i64 j4) (hi_j6 : i64 j6) (hi_j8 : i64 j8) (hi_l10 : i32 l10)
    (h : ((l1 = 24) → (mK M a0 = 14 ∧ Cv G y_MM_pushFraction d [vr a0, vl ((j2 * j8) + (j6 * j4)), vl (j4 * j8), vi l10] M (fun M3 => mOk M3 ∧ (Q M3)))) ∧ (¬ (l1 = 24) → (((l1 = 25) → (mK M a0 = 14 ∧ Cv G y_MM_pushFraction d [vr a0, vl ((j2 * j8) - (j6 * j4)), vl (j4 * j8), vi l10] M (fun M8 => mOk M8 ∧ (Q M8)))) ∧ (¬ (l1 = 25) → (((l1 = 26) → (mK M a0 = 14 ∧ Cv G y_MM_pushFraction d [vr a0, vl (j2 * j6), vl (j4 * j8), vi l10] M (fun M13 => mOk M13 ∧ (Q M13)))) ∧ (¬ (l1 = 26) → (((l1 = 27) → (((cmpL j6 0 = 0) → (mK M a0 = 14 ∧ Cv G y_MM_stop d [vr a0, vi 7, vi l10] M (fun M20 => mOk M20 ∧ (h_MM_reckon_156 G d  M20 Q)))) ∧ (¬ (cmpL j6 0 = 0) → (∀ v24 : Int, v24 = (if (0 ≤ cmpL j6 0) then j2 * j8 else (-j2) * j8) → ∀ v28 : Int, v28 = (if (0 ≤ cmpL j6 0) then j6 * j4 else (-j6) * j4) → mK M a0 = 14 ∧ Cv G y_MM_pushFraction d [vr a0, vl v24, vl v28, vi l10] M (fun M32 => mOk M32 ∧ (h_MM_reckon_156 G d  M32 Q)))))) ∧ (¬ (l1 = 27) → ((((cmpL j4 1 = 0) ∧ (cmpL j8 1 = 0)) → (((0 < cmpL j6 0) → (j6 ≠ 0 ∧ (((0 ≤ cmpL (Int.tmod j2 j6) 0) → j6 ≠ 0) ∧ (¬ (0 ≤ cmpL (Int.tmod j2 j6) 0) → j6 ≠ 0)) ∧ ∀ v50 : Int, v50 = (if (0 ≤ cmpL (Int.tmod j2 j6) 0) then Int.tmod j2 j6 else (Int.tmod j2 j6) + j6) → mK M a0 = 14 ∧ Cv G y_MM_push d [vr a0, vl v50, vl 1] M (fun M54 => mOk M54 ∧ (h_MM_reckon_228 G d  M54 Q)))) ∧ (¬ (0 < cmpL j6 0) → (mK M a0 = 14 ∧ Cv G y_MM_stop d [vr a0, vi 7, vi l10] M (fun M61 => mOk M61 ∧ (h_MM_reckon_228 G d  M61 Q)))))) ∧ (¬ ((cmpL j4 1 = 0) ∧ (cmpL j8 1 = 0)) → (mK M a0 = 14 ∧ Cv G y_MM_stop d [vr a0, vi 8, vi l10] M (fun M66 => mOk M66 ∧ (h_MM_reckon_228 G d  M66 Q))))))))))))) :
    Cv G y_MM_reckon (d + 1) [vr a0, vi l1, vl j2, vl j4, vl j6, vl j8, vi l10] M Q := by
  refine wm_open (y := y_MM_reckon) rfl (Nat.le_of_ble_eq_true rfl) (L := [vr a0, vi l1, vl j2, vd, vl j4, vd, vl j6, vd, vl j8, vd, vi l10]) rfl ?_
  refine wm_iload_n d_MM_reckon_0 rfl rfl ?_
  by_cases c1 : l1 = 24
  · replace h := h.1 c1
    refine wm_tableIn (tgt := 32) (off := 31) d_MM_reckon_1 hi_l1 (by omega) (by omega) (by rw [c1]; rfl) rfl ?_
    obtain ⟨h2, h⟩ := h
    refine wm_aload_n d_MM_reckon_32 rfl rfl ?_
    refine wm_lload_n d_MM_reckon_33 rfl rfl ?_
    refine wm_lload d_MM_reckon_34 rfl ?_
    refine wm_lmul d_MM_reckon_36 ?_
    refine wm_lload d_MM_reckon_37 rfl ?_
    refine wm_lload d_MM_reckon_39 rfl ?_
    refine wm_lmul d_MM_reckon_41 ?_
    refine wm_ladd d_MM_reckon_42 ?_
    refine wm_lload d_MM_reckon_43 rfl ?_
    refine wm_lload d_MM_reckon_45 rfl ?_
    refine wm_lmul d_MM_reckon_47 ?_
    refine wm_iload d_MM_reckon_48 rfl ?_
    refine cf_MM_423 rfl d_MM_reckon_50 h2 (Nat.le_of_ble_eq_true rfl) (Cv.mono h (fun M3 h => ?_))
    obtain ⟨hOM3, h⟩ := h
    refine wm_return d_MM_reckon_53 rfl ?_
    exact ⟨rfl, h⟩
  · replace h := h.2 c1
    by_cases c6 : l1 = 25
    · replace h := h.1 c6
      refine wm_tableIn (tgt := 54) (off := 53) d_MM_reckon_1 hi_l1 (by omega) (by omega) (by rw [c6]; rfl) rfl ?_
      obtain ⟨h7, h⟩ := h
      refine wm_aload_n d_MM_reckon_54 rfl rfl ?_
      refine wm_lload_n d_MM_reckon_55 rfl rfl ?_
      refine wm_lload d_MM_reckon_56 rfl ?_
      refine wm_lmul d_MM_reckon_58 ?_
      refine wm_lload d_MM_reckon_59 rfl ?_
      refine wm_lload d_MM_reckon_61 rfl ?_
      refine wm_lmul d_MM_reckon_63 ?_
      refine wm_lsub d_MM_reckon_64 ?_
      refine wm_lload d_MM_reckon_65 rfl ?_
      refine wm_lload d_MM_reckon_67 rfl ?_
      refine wm_lmul d_MM_reckon_69 ?_
      refine wm_iload d_MM_reckon_70 rfl ?_
      refine cf_MM_423 rfl d_MM_reckon_72 h7 (Nat.le_of_ble_eq_true rfl) (Cv.mono h (fun M8 h => ?_))
      obtain ⟨hOM8, h⟩ := h
      refine wm_return d_MM_reckon_75 rfl ?_
      exact ⟨rfl, h⟩
    · replace h := h.2 c6
      by_cases c11 : l1 = 26
      · replace h := h.1 c11
        refine wm_tableIn (tgt := 76) (off := 75) d_MM_reckon_1 hi_l1 (by omega) (by omega) (by rw [c11]; rfl) rfl ?_
        obtain ⟨h12, h⟩ := h
        refine wm_aload_n d_MM_reckon_76 rfl rfl ?_
        refine wm_lload_n d_MM_reckon_77 rfl rfl ?_
        refine wm_lload d_MM_reckon_78 rfl ?_
        refine wm_lmul d_MM_reckon_80 ?_
        refine wm_lload d_MM_reckon_81 rfl ?_
        refine wm_lload d_MM_reckon_83 rfl ?_
        refine wm_lmul d_MM_reckon_85 ?_
        refine wm_iload d_MM_reckon_86 rfl ?_
        refine cf_MM_423 rfl d_MM_reckon_88 h12 (Nat.le_of_ble_eq_true rfl) (Cv.mono h (fun M13 h => ?_))
        obtain ⟨hOM13, h⟩ := h
        refine wm_return d_MM_reckon_91 rfl ?_
        exact ⟨rfl, h⟩
      · replace h := h.2 c11
        by_cases c16 : l1 = 27
        · replace h := h.1 c16
          refine wm_tableIn (tgt := 92) (off := 91) d_MM_reckon_1 hi_l1 (by omega) (by omega) (by rw [c16]; rfl) rfl ?_
          refine wm_lload d_MM_reckon_92 rfl ?_
          refine wm_lconst (x := 0) d_MM_reckon_94 rfl ?_
          refine wm_lcmp d_MM_reckon_95 hi_j6 ⟨by decide, by decide⟩ ?_
          refine wm_if_ne (tgt := 110) d_MM_reckon_96 rfl (m_cmp32 _ _) (fun c18 => ?_) (fun c18 => ?_)
          · replace h := h.2 c18
            refine wm_aload_n d_MM_reckon_110 rfl rfl ?_
            refine wm_lload d_MM_reckon_111 rfl ?_
            refine wm_lconst (x := 0) d_MM_reckon_113 rfl ?_
            refine wm_lcmp d_MM_reckon_114 hi_j6 ⟨by decide, by decide⟩ ?_
            have hJ : ∀ v24 : Int, v24 = (if (0 ≤ cmpL j6 0) then j2 * j8 else (-j2) * j8) → mWm G y_MM_reckon (d + 1) 130 [vd, vd, vd, vd, vl j4, vd, vl j6, vd, vd, vd, vi l10] [vl v24, vr a0] M (fun r9 M9 => r9 = none ∧ Q M9) := by
              intro v24 e26
              have h := h v24 e26
              refine wm_lload d_MM_reckon_130 rfl ?_
              refine wm_lconst (x := 0) d_MM_reckon_132 rfl ?_
              refine wm_lcmp d_MM_reckon_133 hi_j6 ⟨by decide, by decide⟩ ?_
              have hJ : ∀ v28 : Int, v28 = (if (0 ≤ cmpL j6 0) then j6 * j4 else (-j6) * j4) → mWm G y_MM_reckon (d + 1) 151 [vd, vd, vd, vd, vd, vd, vd, vd, vd, vd, vi l10] [vl v28, vl v24, vr a0] M (fun r9 M9 => r9 = none ∧ Q M9) := by
                intro v28 e30
                have h := h v28 e30
                obtain ⟨h31, h⟩ := h
                refine wm_iload d_MM_reckon_151 rfl ?_
                refine cf_MM_423 rfl d_MM_reckon_153 h31 (Nat.le_of_ble_eq_true rfl) (Cv.mono h (fun M32 h => ?_))
                obtain ⟨hOM32, h⟩ := h
                refine wm_less (L' := [vd, vd, vd, vd, vd, vd, vd, vd, vd, vd, vd]) ⟨Or.inl rfl, Or.inl rfl, Or.inl rfl, Or.inl rfl, Or.inl rfl, Or.inl rfl, Or.inl rfl, Or.inl rfl, Or.inl rfl, Or.inl rfl, Or.inl rfl, trivial⟩ ?_
                exact h
              clear h
              refine wm_if_ge (tgt := 146) d_MM_reckon_134 rfl (m_cmp32 _ _) (fun c27 => ?_) (fun c27 => ?_)
              · refine wm_lload d_MM_reckon_146 rfl ?_
                refine wm_lload d_MM_reckon_148 rfl ?_
                refine wm_lmul d_MM_reckon_150 ?_
                refine wm_less (L' := [vd, vd, vd, vd, vd, vd, vd, vd, vd, vd, vi l10]) ⟨Or.inl rfl, Or.inl rfl, Or.inl rfl, Or.inl rfl, Or.inl rfl, Or.inl rfl, Or.inl rfl, Or.inl rfl, Or.inl rfl, Or.inl rfl, Or.inr rfl, trivial⟩ ?_
                exact hJ (j6 * j4) (if_pos c27).symm
              · refine wm_lload d_MM_reckon_137 rfl ?_
                refine wm_lneg d_MM_reckon_139 ?_
                refine wm_lload d_MM_reckon_140 rfl ?_
                refine wm_lmul d_MM_reckon_142 ?_
                refine wm_goto (tgt := 151) d_MM_reckon_143 rfl ?_
                refine wm_less (L' := [vd, vd, vd, vd, vd, vd, vd, vd, vd, vd, vi l10]) ⟨Or.inl rfl, Or.inl rfl, Or.inl rfl, Or.inl rfl, Or.inl rfl, Or.inl rfl, Or.inl rfl, Or.inl rfl, Or.inl rfl, Or.inl rfl, Or.inr rfl, trivial⟩ ?_
                exact hJ ((-j6) * j4) (if_neg c27).symm
            clear h
            refine wm_if_ge (tgt := 126) d_MM_reckon_115 rfl (m_cmp32 _ _) (fun c23 => ?_) (fun c23 => ?_)
            · refine wm_lload_n d_MM_reckon_126 rfl rfl ?_
              refine wm_lload d_MM_reckon_127 rfl ?_
              refine wm_lmul d_MM_reckon_129 ?_
              refine wm_less (L' := [vd, vd, vd, vd, vl j4, vd, vl j6, vd, vd, vd, vi l10]) ⟨Or.inl rfl, Or.inl rfl, Or.inl rfl, Or.inl rfl, Or.inr rfl, Or.inl rfl, Or.inr rfl, Or.inl rfl, Or.inl rfl, Or.inl rfl, Or.inr rfl, trivial⟩ ?_
              exact hJ (j2 * j8) (if_pos c23).symm
            · refine wm_lload_n d_MM_reckon_118 rfl rfl ?_
              refine wm_lneg d_MM_reckon_119 ?_
              refine wm_lload d_MM_reckon_120 rfl ?_
              refine wm_lmul d_MM_reckon_122 ?_
              refine wm_goto (tgt := 130) d_MM_reckon_123 rfl ?_
              refine wm_less (L' := [vd, vd, vd, vd, vl j4, vd, vl j6, vd, vd, vd, vi l10]) ⟨Or.inl rfl, Or.inl rfl, Or.inl rfl, Or.inl rfl, Or.inr rfl, Or.inl rfl, Or.inr rfl, Or.inl rfl, Or.inl rfl, Or.inl rfl, Or.inr rfl, trivial⟩ ?_
              exact hJ ((-j2) * j8) (if_neg c23).symm
          · replace c18 := Classical.not_not.mp c18
            replace h := h.1 c18
            obtain ⟨h19, h⟩ := h
            refine wm_aload_n d_MM_reckon_99 rfl rfl ?_
            refine wm_bipush d_MM_reckon_100 (by decide) ?_
            refine wm_iload d_MM_reckon_102 rfl ?_
            refine cf_MM_351 rfl d_MM_reckon_104 h19 (Nat.le_of_ble_eq_true rfl) (Cv.mono h (fun M20 h => ?_))
            obtain ⟨hOM20, h⟩ := h
            refine wm_goto (tgt := 156) d_MM_reckon_107 rfl ?_
            refine wm_less (L' := [vd, vd, vd, vd, vd, vd, vd, vd, vd, vd, vd]) ⟨Or.inl rfl, Or.inl rfl, Or.inl rfl, Or.inl rfl, Or.inl rfl, Or.inl rfl, Or.inl rfl, Or.inl rfl, Or.inl rfl, Or.inl rfl, Or.inl rfl, trivial⟩ ?_
            exact h
        · replace h := h.2 c16
          refine wm_tableOut (tgt := 157) d_MM_reckon_1 hi_l1 (by omega) rfl ?_
          refine wm_lload d_MM_reckon_157 rfl ?_
          refine wm_lconst (x := 1) d_MM_reckon_159 rfl ?_
          refine wm_lcmp d_MM_reckon_160 hi_j4 ⟨by decide, by decide⟩ ?_
          have hE0 : ((cmpL j4 1 = 0) ∧ (cmpL j8 1 = 0)) → mWm G y_MM_reckon (d + 1) 182 [vr a0, vi l1, vl j2, vd, vl j4, vd, vl j6, vd, vl j8, vd, vi l10] [] M (fun r9 M9 => r9 = none ∧ Q M9) := by
            intro q42
            have h := h.1 q42
            refine wm_lload d_MM_reckon_182 rfl ?_
            refine wm_lconst (x := 0) d_MM_reckon_184 rfl ?_
            refine wm_lcmp d_MM_reckon_185 hi_j6 ⟨by decide, by decide⟩ ?_
            refine wm_if_gt (tgt := 200) d_MM_reckon_186 rfl (m_cmp32 _ _) (fun c45 => ?_) (fun c45 => ?_)
            · replace h := h.1 c45
              obtain ⟨h46, h⟩ := h
              refine wm_aload_n d_MM_reckon_200 rfl rfl ?_
              refine wm_lload_n d_MM_reckon_201 rfl rfl ?_
              refine wm_lload d_MM_reckon_202 rfl ?_
              refine wm_lrem d_MM_reckon_204 hi_j2 hi_j6 h46 ?_
              refine wm_lconst (x := 0) d_MM_reckon_205 rfl ?_
              refine wm_lcmp d_MM_reckon_206 (m_tmod64 hi_j2 hi_j6) ⟨by decide, by decide⟩ ?_
              obtain ⟨s51, h⟩ := h
              have hJ : ∀ v50 : Int, v50 = (if (0 ≤ cmpL (Int.tmod j2 j6) 0) then Int.tmod j2 j6 else (Int.tmod j2 j6) + j6) → mWm G y_MM_reckon (d + 1) 224 [vd, vd, vd, vd, vd, vd, vd, vd, vd, vd, vd] [vl v50, vr a0] M (fun r9 M9 => r9 = none ∧ Q M9) := by
                intro v50 e52
                have h := h v50 e52
                obtain ⟨h53, h⟩ := h
                refine wm_lconst (x := 1) d_MM_reckon_224 rfl ?_
                refine cf_MM_373 rfl d_MM_reckon_225 h53 (Nat.le_of_ble_eq_true rfl) (Cv.mono h (fun M54 h => ?_))
                obtain ⟨hOM54, h⟩ := h
                exact h
              clear h
              obtain ⟨s57, s58⟩ := s51
              refine wm_if_ge (tgt := 220) d_MM_reckon_207 rfl (m_cmp32 _ _) (fun c47 => ?_) (fun c47 => ?_)
              · have s57 := s57 c47
                have h48 := s57
                refine wm_lload_n d_MM_reckon_220 rfl rfl ?_
                refine wm_lload d_MM_reckon_221 rfl ?_
                refine wm_lrem d_MM_reckon_223 hi_j2 hi_j6 h48 ?_
                refine wm_less (L' := [vd, vd, vd, vd, vd, vd, vd, vd, vd, vd, vd]) ⟨Or.inl rfl, Or.inl rfl, Or.inl rfl, Or.inl rfl, Or.inl rfl, Or.inl rfl, Or.inl rfl, Or.inl rfl, Or.inl rfl, Or.inl rfl, Or.inl rfl, trivial⟩ ?_
                exact hJ (Int.tmod j2 j6) (if_pos c47).symm
              · have s58 := s58 c47
                have h49 := s58
                refine wm_lload_n d_MM_reckon_210 rfl rfl ?_
                refine wm_lload d_MM_reckon_211 rfl ?_
                refine wm_lrem d_MM_reckon_213 hi_j2 hi_j6 h49 ?_
                refine wm_lload d_MM_reckon_214 rfl ?_
                refine wm_ladd d_MM_reckon_216 ?_
                refine wm_goto (tgt := 224) d_MM_reckon_217 rfl ?_
                refine wm_less (L' := [vd, vd, vd, vd, vd, vd, vd, vd, vd, vd, vd]) ⟨Or.inl rfl, Or.inl rfl, Or.inl rfl, Or.inl rfl, Or.inl rfl, Or.inl rfl, Or.inl rfl, Or.inl rfl, Or.inl rfl, Or.inl rfl, Or.inl rfl, trivial⟩ ?_
                exact hJ ((Int.tmod j2 j6) + j6) (if_neg c47).symm
            · replace h := h.2 c45
              obtain ⟨h60, h⟩ := h
              refine wm_aload_n d_MM_reckon_189 rfl rfl ?_
              refine wm_bipush d_MM_reckon_190 (by decide) ?_
              refine wm_iload d_MM_reckon_192 rfl ?_
              refine cf_MM_351 rfl d_MM_reckon_194 h60 (Nat.le_of_ble_eq_true rfl) (Cv.mono h (fun M61 h => ?_))
              obtain ⟨hOM61, h⟩ := h
              refine wm_goto (tgt := 228) d_MM_reckon_197 rfl ?_
              refine wm_less (L' := [vd, vd, vd, vd, vd, vd, vd, vd, vd, vd, vd]) ⟨Or.inl rfl, Or.inl rfl, Or.inl rfl, Or.inl rfl, Or.inl rfl, Or.inl rfl, Or.inl rfl, Or.inl rfl, Or.inl rfl, Or.inl rfl, Or.inl rfl, trivial⟩ ?_
              exact h
          have hE1 : ¬ ((cmpL j4 1 = 0) ∧ (cmpL j8 1 = 0)) → mWm G y_MM_reckon (d + 1) 171 [vr a0, vi l1, vl j2, vd, vl j4, vd, vl j6, vd, vl j8, vd, vi l10] [] M (fun r9 M9 => r9 = none ∧ Q M9) := by
            intro q64
            have h := h.2 q64
            obtain ⟨h65, h⟩ := h
            refine wm_aload_n d_MM_reckon_171 rfl rfl ?_
            refine wm_bipush d_MM_reckon_172 (by decide) ?_
            refine wm_iload d_MM_reckon_174 rfl ?_
            refine cf_MM_351 rfl d_MM_reckon_176 h65 (Nat.le_of_ble_eq_true rfl) (Cv.mono h (fun M66 h => ?_))
            obtain ⟨hOM66, h⟩ := h
            refine wm_goto (tgt := 228) d_MM_reckon_179 rfl ?_
            refine wm_less (L' := [vd, vd, vd, vd, vd, vd, vd, vd, vd, vd, vd]) ⟨Or.inl rfl, Or.inl rfl, Or.inl rfl, Or.inl rfl, Or.inl rfl, Or.inl rfl, Or.inl rfl, Or.inl rfl, Or.inl rfl, Or.inl rfl, Or.inl rfl, trivial⟩ ?_
            exact h
          clear h
          refine wm_if_ne (tgt := 171) d_MM_reckon_161 rfl (m_cmp32 _ _) (fun c40 => ?_) (fun c40 => ?_)
          · exact hE1 (fun z71 => c40 z71.1)
          · replace c40 := Classical.not_not.mp c40
            refine wm_lload d_MM_reckon_164 rfl ?_
            refine wm_lconst (x := 1) d_MM_reckon_166 rfl ?_
            refine wm_lcmp d_MM_reckon_167 hi_j8 ⟨by decide, by decide⟩ ?_
            refine wm_if_eq (tgt := 182) d_MM_reckon_168 rfl (m_cmp32 _ _) (fun c39 => ?_) (fun c39 => ?_)
            · exact hE0 ⟨c40, c39⟩
            · exact hE1 (fun z69 => c39 z69.2)
theorem k_MM_reckon_156 {G : mG} {d : Nat} {M : mM} {Q : mM → Prop} (hO : mOk M)
    (h : Q M) :
    h_MM_reckon_156 G d  M Q := by
  unfold h_MM_reckon_156
  refine wm_return d_MM_reckon_156 rfl ?_
  exact ⟨rfl, h⟩
theorem k_MM_reckon_228 {G : mG} {d : Nat} {M : mM} {Q : mM → Prop} (hO : mOk M)
    (h : Q M) :
    h_MM_reckon_228 G d  M Q := by
  unfold h_MM_reckon_228
  refine wm_return d_MM_reckon_228 rfl ?_
  exact ⟨rfl, h⟩
theorem d_MM_until_0 : decode y_MM_until.2.1 0 = .ok (.iconst 0, 1) := dc9_3 (by decide +kernel)
theorem d_MM_until_1 : decode y_MM_until.2.1 1 = .ok (.istore_n 3, 1) := dc9_62 (by decide +kernel)
theorem d_MM_until_2 : decode y_MM_until.2.1 2 = .ok (.iconst 0, 1) := dc9_3 (by decide +kernel)
theorem d_MM_until_3 : decode y_MM_until.2.1 3 = .ok (.istore 4, 2) := dc9_54 (by decide +kernel)
theorem d_MM_until_5 : decode y_MM_until.2.1 5 = .ok (.iload_n 1, 1) := dc9_27 (by decide +kernel)
theorem d_MM_until_6 : decode y_MM_until.2.1 6 = .ok (.istore 5, 2) := dc9_54 (by decide +kernel)
theorem d_MM_until_8 : decode y_MM_until.2.1 8 = .ok (.aload_n 0, 1) := dc9_42 (by decide +kernel)
theorem d_MM_until_9 : decode y_MM_until.2.1 9 = .ok (.iload 5, 2) := dc9_21 (by decide +kernel)
theorem d_MM_until_11 : decode y_MM_until.2.1 11 = .ok (.invokevirtual 302, 3) := dc9_182 (by decide +kernel)
theorem d_MM_until_14 : decode y_MM_until.2.1 14 = .ok (.iload_n 2, 1) := dc9_28 (by decide +kernel)
theorem d_MM_until_15 : decode y_MM_until.2.1 15 = .ok (.if_icmp .ne 12, 3) := dc9_160 (by decide +kernel)
theorem d_MM_until_18 : decode y_MM_until.2.1 18 = .ok (.iload_n 3, 1) := dc9_29 (by decide +kernel)
theorem d_MM_until_19 : decode y_MM_until.2.1 19 = .ok (.ifCond .gt 8, 3) := dc9_157 (by decide +kernel)
theorem d_MM_until_22 : decode y_MM_until.2.1 22 = .ok (.iload 4, 2) := dc9_21 (by decide +kernel)
theorem d_MM_until_24 : decode y_MM_until.2.1 24 = .ok (.ifCond .le 86, 3) := dc9_158 (by decide +kernel)
theorem d_MM_until_110 : decode y_MM_until.2.1 110 = .ok (.iload 5, 2) := dc9_21 (by decide +kernel)
theorem d_MM_until_112 : decode y_MM_until.2.1 112 = .ok (.ireturn, 1) := dc9_172 (by decide +kernel)
theorem d_MM_until_27 : decode y_MM_until.2.1 27 = .ok (.aload_n 0, 1) := dc9_42 (by decide +kernel)
theorem d_MM_until_28 : decode y_MM_until.2.1 28 = .ok (.iload 5, 2) := dc9_21 (by decide +kernel)
theorem d_MM_until_30 : decode y_MM_until.2.1 30 = .ok (.invokevirtual 302, 3) := dc9_182 (by decide +kernel)
theorem d_MM_until_33 : decode y_MM_until.2.1 33 = .ok (.istore 6, 2) := dc9_54 (by decide +kernel)
theorem d_MM_until_35 : decode y_MM_until.2.1 35 = .ok (.iload 6, 2) := dc9_21 (by decide +kernel)
theorem d_MM_until_37 : decode y_MM_until.2.1 37 = .ok (.bipush 36, 2) := dc9_16 (by decide +kernel)
theorem d_MM_until_39 : decode y_MM_until.2.1 39 = .ok (.if_icmp .ne 9, 3) := dc9_160 (by decide +kernel)
theorem d_MM_until_42 : decode y_MM_until.2.1 42 = .ok (.iload_n 3, 1) := dc9_29 (by decide +kernel)
theorem d_MM_until_43 : decode y_MM_until.2.1 43 = .ok (.iconst 1, 1) := dc9_4 (by decide +kernel)
theorem d_MM_until_44 : decode y_MM_until.2.1 44 = .ok (.iadd, 1) := dc9_96 (by decide +kernel)
theorem d_MM_until_45 : decode y_MM_until.2.1 45 = .ok (.goto 17, 3) := dc9_167 (by decide +kernel)
theorem d_MM_until_48 : decode y_MM_until.2.1 48 = .ok (.iload 6, 2) := dc9_21 (by decide +kernel)
theorem d_MM_until_50 : decode y_MM_until.2.1 50 = .ok (.bipush 37, 2) := dc9_16 (by decide +kernel)
theorem d_MM_until_52 : decode y_MM_until.2.1 52 = .ok (.if_icmp .ne 9, 3) := dc9_160 (by decide +kernel)
theorem d_MM_until_55 : decode y_MM_until.2.1 55 = .ok (.iload_n 3, 1) := dc9_29 (by decide +kernel)
theorem d_MM_until_56 : decode y_MM_until.2.1 56 = .ok (.iconst 1, 1) := dc9_4 (by decide +kernel)
theorem d_MM_until_57 : decode y_MM_until.2.1 57 = .ok (.isub, 1) := dc9_100 (by decide +kernel)
theorem d_MM_until_58 : decode y_MM_until.2.1 58 = .ok (.goto 4, 3) := dc9_167 (by decide +kernel)
theorem d_MM_until_61 : decode y_MM_until.2.1 61 = .ok (.iload_n 3, 1) := dc9_29 (by decide +kernel)
theorem d_MM_until_62 : decode y_MM_until.2.1 62 = .ok (.istore_n 3, 1) := dc9_62 (by decide +kernel)
theorem d_MM_until_63 : decode y_MM_until.2.1 63 = .ok (.iload_n 3, 1) := dc9_29 (by decide +kernel)
theorem d_MM_until_64 : decode y_MM_until.2.1 64 = .ok (.ifCond .le 8, 3) := dc9_158 (by decide +kernel)
theorem d_MM_until_72 : decode y_MM_until.2.1 72 = .ok (.iload 6, 2) := dc9_21 (by decide +kernel)
theorem d_MM_until_74 : decode y_MM_until.2.1 74 = .ok (.bipush 32, 2) := dc9_16 (by decide +kernel)
theorem d_MM_until_76 : decode y_MM_until.2.1 76 = .ok (.if_icmp .ne 10, 3) := dc9_160 (by decide +kernel)
theorem d_MM_until_79 : decode y_MM_until.2.1 79 = .ok (.iload 4, 2) := dc9_21 (by decide +kernel)
theorem d_MM_until_81 : decode y_MM_until.2.1 81 = .ok (.iconst 1, 1) := dc9_4 (by decide +kernel)
theorem d_MM_until_82 : decode y_MM_until.2.1 82 = .ok (.iadd, 1) := dc9_96 (by decide +kernel)
theorem d_MM_until_83 : decode y_MM_until.2.1 83 = .ok (.goto 19, 3) := dc9_167 (by decide +kernel)
theorem d_MM_until_86 : decode y_MM_until.2.1 86 = .ok (.iload 6, 2) := dc9_21 (by decide +kernel)
theorem d_MM_until_88 : decode y_MM_until.2.1 88 = .ok (.bipush 33, 2) := dc9_16 (by decide +kernel)
theorem d_MM_until_90 : decode y_MM_until.2.1 90 = .ok (.if_icmp .ne 10, 3) := dc9_160 (by decide +kernel)
theorem d_MM_until_93 : decode y_MM_until.2.1 93 = .ok (.iload 4, 2) := dc9_21 (by decide +kernel)
theorem d_MM_until_95 : decode y_MM_until.2.1 95 = .ok (.iconst 1, 1) := dc9_4 (by decide +kernel)
theorem d_MM_until_96 : decode y_MM_until.2.1 96 = .ok (.isub, 1) := dc9_100 (by decide +kernel)
theorem d_MM_until_97 : decode y_MM_until.2.1 97 = .ok (.goto 5, 3) := dc9_167 (by decide +kernel)
theorem d_MM_until_100 : decode y_MM_until.2.1 100 = .ok (.iload 4, 2) := dc9_21 (by decide +kernel)
theorem d_MM_until_67 : decode y_MM_until.2.1 67 = .ok (.iload 4, 2) := dc9_21 (by decide +kernel)
theorem d_MM_until_69 : decode y_MM_until.2.1 69 = .ok (.goto 33, 3) := dc9_167 (by decide +kernel)
theorem d_MM_until_102 : decode y_MM_until.2.1 102 = .ok (.istore 4, 2) := dc9_54 (by decide +kernel)
theorem d_MM_until_104 : decode y_MM_until.2.1 104 = .ok (.iinc 5 1, 3) := by decide +kernel
theorem d_MM_until_107 : decode y_MM_until.2.1 107 = .ok (.goto (-99), 3) := dc9_167 (by decide +kernel)
def h_MM_until_8 (G : mG) (d : Nat) (a0 : Nat) (l2 : Int) (l3 : Int) (l4 : Int) (l5 : Int) (M : mM) (Q : Int → mM → Prop) : Prop := mWm G y_MM_until (d + 1) 8 [vr a0, vd, vi l2, vi l3, vi l4, vi l5, vd] [] M (fun r9 M9 => ∃ x9, r9 = some (vi x9) ∧ Q x9 M9)
theorem k_MM_until {G : mG} {d : Nat} {a0 : Nat} {l1 : Int} {l2 : Int} {M : mM} {Q : Int → mM → Prop} (hO : mOk M) (hi_l1 : i32 l1) (hi_l2 : i32 l2)
    (h : h_MM_until_8 G d a0 l2 0 0 l1 M Q) :
    Ci G y_MM_until (d + 1) [vr a0, vi l1, vi l2] M Q := by
  refine wm_open (y := y_MM_until) rfl (Nat.le_of_ble_eq_true rfl) (L := [vr a0, vi l1, vi l2, vd, vd, vd, vd]) rfl ?_
  refine wm_iconst d_MM_until_0 ?_
  refine wm_istore_n d_MM_until_1 rfl (by decide) (L' := [vr a0, vi l1, vi l2, vi 0, vd, vd, vd]) rfl ?_
  refine wm_iconst d_MM_until_2 ?_
  refine wm_istore d_MM_until_3 (by decide) (L' := [vr a0, vi l1, vi l2, vi 0, vi 0, vd, vd]) rfl ?_
  refine wm_iload_n d_MM_until_5 rfl rfl ?_
  refine wm_istore d_MM_until_6 (by decide) (L' := [vr a0, vi l1, vi l2, vi 0, vi 0, vi l1, vd]) rfl ?_
  refine wm_less (L' := [vr a0, vd, vi l2, vi 0, vi 0, vi l1, vd]) ⟨Or.inr rfl, Or.inl rfl, Or.inr rfl, Or.inr rfl, Or.inr rfl, Or.inr rfl, Or.inl rfl, trivial⟩ ?_
  exact h
theorem k_MM_until_8 {G : mG} {d : Nat} {a0 : Nat} {l2 : Int} {l3 : Int} {l4 : Int} {l5 : Int} {M : mM} {Q : Int → mM → Prop} (hO : mOk M) (hi_l2 : i32 l2) (hi_l3 : i32 l3) (hi_l4 : i32 l4) (hi_l5 : i32 l5)
    (h : mK M a0 = 14 ∧ Ci G y_MM_word1 d [vr a0, vi l5] M (fun x3 M2 => i32 x3 ∧ mOk M2 ∧ ((((¬ (x3 = l2)) ∨ ((0 < l3) ∨ (¬ (l4 ≤ 0)))) → (mK M2 a0 = 14 ∧ Ci G y_MM_word1 d [vr a0, vi l5] M2 (fun x12 M11 => i32 x12 ∧ mOk M11 ∧ (∀ v16 : Int, v16 = (if x12 = 36 then l3 + 1 else (if x12 = 37 then l3 - 1 else l3)) → i32 v16 ∧ ∀ v23 : Int, v23 = (if v16 ≤ 0 then (if x12 = 32 then l4 + 1 else (if x12 = 33 then l4 - 1 else l4)) else l4) → h_MM_until_8 G d a0 l2 v16 v23 (l5 + 1) M11 Q)))) ∧ (¬ ((¬ (x3 = l2)) ∨ ((0 < l3) ∨ (¬ (l4 ≤ 0)))) → (Q l5 M2))))) :
    h_MM_until_8 G d a0 l2 l3 l4 l5 M Q := by
  unfold h_MM_until_8
  obtain ⟨h1, h⟩ := h
  refine wm_aload_n d_MM_until_8 rfl rfl ?_
  refine wm_iload d_MM_until_9 rfl ?_
  refine cf_MM_302 rfl d_MM_until_11 h1 (Nat.le_of_ble_eq_true rfl) (Ci.mono h (fun x3 M2 h => ?_))
  obtain ⟨h4, hOM2, h⟩ := h
  refine wm_iload_n d_MM_until_14 rfl rfl ?_
  have hE0 : ((¬ (x3 = l2)) ∨ ((0 < l3) ∨ (¬ (l4 ≤ 0)))) → mWm G y_MM_until (d + 1) 27 [vr a0, vd, vi l2, vi l3, vi l4, vi l5, vd] [] M2 (fun r9 M9 => ∃ x9, r9 = some (vi x9) ∧ Q x9 M9) := by
    intro q9
    have h := h.1 q9
    obtain ⟨h10, h⟩ := h
    refine wm_aload_n d_MM_until_27 rfl rfl ?_
    refine wm_iload d_MM_until_28 rfl ?_
    refine cf_MM_302 rfl d_MM_until_30 h10 (Nat.le_of_ble_eq_true rfl) (Ci.mono h (fun x12 M11 h => ?_))
    obtain ⟨h13, hOM11, h⟩ := h
    refine wm_istore d_MM_until_33 (by decide) (L' := [vr a0, vd, vi l2, vi l3, vi l4, vi l5, vi x12]) rfl ?_
    refine wm_iload d_MM_until_35 rfl ?_
    refine wm_bipush d_MM_until_37 (by decide) ?_
    have hJ : ∀ v16 : Int, v16 = (if x12 = 36 then l3 + 1 else (if x12 = 37 then l3 - 1 else l3)) → mWm G y_MM_until (d + 1) 62 [vr a0, vd, vi l2, vd, vi l4, vi l5, vi x12] [vi v16] M11 (fun r9 M9 => ∃ x9, r9 = some (vi x9) ∧ Q x9 M9) := by
      intro v16 e18
      have h := h v16 e18
      obtain ⟨h19, h⟩ := h
      refine wm_istore_n d_MM_until_62 rfl (by decide) (L' := [vr a0, vd, vi l2, vi v16, vi l4, vi l5, vi x12]) rfl ?_
      refine wm_iload_n d_MM_until_63 rfl rfl ?_
      have hJ : ∀ v23 : Int, v23 = (if v16 ≤ 0 then (if x12 = 32 then l4 + 1 else (if x12 = 33 then l4 - 1 else l4)) else l4) → mWm G y_MM_until (d + 1) 102 [vr a0, vd, vi l2, vi v16, vd, vi l5, vd] [vi v23] M11 (fun r9 M9 => ∃ x9, r9 = some (vi x9) ∧ Q x9 M9) := by
        intro v23 e25
        have h := h v23 e25
        refine wm_istore d_MM_until_102 (by decide) (L' := [vr a0, vd, vi l2, vi v16, vi v23, vi l5, vd]) rfl ?_
        refine wm_iinc d_MM_until_104 (by decide) rfl (L' := [vr a0, vd, vi l2, vi v16, vi v23, vi (l5 + 1), vd]) rfl ?_
        refine wm_goto (tgt := 8) d_MM_until_107 rfl ?_
        exact h
      clear h
      refine wm_if_le (tgt := 72) d_MM_until_64 rfl h19 (fun c20 => ?_) (fun c20 => ?_)
      · refine wm_iload d_MM_until_72 rfl ?_
        refine wm_bipush d_MM_until_74 (by decide) ?_
        refine wm_icmp_ne (tgt := 86) d_MM_until_76 rfl h13 ⟨by decide, by decide⟩ (fun c21 => ?_) (fun c21 => ?_)
        · refine wm_iload d_MM_until_86 rfl ?_
          refine wm_bipush d_MM_until_88 (by decide) ?_
          refine wm_icmp_ne (tgt := 100) d_MM_until_90 rfl h13 ⟨by decide, by decide⟩ (fun c22 => ?_) (fun c22 => ?_)
          · refine wm_iload d_MM_until_100 rfl ?_
            refine wm_less (L' := [vr a0, vd, vi l2, vi v16, vd, vi l5, vd]) ⟨Or.inr rfl, Or.inl rfl, Or.inr rfl, Or.inr rfl, Or.inl rfl, Or.inr rfl, Or.inl rfl, trivial⟩ ?_
            exact hJ l4 (by rw [if_pos c20, if_neg c21, if_neg c22])
          · replace c22 := Classical.not_not.mp c22
            refine wm_iload d_MM_until_93 rfl ?_
            refine wm_iconst d_MM_until_95 ?_
            refine wm_isub d_MM_until_96 ?_
            refine wm_goto (tgt := 102) d_MM_until_97 rfl ?_
            refine wm_less (L' := [vr a0, vd, vi l2, vi v16, vd, vi l5, vd]) ⟨Or.inr rfl, Or.inl rfl, Or.inr rfl, Or.inr rfl, Or.inl rfl, Or.inr rfl, Or.inl rfl, trivial⟩ ?_
            exact hJ (l4 - 1) (by rw [if_pos c20, if_neg c21, if_pos c22])
        · replace c21 := Classical.not_not.mp c21
          refine wm_iload d_MM_until_79 rfl ?_
          refine wm_iconst d_MM_until_81 ?_
          refine wm_iadd d_MM_until_82 ?_
          refine wm_goto (tgt := 102) d_MM_until_83 rfl ?_
          refine wm_less (L' := [vr a0, vd, vi l2, vi v16, vd, vi l5, vd]) ⟨Or.inr rfl, Or.inl rfl, Or.inr rfl, Or.inr rfl, Or.inl rfl, Or.inr rfl, Or.inl rfl, trivial⟩ ?_
          exact hJ (l4 + 1) (by rw [if_pos c20, if_pos c21])
      · refine wm_iload d_MM_until_67 rfl ?_
        refine wm_goto (tgt := 102) d_MM_until_69 rfl ?_
        refine wm_less (L' := [vr a0, vd, vi l2, vi v16, vd, vi l5, vd]) ⟨Or.inr rfl, Or.inl rfl, Or.inr rfl, Or.inr rfl, Or.inl rfl, Or.inr rfl, Or.inl rfl, trivial⟩ ?_
        exact hJ l4 (by rw [if_neg c20])
    clear h
    refine wm_icmp_ne (tgt := 48) d_MM_until_39 rfl h13 ⟨by decide, by decide⟩ (fun c14 => ?_) (fun c14 => ?_)
    · refine wm_iload d_MM_until_48 rfl ?_
      refine wm_bipush d_MM_until_50 (by decide) ?_
      refine wm_icmp_ne (tgt := 61) d_MM_until_52 rfl h13 ⟨by decide, by decide⟩ (fun c15 => ?_) (fun c15 => ?_)
      · refine wm_iload_n d_MM_until_61 rfl rfl ?_
        refine wm_less (L' := [vr a0, vd, vi l2, vd, vi l4, vi l5, vi x12]) ⟨Or.inr rfl, Or.inl rfl, Or.inr rfl, Or.inl rfl, Or.inr rfl, Or.inr rfl, Or.inr rfl, trivial⟩ ?_
        exact hJ l3 (by rw [if_neg c14, if_neg c15])
      · replace c15 := Classical.not_not.mp c15
        refine wm_iload_n d_MM_until_55 rfl rfl ?_
        refine wm_iconst d_MM_until_56 ?_
        refine wm_isub d_MM_until_57 ?_
        refine wm_goto (tgt := 62) d_MM_until_58 rfl ?_
        refine wm_less (L' := [vr a0, vd, vi l2, vd, vi l4, vi l5, vi x12]) ⟨Or.inr rfl, Or.inl rfl, Or.inr rfl, Or.inl rfl, Or.inr rfl, Or.inr rfl, Or.inr rfl, trivial⟩ ?_
        exact hJ (l3 - 1) (by rw [if_neg c14, if_pos c15])
    · replace c14 := Classical.not_not.mp c14
      refine wm_iload_n d_MM_until_42 rfl rfl ?_
      refine wm_iconst d_MM_until_43 ?_
      refine wm_iadd d_MM_until_44 ?_
      refine wm_goto (tgt := 62) d_MM_until_45 rfl ?_
      refine wm_less (L' := [vr a0, vd, vi l2, vd, vi l4, vi l5, vi x12]) ⟨Or.inr rfl, Or.inl rfl, Or.inr rfl, Or.inl rfl, Or.inr rfl, Or.inr rfl, Or.inr rfl, trivial⟩ ?_
      exact hJ (l3 + 1) (by rw [if_pos c14])
  have hE1 : ¬ ((¬ (x3 = l2)) ∨ ((0 < l3) ∨ (¬ (l4 ≤ 0)))) → mWm G y_MM_until (d + 1) 110 [vr a0, vd, vi l2, vi l3, vi l4, vi l5, vd] [] M2 (fun r9 M9 => ∃ x9, r9 = some (vi x9) ∧ Q x9 M9) := by
    intro q26
    have h := h.2 q26
    refine wm_iload d_MM_until_110 rfl ?_
    refine wm_ireturn d_MM_until_112 rfl rfl ?_
    exact ⟨_, rfl, h⟩
  clear h
  refine wm_icmp_ne (tgt := 27) d_MM_until_15 rfl h4 hi_l2 (fun c7 => ?_) (fun c7 => ?_)
  · exact hE0 (Or.inl c7)
  · replace c7 := Classical.not_not.mp c7
    refine wm_iload_n d_MM_until_18 rfl rfl ?_
    refine wm_if_gt (tgt := 27) d_MM_until_19 rfl hi_l3 (fun c6 => ?_) (fun c6 => ?_)
    · exact hE0 (Or.inr (Or.inl c6))
    · refine wm_iload d_MM_until_22 rfl ?_
      refine wm_if_le (tgt := 110) d_MM_until_24 rfl hi_l4 (fun c5 => ?_) (fun c5 => ?_)
      · exact hE1 (fun z27 => Or.elim z27 (fun w => w c7) (fun z28 => Or.elim z28 c6 (fun z29 => z29 c5)))
      · exact hE0 (Or.inr (Or.inr c5))
theorem d_MM_closeOf_0 : decode y_MM_closeOf.2.1 0 = .ok (.iconst 0, 1) := dc9_3 (by decide +kernel)
theorem d_MM_closeOf_1 : decode y_MM_closeOf.2.1 1 = .ok (.istore_n 2, 1) := dc9_61 (by decide +kernel)
theorem d_MM_closeOf_2 : decode y_MM_closeOf.2.1 2 = .ok (.iload_n 1, 1) := dc9_27 (by decide +kernel)
theorem d_MM_closeOf_3 : decode y_MM_closeOf.2.1 3 = .ok (.istore_n 3, 1) := dc9_62 (by decide +kernel)
theorem d_MM_closeOf_4 : decode y_MM_closeOf.2.1 4 = .ok (.aload_n 0, 1) := dc9_42 (by decide +kernel)
theorem d_MM_closeOf_5 : decode y_MM_closeOf.2.1 5 = .ok (.iload_n 3, 1) := dc9_29 (by decide +kernel)
theorem d_MM_closeOf_6 : decode y_MM_closeOf.2.1 6 = .ok (.invokevirtual 302, 3) := dc9_182 (by decide +kernel)
theorem d_MM_closeOf_9 : decode y_MM_closeOf.2.1 9 = .ok (.bipush 36, 2) := dc9_16 (by decide +kernel)
theorem d_MM_closeOf_11 : decode y_MM_closeOf.2.1 11 = .ok (.if_icmp .ne 9, 3) := dc9_160 (by decide +kernel)
theorem d_MM_closeOf_14 : decode y_MM_closeOf.2.1 14 = .ok (.iload_n 2, 1) := dc9_28 (by decide +kernel)
theorem d_MM_closeOf_15 : decode y_MM_closeOf.2.1 15 = .ok (.iconst 1, 1) := dc9_4 (by decide +kernel)
theorem d_MM_closeOf_16 : decode y_MM_closeOf.2.1 16 = .ok (.iadd, 1) := dc9_96 (by decide +kernel)
theorem d_MM_closeOf_17 : decode y_MM_closeOf.2.1 17 = .ok (.goto 20, 3) := dc9_167 (by decide +kernel)
theorem d_MM_closeOf_20 : decode y_MM_closeOf.2.1 20 = .ok (.aload_n 0, 1) := dc9_42 (by decide +kernel)
theorem d_MM_closeOf_21 : decode y_MM_closeOf.2.1 21 = .ok (.iload_n 3, 1) := dc9_29 (by decide +kernel)
theorem d_MM_closeOf_37 : decode y_MM_closeOf.2.1 37 = .ok (.istore_n 2, 1) := dc9_61 (by decide +kernel)
theorem d_MM_closeOf_38 : decode y_MM_closeOf.2.1 38 = .ok (.iinc 3 1, 3) := by decide +kernel
theorem d_MM_closeOf_41 : decode y_MM_closeOf.2.1 41 = .ok (.iload_n 2, 1) := dc9_28 (by decide +kernel)
theorem d_MM_closeOf_42 : decode y_MM_closeOf.2.1 42 = .ok (.ifCond .gt (-38), 3) := dc9_157 (by decide +kernel)
theorem d_MM_closeOf_45 : decode y_MM_closeOf.2.1 45 = .ok (.iload_n 3, 1) := dc9_29 (by decide +kernel)
theorem d_MM_closeOf_46 : decode y_MM_closeOf.2.1 46 = .ok (.iconst 1, 1) := dc9_4 (by decide +kernel)
theorem d_MM_closeOf_47 : decode y_MM_closeOf.2.1 47 = .ok (.isub, 1) := dc9_100 (by decide +kernel)
theorem d_MM_closeOf_48 : decode y_MM_closeOf.2.1 48 = .ok (.ireturn, 1) := dc9_172 (by decide +kernel)
theorem d_MM_closeOf_22 : decode y_MM_closeOf.2.1 22 = .ok (.invokevirtual 302, 3) := dc9_182 (by decide +kernel)
theorem d_MM_closeOf_25 : decode y_MM_closeOf.2.1 25 = .ok (.bipush 37, 2) := dc9_16 (by decide +kernel)
theorem d_MM_closeOf_27 : decode y_MM_closeOf.2.1 27 = .ok (.if_icmp .ne 9, 3) := dc9_160 (by decide +kernel)
theorem d_MM_closeOf_30 : decode y_MM_closeOf.2.1 30 = .ok (.iload_n 2, 1) := dc9_28 (by decide +kernel)
theorem d_MM_closeOf_31 : decode y_MM_closeOf.2.1 31 = .ok (.iconst 1, 1) := dc9_4 (by decide +kernel)
theorem d_MM_closeOf_32 : decode y_MM_closeOf.2.1 32 = .ok (.isub, 1) := dc9_100 (by decide +kernel)
theorem d_MM_closeOf_33 : decode y_MM_closeOf.2.1 33 = .ok (.goto 4, 3) := dc9_167 (by decide +kernel)
theorem d_MM_closeOf_36 : decode y_MM_closeOf.2.1 36 = .ok (.iload_n 2, 1) := dc9_28 (by decide +kernel)
def h_MM_closeOf_4 (G : mG) (d : Nat) (a0 : Nat) (l2 : Int) (l3 : Int) (M : mM) (Q : Int → mM → Prop) : Prop := mWm G y_MM_closeOf (d + 1) 4 [vr a0, vd, vi l2, vi l3] [] M (fun r9 M9 => ∃ x9, r9 = some (vi x9) ∧ Q x9 M9)
theorem k_MM_closeOf {G : mG} {d : Nat} {a0 : Nat} {l1 : Int} {M : mM} {Q : Int → mM → Prop} (hO : mOk M) (hi_l1 : i32 l1)
    (h : h_MM_closeOf_4 G d a0 0 l1 M Q) :
    Ci G y_MM_closeOf (d + 1) [vr a0, vi l1] M Q := by
  refine wm_open (y := y_MM_closeOf) rfl (Nat.le_of_ble_eq_true rfl) (L := [vr a0, vi l1, vd, vd]) rfl ?_
  refine wm_iconst d_MM_closeOf_0 ?_
  refine wm_istore_n d_MM_closeOf_1 rfl (by decide) (L' := [vr a0, vi l1, vi 0, vd]) rfl ?_
  refine wm_iload_n d_MM_closeOf_2 rfl rfl ?_
  refine wm_istore_n d_MM_closeOf_3 rfl (by decide) (L' := [vr a0, vi l1, vi 0, vi l1]) rfl ?_
  refine wm_less (L' := [vr a0, vd, vi 0, vi l1]) ⟨Or.inr rfl, Or.inl rfl, Or.inr rfl, Or.inr rfl, trivial⟩ ?_
  exact h
theorem k_MM_closeOf_4 {G : mG} {d : Nat} {a0 : Nat} {l2 : Int} {l3 : Int} {M : mM} {Q : Int → mM → Prop} (hO : mOk M) (hi_l2 : i32 l2) (hi_l3 : i32 l3)
    (h : mK M a0 = 14 ∧ Ci G y_MM_word1 d [vr a0, vi l3] M (fun x3 M2 => i32 x3 ∧ mOk M2 ∧ (((x3 = 36) → (i32 (l2 + 1) ∧ ((0 < l2 + 1) → (h_MM_closeOf_4 G d a0 (l2 + 1) (l3 + 1) M2 Q)) ∧ (¬ (0 < l2 + 1) → (Q ((l3 + 1) - 1) M2)))) ∧ (¬ (x3 = 36) → (mK M2 a0 = 14 ∧ Ci G y_MM_word1 d [vr a0, vi l3] M2 (fun x14 M13 => i32 x14 ∧ mOk M13 ∧ (∀ v17 : Int, v17 = (if (x14 = 37) then l2 - 1 else l2) → i32 v17 ∧ ((0 < v17) → (h_MM_closeOf_4 G d a0 v17 (l3 + 1) M13 Q)) ∧ (¬ (0 < v17) → (Q ((l3 + 1) - 1) M13))))))))) :
    h_MM_closeOf_4 G d a0 l2 l3 M Q := by
  unfold h_MM_closeOf_4
  obtain ⟨h1, h⟩ := h
  refine wm_aload_n d_MM_closeOf_4 rfl rfl ?_
  refine wm_iload_n d_MM_closeOf_5 rfl rfl ?_
  refine cf_MM_302 rfl d_MM_closeOf_6 h1 (Nat.le_of_ble_eq_true rfl) (Ci.mono h (fun x3 M2 h => ?_))
  obtain ⟨h4, hOM2, h⟩ := h
  refine wm_bipush d_MM_closeOf_9 (by decide) ?_
  refine wm_icmp_ne (tgt := 20) d_MM_closeOf_11 rfl h4 ⟨by decide, by decide⟩ (fun c7 => ?_) (fun c7 => ?_)
  · replace h := h.2 c7
    obtain ⟨h12, h⟩ := h
    refine wm_aload_n d_MM_closeOf_20 rfl rfl ?_
    refine wm_iload_n d_MM_closeOf_21 rfl rfl ?_
    refine cf_MM_302 rfl d_MM_closeOf_22 h12 (Nat.le_of_ble_eq_true rfl) (Ci.mono h (fun x14 M13 h => ?_))
    obtain ⟨h15, hOM13, h⟩ := h
    refine wm_bipush d_MM_closeOf_25 (by decide) ?_
    have hJ : ∀ v17 : Int, v17 = (if (x14 = 37) then l2 - 1 else l2) → mWm G y_MM_closeOf (d + 1) 37 [vr a0, vd, vd, vi l3] [vi v17] M13 (fun r9 M9 => ∃ x9, r9 = some (vi x9) ∧ Q x9 M9) := by
      intro v17 e19
      have h := h v17 e19
      obtain ⟨h22, h⟩ := h
      refine wm_istore_n d_MM_closeOf_37 rfl (by decide) (L' := [vr a0, vd, vi v17, vi l3]) rfl ?_
      refine wm_iinc d_MM_closeOf_38 (by decide) rfl (L' := [vr a0, vd, vi v17, vi (l3 + 1)]) rfl ?_
      refine wm_iload_n d_MM_closeOf_41 rfl rfl ?_
      refine wm_if_gt (tgt := 4) d_MM_closeOf_42 rfl h22 (fun c23 => ?_) (fun c23 => ?_)
      · replace h := h.1 c23
        exact h
      · replace h := h.2 c23
        refine wm_iload_n d_MM_closeOf_45 rfl rfl ?_
        refine wm_iconst d_MM_closeOf_46 ?_
        refine wm_isub d_MM_closeOf_47 ?_
        refine wm_ireturn d_MM_closeOf_48 rfl rfl ?_
        exact ⟨_, rfl, h⟩
    clear h
    refine wm_icmp_ne (tgt := 36) d_MM_closeOf_27 rfl h15 ⟨by decide, by decide⟩ (fun c16 => ?_) (fun c16 => ?_)
    · refine wm_iload_n d_MM_closeOf_36 rfl rfl ?_
      refine wm_less (L' := [vr a0, vd, vd, vi l3]) ⟨Or.inr rfl, Or.inl rfl, Or.inl rfl, Or.inr rfl, trivial⟩ ?_
      exact hJ l2 (if_neg c16).symm
    · replace c16 := Classical.not_not.mp c16
      refine wm_iload_n d_MM_closeOf_30 rfl rfl ?_
      refine wm_iconst d_MM_closeOf_31 ?_
      refine wm_isub d_MM_closeOf_32 ?_
      refine wm_goto (tgt := 37) d_MM_closeOf_33 rfl ?_
      refine wm_less (L' := [vr a0, vd, vd, vi l3]) ⟨Or.inr rfl, Or.inl rfl, Or.inl rfl, Or.inr rfl, trivial⟩ ?_
      exact hJ (l2 - 1) (if_pos c16).symm
  · replace c7 := Classical.not_not.mp c7
    replace h := h.1 c7
    obtain ⟨h10, h⟩ := h
    refine wm_iload_n d_MM_closeOf_14 rfl rfl ?_
    refine wm_iconst d_MM_closeOf_15 ?_
    refine wm_iadd d_MM_closeOf_16 ?_
    refine wm_goto (tgt := 37) d_MM_closeOf_17 rfl ?_
    refine wm_istore_n d_MM_closeOf_37 rfl (by decide) (L' := [vr a0, vd, vi (l2 + 1), vi l3]) rfl ?_
    refine wm_iinc d_MM_closeOf_38 (by decide) rfl (L' := [vr a0, vd, vi (l2 + 1), vi (l3 + 1)]) rfl ?_
    refine wm_iload_n d_MM_closeOf_41 rfl rfl ?_
    refine wm_if_gt (tgt := 4) d_MM_closeOf_42 rfl h10 (fun c11 => ?_) (fun c11 => ?_)
    · replace h := h.1 c11
      exact h
    · replace h := h.2 c11
      refine wm_iload_n d_MM_closeOf_45 rfl rfl ?_
      refine wm_iconst d_MM_closeOf_46 ?_
      refine wm_isub d_MM_closeOf_47 ?_
      refine wm_ireturn d_MM_closeOf_48 rfl rfl ?_
      exact ⟨_, rfl, h⟩
end
section
theorem d_MM_items0_0 : decode y_MM_items0.2.1 0 = .ok (.aload_n 0, 1) := dc9_42 (by decide +kernel)
theorem d_MM_items0_1 : decode y_MM_items0.2.1 1 = .ok (.getfield 38, 3) := dc9_180 (by decide +kernel)
theorem d_MM_items0_4 : decode y_MM_items0.2.1 4 = .ok (.invokevirtual 427, 3) := dc9_182 (by decide +kernel)
theorem d_MM_items0_7 : decode y_MM_items0.2.1 7 = .ok (.aload_n 0, 1) := dc9_42 (by decide +kernel)
theorem d_MM_items0_8 : decode y_MM_items0.2.1 8 = .ok (.getfield 45, 3) := dc9_180 (by decide +kernel)
theorem d_MM_items0_11 : decode y_MM_items0.2.1 11 = .ok (.iconst 0, 1) := dc9_3 (by decide +kernel)
theorem d_MM_items0_12 : decode y_MM_items0.2.1 12 = .ok (.putfield 145, 3) := dc9_181 (by decide +kernel)
theorem d_MM_items0_15 : decode y_MM_items0.2.1 15 = .ok (.aload_n 0, 1) := dc9_42 (by decide +kernel)
theorem d_MM_items0_16 : decode y_MM_items0.2.1 16 = .ok (.getfield 48, 3) := dc9_180 (by decide +kernel)
theorem d_MM_items0_19 : decode y_MM_items0.2.1 19 = .ok (.iconst 0, 1) := dc9_3 (by decide +kernel)
theorem d_MM_items0_20 : decode y_MM_items0.2.1 20 = .ok (.putfield 145, 3) := dc9_181 (by decide +kernel)
theorem d_MM_items0_23 : decode y_MM_items0.2.1 23 = .ok (.aload_n 0, 1) := dc9_42 (by decide +kernel)
theorem d_MM_items0_24 : decode y_MM_items0.2.1 24 = .ok (.getfield 51, 3) := dc9_180 (by decide +kernel)
theorem d_MM_items0_27 : decode y_MM_items0.2.1 27 = .ok (.iconst 0, 1) := dc9_3 (by decide +kernel)
theorem d_MM_items0_28 : decode y_MM_items0.2.1 28 = .ok (.putfield 145, 3) := dc9_181 (by decide +kernel)
theorem d_MM_items0_31 : decode y_MM_items0.2.1 31 = .ok (.aload_n 0, 1) := dc9_42 (by decide +kernel)
theorem d_MM_items0_32 : decode y_MM_items0.2.1 32 = .ok (.iconst 0, 1) := dc9_3 (by decide +kernel)
theorem d_MM_items0_33 : decode y_MM_items0.2.1 33 = .ok (.putfield 267, 3) := dc9_181 (by decide +kernel)
theorem d_MM_items0_36 : decode y_MM_items0.2.1 36 = .ok (.iconst 0, 1) := dc9_3 (by decide +kernel)
theorem d_MM_items0_37 : decode y_MM_items0.2.1 37 = .ok (.istore_n 1, 1) := dc9_60 (by decide +kernel)
theorem d_MM_items0_38 : decode y_MM_items0.2.1 38 = .ok (.aload_n 0, 1) := dc9_42 (by decide +kernel)
theorem d_MM_items0_39 : decode y_MM_items0.2.1 39 = .ok (.getfield 267, 3) := dc9_180 (by decide +kernel)
theorem d_MM_items0_42 : decode y_MM_items0.2.1 42 = .ok (.ifCond .ne 148, 3) := dc9_154 (by decide +kernel)
theorem d_MM_items0_45 : decode y_MM_items0.2.1 45 = .ok (.aload_n 0, 1) := dc9_42 (by decide +kernel)
theorem d_MM_items0_46 : decode y_MM_items0.2.1 46 = .ok (.iload_n 1, 1) := dc9_27 (by decide +kernel)
theorem d_MM_items0_47 : decode y_MM_items0.2.1 47 = .ok (.invokevirtual 302, 3) := dc9_182 (by decide +kernel)
theorem d_MM_items0_50 : decode y_MM_items0.2.1 50 = .ok (.ifCond .eq 140, 3) := dc9_153 (by decide +kernel)
theorem d_MM_items0_53 : decode y_MM_items0.2.1 53 = .ok (.aload_n 0, 1) := dc9_42 (by decide +kernel)
theorem d_MM_items0_54 : decode y_MM_items0.2.1 54 = .ok (.iload_n 1, 1) := dc9_27 (by decide +kernel)
theorem d_MM_items0_55 : decode y_MM_items0.2.1 55 = .ok (.bipush 34, 2) := dc9_16 (by decide +kernel)
theorem d_MM_items0_190 : decode y_MM_items0.2.1 190 = .ok (.aload_n 0, 1) := dc9_42 (by decide +kernel)
theorem d_MM_items0_191 : decode y_MM_items0.2.1 191 = .ok (.getfield 267, 3) := dc9_180 (by decide +kernel)
theorem d_MM_items0_194 : decode y_MM_items0.2.1 194 = .ok (.ifCond .ne 24, 3) := dc9_154 (by decide +kernel)
theorem d_MM_items0_197 : decode y_MM_items0.2.1 197 = .ok (.aload_n 0, 1) := dc9_42 (by decide +kernel)
theorem d_MM_items0_198 : decode y_MM_items0.2.1 198 = .ok (.getfield 38, 3) := dc9_180 (by decide +kernel)
theorem d_MM_items0_201 : decode y_MM_items0.2.1 201 = .ok (.getfield 439, 3) := dc9_180 (by decide +kernel)
theorem d_MM_items0_204 : decode y_MM_items0.2.1 204 = .ok (.ifCond .ge 14, 3) := dc9_156 (by decide +kernel)
theorem d_MM_items0_207 : decode y_MM_items0.2.1 207 = .ok (.aload_n 0, 1) := dc9_42 (by decide +kernel)
theorem d_MM_items0_208 : decode y_MM_items0.2.1 208 = .ok (.bipush 10, 2) := dc9_16 (by decide +kernel)
theorem d_MM_items0_210 : decode y_MM_items0.2.1 210 = .ok (.aload_n 0, 1) := dc9_42 (by decide +kernel)
theorem d_MM_items0_211 : decode y_MM_items0.2.1 211 = .ok (.iload_n 1, 1) := dc9_27 (by decide +kernel)
theorem d_MM_items0_212 : decode y_MM_items0.2.1 212 = .ok (.invokevirtual 279, 3) := dc9_182 (by decide +kernel)
theorem d_MM_items0_215 : decode y_MM_items0.2.1 215 = .ok (.invokevirtual 351, 3) := dc9_182 (by decide +kernel)
theorem d_MM_items0_57 : decode y_MM_items0.2.1 57 = .ok (.invokevirtual 430, 3) := dc9_182 (by decide +kernel)
theorem d_MM_items0_60 : decode y_MM_items0.2.1 60 = .ok (.istore_n 2, 1) := dc9_61 (by decide +kernel)
theorem d_MM_items0_61 : decode y_MM_items0.2.1 61 = .ok (.aload_n 0, 1) := dc9_42 (by decide +kernel)
theorem d_MM_items0_62 : decode y_MM_items0.2.1 62 = .ok (.iload_n 1, 1) := dc9_27 (by decide +kernel)
theorem d_MM_items0_63 : decode y_MM_items0.2.1 63 = .ok (.invokevirtual 302, 3) := dc9_182 (by decide +kernel)
theorem d_MM_items0_66 : decode y_MM_items0.2.1 66 = .ok (.tableswitch 111 3 11 #[50, 59, 111, 50, 111, 111, 111, 111, 68], 50) := by decide +kernel
theorem d_MM_items0_116 : decode y_MM_items0.2.1 116 = .ok (.aload_n 0, 1) := dc9_42 (by decide +kernel)
theorem d_MM_items0_117 : decode y_MM_items0.2.1 117 = .ok (.iload_n 1, 1) := dc9_27 (by decide +kernel)
theorem d_MM_items0_118 : decode y_MM_items0.2.1 118 = .ok (.iload_n 2, 1) := dc9_28 (by decide +kernel)
theorem d_MM_items0_119 : decode y_MM_items0.2.1 119 = .ok (.invokevirtual 433, 3) := dc9_182 (by decide +kernel)
theorem d_MM_items0_122 : decode y_MM_items0.2.1 122 = .ok (.goto 61, 3) := dc9_167 (by decide +kernel)
theorem d_MM_items0_125 : decode y_MM_items0.2.1 125 = .ok (.aload_n 0, 1) := dc9_42 (by decide +kernel)
theorem d_MM_items0_126 : decode y_MM_items0.2.1 126 = .ok (.iload_n 1, 1) := dc9_27 (by decide +kernel)
theorem d_MM_items0_127 : decode y_MM_items0.2.1 127 = .ok (.iload_n 2, 1) := dc9_28 (by decide +kernel)
theorem d_MM_items0_128 : decode y_MM_items0.2.1 128 = .ok (.invokevirtual 436, 3) := dc9_182 (by decide +kernel)
theorem d_MM_items0_131 : decode y_MM_items0.2.1 131 = .ok (.goto 52, 3) := dc9_167 (by decide +kernel)
theorem d_MM_items0_134 : decode y_MM_items0.2.1 134 = .ok (.aload_n 0, 1) := dc9_42 (by decide +kernel)
theorem d_MM_items0_135 : decode y_MM_items0.2.1 135 = .ok (.getfield 38, 3) := dc9_180 (by decide +kernel)
theorem d_MM_items0_138 : decode y_MM_items0.2.1 138 = .ok (.getfield 439, 3) := dc9_180 (by decide +kernel)
theorem d_MM_items0_141 : decode y_MM_items0.2.1 141 = .ok (.ifCond .lt 16, 3) := dc9_155 (by decide +kernel)
theorem d_MM_items0_157 : decode y_MM_items0.2.1 157 = .ok (.aload_n 0, 1) := dc9_42 (by decide +kernel)
theorem d_MM_items0_158 : decode y_MM_items0.2.1 158 = .ok (.getfield 38, 3) := dc9_180 (by decide +kernel)
theorem d_MM_items0_161 : decode y_MM_items0.2.1 161 = .ok (.aload_n 0, 1) := dc9_42 (by decide +kernel)
theorem d_MM_items0_162 : decode y_MM_items0.2.1 162 = .ok (.iload_n 1, 1) := dc9_27 (by decide +kernel)
theorem d_MM_items0_163 : decode y_MM_items0.2.1 163 = .ok (.iconst 1, 1) := dc9_4 (by decide +kernel)
theorem d_MM_items0_164 : decode y_MM_items0.2.1 164 = .ok (.iadd, 1) := dc9_96 (by decide +kernel)
theorem d_MM_items0_165 : decode y_MM_items0.2.1 165 = .ok (.iload_n 2, 1) := dc9_28 (by decide +kernel)
theorem d_MM_items0_166 : decode y_MM_items0.2.1 166 = .ok (.iconst 1, 1) := dc9_4 (by decide +kernel)
theorem d_MM_items0_167 : decode y_MM_items0.2.1 167 = .ok (.iconst 0, 1) := dc9_3 (by decide +kernel)
theorem d_MM_items0_144 : decode y_MM_items0.2.1 144 = .ok (.aload_n 0, 1) := dc9_42 (by decide +kernel)
theorem d_MM_items0_145 : decode y_MM_items0.2.1 145 = .ok (.iconst 4, 1) := dc9_7 (by decide +kernel)
theorem d_MM_items0_146 : decode y_MM_items0.2.1 146 = .ok (.aload_n 0, 1) := dc9_42 (by decide +kernel)
theorem d_MM_items0_147 : decode y_MM_items0.2.1 147 = .ok (.iload_n 1, 1) := dc9_27 (by decide +kernel)
theorem d_MM_items0_168 : decode y_MM_items0.2.1 168 = .ok (.invokevirtual 441, 3) := dc9_182 (by decide +kernel)
theorem d_MM_items0_171 : decode y_MM_items0.2.1 171 = .ok (.putfield 439, 3) := dc9_181 (by decide +kernel)
theorem d_MM_items0_174 : decode y_MM_items0.2.1 174 = .ok (.goto 9, 3) := dc9_167 (by decide +kernel)
theorem d_MM_items0_148 : decode y_MM_items0.2.1 148 = .ok (.invokevirtual 279, 3) := dc9_182 (by decide +kernel)
theorem d_MM_items0_151 : decode y_MM_items0.2.1 151 = .ok (.invokevirtual 351, 3) := dc9_182 (by decide +kernel)
theorem d_MM_items0_154 : decode y_MM_items0.2.1 154 = .ok (.goto 29, 3) := dc9_167 (by decide +kernel)
theorem d_MM_items0_177 : decode y_MM_items0.2.1 177 = .ok (.aload_n 0, 1) := dc9_42 (by decide +kernel)
theorem d_MM_items0_178 : decode y_MM_items0.2.1 178 = .ok (.iload_n 1, 1) := dc9_27 (by decide +kernel)
theorem d_MM_items0_179 : decode y_MM_items0.2.1 179 = .ok (.iload_n 2, 1) := dc9_28 (by decide +kernel)
theorem d_MM_items0_180 : decode y_MM_items0.2.1 180 = .ok (.invokevirtual 444, 3) := dc9_182 (by decide +kernel)
theorem d_MM_items0_183 : decode y_MM_items0.2.1 183 = .ok (.iload_n 2, 1) := dc9_28 (by decide +kernel)
theorem d_MM_items0_184 : decode y_MM_items0.2.1 184 = .ok (.iconst 1, 1) := dc9_4 (by decide +kernel)
theorem d_MM_items0_185 : decode y_MM_items0.2.1 185 = .ok (.iadd, 1) := dc9_96 (by decide +kernel)
theorem d_MM_items0_186 : decode y_MM_items0.2.1 186 = .ok (.istore_n 1, 1) := dc9_60 (by decide +kernel)
theorem d_MM_items0_187 : decode y_MM_items0.2.1 187 = .ok (.goto (-149), 3) := dc9_167 (by decide +kernel)
theorem d_MM_items0_218 : decode y_MM_items0.2.1 218 = .ok (.return_, 1) := dc9_177 (by decide +kernel)
def h_MM_items0_38 (G : mG) (d : Nat) (a0 : Nat) (l1 : Int) (M : mM) (Q : mM → Prop) : Prop := mWm G y_MM_items0 (d + 1) 38 [vr a0, vi l1, vd] [] M (fun r9 M9 => r9 = none ∧ Q M9)
def h_MM_items0_183 (G : mG) (d : Nat) (a0 : Nat) (l2 : Int) (M : mM) (Q : mM → Prop) : Prop := mWm G y_MM_items0 (d + 1) 183 [vr a0, vd, vi l2] [] M (fun r9 M9 => r9 = none ∧ Q M9)
def h_MM_items0_218 (G : mG) (d : Nat) (M : mM) (Q : mM → Prop) : Prop := mWm G y_MM_items0 (d + 1) 218 [vd, vd, vd] [] M (fun r9 M9 => r9 = none ∧ Q M9)
theorem k_MM_items0 {G : mG} {d : Nat} {a0 : Nat} {M : mM} {Q : mM → Prop} (hO : mOk M)
    (h : mK M a0 = 14 ∧ mK M (mR M a0 10) = 16 ∧ Cv G y_MG_clear d [vr (mR M a0 10)] M (fun M3 => mOk M3 ∧ (mK M3 a0 = 14 ∧ mK M3 (mR M3 a0 13) = 15 ∧ ∀ M8, M8 = mUI M3 (mR M3 a0 13) 1 0 → mK M8 (mR M8 a0 14) = 15 ∧ ∀ M11, M11 = mUI M8 (mR M8 a0 14) 1 0 → mK M11 (mR M11 a0 15) = 15 ∧ ∀ M14, M14 = mUI M11 (mR M11 a0 15) 1 0 → ∀ M16, M16 = mUI M14 a0 16 0 → h_MM_items0_38 G d a0 0 M16 Q))) :
    Cv G y_MM_items0 (d + 1) [vr a0] M Q := by
  refine wm_open (y := y_MM_items0) rfl (Nat.le_of_ble_eq_true rfl) (L := [vr a0, vd, vd]) rfl ?_
  obtain ⟨h1, h⟩ := h
  obtain ⟨h2, h⟩ := h
  refine wm_aload_n d_MM_items0_0 rfl rfl ?_
  refine gf_MM_38 rfl d_MM_items0_1 h1 ?_
  refine cf_MM_427 rfl d_MM_items0_4 h2 (Nat.le_of_ble_eq_true rfl) (Cv.mono h (fun M3 h => ?_))
  obtain ⟨hOM3, h⟩ := h
  obtain ⟨h6, h⟩ := h
  obtain ⟨h7, h⟩ := h
  obtain ⟨M8, e9⟩ : ∃ M8, M8 = mUI M3 (mR M3 a0 13) 1 0 := ⟨_, rfl⟩
  replace h := h M8 e9
  obtain ⟨h10, h⟩ := h
  obtain ⟨M11, e12⟩ : ∃ M11, M11 = mUI M8 (mR M8 a0 14) 1 0 := ⟨_, rfl⟩
  replace h := h M11 e12
  obtain ⟨h13, h⟩ := h
  obtain ⟨M14, e15⟩ : ∃ M14, M14 = mUI M11 (mR M11 a0 15) 1 0 := ⟨_, rfl⟩
  replace h := h M14 e15
  obtain ⟨M16, e17⟩ : ∃ M16, M16 = mUI M14 a0 16 0 := ⟨_, rfl⟩
  replace h := h M16 e17
  refine wm_aload_n d_MM_items0_7 rfl rfl ?_
  refine gf_MM_45 rfl d_MM_items0_8 h6 ?_
  refine wm_iconst d_MM_items0_11 ?_
  have hOM8 : mOk M8 := by rw [e9]; exact mOk_UI hOM3 ⟨by decide, by decide⟩
  refine pf_MM_145 rfl d_MM_items0_12 h7 ⟨by decide, by decide⟩ e9 ?_
  refine wm_aload_n d_MM_items0_15 rfl rfl ?_
  refine gf_MM_48 rfl d_MM_items0_16 (by rw [e9]; exact h6) ?_
  refine wm_iconst d_MM_items0_19 ?_
  have hOM11 : mOk M11 := by rw [e12]; exact mOk_UI hOM8 ⟨by decide, by decide⟩
  refine pf_MM_145 rfl d_MM_items0_20 h10 ⟨by decide, by decide⟩ e12 ?_
  refine wm_aload_n d_MM_items0_23 rfl rfl ?_
  refine gf_MM_51 rfl d_MM_items0_24 (by rw [e12, e9]; exact h6) ?_
  refine wm_iconst d_MM_items0_27 ?_
  have hOM14 : mOk M14 := by rw [e15]; exact mOk_UI hOM11 ⟨by decide, by decide⟩
  refine pf_MM_145 rfl d_MM_items0_28 h13 ⟨by decide, by decide⟩ e15 ?_
  refine wm_aload_n d_MM_items0_31 rfl rfl ?_
  refine wm_iconst d_MM_items0_32 ?_
  have hOM16 : mOk M16 := by rw [e17]; exact mOk_UI hOM14 ⟨by decide, by decide⟩
  refine pf_MM_267 rfl d_MM_items0_33 (by rw [e15, e12, e9]; exact h6) ⟨by decide, by decide⟩ e17 ?_
  refine wm_iconst d_MM_items0_36 ?_
  refine wm_istore_n d_MM_items0_37 rfl (by decide) (L' := [vr a0, vi 0, vd]) rfl ?_
  exact h
theorem k_MM_items0_38 {G : mG} {d : Nat} {a0 : Nat} {l1 : Int} {M : mM} {Q : mM → Prop} (hO : mOk M) (hi_l1 : i32 l1)
    (h : mK M a0 = 14 ∧ ((mI M a0 16 = 0) → (Ci G y_MM_word1 d [vr a0, vi l1] M (fun x22 M21 => i32 x22 ∧ mOk M21 ∧ (((x22 = 0) → (mK M21 a0 = 14 ∧ ((mI M21 a0 16 = 0) → mK M21 (mR M21 a0 10) = 16) ∧ (((¬ (mI M21 a0 16 = 0)) ∨ (0 ≤ mI M21 (mR M21 a0 10) 17)) → (h_MM_items0_218 G d  M21 Q)) ∧ (¬ ((¬ (mI M21 a0 16 = 0)) ∨ (0 ≤ mI M21 (mR M21 a0 10) 17)) → (Ci G y_MM_place0 d [vr a0, vi l1] M21 (fun x34 M33 => i32 x34 ∧ mOk M33 ∧ (mK M33 a0 = 14 ∧ Cv G y_MM_stop d [vr a0, vi 10, vi x34] M33 (fun M37 => mOk M37 ∧ (h_MM_items0_218 G d  M37 Q)))))))) ∧ (¬ (x22 = 0) → (mK M21 a0 = 14 ∧ Ci G y_MM_until d [vr a0, vi l1, vi 34] M21 (fun x45 M44 => i32 x45 ∧ mOk M44 ∧ (mK M44 a0 = 14 ∧ Ci G y_MM_word1 d [vr a0, vi l1] M44 (fun x49 M48 => i32 x49 ∧ mOk M48 ∧ (((x49 = 3 ∨ x49 = 6) → (mK M48 a0 = 14 ∧ Cv G y_MM_ruleItem d [vr a0, vi l1, vi x45] M48 (fun M55 => mOk M55 ∧ (h_MM_items0_183 G d a0 x45 M55 Q)))) ∧ (¬ (x49 = 3 ∨ x49 = 6) → (((x49 = 4) → (mK M48 a0 = 14 ∧ Cv G y_MM_varItem d [vr a0, vi l1, vi x45] M48 (fun M61 => mOk M61 ∧ (h_MM_items0_183 G d a0 x45 M61 Q)))) ∧ (¬ (x49 = 4) → (((x49 = 11) → (mK M48 a0 = 14 ∧ mK M48 (mR M48 a0 10) = 16 ∧ ((mI M48 (mR M48 a0 10) 17 < 0) → (Ci G y_MM_rule1 d [vr a0, vi (l1 + 1), vi x45, vi 1, vi 0] M48 (fun x71 M70 => i32 x71 ∧ mOk M70 ∧ (mK M70 (mR M48 a0 10) = 16 ∧ ∀ M74, M74 = mUI M70 (mR M48 a0 10) 17 x71 → h_MM_items0_183 G d a0 x45 M74 Q)))) ∧ (¬ (mI M48 (mR M48 a0 10) 17 < 0) → (Ci G y_MM_place0 d [vr a0, vi l1] M48 (fun x77 M76 => i32 x77 ∧ mOk M76 ∧ (mK M76 a0 = 14 ∧ Cv G y_MM_stop d [vr a0, vi 4, vi x77] M76 (fun M80 => mOk M80 ∧ (h_MM_items0_183 G d a0 x45 M80 Q)))))))) ∧ (¬ (x49 = 11) → (mK M48 a0 = 14 ∧ Cv G y_MM_commandItem d [vr a0, vi l1, vi x45] M48 (fun M84 => mOk M84 ∧ (h_MM_items0_183 G d a0 x45 M84 Q)))))))))))))))))) ∧ (¬ (mI M a0 16 = 0) → (((mI M a0 16 = 0) → mK M (mR M a0 10) = 16) ∧ (((¬ (mI M a0 16 = 0)) ∨ (0 ≤ mI M (mR M a0 10) 17)) → (h_MM_items0_218 G d  M Q)) ∧ (¬ ((¬ (mI M a0 16 = 0)) ∨ (0 ≤ mI M (mR M a0 10) 17)) → (Ci G y_MM_place0 d [vr a0, vi l1] M (fun x94 M93 => i32 x94 ∧ mOk M93 ∧ (mK M93 a0 = 14 ∧ Cv G y_MM_stop d [vr a0, vi 10, vi x94] M93 (fun M97 => mOk M97 ∧ (h_MM_items0_218 G d  M97 Q))))))))) :
    h_MM_items0_38 G d a0 l1 M Q := by
  unfold h_MM_items0_38
  obtain ⟨h18, h⟩ := h
  refine wm_aload_n d_MM_items0_38 rfl rfl ?_
  refine gf_MM_267 rfl d_MM_items0_39 h18 ?_
  refine wm_if_ne (tgt := 190) d_MM_items0_42 rfl (hO _ _).1 (fun c20 => ?_) (fun c20 => ?_)
  · replace h := h.2 c20
    refine wm_aload_n d_MM_items0_190 rfl rfl ?_
    refine gf_MM_267 rfl d_MM_items0_191 h18 ?_
    obtain ⟨s90, h⟩ := h
    have hE0 : ((¬ (mI M a0 16 = 0)) ∨ (0 ≤ mI M (mR M a0 10) 17)) → mWm G y_MM_items0 (d + 1) 218 [vr a0, vi l1, vd] [] M (fun r9 M9 => r9 = none ∧ Q M9) := by
      intro q91
      have h := h.1 q91
      refine wm_less (L' := [vd, vd, vd]) ⟨Or.inl rfl, Or.inl rfl, Or.inl rfl, trivial⟩ ?_
      exact h
    have hE1 : ¬ ((¬ (mI M a0 16 = 0)) ∨ (0 ≤ mI M (mR M a0 10) 17)) → mWm G y_MM_items0 (d + 1) 207 [vr a0, vi l1, vd] [] M (fun r9 M9 => r9 = none ∧ Q M9) := by
      intro q92
      have h := h.2 q92
      refine wm_aload_n d_MM_items0_207 rfl rfl ?_
      refine wm_bipush d_MM_items0_208 (by decide) ?_
      refine wm_aload_n d_MM_items0_210 rfl rfl ?_
      refine wm_iload_n d_MM_items0_211 rfl rfl ?_
      refine cf_MM_279 rfl d_MM_items0_212 h18 (Nat.le_of_ble_eq_true rfl) (Ci.mono h (fun x94 M93 h => ?_))
      obtain ⟨h95, hOM93, h⟩ := h
      obtain ⟨h96, h⟩ := h
      refine cf_MM_351 rfl d_MM_items0_215 h96 (Nat.le_of_ble_eq_true rfl) (Cv.mono h (fun M97 h => ?_))
      obtain ⟨hOM97, h⟩ := h
      refine wm_less (L' := [vd, vd, vd]) ⟨Or.inl rfl, Or.inl rfl, Or.inl rfl, trivial⟩ ?_
      exact h
    clear h
    have s100 := s90
    refine wm_if_ne (tgt := 218) d_MM_items0_194 rfl (hO _ _).1 (fun c89 => ?_) (fun c89 => ?_)
    · exact hE0 (Or.inl c89)
    · replace c89 := Classical.not_not.mp c89
      have s100 := s100 c89
      have h87 := s100
      refine wm_aload_n d_MM_items0_197 rfl rfl ?_
      refine gf_MM_38 rfl d_MM_items0_198 h18 ?_
      refine gf_MM_439 rfl d_MM_items0_201 h87 ?_
      refine wm_if_ge (tgt := 218) d_MM_items0_204 rfl (hO _ _).1 (fun c88 => ?_) (fun c88 => ?_)
      · exact hE0 (Or.inr c88)
      · exact hE1 (fun z101 => Or.elim z101 (fun w => w c89) c88)
  · replace c20 := Classical.not_not.mp c20
    replace h := h.1 c20
    refine wm_aload_n d_MM_items0_45 rfl rfl ?_
    refine wm_iload_n d_MM_items0_46 rfl rfl ?_
    refine cf_MM_302 rfl d_MM_items0_47 h18 (Nat.le_of_ble_eq_true rfl) (Ci.mono h (fun x22 M21 h => ?_))
    obtain ⟨h23, hOM21, h⟩ := h
    refine wm_if_eq (tgt := 190) d_MM_items0_50 rfl h23 (fun c25 => ?_) (fun c25 => ?_)
    · replace h := h.1 c25
      obtain ⟨h26, h⟩ := h
      refine wm_aload_n d_MM_items0_190 rfl rfl ?_
      refine gf_MM_267 rfl d_MM_items0_191 h26 ?_
      obtain ⟨s30, h⟩ := h
      have hE0 : ((¬ (mI M21 a0 16 = 0)) ∨ (0 ≤ mI M21 (mR M21 a0 10) 17)) → mWm G y_MM_items0 (d + 1) 218 [vr a0, vi l1, vd] [] M21 (fun r9 M9 => r9 = none ∧ Q M9) := by
        intro q31
        have h := h.1 q31
        refine wm_less (L' := [vd, vd, vd]) ⟨Or.inl rfl, Or.inl rfl, Or.inl rfl, trivial⟩ ?_
        exact h
      have hE1 : ¬ ((¬ (mI M21 a0 16 = 0)) ∨ (0 ≤ mI M21 (mR M21 a0 10) 17)) → mWm G y_MM_items0 (d + 1) 207 [vr a0, vi l1, vd] [] M21 (fun r9 M9 => r9 = none ∧ Q M9) := by
        intro q32
        have h := h.2 q32
        refine wm_aload_n d_MM_items0_207 rfl rfl ?_
        refine wm_bipush d_MM_items0_208 (by decide) ?_
        refine wm_aload_n d_MM_items0_210 rfl rfl ?_
        refine wm_iload_n d_MM_items0_211 rfl rfl ?_
        refine cf_MM_279 rfl d_MM_items0_212 h26 (Nat.le_of_ble_eq_true rfl) (Ci.mono h (fun x34 M33 h => ?_))
        obtain ⟨h35, hOM33, h⟩ := h
        obtain ⟨h36, h⟩ := h
        refine cf_MM_351 rfl d_MM_items0_215 h36 (Nat.le_of_ble_eq_true rfl) (Cv.mono h (fun M37 h => ?_))
        obtain ⟨hOM37, h⟩ := h
        refine wm_less (L' := [vd, vd, vd]) ⟨Or.inl rfl, Or.inl rfl, Or.inl rfl, trivial⟩ ?_
        exact h
      clear h
      have s40 := s30
      refine wm_if_ne (tgt := 218) d_MM_items0_194 rfl (hOM21 _ _).1 (fun c29 => ?_) (fun c29 => ?_)
      · exact hE0 (Or.inl c29)
      · replace c29 := Classical.not_not.mp c29
        have s40 := s40 c29
        have h27 := s40
        refine wm_aload_n d_MM_items0_197 rfl rfl ?_
        refine gf_MM_38 rfl d_MM_items0_198 h26 ?_
        refine gf_MM_439 rfl d_MM_items0_201 h27 ?_
        refine wm_if_ge (tgt := 218) d_MM_items0_204 rfl (hOM21 _ _).1 (fun c28 => ?_) (fun c28 => ?_)
        · exact hE0 (Or.inr c28)
        · exact hE1 (fun z41 => Or.elim z41 (fun w => w c29) c28)
    · replace h := h.2 c25
      obtain ⟨h43, h⟩ := h
      refine wm_aload_n d_MM_items0_53 rfl rfl ?_
      refine wm_iload_n d_MM_items0_54 rfl rfl ?_
      refine wm_bipush d_MM_items0_55 (by decide) ?_
      refine cf_MM_430 rfl d_MM_items0_57 h43 (Nat.le_of_ble_eq_true rfl) (Ci.mono h (fun x45 M44 h => ?_))
      obtain ⟨h46, hOM44, h⟩ := h
      obtain ⟨h47, h⟩ := h
      refine wm_istore_n d_MM_items0_60 rfl (by decide) (L' := [vr a0, vi l1, vi x45]) rfl ?_
      refine wm_aload_n d_MM_items0_61 rfl rfl ?_
      refine wm_iload_n d_MM_items0_62 rfl rfl ?_
      refine cf_MM_302 rfl d_MM_items0_63 h47 (Nat.le_of_ble_eq_true rfl) (Ci.mono h (fun x49 M48 h => ?_))
      obtain ⟨h50, hOM48, h⟩ := h
      by_cases c53 : x49 = 3 ∨ x49 = 6
      · replace h := h.1 c53
        refine wm_tableIn (tgt := 116) (off := 50) d_MM_items0_66 h50 (by omega) (by omega) (by rcases c53 with q9 | q9 <;> (rw [q9]; rfl)) rfl ?_
        obtain ⟨h54, h⟩ := h
        refine wm_aload_n d_MM_items0_116 rfl rfl ?_
        refine wm_iload_n d_MM_items0_117 rfl rfl ?_
        refine wm_iload_n d_MM_items0_118 rfl rfl ?_
        refine cf_MM_433 rfl d_MM_items0_119 h54 (Nat.le_of_ble_eq_true rfl) (Cv.mono h (fun M55 h => ?_))
        obtain ⟨hOM55, h⟩ := h
        refine wm_goto (tgt := 183) d_MM_items0_122 rfl ?_
        refine wm_less (L' := [vr a0, vd, vi x45]) ⟨Or.inr rfl, Or.inl rfl, Or.inr rfl, trivial⟩ ?_
        exact h
      · replace h := h.2 c53
        by_cases c59 : x49 = 4
        · replace h := h.1 c59
          refine wm_tableIn (tgt := 125) (off := 59) d_MM_items0_66 h50 (by omega) (by omega) (by rw [c59]; rfl) rfl ?_
          obtain ⟨h60, h⟩ := h
          refine wm_aload_n d_MM_items0_125 rfl rfl ?_
          refine wm_iload_n d_MM_items0_126 rfl rfl ?_
          refine wm_iload_n d_MM_items0_127 rfl rfl ?_
          refine cf_MM_436 rfl d_MM_items0_128 h60 (Nat.le_of_ble_eq_true rfl) (Cv.mono h (fun M61 h => ?_))
          obtain ⟨hOM61, h⟩ := h
          refine wm_goto (tgt := 183) d_MM_items0_131 rfl ?_
          refine wm_less (L' := [vr a0, vd, vi x45]) ⟨Or.inr rfl, Or.inl rfl, Or.inr rfl, trivial⟩ ?_
          exact h
        · replace h := h.2 c59
          by_cases c65 : x49 = 11
          · replace h := h.1 c65
            refine wm_tableIn (tgt := 134) (off := 68) d_MM_items0_66 h50 (by omega) (by omega) (by rw [c65]; rfl) rfl ?_
            obtain ⟨h66, h⟩ := h
            obtain ⟨h67, h⟩ := h
            refine wm_aload_n d_MM_items0_134 rfl rfl ?_
            refine gf_MM_38 rfl d_MM_items0_135 h66 ?_
            refine gf_MM_439 rfl d_MM_items0_138 h67 ?_
            refine wm_if_lt (tgt := 157) d_MM_items0_141 rfl (hOM48 _ _).1 (fun c69 => ?_) (fun c69 => ?_)
            · replace h := h.1 c69
              refine wm_aload_n d_MM_items0_157 rfl rfl ?_
              refine gf_MM_38 rfl d_MM_items0_158 h66 ?_
              refine wm_aload_n d_MM_items0_161 rfl rfl ?_
              refine wm_iload_n d_MM_items0_162 rfl rfl ?_
              refine wm_iconst d_MM_items0_163 ?_
              refine wm_iadd d_MM_items0_164 ?_
              refine wm_iload_n d_MM_items0_165 rfl rfl ?_
              refine wm_iconst d_MM_items0_166 ?_
              refine wm_iconst d_MM_items0_167 ?_
              refine cf_MM_441 rfl d_MM_items0_168 h66 (Nat.le_of_ble_eq_true rfl) (Ci.mono h (fun x71 M70 h => ?_))
              obtain ⟨h72, hOM70, h⟩ := h
              obtain ⟨h73, h⟩ := h
              obtain ⟨M74, e75⟩ : ∃ M74, M74 = mUI M70 (mR M48 a0 10) 17 x71 := ⟨_, rfl⟩
              replace h := h M74 e75
              have hOM74 : mOk M74 := by rw [e75]; exact mOk_UI hOM70 h72
              refine pf_MM_439 rfl d_MM_items0_171 h73 h72 e75 ?_
              refine wm_goto (tgt := 183) d_MM_items0_174 rfl ?_
              refine wm_less (L' := [vr a0, vd, vi x45]) ⟨Or.inr rfl, Or.inl rfl, Or.inr rfl, trivial⟩ ?_
              exact h
            · replace h := h.2 c69
              refine wm_aload_n d_MM_items0_144 rfl rfl ?_
              refine wm_iconst d_MM_items0_145 ?_
              refine wm_aload_n d_MM_items0_146 rfl rfl ?_
              refine wm_iload_n d_MM_items0_147 rfl rfl ?_
              refine cf_MM_279 rfl d_MM_items0_148 h66 (Nat.le_of_ble_eq_true rfl) (Ci.mono h (fun x77 M76 h => ?_))
              obtain ⟨h78, hOM76, h⟩ := h
              obtain ⟨h79, h⟩ := h
              refine cf_MM_351 rfl d_MM_items0_151 h79 (Nat.le_of_ble_eq_true rfl) (Cv.mono h (fun M80 h => ?_))
              obtain ⟨hOM80, h⟩ := h
              refine wm_goto (tgt := 183) d_MM_items0_154 rfl ?_
              refine wm_less (L' := [vr a0, vd, vi x45]) ⟨Or.inr rfl, Or.inl rfl, Or.inr rfl, trivial⟩ ?_
              exact h
          · replace h := h.2 c65
            refine wm_tableD (tgt := 177) (off := 111) d_MM_items0_66 h50 (if q8 : 3 ≤ x49 ∧ x49 ≤ 11 then Or.inr ⟨q8.1, q8.2, by
      have q9 : x49 = 5 ∨ x49 = 7 ∨ x49 = 8 ∨ x49 = 9 ∨ x49 = 10 := by omega
      rcases q9 with q9 | q9 | q9 | q9 | q9 <;> (rw [q9]; rfl)⟩ else Or.inl (by omega)) rfl ?_
            obtain ⟨h83, h⟩ := h
            refine wm_aload_n d_MM_items0_177 rfl rfl ?_
            refine wm_iload_n d_MM_items0_178 rfl rfl ?_
            refine wm_iload_n d_MM_items0_179 rfl rfl ?_
            refine cf_MM_444 rfl d_MM_items0_180 h83 (Nat.le_of_ble_eq_true rfl) (Cv.mono h (fun M84 h => ?_))
            obtain ⟨hOM84, h⟩ := h
            refine wm_less (L' := [vr a0, vd, vi x45]) ⟨Or.inr rfl, Or.inl rfl, Or.inr rfl, trivial⟩ ?_
            exact h
theorem k_MM_items0_183 {G : mG} {d : Nat} {a0 : Nat} {l2 : Int} {M : mM} {Q : mM → Prop} (hO : mOk M) (hi_l2 : i32 l2)
    (h : h_MM_items0_38 G d a0 (l2 + 1) M Q) :
    h_MM_items0_183 G d a0 l2 M Q := by
  unfold h_MM_items0_183
  refine wm_iload_n d_MM_items0_183 rfl rfl ?_
  refine wm_iconst d_MM_items0_184 ?_
  refine wm_iadd d_MM_items0_185 ?_
  refine wm_istore_n d_MM_items0_186 rfl (by decide) (L' := [vr a0, vi (l2 + 1), vi l2]) rfl ?_
  refine wm_goto (tgt := 38) d_MM_items0_187 rfl ?_
  refine wm_less (L' := [vr a0, vi (l2 + 1), vd]) ⟨Or.inr rfl, Or.inr rfl, Or.inl rfl, trivial⟩ ?_
  exact h
theorem k_MM_items0_218 {G : mG} {d : Nat} {M : mM} {Q : mM → Prop} (hO : mOk M)
    (h : Q M) :
    h_MM_items0_218 G d  M Q := by
  unfold h_MM_items0_218
  refine wm_return d_MM_items0_218 rfl ?_
  exact ⟨rfl, h⟩
theorem d_MM_ruleItem_0 : decode y_MM_ruleItem.2.1 0 = .ok (.aload_n 0, 1) := dc9_42 (by decide +kernel)
theorem d_MM_ruleItem_1 : decode y_MM_ruleItem.2.1 1 = .ok (.iload_n 1, 1) := dc9_27 (by decide +kernel)
theorem d_MM_ruleItem_2 : decode y_MM_ruleItem.2.1 2 = .ok (.invokevirtual 302, 3) := dc9_182 (by decide +kernel)
theorem d_MM_ruleItem_5 : decode y_MM_ruleItem.2.1 5 = .ok (.bipush 6, 2) := dc9_16 (by decide +kernel)
theorem d_MM_ruleItem_7 : decode y_MM_ruleItem.2.1 7 = .ok (.if_icmp .ne 7, 3) := dc9_160 (by decide +kernel)
theorem d_MM_ruleItem_10 : decode y_MM_ruleItem.2.1 10 = .ok (.iconst 1, 1) := dc9_4 (by decide +kernel)
theorem d_MM_ruleItem_11 : decode y_MM_ruleItem.2.1 11 = .ok (.goto 4, 3) := dc9_167 (by decide +kernel)
theorem d_MM_ruleItem_14 : decode y_MM_ruleItem.2.1 14 = .ok (.iconst 0, 1) := dc9_3 (by decide +kernel)
theorem d_MM_ruleItem_15 : decode y_MM_ruleItem.2.1 15 = .ok (.istore_n 3, 1) := dc9_62 (by decide +kernel)
theorem d_MM_ruleItem_16 : decode y_MM_ruleItem.2.1 16 = .ok (.aload_n 0, 1) := dc9_42 (by decide +kernel)
theorem d_MM_ruleItem_17 : decode y_MM_ruleItem.2.1 17 = .ok (.getfield 38, 3) := dc9_180 (by decide +kernel)
theorem d_MM_ruleItem_20 : decode y_MM_ruleItem.2.1 20 = .ok (.getfield 447, 3) := dc9_180 (by decide +kernel)
theorem d_MM_ruleItem_23 : decode y_MM_ruleItem.2.1 23 = .ok (.bipush 60, 2) := dc9_16 (by decide +kernel)
theorem d_MM_ruleItem_25 : decode y_MM_ruleItem.2.1 25 = .ok (.if_icmp .ne 14, 3) := dc9_160 (by decide +kernel)
theorem d_MM_ruleItem_28 : decode y_MM_ruleItem.2.1 28 = .ok (.aload_n 0, 1) := dc9_42 (by decide +kernel)
theorem d_MM_ruleItem_29 : decode y_MM_ruleItem.2.1 29 = .ok (.iconst 5, 1) := dc9_8 (by decide +kernel)
theorem d_MM_ruleItem_30 : decode y_MM_ruleItem.2.1 30 = .ok (.aload_n 0, 1) := dc9_42 (by decide +kernel)
theorem d_MM_ruleItem_31 : decode y_MM_ruleItem.2.1 31 = .ok (.iload_n 1, 1) := dc9_27 (by decide +kernel)
theorem d_MM_ruleItem_39 : decode y_MM_ruleItem.2.1 39 = .ok (.aload_n 0, 1) := dc9_42 (by decide +kernel)
theorem d_MM_ruleItem_40 : decode y_MM_ruleItem.2.1 40 = .ok (.iload_n 1, 1) := dc9_27 (by decide +kernel)
theorem d_MM_ruleItem_41 : decode y_MM_ruleItem.2.1 41 = .ok (.iconst 1, 1) := dc9_4 (by decide +kernel)
theorem d_MM_ruleItem_42 : decode y_MM_ruleItem.2.1 42 = .ok (.iadd, 1) := dc9_96 (by decide +kernel)
theorem d_MM_ruleItem_32 : decode y_MM_ruleItem.2.1 32 = .ok (.invokevirtual 279, 3) := dc9_182 (by decide +kernel)
theorem d_MM_ruleItem_35 : decode y_MM_ruleItem.2.1 35 = .ok (.invokevirtual 351, 3) := dc9_182 (by decide +kernel)
theorem d_MM_ruleItem_38 : decode y_MM_ruleItem.2.1 38 = .ok (.return_, 1) := dc9_177 (by decide +kernel)
theorem d_MM_ruleItem_43 : decode y_MM_ruleItem.2.1 43 = .ok (.invokevirtual 354, 3) := dc9_182 (by decide +kernel)
theorem d_MM_ruleItem_46 : decode y_MM_ruleItem.2.1 46 = .ok (.ifCond .lt 16, 3) := dc9_155 (by decide +kernel)
theorem d_MM_ruleItem_62 : decode y_MM_ruleItem.2.1 62 = .ok (.aload_n 0, 1) := dc9_42 (by decide +kernel)
theorem d_MM_ruleItem_63 : decode y_MM_ruleItem.2.1 63 = .ok (.getfield 38, 3) := dc9_180 (by decide +kernel)
theorem d_MM_ruleItem_66 : decode y_MM_ruleItem.2.1 66 = .ok (.getfield 447, 3) := dc9_180 (by decide +kernel)
theorem d_MM_ruleItem_69 : decode y_MM_ruleItem.2.1 69 = .ok (.istore 4, 2) := dc9_54 (by decide +kernel)
theorem d_MM_ruleItem_71 : decode y_MM_ruleItem.2.1 71 = .ok (.aload_n 0, 1) := dc9_42 (by decide +kernel)
theorem d_MM_ruleItem_72 : decode y_MM_ruleItem.2.1 72 = .ok (.iload_n 1, 1) := dc9_27 (by decide +kernel)
theorem d_MM_ruleItem_73 : decode y_MM_ruleItem.2.1 73 = .ok (.iconst 3, 1) := dc9_6 (by decide +kernel)
theorem d_MM_ruleItem_74 : decode y_MM_ruleItem.2.1 74 = .ok (.iadd, 1) := dc9_96 (by decide +kernel)
theorem d_MM_ruleItem_75 : decode y_MM_ruleItem.2.1 75 = .ok (.iload_n 2, 1) := dc9_28 (by decide +kernel)
theorem d_MM_ruleItem_49 : decode y_MM_ruleItem.2.1 49 = .ok (.aload_n 0, 1) := dc9_42 (by decide +kernel)
theorem d_MM_ruleItem_50 : decode y_MM_ruleItem.2.1 50 = .ok (.iconst 2, 1) := dc9_5 (by decide +kernel)
theorem d_MM_ruleItem_51 : decode y_MM_ruleItem.2.1 51 = .ok (.aload_n 0, 1) := dc9_42 (by decide +kernel)
theorem d_MM_ruleItem_52 : decode y_MM_ruleItem.2.1 52 = .ok (.iload_n 1, 1) := dc9_27 (by decide +kernel)
theorem d_MM_ruleItem_53 : decode y_MM_ruleItem.2.1 53 = .ok (.iconst 1, 1) := dc9_4 (by decide +kernel)
theorem d_MM_ruleItem_54 : decode y_MM_ruleItem.2.1 54 = .ok (.iadd, 1) := dc9_96 (by decide +kernel)
theorem d_MM_ruleItem_76 : decode y_MM_ruleItem.2.1 76 = .ok (.invokevirtual 363, 3) := dc9_182 (by decide +kernel)
theorem d_MM_ruleItem_79 : decode y_MM_ruleItem.2.1 79 = .ok (.istore 5, 2) := dc9_54 (by decide +kernel)
theorem d_MM_ruleItem_81 : decode y_MM_ruleItem.2.1 81 = .ok (.aload_n 0, 1) := dc9_42 (by decide +kernel)
theorem d_MM_ruleItem_82 : decode y_MM_ruleItem.2.1 82 = .ok (.iload 5, 2) := dc9_21 (by decide +kernel)
theorem d_MM_ruleItem_84 : decode y_MM_ruleItem.2.1 84 = .ok (.iload_n 3, 1) := dc9_29 (by decide +kernel)
theorem d_MM_ruleItem_85 : decode y_MM_ruleItem.2.1 85 = .ok (.ifCond .ne 7, 3) := dc9_154 (by decide +kernel)
theorem d_MM_ruleItem_88 : decode y_MM_ruleItem.2.1 88 = .ok (.iconst 1, 1) := dc9_4 (by decide +kernel)
theorem d_MM_ruleItem_89 : decode y_MM_ruleItem.2.1 89 = .ok (.goto 4, 3) := dc9_167 (by decide +kernel)
theorem d_MM_ruleItem_92 : decode y_MM_ruleItem.2.1 92 = .ok (.iconst 0, 1) := dc9_3 (by decide +kernel)
theorem d_MM_ruleItem_93 : decode y_MM_ruleItem.2.1 93 = .ok (.invokevirtual 366, 3) := dc9_182 (by decide +kernel)
theorem d_MM_ruleItem_96 : decode y_MM_ruleItem.2.1 96 = .ok (.istore 6, 2) := dc9_54 (by decide +kernel)
theorem d_MM_ruleItem_98 : decode y_MM_ruleItem.2.1 98 = .ok (.aload_n 0, 1) := dc9_42 (by decide +kernel)
theorem d_MM_ruleItem_99 : decode y_MM_ruleItem.2.1 99 = .ok (.getfield 267, 3) := dc9_180 (by decide +kernel)
theorem d_MM_ruleItem_102 : decode y_MM_ruleItem.2.1 102 = .ok (.ifCond .eq 4, 3) := dc9_153 (by decide +kernel)
theorem d_MM_ruleItem_106 : decode y_MM_ruleItem.2.1 106 = .ok (.aload_n 0, 1) := dc9_42 (by decide +kernel)
theorem d_MM_ruleItem_107 : decode y_MM_ruleItem.2.1 107 = .ok (.getfield 38, 3) := dc9_180 (by decide +kernel)
theorem d_MM_ruleItem_110 : decode y_MM_ruleItem.2.1 110 = .ok (.getfield 407, 3) := dc9_180 (by decide +kernel)
theorem d_MM_ruleItem_113 : decode y_MM_ruleItem.2.1 113 = .ok (.iload 4, 2) := dc9_21 (by decide +kernel)
theorem d_MM_ruleItem_115 : decode y_MM_ruleItem.2.1 115 = .ok (.iload_n 3, 1) := dc9_29 (by decide +kernel)
theorem d_MM_ruleItem_116 : decode y_MM_ruleItem.2.1 116 = .ok (.bastore, 1) := dc9_84 (by decide +kernel)
theorem d_MM_ruleItem_117 : decode y_MM_ruleItem.2.1 117 = .ok (.aload_n 0, 1) := dc9_42 (by decide +kernel)
theorem d_MM_ruleItem_118 : decode y_MM_ruleItem.2.1 118 = .ok (.getfield 38, 3) := dc9_180 (by decide +kernel)
theorem d_MM_ruleItem_121 : decode y_MM_ruleItem.2.1 121 = .ok (.getfield 360, 3) := dc9_180 (by decide +kernel)
theorem d_MM_ruleItem_124 : decode y_MM_ruleItem.2.1 124 = .ok (.iload 4, 2) := dc9_21 (by decide +kernel)
theorem d_MM_ruleItem_126 : decode y_MM_ruleItem.2.1 126 = .ok (.iload 6, 2) := dc9_21 (by decide +kernel)
theorem d_MM_ruleItem_128 : decode y_MM_ruleItem.2.1 128 = .ok (.bastore, 1) := dc9_84 (by decide +kernel)
theorem d_MM_ruleItem_105 : decode y_MM_ruleItem.2.1 105 = .ok (.return_, 1) := dc9_177 (by decide +kernel)
theorem d_MM_ruleItem_129 : decode y_MM_ruleItem.2.1 129 = .ok (.aload_n 0, 1) := dc9_42 (by decide +kernel)
theorem d_MM_ruleItem_130 : decode y_MM_ruleItem.2.1 130 = .ok (.getfield 38, 3) := dc9_180 (by decide +kernel)
theorem d_MM_ruleItem_133 : decode y_MM_ruleItem.2.1 133 = .ok (.getfield 412, 3) := dc9_180 (by decide +kernel)
theorem d_MM_ruleItem_136 : decode y_MM_ruleItem.2.1 136 = .ok (.iload 4, 2) := dc9_21 (by decide +kernel)
theorem d_MM_ruleItem_138 : decode y_MM_ruleItem.2.1 138 = .ok (.iload 5, 2) := dc9_21 (by decide +kernel)
theorem d_MM_ruleItem_140 : decode y_MM_ruleItem.2.1 140 = .ok (.iastore, 1) := dc9_79 (by decide +kernel)
theorem d_MM_ruleItem_141 : decode y_MM_ruleItem.2.1 141 = .ok (.iload_n 3, 1) := dc9_29 (by decide +kernel)
theorem d_MM_ruleItem_142 : decode y_MM_ruleItem.2.1 142 = .ok (.ifCond .ne 45, 3) := dc9_154 (by decide +kernel)
theorem d_MM_ruleItem_145 : decode y_MM_ruleItem.2.1 145 = .ok (.aload_n 0, 1) := dc9_42 (by decide +kernel)
theorem d_MM_ruleItem_146 : decode y_MM_ruleItem.2.1 146 = .ok (.aload_n 0, 1) := dc9_42 (by decide +kernel)
theorem d_MM_ruleItem_147 : decode y_MM_ruleItem.2.1 147 = .ok (.getfield 38, 3) := dc9_180 (by decide +kernel)
theorem d_MM_ruleItem_150 : decode y_MM_ruleItem.2.1 150 = .ok (.iload 5, 2) := dc9_21 (by decide +kernel)
theorem d_MM_ruleItem_152 : decode y_MM_ruleItem.2.1 152 = .ok (.invokevirtual 450, 3) := dc9_182 (by decide +kernel)
theorem d_MM_ruleItem_155 : decode y_MM_ruleItem.2.1 155 = .ok (.aload_n 0, 1) := dc9_42 (by decide +kernel)
theorem d_MM_ruleItem_156 : decode y_MM_ruleItem.2.1 156 = .ok (.getfield 38, 3) := dc9_180 (by decide +kernel)
theorem d_MM_ruleItem_159 : decode y_MM_ruleItem.2.1 159 = .ok (.getfield 410, 3) := dc9_180 (by decide +kernel)
theorem d_MM_ruleItem_162 : decode y_MM_ruleItem.2.1 162 = .ok (.iload 4, 2) := dc9_21 (by decide +kernel)
theorem d_MM_ruleItem_164 : decode y_MM_ruleItem.2.1 164 = .ok (.aload_n 0, 1) := dc9_42 (by decide +kernel)
theorem d_MM_ruleItem_165 : decode y_MM_ruleItem.2.1 165 = .ok (.getfield 63, 3) := dc9_180 (by decide +kernel)
theorem d_MM_ruleItem_168 : decode y_MM_ruleItem.2.1 168 = .ok (.iconst 0, 1) := dc9_3 (by decide +kernel)
theorem d_MM_ruleItem_169 : decode y_MM_ruleItem.2.1 169 = .ok (.laload, 1) := dc9_47 (by decide +kernel)
theorem d_MM_ruleItem_170 : decode y_MM_ruleItem.2.1 170 = .ok (.lastore, 1) := dc9_80 (by decide +kernel)
theorem d_MM_ruleItem_171 : decode y_MM_ruleItem.2.1 171 = .ok (.aload_n 0, 1) := dc9_42 (by decide +kernel)
theorem d_MM_ruleItem_172 : decode y_MM_ruleItem.2.1 172 = .ok (.getfield 38, 3) := dc9_180 (by decide +kernel)
theorem d_MM_ruleItem_175 : decode y_MM_ruleItem.2.1 175 = .ok (.getfield 411, 3) := dc9_180 (by decide +kernel)
theorem d_MM_ruleItem_178 : decode y_MM_ruleItem.2.1 178 = .ok (.iload 4, 2) := dc9_21 (by decide +kernel)
theorem d_MM_ruleItem_180 : decode y_MM_ruleItem.2.1 180 = .ok (.aload_n 0, 1) := dc9_42 (by decide +kernel)
theorem d_MM_ruleItem_181 : decode y_MM_ruleItem.2.1 181 = .ok (.getfield 67, 3) := dc9_180 (by decide +kernel)
theorem d_MM_ruleItem_184 : decode y_MM_ruleItem.2.1 184 = .ok (.iconst 0, 1) := dc9_3 (by decide +kernel)
theorem d_MM_ruleItem_185 : decode y_MM_ruleItem.2.1 185 = .ok (.laload, 1) := dc9_47 (by decide +kernel)
theorem d_MM_ruleItem_186 : decode y_MM_ruleItem.2.1 186 = .ok (.lastore, 1) := dc9_80 (by decide +kernel)
theorem d_MM_ruleItem_55 : decode y_MM_ruleItem.2.1 55 = .ok (.invokevirtual 279, 3) := dc9_182 (by decide +kernel)
theorem d_MM_ruleItem_58 : decode y_MM_ruleItem.2.1 58 = .ok (.invokevirtual 351, 3) := dc9_182 (by decide +kernel)
theorem d_MM_ruleItem_61 : decode y_MM_ruleItem.2.1 61 = .ok (.return_, 1) := dc9_177 (by decide +kernel)
theorem d_MM_ruleItem_187 : decode y_MM_ruleItem.2.1 187 = .ok (.aload_n 0, 1) := dc9_42 (by decide +kernel)
theorem d_MM_ruleItem_188 : decode y_MM_ruleItem.2.1 188 = .ok (.getfield 38, 3) := dc9_180 (by decide +kernel)
theorem d_MM_ruleItem_191 : decode y_MM_ruleItem.2.1 191 = .ok (.iload 4, 2) := dc9_21 (by decide +kernel)
theorem d_MM_ruleItem_193 : decode y_MM_ruleItem.2.1 193 = .ok (.iconst 1, 1) := dc9_4 (by decide +kernel)
theorem d_MM_ruleItem_194 : decode y_MM_ruleItem.2.1 194 = .ok (.iadd, 1) := dc9_96 (by decide +kernel)
theorem d_MM_ruleItem_195 : decode y_MM_ruleItem.2.1 195 = .ok (.putfield 447, 3) := dc9_181 (by decide +kernel)
theorem d_MM_ruleItem_198 : decode y_MM_ruleItem.2.1 198 = .ok (.aload_n 0, 1) := dc9_42 (by decide +kernel)
theorem d_MM_ruleItem_199 : decode y_MM_ruleItem.2.1 199 = .ok (.iload_n 1, 1) := dc9_27 (by decide +kernel)
theorem d_MM_ruleItem_200 : decode y_MM_ruleItem.2.1 200 = .ok (.iconst 1, 1) := dc9_4 (by decide +kernel)
theorem d_MM_ruleItem_201 : decode y_MM_ruleItem.2.1 201 = .ok (.iadd, 1) := dc9_96 (by decide +kernel)
theorem d_MM_ruleItem_202 : decode y_MM_ruleItem.2.1 202 = .ok (.iload_n 3, 1) := dc9_29 (by decide +kernel)
theorem d_MM_ruleItem_203 : decode y_MM_ruleItem.2.1 203 = .ok (.ifCond .eq 7, 3) := dc9_153 (by decide +kernel)
theorem d_MM_ruleItem_210 : decode y_MM_ruleItem.2.1 210 = .ok (.iconst 1, 1) := dc9_4 (by decide +kernel)
theorem d_MM_ruleItem_206 : decode y_MM_ruleItem.2.1 206 = .ok (.iconst 2, 1) := dc9_5 (by decide +kernel)
theorem d_MM_ruleItem_207 : decode y_MM_ruleItem.2.1 207 = .ok (.goto 4, 3) := dc9_167 (by decide +kernel)
theorem d_MM_ruleItem_211 : decode y_MM_ruleItem.2.1 211 = .ok (.iload 4, 2) := dc9_21 (by decide +kernel)
theorem d_MM_ruleItem_213 : decode y_MM_ruleItem.2.1 213 = .ok (.invokevirtual 453, 3) := dc9_182 (by decide +kernel)
theorem d_MM_ruleItem_216 : decode y_MM_ruleItem.2.1 216 = .ok (.return_, 1) := dc9_177 (by decide +kernel)
def h_MM_ruleItem_187 (G : mG) (d : Nat) (a0 : Nat) (l1 : Int) (l3 : Int) (l4 : Int) (M : mM) (Q : mM → Prop) : Prop := mWm G y_MM_ruleItem (d + 1) 187 [vr a0, vi l1, vd, vi l3, vi l4, vd, vd] [] M (fun r9 M9 => r9 = none ∧ Q M9)
theorem k_MM_ruleItem {G : mG} {d : Nat} {a0 : Nat} {l1 : Int} {l2 : Int} {M : mM} {Q : mM → Prop} (hO : mOk M) (hi_l1 : i32 l1) (hi_l2 : i32 l2)
    (h : mK M a0 = 14 ∧ Ci G y_MM_word1 d [vr a0, vi l1] M (fun x3 M2 => i32 x3 ∧ mOk M2 ∧ (∀ v6 : Int, v6 = (if (x3 = 6) then 1 else 0) → mK M2 a0 = 14 ∧ mK M2 (mR M2 a0 10) = 16 ∧ ((mI M2 (mR M2 a0 10) 6 = 60) → (Ci G y_MM_place0 d [vr a0, vi l1] M2 (fun x16 M15 => i32 x16 ∧ mOk M15 ∧ (mK M15 a0 = 14 ∧ Cv G y_MM_stop d [vr a0, vi 5, vi x16] M15 (fun M19 => mOk M19 ∧ (Q M19)))))) ∧ (¬ (mI M2 (mR M2 a0 10) 6 = 60) → (Ci G y_MM_find d [vr a0, vi (l1 + 1)] M2 (fun x23 M22 => i32 x23 ∧ mOk M22 ∧ (((x23 < 0) → (mK M22 a0 = 14 ∧ mK M22 (mR M22 a0 10) = 16 ∧ Ci G y_MM_tree d [vr a0, vi (l1 + 3), vi l2] M22 (fun x30 M29 => i32 x30 ∧ mOk M29 ∧ (∀ v33 : Int, v33 = (if (v6 = 0) then 1 else 0) → mK M29 a0 = 14 ∧ Ci G y_MM_look d [vr a0, vi x30, vi v33] M29 (fun x40 M39 => i32 x40 ∧ mOk M39 ∧ (mK M39 a0 = 14 ∧ ((mI M39 a0 16 = 0) → (mK M39 (mR M39 a0 10) = 16 ∧ mK M39 (mR M39 (mR M39 a0 10) 7) = 31 ∧ ((0 : Int) ≤ mI M22 (mR M22 a0 10) 6 ∧ mI M22 (mR M22 a0 10) 6 < (mN M39 (mR M39 (mR M39 a0 10) 7) : Int)) ∧ ∀ M48, M48 = mUI M39 (mR M39 (mR M39 a0 10) 7) (Int.toNat (mI M22 (mR M22 a0 10) 6)) v6 → mK M48 (mR M48 a0 10) = 16 ∧ mK M48 (mR M48 (mR M48 a0 10) 8) = 31 ∧ ((0 : Int) ≤ mI M22 (mR M22 a0 10) 6 ∧ mI M22 (mR M22 a0 10) 6 < (mN M48 (mR M48 (mR M48 a0 10) 8) : Int)) ∧ (x40 = 0 ∨ x40 = 1) ∧ ∀ M54, M54 = mUI M48 (mR M48 (mR M48 a0 10) 8) (Int.toNat (mI M22 (mR M22 a0 10) 6)) x40 → mK M54 (mR M54 a0 10) = 16 ∧ mK M54 (mR M54 (mR M54 a0 10) 9) = 30 ∧ ((0 : Int) ≤ mI M22 (mR M22 a0 10) 6 ∧ mI M22 (mR M22 a0 10) 6 < (mN M54 (mR M54 (mR M54 a0 10) 9) : Int)) ∧ ∀ M59, M59 = mUI M54 (mR M54 (mR M54 a0 10) 9) (Int.toNat (mI M22 (mR M22 a0 10) 6)) x30 → ((v6 = 0) → (Cv G y_MM_workOut d [vr a0, vr (mR M59 a0 10), vi x30] M59 (fun M63 => mOk M63 ∧ (mK M63 a0 = 14 ∧ mK M63 (mR M63 a0 10) = 16 ∧ mK M63 (mR M63 a0 21) = 33 ∧ ((0 : Int) ≤ 0 ∧ 0 < (mN M63 (mR M63 a0 21) : Int)) ∧ mK M63 (mR M63 (mR M63 a0 10) 10) = 33 ∧ ((0 : Int) ≤ mI M22 (mR M22 a0 10) 6 ∧ mI M22 (mR M22 a0 10) 6 < (mN M63 (mR M63 (mR M63 a0 10) 10) : Int)) ∧ ∀ M72, M72 = mUL M63 (mR M63 (mR M63 a0 10) 10) (Int.toNat (mI M22 (mR M22 a0 10) 6)) (mL M63 (mR M63 a0 21) 0) → mK M72 (mR M72 a0 10) = 16 ∧ mK M72 (mR M72 a0 22) = 33 ∧ ((0 : Int) ≤ 0 ∧ 0 < (mN M72 (mR M72 a0 22) : Int)) ∧ mK M72 (mR M72 (mR M72 a0 10) 11) = 33 ∧ ((0 : Int) ≤ mI M22 (mR M22 a0 10) 6 ∧ mI M22 (mR M22 a0 10) 6 < (mN M72 (mR M72 (mR M72 a0 10) 11) : Int)) ∧ ∀ M79, M79 = mUL M72 (mR M72 (mR M72 a0 10) 11) (Int.toNat (mI M22 (mR M22 a0 10) 6)) (mL M72 (mR M72 a0 22) 0) → h_MM_ruleItem_187 G d a0 l1 v6 (mI M22 (mR M22 a0 10) 6) M79 Q)))) ∧ (¬ (v6 = 0) → (h_MM_ruleItem_187 G d a0 l1 v6 (mI M22 (mR M22 a0 10) 6) M59 Q)))) ∧ (¬ (mI M39 a0 16 = 0) → (Q M39)))))))) ∧ (¬ (x23 < 0) → (mK M22 a0 = 14 ∧ Ci G y_MM_place0 d [vr a0, vi (l1 + 1)] M22 (fun x84 M83 => i32 x84 ∧ mOk M83 ∧ (mK M83 a0 = 14 ∧ Cv G y_MM_stop d [vr a0, vi 2, vi x84] M83 (fun M87 => mOk M87 ∧ (Q M87))))))))))))) :
    Cv G y_MM_ruleItem (d + 1) [vr a0, vi l1, vi l2] M Q := by
  refine wm_open (y := y_MM_ruleItem) rfl (Nat.le_of_ble_eq_true rfl) (L := [vr a0, vi l1, vi l2, vd, vd, vd, vd]) rfl ?_
  obtain ⟨h1, h⟩ := h
  refine wm_aload_n d_MM_ruleItem_0 rfl rfl ?_
  refine wm_iload_n d_MM_ruleItem_1 rfl rfl ?_
  refine cf_MM_302 rfl d_MM_ruleItem_2 h1 (Nat.le_of_ble_eq_true rfl) (Ci.mono h (fun x3 M2 h => ?_))
  obtain ⟨h4, hOM2, h⟩ := h
  refine wm_bipush d_MM_ruleItem_5 (by decide) ?_
  have hJ : ∀ v6 : Int, v6 = (if (x3 = 6) then 1 else 0) → mWm G y_MM_ruleItem (d + 1) 15 [vr a0, vi l1, vi l2, vd, vd, vd, vd] [vi v6] M2 (fun r9 M9 => r9 = none ∧ Q M9) := by
    intro v6 e8
    have h := h v6 e8
    have h9 : i32 v6 := by rw [e8]; (repeat' split) <;> first | exact ⟨by decide, by decide⟩ | exact ⟨by decide, by decide⟩
    have h10 : (v6 = 0 ∨ v6 = 1) := by rw [e8]; (repeat' split) <;> decide
    obtain ⟨h11, h⟩ := h
    obtain ⟨h12, h⟩ := h
    refine wm_istore_n d_MM_ruleItem_15 rfl (by decide) (L' := [vr a0, vi l1, vi l2, vi v6, vd, vd, vd]) rfl ?_
    refine wm_aload_n d_MM_ruleItem_16 rfl rfl ?_
    refine gf_MM_38 rfl d_MM_ruleItem_17 h11 ?_
    refine gf_MM_447 rfl d_MM_ruleItem_20 h12 ?_
    refine wm_bipush d_MM_ruleItem_23 (by decide) ?_
    refine wm_icmp_ne (tgt := 39) d_MM_ruleItem_25 rfl (hOM2 _ _).1 ⟨by decide, by decide⟩ (fun c14 => ?_) (fun c14 => ?_)
    · replace h := h.2 c14
      refine wm_aload_n d_MM_ruleItem_39 rfl rfl ?_
      refine wm_iload_n d_MM_ruleItem_40 rfl rfl ?_
      refine wm_iconst d_MM_ruleItem_41 ?_
      refine wm_iadd d_MM_ruleItem_42 ?_
      refine cf_MM_354 rfl d_MM_ruleItem_43 h11 (Nat.le_of_ble_eq_true rfl) (Ci.mono h (fun x23 M22 h => ?_))
      obtain ⟨h24, hOM22, h⟩ := h
      refine wm_if_lt (tgt := 62) d_MM_ruleItem_46 rfl h24 (fun c26 => ?_) (fun c26 => ?_)
      · replace h := h.1 c26
        obtain ⟨h27, h⟩ := h
        obtain ⟨h28, h⟩ := h
        refine wm_aload_n d_MM_ruleItem_62 rfl rfl ?_
        refine gf_MM_38 rfl d_MM_ruleItem_63 h27 ?_
        refine gf_MM_447 rfl d_MM_ruleItem_66 h28 ?_
        refine wm_istore d_MM_ruleItem_69 (by decide) (L' := [vr a0, vi l1, vi l2, vi v6, vi (mI M22 (mR M22 a0 10) 6), vd, vd]) rfl ?_
        refine wm_aload_n d_MM_ruleItem_71 rfl rfl ?_
        refine wm_iload_n d_MM_ruleItem_72 rfl rfl ?_
        refine wm_iconst d_MM_ruleItem_73 ?_
        refine wm_iadd d_MM_ruleItem_74 ?_
        refine wm_iload_n d_MM_ruleItem_75 rfl rfl ?_
        refine cf_MM_363 rfl d_MM_ruleItem_76 h27 (Nat.le_of_ble_eq_true rfl) (Ci.mono h (fun x30 M29 h => ?_))
        obtain ⟨h31, hOM29, h⟩ := h
        refine wm_istore d_MM_ruleItem_79 (by decide) (L' := [vr a0, vi l1, vi l2, vi v6, vi (mI M22 (mR M22 a0 10) 6), vi x30, vd]) rfl ?_
        refine wm_aload_n d_MM_ruleItem_81 rfl rfl ?_
        refine wm_iload d_MM_ruleItem_82 rfl ?_
        refine wm_iload_n d_MM_ruleItem_84 rfl rfl ?_
        have hJ : ∀ v33 : Int, v33 = (if (v6 = 0) then 1 else 0) → mWm G y_MM_ruleItem (d + 1) 93 [vr a0, vi l1, vd, vi v6, vi (mI M22 (mR M22 a0 10) 6), vi x30, vd] [vi v33, vi x30, vr a0] M29 (fun r9 M9 => r9 = none ∧ Q M9) := by
          intro v33 e35
          have h := h v33 e35
          have h36 : i32 v33 := by rw [e35]; (repeat' split) <;> first | exact ⟨by decide, by decide⟩ | exact ⟨by decide, by decide⟩
          have h37 : (v33 = 0 ∨ v33 = 1) := by rw [e35]; (repeat' split) <;> decide
          obtain ⟨h38, h⟩ := h
          refine cf_MM_366 rfl d_MM_ruleItem_93 h38 (Nat.le_of_ble_eq_true rfl) (Ci.mono h (fun x40 M39 h => ?_))
          obtain ⟨h41, hOM39, h⟩ := h
          obtain ⟨h42, h⟩ := h
          refine wm_istore d_MM_ruleItem_96 (by decide) (L' := [vr a0, vi l1, vd, vi v6, vi (mI M22 (mR M22 a0 10) 6), vi x30, vi x40]) rfl ?_
          refine wm_aload_n d_MM_ruleItem_98 rfl rfl ?_
          refine gf_MM_267 rfl d_MM_ruleItem_99 h42 ?_
          refine wm_if_eq (tgt := 106) d_MM_ruleItem_102 rfl (hOM39 _ _).1 (fun c44 => ?_) (fun c44 => ?_)
          · replace h := h.1 c44
            obtain ⟨h45, h⟩ := h
            obtain ⟨h46, h⟩ := h
            obtain ⟨h47, h⟩ := h
            obtain ⟨M48, e49⟩ : ∃ M48, M48 = mUI M39 (mR M39 (mR M39 a0 10) 7) (Int.toNat (mI M22 (mR M22 a0 10) 6)) v6 := ⟨_, rfl⟩
            replace h := h M48 e49
            obtain ⟨h50, h⟩ := h
            obtain ⟨h51, h⟩ := h
            obtain ⟨h52, h⟩ := h
            obtain ⟨h53, h⟩ := h
            obtain ⟨M54, e55⟩ : ∃ M54, M54 = mUI M48 (mR M48 (mR M48 a0 10) 8) (Int.toNat (mI M22 (mR M22 a0 10) 6)) x40 := ⟨_, rfl⟩
            replace h := h M54 e55
            obtain ⟨h56, h⟩ := h
            obtain ⟨h57, h⟩ := h
            obtain ⟨h58, h⟩ := h
            obtain ⟨M59, e60⟩ : ∃ M59, M59 = mUI M54 (mR M54 (mR M54 a0 10) 9) (Int.toNat (mI M22 (mR M22 a0 10) 6)) x30 := ⟨_, rfl⟩
            replace h := h M59 e60
            refine wm_aload_n d_MM_ruleItem_106 rfl rfl ?_
            refine gf_MM_38 rfl d_MM_ruleItem_107 h42 ?_
            refine gf_MM_407 rfl d_MM_ruleItem_110 h45 ?_
            refine wm_iload d_MM_ruleItem_113 rfl ?_
            refine wm_iload_n d_MM_ruleItem_115 rfl rfl ?_
            have hOM48 : mOk M48 := by rw [e49]; exact mOk_UI hOM39 (m_b32 h10)
            refine wm_zastE d_MM_ruleItem_116 h46 h47 h10 e49 ?_
            refine wm_aload_n d_MM_ruleItem_117 rfl rfl ?_
            refine gf_MM_38 rfl d_MM_ruleItem_118 (by rw [e49]; exact h42) ?_
            refine gf_MM_360 rfl d_MM_ruleItem_121 h50 ?_
            refine wm_iload d_MM_ruleItem_124 rfl ?_
            refine wm_iload d_MM_ruleItem_126 rfl ?_
            have hOM54 : mOk M54 := by rw [e55]; exact mOk_UI hOM48 (m_b32 h53)
            refine wm_zastE d_MM_ruleItem_128 h51 h52 h53 e55 ?_
            refine wm_aload_n d_MM_ruleItem_129 rfl rfl ?_
            refine gf_MM_38 rfl d_MM_ruleItem_130 (by rw [e55, e49]; exact h42) ?_
            refine gf_MM_412 rfl d_MM_ruleItem_133 h56 ?_
            refine wm_iload d_MM_ruleItem_136 rfl ?_
            refine wm_iload d_MM_ruleItem_138 rfl ?_
            have hOM59 : mOk M59 := by rw [e60]; exact mOk_UI hOM54 h31
            refine wm_iastE d_MM_ruleItem_140 h57 h58 h31 e60 ?_
            refine wm_iload_n d_MM_ruleItem_141 rfl rfl ?_
            refine wm_if_ne (tgt := 187) d_MM_ruleItem_142 rfl h9 (fun c62 => ?_) (fun c62 => ?_)
            · replace h := h.2 c62
              refine wm_less (L' := [vr a0, vi l1, vd, vi v6, vi (mI M22 (mR M22 a0 10) 6), vd, vd]) ⟨Or.inr rfl, Or.inr rfl, Or.inl rfl, Or.inr rfl, Or.inr rfl, Or.inl rfl, Or.inl rfl, trivial⟩ ?_
              exact h
            · replace c62 := Classical.not_not.mp c62
              replace h := h.1 c62
              refine wm_aload_n d_MM_ruleItem_145 rfl rfl ?_
              refine wm_aload_n d_MM_ruleItem_146 rfl rfl ?_
              refine gf_MM_38 rfl d_MM_ruleItem_147 (by rw [e60, e55, e49]; exact h42) ?_
              refine wm_iload d_MM_ruleItem_150 rfl ?_
              refine cf_MM_450 rfl d_MM_ruleItem_152 (by rw [e60, e55, e49]; exact h42) (Nat.le_of_ble_eq_true rfl) (Cv.mono h (fun M63 h => ?_))
              obtain ⟨hOM63, h⟩ := h
              obtain ⟨h66, h⟩ := h
              obtain ⟨h67, h⟩ := h
              obtain ⟨h68, h⟩ := h
              obtain ⟨h69, h⟩ := h
              obtain ⟨h70, h⟩ := h
              obtain ⟨h71, h⟩ := h
              obtain ⟨M72, e73⟩ : ∃ M72, M72 = mUL M63 (mR M63 (mR M63 a0 10) 10) (Int.toNat (mI M22 (mR M22 a0 10) 6)) (mL M63 (mR M63 a0 21) 0) := ⟨_, rfl⟩
              replace h := h M72 e73
              obtain ⟨h74, h⟩ := h
              obtain ⟨h75, h⟩ := h
              obtain ⟨h76, h⟩ := h
              obtain ⟨h77, h⟩ := h
              obtain ⟨h78, h⟩ := h
              obtain ⟨M79, e80⟩ : ∃ M79, M79 = mUL M72 (mR M72 (mR M72 a0 10) 11) (Int.toNat (mI M22 (mR M22 a0 10) 6)) (mL M72 (mR M72 a0 22) 0) := ⟨_, rfl⟩
              replace h := h M79 e80
              refine wm_aload_n d_MM_ruleItem_155 rfl rfl ?_
              refine gf_MM_38 rfl d_MM_ruleItem_156 h66 ?_
              refine gf_MM_410 rfl d_MM_ruleItem_159 h67 ?_
              refine wm_iload d_MM_ruleItem_162 rfl ?_
              refine wm_aload_n d_MM_ruleItem_164 rfl rfl ?_
              refine gf_MM_63 rfl d_MM_ruleItem_165 h66 ?_
              refine wm_iconst d_MM_ruleItem_168 ?_
              refine wm_lald d_MM_ruleItem_169 h68 h69 ?_
              have hOM72 : mOk M72 := by rw [e73]; exact mOk_UL hOM63 (hOM63 _ _).2
              refine wm_lastE d_MM_ruleItem_170 h70 h71 (hOM63 _ _).2 e73 ?_
              refine wm_aload_n d_MM_ruleItem_171 rfl rfl ?_
              refine gf_MM_38 rfl d_MM_ruleItem_172 (by rw [e73]; exact h66) ?_
              refine gf_MM_411 rfl d_MM_ruleItem_175 h74 ?_
              refine wm_iload d_MM_ruleItem_178 rfl ?_
              refine wm_aload_n d_MM_ruleItem_180 rfl rfl ?_
              refine gf_MM_67 rfl d_MM_ruleItem_181 (by rw [e73]; exact h66) ?_
              refine wm_iconst d_MM_ruleItem_184 ?_
              refine wm_lald d_MM_ruleItem_185 h75 h76 ?_
              have hOM79 : mOk M79 := by rw [e80]; exact mOk_UL hOM72 (hOM72 _ _).2
              refine wm_lastE d_MM_ruleItem_186 h77 h78 (hOM72 _ _).2 e80 ?_
              refine wm_less (L' := [vr a0, vi l1, vd, vi v6, vi (mI M22 (mR M22 a0 10) 6), vd, vd]) ⟨Or.inr rfl, Or.inr rfl, Or.inl rfl, Or.inr rfl, Or.inr rfl, Or.inl rfl, Or.inl rfl, trivial⟩ ?_
              exact h
          · replace h := h.2 c44
            refine wm_return d_MM_ruleItem_105 rfl ?_
            exact ⟨rfl, h⟩
        clear h
        refine wm_if_ne (tgt := 92) d_MM_ruleItem_85 rfl h9 (fun c32 => ?_) (fun c32 => ?_)
        · refine wm_iconst d_MM_ruleItem_92 ?_
          refine wm_less (L' := [vr a0, vi l1, vd, vi v6, vi (mI M22 (mR M22 a0 10) 6), vi x30, vd]) ⟨Or.inr rfl, Or.inr rfl, Or.inl rfl, Or.inr rfl, Or.inr rfl, Or.inr rfl, Or.inl rfl, trivial⟩ ?_
          exact hJ 0 (if_neg c32).symm
        · replace c32 := Classical.not_not.mp c32
          refine wm_iconst d_MM_ruleItem_88 ?_
          refine wm_goto (tgt := 93) d_MM_ruleItem_89 rfl ?_
          refine wm_less (L' := [vr a0, vi l1, vd, vi v6, vi (mI M22 (mR M22 a0 10) 6), vi x30, vd]) ⟨Or.inr rfl, Or.inr rfl, Or.inl rfl, Or.inr rfl, Or.inr rfl, Or.inr rfl, Or.inl rfl, trivial⟩ ?_
          exact hJ 1 (if_pos c32).symm
      · replace h := h.2 c26
        obtain ⟨h82, h⟩ := h
        refine wm_aload_n d_MM_ruleItem_49 rfl rfl ?_
        refine wm_iconst d_MM_ruleItem_50 ?_
        refine wm_aload_n d_MM_ruleItem_51 rfl rfl ?_
        refine wm_iload_n d_MM_ruleItem_52 rfl rfl ?_
        refine wm_iconst d_MM_ruleItem_53 ?_
        refine wm_iadd d_MM_ruleItem_54 ?_
        refine cf_MM_279 rfl d_MM_ruleItem_55 h82 (Nat.le_of_ble_eq_true rfl) (Ci.mono h (fun x84 M83 h => ?_))
        obtain ⟨h85, hOM83, h⟩ := h
        obtain ⟨h86, h⟩ := h
        refine cf_MM_351 rfl d_MM_ruleItem_58 h86 (Nat.le_of_ble_eq_true rfl) (Cv.mono h (fun M87 h => ?_))
        obtain ⟨hOM87, h⟩ := h
        refine wm_return d_MM_ruleItem_61 rfl ?_
        exact ⟨rfl, h⟩
    · replace c14 := Classical.not_not.mp c14
      replace h := h.1 c14
      refine wm_aload_n d_MM_ruleItem_28 rfl rfl ?_
      refine wm_iconst d_MM_ruleItem_29 ?_
      refine wm_aload_n d_MM_ruleItem_30 rfl rfl ?_
      refine wm_iload_n d_MM_ruleItem_31 rfl rfl ?_
      refine cf_MM_279 rfl d_MM_ruleItem_32 h11 (Nat.le_of_ble_eq_true rfl) (Ci.mono h (fun x16 M15 h => ?_))
      obtain ⟨h17, hOM15, h⟩ := h
      obtain ⟨h18, h⟩ := h
      refine cf_MM_351 rfl d_MM_ruleItem_35 h18 (Nat.le_of_ble_eq_true rfl) (Cv.mono h (fun M19 h => ?_))
      obtain ⟨hOM19, h⟩ := h
      refine wm_return d_MM_ruleItem_38 rfl ?_
      exact ⟨rfl, h⟩
  clear h
  refine wm_icmp_ne (tgt := 14) d_MM_ruleItem_7 rfl h4 ⟨by decide, by decide⟩ (fun c5 => ?_) (fun c5 => ?_)
  · refine wm_iconst d_MM_ruleItem_14 ?_
    exact hJ 0 (if_neg c5).symm
  · replace c5 := Classical.not_not.mp c5
    refine wm_iconst d_MM_ruleItem_10 ?_
    refine wm_goto (tgt := 15) d_MM_ruleItem_11 rfl ?_
    exact hJ 1 (if_pos c5).symm
theorem k_MM_ruleItem_187 {G : mG} {d : Nat} {a0 : Nat} {l1 : Int} {l3 : Int} {l4 : Int} {M : mM} {Q : mM → Prop} (hO : mOk M) (hi_l1 : i32 l1) (hi_l3 : i32 l3) (hi_l4 : i32 l4)
    (h : mK M a0 = 14 ∧ mK M (mR M a0 10) = 16 ∧ i32 (l4 + 1) ∧ ∀ M94, M94 = mUI M (mR M a0 10) 6 (l4 + 1) → ∀ v97 : Int, v97 = (if (l3 = 0) then 1 else 2) → Cv G y_MM_know d [vr a0, vi (l1 + 1), vi v97, vi l4] M94 (fun M101 => mOk M101 ∧ (Q M101))) :
    h_MM_ruleItem_187 G d a0 l1 l3 l4 M Q := by
  unfold h_MM_ruleItem_187
  obtain ⟨h91, h⟩ := h
  obtain ⟨h92, h⟩ := h
  obtain ⟨h93, h⟩ := h
  obtain ⟨M94, e95⟩ : ∃ M94, M94 = mUI M (mR M a0 10) 6 (l4 + 1) := ⟨_, rfl⟩
  replace h := h M94 e95
  refine wm_aload_n d_MM_ruleItem_187 rfl rfl ?_
  refine gf_MM_38 rfl d_MM_ruleItem_188 h91 ?_
  refine wm_iload d_MM_ruleItem_191 rfl ?_
  refine wm_iconst d_MM_ruleItem_193 ?_
  refine wm_iadd d_MM_ruleItem_194 ?_
  have hOM94 : mOk M94 := by rw [e95]; exact mOk_UI hO h93
  refine pf_MM_447 rfl d_MM_ruleItem_195 h92 h93 e95 ?_
  refine wm_aload_n d_MM_ruleItem_198 rfl rfl ?_
  refine wm_iload_n d_MM_ruleItem_199 rfl rfl ?_
  refine wm_iconst d_MM_ruleItem_200 ?_
  refine wm_iadd d_MM_ruleItem_201 ?_
  refine wm_iload_n d_MM_ruleItem_202 rfl rfl ?_
  have hJ : ∀ v97 : Int, v97 = (if (l3 = 0) then 1 else 2) → mWm G y_MM_ruleItem (d + 1) 211 [vd, vd, vd, vd, vi l4, vd, vd] [vi v97, vi (l1 + 1), vr a0] M94 (fun r9 M9 => r9 = none ∧ Q M9) := by
    intro v97 e99
    have h := h v97 e99
    have h100 : i32 v97 := by rw [e99]; (repeat' split) <;> first | exact ⟨by decide, by decide⟩ | exact ⟨by decide, by decide⟩
    refine wm_iload d_MM_ruleItem_211 rfl ?_
    refine cf_MM_453 rfl d_MM_ruleItem_213 (by rw [e95]; exact h91) (Nat.le_of_ble_eq_true rfl) (Cv.mono h (fun M101 h => ?_))
    obtain ⟨hOM101, h⟩ := h
    refine wm_return d_MM_ruleItem_216 rfl ?_
    exact ⟨rfl, h⟩
  clear h
  refine wm_if_eq (tgt := 210) d_MM_ruleItem_203 rfl hi_l3 (fun c96 => ?_) (fun c96 => ?_)
  · refine wm_iconst d_MM_ruleItem_210 ?_
    refine wm_less (L' := [vd, vd, vd, vd, vi l4, vd, vd]) ⟨Or.inl rfl, Or.inl rfl, Or.inl rfl, Or.inl rfl, Or.inr rfl, Or.inl rfl, Or.inl rfl, trivial⟩ ?_
    exact hJ 1 (if_pos c96).symm
  · refine wm_iconst d_MM_ruleItem_206 ?_
    refine wm_goto (tgt := 211) d_MM_ruleItem_207 rfl ?_
    refine wm_less (L' := [vd, vd, vd, vd, vi l4, vd, vd]) ⟨Or.inl rfl, Or.inl rfl, Or.inl rfl, Or.inl rfl, Or.inr rfl, Or.inl rfl, Or.inl rfl, trivial⟩ ?_
    exact hJ 2 (if_neg c96).symm
theorem d_MM_varItem_0 : decode y_MM_varItem.2.1 0 = .ok (.aload_n 0, 1) := dc9_42 (by decide +kernel)
theorem d_MM_varItem_1 : decode y_MM_varItem.2.1 1 = .ok (.getfield 38, 3) := dc9_180 (by decide +kernel)
theorem d_MM_varItem_4 : decode y_MM_varItem.2.1 4 = .ok (.getfield 456, 3) := dc9_180 (by decide +kernel)
theorem d_MM_varItem_7 : decode y_MM_varItem.2.1 7 = .ok (.bipush 12, 2) := dc9_16 (by decide +kernel)
theorem d_MM_varItem_9 : decode y_MM_varItem.2.1 9 = .ok (.if_icmp .ne 14, 3) := dc9_160 (by decide +kernel)
theorem d_MM_varItem_12 : decode y_MM_varItem.2.1 12 = .ok (.aload_n 0, 1) := dc9_42 (by decide +kernel)
theorem d_MM_varItem_13 : decode y_MM_varItem.2.1 13 = .ok (.iconst 5, 1) := dc9_8 (by decide +kernel)
theorem d_MM_varItem_14 : decode y_MM_varItem.2.1 14 = .ok (.aload_n 0, 1) := dc9_42 (by decide +kernel)
theorem d_MM_varItem_15 : decode y_MM_varItem.2.1 15 = .ok (.iload_n 1, 1) := dc9_27 (by decide +kernel)
theorem d_MM_varItem_23 : decode y_MM_varItem.2.1 23 = .ok (.aload_n 0, 1) := dc9_42 (by decide +kernel)
theorem d_MM_varItem_24 : decode y_MM_varItem.2.1 24 = .ok (.iload_n 1, 1) := dc9_27 (by decide +kernel)
theorem d_MM_varItem_25 : decode y_MM_varItem.2.1 25 = .ok (.iconst 1, 1) := dc9_4 (by decide +kernel)
theorem d_MM_varItem_26 : decode y_MM_varItem.2.1 26 = .ok (.iadd, 1) := dc9_96 (by decide +kernel)
theorem d_MM_varItem_16 : decode y_MM_varItem.2.1 16 = .ok (.invokevirtual 279, 3) := dc9_182 (by decide +kernel)
theorem d_MM_varItem_19 : decode y_MM_varItem.2.1 19 = .ok (.invokevirtual 351, 3) := dc9_182 (by decide +kernel)
theorem d_MM_varItem_22 : decode y_MM_varItem.2.1 22 = .ok (.return_, 1) := dc9_177 (by decide +kernel)
theorem d_MM_varItem_27 : decode y_MM_varItem.2.1 27 = .ok (.invokevirtual 354, 3) := dc9_182 (by decide +kernel)
theorem d_MM_varItem_30 : decode y_MM_varItem.2.1 30 = .ok (.ifCond .lt 16, 3) := dc9_155 (by decide +kernel)
theorem d_MM_varItem_46 : decode y_MM_varItem.2.1 46 = .ok (.aload_n 0, 1) := dc9_42 (by decide +kernel)
theorem d_MM_varItem_47 : decode y_MM_varItem.2.1 47 = .ok (.getfield 38, 3) := dc9_180 (by decide +kernel)
theorem d_MM_varItem_50 : decode y_MM_varItem.2.1 50 = .ok (.getfield 456, 3) := dc9_180 (by decide +kernel)
theorem d_MM_varItem_53 : decode y_MM_varItem.2.1 53 = .ok (.istore_n 3, 1) := dc9_62 (by decide +kernel)
theorem d_MM_varItem_54 : decode y_MM_varItem.2.1 54 = .ok (.aload_n 0, 1) := dc9_42 (by decide +kernel)
theorem d_MM_varItem_55 : decode y_MM_varItem.2.1 55 = .ok (.iload_n 1, 1) := dc9_27 (by decide +kernel)
theorem d_MM_varItem_56 : decode y_MM_varItem.2.1 56 = .ok (.iconst 3, 1) := dc9_6 (by decide +kernel)
theorem d_MM_varItem_57 : decode y_MM_varItem.2.1 57 = .ok (.iadd, 1) := dc9_96 (by decide +kernel)
theorem d_MM_varItem_33 : decode y_MM_varItem.2.1 33 = .ok (.aload_n 0, 1) := dc9_42 (by decide +kernel)
theorem d_MM_varItem_34 : decode y_MM_varItem.2.1 34 = .ok (.iconst 2, 1) := dc9_5 (by decide +kernel)
theorem d_MM_varItem_35 : decode y_MM_varItem.2.1 35 = .ok (.aload_n 0, 1) := dc9_42 (by decide +kernel)
theorem d_MM_varItem_36 : decode y_MM_varItem.2.1 36 = .ok (.iload_n 1, 1) := dc9_27 (by decide +kernel)
theorem d_MM_varItem_37 : decode y_MM_varItem.2.1 37 = .ok (.iconst 1, 1) := dc9_4 (by decide +kernel)
theorem d_MM_varItem_38 : decode y_MM_varItem.2.1 38 = .ok (.iadd, 1) := dc9_96 (by decide +kernel)
theorem d_MM_varItem_58 : decode y_MM_varItem.2.1 58 = .ok (.invokevirtual 302, 3) := dc9_182 (by decide +kernel)
theorem d_MM_varItem_61 : decode y_MM_varItem.2.1 61 = .ok (.iconst 5, 1) := dc9_8 (by decide +kernel)
theorem d_MM_varItem_62 : decode y_MM_varItem.2.1 62 = .ok (.if_icmp .ne 7, 3) := dc9_160 (by decide +kernel)
theorem d_MM_varItem_65 : decode y_MM_varItem.2.1 65 = .ok (.iconst 1, 1) := dc9_4 (by decide +kernel)
theorem d_MM_varItem_66 : decode y_MM_varItem.2.1 66 = .ok (.goto 4, 3) := dc9_167 (by decide +kernel)
theorem d_MM_varItem_69 : decode y_MM_varItem.2.1 69 = .ok (.iconst 0, 1) := dc9_3 (by decide +kernel)
theorem d_MM_varItem_70 : decode y_MM_varItem.2.1 70 = .ok (.istore 4, 2) := dc9_54 (by decide +kernel)
theorem d_MM_varItem_72 : decode y_MM_varItem.2.1 72 = .ok (.iload 4, 2) := dc9_21 (by decide +kernel)
theorem d_MM_varItem_74 : decode y_MM_varItem.2.1 74 = .ok (.ifCond .eq 9, 3) := dc9_153 (by decide +kernel)
theorem d_MM_varItem_83 : decode y_MM_varItem.2.1 83 = .ok (.aload_n 0, 1) := dc9_42 (by decide +kernel)
theorem d_MM_varItem_84 : decode y_MM_varItem.2.1 84 = .ok (.iload_n 1, 1) := dc9_27 (by decide +kernel)
theorem d_MM_varItem_85 : decode y_MM_varItem.2.1 85 = .ok (.iconst 3, 1) := dc9_6 (by decide +kernel)
theorem d_MM_varItem_86 : decode y_MM_varItem.2.1 86 = .ok (.iadd, 1) := dc9_96 (by decide +kernel)
theorem d_MM_varItem_87 : decode y_MM_varItem.2.1 87 = .ok (.iload_n 2, 1) := dc9_28 (by decide +kernel)
theorem d_MM_varItem_77 : decode y_MM_varItem.2.1 77 = .ok (.iload_n 1, 1) := dc9_27 (by decide +kernel)
theorem d_MM_varItem_78 : decode y_MM_varItem.2.1 78 = .ok (.iconst 4, 1) := dc9_7 (by decide +kernel)
theorem d_MM_varItem_79 : decode y_MM_varItem.2.1 79 = .ok (.iadd, 1) := dc9_96 (by decide +kernel)
theorem d_MM_varItem_80 : decode y_MM_varItem.2.1 80 = .ok (.goto 11, 3) := dc9_167 (by decide +kernel)
theorem d_MM_varItem_88 : decode y_MM_varItem.2.1 88 = .ok (.invokevirtual 458, 3) := dc9_182 (by decide +kernel)
theorem d_MM_varItem_39 : decode y_MM_varItem.2.1 39 = .ok (.invokevirtual 279, 3) := dc9_182 (by decide +kernel)
theorem d_MM_varItem_42 : decode y_MM_varItem.2.1 42 = .ok (.invokevirtual 351, 3) := dc9_182 (by decide +kernel)
theorem d_MM_varItem_45 : decode y_MM_varItem.2.1 45 = .ok (.return_, 1) := dc9_177 (by decide +kernel)
theorem d_MM_varItem_91 : decode y_MM_varItem.2.1 91 = .ok (.istore 5, 2) := dc9_54 (by decide +kernel)
theorem d_MM_varItem_93 : decode y_MM_varItem.2.1 93 = .ok (.aload_n 0, 1) := dc9_42 (by decide +kernel)
theorem d_MM_varItem_94 : decode y_MM_varItem.2.1 94 = .ok (.iload 5, 2) := dc9_21 (by decide +kernel)
theorem d_MM_varItem_96 : decode y_MM_varItem.2.1 96 = .ok (.invokevirtual 302, 3) := dc9_182 (by decide +kernel)
theorem d_MM_varItem_99 : decode y_MM_varItem.2.1 99 = .ok (.bipush 9, 2) := dc9_16 (by decide +kernel)
theorem d_MM_varItem_101 : decode y_MM_varItem.2.1 101 = .ok (.if_icmp .ne 7, 3) := dc9_160 (by decide +kernel)
theorem d_MM_varItem_104 : decode y_MM_varItem.2.1 104 = .ok (.iconst 1, 1) := dc9_4 (by decide +kernel)
theorem d_MM_varItem_105 : decode y_MM_varItem.2.1 105 = .ok (.goto 4, 3) := dc9_167 (by decide +kernel)
theorem d_MM_varItem_108 : decode y_MM_varItem.2.1 108 = .ok (.iconst 0, 1) := dc9_3 (by decide +kernel)
theorem d_MM_varItem_109 : decode y_MM_varItem.2.1 109 = .ok (.istore 6, 2) := dc9_54 (by decide +kernel)
theorem d_MM_varItem_111 : decode y_MM_varItem.2.1 111 = .ok (.aload_n 0, 1) := dc9_42 (by decide +kernel)
theorem d_MM_varItem_112 : decode y_MM_varItem.2.1 112 = .ok (.getfield 38, 3) := dc9_180 (by decide +kernel)
theorem d_MM_varItem_115 : decode y_MM_varItem.2.1 115 = .ok (.getfield 357, 3) := dc9_180 (by decide +kernel)
theorem d_MM_varItem_118 : decode y_MM_varItem.2.1 118 = .ok (.iload_n 3, 1) := dc9_29 (by decide +kernel)
theorem d_MM_varItem_119 : decode y_MM_varItem.2.1 119 = .ok (.iload 4, 2) := dc9_21 (by decide +kernel)
theorem d_MM_varItem_121 : decode y_MM_varItem.2.1 121 = .ok (.bastore, 1) := dc9_84 (by decide +kernel)
theorem d_MM_varItem_122 : decode y_MM_varItem.2.1 122 = .ok (.iconst (-1), 1) := dc9_2 (by decide +kernel)
theorem d_MM_varItem_123 : decode y_MM_varItem.2.1 123 = .ok (.istore 7, 2) := dc9_54 (by decide +kernel)
theorem d_MM_varItem_125 : decode y_MM_varItem.2.1 125 = .ok (.iconst (-1), 1) := dc9_2 (by decide +kernel)
theorem d_MM_varItem_126 : decode y_MM_varItem.2.1 126 = .ok (.istore 8, 2) := dc9_54 (by decide +kernel)
theorem d_MM_varItem_128 : decode y_MM_varItem.2.1 128 = .ok (.iload_n 1, 1) := dc9_27 (by decide +kernel)
theorem d_MM_varItem_129 : decode y_MM_varItem.2.1 129 = .ok (.iconst 3, 1) := dc9_6 (by decide +kernel)
theorem d_MM_varItem_130 : decode y_MM_varItem.2.1 130 = .ok (.iadd, 1) := dc9_96 (by decide +kernel)
theorem d_MM_varItem_131 : decode y_MM_varItem.2.1 131 = .ok (.istore 9, 2) := dc9_54 (by decide +kernel)
theorem d_MM_varItem_133 : decode y_MM_varItem.2.1 133 = .ok (.iload 4, 2) := dc9_21 (by decide +kernel)
theorem d_MM_varItem_135 : decode y_MM_varItem.2.1 135 = .ok (.ifCond .ne 52, 3) := dc9_154 (by decide +kernel)
theorem d_MM_varItem_138 : decode y_MM_varItem.2.1 138 = .ok (.aload_n 0, 1) := dc9_42 (by decide +kernel)
theorem d_MM_varItem_139 : decode y_MM_varItem.2.1 139 = .ok (.iload_n 1, 1) := dc9_27 (by decide +kernel)
theorem d_MM_varItem_140 : decode y_MM_varItem.2.1 140 = .ok (.iconst 3, 1) := dc9_6 (by decide +kernel)
theorem d_MM_varItem_141 : decode y_MM_varItem.2.1 141 = .ok (.iadd, 1) := dc9_96 (by decide +kernel)
theorem d_MM_varItem_142 : decode y_MM_varItem.2.1 142 = .ok (.bipush 16, 2) := dc9_16 (by decide +kernel)
theorem d_MM_varItem_144 : decode y_MM_varItem.2.1 144 = .ok (.invokevirtual 430, 3) := dc9_182 (by decide +kernel)
theorem d_MM_varItem_147 : decode y_MM_varItem.2.1 147 = .ok (.istore 9, 2) := dc9_54 (by decide +kernel)
theorem d_MM_varItem_149 : decode y_MM_varItem.2.1 149 = .ok (.aload_n 0, 1) := dc9_42 (by decide +kernel)
theorem d_MM_varItem_150 : decode y_MM_varItem.2.1 150 = .ok (.iload_n 1, 1) := dc9_27 (by decide +kernel)
theorem d_MM_varItem_151 : decode y_MM_varItem.2.1 151 = .ok (.iconst 3, 1) := dc9_6 (by decide +kernel)
theorem d_MM_varItem_152 : decode y_MM_varItem.2.1 152 = .ok (.iadd, 1) := dc9_96 (by decide +kernel)
theorem d_MM_varItem_153 : decode y_MM_varItem.2.1 153 = .ok (.iload 9, 2) := dc9_21 (by decide +kernel)
theorem d_MM_varItem_155 : decode y_MM_varItem.2.1 155 = .ok (.iconst 0, 1) := dc9_3 (by decide +kernel)
theorem d_MM_varItem_156 : decode y_MM_varItem.2.1 156 = .ok (.iconst 1, 1) := dc9_4 (by decide +kernel)
theorem d_MM_varItem_157 : decode y_MM_varItem.2.1 157 = .ok (.invokevirtual 441, 3) := dc9_182 (by decide +kernel)
theorem d_MM_varItem_160 : decode y_MM_varItem.2.1 160 = .ok (.istore 7, 2) := dc9_54 (by decide +kernel)
theorem d_MM_varItem_162 : decode y_MM_varItem.2.1 162 = .ok (.aload_n 0, 1) := dc9_42 (by decide +kernel)
theorem d_MM_varItem_163 : decode y_MM_varItem.2.1 163 = .ok (.getfield 267, 3) := dc9_180 (by decide +kernel)
theorem d_MM_varItem_166 : decode y_MM_varItem.2.1 166 = .ok (.ifCond .ne 18, 3) := dc9_154 (by decide +kernel)
theorem d_MM_varItem_169 : decode y_MM_varItem.2.1 169 = .ok (.aload_n 0, 1) := dc9_42 (by decide +kernel)
theorem d_MM_varItem_170 : decode y_MM_varItem.2.1 170 = .ok (.iload 9, 2) := dc9_21 (by decide +kernel)
theorem d_MM_varItem_172 : decode y_MM_varItem.2.1 172 = .ok (.iconst 1, 1) := dc9_4 (by decide +kernel)
theorem d_MM_varItem_173 : decode y_MM_varItem.2.1 173 = .ok (.iadd, 1) := dc9_96 (by decide +kernel)
theorem d_MM_varItem_174 : decode y_MM_varItem.2.1 174 = .ok (.iload 5, 2) := dc9_21 (by decide +kernel)
theorem d_MM_varItem_176 : decode y_MM_varItem.2.1 176 = .ok (.iconst 0, 1) := dc9_3 (by decide +kernel)
theorem d_MM_varItem_177 : decode y_MM_varItem.2.1 177 = .ok (.iconst 1, 1) := dc9_4 (by decide +kernel)
theorem d_MM_varItem_184 : decode y_MM_varItem.2.1 184 = .ok (.iconst (-1), 1) := dc9_2 (by decide +kernel)
theorem d_MM_varItem_178 : decode y_MM_varItem.2.1 178 = .ok (.invokevirtual 441, 3) := dc9_182 (by decide +kernel)
theorem d_MM_varItem_181 : decode y_MM_varItem.2.1 181 = .ok (.goto 4, 3) := dc9_167 (by decide +kernel)
theorem d_MM_varItem_187 : decode y_MM_varItem.2.1 187 = .ok (.iload 6, 2) := dc9_21 (by decide +kernel)
theorem d_MM_varItem_189 : decode y_MM_varItem.2.1 189 = .ok (.ifCond .eq 25, 3) := dc9_153 (by decide +kernel)
theorem d_MM_varItem_192 : decode y_MM_varItem.2.1 192 = .ok (.aload_n 0, 1) := dc9_42 (by decide +kernel)
theorem d_MM_varItem_193 : decode y_MM_varItem.2.1 193 = .ok (.getfield 267, 3) := dc9_180 (by decide +kernel)
theorem d_MM_varItem_196 : decode y_MM_varItem.2.1 196 = .ok (.ifCond .ne 18, 3) := dc9_154 (by decide +kernel)
theorem d_MM_varItem_199 : decode y_MM_varItem.2.1 199 = .ok (.aload_n 0, 1) := dc9_42 (by decide +kernel)
theorem d_MM_varItem_200 : decode y_MM_varItem.2.1 200 = .ok (.iload 5, 2) := dc9_21 (by decide +kernel)
theorem d_MM_varItem_202 : decode y_MM_varItem.2.1 202 = .ok (.iconst 1, 1) := dc9_4 (by decide +kernel)
theorem d_MM_varItem_203 : decode y_MM_varItem.2.1 203 = .ok (.iadd, 1) := dc9_96 (by decide +kernel)
theorem d_MM_varItem_204 : decode y_MM_varItem.2.1 204 = .ok (.iload_n 2, 1) := dc9_28 (by decide +kernel)
theorem d_MM_varItem_205 : decode y_MM_varItem.2.1 205 = .ok (.iload 4, 2) := dc9_21 (by decide +kernel)
theorem d_MM_varItem_207 : decode y_MM_varItem.2.1 207 = .ok (.iconst 1, 1) := dc9_4 (by decide +kernel)
theorem d_MM_varItem_214 : decode y_MM_varItem.2.1 214 = .ok (.iconst (-1), 1) := dc9_2 (by decide +kernel)
theorem d_MM_varItem_208 : decode y_MM_varItem.2.1 208 = .ok (.invokevirtual 441, 3) := dc9_182 (by decide +kernel)
theorem d_MM_varItem_211 : decode y_MM_varItem.2.1 211 = .ok (.goto 4, 3) := dc9_167 (by decide +kernel)
theorem d_MM_varItem_185 : decode y_MM_varItem.2.1 185 = .ok (.istore 8, 2) := dc9_54 (by decide +kernel)
theorem d_MM_varItem_215 : decode y_MM_varItem.2.1 215 = .ok (.istore 10, 2) := dc9_54 (by decide +kernel)
theorem d_MM_varItem_217 : decode y_MM_varItem.2.1 217 = .ok (.aload_n 0, 1) := dc9_42 (by decide +kernel)
theorem d_MM_varItem_218 : decode y_MM_varItem.2.1 218 = .ok (.getfield 267, 3) := dc9_180 (by decide +kernel)
theorem d_MM_varItem_221 : decode y_MM_varItem.2.1 221 = .ok (.ifCond .eq 4, 3) := dc9_153 (by decide +kernel)
theorem d_MM_varItem_225 : decode y_MM_varItem.2.1 225 = .ok (.iload 4, 2) := dc9_21 (by decide +kernel)
theorem d_MM_varItem_224 : decode y_MM_varItem.2.1 224 = .ok (.return_, 1) := dc9_177 (by decide +kernel)
theorem d_MM_varItem_227 : decode y_MM_varItem.2.1 227 = .ok (.ifCond .eq 26, 3) := dc9_153 (by decide +kernel)
theorem d_MM_varItem_253 : decode y_MM_varItem.2.1 253 = .ok (.aload_n 0, 1) := dc9_42 (by decide +kernel)
theorem d_MM_varItem_254 : decode y_MM_varItem.2.1 254 = .ok (.getfield 38, 3) := dc9_180 (by decide +kernel)
theorem d_MM_varItem_257 : decode y_MM_varItem.2.1 257 = .ok (.getfield 461, 3) := dc9_180 (by decide +kernel)
theorem d_MM_varItem_260 : decode y_MM_varItem.2.1 260 = .ok (.iload_n 3, 1) := dc9_29 (by decide +kernel)
theorem d_MM_varItem_261 : decode y_MM_varItem.2.1 261 = .ok (.aload_n 0, 1) := dc9_42 (by decide +kernel)
theorem d_MM_varItem_262 : decode y_MM_varItem.2.1 262 = .ok (.iload 7, 2) := dc9_21 (by decide +kernel)
theorem d_MM_varItem_264 : decode y_MM_varItem.2.1 264 = .ok (.iload_n 1, 1) := dc9_27 (by decide +kernel)
theorem d_MM_varItem_265 : decode y_MM_varItem.2.1 265 = .ok (.iconst 3, 1) := dc9_6 (by decide +kernel)
theorem d_MM_varItem_266 : decode y_MM_varItem.2.1 266 = .ok (.iadd, 1) := dc9_96 (by decide +kernel)
theorem d_MM_varItem_230 : decode y_MM_varItem.2.1 230 = .ok (.aload_n 0, 1) := dc9_42 (by decide +kernel)
theorem d_MM_varItem_231 : decode y_MM_varItem.2.1 231 = .ok (.getfield 38, 3) := dc9_180 (by decide +kernel)
theorem d_MM_varItem_234 : decode y_MM_varItem.2.1 234 = .ok (.getfield 461, 3) := dc9_180 (by decide +kernel)
theorem d_MM_varItem_237 : decode y_MM_varItem.2.1 237 = .ok (.iload_n 3, 1) := dc9_29 (by decide +kernel)
theorem d_MM_varItem_238 : decode y_MM_varItem.2.1 238 = .ok (.iconst 0, 1) := dc9_3 (by decide +kernel)
theorem d_MM_varItem_239 : decode y_MM_varItem.2.1 239 = .ok (.iastore, 1) := dc9_79 (by decide +kernel)
theorem d_MM_varItem_240 : decode y_MM_varItem.2.1 240 = .ok (.aload_n 0, 1) := dc9_42 (by decide +kernel)
theorem d_MM_varItem_241 : decode y_MM_varItem.2.1 241 = .ok (.getfield 38, 3) := dc9_180 (by decide +kernel)
theorem d_MM_varItem_244 : decode y_MM_varItem.2.1 244 = .ok (.getfield 463, 3) := dc9_180 (by decide +kernel)
theorem d_MM_varItem_247 : decode y_MM_varItem.2.1 247 = .ok (.iload_n 3, 1) := dc9_29 (by decide +kernel)
theorem d_MM_varItem_248 : decode y_MM_varItem.2.1 248 = .ok (.iconst 1, 1) := dc9_4 (by decide +kernel)
theorem d_MM_varItem_249 : decode y_MM_varItem.2.1 249 = .ok (.iastore, 1) := dc9_79 (by decide +kernel)
theorem d_MM_varItem_267 : decode y_MM_varItem.2.1 267 = .ok (.invokevirtual 466, 3) := dc9_182 (by decide +kernel)
theorem d_MM_varItem_270 : decode y_MM_varItem.2.1 270 = .ok (.iastore, 1) := dc9_79 (by decide +kernel)
theorem d_MM_varItem_271 : decode y_MM_varItem.2.1 271 = .ok (.aload_n 0, 1) := dc9_42 (by decide +kernel)
theorem d_MM_varItem_272 : decode y_MM_varItem.2.1 272 = .ok (.getfield 38, 3) := dc9_180 (by decide +kernel)
theorem d_MM_varItem_275 : decode y_MM_varItem.2.1 275 = .ok (.getfield 463, 3) := dc9_180 (by decide +kernel)
theorem d_MM_varItem_278 : decode y_MM_varItem.2.1 278 = .ok (.iload_n 3, 1) := dc9_29 (by decide +kernel)
theorem d_MM_varItem_279 : decode y_MM_varItem.2.1 279 = .ok (.aload_n 0, 1) := dc9_42 (by decide +kernel)
theorem d_MM_varItem_280 : decode y_MM_varItem.2.1 280 = .ok (.iload 8, 2) := dc9_21 (by decide +kernel)
theorem d_MM_varItem_282 : decode y_MM_varItem.2.1 282 = .ok (.iload 9, 2) := dc9_21 (by decide +kernel)
theorem d_MM_varItem_284 : decode y_MM_varItem.2.1 284 = .ok (.iconst 1, 1) := dc9_4 (by decide +kernel)
theorem d_MM_varItem_285 : decode y_MM_varItem.2.1 285 = .ok (.iadd, 1) := dc9_96 (by decide +kernel)
theorem d_MM_varItem_286 : decode y_MM_varItem.2.1 286 = .ok (.invokevirtual 466, 3) := dc9_182 (by decide +kernel)
theorem d_MM_varItem_289 : decode y_MM_varItem.2.1 289 = .ok (.iastore, 1) := dc9_79 (by decide +kernel)
theorem d_MM_varItem_290 : decode y_MM_varItem.2.1 290 = .ok (.aload_n 0, 1) := dc9_42 (by decide +kernel)
theorem d_MM_varItem_291 : decode y_MM_varItem.2.1 291 = .ok (.getfield 38, 3) := dc9_180 (by decide +kernel)
theorem d_MM_varItem_294 : decode y_MM_varItem.2.1 294 = .ok (.getfield 461, 3) := dc9_180 (by decide +kernel)
theorem d_MM_varItem_297 : decode y_MM_varItem.2.1 297 = .ok (.iload_n 3, 1) := dc9_29 (by decide +kernel)
theorem d_MM_varItem_298 : decode y_MM_varItem.2.1 298 = .ok (.iaload, 1) := dc9_46 (by decide +kernel)
theorem d_MM_varItem_299 : decode y_MM_varItem.2.1 299 = .ok (.aload_n 0, 1) := dc9_42 (by decide +kernel)
theorem d_MM_varItem_300 : decode y_MM_varItem.2.1 300 = .ok (.getfield 38, 3) := dc9_180 (by decide +kernel)
theorem d_MM_varItem_303 : decode y_MM_varItem.2.1 303 = .ok (.getfield 463, 3) := dc9_180 (by decide +kernel)
theorem d_MM_varItem_306 : decode y_MM_varItem.2.1 306 = .ok (.iload_n 3, 1) := dc9_29 (by decide +kernel)
theorem d_MM_varItem_307 : decode y_MM_varItem.2.1 307 = .ok (.iaload, 1) := dc9_46 (by decide +kernel)
theorem d_MM_varItem_308 : decode y_MM_varItem.2.1 308 = .ok (.if_icmp .gt 32, 3) := dc9_163 (by decide +kernel)
theorem d_MM_varItem_340 : decode y_MM_varItem.2.1 340 = .ok (.iconst 0, 1) := dc9_3 (by decide +kernel)
theorem d_MM_varItem_311 : decode y_MM_varItem.2.1 311 = .ok (.aload_n 0, 1) := dc9_42 (by decide +kernel)
theorem d_MM_varItem_312 : decode y_MM_varItem.2.1 312 = .ok (.getfield 38, 3) := dc9_180 (by decide +kernel)
theorem d_MM_varItem_315 : decode y_MM_varItem.2.1 315 = .ok (.getfield 463, 3) := dc9_180 (by decide +kernel)
theorem d_MM_varItem_318 : decode y_MM_varItem.2.1 318 = .ok (.iload_n 3, 1) := dc9_29 (by decide +kernel)
theorem d_MM_varItem_319 : decode y_MM_varItem.2.1 319 = .ok (.iaload, 1) := dc9_46 (by decide +kernel)
theorem d_MM_varItem_320 : decode y_MM_varItem.2.1 320 = .ok (.aload_n 0, 1) := dc9_42 (by decide +kernel)
theorem d_MM_varItem_321 : decode y_MM_varItem.2.1 321 = .ok (.getfield 38, 3) := dc9_180 (by decide +kernel)
theorem d_MM_varItem_324 : decode y_MM_varItem.2.1 324 = .ok (.getfield 461, 3) := dc9_180 (by decide +kernel)
theorem d_MM_varItem_327 : decode y_MM_varItem.2.1 327 = .ok (.iload_n 3, 1) := dc9_29 (by decide +kernel)
theorem d_MM_varItem_328 : decode y_MM_varItem.2.1 328 = .ok (.iaload, 1) := dc9_46 (by decide +kernel)
theorem d_MM_varItem_329 : decode y_MM_varItem.2.1 329 = .ok (.isub, 1) := dc9_100 (by decide +kernel)
theorem d_MM_varItem_330 : decode y_MM_varItem.2.1 330 = .ok (.sipush 10000, 3) := dc9_17 (by decide +kernel)
theorem d_MM_varItem_333 : decode y_MM_varItem.2.1 333 = .ok (.if_icmp .ge 7, 3) := dc9_162 (by decide +kernel)
theorem d_MM_varItem_336 : decode y_MM_varItem.2.1 336 = .ok (.iconst 1, 1) := dc9_4 (by decide +kernel)
theorem d_MM_varItem_337 : decode y_MM_varItem.2.1 337 = .ok (.goto 4, 3) := dc9_167 (by decide +kernel)
theorem d_MM_varItem_341 : decode y_MM_varItem.2.1 341 = .ok (.istore 11, 2) := dc9_54 (by decide +kernel)
theorem d_MM_varItem_343 : decode y_MM_varItem.2.1 343 = .ok (.aload_n 0, 1) := dc9_42 (by decide +kernel)
theorem d_MM_varItem_344 : decode y_MM_varItem.2.1 344 = .ok (.getfield 267, 3) := dc9_180 (by decide +kernel)
theorem d_MM_varItem_347 : decode y_MM_varItem.2.1 347 = .ok (.ifCond .ne 22, 3) := dc9_154 (by decide +kernel)
theorem d_MM_varItem_350 : decode y_MM_varItem.2.1 350 = .ok (.iload 11, 2) := dc9_21 (by decide +kernel)
theorem d_MM_varItem_352 : decode y_MM_varItem.2.1 352 = .ok (.ifCond .ne 17, 3) := dc9_154 (by decide +kernel)
theorem d_MM_varItem_355 : decode y_MM_varItem.2.1 355 = .ok (.aload_n 0, 1) := dc9_42 (by decide +kernel)
theorem d_MM_varItem_356 : decode y_MM_varItem.2.1 356 = .ok (.bipush 9, 2) := dc9_16 (by decide +kernel)
theorem d_MM_varItem_358 : decode y_MM_varItem.2.1 358 = .ok (.aload_n 0, 1) := dc9_42 (by decide +kernel)
theorem d_MM_varItem_359 : decode y_MM_varItem.2.1 359 = .ok (.iload 9, 2) := dc9_21 (by decide +kernel)
theorem d_MM_varItem_361 : decode y_MM_varItem.2.1 361 = .ok (.iconst 1, 1) := dc9_4 (by decide +kernel)
theorem d_MM_varItem_362 : decode y_MM_varItem.2.1 362 = .ok (.iadd, 1) := dc9_96 (by decide +kernel)
theorem d_MM_varItem_363 : decode y_MM_varItem.2.1 363 = .ok (.invokevirtual 279, 3) := dc9_182 (by decide +kernel)
theorem d_MM_varItem_366 : decode y_MM_varItem.2.1 366 = .ok (.invokevirtual 351, 3) := dc9_182 (by decide +kernel)
theorem d_MM_varItem_250 : decode y_MM_varItem.2.1 250 = .ok (.goto 119, 3) := dc9_167 (by decide +kernel)
theorem d_MM_varItem_369 : decode y_MM_varItem.2.1 369 = .ok (.aload_n 0, 1) := dc9_42 (by decide +kernel)
theorem d_MM_varItem_370 : decode y_MM_varItem.2.1 370 = .ok (.getfield 38, 3) := dc9_180 (by decide +kernel)
theorem d_MM_varItem_373 : decode y_MM_varItem.2.1 373 = .ok (.getfield 469, 3) := dc9_180 (by decide +kernel)
theorem d_MM_varItem_376 : decode y_MM_varItem.2.1 376 = .ok (.iload_n 3, 1) := dc9_29 (by decide +kernel)
theorem d_MM_varItem_377 : decode y_MM_varItem.2.1 377 = .ok (.aload_n 0, 1) := dc9_42 (by decide +kernel)
theorem d_MM_varItem_378 : decode y_MM_varItem.2.1 378 = .ok (.getfield 38, 3) := dc9_180 (by decide +kernel)
theorem d_MM_varItem_381 : decode y_MM_varItem.2.1 381 = .ok (.getfield 461, 3) := dc9_180 (by decide +kernel)
theorem d_MM_varItem_384 : decode y_MM_varItem.2.1 384 = .ok (.iload_n 3, 1) := dc9_29 (by decide +kernel)
theorem d_MM_varItem_385 : decode y_MM_varItem.2.1 385 = .ok (.iaload, 1) := dc9_46 (by decide +kernel)
theorem d_MM_varItem_386 : decode y_MM_varItem.2.1 386 = .ok (.iastore, 1) := dc9_79 (by decide +kernel)
theorem d_MM_varItem_387 : decode y_MM_varItem.2.1 387 = .ok (.iload 6, 2) := dc9_21 (by decide +kernel)
theorem d_MM_varItem_389 : decode y_MM_varItem.2.1 389 = .ok (.ifCond .eq 21, 3) := dc9_153 (by decide +kernel)
theorem d_MM_varItem_392 : decode y_MM_varItem.2.1 392 = .ok (.aload_n 0, 1) := dc9_42 (by decide +kernel)
theorem d_MM_varItem_393 : decode y_MM_varItem.2.1 393 = .ok (.getfield 267, 3) := dc9_180 (by decide +kernel)
theorem d_MM_varItem_396 : decode y_MM_varItem.2.1 396 = .ok (.ifCond .ne 14, 3) := dc9_154 (by decide +kernel)
theorem d_MM_varItem_399 : decode y_MM_varItem.2.1 399 = .ok (.aload_n 0, 1) := dc9_42 (by decide +kernel)
theorem d_MM_varItem_400 : decode y_MM_varItem.2.1 400 = .ok (.iload_n 3, 1) := dc9_29 (by decide +kernel)
theorem d_MM_varItem_401 : decode y_MM_varItem.2.1 401 = .ok (.iload 10, 2) := dc9_21 (by decide +kernel)
theorem d_MM_varItem_403 : decode y_MM_varItem.2.1 403 = .ok (.iload 5, 2) := dc9_21 (by decide +kernel)
theorem d_MM_varItem_405 : decode y_MM_varItem.2.1 405 = .ok (.iconst 1, 1) := dc9_4 (by decide +kernel)
theorem d_MM_varItem_406 : decode y_MM_varItem.2.1 406 = .ok (.iadd, 1) := dc9_96 (by decide +kernel)
theorem d_MM_varItem_407 : decode y_MM_varItem.2.1 407 = .ok (.invokevirtual 471, 3) := dc9_182 (by decide +kernel)
theorem d_MM_varItem_410 : decode y_MM_varItem.2.1 410 = .ok (.aload_n 0, 1) := dc9_42 (by decide +kernel)
theorem d_MM_varItem_411 : decode y_MM_varItem.2.1 411 = .ok (.getfield 38, 3) := dc9_180 (by decide +kernel)
theorem d_MM_varItem_414 : decode y_MM_varItem.2.1 414 = .ok (.iload_n 3, 1) := dc9_29 (by decide +kernel)
theorem d_MM_varItem_415 : decode y_MM_varItem.2.1 415 = .ok (.iconst 1, 1) := dc9_4 (by decide +kernel)
theorem d_MM_varItem_416 : decode y_MM_varItem.2.1 416 = .ok (.iadd, 1) := dc9_96 (by decide +kernel)
theorem d_MM_varItem_417 : decode y_MM_varItem.2.1 417 = .ok (.putfield 456, 3) := dc9_181 (by decide +kernel)
theorem d_MM_varItem_420 : decode y_MM_varItem.2.1 420 = .ok (.aload_n 0, 1) := dc9_42 (by decide +kernel)
theorem d_MM_varItem_421 : decode y_MM_varItem.2.1 421 = .ok (.iload_n 1, 1) := dc9_27 (by decide +kernel)
theorem d_MM_varItem_422 : decode y_MM_varItem.2.1 422 = .ok (.iconst 1, 1) := dc9_4 (by decide +kernel)
theorem d_MM_varItem_423 : decode y_MM_varItem.2.1 423 = .ok (.iadd, 1) := dc9_96 (by decide +kernel)
theorem d_MM_varItem_424 : decode y_MM_varItem.2.1 424 = .ok (.iconst 3, 1) := dc9_6 (by decide +kernel)
theorem d_MM_varItem_425 : decode y_MM_varItem.2.1 425 = .ok (.iload_n 3, 1) := dc9_29 (by decide +kernel)
theorem d_MM_varItem_426 : decode y_MM_varItem.2.1 426 = .ok (.invokevirtual 453, 3) := dc9_182 (by decide +kernel)
theorem d_MM_varItem_429 : decode y_MM_varItem.2.1 429 = .ok (.return_, 1) := dc9_177 (by decide +kernel)
def h_MM_varItem_91 (G : mG) (d : Nat) (a0 : Nat) (l1 : Int) (l2 : Int) (l3 : Int) (l4 : Int) (k0 : Int) (M : mM) (Q : mM → Prop) : Prop := mWm G y_MM_varItem (d + 1) 91 [vr a0, vi l1, vi l2, vi l3, vi l4, vd, vd, vd, vd, vd, vd, vd] [vi k0] M (fun r9 M9 => r9 = none ∧ Q M9)
def h_MM_varItem_185 (G : mG) (d : Nat) (a0 : Nat) (l1 : Int) (l2 : Int) (l3 : Int) (l4 : Int) (l5 : Int) (l6 : Int) (l7 : Int) (l9 : Int) (k0 : Int) (M : mM) (Q : mM → Prop) : Prop := mWm G y_MM_varItem (d + 1) 185 [vr a0, vi l1, vi l2, vi l3, vi l4, vi l5, vi l6, vi l7, vd, vi l9, vd, vd] [vi k0] M (fun r9 M9 => r9 = none ∧ Q M9)
def h_MM_varItem_215 (G : mG) (d : Nat) (a0 : Nat) (l1 : Int) (l3 : Int) (l4 : Int) (l5 : Int) (l6 : Int) (l7 : Int) (l8 : Int) (l9 : Int) (k0 : Int) (M : mM) (Q : mM → Prop) : Prop := mWm G y_MM_varItem (d + 1) 215 [vr a0, vi l1, vd, vi l3, vi l4, vi l5, vi l6, vi l7, vi l8, vi l9, vd, vd] [vi k0] M (fun r9 M9 => r9 = none ∧ Q M9)
def h_MM_varItem_369 (G : mG) (d : Nat) (a0 : Nat) (l1 : Int) (l3 : Int) (l5 : Int) (l6 : Int) (l10 : Int) (M : mM) (Q : mM → Prop) : Prop := mWm G y_MM_varItem (d + 1) 369 [vr a0, vi l1, vd, vi l3, vd, vi l5, vi l6, vd, vd, vd, vi l10, vd] [] M (fun r9 M9 => r9 = none ∧ Q M9)
def h_MM_varItem_410 (G : mG) (d : Nat) (a0 : Nat) (l1 : Int) (l3 : Int) (M : mM) (Q : mM → Prop) : Prop := mWm G y_MM_varItem (d + 1) 410 [vr a0, vi l1, vd, vi l3, vd, vd, vd, vd, vd, vd, vd, vd] [] M (fun r9 M9 => r9 = none ∧ Q M9)
theorem k_MM_varItem {G : mG} {d : Nat} {a0 : Nat} {l1 : Int} {l2 : Int} {M : mM} {Q : mM → Prop} (hO : mOk M) (hi_l1 : i32 l1) (hi_l2 : i32 l2)
    (h : mK M a0 = 14 ∧ mK M (mR M a0 10) = 16 ∧ ((mI M (mR M a0 10) 12 = 12) → (Ci G y_MM_place0 d [vr a0, vi l1] M (fun x6 M5 => i32 x6 ∧ mOk M5 ∧ (mK M5 a0 = 14 ∧ Cv G y_MM_stop d [vr a0, vi 5, vi x6] M5 (fun M9 => mOk M9 ∧ (Q M9)))))) ∧ (¬ (mI M (mR M a0 10) 12 = 12) → (Ci G y_MM_find d [vr a0, vi (l1 + 1)] M (fun x13 M12 => i32 x13 ∧ mOk M12 ∧ (((x13 < 0) → (mK M12 a0 = 14 ∧ mK M12 (mR M12 a0 10) = 16 ∧ Ci G y_MM_word1 d [vr a0, vi (l1 + 3)] M12 (fun x20 M19 => i32 x20 ∧ mOk M19 ∧ (∀ v23 : Int, v23 = (if (x20 = 5) then 1 else 0) → ((v23 = 0) → (mK M19 a0 = 14 ∧ Ci G y_MM_initOf d [vr a0, vi (l1 + 3), vi l2] M19 (fun x32 M31 => i32 x32 ∧ mOk M31 ∧ (h_MM_varItem_91 G d a0 l1 l2 (mI M12 (mR M12 a0 10) 12) v23 x32 M31 Q)))) ∧ (¬ (v23 = 0) → (h_MM_varItem_91 G d a0 l1 l2 (mI M12 (mR M12 a0 10) 12) v23 (l1 + 4) M19 Q)))))) ∧ (¬ (x13 < 0) → (mK M12 a0 = 14 ∧ Ci G y_MM_place0 d [vr a0, vi (l1 + 1)] M12 (fun x37 M36 => i32 x37 ∧ mOk M36 ∧ (mK M36 a0 = 14 ∧ Cv G y_MM_stop d [vr a0, vi 2, vi x37] M36 (fun M40 => mOk M40 ∧ (Q M40))))))))))) :
    Cv G y_MM_varItem (d + 1) [vr a0, vi l1, vi l2] M Q := by
  refine wm_open (y := y_MM_varItem) rfl (Nat.le_of_ble_eq_true rfl) (L := [vr a0, vi l1, vi l2, vd, vd, vd, vd, vd, vd, vd, vd, vd]) rfl ?_
  obtain ⟨h1, h⟩ := h
  obtain ⟨h2, h⟩ := h
  refine wm_aload_n d_MM_varItem_0 rfl rfl ?_
  refine gf_MM_38 rfl d_MM_varItem_1 h1 ?_
  refine gf_MM_456 rfl d_MM_varItem_4 h2 ?_
  refine wm_bipush d_MM_varItem_7 (by decide) ?_
  refine wm_icmp_ne (tgt := 23) d_MM_varItem_9 rfl (hO _ _).1 ⟨by decide, by decide⟩ (fun c4 => ?_) (fun c4 => ?_)
  · replace h := h.2 c4
    refine wm_aload_n d_MM_varItem_23 rfl rfl ?_
    refine wm_iload_n d_MM_varItem_24 rfl rfl ?_
    refine wm_iconst d_MM_varItem_25 ?_
    refine wm_iadd d_MM_varItem_26 ?_
    refine cf_MM_354 rfl d_MM_varItem_27 h1 (Nat.le_of_ble_eq_true rfl) (Ci.mono h (fun x13 M12 h => ?_))
    obtain ⟨h14, hOM12, h⟩ := h
    refine wm_if_lt (tgt := 46) d_MM_varItem_30 rfl h14 (fun c16 => ?_) (fun c16 => ?_)
    · replace h := h.1 c16
      obtain ⟨h17, h⟩ := h
      obtain ⟨h18, h⟩ := h
      refine wm_aload_n d_MM_varItem_46 rfl rfl ?_
      refine gf_MM_38 rfl d_MM_varItem_47 h17 ?_
      refine gf_MM_456 rfl d_MM_varItem_50 h18 ?_
      refine wm_istore_n d_MM_varItem_53 rfl (by decide) (L' := [vr a0, vi l1, vi l2, vi (mI M12 (mR M12 a0 10) 12), vd, vd, vd, vd, vd, vd, vd, vd]) rfl ?_
      refine wm_aload_n d_MM_varItem_54 rfl rfl ?_
      refine wm_iload_n d_MM_varItem_55 rfl rfl ?_
      refine wm_iconst d_MM_varItem_56 ?_
      refine wm_iadd d_MM_varItem_57 ?_
      refine cf_MM_302 rfl d_MM_varItem_58 h17 (Nat.le_of_ble_eq_true rfl) (Ci.mono h (fun x20 M19 h => ?_))
      obtain ⟨h21, hOM19, h⟩ := h
      refine wm_iconst d_MM_varItem_61 ?_
      have hJ : ∀ v23 : Int, v23 = (if (x20 = 5) then 1 else 0) → mWm G y_MM_varItem (d + 1) 70 [vr a0, vi l1, vi l2, vi (mI M12 (mR M12 a0 10) 12), vd, vd, vd, vd, vd, vd, vd, vd] [vi v23] M19 (fun r9 M9 => r9 = none ∧ Q M9) := by
        intro v23 e25
        have h := h v23 e25
        have h26 : i32 v23 := by rw [e25]; (repeat' split) <;> first | exact ⟨by decide, by decide⟩ | exact ⟨by decide, by decide⟩
        have h27 : (v23 = 0 ∨ v23 = 1) := by rw [e25]; (repeat' split) <;> decide
        refine wm_istore d_MM_varItem_70 (by decide) (L' := [vr a0, vi l1, vi l2, vi (mI M12 (mR M12 a0 10) 12), vi v23, vd, vd, vd, vd, vd, vd, vd]) rfl ?_
        refine wm_iload d_MM_varItem_72 rfl ?_
        refine wm_if_eq (tgt := 83) d_MM_varItem_74 rfl h26 (fun c29 => ?_) (fun c29 => ?_)
        · replace h := h.1 c29
          obtain ⟨h30, h⟩ := h
          refine wm_aload_n d_MM_varItem_83 rfl rfl ?_
          refine wm_iload_n d_MM_varItem_84 rfl rfl ?_
          refine wm_iconst d_MM_varItem_85 ?_
          refine wm_iadd d_MM_varItem_86 ?_
          refine wm_iload_n d_MM_varItem_87 rfl rfl ?_
          refine cf_MM_458 rfl d_MM_varItem_88 h30 (Nat.le_of_ble_eq_true rfl) (Ci.mono h (fun x32 M31 h => ?_))
          obtain ⟨h33, hOM31, h⟩ := h
          exact h
        · replace h := h.2 c29
          refine wm_iload_n d_MM_varItem_77 rfl rfl ?_
          refine wm_iconst d_MM_varItem_78 ?_
          refine wm_iadd d_MM_varItem_79 ?_
          refine wm_goto (tgt := 91) d_MM_varItem_80 rfl ?_
          exact h
      clear h
      refine wm_icmp_ne (tgt := 69) d_MM_varItem_62 rfl h21 ⟨by decide, by decide⟩ (fun c22 => ?_) (fun c22 => ?_)
      · refine wm_iconst d_MM_varItem_69 ?_
        exact hJ 0 (if_neg c22).symm
      · replace c22 := Classical.not_not.mp c22
        refine wm_iconst d_MM_varItem_65 ?_
        refine wm_goto (tgt := 70) d_MM_varItem_66 rfl ?_
        exact hJ 1 (if_pos c22).symm
    · replace h := h.2 c16
      obtain ⟨h35, h⟩ := h
      refine wm_aload_n d_MM_varItem_33 rfl rfl ?_
      refine wm_iconst d_MM_varItem_34 ?_
      refine wm_aload_n d_MM_varItem_35 rfl rfl ?_
      refine wm_iload_n d_MM_varItem_36 rfl rfl ?_
      refine wm_iconst d_MM_varItem_37 ?_
      refine wm_iadd d_MM_varItem_38 ?_
      refine cf_MM_279 rfl d_MM_varItem_39 h35 (Nat.le_of_ble_eq_true rfl) (Ci.mono h (fun x37 M36 h => ?_))
      obtain ⟨h38, hOM36, h⟩ := h
      obtain ⟨h39, h⟩ := h
      refine cf_MM_351 rfl d_MM_varItem_42 h39 (Nat.le_of_ble_eq_true rfl) (Cv.mono h (fun M40 h => ?_))
      obtain ⟨hOM40, h⟩ := h
      refine wm_return d_MM_varItem_45 rfl ?_
      exact ⟨rfl, h⟩
  · replace c4 := Classical.not_not.mp c4
    replace h := h.1 c4
    refine wm_aload_n d_MM_varItem_12 rfl rfl ?_
    refine wm_iconst d_MM_varItem_13 ?_
    refine wm_aload_n d_MM_varItem_14 rfl rfl ?_
    refine wm_iload_n d_MM_varItem_15 rfl rfl ?_
    refine cf_MM_279 rfl d_MM_varItem_16 h1 (Nat.le_of_ble_eq_true rfl) (Ci.mono h (fun x6 M5 h => ?_))
    obtain ⟨h7, hOM5, h⟩ := h
    obtain ⟨h8, h⟩ := h
    refine cf_MM_351 rfl d_MM_varItem_19 h8 (Nat.le_of_ble_eq_true rfl) (Cv.mono h (fun M9 h => ?_))
    obtain ⟨hOM9, h⟩ := h
    refine wm_return d_MM_varItem_22 rfl ?_
    exact ⟨rfl, h⟩
theorem k_MM_varItem_91 {G : mG} {d : Nat} {a0 : Nat} {l1 : Int} {l2 : Int} {l3 : Int} {l4 : Int} {k0 : Int} {M : mM} {Q : mM → Prop} (hO : mOk M) (hi_l1 : i32 l1) (hi_l2 : i32 l2) (hi_l3 : i32 l3) (hi_l4 : i32 l4) (hi_k0 : i32 k0)
    (h : mK M a0 = 14 ∧ Ci G y_MM_word1 d [vr a0, vi k0] M (fun x45 M44 => i32 x45 ∧ mOk M44 ∧ (∀ v48 : Int, v48 = (if (x45 = 9) then 1 else 0) → mK M44 a0 = 14 ∧ mK M44 (mR M44 a0 10) = 16 ∧ mK M44 (mR M44 (mR M44 a0 10) 13) = 31 ∧ ((0 : Int) ≤ l3 ∧ l3 < (mN M44 (mR M44 (mR M44 a0 10) 13) : Int)) ∧ (l4 = 0 ∨ l4 = 1) ∧ ∀ M58, M58 = mUI M44 (mR M44 (mR M44 a0 10) 13) (Int.toNat l3) l4 → ((l4 = 0) → (Ci G y_MM_until d [vr a0, vi (l1 + 3), vi 16] M58 (fun x63 M62 => i32 x63 ∧ mOk M62 ∧ (mK M62 a0 = 14 ∧ Ci G y_MM_rule1 d [vr a0, vi (l1 + 3), vi x63, vi 0, vi 1] M62 (fun x67 M66 => i32 x67 ∧ mOk M66 ∧ (mK M66 a0 = 14 ∧ ((mI M66 a0 16 = 0) → (Ci G y_MM_rule1 d [vr a0, vi (x63 + 1), vi k0, vi 0, vi 1] M66 (fun x73 M72 => i32 x73 ∧ mOk M72 ∧ (h_MM_varItem_185 G d a0 l1 l2 l3 l4 k0 v48 x67 x63 x73 M72 Q)))) ∧ (¬ (mI M66 a0 16 = 0) → (h_MM_varItem_185 G d a0 l1 l2 l3 l4 k0 v48 x67 x63 (-1) M66 Q)))))))) ∧ (¬ (l4 = 0) → ((((v48 = 0) ∨ (¬ (mI M58 a0 16 = 0))) → (h_MM_varItem_215 G d a0 l1 l3 l4 k0 v48 (-1) (-1) (l1 + 3) (-1) M58 Q)) ∧ (¬ ((v48 = 0) ∨ (¬ (mI M58 a0 16 = 0))) → (Ci G y_MM_rule1 d [vr a0, vi (k0 + 1), vi l2, vi l4, vi 1] M58 (fun x81 M80 => i32 x81 ∧ mOk M80 ∧ (h_MM_varItem_215 G d a0 l1 l3 l4 k0 v48 (-1) (-1) (l1 + 3) x81 M80 Q))))))))) :
    h_MM_varItem_91 G d a0 l1 l2 l3 l4 k0 M Q := by
  unfold h_MM_varItem_91
  obtain ⟨h43, h⟩ := h
  refine wm_istore d_MM_varItem_91 (by decide) (L' := [vr a0, vi l1, vi l2, vi l3, vi l4, vi k0, vd, vd, vd, vd, vd, vd]) rfl ?_
  refine wm_aload_n d_MM_varItem_93 rfl rfl ?_
  refine wm_iload d_MM_varItem_94 rfl ?_
  refine cf_MM_302 rfl d_MM_varItem_96 h43 (Nat.le_of_ble_eq_true rfl) (Ci.mono h (fun x45 M44 h => ?_))
  obtain ⟨h46, hOM44, h⟩ := h
  refine wm_bipush d_MM_varItem_99 (by decide) ?_
  have hJ : ∀ v48 : Int, v48 = (if (x45 = 9) then 1 else 0) → mWm G y_MM_varItem (d + 1) 109 [vr a0, vi l1, vi l2, vi l3, vi l4, vi k0, vd, vd, vd, vd, vd, vd] [vi v48] M44 (fun r9 M9 => r9 = none ∧ Q M9) := by
    intro v48 e50
    have h := h v48 e50
    have h51 : i32 v48 := by rw [e50]; (repeat' split) <;> first | exact ⟨by decide, by decide⟩ | exact ⟨by decide, by decide⟩
    have h52 : (v48 = 0 ∨ v48 = 1) := by rw [e50]; (repeat' split) <;> decide
    obtain ⟨h53, h⟩ := h
    obtain ⟨h54, h⟩ := h
    obtain ⟨h55, h⟩ := h
    obtain ⟨h56, h⟩ := h
    obtain ⟨h57, h⟩ := h
    obtain ⟨M58, e59⟩ : ∃ M58, M58 = mUI M44 (mR M44 (mR M44 a0 10) 13) (Int.toNat l3) l4 := ⟨_, rfl⟩
    replace h := h M58 e59
    refine wm_istore d_MM_varItem_109 (by decide) (L' := [vr a0, vi l1, vi l2, vi l3, vi l4, vi k0, vi v48, vd, vd, vd, vd, vd]) rfl ?_
    refine wm_aload_n d_MM_varItem_111 rfl rfl ?_
    refine gf_MM_38 rfl d_MM_varItem_112 h53 ?_
    refine gf_MM_357 rfl d_MM_varItem_115 h54 ?_
    refine wm_iload_n d_MM_varItem_118 rfl rfl ?_
    refine wm_iload d_MM_varItem_119 rfl ?_
    have hOM58 : mOk M58 := by rw [e59]; exact mOk_UI hOM44 (m_b32 h57)
    refine wm_zastE d_MM_varItem_121 h55 h56 h57 e59 ?_
    refine wm_iconst d_MM_varItem_122 ?_
    refine wm_istore d_MM_varItem_123 (by decide) (L' := [vr a0, vi l1, vi l2, vi l3, vi l4, vi k0, vi v48, vi (-1), vd, vd, vd, vd]) rfl ?_
    refine wm_iconst d_MM_varItem_125 ?_
    refine wm_istore d_MM_varItem_126 (by decide) (L' := [vr a0, vi l1, vi l2, vi l3, vi l4, vi k0, vi v48, vi (-1), vi (-1), vd, vd, vd]) rfl ?_
    refine wm_iload_n d_MM_varItem_128 rfl rfl ?_
    refine wm_iconst d_MM_varItem_129 ?_
    refine wm_iadd d_MM_varItem_130 ?_
    refine wm_istore d_MM_varItem_131 (by decide) (L' := [vr a0, vi l1, vi l2, vi l3, vi l4, vi k0, vi v48, vi (-1), vi (-1), vi (l1 + 3), vd, vd]) rfl ?_
    refine wm_iload d_MM_varItem_133 rfl ?_
    refine wm_if_ne (tgt := 187) d_MM_varItem_135 rfl hi_l4 (fun c61 => ?_) (fun c61 => ?_)
    · replace h := h.2 c61
      refine wm_iload d_MM_varItem_187 rfl ?_
      have hE0 : ((v48 = 0) ∨ (¬ (mI M58 a0 16 = 0))) → mWm G y_MM_varItem (d + 1) 214 [vr a0, vi l1, vi l2, vi l3, vi l4, vi k0, vi v48, vi (-1), vi (-1), vi (l1 + 3), vd, vd] [] M58 (fun r9 M9 => r9 = none ∧ Q M9) := by
        intro q78
        have h := h.1 q78
        refine wm_iconst d_MM_varItem_214 ?_
        refine wm_less (L' := [vr a0, vi l1, vd, vi l3, vi l4, vi k0, vi v48, vi (-1), vi (-1), vi (l1 + 3), vd, vd]) ⟨Or.inr rfl, Or.inr rfl, Or.inl rfl, Or.inr rfl, Or.inr rfl, Or.inr rfl, Or.inr rfl, Or.inr rfl, Or.inr rfl, Or.inr rfl, Or.inl rfl, Or.inl rfl, trivial⟩ ?_
        exact h
      have hE1 : ¬ ((v48 = 0) ∨ (¬ (mI M58 a0 16 = 0))) → mWm G y_MM_varItem (d + 1) 199 [vr a0, vi l1, vi l2, vi l3, vi l4, vi k0, vi v48, vi (-1), vi (-1), vi (l1 + 3), vd, vd] [] M58 (fun r9 M9 => r9 = none ∧ Q M9) := by
        intro q79
        have h := h.2 q79
        refine wm_aload_n d_MM_varItem_199 rfl rfl ?_
        refine wm_iload d_MM_varItem_200 rfl ?_
        refine wm_iconst d_MM_varItem_202 ?_
        refine wm_iadd d_MM_varItem_203 ?_
        refine wm_iload_n d_MM_varItem_204 rfl rfl ?_
        refine wm_iload d_MM_varItem_205 rfl ?_
        refine wm_iconst d_MM_varItem_207 ?_
        refine cf_MM_441 rfl d_MM_varItem_208 (by rw [e59]; exact h53) (Nat.le_of_ble_eq_true rfl) (Ci.mono h (fun x81 M80 h => ?_))
        obtain ⟨h82, hOM80, h⟩ := h
        refine wm_goto (tgt := 215) d_MM_varItem_211 rfl ?_
        refine wm_less (L' := [vr a0, vi l1, vd, vi l3, vi l4, vi k0, vi v48, vi (-1), vi (-1), vi (l1 + 3), vd, vd]) ⟨Or.inr rfl, Or.inr rfl, Or.inl rfl, Or.inr rfl, Or.inr rfl, Or.inr rfl, Or.inr rfl, Or.inr rfl, Or.inr rfl, Or.inr rfl, Or.inl rfl, Or.inl rfl, trivial⟩ ?_
        exact h
      clear h
      refine wm_if_eq (tgt := 214) d_MM_varItem_189 rfl h51 (fun c76 => ?_) (fun c76 => ?_)
      · exact hE0 (Or.inl c76)
      · refine wm_aload_n d_MM_varItem_192 rfl rfl ?_
        refine gf_MM_267 rfl d_MM_varItem_193 (by rw [e59]; exact h53) ?_
        refine wm_if_ne (tgt := 214) d_MM_varItem_196 rfl (hOM58 _ _).1 (fun c75 => ?_) (fun c75 => ?_)
        · exact hE0 (Or.inr c75)
        · replace c75 := Classical.not_not.mp c75
          exact hE1 (fun z83 => Or.elim z83 c76 (fun z84 => z84 c75))
    · replace c61 := Classical.not_not.mp c61
      replace h := h.1 c61
      refine wm_aload_n d_MM_varItem_138 rfl rfl ?_
      refine wm_iload_n d_MM_varItem_139 rfl rfl ?_
      refine wm_iconst d_MM_varItem_140 ?_
      refine wm_iadd d_MM_varItem_141 ?_
      refine wm_bipush d_MM_varItem_142 (by decide) ?_
      refine cf_MM_430 rfl d_MM_varItem_144 (by rw [e59]; exact h53) (Nat.le_of_ble_eq_true rfl) (Ci.mono h (fun x63 M62 h => ?_))
      obtain ⟨h64, hOM62, h⟩ := h
      obtain ⟨h65, h⟩ := h
      refine wm_istore d_MM_varItem_147 (by decide) (L' := [vr a0, vi l1, vi l2, vi l3, vi l4, vi k0, vi v48, vi (-1), vi (-1), vi x63, vd, vd]) rfl ?_
      refine wm_aload_n d_MM_varItem_149 rfl rfl ?_
      refine wm_iload_n d_MM_varItem_150 rfl rfl ?_
      refine wm_iconst d_MM_varItem_151 ?_
      refine wm_iadd d_MM_varItem_152 ?_
      refine wm_iload d_MM_varItem_153 rfl ?_
      refine wm_iconst d_MM_varItem_155 ?_
      refine wm_iconst d_MM_varItem_156 ?_
      refine cf_MM_441 rfl d_MM_varItem_157 h65 (Nat.le_of_ble_eq_true rfl) (Ci.mono h (fun x67 M66 h => ?_))
      obtain ⟨h68, hOM66, h⟩ := h
      obtain ⟨h69, h⟩ := h
      refine wm_istore d_MM_varItem_160 (by decide) (L' := [vr a0, vi l1, vi l2, vi l3, vi l4, vi k0, vi v48, vi x67, vi (-1), vi x63, vd, vd]) rfl ?_
      refine wm_aload_n d_MM_varItem_162 rfl rfl ?_
      refine gf_MM_267 rfl d_MM_varItem_163 h69 ?_
      refine wm_if_ne (tgt := 184) d_MM_varItem_166 rfl (hOM66 _ _).1 (fun c71 => ?_) (fun c71 => ?_)
      · replace h := h.2 c71
        refine wm_iconst d_MM_varItem_184 ?_
        refine wm_less (L' := [vr a0, vi l1, vi l2, vi l3, vi l4, vi k0, vi v48, vi x67, vd, vi x63, vd, vd]) ⟨Or.inr rfl, Or.inr rfl, Or.inr rfl, Or.inr rfl, Or.inr rfl, Or.inr rfl, Or.inr rfl, Or.inr rfl, Or.inl rfl, Or.inr rfl, Or.inl rfl, Or.inl rfl, trivial⟩ ?_
        exact h
      · replace c71 := Classical.not_not.mp c71
        replace h := h.1 c71
        refine wm_aload_n d_MM_varItem_169 rfl rfl ?_
        refine wm_iload d_MM_varItem_170 rfl ?_
        refine wm_iconst d_MM_varItem_172 ?_
        refine wm_iadd d_MM_varItem_173 ?_
        refine wm_iload d_MM_varItem_174 rfl ?_
        refine wm_iconst d_MM_varItem_176 ?_
        refine wm_iconst d_MM_varItem_177 ?_
        refine cf_MM_441 rfl d_MM_varItem_178 h69 (Nat.le_of_ble_eq_true rfl) (Ci.mono h (fun x73 M72 h => ?_))
        obtain ⟨h74, hOM72, h⟩ := h
        refine wm_goto (tgt := 185) d_MM_varItem_181 rfl ?_
        refine wm_less (L' := [vr a0, vi l1, vi l2, vi l3, vi l4, vi k0, vi v48, vi x67, vd, vi x63, vd, vd]) ⟨Or.inr rfl, Or.inr rfl, Or.inr rfl, Or.inr rfl, Or.inr rfl, Or.inr rfl, Or.inr rfl, Or.inr rfl, Or.inl rfl, Or.inr rfl, Or.inl rfl, Or.inl rfl, trivial⟩ ?_
        exact h
  clear h
  refine wm_icmp_ne (tgt := 108) d_MM_varItem_101 rfl h46 ⟨by decide, by decide⟩ (fun c47 => ?_) (fun c47 => ?_)
  · refine wm_iconst d_MM_varItem_108 ?_
    exact hJ 0 (if_neg c47).symm
  · replace c47 := Classical.not_not.mp c47
    refine wm_iconst d_MM_varItem_104 ?_
    refine wm_goto (tgt := 109) d_MM_varItem_105 rfl ?_
    exact hJ 1 (if_pos c47).symm
theorem k_MM_varItem_185 {G : mG} {d : Nat} {a0 : Nat} {l1 : Int} {l2 : Int} {l3 : Int} {l4 : Int} {l5 : Int} {l6 : Int} {l7 : Int} {l9 : Int} {k0 : Int} {M : mM} {Q : mM → Prop} (hO : mOk M) (hi_l1 : i32 l1) (hi_l2 : i32 l2) (hi_l3 : i32 l3) (hi_l4 : i32 l4) (hi_l5 : i32 l5) (hi_l6 : i32 l6) (hi_l7 : i32 l7) (hi_l9 : i32 l9) (hi_k0 : i32 k0)
    (h : (¬ (l6 = 0) → mK M a0 = 14) ∧ (((l6 = 0) ∨ (¬ (mI M a0 16 = 0))) → (h_MM_varItem_215 G d a0 l1 l3 l4 l5 l6 l7 k0 l9 (-1) M Q)) ∧ (¬ ((l6 = 0) ∨ (¬ (mI M a0 16 = 0))) → (mK M a0 = 14 ∧ Ci G y_MM_rule1 d [vr a0, vi (l5 + 1), vi l2, vi l4, vi 1] M (fun x94 M93 => i32 x94 ∧ mOk M93 ∧ (h_MM_varItem_215 G d a0 l1 l3 l4 l5 l6 l7 k0 l9 x94 M93 Q))))) :
    h_MM_varItem_185 G d a0 l1 l2 l3 l4 l5 l6 l7 l9 k0 M Q := by
  unfold h_MM_varItem_185
  refine wm_istore d_MM_varItem_185 (by decide) (L' := [vr a0, vi l1, vi l2, vi l3, vi l4, vi l5, vi l6, vi l7, vi k0, vi l9, vd, vd]) rfl ?_
  refine wm_iload d_MM_varItem_187 rfl ?_
  obtain ⟨s89, h⟩ := h
  have hE0 : ((l6 = 0) ∨ (¬ (mI M a0 16 = 0))) → mWm G y_MM_varItem (d + 1) 214 [vr a0, vi l1, vi l2, vi l3, vi l4, vi l5, vi l6, vi l7, vi k0, vi l9, vd, vd] [] M (fun r9 M9 => r9 = none ∧ Q M9) := by
    intro q90
    have h := h.1 q90
    refine wm_iconst d_MM_varItem_214 ?_
    refine wm_less (L' := [vr a0, vi l1, vd, vi l3, vi l4, vi l5, vi l6, vi l7, vi k0, vi l9, vd, vd]) ⟨Or.inr rfl, Or.inr rfl, Or.inl rfl, Or.inr rfl, Or.inr rfl, Or.inr rfl, Or.inr rfl, Or.inr rfl, Or.inr rfl, Or.inr rfl, Or.inl rfl, Or.inl rfl, trivial⟩ ?_
    exact h
  have hE1 : ¬ ((l6 = 0) ∨ (¬ (mI M a0 16 = 0))) → mWm G y_MM_varItem (d + 1) 199 [vr a0, vi l1, vi l2, vi l3, vi l4, vi l5, vi l6, vi l7, vi k0, vi l9, vd, vd] [] M (fun r9 M9 => r9 = none ∧ Q M9) := by
    intro q91
    have h := h.2 q91
    obtain ⟨h92, h⟩ := h
    refine wm_aload_n d_MM_varItem_199 rfl rfl ?_
    refine wm_iload d_MM_varItem_200 rfl ?_
    refine wm_iconst d_MM_varItem_202 ?_
    refine wm_iadd d_MM_varItem_203 ?_
    refine wm_iload_n d_MM_varItem_204 rfl rfl ?_
    refine wm_iload d_MM_varItem_205 rfl ?_
    refine wm_iconst d_MM_varItem_207 ?_
    refine cf_MM_441 rfl d_MM_varItem_208 h92 (Nat.le_of_ble_eq_true rfl) (Ci.mono h (fun x94 M93 h => ?_))
    obtain ⟨h95, hOM93, h⟩ := h
    refine wm_goto (tgt := 215) d_MM_varItem_211 rfl ?_
    refine wm_less (L' := [vr a0, vi l1, vd, vi l3, vi l4, vi l5, vi l6, vi l7, vi k0, vi l9, vd, vd]) ⟨Or.inr rfl, Or.inr rfl, Or.inl rfl, Or.inr rfl, Or.inr rfl, Or.inr rfl, Or.inr rfl, Or.inr rfl, Or.inr rfl, Or.inr rfl, Or.inl rfl, Or.inl rfl, trivial⟩ ?_
    exact h
  clear h
  have s96 := s89
  refine wm_if_eq (tgt := 214) d_MM_varItem_189 rfl hi_l6 (fun c88 => ?_) (fun c88 => ?_)
  · exact hE0 (Or.inl c88)
  · have s96 := s96 c88
    have h86 := s96
    refine wm_aload_n d_MM_varItem_192 rfl rfl ?_
    refine gf_MM_267 rfl d_MM_varItem_193 h86 ?_
    refine wm_if_ne (tgt := 214) d_MM_varItem_196 rfl (hO _ _).1 (fun c87 => ?_) (fun c87 => ?_)
    · exact hE0 (Or.inr c87)
    · replace c87 := Classical.not_not.mp c87
      exact hE1 (fun z97 => Or.elim z97 c88 (fun z98 => z98 c87))
theorem k_MM_varItem_369 {G : mG} {d : Nat} {a0 : Nat} {l1 : Int} {l3 : Int} {l5 : Int} {l6 : Int} {l10 : Int} {M : mM} {Q : mM → Prop} (hO : mOk M) (hi_l1 : i32 l1) (hi_l3 : i32 l3) (hi_l5 : i32 l5) (hi_l6 : i32 l6) (hi_l10 : i32 l10)
    (h : mK M a0 = 14 ∧ mK M (mR M a0 10) = 16 ∧ mK M (mR M (mR M a0 10) 14) = 30 ∧ ((0 : Int) ≤ l3 ∧ l3 < (mN M (mR M (mR M a0 10) 14) : Int)) ∧ mK M (mR M (mR M a0 10) 16) = 30 ∧ ((0 : Int) ≤ l3 ∧ l3 < (mN M (mR M (mR M a0 10) 16) : Int)) ∧ ∀ M172, M172 = mUI M (mR M (mR M a0 10) 16) (Int.toNat l3) (mI M (mR M (mR M a0 10) 14) (Int.toNat l3)) → (((l6 = 0) ∨ (¬ (mI M172 a0 16 = 0))) → (h_MM_varItem_410 G d a0 l1 l3 M172 Q)) ∧ (¬ ((l6 = 0) ∨ (¬ (mI M172 a0 16 = 0))) → (Cv G y_MM_begins d [vr a0, vi l3, vi l10, vi (l5 + 1)] M172 (fun M179 => mOk M179 ∧ (h_MM_varItem_410 G d a0 l1 l3 M179 Q))))) :
    h_MM_varItem_369 G d a0 l1 l3 l5 l6 l10 M Q := by
  unfold h_MM_varItem_369
  obtain ⟨h166, h⟩ := h
  obtain ⟨h167, h⟩ := h
  obtain ⟨h168, h⟩ := h
  obtain ⟨h169, h⟩ := h
  obtain ⟨h170, h⟩ := h
  obtain ⟨h171, h⟩ := h
  obtain ⟨M172, e173⟩ : ∃ M172, M172 = mUI M (mR M (mR M a0 10) 16) (Int.toNat l3) (mI M (mR M (mR M a0 10) 14) (Int.toNat l3)) := ⟨_, rfl⟩
  replace h := h M172 e173
  refine wm_aload_n d_MM_varItem_369 rfl rfl ?_
  refine gf_MM_38 rfl d_MM_varItem_370 h166 ?_
  refine gf_MM_469 rfl d_MM_varItem_373 h167 ?_
  refine wm_iload_n d_MM_varItem_376 rfl rfl ?_
  refine wm_aload_n d_MM_varItem_377 rfl rfl ?_
  refine gf_MM_38 rfl d_MM_varItem_378 h166 ?_
  refine gf_MM_461 rfl d_MM_varItem_381 h167 ?_
  refine wm_iload_n d_MM_varItem_384 rfl rfl ?_
  refine wm_iald d_MM_varItem_385 h168 h169 ?_
  have hOM172 : mOk M172 := by rw [e173]; exact mOk_UI hO (hO _ _).1
  refine wm_iastE d_MM_varItem_386 h170 h171 (hO _ _).1 e173 ?_
  refine wm_iload d_MM_varItem_387 rfl ?_
  have hE0 : ((l6 = 0) ∨ (¬ (mI M172 a0 16 = 0))) → mWm G y_MM_varItem (d + 1) 410 [vr a0, vi l1, vd, vi l3, vd, vi l5, vi l6, vd, vd, vd, vi l10, vd] [] M172 (fun r9 M9 => r9 = none ∧ Q M9) := by
    intro q177
    have h := h.1 q177
    refine wm_less (L' := [vr a0, vi l1, vd, vi l3, vd, vd, vd, vd, vd, vd, vd, vd]) ⟨Or.inr rfl, Or.inr rfl, Or.inl rfl, Or.inr rfl, Or.inl rfl, Or.inl rfl, Or.inl rfl, Or.inl rfl, Or.inl rfl, Or.inl rfl, Or.inl rfl, Or.inl rfl, trivial⟩ ?_
    exact h
  have hE1 : ¬ ((l6 = 0) ∨ (¬ (mI M172 a0 16 = 0))) → mWm G y_MM_varItem (d + 1) 399 [vr a0, vi l1, vd, vi l3, vd, vi l5, vi l6, vd, vd, vd, vi l10, vd] [] M172 (fun r9 M9 => r9 = none ∧ Q M9) := by
    intro q178
    have h := h.2 q178
    refine wm_aload_n d_MM_varItem_399 rfl rfl ?_
    refine wm_iload_n d_MM_varItem_400 rfl rfl ?_
    refine wm_iload d_MM_varItem_401 rfl ?_
    refine wm_iload d_MM_varItem_403 rfl ?_
    refine wm_iconst d_MM_varItem_405 ?_
    refine wm_iadd d_MM_varItem_406 ?_
    refine cf_MM_471 rfl d_MM_varItem_407 (by rw [e173]; exact h166) (Nat.le_of_ble_eq_true rfl) (Cv.mono h (fun M179 h => ?_))
    obtain ⟨hOM179, h⟩ := h
    refine wm_less (L' := [vr a0, vi l1, vd, vi l3, vd, vd, vd, vd, vd, vd, vd, vd]) ⟨Or.inr rfl, Or.inr rfl, Or.inl rfl, Or.inr rfl, Or.inl rfl, Or.inl rfl, Or.inl rfl, Or.inl rfl, Or.inl rfl, Or.inl rfl, Or.inl rfl, Or.inl rfl, trivial⟩ ?_
    exact h
  clear h
  refine wm_if_eq (tgt := 410) d_MM_varItem_389 rfl hi_l6 (fun c175 => ?_) (fun c175 => ?_)
  · exact hE0 (Or.inl c175)
  · refine wm_aload_n d_MM_varItem_392 rfl rfl ?_
    refine gf_MM_267 rfl d_MM_varItem_393 (by rw [e173]; exact h166) ?_
    refine wm_if_ne (tgt := 410) d_MM_varItem_396 rfl (hOM172 _ _).1 (fun c174 => ?_) (fun c174 => ?_)
    · exact hE0 (Or.inr c174)
    · replace c174 := Classical.not_not.mp c174
      exact hE1 (fun z182 => Or.elim z182 c175 (fun z183 => z183 c174))
theorem k_MM_varItem_410 {G : mG} {d : Nat} {a0 : Nat} {l1 : Int} {l3 : Int} {M : mM} {Q : mM → Prop} (hO : mOk M) (hi_l1 : i32 l1) (hi_l3 : i32 l3)
    (h : mK M a0 = 14 ∧ mK M (mR M a0 10) = 16 ∧ i32 (l3 + 1) ∧ ∀ M187, M187 = mUI M (mR M a0 10) 12 (l3 + 1) → Cv G y_MM_know d [vr a0, vi (l1 + 1), vi 3, vi l3] M187 (fun M189 => mOk M189 ∧ (Q M189))) :
    h_MM_varItem_410 G d a0 l1 l3 M Q := by
  unfold h_MM_varItem_410
  obtain ⟨h184, h⟩ := h
  obtain ⟨h185, h⟩ := h
  obtain ⟨h186, h⟩ := h
  obtain ⟨M187, e188⟩ : ∃ M187, M187 = mUI M (mR M a0 10) 12 (l3 + 1) := ⟨_, rfl⟩
  replace h := h M187 e188
  refine wm_aload_n d_MM_varItem_410 rfl rfl ?_
  refine gf_MM_38 rfl d_MM_varItem_411 h184 ?_
  refine wm_iload_n d_MM_varItem_414 rfl rfl ?_
  refine wm_iconst d_MM_varItem_415 ?_
  refine wm_iadd d_MM_varItem_416 ?_
  have hOM187 : mOk M187 := by rw [e188]; exact mOk_UI hO h186
  refine pf_MM_456 rfl d_MM_varItem_417 h185 h186 e188 ?_
  refine wm_aload_n d_MM_varItem_420 rfl rfl ?_
  refine wm_iload_n d_MM_varItem_421 rfl rfl ?_
  refine wm_iconst d_MM_varItem_422 ?_
  refine wm_iadd d_MM_varItem_423 ?_
  refine wm_iconst d_MM_varItem_424 ?_
  refine wm_iload_n d_MM_varItem_425 rfl rfl ?_
  refine cf_MM_453 rfl d_MM_varItem_426 (by rw [e188]; exact h184) (Nat.le_of_ble_eq_true rfl) (Cv.mono h (fun M189 h => ?_))
  obtain ⟨hOM189, h⟩ := h
  refine wm_return d_MM_varItem_429 rfl ?_
  exact ⟨rfl, h⟩
theorem d_MM_initOf_0 : decode y_MM_initOf.2.1 0 = .ok (.iload_n 1, 1) := dc9_27 (by decide +kernel)
theorem d_MM_initOf_1 : decode y_MM_initOf.2.1 1 = .ok (.istore_n 3, 1) := dc9_62 (by decide +kernel)
theorem d_MM_initOf_2 : decode y_MM_initOf.2.1 2 = .ok (.iload_n 3, 1) := dc9_29 (by decide +kernel)
theorem d_MM_initOf_3 : decode y_MM_initOf.2.1 3 = .ok (.iload_n 2, 1) := dc9_28 (by decide +kernel)
theorem d_MM_initOf_4 : decode y_MM_initOf.2.1 4 = .ok (.if_icmp .ge 19, 3) := dc9_162 (by decide +kernel)
theorem d_MM_initOf_7 : decode y_MM_initOf.2.1 7 = .ok (.aload_n 0, 1) := dc9_42 (by decide +kernel)
theorem d_MM_initOf_8 : decode y_MM_initOf.2.1 8 = .ok (.iload_n 3, 1) := dc9_29 (by decide +kernel)
theorem d_MM_initOf_23 : decode y_MM_initOf.2.1 23 = .ok (.iload_n 3, 1) := dc9_29 (by decide +kernel)
theorem d_MM_initOf_24 : decode y_MM_initOf.2.1 24 = .ok (.ireturn, 1) := dc9_172 (by decide +kernel)
theorem d_MM_initOf_9 : decode y_MM_initOf.2.1 9 = .ok (.invokevirtual 302, 3) := dc9_182 (by decide +kernel)
theorem d_MM_initOf_12 : decode y_MM_initOf.2.1 12 = .ok (.bipush 9, 2) := dc9_16 (by decide +kernel)
theorem d_MM_initOf_14 : decode y_MM_initOf.2.1 14 = .ok (.if_icmp .eq 9, 3) := dc9_159 (by decide +kernel)
theorem d_MM_initOf_17 : decode y_MM_initOf.2.1 17 = .ok (.iinc 3 1, 3) := by decide +kernel
theorem d_MM_initOf_20 : decode y_MM_initOf.2.1 20 = .ok (.goto (-18), 3) := dc9_167 (by decide +kernel)
def h_MM_initOf_2 (G : mG) (d : Nat) (a0 : Nat) (l2 : Int) (l3 : Int) (M : mM) (Q : Int → mM → Prop) : Prop := mWm G y_MM_initOf (d + 1) 2 [vr a0, vd, vi l2, vi l3] [] M (fun r9 M9 => ∃ x9, r9 = some (vi x9) ∧ Q x9 M9)
theorem k_MM_initOf {G : mG} {d : Nat} {a0 : Nat} {l1 : Int} {l2 : Int} {M : mM} {Q : Int → mM → Prop} (hO : mOk M) (hi_l1 : i32 l1) (hi_l2 : i32 l2)
    (h : h_MM_initOf_2 G d a0 l2 l1 M Q) :
    Ci G y_MM_initOf (d + 1) [vr a0, vi l1, vi l2] M Q := by
  refine wm_open (y := y_MM_initOf) rfl (Nat.le_of_ble_eq_true rfl) (L := [vr a0, vi l1, vi l2, vd]) rfl ?_
  refine wm_iload_n d_MM_initOf_0 rfl rfl ?_
  refine wm_istore_n d_MM_initOf_1 rfl (by decide) (L' := [vr a0, vi l1, vi l2, vi l1]) rfl ?_
  refine wm_less (L' := [vr a0, vd, vi l2, vi l1]) ⟨Or.inr rfl, Or.inl rfl, Or.inr rfl, Or.inr rfl, trivial⟩ ?_
  exact h
theorem k_MM_initOf_2 {G : mG} {d : Nat} {a0 : Nat} {l2 : Int} {l3 : Int} {M : mM} {Q : Int → mM → Prop} (hO : mOk M) (hi_l2 : i32 l2) (hi_l3 : i32 l3)
    (h : ((l2 ≤ l3) → (Q l3 M)) ∧ (¬ (l2 ≤ l3) → (mK M a0 = 14 ∧ Ci G y_MM_word1 d [vr a0, vi l3] M (fun x5 M4 => i32 x5 ∧ mOk M4 ∧ (((x5 = 9) → (Q l3 M4)) ∧ (¬ (x5 = 9) → (h_MM_initOf_2 G d a0 l2 (l3 + 1) M4 Q))))))) :
    h_MM_initOf_2 G d a0 l2 l3 M Q := by
  unfold h_MM_initOf_2
  refine wm_iload_n d_MM_initOf_2 rfl rfl ?_
  refine wm_iload_n d_MM_initOf_3 rfl rfl ?_
  refine wm_icmp_ge (tgt := 23) d_MM_initOf_4 rfl hi_l3 hi_l2 (fun c2 => ?_) (fun c2 => ?_)
  · replace h := h.1 c2
    refine wm_iload_n d_MM_initOf_23 rfl rfl ?_
    refine wm_ireturn d_MM_initOf_24 rfl rfl ?_
    exact ⟨_, rfl, h⟩
  · replace h := h.2 c2
    obtain ⟨h3, h⟩ := h
    refine wm_aload_n d_MM_initOf_7 rfl rfl ?_
    refine wm_iload_n d_MM_initOf_8 rfl rfl ?_
    refine cf_MM_302 rfl d_MM_initOf_9 h3 (Nat.le_of_ble_eq_true rfl) (Ci.mono h (fun x5 M4 h => ?_))
    obtain ⟨h6, hOM4, h⟩ := h
    refine wm_bipush d_MM_initOf_12 (by decide) ?_
    refine wm_icmp_eq (tgt := 23) d_MM_initOf_14 rfl h6 ⟨by decide, by decide⟩ (fun c8 => ?_) (fun c8 => ?_)
    · replace h := h.1 c8
      refine wm_iload_n d_MM_initOf_23 rfl rfl ?_
      refine wm_ireturn d_MM_initOf_24 rfl rfl ?_
      exact ⟨_, rfl, h⟩
    · replace h := h.2 c8
      refine wm_iinc d_MM_initOf_17 (by decide) rfl (L' := [vr a0, vd, vi l2, vi (l3 + 1)]) rfl ?_
      refine wm_goto (tgt := 2) d_MM_initOf_20 rfl ?_
      exact h
theorem d_MM_wholeOf_0 : decode y_MM_wholeOf.2.1 0 = .ok (.aload_n 0, 1) := dc9_42 (by decide +kernel)
theorem d_MM_wholeOf_1 : decode y_MM_wholeOf.2.1 1 = .ok (.getfield 267, 3) := dc9_180 (by decide +kernel)
theorem d_MM_wholeOf_4 : decode y_MM_wholeOf.2.1 4 = .ok (.ifCond .eq 5, 3) := dc9_153 (by decide +kernel)
theorem d_MM_wholeOf_9 : decode y_MM_wholeOf.2.1 9 = .ok (.aload_n 0, 1) := dc9_42 (by decide +kernel)
theorem d_MM_wholeOf_10 : decode y_MM_wholeOf.2.1 10 = .ok (.aload_n 0, 1) := dc9_42 (by decide +kernel)
theorem d_MM_wholeOf_11 : decode y_MM_wholeOf.2.1 11 = .ok (.getfield 38, 3) := dc9_180 (by decide +kernel)
theorem d_MM_wholeOf_14 : decode y_MM_wholeOf.2.1 14 = .ok (.iload_n 1, 1) := dc9_27 (by decide +kernel)
theorem d_MM_wholeOf_7 : decode y_MM_wholeOf.2.1 7 = .ok (.iconst 0, 1) := dc9_3 (by decide +kernel)
theorem d_MM_wholeOf_8 : decode y_MM_wholeOf.2.1 8 = .ok (.ireturn, 1) := dc9_172 (by decide +kernel)
theorem d_MM_wholeOf_15 : decode y_MM_wholeOf.2.1 15 = .ok (.invokevirtual 450, 3) := dc9_182 (by decide +kernel)
theorem d_MM_wholeOf_18 : decode y_MM_wholeOf.2.1 18 = .ok (.aload_n 0, 1) := dc9_42 (by decide +kernel)
theorem d_MM_wholeOf_19 : decode y_MM_wholeOf.2.1 19 = .ok (.getfield 267, 3) := dc9_180 (by decide +kernel)
theorem d_MM_wholeOf_22 : decode y_MM_wholeOf.2.1 22 = .ok (.ifCond .ne 25, 3) := dc9_154 (by decide +kernel)
theorem d_MM_wholeOf_25 : decode y_MM_wholeOf.2.1 25 = .ok (.aload_n 0, 1) := dc9_42 (by decide +kernel)
theorem d_MM_wholeOf_26 : decode y_MM_wholeOf.2.1 26 = .ok (.getfield 67, 3) := dc9_180 (by decide +kernel)
theorem d_MM_wholeOf_29 : decode y_MM_wholeOf.2.1 29 = .ok (.iconst 0, 1) := dc9_3 (by decide +kernel)
theorem d_MM_wholeOf_30 : decode y_MM_wholeOf.2.1 30 = .ok (.laload, 1) := dc9_47 (by decide +kernel)
theorem d_MM_wholeOf_31 : decode y_MM_wholeOf.2.1 31 = .ok (.lconst 1, 1) := dc9_10 (by decide +kernel)
theorem d_MM_wholeOf_32 : decode y_MM_wholeOf.2.1 32 = .ok (.lcmp, 1) := dc9_148 (by decide +kernel)
theorem d_MM_wholeOf_33 : decode y_MM_wholeOf.2.1 33 = .ok (.ifCond .eq 14, 3) := dc9_153 (by decide +kernel)
theorem d_MM_wholeOf_36 : decode y_MM_wholeOf.2.1 36 = .ok (.aload_n 0, 1) := dc9_42 (by decide +kernel)
theorem d_MM_wholeOf_37 : decode y_MM_wholeOf.2.1 37 = .ok (.bipush 8, 2) := dc9_16 (by decide +kernel)
theorem d_MM_wholeOf_39 : decode y_MM_wholeOf.2.1 39 = .ok (.aload_n 0, 1) := dc9_42 (by decide +kernel)
theorem d_MM_wholeOf_40 : decode y_MM_wholeOf.2.1 40 = .ok (.iload_n 2, 1) := dc9_28 (by decide +kernel)
theorem d_MM_wholeOf_47 : decode y_MM_wholeOf.2.1 47 = .ok (.aload_n 0, 1) := dc9_42 (by decide +kernel)
theorem d_MM_wholeOf_48 : decode y_MM_wholeOf.2.1 48 = .ok (.getfield 63, 3) := dc9_180 (by decide +kernel)
theorem d_MM_wholeOf_51 : decode y_MM_wholeOf.2.1 51 = .ok (.iconst 0, 1) := dc9_3 (by decide +kernel)
theorem d_MM_wholeOf_52 : decode y_MM_wholeOf.2.1 52 = .ok (.laload, 1) := dc9_47 (by decide +kernel)
theorem d_MM_wholeOf_53 : decode y_MM_wholeOf.2.1 53 = .ok (.l2i, 1) := dc9_136 (by decide +kernel)
theorem d_MM_wholeOf_54 : decode y_MM_wholeOf.2.1 54 = .ok (.ireturn, 1) := dc9_172 (by decide +kernel)
theorem d_MM_wholeOf_41 : decode y_MM_wholeOf.2.1 41 = .ok (.invokevirtual 279, 3) := dc9_182 (by decide +kernel)
theorem d_MM_wholeOf_44 : decode y_MM_wholeOf.2.1 44 = .ok (.invokevirtual 351, 3) := dc9_182 (by decide +kernel)
theorem d_MM_begins_0 : decode y_MM_begins.2.1 0 = .ok (.aload_n 0, 1) := dc9_42 (by decide +kernel)
theorem d_MM_begins_1 : decode y_MM_begins.2.1 1 = .ok (.getfield 38, 3) := dc9_180 (by decide +kernel)
theorem d_MM_begins_4 : decode y_MM_begins.2.1 4 = .ok (.getfield 357, 3) := dc9_180 (by decide +kernel)
theorem d_MM_begins_7 : decode y_MM_begins.2.1 7 = .ok (.iload_n 1, 1) := dc9_27 (by decide +kernel)
theorem d_MM_begins_8 : decode y_MM_begins.2.1 8 = .ok (.baload, 1) := dc9_51 (by decide +kernel)
theorem d_MM_begins_9 : decode y_MM_begins.2.1 9 = .ok (.ifCond .eq 29, 3) := dc9_153 (by decide +kernel)
theorem d_MM_begins_38 : decode y_MM_begins.2.1 38 = .ok (.aload_n 0, 1) := dc9_42 (by decide +kernel)
theorem d_MM_begins_39 : decode y_MM_begins.2.1 39 = .ok (.iload_n 2, 1) := dc9_28 (by decide +kernel)
theorem d_MM_begins_40 : decode y_MM_begins.2.1 40 = .ok (.iload_n 3, 1) := dc9_29 (by decide +kernel)
theorem d_MM_begins_12 : decode y_MM_begins.2.1 12 = .ok (.aload_n 0, 1) := dc9_42 (by decide +kernel)
theorem d_MM_begins_13 : decode y_MM_begins.2.1 13 = .ok (.aload_n 0, 1) := dc9_42 (by decide +kernel)
theorem d_MM_begins_14 : decode y_MM_begins.2.1 14 = .ok (.getfield 38, 3) := dc9_180 (by decide +kernel)
theorem d_MM_begins_17 : decode y_MM_begins.2.1 17 = .ok (.iload_n 2, 1) := dc9_28 (by decide +kernel)
theorem d_MM_begins_41 : decode y_MM_begins.2.1 41 = .ok (.invokevirtual 466, 3) := dc9_182 (by decide +kernel)
theorem d_MM_begins_44 : decode y_MM_begins.2.1 44 = .ok (.istore 4, 2) := dc9_54 (by decide +kernel)
theorem d_MM_begins_46 : decode y_MM_begins.2.1 46 = .ok (.aload_n 0, 1) := dc9_42 (by decide +kernel)
theorem d_MM_begins_47 : decode y_MM_begins.2.1 47 = .ok (.getfield 267, 3) := dc9_180 (by decide +kernel)
theorem d_MM_begins_50 : decode y_MM_begins.2.1 50 = .ok (.ifCond .ne 42, 3) := dc9_154 (by decide +kernel)
theorem d_MM_begins_53 : decode y_MM_begins.2.1 53 = .ok (.iload 4, 2) := dc9_21 (by decide +kernel)
theorem d_MM_begins_55 : decode y_MM_begins.2.1 55 = .ok (.aload_n 0, 1) := dc9_42 (by decide +kernel)
theorem d_MM_begins_56 : decode y_MM_begins.2.1 56 = .ok (.getfield 38, 3) := dc9_180 (by decide +kernel)
theorem d_MM_begins_59 : decode y_MM_begins.2.1 59 = .ok (.getfield 461, 3) := dc9_180 (by decide +kernel)
theorem d_MM_begins_62 : decode y_MM_begins.2.1 62 = .ok (.iload_n 1, 1) := dc9_27 (by decide +kernel)
theorem d_MM_begins_63 : decode y_MM_begins.2.1 63 = .ok (.iaload, 1) := dc9_46 (by decide +kernel)
theorem d_MM_begins_64 : decode y_MM_begins.2.1 64 = .ok (.if_icmp .lt 17, 3) := dc9_161 (by decide +kernel)
theorem d_MM_begins_81 : decode y_MM_begins.2.1 81 = .ok (.aload_n 0, 1) := dc9_42 (by decide +kernel)
theorem d_MM_begins_82 : decode y_MM_begins.2.1 82 = .ok (.bipush 9, 2) := dc9_16 (by decide +kernel)
theorem d_MM_begins_84 : decode y_MM_begins.2.1 84 = .ok (.aload_n 0, 1) := dc9_42 (by decide +kernel)
theorem d_MM_begins_85 : decode y_MM_begins.2.1 85 = .ok (.iload_n 3, 1) := dc9_29 (by decide +kernel)
theorem d_MM_begins_67 : decode y_MM_begins.2.1 67 = .ok (.iload 4, 2) := dc9_21 (by decide +kernel)
theorem d_MM_begins_69 : decode y_MM_begins.2.1 69 = .ok (.aload_n 0, 1) := dc9_42 (by decide +kernel)
theorem d_MM_begins_70 : decode y_MM_begins.2.1 70 = .ok (.getfield 38, 3) := dc9_180 (by decide +kernel)
theorem d_MM_begins_73 : decode y_MM_begins.2.1 73 = .ok (.getfield 463, 3) := dc9_180 (by decide +kernel)
theorem d_MM_begins_76 : decode y_MM_begins.2.1 76 = .ok (.iload_n 1, 1) := dc9_27 (by decide +kernel)
theorem d_MM_begins_77 : decode y_MM_begins.2.1 77 = .ok (.iaload, 1) := dc9_46 (by decide +kernel)
theorem d_MM_begins_78 : decode y_MM_begins.2.1 78 = .ok (.if_icmp .le 14, 3) := dc9_164 (by decide +kernel)
theorem d_MM_begins_86 : decode y_MM_begins.2.1 86 = .ok (.invokevirtual 279, 3) := dc9_182 (by decide +kernel)
theorem d_MM_begins_89 : decode y_MM_begins.2.1 89 = .ok (.invokevirtual 351, 3) := dc9_182 (by decide +kernel)
theorem d_MM_begins_92 : decode y_MM_begins.2.1 92 = .ok (.aload_n 0, 1) := dc9_42 (by decide +kernel)
theorem d_MM_begins_93 : decode y_MM_begins.2.1 93 = .ok (.getfield 38, 3) := dc9_180 (by decide +kernel)
theorem d_MM_begins_96 : decode y_MM_begins.2.1 96 = .ok (.getfield 469, 3) := dc9_180 (by decide +kernel)
theorem d_MM_begins_99 : decode y_MM_begins.2.1 99 = .ok (.iload_n 1, 1) := dc9_27 (by decide +kernel)
theorem d_MM_begins_100 : decode y_MM_begins.2.1 100 = .ok (.iload 4, 2) := dc9_21 (by decide +kernel)
theorem d_MM_begins_102 : decode y_MM_begins.2.1 102 = .ok (.iastore, 1) := dc9_79 (by decide +kernel)
theorem d_MM_begins_103 : decode y_MM_begins.2.1 103 = .ok (.return_, 1) := dc9_177 (by decide +kernel)
theorem d_MM_begins_18 : decode y_MM_begins.2.1 18 = .ok (.invokevirtual 450, 3) := dc9_182 (by decide +kernel)
theorem d_MM_begins_21 : decode y_MM_begins.2.1 21 = .ok (.aload_n 0, 1) := dc9_42 (by decide +kernel)
theorem d_MM_begins_22 : decode y_MM_begins.2.1 22 = .ok (.getfield 38, 3) := dc9_180 (by decide +kernel)
theorem d_MM_begins_25 : decode y_MM_begins.2.1 25 = .ok (.getfield 469, 3) := dc9_180 (by decide +kernel)
theorem d_MM_begins_28 : decode y_MM_begins.2.1 28 = .ok (.iload_n 1, 1) := dc9_27 (by decide +kernel)
theorem d_MM_begins_29 : decode y_MM_begins.2.1 29 = .ok (.aload_n 0, 1) := dc9_42 (by decide +kernel)
theorem d_MM_begins_30 : decode y_MM_begins.2.1 30 = .ok (.getfield 63, 3) := dc9_180 (by decide +kernel)
theorem d_MM_begins_33 : decode y_MM_begins.2.1 33 = .ok (.iconst 0, 1) := dc9_3 (by decide +kernel)
theorem d_MM_begins_34 : decode y_MM_begins.2.1 34 = .ok (.laload, 1) := dc9_47 (by decide +kernel)
theorem d_MM_begins_35 : decode y_MM_begins.2.1 35 = .ok (.l2i, 1) := dc9_136 (by decide +kernel)
theorem d_MM_begins_36 : decode y_MM_begins.2.1 36 = .ok (.iastore, 1) := dc9_79 (by decide +kernel)
theorem d_MM_begins_37 : decode y_MM_begins.2.1 37 = .ok (.return_, 1) := dc9_177 (by decide +kernel)
end
section
theorem d_MM_commandItem_0 : decode y_MM_commandItem.2.1 0 = .ok (.aload_n 0, 1) := dc9_42 (by decide +kernel)
theorem d_MM_commandItem_1 : decode y_MM_commandItem.2.1 1 = .ok (.getfield 38, 3) := dc9_180 (by decide +kernel)
theorem d_MM_commandItem_4 : decode y_MM_commandItem.2.1 4 = .ok (.getfield 474, 3) := dc9_180 (by decide +kernel)
theorem d_MM_commandItem_7 : decode y_MM_commandItem.2.1 7 = .ok (.bipush 60, 2) := dc9_16 (by decide +kernel)
theorem d_MM_commandItem_9 : decode y_MM_commandItem.2.1 9 = .ok (.if_icmp .ne 14, 3) := dc9_160 (by decide +kernel)
theorem d_MM_commandItem_12 : decode y_MM_commandItem.2.1 12 = .ok (.aload_n 0, 1) := dc9_42 (by decide +kernel)
theorem d_MM_commandItem_13 : decode y_MM_commandItem.2.1 13 = .ok (.iconst 5, 1) := dc9_8 (by decide +kernel)
theorem d_MM_commandItem_14 : decode y_MM_commandItem.2.1 14 = .ok (.aload_n 0, 1) := dc9_42 (by decide +kernel)
theorem d_MM_commandItem_15 : decode y_MM_commandItem.2.1 15 = .ok (.iload_n 1, 1) := dc9_27 (by decide +kernel)
theorem d_MM_commandItem_23 : decode y_MM_commandItem.2.1 23 = .ok (.aload_n 0, 1) := dc9_42 (by decide +kernel)
theorem d_MM_commandItem_24 : decode y_MM_commandItem.2.1 24 = .ok (.getfield 38, 3) := dc9_180 (by decide +kernel)
theorem d_MM_commandItem_27 : decode y_MM_commandItem.2.1 27 = .ok (.getfield 474, 3) := dc9_180 (by decide +kernel)
theorem d_MM_commandItem_30 : decode y_MM_commandItem.2.1 30 = .ok (.istore_n 3, 1) := dc9_62 (by decide +kernel)
theorem d_MM_commandItem_31 : decode y_MM_commandItem.2.1 31 = .ok (.aload_n 0, 1) := dc9_42 (by decide +kernel)
theorem d_MM_commandItem_32 : decode y_MM_commandItem.2.1 32 = .ok (.iload_n 1, 1) := dc9_27 (by decide +kernel)
theorem d_MM_commandItem_33 : decode y_MM_commandItem.2.1 33 = .ok (.iconst 1, 1) := dc9_4 (by decide +kernel)
theorem d_MM_commandItem_34 : decode y_MM_commandItem.2.1 34 = .ok (.iadd, 1) := dc9_96 (by decide +kernel)
theorem d_MM_commandItem_35 : decode y_MM_commandItem.2.1 35 = .ok (.bipush 17, 2) := dc9_16 (by decide +kernel)
theorem d_MM_commandItem_16 : decode y_MM_commandItem.2.1 16 = .ok (.invokevirtual 279, 3) := dc9_182 (by decide +kernel)
theorem d_MM_commandItem_19 : decode y_MM_commandItem.2.1 19 = .ok (.invokevirtual 351, 3) := dc9_182 (by decide +kernel)
theorem d_MM_commandItem_22 : decode y_MM_commandItem.2.1 22 = .ok (.return_, 1) := dc9_177 (by decide +kernel)
theorem d_MM_commandItem_37 : decode y_MM_commandItem.2.1 37 = .ok (.invokevirtual 430, 3) := dc9_182 (by decide +kernel)
theorem d_MM_commandItem_40 : decode y_MM_commandItem.2.1 40 = .ok (.istore 4, 2) := dc9_54 (by decide +kernel)
theorem d_MM_commandItem_42 : decode y_MM_commandItem.2.1 42 = .ok (.aload_n 0, 1) := dc9_42 (by decide +kernel)
theorem d_MM_commandItem_43 : decode y_MM_commandItem.2.1 43 = .ok (.getfield 38, 3) := dc9_180 (by decide +kernel)
theorem d_MM_commandItem_46 : decode y_MM_commandItem.2.1 46 = .ok (.getfield 477, 3) := dc9_180 (by decide +kernel)
theorem d_MM_commandItem_49 : decode y_MM_commandItem.2.1 49 = .ok (.iload_n 3, 1) := dc9_29 (by decide +kernel)
theorem d_MM_commandItem_50 : decode y_MM_commandItem.2.1 50 = .ok (.aload_n 0, 1) := dc9_42 (by decide +kernel)
theorem d_MM_commandItem_51 : decode y_MM_commandItem.2.1 51 = .ok (.iload_n 1, 1) := dc9_27 (by decide +kernel)
theorem d_MM_commandItem_52 : decode y_MM_commandItem.2.1 52 = .ok (.invokevirtual 302, 3) := dc9_182 (by decide +kernel)
theorem d_MM_commandItem_55 : decode y_MM_commandItem.2.1 55 = .ok (.bipush 8, 2) := dc9_16 (by decide +kernel)
theorem d_MM_commandItem_57 : decode y_MM_commandItem.2.1 57 = .ok (.if_icmp .ne 7, 3) := dc9_160 (by decide +kernel)
theorem d_MM_commandItem_60 : decode y_MM_commandItem.2.1 60 = .ok (.iconst 1, 1) := dc9_4 (by decide +kernel)
theorem d_MM_commandItem_61 : decode y_MM_commandItem.2.1 61 = .ok (.goto 4, 3) := dc9_167 (by decide +kernel)
theorem d_MM_commandItem_64 : decode y_MM_commandItem.2.1 64 = .ok (.iconst 0, 1) := dc9_3 (by decide +kernel)
theorem d_MM_commandItem_65 : decode y_MM_commandItem.2.1 65 = .ok (.bastore, 1) := dc9_84 (by decide +kernel)
theorem d_MM_commandItem_66 : decode y_MM_commandItem.2.1 66 = .ok (.aload_n 0, 1) := dc9_42 (by decide +kernel)
theorem d_MM_commandItem_67 : decode y_MM_commandItem.2.1 67 = .ok (.getfield 38, 3) := dc9_180 (by decide +kernel)
theorem d_MM_commandItem_70 : decode y_MM_commandItem.2.1 70 = .ok (.getfield 480, 3) := dc9_180 (by decide +kernel)
theorem d_MM_commandItem_73 : decode y_MM_commandItem.2.1 73 = .ok (.iload_n 3, 1) := dc9_29 (by decide +kernel)
theorem d_MM_commandItem_74 : decode y_MM_commandItem.2.1 74 = .ok (.aload_n 0, 1) := dc9_42 (by decide +kernel)
theorem d_MM_commandItem_75 : decode y_MM_commandItem.2.1 75 = .ok (.iload_n 1, 1) := dc9_27 (by decide +kernel)
theorem d_MM_commandItem_76 : decode y_MM_commandItem.2.1 76 = .ok (.invokevirtual 279, 3) := dc9_182 (by decide +kernel)
theorem d_MM_commandItem_79 : decode y_MM_commandItem.2.1 79 = .ok (.iastore, 1) := dc9_79 (by decide +kernel)
theorem d_MM_commandItem_80 : decode y_MM_commandItem.2.1 80 = .ok (.aload_n 0, 1) := dc9_42 (by decide +kernel)
theorem d_MM_commandItem_81 : decode y_MM_commandItem.2.1 81 = .ok (.getfield 38, 3) := dc9_180 (by decide +kernel)
theorem d_MM_commandItem_84 : decode y_MM_commandItem.2.1 84 = .ok (.getfield 483, 3) := dc9_180 (by decide +kernel)
theorem d_MM_commandItem_87 : decode y_MM_commandItem.2.1 87 = .ok (.iload_n 3, 1) := dc9_29 (by decide +kernel)
theorem d_MM_commandItem_88 : decode y_MM_commandItem.2.1 88 = .ok (.aload_n 0, 1) := dc9_42 (by decide +kernel)
theorem d_MM_commandItem_89 : decode y_MM_commandItem.2.1 89 = .ok (.iload_n 1, 1) := dc9_27 (by decide +kernel)
theorem d_MM_commandItem_90 : decode y_MM_commandItem.2.1 90 = .ok (.iconst 1, 1) := dc9_4 (by decide +kernel)
theorem d_MM_commandItem_91 : decode y_MM_commandItem.2.1 91 = .ok (.iadd, 1) := dc9_96 (by decide +kernel)
theorem d_MM_commandItem_92 : decode y_MM_commandItem.2.1 92 = .ok (.iload 4, 2) := dc9_21 (by decide +kernel)
theorem d_MM_commandItem_94 : decode y_MM_commandItem.2.1 94 = .ok (.iconst 1, 1) := dc9_4 (by decide +kernel)
theorem d_MM_commandItem_95 : decode y_MM_commandItem.2.1 95 = .ok (.iconst 0, 1) := dc9_3 (by decide +kernel)
theorem d_MM_commandItem_96 : decode y_MM_commandItem.2.1 96 = .ok (.invokevirtual 441, 3) := dc9_182 (by decide +kernel)
theorem d_MM_commandItem_99 : decode y_MM_commandItem.2.1 99 = .ok (.iastore, 1) := dc9_79 (by decide +kernel)
theorem d_MM_commandItem_100 : decode y_MM_commandItem.2.1 100 = .ok (.aload_n 0, 1) := dc9_42 (by decide +kernel)
theorem d_MM_commandItem_101 : decode y_MM_commandItem.2.1 101 = .ok (.getfield 38, 3) := dc9_180 (by decide +kernel)
theorem d_MM_commandItem_104 : decode y_MM_commandItem.2.1 104 = .ok (.getfield 486, 3) := dc9_180 (by decide +kernel)
theorem d_MM_commandItem_107 : decode y_MM_commandItem.2.1 107 = .ok (.iload_n 3, 1) := dc9_29 (by decide +kernel)
theorem d_MM_commandItem_108 : decode y_MM_commandItem.2.1 108 = .ok (.iconst 0, 1) := dc9_3 (by decide +kernel)
theorem d_MM_commandItem_109 : decode y_MM_commandItem.2.1 109 = .ok (.iastore, 1) := dc9_79 (by decide +kernel)
theorem d_MM_commandItem_110 : decode y_MM_commandItem.2.1 110 = .ok (.iload 4, 2) := dc9_21 (by decide +kernel)
theorem d_MM_commandItem_112 : decode y_MM_commandItem.2.1 112 = .ok (.iconst 1, 1) := dc9_4 (by decide +kernel)
theorem d_MM_commandItem_113 : decode y_MM_commandItem.2.1 113 = .ok (.iadd, 1) := dc9_96 (by decide +kernel)
theorem d_MM_commandItem_114 : decode y_MM_commandItem.2.1 114 = .ok (.istore 5, 2) := dc9_54 (by decide +kernel)
theorem d_MM_commandItem_116 : decode y_MM_commandItem.2.1 116 = .ok (.aload_n 0, 1) := dc9_42 (by decide +kernel)
theorem d_MM_commandItem_117 : decode y_MM_commandItem.2.1 117 = .ok (.getfield 267, 3) := dc9_180 (by decide +kernel)
theorem d_MM_commandItem_120 : decode y_MM_commandItem.2.1 120 = .ok (.ifCond .ne 24, 3) := dc9_154 (by decide +kernel)
theorem d_MM_commandItem_123 : decode y_MM_commandItem.2.1 123 = .ok (.iload 5, 2) := dc9_21 (by decide +kernel)
theorem d_MM_commandItem_125 : decode y_MM_commandItem.2.1 125 = .ok (.iload_n 2, 1) := dc9_28 (by decide +kernel)
theorem d_MM_commandItem_126 : decode y_MM_commandItem.2.1 126 = .ok (.if_icmp .ge 18, 3) := dc9_162 (by decide +kernel)
theorem d_MM_commandItem_129 : decode y_MM_commandItem.2.1 129 = .ok (.aload_n 0, 1) := dc9_42 (by decide +kernel)
theorem d_MM_commandItem_130 : decode y_MM_commandItem.2.1 130 = .ok (.iload_n 3, 1) := dc9_29 (by decide +kernel)
theorem d_MM_commandItem_131 : decode y_MM_commandItem.2.1 131 = .ok (.iload 5, 2) := dc9_21 (by decide +kernel)
theorem d_MM_commandItem_133 : decode y_MM_commandItem.2.1 133 = .ok (.iload_n 2, 1) := dc9_28 (by decide +kernel)
theorem d_MM_commandItem_144 : decode y_MM_commandItem.2.1 144 = .ok (.aload_n 0, 1) := dc9_42 (by decide +kernel)
theorem d_MM_commandItem_145 : decode y_MM_commandItem.2.1 145 = .ok (.getfield 38, 3) := dc9_180 (by decide +kernel)
theorem d_MM_commandItem_148 : decode y_MM_commandItem.2.1 148 = .ok (.iload_n 3, 1) := dc9_29 (by decide +kernel)
theorem d_MM_commandItem_149 : decode y_MM_commandItem.2.1 149 = .ok (.iconst 1, 1) := dc9_4 (by decide +kernel)
theorem d_MM_commandItem_150 : decode y_MM_commandItem.2.1 150 = .ok (.iadd, 1) := dc9_96 (by decide +kernel)
theorem d_MM_commandItem_151 : decode y_MM_commandItem.2.1 151 = .ok (.putfield 474, 3) := dc9_181 (by decide +kernel)
theorem d_MM_commandItem_154 : decode y_MM_commandItem.2.1 154 = .ok (.return_, 1) := dc9_177 (by decide +kernel)
theorem d_MM_commandItem_134 : decode y_MM_commandItem.2.1 134 = .ok (.invokevirtual 489, 3) := dc9_182 (by decide +kernel)
theorem d_MM_commandItem_137 : decode y_MM_commandItem.2.1 137 = .ok (.iconst 1, 1) := dc9_4 (by decide +kernel)
theorem d_MM_commandItem_138 : decode y_MM_commandItem.2.1 138 = .ok (.iadd, 1) := dc9_96 (by decide +kernel)
theorem d_MM_commandItem_139 : decode y_MM_commandItem.2.1 139 = .ok (.istore 5, 2) := dc9_54 (by decide +kernel)
theorem d_MM_commandItem_141 : decode y_MM_commandItem.2.1 141 = .ok (.goto (-25), 3) := dc9_167 (by decide +kernel)
def h_MM_commandItem_116 (G : mG) (d : Nat) (a0 : Nat) (l2 : Int) (l3 : Int) (l5 : Int) (M : mM) (Q : mM → Prop) : Prop := mWm G y_MM_commandItem (d + 1) 116 [vr a0, vd, vi l2, vi l3, vd, vi l5] [] M (fun r9 M9 => r9 = none ∧ Q M9)
theorem k_MM_commandItem {G : mG} {d : Nat} {a0 : Nat} {l1 : Int} {l2 : Int} {M : mM} {Q : mM → Prop} (hO : mOk M) (hi_l1 : i32 l1) (hi_l2 : i32 l2)
    (h : mK M a0 = 14 ∧ mK M (mR M a0 10) = 16 ∧ ((mI M (mR M a0 10) 18 = 60) → (Ci G y_MM_place0 d [vr a0, vi l1] M (fun x6 M5 => i32 x6 ∧ mOk M5 ∧ (mK M5 a0 = 14 ∧ Cv G y_MM_stop d [vr a0, vi 5, vi x6] M5 (fun M9 => mOk M9 ∧ (Q M9)))))) ∧ (¬ (mI M (mR M a0 10) 18 = 60) → (Ci G y_MM_until d [vr a0, vi (l1 + 1), vi 17] M (fun x13 M12 => i32 x13 ∧ mOk M12 ∧ (mK M12 a0 = 14 ∧ mK M12 (mR M12 a0 10) = 16 ∧ Ci G y_MM_word1 d [vr a0, vi l1] M12 (fun x18 M17 => i32 x18 ∧ mOk M17 ∧ (∀ v21 : Int, v21 = (if (x18 = 8) then 1 else 0) → mK M17 (mR M12 (mR M12 a0 10) 19) = 31 ∧ ((0 : Int) ≤ mI M (mR M a0 10) 18 ∧ mI M (mR M a0 10) 18 < (mN M17 (mR M12 (mR M12 a0 10) 19) : Int)) ∧ ∀ M28, M28 = mUI M17 (mR M12 (mR M12 a0 10) 19) (Int.toNat (mI M (mR M a0 10) 18)) v21 → mK M28 a0 = 14 ∧ mK M28 (mR M28 a0 10) = 16 ∧ Ci G y_MM_place0 d [vr a0, vi l1] M28 (fun x33 M32 => i32 x33 ∧ mOk M32 ∧ (mK M32 (mR M28 (mR M28 a0 10) 20) = 30 ∧ ((0 : Int) ≤ mI M (mR M a0 10) 18 ∧ mI M (mR M a0 10) 18 < (mN M32 (mR M28 (mR M28 a0 10) 20) : Int)) ∧ ∀ M37, M37 = mUI M32 (mR M28 (mR M28 a0 10) 20) (Int.toNat (mI M (mR M a0 10) 18)) x33 → mK M37 a0 = 14 ∧ mK M37 (mR M37 a0 10) = 16 ∧ Ci G y_MM_rule1 d [vr a0, vi (l1 + 1), vi x13, vi 1, vi 0] M37 (fun x42 M41 => i32 x42 ∧ mOk M41 ∧ (mK M41 (mR M37 (mR M37 a0 10) 21) = 30 ∧ ((0 : Int) ≤ mI M (mR M a0 10) 18 ∧ mI M (mR M a0 10) 18 < (mN M41 (mR M37 (mR M37 a0 10) 21) : Int)) ∧ ∀ M46, M46 = mUI M41 (mR M37 (mR M37 a0 10) 21) (Int.toNat (mI M (mR M a0 10) 18)) x42 → mK M46 a0 = 14 ∧ mK M46 (mR M46 a0 10) = 16 ∧ mK M46 (mR M46 (mR M46 a0 10) 22) = 30 ∧ ((0 : Int) ≤ mI M (mR M a0 10) 18 ∧ mI M (mR M a0 10) 18 < (mN M46 (mR M46 (mR M46 a0 10) 22) : Int)) ∧ ∀ M52, M52 = mUI M46 (mR M46 (mR M46 a0 10) 22) (Int.toNat (mI M (mR M a0 10) 18)) 0 → h_MM_commandItem_116 G d a0 l2 (mI M (mR M a0 10) 18) (x13 + 1) M52 Q))))))))))) :
    Cv G y_MM_commandItem (d + 1) [vr a0, vi l1, vi l2] M Q := by
  refine wm_open (y := y_MM_commandItem) rfl (Nat.le_of_ble_eq_true rfl) (L := [vr a0, vi l1, vi l2, vd, vd, vd]) rfl ?_
  obtain ⟨h1, h⟩ := h
  obtain ⟨h2, h⟩ := h
  refine wm_aload_n d_MM_commandItem_0 rfl rfl ?_
  refine gf_MM_38 rfl d_MM_commandItem_1 h1 ?_
  refine gf_MM_474 rfl d_MM_commandItem_4 h2 ?_
  refine wm_bipush d_MM_commandItem_7 (by decide) ?_
  refine wm_icmp_ne (tgt := 23) d_MM_commandItem_9 rfl (hO _ _).1 ⟨by decide, by decide⟩ (fun c4 => ?_) (fun c4 => ?_)
  · replace h := h.2 c4
    refine wm_aload_n d_MM_commandItem_23 rfl rfl ?_
    refine gf_MM_38 rfl d_MM_commandItem_24 h1 ?_
    refine gf_MM_474 rfl d_MM_commandItem_27 h2 ?_
    refine wm_istore_n d_MM_commandItem_30 rfl (by decide) (L' := [vr a0, vi l1, vi l2, vi (mI M (mR M a0 10) 18), vd, vd]) rfl ?_
    refine wm_aload_n d_MM_commandItem_31 rfl rfl ?_
    refine wm_iload_n d_MM_commandItem_32 rfl rfl ?_
    refine wm_iconst d_MM_commandItem_33 ?_
    refine wm_iadd d_MM_commandItem_34 ?_
    refine wm_bipush d_MM_commandItem_35 (by decide) ?_
    refine cf_MM_430 rfl d_MM_commandItem_37 h1 (Nat.le_of_ble_eq_true rfl) (Ci.mono h (fun x13 M12 h => ?_))
    obtain ⟨h14, hOM12, h⟩ := h
    obtain ⟨h15, h⟩ := h
    obtain ⟨h16, h⟩ := h
    refine wm_istore d_MM_commandItem_40 (by decide) (L' := [vr a0, vi l1, vi l2, vi (mI M (mR M a0 10) 18), vi x13, vd]) rfl ?_
    refine wm_aload_n d_MM_commandItem_42 rfl rfl ?_
    refine gf_MM_38 rfl d_MM_commandItem_43 h15 ?_
    refine gf_MM_477 rfl d_MM_commandItem_46 h16 ?_
    refine wm_iload_n d_MM_commandItem_49 rfl rfl ?_
    refine wm_aload_n d_MM_commandItem_50 rfl rfl ?_
    refine wm_iload_n d_MM_commandItem_51 rfl rfl ?_
    refine cf_MM_302 rfl d_MM_commandItem_52 h15 (Nat.le_of_ble_eq_true rfl) (Ci.mono h (fun x18 M17 h => ?_))
    obtain ⟨h19, hOM17, h⟩ := h
    refine wm_bipush d_MM_commandItem_55 (by decide) ?_
    have hJ : ∀ v21 : Int, v21 = (if (x18 = 8) then 1 else 0) → mWm G y_MM_commandItem (d + 1) 65 [vr a0, vi l1, vi l2, vi (mI M (mR M a0 10) 18), vi x13, vd] [vi v21, vi (mI M (mR M a0 10) 18), vr (mR M12 (mR M12 a0 10) 19)] M17 (fun r9 M9 => r9 = none ∧ Q M9) := by
      intro v21 e23
      have h := h v21 e23
      have h24 : i32 v21 := by rw [e23]; (repeat' split) <;> first | exact ⟨by decide, by decide⟩ | exact ⟨by decide, by decide⟩
      have h25 : (v21 = 0 ∨ v21 = 1) := by rw [e23]; (repeat' split) <;> decide
      obtain ⟨h26, h⟩ := h
      obtain ⟨h27, h⟩ := h
      obtain ⟨M28, e29⟩ : ∃ M28, M28 = mUI M17 (mR M12 (mR M12 a0 10) 19) (Int.toNat (mI M (mR M a0 10) 18)) v21 := ⟨_, rfl⟩
      replace h := h M28 e29
      obtain ⟨h30, h⟩ := h
      obtain ⟨h31, h⟩ := h
      have hOM28 : mOk M28 := by rw [e29]; exact mOk_UI hOM17 (m_b32 h25)
      refine wm_zastE d_MM_commandItem_65 h26 h27 h25 e29 ?_
      refine wm_aload_n d_MM_commandItem_66 rfl rfl ?_
      refine gf_MM_38 rfl d_MM_commandItem_67 h30 ?_
      refine gf_MM_480 rfl d_MM_commandItem_70 h31 ?_
      refine wm_iload_n d_MM_commandItem_73 rfl rfl ?_
      refine wm_aload_n d_MM_commandItem_74 rfl rfl ?_
      refine wm_iload_n d_MM_commandItem_75 rfl rfl ?_
      refine cf_MM_279 rfl d_MM_commandItem_76 h30 (Nat.le_of_ble_eq_true rfl) (Ci.mono h (fun x33 M32 h => ?_))
      obtain ⟨h34, hOM32, h⟩ := h
      obtain ⟨h35, h⟩ := h
      obtain ⟨h36, h⟩ := h
      obtain ⟨M37, e38⟩ : ∃ M37, M37 = mUI M32 (mR M28 (mR M28 a0 10) 20) (Int.toNat (mI M (mR M a0 10) 18)) x33 := ⟨_, rfl⟩
      replace h := h M37 e38
      obtain ⟨h39, h⟩ := h
      obtain ⟨h40, h⟩ := h
      have hOM37 : mOk M37 := by rw [e38]; exact mOk_UI hOM32 h34
      refine wm_iastE d_MM_commandItem_79 h35 h36 h34 e38 ?_
      refine wm_aload_n d_MM_commandItem_80 rfl rfl ?_
      refine gf_MM_38 rfl d_MM_commandItem_81 h39 ?_
      refine gf_MM_483 rfl d_MM_commandItem_84 h40 ?_
      refine wm_iload_n d_MM_commandItem_87 rfl rfl ?_
      refine wm_aload_n d_MM_commandItem_88 rfl rfl ?_
      refine wm_iload_n d_MM_commandItem_89 rfl rfl ?_
      refine wm_iconst d_MM_commandItem_90 ?_
      refine wm_iadd d_MM_commandItem_91 ?_
      refine wm_iload d_MM_commandItem_92 rfl ?_
      refine wm_iconst d_MM_commandItem_94 ?_
      refine wm_iconst d_MM_commandItem_95 ?_
      refine cf_MM_441 rfl d_MM_commandItem_96 h39 (Nat.le_of_ble_eq_true rfl) (Ci.mono h (fun x42 M41 h => ?_))
      obtain ⟨h43, hOM41, h⟩ := h
      obtain ⟨h44, h⟩ := h
      obtain ⟨h45, h⟩ := h
      obtain ⟨M46, e47⟩ : ∃ M46, M46 = mUI M41 (mR M37 (mR M37 a0 10) 21) (Int.toNat (mI M (mR M a0 10) 18)) x42 := ⟨_, rfl⟩
      replace h := h M46 e47
      obtain ⟨h48, h⟩ := h
      obtain ⟨h49, h⟩ := h
      obtain ⟨h50, h⟩ := h
      obtain ⟨h51, h⟩ := h
      obtain ⟨M52, e53⟩ : ∃ M52, M52 = mUI M46 (mR M46 (mR M46 a0 10) 22) (Int.toNat (mI M (mR M a0 10) 18)) 0 := ⟨_, rfl⟩
      replace h := h M52 e53
      have hOM46 : mOk M46 := by rw [e47]; exact mOk_UI hOM41 h43
      refine wm_iastE d_MM_commandItem_99 h44 h45 h43 e47 ?_
      refine wm_aload_n d_MM_commandItem_100 rfl rfl ?_
      refine gf_MM_38 rfl d_MM_commandItem_101 h48 ?_
      refine gf_MM_486 rfl d_MM_commandItem_104 h49 ?_
      refine wm_iload_n d_MM_commandItem_107 rfl rfl ?_
      refine wm_iconst d_MM_commandItem_108 ?_
      have hOM52 : mOk M52 := by rw [e53]; exact mOk_UI hOM46 ⟨by decide, by decide⟩
      refine wm_iastE d_MM_commandItem_109 h50 h51 ⟨by decide, by decide⟩ e53 ?_
      refine wm_iload d_MM_commandItem_110 rfl ?_
      refine wm_iconst d_MM_commandItem_112 ?_
      refine wm_iadd d_MM_commandItem_113 ?_
      refine wm_istore d_MM_commandItem_114 (by decide) (L' := [vr a0, vi l1, vi l2, vi (mI M (mR M a0 10) 18), vi x13, vi (x13 + 1)]) rfl ?_
      refine wm_less (L' := [vr a0, vd, vi l2, vi (mI M (mR M a0 10) 18), vd, vi (x13 + 1)]) ⟨Or.inr rfl, Or.inl rfl, Or.inr rfl, Or.inr rfl, Or.inl rfl, Or.inr rfl, trivial⟩ ?_
      exact h
    clear h
    refine wm_icmp_ne (tgt := 64) d_MM_commandItem_57 rfl h19 ⟨by decide, by decide⟩ (fun c20 => ?_) (fun c20 => ?_)
    · refine wm_iconst d_MM_commandItem_64 ?_
      exact hJ 0 (if_neg c20).symm
    · replace c20 := Classical.not_not.mp c20
      refine wm_iconst d_MM_commandItem_60 ?_
      refine wm_goto (tgt := 65) d_MM_commandItem_61 rfl ?_
      exact hJ 1 (if_pos c20).symm
  · replace c4 := Classical.not_not.mp c4
    replace h := h.1 c4
    refine wm_aload_n d_MM_commandItem_12 rfl rfl ?_
    refine wm_iconst d_MM_commandItem_13 ?_
    refine wm_aload_n d_MM_commandItem_14 rfl rfl ?_
    refine wm_iload_n d_MM_commandItem_15 rfl rfl ?_
    refine cf_MM_279 rfl d_MM_commandItem_16 h1 (Nat.le_of_ble_eq_true rfl) (Ci.mono h (fun x6 M5 h => ?_))
    obtain ⟨h7, hOM5, h⟩ := h
    obtain ⟨h8, h⟩ := h
    refine cf_MM_351 rfl d_MM_commandItem_19 h8 (Nat.le_of_ble_eq_true rfl) (Cv.mono h (fun M9 h => ?_))
    obtain ⟨hOM9, h⟩ := h
    refine wm_return d_MM_commandItem_22 rfl ?_
    exact ⟨rfl, h⟩
theorem k_MM_commandItem_116 {G : mG} {d : Nat} {a0 : Nat} {l2 : Int} {l3 : Int} {l5 : Int} {M : mM} {Q : mM → Prop} (hO : mOk M) (hi_l2 : i32 l2) (hi_l3 : i32 l3) (hi_l5 : i32 l5)
    (h : mK M a0 = 14 ∧ (((¬ (mI M a0 16 = 0)) ∨ (l2 ≤ l5)) → (mK M (mR M a0 10) = 16 ∧ i32 (l3 + 1) ∧ ∀ M62, M62 = mUI M (mR M a0 10) 18 (l3 + 1) → Q M62)) ∧ (¬ ((¬ (mI M a0 16 = 0)) ∨ (l2 ≤ l5)) → (Ci G y_MM_branch0 d [vr a0, vi l3, vi l5, vi l2] M (fun x66 M65 => i32 x66 ∧ mOk M65 ∧ (h_MM_commandItem_116 G d a0 l2 l3 (x66 + 1) M65 Q))))) :
    h_MM_commandItem_116 G d a0 l2 l3 l5 M Q := by
  unfold h_MM_commandItem_116
  obtain ⟨h55, h⟩ := h
  refine wm_aload_n d_MM_commandItem_116 rfl rfl ?_
  refine gf_MM_267 rfl d_MM_commandItem_117 h55 ?_
  have hE0 : ((¬ (mI M a0 16 = 0)) ∨ (l2 ≤ l5)) → mWm G y_MM_commandItem (d + 1) 144 [vr a0, vd, vi l2, vi l3, vd, vi l5] [] M (fun r9 M9 => r9 = none ∧ Q M9) := by
    intro q59
    have h := h.1 q59
    obtain ⟨h60, h⟩ := h
    obtain ⟨h61, h⟩ := h
    obtain ⟨M62, e63⟩ : ∃ M62, M62 = mUI M (mR M a0 10) 18 (l3 + 1) := ⟨_, rfl⟩
    replace h := h M62 e63
    refine wm_aload_n d_MM_commandItem_144 rfl rfl ?_
    refine gf_MM_38 rfl d_MM_commandItem_145 h55 ?_
    refine wm_iload_n d_MM_commandItem_148 rfl rfl ?_
    refine wm_iconst d_MM_commandItem_149 ?_
    refine wm_iadd d_MM_commandItem_150 ?_
    have hOM62 : mOk M62 := by rw [e63]; exact mOk_UI hO h61
    refine pf_MM_474 rfl d_MM_commandItem_151 h60 h61 e63 ?_
    refine wm_return d_MM_commandItem_154 rfl ?_
    exact ⟨rfl, h⟩
  have hE1 : ¬ ((¬ (mI M a0 16 = 0)) ∨ (l2 ≤ l5)) → mWm G y_MM_commandItem (d + 1) 129 [vr a0, vd, vi l2, vi l3, vd, vi l5] [] M (fun r9 M9 => r9 = none ∧ Q M9) := by
    intro q64
    have h := h.2 q64
    refine wm_aload_n d_MM_commandItem_129 rfl rfl ?_
    refine wm_iload_n d_MM_commandItem_130 rfl rfl ?_
    refine wm_iload d_MM_commandItem_131 rfl ?_
    refine wm_iload_n d_MM_commandItem_133 rfl rfl ?_
    refine cf_MM_489 rfl d_MM_commandItem_134 h55 (Nat.le_of_ble_eq_true rfl) (Ci.mono h (fun x66 M65 h => ?_))
    obtain ⟨h67, hOM65, h⟩ := h
    refine wm_iconst d_MM_commandItem_137 ?_
    refine wm_iadd d_MM_commandItem_138 ?_
    refine wm_istore d_MM_commandItem_139 (by decide) (L' := [vr a0, vd, vi l2, vi l3, vd, vi (x66 + 1)]) rfl ?_
    refine wm_goto (tgt := 116) d_MM_commandItem_141 rfl ?_
    exact h
  clear h
  refine wm_if_ne (tgt := 144) d_MM_commandItem_120 rfl (hO _ _).1 (fun c57 => ?_) (fun c57 => ?_)
  · exact hE0 (Or.inl c57)
  · replace c57 := Classical.not_not.mp c57
    refine wm_iload d_MM_commandItem_123 rfl ?_
    refine wm_iload_n d_MM_commandItem_125 rfl rfl ?_
    refine wm_icmp_ge (tgt := 144) d_MM_commandItem_126 rfl hi_l5 hi_l2 (fun c56 => ?_) (fun c56 => ?_)
    · exact hE0 (Or.inr c56)
    · exact hE1 (fun z68 => Or.elim z68 (fun w => w c57) c56)
theorem d_MM_branch0_0 : decode y_MM_branch0.2.1 0 = .ok (.aload_n 0, 1) := dc9_42 (by decide +kernel)
theorem d_MM_branch0_1 : decode y_MM_branch0.2.1 1 = .ok (.getfield 38, 3) := dc9_180 (by decide +kernel)
theorem d_MM_branch0_4 : decode y_MM_branch0.2.1 4 = .ok (.getfield 486, 3) := dc9_180 (by decide +kernel)
theorem d_MM_branch0_7 : decode y_MM_branch0.2.1 7 = .ok (.iload_n 1, 1) := dc9_27 (by decide +kernel)
theorem d_MM_branch0_8 : decode y_MM_branch0.2.1 8 = .ok (.iaload, 1) := dc9_46 (by decide +kernel)
theorem d_MM_branch0_9 : decode y_MM_branch0.2.1 9 = .ok (.istore 4, 2) := dc9_54 (by decide +kernel)
theorem d_MM_branch0_11 : decode y_MM_branch0.2.1 11 = .ok (.iload 4, 2) := dc9_21 (by decide +kernel)
theorem d_MM_branch0_13 : decode y_MM_branch0.2.1 13 = .ok (.bipush 8, 2) := dc9_16 (by decide +kernel)
theorem d_MM_branch0_15 : decode y_MM_branch0.2.1 15 = .ok (.if_icmp .ne 15, 3) := dc9_160 (by decide +kernel)
theorem d_MM_branch0_18 : decode y_MM_branch0.2.1 18 = .ok (.aload_n 0, 1) := dc9_42 (by decide +kernel)
theorem d_MM_branch0_19 : decode y_MM_branch0.2.1 19 = .ok (.iconst 5, 1) := dc9_8 (by decide +kernel)
theorem d_MM_branch0_20 : decode y_MM_branch0.2.1 20 = .ok (.aload_n 0, 1) := dc9_42 (by decide +kernel)
theorem d_MM_branch0_21 : decode y_MM_branch0.2.1 21 = .ok (.iload_n 2, 1) := dc9_28 (by decide +kernel)
theorem d_MM_branch0_30 : decode y_MM_branch0.2.1 30 = .ok (.aload_n 0, 1) := dc9_42 (by decide +kernel)
theorem d_MM_branch0_31 : decode y_MM_branch0.2.1 31 = .ok (.iload_n 2, 1) := dc9_28 (by decide +kernel)
theorem d_MM_branch0_32 : decode y_MM_branch0.2.1 32 = .ok (.bipush 33, 2) := dc9_16 (by decide +kernel)
theorem d_MM_branch0_22 : decode y_MM_branch0.2.1 22 = .ok (.invokevirtual 279, 3) := dc9_182 (by decide +kernel)
theorem d_MM_branch0_25 : decode y_MM_branch0.2.1 25 = .ok (.invokevirtual 351, 3) := dc9_182 (by decide +kernel)
theorem d_MM_branch0_28 : decode y_MM_branch0.2.1 28 = .ok (.iload_n 3, 1) := dc9_29 (by decide +kernel)
theorem d_MM_branch0_29 : decode y_MM_branch0.2.1 29 = .ok (.ireturn, 1) := dc9_172 (by decide +kernel)
theorem d_MM_branch0_34 : decode y_MM_branch0.2.1 34 = .ok (.invokevirtual 430, 3) := dc9_182 (by decide +kernel)
theorem d_MM_branch0_37 : decode y_MM_branch0.2.1 37 = .ok (.istore 5, 2) := dc9_54 (by decide +kernel)
theorem d_MM_branch0_39 : decode y_MM_branch0.2.1 39 = .ok (.bipush 8, 2) := dc9_16 (by decide +kernel)
theorem d_MM_branch0_41 : decode y_MM_branch0.2.1 41 = .ok (.iload_n 1, 1) := dc9_27 (by decide +kernel)
theorem d_MM_branch0_42 : decode y_MM_branch0.2.1 42 = .ok (.imul, 1) := dc9_104 (by decide +kernel)
theorem d_MM_branch0_43 : decode y_MM_branch0.2.1 43 = .ok (.iload 4, 2) := dc9_21 (by decide +kernel)
theorem d_MM_branch0_45 : decode y_MM_branch0.2.1 45 = .ok (.iadd, 1) := dc9_96 (by decide +kernel)
theorem d_MM_branch0_46 : decode y_MM_branch0.2.1 46 = .ok (.istore 6, 2) := dc9_54 (by decide +kernel)
theorem d_MM_branch0_48 : decode y_MM_branch0.2.1 48 = .ok (.aload_n 0, 1) := dc9_42 (by decide +kernel)
theorem d_MM_branch0_49 : decode y_MM_branch0.2.1 49 = .ok (.getfield 38, 3) := dc9_180 (by decide +kernel)
theorem d_MM_branch0_52 : decode y_MM_branch0.2.1 52 = .ok (.getfield 492, 3) := dc9_180 (by decide +kernel)
theorem d_MM_branch0_55 : decode y_MM_branch0.2.1 55 = .ok (.iload 6, 2) := dc9_21 (by decide +kernel)
theorem d_MM_branch0_57 : decode y_MM_branch0.2.1 57 = .ok (.aload_n 0, 1) := dc9_42 (by decide +kernel)
theorem d_MM_branch0_58 : decode y_MM_branch0.2.1 58 = .ok (.iload_n 2, 1) := dc9_28 (by decide +kernel)
theorem d_MM_branch0_59 : decode y_MM_branch0.2.1 59 = .ok (.iload 5, 2) := dc9_21 (by decide +kernel)
theorem d_MM_branch0_61 : decode y_MM_branch0.2.1 61 = .ok (.iconst 0, 1) := dc9_3 (by decide +kernel)
theorem d_MM_branch0_62 : decode y_MM_branch0.2.1 62 = .ok (.iconst 0, 1) := dc9_3 (by decide +kernel)
theorem d_MM_branch0_63 : decode y_MM_branch0.2.1 63 = .ok (.invokevirtual 441, 3) := dc9_182 (by decide +kernel)
theorem d_MM_branch0_66 : decode y_MM_branch0.2.1 66 = .ok (.iastore, 1) := dc9_79 (by decide +kernel)
theorem d_MM_branch0_67 : decode y_MM_branch0.2.1 67 = .ok (.aload_n 0, 1) := dc9_42 (by decide +kernel)
theorem d_MM_branch0_68 : decode y_MM_branch0.2.1 68 = .ok (.getfield 38, 3) := dc9_180 (by decide +kernel)
theorem d_MM_branch0_71 : decode y_MM_branch0.2.1 71 = .ok (.getfield 495, 3) := dc9_180 (by decide +kernel)
theorem d_MM_branch0_74 : decode y_MM_branch0.2.1 74 = .ok (.iload 6, 2) := dc9_21 (by decide +kernel)
theorem d_MM_branch0_76 : decode y_MM_branch0.2.1 76 = .ok (.aload_n 0, 1) := dc9_42 (by decide +kernel)
theorem d_MM_branch0_77 : decode y_MM_branch0.2.1 77 = .ok (.iload_n 2, 1) := dc9_28 (by decide +kernel)
theorem d_MM_branch0_78 : decode y_MM_branch0.2.1 78 = .ok (.invokevirtual 279, 3) := dc9_182 (by decide +kernel)
theorem d_MM_branch0_81 : decode y_MM_branch0.2.1 81 = .ok (.iastore, 1) := dc9_79 (by decide +kernel)
theorem d_MM_branch0_82 : decode y_MM_branch0.2.1 82 = .ok (.aload_n 0, 1) := dc9_42 (by decide +kernel)
theorem d_MM_branch0_83 : decode y_MM_branch0.2.1 83 = .ok (.getfield 38, 3) := dc9_180 (by decide +kernel)
theorem d_MM_branch0_86 : decode y_MM_branch0.2.1 86 = .ok (.getfield 498, 3) := dc9_180 (by decide +kernel)
theorem d_MM_branch0_89 : decode y_MM_branch0.2.1 89 = .ok (.iload 6, 2) := dc9_21 (by decide +kernel)
theorem d_MM_branch0_91 : decode y_MM_branch0.2.1 91 = .ok (.aload_n 0, 1) := dc9_42 (by decide +kernel)
theorem d_MM_branch0_92 : decode y_MM_branch0.2.1 92 = .ok (.getfield 38, 3) := dc9_180 (by decide +kernel)
theorem d_MM_branch0_95 : decode y_MM_branch0.2.1 95 = .ok (.getfield 501, 3) := dc9_180 (by decide +kernel)
theorem d_MM_branch0_98 : decode y_MM_branch0.2.1 98 = .ok (.getfield 145, 3) := dc9_180 (by decide +kernel)
theorem d_MM_branch0_101 : decode y_MM_branch0.2.1 101 = .ok (.iastore, 1) := dc9_79 (by decide +kernel)
theorem d_MM_branch0_102 : decode y_MM_branch0.2.1 102 = .ok (.iload 5, 2) := dc9_21 (by decide +kernel)
theorem d_MM_branch0_104 : decode y_MM_branch0.2.1 104 = .ok (.iconst 1, 1) := dc9_4 (by decide +kernel)
theorem d_MM_branch0_105 : decode y_MM_branch0.2.1 105 = .ok (.iadd, 1) := dc9_96 (by decide +kernel)
theorem d_MM_branch0_106 : decode y_MM_branch0.2.1 106 = .ok (.istore 7, 2) := dc9_54 (by decide +kernel)
theorem d_MM_branch0_108 : decode y_MM_branch0.2.1 108 = .ok (.aload_n 0, 1) := dc9_42 (by decide +kernel)
theorem d_MM_branch0_109 : decode y_MM_branch0.2.1 109 = .ok (.iload 7, 2) := dc9_21 (by decide +kernel)
theorem d_MM_branch0_111 : decode y_MM_branch0.2.1 111 = .ok (.invokevirtual 302, 3) := dc9_182 (by decide +kernel)
theorem d_MM_branch0_114 : decode y_MM_branch0.2.1 114 = .ok (.bipush 10, 2) := dc9_16 (by decide +kernel)
theorem d_MM_branch0_116 : decode y_MM_branch0.2.1 116 = .ok (.if_icmp .ne 9, 3) := dc9_160 (by decide +kernel)
theorem d_MM_branch0_119 : decode y_MM_branch0.2.1 119 = .ok (.iinc 7 1, 3) := by decide +kernel
theorem d_MM_branch0_122 : decode y_MM_branch0.2.1 122 = .ok (.goto 73, 3) := dc9_167 (by decide +kernel)
theorem d_MM_branch0_195 : decode y_MM_branch0.2.1 195 = .ok (.aload_n 0, 1) := dc9_42 (by decide +kernel)
theorem d_MM_branch0_196 : decode y_MM_branch0.2.1 196 = .ok (.getfield 38, 3) := dc9_180 (by decide +kernel)
theorem d_MM_branch0_199 : decode y_MM_branch0.2.1 199 = .ok (.getfield 507, 3) := dc9_180 (by decide +kernel)
theorem d_MM_branch0_202 : decode y_MM_branch0.2.1 202 = .ok (.iload 6, 2) := dc9_21 (by decide +kernel)
theorem d_MM_branch0_204 : decode y_MM_branch0.2.1 204 = .ok (.aload_n 0, 1) := dc9_42 (by decide +kernel)
theorem d_MM_branch0_205 : decode y_MM_branch0.2.1 205 = .ok (.getfield 38, 3) := dc9_180 (by decide +kernel)
theorem d_MM_branch0_208 : decode y_MM_branch0.2.1 208 = .ok (.getfield 501, 3) := dc9_180 (by decide +kernel)
theorem d_MM_branch0_211 : decode y_MM_branch0.2.1 211 = .ok (.getfield 145, 3) := dc9_180 (by decide +kernel)
theorem d_MM_branch0_214 : decode y_MM_branch0.2.1 214 = .ok (.aload_n 0, 1) := dc9_42 (by decide +kernel)
theorem d_MM_branch0_215 : decode y_MM_branch0.2.1 215 = .ok (.getfield 38, 3) := dc9_180 (by decide +kernel)
theorem d_MM_branch0_218 : decode y_MM_branch0.2.1 218 = .ok (.getfield 498, 3) := dc9_180 (by decide +kernel)
theorem d_MM_branch0_221 : decode y_MM_branch0.2.1 221 = .ok (.iload 6, 2) := dc9_21 (by decide +kernel)
theorem d_MM_branch0_223 : decode y_MM_branch0.2.1 223 = .ok (.iaload, 1) := dc9_46 (by decide +kernel)
theorem d_MM_branch0_224 : decode y_MM_branch0.2.1 224 = .ok (.isub, 1) := dc9_100 (by decide +kernel)
theorem d_MM_branch0_225 : decode y_MM_branch0.2.1 225 = .ok (.iastore, 1) := dc9_79 (by decide +kernel)
theorem d_MM_branch0_226 : decode y_MM_branch0.2.1 226 = .ok (.aload_n 0, 1) := dc9_42 (by decide +kernel)
theorem d_MM_branch0_227 : decode y_MM_branch0.2.1 227 = .ok (.getfield 38, 3) := dc9_180 (by decide +kernel)
theorem d_MM_branch0_230 : decode y_MM_branch0.2.1 230 = .ok (.getfield 486, 3) := dc9_180 (by decide +kernel)
theorem d_MM_branch0_233 : decode y_MM_branch0.2.1 233 = .ok (.iload_n 1, 1) := dc9_27 (by decide +kernel)
theorem d_MM_branch0_234 : decode y_MM_branch0.2.1 234 = .ok (.iload 4, 2) := dc9_21 (by decide +kernel)
theorem d_MM_branch0_236 : decode y_MM_branch0.2.1 236 = .ok (.iconst 1, 1) := dc9_4 (by decide +kernel)
theorem d_MM_branch0_237 : decode y_MM_branch0.2.1 237 = .ok (.iadd, 1) := dc9_96 (by decide +kernel)
theorem d_MM_branch0_238 : decode y_MM_branch0.2.1 238 = .ok (.iastore, 1) := dc9_79 (by decide +kernel)
theorem d_MM_branch0_125 : decode y_MM_branch0.2.1 125 = .ok (.iconst 1, 1) := dc9_4 (by decide +kernel)
theorem d_MM_branch0_126 : decode y_MM_branch0.2.1 126 = .ok (.istore 8, 2) := dc9_54 (by decide +kernel)
theorem d_MM_branch0_239 : decode y_MM_branch0.2.1 239 = .ok (.iload 7, 2) := dc9_21 (by decide +kernel)
theorem d_MM_branch0_241 : decode y_MM_branch0.2.1 241 = .ok (.ireturn, 1) := dc9_172 (by decide +kernel)
theorem d_MM_branch0_128 : decode y_MM_branch0.2.1 128 = .ok (.iload 8, 2) := dc9_21 (by decide +kernel)
theorem d_MM_branch0_130 : decode y_MM_branch0.2.1 130 = .ok (.ifCond .eq 65, 3) := dc9_153 (by decide +kernel)
theorem d_MM_branch0_133 : decode y_MM_branch0.2.1 133 = .ok (.aload_n 0, 1) := dc9_42 (by decide +kernel)
theorem d_MM_branch0_134 : decode y_MM_branch0.2.1 134 = .ok (.getfield 267, 3) := dc9_180 (by decide +kernel)
theorem d_MM_branch0_137 : decode y_MM_branch0.2.1 137 = .ok (.ifCond .ne 58, 3) := dc9_154 (by decide +kernel)
theorem d_MM_branch0_140 : decode y_MM_branch0.2.1 140 = .ok (.aload_n 0, 1) := dc9_42 (by decide +kernel)
theorem d_MM_branch0_141 : decode y_MM_branch0.2.1 141 = .ok (.iload 7, 2) := dc9_21 (by decide +kernel)
theorem d_MM_branch0_143 : decode y_MM_branch0.2.1 143 = .ok (.aload_n 0, 1) := dc9_42 (by decide +kernel)
theorem d_MM_branch0_144 : decode y_MM_branch0.2.1 144 = .ok (.getfield 38, 3) := dc9_180 (by decide +kernel)
theorem d_MM_branch0_147 : decode y_MM_branch0.2.1 147 = .ok (.getfield 498, 3) := dc9_180 (by decide +kernel)
theorem d_MM_branch0_150 : decode y_MM_branch0.2.1 150 = .ok (.iload 6, 2) := dc9_21 (by decide +kernel)
theorem d_MM_branch0_152 : decode y_MM_branch0.2.1 152 = .ok (.iaload, 1) := dc9_46 (by decide +kernel)
theorem d_MM_branch0_153 : decode y_MM_branch0.2.1 153 = .ok (.invokevirtual 504, 3) := dc9_182 (by decide +kernel)
theorem d_MM_branch0_156 : decode y_MM_branch0.2.1 156 = .ok (.istore 7, 2) := dc9_54 (by decide +kernel)
theorem d_MM_branch0_158 : decode y_MM_branch0.2.1 158 = .ok (.aload_n 0, 1) := dc9_42 (by decide +kernel)
theorem d_MM_branch0_159 : decode y_MM_branch0.2.1 159 = .ok (.iload 7, 2) := dc9_21 (by decide +kernel)
theorem d_MM_branch0_161 : decode y_MM_branch0.2.1 161 = .ok (.invokevirtual 302, 3) := dc9_182 (by decide +kernel)
theorem d_MM_branch0_164 : decode y_MM_branch0.2.1 164 = .ok (.bipush 29, 2) := dc9_16 (by decide +kernel)
theorem d_MM_branch0_166 : decode y_MM_branch0.2.1 166 = .ok (.if_icmp .ne 7, 3) := dc9_160 (by decide +kernel)
theorem d_MM_branch0_169 : decode y_MM_branch0.2.1 169 = .ok (.iconst 1, 1) := dc9_4 (by decide +kernel)
theorem d_MM_branch0_170 : decode y_MM_branch0.2.1 170 = .ok (.goto 4, 3) := dc9_167 (by decide +kernel)
theorem d_MM_branch0_173 : decode y_MM_branch0.2.1 173 = .ok (.iconst 0, 1) := dc9_3 (by decide +kernel)
theorem d_MM_branch0_174 : decode y_MM_branch0.2.1 174 = .ok (.istore 8, 2) := dc9_54 (by decide +kernel)
theorem d_MM_branch0_176 : decode y_MM_branch0.2.1 176 = .ok (.iload 8, 2) := dc9_21 (by decide +kernel)
theorem d_MM_branch0_178 : decode y_MM_branch0.2.1 178 = .ok (.ifCond .eq 10, 3) := dc9_153 (by decide +kernel)
theorem d_MM_branch0_188 : decode y_MM_branch0.2.1 188 = .ok (.iload 7, 2) := dc9_21 (by decide +kernel)
theorem d_MM_branch0_181 : decode y_MM_branch0.2.1 181 = .ok (.iload 7, 2) := dc9_21 (by decide +kernel)
theorem d_MM_branch0_183 : decode y_MM_branch0.2.1 183 = .ok (.iconst 1, 1) := dc9_4 (by decide +kernel)
theorem d_MM_branch0_184 : decode y_MM_branch0.2.1 184 = .ok (.iadd, 1) := dc9_96 (by decide +kernel)
theorem d_MM_branch0_185 : decode y_MM_branch0.2.1 185 = .ok (.goto 5, 3) := dc9_167 (by decide +kernel)
theorem d_MM_branch0_190 : decode y_MM_branch0.2.1 190 = .ok (.istore 7, 2) := dc9_54 (by decide +kernel)
theorem d_MM_branch0_192 : decode y_MM_branch0.2.1 192 = .ok (.goto (-64), 3) := dc9_167 (by decide +kernel)
def h_MM_branch0_128 (G : mG) (d : Nat) (a0 : Nat) (l1 : Int) (l4 : Int) (l6 : Int) (l7 : Int) (l8 : Int) (M : mM) (Q : Int → mM → Prop) : Prop := mWm G y_MM_branch0 (d + 1) 128 [vr a0, vi l1, vd, vd, vi l4, vd, vi l6, vi l7, vi l8] [] M (fun r9 M9 => ∃ x9, r9 = some (vi x9) ∧ Q x9 M9)
theorem k_MM_branch0 {G : mG} {d : Nat} {a0 : Nat} {l1 : Int} {l2 : Int} {l3 : Int} {M : mM} {Q : Int → mM → Prop} (hO : mOk M) (hi_l1 : i32 l1) (hi_l2 : i32 l2) (hi_l3 : i32 l3)
    (h : mK M a0 = 14 ∧ mK M (mR M a0 10) = 16 ∧ mK M (mR M (mR M a0 10) 22) = 30 ∧ ((0 : Int) ≤ l1 ∧ l1 < (mN M (mR M (mR M a0 10) 22) : Int)) ∧ ((mI M (mR M (mR M a0 10) 22) (Int.toNat l1) = 8) → (Ci G y_MM_place0 d [vr a0, vi l2] M (fun x8 M7 => i32 x8 ∧ mOk M7 ∧ (mK M7 a0 = 14 ∧ Cv G y_MM_stop d [vr a0, vi 5, vi x8] M7 (fun M11 => mOk M11 ∧ (Q l3 M11)))))) ∧ (¬ (mI M (mR M (mR M a0 10) 22) (Int.toNat l1) = 8) → (Ci G y_MM_until d [vr a0, vi l2, vi 33] M (fun x15 M14 => i32 x15 ∧ mOk M14 ∧ (mK M14 a0 = 14 ∧ mK M14 (mR M14 a0 10) = 16 ∧ Ci G y_MM_rule1 d [vr a0, vi l2, vi x15, vi 0, vi 0] M14 (fun x20 M19 => i32 x20 ∧ mOk M19 ∧ (mK M19 (mR M14 (mR M14 a0 10) 23) = 30 ∧ ((0 : Int) ≤ (8 * l1) + (mI M (mR M (mR M a0 10) 22) (Int.toNat l1)) ∧ (8 * l1) + (mI M (mR M (mR M a0 10) 22) (Int.toNat l1)) < (mN M19 (mR M14 (mR M14 a0 10) 23) : Int)) ∧ ∀ M24, M24 = mUI M19 (mR M14 (mR M14 a0 10) 23) (Int.toNat ((8 * l1) + (mI M (mR M (mR M a0 10) 22) (Int.toNat l1)))) x20 → mK M24 a0 = 14 ∧ mK M24 (mR M24 a0 10) = 16 ∧ Ci G y_MM_place0 d [vr a0, vi l2] M24 (fun x29 M28 => i32 x29 ∧ mOk M28 ∧ (mK M28 (mR M24 (mR M24 a0 10) 24) = 30 ∧ ((0 : Int) ≤ (8 * l1) + (mI M (mR M (mR M a0 10) 22) (Int.toNat l1)) ∧ (8 * l1) + (mI M (mR M (mR M a0 10) 22) (Int.toNat l1)) < (mN M28 (mR M24 (mR M24 a0 10) 24) : Int)) ∧ ∀ M33, M33 = mUI M28 (mR M24 (mR M24 a0 10) 24) (Int.toNat ((8 * l1) + (mI M (mR M (mR M a0 10) 22) (Int.toNat l1)))) x29 → mK M33 a0 = 14 ∧ mK M33 (mR M33 a0 10) = 16 ∧ mK M33 (mR M33 (mR M33 a0 10) 27) = 15 ∧ mK M33 (mR M33 (mR M33 a0 10) 25) = 30 ∧ ((0 : Int) ≤ (8 * l1) + (mI M (mR M (mR M a0 10) 22) (Int.toNat l1)) ∧ (8 * l1) + (mI M (mR M (mR M a0 10) 22) (Int.toNat l1)) < (mN M33 (mR M33 (mR M33 a0 10) 25) : Int)) ∧ ∀ M40, M40 = mUI M33 (mR M33 (mR M33 a0 10) 25) (Int.toNat ((8 * l1) + (mI M (mR M (mR M a0 10) 22) (Int.toNat l1)))) (mI M33 (mR M33 (mR M33 a0 10) 27) 1) → Ci G y_MM_word1 d [vr a0, vi (x15 + 1)] M40 (fun x43 M42 => i32 x43 ∧ mOk M42 ∧ (((x43 = 10) → (mK M42 a0 = 14 ∧ mK M42 (mR M42 a0 10) = 16 ∧ mK M42 (mR M42 (mR M42 a0 10) 27) = 15 ∧ mK M42 (mR M42 (mR M42 a0 10) 25) = 30 ∧ ((0 : Int) ≤ (8 * l1) + (mI M (mR M (mR M a0 10) 22) (Int.toNat l1)) ∧ (8 * l1) + (mI M (mR M (mR M a0 10) 22) (Int.toNat l1)) < (mN M42 (mR M42 (mR M42 a0 10) 25) : Int)) ∧ mK M42 (mR M42 (mR M42 a0 10) 26) = 30 ∧ ((0 : Int) ≤ (8 * l1) + (mI M (mR M (mR M a0 10) 22) (Int.toNat l1)) ∧ (8 * l1) + (mI M (mR M (mR M a0 10) 22) (Int.toNat l1)) < (mN M42 (mR M42 (mR M42 a0 10) 26) : Int)) ∧ i32 ((mI M42 (mR M42 (mR M42 a0 10) 27) 1) - (mI M42 (mR M42 (mR M42 a0 10) 25) (Int.toNat ((8 * l1) + (mI M (mR M (mR M a0 10) 22) (Int.toNat l1)))))) ∧ ∀ M55, M55 = mUI M42 (mR M42 (mR M42 a0 10) 26) (Int.toNat ((8 * l1) + (mI M (mR M (mR M a0 10) 22) (Int.toNat l1)))) ((mI M42 (mR M42 (mR M42 a0 10) 27) 1) - (mI M42 (mR M42 (mR M42 a0 10) 25) (Int.toNat ((8 * l1) + (mI M (mR M (mR M a0 10) 22) (Int.toNat l1)))))) → mK M55 (mR M55 a0 10) = 16 ∧ mK M55 (mR M55 (mR M55 a0 10) 22) = 30 ∧ ((0 : Int) ≤ l1 ∧ l1 < (mN M55 (mR M55 (mR M55 a0 10) 22) : Int)) ∧ i32 ((mI M (mR M (mR M a0 10) 22) (Int.toNat l1)) + 1) ∧ ∀ M61, M61 = mUI M55 (mR M55 (mR M55 a0 10) 22) (Int.toNat l1) ((mI M (mR M (mR M a0 10) 22) (Int.toNat l1)) + 1) → Q ((x15 + 1) + 1) M61)) ∧ (¬ (x43 = 10) → (h_MM_branch0_128 G d a0 l1 (mI M (mR M (mR M a0 10) 22) (Int.toNat l1)) ((8 * l1) + (mI M (mR M (mR M a0 10) 22) (Int.toNat l1))) (x15 + 1) 1 M42 Q))))))))))))) :
    Ci G y_MM_branch0 (d + 1) [vr a0, vi l1, vi l2, vi l3] M Q := by
  refine wm_open (y := y_MM_branch0) rfl (Nat.le_of_ble_eq_true rfl) (L := [vr a0, vi l1, vi l2, vi l3, vd, vd, vd, vd, vd]) rfl ?_
  obtain ⟨h1, h⟩ := h
  obtain ⟨h2, h⟩ := h
  obtain ⟨h3, h⟩ := h
  obtain ⟨h4, h⟩ := h
  refine wm_aload_n d_MM_branch0_0 rfl rfl ?_
  refine gf_MM_38 rfl d_MM_branch0_1 h1 ?_
  refine gf_MM_486 rfl d_MM_branch0_4 h2 ?_
  refine wm_iload_n d_MM_branch0_7 rfl rfl ?_
  refine wm_iald d_MM_branch0_8 h3 h4 ?_
  refine wm_istore d_MM_branch0_9 (by decide) (L' := [vr a0, vi l1, vi l2, vi l3, vi (mI M (mR M (mR M a0 10) 22) (Int.toNat l1)), vd, vd, vd, vd]) rfl ?_
  refine wm_iload d_MM_branch0_11 rfl ?_
  refine wm_bipush d_MM_branch0_13 (by decide) ?_
  refine wm_icmp_ne (tgt := 30) d_MM_branch0_15 rfl (hO _ _).1 ⟨by decide, by decide⟩ (fun c6 => ?_) (fun c6 => ?_)
  · replace h := h.2 c6
    refine wm_aload_n d_MM_branch0_30 rfl rfl ?_
    refine wm_iload_n d_MM_branch0_31 rfl rfl ?_
    refine wm_bipush d_MM_branch0_32 (by decide) ?_
    refine cf_MM_430 rfl d_MM_branch0_34 h1 (Nat.le_of_ble_eq_true rfl) (Ci.mono h (fun x15 M14 h => ?_))
    obtain ⟨h16, hOM14, h⟩ := h
    obtain ⟨h17, h⟩ := h
    obtain ⟨h18, h⟩ := h
    refine wm_istore d_MM_branch0_37 (by decide) (L' := [vr a0, vi l1, vi l2, vi l3, vi (mI M (mR M (mR M a0 10) 22) (Int.toNat l1)), vi x15, vd, vd, vd]) rfl ?_
    refine wm_bipush d_MM_branch0_39 (by decide) ?_
    refine wm_iload_n d_MM_branch0_41 rfl rfl ?_
    refine wm_imul d_MM_branch0_42 ?_
    refine wm_iload d_MM_branch0_43 rfl ?_
    refine wm_iadd d_MM_branch0_45 ?_
    refine wm_istore d_MM_branch0_46 (by decide) (L' := [vr a0, vi l1, vi l2, vi l3, vi (mI M (mR M (mR M a0 10) 22) (Int.toNat l1)), vi x15, vi ((8 * l1) + (mI M (mR M (mR M a0 10) 22) (Int.toNat l1))), vd, vd]) rfl ?_
    refine wm_aload_n d_MM_branch0_48 rfl rfl ?_
    refine gf_MM_38 rfl d_MM_branch0_49 h17 ?_
    refine gf_MM_492 rfl d_MM_branch0_52 h18 ?_
    refine wm_iload d_MM_branch0_55 rfl ?_
    refine wm_aload_n d_MM_branch0_57 rfl rfl ?_
    refine wm_iload_n d_MM_branch0_58 rfl rfl ?_
    refine wm_iload d_MM_branch0_59 rfl ?_
    refine wm_iconst d_MM_branch0_61 ?_
    refine wm_iconst d_MM_branch0_62 ?_
    refine cf_MM_441 rfl d_MM_branch0_63 h17 (Nat.le_of_ble_eq_true rfl) (Ci.mono h (fun x20 M19 h => ?_))
    obtain ⟨h21, hOM19, h⟩ := h
    obtain ⟨h22, h⟩ := h
    obtain ⟨h23, h⟩ := h
    obtain ⟨M24, e25⟩ : ∃ M24, M24 = mUI M19 (mR M14 (mR M14 a0 10) 23) (Int.toNat ((8 * l1) + (mI M (mR M (mR M a0 10) 22) (Int.toNat l1)))) x20 := ⟨_, rfl⟩
    replace h := h M24 e25
    obtain ⟨h26, h⟩ := h
    obtain ⟨h27, h⟩ := h
    have hOM24 : mOk M24 := by rw [e25]; exact mOk_UI hOM19 h21
    refine wm_iastE d_MM_branch0_66 h22 h23 h21 e25 ?_
    refine wm_aload_n d_MM_branch0_67 rfl rfl ?_
    refine gf_MM_38 rfl d_MM_branch0_68 h26 ?_
    refine gf_MM_495 rfl d_MM_branch0_71 h27 ?_
    refine wm_iload d_MM_branch0_74 rfl ?_
    refine wm_aload_n d_MM_branch0_76 rfl rfl ?_
    refine wm_iload_n d_MM_branch0_77 rfl rfl ?_
    refine cf_MM_279 rfl d_MM_branch0_78 h26 (Nat.le_of_ble_eq_true rfl) (Ci.mono h (fun x29 M28 h => ?_))
    obtain ⟨h30, hOM28, h⟩ := h
    obtain ⟨h31, h⟩ := h
    obtain ⟨h32, h⟩ := h
    obtain ⟨M33, e34⟩ : ∃ M33, M33 = mUI M28 (mR M24 (mR M24 a0 10) 24) (Int.toNat ((8 * l1) + (mI M (mR M (mR M a0 10) 22) (Int.toNat l1)))) x29 := ⟨_, rfl⟩
    replace h := h M33 e34
    obtain ⟨h35, h⟩ := h
    obtain ⟨h36, h⟩ := h
    obtain ⟨h37, h⟩ := h
    obtain ⟨h38, h⟩ := h
    obtain ⟨h39, h⟩ := h
    obtain ⟨M40, e41⟩ : ∃ M40, M40 = mUI M33 (mR M33 (mR M33 a0 10) 25) (Int.toNat ((8 * l1) + (mI M (mR M (mR M a0 10) 22) (Int.toNat l1)))) (mI M33 (mR M33 (mR M33 a0 10) 27) 1) := ⟨_, rfl⟩
    replace h := h M40 e41
    have hOM33 : mOk M33 := by rw [e34]; exact mOk_UI hOM28 h30
    refine wm_iastE d_MM_branch0_81 h31 h32 h30 e34 ?_
    refine wm_aload_n d_MM_branch0_82 rfl rfl ?_
    refine gf_MM_38 rfl d_MM_branch0_83 h35 ?_
    refine gf_MM_498 rfl d_MM_branch0_86 h36 ?_
    refine wm_iload d_MM_branch0_89 rfl ?_
    refine wm_aload_n d_MM_branch0_91 rfl rfl ?_
    refine gf_MM_38 rfl d_MM_branch0_92 h35 ?_
    refine gf_MM_501 rfl d_MM_branch0_95 h36 ?_
    refine gf_MM_145 rfl d_MM_branch0_98 h37 ?_
    have hOM40 : mOk M40 := by rw [e41]; exact mOk_UI hOM33 (hOM33 _ _).1
    refine wm_iastE d_MM_branch0_101 h38 h39 (hOM33 _ _).1 e41 ?_
    refine wm_iload d_MM_branch0_102 rfl ?_
    refine wm_iconst d_MM_branch0_104 ?_
    refine wm_iadd d_MM_branch0_105 ?_
    refine wm_istore d_MM_branch0_106 (by decide) (L' := [vr a0, vi l1, vi l2, vi l3, vi (mI M (mR M (mR M a0 10) 22) (Int.toNat l1)), vi x15, vi ((8 * l1) + (mI M (mR M (mR M a0 10) 22) (Int.toNat l1))), vi (x15 + 1), vd]) rfl ?_
    refine wm_aload_n d_MM_branch0_108 rfl rfl ?_
    refine wm_iload d_MM_branch0_109 rfl ?_
    refine cf_MM_302 rfl d_MM_branch0_111 (by rw [e41]; exact h35) (Nat.le_of_ble_eq_true rfl) (Ci.mono h (fun x43 M42 h => ?_))
    obtain ⟨h44, hOM42, h⟩ := h
    refine wm_bipush d_MM_branch0_114 (by decide) ?_
    refine wm_icmp_ne (tgt := 125) d_MM_branch0_116 rfl h44 ⟨by decide, by decide⟩ (fun c46 => ?_) (fun c46 => ?_)
    · replace h := h.2 c46
      refine wm_iconst d_MM_branch0_125 ?_
      refine wm_istore d_MM_branch0_126 (by decide) (L' := [vr a0, vi l1, vi l2, vi l3, vi (mI M (mR M (mR M a0 10) 22) (Int.toNat l1)), vi x15, vi ((8 * l1) + (mI M (mR M (mR M a0 10) 22) (Int.toNat l1))), vi (x15 + 1), vi 1]) rfl ?_
      refine wm_less (L' := [vr a0, vi l1, vd, vd, vi (mI M (mR M (mR M a0 10) 22) (Int.toNat l1)), vd, vi ((8 * l1) + (mI M (mR M (mR M a0 10) 22) (Int.toNat l1))), vi (x15 + 1), vi 1]) ⟨Or.inr rfl, Or.inr rfl, Or.inl rfl, Or.inl rfl, Or.inr rfl, Or.inl rfl, Or.inr rfl, Or.inr rfl, Or.inr rfl, trivial⟩ ?_
      exact h
    · replace c46 := Classical.not_not.mp c46
      replace h := h.1 c46
      obtain ⟨h47, h⟩ := h
      obtain ⟨h48, h⟩ := h
      obtain ⟨h49, h⟩ := h
      obtain ⟨h50, h⟩ := h
      obtain ⟨h51, h⟩ := h
      obtain ⟨h52, h⟩ := h
      obtain ⟨h53, h⟩ := h
      obtain ⟨h54, h⟩ := h
      obtain ⟨M55, e56⟩ : ∃ M55, M55 = mUI M42 (mR M42 (mR M42 a0 10) 26) (Int.toNat ((8 * l1) + (mI M (mR M (mR M a0 10) 22) (Int.toNat l1)))) ((mI M42 (mR M42 (mR M42 a0 10) 27) 1) - (mI M42 (mR M42 (mR M42 a0 10) 25) (Int.toNat ((8 * l1) + (mI M (mR M (mR M a0 10) 22) (Int.toNat l1)))))) := ⟨_, rfl⟩
      replace h := h M55 e56
      obtain ⟨h57, h⟩ := h
      obtain ⟨h58, h⟩ := h
      obtain ⟨h59, h⟩ := h
      obtain ⟨h60, h⟩ := h
      obtain ⟨M61, e62⟩ : ∃ M61, M61 = mUI M55 (mR M55 (mR M55 a0 10) 22) (Int.toNat l1) ((mI M (mR M (mR M a0 10) 22) (Int.toNat l1)) + 1) := ⟨_, rfl⟩
      replace h := h M61 e62
      refine wm_iinc d_MM_branch0_119 (by decide) rfl (L' := [vr a0, vi l1, vi l2, vi l3, vi (mI M (mR M (mR M a0 10) 22) (Int.toNat l1)), vi x15, vi ((8 * l1) + (mI M (mR M (mR M a0 10) 22) (Int.toNat l1))), vi ((x15 + 1) + 1), vd]) rfl ?_
      refine wm_goto (tgt := 195) d_MM_branch0_122 rfl ?_
      refine wm_aload_n d_MM_branch0_195 rfl rfl ?_
      refine gf_MM_38 rfl d_MM_branch0_196 h47 ?_
      refine gf_MM_507 rfl d_MM_branch0_199 h48 ?_
      refine wm_iload d_MM_branch0_202 rfl ?_
      refine wm_aload_n d_MM_branch0_204 rfl rfl ?_
      refine gf_MM_38 rfl d_MM_branch0_205 h47 ?_
      refine gf_MM_501 rfl d_MM_branch0_208 h48 ?_
      refine gf_MM_145 rfl d_MM_branch0_211 h49 ?_
      refine wm_aload_n d_MM_branch0_214 rfl rfl ?_
      refine gf_MM_38 rfl d_MM_branch0_215 h47 ?_
      refine gf_MM_498 rfl d_MM_branch0_218 h48 ?_
      refine wm_iload d_MM_branch0_221 rfl ?_
      refine wm_iald d_MM_branch0_223 h50 h51 ?_
      refine wm_isub d_MM_branch0_224 ?_
      have hOM55 : mOk M55 := by rw [e56]; exact mOk_UI hOM42 h54
      refine wm_iastE d_MM_branch0_225 h52 h53 h54 e56 ?_
      refine wm_aload_n d_MM_branch0_226 rfl rfl ?_
      refine gf_MM_38 rfl d_MM_branch0_227 (by rw [e56]; exact h47) ?_
      refine gf_MM_486 rfl d_MM_branch0_230 h57 ?_
      refine wm_iload_n d_MM_branch0_233 rfl rfl ?_
      refine wm_iload d_MM_branch0_234 rfl ?_
      refine wm_iconst d_MM_branch0_236 ?_
      refine wm_iadd d_MM_branch0_237 ?_
      have hOM61 : mOk M61 := by rw [e62]; exact mOk_UI hOM55 h60
      refine wm_iastE d_MM_branch0_238 h58 h59 h60 e62 ?_
      refine wm_iload d_MM_branch0_239 rfl ?_
      refine wm_ireturn d_MM_branch0_241 rfl rfl ?_
      exact ⟨_, rfl, h⟩
  · replace c6 := Classical.not_not.mp c6
    replace h := h.1 c6
    refine wm_aload_n d_MM_branch0_18 rfl rfl ?_
    refine wm_iconst d_MM_branch0_19 ?_
    refine wm_aload_n d_MM_branch0_20 rfl rfl ?_
    refine wm_iload_n d_MM_branch0_21 rfl rfl ?_
    refine cf_MM_279 rfl d_MM_branch0_22 h1 (Nat.le_of_ble_eq_true rfl) (Ci.mono h (fun x8 M7 h => ?_))
    obtain ⟨h9, hOM7, h⟩ := h
    obtain ⟨h10, h⟩ := h
    refine cf_MM_351 rfl d_MM_branch0_25 h10 (Nat.le_of_ble_eq_true rfl) (Cv.mono h (fun M11 h => ?_))
    obtain ⟨hOM11, h⟩ := h
    refine wm_iload_n d_MM_branch0_28 rfl rfl ?_
    refine wm_ireturn d_MM_branch0_29 rfl rfl ?_
    exact ⟨_, rfl, h⟩
theorem k_MM_branch0_128 {G : mG} {d : Nat} {a0 : Nat} {l1 : Int} {l4 : Int} {l6 : Int} {l7 : Int} {l8 : Int} {M : mM} {Q : Int → mM → Prop} (hO : mOk M) (hi_l1 : i32 l1) (hi_l4 : i32 l4) (hi_l6 : i32 l6) (hi_l7 : i32 l7) (hi_l8 : i32 l8)
    (h : (¬ (l8 = 0) → mK M a0 = 14) ∧ (((l8 = 0) ∨ (¬ (mI M a0 16 = 0))) → (mK M a0 = 14 ∧ mK M (mR M a0 10) = 16 ∧ mK M (mR M (mR M a0 10) 27) = 15 ∧ mK M (mR M (mR M a0 10) 25) = 30 ∧ ((0 : Int) ≤ l6 ∧ l6 < (mN M (mR M (mR M a0 10) 25) : Int)) ∧ mK M (mR M (mR M a0 10) 26) = 30 ∧ ((0 : Int) ≤ l6 ∧ l6 < (mN M (mR M (mR M a0 10) 26) : Int)) ∧ i32 ((mI M (mR M (mR M a0 10) 27) 1) - (mI M (mR M (mR M a0 10) 25) (Int.toNat l6))) ∧ ∀ M76, M76 = mUI M (mR M (mR M a0 10) 26) (Int.toNat l6) ((mI M (mR M (mR M a0 10) 27) 1) - (mI M (mR M (mR M a0 10) 25) (Int.toNat l6))) → mK M76 (mR M76 a0 10) = 16 ∧ mK M76 (mR M76 (mR M76 a0 10) 22) = 30 ∧ ((0 : Int) ≤ l1 ∧ l1 < (mN M76 (mR M76 (mR M76 a0 10) 22) : Int)) ∧ i32 (l4 + 1) ∧ ∀ M82, M82 = mUI M76 (mR M76 (mR M76 a0 10) 22) (Int.toNat l1) (l4 + 1) → Q l7 M82)) ∧ (¬ ((l8 = 0) ∨ (¬ (mI M a0 16 = 0))) → (mK M a0 = 14 ∧ mK M (mR M a0 10) = 16 ∧ mK M (mR M (mR M a0 10) 25) = 30 ∧ ((0 : Int) ≤ l6 ∧ l6 < (mN M (mR M (mR M a0 10) 25) : Int)) ∧ Ci G y_MM_setItem d [vr a0, vi l7, vi (mI M (mR M (mR M a0 10) 25) (Int.toNat l6))] M (fun x90 M89 => i32 x90 ∧ mOk M89 ∧ (mK M89 a0 = 14 ∧ Ci G y_MM_word1 d [vr a0, vi x90] M89 (fun x94 M93 => i32 x94 ∧ mOk M93 ∧ (∀ v97 : Int, v97 = (if (x94 = 29) then 1 else 0) → ∀ v103 : Int, v103 = (if (v97 = 0) then x90 else x90 + 1) → h_MM_branch0_128 G d a0 l1 l4 l6 v103 v97 M93 Q))))))) :
    h_MM_branch0_128 G d a0 l1 l4 l6 l7 l8 M Q := by
  unfold h_MM_branch0_128
  refine wm_iload d_MM_branch0_128 rfl ?_
  obtain ⟨s66, h⟩ := h
  have hE0 : ((l8 = 0) ∨ (¬ (mI M a0 16 = 0))) → mWm G y_MM_branch0 (d + 1) 195 [vr a0, vi l1, vd, vd, vi l4, vd, vi l6, vi l7, vi l8] [] M (fun r9 M9 => ∃ x9, r9 = some (vi x9) ∧ Q x9 M9) := by
    intro q67
    have h := h.1 q67
    obtain ⟨h68, h⟩ := h
    obtain ⟨h69, h⟩ := h
    obtain ⟨h70, h⟩ := h
    obtain ⟨h71, h⟩ := h
    obtain ⟨h72, h⟩ := h
    obtain ⟨h73, h⟩ := h
    obtain ⟨h74, h⟩ := h
    obtain ⟨h75, h⟩ := h
    obtain ⟨M76, e77⟩ : ∃ M76, M76 = mUI M (mR M (mR M a0 10) 26) (Int.toNat l6) ((mI M (mR M (mR M a0 10) 27) 1) - (mI M (mR M (mR M a0 10) 25) (Int.toNat l6))) := ⟨_, rfl⟩
    replace h := h M76 e77
    obtain ⟨h78, h⟩ := h
    obtain ⟨h79, h⟩ := h
    obtain ⟨h80, h⟩ := h
    obtain ⟨h81, h⟩ := h
    obtain ⟨M82, e83⟩ : ∃ M82, M82 = mUI M76 (mR M76 (mR M76 a0 10) 22) (Int.toNat l1) (l4 + 1) := ⟨_, rfl⟩
    replace h := h M82 e83
    refine wm_aload_n d_MM_branch0_195 rfl rfl ?_
    refine gf_MM_38 rfl d_MM_branch0_196 h68 ?_
    refine gf_MM_507 rfl d_MM_branch0_199 h69 ?_
    refine wm_iload d_MM_branch0_202 rfl ?_
    refine wm_aload_n d_MM_branch0_204 rfl rfl ?_
    refine gf_MM_38 rfl d_MM_branch0_205 h68 ?_
    refine gf_MM_501 rfl d_MM_branch0_208 h69 ?_
    refine gf_MM_145 rfl d_MM_branch0_211 h70 ?_
    refine wm_aload_n d_MM_branch0_214 rfl rfl ?_
    refine gf_MM_38 rfl d_MM_branch0_215 h68 ?_
    refine gf_MM_498 rfl d_MM_branch0_218 h69 ?_
    refine wm_iload d_MM_branch0_221 rfl ?_
    refine wm_iald d_MM_branch0_223 h71 h72 ?_
    refine wm_isub d_MM_branch0_224 ?_
    have hOM76 : mOk M76 := by rw [e77]; exact mOk_UI hO h75
    refine wm_iastE d_MM_branch0_225 h73 h74 h75 e77 ?_
    refine wm_aload_n d_MM_branch0_226 rfl rfl ?_
    refine gf_MM_38 rfl d_MM_branch0_227 (by rw [e77]; exact h68) ?_
    refine gf_MM_486 rfl d_MM_branch0_230 h78 ?_
    refine wm_iload_n d_MM_branch0_233 rfl rfl ?_
    refine wm_iload d_MM_branch0_234 rfl ?_
    refine wm_iconst d_MM_branch0_236 ?_
    refine wm_iadd d_MM_branch0_237 ?_
    have hOM82 : mOk M82 := by rw [e83]; exact mOk_UI hOM76 h81
    refine wm_iastE d_MM_branch0_238 h79 h80 h81 e83 ?_
    refine wm_iload d_MM_branch0_239 rfl ?_
    refine wm_ireturn d_MM_branch0_241 rfl rfl ?_
    exact ⟨_, rfl, h⟩
  have hE1 : ¬ ((l8 = 0) ∨ (¬ (mI M a0 16 = 0))) → mWm G y_MM_branch0 (d + 1) 140 [vr a0, vi l1, vd, vd, vi l4, vd, vi l6, vi l7, vi l8] [] M (fun r9 M9 => ∃ x9, r9 = some (vi x9) ∧ Q x9 M9) := by
    intro q84
    have h := h.2 q84
    obtain ⟨h85, h⟩ := h
    obtain ⟨h86, h⟩ := h
    obtain ⟨h87, h⟩ := h
    obtain ⟨h88, h⟩ := h
    refine wm_aload_n d_MM_branch0_140 rfl rfl ?_
    refine wm_iload d_MM_branch0_141 rfl ?_
    refine wm_aload_n d_MM_branch0_143 rfl rfl ?_
    refine gf_MM_38 rfl d_MM_branch0_144 h85 ?_
    refine gf_MM_498 rfl d_MM_branch0_147 h86 ?_
    refine wm_iload d_MM_branch0_150 rfl ?_
    refine wm_iald d_MM_branch0_152 h87 h88 ?_
    refine cf_MM_504 rfl d_MM_branch0_153 h85 (Nat.le_of_ble_eq_true rfl) (Ci.mono h (fun x90 M89 h => ?_))
    obtain ⟨h91, hOM89, h⟩ := h
    obtain ⟨h92, h⟩ := h
    refine wm_istore d_MM_branch0_156 (by decide) (L' := [vr a0, vi l1, vd, vd, vi l4, vd, vi l6, vi x90, vi l8]) rfl ?_
    refine wm_aload_n d_MM_branch0_158 rfl rfl ?_
    refine wm_iload d_MM_branch0_159 rfl ?_
    refine cf_MM_302 rfl d_MM_branch0_161 h92 (Nat.le_of_ble_eq_true rfl) (Ci.mono h (fun x94 M93 h => ?_))
    obtain ⟨h95, hOM93, h⟩ := h
    refine wm_bipush d_MM_branch0_164 (by decide) ?_
    have hJ : ∀ v97 : Int, v97 = (if (x94 = 29) then 1 else 0) → mWm G y_MM_branch0 (d + 1) 174 [vr a0, vi l1, vd, vd, vi l4, vd, vi l6, vi x90, vd] [vi v97] M93 (fun r9 M9 => ∃ x9, r9 = some (vi x9) ∧ Q x9 M9) := by
      intro v97 e99
      have h := h v97 e99
      have h100 : i32 v97 := by rw [e99]; (repeat' split) <;> first | exact ⟨by decide, by decide⟩ | exact ⟨by decide, by decide⟩
      have h101 : (v97 = 0 ∨ v97 = 1) := by rw [e99]; (repeat' split) <;> decide
      refine wm_istore d_MM_branch0_174 (by decide) (L' := [vr a0, vi l1, vd, vd, vi l4, vd, vi l6, vi x90, vi v97]) rfl ?_
      refine wm_iload d_MM_branch0_176 rfl ?_
      have hJ : ∀ v103 : Int, v103 = (if (v97 = 0) then x90 else x90 + 1) → mWm G y_MM_branch0 (d + 1) 190 [vr a0, vi l1, vd, vd, vi l4, vd, vi l6, vd, vi v97] [vi v103] M93 (fun r9 M9 => ∃ x9, r9 = some (vi x9) ∧ Q x9 M9) := by
        intro v103 e105
        have h := h v103 e105
        refine wm_istore d_MM_branch0_190 (by decide) (L' := [vr a0, vi l1, vd, vd, vi l4, vd, vi l6, vi v103, vi v97]) rfl ?_
        refine wm_goto (tgt := 128) d_MM_branch0_192 rfl ?_
        exact h
      clear h
      refine wm_if_eq (tgt := 188) d_MM_branch0_178 rfl h100 (fun c102 => ?_) (fun c102 => ?_)
      · refine wm_iload d_MM_branch0_188 rfl ?_
        refine wm_less (L' := [vr a0, vi l1, vd, vd, vi l4, vd, vi l6, vd, vi v97]) ⟨Or.inr rfl, Or.inr rfl, Or.inl rfl, Or.inl rfl, Or.inr rfl, Or.inl rfl, Or.inr rfl, Or.inl rfl, Or.inr rfl, trivial⟩ ?_
        exact hJ x90 (if_pos c102).symm
      · refine wm_iload d_MM_branch0_181 rfl ?_
        refine wm_iconst d_MM_branch0_183 ?_
        refine wm_iadd d_MM_branch0_184 ?_
        refine wm_goto (tgt := 190) d_MM_branch0_185 rfl ?_
        refine wm_less (L' := [vr a0, vi l1, vd, vd, vi l4, vd, vi l6, vd, vi v97]) ⟨Or.inr rfl, Or.inr rfl, Or.inl rfl, Or.inl rfl, Or.inr rfl, Or.inl rfl, Or.inr rfl, Or.inl rfl, Or.inr rfl, trivial⟩ ?_
        exact hJ (x90 + 1) (if_neg c102).symm
    clear h
    refine wm_icmp_ne (tgt := 173) d_MM_branch0_166 rfl h95 ⟨by decide, by decide⟩ (fun c96 => ?_) (fun c96 => ?_)
    · refine wm_iconst d_MM_branch0_173 ?_
      refine wm_less (L' := [vr a0, vi l1, vd, vd, vi l4, vd, vi l6, vi x90, vd]) ⟨Or.inr rfl, Or.inr rfl, Or.inl rfl, Or.inl rfl, Or.inr rfl, Or.inl rfl, Or.inr rfl, Or.inr rfl, Or.inl rfl, trivial⟩ ?_
      exact hJ 0 (if_neg c96).symm
    · replace c96 := Classical.not_not.mp c96
      refine wm_iconst d_MM_branch0_169 ?_
      refine wm_goto (tgt := 174) d_MM_branch0_170 rfl ?_
      refine wm_less (L' := [vr a0, vi l1, vd, vd, vi l4, vd, vi l6, vi x90, vd]) ⟨Or.inr rfl, Or.inr rfl, Or.inl rfl, Or.inl rfl, Or.inr rfl, Or.inl rfl, Or.inr rfl, Or.inr rfl, Or.inl rfl, trivial⟩ ?_
      exact hJ 1 (if_pos c96).symm
  clear h
  have s108 := s66
  refine wm_if_eq (tgt := 195) d_MM_branch0_130 rfl hi_l8 (fun c65 => ?_) (fun c65 => ?_)
  · exact hE0 (Or.inl c65)
  · have s108 := s108 c65
    have h63 := s108
    refine wm_aload_n d_MM_branch0_133 rfl rfl ?_
    refine gf_MM_267 rfl d_MM_branch0_134 h63 ?_
    refine wm_if_ne (tgt := 195) d_MM_branch0_137 rfl (hO _ _).1 (fun c64 => ?_) (fun c64 => ?_)
    · exact hE0 (Or.inr c64)
    · replace c64 := Classical.not_not.mp c64
      exact hE1 (fun z109 => Or.elim z109 c65 (fun z110 => z110 c64))
theorem d_MM_setItem_0 : decode y_MM_setItem.2.1 0 = .ok (.aload_n 0, 1) := dc9_42 (by decide +kernel)
theorem d_MM_setItem_1 : decode y_MM_setItem.2.1 1 = .ok (.iload_n 1, 1) := dc9_27 (by decide +kernel)
theorem d_MM_setItem_2 : decode y_MM_setItem.2.1 2 = .ok (.invokevirtual 510, 3) := dc9_182 (by decide +kernel)
theorem d_MM_setItem_5 : decode y_MM_setItem.2.1 5 = .ok (.istore_n 3, 1) := dc9_62 (by decide +kernel)
theorem d_MM_setItem_6 : decode y_MM_setItem.2.1 6 = .ok (.aload_n 0, 1) := dc9_42 (by decide +kernel)
theorem d_MM_setItem_7 : decode y_MM_setItem.2.1 7 = .ok (.iload_n 1, 1) := dc9_27 (by decide +kernel)
theorem d_MM_setItem_8 : decode y_MM_setItem.2.1 8 = .ok (.iconst 1, 1) := dc9_4 (by decide +kernel)
theorem d_MM_setItem_9 : decode y_MM_setItem.2.1 9 = .ok (.iadd, 1) := dc9_96 (by decide +kernel)
theorem d_MM_setItem_10 : decode y_MM_setItem.2.1 10 = .ok (.invokevirtual 354, 3) := dc9_182 (by decide +kernel)
theorem d_MM_setItem_13 : decode y_MM_setItem.2.1 13 = .ok (.istore 4, 2) := dc9_54 (by decide +kernel)
theorem d_MM_setItem_15 : decode y_MM_setItem.2.1 15 = .ok (.iload 4, 2) := dc9_21 (by decide +kernel)
theorem d_MM_setItem_17 : decode y_MM_setItem.2.1 17 = .ok (.ifCond .lt 16, 3) := dc9_155 (by decide +kernel)
theorem d_MM_setItem_20 : decode y_MM_setItem.2.1 20 = .ok (.aload_n 0, 1) := dc9_42 (by decide +kernel)
theorem d_MM_setItem_21 : decode y_MM_setItem.2.1 21 = .ok (.getfield 48, 3) := dc9_180 (by decide +kernel)
theorem d_MM_setItem_24 : decode y_MM_setItem.2.1 24 = .ok (.iload 4, 2) := dc9_21 (by decide +kernel)
theorem d_MM_setItem_33 : decode y_MM_setItem.2.1 33 = .ok (.aload_n 0, 1) := dc9_42 (by decide +kernel)
theorem d_MM_setItem_34 : decode y_MM_setItem.2.1 34 = .ok (.iconst 2, 1) := dc9_5 (by decide +kernel)
theorem d_MM_setItem_35 : decode y_MM_setItem.2.1 35 = .ok (.aload_n 0, 1) := dc9_42 (by decide +kernel)
theorem d_MM_setItem_36 : decode y_MM_setItem.2.1 36 = .ok (.iload_n 1, 1) := dc9_27 (by decide +kernel)
theorem d_MM_setItem_37 : decode y_MM_setItem.2.1 37 = .ok (.iconst 1, 1) := dc9_4 (by decide +kernel)
theorem d_MM_setItem_38 : decode y_MM_setItem.2.1 38 = .ok (.iadd, 1) := dc9_96 (by decide +kernel)
theorem d_MM_setItem_39 : decode y_MM_setItem.2.1 39 = .ok (.invokevirtual 279, 3) := dc9_182 (by decide +kernel)
theorem d_MM_setItem_42 : decode y_MM_setItem.2.1 42 = .ok (.invokevirtual 351, 3) := dc9_182 (by decide +kernel)
theorem d_MM_setItem_45 : decode y_MM_setItem.2.1 45 = .ok (.iload_n 3, 1) := dc9_29 (by decide +kernel)
theorem d_MM_setItem_46 : decode y_MM_setItem.2.1 46 = .ok (.ireturn, 1) := dc9_172 (by decide +kernel)
theorem d_MM_setItem_26 : decode y_MM_setItem.2.1 26 = .ok (.invokevirtual 155, 3) := dc9_182 (by decide +kernel)
theorem d_MM_setItem_29 : decode y_MM_setItem.2.1 29 = .ok (.iconst 3, 1) := dc9_6 (by decide +kernel)
theorem d_MM_setItem_30 : decode y_MM_setItem.2.1 30 = .ok (.if_icmp .eq 17, 3) := dc9_159 (by decide +kernel)
theorem d_MM_setItem_47 : decode y_MM_setItem.2.1 47 = .ok (.aload_n 0, 1) := dc9_42 (by decide +kernel)
theorem d_MM_setItem_48 : decode y_MM_setItem.2.1 48 = .ok (.getfield 51, 3) := dc9_180 (by decide +kernel)
theorem d_MM_setItem_51 : decode y_MM_setItem.2.1 51 = .ok (.iload 4, 2) := dc9_21 (by decide +kernel)
theorem d_MM_setItem_53 : decode y_MM_setItem.2.1 53 = .ok (.invokevirtual 155, 3) := dc9_182 (by decide +kernel)
theorem d_MM_setItem_56 : decode y_MM_setItem.2.1 56 = .ok (.istore 5, 2) := dc9_54 (by decide +kernel)
theorem d_MM_setItem_58 : decode y_MM_setItem.2.1 58 = .ok (.iload_n 2, 1) := dc9_28 (by decide +kernel)
theorem d_MM_setItem_59 : decode y_MM_setItem.2.1 59 = .ok (.istore 6, 2) := dc9_54 (by decide +kernel)
theorem d_MM_setItem_61 : decode y_MM_setItem.2.1 61 = .ok (.iload 6, 2) := dc9_21 (by decide +kernel)
theorem d_MM_setItem_63 : decode y_MM_setItem.2.1 63 = .ok (.aload_n 0, 1) := dc9_42 (by decide +kernel)
theorem d_MM_setItem_64 : decode y_MM_setItem.2.1 64 = .ok (.getfield 38, 3) := dc9_180 (by decide +kernel)
theorem d_MM_setItem_67 : decode y_MM_setItem.2.1 67 = .ok (.getfield 501, 3) := dc9_180 (by decide +kernel)
theorem d_MM_setItem_70 : decode y_MM_setItem.2.1 70 = .ok (.getfield 145, 3) := dc9_180 (by decide +kernel)
theorem d_MM_setItem_73 : decode y_MM_setItem.2.1 73 = .ok (.if_icmp .ge 40, 3) := dc9_162 (by decide +kernel)
theorem d_MM_setItem_113 : decode y_MM_setItem.2.1 113 = .ok (.aload_n 0, 1) := dc9_42 (by decide +kernel)
theorem d_MM_setItem_114 : decode y_MM_setItem.2.1 114 = .ok (.iload_n 1, 1) := dc9_27 (by decide +kernel)
theorem d_MM_setItem_115 : decode y_MM_setItem.2.1 115 = .ok (.iconst 4, 1) := dc9_7 (by decide +kernel)
theorem d_MM_setItem_116 : decode y_MM_setItem.2.1 116 = .ok (.iadd, 1) := dc9_96 (by decide +kernel)
theorem d_MM_setItem_117 : decode y_MM_setItem.2.1 117 = .ok (.iload_n 3, 1) := dc9_29 (by decide +kernel)
theorem d_MM_setItem_118 : decode y_MM_setItem.2.1 118 = .ok (.aload_n 0, 1) := dc9_42 (by decide +kernel)
theorem d_MM_setItem_119 : decode y_MM_setItem.2.1 119 = .ok (.getfield 38, 3) := dc9_180 (by decide +kernel)
theorem d_MM_setItem_122 : decode y_MM_setItem.2.1 122 = .ok (.getfield 357, 3) := dc9_180 (by decide +kernel)
theorem d_MM_setItem_125 : decode y_MM_setItem.2.1 125 = .ok (.iload 5, 2) := dc9_21 (by decide +kernel)
theorem d_MM_setItem_127 : decode y_MM_setItem.2.1 127 = .ok (.baload, 1) := dc9_51 (by decide +kernel)
theorem d_MM_setItem_128 : decode y_MM_setItem.2.1 128 = .ok (.iconst 0, 1) := dc9_3 (by decide +kernel)
theorem d_MM_setItem_76 : decode y_MM_setItem.2.1 76 = .ok (.aload_n 0, 1) := dc9_42 (by decide +kernel)
theorem d_MM_setItem_77 : decode y_MM_setItem.2.1 77 = .ok (.getfield 38, 3) := dc9_180 (by decide +kernel)
theorem d_MM_setItem_80 : decode y_MM_setItem.2.1 80 = .ok (.getfield 501, 3) := dc9_180 (by decide +kernel)
theorem d_MM_setItem_83 : decode y_MM_setItem.2.1 83 = .ok (.iload 6, 2) := dc9_21 (by decide +kernel)
theorem d_MM_setItem_129 : decode y_MM_setItem.2.1 129 = .ok (.invokevirtual 441, 3) := dc9_182 (by decide +kernel)
theorem d_MM_setItem_132 : decode y_MM_setItem.2.1 132 = .ok (.istore 6, 2) := dc9_54 (by decide +kernel)
theorem d_MM_setItem_134 : decode y_MM_setItem.2.1 134 = .ok (.aload_n 0, 1) := dc9_42 (by decide +kernel)
theorem d_MM_setItem_135 : decode y_MM_setItem.2.1 135 = .ok (.getfield 38, 3) := dc9_180 (by decide +kernel)
theorem d_MM_setItem_138 : decode y_MM_setItem.2.1 138 = .ok (.getfield 501, 3) := dc9_180 (by decide +kernel)
theorem d_MM_setItem_141 : decode y_MM_setItem.2.1 141 = .ok (.iload 5, 2) := dc9_21 (by decide +kernel)
theorem d_MM_setItem_143 : decode y_MM_setItem.2.1 143 = .ok (.invokevirtual 152, 3) := dc9_182 (by decide +kernel)
theorem d_MM_setItem_146 : decode y_MM_setItem.2.1 146 = .ok (.aload_n 0, 1) := dc9_42 (by decide +kernel)
theorem d_MM_setItem_147 : decode y_MM_setItem.2.1 147 = .ok (.getfield 38, 3) := dc9_180 (by decide +kernel)
theorem d_MM_setItem_150 : decode y_MM_setItem.2.1 150 = .ok (.getfield 513, 3) := dc9_180 (by decide +kernel)
theorem d_MM_setItem_153 : decode y_MM_setItem.2.1 153 = .ok (.aload_n 0, 1) := dc9_42 (by decide +kernel)
theorem d_MM_setItem_154 : decode y_MM_setItem.2.1 154 = .ok (.iload_n 1, 1) := dc9_27 (by decide +kernel)
theorem d_MM_setItem_155 : decode y_MM_setItem.2.1 155 = .ok (.invokevirtual 279, 3) := dc9_182 (by decide +kernel)
theorem d_MM_setItem_158 : decode y_MM_setItem.2.1 158 = .ok (.invokevirtual 152, 3) := dc9_182 (by decide +kernel)
theorem d_MM_setItem_161 : decode y_MM_setItem.2.1 161 = .ok (.aload_n 0, 1) := dc9_42 (by decide +kernel)
theorem d_MM_setItem_162 : decode y_MM_setItem.2.1 162 = .ok (.getfield 38, 3) := dc9_180 (by decide +kernel)
theorem d_MM_setItem_165 : decode y_MM_setItem.2.1 165 = .ok (.getfield 516, 3) := dc9_180 (by decide +kernel)
theorem d_MM_setItem_168 : decode y_MM_setItem.2.1 168 = .ok (.iload 6, 2) := dc9_21 (by decide +kernel)
theorem d_MM_setItem_170 : decode y_MM_setItem.2.1 170 = .ok (.invokevirtual 152, 3) := dc9_182 (by decide +kernel)
theorem d_MM_setItem_173 : decode y_MM_setItem.2.1 173 = .ok (.iload_n 3, 1) := dc9_29 (by decide +kernel)
theorem d_MM_setItem_174 : decode y_MM_setItem.2.1 174 = .ok (.iconst 1, 1) := dc9_4 (by decide +kernel)
theorem d_MM_setItem_175 : decode y_MM_setItem.2.1 175 = .ok (.iadd, 1) := dc9_96 (by decide +kernel)
theorem d_MM_setItem_176 : decode y_MM_setItem.2.1 176 = .ok (.ireturn, 1) := dc9_172 (by decide +kernel)
theorem d_MM_setItem_85 : decode y_MM_setItem.2.1 85 = .ok (.invokevirtual 155, 3) := dc9_182 (by decide +kernel)
theorem d_MM_setItem_88 : decode y_MM_setItem.2.1 88 = .ok (.iload 5, 2) := dc9_21 (by decide +kernel)
theorem d_MM_setItem_90 : decode y_MM_setItem.2.1 90 = .ok (.if_icmp .ne 17, 3) := dc9_160 (by decide +kernel)
theorem d_MM_setItem_93 : decode y_MM_setItem.2.1 93 = .ok (.aload_n 0, 1) := dc9_42 (by decide +kernel)
theorem d_MM_setItem_94 : decode y_MM_setItem.2.1 94 = .ok (.iconst 4, 1) := dc9_7 (by decide +kernel)
theorem d_MM_setItem_95 : decode y_MM_setItem.2.1 95 = .ok (.aload_n 0, 1) := dc9_42 (by decide +kernel)
theorem d_MM_setItem_96 : decode y_MM_setItem.2.1 96 = .ok (.iload_n 1, 1) := dc9_27 (by decide +kernel)
theorem d_MM_setItem_97 : decode y_MM_setItem.2.1 97 = .ok (.iconst 1, 1) := dc9_4 (by decide +kernel)
theorem d_MM_setItem_98 : decode y_MM_setItem.2.1 98 = .ok (.iadd, 1) := dc9_96 (by decide +kernel)
theorem d_MM_setItem_107 : decode y_MM_setItem.2.1 107 = .ok (.iinc 6 1, 3) := by decide +kernel
theorem d_MM_setItem_110 : decode y_MM_setItem.2.1 110 = .ok (.goto (-49), 3) := dc9_167 (by decide +kernel)
theorem d_MM_setItem_99 : decode y_MM_setItem.2.1 99 = .ok (.invokevirtual 279, 3) := dc9_182 (by decide +kernel)
theorem d_MM_setItem_102 : decode y_MM_setItem.2.1 102 = .ok (.invokevirtual 351, 3) := dc9_182 (by decide +kernel)
theorem d_MM_setItem_105 : decode y_MM_setItem.2.1 105 = .ok (.iload_n 3, 1) := dc9_29 (by decide +kernel)
theorem d_MM_setItem_106 : decode y_MM_setItem.2.1 106 = .ok (.ireturn, 1) := dc9_172 (by decide +kernel)
def h_MM_setItem_61 (G : mG) (d : Nat) (a0 : Nat) (l1 : Int) (l3 : Int) (l5 : Int) (l6 : Int) (M : mM) (Q : Int → mM → Prop) : Prop := mWm G y_MM_setItem (d + 1) 61 [vr a0, vi l1, vd, vi l3, vd, vi l5, vi l6] [] M (fun r9 M9 => ∃ x9, r9 = some (vi x9) ∧ Q x9 M9)
theorem k_MM_setItem {G : mG} {d : Nat} {a0 : Nat} {l1 : Int} {l2 : Int} {M : mM} {Q : Int → mM → Prop} (hO : mOk M) (hi_l1 : i32 l1) (hi_l2 : i32 l2)
    (h : mK M a0 = 14 ∧ Ci G y_MM_closeOf d [vr a0, vi l1] M (fun x3 M2 => i32 x3 ∧ mOk M2 ∧ (mK M2 a0 = 14 ∧ Ci G y_MM_find d [vr a0, vi (l1 + 1)] M2 (fun x7 M6 => i32 x7 ∧ mOk M6 ∧ (((x7 < 0) → (mK M6 a0 = 14 ∧ Ci G y_MM_place0 d [vr a0, vi (l1 + 1)] M6 (fun x13 M12 => i32 x13 ∧ mOk M12 ∧ (mK M12 a0 = 14 ∧ Cv G y_MM_stop d [vr a0, vi 2, vi x13] M12 (fun M16 => mOk M16 ∧ (Q x3 M16)))))) ∧ (¬ (x7 < 0) → (mK M6 a0 = 14 ∧ mK M6 (mR M6 a0 14) = 15 ∧ Ci G y_MN_at d [vr (mR M6 a0 14), vi x7] M6 (fun x22 M21 => i32 x22 ∧ mOk M21 ∧ (((x22 = 3) → (mK M21 a0 = 14 ∧ mK M21 (mR M21 a0 15) = 15 ∧ Ci G y_MN_at d [vr (mR M21 a0 15), vi x7] M21 (fun x29 M28 => i32 x29 ∧ mOk M28 ∧ (h_MM_setItem_61 G d a0 l1 x3 x29 l2 M28 Q)))) ∧ (¬ (x22 = 3) → (mK M21 a0 = 14 ∧ Ci G y_MM_place0 d [vr a0, vi (l1 + 1)] M21 (fun x33 M32 => i32 x33 ∧ mOk M32 ∧ (mK M32 a0 = 14 ∧ Cv G y_MM_stop d [vr a0, vi 2, vi x33] M32 (fun M36 => mOk M36 ∧ (Q x3 M36))))))))))))))) :
    Ci G y_MM_setItem (d + 1) [vr a0, vi l1, vi l2] M Q := by
  refine wm_open (y := y_MM_setItem) rfl (Nat.le_of_ble_eq_true rfl) (L := [vr a0, vi l1, vi l2, vd, vd, vd, vd]) rfl ?_
  obtain ⟨h1, h⟩ := h
  refine wm_aload_n d_MM_setItem_0 rfl rfl ?_
  refine wm_iload_n d_MM_setItem_1 rfl rfl ?_
  refine cf_MM_510 rfl d_MM_setItem_2 h1 (Nat.le_of_ble_eq_true rfl) (Ci.mono h (fun x3 M2 h => ?_))
  obtain ⟨h4, hOM2, h⟩ := h
  obtain ⟨h5, h⟩ := h
  refine wm_istore_n d_MM_setItem_5 rfl (by decide) (L' := [vr a0, vi l1, vi l2, vi x3, vd, vd, vd]) rfl ?_
  refine wm_aload_n d_MM_setItem_6 rfl rfl ?_
  refine wm_iload_n d_MM_setItem_7 rfl rfl ?_
  refine wm_iconst d_MM_setItem_8 ?_
  refine wm_iadd d_MM_setItem_9 ?_
  refine cf_MM_354 rfl d_MM_setItem_10 h5 (Nat.le_of_ble_eq_true rfl) (Ci.mono h (fun x7 M6 h => ?_))
  obtain ⟨h8, hOM6, h⟩ := h
  refine wm_istore d_MM_setItem_13 (by decide) (L' := [vr a0, vi l1, vi l2, vi x3, vi x7, vd, vd]) rfl ?_
  refine wm_iload d_MM_setItem_15 rfl ?_
  refine wm_if_lt (tgt := 33) d_MM_setItem_17 rfl h8 (fun c10 => ?_) (fun c10 => ?_)
  · replace h := h.1 c10
    obtain ⟨h11, h⟩ := h
    refine wm_aload_n d_MM_setItem_33 rfl rfl ?_
    refine wm_iconst d_MM_setItem_34 ?_
    refine wm_aload_n d_MM_setItem_35 rfl rfl ?_
    refine wm_iload_n d_MM_setItem_36 rfl rfl ?_
    refine wm_iconst d_MM_setItem_37 ?_
    refine wm_iadd d_MM_setItem_38 ?_
    refine cf_MM_279 rfl d_MM_setItem_39 h11 (Nat.le_of_ble_eq_true rfl) (Ci.mono h (fun x13 M12 h => ?_))
    obtain ⟨h14, hOM12, h⟩ := h
    obtain ⟨h15, h⟩ := h
    refine cf_MM_351 rfl d_MM_setItem_42 h15 (Nat.le_of_ble_eq_true rfl) (Cv.mono h (fun M16 h => ?_))
    obtain ⟨hOM16, h⟩ := h
    refine wm_iload_n d_MM_setItem_45 rfl rfl ?_
    refine wm_ireturn d_MM_setItem_46 rfl rfl ?_
    exact ⟨_, rfl, h⟩
  · replace h := h.2 c10
    obtain ⟨h19, h⟩ := h
    obtain ⟨h20, h⟩ := h
    refine wm_aload_n d_MM_setItem_20 rfl rfl ?_
    refine gf_MM_48 rfl d_MM_setItem_21 h19 ?_
    refine wm_iload d_MM_setItem_24 rfl ?_
    refine cf_MM_155 rfl d_MM_setItem_26 h20 (Nat.le_of_ble_eq_true rfl) (Ci.mono h (fun x22 M21 h => ?_))
    obtain ⟨h23, hOM21, h⟩ := h
    refine wm_iconst d_MM_setItem_29 ?_
    refine wm_icmp_eq (tgt := 47) d_MM_setItem_30 rfl h23 ⟨by decide, by decide⟩ (fun c25 => ?_) (fun c25 => ?_)
    · replace h := h.1 c25
      obtain ⟨h26, h⟩ := h
      obtain ⟨h27, h⟩ := h
      refine wm_aload_n d_MM_setItem_47 rfl rfl ?_
      refine gf_MM_51 rfl d_MM_setItem_48 h26 ?_
      refine wm_iload d_MM_setItem_51 rfl ?_
      refine cf_MM_155 rfl d_MM_setItem_53 h27 (Nat.le_of_ble_eq_true rfl) (Ci.mono h (fun x29 M28 h => ?_))
      obtain ⟨h30, hOM28, h⟩ := h
      refine wm_istore d_MM_setItem_56 (by decide) (L' := [vr a0, vi l1, vi l2, vi x3, vi x7, vi x29, vd]) rfl ?_
      refine wm_iload_n d_MM_setItem_58 rfl rfl ?_
      refine wm_istore d_MM_setItem_59 (by decide) (L' := [vr a0, vi l1, vi l2, vi x3, vi x7, vi x29, vi l2]) rfl ?_
      refine wm_less (L' := [vr a0, vi l1, vd, vi x3, vd, vi x29, vi l2]) ⟨Or.inr rfl, Or.inr rfl, Or.inl rfl, Or.inr rfl, Or.inl rfl, Or.inr rfl, Or.inr rfl, trivial⟩ ?_
      exact h
    · replace h := h.2 c25
      obtain ⟨h31, h⟩ := h
      refine wm_aload_n d_MM_setItem_33 rfl rfl ?_
      refine wm_iconst d_MM_setItem_34 ?_
      refine wm_aload_n d_MM_setItem_35 rfl rfl ?_
      refine wm_iload_n d_MM_setItem_36 rfl rfl ?_
      refine wm_iconst d_MM_setItem_37 ?_
      refine wm_iadd d_MM_setItem_38 ?_
      refine cf_MM_279 rfl d_MM_setItem_39 h31 (Nat.le_of_ble_eq_true rfl) (Ci.mono h (fun x33 M32 h => ?_))
      obtain ⟨h34, hOM32, h⟩ := h
      obtain ⟨h35, h⟩ := h
      refine cf_MM_351 rfl d_MM_setItem_42 h35 (Nat.le_of_ble_eq_true rfl) (Cv.mono h (fun M36 h => ?_))
      obtain ⟨hOM36, h⟩ := h
      refine wm_iload_n d_MM_setItem_45 rfl rfl ?_
      refine wm_ireturn d_MM_setItem_46 rfl rfl ?_
      exact ⟨_, rfl, h⟩
theorem k_MM_setItem_61 {G : mG} {d : Nat} {a0 : Nat} {l1 : Int} {l3 : Int} {l5 : Int} {l6 : Int} {M : mM} {Q : Int → mM → Prop} (hO : mOk M) (hi_l1 : i32 l1) (hi_l3 : i32 l3) (hi_l5 : i32 l5) (hi_l6 : i32 l6)
    (h : mK M a0 = 14 ∧ mK M (mR M a0 10) = 16 ∧ mK M (mR M (mR M a0 10) 27) = 15 ∧ ((mI M (mR M (mR M a0 10) 27) 1 ≤ l6) → (mK M (mR M (mR M a0 10) 13) = 31 ∧ ((0 : Int) ≤ l5 ∧ l5 < (mN M (mR M (mR M a0 10) 13) : Int)) ∧ Ci G y_MM_rule1 d [vr a0, vi (l1 + 4), vi l3, vi (mI M (mR M (mR M a0 10) 13) (Int.toNat l5)), vi 0] M (fun x47 M46 => i32 x47 ∧ mOk M46 ∧ (mK M46 a0 = 14 ∧ mK M46 (mR M46 a0 10) = 16 ∧ mK M46 (mR M46 (mR M46 a0 10) 27) = 15 ∧ Cv G y_MN_add d [vr (mR M46 (mR M46 a0 10) 27), vi l5] M46 (fun M52 => mOk M52 ∧ (mK M52 a0 = 14 ∧ mK M52 (mR M52 a0 10) = 16 ∧ Ci G y_MM_place0 d [vr a0, vi l1] M52 (fun x58 M57 => i32 x58 ∧ mOk M57 ∧ (mK M57 (mR M52 (mR M52 a0 10) 28) = 15 ∧ Cv G y_MN_add d [vr (mR M52 (mR M52 a0 10) 28), vi x58] M57 (fun M61 => mOk M61 ∧ (mK M61 a0 = 14 ∧ mK M61 (mR M61 a0 10) = 16 ∧ mK M61 (mR M61 (mR M61 a0 10) 29) = 15 ∧ Cv G y_MN_add d [vr (mR M61 (mR M61 a0 10) 29), vi x47] M61 (fun M67 => mOk M67 ∧ (Q (l3 + 1) M67)))))))))))) ∧ (¬ (mI M (mR M (mR M a0 10) 27) 1 ≤ l6) → (Ci G y_MN_at d [vr (mR M (mR M a0 10) 27), vi l6] M (fun x71 M70 => i32 x71 ∧ mOk M70 ∧ (((x71 = l5) → (mK M70 a0 = 14 ∧ Ci G y_MM_place0 d [vr a0, vi (l1 + 1)] M70 (fun x77 M76 => i32 x77 ∧ mOk M76 ∧ (mK M76 a0 = 14 ∧ Cv G y_MM_stop d [vr a0, vi 4, vi x77] M76 (fun M80 => mOk M80 ∧ (Q l3 M80)))))) ∧ (¬ (x71 = l5) → (h_MM_setItem_61 G d a0 l1 l3 l5 (l6 + 1) M70 Q))))))) :
    h_MM_setItem_61 G d a0 l1 l3 l5 l6 M Q := by
  unfold h_MM_setItem_61
  obtain ⟨h39, h⟩ := h
  obtain ⟨h40, h⟩ := h
  obtain ⟨h41, h⟩ := h
  refine wm_iload d_MM_setItem_61 rfl ?_
  refine wm_aload_n d_MM_setItem_63 rfl rfl ?_
  refine gf_MM_38 rfl d_MM_setItem_64 h39 ?_
  refine gf_MM_501 rfl d_MM_setItem_67 h40 ?_
  refine gf_MM_145 rfl d_MM_setItem_70 h41 ?_
  refine wm_icmp_ge (tgt := 113) d_MM_setItem_73 rfl hi_l6 (hO _ _).1 (fun c43 => ?_) (fun c43 => ?_)
  · replace h := h.1 c43
    obtain ⟨h44, h⟩ := h
    obtain ⟨h45, h⟩ := h
    refine wm_aload_n d_MM_setItem_113 rfl rfl ?_
    refine wm_iload_n d_MM_setItem_114 rfl rfl ?_
    refine wm_iconst d_MM_setItem_115 ?_
    refine wm_iadd d_MM_setItem_116 ?_
    refine wm_iload_n d_MM_setItem_117 rfl rfl ?_
    refine wm_aload_n d_MM_setItem_118 rfl rfl ?_
    refine gf_MM_38 rfl d_MM_setItem_119 h39 ?_
    refine gf_MM_357 rfl d_MM_setItem_122 h40 ?_
    refine wm_iload d_MM_setItem_125 rfl ?_
    refine wm_zald d_MM_setItem_127 h44 h45 ?_
    refine wm_iconst d_MM_setItem_128 ?_
    refine cf_MM_441 rfl d_MM_setItem_129 h39 (Nat.le_of_ble_eq_true rfl) (Ci.mono h (fun x47 M46 h => ?_))
    obtain ⟨h48, hOM46, h⟩ := h
    obtain ⟨h49, h⟩ := h
    obtain ⟨h50, h⟩ := h
    obtain ⟨h51, h⟩ := h
    refine wm_istore d_MM_setItem_132 (by decide) (L' := [vr a0, vi l1, vd, vi l3, vd, vi l5, vi x47]) rfl ?_
    refine wm_aload_n d_MM_setItem_134 rfl rfl ?_
    refine gf_MM_38 rfl d_MM_setItem_135 h49 ?_
    refine gf_MM_501 rfl d_MM_setItem_138 h50 ?_
    refine wm_iload d_MM_setItem_141 rfl ?_
    refine cf_MM_152 rfl d_MM_setItem_143 h51 (Nat.le_of_ble_eq_true rfl) (Cv.mono h (fun M52 h => ?_))
    obtain ⟨hOM52, h⟩ := h
    obtain ⟨h55, h⟩ := h
    obtain ⟨h56, h⟩ := h
    refine wm_aload_n d_MM_setItem_146 rfl rfl ?_
    refine gf_MM_38 rfl d_MM_setItem_147 h55 ?_
    refine gf_MM_513 rfl d_MM_setItem_150 h56 ?_
    refine wm_aload_n d_MM_setItem_153 rfl rfl ?_
    refine wm_iload_n d_MM_setItem_154 rfl rfl ?_
    refine cf_MM_279 rfl d_MM_setItem_155 h55 (Nat.le_of_ble_eq_true rfl) (Ci.mono h (fun x58 M57 h => ?_))
    obtain ⟨h59, hOM57, h⟩ := h
    obtain ⟨h60, h⟩ := h
    refine cf_MM_152 rfl d_MM_setItem_158 h60 (Nat.le_of_ble_eq_true rfl) (Cv.mono h (fun M61 h => ?_))
    obtain ⟨hOM61, h⟩ := h
    obtain ⟨h64, h⟩ := h
    obtain ⟨h65, h⟩ := h
    obtain ⟨h66, h⟩ := h
    refine wm_aload_n d_MM_setItem_161 rfl rfl ?_
    refine gf_MM_38 rfl d_MM_setItem_162 h64 ?_
    refine gf_MM_516 rfl d_MM_setItem_165 h65 ?_
    refine wm_iload d_MM_setItem_168 rfl ?_
    refine cf_MM_152 rfl d_MM_setItem_170 h66 (Nat.le_of_ble_eq_true rfl) (Cv.mono h (fun M67 h => ?_))
    obtain ⟨hOM67, h⟩ := h
    refine wm_iload_n d_MM_setItem_173 rfl rfl ?_
    refine wm_iconst d_MM_setItem_174 ?_
    refine wm_iadd d_MM_setItem_175 ?_
    refine wm_ireturn d_MM_setItem_176 rfl rfl ?_
    exact ⟨_, rfl, h⟩
  · replace h := h.2 c43
    refine wm_aload_n d_MM_setItem_76 rfl rfl ?_
    refine gf_MM_38 rfl d_MM_setItem_77 h39 ?_
    refine gf_MM_501 rfl d_MM_setItem_80 h40 ?_
    refine wm_iload d_MM_setItem_83 rfl ?_
    refine cf_MM_155 rfl d_MM_setItem_85 h41 (Nat.le_of_ble_eq_true rfl) (Ci.mono h (fun x71 M70 h => ?_))
    obtain ⟨h72, hOM70, h⟩ := h
    refine wm_iload d_MM_setItem_88 rfl ?_
    refine wm_icmp_ne (tgt := 107) d_MM_setItem_90 rfl h72 hi_l5 (fun c74 => ?_) (fun c74 => ?_)
    · replace h := h.2 c74
      refine wm_iinc d_MM_setItem_107 (by decide) rfl (L' := [vr a0, vi l1, vd, vi l3, vd, vi l5, vi (l6 + 1)]) rfl ?_
      refine wm_goto (tgt := 61) d_MM_setItem_110 rfl ?_
      exact h
    · replace c74 := Classical.not_not.mp c74
      replace h := h.1 c74
      obtain ⟨h75, h⟩ := h
      refine wm_aload_n d_MM_setItem_93 rfl rfl ?_
      refine wm_iconst d_MM_setItem_94 ?_
      refine wm_aload_n d_MM_setItem_95 rfl rfl ?_
      refine wm_iload_n d_MM_setItem_96 rfl rfl ?_
      refine wm_iconst d_MM_setItem_97 ?_
      refine wm_iadd d_MM_setItem_98 ?_
      refine cf_MM_279 rfl d_MM_setItem_99 h75 (Nat.le_of_ble_eq_true rfl) (Ci.mono h (fun x77 M76 h => ?_))
      obtain ⟨h78, hOM76, h⟩ := h
      obtain ⟨h79, h⟩ := h
      refine cf_MM_351 rfl d_MM_setItem_102 h79 (Nat.le_of_ble_eq_true rfl) (Cv.mono h (fun M80 h => ?_))
      obtain ⟨hOM80, h⟩ := h
      refine wm_iload_n d_MM_setItem_105 rfl rfl ?_
      refine wm_ireturn d_MM_setItem_106 rfl rfl ?_
      exact ⟨_, rfl, h⟩
theorem d_MM_compile_0 : decode y_MM_compile.2.1 0 = .ok (.aload_n 0, 1) := dc9_42 (by decide +kernel)
theorem d_MM_compile_1 : decode y_MM_compile.2.1 1 = .ok (.iconst 0, 1) := dc9_3 (by decide +kernel)
theorem d_MM_compile_2 : decode y_MM_compile.2.1 2 = .ok (.putfield 142, 3) := dc9_181 (by decide +kernel)
theorem d_MM_compile_5 : decode y_MM_compile.2.1 5 = .ok (.aload_n 0, 1) := dc9_42 (by decide +kernel)
theorem d_MM_compile_6 : decode y_MM_compile.2.1 6 = .ok (.getfield 16, 3) := dc9_180 (by decide +kernel)
theorem d_MM_compile_9 : decode y_MM_compile.2.1 9 = .ok (.astore_n 1, 1) := dc9_76 (by decide +kernel)
theorem d_MM_compile_10 : decode y_MM_compile.2.1 10 = .ok (.aload_n 0, 1) := dc9_42 (by decide +kernel)
theorem d_MM_compile_11 : decode y_MM_compile.2.1 11 = .ok (.aload_n 0, 1) := dc9_42 (by decide +kernel)
theorem d_MM_compile_12 : decode y_MM_compile.2.1 12 = .ok (.getfield 10, 3) := dc9_180 (by decide +kernel)
theorem d_MM_compile_15 : decode y_MM_compile.2.1 15 = .ok (.putfield 16, 3) := dc9_181 (by decide +kernel)
theorem d_MM_compile_18 : decode y_MM_compile.2.1 18 = .ok (.aload_n 0, 1) := dc9_42 (by decide +kernel)
theorem d_MM_compile_19 : decode y_MM_compile.2.1 19 = .ok (.aload_n 1, 1) := dc9_43 (by decide +kernel)
theorem d_MM_compile_20 : decode y_MM_compile.2.1 20 = .ok (.putfield 10, 3) := dc9_181 (by decide +kernel)
theorem d_MM_compile_23 : decode y_MM_compile.2.1 23 = .ok (.aload_n 0, 1) := dc9_42 (by decide +kernel)
theorem d_MM_compile_24 : decode y_MM_compile.2.1 24 = .ok (.getfield 10, 3) := dc9_180 (by decide +kernel)
theorem d_MM_compile_27 : decode y_MM_compile.2.1 27 = .ok (.iconst 0, 1) := dc9_3 (by decide +kernel)
theorem d_MM_compile_28 : decode y_MM_compile.2.1 28 = .ok (.putfield 145, 3) := dc9_181 (by decide +kernel)
theorem d_MM_compile_31 : decode y_MM_compile.2.1 31 = .ok (.aload_n 0, 1) := dc9_42 (by decide +kernel)
theorem d_MM_compile_32 : decode y_MM_compile.2.1 32 = .ok (.invokevirtual 519, 3) := dc9_182 (by decide +kernel)
theorem d_MM_compile_35 : decode y_MM_compile.2.1 35 = .ok (.aload_n 0, 1) := dc9_42 (by decide +kernel)
theorem d_MM_compile_36 : decode y_MM_compile.2.1 36 = .ok (.invokevirtual 522, 3) := dc9_182 (by decide +kernel)
theorem d_MM_compile_39 : decode y_MM_compile.2.1 39 = .ok (.ifCond .ne 17, 3) := dc9_154 (by decide +kernel)
theorem d_MM_compile_42 : decode y_MM_compile.2.1 42 = .ok (.aload_n 0, 1) := dc9_42 (by decide +kernel)
theorem d_MM_compile_43 : decode y_MM_compile.2.1 43 = .ok (.aload_n 0, 1) := dc9_42 (by decide +kernel)
theorem d_MM_compile_44 : decode y_MM_compile.2.1 44 = .ok (.aload_n 0, 1) := dc9_42 (by decide +kernel)
theorem d_MM_compile_45 : decode y_MM_compile.2.1 45 = .ok (.getfield 229, 3) := dc9_180 (by decide +kernel)
theorem d_MM_compile_56 : decode y_MM_compile.2.1 56 = .ok (.aload_n 0, 1) := dc9_42 (by decide +kernel)
theorem d_MM_compile_48 : decode y_MM_compile.2.1 48 = .ok (.invokevirtual 279, 3) := dc9_182 (by decide +kernel)
theorem d_MM_compile_51 : decode y_MM_compile.2.1 51 = .ok (.putfield 41, 3) := dc9_181 (by decide +kernel)
theorem d_MM_compile_54 : decode y_MM_compile.2.1 54 = .ok (.iconst 1, 1) := dc9_4 (by decide +kernel)
theorem d_MM_compile_55 : decode y_MM_compile.2.1 55 = .ok (.ireturn, 1) := dc9_172 (by decide +kernel)
theorem d_MM_compile_57 : decode y_MM_compile.2.1 57 = .ok (.invokevirtual 525, 3) := dc9_182 (by decide +kernel)
theorem d_MM_compile_60 : decode y_MM_compile.2.1 60 = .ok (.aload_n 0, 1) := dc9_42 (by decide +kernel)
theorem d_MM_compile_61 : decode y_MM_compile.2.1 61 = .ok (.getfield 267, 3) := dc9_180 (by decide +kernel)
theorem d_MM_compile_64 : decode y_MM_compile.2.1 64 = .ok (.ifCond .eq 16, 3) := dc9_153 (by decide +kernel)
theorem d_MM_compile_80 : decode y_MM_compile.2.1 80 = .ok (.aload_n 0, 1) := dc9_42 (by decide +kernel)
theorem d_MM_compile_81 : decode y_MM_compile.2.1 81 = .ok (.getfield 34, 3) := dc9_180 (by decide +kernel)
theorem d_MM_compile_84 : decode y_MM_compile.2.1 84 = .ok (.astore_n 2, 1) := dc9_77 (by decide +kernel)
theorem d_MM_compile_85 : decode y_MM_compile.2.1 85 = .ok (.aload_n 0, 1) := dc9_42 (by decide +kernel)
theorem d_MM_compile_86 : decode y_MM_compile.2.1 86 = .ok (.aload_n 0, 1) := dc9_42 (by decide +kernel)
theorem d_MM_compile_87 : decode y_MM_compile.2.1 87 = .ok (.getfield 38, 3) := dc9_180 (by decide +kernel)
theorem d_MM_compile_90 : decode y_MM_compile.2.1 90 = .ok (.putfield 34, 3) := dc9_181 (by decide +kernel)
theorem d_MM_compile_93 : decode y_MM_compile.2.1 93 = .ok (.aload_n 0, 1) := dc9_42 (by decide +kernel)
theorem d_MM_compile_94 : decode y_MM_compile.2.1 94 = .ok (.aload_n 2, 1) := dc9_44 (by decide +kernel)
theorem d_MM_compile_95 : decode y_MM_compile.2.1 95 = .ok (.putfield 38, 3) := dc9_181 (by decide +kernel)
theorem d_MM_compile_67 : decode y_MM_compile.2.1 67 = .ok (.aload_n 0, 1) := dc9_42 (by decide +kernel)
theorem d_MM_compile_68 : decode y_MM_compile.2.1 68 = .ok (.aload_n 0, 1) := dc9_42 (by decide +kernel)
theorem d_MM_compile_69 : decode y_MM_compile.2.1 69 = .ok (.getfield 270, 3) := dc9_180 (by decide +kernel)
theorem d_MM_compile_72 : decode y_MM_compile.2.1 72 = .ok (.putfield 41, 3) := dc9_181 (by decide +kernel)
theorem d_MM_compile_75 : decode y_MM_compile.2.1 75 = .ok (.aload_n 0, 1) := dc9_42 (by decide +kernel)
theorem d_MM_compile_76 : decode y_MM_compile.2.1 76 = .ok (.getfield 267, 3) := dc9_180 (by decide +kernel)
theorem d_MM_compile_79 : decode y_MM_compile.2.1 79 = .ok (.ireturn, 1) := dc9_172 (by decide +kernel)
theorem d_MM_compile_98 : decode y_MM_compile.2.1 98 = .ok (.aload_n 0, 1) := dc9_42 (by decide +kernel)
theorem d_MM_compile_99 : decode y_MM_compile.2.1 99 = .ok (.iconst 1, 1) := dc9_4 (by decide +kernel)
theorem d_MM_compile_100 : decode y_MM_compile.2.1 100 = .ok (.putfield 528, 3) := dc9_181 (by decide +kernel)
theorem d_MM_compile_103 : decode y_MM_compile.2.1 103 = .ok (.aload_n 0, 1) := dc9_42 (by decide +kernel)
theorem d_MM_compile_104 : decode y_MM_compile.2.1 104 = .ok (.iconst 0, 1) := dc9_3 (by decide +kernel)
theorem d_MM_compile_105 : decode y_MM_compile.2.1 105 = .ok (.putfield 532, 3) := dc9_181 (by decide +kernel)
theorem d_MM_compile_108 : decode y_MM_compile.2.1 108 = .ok (.aload_n 0, 1) := dc9_42 (by decide +kernel)
theorem d_MM_compile_109 : decode y_MM_compile.2.1 109 = .ok (.getfield 117, 3) := dc9_180 (by decide +kernel)
theorem d_MM_compile_112 : decode y_MM_compile.2.1 112 = .ok (.invokevirtual 535, 3) := dc9_182 (by decide +kernel)
theorem d_MM_compile_115 : decode y_MM_compile.2.1 115 = .ok (.aload_n 0, 1) := dc9_42 (by decide +kernel)
theorem d_MM_compile_116 : decode y_MM_compile.2.1 116 = .ok (.iconst (-1), 1) := dc9_2 (by decide +kernel)
theorem d_MM_compile_117 : decode y_MM_compile.2.1 117 = .ok (.putfield 41, 3) := dc9_181 (by decide +kernel)
theorem d_MM_compile_120 : decode y_MM_compile.2.1 120 = .ok (.iconst 0, 1) := dc9_3 (by decide +kernel)
theorem d_MM_compile_121 : decode y_MM_compile.2.1 121 = .ok (.ireturn, 1) := dc9_172 (by decide +kernel)
theorem k_MM_compile {G : mG} {d : Nat} {a0 : Nat} {M : mM} {Q : Int → mM → Prop} (hO : mOk M)
    (h : mK M a0 = 14 ∧ ∀ M2, M2 = mUI M a0 0 0 → ∀ M4, M4 = mUR M2 a0 2 (mR M2 a0 1) → ∀ M6, M6 = mUR M4 a0 1 (mR M2 a0 2) → mK M6 (mR M6 a0 1) = 15 ∧ ∀ M9, M9 = mUI M6 (mR M6 a0 1) 1 0 → Cv G y_MM_cut d [vr a0] M9 (fun M11 => mOk M11 ∧ (mK M11 a0 = 14 ∧ Ci G y_MM_readText d [vr a0] M11 (fun x16 M15 => i32 x16 ∧ mOk M15 ∧ (((x16 = 0) → (mK M15 a0 = 14 ∧ Ci G y_MM_place0 d [vr a0, vi (mI M15 a0 8)] M15 (fun x22 M21 => i32 x22 ∧ mOk M21 ∧ (mK M21 a0 = 14 ∧ ∀ M25, M25 = mUI M21 a0 12 x22 → Q 1 M25)))) ∧ (¬ (x16 = 0) → (mK M15 a0 = 14 ∧ Cv G y_MM_items0 d [vr a0] M15 (fun M28 => mOk M28 ∧ (mK M28 a0 = 14 ∧ ((mI M28 a0 16 = 0) → (∀ M34, M34 = mUR M28 a0 9 (mR M28 a0 10) → ∀ M36, M36 = mUR M34 a0 10 (mR M28 a0 9) → ∀ M38, M38 = mUI M36 a0 11 1 → ∀ M40, M40 = mUI M38 a0 29 0 → mK M40 (mR M40 a0 39) = 17 ∧ Cv G y_MS_clear d [vr (mR M40 a0 39)] M40 (fun M43 => mOk M43 ∧ (mK M43 a0 = 14 ∧ ∀ M47, M47 = mUI M43 a0 12 (-1) → Q 0 M47)))) ∧ (¬ (mI M28 a0 16 = 0) → (∀ M49, M49 = mUI M28 a0 12 (mI M28 a0 17) → Q (mI M49 a0 16) M49))))))))))) :
    Ci G y_MM_compile (d + 1) [vr a0] M Q := by
  refine wm_open (y := y_MM_compile) rfl (Nat.le_of_ble_eq_true rfl) (L := [vr a0, vd, vd]) rfl ?_
  obtain ⟨h1, h⟩ := h
  obtain ⟨M2, e3⟩ : ∃ M2, M2 = mUI M a0 0 0 := ⟨_, rfl⟩
  replace h := h M2 e3
  obtain ⟨M4, e5⟩ : ∃ M4, M4 = mUR M2 a0 2 (mR M2 a0 1) := ⟨_, rfl⟩
  replace h := h M4 e5
  obtain ⟨M6, e7⟩ : ∃ M6, M6 = mUR M4 a0 1 (mR M2 a0 2) := ⟨_, rfl⟩
  replace h := h M6 e7
  obtain ⟨h8, h⟩ := h
  obtain ⟨M9, e10⟩ : ∃ M9, M9 = mUI M6 (mR M6 a0 1) 1 0 := ⟨_, rfl⟩
  replace h := h M9 e10
  refine wm_aload_n d_MM_compile_0 rfl rfl ?_
  refine wm_iconst d_MM_compile_1 ?_
  have hOM2 : mOk M2 := by rw [e3]; exact mOk_UI hO ⟨by decide, by decide⟩
  refine pf_MM_142 rfl d_MM_compile_2 h1 ⟨by decide, by decide⟩ e3 ?_
  refine wm_aload_n d_MM_compile_5 rfl rfl ?_
  refine gf_MM_16 rfl d_MM_compile_6 (by rw [e3]; exact h1) ?_
  refine wm_astore_n d_MM_compile_9 rfl (by decide) (L' := [vr a0, vr (mR M2 a0 2), vd]) rfl ?_
  refine wm_aload_n d_MM_compile_10 rfl rfl ?_
  refine wm_aload_n d_MM_compile_11 rfl rfl ?_
  refine gf_MM_10 rfl d_MM_compile_12 (by rw [e3]; exact h1) ?_
  have hOM4 : mOk M4 := by rw [e5]; exact mOk_UR hOM2
  refine pf_MM_16 rfl d_MM_compile_15 (by rw [e3]; exact h1) e5 ?_
  refine wm_aload_n d_MM_compile_18 rfl rfl ?_
  refine wm_aload_n d_MM_compile_19 rfl rfl ?_
  have hOM6 : mOk M6 := by rw [e7]; exact mOk_UR hOM4
  refine pf_MM_10 rfl d_MM_compile_20 (by rw [e5, e3]; exact h1) e7 ?_
  refine wm_aload_n d_MM_compile_23 rfl rfl ?_
  refine gf_MM_10 rfl d_MM_compile_24 (by rw [e7, e5, e3]; exact h1) ?_
  refine wm_iconst d_MM_compile_27 ?_
  have hOM9 : mOk M9 := by rw [e10]; exact mOk_UI hOM6 ⟨by decide, by decide⟩
  refine pf_MM_145 rfl d_MM_compile_28 h8 ⟨by decide, by decide⟩ e10 ?_
  refine wm_aload_n d_MM_compile_31 rfl rfl ?_
  refine cf_MM_519 rfl d_MM_compile_32 (by rw [e10, e7, e5, e3]; exact h1) (Nat.le_of_ble_eq_true rfl) (Cv.mono h (fun M11 h => ?_))
  obtain ⟨hOM11, h⟩ := h
  obtain ⟨h14, h⟩ := h
  refine wm_aload_n d_MM_compile_35 rfl rfl ?_
  refine cf_MM_522 rfl d_MM_compile_36 h14 (Nat.le_of_ble_eq_true rfl) (Ci.mono h (fun x16 M15 h => ?_))
  obtain ⟨h17, hOM15, h⟩ := h
  refine wm_if_ne (tgt := 56) d_MM_compile_39 rfl h17 (fun c19 => ?_) (fun c19 => ?_)
  · replace h := h.2 c19
    obtain ⟨h27, h⟩ := h
    refine wm_aload_n d_MM_compile_56 rfl rfl ?_
    refine cf_MM_525 rfl d_MM_compile_57 h27 (Nat.le_of_ble_eq_true rfl) (Cv.mono h (fun M28 h => ?_))
    obtain ⟨hOM28, h⟩ := h
    obtain ⟨h31, h⟩ := h
    refine wm_aload_n d_MM_compile_60 rfl rfl ?_
    refine gf_MM_267 rfl d_MM_compile_61 h31 ?_
    refine wm_if_eq (tgt := 80) d_MM_compile_64 rfl (hOM28 _ _).1 (fun c33 => ?_) (fun c33 => ?_)
    · replace h := h.1 c33
      obtain ⟨M34, e35⟩ : ∃ M34, M34 = mUR M28 a0 9 (mR M28 a0 10) := ⟨_, rfl⟩
      replace h := h M34 e35
      obtain ⟨M36, e37⟩ : ∃ M36, M36 = mUR M34 a0 10 (mR M28 a0 9) := ⟨_, rfl⟩
      replace h := h M36 e37
      obtain ⟨M38, e39⟩ : ∃ M38, M38 = mUI M36 a0 11 1 := ⟨_, rfl⟩
      replace h := h M38 e39
      obtain ⟨M40, e41⟩ : ∃ M40, M40 = mUI M38 a0 29 0 := ⟨_, rfl⟩
      replace h := h M40 e41
      obtain ⟨h42, h⟩ := h
      refine wm_aload_n d_MM_compile_80 rfl rfl ?_
      refine gf_MM_34 rfl d_MM_compile_81 h31 ?_
      refine wm_astore_n d_MM_compile_84 rfl (by decide) (L' := [vr a0, vr (mR M2 a0 2), vr (mR M28 a0 9)]) rfl ?_
      refine wm_aload_n d_MM_compile_85 rfl rfl ?_
      refine wm_aload_n d_MM_compile_86 rfl rfl ?_
      refine gf_MM_38 rfl d_MM_compile_87 h31 ?_
      have hOM34 : mOk M34 := by rw [e35]; exact mOk_UR hOM28
      refine pf_MM_34 rfl d_MM_compile_90 h31 e35 ?_
      refine wm_aload_n d_MM_compile_93 rfl rfl ?_
      refine wm_aload_n d_MM_compile_94 rfl rfl ?_
      have hOM36 : mOk M36 := by rw [e37]; exact mOk_UR hOM34
      refine pf_MM_38 rfl d_MM_compile_95 (by rw [e35]; exact h31) e37 ?_
      refine wm_aload_n d_MM_compile_98 rfl rfl ?_
      refine wm_iconst d_MM_compile_99 ?_
      have hOM38 : mOk M38 := by rw [e39]; exact mOk_UI hOM36 (m_b32 (by decide))
      refine pf_MM_528 rfl d_MM_compile_100 (by rw [e37, e35]; exact h31) (by decide) e39 ?_
      refine wm_aload_n d_MM_compile_103 rfl rfl ?_
      refine wm_iconst d_MM_compile_104 ?_
      have hOM40 : mOk M40 := by rw [e41]; exact mOk_UI hOM38 ⟨by decide, by decide⟩
      refine pf_MM_532 rfl d_MM_compile_105 (by rw [e39, e37, e35]; exact h31) ⟨by decide, by decide⟩ e41 ?_
      refine wm_aload_n d_MM_compile_108 rfl rfl ?_
      refine gf_MM_117 rfl d_MM_compile_109 (by rw [e41, e39, e37, e35]; exact h31) ?_
      refine cf_MM_535 rfl d_MM_compile_112 h42 (Nat.le_of_ble_eq_true rfl) (Cv.mono h (fun M43 h => ?_))
      obtain ⟨hOM43, h⟩ := h
      obtain ⟨h46, h⟩ := h
      obtain ⟨M47, e48⟩ : ∃ M47, M47 = mUI M43 a0 12 (-1) := ⟨_, rfl⟩
      replace h := h M47 e48
      refine wm_aload_n d_MM_compile_115 rfl rfl ?_
      refine wm_iconst d_MM_compile_116 ?_
      have hOM47 : mOk M47 := by rw [e48]; exact mOk_UI hOM43 ⟨by decide, by decide⟩
      refine pf_MM_41 rfl d_MM_compile_117 h46 ⟨by decide, by decide⟩ e48 ?_
      refine wm_iconst d_MM_compile_120 ?_
      refine wm_ireturn d_MM_compile_121 rfl rfl ?_
      exact ⟨_, rfl, h⟩
    · replace h := h.2 c33
      obtain ⟨M49, e50⟩ : ∃ M49, M49 = mUI M28 a0 12 (mI M28 a0 17) := ⟨_, rfl⟩
      replace h := h M49 e50
      refine wm_aload_n d_MM_compile_67 rfl rfl ?_
      refine wm_aload_n d_MM_compile_68 rfl rfl ?_
      refine gf_MM_270 rfl d_MM_compile_69 h31 ?_
      have hOM49 : mOk M49 := by rw [e50]; exact mOk_UI hOM28 (hOM28 _ _).1
      refine pf_MM_41 rfl d_MM_compile_72 h31 (hOM28 _ _).1 e50 ?_
      refine wm_aload_n d_MM_compile_75 rfl rfl ?_
      refine gf_MM_267 rfl d_MM_compile_76 (by rw [e50]; exact h31) ?_
      refine wm_ireturn d_MM_compile_79 rfl rfl ?_
      exact ⟨_, rfl, h⟩
  · replace c19 := Classical.not_not.mp c19
    replace h := h.1 c19
    obtain ⟨h20, h⟩ := h
    refine wm_aload_n d_MM_compile_42 rfl rfl ?_
    refine wm_aload_n d_MM_compile_43 rfl rfl ?_
    refine wm_aload_n d_MM_compile_44 rfl rfl ?_
    refine gf_MM_229 rfl d_MM_compile_45 h20 ?_
    refine cf_MM_279 rfl d_MM_compile_48 h20 (Nat.le_of_ble_eq_true rfl) (Ci.mono h (fun x22 M21 h => ?_))
    obtain ⟨h23, hOM21, h⟩ := h
    obtain ⟨h24, h⟩ := h
    obtain ⟨M25, e26⟩ : ∃ M25, M25 = mUI M21 a0 12 x22 := ⟨_, rfl⟩
    replace h := h M25 e26
    have hOM25 : mOk M25 := by rw [e26]; exact mOk_UI hOM21 h23
    refine pf_MM_41 rfl d_MM_compile_51 h24 h23 e26 ?_
    refine wm_iconst d_MM_compile_54 ?_
    refine wm_ireturn d_MM_compile_55 rfl rfl ?_
    exact ⟨_, rfl, h⟩
theorem d_MM_place1_0 : decode y_MM_place1.2.1 0 = .ok (.aload_n 0, 1) := dc9_42 (by decide +kernel)
theorem d_MM_place1_1 : decode y_MM_place1.2.1 1 = .ok (.iconst 0, 1) := dc9_3 (by decide +kernel)
theorem d_MM_place1_2 : decode y_MM_place1.2.1 2 = .ok (.putfield 142, 3) := dc9_181 (by decide +kernel)
theorem d_MM_place1_5 : decode y_MM_place1.2.1 5 = .ok (.aload_n 0, 1) := dc9_42 (by decide +kernel)
theorem d_MM_place1_6 : decode y_MM_place1.2.1 6 = .ok (.getfield 41, 3) := dc9_180 (by decide +kernel)
theorem d_MM_place1_9 : decode y_MM_place1.2.1 9 = .ok (.ireturn, 1) := dc9_172 (by decide +kernel)
theorem k_MM_place1 {G : mG} {d : Nat} {a0 : Nat} {M : mM} {Q : Int → mM → Prop} (hO : mOk M)
    (h : mK M a0 = 14 ∧ ∀ M2, M2 = mUI M a0 0 0 → Q (mI M2 a0 12) M2) :
    Ci G y_MM_place1 d [vr a0] M Q := by
  refine wm_open (y := y_MM_place1) rfl (Nat.le_of_ble_eq_true rfl) (L := [vr a0]) rfl ?_
  obtain ⟨h1, h⟩ := h
  obtain ⟨M2, e3⟩ : ∃ M2, M2 = mUI M a0 0 0 := ⟨_, rfl⟩
  replace h := h M2 e3
  refine wm_aload_n d_MM_place1_0 rfl rfl ?_
  refine wm_iconst d_MM_place1_1 ?_
  have hOM2 : mOk M2 := by rw [e3]; exact mOk_UI hO ⟨by decide, by decide⟩
  refine pf_MM_142 rfl d_MM_place1_2 h1 ⟨by decide, by decide⟩ e3 ?_
  refine wm_aload_n d_MM_place1_5 rfl rfl ?_
  refine gf_MM_41 rfl d_MM_place1_6 (by rw [e3]; exact h1) ?_
  refine wm_ireturn d_MM_place1_9 rfl rfl ?_
  exact ⟨_, rfl, h⟩
theorem d_MM_items1_0 : decode y_MM_items1.2.1 0 = .ok (.aload_n 0, 1) := dc9_42 (by decide +kernel)
theorem d_MM_items1_1 : decode y_MM_items1.2.1 1 = .ok (.iconst 0, 1) := dc9_3 (by decide +kernel)
theorem d_MM_items1_2 : decode y_MM_items1.2.1 2 = .ok (.putfield 142, 3) := dc9_181 (by decide +kernel)
theorem d_MM_items1_5 : decode y_MM_items1.2.1 5 = .ok (.aload_n 0, 1) := dc9_42 (by decide +kernel)
theorem d_MM_items1_6 : decode y_MM_items1.2.1 6 = .ok (.getfield 528, 3) := dc9_180 (by decide +kernel)
theorem d_MM_items1_9 : decode y_MM_items1.2.1 9 = .ok (.ifCond .ne 7, 3) := dc9_154 (by decide +kernel)
theorem d_MM_items1_12 : decode y_MM_items1.2.1 12 = .ok (.iconst (-1), 1) := dc9_2 (by decide +kernel)
theorem d_MM_items1_13 : decode y_MM_items1.2.1 13 = .ok (.goto 48, 3) := dc9_167 (by decide +kernel)
theorem d_MM_items1_16 : decode y_MM_items1.2.1 16 = .ok (.iload_n 1, 1) := dc9_27 (by decide +kernel)
theorem d_MM_items1_17 : decode y_MM_items1.2.1 17 = .ok (.ifCond .ne 13, 3) := dc9_154 (by decide +kernel)
theorem d_MM_items1_20 : decode y_MM_items1.2.1 20 = .ok (.aload_n 0, 1) := dc9_42 (by decide +kernel)
theorem d_MM_items1_21 : decode y_MM_items1.2.1 21 = .ok (.getfield 34, 3) := dc9_180 (by decide +kernel)
theorem d_MM_items1_24 : decode y_MM_items1.2.1 24 = .ok (.getfield 456, 3) := dc9_180 (by decide +kernel)
theorem d_MM_items1_27 : decode y_MM_items1.2.1 27 = .ok (.goto 34, 3) := dc9_167 (by decide +kernel)
theorem d_MM_items1_30 : decode y_MM_items1.2.1 30 = .ok (.iload_n 1, 1) := dc9_27 (by decide +kernel)
theorem d_MM_items1_31 : decode y_MM_items1.2.1 31 = .ok (.iconst 1, 1) := dc9_4 (by decide +kernel)
theorem d_MM_items1_32 : decode y_MM_items1.2.1 32 = .ok (.if_icmp .ne 13, 3) := dc9_160 (by decide +kernel)
theorem d_MM_items1_35 : decode y_MM_items1.2.1 35 = .ok (.aload_n 0, 1) := dc9_42 (by decide +kernel)
theorem d_MM_items1_36 : decode y_MM_items1.2.1 36 = .ok (.getfield 34, 3) := dc9_180 (by decide +kernel)
theorem d_MM_items1_39 : decode y_MM_items1.2.1 39 = .ok (.getfield 447, 3) := dc9_180 (by decide +kernel)
theorem d_MM_items1_42 : decode y_MM_items1.2.1 42 = .ok (.goto 19, 3) := dc9_167 (by decide +kernel)
theorem d_MM_items1_45 : decode y_MM_items1.2.1 45 = .ok (.iload_n 1, 1) := dc9_27 (by decide +kernel)
theorem d_MM_items1_46 : decode y_MM_items1.2.1 46 = .ok (.iconst 2, 1) := dc9_5 (by decide +kernel)
theorem d_MM_items1_47 : decode y_MM_items1.2.1 47 = .ok (.if_icmp .ne 13, 3) := dc9_160 (by decide +kernel)
theorem d_MM_items1_50 : decode y_MM_items1.2.1 50 = .ok (.aload_n 0, 1) := dc9_42 (by decide +kernel)
theorem d_MM_items1_51 : decode y_MM_items1.2.1 51 = .ok (.getfield 34, 3) := dc9_180 (by decide +kernel)
theorem d_MM_items1_54 : decode y_MM_items1.2.1 54 = .ok (.getfield 474, 3) := dc9_180 (by decide +kernel)
theorem d_MM_items1_57 : decode y_MM_items1.2.1 57 = .ok (.goto 4, 3) := dc9_167 (by decide +kernel)
theorem d_MM_items1_60 : decode y_MM_items1.2.1 60 = .ok (.iconst (-1), 1) := dc9_2 (by decide +kernel)
theorem d_MM_items1_61 : decode y_MM_items1.2.1 61 = .ok (.ireturn, 1) := dc9_172 (by decide +kernel)
theorem k_MM_items1 {G : mG} {d : Nat} {a0 : Nat} {l1 : Int} {M : mM} {Q : Int → mM → Prop} (hO : mOk M) (hi_l1 : i32 l1)
    (h : mK M a0 = 14 ∧ ∀ M2, M2 = mUI M a0 0 0 → (¬ (mI M2 a0 11 = 0) → (((l1 = 0) → mK M2 (mR M2 a0 9) = 16) ∧ (¬ (l1 = 0) → (((l1 = 1) → mK M2 (mR M2 a0 9) = 16) ∧ (¬ (l1 = 1) → ((l1 = 2) → mK M2 (mR M2 a0 9) = 16)))))) ∧ ∀ v11 : Int, v11 = (if mI M2 a0 11 = 0 then (-1) else (if l1 = 0 then mI M2 (mR M2 a0 9) 12 else (if l1 = 1 then mI M2 (mR M2 a0 9) 6 else (if l1 = 2 then mI M2 (mR M2 a0 9) 18 else (-1))))) → Q v11 M2) :
    Ci G y_MM_items1 d [vr a0, vi l1] M Q := by
  refine wm_open (y := y_MM_items1) rfl (Nat.le_of_ble_eq_true rfl) (L := [vr a0, vi l1]) rfl ?_
  obtain ⟨h1, h⟩ := h
  obtain ⟨M2, e3⟩ : ∃ M2, M2 = mUI M a0 0 0 := ⟨_, rfl⟩
  replace h := h M2 e3
  refine wm_aload_n d_MM_items1_0 rfl rfl ?_
  refine wm_iconst d_MM_items1_1 ?_
  have hOM2 : mOk M2 := by rw [e3]; exact mOk_UI hO ⟨by decide, by decide⟩
  refine pf_MM_142 rfl d_MM_items1_2 h1 ⟨by decide, by decide⟩ e3 ?_
  refine wm_aload_n d_MM_items1_5 rfl rfl ?_
  refine gf_MM_528 rfl d_MM_items1_6 (by rw [e3]; exact h1) ?_
  obtain ⟨s12, h⟩ := h
  have hJ : ∀ v11 : Int, v11 = (if mI M2 a0 11 = 0 then (-1) else (if l1 = 0 then mI M2 (mR M2 a0 9) 12 else (if l1 = 1 then mI M2 (mR M2 a0 9) 6 else (if l1 = 2 then mI M2 (mR M2 a0 9) 18 else (-1))))) → mWm G y_MM_items1 d 61 [vd, vd] [vi v11] M2 (fun r9 M9 => ∃ x9, r9 = some (vi x9) ∧ Q x9 M9) := by
    intro v11 e13
    have h := h v11 e13
    refine wm_ireturn d_MM_items1_61 rfl rfl ?_
    exact ⟨_, rfl, h⟩
  clear h
  have s14 := s12
  refine wm_if_ne (tgt := 16) d_MM_items1_9 rfl (hOM2 _ _).1 (fun c4 => ?_) (fun c4 => ?_)
  · have s14 := s14 c4
    obtain ⟨s15, s16⟩ := s14
    refine wm_iload_n d_MM_items1_16 rfl rfl ?_
    refine wm_if_ne (tgt := 30) d_MM_items1_17 rfl hi_l1 (fun c5 => ?_) (fun c5 => ?_)
    · have s16 := s16 c5
      obtain ⟨s17, s18⟩ := s16
      refine wm_iload_n d_MM_items1_30 rfl rfl ?_
      refine wm_iconst d_MM_items1_31 ?_
      refine wm_icmp_ne (tgt := 45) d_MM_items1_32 rfl hi_l1 ⟨by decide, by decide⟩ (fun c7 => ?_) (fun c7 => ?_)
      · have s18 := s18 c7
        have s19 := s18
        refine wm_iload_n d_MM_items1_45 rfl rfl ?_
        refine wm_iconst d_MM_items1_46 ?_
        refine wm_icmp_ne (tgt := 60) d_MM_items1_47 rfl hi_l1 ⟨by decide, by decide⟩ (fun c9 => ?_) (fun c9 => ?_)
        · refine wm_iconst d_MM_items1_60 ?_
          refine wm_less (L' := [vd, vd]) ⟨Or.inl rfl, Or.inl rfl, trivial⟩ ?_
          exact hJ (-1) (by rw [if_neg c4, if_neg c5, if_neg c7, if_neg c9])
        · replace c9 := Classical.not_not.mp c9
          have s19 := s19 c9
          have h10 := s19
          refine wm_aload_n d_MM_items1_50 rfl rfl ?_
          refine gf_MM_34 rfl d_MM_items1_51 (by rw [e3]; exact h1) ?_
          refine gf_MM_474 rfl d_MM_items1_54 h10 ?_
          refine wm_goto (tgt := 61) d_MM_items1_57 rfl ?_
          refine wm_less (L' := [vd, vd]) ⟨Or.inl rfl, Or.inl rfl, trivial⟩ ?_
          exact hJ (mI M2 (mR M2 a0 9) 18) (by rw [if_neg c4, if_neg c5, if_neg c7, if_pos c9])
      · replace c7 := Classical.not_not.mp c7
        have s17 := s17 c7
        have h8 := s17
        refine wm_aload_n d_MM_items1_35 rfl rfl ?_
        refine gf_MM_34 rfl d_MM_items1_36 (by rw [e3]; exact h1) ?_
        refine gf_MM_447 rfl d_MM_items1_39 h8 ?_
        refine wm_goto (tgt := 61) d_MM_items1_42 rfl ?_
        refine wm_less (L' := [vd, vd]) ⟨Or.inl rfl, Or.inl rfl, trivial⟩ ?_
        exact hJ (mI M2 (mR M2 a0 9) 6) (by rw [if_neg c4, if_neg c5, if_pos c7])
    · replace c5 := Classical.not_not.mp c5
      have s15 := s15 c5
      have h6 := s15
      refine wm_aload_n d_MM_items1_20 rfl rfl ?_
      refine gf_MM_34 rfl d_MM_items1_21 (by rw [e3]; exact h1) ?_
      refine gf_MM_456 rfl d_MM_items1_24 h6 ?_
      refine wm_goto (tgt := 61) d_MM_items1_27 rfl ?_
      refine wm_less (L' := [vd, vd]) ⟨Or.inl rfl, Or.inl rfl, trivial⟩ ?_
      exact hJ (mI M2 (mR M2 a0 9) 12) (by rw [if_neg c4, if_pos c5])
  · replace c4 := Classical.not_not.mp c4
    refine wm_iconst d_MM_items1_12 ?_
    refine wm_goto (tgt := 61) d_MM_items1_13 rfl ?_
    refine wm_less (L' := [vd, vd]) ⟨Or.inl rfl, Or.inl rfl, trivial⟩ ?_
    exact hJ (-1) (by rw [if_pos c4])
theorem d_MM_reach_0 : decode y_MM_reach.2.1 0 = .ok (.aload_n 0, 1) := dc9_42 (by decide +kernel)
theorem d_MM_reach_1 : decode y_MM_reach.2.1 1 = .ok (.aload_n 0, 1) := dc9_42 (by decide +kernel)
theorem d_MM_reach_2 : decode y_MM_reach.2.1 2 = .ok (.getfield 34, 3) := dc9_180 (by decide +kernel)
theorem d_MM_reach_5 : decode y_MM_reach.2.1 5 = .ok (.iload_n 1, 1) := dc9_27 (by decide +kernel)
theorem d_MM_reach_6 : decode y_MM_reach.2.1 6 = .ok (.invokevirtual 450, 3) := dc9_182 (by decide +kernel)
theorem d_MM_reach_9 : decode y_MM_reach.2.1 9 = .ok (.return_, 1) := dc9_177 (by decide +kernel)
theorem k_MM_reach {G : mG} {d : Nat} {a0 : Nat} {l1 : Int} {M : mM} {Q : mM → Prop} (hO : mOk M) (hi_l1 : i32 l1)
    (h : mK M a0 = 14 ∧ Cv G y_MM_workOut d [vr a0, vr (mR M a0 9), vi l1] M (fun M2 => mOk M2 ∧ (Q M2))) :
    Cv G y_MM_reach (d + 1) [vr a0, vi l1] M Q := by
  refine wm_open (y := y_MM_reach) rfl (Nat.le_of_ble_eq_true rfl) (L := [vr a0, vi l1]) rfl ?_
  obtain ⟨h1, h⟩ := h
  refine wm_aload_n d_MM_reach_0 rfl rfl ?_
  refine wm_aload_n d_MM_reach_1 rfl rfl ?_
  refine gf_MM_34 rfl d_MM_reach_2 h1 ?_
  refine wm_iload_n d_MM_reach_5 rfl rfl ?_
  refine cf_MM_450 rfl d_MM_reach_6 h1 (Nat.le_of_ble_eq_true rfl) (Cv.mono h (fun M2 h => ?_))
  obtain ⟨hOM2, h⟩ := h
  refine wm_return d_MM_reach_9 rfl ?_
  exact ⟨rfl, h⟩
theorem d_MM_enter_0 : decode y_MM_enter.2.1 0 = .ok (.iconst 0, 1) := dc9_3 (by decide +kernel)
theorem d_MM_enter_1 : decode y_MM_enter.2.1 1 = .ok (.istore_n 2, 1) := dc9_61 (by decide +kernel)
theorem d_MM_enter_2 : decode y_MM_enter.2.1 2 = .ok (.iload_n 2, 1) := dc9_28 (by decide +kernel)
theorem d_MM_enter_3 : decode y_MM_enter.2.1 3 = .ok (.aload_n 0, 1) := dc9_42 (by decide +kernel)
theorem d_MM_enter_4 : decode y_MM_enter.2.1 4 = .ok (.getfield 34, 3) := dc9_180 (by decide +kernel)
theorem d_MM_enter_7 : decode y_MM_enter.2.1 7 = .ok (.getfield 456, 3) := dc9_180 (by decide +kernel)
theorem d_MM_enter_10 : decode y_MM_enter.2.1 10 = .ok (.if_icmp .ge 26, 3) := dc9_162 (by decide +kernel)
theorem d_MM_enter_36 : decode y_MM_enter.2.1 36 = .ok (.iconst 0, 1) := dc9_3 (by decide +kernel)
theorem d_MM_enter_37 : decode y_MM_enter.2.1 37 = .ok (.istore_n 2, 1) := dc9_61 (by decide +kernel)
theorem d_MM_enter_13 : decode y_MM_enter.2.1 13 = .ok (.aload_n 0, 1) := dc9_42 (by decide +kernel)
theorem d_MM_enter_14 : decode y_MM_enter.2.1 14 = .ok (.getfield 73, 3) := dc9_180 (by decide +kernel)
theorem d_MM_enter_17 : decode y_MM_enter.2.1 17 = .ok (.iload_n 2, 1) := dc9_28 (by decide +kernel)
theorem d_MM_enter_18 : decode y_MM_enter.2.1 18 = .ok (.aload_n 0, 1) := dc9_42 (by decide +kernel)
theorem d_MM_enter_19 : decode y_MM_enter.2.1 19 = .ok (.getfield 90, 3) := dc9_180 (by decide +kernel)
theorem d_MM_enter_22 : decode y_MM_enter.2.1 22 = .ok (.bipush 12, 2) := dc9_16 (by decide +kernel)
theorem d_MM_enter_24 : decode y_MM_enter.2.1 24 = .ok (.iload_n 1, 1) := dc9_27 (by decide +kernel)
theorem d_MM_enter_25 : decode y_MM_enter.2.1 25 = .ok (.imul, 1) := dc9_104 (by decide +kernel)
theorem d_MM_enter_26 : decode y_MM_enter.2.1 26 = .ok (.iload_n 2, 1) := dc9_28 (by decide +kernel)
theorem d_MM_enter_27 : decode y_MM_enter.2.1 27 = .ok (.iadd, 1) := dc9_96 (by decide +kernel)
theorem d_MM_enter_28 : decode y_MM_enter.2.1 28 = .ok (.iaload, 1) := dc9_46 (by decide +kernel)
theorem d_MM_enter_29 : decode y_MM_enter.2.1 29 = .ok (.iastore, 1) := dc9_79 (by decide +kernel)
theorem d_MM_enter_30 : decode y_MM_enter.2.1 30 = .ok (.iinc 2 1, 3) := by decide +kernel
theorem d_MM_enter_33 : decode y_MM_enter.2.1 33 = .ok (.goto (-31), 3) := dc9_167 (by decide +kernel)
theorem d_MM_enter_38 : decode y_MM_enter.2.1 38 = .ok (.iload_n 2, 1) := dc9_28 (by decide +kernel)
theorem d_MM_enter_39 : decode y_MM_enter.2.1 39 = .ok (.aload_n 0, 1) := dc9_42 (by decide +kernel)
theorem d_MM_enter_40 : decode y_MM_enter.2.1 40 = .ok (.getfield 34, 3) := dc9_180 (by decide +kernel)
theorem d_MM_enter_43 : decode y_MM_enter.2.1 43 = .ok (.getfield 447, 3) := dc9_180 (by decide +kernel)
theorem d_MM_enter_46 : decode y_MM_enter.2.1 46 = .ok (.if_icmp .ge 16, 3) := dc9_162 (by decide +kernel)
theorem d_MM_enter_62 : decode y_MM_enter.2.1 62 = .ok (.return_, 1) := dc9_177 (by decide +kernel)
theorem d_MM_enter_49 : decode y_MM_enter.2.1 49 = .ok (.aload_n 0, 1) := dc9_42 (by decide +kernel)
theorem d_MM_enter_50 : decode y_MM_enter.2.1 50 = .ok (.getfield 77, 3) := dc9_180 (by decide +kernel)
theorem d_MM_enter_53 : decode y_MM_enter.2.1 53 = .ok (.iload_n 2, 1) := dc9_28 (by decide +kernel)
theorem d_MM_enter_54 : decode y_MM_enter.2.1 54 = .ok (.iconst 0, 1) := dc9_3 (by decide +kernel)
theorem d_MM_enter_55 : decode y_MM_enter.2.1 55 = .ok (.bastore, 1) := dc9_84 (by decide +kernel)
theorem d_MM_enter_56 : decode y_MM_enter.2.1 56 = .ok (.iinc 2 1, 3) := by decide +kernel
theorem d_MM_enter_59 : decode y_MM_enter.2.1 59 = .ok (.goto (-21), 3) := dc9_167 (by decide +kernel)
def h_MM_enter_2 (G : mG) (d : Nat) (a0 : Nat) (l1 : Int) (l2 : Int) (M : mM) (Q : mM → Prop) : Prop := mWm G y_MM_enter d 2 [vr a0, vi l1, vi l2] [] M (fun r9 M9 => r9 = none ∧ Q M9)
def h_MM_enter_38 (G : mG) (d : Nat) (a0 : Nat) (l2 : Int) (M : mM) (Q : mM → Prop) : Prop := mWm G y_MM_enter d 38 [vr a0, vd, vi l2] [] M (fun r9 M9 => r9 = none ∧ Q M9)
theorem k_MM_enter {G : mG} {d : Nat} {a0 : Nat} {l1 : Int} {M : mM} {Q : mM → Prop} (hO : mOk M) (hi_l1 : i32 l1)
    (h : h_MM_enter_2 G d a0 l1 0 M Q) :
    Cv G y_MM_enter d [vr a0, vi l1] M Q := by
  refine wm_open (y := y_MM_enter) rfl (Nat.le_of_ble_eq_true rfl) (L := [vr a0, vi l1, vd]) rfl ?_
  refine wm_iconst d_MM_enter_0 ?_
  refine wm_istore_n d_MM_enter_1 rfl (by decide) (L' := [vr a0, vi l1, vi 0]) rfl ?_
  exact h
theorem k_MM_enter_2 {G : mG} {d : Nat} {a0 : Nat} {l1 : Int} {l2 : Int} {M : mM} {Q : mM → Prop} (hO : mOk M) (hi_l1 : i32 l1) (hi_l2 : i32 l2)
    (h : mK M a0 = 14 ∧ mK M (mR M a0 9) = 16 ∧ ((mI M (mR M a0 9) 12 ≤ l2) → (h_MM_enter_38 G d a0 0 M Q)) ∧ (¬ (mI M (mR M a0 9) 12 ≤ l2) → (mK M (mR M a0 31) = 30 ∧ ((0 : Int) ≤ (12 * l1) + l2 ∧ (12 * l1) + l2 < (mN M (mR M a0 31) : Int)) ∧ mK M (mR M a0 25) = 30 ∧ ((0 : Int) ≤ l2 ∧ l2 < (mN M (mR M a0 25) : Int)) ∧ ∀ M13, M13 = mUI M (mR M a0 25) (Int.toNat l2) (mI M (mR M a0 31) (Int.toNat ((12 * l1) + l2))) → h_MM_enter_2 G d a0 l1 (l2 + 1) M13 Q))) :
    h_MM_enter_2 G d a0 l1 l2 M Q := by
  unfold h_MM_enter_2
  obtain ⟨h1, h⟩ := h
  obtain ⟨h2, h⟩ := h
  refine wm_iload_n d_MM_enter_2 rfl rfl ?_
  refine wm_aload_n d_MM_enter_3 rfl rfl ?_
  refine gf_MM_34 rfl d_MM_enter_4 h1 ?_
  refine gf_MM_456 rfl d_MM_enter_7 h2 ?_
  refine wm_icmp_ge (tgt := 36) d_MM_enter_10 rfl hi_l2 (hO _ _).1 (fun c8 => ?_) (fun c8 => ?_)
  · replace h := h.1 c8
    refine wm_iconst d_MM_enter_36 ?_
    refine wm_istore_n d_MM_enter_37 rfl (by decide) (L' := [vr a0, vi l1, vi 0]) rfl ?_
    refine wm_less (L' := [vr a0, vd, vi 0]) ⟨Or.inr rfl, Or.inl rfl, Or.inr rfl, trivial⟩ ?_
    exact h
  · replace h := h.2 c8
    obtain ⟨h9, h⟩ := h
    obtain ⟨h10, h⟩ := h
    obtain ⟨h11, h⟩ := h
    obtain ⟨h12, h⟩ := h
    obtain ⟨M13, e14⟩ : ∃ M13, M13 = mUI M (mR M a0 25) (Int.toNat l2) (mI M (mR M a0 31) (Int.toNat ((12 * l1) + l2))) := ⟨_, rfl⟩
    replace h := h M13 e14
    refine wm_aload_n d_MM_enter_13 rfl rfl ?_
    refine gf_MM_73 rfl d_MM_enter_14 h1 ?_
    refine wm_iload_n d_MM_enter_17 rfl rfl ?_
    refine wm_aload_n d_MM_enter_18 rfl rfl ?_
    refine gf_MM_90 rfl d_MM_enter_19 h1 ?_
    refine wm_bipush d_MM_enter_22 (by decide) ?_
    refine wm_iload_n d_MM_enter_24 rfl rfl ?_
    refine wm_imul d_MM_enter_25 ?_
    refine wm_iload_n d_MM_enter_26 rfl rfl ?_
    refine wm_iadd d_MM_enter_27 ?_
    refine wm_iald d_MM_enter_28 h9 h10 ?_
    have hOM13 : mOk M13 := by rw [e14]; exact mOk_UI hO (hO _ _).1
    refine wm_iastE d_MM_enter_29 h11 h12 (hO _ _).1 e14 ?_
    refine wm_iinc d_MM_enter_30 (by decide) rfl (L' := [vr a0, vi l1, vi (l2 + 1)]) rfl ?_
    refine wm_goto (tgt := 2) d_MM_enter_33 rfl ?_
    exact h
theorem k_MM_enter_38 {G : mG} {d : Nat} {a0 : Nat} {l2 : Int} {M : mM} {Q : mM → Prop} (hO : mOk M) (hi_l2 : i32 l2)
    (h : mK M a0 = 14 ∧ mK M (mR M a0 9) = 16 ∧ ((mI M (mR M a0 9) 6 ≤ l2) → (Q M)) ∧ (¬ (mI M (mR M a0 9) 6 ≤ l2) → (mK M (mR M a0 26) = 31 ∧ ((0 : Int) ≤ l2 ∧ l2 < (mN M (mR M a0 26) : Int)) ∧ ∀ M23, M23 = mUI M (mR M a0 26) (Int.toNat l2) 0 → h_MM_enter_38 G d a0 (l2 + 1) M23 Q))) :
    h_MM_enter_38 G d a0 l2 M Q := by
  unfold h_MM_enter_38
  obtain ⟨h15, h⟩ := h
  obtain ⟨h16, h⟩ := h
  refine wm_iload_n d_MM_enter_38 rfl rfl ?_
  refine wm_aload_n d_MM_enter_39 rfl rfl ?_
  refine gf_MM_34 rfl d_MM_enter_40 h15 ?_
  refine gf_MM_447 rfl d_MM_enter_43 h16 ?_
  refine wm_icmp_ge (tgt := 62) d_MM_enter_46 rfl hi_l2 (hO _ _).1 (fun c20 => ?_) (fun c20 => ?_)
  · replace h := h.1 c20
    refine wm_return d_MM_enter_62 rfl ?_
    exact ⟨rfl, h⟩
  · replace h := h.2 c20
    obtain ⟨h21, h⟩ := h
    obtain ⟨h22, h⟩ := h
    obtain ⟨M23, e24⟩ : ∃ M23, M23 = mUI M (mR M a0 26) (Int.toNat l2) 0 := ⟨_, rfl⟩
    replace h := h M23 e24
    refine wm_aload_n d_MM_enter_49 rfl rfl ?_
    refine gf_MM_77 rfl d_MM_enter_50 h15 ?_
    refine wm_iload_n d_MM_enter_53 rfl rfl ?_
    refine wm_iconst d_MM_enter_54 ?_
    have hOM23 : mOk M23 := by rw [e24]; exact mOk_UI hO (m_b32 (by decide))
    refine wm_zastE d_MM_enter_55 h21 h22 (by decide) e24 ?_
    refine wm_iinc d_MM_enter_56 (by decide) rfl (L' := [vr a0, vd, vi (l2 + 1)]) rfl ?_
    refine wm_goto (tgt := 38) d_MM_enter_59 rfl ?_
    exact h
theorem d_MM_explore_0 : decode y_MM_explore.2.1 0 = .ok (.aload_n 0, 1) := dc9_42 (by decide +kernel)
theorem d_MM_explore_1 : decode y_MM_explore.2.1 1 = .ok (.aload_n 0, 1) := dc9_42 (by decide +kernel)
theorem d_MM_explore_2 : decode y_MM_explore.2.1 2 = .ok (.getfield 528, 3) := dc9_180 (by decide +kernel)
theorem d_MM_explore_5 : decode y_MM_explore.2.1 5 = .ok (.ifCond .eq 7, 3) := dc9_153 (by decide +kernel)
theorem d_MM_explore_12 : decode y_MM_explore.2.1 12 = .ok (.iconst 1, 1) := dc9_4 (by decide +kernel)
theorem d_MM_explore_8 : decode y_MM_explore.2.1 8 = .ok (.iconst 0, 1) := dc9_3 (by decide +kernel)
theorem d_MM_explore_9 : decode y_MM_explore.2.1 9 = .ok (.goto 4, 3) := dc9_167 (by decide +kernel)
theorem d_MM_explore_13 : decode y_MM_explore.2.1 13 = .ok (.putfield 142, 3) := dc9_181 (by decide +kernel)
theorem d_MM_explore_16 : decode y_MM_explore.2.1 16 = .ok (.aload_n 0, 1) := dc9_42 (by decide +kernel)
theorem d_MM_explore_17 : decode y_MM_explore.2.1 17 = .ok (.getfield 142, 3) := dc9_180 (by decide +kernel)
theorem d_MM_explore_20 : decode y_MM_explore.2.1 20 = .ok (.ifCond .le 5, 3) := dc9_158 (by decide +kernel)
theorem d_MM_explore_25 : decode y_MM_explore.2.1 25 = .ok (.aload_n 0, 1) := dc9_42 (by decide +kernel)
theorem d_MM_explore_26 : decode y_MM_explore.2.1 26 = .ok (.iconst 1, 1) := dc9_4 (by decide +kernel)
theorem d_MM_explore_27 : decode y_MM_explore.2.1 27 = .ok (.putfield 532, 3) := dc9_181 (by decide +kernel)
theorem d_MM_explore_30 : decode y_MM_explore.2.1 30 = .ok (.aload_n 0, 1) := dc9_42 (by decide +kernel)
theorem d_MM_explore_31 : decode y_MM_explore.2.1 31 = .ok (.iconst 0, 1) := dc9_3 (by decide +kernel)
theorem d_MM_explore_32 : decode y_MM_explore.2.1 32 = .ok (.putfield 536, 3) := dc9_181 (by decide +kernel)
theorem d_MM_explore_23 : decode y_MM_explore.2.1 23 = .ok (.iconst 0, 1) := dc9_3 (by decide +kernel)
theorem d_MM_explore_24 : decode y_MM_explore.2.1 24 = .ok (.ireturn, 1) := dc9_172 (by decide +kernel)
theorem d_MM_explore_35 : decode y_MM_explore.2.1 35 = .ok (.aload_n 0, 1) := dc9_42 (by decide +kernel)
theorem d_MM_explore_36 : decode y_MM_explore.2.1 36 = .ok (.getfield 102, 3) := dc9_180 (by decide +kernel)
theorem d_MM_explore_39 : decode y_MM_explore.2.1 39 = .ok (.iconst 0, 1) := dc9_3 (by decide +kernel)
theorem d_MM_explore_40 : decode y_MM_explore.2.1 40 = .ok (.putfield 145, 3) := dc9_181 (by decide +kernel)
theorem d_MM_explore_43 : decode y_MM_explore.2.1 43 = .ok (.aload_n 0, 1) := dc9_42 (by decide +kernel)
theorem d_MM_explore_44 : decode y_MM_explore.2.1 44 = .ok (.getfield 105, 3) := dc9_180 (by decide +kernel)
theorem d_MM_explore_47 : decode y_MM_explore.2.1 47 = .ok (.iconst 0, 1) := dc9_3 (by decide +kernel)
theorem d_MM_explore_48 : decode y_MM_explore.2.1 48 = .ok (.putfield 145, 3) := dc9_181 (by decide +kernel)
theorem d_MM_explore_51 : decode y_MM_explore.2.1 51 = .ok (.aload_n 0, 1) := dc9_42 (by decide +kernel)
theorem d_MM_explore_52 : decode y_MM_explore.2.1 52 = .ok (.getfield 108, 3) := dc9_180 (by decide +kernel)
theorem d_MM_explore_55 : decode y_MM_explore.2.1 55 = .ok (.iconst 0, 1) := dc9_3 (by decide +kernel)
theorem d_MM_explore_56 : decode y_MM_explore.2.1 56 = .ok (.putfield 145, 3) := dc9_181 (by decide +kernel)
theorem d_MM_explore_59 : decode y_MM_explore.2.1 59 = .ok (.aload_n 0, 1) := dc9_42 (by decide +kernel)
theorem d_MM_explore_60 : decode y_MM_explore.2.1 60 = .ok (.getfield 111, 3) := dc9_180 (by decide +kernel)
theorem d_MM_explore_63 : decode y_MM_explore.2.1 63 = .ok (.iconst 0, 1) := dc9_3 (by decide +kernel)
theorem d_MM_explore_64 : decode y_MM_explore.2.1 64 = .ok (.putfield 145, 3) := dc9_181 (by decide +kernel)
theorem d_MM_explore_67 : decode y_MM_explore.2.1 67 = .ok (.aload_n 0, 1) := dc9_42 (by decide +kernel)
theorem d_MM_explore_68 : decode y_MM_explore.2.1 68 = .ok (.getfield 117, 3) := dc9_180 (by decide +kernel)
theorem d_MM_explore_71 : decode y_MM_explore.2.1 71 = .ok (.invokevirtual 535, 3) := dc9_182 (by decide +kernel)
theorem d_MM_explore_74 : decode y_MM_explore.2.1 74 = .ok (.aload_n 0, 1) := dc9_42 (by decide +kernel)
theorem d_MM_explore_75 : decode y_MM_explore.2.1 75 = .ok (.iconst 0, 1) := dc9_3 (by decide +kernel)
theorem d_MM_explore_76 : decode y_MM_explore.2.1 76 = .ok (.putfield 267, 3) := dc9_181 (by decide +kernel)
theorem d_MM_explore_79 : decode y_MM_explore.2.1 79 = .ok (.iconst 0, 1) := dc9_3 (by decide +kernel)
theorem d_MM_explore_80 : decode y_MM_explore.2.1 80 = .ok (.istore_n 1, 1) := dc9_60 (by decide +kernel)
theorem d_MM_explore_81 : decode y_MM_explore.2.1 81 = .ok (.iload_n 1, 1) := dc9_27 (by decide +kernel)
theorem d_MM_explore_82 : decode y_MM_explore.2.1 82 = .ok (.aload_n 0, 1) := dc9_42 (by decide +kernel)
theorem d_MM_explore_83 : decode y_MM_explore.2.1 83 = .ok (.getfield 34, 3) := dc9_180 (by decide +kernel)
theorem d_MM_explore_86 : decode y_MM_explore.2.1 86 = .ok (.getfield 456, 3) := dc9_180 (by decide +kernel)
theorem d_MM_explore_89 : decode y_MM_explore.2.1 89 = .ok (.if_icmp .ge 24, 3) := dc9_162 (by decide +kernel)
theorem d_MM_explore_113 : decode y_MM_explore.2.1 113 = .ok (.iconst 0, 1) := dc9_3 (by decide +kernel)
theorem d_MM_explore_114 : decode y_MM_explore.2.1 114 = .ok (.istore_n 1, 1) := dc9_60 (by decide +kernel)
theorem d_MM_explore_92 : decode y_MM_explore.2.1 92 = .ok (.aload_n 0, 1) := dc9_42 (by decide +kernel)
theorem d_MM_explore_93 : decode y_MM_explore.2.1 93 = .ok (.getfield 90, 3) := dc9_180 (by decide +kernel)
theorem d_MM_explore_96 : decode y_MM_explore.2.1 96 = .ok (.iload_n 1, 1) := dc9_27 (by decide +kernel)
theorem d_MM_explore_97 : decode y_MM_explore.2.1 97 = .ok (.aload_n 0, 1) := dc9_42 (by decide +kernel)
theorem d_MM_explore_98 : decode y_MM_explore.2.1 98 = .ok (.getfield 34, 3) := dc9_180 (by decide +kernel)
theorem d_MM_explore_101 : decode y_MM_explore.2.1 101 = .ok (.getfield 469, 3) := dc9_180 (by decide +kernel)
theorem d_MM_explore_104 : decode y_MM_explore.2.1 104 = .ok (.iload_n 1, 1) := dc9_27 (by decide +kernel)
theorem d_MM_explore_105 : decode y_MM_explore.2.1 105 = .ok (.iaload, 1) := dc9_46 (by decide +kernel)
theorem d_MM_explore_106 : decode y_MM_explore.2.1 106 = .ok (.iastore, 1) := dc9_79 (by decide +kernel)
theorem d_MM_explore_107 : decode y_MM_explore.2.1 107 = .ok (.iinc 1 1, 3) := by decide +kernel
theorem d_MM_explore_110 : decode y_MM_explore.2.1 110 = .ok (.goto (-29), 3) := dc9_167 (by decide +kernel)
theorem d_MM_explore_115 : decode y_MM_explore.2.1 115 = .ok (.iload_n 1, 1) := dc9_27 (by decide +kernel)
theorem d_MM_explore_116 : decode y_MM_explore.2.1 116 = .ok (.aload_n 0, 1) := dc9_42 (by decide +kernel)
theorem d_MM_explore_117 : decode y_MM_explore.2.1 117 = .ok (.getfield 532, 3) := dc9_180 (by decide +kernel)
theorem d_MM_explore_120 : decode y_MM_explore.2.1 120 = .ok (.if_icmp .ge 21, 3) := dc9_162 (by decide +kernel)
theorem d_MM_explore_123 : decode y_MM_explore.2.1 123 = .ok (.aload_n 0, 1) := dc9_42 (by decide +kernel)
theorem d_MM_explore_124 : decode y_MM_explore.2.1 124 = .ok (.getfield 267, 3) := dc9_180 (by decide +kernel)
theorem d_MM_explore_127 : decode y_MM_explore.2.1 127 = .ok (.ifCond .ne 14, 3) := dc9_154 (by decide +kernel)
theorem d_MM_explore_130 : decode y_MM_explore.2.1 130 = .ok (.aload_n 0, 1) := dc9_42 (by decide +kernel)
theorem d_MM_explore_131 : decode y_MM_explore.2.1 131 = .ok (.iload_n 1, 1) := dc9_27 (by decide +kernel)
theorem d_MM_explore_141 : decode y_MM_explore.2.1 141 = .ok (.aload_n 0, 1) := dc9_42 (by decide +kernel)
theorem d_MM_explore_142 : decode y_MM_explore.2.1 142 = .ok (.aload_n 0, 1) := dc9_42 (by decide +kernel)
theorem d_MM_explore_143 : decode y_MM_explore.2.1 143 = .ok (.getfield 267, 3) := dc9_180 (by decide +kernel)
theorem d_MM_explore_146 : decode y_MM_explore.2.1 146 = .ok (.ifCond .ne 7, 3) := dc9_154 (by decide +kernel)
theorem d_MM_explore_149 : decode y_MM_explore.2.1 149 = .ok (.iconst (-1), 1) := dc9_2 (by decide +kernel)
theorem d_MM_explore_150 : decode y_MM_explore.2.1 150 = .ok (.goto 6, 3) := dc9_167 (by decide +kernel)
theorem d_MM_explore_153 : decode y_MM_explore.2.1 153 = .ok (.iload_n 1, 1) := dc9_27 (by decide +kernel)
theorem d_MM_explore_154 : decode y_MM_explore.2.1 154 = .ok (.iconst 1, 1) := dc9_4 (by decide +kernel)
theorem d_MM_explore_155 : decode y_MM_explore.2.1 155 = .ok (.isub, 1) := dc9_100 (by decide +kernel)
theorem d_MM_explore_156 : decode y_MM_explore.2.1 156 = .ok (.putfield 87, 3) := dc9_181 (by decide +kernel)
theorem d_MM_explore_159 : decode y_MM_explore.2.1 159 = .ok (.aload_n 0, 1) := dc9_42 (by decide +kernel)
theorem d_MM_explore_160 : decode y_MM_explore.2.1 160 = .ok (.aload_n 0, 1) := dc9_42 (by decide +kernel)
theorem d_MM_explore_161 : decode y_MM_explore.2.1 161 = .ok (.getfield 267, 3) := dc9_180 (by decide +kernel)
theorem d_MM_explore_164 : decode y_MM_explore.2.1 164 = .ok (.ifCond .ne 7, 3) := dc9_154 (by decide +kernel)
theorem d_MM_explore_167 : decode y_MM_explore.2.1 167 = .ok (.iconst (-1), 1) := dc9_2 (by decide +kernel)
theorem d_MM_explore_168 : decode y_MM_explore.2.1 168 = .ok (.goto 7, 3) := dc9_167 (by decide +kernel)
theorem d_MM_explore_171 : decode y_MM_explore.2.1 171 = .ok (.aload_n 0, 1) := dc9_42 (by decide +kernel)
theorem d_MM_explore_172 : decode y_MM_explore.2.1 172 = .ok (.getfield 270, 3) := dc9_180 (by decide +kernel)
theorem d_MM_explore_175 : decode y_MM_explore.2.1 175 = .ok (.putfield 41, 3) := dc9_181 (by decide +kernel)
theorem d_MM_explore_178 : decode y_MM_explore.2.1 178 = .ok (.aload_n 0, 1) := dc9_42 (by decide +kernel)
theorem d_MM_explore_179 : decode y_MM_explore.2.1 179 = .ok (.aload_n 0, 1) := dc9_42 (by decide +kernel)
theorem d_MM_explore_180 : decode y_MM_explore.2.1 180 = .ok (.getfield 267, 3) := dc9_180 (by decide +kernel)
theorem d_MM_explore_183 : decode y_MM_explore.2.1 183 = .ok (.ifCond .ne 10, 3) := dc9_154 (by decide +kernel)
theorem d_MM_explore_186 : decode y_MM_explore.2.1 186 = .ok (.aload_n 0, 1) := dc9_42 (by decide +kernel)
theorem d_MM_explore_187 : decode y_MM_explore.2.1 187 = .ok (.getfield 532, 3) := dc9_180 (by decide +kernel)
theorem d_MM_explore_190 : decode y_MM_explore.2.1 190 = .ok (.goto 4, 3) := dc9_167 (by decide +kernel)
theorem d_MM_explore_193 : decode y_MM_explore.2.1 193 = .ok (.iconst 0, 1) := dc9_3 (by decide +kernel)
theorem d_MM_explore_194 : decode y_MM_explore.2.1 194 = .ok (.putfield 532, 3) := dc9_181 (by decide +kernel)
theorem d_MM_explore_197 : decode y_MM_explore.2.1 197 = .ok (.iconst 0, 1) := dc9_3 (by decide +kernel)
theorem d_MM_explore_198 : decode y_MM_explore.2.1 198 = .ok (.istore_n 2, 1) := dc9_61 (by decide +kernel)
theorem d_MM_explore_132 : decode y_MM_explore.2.1 132 = .ok (.invokevirtual 539, 3) := dc9_182 (by decide +kernel)
theorem d_MM_explore_135 : decode y_MM_explore.2.1 135 = .ok (.iinc 1 1, 3) := by decide +kernel
theorem d_MM_explore_138 : decode y_MM_explore.2.1 138 = .ok (.goto (-23), 3) := dc9_167 (by decide +kernel)
theorem d_MM_explore_199 : decode y_MM_explore.2.1 199 = .ok (.iload_n 2, 1) := dc9_28 (by decide +kernel)
theorem d_MM_explore_200 : decode y_MM_explore.2.1 200 = .ok (.aload_n 0, 1) := dc9_42 (by decide +kernel)
theorem d_MM_explore_201 : decode y_MM_explore.2.1 201 = .ok (.getfield 532, 3) := dc9_180 (by decide +kernel)
theorem d_MM_explore_204 : decode y_MM_explore.2.1 204 = .ok (.if_icmp .ge 14, 3) := dc9_162 (by decide +kernel)
theorem d_MM_explore_218 : decode y_MM_explore.2.1 218 = .ok (.aload_n 0, 1) := dc9_42 (by decide +kernel)
theorem d_MM_explore_219 : decode y_MM_explore.2.1 219 = .ok (.getfield 267, 3) := dc9_180 (by decide +kernel)
theorem d_MM_explore_222 : decode y_MM_explore.2.1 222 = .ok (.ireturn, 1) := dc9_172 (by decide +kernel)
theorem d_MM_explore_207 : decode y_MM_explore.2.1 207 = .ok (.aload_n 0, 1) := dc9_42 (by decide +kernel)
theorem d_MM_explore_208 : decode y_MM_explore.2.1 208 = .ok (.iload_n 2, 1) := dc9_28 (by decide +kernel)
theorem d_MM_explore_209 : decode y_MM_explore.2.1 209 = .ok (.invokevirtual 542, 3) := dc9_182 (by decide +kernel)
theorem d_MM_explore_212 : decode y_MM_explore.2.1 212 = .ok (.iinc 2 1, 3) := by decide +kernel
theorem d_MM_explore_215 : decode y_MM_explore.2.1 215 = .ok (.goto (-16), 3) := dc9_167 (by decide +kernel)
def h_MM_explore_81 (G : mG) (d : Nat) (a0 : Nat) (l1 : Int) (M : mM) (Q : Int → mM → Prop) : Prop := mWm G y_MM_explore (d + 1) 81 [vr a0, vi l1, vd] [] M (fun r9 M9 => ∃ x9, r9 = some (vi x9) ∧ Q x9 M9)
def h_MM_explore_115 (G : mG) (d : Nat) (a0 : Nat) (l1 : Int) (M : mM) (Q : Int → mM → Prop) : Prop := mWm G y_MM_explore (d + 1) 115 [vr a0, vi l1, vd] [] M (fun r9 M9 => ∃ x9, r9 = some (vi x9) ∧ Q x9 M9)
def h_MM_explore_199 (G : mG) (d : Nat) (a0 : Nat) (l2 : Int) (M : mM) (Q : Int → mM → Prop) : Prop := mWm G y_MM_explore (d + 1) 199 [vr a0, vd, vi l2] [] M (fun r9 M9 => ∃ x9, r9 = some (vi x9) ∧ Q x9 M9)
theorem k_MM_explore {G : mG} {d : Nat} {a0 : Nat} {M : mM} {Q : Int → mM → Prop} (hO : mOk M)
    (h : mK M a0 = 14 ∧ ∀ v3 : Int, v3 = (if (mI M a0 11 = 0) then 1 else 0) → ∀ M8, M8 = mUI M a0 0 v3 → ((mI M8 a0 0 ≤ 0) → (∀ M12, M12 = mUI M8 a0 29 1 → ∀ M14, M14 = mUI M12 a0 40 0 → mK M14 (mR M14 a0 35) = 15 ∧ ∀ M17, M17 = mUI M14 (mR M14 a0 35) 1 0 → mK M17 (mR M17 a0 36) = 15 ∧ ∀ M20, M20 = mUI M17 (mR M17 a0 36) 1 0 → mK M20 (mR M20 a0 37) = 15 ∧ ∀ M23, M23 = mUI M20 (mR M20 a0 37) 1 0 → mK M23 (mR M23 a0 38) = 15 ∧ ∀ M26, M26 = mUI M23 (mR M23 a0 38) 1 0 → mK M26 (mR M26 a0 39) = 17 ∧ Cv G y_MS_clear d [vr (mR M26 a0 39)] M26 (fun M29 => mOk M29 ∧ (mK M29 a0 = 14 ∧ ∀ M33, M33 = mUI M29 a0 16 0 → h_MM_explore_81 G d a0 0 M33 Q)))) ∧ (¬ (mI M8 a0 0 ≤ 0) → (Q 0 M8))) :
    Ci G y_MM_explore (d + 1) [vr a0] M Q := by
  refine wm_open (y := y_MM_explore) rfl (Nat.le_of_ble_eq_true rfl) (L := [vr a0, vd, vd]) rfl ?_
  obtain ⟨h1, h⟩ := h
  refine wm_aload_n d_MM_explore_0 rfl rfl ?_
  refine wm_aload_n d_MM_explore_1 rfl rfl ?_
  refine gf_MM_528 rfl d_MM_explore_2 h1 ?_
  have hJ : ∀ v3 : Int, v3 = (if (mI M a0 11 = 0) then 1 else 0) → mWm G y_MM_explore (d + 1) 13 [vr a0, vd, vd] [vi v3, vr a0] M (fun r9 M9 => ∃ x9, r9 = some (vi x9) ∧ Q x9 M9) := by
    intro v3 e5
    have h := h v3 e5
    have h6 : i32 v3 := by rw [e5]; (repeat' split) <;> first | exact ⟨by decide, by decide⟩ | exact ⟨by decide, by decide⟩
    have h7 : (v3 = 0 ∨ v3 = 1) := by rw [e5]; (repeat' split) <;> decide
    obtain ⟨M8, e9⟩ : ∃ M8, M8 = mUI M a0 0 v3 := ⟨_, rfl⟩
    replace h := h M8 e9
    have hOM8 : mOk M8 := by rw [e9]; exact mOk_UI hO h6
    refine pf_MM_142 rfl d_MM_explore_13 h1 h6 e9 ?_
    refine wm_aload_n d_MM_explore_16 rfl rfl ?_
    refine gf_MM_142 rfl d_MM_explore_17 (by rw [e9]; exact h1) ?_
    refine wm_if_le (tgt := 25) d_MM_explore_20 rfl (hOM8 _ _).1 (fun c11 => ?_) (fun c11 => ?_)
    · replace h := h.1 c11
      obtain ⟨M12, e13⟩ : ∃ M12, M12 = mUI M8 a0 29 1 := ⟨_, rfl⟩
      replace h := h M12 e13
      obtain ⟨M14, e15⟩ : ∃ M14, M14 = mUI M12 a0 40 0 := ⟨_, rfl⟩
      replace h := h M14 e15
      obtain ⟨h16, h⟩ := h
      obtain ⟨M17, e18⟩ : ∃ M17, M17 = mUI M14 (mR M14 a0 35) 1 0 := ⟨_, rfl⟩
      replace h := h M17 e18
      obtain ⟨h19, h⟩ := h
      obtain ⟨M20, e21⟩ : ∃ M20, M20 = mUI M17 (mR M17 a0 36) 1 0 := ⟨_, rfl⟩
      replace h := h M20 e21
      obtain ⟨h22, h⟩ := h
      obtain ⟨M23, e24⟩ : ∃ M23, M23 = mUI M20 (mR M20 a0 37) 1 0 := ⟨_, rfl⟩
      replace h := h M23 e24
      obtain ⟨h25, h⟩ := h
      obtain ⟨M26, e27⟩ : ∃ M26, M26 = mUI M23 (mR M23 a0 38) 1 0 := ⟨_, rfl⟩
      replace h := h M26 e27
      obtain ⟨h28, h⟩ := h
      refine wm_aload_n d_MM_explore_25 rfl rfl ?_
      refine wm_iconst d_MM_explore_26 ?_
      have hOM12 : mOk M12 := by rw [e13]; exact mOk_UI hOM8 ⟨by decide, by decide⟩
      refine pf_MM_532 rfl d_MM_explore_27 (by rw [e9]; exact h1) ⟨by decide, by decide⟩ e13 ?_
      refine wm_aload_n d_MM_explore_30 rfl rfl ?_
      refine wm_iconst d_MM_explore_31 ?_
      have hOM14 : mOk M14 := by rw [e15]; exact mOk_UI hOM12 ⟨by decide, by decide⟩
      refine pf_MM_536 rfl d_MM_explore_32 (by rw [e13, e9]; exact h1) ⟨by decide, by decide⟩ e15 ?_
      refine wm_aload_n d_MM_explore_35 rfl rfl ?_
      refine gf_MM_102 rfl d_MM_explore_36 (by rw [e15, e13, e9]; exact h1) ?_
      refine wm_iconst d_MM_explore_39 ?_
      have hOM17 : mOk M17 := by rw [e18]; exact mOk_UI hOM14 ⟨by decide, by decide⟩
      refine pf_MM_145 rfl d_MM_explore_40 h16 ⟨by decide, by decide⟩ e18 ?_
      refine wm_aload_n d_MM_explore_43 rfl rfl ?_
      refine gf_MM_105 rfl d_MM_explore_44 (by rw [e18, e15, e13, e9]; exact h1) ?_
      refine wm_iconst d_MM_explore_47 ?_
      have hOM20 : mOk M20 := by rw [e21]; exact mOk_UI hOM17 ⟨by decide, by decide⟩
      refine pf_MM_145 rfl d_MM_explore_48 h19 ⟨by decide, by decide⟩ e21 ?_
      refine wm_aload_n d_MM_explore_51 rfl rfl ?_
      refine gf_MM_108 rfl d_MM_explore_52 (by rw [e21, e18, e15, e13, e9]; exact h1) ?_
      refine wm_iconst d_MM_explore_55 ?_
      have hOM23 : mOk M23 := by rw [e24]; exact mOk_UI hOM20 ⟨by decide, by decide⟩
      refine pf_MM_145 rfl d_MM_explore_56 h22 ⟨by decide, by decide⟩ e24 ?_
      refine wm_aload_n d_MM_explore_59 rfl rfl ?_
      refine gf_MM_111 rfl d_MM_explore_60 (by rw [e24, e21, e18, e15, e13, e9]; exact h1) ?_
      refine wm_iconst d_MM_explore_63 ?_
      have hOM26 : mOk M26 := by rw [e27]; exact mOk_UI hOM23 ⟨by decide, by decide⟩
      refine pf_MM_145 rfl d_MM_explore_64 h25 ⟨by decide, by decide⟩ e27 ?_
      refine wm_aload_n d_MM_explore_67 rfl rfl ?_
      refine gf_MM_117 rfl d_MM_explore_68 (by rw [e27, e24, e21, e18, e15, e13, e9]; exact h1) ?_
      refine cf_MM_535 rfl d_MM_explore_71 h28 (Nat.le_of_ble_eq_true rfl) (Cv.mono h (fun M29 h => ?_))
      obtain ⟨hOM29, h⟩ := h
      obtain ⟨h32, h⟩ := h
      obtain ⟨M33, e34⟩ : ∃ M33, M33 = mUI M29 a0 16 0 := ⟨_, rfl⟩
      replace h := h M33 e34
      refine wm_aload_n d_MM_explore_74 rfl rfl ?_
      refine wm_iconst d_MM_explore_75 ?_
      have hOM33 : mOk M33 := by rw [e34]; exact mOk_UI hOM29 ⟨by decide, by decide⟩
      refine pf_MM_267 rfl d_MM_explore_76 h32 ⟨by decide, by decide⟩ e34 ?_
      refine wm_iconst d_MM_explore_79 ?_
      refine wm_istore_n d_MM_explore_80 rfl (by decide) (L' := [vr a0, vi 0, vd]) rfl ?_
      exact h
    · replace h := h.2 c11
      refine wm_iconst d_MM_explore_23 ?_
      refine wm_ireturn d_MM_explore_24 rfl rfl ?_
      exact ⟨_, rfl, h⟩
  clear h
  refine wm_if_eq (tgt := 12) d_MM_explore_5 rfl (hO _ _).1 (fun c2 => ?_) (fun c2 => ?_)
  · refine wm_iconst d_MM_explore_12 ?_
    exact hJ 1 (if_pos c2).symm
  · refine wm_iconst d_MM_explore_8 ?_
    refine wm_goto (tgt := 13) d_MM_explore_9 rfl ?_
    exact hJ 0 (if_neg c2).symm
theorem k_MM_explore_81 {G : mG} {d : Nat} {a0 : Nat} {l1 : Int} {M : mM} {Q : Int → mM → Prop} (hO : mOk M) (hi_l1 : i32 l1)
    (h : mK M a0 = 14 ∧ mK M (mR M a0 9) = 16 ∧ ((mI M (mR M a0 9) 12 ≤ l1) → (h_MM_explore_115 G d a0 0 M Q)) ∧ (¬ (mI M (mR M a0 9) 12 ≤ l1) → (mK M (mR M (mR M a0 9) 16) = 30 ∧ ((0 : Int) ≤ l1 ∧ l1 < (mN M (mR M (mR M a0 9) 16) : Int)) ∧ mK M (mR M a0 31) = 30 ∧ ((0 : Int) ≤ l1 ∧ l1 < (mN M (mR M a0 31) : Int)) ∧ ∀ M48, M48 = mUI M (mR M a0 31) (Int.toNat l1) (mI M (mR M (mR M a0 9) 16) (Int.toNat l1)) → h_MM_explore_81 G d a0 (l1 + 1) M48 Q))) :
    h_MM_explore_81 G d a0 l1 M Q := by
  unfold h_MM_explore_81
  obtain ⟨h36, h⟩ := h
  obtain ⟨h37, h⟩ := h
  refine wm_iload_n d_MM_explore_81 rfl rfl ?_
  refine wm_aload_n d_MM_explore_82 rfl rfl ?_
  refine gf_MM_34 rfl d_MM_explore_83 h36 ?_
  refine gf_MM_456 rfl d_MM_explore_86 h37 ?_
  refine wm_icmp_ge (tgt := 113) d_MM_explore_89 rfl hi_l1 (hO _ _).1 (fun c43 => ?_) (fun c43 => ?_)
  · replace h := h.1 c43
    refine wm_iconst d_MM_explore_113 ?_
    refine wm_istore_n d_MM_explore_114 rfl (by decide) (L' := [vr a0, vi 0, vd]) rfl ?_
    exact h
  · replace h := h.2 c43
    obtain ⟨h44, h⟩ := h
    obtain ⟨h45, h⟩ := h
    obtain ⟨h46, h⟩ := h
    obtain ⟨h47, h⟩ := h
    obtain ⟨M48, e49⟩ : ∃ M48, M48 = mUI M (mR M a0 31) (Int.toNat l1) (mI M (mR M (mR M a0 9) 16) (Int.toNat l1)) := ⟨_, rfl⟩
    replace h := h M48 e49
    refine wm_aload_n d_MM_explore_92 rfl rfl ?_
    refine gf_MM_90 rfl d_MM_explore_93 h36 ?_
    refine wm_iload_n d_MM_explore_96 rfl rfl ?_
    refine wm_aload_n d_MM_explore_97 rfl rfl ?_
    refine gf_MM_34 rfl d_MM_explore_98 h36 ?_
    refine gf_MM_469 rfl d_MM_explore_101 h37 ?_
    refine wm_iload_n d_MM_explore_104 rfl rfl ?_
    refine wm_iald d_MM_explore_105 h44 h45 ?_
    have hOM48 : mOk M48 := by rw [e49]; exact mOk_UI hO (hO _ _).1
    refine wm_iastE d_MM_explore_106 h46 h47 (hO _ _).1 e49 ?_
    refine wm_iinc d_MM_explore_107 (by decide) rfl (L' := [vr a0, vi (l1 + 1), vd]) rfl ?_
    refine wm_goto (tgt := 81) d_MM_explore_110 rfl ?_
    exact h
theorem k_MM_explore_115 {G : mG} {d : Nat} {a0 : Nat} {l1 : Int} {M : mM} {Q : Int → mM → Prop} (hO : mOk M) (hi_l1 : i32 l1)
    (h : mK M a0 = 14 ∧ (((mI M a0 29 ≤ l1) ∨ (¬ (mI M a0 16 = 0))) → (∀ v56 : Int, v56 = (if (mI M a0 16 = 0) then (-1) else l1 - 1) → i32 v56 ∧ ∀ M60, M60 = mUI M a0 30 v56 → ∀ v63 : Int, v63 = (if (mI M60 a0 16 = 0) then (-1) else mI M60 a0 17) → i32 v63 ∧ ∀ M67, M67 = mUI M60 a0 12 v63 → ∀ v70 : Int, v70 = (if (mI M67 a0 16 = 0) then mI M67 a0 29 else 0) → i32 v70 ∧ ∀ M74, M74 = mUI M67 a0 29 v70 → h_MM_explore_199 G d a0 0 M74 Q)) ∧ (¬ ((mI M a0 29 ≤ l1) ∨ (¬ (mI M a0 16 = 0))) → (Cv G y_MM_state0 d [vr a0, vi l1] M (fun M80 => mOk M80 ∧ (h_MM_explore_115 G d a0 (l1 + 1) M80 Q))))) :
    h_MM_explore_115 G d a0 l1 M Q := by
  unfold h_MM_explore_115
  obtain ⟨h50, h⟩ := h
  refine wm_iload_n d_MM_explore_115 rfl rfl ?_
  refine wm_aload_n d_MM_explore_116 rfl rfl ?_
  refine gf_MM_532 rfl d_MM_explore_117 h50 ?_
  have hE0 : ((mI M a0 29 ≤ l1) ∨ (¬ (mI M a0 16 = 0))) → mWm G y_MM_explore (d + 1) 141 [vr a0, vi l1, vd] [] M (fun r9 M9 => ∃ x9, r9 = some (vi x9) ∧ Q x9 M9) := by
    intro q54
    have h := h.1 q54
    refine wm_aload_n d_MM_explore_141 rfl rfl ?_
    refine wm_aload_n d_MM_explore_142 rfl rfl ?_
    refine gf_MM_267 rfl d_MM_explore_143 h50 ?_
    have hJ : ∀ v56 : Int, v56 = (if (mI M a0 16 = 0) then (-1) else l1 - 1) → mWm G y_MM_explore (d + 1) 156 [vr a0, vd, vd] [vi v56, vr a0] M (fun r9 M9 => ∃ x9, r9 = some (vi x9) ∧ Q x9 M9) := by
      intro v56 e58
      have h := h v56 e58
      obtain ⟨h59, h⟩ := h
      obtain ⟨M60, e61⟩ : ∃ M60, M60 = mUI M a0 30 v56 := ⟨_, rfl⟩
      replace h := h M60 e61
      have hOM60 : mOk M60 := by rw [e61]; exact mOk_UI hO h59
      refine pf_MM_87 rfl d_MM_explore_156 h50 h59 e61 ?_
      refine wm_aload_n d_MM_explore_159 rfl rfl ?_
      refine wm_aload_n d_MM_explore_160 rfl rfl ?_
      refine gf_MM_267 rfl d_MM_explore_161 (by rw [e61]; exact h50) ?_
      have hJ : ∀ v63 : Int, v63 = (if (mI M60 a0 16 = 0) then (-1) else mI M60 a0 17) → mWm G y_MM_explore (d + 1) 175 [vr a0, vd, vd] [vi v63, vr a0] M60 (fun r9 M9 => ∃ x9, r9 = some (vi x9) ∧ Q x9 M9) := by
        intro v63 e65
        have h := h v63 e65
        obtain ⟨h66, h⟩ := h
        obtain ⟨M67, e68⟩ : ∃ M67, M67 = mUI M60 a0 12 v63 := ⟨_, rfl⟩
        replace h := h M67 e68
        have hOM67 : mOk M67 := by rw [e68]; exact mOk_UI hOM60 h66
        refine pf_MM_41 rfl d_MM_explore_175 (by rw [e61]; exact h50) h66 e68 ?_
        refine wm_aload_n d_MM_explore_178 rfl rfl ?_
        refine wm_aload_n d_MM_explore_179 rfl rfl ?_
        refine gf_MM_267 rfl d_MM_explore_180 (by rw [e68, e61]; exact h50) ?_
        have hJ : ∀ v70 : Int, v70 = (if (mI M67 a0 16 = 0) then mI M67 a0 29 else 0) → mWm G y_MM_explore (d + 1) 194 [vr a0, vd, vd] [vi v70, vr a0] M67 (fun r9 M9 => ∃ x9, r9 = some (vi x9) ∧ Q x9 M9) := by
          intro v70 e72
          have h := h v70 e72
          obtain ⟨h73, h⟩ := h
          obtain ⟨M74, e75⟩ : ∃ M74, M74 = mUI M67 a0 29 v70 := ⟨_, rfl⟩
          replace h := h M74 e75
          have hOM74 : mOk M74 := by rw [e75]; exact mOk_UI hOM67 h73
          refine pf_MM_532 rfl d_MM_explore_194 (by rw [e68, e61]; exact h50) h73 e75 ?_
          refine wm_iconst d_MM_explore_197 ?_
          refine wm_istore_n d_MM_explore_198 rfl (by decide) (L' := [vr a0, vd, vi 0]) rfl ?_
          exact h
        clear h
        refine wm_if_ne (tgt := 193) d_MM_explore_183 rfl (hOM67 _ _).1 (fun c69 => ?_) (fun c69 => ?_)
        · refine wm_iconst d_MM_explore_193 ?_
          exact hJ 0 (if_neg c69).symm
        · replace c69 := Classical.not_not.mp c69
          refine wm_aload_n d_MM_explore_186 rfl rfl ?_
          refine gf_MM_532 rfl d_MM_explore_187 (by rw [e68, e61]; exact h50) ?_
          refine wm_goto (tgt := 194) d_MM_explore_190 rfl ?_
          exact hJ (mI M67 a0 29) (if_pos c69).symm
      clear h
      refine wm_if_ne (tgt := 171) d_MM_explore_164 rfl (hOM60 _ _).1 (fun c62 => ?_) (fun c62 => ?_)
      · refine wm_aload_n d_MM_explore_171 rfl rfl ?_
        refine gf_MM_270 rfl d_MM_explore_172 (by rw [e61]; exact h50) ?_
        exact hJ (mI M60 a0 17) (if_neg c62).symm
      · replace c62 := Classical.not_not.mp c62
        refine wm_iconst d_MM_explore_167 ?_
        refine wm_goto (tgt := 175) d_MM_explore_168 rfl ?_
        exact hJ (-1) (if_pos c62).symm
    clear h
    refine wm_if_ne (tgt := 153) d_MM_explore_146 rfl (hO _ _).1 (fun c55 => ?_) (fun c55 => ?_)
    · refine wm_iload_n d_MM_explore_153 rfl rfl ?_
      refine wm_iconst d_MM_explore_154 ?_
      refine wm_isub d_MM_explore_155 ?_
      refine wm_less (L' := [vr a0, vd, vd]) ⟨Or.inr rfl, Or.inl rfl, Or.inl rfl, trivial⟩ ?_
      exact hJ (l1 - 1) (if_neg c55).symm
    · replace c55 := Classical.not_not.mp c55
      refine wm_iconst d_MM_explore_149 ?_
      refine wm_goto (tgt := 156) d_MM_explore_150 rfl ?_
      refine wm_less (L' := [vr a0, vd, vd]) ⟨Or.inr rfl, Or.inl rfl, Or.inl rfl, trivial⟩ ?_
      exact hJ (-1) (if_pos c55).symm
  have hE1 : ¬ ((mI M a0 29 ≤ l1) ∨ (¬ (mI M a0 16 = 0))) → mWm G y_MM_explore (d + 1) 130 [vr a0, vi l1, vd] [] M (fun r9 M9 => ∃ x9, r9 = some (vi x9) ∧ Q x9 M9) := by
    intro q79
    have h := h.2 q79
    refine wm_aload_n d_MM_explore_130 rfl rfl ?_
    refine wm_iload_n d_MM_explore_131 rfl rfl ?_
    refine cf_MM_539 rfl d_MM_explore_132 h50 (Nat.le_of_ble_eq_true rfl) (Cv.mono h (fun M80 h => ?_))
    obtain ⟨hOM80, h⟩ := h
    refine wm_iinc d_MM_explore_135 (by decide) rfl (L' := [vr a0, vi (l1 + 1), vd]) rfl ?_
    refine wm_goto (tgt := 115) d_MM_explore_138 rfl ?_
    exact h
  clear h
  refine wm_icmp_ge (tgt := 141) d_MM_explore_120 rfl hi_l1 (hO _ _).1 (fun c52 => ?_) (fun c52 => ?_)
  · exact hE0 (Or.inl c52)
  · refine wm_aload_n d_MM_explore_123 rfl rfl ?_
    refine gf_MM_267 rfl d_MM_explore_124 h50 ?_
    refine wm_if_ne (tgt := 141) d_MM_explore_127 rfl (hO _ _).1 (fun c51 => ?_) (fun c51 => ?_)
    · exact hE0 (Or.inr c51)
    · replace c51 := Classical.not_not.mp c51
      exact hE1 (fun z83 => Or.elim z83 c52 (fun z84 => z84 c51))
theorem k_MM_explore_199 {G : mG} {d : Nat} {a0 : Nat} {l2 : Int} {M : mM} {Q : Int → mM → Prop} (hO : mOk M) (hi_l2 : i32 l2)
    (h : mK M a0 = 14 ∧ ((mI M a0 29 ≤ l2) → (Q (mI M a0 16) M)) ∧ (¬ (mI M a0 29 ≤ l2) → (Cv G y_MM_tellState d [vr a0, vi l2] M (fun M88 => mOk M88 ∧ (h_MM_explore_199 G d a0 (l2 + 1) M88 Q))))) :
    h_MM_explore_199 G d a0 l2 M Q := by
  unfold h_MM_explore_199
  obtain ⟨h85, h⟩ := h
  refine wm_iload_n d_MM_explore_199 rfl rfl ?_
  refine wm_aload_n d_MM_explore_200 rfl rfl ?_
  refine gf_MM_532 rfl d_MM_explore_201 h85 ?_
  refine wm_icmp_ge (tgt := 218) d_MM_explore_204 rfl hi_l2 (hO _ _).1 (fun c87 => ?_) (fun c87 => ?_)
  · replace h := h.1 c87
    refine wm_aload_n d_MM_explore_218 rfl rfl ?_
    refine gf_MM_267 rfl d_MM_explore_219 h85 ?_
    refine wm_ireturn d_MM_explore_222 rfl rfl ?_
    exact ⟨_, rfl, h⟩
  · replace h := h.2 c87
    refine wm_aload_n d_MM_explore_207 rfl rfl ?_
    refine wm_iload_n d_MM_explore_208 rfl rfl ?_
    refine cf_MM_542 rfl d_MM_explore_209 h85 (Nat.le_of_ble_eq_true rfl) (Cv.mono h (fun M88 h => ?_))
    obtain ⟨hOM88, h⟩ := h
    refine wm_iinc d_MM_explore_212 (by decide) rfl (L' := [vr a0, vd, vi (l2 + 1)]) rfl ?_
    refine wm_goto (tgt := 199) d_MM_explore_215 rfl ?_
    exact h
end
section
theorem d_MM_state0_0 : decode y_MM_state0.2.1 0 = .ok (.aload_n 0, 1) := dc9_42 (by decide +kernel)
theorem d_MM_state0_1 : decode y_MM_state0.2.1 1 = .ok (.iload_n 1, 1) := dc9_27 (by decide +kernel)
theorem d_MM_state0_2 : decode y_MM_state0.2.1 2 = .ok (.invokevirtual 545, 3) := dc9_182 (by decide +kernel)
theorem d_MM_state0_5 : decode y_MM_state0.2.1 5 = .ok (.aload_n 0, 1) := dc9_42 (by decide +kernel)
theorem d_MM_state0_6 : decode y_MM_state0.2.1 6 = .ok (.getfield 93, 3) := dc9_180 (by decide +kernel)
theorem d_MM_state0_9 : decode y_MM_state0.2.1 9 = .ok (.iload_n 1, 1) := dc9_27 (by decide +kernel)
theorem d_MM_state0_10 : decode y_MM_state0.2.1 10 = .ok (.iconst 0, 1) := dc9_3 (by decide +kernel)
theorem d_MM_state0_11 : decode y_MM_state0.2.1 11 = .ok (.iastore, 1) := dc9_79 (by decide +kernel)
theorem d_MM_state0_12 : decode y_MM_state0.2.1 12 = .ok (.aload_n 0, 1) := dc9_42 (by decide +kernel)
theorem d_MM_state0_13 : decode y_MM_state0.2.1 13 = .ok (.getfield 96, 3) := dc9_180 (by decide +kernel)
theorem d_MM_state0_16 : decode y_MM_state0.2.1 16 = .ok (.iload_n 1, 1) := dc9_27 (by decide +kernel)
theorem d_MM_state0_17 : decode y_MM_state0.2.1 17 = .ok (.aload_n 0, 1) := dc9_42 (by decide +kernel)
theorem d_MM_state0_18 : decode y_MM_state0.2.1 18 = .ok (.getfield 102, 3) := dc9_180 (by decide +kernel)
theorem d_MM_state0_21 : decode y_MM_state0.2.1 21 = .ok (.getfield 145, 3) := dc9_180 (by decide +kernel)
theorem d_MM_state0_24 : decode y_MM_state0.2.1 24 = .ok (.iastore, 1) := dc9_79 (by decide +kernel)
theorem d_MM_state0_25 : decode y_MM_state0.2.1 25 = .ok (.aload_n 0, 1) := dc9_42 (by decide +kernel)
theorem d_MM_state0_26 : decode y_MM_state0.2.1 26 = .ok (.getfield 99, 3) := dc9_180 (by decide +kernel)
theorem d_MM_state0_29 : decode y_MM_state0.2.1 29 = .ok (.iload_n 1, 1) := dc9_27 (by decide +kernel)
theorem d_MM_state0_30 : decode y_MM_state0.2.1 30 = .ok (.iconst 0, 1) := dc9_3 (by decide +kernel)
theorem d_MM_state0_31 : decode y_MM_state0.2.1 31 = .ok (.iastore, 1) := dc9_79 (by decide +kernel)
theorem d_MM_state0_32 : decode y_MM_state0.2.1 32 = .ok (.aload_n 0, 1) := dc9_42 (by decide +kernel)
theorem d_MM_state0_33 : decode y_MM_state0.2.1 33 = .ok (.aload_n 0, 1) := dc9_42 (by decide +kernel)
theorem d_MM_state0_34 : decode y_MM_state0.2.1 34 = .ok (.getfield 34, 3) := dc9_180 (by decide +kernel)
theorem d_MM_state0_37 : decode y_MM_state0.2.1 37 = .ok (.getfield 439, 3) := dc9_180 (by decide +kernel)
theorem d_MM_state0_40 : decode y_MM_state0.2.1 40 = .ok (.invokevirtual 548, 3) := dc9_182 (by decide +kernel)
theorem d_MM_state0_43 : decode y_MM_state0.2.1 43 = .ok (.aload_n 0, 1) := dc9_42 (by decide +kernel)
theorem d_MM_state0_44 : decode y_MM_state0.2.1 44 = .ok (.getfield 267, 3) := dc9_180 (by decide +kernel)
theorem d_MM_state0_47 : decode y_MM_state0.2.1 47 = .ok (.ifCond .eq 4, 3) := dc9_153 (by decide +kernel)
theorem d_MM_state0_51 : decode y_MM_state0.2.1 51 = .ok (.aload_n 0, 1) := dc9_42 (by decide +kernel)
theorem d_MM_state0_52 : decode y_MM_state0.2.1 52 = .ok (.getfield 63, 3) := dc9_180 (by decide +kernel)
theorem d_MM_state0_55 : decode y_MM_state0.2.1 55 = .ok (.iconst 0, 1) := dc9_3 (by decide +kernel)
theorem d_MM_state0_56 : decode y_MM_state0.2.1 56 = .ok (.laload, 1) := dc9_47 (by decide +kernel)
theorem d_MM_state0_57 : decode y_MM_state0.2.1 57 = .ok (.lconst 1, 1) := dc9_10 (by decide +kernel)
theorem d_MM_state0_58 : decode y_MM_state0.2.1 58 = .ok (.lcmp, 1) := dc9_148 (by decide +kernel)
theorem d_MM_state0_50 : decode y_MM_state0.2.1 50 = .ok (.return_, 1) := dc9_177 (by decide +kernel)
theorem d_MM_state0_59 : decode y_MM_state0.2.1 59 = .ok (.ifCond .ne 11, 3) := dc9_154 (by decide +kernel)
theorem d_MM_state0_62 : decode y_MM_state0.2.1 62 = .ok (.aload_n 0, 1) := dc9_42 (by decide +kernel)
theorem d_MM_state0_63 : decode y_MM_state0.2.1 63 = .ok (.getfield 93, 3) := dc9_180 (by decide +kernel)
theorem d_MM_state0_66 : decode y_MM_state0.2.1 66 = .ok (.iload_n 1, 1) := dc9_27 (by decide +kernel)
theorem d_MM_state0_67 : decode y_MM_state0.2.1 67 = .ok (.iconst 3, 1) := dc9_6 (by decide +kernel)
theorem d_MM_state0_68 : decode y_MM_state0.2.1 68 = .ok (.iastore, 1) := dc9_79 (by decide +kernel)
theorem d_MM_state0_69 : decode y_MM_state0.2.1 69 = .ok (.return_, 1) := dc9_177 (by decide +kernel)
theorem d_MM_state0_70 : decode y_MM_state0.2.1 70 = .ok (.iconst 0, 1) := dc9_3 (by decide +kernel)
theorem d_MM_state0_71 : decode y_MM_state0.2.1 71 = .ok (.istore_n 2, 1) := dc9_61 (by decide +kernel)
theorem d_MM_state0_72 : decode y_MM_state0.2.1 72 = .ok (.iload_n 2, 1) := dc9_28 (by decide +kernel)
theorem d_MM_state0_73 : decode y_MM_state0.2.1 73 = .ok (.aload_n 0, 1) := dc9_42 (by decide +kernel)
theorem d_MM_state0_74 : decode y_MM_state0.2.1 74 = .ok (.getfield 34, 3) := dc9_180 (by decide +kernel)
theorem d_MM_state0_77 : decode y_MM_state0.2.1 77 = .ok (.getfield 474, 3) := dc9_180 (by decide +kernel)
theorem d_MM_state0_80 : decode y_MM_state0.2.1 80 = .ok (.if_icmp .ge 53, 3) := dc9_162 (by decide +kernel)
theorem d_MM_state0_83 : decode y_MM_state0.2.1 83 = .ok (.aload_n 0, 1) := dc9_42 (by decide +kernel)
theorem d_MM_state0_84 : decode y_MM_state0.2.1 84 = .ok (.getfield 267, 3) := dc9_180 (by decide +kernel)
theorem d_MM_state0_87 : decode y_MM_state0.2.1 87 = .ok (.ifCond .ne 46, 3) := dc9_154 (by decide +kernel)
theorem d_MM_state0_90 : decode y_MM_state0.2.1 90 = .ok (.aload_n 0, 1) := dc9_42 (by decide +kernel)
theorem d_MM_state0_91 : decode y_MM_state0.2.1 91 = .ok (.aload_n 0, 1) := dc9_42 (by decide +kernel)
theorem d_MM_state0_92 : decode y_MM_state0.2.1 92 = .ok (.getfield 34, 3) := dc9_180 (by decide +kernel)
theorem d_MM_state0_95 : decode y_MM_state0.2.1 95 = .ok (.getfield 483, 3) := dc9_180 (by decide +kernel)
theorem d_MM_state0_98 : decode y_MM_state0.2.1 98 = .ok (.iload_n 2, 1) := dc9_28 (by decide +kernel)
theorem d_MM_state0_99 : decode y_MM_state0.2.1 99 = .ok (.iaload, 1) := dc9_46 (by decide +kernel)
theorem d_MM_state0_133 : decode y_MM_state0.2.1 133 = .ok (.return_, 1) := dc9_177 (by decide +kernel)
theorem d_MM_state0_100 : decode y_MM_state0.2.1 100 = .ok (.invokevirtual 548, 3) := dc9_182 (by decide +kernel)
theorem d_MM_state0_103 : decode y_MM_state0.2.1 103 = .ok (.aload_n 0, 1) := dc9_42 (by decide +kernel)
theorem d_MM_state0_104 : decode y_MM_state0.2.1 104 = .ok (.getfield 267, 3) := dc9_180 (by decide +kernel)
theorem d_MM_state0_107 : decode y_MM_state0.2.1 107 = .ok (.ifCond .ne 20, 3) := dc9_154 (by decide +kernel)
theorem d_MM_state0_110 : decode y_MM_state0.2.1 110 = .ok (.aload_n 0, 1) := dc9_42 (by decide +kernel)
theorem d_MM_state0_111 : decode y_MM_state0.2.1 111 = .ok (.getfield 63, 3) := dc9_180 (by decide +kernel)
theorem d_MM_state0_114 : decode y_MM_state0.2.1 114 = .ok (.iconst 0, 1) := dc9_3 (by decide +kernel)
theorem d_MM_state0_115 : decode y_MM_state0.2.1 115 = .ok (.laload, 1) := dc9_47 (by decide +kernel)
theorem d_MM_state0_116 : decode y_MM_state0.2.1 116 = .ok (.lconst 1, 1) := dc9_10 (by decide +kernel)
theorem d_MM_state0_117 : decode y_MM_state0.2.1 117 = .ok (.lcmp, 1) := dc9_148 (by decide +kernel)
theorem d_MM_state0_118 : decode y_MM_state0.2.1 118 = .ok (.ifCond .ne 9, 3) := dc9_154 (by decide +kernel)
theorem d_MM_state0_121 : decode y_MM_state0.2.1 121 = .ok (.aload_n 0, 1) := dc9_42 (by decide +kernel)
theorem d_MM_state0_122 : decode y_MM_state0.2.1 122 = .ok (.iload_n 1, 1) := dc9_27 (by decide +kernel)
theorem d_MM_state0_123 : decode y_MM_state0.2.1 123 = .ok (.iload_n 2, 1) := dc9_28 (by decide +kernel)
theorem d_MM_state0_124 : decode y_MM_state0.2.1 124 = .ok (.invokevirtual 551, 3) := dc9_182 (by decide +kernel)
theorem d_MM_state0_127 : decode y_MM_state0.2.1 127 = .ok (.iinc 2 1, 3) := by decide +kernel
theorem d_MM_state0_130 : decode y_MM_state0.2.1 130 = .ok (.goto (-58), 3) := dc9_167 (by decide +kernel)
def h_MM_state0_72 (G : mG) (d : Nat) (a0 : Nat) (l1 : Int) (l2 : Int) (M : mM) (Q : mM → Prop) : Prop := mWm G y_MM_state0 (d + 1) 72 [vr a0, vi l1, vi l2] [] M (fun r9 M9 => r9 = none ∧ Q M9)
theorem k_MM_state0 {G : mG} {d : Nat} {a0 : Nat} {l1 : Int} {M : mM} {Q : mM → Prop} (hO : mOk M) (hi_l1 : i32 l1)
    (h : mK M a0 = 14 ∧ Cv G y_MM_enter d [vr a0, vi l1] M (fun M2 => mOk M2 ∧ (mK M2 a0 = 14 ∧ mK M2 (mR M2 a0 32) = 30 ∧ ((0 : Int) ≤ l1 ∧ l1 < (mN M2 (mR M2 a0 32) : Int)) ∧ ∀ M8, M8 = mUI M2 (mR M2 a0 32) (Int.toNat l1) 0 → mK M8 (mR M8 a0 35) = 15 ∧ mK M8 (mR M8 a0 33) = 30 ∧ ((0 : Int) ≤ l1 ∧ l1 < (mN M8 (mR M8 a0 33) : Int)) ∧ ∀ M13, M13 = mUI M8 (mR M8 a0 33) (Int.toNat l1) (mI M8 (mR M8 a0 35) 1) → mK M13 (mR M13 a0 34) = 30 ∧ ((0 : Int) ≤ l1 ∧ l1 < (mN M13 (mR M13 a0 34) : Int)) ∧ ∀ M17, M17 = mUI M13 (mR M13 a0 34) (Int.toNat l1) 0 → mK M17 (mR M17 a0 9) = 16 ∧ Cv G y_MM_reach d [vr a0, vi (mI M17 (mR M17 a0 9) 17)] M17 (fun M20 => mOk M20 ∧ (mK M20 a0 = 14 ∧ ((mI M20 a0 16 = 0) → (mK M20 (mR M20 a0 21) = 33 ∧ ((0 : Int) ≤ 0 ∧ 0 < (mN M20 (mR M20 a0 21) : Int)) ∧ ((cmpL (mL M20 (mR M20 a0 21) 0) 1 = 0) → (mK M20 (mR M20 a0 32) = 30 ∧ ((0 : Int) ≤ l1 ∧ l1 < (mN M20 (mR M20 a0 32) : Int)) ∧ ∀ M39, M39 = mUI M20 (mR M20 a0 32) (Int.toNat l1) 3 → Q M39)) ∧ (¬ (cmpL (mL M20 (mR M20 a0 21) 0) 1 = 0) → (h_MM_state0_72 G d a0 l1 0 M20 Q)))) ∧ (¬ (mI M20 a0 16 = 0) → (Q M20))))))) :
    Cv G y_MM_state0 (d + 1) [vr a0, vi l1] M Q := by
  refine wm_open (y := y_MM_state0) rfl (Nat.le_of_ble_eq_true rfl) (L := [vr a0, vi l1, vd]) rfl ?_
  obtain ⟨h1, h⟩ := h
  refine wm_aload_n d_MM_state0_0 rfl rfl ?_
  refine wm_iload_n d_MM_state0_1 rfl rfl ?_
  refine cf_MM_545 rfl d_MM_state0_2 h1 (Nat.le_of_ble_eq_true rfl) (Cv.mono h (fun M2 h => ?_))
  obtain ⟨hOM2, h⟩ := h
  obtain ⟨h5, h⟩ := h
  obtain ⟨h6, h⟩ := h
  obtain ⟨h7, h⟩ := h
  obtain ⟨M8, e9⟩ : ∃ M8, M8 = mUI M2 (mR M2 a0 32) (Int.toNat l1) 0 := ⟨_, rfl⟩
  replace h := h M8 e9
  obtain ⟨h10, h⟩ := h
  obtain ⟨h11, h⟩ := h
  obtain ⟨h12, h⟩ := h
  obtain ⟨M13, e14⟩ : ∃ M13, M13 = mUI M8 (mR M8 a0 33) (Int.toNat l1) (mI M8 (mR M8 a0 35) 1) := ⟨_, rfl⟩
  replace h := h M13 e14
  obtain ⟨h15, h⟩ := h
  obtain ⟨h16, h⟩ := h
  obtain ⟨M17, e18⟩ : ∃ M17, M17 = mUI M13 (mR M13 a0 34) (Int.toNat l1) 0 := ⟨_, rfl⟩
  replace h := h M17 e18
  obtain ⟨h19, h⟩ := h
  refine wm_aload_n d_MM_state0_5 rfl rfl ?_
  refine gf_MM_93 rfl d_MM_state0_6 h5 ?_
  refine wm_iload_n d_MM_state0_9 rfl rfl ?_
  refine wm_iconst d_MM_state0_10 ?_
  have hOM8 : mOk M8 := by rw [e9]; exact mOk_UI hOM2 ⟨by decide, by decide⟩
  refine wm_iastE d_MM_state0_11 h6 h7 ⟨by decide, by decide⟩ e9 ?_
  refine wm_aload_n d_MM_state0_12 rfl rfl ?_
  refine gf_MM_96 rfl d_MM_state0_13 (by rw [e9]; exact h5) ?_
  refine wm_iload_n d_MM_state0_16 rfl rfl ?_
  refine wm_aload_n d_MM_state0_17 rfl rfl ?_
  refine gf_MM_102 rfl d_MM_state0_18 (by rw [e9]; exact h5) ?_
  refine gf_MM_145 rfl d_MM_state0_21 h10 ?_
  have hOM13 : mOk M13 := by rw [e14]; exact mOk_UI hOM8 (hOM8 _ _).1
  refine wm_iastE d_MM_state0_24 h11 h12 (hOM8 _ _).1 e14 ?_
  refine wm_aload_n d_MM_state0_25 rfl rfl ?_
  refine gf_MM_99 rfl d_MM_state0_26 (by rw [e14, e9]; exact h5) ?_
  refine wm_iload_n d_MM_state0_29 rfl rfl ?_
  refine wm_iconst d_MM_state0_30 ?_
  have hOM17 : mOk M17 := by rw [e18]; exact mOk_UI hOM13 ⟨by decide, by decide⟩
  refine wm_iastE d_MM_state0_31 h15 h16 ⟨by decide, by decide⟩ e18 ?_
  refine wm_aload_n d_MM_state0_32 rfl rfl ?_
  refine wm_aload_n d_MM_state0_33 rfl rfl ?_
  refine gf_MM_34 rfl d_MM_state0_34 (by rw [e18, e14, e9]; exact h5) ?_
  refine gf_MM_439 rfl d_MM_state0_37 h19 ?_
  refine cf_MM_548 rfl d_MM_state0_40 (by rw [e18, e14, e9]; exact h5) (Nat.le_of_ble_eq_true rfl) (Cv.mono h (fun M20 h => ?_))
  obtain ⟨hOM20, h⟩ := h
  obtain ⟨h23, h⟩ := h
  refine wm_aload_n d_MM_state0_43 rfl rfl ?_
  refine gf_MM_267 rfl d_MM_state0_44 h23 ?_
  refine wm_if_eq (tgt := 51) d_MM_state0_47 rfl (hOM20 _ _).1 (fun c30 => ?_) (fun c30 => ?_)
  · replace h := h.1 c30
    obtain ⟨h31, h⟩ := h
    obtain ⟨h32, h⟩ := h
    refine wm_aload_n d_MM_state0_51 rfl rfl ?_
    refine gf_MM_63 rfl d_MM_state0_52 h23 ?_
    refine wm_iconst d_MM_state0_55 ?_
    refine wm_lald d_MM_state0_56 h31 h32 ?_
    refine wm_lconst (x := 1) d_MM_state0_57 rfl ?_
    refine wm_lcmp d_MM_state0_58 (hOM20 _ _).2 ⟨by decide, by decide⟩ ?_
    refine wm_if_ne (tgt := 70) d_MM_state0_59 rfl (m_cmp32 _ _) (fun c36 => ?_) (fun c36 => ?_)
    · replace h := h.2 c36
      refine wm_iconst d_MM_state0_70 ?_
      refine wm_istore_n d_MM_state0_71 rfl (by decide) (L' := [vr a0, vi l1, vi 0]) rfl ?_
      exact h
    · replace c36 := Classical.not_not.mp c36
      replace h := h.1 c36
      obtain ⟨h37, h⟩ := h
      obtain ⟨h38, h⟩ := h
      obtain ⟨M39, e40⟩ : ∃ M39, M39 = mUI M20 (mR M20 a0 32) (Int.toNat l1) 3 := ⟨_, rfl⟩
      replace h := h M39 e40
      refine wm_aload_n d_MM_state0_62 rfl rfl ?_
      refine gf_MM_93 rfl d_MM_state0_63 h23 ?_
      refine wm_iload_n d_MM_state0_66 rfl rfl ?_
      refine wm_iconst d_MM_state0_67 ?_
      have hOM39 : mOk M39 := by rw [e40]; exact mOk_UI hOM20 ⟨by decide, by decide⟩
      refine wm_iastE d_MM_state0_68 h37 h38 ⟨by decide, by decide⟩ e40 ?_
      refine wm_return d_MM_state0_69 rfl ?_
      exact ⟨rfl, h⟩
  · replace h := h.2 c30
    refine wm_return d_MM_state0_50 rfl ?_
    exact ⟨rfl, h⟩
theorem k_MM_state0_72 {G : mG} {d : Nat} {a0 : Nat} {l1 : Int} {l2 : Int} {M : mM} {Q : mM → Prop} (hO : mOk M) (hi_l1 : i32 l1) (hi_l2 : i32 l2)
    (h : mK M a0 = 14 ∧ mK M (mR M a0 9) = 16 ∧ (((mI M (mR M a0 9) 18 ≤ l2) ∨ (¬ (mI M a0 16 = 0))) → (Q M)) ∧ (¬ ((mI M (mR M a0 9) 18 ≤ l2) ∨ (¬ (mI M a0 16 = 0))) → (mK M (mR M (mR M a0 9) 21) = 30 ∧ ((0 : Int) ≤ l2 ∧ l2 < (mN M (mR M (mR M a0 9) 21) : Int)) ∧ Cv G y_MM_reach d [vr a0, vi (mI M (mR M (mR M a0 9) 21) (Int.toNat l2))] M (fun M50 => mOk M50 ∧ (mK M50 a0 = 14 ∧ ((mI M50 a0 16 = 0) → (mK M50 (mR M50 a0 21) = 33 ∧ ((0 : Int) ≤ 0 ∧ 0 < (mN M50 (mR M50 a0 21) : Int)))) ∧ (((mI M50 a0 16 = 0) ∧ (cmpL (mL M50 (mR M50 a0 21) 0) 1 = 0)) → (Cv G y_MM_enabled d [vr a0, vi l1, vi l2] M50 (fun M64 => mOk M64 ∧ (h_MM_state0_72 G d a0 l1 (l2 + 1) M64 Q)))) ∧ (¬ ((mI M50 a0 16 = 0) ∧ (cmpL (mL M50 (mR M50 a0 21) 0) 1 = 0)) → (h_MM_state0_72 G d a0 l1 (l2 + 1) M50 Q))))))) :
    h_MM_state0_72 G d a0 l1 l2 M Q := by
  unfold h_MM_state0_72
  obtain ⟨h41, h⟩ := h
  obtain ⟨h42, h⟩ := h
  refine wm_iload_n d_MM_state0_72 rfl rfl ?_
  refine wm_aload_n d_MM_state0_73 rfl rfl ?_
  refine gf_MM_34 rfl d_MM_state0_74 h41 ?_
  refine gf_MM_474 rfl d_MM_state0_77 h42 ?_
  have hE0 : ((mI M (mR M a0 9) 18 ≤ l2) ∨ (¬ (mI M a0 16 = 0))) → mWm G y_MM_state0 (d + 1) 133 [vr a0, vi l1, vi l2] [] M (fun r9 M9 => r9 = none ∧ Q M9) := by
    intro q46
    have h := h.1 q46
    refine wm_return d_MM_state0_133 rfl ?_
    exact ⟨rfl, h⟩
  have hE1 : ¬ ((mI M (mR M a0 9) 18 ≤ l2) ∨ (¬ (mI M a0 16 = 0))) → mWm G y_MM_state0 (d + 1) 90 [vr a0, vi l1, vi l2] [] M (fun r9 M9 => r9 = none ∧ Q M9) := by
    intro q47
    have h := h.2 q47
    obtain ⟨h48, h⟩ := h
    obtain ⟨h49, h⟩ := h
    refine wm_aload_n d_MM_state0_90 rfl rfl ?_
    refine wm_aload_n d_MM_state0_91 rfl rfl ?_
    refine gf_MM_34 rfl d_MM_state0_92 h41 ?_
    refine gf_MM_483 rfl d_MM_state0_95 h42 ?_
    refine wm_iload_n d_MM_state0_98 rfl rfl ?_
    refine wm_iald d_MM_state0_99 h48 h49 ?_
    refine cf_MM_548 rfl d_MM_state0_100 h41 (Nat.le_of_ble_eq_true rfl) (Cv.mono h (fun M50 h => ?_))
    obtain ⟨hOM50, h⟩ := h
    obtain ⟨h53, h⟩ := h
    refine wm_aload_n d_MM_state0_103 rfl rfl ?_
    refine gf_MM_267 rfl d_MM_state0_104 h53 ?_
    obtain ⟨s62, h⟩ := h
    have hE0 : ((mI M50 a0 16 = 0) ∧ (cmpL (mL M50 (mR M50 a0 21) 0) 1 = 0)) → mWm G y_MM_state0 (d + 1) 121 [vr a0, vi l1, vi l2] [] M50 (fun r9 M9 => r9 = none ∧ Q M9) := by
      intro q63
      have h := h.1 q63
      refine wm_aload_n d_MM_state0_121 rfl rfl ?_
      refine wm_iload_n d_MM_state0_122 rfl rfl ?_
      refine wm_iload_n d_MM_state0_123 rfl rfl ?_
      refine cf_MM_551 rfl d_MM_state0_124 h53 (Nat.le_of_ble_eq_true rfl) (Cv.mono h (fun M64 h => ?_))
      obtain ⟨hOM64, h⟩ := h
      refine wm_iinc d_MM_state0_127 (by decide) rfl (L' := [vr a0, vi l1, vi (l2 + 1)]) rfl ?_
      refine wm_goto (tgt := 72) d_MM_state0_130 rfl ?_
      exact h
    have hE1 : ¬ ((mI M50 a0 16 = 0) ∧ (cmpL (mL M50 (mR M50 a0 21) 0) 1 = 0)) → mWm G y_MM_state0 (d + 1) 127 [vr a0, vi l1, vi l2] [] M50 (fun r9 M9 => r9 = none ∧ Q M9) := by
      intro q67
      have h := h.2 q67
      refine wm_iinc d_MM_state0_127 (by decide) rfl (L' := [vr a0, vi l1, vi (l2 + 1)]) rfl ?_
      refine wm_goto (tgt := 72) d_MM_state0_130 rfl ?_
      exact h
    clear h
    have s68 := s62
    refine wm_if_ne (tgt := 127) d_MM_state0_107 rfl (hOM50 _ _).1 (fun c61 => ?_) (fun c61 => ?_)
    · exact hE1 (fun z71 => c61 z71.1)
    · replace c61 := Classical.not_not.mp c61
      have s68 := s68 c61
      obtain ⟨h58, h59⟩ := s68
      refine wm_aload_n d_MM_state0_110 rfl rfl ?_
      refine gf_MM_63 rfl d_MM_state0_111 h53 ?_
      refine wm_iconst d_MM_state0_114 ?_
      refine wm_lald d_MM_state0_115 h58 h59 ?_
      refine wm_lconst (x := 1) d_MM_state0_116 rfl ?_
      refine wm_lcmp d_MM_state0_117 (hOM50 _ _).2 ⟨by decide, by decide⟩ ?_
      refine wm_if_ne (tgt := 127) d_MM_state0_118 rfl (m_cmp32 _ _) (fun c60 => ?_) (fun c60 => ?_)
      · exact hE1 (fun z69 => c60 z69.2)
      · replace c60 := Classical.not_not.mp c60
        exact hE0 ⟨c61, c60⟩
  clear h
  refine wm_icmp_ge (tgt := 133) d_MM_state0_80 rfl hi_l2 (hO _ _).1 (fun c44 => ?_) (fun c44 => ?_)
  · exact hE0 (Or.inl c44)
  · refine wm_aload_n d_MM_state0_83 rfl rfl ?_
    refine gf_MM_267 rfl d_MM_state0_84 h41 ?_
    refine wm_if_ne (tgt := 133) d_MM_state0_87 rfl (hO _ _).1 (fun c43 => ?_) (fun c43 => ?_)
    · exact hE0 (Or.inr c43)
    · replace c43 := Classical.not_not.mp c43
      exact hE1 (fun z72 => Or.elim z72 c44 (fun z73 => z73 c43))
theorem d_MM_enabled_0 : decode y_MM_enabled.2.1 0 = .ok (.aload_n 0, 1) := dc9_42 (by decide +kernel)
theorem d_MM_enabled_1 : decode y_MM_enabled.2.1 1 = .ok (.getfield 34, 3) := dc9_180 (by decide +kernel)
theorem d_MM_enabled_4 : decode y_MM_enabled.2.1 4 = .ok (.getfield 477, 3) := dc9_180 (by decide +kernel)
theorem d_MM_enabled_7 : decode y_MM_enabled.2.1 7 = .ok (.iload_n 2, 1) := dc9_28 (by decide +kernel)
theorem d_MM_enabled_8 : decode y_MM_enabled.2.1 8 = .ok (.baload, 1) := dc9_51 (by decide +kernel)
theorem d_MM_enabled_9 : decode y_MM_enabled.2.1 9 = .ok (.ifCond .eq 7, 3) := dc9_153 (by decide +kernel)
theorem d_MM_enabled_16 : decode y_MM_enabled.2.1 16 = .ok (.iconst 1, 1) := dc9_4 (by decide +kernel)
theorem d_MM_enabled_12 : decode y_MM_enabled.2.1 12 = .ok (.iconst 2, 1) := dc9_5 (by decide +kernel)
theorem d_MM_enabled_13 : decode y_MM_enabled.2.1 13 = .ok (.goto 4, 3) := dc9_167 (by decide +kernel)
theorem d_MM_enabled_17 : decode y_MM_enabled.2.1 17 = .ok (.istore_n 3, 1) := dc9_62 (by decide +kernel)
theorem d_MM_enabled_18 : decode y_MM_enabled.2.1 18 = .ok (.aload_n 0, 1) := dc9_42 (by decide +kernel)
theorem d_MM_enabled_19 : decode y_MM_enabled.2.1 19 = .ok (.getfield 34, 3) := dc9_180 (by decide +kernel)
theorem d_MM_enabled_22 : decode y_MM_enabled.2.1 22 = .ok (.getfield 480, 3) := dc9_180 (by decide +kernel)
theorem d_MM_enabled_25 : decode y_MM_enabled.2.1 25 = .ok (.iload_n 2, 1) := dc9_28 (by decide +kernel)
theorem d_MM_enabled_26 : decode y_MM_enabled.2.1 26 = .ok (.iaload, 1) := dc9_46 (by decide +kernel)
theorem d_MM_enabled_27 : decode y_MM_enabled.2.1 27 = .ok (.istore 4, 2) := dc9_54 (by decide +kernel)
theorem d_MM_enabled_29 : decode y_MM_enabled.2.1 29 = .ok (.aload_n 0, 1) := dc9_42 (by decide +kernel)
theorem d_MM_enabled_30 : decode y_MM_enabled.2.1 30 = .ok (.getfield 93, 3) := dc9_180 (by decide +kernel)
theorem d_MM_enabled_33 : decode y_MM_enabled.2.1 33 = .ok (.iload_n 1, 1) := dc9_27 (by decide +kernel)
theorem d_MM_enabled_34 : decode y_MM_enabled.2.1 34 = .ok (.iaload, 1) := dc9_46 (by decide +kernel)
theorem d_MM_enabled_35 : decode y_MM_enabled.2.1 35 = .ok (.ifCond .eq 22, 3) := dc9_153 (by decide +kernel)
theorem d_MM_enabled_38 : decode y_MM_enabled.2.1 38 = .ok (.aload_n 0, 1) := dc9_42 (by decide +kernel)
theorem d_MM_enabled_39 : decode y_MM_enabled.2.1 39 = .ok (.getfield 93, 3) := dc9_180 (by decide +kernel)
theorem d_MM_enabled_42 : decode y_MM_enabled.2.1 42 = .ok (.iload_n 1, 1) := dc9_27 (by decide +kernel)
theorem d_MM_enabled_43 : decode y_MM_enabled.2.1 43 = .ok (.iaload, 1) := dc9_46 (by decide +kernel)
theorem d_MM_enabled_44 : decode y_MM_enabled.2.1 44 = .ok (.iload_n 3, 1) := dc9_29 (by decide +kernel)
theorem d_MM_enabled_45 : decode y_MM_enabled.2.1 45 = .ok (.if_icmp .eq 12, 3) := dc9_159 (by decide +kernel)
theorem d_MM_enabled_48 : decode y_MM_enabled.2.1 48 = .ok (.aload_n 0, 1) := dc9_42 (by decide +kernel)
theorem d_MM_enabled_49 : decode y_MM_enabled.2.1 49 = .ok (.bipush 13, 2) := dc9_16 (by decide +kernel)
theorem d_MM_enabled_51 : decode y_MM_enabled.2.1 51 = .ok (.iload 4, 2) := dc9_21 (by decide +kernel)
theorem d_MM_enabled_57 : decode y_MM_enabled.2.1 57 = .ok (.aload_n 0, 1) := dc9_42 (by decide +kernel)
theorem d_MM_enabled_58 : decode y_MM_enabled.2.1 58 = .ok (.getfield 93, 3) := dc9_180 (by decide +kernel)
theorem d_MM_enabled_61 : decode y_MM_enabled.2.1 61 = .ok (.iload_n 1, 1) := dc9_27 (by decide +kernel)
theorem d_MM_enabled_62 : decode y_MM_enabled.2.1 62 = .ok (.iload_n 3, 1) := dc9_29 (by decide +kernel)
theorem d_MM_enabled_63 : decode y_MM_enabled.2.1 63 = .ok (.iastore, 1) := dc9_79 (by decide +kernel)
theorem d_MM_enabled_64 : decode y_MM_enabled.2.1 64 = .ok (.aload_n 0, 1) := dc9_42 (by decide +kernel)
theorem d_MM_enabled_65 : decode y_MM_enabled.2.1 65 = .ok (.iload_n 2, 1) := dc9_28 (by decide +kernel)
theorem d_MM_enabled_66 : decode y_MM_enabled.2.1 66 = .ok (.iload 4, 2) := dc9_21 (by decide +kernel)
theorem d_MM_enabled_68 : decode y_MM_enabled.2.1 68 = .ok (.invokevirtual 554, 3) := dc9_182 (by decide +kernel)
theorem d_MM_enabled_71 : decode y_MM_enabled.2.1 71 = .ok (.lstore 5, 2) := dc9_55 (by decide +kernel)
theorem d_MM_enabled_73 : decode y_MM_enabled.2.1 73 = .ok (.aload_n 0, 1) := dc9_42 (by decide +kernel)
theorem d_MM_enabled_74 : decode y_MM_enabled.2.1 74 = .ok (.getfield 267, 3) := dc9_180 (by decide +kernel)
theorem d_MM_enabled_77 : decode y_MM_enabled.2.1 77 = .ok (.ifCond .eq 4, 3) := dc9_153 (by decide +kernel)
theorem d_MM_enabled_81 : decode y_MM_enabled.2.1 81 = .ok (.lconst 0, 1) := dc9_9 (by decide +kernel)
theorem d_MM_enabled_82 : decode y_MM_enabled.2.1 82 = .ok (.lstore 7, 2) := dc9_55 (by decide +kernel)
theorem d_MM_enabled_84 : decode y_MM_enabled.2.1 84 = .ok (.iconst 0, 1) := dc9_3 (by decide +kernel)
theorem d_MM_enabled_85 : decode y_MM_enabled.2.1 85 = .ok (.istore 9, 2) := dc9_54 (by decide +kernel)
theorem d_MM_enabled_80 : decode y_MM_enabled.2.1 80 = .ok (.return_, 1) := dc9_177 (by decide +kernel)
theorem d_MM_enabled_53 : decode y_MM_enabled.2.1 53 = .ok (.invokevirtual 351, 3) := dc9_182 (by decide +kernel)
theorem d_MM_enabled_56 : decode y_MM_enabled.2.1 56 = .ok (.return_, 1) := dc9_177 (by decide +kernel)
theorem d_MM_enabled_87 : decode y_MM_enabled.2.1 87 = .ok (.iload 9, 2) := dc9_21 (by decide +kernel)
theorem d_MM_enabled_89 : decode y_MM_enabled.2.1 89 = .ok (.aload_n 0, 1) := dc9_42 (by decide +kernel)
theorem d_MM_enabled_90 : decode y_MM_enabled.2.1 90 = .ok (.getfield 34, 3) := dc9_180 (by decide +kernel)
theorem d_MM_enabled_93 : decode y_MM_enabled.2.1 93 = .ok (.getfield 486, 3) := dc9_180 (by decide +kernel)
theorem d_MM_enabled_96 : decode y_MM_enabled.2.1 96 = .ok (.iload_n 2, 1) := dc9_28 (by decide +kernel)
theorem d_MM_enabled_97 : decode y_MM_enabled.2.1 97 = .ok (.iaload, 1) := dc9_46 (by decide +kernel)
theorem d_MM_enabled_98 : decode y_MM_enabled.2.1 98 = .ok (.if_icmp .ge 32, 3) := dc9_162 (by decide +kernel)
theorem d_MM_enabled_130 : decode y_MM_enabled.2.1 130 = .ok (.lload 7, 2) := dc9_22 (by decide +kernel)
theorem d_MM_enabled_132 : decode y_MM_enabled.2.1 132 = .ok (.lload 5, 2) := dc9_22 (by decide +kernel)
theorem d_MM_enabled_134 : decode y_MM_enabled.2.1 134 = .ok (.lcmp, 1) := dc9_148 (by decide +kernel)
theorem d_MM_enabled_101 : decode y_MM_enabled.2.1 101 = .ok (.lload 7, 2) := dc9_22 (by decide +kernel)
theorem d_MM_enabled_103 : decode y_MM_enabled.2.1 103 = .ok (.aload_n 0, 1) := dc9_42 (by decide +kernel)
theorem d_MM_enabled_104 : decode y_MM_enabled.2.1 104 = .ok (.getfield 133, 3) := dc9_180 (by decide +kernel)
theorem d_MM_enabled_107 : decode y_MM_enabled.2.1 107 = .ok (.iload 9, 2) := dc9_21 (by decide +kernel)
theorem d_MM_enabled_109 : decode y_MM_enabled.2.1 109 = .ok (.laload, 1) := dc9_47 (by decide +kernel)
theorem d_MM_enabled_110 : decode y_MM_enabled.2.1 110 = .ok (.lload 5, 2) := dc9_22 (by decide +kernel)
theorem d_MM_enabled_112 : decode y_MM_enabled.2.1 112 = .ok (.aload_n 0, 1) := dc9_42 (by decide +kernel)
theorem d_MM_enabled_113 : decode y_MM_enabled.2.1 113 = .ok (.getfield 136, 3) := dc9_180 (by decide +kernel)
theorem d_MM_enabled_116 : decode y_MM_enabled.2.1 116 = .ok (.iload 9, 2) := dc9_21 (by decide +kernel)
theorem d_MM_enabled_118 : decode y_MM_enabled.2.1 118 = .ok (.laload, 1) := dc9_47 (by decide +kernel)
theorem d_MM_enabled_119 : decode y_MM_enabled.2.1 119 = .ok (.ldiv, 1) := dc9_109 (by decide +kernel)
theorem d_MM_enabled_120 : decode y_MM_enabled.2.1 120 = .ok (.lmul, 1) := dc9_105 (by decide +kernel)
theorem d_MM_enabled_121 : decode y_MM_enabled.2.1 121 = .ok (.ladd, 1) := dc9_97 (by decide +kernel)
theorem d_MM_enabled_122 : decode y_MM_enabled.2.1 122 = .ok (.lstore 7, 2) := dc9_55 (by decide +kernel)
theorem d_MM_enabled_124 : decode y_MM_enabled.2.1 124 = .ok (.iinc 9 1, 3) := by decide +kernel
theorem d_MM_enabled_127 : decode y_MM_enabled.2.1 127 = .ok (.goto (-40), 3) := dc9_167 (by decide +kernel)
theorem d_MM_enabled_135 : decode y_MM_enabled.2.1 135 = .ok (.ifCond .eq 12, 3) := dc9_153 (by decide +kernel)
theorem d_MM_enabled_147 : decode y_MM_enabled.2.1 147 = .ok (.aload_n 0, 1) := dc9_42 (by decide +kernel)
theorem d_MM_enabled_148 : decode y_MM_enabled.2.1 148 = .ok (.getfield 102, 3) := dc9_180 (by decide +kernel)
theorem d_MM_enabled_151 : decode y_MM_enabled.2.1 151 = .ok (.iload_n 2, 1) := dc9_28 (by decide +kernel)
theorem d_MM_enabled_138 : decode y_MM_enabled.2.1 138 = .ok (.aload_n 0, 1) := dc9_42 (by decide +kernel)
theorem d_MM_enabled_139 : decode y_MM_enabled.2.1 139 = .ok (.bipush 11, 2) := dc9_16 (by decide +kernel)
theorem d_MM_enabled_141 : decode y_MM_enabled.2.1 141 = .ok (.iload 4, 2) := dc9_21 (by decide +kernel)
theorem d_MM_enabled_152 : decode y_MM_enabled.2.1 152 = .ok (.invokevirtual 152, 3) := dc9_182 (by decide +kernel)
theorem d_MM_enabled_155 : decode y_MM_enabled.2.1 155 = .ok (.aload_n 0, 1) := dc9_42 (by decide +kernel)
theorem d_MM_enabled_156 : decode y_MM_enabled.2.1 156 = .ok (.getfield 111, 3) := dc9_180 (by decide +kernel)
theorem d_MM_enabled_159 : decode y_MM_enabled.2.1 159 = .ok (.lload 5, 2) := dc9_22 (by decide +kernel)
theorem d_MM_enabled_161 : decode y_MM_enabled.2.1 161 = .ok (.l2i, 1) := dc9_136 (by decide +kernel)
theorem d_MM_enabled_162 : decode y_MM_enabled.2.1 162 = .ok (.invokevirtual 152, 3) := dc9_182 (by decide +kernel)
theorem d_MM_enabled_165 : decode y_MM_enabled.2.1 165 = .ok (.aload_n 0, 1) := dc9_42 (by decide +kernel)
theorem d_MM_enabled_166 : decode y_MM_enabled.2.1 166 = .ok (.getfield 105, 3) := dc9_180 (by decide +kernel)
theorem d_MM_enabled_169 : decode y_MM_enabled.2.1 169 = .ok (.aload_n 0, 1) := dc9_42 (by decide +kernel)
theorem d_MM_enabled_170 : decode y_MM_enabled.2.1 170 = .ok (.getfield 536, 3) := dc9_180 (by decide +kernel)
theorem d_MM_enabled_173 : decode y_MM_enabled.2.1 173 = .ok (.invokevirtual 152, 3) := dc9_182 (by decide +kernel)
theorem d_MM_enabled_176 : decode y_MM_enabled.2.1 176 = .ok (.aload_n 0, 1) := dc9_42 (by decide +kernel)
theorem d_MM_enabled_177 : decode y_MM_enabled.2.1 177 = .ok (.getfield 108, 3) := dc9_180 (by decide +kernel)
theorem d_MM_enabled_180 : decode y_MM_enabled.2.1 180 = .ok (.iconst 0, 1) := dc9_3 (by decide +kernel)
theorem d_MM_enabled_181 : decode y_MM_enabled.2.1 181 = .ok (.invokevirtual 152, 3) := dc9_182 (by decide +kernel)
theorem d_MM_enabled_184 : decode y_MM_enabled.2.1 184 = .ok (.aload_n 0, 1) := dc9_42 (by decide +kernel)
theorem d_MM_enabled_185 : decode y_MM_enabled.2.1 185 = .ok (.getfield 99, 3) := dc9_180 (by decide +kernel)
theorem d_MM_enabled_188 : decode y_MM_enabled.2.1 188 = .ok (.iload_n 1, 1) := dc9_27 (by decide +kernel)
theorem d_MM_enabled_189 : decode y_MM_enabled.2.1 189 = .ok (.aload_n 0, 1) := dc9_42 (by decide +kernel)
theorem d_MM_enabled_190 : decode y_MM_enabled.2.1 190 = .ok (.getfield 99, 3) := dc9_180 (by decide +kernel)
theorem d_MM_enabled_193 : decode y_MM_enabled.2.1 193 = .ok (.iload_n 1, 1) := dc9_27 (by decide +kernel)
theorem d_MM_enabled_194 : decode y_MM_enabled.2.1 194 = .ok (.iaload, 1) := dc9_46 (by decide +kernel)
theorem d_MM_enabled_195 : decode y_MM_enabled.2.1 195 = .ok (.iconst 1, 1) := dc9_4 (by decide +kernel)
theorem d_MM_enabled_196 : decode y_MM_enabled.2.1 196 = .ok (.iadd, 1) := dc9_96 (by decide +kernel)
theorem d_MM_enabled_197 : decode y_MM_enabled.2.1 197 = .ok (.iastore, 1) := dc9_79 (by decide +kernel)
theorem d_MM_enabled_198 : decode y_MM_enabled.2.1 198 = .ok (.iconst 0, 1) := dc9_3 (by decide +kernel)
theorem d_MM_enabled_199 : decode y_MM_enabled.2.1 199 = .ok (.istore 9, 2) := dc9_54 (by decide +kernel)
theorem d_MM_enabled_143 : decode y_MM_enabled.2.1 143 = .ok (.invokevirtual 351, 3) := dc9_182 (by decide +kernel)
theorem d_MM_enabled_146 : decode y_MM_enabled.2.1 146 = .ok (.return_, 1) := dc9_177 (by decide +kernel)
theorem d_MM_enabled_201 : decode y_MM_enabled.2.1 201 = .ok (.iload 9, 2) := dc9_21 (by decide +kernel)
theorem d_MM_enabled_203 : decode y_MM_enabled.2.1 203 = .ok (.aload_n 0, 1) := dc9_42 (by decide +kernel)
theorem d_MM_enabled_204 : decode y_MM_enabled.2.1 204 = .ok (.getfield 34, 3) := dc9_180 (by decide +kernel)
theorem d_MM_enabled_207 : decode y_MM_enabled.2.1 207 = .ok (.getfield 486, 3) := dc9_180 (by decide +kernel)
theorem d_MM_enabled_210 : decode y_MM_enabled.2.1 210 = .ok (.iload_n 2, 1) := dc9_28 (by decide +kernel)
theorem d_MM_enabled_211 : decode y_MM_enabled.2.1 211 = .ok (.iaload, 1) := dc9_46 (by decide +kernel)
theorem d_MM_enabled_212 : decode y_MM_enabled.2.1 212 = .ok (.if_icmp .ge 37, 3) := dc9_162 (by decide +kernel)
theorem d_MM_enabled_215 : decode y_MM_enabled.2.1 215 = .ok (.aload_n 0, 1) := dc9_42 (by decide +kernel)
theorem d_MM_enabled_216 : decode y_MM_enabled.2.1 216 = .ok (.getfield 267, 3) := dc9_180 (by decide +kernel)
theorem d_MM_enabled_219 : decode y_MM_enabled.2.1 219 = .ok (.ifCond .ne 30, 3) := dc9_154 (by decide +kernel)
theorem d_MM_enabled_222 : decode y_MM_enabled.2.1 222 = .ok (.aload_n 0, 1) := dc9_42 (by decide +kernel)
theorem d_MM_enabled_223 : decode y_MM_enabled.2.1 223 = .ok (.getfield 133, 3) := dc9_180 (by decide +kernel)
theorem d_MM_enabled_226 : decode y_MM_enabled.2.1 226 = .ok (.iload 9, 2) := dc9_21 (by decide +kernel)
theorem d_MM_enabled_228 : decode y_MM_enabled.2.1 228 = .ok (.laload, 1) := dc9_47 (by decide +kernel)
theorem d_MM_enabled_229 : decode y_MM_enabled.2.1 229 = .ok (.lconst 0, 1) := dc9_9 (by decide +kernel)
theorem d_MM_enabled_230 : decode y_MM_enabled.2.1 230 = .ok (.lcmp, 1) := dc9_148 (by decide +kernel)
theorem d_MM_enabled_231 : decode y_MM_enabled.2.1 231 = .ok (.ifCond .eq 12, 3) := dc9_153 (by decide +kernel)
theorem d_MM_enabled_234 : decode y_MM_enabled.2.1 234 = .ok (.aload_n 0, 1) := dc9_42 (by decide +kernel)
theorem d_MM_enabled_235 : decode y_MM_enabled.2.1 235 = .ok (.iload_n 2, 1) := dc9_28 (by decide +kernel)
theorem d_MM_enabled_236 : decode y_MM_enabled.2.1 236 = .ok (.iload 9, 2) := dc9_21 (by decide +kernel)
theorem d_MM_enabled_238 : decode y_MM_enabled.2.1 238 = .ok (.iload 4, 2) := dc9_21 (by decide +kernel)
theorem d_MM_enabled_249 : decode y_MM_enabled.2.1 249 = .ok (.return_, 1) := dc9_177 (by decide +kernel)
theorem d_MM_enabled_243 : decode y_MM_enabled.2.1 243 = .ok (.iinc 9 1, 3) := by decide +kernel
theorem d_MM_enabled_246 : decode y_MM_enabled.2.1 246 = .ok (.goto (-45), 3) := dc9_167 (by decide +kernel)
theorem d_MM_enabled_240 : decode y_MM_enabled.2.1 240 = .ok (.invokevirtual 558, 3) := dc9_182 (by decide +kernel)
def h_MM_enabled_87 (G : mG) (d : Nat) (a0 : Nat) (l1 : Int) (l2 : Int) (l4 : Int) (j5 : Int) (j7 : Int) (l9 : Int) (M : mM) (Q : mM → Prop) : Prop := mWm G y_MM_enabled (d + 1) 87 [vr a0, vi l1, vi l2, vd, vi l4, vl j5, vd, vl j7, vd, vi l9] [] M (fun r9 M9 => r9 = none ∧ Q M9)
def h_MM_enabled_201 (G : mG) (d : Nat) (a0 : Nat) (l2 : Int) (l4 : Int) (l9 : Int) (M : mM) (Q : mM → Prop) : Prop := mWm G y_MM_enabled (d + 1) 201 [vr a0, vd, vi l2, vd, vi l4, vd, vd, vd, vd, vi l9] [] M (fun r9 M9 => r9 = none ∧ Q M9)
theorem k_MM_enabled {G : mG} {d : Nat} {a0 : Nat} {l1 : Int} {l2 : Int} {M : mM} {Q : mM → Prop} (hO : mOk M) (hi_l1 : i32 l1) (hi_l2 : i32 l2)
    (h : mK M a0 = 14 ∧ mK M (mR M a0 9) = 16 ∧ mK M (mR M (mR M a0 9) 19) = 31 ∧ ((0 : Int) ≤ l2 ∧ l2 < (mN M (mR M (mR M a0 9) 19) : Int)) ∧ ∀ v6 : Int, v6 = (if (mI M (mR M (mR M a0 9) 19) (Int.toNat l2) = 0) then 1 else 2) → mK M (mR M (mR M a0 9) 20) = 30 ∧ ((0 : Int) ≤ l2 ∧ l2 < (mN M (mR M (mR M a0 9) 20) : Int)) ∧ mK M (mR M a0 32) = 30 ∧ ((0 : Int) ≤ l1 ∧ l1 < (mN M (mR M a0 32) : Int)) ∧ (¬ (mI M (mR M a0 32) (Int.toNat l1) = 0) → ((0 : Int) ≤ l1 ∧ l1 < (mN M (mR M a0 32) : Int))) ∧ (((mI M (mR M a0 32) (Int.toNat l1) = 0) ∨ (mI M (mR M a0 32) (Int.toNat l1) = v6)) → (((0 : Int) ≤ l1 ∧ l1 < (mN M (mR M a0 32) : Int)) ∧ ∀ M20, M20 = mUI M (mR M a0 32) (Int.toNat l1) v6 → Cj G y_MM_chances d [vr a0, vi l2, vi (mI M (mR M (mR M a0 9) 20) (Int.toNat l2))] M20 (fun x23 M22 => i64 x23 ∧ mOk M22 ∧ (mK M22 a0 = 14 ∧ ((mI M22 a0 16 = 0) → (h_MM_enabled_87 G d a0 l1 l2 (mI M (mR M (mR M a0 9) 20) (Int.toNat l2)) x23 0 0 M22 Q)) ∧ (¬ (mI M22 a0 16 = 0) → (Q M22)))))) ∧ (¬ ((mI M (mR M a0 32) (Int.toNat l1) = 0) ∨ (mI M (mR M a0 32) (Int.toNat l1) = v6)) → (Cv G y_MM_stop d [vr a0, vi 13, vi (mI M (mR M (mR M a0 9) 20) (Int.toNat l2))] M (fun M29 => mOk M29 ∧ (Q M29))))) :
    Cv G y_MM_enabled (d + 1) [vr a0, vi l1, vi l2] M Q := by
  refine wm_open (y := y_MM_enabled) rfl (Nat.le_of_ble_eq_true rfl) (L := [vr a0, vi l1, vi l2, vd, vd, vd, vd, vd, vd, vd]) rfl ?_
  obtain ⟨h1, h⟩ := h
  obtain ⟨h2, h⟩ := h
  obtain ⟨h3, h⟩ := h
  obtain ⟨h4, h⟩ := h
  refine wm_aload_n d_MM_enabled_0 rfl rfl ?_
  refine gf_MM_34 rfl d_MM_enabled_1 h1 ?_
  refine gf_MM_477 rfl d_MM_enabled_4 h2 ?_
  refine wm_iload_n d_MM_enabled_7 rfl rfl ?_
  refine wm_zald d_MM_enabled_8 h3 h4 ?_
  have hJ : ∀ v6 : Int, v6 = (if (mI M (mR M (mR M a0 9) 19) (Int.toNat l2) = 0) then 1 else 2) → mWm G y_MM_enabled (d + 1) 17 [vr a0, vi l1, vi l2, vd, vd, vd, vd, vd, vd, vd] [vi v6] M (fun r9 M9 => r9 = none ∧ Q M9) := by
    intro v6 e8
    have h := h v6 e8
    have h9 : i32 v6 := by rw [e8]; (repeat' split) <;> first | exact ⟨by decide, by decide⟩ | exact ⟨by decide, by decide⟩
    obtain ⟨h10, h⟩ := h
    obtain ⟨h11, h⟩ := h
    obtain ⟨h12, h⟩ := h
    obtain ⟨h13, h⟩ := h
    refine wm_istore_n d_MM_enabled_17 rfl (by decide) (L' := [vr a0, vi l1, vi l2, vi v6, vd, vd, vd, vd, vd, vd]) rfl ?_
    refine wm_aload_n d_MM_enabled_18 rfl rfl ?_
    refine gf_MM_34 rfl d_MM_enabled_19 h1 ?_
    refine gf_MM_480 rfl d_MM_enabled_22 h2 ?_
    refine wm_iload_n d_MM_enabled_25 rfl rfl ?_
    refine wm_iald d_MM_enabled_26 h10 h11 ?_
    refine wm_istore d_MM_enabled_27 (by decide) (L' := [vr a0, vi l1, vi l2, vi v6, vi (mI M (mR M (mR M a0 9) 20) (Int.toNat l2)), vd, vd, vd, vd, vd]) rfl ?_
    refine wm_aload_n d_MM_enabled_29 rfl rfl ?_
    refine gf_MM_93 rfl d_MM_enabled_30 h1 ?_
    refine wm_iload_n d_MM_enabled_33 rfl rfl ?_
    refine wm_iald d_MM_enabled_34 h12 h13 ?_
    obtain ⟨s17, h⟩ := h
    have hE0 : ((mI M (mR M a0 32) (Int.toNat l1) = 0) ∨ (mI M (mR M a0 32) (Int.toNat l1) = v6)) → mWm G y_MM_enabled (d + 1) 57 [vr a0, vi l1, vi l2, vi v6, vi (mI M (mR M (mR M a0 9) 20) (Int.toNat l2)), vd, vd, vd, vd, vd] [] M (fun r9 M9 => r9 = none ∧ Q M9) := by
      intro q18
      have h := h.1 q18
      obtain ⟨h19, h⟩ := h
      obtain ⟨M20, e21⟩ : ∃ M20, M20 = mUI M (mR M a0 32) (Int.toNat l1) v6 := ⟨_, rfl⟩
      replace h := h M20 e21
      refine wm_aload_n d_MM_enabled_57 rfl rfl ?_
      refine gf_MM_93 rfl d_MM_enabled_58 h1 ?_
      refine wm_iload_n d_MM_enabled_61 rfl rfl ?_
      refine wm_iload_n d_MM_enabled_62 rfl rfl ?_
      have hOM20 : mOk M20 := by rw [e21]; exact mOk_UI hO h9
      refine wm_iastE d_MM_enabled_63 h12 h19 h9 e21 ?_
      refine wm_aload_n d_MM_enabled_64 rfl rfl ?_
      refine wm_iload_n d_MM_enabled_65 rfl rfl ?_
      refine wm_iload d_MM_enabled_66 rfl ?_
      refine cf_MM_554 rfl d_MM_enabled_68 (by rw [e21]; exact h1) (Nat.le_of_ble_eq_true rfl) (Cj.mono h (fun x23 M22 h => ?_))
      obtain ⟨h24, hOM22, h⟩ := h
      obtain ⟨h25, h⟩ := h
      refine wm_lstore d_MM_enabled_71 (by decide) (L' := [vr a0, vi l1, vi l2, vi v6, vi (mI M (mR M (mR M a0 9) 20) (Int.toNat l2)), vl x23, vd, vd, vd, vd]) rfl ?_
      refine wm_aload_n d_MM_enabled_73 rfl rfl ?_
      refine gf_MM_267 rfl d_MM_enabled_74 h25 ?_
      refine wm_if_eq (tgt := 81) d_MM_enabled_77 rfl (hOM22 _ _).1 (fun c27 => ?_) (fun c27 => ?_)
      · replace h := h.1 c27
        refine wm_lconst (x := 0) d_MM_enabled_81 rfl ?_
        refine wm_lstore d_MM_enabled_82 (by decide) (L' := [vr a0, vi l1, vi l2, vi v6, vi (mI M (mR M (mR M a0 9) 20) (Int.toNat l2)), vl x23, vd, vl 0, vd, vd]) rfl ?_
        refine wm_iconst d_MM_enabled_84 ?_
        refine wm_istore d_MM_enabled_85 (by decide) (L' := [vr a0, vi l1, vi l2, vi v6, vi (mI M (mR M (mR M a0 9) 20) (Int.toNat l2)), vl x23, vd, vl 0, vd, vi 0]) rfl ?_
        refine wm_less (L' := [vr a0, vi l1, vi l2, vd, vi (mI M (mR M (mR M a0 9) 20) (Int.toNat l2)), vl x23, vd, vl 0, vd, vi 0]) ⟨Or.inr rfl, Or.inr rfl, Or.inr rfl, Or.inl rfl, Or.inr rfl, Or.inr rfl, Or.inl rfl, Or.inr rfl, Or.inl rfl, Or.inr rfl, trivial⟩ ?_
        exact h
      · replace h := h.2 c27
        refine wm_return d_MM_enabled_80 rfl ?_
        exact ⟨rfl, h⟩
    have hE1 : ¬ ((mI M (mR M a0 32) (Int.toNat l1) = 0) ∨ (mI M (mR M a0 32) (Int.toNat l1) = v6)) → mWm G y_MM_enabled (d + 1) 48 [vr a0, vi l1, vi l2, vi v6, vi (mI M (mR M (mR M a0 9) 20) (Int.toNat l2)), vd, vd, vd, vd, vd] [] M (fun r9 M9 => r9 = none ∧ Q M9) := by
      intro q28
      have h := h.2 q28
      refine wm_aload_n d_MM_enabled_48 rfl rfl ?_
      refine wm_bipush d_MM_enabled_49 (by decide) ?_
      refine wm_iload d_MM_enabled_51 rfl ?_
      refine cf_MM_351 rfl d_MM_enabled_53 h1 (Nat.le_of_ble_eq_true rfl) (Cv.mono h (fun M29 h => ?_))
      obtain ⟨hOM29, h⟩ := h
      refine wm_return d_MM_enabled_56 rfl ?_
      exact ⟨rfl, h⟩
    clear h
    have s32 := s17
    refine wm_if_eq (tgt := 57) d_MM_enabled_35 rfl (hO _ _).1 (fun c16 => ?_) (fun c16 => ?_)
    · exact hE0 (Or.inl c16)
    · have s32 := s32 c16
      have h14 := s32
      refine wm_aload_n d_MM_enabled_38 rfl rfl ?_
      refine gf_MM_93 rfl d_MM_enabled_39 h1 ?_
      refine wm_iload_n d_MM_enabled_42 rfl rfl ?_
      refine wm_iald d_MM_enabled_43 h12 h14 ?_
      refine wm_iload_n d_MM_enabled_44 rfl rfl ?_
      refine wm_icmp_eq (tgt := 57) d_MM_enabled_45 rfl (hO _ _).1 h9 (fun c15 => ?_) (fun c15 => ?_)
      · exact hE0 (Or.inr c15)
      · exact hE1 (fun z33 => Or.elim z33 c16 c15)
  clear h
  refine wm_if_eq (tgt := 16) d_MM_enabled_9 rfl (hO _ _).1 (fun c5 => ?_) (fun c5 => ?_)
  · refine wm_iconst d_MM_enabled_16 ?_
    exact hJ 1 (if_pos c5).symm
  · refine wm_iconst d_MM_enabled_12 ?_
    refine wm_goto (tgt := 17) d_MM_enabled_13 rfl ?_
    exact hJ 2 (if_neg c5).symm
theorem k_MM_enabled_87 {G : mG} {d : Nat} {a0 : Nat} {l1 : Int} {l2 : Int} {l4 : Int} {j5 : Int} {j7 : Int} {l9 : Int} {M : mM} {Q : mM → Prop} (hO : mOk M) (hi_l1 : i32 l1) (hi_l2 : i32 l2) (hi_l4 : i32 l4) (hi_j5 : i64 j5) (hi_j7 : i64 j7) (hi_l9 : i32 l9)
    (h : mK M a0 = 14 ∧ mK M (mR M a0 9) = 16 ∧ mK M (mR M (mR M a0 9) 22) = 30 ∧ ((0 : Int) ≤ l2 ∧ l2 < (mN M (mR M (mR M a0 9) 22) : Int)) ∧ ((mI M (mR M (mR M a0 9) 22) (Int.toNat l2) ≤ l9) → (((cmpL j7 j5 = 0) → (mK M (mR M a0 35) = 15 ∧ Cv G y_MN_add d [vr (mR M a0 35), vi l2] M (fun M51 => mOk M51 ∧ (mK M51 a0 = 14 ∧ mK M51 (mR M51 a0 38) = 15 ∧ Cv G y_MN_add d [vr (mR M51 a0 38), vi j5] M51 (fun M56 => mOk M56 ∧ (mK M56 a0 = 14 ∧ mK M56 (mR M56 a0 36) = 15 ∧ Cv G y_MN_add d [vr (mR M56 a0 36), vi (mI M56 a0 40)] M56 (fun M61 => mOk M61 ∧ (mK M61 a0 = 14 ∧ mK M61 (mR M61 a0 37) = 15 ∧ Cv G y_MN_add d [vr (mR M61 a0 37), vi 0] M61 (fun M66 => mOk M66 ∧ (mK M66 a0 = 14 ∧ mK M66 (mR M66 a0 34) = 30 ∧ ((0 : Int) ≤ l1 ∧ l1 < (mN M66 (mR M66 a0 34) : Int)) ∧ ((0 : Int) ≤ l1 ∧ l1 < (mN M66 (mR M66 a0 34) : Int)) ∧ i32 ((mI M66 (mR M66 a0 34) (Int.toNat l1)) + 1) ∧ ∀ M74, M74 = mUI M66 (mR M66 a0 34) (Int.toNat l1) ((mI M66 (mR M66 a0 34) (Int.toNat l1)) + 1) → h_MM_enabled_201 G d a0 l2 l4 0 M74 Q)))))))))) ∧ (¬ (cmpL j7 j5 = 0) → (Cv G y_MM_stop d [vr a0, vi 11, vi l4] M (fun M76 => mOk M76 ∧ (Q M76)))))) ∧ (¬ (mI M (mR M (mR M a0 9) 22) (Int.toNat l2) ≤ l9) → (mK M (mR M a0 45) = 33 ∧ ((0 : Int) ≤ l9 ∧ l9 < (mN M (mR M a0 45) : Int)) ∧ mK M (mR M a0 46) = 33 ∧ ((0 : Int) ≤ l9 ∧ l9 < (mN M (mR M a0 46) : Int)) ∧ (mL M (mR M a0 46) (Int.toNat l9)) ≠ 0 ∧ h_MM_enabled_87 G d a0 l1 l2 l4 j5 (j7 + ((mL M (mR M a0 45) (Int.toNat l9)) * (Int.tdiv j5 (mL M (mR M a0 46) (Int.toNat l9))))) (l9 + 1) M Q))) :
    h_MM_enabled_87 G d a0 l1 l2 l4 j5 j7 l9 M Q := by
  unfold h_MM_enabled_87
  obtain ⟨h36, h⟩ := h
  obtain ⟨h37, h⟩ := h
  obtain ⟨h38, h⟩ := h
  obtain ⟨h39, h⟩ := h
  refine wm_iload d_MM_enabled_87 rfl ?_
  refine wm_aload_n d_MM_enabled_89 rfl rfl ?_
  refine gf_MM_34 rfl d_MM_enabled_90 h36 ?_
  refine gf_MM_486 rfl d_MM_enabled_93 h37 ?_
  refine wm_iload_n d_MM_enabled_96 rfl rfl ?_
  refine wm_iald d_MM_enabled_97 h38 h39 ?_
  refine wm_icmp_ge (tgt := 130) d_MM_enabled_98 rfl hi_l9 (hO _ _).1 (fun c47 => ?_) (fun c47 => ?_)
  · replace h := h.1 c47
    refine wm_lload d_MM_enabled_130 rfl ?_
    refine wm_lload d_MM_enabled_132 rfl ?_
    refine wm_lcmp d_MM_enabled_134 hi_j7 hi_j5 ?_
    refine wm_if_eq (tgt := 147) d_MM_enabled_135 rfl (m_cmp32 _ _) (fun c49 => ?_) (fun c49 => ?_)
    · replace h := h.1 c49
      obtain ⟨h50, h⟩ := h
      refine wm_aload_n d_MM_enabled_147 rfl rfl ?_
      refine gf_MM_102 rfl d_MM_enabled_148 h36 ?_
      refine wm_iload_n d_MM_enabled_151 rfl rfl ?_
      refine cf_MM_152 rfl d_MM_enabled_152 h50 (Nat.le_of_ble_eq_true rfl) (Cv.mono h (fun M51 h => ?_))
      obtain ⟨hOM51, h⟩ := h
      obtain ⟨h54, h⟩ := h
      obtain ⟨h55, h⟩ := h
      refine wm_aload_n d_MM_enabled_155 rfl rfl ?_
      refine gf_MM_111 rfl d_MM_enabled_156 h54 ?_
      refine wm_lload d_MM_enabled_159 rfl ?_
      refine wm_l2i d_MM_enabled_161 ?_
      refine cf_MM_152 rfl d_MM_enabled_162 h55 (Nat.le_of_ble_eq_true rfl) (Cv.mono h (fun M56 h => ?_))
      obtain ⟨hOM56, h⟩ := h
      obtain ⟨h59, h⟩ := h
      obtain ⟨h60, h⟩ := h
      refine wm_aload_n d_MM_enabled_165 rfl rfl ?_
      refine gf_MM_105 rfl d_MM_enabled_166 h59 ?_
      refine wm_aload_n d_MM_enabled_169 rfl rfl ?_
      refine gf_MM_536 rfl d_MM_enabled_170 h59 ?_
      refine cf_MM_152 rfl d_MM_enabled_173 h60 (Nat.le_of_ble_eq_true rfl) (Cv.mono h (fun M61 h => ?_))
      obtain ⟨hOM61, h⟩ := h
      obtain ⟨h64, h⟩ := h
      obtain ⟨h65, h⟩ := h
      refine wm_aload_n d_MM_enabled_176 rfl rfl ?_
      refine gf_MM_108 rfl d_MM_enabled_177 h64 ?_
      refine wm_iconst d_MM_enabled_180 ?_
      refine cf_MM_152 rfl d_MM_enabled_181 h65 (Nat.le_of_ble_eq_true rfl) (Cv.mono h (fun M66 h => ?_))
      obtain ⟨hOM66, h⟩ := h
      obtain ⟨h69, h⟩ := h
      obtain ⟨h70, h⟩ := h
      obtain ⟨h71, h⟩ := h
      obtain ⟨h72, h⟩ := h
      obtain ⟨h73, h⟩ := h
      obtain ⟨M74, e75⟩ : ∃ M74, M74 = mUI M66 (mR M66 a0 34) (Int.toNat l1) ((mI M66 (mR M66 a0 34) (Int.toNat l1)) + 1) := ⟨_, rfl⟩
      replace h := h M74 e75
      refine wm_aload_n d_MM_enabled_184 rfl rfl ?_
      refine gf_MM_99 rfl d_MM_enabled_185 h69 ?_
      refine wm_iload_n d_MM_enabled_188 rfl rfl ?_
      refine wm_aload_n d_MM_enabled_189 rfl rfl ?_
      refine gf_MM_99 rfl d_MM_enabled_190 h69 ?_
      refine wm_iload_n d_MM_enabled_193 rfl rfl ?_
      refine wm_iald d_MM_enabled_194 h70 h71 ?_
      refine wm_iconst d_MM_enabled_195 ?_
      refine wm_iadd d_MM_enabled_196 ?_
      have hOM74 : mOk M74 := by rw [e75]; exact mOk_UI hOM66 h73
      refine wm_iastE d_MM_enabled_197 h70 h72 h73 e75 ?_
      refine wm_iconst d_MM_enabled_198 ?_
      refine wm_istore d_MM_enabled_199 (by decide) (L' := [vr a0, vi l1, vi l2, vd, vi l4, vl j5, vd, vl j7, vd, vi 0]) rfl ?_
      refine wm_less (L' := [vr a0, vd, vi l2, vd, vi l4, vd, vd, vd, vd, vi 0]) ⟨Or.inr rfl, Or.inl rfl, Or.inr rfl, Or.inl rfl, Or.inr rfl, Or.inl rfl, Or.inl rfl, Or.inl rfl, Or.inl rfl, Or.inr rfl, trivial⟩ ?_
      exact h
    · replace h := h.2 c49
      refine wm_aload_n d_MM_enabled_138 rfl rfl ?_
      refine wm_bipush d_MM_enabled_139 (by decide) ?_
      refine wm_iload d_MM_enabled_141 rfl ?_
      refine cf_MM_351 rfl d_MM_enabled_143 h36 (Nat.le_of_ble_eq_true rfl) (Cv.mono h (fun M76 h => ?_))
      obtain ⟨hOM76, h⟩ := h
      refine wm_return d_MM_enabled_146 rfl ?_
      exact ⟨rfl, h⟩
  · replace h := h.2 c47
    obtain ⟨h79, h⟩ := h
    obtain ⟨h80, h⟩ := h
    obtain ⟨h81, h⟩ := h
    obtain ⟨h82, h⟩ := h
    obtain ⟨h83, h⟩ := h
    refine wm_lload d_MM_enabled_101 rfl ?_
    refine wm_aload_n d_MM_enabled_103 rfl rfl ?_
    refine gf_MM_133 rfl d_MM_enabled_104 h36 ?_
    refine wm_iload d_MM_enabled_107 rfl ?_
    refine wm_lald d_MM_enabled_109 h79 h80 ?_
    refine wm_lload d_MM_enabled_110 rfl ?_
    refine wm_aload_n d_MM_enabled_112 rfl rfl ?_
    refine gf_MM_136 rfl d_MM_enabled_113 h36 ?_
    refine wm_iload d_MM_enabled_116 rfl ?_
    refine wm_lald d_MM_enabled_118 h81 h82 ?_
    refine wm_ldiv d_MM_enabled_119 hi_j5 (hO _ _).2 h83 ?_
    refine wm_lmul d_MM_enabled_120 ?_
    refine wm_ladd d_MM_enabled_121 ?_
    refine wm_lstore d_MM_enabled_122 (by decide) (L' := [vr a0, vi l1, vi l2, vd, vi l4, vl j5, vd, vl (j7 + ((mL M (mR M a0 45) (Int.toNat l9)) * (Int.tdiv j5 (mL M (mR M a0 46) (Int.toNat l9))))), vd, vi l9]) rfl ?_
    refine wm_iinc d_MM_enabled_124 (by decide) rfl (L' := [vr a0, vi l1, vi l2, vd, vi l4, vl j5, vd, vl (j7 + ((mL M (mR M a0 45) (Int.toNat l9)) * (Int.tdiv j5 (mL M (mR M a0 46) (Int.toNat l9))))), vd, vi (l9 + 1)]) rfl ?_
    refine wm_goto (tgt := 87) d_MM_enabled_127 rfl ?_
    exact h
theorem k_MM_enabled_201 {G : mG} {d : Nat} {a0 : Nat} {l2 : Int} {l4 : Int} {l9 : Int} {M : mM} {Q : mM → Prop} (hO : mOk M) (hi_l2 : i32 l2) (hi_l4 : i32 l4) (hi_l9 : i32 l9)
    (h : mK M a0 = 14 ∧ mK M (mR M a0 9) = 16 ∧ mK M (mR M (mR M a0 9) 22) = 30 ∧ ((0 : Int) ≤ l2 ∧ l2 < (mN M (mR M (mR M a0 9) 22) : Int)) ∧ (((mI M (mR M (mR M a0 9) 22) (Int.toNat l2) ≤ l9) ∨ (¬ (mI M a0 16 = 0))) → (Q M)) ∧ (¬ ((mI M (mR M (mR M a0 9) 22) (Int.toNat l2) ≤ l9) ∨ (¬ (mI M a0 16 = 0))) → (mK M (mR M a0 45) = 33 ∧ ((0 : Int) ≤ l9 ∧ l9 < (mN M (mR M a0 45) : Int)) ∧ ((cmpL (mL M (mR M a0 45) (Int.toNat l9)) 0 = 0) → (h_MM_enabled_201 G d a0 l2 l4 (l9 + 1) M Q)) ∧ (¬ (cmpL (mL M (mR M a0 45) (Int.toNat l9)) 0 = 0) → (Cv G y_MM_way d [vr a0, vi l2, vi l9, vi l4] M (fun M101 => mOk M101 ∧ (h_MM_enabled_201 G d a0 l2 l4 (l9 + 1) M101 Q))))))) :
    h_MM_enabled_201 G d a0 l2 l4 l9 M Q := by
  unfold h_MM_enabled_201
  obtain ⟨h84, h⟩ := h
  obtain ⟨h85, h⟩ := h
  obtain ⟨h86, h⟩ := h
  obtain ⟨h87, h⟩ := h
  refine wm_iload d_MM_enabled_201 rfl ?_
  refine wm_aload_n d_MM_enabled_203 rfl rfl ?_
  refine gf_MM_34 rfl d_MM_enabled_204 h84 ?_
  refine gf_MM_486 rfl d_MM_enabled_207 h85 ?_
  refine wm_iload_n d_MM_enabled_210 rfl rfl ?_
  refine wm_iald d_MM_enabled_211 h86 h87 ?_
  have hE0 : ((mI M (mR M (mR M a0 9) 22) (Int.toNat l2) ≤ l9) ∨ (¬ (mI M a0 16 = 0))) → mWm G y_MM_enabled (d + 1) 249 [vr a0, vd, vi l2, vd, vi l4, vd, vd, vd, vd, vi l9] [] M (fun r9 M9 => r9 = none ∧ Q M9) := by
    intro q94
    have h := h.1 q94
    refine wm_return d_MM_enabled_249 rfl ?_
    exact ⟨rfl, h⟩
  have hE1 : ¬ ((mI M (mR M (mR M a0 9) 22) (Int.toNat l2) ≤ l9) ∨ (¬ (mI M a0 16 = 0))) → mWm G y_MM_enabled (d + 1) 222 [vr a0, vd, vi l2, vd, vi l4, vd, vd, vd, vd, vi l9] [] M (fun r9 M9 => r9 = none ∧ Q M9) := by
    intro q95
    have h := h.2 q95
    obtain ⟨h96, h⟩ := h
    obtain ⟨h97, h⟩ := h
    refine wm_aload_n d_MM_enabled_222 rfl rfl ?_
    refine gf_MM_133 rfl d_MM_enabled_223 h84 ?_
    refine wm_iload d_MM_enabled_226 rfl ?_
    refine wm_lald d_MM_enabled_228 h96 h97 ?_
    refine wm_lconst (x := 0) d_MM_enabled_229 rfl ?_
    refine wm_lcmp d_MM_enabled_230 (hO _ _).2 ⟨by decide, by decide⟩ ?_
    refine wm_if_eq (tgt := 243) d_MM_enabled_231 rfl (m_cmp32 _ _) (fun c100 => ?_) (fun c100 => ?_)
    · replace h := h.1 c100
      refine wm_iinc d_MM_enabled_243 (by decide) rfl (L' := [vr a0, vd, vi l2, vd, vi l4, vd, vd, vd, vd, vi (l9 + 1)]) rfl ?_
      refine wm_goto (tgt := 201) d_MM_enabled_246 rfl ?_
      exact h
    · replace h := h.2 c100
      refine wm_aload_n d_MM_enabled_234 rfl rfl ?_
      refine wm_iload_n d_MM_enabled_235 rfl rfl ?_
      refine wm_iload d_MM_enabled_236 rfl ?_
      refine wm_iload d_MM_enabled_238 rfl ?_
      refine cf_MM_558 rfl d_MM_enabled_240 h84 (Nat.le_of_ble_eq_true rfl) (Cv.mono h (fun M101 h => ?_))
      obtain ⟨hOM101, h⟩ := h
      refine wm_iinc d_MM_enabled_243 (by decide) rfl (L' := [vr a0, vd, vi l2, vd, vi l4, vd, vd, vd, vd, vi (l9 + 1)]) rfl ?_
      refine wm_goto (tgt := 201) d_MM_enabled_246 rfl ?_
      exact h
  clear h
  refine wm_icmp_ge (tgt := 249) d_MM_enabled_212 rfl hi_l9 (hO _ _).1 (fun c92 => ?_) (fun c92 => ?_)
  · exact hE0 (Or.inl c92)
  · refine wm_aload_n d_MM_enabled_215 rfl rfl ?_
    refine gf_MM_267 rfl d_MM_enabled_216 h84 ?_
    refine wm_if_ne (tgt := 249) d_MM_enabled_219 rfl (hO _ _).1 (fun c91 => ?_) (fun c91 => ?_)
    · exact hE0 (Or.inr c91)
    · replace c91 := Classical.not_not.mp c91
      exact hE1 (fun z104 => Or.elim z104 c92 (fun z105 => z105 c91))
theorem d_MM_chances_0 : decode y_MM_chances.2.1 0 = .ok (.iconst 0, 1) := dc9_3 (by decide +kernel)
theorem d_MM_chances_1 : decode y_MM_chances.2.1 1 = .ok (.istore_n 3, 1) := dc9_62 (by decide +kernel)
theorem d_MM_chances_2 : decode y_MM_chances.2.1 2 = .ok (.iload_n 3, 1) := dc9_29 (by decide +kernel)
theorem d_MM_chances_3 : decode y_MM_chances.2.1 3 = .ok (.aload_n 0, 1) := dc9_42 (by decide +kernel)
theorem d_MM_chances_4 : decode y_MM_chances.2.1 4 = .ok (.getfield 34, 3) := dc9_180 (by decide +kernel)
theorem d_MM_chances_7 : decode y_MM_chances.2.1 7 = .ok (.getfield 486, 3) := dc9_180 (by decide +kernel)
theorem d_MM_chances_10 : decode y_MM_chances.2.1 10 = .ok (.iload_n 1, 1) := dc9_27 (by decide +kernel)
theorem d_MM_chances_11 : decode y_MM_chances.2.1 11 = .ok (.iaload, 1) := dc9_46 (by decide +kernel)
theorem d_MM_chances_12 : decode y_MM_chances.2.1 12 = .ok (.if_icmp .ge 112, 3) := dc9_162 (by decide +kernel)
theorem d_MM_chances_15 : decode y_MM_chances.2.1 15 = .ok (.aload_n 0, 1) := dc9_42 (by decide +kernel)
theorem d_MM_chances_16 : decode y_MM_chances.2.1 16 = .ok (.getfield 267, 3) := dc9_180 (by decide +kernel)
theorem d_MM_chances_19 : decode y_MM_chances.2.1 19 = .ok (.ifCond .ne 105, 3) := dc9_154 (by decide +kernel)
theorem d_MM_chances_22 : decode y_MM_chances.2.1 22 = .ok (.aload_n 0, 1) := dc9_42 (by decide +kernel)
theorem d_MM_chances_23 : decode y_MM_chances.2.1 23 = .ok (.aload_n 0, 1) := dc9_42 (by decide +kernel)
theorem d_MM_chances_24 : decode y_MM_chances.2.1 24 = .ok (.getfield 34, 3) := dc9_180 (by decide +kernel)
theorem d_MM_chances_27 : decode y_MM_chances.2.1 27 = .ok (.getfield 492, 3) := dc9_180 (by decide +kernel)
theorem d_MM_chances_30 : decode y_MM_chances.2.1 30 = .ok (.bipush 8, 2) := dc9_16 (by decide +kernel)
theorem d_MM_chances_32 : decode y_MM_chances.2.1 32 = .ok (.iload_n 1, 1) := dc9_27 (by decide +kernel)
theorem d_MM_chances_33 : decode y_MM_chances.2.1 33 = .ok (.imul, 1) := dc9_104 (by decide +kernel)
theorem d_MM_chances_34 : decode y_MM_chances.2.1 34 = .ok (.iload_n 3, 1) := dc9_29 (by decide +kernel)
theorem d_MM_chances_35 : decode y_MM_chances.2.1 35 = .ok (.iadd, 1) := dc9_96 (by decide +kernel)
theorem d_MM_chances_36 : decode y_MM_chances.2.1 36 = .ok (.iaload, 1) := dc9_46 (by decide +kernel)
theorem d_MM_chances_124 : decode y_MM_chances.2.1 124 = .ok (.lconst 1, 1) := dc9_10 (by decide +kernel)
theorem d_MM_chances_125 : decode y_MM_chances.2.1 125 = .ok (.lstore_n 3, 1) := dc9_66 (by decide +kernel)
theorem d_MM_chances_126 : decode y_MM_chances.2.1 126 = .ok (.iconst 0, 1) := dc9_3 (by decide +kernel)
theorem d_MM_chances_127 : decode y_MM_chances.2.1 127 = .ok (.istore 5, 2) := dc9_54 (by decide +kernel)
theorem d_MM_chances_37 : decode y_MM_chances.2.1 37 = .ok (.invokevirtual 548, 3) := dc9_182 (by decide +kernel)
theorem d_MM_chances_40 : decode y_MM_chances.2.1 40 = .ok (.aload_n 0, 1) := dc9_42 (by decide +kernel)
theorem d_MM_chances_41 : decode y_MM_chances.2.1 41 = .ok (.getfield 133, 3) := dc9_180 (by decide +kernel)
theorem d_MM_chances_44 : decode y_MM_chances.2.1 44 = .ok (.iload_n 3, 1) := dc9_29 (by decide +kernel)
theorem d_MM_chances_45 : decode y_MM_chances.2.1 45 = .ok (.aload_n 0, 1) := dc9_42 (by decide +kernel)
theorem d_MM_chances_46 : decode y_MM_chances.2.1 46 = .ok (.getfield 63, 3) := dc9_180 (by decide +kernel)
theorem d_MM_chances_49 : decode y_MM_chances.2.1 49 = .ok (.iconst 0, 1) := dc9_3 (by decide +kernel)
theorem d_MM_chances_50 : decode y_MM_chances.2.1 50 = .ok (.laload, 1) := dc9_47 (by decide +kernel)
theorem d_MM_chances_51 : decode y_MM_chances.2.1 51 = .ok (.lastore, 1) := dc9_80 (by decide +kernel)
theorem d_MM_chances_52 : decode y_MM_chances.2.1 52 = .ok (.aload_n 0, 1) := dc9_42 (by decide +kernel)
theorem d_MM_chances_53 : decode y_MM_chances.2.1 53 = .ok (.getfield 136, 3) := dc9_180 (by decide +kernel)
theorem d_MM_chances_56 : decode y_MM_chances.2.1 56 = .ok (.iload_n 3, 1) := dc9_29 (by decide +kernel)
theorem d_MM_chances_57 : decode y_MM_chances.2.1 57 = .ok (.aload_n 0, 1) := dc9_42 (by decide +kernel)
theorem d_MM_chances_58 : decode y_MM_chances.2.1 58 = .ok (.getfield 67, 3) := dc9_180 (by decide +kernel)
theorem d_MM_chances_61 : decode y_MM_chances.2.1 61 = .ok (.iconst 0, 1) := dc9_3 (by decide +kernel)
theorem d_MM_chances_62 : decode y_MM_chances.2.1 62 = .ok (.laload, 1) := dc9_47 (by decide +kernel)
theorem d_MM_chances_63 : decode y_MM_chances.2.1 63 = .ok (.lastore, 1) := dc9_80 (by decide +kernel)
theorem d_MM_chances_64 : decode y_MM_chances.2.1 64 = .ok (.aload_n 0, 1) := dc9_42 (by decide +kernel)
theorem d_MM_chances_65 : decode y_MM_chances.2.1 65 = .ok (.getfield 267, 3) := dc9_180 (by decide +kernel)
theorem d_MM_chances_68 : decode y_MM_chances.2.1 68 = .ok (.ifCond .ne 50, 3) := dc9_154 (by decide +kernel)
theorem d_MM_chances_71 : decode y_MM_chances.2.1 71 = .ok (.aload_n 0, 1) := dc9_42 (by decide +kernel)
theorem d_MM_chances_72 : decode y_MM_chances.2.1 72 = .ok (.getfield 63, 3) := dc9_180 (by decide +kernel)
theorem d_MM_chances_75 : decode y_MM_chances.2.1 75 = .ok (.iconst 0, 1) := dc9_3 (by decide +kernel)
theorem d_MM_chances_76 : decode y_MM_chances.2.1 76 = .ok (.laload, 1) := dc9_47 (by decide +kernel)
theorem d_MM_chances_77 : decode y_MM_chances.2.1 77 = .ok (.lconst 0, 1) := dc9_9 (by decide +kernel)
theorem d_MM_chances_78 : decode y_MM_chances.2.1 78 = .ok (.lcmp, 1) := dc9_148 (by decide +kernel)
theorem d_MM_chances_79 : decode y_MM_chances.2.1 79 = .ok (.ifCond .lt 19, 3) := dc9_155 (by decide +kernel)
theorem d_MM_chances_82 : decode y_MM_chances.2.1 82 = .ok (.aload_n 0, 1) := dc9_42 (by decide +kernel)
theorem d_MM_chances_83 : decode y_MM_chances.2.1 83 = .ok (.getfield 63, 3) := dc9_180 (by decide +kernel)
theorem d_MM_chances_86 : decode y_MM_chances.2.1 86 = .ok (.iconst 0, 1) := dc9_3 (by decide +kernel)
theorem d_MM_chances_87 : decode y_MM_chances.2.1 87 = .ok (.laload, 1) := dc9_47 (by decide +kernel)
theorem d_MM_chances_88 : decode y_MM_chances.2.1 88 = .ok (.aload_n 0, 1) := dc9_42 (by decide +kernel)
theorem d_MM_chances_89 : decode y_MM_chances.2.1 89 = .ok (.getfield 67, 3) := dc9_180 (by decide +kernel)
theorem d_MM_chances_92 : decode y_MM_chances.2.1 92 = .ok (.iconst 0, 1) := dc9_3 (by decide +kernel)
theorem d_MM_chances_93 : decode y_MM_chances.2.1 93 = .ok (.laload, 1) := dc9_47 (by decide +kernel)
theorem d_MM_chances_94 : decode y_MM_chances.2.1 94 = .ok (.lcmp, 1) := dc9_148 (by decide +kernel)
theorem d_MM_chances_95 : decode y_MM_chances.2.1 95 = .ok (.ifCond .le 23, 3) := dc9_158 (by decide +kernel)
theorem d_MM_chances_98 : decode y_MM_chances.2.1 98 = .ok (.aload_n 0, 1) := dc9_42 (by decide +kernel)
theorem d_MM_chances_99 : decode y_MM_chances.2.1 99 = .ok (.bipush 11, 2) := dc9_16 (by decide +kernel)
theorem d_MM_chances_101 : decode y_MM_chances.2.1 101 = .ok (.aload_n 0, 1) := dc9_42 (by decide +kernel)
theorem d_MM_chances_102 : decode y_MM_chances.2.1 102 = .ok (.getfield 34, 3) := dc9_180 (by decide +kernel)
theorem d_MM_chances_105 : decode y_MM_chances.2.1 105 = .ok (.getfield 495, 3) := dc9_180 (by decide +kernel)
theorem d_MM_chances_108 : decode y_MM_chances.2.1 108 = .ok (.bipush 8, 2) := dc9_16 (by decide +kernel)
theorem d_MM_chances_110 : decode y_MM_chances.2.1 110 = .ok (.iload_n 1, 1) := dc9_27 (by decide +kernel)
theorem d_MM_chances_111 : decode y_MM_chances.2.1 111 = .ok (.imul, 1) := dc9_104 (by decide +kernel)
theorem d_MM_chances_112 : decode y_MM_chances.2.1 112 = .ok (.iload_n 3, 1) := dc9_29 (by decide +kernel)
theorem d_MM_chances_113 : decode y_MM_chances.2.1 113 = .ok (.iadd, 1) := dc9_96 (by decide +kernel)
theorem d_MM_chances_114 : decode y_MM_chances.2.1 114 = .ok (.iaload, 1) := dc9_46 (by decide +kernel)
theorem d_MM_chances_115 : decode y_MM_chances.2.1 115 = .ok (.invokevirtual 351, 3) := dc9_182 (by decide +kernel)
theorem d_MM_chances_118 : decode y_MM_chances.2.1 118 = .ok (.iinc 3 1, 3) := by decide +kernel
theorem d_MM_chances_121 : decode y_MM_chances.2.1 121 = .ok (.goto (-119), 3) := dc9_167 (by decide +kernel)
theorem d_MM_chances_129 : decode y_MM_chances.2.1 129 = .ok (.iload 5, 2) := dc9_21 (by decide +kernel)
theorem d_MM_chances_131 : decode y_MM_chances.2.1 131 = .ok (.aload_n 0, 1) := dc9_42 (by decide +kernel)
theorem d_MM_chances_132 : decode y_MM_chances.2.1 132 = .ok (.getfield 34, 3) := dc9_180 (by decide +kernel)
theorem d_MM_chances_135 : decode y_MM_chances.2.1 135 = .ok (.getfield 486, 3) := dc9_180 (by decide +kernel)
theorem d_MM_chances_138 : decode y_MM_chances.2.1 138 = .ok (.iload_n 1, 1) := dc9_27 (by decide +kernel)
theorem d_MM_chances_139 : decode y_MM_chances.2.1 139 = .ok (.iaload, 1) := dc9_46 (by decide +kernel)
theorem d_MM_chances_140 : decode y_MM_chances.2.1 140 = .ok (.if_icmp .ge 53, 3) := dc9_162 (by decide +kernel)
theorem d_MM_chances_143 : decode y_MM_chances.2.1 143 = .ok (.aload_n 0, 1) := dc9_42 (by decide +kernel)
theorem d_MM_chances_144 : decode y_MM_chances.2.1 144 = .ok (.getfield 267, 3) := dc9_180 (by decide +kernel)
theorem d_MM_chances_147 : decode y_MM_chances.2.1 147 = .ok (.ifCond .ne 46, 3) := dc9_154 (by decide +kernel)
theorem d_MM_chances_150 : decode y_MM_chances.2.1 150 = .ok (.lload_n 3, 1) := dc9_33 (by decide +kernel)
theorem d_MM_chances_151 : decode y_MM_chances.2.1 151 = .ok (.lload_n 3, 1) := dc9_33 (by decide +kernel)
theorem d_MM_chances_152 : decode y_MM_chances.2.1 152 = .ok (.aload_n 0, 1) := dc9_42 (by decide +kernel)
theorem d_MM_chances_153 : decode y_MM_chances.2.1 153 = .ok (.getfield 136, 3) := dc9_180 (by decide +kernel)
theorem d_MM_chances_156 : decode y_MM_chances.2.1 156 = .ok (.iload 5, 2) := dc9_21 (by decide +kernel)
theorem d_MM_chances_158 : decode y_MM_chances.2.1 158 = .ok (.laload, 1) := dc9_47 (by decide +kernel)
theorem d_MM_chances_193 : decode y_MM_chances.2.1 193 = .ok (.lload_n 3, 1) := dc9_33 (by decide +kernel)
theorem d_MM_chances_194 : decode y_MM_chances.2.1 194 = .ok (.lreturn, 1) := dc9_173 (by decide +kernel)
theorem d_MM_chances_159 : decode y_MM_chances.2.1 159 = .ok (.invokestatic 377, 3) := dc9_184 (by decide +kernel)
theorem d_MM_chances_162 : decode y_MM_chances.2.1 162 = .ok (.ldiv, 1) := dc9_109 (by decide +kernel)
theorem d_MM_chances_163 : decode y_MM_chances.2.1 163 = .ok (.aload_n 0, 1) := dc9_42 (by decide +kernel)
theorem d_MM_chances_164 : decode y_MM_chances.2.1 164 = .ok (.getfield 136, 3) := dc9_180 (by decide +kernel)
theorem d_MM_chances_167 : decode y_MM_chances.2.1 167 = .ok (.iload 5, 2) := dc9_21 (by decide +kernel)
theorem d_MM_chances_169 : decode y_MM_chances.2.1 169 = .ok (.laload, 1) := dc9_47 (by decide +kernel)
theorem d_MM_chances_170 : decode y_MM_chances.2.1 170 = .ok (.lmul, 1) := dc9_105 (by decide +kernel)
theorem d_MM_chances_171 : decode y_MM_chances.2.1 171 = .ok (.lstore_n 3, 1) := dc9_66 (by decide +kernel)
theorem d_MM_chances_172 : decode y_MM_chances.2.1 172 = .ok (.lload_n 3, 1) := dc9_33 (by decide +kernel)
theorem d_MM_chances_173 : decode y_MM_chances.2.1 173 = .ok (.ldc2_w 381, 3) := dc9_20 (by decide +kernel)
theorem d_MM_chances_176 : decode y_MM_chances.2.1 176 = .ok (.lcmp, 1) := dc9_148 (by decide +kernel)
theorem d_MM_chances_177 : decode y_MM_chances.2.1 177 = .ok (.ifCond .lt 10, 3) := dc9_155 (by decide +kernel)
theorem d_MM_chances_180 : decode y_MM_chances.2.1 180 = .ok (.aload_n 0, 1) := dc9_42 (by decide +kernel)
theorem d_MM_chances_181 : decode y_MM_chances.2.1 181 = .ok (.bipush 6, 2) := dc9_16 (by decide +kernel)
theorem d_MM_chances_183 : decode y_MM_chances.2.1 183 = .ok (.iload_n 2, 1) := dc9_28 (by decide +kernel)
theorem d_MM_chances_184 : decode y_MM_chances.2.1 184 = .ok (.invokevirtual 351, 3) := dc9_182 (by decide +kernel)
theorem d_MM_chances_187 : decode y_MM_chances.2.1 187 = .ok (.iinc 5 1, 3) := by decide +kernel
theorem d_MM_chances_190 : decode y_MM_chances.2.1 190 = .ok (.goto (-61), 3) := dc9_167 (by decide +kernel)
def h_MM_chances_2 (G : mG) (d : Nat) (a0 : Nat) (l1 : Int) (l2 : Int) (l3 : Int) (M : mM) (Q : Int → mM → Prop) : Prop := mWm G y_MM_chances (d + 1) 2 [vr a0, vi l1, vi l2, vi l3, vd, vd] [] M (fun r9 M9 => ∃ x9, r9 = some (vl x9) ∧ Q x9 M9)
def h_MM_chances_118 (G : mG) (d : Nat) (a0 : Nat) (l1 : Int) (l2 : Int) (l3 : Int) (M : mM) (Q : Int → mM → Prop) : Prop := mWm G y_MM_chances (d + 1) 118 [vr a0, vi l1, vi l2, vi l3, vd, vd] [] M (fun r9 M9 => ∃ x9, r9 = some (vl x9) ∧ Q x9 M9)
def h_MM_chances_129 (G : mG) (d : Nat) (a0 : Nat) (l1 : Int) (l2 : Int) (j3 : Int) (l5 : Int) (M : mM) (Q : Int → mM → Prop) : Prop := mWm G y_MM_chances (d + 1) 129 [vr a0, vi l1, vi l2, vl j3, vd, vi l5] [] M (fun r9 M9 => ∃ x9, r9 = some (vl x9) ∧ Q x9 M9)
def h_MM_chances_187 (G : mG) (d : Nat) (a0 : Nat) (l1 : Int) (l2 : Int) (j3 : Int) (l5 : Int) (M : mM) (Q : Int → mM → Prop) : Prop := mWm G y_MM_chances (d + 1) 187 [vr a0, vi l1, vi l2, vl j3, vd, vi l5] [] M (fun r9 M9 => ∃ x9, r9 = some (vl x9) ∧ Q x9 M9)
theorem k_MM_chances {G : mG} {d : Nat} {a0 : Nat} {l1 : Int} {l2 : Int} {M : mM} {Q : Int → mM → Prop} (hO : mOk M) (hi_l1 : i32 l1) (hi_l2 : i32 l2)
    (h : h_MM_chances_2 G d a0 l1 l2 0 M Q) :
    Cj G y_MM_chances (d + 1) [vr a0, vi l1, vi l2] M Q := by
  refine wm_open (y := y_MM_chances) rfl (Nat.le_of_ble_eq_true rfl) (L := [vr a0, vi l1, vi l2, vd, vd, vd]) rfl ?_
  refine wm_iconst d_MM_chances_0 ?_
  refine wm_istore_n d_MM_chances_1 rfl (by decide) (L' := [vr a0, vi l1, vi l2, vi 0, vd, vd]) rfl ?_
  exact h
theorem k_MM_chances_2 {G : mG} {d : Nat} {a0 : Nat} {l1 : Int} {l2 : Int} {l3 : Int} {M : mM} {Q : Int → mM → Prop} (hO : mOk M) (hi_l1 : i32 l1) (hi_l2 : i32 l2) (hi_l3 : i32 l3)
    (h : mK M a0 = 14 ∧ mK M (mR M a0 9) = 16 ∧ mK M (mR M (mR M a0 9) 22) = 30 ∧ ((0 : Int) ≤ l1 ∧ l1 < (mN M (mR M (mR M a0 9) 22) : Int)) ∧ (((mI M (mR M (mR M a0 9) 22) (Int.toNat l1) ≤ l3) ∨ (¬ (mI M a0 16 = 0))) → (h_MM_chances_129 G d a0 l1 l2 1 0 M Q)) ∧ (¬ ((mI M (mR M (mR M a0 9) 22) (Int.toNat l1) ≤ l3) ∨ (¬ (mI M a0 16 = 0))) → (mK M (mR M (mR M a0 9) 23) = 30 ∧ ((0 : Int) ≤ (8 * l1) + l3 ∧ (8 * l1) + l3 < (mN M (mR M (mR M a0 9) 23) : Int)) ∧ Cv G y_MM_reach d [vr a0, vi (mI M (mR M (mR M a0 9) 23) (Int.toNat ((8 * l1) + l3)))] M (fun M12 => mOk M12 ∧ (mK M12 a0 = 14 ∧ mK M12 (mR M12 a0 21) = 33 ∧ ((0 : Int) ≤ 0 ∧ 0 < (mN M12 (mR M12 a0 21) : Int)) ∧ mK M12 (mR M12 a0 45) = 33 ∧ ((0 : Int) ≤ l3 ∧ l3 < (mN M12 (mR M12 a0 45) : Int)) ∧ ∀ M20, M20 = mUL M12 (mR M12 a0 45) (Int.toNat l3) (mL M12 (mR M12 a0 21) 0) → mK M20 (mR M20 a0 22) = 33 ∧ ((0 : Int) ≤ 0 ∧ 0 < (mN M20 (mR M20 a0 22) : Int)) ∧ mK M20 (mR M20 a0 46) = 33 ∧ ((0 : Int) ≤ l3 ∧ l3 < (mN M20 (mR M20 a0 46) : Int)) ∧ ∀ M26, M26 = mUL M20 (mR M20 a0 46) (Int.toNat l3) (mL M20 (mR M20 a0 22) 0) → ((mI M26 a0 16 = 0) → (mK M26 (mR M26 a0 21) = 33 ∧ ((0 : Int) ≤ 0 ∧ 0 < (mN M26 (mR M26 a0 21) : Int)) ∧ (¬ (cmpL (mL M26 (mR M26 a0 21) 0) 0 < 0) → (((0 : Int) ≤ 0 ∧ 0 < (mN M26 (mR M26 a0 21) : Int)) ∧ mK M26 (mR M26 a0 22) = 33 ∧ ((0 : Int) ≤ 0 ∧ 0 < (mN M26 (mR M26 a0 22) : Int)))))) ∧ (((mI M26 a0 16 = 0) ∧ ((cmpL (mL M26 (mR M26 a0 21) 0) 0 < 0) ∨ (¬ (cmpL (mL M26 (mR M26 a0 21) 0) (mL M26 (mR M26 a0 22) 0) ≤ 0)))) → (mK M26 (mR M26 a0 9) = 16 ∧ mK M26 (mR M26 (mR M26 a0 9) 24) = 30 ∧ ((0 : Int) ≤ (8 * l1) + l3 ∧ (8 * l1) + l3 < (mN M26 (mR M26 (mR M26 a0 9) 24) : Int)) ∧ Cv G y_MM_stop d [vr a0, vi 11, vi (mI M26 (mR M26 (mR M26 a0 9) 24) (Int.toNat ((8 * l1) + l3)))] M26 (fun M41 => mOk M41 ∧ (h_MM_chances_118 G d a0 l1 l2 l3 M41 Q)))) ∧ (¬ ((mI M26 a0 16 = 0) ∧ ((cmpL (mL M26 (mR M26 a0 21) 0) 0 < 0) ∨ (¬ (cmpL (mL M26 (mR M26 a0 21) 0) (mL M26 (mR M26 a0 22) 0) ≤ 0)))) → (h_MM_chances_118 G d a0 l1 l2 l3 M26 Q))))))) :
    h_MM_chances_2 G d a0 l1 l2 l3 M Q := by
  unfold h_MM_chances_2
  obtain ⟨h1, h⟩ := h
  obtain ⟨h2, h⟩ := h
  obtain ⟨h3, h⟩ := h
  obtain ⟨h4, h⟩ := h
  refine wm_iload_n d_MM_chances_2 rfl rfl ?_
  refine wm_aload_n d_MM_chances_3 rfl rfl ?_
  refine gf_MM_34 rfl d_MM_chances_4 h1 ?_
  refine gf_MM_486 rfl d_MM_chances_7 h2 ?_
  refine wm_iload_n d_MM_chances_10 rfl rfl ?_
  refine wm_iald d_MM_chances_11 h3 h4 ?_
  have hE0 : ((mI M (mR M (mR M a0 9) 22) (Int.toNat l1) ≤ l3) ∨ (¬ (mI M a0 16 = 0))) → mWm G y_MM_chances (d + 1) 124 [vr a0, vi l1, vi l2, vi l3, vd, vd] [] M (fun r9 M9 => ∃ x9, r9 = some (vl x9) ∧ Q x9 M9) := by
    intro q8
    have h := h.1 q8
    refine wm_lconst (x := 1) d_MM_chances_124 rfl ?_
    refine wm_lstore_n d_MM_chances_125 rfl (by decide) (L' := [vr a0, vi l1, vi l2, vl 1, vd, vd]) rfl ?_
    refine wm_iconst d_MM_chances_126 ?_
    refine wm_istore d_MM_chances_127 (by decide) (L' := [vr a0, vi l1, vi l2, vl 1, vd, vi 0]) rfl ?_
    exact h
  have hE1 : ¬ ((mI M (mR M (mR M a0 9) 22) (Int.toNat l1) ≤ l3) ∨ (¬ (mI M a0 16 = 0))) → mWm G y_MM_chances (d + 1) 22 [vr a0, vi l1, vi l2, vi l3, vd, vd] [] M (fun r9 M9 => ∃ x9, r9 = some (vl x9) ∧ Q x9 M9) := by
    intro q9
    have h := h.2 q9
    obtain ⟨h10, h⟩ := h
    obtain ⟨h11, h⟩ := h
    refine wm_aload_n d_MM_chances_22 rfl rfl ?_
    refine wm_aload_n d_MM_chances_23 rfl rfl ?_
    refine gf_MM_34 rfl d_MM_chances_24 h1 ?_
    refine gf_MM_492 rfl d_MM_chances_27 h2 ?_
    refine wm_bipush d_MM_chances_30 (by decide) ?_
    refine wm_iload_n d_MM_chances_32 rfl rfl ?_
    refine wm_imul d_MM_chances_33 ?_
    refine wm_iload_n d_MM_chances_34 rfl rfl ?_
    refine wm_iadd d_MM_chances_35 ?_
    refine wm_iald d_MM_chances_36 h10 h11 ?_
    refine cf_MM_548 rfl d_MM_chances_37 h1 (Nat.le_of_ble_eq_true rfl) (Cv.mono h (fun M12 h => ?_))
    obtain ⟨hOM12, h⟩ := h
    obtain ⟨h15, h⟩ := h
    obtain ⟨h16, h⟩ := h
    obtain ⟨h17, h⟩ := h
    obtain ⟨h18, h⟩ := h
    obtain ⟨h19, h⟩ := h
    obtain ⟨M20, e21⟩ : ∃ M20, M20 = mUL M12 (mR M12 a0 45) (Int.toNat l3) (mL M12 (mR M12 a0 21) 0) := ⟨_, rfl⟩
    replace h := h M20 e21
    obtain ⟨h22, h⟩ := h
    obtain ⟨h23, h⟩ := h
    obtain ⟨h24, h⟩ := h
    obtain ⟨h25, h⟩ := h
    obtain ⟨M26, e27⟩ : ∃ M26, M26 = mUL M20 (mR M20 a0 46) (Int.toNat l3) (mL M20 (mR M20 a0 22) 0) := ⟨_, rfl⟩
    replace h := h M26 e27
    refine wm_aload_n d_MM_chances_40 rfl rfl ?_
    refine gf_MM_133 rfl d_MM_chances_41 h15 ?_
    refine wm_iload_n d_MM_chances_44 rfl rfl ?_
    refine wm_aload_n d_MM_chances_45 rfl rfl ?_
    refine gf_MM_63 rfl d_MM_chances_46 h15 ?_
    refine wm_iconst d_MM_chances_49 ?_
    refine wm_lald d_MM_chances_50 h16 h17 ?_
    have hOM20 : mOk M20 := by rw [e21]; exact mOk_UL hOM12 (hOM12 _ _).2
    refine wm_lastE d_MM_chances_51 h18 h19 (hOM12 _ _).2 e21 ?_
    refine wm_aload_n d_MM_chances_52 rfl rfl ?_
    refine gf_MM_136 rfl d_MM_chances_53 (by rw [e21]; exact h15) ?_
    refine wm_iload_n d_MM_chances_56 rfl rfl ?_
    refine wm_aload_n d_MM_chances_57 rfl rfl ?_
    refine gf_MM_67 rfl d_MM_chances_58 (by rw [e21]; exact h15) ?_
    refine wm_iconst d_MM_chances_61 ?_
    refine wm_lald d_MM_chances_62 h22 h23 ?_
    have hOM26 : mOk M26 := by rw [e27]; exact mOk_UL hOM20 (hOM20 _ _).2
    refine wm_lastE d_MM_chances_63 h24 h25 (hOM20 _ _).2 e27 ?_
    refine wm_aload_n d_MM_chances_64 rfl rfl ?_
    refine gf_MM_267 rfl d_MM_chances_65 (by rw [e27, e21]; exact h15) ?_
    obtain ⟨s36, h⟩ := h
    have hE0 : ((mI M26 a0 16 = 0) ∧ ((cmpL (mL M26 (mR M26 a0 21) 0) 0 < 0) ∨ (¬ (cmpL (mL M26 (mR M26 a0 21) 0) (mL M26 (mR M26 a0 22) 0) ≤ 0)))) → mWm G y_MM_chances (d + 1) 98 [vr a0, vi l1, vi l2, vi l3, vd, vd] [] M26 (fun r9 M9 => ∃ x9, r9 = some (vl x9) ∧ Q x9 M9) := by
      intro q37
      have h := h.1 q37
      obtain ⟨h38, h⟩ := h
      obtain ⟨h39, h⟩ := h
      obtain ⟨h40, h⟩ := h
      refine wm_aload_n d_MM_chances_98 rfl rfl ?_
      refine wm_bipush d_MM_chances_99 (by decide) ?_
      refine wm_aload_n d_MM_chances_101 rfl rfl ?_
      refine gf_MM_34 rfl d_MM_chances_102 (by rw [e27, e21]; exact h15) ?_
      refine gf_MM_495 rfl d_MM_chances_105 h38 ?_
      refine wm_bipush d_MM_chances_108 (by decide) ?_
      refine wm_iload_n d_MM_chances_110 rfl rfl ?_
      refine wm_imul d_MM_chances_111 ?_
      refine wm_iload_n d_MM_chances_112 rfl rfl ?_
      refine wm_iadd d_MM_chances_113 ?_
      refine wm_iald d_MM_chances_114 h39 h40 ?_
      refine cf_MM_351 rfl d_MM_chances_115 (by rw [e27, e21]; exact h15) (Nat.le_of_ble_eq_true rfl) (Cv.mono h (fun M41 h => ?_))
      obtain ⟨hOM41, h⟩ := h
      exact h
    have hE1 : ¬ ((mI M26 a0 16 = 0) ∧ ((cmpL (mL M26 (mR M26 a0 21) 0) 0 < 0) ∨ (¬ (cmpL (mL M26 (mR M26 a0 21) 0) (mL M26 (mR M26 a0 22) 0) ≤ 0)))) → mWm G y_MM_chances (d + 1) 118 [vr a0, vi l1, vi l2, vi l3, vd, vd] [] M26 (fun r9 M9 => ∃ x9, r9 = some (vl x9) ∧ Q x9 M9) := by
      intro q44
      have h := h.2 q44
      exact h
    clear h
    have s45 := s36
    refine wm_if_ne (tgt := 118) d_MM_chances_68 rfl (hOM26 _ _).1 (fun c35 => ?_) (fun c35 => ?_)
    · exact hE1 (fun z50 => c35 z50.1)
    · replace c35 := Classical.not_not.mp c35
      have s45 := s45 c35
      obtain ⟨h28, h29, s46⟩ := s45
      refine wm_aload_n d_MM_chances_71 rfl rfl ?_
      refine gf_MM_63 rfl d_MM_chances_72 (by rw [e27, e21]; exact h15) ?_
      refine wm_iconst d_MM_chances_75 ?_
      refine wm_lald d_MM_chances_76 h28 h29 ?_
      refine wm_lconst (x := 0) d_MM_chances_77 rfl ?_
      refine wm_lcmp d_MM_chances_78 (hOM26 _ _).2 ⟨by decide, by decide⟩ ?_
      refine wm_if_lt (tgt := 98) d_MM_chances_79 rfl (m_cmp32 _ _) (fun c34 => ?_) (fun c34 => ?_)
      · exact hE0 ⟨c35, (Or.inl c34)⟩
      · have s46 := s46 c34
        obtain ⟨h30, h31, h32⟩ := s46
        refine wm_aload_n d_MM_chances_82 rfl rfl ?_
        refine gf_MM_63 rfl d_MM_chances_83 (by rw [e27, e21]; exact h15) ?_
        refine wm_iconst d_MM_chances_86 ?_
        refine wm_lald d_MM_chances_87 h28 h30 ?_
        refine wm_aload_n d_MM_chances_88 rfl rfl ?_
        refine gf_MM_67 rfl d_MM_chances_89 (by rw [e27, e21]; exact h15) ?_
        refine wm_iconst d_MM_chances_92 ?_
        refine wm_lald d_MM_chances_93 h31 h32 ?_
        refine wm_lcmp d_MM_chances_94 (hOM26 _ _).2 (hOM26 _ _).2 ?_
        refine wm_if_le (tgt := 118) d_MM_chances_95 rfl (m_cmp32 _ _) (fun c33 => ?_) (fun c33 => ?_)
        · exact hE1 (fun z47 => (fun z48 => Or.elim z48 c34 (fun z49 => z49 c33)) z47.2)
        · exact hE0 ⟨c35, (Or.inr c33)⟩
  clear h
  refine wm_icmp_ge (tgt := 124) d_MM_chances_12 rfl hi_l3 (hO _ _).1 (fun c6 => ?_) (fun c6 => ?_)
  · exact hE0 (Or.inl c6)
  · refine wm_aload_n d_MM_chances_15 rfl rfl ?_
    refine gf_MM_267 rfl d_MM_chances_16 h1 ?_
    refine wm_if_ne (tgt := 124) d_MM_chances_19 rfl (hO _ _).1 (fun c5 => ?_) (fun c5 => ?_)
    · exact hE0 (Or.inr c5)
    · replace c5 := Classical.not_not.mp c5
      exact hE1 (fun z51 => Or.elim z51 c6 (fun z52 => z52 c5))
theorem k_MM_chances_118 {G : mG} {d : Nat} {a0 : Nat} {l1 : Int} {l2 : Int} {l3 : Int} {M : mM} {Q : Int → mM → Prop} (hO : mOk M) (hi_l1 : i32 l1) (hi_l2 : i32 l2) (hi_l3 : i32 l3)
    (h : h_MM_chances_2 G d a0 l1 l2 (l3 + 1) M Q) :
    h_MM_chances_118 G d a0 l1 l2 l3 M Q := by
  unfold h_MM_chances_118
  refine wm_iinc d_MM_chances_118 (by decide) rfl (L' := [vr a0, vi l1, vi l2, vi (l3 + 1), vd, vd]) rfl ?_
  refine wm_goto (tgt := 2) d_MM_chances_121 rfl ?_
  exact h
theorem k_MM_chances_129 {G : mG} {d : Nat} {a0 : Nat} {l1 : Int} {l2 : Int} {j3 : Int} {l5 : Int} {M : mM} {Q : Int → mM → Prop} (hO : mOk M) (hi_l1 : i32 l1) (hi_l2 : i32 l2) (hi_j3 : i64 j3) (hi_l5 : i32 l5)
    (h : mK M a0 = 14 ∧ mK M (mR M a0 9) = 16 ∧ mK M (mR M (mR M a0 9) 22) = 30 ∧ ((0 : Int) ≤ l1 ∧ l1 < (mN M (mR M (mR M a0 9) 22) : Int)) ∧ (((mI M (mR M (mR M a0 9) 22) (Int.toNat l1) ≤ l5) ∨ (¬ (mI M a0 16 = 0))) → (Q j3 M)) ∧ (¬ ((mI M (mR M (mR M a0 9) 22) (Int.toNat l1) ≤ l5) ∨ (¬ (mI M a0 16 = 0))) → (mK M (mR M a0 46) = 33 ∧ ((0 : Int) ≤ l5 ∧ l5 < (mN M (mR M a0 46) : Int)) ∧ Cj G y_MM_divisor d [vl j3, vl (mL M (mR M a0 46) (Int.toNat l5))] M (fun x65 M64 => i64 x65 ∧ mOk M64 ∧ (x65 ≠ 0 ∧ mK M64 a0 = 14 ∧ mK M64 (mR M64 a0 46) = 33 ∧ ((0 : Int) ≤ l5 ∧ l5 < (mN M64 (mR M64 a0 46) : Int)) ∧ i64 ((Int.tdiv j3 x65) * (mL M64 (mR M64 a0 46) (Int.toNat l5))) ∧ ((cmpL ((Int.tdiv j3 x65) * (mL M64 (mR M64 a0 46) (Int.toNat l5))) 1000000000 < 0) → (h_MM_chances_187 G d a0 l1 l2 ((Int.tdiv j3 x65) * (mL M64 (mR M64 a0 46) (Int.toNat l5))) l5 M64 Q)) ∧ (¬ (cmpL ((Int.tdiv j3 x65) * (mL M64 (mR M64 a0 46) (Int.toNat l5))) 1000000000 < 0) → (Cv G y_MM_stop d [vr a0, vi 6, vi l2] M64 (fun M74 => mOk M74 ∧ (h_MM_chances_187 G d a0 l1 l2 ((Int.tdiv j3 x65) * (mL M64 (mR M64 a0 46) (Int.toNat l5))) l5 M74 Q))))))))) :
    h_MM_chances_129 G d a0 l1 l2 j3 l5 M Q := by
  unfold h_MM_chances_129
  obtain ⟨h53, h⟩ := h
  obtain ⟨h54, h⟩ := h
  obtain ⟨h55, h⟩ := h
  obtain ⟨h56, h⟩ := h
  refine wm_iload d_MM_chances_129 rfl ?_
  refine wm_aload_n d_MM_chances_131 rfl rfl ?_
  refine gf_MM_34 rfl d_MM_chances_132 h53 ?_
  refine gf_MM_486 rfl d_MM_chances_135 h54 ?_
  refine wm_iload_n d_MM_chances_138 rfl rfl ?_
  refine wm_iald d_MM_chances_139 h55 h56 ?_
  have hE0 : ((mI M (mR M (mR M a0 9) 22) (Int.toNat l1) ≤ l5) ∨ (¬ (mI M a0 16 = 0))) → mWm G y_MM_chances (d + 1) 193 [vr a0, vi l1, vi l2, vl j3, vd, vi l5] [] M (fun r9 M9 => ∃ x9, r9 = some (vl x9) ∧ Q x9 M9) := by
    intro q60
    have h := h.1 q60
    refine wm_lload_n d_MM_chances_193 rfl rfl ?_
    refine wm_lreturn d_MM_chances_194 rfl ?_
    exact ⟨_, rfl, h⟩
  have hE1 : ¬ ((mI M (mR M (mR M a0 9) 22) (Int.toNat l1) ≤ l5) ∨ (¬ (mI M a0 16 = 0))) → mWm G y_MM_chances (d + 1) 150 [vr a0, vi l1, vi l2, vl j3, vd, vi l5] [] M (fun r9 M9 => ∃ x9, r9 = some (vl x9) ∧ Q x9 M9) := by
    intro q61
    have h := h.2 q61
    obtain ⟨h62, h⟩ := h
    obtain ⟨h63, h⟩ := h
    refine wm_lload_n d_MM_chances_150 rfl rfl ?_
    refine wm_lload_n d_MM_chances_151 rfl rfl ?_
    refine wm_aload_n d_MM_chances_152 rfl rfl ?_
    refine gf_MM_136 rfl d_MM_chances_153 h53 ?_
    refine wm_iload d_MM_chances_156 rfl ?_
    refine wm_lald d_MM_chances_158 h62 h63 ?_
    refine cf_MM_377 rfl d_MM_chances_159 (Nat.le_of_ble_eq_true rfl) (Cj.mono h (fun x65 M64 h => ?_))
    obtain ⟨h66, hOM64, h⟩ := h
    obtain ⟨h67, h⟩ := h
    obtain ⟨h68, h⟩ := h
    obtain ⟨h69, h⟩ := h
    obtain ⟨h70, h⟩ := h
    obtain ⟨h71, h⟩ := h
    refine wm_ldiv d_MM_chances_162 hi_j3 h66 h67 ?_
    refine wm_aload_n d_MM_chances_163 rfl rfl ?_
    refine gf_MM_136 rfl d_MM_chances_164 h68 ?_
    refine wm_iload d_MM_chances_167 rfl ?_
    refine wm_lald d_MM_chances_169 h69 h70 ?_
    refine wm_lmul d_MM_chances_170 ?_
    refine wm_lstore_n d_MM_chances_171 rfl (by decide) (L' := [vr a0, vi l1, vi l2, vl ((Int.tdiv j3 x65) * (mL M64 (mR M64 a0 46) (Int.toNat l5))), vd, vi l5]) rfl ?_
    refine wm_lload_n d_MM_chances_172 rfl rfl ?_
    refine wm_ldc2 (x := 1000000000) d_MM_chances_173 k12_27 (by decide) ?_
    refine wm_lcmp d_MM_chances_176 h71 ⟨by decide, by decide⟩ ?_
    refine wm_if_lt (tgt := 187) d_MM_chances_177 rfl (m_cmp32 _ _) (fun c73 => ?_) (fun c73 => ?_)
    · replace h := h.1 c73
      exact h
    · replace h := h.2 c73
      refine wm_aload_n d_MM_chances_180 rfl rfl ?_
      refine wm_bipush d_MM_chances_181 (by decide) ?_
      refine wm_iload_n d_MM_chances_183 rfl rfl ?_
      refine cf_MM_351 rfl d_MM_chances_184 h68 (Nat.le_of_ble_eq_true rfl) (Cv.mono h (fun M74 h => ?_))
      obtain ⟨hOM74, h⟩ := h
      exact h
  clear h
  refine wm_icmp_ge (tgt := 193) d_MM_chances_140 rfl hi_l5 (hO _ _).1 (fun c58 => ?_) (fun c58 => ?_)
  · exact hE0 (Or.inl c58)
  · refine wm_aload_n d_MM_chances_143 rfl rfl ?_
    refine gf_MM_267 rfl d_MM_chances_144 h53 ?_
    refine wm_if_ne (tgt := 193) d_MM_chances_147 rfl (hO _ _).1 (fun c57 => ?_) (fun c57 => ?_)
    · exact hE0 (Or.inr c57)
    · replace c57 := Classical.not_not.mp c57
      exact hE1 (fun z77 => Or.elim z77 c58 (fun z78 => z78 c57))
theorem k_MM_chances_187 {G : mG} {d : Nat} {a0 : Nat} {l1 : Int} {l2 : Int} {j3 : Int} {l5 : Int} {M : mM} {Q : Int → mM → Prop} (hO : mOk M) (hi_l1 : i32 l1) (hi_l2 : i32 l2) (hi_j3 : i64 j3) (hi_l5 : i32 l5)
    (h : h_MM_chances_129 G d a0 l1 l2 j3 (l5 + 1) M Q) :
    h_MM_chances_187 G d a0 l1 l2 j3 l5 M Q := by
  unfold h_MM_chances_187
  refine wm_iinc d_MM_chances_187 (by decide) rfl (L' := [vr a0, vi l1, vi l2, vl j3, vd, vi (l5 + 1)]) rfl ?_
  refine wm_goto (tgt := 129) d_MM_chances_190 rfl ?_
  exact h
theorem d_MM_way_0 : decode y_MM_way.2.1 0 = .ok (.bipush 8, 2) := dc9_16 (by decide +kernel)
theorem d_MM_way_2 : decode y_MM_way.2.1 2 = .ok (.iload_n 1, 1) := dc9_27 (by decide +kernel)
theorem d_MM_way_3 : decode y_MM_way.2.1 3 = .ok (.imul, 1) := dc9_104 (by decide +kernel)
theorem d_MM_way_4 : decode y_MM_way.2.1 4 = .ok (.iload_n 2, 1) := dc9_28 (by decide +kernel)
theorem d_MM_way_5 : decode y_MM_way.2.1 5 = .ok (.iadd, 1) := dc9_96 (by decide +kernel)
theorem d_MM_way_6 : decode y_MM_way.2.1 6 = .ok (.istore 4, 2) := dc9_54 (by decide +kernel)
theorem d_MM_way_8 : decode y_MM_way.2.1 8 = .ok (.iconst 0, 1) := dc9_3 (by decide +kernel)
theorem d_MM_way_9 : decode y_MM_way.2.1 9 = .ok (.istore 5, 2) := dc9_54 (by decide +kernel)
theorem d_MM_way_11 : decode y_MM_way.2.1 11 = .ok (.iload 5, 2) := dc9_21 (by decide +kernel)
theorem d_MM_way_13 : decode y_MM_way.2.1 13 = .ok (.aload_n 0, 1) := dc9_42 (by decide +kernel)
theorem d_MM_way_14 : decode y_MM_way.2.1 14 = .ok (.getfield 34, 3) := dc9_180 (by decide +kernel)
theorem d_MM_way_17 : decode y_MM_way.2.1 17 = .ok (.getfield 456, 3) := dc9_180 (by decide +kernel)
theorem d_MM_way_20 : decode y_MM_way.2.1 20 = .ok (.if_icmp .ge 23, 3) := dc9_162 (by decide +kernel)
theorem d_MM_way_43 : decode y_MM_way.2.1 43 = .ok (.aload_n 0, 1) := dc9_42 (by decide +kernel)
theorem d_MM_way_44 : decode y_MM_way.2.1 44 = .ok (.getfield 34, 3) := dc9_180 (by decide +kernel)
theorem d_MM_way_47 : decode y_MM_way.2.1 47 = .ok (.getfield 498, 3) := dc9_180 (by decide +kernel)
theorem d_MM_way_50 : decode y_MM_way.2.1 50 = .ok (.iload 4, 2) := dc9_21 (by decide +kernel)
theorem d_MM_way_52 : decode y_MM_way.2.1 52 = .ok (.iaload, 1) := dc9_46 (by decide +kernel)
theorem d_MM_way_53 : decode y_MM_way.2.1 53 = .ok (.istore 5, 2) := dc9_54 (by decide +kernel)
theorem d_MM_way_55 : decode y_MM_way.2.1 55 = .ok (.iload 5, 2) := dc9_21 (by decide +kernel)
theorem d_MM_way_57 : decode y_MM_way.2.1 57 = .ok (.istore 6, 2) := dc9_54 (by decide +kernel)
theorem d_MM_way_23 : decode y_MM_way.2.1 23 = .ok (.aload_n 0, 1) := dc9_42 (by decide +kernel)
theorem d_MM_way_24 : decode y_MM_way.2.1 24 = .ok (.getfield 130, 3) := dc9_180 (by decide +kernel)
theorem d_MM_way_27 : decode y_MM_way.2.1 27 = .ok (.iload 5, 2) := dc9_21 (by decide +kernel)
theorem d_MM_way_29 : decode y_MM_way.2.1 29 = .ok (.aload_n 0, 1) := dc9_42 (by decide +kernel)
theorem d_MM_way_30 : decode y_MM_way.2.1 30 = .ok (.getfield 73, 3) := dc9_180 (by decide +kernel)
theorem d_MM_way_33 : decode y_MM_way.2.1 33 = .ok (.iload 5, 2) := dc9_21 (by decide +kernel)
theorem d_MM_way_35 : decode y_MM_way.2.1 35 = .ok (.iaload, 1) := dc9_46 (by decide +kernel)
theorem d_MM_way_36 : decode y_MM_way.2.1 36 = .ok (.iastore, 1) := dc9_79 (by decide +kernel)
theorem d_MM_way_37 : decode y_MM_way.2.1 37 = .ok (.iinc 5 1, 3) := by decide +kernel
theorem d_MM_way_40 : decode y_MM_way.2.1 40 = .ok (.goto (-29), 3) := dc9_167 (by decide +kernel)
theorem d_MM_way_59 : decode y_MM_way.2.1 59 = .ok (.iload 6, 2) := dc9_21 (by decide +kernel)
theorem d_MM_way_61 : decode y_MM_way.2.1 61 = .ok (.iload 5, 2) := dc9_21 (by decide +kernel)
theorem d_MM_way_63 : decode y_MM_way.2.1 63 = .ok (.aload_n 0, 1) := dc9_42 (by decide +kernel)
theorem d_MM_way_64 : decode y_MM_way.2.1 64 = .ok (.getfield 34, 3) := dc9_180 (by decide +kernel)
theorem d_MM_way_67 : decode y_MM_way.2.1 67 = .ok (.getfield 507, 3) := dc9_180 (by decide +kernel)
theorem d_MM_way_70 : decode y_MM_way.2.1 70 = .ok (.iload 4, 2) := dc9_21 (by decide +kernel)
theorem d_MM_way_72 : decode y_MM_way.2.1 72 = .ok (.iaload, 1) := dc9_46 (by decide +kernel)
theorem d_MM_way_73 : decode y_MM_way.2.1 73 = .ok (.iadd, 1) := dc9_96 (by decide +kernel)
theorem d_MM_way_74 : decode y_MM_way.2.1 74 = .ok (.if_icmp .ge 56, 3) := dc9_162 (by decide +kernel)
theorem d_MM_way_77 : decode y_MM_way.2.1 77 = .ok (.aload_n 0, 1) := dc9_42 (by decide +kernel)
theorem d_MM_way_78 : decode y_MM_way.2.1 78 = .ok (.getfield 267, 3) := dc9_180 (by decide +kernel)
theorem d_MM_way_81 : decode y_MM_way.2.1 81 = .ok (.ifCond .ne 49, 3) := dc9_154 (by decide +kernel)
theorem d_MM_way_84 : decode y_MM_way.2.1 84 = .ok (.aload_n 0, 1) := dc9_42 (by decide +kernel)
theorem d_MM_way_85 : decode y_MM_way.2.1 85 = .ok (.aload_n 0, 1) := dc9_42 (by decide +kernel)
theorem d_MM_way_86 : decode y_MM_way.2.1 86 = .ok (.getfield 34, 3) := dc9_180 (by decide +kernel)
theorem d_MM_way_89 : decode y_MM_way.2.1 89 = .ok (.getfield 501, 3) := dc9_180 (by decide +kernel)
theorem d_MM_way_92 : decode y_MM_way.2.1 92 = .ok (.iload 6, 2) := dc9_21 (by decide +kernel)
theorem d_MM_way_130 : decode y_MM_way.2.1 130 = .ok (.aload_n 0, 1) := dc9_42 (by decide +kernel)
theorem d_MM_way_131 : decode y_MM_way.2.1 131 = .ok (.getfield 267, 3) := dc9_180 (by decide +kernel)
theorem d_MM_way_134 : decode y_MM_way.2.1 134 = .ok (.ifCond .eq 4, 3) := dc9_153 (by decide +kernel)
theorem d_MM_way_138 : decode y_MM_way.2.1 138 = .ok (.aload_n 0, 1) := dc9_42 (by decide +kernel)
theorem d_MM_way_137 : decode y_MM_way.2.1 137 = .ok (.return_, 1) := dc9_177 (by decide +kernel)
theorem d_MM_way_139 : decode y_MM_way.2.1 139 = .ok (.invokevirtual 563, 3) := dc9_182 (by decide +kernel)
theorem d_MM_way_142 : decode y_MM_way.2.1 142 = .ok (.istore 6, 2) := dc9_54 (by decide +kernel)
theorem d_MM_way_144 : decode y_MM_way.2.1 144 = .ok (.iload 6, 2) := dc9_21 (by decide +kernel)
theorem d_MM_way_146 : decode y_MM_way.2.1 146 = .ok (.ifCond .ge 19, 3) := dc9_156 (by decide +kernel)
theorem d_MM_way_165 : decode y_MM_way.2.1 165 = .ok (.aload_n 0, 1) := dc9_42 (by decide +kernel)
theorem d_MM_way_166 : decode y_MM_way.2.1 166 = .ok (.getfield 105, 3) := dc9_180 (by decide +kernel)
theorem d_MM_way_169 : decode y_MM_way.2.1 169 = .ok (.getfield 145, 3) := dc9_180 (by decide +kernel)
theorem d_MM_way_172 : decode y_MM_way.2.1 172 = .ok (.iconst 1, 1) := dc9_4 (by decide +kernel)
theorem d_MM_way_173 : decode y_MM_way.2.1 173 = .ok (.isub, 1) := dc9_100 (by decide +kernel)
theorem d_MM_way_174 : decode y_MM_way.2.1 174 = .ok (.istore 7, 2) := dc9_54 (by decide +kernel)
theorem d_MM_way_176 : decode y_MM_way.2.1 176 = .ok (.aload_n 0, 1) := dc9_42 (by decide +kernel)
theorem d_MM_way_177 : decode y_MM_way.2.1 177 = .ok (.getfield 105, 3) := dc9_180 (by decide +kernel)
theorem d_MM_way_180 : decode y_MM_way.2.1 180 = .ok (.iload 7, 2) := dc9_21 (by decide +kernel)
theorem d_MM_way_149 : decode y_MM_way.2.1 149 = .ok (.aload_n 0, 1) := dc9_42 (by decide +kernel)
theorem d_MM_way_150 : decode y_MM_way.2.1 150 = .ok (.iconst 5, 1) := dc9_8 (by decide +kernel)
theorem d_MM_way_151 : decode y_MM_way.2.1 151 = .ok (.aload_n 0, 1) := dc9_42 (by decide +kernel)
theorem d_MM_way_152 : decode y_MM_way.2.1 152 = .ok (.getfield 34, 3) := dc9_180 (by decide +kernel)
theorem d_MM_way_155 : decode y_MM_way.2.1 155 = .ok (.getfield 495, 3) := dc9_180 (by decide +kernel)
theorem d_MM_way_158 : decode y_MM_way.2.1 158 = .ok (.iload 4, 2) := dc9_21 (by decide +kernel)
theorem d_MM_way_160 : decode y_MM_way.2.1 160 = .ok (.iaload, 1) := dc9_46 (by decide +kernel)
theorem d_MM_way_182 : decode y_MM_way.2.1 182 = .ok (.invokevirtual 155, 3) := dc9_182 (by decide +kernel)
theorem d_MM_way_185 : decode y_MM_way.2.1 185 = .ok (.istore 8, 2) := dc9_54 (by decide +kernel)
theorem d_MM_way_161 : decode y_MM_way.2.1 161 = .ok (.invokevirtual 351, 3) := dc9_182 (by decide +kernel)
theorem d_MM_way_164 : decode y_MM_way.2.1 164 = .ok (.return_, 1) := dc9_177 (by decide +kernel)
theorem d_MM_way_94 : decode y_MM_way.2.1 94 = .ok (.invokevirtual 155, 3) := dc9_182 (by decide +kernel)
theorem d_MM_way_97 : decode y_MM_way.2.1 97 = .ok (.aload_n 0, 1) := dc9_42 (by decide +kernel)
theorem d_MM_way_98 : decode y_MM_way.2.1 98 = .ok (.getfield 34, 3) := dc9_180 (by decide +kernel)
theorem d_MM_way_101 : decode y_MM_way.2.1 101 = .ok (.getfield 516, 3) := dc9_180 (by decide +kernel)
theorem d_MM_way_104 : decode y_MM_way.2.1 104 = .ok (.iload 6, 2) := dc9_21 (by decide +kernel)
theorem d_MM_way_106 : decode y_MM_way.2.1 106 = .ok (.invokevirtual 155, 3) := dc9_182 (by decide +kernel)
theorem d_MM_way_109 : decode y_MM_way.2.1 109 = .ok (.aload_n 0, 1) := dc9_42 (by decide +kernel)
theorem d_MM_way_110 : decode y_MM_way.2.1 110 = .ok (.getfield 34, 3) := dc9_180 (by decide +kernel)
theorem d_MM_way_113 : decode y_MM_way.2.1 113 = .ok (.getfield 513, 3) := dc9_180 (by decide +kernel)
theorem d_MM_way_116 : decode y_MM_way.2.1 116 = .ok (.iload 6, 2) := dc9_21 (by decide +kernel)
theorem d_MM_way_118 : decode y_MM_way.2.1 118 = .ok (.invokevirtual 155, 3) := dc9_182 (by decide +kernel)
theorem d_MM_way_121 : decode y_MM_way.2.1 121 = .ok (.invokevirtual 561, 3) := dc9_182 (by decide +kernel)
theorem d_MM_way_124 : decode y_MM_way.2.1 124 = .ok (.iinc 6 1, 3) := by decide +kernel
theorem d_MM_way_127 : decode y_MM_way.2.1 127 = .ok (.goto (-68), 3) := dc9_167 (by decide +kernel)
theorem d_MM_way_187 : decode y_MM_way.2.1 187 = .ok (.iload 8, 2) := dc9_21 (by decide +kernel)
theorem d_MM_way_189 : decode y_MM_way.2.1 189 = .ok (.aload_n 0, 1) := dc9_42 (by decide +kernel)
theorem d_MM_way_190 : decode y_MM_way.2.1 190 = .ok (.getfield 536, 3) := dc9_180 (by decide +kernel)
theorem d_MM_way_193 : decode y_MM_way.2.1 193 = .ok (.if_icmp .ge 40, 3) := dc9_162 (by decide +kernel)
theorem d_MM_way_233 : decode y_MM_way.2.1 233 = .ok (.aload_n 0, 1) := dc9_42 (by decide +kernel)
theorem d_MM_way_234 : decode y_MM_way.2.1 234 = .ok (.getfield 536, 3) := dc9_180 (by decide +kernel)
theorem d_MM_way_237 : decode y_MM_way.2.1 237 = .ok (.sipush 4096, 3) := dc9_17 (by decide +kernel)
theorem d_MM_way_196 : decode y_MM_way.2.1 196 = .ok (.aload_n 0, 1) := dc9_42 (by decide +kernel)
theorem d_MM_way_197 : decode y_MM_way.2.1 197 = .ok (.getfield 121, 3) := dc9_180 (by decide +kernel)
theorem d_MM_way_200 : decode y_MM_way.2.1 200 = .ok (.iload 8, 2) := dc9_21 (by decide +kernel)
theorem d_MM_way_202 : decode y_MM_way.2.1 202 = .ok (.iaload, 1) := dc9_46 (by decide +kernel)
theorem d_MM_way_203 : decode y_MM_way.2.1 203 = .ok (.iload 6, 2) := dc9_21 (by decide +kernel)
theorem d_MM_way_240 : decode y_MM_way.2.1 240 = .ok (.if_icmp .ne 10, 3) := dc9_160 (by decide +kernel)
theorem d_MM_way_243 : decode y_MM_way.2.1 243 = .ok (.aload_n 0, 1) := dc9_42 (by decide +kernel)
theorem d_MM_way_244 : decode y_MM_way.2.1 244 = .ok (.iconst 5, 1) := dc9_8 (by decide +kernel)
theorem d_MM_way_245 : decode y_MM_way.2.1 245 = .ok (.iload_n 3, 1) := dc9_29 (by decide +kernel)
theorem d_MM_way_250 : decode y_MM_way.2.1 250 = .ok (.aload_n 0, 1) := dc9_42 (by decide +kernel)
theorem d_MM_way_251 : decode y_MM_way.2.1 251 = .ok (.getfield 121, 3) := dc9_180 (by decide +kernel)
theorem d_MM_way_254 : decode y_MM_way.2.1 254 = .ok (.aload_n 0, 1) := dc9_42 (by decide +kernel)
theorem d_MM_way_255 : decode y_MM_way.2.1 255 = .ok (.getfield 536, 3) := dc9_180 (by decide +kernel)
theorem d_MM_way_258 : decode y_MM_way.2.1 258 = .ok (.iload 6, 2) := dc9_21 (by decide +kernel)
theorem d_MM_way_260 : decode y_MM_way.2.1 260 = .ok (.iastore, 1) := dc9_79 (by decide +kernel)
theorem d_MM_way_261 : decode y_MM_way.2.1 261 = .ok (.aload_n 0, 1) := dc9_42 (by decide +kernel)
theorem d_MM_way_262 : decode y_MM_way.2.1 262 = .ok (.getfield 124, 3) := dc9_180 (by decide +kernel)
theorem d_MM_way_265 : decode y_MM_way.2.1 265 = .ok (.aload_n 0, 1) := dc9_42 (by decide +kernel)
theorem d_MM_way_266 : decode y_MM_way.2.1 266 = .ok (.getfield 536, 3) := dc9_180 (by decide +kernel)
theorem d_MM_way_269 : decode y_MM_way.2.1 269 = .ok (.aload_n 0, 1) := dc9_42 (by decide +kernel)
theorem d_MM_way_270 : decode y_MM_way.2.1 270 = .ok (.getfield 133, 3) := dc9_180 (by decide +kernel)
theorem d_MM_way_273 : decode y_MM_way.2.1 273 = .ok (.iload_n 2, 1) := dc9_28 (by decide +kernel)
theorem d_MM_way_274 : decode y_MM_way.2.1 274 = .ok (.laload, 1) := dc9_47 (by decide +kernel)
theorem d_MM_way_275 : decode y_MM_way.2.1 275 = .ok (.lastore, 1) := dc9_80 (by decide +kernel)
theorem d_MM_way_205 : decode y_MM_way.2.1 205 = .ok (.if_icmp .ne 22, 3) := dc9_160 (by decide +kernel)
theorem d_MM_way_208 : decode y_MM_way.2.1 208 = .ok (.aload_n 0, 1) := dc9_42 (by decide +kernel)
theorem d_MM_way_209 : decode y_MM_way.2.1 209 = .ok (.iload 8, 2) := dc9_21 (by decide +kernel)
theorem d_MM_way_211 : decode y_MM_way.2.1 211 = .ok (.aload_n 0, 1) := dc9_42 (by decide +kernel)
theorem d_MM_way_212 : decode y_MM_way.2.1 212 = .ok (.getfield 133, 3) := dc9_180 (by decide +kernel)
theorem d_MM_way_215 : decode y_MM_way.2.1 215 = .ok (.iload_n 2, 1) := dc9_28 (by decide +kernel)
theorem d_MM_way_216 : decode y_MM_way.2.1 216 = .ok (.laload, 1) := dc9_47 (by decide +kernel)
theorem d_MM_way_217 : decode y_MM_way.2.1 217 = .ok (.aload_n 0, 1) := dc9_42 (by decide +kernel)
theorem d_MM_way_218 : decode y_MM_way.2.1 218 = .ok (.getfield 136, 3) := dc9_180 (by decide +kernel)
theorem d_MM_way_221 : decode y_MM_way.2.1 221 = .ok (.iload_n 2, 1) := dc9_28 (by decide +kernel)
theorem d_MM_way_222 : decode y_MM_way.2.1 222 = .ok (.laload, 1) := dc9_47 (by decide +kernel)
theorem d_MM_way_227 : decode y_MM_way.2.1 227 = .ok (.iinc 8 1, 3) := by decide +kernel
theorem d_MM_way_230 : decode y_MM_way.2.1 230 = .ok (.goto (-43), 3) := dc9_167 (by decide +kernel)
theorem d_MM_way_246 : decode y_MM_way.2.1 246 = .ok (.invokevirtual 351, 3) := dc9_182 (by decide +kernel)
theorem d_MM_way_249 : decode y_MM_way.2.1 249 = .ok (.return_, 1) := dc9_177 (by decide +kernel)
theorem d_MM_way_276 : decode y_MM_way.2.1 276 = .ok (.aload_n 0, 1) := dc9_42 (by decide +kernel)
theorem d_MM_way_277 : decode y_MM_way.2.1 277 = .ok (.getfield 127, 3) := dc9_180 (by decide +kernel)
theorem d_MM_way_280 : decode y_MM_way.2.1 280 = .ok (.aload_n 0, 1) := dc9_42 (by decide +kernel)
theorem d_MM_way_281 : decode y_MM_way.2.1 281 = .ok (.getfield 536, 3) := dc9_180 (by decide +kernel)
theorem d_MM_way_284 : decode y_MM_way.2.1 284 = .ok (.aload_n 0, 1) := dc9_42 (by decide +kernel)
theorem d_MM_way_285 : decode y_MM_way.2.1 285 = .ok (.getfield 136, 3) := dc9_180 (by decide +kernel)
theorem d_MM_way_288 : decode y_MM_way.2.1 288 = .ok (.iload_n 2, 1) := dc9_28 (by decide +kernel)
theorem d_MM_way_289 : decode y_MM_way.2.1 289 = .ok (.laload, 1) := dc9_47 (by decide +kernel)
theorem d_MM_way_290 : decode y_MM_way.2.1 290 = .ok (.lastore, 1) := dc9_80 (by decide +kernel)
theorem d_MM_way_291 : decode y_MM_way.2.1 291 = .ok (.aload_n 0, 1) := dc9_42 (by decide +kernel)
theorem d_MM_way_292 : decode y_MM_way.2.1 292 = .ok (.aload_n 0, 1) := dc9_42 (by decide +kernel)
theorem d_MM_way_293 : decode y_MM_way.2.1 293 = .ok (.getfield 536, 3) := dc9_180 (by decide +kernel)
theorem d_MM_way_296 : decode y_MM_way.2.1 296 = .ok (.iconst 1, 1) := dc9_4 (by decide +kernel)
theorem d_MM_way_297 : decode y_MM_way.2.1 297 = .ok (.iadd, 1) := dc9_96 (by decide +kernel)
theorem d_MM_way_298 : decode y_MM_way.2.1 298 = .ok (.putfield 536, 3) := dc9_181 (by decide +kernel)
theorem d_MM_way_301 : decode y_MM_way.2.1 301 = .ok (.aload_n 0, 1) := dc9_42 (by decide +kernel)
theorem d_MM_way_302 : decode y_MM_way.2.1 302 = .ok (.getfield 108, 3) := dc9_180 (by decide +kernel)
theorem d_MM_way_305 : decode y_MM_way.2.1 305 = .ok (.getfield 293, 3) := dc9_180 (by decide +kernel)
theorem d_MM_way_308 : decode y_MM_way.2.1 308 = .ok (.iload 7, 2) := dc9_21 (by decide +kernel)
theorem d_MM_way_310 : decode y_MM_way.2.1 310 = .ok (.aload_n 0, 1) := dc9_42 (by decide +kernel)
theorem d_MM_way_311 : decode y_MM_way.2.1 311 = .ok (.getfield 108, 3) := dc9_180 (by decide +kernel)
theorem d_MM_way_314 : decode y_MM_way.2.1 314 = .ok (.getfield 293, 3) := dc9_180 (by decide +kernel)
theorem d_MM_way_317 : decode y_MM_way.2.1 317 = .ok (.iload 7, 2) := dc9_21 (by decide +kernel)
theorem d_MM_way_319 : decode y_MM_way.2.1 319 = .ok (.iaload, 1) := dc9_46 (by decide +kernel)
theorem d_MM_way_320 : decode y_MM_way.2.1 320 = .ok (.iconst 1, 1) := dc9_4 (by decide +kernel)
theorem d_MM_way_321 : decode y_MM_way.2.1 321 = .ok (.iadd, 1) := dc9_96 (by decide +kernel)
theorem d_MM_way_322 : decode y_MM_way.2.1 322 = .ok (.iastore, 1) := dc9_79 (by decide +kernel)
theorem d_MM_way_323 : decode y_MM_way.2.1 323 = .ok (.return_, 1) := dc9_177 (by decide +kernel)
theorem d_MM_way_223 : decode y_MM_way.2.1 223 = .ok (.invokevirtual 566, 3) := dc9_182 (by decide +kernel)
theorem d_MM_way_226 : decode y_MM_way.2.1 226 = .ok (.return_, 1) := dc9_177 (by decide +kernel)
def h_MM_way_11 (G : mG) (d : Nat) (a0 : Nat) (l2 : Int) (l3 : Int) (l4 : Int) (l5 : Int) (M : mM) (Q : mM → Prop) : Prop := mWm G y_MM_way (d + 1) 11 [vr a0, vd, vi l2, vi l3, vi l4, vi l5, vd, vd, vd] [] M (fun r9 M9 => r9 = none ∧ Q M9)
def h_MM_way_59 (G : mG) (d : Nat) (a0 : Nat) (l2 : Int) (l3 : Int) (l4 : Int) (l5 : Int) (l6 : Int) (M : mM) (Q : mM → Prop) : Prop := mWm G y_MM_way (d + 1) 59 [vr a0, vd, vi l2, vi l3, vi l4, vi l5, vi l6, vd, vd] [] M (fun r9 M9 => r9 = none ∧ Q M9)
def h_MM_way_187 (G : mG) (d : Nat) (a0 : Nat) (l2 : Int) (l3 : Int) (l6 : Int) (l7 : Int) (l8 : Int) (M : mM) (Q : mM → Prop) : Prop := mWm G y_MM_way (d + 1) 187 [vr a0, vd, vi l2, vi l3, vd, vd, vi l6, vi l7, vi l8] [] M (fun r9 M9 => r9 = none ∧ Q M9)
theorem k_MM_way {G : mG} {d : Nat} {a0 : Nat} {l1 : Int} {l2 : Int} {l3 : Int} {M : mM} {Q : mM → Prop} (hO : mOk M) (hi_l1 : i32 l1) (hi_l2 : i32 l2) (hi_l3 : i32 l3)
    (h : h_MM_way_11 G d a0 l2 l3 ((8 * l1) + l2) 0 M Q) :
    Cv G y_MM_way (d + 1) [vr a0, vi l1, vi l2, vi l3] M Q := by
  refine wm_open (y := y_MM_way) rfl (Nat.le_of_ble_eq_true rfl) (L := [vr a0, vi l1, vi l2, vi l3, vd, vd, vd, vd, vd]) rfl ?_
  refine wm_bipush d_MM_way_0 (by decide) ?_
  refine wm_iload_n d_MM_way_2 rfl rfl ?_
  refine wm_imul d_MM_way_3 ?_
  refine wm_iload_n d_MM_way_4 rfl rfl ?_
  refine wm_iadd d_MM_way_5 ?_
  refine wm_istore d_MM_way_6 (by decide) (L' := [vr a0, vi l1, vi l2, vi l3, vi ((8 * l1) + l2), vd, vd, vd, vd]) rfl ?_
  refine wm_iconst d_MM_way_8 ?_
  refine wm_istore d_MM_way_9 (by decide) (L' := [vr a0, vi l1, vi l2, vi l3, vi ((8 * l1) + l2), vi 0, vd, vd, vd]) rfl ?_
  refine wm_less (L' := [vr a0, vd, vi l2, vi l3, vi ((8 * l1) + l2), vi 0, vd, vd, vd]) ⟨Or.inr rfl, Or.inl rfl, Or.inr rfl, Or.inr rfl, Or.inr rfl, Or.inr rfl, Or.inl rfl, Or.inl rfl, Or.inl rfl, trivial⟩ ?_
  exact h
theorem k_MM_way_11 {G : mG} {d : Nat} {a0 : Nat} {l2 : Int} {l3 : Int} {l4 : Int} {l5 : Int} {M : mM} {Q : mM → Prop} (hO : mOk M) (hi_l2 : i32 l2) (hi_l3 : i32 l3) (hi_l4 : i32 l4) (hi_l5 : i32 l5)
    (h : mK M a0 = 14 ∧ mK M (mR M a0 9) = 16 ∧ ((mI M (mR M a0 9) 12 ≤ l5) → (mK M (mR M (mR M a0 9) 25) = 30 ∧ ((0 : Int) ≤ l4 ∧ l4 < (mN M (mR M (mR M a0 9) 25) : Int)) ∧ h_MM_way_59 G d a0 l2 l3 l4 (mI M (mR M (mR M a0 9) 25) (Int.toNat l4)) (mI M (mR M (mR M a0 9) 25) (Int.toNat l4)) M Q)) ∧ (¬ (mI M (mR M a0 9) 12 ≤ l5) → (mK M (mR M a0 25) = 30 ∧ ((0 : Int) ≤ l5 ∧ l5 < (mN M (mR M a0 25) : Int)) ∧ mK M (mR M a0 44) = 30 ∧ ((0 : Int) ≤ l5 ∧ l5 < (mN M (mR M a0 44) : Int)) ∧ ∀ M17, M17 = mUI M (mR M a0 44) (Int.toNat l5) (mI M (mR M a0 25) (Int.toNat l5)) → h_MM_way_11 G d a0 l2 l3 l4 (l5 + 1) M17 Q))) :
    h_MM_way_11 G d a0 l2 l3 l4 l5 M Q := by
  unfold h_MM_way_11
  obtain ⟨h1, h⟩ := h
  obtain ⟨h2, h⟩ := h
  refine wm_iload d_MM_way_11 rfl ?_
  refine wm_aload_n d_MM_way_13 rfl rfl ?_
  refine gf_MM_34 rfl d_MM_way_14 h1 ?_
  refine gf_MM_456 rfl d_MM_way_17 h2 ?_
  refine wm_icmp_ge (tgt := 43) d_MM_way_20 rfl hi_l5 (hO _ _).1 (fun c10 => ?_) (fun c10 => ?_)
  · replace h := h.1 c10
    obtain ⟨h11, h⟩ := h
    obtain ⟨h12, h⟩ := h
    refine wm_aload_n d_MM_way_43 rfl rfl ?_
    refine gf_MM_34 rfl d_MM_way_44 h1 ?_
    refine gf_MM_498 rfl d_MM_way_47 h2 ?_
    refine wm_iload d_MM_way_50 rfl ?_
    refine wm_iald d_MM_way_52 h11 h12 ?_
    refine wm_istore d_MM_way_53 (by decide) (L' := [vr a0, vd, vi l2, vi l3, vi l4, vi (mI M (mR M (mR M a0 9) 25) (Int.toNat l4)), vd, vd, vd]) rfl ?_
    refine wm_iload d_MM_way_55 rfl ?_
    refine wm_istore d_MM_way_57 (by decide) (L' := [vr a0, vd, vi l2, vi l3, vi l4, vi (mI M (mR M (mR M a0 9) 25) (Int.toNat l4)), vi (mI M (mR M (mR M a0 9) 25) (Int.toNat l4)), vd, vd]) rfl ?_
    exact h
  · replace h := h.2 c10
    obtain ⟨h13, h⟩ := h
    obtain ⟨h14, h⟩ := h
    obtain ⟨h15, h⟩ := h
    obtain ⟨h16, h⟩ := h
    obtain ⟨M17, e18⟩ : ∃ M17, M17 = mUI M (mR M a0 44) (Int.toNat l5) (mI M (mR M a0 25) (Int.toNat l5)) := ⟨_, rfl⟩
    replace h := h M17 e18
    refine wm_aload_n d_MM_way_23 rfl rfl ?_
    refine gf_MM_130 rfl d_MM_way_24 h1 ?_
    refine wm_iload d_MM_way_27 rfl ?_
    refine wm_aload_n d_MM_way_29 rfl rfl ?_
    refine gf_MM_73 rfl d_MM_way_30 h1 ?_
    refine wm_iload d_MM_way_33 rfl ?_
    refine wm_iald d_MM_way_35 h13 h14 ?_
    have hOM17 : mOk M17 := by rw [e18]; exact mOk_UI hO (hO _ _).1
    refine wm_iastE d_MM_way_36 h15 h16 (hO _ _).1 e18 ?_
    refine wm_iinc d_MM_way_37 (by decide) rfl (L' := [vr a0, vd, vi l2, vi l3, vi l4, vi (l5 + 1), vd, vd, vd]) rfl ?_
    refine wm_goto (tgt := 11) d_MM_way_40 rfl ?_
    exact h
theorem k_MM_way_59 {G : mG} {d : Nat} {a0 : Nat} {l2 : Int} {l3 : Int} {l4 : Int} {l5 : Int} {l6 : Int} {M : mM} {Q : mM → Prop} (hO : mOk M) (hi_l2 : i32 l2) (hi_l3 : i32 l3) (hi_l4 : i32 l4) (hi_l5 : i32 l5) (hi_l6 : i32 l6)
    (h : mK M a0 = 14 ∧ mK M (mR M a0 9) = 16 ∧ mK M (mR M (mR M a0 9) 26) = 30 ∧ ((0 : Int) ≤ l4 ∧ l4 < (mN M (mR M (mR M a0 9) 26) : Int)) ∧ i32 (l5 + (mI M (mR M (mR M a0 9) 26) (Int.toNat l4))) ∧ (((l5 + (mI M (mR M (mR M a0 9) 26) (Int.toNat l4)) ≤ l6) ∨ (¬ (mI M a0 16 = 0))) → (((mI M a0 16 = 0) → (Ci G y_MM_stateOf d [vr a0] M (fun x31 M30 => i32 x31 ∧ mOk M30 ∧ (((0 ≤ x31) → (mK M30 a0 = 14 ∧ mK M30 (mR M30 a0 36) = 15 ∧ Ci G y_MN_at d [vr (mR M30 a0 36), vi ((mI M30 (mR M30 a0 36) 1) - 1)] M30 (fun x38 M37 => i32 x38 ∧ mOk M37 ∧ (h_MM_way_187 G d a0 l2 l3 x31 ((mI M30 (mR M30 a0 36) 1) - 1) x38 M37 Q)))) ∧ (¬ (0 ≤ x31) → (mK M30 a0 = 14 ∧ mK M30 (mR M30 a0 9) = 16 ∧ mK M30 (mR M30 (mR M30 a0 9) 24) = 30 ∧ ((0 : Int) ≤ l4 ∧ l4 < (mN M30 (mR M30 (mR M30 a0 9) 24) : Int)) ∧ Cv G y_MM_stop d [vr a0, vi 5, vi (mI M30 (mR M30 (mR M30 a0 9) 24) (Int.toNat l4))] M30 (fun M44 => mOk M44 ∧ (Q M44)))))))) ∧ (¬ (mI M a0 16 = 0) → (Q M)))) ∧ (¬ ((l5 + (mI M (mR M (mR M a0 9) 26) (Int.toNat l4)) ≤ l6) ∨ (¬ (mI M a0 16 = 0))) → (mK M (mR M (mR M a0 9) 27) = 15 ∧ Ci G y_MN_at d [vr (mR M (mR M a0 9) 27), vi l6] M (fun x50 M49 => i32 x50 ∧ mOk M49 ∧ (mK M49 a0 = 14 ∧ mK M49 (mR M49 a0 9) = 16 ∧ mK M49 (mR M49 (mR M49 a0 9) 29) = 15 ∧ Ci G y_MN_at d [vr (mR M49 (mR M49 a0 9) 29), vi l6] M49 (fun x56 M55 => i32 x56 ∧ mOk M55 ∧ (mK M55 a0 = 14 ∧ mK M55 (mR M55 a0 9) = 16 ∧ mK M55 (mR M55 (mR M55 a0 9) 28) = 15 ∧ Ci G y_MN_at d [vr (mR M55 (mR M55 a0 9) 28), vi l6] M55 (fun x62 M61 => i32 x62 ∧ mOk M61 ∧ (mK M61 a0 = 14 ∧ Cv G y_MM_set1 d [vr a0, vi x50, vi x56, vi x62] M61 (fun M65 => mOk M65 ∧ (h_MM_way_59 G d a0 l2 l3 l4 l5 (l6 + 1) M65 Q))))))))))) :
    h_MM_way_59 G d a0 l2 l3 l4 l5 l6 M Q := by
  unfold h_MM_way_59
  obtain ⟨h19, h⟩ := h
  obtain ⟨h20, h⟩ := h
  obtain ⟨h21, h⟩ := h
  obtain ⟨h22, h⟩ := h
  obtain ⟨h23, h⟩ := h
  refine wm_iload d_MM_way_59 rfl ?_
  refine wm_iload d_MM_way_61 rfl ?_
  refine wm_aload_n d_MM_way_63 rfl rfl ?_
  refine gf_MM_34 rfl d_MM_way_64 h19 ?_
  refine gf_MM_507 rfl d_MM_way_67 h20 ?_
  refine wm_iload d_MM_way_70 rfl ?_
  refine wm_iald d_MM_way_72 h21 h22 ?_
  refine wm_iadd d_MM_way_73 ?_
  have hE0 : ((l5 + (mI M (mR M (mR M a0 9) 26) (Int.toNat l4)) ≤ l6) ∨ (¬ (mI M a0 16 = 0))) → mWm G y_MM_way (d + 1) 130 [vr a0, vd, vi l2, vi l3, vi l4, vi l5, vi l6, vd, vd] [] M (fun r9 M9 => r9 = none ∧ Q M9) := by
    intro q27
    have h := h.1 q27
    refine wm_aload_n d_MM_way_130 rfl rfl ?_
    refine gf_MM_267 rfl d_MM_way_131 h19 ?_
    refine wm_if_eq (tgt := 138) d_MM_way_134 rfl (hO _ _).1 (fun c29 => ?_) (fun c29 => ?_)
    · replace h := h.1 c29
      refine wm_aload_n d_MM_way_138 rfl rfl ?_
      refine cf_MM_563 rfl d_MM_way_139 h19 (Nat.le_of_ble_eq_true rfl) (Ci.mono h (fun x31 M30 h => ?_))
      obtain ⟨h32, hOM30, h⟩ := h
      refine wm_istore d_MM_way_142 (by decide) (L' := [vr a0, vd, vi l2, vi l3, vi l4, vi l5, vi x31, vd, vd]) rfl ?_
      refine wm_iload d_MM_way_144 rfl ?_
      refine wm_if_ge (tgt := 165) d_MM_way_146 rfl h32 (fun c34 => ?_) (fun c34 => ?_)
      · replace h := h.1 c34
        obtain ⟨h35, h⟩ := h
        obtain ⟨h36, h⟩ := h
        refine wm_aload_n d_MM_way_165 rfl rfl ?_
        refine gf_MM_105 rfl d_MM_way_166 h35 ?_
        refine gf_MM_145 rfl d_MM_way_169 h36 ?_
        refine wm_iconst d_MM_way_172 ?_
        refine wm_isub d_MM_way_173 ?_
        refine wm_istore d_MM_way_174 (by decide) (L' := [vr a0, vd, vi l2, vi l3, vi l4, vi l5, vi x31, vi ((mI M30 (mR M30 a0 36) 1) - 1), vd]) rfl ?_
        refine wm_aload_n d_MM_way_176 rfl rfl ?_
        refine gf_MM_105 rfl d_MM_way_177 h35 ?_
        refine wm_iload d_MM_way_180 rfl ?_
        refine cf_MM_155 rfl d_MM_way_182 h36 (Nat.le_of_ble_eq_true rfl) (Ci.mono h (fun x38 M37 h => ?_))
        obtain ⟨h39, hOM37, h⟩ := h
        refine wm_istore d_MM_way_185 (by decide) (L' := [vr a0, vd, vi l2, vi l3, vi l4, vi l5, vi x31, vi ((mI M30 (mR M30 a0 36) 1) - 1), vi x38]) rfl ?_
        refine wm_less (L' := [vr a0, vd, vi l2, vi l3, vd, vd, vi x31, vi ((mI M30 (mR M30 a0 36) 1) - 1), vi x38]) ⟨Or.inr rfl, Or.inl rfl, Or.inr rfl, Or.inr rfl, Or.inl rfl, Or.inl rfl, Or.inr rfl, Or.inr rfl, Or.inr rfl, trivial⟩ ?_
        exact h
      · replace h := h.2 c34
        obtain ⟨h40, h⟩ := h
        obtain ⟨h41, h⟩ := h
        obtain ⟨h42, h⟩ := h
        obtain ⟨h43, h⟩ := h
        refine wm_aload_n d_MM_way_149 rfl rfl ?_
        refine wm_iconst d_MM_way_150 ?_
        refine wm_aload_n d_MM_way_151 rfl rfl ?_
        refine gf_MM_34 rfl d_MM_way_152 h40 ?_
        refine gf_MM_495 rfl d_MM_way_155 h41 ?_
        refine wm_iload d_MM_way_158 rfl ?_
        refine wm_iald d_MM_way_160 h42 h43 ?_
        refine cf_MM_351 rfl d_MM_way_161 h40 (Nat.le_of_ble_eq_true rfl) (Cv.mono h (fun M44 h => ?_))
        obtain ⟨hOM44, h⟩ := h
        refine wm_return d_MM_way_164 rfl ?_
        exact ⟨rfl, h⟩
    · replace h := h.2 c29
      refine wm_return d_MM_way_137 rfl ?_
      exact ⟨rfl, h⟩
  have hE1 : ¬ ((l5 + (mI M (mR M (mR M a0 9) 26) (Int.toNat l4)) ≤ l6) ∨ (¬ (mI M a0 16 = 0))) → mWm G y_MM_way (d + 1) 84 [vr a0, vd, vi l2, vi l3, vi l4, vi l5, vi l6, vd, vd] [] M (fun r9 M9 => r9 = none ∧ Q M9) := by
    intro q47
    have h := h.2 q47
    obtain ⟨h48, h⟩ := h
    refine wm_aload_n d_MM_way_84 rfl rfl ?_
    refine wm_aload_n d_MM_way_85 rfl rfl ?_
    refine gf_MM_34 rfl d_MM_way_86 h19 ?_
    refine gf_MM_501 rfl d_MM_way_89 h20 ?_
    refine wm_iload d_MM_way_92 rfl ?_
    refine cf_MM_155 rfl d_MM_way_94 h48 (Nat.le_of_ble_eq_true rfl) (Ci.mono h (fun x50 M49 h => ?_))
    obtain ⟨h51, hOM49, h⟩ := h
    obtain ⟨h52, h⟩ := h
    obtain ⟨h53, h⟩ := h
    obtain ⟨h54, h⟩ := h
    refine wm_aload_n d_MM_way_97 rfl rfl ?_
    refine gf_MM_34 rfl d_MM_way_98 h52 ?_
    refine gf_MM_516 rfl d_MM_way_101 h53 ?_
    refine wm_iload d_MM_way_104 rfl ?_
    refine cf_MM_155 rfl d_MM_way_106 h54 (Nat.le_of_ble_eq_true rfl) (Ci.mono h (fun x56 M55 h => ?_))
    obtain ⟨h57, hOM55, h⟩ := h
    obtain ⟨h58, h⟩ := h
    obtain ⟨h59, h⟩ := h
    obtain ⟨h60, h⟩ := h
    refine wm_aload_n d_MM_way_109 rfl rfl ?_
    refine gf_MM_34 rfl d_MM_way_110 h58 ?_
    refine gf_MM_513 rfl d_MM_way_113 h59 ?_
    refine wm_iload d_MM_way_116 rfl ?_
    refine cf_MM_155 rfl d_MM_way_118 h60 (Nat.le_of_ble_eq_true rfl) (Ci.mono h (fun x62 M61 h => ?_))
    obtain ⟨h63, hOM61, h⟩ := h
    obtain ⟨h64, h⟩ := h
    refine cf_MM_561 rfl d_MM_way_121 h64 (Nat.le_of_ble_eq_true rfl) (Cv.mono h (fun M65 h => ?_))
    obtain ⟨hOM65, h⟩ := h
    refine wm_iinc d_MM_way_124 (by decide) rfl (L' := [vr a0, vd, vi l2, vi l3, vi l4, vi l5, vi (l6 + 1), vd, vd]) rfl ?_
    refine wm_goto (tgt := 59) d_MM_way_127 rfl ?_
    exact h
  clear h
  refine wm_icmp_ge (tgt := 130) d_MM_way_74 rfl hi_l6 h23 (fun c25 => ?_) (fun c25 => ?_)
  · exact hE0 (Or.inl c25)
  · refine wm_aload_n d_MM_way_77 rfl rfl ?_
    refine gf_MM_267 rfl d_MM_way_78 h19 ?_
    refine wm_if_ne (tgt := 130) d_MM_way_81 rfl (hO _ _).1 (fun c24 => ?_) (fun c24 => ?_)
    · exact hE0 (Or.inr c24)
    · replace c24 := Classical.not_not.mp c24
      exact hE1 (fun z68 => Or.elim z68 c25 (fun z69 => z69 c24))
theorem k_MM_way_187 {G : mG} {d : Nat} {a0 : Nat} {l2 : Int} {l3 : Int} {l6 : Int} {l7 : Int} {l8 : Int} {M : mM} {Q : mM → Prop} (hO : mOk M) (hi_l2 : i32 l2) (hi_l3 : i32 l3) (hi_l6 : i32 l6) (hi_l7 : i32 l7) (hi_l8 : i32 l8)
    (h : mK M a0 = 14 ∧ ((mI M a0 40 ≤ l8) → (((mI M a0 40 = 4096) → (Cv G y_MM_stop d [vr a0, vi 5, vi l3] M (fun M81 => mOk M81 ∧ (Q M81)))) ∧ (¬ (mI M a0 40 = 4096) → (mK M (mR M a0 41) = 30 ∧ ((0 : Int) ≤ mI M a0 40 ∧ mI M a0 40 < (mN M (mR M a0 41) : Int)) ∧ ∀ M86, M86 = mUI M (mR M a0 41) (Int.toNat (mI M a0 40)) l6 → mK M86 (mR M86 a0 45) = 33 ∧ ((0 : Int) ≤ l2 ∧ l2 < (mN M86 (mR M86 a0 45) : Int)) ∧ mK M86 (mR M86 a0 42) = 33 ∧ ((0 : Int) ≤ mI M86 a0 40 ∧ mI M86 a0 40 < (mN M86 (mR M86 a0 42) : Int)) ∧ ∀ M92, M92 = mUL M86 (mR M86 a0 42) (Int.toNat (mI M86 a0 40)) (mL M86 (mR M86 a0 45) (Int.toNat l2)) → mK M92 (mR M92 a0 46) = 33 ∧ ((0 : Int) ≤ l2 ∧ l2 < (mN M92 (mR M92 a0 46) : Int)) ∧ mK M92 (mR M92 a0 43) = 33 ∧ ((0 : Int) ≤ mI M92 a0 40 ∧ mI M92 a0 40 < (mN M92 (mR M92 a0 43) : Int)) ∧ ∀ M98, M98 = mUL M92 (mR M92 a0 43) (Int.toNat (mI M92 a0 40)) (mL M92 (mR M92 a0 46) (Int.toNat l2)) → i32 ((mI M98 a0 40) + 1) ∧ ∀ M101, M101 = mUI M98 a0 40 ((mI M98 a0 40) + 1) → mK M101 (mR M101 a0 37) = 15 ∧ mK M101 (mR M101 (mR M101 a0 37) 0) = 30 ∧ ((0 : Int) ≤ l7 ∧ l7 < (mN M101 (mR M101 (mR M101 a0 37) 0) : Int)) ∧ ((0 : Int) ≤ l7 ∧ l7 < (mN M101 (mR M101 (mR M101 a0 37) 0) : Int)) ∧ i32 ((mI M101 (mR M101 (mR M101 a0 37) 0) (Int.toNat l7)) + 1) ∧ ∀ M108, M108 = mUI M101 (mR M101 (mR M101 a0 37) 0) (Int.toNat l7) ((mI M101 (mR M101 (mR M101 a0 37) 0) (Int.toNat l7)) + 1) → Q M108)))) ∧ (¬ (mI M a0 40 ≤ l8) → (mK M (mR M a0 41) = 30 ∧ ((0 : Int) ≤ l8 ∧ l8 < (mN M (mR M a0 41) : Int)) ∧ ((mI M (mR M a0 41) (Int.toNat l8) = l6) → (mK M (mR M a0 45) = 33 ∧ ((0 : Int) ≤ l2 ∧ l2 < (mN M (mR M a0 45) : Int)) ∧ mK M (mR M a0 46) = 33 ∧ ((0 : Int) ≤ l2 ∧ l2 < (mN M (mR M a0 46) : Int)) ∧ Cv G y_MM_add d [vr a0, vi l8, vl (mL M (mR M a0 45) (Int.toNat l2)), vl (mL M (mR M a0 46) (Int.toNat l2))] M (fun M118 => mOk M118 ∧ (Q M118)))) ∧ (¬ (mI M (mR M a0 41) (Int.toNat l8) = l6) → (h_MM_way_187 G d a0 l2 l3 l6 l7 (l8 + 1) M Q))))) :
    h_MM_way_187 G d a0 l2 l3 l6 l7 l8 M Q := by
  unfold h_MM_way_187
  obtain ⟨h70, h⟩ := h
  refine wm_iload d_MM_way_187 rfl ?_
  refine wm_aload_n d_MM_way_189 rfl rfl ?_
  refine gf_MM_536 rfl d_MM_way_190 h70 ?_
  refine wm_icmp_ge (tgt := 233) d_MM_way_193 rfl hi_l8 (hO _ _).1 (fun c78 => ?_) (fun c78 => ?_)
  · replace h := h.1 c78
    refine wm_aload_n d_MM_way_233 rfl rfl ?_
    refine gf_MM_536 rfl d_MM_way_234 h70 ?_
    refine wm_sipush d_MM_way_237 (by decide) ?_
    refine wm_icmp_ne (tgt := 250) d_MM_way_240 rfl (hO _ _).1 ⟨by decide, by decide⟩ (fun c80 => ?_) (fun c80 => ?_)
    · replace h := h.2 c80
      obtain ⟨h84, h⟩ := h
      obtain ⟨h85, h⟩ := h
      obtain ⟨M86, e87⟩ : ∃ M86, M86 = mUI M (mR M a0 41) (Int.toNat (mI M a0 40)) l6 := ⟨_, rfl⟩
      replace h := h M86 e87
      obtain ⟨h88, h⟩ := h
      obtain ⟨h89, h⟩ := h
      obtain ⟨h90, h⟩ := h
      obtain ⟨h91, h⟩ := h
      obtain ⟨M92, e93⟩ : ∃ M92, M92 = mUL M86 (mR M86 a0 42) (Int.toNat (mI M86 a0 40)) (mL M86 (mR M86 a0 45) (Int.toNat l2)) := ⟨_, rfl⟩
      replace h := h M92 e93
      obtain ⟨h94, h⟩ := h
      obtain ⟨h95, h⟩ := h
      obtain ⟨h96, h⟩ := h
      obtain ⟨h97, h⟩ := h
      obtain ⟨M98, e99⟩ : ∃ M98, M98 = mUL M92 (mR M92 a0 43) (Int.toNat (mI M92 a0 40)) (mL M92 (mR M92 a0 46) (Int.toNat l2)) := ⟨_, rfl⟩
      replace h := h M98 e99
      obtain ⟨h100, h⟩ := h
      obtain ⟨M101, e102⟩ : ∃ M101, M101 = mUI M98 a0 40 ((mI M98 a0 40) + 1) := ⟨_, rfl⟩
      replace h := h M101 e102
      obtain ⟨h103, h⟩ := h
      obtain ⟨h104, h⟩ := h
      obtain ⟨h105, h⟩ := h
      obtain ⟨h106, h⟩ := h
      obtain ⟨h107, h⟩ := h
      obtain ⟨M108, e109⟩ : ∃ M108, M108 = mUI M101 (mR M101 (mR M101 a0 37) 0) (Int.toNat l7) ((mI M101 (mR M101 (mR M101 a0 37) 0) (Int.toNat l7)) + 1) := ⟨_, rfl⟩
      replace h := h M108 e109
      refine wm_aload_n d_MM_way_250 rfl rfl ?_
      refine gf_MM_121 rfl d_MM_way_251 h70 ?_
      refine wm_aload_n d_MM_way_254 rfl rfl ?_
      refine gf_MM_536 rfl d_MM_way_255 h70 ?_
      refine wm_iload d_MM_way_258 rfl ?_
      have hOM86 : mOk M86 := by rw [e87]; exact mOk_UI hO hi_l6
      refine wm_iastE d_MM_way_260 h84 h85 hi_l6 e87 ?_
      refine wm_aload_n d_MM_way_261 rfl rfl ?_
      refine gf_MM_124 rfl d_MM_way_262 (by rw [e87]; exact h70) ?_
      refine wm_aload_n d_MM_way_265 rfl rfl ?_
      refine gf_MM_536 rfl d_MM_way_266 (by rw [e87]; exact h70) ?_
      refine wm_aload_n d_MM_way_269 rfl rfl ?_
      refine gf_MM_133 rfl d_MM_way_270 (by rw [e87]; exact h70) ?_
      refine wm_iload_n d_MM_way_273 rfl rfl ?_
      refine wm_lald d_MM_way_274 h88 h89 ?_
      have hOM92 : mOk M92 := by rw [e93]; exact mOk_UL hOM86 (hOM86 _ _).2
      refine wm_lastE d_MM_way_275 h90 h91 (hOM86 _ _).2 e93 ?_
      refine wm_aload_n d_MM_way_276 rfl rfl ?_
      refine gf_MM_127 rfl d_MM_way_277 (by rw [e93, e87]; exact h70) ?_
      refine wm_aload_n d_MM_way_280 rfl rfl ?_
      refine gf_MM_536 rfl d_MM_way_281 (by rw [e93, e87]; exact h70) ?_
      refine wm_aload_n d_MM_way_284 rfl rfl ?_
      refine gf_MM_136 rfl d_MM_way_285 (by rw [e93, e87]; exact h70) ?_
      refine wm_iload_n d_MM_way_288 rfl rfl ?_
      refine wm_lald d_MM_way_289 h94 h95 ?_
      have hOM98 : mOk M98 := by rw [e99]; exact mOk_UL hOM92 (hOM92 _ _).2
      refine wm_lastE d_MM_way_290 h96 h97 (hOM92 _ _).2 e99 ?_
      refine wm_aload_n d_MM_way_291 rfl rfl ?_
      refine wm_aload_n d_MM_way_292 rfl rfl ?_
      refine gf_MM_536 rfl d_MM_way_293 (by rw [e99, e93, e87]; exact h70) ?_
      refine wm_iconst d_MM_way_296 ?_
      refine wm_iadd d_MM_way_297 ?_
      have hOM101 : mOk M101 := by rw [e102]; exact mOk_UI hOM98 h100
      refine pf_MM_536 rfl d_MM_way_298 (by rw [e99, e93, e87]; exact h70) h100 e102 ?_
      refine wm_aload_n d_MM_way_301 rfl rfl ?_
      refine gf_MM_108 rfl d_MM_way_302 (by rw [e102, e99, e93, e87]; exact h70) ?_
      refine gf_MM_293 rfl d_MM_way_305 h103 ?_
      refine wm_iload d_MM_way_308 rfl ?_
      refine wm_aload_n d_MM_way_310 rfl rfl ?_
      refine gf_MM_108 rfl d_MM_way_311 (by rw [e102, e99, e93, e87]; exact h70) ?_
      refine gf_MM_293 rfl d_MM_way_314 h103 ?_
      refine wm_iload d_MM_way_317 rfl ?_
      refine wm_iald d_MM_way_319 h104 h105 ?_
      refine wm_iconst d_MM_way_320 ?_
      refine wm_iadd d_MM_way_321 ?_
      have hOM108 : mOk M108 := by rw [e109]; exact mOk_UI hOM101 h107
      refine wm_iastE d_MM_way_322 h104 h106 h107 e109 ?_
      refine wm_return d_MM_way_323 rfl ?_
      exact ⟨rfl, h⟩
    · replace c80 := Classical.not_not.mp c80
      replace h := h.1 c80
      refine wm_aload_n d_MM_way_243 rfl rfl ?_
      refine wm_iconst d_MM_way_244 ?_
      refine wm_iload_n d_MM_way_245 rfl rfl ?_
      refine cf_MM_351 rfl d_MM_way_246 h70 (Nat.le_of_ble_eq_true rfl) (Cv.mono h (fun M81 h => ?_))
      obtain ⟨hOM81, h⟩ := h
      refine wm_return d_MM_way_249 rfl ?_
      exact ⟨rfl, h⟩
  · replace h := h.2 c78
    obtain ⟨h110, h⟩ := h
    obtain ⟨h111, h⟩ := h
    refine wm_aload_n d_MM_way_196 rfl rfl ?_
    refine gf_MM_121 rfl d_MM_way_197 h70 ?_
    refine wm_iload d_MM_way_200 rfl ?_
    refine wm_iald d_MM_way_202 h110 h111 ?_
    refine wm_iload d_MM_way_203 rfl ?_
    refine wm_icmp_ne (tgt := 227) d_MM_way_205 rfl (hO _ _).1 hi_l6 (fun c113 => ?_) (fun c113 => ?_)
    · replace h := h.2 c113
      refine wm_iinc d_MM_way_227 (by decide) rfl (L' := [vr a0, vd, vi l2, vi l3, vd, vd, vi l6, vi l7, vi (l8 + 1)]) rfl ?_
      refine wm_goto (tgt := 187) d_MM_way_230 rfl ?_
      exact h
    · replace c113 := Classical.not_not.mp c113
      replace h := h.1 c113
      obtain ⟨h114, h⟩ := h
      obtain ⟨h115, h⟩ := h
      obtain ⟨h116, h⟩ := h
      obtain ⟨h117, h⟩ := h
      refine wm_aload_n d_MM_way_208 rfl rfl ?_
      refine wm_iload d_MM_way_209 rfl ?_
      refine wm_aload_n d_MM_way_211 rfl rfl ?_
      refine gf_MM_133 rfl d_MM_way_212 h70 ?_
      refine wm_iload_n d_MM_way_215 rfl rfl ?_
      refine wm_lald d_MM_way_216 h114 h115 ?_
      refine wm_aload_n d_MM_way_217 rfl rfl ?_
      refine gf_MM_136 rfl d_MM_way_218 h70 ?_
      refine wm_iload_n d_MM_way_221 rfl rfl ?_
      refine wm_lald d_MM_way_222 h116 h117 ?_
      refine cf_MM_566 rfl d_MM_way_223 h70 (Nat.le_of_ble_eq_true rfl) (Cv.mono h (fun M118 h => ?_))
      obtain ⟨hOM118, h⟩ := h
      refine wm_return d_MM_way_226 rfl ?_
      exact ⟨rfl, h⟩
theorem d_MM_add_0 : decode y_MM_add.2.1 0 = .ok (.aload_n 0, 1) := dc9_42 (by decide +kernel)
theorem d_MM_add_1 : decode y_MM_add.2.1 1 = .ok (.getfield 124, 3) := dc9_180 (by decide +kernel)
theorem d_MM_add_4 : decode y_MM_add.2.1 4 = .ok (.iload_n 1, 1) := dc9_27 (by decide +kernel)
theorem d_MM_add_5 : decode y_MM_add.2.1 5 = .ok (.laload, 1) := dc9_47 (by decide +kernel)
theorem d_MM_add_6 : decode y_MM_add.2.1 6 = .ok (.lload 4, 2) := dc9_22 (by decide +kernel)
theorem d_MM_add_8 : decode y_MM_add.2.1 8 = .ok (.lmul, 1) := dc9_105 (by decide +kernel)
theorem d_MM_add_9 : decode y_MM_add.2.1 9 = .ok (.lload_n 2, 1) := dc9_32 (by decide +kernel)
theorem d_MM_add_10 : decode y_MM_add.2.1 10 = .ok (.aload_n 0, 1) := dc9_42 (by decide +kernel)
theorem d_MM_add_11 : decode y_MM_add.2.1 11 = .ok (.getfield 127, 3) := dc9_180 (by decide +kernel)
theorem d_MM_add_14 : decode y_MM_add.2.1 14 = .ok (.iload_n 1, 1) := dc9_27 (by decide +kernel)
theorem d_MM_add_15 : decode y_MM_add.2.1 15 = .ok (.laload, 1) := dc9_47 (by decide +kernel)
theorem d_MM_add_16 : decode y_MM_add.2.1 16 = .ok (.lmul, 1) := dc9_105 (by decide +kernel)
theorem d_MM_add_17 : decode y_MM_add.2.1 17 = .ok (.ladd, 1) := dc9_97 (by decide +kernel)
theorem d_MM_add_18 : decode y_MM_add.2.1 18 = .ok (.lstore 6, 2) := dc9_55 (by decide +kernel)
theorem d_MM_add_20 : decode y_MM_add.2.1 20 = .ok (.aload_n 0, 1) := dc9_42 (by decide +kernel)
theorem d_MM_add_21 : decode y_MM_add.2.1 21 = .ok (.getfield 127, 3) := dc9_180 (by decide +kernel)
theorem d_MM_add_24 : decode y_MM_add.2.1 24 = .ok (.iload_n 1, 1) := dc9_27 (by decide +kernel)
theorem d_MM_add_25 : decode y_MM_add.2.1 25 = .ok (.laload, 1) := dc9_47 (by decide +kernel)
theorem d_MM_add_26 : decode y_MM_add.2.1 26 = .ok (.lload 4, 2) := dc9_22 (by decide +kernel)
theorem d_MM_add_28 : decode y_MM_add.2.1 28 = .ok (.lmul, 1) := dc9_105 (by decide +kernel)
theorem d_MM_add_29 : decode y_MM_add.2.1 29 = .ok (.lstore 8, 2) := dc9_55 (by decide +kernel)
theorem d_MM_add_31 : decode y_MM_add.2.1 31 = .ok (.lload 6, 2) := dc9_22 (by decide +kernel)
theorem d_MM_add_33 : decode y_MM_add.2.1 33 = .ok (.lload 8, 2) := dc9_22 (by decide +kernel)
theorem d_MM_add_35 : decode y_MM_add.2.1 35 = .ok (.invokestatic 377, 3) := dc9_184 (by decide +kernel)
theorem d_MM_add_38 : decode y_MM_add.2.1 38 = .ok (.lstore 10, 2) := dc9_55 (by decide +kernel)
theorem d_MM_add_40 : decode y_MM_add.2.1 40 = .ok (.aload_n 0, 1) := dc9_42 (by decide +kernel)
theorem d_MM_add_41 : decode y_MM_add.2.1 41 = .ok (.getfield 124, 3) := dc9_180 (by decide +kernel)
theorem d_MM_add_44 : decode y_MM_add.2.1 44 = .ok (.iload_n 1, 1) := dc9_27 (by decide +kernel)
theorem d_MM_add_45 : decode y_MM_add.2.1 45 = .ok (.lload 6, 2) := dc9_22 (by decide +kernel)
theorem d_MM_add_47 : decode y_MM_add.2.1 47 = .ok (.lload 10, 2) := dc9_22 (by decide +kernel)
theorem d_MM_add_49 : decode y_MM_add.2.1 49 = .ok (.ldiv, 1) := dc9_109 (by decide +kernel)
theorem d_MM_add_50 : decode y_MM_add.2.1 50 = .ok (.lastore, 1) := dc9_80 (by decide +kernel)
theorem d_MM_add_51 : decode y_MM_add.2.1 51 = .ok (.aload_n 0, 1) := dc9_42 (by decide +kernel)
theorem d_MM_add_52 : decode y_MM_add.2.1 52 = .ok (.getfield 127, 3) := dc9_180 (by decide +kernel)
theorem d_MM_add_55 : decode y_MM_add.2.1 55 = .ok (.iload_n 1, 1) := dc9_27 (by decide +kernel)
theorem d_MM_add_56 : decode y_MM_add.2.1 56 = .ok (.lload 8, 2) := dc9_22 (by decide +kernel)
theorem d_MM_add_58 : decode y_MM_add.2.1 58 = .ok (.lload 10, 2) := dc9_22 (by decide +kernel)
theorem d_MM_add_60 : decode y_MM_add.2.1 60 = .ok (.ldiv, 1) := dc9_109 (by decide +kernel)
theorem d_MM_add_61 : decode y_MM_add.2.1 61 = .ok (.lastore, 1) := dc9_80 (by decide +kernel)
theorem d_MM_add_62 : decode y_MM_add.2.1 62 = .ok (.return_, 1) := dc9_177 (by decide +kernel)
theorem k_MM_add {G : mG} {d : Nat} {a0 : Nat} {l1 : Int} {j2 : Int} {j4 : Int} {M : mM} {Q : mM → Prop} (hO : mOk M) (hi_l1 : i32 l1) (hi_j2 : i64 j2) (hi_j4 : i64 j4)
    (h : mK M a0 = 14 ∧ mK M (mR M a0 42) = 33 ∧ ((0 : Int) ≤ l1 ∧ l1 < (mN M (mR M a0 42) : Int)) ∧ mK M (mR M a0 43) = 33 ∧ ((0 : Int) ≤ l1 ∧ l1 < (mN M (mR M a0 43) : Int)) ∧ ((0 : Int) ≤ l1 ∧ l1 < (mN M (mR M a0 43) : Int)) ∧ Cj G y_MM_divisor d [vl (((mL M (mR M a0 42) (Int.toNat l1)) * j4) + (j2 * (mL M (mR M a0 43) (Int.toNat l1)))), vl ((mL M (mR M a0 43) (Int.toNat l1)) * j4)] M (fun x8 M7 => i64 x8 ∧ mOk M7 ∧ (mK M7 a0 = 14 ∧ i64 (((mL M (mR M a0 42) (Int.toNat l1)) * j4) + (j2 * (mL M (mR M a0 43) (Int.toNat l1)))) ∧ x8 ≠ 0 ∧ mK M7 (mR M7 a0 42) = 33 ∧ ((0 : Int) ≤ l1 ∧ l1 < (mN M7 (mR M7 a0 42) : Int)) ∧ i64 (Int.tdiv (((mL M (mR M a0 42) (Int.toNat l1)) * j4) + (j2 * (mL M (mR M a0 43) (Int.toNat l1)))) x8) ∧ ∀ M16, M16 = mUL M7 (mR M7 a0 42) (Int.toNat l1) (Int.tdiv (((mL M (mR M a0 42) (Int.toNat l1)) * j4) + (j2 * (mL M (mR M a0 43) (Int.toNat l1)))) x8) → i64 ((mL M (mR M a0 43) (Int.toNat l1)) * j4) ∧ x8 ≠ 0 ∧ mK M16 (mR M16 a0 43) = 33 ∧ ((0 : Int) ≤ l1 ∧ l1 < (mN M16 (mR M16 a0 43) : Int)) ∧ i64 (Int.tdiv ((mL M (mR M a0 43) (Int.toNat l1)) * j4) x8) ∧ ∀ M23, M23 = mUL M16 (mR M16 a0 43) (Int.toNat l1) (Int.tdiv ((mL M (mR M a0 43) (Int.toNat l1)) * j4) x8) → Q M23))) :
    Cv G y_MM_add (d + 1) [vr a0, vi l1, vl j2, vl j4] M Q := by
  refine wm_open (y := y_MM_add) rfl (Nat.le_of_ble_eq_true rfl) (L := [vr a0, vi l1, vl j2, vd, vl j4, vd, vd, vd, vd, vd, vd, vd]) rfl ?_
  obtain ⟨h1, h⟩ := h
  obtain ⟨h2, h⟩ := h
  obtain ⟨h3, h⟩ := h
  obtain ⟨h4, h⟩ := h
  obtain ⟨h5, h⟩ := h
  obtain ⟨h6, h⟩ := h
  refine wm_aload_n d_MM_add_0 rfl rfl ?_
  refine gf_MM_124 rfl d_MM_add_1 h1 ?_
  refine wm_iload_n d_MM_add_4 rfl rfl ?_
  refine wm_lald d_MM_add_5 h2 h3 ?_
  refine wm_lload d_MM_add_6 rfl ?_
  refine wm_lmul d_MM_add_8 ?_
  refine wm_lload_n d_MM_add_9 rfl rfl ?_
  refine wm_aload_n d_MM_add_10 rfl rfl ?_
  refine gf_MM_127 rfl d_MM_add_11 h1 ?_
  refine wm_iload_n d_MM_add_14 rfl rfl ?_
  refine wm_lald d_MM_add_15 h4 h5 ?_
  refine wm_lmul d_MM_add_16 ?_
  refine wm_ladd d_MM_add_17 ?_
  refine wm_lstore d_MM_add_18 (by decide) (L' := [vr a0, vi l1, vl j2, vd, vl j4, vd, vl (((mL M (mR M a0 42) (Int.toNat l1)) * j4) + (j2 * (mL M (mR M a0 43) (Int.toNat l1)))), vd, vd, vd, vd, vd]) rfl ?_
  refine wm_aload_n d_MM_add_20 rfl rfl ?_
  refine gf_MM_127 rfl d_MM_add_21 h1 ?_
  refine wm_iload_n d_MM_add_24 rfl rfl ?_
  refine wm_lald d_MM_add_25 h4 h6 ?_
  refine wm_lload d_MM_add_26 rfl ?_
  refine wm_lmul d_MM_add_28 ?_
  refine wm_lstore d_MM_add_29 (by decide) (L' := [vr a0, vi l1, vl j2, vd, vl j4, vd, vl (((mL M (mR M a0 42) (Int.toNat l1)) * j4) + (j2 * (mL M (mR M a0 43) (Int.toNat l1)))), vd, vl ((mL M (mR M a0 43) (Int.toNat l1)) * j4), vd, vd, vd]) rfl ?_
  refine wm_lload d_MM_add_31 rfl ?_
  refine wm_lload d_MM_add_33 rfl ?_
  refine cf_MM_377 rfl d_MM_add_35 (Nat.le_of_ble_eq_true rfl) (Cj.mono h (fun x8 M7 h => ?_))
  obtain ⟨h9, hOM7, h⟩ := h
  obtain ⟨h10, h⟩ := h
  obtain ⟨h11, h⟩ := h
  obtain ⟨h12, h⟩ := h
  obtain ⟨h13, h⟩ := h
  obtain ⟨h14, h⟩ := h
  obtain ⟨h15, h⟩ := h
  obtain ⟨M16, e17⟩ : ∃ M16, M16 = mUL M7 (mR M7 a0 42) (Int.toNat l1) (Int.tdiv (((mL M (mR M a0 42) (Int.toNat l1)) * j4) + (j2 * (mL M (mR M a0 43) (Int.toNat l1)))) x8) := ⟨_, rfl⟩
  replace h := h M16 e17
  obtain ⟨h18, h⟩ := h
  obtain ⟨h19, h⟩ := h
  obtain ⟨h20, h⟩ := h
  obtain ⟨h21, h⟩ := h
  obtain ⟨h22, h⟩ := h
  obtain ⟨M23, e24⟩ : ∃ M23, M23 = mUL M16 (mR M16 a0 43) (Int.toNat l1) (Int.tdiv ((mL M (mR M a0 43) (Int.toNat l1)) * j4) x8) := ⟨_, rfl⟩
  replace h := h M23 e24
  refine wm_lstore d_MM_add_38 (by decide) (L' := [vr a0, vi l1, vl j2, vd, vl j4, vd, vl (((mL M (mR M a0 42) (Int.toNat l1)) * j4) + (j2 * (mL M (mR M a0 43) (Int.toNat l1)))), vd, vl ((mL M (mR M a0 43) (Int.toNat l1)) * j4), vd, vl x8, vd]) rfl ?_
  refine wm_aload_n d_MM_add_40 rfl rfl ?_
  refine gf_MM_124 rfl d_MM_add_41 h10 ?_
  refine wm_iload_n d_MM_add_44 rfl rfl ?_
  refine wm_lload d_MM_add_45 rfl ?_
  refine wm_lload d_MM_add_47 rfl ?_
  refine wm_ldiv d_MM_add_49 h11 h9 h12 ?_
  have hOM16 : mOk M16 := by rw [e17]; exact mOk_UL hOM7 h15
  refine wm_lastE d_MM_add_50 h13 h14 h15 e17 ?_
  refine wm_aload_n d_MM_add_51 rfl rfl ?_
  refine gf_MM_127 rfl d_MM_add_52 (by rw [e17]; exact h10) ?_
  refine wm_iload_n d_MM_add_55 rfl rfl ?_
  refine wm_lload d_MM_add_56 rfl ?_
  refine wm_lload d_MM_add_58 rfl ?_
  refine wm_ldiv d_MM_add_60 h18 h9 h19 ?_
  have hOM23 : mOk M23 := by rw [e24]; exact mOk_UL hOM16 h22
  refine wm_lastE d_MM_add_61 h20 h21 h22 e24 ?_
  refine wm_return d_MM_add_62 rfl ?_
  exact ⟨rfl, h⟩
theorem d_MM_set1_0 : decode y_MM_set1.2.1 0 = .ok (.aload_n 0, 1) := dc9_42 (by decide +kernel)
theorem d_MM_set1_1 : decode y_MM_set1.2.1 1 = .ok (.iload_n 2, 1) := dc9_28 (by decide +kernel)
theorem d_MM_set1_2 : decode y_MM_set1.2.1 2 = .ok (.invokevirtual 548, 3) := dc9_182 (by decide +kernel)
theorem d_MM_set1_5 : decode y_MM_set1.2.1 5 = .ok (.aload_n 0, 1) := dc9_42 (by decide +kernel)
theorem d_MM_set1_6 : decode y_MM_set1.2.1 6 = .ok (.getfield 267, 3) := dc9_180 (by decide +kernel)
theorem d_MM_set1_9 : decode y_MM_set1.2.1 9 = .ok (.ifCond .eq 4, 3) := dc9_153 (by decide +kernel)
theorem d_MM_set1_13 : decode y_MM_set1.2.1 13 = .ok (.aload_n 0, 1) := dc9_42 (by decide +kernel)
theorem d_MM_set1_14 : decode y_MM_set1.2.1 14 = .ok (.getfield 34, 3) := dc9_180 (by decide +kernel)
theorem d_MM_set1_17 : decode y_MM_set1.2.1 17 = .ok (.getfield 357, 3) := dc9_180 (by decide +kernel)
theorem d_MM_set1_20 : decode y_MM_set1.2.1 20 = .ok (.iload_n 1, 1) := dc9_27 (by decide +kernel)
theorem d_MM_set1_21 : decode y_MM_set1.2.1 21 = .ok (.baload, 1) := dc9_51 (by decide +kernel)
theorem d_MM_set1_12 : decode y_MM_set1.2.1 12 = .ok (.return_, 1) := dc9_177 (by decide +kernel)
theorem d_MM_set1_22 : decode y_MM_set1.2.1 22 = .ok (.ifCond .ne 24, 3) := dc9_154 (by decide +kernel)
theorem d_MM_set1_25 : decode y_MM_set1.2.1 25 = .ok (.aload_n 0, 1) := dc9_42 (by decide +kernel)
theorem d_MM_set1_26 : decode y_MM_set1.2.1 26 = .ok (.getfield 67, 3) := dc9_180 (by decide +kernel)
theorem d_MM_set1_29 : decode y_MM_set1.2.1 29 = .ok (.iconst 0, 1) := dc9_3 (by decide +kernel)
theorem d_MM_set1_30 : decode y_MM_set1.2.1 30 = .ok (.laload, 1) := dc9_47 (by decide +kernel)
theorem d_MM_set1_31 : decode y_MM_set1.2.1 31 = .ok (.lconst 1, 1) := dc9_10 (by decide +kernel)
theorem d_MM_set1_32 : decode y_MM_set1.2.1 32 = .ok (.lcmp, 1) := dc9_148 (by decide +kernel)
theorem d_MM_set1_33 : decode y_MM_set1.2.1 33 = .ok (.ifCond .eq 13, 3) := dc9_153 (by decide +kernel)
theorem d_MM_set1_36 : decode y_MM_set1.2.1 36 = .ok (.aload_n 0, 1) := dc9_42 (by decide +kernel)
theorem d_MM_set1_37 : decode y_MM_set1.2.1 37 = .ok (.bipush 8, 2) := dc9_16 (by decide +kernel)
theorem d_MM_set1_39 : decode y_MM_set1.2.1 39 = .ok (.iload_n 3, 1) := dc9_29 (by decide +kernel)
theorem d_MM_set1_46 : decode y_MM_set1.2.1 46 = .ok (.aload_n 0, 1) := dc9_42 (by decide +kernel)
theorem d_MM_set1_47 : decode y_MM_set1.2.1 47 = .ok (.getfield 63, 3) := dc9_180 (by decide +kernel)
theorem d_MM_set1_50 : decode y_MM_set1.2.1 50 = .ok (.iconst 0, 1) := dc9_3 (by decide +kernel)
theorem d_MM_set1_51 : decode y_MM_set1.2.1 51 = .ok (.laload, 1) := dc9_47 (by decide +kernel)
theorem d_MM_set1_52 : decode y_MM_set1.2.1 52 = .ok (.aload_n 0, 1) := dc9_42 (by decide +kernel)
theorem d_MM_set1_53 : decode y_MM_set1.2.1 53 = .ok (.getfield 34, 3) := dc9_180 (by decide +kernel)
theorem d_MM_set1_56 : decode y_MM_set1.2.1 56 = .ok (.getfield 461, 3) := dc9_180 (by decide +kernel)
theorem d_MM_set1_59 : decode y_MM_set1.2.1 59 = .ok (.iload_n 1, 1) := dc9_27 (by decide +kernel)
theorem d_MM_set1_60 : decode y_MM_set1.2.1 60 = .ok (.iaload, 1) := dc9_46 (by decide +kernel)
theorem d_MM_set1_61 : decode y_MM_set1.2.1 61 = .ok (.i2l, 1) := dc9_133 (by decide +kernel)
theorem d_MM_set1_62 : decode y_MM_set1.2.1 62 = .ok (.lcmp, 1) := dc9_148 (by decide +kernel)
theorem d_MM_set1_63 : decode y_MM_set1.2.1 63 = .ok (.ifCond .lt 23, 3) := dc9_155 (by decide +kernel)
theorem d_MM_set1_86 : decode y_MM_set1.2.1 86 = .ok (.aload_n 0, 1) := dc9_42 (by decide +kernel)
theorem d_MM_set1_87 : decode y_MM_set1.2.1 87 = .ok (.bipush 12, 2) := dc9_16 (by decide +kernel)
theorem d_MM_set1_89 : decode y_MM_set1.2.1 89 = .ok (.iload_n 3, 1) := dc9_29 (by decide +kernel)
theorem d_MM_set1_66 : decode y_MM_set1.2.1 66 = .ok (.aload_n 0, 1) := dc9_42 (by decide +kernel)
theorem d_MM_set1_67 : decode y_MM_set1.2.1 67 = .ok (.getfield 63, 3) := dc9_180 (by decide +kernel)
theorem d_MM_set1_70 : decode y_MM_set1.2.1 70 = .ok (.iconst 0, 1) := dc9_3 (by decide +kernel)
theorem d_MM_set1_71 : decode y_MM_set1.2.1 71 = .ok (.laload, 1) := dc9_47 (by decide +kernel)
theorem d_MM_set1_72 : decode y_MM_set1.2.1 72 = .ok (.aload_n 0, 1) := dc9_42 (by decide +kernel)
theorem d_MM_set1_73 : decode y_MM_set1.2.1 73 = .ok (.getfield 34, 3) := dc9_180 (by decide +kernel)
theorem d_MM_set1_76 : decode y_MM_set1.2.1 76 = .ok (.getfield 463, 3) := dc9_180 (by decide +kernel)
theorem d_MM_set1_79 : decode y_MM_set1.2.1 79 = .ok (.iload_n 1, 1) := dc9_27 (by decide +kernel)
theorem d_MM_set1_80 : decode y_MM_set1.2.1 80 = .ok (.iaload, 1) := dc9_46 (by decide +kernel)
theorem d_MM_set1_81 : decode y_MM_set1.2.1 81 = .ok (.i2l, 1) := dc9_133 (by decide +kernel)
theorem d_MM_set1_82 : decode y_MM_set1.2.1 82 = .ok (.lcmp, 1) := dc9_148 (by decide +kernel)
theorem d_MM_set1_83 : decode y_MM_set1.2.1 83 = .ok (.ifCond .le 13, 3) := dc9_158 (by decide +kernel)
theorem d_MM_set1_96 : decode y_MM_set1.2.1 96 = .ok (.aload_n 0, 1) := dc9_42 (by decide +kernel)
theorem d_MM_set1_97 : decode y_MM_set1.2.1 97 = .ok (.getfield 130, 3) := dc9_180 (by decide +kernel)
theorem d_MM_set1_100 : decode y_MM_set1.2.1 100 = .ok (.iload_n 1, 1) := dc9_27 (by decide +kernel)
theorem d_MM_set1_101 : decode y_MM_set1.2.1 101 = .ok (.aload_n 0, 1) := dc9_42 (by decide +kernel)
theorem d_MM_set1_102 : decode y_MM_set1.2.1 102 = .ok (.getfield 63, 3) := dc9_180 (by decide +kernel)
theorem d_MM_set1_105 : decode y_MM_set1.2.1 105 = .ok (.iconst 0, 1) := dc9_3 (by decide +kernel)
theorem d_MM_set1_106 : decode y_MM_set1.2.1 106 = .ok (.laload, 1) := dc9_47 (by decide +kernel)
theorem d_MM_set1_107 : decode y_MM_set1.2.1 107 = .ok (.l2i, 1) := dc9_136 (by decide +kernel)
theorem d_MM_set1_108 : decode y_MM_set1.2.1 108 = .ok (.iastore, 1) := dc9_79 (by decide +kernel)
theorem d_MM_set1_109 : decode y_MM_set1.2.1 109 = .ok (.return_, 1) := dc9_177 (by decide +kernel)
theorem d_MM_set1_90 : decode y_MM_set1.2.1 90 = .ok (.invokevirtual 351, 3) := dc9_182 (by decide +kernel)
theorem d_MM_set1_93 : decode y_MM_set1.2.1 93 = .ok (.goto 16, 3) := dc9_167 (by decide +kernel)
theorem d_MM_set1_40 : decode y_MM_set1.2.1 40 = .ok (.invokevirtual 351, 3) := dc9_182 (by decide +kernel)
theorem d_MM_set1_43 : decode y_MM_set1.2.1 43 = .ok (.goto 66, 3) := dc9_167 (by decide +kernel)
theorem k_MM_set1 {G : mG} {d : Nat} {a0 : Nat} {l1 : Int} {l2 : Int} {l3 : Int} {M : mM} {Q : mM → Prop} (hO : mOk M) (hi_l1 : i32 l1) (hi_l2 : i32 l2) (hi_l3 : i32 l3)
    (h : mK M a0 = 14 ∧ Cv G y_MM_reach d [vr a0, vi l2] M (fun M2 => mOk M2 ∧ (mK M2 a0 = 14 ∧ ((mI M2 a0 16 = 0) → (mK M2 (mR M2 a0 9) = 16 ∧ mK M2 (mR M2 (mR M2 a0 9) 13) = 31 ∧ ((0 : Int) ≤ l1 ∧ l1 < (mN M2 (mR M2 (mR M2 a0 9) 13) : Int)) ∧ ((mI M2 (mR M2 (mR M2 a0 9) 13) (Int.toNat l1) = 0) → (mK M2 (mR M2 a0 22) = 33 ∧ ((0 : Int) ≤ 0 ∧ 0 < (mN M2 (mR M2 a0 22) : Int)))) ∧ (((¬ (mI M2 (mR M2 (mR M2 a0 9) 13) (Int.toNat l1) = 0)) ∨ (cmpL (mL M2 (mR M2 a0 22) 0) 1 = 0)) → (mK M2 (mR M2 a0 21) = 33 ∧ ((0 : Int) ≤ 0 ∧ 0 < (mN M2 (mR M2 a0 21) : Int)) ∧ mK M2 (mR M2 (mR M2 a0 9) 14) = 30 ∧ ((0 : Int) ≤ l1 ∧ l1 < (mN M2 (mR M2 (mR M2 a0 9) 14) : Int)) ∧ (¬ (cmpL (mL M2 (mR M2 a0 21) 0) (mI M2 (mR M2 (mR M2 a0 9) 14) (Int.toNat l1)) < 0) → (((0 : Int) ≤ 0 ∧ 0 < (mN M2 (mR M2 a0 21) : Int)) ∧ mK M2 (mR M2 (mR M2 a0 9) 15) = 30 ∧ ((0 : Int) ≤ l1 ∧ l1 < (mN M2 (mR M2 (mR M2 a0 9) 15) : Int)))) ∧ (((cmpL (mL M2 (mR M2 a0 21) 0) (mI M2 (mR M2 (mR M2 a0 9) 14) (Int.toNat l1)) < 0) ∨ (¬ (cmpL (mL M2 (mR M2 a0 21) 0) (mI M2 (mR M2 (mR M2 a0 9) 15) (Int.toNat l1)) ≤ 0))) → (Cv G y_MM_stop d [vr a0, vi 12, vi l3] M2 (fun M49 => mOk M49 ∧ (Q M49)))) ∧ (¬ ((cmpL (mL M2 (mR M2 a0 21) 0) (mI M2 (mR M2 (mR M2 a0 9) 14) (Int.toNat l1)) < 0) ∨ (¬ (cmpL (mL M2 (mR M2 a0 21) 0) (mI M2 (mR M2 (mR M2 a0 9) 15) (Int.toNat l1)) ≤ 0))) → (((0 : Int) ≤ 0 ∧ 0 < (mN M2 (mR M2 a0 21) : Int)) ∧ mK M2 (mR M2 a0 44) = 30 ∧ ((0 : Int) ≤ l1 ∧ l1 < (mN M2 (mR M2 a0 44) : Int)) ∧ i32 (mL M2 (mR M2 a0 21) 0) ∧ ∀ M57, M57 = mUI M2 (mR M2 a0 44) (Int.toNat l1) (mL M2 (mR M2 a0 21) 0) → Q M57)))) ∧ (¬ ((¬ (mI M2 (mR M2 (mR M2 a0 9) 13) (Int.toNat l1) = 0)) ∨ (cmpL (mL M2 (mR M2 a0 22) 0) 1 = 0)) → (Cv G y_MM_stop d [vr a0, vi 8, vi l3] M2 (fun M63 => mOk M63 ∧ (Q M63)))))) ∧ (¬ (mI M2 a0 16 = 0) → (Q M2))))) :
    Cv G y_MM_set1 (d + 1) [vr a0, vi l1, vi l2, vi l3] M Q := by
  refine wm_open (y := y_MM_set1) rfl (Nat.le_of_ble_eq_true rfl) (L := [vr a0, vi l1, vi l2, vi l3]) rfl ?_
  obtain ⟨h1, h⟩ := h
  refine wm_aload_n d_MM_set1_0 rfl rfl ?_
  refine wm_iload_n d_MM_set1_1 rfl rfl ?_
  refine cf_MM_548 rfl d_MM_set1_2 h1 (Nat.le_of_ble_eq_true rfl) (Cv.mono h (fun M2 h => ?_))
  obtain ⟨hOM2, h⟩ := h
  obtain ⟨h5, h⟩ := h
  refine wm_aload_n d_MM_set1_5 rfl rfl ?_
  refine gf_MM_267 rfl d_MM_set1_6 h5 ?_
  refine wm_if_eq (tgt := 13) d_MM_set1_9 rfl (hOM2 _ _).1 (fun c14 => ?_) (fun c14 => ?_)
  · replace h := h.1 c14
    obtain ⟨h15, h⟩ := h
    obtain ⟨h16, h⟩ := h
    obtain ⟨h17, h⟩ := h
    refine wm_aload_n d_MM_set1_13 rfl rfl ?_
    refine gf_MM_34 rfl d_MM_set1_14 h5 ?_
    refine gf_MM_357 rfl d_MM_set1_17 h15 ?_
    refine wm_iload_n d_MM_set1_20 rfl rfl ?_
    refine wm_zald d_MM_set1_21 h16 h17 ?_
    obtain ⟨s31, h⟩ := h
    have hE0 : ((¬ (mI M2 (mR M2 (mR M2 a0 9) 13) (Int.toNat l1) = 0)) ∨ (cmpL (mL M2 (mR M2 a0 22) 0) 1 = 0)) → mWm G y_MM_set1 (d + 1) 46 [vr a0, vi l1, vi l2, vi l3] [] M2 (fun r9 M9 => r9 = none ∧ Q M9) := by
      intro q32
      have h := h.1 q32
      obtain ⟨h33, h⟩ := h
      obtain ⟨h34, h⟩ := h
      obtain ⟨h35, h⟩ := h
      obtain ⟨h36, h⟩ := h
      refine wm_aload_n d_MM_set1_46 rfl rfl ?_
      refine gf_MM_63 rfl d_MM_set1_47 h5 ?_
      refine wm_iconst d_MM_set1_50 ?_
      refine wm_lald d_MM_set1_51 h33 h34 ?_
      refine wm_aload_n d_MM_set1_52 rfl rfl ?_
      refine gf_MM_34 rfl d_MM_set1_53 h5 ?_
      refine gf_MM_461 rfl d_MM_set1_56 h15 ?_
      refine wm_iload_n d_MM_set1_59 rfl rfl ?_
      refine wm_iald d_MM_set1_60 h35 h36 ?_
      refine wm_i2l d_MM_set1_61 (hOM2 _ _).1 ?_
      refine wm_lcmp d_MM_set1_62 (hOM2 _ _).2 (i64_of32 (hOM2 _ _).1) ?_
      obtain ⟨s47, h⟩ := h
      have hE0 : ((cmpL (mL M2 (mR M2 a0 21) 0) (mI M2 (mR M2 (mR M2 a0 9) 14) (Int.toNat l1)) < 0) ∨ (¬ (cmpL (mL M2 (mR M2 a0 21) 0) (mI M2 (mR M2 (mR M2 a0 9) 15) (Int.toNat l1)) ≤ 0))) → mWm G y_MM_set1 (d + 1) 86 [vr a0, vi l1, vi l2, vi l3] [] M2 (fun r9 M9 => r9 = none ∧ Q M9) := by
        intro q48
        have h := h.1 q48
        refine wm_aload_n d_MM_set1_86 rfl rfl ?_
        refine wm_bipush d_MM_set1_87 (by decide) ?_
        refine wm_iload_n d_MM_set1_89 rfl rfl ?_
        refine cf_MM_351 rfl d_MM_set1_90 h5 (Nat.le_of_ble_eq_true rfl) (Cv.mono h (fun M49 h => ?_))
        obtain ⟨hOM49, h⟩ := h
        refine wm_goto (tgt := 109) d_MM_set1_93 rfl ?_
        refine wm_return d_MM_set1_109 rfl ?_
        exact ⟨rfl, h⟩
      have hE1 : ¬ ((cmpL (mL M2 (mR M2 a0 21) 0) (mI M2 (mR M2 (mR M2 a0 9) 14) (Int.toNat l1)) < 0) ∨ (¬ (cmpL (mL M2 (mR M2 a0 21) 0) (mI M2 (mR M2 (mR M2 a0 9) 15) (Int.toNat l1)) ≤ 0))) → mWm G y_MM_set1 (d + 1) 96 [vr a0, vi l1, vi l2, vi l3] [] M2 (fun r9 M9 => r9 = none ∧ Q M9) := by
        intro q52
        have h := h.2 q52
        obtain ⟨h53, h⟩ := h
        obtain ⟨h54, h⟩ := h
        obtain ⟨h55, h⟩ := h
        obtain ⟨h56, h⟩ := h
        obtain ⟨M57, e58⟩ : ∃ M57, M57 = mUI M2 (mR M2 a0 44) (Int.toNat l1) (mL M2 (mR M2 a0 21) 0) := ⟨_, rfl⟩
        replace h := h M57 e58
        refine wm_aload_n d_MM_set1_96 rfl rfl ?_
        refine gf_MM_130 rfl d_MM_set1_97 h5 ?_
        refine wm_iload_n d_MM_set1_100 rfl rfl ?_
        refine wm_aload_n d_MM_set1_101 rfl rfl ?_
        refine gf_MM_63 rfl d_MM_set1_102 h5 ?_
        refine wm_iconst d_MM_set1_105 ?_
        refine wm_lald d_MM_set1_106 h33 h53 ?_
        refine wm_l2i d_MM_set1_107 ?_
        have hOM57 : mOk M57 := by rw [e58]; exact mOk_UI hOM2 h56
        refine wm_iastE d_MM_set1_108 h54 h55 h56 e58 ?_
        refine wm_return d_MM_set1_109 rfl ?_
        exact ⟨rfl, h⟩
      clear h
      have s59 := s47
      refine wm_if_lt (tgt := 86) d_MM_set1_63 rfl (m_cmp32 _ _) (fun c46 => ?_) (fun c46 => ?_)
      · exact hE0 (Or.inl c46)
      · have s59 := s59 c46
        obtain ⟨h38, h39, h40⟩ := s59
        refine wm_aload_n d_MM_set1_66 rfl rfl ?_
        refine gf_MM_63 rfl d_MM_set1_67 h5 ?_
        refine wm_iconst d_MM_set1_70 ?_
        refine wm_lald d_MM_set1_71 h33 h38 ?_
        refine wm_aload_n d_MM_set1_72 rfl rfl ?_
        refine gf_MM_34 rfl d_MM_set1_73 h5 ?_
        refine gf_MM_463 rfl d_MM_set1_76 h15 ?_
        refine wm_iload_n d_MM_set1_79 rfl rfl ?_
        refine wm_iald d_MM_set1_80 h39 h40 ?_
        refine wm_i2l d_MM_set1_81 (hOM2 _ _).1 ?_
        refine wm_lcmp d_MM_set1_82 (hOM2 _ _).2 (i64_of32 (hOM2 _ _).1) ?_
        refine wm_if_le (tgt := 96) d_MM_set1_83 rfl (m_cmp32 _ _) (fun c45 => ?_) (fun c45 => ?_)
        · exact hE1 (fun z60 => Or.elim z60 c46 (fun z61 => z61 c45))
        · exact hE0 (Or.inr c45)
    have hE1 : ¬ ((¬ (mI M2 (mR M2 (mR M2 a0 9) 13) (Int.toNat l1) = 0)) ∨ (cmpL (mL M2 (mR M2 a0 22) 0) 1 = 0)) → mWm G y_MM_set1 (d + 1) 36 [vr a0, vi l1, vi l2, vi l3] [] M2 (fun r9 M9 => r9 = none ∧ Q M9) := by
      intro q62
      have h := h.2 q62
      refine wm_aload_n d_MM_set1_36 rfl rfl ?_
      refine wm_bipush d_MM_set1_37 (by decide) ?_
      refine wm_iload_n d_MM_set1_39 rfl rfl ?_
      refine cf_MM_351 rfl d_MM_set1_40 h5 (Nat.le_of_ble_eq_true rfl) (Cv.mono h (fun M63 h => ?_))
      obtain ⟨hOM63, h⟩ := h
      refine wm_goto (tgt := 109) d_MM_set1_43 rfl ?_
      refine wm_return d_MM_set1_109 rfl ?_
      exact ⟨rfl, h⟩
    clear h
    have s66 := s31
    refine wm_if_ne (tgt := 46) d_MM_set1_22 rfl (hOM2 _ _).1 (fun c30 => ?_) (fun c30 => ?_)
    · exact hE0 (Or.inl c30)
    · replace c30 := Classical.not_not.mp c30
      have s66 := s66 c30
      obtain ⟨h27, h28⟩ := s66
      refine wm_aload_n d_MM_set1_25 rfl rfl ?_
      refine gf_MM_67 rfl d_MM_set1_26 h5 ?_
      refine wm_iconst d_MM_set1_29 ?_
      refine wm_lald d_MM_set1_30 h27 h28 ?_
      refine wm_lconst (x := 1) d_MM_set1_31 rfl ?_
      refine wm_lcmp d_MM_set1_32 (hOM2 _ _).2 ⟨by decide, by decide⟩ ?_
      refine wm_if_eq (tgt := 46) d_MM_set1_33 rfl (m_cmp32 _ _) (fun c29 => ?_) (fun c29 => ?_)
      · exact hE0 (Or.inr c29)
      · exact hE1 (fun z67 => Or.elim z67 (fun w => w c30) c29)
  · replace h := h.2 c14
    refine wm_return d_MM_set1_12 rfl ?_
    exact ⟨rfl, h⟩
end
section
theorem d_MM_stateOf_0 : decode y_MM_stateOf.2.1 0 = .ok (.iconst 0, 1) := dc9_3 (by decide +kernel)
theorem d_MM_stateOf_1 : decode y_MM_stateOf.2.1 1 = .ok (.istore_n 1, 1) := dc9_60 (by decide +kernel)
theorem d_MM_stateOf_2 : decode y_MM_stateOf.2.1 2 = .ok (.iload_n 1, 1) := dc9_27 (by decide +kernel)
theorem d_MM_stateOf_3 : decode y_MM_stateOf.2.1 3 = .ok (.aload_n 0, 1) := dc9_42 (by decide +kernel)
theorem d_MM_stateOf_4 : decode y_MM_stateOf.2.1 4 = .ok (.getfield 532, 3) := dc9_180 (by decide +kernel)
theorem d_MM_stateOf_7 : decode y_MM_stateOf.2.1 7 = .ok (.if_icmp .ge 66, 3) := dc9_162 (by decide +kernel)
theorem d_MM_stateOf_73 : decode y_MM_stateOf.2.1 73 = .ok (.aload_n 0, 1) := dc9_42 (by decide +kernel)
theorem d_MM_stateOf_74 : decode y_MM_stateOf.2.1 74 = .ok (.getfield 532, 3) := dc9_180 (by decide +kernel)
theorem d_MM_stateOf_77 : decode y_MM_stateOf.2.1 77 = .ok (.sipush 512, 3) := dc9_17 (by decide +kernel)
theorem d_MM_stateOf_10 : decode y_MM_stateOf.2.1 10 = .ok (.iconst 1, 1) := dc9_4 (by decide +kernel)
theorem d_MM_stateOf_11 : decode y_MM_stateOf.2.1 11 = .ok (.istore_n 2, 1) := dc9_61 (by decide +kernel)
theorem d_MM_stateOf_12 : decode y_MM_stateOf.2.1 12 = .ok (.iconst 0, 1) := dc9_3 (by decide +kernel)
theorem d_MM_stateOf_13 : decode y_MM_stateOf.2.1 13 = .ok (.istore_n 3, 1) := dc9_62 (by decide +kernel)
theorem d_MM_stateOf_80 : decode y_MM_stateOf.2.1 80 = .ok (.if_icmp .ne 5, 3) := dc9_160 (by decide +kernel)
theorem d_MM_stateOf_83 : decode y_MM_stateOf.2.1 83 = .ok (.iconst (-1), 1) := dc9_2 (by decide +kernel)
theorem d_MM_stateOf_84 : decode y_MM_stateOf.2.1 84 = .ok (.ireturn, 1) := dc9_172 (by decide +kernel)
theorem d_MM_stateOf_85 : decode y_MM_stateOf.2.1 85 = .ok (.iconst 0, 1) := dc9_3 (by decide +kernel)
theorem d_MM_stateOf_86 : decode y_MM_stateOf.2.1 86 = .ok (.istore_n 1, 1) := dc9_60 (by decide +kernel)
theorem d_MM_stateOf_14 : decode y_MM_stateOf.2.1 14 = .ok (.iload_n 3, 1) := dc9_29 (by decide +kernel)
theorem d_MM_stateOf_15 : decode y_MM_stateOf.2.1 15 = .ok (.aload_n 0, 1) := dc9_42 (by decide +kernel)
theorem d_MM_stateOf_16 : decode y_MM_stateOf.2.1 16 = .ok (.getfield 34, 3) := dc9_180 (by decide +kernel)
theorem d_MM_stateOf_19 : decode y_MM_stateOf.2.1 19 = .ok (.getfield 456, 3) := dc9_180 (by decide +kernel)
theorem d_MM_stateOf_22 : decode y_MM_stateOf.2.1 22 = .ok (.if_icmp .ge 39, 3) := dc9_162 (by decide +kernel)
theorem d_MM_stateOf_25 : decode y_MM_stateOf.2.1 25 = .ok (.iload_n 2, 1) := dc9_28 (by decide +kernel)
theorem d_MM_stateOf_26 : decode y_MM_stateOf.2.1 26 = .ok (.ifCond .eq 35, 3) := dc9_153 (by decide +kernel)
theorem d_MM_stateOf_29 : decode y_MM_stateOf.2.1 29 = .ok (.aload_n 0, 1) := dc9_42 (by decide +kernel)
theorem d_MM_stateOf_30 : decode y_MM_stateOf.2.1 30 = .ok (.getfield 90, 3) := dc9_180 (by decide +kernel)
theorem d_MM_stateOf_33 : decode y_MM_stateOf.2.1 33 = .ok (.bipush 12, 2) := dc9_16 (by decide +kernel)
theorem d_MM_stateOf_35 : decode y_MM_stateOf.2.1 35 = .ok (.iload_n 1, 1) := dc9_27 (by decide +kernel)
theorem d_MM_stateOf_36 : decode y_MM_stateOf.2.1 36 = .ok (.imul, 1) := dc9_104 (by decide +kernel)
theorem d_MM_stateOf_37 : decode y_MM_stateOf.2.1 37 = .ok (.iload_n 3, 1) := dc9_29 (by decide +kernel)
theorem d_MM_stateOf_38 : decode y_MM_stateOf.2.1 38 = .ok (.iadd, 1) := dc9_96 (by decide +kernel)
theorem d_MM_stateOf_39 : decode y_MM_stateOf.2.1 39 = .ok (.iaload, 1) := dc9_46 (by decide +kernel)
theorem d_MM_stateOf_40 : decode y_MM_stateOf.2.1 40 = .ok (.aload_n 0, 1) := dc9_42 (by decide +kernel)
theorem d_MM_stateOf_41 : decode y_MM_stateOf.2.1 41 = .ok (.getfield 130, 3) := dc9_180 (by decide +kernel)
theorem d_MM_stateOf_44 : decode y_MM_stateOf.2.1 44 = .ok (.iload_n 3, 1) := dc9_29 (by decide +kernel)
theorem d_MM_stateOf_45 : decode y_MM_stateOf.2.1 45 = .ok (.iaload, 1) := dc9_46 (by decide +kernel)
theorem d_MM_stateOf_46 : decode y_MM_stateOf.2.1 46 = .ok (.if_icmp .ne 7, 3) := dc9_160 (by decide +kernel)
theorem d_MM_stateOf_49 : decode y_MM_stateOf.2.1 49 = .ok (.iconst 1, 1) := dc9_4 (by decide +kernel)
theorem d_MM_stateOf_50 : decode y_MM_stateOf.2.1 50 = .ok (.goto 4, 3) := dc9_167 (by decide +kernel)
theorem d_MM_stateOf_54 : decode y_MM_stateOf.2.1 54 = .ok (.istore_n 2, 1) := dc9_61 (by decide +kernel)
theorem d_MM_stateOf_55 : decode y_MM_stateOf.2.1 55 = .ok (.iinc 3 1, 3) := by decide +kernel
theorem d_MM_stateOf_58 : decode y_MM_stateOf.2.1 58 = .ok (.goto (-44), 3) := dc9_167 (by decide +kernel)
theorem d_MM_stateOf_53 : decode y_MM_stateOf.2.1 53 = .ok (.iconst 0, 1) := dc9_3 (by decide +kernel)
theorem d_MM_stateOf_61 : decode y_MM_stateOf.2.1 61 = .ok (.iload_n 2, 1) := dc9_28 (by decide +kernel)
theorem d_MM_stateOf_62 : decode y_MM_stateOf.2.1 62 = .ok (.ifCond .eq 5, 3) := dc9_153 (by decide +kernel)
theorem d_MM_stateOf_67 : decode y_MM_stateOf.2.1 67 = .ok (.iinc 1 1, 3) := by decide +kernel
theorem d_MM_stateOf_70 : decode y_MM_stateOf.2.1 70 = .ok (.goto (-68), 3) := dc9_167 (by decide +kernel)
theorem d_MM_stateOf_65 : decode y_MM_stateOf.2.1 65 = .ok (.iload_n 1, 1) := dc9_27 (by decide +kernel)
theorem d_MM_stateOf_66 : decode y_MM_stateOf.2.1 66 = .ok (.ireturn, 1) := dc9_172 (by decide +kernel)
theorem d_MM_stateOf_87 : decode y_MM_stateOf.2.1 87 = .ok (.iload_n 1, 1) := dc9_27 (by decide +kernel)
theorem d_MM_stateOf_88 : decode y_MM_stateOf.2.1 88 = .ok (.aload_n 0, 1) := dc9_42 (by decide +kernel)
theorem d_MM_stateOf_89 : decode y_MM_stateOf.2.1 89 = .ok (.getfield 34, 3) := dc9_180 (by decide +kernel)
theorem d_MM_stateOf_92 : decode y_MM_stateOf.2.1 92 = .ok (.getfield 456, 3) := dc9_180 (by decide +kernel)
theorem d_MM_stateOf_95 : decode y_MM_stateOf.2.1 95 = .ok (.if_icmp .ge 29, 3) := dc9_162 (by decide +kernel)
theorem d_MM_stateOf_124 : decode y_MM_stateOf.2.1 124 = .ok (.aload_n 0, 1) := dc9_42 (by decide +kernel)
theorem d_MM_stateOf_125 : decode y_MM_stateOf.2.1 125 = .ok (.aload_n 0, 1) := dc9_42 (by decide +kernel)
theorem d_MM_stateOf_126 : decode y_MM_stateOf.2.1 126 = .ok (.getfield 532, 3) := dc9_180 (by decide +kernel)
theorem d_MM_stateOf_129 : decode y_MM_stateOf.2.1 129 = .ok (.iconst 1, 1) := dc9_4 (by decide +kernel)
theorem d_MM_stateOf_130 : decode y_MM_stateOf.2.1 130 = .ok (.iadd, 1) := dc9_96 (by decide +kernel)
theorem d_MM_stateOf_131 : decode y_MM_stateOf.2.1 131 = .ok (.putfield 532, 3) := dc9_181 (by decide +kernel)
theorem d_MM_stateOf_134 : decode y_MM_stateOf.2.1 134 = .ok (.aload_n 0, 1) := dc9_42 (by decide +kernel)
theorem d_MM_stateOf_135 : decode y_MM_stateOf.2.1 135 = .ok (.getfield 532, 3) := dc9_180 (by decide +kernel)
theorem d_MM_stateOf_138 : decode y_MM_stateOf.2.1 138 = .ok (.iconst 1, 1) := dc9_4 (by decide +kernel)
theorem d_MM_stateOf_139 : decode y_MM_stateOf.2.1 139 = .ok (.isub, 1) := dc9_100 (by decide +kernel)
theorem d_MM_stateOf_140 : decode y_MM_stateOf.2.1 140 = .ok (.ireturn, 1) := dc9_172 (by decide +kernel)
theorem d_MM_stateOf_98 : decode y_MM_stateOf.2.1 98 = .ok (.aload_n 0, 1) := dc9_42 (by decide +kernel)
theorem d_MM_stateOf_99 : decode y_MM_stateOf.2.1 99 = .ok (.getfield 90, 3) := dc9_180 (by decide +kernel)
theorem d_MM_stateOf_102 : decode y_MM_stateOf.2.1 102 = .ok (.bipush 12, 2) := dc9_16 (by decide +kernel)
theorem d_MM_stateOf_104 : decode y_MM_stateOf.2.1 104 = .ok (.aload_n 0, 1) := dc9_42 (by decide +kernel)
theorem d_MM_stateOf_105 : decode y_MM_stateOf.2.1 105 = .ok (.getfield 532, 3) := dc9_180 (by decide +kernel)
theorem d_MM_stateOf_108 : decode y_MM_stateOf.2.1 108 = .ok (.imul, 1) := dc9_104 (by decide +kernel)
theorem d_MM_stateOf_109 : decode y_MM_stateOf.2.1 109 = .ok (.iload_n 1, 1) := dc9_27 (by decide +kernel)
theorem d_MM_stateOf_110 : decode y_MM_stateOf.2.1 110 = .ok (.iadd, 1) := dc9_96 (by decide +kernel)
theorem d_MM_stateOf_111 : decode y_MM_stateOf.2.1 111 = .ok (.aload_n 0, 1) := dc9_42 (by decide +kernel)
theorem d_MM_stateOf_112 : decode y_MM_stateOf.2.1 112 = .ok (.getfield 130, 3) := dc9_180 (by decide +kernel)
theorem d_MM_stateOf_115 : decode y_MM_stateOf.2.1 115 = .ok (.iload_n 1, 1) := dc9_27 (by decide +kernel)
theorem d_MM_stateOf_116 : decode y_MM_stateOf.2.1 116 = .ok (.iaload, 1) := dc9_46 (by decide +kernel)
theorem d_MM_stateOf_117 : decode y_MM_stateOf.2.1 117 = .ok (.iastore, 1) := dc9_79 (by decide +kernel)
theorem d_MM_stateOf_118 : decode y_MM_stateOf.2.1 118 = .ok (.iinc 1 1, 3) := by decide +kernel
theorem d_MM_stateOf_121 : decode y_MM_stateOf.2.1 121 = .ok (.goto (-34), 3) := dc9_167 (by decide +kernel)
def h_MM_stateOf_2 (G : mG) (d : Nat) (a0 : Nat) (l1 : Int) (M : mM) (Q : Int → mM → Prop) : Prop := mWm G y_MM_stateOf d 2 [vr a0, vi l1, vd, vd] [] M (fun r9 M9 => ∃ x9, r9 = some (vi x9) ∧ Q x9 M9)
def h_MM_stateOf_14 (G : mG) (d : Nat) (a0 : Nat) (l1 : Int) (l2 : Int) (l3 : Int) (M : mM) (Q : Int → mM → Prop) : Prop := mWm G y_MM_stateOf d 14 [vr a0, vi l1, vi l2, vi l3] [] M (fun r9 M9 => ∃ x9, r9 = some (vi x9) ∧ Q x9 M9)
def h_MM_stateOf_87 (G : mG) (d : Nat) (a0 : Nat) (l1 : Int) (M : mM) (Q : Int → mM → Prop) : Prop := mWm G y_MM_stateOf d 87 [vr a0, vi l1, vd, vd] [] M (fun r9 M9 => ∃ x9, r9 = some (vi x9) ∧ Q x9 M9)
theorem k_MM_stateOf {G : mG} {d : Nat} {a0 : Nat} {M : mM} {Q : Int → mM → Prop} (hO : mOk M)
    (h : h_MM_stateOf_2 G d a0 0 M Q) :
    Ci G y_MM_stateOf d [vr a0] M Q := by
  refine wm_open (y := y_MM_stateOf) rfl (Nat.le_of_ble_eq_true rfl) (L := [vr a0, vd, vd, vd]) rfl ?_
  refine wm_iconst d_MM_stateOf_0 ?_
  refine wm_istore_n d_MM_stateOf_1 rfl (by decide) (L' := [vr a0, vi 0, vd, vd]) rfl ?_
  exact h
theorem k_MM_stateOf_2 {G : mG} {d : Nat} {a0 : Nat} {l1 : Int} {M : mM} {Q : Int → mM → Prop} (hO : mOk M) (hi_l1 : i32 l1)
    (h : mK M a0 = 14 ∧ ((mI M a0 29 ≤ l1) → (((mI M a0 29 = 512) → (Q (-1) M)) ∧ (¬ (mI M a0 29 = 512) → (h_MM_stateOf_87 G d a0 0 M Q)))) ∧ (¬ (mI M a0 29 ≤ l1) → (h_MM_stateOf_14 G d a0 l1 1 0 M Q))) :
    h_MM_stateOf_2 G d a0 l1 M Q := by
  unfold h_MM_stateOf_2
  obtain ⟨h1, h⟩ := h
  refine wm_iload_n d_MM_stateOf_2 rfl rfl ?_
  refine wm_aload_n d_MM_stateOf_3 rfl rfl ?_
  refine gf_MM_532 rfl d_MM_stateOf_4 h1 ?_
  refine wm_icmp_ge (tgt := 73) d_MM_stateOf_7 rfl hi_l1 (hO _ _).1 (fun c4 => ?_) (fun c4 => ?_)
  · replace h := h.1 c4
    refine wm_aload_n d_MM_stateOf_73 rfl rfl ?_
    refine gf_MM_532 rfl d_MM_stateOf_74 h1 ?_
    refine wm_sipush d_MM_stateOf_77 (by decide) ?_
    refine wm_icmp_ne (tgt := 85) d_MM_stateOf_80 rfl (hO _ _).1 ⟨by decide, by decide⟩ (fun c6 => ?_) (fun c6 => ?_)
    · replace h := h.2 c6
      refine wm_iconst d_MM_stateOf_85 ?_
      refine wm_istore_n d_MM_stateOf_86 rfl (by decide) (L' := [vr a0, vi 0, vd, vd]) rfl ?_
      exact h
    · replace c6 := Classical.not_not.mp c6
      replace h := h.1 c6
      refine wm_iconst d_MM_stateOf_83 ?_
      refine wm_ireturn d_MM_stateOf_84 rfl rfl ?_
      exact ⟨_, rfl, h⟩
  · replace h := h.2 c4
    refine wm_iconst d_MM_stateOf_10 ?_
    refine wm_istore_n d_MM_stateOf_11 rfl (by decide) (L' := [vr a0, vi l1, vi 1, vd]) rfl ?_
    refine wm_iconst d_MM_stateOf_12 ?_
    refine wm_istore_n d_MM_stateOf_13 rfl (by decide) (L' := [vr a0, vi l1, vi 1, vi 0]) rfl ?_
    exact h
theorem k_MM_stateOf_14 {G : mG} {d : Nat} {a0 : Nat} {l1 : Int} {l2 : Int} {l3 : Int} {M : mM} {Q : Int → mM → Prop} (hO : mOk M) (hi_l1 : i32 l1) (hi_l2 : i32 l2) (hi_l3 : i32 l3)
    (h : mK M a0 = 14 ∧ mK M (mR M a0 9) = 16 ∧ (((mI M (mR M a0 9) 12 ≤ l3) ∨ (l2 = 0)) → (((l2 = 0) → (h_MM_stateOf_2 G d a0 (l1 + 1) M Q)) ∧ (¬ (l2 = 0) → (Q l1 M)))) ∧ (¬ ((mI M (mR M a0 9) 12 ≤ l3) ∨ (l2 = 0)) → (mK M (mR M a0 31) = 30 ∧ ((0 : Int) ≤ (12 * l1) + l3 ∧ (12 * l1) + l3 < (mN M (mR M a0 31) : Int)) ∧ mK M (mR M a0 44) = 30 ∧ ((0 : Int) ≤ l3 ∧ l3 < (mN M (mR M a0 44) : Int)) ∧ ∀ v26 : Int, v26 = (if (mI M (mR M a0 31) (Int.toNat ((12 * l1) + l3)) = mI M (mR M a0 44) (Int.toNat l3)) then 1 else 0) → h_MM_stateOf_14 G d a0 l1 v26 (l3 + 1) M Q))) :
    h_MM_stateOf_14 G d a0 l1 l2 l3 M Q := by
  unfold h_MM_stateOf_14
  obtain ⟨h7, h⟩ := h
  obtain ⟨h8, h⟩ := h
  refine wm_iload_n d_MM_stateOf_14 rfl rfl ?_
  refine wm_aload_n d_MM_stateOf_15 rfl rfl ?_
  refine gf_MM_34 rfl d_MM_stateOf_16 h7 ?_
  refine gf_MM_456 rfl d_MM_stateOf_19 h8 ?_
  have hE0 : ((mI M (mR M a0 9) 12 ≤ l3) ∨ (l2 = 0)) → mWm G y_MM_stateOf d 61 [vr a0, vi l1, vi l2, vi l3] [] M (fun r9 M9 => ∃ x9, r9 = some (vi x9) ∧ Q x9 M9) := by
    intro q17
    have h := h.1 q17
    refine wm_iload_n d_MM_stateOf_61 rfl rfl ?_
    refine wm_if_eq (tgt := 67) d_MM_stateOf_62 rfl hi_l2 (fun c19 => ?_) (fun c19 => ?_)
    · replace h := h.1 c19
      refine wm_iinc d_MM_stateOf_67 (by decide) rfl (L' := [vr a0, vi (l1 + 1), vi l2, vi l3]) rfl ?_
      refine wm_goto (tgt := 2) d_MM_stateOf_70 rfl ?_
      refine wm_less (L' := [vr a0, vi (l1 + 1), vd, vd]) ⟨Or.inr rfl, Or.inr rfl, Or.inl rfl, Or.inl rfl, trivial⟩ ?_
      exact h
    · replace h := h.2 c19
      refine wm_iload_n d_MM_stateOf_65 rfl rfl ?_
      refine wm_ireturn d_MM_stateOf_66 rfl rfl ?_
      exact ⟨_, rfl, h⟩
  have hE1 : ¬ ((mI M (mR M a0 9) 12 ≤ l3) ∨ (l2 = 0)) → mWm G y_MM_stateOf d 29 [vr a0, vi l1, vi l2, vi l3] [] M (fun r9 M9 => ∃ x9, r9 = some (vi x9) ∧ Q x9 M9) := by
    intro q20
    have h := h.2 q20
    obtain ⟨h21, h⟩ := h
    obtain ⟨h22, h⟩ := h
    obtain ⟨h23, h⟩ := h
    obtain ⟨h24, h⟩ := h
    refine wm_aload_n d_MM_stateOf_29 rfl rfl ?_
    refine gf_MM_90 rfl d_MM_stateOf_30 h7 ?_
    refine wm_bipush d_MM_stateOf_33 (by decide) ?_
    refine wm_iload_n d_MM_stateOf_35 rfl rfl ?_
    refine wm_imul d_MM_stateOf_36 ?_
    refine wm_iload_n d_MM_stateOf_37 rfl rfl ?_
    refine wm_iadd d_MM_stateOf_38 ?_
    refine wm_iald d_MM_stateOf_39 h21 h22 ?_
    refine wm_aload_n d_MM_stateOf_40 rfl rfl ?_
    refine gf_MM_130 rfl d_MM_stateOf_41 h7 ?_
    refine wm_iload_n d_MM_stateOf_44 rfl rfl ?_
    refine wm_iald d_MM_stateOf_45 h23 h24 ?_
    have hJ : ∀ v26 : Int, v26 = (if (mI M (mR M a0 31) (Int.toNat ((12 * l1) + l3)) = mI M (mR M a0 44) (Int.toNat l3)) then 1 else 0) → mWm G y_MM_stateOf d 54 [vr a0, vi l1, vd, vi l3] [vi v26] M (fun r9 M9 => ∃ x9, r9 = some (vi x9) ∧ Q x9 M9) := by
      intro v26 e28
      have h := h v26 e28
      have h29 : i32 v26 := by rw [e28]; (repeat' split) <;> first | exact ⟨by decide, by decide⟩ | exact ⟨by decide, by decide⟩
      have h30 : (v26 = 0 ∨ v26 = 1) := by rw [e28]; (repeat' split) <;> decide
      refine wm_istore_n d_MM_stateOf_54 rfl (by decide) (L' := [vr a0, vi l1, vi v26, vi l3]) rfl ?_
      refine wm_iinc d_MM_stateOf_55 (by decide) rfl (L' := [vr a0, vi l1, vi v26, vi (l3 + 1)]) rfl ?_
      refine wm_goto (tgt := 14) d_MM_stateOf_58 rfl ?_
      exact h
    clear h
    refine wm_icmp_ne (tgt := 53) d_MM_stateOf_46 rfl (hO _ _).1 (hO _ _).1 (fun c25 => ?_) (fun c25 => ?_)
    · refine wm_iconst d_MM_stateOf_53 ?_
      refine wm_less (L' := [vr a0, vi l1, vd, vi l3]) ⟨Or.inr rfl, Or.inr rfl, Or.inl rfl, Or.inr rfl, trivial⟩ ?_
      exact hJ 0 (if_neg c25).symm
    · replace c25 := Classical.not_not.mp c25
      refine wm_iconst d_MM_stateOf_49 ?_
      refine wm_goto (tgt := 54) d_MM_stateOf_50 rfl ?_
      refine wm_less (L' := [vr a0, vi l1, vd, vi l3]) ⟨Or.inr rfl, Or.inr rfl, Or.inl rfl, Or.inr rfl, trivial⟩ ?_
      exact hJ 1 (if_pos c25).symm
  clear h
  refine wm_icmp_ge (tgt := 61) d_MM_stateOf_22 rfl hi_l3 (hO _ _).1 (fun c15 => ?_) (fun c15 => ?_)
  · exact hE0 (Or.inl c15)
  · refine wm_iload_n d_MM_stateOf_25 rfl rfl ?_
    refine wm_if_eq (tgt := 61) d_MM_stateOf_26 rfl hi_l2 (fun c14 => ?_) (fun c14 => ?_)
    · exact hE0 (Or.inr c14)
    · exact hE1 (fun z32 => Or.elim z32 c15 c14)
theorem k_MM_stateOf_87 {G : mG} {d : Nat} {a0 : Nat} {l1 : Int} {M : mM} {Q : Int → mM → Prop} (hO : mOk M) (hi_l1 : i32 l1)
    (h : mK M a0 = 14 ∧ mK M (mR M a0 9) = 16 ∧ ((mI M (mR M a0 9) 12 ≤ l1) → (i32 ((mI M a0 29) + 1) ∧ ∀ M44, M44 = mUI M a0 29 ((mI M a0 29) + 1) → Q ((mI M44 a0 29) - 1) M44)) ∧ (¬ (mI M (mR M a0 9) 12 ≤ l1) → (mK M (mR M a0 44) = 30 ∧ ((0 : Int) ≤ l1 ∧ l1 < (mN M (mR M a0 44) : Int)) ∧ mK M (mR M a0 31) = 30 ∧ ((0 : Int) ≤ (12 * (mI M a0 29)) + l1 ∧ (12 * (mI M a0 29)) + l1 < (mN M (mR M a0 31) : Int)) ∧ ∀ M50, M50 = mUI M (mR M a0 31) (Int.toNat ((12 * (mI M a0 29)) + l1)) (mI M (mR M a0 44) (Int.toNat l1)) → h_MM_stateOf_87 G d a0 (l1 + 1) M50 Q))) :
    h_MM_stateOf_87 G d a0 l1 M Q := by
  unfold h_MM_stateOf_87
  obtain ⟨h34, h⟩ := h
  obtain ⟨h35, h⟩ := h
  refine wm_iload_n d_MM_stateOf_87 rfl rfl ?_
  refine wm_aload_n d_MM_stateOf_88 rfl rfl ?_
  refine gf_MM_34 rfl d_MM_stateOf_89 h34 ?_
  refine gf_MM_456 rfl d_MM_stateOf_92 h35 ?_
  refine wm_icmp_ge (tgt := 124) d_MM_stateOf_95 rfl hi_l1 (hO _ _).1 (fun c42 => ?_) (fun c42 => ?_)
  · replace h := h.1 c42
    obtain ⟨h43, h⟩ := h
    obtain ⟨M44, e45⟩ : ∃ M44, M44 = mUI M a0 29 ((mI M a0 29) + 1) := ⟨_, rfl⟩
    replace h := h M44 e45
    refine wm_aload_n d_MM_stateOf_124 rfl rfl ?_
    refine wm_aload_n d_MM_stateOf_125 rfl rfl ?_
    refine gf_MM_532 rfl d_MM_stateOf_126 h34 ?_
    refine wm_iconst d_MM_stateOf_129 ?_
    refine wm_iadd d_MM_stateOf_130 ?_
    have hOM44 : mOk M44 := by rw [e45]; exact mOk_UI hO h43
    refine pf_MM_532 rfl d_MM_stateOf_131 h34 h43 e45 ?_
    refine wm_aload_n d_MM_stateOf_134 rfl rfl ?_
    refine gf_MM_532 rfl d_MM_stateOf_135 (by rw [e45]; exact h34) ?_
    refine wm_iconst d_MM_stateOf_138 ?_
    refine wm_isub d_MM_stateOf_139 ?_
    refine wm_ireturn d_MM_stateOf_140 rfl rfl ?_
    exact ⟨_, rfl, h⟩
  · replace h := h.2 c42
    obtain ⟨h46, h⟩ := h
    obtain ⟨h47, h⟩ := h
    obtain ⟨h48, h⟩ := h
    obtain ⟨h49, h⟩ := h
    obtain ⟨M50, e51⟩ : ∃ M50, M50 = mUI M (mR M a0 31) (Int.toNat ((12 * (mI M a0 29)) + l1)) (mI M (mR M a0 44) (Int.toNat l1)) := ⟨_, rfl⟩
    replace h := h M50 e51
    refine wm_aload_n d_MM_stateOf_98 rfl rfl ?_
    refine gf_MM_90 rfl d_MM_stateOf_99 h34 ?_
    refine wm_bipush d_MM_stateOf_102 (by decide) ?_
    refine wm_aload_n d_MM_stateOf_104 rfl rfl ?_
    refine gf_MM_532 rfl d_MM_stateOf_105 h34 ?_
    refine wm_imul d_MM_stateOf_108 ?_
    refine wm_iload_n d_MM_stateOf_109 rfl rfl ?_
    refine wm_iadd d_MM_stateOf_110 ?_
    refine wm_aload_n d_MM_stateOf_111 rfl rfl ?_
    refine gf_MM_130 rfl d_MM_stateOf_112 h34 ?_
    refine wm_iload_n d_MM_stateOf_115 rfl rfl ?_
    refine wm_iald d_MM_stateOf_116 h46 h47 ?_
    have hOM50 : mOk M50 := by rw [e51]; exact mOk_UI hO (hO _ _).1
    refine wm_iastE d_MM_stateOf_117 h48 h49 (hO _ _).1 e51 ?_
    refine wm_iinc d_MM_stateOf_118 (by decide) rfl (L' := [vr a0, vi (l1 + 1), vd, vd]) rfl ?_
    refine wm_goto (tgt := 87) d_MM_stateOf_121 rfl ?_
    exact h
theorem d_MM_state1_0 : decode y_MM_state1.2.1 0 = .ok (.aload_n 0, 1) := dc9_42 (by decide +kernel)
theorem d_MM_state1_1 : decode y_MM_state1.2.1 1 = .ok (.iconst 0, 1) := dc9_3 (by decide +kernel)
theorem d_MM_state1_2 : decode y_MM_state1.2.1 2 = .ok (.putfield 142, 3) := dc9_181 (by decide +kernel)
theorem d_MM_state1_5 : decode y_MM_state1.2.1 5 = .ok (.aload_n 0, 1) := dc9_42 (by decide +kernel)
theorem d_MM_state1_6 : decode y_MM_state1.2.1 6 = .ok (.getfield 87, 3) := dc9_180 (by decide +kernel)
theorem d_MM_state1_9 : decode y_MM_state1.2.1 9 = .ok (.ireturn, 1) := dc9_172 (by decide +kernel)
theorem k_MM_state1 {G : mG} {d : Nat} {a0 : Nat} {M : mM} {Q : Int → mM → Prop} (hO : mOk M)
    (h : mK M a0 = 14 ∧ ∀ M2, M2 = mUI M a0 0 0 → Q (mI M2 a0 30) M2) :
    Ci G y_MM_state1 d [vr a0] M Q := by
  refine wm_open (y := y_MM_state1) rfl (Nat.le_of_ble_eq_true rfl) (L := [vr a0]) rfl ?_
  obtain ⟨h1, h⟩ := h
  obtain ⟨M2, e3⟩ : ∃ M2, M2 = mUI M a0 0 0 := ⟨_, rfl⟩
  replace h := h M2 e3
  refine wm_aload_n d_MM_state1_0 rfl rfl ?_
  refine wm_iconst d_MM_state1_1 ?_
  have hOM2 : mOk M2 := by rw [e3]; exact mOk_UI hO ⟨by decide, by decide⟩
  refine pf_MM_142 rfl d_MM_state1_2 h1 ⟨by decide, by decide⟩ e3 ?_
  refine wm_aload_n d_MM_state1_5 rfl rfl ?_
  refine gf_MM_87 rfl d_MM_state1_6 (by rw [e3]; exact h1) ?_
  refine wm_ireturn d_MM_state1_9 rfl rfl ?_
  exact ⟨_, rfl, h⟩
theorem d_MM_states_0 : decode y_MM_states.2.1 0 = .ok (.aload_n 0, 1) := dc9_42 (by decide +kernel)
theorem d_MM_states_1 : decode y_MM_states.2.1 1 = .ok (.iconst 0, 1) := dc9_3 (by decide +kernel)
theorem d_MM_states_2 : decode y_MM_states.2.1 2 = .ok (.putfield 142, 3) := dc9_181 (by decide +kernel)
theorem d_MM_states_5 : decode y_MM_states.2.1 5 = .ok (.aload_n 0, 1) := dc9_42 (by decide +kernel)
theorem d_MM_states_6 : decode y_MM_states.2.1 6 = .ok (.getfield 532, 3) := dc9_180 (by decide +kernel)
theorem d_MM_states_9 : decode y_MM_states.2.1 9 = .ok (.ireturn, 1) := dc9_172 (by decide +kernel)
theorem k_MM_states {G : mG} {d : Nat} {a0 : Nat} {M : mM} {Q : Int → mM → Prop} (hO : mOk M)
    (h : mK M a0 = 14 ∧ ∀ M2, M2 = mUI M a0 0 0 → Q (mI M2 a0 29) M2) :
    Ci G y_MM_states d [vr a0] M Q := by
  refine wm_open (y := y_MM_states) rfl (Nat.le_of_ble_eq_true rfl) (L := [vr a0]) rfl ?_
  obtain ⟨h1, h⟩ := h
  obtain ⟨M2, e3⟩ : ∃ M2, M2 = mUI M a0 0 0 := ⟨_, rfl⟩
  replace h := h M2 e3
  refine wm_aload_n d_MM_states_0 rfl rfl ?_
  refine wm_iconst d_MM_states_1 ?_
  have hOM2 : mOk M2 := by rw [e3]; exact mOk_UI hO ⟨by decide, by decide⟩
  refine pf_MM_142 rfl d_MM_states_2 h1 ⟨by decide, by decide⟩ e3 ?_
  refine wm_aload_n d_MM_states_5 rfl rfl ?_
  refine gf_MM_532 rfl d_MM_states_6 (by rw [e3]; exact h1) ?_
  refine wm_ireturn d_MM_states_9 rfl rfl ?_
  exact ⟨_, rfl, h⟩
theorem d_MM_variable_0 : decode y_MM_variable.2.1 0 = .ok (.aload_n 0, 1) := dc9_42 (by decide +kernel)
theorem d_MM_variable_1 : decode y_MM_variable.2.1 1 = .ok (.iload_n 1, 1) := dc9_27 (by decide +kernel)
theorem d_MM_variable_2 : decode y_MM_variable.2.1 2 = .ok (.ifCond .lt 26, 3) := dc9_155 (by decide +kernel)
theorem d_MM_variable_28 : decode y_MM_variable.2.1 28 = .ok (.iconst 1, 1) := dc9_4 (by decide +kernel)
theorem d_MM_variable_29 : decode y_MM_variable.2.1 29 = .ok (.goto 4, 3) := dc9_167 (by decide +kernel)
theorem d_MM_variable_5 : decode y_MM_variable.2.1 5 = .ok (.iload_n 1, 1) := dc9_27 (by decide +kernel)
theorem d_MM_variable_6 : decode y_MM_variable.2.1 6 = .ok (.aload_n 0, 1) := dc9_42 (by decide +kernel)
theorem d_MM_variable_7 : decode y_MM_variable.2.1 7 = .ok (.getfield 532, 3) := dc9_180 (by decide +kernel)
theorem d_MM_variable_10 : decode y_MM_variable.2.1 10 = .ok (.if_icmp .ge 18, 3) := dc9_162 (by decide +kernel)
theorem d_MM_variable_13 : decode y_MM_variable.2.1 13 = .ok (.iload_n 2, 1) := dc9_28 (by decide +kernel)
theorem d_MM_variable_14 : decode y_MM_variable.2.1 14 = .ok (.ifCond .lt 14, 3) := dc9_155 (by decide +kernel)
theorem d_MM_variable_17 : decode y_MM_variable.2.1 17 = .ok (.iload_n 2, 1) := dc9_28 (by decide +kernel)
theorem d_MM_variable_18 : decode y_MM_variable.2.1 18 = .ok (.aload_n 0, 1) := dc9_42 (by decide +kernel)
theorem d_MM_variable_19 : decode y_MM_variable.2.1 19 = .ok (.getfield 34, 3) := dc9_180 (by decide +kernel)
theorem d_MM_variable_22 : decode y_MM_variable.2.1 22 = .ok (.getfield 456, 3) := dc9_180 (by decide +kernel)
theorem d_MM_variable_25 : decode y_MM_variable.2.1 25 = .ok (.if_icmp .lt 7, 3) := dc9_161 (by decide +kernel)
theorem d_MM_variable_32 : decode y_MM_variable.2.1 32 = .ok (.iconst 0, 1) := dc9_3 (by decide +kernel)
theorem d_MM_variable_33 : decode y_MM_variable.2.1 33 = .ok (.putfield 142, 3) := dc9_181 (by decide +kernel)
theorem d_MM_variable_36 : decode y_MM_variable.2.1 36 = .ok (.aload_n 0, 1) := dc9_42 (by decide +kernel)
theorem d_MM_variable_37 : decode y_MM_variable.2.1 37 = .ok (.getfield 142, 3) := dc9_180 (by decide +kernel)
theorem d_MM_variable_40 : decode y_MM_variable.2.1 40 = .ok (.ifCond .le 7, 3) := dc9_158 (by decide +kernel)
theorem d_MM_variable_47 : decode y_MM_variable.2.1 47 = .ok (.aload_n 0, 1) := dc9_42 (by decide +kernel)
theorem d_MM_variable_48 : decode y_MM_variable.2.1 48 = .ok (.getfield 90, 3) := dc9_180 (by decide +kernel)
theorem d_MM_variable_51 : decode y_MM_variable.2.1 51 = .ok (.bipush 12, 2) := dc9_16 (by decide +kernel)
theorem d_MM_variable_53 : decode y_MM_variable.2.1 53 = .ok (.iload_n 1, 1) := dc9_27 (by decide +kernel)
theorem d_MM_variable_54 : decode y_MM_variable.2.1 54 = .ok (.imul, 1) := dc9_104 (by decide +kernel)
theorem d_MM_variable_55 : decode y_MM_variable.2.1 55 = .ok (.iload_n 2, 1) := dc9_28 (by decide +kernel)
theorem d_MM_variable_56 : decode y_MM_variable.2.1 56 = .ok (.iadd, 1) := dc9_96 (by decide +kernel)
theorem d_MM_variable_57 : decode y_MM_variable.2.1 57 = .ok (.iaload, 1) := dc9_46 (by decide +kernel)
theorem d_MM_variable_43 : decode y_MM_variable.2.1 43 = .ok (.iconst 0, 1) := dc9_3 (by decide +kernel)
theorem d_MM_variable_44 : decode y_MM_variable.2.1 44 = .ok (.goto 14, 3) := dc9_167 (by decide +kernel)
theorem d_MM_variable_58 : decode y_MM_variable.2.1 58 = .ok (.ireturn, 1) := dc9_172 (by decide +kernel)
theorem k_MM_variable {G : mG} {d : Nat} {a0 : Nat} {l1 : Int} {l2 : Int} {M : mM} {Q : Int → mM → Prop} (hO : mOk M) (hi_l1 : i32 l1) (hi_l2 : i32 l2)
    (h : (¬ (l1 < 0) → (mK M a0 = 14 ∧ (¬ (mI M a0 29 ≤ l1) → (¬ (l2 < 0) → mK M (mR M a0 9) = 16)))) ∧ ∀ v7 : Int, v7 = (if ((l1 < 0) ∨ ((mI M a0 29 ≤ l1) ∨ ((l2 < 0) ∨ (¬ (l2 < mI M (mR M a0 9) 12))))) then 1 else 0) → mK M a0 = 14 ∧ ∀ M13, M13 = mUI M a0 0 v7 → ((mI M13 a0 0 ≤ 0) → (mK M13 (mR M13 a0 31) = 30 ∧ ((0 : Int) ≤ (12 * l1) + l2 ∧ (12 * l1) + l2 < (mN M13 (mR M13 a0 31) : Int)))) ∧ ∀ v18 : Int, v18 = (if (mI M13 a0 0 ≤ 0) then mI M13 (mR M13 a0 31) (Int.toNat ((12 * l1) + l2)) else 0) → Q v18 M13) :
    Ci G y_MM_variable d [vr a0, vi l1, vi l2] M Q := by
  refine wm_open (y := y_MM_variable) rfl (Nat.le_of_ble_eq_true rfl) (L := [vr a0, vi l1, vi l2]) rfl ?_
  refine wm_aload_n d_MM_variable_0 rfl rfl ?_
  refine wm_iload_n d_MM_variable_1 rfl rfl ?_
  obtain ⟨s8, h⟩ := h
  have hJ : ∀ v7 : Int, v7 = (if ((l1 < 0) ∨ ((mI M a0 29 ≤ l1) ∨ ((l2 < 0) ∨ (¬ (l2 < mI M (mR M a0 9) 12))))) then 1 else 0) → mWm G y_MM_variable d 33 [vr a0, vi l1, vi l2] [vi v7, vr a0] M (fun r9 M9 => ∃ x9, r9 = some (vi x9) ∧ Q x9 M9) := by
    intro v7 e9
    have h := h v7 e9
    have h10 : i32 v7 := by rw [e9]; (repeat' split) <;> first | exact ⟨by decide, by decide⟩ | exact ⟨by decide, by decide⟩
    have h11 : (v7 = 0 ∨ v7 = 1) := by rw [e9]; (repeat' split) <;> decide
    obtain ⟨h12, h⟩ := h
    obtain ⟨M13, e14⟩ : ∃ M13, M13 = mUI M a0 0 v7 := ⟨_, rfl⟩
    replace h := h M13 e14
    have hOM13 : mOk M13 := by rw [e14]; exact mOk_UI hO h10
    refine pf_MM_142 rfl d_MM_variable_33 h12 h10 e14 ?_
    refine wm_aload_n d_MM_variable_36 rfl rfl ?_
    refine gf_MM_142 rfl d_MM_variable_37 (by rw [e14]; exact h12) ?_
    obtain ⟨s19, h⟩ := h
    have hJ : ∀ v18 : Int, v18 = (if (mI M13 a0 0 ≤ 0) then mI M13 (mR M13 a0 31) (Int.toNat ((12 * l1) + l2)) else 0) → mWm G y_MM_variable d 58 [vd, vd, vd] [vi v18] M13 (fun r9 M9 => ∃ x9, r9 = some (vi x9) ∧ Q x9 M9) := by
      intro v18 e20
      have h := h v18 e20
      refine wm_ireturn d_MM_variable_58 rfl rfl ?_
      exact ⟨_, rfl, h⟩
    clear h
    have s21 := s19
    refine wm_if_le (tgt := 47) d_MM_variable_40 rfl (hOM13 _ _).1 (fun c15 => ?_) (fun c15 => ?_)
    · have s21 := s21 c15
      obtain ⟨h16, h17⟩ := s21
      refine wm_aload_n d_MM_variable_47 rfl rfl ?_
      refine gf_MM_90 rfl d_MM_variable_48 (by rw [e14]; exact h12) ?_
      refine wm_bipush d_MM_variable_51 (by decide) ?_
      refine wm_iload_n d_MM_variable_53 rfl rfl ?_
      refine wm_imul d_MM_variable_54 ?_
      refine wm_iload_n d_MM_variable_55 rfl rfl ?_
      refine wm_iadd d_MM_variable_56 ?_
      refine wm_iald d_MM_variable_57 h16 h17 ?_
      refine wm_less (L' := [vd, vd, vd]) ⟨Or.inl rfl, Or.inl rfl, Or.inl rfl, trivial⟩ ?_
      exact hJ (mI M13 (mR M13 a0 31) (Int.toNat ((12 * l1) + l2))) (if_pos c15).symm
    · refine wm_iconst d_MM_variable_43 ?_
      refine wm_goto (tgt := 58) d_MM_variable_44 rfl ?_
      refine wm_less (L' := [vd, vd, vd]) ⟨Or.inl rfl, Or.inl rfl, Or.inl rfl, trivial⟩ ?_
      exact hJ 0 (if_neg c15).symm
  clear h
  have s23 := s8
  refine wm_if_lt (tgt := 28) d_MM_variable_2 rfl hi_l1 (fun c1 => ?_) (fun c1 => ?_)
  · refine wm_iconst d_MM_variable_28 ?_
    refine wm_goto (tgt := 33) d_MM_variable_29 rfl ?_
    exact hJ 1 (if_pos (Or.inl c1)).symm
  · have s23 := s23 c1
    obtain ⟨h2, s24⟩ := s23
    refine wm_iload_n d_MM_variable_5 rfl rfl ?_
    refine wm_aload_n d_MM_variable_6 rfl rfl ?_
    refine gf_MM_532 rfl d_MM_variable_7 h2 ?_
    refine wm_icmp_ge (tgt := 28) d_MM_variable_10 rfl hi_l1 (hO _ _).1 (fun c3 => ?_) (fun c3 => ?_)
    · refine wm_iconst d_MM_variable_28 ?_
      refine wm_goto (tgt := 33) d_MM_variable_29 rfl ?_
      exact hJ 1 (if_pos (Or.inr (Or.inl c3))).symm
    · have s24 := s24 c3
      have s25 := s24
      refine wm_iload_n d_MM_variable_13 rfl rfl ?_
      refine wm_if_lt (tgt := 28) d_MM_variable_14 rfl hi_l2 (fun c4 => ?_) (fun c4 => ?_)
      · refine wm_iconst d_MM_variable_28 ?_
        refine wm_goto (tgt := 33) d_MM_variable_29 rfl ?_
        exact hJ 1 (if_pos (Or.inr (Or.inr (Or.inl c4)))).symm
      · have s25 := s25 c4
        have h5 := s25
        refine wm_iload_n d_MM_variable_17 rfl rfl ?_
        refine wm_aload_n d_MM_variable_18 rfl rfl ?_
        refine gf_MM_34 rfl d_MM_variable_19 h2 ?_
        refine gf_MM_456 rfl d_MM_variable_22 h5 ?_
        refine wm_icmp_lt (tgt := 32) d_MM_variable_25 rfl hi_l2 (hO _ _).1 (fun c6 => ?_) (fun c6 => ?_)
        · refine wm_iconst d_MM_variable_32 ?_
          exact hJ 0 (if_neg (fun z26 => Or.elim z26 c1 (fun z27 => Or.elim z27 c3 (fun z28 => Or.elim z28 c4 (fun z29 => z29 c6))))).symm
        · refine wm_iconst d_MM_variable_28 ?_
          refine wm_goto (tgt := 33) d_MM_variable_29 rfl ?_
          exact hJ 1 (if_pos (Or.inr (Or.inr (Or.inr c6)))).symm
theorem d_MM_isState_0 : decode y_MM_isState.2.1 0 = .ok (.aload_n 0, 1) := dc9_42 (by decide +kernel)
theorem d_MM_isState_1 : decode y_MM_isState.2.1 1 = .ok (.iconst 0, 1) := dc9_3 (by decide +kernel)
theorem d_MM_isState_2 : decode y_MM_isState.2.1 2 = .ok (.putfield 142, 3) := dc9_181 (by decide +kernel)
theorem d_MM_isState_5 : decode y_MM_isState.2.1 5 = .ok (.iload_n 1, 1) := dc9_27 (by decide +kernel)
theorem d_MM_isState_6 : decode y_MM_isState.2.1 6 = .ok (.ifCond .lt 15, 3) := dc9_155 (by decide +kernel)
theorem d_MM_isState_21 : decode y_MM_isState.2.1 21 = .ok (.iconst 0, 1) := dc9_3 (by decide +kernel)
theorem d_MM_isState_9 : decode y_MM_isState.2.1 9 = .ok (.iload_n 1, 1) := dc9_27 (by decide +kernel)
theorem d_MM_isState_10 : decode y_MM_isState.2.1 10 = .ok (.aload_n 0, 1) := dc9_42 (by decide +kernel)
theorem d_MM_isState_11 : decode y_MM_isState.2.1 11 = .ok (.getfield 532, 3) := dc9_180 (by decide +kernel)
theorem d_MM_isState_14 : decode y_MM_isState.2.1 14 = .ok (.if_icmp .ge 7, 3) := dc9_162 (by decide +kernel)
theorem d_MM_isState_17 : decode y_MM_isState.2.1 17 = .ok (.iconst 1, 1) := dc9_4 (by decide +kernel)
theorem d_MM_isState_18 : decode y_MM_isState.2.1 18 = .ok (.goto 4, 3) := dc9_167 (by decide +kernel)
theorem d_MM_isState_22 : decode y_MM_isState.2.1 22 = .ok (.ireturn, 1) := dc9_172 (by decide +kernel)
theorem k_MM_isState {G : mG} {d : Nat} {a0 : Nat} {l1 : Int} {M : mM} {Q : Int → mM → Prop} (hO : mOk M) (hi_l1 : i32 l1)
    (h : mK M a0 = 14 ∧ ∀ M2, M2 = mUI M a0 0 0 → ∀ v6 : Int, v6 = (if ((l1 < 0) ∨ (mI M2 a0 29 ≤ l1)) then 0 else 1) → Q v6 M2) :
    Ci G y_MM_isState d [vr a0, vi l1] M Q := by
  refine wm_open (y := y_MM_isState) rfl (Nat.le_of_ble_eq_true rfl) (L := [vr a0, vi l1]) rfl ?_
  obtain ⟨h1, h⟩ := h
  obtain ⟨M2, e3⟩ : ∃ M2, M2 = mUI M a0 0 0 := ⟨_, rfl⟩
  replace h := h M2 e3
  refine wm_aload_n d_MM_isState_0 rfl rfl ?_
  refine wm_iconst d_MM_isState_1 ?_
  have hOM2 : mOk M2 := by rw [e3]; exact mOk_UI hO ⟨by decide, by decide⟩
  refine pf_MM_142 rfl d_MM_isState_2 h1 ⟨by decide, by decide⟩ e3 ?_
  refine wm_iload_n d_MM_isState_5 rfl rfl ?_
  have hJ : ∀ v6 : Int, v6 = (if ((l1 < 0) ∨ (mI M2 a0 29 ≤ l1)) then 0 else 1) → mWm G y_MM_isState d 22 [vd, vd] [vi v6] M2 (fun r9 M9 => ∃ x9, r9 = some (vi x9) ∧ Q x9 M9) := by
    intro v6 e8
    have h := h v6 e8
    have h9 : i32 v6 := by rw [e8]; (repeat' split) <;> first | exact ⟨by decide, by decide⟩ | exact ⟨by decide, by decide⟩
    have h10 : (v6 = 0 ∨ v6 = 1) := by rw [e8]; (repeat' split) <;> decide
    refine wm_ireturn d_MM_isState_22 rfl (m_nb h10) ?_
    exact ⟨_, rfl, h⟩
  clear h
  refine wm_if_lt (tgt := 21) d_MM_isState_6 rfl hi_l1 (fun c4 => ?_) (fun c4 => ?_)
  · refine wm_iconst d_MM_isState_21 ?_
    refine wm_less (L' := [vd, vd]) ⟨Or.inl rfl, Or.inl rfl, trivial⟩ ?_
    exact hJ 0 (if_pos (Or.inl c4)).symm
  · refine wm_iload_n d_MM_isState_9 rfl rfl ?_
    refine wm_aload_n d_MM_isState_10 rfl rfl ?_
    refine gf_MM_532 rfl d_MM_isState_11 (by rw [e3]; exact h1) ?_
    refine wm_icmp_ge (tgt := 21) d_MM_isState_14 rfl hi_l1 (hOM2 _ _).1 (fun c5 => ?_) (fun c5 => ?_)
    · refine wm_iconst d_MM_isState_21 ?_
      refine wm_less (L' := [vd, vd]) ⟨Or.inl rfl, Or.inl rfl, trivial⟩ ?_
      exact hJ 0 (if_pos (Or.inr c5)).symm
    · refine wm_iconst d_MM_isState_17 ?_
      refine wm_goto (tgt := 22) d_MM_isState_18 rfl ?_
      refine wm_less (L' := [vd, vd]) ⟨Or.inl rfl, Or.inl rfl, trivial⟩ ?_
      exact hJ 1 (if_neg (fun z11 => Or.elim z11 c4 c5)).symm
theorem d_MM_kind_0 : decode y_MM_kind.2.1 0 = .ok (.aload_n 0, 1) := dc9_42 (by decide +kernel)
theorem d_MM_kind_1 : decode y_MM_kind.2.1 1 = .ok (.iload_n 1, 1) := dc9_27 (by decide +kernel)
theorem d_MM_kind_2 : decode y_MM_kind.2.1 2 = .ok (.invokevirtual 569, 3) := dc9_182 (by decide +kernel)
theorem d_MM_kind_5 : decode y_MM_kind.2.1 5 = .ok (.ifCond .eq 12, 3) := dc9_153 (by decide +kernel)
theorem d_MM_kind_17 : decode y_MM_kind.2.1 17 = .ok (.iconst (-1), 1) := dc9_2 (by decide +kernel)
theorem d_MM_kind_8 : decode y_MM_kind.2.1 8 = .ok (.aload_n 0, 1) := dc9_42 (by decide +kernel)
theorem d_MM_kind_9 : decode y_MM_kind.2.1 9 = .ok (.getfield 93, 3) := dc9_180 (by decide +kernel)
theorem d_MM_kind_12 : decode y_MM_kind.2.1 12 = .ok (.iload_n 1, 1) := dc9_27 (by decide +kernel)
theorem d_MM_kind_13 : decode y_MM_kind.2.1 13 = .ok (.iaload, 1) := dc9_46 (by decide +kernel)
theorem d_MM_kind_14 : decode y_MM_kind.2.1 14 = .ok (.goto 4, 3) := dc9_167 (by decide +kernel)
theorem d_MM_kind_18 : decode y_MM_kind.2.1 18 = .ok (.ireturn, 1) := dc9_172 (by decide +kernel)
theorem k_MM_kind {G : mG} {d : Nat} {a0 : Nat} {l1 : Int} {M : mM} {Q : Int → mM → Prop} (hO : mOk M) (hi_l1 : i32 l1)
    (h : mK M a0 = 14 ∧ Ci G y_MM_isState d [vr a0, vi l1] M (fun x3 M2 => i32 x3 ∧ mOk M2 ∧ ((¬ (x3 = 0) → (mK M2 a0 = 14 ∧ mK M2 (mR M2 a0 32) = 30 ∧ ((0 : Int) ≤ l1 ∧ l1 < (mN M2 (mR M2 a0 32) : Int)))) ∧ ∀ v9 : Int, v9 = (if (x3 = 0) then (-1) else mI M2 (mR M2 a0 32) (Int.toNat l1)) → Q v9 M2))) :
    Ci G y_MM_kind (d + 1) [vr a0, vi l1] M Q := by
  refine wm_open (y := y_MM_kind) rfl (Nat.le_of_ble_eq_true rfl) (L := [vr a0, vi l1]) rfl ?_
  obtain ⟨h1, h⟩ := h
  refine wm_aload_n d_MM_kind_0 rfl rfl ?_
  refine wm_iload_n d_MM_kind_1 rfl rfl ?_
  refine cf_MM_569 rfl d_MM_kind_2 h1 (Nat.le_of_ble_eq_true rfl) (Ci.mono h (fun x3 M2 h => ?_))
  obtain ⟨h4, hOM2, h⟩ := h
  obtain ⟨s10, h⟩ := h
  have hJ : ∀ v9 : Int, v9 = (if (x3 = 0) then (-1) else mI M2 (mR M2 a0 32) (Int.toNat l1)) → mWm G y_MM_kind (d + 1) 18 [vd, vd] [vi v9] M2 (fun r9 M9 => ∃ x9, r9 = some (vi x9) ∧ Q x9 M9) := by
    intro v9 e11
    have h := h v9 e11
    refine wm_ireturn d_MM_kind_18 rfl rfl ?_
    exact ⟨_, rfl, h⟩
  clear h
  have s12 := s10
  refine wm_if_eq (tgt := 17) d_MM_kind_5 rfl h4 (fun c5 => ?_) (fun c5 => ?_)
  · refine wm_iconst d_MM_kind_17 ?_
    refine wm_less (L' := [vd, vd]) ⟨Or.inl rfl, Or.inl rfl, trivial⟩ ?_
    exact hJ (-1) (if_pos c5).symm
  · have s12 := s12 c5
    obtain ⟨h6, h7, h8⟩ := s12
    refine wm_aload_n d_MM_kind_8 rfl rfl ?_
    refine gf_MM_93 rfl d_MM_kind_9 h6 ?_
    refine wm_iload_n d_MM_kind_12 rfl rfl ?_
    refine wm_iald d_MM_kind_13 h7 h8 ?_
    refine wm_goto (tgt := 18) d_MM_kind_14 rfl ?_
    refine wm_less (L' := [vd, vd]) ⟨Or.inl rfl, Or.inl rfl, trivial⟩ ?_
    exact hJ (mI M2 (mR M2 a0 32) (Int.toNat l1)) (if_neg c5).symm
theorem d_MM_commands_0 : decode y_MM_commands.2.1 0 = .ok (.aload_n 0, 1) := dc9_42 (by decide +kernel)
theorem d_MM_commands_1 : decode y_MM_commands.2.1 1 = .ok (.iload_n 1, 1) := dc9_27 (by decide +kernel)
theorem d_MM_commands_2 : decode y_MM_commands.2.1 2 = .ok (.invokevirtual 569, 3) := dc9_182 (by decide +kernel)
theorem d_MM_commands_5 : decode y_MM_commands.2.1 5 = .ok (.ifCond .eq 12, 3) := dc9_153 (by decide +kernel)
theorem d_MM_commands_17 : decode y_MM_commands.2.1 17 = .ok (.iconst (-1), 1) := dc9_2 (by decide +kernel)
theorem d_MM_commands_8 : decode y_MM_commands.2.1 8 = .ok (.aload_n 0, 1) := dc9_42 (by decide +kernel)
theorem d_MM_commands_9 : decode y_MM_commands.2.1 9 = .ok (.getfield 99, 3) := dc9_180 (by decide +kernel)
theorem d_MM_commands_12 : decode y_MM_commands.2.1 12 = .ok (.iload_n 1, 1) := dc9_27 (by decide +kernel)
theorem d_MM_commands_13 : decode y_MM_commands.2.1 13 = .ok (.iaload, 1) := dc9_46 (by decide +kernel)
theorem d_MM_commands_14 : decode y_MM_commands.2.1 14 = .ok (.goto 4, 3) := dc9_167 (by decide +kernel)
theorem d_MM_commands_18 : decode y_MM_commands.2.1 18 = .ok (.ireturn, 1) := dc9_172 (by decide +kernel)
theorem k_MM_commands {G : mG} {d : Nat} {a0 : Nat} {l1 : Int} {M : mM} {Q : Int → mM → Prop} (hO : mOk M) (hi_l1 : i32 l1)
    (h : mK M a0 = 14 ∧ Ci G y_MM_isState d [vr a0, vi l1] M (fun x3 M2 => i32 x3 ∧ mOk M2 ∧ ((¬ (x3 = 0) → (mK M2 a0 = 14 ∧ mK M2 (mR M2 a0 34) = 30 ∧ ((0 : Int) ≤ l1 ∧ l1 < (mN M2 (mR M2 a0 34) : Int)))) ∧ ∀ v9 : Int, v9 = (if (x3 = 0) then (-1) else mI M2 (mR M2 a0 34) (Int.toNat l1)) → Q v9 M2))) :
    Ci G y_MM_commands (d + 1) [vr a0, vi l1] M Q := by
  refine wm_open (y := y_MM_commands) rfl (Nat.le_of_ble_eq_true rfl) (L := [vr a0, vi l1]) rfl ?_
  obtain ⟨h1, h⟩ := h
  refine wm_aload_n d_MM_commands_0 rfl rfl ?_
  refine wm_iload_n d_MM_commands_1 rfl rfl ?_
  refine cf_MM_569 rfl d_MM_commands_2 h1 (Nat.le_of_ble_eq_true rfl) (Ci.mono h (fun x3 M2 h => ?_))
  obtain ⟨h4, hOM2, h⟩ := h
  obtain ⟨s10, h⟩ := h
  have hJ : ∀ v9 : Int, v9 = (if (x3 = 0) then (-1) else mI M2 (mR M2 a0 34) (Int.toNat l1)) → mWm G y_MM_commands (d + 1) 18 [vd, vd] [vi v9] M2 (fun r9 M9 => ∃ x9, r9 = some (vi x9) ∧ Q x9 M9) := by
    intro v9 e11
    have h := h v9 e11
    refine wm_ireturn d_MM_commands_18 rfl rfl ?_
    exact ⟨_, rfl, h⟩
  clear h
  have s12 := s10
  refine wm_if_eq (tgt := 17) d_MM_commands_5 rfl h4 (fun c5 => ?_) (fun c5 => ?_)
  · refine wm_iconst d_MM_commands_17 ?_
    refine wm_less (L' := [vd, vd]) ⟨Or.inl rfl, Or.inl rfl, trivial⟩ ?_
    exact hJ (-1) (if_pos c5).symm
  · have s12 := s12 c5
    obtain ⟨h6, h7, h8⟩ := s12
    refine wm_aload_n d_MM_commands_8 rfl rfl ?_
    refine gf_MM_99 rfl d_MM_commands_9 h6 ?_
    refine wm_iload_n d_MM_commands_12 rfl rfl ?_
    refine wm_iald d_MM_commands_13 h7 h8 ?_
    refine wm_goto (tgt := 18) d_MM_commands_14 rfl ?_
    refine wm_less (L' := [vd, vd]) ⟨Or.inl rfl, Or.inl rfl, trivial⟩ ?_
    exact hJ (mI M2 (mR M2 a0 34) (Int.toNat l1)) (if_neg c5).symm
theorem d_MM_isCommand_0 : decode y_MM_isCommand.2.1 0 = .ok (.aload_n 0, 1) := dc9_42 (by decide +kernel)
theorem d_MM_isCommand_1 : decode y_MM_isCommand.2.1 1 = .ok (.iload_n 1, 1) := dc9_27 (by decide +kernel)
theorem d_MM_isCommand_2 : decode y_MM_isCommand.2.1 2 = .ok (.invokevirtual 569, 3) := dc9_182 (by decide +kernel)
theorem d_MM_isCommand_5 : decode y_MM_isCommand.2.1 5 = .ok (.ifCond .eq 21, 3) := dc9_153 (by decide +kernel)
theorem d_MM_isCommand_26 : decode y_MM_isCommand.2.1 26 = .ok (.iconst 0, 1) := dc9_3 (by decide +kernel)
theorem d_MM_isCommand_8 : decode y_MM_isCommand.2.1 8 = .ok (.iload_n 2, 1) := dc9_28 (by decide +kernel)
theorem d_MM_isCommand_9 : decode y_MM_isCommand.2.1 9 = .ok (.ifCond .lt 17, 3) := dc9_155 (by decide +kernel)
theorem d_MM_isCommand_12 : decode y_MM_isCommand.2.1 12 = .ok (.iload_n 2, 1) := dc9_28 (by decide +kernel)
theorem d_MM_isCommand_13 : decode y_MM_isCommand.2.1 13 = .ok (.aload_n 0, 1) := dc9_42 (by decide +kernel)
theorem d_MM_isCommand_14 : decode y_MM_isCommand.2.1 14 = .ok (.getfield 99, 3) := dc9_180 (by decide +kernel)
theorem d_MM_isCommand_17 : decode y_MM_isCommand.2.1 17 = .ok (.iload_n 1, 1) := dc9_27 (by decide +kernel)
theorem d_MM_isCommand_18 : decode y_MM_isCommand.2.1 18 = .ok (.iaload, 1) := dc9_46 (by decide +kernel)
theorem d_MM_isCommand_19 : decode y_MM_isCommand.2.1 19 = .ok (.if_icmp .ge 7, 3) := dc9_162 (by decide +kernel)
theorem d_MM_isCommand_22 : decode y_MM_isCommand.2.1 22 = .ok (.iconst 1, 1) := dc9_4 (by decide +kernel)
theorem d_MM_isCommand_23 : decode y_MM_isCommand.2.1 23 = .ok (.goto 4, 3) := dc9_167 (by decide +kernel)
theorem d_MM_isCommand_27 : decode y_MM_isCommand.2.1 27 = .ok (.ireturn, 1) := dc9_172 (by decide +kernel)
theorem k_MM_isCommand {G : mG} {d : Nat} {a0 : Nat} {l1 : Int} {l2 : Int} {M : mM} {Q : Int → mM → Prop} (hO : mOk M) (hi_l1 : i32 l1) (hi_l2 : i32 l2)
    (h : mK M a0 = 14 ∧ Ci G y_MM_isState d [vr a0, vi l1] M (fun x3 M2 => i32 x3 ∧ mOk M2 ∧ ((¬ (x3 = 0) → (¬ (l2 < 0) → (mK M2 a0 = 14 ∧ mK M2 (mR M2 a0 34) = 30 ∧ ((0 : Int) ≤ l1 ∧ l1 < (mN M2 (mR M2 a0 34) : Int))))) ∧ ∀ v11 : Int, v11 = (if ((x3 = 0) ∨ ((l2 < 0) ∨ (mI M2 (mR M2 a0 34) (Int.toNat l1) ≤ l2))) then 0 else 1) → Q v11 M2))) :
    Ci G y_MM_isCommand (d + 1) [vr a0, vi l1, vi l2] M Q := by
  refine wm_open (y := y_MM_isCommand) rfl (Nat.le_of_ble_eq_true rfl) (L := [vr a0, vi l1, vi l2]) rfl ?_
  obtain ⟨h1, h⟩ := h
  refine wm_aload_n d_MM_isCommand_0 rfl rfl ?_
  refine wm_iload_n d_MM_isCommand_1 rfl rfl ?_
  refine cf_MM_569 rfl d_MM_isCommand_2 h1 (Nat.le_of_ble_eq_true rfl) (Ci.mono h (fun x3 M2 h => ?_))
  obtain ⟨h4, hOM2, h⟩ := h
  obtain ⟨s12, h⟩ := h
  have hJ : ∀ v11 : Int, v11 = (if ((x3 = 0) ∨ ((l2 < 0) ∨ (mI M2 (mR M2 a0 34) (Int.toNat l1) ≤ l2))) then 0 else 1) → mWm G y_MM_isCommand (d + 1) 27 [vd, vd, vd] [vi v11] M2 (fun r9 M9 => ∃ x9, r9 = some (vi x9) ∧ Q x9 M9) := by
    intro v11 e13
    have h := h v11 e13
    have h14 : i32 v11 := by rw [e13]; (repeat' split) <;> first | exact ⟨by decide, by decide⟩ | exact ⟨by decide, by decide⟩
    have h15 : (v11 = 0 ∨ v11 = 1) := by rw [e13]; (repeat' split) <;> decide
    refine wm_ireturn d_MM_isCommand_27 rfl (m_nb h15) ?_
    exact ⟨_, rfl, h⟩
  clear h
  have s16 := s12
  refine wm_if_eq (tgt := 26) d_MM_isCommand_5 rfl h4 (fun c5 => ?_) (fun c5 => ?_)
  · refine wm_iconst d_MM_isCommand_26 ?_
    refine wm_less (L' := [vd, vd, vd]) ⟨Or.inl rfl, Or.inl rfl, Or.inl rfl, trivial⟩ ?_
    exact hJ 0 (if_pos (Or.inl c5)).symm
  · have s16 := s16 c5
    have s17 := s16
    refine wm_iload_n d_MM_isCommand_8 rfl rfl ?_
    refine wm_if_lt (tgt := 26) d_MM_isCommand_9 rfl hi_l2 (fun c6 => ?_) (fun c6 => ?_)
    · refine wm_iconst d_MM_isCommand_26 ?_
      refine wm_less (L' := [vd, vd, vd]) ⟨Or.inl rfl, Or.inl rfl, Or.inl rfl, trivial⟩ ?_
      exact hJ 0 (if_pos (Or.inr (Or.inl c6))).symm
    · have s17 := s17 c6
      obtain ⟨h7, h8, h9⟩ := s17
      refine wm_iload_n d_MM_isCommand_12 rfl rfl ?_
      refine wm_aload_n d_MM_isCommand_13 rfl rfl ?_
      refine gf_MM_99 rfl d_MM_isCommand_14 h7 ?_
      refine wm_iload_n d_MM_isCommand_17 rfl rfl ?_
      refine wm_iald d_MM_isCommand_18 h8 h9 ?_
      refine wm_icmp_ge (tgt := 26) d_MM_isCommand_19 rfl hi_l2 (hOM2 _ _).1 (fun c10 => ?_) (fun c10 => ?_)
      · refine wm_iconst d_MM_isCommand_26 ?_
        refine wm_less (L' := [vd, vd, vd]) ⟨Or.inl rfl, Or.inl rfl, Or.inl rfl, trivial⟩ ?_
        exact hJ 0 (if_pos (Or.inr (Or.inr c10))).symm
      · refine wm_iconst d_MM_isCommand_22 ?_
        refine wm_goto (tgt := 27) d_MM_isCommand_23 rfl ?_
        refine wm_less (L' := [vd, vd, vd]) ⟨Or.inl rfl, Or.inl rfl, Or.inl rfl, trivial⟩ ?_
        exact hJ 1 (if_neg (fun z18 => Or.elim z18 c5 (fun z19 => Or.elim z19 c6 c10))).symm
theorem d_MM_command_0 : decode y_MM_command.2.1 0 = .ok (.aload_n 0, 1) := dc9_42 (by decide +kernel)
theorem d_MM_command_1 : decode y_MM_command.2.1 1 = .ok (.iload_n 1, 1) := dc9_27 (by decide +kernel)
theorem d_MM_command_2 : decode y_MM_command.2.1 2 = .ok (.iload_n 2, 1) := dc9_28 (by decide +kernel)
theorem d_MM_command_3 : decode y_MM_command.2.1 3 = .ok (.invokevirtual 572, 3) := dc9_182 (by decide +kernel)
theorem d_MM_command_6 : decode y_MM_command.2.1 6 = .ok (.ifCond .eq 21, 3) := dc9_153 (by decide +kernel)
theorem d_MM_command_27 : decode y_MM_command.2.1 27 = .ok (.iconst (-1), 1) := dc9_2 (by decide +kernel)
theorem d_MM_command_9 : decode y_MM_command.2.1 9 = .ok (.aload_n 0, 1) := dc9_42 (by decide +kernel)
theorem d_MM_command_10 : decode y_MM_command.2.1 10 = .ok (.getfield 102, 3) := dc9_180 (by decide +kernel)
theorem d_MM_command_13 : decode y_MM_command.2.1 13 = .ok (.aload_n 0, 1) := dc9_42 (by decide +kernel)
theorem d_MM_command_14 : decode y_MM_command.2.1 14 = .ok (.getfield 96, 3) := dc9_180 (by decide +kernel)
theorem d_MM_command_17 : decode y_MM_command.2.1 17 = .ok (.iload_n 1, 1) := dc9_27 (by decide +kernel)
theorem d_MM_command_18 : decode y_MM_command.2.1 18 = .ok (.iaload, 1) := dc9_46 (by decide +kernel)
theorem d_MM_command_19 : decode y_MM_command.2.1 19 = .ok (.iload_n 2, 1) := dc9_28 (by decide +kernel)
theorem d_MM_command_20 : decode y_MM_command.2.1 20 = .ok (.iadd, 1) := dc9_96 (by decide +kernel)
theorem d_MM_command_28 : decode y_MM_command.2.1 28 = .ok (.ireturn, 1) := dc9_172 (by decide +kernel)
theorem d_MM_command_21 : decode y_MM_command.2.1 21 = .ok (.invokevirtual 155, 3) := dc9_182 (by decide +kernel)
theorem d_MM_command_24 : decode y_MM_command.2.1 24 = .ok (.goto 4, 3) := dc9_167 (by decide +kernel)
theorem k_MM_command {G : mG} {d : Nat} {a0 : Nat} {l1 : Int} {l2 : Int} {M : mM} {Q : Int → mM → Prop} (hO : mOk M) (hi_l1 : i32 l1) (hi_l2 : i32 l2)
    (h : mK M a0 = 14 ∧ Ci G y_MM_isCommand d [vr a0, vi l1, vi l2] M (fun x3 M2 => i32 x3 ∧ mOk M2 ∧ (((x3 = 0) → (Q (-1) M2)) ∧ (¬ (x3 = 0) → (mK M2 a0 = 14 ∧ mK M2 (mR M2 a0 33) = 30 ∧ ((0 : Int) ≤ l1 ∧ l1 < (mN M2 (mR M2 a0 33) : Int)) ∧ mK M2 (mR M2 a0 35) = 15 ∧ Ci G y_MN_at d [vr (mR M2 a0 35), vi ((mI M2 (mR M2 a0 33) (Int.toNat l1)) + l2)] M2 (fun x16 M15 => i32 x16 ∧ mOk M15 ∧ (Q x16 M15))))))) :
    Ci G y_MM_command (d + 1) [vr a0, vi l1, vi l2] M Q := by
  refine wm_open (y := y_MM_command) rfl (Nat.le_of_ble_eq_true rfl) (L := [vr a0, vi l1, vi l2]) rfl ?_
  obtain ⟨h1, h⟩ := h
  refine wm_aload_n d_MM_command_0 rfl rfl ?_
  refine wm_iload_n d_MM_command_1 rfl rfl ?_
  refine wm_iload_n d_MM_command_2 rfl rfl ?_
  refine cf_MM_572 rfl d_MM_command_3 h1 (Nat.le_of_ble_eq_true rfl) (Ci.mono h (fun x3 M2 h => ?_))
  obtain ⟨h4, hOM2, h⟩ := h
  refine wm_if_eq (tgt := 27) d_MM_command_6 rfl h4 (fun c10 => ?_) (fun c10 => ?_)
  · replace h := h.1 c10
    refine wm_iconst d_MM_command_27 ?_
    refine wm_ireturn d_MM_command_28 rfl rfl ?_
    exact ⟨_, rfl, h⟩
  · replace h := h.2 c10
    obtain ⟨h11, h⟩ := h
    obtain ⟨h12, h⟩ := h
    obtain ⟨h13, h⟩ := h
    obtain ⟨h14, h⟩ := h
    refine wm_aload_n d_MM_command_9 rfl rfl ?_
    refine gf_MM_102 rfl d_MM_command_10 h11 ?_
    refine wm_aload_n d_MM_command_13 rfl rfl ?_
    refine gf_MM_96 rfl d_MM_command_14 h11 ?_
    refine wm_iload_n d_MM_command_17 rfl rfl ?_
    refine wm_iald d_MM_command_18 h12 h13 ?_
    refine wm_iload_n d_MM_command_19 rfl rfl ?_
    refine wm_iadd d_MM_command_20 ?_
    refine cf_MM_155 rfl d_MM_command_21 h14 (Nat.le_of_ble_eq_true rfl) (Ci.mono h (fun x16 M15 h => ?_))
    obtain ⟨h17, hOM15, h⟩ := h
    refine wm_goto (tgt := 28) d_MM_command_24 rfl ?_
    refine wm_ireturn d_MM_command_28 rfl rfl ?_
    exact ⟨_, rfl, h⟩
theorem d_MM_branches_0 : decode y_MM_branches.2.1 0 = .ok (.aload_n 0, 1) := dc9_42 (by decide +kernel)
theorem d_MM_branches_1 : decode y_MM_branches.2.1 1 = .ok (.iload_n 1, 1) := dc9_27 (by decide +kernel)
theorem d_MM_branches_2 : decode y_MM_branches.2.1 2 = .ok (.iload_n 2, 1) := dc9_28 (by decide +kernel)
theorem d_MM_branches_3 : decode y_MM_branches.2.1 3 = .ok (.invokevirtual 572, 3) := dc9_182 (by decide +kernel)
theorem d_MM_branches_6 : decode y_MM_branches.2.1 6 = .ok (.ifCond .eq 21, 3) := dc9_153 (by decide +kernel)
theorem d_MM_branches_27 : decode y_MM_branches.2.1 27 = .ok (.iconst (-1), 1) := dc9_2 (by decide +kernel)
theorem d_MM_branches_9 : decode y_MM_branches.2.1 9 = .ok (.aload_n 0, 1) := dc9_42 (by decide +kernel)
theorem d_MM_branches_10 : decode y_MM_branches.2.1 10 = .ok (.getfield 108, 3) := dc9_180 (by decide +kernel)
theorem d_MM_branches_13 : decode y_MM_branches.2.1 13 = .ok (.aload_n 0, 1) := dc9_42 (by decide +kernel)
theorem d_MM_branches_14 : decode y_MM_branches.2.1 14 = .ok (.getfield 96, 3) := dc9_180 (by decide +kernel)
theorem d_MM_branches_17 : decode y_MM_branches.2.1 17 = .ok (.iload_n 1, 1) := dc9_27 (by decide +kernel)
theorem d_MM_branches_18 : decode y_MM_branches.2.1 18 = .ok (.iaload, 1) := dc9_46 (by decide +kernel)
theorem d_MM_branches_19 : decode y_MM_branches.2.1 19 = .ok (.iload_n 2, 1) := dc9_28 (by decide +kernel)
theorem d_MM_branches_20 : decode y_MM_branches.2.1 20 = .ok (.iadd, 1) := dc9_96 (by decide +kernel)
theorem d_MM_branches_28 : decode y_MM_branches.2.1 28 = .ok (.ireturn, 1) := dc9_172 (by decide +kernel)
theorem d_MM_branches_21 : decode y_MM_branches.2.1 21 = .ok (.invokevirtual 155, 3) := dc9_182 (by decide +kernel)
theorem d_MM_branches_24 : decode y_MM_branches.2.1 24 = .ok (.goto 4, 3) := dc9_167 (by decide +kernel)
theorem k_MM_branches {G : mG} {d : Nat} {a0 : Nat} {l1 : Int} {l2 : Int} {M : mM} {Q : Int → mM → Prop} (hO : mOk M) (hi_l1 : i32 l1) (hi_l2 : i32 l2)
    (h : mK M a0 = 14 ∧ Ci G y_MM_isCommand d [vr a0, vi l1, vi l2] M (fun x3 M2 => i32 x3 ∧ mOk M2 ∧ (((x3 = 0) → (Q (-1) M2)) ∧ (¬ (x3 = 0) → (mK M2 a0 = 14 ∧ mK M2 (mR M2 a0 33) = 30 ∧ ((0 : Int) ≤ l1 ∧ l1 < (mN M2 (mR M2 a0 33) : Int)) ∧ mK M2 (mR M2 a0 37) = 15 ∧ Ci G y_MN_at d [vr (mR M2 a0 37), vi ((mI M2 (mR M2 a0 33) (Int.toNat l1)) + l2)] M2 (fun x16 M15 => i32 x16 ∧ mOk M15 ∧ (Q x16 M15))))))) :
    Ci G y_MM_branches (d + 1) [vr a0, vi l1, vi l2] M Q := by
  refine wm_open (y := y_MM_branches) rfl (Nat.le_of_ble_eq_true rfl) (L := [vr a0, vi l1, vi l2]) rfl ?_
  obtain ⟨h1, h⟩ := h
  refine wm_aload_n d_MM_branches_0 rfl rfl ?_
  refine wm_iload_n d_MM_branches_1 rfl rfl ?_
  refine wm_iload_n d_MM_branches_2 rfl rfl ?_
  refine cf_MM_572 rfl d_MM_branches_3 h1 (Nat.le_of_ble_eq_true rfl) (Ci.mono h (fun x3 M2 h => ?_))
  obtain ⟨h4, hOM2, h⟩ := h
  refine wm_if_eq (tgt := 27) d_MM_branches_6 rfl h4 (fun c10 => ?_) (fun c10 => ?_)
  · replace h := h.1 c10
    refine wm_iconst d_MM_branches_27 ?_
    refine wm_ireturn d_MM_branches_28 rfl rfl ?_
    exact ⟨_, rfl, h⟩
  · replace h := h.2 c10
    obtain ⟨h11, h⟩ := h
    obtain ⟨h12, h⟩ := h
    obtain ⟨h13, h⟩ := h
    obtain ⟨h14, h⟩ := h
    refine wm_aload_n d_MM_branches_9 rfl rfl ?_
    refine gf_MM_108 rfl d_MM_branches_10 h11 ?_
    refine wm_aload_n d_MM_branches_13 rfl rfl ?_
    refine gf_MM_96 rfl d_MM_branches_14 h11 ?_
    refine wm_iload_n d_MM_branches_17 rfl rfl ?_
    refine wm_iald d_MM_branches_18 h12 h13 ?_
    refine wm_iload_n d_MM_branches_19 rfl rfl ?_
    refine wm_iadd d_MM_branches_20 ?_
    refine cf_MM_155 rfl d_MM_branches_21 h14 (Nat.le_of_ble_eq_true rfl) (Ci.mono h (fun x16 M15 h => ?_))
    obtain ⟨h17, hOM15, h⟩ := h
    refine wm_goto (tgt := 28) d_MM_branches_24 rfl ?_
    refine wm_ireturn d_MM_branches_28 rfl rfl ?_
    exact ⟨_, rfl, h⟩
theorem d_MM_branch1_0 : decode y_MM_branch1.2.1 0 = .ok (.aload_n 0, 1) := dc9_42 (by decide +kernel)
theorem d_MM_branch1_1 : decode y_MM_branch1.2.1 1 = .ok (.iload_n 1, 1) := dc9_27 (by decide +kernel)
theorem d_MM_branch1_2 : decode y_MM_branch1.2.1 2 = .ok (.iload_n 2, 1) := dc9_28 (by decide +kernel)
theorem d_MM_branch1_3 : decode y_MM_branch1.2.1 3 = .ok (.invokevirtual 572, 3) := dc9_182 (by decide +kernel)
theorem d_MM_branch1_6 : decode y_MM_branch1.2.1 6 = .ok (.ifCond .eq 37, 3) := dc9_153 (by decide +kernel)
theorem d_MM_branch1_9 : decode y_MM_branch1.2.1 9 = .ok (.iload_n 3, 1) := dc9_29 (by decide +kernel)
theorem d_MM_branch1_10 : decode y_MM_branch1.2.1 10 = .ok (.ifCond .lt 33, 3) := dc9_155 (by decide +kernel)
theorem d_MM_branch1_13 : decode y_MM_branch1.2.1 13 = .ok (.iload_n 3, 1) := dc9_29 (by decide +kernel)
theorem d_MM_branch1_14 : decode y_MM_branch1.2.1 14 = .ok (.aload_n 0, 1) := dc9_42 (by decide +kernel)
theorem d_MM_branch1_15 : decode y_MM_branch1.2.1 15 = .ok (.getfield 108, 3) := dc9_180 (by decide +kernel)
theorem d_MM_branch1_18 : decode y_MM_branch1.2.1 18 = .ok (.aload_n 0, 1) := dc9_42 (by decide +kernel)
theorem d_MM_branch1_19 : decode y_MM_branch1.2.1 19 = .ok (.getfield 96, 3) := dc9_180 (by decide +kernel)
theorem d_MM_branch1_22 : decode y_MM_branch1.2.1 22 = .ok (.iload_n 1, 1) := dc9_27 (by decide +kernel)
theorem d_MM_branch1_23 : decode y_MM_branch1.2.1 23 = .ok (.iaload, 1) := dc9_46 (by decide +kernel)
theorem d_MM_branch1_24 : decode y_MM_branch1.2.1 24 = .ok (.iload_n 2, 1) := dc9_28 (by decide +kernel)
theorem d_MM_branch1_25 : decode y_MM_branch1.2.1 25 = .ok (.iadd, 1) := dc9_96 (by decide +kernel)
theorem d_MM_branch1_43 : decode y_MM_branch1.2.1 43 = .ok (.iconst (-1), 1) := dc9_2 (by decide +kernel)
theorem d_MM_branch1_44 : decode y_MM_branch1.2.1 44 = .ok (.ireturn, 1) := dc9_172 (by decide +kernel)
theorem d_MM_branch1_26 : decode y_MM_branch1.2.1 26 = .ok (.invokevirtual 155, 3) := dc9_182 (by decide +kernel)
theorem d_MM_branch1_29 : decode y_MM_branch1.2.1 29 = .ok (.if_icmp .ge 14, 3) := dc9_162 (by decide +kernel)
theorem d_MM_branch1_32 : decode y_MM_branch1.2.1 32 = .ok (.iload 4, 2) := dc9_21 (by decide +kernel)
theorem d_MM_branch1_34 : decode y_MM_branch1.2.1 34 = .ok (.ifCond .lt 9, 3) := dc9_155 (by decide +kernel)
theorem d_MM_branch1_37 : decode y_MM_branch1.2.1 37 = .ok (.iload 4, 2) := dc9_21 (by decide +kernel)
theorem d_MM_branch1_39 : decode y_MM_branch1.2.1 39 = .ok (.iconst 2, 1) := dc9_5 (by decide +kernel)
theorem d_MM_branch1_40 : decode y_MM_branch1.2.1 40 = .ok (.if_icmp .le 5, 3) := dc9_164 (by decide +kernel)
theorem d_MM_branch1_45 : decode y_MM_branch1.2.1 45 = .ok (.aload_n 0, 1) := dc9_42 (by decide +kernel)
theorem d_MM_branch1_46 : decode y_MM_branch1.2.1 46 = .ok (.getfield 105, 3) := dc9_180 (by decide +kernel)
theorem d_MM_branch1_49 : decode y_MM_branch1.2.1 49 = .ok (.aload_n 0, 1) := dc9_42 (by decide +kernel)
theorem d_MM_branch1_50 : decode y_MM_branch1.2.1 50 = .ok (.getfield 96, 3) := dc9_180 (by decide +kernel)
theorem d_MM_branch1_53 : decode y_MM_branch1.2.1 53 = .ok (.iload_n 1, 1) := dc9_27 (by decide +kernel)
theorem d_MM_branch1_54 : decode y_MM_branch1.2.1 54 = .ok (.iaload, 1) := dc9_46 (by decide +kernel)
theorem d_MM_branch1_55 : decode y_MM_branch1.2.1 55 = .ok (.iload_n 2, 1) := dc9_28 (by decide +kernel)
theorem d_MM_branch1_56 : decode y_MM_branch1.2.1 56 = .ok (.iadd, 1) := dc9_96 (by decide +kernel)
theorem d_MM_branch1_57 : decode y_MM_branch1.2.1 57 = .ok (.invokevirtual 155, 3) := dc9_182 (by decide +kernel)
theorem d_MM_branch1_60 : decode y_MM_branch1.2.1 60 = .ok (.iload_n 3, 1) := dc9_29 (by decide +kernel)
theorem d_MM_branch1_61 : decode y_MM_branch1.2.1 61 = .ok (.iadd, 1) := dc9_96 (by decide +kernel)
theorem d_MM_branch1_62 : decode y_MM_branch1.2.1 62 = .ok (.istore 5, 2) := dc9_54 (by decide +kernel)
theorem d_MM_branch1_64 : decode y_MM_branch1.2.1 64 = .ok (.iload 4, 2) := dc9_21 (by decide +kernel)
theorem d_MM_branch1_66 : decode y_MM_branch1.2.1 66 = .ok (.ifCond .ne 13, 3) := dc9_154 (by decide +kernel)
theorem d_MM_branch1_69 : decode y_MM_branch1.2.1 69 = .ok (.aload_n 0, 1) := dc9_42 (by decide +kernel)
theorem d_MM_branch1_70 : decode y_MM_branch1.2.1 70 = .ok (.getfield 121, 3) := dc9_180 (by decide +kernel)
theorem d_MM_branch1_73 : decode y_MM_branch1.2.1 73 = .ok (.iload 5, 2) := dc9_21 (by decide +kernel)
theorem d_MM_branch1_75 : decode y_MM_branch1.2.1 75 = .ok (.iaload, 1) := dc9_46 (by decide +kernel)
theorem d_MM_branch1_76 : decode y_MM_branch1.2.1 76 = .ok (.goto 27, 3) := dc9_167 (by decide +kernel)
theorem d_MM_branch1_79 : decode y_MM_branch1.2.1 79 = .ok (.iload 4, 2) := dc9_21 (by decide +kernel)
theorem d_MM_branch1_81 : decode y_MM_branch1.2.1 81 = .ok (.iconst 1, 1) := dc9_4 (by decide +kernel)
theorem d_MM_branch1_82 : decode y_MM_branch1.2.1 82 = .ok (.if_icmp .ne 13, 3) := dc9_160 (by decide +kernel)
theorem d_MM_branch1_85 : decode y_MM_branch1.2.1 85 = .ok (.aload_n 0, 1) := dc9_42 (by decide +kernel)
theorem d_MM_branch1_86 : decode y_MM_branch1.2.1 86 = .ok (.getfield 124, 3) := dc9_180 (by decide +kernel)
theorem d_MM_branch1_89 : decode y_MM_branch1.2.1 89 = .ok (.iload 5, 2) := dc9_21 (by decide +kernel)
theorem d_MM_branch1_91 : decode y_MM_branch1.2.1 91 = .ok (.laload, 1) := dc9_47 (by decide +kernel)
theorem d_MM_branch1_92 : decode y_MM_branch1.2.1 92 = .ok (.goto 10, 3) := dc9_167 (by decide +kernel)
theorem d_MM_branch1_102 : decode y_MM_branch1.2.1 102 = .ok (.l2i, 1) := dc9_136 (by decide +kernel)
theorem d_MM_branch1_95 : decode y_MM_branch1.2.1 95 = .ok (.aload_n 0, 1) := dc9_42 (by decide +kernel)
theorem d_MM_branch1_96 : decode y_MM_branch1.2.1 96 = .ok (.getfield 127, 3) := dc9_180 (by decide +kernel)
theorem d_MM_branch1_99 : decode y_MM_branch1.2.1 99 = .ok (.iload 5, 2) := dc9_21 (by decide +kernel)
theorem d_MM_branch1_101 : decode y_MM_branch1.2.1 101 = .ok (.laload, 1) := dc9_47 (by decide +kernel)
theorem d_MM_branch1_103 : decode y_MM_branch1.2.1 103 = .ok (.ireturn, 1) := dc9_172 (by decide +kernel)
theorem k_MM_branch1 {G : mG} {d : Nat} {a0 : Nat} {l1 : Int} {l2 : Int} {l3 : Int} {l4 : Int} {M : mM} {Q : Int → mM → Prop} (hO : mOk M) (hi_l1 : i32 l1) (hi_l2 : i32 l2) (hi_l3 : i32 l3) (hi_l4 : i32 l4)
    (h : mK M a0 = 14 ∧ Ci G y_MM_isCommand d [vr a0, vi l1, vi l2] M (fun x3 M2 => i32 x3 ∧ mOk M2 ∧ ((((x3 = 0) ∨ (l3 < 0)) → (Q (-1) M2)) ∧ (¬ ((x3 = 0) ∨ (l3 < 0)) → (mK M2 a0 = 14 ∧ mK M2 (mR M2 a0 33) = 30 ∧ ((0 : Int) ≤ l1 ∧ l1 < (mN M2 (mR M2 a0 33) : Int)) ∧ mK M2 (mR M2 a0 37) = 15 ∧ Ci G y_MN_at d [vr (mR M2 a0 37), vi ((mI M2 (mR M2 a0 33) (Int.toNat l1)) + l2)] M2 (fun x15 M14 => i32 x15 ∧ mOk M14 ∧ ((((x15 ≤ l3) ∨ ((l4 < 0) ∨ (¬ (l4 ≤ 2)))) → (Q (-1) M14)) ∧ (¬ ((x15 ≤ l3) ∨ ((l4 < 0) ∨ (¬ (l4 ≤ 2)))) → (mK M14 a0 = 14 ∧ mK M14 (mR M14 a0 33) = 30 ∧ ((0 : Int) ≤ l1 ∧ l1 < (mN M14 (mR M14 a0 33) : Int)) ∧ mK M14 (mR M14 a0 36) = 15 ∧ Ci G y_MN_at d [vr (mR M14 a0 36), vi ((mI M14 (mR M14 a0 33) (Int.toNat l1)) + l2)] M14 (fun x28 M27 => i32 x28 ∧ mOk M27 ∧ ((((l4 = 0) → (mK M27 a0 = 14 ∧ mK M27 (mR M27 a0 41) = 30 ∧ ((0 : Int) ≤ x28 + l3 ∧ x28 + l3 < (mN M27 (mR M27 a0 41) : Int)))) ∧ (¬ (l4 = 0) → (((l4 = 1) → (mK M27 a0 = 14 ∧ mK M27 (mR M27 a0 42) = 33 ∧ ((0 : Int) ≤ x28 + l3 ∧ x28 + l3 < (mN M27 (mR M27 a0 42) : Int)))) ∧ (¬ (l4 = 1) → (mK M27 a0 = 14 ∧ mK M27 (mR M27 a0 43) = 33 ∧ ((0 : Int) ≤ x28 + l3 ∧ x28 + l3 < (mN M27 (mR M27 a0 43) : Int))))))) ∧ ∀ v41 : Int, v41 = (if l4 = 0 then mI M27 (mR M27 a0 41) (Int.toNat (x28 + l3)) else (if l4 = 1 then mL M27 (mR M27 a0 42) (Int.toNat (x28 + l3)) else mL M27 (mR M27 a0 43) (Int.toNat (x28 + l3)))) → Q v41 M27))))))))))) :
    Ci G y_MM_branch1 (d + 1) [vr a0, vi l1, vi l2, vi l3, vi l4] M Q := by
  refine wm_open (y := y_MM_branch1) rfl (Nat.le_of_ble_eq_true rfl) (L := [vr a0, vi l1, vi l2, vi l3, vi l4, vd]) rfl ?_
  obtain ⟨h1, h⟩ := h
  refine wm_aload_n d_MM_branch1_0 rfl rfl ?_
  refine wm_iload_n d_MM_branch1_1 rfl rfl ?_
  refine wm_iload_n d_MM_branch1_2 rfl rfl ?_
  refine cf_MM_572 rfl d_MM_branch1_3 h1 (Nat.le_of_ble_eq_true rfl) (Ci.mono h (fun x3 M2 h => ?_))
  obtain ⟨h4, hOM2, h⟩ := h
  have hE0 : ((x3 = 0) ∨ (l3 < 0)) → mWm G y_MM_branch1 (d + 1) 43 [vr a0, vi l1, vi l2, vi l3, vi l4, vd] [] M2 (fun r9 M9 => ∃ x9, r9 = some (vi x9) ∧ Q x9 M9) := by
    intro q8
    have h := h.1 q8
    refine wm_iconst d_MM_branch1_43 ?_
    refine wm_ireturn d_MM_branch1_44 rfl rfl ?_
    exact ⟨_, rfl, h⟩
  have hE1 : ¬ ((x3 = 0) ∨ (l3 < 0)) → mWm G y_MM_branch1 (d + 1) 13 [vr a0, vi l1, vi l2, vi l3, vi l4, vd] [] M2 (fun r9 M9 => ∃ x9, r9 = some (vi x9) ∧ Q x9 M9) := by
    intro q9
    have h := h.2 q9
    obtain ⟨h10, h⟩ := h
    obtain ⟨h11, h⟩ := h
    obtain ⟨h12, h⟩ := h
    obtain ⟨h13, h⟩ := h
    refine wm_iload_n d_MM_branch1_13 rfl rfl ?_
    refine wm_aload_n d_MM_branch1_14 rfl rfl ?_
    refine gf_MM_108 rfl d_MM_branch1_15 h10 ?_
    refine wm_aload_n d_MM_branch1_18 rfl rfl ?_
    refine gf_MM_96 rfl d_MM_branch1_19 h10 ?_
    refine wm_iload_n d_MM_branch1_22 rfl rfl ?_
    refine wm_iald d_MM_branch1_23 h11 h12 ?_
    refine wm_iload_n d_MM_branch1_24 rfl rfl ?_
    refine wm_iadd d_MM_branch1_25 ?_
    refine cf_MM_155 rfl d_MM_branch1_26 h13 (Nat.le_of_ble_eq_true rfl) (Ci.mono h (fun x15 M14 h => ?_))
    obtain ⟨h16, hOM14, h⟩ := h
    have hE0 : ((x15 ≤ l3) ∨ ((l4 < 0) ∨ (¬ (l4 ≤ 2)))) → mWm G y_MM_branch1 (d + 1) 43 [vr a0, vi l1, vi l2, vi l3, vi l4, vd] [] M14 (fun r9 M9 => ∃ x9, r9 = some (vi x9) ∧ Q x9 M9) := by
      intro q21
      have h := h.1 q21
      refine wm_iconst d_MM_branch1_43 ?_
      refine wm_ireturn d_MM_branch1_44 rfl rfl ?_
      exact ⟨_, rfl, h⟩
    have hE1 : ¬ ((x15 ≤ l3) ∨ ((l4 < 0) ∨ (¬ (l4 ≤ 2)))) → mWm G y_MM_branch1 (d + 1) 45 [vr a0, vi l1, vi l2, vi l3, vi l4, vd] [] M14 (fun r9 M9 => ∃ x9, r9 = some (vi x9) ∧ Q x9 M9) := by
      intro q22
      have h := h.2 q22
      obtain ⟨h23, h⟩ := h
      obtain ⟨h24, h⟩ := h
      obtain ⟨h25, h⟩ := h
      obtain ⟨h26, h⟩ := h
      refine wm_aload_n d_MM_branch1_45 rfl rfl ?_
      refine gf_MM_105 rfl d_MM_branch1_46 h23 ?_
      refine wm_aload_n d_MM_branch1_49 rfl rfl ?_
      refine gf_MM_96 rfl d_MM_branch1_50 h23 ?_
      refine wm_iload_n d_MM_branch1_53 rfl rfl ?_
      refine wm_iald d_MM_branch1_54 h24 h25 ?_
      refine wm_iload_n d_MM_branch1_55 rfl rfl ?_
      refine wm_iadd d_MM_branch1_56 ?_
      refine cf_MM_155 rfl d_MM_branch1_57 h26 (Nat.le_of_ble_eq_true rfl) (Ci.mono h (fun x28 M27 h => ?_))
      obtain ⟨h29, hOM27, h⟩ := h
      refine wm_iload_n d_MM_branch1_60 rfl rfl ?_
      refine wm_iadd d_MM_branch1_61 ?_
      refine wm_istore d_MM_branch1_62 (by decide) (L' := [vr a0, vi l1, vi l2, vi l3, vi l4, vi (x28 + l3)]) rfl ?_
      refine wm_iload d_MM_branch1_64 rfl ?_
      obtain ⟨s42, h⟩ := h
      have hJ : ∀ v41 : Int, v41 = (if l4 = 0 then mI M27 (mR M27 a0 41) (Int.toNat (x28 + l3)) else (if l4 = 1 then mL M27 (mR M27 a0 42) (Int.toNat (x28 + l3)) else mL M27 (mR M27 a0 43) (Int.toNat (x28 + l3)))) → mWm G y_MM_branch1 (d + 1) 103 [vd, vd, vd, vd, vd, vd] [vi v41] M27 (fun r9 M9 => ∃ x9, r9 = some (vi x9) ∧ Q x9 M9) := by
        intro v41 e43
        have h := h v41 e43
        refine wm_ireturn d_MM_branch1_103 rfl rfl ?_
        exact ⟨_, rfl, h⟩
      clear h
      obtain ⟨s44, s45⟩ := s42
      refine wm_if_ne (tgt := 79) d_MM_branch1_66 rfl hi_l4 (fun c30 => ?_) (fun c30 => ?_)
      · have s45 := s45 c30
        obtain ⟨s46, s47⟩ := s45
        refine wm_iload d_MM_branch1_79 rfl ?_
        refine wm_iconst d_MM_branch1_81 ?_
        refine wm_icmp_ne (tgt := 95) d_MM_branch1_82 rfl hi_l4 ⟨by decide, by decide⟩ (fun c34 => ?_) (fun c34 => ?_)
        · have s47 := s47 c34
          obtain ⟨h38, h39, h40⟩ := s47
          refine wm_aload_n d_MM_branch1_95 rfl rfl ?_
          refine gf_MM_127 rfl d_MM_branch1_96 h38 ?_
          refine wm_iload d_MM_branch1_99 rfl ?_
          refine wm_lald d_MM_branch1_101 h39 h40 ?_
          refine wm_l2i d_MM_branch1_102 ?_
          refine wm_less (L' := [vd, vd, vd, vd, vd, vd]) ⟨Or.inl rfl, Or.inl rfl, Or.inl rfl, Or.inl rfl, Or.inl rfl, Or.inl rfl, trivial⟩ ?_
          exact hJ (mL M27 (mR M27 a0 43) (Int.toNat (x28 + l3))) (by rw [if_neg c30, if_neg c34])
        · replace c34 := Classical.not_not.mp c34
          have s46 := s46 c34
          obtain ⟨h35, h36, h37⟩ := s46
          refine wm_aload_n d_MM_branch1_85 rfl rfl ?_
          refine gf_MM_124 rfl d_MM_branch1_86 h35 ?_
          refine wm_iload d_MM_branch1_89 rfl ?_
          refine wm_lald d_MM_branch1_91 h36 h37 ?_
          refine wm_goto (tgt := 102) d_MM_branch1_92 rfl ?_
          refine wm_l2i d_MM_branch1_102 ?_
          refine wm_less (L' := [vd, vd, vd, vd, vd, vd]) ⟨Or.inl rfl, Or.inl rfl, Or.inl rfl, Or.inl rfl, Or.inl rfl, Or.inl rfl, trivial⟩ ?_
          exact hJ (mL M27 (mR M27 a0 42) (Int.toNat (x28 + l3))) (by rw [if_neg c30, if_pos c34])
      · replace c30 := Classical.not_not.mp c30
        have s44 := s44 c30
        obtain ⟨h31, h32, h33⟩ := s44
        refine wm_aload_n d_MM_branch1_69 rfl rfl ?_
        refine gf_MM_121 rfl d_MM_branch1_70 h31 ?_
        refine wm_iload d_MM_branch1_73 rfl ?_
        refine wm_iald d_MM_branch1_75 h32 h33 ?_
        refine wm_goto (tgt := 103) d_MM_branch1_76 rfl ?_
        refine wm_less (L' := [vd, vd, vd, vd, vd, vd]) ⟨Or.inl rfl, Or.inl rfl, Or.inl rfl, Or.inl rfl, Or.inl rfl, Or.inl rfl, trivial⟩ ?_
        exact hJ (mI M27 (mR M27 a0 41) (Int.toNat (x28 + l3))) (by rw [if_pos c30])
    clear h
    refine wm_icmp_ge (tgt := 43) d_MM_branch1_29 rfl hi_l3 h16 (fun c19 => ?_) (fun c19 => ?_)
    · exact hE0 (Or.inl c19)
    · refine wm_iload d_MM_branch1_32 rfl ?_
      refine wm_if_lt (tgt := 43) d_MM_branch1_34 rfl hi_l4 (fun c18 => ?_) (fun c18 => ?_)
      · exact hE0 (Or.inr (Or.inl c18))
      · refine wm_iload d_MM_branch1_37 rfl ?_
        refine wm_iconst d_MM_branch1_39 ?_
        refine wm_icmp_le (tgt := 45) d_MM_branch1_40 rfl hi_l4 ⟨by decide, by decide⟩ (fun c17 => ?_) (fun c17 => ?_)
        · exact hE1 (fun z48 => Or.elim z48 c19 (fun z49 => Or.elim z49 c18 (fun z50 => z50 c17)))
        · exact hE0 (Or.inr (Or.inr c17))
  clear h
  refine wm_if_eq (tgt := 43) d_MM_branch1_6 rfl h4 (fun c6 => ?_) (fun c6 => ?_)
  · exact hE0 (Or.inl c6)
  · refine wm_iload_n d_MM_branch1_9 rfl rfl ?_
    refine wm_if_lt (tgt := 43) d_MM_branch1_10 rfl hi_l3 (fun c5 => ?_) (fun c5 => ?_)
    · exact hE0 (Or.inr c5)
    · exact hE1 (fun z51 => Or.elim z51 c6 c5)
theorem d_MM_tellState_0 : decode y_MM_tellState.2.1 0 = .ok (.aload_n 0, 1) := dc9_42 (by decide +kernel)
theorem d_MM_tellState_1 : decode y_MM_tellState.2.1 1 = .ok (.getfield 117, 3) := dc9_180 (by decide +kernel)
theorem d_MM_tellState_4 : decode y_MM_tellState.2.1 4 = .ok (.aload_n 0, 1) := dc9_42 (by decide +kernel)
theorem d_MM_tellState_5 : decode y_MM_tellState.2.1 5 = .ok (.getfield 93, 3) := dc9_180 (by decide +kernel)
theorem d_MM_tellState_8 : decode y_MM_tellState.2.1 8 = .ok (.iload_n 1, 1) := dc9_27 (by decide +kernel)
theorem d_MM_tellState_9 : decode y_MM_tellState.2.1 9 = .ok (.iaload, 1) := dc9_46 (by decide +kernel)
theorem d_MM_tellState_10 : decode y_MM_tellState.2.1 10 = .ok (.invokevirtual 575, 3) := dc9_182 (by decide +kernel)
theorem d_MM_tellState_13 : decode y_MM_tellState.2.1 13 = .ok (.aload_n 0, 1) := dc9_42 (by decide +kernel)
theorem d_MM_tellState_14 : decode y_MM_tellState.2.1 14 = .ok (.getfield 96, 3) := dc9_180 (by decide +kernel)
theorem d_MM_tellState_17 : decode y_MM_tellState.2.1 17 = .ok (.iload_n 1, 1) := dc9_27 (by decide +kernel)
theorem d_MM_tellState_18 : decode y_MM_tellState.2.1 18 = .ok (.iaload, 1) := dc9_46 (by decide +kernel)
theorem d_MM_tellState_19 : decode y_MM_tellState.2.1 19 = .ok (.istore_n 2, 1) := dc9_61 (by decide +kernel)
theorem d_MM_tellState_20 : decode y_MM_tellState.2.1 20 = .ok (.iload_n 2, 1) := dc9_28 (by decide +kernel)
theorem d_MM_tellState_21 : decode y_MM_tellState.2.1 21 = .ok (.aload_n 0, 1) := dc9_42 (by decide +kernel)
theorem d_MM_tellState_22 : decode y_MM_tellState.2.1 22 = .ok (.getfield 96, 3) := dc9_180 (by decide +kernel)
theorem d_MM_tellState_25 : decode y_MM_tellState.2.1 25 = .ok (.iload_n 1, 1) := dc9_27 (by decide +kernel)
theorem d_MM_tellState_26 : decode y_MM_tellState.2.1 26 = .ok (.iaload, 1) := dc9_46 (by decide +kernel)
theorem d_MM_tellState_27 : decode y_MM_tellState.2.1 27 = .ok (.aload_n 0, 1) := dc9_42 (by decide +kernel)
theorem d_MM_tellState_28 : decode y_MM_tellState.2.1 28 = .ok (.getfield 99, 3) := dc9_180 (by decide +kernel)
theorem d_MM_tellState_31 : decode y_MM_tellState.2.1 31 = .ok (.iload_n 1, 1) := dc9_27 (by decide +kernel)
theorem d_MM_tellState_32 : decode y_MM_tellState.2.1 32 = .ok (.iaload, 1) := dc9_46 (by decide +kernel)
theorem d_MM_tellState_33 : decode y_MM_tellState.2.1 33 = .ok (.iadd, 1) := dc9_96 (by decide +kernel)
theorem d_MM_tellState_34 : decode y_MM_tellState.2.1 34 = .ok (.if_icmp .ge 87, 3) := dc9_162 (by decide +kernel)
theorem d_MM_tellState_121 : decode y_MM_tellState.2.1 121 = .ok (.return_, 1) := dc9_177 (by decide +kernel)
theorem d_MM_tellState_37 : decode y_MM_tellState.2.1 37 = .ok (.aload_n 0, 1) := dc9_42 (by decide +kernel)
theorem d_MM_tellState_38 : decode y_MM_tellState.2.1 38 = .ok (.getfield 117, 3) := dc9_180 (by decide +kernel)
theorem d_MM_tellState_41 : decode y_MM_tellState.2.1 41 = .ok (.aload_n 0, 1) := dc9_42 (by decide +kernel)
theorem d_MM_tellState_42 : decode y_MM_tellState.2.1 42 = .ok (.getfield 111, 3) := dc9_180 (by decide +kernel)
theorem d_MM_tellState_45 : decode y_MM_tellState.2.1 45 = .ok (.iload_n 2, 1) := dc9_28 (by decide +kernel)
theorem d_MM_tellState_46 : decode y_MM_tellState.2.1 46 = .ok (.invokevirtual 155, 3) := dc9_182 (by decide +kernel)
theorem d_MM_tellState_49 : decode y_MM_tellState.2.1 49 = .ok (.invokevirtual 578, 3) := dc9_182 (by decide +kernel)
theorem d_MM_tellState_52 : decode y_MM_tellState.2.1 52 = .ok (.aload_n 0, 1) := dc9_42 (by decide +kernel)
theorem d_MM_tellState_53 : decode y_MM_tellState.2.1 53 = .ok (.getfield 105, 3) := dc9_180 (by decide +kernel)
theorem d_MM_tellState_56 : decode y_MM_tellState.2.1 56 = .ok (.iload_n 2, 1) := dc9_28 (by decide +kernel)
theorem d_MM_tellState_57 : decode y_MM_tellState.2.1 57 = .ok (.invokevirtual 155, 3) := dc9_182 (by decide +kernel)
theorem d_MM_tellState_60 : decode y_MM_tellState.2.1 60 = .ok (.istore_n 3, 1) := dc9_62 (by decide +kernel)
theorem d_MM_tellState_61 : decode y_MM_tellState.2.1 61 = .ok (.iload_n 3, 1) := dc9_29 (by decide +kernel)
theorem d_MM_tellState_62 : decode y_MM_tellState.2.1 62 = .ok (.aload_n 0, 1) := dc9_42 (by decide +kernel)
theorem d_MM_tellState_63 : decode y_MM_tellState.2.1 63 = .ok (.getfield 105, 3) := dc9_180 (by decide +kernel)
theorem d_MM_tellState_66 : decode y_MM_tellState.2.1 66 = .ok (.iload_n 2, 1) := dc9_28 (by decide +kernel)
theorem d_MM_tellState_67 : decode y_MM_tellState.2.1 67 = .ok (.invokevirtual 155, 3) := dc9_182 (by decide +kernel)
theorem d_MM_tellState_70 : decode y_MM_tellState.2.1 70 = .ok (.aload_n 0, 1) := dc9_42 (by decide +kernel)
theorem d_MM_tellState_71 : decode y_MM_tellState.2.1 71 = .ok (.getfield 108, 3) := dc9_180 (by decide +kernel)
theorem d_MM_tellState_74 : decode y_MM_tellState.2.1 74 = .ok (.iload_n 2, 1) := dc9_28 (by decide +kernel)
theorem d_MM_tellState_75 : decode y_MM_tellState.2.1 75 = .ok (.invokevirtual 155, 3) := dc9_182 (by decide +kernel)
theorem d_MM_tellState_78 : decode y_MM_tellState.2.1 78 = .ok (.iadd, 1) := dc9_96 (by decide +kernel)
theorem d_MM_tellState_79 : decode y_MM_tellState.2.1 79 = .ok (.if_icmp .ge 36, 3) := dc9_162 (by decide +kernel)
theorem d_MM_tellState_115 : decode y_MM_tellState.2.1 115 = .ok (.iinc 2 1, 3) := by decide +kernel
theorem d_MM_tellState_118 : decode y_MM_tellState.2.1 118 = .ok (.goto (-98), 3) := dc9_167 (by decide +kernel)
theorem d_MM_tellState_82 : decode y_MM_tellState.2.1 82 = .ok (.aload_n 0, 1) := dc9_42 (by decide +kernel)
theorem d_MM_tellState_83 : decode y_MM_tellState.2.1 83 = .ok (.getfield 117, 3) := dc9_180 (by decide +kernel)
theorem d_MM_tellState_86 : decode y_MM_tellState.2.1 86 = .ok (.aload_n 0, 1) := dc9_42 (by decide +kernel)
theorem d_MM_tellState_87 : decode y_MM_tellState.2.1 87 = .ok (.getfield 121, 3) := dc9_180 (by decide +kernel)
theorem d_MM_tellState_90 : decode y_MM_tellState.2.1 90 = .ok (.iload_n 3, 1) := dc9_29 (by decide +kernel)
theorem d_MM_tellState_91 : decode y_MM_tellState.2.1 91 = .ok (.iaload, 1) := dc9_46 (by decide +kernel)
theorem d_MM_tellState_92 : decode y_MM_tellState.2.1 92 = .ok (.aload_n 0, 1) := dc9_42 (by decide +kernel)
theorem d_MM_tellState_93 : decode y_MM_tellState.2.1 93 = .ok (.getfield 124, 3) := dc9_180 (by decide +kernel)
theorem d_MM_tellState_96 : decode y_MM_tellState.2.1 96 = .ok (.iload_n 3, 1) := dc9_29 (by decide +kernel)
theorem d_MM_tellState_97 : decode y_MM_tellState.2.1 97 = .ok (.laload, 1) := dc9_47 (by decide +kernel)
theorem d_MM_tellState_98 : decode y_MM_tellState.2.1 98 = .ok (.l2i, 1) := dc9_136 (by decide +kernel)
theorem d_MM_tellState_99 : decode y_MM_tellState.2.1 99 = .ok (.aload_n 0, 1) := dc9_42 (by decide +kernel)
theorem d_MM_tellState_100 : decode y_MM_tellState.2.1 100 = .ok (.getfield 127, 3) := dc9_180 (by decide +kernel)
theorem d_MM_tellState_103 : decode y_MM_tellState.2.1 103 = .ok (.iload_n 3, 1) := dc9_29 (by decide +kernel)
theorem d_MM_tellState_104 : decode y_MM_tellState.2.1 104 = .ok (.laload, 1) := dc9_47 (by decide +kernel)
theorem d_MM_tellState_105 : decode y_MM_tellState.2.1 105 = .ok (.l2i, 1) := dc9_136 (by decide +kernel)
theorem d_MM_tellState_106 : decode y_MM_tellState.2.1 106 = .ok (.invokevirtual 581, 3) := dc9_182 (by decide +kernel)
theorem d_MM_tellState_109 : decode y_MM_tellState.2.1 109 = .ok (.iinc 3 1, 3) := by decide +kernel
theorem d_MM_tellState_112 : decode y_MM_tellState.2.1 112 = .ok (.goto (-51), 3) := dc9_167 (by decide +kernel)
def h_MM_tellState_20 (G : mG) (d : Nat) (a0 : Nat) (l1 : Int) (l2 : Int) (M : mM) (Q : mM → Prop) : Prop := mWm G y_MM_tellState (d + 1) 20 [vr a0, vi l1, vi l2, vd] [] M (fun r9 M9 => r9 = none ∧ Q M9)
def h_MM_tellState_61 (G : mG) (d : Nat) (a0 : Nat) (l1 : Int) (l2 : Int) (l3 : Int) (M : mM) (Q : mM → Prop) : Prop := mWm G y_MM_tellState (d + 1) 61 [vr a0, vi l1, vi l2, vi l3] [] M (fun r9 M9 => r9 = none ∧ Q M9)
theorem k_MM_tellState {G : mG} {d : Nat} {a0 : Nat} {l1 : Int} {M : mM} {Q : mM → Prop} (hO : mOk M) (hi_l1 : i32 l1)
    (h : mK M a0 = 14 ∧ mK M (mR M a0 32) = 30 ∧ ((0 : Int) ≤ l1 ∧ l1 < (mN M (mR M a0 32) : Int)) ∧ mK M (mR M a0 39) = 17 ∧ Cv G y_MS_addState d [vr (mR M a0 39), vi (mI M (mR M a0 32) (Int.toNat l1))] M (fun M5 => mOk M5 ∧ (mK M5 a0 = 14 ∧ mK M5 (mR M5 a0 33) = 30 ∧ ((0 : Int) ≤ l1 ∧ l1 < (mN M5 (mR M5 a0 33) : Int)) ∧ h_MM_tellState_20 G d a0 l1 (mI M5 (mR M5 a0 33) (Int.toNat l1)) M5 Q))) :
    Cv G y_MM_tellState (d + 1) [vr a0, vi l1] M Q := by
  refine wm_open (y := y_MM_tellState) rfl (Nat.le_of_ble_eq_true rfl) (L := [vr a0, vi l1, vd, vd]) rfl ?_
  obtain ⟨h1, h⟩ := h
  obtain ⟨h2, h⟩ := h
  obtain ⟨h3, h⟩ := h
  obtain ⟨h4, h⟩ := h
  refine wm_aload_n d_MM_tellState_0 rfl rfl ?_
  refine gf_MM_117 rfl d_MM_tellState_1 h1 ?_
  refine wm_aload_n d_MM_tellState_4 rfl rfl ?_
  refine gf_MM_93 rfl d_MM_tellState_5 h1 ?_
  refine wm_iload_n d_MM_tellState_8 rfl rfl ?_
  refine wm_iald d_MM_tellState_9 h2 h3 ?_
  refine cf_MM_575 rfl d_MM_tellState_10 h4 (Nat.le_of_ble_eq_true rfl) (Cv.mono h (fun M5 h => ?_))
  obtain ⟨hOM5, h⟩ := h
  obtain ⟨h8, h⟩ := h
  obtain ⟨h9, h⟩ := h
  obtain ⟨h10, h⟩ := h
  refine wm_aload_n d_MM_tellState_13 rfl rfl ?_
  refine gf_MM_96 rfl d_MM_tellState_14 h8 ?_
  refine wm_iload_n d_MM_tellState_17 rfl rfl ?_
  refine wm_iald d_MM_tellState_18 h9 h10 ?_
  refine wm_istore_n d_MM_tellState_19 rfl (by decide) (L' := [vr a0, vi l1, vi (mI M5 (mR M5 a0 33) (Int.toNat l1)), vd]) rfl ?_
  exact h
theorem k_MM_tellState_20 {G : mG} {d : Nat} {a0 : Nat} {l1 : Int} {l2 : Int} {M : mM} {Q : mM → Prop} (hO : mOk M) (hi_l1 : i32 l1) (hi_l2 : i32 l2)
    (h : mK M a0 = 14 ∧ mK M (mR M a0 33) = 30 ∧ ((0 : Int) ≤ l1 ∧ l1 < (mN M (mR M a0 33) : Int)) ∧ mK M (mR M a0 34) = 30 ∧ ((0 : Int) ≤ l1 ∧ l1 < (mN M (mR M a0 34) : Int)) ∧ i32 ((mI M (mR M a0 33) (Int.toNat l1)) + (mI M (mR M a0 34) (Int.toNat l1))) ∧ (((mI M (mR M a0 33) (Int.toNat l1)) + (mI M (mR M a0 34) (Int.toNat l1)) ≤ l2) → (Q M)) ∧ (¬ ((mI M (mR M a0 33) (Int.toNat l1)) + (mI M (mR M a0 34) (Int.toNat l1)) ≤ l2) → (mK M (mR M a0 38) = 15 ∧ Ci G y_MN_at d [vr (mR M a0 38), vi l2] M (fun x22 M21 => i32 x22 ∧ mOk M21 ∧ (mK M21 (mR M a0 39) = 17 ∧ Cv G y_MS_addCommand d [vr (mR M a0 39), vi x22] M21 (fun M25 => mOk M25 ∧ (mK M25 a0 = 14 ∧ mK M25 (mR M25 a0 36) = 15 ∧ Ci G y_MN_at d [vr (mR M25 a0 36), vi l2] M25 (fun x31 M30 => i32 x31 ∧ mOk M30 ∧ (h_MM_tellState_61 G d a0 l1 l2 x31 M30 Q))))))))) :
    h_MM_tellState_20 G d a0 l1 l2 M Q := by
  unfold h_MM_tellState_20
  obtain ⟨h11, h⟩ := h
  obtain ⟨h12, h⟩ := h
  obtain ⟨h13, h⟩ := h
  obtain ⟨h14, h⟩ := h
  obtain ⟨h15, h⟩ := h
  obtain ⟨h18, h⟩ := h
  refine wm_iload_n d_MM_tellState_20 rfl rfl ?_
  refine wm_aload_n d_MM_tellState_21 rfl rfl ?_
  refine gf_MM_96 rfl d_MM_tellState_22 h11 ?_
  refine wm_iload_n d_MM_tellState_25 rfl rfl ?_
  refine wm_iald d_MM_tellState_26 h12 h13 ?_
  refine wm_aload_n d_MM_tellState_27 rfl rfl ?_
  refine gf_MM_99 rfl d_MM_tellState_28 h11 ?_
  refine wm_iload_n d_MM_tellState_31 rfl rfl ?_
  refine wm_iald d_MM_tellState_32 h14 h15 ?_
  refine wm_iadd d_MM_tellState_33 ?_
  refine wm_icmp_ge (tgt := 121) d_MM_tellState_34 rfl hi_l2 h18 (fun c19 => ?_) (fun c19 => ?_)
  · replace h := h.1 c19
    refine wm_return d_MM_tellState_121 rfl ?_
    exact ⟨rfl, h⟩
  · replace h := h.2 c19
    obtain ⟨h20, h⟩ := h
    refine wm_aload_n d_MM_tellState_37 rfl rfl ?_
    refine gf_MM_117 rfl d_MM_tellState_38 h11 ?_
    refine wm_aload_n d_MM_tellState_41 rfl rfl ?_
    refine gf_MM_111 rfl d_MM_tellState_42 h11 ?_
    refine wm_iload_n d_MM_tellState_45 rfl rfl ?_
    refine cf_MM_155 rfl d_MM_tellState_46 h20 (Nat.le_of_ble_eq_true rfl) (Ci.mono h (fun x22 M21 h => ?_))
    obtain ⟨h23, hOM21, h⟩ := h
    obtain ⟨h24, h⟩ := h
    refine cf_MM_578 rfl d_MM_tellState_49 h24 (Nat.le_of_ble_eq_true rfl) (Cv.mono h (fun M25 h => ?_))
    obtain ⟨hOM25, h⟩ := h
    obtain ⟨h28, h⟩ := h
    obtain ⟨h29, h⟩ := h
    refine wm_aload_n d_MM_tellState_52 rfl rfl ?_
    refine gf_MM_105 rfl d_MM_tellState_53 h28 ?_
    refine wm_iload_n d_MM_tellState_56 rfl rfl ?_
    refine cf_MM_155 rfl d_MM_tellState_57 h29 (Nat.le_of_ble_eq_true rfl) (Ci.mono h (fun x31 M30 h => ?_))
    obtain ⟨h32, hOM30, h⟩ := h
    refine wm_istore_n d_MM_tellState_60 rfl (by decide) (L' := [vr a0, vi l1, vi l2, vi x31]) rfl ?_
    exact h
theorem k_MM_tellState_61 {G : mG} {d : Nat} {a0 : Nat} {l1 : Int} {l2 : Int} {l3 : Int} {M : mM} {Q : mM → Prop} (hO : mOk M) (hi_l1 : i32 l1) (hi_l2 : i32 l2) (hi_l3 : i32 l3)
    (h : mK M a0 = 14 ∧ mK M (mR M a0 36) = 15 ∧ Ci G y_MN_at d [vr (mR M a0 36), vi l2] M (fun x36 M35 => i32 x36 ∧ mOk M35 ∧ (mK M35 a0 = 14 ∧ mK M35 (mR M35 a0 37) = 15 ∧ Ci G y_MN_at d [vr (mR M35 a0 37), vi l2] M35 (fun x41 M40 => i32 x41 ∧ mOk M40 ∧ (i32 (x36 + x41) ∧ ((x36 + x41 ≤ l3) → (h_MM_tellState_20 G d a0 l1 (l2 + 1) M40 Q)) ∧ (¬ (x36 + x41 ≤ l3) → (mK M40 a0 = 14 ∧ mK M40 (mR M40 a0 41) = 30 ∧ ((0 : Int) ≤ l3 ∧ l3 < (mN M40 (mR M40 a0 41) : Int)) ∧ mK M40 (mR M40 a0 42) = 33 ∧ ((0 : Int) ≤ l3 ∧ l3 < (mN M40 (mR M40 a0 42) : Int)) ∧ mK M40 (mR M40 a0 43) = 33 ∧ ((0 : Int) ≤ l3 ∧ l3 < (mN M40 (mR M40 a0 43) : Int)) ∧ mK M40 (mR M40 a0 39) = 17 ∧ Cv G y_MS_addBranch d [vr (mR M40 a0 39), vi (mI M40 (mR M40 a0 41) (Int.toNat l3)), vi (mL M40 (mR M40 a0 42) (Int.toNat l3)), vi (mL M40 (mR M40 a0 43) (Int.toNat l3))] M40 (fun M55 => mOk M55 ∧ (h_MM_tellState_61 G d a0 l1 l2 (l3 + 1) M55 Q))))))))) :
    h_MM_tellState_61 G d a0 l1 l2 l3 M Q := by
  unfold h_MM_tellState_61
  obtain ⟨h33, h⟩ := h
  obtain ⟨h34, h⟩ := h
  refine wm_iload_n d_MM_tellState_61 rfl rfl ?_
  refine wm_aload_n d_MM_tellState_62 rfl rfl ?_
  refine gf_MM_105 rfl d_MM_tellState_63 h33 ?_
  refine wm_iload_n d_MM_tellState_66 rfl rfl ?_
  refine cf_MM_155 rfl d_MM_tellState_67 h34 (Nat.le_of_ble_eq_true rfl) (Ci.mono h (fun x36 M35 h => ?_))
  obtain ⟨h37, hOM35, h⟩ := h
  obtain ⟨h38, h⟩ := h
  obtain ⟨h39, h⟩ := h
  refine wm_aload_n d_MM_tellState_70 rfl rfl ?_
  refine gf_MM_108 rfl d_MM_tellState_71 h38 ?_
  refine wm_iload_n d_MM_tellState_74 rfl rfl ?_
  refine cf_MM_155 rfl d_MM_tellState_75 h39 (Nat.le_of_ble_eq_true rfl) (Ci.mono h (fun x41 M40 h => ?_))
  obtain ⟨h42, hOM40, h⟩ := h
  obtain ⟨h45, h⟩ := h
  refine wm_iadd d_MM_tellState_78 ?_
  refine wm_icmp_ge (tgt := 115) d_MM_tellState_79 rfl hi_l3 h45 (fun c46 => ?_) (fun c46 => ?_)
  · replace h := h.1 c46
    refine wm_iinc d_MM_tellState_115 (by decide) rfl (L' := [vr a0, vi l1, vi (l2 + 1), vi l3]) rfl ?_
    refine wm_goto (tgt := 20) d_MM_tellState_118 rfl ?_
    refine wm_less (L' := [vr a0, vi l1, vi (l2 + 1), vd]) ⟨Or.inr rfl, Or.inr rfl, Or.inr rfl, Or.inl rfl, trivial⟩ ?_
    exact h
  · replace h := h.2 c46
    obtain ⟨h47, h⟩ := h
    obtain ⟨h48, h⟩ := h
    obtain ⟨h49, h⟩ := h
    obtain ⟨h50, h⟩ := h
    obtain ⟨h51, h⟩ := h
    obtain ⟨h52, h⟩ := h
    obtain ⟨h53, h⟩ := h
    obtain ⟨h54, h⟩ := h
    refine wm_aload_n d_MM_tellState_82 rfl rfl ?_
    refine gf_MM_117 rfl d_MM_tellState_83 h47 ?_
    refine wm_aload_n d_MM_tellState_86 rfl rfl ?_
    refine gf_MM_121 rfl d_MM_tellState_87 h47 ?_
    refine wm_iload_n d_MM_tellState_90 rfl rfl ?_
    refine wm_iald d_MM_tellState_91 h48 h49 ?_
    refine wm_aload_n d_MM_tellState_92 rfl rfl ?_
    refine gf_MM_124 rfl d_MM_tellState_93 h47 ?_
    refine wm_iload_n d_MM_tellState_96 rfl rfl ?_
    refine wm_lald d_MM_tellState_97 h50 h51 ?_
    refine wm_l2i d_MM_tellState_98 ?_
    refine wm_aload_n d_MM_tellState_99 rfl rfl ?_
    refine gf_MM_127 rfl d_MM_tellState_100 h47 ?_
    refine wm_iload_n d_MM_tellState_103 rfl rfl ?_
    refine wm_lald d_MM_tellState_104 h52 h53 ?_
    refine wm_l2i d_MM_tellState_105 ?_
    refine cf_MM_581 rfl d_MM_tellState_106 h54 (Nat.le_of_ble_eq_true rfl) (Cv.mono h (fun M55 h => ?_))
    obtain ⟨hOM55, h⟩ := h
    refine wm_iinc d_MM_tellState_109 (by decide) rfl (L' := [vr a0, vi l1, vi l2, vi (l3 + 1)]) rfl ?_
    refine wm_goto (tgt := 61) d_MM_tellState_112 rfl ?_
    exact h
theorem d_MM_solve_0 : decode y_MM_solve.2.1 0 = .ok (.aload_n 0, 1) := dc9_42 (by decide +kernel)
theorem d_MM_solve_1 : decode y_MM_solve.2.1 1 = .ok (.aload_n 0, 1) := dc9_42 (by decide +kernel)
theorem d_MM_solve_2 : decode y_MM_solve.2.1 2 = .ok (.getfield 532, 3) := dc9_180 (by decide +kernel)
theorem d_MM_solve_5 : decode y_MM_solve.2.1 5 = .ok (.ifCond .ne 7, 3) := dc9_154 (by decide +kernel)
theorem d_MM_solve_8 : decode y_MM_solve.2.1 8 = .ok (.iconst 1, 1) := dc9_4 (by decide +kernel)
theorem d_MM_solve_9 : decode y_MM_solve.2.1 9 = .ok (.goto 4, 3) := dc9_167 (by decide +kernel)
theorem d_MM_solve_12 : decode y_MM_solve.2.1 12 = .ok (.iconst 0, 1) := dc9_3 (by decide +kernel)
theorem d_MM_solve_13 : decode y_MM_solve.2.1 13 = .ok (.putfield 142, 3) := dc9_181 (by decide +kernel)
theorem d_MM_solve_16 : decode y_MM_solve.2.1 16 = .ok (.aload_n 0, 1) := dc9_42 (by decide +kernel)
theorem d_MM_solve_17 : decode y_MM_solve.2.1 17 = .ok (.getfield 142, 3) := dc9_180 (by decide +kernel)
theorem d_MM_solve_20 : decode y_MM_solve.2.1 20 = .ok (.ifCond .le 7, 3) := dc9_158 (by decide +kernel)
theorem d_MM_solve_27 : decode y_MM_solve.2.1 27 = .ok (.aload_n 0, 1) := dc9_42 (by decide +kernel)
theorem d_MM_solve_28 : decode y_MM_solve.2.1 28 = .ok (.getfield 117, 3) := dc9_180 (by decide +kernel)
theorem d_MM_solve_23 : decode y_MM_solve.2.1 23 = .ok (.iconst 0, 1) := dc9_3 (by decide +kernel)
theorem d_MM_solve_24 : decode y_MM_solve.2.1 24 = .ok (.goto 10, 3) := dc9_167 (by decide +kernel)
theorem d_MM_solve_34 : decode y_MM_solve.2.1 34 = .ok (.ireturn, 1) := dc9_172 (by decide +kernel)
theorem d_MM_solve_31 : decode y_MM_solve.2.1 31 = .ok (.invokevirtual 584, 3) := dc9_182 (by decide +kernel)
theorem k_MM_solve {G : mG} {d : Nat} {a0 : Nat} {M : mM} {Q : Int → mM → Prop} (hO : mOk M)
    (h : mK M a0 = 14 ∧ ∀ v3 : Int, v3 = (if (mI M a0 29 = 0) then 1 else 0) → ∀ M8, M8 = mUI M a0 0 v3 → ((mI M8 a0 0 ≤ 0) → (mK M8 (mR M8 a0 39) = 17 ∧ Ci G y_MS_solve d [vr (mR M8 a0 39)] M8 (fun x15 M14 => i32 x15 ∧ mOk M14 ∧ (Q x15 M14)))) ∧ (¬ (mI M8 a0 0 ≤ 0) → (Q 0 M8))) :
    Ci G y_MM_solve (d + 1) [vr a0] M Q := by
  refine wm_open (y := y_MM_solve) rfl (Nat.le_of_ble_eq_true rfl) (L := [vr a0]) rfl ?_
  obtain ⟨h1, h⟩ := h
  refine wm_aload_n d_MM_solve_0 rfl rfl ?_
  refine wm_aload_n d_MM_solve_1 rfl rfl ?_
  refine gf_MM_532 rfl d_MM_solve_2 h1 ?_
  have hJ : ∀ v3 : Int, v3 = (if (mI M a0 29 = 0) then 1 else 0) → mWm G y_MM_solve (d + 1) 13 [vr a0] [vi v3, vr a0] M (fun r9 M9 => ∃ x9, r9 = some (vi x9) ∧ Q x9 M9) := by
    intro v3 e5
    have h := h v3 e5
    have h6 : i32 v3 := by rw [e5]; (repeat' split) <;> first | exact ⟨by decide, by decide⟩ | exact ⟨by decide, by decide⟩
    have h7 : (v3 = 0 ∨ v3 = 1) := by rw [e5]; (repeat' split) <;> decide
    obtain ⟨M8, e9⟩ : ∃ M8, M8 = mUI M a0 0 v3 := ⟨_, rfl⟩
    replace h := h M8 e9
    have hOM8 : mOk M8 := by rw [e9]; exact mOk_UI hO h6
    refine pf_MM_142 rfl d_MM_solve_13 h1 h6 e9 ?_
    refine wm_aload_n d_MM_solve_16 rfl rfl ?_
    refine gf_MM_142 rfl d_MM_solve_17 (by rw [e9]; exact h1) ?_
    refine wm_if_le (tgt := 27) d_MM_solve_20 rfl (hOM8 _ _).1 (fun c12 => ?_) (fun c12 => ?_)
    · replace h := h.1 c12
      obtain ⟨h13, h⟩ := h
      refine wm_aload_n d_MM_solve_27 rfl rfl ?_
      refine gf_MM_117 rfl d_MM_solve_28 (by rw [e9]; exact h1) ?_
      refine cf_MM_584 rfl d_MM_solve_31 h13 (Nat.le_of_ble_eq_true rfl) (Ci.mono h (fun x15 M14 h => ?_))
      obtain ⟨h16, hOM14, h⟩ := h
      refine wm_ireturn d_MM_solve_34 rfl rfl ?_
      exact ⟨_, rfl, h⟩
    · replace h := h.2 c12
      refine wm_iconst d_MM_solve_23 ?_
      refine wm_goto (tgt := 34) d_MM_solve_24 rfl ?_
      refine wm_ireturn d_MM_solve_34 rfl rfl ?_
      exact ⟨_, rfl, h⟩
  clear h
  refine wm_if_ne (tgt := 12) d_MM_solve_5 rfl (hO _ _).1 (fun c2 => ?_) (fun c2 => ?_)
  · refine wm_iconst d_MM_solve_12 ?_
    exact hJ 0 (if_neg c2).symm
  · replace c2 := Classical.not_not.mp c2
    refine wm_iconst d_MM_solve_8 ?_
    refine wm_goto (tgt := 13) d_MM_solve_9 rfl ?_
    exact hJ 1 (if_pos c2).symm
theorem d_MM_within_0 : decode y_MM_within.2.1 0 = .ok (.aload_n 0, 1) := dc9_42 (by decide +kernel)
theorem d_MM_within_1 : decode y_MM_within.2.1 1 = .ok (.iload_n 1, 1) := dc9_27 (by decide +kernel)
theorem d_MM_within_2 : decode y_MM_within.2.1 2 = .ok (.ifCond .lt 9, 3) := dc9_155 (by decide +kernel)
theorem d_MM_within_11 : decode y_MM_within.2.1 11 = .ok (.iconst 1, 1) := dc9_4 (by decide +kernel)
theorem d_MM_within_12 : decode y_MM_within.2.1 12 = .ok (.goto 15, 3) := dc9_167 (by decide +kernel)
theorem d_MM_within_5 : decode y_MM_within.2.1 5 = .ok (.iload_n 1, 1) := dc9_27 (by decide +kernel)
theorem d_MM_within_6 : decode y_MM_within.2.1 6 = .ok (.bipush 32, 2) := dc9_16 (by decide +kernel)
theorem d_MM_within_8 : decode y_MM_within.2.1 8 = .ok (.if_icmp .le 7, 3) := dc9_164 (by decide +kernel)
theorem d_MM_within_15 : decode y_MM_within.2.1 15 = .ok (.aload_n 0, 1) := dc9_42 (by decide +kernel)
theorem d_MM_within_16 : decode y_MM_within.2.1 16 = .ok (.getfield 532, 3) := dc9_180 (by decide +kernel)
theorem d_MM_within_19 : decode y_MM_within.2.1 19 = .ok (.ifCond .ne 7, 3) := dc9_154 (by decide +kernel)
theorem d_MM_within_22 : decode y_MM_within.2.1 22 = .ok (.iconst 2, 1) := dc9_5 (by decide +kernel)
theorem d_MM_within_23 : decode y_MM_within.2.1 23 = .ok (.goto 4, 3) := dc9_167 (by decide +kernel)
theorem d_MM_within_26 : decode y_MM_within.2.1 26 = .ok (.iconst 0, 1) := dc9_3 (by decide +kernel)
theorem d_MM_within_27 : decode y_MM_within.2.1 27 = .ok (.putfield 142, 3) := dc9_181 (by decide +kernel)
theorem d_MM_within_30 : decode y_MM_within.2.1 30 = .ok (.aload_n 0, 1) := dc9_42 (by decide +kernel)
theorem d_MM_within_31 : decode y_MM_within.2.1 31 = .ok (.getfield 142, 3) := dc9_180 (by decide +kernel)
theorem d_MM_within_34 : decode y_MM_within.2.1 34 = .ok (.ifCond .le 7, 3) := dc9_158 (by decide +kernel)
theorem d_MM_within_41 : decode y_MM_within.2.1 41 = .ok (.aload_n 0, 1) := dc9_42 (by decide +kernel)
theorem d_MM_within_42 : decode y_MM_within.2.1 42 = .ok (.getfield 117, 3) := dc9_180 (by decide +kernel)
theorem d_MM_within_45 : decode y_MM_within.2.1 45 = .ok (.iload_n 1, 1) := dc9_27 (by decide +kernel)
theorem d_MM_within_37 : decode y_MM_within.2.1 37 = .ok (.iconst 0, 1) := dc9_3 (by decide +kernel)
theorem d_MM_within_38 : decode y_MM_within.2.1 38 = .ok (.goto 11, 3) := dc9_167 (by decide +kernel)
theorem d_MM_within_49 : decode y_MM_within.2.1 49 = .ok (.ireturn, 1) := dc9_172 (by decide +kernel)
theorem d_MM_within_46 : decode y_MM_within.2.1 46 = .ok (.invokevirtual 587, 3) := dc9_182 (by decide +kernel)
theorem k_MM_within {G : mG} {d : Nat} {a0 : Nat} {l1 : Int} {M : mM} {Q : Int → mM → Prop} (hO : mOk M) (hi_l1 : i32 l1)
    (h : (¬ (l1 < 0) → ((l1 ≤ 32) → mK M a0 = 14)) ∧ ∀ v5 : Int, v5 = (if l1 < 0 then 1 else (if l1 ≤ 32 then (if mI M a0 29 = 0 then 2 else 0) else 1)) → mK M a0 = 14 ∧ ∀ M10, M10 = mUI M a0 0 v5 → ((mI M10 a0 0 ≤ 0) → (mK M10 (mR M10 a0 39) = 17 ∧ Ci G y_MS_within d [vr (mR M10 a0 39), vi l1] M10 (fun x17 M16 => i32 x17 ∧ mOk M16 ∧ (Q x17 M16)))) ∧ (¬ (mI M10 a0 0 ≤ 0) → (Q 0 M10))) :
    Ci G y_MM_within (d + 1) [vr a0, vi l1] M Q := by
  refine wm_open (y := y_MM_within) rfl (Nat.le_of_ble_eq_true rfl) (L := [vr a0, vi l1]) rfl ?_
  refine wm_aload_n d_MM_within_0 rfl rfl ?_
  refine wm_iload_n d_MM_within_1 rfl rfl ?_
  obtain ⟨s6, h⟩ := h
  have hJ : ∀ v5 : Int, v5 = (if l1 < 0 then 1 else (if l1 ≤ 32 then (if mI M a0 29 = 0 then 2 else 0) else 1)) → mWm G y_MM_within (d + 1) 27 [vr a0, vi l1] [vi v5, vr a0] M (fun r9 M9 => ∃ x9, r9 = some (vi x9) ∧ Q x9 M9) := by
    intro v5 e7
    have h := h v5 e7
    have h8 : i32 v5 := by rw [e7]; (repeat' split) <;> first | exact ⟨by decide, by decide⟩ | exact ⟨by decide, by decide⟩ | exact ⟨by decide, by decide⟩
    obtain ⟨h9, h⟩ := h
    obtain ⟨M10, e11⟩ : ∃ M10, M10 = mUI M a0 0 v5 := ⟨_, rfl⟩
    replace h := h M10 e11
    have hOM10 : mOk M10 := by rw [e11]; exact mOk_UI hO h8
    refine pf_MM_142 rfl d_MM_within_27 h9 h8 e11 ?_
    refine wm_aload_n d_MM_within_30 rfl rfl ?_
    refine gf_MM_142 rfl d_MM_within_31 (by rw [e11]; exact h9) ?_
    refine wm_if_le (tgt := 41) d_MM_within_34 rfl (hOM10 _ _).1 (fun c14 => ?_) (fun c14 => ?_)
    · replace h := h.1 c14
      obtain ⟨h15, h⟩ := h
      refine wm_aload_n d_MM_within_41 rfl rfl ?_
      refine gf_MM_117 rfl d_MM_within_42 (by rw [e11]; exact h9) ?_
      refine wm_iload_n d_MM_within_45 rfl rfl ?_
      refine cf_MM_587 rfl d_MM_within_46 h15 (Nat.le_of_ble_eq_true rfl) (Ci.mono h (fun x17 M16 h => ?_))
      obtain ⟨h18, hOM16, h⟩ := h
      refine wm_ireturn d_MM_within_49 rfl rfl ?_
      exact ⟨_, rfl, h⟩
    · replace h := h.2 c14
      refine wm_iconst d_MM_within_37 ?_
      refine wm_goto (tgt := 49) d_MM_within_38 rfl ?_
      refine wm_ireturn d_MM_within_49 rfl rfl ?_
      exact ⟨_, rfl, h⟩
  clear h
  have s19 := s6
  refine wm_if_lt (tgt := 11) d_MM_within_2 rfl hi_l1 (fun c1 => ?_) (fun c1 => ?_)
  · refine wm_iconst d_MM_within_11 ?_
    refine wm_goto (tgt := 27) d_MM_within_12 rfl ?_
    exact hJ 1 (by rw [if_pos c1])
  · have s19 := s19 c1
    have s20 := s19
    refine wm_iload_n d_MM_within_5 rfl rfl ?_
    refine wm_bipush d_MM_within_6 (by decide) ?_
    refine wm_icmp_le (tgt := 15) d_MM_within_8 rfl hi_l1 ⟨by decide, by decide⟩ (fun c2 => ?_) (fun c2 => ?_)
    · have s20 := s20 c2
      have h3 := s20
      refine wm_aload_n d_MM_within_15 rfl rfl ?_
      refine gf_MM_532 rfl d_MM_within_16 h3 ?_
      refine wm_if_ne (tgt := 26) d_MM_within_19 rfl (hO _ _).1 (fun c4 => ?_) (fun c4 => ?_)
      · refine wm_iconst d_MM_within_26 ?_
        exact hJ 0 (by rw [if_neg c1, if_pos c2, if_neg c4])
      · replace c4 := Classical.not_not.mp c4
        refine wm_iconst d_MM_within_22 ?_
        refine wm_goto (tgt := 27) d_MM_within_23 rfl ?_
        exact hJ 2 (by rw [if_neg c1, if_pos c2, if_pos c4])
    · refine wm_iconst d_MM_within_11 ?_
      refine wm_goto (tgt := 27) d_MM_within_12 rfl ?_
      exact hJ 1 (by rw [if_neg c1, if_neg c2])
theorem d_MM_choose1_0 : decode y_MM_choose1.2.1 0 = .ok (.aload_n 0, 1) := dc9_42 (by decide +kernel)
theorem d_MM_choose1_1 : decode y_MM_choose1.2.1 1 = .ok (.aload_n 0, 1) := dc9_42 (by decide +kernel)
theorem d_MM_choose1_2 : decode y_MM_choose1.2.1 2 = .ok (.iload_n 1, 1) := dc9_27 (by decide +kernel)
theorem d_MM_choose1_3 : decode y_MM_choose1.2.1 3 = .ok (.iload_n 2, 1) := dc9_28 (by decide +kernel)
theorem d_MM_choose1_4 : decode y_MM_choose1.2.1 4 = .ok (.invokevirtual 572, 3) := dc9_182 (by decide +kernel)
theorem d_MM_choose1_7 : decode y_MM_choose1.2.1 7 = .ok (.ifCond .eq 7, 3) := dc9_153 (by decide +kernel)
theorem d_MM_choose1_14 : decode y_MM_choose1.2.1 14 = .ok (.iconst 1, 1) := dc9_4 (by decide +kernel)
theorem d_MM_choose1_10 : decode y_MM_choose1.2.1 10 = .ok (.iconst 0, 1) := dc9_3 (by decide +kernel)
theorem d_MM_choose1_11 : decode y_MM_choose1.2.1 11 = .ok (.goto 4, 3) := dc9_167 (by decide +kernel)
theorem d_MM_choose1_15 : decode y_MM_choose1.2.1 15 = .ok (.putfield 142, 3) := dc9_181 (by decide +kernel)
theorem d_MM_choose1_18 : decode y_MM_choose1.2.1 18 = .ok (.aload_n 0, 1) := dc9_42 (by decide +kernel)
theorem d_MM_choose1_19 : decode y_MM_choose1.2.1 19 = .ok (.getfield 142, 3) := dc9_180 (by decide +kernel)
theorem d_MM_choose1_22 : decode y_MM_choose1.2.1 22 = .ok (.ifCond .ne 12, 3) := dc9_154 (by decide +kernel)
theorem d_MM_choose1_25 : decode y_MM_choose1.2.1 25 = .ok (.aload_n 0, 1) := dc9_42 (by decide +kernel)
theorem d_MM_choose1_26 : decode y_MM_choose1.2.1 26 = .ok (.getfield 117, 3) := dc9_180 (by decide +kernel)
theorem d_MM_choose1_29 : decode y_MM_choose1.2.1 29 = .ok (.iload_n 1, 1) := dc9_27 (by decide +kernel)
theorem d_MM_choose1_30 : decode y_MM_choose1.2.1 30 = .ok (.iload_n 2, 1) := dc9_28 (by decide +kernel)
theorem d_MM_choose1_31 : decode y_MM_choose1.2.1 31 = .ok (.invokevirtual 590, 3) := dc9_182 (by decide +kernel)
theorem d_MM_choose1_34 : decode y_MM_choose1.2.1 34 = .ok (.return_, 1) := dc9_177 (by decide +kernel)
theorem k_MM_choose1 {G : mG} {d : Nat} {a0 : Nat} {l1 : Int} {l2 : Int} {M : mM} {Q : mM → Prop} (hO : mOk M) (hi_l1 : i32 l1) (hi_l2 : i32 l2)
    (h : mK M a0 = 14 ∧ Ci G y_MM_isCommand d [vr a0, vi l1, vi l2] M (fun x3 M2 => i32 x3 ∧ mOk M2 ∧ (∀ v6 : Int, v6 = (if (x3 = 0) then 1 else 0) → mK M2 a0 = 14 ∧ ∀ M12, M12 = mUI M2 a0 0 v6 → ((mI M12 a0 0 = 0) → (mK M12 (mR M12 a0 39) = 17 ∧ Cv G y_MS_tell d [vr (mR M12 a0 39), vi l1, vi l2] M12 (fun M18 => mOk M18 ∧ (Q M18)))) ∧ (¬ (mI M12 a0 0 = 0) → (Q M12))))) :
    Cv G y_MM_choose1 (d + 1) [vr a0, vi l1, vi l2] M Q := by
  refine wm_open (y := y_MM_choose1) rfl (Nat.le_of_ble_eq_true rfl) (L := [vr a0, vi l1, vi l2]) rfl ?_
  obtain ⟨h1, h⟩ := h
  refine wm_aload_n d_MM_choose1_0 rfl rfl ?_
  refine wm_aload_n d_MM_choose1_1 rfl rfl ?_
  refine wm_iload_n d_MM_choose1_2 rfl rfl ?_
  refine wm_iload_n d_MM_choose1_3 rfl rfl ?_
  refine cf_MM_572 rfl d_MM_choose1_4 h1 (Nat.le_of_ble_eq_true rfl) (Ci.mono h (fun x3 M2 h => ?_))
  obtain ⟨h4, hOM2, h⟩ := h
  have hJ : ∀ v6 : Int, v6 = (if (x3 = 0) then 1 else 0) → mWm G y_MM_choose1 (d + 1) 15 [vr a0, vi l1, vi l2] [vi v6, vr a0] M2 (fun r9 M9 => r9 = none ∧ Q M9) := by
    intro v6 e8
    have h := h v6 e8
    have h9 : i32 v6 := by rw [e8]; (repeat' split) <;> first | exact ⟨by decide, by decide⟩ | exact ⟨by decide, by decide⟩
    have h10 : (v6 = 0 ∨ v6 = 1) := by rw [e8]; (repeat' split) <;> decide
    obtain ⟨h11, h⟩ := h
    obtain ⟨M12, e13⟩ : ∃ M12, M12 = mUI M2 a0 0 v6 := ⟨_, rfl⟩
    replace h := h M12 e13
    have hOM12 : mOk M12 := by rw [e13]; exact mOk_UI hOM2 h9
    refine pf_MM_142 rfl d_MM_choose1_15 h11 h9 e13 ?_
    refine wm_aload_n d_MM_choose1_18 rfl rfl ?_
    refine gf_MM_142 rfl d_MM_choose1_19 (by rw [e13]; exact h11) ?_
    refine wm_if_ne (tgt := 34) d_MM_choose1_22 rfl (hOM12 _ _).1 (fun c16 => ?_) (fun c16 => ?_)
    · replace h := h.2 c16
      refine wm_return d_MM_choose1_34 rfl ?_
      exact ⟨rfl, h⟩
    · replace c16 := Classical.not_not.mp c16
      replace h := h.1 c16
      obtain ⟨h17, h⟩ := h
      refine wm_aload_n d_MM_choose1_25 rfl rfl ?_
      refine gf_MM_117 rfl d_MM_choose1_26 (by rw [e13]; exact h11) ?_
      refine wm_iload_n d_MM_choose1_29 rfl rfl ?_
      refine wm_iload_n d_MM_choose1_30 rfl rfl ?_
      refine cf_MM_590 rfl d_MM_choose1_31 h17 (Nat.le_of_ble_eq_true rfl) (Cv.mono h (fun M18 h => ?_))
      obtain ⟨hOM18, h⟩ := h
      refine wm_return d_MM_choose1_34 rfl ?_
      exact ⟨rfl, h⟩
  clear h
  refine wm_if_eq (tgt := 14) d_MM_choose1_7 rfl h4 (fun c5 => ?_) (fun c5 => ?_)
  · refine wm_iconst d_MM_choose1_14 ?_
    exact hJ 1 (if_pos c5).symm
  · refine wm_iconst d_MM_choose1_10 ?_
    refine wm_goto (tgt := 15) d_MM_choose1_11 rfl ?_
    exact hJ 0 (if_neg c5).symm
theorem d_MM_adopt_0 : decode y_MM_adopt.2.1 0 = .ok (.aload_n 0, 1) := dc9_42 (by decide +kernel)
theorem d_MM_adopt_1 : decode y_MM_adopt.2.1 1 = .ok (.aload_n 0, 1) := dc9_42 (by decide +kernel)
theorem d_MM_adopt_2 : decode y_MM_adopt.2.1 2 = .ok (.getfield 117, 3) := dc9_180 (by decide +kernel)
theorem d_MM_adopt_5 : decode y_MM_adopt.2.1 5 = .ok (.invokevirtual 593, 3) := dc9_182 (by decide +kernel)
theorem d_MM_adopt_8 : decode y_MM_adopt.2.1 8 = .ok (.ifCond .eq 7, 3) := dc9_153 (by decide +kernel)
theorem d_MM_adopt_15 : decode y_MM_adopt.2.1 15 = .ok (.iconst 1, 1) := dc9_4 (by decide +kernel)
theorem d_MM_adopt_11 : decode y_MM_adopt.2.1 11 = .ok (.iconst 0, 1) := dc9_3 (by decide +kernel)
theorem d_MM_adopt_12 : decode y_MM_adopt.2.1 12 = .ok (.goto 4, 3) := dc9_167 (by decide +kernel)
theorem d_MM_adopt_16 : decode y_MM_adopt.2.1 16 = .ok (.putfield 142, 3) := dc9_181 (by decide +kernel)
theorem d_MM_adopt_19 : decode y_MM_adopt.2.1 19 = .ok (.aload_n 0, 1) := dc9_42 (by decide +kernel)
theorem d_MM_adopt_20 : decode y_MM_adopt.2.1 20 = .ok (.getfield 142, 3) := dc9_180 (by decide +kernel)
theorem d_MM_adopt_23 : decode y_MM_adopt.2.1 23 = .ok (.ifCond .ne 10, 3) := dc9_154 (by decide +kernel)
theorem d_MM_adopt_26 : decode y_MM_adopt.2.1 26 = .ok (.aload_n 0, 1) := dc9_42 (by decide +kernel)
theorem d_MM_adopt_27 : decode y_MM_adopt.2.1 27 = .ok (.getfield 117, 3) := dc9_180 (by decide +kernel)
theorem d_MM_adopt_30 : decode y_MM_adopt.2.1 30 = .ok (.invokevirtual 596, 3) := dc9_182 (by decide +kernel)
theorem d_MM_adopt_33 : decode y_MM_adopt.2.1 33 = .ok (.return_, 1) := dc9_177 (by decide +kernel)
theorem k_MM_adopt {G : mG} {d : Nat} {a0 : Nat} {M : mM} {Q : mM → Prop} (hO : mOk M)
    (h : mK M a0 = 14 ∧ mK M (mR M a0 39) = 17 ∧ Ci G y_MS_hasValues d [vr (mR M a0 39)] M (fun x4 M3 => i32 x4 ∧ mOk M3 ∧ (∀ v7 : Int, v7 = (if (x4 = 0) then 1 else 0) → mK M3 a0 = 14 ∧ ∀ M13, M13 = mUI M3 a0 0 v7 → ((mI M13 a0 0 = 0) → (mK M13 (mR M13 a0 39) = 17 ∧ Cv G y_MS_adopt d [vr (mR M13 a0 39)] M13 (fun M19 => mOk M19 ∧ (Q M19)))) ∧ (¬ (mI M13 a0 0 = 0) → (Q M13))))) :
    Cv G y_MM_adopt (d + 1) [vr a0] M Q := by
  refine wm_open (y := y_MM_adopt) rfl (Nat.le_of_ble_eq_true rfl) (L := [vr a0]) rfl ?_
  obtain ⟨h1, h⟩ := h
  obtain ⟨h2, h⟩ := h
  refine wm_aload_n d_MM_adopt_0 rfl rfl ?_
  refine wm_aload_n d_MM_adopt_1 rfl rfl ?_
  refine gf_MM_117 rfl d_MM_adopt_2 h1 ?_
  refine cf_MM_593 rfl d_MM_adopt_5 h2 (Nat.le_of_ble_eq_true rfl) (Ci.mono h (fun x4 M3 h => ?_))
  obtain ⟨h5, hOM3, h⟩ := h
  have hJ : ∀ v7 : Int, v7 = (if (x4 = 0) then 1 else 0) → mWm G y_MM_adopt (d + 1) 16 [vr a0] [vi v7, vr a0] M3 (fun r9 M9 => r9 = none ∧ Q M9) := by
    intro v7 e9
    have h := h v7 e9
    have h10 : i32 v7 := by rw [e9]; (repeat' split) <;> first | exact ⟨by decide, by decide⟩ | exact ⟨by decide, by decide⟩
    have h11 : (v7 = 0 ∨ v7 = 1) := by rw [e9]; (repeat' split) <;> decide
    obtain ⟨h12, h⟩ := h
    obtain ⟨M13, e14⟩ : ∃ M13, M13 = mUI M3 a0 0 v7 := ⟨_, rfl⟩
    replace h := h M13 e14
    have hOM13 : mOk M13 := by rw [e14]; exact mOk_UI hOM3 h10
    refine pf_MM_142 rfl d_MM_adopt_16 h12 h10 e14 ?_
    refine wm_aload_n d_MM_adopt_19 rfl rfl ?_
    refine gf_MM_142 rfl d_MM_adopt_20 (by rw [e14]; exact h12) ?_
    refine wm_if_ne (tgt := 33) d_MM_adopt_23 rfl (hOM13 _ _).1 (fun c17 => ?_) (fun c17 => ?_)
    · replace h := h.2 c17
      refine wm_return d_MM_adopt_33 rfl ?_
      exact ⟨rfl, h⟩
    · replace c17 := Classical.not_not.mp c17
      replace h := h.1 c17
      obtain ⟨h18, h⟩ := h
      refine wm_aload_n d_MM_adopt_26 rfl rfl ?_
      refine gf_MM_117 rfl d_MM_adopt_27 (by rw [e14]; exact h12) ?_
      refine cf_MM_596 rfl d_MM_adopt_30 h18 (Nat.le_of_ble_eq_true rfl) (Cv.mono h (fun M19 h => ?_))
      obtain ⟨hOM19, h⟩ := h
      refine wm_return d_MM_adopt_33 rfl ?_
      exact ⟨rfl, h⟩
  clear h
  refine wm_if_eq (tgt := 15) d_MM_adopt_8 rfl h5 (fun c6 => ?_) (fun c6 => ?_)
  · refine wm_iconst d_MM_adopt_15 ?_
    exact hJ 1 (if_pos c6).symm
  · refine wm_iconst d_MM_adopt_11 ?_
    refine wm_goto (tgt := 16) d_MM_adopt_12 rfl ?_
    exact hJ 0 (if_neg c6).symm
theorem d_MM_judge_0 : decode y_MM_judge.2.1 0 = .ok (.aload_n 0, 1) := dc9_42 (by decide +kernel)
theorem d_MM_judge_1 : decode y_MM_judge.2.1 1 = .ok (.iload_n 1, 1) := dc9_27 (by decide +kernel)
theorem d_MM_judge_2 : decode y_MM_judge.2.1 2 = .ok (.iconst 1, 1) := dc9_4 (by decide +kernel)
theorem d_MM_judge_3 : decode y_MM_judge.2.1 3 = .ok (.if_icmp .eq 12, 3) := dc9_159 (by decide +kernel)
theorem d_MM_judge_15 : decode y_MM_judge.2.1 15 = .ok (.aload_n 0, 1) := dc9_42 (by decide +kernel)
theorem d_MM_judge_16 : decode y_MM_judge.2.1 16 = .ok (.getfield 532, 3) := dc9_180 (by decide +kernel)
theorem d_MM_judge_19 : decode y_MM_judge.2.1 19 = .ok (.ifCond .ne 7, 3) := dc9_154 (by decide +kernel)
theorem d_MM_judge_22 : decode y_MM_judge.2.1 22 = .ok (.iconst 2, 1) := dc9_5 (by decide +kernel)
theorem d_MM_judge_23 : decode y_MM_judge.2.1 23 = .ok (.goto 4, 3) := dc9_167 (by decide +kernel)
theorem d_MM_judge_26 : decode y_MM_judge.2.1 26 = .ok (.iconst 0, 1) := dc9_3 (by decide +kernel)
theorem d_MM_judge_6 : decode y_MM_judge.2.1 6 = .ok (.iload_n 1, 1) := dc9_27 (by decide +kernel)
theorem d_MM_judge_7 : decode y_MM_judge.2.1 7 = .ok (.iconst 2, 1) := dc9_5 (by decide +kernel)
theorem d_MM_judge_8 : decode y_MM_judge.2.1 8 = .ok (.if_icmp .eq 7, 3) := dc9_159 (by decide +kernel)
theorem d_MM_judge_11 : decode y_MM_judge.2.1 11 = .ok (.iconst 1, 1) := dc9_4 (by decide +kernel)
theorem d_MM_judge_12 : decode y_MM_judge.2.1 12 = .ok (.goto 15, 3) := dc9_167 (by decide +kernel)
theorem d_MM_judge_27 : decode y_MM_judge.2.1 27 = .ok (.putfield 142, 3) := dc9_181 (by decide +kernel)
theorem d_MM_judge_30 : decode y_MM_judge.2.1 30 = .ok (.aload_n 0, 1) := dc9_42 (by decide +kernel)
theorem d_MM_judge_31 : decode y_MM_judge.2.1 31 = .ok (.getfield 142, 3) := dc9_180 (by decide +kernel)
theorem d_MM_judge_34 : decode y_MM_judge.2.1 34 = .ok (.ifCond .le 7, 3) := dc9_158 (by decide +kernel)
theorem d_MM_judge_41 : decode y_MM_judge.2.1 41 = .ok (.aload_n 0, 1) := dc9_42 (by decide +kernel)
theorem d_MM_judge_42 : decode y_MM_judge.2.1 42 = .ok (.getfield 117, 3) := dc9_180 (by decide +kernel)
theorem d_MM_judge_45 : decode y_MM_judge.2.1 45 = .ok (.iload_n 1, 1) := dc9_27 (by decide +kernel)
theorem d_MM_judge_37 : decode y_MM_judge.2.1 37 = .ok (.iconst 0, 1) := dc9_3 (by decide +kernel)
theorem d_MM_judge_38 : decode y_MM_judge.2.1 38 = .ok (.goto 11, 3) := dc9_167 (by decide +kernel)
theorem d_MM_judge_49 : decode y_MM_judge.2.1 49 = .ok (.ireturn, 1) := dc9_172 (by decide +kernel)
theorem d_MM_judge_46 : decode y_MM_judge.2.1 46 = .ok (.invokevirtual 599, 3) := dc9_182 (by decide +kernel)
theorem k_MM_judge {G : mG} {d : Nat} {a0 : Nat} {l1 : Int} {M : mM} {Q : Int → mM → Prop} (hO : mOk M) (hi_l1 : i32 l1)
    (h : (((l1 = 1) → mK M a0 = 14) ∧ (¬ (l1 = 1) → ((l1 = 2) → mK M a0 = 14))) ∧ ∀ v7 : Int, v7 = (if l1 = 1 then (if mI M a0 29 = 0 then 2 else 0) else (if l1 = 2 then (if mI M a0 29 = 0 then 2 else 0) else 1)) → mK M a0 = 14 ∧ ∀ M12, M12 = mUI M a0 0 v7 → ((mI M12 a0 0 ≤ 0) → (mK M12 (mR M12 a0 39) = 17 ∧ Ci G y_MS_judge d [vr (mR M12 a0 39), vi l1] M12 (fun x19 M18 => i32 x19 ∧ mOk M18 ∧ (Q x19 M18)))) ∧ (¬ (mI M12 a0 0 ≤ 0) → (Q 0 M12))) :
    Ci G y_MM_judge (d + 1) [vr a0, vi l1] M Q := by
  refine wm_open (y := y_MM_judge) rfl (Nat.le_of_ble_eq_true rfl) (L := [vr a0, vi l1]) rfl ?_
  refine wm_aload_n d_MM_judge_0 rfl rfl ?_
  refine wm_iload_n d_MM_judge_1 rfl rfl ?_
  refine wm_iconst d_MM_judge_2 ?_
  obtain ⟨s8, h⟩ := h
  have hJ : ∀ v7 : Int, v7 = (if l1 = 1 then (if mI M a0 29 = 0 then 2 else 0) else (if l1 = 2 then (if mI M a0 29 = 0 then 2 else 0) else 1)) → mWm G y_MM_judge (d + 1) 27 [vr a0, vi l1] [vi v7, vr a0] M (fun r9 M9 => ∃ x9, r9 = some (vi x9) ∧ Q x9 M9) := by
    intro v7 e9
    have h := h v7 e9
    have h10 : i32 v7 := by rw [e9]; (repeat' split) <;> first | exact ⟨by decide, by decide⟩ | exact ⟨by decide, by decide⟩ | exact ⟨by decide, by decide⟩
    obtain ⟨h11, h⟩ := h
    obtain ⟨M12, e13⟩ : ∃ M12, M12 = mUI M a0 0 v7 := ⟨_, rfl⟩
    replace h := h M12 e13
    have hOM12 : mOk M12 := by rw [e13]; exact mOk_UI hO h10
    refine pf_MM_142 rfl d_MM_judge_27 h11 h10 e13 ?_
    refine wm_aload_n d_MM_judge_30 rfl rfl ?_
    refine gf_MM_142 rfl d_MM_judge_31 (by rw [e13]; exact h11) ?_
    refine wm_if_le (tgt := 41) d_MM_judge_34 rfl (hOM12 _ _).1 (fun c16 => ?_) (fun c16 => ?_)
    · replace h := h.1 c16
      obtain ⟨h17, h⟩ := h
      refine wm_aload_n d_MM_judge_41 rfl rfl ?_
      refine gf_MM_117 rfl d_MM_judge_42 (by rw [e13]; exact h11) ?_
      refine wm_iload_n d_MM_judge_45 rfl rfl ?_
      refine cf_MM_599 rfl d_MM_judge_46 h17 (Nat.le_of_ble_eq_true rfl) (Ci.mono h (fun x19 M18 h => ?_))
      obtain ⟨h20, hOM18, h⟩ := h
      refine wm_ireturn d_MM_judge_49 rfl rfl ?_
      exact ⟨_, rfl, h⟩
    · replace h := h.2 c16
      refine wm_iconst d_MM_judge_37 ?_
      refine wm_goto (tgt := 49) d_MM_judge_38 rfl ?_
      refine wm_ireturn d_MM_judge_49 rfl rfl ?_
      exact ⟨_, rfl, h⟩
  clear h
  obtain ⟨s21, s22⟩ := s8
  refine wm_icmp_eq (tgt := 15) d_MM_judge_3 rfl hi_l1 ⟨by decide, by decide⟩ (fun c1 => ?_) (fun c1 => ?_)
  · have s21 := s21 c1
    have h2 := s21
    refine wm_aload_n d_MM_judge_15 rfl rfl ?_
    refine gf_MM_532 rfl d_MM_judge_16 h2 ?_
    refine wm_if_ne (tgt := 26) d_MM_judge_19 rfl (hO _ _).1 (fun c3 => ?_) (fun c3 => ?_)
    · refine wm_iconst d_MM_judge_26 ?_
      exact hJ 0 (by rw [if_pos c1, if_neg c3])
    · replace c3 := Classical.not_not.mp c3
      refine wm_iconst d_MM_judge_22 ?_
      refine wm_goto (tgt := 27) d_MM_judge_23 rfl ?_
      exact hJ 2 (by rw [if_pos c1, if_pos c3])
  · have s22 := s22 c1
    have s23 := s22
    refine wm_iload_n d_MM_judge_6 rfl rfl ?_
    refine wm_iconst d_MM_judge_7 ?_
    refine wm_icmp_eq (tgt := 15) d_MM_judge_8 rfl hi_l1 ⟨by decide, by decide⟩ (fun c4 => ?_) (fun c4 => ?_)
    · have s23 := s23 c4
      have h5 := s23
      refine wm_aload_n d_MM_judge_15 rfl rfl ?_
      refine gf_MM_532 rfl d_MM_judge_16 h5 ?_
      refine wm_if_ne (tgt := 26) d_MM_judge_19 rfl (hO _ _).1 (fun c6 => ?_) (fun c6 => ?_)
      · refine wm_iconst d_MM_judge_26 ?_
        exact hJ 0 (by rw [if_neg c1, if_pos c4, if_neg c6])
      · replace c6 := Classical.not_not.mp c6
        refine wm_iconst d_MM_judge_22 ?_
        refine wm_goto (tgt := 27) d_MM_judge_23 rfl ?_
        exact hJ 2 (by rw [if_neg c1, if_pos c4, if_pos c6])
    · refine wm_iconst d_MM_judge_11 ?_
      refine wm_goto (tgt := 27) d_MM_judge_12 rfl ?_
      exact hJ 1 (by rw [if_neg c1, if_neg c4])
theorem d_MM_print_0 : decode y_MM_print.2.1 0 = .ok (.aload_n 0, 1) := dc9_42 (by decide +kernel)
theorem d_MM_print_1 : decode y_MM_print.2.1 1 = .ok (.iconst 0, 1) := dc9_3 (by decide +kernel)
theorem d_MM_print_2 : decode y_MM_print.2.1 2 = .ok (.putfield 142, 3) := dc9_181 (by decide +kernel)
theorem d_MM_print_5 : decode y_MM_print.2.1 5 = .ok (.aload_n 0, 1) := dc9_42 (by decide +kernel)
theorem d_MM_print_6 : decode y_MM_print.2.1 6 = .ok (.getfield 117, 3) := dc9_180 (by decide +kernel)
theorem d_MM_print_9 : decode y_MM_print.2.1 9 = .ok (.iload_n 1, 1) := dc9_27 (by decide +kernel)
theorem d_MM_print_10 : decode y_MM_print.2.1 10 = .ok (.iload_n 2, 1) := dc9_28 (by decide +kernel)
theorem d_MM_print_11 : decode y_MM_print.2.1 11 = .ok (.invokevirtual 602, 3) := dc9_182 (by decide +kernel)
theorem d_MM_print_14 : decode y_MM_print.2.1 14 = .ok (.ifCond .ne 5, 3) := dc9_154 (by decide +kernel)
theorem d_MM_print_17 : decode y_MM_print.2.1 17 = .ok (.iconst (-1), 1) := dc9_2 (by decide +kernel)
theorem d_MM_print_18 : decode y_MM_print.2.1 18 = .ok (.ireturn, 1) := dc9_172 (by decide +kernel)
theorem d_MM_print_19 : decode y_MM_print.2.1 19 = .ok (.aload_n 0, 1) := dc9_42 (by decide +kernel)
theorem d_MM_print_20 : decode y_MM_print.2.1 20 = .ok (.aload_n 0, 1) := dc9_42 (by decide +kernel)
theorem d_MM_print_21 : decode y_MM_print.2.1 21 = .ok (.getfield 117, 3) := dc9_180 (by decide +kernel)
theorem d_MM_print_24 : decode y_MM_print.2.1 24 = .ok (.iload_n 1, 1) := dc9_27 (by decide +kernel)
theorem d_MM_print_25 : decode y_MM_print.2.1 25 = .ok (.iload_n 2, 1) := dc9_28 (by decide +kernel)
theorem d_MM_print_26 : decode y_MM_print.2.1 26 = .ok (.aload_n 0, 1) := dc9_42 (by decide +kernel)
theorem d_MM_print_27 : decode y_MM_print.2.1 27 = .ok (.getfield 139, 3) := dc9_180 (by decide +kernel)
theorem d_MM_print_30 : decode y_MM_print.2.1 30 = .ok (.invokevirtual 605, 3) := dc9_182 (by decide +kernel)
theorem d_MM_print_33 : decode y_MM_print.2.1 33 = .ok (.putfield 609, 3) := dc9_181 (by decide +kernel)
theorem d_MM_print_36 : decode y_MM_print.2.1 36 = .ok (.aload_n 0, 1) := dc9_42 (by decide +kernel)
theorem d_MM_print_37 : decode y_MM_print.2.1 37 = .ok (.getfield 609, 3) := dc9_180 (by decide +kernel)
theorem d_MM_print_40 : decode y_MM_print.2.1 40 = .ok (.ireturn, 1) := dc9_172 (by decide +kernel)
theorem k_MM_print {G : mG} {d : Nat} {a0 : Nat} {l1 : Int} {l2 : Int} {M : mM} {Q : Int → mM → Prop} (hO : mOk M) (hi_l1 : i32 l1) (hi_l2 : i32 l2)
    (h : mK M a0 = 14 ∧ ∀ M2, M2 = mUI M a0 0 0 → mK M2 (mR M2 a0 39) = 17 ∧ Ci G y_MS_isThere d [vr (mR M2 a0 39), vi l1, vi l2] M2 (fun x6 M5 => i32 x6 ∧ mOk M5 ∧ (((x6 = 0) → (Q (-1) M5)) ∧ (¬ (x6 = 0) → (mK M5 a0 = 14 ∧ mK M5 (mR M5 a0 39) = 17 ∧ Ci G y_MS_print d [vr (mR M5 a0 39), vi l1, vi l2, vr (mR M5 a0 47)] M5 (fun x13 M12 => i32 x13 ∧ mOk M12 ∧ (mK M12 a0 = 14 ∧ ∀ M16, M16 = mUI M12 a0 48 x13 → Q (mI M16 a0 48) M16))))))) :
    Ci G y_MM_print (d + 1) [vr a0, vi l1, vi l2] M Q := by
  refine wm_open (y := y_MM_print) rfl (Nat.le_of_ble_eq_true rfl) (L := [vr a0, vi l1, vi l2]) rfl ?_
  obtain ⟨h1, h⟩ := h
  obtain ⟨M2, e3⟩ : ∃ M2, M2 = mUI M a0 0 0 := ⟨_, rfl⟩
  replace h := h M2 e3
  obtain ⟨h4, h⟩ := h
  refine wm_aload_n d_MM_print_0 rfl rfl ?_
  refine wm_iconst d_MM_print_1 ?_
  have hOM2 : mOk M2 := by rw [e3]; exact mOk_UI hO ⟨by decide, by decide⟩
  refine pf_MM_142 rfl d_MM_print_2 h1 ⟨by decide, by decide⟩ e3 ?_
  refine wm_aload_n d_MM_print_5 rfl rfl ?_
  refine gf_MM_117 rfl d_MM_print_6 (by rw [e3]; exact h1) ?_
  refine wm_iload_n d_MM_print_9 rfl rfl ?_
  refine wm_iload_n d_MM_print_10 rfl rfl ?_
  refine cf_MM_602 rfl d_MM_print_11 h4 (Nat.le_of_ble_eq_true rfl) (Ci.mono h (fun x6 M5 h => ?_))
  obtain ⟨h7, hOM5, h⟩ := h
  refine wm_if_ne (tgt := 19) d_MM_print_14 rfl h7 (fun c9 => ?_) (fun c9 => ?_)
  · replace h := h.2 c9
    obtain ⟨h10, h⟩ := h
    obtain ⟨h11, h⟩ := h
    refine wm_aload_n d_MM_print_19 rfl rfl ?_
    refine wm_aload_n d_MM_print_20 rfl rfl ?_
    refine gf_MM_117 rfl d_MM_print_21 h10 ?_
    refine wm_iload_n d_MM_print_24 rfl rfl ?_
    refine wm_iload_n d_MM_print_25 rfl rfl ?_
    refine wm_aload_n d_MM_print_26 rfl rfl ?_
    refine gf_MM_139 rfl d_MM_print_27 h10 ?_
    refine cf_MM_605 rfl d_MM_print_30 h11 (Nat.le_of_ble_eq_true rfl) (Ci.mono h (fun x13 M12 h => ?_))
    obtain ⟨h14, hOM12, h⟩ := h
    obtain ⟨h15, h⟩ := h
    obtain ⟨M16, e17⟩ : ∃ M16, M16 = mUI M12 a0 48 x13 := ⟨_, rfl⟩
    replace h := h M16 e17
    have hOM16 : mOk M16 := by rw [e17]; exact mOk_UI hOM12 h14
    refine pf_MM_609 rfl d_MM_print_33 h15 h14 e17 ?_
    refine wm_aload_n d_MM_print_36 rfl rfl ?_
    refine gf_MM_609 rfl d_MM_print_37 (by rw [e17]; exact h15) ?_
    refine wm_ireturn d_MM_print_40 rfl rfl ?_
    exact ⟨_, rfl, h⟩
  · replace c9 := Classical.not_not.mp c9
    replace h := h.1 c9
    refine wm_iconst d_MM_print_17 ?_
    refine wm_ireturn d_MM_print_18 rfl rfl ?_
    exact ⟨_, rfl, h⟩
theorem d_MM_character_0 : decode y_MM_character.2.1 0 = .ok (.aload_n 0, 1) := dc9_42 (by decide +kernel)
theorem d_MM_character_1 : decode y_MM_character.2.1 1 = .ok (.iconst 0, 1) := dc9_3 (by decide +kernel)
theorem d_MM_character_2 : decode y_MM_character.2.1 2 = .ok (.putfield 142, 3) := dc9_181 (by decide +kernel)
theorem d_MM_character_5 : decode y_MM_character.2.1 5 = .ok (.iload_n 1, 1) := dc9_27 (by decide +kernel)
theorem d_MM_character_6 : decode y_MM_character.2.1 6 = .ok (.ifCond .lt 20, 3) := dc9_155 (by decide +kernel)
theorem d_MM_character_26 : decode y_MM_character.2.1 26 = .ok (.iconst (-1), 1) := dc9_2 (by decide +kernel)
theorem d_MM_character_9 : decode y_MM_character.2.1 9 = .ok (.iload_n 1, 1) := dc9_27 (by decide +kernel)
theorem d_MM_character_10 : decode y_MM_character.2.1 10 = .ok (.aload_n 0, 1) := dc9_42 (by decide +kernel)
theorem d_MM_character_11 : decode y_MM_character.2.1 11 = .ok (.getfield 609, 3) := dc9_180 (by decide +kernel)
theorem d_MM_character_14 : decode y_MM_character.2.1 14 = .ok (.if_icmp .ge 12, 3) := dc9_162 (by decide +kernel)
theorem d_MM_character_17 : decode y_MM_character.2.1 17 = .ok (.aload_n 0, 1) := dc9_42 (by decide +kernel)
theorem d_MM_character_18 : decode y_MM_character.2.1 18 = .ok (.getfield 139, 3) := dc9_180 (by decide +kernel)
theorem d_MM_character_21 : decode y_MM_character.2.1 21 = .ok (.iload_n 1, 1) := dc9_27 (by decide +kernel)
theorem d_MM_character_22 : decode y_MM_character.2.1 22 = .ok (.iaload, 1) := dc9_46 (by decide +kernel)
theorem d_MM_character_23 : decode y_MM_character.2.1 23 = .ok (.goto 4, 3) := dc9_167 (by decide +kernel)
theorem d_MM_character_27 : decode y_MM_character.2.1 27 = .ok (.ireturn, 1) := dc9_172 (by decide +kernel)
theorem k_MM_character {G : mG} {d : Nat} {a0 : Nat} {l1 : Int} {M : mM} {Q : Int → mM → Prop} (hO : mOk M) (hi_l1 : i32 l1)
    (h : mK M a0 = 14 ∧ ∀ M2, M2 = mUI M a0 0 0 → (¬ (l1 < 0) → (¬ (mI M2 a0 48 ≤ l1) → (mK M2 (mR M2 a0 47) = 30 ∧ ((0 : Int) ≤ l1 ∧ l1 < (mN M2 (mR M2 a0 47) : Int))))) ∧ ∀ v8 : Int, v8 = (if ((l1 < 0) ∨ (mI M2 a0 48 ≤ l1)) then (-1) else mI M2 (mR M2 a0 47) (Int.toNat l1)) → Q v8 M2) :
    Ci G y_MM_character d [vr a0, vi l1] M Q := by
  refine wm_open (y := y_MM_character) rfl (Nat.le_of_ble_eq_true rfl) (L := [vr a0, vi l1]) rfl ?_
  obtain ⟨h1, h⟩ := h
  obtain ⟨M2, e3⟩ : ∃ M2, M2 = mUI M a0 0 0 := ⟨_, rfl⟩
  replace h := h M2 e3
  refine wm_aload_n d_MM_character_0 rfl rfl ?_
  refine wm_iconst d_MM_character_1 ?_
  have hOM2 : mOk M2 := by rw [e3]; exact mOk_UI hO ⟨by decide, by decide⟩
  refine pf_MM_142 rfl d_MM_character_2 h1 ⟨by decide, by decide⟩ e3 ?_
  refine wm_iload_n d_MM_character_5 rfl rfl ?_
  obtain ⟨s9, h⟩ := h
  have hJ : ∀ v8 : Int, v8 = (if ((l1 < 0) ∨ (mI M2 a0 48 ≤ l1)) then (-1) else mI M2 (mR M2 a0 47) (Int.toNat l1)) → mWm G y_MM_character d 27 [vd, vd] [vi v8] M2 (fun r9 M9 => ∃ x9, r9 = some (vi x9) ∧ Q x9 M9) := by
    intro v8 e10
    have h := h v8 e10
    refine wm_ireturn d_MM_character_27 rfl rfl ?_
    exact ⟨_, rfl, h⟩
  clear h
  have s11 := s9
  refine wm_if_lt (tgt := 26) d_MM_character_6 rfl hi_l1 (fun c4 => ?_) (fun c4 => ?_)
  · refine wm_iconst d_MM_character_26 ?_
    refine wm_less (L' := [vd, vd]) ⟨Or.inl rfl, Or.inl rfl, trivial⟩ ?_
    exact hJ (-1) (if_pos (Or.inl c4)).symm
  · have s11 := s11 c4
    have s12 := s11
    refine wm_iload_n d_MM_character_9 rfl rfl ?_
    refine wm_aload_n d_MM_character_10 rfl rfl ?_
    refine gf_MM_609 rfl d_MM_character_11 (by rw [e3]; exact h1) ?_
    refine wm_icmp_ge (tgt := 26) d_MM_character_14 rfl hi_l1 (hOM2 _ _).1 (fun c5 => ?_) (fun c5 => ?_)
    · refine wm_iconst d_MM_character_26 ?_
      refine wm_less (L' := [vd, vd]) ⟨Or.inl rfl, Or.inl rfl, trivial⟩ ?_
      exact hJ (-1) (if_pos (Or.inr c5)).symm
    · have s12 := s12 c5
      obtain ⟨h6, h7⟩ := s12
      refine wm_aload_n d_MM_character_17 rfl rfl ?_
      refine gf_MM_139 rfl d_MM_character_18 (by rw [e3]; exact h1) ?_
      refine wm_iload_n d_MM_character_21 rfl rfl ?_
      refine wm_iald d_MM_character_22 h6 h7 ?_
      refine wm_goto (tgt := 27) d_MM_character_23 rfl ?_
      refine wm_less (L' := [vd, vd]) ⟨Or.inl rfl, Or.inl rfl, trivial⟩ ?_
      exact hJ (mI M2 (mR M2 a0 47) (Int.toNat l1)) (if_neg (fun z13 => Or.elim z13 c4 c5)).symm
theorem d_MM_compare_0 : decode y_MM_compare.2.1 0 = .ok (.aload_n 0, 1) := dc9_42 (by decide +kernel)
theorem d_MM_compare_1 : decode y_MM_compare.2.1 1 = .ok (.iconst 0, 1) := dc9_3 (by decide +kernel)
theorem d_MM_compare_2 : decode y_MM_compare.2.1 2 = .ok (.putfield 142, 3) := dc9_181 (by decide +kernel)
theorem d_MM_compare_5 : decode y_MM_compare.2.1 5 = .ok (.aload_n 0, 1) := dc9_42 (by decide +kernel)
theorem d_MM_compare_6 : decode y_MM_compare.2.1 6 = .ok (.getfield 117, 3) := dc9_180 (by decide +kernel)
theorem d_MM_compare_9 : decode y_MM_compare.2.1 9 = .ok (.iload_n 1, 1) := dc9_27 (by decide +kernel)
theorem d_MM_compare_10 : decode y_MM_compare.2.1 10 = .ok (.iload_n 2, 1) := dc9_28 (by decide +kernel)
theorem d_MM_compare_11 : decode y_MM_compare.2.1 11 = .ok (.invokevirtual 602, 3) := dc9_182 (by decide +kernel)
theorem d_MM_compare_14 : decode y_MM_compare.2.1 14 = .ok (.ifCond .eq 31, 3) := dc9_153 (by decide +kernel)
theorem d_MM_compare_45 : decode y_MM_compare.2.1 45 = .ok (.bipush (-2), 2) := dc9_16 (by decide +kernel)
theorem d_MM_compare_17 : decode y_MM_compare.2.1 17 = .ok (.aload_n 0, 1) := dc9_42 (by decide +kernel)
theorem d_MM_compare_18 : decode y_MM_compare.2.1 18 = .ok (.getfield 117, 3) := dc9_180 (by decide +kernel)
theorem d_MM_compare_21 : decode y_MM_compare.2.1 21 = .ok (.iload_n 3, 1) := dc9_29 (by decide +kernel)
theorem d_MM_compare_22 : decode y_MM_compare.2.1 22 = .ok (.iload 4, 2) := dc9_21 (by decide +kernel)
theorem d_MM_compare_47 : decode y_MM_compare.2.1 47 = .ok (.ireturn, 1) := dc9_172 (by decide +kernel)
theorem d_MM_compare_24 : decode y_MM_compare.2.1 24 = .ok (.invokevirtual 602, 3) := dc9_182 (by decide +kernel)
theorem d_MM_compare_27 : decode y_MM_compare.2.1 27 = .ok (.ifCond .eq 18, 3) := dc9_153 (by decide +kernel)
theorem d_MM_compare_30 : decode y_MM_compare.2.1 30 = .ok (.aload_n 0, 1) := dc9_42 (by decide +kernel)
theorem d_MM_compare_31 : decode y_MM_compare.2.1 31 = .ok (.getfield 117, 3) := dc9_180 (by decide +kernel)
theorem d_MM_compare_34 : decode y_MM_compare.2.1 34 = .ok (.iload_n 1, 1) := dc9_27 (by decide +kernel)
theorem d_MM_compare_35 : decode y_MM_compare.2.1 35 = .ok (.iload_n 2, 1) := dc9_28 (by decide +kernel)
theorem d_MM_compare_36 : decode y_MM_compare.2.1 36 = .ok (.iload_n 3, 1) := dc9_29 (by decide +kernel)
theorem d_MM_compare_37 : decode y_MM_compare.2.1 37 = .ok (.iload 4, 2) := dc9_21 (by decide +kernel)
theorem d_MM_compare_39 : decode y_MM_compare.2.1 39 = .ok (.invokevirtual 612, 3) := dc9_182 (by decide +kernel)
theorem d_MM_compare_42 : decode y_MM_compare.2.1 42 = .ok (.goto 5, 3) := dc9_167 (by decide +kernel)
theorem k_MM_compare {G : mG} {d : Nat} {a0 : Nat} {l1 : Int} {l2 : Int} {l3 : Int} {l4 : Int} {M : mM} {Q : Int → mM → Prop} (hO : mOk M) (hi_l1 : i32 l1) (hi_l2 : i32 l2) (hi_l3 : i32 l3) (hi_l4 : i32 l4)
    (h : mK M a0 = 14 ∧ ∀ M2, M2 = mUI M a0 0 0 → mK M2 (mR M2 a0 39) = 17 ∧ Ci G y_MS_isThere d [vr (mR M2 a0 39), vi l1, vi l2] M2 (fun x6 M5 => i32 x6 ∧ mOk M5 ∧ (((x6 = 0) → (Q (-2) M5)) ∧ (¬ (x6 = 0) → (mK M5 a0 = 14 ∧ mK M5 (mR M5 a0 39) = 17 ∧ Ci G y_MS_isThere d [vr (mR M5 a0 39), vi l3, vi l4] M5 (fun x15 M14 => i32 x15 ∧ mOk M14 ∧ (((x15 = 0) → (Q (-2) M14)) ∧ (¬ (x15 = 0) → (mK M14 a0 = 14 ∧ mK M14 (mR M14 a0 39) = 17 ∧ Ci G y_MS_compare d [vr (mR M14 a0 39), vi l1, vi l2, vi l3, vi l4] M14 (fun x24 M23 => i32 x24 ∧ mOk M23 ∧ (Q x24 M23))))))))))) :
    Ci G y_MM_compare (d + 1) [vr a0, vi l1, vi l2, vi l3, vi l4] M Q := by
  refine wm_open (y := y_MM_compare) rfl (Nat.le_of_ble_eq_true rfl) (L := [vr a0, vi l1, vi l2, vi l3, vi l4]) rfl ?_
  obtain ⟨h1, h⟩ := h
  obtain ⟨M2, e3⟩ : ∃ M2, M2 = mUI M a0 0 0 := ⟨_, rfl⟩
  replace h := h M2 e3
  obtain ⟨h4, h⟩ := h
  refine wm_aload_n d_MM_compare_0 rfl rfl ?_
  refine wm_iconst d_MM_compare_1 ?_
  have hOM2 : mOk M2 := by rw [e3]; exact mOk_UI hO ⟨by decide, by decide⟩
  refine pf_MM_142 rfl d_MM_compare_2 h1 ⟨by decide, by decide⟩ e3 ?_
  refine wm_aload_n d_MM_compare_5 rfl rfl ?_
  refine gf_MM_117 rfl d_MM_compare_6 (by rw [e3]; exact h1) ?_
  refine wm_iload_n d_MM_compare_9 rfl rfl ?_
  refine wm_iload_n d_MM_compare_10 rfl rfl ?_
  refine cf_MM_602 rfl d_MM_compare_11 h4 (Nat.le_of_ble_eq_true rfl) (Ci.mono h (fun x6 M5 h => ?_))
  obtain ⟨h7, hOM5, h⟩ := h
  refine wm_if_eq (tgt := 45) d_MM_compare_14 rfl h7 (fun c11 => ?_) (fun c11 => ?_)
  · replace h := h.1 c11
    refine wm_bipush d_MM_compare_45 (by decide) ?_
    refine wm_ireturn d_MM_compare_47 rfl rfl ?_
    exact ⟨_, rfl, h⟩
  · replace h := h.2 c11
    obtain ⟨h12, h⟩ := h
    obtain ⟨h13, h⟩ := h
    refine wm_aload_n d_MM_compare_17 rfl rfl ?_
    refine gf_MM_117 rfl d_MM_compare_18 h12 ?_
    refine wm_iload_n d_MM_compare_21 rfl rfl ?_
    refine wm_iload d_MM_compare_22 rfl ?_
    refine cf_MM_602 rfl d_MM_compare_24 h13 (Nat.le_of_ble_eq_true rfl) (Ci.mono h (fun x15 M14 h => ?_))
    obtain ⟨h16, hOM14, h⟩ := h
    refine wm_if_eq (tgt := 45) d_MM_compare_27 rfl h16 (fun c20 => ?_) (fun c20 => ?_)
    · replace h := h.1 c20
      refine wm_bipush d_MM_compare_45 (by decide) ?_
      refine wm_ireturn d_MM_compare_47 rfl rfl ?_
      exact ⟨_, rfl, h⟩
    · replace h := h.2 c20
      obtain ⟨h21, h⟩ := h
      obtain ⟨h22, h⟩ := h
      refine wm_aload_n d_MM_compare_30 rfl rfl ?_
      refine gf_MM_117 rfl d_MM_compare_31 h21 ?_
      refine wm_iload_n d_MM_compare_34 rfl rfl ?_
      refine wm_iload_n d_MM_compare_35 rfl rfl ?_
      refine wm_iload_n d_MM_compare_36 rfl rfl ?_
      refine wm_iload d_MM_compare_37 rfl ?_
      refine cf_MM_612 rfl d_MM_compare_39 h22 (Nat.le_of_ble_eq_true rfl) (Ci.mono h (fun x24 M23 h => ?_))
      obtain ⟨h25, hOM23, h⟩ := h
      refine wm_goto (tgt := 47) d_MM_compare_42 rfl ?_
      refine wm_ireturn d_MM_compare_47 rfl rfl ?_
      exact ⟨_, rfl, h⟩
theorem d_MM_billionths_0 : decode y_MM_billionths.2.1 0 = .ok (.aload_n 0, 1) := dc9_42 (by decide +kernel)
theorem d_MM_billionths_1 : decode y_MM_billionths.2.1 1 = .ok (.iconst 0, 1) := dc9_3 (by decide +kernel)
theorem d_MM_billionths_2 : decode y_MM_billionths.2.1 2 = .ok (.putfield 142, 3) := dc9_181 (by decide +kernel)
theorem d_MM_billionths_5 : decode y_MM_billionths.2.1 5 = .ok (.aload_n 0, 1) := dc9_42 (by decide +kernel)
theorem d_MM_billionths_6 : decode y_MM_billionths.2.1 6 = .ok (.getfield 117, 3) := dc9_180 (by decide +kernel)
theorem d_MM_billionths_9 : decode y_MM_billionths.2.1 9 = .ok (.iload_n 1, 1) := dc9_27 (by decide +kernel)
theorem d_MM_billionths_10 : decode y_MM_billionths.2.1 10 = .ok (.iload_n 2, 1) := dc9_28 (by decide +kernel)
theorem d_MM_billionths_11 : decode y_MM_billionths.2.1 11 = .ok (.invokevirtual 602, 3) := dc9_182 (by decide +kernel)
theorem d_MM_billionths_14 : decode y_MM_billionths.2.1 14 = .ok (.ifCond .eq 15, 3) := dc9_153 (by decide +kernel)
theorem d_MM_billionths_29 : decode y_MM_billionths.2.1 29 = .ok (.iconst (-1), 1) := dc9_2 (by decide +kernel)
theorem d_MM_billionths_17 : decode y_MM_billionths.2.1 17 = .ok (.aload_n 0, 1) := dc9_42 (by decide +kernel)
theorem d_MM_billionths_18 : decode y_MM_billionths.2.1 18 = .ok (.getfield 117, 3) := dc9_180 (by decide +kernel)
theorem d_MM_billionths_21 : decode y_MM_billionths.2.1 21 = .ok (.iload_n 1, 1) := dc9_27 (by decide +kernel)
theorem d_MM_billionths_22 : decode y_MM_billionths.2.1 22 = .ok (.iload_n 2, 1) := dc9_28 (by decide +kernel)
theorem d_MM_billionths_30 : decode y_MM_billionths.2.1 30 = .ok (.ireturn, 1) := dc9_172 (by decide +kernel)
theorem d_MM_billionths_23 : decode y_MM_billionths.2.1 23 = .ok (.invokevirtual 616, 3) := dc9_182 (by decide +kernel)
theorem d_MM_billionths_26 : decode y_MM_billionths.2.1 26 = .ok (.goto 4, 3) := dc9_167 (by decide +kernel)
theorem k_MM_billionths {G : mG} {d : Nat} {a0 : Nat} {l1 : Int} {l2 : Int} {M : mM} {Q : Int → mM → Prop} (hO : mOk M) (hi_l1 : i32 l1) (hi_l2 : i32 l2)
    (h : mK M a0 = 14 ∧ ∀ M2, M2 = mUI M a0 0 0 → mK M2 (mR M2 a0 39) = 17 ∧ Ci G y_MS_isThere d [vr (mR M2 a0 39), vi l1, vi l2] M2 (fun x6 M5 => i32 x6 ∧ mOk M5 ∧ (((x6 = 0) → (Q (-1) M5)) ∧ (¬ (x6 = 0) → (mK M5 a0 = 14 ∧ mK M5 (mR M5 a0 39) = 17 ∧ Ci G y_MS_billionths d [vr (mR M5 a0 39), vi l1, vi l2] M5 (fun x15 M14 => i32 x15 ∧ mOk M14 ∧ (Q x15 M14))))))) :
    Ci G y_MM_billionths (d + 1) [vr a0, vi l1, vi l2] M Q := by
  refine wm_open (y := y_MM_billionths) rfl (Nat.le_of_ble_eq_true rfl) (L := [vr a0, vi l1, vi l2]) rfl ?_
  obtain ⟨h1, h⟩ := h
  obtain ⟨M2, e3⟩ : ∃ M2, M2 = mUI M a0 0 0 := ⟨_, rfl⟩
  replace h := h M2 e3
  obtain ⟨h4, h⟩ := h
  refine wm_aload_n d_MM_billionths_0 rfl rfl ?_
  refine wm_iconst d_MM_billionths_1 ?_
  have hOM2 : mOk M2 := by rw [e3]; exact mOk_UI hO ⟨by decide, by decide⟩
  refine pf_MM_142 rfl d_MM_billionths_2 h1 ⟨by decide, by decide⟩ e3 ?_
  refine wm_aload_n d_MM_billionths_5 rfl rfl ?_
  refine gf_MM_117 rfl d_MM_billionths_6 (by rw [e3]; exact h1) ?_
  refine wm_iload_n d_MM_billionths_9 rfl rfl ?_
  refine wm_iload_n d_MM_billionths_10 rfl rfl ?_
  refine cf_MM_602 rfl d_MM_billionths_11 h4 (Nat.le_of_ble_eq_true rfl) (Ci.mono h (fun x6 M5 h => ?_))
  obtain ⟨h7, hOM5, h⟩ := h
  refine wm_if_eq (tgt := 29) d_MM_billionths_14 rfl h7 (fun c11 => ?_) (fun c11 => ?_)
  · replace h := h.1 c11
    refine wm_iconst d_MM_billionths_29 ?_
    refine wm_ireturn d_MM_billionths_30 rfl rfl ?_
    exact ⟨_, rfl, h⟩
  · replace h := h.2 c11
    obtain ⟨h12, h⟩ := h
    obtain ⟨h13, h⟩ := h
    refine wm_aload_n d_MM_billionths_17 rfl rfl ?_
    refine gf_MM_117 rfl d_MM_billionths_18 h12 ?_
    refine wm_iload_n d_MM_billionths_21 rfl rfl ?_
    refine wm_iload_n d_MM_billionths_22 rfl rfl ?_
    refine cf_MM_616 rfl d_MM_billionths_23 h13 (Nat.le_of_ble_eq_true rfl) (Ci.mono h (fun x15 M14 h => ?_))
    obtain ⟨h16, hOM14, h⟩ := h
    refine wm_goto (tgt := 30) d_MM_billionths_26 rfl ?_
    refine wm_ireturn d_MM_billionths_30 rfl rfl ?_
    exact ⟨_, rfl, h⟩
theorem d_MM_choice_0 : decode y_MM_choice.2.1 0 = .ok (.aload_n 0, 1) := dc9_42 (by decide +kernel)
theorem d_MM_choice_1 : decode y_MM_choice.2.1 1 = .ok (.iload_n 1, 1) := dc9_27 (by decide +kernel)
theorem d_MM_choice_2 : decode y_MM_choice.2.1 2 = .ok (.invokevirtual 569, 3) := dc9_182 (by decide +kernel)
theorem d_MM_choice_5 : decode y_MM_choice.2.1 5 = .ok (.ifCond .eq 24, 3) := dc9_153 (by decide +kernel)
theorem d_MM_choice_29 : decode y_MM_choice.2.1 29 = .ok (.iconst (-1), 1) := dc9_2 (by decide +kernel)
theorem d_MM_choice_8 : decode y_MM_choice.2.1 8 = .ok (.aload_n 0, 1) := dc9_42 (by decide +kernel)
theorem d_MM_choice_9 : decode y_MM_choice.2.1 9 = .ok (.getfield 117, 3) := dc9_180 (by decide +kernel)
theorem d_MM_choice_30 : decode y_MM_choice.2.1 30 = .ok (.ireturn, 1) := dc9_172 (by decide +kernel)
theorem d_MM_choice_12 : decode y_MM_choice.2.1 12 = .ok (.invokevirtual 593, 3) := dc9_182 (by decide +kernel)
theorem d_MM_choice_15 : decode y_MM_choice.2.1 15 = .ok (.ifCond .eq 14, 3) := dc9_153 (by decide +kernel)
theorem d_MM_choice_18 : decode y_MM_choice.2.1 18 = .ok (.aload_n 0, 1) := dc9_42 (by decide +kernel)
theorem d_MM_choice_19 : decode y_MM_choice.2.1 19 = .ok (.getfield 117, 3) := dc9_180 (by decide +kernel)
theorem d_MM_choice_22 : decode y_MM_choice.2.1 22 = .ok (.iload_n 1, 1) := dc9_27 (by decide +kernel)
theorem d_MM_choice_23 : decode y_MM_choice.2.1 23 = .ok (.invokevirtual 619, 3) := dc9_182 (by decide +kernel)
theorem d_MM_choice_26 : decode y_MM_choice.2.1 26 = .ok (.goto 4, 3) := dc9_167 (by decide +kernel)
theorem k_MM_choice {G : mG} {d : Nat} {a0 : Nat} {l1 : Int} {M : mM} {Q : Int → mM → Prop} (hO : mOk M) (hi_l1 : i32 l1)
    (h : mK M a0 = 14 ∧ Ci G y_MM_isState d [vr a0, vi l1] M (fun x3 M2 => i32 x3 ∧ mOk M2 ∧ (((x3 = 0) → (Q (-1) M2)) ∧ (¬ (x3 = 0) → (mK M2 a0 = 14 ∧ mK M2 (mR M2 a0 39) = 17 ∧ Ci G y_MS_hasValues d [vr (mR M2 a0 39)] M2 (fun x12 M11 => i32 x12 ∧ mOk M11 ∧ (((x12 = 0) → (Q (-1) M11)) ∧ (¬ (x12 = 0) → (mK M11 a0 = 14 ∧ mK M11 (mR M11 a0 39) = 17 ∧ Ci G y_MS_choiceOf d [vr (mR M11 a0 39), vi l1] M11 (fun x21 M20 => i32 x21 ∧ mOk M20 ∧ (Q x21 M20))))))))))) :
    Ci G y_MM_choice (d + 1) [vr a0, vi l1] M Q := by
  refine wm_open (y := y_MM_choice) rfl (Nat.le_of_ble_eq_true rfl) (L := [vr a0, vi l1]) rfl ?_
  obtain ⟨h1, h⟩ := h
  refine wm_aload_n d_MM_choice_0 rfl rfl ?_
  refine wm_iload_n d_MM_choice_1 rfl rfl ?_
  refine cf_MM_569 rfl d_MM_choice_2 h1 (Nat.le_of_ble_eq_true rfl) (Ci.mono h (fun x3 M2 h => ?_))
  obtain ⟨h4, hOM2, h⟩ := h
  refine wm_if_eq (tgt := 29) d_MM_choice_5 rfl h4 (fun c8 => ?_) (fun c8 => ?_)
  · replace h := h.1 c8
    refine wm_iconst d_MM_choice_29 ?_
    refine wm_ireturn d_MM_choice_30 rfl rfl ?_
    exact ⟨_, rfl, h⟩
  · replace h := h.2 c8
    obtain ⟨h9, h⟩ := h
    obtain ⟨h10, h⟩ := h
    refine wm_aload_n d_MM_choice_8 rfl rfl ?_
    refine gf_MM_117 rfl d_MM_choice_9 h9 ?_
    refine cf_MM_593 rfl d_MM_choice_12 h10 (Nat.le_of_ble_eq_true rfl) (Ci.mono h (fun x12 M11 h => ?_))
    obtain ⟨h13, hOM11, h⟩ := h
    refine wm_if_eq (tgt := 29) d_MM_choice_15 rfl h13 (fun c17 => ?_) (fun c17 => ?_)
    · replace h := h.1 c17
      refine wm_iconst d_MM_choice_29 ?_
      refine wm_ireturn d_MM_choice_30 rfl rfl ?_
      exact ⟨_, rfl, h⟩
    · replace h := h.2 c17
      obtain ⟨h18, h⟩ := h
      obtain ⟨h19, h⟩ := h
      refine wm_aload_n d_MM_choice_18 rfl rfl ?_
      refine gf_MM_117 rfl d_MM_choice_19 h18 ?_
      refine wm_iload_n d_MM_choice_22 rfl rfl ?_
      refine cf_MM_619 rfl d_MM_choice_23 h19 (Nat.le_of_ble_eq_true rfl) (Ci.mono h (fun x21 M20 h => ?_))
      obtain ⟨h22, hOM20, h⟩ := h
      refine wm_goto (tgt := 30) d_MM_choice_26 rfl ?_
      refine wm_ireturn d_MM_choice_30 rfl rfl ?_
      exact ⟨_, rfl, h⟩
theorem d_MM_rank_0 : decode y_MM_rank.2.1 0 = .ok (.aload_n 0, 1) := dc9_42 (by decide +kernel)
theorem d_MM_rank_1 : decode y_MM_rank.2.1 1 = .ok (.iload_n 1, 1) := dc9_27 (by decide +kernel)
theorem d_MM_rank_2 : decode y_MM_rank.2.1 2 = .ok (.invokevirtual 569, 3) := dc9_182 (by decide +kernel)
theorem d_MM_rank_5 : decode y_MM_rank.2.1 5 = .ok (.ifCond .eq 24, 3) := dc9_153 (by decide +kernel)
theorem d_MM_rank_29 : decode y_MM_rank.2.1 29 = .ok (.iconst (-1), 1) := dc9_2 (by decide +kernel)
theorem d_MM_rank_8 : decode y_MM_rank.2.1 8 = .ok (.aload_n 0, 1) := dc9_42 (by decide +kernel)
theorem d_MM_rank_9 : decode y_MM_rank.2.1 9 = .ok (.getfield 117, 3) := dc9_180 (by decide +kernel)
theorem d_MM_rank_30 : decode y_MM_rank.2.1 30 = .ok (.ireturn, 1) := dc9_172 (by decide +kernel)
theorem d_MM_rank_12 : decode y_MM_rank.2.1 12 = .ok (.invokevirtual 593, 3) := dc9_182 (by decide +kernel)
theorem d_MM_rank_15 : decode y_MM_rank.2.1 15 = .ok (.ifCond .eq 14, 3) := dc9_153 (by decide +kernel)
theorem d_MM_rank_18 : decode y_MM_rank.2.1 18 = .ok (.aload_n 0, 1) := dc9_42 (by decide +kernel)
theorem d_MM_rank_19 : decode y_MM_rank.2.1 19 = .ok (.getfield 117, 3) := dc9_180 (by decide +kernel)
theorem d_MM_rank_22 : decode y_MM_rank.2.1 22 = .ok (.iload_n 1, 1) := dc9_27 (by decide +kernel)
theorem d_MM_rank_23 : decode y_MM_rank.2.1 23 = .ok (.invokevirtual 622, 3) := dc9_182 (by decide +kernel)
theorem d_MM_rank_26 : decode y_MM_rank.2.1 26 = .ok (.goto 4, 3) := dc9_167 (by decide +kernel)
theorem k_MM_rank {G : mG} {d : Nat} {a0 : Nat} {l1 : Int} {M : mM} {Q : Int → mM → Prop} (hO : mOk M) (hi_l1 : i32 l1)
    (h : mK M a0 = 14 ∧ Ci G y_MM_isState d [vr a0, vi l1] M (fun x3 M2 => i32 x3 ∧ mOk M2 ∧ (((x3 = 0) → (Q (-1) M2)) ∧ (¬ (x3 = 0) → (mK M2 a0 = 14 ∧ mK M2 (mR M2 a0 39) = 17 ∧ Ci G y_MS_hasValues d [vr (mR M2 a0 39)] M2 (fun x12 M11 => i32 x12 ∧ mOk M11 ∧ (((x12 = 0) → (Q (-1) M11)) ∧ (¬ (x12 = 0) → (mK M11 a0 = 14 ∧ mK M11 (mR M11 a0 39) = 17 ∧ Ci G y_MS_rankOf d [vr (mR M11 a0 39), vi l1] M11 (fun x21 M20 => i32 x21 ∧ mOk M20 ∧ (Q x21 M20))))))))))) :
    Ci G y_MM_rank (d + 1) [vr a0, vi l1] M Q := by
  refine wm_open (y := y_MM_rank) rfl (Nat.le_of_ble_eq_true rfl) (L := [vr a0, vi l1]) rfl ?_
  obtain ⟨h1, h⟩ := h
  refine wm_aload_n d_MM_rank_0 rfl rfl ?_
  refine wm_iload_n d_MM_rank_1 rfl rfl ?_
  refine cf_MM_569 rfl d_MM_rank_2 h1 (Nat.le_of_ble_eq_true rfl) (Ci.mono h (fun x3 M2 h => ?_))
  obtain ⟨h4, hOM2, h⟩ := h
  refine wm_if_eq (tgt := 29) d_MM_rank_5 rfl h4 (fun c8 => ?_) (fun c8 => ?_)
  · replace h := h.1 c8
    refine wm_iconst d_MM_rank_29 ?_
    refine wm_ireturn d_MM_rank_30 rfl rfl ?_
    exact ⟨_, rfl, h⟩
  · replace h := h.2 c8
    obtain ⟨h9, h⟩ := h
    obtain ⟨h10, h⟩ := h
    refine wm_aload_n d_MM_rank_8 rfl rfl ?_
    refine gf_MM_117 rfl d_MM_rank_9 h9 ?_
    refine cf_MM_593 rfl d_MM_rank_12 h10 (Nat.le_of_ble_eq_true rfl) (Ci.mono h (fun x12 M11 h => ?_))
    obtain ⟨h13, hOM11, h⟩ := h
    refine wm_if_eq (tgt := 29) d_MM_rank_15 rfl h13 (fun c17 => ?_) (fun c17 => ?_)
    · replace h := h.1 c17
      refine wm_iconst d_MM_rank_29 ?_
      refine wm_ireturn d_MM_rank_30 rfl rfl ?_
      exact ⟨_, rfl, h⟩
    · replace h := h.2 c17
      obtain ⟨h18, h⟩ := h
      obtain ⟨h19, h⟩ := h
      refine wm_aload_n d_MM_rank_18 rfl rfl ?_
      refine gf_MM_117 rfl d_MM_rank_19 h18 ?_
      refine wm_iload_n d_MM_rank_22 rfl rfl ?_
      refine cf_MM_622 rfl d_MM_rank_23 h19 (Nat.le_of_ble_eq_true rfl) (Ci.mono h (fun x21 M20 h => ?_))
      obtain ⟨h22, hOM20, h⟩ := h
      refine wm_goto (tgt := 30) d_MM_rank_26 rfl ?_
      refine wm_ireturn d_MM_rank_30 rfl rfl ?_
      exact ⟨_, rfl, h⟩
theorem d_MM_next_0 : decode y_MM_next.2.1 0 = .ok (.aload_n 0, 1) := dc9_42 (by decide +kernel)
theorem d_MM_next_1 : decode y_MM_next.2.1 1 = .ok (.iload_n 1, 1) := dc9_27 (by decide +kernel)
theorem d_MM_next_2 : decode y_MM_next.2.1 2 = .ok (.invokevirtual 569, 3) := dc9_182 (by decide +kernel)
theorem d_MM_next_5 : decode y_MM_next.2.1 5 = .ok (.ifCond .eq 19, 3) := dc9_153 (by decide +kernel)
theorem d_MM_next_24 : decode y_MM_next.2.1 24 = .ok (.iconst (-1), 1) := dc9_2 (by decide +kernel)
theorem d_MM_next_8 : decode y_MM_next.2.1 8 = .ok (.iload_n 2, 1) := dc9_28 (by decide +kernel)
theorem d_MM_next_9 : decode y_MM_next.2.1 9 = .ok (.ifCond .lt 15, 3) := dc9_155 (by decide +kernel)
theorem d_MM_next_12 : decode y_MM_next.2.1 12 = .ok (.aload_n 0, 1) := dc9_42 (by decide +kernel)
theorem d_MM_next_13 : decode y_MM_next.2.1 13 = .ok (.getfield 117, 3) := dc9_180 (by decide +kernel)
theorem d_MM_next_16 : decode y_MM_next.2.1 16 = .ok (.iload_n 1, 1) := dc9_27 (by decide +kernel)
theorem d_MM_next_17 : decode y_MM_next.2.1 17 = .ok (.iload_n 2, 1) := dc9_28 (by decide +kernel)
theorem d_MM_next_25 : decode y_MM_next.2.1 25 = .ok (.ireturn, 1) := dc9_172 (by decide +kernel)
theorem d_MM_next_18 : decode y_MM_next.2.1 18 = .ok (.invokevirtual 625, 3) := dc9_182 (by decide +kernel)
theorem d_MM_next_21 : decode y_MM_next.2.1 21 = .ok (.goto 4, 3) := dc9_167 (by decide +kernel)
theorem k_MM_next {G : mG} {d : Nat} {a0 : Nat} {l1 : Int} {l2 : Int} {M : mM} {Q : Int → mM → Prop} (hO : mOk M) (hi_l1 : i32 l1) (hi_l2 : i32 l2)
    (h : mK M a0 = 14 ∧ Ci G y_MM_isState d [vr a0, vi l1] M (fun x3 M2 => i32 x3 ∧ mOk M2 ∧ ((((x3 = 0) ∨ (l2 < 0)) → (Q (-1) M2)) ∧ (¬ ((x3 = 0) ∨ (l2 < 0)) → (mK M2 a0 = 14 ∧ mK M2 (mR M2 a0 39) = 17 ∧ Ci G y_MS_nextOf d [vr (mR M2 a0 39), vi l1, vi l2] M2 (fun x16 M15 => i32 x16 ∧ mOk M15 ∧ (Q x16 M15))))))) :
    Ci G y_MM_next (d + 1) [vr a0, vi l1, vi l2] M Q := by
  refine wm_open (y := y_MM_next) rfl (Nat.le_of_ble_eq_true rfl) (L := [vr a0, vi l1, vi l2]) rfl ?_
  obtain ⟨h1, h⟩ := h
  refine wm_aload_n d_MM_next_0 rfl rfl ?_
  refine wm_iload_n d_MM_next_1 rfl rfl ?_
  refine cf_MM_569 rfl d_MM_next_2 h1 (Nat.le_of_ble_eq_true rfl) (Ci.mono h (fun x3 M2 h => ?_))
  obtain ⟨h4, hOM2, h⟩ := h
  have hE0 : ((x3 = 0) ∨ (l2 < 0)) → mWm G y_MM_next (d + 1) 24 [vr a0, vi l1, vi l2] [] M2 (fun r9 M9 => ∃ x9, r9 = some (vi x9) ∧ Q x9 M9) := by
    intro q11
    have h := h.1 q11
    refine wm_iconst d_MM_next_24 ?_
    refine wm_ireturn d_MM_next_25 rfl rfl ?_
    exact ⟨_, rfl, h⟩
  have hE1 : ¬ ((x3 = 0) ∨ (l2 < 0)) → mWm G y_MM_next (d + 1) 12 [vr a0, vi l1, vi l2] [] M2 (fun r9 M9 => ∃ x9, r9 = some (vi x9) ∧ Q x9 M9) := by
    intro q12
    have h := h.2 q12
    obtain ⟨h13, h⟩ := h
    obtain ⟨h14, h⟩ := h
    refine wm_aload_n d_MM_next_12 rfl rfl ?_
    refine gf_MM_117 rfl d_MM_next_13 h13 ?_
    refine wm_iload_n d_MM_next_16 rfl rfl ?_
    refine wm_iload_n d_MM_next_17 rfl rfl ?_
    refine cf_MM_625 rfl d_MM_next_18 h14 (Nat.le_of_ble_eq_true rfl) (Ci.mono h (fun x16 M15 h => ?_))
    obtain ⟨h17, hOM15, h⟩ := h
    refine wm_goto (tgt := 25) d_MM_next_21 rfl ?_
    refine wm_ireturn d_MM_next_25 rfl rfl ?_
    exact ⟨_, rfl, h⟩
  clear h
  refine wm_if_eq (tgt := 24) d_MM_next_5 rfl h4 (fun c9 => ?_) (fun c9 => ?_)
  · exact hE0 (Or.inl c9)
  · refine wm_iload_n d_MM_next_8 rfl rfl ?_
    refine wm_if_lt (tgt := 24) d_MM_next_9 rfl hi_l2 (fun c8 => ?_) (fun c8 => ?_)
    · exact hE0 (Or.inr c8)
    · exact hE1 (fun z18 => Or.elim z18 c9 c8)
theorem d_MM_check_0 : decode y_MM_check.2.1 0 = .ok (.aload_n 0, 1) := dc9_42 (by decide +kernel)
theorem d_MM_check_1 : decode y_MM_check.2.1 1 = .ok (.iconst 0, 1) := dc9_3 (by decide +kernel)
theorem d_MM_check_2 : decode y_MM_check.2.1 2 = .ok (.putfield 142, 3) := dc9_181 (by decide +kernel)
theorem d_MM_check_5 : decode y_MM_check.2.1 5 = .ok (.aload_n 0, 1) := dc9_42 (by decide +kernel)
theorem d_MM_check_6 : decode y_MM_check.2.1 6 = .ok (.getfield 117, 3) := dc9_180 (by decide +kernel)
theorem d_MM_check_9 : decode y_MM_check.2.1 9 = .ok (.invokevirtual 593, 3) := dc9_182 (by decide +kernel)
theorem d_MM_check_12 : decode y_MM_check.2.1 12 = .ok (.ifCond .eq 7, 3) := dc9_153 (by decide +kernel)
theorem d_MM_check_19 : decode y_MM_check.2.1 19 = .ok (.iconst (-1), 1) := dc9_2 (by decide +kernel)
theorem d_MM_check_15 : decode y_MM_check.2.1 15 = .ok (.iconst 1, 1) := dc9_4 (by decide +kernel)
theorem d_MM_check_16 : decode y_MM_check.2.1 16 = .ok (.goto 4, 3) := dc9_167 (by decide +kernel)
theorem d_MM_check_20 : decode y_MM_check.2.1 20 = .ok (.ireturn, 1) := dc9_172 (by decide +kernel)
theorem k_MM_check {G : mG} {d : Nat} {a0 : Nat} {M : mM} {Q : Int → mM → Prop} (hO : mOk M)
    (h : mK M a0 = 14 ∧ ∀ M2, M2 = mUI M a0 0 0 → mK M2 (mR M2 a0 39) = 17 ∧ Ci G y_MS_hasValues d [vr (mR M2 a0 39)] M2 (fun x6 M5 => i32 x6 ∧ mOk M5 ∧ (∀ v9 : Int, v9 = (if (x6 = 0) then (-1) else 1) → Q v9 M5))) :
    Ci G y_MM_check (d + 1) [vr a0] M Q := by
  refine wm_open (y := y_MM_check) rfl (Nat.le_of_ble_eq_true rfl) (L := [vr a0]) rfl ?_
  obtain ⟨h1, h⟩ := h
  obtain ⟨M2, e3⟩ : ∃ M2, M2 = mUI M a0 0 0 := ⟨_, rfl⟩
  replace h := h M2 e3
  obtain ⟨h4, h⟩ := h
  refine wm_aload_n d_MM_check_0 rfl rfl ?_
  refine wm_iconst d_MM_check_1 ?_
  have hOM2 : mOk M2 := by rw [e3]; exact mOk_UI hO ⟨by decide, by decide⟩
  refine pf_MM_142 rfl d_MM_check_2 h1 ⟨by decide, by decide⟩ e3 ?_
  refine wm_aload_n d_MM_check_5 rfl rfl ?_
  refine gf_MM_117 rfl d_MM_check_6 (by rw [e3]; exact h1) ?_
  refine cf_MM_593 rfl d_MM_check_9 h4 (Nat.le_of_ble_eq_true rfl) (Ci.mono h (fun x6 M5 h => ?_))
  obtain ⟨h7, hOM5, h⟩ := h
  have hJ : ∀ v9 : Int, v9 = (if (x6 = 0) then (-1) else 1) → mWm G y_MM_check (d + 1) 20 [vd] [vi v9] M5 (fun r9 M9 => ∃ x9, r9 = some (vi x9) ∧ Q x9 M9) := by
    intro v9 e11
    have h := h v9 e11
    have h12 : i32 v9 := by rw [e11]; (repeat' split) <;> first | exact ⟨by decide, by decide⟩ | exact ⟨by decide, by decide⟩
    refine wm_ireturn d_MM_check_20 rfl rfl ?_
    exact ⟨_, rfl, h⟩
  clear h
  refine wm_if_eq (tgt := 19) d_MM_check_12 rfl h7 (fun c8 => ?_) (fun c8 => ?_)
  · refine wm_iconst d_MM_check_19 ?_
    refine wm_less (L' := [vd]) ⟨Or.inl rfl, trivial⟩ ?_
    exact hJ (-1) (if_pos c8).symm
  · refine wm_iconst d_MM_check_15 ?_
    refine wm_goto (tgt := 20) d_MM_check_16 rfl ?_
    refine wm_less (L' := [vd]) ⟨Or.inl rfl, trivial⟩ ?_
    exact hJ 1 (if_neg c8).symm
theorem d_Fr_init_0 : decode y_Fr_init.2.1 0 = .ok (.aload_n 0, 1) := dc9_42 (by decide +kernel)
theorem d_Fr_init_1 : decode y_Fr_init.2.1 1 = .ok (.invokespecial 1, 3) := dc9_183 (by decide +kernel)
theorem d_Fr_init_4 : decode y_Fr_init.2.1 4 = .ok (.aload_n 0, 1) := dc9_42 (by decide +kernel)
theorem d_Fr_init_5 : decode y_Fr_init.2.1 5 = .ok (.new 7, 3) := dc9_187 (by decide +kernel)
theorem d_Fr_init_8 : decode y_Fr_init.2.1 8 = .ok (.dup, 1) := dc9_89 (by decide +kernel)
theorem d_Fr_init_9 : decode y_Fr_init.2.1 9 = .ok (.invokespecial 9, 3) := dc9_183 (by decide +kernel)
theorem d_Fr_init_12 : decode y_Fr_init.2.1 12 = .ok (.putfield 10, 3) := dc9_181 (by decide +kernel)
theorem d_Fr_init_15 : decode y_Fr_init.2.1 15 = .ok (.aload_n 0, 1) := dc9_42 (by decide +kernel)
theorem d_Fr_init_16 : decode y_Fr_init.2.1 16 = .ok (.new 7, 3) := dc9_187 (by decide +kernel)
theorem d_Fr_init_19 : decode y_Fr_init.2.1 19 = .ok (.dup, 1) := dc9_89 (by decide +kernel)
theorem d_Fr_init_20 : decode y_Fr_init.2.1 20 = .ok (.invokespecial 9, 3) := dc9_183 (by decide +kernel)
theorem d_Fr_init_23 : decode y_Fr_init.2.1 23 = .ok (.putfield 16, 3) := dc9_181 (by decide +kernel)
theorem d_Fr_init_26 : decode y_Fr_init.2.1 26 = .ok (.aload_n 0, 1) := dc9_42 (by decide +kernel)
theorem d_Fr_init_27 : decode y_Fr_init.2.1 27 = .ok (.iconst 1, 1) := dc9_4 (by decide +kernel)
theorem d_Fr_init_28 : decode y_Fr_init.2.1 28 = .ok (.putfield 19, 3) := dc9_181 (by decide +kernel)
theorem d_Fr_init_31 : decode y_Fr_init.2.1 31 = .ok (.return_, 1) := dc9_177 (by decide +kernel)
theorem k_Fr_init {G : mG} {d : Nat} {a0 : Nat} {M : mM} {Q : mM → Prop} (hO : mOk M)
    (h : 0 < a0 ∧ ∀ M2, M2 = mNew M 10 0 2 → Cv G y_Na_init d [vr (mZ M)] M2 (fun M4 => mOk M4 ∧ (mK M4 a0 = 11 ∧ ∀ M8, M8 = mUR M4 a0 0 (mZ M) → ∀ M10, M10 = mNew M8 10 0 2 → Cv G y_Na_init d [vr (mZ M8)] M10 (fun M12 => mOk M12 ∧ (mK M12 a0 = 11 ∧ ∀ M16, M16 = mUR M12 a0 1 (mZ M8) → ∀ M18, M18 = mUI M16 a0 2 1 → Q M18))))) :
    Cv G y_Fr_init (d + 1) [vr a0] M Q := by
  refine wm_open (y := y_Fr_init) rfl (Nat.le_of_ble_eq_true rfl) (L := [vr a0]) rfl ?_
  obtain ⟨h1, h⟩ := h
  obtain ⟨M2, e3⟩ : ∃ M2, M2 = mNew M 10 0 2 := ⟨_, rfl⟩
  replace h := h M2 e3
  refine wm_aload_n d_Fr_init_0 rfl rfl ?_
  refine wm_objInit trivial k3_15 kO_inst kO_code (Nat.le_of_ble_eq_true rfl) d_Fr_init_1 h1 ?_
  refine wm_aload_n d_Fr_init_4 rfl rfl ?_
  have hOM2 : mOk M2 := by rw [e3]; exact mOk_New hO
  refine nf_Fr_7 rfl d_Fr_init_5 e3 ?_
  refine wm_dup d_Fr_init_8 rfl ?_
  refine cf_Fr_9 rfl d_Fr_init_9 (by rw [e3]; exact if_pos rfl) (Nat.le_of_ble_eq_true rfl) (Cv.mono h (fun M4 h => ?_))
  obtain ⟨hOM4, h⟩ := h
  obtain ⟨h7, h⟩ := h
  obtain ⟨M8, e9⟩ : ∃ M8, M8 = mUR M4 a0 0 (mZ M) := ⟨_, rfl⟩
  replace h := h M8 e9
  obtain ⟨M10, e11⟩ : ∃ M10, M10 = mNew M8 10 0 2 := ⟨_, rfl⟩
  replace h := h M10 e11
  have hOM8 : mOk M8 := by rw [e9]; exact mOk_UR hOM4
  refine pf_Fr_10 rfl rfl d_Fr_init_12 h7 e9 ?_
  refine wm_aload_n d_Fr_init_15 rfl rfl ?_
  have hOM10 : mOk M10 := by rw [e11]; exact mOk_New hOM8
  refine nf_Fr_7 rfl d_Fr_init_16 e11 ?_
  refine wm_dup d_Fr_init_19 rfl ?_
  refine cf_Fr_9 rfl d_Fr_init_20 (by rw [e11]; exact if_pos rfl) (Nat.le_of_ble_eq_true rfl) (Cv.mono h (fun M12 h => ?_))
  obtain ⟨hOM12, h⟩ := h
  obtain ⟨h15, h⟩ := h
  obtain ⟨M16, e17⟩ : ∃ M16, M16 = mUR M12 a0 1 (mZ M8) := ⟨_, rfl⟩
  replace h := h M16 e17
  obtain ⟨M18, e19⟩ : ∃ M18, M18 = mUI M16 a0 2 1 := ⟨_, rfl⟩
  replace h := h M18 e19
  have hOM16 : mOk M16 := by rw [e17]; exact mOk_UR hOM12
  refine pf_Fr_16 rfl rfl d_Fr_init_23 h15 e17 ?_
  refine wm_aload_n d_Fr_init_26 rfl rfl ?_
  refine wm_iconst d_Fr_init_27 ?_
  have hOM18 : mOk M18 := by rw [e19]; exact mOk_UI hOM16 ⟨by decide, by decide⟩
  refine pf_Fr_19 rfl d_Fr_init_28 (by rw [e17]; exact h15) ⟨by decide, by decide⟩ e19 ?_
  refine wm_return d_Fr_init_31 rfl ?_
  exact ⟨rfl, h⟩
theorem d_Fr_put0_0 : decode y_Fr_put0.2.1 0 = .ok (.aload_n 0, 1) := dc9_42 (by decide +kernel)
theorem d_Fr_put0_1 : decode y_Fr_put0.2.1 1 = .ok (.getfield 10, 3) := dc9_180 (by decide +kernel)
theorem d_Fr_put0_4 : decode y_Fr_put0.2.1 4 = .ok (.iload_n 1, 1) := dc9_27 (by decide +kernel)
theorem d_Fr_put0_5 : decode y_Fr_put0.2.1 5 = .ok (.invokevirtual 23, 3) := dc9_182 (by decide +kernel)
theorem d_Fr_put0_8 : decode y_Fr_put0.2.1 8 = .ok (.aload_n 0, 1) := dc9_42 (by decide +kernel)
theorem d_Fr_put0_9 : decode y_Fr_put0.2.1 9 = .ok (.getfield 16, 3) := dc9_180 (by decide +kernel)
theorem d_Fr_put0_12 : decode y_Fr_put0.2.1 12 = .ok (.iconst 1, 1) := dc9_4 (by decide +kernel)
theorem d_Fr_put0_13 : decode y_Fr_put0.2.1 13 = .ok (.invokevirtual 23, 3) := dc9_182 (by decide +kernel)
theorem d_Fr_put0_16 : decode y_Fr_put0.2.1 16 = .ok (.aload_n 0, 1) := dc9_42 (by decide +kernel)
theorem d_Fr_put0_17 : decode y_Fr_put0.2.1 17 = .ok (.iconst 1, 1) := dc9_4 (by decide +kernel)
theorem d_Fr_put0_18 : decode y_Fr_put0.2.1 18 = .ok (.putfield 19, 3) := dc9_181 (by decide +kernel)
theorem d_Fr_put0_21 : decode y_Fr_put0.2.1 21 = .ok (.return_, 1) := dc9_177 (by decide +kernel)
theorem k_Fr_put0 {G : mG} {d : Nat} {a0 : Nat} {l1 : Int} {M : mM} {Q : mM → Prop} (hO : mOk M) (hi_l1 : i32 l1)
    (h : mK M a0 = 11 ∧ mK M (mR M a0 0) = 10 ∧ Cv G y_Na_put0 d [vr (mR M a0 0), vi l1] M (fun M3 => mOk M3 ∧ (mK M3 a0 = 11 ∧ mK M3 (mR M3 a0 1) = 10 ∧ Cv G y_Na_put0 d [vr (mR M3 a0 1), vi 1] M3 (fun M8 => mOk M8 ∧ (mK M8 a0 = 11 ∧ ∀ M12, M12 = mUI M8 a0 2 1 → Q M12))))) :
    Cv G y_Fr_put0 (d + 1) [vr a0, vi l1] M Q := by
  refine wm_open (y := y_Fr_put0) rfl (Nat.le_of_ble_eq_true rfl) (L := [vr a0, vi l1]) rfl ?_
  obtain ⟨h1, h⟩ := h
  obtain ⟨h2, h⟩ := h
  refine wm_aload_n d_Fr_put0_0 rfl rfl ?_
  refine gf_Fr_10 rfl d_Fr_put0_1 h1 ?_
  refine wm_iload_n d_Fr_put0_4 rfl rfl ?_
  refine cf_Fr_23 rfl d_Fr_put0_5 h2 (Nat.le_of_ble_eq_true rfl) (Cv.mono h (fun M3 h => ?_))
  obtain ⟨hOM3, h⟩ := h
  obtain ⟨h6, h⟩ := h
  obtain ⟨h7, h⟩ := h
  refine wm_aload_n d_Fr_put0_8 rfl rfl ?_
  refine gf_Fr_16 rfl d_Fr_put0_9 h6 ?_
  refine wm_iconst d_Fr_put0_12 ?_
  refine cf_Fr_23 rfl d_Fr_put0_13 h7 (Nat.le_of_ble_eq_true rfl) (Cv.mono h (fun M8 h => ?_))
  obtain ⟨hOM8, h⟩ := h
  obtain ⟨h11, h⟩ := h
  obtain ⟨M12, e13⟩ : ∃ M12, M12 = mUI M8 a0 2 1 := ⟨_, rfl⟩
  replace h := h M12 e13
  refine wm_aload_n d_Fr_put0_16 rfl rfl ?_
  refine wm_iconst d_Fr_put0_17 ?_
  have hOM12 : mOk M12 := by rw [e13]; exact mOk_UI hOM8 ⟨by decide, by decide⟩
  refine pf_Fr_19 rfl d_Fr_put0_18 h11 ⟨by decide, by decide⟩ e13 ?_
  refine wm_return d_Fr_put0_21 rfl ?_
  exact ⟨rfl, h⟩
theorem d_Fr_put1_0 : decode y_Fr_put1.2.1 0 = .ok (.aload_n 0, 1) := dc9_42 (by decide +kernel)
theorem d_Fr_put1_1 : decode y_Fr_put1.2.1 1 = .ok (.getfield 10, 3) := dc9_180 (by decide +kernel)
theorem d_Fr_put1_4 : decode y_Fr_put1.2.1 4 = .ok (.aload_n 1, 1) := dc9_43 (by decide +kernel)
theorem d_Fr_put1_5 : decode y_Fr_put1.2.1 5 = .ok (.getfield 10, 3) := dc9_180 (by decide +kernel)
theorem d_Fr_put1_8 : decode y_Fr_put1.2.1 8 = .ok (.invokevirtual 27, 3) := dc9_182 (by decide +kernel)
theorem d_Fr_put1_11 : decode y_Fr_put1.2.1 11 = .ok (.aload_n 0, 1) := dc9_42 (by decide +kernel)
theorem d_Fr_put1_12 : decode y_Fr_put1.2.1 12 = .ok (.getfield 16, 3) := dc9_180 (by decide +kernel)
theorem d_Fr_put1_15 : decode y_Fr_put1.2.1 15 = .ok (.aload_n 1, 1) := dc9_43 (by decide +kernel)
theorem d_Fr_put1_16 : decode y_Fr_put1.2.1 16 = .ok (.getfield 16, 3) := dc9_180 (by decide +kernel)
theorem d_Fr_put1_19 : decode y_Fr_put1.2.1 19 = .ok (.invokevirtual 27, 3) := dc9_182 (by decide +kernel)
theorem d_Fr_put1_22 : decode y_Fr_put1.2.1 22 = .ok (.aload_n 0, 1) := dc9_42 (by decide +kernel)
theorem d_Fr_put1_23 : decode y_Fr_put1.2.1 23 = .ok (.aload_n 1, 1) := dc9_43 (by decide +kernel)
theorem d_Fr_put1_24 : decode y_Fr_put1.2.1 24 = .ok (.getfield 19, 3) := dc9_180 (by decide +kernel)
theorem d_Fr_put1_27 : decode y_Fr_put1.2.1 27 = .ok (.putfield 19, 3) := dc9_181 (by decide +kernel)
theorem d_Fr_put1_30 : decode y_Fr_put1.2.1 30 = .ok (.return_, 1) := dc9_177 (by decide +kernel)
theorem k_Fr_put1 {G : mG} {d : Nat} {a0 : Nat} {a1 : Nat} {M : mM} {Q : mM → Prop} (hO : mOk M)
    (h : mK M a0 = 11 ∧ mK M a1 = 11 ∧ mK M (mR M a0 0) = 10 ∧ Cv G y_Na_put1 d [vr (mR M a0 0), vr (mR M a1 0)] M (fun M4 => mOk M4 ∧ (mK M4 a0 = 11 ∧ mK M4 a1 = 11 ∧ mK M4 (mR M4 a0 1) = 10 ∧ Cv G y_Na_put1 d [vr (mR M4 a0 1), vr (mR M4 a1 1)] M4 (fun M10 => mOk M10 ∧ (mK M10 a1 = 11 ∧ mK M10 a0 = 11 ∧ ∀ M15, M15 = mUI M10 a0 2 (mI M10 a1 2) → Q M15))))) :
    Cv G y_Fr_put1 (d + 1) [vr a0, vr a1] M Q := by
  refine wm_open (y := y_Fr_put1) rfl (Nat.le_of_ble_eq_true rfl) (L := [vr a0, vr a1]) rfl ?_
  obtain ⟨h1, h⟩ := h
  obtain ⟨h2, h⟩ := h
  obtain ⟨h3, h⟩ := h
  refine wm_aload_n d_Fr_put1_0 rfl rfl ?_
  refine gf_Fr_10 rfl d_Fr_put1_1 h1 ?_
  refine wm_aload_n d_Fr_put1_4 rfl rfl ?_
  refine gf_Fr_10 rfl d_Fr_put1_5 h2 ?_
  refine cf_Fr_27 rfl d_Fr_put1_8 h3 (Nat.le_of_ble_eq_true rfl) (Cv.mono h (fun M4 h => ?_))
  obtain ⟨hOM4, h⟩ := h
  obtain ⟨h7, h⟩ := h
  obtain ⟨h8, h⟩ := h
  obtain ⟨h9, h⟩ := h
  refine wm_aload_n d_Fr_put1_11 rfl rfl ?_
  refine gf_Fr_16 rfl d_Fr_put1_12 h7 ?_
  refine wm_aload_n d_Fr_put1_15 rfl rfl ?_
  refine gf_Fr_16 rfl d_Fr_put1_16 h8 ?_
  refine cf_Fr_27 rfl d_Fr_put1_19 h9 (Nat.le_of_ble_eq_true rfl) (Cv.mono h (fun M10 h => ?_))
  obtain ⟨hOM10, h⟩ := h
  obtain ⟨h13, h⟩ := h
  obtain ⟨h14, h⟩ := h
  obtain ⟨M15, e16⟩ : ∃ M15, M15 = mUI M10 a0 2 (mI M10 a1 2) := ⟨_, rfl⟩
  replace h := h M15 e16
  refine wm_aload_n d_Fr_put1_22 rfl rfl ?_
  refine wm_aload_n d_Fr_put1_23 rfl rfl ?_
  refine gf_Fr_19 rfl d_Fr_put1_24 h13 ?_
  have hOM15 : mOk M15 := by rw [e16]; exact mOk_UI hOM10 (hOM10 _ _).1
  refine pf_Fr_19 rfl d_Fr_put1_27 h14 (hOM10 _ _).1 e16 ?_
  refine wm_return d_Fr_put1_30 rfl ?_
  exact ⟨rfl, h⟩
theorem d_Fs_init_0 : decode y_Fs_init.2.1 0 = .ok (.aload_n 0, 1) := dc9_42 (by decide +kernel)
theorem d_Fs_init_1 : decode y_Fs_init.2.1 1 = .ok (.invokespecial 3, 3) := dc9_183 (by decide +kernel)
theorem d_Fs_init_4 : decode y_Fs_init.2.1 4 = .ok (.aload_n 0, 1) := dc9_42 (by decide +kernel)
theorem d_Fs_init_5 : decode y_Fs_init.2.1 5 = .ok (.iconst 0, 1) := dc9_3 (by decide +kernel)
theorem d_Fs_init_6 : decode y_Fs_init.2.1 6 = .ok (.anewarray 9, 3) := dc9_189 (by decide +kernel)
theorem d_Fs_init_9 : decode y_Fs_init.2.1 9 = .ok (.putfield 11, 3) := dc9_181 (by decide +kernel)
theorem d_Fs_init_12 : decode y_Fs_init.2.1 12 = .ok (.aload_n 0, 1) := dc9_42 (by decide +kernel)
theorem d_Fs_init_13 : decode y_Fs_init.2.1 13 = .ok (.iconst 0, 1) := dc9_3 (by decide +kernel)
theorem d_Fs_init_14 : decode y_Fs_init.2.1 14 = .ok (.putfield 17, 3) := dc9_181 (by decide +kernel)
theorem d_Fs_init_17 : decode y_Fs_init.2.1 17 = .ok (.return_, 1) := dc9_177 (by decide +kernel)
theorem k_Fs_init {G : mG} {d : Nat} {a0 : Nat} {M : mM} {Q : mM → Prop} (hO : mOk M)
    (h : 0 < a0 ∧ ∀ M2, M2 = mNew M 35 0 0 → mK M2 a0 = 13 ∧ ∀ M5, M5 = mUR M2 a0 0 (mZ M) → ∀ M7, M7 = mUI M5 a0 1 0 → Q M7) :
    Cv G y_Fs_init (d + 1) [vr a0] M Q := by
  refine wm_open (y := y_Fs_init) rfl (Nat.le_of_ble_eq_true rfl) (L := [vr a0]) rfl ?_
  obtain ⟨h1, h⟩ := h
  obtain ⟨M2, e3⟩ : ∃ M2, M2 = mNew M 35 0 0 := ⟨_, rfl⟩
  replace h := h M2 e3
  obtain ⟨h4, h⟩ := h
  obtain ⟨M5, e6⟩ : ∃ M5, M5 = mUR M2 a0 0 (mZ M) := ⟨_, rfl⟩
  replace h := h M5 e6
  obtain ⟨M7, e8⟩ : ∃ M7, M7 = mUI M5 a0 1 0 := ⟨_, rfl⟩
  replace h := h M7 e8
  refine wm_aload_n d_Fs_init_0 rfl rfl ?_
  refine wm_objInit trivial k3_168 kO_inst kO_code (Nat.le_of_ble_eq_true rfl) d_Fs_init_1 h1 ?_
  refine wm_aload_n d_Fs_init_4 rfl rfl ?_
  refine wm_iconst d_Fs_init_5 ?_
  have hOM2 : mOk M2 := by rw [e3]; exact mOk_New hO
  refine wm_anewE 5 rfl (fun _ => rfl) k3_169 k3_170 ⟨by decide, by decide⟩ d_Fs_init_6 e3 ?_
  have hOM5 : mOk M5 := by rw [e6]; exact mOk_UR hOM2
  refine pf_Fs_11 rfl d_Fs_init_9 h4 e6 ?_
  refine wm_aload_n d_Fs_init_12 rfl rfl ?_
  refine wm_iconst d_Fs_init_13 ?_
  have hOM7 : mOk M7 := by rw [e8]; exact mOk_UI hOM5 (m_b32 (by decide))
  refine pf_Fs_17 rfl d_Fs_init_14 (by rw [e6]; exact h4) (by decide) e8 ?_
  refine wm_return d_Fs_init_17 rfl ?_
  exact ⟨rfl, h⟩
end
section
theorem d_Fs_reserve_0 : decode y_Fs_reserve.2.1 0 = .ok (.iload_n 1, 1) := dc9_27 (by decide +kernel)
theorem d_Fs_reserve_1 : decode y_Fs_reserve.2.1 1 = .ok (.aload_n 0, 1) := dc9_42 (by decide +kernel)
theorem d_Fs_reserve_2 : decode y_Fs_reserve.2.1 2 = .ok (.getfield 11, 3) := dc9_180 (by decide +kernel)
theorem d_Fs_reserve_5 : decode y_Fs_reserve.2.1 5 = .ok (.arraylength, 1) := dc9_190 (by decide +kernel)
theorem d_Fs_reserve_6 : decode y_Fs_reserve.2.1 6 = .ok (.if_icmp .le 71, 3) := dc9_164 (by decide +kernel)
theorem d_Fs_reserve_9 : decode y_Fs_reserve.2.1 9 = .ok (.sipush 512, 3) := dc9_17 (by decide +kernel)
theorem d_Fs_reserve_12 : decode y_Fs_reserve.2.1 12 = .ok (.iload_n 1, 1) := dc9_27 (by decide +kernel)
theorem d_Fs_reserve_13 : decode y_Fs_reserve.2.1 13 = .ok (.iconst 2, 1) := dc9_5 (by decide +kernel)
theorem d_Fs_reserve_14 : decode y_Fs_reserve.2.1 14 = .ok (.aload_n 0, 1) := dc9_42 (by decide +kernel)
theorem d_Fs_reserve_15 : decode y_Fs_reserve.2.1 15 = .ok (.getfield 11, 3) := dc9_180 (by decide +kernel)
theorem d_Fs_reserve_18 : decode y_Fs_reserve.2.1 18 = .ok (.arraylength, 1) := dc9_190 (by decide +kernel)
theorem d_Fs_reserve_19 : decode y_Fs_reserve.2.1 19 = .ok (.imul, 1) := dc9_104 (by decide +kernel)
theorem d_Fs_reserve_20 : decode y_Fs_reserve.2.1 20 = .ok (.invokestatic 21, 3) := dc9_184 (by decide +kernel)
theorem d_Fs_reserve_23 : decode y_Fs_reserve.2.1 23 = .ok (.invokestatic 27, 3) := dc9_184 (by decide +kernel)
theorem d_Fs_reserve_77 : decode y_Fs_reserve.2.1 77 = .ok (.return_, 1) := dc9_177 (by decide +kernel)
theorem d_Fs_reserve_26 : decode y_Fs_reserve.2.1 26 = .ok (.anewarray 9, 3) := dc9_189 (by decide +kernel)
theorem d_Fs_reserve_29 : decode y_Fs_reserve.2.1 29 = .ok (.astore_n 2, 1) := dc9_77 (by decide +kernel)
theorem d_Fs_reserve_30 : decode y_Fs_reserve.2.1 30 = .ok (.iconst 0, 1) := dc9_3 (by decide +kernel)
theorem d_Fs_reserve_31 : decode y_Fs_reserve.2.1 31 = .ok (.istore_n 3, 1) := dc9_62 (by decide +kernel)
theorem d_Fs_reserve_32 : decode y_Fs_reserve.2.1 32 = .ok (.iload_n 3, 1) := dc9_29 (by decide +kernel)
theorem d_Fs_reserve_33 : decode y_Fs_reserve.2.1 33 = .ok (.aload_n 2, 1) := dc9_44 (by decide +kernel)
theorem d_Fs_reserve_34 : decode y_Fs_reserve.2.1 34 = .ok (.arraylength, 1) := dc9_190 (by decide +kernel)
theorem d_Fs_reserve_35 : decode y_Fs_reserve.2.1 35 = .ok (.if_icmp .ge 37, 3) := dc9_162 (by decide +kernel)
theorem d_Fs_reserve_72 : decode y_Fs_reserve.2.1 72 = .ok (.aload_n 0, 1) := dc9_42 (by decide +kernel)
theorem d_Fs_reserve_73 : decode y_Fs_reserve.2.1 73 = .ok (.aload_n 2, 1) := dc9_44 (by decide +kernel)
theorem d_Fs_reserve_74 : decode y_Fs_reserve.2.1 74 = .ok (.putfield 11, 3) := dc9_181 (by decide +kernel)
theorem d_Fs_reserve_38 : decode y_Fs_reserve.2.1 38 = .ok (.aload_n 2, 1) := dc9_44 (by decide +kernel)
theorem d_Fs_reserve_39 : decode y_Fs_reserve.2.1 39 = .ok (.iload_n 3, 1) := dc9_29 (by decide +kernel)
theorem d_Fs_reserve_40 : decode y_Fs_reserve.2.1 40 = .ok (.iload_n 3, 1) := dc9_29 (by decide +kernel)
theorem d_Fs_reserve_41 : decode y_Fs_reserve.2.1 41 = .ok (.aload_n 0, 1) := dc9_42 (by decide +kernel)
theorem d_Fs_reserve_42 : decode y_Fs_reserve.2.1 42 = .ok (.getfield 11, 3) := dc9_180 (by decide +kernel)
theorem d_Fs_reserve_45 : decode y_Fs_reserve.2.1 45 = .ok (.arraylength, 1) := dc9_190 (by decide +kernel)
theorem d_Fs_reserve_46 : decode y_Fs_reserve.2.1 46 = .ok (.if_icmp .ge 12, 3) := dc9_162 (by decide +kernel)
theorem d_Fs_reserve_49 : decode y_Fs_reserve.2.1 49 = .ok (.aload_n 0, 1) := dc9_42 (by decide +kernel)
theorem d_Fs_reserve_50 : decode y_Fs_reserve.2.1 50 = .ok (.getfield 11, 3) := dc9_180 (by decide +kernel)
theorem d_Fs_reserve_53 : decode y_Fs_reserve.2.1 53 = .ok (.iload_n 3, 1) := dc9_29 (by decide +kernel)
theorem d_Fs_reserve_54 : decode y_Fs_reserve.2.1 54 = .ok (.aaload, 1) := dc9_50 (by decide +kernel)
theorem d_Fs_reserve_55 : decode y_Fs_reserve.2.1 55 = .ok (.goto 10, 3) := dc9_167 (by decide +kernel)
theorem d_Fs_reserve_65 : decode y_Fs_reserve.2.1 65 = .ok (.aastore, 1) := dc9_83 (by decide +kernel)
theorem d_Fs_reserve_66 : decode y_Fs_reserve.2.1 66 = .ok (.iinc 3 1, 3) := by decide +kernel
theorem d_Fs_reserve_69 : decode y_Fs_reserve.2.1 69 = .ok (.goto (-37), 3) := dc9_167 (by decide +kernel)
theorem d_Fs_reserve_58 : decode y_Fs_reserve.2.1 58 = .ok (.new 9, 3) := dc9_187 (by decide +kernel)
theorem d_Fs_reserve_61 : decode y_Fs_reserve.2.1 61 = .ok (.dup, 1) := dc9_89 (by decide +kernel)
theorem d_Fs_reserve_62 : decode y_Fs_reserve.2.1 62 = .ok (.invokespecial 30, 3) := dc9_183 (by decide +kernel)
def h_Fs_reserve_32 (G : mG) (d : Nat) (a0 : Nat) (a2 : Nat) (l3 : Int) (M : mM) (Q : mM → Prop) : Prop := mWm G y_Fs_reserve (d + 1) 32 [vr a0, vd, vr a2, vi l3] [] M (fun r9 M9 => r9 = none ∧ Q M9)
theorem k_Fs_reserve {G : mG} {d : Nat} {a0 : Nat} {l1 : Int} {M : mM} {Q : mM → Prop} (hO : mOk M) (hi_l1 : i32 l1)
    (h : mK M a0 = 13 ∧ mK M (mR M a0 0) = 35 ∧ i32 (mN M (mR M a0 0) : Int) ∧ ((l1 ≤ (mN M (mR M a0 0) : Int)) → (Q M)) ∧ (¬ (l1 ≤ (mN M (mR M a0 0) : Int)) → (i32 (2 * (mN M (mR M a0 0) : Int)) ∧ ((0 : Int) ≤ (if (if l1 < 2 * (mN M (mR M a0 0) : Int) then 2 * (mN M (mR M a0 0) : Int) else l1) < 512 then (if l1 < 2 * (mN M (mR M a0 0) : Int) then 2 * (mN M (mR M a0 0) : Int) else l1) else 512) ∧ (if (if l1 < 2 * (mN M (mR M a0 0) : Int) then 2 * (mN M (mR M a0 0) : Int) else l1) < 512 then (if l1 < 2 * (mN M (mR M a0 0) : Int) then 2 * (mN M (mR M a0 0) : Int) else l1) else 512) ≤ 16777216) ∧ ∀ M9, M9 = mNew M 35 (Int.toNat (if (if l1 < 2 * (mN M (mR M a0 0) : Int) then 2 * (mN M (mR M a0 0) : Int) else l1) < 512 then (if l1 < 2 * (mN M (mR M a0 0) : Int) then 2 * (mN M (mR M a0 0) : Int) else l1) else 512)) (Int.toNat (if (if l1 < 2 * (mN M (mR M a0 0) : Int) then 2 * (mN M (mR M a0 0) : Int) else l1) < 512 then (if l1 < 2 * (mN M (mR M a0 0) : Int) then 2 * (mN M (mR M a0 0) : Int) else l1) else 512)) → h_Fs_reserve_32 G d a0 (mZ M) 0 M9 Q))) :
    Cv G y_Fs_reserve (d + 1) [vr a0, vi l1] M Q := by
  refine wm_open (y := y_Fs_reserve) rfl (Nat.le_of_ble_eq_true rfl) (L := [vr a0, vi l1, vd, vd]) rfl ?_
  obtain ⟨h1, h⟩ := h
  obtain ⟨h2, h⟩ := h
  obtain ⟨h5, h⟩ := h
  refine wm_iload_n d_Fs_reserve_0 rfl rfl ?_
  refine wm_aload_n d_Fs_reserve_1 rfl rfl ?_
  refine gf_Fs_11 rfl d_Fs_reserve_2 h1 ?_
  refine wm_alen 5 rfl (fun _ => rfl) d_Fs_reserve_5 h2 ?_
  refine wm_icmp_le (tgt := 77) d_Fs_reserve_6 rfl hi_l1 h5 (fun c6 => ?_) (fun c6 => ?_)
  · replace h := h.1 c6
    refine wm_return d_Fs_reserve_77 rfl ?_
    exact ⟨rfl, h⟩
  · replace h := h.2 c6
    obtain ⟨h7, h⟩ := h
    obtain ⟨h8, h⟩ := h
    obtain ⟨M9, e10⟩ : ∃ M9, M9 = mNew M 35 (Int.toNat (if (if l1 < 2 * (mN M (mR M a0 0) : Int) then 2 * (mN M (mR M a0 0) : Int) else l1) < 512 then (if l1 < 2 * (mN M (mR M a0 0) : Int) then 2 * (mN M (mR M a0 0) : Int) else l1) else 512)) (Int.toNat (if (if l1 < 2 * (mN M (mR M a0 0) : Int) then 2 * (mN M (mR M a0 0) : Int) else l1) < 512 then (if l1 < 2 * (mN M (mR M a0 0) : Int) then 2 * (mN M (mR M a0 0) : Int) else l1) else 512)) := ⟨_, rfl⟩
    replace h := h M9 e10
    refine wm_sipush d_Fs_reserve_9 (by decide) ?_
    refine wm_iload_n d_Fs_reserve_12 rfl rfl ?_
    refine wm_iconst d_Fs_reserve_13 ?_
    refine wm_aload_n d_Fs_reserve_14 rfl rfl ?_
    refine gf_Fs_11 rfl d_Fs_reserve_15 h1 ?_
    refine wm_alen 5 rfl (fun _ => rfl) d_Fs_reserve_18 h2 ?_
    refine wm_imul d_Fs_reserve_19 ?_
    refine wm_mmax k8_104 (Nat.le_of_ble_eq_true rfl) hi_l1 h7 d_Fs_reserve_20 ?_
    refine wm_mmin k8_105 (Nat.le_of_ble_eq_true rfl) ⟨by decide, by decide⟩ (m_ite32 h7 hi_l1) d_Fs_reserve_23 ?_
    have hOM9 : mOk M9 := by rw [e10]; exact mOk_New hO
    refine wm_anewE 5 rfl (fun _ => rfl) k3_169 k3_170 h8 d_Fs_reserve_26 e10 ?_
    refine wm_astore_n d_Fs_reserve_29 rfl (by decide) (L' := [vr a0, vi l1, vr (mZ M), vd]) rfl ?_
    refine wm_iconst d_Fs_reserve_30 ?_
    refine wm_istore_n d_Fs_reserve_31 rfl (by decide) (L' := [vr a0, vi l1, vr (mZ M), vi 0]) rfl ?_
    refine wm_less (L' := [vr a0, vd, vr (mZ M), vi 0]) ⟨Or.inr rfl, Or.inl rfl, Or.inr rfl, Or.inr rfl, trivial⟩ ?_
    exact h
theorem k_Fs_reserve_32 {G : mG} {d : Nat} {a0 : Nat} {a2 : Nat} {l3 : Int} {M : mM} {Q : mM → Prop} (hO : mOk M) (hi_l3 : i32 l3)
    (h : mK M a2 = 35 ∧ i32 (mN M a2 : Int) ∧ (((mN M a2 : Int) ≤ l3) → (mK M a0 = 13 ∧ ∀ M20, M20 = mUR M a0 0 a2 → Q M20)) ∧ (¬ ((mN M a2 : Int) ≤ l3) → (mK M a0 = 13 ∧ mK M (mR M a0 0) = 35 ∧ i32 (mN M (mR M a0 0) : Int) ∧ (((mN M (mR M a0 0) : Int) ≤ l3) → (∀ M33, M33 = mNew M 11 0 3 → Cv G y_Fr_init d [vr (mZ M)] M33 (fun M35 => mOk M35 ∧ (mK M35 a2 = 35 ∧ ((0 : Int) ≤ l3 ∧ l3 < (mN M35 a2 : Int)) ∧ mK M35 (mZ M) = 11 ∧ ∀ M41, M41 = mUR M35 a2 (Int.toNat l3) (mZ M) → h_Fs_reserve_32 G d a0 a2 (l3 + 1) M41 Q)))) ∧ (¬ ((mN M (mR M a0 0) : Int) ≤ l3) → (((0 : Int) ≤ l3 ∧ l3 < (mN M (mR M a0 0) : Int)) ∧ ((0 : Int) ≤ l3 ∧ l3 < (mN M a2 : Int)) ∧ mK M (mR M (mR M a0 0) (Int.toNat l3)) = 11 ∧ ∀ M46, M46 = mUR M a2 (Int.toNat l3) (mR M (mR M a0 0) (Int.toNat l3)) → h_Fs_reserve_32 G d a0 a2 (l3 + 1) M46 Q))))) :
    h_Fs_reserve_32 G d a0 a2 l3 M Q := by
  unfold h_Fs_reserve_32
  obtain ⟨h11, h⟩ := h
  obtain ⟨h17, h⟩ := h
  refine wm_iload_n d_Fs_reserve_32 rfl rfl ?_
  refine wm_aload_n d_Fs_reserve_33 rfl rfl ?_
  refine wm_alen 5 rfl (fun _ => rfl) d_Fs_reserve_34 h11 ?_
  refine wm_icmp_ge (tgt := 72) d_Fs_reserve_35 rfl hi_l3 h17 (fun c18 => ?_) (fun c18 => ?_)
  · replace h := h.1 c18
    obtain ⟨h19, h⟩ := h
    obtain ⟨M20, e21⟩ : ∃ M20, M20 = mUR M a0 0 a2 := ⟨_, rfl⟩
    replace h := h M20 e21
    refine wm_aload_n d_Fs_reserve_72 rfl rfl ?_
    refine wm_aload_n d_Fs_reserve_73 rfl rfl ?_
    have hOM20 : mOk M20 := by rw [e21]; exact mOk_UR hO
    refine pf_Fs_11 rfl d_Fs_reserve_74 h19 e21 ?_
    refine wm_return d_Fs_reserve_77 rfl ?_
    exact ⟨rfl, h⟩
  · replace h := h.2 c18
    obtain ⟨h22, h⟩ := h
    obtain ⟨h23, h⟩ := h
    obtain ⟨h31, h⟩ := h
    refine wm_aload_n d_Fs_reserve_38 rfl rfl ?_
    refine wm_iload_n d_Fs_reserve_39 rfl rfl ?_
    refine wm_iload_n d_Fs_reserve_40 rfl rfl ?_
    refine wm_aload_n d_Fs_reserve_41 rfl rfl ?_
    refine gf_Fs_11 rfl d_Fs_reserve_42 h22 ?_
    refine wm_alen 5 rfl (fun _ => rfl) d_Fs_reserve_45 h23 ?_
    refine wm_icmp_ge (tgt := 58) d_Fs_reserve_46 rfl hi_l3 h31 (fun c32 => ?_) (fun c32 => ?_)
    · replace h := h.1 c32
      obtain ⟨M33, e34⟩ : ∃ M33, M33 = mNew M 11 0 3 := ⟨_, rfl⟩
      replace h := h M33 e34
      have hOM33 : mOk M33 := by rw [e34]; exact mOk_New hO
      refine nf_Fs_9 rfl d_Fs_reserve_58 e34 ?_
      refine wm_dup d_Fs_reserve_61 rfl ?_
      refine cf_Fs_30 rfl d_Fs_reserve_62 (by rw [e34]; exact if_pos rfl) (Nat.le_of_ble_eq_true rfl) (Cv.mono h (fun M35 h => ?_))
      obtain ⟨hOM35, h⟩ := h
      obtain ⟨h38, h⟩ := h
      obtain ⟨h39, h⟩ := h
      obtain ⟨h40, h⟩ := h
      obtain ⟨M41, e42⟩ : ∃ M41, M41 = mUR M35 a2 (Int.toNat l3) (mZ M) := ⟨_, rfl⟩
      replace h := h M41 e42
      have hOM41 : mOk M41 := by rw [e42]; exact mOk_UR hOM35
      refine wm_aastE (t := 5) (c := 10) rfl (fun _ => rfl) rfl rfl d_Fs_reserve_65 h38 h39 h40 e42 ?_
      refine wm_iinc d_Fs_reserve_66 (by decide) rfl (L' := [vr a0, vd, vr a2, vi (l3 + 1)]) rfl ?_
      refine wm_goto (tgt := 32) d_Fs_reserve_69 rfl ?_
      exact h
    · replace h := h.2 c32
      obtain ⟨h43, h⟩ := h
      obtain ⟨h44, h⟩ := h
      obtain ⟨h45, h⟩ := h
      obtain ⟨M46, e47⟩ : ∃ M46, M46 = mUR M a2 (Int.toNat l3) (mR M (mR M a0 0) (Int.toNat l3)) := ⟨_, rfl⟩
      replace h := h M46 e47
      refine wm_aload_n d_Fs_reserve_49 rfl rfl ?_
      refine gf_Fs_11 rfl d_Fs_reserve_50 h22 ?_
      refine wm_iload_n d_Fs_reserve_53 rfl rfl ?_
      refine wm_aald5 d_Fs_reserve_54 h23 h43 ?_
      refine wm_goto (tgt := 65) d_Fs_reserve_55 rfl ?_
      have hOM46 : mOk M46 := by rw [e47]; exact mOk_UR hO
      refine wm_aastE (t := 5) (c := 10) rfl (fun _ => rfl) rfl rfl d_Fs_reserve_65 h11 h44 h45 e47 ?_
      refine wm_iinc d_Fs_reserve_66 (by decide) rfl (L' := [vr a0, vd, vr a2, vi (l3 + 1)]) rfl ?_
      refine wm_goto (tgt := 32) d_Fs_reserve_69 rfl ?_
      exact h
theorem d_Fs_begin_0 : decode y_Fs_begin.2.1 0 = .ok (.aload_n 0, 1) := dc9_42 (by decide +kernel)
theorem d_Fs_begin_1 : decode y_Fs_begin.2.1 1 = .ok (.aload_n 1, 1) := dc9_43 (by decide +kernel)
theorem d_Fs_begin_2 : decode y_Fs_begin.2.1 2 = .ok (.getfield 31, 3) := dc9_180 (by decide +kernel)
theorem d_Fs_begin_5 : decode y_Fs_begin.2.1 5 = .ok (.invokevirtual 37, 3) := dc9_182 (by decide +kernel)
theorem d_Fs_begin_8 : decode y_Fs_begin.2.1 8 = .ok (.iconst 0, 1) := dc9_3 (by decide +kernel)
theorem d_Fs_begin_9 : decode y_Fs_begin.2.1 9 = .ok (.istore_n 2, 1) := dc9_61 (by decide +kernel)
theorem d_Fs_begin_10 : decode y_Fs_begin.2.1 10 = .ok (.iload_n 2, 1) := dc9_28 (by decide +kernel)
theorem d_Fs_begin_11 : decode y_Fs_begin.2.1 11 = .ok (.aload_n 1, 1) := dc9_43 (by decide +kernel)
theorem d_Fs_begin_12 : decode y_Fs_begin.2.1 12 = .ok (.getfield 31, 3) := dc9_180 (by decide +kernel)
theorem d_Fs_begin_15 : decode y_Fs_begin.2.1 15 = .ok (.if_icmp .ge 33, 3) := dc9_162 (by decide +kernel)
theorem d_Fs_begin_48 : decode y_Fs_begin.2.1 48 = .ok (.return_, 1) := dc9_177 (by decide +kernel)
theorem d_Fs_begin_18 : decode y_Fs_begin.2.1 18 = .ok (.aload_n 0, 1) := dc9_42 (by decide +kernel)
theorem d_Fs_begin_19 : decode y_Fs_begin.2.1 19 = .ok (.getfield 11, 3) := dc9_180 (by decide +kernel)
theorem d_Fs_begin_22 : decode y_Fs_begin.2.1 22 = .ok (.iload_n 2, 1) := dc9_28 (by decide +kernel)
theorem d_Fs_begin_23 : decode y_Fs_begin.2.1 23 = .ok (.aaload, 1) := dc9_50 (by decide +kernel)
theorem d_Fs_begin_24 : decode y_Fs_begin.2.1 24 = .ok (.aload_n 1, 1) := dc9_43 (by decide +kernel)
theorem d_Fs_begin_25 : decode y_Fs_begin.2.1 25 = .ok (.getfield 41, 3) := dc9_180 (by decide +kernel)
theorem d_Fs_begin_28 : decode y_Fs_begin.2.1 28 = .ok (.iload_n 2, 1) := dc9_28 (by decide +kernel)
theorem d_Fs_begin_29 : decode y_Fs_begin.2.1 29 = .ok (.iaload, 1) := dc9_46 (by decide +kernel)
theorem d_Fs_begin_30 : decode y_Fs_begin.2.1 30 = .ok (.iconst 3, 1) := dc9_6 (by decide +kernel)
theorem d_Fs_begin_31 : decode y_Fs_begin.2.1 31 = .ok (.if_icmp .ne 7, 3) := dc9_160 (by decide +kernel)
theorem d_Fs_begin_34 : decode y_Fs_begin.2.1 34 = .ok (.iconst 1, 1) := dc9_4 (by decide +kernel)
theorem d_Fs_begin_35 : decode y_Fs_begin.2.1 35 = .ok (.goto 4, 3) := dc9_167 (by decide +kernel)
theorem d_Fs_begin_38 : decode y_Fs_begin.2.1 38 = .ok (.iconst 0, 1) := dc9_3 (by decide +kernel)
theorem d_Fs_begin_39 : decode y_Fs_begin.2.1 39 = .ok (.invokevirtual 45, 3) := dc9_182 (by decide +kernel)
theorem d_Fs_begin_42 : decode y_Fs_begin.2.1 42 = .ok (.iinc 2 1, 3) := by decide +kernel
theorem d_Fs_begin_45 : decode y_Fs_begin.2.1 45 = .ok (.goto (-35), 3) := dc9_167 (by decide +kernel)
def h_Fs_begin_10 (G : mG) (d : Nat) (a0 : Nat) (a1 : Nat) (l2 : Int) (M : mM) (Q : mM → Prop) : Prop := mWm G y_Fs_begin (d + 1) 10 [vr a0, vr a1, vi l2] [] M (fun r9 M9 => r9 = none ∧ Q M9)
theorem k_Fs_begin {G : mG} {d : Nat} {a0 : Nat} {a1 : Nat} {M : mM} {Q : mM → Prop} (hO : mOk M)
    (h : mK M a1 = 7 ∧ mK M a0 = 13 ∧ Cv G y_Fs_reserve d [vr a0, vi (mI M a1 0)] M (fun M3 => mOk M3 ∧ (h_Fs_begin_10 G d a0 a1 0 M3 Q))) :
    Cv G y_Fs_begin (d + 1) [vr a0, vr a1] M Q := by
  refine wm_open (y := y_Fs_begin) rfl (Nat.le_of_ble_eq_true rfl) (L := [vr a0, vr a1, vd]) rfl ?_
  obtain ⟨h1, h⟩ := h
  obtain ⟨h2, h⟩ := h
  refine wm_aload_n d_Fs_begin_0 rfl rfl ?_
  refine wm_aload_n d_Fs_begin_1 rfl rfl ?_
  refine gf_Fs_31 rfl d_Fs_begin_2 h1 ?_
  refine cf_Fs_37 rfl d_Fs_begin_5 h2 (Nat.le_of_ble_eq_true rfl) (Cv.mono h (fun M3 h => ?_))
  obtain ⟨hOM3, h⟩ := h
  refine wm_iconst d_Fs_begin_8 ?_
  refine wm_istore_n d_Fs_begin_9 rfl (by decide) (L' := [vr a0, vr a1, vi 0]) rfl ?_
  exact h
theorem k_Fs_begin_10 {G : mG} {d : Nat} {a0 : Nat} {a1 : Nat} {l2 : Int} {M : mM} {Q : mM → Prop} (hO : mOk M) (hi_l2 : i32 l2)
    (h : mK M a1 = 7 ∧ ((mI M a1 0 ≤ l2) → (Q M)) ∧ (¬ (mI M a1 0 ≤ l2) → (mK M a0 = 13 ∧ mK M (mR M a0 0) = 35 ∧ ((0 : Int) ≤ l2 ∧ l2 < (mN M (mR M a0 0) : Int)) ∧ mK M (mR M a1 2) = 30 ∧ ((0 : Int) ≤ l2 ∧ l2 < (mN M (mR M a1 2) : Int)) ∧ ∀ v20 : Int, v20 = (if (mI M (mR M a1 2) (Int.toNat l2) = 3) then 1 else 0) → mK M (mR M (mR M a0 0) (Int.toNat l2)) = 11 ∧ Cv G y_Fr_put0 d [vr (mR M (mR M a0 0) (Int.toNat l2)), vi v20] M (fun M26 => mOk M26 ∧ (h_Fs_begin_10 G d a0 a1 (l2 + 1) M26 Q))))) :
    h_Fs_begin_10 G d a0 a1 l2 M Q := by
  unfold h_Fs_begin_10
  obtain ⟨h6, h⟩ := h
  refine wm_iload_n d_Fs_begin_10 rfl rfl ?_
  refine wm_aload_n d_Fs_begin_11 rfl rfl ?_
  refine gf_Fs_31 rfl d_Fs_begin_12 h6 ?_
  refine wm_icmp_ge (tgt := 48) d_Fs_begin_15 rfl hi_l2 (hO _ _).1 (fun c13 => ?_) (fun c13 => ?_)
  · replace h := h.1 c13
    refine wm_return d_Fs_begin_48 rfl ?_
    exact ⟨rfl, h⟩
  · replace h := h.2 c13
    obtain ⟨h14, h⟩ := h
    obtain ⟨h15, h⟩ := h
    obtain ⟨h16, h⟩ := h
    obtain ⟨h17, h⟩ := h
    obtain ⟨h18, h⟩ := h
    refine wm_aload_n d_Fs_begin_18 rfl rfl ?_
    refine gf_Fs_11 rfl d_Fs_begin_19 h14 ?_
    refine wm_iload_n d_Fs_begin_22 rfl rfl ?_
    refine wm_aald5 d_Fs_begin_23 h15 h16 ?_
    refine wm_aload_n d_Fs_begin_24 rfl rfl ?_
    refine gf_Fs_41 rfl d_Fs_begin_25 h6 ?_
    refine wm_iload_n d_Fs_begin_28 rfl rfl ?_
    refine wm_iald d_Fs_begin_29 h17 h18 ?_
    refine wm_iconst d_Fs_begin_30 ?_
    have hJ : ∀ v20 : Int, v20 = (if (mI M (mR M a1 2) (Int.toNat l2) = 3) then 1 else 0) → mWm G y_Fs_begin (d + 1) 39 [vr a0, vr a1, vi l2] [vi v20, vr (mR M (mR M a0 0) (Int.toNat l2))] M (fun r9 M9 => r9 = none ∧ Q M9) := by
      intro v20 e22
      have h := h v20 e22
      have h23 : i32 v20 := by rw [e22]; (repeat' split) <;> first | exact ⟨by decide, by decide⟩ | exact ⟨by decide, by decide⟩
      have h24 : (v20 = 0 ∨ v20 = 1) := by rw [e22]; (repeat' split) <;> decide
      obtain ⟨h25, h⟩ := h
      refine cf_Fs_45 rfl d_Fs_begin_39 h25 (Nat.le_of_ble_eq_true rfl) (Cv.mono h (fun M26 h => ?_))
      obtain ⟨hOM26, h⟩ := h
      refine wm_iinc d_Fs_begin_42 (by decide) rfl (L' := [vr a0, vr a1, vi (l2 + 1)]) rfl ?_
      refine wm_goto (tgt := 10) d_Fs_begin_45 rfl ?_
      exact h
    clear h
    refine wm_icmp_ne (tgt := 38) d_Fs_begin_31 rfl (hO _ _).1 ⟨by decide, by decide⟩ (fun c19 => ?_) (fun c19 => ?_)
    · refine wm_iconst d_Fs_begin_38 ?_
      exact hJ 0 (if_neg c19).symm
    · replace c19 := Classical.not_not.mp c19
      refine wm_iconst d_Fs_begin_34 ?_
      refine wm_goto (tgt := 39) d_Fs_begin_35 rfl ?_
      exact hJ 1 (if_pos c19).symm
theorem d_Ga_init_0 : decode y_Ga_init.2.1 0 = .ok (.aload_n 0, 1) := dc9_42 (by decide +kernel)
theorem d_Ga_init_1 : decode y_Ga_init.2.1 1 = .ok (.invokespecial 3, 3) := dc9_183 (by decide +kernel)
theorem d_Ga_init_4 : decode y_Ga_init.2.1 4 = .ok (.aload_n 0, 1) := dc9_42 (by decide +kernel)
theorem d_Ga_init_5 : decode y_Ga_init.2.1 5 = .ok (.sipush 6144, 3) := dc9_17 (by decide +kernel)
theorem d_Ga_init_8 : decode y_Ga_init.2.1 8 = .ok (.newarray .int, 2) := by decide +kernel
theorem d_Ga_init_10 : decode y_Ga_init.2.1 10 = .ok (.putfield 9, 3) := dc9_181 (by decide +kernel)
theorem d_Ga_init_13 : decode y_Ga_init.2.1 13 = .ok (.aload_n 0, 1) := dc9_42 (by decide +kernel)
theorem d_Ga_init_14 : decode y_Ga_init.2.1 14 = .ok (.sipush 512, 3) := dc9_17 (by decide +kernel)
theorem d_Ga_init_17 : decode y_Ga_init.2.1 17 = .ok (.newarray .int, 2) := by decide +kernel
theorem d_Ga_init_19 : decode y_Ga_init.2.1 19 = .ok (.putfield 15, 3) := dc9_181 (by decide +kernel)
theorem d_Ga_init_22 : decode y_Ga_init.2.1 22 = .ok (.aload_n 0, 1) := dc9_42 (by decide +kernel)
theorem d_Ga_init_23 : decode y_Ga_init.2.1 23 = .ok (.sipush 512, 3) := dc9_17 (by decide +kernel)
theorem d_Ga_init_26 : decode y_Ga_init.2.1 26 = .ok (.newarray .int, 2) := by decide +kernel
theorem d_Ga_init_28 : decode y_Ga_init.2.1 28 = .ok (.putfield 18, 3) := dc9_181 (by decide +kernel)
theorem d_Ga_init_31 : decode y_Ga_init.2.1 31 = .ok (.aload_n 0, 1) := dc9_42 (by decide +kernel)
theorem d_Ga_init_32 : decode y_Ga_init.2.1 32 = .ok (.sipush 513, 3) := dc9_17 (by decide +kernel)
theorem d_Ga_init_35 : decode y_Ga_init.2.1 35 = .ok (.newarray .int, 2) := by decide +kernel
theorem d_Ga_init_37 : decode y_Ga_init.2.1 37 = .ok (.putfield 21, 3) := dc9_181 (by decide +kernel)
theorem d_Ga_init_40 : decode y_Ga_init.2.1 40 = .ok (.aload_n 0, 1) := dc9_42 (by decide +kernel)
theorem d_Ga_init_41 : decode y_Ga_init.2.1 41 = .ok (.sipush 4097, 3) := dc9_17 (by decide +kernel)
theorem d_Ga_init_44 : decode y_Ga_init.2.1 44 = .ok (.newarray .int, 2) := by decide +kernel
theorem d_Ga_init_46 : decode y_Ga_init.2.1 46 = .ok (.putfield 24, 3) := dc9_181 (by decide +kernel)
theorem d_Ga_init_49 : decode y_Ga_init.2.1 49 = .ok (.aload_n 0, 1) := dc9_42 (by decide +kernel)
theorem d_Ga_init_50 : decode y_Ga_init.2.1 50 = .ok (.sipush 4097, 3) := dc9_17 (by decide +kernel)
theorem d_Ga_init_53 : decode y_Ga_init.2.1 53 = .ok (.newarray .int, 2) := by decide +kernel
theorem d_Ga_init_55 : decode y_Ga_init.2.1 55 = .ok (.putfield 27, 3) := dc9_181 (by decide +kernel)
theorem d_Ga_init_58 : decode y_Ga_init.2.1 58 = .ok (.aload_n 0, 1) := dc9_42 (by decide +kernel)
theorem d_Ga_init_59 : decode y_Ga_init.2.1 59 = .ok (.sipush 4098, 3) := dc9_17 (by decide +kernel)
theorem d_Ga_init_62 : decode y_Ga_init.2.1 62 = .ok (.newarray .int, 2) := by decide +kernel
theorem d_Ga_init_64 : decode y_Ga_init.2.1 64 = .ok (.putfield 30, 3) := dc9_181 (by decide +kernel)
theorem d_Ga_init_67 : decode y_Ga_init.2.1 67 = .ok (.aload_n 0, 1) := dc9_42 (by decide +kernel)
theorem d_Ga_init_68 : decode y_Ga_init.2.1 68 = .ok (.sipush 4096, 3) := dc9_17 (by decide +kernel)
theorem d_Ga_init_71 : decode y_Ga_init.2.1 71 = .ok (.newarray .int, 2) := by decide +kernel
theorem d_Ga_init_73 : decode y_Ga_init.2.1 73 = .ok (.putfield 33, 3) := dc9_181 (by decide +kernel)
theorem d_Ga_init_76 : decode y_Ga_init.2.1 76 = .ok (.aload_n 0, 1) := dc9_42 (by decide +kernel)
theorem d_Ga_init_77 : decode y_Ga_init.2.1 77 = .ok (.sipush 4096, 3) := dc9_17 (by decide +kernel)
theorem d_Ga_init_80 : decode y_Ga_init.2.1 80 = .ok (.newarray .int, 2) := by decide +kernel
theorem d_Ga_init_82 : decode y_Ga_init.2.1 82 = .ok (.putfield 36, 3) := dc9_181 (by decide +kernel)
theorem d_Ga_init_85 : decode y_Ga_init.2.1 85 = .ok (.aload_n 0, 1) := dc9_42 (by decide +kernel)
theorem d_Ga_init_86 : decode y_Ga_init.2.1 86 = .ok (.new 39, 3) := dc9_187 (by decide +kernel)
theorem d_Ga_init_89 : decode y_Ga_init.2.1 89 = .ok (.dup, 1) := dc9_89 (by decide +kernel)
theorem d_Ga_init_90 : decode y_Ga_init.2.1 90 = .ok (.invokespecial 41, 3) := dc9_183 (by decide +kernel)
theorem d_Ga_init_93 : decode y_Ga_init.2.1 93 = .ok (.putfield 42, 3) := dc9_181 (by decide +kernel)
theorem d_Ga_init_96 : decode y_Ga_init.2.1 96 = .ok (.aload_n 0, 1) := dc9_42 (by decide +kernel)
theorem d_Ga_init_97 : decode y_Ga_init.2.1 97 = .ok (.sipush 1024, 3) := dc9_17 (by decide +kernel)
theorem d_Ga_init_100 : decode y_Ga_init.2.1 100 = .ok (.newarray .int, 2) := by decide +kernel
theorem d_Ga_init_102 : decode y_Ga_init.2.1 102 = .ok (.putfield 46, 3) := dc9_181 (by decide +kernel)
theorem d_Ga_init_105 : decode y_Ga_init.2.1 105 = .ok (.aload_n 0, 1) := dc9_42 (by decide +kernel)
theorem d_Ga_init_106 : decode y_Ga_init.2.1 106 = .ok (.bipush 8, 2) := dc9_16 (by decide +kernel)
theorem d_Ga_init_108 : decode y_Ga_init.2.1 108 = .ok (.newarray .int, 2) := by decide +kernel
theorem d_Ga_init_110 : decode y_Ga_init.2.1 110 = .ok (.putfield 49, 3) := dc9_181 (by decide +kernel)
theorem d_Ga_init_113 : decode y_Ga_init.2.1 113 = .ok (.aload_n 0, 1) := dc9_42 (by decide +kernel)
theorem d_Ga_init_114 : decode y_Ga_init.2.1 114 = .ok (.bipush 8, 2) := dc9_16 (by decide +kernel)
theorem d_Ga_init_116 : decode y_Ga_init.2.1 116 = .ok (.newarray .int, 2) := by decide +kernel
theorem d_Ga_init_118 : decode y_Ga_init.2.1 118 = .ok (.putfield 52, 3) := dc9_181 (by decide +kernel)
theorem d_Ga_init_121 : decode y_Ga_init.2.1 121 = .ok (.return_, 1) := dc9_177 (by decide +kernel)
theorem k_Ga_init {G : mG} {d : Nat} {a0 : Nat} {M : mM} {Q : mM → Prop} (hO : mOk M)
    (h : 0 < a0 ∧ ∀ M2, M2 = mNew M 30 6144 6144 → mK M2 a0 = 7 ∧ ∀ M5, M5 = mUR M2 a0 1 (mZ M) → ∀ M7, M7 = mNew M5 30 512 512 → mK M7 a0 = 7 ∧ ∀ M10, M10 = mUR M7 a0 2 (mZ M5) → ∀ M12, M12 = mNew M10 30 512 512 → mK M12 a0 = 7 ∧ ∀ M15, M15 = mUR M12 a0 3 (mZ M10) → ∀ M17, M17 = mNew M15 30 513 513 → mK M17 a0 = 7 ∧ ∀ M20, M20 = mUR M17 a0 4 (mZ M15) → ∀ M22, M22 = mNew M20 30 4097 4097 → mK M22 a0 = 7 ∧ ∀ M25, M25 = mUR M22 a0 5 (mZ M20) → ∀ M27, M27 = mNew M25 30 4097 4097 → mK M27 a0 = 7 ∧ ∀ M30, M30 = mUR M27 a0 6 (mZ M25) → ∀ M32, M32 = mNew M30 30 4098 4098 → mK M32 a0 = 7 ∧ ∀ M35, M35 = mUR M32 a0 7 (mZ M30) → ∀ M37, M37 = mNew M35 30 4096 4096 → mK M37 a0 = 7 ∧ ∀ M40, M40 = mUR M37 a0 8 (mZ M35) → ∀ M42, M42 = mNew M40 30 4096 4096 → mK M42 a0 = 7 ∧ ∀ M45, M45 = mUR M42 a0 9 (mZ M40) → ∀ M47, M47 = mNew M45 5 0 16 → Cv G y_Ma_init d [vr (mZ M45)] M47 (fun M49 => mOk M49 ∧ (mK M49 a0 = 7 ∧ ∀ M53, M53 = mUR M49 a0 15 (mZ M45) → ∀ M55, M55 = mNew M53 30 1024 1024 → mK M55 a0 = 7 ∧ ∀ M58, M58 = mUR M55 a0 16 (mZ M53) → ∀ M60, M60 = mNew M58 30 8 8 → mK M60 a0 = 7 ∧ ∀ M63, M63 = mUR M60 a0 17 (mZ M58) → ∀ M65, M65 = mNew M63 30 8 8 → mK M65 a0 = 7 ∧ ∀ M68, M68 = mUR M65 a0 18 (mZ M63) → Q M68))) :
    Cv G y_Ga_init (d + 1) [vr a0] M Q := by
  refine wm_open (y := y_Ga_init) rfl (Nat.le_of_ble_eq_true rfl) (L := [vr a0]) rfl ?_
  obtain ⟨h1, h⟩ := h
  obtain ⟨M2, e3⟩ : ∃ M2, M2 = mNew M 30 6144 6144 := ⟨_, rfl⟩
  replace h := h M2 e3
  obtain ⟨h4, h⟩ := h
  obtain ⟨M5, e6⟩ : ∃ M5, M5 = mUR M2 a0 1 (mZ M) := ⟨_, rfl⟩
  replace h := h M5 e6
  obtain ⟨M7, e8⟩ : ∃ M7, M7 = mNew M5 30 512 512 := ⟨_, rfl⟩
  replace h := h M7 e8
  obtain ⟨h9, h⟩ := h
  obtain ⟨M10, e11⟩ : ∃ M10, M10 = mUR M7 a0 2 (mZ M5) := ⟨_, rfl⟩
  replace h := h M10 e11
  obtain ⟨M12, e13⟩ : ∃ M12, M12 = mNew M10 30 512 512 := ⟨_, rfl⟩
  replace h := h M12 e13
  obtain ⟨h14, h⟩ := h
  obtain ⟨M15, e16⟩ : ∃ M15, M15 = mUR M12 a0 3 (mZ M10) := ⟨_, rfl⟩
  replace h := h M15 e16
  obtain ⟨M17, e18⟩ : ∃ M17, M17 = mNew M15 30 513 513 := ⟨_, rfl⟩
  replace h := h M17 e18
  obtain ⟨h19, h⟩ := h
  obtain ⟨M20, e21⟩ : ∃ M20, M20 = mUR M17 a0 4 (mZ M15) := ⟨_, rfl⟩
  replace h := h M20 e21
  obtain ⟨M22, e23⟩ : ∃ M22, M22 = mNew M20 30 4097 4097 := ⟨_, rfl⟩
  replace h := h M22 e23
  obtain ⟨h24, h⟩ := h
  obtain ⟨M25, e26⟩ : ∃ M25, M25 = mUR M22 a0 5 (mZ M20) := ⟨_, rfl⟩
  replace h := h M25 e26
  obtain ⟨M27, e28⟩ : ∃ M27, M27 = mNew M25 30 4097 4097 := ⟨_, rfl⟩
  replace h := h M27 e28
  obtain ⟨h29, h⟩ := h
  obtain ⟨M30, e31⟩ : ∃ M30, M30 = mUR M27 a0 6 (mZ M25) := ⟨_, rfl⟩
  replace h := h M30 e31
  obtain ⟨M32, e33⟩ : ∃ M32, M32 = mNew M30 30 4098 4098 := ⟨_, rfl⟩
  replace h := h M32 e33
  obtain ⟨h34, h⟩ := h
  obtain ⟨M35, e36⟩ : ∃ M35, M35 = mUR M32 a0 7 (mZ M30) := ⟨_, rfl⟩
  replace h := h M35 e36
  obtain ⟨M37, e38⟩ : ∃ M37, M37 = mNew M35 30 4096 4096 := ⟨_, rfl⟩
  replace h := h M37 e38
  obtain ⟨h39, h⟩ := h
  obtain ⟨M40, e41⟩ : ∃ M40, M40 = mUR M37 a0 8 (mZ M35) := ⟨_, rfl⟩
  replace h := h M40 e41
  obtain ⟨M42, e43⟩ : ∃ M42, M42 = mNew M40 30 4096 4096 := ⟨_, rfl⟩
  replace h := h M42 e43
  obtain ⟨h44, h⟩ := h
  obtain ⟨M45, e46⟩ : ∃ M45, M45 = mUR M42 a0 9 (mZ M40) := ⟨_, rfl⟩
  replace h := h M45 e46
  obtain ⟨M47, e48⟩ : ∃ M47, M47 = mNew M45 5 0 16 := ⟨_, rfl⟩
  replace h := h M47 e48
  refine wm_aload_n d_Ga_init_0 rfl rfl ?_
  refine wm_objInit trivial k2_131 kO_inst kO_code (Nat.le_of_ble_eq_true rfl) d_Ga_init_1 h1 ?_
  refine wm_aload_n d_Ga_init_4 rfl rfl ?_
  refine wm_sipush d_Ga_init_5 (by decide) ?_
  have hOM2 : mOk M2 := by rw [e3]; exact mOk_New hO
  refine wm_newarrE 0 (atype := .int) (ty := .int) rfl rfl (fun _ => rfl) rfl rfl (by decide) k1_82 ⟨by decide, by decide⟩ d_Ga_init_8 e3 ?_
  have hOM5 : mOk M5 := by rw [e6]; exact mOk_UR hOM2
  refine pf_Ga_9 rfl rfl d_Ga_init_10 h4 e6 ?_
  refine wm_aload_n d_Ga_init_13 rfl rfl ?_
  refine wm_sipush d_Ga_init_14 (by decide) ?_
  have hOM7 : mOk M7 := by rw [e8]; exact mOk_New hOM5
  refine wm_newarrE 0 (atype := .int) (ty := .int) rfl rfl (fun _ => rfl) rfl rfl (by decide) k1_82 ⟨by decide, by decide⟩ d_Ga_init_17 e8 ?_
  have hOM10 : mOk M10 := by rw [e11]; exact mOk_UR hOM7
  refine pf_Ga_15 rfl rfl d_Ga_init_19 h9 e11 ?_
  refine wm_aload_n d_Ga_init_22 rfl rfl ?_
  refine wm_sipush d_Ga_init_23 (by decide) ?_
  have hOM12 : mOk M12 := by rw [e13]; exact mOk_New hOM10
  refine wm_newarrE 0 (atype := .int) (ty := .int) rfl rfl (fun _ => rfl) rfl rfl (by decide) k1_82 ⟨by decide, by decide⟩ d_Ga_init_26 e13 ?_
  have hOM15 : mOk M15 := by rw [e16]; exact mOk_UR hOM12
  refine pf_Ga_18 rfl rfl d_Ga_init_28 h14 e16 ?_
  refine wm_aload_n d_Ga_init_31 rfl rfl ?_
  refine wm_sipush d_Ga_init_32 (by decide) ?_
  have hOM17 : mOk M17 := by rw [e18]; exact mOk_New hOM15
  refine wm_newarrE 0 (atype := .int) (ty := .int) rfl rfl (fun _ => rfl) rfl rfl (by decide) k1_82 ⟨by decide, by decide⟩ d_Ga_init_35 e18 ?_
  have hOM20 : mOk M20 := by rw [e21]; exact mOk_UR hOM17
  refine pf_Ga_21 rfl rfl d_Ga_init_37 h19 e21 ?_
  refine wm_aload_n d_Ga_init_40 rfl rfl ?_
  refine wm_sipush d_Ga_init_41 (by decide) ?_
  have hOM22 : mOk M22 := by rw [e23]; exact mOk_New hOM20
  refine wm_newarrE 0 (atype := .int) (ty := .int) rfl rfl (fun _ => rfl) rfl rfl (by decide) k1_82 ⟨by decide, by decide⟩ d_Ga_init_44 e23 ?_
  have hOM25 : mOk M25 := by rw [e26]; exact mOk_UR hOM22
  refine pf_Ga_24 rfl rfl d_Ga_init_46 h24 e26 ?_
  refine wm_aload_n d_Ga_init_49 rfl rfl ?_
  refine wm_sipush d_Ga_init_50 (by decide) ?_
  have hOM27 : mOk M27 := by rw [e28]; exact mOk_New hOM25
  refine wm_newarrE 0 (atype := .int) (ty := .int) rfl rfl (fun _ => rfl) rfl rfl (by decide) k1_82 ⟨by decide, by decide⟩ d_Ga_init_53 e28 ?_
  have hOM30 : mOk M30 := by rw [e31]; exact mOk_UR hOM27
  refine pf_Ga_27 rfl rfl d_Ga_init_55 h29 e31 ?_
  refine wm_aload_n d_Ga_init_58 rfl rfl ?_
  refine wm_sipush d_Ga_init_59 (by decide) ?_
  have hOM32 : mOk M32 := by rw [e33]; exact mOk_New hOM30
  refine wm_newarrE 0 (atype := .int) (ty := .int) rfl rfl (fun _ => rfl) rfl rfl (by decide) k1_82 ⟨by decide, by decide⟩ d_Ga_init_62 e33 ?_
  have hOM35 : mOk M35 := by rw [e36]; exact mOk_UR hOM32
  refine pf_Ga_30 rfl rfl d_Ga_init_64 h34 e36 ?_
  refine wm_aload_n d_Ga_init_67 rfl rfl ?_
  refine wm_sipush d_Ga_init_68 (by decide) ?_
  have hOM37 : mOk M37 := by rw [e38]; exact mOk_New hOM35
  refine wm_newarrE 0 (atype := .int) (ty := .int) rfl rfl (fun _ => rfl) rfl rfl (by decide) k1_82 ⟨by decide, by decide⟩ d_Ga_init_71 e38 ?_
  have hOM40 : mOk M40 := by rw [e41]; exact mOk_UR hOM37
  refine pf_Ga_33 rfl rfl d_Ga_init_73 h39 e41 ?_
  refine wm_aload_n d_Ga_init_76 rfl rfl ?_
  refine wm_sipush d_Ga_init_77 (by decide) ?_
  have hOM42 : mOk M42 := by rw [e43]; exact mOk_New hOM40
  refine wm_newarrE 0 (atype := .int) (ty := .int) rfl rfl (fun _ => rfl) rfl rfl (by decide) k1_82 ⟨by decide, by decide⟩ d_Ga_init_80 e43 ?_
  have hOM45 : mOk M45 := by rw [e46]; exact mOk_UR hOM42
  refine pf_Ga_36 rfl rfl d_Ga_init_82 h44 e46 ?_
  refine wm_aload_n d_Ga_init_85 rfl rfl ?_
  have hOM47 : mOk M47 := by rw [e48]; exact mOk_New hOM45
  refine nf_Ga_39 rfl d_Ga_init_86 e48 ?_
  refine wm_dup d_Ga_init_89 rfl ?_
  refine cf_Ga_41 rfl d_Ga_init_90 (by rw [e48]; exact if_pos rfl) (Nat.le_of_ble_eq_true rfl) (Cv.mono h (fun M49 h => ?_))
  obtain ⟨hOM49, h⟩ := h
  obtain ⟨h52, h⟩ := h
  obtain ⟨M53, e54⟩ : ∃ M53, M53 = mUR M49 a0 15 (mZ M45) := ⟨_, rfl⟩
  replace h := h M53 e54
  obtain ⟨M55, e56⟩ : ∃ M55, M55 = mNew M53 30 1024 1024 := ⟨_, rfl⟩
  replace h := h M55 e56
  obtain ⟨h57, h⟩ := h
  obtain ⟨M58, e59⟩ : ∃ M58, M58 = mUR M55 a0 16 (mZ M53) := ⟨_, rfl⟩
  replace h := h M58 e59
  obtain ⟨M60, e61⟩ : ∃ M60, M60 = mNew M58 30 8 8 := ⟨_, rfl⟩
  replace h := h M60 e61
  obtain ⟨h62, h⟩ := h
  obtain ⟨M63, e64⟩ : ∃ M63, M63 = mUR M60 a0 17 (mZ M58) := ⟨_, rfl⟩
  replace h := h M63 e64
  obtain ⟨M65, e66⟩ : ∃ M65, M65 = mNew M63 30 8 8 := ⟨_, rfl⟩
  replace h := h M65 e66
  obtain ⟨h67, h⟩ := h
  obtain ⟨M68, e69⟩ : ∃ M68, M68 = mUR M65 a0 18 (mZ M63) := ⟨_, rfl⟩
  replace h := h M68 e69
  have hOM53 : mOk M53 := by rw [e54]; exact mOk_UR hOM49
  refine pf_Ga_42 rfl rfl d_Ga_init_93 h52 e54 ?_
  refine wm_aload_n d_Ga_init_96 rfl rfl ?_
  refine wm_sipush d_Ga_init_97 (by decide) ?_
  have hOM55 : mOk M55 := by rw [e56]; exact mOk_New hOM53
  refine wm_newarrE 0 (atype := .int) (ty := .int) rfl rfl (fun _ => rfl) rfl rfl (by decide) k1_82 ⟨by decide, by decide⟩ d_Ga_init_100 e56 ?_
  have hOM58 : mOk M58 := by rw [e59]; exact mOk_UR hOM55
  refine pf_Ga_46 rfl rfl d_Ga_init_102 h57 e59 ?_
  refine wm_aload_n d_Ga_init_105 rfl rfl ?_
  refine wm_bipush d_Ga_init_106 (by decide) ?_
  have hOM60 : mOk M60 := by rw [e61]; exact mOk_New hOM58
  refine wm_newarrE 0 (atype := .int) (ty := .int) rfl rfl (fun _ => rfl) rfl rfl (by decide) k1_82 ⟨by decide, by decide⟩ d_Ga_init_108 e61 ?_
  have hOM63 : mOk M63 := by rw [e64]; exact mOk_UR hOM60
  refine pf_Ga_49 rfl rfl d_Ga_init_110 h62 e64 ?_
  refine wm_aload_n d_Ga_init_113 rfl rfl ?_
  refine wm_bipush d_Ga_init_114 (by decide) ?_
  have hOM65 : mOk M65 := by rw [e66]; exact mOk_New hOM63
  refine wm_newarrE 0 (atype := .int) (ty := .int) rfl rfl (fun _ => rfl) rfl rfl (by decide) k1_82 ⟨by decide, by decide⟩ d_Ga_init_116 e66 ?_
  have hOM68 : mOk M68 := by rw [e69]; exact mOk_UR hOM65
  refine pf_Ga_52 rfl rfl d_Ga_init_118 h67 e69 ?_
  refine wm_return d_Ga_init_121 rfl ?_
  exact ⟨rfl, h⟩
theorem d_Ga_clear_0 : decode y_Ga_clear.2.1 0 = .ok (.aload_n 0, 1) := dc9_42 (by decide +kernel)
theorem d_Ga_clear_1 : decode y_Ga_clear.2.1 1 = .ok (.iconst 0, 1) := dc9_3 (by decide +kernel)
theorem d_Ga_clear_2 : decode y_Ga_clear.2.1 2 = .ok (.putfield 55, 3) := dc9_181 (by decide +kernel)
theorem d_Ga_clear_5 : decode y_Ga_clear.2.1 5 = .ok (.aload_n 0, 1) := dc9_42 (by decide +kernel)
theorem d_Ga_clear_6 : decode y_Ga_clear.2.1 6 = .ok (.iconst 0, 1) := dc9_3 (by decide +kernel)
theorem d_Ga_clear_7 : decode y_Ga_clear.2.1 7 = .ok (.putfield 59, 3) := dc9_181 (by decide +kernel)
theorem d_Ga_clear_10 : decode y_Ga_clear.2.1 10 = .ok (.aload_n 0, 1) := dc9_42 (by decide +kernel)
theorem d_Ga_clear_11 : decode y_Ga_clear.2.1 11 = .ok (.iconst 0, 1) := dc9_3 (by decide +kernel)
theorem d_Ga_clear_12 : decode y_Ga_clear.2.1 12 = .ok (.putfield 62, 3) := dc9_181 (by decide +kernel)
theorem d_Ga_clear_15 : decode y_Ga_clear.2.1 15 = .ok (.return_, 1) := dc9_177 (by decide +kernel)
theorem k_Ga_clear {G : mG} {d : Nat} {a0 : Nat} {M : mM} {Q : mM → Prop} (hO : mOk M)
    (h : mK M a0 = 7 ∧ ∀ M2, M2 = mUI M a0 0 0 → ∀ M4, M4 = mUI M2 a0 12 0 → ∀ M6, M6 = mUI M4 a0 13 0 → Q M6) :
    Cv G y_Ga_clear d [vr a0] M Q := by
  refine wm_open (y := y_Ga_clear) rfl (Nat.le_of_ble_eq_true rfl) (L := [vr a0]) rfl ?_
  obtain ⟨h1, h⟩ := h
  obtain ⟨M2, e3⟩ : ∃ M2, M2 = mUI M a0 0 0 := ⟨_, rfl⟩
  replace h := h M2 e3
  obtain ⟨M4, e5⟩ : ∃ M4, M4 = mUI M2 a0 12 0 := ⟨_, rfl⟩
  replace h := h M4 e5
  obtain ⟨M6, e7⟩ : ∃ M6, M6 = mUI M4 a0 13 0 := ⟨_, rfl⟩
  replace h := h M6 e7
  refine wm_aload_n d_Ga_clear_0 rfl rfl ?_
  refine wm_iconst d_Ga_clear_1 ?_
  have hOM2 : mOk M2 := by rw [e3]; exact mOk_UI hO ⟨by decide, by decide⟩
  refine pf_Ga_55 rfl d_Ga_clear_2 h1 ⟨by decide, by decide⟩ e3 ?_
  refine wm_aload_n d_Ga_clear_5 rfl rfl ?_
  refine wm_iconst d_Ga_clear_6 ?_
  have hOM4 : mOk M4 := by rw [e5]; exact mOk_UI hOM2 ⟨by decide, by decide⟩
  refine pf_Ga_59 rfl d_Ga_clear_7 (by rw [e3]; exact h1) ⟨by decide, by decide⟩ e5 ?_
  refine wm_aload_n d_Ga_clear_10 rfl rfl ?_
  refine wm_iconst d_Ga_clear_11 ?_
  have hOM6 : mOk M6 := by rw [e7]; exact mOk_UI hOM4 ⟨by decide, by decide⟩
  refine pf_Ga_62 rfl d_Ga_clear_12 (by rw [e5, e3]; exact h1) ⟨by decide, by decide⟩ e7 ?_
  refine wm_return d_Ga_clear_15 rfl ?_
  exact ⟨rfl, h⟩
theorem d_Ga_hasState_0 : decode y_Ga_hasState.2.1 0 = .ok (.iload_n 1, 1) := dc9_27 (by decide +kernel)
theorem d_Ga_hasState_1 : decode y_Ga_hasState.2.1 1 = .ok (.ifCond .lt 15, 3) := dc9_155 (by decide +kernel)
theorem d_Ga_hasState_16 : decode y_Ga_hasState.2.1 16 = .ok (.iconst 0, 1) := dc9_3 (by decide +kernel)
theorem d_Ga_hasState_4 : decode y_Ga_hasState.2.1 4 = .ok (.iload_n 1, 1) := dc9_27 (by decide +kernel)
theorem d_Ga_hasState_5 : decode y_Ga_hasState.2.1 5 = .ok (.aload_n 0, 1) := dc9_42 (by decide +kernel)
theorem d_Ga_hasState_6 : decode y_Ga_hasState.2.1 6 = .ok (.getfield 55, 3) := dc9_180 (by decide +kernel)
theorem d_Ga_hasState_9 : decode y_Ga_hasState.2.1 9 = .ok (.if_icmp .ge 7, 3) := dc9_162 (by decide +kernel)
theorem d_Ga_hasState_12 : decode y_Ga_hasState.2.1 12 = .ok (.iconst 1, 1) := dc9_4 (by decide +kernel)
theorem d_Ga_hasState_13 : decode y_Ga_hasState.2.1 13 = .ok (.goto 4, 3) := dc9_167 (by decide +kernel)
theorem d_Ga_hasState_17 : decode y_Ga_hasState.2.1 17 = .ok (.ireturn, 1) := dc9_172 (by decide +kernel)
theorem k_Ga_hasState {G : mG} {d : Nat} {a0 : Nat} {l1 : Int} {M : mM} {Q : Int → mM → Prop} (hO : mOk M) (hi_l1 : i32 l1)
    (h : (¬ (l1 < 0) → mK M a0 = 7) ∧ ∀ v4 : Int, v4 = (if ((l1 < 0) ∨ (mI M a0 0 ≤ l1)) then 0 else 1) → Q v4 M) :
    Ci G y_Ga_hasState d [vr a0, vi l1] M Q := by
  refine wm_open (y := y_Ga_hasState) rfl (Nat.le_of_ble_eq_true rfl) (L := [vr a0, vi l1]) rfl ?_
  refine wm_iload_n d_Ga_hasState_0 rfl rfl ?_
  obtain ⟨s5, h⟩ := h
  have hJ : ∀ v4 : Int, v4 = (if ((l1 < 0) ∨ (mI M a0 0 ≤ l1)) then 0 else 1) → mWm G y_Ga_hasState d 17 [vd, vd] [vi v4] M (fun r9 M9 => ∃ x9, r9 = some (vi x9) ∧ Q x9 M9) := by
    intro v4 e6
    have h := h v4 e6
    have h7 : i32 v4 := by rw [e6]; (repeat' split) <;> first | exact ⟨by decide, by decide⟩ | exact ⟨by decide, by decide⟩
    have h8 : (v4 = 0 ∨ v4 = 1) := by rw [e6]; (repeat' split) <;> decide
    refine wm_ireturn d_Ga_hasState_17 rfl (m_nb h8) ?_
    exact ⟨_, rfl, h⟩
  clear h
  have s9 := s5
  refine wm_if_lt (tgt := 16) d_Ga_hasState_1 rfl hi_l1 (fun c1 => ?_) (fun c1 => ?_)
  · refine wm_iconst d_Ga_hasState_16 ?_
    refine wm_less (L' := [vd, vd]) ⟨Or.inl rfl, Or.inl rfl, trivial⟩ ?_
    exact hJ 0 (if_pos (Or.inl c1)).symm
  · have s9 := s9 c1
    have h2 := s9
    refine wm_iload_n d_Ga_hasState_4 rfl rfl ?_
    refine wm_aload_n d_Ga_hasState_5 rfl rfl ?_
    refine gf_Ga_55 rfl d_Ga_hasState_6 h2 ?_
    refine wm_icmp_ge (tgt := 16) d_Ga_hasState_9 rfl hi_l1 (hO _ _).1 (fun c3 => ?_) (fun c3 => ?_)
    · refine wm_iconst d_Ga_hasState_16 ?_
      refine wm_less (L' := [vd, vd]) ⟨Or.inl rfl, Or.inl rfl, trivial⟩ ?_
      exact hJ 0 (if_pos (Or.inr c3)).symm
    · refine wm_iconst d_Ga_hasState_12 ?_
      refine wm_goto (tgt := 17) d_Ga_hasState_13 rfl ?_
      refine wm_less (L' := [vd, vd]) ⟨Or.inl rfl, Or.inl rfl, trivial⟩ ?_
      exact hJ 1 (if_neg (fun z10 => Or.elim z10 c1 c3)).symm
theorem d_Ga_commandAt_0 : decode y_Ga_commandAt.2.1 0 = .ok (.aload_n 0, 1) := dc9_42 (by decide +kernel)
theorem d_Ga_commandAt_1 : decode y_Ga_commandAt.2.1 1 = .ok (.iload_n 1, 1) := dc9_27 (by decide +kernel)
theorem d_Ga_commandAt_2 : decode y_Ga_commandAt.2.1 2 = .ok (.invokevirtual 65, 3) := dc9_182 (by decide +kernel)
theorem d_Ga_commandAt_5 : decode y_Ga_commandAt.2.1 5 = .ok (.ifCond .eq 26, 3) := dc9_153 (by decide +kernel)
theorem d_Ga_commandAt_8 : decode y_Ga_commandAt.2.1 8 = .ok (.iload_n 2, 1) := dc9_28 (by decide +kernel)
theorem d_Ga_commandAt_9 : decode y_Ga_commandAt.2.1 9 = .ok (.ifCond .lt 22, 3) := dc9_155 (by decide +kernel)
theorem d_Ga_commandAt_12 : decode y_Ga_commandAt.2.1 12 = .ok (.iload_n 2, 1) := dc9_28 (by decide +kernel)
theorem d_Ga_commandAt_13 : decode y_Ga_commandAt.2.1 13 = .ok (.aload_n 0, 1) := dc9_42 (by decide +kernel)
theorem d_Ga_commandAt_14 : decode y_Ga_commandAt.2.1 14 = .ok (.getfield 21, 3) := dc9_180 (by decide +kernel)
theorem d_Ga_commandAt_17 : decode y_Ga_commandAt.2.1 17 = .ok (.iload_n 1, 1) := dc9_27 (by decide +kernel)
theorem d_Ga_commandAt_18 : decode y_Ga_commandAt.2.1 18 = .ok (.iconst 1, 1) := dc9_4 (by decide +kernel)
theorem d_Ga_commandAt_19 : decode y_Ga_commandAt.2.1 19 = .ok (.iadd, 1) := dc9_96 (by decide +kernel)
theorem d_Ga_commandAt_20 : decode y_Ga_commandAt.2.1 20 = .ok (.iaload, 1) := dc9_46 (by decide +kernel)
theorem d_Ga_commandAt_21 : decode y_Ga_commandAt.2.1 21 = .ok (.aload_n 0, 1) := dc9_42 (by decide +kernel)
theorem d_Ga_commandAt_22 : decode y_Ga_commandAt.2.1 22 = .ok (.getfield 21, 3) := dc9_180 (by decide +kernel)
theorem d_Ga_commandAt_25 : decode y_Ga_commandAt.2.1 25 = .ok (.iload_n 1, 1) := dc9_27 (by decide +kernel)
theorem d_Ga_commandAt_26 : decode y_Ga_commandAt.2.1 26 = .ok (.iaload, 1) := dc9_46 (by decide +kernel)
theorem d_Ga_commandAt_27 : decode y_Ga_commandAt.2.1 27 = .ok (.isub, 1) := dc9_100 (by decide +kernel)
theorem d_Ga_commandAt_28 : decode y_Ga_commandAt.2.1 28 = .ok (.if_icmp .lt 5, 3) := dc9_161 (by decide +kernel)
theorem d_Ga_commandAt_33 : decode y_Ga_commandAt.2.1 33 = .ok (.aload_n 0, 1) := dc9_42 (by decide +kernel)
theorem d_Ga_commandAt_34 : decode y_Ga_commandAt.2.1 34 = .ok (.getfield 21, 3) := dc9_180 (by decide +kernel)
theorem d_Ga_commandAt_37 : decode y_Ga_commandAt.2.1 37 = .ok (.iload_n 1, 1) := dc9_27 (by decide +kernel)
theorem d_Ga_commandAt_38 : decode y_Ga_commandAt.2.1 38 = .ok (.iaload, 1) := dc9_46 (by decide +kernel)
theorem d_Ga_commandAt_39 : decode y_Ga_commandAt.2.1 39 = .ok (.iload_n 2, 1) := dc9_28 (by decide +kernel)
theorem d_Ga_commandAt_40 : decode y_Ga_commandAt.2.1 40 = .ok (.iadd, 1) := dc9_96 (by decide +kernel)
theorem d_Ga_commandAt_41 : decode y_Ga_commandAt.2.1 41 = .ok (.ireturn, 1) := dc9_172 (by decide +kernel)
theorem d_Ga_commandAt_31 : decode y_Ga_commandAt.2.1 31 = .ok (.iconst (-1), 1) := dc9_2 (by decide +kernel)
theorem d_Ga_commandAt_32 : decode y_Ga_commandAt.2.1 32 = .ok (.ireturn, 1) := dc9_172 (by decide +kernel)
theorem k_Ga_commandAt {G : mG} {d : Nat} {a0 : Nat} {l1 : Int} {l2 : Int} {M : mM} {Q : Int → mM → Prop} (hO : mOk M) (hi_l1 : i32 l1) (hi_l2 : i32 l2)
    (h : mK M a0 = 7 ∧ Ci G y_Ga_hasState d [vr a0, vi l1] M (fun x3 M2 => i32 x3 ∧ mOk M2 ∧ ((¬ (x3 = 0) → (¬ (l2 < 0) → (mK M2 a0 = 7 ∧ mK M2 (mR M2 a0 4) = 30 ∧ ((0 : Int) ≤ l1 + 1 ∧ l1 + 1 < (mN M2 (mR M2 a0 4) : Int)) ∧ ((0 : Int) ≤ l1 ∧ l1 < (mN M2 (mR M2 a0 4) : Int)) ∧ i32 ((mI M2 (mR M2 a0 4) (Int.toNat (l1 + 1))) - (mI M2 (mR M2 a0 4) (Int.toNat l1)))))) ∧ (((x3 = 0) ∨ ((l2 < 0) ∨ (¬ (l2 < (mI M2 (mR M2 a0 4) (Int.toNat (l1 + 1))) - (mI M2 (mR M2 a0 4) (Int.toNat l1)))))) → (Q (-1) M2)) ∧ (¬ ((x3 = 0) ∨ ((l2 < 0) ∨ (¬ (l2 < (mI M2 (mR M2 a0 4) (Int.toNat (l1 + 1))) - (mI M2 (mR M2 a0 4) (Int.toNat l1)))))) → (mK M2 a0 = 7 ∧ mK M2 (mR M2 a0 4) = 30 ∧ ((0 : Int) ≤ l1 ∧ l1 < (mN M2 (mR M2 a0 4) : Int)) ∧ Q ((mI M2 (mR M2 a0 4) (Int.toNat l1)) + l2) M2))))) :
    Ci G y_Ga_commandAt (d + 1) [vr a0, vi l1, vi l2] M Q := by
  refine wm_open (y := y_Ga_commandAt) rfl (Nat.le_of_ble_eq_true rfl) (L := [vr a0, vi l1, vi l2]) rfl ?_
  obtain ⟨h1, h⟩ := h
  refine wm_aload_n d_Ga_commandAt_0 rfl rfl ?_
  refine wm_iload_n d_Ga_commandAt_1 rfl rfl ?_
  refine cf_Ga_65 rfl d_Ga_commandAt_2 h1 (Nat.le_of_ble_eq_true rfl) (Ci.mono h (fun x3 M2 h => ?_))
  obtain ⟨h4, hOM2, h⟩ := h
  obtain ⟨s14, h⟩ := h
  have hE0 : ((x3 = 0) ∨ ((l2 < 0) ∨ (¬ (l2 < (mI M2 (mR M2 a0 4) (Int.toNat (l1 + 1))) - (mI M2 (mR M2 a0 4) (Int.toNat l1)))))) → mWm G y_Ga_commandAt (d + 1) 31 [vr a0, vi l1, vi l2] [] M2 (fun r9 M9 => ∃ x9, r9 = some (vi x9) ∧ Q x9 M9) := by
    intro q15
    have h := h.1 q15
    refine wm_iconst d_Ga_commandAt_31 ?_
    refine wm_ireturn d_Ga_commandAt_32 rfl rfl ?_
    exact ⟨_, rfl, h⟩
  have hE1 : ¬ ((x3 = 0) ∨ ((l2 < 0) ∨ (¬ (l2 < (mI M2 (mR M2 a0 4) (Int.toNat (l1 + 1))) - (mI M2 (mR M2 a0 4) (Int.toNat l1)))))) → mWm G y_Ga_commandAt (d + 1) 33 [vr a0, vi l1, vi l2] [] M2 (fun r9 M9 => ∃ x9, r9 = some (vi x9) ∧ Q x9 M9) := by
    intro q16
    have h := h.2 q16
    obtain ⟨h17, h⟩ := h
    obtain ⟨h18, h⟩ := h
    obtain ⟨h19, h⟩ := h
    refine wm_aload_n d_Ga_commandAt_33 rfl rfl ?_
    refine gf_Ga_21 rfl d_Ga_commandAt_34 h17 ?_
    refine wm_iload_n d_Ga_commandAt_37 rfl rfl ?_
    refine wm_iald d_Ga_commandAt_38 h18 h19 ?_
    refine wm_iload_n d_Ga_commandAt_39 rfl rfl ?_
    refine wm_iadd d_Ga_commandAt_40 ?_
    refine wm_ireturn d_Ga_commandAt_41 rfl rfl ?_
    exact ⟨_, rfl, h⟩
  clear h
  have s20 := s14
  refine wm_if_eq (tgt := 31) d_Ga_commandAt_5 rfl h4 (fun c13 => ?_) (fun c13 => ?_)
  · exact hE0 (Or.inl c13)
  · have s20 := s20 c13
    have s21 := s20
    refine wm_iload_n d_Ga_commandAt_8 rfl rfl ?_
    refine wm_if_lt (tgt := 31) d_Ga_commandAt_9 rfl hi_l2 (fun c12 => ?_) (fun c12 => ?_)
    · exact hE0 (Or.inr (Or.inl c12))
    · have s21 := s21 c12
      obtain ⟨h5, h6, h7, h8, h9⟩ := s21
      refine wm_iload_n d_Ga_commandAt_12 rfl rfl ?_
      refine wm_aload_n d_Ga_commandAt_13 rfl rfl ?_
      refine gf_Ga_21 rfl d_Ga_commandAt_14 h5 ?_
      refine wm_iload_n d_Ga_commandAt_17 rfl rfl ?_
      refine wm_iconst d_Ga_commandAt_18 ?_
      refine wm_iadd d_Ga_commandAt_19 ?_
      refine wm_iald d_Ga_commandAt_20 h6 h7 ?_
      refine wm_aload_n d_Ga_commandAt_21 rfl rfl ?_
      refine gf_Ga_21 rfl d_Ga_commandAt_22 h5 ?_
      refine wm_iload_n d_Ga_commandAt_25 rfl rfl ?_
      refine wm_iald d_Ga_commandAt_26 h6 h8 ?_
      refine wm_isub d_Ga_commandAt_27 ?_
      refine wm_icmp_lt (tgt := 33) d_Ga_commandAt_28 rfl hi_l2 h9 (fun c11 => ?_) (fun c11 => ?_)
      · exact hE1 (fun z22 => Or.elim z22 c13 (fun z23 => Or.elim z23 c12 (fun z24 => z24 c11)))
      · exact hE0 (Or.inr (Or.inr c11))
theorem d_Ga_drawn_0 : decode y_Ga_drawn.2.1 0 = .ok (.iload_n 2, 1) := dc9_28 (by decide +kernel)
theorem d_Ga_drawn_1 : decode y_Ga_drawn.2.1 1 = .ok (.i2l, 1) := dc9_133 (by decide +kernel)
theorem d_Ga_drawn_2 : decode y_Ga_drawn.2.1 2 = .ok (.aload_n 0, 1) := dc9_42 (by decide +kernel)
theorem d_Ga_drawn_3 : decode y_Ga_drawn.2.1 3 = .ok (.getfield 27, 3) := dc9_180 (by decide +kernel)
theorem d_Ga_drawn_6 : decode y_Ga_drawn.2.1 6 = .ok (.iload_n 1, 1) := dc9_27 (by decide +kernel)
theorem d_Ga_drawn_7 : decode y_Ga_drawn.2.1 7 = .ok (.iaload, 1) := dc9_46 (by decide +kernel)
theorem d_Ga_drawn_8 : decode y_Ga_drawn.2.1 8 = .ok (.i2l, 1) := dc9_133 (by decide +kernel)
theorem d_Ga_drawn_9 : decode y_Ga_drawn.2.1 9 = .ok (.lmul, 1) := dc9_105 (by decide +kernel)
theorem d_Ga_drawn_10 : decode y_Ga_drawn.2.1 10 = .ok (.lstore_n 3, 1) := dc9_66 (by decide +kernel)
theorem d_Ga_drawn_11 : decode y_Ga_drawn.2.1 11 = .ok (.lconst 0, 1) := dc9_9 (by decide +kernel)
theorem d_Ga_drawn_12 : decode y_Ga_drawn.2.1 12 = .ok (.lstore 5, 2) := dc9_55 (by decide +kernel)
theorem d_Ga_drawn_14 : decode y_Ga_drawn.2.1 14 = .ok (.aload_n 0, 1) := dc9_42 (by decide +kernel)
theorem d_Ga_drawn_15 : decode y_Ga_drawn.2.1 15 = .ok (.getfield 30, 3) := dc9_180 (by decide +kernel)
theorem d_Ga_drawn_18 : decode y_Ga_drawn.2.1 18 = .ok (.iload_n 1, 1) := dc9_27 (by decide +kernel)
theorem d_Ga_drawn_19 : decode y_Ga_drawn.2.1 19 = .ok (.iaload, 1) := dc9_46 (by decide +kernel)
theorem d_Ga_drawn_20 : decode y_Ga_drawn.2.1 20 = .ok (.istore 7, 2) := dc9_54 (by decide +kernel)
theorem d_Ga_drawn_22 : decode y_Ga_drawn.2.1 22 = .ok (.iload 7, 2) := dc9_21 (by decide +kernel)
theorem d_Ga_drawn_24 : decode y_Ga_drawn.2.1 24 = .ok (.aload_n 0, 1) := dc9_42 (by decide +kernel)
theorem d_Ga_drawn_25 : decode y_Ga_drawn.2.1 25 = .ok (.getfield 30, 3) := dc9_180 (by decide +kernel)
theorem d_Ga_drawn_28 : decode y_Ga_drawn.2.1 28 = .ok (.iload_n 1, 1) := dc9_27 (by decide +kernel)
theorem d_Ga_drawn_29 : decode y_Ga_drawn.2.1 29 = .ok (.iconst 1, 1) := dc9_4 (by decide +kernel)
theorem d_Ga_drawn_30 : decode y_Ga_drawn.2.1 30 = .ok (.iadd, 1) := dc9_96 (by decide +kernel)
theorem d_Ga_drawn_31 : decode y_Ga_drawn.2.1 31 = .ok (.iaload, 1) := dc9_46 (by decide +kernel)
theorem d_Ga_drawn_32 : decode y_Ga_drawn.2.1 32 = .ok (.if_icmp .ge 40, 3) := dc9_162 (by decide +kernel)
theorem d_Ga_drawn_72 : decode y_Ga_drawn.2.1 72 = .ok (.iconst (-1), 1) := dc9_2 (by decide +kernel)
theorem d_Ga_drawn_73 : decode y_Ga_drawn.2.1 73 = .ok (.ireturn, 1) := dc9_172 (by decide +kernel)
theorem d_Ga_drawn_35 : decode y_Ga_drawn.2.1 35 = .ok (.lload 5, 2) := dc9_22 (by decide +kernel)
theorem d_Ga_drawn_37 : decode y_Ga_drawn.2.1 37 = .ok (.aload_n 0, 1) := dc9_42 (by decide +kernel)
theorem d_Ga_drawn_38 : decode y_Ga_drawn.2.1 38 = .ok (.getfield 36, 3) := dc9_180 (by decide +kernel)
theorem d_Ga_drawn_41 : decode y_Ga_drawn.2.1 41 = .ok (.iload 7, 2) := dc9_21 (by decide +kernel)
theorem d_Ga_drawn_43 : decode y_Ga_drawn.2.1 43 = .ok (.iaload, 1) := dc9_46 (by decide +kernel)
theorem d_Ga_drawn_44 : decode y_Ga_drawn.2.1 44 = .ok (.i2l, 1) := dc9_133 (by decide +kernel)
theorem d_Ga_drawn_45 : decode y_Ga_drawn.2.1 45 = .ok (.ladd, 1) := dc9_97 (by decide +kernel)
theorem d_Ga_drawn_46 : decode y_Ga_drawn.2.1 46 = .ok (.lstore 5, 2) := dc9_55 (by decide +kernel)
theorem d_Ga_drawn_48 : decode y_Ga_drawn.2.1 48 = .ok (.lload 5, 2) := dc9_22 (by decide +kernel)
theorem d_Ga_drawn_50 : decode y_Ga_drawn.2.1 50 = .ok (.bipush 31, 2) := dc9_16 (by decide +kernel)
theorem d_Ga_drawn_52 : decode y_Ga_drawn.2.1 52 = .ok (.lshl, 1) := dc9_121 (by decide +kernel)
theorem d_Ga_drawn_53 : decode y_Ga_drawn.2.1 53 = .ok (.lload_n 3, 1) := dc9_33 (by decide +kernel)
theorem d_Ga_drawn_54 : decode y_Ga_drawn.2.1 54 = .ok (.lcmp, 1) := dc9_148 (by decide +kernel)
theorem d_Ga_drawn_55 : decode y_Ga_drawn.2.1 55 = .ok (.ifCond .le 11, 3) := dc9_158 (by decide +kernel)
theorem d_Ga_drawn_66 : decode y_Ga_drawn.2.1 66 = .ok (.iinc 7 1, 3) := by decide +kernel
theorem d_Ga_drawn_69 : decode y_Ga_drawn.2.1 69 = .ok (.goto (-47), 3) := dc9_167 (by decide +kernel)
theorem d_Ga_drawn_58 : decode y_Ga_drawn.2.1 58 = .ok (.aload_n 0, 1) := dc9_42 (by decide +kernel)
theorem d_Ga_drawn_59 : decode y_Ga_drawn.2.1 59 = .ok (.getfield 33, 3) := dc9_180 (by decide +kernel)
theorem d_Ga_drawn_62 : decode y_Ga_drawn.2.1 62 = .ok (.iload 7, 2) := dc9_21 (by decide +kernel)
theorem d_Ga_drawn_64 : decode y_Ga_drawn.2.1 64 = .ok (.iaload, 1) := dc9_46 (by decide +kernel)
theorem d_Ga_drawn_65 : decode y_Ga_drawn.2.1 65 = .ok (.ireturn, 1) := dc9_172 (by decide +kernel)
def h_Ga_drawn_22 (G : mG) (d : Nat) (a0 : Nat) (l1 : Int) (j3 : Int) (j5 : Int) (l7 : Int) (M : mM) (Q : Int → mM → Prop) : Prop := mWm G y_Ga_drawn d 22 [vr a0, vi l1, vd, vl j3, vd, vl j5, vd, vi l7] [] M (fun r9 M9 => ∃ x9, r9 = some (vi x9) ∧ Q x9 M9)
theorem k_Ga_drawn {G : mG} {d : Nat} {a0 : Nat} {l1 : Int} {l2 : Int} {M : mM} {Q : Int → mM → Prop} (hO : mOk M) (hi_l1 : i32 l1) (hi_l2 : i32 l2)
    (h : mK M a0 = 7 ∧ mK M (mR M a0 6) = 30 ∧ ((0 : Int) ≤ l1 ∧ l1 < (mN M (mR M a0 6) : Int)) ∧ mK M (mR M a0 7) = 30 ∧ ((0 : Int) ≤ l1 ∧ l1 < (mN M (mR M a0 7) : Int)) ∧ h_Ga_drawn_22 G d a0 l1 (l2 * (mI M (mR M a0 6) (Int.toNat l1))) 0 (mI M (mR M a0 7) (Int.toNat l1)) M Q) :
    Ci G y_Ga_drawn d [vr a0, vi l1, vi l2] M Q := by
  refine wm_open (y := y_Ga_drawn) rfl (Nat.le_of_ble_eq_true rfl) (L := [vr a0, vi l1, vi l2, vd, vd, vd, vd, vd]) rfl ?_
  obtain ⟨h1, h⟩ := h
  obtain ⟨h2, h⟩ := h
  obtain ⟨h3, h⟩ := h
  obtain ⟨h4, h⟩ := h
  obtain ⟨h5, h⟩ := h
  refine wm_iload_n d_Ga_drawn_0 rfl rfl ?_
  refine wm_i2l d_Ga_drawn_1 hi_l2 ?_
  refine wm_aload_n d_Ga_drawn_2 rfl rfl ?_
  refine gf_Ga_27 rfl d_Ga_drawn_3 h1 ?_
  refine wm_iload_n d_Ga_drawn_6 rfl rfl ?_
  refine wm_iald d_Ga_drawn_7 h2 h3 ?_
  refine wm_i2l d_Ga_drawn_8 (hO _ _).1 ?_
  refine wm_lmul d_Ga_drawn_9 ?_
  refine wm_lstore_n d_Ga_drawn_10 rfl (by decide) (L' := [vr a0, vi l1, vi l2, vl (l2 * (mI M (mR M a0 6) (Int.toNat l1))), vd, vd, vd, vd]) rfl ?_
  refine wm_lconst (x := 0) d_Ga_drawn_11 rfl ?_
  refine wm_lstore d_Ga_drawn_12 (by decide) (L' := [vr a0, vi l1, vi l2, vl (l2 * (mI M (mR M a0 6) (Int.toNat l1))), vd, vl 0, vd, vd]) rfl ?_
  refine wm_aload_n d_Ga_drawn_14 rfl rfl ?_
  refine gf_Ga_30 rfl d_Ga_drawn_15 h1 ?_
  refine wm_iload_n d_Ga_drawn_18 rfl rfl ?_
  refine wm_iald d_Ga_drawn_19 h4 h5 ?_
  refine wm_istore d_Ga_drawn_20 (by decide) (L' := [vr a0, vi l1, vi l2, vl (l2 * (mI M (mR M a0 6) (Int.toNat l1))), vd, vl 0, vd, vi (mI M (mR M a0 7) (Int.toNat l1))]) rfl ?_
  refine wm_less (L' := [vr a0, vi l1, vd, vl (l2 * (mI M (mR M a0 6) (Int.toNat l1))), vd, vl 0, vd, vi (mI M (mR M a0 7) (Int.toNat l1))]) ⟨Or.inr rfl, Or.inr rfl, Or.inl rfl, Or.inr rfl, Or.inl rfl, Or.inr rfl, Or.inl rfl, Or.inr rfl, trivial⟩ ?_
  exact h
theorem k_Ga_drawn_22 {G : mG} {d : Nat} {a0 : Nat} {l1 : Int} {j3 : Int} {j5 : Int} {l7 : Int} {M : mM} {Q : Int → mM → Prop} (hO : mOk M) (hi_l1 : i32 l1) (hi_j3 : i64 j3) (hi_j5 : i64 j5) (hi_l7 : i32 l7)
    (h : mK M a0 = 7 ∧ mK M (mR M a0 7) = 30 ∧ ((0 : Int) ≤ l1 + 1 ∧ l1 + 1 < (mN M (mR M a0 7) : Int)) ∧ ((mI M (mR M a0 7) (Int.toNat (l1 + 1)) ≤ l7) → (Q (-1) M)) ∧ (¬ (mI M (mR M a0 7) (Int.toNat (l1 + 1)) ≤ l7) → (mK M (mR M a0 9) = 30 ∧ ((0 : Int) ≤ l7 ∧ l7 < (mN M (mR M a0 9) : Int)) ∧ ((cmpL (shlL (j5 + (mI M (mR M a0 9) (Int.toNat l7))) 31) j3 ≤ 0) → (h_Ga_drawn_22 G d a0 l1 j3 (j5 + (mI M (mR M a0 9) (Int.toNat l7))) (l7 + 1) M Q)) ∧ (¬ (cmpL (shlL (j5 + (mI M (mR M a0 9) (Int.toNat l7))) 31) j3 ≤ 0) → (mK M (mR M a0 8) = 30 ∧ ((0 : Int) ≤ l7 ∧ l7 < (mN M (mR M a0 8) : Int)) ∧ Q (mI M (mR M a0 8) (Int.toNat l7)) M))))) :
    h_Ga_drawn_22 G d a0 l1 j3 j5 l7 M Q := by
  unfold h_Ga_drawn_22
  obtain ⟨h6, h⟩ := h
  obtain ⟨h7, h⟩ := h
  obtain ⟨h8, h⟩ := h
  refine wm_iload d_Ga_drawn_22 rfl ?_
  refine wm_aload_n d_Ga_drawn_24 rfl rfl ?_
  refine gf_Ga_30 rfl d_Ga_drawn_25 h6 ?_
  refine wm_iload_n d_Ga_drawn_28 rfl rfl ?_
  refine wm_iconst d_Ga_drawn_29 ?_
  refine wm_iadd d_Ga_drawn_30 ?_
  refine wm_iald d_Ga_drawn_31 h7 h8 ?_
  refine wm_icmp_ge (tgt := 72) d_Ga_drawn_32 rfl hi_l7 (hO _ _).1 (fun c12 => ?_) (fun c12 => ?_)
  · replace h := h.1 c12
    refine wm_iconst d_Ga_drawn_72 ?_
    refine wm_ireturn d_Ga_drawn_73 rfl rfl ?_
    exact ⟨_, rfl, h⟩
  · replace h := h.2 c12
    obtain ⟨h13, h⟩ := h
    obtain ⟨h14, h⟩ := h
    refine wm_lload d_Ga_drawn_35 rfl ?_
    refine wm_aload_n d_Ga_drawn_37 rfl rfl ?_
    refine gf_Ga_36 rfl d_Ga_drawn_38 h6 ?_
    refine wm_iload d_Ga_drawn_41 rfl ?_
    refine wm_iald d_Ga_drawn_43 h13 h14 ?_
    refine wm_i2l d_Ga_drawn_44 (hO _ _).1 ?_
    refine wm_ladd d_Ga_drawn_45 ?_
    refine wm_lstore d_Ga_drawn_46 (by decide) (L' := [vr a0, vi l1, vd, vl j3, vd, vl (j5 + (mI M (mR M a0 9) (Int.toNat l7))), vd, vi l7]) rfl ?_
    refine wm_lload d_Ga_drawn_48 rfl ?_
    refine wm_bipush d_Ga_drawn_50 (by decide) ?_
    refine wm_lshl d_Ga_drawn_52 ?_
    refine wm_lload_n d_Ga_drawn_53 rfl rfl ?_
    refine wm_lcmp d_Ga_drawn_54 (m_i64 _) hi_j3 ?_
    refine wm_if_le (tgt := 66) d_Ga_drawn_55 rfl (m_cmp32 _ _) (fun c18 => ?_) (fun c18 => ?_)
    · replace h := h.1 c18
      refine wm_iinc d_Ga_drawn_66 (by decide) rfl (L' := [vr a0, vi l1, vd, vl j3, vd, vl (j5 + (mI M (mR M a0 9) (Int.toNat l7))), vd, vi (l7 + 1)]) rfl ?_
      refine wm_goto (tgt := 22) d_Ga_drawn_69 rfl ?_
      exact h
    · replace h := h.2 c18
      obtain ⟨h19, h⟩ := h
      obtain ⟨h20, h⟩ := h
      refine wm_aload_n d_Ga_drawn_58 rfl rfl ?_
      refine gf_Ga_33 rfl d_Ga_drawn_59 h6 ?_
      refine wm_iload d_Ga_drawn_62 rfl ?_
      refine wm_iald d_Ga_drawn_64 h19 h20 ?_
      refine wm_ireturn d_Ga_drawn_65 rfl rfl ?_
      exact ⟨_, rfl, h⟩
theorem d_Ga_discover_0 : decode y_Ga_discover.2.1 0 = .ok (.aload_n 0, 1) := dc9_42 (by decide +kernel)
theorem d_Ga_discover_1 : decode y_Ga_discover.2.1 1 = .ok (.invokevirtual 69, 3) := dc9_182 (by decide +kernel)
theorem d_Ga_discover_4 : decode y_Ga_discover.2.1 4 = .ok (.aload_n 0, 1) := dc9_42 (by decide +kernel)
theorem d_Ga_discover_5 : decode y_Ga_discover.2.1 5 = .ok (.aload_n 1, 1) := dc9_43 (by decide +kernel)
theorem d_Ga_discover_6 : decode y_Ga_discover.2.1 6 = .ok (.putfield 72, 3) := dc9_181 (by decide +kernel)
theorem d_Ga_discover_9 : decode y_Ga_discover.2.1 9 = .ok (.aload_n 0, 1) := dc9_42 (by decide +kernel)
theorem d_Ga_discover_10 : decode y_Ga_discover.2.1 10 = .ok (.getfield 42, 3) := dc9_180 (by decide +kernel)
theorem d_Ga_discover_13 : decode y_Ga_discover.2.1 13 = .ok (.aload_n 0, 1) := dc9_42 (by decide +kernel)
theorem d_Ga_discover_14 : decode y_Ga_discover.2.1 14 = .ok (.getfield 72, 3) := dc9_180 (by decide +kernel)
theorem d_Ga_discover_17 : decode y_Ga_discover.2.1 17 = .ok (.putfield 76, 3) := dc9_181 (by decide +kernel)
theorem d_Ga_discover_20 : decode y_Ga_discover.2.1 20 = .ok (.aload_n 0, 1) := dc9_42 (by decide +kernel)
theorem d_Ga_discover_21 : decode y_Ga_discover.2.1 21 = .ok (.getfield 46, 3) := dc9_180 (by decide +kernel)
theorem d_Ga_discover_24 : decode y_Ga_discover.2.1 24 = .ok (.iconst (-1), 1) := dc9_2 (by decide +kernel)
theorem d_Ga_discover_25 : decode y_Ga_discover.2.1 25 = .ok (.invokestatic 77, 3) := dc9_184 (by decide +kernel)
theorem d_Ga_discover_28 : decode y_Ga_discover.2.1 28 = .ok (.aload_n 0, 1) := dc9_42 (by decide +kernel)
theorem d_Ga_discover_29 : decode y_Ga_discover.2.1 29 = .ok (.getfield 42, 3) := dc9_180 (by decide +kernel)
theorem d_Ga_discover_32 : decode y_Ga_discover.2.1 32 = .ok (.getfield 83, 3) := dc9_180 (by decide +kernel)
theorem d_Ga_discover_35 : decode y_Ga_discover.2.1 35 = .ok (.iconst 0, 1) := dc9_3 (by decide +kernel)
theorem d_Ga_discover_36 : decode y_Ga_discover.2.1 36 = .ok (.invokestatic 77, 3) := dc9_184 (by decide +kernel)
theorem d_Ga_discover_39 : decode y_Ga_discover.2.1 39 = .ok (.aload_n 0, 1) := dc9_42 (by decide +kernel)
theorem d_Ga_discover_40 : decode y_Ga_discover.2.1 40 = .ok (.getfield 72, 3) := dc9_180 (by decide +kernel)
theorem d_Ga_discover_43 : decode y_Ga_discover.2.1 43 = .ok (.getfield 86, 3) := dc9_180 (by decide +kernel)
theorem d_Ga_discover_46 : decode y_Ga_discover.2.1 46 = .ok (.iconst 0, 1) := dc9_3 (by decide +kernel)
theorem d_Ga_discover_47 : decode y_Ga_discover.2.1 47 = .ok (.aload_n 0, 1) := dc9_42 (by decide +kernel)
theorem d_Ga_discover_48 : decode y_Ga_discover.2.1 48 = .ok (.getfield 42, 3) := dc9_180 (by decide +kernel)
theorem d_Ga_discover_51 : decode y_Ga_discover.2.1 51 = .ok (.getfield 83, 3) := dc9_180 (by decide +kernel)
theorem d_Ga_discover_54 : decode y_Ga_discover.2.1 54 = .ok (.iconst 0, 1) := dc9_3 (by decide +kernel)
theorem d_Ga_discover_55 : decode y_Ga_discover.2.1 55 = .ok (.aload_n 0, 1) := dc9_42 (by decide +kernel)
theorem d_Ga_discover_56 : decode y_Ga_discover.2.1 56 = .ok (.getfield 72, 3) := dc9_180 (by decide +kernel)
theorem d_Ga_discover_59 : decode y_Ga_discover.2.1 59 = .ok (.getfield 91, 3) := dc9_180 (by decide +kernel)
theorem d_Ga_discover_62 : decode y_Ga_discover.2.1 62 = .ok (.invokestatic 94, 3) := dc9_184 (by decide +kernel)
theorem d_Ga_discover_65 : decode y_Ga_discover.2.1 65 = .ok (.aload_n 0, 1) := dc9_42 (by decide +kernel)
theorem d_Ga_discover_66 : decode y_Ga_discover.2.1 66 = .ok (.invokevirtual 100, 3) := dc9_182 (by decide +kernel)
theorem d_Ga_discover_69 : decode y_Ga_discover.2.1 69 = .ok (.pop, 1) := dc9_87 (by decide +kernel)
theorem d_Ga_discover_70 : decode y_Ga_discover.2.1 70 = .ok (.iconst 0, 1) := dc9_3 (by decide +kernel)
theorem d_Ga_discover_71 : decode y_Ga_discover.2.1 71 = .ok (.istore_n 2, 1) := dc9_61 (by decide +kernel)
theorem d_Ga_discover_72 : decode y_Ga_discover.2.1 72 = .ok (.iload_n 2, 1) := dc9_28 (by decide +kernel)
theorem d_Ga_discover_73 : decode y_Ga_discover.2.1 73 = .ok (.aload_n 0, 1) := dc9_42 (by decide +kernel)
theorem d_Ga_discover_74 : decode y_Ga_discover.2.1 74 = .ok (.getfield 55, 3) := dc9_180 (by decide +kernel)
theorem d_Ga_discover_77 : decode y_Ga_discover.2.1 77 = .ok (.if_icmp .ge 80, 3) := dc9_162 (by decide +kernel)
theorem d_Ga_discover_80 : decode y_Ga_discover.2.1 80 = .ok (.iload_n 2, 1) := dc9_28 (by decide +kernel)
theorem d_Ga_discover_81 : decode y_Ga_discover.2.1 81 = .ok (.sipush 512, 3) := dc9_17 (by decide +kernel)
theorem d_Ga_discover_84 : decode y_Ga_discover.2.1 84 = .ok (.if_icmp .ge 73, 3) := dc9_162 (by decide +kernel)
theorem d_Ga_discover_87 : decode y_Ga_discover.2.1 87 = .ok (.aload_n 0, 1) := dc9_42 (by decide +kernel)
theorem d_Ga_discover_88 : decode y_Ga_discover.2.1 88 = .ok (.iload_n 2, 1) := dc9_28 (by decide +kernel)
theorem d_Ga_discover_157 : decode y_Ga_discover.2.1 157 = .ok (.iconst 0, 1) := dc9_3 (by decide +kernel)
theorem d_Ga_discover_158 : decode y_Ga_discover.2.1 158 = .ok (.ireturn, 1) := dc9_172 (by decide +kernel)
theorem d_Ga_discover_89 : decode y_Ga_discover.2.1 89 = .ok (.invokevirtual 104, 3) := dc9_182 (by decide +kernel)
theorem d_Ga_discover_92 : decode y_Ga_discover.2.1 92 = .ok (.istore_n 3, 1) := dc9_62 (by decide +kernel)
theorem d_Ga_discover_93 : decode y_Ga_discover.2.1 93 = .ok (.iconst 0, 1) := dc9_3 (by decide +kernel)
theorem d_Ga_discover_94 : decode y_Ga_discover.2.1 94 = .ok (.istore 4, 2) := dc9_54 (by decide +kernel)
theorem d_Ga_discover_96 : decode y_Ga_discover.2.1 96 = .ok (.iload 4, 2) := dc9_21 (by decide +kernel)
theorem d_Ga_discover_98 : decode y_Ga_discover.2.1 98 = .ok (.aload_n 0, 1) := dc9_42 (by decide +kernel)
theorem d_Ga_discover_99 : decode y_Ga_discover.2.1 99 = .ok (.getfield 72, 3) := dc9_180 (by decide +kernel)
theorem d_Ga_discover_102 : decode y_Ga_discover.2.1 102 = .ok (.getfield 108, 3) := dc9_180 (by decide +kernel)
theorem d_Ga_discover_105 : decode y_Ga_discover.2.1 105 = .ok (.if_icmp .ge 31, 3) := dc9_162 (by decide +kernel)
theorem d_Ga_discover_108 : decode y_Ga_discover.2.1 108 = .ok (.iload_n 3, 1) := dc9_29 (by decide +kernel)
theorem d_Ga_discover_109 : decode y_Ga_discover.2.1 109 = .ok (.ifCond .ne 27, 3) := dc9_154 (by decide +kernel)
theorem d_Ga_discover_112 : decode y_Ga_discover.2.1 112 = .ok (.aload_n 0, 1) := dc9_42 (by decide +kernel)
theorem d_Ga_discover_113 : decode y_Ga_discover.2.1 113 = .ok (.getfield 15, 3) := dc9_180 (by decide +kernel)
theorem d_Ga_discover_116 : decode y_Ga_discover.2.1 116 = .ok (.iload_n 2, 1) := dc9_28 (by decide +kernel)
theorem d_Ga_discover_117 : decode y_Ga_discover.2.1 117 = .ok (.iaload, 1) := dc9_46 (by decide +kernel)
theorem d_Ga_discover_118 : decode y_Ga_discover.2.1 118 = .ok (.iconst 3, 1) := dc9_6 (by decide +kernel)
theorem d_Ga_discover_119 : decode y_Ga_discover.2.1 119 = .ok (.if_icmp .eq 17, 3) := dc9_159 (by decide +kernel)
theorem d_Ga_discover_122 : decode y_Ga_discover.2.1 122 = .ok (.aload_n 0, 1) := dc9_42 (by decide +kernel)
theorem d_Ga_discover_123 : decode y_Ga_discover.2.1 123 = .ok (.iload_n 2, 1) := dc9_28 (by decide +kernel)
theorem d_Ga_discover_124 : decode y_Ga_discover.2.1 124 = .ok (.iload 4, 2) := dc9_21 (by decide +kernel)
theorem d_Ga_discover_136 : decode y_Ga_discover.2.1 136 = .ok (.iload_n 3, 1) := dc9_29 (by decide +kernel)
theorem d_Ga_discover_137 : decode y_Ga_discover.2.1 137 = .ok (.ifCond .eq 14, 3) := dc9_153 (by decide +kernel)
theorem d_Ga_discover_151 : decode y_Ga_discover.2.1 151 = .ok (.iinc 2 1, 3) := by decide +kernel
theorem d_Ga_discover_154 : decode y_Ga_discover.2.1 154 = .ok (.goto (-82), 3) := dc9_167 (by decide +kernel)
theorem d_Ga_discover_140 : decode y_Ga_discover.2.1 140 = .ok (.aload_n 0, 1) := dc9_42 (by decide +kernel)
theorem d_Ga_discover_141 : decode y_Ga_discover.2.1 141 = .ok (.iload_n 2, 1) := dc9_28 (by decide +kernel)
theorem d_Ga_discover_142 : decode y_Ga_discover.2.1 142 = .ok (.putfield 115, 3) := dc9_181 (by decide +kernel)
theorem d_Ga_discover_145 : decode y_Ga_discover.2.1 145 = .ok (.aload_n 0, 1) := dc9_42 (by decide +kernel)
theorem d_Ga_discover_146 : decode y_Ga_discover.2.1 146 = .ok (.invokevirtual 69, 3) := dc9_182 (by decide +kernel)
theorem d_Ga_discover_149 : decode y_Ga_discover.2.1 149 = .ok (.iload_n 3, 1) := dc9_29 (by decide +kernel)
theorem d_Ga_discover_150 : decode y_Ga_discover.2.1 150 = .ok (.ireturn, 1) := dc9_172 (by decide +kernel)
theorem d_Ga_discover_126 : decode y_Ga_discover.2.1 126 = .ok (.invokevirtual 111, 3) := dc9_182 (by decide +kernel)
theorem d_Ga_discover_129 : decode y_Ga_discover.2.1 129 = .ok (.istore_n 3, 1) := dc9_62 (by decide +kernel)
theorem d_Ga_discover_130 : decode y_Ga_discover.2.1 130 = .ok (.iinc 4 1, 3) := by decide +kernel
theorem d_Ga_discover_133 : decode y_Ga_discover.2.1 133 = .ok (.goto (-37), 3) := dc9_167 (by decide +kernel)
def h_Ga_discover_72 (G : mG) (d : Nat) (a0 : Nat) (l2 : Int) (M : mM) (Q : Int → mM → Prop) : Prop := mWm G y_Ga_discover (d + 1) 72 [vr a0, vd, vi l2, vd, vd] [] M (fun r9 M9 => ∃ x9, r9 = some (vi x9) ∧ Q x9 M9)
def h_Ga_discover_96 (G : mG) (d : Nat) (a0 : Nat) (l2 : Int) (l3 : Int) (l4 : Int) (M : mM) (Q : Int → mM → Prop) : Prop := mWm G y_Ga_discover (d + 1) 96 [vr a0, vd, vi l2, vi l3, vi l4] [] M (fun r9 M9 => ∃ x9, r9 = some (vi x9) ∧ Q x9 M9)
theorem k_Ga_discover {G : mG} {d : Nat} {a0 : Nat} {a1 : Nat} {M : mM} {Q : Int → mM → Prop} (hO : mOk M)
    (h : mK M a0 = 7 ∧ Cv G y_Ga_clear d [vr a0] M (fun M2 => mOk M2 ∧ (mK M2 a0 = 7 ∧ ∀ M6, M6 = mUR M2 a0 14 a1 → mK M6 (mR M6 a0 15) = 5 ∧ ∀ M9, M9 = mUR M6 (mR M6 a0 15) 0 (mR M6 a0 14) → Cv G y_JA_fill d [vr (mR M9 a0 16), vi (-1)] M9 (fun M11 => mOk M11 ∧ (mK M11 a0 = 7 ∧ mK M11 (mR M11 a0 15) = 5 ∧ Cv G y_JA_fill d [vr (mR M11 (mR M11 a0 15) 5), vi 0] M11 (fun M16 => mOk M16 ∧ (mK M16 a0 = 7 ∧ mK M16 (mR M16 a0 14) = 6 ∧ mK M16 (mR M16 a0 15) = 5 ∧ mK M16 (mR M16 (mR M16 a0 14) 6) = 30 ∧ mK M16 (mR M16 (mR M16 a0 15) 5) = 30 ∧ ((0 : Int) ≤ 0 ∧ (0 : Int) ≤ 0 ∧ (0 : Int) ≤ mI M16 (mR M16 a0 14) 3 ∧ 0 + (mI M16 (mR M16 a0 14) 3) ≤ (mN M16 (mR M16 (mR M16 a0 14) 6) : Int) ∧ 0 + (mI M16 (mR M16 a0 14) 3) ≤ (mN M16 (mR M16 (mR M16 a0 15) 5) : Int)) ∧ ∀ M25, M25 = mCpy M16 (mR M16 (mR M16 a0 14) 6) (mR M16 (mR M16 a0 15) 5) 0 0 (Int.toNat (mI M16 (mR M16 a0 14) 3)) → Ci G y_Ga_enter d [vr a0] M25 (fun x28 M27 => i32 x28 ∧ mOk M27 ∧ (h_Ga_discover_72 G d a0 0 M27 Q))))))))) :
    Ci G y_Ga_discover (d + 1) [vr a0, vr a1] M Q := by
  refine wm_open (y := y_Ga_discover) rfl (Nat.le_of_ble_eq_true rfl) (L := [vr a0, vr a1, vd, vd, vd]) rfl ?_
  obtain ⟨h1, h⟩ := h
  refine wm_aload_n d_Ga_discover_0 rfl rfl ?_
  refine cf_Ga_69 rfl d_Ga_discover_1 h1 (Nat.le_of_ble_eq_true rfl) (Cv.mono h (fun M2 h => ?_))
  obtain ⟨hOM2, h⟩ := h
  obtain ⟨h5, h⟩ := h
  obtain ⟨M6, e7⟩ : ∃ M6, M6 = mUR M2 a0 14 a1 := ⟨_, rfl⟩
  replace h := h M6 e7
  obtain ⟨h8, h⟩ := h
  obtain ⟨M9, e10⟩ : ∃ M9, M9 = mUR M6 (mR M6 a0 15) 0 (mR M6 a0 14) := ⟨_, rfl⟩
  replace h := h M9 e10
  refine wm_aload_n d_Ga_discover_4 rfl rfl ?_
  refine wm_aload_n d_Ga_discover_5 rfl rfl ?_
  have hOM6 : mOk M6 := by rw [e7]; exact mOk_UR hOM2
  refine pf_Ga_72 rfl d_Ga_discover_6 h5 e7 ?_
  refine wm_aload_n d_Ga_discover_9 rfl rfl ?_
  refine gf_Ga_42 rfl d_Ga_discover_10 (by rw [e7]; exact h5) ?_
  refine wm_aload_n d_Ga_discover_13 rfl rfl ?_
  refine gf_Ga_72 rfl d_Ga_discover_14 (by rw [e7]; exact h5) ?_
  have hOM9 : mOk M9 := by rw [e10]; exact mOk_UR hOM6
  refine pf_Ga_76 rfl d_Ga_discover_17 h8 e10 ?_
  refine wm_aload_n d_Ga_discover_20 rfl rfl ?_
  refine gf_Ga_46 rfl d_Ga_discover_21 (by rw [e10, e7]; exact h5) ?_
  refine wm_iconst d_Ga_discover_24 ?_
  refine cf_Ga_77 rfl d_Ga_discover_25 (Nat.le_of_ble_eq_true rfl) (Cv.mono h (fun M11 h => ?_))
  obtain ⟨hOM11, h⟩ := h
  obtain ⟨h14, h⟩ := h
  obtain ⟨h15, h⟩ := h
  refine wm_aload_n d_Ga_discover_28 rfl rfl ?_
  refine gf_Ga_42 rfl d_Ga_discover_29 h14 ?_
  refine gf_Ga_83 rfl d_Ga_discover_32 h15 ?_
  refine wm_iconst d_Ga_discover_35 ?_
  refine cf_Ga_77 rfl d_Ga_discover_36 (Nat.le_of_ble_eq_true rfl) (Cv.mono h (fun M16 h => ?_))
  obtain ⟨hOM16, h⟩ := h
  obtain ⟨h19, h⟩ := h
  obtain ⟨h20, h⟩ := h
  obtain ⟨h21, h⟩ := h
  obtain ⟨h22, h⟩ := h
  obtain ⟨h23, h⟩ := h
  obtain ⟨h24, h⟩ := h
  obtain ⟨M25, e26⟩ : ∃ M25, M25 = mCpy M16 (mR M16 (mR M16 a0 14) 6) (mR M16 (mR M16 a0 15) 5) 0 0 (Int.toNat (mI M16 (mR M16 a0 14) 3)) := ⟨_, rfl⟩
  replace h := h M25 e26
  refine wm_aload_n d_Ga_discover_39 rfl rfl ?_
  refine gf_Ga_72 rfl d_Ga_discover_40 h19 ?_
  refine gf_Ga_86 rfl d_Ga_discover_43 h20 ?_
  refine wm_iconst d_Ga_discover_46 ?_
  refine wm_aload_n d_Ga_discover_47 rfl rfl ?_
  refine gf_Ga_42 rfl d_Ga_discover_48 h19 ?_
  refine gf_Ga_83 rfl d_Ga_discover_51 h21 ?_
  refine wm_iconst d_Ga_discover_54 ?_
  refine wm_aload_n d_Ga_discover_55 rfl rfl ?_
  refine gf_Ga_72 rfl d_Ga_discover_56 h19 ?_
  refine gf_Ga_91 rfl d_Ga_discover_59 h20 ?_
  have hOM25 : mOk M25 := by rw [e26]; exact mOk_Cpy hOM16
  refine wm_copyi k7_234 (Nat.le_of_ble_eq_true rfl) h22 h23 h24 d_Ga_discover_62 e26 ?_
  refine wm_aload_n d_Ga_discover_65 rfl rfl ?_
  refine cf_Ga_100 rfl d_Ga_discover_66 (by rw [e26]; exact h19) (Nat.le_of_ble_eq_true rfl) (Ci.mono h (fun x28 M27 h => ?_))
  obtain ⟨h29, hOM27, h⟩ := h
  refine wm_pop d_Ga_discover_69 rfl ?_
  refine wm_iconst d_Ga_discover_70 ?_
  refine wm_istore_n d_Ga_discover_71 rfl (by decide) (L' := [vr a0, vr a1, vi 0, vd, vd]) rfl ?_
  refine wm_less (L' := [vr a0, vd, vi 0, vd, vd]) ⟨Or.inr rfl, Or.inl rfl, Or.inr rfl, Or.inl rfl, Or.inl rfl, trivial⟩ ?_
  exact h
theorem k_Ga_discover_72 {G : mG} {d : Nat} {a0 : Nat} {l2 : Int} {M : mM} {Q : Int → mM → Prop} (hO : mOk M) (hi_l2 : i32 l2)
    (h : mK M a0 = 7 ∧ (((mI M a0 0 ≤ l2) ∨ (512 ≤ l2)) → (Q 0 M)) ∧ (¬ ((mI M a0 0 ≤ l2) ∨ (512 ≤ l2)) → (Ci G y_Ga_lookAt d [vr a0, vi l2] M (fun x37 M36 => i32 x37 ∧ mOk M36 ∧ (h_Ga_discover_96 G d a0 l2 x37 0 M36 Q))))) :
    h_Ga_discover_72 G d a0 l2 M Q := by
  unfold h_Ga_discover_72
  obtain ⟨h30, h⟩ := h
  refine wm_iload_n d_Ga_discover_72 rfl rfl ?_
  refine wm_aload_n d_Ga_discover_73 rfl rfl ?_
  refine gf_Ga_55 rfl d_Ga_discover_74 h30 ?_
  have hE0 : ((mI M a0 0 ≤ l2) ∨ (512 ≤ l2)) → mWm G y_Ga_discover (d + 1) 157 [vr a0, vd, vi l2, vd, vd] [] M (fun r9 M9 => ∃ x9, r9 = some (vi x9) ∧ Q x9 M9) := by
    intro q34
    have h := h.1 q34
    refine wm_iconst d_Ga_discover_157 ?_
    refine wm_ireturn d_Ga_discover_158 rfl rfl ?_
    exact ⟨_, rfl, h⟩
  have hE1 : ¬ ((mI M a0 0 ≤ l2) ∨ (512 ≤ l2)) → mWm G y_Ga_discover (d + 1) 87 [vr a0, vd, vi l2, vd, vd] [] M (fun r9 M9 => ∃ x9, r9 = some (vi x9) ∧ Q x9 M9) := by
    intro q35
    have h := h.2 q35
    refine wm_aload_n d_Ga_discover_87 rfl rfl ?_
    refine wm_iload_n d_Ga_discover_88 rfl rfl ?_
    refine cf_Ga_104 rfl d_Ga_discover_89 h30 (Nat.le_of_ble_eq_true rfl) (Ci.mono h (fun x37 M36 h => ?_))
    obtain ⟨h38, hOM36, h⟩ := h
    refine wm_istore_n d_Ga_discover_92 rfl (by decide) (L' := [vr a0, vd, vi l2, vi x37, vd]) rfl ?_
    refine wm_iconst d_Ga_discover_93 ?_
    refine wm_istore d_Ga_discover_94 (by decide) (L' := [vr a0, vd, vi l2, vi x37, vi 0]) rfl ?_
    exact h
  clear h
  refine wm_icmp_ge (tgt := 157) d_Ga_discover_77 rfl hi_l2 (hO _ _).1 (fun c32 => ?_) (fun c32 => ?_)
  · exact hE0 (Or.inl c32)
  · refine wm_iload_n d_Ga_discover_80 rfl rfl ?_
    refine wm_sipush d_Ga_discover_81 (by decide) ?_
    refine wm_icmp_ge (tgt := 157) d_Ga_discover_84 rfl hi_l2 ⟨by decide, by decide⟩ (fun c31 => ?_) (fun c31 => ?_)
    · exact hE0 (Or.inr c31)
    · exact hE1 (fun z39 => Or.elim z39 c32 c31)
theorem k_Ga_discover_96 {G : mG} {d : Nat} {a0 : Nat} {l2 : Int} {l3 : Int} {l4 : Int} {M : mM} {Q : Int → mM → Prop} (hO : mOk M) (hi_l2 : i32 l2) (hi_l3 : i32 l3) (hi_l4 : i32 l4)
    (h : mK M a0 = 7 ∧ mK M (mR M a0 14) = 6 ∧ (¬ (mI M (mR M a0 14) 12 ≤ l4) → ((l3 = 0) → (mK M (mR M a0 2) = 30 ∧ ((0 : Int) ≤ l2 ∧ l2 < (mN M (mR M a0 2) : Int))))) ∧ (((mI M (mR M a0 14) 12 ≤ l4) ∨ ((¬ (l3 = 0)) ∨ (mI M (mR M a0 2) (Int.toNat l2) = 3))) → (((l3 = 0) → (h_Ga_discover_72 G d a0 (l2 + 1) M Q)) ∧ (¬ (l3 = 0) → (∀ M52, M52 = mUI M a0 11 l2 → Cv G y_Ga_clear d [vr a0] M52 (fun M54 => mOk M54 ∧ (Q l3 M54)))))) ∧ (¬ ((mI M (mR M a0 14) 12 ≤ l4) ∨ ((¬ (l3 = 0)) ∨ (mI M (mR M a0 2) (Int.toNat l2) = 3))) → (Ci G y_Ga_tryCommand d [vr a0, vi l2, vi l4] M (fun x59 M58 => i32 x59 ∧ mOk M58 ∧ (h_Ga_discover_96 G d a0 l2 x59 (l4 + 1) M58 Q))))) :
    h_Ga_discover_96 G d a0 l2 l3 l4 M Q := by
  unfold h_Ga_discover_96
  obtain ⟨h41, h⟩ := h
  obtain ⟨h42, h⟩ := h
  refine wm_iload d_Ga_discover_96 rfl ?_
  refine wm_aload_n d_Ga_discover_98 rfl rfl ?_
  refine gf_Ga_72 rfl d_Ga_discover_99 h41 ?_
  refine gf_Ga_108 rfl d_Ga_discover_102 h42 ?_
  obtain ⟨s48, h⟩ := h
  have hE0 : ((mI M (mR M a0 14) 12 ≤ l4) ∨ ((¬ (l3 = 0)) ∨ (mI M (mR M a0 2) (Int.toNat l2) = 3))) → mWm G y_Ga_discover (d + 1) 136 [vr a0, vd, vi l2, vi l3, vi l4] [] M (fun r9 M9 => ∃ x9, r9 = some (vi x9) ∧ Q x9 M9) := by
    intro q49
    have h := h.1 q49
    refine wm_iload_n d_Ga_discover_136 rfl rfl ?_
    refine wm_if_eq (tgt := 151) d_Ga_discover_137 rfl hi_l3 (fun c51 => ?_) (fun c51 => ?_)
    · replace h := h.1 c51
      refine wm_iinc d_Ga_discover_151 (by decide) rfl (L' := [vr a0, vd, vi (l2 + 1), vi l3, vi l4]) rfl ?_
      refine wm_goto (tgt := 72) d_Ga_discover_154 rfl ?_
      refine wm_less (L' := [vr a0, vd, vi (l2 + 1), vd, vd]) ⟨Or.inr rfl, Or.inl rfl, Or.inr rfl, Or.inl rfl, Or.inl rfl, trivial⟩ ?_
      exact h
    · replace h := h.2 c51
      obtain ⟨M52, e53⟩ : ∃ M52, M52 = mUI M a0 11 l2 := ⟨_, rfl⟩
      replace h := h M52 e53
      refine wm_aload_n d_Ga_discover_140 rfl rfl ?_
      refine wm_iload_n d_Ga_discover_141 rfl rfl ?_
      have hOM52 : mOk M52 := by rw [e53]; exact mOk_UI hO hi_l2
      refine pf_Ga_115 rfl d_Ga_discover_142 h41 hi_l2 e53 ?_
      refine wm_aload_n d_Ga_discover_145 rfl rfl ?_
      refine cf_Ga_69 rfl d_Ga_discover_146 (by rw [e53]; exact h41) (Nat.le_of_ble_eq_true rfl) (Cv.mono h (fun M54 h => ?_))
      obtain ⟨hOM54, h⟩ := h
      refine wm_iload_n d_Ga_discover_149 rfl rfl ?_
      refine wm_ireturn d_Ga_discover_150 rfl rfl ?_
      exact ⟨_, rfl, h⟩
  have hE1 : ¬ ((mI M (mR M a0 14) 12 ≤ l4) ∨ ((¬ (l3 = 0)) ∨ (mI M (mR M a0 2) (Int.toNat l2) = 3))) → mWm G y_Ga_discover (d + 1) 122 [vr a0, vd, vi l2, vi l3, vi l4] [] M (fun r9 M9 => ∃ x9, r9 = some (vi x9) ∧ Q x9 M9) := by
    intro q57
    have h := h.2 q57
    refine wm_aload_n d_Ga_discover_122 rfl rfl ?_
    refine wm_iload_n d_Ga_discover_123 rfl rfl ?_
    refine wm_iload d_Ga_discover_124 rfl ?_
    refine cf_Ga_111 rfl d_Ga_discover_126 h41 (Nat.le_of_ble_eq_true rfl) (Ci.mono h (fun x59 M58 h => ?_))
    obtain ⟨h60, hOM58, h⟩ := h
    refine wm_istore_n d_Ga_discover_129 rfl (by decide) (L' := [vr a0, vd, vi l2, vi x59, vi l4]) rfl ?_
    refine wm_iinc d_Ga_discover_130 (by decide) rfl (L' := [vr a0, vd, vi l2, vi x59, vi (l4 + 1)]) rfl ?_
    refine wm_goto (tgt := 96) d_Ga_discover_133 rfl ?_
    exact h
  clear h
  have s61 := s48
  refine wm_icmp_ge (tgt := 136) d_Ga_discover_105 rfl hi_l4 (hO _ _).1 (fun c47 => ?_) (fun c47 => ?_)
  · exact hE0 (Or.inl c47)
  · have s61 := s61 c47
    have s62 := s61
    refine wm_iload_n d_Ga_discover_108 rfl rfl ?_
    refine wm_if_ne (tgt := 136) d_Ga_discover_109 rfl hi_l3 (fun c46 => ?_) (fun c46 => ?_)
    · exact hE0 (Or.inr (Or.inl c46))
    · replace c46 := Classical.not_not.mp c46
      have s62 := s62 c46
      obtain ⟨h43, h44⟩ := s62
      refine wm_aload_n d_Ga_discover_112 rfl rfl ?_
      refine gf_Ga_15 rfl d_Ga_discover_113 h41 ?_
      refine wm_iload_n d_Ga_discover_116 rfl rfl ?_
      refine wm_iald d_Ga_discover_117 h43 h44 ?_
      refine wm_iconst d_Ga_discover_118 ?_
      refine wm_icmp_eq (tgt := 136) d_Ga_discover_119 rfl (hO _ _).1 ⟨by decide, by decide⟩ (fun c45 => ?_) (fun c45 => ?_)
      · exact hE0 (Or.inr (Or.inr c45))
      · exact hE1 (fun z63 => Or.elim z63 c47 (fun z64 => Or.elim z64 (fun w => w c46) c45))
theorem d_Ga_lookAt_0 : decode y_Ga_lookAt.2.1 0 = .ok (.aload_n 0, 1) := dc9_42 (by decide +kernel)
theorem d_Ga_lookAt_1 : decode y_Ga_lookAt.2.1 1 = .ok (.getfield 21, 3) := dc9_180 (by decide +kernel)
theorem d_Ga_lookAt_4 : decode y_Ga_lookAt.2.1 4 = .ok (.iload_n 1, 1) := dc9_27 (by decide +kernel)
theorem d_Ga_lookAt_5 : decode y_Ga_lookAt.2.1 5 = .ok (.aload_n 0, 1) := dc9_42 (by decide +kernel)
theorem d_Ga_lookAt_6 : decode y_Ga_lookAt.2.1 6 = .ok (.getfield 59, 3) := dc9_180 (by decide +kernel)
theorem d_Ga_lookAt_9 : decode y_Ga_lookAt.2.1 9 = .ok (.iastore, 1) := dc9_79 (by decide +kernel)
theorem d_Ga_lookAt_10 : decode y_Ga_lookAt.2.1 10 = .ok (.aload_n 0, 1) := dc9_42 (by decide +kernel)
theorem d_Ga_lookAt_11 : decode y_Ga_lookAt.2.1 11 = .ok (.getfield 21, 3) := dc9_180 (by decide +kernel)
theorem d_Ga_lookAt_14 : decode y_Ga_lookAt.2.1 14 = .ok (.iload_n 1, 1) := dc9_27 (by decide +kernel)
theorem d_Ga_lookAt_15 : decode y_Ga_lookAt.2.1 15 = .ok (.iconst 1, 1) := dc9_4 (by decide +kernel)
theorem d_Ga_lookAt_16 : decode y_Ga_lookAt.2.1 16 = .ok (.iadd, 1) := dc9_96 (by decide +kernel)
theorem d_Ga_lookAt_17 : decode y_Ga_lookAt.2.1 17 = .ok (.aload_n 0, 1) := dc9_42 (by decide +kernel)
theorem d_Ga_lookAt_18 : decode y_Ga_lookAt.2.1 18 = .ok (.getfield 59, 3) := dc9_180 (by decide +kernel)
theorem d_Ga_lookAt_21 : decode y_Ga_lookAt.2.1 21 = .ok (.iastore, 1) := dc9_79 (by decide +kernel)
theorem d_Ga_lookAt_22 : decode y_Ga_lookAt.2.1 22 = .ok (.aload_n 0, 1) := dc9_42 (by decide +kernel)
theorem d_Ga_lookAt_23 : decode y_Ga_lookAt.2.1 23 = .ok (.getfield 18, 3) := dc9_180 (by decide +kernel)
theorem d_Ga_lookAt_26 : decode y_Ga_lookAt.2.1 26 = .ok (.iload_n 1, 1) := dc9_27 (by decide +kernel)
theorem d_Ga_lookAt_27 : decode y_Ga_lookAt.2.1 27 = .ok (.iconst 0, 1) := dc9_3 (by decide +kernel)
theorem d_Ga_lookAt_28 : decode y_Ga_lookAt.2.1 28 = .ok (.iastore, 1) := dc9_79 (by decide +kernel)
theorem d_Ga_lookAt_29 : decode y_Ga_lookAt.2.1 29 = .ok (.aload_n 0, 1) := dc9_42 (by decide +kernel)
theorem d_Ga_lookAt_30 : decode y_Ga_lookAt.2.1 30 = .ok (.getfield 42, 3) := dc9_180 (by decide +kernel)
theorem d_Ga_lookAt_33 : decode y_Ga_lookAt.2.1 33 = .ok (.aload_n 0, 1) := dc9_42 (by decide +kernel)
theorem d_Ga_lookAt_34 : decode y_Ga_lookAt.2.1 34 = .ok (.getfield 9, 3) := dc9_180 (by decide +kernel)
theorem d_Ga_lookAt_37 : decode y_Ga_lookAt.2.1 37 = .ok (.iload_n 1, 1) := dc9_27 (by decide +kernel)
theorem d_Ga_lookAt_38 : decode y_Ga_lookAt.2.1 38 = .ok (.bipush 12, 2) := dc9_16 (by decide +kernel)
theorem d_Ga_lookAt_40 : decode y_Ga_lookAt.2.1 40 = .ok (.imul, 1) := dc9_104 (by decide +kernel)
theorem d_Ga_lookAt_41 : decode y_Ga_lookAt.2.1 41 = .ok (.invokevirtual 118, 3) := dc9_182 (by decide +kernel)
theorem d_Ga_lookAt_44 : decode y_Ga_lookAt.2.1 44 = .ok (.aload_n 0, 1) := dc9_42 (by decide +kernel)
theorem d_Ga_lookAt_45 : decode y_Ga_lookAt.2.1 45 = .ok (.getfield 42, 3) := dc9_180 (by decide +kernel)
theorem d_Ga_lookAt_48 : decode y_Ga_lookAt.2.1 48 = .ok (.aload_n 0, 1) := dc9_42 (by decide +kernel)
theorem d_Ga_lookAt_49 : decode y_Ga_lookAt.2.1 49 = .ok (.getfield 72, 3) := dc9_180 (by decide +kernel)
theorem d_Ga_lookAt_52 : decode y_Ga_lookAt.2.1 52 = .ok (.getfield 120, 3) := dc9_180 (by decide +kernel)
theorem d_Ga_lookAt_55 : decode y_Ga_lookAt.2.1 55 = .ok (.invokevirtual 123, 3) := dc9_182 (by decide +kernel)
theorem d_Ga_lookAt_58 : decode y_Ga_lookAt.2.1 58 = .ok (.ifCond .ne 8, 3) := dc9_154 (by decide +kernel)
theorem d_Ga_lookAt_61 : decode y_Ga_lookAt.2.1 61 = .ok (.aload_n 0, 1) := dc9_42 (by decide +kernel)
theorem d_Ga_lookAt_66 : decode y_Ga_lookAt.2.1 66 = .ok (.aload_n 0, 1) := dc9_42 (by decide +kernel)
theorem d_Ga_lookAt_67 : decode y_Ga_lookAt.2.1 67 = .ok (.getfield 15, 3) := dc9_180 (by decide +kernel)
theorem d_Ga_lookAt_70 : decode y_Ga_lookAt.2.1 70 = .ok (.iload_n 1, 1) := dc9_27 (by decide +kernel)
theorem d_Ga_lookAt_71 : decode y_Ga_lookAt.2.1 71 = .ok (.aload_n 0, 1) := dc9_42 (by decide +kernel)
theorem d_Ga_lookAt_72 : decode y_Ga_lookAt.2.1 72 = .ok (.getfield 42, 3) := dc9_180 (by decide +kernel)
theorem d_Ga_lookAt_75 : decode y_Ga_lookAt.2.1 75 = .ok (.getfield 129, 3) := dc9_180 (by decide +kernel)
theorem d_Ga_lookAt_78 : decode y_Ga_lookAt.2.1 78 = .ok (.iconst 0, 1) := dc9_3 (by decide +kernel)
theorem d_Ga_lookAt_79 : decode y_Ga_lookAt.2.1 79 = .ok (.iaload, 1) := dc9_46 (by decide +kernel)
theorem d_Ga_lookAt_62 : decode y_Ga_lookAt.2.1 62 = .ok (.invokevirtual 126, 3) := dc9_182 (by decide +kernel)
theorem d_Ga_lookAt_65 : decode y_Ga_lookAt.2.1 65 = .ok (.ireturn, 1) := dc9_172 (by decide +kernel)
theorem d_Ga_lookAt_80 : decode y_Ga_lookAt.2.1 80 = .ok (.ifCond .eq 7, 3) := dc9_153 (by decide +kernel)
theorem d_Ga_lookAt_87 : decode y_Ga_lookAt.2.1 87 = .ok (.iconst 0, 1) := dc9_3 (by decide +kernel)
theorem d_Ga_lookAt_83 : decode y_Ga_lookAt.2.1 83 = .ok (.iconst 3, 1) := dc9_6 (by decide +kernel)
theorem d_Ga_lookAt_84 : decode y_Ga_lookAt.2.1 84 = .ok (.goto 4, 3) := dc9_167 (by decide +kernel)
theorem d_Ga_lookAt_88 : decode y_Ga_lookAt.2.1 88 = .ok (.iastore, 1) := dc9_79 (by decide +kernel)
theorem d_Ga_lookAt_89 : decode y_Ga_lookAt.2.1 89 = .ok (.iconst 0, 1) := dc9_3 (by decide +kernel)
theorem d_Ga_lookAt_90 : decode y_Ga_lookAt.2.1 90 = .ok (.ireturn, 1) := dc9_172 (by decide +kernel)
theorem k_Ga_lookAt {G : mG} {d : Nat} {a0 : Nat} {l1 : Int} {M : mM} {Q : Int → mM → Prop} (hO : mOk M) (hi_l1 : i32 l1)
    (h : mK M a0 = 7 ∧ mK M (mR M a0 4) = 30 ∧ ((0 : Int) ≤ l1 ∧ l1 < (mN M (mR M a0 4) : Int)) ∧ ∀ M4, M4 = mUI M (mR M a0 4) (Int.toNat l1) (mI M a0 12) → mK M4 (mR M4 a0 4) = 30 ∧ ((0 : Int) ≤ l1 + 1 ∧ l1 + 1 < (mN M4 (mR M4 a0 4) : Int)) ∧ ∀ M8, M8 = mUI M4 (mR M4 a0 4) (Int.toNat (l1 + 1)) (mI M4 a0 12) → mK M8 (mR M8 a0 3) = 30 ∧ ((0 : Int) ≤ l1 ∧ l1 < (mN M8 (mR M8 a0 3) : Int)) ∧ ∀ M12, M12 = mUI M8 (mR M8 a0 3) (Int.toNat l1) 0 → mK M12 (mR M12 a0 15) = 5 ∧ Cv G y_Ma_enter d [vr (mR M12 a0 15), vr (mR M12 a0 1), vi (l1 * 12)] M12 (fun M15 => mOk M15 ∧ (mK M15 a0 = 7 ∧ mK M15 (mR M15 a0 14) = 6 ∧ mK M15 (mR M15 a0 15) = 5 ∧ Ci G y_Ma_run d [vr (mR M15 a0 15), vi (mI M15 (mR M15 a0 14) 11)] M15 (fun x22 M21 => i32 x22 ∧ mOk M21 ∧ (((x22 = 0) → (mK M21 a0 = 7 ∧ Ci G y_Ga_machineFault d [vr a0] M21 (fun x32 M31 => i32 x32 ∧ mOk M31 ∧ (Q x32 M31)))) ∧ (¬ (x22 = 0) → (mK M21 a0 = 7 ∧ mK M21 (mR M21 a0 15) = 5 ∧ mK M21 (mR M21 (mR M21 a0 15) 6) = 30 ∧ ((0 : Int) ≤ 0 ∧ 0 < (mN M21 (mR M21 (mR M21 a0 15) 6) : Int)) ∧ ∀ v39 : Int, v39 = (if (mI M21 (mR M21 (mR M21 a0 15) 6) 0 = 0) then 0 else 3) → mK M21 (mR M21 a0 2) = 30 ∧ ((0 : Int) ≤ l1 ∧ l1 < (mN M21 (mR M21 a0 2) : Int)) ∧ ∀ M45, M45 = mUI M21 (mR M21 a0 2) (Int.toNat l1) v39 → Q 0 M45))))))) :
    Ci G y_Ga_lookAt (d + 1) [vr a0, vi l1] M Q := by
  refine wm_open (y := y_Ga_lookAt) rfl (Nat.le_of_ble_eq_true rfl) (L := [vr a0, vi l1]) rfl ?_
  obtain ⟨h1, h⟩ := h
  obtain ⟨h2, h⟩ := h
  obtain ⟨h3, h⟩ := h
  obtain ⟨M4, e5⟩ : ∃ M4, M4 = mUI M (mR M a0 4) (Int.toNat l1) (mI M a0 12) := ⟨_, rfl⟩
  replace h := h M4 e5
  obtain ⟨h6, h⟩ := h
  obtain ⟨h7, h⟩ := h
  obtain ⟨M8, e9⟩ : ∃ M8, M8 = mUI M4 (mR M4 a0 4) (Int.toNat (l1 + 1)) (mI M4 a0 12) := ⟨_, rfl⟩
  replace h := h M8 e9
  obtain ⟨h10, h⟩ := h
  obtain ⟨h11, h⟩ := h
  obtain ⟨M12, e13⟩ : ∃ M12, M12 = mUI M8 (mR M8 a0 3) (Int.toNat l1) 0 := ⟨_, rfl⟩
  replace h := h M12 e13
  obtain ⟨h14, h⟩ := h
  refine wm_aload_n d_Ga_lookAt_0 rfl rfl ?_
  refine gf_Ga_21 rfl d_Ga_lookAt_1 h1 ?_
  refine wm_iload_n d_Ga_lookAt_4 rfl rfl ?_
  refine wm_aload_n d_Ga_lookAt_5 rfl rfl ?_
  refine gf_Ga_59 rfl d_Ga_lookAt_6 h1 ?_
  have hOM4 : mOk M4 := by rw [e5]; exact mOk_UI hO (hO _ _).1
  refine wm_iastE d_Ga_lookAt_9 h2 h3 (hO _ _).1 e5 ?_
  refine wm_aload_n d_Ga_lookAt_10 rfl rfl ?_
  refine gf_Ga_21 rfl d_Ga_lookAt_11 (by rw [e5]; exact h1) ?_
  refine wm_iload_n d_Ga_lookAt_14 rfl rfl ?_
  refine wm_iconst d_Ga_lookAt_15 ?_
  refine wm_iadd d_Ga_lookAt_16 ?_
  refine wm_aload_n d_Ga_lookAt_17 rfl rfl ?_
  refine gf_Ga_59 rfl d_Ga_lookAt_18 (by rw [e5]; exact h1) ?_
  have hOM8 : mOk M8 := by rw [e9]; exact mOk_UI hOM4 (hOM4 _ _).1
  refine wm_iastE d_Ga_lookAt_21 h6 h7 (hOM4 _ _).1 e9 ?_
  refine wm_aload_n d_Ga_lookAt_22 rfl rfl ?_
  refine gf_Ga_18 rfl d_Ga_lookAt_23 (by rw [e9, e5]; exact h1) ?_
  refine wm_iload_n d_Ga_lookAt_26 rfl rfl ?_
  refine wm_iconst d_Ga_lookAt_27 ?_
  have hOM12 : mOk M12 := by rw [e13]; exact mOk_UI hOM8 ⟨by decide, by decide⟩
  refine wm_iastE d_Ga_lookAt_28 h10 h11 ⟨by decide, by decide⟩ e13 ?_
  refine wm_aload_n d_Ga_lookAt_29 rfl rfl ?_
  refine gf_Ga_42 rfl d_Ga_lookAt_30 (by rw [e13, e9, e5]; exact h1) ?_
  refine wm_aload_n d_Ga_lookAt_33 rfl rfl ?_
  refine gf_Ga_9 rfl d_Ga_lookAt_34 (by rw [e13, e9, e5]; exact h1) ?_
  refine wm_iload_n d_Ga_lookAt_37 rfl rfl ?_
  refine wm_bipush d_Ga_lookAt_38 (by decide) ?_
  refine wm_imul d_Ga_lookAt_40 ?_
  refine cf_Ga_118 rfl d_Ga_lookAt_41 h14 (Nat.le_of_ble_eq_true rfl) (Cv.mono h (fun M15 h => ?_))
  obtain ⟨hOM15, h⟩ := h
  obtain ⟨h18, h⟩ := h
  obtain ⟨h19, h⟩ := h
  obtain ⟨h20, h⟩ := h
  refine wm_aload_n d_Ga_lookAt_44 rfl rfl ?_
  refine gf_Ga_42 rfl d_Ga_lookAt_45 h18 ?_
  refine wm_aload_n d_Ga_lookAt_48 rfl rfl ?_
  refine gf_Ga_72 rfl d_Ga_lookAt_49 h18 ?_
  refine gf_Ga_120 rfl d_Ga_lookAt_52 h19 ?_
  refine cf_Ga_123 rfl d_Ga_lookAt_55 h20 (Nat.le_of_ble_eq_true rfl) (Ci.mono h (fun x22 M21 h => ?_))
  obtain ⟨h23, hOM21, h⟩ := h
  refine wm_if_ne (tgt := 66) d_Ga_lookAt_58 rfl h23 (fun c29 => ?_) (fun c29 => ?_)
  · replace h := h.2 c29
    obtain ⟨h34, h⟩ := h
    obtain ⟨h35, h⟩ := h
    obtain ⟨h36, h⟩ := h
    obtain ⟨h37, h⟩ := h
    refine wm_aload_n d_Ga_lookAt_66 rfl rfl ?_
    refine gf_Ga_15 rfl d_Ga_lookAt_67 h34 ?_
    refine wm_iload_n d_Ga_lookAt_70 rfl rfl ?_
    refine wm_aload_n d_Ga_lookAt_71 rfl rfl ?_
    refine gf_Ga_42 rfl d_Ga_lookAt_72 h34 ?_
    refine gf_Ga_129 rfl d_Ga_lookAt_75 h35 ?_
    refine wm_iconst d_Ga_lookAt_78 ?_
    refine wm_iald d_Ga_lookAt_79 h36 h37 ?_
    have hJ : ∀ v39 : Int, v39 = (if (mI M21 (mR M21 (mR M21 a0 15) 6) 0 = 0) then 0 else 3) → mWm G y_Ga_lookAt (d + 1) 88 [vd, vd] [vi v39, vi l1, vr (mR M21 a0 2)] M21 (fun r9 M9 => ∃ x9, r9 = some (vi x9) ∧ Q x9 M9) := by
      intro v39 e41
      have h := h v39 e41
      have h42 : i32 v39 := by rw [e41]; (repeat' split) <;> first | exact ⟨by decide, by decide⟩ | exact ⟨by decide, by decide⟩
      obtain ⟨h43, h⟩ := h
      obtain ⟨h44, h⟩ := h
      obtain ⟨M45, e46⟩ : ∃ M45, M45 = mUI M21 (mR M21 a0 2) (Int.toNat l1) v39 := ⟨_, rfl⟩
      replace h := h M45 e46
      have hOM45 : mOk M45 := by rw [e46]; exact mOk_UI hOM21 h42
      refine wm_iastE d_Ga_lookAt_88 h43 h44 h42 e46 ?_
      refine wm_iconst d_Ga_lookAt_89 ?_
      refine wm_ireturn d_Ga_lookAt_90 rfl rfl ?_
      exact ⟨_, rfl, h⟩
    clear h
    refine wm_if_eq (tgt := 87) d_Ga_lookAt_80 rfl (hOM21 _ _).1 (fun c38 => ?_) (fun c38 => ?_)
    · refine wm_iconst d_Ga_lookAt_87 ?_
      refine wm_less (L' := [vd, vd]) ⟨Or.inl rfl, Or.inl rfl, trivial⟩ ?_
      exact hJ 0 (if_pos c38).symm
    · refine wm_iconst d_Ga_lookAt_83 ?_
      refine wm_goto (tgt := 88) d_Ga_lookAt_84 rfl ?_
      refine wm_less (L' := [vd, vd]) ⟨Or.inl rfl, Or.inl rfl, trivial⟩ ?_
      exact hJ 3 (if_neg c38).symm
  · replace c29 := Classical.not_not.mp c29
    replace h := h.1 c29
    obtain ⟨h30, h⟩ := h
    refine wm_aload_n d_Ga_lookAt_61 rfl rfl ?_
    refine cf_Ga_126 rfl d_Ga_lookAt_62 h30 (Nat.le_of_ble_eq_true rfl) (Ci.mono h (fun x32 M31 h => ?_))
    obtain ⟨h33, hOM31, h⟩ := h
    refine wm_ireturn d_Ga_lookAt_65 rfl rfl ?_
    exact ⟨_, rfl, h⟩
theorem d_Ga_machineFault_0 : decode y_Ga_machineFault.2.1 0 = .ok (.aload_n 0, 1) := dc9_42 (by decide +kernel)
theorem d_Ga_machineFault_1 : decode y_Ga_machineFault.2.1 1 = .ok (.aload_n 0, 1) := dc9_42 (by decide +kernel)
theorem d_Ga_machineFault_2 : decode y_Ga_machineFault.2.1 2 = .ok (.getfield 42, 3) := dc9_180 (by decide +kernel)
theorem d_Ga_machineFault_5 : decode y_Ga_machineFault.2.1 5 = .ok (.getfield 132, 3) := dc9_180 (by decide +kernel)
theorem d_Ga_machineFault_8 : decode y_Ga_machineFault.2.1 8 = .ok (.putfield 135, 3) := dc9_181 (by decide +kernel)
theorem d_Ga_machineFault_11 : decode y_Ga_machineFault.2.1 11 = .ok (.aload_n 0, 1) := dc9_42 (by decide +kernel)
theorem d_Ga_machineFault_12 : decode y_Ga_machineFault.2.1 12 = .ok (.getfield 42, 3) := dc9_180 (by decide +kernel)
theorem d_Ga_machineFault_15 : decode y_Ga_machineFault.2.1 15 = .ok (.getfield 136, 3) := dc9_180 (by decide +kernel)
theorem d_Ga_machineFault_18 : decode y_Ga_machineFault.2.1 18 = .ok (.ireturn, 1) := dc9_172 (by decide +kernel)
theorem k_Ga_machineFault {G : mG} {d : Nat} {a0 : Nat} {M : mM} {Q : Int → mM → Prop} (hO : mOk M)
    (h : mK M a0 = 7 ∧ mK M (mR M a0 15) = 5 ∧ ∀ M3, M3 = mUI M a0 10 (mI M (mR M a0 15) 2) → mK M3 (mR M3 a0 15) = 5 ∧ Q (mI M3 (mR M3 a0 15) 1) M3) :
    Ci G y_Ga_machineFault d [vr a0] M Q := by
  refine wm_open (y := y_Ga_machineFault) rfl (Nat.le_of_ble_eq_true rfl) (L := [vr a0]) rfl ?_
  obtain ⟨h1, h⟩ := h
  obtain ⟨h2, h⟩ := h
  obtain ⟨M3, e4⟩ : ∃ M3, M3 = mUI M a0 10 (mI M (mR M a0 15) 2) := ⟨_, rfl⟩
  replace h := h M3 e4
  obtain ⟨h5, h⟩ := h
  refine wm_aload_n d_Ga_machineFault_0 rfl rfl ?_
  refine wm_aload_n d_Ga_machineFault_1 rfl rfl ?_
  refine gf_Ga_42 rfl d_Ga_machineFault_2 h1 ?_
  refine gf_Ga_132 rfl d_Ga_machineFault_5 h2 ?_
  have hOM3 : mOk M3 := by rw [e4]; exact mOk_UI hO (hO _ _).1
  refine pf_Ga_135 rfl d_Ga_machineFault_8 h1 (hO _ _).1 e4 ?_
  refine wm_aload_n d_Ga_machineFault_11 rfl rfl ?_
  refine gf_Ga_42 rfl d_Ga_machineFault_12 (by rw [e4]; exact h1) ?_
  refine gf_Ga_136 rfl d_Ga_machineFault_15 h5 ?_
  refine wm_ireturn d_Ga_machineFault_18 rfl rfl ?_
  exact ⟨_, rfl, h⟩
theorem d_Ga_fault_0 : decode y_Ga_fault.2.1 0 = .ok (.aload_n 0, 1) := dc9_42 (by decide +kernel)
theorem d_Ga_fault_1 : decode y_Ga_fault.2.1 1 = .ok (.iload_n 2, 1) := dc9_28 (by decide +kernel)
theorem d_Ga_fault_2 : decode y_Ga_fault.2.1 2 = .ok (.putfield 135, 3) := dc9_181 (by decide +kernel)
theorem d_Ga_fault_5 : decode y_Ga_fault.2.1 5 = .ok (.iload_n 1, 1) := dc9_27 (by decide +kernel)
theorem d_Ga_fault_6 : decode y_Ga_fault.2.1 6 = .ok (.ireturn, 1) := dc9_172 (by decide +kernel)
theorem k_Ga_fault {G : mG} {d : Nat} {a0 : Nat} {l1 : Int} {l2 : Int} {M : mM} {Q : Int → mM → Prop} (hO : mOk M) (hi_l1 : i32 l1) (hi_l2 : i32 l2)
    (h : mK M a0 = 7 ∧ ∀ M2, M2 = mUI M a0 10 l2 → Q l1 M2) :
    Ci G y_Ga_fault d [vr a0, vi l1, vi l2] M Q := by
  refine wm_open (y := y_Ga_fault) rfl (Nat.le_of_ble_eq_true rfl) (L := [vr a0, vi l1, vi l2]) rfl ?_
  obtain ⟨h1, h⟩ := h
  obtain ⟨M2, e3⟩ : ∃ M2, M2 = mUI M a0 10 l2 := ⟨_, rfl⟩
  replace h := h M2 e3
  refine wm_aload_n d_Ga_fault_0 rfl rfl ?_
  refine wm_iload_n d_Ga_fault_1 rfl rfl ?_
  have hOM2 : mOk M2 := by rw [e3]; exact mOk_UI hO hi_l2
  refine pf_Ga_135 rfl d_Ga_fault_2 h1 hi_l2 e3 ?_
  refine wm_iload_n d_Ga_fault_5 rfl rfl ?_
  refine wm_ireturn d_Ga_fault_6 rfl rfl ?_
  exact ⟨_, rfl, h⟩
theorem d_Ga_tryCommand_0 : decode y_Ga_tryCommand.2.1 0 = .ok (.aload_n 0, 1) := dc9_42 (by decide +kernel)
theorem d_Ga_tryCommand_1 : decode y_Ga_tryCommand.2.1 1 = .ok (.getfield 42, 3) := dc9_180 (by decide +kernel)
theorem d_Ga_tryCommand_4 : decode y_Ga_tryCommand.2.1 4 = .ok (.aload_n 0, 1) := dc9_42 (by decide +kernel)
theorem d_Ga_tryCommand_5 : decode y_Ga_tryCommand.2.1 5 = .ok (.getfield 72, 3) := dc9_180 (by decide +kernel)
theorem d_Ga_tryCommand_8 : decode y_Ga_tryCommand.2.1 8 = .ok (.getfield 139, 3) := dc9_180 (by decide +kernel)
theorem d_Ga_tryCommand_11 : decode y_Ga_tryCommand.2.1 11 = .ok (.iload_n 2, 1) := dc9_28 (by decide +kernel)
theorem d_Ga_tryCommand_12 : decode y_Ga_tryCommand.2.1 12 = .ok (.iaload, 1) := dc9_46 (by decide +kernel)
theorem d_Ga_tryCommand_13 : decode y_Ga_tryCommand.2.1 13 = .ok (.invokevirtual 123, 3) := dc9_182 (by decide +kernel)
theorem d_Ga_tryCommand_16 : decode y_Ga_tryCommand.2.1 16 = .ok (.ifCond .ne 8, 3) := dc9_154 (by decide +kernel)
theorem d_Ga_tryCommand_19 : decode y_Ga_tryCommand.2.1 19 = .ok (.aload_n 0, 1) := dc9_42 (by decide +kernel)
theorem d_Ga_tryCommand_24 : decode y_Ga_tryCommand.2.1 24 = .ok (.aload_n 0, 1) := dc9_42 (by decide +kernel)
theorem d_Ga_tryCommand_25 : decode y_Ga_tryCommand.2.1 25 = .ok (.getfield 42, 3) := dc9_180 (by decide +kernel)
theorem d_Ga_tryCommand_28 : decode y_Ga_tryCommand.2.1 28 = .ok (.getfield 129, 3) := dc9_180 (by decide +kernel)
theorem d_Ga_tryCommand_31 : decode y_Ga_tryCommand.2.1 31 = .ok (.iconst 0, 1) := dc9_3 (by decide +kernel)
theorem d_Ga_tryCommand_32 : decode y_Ga_tryCommand.2.1 32 = .ok (.iaload, 1) := dc9_46 (by decide +kernel)
theorem d_Ga_tryCommand_33 : decode y_Ga_tryCommand.2.1 33 = .ok (.ifCond .ne 5, 3) := dc9_154 (by decide +kernel)
theorem d_Ga_tryCommand_36 : decode y_Ga_tryCommand.2.1 36 = .ok (.iconst 0, 1) := dc9_3 (by decide +kernel)
theorem d_Ga_tryCommand_37 : decode y_Ga_tryCommand.2.1 37 = .ok (.ireturn, 1) := dc9_172 (by decide +kernel)
theorem d_Ga_tryCommand_38 : decode y_Ga_tryCommand.2.1 38 = .ok (.aload_n 0, 1) := dc9_42 (by decide +kernel)
theorem d_Ga_tryCommand_39 : decode y_Ga_tryCommand.2.1 39 = .ok (.getfield 72, 3) := dc9_180 (by decide +kernel)
theorem d_Ga_tryCommand_42 : decode y_Ga_tryCommand.2.1 42 = .ok (.getfield 142, 3) := dc9_180 (by decide +kernel)
theorem d_Ga_tryCommand_45 : decode y_Ga_tryCommand.2.1 45 = .ok (.iload_n 2, 1) := dc9_28 (by decide +kernel)
theorem d_Ga_tryCommand_46 : decode y_Ga_tryCommand.2.1 46 = .ok (.iaload, 1) := dc9_46 (by decide +kernel)
theorem d_Ga_tryCommand_47 : decode y_Ga_tryCommand.2.1 47 = .ok (.istore_n 3, 1) := dc9_62 (by decide +kernel)
theorem d_Ga_tryCommand_48 : decode y_Ga_tryCommand.2.1 48 = .ok (.aload_n 0, 1) := dc9_42 (by decide +kernel)
theorem d_Ga_tryCommand_49 : decode y_Ga_tryCommand.2.1 49 = .ok (.getfield 15, 3) := dc9_180 (by decide +kernel)
theorem d_Ga_tryCommand_52 : decode y_Ga_tryCommand.2.1 52 = .ok (.iload_n 1, 1) := dc9_27 (by decide +kernel)
theorem d_Ga_tryCommand_53 : decode y_Ga_tryCommand.2.1 53 = .ok (.iaload, 1) := dc9_46 (by decide +kernel)
theorem d_Ga_tryCommand_20 : decode y_Ga_tryCommand.2.1 20 = .ok (.invokevirtual 126, 3) := dc9_182 (by decide +kernel)
theorem d_Ga_tryCommand_23 : decode y_Ga_tryCommand.2.1 23 = .ok (.ireturn, 1) := dc9_172 (by decide +kernel)
theorem d_Ga_tryCommand_54 : decode y_Ga_tryCommand.2.1 54 = .ok (.ifCond .eq 29, 3) := dc9_153 (by decide +kernel)
theorem d_Ga_tryCommand_57 : decode y_Ga_tryCommand.2.1 57 = .ok (.aload_n 0, 1) := dc9_42 (by decide +kernel)
theorem d_Ga_tryCommand_58 : decode y_Ga_tryCommand.2.1 58 = .ok (.getfield 15, 3) := dc9_180 (by decide +kernel)
theorem d_Ga_tryCommand_61 : decode y_Ga_tryCommand.2.1 61 = .ok (.iload_n 1, 1) := dc9_27 (by decide +kernel)
theorem d_Ga_tryCommand_62 : decode y_Ga_tryCommand.2.1 62 = .ok (.iaload, 1) := dc9_46 (by decide +kernel)
theorem d_Ga_tryCommand_63 : decode y_Ga_tryCommand.2.1 63 = .ok (.iload_n 3, 1) := dc9_29 (by decide +kernel)
theorem d_Ga_tryCommand_64 : decode y_Ga_tryCommand.2.1 64 = .ok (.if_icmp .eq 19, 3) := dc9_159 (by decide +kernel)
theorem d_Ga_tryCommand_67 : decode y_Ga_tryCommand.2.1 67 = .ok (.aload_n 0, 1) := dc9_42 (by decide +kernel)
theorem d_Ga_tryCommand_68 : decode y_Ga_tryCommand.2.1 68 = .ok (.bipush 13, 2) := dc9_16 (by decide +kernel)
theorem d_Ga_tryCommand_70 : decode y_Ga_tryCommand.2.1 70 = .ok (.aload_n 0, 1) := dc9_42 (by decide +kernel)
theorem d_Ga_tryCommand_71 : decode y_Ga_tryCommand.2.1 71 = .ok (.getfield 72, 3) := dc9_180 (by decide +kernel)
theorem d_Ga_tryCommand_74 : decode y_Ga_tryCommand.2.1 74 = .ok (.getfield 145, 3) := dc9_180 (by decide +kernel)
theorem d_Ga_tryCommand_77 : decode y_Ga_tryCommand.2.1 77 = .ok (.iload_n 2, 1) := dc9_28 (by decide +kernel)
theorem d_Ga_tryCommand_78 : decode y_Ga_tryCommand.2.1 78 = .ok (.iaload, 1) := dc9_46 (by decide +kernel)
theorem d_Ga_tryCommand_83 : decode y_Ga_tryCommand.2.1 83 = .ok (.aload_n 0, 1) := dc9_42 (by decide +kernel)
theorem d_Ga_tryCommand_84 : decode y_Ga_tryCommand.2.1 84 = .ok (.getfield 15, 3) := dc9_180 (by decide +kernel)
theorem d_Ga_tryCommand_87 : decode y_Ga_tryCommand.2.1 87 = .ok (.iload_n 1, 1) := dc9_27 (by decide +kernel)
theorem d_Ga_tryCommand_88 : decode y_Ga_tryCommand.2.1 88 = .ok (.iload_n 3, 1) := dc9_29 (by decide +kernel)
theorem d_Ga_tryCommand_89 : decode y_Ga_tryCommand.2.1 89 = .ok (.iastore, 1) := dc9_79 (by decide +kernel)
theorem d_Ga_tryCommand_90 : decode y_Ga_tryCommand.2.1 90 = .ok (.aload_n 0, 1) := dc9_42 (by decide +kernel)
theorem d_Ga_tryCommand_91 : decode y_Ga_tryCommand.2.1 91 = .ok (.getfield 24, 3) := dc9_180 (by decide +kernel)
theorem d_Ga_tryCommand_94 : decode y_Ga_tryCommand.2.1 94 = .ok (.aload_n 0, 1) := dc9_42 (by decide +kernel)
theorem d_Ga_tryCommand_95 : decode y_Ga_tryCommand.2.1 95 = .ok (.getfield 59, 3) := dc9_180 (by decide +kernel)
theorem d_Ga_tryCommand_98 : decode y_Ga_tryCommand.2.1 98 = .ok (.iload_n 2, 1) := dc9_28 (by decide +kernel)
theorem d_Ga_tryCommand_99 : decode y_Ga_tryCommand.2.1 99 = .ok (.iastore, 1) := dc9_79 (by decide +kernel)
theorem d_Ga_tryCommand_100 : decode y_Ga_tryCommand.2.1 100 = .ok (.aload_n 0, 1) := dc9_42 (by decide +kernel)
theorem d_Ga_tryCommand_101 : decode y_Ga_tryCommand.2.1 101 = .ok (.getfield 30, 3) := dc9_180 (by decide +kernel)
theorem d_Ga_tryCommand_104 : decode y_Ga_tryCommand.2.1 104 = .ok (.aload_n 0, 1) := dc9_42 (by decide +kernel)
theorem d_Ga_tryCommand_105 : decode y_Ga_tryCommand.2.1 105 = .ok (.getfield 59, 3) := dc9_180 (by decide +kernel)
theorem d_Ga_tryCommand_108 : decode y_Ga_tryCommand.2.1 108 = .ok (.aload_n 0, 1) := dc9_42 (by decide +kernel)
theorem d_Ga_tryCommand_109 : decode y_Ga_tryCommand.2.1 109 = .ok (.getfield 62, 3) := dc9_180 (by decide +kernel)
theorem d_Ga_tryCommand_112 : decode y_Ga_tryCommand.2.1 112 = .ok (.iastore, 1) := dc9_79 (by decide +kernel)
theorem d_Ga_tryCommand_113 : decode y_Ga_tryCommand.2.1 113 = .ok (.aload_n 0, 1) := dc9_42 (by decide +kernel)
theorem d_Ga_tryCommand_114 : decode y_Ga_tryCommand.2.1 114 = .ok (.iload_n 2, 1) := dc9_28 (by decide +kernel)
theorem d_Ga_tryCommand_115 : decode y_Ga_tryCommand.2.1 115 = .ok (.invokevirtual 150, 3) := dc9_182 (by decide +kernel)
theorem d_Ga_tryCommand_118 : decode y_Ga_tryCommand.2.1 118 = .ok (.istore 4, 2) := dc9_54 (by decide +kernel)
theorem d_Ga_tryCommand_120 : decode y_Ga_tryCommand.2.1 120 = .ok (.aload_n 0, 1) := dc9_42 (by decide +kernel)
theorem d_Ga_tryCommand_121 : decode y_Ga_tryCommand.2.1 121 = .ok (.getfield 72, 3) := dc9_180 (by decide +kernel)
theorem d_Ga_tryCommand_124 : decode y_Ga_tryCommand.2.1 124 = .ok (.getfield 153, 3) := dc9_180 (by decide +kernel)
theorem d_Ga_tryCommand_127 : decode y_Ga_tryCommand.2.1 127 = .ok (.iload_n 2, 1) := dc9_28 (by decide +kernel)
theorem d_Ga_tryCommand_128 : decode y_Ga_tryCommand.2.1 128 = .ok (.iconst 1, 1) := dc9_4 (by decide +kernel)
theorem d_Ga_tryCommand_129 : decode y_Ga_tryCommand.2.1 129 = .ok (.iadd, 1) := dc9_96 (by decide +kernel)
theorem d_Ga_tryCommand_130 : decode y_Ga_tryCommand.2.1 130 = .ok (.iaload, 1) := dc9_46 (by decide +kernel)
theorem d_Ga_tryCommand_131 : decode y_Ga_tryCommand.2.1 131 = .ok (.aload_n 0, 1) := dc9_42 (by decide +kernel)
theorem d_Ga_tryCommand_132 : decode y_Ga_tryCommand.2.1 132 = .ok (.getfield 72, 3) := dc9_180 (by decide +kernel)
theorem d_Ga_tryCommand_135 : decode y_Ga_tryCommand.2.1 135 = .ok (.getfield 153, 3) := dc9_180 (by decide +kernel)
theorem d_Ga_tryCommand_138 : decode y_Ga_tryCommand.2.1 138 = .ok (.iload_n 2, 1) := dc9_28 (by decide +kernel)
theorem d_Ga_tryCommand_139 : decode y_Ga_tryCommand.2.1 139 = .ok (.iaload, 1) := dc9_46 (by decide +kernel)
theorem d_Ga_tryCommand_140 : decode y_Ga_tryCommand.2.1 140 = .ok (.isub, 1) := dc9_100 (by decide +kernel)
theorem d_Ga_tryCommand_141 : decode y_Ga_tryCommand.2.1 141 = .ok (.istore 5, 2) := dc9_54 (by decide +kernel)
theorem d_Ga_tryCommand_143 : decode y_Ga_tryCommand.2.1 143 = .ok (.iconst 0, 1) := dc9_3 (by decide +kernel)
theorem d_Ga_tryCommand_144 : decode y_Ga_tryCommand.2.1 144 = .ok (.istore 6, 2) := dc9_54 (by decide +kernel)
theorem d_Ga_tryCommand_79 : decode y_Ga_tryCommand.2.1 79 = .ok (.invokevirtual 148, 3) := dc9_182 (by decide +kernel)
theorem d_Ga_tryCommand_82 : decode y_Ga_tryCommand.2.1 82 = .ok (.ireturn, 1) := dc9_172 (by decide +kernel)
theorem d_Ga_tryCommand_146 : decode y_Ga_tryCommand.2.1 146 = .ok (.iload 6, 2) := dc9_21 (by decide +kernel)
theorem d_Ga_tryCommand_148 : decode y_Ga_tryCommand.2.1 148 = .ok (.iload 5, 2) := dc9_21 (by decide +kernel)
theorem d_Ga_tryCommand_150 : decode y_Ga_tryCommand.2.1 150 = .ok (.if_icmp .ge 68, 3) := dc9_162 (by decide +kernel)
theorem d_Ga_tryCommand_153 : decode y_Ga_tryCommand.2.1 153 = .ok (.iload 4, 2) := dc9_21 (by decide +kernel)
theorem d_Ga_tryCommand_155 : decode y_Ga_tryCommand.2.1 155 = .ok (.ifCond .ne 63, 3) := dc9_154 (by decide +kernel)
theorem d_Ga_tryCommand_158 : decode y_Ga_tryCommand.2.1 158 = .ok (.aload_n 0, 1) := dc9_42 (by decide +kernel)
theorem d_Ga_tryCommand_159 : decode y_Ga_tryCommand.2.1 159 = .ok (.getfield 49, 3) := dc9_180 (by decide +kernel)
theorem d_Ga_tryCommand_162 : decode y_Ga_tryCommand.2.1 162 = .ok (.iload 6, 2) := dc9_21 (by decide +kernel)
theorem d_Ga_tryCommand_164 : decode y_Ga_tryCommand.2.1 164 = .ok (.iaload, 1) := dc9_46 (by decide +kernel)
theorem d_Ga_tryCommand_165 : decode y_Ga_tryCommand.2.1 165 = .ok (.ifCond .eq 47, 3) := dc9_153 (by decide +kernel)
theorem d_Ga_tryCommand_168 : decode y_Ga_tryCommand.2.1 168 = .ok (.aload_n 0, 1) := dc9_42 (by decide +kernel)
theorem d_Ga_tryCommand_169 : decode y_Ga_tryCommand.2.1 169 = .ok (.iload_n 2, 1) := dc9_28 (by decide +kernel)
theorem d_Ga_tryCommand_170 : decode y_Ga_tryCommand.2.1 170 = .ok (.aload_n 0, 1) := dc9_42 (by decide +kernel)
theorem d_Ga_tryCommand_171 : decode y_Ga_tryCommand.2.1 171 = .ok (.getfield 72, 3) := dc9_180 (by decide +kernel)
theorem d_Ga_tryCommand_174 : decode y_Ga_tryCommand.2.1 174 = .ok (.getfield 153, 3) := dc9_180 (by decide +kernel)
theorem d_Ga_tryCommand_177 : decode y_Ga_tryCommand.2.1 177 = .ok (.iload_n 2, 1) := dc9_28 (by decide +kernel)
theorem d_Ga_tryCommand_178 : decode y_Ga_tryCommand.2.1 178 = .ok (.iaload, 1) := dc9_46 (by decide +kernel)
theorem d_Ga_tryCommand_179 : decode y_Ga_tryCommand.2.1 179 = .ok (.iload 6, 2) := dc9_21 (by decide +kernel)
theorem d_Ga_tryCommand_181 : decode y_Ga_tryCommand.2.1 181 = .ok (.iadd, 1) := dc9_96 (by decide +kernel)
theorem d_Ga_tryCommand_182 : decode y_Ga_tryCommand.2.1 182 = .ok (.aload_n 0, 1) := dc9_42 (by decide +kernel)
theorem d_Ga_tryCommand_183 : decode y_Ga_tryCommand.2.1 183 = .ok (.getfield 27, 3) := dc9_180 (by decide +kernel)
theorem d_Ga_tryCommand_186 : decode y_Ga_tryCommand.2.1 186 = .ok (.aload_n 0, 1) := dc9_42 (by decide +kernel)
theorem d_Ga_tryCommand_187 : decode y_Ga_tryCommand.2.1 187 = .ok (.getfield 59, 3) := dc9_180 (by decide +kernel)
theorem d_Ga_tryCommand_190 : decode y_Ga_tryCommand.2.1 190 = .ok (.iaload, 1) := dc9_46 (by decide +kernel)
theorem d_Ga_tryCommand_191 : decode y_Ga_tryCommand.2.1 191 = .ok (.aload_n 0, 1) := dc9_42 (by decide +kernel)
theorem d_Ga_tryCommand_192 : decode y_Ga_tryCommand.2.1 192 = .ok (.getfield 52, 3) := dc9_180 (by decide +kernel)
theorem d_Ga_tryCommand_195 : decode y_Ga_tryCommand.2.1 195 = .ok (.iload 6, 2) := dc9_21 (by decide +kernel)
theorem d_Ga_tryCommand_197 : decode y_Ga_tryCommand.2.1 197 = .ok (.iaload, 1) := dc9_46 (by decide +kernel)
theorem d_Ga_tryCommand_198 : decode y_Ga_tryCommand.2.1 198 = .ok (.idiv, 1) := dc9_108 (by decide +kernel)
theorem d_Ga_tryCommand_199 : decode y_Ga_tryCommand.2.1 199 = .ok (.aload_n 0, 1) := dc9_42 (by decide +kernel)
theorem d_Ga_tryCommand_200 : decode y_Ga_tryCommand.2.1 200 = .ok (.getfield 49, 3) := dc9_180 (by decide +kernel)
theorem d_Ga_tryCommand_203 : decode y_Ga_tryCommand.2.1 203 = .ok (.iload 6, 2) := dc9_21 (by decide +kernel)
theorem d_Ga_tryCommand_205 : decode y_Ga_tryCommand.2.1 205 = .ok (.iaload, 1) := dc9_46 (by decide +kernel)
theorem d_Ga_tryCommand_206 : decode y_Ga_tryCommand.2.1 206 = .ok (.imul, 1) := dc9_104 (by decide +kernel)
theorem d_Ga_tryCommand_218 : decode y_Ga_tryCommand.2.1 218 = .ok (.aload_n 0, 1) := dc9_42 (by decide +kernel)
theorem d_Ga_tryCommand_219 : decode y_Ga_tryCommand.2.1 219 = .ok (.dup, 1) := dc9_89 (by decide +kernel)
theorem d_Ga_tryCommand_220 : decode y_Ga_tryCommand.2.1 220 = .ok (.getfield 59, 3) := dc9_180 (by decide +kernel)
theorem d_Ga_tryCommand_223 : decode y_Ga_tryCommand.2.1 223 = .ok (.iconst 1, 1) := dc9_4 (by decide +kernel)
theorem d_Ga_tryCommand_224 : decode y_Ga_tryCommand.2.1 224 = .ok (.iadd, 1) := dc9_96 (by decide +kernel)
theorem d_Ga_tryCommand_225 : decode y_Ga_tryCommand.2.1 225 = .ok (.putfield 59, 3) := dc9_181 (by decide +kernel)
theorem d_Ga_tryCommand_228 : decode y_Ga_tryCommand.2.1 228 = .ok (.aload_n 0, 1) := dc9_42 (by decide +kernel)
theorem d_Ga_tryCommand_229 : decode y_Ga_tryCommand.2.1 229 = .ok (.getfield 30, 3) := dc9_180 (by decide +kernel)
theorem d_Ga_tryCommand_232 : decode y_Ga_tryCommand.2.1 232 = .ok (.aload_n 0, 1) := dc9_42 (by decide +kernel)
theorem d_Ga_tryCommand_233 : decode y_Ga_tryCommand.2.1 233 = .ok (.getfield 59, 3) := dc9_180 (by decide +kernel)
theorem d_Ga_tryCommand_236 : decode y_Ga_tryCommand.2.1 236 = .ok (.aload_n 0, 1) := dc9_42 (by decide +kernel)
theorem d_Ga_tryCommand_237 : decode y_Ga_tryCommand.2.1 237 = .ok (.getfield 62, 3) := dc9_180 (by decide +kernel)
theorem d_Ga_tryCommand_240 : decode y_Ga_tryCommand.2.1 240 = .ok (.iastore, 1) := dc9_79 (by decide +kernel)
theorem d_Ga_tryCommand_241 : decode y_Ga_tryCommand.2.1 241 = .ok (.aload_n 0, 1) := dc9_42 (by decide +kernel)
theorem d_Ga_tryCommand_242 : decode y_Ga_tryCommand.2.1 242 = .ok (.getfield 21, 3) := dc9_180 (by decide +kernel)
theorem d_Ga_tryCommand_245 : decode y_Ga_tryCommand.2.1 245 = .ok (.iload_n 1, 1) := dc9_27 (by decide +kernel)
theorem d_Ga_tryCommand_246 : decode y_Ga_tryCommand.2.1 246 = .ok (.iconst 1, 1) := dc9_4 (by decide +kernel)
theorem d_Ga_tryCommand_247 : decode y_Ga_tryCommand.2.1 247 = .ok (.iadd, 1) := dc9_96 (by decide +kernel)
theorem d_Ga_tryCommand_248 : decode y_Ga_tryCommand.2.1 248 = .ok (.aload_n 0, 1) := dc9_42 (by decide +kernel)
theorem d_Ga_tryCommand_249 : decode y_Ga_tryCommand.2.1 249 = .ok (.getfield 59, 3) := dc9_180 (by decide +kernel)
theorem d_Ga_tryCommand_252 : decode y_Ga_tryCommand.2.1 252 = .ok (.iastore, 1) := dc9_79 (by decide +kernel)
theorem d_Ga_tryCommand_253 : decode y_Ga_tryCommand.2.1 253 = .ok (.iload 4, 2) := dc9_21 (by decide +kernel)
theorem d_Ga_tryCommand_255 : decode y_Ga_tryCommand.2.1 255 = .ok (.ireturn, 1) := dc9_172 (by decide +kernel)
theorem d_Ga_tryCommand_207 : decode y_Ga_tryCommand.2.1 207 = .ok (.invokevirtual 154, 3) := dc9_182 (by decide +kernel)
theorem d_Ga_tryCommand_210 : decode y_Ga_tryCommand.2.1 210 = .ok (.istore 4, 2) := dc9_54 (by decide +kernel)
theorem d_Ga_tryCommand_212 : decode y_Ga_tryCommand.2.1 212 = .ok (.iinc 6 1, 3) := by decide +kernel
theorem d_Ga_tryCommand_215 : decode y_Ga_tryCommand.2.1 215 = .ok (.goto (-69), 3) := dc9_167 (by decide +kernel)
def h_Ga_tryCommand_146 (G : mG) (d : Nat) (a0 : Nat) (l1 : Int) (l2 : Int) (l4 : Int) (l5 : Int) (l6 : Int) (M : mM) (Q : Int → mM → Prop) : Prop := mWm G y_Ga_tryCommand (d + 1) 146 [vr a0, vi l1, vi l2, vd, vi l4, vi l5, vi l6] [] M (fun r9 M9 => ∃ x9, r9 = some (vi x9) ∧ Q x9 M9)
def h_Ga_tryCommand_212 (G : mG) (d : Nat) (a0 : Nat) (l1 : Int) (l2 : Int) (l4 : Int) (l5 : Int) (l6 : Int) (M : mM) (Q : Int → mM → Prop) : Prop := mWm G y_Ga_tryCommand (d + 1) 212 [vr a0, vi l1, vi l2, vd, vi l4, vi l5, vi l6] [] M (fun r9 M9 => ∃ x9, r9 = some (vi x9) ∧ Q x9 M9)
theorem k_Ga_tryCommand {G : mG} {d : Nat} {a0 : Nat} {l1 : Int} {l2 : Int} {M : mM} {Q : Int → mM → Prop} (hO : mOk M) (hi_l1 : i32 l1) (hi_l2 : i32 l2)
    (h : mK M a0 = 7 ∧ mK M (mR M a0 14) = 6 ∧ mK M (mR M (mR M a0 14) 15) = 30 ∧ ((0 : Int) ≤ l2 ∧ l2 < (mN M (mR M (mR M a0 14) 15) : Int)) ∧ mK M (mR M a0 15) = 5 ∧ Ci G y_Ma_run d [vr (mR M a0 15), vi (mI M (mR M (mR M a0 14) 15) (Int.toNat l2))] M (fun x7 M6 => i32 x7 ∧ mOk M6 ∧ (((x7 = 0) → (mK M6 a0 = 7 ∧ Ci G y_Ga_machineFault d [vr a0] M6 (fun x23 M22 => i32 x23 ∧ mOk M22 ∧ (Q x23 M22)))) ∧ (¬ (x7 = 0) → (mK M6 a0 = 7 ∧ mK M6 (mR M6 a0 15) = 5 ∧ mK M6 (mR M6 (mR M6 a0 15) 6) = 30 ∧ ((0 : Int) ≤ 0 ∧ 0 < (mN M6 (mR M6 (mR M6 a0 15) 6) : Int)) ∧ ((mI M6 (mR M6 (mR M6 a0 15) 6) 0 = 0) → (Q 0 M6)) ∧ (¬ (mI M6 (mR M6 (mR M6 a0 15) 6) 0 = 0) → (mK M6 (mR M6 a0 14) = 6 ∧ mK M6 (mR M6 (mR M6 a0 14) 13) = 30 ∧ ((0 : Int) ≤ l2 ∧ l2 < (mN M6 (mR M6 (mR M6 a0 14) 13) : Int)) ∧ mK M6 (mR M6 a0 2) = 30 ∧ ((0 : Int) ≤ l1 ∧ l1 < (mN M6 (mR M6 a0 2) : Int)) ∧ (¬ (mI M6 (mR M6 a0 2) (Int.toNat l1) = 0) → ((0 : Int) ≤ l1 ∧ l1 < (mN M6 (mR M6 a0 2) : Int))) ∧ (((mI M6 (mR M6 a0 2) (Int.toNat l1) = 0) ∨ (mI M6 (mR M6 a0 2) (Int.toNat l1) = mI M6 (mR M6 (mR M6 a0 14) 13) (Int.toNat l2))) → (((0 : Int) ≤ l1 ∧ l1 < (mN M6 (mR M6 a0 2) : Int)) ∧ ∀ M47, M47 = mUI M6 (mR M6 a0 2) (Int.toNat l1) (mI M6 (mR M6 (mR M6 a0 14) 13) (Int.toNat l2)) → mK M47 (mR M47 a0 5) = 30 ∧ ((0 : Int) ≤ mI M47 a0 12 ∧ mI M47 a0 12 < (mN M47 (mR M47 a0 5) : Int)) ∧ ∀ M51, M51 = mUI M47 (mR M47 a0 5) (Int.toNat (mI M47 a0 12)) l2 → mK M51 (mR M51 a0 7) = 30 ∧ ((0 : Int) ≤ mI M51 a0 12 ∧ mI M51 a0 12 < (mN M51 (mR M51 a0 7) : Int)) ∧ ∀ M55, M55 = mUI M51 (mR M51 a0 7) (Int.toNat (mI M51 a0 12)) (mI M51 a0 13) → Ci G y_Ga_weighChances d [vr a0, vi l2] M55 (fun x58 M57 => i32 x58 ∧ mOk M57 ∧ (mK M57 a0 = 7 ∧ mK M57 (mR M57 a0 14) = 6 ∧ mK M57 (mR M57 (mR M57 a0 14) 16) = 30 ∧ ((0 : Int) ≤ l2 + 1 ∧ l2 + 1 < (mN M57 (mR M57 (mR M57 a0 14) 16) : Int)) ∧ ((0 : Int) ≤ l2 ∧ l2 < (mN M57 (mR M57 (mR M57 a0 14) 16) : Int)) ∧ h_Ga_tryCommand_146 G d a0 l1 l2 x58 ((mI M57 (mR M57 (mR M57 a0 14) 16) (Int.toNat (l2 + 1))) - (mI M57 (mR M57 (mR M57 a0 14) 16) (Int.toNat l2))) 0 M57 Q)))) ∧ (¬ ((mI M6 (mR M6 a0 2) (Int.toNat l1) = 0) ∨ (mI M6 (mR M6 a0 2) (Int.toNat l1) = mI M6 (mR M6 (mR M6 a0 14) 13) (Int.toNat l2))) → (mK M6 (mR M6 (mR M6 a0 14) 14) = 30 ∧ ((0 : Int) ≤ l2 ∧ l2 < (mN M6 (mR M6 (mR M6 a0 14) 14) : Int)) ∧ Ci G y_Ga_fault d [vr a0, vi 13, vi (mI M6 (mR M6 (mR M6 a0 14) 14) (Int.toNat l2))] M6 (fun x69 M68 => i32 x69 ∧ mOk M68 ∧ (Q x69 M68))))))))))) :
    Ci G y_Ga_tryCommand (d + 1) [vr a0, vi l1, vi l2] M Q := by
  refine wm_open (y := y_Ga_tryCommand) rfl (Nat.le_of_ble_eq_true rfl) (L := [vr a0, vi l1, vi l2, vd, vd, vd, vd]) rfl ?_
  obtain ⟨h1, h⟩ := h
  obtain ⟨h2, h⟩ := h
  obtain ⟨h3, h⟩ := h
  obtain ⟨h4, h⟩ := h
  obtain ⟨h5, h⟩ := h
  refine wm_aload_n d_Ga_tryCommand_0 rfl rfl ?_
  refine gf_Ga_42 rfl d_Ga_tryCommand_1 h1 ?_
  refine wm_aload_n d_Ga_tryCommand_4 rfl rfl ?_
  refine gf_Ga_72 rfl d_Ga_tryCommand_5 h1 ?_
  refine gf_Ga_139 rfl d_Ga_tryCommand_8 h2 ?_
  refine wm_iload_n d_Ga_tryCommand_11 rfl rfl ?_
  refine wm_iald d_Ga_tryCommand_12 h3 h4 ?_
  refine cf_Ga_123 rfl d_Ga_tryCommand_13 h5 (Nat.le_of_ble_eq_true rfl) (Ci.mono h (fun x7 M6 h => ?_))
  obtain ⟨h8, hOM6, h⟩ := h
  refine wm_if_ne (tgt := 24) d_Ga_tryCommand_16 rfl h8 (fun c20 => ?_) (fun c20 => ?_)
  · replace h := h.2 c20
    obtain ⟨h25, h⟩ := h
    obtain ⟨h26, h⟩ := h
    obtain ⟨h27, h⟩ := h
    obtain ⟨h28, h⟩ := h
    refine wm_aload_n d_Ga_tryCommand_24 rfl rfl ?_
    refine gf_Ga_42 rfl d_Ga_tryCommand_25 h25 ?_
    refine gf_Ga_129 rfl d_Ga_tryCommand_28 h26 ?_
    refine wm_iconst d_Ga_tryCommand_31 ?_
    refine wm_iald d_Ga_tryCommand_32 h27 h28 ?_
    refine wm_if_ne (tgt := 38) d_Ga_tryCommand_33 rfl (hOM6 _ _).1 (fun c35 => ?_) (fun c35 => ?_)
    · replace h := h.2 c35
      obtain ⟨h36, h⟩ := h
      obtain ⟨h37, h⟩ := h
      obtain ⟨h38, h⟩ := h
      obtain ⟨h39, h⟩ := h
      obtain ⟨h40, h⟩ := h
      refine wm_aload_n d_Ga_tryCommand_38 rfl rfl ?_
      refine gf_Ga_72 rfl d_Ga_tryCommand_39 h25 ?_
      refine gf_Ga_142 rfl d_Ga_tryCommand_42 h36 ?_
      refine wm_iload_n d_Ga_tryCommand_45 rfl rfl ?_
      refine wm_iald d_Ga_tryCommand_46 h37 h38 ?_
      refine wm_istore_n d_Ga_tryCommand_47 rfl (by decide) (L' := [vr a0, vi l1, vi l2, vi (mI M6 (mR M6 (mR M6 a0 14) 13) (Int.toNat l2)), vd, vd, vd]) rfl ?_
      refine wm_aload_n d_Ga_tryCommand_48 rfl rfl ?_
      refine gf_Ga_15 rfl d_Ga_tryCommand_49 h25 ?_
      refine wm_iload_n d_Ga_tryCommand_52 rfl rfl ?_
      refine wm_iald d_Ga_tryCommand_53 h39 h40 ?_
      obtain ⟨s44, h⟩ := h
      have hE0 : ((mI M6 (mR M6 a0 2) (Int.toNat l1) = 0) ∨ (mI M6 (mR M6 a0 2) (Int.toNat l1) = mI M6 (mR M6 (mR M6 a0 14) 13) (Int.toNat l2))) → mWm G y_Ga_tryCommand (d + 1) 83 [vr a0, vi l1, vi l2, vi (mI M6 (mR M6 (mR M6 a0 14) 13) (Int.toNat l2)), vd, vd, vd] [] M6 (fun r9 M9 => ∃ x9, r9 = some (vi x9) ∧ Q x9 M9) := by
        intro q45
        have h := h.1 q45
        obtain ⟨h46, h⟩ := h
        obtain ⟨M47, e48⟩ : ∃ M47, M47 = mUI M6 (mR M6 a0 2) (Int.toNat l1) (mI M6 (mR M6 (mR M6 a0 14) 13) (Int.toNat l2)) := ⟨_, rfl⟩
        replace h := h M47 e48
        obtain ⟨h49, h⟩ := h
        obtain ⟨h50, h⟩ := h
        obtain ⟨M51, e52⟩ : ∃ M51, M51 = mUI M47 (mR M47 a0 5) (Int.toNat (mI M47 a0 12)) l2 := ⟨_, rfl⟩
        replace h := h M51 e52
        obtain ⟨h53, h⟩ := h
        obtain ⟨h54, h⟩ := h
        obtain ⟨M55, e56⟩ : ∃ M55, M55 = mUI M51 (mR M51 a0 7) (Int.toNat (mI M51 a0 12)) (mI M51 a0 13) := ⟨_, rfl⟩
        replace h := h M55 e56
        refine wm_aload_n d_Ga_tryCommand_83 rfl rfl ?_
        refine gf_Ga_15 rfl d_Ga_tryCommand_84 h25 ?_
        refine wm_iload_n d_Ga_tryCommand_87 rfl rfl ?_
        refine wm_iload_n d_Ga_tryCommand_88 rfl rfl ?_
        have hOM47 : mOk M47 := by rw [e48]; exact mOk_UI hOM6 (hOM6 _ _).1
        refine wm_iastE d_Ga_tryCommand_89 h39 h46 (hOM6 _ _).1 e48 ?_
        refine wm_aload_n d_Ga_tryCommand_90 rfl rfl ?_
        refine gf_Ga_24 rfl d_Ga_tryCommand_91 (by rw [e48]; exact h25) ?_
        refine wm_aload_n d_Ga_tryCommand_94 rfl rfl ?_
        refine gf_Ga_59 rfl d_Ga_tryCommand_95 (by rw [e48]; exact h25) ?_
        refine wm_iload_n d_Ga_tryCommand_98 rfl rfl ?_
        have hOM51 : mOk M51 := by rw [e52]; exact mOk_UI hOM47 hi_l2
        refine wm_iastE d_Ga_tryCommand_99 h49 h50 hi_l2 e52 ?_
        refine wm_aload_n d_Ga_tryCommand_100 rfl rfl ?_
        refine gf_Ga_30 rfl d_Ga_tryCommand_101 (by rw [e52, e48]; exact h25) ?_
        refine wm_aload_n d_Ga_tryCommand_104 rfl rfl ?_
        refine gf_Ga_59 rfl d_Ga_tryCommand_105 (by rw [e52, e48]; exact h25) ?_
        refine wm_aload_n d_Ga_tryCommand_108 rfl rfl ?_
        refine gf_Ga_62 rfl d_Ga_tryCommand_109 (by rw [e52, e48]; exact h25) ?_
        have hOM55 : mOk M55 := by rw [e56]; exact mOk_UI hOM51 (hOM51 _ _).1
        refine wm_iastE d_Ga_tryCommand_112 h53 h54 (hOM51 _ _).1 e56 ?_
        refine wm_aload_n d_Ga_tryCommand_113 rfl rfl ?_
        refine wm_iload_n d_Ga_tryCommand_114 rfl rfl ?_
        refine cf_Ga_150 rfl d_Ga_tryCommand_115 (by rw [e56, e52, e48]; exact h25) (Nat.le_of_ble_eq_true rfl) (Ci.mono h (fun x58 M57 h => ?_))
        obtain ⟨h59, hOM57, h⟩ := h
        obtain ⟨h60, h⟩ := h
        obtain ⟨h61, h⟩ := h
        obtain ⟨h62, h⟩ := h
        obtain ⟨h63, h⟩ := h
        obtain ⟨h64, h⟩ := h
        refine wm_istore d_Ga_tryCommand_118 (by decide) (L' := [vr a0, vi l1, vi l2, vi (mI M6 (mR M6 (mR M6 a0 14) 13) (Int.toNat l2)), vi x58, vd, vd]) rfl ?_
        refine wm_aload_n d_Ga_tryCommand_120 rfl rfl ?_
        refine gf_Ga_72 rfl d_Ga_tryCommand_121 h60 ?_
        refine gf_Ga_153 rfl d_Ga_tryCommand_124 h61 ?_
        refine wm_iload_n d_Ga_tryCommand_127 rfl rfl ?_
        refine wm_iconst d_Ga_tryCommand_128 ?_
        refine wm_iadd d_Ga_tryCommand_129 ?_
        refine wm_iald d_Ga_tryCommand_130 h62 h63 ?_
        refine wm_aload_n d_Ga_tryCommand_131 rfl rfl ?_
        refine gf_Ga_72 rfl d_Ga_tryCommand_132 h60 ?_
        refine gf_Ga_153 rfl d_Ga_tryCommand_135 h61 ?_
        refine wm_iload_n d_Ga_tryCommand_138 rfl rfl ?_
        refine wm_iald d_Ga_tryCommand_139 h62 h64 ?_
        refine wm_isub d_Ga_tryCommand_140 ?_
        refine wm_istore d_Ga_tryCommand_141 (by decide) (L' := [vr a0, vi l1, vi l2, vi (mI M6 (mR M6 (mR M6 a0 14) 13) (Int.toNat l2)), vi x58, vi ((mI M57 (mR M57 (mR M57 a0 14) 16) (Int.toNat (l2 + 1))) - (mI M57 (mR M57 (mR M57 a0 14) 16) (Int.toNat l2))), vd]) rfl ?_
        refine wm_iconst d_Ga_tryCommand_143 ?_
        refine wm_istore d_Ga_tryCommand_144 (by decide) (L' := [vr a0, vi l1, vi l2, vi (mI M6 (mR M6 (mR M6 a0 14) 13) (Int.toNat l2)), vi x58, vi ((mI M57 (mR M57 (mR M57 a0 14) 16) (Int.toNat (l2 + 1))) - (mI M57 (mR M57 (mR M57 a0 14) 16) (Int.toNat l2))), vi 0]) rfl ?_
        refine wm_less (L' := [vr a0, vi l1, vi l2, vd, vi x58, vi ((mI M57 (mR M57 (mR M57 a0 14) 16) (Int.toNat (l2 + 1))) - (mI M57 (mR M57 (mR M57 a0 14) 16) (Int.toNat l2))), vi 0]) ⟨Or.inr rfl, Or.inr rfl, Or.inr rfl, Or.inl rfl, Or.inr rfl, Or.inr rfl, Or.inr rfl, trivial⟩ ?_
        exact h
      have hE1 : ¬ ((mI M6 (mR M6 a0 2) (Int.toNat l1) = 0) ∨ (mI M6 (mR M6 a0 2) (Int.toNat l1) = mI M6 (mR M6 (mR M6 a0 14) 13) (Int.toNat l2))) → mWm G y_Ga_tryCommand (d + 1) 67 [vr a0, vi l1, vi l2, vi (mI M6 (mR M6 (mR M6 a0 14) 13) (Int.toNat l2)), vd, vd, vd] [] M6 (fun r9 M9 => ∃ x9, r9 = some (vi x9) ∧ Q x9 M9) := by
        intro q65
        have h := h.2 q65
        obtain ⟨h66, h⟩ := h
        obtain ⟨h67, h⟩ := h
        refine wm_aload_n d_Ga_tryCommand_67 rfl rfl ?_
        refine wm_bipush d_Ga_tryCommand_68 (by decide) ?_
        refine wm_aload_n d_Ga_tryCommand_70 rfl rfl ?_
        refine gf_Ga_72 rfl d_Ga_tryCommand_71 h25 ?_
        refine gf_Ga_145 rfl d_Ga_tryCommand_74 h36 ?_
        refine wm_iload_n d_Ga_tryCommand_77 rfl rfl ?_
        refine wm_iald d_Ga_tryCommand_78 h66 h67 ?_
        refine cf_Ga_148 rfl d_Ga_tryCommand_79 h25 (Nat.le_of_ble_eq_true rfl) (Ci.mono h (fun x69 M68 h => ?_))
        obtain ⟨h70, hOM68, h⟩ := h
        refine wm_ireturn d_Ga_tryCommand_82 rfl rfl ?_
        exact ⟨_, rfl, h⟩
      clear h
      have s71 := s44
      refine wm_if_eq (tgt := 83) d_Ga_tryCommand_54 rfl (hOM6 _ _).1 (fun c43 => ?_) (fun c43 => ?_)
      · exact hE0 (Or.inl c43)
      · have s71 := s71 c43
        have h41 := s71
        refine wm_aload_n d_Ga_tryCommand_57 rfl rfl ?_
        refine gf_Ga_15 rfl d_Ga_tryCommand_58 h25 ?_
        refine wm_iload_n d_Ga_tryCommand_61 rfl rfl ?_
        refine wm_iald d_Ga_tryCommand_62 h39 h41 ?_
        refine wm_iload_n d_Ga_tryCommand_63 rfl rfl ?_
        refine wm_icmp_eq (tgt := 83) d_Ga_tryCommand_64 rfl (hOM6 _ _).1 (hOM6 _ _).1 (fun c42 => ?_) (fun c42 => ?_)
        · exact hE0 (Or.inr c42)
        · exact hE1 (fun z72 => Or.elim z72 c43 c42)
    · replace c35 := Classical.not_not.mp c35
      replace h := h.1 c35
      refine wm_iconst d_Ga_tryCommand_36 ?_
      refine wm_ireturn d_Ga_tryCommand_37 rfl rfl ?_
      exact ⟨_, rfl, h⟩
  · replace c20 := Classical.not_not.mp c20
    replace h := h.1 c20
    obtain ⟨h21, h⟩ := h
    refine wm_aload_n d_Ga_tryCommand_19 rfl rfl ?_
    refine cf_Ga_126 rfl d_Ga_tryCommand_20 h21 (Nat.le_of_ble_eq_true rfl) (Ci.mono h (fun x23 M22 h => ?_))
    obtain ⟨h24, hOM22, h⟩ := h
    refine wm_ireturn d_Ga_tryCommand_23 rfl rfl ?_
    exact ⟨_, rfl, h⟩
theorem k_Ga_tryCommand_146 {G : mG} {d : Nat} {a0 : Nat} {l1 : Int} {l2 : Int} {l4 : Int} {l5 : Int} {l6 : Int} {M : mM} {Q : Int → mM → Prop} (hO : mOk M) (hi_l1 : i32 l1) (hi_l2 : i32 l2) (hi_l4 : i32 l4) (hi_l5 : i32 l5) (hi_l6 : i32 l6)
    (h : (((l5 ≤ l6) ∨ (¬ (l4 = 0))) → (mK M a0 = 7 ∧ i32 ((mI M a0 12) + 1) ∧ ∀ M84, M84 = mUI M a0 12 ((mI M a0 12) + 1) → mK M84 (mR M84 a0 7) = 30 ∧ ((0 : Int) ≤ mI M84 a0 12 ∧ mI M84 a0 12 < (mN M84 (mR M84 a0 7) : Int)) ∧ ∀ M88, M88 = mUI M84 (mR M84 a0 7) (Int.toNat (mI M84 a0 12)) (mI M84 a0 13) → mK M88 (mR M88 a0 4) = 30 ∧ ((0 : Int) ≤ l1 + 1 ∧ l1 + 1 < (mN M88 (mR M88 a0 4) : Int)) ∧ ∀ M92, M92 = mUI M88 (mR M88 a0 4) (Int.toNat (l1 + 1)) (mI M88 a0 12) → Q l4 M92)) ∧ (¬ ((l5 ≤ l6) ∨ (¬ (l4 = 0))) → (mK M a0 = 7 ∧ mK M (mR M a0 17) = 30 ∧ ((0 : Int) ≤ l6 ∧ l6 < (mN M (mR M a0 17) : Int)) ∧ ((mI M (mR M a0 17) (Int.toNat l6) = 0) → (h_Ga_tryCommand_212 G d a0 l1 l2 l4 l5 l6 M Q)) ∧ (¬ (mI M (mR M a0 17) (Int.toNat l6) = 0) → (mK M (mR M a0 14) = 6 ∧ mK M (mR M (mR M a0 14) 16) = 30 ∧ ((0 : Int) ≤ l2 ∧ l2 < (mN M (mR M (mR M a0 14) 16) : Int)) ∧ mK M (mR M a0 6) = 30 ∧ ((0 : Int) ≤ mI M a0 12 ∧ mI M a0 12 < (mN M (mR M a0 6) : Int)) ∧ mK M (mR M a0 18) = 30 ∧ ((0 : Int) ≤ l6 ∧ l6 < (mN M (mR M a0 18) : Int)) ∧ (mI M (mR M a0 18) (Int.toNat l6)) ≠ 0 ∧ ((0 : Int) ≤ l6 ∧ l6 < (mN M (mR M a0 17) : Int)) ∧ Ci G y_Ga_follow d [vr a0, vi l2, vi ((mI M (mR M (mR M a0 14) 16) (Int.toNat l2)) + l6), vi ((Int.tdiv (mI M (mR M a0 6) (Int.toNat (mI M a0 12))) (mI M (mR M a0 18) (Int.toNat l6))) * (mI M (mR M a0 17) (Int.toNat l6)))] M (fun x110 M109 => i32 x110 ∧ mOk M109 ∧ (h_Ga_tryCommand_212 G d a0 l1 l2 x110 l5 l6 M109 Q))))))) :
    h_Ga_tryCommand_146 G d a0 l1 l2 l4 l5 l6 M Q := by
  unfold h_Ga_tryCommand_146
  refine wm_iload d_Ga_tryCommand_146 rfl ?_
  refine wm_iload d_Ga_tryCommand_148 rfl ?_
  have hE0 : ((l5 ≤ l6) ∨ (¬ (l4 = 0))) → mWm G y_Ga_tryCommand (d + 1) 218 [vr a0, vi l1, vi l2, vd, vi l4, vi l5, vi l6] [] M (fun r9 M9 => ∃ x9, r9 = some (vi x9) ∧ Q x9 M9) := by
    intro q81
    have h := h.1 q81
    obtain ⟨h82, h⟩ := h
    obtain ⟨h83, h⟩ := h
    obtain ⟨M84, e85⟩ : ∃ M84, M84 = mUI M a0 12 ((mI M a0 12) + 1) := ⟨_, rfl⟩
    replace h := h M84 e85
    obtain ⟨h86, h⟩ := h
    obtain ⟨h87, h⟩ := h
    obtain ⟨M88, e89⟩ : ∃ M88, M88 = mUI M84 (mR M84 a0 7) (Int.toNat (mI M84 a0 12)) (mI M84 a0 13) := ⟨_, rfl⟩
    replace h := h M88 e89
    obtain ⟨h90, h⟩ := h
    obtain ⟨h91, h⟩ := h
    obtain ⟨M92, e93⟩ : ∃ M92, M92 = mUI M88 (mR M88 a0 4) (Int.toNat (l1 + 1)) (mI M88 a0 12) := ⟨_, rfl⟩
    replace h := h M92 e93
    refine wm_aload_n d_Ga_tryCommand_218 rfl rfl ?_
    refine wm_dup d_Ga_tryCommand_219 rfl ?_
    refine gf_Ga_59 rfl d_Ga_tryCommand_220 h82 ?_
    refine wm_iconst d_Ga_tryCommand_223 ?_
    refine wm_iadd d_Ga_tryCommand_224 ?_
    have hOM84 : mOk M84 := by rw [e85]; exact mOk_UI hO h83
    refine pf_Ga_59 rfl d_Ga_tryCommand_225 h82 h83 e85 ?_
    refine wm_aload_n d_Ga_tryCommand_228 rfl rfl ?_
    refine gf_Ga_30 rfl d_Ga_tryCommand_229 (by rw [e85]; exact h82) ?_
    refine wm_aload_n d_Ga_tryCommand_232 rfl rfl ?_
    refine gf_Ga_59 rfl d_Ga_tryCommand_233 (by rw [e85]; exact h82) ?_
    refine wm_aload_n d_Ga_tryCommand_236 rfl rfl ?_
    refine gf_Ga_62 rfl d_Ga_tryCommand_237 (by rw [e85]; exact h82) ?_
    have hOM88 : mOk M88 := by rw [e89]; exact mOk_UI hOM84 (hOM84 _ _).1
    refine wm_iastE d_Ga_tryCommand_240 h86 h87 (hOM84 _ _).1 e89 ?_
    refine wm_aload_n d_Ga_tryCommand_241 rfl rfl ?_
    refine gf_Ga_21 rfl d_Ga_tryCommand_242 (by rw [e89, e85]; exact h82) ?_
    refine wm_iload_n d_Ga_tryCommand_245 rfl rfl ?_
    refine wm_iconst d_Ga_tryCommand_246 ?_
    refine wm_iadd d_Ga_tryCommand_247 ?_
    refine wm_aload_n d_Ga_tryCommand_248 rfl rfl ?_
    refine gf_Ga_59 rfl d_Ga_tryCommand_249 (by rw [e89, e85]; exact h82) ?_
    have hOM92 : mOk M92 := by rw [e93]; exact mOk_UI hOM88 (hOM88 _ _).1
    refine wm_iastE d_Ga_tryCommand_252 h90 h91 (hOM88 _ _).1 e93 ?_
    refine wm_iload d_Ga_tryCommand_253 rfl ?_
    refine wm_ireturn d_Ga_tryCommand_255 rfl rfl ?_
    exact ⟨_, rfl, h⟩
  have hE1 : ¬ ((l5 ≤ l6) ∨ (¬ (l4 = 0))) → mWm G y_Ga_tryCommand (d + 1) 158 [vr a0, vi l1, vi l2, vd, vi l4, vi l5, vi l6] [] M (fun r9 M9 => ∃ x9, r9 = some (vi x9) ∧ Q x9 M9) := by
    intro q94
    have h := h.2 q94
    obtain ⟨h95, h⟩ := h
    obtain ⟨h96, h⟩ := h
    obtain ⟨h97, h⟩ := h
    refine wm_aload_n d_Ga_tryCommand_158 rfl rfl ?_
    refine gf_Ga_49 rfl d_Ga_tryCommand_159 h95 ?_
    refine wm_iload d_Ga_tryCommand_162 rfl ?_
    refine wm_iald d_Ga_tryCommand_164 h96 h97 ?_
    refine wm_if_eq (tgt := 212) d_Ga_tryCommand_165 rfl (hO _ _).1 (fun c99 => ?_) (fun c99 => ?_)
    · replace h := h.1 c99
      exact h
    · replace h := h.2 c99
      obtain ⟨h100, h⟩ := h
      obtain ⟨h101, h⟩ := h
      obtain ⟨h102, h⟩ := h
      obtain ⟨h103, h⟩ := h
      obtain ⟨h104, h⟩ := h
      obtain ⟨h105, h⟩ := h
      obtain ⟨h106, h⟩ := h
      obtain ⟨h107, h⟩ := h
      obtain ⟨h108, h⟩ := h
      refine wm_aload_n d_Ga_tryCommand_168 rfl rfl ?_
      refine wm_iload_n d_Ga_tryCommand_169 rfl rfl ?_
      refine wm_aload_n d_Ga_tryCommand_170 rfl rfl ?_
      refine gf_Ga_72 rfl d_Ga_tryCommand_171 h95 ?_
      refine gf_Ga_153 rfl d_Ga_tryCommand_174 h100 ?_
      refine wm_iload_n d_Ga_tryCommand_177 rfl rfl ?_
      refine wm_iald d_Ga_tryCommand_178 h101 h102 ?_
      refine wm_iload d_Ga_tryCommand_179 rfl ?_
      refine wm_iadd d_Ga_tryCommand_181 ?_
      refine wm_aload_n d_Ga_tryCommand_182 rfl rfl ?_
      refine gf_Ga_27 rfl d_Ga_tryCommand_183 h95 ?_
      refine wm_aload_n d_Ga_tryCommand_186 rfl rfl ?_
      refine gf_Ga_59 rfl d_Ga_tryCommand_187 h95 ?_
      refine wm_iald d_Ga_tryCommand_190 h103 h104 ?_
      refine wm_aload_n d_Ga_tryCommand_191 rfl rfl ?_
      refine gf_Ga_52 rfl d_Ga_tryCommand_192 h95 ?_
      refine wm_iload d_Ga_tryCommand_195 rfl ?_
      refine wm_iald d_Ga_tryCommand_197 h105 h106 ?_
      refine wm_idiv d_Ga_tryCommand_198 (hO _ _).1 (hO _ _).1 h107 ?_
      refine wm_aload_n d_Ga_tryCommand_199 rfl rfl ?_
      refine gf_Ga_49 rfl d_Ga_tryCommand_200 h95 ?_
      refine wm_iload d_Ga_tryCommand_203 rfl ?_
      refine wm_iald d_Ga_tryCommand_205 h96 h108 ?_
      refine wm_imul d_Ga_tryCommand_206 ?_
      refine cf_Ga_154 rfl d_Ga_tryCommand_207 h95 (Nat.le_of_ble_eq_true rfl) (Ci.mono h (fun x110 M109 h => ?_))
      obtain ⟨h111, hOM109, h⟩ := h
      refine wm_istore d_Ga_tryCommand_210 (by decide) (L' := [vr a0, vi l1, vi l2, vd, vi x110, vi l5, vi l6]) rfl ?_
      exact h
  clear h
  refine wm_icmp_ge (tgt := 218) d_Ga_tryCommand_150 rfl hi_l6 hi_l5 (fun c79 => ?_) (fun c79 => ?_)
  · exact hE0 (Or.inl c79)
  · refine wm_iload d_Ga_tryCommand_153 rfl ?_
    refine wm_if_ne (tgt := 218) d_Ga_tryCommand_155 rfl hi_l4 (fun c78 => ?_) (fun c78 => ?_)
    · exact hE0 (Or.inr c78)
    · replace c78 := Classical.not_not.mp c78
      exact hE1 (fun z112 => Or.elim z112 c79 (fun z113 => z113 c78))
theorem k_Ga_tryCommand_212 {G : mG} {d : Nat} {a0 : Nat} {l1 : Int} {l2 : Int} {l4 : Int} {l5 : Int} {l6 : Int} {M : mM} {Q : Int → mM → Prop} (hO : mOk M) (hi_l1 : i32 l1) (hi_l2 : i32 l2) (hi_l4 : i32 l4) (hi_l5 : i32 l5) (hi_l6 : i32 l6)
    (h : h_Ga_tryCommand_146 G d a0 l1 l2 l4 l5 (l6 + 1) M Q) :
    h_Ga_tryCommand_212 G d a0 l1 l2 l4 l5 l6 M Q := by
  unfold h_Ga_tryCommand_212
  refine wm_iinc d_Ga_tryCommand_212 (by decide) rfl (L' := [vr a0, vi l1, vi l2, vd, vi l4, vi l5, vi (l6 + 1)]) rfl ?_
  refine wm_goto (tgt := 146) d_Ga_tryCommand_215 rfl ?_
  exact h
end
