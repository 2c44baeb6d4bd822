theorem d_CA_print_0 : decode y_CA_print.2.1 0 = .ok (.aload_n 0, 1) := by decide +kernel
theorem d_CA_print_1 : decode y_CA_print.2.1 1 = .ok (.iload_n 1, 1) := by decide +kernel
theorem d_CA_print_2 : decode y_CA_print.2.1 2 = .ok (.iload_n 2, 1) := by decide +kernel
theorem d_CA_print_3 : decode y_CA_print.2.1 3 = .ok (.invokevirtual 237, 3) := by decide +kernel
theorem d_CA_print_6 : decode y_CA_print.2.1 6 = .ok (.astore_n 3, 1) := by decide +kernel
theorem d_CA_print_7 : decode y_CA_print.2.1 7 = .ok (.aload_n 3, 1) := by decide +kernel
theorem d_CA_print_8 : decode y_CA_print.2.1 8 = .ok (.ifnonnull 5, 3) := by decide +kernel
theorem d_CA_print_11 : decode y_CA_print.2.1 11 = .ok (.iconst (-1), 1) := by decide +kernel
theorem d_CA_print_12 : decode y_CA_print.2.1 12 = .ok (.ireturn, 1) := by decide +kernel
theorem d_CA_print_13 : decode y_CA_print.2.1 13 = .ok (.aload_n 0, 1) := by decide +kernel
theorem d_CA_print_14 : decode y_CA_print.2.1 14 = .ok (.getfield 93, 3) := by decide +kernel
theorem d_CA_print_17 : decode y_CA_print.2.1 17 = .ok (.aload_n 3, 1) := by decide +kernel
theorem d_CA_print_18 : decode y_CA_print.2.1 18 = .ok (.invokevirtual 241, 3) := by decide +kernel
theorem d_CA_print_21 : decode y_CA_print.2.1 21 = .ok (.aload_n 0, 1) := by decide +kernel
theorem d_CA_print_22 : decode y_CA_print.2.1 22 = .ok (.getfield 63, 3) := by decide +kernel
theorem d_CA_print_25 : decode y_CA_print.2.1 25 = .ok (.getfield 216, 3) := by decide +kernel
theorem d_CA_print_28 : decode y_CA_print.2.1 28 = .ok (.aload_n 0, 1) := by decide +kernel
theorem d_CA_print_29 : decode y_CA_print.2.1 29 = .ok (.getfield 93, 3) := by decide +kernel
theorem d_CA_print_32 : decode y_CA_print.2.1 32 = .ok (.invokevirtual 245, 3) := by decide +kernel
theorem d_CA_print_35 : decode y_CA_print.2.1 35 = .ok (.aload_n 0, 1) := by decide +kernel
theorem d_CA_print_36 : decode y_CA_print.2.1 36 = .ok (.iconst 0, 1) := by decide +kernel
theorem d_CA_print_37 : decode y_CA_print.2.1 37 = .ok (.putfield 100, 3) := by decide +kernel
theorem d_CA_print_40 : decode y_CA_print.2.1 40 = .ok (.aload_n 0, 1) := by decide +kernel
theorem d_CA_print_41 : decode y_CA_print.2.1 41 = .ok (.aload_n 0, 1) := by decide +kernel
theorem d_CA_print_42 : decode y_CA_print.2.1 42 = .ok (.getfield 93, 3) := by decide +kernel
theorem d_CA_print_45 : decode y_CA_print.2.1 45 = .ok (.getfield 248, 3) := by decide +kernel
theorem d_CA_print_48 : decode y_CA_print.2.1 48 = .ok (.invokevirtual 251, 3) := by decide +kernel
theorem d_CA_print_51 : decode y_CA_print.2.1 51 = .ok (.aload_n 0, 1) := by decide +kernel
theorem d_CA_print_52 : decode y_CA_print.2.1 52 = .ok (.getfield 93, 3) := by decide +kernel
theorem d_CA_print_55 : decode y_CA_print.2.1 55 = .ok (.getfield 255, 3) := by decide +kernel
theorem d_CA_print_58 : decode y_CA_print.2.1 58 = .ok (.invokevirtual 258, 3) := by decide +kernel
theorem d_CA_print_61 : decode y_CA_print.2.1 61 = .ok (.ifCond .ne 32, 3) := by decide +kernel
theorem d_CA_print_64 : decode y_CA_print.2.1 64 = .ok (.aload_n 0, 1) := by decide +kernel
theorem d_CA_print_65 : decode y_CA_print.2.1 65 = .ok (.getfield 97, 3) := by decide +kernel
theorem d_CA_print_68 : decode y_CA_print.2.1 68 = .ok (.aload_n 0, 1) := by decide +kernel
theorem d_CA_print_69 : decode y_CA_print.2.1 69 = .ok (.dup, 1) := by decide +kernel
theorem d_CA_print_70 : decode y_CA_print.2.1 70 = .ok (.getfield 100, 3) := by decide +kernel
theorem d_CA_print_73 : decode y_CA_print.2.1 73 = .ok (.dup_x1, 1) := by decide +kernel
theorem d_CA_print_74 : decode y_CA_print.2.1 74 = .ok (.iconst 1, 1) := by decide +kernel
theorem d_CA_print_75 : decode y_CA_print.2.1 75 = .ok (.iadd, 1) := by decide +kernel
theorem d_CA_print_76 : decode y_CA_print.2.1 76 = .ok (.putfield 100, 3) := by decide +kernel
theorem d_CA_print_79 : decode y_CA_print.2.1 79 = .ok (.bipush 47, 2) := by decide +kernel
theorem d_CA_print_81 : decode y_CA_print.2.1 81 = .ok (.castore, 1) := by decide +kernel
theorem d_CA_print_82 : decode y_CA_print.2.1 82 = .ok (.aload_n 0, 1) := by decide +kernel
theorem d_CA_print_83 : decode y_CA_print.2.1 83 = .ok (.aload_n 0, 1) := by decide +kernel
theorem d_CA_print_84 : decode y_CA_print.2.1 84 = .ok (.getfield 93, 3) := by decide +kernel
theorem d_CA_print_87 : decode y_CA_print.2.1 87 = .ok (.getfield 255, 3) := by decide +kernel
theorem d_CA_print_90 : decode y_CA_print.2.1 90 = .ok (.invokevirtual 251, 3) := by decide +kernel
theorem d_CA_print_93 : decode y_CA_print.2.1 93 = .ok (.aload_n 0, 1) := by decide +kernel
theorem d_CA_print_94 : decode y_CA_print.2.1 94 = .ok (.getfield 100, 3) := by decide +kernel
theorem d_CA_print_97 : decode y_CA_print.2.1 97 = .ok (.ireturn, 1) := by decide +kernel
theorem k_CA_print {G : mG} {d : Nat} {a0 : Nat} {l1 : Int} {l2 : Int} {M : mM} {Q : Int → mM → Prop} (hO : mOk M) (hi_l1 : i32 l1) (hi_l2 : i32 l2)
    (h : mK M a0 = 1 ∧ Cr G y_CA_fractionOf d [vr a0, vi l1, vi l2] M (fun x3 M2 => mOk M2 ∧ (((x3 = 0) → (Q (-1) M2)) ∧ (¬ (x3 = 0) → (mK M2 a0 = 1 ∧ mK M2 (mR M2 a0 16) = 11 ∧ Cv G y_Fr_put1 d [vr (mR M2 a0 16), vr x3] M2 (fun M9 => mOk M9 ∧ (mK M9 a0 = 1 ∧ mK M9 (mR M9 a0 10) = 8 ∧ mK M9 (mR M9 (mR M9 a0 10) 0) = 9 ∧ Cv G y_Sc_reduce d [vr (mR M9 (mR M9 a0 10) 0), vr (mR M9 a0 16)] M9 (fun M15 => mOk M15 ∧ (mK M15 a0 = 1 ∧ ∀ M19, M19 = mUI M15 a0 18 0 → mK M19 (mR M19 a0 16) = 11 ∧ Cv G y_CA_printNumber d [vr a0, vr (mR M19 (mR M19 a0 16) 0)] M19 (fun M22 => mOk M22 ∧ (mK M22 a0 = 1 ∧ mK M22 (mR M22 a0 16) = 11 ∧ mK M22 (mR M22 (mR M22 a0 16) 1) = 10 ∧ Ci G y_Na_isOne d [vr (mR M22 (mR M22 a0 16) 1)] M22 (fun x29 M28 => i32 x29 ∧ mOk M28 ∧ (((x29 = 0) → (mK M28 a0 = 1 ∧ i32 ((mI M28 a0 18) + 1) ∧ ∀ M40, M40 = mUI M28 a0 18 ((mI M28 a0 18) + 1) → mK M40 (mR M28 a0 17) = 32 ∧ ((0 : Int) ≤ mI M28 a0 18 ∧ mI M28 a0 18 < (mN M40 (mR M28 a0 17) : Int)) ∧ ∀ M44, M44 = mUI M40 (mR M28 a0 17) (Int.toNat (mI M28 a0 18)) 47 → mK M44 (mR M44 a0 16) = 11 ∧ Cv G y_CA_printNumber d [vr a0, vr (mR M44 (mR M44 a0 16) 1)] M44 (fun M47 => mOk M47 ∧ (mK M47 a0 = 1 ∧ Q (mI M47 a0 18) M47)))) ∧ (¬ (x29 = 0) → (mK M28 a0 = 1 ∧ Q (mI M28 a0 18) M28))))))))))))))) :
    Ci G y_CA_print (d + 1) [vr a0, vi l1, vi l2] M Q := by
  refine wm_open (y := y_CA_print) rfl (Nat.le_of_ble_eq_true rfl) (L := [vr a0, vi l1, vi l2, vd]) rfl ?_
  obtain ⟨h1, h⟩ := h
  refine wm_aload_n d_CA_print_0 rfl rfl ?_
  refine wm_iload_n d_CA_print_1 rfl rfl ?_
  refine wm_iload_n d_CA_print_2 rfl rfl ?_
  refine cf_CA_237 rfl d_CA_print_3 h1 (Nat.le_of_ble_eq_true rfl) (Cr.mono h (fun x3 M2 h => ?_))
  obtain ⟨hOM2, h⟩ := h
  refine wm_astore_n d_CA_print_6 rfl (by decide) (L' := [vr a0, vi l1, vi l2, vr x3]) rfl ?_
  refine wm_aload_n d_CA_print_7 rfl rfl ?_
  refine wm_ifnonnull (tgt := 13) d_CA_print_8 rfl (fun c6 => ?_) (fun c6 => ?_)
  · replace h := h.2 c6
    obtain ⟨h7, h⟩ := h
    obtain ⟨h8, h⟩ := h
    refine wm_aload_n d_CA_print_13 rfl rfl ?_
    refine gf_CA_93 rfl d_CA_print_14 h7 ?_
    refine wm_aload_n d_CA_print_17 rfl rfl ?_
    refine cf_CA_241 rfl d_CA_print_18 h8 (Nat.le_of_ble_eq_true rfl) (Cv.mono h (fun M9 h => ?_))
    obtain ⟨hOM9, h⟩ := h
    obtain ⟨h12, h⟩ := h
    obtain ⟨h13, h⟩ := h
    obtain ⟨h14, h⟩ := h
    refine wm_aload_n d_CA_print_21 rfl rfl ?_
    refine gf_CA_63 rfl d_CA_print_22 h12 ?_
    refine gf_CA_216 rfl d_CA_print_25 h13 ?_
    refine wm_aload_n d_CA_print_28 rfl rfl ?_
    refine gf_CA_93 rfl d_CA_print_29 h12 ?_
    refine cf_CA_245 rfl d_CA_print_32 h14 (Nat.le_of_ble_eq_true rfl) (Cv.mono h (fun M15 h => ?_))
    obtain ⟨hOM15, h⟩ := h
    obtain ⟨h18, h⟩ := h
    obtain ⟨M19, e20⟩ : ∃ M19, M19 = mUI M15 a0 18 0 := ⟨_, rfl⟩
    replace h := h M19 e20
    obtain ⟨h21, h⟩ := h
    refine wm_aload_n d_CA_print_35 rfl rfl ?_
    refine wm_iconst d_CA_print_36 ?_
    have hOM19 : mOk M19 := by rw [e20]; exact mOk_UI hOM15 ⟨by decide, by decide⟩
    refine pf_CA_100 rfl d_CA_print_37 h18 ⟨by decide, by decide⟩ e20 ?_
    refine wm_aload_n d_CA_print_40 rfl rfl ?_
    refine wm_aload_n d_CA_print_41 rfl rfl ?_
    refine gf_CA_93 rfl d_CA_print_42 (by rw [e20]; exact h18) ?_
    refine gf_CA_248 rfl d_CA_print_45 h21 ?_
    refine cf_CA_251 rfl d_CA_print_48 (by rw [e20]; exact h18) (Nat.le_of_ble_eq_true rfl) (Cv.mono h (fun M22 h => ?_))
    obtain ⟨hOM22, h⟩ := h
    obtain ⟨h25, h⟩ := h
    obtain ⟨h26, h⟩ := h
    obtain ⟨h27, h⟩ := h
    refine wm_aload_n d_CA_print_51 rfl rfl ?_
    refine gf_CA_93 rfl d_CA_print_52 h25 ?_
    refine gf_CA_255 rfl d_CA_print_55 h26 ?_
    refine cf_CA_258 rfl d_CA_print_58 h27 (Nat.le_of_ble_eq_true rfl) (Ci.mono h (fun x29 M28 h => ?_))
    obtain ⟨h30, hOM28, h⟩ := h
    refine wm_if_ne (tgt := 93) d_CA_print_61 rfl h30 (fun c37 => ?_) (fun c37 => ?_)
    · replace h := h.2 c37
      obtain ⟨h51, h⟩ := h
      refine wm_aload_n d_CA_print_93 rfl rfl ?_
      refine gf_CA_100 rfl d_CA_print_94 h51 ?_
      refine wm_ireturn d_CA_print_97 rfl rfl ?_
      exact ⟨_, rfl, h⟩
    · replace c37 := Classical.not_not.mp c37
      replace h := h.1 c37
      obtain ⟨h38, h⟩ := h
      obtain ⟨h39, h⟩ := h
      obtain ⟨M40, e41⟩ : ∃ M40, M40 = mUI M28 a0 18 ((mI M28 a0 18) + 1) := ⟨_, rfl⟩
      replace h := h M40 e41
      obtain ⟨h42, h⟩ := h
      obtain ⟨h43, h⟩ := h
      obtain ⟨M44, e45⟩ : ∃ M44, M44 = mUI M40 (mR M28 a0 17) (Int.toNat (mI M28 a0 18)) 47 := ⟨_, rfl⟩
      replace h := h M44 e45
      obtain ⟨h46, h⟩ := h
      refine wm_aload_n d_CA_print_64 rfl rfl ?_
      refine gf_CA_97 rfl d_CA_print_65 h38 ?_
      refine wm_aload_n d_CA_print_68 rfl rfl ?_
      refine wm_dup d_CA_print_69 rfl ?_
      refine gf_CA_100 rfl d_CA_print_70 h38 ?_
      refine wm_dup_x1 d_CA_print_73 rfl rfl ?_
      refine wm_iconst d_CA_print_74 ?_
      refine wm_iadd d_CA_print_75 ?_
      have hOM40 : mOk M40 := by rw [e41]; exact mOk_UI hOM28 h39
      refine pf_CA_100 rfl d_CA_print_76 h38 h39 e41 ?_
      refine wm_bipush d_CA_print_79 (by decide) ?_
      have hOM44 : mOk M44 := by rw [e45]; exact mOk_UI hOM40 ⟨by omega, by omega⟩
      refine wm_castE d_CA_print_81 h42 h43 ⟨by decide, by decide⟩ e45 ?_
      refine wm_aload_n d_CA_print_82 rfl rfl ?_
      refine wm_aload_n d_CA_print_83 rfl rfl ?_
      refine gf_CA_93 rfl d_CA_print_84 (by rw [e45, e41]; exact h38) ?_
      refine gf_CA_255 rfl d_CA_print_87 h46 ?_
      refine cf_CA_251 rfl d_CA_print_90 (by rw [e45, e41]; exact h38) (Nat.le_of_ble_eq_true rfl) (Cv.mono h (fun M47 h => ?_))
      obtain ⟨hOM47, h⟩ := h
      obtain ⟨h50, h⟩ := h
      refine wm_aload_n d_CA_print_93 rfl rfl ?_
      refine gf_CA_100 rfl d_CA_print_94 h50 ?_
      refine wm_ireturn d_CA_print_97 rfl rfl ?_
      exact ⟨_, rfl, h⟩
  · replace c6 := Classical.not_not.mp c6
    replace h := h.1 c6
    refine wm_iconst d_CA_print_11 ?_
    refine wm_ireturn d_CA_print_12 rfl rfl ?_
    exact ⟨_, rfl, h⟩
theorem d_CA_fractionOf_0 : decode y_CA_fractionOf.2.1 0 = .ok (.iload_n 2, 1) := by decide +kernel
theorem d_CA_fractionOf_1 : decode y_CA_fractionOf.2.1 1 = .ok (.ifCond .ne 10, 3) := by decide +kernel
theorem d_CA_fractionOf_4 : decode y_CA_fractionOf.2.1 4 = .ok (.aload_n 0, 1) := by decide +kernel
theorem d_CA_fractionOf_5 : decode y_CA_fractionOf.2.1 5 = .ok (.getfield 70, 3) := by decide +kernel
theorem d_CA_fractionOf_8 : decode y_CA_fractionOf.2.1 8 = .ok (.goto 28, 3) := by decide +kernel
theorem d_CA_fractionOf_11 : decode y_CA_fractionOf.2.1 11 = .ok (.iload_n 2, 1) := by decide +kernel
theorem d_CA_fractionOf_12 : decode y_CA_fractionOf.2.1 12 = .ok (.iconst 1, 1) := by decide +kernel
theorem d_CA_fractionOf_13 : decode y_CA_fractionOf.2.1 13 = .ok (.if_icmp .ne 10, 3) := by decide +kernel
theorem d_CA_fractionOf_16 : decode y_CA_fractionOf.2.1 16 = .ok (.aload_n 0, 1) := by decide +kernel
theorem d_CA_fractionOf_17 : decode y_CA_fractionOf.2.1 17 = .ok (.getfield 74, 3) := by decide +kernel
theorem d_CA_fractionOf_20 : decode y_CA_fractionOf.2.1 20 = .ok (.goto 16, 3) := by decide +kernel
theorem d_CA_fractionOf_23 : decode y_CA_fractionOf.2.1 23 = .ok (.iload_n 2, 1) := by decide +kernel
theorem d_CA_fractionOf_24 : decode y_CA_fractionOf.2.1 24 = .ok (.iconst 2, 1) := by decide +kernel
theorem d_CA_fractionOf_25 : decode y_CA_fractionOf.2.1 25 = .ok (.if_icmp .ne 10, 3) := by decide +kernel
theorem d_CA_fractionOf_28 : decode y_CA_fractionOf.2.1 28 = .ok (.aload_n 0, 1) := by decide +kernel
theorem d_CA_fractionOf_29 : decode y_CA_fractionOf.2.1 29 = .ok (.getfield 80, 3) := by decide +kernel
theorem d_CA_fractionOf_32 : decode y_CA_fractionOf.2.1 32 = .ok (.goto 4, 3) := by decide +kernel
theorem d_CA_fractionOf_35 : decode y_CA_fractionOf.2.1 35 = .ok (.aconst_null, 1) := by decide +kernel
theorem d_CA_fractionOf_36 : decode y_CA_fractionOf.2.1 36 = .ok (.astore_n 3, 1) := by decide +kernel
theorem d_CA_fractionOf_37 : decode y_CA_fractionOf.2.1 37 = .ok (.aload_n 3, 1) := by decide +kernel
theorem d_CA_fractionOf_38 : decode y_CA_fractionOf.2.1 38 = .ok (.ifnull 21, 3) := by decide +kernel
theorem d_CA_fractionOf_59 : decode y_CA_fractionOf.2.1 59 = .ok (.aconst_null, 1) := by decide +kernel
theorem d_CA_fractionOf_60 : decode y_CA_fractionOf.2.1 60 = .ok (.goto 9, 3) := by decide +kernel
theorem d_CA_fractionOf_41 : decode y_CA_fractionOf.2.1 41 = .ok (.aload_n 3, 1) := by decide +kernel
theorem d_CA_fractionOf_42 : decode y_CA_fractionOf.2.1 42 = .ok (.getfield 137, 3) := by decide +kernel
theorem d_CA_fractionOf_45 : decode y_CA_fractionOf.2.1 45 = .ok (.ifCond .eq 14, 3) := by decide +kernel
theorem d_CA_fractionOf_48 : decode y_CA_fractionOf.2.1 48 = .ok (.aload_n 0, 1) := by decide +kernel
theorem d_CA_fractionOf_49 : decode y_CA_fractionOf.2.1 49 = .ok (.getfield 54, 3) := by decide +kernel
theorem d_CA_fractionOf_52 : decode y_CA_fractionOf.2.1 52 = .ok (.iload_n 1, 1) := by decide +kernel
theorem d_CA_fractionOf_69 : decode y_CA_fractionOf.2.1 69 = .ok (.areturn, 1) := by decide +kernel
theorem d_CA_fractionOf_53 : decode y_CA_fractionOf.2.1 53 = .ok (.invokevirtual 163, 3) := by decide +kernel
theorem d_CA_fractionOf_56 : decode y_CA_fractionOf.2.1 56 = .ok (.ifCond .ne 7, 3) := by decide +kernel
theorem d_CA_fractionOf_63 : decode y_CA_fractionOf.2.1 63 = .ok (.aload_n 3, 1) := by decide +kernel
theorem d_CA_fractionOf_64 : decode y_CA_fractionOf.2.1 64 = .ok (.getfield 262, 3) := by decide +kernel
theorem d_CA_fractionOf_67 : decode y_CA_fractionOf.2.1 67 = .ok (.iload_n 1, 1) := by decide +kernel
theorem d_CA_fractionOf_68 : decode y_CA_fractionOf.2.1 68 = .ok (.aaload, 1) := by decide +kernel
theorem k_CA_fractionOf {G : mG} {d : Nat} {a0 : Nat} {l1 : Int} {l2 : Int} {M : mM} {Q : Nat → mM → Prop} (hO : mOk M) (hi_l1 : i32 l1) (hi_l2 : i32 l2)
    (h : (((l2 = 0) → mK M a0 = 1) ∧ (¬ (l2 = 0) → (((l2 = 1) → mK M a0 = 1) ∧ (¬ (l2 = 1) → ((l2 = 2) → mK M a0 = 1))))) ∧ ∀ v7 : Nat, v7 = (if l2 = 0 then mR M a0 11 else (if l2 = 1 then mR M a0 12 else (if l2 = 2 then mR M a0 14 else 0))) → (¬ (v7 = 0) → mK M v7 = 13) ∧ (((v7 = 0) ∨ (mI M v7 1 = 0)) → (Q 0 M)) ∧ (¬ ((v7 = 0) ∨ (mI M v7 1 = 0)) → (mK M a0 = 1 ∧ mK M (mR M a0 9) = 7 ∧ Ci G y_Ga_hasState d [vr (mR M a0 9), vi l1] M (fun x23 M22 => i32 x23 ∧ mOk M22 ∧ ((¬ (x23 = 0) → (mK M22 v7 = 13 ∧ mK M22 (mR M22 v7 0) = 35 ∧ ((0 : Int) ≤ l1 ∧ l1 < (mN M22 (mR M22 v7 0) : Int)))) ∧ ∀ v29 : Nat, v29 = (if (x23 = 0) then 0 else mR M22 (mR M22 v7 0) (Int.toNat l1)) → Q v29 M22))))) :
    Cr G y_CA_fractionOf (d + 1) [vr a0, vi l1, vi l2] M Q := by
  refine wm_open (y := y_CA_fractionOf) rfl (Nat.le_of_ble_eq_true rfl) (L := [vr a0, vi l1, vi l2, vd]) rfl ?_
  refine wm_iload_n d_CA_fractionOf_0 rfl rfl ?_
  obtain ⟨s8, h⟩ := h
  have hJ : ∀ v7 : Nat, v7 = (if l2 = 0 then mR M a0 11 else (if l2 = 1 then mR M a0 12 else (if l2 = 2 then mR M a0 14 else 0))) → mWm G y_CA_fractionOf (d + 1) 36 [vr a0, vi l1, vd, vd] [vr v7] M (fun r9 M9 => ∃ x9, r9 = some (vr x9) ∧ Q x9 M9) := by
    intro v7 e9
    have h := h v7 e9
    refine wm_astore_n d_CA_fractionOf_36 rfl (by decide) (L' := [vr a0, vi l1, vd, vr v7]) rfl ?_
    refine wm_aload_n d_CA_fractionOf_37 rfl rfl ?_
    obtain ⟨s17, h⟩ := h
    have hE0 : ((v7 = 0) ∨ (mI M v7 1 = 0)) → mWm G y_CA_fractionOf (d + 1) 59 [vr a0, vi l1, vd, vr v7] [] M (fun r9 M9 => ∃ x9, r9 = some (vr x9) ∧ Q x9 M9) := by
      intro q18
      have h := h.1 q18
      refine wm_null d_CA_fractionOf_59 ?_
      refine wm_goto (tgt := 69) d_CA_fractionOf_60 rfl ?_
      refine wm_areturn d_CA_fractionOf_69 rfl (Or.inl ⟨_, rfl⟩) ?_
      exact ⟨_, rfl, h⟩
    have hE1 : ¬ ((v7 = 0) ∨ (mI M v7 1 = 0)) → mWm G y_CA_fractionOf (d + 1) 48 [vr a0, vi l1, vd, vr v7] [] M (fun r9 M9 => ∃ x9, r9 = some (vr x9) ∧ Q x9 M9) := by
      intro q19
      have h := h.2 q19
      obtain ⟨h20, h⟩ := h
      obtain ⟨h21, h⟩ := h
      refine wm_aload_n d_CA_fractionOf_48 rfl rfl ?_
      refine gf_CA_54 rfl d_CA_fractionOf_49 h20 ?_
      refine wm_iload_n d_CA_fractionOf_52 rfl rfl ?_
      refine cf_CA_163 rfl d_CA_fractionOf_53 h21 (Nat.le_of_ble_eq_true rfl) (Ci.mono h (fun x23 M22 h => ?_))
      obtain ⟨h24, hOM22, h⟩ := h
      obtain ⟨s30, h⟩ := h
      have hJ : ∀ v29 : Nat, v29 = (if (x23 = 0) then 0 else mR M22 (mR M22 v7 0) (Int.toNat l1)) → mWm G y_CA_fractionOf (d + 1) 69 [vd, vd, vd, vd] [vr v29] M22 (fun r9 M9 => ∃ x9, r9 = some (vr x9) ∧ Q x9 M9) := by
        intro v29 e31
        have h := h v29 e31
        refine wm_areturn d_CA_fractionOf_69 rfl (Or.inl ⟨_, rfl⟩) ?_
        exact ⟨_, rfl, h⟩
      clear h
      have s32 := s30
      refine wm_if_ne (tgt := 63) d_CA_fractionOf_56 rfl h24 (fun c25 => ?_) (fun c25 => ?_)
      · have s32 := s32 c25
        obtain ⟨h26, h27, h28⟩ := s32
        refine wm_aload_n d_CA_fractionOf_63 rfl rfl ?_
        refine gf_CA_262 rfl d_CA_fractionOf_64 h26 ?_
        refine wm_iload_n d_CA_fractionOf_67 rfl rfl ?_
        refine wm_aald5 d_CA_fractionOf_68 h27 h28 ?_
        refine wm_less (L' := [vd, vd, vd, vd]) ⟨Or.inl rfl, Or.inl rfl, Or.inl rfl, Or.inl rfl, trivial⟩ ?_
        exact hJ (mR M22 (mR M22 v7 0) (Int.toNat l1)) (if_neg c25).symm
      · replace c25 := Classical.not_not.mp c25
        refine wm_null d_CA_fractionOf_59 ?_
        refine wm_goto (tgt := 69) d_CA_fractionOf_60 rfl ?_
        refine wm_less (L' := [vd, vd, vd, vd]) ⟨Or.inl rfl, Or.inl rfl, Or.inl rfl, Or.inl rfl, trivial⟩ ?_
        exact hJ 0 (if_pos c25).symm
    clear h
    have s34 := s17
    refine wm_ifnull (tgt := 59) d_CA_fractionOf_38 rfl (fun c16 => ?_) (fun c16 => ?_)
    · exact hE0 (Or.inl c16)
    · have s34 := s34 c16
      have h14 := s34
      refine wm_aload_n d_CA_fractionOf_41 rfl rfl ?_
      refine gf_CA_137 rfl d_CA_fractionOf_42 h14 ?_
      refine wm_if_eq (tgt := 59) d_CA_fractionOf_45 rfl (hO _ _).1 (fun c15 => ?_) (fun c15 => ?_)
      · exact hE0 (Or.inr c15)
      · exact hE1 (fun z35 => Or.elim z35 c16 c15)
  clear h
  obtain ⟨s37, s38⟩ := s8
  refine wm_if_ne (tgt := 11) d_CA_fractionOf_1 rfl hi_l2 (fun c1 => ?_) (fun c1 => ?_)
  · have s38 := s38 c1
    obtain ⟨s39, s40⟩ := s38
    refine wm_iload_n d_CA_fractionOf_11 rfl rfl ?_
    refine wm_iconst d_CA_fractionOf_12 ?_
    refine wm_icmp_ne (tgt := 23) d_CA_fractionOf_13 rfl hi_l2 ⟨by decide, by decide⟩ (fun c3 => ?_) (fun c3 => ?_)
    · have s40 := s40 c3
      have s41 := s40
      refine wm_iload_n d_CA_fractionOf_23 rfl rfl ?_
      refine wm_iconst d_CA_fractionOf_24 ?_
      refine wm_icmp_ne (tgt := 35) d_CA_fractionOf_25 rfl hi_l2 ⟨by decide, by decide⟩ (fun c5 => ?_) (fun c5 => ?_)
      · refine wm_null d_CA_fractionOf_35 ?_
        refine wm_less (L' := [vr a0, vi l1, vd, vd]) ⟨Or.inr rfl, Or.inr rfl, Or.inl rfl, Or.inl rfl, trivial⟩ ?_
        exact hJ 0 (by rw [if_neg c1, if_neg c3, if_neg c5])
      · replace c5 := Classical.not_not.mp c5
        have s41 := s41 c5
        have h6 := s41
        refine wm_aload_n d_CA_fractionOf_28 rfl rfl ?_
        refine gf_CA_80 rfl d_CA_fractionOf_29 h6 ?_
        refine wm_goto (tgt := 36) d_CA_fractionOf_32 rfl ?_
        refine wm_less (L' := [vr a0, vi l1, vd, vd]) ⟨Or.inr rfl, Or.inr rfl, Or.inl rfl, Or.inl rfl, trivial⟩ ?_
        exact hJ (mR M a0 14) (by rw [if_neg c1, if_neg c3, if_pos c5])
    · replace c3 := Classical.not_not.mp c3
      have s39 := s39 c3
      have h4 := s39
      refine wm_aload_n d_CA_fractionOf_16 rfl rfl ?_
      refine gf_CA_74 rfl d_CA_fractionOf_17 h4 ?_
      refine wm_goto (tgt := 36) d_CA_fractionOf_20 rfl ?_
      refine wm_less (L' := [vr a0, vi l1, vd, vd]) ⟨Or.inr rfl, Or.inr rfl, Or.inl rfl, Or.inl rfl, trivial⟩ ?_
      exact hJ (mR M a0 12) (by rw [if_neg c1, if_pos c3])
  · replace c1 := Classical.not_not.mp c1
    have s37 := s37 c1
    have h2 := s37
    refine wm_aload_n d_CA_fractionOf_4 rfl rfl ?_
    refine gf_CA_70 rfl d_CA_fractionOf_5 h2 ?_
    refine wm_goto (tgt := 36) d_CA_fractionOf_8 rfl ?_
    refine wm_less (L' := [vr a0, vi l1, vd, vd]) ⟨Or.inr rfl, Or.inr rfl, Or.inl rfl, Or.inl rfl, trivial⟩ ?_
    exact hJ (mR M a0 11) (by rw [if_pos c1])
theorem d_CA_printNumber_0 : decode y_CA_printNumber.2.1 0 = .ok (.aload_n 0, 1) := by decide +kernel
theorem d_CA_printNumber_1 : decode y_CA_printNumber.2.1 1 = .ok (.getfield 86, 3) := by decide +kernel
theorem d_CA_printNumber_4 : decode y_CA_printNumber.2.1 4 = .ok (.aload_n 1, 1) := by decide +kernel
theorem d_CA_printNumber_5 : decode y_CA_printNumber.2.1 5 = .ok (.invokevirtual 266, 3) := by decide +kernel
theorem d_CA_printNumber_8 : decode y_CA_printNumber.2.1 8 = .ok (.aload_n 0, 1) := by decide +kernel
theorem d_CA_printNumber_9 : decode y_CA_printNumber.2.1 9 = .ok (.getfield 100, 3) := by decide +kernel
theorem d_CA_printNumber_12 : decode y_CA_printNumber.2.1 12 = .ok (.istore_n 2, 1) := by decide +kernel
theorem d_CA_printNumber_13 : decode y_CA_printNumber.2.1 13 = .ok (.iconst 0, 1) := by decide +kernel
theorem d_CA_printNumber_14 : decode y_CA_printNumber.2.1 14 = .ok (.istore_n 3, 1) := by decide +kernel
theorem d_CA_printNumber_15 : decode y_CA_printNumber.2.1 15 = .ok (.iload_n 3, 1) := by decide +kernel
theorem d_CA_printNumber_16 : decode y_CA_printNumber.2.1 16 = .ok (.sipush 480, 3) := by decide +kernel
theorem d_CA_printNumber_19 : decode y_CA_printNumber.2.1 19 = .ok (.if_icmp .ge 115, 3) := by decide +kernel
theorem d_CA_printNumber_22 : decode y_CA_printNumber.2.1 22 = .ok (.iload_n 3, 1) := by decide +kernel
theorem d_CA_printNumber_23 : decode y_CA_printNumber.2.1 23 = .ok (.ifCond .eq 13, 3) := by decide +kernel
theorem d_CA_printNumber_26 : decode y_CA_printNumber.2.1 26 = .ok (.aload_n 0, 1) := by decide +kernel
theorem d_CA_printNumber_27 : decode y_CA_printNumber.2.1 27 = .ok (.getfield 86, 3) := by decide +kernel
theorem d_CA_printNumber_30 : decode y_CA_printNumber.2.1 30 = .ok (.getfield 268, 3) := by decide +kernel
theorem d_CA_printNumber_33 : decode y_CA_printNumber.2.1 33 = .ok (.ifCond .le 101, 3) := by decide +kernel
theorem d_CA_printNumber_134 : decode y_CA_printNumber.2.1 134 = .ok (.iload_n 2, 1) := by decide +kernel
theorem d_CA_printNumber_135 : decode y_CA_printNumber.2.1 135 = .ok (.istore_n 3, 1) := by decide +kernel
theorem d_CA_printNumber_136 : decode y_CA_printNumber.2.1 136 = .ok (.aload_n 0, 1) := by decide +kernel
theorem d_CA_printNumber_137 : decode y_CA_printNumber.2.1 137 = .ok (.getfield 100, 3) := by decide +kernel
theorem d_CA_printNumber_140 : decode y_CA_printNumber.2.1 140 = .ok (.iconst 1, 1) := by decide +kernel
theorem d_CA_printNumber_141 : decode y_CA_printNumber.2.1 141 = .ok (.isub, 1) := by decide +kernel
theorem d_CA_printNumber_142 : decode y_CA_printNumber.2.1 142 = .ok (.istore 4, 2) := by decide +kernel
theorem d_CA_printNumber_36 : decode y_CA_printNumber.2.1 36 = .ok (.aload_n 0, 1) := by decide +kernel
theorem d_CA_printNumber_37 : decode y_CA_printNumber.2.1 37 = .ok (.getfield 86, 3) := by decide +kernel
theorem d_CA_printNumber_40 : decode y_CA_printNumber.2.1 40 = .ok (.ldc_w 271, 3) := by decide +kernel
theorem d_CA_printNumber_43 : decode y_CA_printNumber.2.1 43 = .ok (.invokevirtual 272, 3) := by decide +kernel
theorem d_CA_printNumber_46 : decode y_CA_printNumber.2.1 46 = .ok (.istore 4, 2) := by decide +kernel
theorem d_CA_printNumber_48 : decode y_CA_printNumber.2.1 48 = .ok (.aload_n 0, 1) := by decide +kernel
theorem d_CA_printNumber_49 : decode y_CA_printNumber.2.1 49 = .ok (.getfield 86, 3) := by decide +kernel
theorem d_CA_printNumber_52 : decode y_CA_printNumber.2.1 52 = .ok (.getfield 268, 3) := by decide +kernel
theorem d_CA_printNumber_55 : decode y_CA_printNumber.2.1 55 = .ok (.ifCond .ne 7, 3) := by decide +kernel
theorem d_CA_printNumber_58 : decode y_CA_printNumber.2.1 58 = .ok (.iconst 1, 1) := by decide +kernel
theorem d_CA_printNumber_59 : decode y_CA_printNumber.2.1 59 = .ok (.goto 4, 3) := by decide +kernel
theorem d_CA_printNumber_62 : decode y_CA_printNumber.2.1 62 = .ok (.iconst 0, 1) := by decide +kernel
theorem d_CA_printNumber_63 : decode y_CA_printNumber.2.1 63 = .ok (.istore 5, 2) := by decide +kernel
theorem d_CA_printNumber_65 : decode y_CA_printNumber.2.1 65 = .ok (.iconst 0, 1) := by decide +kernel
theorem d_CA_printNumber_66 : decode y_CA_printNumber.2.1 66 = .ok (.istore 6, 2) := by decide +kernel
theorem d_CA_printNumber_68 : decode y_CA_printNumber.2.1 68 = .ok (.iload 6, 2) := by decide +kernel
theorem d_CA_printNumber_70 : decode y_CA_printNumber.2.1 70 = .ok (.bipush 9, 2) := by decide +kernel
theorem d_CA_printNumber_72 : decode y_CA_printNumber.2.1 72 = .ok (.if_icmp .ge 56, 3) := by decide +kernel
theorem d_CA_printNumber_75 : decode y_CA_printNumber.2.1 75 = .ok (.iload 6, 2) := by decide +kernel
theorem d_CA_printNumber_77 : decode y_CA_printNumber.2.1 77 = .ok (.ifCond .eq 13, 3) := by decide +kernel
theorem d_CA_printNumber_80 : decode y_CA_printNumber.2.1 80 = .ok (.iload 5, 2) := by decide +kernel
theorem d_CA_printNumber_82 : decode y_CA_printNumber.2.1 82 = .ok (.ifCond .eq 8, 3) := by decide +kernel
theorem d_CA_printNumber_85 : decode y_CA_printNumber.2.1 85 = .ok (.iload 4, 2) := by decide +kernel
theorem d_CA_printNumber_87 : decode y_CA_printNumber.2.1 87 = .ok (.ifCond .le 41, 3) := by decide +kernel
theorem d_CA_printNumber_128 : decode y_CA_printNumber.2.1 128 = .ok (.iinc 3 1, 3) := by decide +kernel
theorem d_CA_printNumber_131 : decode y_CA_printNumber.2.1 131 = .ok (.goto (-116), 3) := by decide +kernel
theorem d_CA_printNumber_90 : decode y_CA_printNumber.2.1 90 = .ok (.aload_n 0, 1) := by decide +kernel
theorem d_CA_printNumber_91 : decode y_CA_printNumber.2.1 91 = .ok (.getfield 97, 3) := by decide +kernel
theorem d_CA_printNumber_94 : decode y_CA_printNumber.2.1 94 = .ok (.aload_n 0, 1) := by decide +kernel
theorem d_CA_printNumber_95 : decode y_CA_printNumber.2.1 95 = .ok (.dup, 1) := by decide +kernel
theorem d_CA_printNumber_96 : decode y_CA_printNumber.2.1 96 = .ok (.getfield 100, 3) := by decide +kernel
theorem d_CA_printNumber_99 : decode y_CA_printNumber.2.1 99 = .ok (.dup_x1, 1) := by decide +kernel
theorem d_CA_printNumber_100 : decode y_CA_printNumber.2.1 100 = .ok (.iconst 1, 1) := by decide +kernel
theorem d_CA_printNumber_101 : decode y_CA_printNumber.2.1 101 = .ok (.iadd, 1) := by decide +kernel
theorem d_CA_printNumber_102 : decode y_CA_printNumber.2.1 102 = .ok (.putfield 100, 3) := by decide +kernel
theorem d_CA_printNumber_105 : decode y_CA_printNumber.2.1 105 = .ok (.bipush 48, 2) := by decide +kernel
theorem d_CA_printNumber_107 : decode y_CA_printNumber.2.1 107 = .ok (.iload 4, 2) := by decide +kernel
theorem d_CA_printNumber_109 : decode y_CA_printNumber.2.1 109 = .ok (.bipush 10, 2) := by decide +kernel
theorem d_CA_printNumber_111 : decode y_CA_printNumber.2.1 111 = .ok (.irem, 1) := by decide +kernel
theorem d_CA_printNumber_112 : decode y_CA_printNumber.2.1 112 = .ok (.iadd, 1) := by decide +kernel
theorem d_CA_printNumber_113 : decode y_CA_printNumber.2.1 113 = .ok (.i2c, 1) := by decide +kernel
theorem d_CA_printNumber_114 : decode y_CA_printNumber.2.1 114 = .ok (.castore, 1) := by decide +kernel
theorem d_CA_printNumber_115 : decode y_CA_printNumber.2.1 115 = .ok (.iload 4, 2) := by decide +kernel
theorem d_CA_printNumber_117 : decode y_CA_printNumber.2.1 117 = .ok (.bipush 10, 2) := by decide +kernel
theorem d_CA_printNumber_119 : decode y_CA_printNumber.2.1 119 = .ok (.idiv, 1) := by decide +kernel
theorem d_CA_printNumber_120 : decode y_CA_printNumber.2.1 120 = .ok (.istore 4, 2) := by decide +kernel
theorem d_CA_printNumber_122 : decode y_CA_printNumber.2.1 122 = .ok (.iinc 6 1, 3) := by decide +kernel
theorem d_CA_printNumber_125 : decode y_CA_printNumber.2.1 125 = .ok (.goto (-57), 3) := by decide +kernel
theorem d_CA_printNumber_144 : decode y_CA_printNumber.2.1 144 = .ok (.iload_n 3, 1) := by decide +kernel
theorem d_CA_printNumber_145 : decode y_CA_printNumber.2.1 145 = .ok (.iload 4, 2) := by decide +kernel
theorem d_CA_printNumber_147 : decode y_CA_printNumber.2.1 147 = .ok (.if_icmp .ge 42, 3) := by decide +kernel
theorem d_CA_printNumber_189 : decode y_CA_printNumber.2.1 189 = .ok (.return_, 1) := by decide +kernel
theorem d_CA_printNumber_150 : decode y_CA_printNumber.2.1 150 = .ok (.aload_n 0, 1) := by decide +kernel
theorem d_CA_printNumber_151 : decode y_CA_printNumber.2.1 151 = .ok (.getfield 97, 3) := by decide +kernel
theorem d_CA_printNumber_154 : decode y_CA_printNumber.2.1 154 = .ok (.iload_n 3, 1) := by decide +kernel
theorem d_CA_printNumber_155 : decode y_CA_printNumber.2.1 155 = .ok (.caload, 1) := by decide +kernel
theorem d_CA_printNumber_156 : decode y_CA_printNumber.2.1 156 = .ok (.istore 5, 2) := by decide +kernel
theorem d_CA_printNumber_158 : decode y_CA_printNumber.2.1 158 = .ok (.aload_n 0, 1) := by decide +kernel
theorem d_CA_printNumber_159 : decode y_CA_printNumber.2.1 159 = .ok (.getfield 97, 3) := by decide +kernel
theorem d_CA_printNumber_162 : decode y_CA_printNumber.2.1 162 = .ok (.iload_n 3, 1) := by decide +kernel
theorem d_CA_printNumber_163 : decode y_CA_printNumber.2.1 163 = .ok (.aload_n 0, 1) := by decide +kernel
theorem d_CA_printNumber_164 : decode y_CA_printNumber.2.1 164 = .ok (.getfield 97, 3) := by decide +kernel
theorem d_CA_printNumber_167 : decode y_CA_printNumber.2.1 167 = .ok (.iload 4, 2) := by decide +kernel
theorem d_CA_printNumber_169 : decode y_CA_printNumber.2.1 169 = .ok (.caload, 1) := by decide +kernel
theorem d_CA_printNumber_170 : decode y_CA_printNumber.2.1 170 = .ok (.castore, 1) := by decide +kernel
theorem d_CA_printNumber_171 : decode y_CA_printNumber.2.1 171 = .ok (.aload_n 0, 1) := by decide +kernel
theorem d_CA_printNumber_172 : decode y_CA_printNumber.2.1 172 = .ok (.getfield 97, 3) := by decide +kernel
theorem d_CA_printNumber_175 : decode y_CA_printNumber.2.1 175 = .ok (.iload 4, 2) := by decide +kernel
theorem d_CA_printNumber_177 : decode y_CA_printNumber.2.1 177 = .ok (.iload 5, 2) := by decide +kernel
theorem d_CA_printNumber_179 : decode y_CA_printNumber.2.1 179 = .ok (.castore, 1) := by decide +kernel
theorem d_CA_printNumber_180 : decode y_CA_printNumber.2.1 180 = .ok (.iinc 3 1, 3) := by decide +kernel
theorem d_CA_printNumber_183 : decode y_CA_printNumber.2.1 183 = .ok (.iinc 4 (-1), 3) := by decide +kernel
theorem d_CA_printNumber_186 : decode y_CA_printNumber.2.1 186 = .ok (.goto (-42), 3) := by decide +kernel
def h_CA_printNumber_15 (G : mG) (d : Nat) (a0 : Nat) (l2 : Int) (l3 : Int) (M : mM) (Q : mM → Prop) : Prop := mWm G y_CA_printNumber (d + 1) 15 [vr a0, vd, vi l2, vi l3, vd, vd, vd] [] M (fun r9 M9 => r9 = none ∧ Q M9)
def h_CA_printNumber_68 (G : mG) (d : Nat) (a0 : Nat) (l2 : Int) (l3 : Int) (l4 : Int) (l5 : Int) (l6 : Int) (M : mM) (Q : mM → Prop) : Prop := mWm G y_CA_printNumber (d + 1) 68 [vr a0, vd, vi l2, vi l3, vi l4, vi l5, vi l6] [] M (fun r9 M9 => r9 = none ∧ Q M9)
def h_CA_printNumber_144 (G : mG) (d : Nat) (a0 : Nat) (l3 : Int) (l4 : Int) (M : mM) (Q : mM → Prop) : Prop := mWm G y_CA_printNumber (d + 1) 144 [vr a0, vd, vd, vi l3, vi l4, vd, vd] [] M (fun r9 M9 => r9 = none ∧ Q M9)
theorem k_CA_printNumber {G : mG} {d : Nat} {a0 : Nat} {a1 : Nat} {M : mM} {Q : mM → Prop} (hO : mOk M)
    (h : mK M a0 = 1 ∧ mK M (mR M a0 15) = 10 ∧ Cv G y_Na_put1 d [vr (mR M a0 15), vr a1] M (fun M3 => mOk M3 ∧ (mK M3 a0 = 1 ∧ h_CA_printNumber_15 G d a0 (mI M3 a0 18) 0 M3 Q))) :
    Cv G y_CA_printNumber (d + 1) [vr a0, vr a1] M Q := by
  refine wm_open (y := y_CA_printNumber) rfl (Nat.le_of_ble_eq_true rfl) (L := [vr a0, vr a1, vd, vd, vd, vd, vd]) rfl ?_
  obtain ⟨h1, h⟩ := h
  obtain ⟨h2, h⟩ := h
  refine wm_aload_n d_CA_printNumber_0 rfl rfl ?_
  refine gf_CA_86 rfl d_CA_printNumber_1 h1 ?_
  refine wm_aload_n d_CA_printNumber_4 rfl rfl ?_
  refine cf_CA_266 rfl d_CA_printNumber_5 h2 (Nat.le_of_ble_eq_true rfl) (Cv.mono h (fun M3 h => ?_))
  obtain ⟨hOM3, h⟩ := h
  obtain ⟨h6, h⟩ := h
  refine wm_aload_n d_CA_printNumber_8 rfl rfl ?_
  refine gf_CA_100 rfl d_CA_printNumber_9 h6 ?_
  refine wm_istore_n d_CA_printNumber_12 rfl (by decide) (L' := [vr a0, vr a1, vi (mI M3 a0 18), vd, vd, vd, vd]) rfl ?_
  refine wm_iconst d_CA_printNumber_13 ?_
  refine wm_istore_n d_CA_printNumber_14 rfl (by decide) (L' := [vr a0, vr a1, vi (mI M3 a0 18), vi 0, vd, vd, vd]) rfl ?_
  refine wm_less (L' := [vr a0, vd, vi (mI M3 a0 18), vi 0, vd, vd, vd]) ⟨Or.inr rfl, Or.inl rfl, Or.inr rfl, Or.inr rfl, Or.inl rfl, Or.inl rfl, Or.inl rfl, trivial⟩ ?_
  exact h
theorem k_CA_printNumber_15 {G : mG} {d : Nat} {a0 : Nat} {l2 : Int} {l3 : Int} {M : mM} {Q : mM → Prop} (hO : mOk M) (hi_l2 : i32 l2) (hi_l3 : i32 l3)
    (h : (¬ (480 ≤ l3) → (¬ (l3 = 0) → (mK M a0 = 1 ∧ mK M (mR M a0 15) = 10))) ∧ (((480 ≤ l3) ∨ ((¬ (l3 = 0)) ∧ (mI M (mR M a0 15) 1 ≤ 0))) → (mK M a0 = 1 ∧ h_CA_printNumber_144 G d a0 l2 ((mI M a0 18) - 1) M Q)) ∧ (¬ ((480 ≤ l3) ∨ ((¬ (l3 = 0)) ∧ (mI M (mR M a0 15) 1 ≤ 0))) → (mK M a0 = 1 ∧ mK M (mR M a0 15) = 10 ∧ Ci G y_Na_divideSmall d [vr (mR M a0 15), vi 1000000000] M (fun x19 M18 => i32 x19 ∧ mOk M18 ∧ (mK M18 a0 = 1 ∧ mK M18 (mR M18 a0 15) = 10 ∧ ∀ v24 : Int, v24 = (if (mI M18 (mR M18 a0 15) 1 = 0) then 1 else 0) → h_CA_printNumber_68 G d a0 l2 l3 x19 v24 0 M18 Q))))) :
    h_CA_printNumber_15 G d a0 l2 l3 M Q := by
  unfold h_CA_printNumber_15
  refine wm_iload_n d_CA_printNumber_15 rfl rfl ?_
  refine wm_sipush d_CA_printNumber_16 (by decide) ?_
  obtain ⟨s12, h⟩ := h
  have hE0 : ((480 ≤ l3) ∨ ((¬ (l3 = 0)) ∧ (mI M (mR M a0 15) 1 ≤ 0))) → mWm G y_CA_printNumber (d + 1) 134 [vr a0, vd, vi l2, vi l3, vd, vd, vd] [] M (fun r9 M9 => r9 = none ∧ Q M9) := by
    intro q13
    have h := h.1 q13
    obtain ⟨h14, h⟩ := h
    refine wm_iload_n d_CA_printNumber_134 rfl rfl ?_
    refine wm_istore_n d_CA_printNumber_135 rfl (by decide) (L' := [vr a0, vd, vi l2, vi l2, vd, vd, vd]) rfl ?_
    refine wm_aload_n d_CA_printNumber_136 rfl rfl ?_
    refine gf_CA_100 rfl d_CA_printNumber_137 h14 ?_
    refine wm_iconst d_CA_printNumber_140 ?_
    refine wm_isub d_CA_printNumber_141 ?_
    refine wm_istore d_CA_printNumber_142 (by decide) (L' := [vr a0, vd, vi l2, vi l2, vi ((mI M a0 18) - 1), vd, vd]) rfl ?_
    refine wm_less (L' := [vr a0, vd, vd, vi l2, vi ((mI M a0 18) - 1), vd, vd]) ⟨Or.inr rfl, Or.inl rfl, Or.inl rfl, Or.inr rfl, Or.inr rfl, Or.inl rfl, Or.inl rfl, trivial⟩ ?_
    exact h
  have hE1 : ¬ ((480 ≤ l3) ∨ ((¬ (l3 = 0)) ∧ (mI M (mR M a0 15) 1 ≤ 0))) → mWm G y_CA_printNumber (d + 1) 36 [vr a0, vd, vi l2, vi l3, vd, vd, vd] [] M (fun r9 M9 => r9 = none ∧ Q M9) := by
    intro q15
    have h := h.2 q15
    obtain ⟨h16, h⟩ := h
    obtain ⟨h17, h⟩ := h
    refine wm_aload_n d_CA_printNumber_36 rfl rfl ?_
    refine gf_CA_86 rfl d_CA_printNumber_37 h16 ?_
    refine wm_ldcw (x := 1000000000) d_CA_printNumber_40 k7_101 (by decide) ?_
    refine cf_CA_272 rfl d_CA_printNumber_43 h17 (Nat.le_of_ble_eq_true rfl) (Ci.mono h (fun x19 M18 h => ?_))
    obtain ⟨h20, hOM18, h⟩ := h
    obtain ⟨h21, h⟩ := h
    obtain ⟨h22, h⟩ := h
    refine wm_istore d_CA_printNumber_46 (by decide) (L' := [vr a0, vd, vi l2, vi l3, vi x19, vd, vd]) rfl ?_
    refine wm_aload_n d_CA_printNumber_48 rfl rfl ?_
    refine gf_CA_86 rfl d_CA_printNumber_49 h21 ?_
    refine gf_CA_268 rfl d_CA_printNumber_52 h22 ?_
    have hJ : ∀ v24 : Int, v24 = (if (mI M18 (mR M18 a0 15) 1 = 0) then 1 else 0) → mWm G y_CA_printNumber (d + 1) 63 [vr a0, vd, vi l2, vi l3, vi x19, vd, vd] [vi v24] M18 (fun r9 M9 => r9 = none ∧ Q M9) := by
      intro v24 e26
      have h := h v24 e26
      have h27 : i32 v24 := by rw [e26]; (repeat' split) <;> first | exact ⟨by decide, by decide⟩ | exact ⟨by decide, by decide⟩
      have h28 : (v24 = 0 ∨ v24 = 1) := by rw [e26]; (repeat' split) <;> decide
      refine wm_istore d_CA_printNumber_63 (by decide) (L' := [vr a0, vd, vi l2, vi l3, vi x19, vi v24, vd]) rfl ?_
      refine wm_iconst d_CA_printNumber_65 ?_
      refine wm_istore d_CA_printNumber_66 (by decide) (L' := [vr a0, vd, vi l2, vi l3, vi x19, vi v24, vi 0]) rfl ?_
      exact h
    clear h
    refine wm_if_ne (tgt := 62) d_CA_printNumber_55 rfl (hOM18 _ _).1 (fun c23 => ?_) (fun c23 => ?_)
    · refine wm_iconst d_CA_printNumber_62 ?_
      exact hJ 0 (if_neg c23).symm
    · replace c23 := Classical.not_not.mp c23
      refine wm_iconst d_CA_printNumber_58 ?_
      refine wm_goto (tgt := 63) d_CA_printNumber_59 rfl ?_
      exact hJ 1 (if_pos c23).symm
  clear h
  have s30 := s12
  refine wm_icmp_ge (tgt := 134) d_CA_printNumber_19 rfl hi_l3 ⟨by decide, by decide⟩ (fun c11 => ?_) (fun c11 => ?_)
  · exact hE0 (Or.inl c11)
  · have s30 := s30 c11
    have s31 := s30
    refine wm_iload_n d_CA_printNumber_22 rfl rfl ?_
    refine wm_if_eq (tgt := 36) d_CA_printNumber_23 rfl hi_l3 (fun c10 => ?_) (fun c10 => ?_)
    · exact hE1 (fun z32 => Or.elim z32 c11 (fun z33 => z33.1 c10))
    · have s31 := s31 c10
      obtain ⟨h7, h8⟩ := s31
      refine wm_aload_n d_CA_printNumber_26 rfl rfl ?_
      refine gf_CA_86 rfl d_CA_printNumber_27 h7 ?_
      refine gf_CA_268 rfl d_CA_printNumber_30 h8 ?_
      refine wm_if_le (tgt := 134) d_CA_printNumber_33 rfl (hO _ _).1 (fun c9 => ?_) (fun c9 => ?_)
      · exact hE0 (Or.inr ⟨c10, c9⟩)
      · exact hE1 (fun z34 => Or.elim z34 c11 (fun z35 => c9 z35.2))
theorem k_CA_printNumber_68 {G : mG} {d : Nat} {a0 : Nat} {l2 : Int} {l3 : Int} {l4 : Int} {l5 : Int} {l6 : Int} {M : mM} {Q : mM → Prop} (hO : mOk M) (hi_l2 : i32 l2) (hi_l3 : i32 l3) (hi_l4 : i32 l4) (hi_l5 : i32 l5) (hi_l6 : i32 l6)
    (h : (((9 ≤ l6) ∨ ((¬ (l6 = 0)) ∧ ((¬ (l5 = 0)) ∧ (l4 ≤ 0)))) → (h_CA_printNumber_15 G d a0 l2 (l3 + 1) M Q)) ∧ (¬ ((9 ≤ l6) ∨ ((¬ (l6 = 0)) ∧ ((¬ (l5 = 0)) ∧ (l4 ≤ 0)))) → (mK M a0 = 1 ∧ i32 ((mI M a0 18) + 1) ∧ ∀ M46, M46 = mUI M a0 18 ((mI M a0 18) + 1) → mK M46 (mR M a0 17) = 32 ∧ ((0 : Int) ≤ mI M a0 18 ∧ mI M a0 18 < (mN M46 (mR M a0 17) : Int)) ∧ ((0 : Int) ≤ i2cI (48 + (Int.tmod l4 10)) ∧ i2cI (48 + (Int.tmod l4 10)) < 65536) ∧ ∀ M51, M51 = mUI M46 (mR M a0 17) (Int.toNat (mI M a0 18)) (i2cI (48 + (Int.tmod l4 10))) → h_CA_printNumber_68 G d a0 l2 l3 (Int.tdiv l4 10) l5 (l6 + 1) M51 Q))) :
    h_CA_printNumber_68 G d a0 l2 l3 l4 l5 l6 M Q := by
  unfold h_CA_printNumber_68
  refine wm_iload d_CA_printNumber_68 rfl ?_
  refine wm_bipush d_CA_printNumber_70 (by decide) ?_
  have hE0 : ((9 ≤ l6) ∨ ((¬ (l6 = 0)) ∧ ((¬ (l5 = 0)) ∧ (l4 ≤ 0)))) → mWm G y_CA_printNumber (d + 1) 128 [vr a0, vd, vi l2, vi l3, vi l4, vi l5, vi l6] [] M (fun r9 M9 => r9 = none ∧ Q M9) := by
    intro q42
    have h := h.1 q42
    refine wm_iinc d_CA_printNumber_128 (by decide) rfl (L' := [vr a0, vd, vi l2, vi (l3 + 1), vi l4, vi l5, vi l6]) rfl ?_
    refine wm_goto (tgt := 15) d_CA_printNumber_131 rfl ?_
    refine wm_less (L' := [vr a0, vd, vi l2, vi (l3 + 1), vd, vd, vd]) ⟨Or.inr rfl, Or.inl rfl, Or.inr rfl, Or.inr rfl, Or.inl rfl, Or.inl rfl, Or.inl rfl, trivial⟩ ?_
    exact h
  have hE1 : ¬ ((9 ≤ l6) ∨ ((¬ (l6 = 0)) ∧ ((¬ (l5 = 0)) ∧ (l4 ≤ 0)))) → mWm G y_CA_printNumber (d + 1) 90 [vr a0, vd, vi l2, vi l3, vi l4, vi l5, vi l6] [] M (fun r9 M9 => r9 = none ∧ Q M9) := by
    intro q43
    have h := h.2 q43
    obtain ⟨h44, h⟩ := h
    obtain ⟨h45, h⟩ := h
    obtain ⟨M46, e47⟩ : ∃ M46, M46 = mUI M a0 18 ((mI M a0 18) + 1) := ⟨_, rfl⟩
    replace h := h M46 e47
    obtain ⟨h48, h⟩ := h
    obtain ⟨h49, h⟩ := h
    obtain ⟨h50, h⟩ := h
    obtain ⟨M51, e52⟩ : ∃ M51, M51 = mUI M46 (mR M a0 17) (Int.toNat (mI M a0 18)) (i2cI (48 + (Int.tmod l4 10))) := ⟨_, rfl⟩
    replace h := h M51 e52
    refine wm_aload_n d_CA_printNumber_90 rfl rfl ?_
    refine gf_CA_97 rfl d_CA_printNumber_91 h44 ?_
    refine wm_aload_n d_CA_printNumber_94 rfl rfl ?_
    refine wm_dup d_CA_printNumber_95 rfl ?_
    refine gf_CA_100 rfl d_CA_printNumber_96 h44 ?_
    refine wm_dup_x1 d_CA_printNumber_99 rfl rfl ?_
    refine wm_iconst d_CA_printNumber_100 ?_
    refine wm_iadd d_CA_printNumber_101 ?_
    have hOM46 : mOk M46 := by rw [e47]; exact mOk_UI hO h45
    refine pf_CA_100 rfl d_CA_printNumber_102 h44 h45 e47 ?_
    refine wm_bipush d_CA_printNumber_105 (by decide) ?_
    refine wm_iload d_CA_printNumber_107 rfl ?_
    refine wm_bipush d_CA_printNumber_109 (by decide) ?_
    refine wm_irem d_CA_printNumber_111 hi_l4 ⟨by decide, by decide⟩ (by decide) ?_
    refine wm_iadd d_CA_printNumber_112 ?_
    refine wm_i2c d_CA_printNumber_113 ?_
    have hOM51 : mOk M51 := by rw [e52]; exact mOk_UI hOM46 ⟨by omega, by omega⟩
    refine wm_castE d_CA_printNumber_114 h48 h49 h50 e52 ?_
    refine wm_iload d_CA_printNumber_115 rfl ?_
    refine wm_bipush d_CA_printNumber_117 (by decide) ?_
    refine wm_idiv d_CA_printNumber_119 hi_l4 ⟨by decide, by decide⟩ (by decide) ?_
    refine wm_istore d_CA_printNumber_120 (by decide) (L' := [vr a0, vd, vi l2, vi l3, vi (Int.tdiv l4 10), vi l5, vi l6]) rfl ?_
    refine wm_iinc d_CA_printNumber_122 (by decide) rfl (L' := [vr a0, vd, vi l2, vi l3, vi (Int.tdiv l4 10), vi l5, vi (l6 + 1)]) rfl ?_
    refine wm_goto (tgt := 68) d_CA_printNumber_125 rfl ?_
    exact h
  clear h
  refine wm_icmp_ge (tgt := 128) d_CA_printNumber_72 rfl hi_l6 ⟨by decide, by decide⟩ (fun c40 => ?_) (fun c40 => ?_)
  · exact hE0 (Or.inl c40)
  · refine wm_iload d_CA_printNumber_75 rfl ?_
    refine wm_if_eq (tgt := 90) d_CA_printNumber_77 rfl hi_l6 (fun c39 => ?_) (fun c39 => ?_)
    · exact hE1 (fun z53 => Or.elim z53 c40 (fun z54 => z54.1 c39))
    · refine wm_iload d_CA_printNumber_80 rfl ?_
      refine wm_if_eq (tgt := 90) d_CA_printNumber_82 rfl hi_l5 (fun c38 => ?_) (fun c38 => ?_)
      · exact hE1 (fun z55 => Or.elim z55 c40 (fun z56 => (fun z57 => z57.1 c38) z56.2))
      · refine wm_iload d_CA_printNumber_85 rfl ?_
        refine wm_if_le (tgt := 128) d_CA_printNumber_87 rfl hi_l4 (fun c37 => ?_) (fun c37 => ?_)
        · exact hE0 (Or.inr ⟨c39, ⟨c38, c37⟩⟩)
        · exact hE1 (fun z58 => Or.elim z58 c40 (fun z59 => (fun z60 => c37 z60.2) z59.2))
theorem k_CA_printNumber_144 {G : mG} {d : Nat} {a0 : Nat} {l3 : Int} {l4 : Int} {M : mM} {Q : mM → Prop} (hO : mOk M) (hi_l3 : i32 l3) (hi_l4 : i32 l4)
    (h : ((l4 ≤ l3) → (Q M)) ∧ (¬ (l4 ≤ l3) → (mK M a0 = 1 ∧ mK M (mR M a0 17) = 32 ∧ ((0 : Int) ≤ l3 ∧ l3 < (mN M (mR M a0 17) : Int)) ∧ ((0 : Int) ≤ l4 ∧ l4 < (mN M (mR M a0 17) : Int)) ∧ ((0 : Int) ≤ l3 ∧ l3 < (mN M (mR M a0 17) : Int)) ∧ ((0 : Int) ≤ mI M (mR M a0 17) (Int.toNat l4) ∧ mI M (mR M a0 17) (Int.toNat l4) < 65536) ∧ ∀ M70, M70 = mUI M (mR M a0 17) (Int.toNat l3) (mI M (mR M a0 17) (Int.toNat l4)) → mK M70 (mR M70 a0 17) = 32 ∧ ((0 : Int) ≤ l4 ∧ l4 < (mN M70 (mR M70 a0 17) : Int)) ∧ ((0 : Int) ≤ mI M (mR M a0 17) (Int.toNat l3) ∧ mI M (mR M a0 17) (Int.toNat l3) < 65536) ∧ ∀ M75, M75 = mUI M70 (mR M70 a0 17) (Int.toNat l4) (mI M (mR M a0 17) (Int.toNat l3)) → h_CA_printNumber_144 G d a0 (l3 + 1) (l4 + (-1)) M75 Q))) :
    h_CA_printNumber_144 G d a0 l3 l4 M Q := by
  unfold h_CA_printNumber_144
  refine wm_iload_n d_CA_printNumber_144 rfl rfl ?_
  refine wm_iload d_CA_printNumber_145 rfl ?_
  refine wm_icmp_ge (tgt := 189) d_CA_printNumber_147 rfl hi_l3 hi_l4 (fun c63 => ?_) (fun c63 => ?_)
  · replace h := h.1 c63
    refine wm_return d_CA_printNumber_189 rfl ?_
    exact ⟨rfl, h⟩
  · replace h := h.2 c63
    obtain ⟨h64, h⟩ := h
    obtain ⟨h65, h⟩ := h
    obtain ⟨h66, h⟩ := h
    obtain ⟨h67, h⟩ := h
    obtain ⟨h68, h⟩ := h
    obtain ⟨h69, h⟩ := h
    obtain ⟨M70, e71⟩ : ∃ M70, M70 = mUI M (mR M a0 17) (Int.toNat l3) (mI M (mR M a0 17) (Int.toNat l4)) := ⟨_, rfl⟩
    replace h := h M70 e71
    obtain ⟨h72, h⟩ := h
    obtain ⟨h73, h⟩ := h
    obtain ⟨h74, h⟩ := h
    obtain ⟨M75, e76⟩ : ∃ M75, M75 = mUI M70 (mR M70 a0 17) (Int.toNat l4) (mI M (mR M a0 17) (Int.toNat l3)) := ⟨_, rfl⟩
    replace h := h M75 e76
    refine wm_aload_n d_CA_printNumber_150 rfl rfl ?_
    refine gf_CA_97 rfl d_CA_printNumber_151 h64 ?_
    refine wm_iload_n d_CA_printNumber_154 rfl rfl ?_
    refine wm_cald d_CA_printNumber_155 h65 h66 ?_
    refine wm_istore d_CA_printNumber_156 (by decide) (L' := [vr a0, vd, vd, vi l3, vi l4, vi (mI M (mR M a0 17) (Int.toNat l3)), vd]) rfl ?_
    refine wm_aload_n d_CA_printNumber_158 rfl rfl ?_
    refine gf_CA_97 rfl d_CA_printNumber_159 h64 ?_
    refine wm_iload_n d_CA_printNumber_162 rfl rfl ?_
    refine wm_aload_n d_CA_printNumber_163 rfl rfl ?_
    refine gf_CA_97 rfl d_CA_printNumber_164 h64 ?_
    refine wm_iload d_CA_printNumber_167 rfl ?_
    refine wm_cald d_CA_printNumber_169 h65 h67 ?_
    have hOM70 : mOk M70 := by rw [e71]; exact mOk_UI hO ⟨by omega, by omega⟩
    refine wm_castE d_CA_printNumber_170 h65 h68 h69 e71 ?_
    refine wm_aload_n d_CA_printNumber_171 rfl rfl ?_
    refine gf_CA_97 rfl d_CA_printNumber_172 (by rw [e71]; exact h64) ?_
    refine wm_iload d_CA_printNumber_175 rfl ?_
    refine wm_iload d_CA_printNumber_177 rfl ?_
    have hOM75 : mOk M75 := by rw [e76]; exact mOk_UI hOM70 ⟨by omega, by omega⟩
    refine wm_castE d_CA_printNumber_179 h72 h73 h74 e76 ?_
    refine wm_iinc d_CA_printNumber_180 (by decide) rfl (L' := [vr a0, vd, vd, vi (l3 + 1), vi l4, vi (mI M (mR M a0 17) (Int.toNat l3)), vd]) rfl ?_
    refine wm_iinc d_CA_printNumber_183 (by decide) rfl (L' := [vr a0, vd, vd, vi (l3 + 1), vi (l4 + (-1)), vi (mI M (mR M a0 17) (Int.toNat l3)), vd]) rfl ?_
    refine wm_goto (tgt := 144) d_CA_printNumber_186 rfl ?_
    refine wm_less (L' := [vr a0, vd, vd, vi (l3 + 1), vi (l4 + (-1)), vd, vd]) ⟨Or.inr rfl, Or.inl rfl, Or.inl rfl, Or.inr rfl, Or.inr rfl, Or.inl rfl, Or.inl rfl, trivial⟩ ?_
    exact h
theorem d_CA_character_0 : decode y_CA_character.2.1 0 = .ok (.iload_n 1, 1) := by decide +kernel
theorem d_CA_character_1 : decode y_CA_character.2.1 1 = .ok (.ifCond .lt 11, 3) := by decide +kernel
theorem d_CA_character_12 : decode y_CA_character.2.1 12 = .ok (.iconst (-1), 1) := by decide +kernel
theorem d_CA_character_13 : decode y_CA_character.2.1 13 = .ok (.goto 9, 3) := by decide +kernel
theorem d_CA_character_4 : decode y_CA_character.2.1 4 = .ok (.iload_n 1, 1) := by decide +kernel
theorem d_CA_character_5 : decode y_CA_character.2.1 5 = .ok (.aload_n 0, 1) := by decide +kernel
theorem d_CA_character_6 : decode y_CA_character.2.1 6 = .ok (.getfield 100, 3) := by decide +kernel
theorem d_CA_character_9 : decode y_CA_character.2.1 9 = .ok (.if_icmp .lt 7, 3) := by decide +kernel
theorem d_CA_character_16 : decode y_CA_character.2.1 16 = .ok (.aload_n 0, 1) := by decide +kernel
theorem d_CA_character_17 : decode y_CA_character.2.1 17 = .ok (.getfield 97, 3) := by decide +kernel
theorem d_CA_character_20 : decode y_CA_character.2.1 20 = .ok (.iload_n 1, 1) := by decide +kernel
theorem d_CA_character_21 : decode y_CA_character.2.1 21 = .ok (.caload, 1) := by decide +kernel
theorem d_CA_character_22 : decode y_CA_character.2.1 22 = .ok (.ireturn, 1) := by decide +kernel
theorem k_CA_character {G : mG} {d : Nat} {a0 : Nat} {l1 : Int} {M : mM} {Q : Int → mM → Prop} (hO : mOk M) (hi_l1 : i32 l1)
    (h : (¬ (l1 < 0) → (mK M a0 = 1 ∧ ((l1 < mI M a0 18) → (mK M (mR M a0 17) = 32 ∧ ((0 : Int) ≤ l1 ∧ l1 < (mN M (mR M a0 17) : Int)))))) ∧ ∀ v6 : Int, v6 = (if ((l1 < 0) ∨ (¬ (l1 < mI M a0 18))) then (-1) else mI M (mR M a0 17) (Int.toNat l1)) → Q v6 M) :
    Ci G y_CA_character d [vr a0, vi l1] M Q := by
  refine wm_open (y := y_CA_character) rfl (Nat.le_of_ble_eq_true rfl) (L := [vr a0, vi l1]) rfl ?_
  refine wm_iload_n d_CA_character_0 rfl rfl ?_
  obtain ⟨s7, h⟩ := h
  have hJ : ∀ v6 : Int, v6 = (if ((l1 < 0) ∨ (¬ (l1 < mI M a0 18))) then (-1) else mI M (mR M a0 17) (Int.toNat l1)) → mWm G y_CA_character d 22 [vd, vd] [vi v6] M (fun r9 M9 => ∃ x9, r9 = some (vi x9) ∧ Q x9 M9) := by
    intro v6 e8
    have h := h v6 e8
    refine wm_ireturn d_CA_character_22 rfl rfl ?_
    exact ⟨_, rfl, h⟩
  clear h
  have s9 := s7
  refine wm_if_lt (tgt := 12) d_CA_character_1 rfl hi_l1 (fun c1 => ?_) (fun c1 => ?_)
  · refine wm_iconst d_CA_character_12 ?_
    refine wm_goto (tgt := 22) d_CA_character_13 rfl ?_
    refine wm_less (L' := [vd, vd]) ⟨Or.inl rfl, Or.inl rfl, trivial⟩ ?_
    exact hJ (-1) (if_pos (Or.inl c1)).symm
  · have s9 := s9 c1
    obtain ⟨h2, s10⟩ := s9
    refine wm_iload_n d_CA_character_4 rfl rfl ?_
    refine wm_aload_n d_CA_character_5 rfl rfl ?_
    refine gf_CA_100 rfl d_CA_character_6 h2 ?_
    refine wm_icmp_lt (tgt := 16) d_CA_character_9 rfl hi_l1 (hO _ _).1 (fun c3 => ?_) (fun c3 => ?_)
    · have s10 := s10 c3
      obtain ⟨h4, h5⟩ := s10
      refine wm_aload_n d_CA_character_16 rfl rfl ?_
      refine gf_CA_97 rfl d_CA_character_17 h2 ?_
      refine wm_iload_n d_CA_character_20 rfl rfl ?_
      refine wm_cald d_CA_character_21 h4 h5 ?_
      refine wm_less (L' := [vd, vd]) ⟨Or.inl rfl, Or.inl rfl, trivial⟩ ?_
      exact hJ (mI M (mR M a0 17) (Int.toNat l1)) (if_neg (fun z11 => Or.elim z11 c1 (fun z12 => z12 c3))).symm
    · refine wm_iconst d_CA_character_12 ?_
      refine wm_goto (tgt := 22) d_CA_character_13 rfl ?_
      refine wm_less (L' := [vd, vd]) ⟨Or.inl rfl, Or.inl rfl, trivial⟩ ?_
      exact hJ (-1) (if_pos (Or.inr c3)).symm
theorem d_CA_compare_0 : decode y_CA_compare.2.1 0 = .ok (.aload_n 0, 1) := by decide +kernel
theorem d_CA_compare_1 : decode y_CA_compare.2.1 1 = .ok (.iload_n 1, 1) := by decide +kernel
theorem d_CA_compare_2 : decode y_CA_compare.2.1 2 = .ok (.iload_n 2, 1) := by decide +kernel
theorem d_CA_compare_3 : decode y_CA_compare.2.1 3 = .ok (.invokevirtual 237, 3) := by decide +kernel
theorem d_CA_compare_6 : decode y_CA_compare.2.1 6 = .ok (.astore 5, 2) := by decide +kernel
theorem d_CA_compare_8 : decode y_CA_compare.2.1 8 = .ok (.aload_n 0, 1) := by decide +kernel
theorem d_CA_compare_9 : decode y_CA_compare.2.1 9 = .ok (.iload_n 3, 1) := by decide +kernel
theorem d_CA_compare_10 : decode y_CA_compare.2.1 10 = .ok (.iload 4, 2) := by decide +kernel
theorem d_CA_compare_12 : decode y_CA_compare.2.1 12 = .ok (.invokevirtual 237, 3) := by decide +kernel
theorem d_CA_compare_15 : decode y_CA_compare.2.1 15 = .ok (.astore 6, 2) := by decide +kernel
theorem d_CA_compare_17 : decode y_CA_compare.2.1 17 = .ok (.aload 5, 2) := by decide +kernel
theorem d_CA_compare_19 : decode y_CA_compare.2.1 19 = .ok (.ifnull 8, 3) := by decide +kernel
theorem d_CA_compare_27 : decode y_CA_compare.2.1 27 = .ok (.bipush (-2), 2) := by decide +kernel
theorem d_CA_compare_29 : decode y_CA_compare.2.1 29 = .ok (.goto 17, 3) := by decide +kernel
theorem d_CA_compare_22 : decode y_CA_compare.2.1 22 = .ok (.aload 6, 2) := by decide +kernel
theorem d_CA_compare_24 : decode y_CA_compare.2.1 24 = .ok (.ifnonnull 8, 3) := by decide +kernel
theorem d_CA_compare_32 : decode y_CA_compare.2.1 32 = .ok (.aload_n 0, 1) := by decide +kernel
theorem d_CA_compare_33 : decode y_CA_compare.2.1 33 = .ok (.getfield 63, 3) := by decide +kernel
theorem d_CA_compare_36 : decode y_CA_compare.2.1 36 = .ok (.getfield 216, 3) := by decide +kernel
theorem d_CA_compare_39 : decode y_CA_compare.2.1 39 = .ok (.aload 5, 2) := by decide +kernel
theorem d_CA_compare_41 : decode y_CA_compare.2.1 41 = .ok (.aload 6, 2) := by decide +kernel
theorem d_CA_compare_46 : decode y_CA_compare.2.1 46 = .ok (.ireturn, 1) := by decide +kernel
theorem d_CA_compare_43 : decode y_CA_compare.2.1 43 = .ok (.invokevirtual 276, 3) := by decide +kernel
theorem k_CA_compare {G : mG} {d : Nat} {a0 : Nat} {l1 : Int} {l2 : Int} {l3 : Int} {l4 : Int} {M : mM} {Q : Int → mM → Prop} (hO : mOk M) (hi_l1 : i32 l1) (hi_l2 : i32 l2) (hi_l3 : i32 l3) (hi_l4 : i32 l4)
    (h : mK M a0 = 1 ∧ Cr G y_CA_fractionOf d [vr a0, vi l1, vi l2] M (fun x3 M2 => mOk M2 ∧ (mK M2 a0 = 1 ∧ Cr G y_CA_fractionOf d [vr a0, vi l3, vi l4] M2 (fun x7 M6 => mOk M6 ∧ ((((x3 = 0) ∨ (x7 = 0)) → (Q (-2) M6)) ∧ (¬ ((x3 = 0) ∨ (x7 = 0)) → (mK M6 a0 = 1 ∧ mK M6 (mR M6 a0 10) = 8 ∧ mK M6 (mR M6 (mR M6 a0 10) 0) = 9 ∧ Ci G y_Sc_order d [vr (mR M6 (mR M6 a0 10) 0), vr x3, vr x7] M6 (fun x22 M21 => i32 x22 ∧ mOk M21 ∧ (Q x22 M21))))))))) :
    Ci G y_CA_compare (d + 1) [vr a0, vi l1, vi l2, vi l3, vi l4] M Q := by
  refine wm_open (y := y_CA_compare) rfl (Nat.le_of_ble_eq_true rfl) (L := [vr a0, vi l1, vi l2, vi l3, vi l4, vd, vd]) rfl ?_
  obtain ⟨h1, h⟩ := h
  refine wm_aload_n d_CA_compare_0 rfl rfl ?_
  refine wm_iload_n d_CA_compare_1 rfl rfl ?_
  refine wm_iload_n d_CA_compare_2 rfl rfl ?_
  refine cf_CA_237 rfl d_CA_compare_3 h1 (Nat.le_of_ble_eq_true rfl) (Cr.mono h (fun x3 M2 h => ?_))
  obtain ⟨hOM2, h⟩ := h
  obtain ⟨h5, h⟩ := h
  refine wm_astore d_CA_compare_6 (by decide) (L' := [vr a0, vi l1, vi l2, vi l3, vi l4, vr x3, vd]) rfl ?_
  refine wm_aload_n d_CA_compare_8 rfl rfl ?_
  refine wm_iload_n d_CA_compare_9 rfl rfl ?_
  refine wm_iload d_CA_compare_10 rfl ?_
  refine cf_CA_237 rfl d_CA_compare_12 h5 (Nat.le_of_ble_eq_true rfl) (Cr.mono h (fun x7 M6 h => ?_))
  obtain ⟨hOM6, h⟩ := h
  refine wm_astore d_CA_compare_15 (by decide) (L' := [vr a0, vi l1, vi l2, vi l3, vi l4, vr x3, vr x7]) rfl ?_
  refine wm_aload d_CA_compare_17 rfl ?_
  have hE0 : ((x3 = 0) ∨ (x7 = 0)) → mWm G y_CA_compare (d + 1) 27 [vr a0, vi l1, vi l2, vi l3, vi l4, vr x3, vr x7] [] M6 (fun r9 M9 => ∃ x9, r9 = some (vi x9) ∧ Q x9 M9) := by
    intro q16
    have h := h.1 q16
    refine wm_bipush d_CA_compare_27 (by decide) ?_
    refine wm_goto (tgt := 46) d_CA_compare_29 rfl ?_
    refine wm_ireturn d_CA_compare_46 rfl rfl ?_
    exact ⟨_, rfl, h⟩
  have hE1 : ¬ ((x3 = 0) ∨ (x7 = 0)) → mWm G y_CA_compare (d + 1) 32 [vr a0, vi l1, vi l2, vi l3, vi l4, vr x3, vr x7] [] M6 (fun r9 M9 => ∃ x9, r9 = some (vi x9) ∧ Q x9 M9) := by
    intro q17
    have h := h.2 q17
    obtain ⟨h18, h⟩ := h
    obtain ⟨h19, h⟩ := h
    obtain ⟨h20, h⟩ := h
    refine wm_aload_n d_CA_compare_32 rfl rfl ?_
    refine gf_CA_63 rfl d_CA_compare_33 h18 ?_
    refine gf_CA_216 rfl d_CA_compare_36 h19 ?_
    refine wm_aload d_CA_compare_39 rfl ?_
    refine wm_aload d_CA_compare_41 rfl ?_
    refine cf_CA_276 rfl d_CA_compare_43 h20 (Nat.le_of_ble_eq_true rfl) (Ci.mono h (fun x22 M21 h => ?_))
    obtain ⟨h23, hOM21, h⟩ := h
    refine wm_ireturn d_CA_compare_46 rfl rfl ?_
    exact ⟨_, rfl, h⟩
  clear h
  refine wm_ifnull (tgt := 27) d_CA_compare_19 rfl (fun c14 => ?_) (fun c14 => ?_)
  · exact hE0 (Or.inl c14)
  · refine wm_aload d_CA_compare_22 rfl ?_
    refine wm_ifnonnull (tgt := 32) d_CA_compare_24 rfl (fun c13 => ?_) (fun c13 => ?_)
    · exact hE1 (fun z24 => Or.elim z24 c14 c13)
    · replace c13 := Classical.not_not.mp c13
      exact hE0 (Or.inr c13)
theorem d_CA_billionths_0 : decode y_CA_billionths.2.1 0 = .ok (.aload_n 0, 1) := by decide +kernel
theorem d_CA_billionths_1 : decode y_CA_billionths.2.1 1 = .ok (.iload_n 1, 1) := by decide +kernel
theorem d_CA_billionths_2 : decode y_CA_billionths.2.1 2 = .ok (.iload_n 2, 1) := by decide +kernel
theorem d_CA_billionths_3 : decode y_CA_billionths.2.1 3 = .ok (.invokevirtual 237, 3) := by decide +kernel
theorem d_CA_billionths_6 : decode y_CA_billionths.2.1 6 = .ok (.astore_n 3, 1) := by decide +kernel
theorem d_CA_billionths_7 : decode y_CA_billionths.2.1 7 = .ok (.aload_n 3, 1) := by decide +kernel
theorem d_CA_billionths_8 : decode y_CA_billionths.2.1 8 = .ok (.ifnonnull 5, 3) := by decide +kernel
theorem d_CA_billionths_11 : decode y_CA_billionths.2.1 11 = .ok (.iconst (-1), 1) := by decide +kernel
theorem d_CA_billionths_12 : decode y_CA_billionths.2.1 12 = .ok (.ireturn, 1) := by decide +kernel
theorem d_CA_billionths_13 : decode y_CA_billionths.2.1 13 = .ok (.aload_n 0, 1) := by decide +kernel
theorem d_CA_billionths_14 : decode y_CA_billionths.2.1 14 = .ok (.getfield 93, 3) := by decide +kernel
theorem d_CA_billionths_17 : decode y_CA_billionths.2.1 17 = .ok (.aload_n 3, 1) := by decide +kernel
theorem d_CA_billionths_18 : decode y_CA_billionths.2.1 18 = .ok (.invokevirtual 241, 3) := by decide +kernel
theorem d_CA_billionths_21 : decode y_CA_billionths.2.1 21 = .ok (.aload_n 0, 1) := by decide +kernel
theorem d_CA_billionths_22 : decode y_CA_billionths.2.1 22 = .ok (.getfield 86, 3) := by decide +kernel
theorem d_CA_billionths_25 : decode y_CA_billionths.2.1 25 = .ok (.aload_n 0, 1) := by decide +kernel
theorem d_CA_billionths_26 : decode y_CA_billionths.2.1 26 = .ok (.getfield 93, 3) := by decide +kernel
theorem d_CA_billionths_29 : decode y_CA_billionths.2.1 29 = .ok (.getfield 248, 3) := by decide +kernel
theorem d_CA_billionths_32 : decode y_CA_billionths.2.1 32 = .ok (.invokevirtual 266, 3) := by decide +kernel
theorem d_CA_billionths_35 : decode y_CA_billionths.2.1 35 = .ok (.aload_n 0, 1) := by decide +kernel
theorem d_CA_billionths_36 : decode y_CA_billionths.2.1 36 = .ok (.getfield 86, 3) := by decide +kernel
theorem d_CA_billionths_39 : decode y_CA_billionths.2.1 39 = .ok (.ldc_w 271, 3) := by decide +kernel
theorem d_CA_billionths_42 : decode y_CA_billionths.2.1 42 = .ok (.invokevirtual 280, 3) := by decide +kernel
theorem d_CA_billionths_45 : decode y_CA_billionths.2.1 45 = .ok (.aload_n 0, 1) := by decide +kernel
theorem d_CA_billionths_46 : decode y_CA_billionths.2.1 46 = .ok (.getfield 63, 3) := by decide +kernel
theorem d_CA_billionths_49 : decode y_CA_billionths.2.1 49 = .ok (.getfield 216, 3) := by decide +kernel
theorem d_CA_billionths_52 : decode y_CA_billionths.2.1 52 = .ok (.aload_n 0, 1) := by decide +kernel
theorem d_CA_billionths_53 : decode y_CA_billionths.2.1 53 = .ok (.getfield 86, 3) := by decide +kernel
theorem d_CA_billionths_56 : decode y_CA_billionths.2.1 56 = .ok (.aload_n 0, 1) := by decide +kernel
theorem d_CA_billionths_57 : decode y_CA_billionths.2.1 57 = .ok (.getfield 93, 3) := by decide +kernel
theorem d_CA_billionths_60 : decode y_CA_billionths.2.1 60 = .ok (.getfield 255, 3) := by decide +kernel
theorem d_CA_billionths_63 : decode y_CA_billionths.2.1 63 = .ok (.invokevirtual 283, 3) := by decide +kernel
theorem d_CA_billionths_66 : decode y_CA_billionths.2.1 66 = .ok (.ireturn, 1) := by decide +kernel
theorem k_CA_billionths {G : mG} {d : Nat} {a0 : Nat} {l1 : Int} {l2 : Int} {M : mM} {Q : Int → mM → Prop} (hO : mOk M) (hi_l1 : i32 l1) (hi_l2 : i32 l2)
    (h : mK M a0 = 1 ∧ Cr G y_CA_fractionOf d [vr a0, vi l1, vi l2] M (fun x3 M2 => mOk M2 ∧ (((x3 = 0) → (Q (-1) M2)) ∧ (¬ (x3 = 0) → (mK M2 a0 = 1 ∧ mK M2 (mR M2 a0 16) = 11 ∧ Cv G y_Fr_put1 d [vr (mR M2 a0 16), vr x3] M2 (fun M9 => mOk M9 ∧ (mK M9 a0 = 1 ∧ mK M9 (mR M9 a0 16) = 11 ∧ mK M9 (mR M9 a0 15) = 10 ∧ Cv G y_Na_put1 d [vr (mR M9 a0 15), vr (mR M9 (mR M9 a0 16) 0)] M9 (fun M15 => mOk M15 ∧ (mK M15 a0 = 1 ∧ mK M15 (mR M15 a0 15) = 10 ∧ Cv G y_Na_multiply d [vr (mR M15 a0 15), vi 1000000000] M15 (fun M20 => mOk M20 ∧ (mK M20 a0 = 1 ∧ mK M20 (mR M20 a0 10) = 8 ∧ mK M20 (mR M20 a0 16) = 11 ∧ mK M20 (mR M20 (mR M20 a0 10) 0) = 9 ∧ Ci G y_Sc_wholePart d [vr (mR M20 (mR M20 a0 10) 0), vr (mR M20 a0 15), vr (mR M20 (mR M20 a0 16) 1)] M20 (fun x28 M27 => i32 x28 ∧ mOk M27 ∧ (Q x28 M27))))))))))))) :
    Ci G y_CA_billionths (d + 1) [vr a0, vi l1, vi l2] M Q := by
  refine wm_open (y := y_CA_billionths) rfl (Nat.le_of_ble_eq_true rfl) (L := [vr a0, vi l1, vi l2, vd]) rfl ?_
  obtain ⟨h1, h⟩ := h
  refine wm_aload_n d_CA_billionths_0 rfl rfl ?_
  refine wm_iload_n d_CA_billionths_1 rfl rfl ?_
  refine wm_iload_n d_CA_billionths_2 rfl rfl ?_
  refine cf_CA_237 rfl d_CA_billionths_3 h1 (Nat.le_of_ble_eq_true rfl) (Cr.mono h (fun x3 M2 h => ?_))
  obtain ⟨hOM2, h⟩ := h
  refine wm_astore_n d_CA_billionths_6 rfl (by decide) (L' := [vr a0, vi l1, vi l2, vr x3]) rfl ?_
  refine wm_aload_n d_CA_billionths_7 rfl rfl ?_
  refine wm_ifnonnull (tgt := 13) d_CA_billionths_8 rfl (fun c6 => ?_) (fun c6 => ?_)
  · replace h := h.2 c6
    obtain ⟨h7, h⟩ := h
    obtain ⟨h8, h⟩ := h
    refine wm_aload_n d_CA_billionths_13 rfl rfl ?_
    refine gf_CA_93 rfl d_CA_billionths_14 h7 ?_
    refine wm_aload_n d_CA_billionths_17 rfl rfl ?_
    refine cf_CA_241 rfl d_CA_billionths_18 h8 (Nat.le_of_ble_eq_true rfl) (Cv.mono h (fun M9 h => ?_))
    obtain ⟨hOM9, h⟩ := h
    obtain ⟨h12, h⟩ := h
    obtain ⟨h13, h⟩ := h
    obtain ⟨h14, h⟩ := h
    refine wm_aload_n d_CA_billionths_21 rfl rfl ?_
    refine gf_CA_86 rfl d_CA_billionths_22 h12 ?_
    refine wm_aload_n d_CA_billionths_25 rfl rfl ?_
    refine gf_CA_93 rfl d_CA_billionths_26 h12 ?_
    refine gf_CA_248 rfl d_CA_billionths_29 h13 ?_
    refine cf_CA_266 rfl d_CA_billionths_32 h14 (Nat.le_of_ble_eq_true rfl) (Cv.mono h (fun M15 h => ?_))
    obtain ⟨hOM15, h⟩ := h
    obtain ⟨h18, h⟩ := h
    obtain ⟨h19, h⟩ := h
    refine wm_aload_n d_CA_billionths_35 rfl rfl ?_
    refine gf_CA_86 rfl d_CA_billionths_36 h18 ?_
    refine wm_ldcw (x := 1000000000) d_CA_billionths_39 k7_101 (by decide) ?_
    refine cf_CA_280 rfl d_CA_billionths_42 h19 (Nat.le_of_ble_eq_true rfl) (Cv.mono h (fun M20 h => ?_))
    obtain ⟨hOM20, h⟩ := h
    obtain ⟨h23, h⟩ := h
    obtain ⟨h24, h⟩ := h
    obtain ⟨h25, h⟩ := h
    obtain ⟨h26, h⟩ := h
    refine wm_aload_n d_CA_billionths_45 rfl rfl ?_
    refine gf_CA_63 rfl d_CA_billionths_46 h23 ?_
    refine gf_CA_216 rfl d_CA_billionths_49 h24 ?_
    refine wm_aload_n d_CA_billionths_52 rfl rfl ?_
    refine gf_CA_86 rfl d_CA_billionths_53 h23 ?_
    refine wm_aload_n d_CA_billionths_56 rfl rfl ?_
    refine gf_CA_93 rfl d_CA_billionths_57 h23 ?_
    refine gf_CA_255 rfl d_CA_billionths_60 h25 ?_
    refine cf_CA_283 rfl d_CA_billionths_63 h26 (Nat.le_of_ble_eq_true rfl) (Ci.mono h (fun x28 M27 h => ?_))
    obtain ⟨h29, hOM27, h⟩ := h
    refine wm_ireturn d_CA_billionths_66 rfl rfl ?_
    exact ⟨_, rfl, h⟩
  · replace c6 := Classical.not_not.mp c6
    replace h := h.1 c6
    refine wm_iconst d_CA_billionths_11 ?_
    refine wm_ireturn d_CA_billionths_12 rfl rfl ?_
    exact ⟨_, rfl, h⟩
theorem d_CA_choice_0 : decode y_CA_choice.2.1 0 = .ok (.aload_n 0, 1) := by decide +kernel
theorem d_CA_choice_1 : decode y_CA_choice.2.1 1 = .ok (.getfield 70, 3) := by decide +kernel
theorem d_CA_choice_4 : decode y_CA_choice.2.1 4 = .ok (.getfield 137, 3) := by decide +kernel
theorem d_CA_choice_7 : decode y_CA_choice.2.1 7 = .ok (.ifCond .eq 26, 3) := by decide +kernel
theorem d_CA_choice_33 : decode y_CA_choice.2.1 33 = .ok (.iconst (-1), 1) := by decide +kernel
theorem d_CA_choice_10 : decode y_CA_choice.2.1 10 = .ok (.aload_n 0, 1) := by decide +kernel
theorem d_CA_choice_11 : decode y_CA_choice.2.1 11 = .ok (.getfield 54, 3) := by decide +kernel
theorem d_CA_choice_14 : decode y_CA_choice.2.1 14 = .ok (.iload_n 1, 1) := by decide +kernel
theorem d_CA_choice_34 : decode y_CA_choice.2.1 34 = .ok (.ireturn, 1) := by decide +kernel
theorem d_CA_choice_15 : decode y_CA_choice.2.1 15 = .ok (.invokevirtual 163, 3) := by decide +kernel
theorem d_CA_choice_18 : decode y_CA_choice.2.1 18 = .ok (.ifCond .eq 15, 3) := by decide +kernel
theorem d_CA_choice_21 : decode y_CA_choice.2.1 21 = .ok (.aload_n 0, 1) := by decide +kernel
theorem d_CA_choice_22 : decode y_CA_choice.2.1 22 = .ok (.getfield 63, 3) := by decide +kernel
theorem d_CA_choice_25 : decode y_CA_choice.2.1 25 = .ok (.getfield 229, 3) := by decide +kernel
theorem d_CA_choice_28 : decode y_CA_choice.2.1 28 = .ok (.iload_n 1, 1) := by decide +kernel
theorem d_CA_choice_29 : decode y_CA_choice.2.1 29 = .ok (.iaload, 1) := by decide +kernel
theorem d_CA_choice_30 : decode y_CA_choice.2.1 30 = .ok (.goto 4, 3) := by decide +kernel
theorem k_CA_choice {G : mG} {d : Nat} {a0 : Nat} {l1 : Int} {M : mM} {Q : Int → mM → Prop} (hO : mOk M) (hi_l1 : i32 l1)
    (h : mK M a0 = 1 ∧ mK M (mR M a0 11) = 13 ∧ ((mI M (mR M a0 11) 1 = 0) → (Q (-1) M)) ∧ (¬ (mI M (mR M a0 11) 1 = 0) → (mK M (mR M a0 9) = 7 ∧ Ci G y_Ga_hasState d [vr (mR M a0 9), vi l1] M (fun x8 M7 => i32 x8 ∧ mOk M7 ∧ ((¬ (x8 = 0) → (mK M7 a0 = 1 ∧ mK M7 (mR M7 a0 10) = 8 ∧ mK M7 (mR M7 (mR M7 a0 10) 2) = 30 ∧ ((0 : Int) ≤ l1 ∧ l1 < (mN M7 (mR M7 (mR M7 a0 10) 2) : Int)))) ∧ ∀ v15 : Int, v15 = (if (x8 = 0) then (-1) else mI M7 (mR M7 (mR M7 a0 10) 2) (Int.toNat l1)) → Q v15 M7))))) :
    Ci G y_CA_choice (d + 1) [vr a0, vi l1] M Q := by
  refine wm_open (y := y_CA_choice) rfl (Nat.le_of_ble_eq_true rfl) (L := [vr a0, vi l1]) rfl ?_
  obtain ⟨h1, h⟩ := h
  obtain ⟨h2, h⟩ := h
  refine wm_aload_n d_CA_choice_0 rfl rfl ?_
  refine gf_CA_70 rfl d_CA_choice_1 h1 ?_
  refine gf_CA_137 rfl d_CA_choice_4 h2 ?_
  refine wm_if_eq (tgt := 33) d_CA_choice_7 rfl (hO _ _).1 (fun c5 => ?_) (fun c5 => ?_)
  · replace h := h.1 c5
    refine wm_iconst d_CA_choice_33 ?_
    refine wm_ireturn d_CA_choice_34 rfl rfl ?_
    exact ⟨_, rfl, h⟩
  · replace h := h.2 c5
    obtain ⟨h6, h⟩ := h
    refine wm_aload_n d_CA_choice_10 rfl rfl ?_
    refine gf_CA_54 rfl d_CA_choice_11 h1 ?_
    refine wm_iload_n d_CA_choice_14 rfl rfl ?_
    refine cf_CA_163 rfl d_CA_choice_15 h6 (Nat.le_of_ble_eq_true rfl) (Ci.mono h (fun x8 M7 h => ?_))
    obtain ⟨h9, hOM7, h⟩ := h
    obtain ⟨s16, h⟩ := h
    have hJ : ∀ v15 : Int, v15 = (if (x8 = 0) then (-1) else mI M7 (mR M7 (mR M7 a0 10) 2) (Int.toNat l1)) → mWm G y_CA_choice (d + 1) 34 [vd, vd] [vi v15] M7 (fun r9 M9 => ∃ x9, r9 = some (vi x9) ∧ Q x9 M9) := by
      intro v15 e17
      have h := h v15 e17
      refine wm_ireturn d_CA_choice_34 rfl rfl ?_
      exact ⟨_, rfl, h⟩
    clear h
    have s18 := s16
    refine wm_if_eq (tgt := 33) d_CA_choice_18 rfl h9 (fun c10 => ?_) (fun c10 => ?_)
    · refine wm_iconst d_CA_choice_33 ?_
      refine wm_less (L' := [vd, vd]) ⟨Or.inl rfl, Or.inl rfl, trivial⟩ ?_
      exact hJ (-1) (if_pos c10).symm
    · have s18 := s18 c10
      obtain ⟨h11, h12, h13, h14⟩ := s18
      refine wm_aload_n d_CA_choice_21 rfl rfl ?_
      refine gf_CA_63 rfl d_CA_choice_22 h11 ?_
      refine gf_CA_229 rfl d_CA_choice_25 h12 ?_
      refine wm_iload_n d_CA_choice_28 rfl rfl ?_
      refine wm_iald d_CA_choice_29 h13 h14 ?_
      refine wm_goto (tgt := 34) d_CA_choice_30 rfl ?_
      refine wm_less (L' := [vd, vd]) ⟨Or.inl rfl, Or.inl rfl, trivial⟩ ?_
      exact hJ (mI M7 (mR M7 (mR M7 a0 10) 2) (Int.toNat l1)) (if_neg c10).symm
theorem d_CA_rank_0 : decode y_CA_rank.2.1 0 = .ok (.aload_n 0, 1) := by decide +kernel
theorem d_CA_rank_1 : decode y_CA_rank.2.1 1 = .ok (.getfield 70, 3) := by decide +kernel
theorem d_CA_rank_4 : decode y_CA_rank.2.1 4 = .ok (.getfield 137, 3) := by decide +kernel
theorem d_CA_rank_7 : decode y_CA_rank.2.1 7 = .ok (.ifCond .eq 26, 3) := by decide +kernel
theorem d_CA_rank_33 : decode y_CA_rank.2.1 33 = .ok (.iconst (-1), 1) := by decide +kernel
theorem d_CA_rank_10 : decode y_CA_rank.2.1 10 = .ok (.aload_n 0, 1) := by decide +kernel
theorem d_CA_rank_11 : decode y_CA_rank.2.1 11 = .ok (.getfield 54, 3) := by decide +kernel
theorem d_CA_rank_14 : decode y_CA_rank.2.1 14 = .ok (.iload_n 1, 1) := by decide +kernel
theorem d_CA_rank_34 : decode y_CA_rank.2.1 34 = .ok (.ireturn, 1) := by decide +kernel
theorem d_CA_rank_15 : decode y_CA_rank.2.1 15 = .ok (.invokevirtual 163, 3) := by decide +kernel
theorem d_CA_rank_18 : decode y_CA_rank.2.1 18 = .ok (.ifCond .eq 15, 3) := by decide +kernel
theorem d_CA_rank_21 : decode y_CA_rank.2.1 21 = .ok (.aload_n 0, 1) := by decide +kernel
theorem d_CA_rank_22 : decode y_CA_rank.2.1 22 = .ok (.getfield 63, 3) := by decide +kernel
theorem d_CA_rank_25 : decode y_CA_rank.2.1 25 = .ok (.getfield 287, 3) := by decide +kernel
theorem d_CA_rank_28 : decode y_CA_rank.2.1 28 = .ok (.iload_n 1, 1) := by decide +kernel
theorem d_CA_rank_29 : decode y_CA_rank.2.1 29 = .ok (.iaload, 1) := by decide +kernel
theorem d_CA_rank_30 : decode y_CA_rank.2.1 30 = .ok (.goto 4, 3) := by decide +kernel
theorem k_CA_rank {G : mG} {d : Nat} {a0 : Nat} {l1 : Int} {M : mM} {Q : Int → mM → Prop} (hO : mOk M) (hi_l1 : i32 l1)
    (h : mK M a0 = 1 ∧ mK M (mR M a0 11) = 13 ∧ ((mI M (mR M a0 11) 1 = 0) → (Q (-1) M)) ∧ (¬ (mI M (mR M a0 11) 1 = 0) → (mK M (mR M a0 9) = 7 ∧ Ci G y_Ga_hasState d [vr (mR M a0 9), vi l1] M (fun x8 M7 => i32 x8 ∧ mOk M7 ∧ ((¬ (x8 = 0) → (mK M7 a0 = 1 ∧ mK M7 (mR M7 a0 10) = 8 ∧ mK M7 (mR M7 (mR M7 a0 10) 1) = 30 ∧ ((0 : Int) ≤ l1 ∧ l1 < (mN M7 (mR M7 (mR M7 a0 10) 1) : Int)))) ∧ ∀ v15 : Int, v15 = (if (x8 = 0) then (-1) else mI M7 (mR M7 (mR M7 a0 10) 1) (Int.toNat l1)) → Q v15 M7))))) :
    Ci G y_CA_rank (d + 1) [vr a0, vi l1] M Q := by
  refine wm_open (y := y_CA_rank) rfl (Nat.le_of_ble_eq_true rfl) (L := [vr a0, vi l1]) rfl ?_
  obtain ⟨h1, h⟩ := h
  obtain ⟨h2, h⟩ := h
  refine wm_aload_n d_CA_rank_0 rfl rfl ?_
  refine gf_CA_70 rfl d_CA_rank_1 h1 ?_
  refine gf_CA_137 rfl d_CA_rank_4 h2 ?_
  refine wm_if_eq (tgt := 33) d_CA_rank_7 rfl (hO _ _).1 (fun c5 => ?_) (fun c5 => ?_)
  · replace h := h.1 c5
    refine wm_iconst d_CA_rank_33 ?_
    refine wm_ireturn d_CA_rank_34 rfl rfl ?_
    exact ⟨_, rfl, h⟩
  · replace h := h.2 c5
    obtain ⟨h6, h⟩ := h
    refine wm_aload_n d_CA_rank_10 rfl rfl ?_
    refine gf_CA_54 rfl d_CA_rank_11 h1 ?_
    refine wm_iload_n d_CA_rank_14 rfl rfl ?_
    refine cf_CA_163 rfl d_CA_rank_15 h6 (Nat.le_of_ble_eq_true rfl) (Ci.mono h (fun x8 M7 h => ?_))
    obtain ⟨h9, hOM7, h⟩ := h
    obtain ⟨s16, h⟩ := h
    have hJ : ∀ v15 : Int, v15 = (if (x8 = 0) then (-1) else mI M7 (mR M7 (mR M7 a0 10) 1) (Int.toNat l1)) → mWm G y_CA_rank (d + 1) 34 [vd, vd] [vi v15] M7 (fun r9 M9 => ∃ x9, r9 = some (vi x9) ∧ Q x9 M9) := by
      intro v15 e17
      have h := h v15 e17
      refine wm_ireturn d_CA_rank_34 rfl rfl ?_
      exact ⟨_, rfl, h⟩
    clear h
    have s18 := s16
    refine wm_if_eq (tgt := 33) d_CA_rank_18 rfl h9 (fun c10 => ?_) (fun c10 => ?_)
    · refine wm_iconst d_CA_rank_33 ?_
      refine wm_less (L' := [vd, vd]) ⟨Or.inl rfl, Or.inl rfl, trivial⟩ ?_
      exact hJ (-1) (if_pos c10).symm
    · have s18 := s18 c10
      obtain ⟨h11, h12, h13, h14⟩ := s18
      refine wm_aload_n d_CA_rank_21 rfl rfl ?_
      refine gf_CA_63 rfl d_CA_rank_22 h11 ?_
      refine gf_CA_287 rfl d_CA_rank_25 h12 ?_
      refine wm_iload_n d_CA_rank_28 rfl rfl ?_
      refine wm_iald d_CA_rank_29 h13 h14 ?_
      refine wm_goto (tgt := 34) d_CA_rank_30 rfl ?_
      refine wm_less (L' := [vd, vd]) ⟨Or.inl rfl, Or.inl rfl, trivial⟩ ?_
      exact hJ (mI M7 (mR M7 (mR M7 a0 10) 1) (Int.toNat l1)) (if_neg c10).symm
theorem d_CA_next_0 : decode y_CA_next.2.1 0 = .ok (.aload_n 0, 1) := by decide +kernel
theorem d_CA_next_1 : decode y_CA_next.2.1 1 = .ok (.getfield 54, 3) := by decide +kernel
theorem d_CA_next_4 : decode y_CA_next.2.1 4 = .ok (.iload_n 1, 1) := by decide +kernel
theorem d_CA_next_5 : decode y_CA_next.2.1 5 = .ok (.invokevirtual 163, 3) := by decide +kernel
theorem d_CA_next_8 : decode y_CA_next.2.1 8 = .ok (.ifCond .eq 7, 3) := by decide +kernel
theorem d_CA_next_11 : decode y_CA_next.2.1 11 = .ok (.iload_n 2, 1) := by decide +kernel
theorem d_CA_next_12 : decode y_CA_next.2.1 12 = .ok (.ifCond .ge 5, 3) := by decide +kernel
theorem d_CA_next_17 : decode y_CA_next.2.1 17 = .ok (.aload_n 0, 1) := by decide +kernel
theorem d_CA_next_18 : decode y_CA_next.2.1 18 = .ok (.getfield 54, 3) := by decide +kernel
theorem d_CA_next_21 : decode y_CA_next.2.1 21 = .ok (.iload_n 1, 1) := by decide +kernel
theorem d_CA_next_22 : decode y_CA_next.2.1 22 = .ok (.aload_n 0, 1) := by decide +kernel
theorem d_CA_next_23 : decode y_CA_next.2.1 23 = .ok (.getfield 54, 3) := by decide +kernel
theorem d_CA_next_26 : decode y_CA_next.2.1 26 = .ok (.getfield 226, 3) := by decide +kernel
theorem d_CA_next_29 : decode y_CA_next.2.1 29 = .ok (.iload_n 1, 1) := by decide +kernel
theorem d_CA_next_30 : decode y_CA_next.2.1 30 = .ok (.iaload, 1) := by decide +kernel
theorem d_CA_next_15 : decode y_CA_next.2.1 15 = .ok (.iconst (-1), 1) := by decide +kernel
theorem d_CA_next_16 : decode y_CA_next.2.1 16 = .ok (.ireturn, 1) := by decide +kernel
theorem d_CA_next_31 : decode y_CA_next.2.1 31 = .ok (.invokevirtual 180, 3) := by decide +kernel
theorem d_CA_next_34 : decode y_CA_next.2.1 34 = .ok (.istore_n 3, 1) := by decide +kernel
theorem d_CA_next_35 : decode y_CA_next.2.1 35 = .ok (.iload_n 3, 1) := by decide +kernel
theorem d_CA_next_36 : decode y_CA_next.2.1 36 = .ok (.iconst (-1), 1) := by decide +kernel
theorem d_CA_next_37 : decode y_CA_next.2.1 37 = .ok (.if_icmp .ne 7, 3) := by decide +kernel
theorem d_CA_next_40 : decode y_CA_next.2.1 40 = .ok (.iload_n 1, 1) := by decide +kernel
theorem d_CA_next_41 : decode y_CA_next.2.1 41 = .ok (.goto 12, 3) := by decide +kernel
theorem d_CA_next_44 : decode y_CA_next.2.1 44 = .ok (.aload_n 0, 1) := by decide +kernel
theorem d_CA_next_45 : decode y_CA_next.2.1 45 = .ok (.getfield 54, 3) := by decide +kernel
theorem d_CA_next_48 : decode y_CA_next.2.1 48 = .ok (.iload_n 3, 1) := by decide +kernel
theorem d_CA_next_49 : decode y_CA_next.2.1 49 = .ok (.iload_n 2, 1) := by decide +kernel
theorem d_CA_next_53 : decode y_CA_next.2.1 53 = .ok (.ireturn, 1) := by decide +kernel
theorem d_CA_next_50 : decode y_CA_next.2.1 50 = .ok (.invokevirtual 290, 3) := by decide +kernel
theorem k_CA_next {G : mG} {d : Nat} {a0 : Nat} {l1 : Int} {l2 : Int} {M : mM} {Q : Int → mM → Prop} (hO : mOk M) (hi_l1 : i32 l1) (hi_l2 : i32 l2)
    (h : mK M a0 = 1 ∧ mK M (mR M a0 9) = 7 ∧ Ci G y_Ga_hasState d [vr (mR M a0 9), vi l1] M (fun x4 M3 => i32 x4 ∧ mOk M3 ∧ ((((x4 = 0) ∨ (¬ (0 ≤ l2))) → (Q (-1) M3)) ∧ (¬ ((x4 = 0) ∨ (¬ (0 ≤ l2))) → (mK M3 a0 = 1 ∧ mK M3 (mR M3 a0 9) = 7 ∧ mK M3 (mR M3 (mR M3 a0 9) 3) = 30 ∧ ((0 : Int) ≤ l1 ∧ l1 < (mN M3 (mR M3 (mR M3 a0 9) 3) : Int)) ∧ Ci G y_Ga_commandAt d [vr (mR M3 a0 9), vi l1, vi (mI M3 (mR M3 (mR M3 a0 9) 3) (Int.toNat l1))] M3 (fun x16 M15 => i32 x16 ∧ mOk M15 ∧ (((x16 = (-1)) → (Q l1 M15)) ∧ (¬ (x16 = (-1)) → (mK M15 a0 = 1 ∧ mK M15 (mR M15 a0 9) = 7 ∧ Ci G y_Ga_drawn d [vr (mR M15 a0 9), vi x16, vi l2] M15 (fun x25 M24 => i32 x25 ∧ mOk M24 ∧ (Q x25 M24))))))))))) :
    Ci G y_CA_next (d + 1) [vr a0, vi l1, vi l2] M Q := by
  refine wm_open (y := y_CA_next) rfl (Nat.le_of_ble_eq_true rfl) (L := [vr a0, vi l1, vi l2, vd]) rfl ?_
  obtain ⟨h1, h⟩ := h
  obtain ⟨h2, h⟩ := h
  refine wm_aload_n d_CA_next_0 rfl rfl ?_
  refine gf_CA_54 rfl d_CA_next_1 h1 ?_
  refine wm_iload_n d_CA_next_4 rfl rfl ?_
  refine cf_CA_163 rfl d_CA_next_5 h2 (Nat.le_of_ble_eq_true rfl) (Ci.mono h (fun x4 M3 h => ?_))
  obtain ⟨h5, hOM3, h⟩ := h
  have hE0 : ((x4 = 0) ∨ (¬ (0 ≤ l2))) → mWm G y_CA_next (d + 1) 15 [vr a0, vi l1, vi l2, vd] [] M3 (fun r9 M9 => ∃ x9, r9 = some (vi x9) ∧ Q x9 M9) := by
    intro q9
    have h := h.1 q9
    refine wm_iconst d_CA_next_15 ?_
    refine wm_ireturn d_CA_next_16 rfl rfl ?_
    exact ⟨_, rfl, h⟩
  have hE1 : ¬ ((x4 = 0) ∨ (¬ (0 ≤ l2))) → mWm G y_CA_next (d + 1) 17 [vr a0, vi l1, vi l2, vd] [] M3 (fun r9 M9 => ∃ x9, r9 = some (vi x9) ∧ Q x9 M9) := by
    intro q10
    have h := h.2 q10
    obtain ⟨h11, h⟩ := h
    obtain ⟨h12, h⟩ := h
    obtain ⟨h13, h⟩ := h
    obtain ⟨h14, h⟩ := h
    refine wm_aload_n d_CA_next_17 rfl rfl ?_
    refine gf_CA_54 rfl d_CA_next_18 h11 ?_
    refine wm_iload_n d_CA_next_21 rfl rfl ?_
    refine wm_aload_n d_CA_next_22 rfl rfl ?_
    refine gf_CA_54 rfl d_CA_next_23 h11 ?_
    refine gf_CA_226 rfl d_CA_next_26 h12 ?_
    refine wm_iload_n d_CA_next_29 rfl rfl ?_
    refine wm_iald d_CA_next_30 h13 h14 ?_
    refine cf_CA_180 rfl d_CA_next_31 h12 (Nat.le_of_ble_eq_true rfl) (Ci.mono h (fun x16 M15 h => ?_))
    obtain ⟨h17, hOM15, h⟩ := h
    refine wm_istore_n d_CA_next_34 rfl (by decide) (L' := [vr a0, vi l1, vi l2, vi x16]) rfl ?_
    refine wm_iload_n d_CA_next_35 rfl rfl ?_
    refine wm_iconst d_CA_next_36 ?_
    refine wm_icmp_ne (tgt := 44) d_CA_next_37 rfl h17 ⟨by decide, by decide⟩ (fun c21 => ?_) (fun c21 => ?_)
    · replace h := h.2 c21
      obtain ⟨h22, h⟩ := h
      obtain ⟨h23, h⟩ := h
      refine wm_aload_n d_CA_next_44 rfl rfl ?_
      refine gf_CA_54 rfl d_CA_next_45 h22 ?_
      refine wm_iload_n d_CA_next_48 rfl rfl ?_
      refine wm_iload_n d_CA_next_49 rfl rfl ?_
      refine cf_CA_290 rfl d_CA_next_50 h23 (Nat.le_of_ble_eq_true rfl) (Ci.mono h (fun x25 M24 h => ?_))
      obtain ⟨h26, hOM24, h⟩ := h
      refine wm_ireturn d_CA_next_53 rfl rfl ?_
      exact ⟨_, rfl, h⟩
    · replace c21 := Classical.not_not.mp c21
      replace h := h.1 c21
      refine wm_iload_n d_CA_next_40 rfl rfl ?_
      refine wm_goto (tgt := 53) d_CA_next_41 rfl ?_
      refine wm_ireturn d_CA_next_53 rfl rfl ?_
      exact ⟨_, rfl, h⟩
  clear h
  refine wm_if_eq (tgt := 15) d_CA_next_8 rfl h5 (fun c7 => ?_) (fun c7 => ?_)
  · exact hE0 (Or.inl c7)
  · refine wm_iload_n d_CA_next_11 rfl rfl ?_
    refine wm_if_ge (tgt := 17) d_CA_next_12 rfl hi_l2 (fun c6 => ?_) (fun c6 => ?_)
    · exact hE1 (fun z27 => Or.elim z27 c7 (fun z28 => z28 c6))
    · exact hE0 (Or.inr c6)
theorem d_CA_check_0 : decode y_CA_check.2.1 0 = .ok (.aload_n 0, 1) := by decide +kernel
theorem d_CA_check_1 : decode y_CA_check.2.1 1 = .ok (.getfield 70, 3) := by decide +kernel
theorem d_CA_check_4 : decode y_CA_check.2.1 4 = .ok (.getfield 137, 3) := by decide +kernel
theorem d_CA_check_7 : decode y_CA_check.2.1 7 = .ok (.ifCond .ne 5, 3) := by decide +kernel
theorem d_CA_check_10 : decode y_CA_check.2.1 10 = .ok (.iconst (-1), 1) := by decide +kernel
theorem d_CA_check_11 : decode y_CA_check.2.1 11 = .ok (.ireturn, 1) := by decide +kernel
theorem d_CA_check_12 : decode y_CA_check.2.1 12 = .ok (.aload_n 0, 1) := by decide +kernel
theorem d_CA_check_13 : decode y_CA_check.2.1 13 = .ok (.getfield 63, 3) := by decide +kernel
theorem d_CA_check_16 : decode y_CA_check.2.1 16 = .ok (.aload_n 0, 1) := by decide +kernel
theorem d_CA_check_17 : decode y_CA_check.2.1 17 = .ok (.getfield 70, 3) := by decide +kernel
theorem d_CA_check_20 : decode y_CA_check.2.1 20 = .ok (.invokevirtual 293, 3) := by decide +kernel
theorem d_CA_check_23 : decode y_CA_check.2.1 23 = .ok (.ifCond .eq 7, 3) := by decide +kernel
theorem d_CA_check_30 : decode y_CA_check.2.1 30 = .ok (.iconst 0, 1) := by decide +kernel
theorem d_CA_check_26 : decode y_CA_check.2.1 26 = .ok (.iconst 1, 1) := by decide +kernel
theorem d_CA_check_27 : decode y_CA_check.2.1 27 = .ok (.goto 4, 3) := by decide +kernel
theorem d_CA_check_31 : decode y_CA_check.2.1 31 = .ok (.ireturn, 1) := by decide +kernel
theorem k_CA_check {G : mG} {d : Nat} {a0 : Nat} {M : mM} {Q : Int → mM → Prop} (hO : mOk M)
    (h : mK M a0 = 1 ∧ mK M (mR M a0 11) = 13 ∧ ((mI M (mR M a0 11) 1 = 0) → (Q (-1) M)) ∧ (¬ (mI M (mR M a0 11) 1 = 0) → (mK M (mR M a0 10) = 8 ∧ Ci G y_So_holds d [vr (mR M a0 10), vr (mR M a0 11)] M (fun x7 M6 => i32 x7 ∧ mOk M6 ∧ (∀ v10 : Int, v10 = (if (x7 = 0) then 0 else 1) → Q v10 M6))))) :
    Ci G y_CA_check (d + 1) [vr a0] M Q := by
  refine wm_open (y := y_CA_check) rfl (Nat.le_of_ble_eq_true rfl) (L := [vr a0]) rfl ?_
  obtain ⟨h1, h⟩ := h
  obtain ⟨h2, h⟩ := h
  refine wm_aload_n d_CA_check_0 rfl rfl ?_
  refine gf_CA_70 rfl d_CA_check_1 h1 ?_
  refine gf_CA_137 rfl d_CA_check_4 h2 ?_
  refine wm_if_ne (tgt := 12) d_CA_check_7 rfl (hO _ _).1 (fun c4 => ?_) (fun c4 => ?_)
  · replace h := h.2 c4
    obtain ⟨h5, h⟩ := h
    refine wm_aload_n d_CA_check_12 rfl rfl ?_
    refine gf_CA_63 rfl d_CA_check_13 h1 ?_
    refine wm_aload_n d_CA_check_16 rfl rfl ?_
    refine gf_CA_70 rfl d_CA_check_17 h1 ?_
    refine cf_CA_293 rfl d_CA_check_20 h5 (Nat.le_of_ble_eq_true rfl) (Ci.mono h (fun x7 M6 h => ?_))
    obtain ⟨h8, hOM6, h⟩ := h
    have hJ : ∀ v10 : Int, v10 = (if (x7 = 0) then 0 else 1) → mWm G y_CA_check (d + 1) 31 [vd] [vi v10] M6 (fun r9 M9 => ∃ x9, r9 = some (vi x9) ∧ Q x9 M9) := by
      intro v10 e12
      have h := h v10 e12
      have h13 : i32 v10 := by rw [e12]; (repeat' split) <;> first | exact ⟨by decide, by decide⟩ | exact ⟨by decide, by decide⟩
      have h14 : (v10 = 0 ∨ v10 = 1) := by rw [e12]; (repeat' split) <;> decide
      refine wm_ireturn d_CA_check_31 rfl rfl ?_
      exact ⟨_, rfl, h⟩
    clear h
    refine wm_if_eq (tgt := 30) d_CA_check_23 rfl h8 (fun c9 => ?_) (fun c9 => ?_)
    · refine wm_iconst d_CA_check_30 ?_
      refine wm_less (L' := [vd]) ⟨Or.inl rfl, trivial⟩ ?_
      exact hJ 0 (if_pos c9).symm
    · refine wm_iconst d_CA_check_26 ?_
      refine wm_goto (tgt := 31) d_CA_check_27 rfl ?_
      refine wm_less (L' := [vd]) ⟨Or.inl rfl, trivial⟩ ?_
      exact hJ 1 (if_neg c9).symm
  · replace c4 := Classical.not_not.mp c4
    replace h := h.1 c4
    refine wm_iconst d_CA_check_10 ?_
    refine wm_ireturn d_CA_check_11 rfl rfl ?_
    exact ⟨_, rfl, h⟩
theorem d_MM_init_0 : decode y_MM_init.2.1 0 = .ok (.aload_n 0, 1) := by decide +kernel
theorem d_MM_init_1 : decode y_MM_init.2.1 1 = .ok (.invokespecial 1, 3) := by decide +kernel
theorem d_MM_init_4 : decode y_MM_init.2.1 4 = .ok (.aload_n 0, 1) := by decide +kernel
theorem d_MM_init_5 : decode y_MM_init.2.1 5 = .ok (.new 7, 3) := by decide +kernel
theorem d_MM_init_8 : decode y_MM_init.2.1 8 = .ok (.dup, 1) := by decide +kernel
theorem d_MM_init_9 : decode y_MM_init.2.1 9 = .ok (.invokespecial 9, 3) := by decide +kernel
theorem d_MM_init_12 : decode y_MM_init.2.1 12 = .ok (.putfield 10, 3) := by decide +kernel
theorem d_MM_init_15 : decode y_MM_init.2.1 15 = .ok (.aload_n 0, 1) := by decide +kernel
theorem d_MM_init_16 : decode y_MM_init.2.1 16 = .ok (.new 7, 3) := by decide +kernel
theorem d_MM_init_19 : decode y_MM_init.2.1 19 = .ok (.dup, 1) := by decide +kernel
theorem d_MM_init_20 : decode y_MM_init.2.1 20 = .ok (.invokespecial 9, 3) := by decide +kernel
theorem d_MM_init_23 : decode y_MM_init.2.1 23 = .ok (.putfield 16, 3) := by decide +kernel
theorem d_MM_init_26 : decode y_MM_init.2.1 26 = .ok (.aload_n 0, 1) := by decide +kernel
theorem d_MM_init_27 : decode y_MM_init.2.1 27 = .ok (.new 7, 3) := by decide +kernel
theorem d_MM_init_30 : decode y_MM_init.2.1 30 = .ok (.dup, 1) := by decide +kernel
theorem d_MM_init_31 : decode y_MM_init.2.1 31 = .ok (.invokespecial 9, 3) := by decide +kernel
theorem d_MM_init_34 : decode y_MM_init.2.1 34 = .ok (.putfield 19, 3) := by decide +kernel
theorem d_MM_init_37 : decode y_MM_init.2.1 37 = .ok (.aload_n 0, 1) := by decide +kernel
theorem d_MM_init_38 : decode y_MM_init.2.1 38 = .ok (.new 7, 3) := by decide +kernel
theorem d_MM_init_41 : decode y_MM_init.2.1 41 = .ok (.dup, 1) := by decide +kernel
theorem d_MM_init_42 : decode y_MM_init.2.1 42 = .ok (.invokespecial 9, 3) := by decide +kernel
theorem d_MM_init_45 : decode y_MM_init.2.1 45 = .ok (.putfield 22, 3) := by decide +kernel
theorem d_MM_init_48 : decode y_MM_init.2.1 48 = .ok (.aload_n 0, 1) := by decide +kernel
theorem d_MM_init_49 : decode y_MM_init.2.1 49 = .ok (.new 7, 3) := by decide +kernel
theorem d_MM_init_52 : decode y_MM_init.2.1 52 = .ok (.dup, 1) := by decide +kernel
theorem d_MM_init_53 : decode y_MM_init.2.1 53 = .ok (.invokespecial 9, 3) := by decide +kernel
theorem d_MM_init_56 : decode y_MM_init.2.1 56 = .ok (.putfield 25, 3) := by decide +kernel
theorem d_MM_init_59 : decode y_MM_init.2.1 59 = .ok (.aload_n 0, 1) := by decide +kernel
theorem d_MM_init_60 : decode y_MM_init.2.1 60 = .ok (.new 7, 3) := by decide +kernel
theorem d_MM_init_63 : decode y_MM_init.2.1 63 = .ok (.dup, 1) := by decide +kernel
theorem d_MM_init_64 : decode y_MM_init.2.1 64 = .ok (.invokespecial 9, 3) := by decide +kernel
theorem d_MM_init_67 : decode y_MM_init.2.1 67 = .ok (.putfield 28, 3) := by decide +kernel
theorem d_MM_init_70 : decode y_MM_init.2.1 70 = .ok (.aload_n 0, 1) := by decide +kernel
theorem d_MM_init_71 : decode y_MM_init.2.1 71 = .ok (.new 31, 3) := by decide +kernel
theorem d_MM_init_74 : decode y_MM_init.2.1 74 = .ok (.dup, 1) := by decide +kernel
theorem d_MM_init_75 : decode y_MM_init.2.1 75 = .ok (.invokespecial 33, 3) := by decide +kernel
theorem d_MM_init_78 : decode y_MM_init.2.1 78 = .ok (.putfield 34, 3) := by decide +kernel
theorem d_MM_init_81 : decode y_MM_init.2.1 81 = .ok (.aload_n 0, 1) := by decide +kernel
theorem d_MM_init_82 : decode y_MM_init.2.1 82 = .ok (.new 31, 3) := by decide +kernel
theorem d_MM_init_85 : decode y_MM_init.2.1 85 = .ok (.dup, 1) := by decide +kernel
theorem d_MM_init_86 : decode y_MM_init.2.1 86 = .ok (.invokespecial 33, 3) := by decide +kernel
theorem d_MM_init_89 : decode y_MM_init.2.1 89 = .ok (.putfield 38, 3) := by decide +kernel
theorem d_MM_init_92 : decode y_MM_init.2.1 92 = .ok (.aload_n 0, 1) := by decide +kernel
theorem d_MM_init_93 : decode y_MM_init.2.1 93 = .ok (.iconst (-1), 1) := by decide +kernel
theorem d_MM_init_94 : decode y_MM_init.2.1 94 = .ok (.putfield 41, 3) := by decide +kernel
theorem d_MM_init_97 : decode y_MM_init.2.1 97 = .ok (.aload_n 0, 1) := by decide +kernel
theorem d_MM_init_98 : decode y_MM_init.2.1 98 = .ok (.new 7, 3) := by decide +kernel
theorem d_MM_init_101 : decode y_MM_init.2.1 101 = .ok (.dup, 1) := by decide +kernel
theorem d_MM_init_102 : decode y_MM_init.2.1 102 = .ok (.invokespecial 9, 3) := by decide +kernel
theorem d_MM_init_105 : decode y_MM_init.2.1 105 = .ok (.putfield 45, 3) := by decide +kernel
theorem d_MM_init_108 : decode y_MM_init.2.1 108 = .ok (.aload_n 0, 1) := by decide +kernel
theorem d_MM_init_109 : decode y_MM_init.2.1 109 = .ok (.new 7, 3) := by decide +kernel
theorem d_MM_init_112 : decode y_MM_init.2.1 112 = .ok (.dup, 1) := by decide +kernel
theorem d_MM_init_113 : decode y_MM_init.2.1 113 = .ok (.invokespecial 9, 3) := by decide +kernel
theorem d_MM_init_116 : decode y_MM_init.2.1 116 = .ok (.putfield 48, 3) := by decide +kernel
theorem d_MM_init_119 : decode y_MM_init.2.1 119 = .ok (.aload_n 0, 1) := by decide +kernel
theorem d_MM_init_120 : decode y_MM_init.2.1 120 = .ok (.new 7, 3) := by decide +kernel
theorem d_MM_init_123 : decode y_MM_init.2.1 123 = .ok (.dup, 1) := by decide +kernel
theorem d_MM_init_124 : decode y_MM_init.2.1 124 = .ok (.invokespecial 9, 3) := by decide +kernel
theorem d_MM_init_127 : decode y_MM_init.2.1 127 = .ok (.putfield 51, 3) := by decide +kernel
theorem d_MM_init_130 : decode y_MM_init.2.1 130 = .ok (.aload_n 0, 1) := by decide +kernel
theorem d_MM_init_131 : decode y_MM_init.2.1 131 = .ok (.new 7, 3) := by decide +kernel
theorem d_MM_init_134 : decode y_MM_init.2.1 134 = .ok (.dup, 1) := by decide +kernel
theorem d_MM_init_135 : decode y_MM_init.2.1 135 = .ok (.invokespecial 9, 3) := by decide +kernel
theorem d_MM_init_138 : decode y_MM_init.2.1 138 = .ok (.putfield 54, 3) := by decide +kernel
theorem d_MM_init_141 : decode y_MM_init.2.1 141 = .ok (.aload_n 0, 1) := by decide +kernel
theorem d_MM_init_142 : decode y_MM_init.2.1 142 = .ok (.new 7, 3) := by decide +kernel
theorem d_MM_init_145 : decode y_MM_init.2.1 145 = .ok (.dup, 1) := by decide +kernel
theorem d_MM_init_146 : decode y_MM_init.2.1 146 = .ok (.invokespecial 9, 3) := by decide +kernel
theorem d_MM_init_149 : decode y_MM_init.2.1 149 = .ok (.putfield 57, 3) := by decide +kernel
theorem d_MM_init_152 : decode y_MM_init.2.1 152 = .ok (.aload_n 0, 1) := by decide +kernel
theorem d_MM_init_153 : decode y_MM_init.2.1 153 = .ok (.new 7, 3) := by decide +kernel
theorem d_MM_init_156 : decode y_MM_init.2.1 156 = .ok (.dup, 1) := by decide +kernel
theorem d_MM_init_157 : decode y_MM_init.2.1 157 = .ok (.invokespecial 9, 3) := by decide +kernel
theorem d_MM_init_160 : decode y_MM_init.2.1 160 = .ok (.putfield 60, 3) := by decide +kernel
theorem d_MM_init_163 : decode y_MM_init.2.1 163 = .ok (.aload_n 0, 1) := by decide +kernel
theorem d_MM_init_164 : decode y_MM_init.2.1 164 = .ok (.sipush 16400, 3) := by decide +kernel
theorem d_MM_init_167 : decode y_MM_init.2.1 167 = .ok (.newarray .long, 2) := by decide +kernel
theorem d_MM_init_169 : decode y_MM_init.2.1 169 = .ok (.putfield 63, 3) := by decide +kernel
theorem d_MM_init_172 : decode y_MM_init.2.1 172 = .ok (.aload_n 0, 1) := by decide +kernel
theorem d_MM_init_173 : decode y_MM_init.2.1 173 = .ok (.sipush 16400, 3) := by decide +kernel
theorem d_MM_init_176 : decode y_MM_init.2.1 176 = .ok (.newarray .long, 2) := by decide +kernel
theorem d_MM_init_178 : decode y_MM_init.2.1 178 = .ok (.putfield 67, 3) := by decide +kernel
theorem d_MM_init_181 : decode y_MM_init.2.1 181 = .ok (.aload_n 0, 1) := by decide +kernel
theorem d_MM_init_182 : decode y_MM_init.2.1 182 = .ok (.new 7, 3) := by decide +kernel
theorem d_MM_init_185 : decode y_MM_init.2.1 185 = .ok (.dup, 1) := by decide +kernel
theorem d_MM_init_186 : decode y_MM_init.2.1 186 = .ok (.invokespecial 9, 3) := by decide +kernel
theorem d_MM_init_189 : decode y_MM_init.2.1 189 = .ok (.putfield 70, 3) := by decide +kernel
theorem d_MM_init_192 : decode y_MM_init.2.1 192 = .ok (.aload_n 0, 1) := by decide +kernel
theorem d_MM_init_193 : decode y_MM_init.2.1 193 = .ok (.bipush 12, 2) := by decide +kernel
theorem d_MM_init_195 : decode y_MM_init.2.1 195 = .ok (.newarray .int, 2) := by decide +kernel
theorem d_MM_init_197 : decode y_MM_init.2.1 197 = .ok (.putfield 73, 3) := by decide +kernel
theorem d_MM_init_200 : decode y_MM_init.2.1 200 = .ok (.aload_n 0, 1) := by decide +kernel
theorem d_MM_init_201 : decode y_MM_init.2.1 201 = .ok (.bipush 60, 2) := by decide +kernel
theorem d_MM_init_203 : decode y_MM_init.2.1 203 = .ok (.newarray .boolean, 2) := by decide +kernel
theorem d_MM_init_205 : decode y_MM_init.2.1 205 = .ok (.putfield 77, 3) := by decide +kernel
theorem d_MM_init_208 : decode y_MM_init.2.1 208 = .ok (.aload_n 0, 1) := by decide +kernel
theorem d_MM_init_209 : decode y_MM_init.2.1 209 = .ok (.bipush 60, 2) := by decide +kernel
theorem d_MM_init_211 : decode y_MM_init.2.1 211 = .ok (.newarray .long, 2) := by decide +kernel
theorem d_MM_init_213 : decode y_MM_init.2.1 213 = .ok (.putfield 81, 3) := by decide +kernel
theorem d_MM_init_216 : decode y_MM_init.2.1 216 = .ok (.aload_n 0, 1) := by decide +kernel
theorem d_MM_init_217 : decode y_MM_init.2.1 217 = .ok (.bipush 60, 2) := by decide +kernel
theorem d_MM_init_219 : decode y_MM_init.2.1 219 = .ok (.newarray .long, 2) := by decide +kernel
theorem d_MM_init_221 : decode y_MM_init.2.1 221 = .ok (.putfield 84, 3) := by decide +kernel
theorem d_MM_init_224 : decode y_MM_init.2.1 224 = .ok (.aload_n 0, 1) := by decide +kernel
theorem d_MM_init_225 : decode y_MM_init.2.1 225 = .ok (.iconst (-1), 1) := by decide +kernel
theorem d_MM_init_226 : decode y_MM_init.2.1 226 = .ok (.putfield 87, 3) := by decide +kernel
theorem d_MM_init_229 : decode y_MM_init.2.1 229 = .ok (.aload_n 0, 1) := by decide +kernel
theorem d_MM_init_230 : decode y_MM_init.2.1 230 = .ok (.sipush 6144, 3) := by decide +kernel
theorem d_MM_init_233 : decode y_MM_init.2.1 233 = .ok (.newarray .int, 2) := by decide +kernel
theorem d_MM_init_235 : decode y_MM_init.2.1 235 = .ok (.putfield 90, 3) := by decide +kernel
theorem d_MM_init_238 : decode y_MM_init.2.1 238 = .ok (.aload_n 0, 1) := by decide +kernel
theorem d_MM_init_239 : decode y_MM_init.2.1 239 = .ok (.sipush 512, 3) := by decide +kernel
theorem d_MM_init_242 : decode y_MM_init.2.1 242 = .ok (.newarray .int, 2) := by decide +kernel
theorem d_MM_init_244 : decode y_MM_init.2.1 244 = .ok (.putfield 93, 3) := by decide +kernel
theorem d_MM_init_247 : decode y_MM_init.2.1 247 = .ok (.aload_n 0, 1) := by decide +kernel
theorem d_MM_init_248 : decode y_MM_init.2.1 248 = .ok (.sipush 512, 3) := by decide +kernel
theorem d_MM_init_251 : decode y_MM_init.2.1 251 = .ok (.newarray .int, 2) := by decide +kernel
theorem d_MM_init_253 : decode y_MM_init.2.1 253 = .ok (.putfield 96, 3) := by decide +kernel
theorem d_MM_init_256 : decode y_MM_init.2.1 256 = .ok (.aload_n 0, 1) := by decide +kernel
theorem d_MM_init_257 : decode y_MM_init.2.1 257 = .ok (.sipush 512, 3) := by decide +kernel
theorem d_MM_init_260 : decode y_MM_init.2.1 260 = .ok (.newarray .int, 2) := by decide +kernel
theorem d_MM_init_262 : decode y_MM_init.2.1 262 = .ok (.putfield 99, 3) := by decide +kernel
theorem d_MM_init_265 : decode y_MM_init.2.1 265 = .ok (.aload_n 0, 1) := by decide +kernel
theorem d_MM_init_266 : decode y_MM_init.2.1 266 = .ok (.new 7, 3) := by decide +kernel
theorem d_MM_init_269 : decode y_MM_init.2.1 269 = .ok (.dup, 1) := by decide +kernel
theorem d_MM_init_270 : decode y_MM_init.2.1 270 = .ok (.invokespecial 9, 3) := by decide +kernel
theorem d_MM_init_273 : decode y_MM_init.2.1 273 = .ok (.putfield 102, 3) := by decide +kernel
theorem d_MM_init_276 : decode y_MM_init.2.1 276 = .ok (.aload_n 0, 1) := by decide +kernel
theorem d_MM_init_277 : decode y_MM_init.2.1 277 = .ok (.new 7, 3) := by decide +kernel
theorem d_MM_init_280 : decode y_MM_init.2.1 280 = .ok (.dup, 1) := by decide +kernel
theorem d_MM_init_281 : decode y_MM_init.2.1 281 = .ok (.invokespecial 9, 3) := by decide +kernel
theorem d_MM_init_284 : decode y_MM_init.2.1 284 = .ok (.putfield 105, 3) := by decide +kernel
theorem d_MM_init_287 : decode y_MM_init.2.1 287 = .ok (.aload_n 0, 1) := by decide +kernel
theorem d_MM_init_288 : decode y_MM_init.2.1 288 = .ok (.new 7, 3) := by decide +kernel
theorem d_MM_init_291 : decode y_MM_init.2.1 291 = .ok (.dup, 1) := by decide +kernel
theorem d_MM_init_292 : decode y_MM_init.2.1 292 = .ok (.invokespecial 9, 3) := by decide +kernel
theorem d_MM_init_295 : decode y_MM_init.2.1 295 = .ok (.putfield 108, 3) := by decide +kernel
theorem d_MM_init_298 : decode y_MM_init.2.1 298 = .ok (.aload_n 0, 1) := by decide +kernel
theorem d_MM_init_299 : decode y_MM_init.2.1 299 = .ok (.new 7, 3) := by decide +kernel
theorem d_MM_init_302 : decode y_MM_init.2.1 302 = .ok (.dup, 1) := by decide +kernel
theorem d_MM_init_303 : decode y_MM_init.2.1 303 = .ok (.invokespecial 9, 3) := by decide +kernel
theorem d_MM_init_306 : decode y_MM_init.2.1 306 = .ok (.putfield 111, 3) := by decide +kernel
theorem d_MM_init_309 : decode y_MM_init.2.1 309 = .ok (.aload_n 0, 1) := by decide +kernel
theorem d_MM_init_310 : decode y_MM_init.2.1 310 = .ok (.new 114, 3) := by decide +kernel
theorem d_MM_init_313 : decode y_MM_init.2.1 313 = .ok (.dup, 1) := by decide +kernel
theorem d_MM_init_314 : decode y_MM_init.2.1 314 = .ok (.invokespecial 116, 3) := by decide +kernel
theorem d_MM_init_317 : decode y_MM_init.2.1 317 = .ok (.putfield 117, 3) := by decide +kernel
theorem d_MM_init_320 : decode y_MM_init.2.1 320 = .ok (.aload_n 0, 1) := by decide +kernel
theorem d_MM_init_321 : decode y_MM_init.2.1 321 = .ok (.sipush 4096, 3) := by decide +kernel
theorem d_MM_init_324 : decode y_MM_init.2.1 324 = .ok (.newarray .int, 2) := by decide +kernel
theorem d_MM_init_326 : decode y_MM_init.2.1 326 = .ok (.putfield 121, 3) := by decide +kernel
theorem d_MM_init_329 : decode y_MM_init.2.1 329 = .ok (.aload_n 0, 1) := by decide +kernel
theorem d_MM_init_330 : decode y_MM_init.2.1 330 = .ok (.sipush 4096, 3) := by decide +kernel
theorem d_MM_init_333 : decode y_MM_init.2.1 333 = .ok (.newarray .long, 2) := by decide +kernel
theorem d_MM_init_335 : decode y_MM_init.2.1 335 = .ok (.putfield 124, 3) := by decide +kernel
theorem d_MM_init_338 : decode y_MM_init.2.1 338 = .ok (.aload_n 0, 1) := by decide +kernel
theorem d_MM_init_339 : decode y_MM_init.2.1 339 = .ok (.sipush 4096, 3) := by decide +kernel
theorem d_MM_init_342 : decode y_MM_init.2.1 342 = .ok (.newarray .long, 2) := by decide +kernel
theorem d_MM_init_344 : decode y_MM_init.2.1 344 = .ok (.putfield 127, 3) := by decide +kernel
theorem d_MM_init_347 : decode y_MM_init.2.1 347 = .ok (.aload_n 0, 1) := by decide +kernel
theorem d_MM_init_348 : decode y_MM_init.2.1 348 = .ok (.bipush 12, 2) := by decide +kernel
theorem d_MM_init_350 : decode y_MM_init.2.1 350 = .ok (.newarray .int, 2) := by decide +kernel
theorem d_MM_init_352 : decode y_MM_init.2.1 352 = .ok (.putfield 130, 3) := by decide +kernel
theorem d_MM_init_355 : decode y_MM_init.2.1 355 = .ok (.aload_n 0, 1) := by decide +kernel
theorem d_MM_init_356 : decode y_MM_init.2.1 356 = .ok (.bipush 8, 2) := by decide +kernel
theorem d_MM_init_358 : decode y_MM_init.2.1 358 = .ok (.newarray .long, 2) := by decide +kernel
theorem d_MM_init_360 : decode y_MM_init.2.1 360 = .ok (.putfield 133, 3) := by decide +kernel
theorem d_MM_init_363 : decode y_MM_init.2.1 363 = .ok (.aload_n 0, 1) := by decide +kernel
theorem d_MM_init_364 : decode y_MM_init.2.1 364 = .ok (.bipush 8, 2) := by decide +kernel
theorem d_MM_init_366 : decode y_MM_init.2.1 366 = .ok (.newarray .long, 2) := by decide +kernel
theorem d_MM_init_368 : decode y_MM_init.2.1 368 = .ok (.putfield 136, 3) := by decide +kernel
theorem d_MM_init_371 : decode y_MM_init.2.1 371 = .ok (.aload_n 0, 1) := by decide +kernel
theorem d_MM_init_372 : decode y_MM_init.2.1 372 = .ok (.sipush 900, 3) := by decide +kernel
theorem d_MM_init_375 : decode y_MM_init.2.1 375 = .ok (.newarray .int, 2) := by decide +kernel
theorem d_MM_init_377 : decode y_MM_init.2.1 377 = .ok (.putfield 139, 3) := by decide +kernel
theorem d_MM_init_380 : decode y_MM_init.2.1 380 = .ok (.return_, 1) := by decide +kernel
theorem k_MM_init {G : mG} {d : Nat} {a0 : Nat} {M : mM} {Q : mM → Prop} (hO : mOk M)
    (h : 0 < a0 ∧ ∀ M2, M2 = mNew M 15 0 2 → Cv G y_MN_init d [vr (mZ M)] M2 (fun M4 => mOk M4 ∧ (mK M4 a0 = 14 ∧ ∀ M8, M8 = mUR M4 a0 1 (mZ M) → ∀ M10, M10 = mNew M8 15 0 2 → Cv G y_MN_init d [vr (mZ M8)] M10 (fun M12 => mOk M12 ∧ (mK M12 a0 = 14 ∧ ∀ M16, M16 = mUR M12 a0 2 (mZ M8) → ∀ M18, M18 = mNew M16 15 0 2 → Cv G y_MN_init d [vr (mZ M16)] M18 (fun M20 => mOk M20 ∧ (mK M20 a0 = 14 ∧ ∀ M24, M24 = mUR M20 a0 3 (mZ M16) → ∀ M26, M26 = mNew M24 15 0 2 → Cv G y_MN_init d [vr (mZ M24)] M26 (fun M28 => mOk M28 ∧ (mK M28 a0 = 14 ∧ ∀ M32, M32 = mUR M28 a0 4 (mZ M24) → ∀ M34, M34 = mNew M32 15 0 2 → Cv G y_MN_init d [vr (mZ M32)] M34 (fun M36 => mOk M36 ∧ (mK M36 a0 = 14 ∧ ∀ M40, M40 = mUR M36 a0 5 (mZ M32) → ∀ M42, M42 = mNew M40 15 0 2 → Cv G y_MN_init d [vr (mZ M40)] M42 (fun M44 => mOk M44 ∧ (mK M44 a0 = 14 ∧ ∀ M48, M48 = mUR M44 a0 6 (mZ M40) → ∀ M50, M50 = mNew M48 16 0 30 → Cv G y_MG_init d [vr (mZ M48)] M50 (fun M52 => mOk M52 ∧ (mK M52 a0 = 14 ∧ ∀ M56, M56 = mUR M52 a0 9 (mZ M48) → ∀ M58, M58 = mNew M56 16 0 30 → Cv G y_MG_init d [vr (mZ M56)] M58 (fun M60 => mOk M60 ∧ (mK M60 a0 = 14 ∧ ∀ M64, M64 = mUR M60 a0 10 (mZ M56) → ∀ M66, M66 = mUI M64 a0 12 (-1) → ∀ M68, M68 = mNew M66 15 0 2 → Cv G y_MN_init d [vr (mZ M66)] M68 (fun M70 => mOk M70 ∧ (mK M70 a0 = 14 ∧ ∀ M74, M74 = mUR M70 a0 13 (mZ M66) → ∀ M76, M76 = mNew M74 15 0 2 → Cv G y_MN_init d [vr (mZ M74)] M76 (fun M78 => mOk M78 ∧ (mK M78 a0 = 14 ∧ ∀ M82, M82 = mUR M78 a0 14 (mZ M74) → ∀ M84, M84 = mNew M82 15 0 2 → Cv G y_MN_init d [vr (mZ M82)] M84 (fun M86 => mOk M86 ∧ (mK M86 a0 = 14 ∧ ∀ M90, M90 = mUR M86 a0 15 (mZ M82) → ∀ M92, M92 = mNew M90 15 0 2 → Cv G y_MN_init d [vr (mZ M90)] M92 (fun M94 => mOk M94 ∧ (mK M94 a0 = 14 ∧ ∀ M98, M98 = mUR M94 a0 18 (mZ M90) → ∀ M100, M100 = mNew M98 15 0 2 → Cv G y_MN_init d [vr (mZ M98)] M100 (fun M102 => mOk M102 ∧ (mK M102 a0 = 14 ∧ ∀ M106, M106 = mUR M102 a0 19 (mZ M98) → ∀ M108, M108 = mNew M106 15 0 2 → Cv G y_MN_init d [vr (mZ M106)] M108 (fun M110 => mOk M110 ∧ (mK M110 a0 = 14 ∧ ∀ M114, M114 = mUR M110 a0 20 (mZ M106) → ∀ M116, M116 = mNew M114 33 16400 16400 → mK M116 a0 = 14 ∧ ∀ M119, M119 = mUR M116 a0 21 (mZ M114) → ∀ M121, M121 = mNew M119 33 16400 16400 → mK M121 a0 = 14 ∧ ∀ M124, M124 = mUR M121 a0 22 (mZ M119) → ∀ M126, M126 = mNew M124 15 0 2 → Cv G y_MN_init d [vr (mZ M124)] M126 (fun M128 => mOk M128 ∧ (mK M128 a0 = 14 ∧ ∀ M132, M132 = mUR M128 a0 24 (mZ M124) → ∀ M134, M134 = mNew M132 30 12 12 → mK M134 a0 = 14 ∧ ∀ M137, M137 = mUR M134 a0 25 (mZ M132) → ∀ M139, M139 = mNew M137 31 60 60 → mK M139 a0 = 14 ∧ ∀ M142, M142 = mUR M139 a0 26 (mZ M137) → ∀ M144, M144 = mNew M142 33 60 60 → mK M144 a0 = 14 ∧ ∀ M147, M147 = mUR M144 a0 27 (mZ M142) → ∀ M149, M149 = mNew M147 33 60 60 → mK M149 a0 = 14 ∧ ∀ M152, M152 = mUR M149 a0 28 (mZ M147) → ∀ M154, M154 = mUI M152 a0 30 (-1) → ∀ M156, M156 = mNew M154 30 6144 6144 → mK M156 a0 = 14 ∧ ∀ M159, M159 = mUR M156 a0 31 (mZ M154) → ∀ M161, M161 = mNew M159 30 512 512 → mK M161 a0 = 14 ∧ ∀ M164, M164 = mUR M161 a0 32 (mZ M159) → ∀ M166, M166 = mNew M164 30 512 512 → mK M166 a0 = 14 ∧ ∀ M169, M169 = mUR M166 a0 33 (mZ M164) → ∀ M171, M171 = mNew M169 30 512 512 → mK M171 a0 = 14 ∧ ∀ M174, M174 = mUR M171 a0 34 (mZ M169) → ∀ M176, M176 = mNew M174 15 0 2 → Cv G y_MN_init d [vr (mZ M174)] M176 (fun M178 => mOk M178 ∧ (mK M178 a0 = 14 ∧ ∀ M182, M182 = mUR M178 a0 35 (mZ M174) → ∀ M184, M184 = mNew M182 15 0 2 → Cv G y_MN_init d [vr (mZ M182)] M184 (fun M186 => mOk M186 ∧ (mK M186 a0 = 14 ∧ ∀ M190, M190 = mUR M186 a0 36 (mZ M182) → ∀ M192, M192 = mNew M190 15 0 2 → Cv G y_MN_init d [vr (mZ M190)] M192 (fun M194 => mOk M194 ∧ (mK M194 a0 = 14 ∧ ∀ M198, M198 = mUR M194 a0 37 (mZ M190) → ∀ M200, M200 = mNew M198 15 0 2 → Cv G y_MN_init d [vr (mZ M198)] M200 (fun M202 => mOk M202 ∧ (mK M202 a0 = 14 ∧ ∀ M206, M206 = mUR M202 a0 38 (mZ M198) → ∀ M208, M208 = mNew M206 17 0 32 → Cv G y_MS_init d [vr (mZ M206)] M208 (fun M210 => mOk M210 ∧ (mK M210 a0 = 14 ∧ ∀ M214, M214 = mUR M210 a0 39 (mZ M206) → ∀ M216, M216 = mNew M214 30 4096 4096 → mK M216 a0 = 14 ∧ ∀ M219, M219 = mUR M216 a0 41 (mZ M214) → ∀ M221, M221 = mNew M219 33 4096 4096 → mK M221 a0 = 14 ∧ ∀ M224, M224 = mUR M221 a0 42 (mZ M219) → ∀ M226, M226 = mNew M224 33 4096 4096 → mK M226 a0 = 14 ∧ ∀ M229, M229 = mUR M226 a0 43 (mZ M224) → ∀ M231, M231 = mNew M229 30 12 12 → mK M231 a0 = 14 ∧ ∀ M234, M234 = mUR M231 a0 44 (mZ M229) → ∀ M236, M236 = mNew M234 33 8 8 → mK M236 a0 = 14 ∧ ∀ M239, M239 = mUR M236 a0 45 (mZ M234) → ∀ M241, M241 = mNew M239 33 8 8 → mK M241 a0 = 14 ∧ ∀ M244, M244 = mUR M241 a0 46 (mZ M239) → ∀ M246, M246 = mNew M244 30 900 900 → mK M246 a0 = 14 ∧ ∀ M249, M249 = mUR M246 a0 47 (mZ M244) → Q M249))))))))))))))))))))))))))))))))))))))))) :
    Cv G y_MM_init (d + 1) [vr a0] M Q := by
  refine wm_open (y := y_MM_init) rfl (Nat.le_of_ble_eq_true rfl) (L := [vr a0]) rfl ?_
  obtain ⟨h1, h⟩ := h
  obtain ⟨M2, e3⟩ : ∃ M2, M2 = mNew M 15 0 2 := ⟨_, rfl⟩
  replace h := h M2 e3
  refine wm_aload_n d_MM_init_0 rfl rfl ?_
  refine wm_objInit trivial k8_239 kO_inst kO_code (Nat.le_of_ble_eq_true rfl) d_MM_init_1 h1 ?_
  refine wm_aload_n d_MM_init_4 rfl rfl ?_
  have hOM2 : mOk M2 := by rw [e3]; exact mOk_New hO
  refine nf_MM_7 rfl d_MM_init_5 e3 ?_
  refine wm_dup d_MM_init_8 rfl ?_
  refine cf_MM_9 rfl d_MM_init_9 (by rw [e3]; exact if_pos rfl) (Nat.le_of_ble_eq_true rfl) (Cv.mono h (fun M4 h => ?_))
  obtain ⟨hOM4, h⟩ := h
  obtain ⟨h7, h⟩ := h
  obtain ⟨M8, e9⟩ : ∃ M8, M8 = mUR M4 a0 1 (mZ M) := ⟨_, rfl⟩
  replace h := h M8 e9
  obtain ⟨M10, e11⟩ : ∃ M10, M10 = mNew M8 15 0 2 := ⟨_, rfl⟩
  replace h := h M10 e11
  have hOM8 : mOk M8 := by rw [e9]; exact mOk_UR hOM4
  refine pf_MM_10 rfl d_MM_init_12 h7 e9 ?_
  refine wm_aload_n d_MM_init_15 rfl rfl ?_
  have hOM10 : mOk M10 := by rw [e11]; exact mOk_New hOM8
  refine nf_MM_7 rfl d_MM_init_16 e11 ?_
  refine wm_dup d_MM_init_19 rfl ?_
  refine cf_MM_9 rfl d_MM_init_20 (by rw [e11]; exact if_pos rfl) (Nat.le_of_ble_eq_true rfl) (Cv.mono h (fun M12 h => ?_))
  obtain ⟨hOM12, h⟩ := h
  obtain ⟨h15, h⟩ := h
  obtain ⟨M16, e17⟩ : ∃ M16, M16 = mUR M12 a0 2 (mZ M8) := ⟨_, rfl⟩
  replace h := h M16 e17
  obtain ⟨M18, e19⟩ : ∃ M18, M18 = mNew M16 15 0 2 := ⟨_, rfl⟩
  replace h := h M18 e19
  have hOM16 : mOk M16 := by rw [e17]; exact mOk_UR hOM12
  refine pf_MM_16 rfl d_MM_init_23 h15 e17 ?_
  refine wm_aload_n d_MM_init_26 rfl rfl ?_
  have hOM18 : mOk M18 := by rw [e19]; exact mOk_New hOM16
  refine nf_MM_7 rfl d_MM_init_27 e19 ?_
  refine wm_dup d_MM_init_30 rfl ?_
  refine cf_MM_9 rfl d_MM_init_31 (by rw [e19]; exact if_pos rfl) (Nat.le_of_ble_eq_true rfl) (Cv.mono h (fun M20 h => ?_))
  obtain ⟨hOM20, h⟩ := h
  obtain ⟨h23, h⟩ := h
  obtain ⟨M24, e25⟩ : ∃ M24, M24 = mUR M20 a0 3 (mZ M16) := ⟨_, rfl⟩
  replace h := h M24 e25
  obtain ⟨M26, e27⟩ : ∃ M26, M26 = mNew M24 15 0 2 := ⟨_, rfl⟩
  replace h := h M26 e27
  have hOM24 : mOk M24 := by rw [e25]; exact mOk_UR hOM20
  refine pf_MM_19 rfl rfl d_MM_init_34 h23 e25 ?_
  refine wm_aload_n d_MM_init_37 rfl rfl ?_
  have hOM26 : mOk M26 := by rw [e27]; exact mOk_New hOM24
  refine nf_MM_7 rfl d_MM_init_38 e27 ?_
  refine wm_dup d_MM_init_41 rfl ?_
  refine cf_MM_9 rfl d_MM_init_42 (by rw [e27]; exact if_pos rfl) (Nat.le_of_ble_eq_true rfl) (Cv.mono h (fun M28 h => ?_))
  obtain ⟨hOM28, h⟩ := h
  obtain ⟨h31, h⟩ := h
  obtain ⟨M32, e33⟩ : ∃ M32, M32 = mUR M28 a0 4 (mZ M24) := ⟨_, rfl⟩
  replace h := h M32 e33
  obtain ⟨M34, e35⟩ : ∃ M34, M34 = mNew M32 15 0 2 := ⟨_, rfl⟩
  replace h := h M34 e35
  have hOM32 : mOk M32 := by rw [e33]; exact mOk_UR hOM28
  refine pf_MM_22 rfl rfl d_MM_init_45 h31 e33 ?_
  refine wm_aload_n d_MM_init_48 rfl rfl ?_
  have hOM34 : mOk M34 := by rw [e35]; exact mOk_New hOM32
  refine nf_MM_7 rfl d_MM_init_49 e35 ?_
  refine wm_dup d_MM_init_52 rfl ?_
  refine cf_MM_9 rfl d_MM_init_53 (by rw [e35]; exact if_pos rfl) (Nat.le_of_ble_eq_true rfl) (Cv.mono h (fun M36 h => ?_))
  obtain ⟨hOM36, h⟩ := h
  obtain ⟨h39, h⟩ := h
  obtain ⟨M40, e41⟩ : ∃ M40, M40 = mUR M36 a0 5 (mZ M32) := ⟨_, rfl⟩
  replace h := h M40 e41
  obtain ⟨M42, e43⟩ : ∃ M42, M42 = mNew M40 15 0 2 := ⟨_, rfl⟩
  replace h := h M42 e43
  have hOM40 : mOk M40 := by rw [e41]; exact mOk_UR hOM36
  refine pf_MM_25 rfl rfl d_MM_init_56 h39 e41 ?_
  refine wm_aload_n d_MM_init_59 rfl rfl ?_
  have hOM42 : mOk M42 := by rw [e43]; exact mOk_New hOM40
  refine nf_MM_7 rfl d_MM_init_60 e43 ?_
  refine wm_dup d_MM_init_63 rfl ?_
  refine cf_MM_9 rfl d_MM_init_64 (by rw [e43]; exact if_pos rfl) (Nat.le_of_ble_eq_true rfl) (Cv.mono h (fun M44 h => ?_))
  obtain ⟨hOM44, h⟩ := h
  obtain ⟨h47, h⟩ := h
  obtain ⟨M48, e49⟩ : ∃ M48, M48 = mUR M44 a0 6 (mZ M40) := ⟨_, rfl⟩
  replace h := h M48 e49
  obtain ⟨M50, e51⟩ : ∃ M50, M50 = mNew M48 16 0 30 := ⟨_, rfl⟩
  replace h := h M50 e51
  have hOM48 : mOk M48 := by rw [e49]; exact mOk_UR hOM44
  refine pf_MM_28 rfl rfl d_MM_init_67 h47 e49 ?_
  refine wm_aload_n d_MM_init_70 rfl rfl ?_
  have hOM50 : mOk M50 := by rw [e51]; exact mOk_New hOM48
  refine nf_MM_31 rfl d_MM_init_71 e51 ?_
  refine wm_dup d_MM_init_74 rfl ?_
  refine cf_MM_33 rfl d_MM_init_75 (by rw [e51]; exact if_pos rfl) (Nat.le_of_ble_eq_true rfl) (Cv.mono h (fun M52 h => ?_))
  obtain ⟨hOM52, h⟩ := h
  obtain ⟨h55, h⟩ := h
  obtain ⟨M56, e57⟩ : ∃ M56, M56 = mUR M52 a0 9 (mZ M48) := ⟨_, rfl⟩
  replace h := h M56 e57
  obtain ⟨M58, e59⟩ : ∃ M58, M58 = mNew M56 16 0 30 := ⟨_, rfl⟩
  replace h := h M58 e59
  have hOM56 : mOk M56 := by rw [e57]; exact mOk_UR hOM52
  refine pf_MM_34 rfl d_MM_init_78 h55 e57 ?_
  refine wm_aload_n d_MM_init_81 rfl rfl ?_
  have hOM58 : mOk M58 := by rw [e59]; exact mOk_New hOM56
  refine nf_MM_31 rfl d_MM_init_82 e59 ?_
  refine wm_dup d_MM_init_85 rfl ?_
  refine cf_MM_33 rfl d_MM_init_86 (by rw [e59]; exact if_pos rfl) (Nat.le_of_ble_eq_true rfl) (Cv.mono h (fun M60 h => ?_))
  obtain ⟨hOM60, h⟩ := h
  obtain ⟨h63, h⟩ := h
  obtain ⟨M64, e65⟩ : ∃ M64, M64 = mUR M60 a0 10 (mZ M56) := ⟨_, rfl⟩
  replace h := h M64 e65
  obtain ⟨M66, e67⟩ : ∃ M66, M66 = mUI M64 a0 12 (-1) := ⟨_, rfl⟩
  replace h := h M66 e67
  obtain ⟨M68, e69⟩ : ∃ M68, M68 = mNew M66 15 0 2 := ⟨_, rfl⟩
  replace h := h M68 e69
  have hOM64 : mOk M64 := by rw [e65]; exact mOk_UR hOM60
  refine pf_MM_38 rfl d_MM_init_89 h63 e65 ?_
  refine wm_aload_n d_MM_init_92 rfl rfl ?_
  refine wm_iconst d_MM_init_93 ?_
  have hOM66 : mOk M66 := by rw [e67]; exact mOk_UI hOM64 ⟨by decide, by decide⟩
  refine pf_MM_41 rfl d_MM_init_94 (by rw [e65]; exact h63) ⟨by decide, by decide⟩ e67 ?_
  refine wm_aload_n d_MM_init_97 rfl rfl ?_
  have hOM68 : mOk M68 := by rw [e69]; exact mOk_New hOM66
  refine nf_MM_7 rfl d_MM_init_98 e69 ?_
  refine wm_dup d_MM_init_101 rfl ?_
  refine cf_MM_9 rfl d_MM_init_102 (by rw [e69]; exact if_pos rfl) (Nat.le_of_ble_eq_true rfl) (Cv.mono h (fun M70 h => ?_))
  obtain ⟨hOM70, h⟩ := h
  obtain ⟨h73, h⟩ := h
  obtain ⟨M74, e75⟩ : ∃ M74, M74 = mUR M70 a0 13 (mZ M66) := ⟨_, rfl⟩
  replace h := h M74 e75
  obtain ⟨M76, e77⟩ : ∃ M76, M76 = mNew M74 15 0 2 := ⟨_, rfl⟩
  replace h := h M76 e77
  have hOM74 : mOk M74 := by rw [e75]; exact mOk_UR hOM70
  refine pf_MM_45 rfl rfl d_MM_init_105 h73 e75 ?_
  refine wm_aload_n d_MM_init_108 rfl rfl ?_
  have hOM76 : mOk M76 := by rw [e77]; exact mOk_New hOM74
  refine nf_MM_7 rfl d_MM_init_109 e77 ?_
  refine wm_dup d_MM_init_112 rfl ?_
  refine cf_MM_9 rfl d_MM_init_113 (by rw [e77]; exact if_pos rfl) (Nat.le_of_ble_eq_true rfl) (Cv.mono h (fun M78 h => ?_))
  obtain ⟨hOM78, h⟩ := h
  obtain ⟨h81, h⟩ := h
  obtain ⟨M82, e83⟩ : ∃ M82, M82 = mUR M78 a0 14 (mZ M74) := ⟨_, rfl⟩
  replace h := h M82 e83
  obtain ⟨M84, e85⟩ : ∃ M84, M84 = mNew M82 15 0 2 := ⟨_, rfl⟩
  replace h := h M84 e85
  have hOM82 : mOk M82 := by rw [e83]; exact mOk_UR hOM78
  refine pf_MM_48 rfl rfl d_MM_init_116 h81 e83 ?_
  refine wm_aload_n d_MM_init_119 rfl rfl ?_
  have hOM84 : mOk M84 := by rw [e85]; exact mOk_New hOM82
  refine nf_MM_7 rfl d_MM_init_120 e85 ?_
  refine wm_dup d_MM_init_123 rfl ?_
  refine cf_MM_9 rfl d_MM_init_124 (by rw [e85]; exact if_pos rfl) (Nat.le_of_ble_eq_true rfl) (Cv.mono h (fun M86 h => ?_))
  obtain ⟨hOM86, h⟩ := h
  obtain ⟨h89, h⟩ := h
  obtain ⟨M90, e91⟩ : ∃ M90, M90 = mUR M86 a0 15 (mZ M82) := ⟨_, rfl⟩
  replace h := h M90 e91
  obtain ⟨M92, e93⟩ : ∃ M92, M92 = mNew M90 15 0 2 := ⟨_, rfl⟩
  replace h := h M92 e93
  have hOM90 : mOk M90 := by rw [e91]; exact mOk_UR hOM86
  refine pf_MM_51 rfl rfl d_MM_init_127 h89 e91 ?_
  refine wm_aload_n d_MM_init_130 rfl rfl ?_
  have hOM92 : mOk M92 := by rw [e93]; exact mOk_New hOM90
  refine nf_MM_7 rfl d_MM_init_131 e93 ?_
  refine wm_dup d_MM_init_134 rfl ?_
  refine cf_MM_9 rfl d_MM_init_135 (by rw [e93]; exact if_pos rfl) (Nat.le_of_ble_eq_true rfl) (Cv.mono h (fun M94 h => ?_))
  obtain ⟨hOM94, h⟩ := h
  obtain ⟨h97, h⟩ := h
  obtain ⟨M98, e99⟩ : ∃ M98, M98 = mUR M94 a0 18 (mZ M90) := ⟨_, rfl⟩
  replace h := h M98 e99
  obtain ⟨M100, e101⟩ : ∃ M100, M100 = mNew M98 15 0 2 := ⟨_, rfl⟩
  replace h := h M100 e101
  have hOM98 : mOk M98 := by rw [e99]; exact mOk_UR hOM94
  refine pf_MM_54 rfl rfl d_MM_init_138 h97 e99 ?_
  refine wm_aload_n d_MM_init_141 rfl rfl ?_
  have hOM100 : mOk M100 := by rw [e101]; exact mOk_New hOM98
  refine nf_MM_7 rfl d_MM_init_142 e101 ?_
  refine wm_dup d_MM_init_145 rfl ?_
  refine cf_MM_9 rfl d_MM_init_146 (by rw [e101]; exact if_pos rfl) (Nat.le_of_ble_eq_true rfl) (Cv.mono h (fun M102 h => ?_))
  obtain ⟨hOM102, h⟩ := h
  obtain ⟨h105, h⟩ := h
  obtain ⟨M106, e107⟩ : ∃ M106, M106 = mUR M102 a0 19 (mZ M98) := ⟨_, rfl⟩
  replace h := h M106 e107
  obtain ⟨M108, e109⟩ : ∃ M108, M108 = mNew M106 15 0 2 := ⟨_, rfl⟩
  replace h := h M108 e109
  have hOM106 : mOk M106 := by rw [e107]; exact mOk_UR hOM102
  refine pf_MM_57 rfl rfl d_MM_init_149 h105 e107 ?_
  refine wm_aload_n d_MM_init_152 rfl rfl ?_
  have hOM108 : mOk M108 := by rw [e109]; exact mOk_New hOM106
  refine nf_MM_7 rfl d_MM_init_153 e109 ?_
  refine wm_dup d_MM_init_156 rfl ?_
  refine cf_MM_9 rfl d_MM_init_157 (by rw [e109]; exact if_pos rfl) (Nat.le_of_ble_eq_true rfl) (Cv.mono h (fun M110 h => ?_))
  obtain ⟨hOM110, h⟩ := h
  obtain ⟨h113, h⟩ := h
  obtain ⟨M114, e115⟩ : ∃ M114, M114 = mUR M110 a0 20 (mZ M106) := ⟨_, rfl⟩
  replace h := h M114 e115
  obtain ⟨M116, e117⟩ : ∃ M116, M116 = mNew M114 33 16400 16400 := ⟨_, rfl⟩
  replace h := h M116 e117
  obtain ⟨h118, h⟩ := h
  obtain ⟨M119, e120⟩ : ∃ M119, M119 = mUR M116 a0 21 (mZ M114) := ⟨_, rfl⟩
  replace h := h M119 e120
  obtain ⟨M121, e122⟩ : ∃ M121, M121 = mNew M119 33 16400 16400 := ⟨_, rfl⟩
  replace h := h M121 e122
  obtain ⟨h123, h⟩ := h
  obtain ⟨M124, e125⟩ : ∃ M124, M124 = mUR M121 a0 22 (mZ M119) := ⟨_, rfl⟩
  replace h := h M124 e125
  obtain ⟨M126, e127⟩ : ∃ M126, M126 = mNew M124 15 0 2 := ⟨_, rfl⟩
  replace h := h M126 e127
  have hOM114 : mOk M114 := by rw [e115]; exact mOk_UR hOM110
  refine pf_MM_60 rfl rfl d_MM_init_160 h113 e115 ?_
  refine wm_aload_n d_MM_init_163 rfl rfl ?_
  refine wm_sipush d_MM_init_164 (by decide) ?_
  have hOM116 : mOk M116 := by rw [e117]; exact mOk_New hOM114
  refine wm_newarrE 3 (atype := .long) (ty := .long) rfl rfl (fun _ => rfl) rfl rfl (by decide) k3_35 ⟨by decide, by decide⟩ d_MM_init_167 e117 ?_
  have hOM119 : mOk M119 := by rw [e120]; exact mOk_UR hOM116
  refine pf_MM_63 rfl rfl d_MM_init_169 h118 e120 ?_
  refine wm_aload_n d_MM_init_172 rfl rfl ?_
  refine wm_sipush d_MM_init_173 (by decide) ?_
  have hOM121 : mOk M121 := by rw [e122]; exact mOk_New hOM119
  refine wm_newarrE 3 (atype := .long) (ty := .long) rfl rfl (fun _ => rfl) rfl rfl (by decide) k3_35 ⟨by decide, by decide⟩ d_MM_init_176 e122 ?_
  have hOM124 : mOk M124 := by rw [e125]; exact mOk_UR hOM121
  refine pf_MM_67 rfl rfl d_MM_init_178 h123 e125 ?_
  refine wm_aload_n d_MM_init_181 rfl rfl ?_
  have hOM126 : mOk M126 := by rw [e127]; exact mOk_New hOM124
  refine nf_MM_7 rfl d_MM_init_182 e127 ?_
  refine wm_dup d_MM_init_185 rfl ?_
  refine cf_MM_9 rfl d_MM_init_186 (by rw [e127]; exact if_pos rfl) (Nat.le_of_ble_eq_true rfl) (Cv.mono h (fun M128 h => ?_))
  obtain ⟨hOM128, h⟩ := h
  obtain ⟨h131, h⟩ := h
  obtain ⟨M132, e133⟩ : ∃ M132, M132 = mUR M128 a0 24 (mZ M124) := ⟨_, rfl⟩
  replace h := h M132 e133
  obtain ⟨M134, e135⟩ : ∃ M134, M134 = mNew M132 30 12 12 := ⟨_, rfl⟩
  replace h := h M134 e135
  obtain ⟨h136, h⟩ := h
  obtain ⟨M137, e138⟩ : ∃ M137, M137 = mUR M134 a0 25 (mZ M132) := ⟨_, rfl⟩
  replace h := h M137 e138
  obtain ⟨M139, e140⟩ : ∃ M139, M139 = mNew M137 31 60 60 := ⟨_, rfl⟩
  replace h := h M139 e140
  obtain ⟨h141, h⟩ := h
  obtain ⟨M142, e143⟩ : ∃ M142, M142 = mUR M139 a0 26 (mZ M137) := ⟨_, rfl⟩
  replace h := h M142 e143
  obtain ⟨M144, e145⟩ : ∃ M144, M144 = mNew M142 33 60 60 := ⟨_, rfl⟩
  replace h := h M144 e145
  obtain ⟨h146, h⟩ := h
  obtain ⟨M147, e148⟩ : ∃ M147, M147 = mUR M144 a0 27 (mZ M142) := ⟨_, rfl⟩
  replace h := h M147 e148
  obtain ⟨M149, e150⟩ : ∃ M149, M149 = mNew M147 33 60 60 := ⟨_, rfl⟩
  replace h := h M149 e150
  obtain ⟨h151, h⟩ := h
  obtain ⟨M152, e153⟩ : ∃ M152, M152 = mUR M149 a0 28 (mZ M147) := ⟨_, rfl⟩
  replace h := h M152 e153
  obtain ⟨M154, e155⟩ : ∃ M154, M154 = mUI M152 a0 30 (-1) := ⟨_, rfl⟩
  replace h := h M154 e155
  obtain ⟨M156, e157⟩ : ∃ M156, M156 = mNew M154 30 6144 6144 := ⟨_, rfl⟩
  replace h := h M156 e157
  obtain ⟨h158, h⟩ := h
  obtain ⟨M159, e160⟩ : ∃ M159, M159 = mUR M156 a0 31 (mZ M154) := ⟨_, rfl⟩
  replace h := h M159 e160
  obtain ⟨M161, e162⟩ : ∃ M161, M161 = mNew M159 30 512 512 := ⟨_, rfl⟩
  replace h := h M161 e162
  obtain ⟨h163, h⟩ := h
  obtain ⟨M164, e165⟩ : ∃ M164, M164 = mUR M161 a0 32 (mZ M159) := ⟨_, rfl⟩
  replace h := h M164 e165
  obtain ⟨M166, e167⟩ : ∃ M166, M166 = mNew M164 30 512 512 := ⟨_, rfl⟩
  replace h := h M166 e167
  obtain ⟨h168, h⟩ := h
  obtain ⟨M169, e170⟩ : ∃ M169, M169 = mUR M166 a0 33 (mZ M164) := ⟨_, rfl⟩
  replace h := h M169 e170
  obtain ⟨M171, e172⟩ : ∃ M171, M171 = mNew M169 30 512 512 := ⟨_, rfl⟩
  replace h := h M171 e172
  obtain ⟨h173, h⟩ := h
  obtain ⟨M174, e175⟩ : ∃ M174, M174 = mUR M171 a0 34 (mZ M169) := ⟨_, rfl⟩
  replace h := h M174 e175
  obtain ⟨M176, e177⟩ : ∃ M176, M176 = mNew M174 15 0 2 := ⟨_, rfl⟩
  replace h := h M176 e177
  have hOM132 : mOk M132 := by rw [e133]; exact mOk_UR hOM128
  refine pf_MM_70 rfl rfl d_MM_init_189 h131 e133 ?_
  refine wm_aload_n d_MM_init_192 rfl rfl ?_
  refine wm_bipush d_MM_init_193 (by decide) ?_
  have hOM134 : mOk M134 := by rw [e135]; exact mOk_New hOM132
  refine wm_newarrE 0 (atype := .int) (ty := .int) rfl rfl (fun _ => rfl) rfl rfl (by decide) k1_82 ⟨by decide, by decide⟩ d_MM_init_195 e135 ?_
  have hOM137 : mOk M137 := by rw [e138]; exact mOk_UR hOM134
  refine pf_MM_73 rfl rfl d_MM_init_197 h136 e138 ?_
  refine wm_aload_n d_MM_init_200 rfl rfl ?_
  refine wm_bipush d_MM_init_201 (by decide) ?_
  have hOM139 : mOk M139 := by rw [e140]; exact mOk_New hOM137
  refine wm_newarrE 1 (atype := .boolean) (ty := .boolean) rfl rfl (fun _ => rfl) rfl rfl (by decide) k1_162 ⟨by decide, by decide⟩ d_MM_init_203 e140 ?_
  have hOM142 : mOk M142 := by rw [e143]; exact mOk_UR hOM139
  refine pf_MM_77 rfl rfl d_MM_init_205 h141 e143 ?_
  refine wm_aload_n d_MM_init_208 rfl rfl ?_
  refine wm_bipush d_MM_init_209 (by decide) ?_
  have hOM144 : mOk M144 := by rw [e145]; exact mOk_New hOM142
  refine wm_newarrE 3 (atype := .long) (ty := .long) rfl rfl (fun _ => rfl) rfl rfl (by decide) k3_35 ⟨by decide, by decide⟩ d_MM_init_211 e145 ?_
  have hOM147 : mOk M147 := by rw [e148]; exact mOk_UR hOM144
  refine pf_MM_81 rfl rfl d_MM_init_213 h146 e148 ?_
  refine wm_aload_n d_MM_init_216 rfl rfl ?_
  refine wm_bipush d_MM_init_217 (by decide) ?_
  have hOM149 : mOk M149 := by rw [e150]; exact mOk_New hOM147
  refine wm_newarrE 3 (atype := .long) (ty := .long) rfl rfl (fun _ => rfl) rfl rfl (by decide) k3_35 ⟨by decide, by decide⟩ d_MM_init_219 e150 ?_
  have hOM152 : mOk M152 := by rw [e153]; exact mOk_UR hOM149
  refine pf_MM_84 rfl rfl d_MM_init_221 h151 e153 ?_
  refine wm_aload_n d_MM_init_224 rfl rfl ?_
  refine wm_iconst d_MM_init_225 ?_
  have hOM154 : mOk M154 := by rw [e155]; exact mOk_UI hOM152 ⟨by decide, by decide⟩
  refine pf_MM_87 rfl d_MM_init_226 (by rw [e153]; exact h151) ⟨by decide, by decide⟩ e155 ?_
  refine wm_aload_n d_MM_init_229 rfl rfl ?_
  refine wm_sipush d_MM_init_230 (by decide) ?_
  have hOM156 : mOk M156 := by rw [e157]; exact mOk_New hOM154
  refine wm_newarrE 0 (atype := .int) (ty := .int) rfl rfl (fun _ => rfl) rfl rfl (by decide) k1_82 ⟨by decide, by decide⟩ d_MM_init_233 e157 ?_
  have hOM159 : mOk M159 := by rw [e160]; exact mOk_UR hOM156
  refine pf_MM_90 rfl rfl d_MM_init_235 h158 e160 ?_
  refine wm_aload_n d_MM_init_238 rfl rfl ?_
  refine wm_sipush d_MM_init_239 (by decide) ?_
  have hOM161 : mOk M161 := by rw [e162]; exact mOk_New hOM159
  refine wm_newarrE 0 (atype := .int) (ty := .int) rfl rfl (fun _ => rfl) rfl rfl (by decide) k1_82 ⟨by decide, by decide⟩ d_MM_init_242 e162 ?_
  have hOM164 : mOk M164 := by rw [e165]; exact mOk_UR hOM161
  refine pf_MM_93 rfl rfl d_MM_init_244 h163 e165 ?_
  refine wm_aload_n d_MM_init_247 rfl rfl ?_
  refine wm_sipush d_MM_init_248 (by decide) ?_
  have hOM166 : mOk M166 := by rw [e167]; exact mOk_New hOM164
  refine wm_newarrE 0 (atype := .int) (ty := .int) rfl rfl (fun _ => rfl) rfl rfl (by decide) k1_82 ⟨by decide, by decide⟩ d_MM_init_251 e167 ?_
  have hOM169 : mOk M169 := by rw [e170]; exact mOk_UR hOM166
  refine pf_MM_96 rfl rfl d_MM_init_253 h168 e170 ?_
  refine wm_aload_n d_MM_init_256 rfl rfl ?_
  refine wm_sipush d_MM_init_257 (by decide) ?_
  have hOM171 : mOk M171 := by rw [e172]; exact mOk_New hOM169
  refine wm_newarrE 0 (atype := .int) (ty := .int) rfl rfl (fun _ => rfl) rfl rfl (by decide) k1_82 ⟨by decide, by decide⟩ d_MM_init_260 e172 ?_
  have hOM174 : mOk M174 := by rw [e175]; exact mOk_UR hOM171
  refine pf_MM_99 rfl rfl d_MM_init_262 h173 e175 ?_
  refine wm_aload_n d_MM_init_265 rfl rfl ?_
  have hOM176 : mOk M176 := by rw [e177]; exact mOk_New hOM174
  refine nf_MM_7 rfl d_MM_init_266 e177 ?_
  refine wm_dup d_MM_init_269 rfl ?_
  refine cf_MM_9 rfl d_MM_init_270 (by rw [e177]; exact if_pos rfl) (Nat.le_of_ble_eq_true rfl) (Cv.mono h (fun M178 h => ?_))
  obtain ⟨hOM178, h⟩ := h
  obtain ⟨h181, h⟩ := h
  obtain ⟨M182, e183⟩ : ∃ M182, M182 = mUR M178 a0 35 (mZ M174) := ⟨_, rfl⟩
  replace h := h M182 e183
  obtain ⟨M184, e185⟩ : ∃ M184, M184 = mNew M182 15 0 2 := ⟨_, rfl⟩
  replace h := h M184 e185
  have hOM182 : mOk M182 := by rw [e183]; exact mOk_UR hOM178
  refine pf_MM_102 rfl rfl d_MM_init_273 h181 e183 ?_
  refine wm_aload_n d_MM_init_276 rfl rfl ?_
  have hOM184 : mOk M184 := by rw [e185]; exact mOk_New hOM182
  refine nf_MM_7 rfl d_MM_init_277 e185 ?_
  refine wm_dup d_MM_init_280 rfl ?_
  refine cf_MM_9 rfl d_MM_init_281 (by rw [e185]; exact if_pos rfl) (Nat.le_of_ble_eq_true rfl) (Cv.mono h (fun M186 h => ?_))
  obtain ⟨hOM186, h⟩ := h
  obtain ⟨h189, h⟩ := h
  obtain ⟨M190, e191⟩ : ∃ M190, M190 = mUR M186 a0 36 (mZ M182) := ⟨_, rfl⟩
  replace h := h M190 e191
  obtain ⟨M192, e193⟩ : ∃ M192, M192 = mNew M190 15 0 2 := ⟨_, rfl⟩
  replace h := h M192 e193
  have hOM190 : mOk M190 := by rw [e191]; exact mOk_UR hOM186
  refine pf_MM_105 rfl rfl d_MM_init_284 h189 e191 ?_
  refine wm_aload_n d_MM_init_287 rfl rfl ?_
  have hOM192 : mOk M192 := by rw [e193]; exact mOk_New hOM190
  refine nf_MM_7 rfl d_MM_init_288 e193 ?_
  refine wm_dup d_MM_init_291 rfl ?_
  refine cf_MM_9 rfl d_MM_init_292 (by rw [e193]; exact if_pos rfl) (Nat.le_of_ble_eq_true rfl) (Cv.mono h (fun M194 h => ?_))
  obtain ⟨hOM194, h⟩ := h
  obtain ⟨h197, h⟩ := h
  obtain ⟨M198, e199⟩ : ∃ M198, M198 = mUR M194 a0 37 (mZ M190) := ⟨_, rfl⟩
  replace h := h M198 e199
  obtain ⟨M200, e201⟩ : ∃ M200, M200 = mNew M198 15 0 2 := ⟨_, rfl⟩
  replace h := h M200 e201
  have hOM198 : mOk M198 := by rw [e199]; exact mOk_UR hOM194
  refine pf_MM_108 rfl rfl d_MM_init_295 h197 e199 ?_
  refine wm_aload_n d_MM_init_298 rfl rfl ?_
  have hOM200 : mOk M200 := by rw [e201]; exact mOk_New hOM198
  refine nf_MM_7 rfl d_MM_init_299 e201 ?_
  refine wm_dup d_MM_init_302 rfl ?_
  refine cf_MM_9 rfl d_MM_init_303 (by rw [e201]; exact if_pos rfl) (Nat.le_of_ble_eq_true rfl) (Cv.mono h (fun M202 h => ?_))
  obtain ⟨hOM202, h⟩ := h
  obtain ⟨h205, h⟩ := h
  obtain ⟨M206, e207⟩ : ∃ M206, M206 = mUR M202 a0 38 (mZ M198) := ⟨_, rfl⟩
  replace h := h M206 e207
  obtain ⟨M208, e209⟩ : ∃ M208, M208 = mNew M206 17 0 32 := ⟨_, rfl⟩
  replace h := h M208 e209
  have hOM206 : mOk M206 := by rw [e207]; exact mOk_UR hOM202
  refine pf_MM_111 rfl rfl d_MM_init_306 h205 e207 ?_
  refine wm_aload_n d_MM_init_309 rfl rfl ?_
  have hOM208 : mOk M208 := by rw [e209]; exact mOk_New hOM206
  refine nf_MM_114 rfl d_MM_init_310 e209 ?_
  refine wm_dup d_MM_init_313 rfl ?_
  refine cf_MM_116 rfl d_MM_init_314 (by rw [e209]; exact if_pos rfl) (Nat.le_of_ble_eq_true rfl) (Cv.mono h (fun M210 h => ?_))
  obtain ⟨hOM210, h⟩ := h
  obtain ⟨h213, h⟩ := h
  obtain ⟨M214, e215⟩ : ∃ M214, M214 = mUR M210 a0 39 (mZ M206) := ⟨_, rfl⟩
  replace h := h M214 e215
  obtain ⟨M216, e217⟩ : ∃ M216, M216 = mNew M214 30 4096 4096 := ⟨_, rfl⟩
  replace h := h M216 e217
  obtain ⟨h218, h⟩ := h
  obtain ⟨M219, e220⟩ : ∃ M219, M219 = mUR M216 a0 41 (mZ M214) := ⟨_, rfl⟩
  replace h := h M219 e220
  obtain ⟨M221, e222⟩ : ∃ M221, M221 = mNew M219 33 4096 4096 := ⟨_, rfl⟩
  replace h := h M221 e222
  obtain ⟨h223, h⟩ := h
  obtain ⟨M224, e225⟩ : ∃ M224, M224 = mUR M221 a0 42 (mZ M219) := ⟨_, rfl⟩
  replace h := h M224 e225
  obtain ⟨M226, e227⟩ : ∃ M226, M226 = mNew M224 33 4096 4096 := ⟨_, rfl⟩
  replace h := h M226 e227
  obtain ⟨h228, h⟩ := h
  obtain ⟨M229, e230⟩ : ∃ M229, M229 = mUR M226 a0 43 (mZ M224) := ⟨_, rfl⟩
  replace h := h M229 e230
  obtain ⟨M231, e232⟩ : ∃ M231, M231 = mNew M229 30 12 12 := ⟨_, rfl⟩
  replace h := h M231 e232
  obtain ⟨h233, h⟩ := h
  obtain ⟨M234, e235⟩ : ∃ M234, M234 = mUR M231 a0 44 (mZ M229) := ⟨_, rfl⟩
  replace h := h M234 e235
  obtain ⟨M236, e237⟩ : ∃ M236, M236 = mNew M234 33 8 8 := ⟨_, rfl⟩
  replace h := h M236 e237
  obtain ⟨h238, h⟩ := h
  obtain ⟨M239, e240⟩ : ∃ M239, M239 = mUR M236 a0 45 (mZ M234) := ⟨_, rfl⟩
  replace h := h M239 e240
  obtain ⟨M241, e242⟩ : ∃ M241, M241 = mNew M239 33 8 8 := ⟨_, rfl⟩
  replace h := h M241 e242
  obtain ⟨h243, h⟩ := h
  obtain ⟨M244, e245⟩ : ∃ M244, M244 = mUR M241 a0 46 (mZ M239) := ⟨_, rfl⟩
  replace h := h M244 e245
  obtain ⟨M246, e247⟩ : ∃ M246, M246 = mNew M244 30 900 900 := ⟨_, rfl⟩
  replace h := h M246 e247
  obtain ⟨h248, h⟩ := h
  obtain ⟨M249, e250⟩ : ∃ M249, M249 = mUR M246 a0 47 (mZ M244) := ⟨_, rfl⟩
  replace h := h M249 e250
  have hOM214 : mOk M214 := by rw [e215]; exact mOk_UR hOM210
  refine pf_MM_117 rfl rfl d_MM_init_317 h213 e215 ?_
  refine wm_aload_n d_MM_init_320 rfl rfl ?_
  refine wm_sipush d_MM_init_321 (by decide) ?_
  have hOM216 : mOk M216 := by rw [e217]; exact mOk_New hOM214
  refine wm_newarrE 0 (atype := .int) (ty := .int) rfl rfl (fun _ => rfl) rfl rfl (by decide) k1_82 ⟨by decide, by decide⟩ d_MM_init_324 e217 ?_
  have hOM219 : mOk M219 := by rw [e220]; exact mOk_UR hOM216
  refine pf_MM_121 rfl rfl d_MM_init_326 h218 e220 ?_
  refine wm_aload_n d_MM_init_329 rfl rfl ?_
  refine wm_sipush d_MM_init_330 (by decide) ?_
  have hOM221 : mOk M221 := by rw [e222]; exact mOk_New hOM219
  refine wm_newarrE 3 (atype := .long) (ty := .long) rfl rfl (fun _ => rfl) rfl rfl (by decide) k3_35 ⟨by decide, by decide⟩ d_MM_init_333 e222 ?_
  have hOM224 : mOk M224 := by rw [e225]; exact mOk_UR hOM221
  refine pf_MM_124 rfl rfl d_MM_init_335 h223 e225 ?_
  refine wm_aload_n d_MM_init_338 rfl rfl ?_
  refine wm_sipush d_MM_init_339 (by decide) ?_
  have hOM226 : mOk M226 := by rw [e227]; exact mOk_New hOM224
  refine wm_newarrE 3 (atype := .long) (ty := .long) rfl rfl (fun _ => rfl) rfl rfl (by decide) k3_35 ⟨by decide, by decide⟩ d_MM_init_342 e227 ?_
  have hOM229 : mOk M229 := by rw [e230]; exact mOk_UR hOM226
  refine pf_MM_127 rfl rfl d_MM_init_344 h228 e230 ?_
  refine wm_aload_n d_MM_init_347 rfl rfl ?_
  refine wm_bipush d_MM_init_348 (by decide) ?_
  have hOM231 : mOk M231 := by rw [e232]; exact mOk_New hOM229
  refine wm_newarrE 0 (atype := .int) (ty := .int) rfl rfl (fun _ => rfl) rfl rfl (by decide) k1_82 ⟨by decide, by decide⟩ d_MM_init_350 e232 ?_
  have hOM234 : mOk M234 := by rw [e235]; exact mOk_UR hOM231
  refine pf_MM_130 rfl rfl d_MM_init_352 h233 e235 ?_
  refine wm_aload_n d_MM_init_355 rfl rfl ?_
  refine wm_bipush d_MM_init_356 (by decide) ?_
  have hOM236 : mOk M236 := by rw [e237]; exact mOk_New hOM234
  refine wm_newarrE 3 (atype := .long) (ty := .long) rfl rfl (fun _ => rfl) rfl rfl (by decide) k3_35 ⟨by decide, by decide⟩ d_MM_init_358 e237 ?_
  have hOM239 : mOk M239 := by rw [e240]; exact mOk_UR hOM236
  refine pf_MM_133 rfl rfl d_MM_init_360 h238 e240 ?_
  refine wm_aload_n d_MM_init_363 rfl rfl ?_
  refine wm_bipush d_MM_init_364 (by decide) ?_
  have hOM241 : mOk M241 := by rw [e242]; exact mOk_New hOM239
  refine wm_newarrE 3 (atype := .long) (ty := .long) rfl rfl (fun _ => rfl) rfl rfl (by decide) k3_35 ⟨by decide, by decide⟩ d_MM_init_366 e242 ?_
  have hOM244 : mOk M244 := by rw [e245]; exact mOk_UR hOM241
  refine pf_MM_136 rfl rfl d_MM_init_368 h243 e245 ?_
  refine wm_aload_n d_MM_init_371 rfl rfl ?_
  refine wm_sipush d_MM_init_372 (by decide) ?_
  have hOM246 : mOk M246 := by rw [e247]; exact mOk_New hOM244
  refine wm_newarrE 0 (atype := .int) (ty := .int) rfl rfl (fun _ => rfl) rfl rfl (by decide) k1_82 ⟨by decide, by decide⟩ d_MM_init_375 e247 ?_
  have hOM249 : mOk M249 := by rw [e250]; exact mOk_UR hOM246
  refine pf_MM_139 rfl rfl d_MM_init_377 h248 e250 ?_
  refine wm_return d_MM_init_380 rfl ?_
  exact ⟨rfl, h⟩
theorem d_MM_thrown_0 : decode y_MM_thrown.2.1 0 = .ok (.aload_n 0, 1) := by decide +kernel
theorem d_MM_thrown_1 : decode y_MM_thrown.2.1 1 = .ok (.getfield 142, 3) := by decide +kernel
theorem d_MM_thrown_4 : decode y_MM_thrown.2.1 4 = .ok (.ireturn, 1) := by decide +kernel
theorem k_MM_thrown {G : mG} {d : Nat} {a0 : Nat} {M : mM} {Q : Int → mM → Prop} (hO : mOk M)
    (h : mK M a0 = 14 ∧ Q (mI M a0 0) M) :
    Ci G y_MM_thrown d [vr a0] M Q := by
  refine wm_open (y := y_MM_thrown) rfl (Nat.le_of_ble_eq_true rfl) (L := [vr a0]) rfl ?_
  obtain ⟨h1, h⟩ := h
  refine wm_aload_n d_MM_thrown_0 rfl rfl ?_
  refine gf_MM_142 rfl d_MM_thrown_1 h1 ?_
  refine wm_ireturn d_MM_thrown_4 rfl rfl ?_
  exact ⟨_, rfl, h⟩
theorem d_MM_feed_0 : decode y_MM_feed.2.1 0 = .ok (.aload_n 0, 1) := by decide +kernel
theorem d_MM_feed_1 : decode y_MM_feed.2.1 1 = .ok (.iconst 0, 1) := by decide +kernel
theorem d_MM_feed_2 : decode y_MM_feed.2.1 2 = .ok (.putfield 142, 3) := by decide +kernel
theorem d_MM_feed_5 : decode y_MM_feed.2.1 5 = .ok (.aload_n 0, 1) := by decide +kernel
theorem d_MM_feed_6 : decode y_MM_feed.2.1 6 = .ok (.getfield 10, 3) := by decide +kernel
theorem d_MM_feed_9 : decode y_MM_feed.2.1 9 = .ok (.getfield 145, 3) := by decide +kernel
theorem d_MM_feed_12 : decode y_MM_feed.2.1 12 = .ok (.bipush 20, 2) := by decide +kernel
theorem d_MM_feed_14 : decode y_MM_feed.2.1 14 = .ok (.iadd, 1) := by decide +kernel
theorem d_MM_feed_15 : decode y_MM_feed.2.1 15 = .ok (.sipush 16384, 3) := by decide +kernel
theorem d_MM_feed_18 : decode y_MM_feed.2.1 18 = .ok (.if_icmp .le 5, 3) := by decide +kernel
theorem d_MM_feed_23 : decode y_MM_feed.2.1 23 = .ok (.aload_n 0, 1) := by decide +kernel
theorem d_MM_feed_24 : decode y_MM_feed.2.1 24 = .ok (.iload_n 1, 1) := by decide +kernel
theorem d_MM_feed_21 : decode y_MM_feed.2.1 21 = .ok (.iconst (-1), 1) := by decide +kernel
theorem d_MM_feed_22 : decode y_MM_feed.2.1 22 = .ok (.ireturn, 1) := by decide +kernel
theorem d_MM_feed_25 : decode y_MM_feed.2.1 25 = .ok (.invokevirtual 148, 3) := by decide +kernel
theorem d_MM_feed_28 : decode y_MM_feed.2.1 28 = .ok (.aload_n 0, 1) := by decide +kernel
theorem d_MM_feed_29 : decode y_MM_feed.2.1 29 = .ok (.iload_n 2, 1) := by decide +kernel
theorem d_MM_feed_30 : decode y_MM_feed.2.1 30 = .ok (.invokevirtual 148, 3) := by decide +kernel
theorem d_MM_feed_33 : decode y_MM_feed.2.1 33 = .ok (.aload_n 0, 1) := by decide +kernel
theorem d_MM_feed_34 : decode y_MM_feed.2.1 34 = .ok (.iload_n 3, 1) := by decide +kernel
theorem d_MM_feed_35 : decode y_MM_feed.2.1 35 = .ok (.invokevirtual 148, 3) := by decide +kernel
theorem d_MM_feed_38 : decode y_MM_feed.2.1 38 = .ok (.aload_n 0, 1) := by decide +kernel
theorem d_MM_feed_39 : decode y_MM_feed.2.1 39 = .ok (.iload 4, 2) := by decide +kernel
theorem d_MM_feed_41 : decode y_MM_feed.2.1 41 = .ok (.invokevirtual 148, 3) := by decide +kernel
theorem d_MM_feed_44 : decode y_MM_feed.2.1 44 = .ok (.aload_n 0, 1) := by decide +kernel
theorem d_MM_feed_45 : decode y_MM_feed.2.1 45 = .ok (.iload 5, 2) := by decide +kernel
theorem d_MM_feed_47 : decode y_MM_feed.2.1 47 = .ok (.invokevirtual 148, 3) := by decide +kernel
theorem d_MM_feed_50 : decode y_MM_feed.2.1 50 = .ok (.aload_n 0, 1) := by decide +kernel
theorem d_MM_feed_51 : decode y_MM_feed.2.1 51 = .ok (.getfield 10, 3) := by decide +kernel
theorem d_MM_feed_54 : decode y_MM_feed.2.1 54 = .ok (.getfield 145, 3) := by decide +kernel
theorem d_MM_feed_57 : decode y_MM_feed.2.1 57 = .ok (.ireturn, 1) := by decide +kernel
theorem k_MM_feed {G : mG} {d : Nat} {a0 : Nat} {l1 : Int} {l2 : Int} {l3 : Int} {l4 : Int} {l5 : Int} {M : mM} {Q : Int → mM → Prop} (hO : mOk M) (hi_l1 : i32 l1) (hi_l2 : i32 l2) (hi_l3 : i32 l3) (hi_l4 : i32 l4) (hi_l5 : i32 l5)
    (h : mK M a0 = 14 ∧ ∀ M2, M2 = mUI M a0 0 0 → mK M2 (mR M2 a0 1) = 15 ∧ i32 ((mI M2 (mR M2 a0 1) 1) + 20) ∧ (((mI M2 (mR M2 a0 1) 1) + 20 ≤ 16384) → (Cv G y_MM_add4 d [vr a0, vi l1] M2 (fun M9 => mOk M9 ∧ (mK M9 a0 = 14 ∧ Cv G y_MM_add4 d [vr a0, vi l2] M9 (fun M13 => mOk M13 ∧ (mK M13 a0 = 14 ∧ Cv G y_MM_add4 d [vr a0, vi l3] M13 (fun M17 => mOk M17 ∧ (mK M17 a0 = 14 ∧ Cv G y_MM_add4 d [vr a0, vi l4] M17 (fun M21 => mOk M21 ∧ (mK M21 a0 = 14 ∧ Cv G y_MM_add4 d [vr a0, vi l5] M21 (fun M25 => mOk M25 ∧ (mK M25 a0 = 14 ∧ mK M25 (mR M25 a0 1) = 15 ∧ Q (mI M25 (mR M25 a0 1) 1) M25)))))))))))) ∧ (¬ ((mI M2 (mR M2 a0 1) 1) + 20 ≤ 16384) → (Q (-1) M2))) :
    Ci G y_MM_feed (d + 1) [vr a0, vi l1, vi l2, vi l3, vi l4, vi l5] M Q := by
  refine wm_open (y := y_MM_feed) rfl (Nat.le_of_ble_eq_true rfl) (L := [vr a0, vi l1, vi l2, vi l3, vi l4, vi l5]) rfl ?_
  obtain ⟨h1, h⟩ := h
  obtain ⟨M2, e3⟩ : ∃ M2, M2 = mUI M a0 0 0 := ⟨_, rfl⟩
  replace h := h M2 e3
  obtain ⟨h4, h⟩ := h
  obtain ⟨h7, h⟩ := h
  refine wm_aload_n d_MM_feed_0 rfl rfl ?_
  refine wm_iconst d_MM_feed_1 ?_
  have hOM2 : mOk M2 := by rw [e3]; exact mOk_UI hO ⟨by decide, by decide⟩
  refine pf_MM_142 rfl d_MM_feed_2 h1 ⟨by decide, by decide⟩ e3 ?_
  refine wm_aload_n d_MM_feed_5 rfl rfl ?_
  refine gf_MM_10 rfl d_MM_feed_6 (by rw [e3]; exact h1) ?_
  refine gf_MM_145 rfl d_MM_feed_9 h4 ?_
  refine wm_bipush d_MM_feed_12 (by decide) ?_
  refine wm_iadd d_MM_feed_14 ?_
  refine wm_sipush d_MM_feed_15 (by decide) ?_
  refine wm_icmp_le (tgt := 23) d_MM_feed_18 rfl h7 ⟨by decide, by decide⟩ (fun c8 => ?_) (fun c8 => ?_)
  · replace h := h.1 c8
    refine wm_aload_n d_MM_feed_23 rfl rfl ?_
    refine wm_iload_n d_MM_feed_24 rfl rfl ?_
    refine cf_MM_148 rfl d_MM_feed_25 (by rw [e3]; exact h1) (Nat.le_of_ble_eq_true rfl) (Cv.mono h (fun M9 h => ?_))
    obtain ⟨hOM9, h⟩ := h
    obtain ⟨h12, h⟩ := h
    refine wm_aload_n d_MM_feed_28 rfl rfl ?_
    refine wm_iload_n d_MM_feed_29 rfl rfl ?_
    refine cf_MM_148 rfl d_MM_feed_30 h12 (Nat.le_of_ble_eq_true rfl) (Cv.mono h (fun M13 h => ?_))
    obtain ⟨hOM13, h⟩ := h
    obtain ⟨h16, h⟩ := h
    refine wm_aload_n d_MM_feed_33 rfl rfl ?_
    refine wm_iload_n d_MM_feed_34 rfl rfl ?_
    refine cf_MM_148 rfl d_MM_feed_35 h16 (Nat.le_of_ble_eq_true rfl) (Cv.mono h (fun M17 h => ?_))
    obtain ⟨hOM17, h⟩ := h
    obtain ⟨h20, h⟩ := h
    refine wm_aload_n d_MM_feed_38 rfl rfl ?_
    refine wm_iload d_MM_feed_39 rfl ?_
    refine cf_MM_148 rfl d_MM_feed_41 h20 (Nat.le_of_ble_eq_true rfl) (Cv.mono h (fun M21 h => ?_))
    obtain ⟨hOM21, h⟩ := h
    obtain ⟨h24, h⟩ := h
    refine wm_aload_n d_MM_feed_44 rfl rfl ?_
    refine wm_iload d_MM_feed_45 rfl ?_
    refine cf_MM_148 rfl d_MM_feed_47 h24 (Nat.le_of_ble_eq_true rfl) (Cv.mono h (fun M25 h => ?_))
    obtain ⟨hOM25, h⟩ := h
    obtain ⟨h28, h⟩ := h
    obtain ⟨h29, h⟩ := h
    refine wm_aload_n d_MM_feed_50 rfl rfl ?_
    refine gf_MM_10 rfl d_MM_feed_51 h28 ?_
    refine gf_MM_145 rfl d_MM_feed_54 h29 ?_
    refine wm_ireturn d_MM_feed_57 rfl rfl ?_
    exact ⟨_, rfl, h⟩
  · replace h := h.2 c8
    refine wm_iconst d_MM_feed_21 ?_
    refine wm_ireturn d_MM_feed_22 rfl rfl ?_
    exact ⟨_, rfl, h⟩
theorem d_MM_add4_0 : decode y_MM_add4.2.1 0 = .ok (.bipush 24, 2) := by decide +kernel
theorem d_MM_add4_2 : decode y_MM_add4.2.1 2 = .ok (.istore_n 2, 1) := by decide +kernel
theorem d_MM_add4_3 : decode y_MM_add4.2.1 3 = .ok (.iload_n 2, 1) := by decide +kernel
theorem d_MM_add4_4 : decode y_MM_add4.2.1 4 = .ok (.ifCond .lt 23, 3) := by decide +kernel
theorem d_MM_add4_27 : decode y_MM_add4.2.1 27 = .ok (.return_, 1) := by decide +kernel
theorem d_MM_add4_7 : decode y_MM_add4.2.1 7 = .ok (.aload_n 0, 1) := by decide +kernel
theorem d_MM_add4_8 : decode y_MM_add4.2.1 8 = .ok (.getfield 10, 3) := by decide +kernel
theorem d_MM_add4_11 : decode y_MM_add4.2.1 11 = .ok (.iload_n 1, 1) := by decide +kernel
theorem d_MM_add4_12 : decode y_MM_add4.2.1 12 = .ok (.iload_n 2, 1) := by decide +kernel
theorem d_MM_add4_13 : decode y_MM_add4.2.1 13 = .ok (.ishr, 1) := by decide +kernel
theorem d_MM_add4_14 : decode y_MM_add4.2.1 14 = .ok (.sipush 255, 3) := by decide +kernel
theorem d_MM_add4_17 : decode y_MM_add4.2.1 17 = .ok (.iand, 1) := by decide +kernel
theorem d_MM_add4_18 : decode y_MM_add4.2.1 18 = .ok (.invokevirtual 152, 3) := by decide +kernel
theorem d_MM_add4_21 : decode y_MM_add4.2.1 21 = .ok (.iinc 2 (-8), 3) := by decide +kernel
theorem d_MM_add4_24 : decode y_MM_add4.2.1 24 = .ok (.goto (-21), 3) := by decide +kernel
def h_MM_add4_3 (G : mG) (d : Nat) (a0 : Nat) (l1 : Int) (l2 : Int) (M : mM) (Q : mM → Prop) : Prop := mWm G y_MM_add4 (d + 1) 3 [vr a0, vi l1, vi l2] [] M (fun r9 M9 => r9 = none ∧ Q M9)
theorem k_MM_add4 {G : mG} {d : Nat} {a0 : Nat} {l1 : Int} {M : mM} {Q : mM → Prop} (hO : mOk M) (hi_l1 : i32 l1)
    (h : h_MM_add4_3 G d a0 l1 24 M Q) :
    Cv G y_MM_add4 (d + 1) [vr a0, vi l1] M Q := by
  refine wm_open (y := y_MM_add4) rfl (Nat.le_of_ble_eq_true rfl) (L := [vr a0, vi l1, vd]) rfl ?_
  refine wm_bipush d_MM_add4_0 (by decide) ?_
  refine wm_istore_n d_MM_add4_2 rfl (by decide) (L' := [vr a0, vi l1, vi 24]) rfl ?_
  exact h
theorem k_MM_add4_3 {G : mG} {d : Nat} {a0 : Nat} {l1 : Int} {l2 : Int} {M : mM} {Q : mM → Prop} (hO : mOk M) (hi_l1 : i32 l1) (hi_l2 : i32 l2)
    (h : ((l2 < 0) → (Q M)) ∧ (¬ (l2 < 0) → (mK M a0 = 14 ∧ mK M (mR M a0 1) = 15 ∧ Cv G y_MN_add d [vr (mR M a0 1), vi (andI (shrI l1 l2) 255)] M (fun M5 => mOk M5 ∧ (h_MM_add4_3 G d a0 l1 (l2 + (-8)) M5 Q))))) :
    h_MM_add4_3 G d a0 l1 l2 M Q := by
  unfold h_MM_add4_3
  refine wm_iload_n d_MM_add4_3 rfl rfl ?_
  refine wm_if_lt (tgt := 27) d_MM_add4_4 rfl hi_l2 (fun c2 => ?_) (fun c2 => ?_)
  · replace h := h.1 c2
    refine wm_return d_MM_add4_27 rfl ?_
    exact ⟨rfl, h⟩
  · replace h := h.2 c2
    obtain ⟨h3, h⟩ := h
    obtain ⟨h4, h⟩ := h
    refine wm_aload_n d_MM_add4_7 rfl rfl ?_
    refine gf_MM_10 rfl d_MM_add4_8 h3 ?_
    refine wm_iload_n d_MM_add4_11 rfl rfl ?_
    refine wm_iload_n d_MM_add4_12 rfl rfl ?_
    refine wm_ishr d_MM_add4_13 ?_
    refine wm_sipush d_MM_add4_14 (by decide) ?_
    refine wm_iand d_MM_add4_17 ?_
    refine cf_MM_152 rfl d_MM_add4_18 h4 (Nat.le_of_ble_eq_true rfl) (Cv.mono h (fun M5 h => ?_))
    obtain ⟨hOM5, h⟩ := h
    refine wm_iinc d_MM_add4_21 (by decide) rfl (L' := [vr a0, vi l1, vi (l2 + (-8))]) rfl ?_
    refine wm_goto (tgt := 3) d_MM_add4_24 rfl ?_
    exact h
theorem d_MM_end_0 : decode y_MM_end.2.1 0 = .ok (.aload_n 0, 1) := by decide +kernel
theorem d_MM_end_1 : decode y_MM_end.2.1 1 = .ok (.iload_n 1, 1) := by decide +kernel
theorem d_MM_end_2 : decode y_MM_end.2.1 2 = .ok (.ifCond .lt 21, 3) := by decide +kernel
theorem d_MM_end_23 : decode y_MM_end.2.1 23 = .ok (.iconst 1, 1) := by decide +kernel
theorem d_MM_end_24 : decode y_MM_end.2.1 24 = .ok (.goto 4, 3) := by decide +kernel
theorem d_MM_end_5 : decode y_MM_end.2.1 5 = .ok (.iload_n 1, 1) := by decide +kernel
theorem d_MM_end_6 : decode y_MM_end.2.1 6 = .ok (.bipush 20, 2) := by decide +kernel
theorem d_MM_end_8 : decode y_MM_end.2.1 8 = .ok (.if_icmp .gt 15, 3) := by decide +kernel
theorem d_MM_end_11 : decode y_MM_end.2.1 11 = .ok (.aload_n 0, 1) := by decide +kernel
theorem d_MM_end_12 : decode y_MM_end.2.1 12 = .ok (.getfield 10, 3) := by decide +kernel
theorem d_MM_end_15 : decode y_MM_end.2.1 15 = .ok (.getfield 145, 3) := by decide +kernel
theorem d_MM_end_18 : decode y_MM_end.2.1 18 = .ok (.bipush 20, 2) := by decide +kernel
theorem d_MM_end_20 : decode y_MM_end.2.1 20 = .ok (.if_icmp .ge 7, 3) := by decide +kernel
theorem d_MM_end_27 : decode y_MM_end.2.1 27 = .ok (.iconst 0, 1) := by decide +kernel
theorem d_MM_end_28 : decode y_MM_end.2.1 28 = .ok (.putfield 142, 3) := by decide +kernel
theorem d_MM_end_31 : decode y_MM_end.2.1 31 = .ok (.aload_n 0, 1) := by decide +kernel
theorem d_MM_end_32 : decode y_MM_end.2.1 32 = .ok (.getfield 142, 3) := by decide +kernel
theorem d_MM_end_35 : decode y_MM_end.2.1 35 = .ok (.ifCond .le 5, 3) := by decide +kernel
theorem d_MM_end_40 : decode y_MM_end.2.1 40 = .ok (.aload_n 0, 1) := by decide +kernel
theorem d_MM_end_41 : decode y_MM_end.2.1 41 = .ok (.getfield 10, 3) := by decide +kernel
theorem d_MM_end_44 : decode y_MM_end.2.1 44 = .ok (.aload_n 0, 1) := by decide +kernel
theorem d_MM_end_45 : decode y_MM_end.2.1 45 = .ok (.getfield 10, 3) := by decide +kernel
theorem d_MM_end_48 : decode y_MM_end.2.1 48 = .ok (.getfield 145, 3) := by decide +kernel
theorem d_MM_end_51 : decode y_MM_end.2.1 51 = .ok (.bipush 20, 2) := by decide +kernel
theorem d_MM_end_53 : decode y_MM_end.2.1 53 = .ok (.isub, 1) := by decide +kernel
theorem d_MM_end_54 : decode y_MM_end.2.1 54 = .ok (.iload_n 1, 1) := by decide +kernel
theorem d_MM_end_55 : decode y_MM_end.2.1 55 = .ok (.iadd, 1) := by decide +kernel
theorem d_MM_end_56 : decode y_MM_end.2.1 56 = .ok (.putfield 145, 3) := by decide +kernel
theorem d_MM_end_59 : decode y_MM_end.2.1 59 = .ok (.aload_n 0, 1) := by decide +kernel
theorem d_MM_end_60 : decode y_MM_end.2.1 60 = .ok (.getfield 10, 3) := by decide +kernel
theorem d_MM_end_63 : decode y_MM_end.2.1 63 = .ok (.getfield 145, 3) := by decide +kernel
theorem d_MM_end_66 : decode y_MM_end.2.1 66 = .ok (.ireturn, 1) := by decide +kernel
theorem d_MM_end_38 : decode y_MM_end.2.1 38 = .ok (.iconst 0, 1) := by decide +kernel
theorem d_MM_end_39 : decode y_MM_end.2.1 39 = .ok (.ireturn, 1) := by decide +kernel
theorem k_MM_end {G : mG} {d : Nat} {a0 : Nat} {l1 : Int} {M : mM} {Q : Int → mM → Prop} (hO : mOk M) (hi_l1 : i32 l1)
    (h : (¬ (l1 < 0) → (¬ (20 < l1) → (mK M a0 = 14 ∧ mK M (mR M a0 1) = 15))) ∧ ∀ v6 : Int, v6 = (if ((l1 < 0) ∨ ((20 < l1) ∨ (¬ (20 ≤ mI M (mR M a0 1) 1)))) then 1 else 0) → mK M a0 = 14 ∧ ∀ M12, M12 = mUI M a0 0 v6 → ((mI M12 a0 0 ≤ 0) → (mK M12 (mR M12 a0 1) = 15 ∧ i32 (((mI M12 (mR M12 a0 1) 1) - 20) + l1) ∧ ∀ M21, M21 = mUI M12 (mR M12 a0 1) 1 (((mI M12 (mR M12 a0 1) 1) - 20) + l1) → mK M21 (mR M21 a0 1) = 15 ∧ Q (mI M21 (mR M21 a0 1) 1) M21)) ∧ (¬ (mI M12 a0 0 ≤ 0) → (Q 0 M12))) :
    Ci G y_MM_end d [vr a0, vi l1] M Q := by
  refine wm_open (y := y_MM_end) rfl (Nat.le_of_ble_eq_true rfl) (L := [vr a0, vi l1]) rfl ?_
  refine wm_aload_n d_MM_end_0 rfl rfl ?_
  refine wm_iload_n d_MM_end_1 rfl rfl ?_
  obtain ⟨s7, h⟩ := h
  have hJ : ∀ v6 : Int, v6 = (if ((l1 < 0) ∨ ((20 < l1) ∨ (¬ (20 ≤ mI M (mR M a0 1) 1)))) then 1 else 0) → mWm G y_MM_end d 28 [vr a0, vi l1] [vi v6, vr a0] M (fun r9 M9 => ∃ x9, r9 = some (vi x9) ∧ Q x9 M9) := by
    intro v6 e8
    have h := h v6 e8
    have h9 : i32 v6 := by rw [e8]; (repeat' split) <;> first | exact ⟨by decide, by decide⟩ | exact ⟨by decide, by decide⟩
    have h10 : (v6 = 0 ∨ v6 = 1) := by rw [e8]; (repeat' split) <;> decide
    obtain ⟨h11, h⟩ := h
    obtain ⟨M12, e13⟩ : ∃ M12, M12 = mUI M a0 0 v6 := ⟨_, rfl⟩
    replace h := h M12 e13
    have hOM12 : mOk M12 := by rw [e13]; exact mOk_UI hO h9
    refine pf_MM_142 rfl d_MM_end_28 h11 h9 e13 ?_
    refine wm_aload_n d_MM_end_31 rfl rfl ?_
    refine gf_MM_142 rfl d_MM_end_32 (by rw [e13]; exact h11) ?_
    refine wm_if_le (tgt := 40) d_MM_end_35 rfl (hOM12 _ _).1 (fun c18 => ?_) (fun c18 => ?_)
    · replace h := h.1 c18
      obtain ⟨h19, h⟩ := h
      obtain ⟨h20, h⟩ := h
      obtain ⟨M21, e22⟩ : ∃ M21, M21 = mUI M12 (mR M12 a0 1) 1 (((mI M12 (mR M12 a0 1) 1) - 20) + l1) := ⟨_, rfl⟩
      replace h := h M21 e22
      obtain ⟨h23, h⟩ := h
      refine wm_aload_n d_MM_end_40 rfl rfl ?_
      refine gf_MM_10 rfl d_MM_end_41 (by rw [e13]; exact h11) ?_
      refine wm_aload_n d_MM_end_44 rfl rfl ?_
      refine gf_MM_10 rfl d_MM_end_45 (by rw [e13]; exact h11) ?_
      refine gf_MM_145 rfl d_MM_end_48 h19 ?_
      refine wm_bipush d_MM_end_51 (by decide) ?_
      refine wm_isub d_MM_end_53 ?_
      refine wm_iload_n d_MM_end_54 rfl rfl ?_
      refine wm_iadd d_MM_end_55 ?_
      have hOM21 : mOk M21 := by rw [e22]; exact mOk_UI hOM12 h20
      refine pf_MM_145 rfl d_MM_end_56 h19 h20 e22 ?_
      refine wm_aload_n d_MM_end_59 rfl rfl ?_
      refine gf_MM_10 rfl d_MM_end_60 (by rw [e22, e13]; exact h11) ?_
      refine gf_MM_145 rfl d_MM_end_63 h23 ?_
      refine wm_ireturn d_MM_end_66 rfl rfl ?_
      exact ⟨_, rfl, h⟩
    · replace h := h.2 c18
      refine wm_iconst d_MM_end_38 ?_
      refine wm_ireturn d_MM_end_39 rfl rfl ?_
      exact ⟨_, rfl, h⟩
  clear h
  have s24 := s7
  refine wm_if_lt (tgt := 23) d_MM_end_2 rfl hi_l1 (fun c1 => ?_) (fun c1 => ?_)
  · refine wm_iconst d_MM_end_23 ?_
    refine wm_goto (tgt := 28) d_MM_end_24 rfl ?_
    exact hJ 1 (if_pos (Or.inl c1)).symm
  · have s24 := s24 c1
    have s25 := s24
    refine wm_iload_n d_MM_end_5 rfl rfl ?_
    refine wm_bipush d_MM_end_6 (by decide) ?_
    refine wm_icmp_gt (tgt := 23) d_MM_end_8 rfl hi_l1 ⟨by decide, by decide⟩ (fun c2 => ?_) (fun c2 => ?_)
    · refine wm_iconst d_MM_end_23 ?_
      refine wm_goto (tgt := 28) d_MM_end_24 rfl ?_
      exact hJ 1 (if_pos (Or.inr (Or.inl c2))).symm
    · have s25 := s25 c2
      obtain ⟨h3, h4⟩ := s25
      refine wm_aload_n d_MM_end_11 rfl rfl ?_
      refine gf_MM_10 rfl d_MM_end_12 h3 ?_
      refine gf_MM_145 rfl d_MM_end_15 h4 ?_
      refine wm_bipush d_MM_end_18 (by decide) ?_
      refine wm_icmp_ge (tgt := 27) d_MM_end_20 rfl (hO _ _).1 ⟨by decide, by decide⟩ (fun c5 => ?_) (fun c5 => ?_)
      · refine wm_iconst d_MM_end_27 ?_
        exact hJ 0 (if_neg (fun z26 => Or.elim z26 c1 (fun z27 => Or.elim z27 c2 (fun z28 => z28 c5)))).symm
      · refine wm_iconst d_MM_end_23 ?_
        refine wm_goto (tgt := 28) d_MM_end_24 rfl ?_
        exact hJ 1 (if_pos (Or.inr (Or.inr c5))).symm
theorem d_MM_letter_0 : decode y_MM_letter.2.1 0 = .ok (.iload_n 1, 1) := by decide +kernel
theorem d_MM_letter_1 : decode y_MM_letter.2.1 1 = .ok (.aload_n 0, 1) := by decide +kernel
theorem d_MM_letter_2 : decode y_MM_letter.2.1 2 = .ok (.getfield 16, 3) := by decide +kernel
theorem d_MM_letter_5 : decode y_MM_letter.2.1 5 = .ok (.getfield 145, 3) := by decide +kernel
theorem d_MM_letter_8 : decode y_MM_letter.2.1 8 = .ok (.if_icmp .ge 14, 3) := by decide +kernel
theorem d_MM_letter_22 : decode y_MM_letter.2.1 22 = .ok (.iconst 0, 1) := by decide +kernel
theorem d_MM_letter_11 : decode y_MM_letter.2.1 11 = .ok (.aload_n 0, 1) := by decide +kernel
theorem d_MM_letter_12 : decode y_MM_letter.2.1 12 = .ok (.getfield 16, 3) := by decide +kernel
theorem d_MM_letter_15 : decode y_MM_letter.2.1 15 = .ok (.iload_n 1, 1) := by decide +kernel
theorem d_MM_letter_23 : decode y_MM_letter.2.1 23 = .ok (.ireturn, 1) := by decide +kernel
theorem d_MM_letter_16 : decode y_MM_letter.2.1 16 = .ok (.invokevirtual 155, 3) := by decide +kernel
theorem d_MM_letter_19 : decode y_MM_letter.2.1 19 = .ok (.goto 4, 3) := by decide +kernel
theorem k_MM_letter {G : mG} {d : Nat} {a0 : Nat} {l1 : Int} {M : mM} {Q : Int → mM → Prop} (hO : mOk M) (hi_l1 : i32 l1)
    (h : mK M a0 = 14 ∧ mK M (mR M a0 2) = 15 ∧ ((mI M (mR M a0 2) 1 ≤ l1) → (Q 0 M)) ∧ (¬ (mI M (mR M a0 2) 1 ≤ l1) → (Ci G y_MN_at d [vr (mR M a0 2), vi l1] M (fun x7 M6 => i32 x7 ∧ mOk M6 ∧ (Q x7 M6))))) :
    Ci G y_MM_letter (d + 1) [vr a0, vi l1] M Q := by
  refine wm_open (y := y_MM_letter) rfl (Nat.le_of_ble_eq_true rfl) (L := [vr a0, vi l1]) rfl ?_
  obtain ⟨h1, h⟩ := h
  obtain ⟨h2, h⟩ := h
  refine wm_iload_n d_MM_letter_0 rfl rfl ?_
  refine wm_aload_n d_MM_letter_1 rfl rfl ?_
  refine gf_MM_16 rfl d_MM_letter_2 h1 ?_
  refine gf_MM_145 rfl d_MM_letter_5 h2 ?_
  refine wm_icmp_ge (tgt := 22) d_MM_letter_8 rfl hi_l1 (hO _ _).1 (fun c5 => ?_) (fun c5 => ?_)
  · replace h := h.1 c5
    refine wm_iconst d_MM_letter_22 ?_
    refine wm_ireturn d_MM_letter_23 rfl rfl ?_
    exact ⟨_, rfl, h⟩
  · replace h := h.2 c5
    refine wm_aload_n d_MM_letter_11 rfl rfl ?_
    refine gf_MM_16 rfl d_MM_letter_12 h1 ?_
    refine wm_iload_n d_MM_letter_15 rfl rfl ?_
    refine cf_MM_155 rfl d_MM_letter_16 h2 (Nat.le_of_ble_eq_true rfl) (Ci.mono h (fun x7 M6 h => ?_))
    obtain ⟨h8, hOM6, h⟩ := h
    refine wm_goto (tgt := 23) d_MM_letter_19 rfl ?_
    refine wm_ireturn d_MM_letter_23 rfl rfl ?_
    exact ⟨_, rfl, h⟩
