theorem d_Sc_order_0 : decode y_Sc_order.2.1 0 = .ok (.aload_n 1, 1) := by decide +kernel
theorem d_Sc_order_1 : decode y_Sc_order.2.1 1 = .ok (.getfield 108, 3) := by decide +kernel
theorem d_Sc_order_4 : decode y_Sc_order.2.1 4 = .ok (.aload_n 2, 1) := by decide +kernel
theorem d_Sc_order_5 : decode y_Sc_order.2.1 5 = .ok (.getfield 108, 3) := by decide +kernel
theorem d_Sc_order_8 : decode y_Sc_order.2.1 8 = .ok (.invokestatic 65, 3) := by decide +kernel
theorem d_Sc_order_11 : decode y_Sc_order.2.1 11 = .ok (.ifCond .ne 28, 3) := by decide +kernel
theorem d_Sc_order_14 : decode y_Sc_order.2.1 14 = .ok (.aload_n 0, 1) := by decide +kernel
theorem d_Sc_order_15 : decode y_Sc_order.2.1 15 = .ok (.getfield 27, 3) := by decide +kernel
theorem d_Sc_order_18 : decode y_Sc_order.2.1 18 = .ok (.aload_n 1, 1) := by decide +kernel
theorem d_Sc_order_19 : decode y_Sc_order.2.1 19 = .ok (.getfield 118, 3) := by decide +kernel
theorem d_Sc_order_39 : decode y_Sc_order.2.1 39 = .ok (.aload_n 0, 1) := by decide +kernel
theorem d_Sc_order_40 : decode y_Sc_order.2.1 40 = .ok (.getfield 27, 3) := by decide +kernel
theorem d_Sc_order_43 : decode y_Sc_order.2.1 43 = .ok (.aload_n 1, 1) := by decide +kernel
theorem d_Sc_order_44 : decode y_Sc_order.2.1 44 = .ok (.getfield 118, 3) := by decide +kernel
theorem d_Sc_order_47 : decode y_Sc_order.2.1 47 = .ok (.aload_n 2, 1) := by decide +kernel
theorem d_Sc_order_48 : decode y_Sc_order.2.1 48 = .ok (.getfield 108, 3) := by decide +kernel
theorem d_Sc_order_22 : decode y_Sc_order.2.1 22 = .ok (.invokevirtual 69, 3) := by decide +kernel
theorem d_Sc_order_25 : decode y_Sc_order.2.1 25 = .ok (.aload_n 0, 1) := by decide +kernel
theorem d_Sc_order_26 : decode y_Sc_order.2.1 26 = .ok (.getfield 30, 3) := by decide +kernel
theorem d_Sc_order_29 : decode y_Sc_order.2.1 29 = .ok (.aload_n 2, 1) := by decide +kernel
theorem d_Sc_order_30 : decode y_Sc_order.2.1 30 = .ok (.getfield 118, 3) := by decide +kernel
theorem d_Sc_order_33 : decode y_Sc_order.2.1 33 = .ok (.invokevirtual 69, 3) := by decide +kernel
theorem d_Sc_order_36 : decode y_Sc_order.2.1 36 = .ok (.goto 33, 3) := by decide +kernel
theorem d_Sc_order_69 : decode y_Sc_order.2.1 69 = .ok (.aload_n 0, 1) := by decide +kernel
theorem d_Sc_order_70 : decode y_Sc_order.2.1 70 = .ok (.getfield 27, 3) := by decide +kernel
theorem d_Sc_order_73 : decode y_Sc_order.2.1 73 = .ok (.aload_n 2, 1) := by decide +kernel
theorem d_Sc_order_74 : decode y_Sc_order.2.1 74 = .ok (.getfield 111, 3) := by decide +kernel
theorem d_Sc_order_77 : decode y_Sc_order.2.1 77 = .ok (.invokevirtual 114, 3) := by decide +kernel
theorem d_Sc_order_80 : decode y_Sc_order.2.1 80 = .ok (.aload_n 0, 1) := by decide +kernel
theorem d_Sc_order_81 : decode y_Sc_order.2.1 81 = .ok (.getfield 30, 3) := by decide +kernel
theorem d_Sc_order_84 : decode y_Sc_order.2.1 84 = .ok (.aload_n 1, 1) := by decide +kernel
theorem d_Sc_order_85 : decode y_Sc_order.2.1 85 = .ok (.getfield 111, 3) := by decide +kernel
theorem d_Sc_order_88 : decode y_Sc_order.2.1 88 = .ok (.invokevirtual 114, 3) := by decide +kernel
theorem d_Sc_order_91 : decode y_Sc_order.2.1 91 = .ok (.aload_n 0, 1) := by decide +kernel
theorem d_Sc_order_92 : decode y_Sc_order.2.1 92 = .ok (.getfield 27, 3) := by decide +kernel
theorem d_Sc_order_95 : decode y_Sc_order.2.1 95 = .ok (.aload_n 0, 1) := by decide +kernel
theorem d_Sc_order_96 : decode y_Sc_order.2.1 96 = .ok (.getfield 30, 3) := by decide +kernel
theorem d_Sc_order_99 : decode y_Sc_order.2.1 99 = .ok (.invokestatic 65, 3) := by decide +kernel
theorem d_Sc_order_102 : decode y_Sc_order.2.1 102 = .ok (.ireturn, 1) := by decide +kernel
theorem d_Sc_order_51 : decode y_Sc_order.2.1 51 = .ok (.invokevirtual 130, 3) := by decide +kernel
theorem d_Sc_order_54 : decode y_Sc_order.2.1 54 = .ok (.aload_n 0, 1) := by decide +kernel
theorem d_Sc_order_55 : decode y_Sc_order.2.1 55 = .ok (.getfield 30, 3) := by decide +kernel
theorem d_Sc_order_58 : decode y_Sc_order.2.1 58 = .ok (.aload_n 2, 1) := by decide +kernel
theorem d_Sc_order_59 : decode y_Sc_order.2.1 59 = .ok (.getfield 118, 3) := by decide +kernel
theorem d_Sc_order_62 : decode y_Sc_order.2.1 62 = .ok (.aload_n 1, 1) := by decide +kernel
theorem d_Sc_order_63 : decode y_Sc_order.2.1 63 = .ok (.getfield 108, 3) := by decide +kernel
theorem d_Sc_order_66 : decode y_Sc_order.2.1 66 = .ok (.invokevirtual 130, 3) := by decide +kernel
theorem k_Sc_order {G : mG} {d : Nat} {a0 : Nat} {a1 : Nat} {a2 : Nat} {M : mM} {Q : Int → mM → Prop} (hO : mOk M)
    (h : mK M a1 = 11 ∧ mK M a2 = 11 ∧ Ci G y_Na_order d [vr (mR M a1 1), vr (mR M a2 1)] M (fun x4 M3 => i32 x4 ∧ mOk M3 ∧ (((x4 = 0) → (mK M3 a0 = 9 ∧ mK M3 a1 = 11 ∧ mK M3 (mR M3 a0 4) = 10 ∧ Cv G y_Na_put1 d [vr (mR M3 a0 4), vr (mR M3 a1 0)] M3 (fun M14 => mOk M14 ∧ (mK M14 a0 = 9 ∧ mK M14 a2 = 11 ∧ mK M14 (mR M14 a0 5) = 10 ∧ Cv G y_Na_put1 d [vr (mR M14 a0 5), vr (mR M14 a2 0)] M14 (fun M20 => mOk M20 ∧ (mK M20 a0 = 9 ∧ mK M20 a2 = 11 ∧ mK M20 (mR M20 a0 4) = 10 ∧ Cv G y_Na_multiply d [vr (mR M20 a0 4), vi (mI M20 a2 2)] M20 (fun M26 => mOk M26 ∧ (mK M26 a0 = 9 ∧ mK M26 a1 = 11 ∧ mK M26 (mR M26 a0 5) = 10 ∧ Cv G y_Na_multiply d [vr (mR M26 a0 5), vi (mI M26 a1 2)] M26 (fun M32 => mOk M32 ∧ (mK M32 a0 = 9 ∧ Ci G y_Na_order d [vr (mR M32 a0 4), vr (mR M32 a0 5)] M32 (fun x37 M36 => i32 x37 ∧ mOk M36 ∧ (Q x37 M36)))))))))))) ∧ (¬ (x4 = 0) → (mK M3 a0 = 9 ∧ mK M3 a1 = 11 ∧ mK M3 a2 = 11 ∧ mK M3 (mR M3 a0 4) = 10 ∧ Cv G y_Na_putProduct d [vr (mR M3 a0 4), vr (mR M3 a1 0), vr (mR M3 a2 1)] M3 (fun M43 => mOk M43 ∧ (mK M43 a0 = 9 ∧ mK M43 a2 = 11 ∧ mK M43 a1 = 11 ∧ mK M43 (mR M43 a0 5) = 10 ∧ Cv G y_Na_putProduct d [vr (mR M43 a0 5), vr (mR M43 a2 0), vr (mR M43 a1 1)] M43 (fun M50 => mOk M50 ∧ (mK M50 a0 = 9 ∧ mK M50 a2 = 11 ∧ mK M50 (mR M50 a0 4) = 10 ∧ Cv G y_Na_multiply d [vr (mR M50 a0 4), vi (mI M50 a2 2)] M50 (fun M56 => mOk M56 ∧ (mK M56 a0 = 9 ∧ mK M56 a1 = 11 ∧ mK M56 (mR M56 a0 5) = 10 ∧ Cv G y_Na_multiply d [vr (mR M56 a0 5), vi (mI M56 a1 2)] M56 (fun M62 => mOk M62 ∧ (mK M62 a0 = 9 ∧ Ci G y_Na_order d [vr (mR M62 a0 4), vr (mR M62 a0 5)] M62 (fun x67 M66 => i32 x67 ∧ mOk M66 ∧ (Q x67 M66))))))))))))))) :
    Ci G y_Sc_order (d + 1) [vr a0, vr a1, vr a2] M Q := by
  refine wm_open (y := y_Sc_order) rfl (Nat.le_of_ble_eq_true rfl) (L := [vr a0, vr a1, vr a2]) rfl ?_
  obtain ⟨h1, h⟩ := h
  obtain ⟨h2, h⟩ := h
  refine wm_aload_n d_Sc_order_0 rfl rfl ?_
  refine gf_Sc_108 rfl d_Sc_order_1 h1 ?_
  refine wm_aload_n d_Sc_order_4 rfl rfl ?_
  refine gf_Sc_108 rfl d_Sc_order_5 h2 ?_
  refine cf_Sc_65 rfl d_Sc_order_8 (Nat.le_of_ble_eq_true rfl) (Ci.mono h (fun x4 M3 h => ?_))
  obtain ⟨h5, hOM3, h⟩ := h
  refine wm_if_ne (tgt := 39) d_Sc_order_11 rfl h5 (fun c10 => ?_) (fun c10 => ?_)
  · replace h := h.2 c10
    obtain ⟨h39, h⟩ := h
    obtain ⟨h40, h⟩ := h
    obtain ⟨h41, h⟩ := h
    obtain ⟨h42, h⟩ := h
    refine wm_aload_n d_Sc_order_39 rfl rfl ?_
    refine gf_Sc_27 rfl d_Sc_order_40 h39 ?_
    refine wm_aload_n d_Sc_order_43 rfl rfl ?_
    refine gf_Sc_118 rfl d_Sc_order_44 h40 ?_
    refine wm_aload_n d_Sc_order_47 rfl rfl ?_
    refine gf_Sc_108 rfl d_Sc_order_48 h41 ?_
    refine cf_Sc_130 rfl d_Sc_order_51 h42 (Nat.le_of_ble_eq_true rfl) (Cv.mono h (fun M43 h => ?_))
    obtain ⟨hOM43, h⟩ := h
    obtain ⟨h46, h⟩ := h
    obtain ⟨h47, h⟩ := h
    obtain ⟨h48, h⟩ := h
    obtain ⟨h49, h⟩ := h
    refine wm_aload_n d_Sc_order_54 rfl rfl ?_
    refine gf_Sc_30 rfl d_Sc_order_55 h46 ?_
    refine wm_aload_n d_Sc_order_58 rfl rfl ?_
    refine gf_Sc_118 rfl d_Sc_order_59 h47 ?_
    refine wm_aload_n d_Sc_order_62 rfl rfl ?_
    refine gf_Sc_108 rfl d_Sc_order_63 h48 ?_
    refine cf_Sc_130 rfl d_Sc_order_66 h49 (Nat.le_of_ble_eq_true rfl) (Cv.mono h (fun M50 h => ?_))
    obtain ⟨hOM50, h⟩ := h
    obtain ⟨h53, h⟩ := h
    obtain ⟨h54, h⟩ := h
    obtain ⟨h55, h⟩ := h
    refine wm_aload_n d_Sc_order_69 rfl rfl ?_
    refine gf_Sc_27 rfl d_Sc_order_70 h53 ?_
    refine wm_aload_n d_Sc_order_73 rfl rfl ?_
    refine gf_Sc_111 rfl d_Sc_order_74 h54 ?_
    refine cf_Sc_114 rfl d_Sc_order_77 h55 (Nat.le_of_ble_eq_true rfl) (Cv.mono h (fun M56 h => ?_))
    obtain ⟨hOM56, h⟩ := h
    obtain ⟨h59, h⟩ := h
    obtain ⟨h60, h⟩ := h
    obtain ⟨h61, h⟩ := h
    refine wm_aload_n d_Sc_order_80 rfl rfl ?_
    refine gf_Sc_30 rfl d_Sc_order_81 h59 ?_
    refine wm_aload_n d_Sc_order_84 rfl rfl ?_
    refine gf_Sc_111 rfl d_Sc_order_85 h60 ?_
    refine cf_Sc_114 rfl d_Sc_order_88 h61 (Nat.le_of_ble_eq_true rfl) (Cv.mono h (fun M62 h => ?_))
    obtain ⟨hOM62, h⟩ := h
    obtain ⟨h65, h⟩ := h
    refine wm_aload_n d_Sc_order_91 rfl rfl ?_
    refine gf_Sc_27 rfl d_Sc_order_92 h65 ?_
    refine wm_aload_n d_Sc_order_95 rfl rfl ?_
    refine gf_Sc_30 rfl d_Sc_order_96 h65 ?_
    refine cf_Sc_65 rfl d_Sc_order_99 (Nat.le_of_ble_eq_true rfl) (Ci.mono h (fun x67 M66 h => ?_))
    obtain ⟨h68, hOM66, h⟩ := h
    refine wm_ireturn d_Sc_order_102 rfl rfl ?_
    exact ⟨_, rfl, h⟩
  · replace c10 := Classical.not_not.mp c10
    replace h := h.1 c10
    obtain ⟨h11, h⟩ := h
    obtain ⟨h12, h⟩ := h
    obtain ⟨h13, h⟩ := h
    refine wm_aload_n d_Sc_order_14 rfl rfl ?_
    refine gf_Sc_27 rfl d_Sc_order_15 h11 ?_
    refine wm_aload_n d_Sc_order_18 rfl rfl ?_
    refine gf_Sc_118 rfl d_Sc_order_19 h12 ?_
    refine cf_Sc_69 rfl d_Sc_order_22 h13 (Nat.le_of_ble_eq_true rfl) (Cv.mono h (fun M14 h => ?_))
    obtain ⟨hOM14, h⟩ := h
    obtain ⟨h17, h⟩ := h
    obtain ⟨h18, h⟩ := h
    obtain ⟨h19, h⟩ := h
    refine wm_aload_n d_Sc_order_25 rfl rfl ?_
    refine gf_Sc_30 rfl d_Sc_order_26 h17 ?_
    refine wm_aload_n d_Sc_order_29 rfl rfl ?_
    refine gf_Sc_118 rfl d_Sc_order_30 h18 ?_
    refine cf_Sc_69 rfl d_Sc_order_33 h19 (Nat.le_of_ble_eq_true rfl) (Cv.mono h (fun M20 h => ?_))
    obtain ⟨hOM20, h⟩ := h
    obtain ⟨h23, h⟩ := h
    obtain ⟨h24, h⟩ := h
    obtain ⟨h25, h⟩ := h
    refine wm_goto (tgt := 69) d_Sc_order_36 rfl ?_
    refine wm_aload_n d_Sc_order_69 rfl rfl ?_
    refine gf_Sc_27 rfl d_Sc_order_70 h23 ?_
    refine wm_aload_n d_Sc_order_73 rfl rfl ?_
    refine gf_Sc_111 rfl d_Sc_order_74 h24 ?_
    refine cf_Sc_114 rfl d_Sc_order_77 h25 (Nat.le_of_ble_eq_true rfl) (Cv.mono h (fun M26 h => ?_))
    obtain ⟨hOM26, h⟩ := h
    obtain ⟨h29, h⟩ := h
    obtain ⟨h30, h⟩ := h
    obtain ⟨h31, h⟩ := h
    refine wm_aload_n d_Sc_order_80 rfl rfl ?_
    refine gf_Sc_30 rfl d_Sc_order_81 h29 ?_
    refine wm_aload_n d_Sc_order_84 rfl rfl ?_
    refine gf_Sc_111 rfl d_Sc_order_85 h30 ?_
    refine cf_Sc_114 rfl d_Sc_order_88 h31 (Nat.le_of_ble_eq_true rfl) (Cv.mono h (fun M32 h => ?_))
    obtain ⟨hOM32, h⟩ := h
    obtain ⟨h35, h⟩ := h
    refine wm_aload_n d_Sc_order_91 rfl rfl ?_
    refine gf_Sc_27 rfl d_Sc_order_92 h35 ?_
    refine wm_aload_n d_Sc_order_95 rfl rfl ?_
    refine gf_Sc_30 rfl d_Sc_order_96 h35 ?_
    refine cf_Sc_65 rfl d_Sc_order_99 (Nat.le_of_ble_eq_true rfl) (Ci.mono h (fun x37 M36 h => ?_))
    obtain ⟨h38, hOM36, h⟩ := h
    refine wm_ireturn d_Sc_order_102 rfl rfl ?_
    exact ⟨_, rfl, h⟩
theorem d_Sc_weigh_0 : decode y_Sc_weigh.2.1 0 = .ok (.aload 4, 2) := by decide +kernel
theorem d_Sc_weigh_2 : decode y_Sc_weigh.2.1 2 = .ok (.iconst 0, 1) := by decide +kernel
theorem d_Sc_weigh_3 : decode y_Sc_weigh.2.1 3 = .ok (.invokevirtual 134, 3) := by decide +kernel
theorem d_Sc_weigh_6 : decode y_Sc_weigh.2.1 6 = .ok (.aload 4, 2) := by decide +kernel
theorem d_Sc_weigh_8 : decode y_Sc_weigh.2.1 8 = .ok (.aload_n 1, 1) := by decide +kernel
theorem d_Sc_weigh_9 : decode y_Sc_weigh.2.1 9 = .ok (.getfield 135, 3) := by decide +kernel
theorem d_Sc_weigh_12 : decode y_Sc_weigh.2.1 12 = .ok (.iload_n 2, 1) := by decide +kernel
theorem d_Sc_weigh_13 : decode y_Sc_weigh.2.1 13 = .ok (.iaload, 1) := by decide +kernel
theorem d_Sc_weigh_14 : decode y_Sc_weigh.2.1 14 = .ok (.putfield 111, 3) := by decide +kernel
theorem d_Sc_weigh_17 : decode y_Sc_weigh.2.1 17 = .ok (.aload_n 1, 1) := by decide +kernel
theorem d_Sc_weigh_18 : decode y_Sc_weigh.2.1 18 = .ok (.getfield 140, 3) := by decide +kernel
theorem d_Sc_weigh_21 : decode y_Sc_weigh.2.1 21 = .ok (.iload_n 2, 1) := by decide +kernel
theorem d_Sc_weigh_22 : decode y_Sc_weigh.2.1 22 = .ok (.iaload, 1) := by decide +kernel
theorem d_Sc_weigh_23 : decode y_Sc_weigh.2.1 23 = .ok (.istore 5, 2) := by decide +kernel
theorem d_Sc_weigh_25 : decode y_Sc_weigh.2.1 25 = .ok (.iload 5, 2) := by decide +kernel
theorem d_Sc_weigh_27 : decode y_Sc_weigh.2.1 27 = .ok (.aload_n 1, 1) := by decide +kernel
theorem d_Sc_weigh_28 : decode y_Sc_weigh.2.1 28 = .ok (.getfield 140, 3) := by decide +kernel
theorem d_Sc_weigh_31 : decode y_Sc_weigh.2.1 31 = .ok (.iload_n 2, 1) := by decide +kernel
theorem d_Sc_weigh_32 : decode y_Sc_weigh.2.1 32 = .ok (.iconst 1, 1) := by decide +kernel
theorem d_Sc_weigh_33 : decode y_Sc_weigh.2.1 33 = .ok (.iadd, 1) := by decide +kernel
theorem d_Sc_weigh_34 : decode y_Sc_weigh.2.1 34 = .ok (.iaload, 1) := by decide +kernel
theorem d_Sc_weigh_35 : decode y_Sc_weigh.2.1 35 = .ok (.if_icmp .ge 262, 3) := by decide +kernel
theorem d_Sc_weigh_297 : decode y_Sc_weigh.2.1 297 = .ok (.return_, 1) := by decide +kernel
theorem d_Sc_weigh_38 : decode y_Sc_weigh.2.1 38 = .ok (.aload_n 3, 1) := by decide +kernel
theorem d_Sc_weigh_39 : decode y_Sc_weigh.2.1 39 = .ok (.getfield 143, 3) := by decide +kernel
theorem d_Sc_weigh_42 : decode y_Sc_weigh.2.1 42 = .ok (.aload_n 1, 1) := by decide +kernel
theorem d_Sc_weigh_43 : decode y_Sc_weigh.2.1 43 = .ok (.getfield 149, 3) := by decide +kernel
theorem d_Sc_weigh_46 : decode y_Sc_weigh.2.1 46 = .ok (.iload 5, 2) := by decide +kernel
theorem d_Sc_weigh_48 : decode y_Sc_weigh.2.1 48 = .ok (.iaload, 1) := by decide +kernel
theorem d_Sc_weigh_49 : decode y_Sc_weigh.2.1 49 = .ok (.aaload, 1) := by decide +kernel
theorem d_Sc_weigh_50 : decode y_Sc_weigh.2.1 50 = .ok (.astore 6, 2) := by decide +kernel
theorem d_Sc_weigh_52 : decode y_Sc_weigh.2.1 52 = .ok (.aload_n 1, 1) := by decide +kernel
theorem d_Sc_weigh_53 : decode y_Sc_weigh.2.1 53 = .ok (.getfield 152, 3) := by decide +kernel
theorem d_Sc_weigh_56 : decode y_Sc_weigh.2.1 56 = .ok (.iload 5, 2) := by decide +kernel
theorem d_Sc_weigh_58 : decode y_Sc_weigh.2.1 58 = .ok (.iaload, 1) := by decide +kernel
theorem d_Sc_weigh_59 : decode y_Sc_weigh.2.1 59 = .ok (.istore 7, 2) := by decide +kernel
theorem d_Sc_weigh_61 : decode y_Sc_weigh.2.1 61 = .ok (.aload 6, 2) := by decide +kernel
theorem d_Sc_weigh_63 : decode y_Sc_weigh.2.1 63 = .ok (.getfield 118, 3) := by decide +kernel
theorem d_Sc_weigh_66 : decode y_Sc_weigh.2.1 66 = .ok (.getfield 57, 3) := by decide +kernel
theorem d_Sc_weigh_69 : decode y_Sc_weigh.2.1 69 = .ok (.ifCond .ne 6, 3) := by decide +kernel
theorem d_Sc_weigh_72 : decode y_Sc_weigh.2.1 72 = .ok (.goto 219, 3) := by decide +kernel
theorem d_Sc_weigh_75 : decode y_Sc_weigh.2.1 75 = .ok (.aload 4, 2) := by decide +kernel
theorem d_Sc_weigh_77 : decode y_Sc_weigh.2.1 77 = .ok (.getfield 108, 3) := by decide +kernel
theorem d_Sc_weigh_80 : decode y_Sc_weigh.2.1 80 = .ok (.aload 6, 2) := by decide +kernel
theorem d_Sc_weigh_82 : decode y_Sc_weigh.2.1 82 = .ok (.getfield 108, 3) := by decide +kernel
theorem d_Sc_weigh_85 : decode y_Sc_weigh.2.1 85 = .ok (.invokestatic 65, 3) := by decide +kernel
theorem d_Sc_weigh_88 : decode y_Sc_weigh.2.1 88 = .ok (.ifCond .ne 21, 3) := by decide +kernel
theorem d_Sc_weigh_91 : decode y_Sc_weigh.2.1 91 = .ok (.aload 4, 2) := by decide +kernel
theorem d_Sc_weigh_93 : decode y_Sc_weigh.2.1 93 = .ok (.getfield 118, 3) := by decide +kernel
theorem d_Sc_weigh_96 : decode y_Sc_weigh.2.1 96 = .ok (.aload 6, 2) := by decide +kernel
theorem d_Sc_weigh_98 : decode y_Sc_weigh.2.1 98 = .ok (.getfield 118, 3) := by decide +kernel
theorem d_Sc_weigh_101 : decode y_Sc_weigh.2.1 101 = .ok (.iload 7, 2) := by decide +kernel
theorem d_Sc_weigh_109 : decode y_Sc_weigh.2.1 109 = .ok (.aload_n 0, 1) := by decide +kernel
theorem d_Sc_weigh_110 : decode y_Sc_weigh.2.1 110 = .ok (.aload 4, 2) := by decide +kernel
theorem d_Sc_weigh_112 : decode y_Sc_weigh.2.1 112 = .ok (.getfield 108, 3) := by decide +kernel
theorem d_Sc_weigh_115 : decode y_Sc_weigh.2.1 115 = .ok (.aload 6, 2) := by decide +kernel
theorem d_Sc_weigh_117 : decode y_Sc_weigh.2.1 117 = .ok (.getfield 108, 3) := by decide +kernel
theorem d_Sc_weigh_103 : decode y_Sc_weigh.2.1 103 = .ok (.invokevirtual 155, 3) := by decide +kernel
theorem d_Sc_weigh_106 : decode y_Sc_weigh.2.1 106 = .ok (.goto 185, 3) := by decide +kernel
theorem d_Sc_weigh_120 : decode y_Sc_weigh.2.1 120 = .ok (.invokevirtual 123, 3) := by decide +kernel
theorem d_Sc_weigh_123 : decode y_Sc_weigh.2.1 123 = .ok (.astore 8, 2) := by decide +kernel
theorem d_Sc_weigh_125 : decode y_Sc_weigh.2.1 125 = .ok (.aload_n 0, 1) := by decide +kernel
theorem d_Sc_weigh_126 : decode y_Sc_weigh.2.1 126 = .ok (.getfield 37, 3) := by decide +kernel
theorem d_Sc_weigh_129 : decode y_Sc_weigh.2.1 129 = .ok (.aload 4, 2) := by decide +kernel
theorem d_Sc_weigh_131 : decode y_Sc_weigh.2.1 131 = .ok (.getfield 108, 3) := by decide +kernel
theorem d_Sc_weigh_134 : decode y_Sc_weigh.2.1 134 = .ok (.invokevirtual 69, 3) := by decide +kernel
theorem d_Sc_weigh_137 : decode y_Sc_weigh.2.1 137 = .ok (.aload_n 0, 1) := by decide +kernel
theorem d_Sc_weigh_138 : decode y_Sc_weigh.2.1 138 = .ok (.getfield 37, 3) := by decide +kernel
theorem d_Sc_weigh_141 : decode y_Sc_weigh.2.1 141 = .ok (.aload 8, 2) := by decide +kernel
theorem d_Sc_weigh_143 : decode y_Sc_weigh.2.1 143 = .ok (.aload_n 0, 1) := by decide +kernel
theorem d_Sc_weigh_144 : decode y_Sc_weigh.2.1 144 = .ok (.getfield 21, 3) := by decide +kernel
theorem d_Sc_weigh_147 : decode y_Sc_weigh.2.1 147 = .ok (.aload_n 0, 1) := by decide +kernel
theorem d_Sc_weigh_148 : decode y_Sc_weigh.2.1 148 = .ok (.getfield 24, 3) := by decide +kernel
theorem d_Sc_weigh_151 : decode y_Sc_weigh.2.1 151 = .ok (.invokevirtual 53, 3) := by decide +kernel
theorem d_Sc_weigh_154 : decode y_Sc_weigh.2.1 154 = .ok (.aload_n 0, 1) := by decide +kernel
theorem d_Sc_weigh_155 : decode y_Sc_weigh.2.1 155 = .ok (.getfield 37, 3) := by decide +kernel
theorem d_Sc_weigh_158 : decode y_Sc_weigh.2.1 158 = .ok (.aload_n 0, 1) := by decide +kernel
theorem d_Sc_weigh_159 : decode y_Sc_weigh.2.1 159 = .ok (.getfield 21, 3) := by decide +kernel
theorem d_Sc_weigh_162 : decode y_Sc_weigh.2.1 162 = .ok (.invokevirtual 69, 3) := by decide +kernel
theorem d_Sc_weigh_165 : decode y_Sc_weigh.2.1 165 = .ok (.aload_n 0, 1) := by decide +kernel
theorem d_Sc_weigh_166 : decode y_Sc_weigh.2.1 166 = .ok (.getfield 40, 3) := by decide +kernel
theorem d_Sc_weigh_169 : decode y_Sc_weigh.2.1 169 = .ok (.aload 6, 2) := by decide +kernel
theorem d_Sc_weigh_171 : decode y_Sc_weigh.2.1 171 = .ok (.getfield 108, 3) := by decide +kernel
theorem d_Sc_weigh_174 : decode y_Sc_weigh.2.1 174 = .ok (.invokevirtual 69, 3) := by decide +kernel
theorem d_Sc_weigh_177 : decode y_Sc_weigh.2.1 177 = .ok (.aload_n 0, 1) := by decide +kernel
theorem d_Sc_weigh_178 : decode y_Sc_weigh.2.1 178 = .ok (.getfield 40, 3) := by decide +kernel
theorem d_Sc_weigh_181 : decode y_Sc_weigh.2.1 181 = .ok (.aload 8, 2) := by decide +kernel
theorem d_Sc_weigh_183 : decode y_Sc_weigh.2.1 183 = .ok (.aload_n 0, 1) := by decide +kernel
theorem d_Sc_weigh_184 : decode y_Sc_weigh.2.1 184 = .ok (.getfield 21, 3) := by decide +kernel
theorem d_Sc_weigh_187 : decode y_Sc_weigh.2.1 187 = .ok (.aload_n 0, 1) := by decide +kernel
theorem d_Sc_weigh_188 : decode y_Sc_weigh.2.1 188 = .ok (.getfield 24, 3) := by decide +kernel
theorem d_Sc_weigh_191 : decode y_Sc_weigh.2.1 191 = .ok (.invokevirtual 53, 3) := by decide +kernel
theorem d_Sc_weigh_194 : decode y_Sc_weigh.2.1 194 = .ok (.aload_n 0, 1) := by decide +kernel
theorem d_Sc_weigh_195 : decode y_Sc_weigh.2.1 195 = .ok (.getfield 40, 3) := by decide +kernel
theorem d_Sc_weigh_198 : decode y_Sc_weigh.2.1 198 = .ok (.aload_n 0, 1) := by decide +kernel
theorem d_Sc_weigh_199 : decode y_Sc_weigh.2.1 199 = .ok (.getfield 21, 3) := by decide +kernel
theorem d_Sc_weigh_202 : decode y_Sc_weigh.2.1 202 = .ok (.invokevirtual 69, 3) := by decide +kernel
theorem d_Sc_weigh_205 : decode y_Sc_weigh.2.1 205 = .ok (.aload_n 0, 1) := by decide +kernel
theorem d_Sc_weigh_206 : decode y_Sc_weigh.2.1 206 = .ok (.getfield 30, 3) := by decide +kernel
theorem d_Sc_weigh_209 : decode y_Sc_weigh.2.1 209 = .ok (.aload 4, 2) := by decide +kernel
theorem d_Sc_weigh_211 : decode y_Sc_weigh.2.1 211 = .ok (.getfield 118, 3) := by decide +kernel
theorem d_Sc_weigh_214 : decode y_Sc_weigh.2.1 214 = .ok (.aload_n 0, 1) := by decide +kernel
theorem d_Sc_weigh_215 : decode y_Sc_weigh.2.1 215 = .ok (.getfield 40, 3) := by decide +kernel
theorem d_Sc_weigh_218 : decode y_Sc_weigh.2.1 218 = .ok (.invokevirtual 130, 3) := by decide +kernel
theorem d_Sc_weigh_221 : decode y_Sc_weigh.2.1 221 = .ok (.aload 4, 2) := by decide +kernel
theorem d_Sc_weigh_223 : decode y_Sc_weigh.2.1 223 = .ok (.getfield 118, 3) := by decide +kernel
theorem d_Sc_weigh_226 : decode y_Sc_weigh.2.1 226 = .ok (.aload_n 0, 1) := by decide +kernel
theorem d_Sc_weigh_227 : decode y_Sc_weigh.2.1 227 = .ok (.getfield 30, 3) := by decide +kernel
theorem d_Sc_weigh_230 : decode y_Sc_weigh.2.1 230 = .ok (.invokevirtual 69, 3) := by decide +kernel
theorem d_Sc_weigh_233 : decode y_Sc_weigh.2.1 233 = .ok (.aload_n 0, 1) := by decide +kernel
theorem d_Sc_weigh_234 : decode y_Sc_weigh.2.1 234 = .ok (.getfield 30, 3) := by decide +kernel
theorem d_Sc_weigh_237 : decode y_Sc_weigh.2.1 237 = .ok (.aload 6, 2) := by decide +kernel
theorem d_Sc_weigh_239 : decode y_Sc_weigh.2.1 239 = .ok (.getfield 118, 3) := by decide +kernel
theorem d_Sc_weigh_242 : decode y_Sc_weigh.2.1 242 = .ok (.aload_n 0, 1) := by decide +kernel
theorem d_Sc_weigh_243 : decode y_Sc_weigh.2.1 243 = .ok (.getfield 37, 3) := by decide +kernel
theorem d_Sc_weigh_246 : decode y_Sc_weigh.2.1 246 = .ok (.invokevirtual 130, 3) := by decide +kernel
theorem d_Sc_weigh_249 : decode y_Sc_weigh.2.1 249 = .ok (.aload 4, 2) := by decide +kernel
theorem d_Sc_weigh_251 : decode y_Sc_weigh.2.1 251 = .ok (.getfield 118, 3) := by decide +kernel
theorem d_Sc_weigh_254 : decode y_Sc_weigh.2.1 254 = .ok (.aload_n 0, 1) := by decide +kernel
theorem d_Sc_weigh_255 : decode y_Sc_weigh.2.1 255 = .ok (.getfield 30, 3) := by decide +kernel
theorem d_Sc_weigh_258 : decode y_Sc_weigh.2.1 258 = .ok (.iload 7, 2) := by decide +kernel
theorem d_Sc_weigh_260 : decode y_Sc_weigh.2.1 260 = .ok (.invokevirtual 155, 3) := by decide +kernel
theorem d_Sc_weigh_263 : decode y_Sc_weigh.2.1 263 = .ok (.aload_n 0, 1) := by decide +kernel
theorem d_Sc_weigh_264 : decode y_Sc_weigh.2.1 264 = .ok (.getfield 30, 3) := by decide +kernel
theorem d_Sc_weigh_267 : decode y_Sc_weigh.2.1 267 = .ok (.aload 4, 2) := by decide +kernel
theorem d_Sc_weigh_269 : decode y_Sc_weigh.2.1 269 = .ok (.getfield 108, 3) := by decide +kernel
theorem d_Sc_weigh_272 : decode y_Sc_weigh.2.1 272 = .ok (.aload_n 0, 1) := by decide +kernel
theorem d_Sc_weigh_273 : decode y_Sc_weigh.2.1 273 = .ok (.getfield 40, 3) := by decide +kernel
theorem d_Sc_weigh_276 : decode y_Sc_weigh.2.1 276 = .ok (.invokevirtual 130, 3) := by decide +kernel
theorem d_Sc_weigh_279 : decode y_Sc_weigh.2.1 279 = .ok (.aload 4, 2) := by decide +kernel
theorem d_Sc_weigh_281 : decode y_Sc_weigh.2.1 281 = .ok (.getfield 108, 3) := by decide +kernel
theorem d_Sc_weigh_284 : decode y_Sc_weigh.2.1 284 = .ok (.aload_n 0, 1) := by decide +kernel
theorem d_Sc_weigh_285 : decode y_Sc_weigh.2.1 285 = .ok (.getfield 30, 3) := by decide +kernel
theorem d_Sc_weigh_288 : decode y_Sc_weigh.2.1 288 = .ok (.invokevirtual 69, 3) := by decide +kernel
theorem d_Sc_weigh_291 : decode y_Sc_weigh.2.1 291 = .ok (.iinc 5 1, 3) := by decide +kernel
theorem d_Sc_weigh_294 : decode y_Sc_weigh.2.1 294 = .ok (.goto (-269), 3) := by decide +kernel
def h_Sc_weigh_25 (G : mG) (d : Nat) (a0 : Nat) (a1 : Nat) (l2 : Int) (a3 : Nat) (a4 : Nat) (l5 : Int) (M : mM) (Q : mM → Prop) : Prop := mWm G y_Sc_weigh (d + 1) 25 [vr a0, vr a1, vi l2, vr a3, vr a4, vi l5, vd, vd, vd] [] M (fun r9 M9 => r9 = none ∧ Q M9)
def h_Sc_weigh_291 (G : mG) (d : Nat) (a0 : Nat) (a1 : Nat) (l2 : Int) (a3 : Nat) (a4 : Nat) (l5 : Int) (M : mM) (Q : mM → Prop) : Prop := mWm G y_Sc_weigh (d + 1) 291 [vr a0, vr a1, vi l2, vr a3, vr a4, vi l5, vd, vd, vd] [] M (fun r9 M9 => r9 = none ∧ Q M9)
theorem k_Sc_weigh {G : mG} {d : Nat} {a0 : Nat} {a1 : Nat} {l2 : Int} {a3 : Nat} {a4 : Nat} {M : mM} {Q : mM → Prop} (hO : mOk M) (hi_l2 : i32 l2)
    (h : mK M a4 = 11 ∧ Cv G y_Fr_put0 d [vr a4, vi 0] M (fun M2 => mOk M2 ∧ (mK M2 a1 = 7 ∧ mK M2 (mR M2 a1 6) = 30 ∧ ((0 : Int) ≤ l2 ∧ l2 < (mN M2 (mR M2 a1 6) : Int)) ∧ mK M2 a4 = 11 ∧ ∀ M9, M9 = mUI M2 a4 2 (mI M2 (mR M2 a1 6) (Int.toNat l2)) → mK M9 (mR M9 a1 7) = 30 ∧ ((0 : Int) ≤ l2 ∧ l2 < (mN M9 (mR M9 a1 7) : Int)) ∧ h_Sc_weigh_25 G d a0 a1 l2 a3 a4 (mI M9 (mR M9 a1 7) (Int.toNat l2)) M9 Q))) :
    Cv G y_Sc_weigh (d + 1) [vr a0, vr a1, vi l2, vr a3, vr a4] M Q := by
  refine wm_open (y := y_Sc_weigh) rfl (Nat.le_of_ble_eq_true rfl) (L := [vr a0, vr a1, vi l2, vr a3, vr a4, vd, vd, vd, vd]) rfl ?_
  obtain ⟨h1, h⟩ := h
  refine wm_aload d_Sc_weigh_0 rfl ?_
  refine wm_iconst d_Sc_weigh_2 ?_
  refine cf_Sc_134 rfl d_Sc_weigh_3 h1 (Nat.le_of_ble_eq_true rfl) (Cv.mono h (fun M2 h => ?_))
  obtain ⟨hOM2, h⟩ := h
  obtain ⟨h5, h⟩ := h
  obtain ⟨h6, h⟩ := h
  obtain ⟨h7, h⟩ := h
  obtain ⟨h8, h⟩ := h
  obtain ⟨M9, e10⟩ : ∃ M9, M9 = mUI M2 a4 2 (mI M2 (mR M2 a1 6) (Int.toNat l2)) := ⟨_, rfl⟩
  replace h := h M9 e10
  obtain ⟨h11, h⟩ := h
  obtain ⟨h12, h⟩ := h
  refine wm_aload d_Sc_weigh_6 rfl ?_
  refine wm_aload_n d_Sc_weigh_8 rfl rfl ?_
  refine gf_Sc_135 rfl d_Sc_weigh_9 h5 ?_
  refine wm_iload_n d_Sc_weigh_12 rfl rfl ?_
  refine wm_iald d_Sc_weigh_13 h6 h7 ?_
  have hOM9 : mOk M9 := by rw [e10]; exact mOk_UI hOM2 (hOM2 _ _).1
  refine pf_Sc_111 rfl d_Sc_weigh_14 h8 (hOM2 _ _).1 e10 ?_
  refine wm_aload_n d_Sc_weigh_17 rfl rfl ?_
  refine gf_Sc_140 rfl d_Sc_weigh_18 (by rw [e10]; exact h5) ?_
  refine wm_iload_n d_Sc_weigh_21 rfl rfl ?_
  refine wm_iald d_Sc_weigh_22 h11 h12 ?_
  refine wm_istore d_Sc_weigh_23 (by decide) (L' := [vr a0, vr a1, vi l2, vr a3, vr a4, vi (mI M9 (mR M9 a1 7) (Int.toNat l2)), vd, vd, vd]) rfl ?_
  exact h
theorem k_Sc_weigh_25 {G : mG} {d : Nat} {a0 : Nat} {a1 : Nat} {l2 : Int} {a3 : Nat} {a4 : Nat} {l5 : Int} {M : mM} {Q : mM → Prop} (hO : mOk M) (hi_l2 : i32 l2) (hi_l5 : i32 l5)
    (h : mK M a1 = 7 ∧ mK M (mR M a1 7) = 30 ∧ ((0 : Int) ≤ l2 + 1 ∧ l2 + 1 < (mN M (mR M a1 7) : Int)) ∧ ((mI M (mR M a1 7) (Int.toNat (l2 + 1)) ≤ l5) → (Q M)) ∧ (¬ (mI M (mR M a1 7) (Int.toNat (l2 + 1)) ≤ l5) → (mK M a3 = 13 ∧ mK M (mR M a1 8) = 30 ∧ ((0 : Int) ≤ l5 ∧ l5 < (mN M (mR M a1 8) : Int)) ∧ mK M (mR M a3 0) = 35 ∧ ((0 : Int) ≤ mI M (mR M a1 8) (Int.toNat l5) ∧ mI M (mR M a1 8) (Int.toNat l5) < (mN M (mR M a3 0) : Int)) ∧ mK M (mR M a1 9) = 30 ∧ ((0 : Int) ≤ l5 ∧ l5 < (mN M (mR M a1 9) : Int)) ∧ mK M (mR M (mR M a3 0) (Int.toNat (mI M (mR M a1 8) (Int.toNat l5)))) = 11 ∧ mK M (mR M (mR M (mR M a3 0) (Int.toNat (mI M (mR M a1 8) (Int.toNat l5)))) 0) = 10 ∧ ((mI M (mR M (mR M (mR M a3 0) (Int.toNat (mI M (mR M a1 8) (Int.toNat l5)))) 0) 1 = 0) → (h_Sc_weigh_291 G d a0 a1 l2 a3 a4 l5 M Q)) ∧ (¬ (mI M (mR M (mR M (mR M a3 0) (Int.toNat (mI M (mR M a1 8) (Int.toNat l5)))) 0) 1 = 0) → (mK M a4 = 11 ∧ Ci G y_Na_order d [vr (mR M a4 1), vr (mR M (mR M (mR M a3 0) (Int.toNat (mI M (mR M a1 8) (Int.toNat l5)))) 1)] M (fun x40 M39 => i32 x40 ∧ mOk M39 ∧ (((x40 = 0) → (mK M39 a4 = 11 ∧ mK M39 (mR M (mR M a3 0) (Int.toNat (mI M (mR M a1 8) (Int.toNat l5)))) = 11 ∧ mK M39 (mR M39 a4 0) = 10 ∧ Cv G y_Na_add d [vr (mR M39 a4 0), vr (mR M39 (mR M (mR M a3 0) (Int.toNat (mI M (mR M a1 8) (Int.toNat l5)))) 0), vi (mI M (mR M a1 9) (Int.toNat l5))] M39 (fun M47 => mOk M47 ∧ (h_Sc_weigh_291 G d a0 a1 l2 a3 a4 l5 M47 Q)))) ∧ (¬ (x40 = 0) → (mK M39 a4 = 11 ∧ mK M39 (mR M (mR M a3 0) (Int.toNat (mI M (mR M a1 8) (Int.toNat l5)))) = 11 ∧ mK M39 a0 = 9 ∧ Cr G y_Sc_commonDivisor d [vr a0, vr (mR M39 a4 1), vr (mR M39 (mR M (mR M a3 0) (Int.toNat (mI M (mR M a1 8) (Int.toNat l5)))) 1)] M39 (fun x54 M53 => mOk M53 ∧ (mK M53 a0 = 9 ∧ mK M53 a4 = 11 ∧ mK M53 (mR M53 a0 7) = 10 ∧ Cv G y_Na_put1 d [vr (mR M53 a0 7), vr (mR M53 a4 1)] M53 (fun M59 => mOk M59 ∧ (mK M59 a0 = 9 ∧ mK M59 (mR M59 a0 7) = 10 ∧ Cv G y_Na_divide d [vr (mR M59 a0 7), vr x54, vr (mR M59 a0 2), vr (mR M59 a0 3)] M59 (fun M64 => mOk M64 ∧ (mK M64 a0 = 9 ∧ mK M64 (mR M64 a0 7) = 10 ∧ Cv G y_Na_put1 d [vr (mR M64 a0 7), vr (mR M64 a0 2)] M64 (fun M69 => mOk M69 ∧ (mK M69 a0 = 9 ∧ mK M69 (mR M (mR M a3 0) (Int.toNat (mI M (mR M a1 8) (Int.toNat l5)))) = 11 ∧ mK M69 (mR M69 a0 8) = 10 ∧ Cv G y_Na_put1 d [vr (mR M69 a0 8), vr (mR M69 (mR M (mR M a3 0) (Int.toNat (mI M (mR M a1 8) (Int.toNat l5)))) 1)] M69 (fun M75 => mOk M75 ∧ (mK M75 a0 = 9 ∧ mK M75 (mR M75 a0 8) = 10 ∧ Cv G y_Na_divide d [vr (mR M75 a0 8), vr x54, vr (mR M75 a0 2), vr (mR M75 a0 3)] M75 (fun M80 => mOk M80 ∧ (mK M80 a0 = 9 ∧ mK M80 (mR M80 a0 8) = 10 ∧ Cv G y_Na_put1 d [vr (mR M80 a0 8), vr (mR M80 a0 2)] M80 (fun M85 => mOk M85 ∧ (mK M85 a0 = 9 ∧ mK M85 a4 = 11 ∧ mK M85 (mR M85 a0 5) = 10 ∧ Cv G y_Na_putProduct d [vr (mR M85 a0 5), vr (mR M85 a4 0), vr (mR M85 a0 8)] M85 (fun M91 => mOk M91 ∧ (mK M91 a4 = 11 ∧ mK M91 a0 = 9 ∧ mK M91 (mR M91 a4 0) = 10 ∧ Cv G y_Na_put1 d [vr (mR M91 a4 0), vr (mR M91 a0 5)] M91 (fun M97 => mOk M97 ∧ (mK M97 a0 = 9 ∧ mK M97 (mR M (mR M a3 0) (Int.toNat (mI M (mR M a1 8) (Int.toNat l5)))) = 11 ∧ mK M97 (mR M97 a0 5) = 10 ∧ Cv G y_Na_putProduct d [vr (mR M97 a0 5), vr (mR M97 (mR M (mR M a3 0) (Int.toNat (mI M (mR M a1 8) (Int.toNat l5)))) 0), vr (mR M97 a0 7)] M97 (fun M103 => mOk M103 ∧ (mK M103 a4 = 11 ∧ mK M103 a0 = 9 ∧ mK M103 (mR M103 a4 0) = 10 ∧ Cv G y_Na_add d [vr (mR M103 a4 0), vr (mR M103 a0 5), vi (mI M (mR M a1 9) (Int.toNat l5))] M103 (fun M109 => mOk M109 ∧ (mK M109 a0 = 9 ∧ mK M109 a4 = 11 ∧ mK M109 (mR M109 a0 5) = 10 ∧ Cv G y_Na_putProduct d [vr (mR M109 a0 5), vr (mR M109 a4 1), vr (mR M109 a0 8)] M109 (fun M115 => mOk M115 ∧ (mK M115 a4 = 11 ∧ mK M115 a0 = 9 ∧ mK M115 (mR M115 a4 1) = 10 ∧ Cv G y_Na_put1 d [vr (mR M115 a4 1), vr (mR M115 a0 5)] M115 (fun M121 => mOk M121 ∧ (h_Sc_weigh_291 G d a0 a1 l2 a3 a4 l5 M121 Q))))))))))))))))))))))))))))))))))) :
    h_Sc_weigh_25 G d a0 a1 l2 a3 a4 l5 M Q := by
  unfold h_Sc_weigh_25
  obtain ⟨h13, h⟩ := h
  obtain ⟨h14, h⟩ := h
  obtain ⟨h15, h⟩ := h
  refine wm_iload d_Sc_weigh_25 rfl ?_
  refine wm_aload_n d_Sc_weigh_27 rfl rfl ?_
  refine gf_Sc_140 rfl d_Sc_weigh_28 h13 ?_
  refine wm_iload_n d_Sc_weigh_31 rfl rfl ?_
  refine wm_iconst d_Sc_weigh_32 ?_
  refine wm_iadd d_Sc_weigh_33 ?_
  refine wm_iald d_Sc_weigh_34 h14 h15 ?_
  refine wm_icmp_ge (tgt := 297) d_Sc_weigh_35 rfl hi_l5 (hO _ _).1 (fun c26 => ?_) (fun c26 => ?_)
  · replace h := h.1 c26
    refine wm_return d_Sc_weigh_297 rfl ?_
    exact ⟨rfl, h⟩
  · replace h := h.2 c26
    obtain ⟨h27, h⟩ := h
    obtain ⟨h28, h⟩ := h
    obtain ⟨h29, h⟩ := h
    obtain ⟨h30, h⟩ := h
    obtain ⟨h31, h⟩ := h
    obtain ⟨h32, h⟩ := h
    obtain ⟨h33, h⟩ := h
    obtain ⟨h34, h⟩ := h
    obtain ⟨h35, h⟩ := h
    refine wm_aload_n d_Sc_weigh_38 rfl rfl ?_
    refine gf_Sc_143 rfl d_Sc_weigh_39 h27 ?_
    refine wm_aload_n d_Sc_weigh_42 rfl rfl ?_
    refine gf_Sc_149 rfl d_Sc_weigh_43 h13 ?_
    refine wm_iload d_Sc_weigh_46 rfl ?_
    refine wm_iald d_Sc_weigh_48 h28 h29 ?_
    refine wm_aald5 d_Sc_weigh_49 h30 h31 ?_
    refine wm_astore d_Sc_weigh_50 (by decide) (L' := [vr a0, vr a1, vi l2, vr a3, vr a4, vi l5, vr (mR M (mR M a3 0) (Int.toNat (mI M (mR M a1 8) (Int.toNat l5)))), vd, vd]) rfl ?_
    refine wm_aload_n d_Sc_weigh_52 rfl rfl ?_
    refine gf_Sc_152 rfl d_Sc_weigh_53 h13 ?_
    refine wm_iload d_Sc_weigh_56 rfl ?_
    refine wm_iald d_Sc_weigh_58 h32 h33 ?_
    refine wm_istore d_Sc_weigh_59 (by decide) (L' := [vr a0, vr a1, vi l2, vr a3, vr a4, vi l5, vr (mR M (mR M a3 0) (Int.toNat (mI M (mR M a1 8) (Int.toNat l5)))), vi (mI M (mR M a1 9) (Int.toNat l5)), vd]) rfl ?_
    refine wm_aload d_Sc_weigh_61 rfl ?_
    refine gf_Sc_118 rfl d_Sc_weigh_63 h34 ?_
    refine gf_Sc_57 rfl d_Sc_weigh_66 h35 ?_
    refine wm_if_ne (tgt := 75) d_Sc_weigh_69 rfl (hO _ _).1 (fun c37 => ?_) (fun c37 => ?_)
    · replace h := h.2 c37
      obtain ⟨h38, h⟩ := h
      refine wm_aload d_Sc_weigh_75 rfl ?_
      refine gf_Sc_108 rfl d_Sc_weigh_77 h38 ?_
      refine wm_aload d_Sc_weigh_80 rfl ?_
      refine gf_Sc_108 rfl d_Sc_weigh_82 h34 ?_
      refine cf_Sc_65 rfl d_Sc_weigh_85 (Nat.le_of_ble_eq_true rfl) (Ci.mono h (fun x40 M39 h => ?_))
      obtain ⟨h41, hOM39, h⟩ := h
      refine wm_if_ne (tgt := 109) d_Sc_weigh_88 rfl h41 (fun c43 => ?_) (fun c43 => ?_)
      · replace h := h.2 c43
        obtain ⟨h50, h⟩ := h
        obtain ⟨h51, h⟩ := h
        obtain ⟨h52, h⟩ := h
        refine wm_aload_n d_Sc_weigh_109 rfl rfl ?_
        refine wm_aload d_Sc_weigh_110 rfl ?_
        refine gf_Sc_108 rfl d_Sc_weigh_112 h50 ?_
        refine wm_aload d_Sc_weigh_115 rfl ?_
        refine gf_Sc_108 rfl d_Sc_weigh_117 h51 ?_
        refine cf_Sc_123 rfl d_Sc_weigh_120 h52 (Nat.le_of_ble_eq_true rfl) (Cr.mono h (fun x54 M53 h => ?_))
        obtain ⟨hOM53, h⟩ := h
        obtain ⟨h56, h⟩ := h
        obtain ⟨h57, h⟩ := h
        obtain ⟨h58, h⟩ := h
        refine wm_astore d_Sc_weigh_123 (by decide) (L' := [vr a0, vr a1, vi l2, vr a3, vr a4, vi l5, vr (mR M (mR M a3 0) (Int.toNat (mI M (mR M a1 8) (Int.toNat l5)))), vi (mI M (mR M a1 9) (Int.toNat l5)), vr x54]) rfl ?_
        refine wm_aload_n d_Sc_weigh_125 rfl rfl ?_
        refine gf_Sc_37 rfl d_Sc_weigh_126 h56 ?_
        refine wm_aload d_Sc_weigh_129 rfl ?_
        refine gf_Sc_108 rfl d_Sc_weigh_131 h57 ?_
        refine cf_Sc_69 rfl d_Sc_weigh_134 h58 (Nat.le_of_ble_eq_true rfl) (Cv.mono h (fun M59 h => ?_))
        obtain ⟨hOM59, h⟩ := h
        obtain ⟨h62, h⟩ := h
        obtain ⟨h63, h⟩ := h
        refine wm_aload_n d_Sc_weigh_137 rfl rfl ?_
        refine gf_Sc_37 rfl d_Sc_weigh_138 h62 ?_
        refine wm_aload d_Sc_weigh_141 rfl ?_
        refine wm_aload_n d_Sc_weigh_143 rfl rfl ?_
        refine gf_Sc_21 rfl d_Sc_weigh_144 h62 ?_
        refine wm_aload_n d_Sc_weigh_147 rfl rfl ?_
        refine gf_Sc_24 rfl d_Sc_weigh_148 h62 ?_
        refine cf_Sc_53 rfl d_Sc_weigh_151 h63 (Nat.le_of_ble_eq_true rfl) (Cv.mono h (fun M64 h => ?_))
        obtain ⟨hOM64, h⟩ := h
        obtain ⟨h67, h⟩ := h
        obtain ⟨h68, h⟩ := h
        refine wm_aload_n d_Sc_weigh_154 rfl rfl ?_
        refine gf_Sc_37 rfl d_Sc_weigh_155 h67 ?_
        refine wm_aload_n d_Sc_weigh_158 rfl rfl ?_
        refine gf_Sc_21 rfl d_Sc_weigh_159 h67 ?_
        refine cf_Sc_69 rfl d_Sc_weigh_162 h68 (Nat.le_of_ble_eq_true rfl) (Cv.mono h (fun M69 h => ?_))
        obtain ⟨hOM69, h⟩ := h
        obtain ⟨h72, h⟩ := h
        obtain ⟨h73, h⟩ := h
        obtain ⟨h74, h⟩ := h
        refine wm_aload_n d_Sc_weigh_165 rfl rfl ?_
        refine gf_Sc_40 rfl d_Sc_weigh_166 h72 ?_
        refine wm_aload d_Sc_weigh_169 rfl ?_
        refine gf_Sc_108 rfl d_Sc_weigh_171 h73 ?_
        refine cf_Sc_69 rfl d_Sc_weigh_174 h74 (Nat.le_of_ble_eq_true rfl) (Cv.mono h (fun M75 h => ?_))
        obtain ⟨hOM75, h⟩ := h
        obtain ⟨h78, h⟩ := h
        obtain ⟨h79, h⟩ := h
        refine wm_aload_n d_Sc_weigh_177 rfl rfl ?_
        refine gf_Sc_40 rfl d_Sc_weigh_178 h78 ?_
        refine wm_aload d_Sc_weigh_181 rfl ?_
        refine wm_aload_n d_Sc_weigh_183 rfl rfl ?_
        refine gf_Sc_21 rfl d_Sc_weigh_184 h78 ?_
        refine wm_aload_n d_Sc_weigh_187 rfl rfl ?_
        refine gf_Sc_24 rfl d_Sc_weigh_188 h78 ?_
        refine cf_Sc_53 rfl d_Sc_weigh_191 h79 (Nat.le_of_ble_eq_true rfl) (Cv.mono h (fun M80 h => ?_))
        obtain ⟨hOM80, h⟩ := h
        obtain ⟨h83, h⟩ := h
        obtain ⟨h84, h⟩ := h
        refine wm_aload_n d_Sc_weigh_194 rfl rfl ?_
        refine gf_Sc_40 rfl d_Sc_weigh_195 h83 ?_
        refine wm_aload_n d_Sc_weigh_198 rfl rfl ?_
        refine gf_Sc_21 rfl d_Sc_weigh_199 h83 ?_
        refine cf_Sc_69 rfl d_Sc_weigh_202 h84 (Nat.le_of_ble_eq_true rfl) (Cv.mono h (fun M85 h => ?_))
        obtain ⟨hOM85, h⟩ := h
        obtain ⟨h88, h⟩ := h
        obtain ⟨h89, h⟩ := h
        obtain ⟨h90, h⟩ := h
        refine wm_aload_n d_Sc_weigh_205 rfl rfl ?_
        refine gf_Sc_30 rfl d_Sc_weigh_206 h88 ?_
        refine wm_aload d_Sc_weigh_209 rfl ?_
        refine gf_Sc_118 rfl d_Sc_weigh_211 h89 ?_
        refine wm_aload_n d_Sc_weigh_214 rfl rfl ?_
        refine gf_Sc_40 rfl d_Sc_weigh_215 h88 ?_
        refine cf_Sc_130 rfl d_Sc_weigh_218 h90 (Nat.le_of_ble_eq_true rfl) (Cv.mono h (fun M91 h => ?_))
        obtain ⟨hOM91, h⟩ := h
        obtain ⟨h94, h⟩ := h
        obtain ⟨h95, h⟩ := h
        obtain ⟨h96, h⟩ := h
        refine wm_aload d_Sc_weigh_221 rfl ?_
        refine gf_Sc_118 rfl d_Sc_weigh_223 h94 ?_
        refine wm_aload_n d_Sc_weigh_226 rfl rfl ?_
        refine gf_Sc_30 rfl d_Sc_weigh_227 h95 ?_
        refine cf_Sc_69 rfl d_Sc_weigh_230 h96 (Nat.le_of_ble_eq_true rfl) (Cv.mono h (fun M97 h => ?_))
        obtain ⟨hOM97, h⟩ := h
        obtain ⟨h100, h⟩ := h
        obtain ⟨h101, h⟩ := h
        obtain ⟨h102, h⟩ := h
        refine wm_aload_n d_Sc_weigh_233 rfl rfl ?_
        refine gf_Sc_30 rfl d_Sc_weigh_234 h100 ?_
        refine wm_aload d_Sc_weigh_237 rfl ?_
        refine gf_Sc_118 rfl d_Sc_weigh_239 h101 ?_
        refine wm_aload_n d_Sc_weigh_242 rfl rfl ?_
        refine gf_Sc_37 rfl d_Sc_weigh_243 h100 ?_
        refine cf_Sc_130 rfl d_Sc_weigh_246 h102 (Nat.le_of_ble_eq_true rfl) (Cv.mono h (fun M103 h => ?_))
        obtain ⟨hOM103, h⟩ := h
        obtain ⟨h106, h⟩ := h
        obtain ⟨h107, h⟩ := h
        obtain ⟨h108, h⟩ := h
        refine wm_aload d_Sc_weigh_249 rfl ?_
        refine gf_Sc_118 rfl d_Sc_weigh_251 h106 ?_
        refine wm_aload_n d_Sc_weigh_254 rfl rfl ?_
        refine gf_Sc_30 rfl d_Sc_weigh_255 h107 ?_
        refine wm_iload d_Sc_weigh_258 rfl ?_
        refine cf_Sc_155 rfl d_Sc_weigh_260 h108 (Nat.le_of_ble_eq_true rfl) (Cv.mono h (fun M109 h => ?_))
        obtain ⟨hOM109, h⟩ := h
        obtain ⟨h112, h⟩ := h
        obtain ⟨h113, h⟩ := h
        obtain ⟨h114, h⟩ := h
        refine wm_aload_n d_Sc_weigh_263 rfl rfl ?_
        refine gf_Sc_30 rfl d_Sc_weigh_264 h112 ?_
        refine wm_aload d_Sc_weigh_267 rfl ?_
        refine gf_Sc_108 rfl d_Sc_weigh_269 h113 ?_
        refine wm_aload_n d_Sc_weigh_272 rfl rfl ?_
        refine gf_Sc_40 rfl d_Sc_weigh_273 h112 ?_
        refine cf_Sc_130 rfl d_Sc_weigh_276 h114 (Nat.le_of_ble_eq_true rfl) (Cv.mono h (fun M115 h => ?_))
        obtain ⟨hOM115, h⟩ := h
        obtain ⟨h118, h⟩ := h
        obtain ⟨h119, h⟩ := h
        obtain ⟨h120, h⟩ := h
        refine wm_aload d_Sc_weigh_279 rfl ?_
        refine gf_Sc_108 rfl d_Sc_weigh_281 h118 ?_
        refine wm_aload_n d_Sc_weigh_284 rfl rfl ?_
        refine gf_Sc_30 rfl d_Sc_weigh_285 h119 ?_
        refine cf_Sc_69 rfl d_Sc_weigh_288 h120 (Nat.le_of_ble_eq_true rfl) (Cv.mono h (fun M121 h => ?_))
        obtain ⟨hOM121, h⟩ := h
        refine wm_less (L' := [vr a0, vr a1, vi l2, vr a3, vr a4, vi l5, vd, vd, vd]) ⟨Or.inr rfl, Or.inr rfl, Or.inr rfl, Or.inr rfl, Or.inr rfl, Or.inr rfl, Or.inl rfl, Or.inl rfl, Or.inl rfl, trivial⟩ ?_
        exact h
      · replace c43 := Classical.not_not.mp c43
        replace h := h.1 c43
        obtain ⟨h44, h⟩ := h
        obtain ⟨h45, h⟩ := h
        obtain ⟨h46, h⟩ := h
        refine wm_aload d_Sc_weigh_91 rfl ?_
        refine gf_Sc_118 rfl d_Sc_weigh_93 h44 ?_
        refine wm_aload d_Sc_weigh_96 rfl ?_
        refine gf_Sc_118 rfl d_Sc_weigh_98 h45 ?_
        refine wm_iload d_Sc_weigh_101 rfl ?_
        refine cf_Sc_155 rfl d_Sc_weigh_103 h46 (Nat.le_of_ble_eq_true rfl) (Cv.mono h (fun M47 h => ?_))
        obtain ⟨hOM47, h⟩ := h
        refine wm_goto (tgt := 291) d_Sc_weigh_106 rfl ?_
        refine wm_less (L' := [vr a0, vr a1, vi l2, vr a3, vr a4, vi l5, vd, vd, vd]) ⟨Or.inr rfl, Or.inr rfl, Or.inr rfl, Or.inr rfl, Or.inr rfl, Or.inr rfl, Or.inl rfl, Or.inl rfl, Or.inl rfl, trivial⟩ ?_
        exact h
    · replace c37 := Classical.not_not.mp c37
      replace h := h.1 c37
      refine wm_goto (tgt := 291) d_Sc_weigh_72 rfl ?_
      refine wm_less (L' := [vr a0, vr a1, vi l2, vr a3, vr a4, vi l5, vd, vd, vd]) ⟨Or.inr rfl, Or.inr rfl, Or.inr rfl, Or.inr rfl, Or.inr rfl, Or.inr rfl, Or.inl rfl, Or.inl rfl, Or.inl rfl, trivial⟩ ?_
      exact h
theorem k_Sc_weigh_291 {G : mG} {d : Nat} {a0 : Nat} {a1 : Nat} {l2 : Int} {a3 : Nat} {a4 : Nat} {l5 : Int} {M : mM} {Q : mM → Prop} (hO : mOk M) (hi_l2 : i32 l2) (hi_l5 : i32 l5)
    (h : h_Sc_weigh_25 G d a0 a1 l2 a3 a4 (l5 + 1) M Q) :
    h_Sc_weigh_291 G d a0 a1 l2 a3 a4 l5 M Q := by
  unfold h_Sc_weigh_291
  refine wm_iinc d_Sc_weigh_291 (by decide) rfl (L' := [vr a0, vr a1, vi l2, vr a3, vr a4, vi (l5 + 1), vd, vd, vd]) rfl ?_
  refine wm_goto (tgt := 25) d_Sc_weigh_294 rfl ?_
  exact h
theorem d_Sc_pick_0 : decode y_Sc_pick.2.1 0 = .ok (.aload_n 0, 1) := by decide +kernel
theorem d_Sc_pick_1 : decode y_Sc_pick.2.1 1 = .ok (.aload_n 1, 1) := by decide +kernel
theorem d_Sc_pick_2 : decode y_Sc_pick.2.1 2 = .ok (.iload_n 2, 1) := by decide +kernel
theorem d_Sc_pick_3 : decode y_Sc_pick.2.1 3 = .ok (.aload 5, 2) := by decide +kernel
theorem d_Sc_pick_5 : decode y_Sc_pick.2.1 5 = .ok (.aload_n 0, 1) := by decide +kernel
theorem d_Sc_pick_6 : decode y_Sc_pick.2.1 6 = .ok (.getfield 46, 3) := by decide +kernel
theorem d_Sc_pick_9 : decode y_Sc_pick.2.1 9 = .ok (.invokevirtual 159, 3) := by decide +kernel
theorem d_Sc_pick_12 : decode y_Sc_pick.2.1 12 = .ok (.iload_n 2, 1) := by decide +kernel
theorem d_Sc_pick_13 : decode y_Sc_pick.2.1 13 = .ok (.istore 6, 2) := by decide +kernel
theorem d_Sc_pick_15 : decode y_Sc_pick.2.1 15 = .ok (.iload_n 2, 1) := by decide +kernel
theorem d_Sc_pick_16 : decode y_Sc_pick.2.1 16 = .ok (.iconst 1, 1) := by decide +kernel
theorem d_Sc_pick_17 : decode y_Sc_pick.2.1 17 = .ok (.iadd, 1) := by decide +kernel
theorem d_Sc_pick_18 : decode y_Sc_pick.2.1 18 = .ok (.istore 7, 2) := by decide +kernel
theorem d_Sc_pick_20 : decode y_Sc_pick.2.1 20 = .ok (.iload 7, 2) := by decide +kernel
theorem d_Sc_pick_22 : decode y_Sc_pick.2.1 22 = .ok (.iload_n 3, 1) := by decide +kernel
theorem d_Sc_pick_23 : decode y_Sc_pick.2.1 23 = .ok (.if_icmp .ge 78, 3) := by decide +kernel
theorem d_Sc_pick_101 : decode y_Sc_pick.2.1 101 = .ok (.iload 6, 2) := by decide +kernel
theorem d_Sc_pick_103 : decode y_Sc_pick.2.1 103 = .ok (.ireturn, 1) := by decide +kernel
theorem d_Sc_pick_26 : decode y_Sc_pick.2.1 26 = .ok (.aload_n 0, 1) := by decide +kernel
theorem d_Sc_pick_27 : decode y_Sc_pick.2.1 27 = .ok (.aload_n 1, 1) := by decide +kernel
theorem d_Sc_pick_28 : decode y_Sc_pick.2.1 28 = .ok (.iload 7, 2) := by decide +kernel
theorem d_Sc_pick_30 : decode y_Sc_pick.2.1 30 = .ok (.aload 5, 2) := by decide +kernel
theorem d_Sc_pick_32 : decode y_Sc_pick.2.1 32 = .ok (.aload_n 0, 1) := by decide +kernel
theorem d_Sc_pick_33 : decode y_Sc_pick.2.1 33 = .ok (.getfield 50, 3) := by decide +kernel
theorem d_Sc_pick_36 : decode y_Sc_pick.2.1 36 = .ok (.invokevirtual 159, 3) := by decide +kernel
theorem d_Sc_pick_39 : decode y_Sc_pick.2.1 39 = .ok (.aload_n 0, 1) := by decide +kernel
theorem d_Sc_pick_40 : decode y_Sc_pick.2.1 40 = .ok (.aload_n 0, 1) := by decide +kernel
theorem d_Sc_pick_41 : decode y_Sc_pick.2.1 41 = .ok (.getfield 50, 3) := by decide +kernel
theorem d_Sc_pick_44 : decode y_Sc_pick.2.1 44 = .ok (.aload_n 0, 1) := by decide +kernel
theorem d_Sc_pick_45 : decode y_Sc_pick.2.1 45 = .ok (.getfield 46, 3) := by decide +kernel
theorem d_Sc_pick_48 : decode y_Sc_pick.2.1 48 = .ok (.invokevirtual 163, 3) := by decide +kernel
theorem d_Sc_pick_51 : decode y_Sc_pick.2.1 51 = .ok (.istore 8, 2) := by decide +kernel
theorem d_Sc_pick_53 : decode y_Sc_pick.2.1 53 = .ok (.iload 4, 2) := by decide +kernel
theorem d_Sc_pick_55 : decode y_Sc_pick.2.1 55 = .ok (.ifCond .eq 11, 3) := by decide +kernel
theorem d_Sc_pick_66 : decode y_Sc_pick.2.1 66 = .ok (.iload 8, 2) := by decide +kernel
theorem d_Sc_pick_68 : decode y_Sc_pick.2.1 68 = .ok (.ifCond .ge 27, 3) := by decide +kernel
theorem d_Sc_pick_71 : decode y_Sc_pick.2.1 71 = .ok (.aload_n 0, 1) := by decide +kernel
theorem d_Sc_pick_72 : decode y_Sc_pick.2.1 72 = .ok (.getfield 46, 3) := by decide +kernel
theorem d_Sc_pick_75 : decode y_Sc_pick.2.1 75 = .ok (.astore 9, 2) := by decide +kernel
theorem d_Sc_pick_77 : decode y_Sc_pick.2.1 77 = .ok (.aload_n 0, 1) := by decide +kernel
theorem d_Sc_pick_78 : decode y_Sc_pick.2.1 78 = .ok (.aload_n 0, 1) := by decide +kernel
theorem d_Sc_pick_79 : decode y_Sc_pick.2.1 79 = .ok (.getfield 50, 3) := by decide +kernel
theorem d_Sc_pick_82 : decode y_Sc_pick.2.1 82 = .ok (.putfield 46, 3) := by decide +kernel
theorem d_Sc_pick_85 : decode y_Sc_pick.2.1 85 = .ok (.aload_n 0, 1) := by decide +kernel
theorem d_Sc_pick_86 : decode y_Sc_pick.2.1 86 = .ok (.aload 9, 2) := by decide +kernel
theorem d_Sc_pick_88 : decode y_Sc_pick.2.1 88 = .ok (.putfield 50, 3) := by decide +kernel
theorem d_Sc_pick_91 : decode y_Sc_pick.2.1 91 = .ok (.iload 7, 2) := by decide +kernel
theorem d_Sc_pick_93 : decode y_Sc_pick.2.1 93 = .ok (.istore 6, 2) := by decide +kernel
theorem d_Sc_pick_58 : decode y_Sc_pick.2.1 58 = .ok (.iload 8, 2) := by decide +kernel
theorem d_Sc_pick_60 : decode y_Sc_pick.2.1 60 = .ok (.ifCond .le 35, 3) := by decide +kernel
theorem d_Sc_pick_63 : decode y_Sc_pick.2.1 63 = .ok (.goto 8, 3) := by decide +kernel
theorem d_Sc_pick_95 : decode y_Sc_pick.2.1 95 = .ok (.iinc 7 1, 3) := by decide +kernel
theorem d_Sc_pick_98 : decode y_Sc_pick.2.1 98 = .ok (.goto (-78), 3) := by decide +kernel
def h_Sc_pick_20 (G : mG) (d : Nat) (a0 : Nat) (a1 : Nat) (l3 : Int) (l4 : Int) (a5 : Nat) (l6 : Int) (l7 : Int) (M : mM) (Q : Int → mM → Prop) : Prop := mWm G y_Sc_pick (d + 1) 20 [vr a0, vr a1, vd, vi l3, vi l4, vr a5, vi l6, vi l7, vd, vd] [] M (fun r9 M9 => ∃ x9, r9 = some (vi x9) ∧ Q x9 M9)
theorem k_Sc_pick {G : mG} {d : Nat} {a0 : Nat} {a1 : Nat} {l2 : Int} {l3 : Int} {l4 : Int} {a5 : Nat} {M : mM} {Q : Int → mM → Prop} (hO : mOk M) (hi_l2 : i32 l2) (hi_l3 : i32 l3) (hi_l4 : i32 l4)
    (h : mK M a0 = 9 ∧ Cv G y_Sc_weigh d [vr a0, vr a1, vi l2, vr a5, vr (mR M a0 9)] M (fun M2 => mOk M2 ∧ (h_Sc_pick_20 G d a0 a1 l3 l4 a5 l2 (l2 + 1) M2 Q))) :
    Ci G y_Sc_pick (d + 1) [vr a0, vr a1, vi l2, vi l3, vi l4, vr a5] M Q := by
  refine wm_open (y := y_Sc_pick) rfl (Nat.le_of_ble_eq_true rfl) (L := [vr a0, vr a1, vi l2, vi l3, vi l4, vr a5, vd, vd, vd, vd]) rfl ?_
  obtain ⟨h1, h⟩ := h
  refine wm_aload_n d_Sc_pick_0 rfl rfl ?_
  refine wm_aload_n d_Sc_pick_1 rfl rfl ?_
  refine wm_iload_n d_Sc_pick_2 rfl rfl ?_
  refine wm_aload d_Sc_pick_3 rfl ?_
  refine wm_aload_n d_Sc_pick_5 rfl rfl ?_
  refine gf_Sc_46 rfl d_Sc_pick_6 h1 ?_
  refine cf_Sc_159 rfl d_Sc_pick_9 h1 (Nat.le_of_ble_eq_true rfl) (Cv.mono h (fun M2 h => ?_))
  obtain ⟨hOM2, h⟩ := h
  refine wm_iload_n d_Sc_pick_12 rfl rfl ?_
  refine wm_istore d_Sc_pick_13 (by decide) (L' := [vr a0, vr a1, vi l2, vi l3, vi l4, vr a5, vi l2, vd, vd, vd]) rfl ?_
  refine wm_iload_n d_Sc_pick_15 rfl rfl ?_
  refine wm_iconst d_Sc_pick_16 ?_
  refine wm_iadd d_Sc_pick_17 ?_
  refine wm_istore d_Sc_pick_18 (by decide) (L' := [vr a0, vr a1, vi l2, vi l3, vi l4, vr a5, vi l2, vi (l2 + 1), vd, vd]) rfl ?_
  refine wm_less (L' := [vr a0, vr a1, vd, vi l3, vi l4, vr a5, vi l2, vi (l2 + 1), vd, vd]) ⟨Or.inr rfl, Or.inr rfl, Or.inl rfl, Or.inr rfl, Or.inr rfl, Or.inr rfl, Or.inr rfl, Or.inr rfl, Or.inl rfl, Or.inl rfl, trivial⟩ ?_
  exact h
theorem k_Sc_pick_20 {G : mG} {d : Nat} {a0 : Nat} {a1 : Nat} {l3 : Int} {l4 : Int} {a5 : Nat} {l6 : Int} {l7 : Int} {M : mM} {Q : Int → mM → Prop} (hO : mOk M) (hi_l3 : i32 l3) (hi_l4 : i32 l4) (hi_l6 : i32 l6) (hi_l7 : i32 l7)
    (h : ((l3 ≤ l7) → (Q l6 M)) ∧ (¬ (l3 ≤ l7) → (mK M a0 = 9 ∧ Cv G y_Sc_weigh d [vr a0, vr a1, vi l7, vr a5, vr (mR M a0 10)] M (fun M8 => mOk M8 ∧ (mK M8 a0 = 9 ∧ Ci G y_Sc_order d [vr a0, vr (mR M8 a0 10), vr (mR M8 a0 9)] M8 (fun x13 M12 => i32 x13 ∧ mOk M12 ∧ ((((l4 = 0) → (¬ (0 ≤ x13) → mK M12 a0 = 9)) ∧ (¬ (l4 = 0) → (¬ (x13 ≤ 0) → mK M12 a0 = 9))) ∧ ∀ v20 : Int, v20 = (if (((l4 = 0) ∧ (0 ≤ x13)) ∨ ((¬ (l4 = 0)) ∧ (x13 ≤ 0))) then l6 else l7) → ∀ M21 : mM, M21 = (if (((l4 = 0) ∧ (0 ≤ x13)) ∨ ((¬ (l4 = 0)) ∧ (x13 ≤ 0))) then M12 else (mUR (mUR M12 a0 9 (mR M12 a0 10)) a0 10 (mR M12 a0 9))) → mOk M21 ∧ h_Sc_pick_20 G d a0 a1 l3 l4 a5 v20 (l7 + 1) M21 Q))))))) :
    h_Sc_pick_20 G d a0 a1 l3 l4 a5 l6 l7 M Q := by
  unfold h_Sc_pick_20
  refine wm_iload d_Sc_pick_20 rfl ?_
  refine wm_iload_n d_Sc_pick_22 rfl rfl ?_
  refine wm_icmp_ge (tgt := 101) d_Sc_pick_23 rfl hi_l7 hi_l3 (fun c6 => ?_) (fun c6 => ?_)
  · replace h := h.1 c6
    refine wm_iload d_Sc_pick_101 rfl ?_
    refine wm_ireturn d_Sc_pick_103 rfl rfl ?_
    exact ⟨_, rfl, h⟩
  · replace h := h.2 c6
    obtain ⟨h7, h⟩ := h
    refine wm_aload_n d_Sc_pick_26 rfl rfl ?_
    refine wm_aload_n d_Sc_pick_27 rfl rfl ?_
    refine wm_iload d_Sc_pick_28 rfl ?_
    refine wm_aload d_Sc_pick_30 rfl ?_
    refine wm_aload_n d_Sc_pick_32 rfl rfl ?_
    refine gf_Sc_50 rfl d_Sc_pick_33 h7 ?_
    refine cf_Sc_159 rfl d_Sc_pick_36 h7 (Nat.le_of_ble_eq_true rfl) (Cv.mono h (fun M8 h => ?_))
    obtain ⟨hOM8, h⟩ := h
    obtain ⟨h11, h⟩ := h
    refine wm_aload_n d_Sc_pick_39 rfl rfl ?_
    refine wm_aload_n d_Sc_pick_40 rfl rfl ?_
    refine gf_Sc_50 rfl d_Sc_pick_41 h11 ?_
    refine wm_aload_n d_Sc_pick_44 rfl rfl ?_
    refine gf_Sc_46 rfl d_Sc_pick_45 h11 ?_
    refine cf_Sc_163 rfl d_Sc_pick_48 h11 (Nat.le_of_ble_eq_true rfl) (Ci.mono h (fun x13 M12 h => ?_))
    obtain ⟨h14, hOM12, h⟩ := h
    refine wm_istore d_Sc_pick_51 (by decide) (L' := [vr a0, vr a1, vd, vi l3, vi l4, vr a5, vi l6, vi l7, vi x13, vd]) rfl ?_
    refine wm_iload d_Sc_pick_53 rfl ?_
    obtain ⟨s22, h⟩ := h
    have hJ : ∀ v20 : Int, v20 = (if (((l4 = 0) ∧ (0 ≤ x13)) ∨ ((¬ (l4 = 0)) ∧ (x13 ≤ 0))) then l6 else l7) → ∀ M21 : mM, M21 = (if (((l4 = 0) ∧ (0 ≤ x13)) ∨ ((¬ (l4 = 0)) ∧ (x13 ≤ 0))) then M12 else (mUR (mUR M12 a0 9 (mR M12 a0 10)) a0 10 (mR M12 a0 9))) → mWm G y_Sc_pick (d + 1) 95 [vr a0, vr a1, vd, vi l3, vi l4, vr a5, vi v20, vi l7, vd, vd] [] M21 (fun r9 M9 => ∃ x9, r9 = some (vi x9) ∧ Q x9 M9) := by
      intro v20 e23
      intro M21 e24
      have h := h v20 e23 M21 e24
      have h25 : i32 v20 := by rw [e23]; (repeat' split) <;> first | exact hi_l6 | exact hi_l7
      have h26 : mK M21 = mK M12 := by rw [e24]; (repeat' split) <;> rfl
      obtain ⟨hOM21, h⟩ := h
      refine wm_iinc d_Sc_pick_95 (by decide) rfl (L' := [vr a0, vr a1, vd, vi l3, vi l4, vr a5, vi v20, vi (l7 + 1), vd, vd]) rfl ?_
      refine wm_goto (tgt := 20) d_Sc_pick_98 rfl ?_
      exact h
    clear h
    obtain ⟨s27, s28⟩ := s22
    refine wm_if_eq (tgt := 66) d_Sc_pick_55 rfl hi_l4 (fun c15 => ?_) (fun c15 => ?_)
    · have s27 := s27 c15
      have s29 := s27
      refine wm_iload d_Sc_pick_66 rfl ?_
      refine wm_if_ge (tgt := 95) d_Sc_pick_68 rfl h14 (fun c16 => ?_) (fun c16 => ?_)
      · refine wm_less (L' := [vr a0, vr a1, vd, vi l3, vi l4, vr a5, vi l6, vi l7, vd, vd]) ⟨Or.inr rfl, Or.inr rfl, Or.inl rfl, Or.inr rfl, Or.inr rfl, Or.inr rfl, Or.inr rfl, Or.inr rfl, Or.inl rfl, Or.inl rfl, trivial⟩ ?_
        exact hJ l6 (if_pos (Or.inl ⟨c15, c16⟩)).symm M12 (if_pos (Or.inl ⟨c15, c16⟩)).symm
      · have s29 := s29 c16
        have h17 := s29
        refine wm_aload_n d_Sc_pick_71 rfl rfl ?_
        refine gf_Sc_46 rfl d_Sc_pick_72 h17 ?_
        refine wm_astore d_Sc_pick_75 (by decide) (L' := [vr a0, vr a1, vd, vi l3, vi l4, vr a5, vi l6, vi l7, vi x13, vr (mR M12 a0 9)]) rfl ?_
        refine wm_aload_n d_Sc_pick_77 rfl rfl ?_
        refine wm_aload_n d_Sc_pick_78 rfl rfl ?_
        refine gf_Sc_50 rfl d_Sc_pick_79 h17 ?_
        refine pf_Sc_46 rfl d_Sc_pick_82 h17 rfl ?_
        refine wm_aload_n d_Sc_pick_85 rfl rfl ?_
        refine wm_aload d_Sc_pick_86 rfl ?_
        refine pf_Sc_50 rfl d_Sc_pick_88 (by rw [@]; exact h17) rfl ?_
        refine wm_iload d_Sc_pick_91 rfl ?_
        refine wm_istore d_Sc_pick_93 (by decide) (L' := [vr a0, vr a1, vd, vi l3, vi l4, vr a5, vi l7, vi l7, vi x13, vr (mR M12 a0 9)]) rfl ?_
        refine wm_less (L' := [vr a0, vr a1, vd, vi l3, vi l4, vr a5, vi l7, vi l7, vd, vd]) ⟨Or.inr rfl, Or.inr rfl, Or.inl rfl, Or.inr rfl, Or.inr rfl, Or.inr rfl, Or.inr rfl, Or.inr rfl, Or.inl rfl, Or.inl rfl, trivial⟩ ?_
        exact hJ l7 (if_neg (fun z30 => Or.elim z30 (fun w => c16 w.2) (fun w => w.1 c15))).symm (mUR (mUR M12 a0 9 (mR M12 a0 10)) a0 10 (mR M12 a0 9)) (if_neg (fun z32 => Or.elim z32 (fun w => c16 w.2) (fun w => w.1 c15))).symm
    · have s28 := s28 c15
      have s34 := s28
      refine wm_iload d_Sc_pick_58 rfl ?_
      refine wm_if_le (tgt := 95) d_Sc_pick_60 rfl h14 (fun c18 => ?_) (fun c18 => ?_)
      · refine wm_less (L' := [vr a0, vr a1, vd, vi l3, vi l4, vr a5, vi l6, vi l7, vd, vd]) ⟨Or.inr rfl, Or.inr rfl, Or.inl rfl, Or.inr rfl, Or.inr rfl, Or.inr rfl, Or.inr rfl, Or.inr rfl, Or.inl rfl, Or.inl rfl, trivial⟩ ?_
        exact hJ l6 (if_pos (Or.inr ⟨c15, c18⟩)).symm M12 (if_pos (Or.inr ⟨c15, c18⟩)).symm
      · have s34 := s34 c18
        have h19 := s34
        refine wm_goto (tgt := 71) d_Sc_pick_63 rfl ?_
        refine wm_aload_n d_Sc_pick_71 rfl rfl ?_
        refine gf_Sc_46 rfl d_Sc_pick_72 h19 ?_
        refine wm_astore d_Sc_pick_75 (by decide) (L' := [vr a0, vr a1, vd, vi l3, vi l4, vr a5, vi l6, vi l7, vi x13, vr (mR M12 a0 9)]) rfl ?_
        refine wm_aload_n d_Sc_pick_77 rfl rfl ?_
        refine wm_aload_n d_Sc_pick_78 rfl rfl ?_
        refine gf_Sc_50 rfl d_Sc_pick_79 h19 ?_
        refine pf_Sc_46 rfl d_Sc_pick_82 h19 rfl ?_
        refine wm_aload_n d_Sc_pick_85 rfl rfl ?_
        refine wm_aload d_Sc_pick_86 rfl ?_
        refine pf_Sc_50 rfl d_Sc_pick_88 (by rw [@]; exact h19) rfl ?_
        refine wm_iload d_Sc_pick_91 rfl ?_
        refine wm_istore d_Sc_pick_93 (by decide) (L' := [vr a0, vr a1, vd, vi l3, vi l4, vr a5, vi l7, vi l7, vi x13, vr (mR M12 a0 9)]) rfl ?_
        refine wm_less (L' := [vr a0, vr a1, vd, vi l3, vi l4, vr a5, vi l7, vi l7, vd, vd]) ⟨Or.inr rfl, Or.inr rfl, Or.inl rfl, Or.inr rfl, Or.inr rfl, Or.inr rfl, Or.inr rfl, Or.inr rfl, Or.inl rfl, Or.inl rfl, trivial⟩ ?_
        exact hJ l7 (if_neg (fun z35 => Or.elim z35 (fun w => c15 w.1) (fun w => c18 w.2))).symm (mUR (mUR M12 a0 9 (mR M12 a0 10)) a0 10 (mR M12 a0 9)) (if_neg (fun z37 => Or.elim z37 (fun w => c15 w.1) (fun w => c18 w.2))).symm
theorem d_Sc_orderOfPicked_0 : decode y_Sc_orderOfPicked.2.1 0 = .ok (.aload_n 0, 1) := by decide +kernel
theorem d_Sc_orderOfPicked_1 : decode y_Sc_orderOfPicked.2.1 1 = .ok (.aload_n 0, 1) := by decide +kernel
theorem d_Sc_orderOfPicked_2 : decode y_Sc_orderOfPicked.2.1 2 = .ok (.getfield 46, 3) := by decide +kernel
theorem d_Sc_orderOfPicked_5 : decode y_Sc_orderOfPicked.2.1 5 = .ok (.aload_n 1, 1) := by decide +kernel
theorem d_Sc_orderOfPicked_6 : decode y_Sc_orderOfPicked.2.1 6 = .ok (.invokevirtual 163, 3) := by decide +kernel
theorem d_Sc_orderOfPicked_9 : decode y_Sc_orderOfPicked.2.1 9 = .ok (.ireturn, 1) := by decide +kernel
theorem k_Sc_orderOfPicked {G : mG} {d : Nat} {a0 : Nat} {a1 : Nat} {M : mM} {Q : Int → mM → Prop} (hO : mOk M)
    (h : mK M a0 = 9 ∧ Ci G y_Sc_order d [vr a0, vr (mR M a0 9), vr a1] M (fun x3 M2 => i32 x3 ∧ mOk M2 ∧ (Q x3 M2))) :
    Ci G y_Sc_orderOfPicked (d + 1) [vr a0, vr a1] M Q := by
  refine wm_open (y := y_Sc_orderOfPicked) rfl (Nat.le_of_ble_eq_true rfl) (L := [vr a0, vr a1]) rfl ?_
  obtain ⟨h1, h⟩ := h
  refine wm_aload_n d_Sc_orderOfPicked_0 rfl rfl ?_
  refine wm_aload_n d_Sc_orderOfPicked_1 rfl rfl ?_
  refine gf_Sc_46 rfl d_Sc_orderOfPicked_2 h1 ?_
  refine wm_aload_n d_Sc_orderOfPicked_5 rfl rfl ?_
  refine cf_Sc_163 rfl d_Sc_orderOfPicked_6 h1 (Nat.le_of_ble_eq_true rfl) (Ci.mono h (fun x3 M2 h => ?_))
  obtain ⟨h4, hOM2, h⟩ := h
  refine wm_ireturn d_Sc_orderOfPicked_9 rfl rfl ?_
  exact ⟨_, rfl, h⟩
theorem d_Sc_move_0 : decode y_Sc_move.2.1 0 = .ok (.aload_n 3, 1) := by decide +kernel
theorem d_Sc_move_1 : decode y_Sc_move.2.1 1 = .ok (.aload_n 1, 1) := by decide +kernel
theorem d_Sc_move_2 : decode y_Sc_move.2.1 2 = .ok (.getfield 166, 3) := by decide +kernel
theorem d_Sc_move_5 : decode y_Sc_move.2.1 5 = .ok (.invokevirtual 169, 3) := by decide +kernel
theorem d_Sc_move_8 : decode y_Sc_move.2.1 8 = .ok (.iconst 0, 1) := by decide +kernel
theorem d_Sc_move_9 : decode y_Sc_move.2.1 9 = .ok (.istore 4, 2) := by decide +kernel
theorem d_Sc_move_11 : decode y_Sc_move.2.1 11 = .ok (.iload 4, 2) := by decide +kernel
theorem d_Sc_move_13 : decode y_Sc_move.2.1 13 = .ok (.aload_n 1, 1) := by decide +kernel
theorem d_Sc_move_14 : decode y_Sc_move.2.1 14 = .ok (.getfield 166, 3) := by decide +kernel
theorem d_Sc_move_17 : decode y_Sc_move.2.1 17 = .ok (.if_icmp .ge 110, 3) := by decide +kernel
theorem d_Sc_move_127 : decode y_Sc_move.2.1 127 = .ok (.iconst 1, 1) := by decide +kernel
theorem d_Sc_move_128 : decode y_Sc_move.2.1 128 = .ok (.ireturn, 1) := by decide +kernel
theorem d_Sc_move_20 : decode y_Sc_move.2.1 20 = .ok (.aload_n 1, 1) := by decide +kernel
theorem d_Sc_move_21 : decode y_Sc_move.2.1 21 = .ok (.getfield 172, 3) := by decide +kernel
theorem d_Sc_move_24 : decode y_Sc_move.2.1 24 = .ok (.iload 4, 2) := by decide +kernel
theorem d_Sc_move_26 : decode y_Sc_move.2.1 26 = .ok (.iaload, 1) := by decide +kernel
theorem d_Sc_move_27 : decode y_Sc_move.2.1 27 = .ok (.istore 5, 2) := by decide +kernel
theorem d_Sc_move_29 : decode y_Sc_move.2.1 29 = .ok (.aload_n 1, 1) := by decide +kernel
theorem d_Sc_move_30 : decode y_Sc_move.2.1 30 = .ok (.getfield 172, 3) := by decide +kernel
theorem d_Sc_move_33 : decode y_Sc_move.2.1 33 = .ok (.iload 4, 2) := by decide +kernel
theorem d_Sc_move_35 : decode y_Sc_move.2.1 35 = .ok (.iconst 1, 1) := by decide +kernel
theorem d_Sc_move_36 : decode y_Sc_move.2.1 36 = .ok (.iadd, 1) := by decide +kernel
theorem d_Sc_move_37 : decode y_Sc_move.2.1 37 = .ok (.iaload, 1) := by decide +kernel
theorem d_Sc_move_38 : decode y_Sc_move.2.1 38 = .ok (.istore 6, 2) := by decide +kernel
theorem d_Sc_move_40 : decode y_Sc_move.2.1 40 = .ok (.iload 5, 2) := by decide +kernel
theorem d_Sc_move_42 : decode y_Sc_move.2.1 42 = .ok (.iload 6, 2) := by decide +kernel
theorem d_Sc_move_44 : decode y_Sc_move.2.1 44 = .ok (.if_icmp .ne 23, 3) := by decide +kernel
theorem d_Sc_move_47 : decode y_Sc_move.2.1 47 = .ok (.aload_n 3, 1) := by decide +kernel
theorem d_Sc_move_48 : decode y_Sc_move.2.1 48 = .ok (.getfield 143, 3) := by decide +kernel
theorem d_Sc_move_51 : decode y_Sc_move.2.1 51 = .ok (.iload 4, 2) := by decide +kernel
theorem d_Sc_move_53 : decode y_Sc_move.2.1 53 = .ok (.aaload, 1) := by decide +kernel
theorem d_Sc_move_54 : decode y_Sc_move.2.1 54 = .ok (.aload_n 2, 1) := by decide +kernel
theorem d_Sc_move_55 : decode y_Sc_move.2.1 55 = .ok (.getfield 143, 3) := by decide +kernel
theorem d_Sc_move_58 : decode y_Sc_move.2.1 58 = .ok (.iload 4, 2) := by decide +kernel
theorem d_Sc_move_60 : decode y_Sc_move.2.1 60 = .ok (.aaload, 1) := by decide +kernel
theorem d_Sc_move_67 : decode y_Sc_move.2.1 67 = .ok (.aload_n 0, 1) := by decide +kernel
theorem d_Sc_move_68 : decode y_Sc_move.2.1 68 = .ok (.aload_n 1, 1) := by decide +kernel
theorem d_Sc_move_69 : decode y_Sc_move.2.1 69 = .ok (.iload 5, 2) := by decide +kernel
theorem d_Sc_move_71 : decode y_Sc_move.2.1 71 = .ok (.iload 6, 2) := by decide +kernel
theorem d_Sc_move_73 : decode y_Sc_move.2.1 73 = .ok (.aload_n 1, 1) := by decide +kernel
theorem d_Sc_move_74 : decode y_Sc_move.2.1 74 = .ok (.getfield 178, 3) := by decide +kernel
theorem d_Sc_move_77 : decode y_Sc_move.2.1 77 = .ok (.iload 4, 2) := by decide +kernel
theorem d_Sc_move_79 : decode y_Sc_move.2.1 79 = .ok (.iaload, 1) := by decide +kernel
theorem d_Sc_move_80 : decode y_Sc_move.2.1 80 = .ok (.iconst 1, 1) := by decide +kernel
theorem d_Sc_move_61 : decode y_Sc_move.2.1 61 = .ok (.invokevirtual 175, 3) := by decide +kernel
theorem d_Sc_move_64 : decode y_Sc_move.2.1 64 = .ok (.goto 57, 3) := by decide +kernel
theorem d_Sc_move_121 : decode y_Sc_move.2.1 121 = .ok (.iinc 4 1, 3) := by decide +kernel
theorem d_Sc_move_124 : decode y_Sc_move.2.1 124 = .ok (.goto (-113), 3) := by decide +kernel
theorem d_Sc_move_81 : decode y_Sc_move.2.1 81 = .ok (.if_icmp .ne 7, 3) := by decide +kernel
theorem d_Sc_move_84 : decode y_Sc_move.2.1 84 = .ok (.iconst 1, 1) := by decide +kernel
theorem d_Sc_move_85 : decode y_Sc_move.2.1 85 = .ok (.goto 4, 3) := by decide +kernel
theorem d_Sc_move_88 : decode y_Sc_move.2.1 88 = .ok (.iconst 0, 1) := by decide +kernel
theorem d_Sc_move_89 : decode y_Sc_move.2.1 89 = .ok (.aload_n 2, 1) := by decide +kernel
theorem d_Sc_move_90 : decode y_Sc_move.2.1 90 = .ok (.invokevirtual 181, 3) := by decide +kernel
theorem d_Sc_move_93 : decode y_Sc_move.2.1 93 = .ok (.pop, 1) := by decide +kernel
theorem d_Sc_move_94 : decode y_Sc_move.2.1 94 = .ok (.aload_n 0, 1) := by decide +kernel
theorem d_Sc_move_95 : decode y_Sc_move.2.1 95 = .ok (.aload_n 0, 1) := by decide +kernel
theorem d_Sc_move_96 : decode y_Sc_move.2.1 96 = .ok (.getfield 46, 3) := by decide +kernel
theorem d_Sc_move_99 : decode y_Sc_move.2.1 99 = .ok (.invokevirtual 185, 3) := by decide +kernel
theorem d_Sc_move_102 : decode y_Sc_move.2.1 102 = .ok (.ifCond .ne 5, 3) := by decide +kernel
theorem d_Sc_move_105 : decode y_Sc_move.2.1 105 = .ok (.iconst 0, 1) := by decide +kernel
theorem d_Sc_move_106 : decode y_Sc_move.2.1 106 = .ok (.ireturn, 1) := by decide +kernel
theorem d_Sc_move_107 : decode y_Sc_move.2.1 107 = .ok (.aload_n 3, 1) := by decide +kernel
theorem d_Sc_move_108 : decode y_Sc_move.2.1 108 = .ok (.getfield 143, 3) := by decide +kernel
theorem d_Sc_move_111 : decode y_Sc_move.2.1 111 = .ok (.iload 4, 2) := by decide +kernel
theorem d_Sc_move_113 : decode y_Sc_move.2.1 113 = .ok (.aaload, 1) := by decide +kernel
theorem d_Sc_move_114 : decode y_Sc_move.2.1 114 = .ok (.aload_n 0, 1) := by decide +kernel
theorem d_Sc_move_115 : decode y_Sc_move.2.1 115 = .ok (.getfield 46, 3) := by decide +kernel
theorem d_Sc_move_118 : decode y_Sc_move.2.1 118 = .ok (.invokevirtual 175, 3) := by decide +kernel
def h_Sc_move_11 (G : mG) (d : Nat) (a0 : Nat) (a1 : Nat) (a2 : Nat) (a3 : Nat) (l4 : Int) (M : mM) (Q : Int → mM → Prop) : Prop := mWm G y_Sc_move (d + 1) 11 [vr a0, vr a1, vr a2, vr a3, vi l4, vd, vd] [] M (fun r9 M9 => ∃ x9, r9 = some (vi x9) ∧ Q x9 M9)
theorem k_Sc_move {G : mG} {d : Nat} {a0 : Nat} {a1 : Nat} {a2 : Nat} {a3 : Nat} {M : mM} {Q : Int → mM → Prop} (hO : mOk M)
    (h : mK M a1 = 7 ∧ mK M a3 = 13 ∧ Cv G y_Fs_reserve d [vr a3, vi (mI M a1 0)] M (fun M3 => mOk M3 ∧ (h_Sc_move_11 G d a0 a1 a2 a3 0 M3 Q))) :
    Ci G y_Sc_move (d + 1) [vr a0, vr a1, vr a2, vr a3] M Q := by
  refine wm_open (y := y_Sc_move) rfl (Nat.le_of_ble_eq_true rfl) (L := [vr a0, vr a1, vr a2, vr a3, vd, vd, vd]) rfl ?_
  obtain ⟨h1, h⟩ := h
  obtain ⟨h2, h⟩ := h
  refine wm_aload_n d_Sc_move_0 rfl rfl ?_
  refine wm_aload_n d_Sc_move_1 rfl rfl ?_
  refine gf_Sc_166 rfl d_Sc_move_2 h1 ?_
  refine cf_Sc_169 rfl d_Sc_move_5 h2 (Nat.le_of_ble_eq_true rfl) (Cv.mono h (fun M3 h => ?_))
  obtain ⟨hOM3, h⟩ := h
  refine wm_iconst d_Sc_move_8 ?_
  refine wm_istore d_Sc_move_9 (by decide) (L' := [vr a0, vr a1, vr a2, vr a3, vi 0, vd, vd]) rfl ?_
  exact h
theorem k_Sc_move_11 {G : mG} {d : Nat} {a0 : Nat} {a1 : Nat} {a2 : Nat} {a3 : Nat} {l4 : Int} {M : mM} {Q : Int → mM → Prop} (hO : mOk M) (hi_l4 : i32 l4)
    (h : mK M a1 = 7 ∧ ((mI M a1 0 ≤ l4) → (Q 1 M)) ∧ (¬ (mI M a1 0 ≤ l4) → (mK M (mR M a1 4) = 30 ∧ ((0 : Int) ≤ l4 ∧ l4 < (mN M (mR M a1 4) : Int)) ∧ ((0 : Int) ≤ l4 + 1 ∧ l4 + 1 < (mN M (mR M a1 4) : Int)) ∧ ((mI M (mR M a1 4) (Int.toNat l4) = mI M (mR M a1 4) (Int.toNat (l4 + 1))) → (mK M a3 = 13 ∧ mK M (mR M a3 0) = 35 ∧ ((0 : Int) ≤ l4 ∧ l4 < (mN M (mR M a3 0) : Int)) ∧ mK M a2 = 13 ∧ mK M (mR M a2 0) = 35 ∧ ((0 : Int) ≤ l4 ∧ l4 < (mN M (mR M a2 0) : Int)) ∧ mK M (mR M (mR M a3 0) (Int.toNat l4)) = 11 ∧ Cv G y_Fr_put1 d [vr (mR M (mR M a3 0) (Int.toNat l4)), vr (mR M (mR M a2 0) (Int.toNat l4))] M (fun M26 => mOk M26 ∧ (h_Sc_move_11 G d a0 a1 a2 a3 (l4 + 1) M26 Q)))) ∧ (¬ (mI M (mR M a1 4) (Int.toNat l4) = mI M (mR M a1 4) (Int.toNat (l4 + 1))) → (mK M (mR M a1 2) = 30 ∧ ((0 : Int) ≤ l4 ∧ l4 < (mN M (mR M a1 2) : Int)) ∧ ∀ v32 : Int, v32 = (if (mI M (mR M a1 2) (Int.toNat l4) = 1) then 1 else 0) → mK M a0 = 9 ∧ Ci G y_Sc_pick d [vr a0, vr a1, vi (mI M (mR M a1 4) (Int.toNat l4)), vi (mI M (mR M a1 4) (Int.toNat (l4 + 1))), vi v32, vr a2] M (fun x39 M38 => i32 x39 ∧ mOk M38 ∧ (mK M38 a0 = 9 ∧ Ci G y_Sc_fits d [vr a0, vr (mR M38 a0 9)] M38 (fun x43 M42 => i32 x43 ∧ mOk M42 ∧ (((x43 = 0) → (Q 0 M42)) ∧ (¬ (x43 = 0) → (mK M42 a3 = 13 ∧ mK M42 (mR M42 a3 0) = 35 ∧ ((0 : Int) ≤ l4 ∧ l4 < (mN M42 (mR M42 a3 0) : Int)) ∧ mK M42 a0 = 9 ∧ mK M42 (mR M42 (mR M42 a3 0) (Int.toNat l4)) = 11 ∧ Cv G y_Fr_put1 d [vr (mR M42 (mR M42 a3 0) (Int.toNat l4)), vr (mR M42 a0 9)] M42 (fun M52 => mOk M52 ∧ (h_Sc_move_11 G d a0 a1 a2 a3 (l4 + 1) M52 Q))))))))))))) :
    h_Sc_move_11 G d a0 a1 a2 a3 l4 M Q := by
  unfold h_Sc_move_11
  obtain ⟨h6, h⟩ := h
  refine wm_iload d_Sc_move_11 rfl ?_
  refine wm_aload_n d_Sc_move_13 rfl rfl ?_
  refine gf_Sc_166 rfl d_Sc_move_14 h6 ?_
  refine wm_icmp_ge (tgt := 127) d_Sc_move_17 rfl hi_l4 (hO _ _).1 (fun c11 => ?_) (fun c11 => ?_)
  · replace h := h.1 c11
    refine wm_iconst d_Sc_move_127 ?_
    refine wm_ireturn d_Sc_move_128 rfl (m_nb (by decide)) ?_
    exact ⟨_, rfl, h⟩
  · replace h := h.2 c11
    obtain ⟨h12, h⟩ := h
    obtain ⟨h13, h⟩ := h
    obtain ⟨h14, h⟩ := h
    refine wm_aload_n d_Sc_move_20 rfl rfl ?_
    refine gf_Sc_172 rfl d_Sc_move_21 h6 ?_
    refine wm_iload d_Sc_move_24 rfl ?_
    refine wm_iald d_Sc_move_26 h12 h13 ?_
    refine wm_istore d_Sc_move_27 (by decide) (L' := [vr a0, vr a1, vr a2, vr a3, vi l4, vi (mI M (mR M a1 4) (Int.toNat l4)), vd]) rfl ?_
    refine wm_aload_n d_Sc_move_29 rfl rfl ?_
    refine gf_Sc_172 rfl d_Sc_move_30 h6 ?_
    refine wm_iload d_Sc_move_33 rfl ?_
    refine wm_iconst d_Sc_move_35 ?_
    refine wm_iadd d_Sc_move_36 ?_
    refine wm_iald d_Sc_move_37 h12 h14 ?_
    refine wm_istore d_Sc_move_38 (by decide) (L' := [vr a0, vr a1, vr a2, vr a3, vi l4, vi (mI M (mR M a1 4) (Int.toNat l4)), vi (mI M (mR M a1 4) (Int.toNat (l4 + 1)))]) rfl ?_
    refine wm_iload d_Sc_move_40 rfl ?_
    refine wm_iload d_Sc_move_42 rfl ?_
    refine wm_icmp_ne (tgt := 67) d_Sc_move_44 rfl (hO _ _).1 (hO _ _).1 (fun c18 => ?_) (fun c18 => ?_)
    · replace h := h.2 c18
      obtain ⟨h29, h⟩ := h
      obtain ⟨h30, h⟩ := h
      refine wm_aload_n d_Sc_move_67 rfl rfl ?_
      refine wm_aload_n d_Sc_move_68 rfl rfl ?_
      refine wm_iload d_Sc_move_69 rfl ?_
      refine wm_iload d_Sc_move_71 rfl ?_
      refine wm_aload_n d_Sc_move_73 rfl rfl ?_
      refine gf_Sc_178 rfl d_Sc_move_74 h6 ?_
      refine wm_iload d_Sc_move_77 rfl ?_
      refine wm_iald d_Sc_move_79 h29 h30 ?_
      refine wm_iconst d_Sc_move_80 ?_
      have hJ : ∀ v32 : Int, v32 = (if (mI M (mR M a1 2) (Int.toNat l4) = 1) then 1 else 0) → mWm G y_Sc_move (d + 1) 89 [vr a0, vr a1, vr a2, vr a3, vi l4, vd, vd] [vi v32, vi (mI M (mR M a1 4) (Int.toNat (l4 + 1))), vi (mI M (mR M a1 4) (Int.toNat l4)), vr a1, vr a0] M (fun r9 M9 => ∃ x9, r9 = some (vi x9) ∧ Q x9 M9) := by
        intro v32 e34
        have h := h v32 e34
        have h35 : i32 v32 := by rw [e34]; (repeat' split) <;> first | exact ⟨by decide, by decide⟩ | exact ⟨by decide, by decide⟩
        have h36 : (v32 = 0 ∨ v32 = 1) := by rw [e34]; (repeat' split) <;> decide
        obtain ⟨h37, h⟩ := h
        refine wm_aload_n d_Sc_move_89 rfl rfl ?_
        refine cf_Sc_181 rfl d_Sc_move_90 h37 (Nat.le_of_ble_eq_true rfl) (Ci.mono h (fun x39 M38 h => ?_))
        obtain ⟨h40, hOM38, h⟩ := h
        obtain ⟨h41, h⟩ := h
        refine wm_pop d_Sc_move_93 rfl ?_
        refine wm_aload_n d_Sc_move_94 rfl rfl ?_
        refine wm_aload_n d_Sc_move_95 rfl rfl ?_
        refine gf_Sc_46 rfl d_Sc_move_96 h41 ?_
        refine cf_Sc_185 rfl d_Sc_move_99 h41 (Nat.le_of_ble_eq_true rfl) (Ci.mono h (fun x43 M42 h => ?_))
        obtain ⟨h44, hOM42, h⟩ := h
        refine wm_if_ne (tgt := 107) d_Sc_move_102 rfl h44 (fun c46 => ?_) (fun c46 => ?_)
        · replace h := h.2 c46
          obtain ⟨h47, h⟩ := h
          obtain ⟨h48, h⟩ := h
          obtain ⟨h49, h⟩ := h
          obtain ⟨h50, h⟩ := h
          obtain ⟨h51, h⟩ := h
          refine wm_aload_n d_Sc_move_107 rfl rfl ?_
          refine gf_Sc_143 rfl d_Sc_move_108 h47 ?_
          refine wm_iload d_Sc_move_111 rfl ?_
          refine wm_aald5 d_Sc_move_113 h48 h49 ?_
          refine wm_aload_n d_Sc_move_114 rfl rfl ?_
          refine gf_Sc_46 rfl d_Sc_move_115 h50 ?_
          refine cf_Sc_175 rfl d_Sc_move_118 h51 (Nat.le_of_ble_eq_true rfl) (Cv.mono h (fun M52 h => ?_))
          obtain ⟨hOM52, h⟩ := h
          refine wm_iinc d_Sc_move_121 (by decide) rfl (L' := [vr a0, vr a1, vr a2, vr a3, vi (l4 + 1), vd, vd]) rfl ?_
          refine wm_goto (tgt := 11) d_Sc_move_124 rfl ?_
          exact h
        · replace c46 := Classical.not_not.mp c46
          replace h := h.1 c46
          refine wm_iconst d_Sc_move_105 ?_
          refine wm_ireturn d_Sc_move_106 rfl (m_nb (by decide)) ?_
          exact ⟨_, rfl, h⟩
      clear h
      refine wm_icmp_ne (tgt := 88) d_Sc_move_81 rfl (hO _ _).1 ⟨by decide, by decide⟩ (fun c31 => ?_) (fun c31 => ?_)
      · refine wm_iconst d_Sc_move_88 ?_
        refine wm_less (L' := [vr a0, vr a1, vr a2, vr a3, vi l4, vd, vd]) ⟨Or.inr rfl, Or.inr rfl, Or.inr rfl, Or.inr rfl, Or.inr rfl, Or.inl rfl, Or.inl rfl, trivial⟩ ?_
        exact hJ 0 (if_neg c31).symm
      · replace c31 := Classical.not_not.mp c31
        refine wm_iconst d_Sc_move_84 ?_
        refine wm_goto (tgt := 89) d_Sc_move_85 rfl ?_
        refine wm_less (L' := [vr a0, vr a1, vr a2, vr a3, vi l4, vd, vd]) ⟨Or.inr rfl, Or.inr rfl, Or.inr rfl, Or.inr rfl, Or.inr rfl, Or.inl rfl, Or.inl rfl, trivial⟩ ?_
        exact hJ 1 (if_pos c31).symm
    · replace c18 := Classical.not_not.mp c18
      replace h := h.1 c18
      obtain ⟨h19, h⟩ := h
      obtain ⟨h20, h⟩ := h
      obtain ⟨h21, h⟩ := h
      obtain ⟨h22, h⟩ := h
      obtain ⟨h23, h⟩ := h
      obtain ⟨h24, h⟩ := h
      obtain ⟨h25, h⟩ := h
      refine wm_aload_n d_Sc_move_47 rfl rfl ?_
      refine gf_Sc_143 rfl d_Sc_move_48 h19 ?_
      refine wm_iload d_Sc_move_51 rfl ?_
      refine wm_aald5 d_Sc_move_53 h20 h21 ?_
      refine wm_aload_n d_Sc_move_54 rfl rfl ?_
      refine gf_Sc_143 rfl d_Sc_move_55 h22 ?_
      refine wm_iload d_Sc_move_58 rfl ?_
      refine wm_aald5 d_Sc_move_60 h23 h24 ?_
      refine cf_Sc_175 rfl d_Sc_move_61 h25 (Nat.le_of_ble_eq_true rfl) (Cv.mono h (fun M26 h => ?_))
      obtain ⟨hOM26, h⟩ := h
      refine wm_goto (tgt := 121) d_Sc_move_64 rfl ?_
      refine wm_iinc d_Sc_move_121 (by decide) rfl (L' := [vr a0, vr a1, vr a2, vr a3, vi (l4 + 1), vi (mI M (mR M a1 4) (Int.toNat l4)), vi (mI M (mR M a1 4) (Int.toNat (l4 + 1)))]) rfl ?_
      refine wm_goto (tgt := 11) d_Sc_move_124 rfl ?_
      refine wm_less (L' := [vr a0, vr a1, vr a2, vr a3, vi (l4 + 1), vd, vd]) ⟨Or.inr rfl, Or.inr rfl, Or.inr rfl, Or.inr rfl, Or.inr rfl, Or.inl rfl, Or.inl rfl, trivial⟩ ?_
      exact h
theorem d_Sc_fits_0 : decode y_Sc_fits.2.1 0 = .ok (.aload_n 1, 1) := by decide +kernel
theorem d_Sc_fits_1 : decode y_Sc_fits.2.1 1 = .ok (.getfield 108, 3) := by decide +kernel
theorem d_Sc_fits_4 : decode y_Sc_fits.2.1 4 = .ok (.aload_n 1, 1) := by decide +kernel
theorem d_Sc_fits_5 : decode y_Sc_fits.2.1 5 = .ok (.getfield 111, 3) := by decide +kernel
theorem d_Sc_fits_8 : decode y_Sc_fits.2.1 8 = .ok (.invokevirtual 114, 3) := by decide +kernel
theorem d_Sc_fits_11 : decode y_Sc_fits.2.1 11 = .ok (.aload_n 1, 1) := by decide +kernel
theorem d_Sc_fits_12 : decode y_Sc_fits.2.1 12 = .ok (.iconst 1, 1) := by decide +kernel
theorem d_Sc_fits_13 : decode y_Sc_fits.2.1 13 = .ok (.putfield 111, 3) := by decide +kernel
theorem d_Sc_fits_16 : decode y_Sc_fits.2.1 16 = .ok (.aload_n 1, 1) := by decide +kernel
theorem d_Sc_fits_17 : decode y_Sc_fits.2.1 17 = .ok (.getfield 118, 3) := by decide +kernel
theorem d_Sc_fits_20 : decode y_Sc_fits.2.1 20 = .ok (.getfield 57, 3) := by decide +kernel
theorem d_Sc_fits_23 : decode y_Sc_fits.2.1 23 = .ok (.ifCond .ne 11, 3) := by decide +kernel
theorem d_Sc_fits_26 : decode y_Sc_fits.2.1 26 = .ok (.aload_n 1, 1) := by decide +kernel
theorem d_Sc_fits_27 : decode y_Sc_fits.2.1 27 = .ok (.iconst 0, 1) := by decide +kernel
theorem d_Sc_fits_34 : decode y_Sc_fits.2.1 34 = .ok (.aload_n 1, 1) := by decide +kernel
theorem d_Sc_fits_35 : decode y_Sc_fits.2.1 35 = .ok (.getfield 118, 3) := by decide +kernel
theorem d_Sc_fits_38 : decode y_Sc_fits.2.1 38 = .ok (.aload_n 1, 1) := by decide +kernel
theorem d_Sc_fits_39 : decode y_Sc_fits.2.1 39 = .ok (.getfield 108, 3) := by decide +kernel
theorem d_Sc_fits_28 : decode y_Sc_fits.2.1 28 = .ok (.invokevirtual 134, 3) := by decide +kernel
theorem d_Sc_fits_31 : decode y_Sc_fits.2.1 31 = .ok (.goto 43, 3) := by decide +kernel
theorem d_Sc_fits_42 : decode y_Sc_fits.2.1 42 = .ok (.invokestatic 65, 3) := by decide +kernel
theorem d_Sc_fits_45 : decode y_Sc_fits.2.1 45 = .ok (.ifCond .ne 11, 3) := by decide +kernel
theorem d_Sc_fits_48 : decode y_Sc_fits.2.1 48 = .ok (.aload_n 1, 1) := by decide +kernel
theorem d_Sc_fits_49 : decode y_Sc_fits.2.1 49 = .ok (.iconst 1, 1) := by decide +kernel
theorem d_Sc_fits_56 : decode y_Sc_fits.2.1 56 = .ok (.aload_n 1, 1) := by decide +kernel
theorem d_Sc_fits_57 : decode y_Sc_fits.2.1 57 = .ok (.getfield 108, 3) := by decide +kernel
theorem d_Sc_fits_50 : decode y_Sc_fits.2.1 50 = .ok (.invokevirtual 134, 3) := by decide +kernel
theorem d_Sc_fits_53 : decode y_Sc_fits.2.1 53 = .ok (.goto 21, 3) := by decide +kernel
theorem d_Sc_fits_60 : decode y_Sc_fits.2.1 60 = .ok (.invokevirtual 88, 3) := by decide +kernel
theorem d_Sc_fits_63 : decode y_Sc_fits.2.1 63 = .ok (.sipush 480, 3) := by decide +kernel
theorem d_Sc_fits_66 : decode y_Sc_fits.2.1 66 = .ok (.if_icmp .le 8, 3) := by decide +kernel
theorem d_Sc_fits_69 : decode y_Sc_fits.2.1 69 = .ok (.aload_n 0, 1) := by decide +kernel
theorem d_Sc_fits_70 : decode y_Sc_fits.2.1 70 = .ok (.aload_n 1, 1) := by decide +kernel
theorem d_Sc_fits_71 : decode y_Sc_fits.2.1 71 = .ok (.invokevirtual 189, 3) := by decide +kernel
theorem d_Sc_fits_74 : decode y_Sc_fits.2.1 74 = .ok (.aload_n 1, 1) := by decide +kernel
theorem d_Sc_fits_75 : decode y_Sc_fits.2.1 75 = .ok (.getfield 108, 3) := by decide +kernel
theorem d_Sc_fits_78 : decode y_Sc_fits.2.1 78 = .ok (.invokevirtual 88, 3) := by decide +kernel
theorem d_Sc_fits_81 : decode y_Sc_fits.2.1 81 = .ok (.sipush 480, 3) := by decide +kernel
theorem d_Sc_fits_84 : decode y_Sc_fits.2.1 84 = .ok (.if_icmp .gt 7, 3) := by decide +kernel
theorem d_Sc_fits_91 : decode y_Sc_fits.2.1 91 = .ok (.iconst 0, 1) := by decide +kernel
theorem d_Sc_fits_87 : decode y_Sc_fits.2.1 87 = .ok (.iconst 1, 1) := by decide +kernel
theorem d_Sc_fits_88 : decode y_Sc_fits.2.1 88 = .ok (.goto 4, 3) := by decide +kernel
theorem d_Sc_fits_92 : decode y_Sc_fits.2.1 92 = .ok (.ireturn, 1) := by decide +kernel
def h_Sc_fits_74 (G : mG) (d : Nat) (a1 : Nat) (M : mM) (Q : Int → mM → Prop) : Prop := mWm G y_Sc_fits (d + 1) 74 [vd, vr a1] [] M (fun r9 M9 => ∃ x9, r9 = some (vi x9) ∧ Q x9 M9)
theorem k_Sc_fits {G : mG} {d : Nat} {a0 : Nat} {a1 : Nat} {M : mM} {Q : Int → mM → Prop} (hO : mOk M)
    (h : mK M a1 = 11 ∧ mK M (mR M a1 1) = 10 ∧ Cv G y_Na_multiply d [vr (mR M a1 1), vi (mI M a1 2)] M (fun M3 => mOk M3 ∧ (mK M3 a1 = 11 ∧ ∀ M7, M7 = mUI M3 a1 2 1 → mK M7 (mR M7 a1 0) = 10 ∧ ((mI M7 (mR M7 a1 0) 1 = 0) → (Cv G y_Fr_put0 d [vr a1, vi 0] M7 (fun M12 => mOk M12 ∧ (h_Sc_fits_74 G d a1 M12 Q)))) ∧ (¬ (mI M7 (mR M7 a1 0) 1 = 0) → (Ci G y_Na_order d [vr (mR M7 a1 0), vr (mR M7 a1 1)] M7 (fun x16 M15 => i32 x16 ∧ mOk M15 ∧ (((x16 = 0) → (mK M15 a1 = 11 ∧ Cv G y_Fr_put0 d [vr a1, vi 1] M15 (fun M21 => mOk M21 ∧ (h_Sc_fits_74 G d a1 M21 Q)))) ∧ (¬ (x16 = 0) → (mK M15 a1 = 11 ∧ mK M15 (mR M15 a1 1) = 10 ∧ Ci G y_Na_bits d [vr (mR M15 a1 1)] M15 (fun x27 M26 => i32 x27 ∧ mOk M26 ∧ (((x27 ≤ 480) → (h_Sc_fits_74 G d a1 M26 Q)) ∧ (¬ (x27 ≤ 480) → (mK M26 a0 = 9 ∧ Cv G y_Sc_reduce d [vr a0, vr a1] M26 (fun M32 => mOk M32 ∧ (h_Sc_fits_74 G d a1 M32 Q))))))))))))))) :
    Ci G y_Sc_fits (d + 1) [vr a0, vr a1] M Q := by
  refine wm_open (y := y_Sc_fits) rfl (Nat.le_of_ble_eq_true rfl) (L := [vr a0, vr a1]) rfl ?_
  obtain ⟨h1, h⟩ := h
  obtain ⟨h2, h⟩ := h
  refine wm_aload_n d_Sc_fits_0 rfl rfl ?_
  refine gf_Sc_108 rfl d_Sc_fits_1 h1 ?_
  refine wm_aload_n d_Sc_fits_4 rfl rfl ?_
  refine gf_Sc_111 rfl d_Sc_fits_5 h1 ?_
  refine cf_Sc_114 rfl d_Sc_fits_8 h2 (Nat.le_of_ble_eq_true rfl) (Cv.mono h (fun M3 h => ?_))
  obtain ⟨hOM3, h⟩ := h
  obtain ⟨h6, h⟩ := h
  obtain ⟨M7, e8⟩ : ∃ M7, M7 = mUI M3 a1 2 1 := ⟨_, rfl⟩
  replace h := h M7 e8
  obtain ⟨h9, h⟩ := h
  refine wm_aload_n d_Sc_fits_11 rfl rfl ?_
  refine wm_iconst d_Sc_fits_12 ?_
  have hOM7 : mOk M7 := by rw [e8]; exact mOk_UI hOM3 ⟨by decide, by decide⟩
  refine pf_Sc_111 rfl d_Sc_fits_13 h6 ⟨by decide, by decide⟩ e8 ?_
  refine wm_aload_n d_Sc_fits_16 rfl rfl ?_
  refine gf_Sc_118 rfl d_Sc_fits_17 (by rw [e8]; exact h6) ?_
  refine gf_Sc_57 rfl d_Sc_fits_20 h9 ?_
  refine wm_if_ne (tgt := 34) d_Sc_fits_23 rfl (hOM7 _ _).1 (fun c11 => ?_) (fun c11 => ?_)
  · replace h := h.2 c11
    refine wm_aload_n d_Sc_fits_34 rfl rfl ?_
    refine gf_Sc_118 rfl d_Sc_fits_35 (by rw [e8]; exact h6) ?_
    refine wm_aload_n d_Sc_fits_38 rfl rfl ?_
    refine gf_Sc_108 rfl d_Sc_fits_39 (by rw [e8]; exact h6) ?_
    refine cf_Sc_65 rfl d_Sc_fits_42 (Nat.le_of_ble_eq_true rfl) (Ci.mono h (fun x16 M15 h => ?_))
    obtain ⟨h17, hOM15, h⟩ := h
    refine wm_if_ne (tgt := 56) d_Sc_fits_45 rfl h17 (fun c19 => ?_) (fun c19 => ?_)
    · replace h := h.2 c19
      obtain ⟨h24, h⟩ := h
      obtain ⟨h25, h⟩ := h
      refine wm_aload_n d_Sc_fits_56 rfl rfl ?_
      refine gf_Sc_108 rfl d_Sc_fits_57 h24 ?_
      refine cf_Sc_88 rfl d_Sc_fits_60 h25 (Nat.le_of_ble_eq_true rfl) (Ci.mono h (fun x27 M26 h => ?_))
      obtain ⟨h28, hOM26, h⟩ := h
      refine wm_sipush d_Sc_fits_63 (by decide) ?_
      refine wm_icmp_le (tgt := 74) d_Sc_fits_66 rfl h28 ⟨by decide, by decide⟩ (fun c30 => ?_) (fun c30 => ?_)
      · replace h := h.1 c30
        refine wm_less (L' := [vd, vr a1]) ⟨Or.inl rfl, Or.inr rfl, trivial⟩ ?_
        exact h
      · replace h := h.2 c30
        obtain ⟨h31, h⟩ := h
        refine wm_aload_n d_Sc_fits_69 rfl rfl ?_
        refine wm_aload_n d_Sc_fits_70 rfl rfl ?_
        refine cf_Sc_189 rfl d_Sc_fits_71 h31 (Nat.le_of_ble_eq_true rfl) (Cv.mono h (fun M32 h => ?_))
        obtain ⟨hOM32, h⟩ := h
        refine wm_less (L' := [vd, vr a1]) ⟨Or.inl rfl, Or.inr rfl, trivial⟩ ?_
        exact h
    · replace c19 := Classical.not_not.mp c19
      replace h := h.1 c19
      obtain ⟨h20, h⟩ := h
      refine wm_aload_n d_Sc_fits_48 rfl rfl ?_
      refine wm_iconst d_Sc_fits_49 ?_
      refine cf_Sc_134 rfl d_Sc_fits_50 h20 (Nat.le_of_ble_eq_true rfl) (Cv.mono h (fun M21 h => ?_))
      obtain ⟨hOM21, h⟩ := h
      refine wm_goto (tgt := 74) d_Sc_fits_53 rfl ?_
      refine wm_less (L' := [vd, vr a1]) ⟨Or.inl rfl, Or.inr rfl, trivial⟩ ?_
      exact h
  · replace c11 := Classical.not_not.mp c11
    replace h := h.1 c11
    refine wm_aload_n d_Sc_fits_26 rfl rfl ?_
    refine wm_iconst d_Sc_fits_27 ?_
    refine cf_Sc_134 rfl d_Sc_fits_28 (by rw [e8]; exact h6) (Nat.le_of_ble_eq_true rfl) (Cv.mono h (fun M12 h => ?_))
    obtain ⟨hOM12, h⟩ := h
    refine wm_goto (tgt := 74) d_Sc_fits_31 rfl ?_
    refine wm_less (L' := [vd, vr a1]) ⟨Or.inl rfl, Or.inr rfl, trivial⟩ ?_
    exact h
theorem k_Sc_fits_74 {G : mG} {d : Nat} {a1 : Nat} {M : mM} {Q : Int → mM → Prop} (hO : mOk M)
    (h : mK M a1 = 11 ∧ mK M (mR M a1 1) = 10 ∧ Ci G y_Na_bits d [vr (mR M a1 1)] M (fun x38 M37 => i32 x38 ∧ mOk M37 ∧ (∀ v41 : Int, v41 = (if (480 < x38) then 0 else 1) → Q v41 M37))) :
    h_Sc_fits_74 G d a1 M Q := by
  unfold h_Sc_fits_74
  obtain ⟨h35, h⟩ := h
  obtain ⟨h36, h⟩ := h
  refine wm_aload_n d_Sc_fits_74 rfl rfl ?_
  refine gf_Sc_108 rfl d_Sc_fits_75 h35 ?_
  refine cf_Sc_88 rfl d_Sc_fits_78 h36 (Nat.le_of_ble_eq_true rfl) (Ci.mono h (fun x38 M37 h => ?_))
  obtain ⟨h39, hOM37, h⟩ := h
  refine wm_sipush d_Sc_fits_81 (by decide) ?_
  have hJ : ∀ v41 : Int, v41 = (if (480 < x38) then 0 else 1) → mWm G y_Sc_fits (d + 1) 92 [vd, vd] [vi v41] M37 (fun r9 M9 => ∃ x9, r9 = some (vi x9) ∧ Q x9 M9) := by
    intro v41 e43
    have h := h v41 e43
    have h44 : i32 v41 := by rw [e43]; (repeat' split) <;> first | exact ⟨by decide, by decide⟩ | exact ⟨by decide, by decide⟩
    have h45 : (v41 = 0 ∨ v41 = 1) := by rw [e43]; (repeat' split) <;> decide
    refine wm_ireturn d_Sc_fits_92 rfl (m_nb h45) ?_
    exact ⟨_, rfl, h⟩
  clear h
  refine wm_icmp_gt (tgt := 91) d_Sc_fits_84 rfl h39 ⟨by decide, by decide⟩ (fun c40 => ?_) (fun c40 => ?_)
  · refine wm_iconst d_Sc_fits_91 ?_
    refine wm_less (L' := [vd, vd]) ⟨Or.inl rfl, Or.inl rfl, trivial⟩ ?_
    exact hJ 0 (if_pos c40).symm
  · refine wm_iconst d_Sc_fits_87 ?_
    refine wm_goto (tgt := 92) d_Sc_fits_88 rfl ?_
    refine wm_less (L' := [vd, vd]) ⟨Or.inl rfl, Or.inl rfl, trivial⟩ ?_
    exact hJ 1 (if_neg c40).symm
theorem d_So_init_0 : decode y_So_init.2.1 0 = .ok (.aload_n 0, 1) := by decide +kernel
theorem d_So_init_1 : decode y_So_init.2.1 1 = .ok (.invokespecial 3, 3) := by decide +kernel
theorem d_So_init_4 : decode y_So_init.2.1 4 = .ok (.aload_n 0, 1) := by decide +kernel
theorem d_So_init_5 : decode y_So_init.2.1 5 = .ok (.new 9, 3) := by decide +kernel
theorem d_So_init_8 : decode y_So_init.2.1 8 = .ok (.dup, 1) := by decide +kernel
theorem d_So_init_9 : decode y_So_init.2.1 9 = .ok (.invokespecial 11, 3) := by decide +kernel
theorem d_So_init_12 : decode y_So_init.2.1 12 = .ok (.putfield 12, 3) := by decide +kernel
theorem d_So_init_15 : decode y_So_init.2.1 15 = .ok (.aload_n 0, 1) := by decide +kernel
theorem d_So_init_16 : decode y_So_init.2.1 16 = .ok (.sipush 512, 3) := by decide +kernel
theorem d_So_init_19 : decode y_So_init.2.1 19 = .ok (.newarray .int, 2) := by decide +kernel
theorem d_So_init_21 : decode y_So_init.2.1 21 = .ok (.putfield 18, 3) := by decide +kernel
theorem d_So_init_24 : decode y_So_init.2.1 24 = .ok (.aload_n 0, 1) := by decide +kernel
theorem d_So_init_25 : decode y_So_init.2.1 25 = .ok (.sipush 512, 3) := by decide +kernel
theorem d_So_init_28 : decode y_So_init.2.1 28 = .ok (.newarray .int, 2) := by decide +kernel
theorem d_So_init_30 : decode y_So_init.2.1 30 = .ok (.putfield 22, 3) := by decide +kernel
theorem d_So_init_33 : decode y_So_init.2.1 33 = .ok (.aload_n 0, 1) := by decide +kernel
theorem d_So_init_34 : decode y_So_init.2.1 34 = .ok (.new 25, 3) := by decide +kernel
theorem d_So_init_37 : decode y_So_init.2.1 37 = .ok (.dup, 1) := by decide +kernel
theorem d_So_init_38 : decode y_So_init.2.1 38 = .ok (.invokespecial 27, 3) := by decide +kernel
theorem d_So_init_41 : decode y_So_init.2.1 41 = .ok (.putfield 28, 3) := by decide +kernel
theorem d_So_init_44 : decode y_So_init.2.1 44 = .ok (.aload_n 0, 1) := by decide +kernel
theorem d_So_init_45 : decode y_So_init.2.1 45 = .ok (.sipush 512, 3) := by decide +kernel
theorem d_So_init_48 : decode y_So_init.2.1 48 = .ok (.newarray .int, 2) := by decide +kernel
theorem d_So_init_50 : decode y_So_init.2.1 50 = .ok (.putfield 32, 3) := by decide +kernel
theorem d_So_init_53 : decode y_So_init.2.1 53 = .ok (.aload_n 0, 1) := by decide +kernel
theorem d_So_init_54 : decode y_So_init.2.1 54 = .ok (.sipush 512, 3) := by decide +kernel
theorem d_So_init_57 : decode y_So_init.2.1 57 = .ok (.newarray .int, 2) := by decide +kernel
theorem d_So_init_59 : decode y_So_init.2.1 59 = .ok (.putfield 35, 3) := by decide +kernel
theorem d_So_init_62 : decode y_So_init.2.1 62 = .ok (.aload_n 0, 1) := by decide +kernel
theorem d_So_init_63 : decode y_So_init.2.1 63 = .ok (.sipush 512, 3) := by decide +kernel
theorem d_So_init_66 : decode y_So_init.2.1 66 = .ok (.newarray .int, 2) := by decide +kernel
theorem d_So_init_68 : decode y_So_init.2.1 68 = .ok (.putfield 38, 3) := by decide +kernel
theorem d_So_init_71 : decode y_So_init.2.1 71 = .ok (.aload_n 0, 1) := by decide +kernel
theorem d_So_init_72 : decode y_So_init.2.1 72 = .ok (.bipush 40, 2) := by decide +kernel
theorem d_So_init_74 : decode y_So_init.2.1 74 = .ok (.newarray .int, 2) := by decide +kernel
theorem d_So_init_76 : decode y_So_init.2.1 76 = .ok (.putfield 41, 3) := by decide +kernel
theorem d_So_init_79 : decode y_So_init.2.1 79 = .ok (.aload_n 0, 1) := by decide +kernel
theorem d_So_init_80 : decode y_So_init.2.1 80 = .ok (.bipush 40, 2) := by decide +kernel
theorem d_So_init_82 : decode y_So_init.2.1 82 = .ok (.newarray .int, 2) := by decide +kernel
theorem d_So_init_84 : decode y_So_init.2.1 84 = .ok (.putfield 44, 3) := by decide +kernel
theorem d_So_init_87 : decode y_So_init.2.1 87 = .ok (.aload_n 0, 1) := by decide +kernel
theorem d_So_init_88 : decode y_So_init.2.1 88 = .ok (.sipush 4097, 3) := by decide +kernel
theorem d_So_init_91 : decode y_So_init.2.1 91 = .ok (.newarray .boolean, 2) := by decide +kernel
theorem d_So_init_93 : decode y_So_init.2.1 93 = .ok (.putfield 47, 3) := by decide +kernel
theorem d_So_init_96 : decode y_So_init.2.1 96 = .ok (.aload_n 0, 1) := by decide +kernel
theorem d_So_init_97 : decode y_So_init.2.1 97 = .ok (.sipush 512, 3) := by decide +kernel
theorem d_So_init_100 : decode y_So_init.2.1 100 = .ok (.newarray .int, 2) := by decide +kernel
theorem d_So_init_102 : decode y_So_init.2.1 102 = .ok (.putfield 51, 3) := by decide +kernel
theorem d_So_init_105 : decode y_So_init.2.1 105 = .ok (.aload_n 0, 1) := by decide +kernel
theorem d_So_init_106 : decode y_So_init.2.1 106 = .ok (.new 54, 3) := by decide +kernel
theorem d_So_init_109 : decode y_So_init.2.1 109 = .ok (.dup, 1) := by decide +kernel
theorem d_So_init_110 : decode y_So_init.2.1 110 = .ok (.invokespecial 56, 3) := by decide +kernel
theorem d_So_init_113 : decode y_So_init.2.1 113 = .ok (.putfield 57, 3) := by decide +kernel
theorem d_So_init_116 : decode y_So_init.2.1 116 = .ok (.aload_n 0, 1) := by decide +kernel
theorem d_So_init_117 : decode y_So_init.2.1 117 = .ok (.aload_n 1, 1) := by decide +kernel
theorem d_So_init_118 : decode y_So_init.2.1 118 = .ok (.putfield 61, 3) := by decide +kernel
theorem d_So_init_121 : decode y_So_init.2.1 121 = .ok (.return_, 1) := by decide +kernel
theorem k_So_init {G : mG} {d : Nat} {a0 : Nat} {a1 : Nat} {M : mM} {Q : mM → Prop} (hO : mOk M)
    (h : 0 < a0 ∧ ∀ M2, M2 = mNew M 9 0 11 → Cv G y_Sc_init d [vr (mZ M)] M2 (fun M4 => mOk M4 ∧ (mK M4 a0 = 8 ∧ ∀ M8, M8 = mUR M4 a0 0 (mZ M) → ∀ M10, M10 = mNew M8 30 512 512 → mK M10 a0 = 8 ∧ ∀ M13, M13 = mUR M10 a0 1 (mZ M8) → ∀ M15, M15 = mNew M13 30 512 512 → mK M15 a0 = 8 ∧ ∀ M18, M18 = mUR M15 a0 2 (mZ M13) → ∀ M20, M20 = mNew M18 12 0 7 → Cv G y_Re_init d [vr (mZ M18)] M20 (fun M22 => mOk M22 ∧ (mK M22 a0 = 8 ∧ ∀ M26, M26 = mUR M22 a0 4 (mZ M18) → ∀ M28, M28 = mNew M26 30 512 512 → mK M28 a0 = 8 ∧ ∀ M31, M31 = mUR M28 a0 5 (mZ M26) → ∀ M33, M33 = mNew M31 30 512 512 → mK M33 a0 = 8 ∧ ∀ M36, M36 = mUR M33 a0 6 (mZ M31) → ∀ M38, M38 = mNew M36 30 512 512 → mK M38 a0 = 8 ∧ ∀ M41, M41 = mUR M38 a0 7 (mZ M36) → ∀ M43, M43 = mNew M41 30 40 40 → mK M43 a0 = 8 ∧ ∀ M46, M46 = mUR M43 a0 8 (mZ M41) → ∀ M48, M48 = mNew M46 30 40 40 → mK M48 a0 = 8 ∧ ∀ M51, M51 = mUR M48 a0 9 (mZ M46) → ∀ M53, M53 = mNew M51 31 4097 4097 → mK M53 a0 = 8 ∧ ∀ M56, M56 = mUR M53 a0 11 (mZ M51) → ∀ M58, M58 = mNew M56 30 512 512 → mK M58 a0 = 8 ∧ ∀ M61, M61 = mUR M58 a0 12 (mZ M56) → ∀ M63, M63 = mNew M61 11 0 3 → Cv G y_Fr_init d [vr (mZ M61)] M63 (fun M65 => mOk M65 ∧ (mK M65 a0 = 8 ∧ ∀ M69, M69 = mUR M65 a0 13 (mZ M61) → ∀ M71, M71 = mUR M69 a0 3 a1 → Q M71))))))) :
    Cv G y_So_init (d + 1) [vr a0, vr a1] M Q := by
  refine wm_open (y := y_So_init) rfl (Nat.le_of_ble_eq_true rfl) (L := [vr a0, vr a1]) rfl ?_
  obtain ⟨h1, h⟩ := h
  obtain ⟨M2, e3⟩ : ∃ M2, M2 = mNew M 9 0 11 := ⟨_, rfl⟩
  replace h := h M2 e3
  refine wm_aload_n d_So_init_0 rfl rfl ?_
  refine wm_objInit trivial k2_226 kO_inst kO_code (Nat.le_of_ble_eq_true rfl) d_So_init_1 h1 ?_
  refine wm_aload_n d_So_init_4 rfl rfl ?_
  have hOM2 : mOk M2 := by rw [e3]; exact mOk_New hO
  refine nf_So_9 rfl d_So_init_5 e3 ?_
  refine wm_dup d_So_init_8 rfl ?_
  refine cf_So_11 rfl d_So_init_9 (by rw [e3]; exact if_pos rfl) (Nat.le_of_ble_eq_true rfl) (Cv.mono h (fun M4 h => ?_))
  obtain ⟨hOM4, h⟩ := h
  obtain ⟨h7, h⟩ := h
  obtain ⟨M8, e9⟩ : ∃ M8, M8 = mUR M4 a0 0 (mZ M) := ⟨_, rfl⟩
  replace h := h M8 e9
  obtain ⟨M10, e11⟩ : ∃ M10, M10 = mNew M8 30 512 512 := ⟨_, rfl⟩
  replace h := h M10 e11
  obtain ⟨h12, h⟩ := h
  obtain ⟨M13, e14⟩ : ∃ M13, M13 = mUR M10 a0 1 (mZ M8) := ⟨_, rfl⟩
  replace h := h M13 e14
  obtain ⟨M15, e16⟩ : ∃ M15, M15 = mNew M13 30 512 512 := ⟨_, rfl⟩
  replace h := h M15 e16
  obtain ⟨h17, h⟩ := h
  obtain ⟨M18, e19⟩ : ∃ M18, M18 = mUR M15 a0 2 (mZ M13) := ⟨_, rfl⟩
  replace h := h M18 e19
  obtain ⟨M20, e21⟩ : ∃ M20, M20 = mNew M18 12 0 7 := ⟨_, rfl⟩
  replace h := h M20 e21
  have hOM8 : mOk M8 := by rw [e9]; exact mOk_UR hOM4
  refine pf_So_12 rfl rfl d_So_init_12 h7 e9 ?_
  refine wm_aload_n d_So_init_15 rfl rfl ?_
  refine wm_sipush d_So_init_16 (by decide) ?_
  have hOM10 : mOk M10 := by rw [e11]; exact mOk_New hOM8
  refine wm_newarrE 0 (atype := .int) (ty := .int) rfl rfl (fun _ => rfl) rfl rfl (by decide) k1_82 ⟨by decide, by decide⟩ d_So_init_19 e11 ?_
  have hOM13 : mOk M13 := by rw [e14]; exact mOk_UR hOM10
  refine pf_So_18 rfl rfl d_So_init_21 h12 e14 ?_
  refine wm_aload_n d_So_init_24 rfl rfl ?_
  refine wm_sipush d_So_init_25 (by decide) ?_
  have hOM15 : mOk M15 := by rw [e16]; exact mOk_New hOM13
  refine wm_newarrE 0 (atype := .int) (ty := .int) rfl rfl (fun _ => rfl) rfl rfl (by decide) k1_82 ⟨by decide, by decide⟩ d_So_init_28 e16 ?_
  have hOM18 : mOk M18 := by rw [e19]; exact mOk_UR hOM15
  refine pf_So_22 rfl rfl d_So_init_30 h17 e19 ?_
  refine wm_aload_n d_So_init_33 rfl rfl ?_
  have hOM20 : mOk M20 := by rw [e21]; exact mOk_New hOM18
  refine nf_So_25 rfl d_So_init_34 e21 ?_
  refine wm_dup d_So_init_37 rfl ?_
  refine cf_So_27 rfl d_So_init_38 (by rw [e21]; exact if_pos rfl) (Nat.le_of_ble_eq_true rfl) (Cv.mono h (fun M22 h => ?_))
  obtain ⟨hOM22, h⟩ := h
  obtain ⟨h25, h⟩ := h
  obtain ⟨M26, e27⟩ : ∃ M26, M26 = mUR M22 a0 4 (mZ M18) := ⟨_, rfl⟩
  replace h := h M26 e27
  obtain ⟨M28, e29⟩ : ∃ M28, M28 = mNew M26 30 512 512 := ⟨_, rfl⟩
  replace h := h M28 e29
  obtain ⟨h30, h⟩ := h
  obtain ⟨M31, e32⟩ : ∃ M31, M31 = mUR M28 a0 5 (mZ M26) := ⟨_, rfl⟩
  replace h := h M31 e32
  obtain ⟨M33, e34⟩ : ∃ M33, M33 = mNew M31 30 512 512 := ⟨_, rfl⟩
  replace h := h M33 e34
  obtain ⟨h35, h⟩ := h
  obtain ⟨M36, e37⟩ : ∃ M36, M36 = mUR M33 a0 6 (mZ M31) := ⟨_, rfl⟩
  replace h := h M36 e37
  obtain ⟨M38, e39⟩ : ∃ M38, M38 = mNew M36 30 512 512 := ⟨_, rfl⟩
  replace h := h M38 e39
  obtain ⟨h40, h⟩ := h
  obtain ⟨M41, e42⟩ : ∃ M41, M41 = mUR M38 a0 7 (mZ M36) := ⟨_, rfl⟩
  replace h := h M41 e42
  obtain ⟨M43, e44⟩ : ∃ M43, M43 = mNew M41 30 40 40 := ⟨_, rfl⟩
  replace h := h M43 e44
  obtain ⟨h45, h⟩ := h
  obtain ⟨M46, e47⟩ : ∃ M46, M46 = mUR M43 a0 8 (mZ M41) := ⟨_, rfl⟩
  replace h := h M46 e47
  obtain ⟨M48, e49⟩ : ∃ M48, M48 = mNew M46 30 40 40 := ⟨_, rfl⟩
  replace h := h M48 e49
  obtain ⟨h50, h⟩ := h
  obtain ⟨M51, e52⟩ : ∃ M51, M51 = mUR M48 a0 9 (mZ M46) := ⟨_, rfl⟩
  replace h := h M51 e52
  obtain ⟨M53, e54⟩ : ∃ M53, M53 = mNew M51 31 4097 4097 := ⟨_, rfl⟩
  replace h := h M53 e54
  obtain ⟨h55, h⟩ := h
  obtain ⟨M56, e57⟩ : ∃ M56, M56 = mUR M53 a0 11 (mZ M51) := ⟨_, rfl⟩
  replace h := h M56 e57
  obtain ⟨M58, e59⟩ : ∃ M58, M58 = mNew M56 30 512 512 := ⟨_, rfl⟩
  replace h := h M58 e59
  obtain ⟨h60, h⟩ := h
  obtain ⟨M61, e62⟩ : ∃ M61, M61 = mUR M58 a0 12 (mZ M56) := ⟨_, rfl⟩
  replace h := h M61 e62
  obtain ⟨M63, e64⟩ : ∃ M63, M63 = mNew M61 11 0 3 := ⟨_, rfl⟩
  replace h := h M63 e64
  have hOM26 : mOk M26 := by rw [e27]; exact mOk_UR hOM22
  refine pf_So_28 rfl rfl d_So_init_41 h25 e27 ?_
  refine wm_aload_n d_So_init_44 rfl rfl ?_
  refine wm_sipush d_So_init_45 (by decide) ?_
  have hOM28 : mOk M28 := by rw [e29]; exact mOk_New hOM26
  refine wm_newarrE 0 (atype := .int) (ty := .int) rfl rfl (fun _ => rfl) rfl rfl (by decide) k1_82 ⟨by decide, by decide⟩ d_So_init_48 e29 ?_
  have hOM31 : mOk M31 := by rw [e32]; exact mOk_UR hOM28
  refine pf_So_32 rfl rfl d_So_init_50 h30 e32 ?_
  refine wm_aload_n d_So_init_53 rfl rfl ?_
  refine wm_sipush d_So_init_54 (by decide) ?_
  have hOM33 : mOk M33 := by rw [e34]; exact mOk_New hOM31
  refine wm_newarrE 0 (atype := .int) (ty := .int) rfl rfl (fun _ => rfl) rfl rfl (by decide) k1_82 ⟨by decide, by decide⟩ d_So_init_57 e34 ?_
  have hOM36 : mOk M36 := by rw [e37]; exact mOk_UR hOM33
  refine pf_So_35 rfl rfl d_So_init_59 h35 e37 ?_
  refine wm_aload_n d_So_init_62 rfl rfl ?_
  refine wm_sipush d_So_init_63 (by decide) ?_
  have hOM38 : mOk M38 := by rw [e39]; exact mOk_New hOM36
  refine wm_newarrE 0 (atype := .int) (ty := .int) rfl rfl (fun _ => rfl) rfl rfl (by decide) k1_82 ⟨by decide, by decide⟩ d_So_init_66 e39 ?_
  have hOM41 : mOk M41 := by rw [e42]; exact mOk_UR hOM38
  refine pf_So_38 rfl rfl d_So_init_68 h40 e42 ?_
  refine wm_aload_n d_So_init_71 rfl rfl ?_
  refine wm_bipush d_So_init_72 (by decide) ?_
  have hOM43 : mOk M43 := by rw [e44]; exact mOk_New hOM41
  refine wm_newarrE 0 (atype := .int) (ty := .int) rfl rfl (fun _ => rfl) rfl rfl (by decide) k1_82 ⟨by decide, by decide⟩ d_So_init_74 e44 ?_
  have hOM46 : mOk M46 := by rw [e47]; exact mOk_UR hOM43
  refine pf_So_41 rfl rfl d_So_init_76 h45 e47 ?_
  refine wm_aload_n d_So_init_79 rfl rfl ?_
  refine wm_bipush d_So_init_80 (by decide) ?_
  have hOM48 : mOk M48 := by rw [e49]; exact mOk_New hOM46
  refine wm_newarrE 0 (atype := .int) (ty := .int) rfl rfl (fun _ => rfl) rfl rfl (by decide) k1_82 ⟨by decide, by decide⟩ d_So_init_82 e49 ?_
  have hOM51 : mOk M51 := by rw [e52]; exact mOk_UR hOM48
  refine pf_So_44 rfl rfl d_So_init_84 h50 e52 ?_
  refine wm_aload_n d_So_init_87 rfl rfl ?_
  refine wm_sipush d_So_init_88 (by decide) ?_
  have hOM53 : mOk M53 := by rw [e54]; exact mOk_New hOM51
  refine wm_newarrE 1 (atype := .boolean) (ty := .boolean) rfl rfl (fun _ => rfl) rfl rfl (by decide) k1_162 ⟨by decide, by decide⟩ d_So_init_91 e54 ?_
  have hOM56 : mOk M56 := by rw [e57]; exact mOk_UR hOM53
  refine pf_So_47 rfl rfl d_So_init_93 h55 e57 ?_
  refine wm_aload_n d_So_init_96 rfl rfl ?_
  refine wm_sipush d_So_init_97 (by decide) ?_
  have hOM58 : mOk M58 := by rw [e59]; exact mOk_New hOM56
  refine wm_newarrE 0 (atype := .int) (ty := .int) rfl rfl (fun _ => rfl) rfl rfl (by decide) k1_82 ⟨by decide, by decide⟩ d_So_init_100 e59 ?_
  have hOM61 : mOk M61 := by rw [e62]; exact mOk_UR hOM58
  refine pf_So_51 rfl rfl d_So_init_102 h60 e62 ?_
  refine wm_aload_n d_So_init_105 rfl rfl ?_
  have hOM63 : mOk M63 := by rw [e64]; exact mOk_New hOM61
  refine nf_So_54 rfl d_So_init_106 e64 ?_
  refine wm_dup d_So_init_109 rfl ?_
  refine cf_So_56 rfl d_So_init_110 (by rw [e64]; exact if_pos rfl) (Nat.le_of_ble_eq_true rfl) (Cv.mono h (fun M65 h => ?_))
  obtain ⟨hOM65, h⟩ := h
  obtain ⟨h68, h⟩ := h
  obtain ⟨M69, e70⟩ : ∃ M69, M69 = mUR M65 a0 13 (mZ M61) := ⟨_, rfl⟩
  replace h := h M69 e70
  obtain ⟨M71, e72⟩ : ∃ M71, M71 = mUR M69 a0 3 a1 := ⟨_, rfl⟩
  replace h := h M71 e72
  have hOM69 : mOk M69 := by rw [e70]; exact mOk_UR hOM65
  refine pf_So_57 rfl rfl d_So_init_113 h68 e70 ?_
  refine wm_aload_n d_So_init_116 rfl rfl ?_
  refine wm_aload_n d_So_init_117 rfl rfl ?_
  have hOM71 : mOk M71 := by rw [e72]; exact mOk_UR hOM69
  refine pf_So_61 rfl rfl d_So_init_118 (by rw [e70]; exact h68) e72 ?_
  refine wm_return d_So_init_121 rfl ?_
  exact ⟨rfl, h⟩
theorem d_So_workOut_0 : decode y_So_workOut.2.1 0 = .ok (.aload_n 2, 1) := by decide +kernel
theorem d_So_workOut_1 : decode y_So_workOut.2.1 1 = .ok (.iconst 0, 1) := by decide +kernel
theorem d_So_workOut_2 : decode y_So_workOut.2.1 2 = .ok (.putfield 65, 3) := by decide +kernel
theorem d_So_workOut_5 : decode y_So_workOut.2.1 5 = .ok (.aload_n 0, 1) := by decide +kernel
theorem d_So_workOut_6 : decode y_So_workOut.2.1 6 = .ok (.iload_n 1, 1) := by decide +kernel
theorem d_So_workOut_7 : decode y_So_workOut.2.1 7 = .ok (.invokevirtual 71, 3) := by decide +kernel
theorem d_So_workOut_10 : decode y_So_workOut.2.1 10 = .ok (.aload_n 0, 1) := by decide +kernel
theorem d_So_workOut_11 : decode y_So_workOut.2.1 11 = .ok (.invokevirtual 75, 3) := by decide +kernel
theorem d_So_workOut_14 : decode y_So_workOut.2.1 14 = .ok (.ifCond .ne 5, 3) := by decide +kernel
theorem d_So_workOut_17 : decode y_So_workOut.2.1 17 = .ok (.iconst 5, 1) := by decide +kernel
theorem d_So_workOut_18 : decode y_So_workOut.2.1 18 = .ok (.ireturn, 1) := by decide +kernel
theorem d_So_workOut_19 : decode y_So_workOut.2.1 19 = .ok (.aload_n 0, 1) := by decide +kernel
theorem d_So_workOut_20 : decode y_So_workOut.2.1 20 = .ok (.invokevirtual 79, 3) := by decide +kernel
theorem d_So_workOut_23 : decode y_So_workOut.2.1 23 = .ok (.sipush 480, 3) := by decide +kernel
theorem d_So_workOut_26 : decode y_So_workOut.2.1 26 = .ok (.if_icmp .le 6, 3) := by decide +kernel
theorem d_So_workOut_32 : decode y_So_workOut.2.1 32 = .ok (.aload_n 2, 1) := by decide +kernel
theorem d_So_workOut_33 : decode y_So_workOut.2.1 33 = .ok (.aload_n 0, 1) := by decide +kernel
theorem d_So_workOut_34 : decode y_So_workOut.2.1 34 = .ok (.getfield 61, 3) := by decide +kernel
theorem d_So_workOut_29 : decode y_So_workOut.2.1 29 = .ok (.bipush 6, 2) := by decide +kernel
theorem d_So_workOut_31 : decode y_So_workOut.2.1 31 = .ok (.ireturn, 1) := by decide +kernel
theorem d_So_workOut_37 : decode y_So_workOut.2.1 37 = .ok (.invokevirtual 83, 3) := by decide +kernel
theorem d_So_workOut_40 : decode y_So_workOut.2.1 40 = .ok (.iconst 1, 1) := by decide +kernel
theorem d_So_workOut_41 : decode y_So_workOut.2.1 41 = .ok (.istore_n 3, 1) := by decide +kernel
theorem d_So_workOut_42 : decode y_So_workOut.2.1 42 = .ok (.iconst 0, 1) := by decide +kernel
theorem d_So_workOut_43 : decode y_So_workOut.2.1 43 = .ok (.istore 4, 2) := by decide +kernel
theorem d_So_workOut_45 : decode y_So_workOut.2.1 45 = .ok (.iload 4, 2) := by decide +kernel
theorem d_So_workOut_47 : decode y_So_workOut.2.1 47 = .ok (.ldc 87, 2) := by decide +kernel
theorem d_So_workOut_49 : decode y_So_workOut.2.1 49 = .ok (.if_icmp .ge 42, 3) := by decide +kernel
theorem d_So_workOut_52 : decode y_So_workOut.2.1 52 = .ok (.iload_n 3, 1) := by decide +kernel
theorem d_So_workOut_53 : decode y_So_workOut.2.1 53 = .ok (.ifCond .eq 38, 3) := by decide +kernel
theorem d_So_workOut_56 : decode y_So_workOut.2.1 56 = .ok (.aload_n 0, 1) := by decide +kernel
theorem d_So_workOut_57 : decode y_So_workOut.2.1 57 = .ok (.aload_n 2, 1) := by decide +kernel
theorem d_So_workOut_91 : decode y_So_workOut.2.1 91 = .ok (.aload_n 2, 1) := by decide +kernel
theorem d_So_workOut_92 : decode y_So_workOut.2.1 92 = .ok (.iconst 1, 1) := by decide +kernel
theorem d_So_workOut_93 : decode y_So_workOut.2.1 93 = .ok (.putfield 65, 3) := by decide +kernel
theorem d_So_workOut_96 : decode y_So_workOut.2.1 96 = .ok (.iconst 0, 1) := by decide +kernel
theorem d_So_workOut_97 : decode y_So_workOut.2.1 97 = .ok (.ireturn, 1) := by decide +kernel
theorem d_So_workOut_58 : decode y_So_workOut.2.1 58 = .ok (.invokevirtual 88, 3) := by decide +kernel
theorem d_So_workOut_61 : decode y_So_workOut.2.1 61 = .ok (.aload_n 0, 1) := by decide +kernel
theorem d_So_workOut_62 : decode y_So_workOut.2.1 62 = .ok (.iconst 2, 1) := by decide +kernel
theorem d_So_workOut_63 : decode y_So_workOut.2.1 63 = .ok (.aload_n 2, 1) := by decide +kernel
theorem d_So_workOut_64 : decode y_So_workOut.2.1 64 = .ok (.invokevirtual 92, 3) := by decide +kernel
theorem d_So_workOut_67 : decode y_So_workOut.2.1 67 = .ok (.ifCond .ne 12, 3) := by decide +kernel
theorem d_So_workOut_70 : decode y_So_workOut.2.1 70 = .ok (.aload_n 0, 1) := by decide +kernel
theorem d_So_workOut_71 : decode y_So_workOut.2.1 71 = .ok (.iconst 1, 1) := by decide +kernel
theorem d_So_workOut_72 : decode y_So_workOut.2.1 72 = .ok (.aload_n 2, 1) := by decide +kernel
theorem d_So_workOut_73 : decode y_So_workOut.2.1 73 = .ok (.invokevirtual 92, 3) := by decide +kernel
theorem d_So_workOut_76 : decode y_So_workOut.2.1 76 = .ok (.ifCond .eq 7, 3) := by decide +kernel
theorem d_So_workOut_83 : decode y_So_workOut.2.1 83 = .ok (.iconst 0, 1) := by decide +kernel
theorem d_So_workOut_79 : decode y_So_workOut.2.1 79 = .ok (.iconst 1, 1) := by decide +kernel
theorem d_So_workOut_80 : decode y_So_workOut.2.1 80 = .ok (.goto 4, 3) := by decide +kernel
theorem d_So_workOut_84 : decode y_So_workOut.2.1 84 = .ok (.istore_n 3, 1) := by decide +kernel
theorem d_So_workOut_85 : decode y_So_workOut.2.1 85 = .ok (.iinc 4 1, 3) := by decide +kernel
theorem d_So_workOut_88 : decode y_So_workOut.2.1 88 = .ok (.goto (-43), 3) := by decide +kernel
def h_So_workOut_45 (G : mG) (d : Nat) (a0 : Nat) (a2 : Nat) (l3 : Int) (l4 : Int) (M : mM) (Q : Int → mM → Prop) : Prop := mWm G y_So_workOut (d + 1) 45 [vr a0, vd, vr a2, vi l3, vi l4] [] M (fun r9 M9 => ∃ x9, r9 = some (vi x9) ∧ Q x9 M9)
theorem k_So_workOut {G : mG} {d : Nat} {a0 : Nat} {l1 : Int} {a2 : Nat} {M : mM} {Q : Int → mM → Prop} (hO : mOk M) (hi_l1 : i32 l1)
    (h : mK M a2 = 13 ∧ ∀ M2, M2 = mUI M a2 1 0 → mK M2 a0 = 8 ∧ Cv G y_So_leaveCommands d [vr a0, vi l1] M2 (fun M5 => mOk M5 ∧ (mK M5 a0 = 8 ∧ Ci G y_So_findUnknown d [vr a0] M5 (fun x10 M9 => i32 x10 ∧ mOk M9 ∧ (((x10 = 0) → (Q 5 M9)) ∧ (¬ (x10 = 0) → (mK M9 a0 = 8 ∧ Ci G y_So_weights d [vr a0] M9 (fun x16 M15 => i32 x16 ∧ mOk M15 ∧ (((x16 ≤ 480) → (mK M15 a0 = 8 ∧ mK M15 a2 = 13 ∧ Cv G y_Fs_begin d [vr a2, vr (mR M15 a0 3)] M15 (fun M22 => mOk M22 ∧ (h_So_workOut_45 G d a0 a2 1 0 M22 Q)))) ∧ (¬ (x16 ≤ 480) → (Q 6 M15))))))))))) :
    Ci G y_So_workOut (d + 1) [vr a0, vi l1, vr a2] M Q := by
  refine wm_open (y := y_So_workOut) rfl (Nat.le_of_ble_eq_true rfl) (L := [vr a0, vi l1, vr a2, vd, vd]) rfl ?_
  obtain ⟨h1, h⟩ := h
  obtain ⟨M2, e3⟩ : ∃ M2, M2 = mUI M a2 1 0 := ⟨_, rfl⟩
  replace h := h M2 e3
  obtain ⟨h4, h⟩ := h
  refine wm_aload_n d_So_workOut_0 rfl rfl ?_
  refine wm_iconst d_So_workOut_1 ?_
  have hOM2 : mOk M2 := by rw [e3]; exact mOk_UI hO (m_b32 (by decide))
  refine pf_So_65 rfl d_So_workOut_2 h1 (by decide) e3 ?_
  refine wm_aload_n d_So_workOut_5 rfl rfl ?_
  refine wm_iload_n d_So_workOut_6 rfl rfl ?_
  refine cf_So_71 rfl d_So_workOut_7 h4 (Nat.le_of_ble_eq_true rfl) (Cv.mono h (fun M5 h => ?_))
  obtain ⟨hOM5, h⟩ := h
  obtain ⟨h8, h⟩ := h
  refine wm_aload_n d_So_workOut_10 rfl rfl ?_
  refine cf_So_75 rfl d_So_workOut_11 h8 (Nat.le_of_ble_eq_true rfl) (Ci.mono h (fun x10 M9 h => ?_))
  obtain ⟨h11, hOM9, h⟩ := h
  refine wm_if_ne (tgt := 19) d_So_workOut_14 rfl h11 (fun c13 => ?_) (fun c13 => ?_)
  · replace h := h.2 c13
    obtain ⟨h14, h⟩ := h
    refine wm_aload_n d_So_workOut_19 rfl rfl ?_
    refine cf_So_79 rfl d_So_workOut_20 h14 (Nat.le_of_ble_eq_true rfl) (Ci.mono h (fun x16 M15 h => ?_))
    obtain ⟨h17, hOM15, h⟩ := h
    refine wm_sipush d_So_workOut_23 (by decide) ?_
    refine wm_icmp_le (tgt := 32) d_So_workOut_26 rfl h17 ⟨by decide, by decide⟩ (fun c19 => ?_) (fun c19 => ?_)
    · replace h := h.1 c19
      obtain ⟨h20, h⟩ := h
      obtain ⟨h21, h⟩ := h
      refine wm_aload_n d_So_workOut_32 rfl rfl ?_
      refine wm_aload_n d_So_workOut_33 rfl rfl ?_
      refine gf_So_61 rfl d_So_workOut_34 h20 ?_
      refine cf_So_83 rfl d_So_workOut_37 h21 (Nat.le_of_ble_eq_true rfl) (Cv.mono h (fun M22 h => ?_))
      obtain ⟨hOM22, h⟩ := h
      refine wm_iconst d_So_workOut_40 ?_
      refine wm_istore_n d_So_workOut_41 rfl (by decide) (L' := [vr a0, vi l1, vr a2, vi 1, vd]) rfl ?_
      refine wm_iconst d_So_workOut_42 ?_
      refine wm_istore d_So_workOut_43 (by decide) (L' := [vr a0, vi l1, vr a2, vi 1, vi 0]) rfl ?_
      refine wm_less (L' := [vr a0, vd, vr a2, vi 1, vi 0]) ⟨Or.inr rfl, Or.inl rfl, Or.inr rfl, Or.inr rfl, Or.inr rfl, trivial⟩ ?_
      exact h
    · replace h := h.2 c19
      refine wm_bipush d_So_workOut_29 (by decide) ?_
      refine wm_ireturn d_So_workOut_31 rfl rfl ?_
      exact ⟨_, rfl, h⟩
  · replace c13 := Classical.not_not.mp c13
    replace h := h.1 c13
    refine wm_iconst d_So_workOut_17 ?_
    refine wm_ireturn d_So_workOut_18 rfl rfl ?_
    exact ⟨_, rfl, h⟩
theorem k_So_workOut_45 {G : mG} {d : Nat} {a0 : Nat} {a2 : Nat} {l3 : Int} {l4 : Int} {M : mM} {Q : Int → mM → Prop} (hO : mOk M) (hi_l3 : i32 l3) (hi_l4 : i32 l4)
    (h : (((1000000 ≤ l4) ∨ (l3 = 0)) → (mK M a2 = 13 ∧ ∀ M30, M30 = mUI M a2 1 1 → Q 0 M30)) ∧ (¬ ((1000000 ≤ l4) ∨ (l3 = 0)) → (mK M a0 = 8 ∧ Cv G y_So_evaluate d [vr a0, vr a2] M (fun M34 => mOk M34 ∧ (mK M34 a0 = 8 ∧ Ci G y_So_improve d [vr a0, vi 2, vr a2] M34 (fun x39 M38 => i32 x39 ∧ mOk M38 ∧ (((x39 = 0) → (mK M38 a0 = 8 ∧ Ci G y_So_improve d [vr a0, vi 1, vr a2] M38 (fun x46 M45 => i32 x46 ∧ mOk M45 ∧ (∀ v49 : Int, v49 = (if (x46 = 0) then 0 else 1) → h_So_workOut_45 G d a0 a2 v49 (l4 + 1) M45 Q)))) ∧ (¬ (x39 = 0) → (h_So_workOut_45 G d a0 a2 1 (l4 + 1) M38 Q))))))))) :
    h_So_workOut_45 G d a0 a2 l3 l4 M Q := by
  unfold h_So_workOut_45
  refine wm_iload d_So_workOut_45 rfl ?_
  refine wm_ldc (x := 1000000) d_So_workOut_47 k8_96 (by decide) ?_
  have hE0 : ((1000000 ≤ l4) ∨ (l3 = 0)) → mWm G y_So_workOut (d + 1) 91 [vr a0, vd, vr a2, vi l3, vi l4] [] M (fun r9 M9 => ∃ x9, r9 = some (vi x9) ∧ Q x9 M9) := by
    intro q28
    have h := h.1 q28
    obtain ⟨h29, h⟩ := h
    obtain ⟨M30, e31⟩ : ∃ M30, M30 = mUI M a2 1 1 := ⟨_, rfl⟩
    replace h := h M30 e31
    refine wm_aload_n d_So_workOut_91 rfl rfl ?_
    refine wm_iconst d_So_workOut_92 ?_
    have hOM30 : mOk M30 := by rw [e31]; exact mOk_UI hO (m_b32 (by decide))
    refine pf_So_65 rfl d_So_workOut_93 h29 (by decide) e31 ?_
    refine wm_iconst d_So_workOut_96 ?_
    refine wm_ireturn d_So_workOut_97 rfl rfl ?_
    exact ⟨_, rfl, h⟩
  have hE1 : ¬ ((1000000 ≤ l4) ∨ (l3 = 0)) → mWm G y_So_workOut (d + 1) 56 [vr a0, vd, vr a2, vi l3, vi l4] [] M (fun r9 M9 => ∃ x9, r9 = some (vi x9) ∧ Q x9 M9) := by
    intro q32
    have h := h.2 q32
    obtain ⟨h33, h⟩ := h
    refine wm_aload_n d_So_workOut_56 rfl rfl ?_
    refine wm_aload_n d_So_workOut_57 rfl rfl ?_
    refine cf_So_88 rfl d_So_workOut_58 h33 (Nat.le_of_ble_eq_true rfl) (Cv.mono h (fun M34 h => ?_))
    obtain ⟨hOM34, h⟩ := h
    obtain ⟨h37, h⟩ := h
    refine wm_aload_n d_So_workOut_61 rfl rfl ?_
    refine wm_iconst d_So_workOut_62 ?_
    refine wm_aload_n d_So_workOut_63 rfl rfl ?_
    refine cf_So_92 rfl d_So_workOut_64 h37 (Nat.le_of_ble_eq_true rfl) (Ci.mono h (fun x39 M38 h => ?_))
    obtain ⟨h40, hOM38, h⟩ := h
    refine wm_if_ne (tgt := 79) d_So_workOut_67 rfl h40 (fun c43 => ?_) (fun c43 => ?_)
    · replace h := h.2 c43
      refine wm_iconst d_So_workOut_79 ?_
      refine wm_goto (tgt := 84) d_So_workOut_80 rfl ?_
      refine wm_istore_n d_So_workOut_84 rfl (by decide) (L' := [vr a0, vd, vr a2, vi 1, vi l4]) rfl ?_
      refine wm_iinc d_So_workOut_85 (by decide) rfl (L' := [vr a0, vd, vr a2, vi 1, vi (l4 + 1)]) rfl ?_
      refine wm_goto (tgt := 45) d_So_workOut_88 rfl ?_
      exact h
    · replace c43 := Classical.not_not.mp c43
      replace h := h.1 c43
      obtain ⟨h44, h⟩ := h
      refine wm_aload_n d_So_workOut_70 rfl rfl ?_
      refine wm_iconst d_So_workOut_71 ?_
      refine wm_aload_n d_So_workOut_72 rfl rfl ?_
      refine cf_So_92 rfl d_So_workOut_73 h44 (Nat.le_of_ble_eq_true rfl) (Ci.mono h (fun x46 M45 h => ?_))
      obtain ⟨h47, hOM45, h⟩ := h
      have hJ : ∀ v49 : Int, v49 = (if (x46 = 0) then 0 else 1) → mWm G y_So_workOut (d + 1) 84 [vr a0, vd, vr a2, vd, vi l4] [vi v49] M45 (fun r9 M9 => ∃ x9, r9 = some (vi x9) ∧ Q x9 M9) := by
        intro v49 e51
        have h := h v49 e51
        have h52 : i32 v49 := by rw [e51]; (repeat' split) <;> first | exact ⟨by decide, by decide⟩ | exact ⟨by decide, by decide⟩
        have h53 : (v49 = 0 ∨ v49 = 1) := by rw [e51]; (repeat' split) <;> decide
        refine wm_istore_n d_So_workOut_84 rfl (by decide) (L' := [vr a0, vd, vr a2, vi v49, vi l4]) rfl ?_
        refine wm_iinc d_So_workOut_85 (by decide) rfl (L' := [vr a0, vd, vr a2, vi v49, vi (l4 + 1)]) rfl ?_
        refine wm_goto (tgt := 45) d_So_workOut_88 rfl ?_
        exact h
      clear h
      refine wm_if_eq (tgt := 83) d_So_workOut_76 rfl h47 (fun c48 => ?_) (fun c48 => ?_)
      · refine wm_iconst d_So_workOut_83 ?_
        refine wm_less (L' := [vr a0, vd, vr a2, vd, vi l4]) ⟨Or.inr rfl, Or.inl rfl, Or.inr rfl, Or.inl rfl, Or.inr rfl, trivial⟩ ?_
        exact hJ 0 (if_pos c48).symm
      · refine wm_iconst d_So_workOut_79 ?_
        refine wm_goto (tgt := 84) d_So_workOut_80 rfl ?_
        refine wm_less (L' := [vr a0, vd, vr a2, vd, vi l4]) ⟨Or.inr rfl, Or.inl rfl, Or.inr rfl, Or.inl rfl, Or.inr rfl, trivial⟩ ?_
        exact hJ 1 (if_neg c48).symm
  clear h
  refine wm_icmp_ge (tgt := 91) d_So_workOut_49 rfl hi_l4 ⟨by decide, by decide⟩ (fun c26 => ?_) (fun c26 => ?_)
  · exact hE0 (Or.inl c26)
  · refine wm_iload_n d_So_workOut_52 rfl rfl ?_
    refine wm_if_eq (tgt := 91) d_So_workOut_53 rfl hi_l3 (fun c25 => ?_) (fun c25 => ?_)
    · exact hE0 (Or.inr c25)
    · exact hE1 (fun z55 => Or.elim z55 c26 c25)
theorem d_So_leaveCommands_0 : decode y_So_leaveCommands.2.1 0 = .ok (.iconst 0, 1) := by decide +kernel
theorem d_So_leaveCommands_1 : decode y_So_leaveCommands.2.1 1 = .ok (.istore_n 2, 1) := by decide +kernel
theorem d_So_leaveCommands_2 : decode y_So_leaveCommands.2.1 2 = .ok (.iload_n 2, 1) := by decide +kernel
theorem d_So_leaveCommands_3 : decode y_So_leaveCommands.2.1 3 = .ok (.aload_n 0, 1) := by decide +kernel
theorem d_So_leaveCommands_4 : decode y_So_leaveCommands.2.1 4 = .ok (.getfield 61, 3) := by decide +kernel
theorem d_So_leaveCommands_7 : decode y_So_leaveCommands.2.1 7 = .ok (.getfield 96, 3) := by decide +kernel
theorem d_So_leaveCommands_10 : decode y_So_leaveCommands.2.1 10 = .ok (.if_icmp .ge 97, 3) := by decide +kernel
theorem d_So_leaveCommands_107 : decode y_So_leaveCommands.2.1 107 = .ok (.return_, 1) := by decide +kernel
theorem d_So_leaveCommands_13 : decode y_So_leaveCommands.2.1 13 = .ok (.iload_n 1, 1) := by decide +kernel
theorem d_So_leaveCommands_14 : decode y_So_leaveCommands.2.1 14 = .ok (.ifCond .eq 20, 3) := by decide +kernel
theorem d_So_leaveCommands_17 : decode y_So_leaveCommands.2.1 17 = .ok (.aload_n 0, 1) := by decide +kernel
theorem d_So_leaveCommands_18 : decode y_So_leaveCommands.2.1 18 = .ok (.getfield 61, 3) := by decide +kernel
theorem d_So_leaveCommands_21 : decode y_So_leaveCommands.2.1 21 = .ok (.getfield 102, 3) := by decide +kernel
theorem d_So_leaveCommands_24 : decode y_So_leaveCommands.2.1 24 = .ok (.iload_n 2, 1) := by decide +kernel
theorem d_So_leaveCommands_25 : decode y_So_leaveCommands.2.1 25 = .ok (.iaload, 1) := by decide +kernel
theorem d_So_leaveCommands_26 : decode y_So_leaveCommands.2.1 26 = .ok (.iload_n 1, 1) := by decide +kernel
theorem d_So_leaveCommands_27 : decode y_So_leaveCommands.2.1 27 = .ok (.if_icmp .ne 7, 3) := by decide +kernel
theorem d_So_leaveCommands_30 : decode y_So_leaveCommands.2.1 30 = .ok (.iconst 1, 1) := by decide +kernel
theorem d_So_leaveCommands_31 : decode y_So_leaveCommands.2.1 31 = .ok (.goto 4, 3) := by decide +kernel
theorem d_So_leaveCommands_35 : decode y_So_leaveCommands.2.1 35 = .ok (.istore_n 3, 1) := by decide +kernel
theorem d_So_leaveCommands_36 : decode y_So_leaveCommands.2.1 36 = .ok (.aload_n 0, 1) := by decide +kernel
theorem d_So_leaveCommands_37 : decode y_So_leaveCommands.2.1 37 = .ok (.getfield 32, 3) := by decide +kernel
theorem d_So_leaveCommands_40 : decode y_So_leaveCommands.2.1 40 = .ok (.iload_n 2, 1) := by decide +kernel
theorem d_So_leaveCommands_41 : decode y_So_leaveCommands.2.1 41 = .ok (.aload_n 0, 1) := by decide +kernel
theorem d_So_leaveCommands_42 : decode y_So_leaveCommands.2.1 42 = .ok (.getfield 61, 3) := by decide +kernel
theorem d_So_leaveCommands_45 : decode y_So_leaveCommands.2.1 45 = .ok (.getfield 105, 3) := by decide +kernel
theorem d_So_leaveCommands_48 : decode y_So_leaveCommands.2.1 48 = .ok (.iload_n 2, 1) := by decide +kernel
theorem d_So_leaveCommands_49 : decode y_So_leaveCommands.2.1 49 = .ok (.iaload, 1) := by decide +kernel
theorem d_So_leaveCommands_50 : decode y_So_leaveCommands.2.1 50 = .ok (.iload_n 3, 1) := by decide +kernel
theorem d_So_leaveCommands_34 : decode y_So_leaveCommands.2.1 34 = .ok (.iconst 0, 1) := by decide +kernel
theorem d_So_leaveCommands_51 : decode y_So_leaveCommands.2.1 51 = .ok (.ifCond .eq 15, 3) := by decide +kernel
theorem d_So_leaveCommands_66 : decode y_So_leaveCommands.2.1 66 = .ok (.iconst 0, 1) := by decide +kernel
theorem d_So_leaveCommands_54 : decode y_So_leaveCommands.2.1 54 = .ok (.aload_n 0, 1) := by decide +kernel
theorem d_So_leaveCommands_55 : decode y_So_leaveCommands.2.1 55 = .ok (.getfield 61, 3) := by decide +kernel
theorem d_So_leaveCommands_58 : decode y_So_leaveCommands.2.1 58 = .ok (.getfield 108, 3) := by decide +kernel
theorem d_So_leaveCommands_61 : decode y_So_leaveCommands.2.1 61 = .ok (.iload_n 2, 1) := by decide +kernel
theorem d_So_leaveCommands_62 : decode y_So_leaveCommands.2.1 62 = .ok (.iaload, 1) := by decide +kernel
theorem d_So_leaveCommands_63 : decode y_So_leaveCommands.2.1 63 = .ok (.goto 4, 3) := by decide +kernel
theorem d_So_leaveCommands_67 : decode y_So_leaveCommands.2.1 67 = .ok (.iadd, 1) := by decide +kernel
theorem d_So_leaveCommands_68 : decode y_So_leaveCommands.2.1 68 = .ok (.iastore, 1) := by decide +kernel
theorem d_So_leaveCommands_69 : decode y_So_leaveCommands.2.1 69 = .ok (.aload_n 0, 1) := by decide +kernel
theorem d_So_leaveCommands_70 : decode y_So_leaveCommands.2.1 70 = .ok (.getfield 35, 3) := by decide +kernel
theorem d_So_leaveCommands_73 : decode y_So_leaveCommands.2.1 73 = .ok (.iload_n 2, 1) := by decide +kernel
theorem d_So_leaveCommands_74 : decode y_So_leaveCommands.2.1 74 = .ok (.iload_n 3, 1) := by decide +kernel
theorem d_So_leaveCommands_75 : decode y_So_leaveCommands.2.1 75 = .ok (.ifCond .eq 14, 3) := by decide +kernel
theorem d_So_leaveCommands_89 : decode y_So_leaveCommands.2.1 89 = .ok (.aload_n 0, 1) := by decide +kernel
theorem d_So_leaveCommands_90 : decode y_So_leaveCommands.2.1 90 = .ok (.getfield 61, 3) := by decide +kernel
theorem d_So_leaveCommands_93 : decode y_So_leaveCommands.2.1 93 = .ok (.getfield 105, 3) := by decide +kernel
theorem d_So_leaveCommands_96 : decode y_So_leaveCommands.2.1 96 = .ok (.iload_n 2, 1) := by decide +kernel
theorem d_So_leaveCommands_97 : decode y_So_leaveCommands.2.1 97 = .ok (.iconst 1, 1) := by decide +kernel
theorem d_So_leaveCommands_98 : decode y_So_leaveCommands.2.1 98 = .ok (.iadd, 1) := by decide +kernel
theorem d_So_leaveCommands_99 : decode y_So_leaveCommands.2.1 99 = .ok (.iaload, 1) := by decide +kernel
theorem d_So_leaveCommands_78 : decode y_So_leaveCommands.2.1 78 = .ok (.aload_n 0, 1) := by decide +kernel
theorem d_So_leaveCommands_79 : decode y_So_leaveCommands.2.1 79 = .ok (.getfield 32, 3) := by decide +kernel
theorem d_So_leaveCommands_82 : decode y_So_leaveCommands.2.1 82 = .ok (.iload_n 2, 1) := by decide +kernel
theorem d_So_leaveCommands_83 : decode y_So_leaveCommands.2.1 83 = .ok (.iaload, 1) := by decide +kernel
theorem d_So_leaveCommands_84 : decode y_So_leaveCommands.2.1 84 = .ok (.iconst 1, 1) := by decide +kernel
theorem d_So_leaveCommands_85 : decode y_So_leaveCommands.2.1 85 = .ok (.iadd, 1) := by decide +kernel
theorem d_So_leaveCommands_86 : decode y_So_leaveCommands.2.1 86 = .ok (.goto 14, 3) := by decide +kernel
theorem d_So_leaveCommands_100 : decode y_So_leaveCommands.2.1 100 = .ok (.iastore, 1) := by decide +kernel
theorem d_So_leaveCommands_101 : decode y_So_leaveCommands.2.1 101 = .ok (.iinc 2 1, 3) := by decide +kernel
theorem d_So_leaveCommands_104 : decode y_So_leaveCommands.2.1 104 = .ok (.goto (-102), 3) := by decide +kernel
def h_So_leaveCommands_2 (G : mG) (d : Nat) (a0 : Nat) (l1 : Int) (l2 : Int) (M : mM) (Q : mM → Prop) : Prop := mWm G y_So_leaveCommands d 2 [vr a0, vi l1, vi l2, vd] [] M (fun r9 M9 => r9 = none ∧ Q M9)
theorem k_So_leaveCommands {G : mG} {d : Nat} {a0 : Nat} {l1 : Int} {M : mM} {Q : mM → Prop} (hO : mOk M) (hi_l1 : i32 l1)
    (h : h_So_leaveCommands_2 G d a0 l1 0 M Q) :
    Cv G y_So_leaveCommands d [vr a0, vi l1] M Q := by
  refine wm_open (y := y_So_leaveCommands) rfl (Nat.le_of_ble_eq_true rfl) (L := [vr a0, vi l1, vd, vd]) rfl ?_
  refine wm_iconst d_So_leaveCommands_0 ?_
  refine wm_istore_n d_So_leaveCommands_1 rfl (by decide) (L' := [vr a0, vi l1, vi 0, vd]) rfl ?_
  exact h
theorem k_So_leaveCommands_2 {G : mG} {d : Nat} {a0 : Nat} {l1 : Int} {l2 : Int} {M : mM} {Q : mM → Prop} (hO : mOk M) (hi_l1 : i32 l1) (hi_l2 : i32 l2)
    (h : mK M a0 = 8 ∧ mK M (mR M a0 3) = 7 ∧ ((mI M (mR M a0 3) 0 ≤ l2) → (Q M)) ∧ (¬ (mI M (mR M a0 3) 0 ≤ l2) → ((¬ (l1 = 0) → (mK M (mR M (mR M a0 3) 2) = 30 ∧ ((0 : Int) ≤ l2 ∧ l2 < (mN M (mR M (mR M a0 3) 2) : Int)))) ∧ ∀ v15 : Int, v15 = (if ((l1 = 0) ∨ (¬ (mI M (mR M (mR M a0 3) 2) (Int.toNat l2) = l1))) then 0 else 1) → mK M (mR M (mR M a0 3) 4) = 30 ∧ ((0 : Int) ≤ l2 ∧ l2 < (mN M (mR M (mR M a0 3) 4) : Int)) ∧ (¬ (v15 = 0) → (mK M (mR M (mR M a0 3) 3) = 30 ∧ ((0 : Int) ≤ l2 ∧ l2 < (mN M (mR M (mR M a0 3) 3) : Int)))) ∧ ∀ v25 : Int, v25 = (if (v15 = 0) then 0 else mI M (mR M (mR M a0 3) 3) (Int.toNat l2)) → mK M (mR M a0 5) = 30 ∧ ((0 : Int) ≤ l2 ∧ l2 < (mN M (mR M a0 5) : Int)) ∧ i32 ((mI M (mR M (mR M a0 3) 4) (Int.toNat l2)) + v25) ∧ ∀ M31, M31 = mUI M (mR M a0 5) (Int.toNat l2) ((mI M (mR M (mR M a0 3) 4) (Int.toNat l2)) + v25) → (((v15 = 0) → (mK M31 (mR M31 a0 3) = 7 ∧ mK M31 (mR M31 (mR M31 a0 3) 4) = 30 ∧ ((0 : Int) ≤ l2 + 1 ∧ l2 + 1 < (mN M31 (mR M31 (mR M31 a0 3) 4) : Int)))) ∧ (¬ (v15 = 0) → (mK M31 (mR M31 a0 5) = 30 ∧ ((0 : Int) ≤ l2 ∧ l2 < (mN M31 (mR M31 a0 5) : Int))))) ∧ ∀ v39 : Int, v39 = (if (v15 = 0) then mI M31 (mR M31 (mR M31 a0 3) 4) (Int.toNat (l2 + 1)) else (mI M31 (mR M31 a0 5) (Int.toNat l2)) + 1) → mK M31 (mR M31 a0 6) = 30 ∧ ((0 : Int) ≤ l2 ∧ l2 < (mN M31 (mR M31 a0 6) : Int)) ∧ i32 v39 ∧ ∀ M45, M45 = mUI M31 (mR M31 a0 6) (Int.toNat l2) v39 → h_So_leaveCommands_2 G d a0 l1 (l2 + 1) M45 Q))) :
    h_So_leaveCommands_2 G d a0 l1 l2 M Q := by
  unfold h_So_leaveCommands_2
  obtain ⟨h1, h⟩ := h
  obtain ⟨h2, h⟩ := h
  refine wm_iload_n d_So_leaveCommands_2 rfl rfl ?_
  refine wm_aload_n d_So_leaveCommands_3 rfl rfl ?_
  refine gf_So_61 rfl d_So_leaveCommands_4 h1 ?_
  refine gf_So_96 rfl d_So_leaveCommands_7 h2 ?_
  refine wm_icmp_ge (tgt := 107) d_So_leaveCommands_10 rfl hi_l2 (hO _ _).1 (fun c10 => ?_) (fun c10 => ?_)
  · replace h := h.1 c10
    refine wm_return d_So_leaveCommands_107 rfl ?_
    exact ⟨rfl, h⟩
  · replace h := h.2 c10
    refine wm_iload_n d_So_leaveCommands_13 rfl rfl ?_
    obtain ⟨s16, h⟩ := h
    have hJ : ∀ v15 : Int, v15 = (if ((l1 = 0) ∨ (¬ (mI M (mR M (mR M a0 3) 2) (Int.toNat l2) = l1))) then 0 else 1) → mWm G y_So_leaveCommands d 35 [vr a0, vi l1, vi l2, vd] [vi v15] M (fun r9 M9 => r9 = none ∧ Q M9) := by
      intro v15 e17
      have h := h v15 e17
      have h18 : i32 v15 := by rw [e17]; (repeat' split) <;> first | exact ⟨by decide, by decide⟩ | exact ⟨by decide, by decide⟩
      have h19 : (v15 = 0 ∨ v15 = 1) := by rw [e17]; (repeat' split) <;> decide
      obtain ⟨h20, h⟩ := h
      obtain ⟨h21, h⟩ := h
      refine wm_istore_n d_So_leaveCommands_35 rfl (by decide) (L' := [vr a0, vi l1, vi l2, vi v15]) rfl ?_
      refine wm_aload_n d_So_leaveCommands_36 rfl rfl ?_
      refine gf_So_32 rfl d_So_leaveCommands_37 h1 ?_
      refine wm_iload_n d_So_leaveCommands_40 rfl rfl ?_
      refine wm_aload_n d_So_leaveCommands_41 rfl rfl ?_
      refine gf_So_61 rfl d_So_leaveCommands_42 h1 ?_
      refine gf_So_105 rfl d_So_leaveCommands_45 h2 ?_
      refine wm_iload_n d_So_leaveCommands_48 rfl rfl ?_
      refine wm_iald d_So_leaveCommands_49 h20 h21 ?_
      refine wm_iload_n d_So_leaveCommands_50 rfl rfl ?_
      obtain ⟨s26, h⟩ := h
      have hJ : ∀ v25 : Int, v25 = (if (v15 = 0) then 0 else mI M (mR M (mR M a0 3) 3) (Int.toNat l2)) → mWm G y_So_leaveCommands d 67 [vr a0, vi l1, vi l2, vi v15] [vi v25, vi (mI M (mR M (mR M a0 3) 4) (Int.toNat l2)), vi l2, vr (mR M a0 5)] M (fun r9 M9 => r9 = none ∧ Q M9) := by
        intro v25 e27
        have h := h v25 e27
        obtain ⟨h28, h⟩ := h
        obtain ⟨h29, h⟩ := h
        obtain ⟨h30, h⟩ := h
        obtain ⟨M31, e32⟩ : ∃ M31, M31 = mUI M (mR M a0 5) (Int.toNat l2) ((mI M (mR M (mR M a0 3) 4) (Int.toNat l2)) + v25) := ⟨_, rfl⟩
        replace h := h M31 e32
        refine wm_iadd d_So_leaveCommands_67 ?_
        have hOM31 : mOk M31 := by rw [e32]; exact mOk_UI hO h30
        refine wm_iastE d_So_leaveCommands_68 h28 h29 h30 e32 ?_
        refine wm_aload_n d_So_leaveCommands_69 rfl rfl ?_
        refine gf_So_35 rfl d_So_leaveCommands_70 (by rw [e32]; exact h1) ?_
        refine wm_iload_n d_So_leaveCommands_73 rfl rfl ?_
        refine wm_iload_n d_So_leaveCommands_74 rfl rfl ?_
        obtain ⟨s40, h⟩ := h
        have hJ : ∀ v39 : Int, v39 = (if (v15 = 0) then mI M31 (mR M31 (mR M31 a0 3) 4) (Int.toNat (l2 + 1)) else (mI M31 (mR M31 a0 5) (Int.toNat l2)) + 1) → mWm G y_So_leaveCommands d 100 [vr a0, vi l1, vi l2, vd] [vi v39, vi l2, vr (mR M31 a0 6)] M31 (fun r9 M9 => r9 = none ∧ Q M9) := by
          intro v39 e41
          have h := h v39 e41
          obtain ⟨h42, h⟩ := h
          obtain ⟨h43, h⟩ := h
          obtain ⟨h44, h⟩ := h
          obtain ⟨M45, e46⟩ : ∃ M45, M45 = mUI M31 (mR M31 a0 6) (Int.toNat l2) v39 := ⟨_, rfl⟩
          replace h := h M45 e46
          have hOM45 : mOk M45 := by rw [e46]; exact mOk_UI hOM31 h44
          refine wm_iastE d_So_leaveCommands_100 h42 h43 h44 e46 ?_
          refine wm_iinc d_So_leaveCommands_101 (by decide) rfl (L' := [vr a0, vi l1, vi (l2 + 1), vd]) rfl ?_
          refine wm_goto (tgt := 2) d_So_leaveCommands_104 rfl ?_
          exact h
        clear h
        obtain ⟨s47, s48⟩ := s40
        refine wm_if_eq (tgt := 89) d_So_leaveCommands_75 rfl h18 (fun c33 => ?_) (fun c33 => ?_)
        · have s47 := s47 c33
          obtain ⟨h34, h35, h36⟩ := s47
          refine wm_aload_n d_So_leaveCommands_89 rfl rfl ?_
          refine gf_So_61 rfl d_So_leaveCommands_90 (by rw [e32]; exact h1) ?_
          refine gf_So_105 rfl d_So_leaveCommands_93 h34 ?_
          refine wm_iload_n d_So_leaveCommands_96 rfl rfl ?_
          refine wm_iconst d_So_leaveCommands_97 ?_
          refine wm_iadd d_So_leaveCommands_98 ?_
          refine wm_iald d_So_leaveCommands_99 h35 h36 ?_
          refine wm_less (L' := [vr a0, vi l1, vi l2, vd]) ⟨Or.inr rfl, Or.inr rfl, Or.inr rfl, Or.inl rfl, trivial⟩ ?_
          exact hJ (mI M31 (mR M31 (mR M31 a0 3) 4) (Int.toNat (l2 + 1))) (if_pos c33).symm
        · have s48 := s48 c33
          obtain ⟨h37, h38⟩ := s48
          refine wm_aload_n d_So_leaveCommands_78 rfl rfl ?_
          refine gf_So_32 rfl d_So_leaveCommands_79 (by rw [e32]; exact h1) ?_
          refine wm_iload_n d_So_leaveCommands_82 rfl rfl ?_
          refine wm_iald d_So_leaveCommands_83 h37 h38 ?_
          refine wm_iconst d_So_leaveCommands_84 ?_
          refine wm_iadd d_So_leaveCommands_85 ?_
          refine wm_goto (tgt := 100) d_So_leaveCommands_86 rfl ?_
          refine wm_less (L' := [vr a0, vi l1, vi l2, vd]) ⟨Or.inr rfl, Or.inr rfl, Or.inr rfl, Or.inl rfl, trivial⟩ ?_
          exact hJ ((mI M31 (mR M31 a0 5) (Int.toNat l2)) + 1) (if_neg c33).symm
      clear h
      have s50 := s26
      refine wm_if_eq (tgt := 66) d_So_leaveCommands_51 rfl h18 (fun c22 => ?_) (fun c22 => ?_)
      · refine wm_iconst d_So_leaveCommands_66 ?_
        exact hJ 0 (if_pos c22).symm
      · have s50 := s50 c22
        obtain ⟨h23, h24⟩ := s50
        refine wm_aload_n d_So_leaveCommands_54 rfl rfl ?_
        refine gf_So_61 rfl d_So_leaveCommands_55 h1 ?_
        refine gf_So_108 rfl d_So_leaveCommands_58 h2 ?_
        refine wm_iload_n d_So_leaveCommands_61 rfl rfl ?_
        refine wm_iald d_So_leaveCommands_62 h23 h24 ?_
        refine wm_goto (tgt := 67) d_So_leaveCommands_63 rfl ?_
        exact hJ (mI M (mR M (mR M a0 3) 3) (Int.toNat l2)) (if_neg c22).symm
    clear h
    have s52 := s16
    refine wm_if_eq (tgt := 34) d_So_leaveCommands_14 rfl hi_l1 (fun c11 => ?_) (fun c11 => ?_)
    · refine wm_iconst d_So_leaveCommands_34 ?_
      exact hJ 0 (if_pos (Or.inl c11)).symm
    · have s52 := s52 c11
      obtain ⟨h12, h13⟩ := s52
      refine wm_aload_n d_So_leaveCommands_17 rfl rfl ?_
      refine gf_So_61 rfl d_So_leaveCommands_18 h1 ?_
      refine gf_So_102 rfl d_So_leaveCommands_21 h2 ?_
      refine wm_iload_n d_So_leaveCommands_24 rfl rfl ?_
      refine wm_iald d_So_leaveCommands_25 h12 h13 ?_
      refine wm_iload_n d_So_leaveCommands_26 rfl rfl ?_
      refine wm_icmp_ne (tgt := 34) d_So_leaveCommands_27 rfl (hO _ _).1 hi_l1 (fun c14 => ?_) (fun c14 => ?_)
      · refine wm_iconst d_So_leaveCommands_34 ?_
        exact hJ 0 (if_pos (Or.inr c14)).symm
      · replace c14 := Classical.not_not.mp c14
        refine wm_iconst d_So_leaveCommands_30 ?_
        refine wm_goto (tgt := 35) d_So_leaveCommands_31 rfl ?_
        exact hJ 1 (if_neg (fun z53 => Or.elim z53 c11 (fun z54 => z54 c14))).symm
theorem d_So_findUnknown_0 : decode y_So_findUnknown.2.1 0 = .ok (.aload_n 0, 1) := by decide +kernel
theorem d_So_findUnknown_1 : decode y_So_findUnknown.2.1 1 = .ok (.iconst 0, 1) := by decide +kernel
theorem d_So_findUnknown_2 : decode y_So_findUnknown.2.1 2 = .ok (.putfield 111, 3) := by decide +kernel
theorem d_So_findUnknown_5 : decode y_So_findUnknown.2.1 5 = .ok (.aload_n 0, 1) := by decide +kernel
theorem d_So_findUnknown_6 : decode y_So_findUnknown.2.1 6 = .ok (.getfield 38, 3) := by decide +kernel
theorem d_So_findUnknown_9 : decode y_So_findUnknown.2.1 9 = .ok (.iconst (-1), 1) := by decide +kernel
theorem d_So_findUnknown_10 : decode y_So_findUnknown.2.1 10 = .ok (.invokestatic 114, 3) := by decide +kernel
theorem d_So_findUnknown_13 : decode y_So_findUnknown.2.1 13 = .ok (.iconst 1, 1) := by decide +kernel
theorem d_So_findUnknown_14 : decode y_So_findUnknown.2.1 14 = .ok (.istore_n 1, 1) := by decide +kernel
theorem d_So_findUnknown_15 : decode y_So_findUnknown.2.1 15 = .ok (.iconst 0, 1) := by decide +kernel
theorem d_So_findUnknown_16 : decode y_So_findUnknown.2.1 16 = .ok (.istore_n 2, 1) := by decide +kernel
theorem d_So_findUnknown_17 : decode y_So_findUnknown.2.1 17 = .ok (.iload_n 2, 1) := by decide +kernel
theorem d_So_findUnknown_18 : decode y_So_findUnknown.2.1 18 = .ok (.sipush 512, 3) := by decide +kernel
theorem d_So_findUnknown_21 : decode y_So_findUnknown.2.1 21 = .ok (.if_icmp .gt 119, 3) := by decide +kernel
theorem d_So_findUnknown_24 : decode y_So_findUnknown.2.1 24 = .ok (.iload_n 1, 1) := by decide +kernel
theorem d_So_findUnknown_25 : decode y_So_findUnknown.2.1 25 = .ok (.ifCond .eq 115, 3) := by decide +kernel
theorem d_So_findUnknown_28 : decode y_So_findUnknown.2.1 28 = .ok (.iconst 0, 1) := by decide +kernel
theorem d_So_findUnknown_29 : decode y_So_findUnknown.2.1 29 = .ok (.istore_n 1, 1) := by decide +kernel
theorem d_So_findUnknown_30 : decode y_So_findUnknown.2.1 30 = .ok (.aload_n 0, 1) := by decide +kernel
theorem d_So_findUnknown_31 : decode y_So_findUnknown.2.1 31 = .ok (.getfield 61, 3) := by decide +kernel
theorem d_So_findUnknown_34 : decode y_So_findUnknown.2.1 34 = .ok (.getfield 96, 3) := by decide +kernel
theorem d_So_findUnknown_37 : decode y_So_findUnknown.2.1 37 = .ok (.iconst 1, 1) := by decide +kernel
theorem d_So_findUnknown_38 : decode y_So_findUnknown.2.1 38 = .ok (.isub, 1) := by decide +kernel
theorem d_So_findUnknown_39 : decode y_So_findUnknown.2.1 39 = .ok (.istore_n 3, 1) := by decide +kernel
theorem d_So_findUnknown_140 : decode y_So_findUnknown.2.1 140 = .ok (.iconst 1, 1) := by decide +kernel
theorem d_So_findUnknown_141 : decode y_So_findUnknown.2.1 141 = .ok (.ireturn, 1) := by decide +kernel
theorem d_So_findUnknown_40 : decode y_So_findUnknown.2.1 40 = .ok (.iload_n 3, 1) := by decide +kernel
theorem d_So_findUnknown_41 : decode y_So_findUnknown.2.1 41 = .ok (.ifCond .lt 93, 3) := by decide +kernel
theorem d_So_findUnknown_134 : decode y_So_findUnknown.2.1 134 = .ok (.iinc 2 1, 3) := by decide +kernel
theorem d_So_findUnknown_137 : decode y_So_findUnknown.2.1 137 = .ok (.goto (-120), 3) := by decide +kernel
theorem d_So_findUnknown_44 : decode y_So_findUnknown.2.1 44 = .ok (.aload_n 0, 1) := by decide +kernel
theorem d_So_findUnknown_45 : decode y_So_findUnknown.2.1 45 = .ok (.getfield 38, 3) := by decide +kernel
theorem d_So_findUnknown_48 : decode y_So_findUnknown.2.1 48 = .ok (.iload_n 3, 1) := by decide +kernel
theorem d_So_findUnknown_49 : decode y_So_findUnknown.2.1 49 = .ok (.iaload, 1) := by decide +kernel
theorem d_So_findUnknown_50 : decode y_So_findUnknown.2.1 50 = .ok (.iconst (-1), 1) := by decide +kernel
theorem d_So_findUnknown_51 : decode y_So_findUnknown.2.1 51 = .ok (.if_icmp .ne 11, 3) := by decide +kernel
theorem d_So_findUnknown_54 : decode y_So_findUnknown.2.1 54 = .ok (.aload_n 0, 1) := by decide +kernel
theorem d_So_findUnknown_55 : decode y_So_findUnknown.2.1 55 = .ok (.iload_n 3, 1) := by decide +kernel
theorem d_So_findUnknown_62 : decode y_So_findUnknown.2.1 62 = .ok (.iconst (-1), 1) := by decide +kernel
theorem d_So_findUnknown_56 : decode y_So_findUnknown.2.1 56 = .ok (.invokevirtual 120, 3) := by decide +kernel
theorem d_So_findUnknown_59 : decode y_So_findUnknown.2.1 59 = .ok (.goto 4, 3) := by decide +kernel
theorem d_So_findUnknown_63 : decode y_So_findUnknown.2.1 63 = .ok (.istore 4, 2) := by decide +kernel
theorem d_So_findUnknown_65 : decode y_So_findUnknown.2.1 65 = .ok (.iload 4, 2) := by decide +kernel
theorem d_So_findUnknown_67 : decode y_So_findUnknown.2.1 67 = .ok (.iconst (-1), 1) := by decide +kernel
theorem d_So_findUnknown_68 : decode y_So_findUnknown.2.1 68 = .ok (.if_icmp .ne 6, 3) := by decide +kernel
theorem d_So_findUnknown_71 : decode y_So_findUnknown.2.1 71 = .ok (.goto 57, 3) := by decide +kernel
theorem d_So_findUnknown_128 : decode y_So_findUnknown.2.1 128 = .ok (.iinc 3 (-1), 3) := by decide +kernel
theorem d_So_findUnknown_131 : decode y_So_findUnknown.2.1 131 = .ok (.goto (-91), 3) := by decide +kernel
theorem d_So_findUnknown_74 : decode y_So_findUnknown.2.1 74 = .ok (.aload_n 0, 1) := by decide +kernel
theorem d_So_findUnknown_75 : decode y_So_findUnknown.2.1 75 = .ok (.getfield 111, 3) := by decide +kernel
theorem d_So_findUnknown_78 : decode y_So_findUnknown.2.1 78 = .ok (.bipush 40, 2) := by decide +kernel
theorem d_So_findUnknown_80 : decode y_So_findUnknown.2.1 80 = .ok (.if_icmp .ne 5, 3) := by decide +kernel
theorem d_So_findUnknown_83 : decode y_So_findUnknown.2.1 83 = .ok (.iconst 0, 1) := by decide +kernel
theorem d_So_findUnknown_84 : decode y_So_findUnknown.2.1 84 = .ok (.ireturn, 1) := by decide +kernel
theorem d_So_findUnknown_85 : decode y_So_findUnknown.2.1 85 = .ok (.aload_n 0, 1) := by decide +kernel
theorem d_So_findUnknown_86 : decode y_So_findUnknown.2.1 86 = .ok (.getfield 38, 3) := by decide +kernel
theorem d_So_findUnknown_89 : decode y_So_findUnknown.2.1 89 = .ok (.iload_n 3, 1) := by decide +kernel
theorem d_So_findUnknown_90 : decode y_So_findUnknown.2.1 90 = .ok (.aload_n 0, 1) := by decide +kernel
theorem d_So_findUnknown_91 : decode y_So_findUnknown.2.1 91 = .ok (.getfield 111, 3) := by decide +kernel
theorem d_So_findUnknown_94 : decode y_So_findUnknown.2.1 94 = .ok (.iastore, 1) := by decide +kernel
theorem d_So_findUnknown_95 : decode y_So_findUnknown.2.1 95 = .ok (.aload_n 0, 1) := by decide +kernel
theorem d_So_findUnknown_96 : decode y_So_findUnknown.2.1 96 = .ok (.getfield 41, 3) := by decide +kernel
theorem d_So_findUnknown_99 : decode y_So_findUnknown.2.1 99 = .ok (.aload_n 0, 1) := by decide +kernel
theorem d_So_findUnknown_100 : decode y_So_findUnknown.2.1 100 = .ok (.getfield 111, 3) := by decide +kernel
theorem d_So_findUnknown_103 : decode y_So_findUnknown.2.1 103 = .ok (.iload_n 3, 1) := by decide +kernel
theorem d_So_findUnknown_104 : decode y_So_findUnknown.2.1 104 = .ok (.iastore, 1) := by decide +kernel
theorem d_So_findUnknown_105 : decode y_So_findUnknown.2.1 105 = .ok (.aload_n 0, 1) := by decide +kernel
theorem d_So_findUnknown_106 : decode y_So_findUnknown.2.1 106 = .ok (.getfield 44, 3) := by decide +kernel
theorem d_So_findUnknown_109 : decode y_So_findUnknown.2.1 109 = .ok (.aload_n 0, 1) := by decide +kernel
theorem d_So_findUnknown_110 : decode y_So_findUnknown.2.1 110 = .ok (.getfield 111, 3) := by decide +kernel
theorem d_So_findUnknown_113 : decode y_So_findUnknown.2.1 113 = .ok (.iload 4, 2) := by decide +kernel
theorem d_So_findUnknown_115 : decode y_So_findUnknown.2.1 115 = .ok (.iastore, 1) := by decide +kernel
theorem d_So_findUnknown_116 : decode y_So_findUnknown.2.1 116 = .ok (.aload_n 0, 1) := by decide +kernel
theorem d_So_findUnknown_117 : decode y_So_findUnknown.2.1 117 = .ok (.dup, 1) := by decide +kernel
theorem d_So_findUnknown_118 : decode y_So_findUnknown.2.1 118 = .ok (.getfield 111, 3) := by decide +kernel
theorem d_So_findUnknown_121 : decode y_So_findUnknown.2.1 121 = .ok (.iconst 1, 1) := by decide +kernel
theorem d_So_findUnknown_122 : decode y_So_findUnknown.2.1 122 = .ok (.iadd, 1) := by decide +kernel
theorem d_So_findUnknown_123 : decode y_So_findUnknown.2.1 123 = .ok (.putfield 111, 3) := by decide +kernel
theorem d_So_findUnknown_126 : decode y_So_findUnknown.2.1 126 = .ok (.iconst 1, 1) := by decide +kernel
theorem d_So_findUnknown_127 : decode y_So_findUnknown.2.1 127 = .ok (.istore_n 1, 1) := by decide +kernel
def h_So_findUnknown_17 (G : mG) (d : Nat) (a0 : Nat) (l1 : Int) (l2 : Int) (M : mM) (Q : Int → mM → Prop) : Prop := mWm G y_So_findUnknown (d + 1) 17 [vr a0, vi l1, vi l2, vd, vd] [] M (fun r9 M9 => ∃ x9, r9 = some (vi x9) ∧ Q x9 M9)
def h_So_findUnknown_40 (G : mG) (d : Nat) (a0 : Nat) (l1 : Int) (l2 : Int) (l3 : Int) (M : mM) (Q : Int → mM → Prop) : Prop := mWm G y_So_findUnknown (d + 1) 40 [vr a0, vi l1, vi l2, vi l3, vd] [] M (fun r9 M9 => ∃ x9, r9 = some (vi x9) ∧ Q x9 M9)
def h_So_findUnknown_63 (G : mG) (d : Nat) (a0 : Nat) (l1 : Int) (l2 : Int) (l3 : Int) (k0 : Int) (M : mM) (Q : Int → mM → Prop) : Prop := mWm G y_So_findUnknown (d + 1) 63 [vr a0, vi l1, vi l2, vi l3, vd] [vi k0] M (fun r9 M9 => ∃ x9, r9 = some (vi x9) ∧ Q x9 M9)
theorem k_So_findUnknown {G : mG} {d : Nat} {a0 : Nat} {M : mM} {Q : Int → mM → Prop} (hO : mOk M)
    (h : mK M a0 = 8 ∧ ∀ M2, M2 = mUI M a0 10 0 → Cv G y_JA_fill d [vr (mR M2 a0 7), vi (-1)] M2 (fun M4 => mOk M4 ∧ (h_So_findUnknown_17 G d a0 1 0 M4 Q))) :
    Ci G y_So_findUnknown (d + 1) [vr a0] M Q := by
  refine wm_open (y := y_So_findUnknown) rfl (Nat.le_of_ble_eq_true rfl) (L := [vr a0, vd, vd, vd, vd]) rfl ?_
  obtain ⟨h1, h⟩ := h
  obtain ⟨M2, e3⟩ : ∃ M2, M2 = mUI M a0 10 0 := ⟨_, rfl⟩
  replace h := h M2 e3
  refine wm_aload_n d_So_findUnknown_0 rfl rfl ?_
  refine wm_iconst d_So_findUnknown_1 ?_
  have hOM2 : mOk M2 := by rw [e3]; exact mOk_UI hO ⟨by decide, by decide⟩
  refine pf_So_111 rfl d_So_findUnknown_2 h1 ⟨by decide, by decide⟩ e3 ?_
  refine wm_aload_n d_So_findUnknown_5 rfl rfl ?_
  refine gf_So_38 rfl d_So_findUnknown_6 (by rw [e3]; exact h1) ?_
  refine wm_iconst d_So_findUnknown_9 ?_
  refine cf_So_114 rfl d_So_findUnknown_10 (Nat.le_of_ble_eq_true rfl) (Cv.mono h (fun M4 h => ?_))
  obtain ⟨hOM4, h⟩ := h
  refine wm_iconst d_So_findUnknown_13 ?_
  refine wm_istore_n d_So_findUnknown_14 rfl (by decide) (L' := [vr a0, vi 1, vd, vd, vd]) rfl ?_
  refine wm_iconst d_So_findUnknown_15 ?_
  refine wm_istore_n d_So_findUnknown_16 rfl (by decide) (L' := [vr a0, vi 1, vi 0, vd, vd]) rfl ?_
  exact h
theorem k_So_findUnknown_17 {G : mG} {d : Nat} {a0 : Nat} {l1 : Int} {l2 : Int} {M : mM} {Q : Int → mM → Prop} (hO : mOk M) (hi_l1 : i32 l1) (hi_l2 : i32 l2)
    (h : (((512 < l2) ∨ (l1 = 0)) → (Q 1 M)) ∧ (¬ ((512 < l2) ∨ (l1 = 0)) → (mK M a0 = 8 ∧ mK M (mR M a0 3) = 7 ∧ h_So_findUnknown_40 G d a0 0 l2 ((mI M (mR M a0 3) 0) - 1) M Q))) :
    h_So_findUnknown_17 G d a0 l1 l2 M Q := by
  unfold h_So_findUnknown_17
  refine wm_iload_n d_So_findUnknown_17 rfl rfl ?_
  refine wm_sipush d_So_findUnknown_18 (by decide) ?_
  have hE0 : ((512 < l2) ∨ (l1 = 0)) → mWm G y_So_findUnknown (d + 1) 140 [vr a0, vi l1, vi l2, vd, vd] [] M (fun r9 M9 => ∃ x9, r9 = some (vi x9) ∧ Q x9 M9) := by
    intro q12
    have h := h.1 q12
    refine wm_iconst d_So_findUnknown_140 ?_
    refine wm_ireturn d_So_findUnknown_141 rfl (m_nb (by decide)) ?_
    exact ⟨_, rfl, h⟩
  have hE1 : ¬ ((512 < l2) ∨ (l1 = 0)) → mWm G y_So_findUnknown (d + 1) 28 [vr a0, vi l1, vi l2, vd, vd] [] M (fun r9 M9 => ∃ x9, r9 = some (vi x9) ∧ Q x9 M9) := by
    intro q13
    have h := h.2 q13
    obtain ⟨h14, h⟩ := h
    obtain ⟨h15, h⟩ := h
    refine wm_iconst d_So_findUnknown_28 ?_
    refine wm_istore_n d_So_findUnknown_29 rfl (by decide) (L' := [vr a0, vi 0, vi l2, vd, vd]) rfl ?_
    refine wm_aload_n d_So_findUnknown_30 rfl rfl ?_
    refine gf_So_61 rfl d_So_findUnknown_31 h14 ?_
    refine gf_So_96 rfl d_So_findUnknown_34 h15 ?_
    refine wm_iconst d_So_findUnknown_37 ?_
    refine wm_isub d_So_findUnknown_38 ?_
    refine wm_istore_n d_So_findUnknown_39 rfl (by decide) (L' := [vr a0, vi 0, vi l2, vi ((mI M (mR M a0 3) 0) - 1), vd]) rfl ?_
    exact h
  clear h
  refine wm_icmp_gt (tgt := 140) d_So_findUnknown_21 rfl hi_l2 ⟨by decide, by decide⟩ (fun c10 => ?_) (fun c10 => ?_)
  · exact hE0 (Or.inl c10)
  · refine wm_iload_n d_So_findUnknown_24 rfl rfl ?_
    refine wm_if_eq (tgt := 140) d_So_findUnknown_25 rfl hi_l1 (fun c9 => ?_) (fun c9 => ?_)
    · exact hE0 (Or.inr c9)
    · exact hE1 (fun z16 => Or.elim z16 c10 c9)
theorem k_So_findUnknown_40 {G : mG} {d : Nat} {a0 : Nat} {l1 : Int} {l2 : Int} {l3 : Int} {M : mM} {Q : Int → mM → Prop} (hO : mOk M) (hi_l1 : i32 l1) (hi_l2 : i32 l2) (hi_l3 : i32 l3)
    (h : ((l3 < 0) → (h_So_findUnknown_17 G d a0 l1 (l2 + 1) M Q)) ∧ (¬ (l3 < 0) → (mK M a0 = 8 ∧ mK M (mR M a0 7) = 30 ∧ ((0 : Int) ≤ l3 ∧ l3 < (mN M (mR M a0 7) : Int)) ∧ ((mI M (mR M a0 7) (Int.toNat l3) = (-1)) → (Ci G y_So_wayFrom d [vr a0, vi l3] M (fun x30 M29 => i32 x30 ∧ mOk M29 ∧ (h_So_findUnknown_63 G d a0 l1 l2 l3 x30 M29 Q)))) ∧ (¬ (mI M (mR M a0 7) (Int.toNat l3) = (-1)) → (h_So_findUnknown_63 G d a0 l1 l2 l3 (-1) M Q))))) :
    h_So_findUnknown_40 G d a0 l1 l2 l3 M Q := by
  unfold h_So_findUnknown_40
  refine wm_iload_n d_So_findUnknown_40 rfl rfl ?_
  refine wm_if_lt (tgt := 134) d_So_findUnknown_41 rfl hi_l3 (fun c23 => ?_) (fun c23 => ?_)
  · replace h := h.1 c23
    refine wm_iinc d_So_findUnknown_134 (by decide) rfl (L' := [vr a0, vi l1, vi (l2 + 1), vi l3, vd]) rfl ?_
    refine wm_goto (tgt := 17) d_So_findUnknown_137 rfl ?_
    refine wm_less (L' := [vr a0, vi l1, vi (l2 + 1), vd, vd]) ⟨Or.inr rfl, Or.inr rfl, Or.inr rfl, Or.inl rfl, Or.inl rfl, trivial⟩ ?_
    exact h
  · replace h := h.2 c23
    obtain ⟨h24, h⟩ := h
    obtain ⟨h25, h⟩ := h
    obtain ⟨h26, h⟩ := h
    refine wm_aload_n d_So_findUnknown_44 rfl rfl ?_
    refine gf_So_38 rfl d_So_findUnknown_45 h24 ?_
    refine wm_iload_n d_So_findUnknown_48 rfl rfl ?_
    refine wm_iald d_So_findUnknown_49 h25 h26 ?_
    refine wm_iconst d_So_findUnknown_50 ?_
    refine wm_icmp_ne (tgt := 62) d_So_findUnknown_51 rfl (hO _ _).1 ⟨by decide, by decide⟩ (fun c28 => ?_) (fun c28 => ?_)
    · replace h := h.2 c28
      refine wm_iconst d_So_findUnknown_62 ?_
      exact h
    · replace c28 := Classical.not_not.mp c28
      replace h := h.1 c28
      refine wm_aload_n d_So_findUnknown_54 rfl rfl ?_
      refine wm_iload_n d_So_findUnknown_55 rfl rfl ?_
      refine cf_So_120 rfl d_So_findUnknown_56 h24 (Nat.le_of_ble_eq_true rfl) (Ci.mono h (fun x30 M29 h => ?_))
      obtain ⟨h31, hOM29, h⟩ := h
      refine wm_goto (tgt := 63) d_So_findUnknown_59 rfl ?_
      exact h
theorem k_So_findUnknown_63 {G : mG} {d : Nat} {a0 : Nat} {l1 : Int} {l2 : Int} {l3 : Int} {k0 : Int} {M : mM} {Q : Int → mM → Prop} (hO : mOk M) (hi_l1 : i32 l1) (hi_l2 : i32 l2) (hi_l3 : i32 l3) (hi_k0 : i32 k0)
    (h : ((k0 = (-1)) → (h_So_findUnknown_40 G d a0 l1 l2 (l3 + (-1)) M Q)) ∧ (¬ (k0 = (-1)) → (mK M a0 = 8 ∧ ((mI M a0 10 = 40) → (Q 0 M)) ∧ (¬ (mI M a0 10 = 40) → (mK M (mR M a0 7) = 30 ∧ ((0 : Int) ≤ l3 ∧ l3 < (mN M (mR M a0 7) : Int)) ∧ ∀ M55, M55 = mUI M (mR M a0 7) (Int.toNat l3) (mI M a0 10) → mK M55 (mR M55 a0 8) = 30 ∧ ((0 : Int) ≤ mI M55 a0 10 ∧ mI M55 a0 10 < (mN M55 (mR M55 a0 8) : Int)) ∧ ∀ M59, M59 = mUI M55 (mR M55 a0 8) (Int.toNat (mI M55 a0 10)) l3 → mK M59 (mR M59 a0 9) = 30 ∧ ((0 : Int) ≤ mI M59 a0 10 ∧ mI M59 a0 10 < (mN M59 (mR M59 a0 9) : Int)) ∧ ∀ M63, M63 = mUI M59 (mR M59 a0 9) (Int.toNat (mI M59 a0 10)) k0 → i32 ((mI M63 a0 10) + 1) ∧ ∀ M66, M66 = mUI M63 a0 10 ((mI M63 a0 10) + 1) → h_So_findUnknown_40 G d a0 1 l2 (l3 + (-1)) M66 Q))))) :
    h_So_findUnknown_63 G d a0 l1 l2 l3 k0 M Q := by
  unfold h_So_findUnknown_63
  refine wm_istore d_So_findUnknown_63 (by decide) (L' := [vr a0, vi l1, vi l2, vi l3, vi k0]) rfl ?_
  refine wm_iload d_So_findUnknown_65 rfl ?_
  refine wm_iconst d_So_findUnknown_67 ?_
  refine wm_icmp_ne (tgt := 74) d_So_findUnknown_68 rfl hi_k0 ⟨by decide, by decide⟩ (fun c42 => ?_) (fun c42 => ?_)
  · replace h := h.2 c42
    obtain ⟨h43, h⟩ := h
    refine wm_aload_n d_So_findUnknown_74 rfl rfl ?_
    refine gf_So_111 rfl d_So_findUnknown_75 h43 ?_
    refine wm_bipush d_So_findUnknown_78 (by decide) ?_
    refine wm_icmp_ne (tgt := 85) d_So_findUnknown_80 rfl (hO _ _).1 ⟨by decide, by decide⟩ (fun c52 => ?_) (fun c52 => ?_)
    · replace h := h.2 c52
      obtain ⟨h53, h⟩ := h
      obtain ⟨h54, h⟩ := h
      obtain ⟨M55, e56⟩ : ∃ M55, M55 = mUI M (mR M a0 7) (Int.toNat l3) (mI M a0 10) := ⟨_, rfl⟩
      replace h := h M55 e56
      obtain ⟨h57, h⟩ := h
      obtain ⟨h58, h⟩ := h
      obtain ⟨M59, e60⟩ : ∃ M59, M59 = mUI M55 (mR M55 a0 8) (Int.toNat (mI M55 a0 10)) l3 := ⟨_, rfl⟩
      replace h := h M59 e60
      obtain ⟨h61, h⟩ := h
      obtain ⟨h62, h⟩ := h
      obtain ⟨M63, e64⟩ : ∃ M63, M63 = mUI M59 (mR M59 a0 9) (Int.toNat (mI M59 a0 10)) k0 := ⟨_, rfl⟩
      replace h := h M63 e64
      obtain ⟨h65, h⟩ := h
      obtain ⟨M66, e67⟩ : ∃ M66, M66 = mUI M63 a0 10 ((mI M63 a0 10) + 1) := ⟨_, rfl⟩
      replace h := h M66 e67
      refine wm_aload_n d_So_findUnknown_85 rfl rfl ?_
      refine gf_So_38 rfl d_So_findUnknown_86 h43 ?_
      refine wm_iload_n d_So_findUnknown_89 rfl rfl ?_
      refine wm_aload_n d_So_findUnknown_90 rfl rfl ?_
      refine gf_So_111 rfl d_So_findUnknown_91 h43 ?_
      have hOM55 : mOk M55 := by rw [e56]; exact mOk_UI hO (hO _ _).1
      refine wm_iastE d_So_findUnknown_94 h53 h54 (hO _ _).1 e56 ?_
      refine wm_aload_n d_So_findUnknown_95 rfl rfl ?_
      refine gf_So_41 rfl d_So_findUnknown_96 (by rw [e56]; exact h43) ?_
      refine wm_aload_n d_So_findUnknown_99 rfl rfl ?_
      refine gf_So_111 rfl d_So_findUnknown_100 (by rw [e56]; exact h43) ?_
      refine wm_iload_n d_So_findUnknown_103 rfl rfl ?_
      have hOM59 : mOk M59 := by rw [e60]; exact mOk_UI hOM55 hi_l3
      refine wm_iastE d_So_findUnknown_104 h57 h58 hi_l3 e60 ?_
      refine wm_aload_n d_So_findUnknown_105 rfl rfl ?_
      refine gf_So_44 rfl d_So_findUnknown_106 (by rw [e60, e56]; exact h43) ?_
      refine wm_aload_n d_So_findUnknown_109 rfl rfl ?_
      refine gf_So_111 rfl d_So_findUnknown_110 (by rw [e60, e56]; exact h43) ?_
      refine wm_iload d_So_findUnknown_113 rfl ?_
      have hOM63 : mOk M63 := by rw [e64]; exact mOk_UI hOM59 hi_k0
      refine wm_iastE d_So_findUnknown_115 h61 h62 hi_k0 e64 ?_
      refine wm_aload_n d_So_findUnknown_116 rfl rfl ?_
      refine wm_dup d_So_findUnknown_117 rfl ?_
      refine gf_So_111 rfl d_So_findUnknown_118 (by rw [e64, e60, e56]; exact h43) ?_
      refine wm_iconst d_So_findUnknown_121 ?_
      refine wm_iadd d_So_findUnknown_122 ?_
      have hOM66 : mOk M66 := by rw [e67]; exact mOk_UI hOM63 h65
      refine pf_So_111 rfl d_So_findUnknown_123 (by rw [e64, e60, e56]; exact h43) h65 e67 ?_
      refine wm_iconst d_So_findUnknown_126 ?_
      refine wm_istore_n d_So_findUnknown_127 rfl (by decide) (L' := [vr a0, vi 1, vi l2, vi l3, vi k0]) rfl ?_
      refine wm_iinc d_So_findUnknown_128 (by decide) rfl (L' := [vr a0, vi 1, vi l2, vi (l3 + (-1)), vi k0]) rfl ?_
      refine wm_goto (tgt := 40) d_So_findUnknown_131 rfl ?_
      refine wm_less (L' := [vr a0, vi 1, vi l2, vi (l3 + (-1)), vd]) ⟨Or.inr rfl, Or.inr rfl, Or.inr rfl, Or.inr rfl, Or.inl rfl, trivial⟩ ?_
      exact h
    · replace c52 := Classical.not_not.mp c52
      replace h := h.1 c52
      refine wm_iconst d_So_findUnknown_83 ?_
      refine wm_ireturn d_So_findUnknown_84 rfl (m_nb (by decide)) ?_
      exact ⟨_, rfl, h⟩
  · replace c42 := Classical.not_not.mp c42
    replace h := h.1 c42
    refine wm_goto (tgt := 128) d_So_findUnknown_71 rfl ?_
    refine wm_iinc d_So_findUnknown_128 (by decide) rfl (L' := [vr a0, vi l1, vi l2, vi (l3 + (-1)), vi k0]) rfl ?_
    refine wm_goto (tgt := 40) d_So_findUnknown_131 rfl ?_
    refine wm_less (L' := [vr a0, vi l1, vi l2, vi (l3 + (-1)), vd]) ⟨Or.inr rfl, Or.inr rfl, Or.inr rfl, Or.inr rfl, Or.inl rfl, trivial⟩ ?_
    exact h
