theorem d_Re_init_0 : decode y_Re_init.2.1 0 = .ok (.aload_n 0, 1) := by decide +kernel
theorem d_Re_init_1 : decode y_Re_init.2.1 1 = .ok (.invokespecial 3, 3) := by decide +kernel
theorem d_Re_init_4 : decode y_Re_init.2.1 4 = .ok (.aload_n 0, 1) := by decide +kernel
theorem d_Re_init_5 : decode y_Re_init.2.1 5 = .ok (.sipush 1640, 3) := by decide +kernel
theorem d_Re_init_8 : decode y_Re_init.2.1 8 = .ok (.newarray .int, 2) := by decide +kernel
theorem d_Re_init_10 : decode y_Re_init.2.1 10 = .ok (.putfield 11, 3) := by decide +kernel
theorem d_Re_init_13 : decode y_Re_init.2.1 13 = .ok (.aload_n 0, 1) := by decide +kernel
theorem d_Re_init_14 : decode y_Re_init.2.1 14 = .ok (.bipush 41, 2) := by decide +kernel
theorem d_Re_init_16 : decode y_Re_init.2.1 16 = .ok (.anewarray 15, 3) := by decide +kernel
theorem d_Re_init_19 : decode y_Re_init.2.1 19 = .ok (.putfield 17, 3) := by decide +kernel
theorem d_Re_init_22 : decode y_Re_init.2.1 22 = .ok (.aload_n 0, 1) := by decide +kernel
theorem d_Re_init_23 : decode y_Re_init.2.1 23 = .ok (.sipush 1640, 3) := by decide +kernel
theorem d_Re_init_26 : decode y_Re_init.2.1 26 = .ok (.newarray .int, 2) := by decide +kernel
theorem d_Re_init_28 : decode y_Re_init.2.1 28 = .ok (.putfield 21, 3) := by decide +kernel
theorem d_Re_init_31 : decode y_Re_init.2.1 31 = .ok (.aload_n 0, 1) := by decide +kernel
theorem d_Re_init_32 : decode y_Re_init.2.1 32 = .ok (.bipush 40, 2) := by decide +kernel
theorem d_Re_init_34 : decode y_Re_init.2.1 34 = .ok (.newarray .int, 2) := by decide +kernel
theorem d_Re_init_36 : decode y_Re_init.2.1 36 = .ok (.putfield 24, 3) := by decide +kernel
theorem d_Re_init_39 : decode y_Re_init.2.1 39 = .ok (.aload_n 0, 1) := by decide +kernel
theorem d_Re_init_40 : decode y_Re_init.2.1 40 = .ok (.bipush 41, 2) := by decide +kernel
theorem d_Re_init_42 : decode y_Re_init.2.1 42 = .ok (.newarray .int, 2) := by decide +kernel
theorem d_Re_init_44 : decode y_Re_init.2.1 44 = .ok (.putfield 27, 3) := by decide +kernel
theorem d_Re_init_47 : decode y_Re_init.2.1 47 = .ok (.aload_n 0, 1) := by decide +kernel
theorem d_Re_init_48 : decode y_Re_init.2.1 48 = .ok (.bipush 41, 2) := by decide +kernel
theorem d_Re_init_50 : decode y_Re_init.2.1 50 = .ok (.newarray .int, 2) := by decide +kernel
theorem d_Re_init_52 : decode y_Re_init.2.1 52 = .ok (.putfield 30, 3) := by decide +kernel
theorem d_Re_init_55 : decode y_Re_init.2.1 55 = .ok (.aload_n 0, 1) := by decide +kernel
theorem d_Re_init_56 : decode y_Re_init.2.1 56 = .ok (.new 15, 3) := by decide +kernel
theorem d_Re_init_59 : decode y_Re_init.2.1 59 = .ok (.dup, 1) := by decide +kernel
theorem d_Re_init_60 : decode y_Re_init.2.1 60 = .ok (.invokespecial 33, 3) := by decide +kernel
theorem d_Re_init_63 : decode y_Re_init.2.1 63 = .ok (.putfield 34, 3) := by decide +kernel
theorem d_Re_init_66 : decode y_Re_init.2.1 66 = .ok (.iconst 0, 1) := by decide +kernel
theorem d_Re_init_67 : decode y_Re_init.2.1 67 = .ok (.istore_n 1, 1) := by decide +kernel
theorem d_Re_init_68 : decode y_Re_init.2.1 68 = .ok (.iload_n 1, 1) := by decide +kernel
theorem d_Re_init_69 : decode y_Re_init.2.1 69 = .ok (.bipush 41, 2) := by decide +kernel
theorem d_Re_init_71 : decode y_Re_init.2.1 71 = .ok (.if_icmp .ge 22, 3) := by decide +kernel
theorem d_Re_init_93 : decode y_Re_init.2.1 93 = .ok (.return_, 1) := by decide +kernel
theorem d_Re_init_74 : decode y_Re_init.2.1 74 = .ok (.aload_n 0, 1) := by decide +kernel
theorem d_Re_init_75 : decode y_Re_init.2.1 75 = .ok (.getfield 17, 3) := by decide +kernel
theorem d_Re_init_78 : decode y_Re_init.2.1 78 = .ok (.iload_n 1, 1) := by decide +kernel
theorem d_Re_init_79 : decode y_Re_init.2.1 79 = .ok (.new 15, 3) := by decide +kernel
theorem d_Re_init_82 : decode y_Re_init.2.1 82 = .ok (.dup, 1) := by decide +kernel
theorem d_Re_init_83 : decode y_Re_init.2.1 83 = .ok (.invokespecial 33, 3) := by decide +kernel
theorem d_Re_init_86 : decode y_Re_init.2.1 86 = .ok (.aastore, 1) := by decide +kernel
theorem d_Re_init_87 : decode y_Re_init.2.1 87 = .ok (.iinc 1 1, 3) := by decide +kernel
theorem d_Re_init_90 : decode y_Re_init.2.1 90 = .ok (.goto (-22), 3) := by decide +kernel
def h_Re_init_68 (G : mG) (d : Nat) (a0 : Nat) (l1 : Int) (M : mM) (Q : mM → Prop) : Prop := mWm G y_Re_init (d + 1) 68 [vr a0, vi l1] [] M (fun r9 M9 => r9 = none ∧ Q M9)
theorem k_Re_init {G : mG} {d : Nat} {a0 : Nat} {M : mM} {Q : mM → Prop} (hO : mOk M)
    (h : 0 < a0 ∧ ∀ M2, M2 = mNew M 30 1640 1640 → mK M2 a0 = 12 ∧ ∀ M5, M5 = mUR M2 a0 0 (mZ M) → ∀ M7, M7 = mNew M5 34 41 41 → mK M7 a0 = 12 ∧ ∀ M10, M10 = mUR M7 a0 1 (mZ M5) → ∀ M12, M12 = mNew M10 30 1640 1640 → mK M12 a0 = 12 ∧ ∀ M15, M15 = mUR M12 a0 2 (mZ M10) → ∀ M17, M17 = mNew M15 30 40 40 → mK M17 a0 = 12 ∧ ∀ M20, M20 = mUR M17 a0 3 (mZ M15) → ∀ M22, M22 = mNew M20 30 41 41 → mK M22 a0 = 12 ∧ ∀ M25, M25 = mUR M22 a0 4 (mZ M20) → ∀ M27, M27 = mNew M25 30 41 41 → mK M27 a0 = 12 ∧ ∀ M30, M30 = mUR M27 a0 5 (mZ M25) → ∀ M32, M32 = mNew M30 10 0 2 → Cv G y_Na_init d [vr (mZ M30)] M32 (fun M34 => mOk M34 ∧ (mK M34 a0 = 12 ∧ ∀ M38, M38 = mUR M34 a0 6 (mZ M30) → h_Re_init_68 G d a0 0 M38 Q))) :
    Cv G y_Re_init (d + 1) [vr a0] M Q := by
  refine wm_open (y := y_Re_init) rfl (Nat.le_of_ble_eq_true rfl) (L := [vr a0, vd]) rfl ?_
  obtain ⟨h1, h⟩ := h
  obtain ⟨M2, e3⟩ : ∃ M2, M2 = mNew M 30 1640 1640 := ⟨_, rfl⟩
  replace h := h M2 e3
  obtain ⟨h4, h⟩ := h
  obtain ⟨M5, e6⟩ : ∃ M5, M5 = mUR M2 a0 0 (mZ M) := ⟨_, rfl⟩
  replace h := h M5 e6
  obtain ⟨M7, e8⟩ : ∃ M7, M7 = mNew M5 34 41 41 := ⟨_, rfl⟩
  replace h := h M7 e8
  obtain ⟨h9, h⟩ := h
  obtain ⟨M10, e11⟩ : ∃ M10, M10 = mUR M7 a0 1 (mZ M5) := ⟨_, rfl⟩
  replace h := h M10 e11
  obtain ⟨M12, e13⟩ : ∃ M12, M12 = mNew M10 30 1640 1640 := ⟨_, rfl⟩
  replace h := h M12 e13
  obtain ⟨h14, h⟩ := h
  obtain ⟨M15, e16⟩ : ∃ M15, M15 = mUR M12 a0 2 (mZ M10) := ⟨_, rfl⟩
  replace h := h M15 e16
  obtain ⟨M17, e18⟩ : ∃ M17, M17 = mNew M15 30 40 40 := ⟨_, rfl⟩
  replace h := h M17 e18
  obtain ⟨h19, h⟩ := h
  obtain ⟨M20, e21⟩ : ∃ M20, M20 = mUR M17 a0 3 (mZ M15) := ⟨_, rfl⟩
  replace h := h M20 e21
  obtain ⟨M22, e23⟩ : ∃ M22, M22 = mNew M20 30 41 41 := ⟨_, rfl⟩
  replace h := h M22 e23
  obtain ⟨h24, h⟩ := h
  obtain ⟨M25, e26⟩ : ∃ M25, M25 = mUR M22 a0 4 (mZ M20) := ⟨_, rfl⟩
  replace h := h M25 e26
  obtain ⟨M27, e28⟩ : ∃ M27, M27 = mNew M25 30 41 41 := ⟨_, rfl⟩
  replace h := h M27 e28
  obtain ⟨h29, h⟩ := h
  obtain ⟨M30, e31⟩ : ∃ M30, M30 = mUR M27 a0 5 (mZ M25) := ⟨_, rfl⟩
  replace h := h M30 e31
  obtain ⟨M32, e33⟩ : ∃ M32, M32 = mNew M30 10 0 2 := ⟨_, rfl⟩
  replace h := h M32 e33
  refine wm_aload_n d_Re_init_0 rfl rfl ?_
  refine wm_objInit trivial k3_75 kO_inst kO_code (Nat.le_of_ble_eq_true rfl) d_Re_init_1 h1 ?_
  refine wm_aload_n d_Re_init_4 rfl rfl ?_
  refine wm_sipush d_Re_init_5 (by decide) ?_
  have hOM2 : mOk M2 := by rw [e3]; exact mOk_New hO
  refine wm_newarrE 0 (atype := .int) (ty := .int) rfl rfl (fun _ => rfl) rfl rfl (by decide) k1_82 ⟨by decide, by decide⟩ d_Re_init_8 e3 ?_
  have hOM5 : mOk M5 := by rw [e6]; exact mOk_UR hOM2
  refine pf_Re_11 rfl rfl d_Re_init_10 h4 e6 ?_
  refine wm_aload_n d_Re_init_13 rfl rfl ?_
  refine wm_bipush d_Re_init_14 (by decide) ?_
  have hOM7 : mOk M7 := by rw [e8]; exact mOk_New hOM5
  refine wm_anewE 4 rfl (fun _ => rfl) k3_76 k3_77 ⟨by decide, by decide⟩ d_Re_init_16 e8 ?_
  have hOM10 : mOk M10 := by rw [e11]; exact mOk_UR hOM7
  refine pf_Re_17 rfl rfl d_Re_init_19 h9 e11 ?_
  refine wm_aload_n d_Re_init_22 rfl rfl ?_
  refine wm_sipush d_Re_init_23 (by decide) ?_
  have hOM12 : mOk M12 := by rw [e13]; exact mOk_New hOM10
  refine wm_newarrE 0 (atype := .int) (ty := .int) rfl rfl (fun _ => rfl) rfl rfl (by decide) k1_82 ⟨by decide, by decide⟩ d_Re_init_26 e13 ?_
  have hOM15 : mOk M15 := by rw [e16]; exact mOk_UR hOM12
  refine pf_Re_21 rfl rfl d_Re_init_28 h14 e16 ?_
  refine wm_aload_n d_Re_init_31 rfl rfl ?_
  refine wm_bipush d_Re_init_32 (by decide) ?_
  have hOM17 : mOk M17 := by rw [e18]; exact mOk_New hOM15
  refine wm_newarrE 0 (atype := .int) (ty := .int) rfl rfl (fun _ => rfl) rfl rfl (by decide) k1_82 ⟨by decide, by decide⟩ d_Re_init_34 e18 ?_
  have hOM20 : mOk M20 := by rw [e21]; exact mOk_UR hOM17
  refine pf_Re_24 rfl rfl d_Re_init_36 h19 e21 ?_
  refine wm_aload_n d_Re_init_39 rfl rfl ?_
  refine wm_bipush d_Re_init_40 (by decide) ?_
  have hOM22 : mOk M22 := by rw [e23]; exact mOk_New hOM20
  refine wm_newarrE 0 (atype := .int) (ty := .int) rfl rfl (fun _ => rfl) rfl rfl (by decide) k1_82 ⟨by decide, by decide⟩ d_Re_init_42 e23 ?_
  have hOM25 : mOk M25 := by rw [e26]; exact mOk_UR hOM22
  refine pf_Re_27 rfl rfl d_Re_init_44 h24 e26 ?_
  refine wm_aload_n d_Re_init_47 rfl rfl ?_
  refine wm_bipush d_Re_init_48 (by decide) ?_
  have hOM27 : mOk M27 := by rw [e28]; exact mOk_New hOM25
  refine wm_newarrE 0 (atype := .int) (ty := .int) rfl rfl (fun _ => rfl) rfl rfl (by decide) k1_82 ⟨by decide, by decide⟩ d_Re_init_50 e28 ?_
  have hOM30 : mOk M30 := by rw [e31]; exact mOk_UR hOM27
  refine pf_Re_30 rfl rfl d_Re_init_52 h29 e31 ?_
  refine wm_aload_n d_Re_init_55 rfl rfl ?_
  have hOM32 : mOk M32 := by rw [e33]; exact mOk_New hOM30
  refine nf_Re_15 rfl d_Re_init_56 e33 ?_
  refine wm_dup d_Re_init_59 rfl ?_
  refine cf_Re_33 rfl d_Re_init_60 (by rw [e33]; exact if_pos rfl) (Nat.le_of_ble_eq_true rfl) (Cv.mono h (fun M34 h => ?_))
  obtain ⟨hOM34, h⟩ := h
  obtain ⟨h37, h⟩ := h
  obtain ⟨M38, e39⟩ : ∃ M38, M38 = mUR M34 a0 6 (mZ M30) := ⟨_, rfl⟩
  replace h := h M38 e39
  have hOM38 : mOk M38 := by rw [e39]; exact mOk_UR hOM34
  refine pf_Re_34 rfl rfl d_Re_init_63 h37 e39 ?_
  refine wm_iconst d_Re_init_66 ?_
  refine wm_istore_n d_Re_init_67 rfl (by decide) (L' := [vr a0, vi 0]) rfl ?_
  exact h
theorem k_Re_init_68 {G : mG} {d : Nat} {a0 : Nat} {l1 : Int} {M : mM} {Q : mM → Prop} (hO : mOk M) (hi_l1 : i32 l1)
    (h : ((41 ≤ l1) → (Q M)) ∧ (¬ (41 ≤ l1) → (mK M a0 = 12 ∧ ∀ M43, M43 = mNew M 10 0 2 → Cv G y_Na_init d [vr (mZ M)] M43 (fun M45 => mOk M45 ∧ (mK M45 (mR M a0 1) = 34 ∧ ((0 : Int) ≤ l1 ∧ l1 < (mN M45 (mR M a0 1) : Int)) ∧ mK M45 (mZ M) = 10 ∧ ∀ M51, M51 = mUR M45 (mR M a0 1) (Int.toNat l1) (mZ M) → h_Re_init_68 G d a0 (l1 + 1) M51 Q))))) :
    h_Re_init_68 G d a0 l1 M Q := by
  unfold h_Re_init_68
  refine wm_iload_n d_Re_init_68 rfl rfl ?_
  refine wm_bipush d_Re_init_69 (by decide) ?_
  refine wm_icmp_ge (tgt := 93) d_Re_init_71 rfl hi_l1 ⟨by decide, by decide⟩ (fun c41 => ?_) (fun c41 => ?_)
  · replace h := h.1 c41
    refine wm_return d_Re_init_93 rfl ?_
    exact ⟨rfl, h⟩
  · replace h := h.2 c41
    obtain ⟨h42, h⟩ := h
    obtain ⟨M43, e44⟩ : ∃ M43, M43 = mNew M 10 0 2 := ⟨_, rfl⟩
    replace h := h M43 e44
    refine wm_aload_n d_Re_init_74 rfl rfl ?_
    refine gf_Re_17 rfl d_Re_init_75 h42 ?_
    refine wm_iload_n d_Re_init_78 rfl rfl ?_
    have hOM43 : mOk M43 := by rw [e44]; exact mOk_New hO
    refine nf_Re_15 rfl d_Re_init_79 e44 ?_
    refine wm_dup d_Re_init_82 rfl ?_
    refine cf_Re_33 rfl d_Re_init_83 (by rw [e44]; exact if_pos rfl) (Nat.le_of_ble_eq_true rfl) (Cv.mono h (fun M45 h => ?_))
    obtain ⟨hOM45, h⟩ := h
    obtain ⟨h48, h⟩ := h
    obtain ⟨h49, h⟩ := h
    obtain ⟨h50, h⟩ := h
    obtain ⟨M51, e52⟩ : ∃ M51, M51 = mUR M45 (mR M a0 1) (Int.toNat l1) (mZ M) := ⟨_, rfl⟩
    replace h := h M51 e52
    have hOM51 : mOk M51 := by rw [e52]; exact mOk_UR hOM45
    refine wm_aastE (t := 4) (c := 9) rfl (fun _ => rfl) rfl rfl d_Re_init_86 h48 h49 h50 e52 ?_
    refine wm_iinc d_Re_init_87 (by decide) rfl (L' := [vr a0, vi (l1 + 1)]) rfl ?_
    refine wm_goto (tgt := 68) d_Re_init_90 rfl ?_
    exact h
theorem d_Re_settle_0 : decode y_Re_settle.2.1 0 = .ok (.aload_n 0, 1) := by decide +kernel
theorem d_Re_settle_1 : decode y_Re_settle.2.1 1 = .ok (.getfield 34, 3) := by decide +kernel
theorem d_Re_settle_4 : decode y_Re_settle.2.1 4 = .ok (.iconst 1, 1) := by decide +kernel
theorem d_Re_settle_5 : decode y_Re_settle.2.1 5 = .ok (.invokevirtual 38, 3) := by decide +kernel
theorem d_Re_settle_8 : decode y_Re_settle.2.1 8 = .ok (.iconst 0, 1) := by decide +kernel
theorem d_Re_settle_9 : decode y_Re_settle.2.1 9 = .ok (.istore_n 3, 1) := by decide +kernel
theorem d_Re_settle_10 : decode y_Re_settle.2.1 10 = .ok (.iload_n 3, 1) := by decide +kernel
theorem d_Re_settle_11 : decode y_Re_settle.2.1 11 = .ok (.iload_n 1, 1) := by decide +kernel
theorem d_Re_settle_12 : decode y_Re_settle.2.1 12 = .ok (.if_icmp .gt 19, 3) := by decide +kernel
theorem d_Re_settle_31 : decode y_Re_settle.2.1 31 = .ok (.iconst 0, 1) := by decide +kernel
theorem d_Re_settle_32 : decode y_Re_settle.2.1 32 = .ok (.istore_n 3, 1) := by decide +kernel
theorem d_Re_settle_15 : decode y_Re_settle.2.1 15 = .ok (.aload_n 0, 1) := by decide +kernel
theorem d_Re_settle_16 : decode y_Re_settle.2.1 16 = .ok (.getfield 17, 3) := by decide +kernel
theorem d_Re_settle_19 : decode y_Re_settle.2.1 19 = .ok (.iload_n 3, 1) := by decide +kernel
theorem d_Re_settle_20 : decode y_Re_settle.2.1 20 = .ok (.aaload, 1) := by decide +kernel
theorem d_Re_settle_21 : decode y_Re_settle.2.1 21 = .ok (.iconst 0, 1) := by decide +kernel
theorem d_Re_settle_22 : decode y_Re_settle.2.1 22 = .ok (.invokevirtual 38, 3) := by decide +kernel
theorem d_Re_settle_25 : decode y_Re_settle.2.1 25 = .ok (.iinc 3 1, 3) := by decide +kernel
theorem d_Re_settle_28 : decode y_Re_settle.2.1 28 = .ok (.goto (-18), 3) := by decide +kernel
theorem d_Re_settle_33 : decode y_Re_settle.2.1 33 = .ok (.iload_n 3, 1) := by decide +kernel
theorem d_Re_settle_34 : decode y_Re_settle.2.1 34 = .ok (.getstatic 42, 3) := by decide +kernel
theorem d_Re_settle_37 : decode y_Re_settle.2.1 37 = .ok (.arraylength, 1) := by decide +kernel
theorem d_Re_settle_38 : decode y_Re_settle.2.1 38 = .ok (.if_icmp .ge 53, 3) := by decide +kernel
theorem d_Re_settle_41 : decode y_Re_settle.2.1 41 = .ok (.aload_n 0, 1) := by decide +kernel
theorem d_Re_settle_42 : decode y_Re_settle.2.1 42 = .ok (.getfield 34, 3) := by decide +kernel
theorem d_Re_settle_91 : decode y_Re_settle.2.1 91 = .ok (.return_, 1) := by decide +kernel
theorem d_Re_settle_45 : decode y_Re_settle.2.1 45 = .ok (.invokevirtual 45, 3) := by decide +kernel
theorem d_Re_settle_48 : decode y_Re_settle.2.1 48 = .ok (.iload_n 2, 1) := by decide +kernel
theorem d_Re_settle_49 : decode y_Re_settle.2.1 49 = .ok (.if_icmp .gt 42, 3) := by decide +kernel
theorem d_Re_settle_52 : decode y_Re_settle.2.1 52 = .ok (.aload_n 0, 1) := by decide +kernel
theorem d_Re_settle_53 : decode y_Re_settle.2.1 53 = .ok (.iload_n 1, 1) := by decide +kernel
theorem d_Re_settle_54 : decode y_Re_settle.2.1 54 = .ok (.getstatic 42, 3) := by decide +kernel
theorem d_Re_settle_57 : decode y_Re_settle.2.1 57 = .ok (.iload_n 3, 1) := by decide +kernel
theorem d_Re_settle_58 : decode y_Re_settle.2.1 58 = .ok (.iaload, 1) := by decide +kernel
theorem d_Re_settle_59 : decode y_Re_settle.2.1 59 = .ok (.invokevirtual 49, 3) := by decide +kernel
theorem d_Re_settle_62 : decode y_Re_settle.2.1 62 = .ok (.ifCond .eq 23, 3) := by decide +kernel
theorem d_Re_settle_65 : decode y_Re_settle.2.1 65 = .ok (.aload_n 0, 1) := by decide +kernel
theorem d_Re_settle_66 : decode y_Re_settle.2.1 66 = .ok (.iload_n 1, 1) := by decide +kernel
theorem d_Re_settle_67 : decode y_Re_settle.2.1 67 = .ok (.getstatic 42, 3) := by decide +kernel
theorem d_Re_settle_70 : decode y_Re_settle.2.1 70 = .ok (.iload_n 3, 1) := by decide +kernel
theorem d_Re_settle_71 : decode y_Re_settle.2.1 71 = .ok (.iaload, 1) := by decide +kernel
theorem d_Re_settle_85 : decode y_Re_settle.2.1 85 = .ok (.iinc 3 1, 3) := by decide +kernel
theorem d_Re_settle_88 : decode y_Re_settle.2.1 88 = .ok (.goto (-55), 3) := by decide +kernel
theorem d_Re_settle_72 : decode y_Re_settle.2.1 72 = .ok (.invokevirtual 53, 3) := by decide +kernel
theorem d_Re_settle_75 : decode y_Re_settle.2.1 75 = .ok (.aload_n 0, 1) := by decide +kernel
theorem d_Re_settle_76 : decode y_Re_settle.2.1 76 = .ok (.iload_n 1, 1) := by decide +kernel
theorem d_Re_settle_77 : decode y_Re_settle.2.1 77 = .ok (.getstatic 42, 3) := by decide +kernel
theorem d_Re_settle_80 : decode y_Re_settle.2.1 80 = .ok (.iload_n 3, 1) := by decide +kernel
theorem d_Re_settle_81 : decode y_Re_settle.2.1 81 = .ok (.iaload, 1) := by decide +kernel
theorem d_Re_settle_82 : decode y_Re_settle.2.1 82 = .ok (.invokevirtual 57, 3) := by decide +kernel
def h_Re_settle_10 (G : mG) (d : Nat) (a0 : Nat) (l1 : Int) (l2 : Int) (l3 : Int) (M : mM) (Q : mM → Prop) : Prop := mWm G y_Re_settle (d + 1) 10 [vr a0, vi l1, vi l2, vi l3] [] M (fun r9 M9 => r9 = none ∧ Q M9)
def h_Re_settle_33 (G : mG) (d : Nat) (a0 : Nat) (l1 : Int) (l2 : Int) (l3 : Int) (M : mM) (Q : mM → Prop) : Prop := mWm G y_Re_settle (d + 1) 33 [vr a0, vi l1, vi l2, vi l3] [] M (fun r9 M9 => r9 = none ∧ Q M9)
theorem k_Re_settle {G : mG} {d : Nat} {a0 : Nat} {l1 : Int} {l2 : Int} {M : mM} {Q : mM → Prop} (hO : mOk M) (hi_l1 : i32 l1) (hi_l2 : i32 l2)
    (h : mK M a0 = 12 ∧ mK M (mR M a0 6) = 10 ∧ Cv G y_Na_put0 d [vr (mR M a0 6), vi 1] M (fun M3 => mOk M3 ∧ (h_Re_settle_10 G d a0 l1 l2 0 M3 Q))) :
    Cv G y_Re_settle (d + 1) [vr a0, vi l1, vi l2] M Q := by
  refine wm_open (y := y_Re_settle) rfl (Nat.le_of_ble_eq_true rfl) (L := [vr a0, vi l1, vi l2, vd]) rfl ?_
  obtain ⟨h1, h⟩ := h
  obtain ⟨h2, h⟩ := h
  refine wm_aload_n d_Re_settle_0 rfl rfl ?_
  refine gf_Re_34 rfl d_Re_settle_1 h1 ?_
  refine wm_iconst d_Re_settle_4 ?_
  refine cf_Re_38 rfl d_Re_settle_5 h2 (Nat.le_of_ble_eq_true rfl) (Cv.mono h (fun M3 h => ?_))
  obtain ⟨hOM3, h⟩ := h
  refine wm_iconst d_Re_settle_8 ?_
  refine wm_istore_n d_Re_settle_9 rfl (by decide) (L' := [vr a0, vi l1, vi l2, vi 0]) rfl ?_
  exact h
theorem k_Re_settle_10 {G : mG} {d : Nat} {a0 : Nat} {l1 : Int} {l2 : Int} {l3 : Int} {M : mM} {Q : mM → Prop} (hO : mOk M) (hi_l1 : i32 l1) (hi_l2 : i32 l2) (hi_l3 : i32 l3)
    (h : ((l1 < l3) → (h_Re_settle_33 G d a0 l1 l2 0 M Q)) ∧ (¬ (l1 < l3) → (mK M a0 = 12 ∧ mK M (mR M a0 1) = 34 ∧ ((0 : Int) ≤ l3 ∧ l3 < (mN M (mR M a0 1) : Int)) ∧ mK M (mR M (mR M a0 1) (Int.toNat l3)) = 10 ∧ Cv G y_Na_put0 d [vr (mR M (mR M a0 1) (Int.toNat l3)), vi 0] M (fun M12 => mOk M12 ∧ (h_Re_settle_10 G d a0 l1 l2 (l3 + 1) M12 Q))))) :
    h_Re_settle_10 G d a0 l1 l2 l3 M Q := by
  unfold h_Re_settle_10
  refine wm_iload_n d_Re_settle_10 rfl rfl ?_
  refine wm_iload_n d_Re_settle_11 rfl rfl ?_
  refine wm_icmp_gt (tgt := 31) d_Re_settle_12 rfl hi_l3 hi_l1 (fun c7 => ?_) (fun c7 => ?_)
  · replace h := h.1 c7
    refine wm_iconst d_Re_settle_31 ?_
    refine wm_istore_n d_Re_settle_32 rfl (by decide) (L' := [vr a0, vi l1, vi l2, vi 0]) rfl ?_
    exact h
  · replace h := h.2 c7
    obtain ⟨h8, h⟩ := h
    obtain ⟨h9, h⟩ := h
    obtain ⟨h10, h⟩ := h
    obtain ⟨h11, h⟩ := h
    refine wm_aload_n d_Re_settle_15 rfl rfl ?_
    refine gf_Re_17 rfl d_Re_settle_16 h8 ?_
    refine wm_iload_n d_Re_settle_19 rfl rfl ?_
    refine wm_aald4 d_Re_settle_20 h9 h10 ?_
    refine wm_iconst d_Re_settle_21 ?_
    refine cf_Re_38 rfl d_Re_settle_22 h11 (Nat.le_of_ble_eq_true rfl) (Cv.mono h (fun M12 h => ?_))
    obtain ⟨hOM12, h⟩ := h
    refine wm_iinc d_Re_settle_25 (by decide) rfl (L' := [vr a0, vi l1, vi l2, vi (l3 + 1)]) rfl ?_
    refine wm_goto (tgt := 10) d_Re_settle_28 rfl ?_
    exact h
theorem k_Re_settle_33 {G : mG} {d : Nat} {a0 : Nat} {l1 : Int} {l2 : Int} {l3 : Int} {M : mM} {Q : mM → Prop} (hO : mOk M) (hi_l1 : i32 l1) (hi_l2 : i32 l2) (hi_l3 : i32 l3)
    (h : ((36 ≤ l3) → (Q M)) ∧ (¬ (36 ≤ l3) → (mK M a0 = 12 ∧ mK M (mR M a0 6) = 10 ∧ Ci G y_Na_bits d [vr (mR M a0 6)] M (fun x20 M19 => i32 x20 ∧ mOk M19 ∧ (((l2 < x20) → (Q M19)) ∧ (¬ (l2 < x20) → (((0 : Int) ≤ l3 ∧ l3 < 36) ∧ mK M19 a0 = 12 ∧ Ci G y_Re_eliminate d [vr a0, vi l1, vi (prL.getD (Int.toNat l3) 0)] M19 (fun x27 M26 => i32 x27 ∧ mOk M26 ∧ (((x27 = 0) → (h_Re_settle_33 G d a0 l1 l2 (l3 + 1) M26 Q)) ∧ (¬ (x27 = 0) → (((0 : Int) ≤ l3 ∧ l3 < 36) ∧ mK M26 a0 = 12 ∧ Cv G y_Re_substitute d [vr a0, vi l1, vi (prL.getD (Int.toNat l3) 0)] M26 (fun M35 => mOk M35 ∧ (((0 : Int) ≤ l3 ∧ l3 < 36) ∧ mK M35 a0 = 12 ∧ Cv G y_Re_combine d [vr a0, vi l1, vi (prL.getD (Int.toNat l3) 0)] M35 (fun M40 => mOk M40 ∧ (h_Re_settle_33 G d a0 l1 l2 (l3 + 1) M40 Q))))))))))))))) :
    h_Re_settle_33 G d a0 l1 l2 l3 M Q := by
  unfold h_Re_settle_33
  refine wm_iload_n d_Re_settle_33 rfl rfl ?_
  refine wm_prLen k8_117 d_Re_settle_34 d_Re_settle_37 ?_
  refine wm_icmp_ge (tgt := 91) d_Re_settle_38 rfl hi_l3 ⟨by decide, by decide⟩ (fun c16 => ?_) (fun c16 => ?_)
  · replace h := h.1 c16
    refine wm_return d_Re_settle_91 rfl ?_
    exact ⟨rfl, h⟩
  · replace h := h.2 c16
    obtain ⟨h17, h⟩ := h
    obtain ⟨h18, h⟩ := h
    refine wm_aload_n d_Re_settle_41 rfl rfl ?_
    refine gf_Re_34 rfl d_Re_settle_42 h17 ?_
    refine cf_Re_45 rfl d_Re_settle_45 h18 (Nat.le_of_ble_eq_true rfl) (Ci.mono h (fun x20 M19 h => ?_))
    obtain ⟨h21, hOM19, h⟩ := h
    refine wm_iload_n d_Re_settle_48 rfl rfl ?_
    refine wm_icmp_gt (tgt := 91) d_Re_settle_49 rfl h21 hi_l2 (fun c23 => ?_) (fun c23 => ?_)
    · replace h := h.1 c23
      refine wm_return d_Re_settle_91 rfl ?_
      exact ⟨rfl, h⟩
    · replace h := h.2 c23
      obtain ⟨h24, h⟩ := h
      obtain ⟨h25, h⟩ := h
      refine wm_aload_n d_Re_settle_52 rfl rfl ?_
      refine wm_iload_n d_Re_settle_53 rfl rfl ?_
      refine wm_prAt k8_117 d_Re_settle_54 (k0 := 3) rfl h24 (Or.inl ⟨_, rfl, rfl, rfl⟩) d_Re_settle_57 d_Re_settle_58 ?_
      refine cf_Re_49 rfl d_Re_settle_59 h25 (Nat.le_of_ble_eq_true rfl) (Ci.mono h (fun x27 M26 h => ?_))
      obtain ⟨h28, hOM26, h⟩ := h
      refine wm_if_eq (tgt := 85) d_Re_settle_62 rfl h28 (fun c32 => ?_) (fun c32 => ?_)
      · replace h := h.1 c32
        refine wm_iinc d_Re_settle_85 (by decide) rfl (L' := [vr a0, vi l1, vi l2, vi (l3 + 1)]) rfl ?_
        refine wm_goto (tgt := 33) d_Re_settle_88 rfl ?_
        exact h
      · replace h := h.2 c32
        obtain ⟨h33, h⟩ := h
        obtain ⟨h34, h⟩ := h
        refine wm_aload_n d_Re_settle_65 rfl rfl ?_
        refine wm_iload_n d_Re_settle_66 rfl rfl ?_
        refine wm_prAt k8_117 d_Re_settle_67 (k0 := 3) rfl h33 (Or.inl ⟨_, rfl, rfl, rfl⟩) d_Re_settle_70 d_Re_settle_71 ?_
        refine cf_Re_53 rfl d_Re_settle_72 h34 (Nat.le_of_ble_eq_true rfl) (Cv.mono h (fun M35 h => ?_))
        obtain ⟨hOM35, h⟩ := h
        obtain ⟨h38, h⟩ := h
        obtain ⟨h39, h⟩ := h
        refine wm_aload_n d_Re_settle_75 rfl rfl ?_
        refine wm_iload_n d_Re_settle_76 rfl rfl ?_
        refine wm_prAt k8_117 d_Re_settle_77 (k0 := 3) rfl h38 (Or.inl ⟨_, rfl, rfl, rfl⟩) d_Re_settle_80 d_Re_settle_81 ?_
        refine cf_Re_57 rfl d_Re_settle_82 h39 (Nat.le_of_ble_eq_true rfl) (Cv.mono h (fun M40 h => ?_))
        obtain ⟨hOM40, h⟩ := h
        refine wm_iinc d_Re_settle_85 (by decide) rfl (L' := [vr a0, vi l1, vi l2, vi (l3 + 1)]) rfl ?_
        refine wm_goto (tgt := 33) d_Re_settle_88 rfl ?_
        exact h
theorem d_Re_eliminate_0 : decode y_Re_eliminate.2.1 0 = .ok (.iconst 0, 1) := by decide +kernel
theorem d_Re_eliminate_1 : decode y_Re_eliminate.2.1 1 = .ok (.istore_n 3, 1) := by decide +kernel
theorem d_Re_eliminate_2 : decode y_Re_eliminate.2.1 2 = .ok (.iload_n 3, 1) := by decide +kernel
theorem d_Re_eliminate_3 : decode y_Re_eliminate.2.1 3 = .ok (.iload_n 1, 1) := by decide +kernel
theorem d_Re_eliminate_4 : decode y_Re_eliminate.2.1 4 = .ok (.bipush 41, 2) := by decide +kernel
theorem d_Re_eliminate_6 : decode y_Re_eliminate.2.1 6 = .ok (.imul, 1) := by decide +kernel
theorem d_Re_eliminate_7 : decode y_Re_eliminate.2.1 7 = .ok (.if_icmp .ge 41, 3) := by decide +kernel
theorem d_Re_eliminate_48 : decode y_Re_eliminate.2.1 48 = .ok (.lconst 1, 1) := by decide +kernel
theorem d_Re_eliminate_49 : decode y_Re_eliminate.2.1 49 = .ok (.lstore_n 3, 1) := by decide +kernel
theorem d_Re_eliminate_50 : decode y_Re_eliminate.2.1 50 = .ok (.iconst 0, 1) := by decide +kernel
theorem d_Re_eliminate_51 : decode y_Re_eliminate.2.1 51 = .ok (.istore 5, 2) := by decide +kernel
theorem d_Re_eliminate_10 : decode y_Re_eliminate.2.1 10 = .ok (.aload_n 0, 1) := by decide +kernel
theorem d_Re_eliminate_11 : decode y_Re_eliminate.2.1 11 = .ok (.getfield 21, 3) := by decide +kernel
theorem d_Re_eliminate_14 : decode y_Re_eliminate.2.1 14 = .ok (.iload_n 3, 1) := by decide +kernel
theorem d_Re_eliminate_15 : decode y_Re_eliminate.2.1 15 = .ok (.aload_n 0, 1) := by decide +kernel
theorem d_Re_eliminate_16 : decode y_Re_eliminate.2.1 16 = .ok (.getfield 11, 3) := by decide +kernel
theorem d_Re_eliminate_19 : decode y_Re_eliminate.2.1 19 = .ok (.iload_n 3, 1) := by decide +kernel
theorem d_Re_eliminate_20 : decode y_Re_eliminate.2.1 20 = .ok (.iaload, 1) := by decide +kernel
theorem d_Re_eliminate_21 : decode y_Re_eliminate.2.1 21 = .ok (.ifCond .ge 14, 3) := by decide +kernel
theorem d_Re_eliminate_35 : decode y_Re_eliminate.2.1 35 = .ok (.aload_n 0, 1) := by decide +kernel
theorem d_Re_eliminate_36 : decode y_Re_eliminate.2.1 36 = .ok (.getfield 11, 3) := by decide +kernel
theorem d_Re_eliminate_39 : decode y_Re_eliminate.2.1 39 = .ok (.iload_n 3, 1) := by decide +kernel
theorem d_Re_eliminate_40 : decode y_Re_eliminate.2.1 40 = .ok (.iaload, 1) := by decide +kernel
theorem d_Re_eliminate_24 : decode y_Re_eliminate.2.1 24 = .ok (.aload_n 0, 1) := by decide +kernel
theorem d_Re_eliminate_25 : decode y_Re_eliminate.2.1 25 = .ok (.getfield 11, 3) := by decide +kernel
theorem d_Re_eliminate_28 : decode y_Re_eliminate.2.1 28 = .ok (.iload_n 3, 1) := by decide +kernel
theorem d_Re_eliminate_29 : decode y_Re_eliminate.2.1 29 = .ok (.iaload, 1) := by decide +kernel
theorem d_Re_eliminate_30 : decode y_Re_eliminate.2.1 30 = .ok (.iload_n 2, 1) := by decide +kernel
theorem d_Re_eliminate_31 : decode y_Re_eliminate.2.1 31 = .ok (.iadd, 1) := by decide +kernel
theorem d_Re_eliminate_32 : decode y_Re_eliminate.2.1 32 = .ok (.goto 9, 3) := by decide +kernel
theorem d_Re_eliminate_41 : decode y_Re_eliminate.2.1 41 = .ok (.iastore, 1) := by decide +kernel
theorem d_Re_eliminate_42 : decode y_Re_eliminate.2.1 42 = .ok (.iinc 3 1, 3) := by decide +kernel
theorem d_Re_eliminate_45 : decode y_Re_eliminate.2.1 45 = .ok (.goto (-43), 3) := by decide +kernel
theorem d_Re_eliminate_53 : decode y_Re_eliminate.2.1 53 = .ok (.iload 5, 2) := by decide +kernel
theorem d_Re_eliminate_55 : decode y_Re_eliminate.2.1 55 = .ok (.iload_n 1, 1) := by decide +kernel
theorem d_Re_eliminate_56 : decode y_Re_eliminate.2.1 56 = .ok (.if_icmp .ge 127, 3) := by decide +kernel
theorem d_Re_eliminate_183 : decode y_Re_eliminate.2.1 183 = .ok (.aload_n 0, 1) := by decide +kernel
theorem d_Re_eliminate_184 : decode y_Re_eliminate.2.1 184 = .ok (.getfield 30, 3) := by decide +kernel
theorem d_Re_eliminate_187 : decode y_Re_eliminate.2.1 187 = .ok (.iload_n 1, 1) := by decide +kernel
theorem d_Re_eliminate_188 : decode y_Re_eliminate.2.1 188 = .ok (.lload_n 3, 1) := by decide +kernel
theorem d_Re_eliminate_189 : decode y_Re_eliminate.2.1 189 = .ok (.l2i, 1) := by decide +kernel
theorem d_Re_eliminate_190 : decode y_Re_eliminate.2.1 190 = .ok (.iastore, 1) := by decide +kernel
theorem d_Re_eliminate_191 : decode y_Re_eliminate.2.1 191 = .ok (.iconst 1, 1) := by decide +kernel
theorem d_Re_eliminate_192 : decode y_Re_eliminate.2.1 192 = .ok (.ireturn, 1) := by decide +kernel
theorem d_Re_eliminate_59 : decode y_Re_eliminate.2.1 59 = .ok (.iload 5, 2) := by decide +kernel
theorem d_Re_eliminate_61 : decode y_Re_eliminate.2.1 61 = .ok (.istore 6, 2) := by decide +kernel
theorem d_Re_eliminate_63 : decode y_Re_eliminate.2.1 63 = .ok (.iload 6, 2) := by decide +kernel
theorem d_Re_eliminate_65 : decode y_Re_eliminate.2.1 65 = .ok (.iload_n 1, 1) := by decide +kernel
theorem d_Re_eliminate_66 : decode y_Re_eliminate.2.1 66 = .ok (.if_icmp .ge 25, 3) := by decide +kernel
theorem d_Re_eliminate_69 : decode y_Re_eliminate.2.1 69 = .ok (.aload_n 0, 1) := by decide +kernel
theorem d_Re_eliminate_70 : decode y_Re_eliminate.2.1 70 = .ok (.getfield 21, 3) := by decide +kernel
theorem d_Re_eliminate_73 : decode y_Re_eliminate.2.1 73 = .ok (.iload 6, 2) := by decide +kernel
theorem d_Re_eliminate_75 : decode y_Re_eliminate.2.1 75 = .ok (.bipush 41, 2) := by decide +kernel
theorem d_Re_eliminate_77 : decode y_Re_eliminate.2.1 77 = .ok (.imul, 1) := by decide +kernel
theorem d_Re_eliminate_78 : decode y_Re_eliminate.2.1 78 = .ok (.iload 5, 2) := by decide +kernel
theorem d_Re_eliminate_80 : decode y_Re_eliminate.2.1 80 = .ok (.iadd, 1) := by decide +kernel
theorem d_Re_eliminate_81 : decode y_Re_eliminate.2.1 81 = .ok (.iaload, 1) := by decide +kernel
theorem d_Re_eliminate_82 : decode y_Re_eliminate.2.1 82 = .ok (.ifCond .ne 9, 3) := by decide +kernel
theorem d_Re_eliminate_85 : decode y_Re_eliminate.2.1 85 = .ok (.iinc 6 1, 3) := by decide +kernel
theorem d_Re_eliminate_88 : decode y_Re_eliminate.2.1 88 = .ok (.goto (-25), 3) := by decide +kernel
theorem d_Re_eliminate_91 : decode y_Re_eliminate.2.1 91 = .ok (.iload 6, 2) := by decide +kernel
theorem d_Re_eliminate_93 : decode y_Re_eliminate.2.1 93 = .ok (.iload_n 1, 1) := by decide +kernel
theorem d_Re_eliminate_94 : decode y_Re_eliminate.2.1 94 = .ok (.if_icmp .ne 5, 3) := by decide +kernel
theorem d_Re_eliminate_97 : decode y_Re_eliminate.2.1 97 = .ok (.iconst 0, 1) := by decide +kernel
theorem d_Re_eliminate_98 : decode y_Re_eliminate.2.1 98 = .ok (.ireturn, 1) := by decide +kernel
theorem d_Re_eliminate_99 : decode y_Re_eliminate.2.1 99 = .ok (.iload 6, 2) := by decide +kernel
theorem d_Re_eliminate_101 : decode y_Re_eliminate.2.1 101 = .ok (.iload 5, 2) := by decide +kernel
theorem d_Re_eliminate_103 : decode y_Re_eliminate.2.1 103 = .ok (.if_icmp .le 22, 3) := by decide +kernel
theorem d_Re_eliminate_106 : decode y_Re_eliminate.2.1 106 = .ok (.aload_n 0, 1) := by decide +kernel
theorem d_Re_eliminate_107 : decode y_Re_eliminate.2.1 107 = .ok (.iload 6, 2) := by decide +kernel
theorem d_Re_eliminate_109 : decode y_Re_eliminate.2.1 109 = .ok (.bipush 41, 2) := by decide +kernel
theorem d_Re_eliminate_111 : decode y_Re_eliminate.2.1 111 = .ok (.imul, 1) := by decide +kernel
theorem d_Re_eliminate_112 : decode y_Re_eliminate.2.1 112 = .ok (.iload 5, 2) := by decide +kernel
theorem d_Re_eliminate_114 : decode y_Re_eliminate.2.1 114 = .ok (.bipush 41, 2) := by decide +kernel
theorem d_Re_eliminate_116 : decode y_Re_eliminate.2.1 116 = .ok (.imul, 1) := by decide +kernel
theorem d_Re_eliminate_117 : decode y_Re_eliminate.2.1 117 = .ok (.invokevirtual 60, 3) := by decide +kernel
theorem d_Re_eliminate_120 : decode y_Re_eliminate.2.1 120 = .ok (.iload_n 2, 1) := by decide +kernel
theorem d_Re_eliminate_121 : decode y_Re_eliminate.2.1 121 = .ok (.i2l, 1) := by decide +kernel
theorem d_Re_eliminate_122 : decode y_Re_eliminate.2.1 122 = .ok (.lload_n 3, 1) := by decide +kernel
theorem d_Re_eliminate_123 : decode y_Re_eliminate.2.1 123 = .ok (.lsub, 1) := by decide +kernel
theorem d_Re_eliminate_124 : decode y_Re_eliminate.2.1 124 = .ok (.lstore_n 3, 1) := by decide +kernel
theorem d_Re_eliminate_125 : decode y_Re_eliminate.2.1 125 = .ok (.lload_n 3, 1) := by decide +kernel
theorem d_Re_eliminate_126 : decode y_Re_eliminate.2.1 126 = .ok (.aload_n 0, 1) := by decide +kernel
theorem d_Re_eliminate_127 : decode y_Re_eliminate.2.1 127 = .ok (.getfield 21, 3) := by decide +kernel
theorem d_Re_eliminate_130 : decode y_Re_eliminate.2.1 130 = .ok (.iload 5, 2) := by decide +kernel
theorem d_Re_eliminate_132 : decode y_Re_eliminate.2.1 132 = .ok (.bipush 41, 2) := by decide +kernel
theorem d_Re_eliminate_134 : decode y_Re_eliminate.2.1 134 = .ok (.imul, 1) := by decide +kernel
theorem d_Re_eliminate_135 : decode y_Re_eliminate.2.1 135 = .ok (.iload 5, 2) := by decide +kernel
theorem d_Re_eliminate_137 : decode y_Re_eliminate.2.1 137 = .ok (.iadd, 1) := by decide +kernel
theorem d_Re_eliminate_138 : decode y_Re_eliminate.2.1 138 = .ok (.iaload, 1) := by decide +kernel
theorem d_Re_eliminate_139 : decode y_Re_eliminate.2.1 139 = .ok (.i2l, 1) := by decide +kernel
theorem d_Re_eliminate_140 : decode y_Re_eliminate.2.1 140 = .ok (.lmul, 1) := by decide +kernel
theorem d_Re_eliminate_141 : decode y_Re_eliminate.2.1 141 = .ok (.iload_n 2, 1) := by decide +kernel
theorem d_Re_eliminate_142 : decode y_Re_eliminate.2.1 142 = .ok (.i2l, 1) := by decide +kernel
theorem d_Re_eliminate_143 : decode y_Re_eliminate.2.1 143 = .ok (.lrem, 1) := by decide +kernel
theorem d_Re_eliminate_144 : decode y_Re_eliminate.2.1 144 = .ok (.lstore_n 3, 1) := by decide +kernel
theorem d_Re_eliminate_145 : decode y_Re_eliminate.2.1 145 = .ok (.aload_n 0, 1) := by decide +kernel
theorem d_Re_eliminate_146 : decode y_Re_eliminate.2.1 146 = .ok (.getfield 24, 3) := by decide +kernel
theorem d_Re_eliminate_149 : decode y_Re_eliminate.2.1 149 = .ok (.iload 5, 2) := by decide +kernel
theorem d_Re_eliminate_151 : decode y_Re_eliminate.2.1 151 = .ok (.aload_n 0, 1) := by decide +kernel
theorem d_Re_eliminate_152 : decode y_Re_eliminate.2.1 152 = .ok (.getfield 21, 3) := by decide +kernel
theorem d_Re_eliminate_155 : decode y_Re_eliminate.2.1 155 = .ok (.iload 5, 2) := by decide +kernel
theorem d_Re_eliminate_157 : decode y_Re_eliminate.2.1 157 = .ok (.bipush 41, 2) := by decide +kernel
theorem d_Re_eliminate_159 : decode y_Re_eliminate.2.1 159 = .ok (.imul, 1) := by decide +kernel
theorem d_Re_eliminate_160 : decode y_Re_eliminate.2.1 160 = .ok (.iload 5, 2) := by decide +kernel
theorem d_Re_eliminate_162 : decode y_Re_eliminate.2.1 162 = .ok (.iadd, 1) := by decide +kernel
theorem d_Re_eliminate_163 : decode y_Re_eliminate.2.1 163 = .ok (.iaload, 1) := by decide +kernel
theorem d_Re_eliminate_164 : decode y_Re_eliminate.2.1 164 = .ok (.iload_n 2, 1) := by decide +kernel
theorem d_Re_eliminate_165 : decode y_Re_eliminate.2.1 165 = .ok (.invokestatic 63, 3) := by decide +kernel
theorem d_Re_eliminate_168 : decode y_Re_eliminate.2.1 168 = .ok (.iastore, 1) := by decide +kernel
theorem d_Re_eliminate_169 : decode y_Re_eliminate.2.1 169 = .ok (.aload_n 0, 1) := by decide +kernel
theorem d_Re_eliminate_170 : decode y_Re_eliminate.2.1 170 = .ok (.iload 5, 2) := by decide +kernel
theorem d_Re_eliminate_172 : decode y_Re_eliminate.2.1 172 = .ok (.iload_n 1, 1) := by decide +kernel
theorem d_Re_eliminate_173 : decode y_Re_eliminate.2.1 173 = .ok (.iload_n 2, 1) := by decide +kernel
theorem d_Re_eliminate_174 : decode y_Re_eliminate.2.1 174 = .ok (.invokevirtual 67, 3) := by decide +kernel
theorem d_Re_eliminate_177 : decode y_Re_eliminate.2.1 177 = .ok (.iinc 5 1, 3) := by decide +kernel
theorem d_Re_eliminate_180 : decode y_Re_eliminate.2.1 180 = .ok (.goto (-127), 3) := by decide +kernel
def h_Re_eliminate_2 (G : mG) (d : Nat) (a0 : Nat) (l1 : Int) (l2 : Int) (l3 : Int) (M : mM) (Q : Int → mM → Prop) : Prop := mWm G y_Re_eliminate (d + 1) 2 [vr a0, vi l1, vi l2, vi l3, vd, vd, vd] [] M (fun r9 M9 => ∃ x9, r9 = some (vi x9) ∧ Q x9 M9)
def h_Re_eliminate_53 (G : mG) (d : Nat) (a0 : Nat) (l1 : Int) (l2 : Int) (j3 : Int) (l5 : Int) (M : mM) (Q : Int → mM → Prop) : Prop := mWm G y_Re_eliminate (d + 1) 53 [vr a0, vi l1, vi l2, vl j3, vd, vi l5, vd] [] M (fun r9 M9 => ∃ x9, r9 = some (vi x9) ∧ Q x9 M9)
def h_Re_eliminate_63 (G : mG) (d : Nat) (a0 : Nat) (l1 : Int) (l2 : Int) (j3 : Int) (l5 : Int) (l6 : Int) (M : mM) (Q : Int → mM → Prop) : Prop := mWm G y_Re_eliminate (d + 1) 63 [vr a0, vi l1, vi l2, vl j3, vd, vi l5, vi l6] [] M (fun r9 M9 => ∃ x9, r9 = some (vi x9) ∧ Q x9 M9)
def h_Re_eliminate_125 (G : mG) (d : Nat) (a0 : Nat) (l1 : Int) (l2 : Int) (j3 : Int) (l5 : Int) (M : mM) (Q : Int → mM → Prop) : Prop := mWm G y_Re_eliminate (d + 1) 125 [vr a0, vi l1, vi l2, vl j3, vd, vi l5, vd] [] M (fun r9 M9 => ∃ x9, r9 = some (vi x9) ∧ Q x9 M9)
theorem k_Re_eliminate {G : mG} {d : Nat} {a0 : Nat} {l1 : Int} {l2 : Int} {M : mM} {Q : Int → mM → Prop} (hO : mOk M) (hi_l1 : i32 l1) (hi_l2 : i32 l2)
    (h : h_Re_eliminate_2 G d a0 l1 l2 0 M Q) :
    Ci G y_Re_eliminate (d + 1) [vr a0, vi l1, vi l2] M Q := by
  refine wm_open (y := y_Re_eliminate) rfl (Nat.le_of_ble_eq_true rfl) (L := [vr a0, vi l1, vi l2, vd, vd, vd, vd]) rfl ?_
  refine wm_iconst d_Re_eliminate_0 ?_
  refine wm_istore_n d_Re_eliminate_1 rfl (by decide) (L' := [vr a0, vi l1, vi l2, vi 0, vd, vd, vd]) rfl ?_
  exact h
theorem k_Re_eliminate_2 {G : mG} {d : Nat} {a0 : Nat} {l1 : Int} {l2 : Int} {l3 : Int} {M : mM} {Q : Int → mM → Prop} (hO : mOk M) (hi_l1 : i32 l1) (hi_l2 : i32 l2) (hi_l3 : i32 l3)
    (h : i32 (l1 * 41) ∧ ((l1 * 41 ≤ l3) → (h_Re_eliminate_53 G d a0 l1 l2 1 0 M Q)) ∧ (¬ (l1 * 41 ≤ l3) → (mK M a0 = 12 ∧ mK M (mR M a0 0) = 30 ∧ ((0 : Int) ≤ l3 ∧ l3 < (mN M (mR M a0 0) : Int)) ∧ (((0 ≤ mI M (mR M a0 0) (Int.toNat l3)) → ((0 : Int) ≤ l3 ∧ l3 < (mN M (mR M a0 0) : Int))) ∧ (¬ (0 ≤ mI M (mR M a0 0) (Int.toNat l3)) → ((0 : Int) ≤ l3 ∧ l3 < (mN M (mR M a0 0) : Int)))) ∧ ∀ v14 : Int, v14 = (if (0 ≤ mI M (mR M a0 0) (Int.toNat l3)) then mI M (mR M a0 0) (Int.toNat l3) else (mI M (mR M a0 0) (Int.toNat l3)) + l2) → mK M (mR M a0 2) = 30 ∧ ((0 : Int) ≤ l3 ∧ l3 < (mN M (mR M a0 2) : Int)) ∧ i32 v14 ∧ ∀ M20, M20 = mUI M (mR M a0 2) (Int.toNat l3) v14 → h_Re_eliminate_2 G d a0 l1 l2 (l3 + 1) M20 Q))) :
    h_Re_eliminate_2 G d a0 l1 l2 l3 M Q := by
  unfold h_Re_eliminate_2
  obtain ⟨h6, h⟩ := h
  refine wm_iload_n d_Re_eliminate_2 rfl rfl ?_
  refine wm_iload_n d_Re_eliminate_3 rfl rfl ?_
  refine wm_bipush d_Re_eliminate_4 (by decide) ?_
  refine wm_imul d_Re_eliminate_6 ?_
  refine wm_icmp_ge (tgt := 48) d_Re_eliminate_7 rfl hi_l3 h6 (fun c7 => ?_) (fun c7 => ?_)
  · replace h := h.1 c7
    refine wm_lconst (x := 1) d_Re_eliminate_48 rfl ?_
    refine wm_lstore_n d_Re_eliminate_49 rfl (by decide) (L' := [vr a0, vi l1, vi l2, vl 1, vd, vd, vd]) rfl ?_
    refine wm_iconst d_Re_eliminate_50 ?_
    refine wm_istore d_Re_eliminate_51 (by decide) (L' := [vr a0, vi l1, vi l2, vl 1, vd, vi 0, vd]) rfl ?_
    exact h
  · replace h := h.2 c7
    obtain ⟨h8, h⟩ := h
    obtain ⟨h9, h⟩ := h
    obtain ⟨h10, h⟩ := h
    refine wm_aload_n d_Re_eliminate_10 rfl rfl ?_
    refine gf_Re_21 rfl d_Re_eliminate_11 h8 ?_
    refine wm_iload_n d_Re_eliminate_14 rfl rfl ?_
    refine wm_aload_n d_Re_eliminate_15 rfl rfl ?_
    refine gf_Re_11 rfl d_Re_eliminate_16 h8 ?_
    refine wm_iload_n d_Re_eliminate_19 rfl rfl ?_
    refine wm_iald d_Re_eliminate_20 h9 h10 ?_
    obtain ⟨s15, h⟩ := h
    have hJ : ∀ v14 : Int, v14 = (if (0 ≤ mI M (mR M a0 0) (Int.toNat l3)) then mI M (mR M a0 0) (Int.toNat l3) else (mI M (mR M a0 0) (Int.toNat l3)) + l2) → mWm G y_Re_eliminate (d + 1) 41 [vr a0, vi l1, vi l2, vi l3, vd, vd, vd] [vi v14, vi l3, vr (mR M a0 2)] M (fun r9 M9 => ∃ x9, r9 = some (vi x9) ∧ Q x9 M9) := by
      intro v14 e16
      have h := h v14 e16
      obtain ⟨h17, h⟩ := h
      obtain ⟨h18, h⟩ := h
      obtain ⟨h19, h⟩ := h
      obtain ⟨M20, e21⟩ : ∃ M20, M20 = mUI M (mR M a0 2) (Int.toNat l3) v14 := ⟨_, rfl⟩
      replace h := h M20 e21
      have hOM20 : mOk M20 := by rw [e21]; exact mOk_UI hO h19
      refine wm_iastE d_Re_eliminate_41 h17 h18 h19 e21 ?_
      refine wm_iinc d_Re_eliminate_42 (by decide) rfl (L' := [vr a0, vi l1, vi l2, vi (l3 + 1), vd, vd, vd]) rfl ?_
      refine wm_goto (tgt := 2) d_Re_eliminate_45 rfl ?_
      exact h
    clear h
    obtain ⟨s22, s23⟩ := s15
    refine wm_if_ge (tgt := 35) d_Re_eliminate_21 rfl (hO _ _).1 (fun c11 => ?_) (fun c11 => ?_)
    · have s22 := s22 c11
      have h12 := s22
      refine wm_aload_n d_Re_eliminate_35 rfl rfl ?_
      refine gf_Re_11 rfl d_Re_eliminate_36 h8 ?_
      refine wm_iload_n d_Re_eliminate_39 rfl rfl ?_
      refine wm_iald d_Re_eliminate_40 h9 h12 ?_
      exact hJ (mI M (mR M a0 0) (Int.toNat l3)) (if_pos c11).symm
    · have s23 := s23 c11
      have h13 := s23
      refine wm_aload_n d_Re_eliminate_24 rfl rfl ?_
      refine gf_Re_11 rfl d_Re_eliminate_25 h8 ?_
      refine wm_iload_n d_Re_eliminate_28 rfl rfl ?_
      refine wm_iald d_Re_eliminate_29 h9 h13 ?_
      refine wm_iload_n d_Re_eliminate_30 rfl rfl ?_
      refine wm_iadd d_Re_eliminate_31 ?_
      refine wm_goto (tgt := 41) d_Re_eliminate_32 rfl ?_
      exact hJ ((mI M (mR M a0 0) (Int.toNat l3)) + l2) (if_neg c11).symm
theorem k_Re_eliminate_53 {G : mG} {d : Nat} {a0 : Nat} {l1 : Int} {l2 : Int} {j3 : Int} {l5 : Int} {M : mM} {Q : Int → mM → Prop} (hO : mOk M) (hi_l1 : i32 l1) (hi_l2 : i32 l2) (hi_j3 : i64 j3) (hi_l5 : i32 l5)
    (h : ((l1 ≤ l5) → (mK M a0 = 12 ∧ mK M (mR M a0 5) = 30 ∧ ((0 : Int) ≤ l1 ∧ l1 < (mN M (mR M a0 5) : Int)) ∧ i32 j3 ∧ ∀ M35, M35 = mUI M (mR M a0 5) (Int.toNat l1) j3 → Q 1 M35)) ∧ (¬ (l1 ≤ l5) → (h_Re_eliminate_63 G d a0 l1 l2 j3 l5 l5 M Q))) :
    h_Re_eliminate_53 G d a0 l1 l2 j3 l5 M Q := by
  unfold h_Re_eliminate_53
  refine wm_iload d_Re_eliminate_53 rfl ?_
  refine wm_iload_n d_Re_eliminate_55 rfl rfl ?_
  refine wm_icmp_ge (tgt := 183) d_Re_eliminate_56 rfl hi_l5 hi_l1 (fun c30 => ?_) (fun c30 => ?_)
  · replace h := h.1 c30
    obtain ⟨h31, h⟩ := h
    obtain ⟨h32, h⟩ := h
    obtain ⟨h33, h⟩ := h
    obtain ⟨h34, h⟩ := h
    obtain ⟨M35, e36⟩ : ∃ M35, M35 = mUI M (mR M a0 5) (Int.toNat l1) j3 := ⟨_, rfl⟩
    replace h := h M35 e36
    refine wm_aload_n d_Re_eliminate_183 rfl rfl ?_
    refine gf_Re_30 rfl d_Re_eliminate_184 h31 ?_
    refine wm_iload_n d_Re_eliminate_187 rfl rfl ?_
    refine wm_lload_n d_Re_eliminate_188 rfl rfl ?_
    refine wm_l2i d_Re_eliminate_189 ?_
    have hOM35 : mOk M35 := by rw [e36]; exact mOk_UI hO h34
    refine wm_iastE d_Re_eliminate_190 h32 h33 h34 e36 ?_
    refine wm_iconst d_Re_eliminate_191 ?_
    refine wm_ireturn d_Re_eliminate_192 rfl (m_nb (by decide)) ?_
    exact ⟨_, rfl, h⟩
  · replace h := h.2 c30
    refine wm_iload d_Re_eliminate_59 rfl ?_
    refine wm_istore d_Re_eliminate_61 (by decide) (L' := [vr a0, vi l1, vi l2, vl j3, vd, vi l5, vi l5]) rfl ?_
    exact h
theorem k_Re_eliminate_63 {G : mG} {d : Nat} {a0 : Nat} {l1 : Int} {l2 : Int} {j3 : Int} {l5 : Int} {l6 : Int} {M : mM} {Q : Int → mM → Prop} (hO : mOk M) (hi_l1 : i32 l1) (hi_l2 : i32 l2) (hi_j3 : i64 j3) (hi_l5 : i32 l5) (hi_l6 : i32 l6)
    (h : (¬ (l1 ≤ l6) → (mK M a0 = 12 ∧ mK M (mR M a0 2) = 30 ∧ ((0 : Int) ≤ (l6 * 41) + l5 ∧ (l6 * 41) + l5 < (mN M (mR M a0 2) : Int)))) ∧ (((l1 ≤ l6) ∨ (¬ (mI M (mR M a0 2) (Int.toNat ((l6 * 41) + l5)) = 0))) → (((l6 = l1) → (Q 0 M)) ∧ (¬ (l6 = l1) → (((l6 ≤ l5) → (h_Re_eliminate_125 G d a0 l1 l2 j3 l5 M Q)) ∧ (¬ (l6 ≤ l5) → (mK M a0 = 12 ∧ Cv G y_Re_swapRows d [vr a0, vi (l6 * 41), vi (l5 * 41)] M (fun M50 => mOk M50 ∧ (h_Re_eliminate_125 G d a0 l1 l2 (l2 - j3) l5 M50 Q)))))))) ∧ (¬ ((l1 ≤ l6) ∨ (¬ (mI M (mR M a0 2) (Int.toNat ((l6 * 41) + l5)) = 0))) → (h_Re_eliminate_63 G d a0 l1 l2 j3 l5 (l6 + 1) M Q))) :
    h_Re_eliminate_63 G d a0 l1 l2 j3 l5 l6 M Q := by
  unfold h_Re_eliminate_63
  refine wm_iload d_Re_eliminate_63 rfl ?_
  refine wm_iload_n d_Re_eliminate_65 rfl rfl ?_
  obtain ⟨s42, h⟩ := h
  have hE0 : ((l1 ≤ l6) ∨ (¬ (mI M (mR M a0 2) (Int.toNat ((l6 * 41) + l5)) = 0))) → mWm G y_Re_eliminate (d + 1) 91 [vr a0, vi l1, vi l2, vl j3, vd, vi l5, vi l6] [] M (fun r9 M9 => ∃ x9, r9 = some (vi x9) ∧ Q x9 M9) := by
    intro q43
    have h := h.1 q43
    refine wm_iload d_Re_eliminate_91 rfl ?_
    refine wm_iload_n d_Re_eliminate_93 rfl rfl ?_
    refine wm_icmp_ne (tgt := 99) d_Re_eliminate_94 rfl hi_l6 hi_l1 (fun c46 => ?_) (fun c46 => ?_)
    · replace h := h.2 c46
      refine wm_iload d_Re_eliminate_99 rfl ?_
      refine wm_iload d_Re_eliminate_101 rfl ?_
      refine wm_icmp_le (tgt := 125) d_Re_eliminate_103 rfl hi_l6 hi_l5 (fun c48 => ?_) (fun c48 => ?_)
      · replace h := h.1 c48
        refine wm_less (L' := [vr a0, vi l1, vi l2, vl j3, vd, vi l5, vd]) ⟨Or.inr rfl, Or.inr rfl, Or.inr rfl, Or.inr rfl, Or.inl rfl, Or.inr rfl, Or.inl rfl, trivial⟩ ?_
        exact h
      · replace h := h.2 c48
        obtain ⟨h49, h⟩ := h
        refine wm_aload_n d_Re_eliminate_106 rfl rfl ?_
        refine wm_iload d_Re_eliminate_107 rfl ?_
        refine wm_bipush d_Re_eliminate_109 (by decide) ?_
        refine wm_imul d_Re_eliminate_111 ?_
        refine wm_iload d_Re_eliminate_112 rfl ?_
        refine wm_bipush d_Re_eliminate_114 (by decide) ?_
        refine wm_imul d_Re_eliminate_116 ?_
        refine cf_Re_60 rfl d_Re_eliminate_117 h49 (Nat.le_of_ble_eq_true rfl) (Cv.mono h (fun M50 h => ?_))
        obtain ⟨hOM50, h⟩ := h
        refine wm_iload_n d_Re_eliminate_120 rfl rfl ?_
        refine wm_i2l d_Re_eliminate_121 hi_l2 ?_
        refine wm_lload_n d_Re_eliminate_122 rfl rfl ?_
        refine wm_lsub d_Re_eliminate_123 ?_
        refine wm_lstore_n d_Re_eliminate_124 rfl (by decide) (L' := [vr a0, vi l1, vi l2, vl (l2 - j3), vd, vi l5, vi l6]) rfl ?_
        refine wm_less (L' := [vr a0, vi l1, vi l2, vl (l2 - j3), vd, vi l5, vd]) ⟨Or.inr rfl, Or.inr rfl, Or.inr rfl, Or.inr rfl, Or.inl rfl, Or.inr rfl, Or.inl rfl, trivial⟩ ?_
        exact h
    · replace c46 := Classical.not_not.mp c46
      replace h := h.1 c46
      refine wm_iconst d_Re_eliminate_97 ?_
      refine wm_ireturn d_Re_eliminate_98 rfl (m_nb (by decide)) ?_
      exact ⟨_, rfl, h⟩
  have hE1 : ¬ ((l1 ≤ l6) ∨ (¬ (mI M (mR M a0 2) (Int.toNat ((l6 * 41) + l5)) = 0))) → mWm G y_Re_eliminate (d + 1) 85 [vr a0, vi l1, vi l2, vl j3, vd, vi l5, vi l6] [] M (fun r9 M9 => ∃ x9, r9 = some (vi x9) ∧ Q x9 M9) := by
    intro q53
    have h := h.2 q53
    refine wm_iinc d_Re_eliminate_85 (by decide) rfl (L' := [vr a0, vi l1, vi l2, vl j3, vd, vi l5, vi (l6 + 1)]) rfl ?_
    refine wm_goto (tgt := 63) d_Re_eliminate_88 rfl ?_
    exact h
  clear h
  have s54 := s42
  refine wm_icmp_ge (tgt := 91) d_Re_eliminate_66 rfl hi_l6 hi_l1 (fun c41 => ?_) (fun c41 => ?_)
  · exact hE0 (Or.inl c41)
  · have s54 := s54 c41
    obtain ⟨h37, h38, h39⟩ := s54
    refine wm_aload_n d_Re_eliminate_69 rfl rfl ?_
    refine gf_Re_21 rfl d_Re_eliminate_70 h37 ?_
    refine wm_iload d_Re_eliminate_73 rfl ?_
    refine wm_bipush d_Re_eliminate_75 (by decide) ?_
    refine wm_imul d_Re_eliminate_77 ?_
    refine wm_iload d_Re_eliminate_78 rfl ?_
    refine wm_iadd d_Re_eliminate_80 ?_
    refine wm_iald d_Re_eliminate_81 h38 h39 ?_
    refine wm_if_ne (tgt := 91) d_Re_eliminate_82 rfl (hO _ _).1 (fun c40 => ?_) (fun c40 => ?_)
    · exact hE0 (Or.inr c40)
    · replace c40 := Classical.not_not.mp c40
      exact hE1 (fun z55 => Or.elim z55 c41 (fun z56 => z56 c40))
theorem k_Re_eliminate_125 {G : mG} {d : Nat} {a0 : Nat} {l1 : Int} {l2 : Int} {j3 : Int} {l5 : Int} {M : mM} {Q : Int → mM → Prop} (hO : mOk M) (hi_l1 : i32 l1) (hi_l2 : i32 l2) (hi_j3 : i64 j3) (hi_l5 : i32 l5)
    (h : mK M a0 = 12 ∧ mK M (mR M a0 2) = 30 ∧ ((0 : Int) ≤ (l5 * 41) + l5 ∧ (l5 * 41) + l5 < (mN M (mR M a0 2) : Int)) ∧ i64 (j3 * (mI M (mR M a0 2) (Int.toNat ((l5 * 41) + l5)))) ∧ l2 ≠ 0 ∧ ((0 : Int) ≤ (l5 * 41) + l5 ∧ (l5 * 41) + l5 < (mN M (mR M a0 2) : Int)) ∧ Ci G y_Re_inverse d [vi (mI M (mR M a0 2) (Int.toNat ((l5 * 41) + l5))), vi l2] M (fun x64 M63 => i32 x64 ∧ mOk M63 ∧ (mK M63 (mR M a0 3) = 30 ∧ ((0 : Int) ≤ l5 ∧ l5 < (mN M63 (mR M a0 3) : Int)) ∧ ∀ M68, M68 = mUI M63 (mR M a0 3) (Int.toNat l5) x64 → mK M68 a0 = 12 ∧ Cv G y_Re_clearBelow d [vr a0, vi l5, vi l1, vi l2] M68 (fun M71 => mOk M71 ∧ (h_Re_eliminate_53 G d a0 l1 l2 (Int.tmod (j3 * (mI M (mR M a0 2) (Int.toNat ((l5 * 41) + l5)))) l2) (l5 + 1) M71 Q))))) :
    h_Re_eliminate_125 G d a0 l1 l2 j3 l5 M Q := by
  unfold h_Re_eliminate_125
  obtain ⟨h57, h⟩ := h
  obtain ⟨h58, h⟩ := h
  obtain ⟨h59, h⟩ := h
  obtain ⟨h60, h⟩ := h
  obtain ⟨h61, h⟩ := h
  obtain ⟨h62, h⟩ := h
  refine wm_lload_n d_Re_eliminate_125 rfl rfl ?_
  refine wm_aload_n d_Re_eliminate_126 rfl rfl ?_
  refine gf_Re_21 rfl d_Re_eliminate_127 h57 ?_
  refine wm_iload d_Re_eliminate_130 rfl ?_
  refine wm_bipush d_Re_eliminate_132 (by decide) ?_
  refine wm_imul d_Re_eliminate_134 ?_
  refine wm_iload d_Re_eliminate_135 rfl ?_
  refine wm_iadd d_Re_eliminate_137 ?_
  refine wm_iald d_Re_eliminate_138 h58 h59 ?_
  refine wm_i2l d_Re_eliminate_139 (hO _ _).1 ?_
  refine wm_lmul d_Re_eliminate_140 ?_
  refine wm_iload_n d_Re_eliminate_141 rfl rfl ?_
  refine wm_i2l d_Re_eliminate_142 hi_l2 ?_
  refine wm_lrem d_Re_eliminate_143 h60 (i64_of32 hi_l2) h61 ?_
  refine wm_lstore_n d_Re_eliminate_144 rfl (by decide) (L' := [vr a0, vi l1, vi l2, vl (Int.tmod (j3 * (mI M (mR M a0 2) (Int.toNat ((l5 * 41) + l5)))) l2), vd, vi l5, vd]) rfl ?_
  refine wm_aload_n d_Re_eliminate_145 rfl rfl ?_
  refine gf_Re_24 rfl d_Re_eliminate_146 h57 ?_
  refine wm_iload d_Re_eliminate_149 rfl ?_
  refine wm_aload_n d_Re_eliminate_151 rfl rfl ?_
  refine gf_Re_21 rfl d_Re_eliminate_152 h57 ?_
  refine wm_iload d_Re_eliminate_155 rfl ?_
  refine wm_bipush d_Re_eliminate_157 (by decide) ?_
  refine wm_imul d_Re_eliminate_159 ?_
  refine wm_iload d_Re_eliminate_160 rfl ?_
  refine wm_iadd d_Re_eliminate_162 ?_
  refine wm_iald d_Re_eliminate_163 h58 h62 ?_
  refine wm_iload_n d_Re_eliminate_164 rfl rfl ?_
  refine cf_Re_63 rfl d_Re_eliminate_165 (Nat.le_of_ble_eq_true rfl) (Ci.mono h (fun x64 M63 h => ?_))
  obtain ⟨h65, hOM63, h⟩ := h
  obtain ⟨h66, h⟩ := h
  obtain ⟨h67, h⟩ := h
  obtain ⟨M68, e69⟩ : ∃ M68, M68 = mUI M63 (mR M a0 3) (Int.toNat l5) x64 := ⟨_, rfl⟩
  replace h := h M68 e69
  obtain ⟨h70, h⟩ := h
  have hOM68 : mOk M68 := by rw [e69]; exact mOk_UI hOM63 h65
  refine wm_iastE d_Re_eliminate_168 h66 h67 h65 e69 ?_
  refine wm_aload_n d_Re_eliminate_169 rfl rfl ?_
  refine wm_iload d_Re_eliminate_170 rfl ?_
  refine wm_iload_n d_Re_eliminate_172 rfl rfl ?_
  refine wm_iload_n d_Re_eliminate_173 rfl rfl ?_
  refine cf_Re_67 rfl d_Re_eliminate_174 h70 (Nat.le_of_ble_eq_true rfl) (Cv.mono h (fun M71 h => ?_))
  obtain ⟨hOM71, h⟩ := h
  refine wm_iinc d_Re_eliminate_177 (by decide) rfl (L' := [vr a0, vi l1, vi l2, vl (Int.tmod (j3 * (mI M (mR M a0 2) (Int.toNat ((l5 * 41) + l5)))) l2), vd, vi (l5 + 1), vd]) rfl ?_
  refine wm_goto (tgt := 53) d_Re_eliminate_180 rfl ?_
  exact h
theorem d_Re_swapRows_0 : decode y_Re_swapRows.2.1 0 = .ok (.iconst 0, 1) := by decide +kernel
theorem d_Re_swapRows_1 : decode y_Re_swapRows.2.1 1 = .ok (.istore_n 3, 1) := by decide +kernel
theorem d_Re_swapRows_2 : decode y_Re_swapRows.2.1 2 = .ok (.iload_n 3, 1) := by decide +kernel
theorem d_Re_swapRows_3 : decode y_Re_swapRows.2.1 3 = .ok (.bipush 41, 2) := by decide +kernel
theorem d_Re_swapRows_5 : decode y_Re_swapRows.2.1 5 = .ok (.if_icmp .ge 45, 3) := by decide +kernel
theorem d_Re_swapRows_50 : decode y_Re_swapRows.2.1 50 = .ok (.return_, 1) := by decide +kernel
theorem d_Re_swapRows_8 : decode y_Re_swapRows.2.1 8 = .ok (.aload_n 0, 1) := by decide +kernel
theorem d_Re_swapRows_9 : decode y_Re_swapRows.2.1 9 = .ok (.getfield 21, 3) := by decide +kernel
theorem d_Re_swapRows_12 : decode y_Re_swapRows.2.1 12 = .ok (.iload_n 1, 1) := by decide +kernel
theorem d_Re_swapRows_13 : decode y_Re_swapRows.2.1 13 = .ok (.iload_n 3, 1) := by decide +kernel
theorem d_Re_swapRows_14 : decode y_Re_swapRows.2.1 14 = .ok (.iadd, 1) := by decide +kernel
theorem d_Re_swapRows_15 : decode y_Re_swapRows.2.1 15 = .ok (.iaload, 1) := by decide +kernel
theorem d_Re_swapRows_16 : decode y_Re_swapRows.2.1 16 = .ok (.istore 4, 2) := by decide +kernel
theorem d_Re_swapRows_18 : decode y_Re_swapRows.2.1 18 = .ok (.aload_n 0, 1) := by decide +kernel
theorem d_Re_swapRows_19 : decode y_Re_swapRows.2.1 19 = .ok (.getfield 21, 3) := by decide +kernel
theorem d_Re_swapRows_22 : decode y_Re_swapRows.2.1 22 = .ok (.iload_n 1, 1) := by decide +kernel
theorem d_Re_swapRows_23 : decode y_Re_swapRows.2.1 23 = .ok (.iload_n 3, 1) := by decide +kernel
theorem d_Re_swapRows_24 : decode y_Re_swapRows.2.1 24 = .ok (.iadd, 1) := by decide +kernel
theorem d_Re_swapRows_25 : decode y_Re_swapRows.2.1 25 = .ok (.aload_n 0, 1) := by decide +kernel
theorem d_Re_swapRows_26 : decode y_Re_swapRows.2.1 26 = .ok (.getfield 21, 3) := by decide +kernel
theorem d_Re_swapRows_29 : decode y_Re_swapRows.2.1 29 = .ok (.iload_n 2, 1) := by decide +kernel
theorem d_Re_swapRows_30 : decode y_Re_swapRows.2.1 30 = .ok (.iload_n 3, 1) := by decide +kernel
theorem d_Re_swapRows_31 : decode y_Re_swapRows.2.1 31 = .ok (.iadd, 1) := by decide +kernel
theorem d_Re_swapRows_32 : decode y_Re_swapRows.2.1 32 = .ok (.iaload, 1) := by decide +kernel
theorem d_Re_swapRows_33 : decode y_Re_swapRows.2.1 33 = .ok (.iastore, 1) := by decide +kernel
theorem d_Re_swapRows_34 : decode y_Re_swapRows.2.1 34 = .ok (.aload_n 0, 1) := by decide +kernel
theorem d_Re_swapRows_35 : decode y_Re_swapRows.2.1 35 = .ok (.getfield 21, 3) := by decide +kernel
theorem d_Re_swapRows_38 : decode y_Re_swapRows.2.1 38 = .ok (.iload_n 2, 1) := by decide +kernel
theorem d_Re_swapRows_39 : decode y_Re_swapRows.2.1 39 = .ok (.iload_n 3, 1) := by decide +kernel
theorem d_Re_swapRows_40 : decode y_Re_swapRows.2.1 40 = .ok (.iadd, 1) := by decide +kernel
theorem d_Re_swapRows_41 : decode y_Re_swapRows.2.1 41 = .ok (.iload 4, 2) := by decide +kernel
theorem d_Re_swapRows_43 : decode y_Re_swapRows.2.1 43 = .ok (.iastore, 1) := by decide +kernel
theorem d_Re_swapRows_44 : decode y_Re_swapRows.2.1 44 = .ok (.iinc 3 1, 3) := by decide +kernel
theorem d_Re_swapRows_47 : decode y_Re_swapRows.2.1 47 = .ok (.goto (-45), 3) := by decide +kernel
def h_Re_swapRows_2 (G : mG) (d : Nat) (a0 : Nat) (l1 : Int) (l2 : Int) (l3 : Int) (M : mM) (Q : mM → Prop) : Prop := mWm G y_Re_swapRows d 2 [vr a0, vi l1, vi l2, vi l3, vd] [] M (fun r9 M9 => r9 = none ∧ Q M9)
theorem k_Re_swapRows {G : mG} {d : Nat} {a0 : Nat} {l1 : Int} {l2 : Int} {M : mM} {Q : mM → Prop} (hO : mOk M) (hi_l1 : i32 l1) (hi_l2 : i32 l2)
    (h : h_Re_swapRows_2 G d a0 l1 l2 0 M Q) :
    Cv G y_Re_swapRows d [vr a0, vi l1, vi l2] M Q := by
  refine wm_open (y := y_Re_swapRows) rfl (Nat.le_of_ble_eq_true rfl) (L := [vr a0, vi l1, vi l2, vd, vd]) rfl ?_
  refine wm_iconst d_Re_swapRows_0 ?_
  refine wm_istore_n d_Re_swapRows_1 rfl (by decide) (L' := [vr a0, vi l1, vi l2, vi 0, vd]) rfl ?_
  exact h
theorem k_Re_swapRows_2 {G : mG} {d : Nat} {a0 : Nat} {l1 : Int} {l2 : Int} {l3 : Int} {M : mM} {Q : mM → Prop} (hO : mOk M) (hi_l1 : i32 l1) (hi_l2 : i32 l2) (hi_l3 : i32 l3)
    (h : ((41 ≤ l3) → (Q M)) ∧ (¬ (41 ≤ l3) → (mK M a0 = 12 ∧ mK M (mR M a0 2) = 30 ∧ ((0 : Int) ≤ l1 + l3 ∧ l1 + l3 < (mN M (mR M a0 2) : Int)) ∧ ((0 : Int) ≤ l2 + l3 ∧ l2 + l3 < (mN M (mR M a0 2) : Int)) ∧ ((0 : Int) ≤ l1 + l3 ∧ l1 + l3 < (mN M (mR M a0 2) : Int)) ∧ ∀ M8, M8 = mUI M (mR M a0 2) (Int.toNat (l1 + l3)) (mI M (mR M a0 2) (Int.toNat (l2 + l3))) → mK M8 (mR M8 a0 2) = 30 ∧ ((0 : Int) ≤ l2 + l3 ∧ l2 + l3 < (mN M8 (mR M8 a0 2) : Int)) ∧ ∀ M12, M12 = mUI M8 (mR M8 a0 2) (Int.toNat (l2 + l3)) (mI M (mR M a0 2) (Int.toNat (l1 + l3))) → h_Re_swapRows_2 G d a0 l1 l2 (l3 + 1) M12 Q))) :
    h_Re_swapRows_2 G d a0 l1 l2 l3 M Q := by
  unfold h_Re_swapRows_2
  refine wm_iload_n d_Re_swapRows_2 rfl rfl ?_
  refine wm_bipush d_Re_swapRows_3 (by decide) ?_
  refine wm_icmp_ge (tgt := 50) d_Re_swapRows_5 rfl hi_l3 ⟨by decide, by decide⟩ (fun c2 => ?_) (fun c2 => ?_)
  · replace h := h.1 c2
    refine wm_return d_Re_swapRows_50 rfl ?_
    exact ⟨rfl, h⟩
  · replace h := h.2 c2
    obtain ⟨h3, h⟩ := h
    obtain ⟨h4, h⟩ := h
    obtain ⟨h5, h⟩ := h
    obtain ⟨h6, h⟩ := h
    obtain ⟨h7, h⟩ := h
    obtain ⟨M8, e9⟩ : ∃ M8, M8 = mUI M (mR M a0 2) (Int.toNat (l1 + l3)) (mI M (mR M a0 2) (Int.toNat (l2 + l3))) := ⟨_, rfl⟩
    replace h := h M8 e9
    obtain ⟨h10, h⟩ := h
    obtain ⟨h11, h⟩ := h
    obtain ⟨M12, e13⟩ : ∃ M12, M12 = mUI M8 (mR M8 a0 2) (Int.toNat (l2 + l3)) (mI M (mR M a0 2) (Int.toNat (l1 + l3))) := ⟨_, rfl⟩
    replace h := h M12 e13
    refine wm_aload_n d_Re_swapRows_8 rfl rfl ?_
    refine gf_Re_21 rfl d_Re_swapRows_9 h3 ?_
    refine wm_iload_n d_Re_swapRows_12 rfl rfl ?_
    refine wm_iload_n d_Re_swapRows_13 rfl rfl ?_
    refine wm_iadd d_Re_swapRows_14 ?_
    refine wm_iald d_Re_swapRows_15 h4 h5 ?_
    refine wm_istore d_Re_swapRows_16 (by decide) (L' := [vr a0, vi l1, vi l2, vi l3, vi (mI M (mR M a0 2) (Int.toNat (l1 + l3)))]) rfl ?_
    refine wm_aload_n d_Re_swapRows_18 rfl rfl ?_
    refine gf_Re_21 rfl d_Re_swapRows_19 h3 ?_
    refine wm_iload_n d_Re_swapRows_22 rfl rfl ?_
    refine wm_iload_n d_Re_swapRows_23 rfl rfl ?_
    refine wm_iadd d_Re_swapRows_24 ?_
    refine wm_aload_n d_Re_swapRows_25 rfl rfl ?_
    refine gf_Re_21 rfl d_Re_swapRows_26 h3 ?_
    refine wm_iload_n d_Re_swapRows_29 rfl rfl ?_
    refine wm_iload_n d_Re_swapRows_30 rfl rfl ?_
    refine wm_iadd d_Re_swapRows_31 ?_
    refine wm_iald d_Re_swapRows_32 h4 h6 ?_
    have hOM8 : mOk M8 := by rw [e9]; exact mOk_UI hO (hO _ _).1
    refine wm_iastE d_Re_swapRows_33 h4 h7 (hO _ _).1 e9 ?_
    refine wm_aload_n d_Re_swapRows_34 rfl rfl ?_
    refine gf_Re_21 rfl d_Re_swapRows_35 (by rw [e9]; exact h3) ?_
    refine wm_iload_n d_Re_swapRows_38 rfl rfl ?_
    refine wm_iload_n d_Re_swapRows_39 rfl rfl ?_
    refine wm_iadd d_Re_swapRows_40 ?_
    refine wm_iload d_Re_swapRows_41 rfl ?_
    have hOM12 : mOk M12 := by rw [e13]; exact mOk_UI hOM8 (hO _ _).1
    refine wm_iastE d_Re_swapRows_43 h10 h11 (hO _ _).1 e13 ?_
    refine wm_iinc d_Re_swapRows_44 (by decide) rfl (L' := [vr a0, vi l1, vi l2, vi (l3 + 1), vi (mI M (mR M a0 2) (Int.toNat (l1 + l3)))]) rfl ?_
    refine wm_goto (tgt := 2) d_Re_swapRows_47 rfl ?_
    refine wm_less (L' := [vr a0, vi l1, vi l2, vi (l3 + 1), vd]) ⟨Or.inr rfl, Or.inr rfl, Or.inr rfl, Or.inr rfl, Or.inl rfl, trivial⟩ ?_
    exact h
theorem d_Re_clearBelow_0 : decode y_Re_clearBelow.2.1 0 = .ok (.iconst 0, 1) := by decide +kernel
theorem d_Re_clearBelow_1 : decode y_Re_clearBelow.2.1 1 = .ok (.istore 4, 2) := by decide +kernel
theorem d_Re_clearBelow_3 : decode y_Re_clearBelow.2.1 3 = .ok (.iload_n 1, 1) := by decide +kernel
theorem d_Re_clearBelow_4 : decode y_Re_clearBelow.2.1 4 = .ok (.iconst 1, 1) := by decide +kernel
theorem d_Re_clearBelow_5 : decode y_Re_clearBelow.2.1 5 = .ok (.iadd, 1) := by decide +kernel
theorem d_Re_clearBelow_6 : decode y_Re_clearBelow.2.1 6 = .ok (.istore 5, 2) := by decide +kernel
theorem d_Re_clearBelow_8 : decode y_Re_clearBelow.2.1 8 = .ok (.iload 5, 2) := by decide +kernel
theorem d_Re_clearBelow_10 : decode y_Re_clearBelow.2.1 10 = .ok (.bipush 41, 2) := by decide +kernel
theorem d_Re_clearBelow_12 : decode y_Re_clearBelow.2.1 12 = .ok (.if_icmp .ge 36, 3) := by decide +kernel
theorem d_Re_clearBelow_48 : decode y_Re_clearBelow.2.1 48 = .ok (.iload_n 1, 1) := by decide +kernel
theorem d_Re_clearBelow_49 : decode y_Re_clearBelow.2.1 49 = .ok (.iconst 1, 1) := by decide +kernel
theorem d_Re_clearBelow_50 : decode y_Re_clearBelow.2.1 50 = .ok (.iadd, 1) := by decide +kernel
theorem d_Re_clearBelow_51 : decode y_Re_clearBelow.2.1 51 = .ok (.istore 5, 2) := by decide +kernel
theorem d_Re_clearBelow_15 : decode y_Re_clearBelow.2.1 15 = .ok (.aload_n 0, 1) := by decide +kernel
theorem d_Re_clearBelow_16 : decode y_Re_clearBelow.2.1 16 = .ok (.getfield 21, 3) := by decide +kernel
theorem d_Re_clearBelow_19 : decode y_Re_clearBelow.2.1 19 = .ok (.iload_n 1, 1) := by decide +kernel
theorem d_Re_clearBelow_20 : decode y_Re_clearBelow.2.1 20 = .ok (.bipush 41, 2) := by decide +kernel
theorem d_Re_clearBelow_22 : decode y_Re_clearBelow.2.1 22 = .ok (.imul, 1) := by decide +kernel
theorem d_Re_clearBelow_23 : decode y_Re_clearBelow.2.1 23 = .ok (.iload 5, 2) := by decide +kernel
theorem d_Re_clearBelow_25 : decode y_Re_clearBelow.2.1 25 = .ok (.iadd, 1) := by decide +kernel
theorem d_Re_clearBelow_26 : decode y_Re_clearBelow.2.1 26 = .ok (.iaload, 1) := by decide +kernel
theorem d_Re_clearBelow_27 : decode y_Re_clearBelow.2.1 27 = .ok (.ifCond .eq 15, 3) := by decide +kernel
theorem d_Re_clearBelow_30 : decode y_Re_clearBelow.2.1 30 = .ok (.aload_n 0, 1) := by decide +kernel
theorem d_Re_clearBelow_31 : decode y_Re_clearBelow.2.1 31 = .ok (.getfield 27, 3) := by decide +kernel
theorem d_Re_clearBelow_34 : decode y_Re_clearBelow.2.1 34 = .ok (.iload 4, 2) := by decide +kernel
theorem d_Re_clearBelow_36 : decode y_Re_clearBelow.2.1 36 = .ok (.iinc 4 1, 3) := by decide +kernel
theorem d_Re_clearBelow_39 : decode y_Re_clearBelow.2.1 39 = .ok (.iload 5, 2) := by decide +kernel
theorem d_Re_clearBelow_41 : decode y_Re_clearBelow.2.1 41 = .ok (.iastore, 1) := by decide +kernel
theorem d_Re_clearBelow_42 : decode y_Re_clearBelow.2.1 42 = .ok (.iinc 5 1, 3) := by decide +kernel
theorem d_Re_clearBelow_45 : decode y_Re_clearBelow.2.1 45 = .ok (.goto (-37), 3) := by decide +kernel
theorem d_Re_clearBelow_53 : decode y_Re_clearBelow.2.1 53 = .ok (.iload 5, 2) := by decide +kernel
theorem d_Re_clearBelow_55 : decode y_Re_clearBelow.2.1 55 = .ok (.iload_n 2, 1) := by decide +kernel
theorem d_Re_clearBelow_56 : decode y_Re_clearBelow.2.1 56 = .ok (.if_icmp .ge 125, 3) := by decide +kernel
theorem d_Re_clearBelow_181 : decode y_Re_clearBelow.2.1 181 = .ok (.return_, 1) := by decide +kernel
theorem d_Re_clearBelow_59 : decode y_Re_clearBelow.2.1 59 = .ok (.aload_n 0, 1) := by decide +kernel
theorem d_Re_clearBelow_60 : decode y_Re_clearBelow.2.1 60 = .ok (.getfield 21, 3) := by decide +kernel
theorem d_Re_clearBelow_63 : decode y_Re_clearBelow.2.1 63 = .ok (.iload 5, 2) := by decide +kernel
theorem d_Re_clearBelow_65 : decode y_Re_clearBelow.2.1 65 = .ok (.bipush 41, 2) := by decide +kernel
theorem d_Re_clearBelow_67 : decode y_Re_clearBelow.2.1 67 = .ok (.imul, 1) := by decide +kernel
theorem d_Re_clearBelow_68 : decode y_Re_clearBelow.2.1 68 = .ok (.iload_n 1, 1) := by decide +kernel
theorem d_Re_clearBelow_69 : decode y_Re_clearBelow.2.1 69 = .ok (.iadd, 1) := by decide +kernel
theorem d_Re_clearBelow_70 : decode y_Re_clearBelow.2.1 70 = .ok (.iaload, 1) := by decide +kernel
theorem d_Re_clearBelow_71 : decode y_Re_clearBelow.2.1 71 = .ok (.i2l, 1) := by decide +kernel
theorem d_Re_clearBelow_72 : decode y_Re_clearBelow.2.1 72 = .ok (.lstore 6, 2) := by decide +kernel
theorem d_Re_clearBelow_74 : decode y_Re_clearBelow.2.1 74 = .ok (.lload 6, 2) := by decide +kernel
theorem d_Re_clearBelow_76 : decode y_Re_clearBelow.2.1 76 = .ok (.lconst 0, 1) := by decide +kernel
theorem d_Re_clearBelow_77 : decode y_Re_clearBelow.2.1 77 = .ok (.lcmp, 1) := by decide +kernel
theorem d_Re_clearBelow_78 : decode y_Re_clearBelow.2.1 78 = .ok (.ifCond .ne 6, 3) := by decide +kernel
theorem d_Re_clearBelow_81 : decode y_Re_clearBelow.2.1 81 = .ok (.goto 94, 3) := by decide +kernel
theorem d_Re_clearBelow_175 : decode y_Re_clearBelow.2.1 175 = .ok (.iinc 5 1, 3) := by decide +kernel
theorem d_Re_clearBelow_178 : decode y_Re_clearBelow.2.1 178 = .ok (.goto (-125), 3) := by decide +kernel
theorem d_Re_clearBelow_84 : decode y_Re_clearBelow.2.1 84 = .ok (.iload_n 3, 1) := by decide +kernel
theorem d_Re_clearBelow_85 : decode y_Re_clearBelow.2.1 85 = .ok (.i2l, 1) := by decide +kernel
theorem d_Re_clearBelow_86 : decode y_Re_clearBelow.2.1 86 = .ok (.lload 6, 2) := by decide +kernel
theorem d_Re_clearBelow_88 : decode y_Re_clearBelow.2.1 88 = .ok (.aload_n 0, 1) := by decide +kernel
theorem d_Re_clearBelow_89 : decode y_Re_clearBelow.2.1 89 = .ok (.getfield 24, 3) := by decide +kernel
theorem d_Re_clearBelow_92 : decode y_Re_clearBelow.2.1 92 = .ok (.iload_n 1, 1) := by decide +kernel
theorem d_Re_clearBelow_93 : decode y_Re_clearBelow.2.1 93 = .ok (.iaload, 1) := by decide +kernel
theorem d_Re_clearBelow_94 : decode y_Re_clearBelow.2.1 94 = .ok (.i2l, 1) := by decide +kernel
theorem d_Re_clearBelow_95 : decode y_Re_clearBelow.2.1 95 = .ok (.lmul, 1) := by decide +kernel
theorem d_Re_clearBelow_96 : decode y_Re_clearBelow.2.1 96 = .ok (.iload_n 3, 1) := by decide +kernel
theorem d_Re_clearBelow_97 : decode y_Re_clearBelow.2.1 97 = .ok (.i2l, 1) := by decide +kernel
theorem d_Re_clearBelow_98 : decode y_Re_clearBelow.2.1 98 = .ok (.lrem, 1) := by decide +kernel
theorem d_Re_clearBelow_99 : decode y_Re_clearBelow.2.1 99 = .ok (.lsub, 1) := by decide +kernel
theorem d_Re_clearBelow_100 : decode y_Re_clearBelow.2.1 100 = .ok (.lstore 8, 2) := by decide +kernel
theorem d_Re_clearBelow_102 : decode y_Re_clearBelow.2.1 102 = .ok (.iconst 0, 1) := by decide +kernel
theorem d_Re_clearBelow_103 : decode y_Re_clearBelow.2.1 103 = .ok (.istore 10, 2) := by decide +kernel
theorem d_Re_clearBelow_105 : decode y_Re_clearBelow.2.1 105 = .ok (.iload 10, 2) := by decide +kernel
theorem d_Re_clearBelow_107 : decode y_Re_clearBelow.2.1 107 = .ok (.iload 4, 2) := by decide +kernel
theorem d_Re_clearBelow_109 : decode y_Re_clearBelow.2.1 109 = .ok (.if_icmp .ge 66, 3) := by decide +kernel
theorem d_Re_clearBelow_112 : decode y_Re_clearBelow.2.1 112 = .ok (.aload_n 0, 1) := by decide +kernel
theorem d_Re_clearBelow_113 : decode y_Re_clearBelow.2.1 113 = .ok (.getfield 27, 3) := by decide +kernel
theorem d_Re_clearBelow_116 : decode y_Re_clearBelow.2.1 116 = .ok (.iload 10, 2) := by decide +kernel
theorem d_Re_clearBelow_118 : decode y_Re_clearBelow.2.1 118 = .ok (.iaload, 1) := by decide +kernel
theorem d_Re_clearBelow_119 : decode y_Re_clearBelow.2.1 119 = .ok (.istore 11, 2) := by decide +kernel
theorem d_Re_clearBelow_121 : decode y_Re_clearBelow.2.1 121 = .ok (.aload_n 0, 1) := by decide +kernel
theorem d_Re_clearBelow_122 : decode y_Re_clearBelow.2.1 122 = .ok (.getfield 21, 3) := by decide +kernel
theorem d_Re_clearBelow_125 : decode y_Re_clearBelow.2.1 125 = .ok (.iload 5, 2) := by decide +kernel
theorem d_Re_clearBelow_127 : decode y_Re_clearBelow.2.1 127 = .ok (.bipush 41, 2) := by decide +kernel
theorem d_Re_clearBelow_129 : decode y_Re_clearBelow.2.1 129 = .ok (.imul, 1) := by decide +kernel
theorem d_Re_clearBelow_130 : decode y_Re_clearBelow.2.1 130 = .ok (.iload 11, 2) := by decide +kernel
theorem d_Re_clearBelow_132 : decode y_Re_clearBelow.2.1 132 = .ok (.iadd, 1) := by decide +kernel
theorem d_Re_clearBelow_133 : decode y_Re_clearBelow.2.1 133 = .ok (.aload_n 0, 1) := by decide +kernel
theorem d_Re_clearBelow_134 : decode y_Re_clearBelow.2.1 134 = .ok (.getfield 21, 3) := by decide +kernel
theorem d_Re_clearBelow_137 : decode y_Re_clearBelow.2.1 137 = .ok (.iload 5, 2) := by decide +kernel
theorem d_Re_clearBelow_139 : decode y_Re_clearBelow.2.1 139 = .ok (.bipush 41, 2) := by decide +kernel
theorem d_Re_clearBelow_141 : decode y_Re_clearBelow.2.1 141 = .ok (.imul, 1) := by decide +kernel
theorem d_Re_clearBelow_142 : decode y_Re_clearBelow.2.1 142 = .ok (.iload 11, 2) := by decide +kernel
theorem d_Re_clearBelow_144 : decode y_Re_clearBelow.2.1 144 = .ok (.iadd, 1) := by decide +kernel
theorem d_Re_clearBelow_145 : decode y_Re_clearBelow.2.1 145 = .ok (.iaload, 1) := by decide +kernel
theorem d_Re_clearBelow_146 : decode y_Re_clearBelow.2.1 146 = .ok (.i2l, 1) := by decide +kernel
theorem d_Re_clearBelow_147 : decode y_Re_clearBelow.2.1 147 = .ok (.lload 8, 2) := by decide +kernel
theorem d_Re_clearBelow_149 : decode y_Re_clearBelow.2.1 149 = .ok (.aload_n 0, 1) := by decide +kernel
theorem d_Re_clearBelow_150 : decode y_Re_clearBelow.2.1 150 = .ok (.getfield 21, 3) := by decide +kernel
theorem d_Re_clearBelow_153 : decode y_Re_clearBelow.2.1 153 = .ok (.iload_n 1, 1) := by decide +kernel
theorem d_Re_clearBelow_154 : decode y_Re_clearBelow.2.1 154 = .ok (.bipush 41, 2) := by decide +kernel
theorem d_Re_clearBelow_156 : decode y_Re_clearBelow.2.1 156 = .ok (.imul, 1) := by decide +kernel
theorem d_Re_clearBelow_157 : decode y_Re_clearBelow.2.1 157 = .ok (.iload 11, 2) := by decide +kernel
theorem d_Re_clearBelow_159 : decode y_Re_clearBelow.2.1 159 = .ok (.iadd, 1) := by decide +kernel
theorem d_Re_clearBelow_160 : decode y_Re_clearBelow.2.1 160 = .ok (.iaload, 1) := by decide +kernel
theorem d_Re_clearBelow_161 : decode y_Re_clearBelow.2.1 161 = .ok (.i2l, 1) := by decide +kernel
theorem d_Re_clearBelow_162 : decode y_Re_clearBelow.2.1 162 = .ok (.lmul, 1) := by decide +kernel
theorem d_Re_clearBelow_163 : decode y_Re_clearBelow.2.1 163 = .ok (.ladd, 1) := by decide +kernel
theorem d_Re_clearBelow_164 : decode y_Re_clearBelow.2.1 164 = .ok (.iload_n 3, 1) := by decide +kernel
theorem d_Re_clearBelow_165 : decode y_Re_clearBelow.2.1 165 = .ok (.i2l, 1) := by decide +kernel
theorem d_Re_clearBelow_166 : decode y_Re_clearBelow.2.1 166 = .ok (.lrem, 1) := by decide +kernel
theorem d_Re_clearBelow_167 : decode y_Re_clearBelow.2.1 167 = .ok (.l2i, 1) := by decide +kernel
theorem d_Re_clearBelow_168 : decode y_Re_clearBelow.2.1 168 = .ok (.iastore, 1) := by decide +kernel
theorem d_Re_clearBelow_169 : decode y_Re_clearBelow.2.1 169 = .ok (.iinc 10 1, 3) := by decide +kernel
theorem d_Re_clearBelow_172 : decode y_Re_clearBelow.2.1 172 = .ok (.goto (-67), 3) := by decide +kernel
def h_Re_clearBelow_8 (G : mG) (d : Nat) (a0 : Nat) (l1 : Int) (l2 : Int) (l3 : Int) (l4 : Int) (l5 : Int) (M : mM) (Q : mM → Prop) : Prop := mWm G y_Re_clearBelow d 8 [vr a0, vi l1, vi l2, vi l3, vi l4, vi l5, vd, vd, vd, vd, vd, vd] [] M (fun r9 M9 => r9 = none ∧ Q M9)
def h_Re_clearBelow_53 (G : mG) (d : Nat) (a0 : Nat) (l1 : Int) (l2 : Int) (l3 : Int) (l4 : Int) (l5 : Int) (M : mM) (Q : mM → Prop) : Prop := mWm G y_Re_clearBelow d 53 [vr a0, vi l1, vi l2, vi l3, vi l4, vi l5, vd, vd, vd, vd, vd, vd] [] M (fun r9 M9 => r9 = none ∧ Q M9)
def h_Re_clearBelow_105 (G : mG) (d : Nat) (a0 : Nat) (l1 : Int) (l2 : Int) (l3 : Int) (l4 : Int) (l5 : Int) (j8 : Int) (l10 : Int) (M : mM) (Q : mM → Prop) : Prop := mWm G y_Re_clearBelow d 105 [vr a0, vi l1, vi l2, vi l3, vi l4, vi l5, vd, vd, vl j8, vd, vi l10, vd] [] M (fun r9 M9 => r9 = none ∧ Q M9)
theorem k_Re_clearBelow {G : mG} {d : Nat} {a0 : Nat} {l1 : Int} {l2 : Int} {l3 : Int} {M : mM} {Q : mM → Prop} (hO : mOk M) (hi_l1 : i32 l1) (hi_l2 : i32 l2) (hi_l3 : i32 l3)
    (h : h_Re_clearBelow_8 G d a0 l1 l2 l3 0 (l1 + 1) M Q) :
    Cv G y_Re_clearBelow d [vr a0, vi l1, vi l2, vi l3] M Q := by
  refine wm_open (y := y_Re_clearBelow) rfl (Nat.le_of_ble_eq_true rfl) (L := [vr a0, vi l1, vi l2, vi l3, vd, vd, vd, vd, vd, vd, vd, vd]) rfl ?_
  refine wm_iconst d_Re_clearBelow_0 ?_
  refine wm_istore d_Re_clearBelow_1 (by decide) (L' := [vr a0, vi l1, vi l2, vi l3, vi 0, vd, vd, vd, vd, vd, vd, vd]) rfl ?_
  refine wm_iload_n d_Re_clearBelow_3 rfl rfl ?_
  refine wm_iconst d_Re_clearBelow_4 ?_
  refine wm_iadd d_Re_clearBelow_5 ?_
  refine wm_istore d_Re_clearBelow_6 (by decide) (L' := [vr a0, vi l1, vi l2, vi l3, vi 0, vi (l1 + 1), vd, vd, vd, vd, vd, vd]) rfl ?_
  exact h
theorem k_Re_clearBelow_8 {G : mG} {d : Nat} {a0 : Nat} {l1 : Int} {l2 : Int} {l3 : Int} {l4 : Int} {l5 : Int} {M : mM} {Q : mM → Prop} (hO : mOk M) (hi_l1 : i32 l1) (hi_l2 : i32 l2) (hi_l3 : i32 l3) (hi_l4 : i32 l4) (hi_l5 : i32 l5)
    (h : ((41 ≤ l5) → (h_Re_clearBelow_53 G d a0 l1 l2 l3 l4 (l1 + 1) M Q)) ∧ (¬ (41 ≤ l5) → (mK M a0 = 12 ∧ mK M (mR M a0 2) = 30 ∧ ((0 : Int) ≤ (l1 * 41) + l5 ∧ (l1 * 41) + l5 < (mN M (mR M a0 2) : Int)) ∧ (¬ (mI M (mR M a0 2) (Int.toNat ((l1 * 41) + l5)) = 0) → (mK M (mR M a0 4) = 30 ∧ ((0 : Int) ≤ l4 ∧ l4 < (mN M (mR M a0 4) : Int)))) ∧ ∀ v15 : Int, v15 = (if (mI M (mR M a0 2) (Int.toNat ((l1 * 41) + l5)) = 0) then l4 else l4 + 1) → ∀ M16 : mM, M16 = (if (mI M (mR M a0 2) (Int.toNat ((l1 * 41) + l5)) = 0) then M else (mUI M (mR M a0 4) (Int.toNat l4) l5)) → mOk M16 ∧ h_Re_clearBelow_8 G d a0 l1 l2 l3 v15 (l5 + 1) M16 Q))) :
    h_Re_clearBelow_8 G d a0 l1 l2 l3 l4 l5 M Q := by
  unfold h_Re_clearBelow_8
  refine wm_iload d_Re_clearBelow_8 rfl ?_
  refine wm_bipush d_Re_clearBelow_10 (by decide) ?_
  refine wm_icmp_ge (tgt := 48) d_Re_clearBelow_12 rfl hi_l5 ⟨by decide, by decide⟩ (fun c8 => ?_) (fun c8 => ?_)
  · replace h := h.1 c8
    refine wm_iload_n d_Re_clearBelow_48 rfl rfl ?_
    refine wm_iconst d_Re_clearBelow_49 ?_
    refine wm_iadd d_Re_clearBelow_50 ?_
    refine wm_istore d_Re_clearBelow_51 (by decide) (L' := [vr a0, vi l1, vi l2, vi l3, vi l4, vi (l1 + 1), vd, vd, vd, vd, vd, vd]) rfl ?_
    exact h
  · replace h := h.2 c8
    obtain ⟨h9, h⟩ := h
    obtain ⟨h10, h⟩ := h
    obtain ⟨h11, h⟩ := h
    refine wm_aload_n d_Re_clearBelow_15 rfl rfl ?_
    refine gf_Re_21 rfl d_Re_clearBelow_16 h9 ?_
    refine wm_iload_n d_Re_clearBelow_19 rfl rfl ?_
    refine wm_bipush d_Re_clearBelow_20 (by decide) ?_
    refine wm_imul d_Re_clearBelow_22 ?_
    refine wm_iload d_Re_clearBelow_23 rfl ?_
    refine wm_iadd d_Re_clearBelow_25 ?_
    refine wm_iald d_Re_clearBelow_26 h10 h11 ?_
    obtain ⟨s17, h⟩ := h
    have hJ : ∀ v15 : Int, v15 = (if (mI M (mR M a0 2) (Int.toNat ((l1 * 41) + l5)) = 0) then l4 else l4 + 1) → ∀ M16 : mM, M16 = (if (mI M (mR M a0 2) (Int.toNat ((l1 * 41) + l5)) = 0) then M else (mUI M (mR M a0 4) (Int.toNat l4) l5)) → mWm G y_Re_clearBelow d 42 [vr a0, vi l1, vi l2, vi l3, vi v15, vi l5, vd, vd, vd, vd, vd, vd] [] M16 (fun r9 M9 => r9 = none ∧ Q M9) := by
      intro v15 e18
      intro M16 e19
      have h := h v15 e18 M16 e19
      have h20 : mK M16 = mK M := by rw [e19]; (repeat' split) <;> rfl
      obtain ⟨hOM16, h⟩ := h
      refine wm_iinc d_Re_clearBelow_42 (by decide) rfl (L' := [vr a0, vi l1, vi l2, vi l3, vi v15, vi (l5 + 1), vd, vd, vd, vd, vd, vd]) rfl ?_
      refine wm_goto (tgt := 8) d_Re_clearBelow_45 rfl ?_
      exact h
    clear h
    have s21 := s17
    refine wm_if_eq (tgt := 42) d_Re_clearBelow_27 rfl (hO _ _).1 (fun c12 => ?_) (fun c12 => ?_)
    · exact hJ l4 (if_pos c12).symm M (if_pos c12).symm
    · have s21 := s21 c12
      obtain ⟨h13, h14⟩ := s21
      refine wm_aload_n d_Re_clearBelow_30 rfl rfl ?_
      refine gf_Re_27 rfl d_Re_clearBelow_31 h9 ?_
      refine wm_iload d_Re_clearBelow_34 rfl ?_
      refine wm_iinc d_Re_clearBelow_36 (by decide) rfl (L' := [vr a0, vi l1, vi l2, vi l3, vi (l4 + 1), vi l5, vd, vd, vd, vd, vd, vd]) rfl ?_
      refine wm_iload d_Re_clearBelow_39 rfl ?_
      refine wm_iastE d_Re_clearBelow_41 h13 h14 hi_l5 rfl ?_
      exact hJ (l4 + 1) (if_neg c12).symm (mUI M (mR M a0 4) (Int.toNat l4) l5) (if_neg c12).symm
theorem k_Re_clearBelow_53 {G : mG} {d : Nat} {a0 : Nat} {l1 : Int} {l2 : Int} {l3 : Int} {l4 : Int} {l5 : Int} {M : mM} {Q : mM → Prop} (hO : mOk M) (hi_l1 : i32 l1) (hi_l2 : i32 l2) (hi_l3 : i32 l3) (hi_l4 : i32 l4) (hi_l5 : i32 l5)
    (h : ((l2 ≤ l5) → (Q M)) ∧ (¬ (l2 ≤ l5) → (mK M a0 = 12 ∧ mK M (mR M a0 2) = 30 ∧ ((0 : Int) ≤ (l5 * 41) + l1 ∧ (l5 * 41) + l1 < (mN M (mR M a0 2) : Int)) ∧ ((cmpL (mI M (mR M a0 2) (Int.toNat ((l5 * 41) + l1))) 0 = 0) → (h_Re_clearBelow_53 G d a0 l1 l2 l3 l4 (l5 + 1) M Q)) ∧ (¬ (cmpL (mI M (mR M a0 2) (Int.toNat ((l5 * 41) + l1))) 0 = 0) → (mK M (mR M a0 3) = 30 ∧ ((0 : Int) ≤ l1 ∧ l1 < (mN M (mR M a0 3) : Int)) ∧ i64 ((mI M (mR M a0 2) (Int.toNat ((l5 * 41) + l1))) * (mI M (mR M a0 3) (Int.toNat l1))) ∧ l3 ≠ 0 ∧ h_Re_clearBelow_105 G d a0 l1 l2 l3 l4 l5 (l3 - (Int.tmod ((mI M (mR M a0 2) (Int.toNat ((l5 * 41) + l1))) * (mI M (mR M a0 3) (Int.toNat l1))) l3)) 0 M Q))))) :
    h_Re_clearBelow_53 G d a0 l1 l2 l3 l4 l5 M Q := by
  unfold h_Re_clearBelow_53
  refine wm_iload d_Re_clearBelow_53 rfl ?_
  refine wm_iload_n d_Re_clearBelow_55 rfl rfl ?_
  refine wm_icmp_ge (tgt := 181) d_Re_clearBelow_56 rfl hi_l5 hi_l2 (fun c28 => ?_) (fun c28 => ?_)
  · replace h := h.1 c28
    refine wm_return d_Re_clearBelow_181 rfl ?_
    exact ⟨rfl, h⟩
  · replace h := h.2 c28
    obtain ⟨h29, h⟩ := h
    obtain ⟨h30, h⟩ := h
    obtain ⟨h31, h⟩ := h
    refine wm_aload_n d_Re_clearBelow_59 rfl rfl ?_
    refine gf_Re_21 rfl d_Re_clearBelow_60 h29 ?_
    refine wm_iload d_Re_clearBelow_63 rfl ?_
    refine wm_bipush d_Re_clearBelow_65 (by decide) ?_
    refine wm_imul d_Re_clearBelow_67 ?_
    refine wm_iload_n d_Re_clearBelow_68 rfl rfl ?_
    refine wm_iadd d_Re_clearBelow_69 ?_
    refine wm_iald d_Re_clearBelow_70 h30 h31 ?_
    refine wm_i2l d_Re_clearBelow_71 (hO _ _).1 ?_
    refine wm_lstore d_Re_clearBelow_72 (by decide) (L' := [vr a0, vi l1, vi l2, vi l3, vi l4, vi l5, vl (mI M (mR M a0 2) (Int.toNat ((l5 * 41) + l1))), vd, vd, vd, vd, vd]) rfl ?_
    refine wm_lload d_Re_clearBelow_74 rfl ?_
    refine wm_lconst (x := 0) d_Re_clearBelow_76 rfl ?_
    refine wm_lcmp d_Re_clearBelow_77 (i64_of32 (hO _ _).1) ⟨by decide, by decide⟩ ?_
    refine wm_if_ne (tgt := 84) d_Re_clearBelow_78 rfl (m_cmp32 _ _) (fun c37 => ?_) (fun c37 => ?_)
    · replace h := h.2 c37
      obtain ⟨h38, h⟩ := h
      obtain ⟨h39, h⟩ := h
      obtain ⟨h40, h⟩ := h
      obtain ⟨h41, h⟩ := h
      refine wm_iload_n d_Re_clearBelow_84 rfl rfl ?_
      refine wm_i2l d_Re_clearBelow_85 hi_l3 ?_
      refine wm_lload d_Re_clearBelow_86 rfl ?_
      refine wm_aload_n d_Re_clearBelow_88 rfl rfl ?_
      refine gf_Re_24 rfl d_Re_clearBelow_89 h29 ?_
      refine wm_iload_n d_Re_clearBelow_92 rfl rfl ?_
      refine wm_iald d_Re_clearBelow_93 h38 h39 ?_
      refine wm_i2l d_Re_clearBelow_94 (hO _ _).1 ?_
      refine wm_lmul d_Re_clearBelow_95 ?_
      refine wm_iload_n d_Re_clearBelow_96 rfl rfl ?_
      refine wm_i2l d_Re_clearBelow_97 hi_l3 ?_
      refine wm_lrem d_Re_clearBelow_98 h40 (i64_of32 hi_l3) h41 ?_
      refine wm_lsub d_Re_clearBelow_99 ?_
      refine wm_lstore d_Re_clearBelow_100 (by decide) (L' := [vr a0, vi l1, vi l2, vi l3, vi l4, vi l5, vl (mI M (mR M a0 2) (Int.toNat ((l5 * 41) + l1))), vd, vl (l3 - (Int.tmod ((mI M (mR M a0 2) (Int.toNat ((l5 * 41) + l1))) * (mI M (mR M a0 3) (Int.toNat l1))) l3)), vd, vd, vd]) rfl ?_
      refine wm_iconst d_Re_clearBelow_102 ?_
      refine wm_istore d_Re_clearBelow_103 (by decide) (L' := [vr a0, vi l1, vi l2, vi l3, vi l4, vi l5, vl (mI M (mR M a0 2) (Int.toNat ((l5 * 41) + l1))), vd, vl (l3 - (Int.tmod ((mI M (mR M a0 2) (Int.toNat ((l5 * 41) + l1))) * (mI M (mR M a0 3) (Int.toNat l1))) l3)), vd, vi 0, vd]) rfl ?_
      refine wm_less (L' := [vr a0, vi l1, vi l2, vi l3, vi l4, vi l5, vd, vd, vl (l3 - (Int.tmod ((mI M (mR M a0 2) (Int.toNat ((l5 * 41) + l1))) * (mI M (mR M a0 3) (Int.toNat l1))) l3)), vd, vi 0, vd]) ⟨Or.inr rfl, Or.inr rfl, Or.inr rfl, Or.inr rfl, Or.inr rfl, Or.inr rfl, Or.inl rfl, Or.inl rfl, Or.inr rfl, Or.inl rfl, Or.inr rfl, Or.inl rfl, trivial⟩ ?_
      exact h
    · replace c37 := Classical.not_not.mp c37
      replace h := h.1 c37
      refine wm_goto (tgt := 175) d_Re_clearBelow_81 rfl ?_
      refine wm_iinc d_Re_clearBelow_175 (by decide) rfl (L' := [vr a0, vi l1, vi l2, vi l3, vi l4, vi (l5 + 1), vl (mI M (mR M a0 2) (Int.toNat ((l5 * 41) + l1))), vd, vd, vd, vd, vd]) rfl ?_
      refine wm_goto (tgt := 53) d_Re_clearBelow_178 rfl ?_
      refine wm_less (L' := [vr a0, vi l1, vi l2, vi l3, vi l4, vi (l5 + 1), vd, vd, vd, vd, vd, vd]) ⟨Or.inr rfl, Or.inr rfl, Or.inr rfl, Or.inr rfl, Or.inr rfl, Or.inr rfl, Or.inl rfl, Or.inl rfl, Or.inl rfl, Or.inl rfl, Or.inl rfl, Or.inl rfl, trivial⟩ ?_
      exact h
theorem k_Re_clearBelow_105 {G : mG} {d : Nat} {a0 : Nat} {l1 : Int} {l2 : Int} {l3 : Int} {l4 : Int} {l5 : Int} {j8 : Int} {l10 : Int} {M : mM} {Q : mM → Prop} (hO : mOk M) (hi_l1 : i32 l1) (hi_l2 : i32 l2) (hi_l3 : i32 l3) (hi_l4 : i32 l4) (hi_l5 : i32 l5) (hi_j8 : i64 j8) (hi_l10 : i32 l10)
    (h : ((l4 ≤ l10) → (h_Re_clearBelow_53 G d a0 l1 l2 l3 l4 (l5 + 1) M Q)) ∧ (¬ (l4 ≤ l10) → (mK M a0 = 12 ∧ mK M (mR M a0 4) = 30 ∧ ((0 : Int) ≤ l10 ∧ l10 < (mN M (mR M a0 4) : Int)) ∧ mK M (mR M a0 2) = 30 ∧ ((0 : Int) ≤ (l5 * 41) + (mI M (mR M a0 4) (Int.toNat l10)) ∧ (l5 * 41) + (mI M (mR M a0 4) (Int.toNat l10)) < (mN M (mR M a0 2) : Int)) ∧ ((0 : Int) ≤ (l1 * 41) + (mI M (mR M a0 4) (Int.toNat l10)) ∧ (l1 * 41) + (mI M (mR M a0 4) (Int.toNat l10)) < (mN M (mR M a0 2) : Int)) ∧ i64 ((mI M (mR M a0 2) (Int.toNat ((l5 * 41) + (mI M (mR M a0 4) (Int.toNat l10))))) + (j8 * (mI M (mR M a0 2) (Int.toNat ((l1 * 41) + (mI M (mR M a0 4) (Int.toNat l10))))))) ∧ l3 ≠ 0 ∧ ((0 : Int) ≤ (l5 * 41) + (mI M (mR M a0 4) (Int.toNat l10)) ∧ (l5 * 41) + (mI M (mR M a0 4) (Int.toNat l10)) < (mN M (mR M a0 2) : Int)) ∧ i32 (Int.tmod ((mI M (mR M a0 2) (Int.toNat ((l5 * 41) + (mI M (mR M a0 4) (Int.toNat l10))))) + (j8 * (mI M (mR M a0 2) (Int.toNat ((l1 * 41) + (mI M (mR M a0 4) (Int.toNat l10))))))) l3) ∧ ∀ M64, M64 = mUI M (mR M a0 2) (Int.toNat ((l5 * 41) + (mI M (mR M a0 4) (Int.toNat l10)))) (Int.tmod ((mI M (mR M a0 2) (Int.toNat ((l5 * 41) + (mI M (mR M a0 4) (Int.toNat l10))))) + (j8 * (mI M (mR M a0 2) (Int.toNat ((l1 * 41) + (mI M (mR M a0 4) (Int.toNat l10))))))) l3) → h_Re_clearBelow_105 G d a0 l1 l2 l3 l4 l5 j8 (l10 + 1) M64 Q))) :
    h_Re_clearBelow_105 G d a0 l1 l2 l3 l4 l5 j8 l10 M Q := by
  unfold h_Re_clearBelow_105
  refine wm_iload d_Re_clearBelow_105 rfl ?_
  refine wm_iload d_Re_clearBelow_107 rfl ?_
  refine wm_icmp_ge (tgt := 175) d_Re_clearBelow_109 rfl hi_l10 hi_l4 (fun c53 => ?_) (fun c53 => ?_)
  · replace h := h.1 c53
    refine wm_iinc d_Re_clearBelow_175 (by decide) rfl (L' := [vr a0, vi l1, vi l2, vi l3, vi l4, vi (l5 + 1), vd, vd, vl j8, vd, vi l10, vd]) rfl ?_
    refine wm_goto (tgt := 53) d_Re_clearBelow_178 rfl ?_
    refine wm_less (L' := [vr a0, vi l1, vi l2, vi l3, vi l4, vi (l5 + 1), vd, vd, vd, vd, vd, vd]) ⟨Or.inr rfl, Or.inr rfl, Or.inr rfl, Or.inr rfl, Or.inr rfl, Or.inr rfl, Or.inl rfl, Or.inl rfl, Or.inl rfl, Or.inl rfl, Or.inl rfl, Or.inl rfl, trivial⟩ ?_
    exact h
  · replace h := h.2 c53
    obtain ⟨h54, h⟩ := h
    obtain ⟨h55, h⟩ := h
    obtain ⟨h56, h⟩ := h
    obtain ⟨h57, h⟩ := h
    obtain ⟨h58, h⟩ := h
    obtain ⟨h59, h⟩ := h
    obtain ⟨h60, h⟩ := h
    obtain ⟨h61, h⟩ := h
    obtain ⟨h62, h⟩ := h
    obtain ⟨h63, h⟩ := h
    obtain ⟨M64, e65⟩ : ∃ M64, M64 = mUI M (mR M a0 2) (Int.toNat ((l5 * 41) + (mI M (mR M a0 4) (Int.toNat l10)))) (Int.tmod ((mI M (mR M a0 2) (Int.toNat ((l5 * 41) + (mI M (mR M a0 4) (Int.toNat l10))))) + (j8 * (mI M (mR M a0 2) (Int.toNat ((l1 * 41) + (mI M (mR M a0 4) (Int.toNat l10))))))) l3) := ⟨_, rfl⟩
    replace h := h M64 e65
    refine wm_aload_n d_Re_clearBelow_112 rfl rfl ?_
    refine gf_Re_27 rfl d_Re_clearBelow_113 h54 ?_
    refine wm_iload d_Re_clearBelow_116 rfl ?_
    refine wm_iald d_Re_clearBelow_118 h55 h56 ?_
    refine wm_istore d_Re_clearBelow_119 (by decide) (L' := [vr a0, vi l1, vi l2, vi l3, vi l4, vi l5, vd, vd, vl j8, vd, vi l10, vi (mI M (mR M a0 4) (Int.toNat l10))]) rfl ?_
    refine wm_aload_n d_Re_clearBelow_121 rfl rfl ?_
    refine gf_Re_21 rfl d_Re_clearBelow_122 h54 ?_
    refine wm_iload d_Re_clearBelow_125 rfl ?_
    refine wm_bipush d_Re_clearBelow_127 (by decide) ?_
    refine wm_imul d_Re_clearBelow_129 ?_
    refine wm_iload d_Re_clearBelow_130 rfl ?_
    refine wm_iadd d_Re_clearBelow_132 ?_
    refine wm_aload_n d_Re_clearBelow_133 rfl rfl ?_
    refine gf_Re_21 rfl d_Re_clearBelow_134 h54 ?_
    refine wm_iload d_Re_clearBelow_137 rfl ?_
    refine wm_bipush d_Re_clearBelow_139 (by decide) ?_
    refine wm_imul d_Re_clearBelow_141 ?_
    refine wm_iload d_Re_clearBelow_142 rfl ?_
    refine wm_iadd d_Re_clearBelow_144 ?_
    refine wm_iald d_Re_clearBelow_145 h57 h58 ?_
    refine wm_i2l d_Re_clearBelow_146 (hO _ _).1 ?_
    refine wm_lload d_Re_clearBelow_147 rfl ?_
    refine wm_aload_n d_Re_clearBelow_149 rfl rfl ?_
    refine gf_Re_21 rfl d_Re_clearBelow_150 h54 ?_
    refine wm_iload_n d_Re_clearBelow_153 rfl rfl ?_
    refine wm_bipush d_Re_clearBelow_154 (by decide) ?_
    refine wm_imul d_Re_clearBelow_156 ?_
    refine wm_iload d_Re_clearBelow_157 rfl ?_
    refine wm_iadd d_Re_clearBelow_159 ?_
    refine wm_iald d_Re_clearBelow_160 h57 h59 ?_
    refine wm_i2l d_Re_clearBelow_161 (hO _ _).1 ?_
    refine wm_lmul d_Re_clearBelow_162 ?_
    refine wm_ladd d_Re_clearBelow_163 ?_
    refine wm_iload_n d_Re_clearBelow_164 rfl rfl ?_
    refine wm_i2l d_Re_clearBelow_165 hi_l3 ?_
    refine wm_lrem d_Re_clearBelow_166 h60 (i64_of32 hi_l3) h61 ?_
    refine wm_l2i d_Re_clearBelow_167 ?_
    have hOM64 : mOk M64 := by rw [e65]; exact mOk_UI hO h63
    refine wm_iastE d_Re_clearBelow_168 h57 h62 h63 e65 ?_
    refine wm_iinc d_Re_clearBelow_169 (by decide) rfl (L' := [vr a0, vi l1, vi l2, vi l3, vi l4, vi l5, vd, vd, vl j8, vd, vi (l10 + 1), vi (mI M (mR M a0 4) (Int.toNat l10))]) rfl ?_
    refine wm_goto (tgt := 105) d_Re_clearBelow_172 rfl ?_
    refine wm_less (L' := [vr a0, vi l1, vi l2, vi l3, vi l4, vi l5, vd, vd, vl j8, vd, vi (l10 + 1), vd]) ⟨Or.inr rfl, Or.inr rfl, Or.inr rfl, Or.inr rfl, Or.inr rfl, Or.inr rfl, Or.inl rfl, Or.inl rfl, Or.inr rfl, Or.inl rfl, Or.inr rfl, Or.inl rfl, trivial⟩ ?_
    exact h
theorem d_Re_substitute_0 : decode y_Re_substitute.2.1 0 = .ok (.iload_n 1, 1) := by decide +kernel
theorem d_Re_substitute_1 : decode y_Re_substitute.2.1 1 = .ok (.iconst 1, 1) := by decide +kernel
theorem d_Re_substitute_2 : decode y_Re_substitute.2.1 2 = .ok (.isub, 1) := by decide +kernel
theorem d_Re_substitute_3 : decode y_Re_substitute.2.1 3 = .ok (.istore_n 3, 1) := by decide +kernel
theorem d_Re_substitute_4 : decode y_Re_substitute.2.1 4 = .ok (.iload_n 3, 1) := by decide +kernel
theorem d_Re_substitute_5 : decode y_Re_substitute.2.1 5 = .ok (.ifCond .lt 104, 3) := by decide +kernel
theorem d_Re_substitute_109 : decode y_Re_substitute.2.1 109 = .ok (.iconst 0, 1) := by decide +kernel
theorem d_Re_substitute_110 : decode y_Re_substitute.2.1 110 = .ok (.istore_n 3, 1) := by decide +kernel
theorem d_Re_substitute_8 : decode y_Re_substitute.2.1 8 = .ok (.aload_n 0, 1) := by decide +kernel
theorem d_Re_substitute_9 : decode y_Re_substitute.2.1 9 = .ok (.getfield 21, 3) := by decide +kernel
theorem d_Re_substitute_12 : decode y_Re_substitute.2.1 12 = .ok (.iload_n 3, 1) := by decide +kernel
theorem d_Re_substitute_13 : decode y_Re_substitute.2.1 13 = .ok (.bipush 41, 2) := by decide +kernel
theorem d_Re_substitute_15 : decode y_Re_substitute.2.1 15 = .ok (.imul, 1) := by decide +kernel
theorem d_Re_substitute_16 : decode y_Re_substitute.2.1 16 = .ok (.bipush 40, 2) := by decide +kernel
theorem d_Re_substitute_18 : decode y_Re_substitute.2.1 18 = .ok (.iadd, 1) := by decide +kernel
theorem d_Re_substitute_19 : decode y_Re_substitute.2.1 19 = .ok (.iaload, 1) := by decide +kernel
theorem d_Re_substitute_20 : decode y_Re_substitute.2.1 20 = .ok (.i2l, 1) := by decide +kernel
theorem d_Re_substitute_21 : decode y_Re_substitute.2.1 21 = .ok (.lstore 4, 2) := by decide +kernel
theorem d_Re_substitute_23 : decode y_Re_substitute.2.1 23 = .ok (.iload_n 3, 1) := by decide +kernel
theorem d_Re_substitute_24 : decode y_Re_substitute.2.1 24 = .ok (.iconst 1, 1) := by decide +kernel
theorem d_Re_substitute_25 : decode y_Re_substitute.2.1 25 = .ok (.iadd, 1) := by decide +kernel
theorem d_Re_substitute_26 : decode y_Re_substitute.2.1 26 = .ok (.istore 6, 2) := by decide +kernel
theorem d_Re_substitute_28 : decode y_Re_substitute.2.1 28 = .ok (.iload 6, 2) := by decide +kernel
theorem d_Re_substitute_30 : decode y_Re_substitute.2.1 30 = .ok (.iload_n 1, 1) := by decide +kernel
theorem d_Re_substitute_31 : decode y_Re_substitute.2.1 31 = .ok (.if_icmp .ge 52, 3) := by decide +kernel
theorem d_Re_substitute_83 : decode y_Re_substitute.2.1 83 = .ok (.aload_n 0, 1) := by decide +kernel
theorem d_Re_substitute_84 : decode y_Re_substitute.2.1 84 = .ok (.getfield 30, 3) := by decide +kernel
theorem d_Re_substitute_87 : decode y_Re_substitute.2.1 87 = .ok (.iload_n 3, 1) := by decide +kernel
theorem d_Re_substitute_88 : decode y_Re_substitute.2.1 88 = .ok (.lload 4, 2) := by decide +kernel
theorem d_Re_substitute_90 : decode y_Re_substitute.2.1 90 = .ok (.aload_n 0, 1) := by decide +kernel
theorem d_Re_substitute_91 : decode y_Re_substitute.2.1 91 = .ok (.getfield 24, 3) := by decide +kernel
theorem d_Re_substitute_94 : decode y_Re_substitute.2.1 94 = .ok (.iload_n 3, 1) := by decide +kernel
theorem d_Re_substitute_95 : decode y_Re_substitute.2.1 95 = .ok (.iaload, 1) := by decide +kernel
theorem d_Re_substitute_96 : decode y_Re_substitute.2.1 96 = .ok (.i2l, 1) := by decide +kernel
theorem d_Re_substitute_97 : decode y_Re_substitute.2.1 97 = .ok (.lmul, 1) := by decide +kernel
theorem d_Re_substitute_98 : decode y_Re_substitute.2.1 98 = .ok (.iload_n 2, 1) := by decide +kernel
theorem d_Re_substitute_99 : decode y_Re_substitute.2.1 99 = .ok (.i2l, 1) := by decide +kernel
theorem d_Re_substitute_100 : decode y_Re_substitute.2.1 100 = .ok (.lrem, 1) := by decide +kernel
theorem d_Re_substitute_101 : decode y_Re_substitute.2.1 101 = .ok (.l2i, 1) := by decide +kernel
theorem d_Re_substitute_102 : decode y_Re_substitute.2.1 102 = .ok (.iastore, 1) := by decide +kernel
theorem d_Re_substitute_103 : decode y_Re_substitute.2.1 103 = .ok (.iinc 3 (-1), 3) := by decide +kernel
theorem d_Re_substitute_106 : decode y_Re_substitute.2.1 106 = .ok (.goto (-102), 3) := by decide +kernel
theorem d_Re_substitute_34 : decode y_Re_substitute.2.1 34 = .ok (.aload_n 0, 1) := by decide +kernel
theorem d_Re_substitute_35 : decode y_Re_substitute.2.1 35 = .ok (.getfield 21, 3) := by decide +kernel
theorem d_Re_substitute_38 : decode y_Re_substitute.2.1 38 = .ok (.iload_n 3, 1) := by decide +kernel
theorem d_Re_substitute_39 : decode y_Re_substitute.2.1 39 = .ok (.bipush 41, 2) := by decide +kernel
theorem d_Re_substitute_41 : decode y_Re_substitute.2.1 41 = .ok (.imul, 1) := by decide +kernel
theorem d_Re_substitute_42 : decode y_Re_substitute.2.1 42 = .ok (.iload 6, 2) := by decide +kernel
theorem d_Re_substitute_44 : decode y_Re_substitute.2.1 44 = .ok (.iadd, 1) := by decide +kernel
theorem d_Re_substitute_45 : decode y_Re_substitute.2.1 45 = .ok (.iaload, 1) := by decide +kernel
theorem d_Re_substitute_46 : decode y_Re_substitute.2.1 46 = .ok (.i2l, 1) := by decide +kernel
theorem d_Re_substitute_47 : decode y_Re_substitute.2.1 47 = .ok (.lstore 7, 2) := by decide +kernel
theorem d_Re_substitute_49 : decode y_Re_substitute.2.1 49 = .ok (.lload 7, 2) := by decide +kernel
theorem d_Re_substitute_51 : decode y_Re_substitute.2.1 51 = .ok (.lconst 0, 1) := by decide +kernel
theorem d_Re_substitute_52 : decode y_Re_substitute.2.1 52 = .ok (.lcmp, 1) := by decide +kernel
theorem d_Re_substitute_53 : decode y_Re_substitute.2.1 53 = .ok (.ifCond .eq 24, 3) := by decide +kernel
theorem d_Re_substitute_56 : decode y_Re_substitute.2.1 56 = .ok (.lload 4, 2) := by decide +kernel
theorem d_Re_substitute_58 : decode y_Re_substitute.2.1 58 = .ok (.lload 7, 2) := by decide +kernel
theorem d_Re_substitute_60 : decode y_Re_substitute.2.1 60 = .ok (.iload_n 2, 1) := by decide +kernel
theorem d_Re_substitute_61 : decode y_Re_substitute.2.1 61 = .ok (.aload_n 0, 1) := by decide +kernel
theorem d_Re_substitute_62 : decode y_Re_substitute.2.1 62 = .ok (.getfield 30, 3) := by decide +kernel
theorem d_Re_substitute_65 : decode y_Re_substitute.2.1 65 = .ok (.iload 6, 2) := by decide +kernel
theorem d_Re_substitute_67 : decode y_Re_substitute.2.1 67 = .ok (.iaload, 1) := by decide +kernel
theorem d_Re_substitute_68 : decode y_Re_substitute.2.1 68 = .ok (.isub, 1) := by decide +kernel
theorem d_Re_substitute_69 : decode y_Re_substitute.2.1 69 = .ok (.i2l, 1) := by decide +kernel
theorem d_Re_substitute_70 : decode y_Re_substitute.2.1 70 = .ok (.lmul, 1) := by decide +kernel
theorem d_Re_substitute_71 : decode y_Re_substitute.2.1 71 = .ok (.ladd, 1) := by decide +kernel
theorem d_Re_substitute_72 : decode y_Re_substitute.2.1 72 = .ok (.iload_n 2, 1) := by decide +kernel
theorem d_Re_substitute_73 : decode y_Re_substitute.2.1 73 = .ok (.i2l, 1) := by decide +kernel
theorem d_Re_substitute_74 : decode y_Re_substitute.2.1 74 = .ok (.lrem, 1) := by decide +kernel
theorem d_Re_substitute_75 : decode y_Re_substitute.2.1 75 = .ok (.lstore 4, 2) := by decide +kernel
theorem d_Re_substitute_77 : decode y_Re_substitute.2.1 77 = .ok (.iinc 6 1, 3) := by decide +kernel
theorem d_Re_substitute_80 : decode y_Re_substitute.2.1 80 = .ok (.goto (-52), 3) := by decide +kernel
theorem d_Re_substitute_111 : decode y_Re_substitute.2.1 111 = .ok (.iload_n 3, 1) := by decide +kernel
theorem d_Re_substitute_112 : decode y_Re_substitute.2.1 112 = .ok (.iload_n 1, 1) := by decide +kernel
theorem d_Re_substitute_113 : decode y_Re_substitute.2.1 113 = .ok (.if_icmp .ge 34, 3) := by decide +kernel
theorem d_Re_substitute_147 : decode y_Re_substitute.2.1 147 = .ok (.return_, 1) := by decide +kernel
theorem d_Re_substitute_116 : decode y_Re_substitute.2.1 116 = .ok (.aload_n 0, 1) := by decide +kernel
theorem d_Re_substitute_117 : decode y_Re_substitute.2.1 117 = .ok (.getfield 30, 3) := by decide +kernel
theorem d_Re_substitute_120 : decode y_Re_substitute.2.1 120 = .ok (.iload_n 3, 1) := by decide +kernel
theorem d_Re_substitute_121 : decode y_Re_substitute.2.1 121 = .ok (.aload_n 0, 1) := by decide +kernel
theorem d_Re_substitute_122 : decode y_Re_substitute.2.1 122 = .ok (.getfield 30, 3) := by decide +kernel
theorem d_Re_substitute_125 : decode y_Re_substitute.2.1 125 = .ok (.iload_n 3, 1) := by decide +kernel
theorem d_Re_substitute_126 : decode y_Re_substitute.2.1 126 = .ok (.iaload, 1) := by decide +kernel
theorem d_Re_substitute_127 : decode y_Re_substitute.2.1 127 = .ok (.i2l, 1) := by decide +kernel
theorem d_Re_substitute_128 : decode y_Re_substitute.2.1 128 = .ok (.aload_n 0, 1) := by decide +kernel
theorem d_Re_substitute_129 : decode y_Re_substitute.2.1 129 = .ok (.getfield 30, 3) := by decide +kernel
theorem d_Re_substitute_132 : decode y_Re_substitute.2.1 132 = .ok (.iload_n 1, 1) := by decide +kernel
theorem d_Re_substitute_133 : decode y_Re_substitute.2.1 133 = .ok (.iaload, 1) := by decide +kernel
theorem d_Re_substitute_134 : decode y_Re_substitute.2.1 134 = .ok (.i2l, 1) := by decide +kernel
theorem d_Re_substitute_135 : decode y_Re_substitute.2.1 135 = .ok (.lmul, 1) := by decide +kernel
theorem d_Re_substitute_136 : decode y_Re_substitute.2.1 136 = .ok (.iload_n 2, 1) := by decide +kernel
theorem d_Re_substitute_137 : decode y_Re_substitute.2.1 137 = .ok (.i2l, 1) := by decide +kernel
theorem d_Re_substitute_138 : decode y_Re_substitute.2.1 138 = .ok (.lrem, 1) := by decide +kernel
theorem d_Re_substitute_139 : decode y_Re_substitute.2.1 139 = .ok (.l2i, 1) := by decide +kernel
theorem d_Re_substitute_140 : decode y_Re_substitute.2.1 140 = .ok (.iastore, 1) := by decide +kernel
theorem d_Re_substitute_141 : decode y_Re_substitute.2.1 141 = .ok (.iinc 3 1, 3) := by decide +kernel
theorem d_Re_substitute_144 : decode y_Re_substitute.2.1 144 = .ok (.goto (-33), 3) := by decide +kernel
def h_Re_substitute_4 (G : mG) (d : Nat) (a0 : Nat) (l1 : Int) (l2 : Int) (l3 : Int) (M : mM) (Q : mM → Prop) : Prop := mWm G y_Re_substitute d 4 [vr a0, vi l1, vi l2, vi l3, vd, vd, vd, vd, vd] [] M (fun r9 M9 => r9 = none ∧ Q M9)
def h_Re_substitute_28 (G : mG) (d : Nat) (a0 : Nat) (l1 : Int) (l2 : Int) (l3 : Int) (j4 : Int) (l6 : Int) (M : mM) (Q : mM → Prop) : Prop := mWm G y_Re_substitute d 28 [vr a0, vi l1, vi l2, vi l3, vl j4, vd, vi l6, vd, vd] [] M (fun r9 M9 => r9 = none ∧ Q M9)
def h_Re_substitute_111 (G : mG) (d : Nat) (a0 : Nat) (l1 : Int) (l2 : Int) (l3 : Int) (M : mM) (Q : mM → Prop) : Prop := mWm G y_Re_substitute d 111 [vr a0, vi l1, vi l2, vi l3, vd, vd, vd, vd, vd] [] M (fun r9 M9 => r9 = none ∧ Q M9)
theorem k_Re_substitute {G : mG} {d : Nat} {a0 : Nat} {l1 : Int} {l2 : Int} {M : mM} {Q : mM → Prop} (hO : mOk M) (hi_l1 : i32 l1) (hi_l2 : i32 l2)
    (h : h_Re_substitute_4 G d a0 l1 l2 (l1 - 1) M Q) :
    Cv G y_Re_substitute d [vr a0, vi l1, vi l2] M Q := by
  refine wm_open (y := y_Re_substitute) rfl (Nat.le_of_ble_eq_true rfl) (L := [vr a0, vi l1, vi l2, vd, vd, vd, vd, vd, vd]) rfl ?_
  refine wm_iload_n d_Re_substitute_0 rfl rfl ?_
  refine wm_iconst d_Re_substitute_1 ?_
  refine wm_isub d_Re_substitute_2 ?_
  refine wm_istore_n d_Re_substitute_3 rfl (by decide) (L' := [vr a0, vi l1, vi l2, vi (l1 - 1), vd, vd, vd, vd, vd]) rfl ?_
  exact h
theorem k_Re_substitute_4 {G : mG} {d : Nat} {a0 : Nat} {l1 : Int} {l2 : Int} {l3 : Int} {M : mM} {Q : mM → Prop} (hO : mOk M) (hi_l1 : i32 l1) (hi_l2 : i32 l2) (hi_l3 : i32 l3)
    (h : ((l3 < 0) → (h_Re_substitute_111 G d a0 l1 l2 0 M Q)) ∧ (¬ (l3 < 0) → (mK M a0 = 12 ∧ mK M (mR M a0 2) = 30 ∧ ((0 : Int) ≤ (l3 * 41) + 40 ∧ (l3 * 41) + 40 < (mN M (mR M a0 2) : Int)) ∧ h_Re_substitute_28 G d a0 l1 l2 l3 (mI M (mR M a0 2) (Int.toNat ((l3 * 41) + 40))) (l3 + 1) M Q))) :
    h_Re_substitute_4 G d a0 l1 l2 l3 M Q := by
  unfold h_Re_substitute_4
  refine wm_iload_n d_Re_substitute_4 rfl rfl ?_
  refine wm_if_lt (tgt := 109) d_Re_substitute_5 rfl hi_l3 (fun c5 => ?_) (fun c5 => ?_)
  · replace h := h.1 c5
    refine wm_iconst d_Re_substitute_109 ?_
    refine wm_istore_n d_Re_substitute_110 rfl (by decide) (L' := [vr a0, vi l1, vi l2, vi 0, vd, vd, vd, vd, vd]) rfl ?_
    exact h
  · replace h := h.2 c5
    obtain ⟨h6, h⟩ := h
    obtain ⟨h7, h⟩ := h
    obtain ⟨h8, h⟩ := h
    refine wm_aload_n d_Re_substitute_8 rfl rfl ?_
    refine gf_Re_21 rfl d_Re_substitute_9 h6 ?_
    refine wm_iload_n d_Re_substitute_12 rfl rfl ?_
    refine wm_bipush d_Re_substitute_13 (by decide) ?_
    refine wm_imul d_Re_substitute_15 ?_
    refine wm_bipush d_Re_substitute_16 (by decide) ?_
    refine wm_iadd d_Re_substitute_18 ?_
    refine wm_iald d_Re_substitute_19 h7 h8 ?_
    refine wm_i2l d_Re_substitute_20 (hO _ _).1 ?_
    refine wm_lstore d_Re_substitute_21 (by decide) (L' := [vr a0, vi l1, vi l2, vi l3, vl (mI M (mR M a0 2) (Int.toNat ((l3 * 41) + 40))), vd, vd, vd, vd]) rfl ?_
    refine wm_iload_n d_Re_substitute_23 rfl rfl ?_
    refine wm_iconst d_Re_substitute_24 ?_
    refine wm_iadd d_Re_substitute_25 ?_
    refine wm_istore d_Re_substitute_26 (by decide) (L' := [vr a0, vi l1, vi l2, vi l3, vl (mI M (mR M a0 2) (Int.toNat ((l3 * 41) + 40))), vd, vi (l3 + 1), vd, vd]) rfl ?_
    exact h
theorem k_Re_substitute_28 {G : mG} {d : Nat} {a0 : Nat} {l1 : Int} {l2 : Int} {l3 : Int} {j4 : Int} {l6 : Int} {M : mM} {Q : mM → Prop} (hO : mOk M) (hi_l1 : i32 l1) (hi_l2 : i32 l2) (hi_l3 : i32 l3) (hi_j4 : i64 j4) (hi_l6 : i32 l6)
    (h : ((l1 ≤ l6) → (mK M a0 = 12 ∧ mK M (mR M a0 3) = 30 ∧ ((0 : Int) ≤ l3 ∧ l3 < (mN M (mR M a0 3) : Int)) ∧ i64 (j4 * (mI M (mR M a0 3) (Int.toNat l3))) ∧ l2 ≠ 0 ∧ mK M (mR M a0 5) = 30 ∧ ((0 : Int) ≤ l3 ∧ l3 < (mN M (mR M a0 5) : Int)) ∧ i32 (Int.tmod (j4 * (mI M (mR M a0 3) (Int.toNat l3))) l2) ∧ ∀ M30, M30 = mUI M (mR M a0 5) (Int.toNat l3) (Int.tmod (j4 * (mI M (mR M a0 3) (Int.toNat l3))) l2) → h_Re_substitute_4 G d a0 l1 l2 (l3 + (-1)) M30 Q)) ∧ (¬ (l1 ≤ l6) → (mK M a0 = 12 ∧ mK M (mR M a0 2) = 30 ∧ ((0 : Int) ≤ (l3 * 41) + l6 ∧ (l3 * 41) + l6 < (mN M (mR M a0 2) : Int)) ∧ (¬ (cmpL (mI M (mR M a0 2) (Int.toNat ((l3 * 41) + l6))) 0 = 0) → (mK M (mR M a0 5) = 30 ∧ ((0 : Int) ≤ l6 ∧ l6 < (mN M (mR M a0 5) : Int)) ∧ i32 (l2 - (mI M (mR M a0 5) (Int.toNat l6))) ∧ i64 (j4 + ((mI M (mR M a0 2) (Int.toNat ((l3 * 41) + l6))) * (l2 - (mI M (mR M a0 5) (Int.toNat l6))))) ∧ l2 ≠ 0)) ∧ ∀ v41 : Int, v41 = (if (cmpL (mI M (mR M a0 2) (Int.toNat ((l3 * 41) + l6))) 0 = 0) then j4 else Int.tmod (j4 + ((mI M (mR M a0 2) (Int.toNat ((l3 * 41) + l6))) * (l2 - (mI M (mR M a0 5) (Int.toNat l6))))) l2) → h_Re_substitute_28 G d a0 l1 l2 l3 v41 (l6 + 1) M Q))) :
    h_Re_substitute_28 G d a0 l1 l2 l3 j4 l6 M Q := by
  unfold h_Re_substitute_28
  refine wm_iload d_Re_substitute_28 rfl ?_
  refine wm_iload_n d_Re_substitute_30 rfl rfl ?_
  refine wm_icmp_ge (tgt := 83) d_Re_substitute_31 rfl hi_l6 hi_l1 (fun c21 => ?_) (fun c21 => ?_)
  · replace h := h.1 c21
    obtain ⟨h22, h⟩ := h
    obtain ⟨h23, h⟩ := h
    obtain ⟨h24, h⟩ := h
    obtain ⟨h25, h⟩ := h
    obtain ⟨h26, h⟩ := h
    obtain ⟨h27, h⟩ := h
    obtain ⟨h28, h⟩ := h
    obtain ⟨h29, h⟩ := h
    obtain ⟨M30, e31⟩ : ∃ M30, M30 = mUI M (mR M a0 5) (Int.toNat l3) (Int.tmod (j4 * (mI M (mR M a0 3) (Int.toNat l3))) l2) := ⟨_, rfl⟩
    replace h := h M30 e31
    refine wm_aload_n d_Re_substitute_83 rfl rfl ?_
    refine gf_Re_30 rfl d_Re_substitute_84 h22 ?_
    refine wm_iload_n d_Re_substitute_87 rfl rfl ?_
    refine wm_lload d_Re_substitute_88 rfl ?_
    refine wm_aload_n d_Re_substitute_90 rfl rfl ?_
    refine gf_Re_24 rfl d_Re_substitute_91 h22 ?_
    refine wm_iload_n d_Re_substitute_94 rfl rfl ?_
    refine wm_iald d_Re_substitute_95 h23 h24 ?_
    refine wm_i2l d_Re_substitute_96 (hO _ _).1 ?_
    refine wm_lmul d_Re_substitute_97 ?_
    refine wm_iload_n d_Re_substitute_98 rfl rfl ?_
    refine wm_i2l d_Re_substitute_99 hi_l2 ?_
    refine wm_lrem d_Re_substitute_100 h25 (i64_of32 hi_l2) h26 ?_
    refine wm_l2i d_Re_substitute_101 ?_
    have hOM30 : mOk M30 := by rw [e31]; exact mOk_UI hO h29
    refine wm_iastE d_Re_substitute_102 h27 h28 h29 e31 ?_
    refine wm_iinc d_Re_substitute_103 (by decide) rfl (L' := [vr a0, vi l1, vi l2, vi (l3 + (-1)), vl j4, vd, vi l6, vd, vd]) rfl ?_
    refine wm_goto (tgt := 4) d_Re_substitute_106 rfl ?_
    refine wm_less (L' := [vr a0, vi l1, vi l2, vi (l3 + (-1)), vd, vd, vd, vd, vd]) ⟨Or.inr rfl, Or.inr rfl, Or.inr rfl, Or.inr rfl, Or.inl rfl, Or.inl rfl, Or.inl rfl, Or.inl rfl, Or.inl rfl, trivial⟩ ?_
    exact h
  · replace h := h.2 c21
    obtain ⟨h32, h⟩ := h
    obtain ⟨h33, h⟩ := h
    obtain ⟨h34, h⟩ := h
    refine wm_aload_n d_Re_substitute_34 rfl rfl ?_
    refine gf_Re_21 rfl d_Re_substitute_35 h32 ?_
    refine wm_iload_n d_Re_substitute_38 rfl rfl ?_
    refine wm_bipush d_Re_substitute_39 (by decide) ?_
    refine wm_imul d_Re_substitute_41 ?_
    refine wm_iload d_Re_substitute_42 rfl ?_
    refine wm_iadd d_Re_substitute_44 ?_
    refine wm_iald d_Re_substitute_45 h33 h34 ?_
    refine wm_i2l d_Re_substitute_46 (hO _ _).1 ?_
    refine wm_lstore d_Re_substitute_47 (by decide) (L' := [vr a0, vi l1, vi l2, vi l3, vl j4, vd, vi l6, vl (mI M (mR M a0 2) (Int.toNat ((l3 * 41) + l6))), vd]) rfl ?_
    refine wm_lload d_Re_substitute_49 rfl ?_
    refine wm_lconst (x := 0) d_Re_substitute_51 rfl ?_
    refine wm_lcmp d_Re_substitute_52 (i64_of32 (hO _ _).1) ⟨by decide, by decide⟩ ?_
    obtain ⟨s42, h⟩ := h
    have hJ : ∀ v41 : Int, v41 = (if (cmpL (mI M (mR M a0 2) (Int.toNat ((l3 * 41) + l6))) 0 = 0) then j4 else Int.tmod (j4 + ((mI M (mR M a0 2) (Int.toNat ((l3 * 41) + l6))) * (l2 - (mI M (mR M a0 5) (Int.toNat l6))))) l2) → mWm G y_Re_substitute d 77 [vr a0, vi l1, vi l2, vi l3, vl v41, vd, vi l6, vd, vd] [] M (fun r9 M9 => r9 = none ∧ Q M9) := by
      intro v41 e43
      have h := h v41 e43
      refine wm_iinc d_Re_substitute_77 (by decide) rfl (L' := [vr a0, vi l1, vi l2, vi l3, vl v41, vd, vi (l6 + 1), vd, vd]) rfl ?_
      refine wm_goto (tgt := 28) d_Re_substitute_80 rfl ?_
      exact h
    clear h
    have s44 := s42
    refine wm_if_eq (tgt := 77) d_Re_substitute_53 rfl (m_cmp32 _ _) (fun c35 => ?_) (fun c35 => ?_)
    · refine wm_less (L' := [vr a0, vi l1, vi l2, vi l3, vl j4, vd, vi l6, vd, vd]) ⟨Or.inr rfl, Or.inr rfl, Or.inr rfl, Or.inr rfl, Or.inr rfl, Or.inl rfl, Or.inr rfl, Or.inl rfl, Or.inl rfl, trivial⟩ ?_
      exact hJ j4 (if_pos c35).symm
    · have s44 := s44 c35
      obtain ⟨h36, h37, h38, h39, h40⟩ := s44
      refine wm_lload d_Re_substitute_56 rfl ?_
      refine wm_lload d_Re_substitute_58 rfl ?_
      refine wm_iload_n d_Re_substitute_60 rfl rfl ?_
      refine wm_aload_n d_Re_substitute_61 rfl rfl ?_
      refine gf_Re_30 rfl d_Re_substitute_62 h32 ?_
      refine wm_iload d_Re_substitute_65 rfl ?_
      refine wm_iald d_Re_substitute_67 h36 h37 ?_
      refine wm_isub d_Re_substitute_68 ?_
      refine wm_i2l d_Re_substitute_69 h38 ?_
      refine wm_lmul d_Re_substitute_70 ?_
      refine wm_ladd d_Re_substitute_71 ?_
      refine wm_iload_n d_Re_substitute_72 rfl rfl ?_
      refine wm_i2l d_Re_substitute_73 hi_l2 ?_
      refine wm_lrem d_Re_substitute_74 h39 (i64_of32 hi_l2) h40 ?_
      refine wm_lstore d_Re_substitute_75 (by decide) (L' := [vr a0, vi l1, vi l2, vi l3, vl (Int.tmod (j4 + ((mI M (mR M a0 2) (Int.toNat ((l3 * 41) + l6))) * (l2 - (mI M (mR M a0 5) (Int.toNat l6))))) l2), vd, vi l6, vl (mI M (mR M a0 2) (Int.toNat ((l3 * 41) + l6))), vd]) rfl ?_
      refine wm_less (L' := [vr a0, vi l1, vi l2, vi l3, vl (Int.tmod (j4 + ((mI M (mR M a0 2) (Int.toNat ((l3 * 41) + l6))) * (l2 - (mI M (mR M a0 5) (Int.toNat l6))))) l2), vd, vi l6, vd, vd]) ⟨Or.inr rfl, Or.inr rfl, Or.inr rfl, Or.inr rfl, Or.inr rfl, Or.inl rfl, Or.inr rfl, Or.inl rfl, Or.inl rfl, trivial⟩ ?_
      exact hJ (Int.tmod (j4 + ((mI M (mR M a0 2) (Int.toNat ((l3 * 41) + l6))) * (l2 - (mI M (mR M a0 5) (Int.toNat l6))))) l2) (if_neg c35).symm
theorem k_Re_substitute_111 {G : mG} {d : Nat} {a0 : Nat} {l1 : Int} {l2 : Int} {l3 : Int} {M : mM} {Q : mM → Prop} (hO : mOk M) (hi_l1 : i32 l1) (hi_l2 : i32 l2) (hi_l3 : i32 l3)
    (h : ((l1 ≤ l3) → (Q M)) ∧ (¬ (l1 ≤ l3) → (mK M a0 = 12 ∧ mK M (mR M a0 5) = 30 ∧ ((0 : Int) ≤ l3 ∧ l3 < (mN M (mR M a0 5) : Int)) ∧ ((0 : Int) ≤ l1 ∧ l1 < (mN M (mR M a0 5) : Int)) ∧ i64 ((mI M (mR M a0 5) (Int.toNat l3)) * (mI M (mR M a0 5) (Int.toNat l1))) ∧ l2 ≠ 0 ∧ ((0 : Int) ≤ l3 ∧ l3 < (mN M (mR M a0 5) : Int)) ∧ i32 (Int.tmod ((mI M (mR M a0 5) (Int.toNat l3)) * (mI M (mR M a0 5) (Int.toNat l1))) l2) ∧ ∀ M64, M64 = mUI M (mR M a0 5) (Int.toNat l3) (Int.tmod ((mI M (mR M a0 5) (Int.toNat l3)) * (mI M (mR M a0 5) (Int.toNat l1))) l2) → h_Re_substitute_111 G d a0 l1 l2 (l3 + 1) M64 Q))) :
    h_Re_substitute_111 G d a0 l1 l2 l3 M Q := by
  unfold h_Re_substitute_111
  refine wm_iload_n d_Re_substitute_111 rfl rfl ?_
  refine wm_iload_n d_Re_substitute_112 rfl rfl ?_
  refine wm_icmp_ge (tgt := 147) d_Re_substitute_113 rfl hi_l3 hi_l1 (fun c55 => ?_) (fun c55 => ?_)
  · replace h := h.1 c55
    refine wm_return d_Re_substitute_147 rfl ?_
    exact ⟨rfl, h⟩
  · replace h := h.2 c55
    obtain ⟨h56, h⟩ := h
    obtain ⟨h57, h⟩ := h
    obtain ⟨h58, h⟩ := h
    obtain ⟨h59, h⟩ := h
    obtain ⟨h60, h⟩ := h
    obtain ⟨h61, h⟩ := h
    obtain ⟨h62, h⟩ := h
    obtain ⟨h63, h⟩ := h
    obtain ⟨M64, e65⟩ : ∃ M64, M64 = mUI M (mR M a0 5) (Int.toNat l3) (Int.tmod ((mI M (mR M a0 5) (Int.toNat l3)) * (mI M (mR M a0 5) (Int.toNat l1))) l2) := ⟨_, rfl⟩
    replace h := h M64 e65
    refine wm_aload_n d_Re_substitute_116 rfl rfl ?_
    refine gf_Re_30 rfl d_Re_substitute_117 h56 ?_
    refine wm_iload_n d_Re_substitute_120 rfl rfl ?_
    refine wm_aload_n d_Re_substitute_121 rfl rfl ?_
    refine gf_Re_30 rfl d_Re_substitute_122 h56 ?_
    refine wm_iload_n d_Re_substitute_125 rfl rfl ?_
    refine wm_iald d_Re_substitute_126 h57 h58 ?_
    refine wm_i2l d_Re_substitute_127 (hO _ _).1 ?_
    refine wm_aload_n d_Re_substitute_128 rfl rfl ?_
    refine gf_Re_30 rfl d_Re_substitute_129 h56 ?_
    refine wm_iload_n d_Re_substitute_132 rfl rfl ?_
    refine wm_iald d_Re_substitute_133 h57 h59 ?_
    refine wm_i2l d_Re_substitute_134 (hO _ _).1 ?_
    refine wm_lmul d_Re_substitute_135 ?_
    refine wm_iload_n d_Re_substitute_136 rfl rfl ?_
    refine wm_i2l d_Re_substitute_137 hi_l2 ?_
    refine wm_lrem d_Re_substitute_138 h60 (i64_of32 hi_l2) h61 ?_
    refine wm_l2i d_Re_substitute_139 ?_
    have hOM64 : mOk M64 := by rw [e65]; exact mOk_UI hO h63
    refine wm_iastE d_Re_substitute_140 h57 h62 h63 e65 ?_
    refine wm_iinc d_Re_substitute_141 (by decide) rfl (L' := [vr a0, vi l1, vi l2, vi (l3 + 1), vd, vd, vd, vd, vd]) rfl ?_
    refine wm_goto (tgt := 111) d_Re_substitute_144 rfl ?_
    exact h
theorem d_Re_combine_0 : decode y_Re_combine.2.1 0 = .ok (.aload_n 0, 1) := by decide +kernel
theorem d_Re_combine_1 : decode y_Re_combine.2.1 1 = .ok (.getfield 34, 3) := by decide +kernel
theorem d_Re_combine_4 : decode y_Re_combine.2.1 4 = .ok (.iload_n 2, 1) := by decide +kernel
theorem d_Re_combine_5 : decode y_Re_combine.2.1 5 = .ok (.invokevirtual 71, 3) := by decide +kernel
theorem d_Re_combine_8 : decode y_Re_combine.2.1 8 = .ok (.iload_n 2, 1) := by decide +kernel
theorem d_Re_combine_9 : decode y_Re_combine.2.1 9 = .ok (.invokestatic 63, 3) := by decide +kernel
theorem d_Re_combine_12 : decode y_Re_combine.2.1 12 = .ok (.i2l, 1) := by decide +kernel
theorem d_Re_combine_13 : decode y_Re_combine.2.1 13 = .ok (.lstore_n 3, 1) := by decide +kernel
theorem d_Re_combine_14 : decode y_Re_combine.2.1 14 = .ok (.iconst 0, 1) := by decide +kernel
theorem d_Re_combine_15 : decode y_Re_combine.2.1 15 = .ok (.istore 5, 2) := by decide +kernel
theorem d_Re_combine_17 : decode y_Re_combine.2.1 17 = .ok (.iload 5, 2) := by decide +kernel
theorem d_Re_combine_19 : decode y_Re_combine.2.1 19 = .ok (.iload_n 1, 1) := by decide +kernel
theorem d_Re_combine_20 : decode y_Re_combine.2.1 20 = .ok (.if_icmp .gt 60, 3) := by decide +kernel
theorem d_Re_combine_80 : decode y_Re_combine.2.1 80 = .ok (.aload_n 0, 1) := by decide +kernel
theorem d_Re_combine_81 : decode y_Re_combine.2.1 81 = .ok (.getfield 34, 3) := by decide +kernel
theorem d_Re_combine_84 : decode y_Re_combine.2.1 84 = .ok (.iload_n 2, 1) := by decide +kernel
theorem d_Re_combine_23 : decode y_Re_combine.2.1 23 = .ok (.aload_n 0, 1) := by decide +kernel
theorem d_Re_combine_24 : decode y_Re_combine.2.1 24 = .ok (.getfield 30, 3) := by decide +kernel
theorem d_Re_combine_27 : decode y_Re_combine.2.1 27 = .ok (.iload 5, 2) := by decide +kernel
theorem d_Re_combine_29 : decode y_Re_combine.2.1 29 = .ok (.iaload, 1) := by decide +kernel
theorem d_Re_combine_30 : decode y_Re_combine.2.1 30 = .ok (.i2l, 1) := by decide +kernel
theorem d_Re_combine_31 : decode y_Re_combine.2.1 31 = .ok (.iload_n 2, 1) := by decide +kernel
theorem d_Re_combine_32 : decode y_Re_combine.2.1 32 = .ok (.i2l, 1) := by decide +kernel
theorem d_Re_combine_33 : decode y_Re_combine.2.1 33 = .ok (.ladd, 1) := by decide +kernel
theorem d_Re_combine_34 : decode y_Re_combine.2.1 34 = .ok (.aload_n 0, 1) := by decide +kernel
theorem d_Re_combine_35 : decode y_Re_combine.2.1 35 = .ok (.getfield 17, 3) := by decide +kernel
theorem d_Re_combine_38 : decode y_Re_combine.2.1 38 = .ok (.iload 5, 2) := by decide +kernel
theorem d_Re_combine_40 : decode y_Re_combine.2.1 40 = .ok (.aaload, 1) := by decide +kernel
theorem d_Re_combine_41 : decode y_Re_combine.2.1 41 = .ok (.iload_n 2, 1) := by decide +kernel
theorem d_Re_combine_85 : decode y_Re_combine.2.1 85 = .ok (.invokevirtual 79, 3) := by decide +kernel
theorem d_Re_combine_88 : decode y_Re_combine.2.1 88 = .ok (.return_, 1) := by decide +kernel
theorem d_Re_combine_42 : decode y_Re_combine.2.1 42 = .ok (.invokevirtual 71, 3) := by decide +kernel
theorem d_Re_combine_45 : decode y_Re_combine.2.1 45 = .ok (.i2l, 1) := by decide +kernel
theorem d_Re_combine_46 : decode y_Re_combine.2.1 46 = .ok (.lsub, 1) := by decide +kernel
theorem d_Re_combine_47 : decode y_Re_combine.2.1 47 = .ok (.lstore 6, 2) := by decide +kernel
theorem d_Re_combine_49 : decode y_Re_combine.2.1 49 = .ok (.aload_n 0, 1) := by decide +kernel
theorem d_Re_combine_50 : decode y_Re_combine.2.1 50 = .ok (.getfield 17, 3) := by decide +kernel
theorem d_Re_combine_53 : decode y_Re_combine.2.1 53 = .ok (.iload 5, 2) := by decide +kernel
theorem d_Re_combine_55 : decode y_Re_combine.2.1 55 = .ok (.aaload, 1) := by decide +kernel
theorem d_Re_combine_56 : decode y_Re_combine.2.1 56 = .ok (.aload_n 0, 1) := by decide +kernel
theorem d_Re_combine_57 : decode y_Re_combine.2.1 57 = .ok (.getfield 34, 3) := by decide +kernel
theorem d_Re_combine_60 : decode y_Re_combine.2.1 60 = .ok (.lload 6, 2) := by decide +kernel
theorem d_Re_combine_62 : decode y_Re_combine.2.1 62 = .ok (.iload_n 2, 1) := by decide +kernel
theorem d_Re_combine_63 : decode y_Re_combine.2.1 63 = .ok (.i2l, 1) := by decide +kernel
theorem d_Re_combine_64 : decode y_Re_combine.2.1 64 = .ok (.lrem, 1) := by decide +kernel
theorem d_Re_combine_65 : decode y_Re_combine.2.1 65 = .ok (.lload_n 3, 1) := by decide +kernel
theorem d_Re_combine_66 : decode y_Re_combine.2.1 66 = .ok (.lmul, 1) := by decide +kernel
theorem d_Re_combine_67 : decode y_Re_combine.2.1 67 = .ok (.iload_n 2, 1) := by decide +kernel
theorem d_Re_combine_68 : decode y_Re_combine.2.1 68 = .ok (.i2l, 1) := by decide +kernel
theorem d_Re_combine_69 : decode y_Re_combine.2.1 69 = .ok (.lrem, 1) := by decide +kernel
theorem d_Re_combine_70 : decode y_Re_combine.2.1 70 = .ok (.l2i, 1) := by decide +kernel
theorem d_Re_combine_71 : decode y_Re_combine.2.1 71 = .ok (.invokevirtual 75, 3) := by decide +kernel
theorem d_Re_combine_74 : decode y_Re_combine.2.1 74 = .ok (.iinc 5 1, 3) := by decide +kernel
theorem d_Re_combine_77 : decode y_Re_combine.2.1 77 = .ok (.goto (-60), 3) := by decide +kernel
def h_Re_combine_17 (G : mG) (d : Nat) (a0 : Nat) (l1 : Int) (l2 : Int) (j3 : Int) (l5 : Int) (M : mM) (Q : mM → Prop) : Prop := mWm G y_Re_combine (d + 1) 17 [vr a0, vi l1, vi l2, vl j3, vd, vi l5, vd, vd] [] M (fun r9 M9 => r9 = none ∧ Q M9)
theorem k_Re_combine {G : mG} {d : Nat} {a0 : Nat} {l1 : Int} {l2 : Int} {M : mM} {Q : mM → Prop} (hO : mOk M) (hi_l1 : i32 l1) (hi_l2 : i32 l2)
    (h : mK M a0 = 12 ∧ mK M (mR M a0 6) = 10 ∧ Ci G y_Na_modulo d [vr (mR M a0 6), vi l2] M (fun x4 M3 => i32 x4 ∧ mOk M3 ∧ (Ci G y_Re_inverse d [vi x4, vi l2] M3 (fun x7 M6 => i32 x7 ∧ mOk M6 ∧ (h_Re_combine_17 G d a0 l1 l2 x7 0 M6 Q))))) :
    Cv G y_Re_combine (d + 1) [vr a0, vi l1, vi l2] M Q := by
  refine wm_open (y := y_Re_combine) rfl (Nat.le_of_ble_eq_true rfl) (L := [vr a0, vi l1, vi l2, vd, vd, vd, vd, vd]) rfl ?_
  obtain ⟨h1, h⟩ := h
  obtain ⟨h2, h⟩ := h
  refine wm_aload_n d_Re_combine_0 rfl rfl ?_
  refine gf_Re_34 rfl d_Re_combine_1 h1 ?_
  refine wm_iload_n d_Re_combine_4 rfl rfl ?_
  refine cf_Re_71 rfl d_Re_combine_5 h2 (Nat.le_of_ble_eq_true rfl) (Ci.mono h (fun x4 M3 h => ?_))
  obtain ⟨h5, hOM3, h⟩ := h
  refine wm_iload_n d_Re_combine_8 rfl rfl ?_
  refine cf_Re_63 rfl d_Re_combine_9 (Nat.le_of_ble_eq_true rfl) (Ci.mono h (fun x7 M6 h => ?_))
  obtain ⟨h8, hOM6, h⟩ := h
  refine wm_i2l d_Re_combine_12 h8 ?_
  refine wm_lstore_n d_Re_combine_13 rfl (by decide) (L' := [vr a0, vi l1, vi l2, vl x7, vd, vd, vd, vd]) rfl ?_
  refine wm_iconst d_Re_combine_14 ?_
  refine wm_istore d_Re_combine_15 (by decide) (L' := [vr a0, vi l1, vi l2, vl x7, vd, vi 0, vd, vd]) rfl ?_
  exact h
theorem k_Re_combine_17 {G : mG} {d : Nat} {a0 : Nat} {l1 : Int} {l2 : Int} {j3 : Int} {l5 : Int} {M : mM} {Q : mM → Prop} (hO : mOk M) (hi_l1 : i32 l1) (hi_l2 : i32 l2) (hi_j3 : i64 j3) (hi_l5 : i32 l5)
    (h : ((l1 < l5) → (mK M a0 = 12 ∧ mK M (mR M a0 6) = 10 ∧ Cv G y_Na_multiply d [vr (mR M a0 6), vi l2] M (fun M13 => mOk M13 ∧ (Q M13)))) ∧ (¬ (l1 < l5) → (mK M a0 = 12 ∧ mK M (mR M a0 5) = 30 ∧ ((0 : Int) ≤ l5 ∧ l5 < (mN M (mR M a0 5) : Int)) ∧ mK M (mR M a0 1) = 34 ∧ ((0 : Int) ≤ l5 ∧ l5 < (mN M (mR M a0 1) : Int)) ∧ mK M (mR M (mR M a0 1) (Int.toNat l5)) = 10 ∧ Ci G y_Na_modulo d [vr (mR M (mR M a0 1) (Int.toNat l5)), vi l2] M (fun x23 M22 => i32 x23 ∧ mOk M22 ∧ (mK M22 a0 = 12 ∧ mK M22 (mR M22 a0 1) = 34 ∧ ((0 : Int) ≤ l5 ∧ l5 < (mN M22 (mR M22 a0 1) : Int)) ∧ i64 (((mI M (mR M a0 5) (Int.toNat l5)) + l2) - x23) ∧ l2 ≠ 0 ∧ i64 ((Int.tmod (((mI M (mR M a0 5) (Int.toNat l5)) + l2) - x23) l2) * j3) ∧ l2 ≠ 0 ∧ mK M22 (mR M22 (mR M22 a0 1) (Int.toNat l5)) = 10 ∧ Cv G y_Na_add d [vr (mR M22 (mR M22 a0 1) (Int.toNat l5)), vr (mR M22 a0 6), vi (Int.tmod ((Int.tmod (((mI M (mR M a0 5) (Int.toNat l5)) + l2) - x23) l2) * j3) l2)] M22 (fun M33 => mOk M33 ∧ (h_Re_combine_17 G d a0 l1 l2 j3 (l5 + 1) M33 Q))))))) :
    h_Re_combine_17 G d a0 l1 l2 j3 l5 M Q := by
  unfold h_Re_combine_17
  refine wm_iload d_Re_combine_17 rfl ?_
  refine wm_iload_n d_Re_combine_19 rfl rfl ?_
  refine wm_icmp_gt (tgt := 80) d_Re_combine_20 rfl hi_l5 hi_l1 (fun c10 => ?_) (fun c10 => ?_)
  · replace h := h.1 c10
    obtain ⟨h11, h⟩ := h
    obtain ⟨h12, h⟩ := h
    refine wm_aload_n d_Re_combine_80 rfl rfl ?_
    refine gf_Re_34 rfl d_Re_combine_81 h11 ?_
    refine wm_iload_n d_Re_combine_84 rfl rfl ?_
    refine cf_Re_79 rfl d_Re_combine_85 h12 (Nat.le_of_ble_eq_true rfl) (Cv.mono h (fun M13 h => ?_))
    obtain ⟨hOM13, h⟩ := h
    refine wm_return d_Re_combine_88 rfl ?_
    exact ⟨rfl, h⟩
  · replace h := h.2 c10
    obtain ⟨h16, h⟩ := h
    obtain ⟨h17, h⟩ := h
    obtain ⟨h18, h⟩ := h
    obtain ⟨h19, h⟩ := h
    obtain ⟨h20, h⟩ := h
    obtain ⟨h21, h⟩ := h
    refine wm_aload_n d_Re_combine_23 rfl rfl ?_
    refine gf_Re_30 rfl d_Re_combine_24 h16 ?_
    refine wm_iload d_Re_combine_27 rfl ?_
    refine wm_iald d_Re_combine_29 h17 h18 ?_
    refine wm_i2l d_Re_combine_30 (hO _ _).1 ?_
    refine wm_iload_n d_Re_combine_31 rfl rfl ?_
    refine wm_i2l d_Re_combine_32 hi_l2 ?_
    refine wm_ladd d_Re_combine_33 ?_
    refine wm_aload_n d_Re_combine_34 rfl rfl ?_
    refine gf_Re_17 rfl d_Re_combine_35 h16 ?_
    refine wm_iload d_Re_combine_38 rfl ?_
    refine wm_aald4 d_Re_combine_40 h19 h20 ?_
    refine wm_iload_n d_Re_combine_41 rfl rfl ?_
    refine cf_Re_71 rfl d_Re_combine_42 h21 (Nat.le_of_ble_eq_true rfl) (Ci.mono h (fun x23 M22 h => ?_))
    obtain ⟨h24, hOM22, h⟩ := h
    obtain ⟨h25, h⟩ := h
    obtain ⟨h26, h⟩ := h
    obtain ⟨h27, h⟩ := h
    obtain ⟨h28, h⟩ := h
    obtain ⟨h29, h⟩ := h
    obtain ⟨h30, h⟩ := h
    obtain ⟨h31, h⟩ := h
    obtain ⟨h32, h⟩ := h
    refine wm_i2l d_Re_combine_45 h24 ?_
    refine wm_lsub d_Re_combine_46 ?_
    refine wm_lstore d_Re_combine_47 (by decide) (L' := [vr a0, vi l1, vi l2, vl j3, vd, vi l5, vl (((mI M (mR M a0 5) (Int.toNat l5)) + l2) - x23), vd]) rfl ?_
    refine wm_aload_n d_Re_combine_49 rfl rfl ?_
    refine gf_Re_17 rfl d_Re_combine_50 h25 ?_
    refine wm_iload d_Re_combine_53 rfl ?_
    refine wm_aald4 d_Re_combine_55 h26 h27 ?_
    refine wm_aload_n d_Re_combine_56 rfl rfl ?_
    refine gf_Re_34 rfl d_Re_combine_57 h25 ?_
    refine wm_lload d_Re_combine_60 rfl ?_
    refine wm_iload_n d_Re_combine_62 rfl rfl ?_
    refine wm_i2l d_Re_combine_63 hi_l2 ?_
    refine wm_lrem d_Re_combine_64 h28 (i64_of32 hi_l2) h29 ?_
    refine wm_lload_n d_Re_combine_65 rfl rfl ?_
    refine wm_lmul d_Re_combine_66 ?_
    refine wm_iload_n d_Re_combine_67 rfl rfl ?_
    refine wm_i2l d_Re_combine_68 hi_l2 ?_
    refine wm_lrem d_Re_combine_69 h30 (i64_of32 hi_l2) h31 ?_
    refine wm_l2i d_Re_combine_70 ?_
    refine cf_Re_75 rfl d_Re_combine_71 h32 (Nat.le_of_ble_eq_true rfl) (Cv.mono h (fun M33 h => ?_))
    obtain ⟨hOM33, h⟩ := h
    refine wm_iinc d_Re_combine_74 (by decide) rfl (L' := [vr a0, vi l1, vi l2, vl j3, vd, vi (l5 + 1), vl (((mI M (mR M a0 5) (Int.toNat l5)) + l2) - x23), vd]) rfl ?_
    refine wm_goto (tgt := 17) d_Re_combine_77 rfl ?_
    refine wm_less (L' := [vr a0, vi l1, vi l2, vl j3, vd, vi (l5 + 1), vd, vd]) ⟨Or.inr rfl, Or.inr rfl, Or.inr rfl, Or.inr rfl, Or.inl rfl, Or.inr rfl, Or.inl rfl, Or.inl rfl, trivial⟩ ?_
    exact h
theorem d_Re_inverse_0 : decode y_Re_inverse.2.1 0 = .ok (.iload_n 0, 1) := by decide +kernel
theorem d_Re_inverse_1 : decode y_Re_inverse.2.1 1 = .ok (.i2l, 1) := by decide +kernel
theorem d_Re_inverse_2 : decode y_Re_inverse.2.1 2 = .ok (.lstore_n 2, 1) := by decide +kernel
theorem d_Re_inverse_3 : decode y_Re_inverse.2.1 3 = .ok (.iload_n 1, 1) := by decide +kernel
theorem d_Re_inverse_4 : decode y_Re_inverse.2.1 4 = .ok (.i2l, 1) := by decide +kernel
theorem d_Re_inverse_5 : decode y_Re_inverse.2.1 5 = .ok (.lstore 4, 2) := by decide +kernel
theorem d_Re_inverse_7 : decode y_Re_inverse.2.1 7 = .ok (.lconst 1, 1) := by decide +kernel
theorem d_Re_inverse_8 : decode y_Re_inverse.2.1 8 = .ok (.lstore 6, 2) := by decide +kernel
theorem d_Re_inverse_10 : decode y_Re_inverse.2.1 10 = .ok (.lconst 0, 1) := by decide +kernel
theorem d_Re_inverse_11 : decode y_Re_inverse.2.1 11 = .ok (.lstore 8, 2) := by decide +kernel
theorem d_Re_inverse_13 : decode y_Re_inverse.2.1 13 = .ok (.iconst 0, 1) := by decide +kernel
theorem d_Re_inverse_14 : decode y_Re_inverse.2.1 14 = .ok (.istore 10, 2) := by decide +kernel
theorem d_Re_inverse_16 : decode y_Re_inverse.2.1 16 = .ok (.iload 10, 2) := by decide +kernel
theorem d_Re_inverse_18 : decode y_Re_inverse.2.1 18 = .ok (.bipush 100, 2) := by decide +kernel
theorem d_Re_inverse_20 : decode y_Re_inverse.2.1 20 = .ok (.if_icmp .ge 56, 3) := by decide +kernel
theorem d_Re_inverse_23 : decode y_Re_inverse.2.1 23 = .ok (.lload 4, 2) := by decide +kernel
theorem d_Re_inverse_25 : decode y_Re_inverse.2.1 25 = .ok (.lconst 0, 1) := by decide +kernel
theorem d_Re_inverse_26 : decode y_Re_inverse.2.1 26 = .ok (.lcmp, 1) := by decide +kernel
theorem d_Re_inverse_27 : decode y_Re_inverse.2.1 27 = .ok (.ifCond .eq 49, 3) := by decide +kernel
theorem d_Re_inverse_30 : decode y_Re_inverse.2.1 30 = .ok (.lload_n 2, 1) := by decide +kernel
theorem d_Re_inverse_31 : decode y_Re_inverse.2.1 31 = .ok (.lload 4, 2) := by decide +kernel
theorem d_Re_inverse_33 : decode y_Re_inverse.2.1 33 = .ok (.ldiv, 1) := by decide +kernel
theorem d_Re_inverse_34 : decode y_Re_inverse.2.1 34 = .ok (.lstore 11, 2) := by decide +kernel
theorem d_Re_inverse_36 : decode y_Re_inverse.2.1 36 = .ok (.lload_n 2, 1) := by decide +kernel
theorem d_Re_inverse_37 : decode y_Re_inverse.2.1 37 = .ok (.lload 11, 2) := by decide +kernel
theorem d_Re_inverse_39 : decode y_Re_inverse.2.1 39 = .ok (.lload 4, 2) := by decide +kernel
theorem d_Re_inverse_41 : decode y_Re_inverse.2.1 41 = .ok (.lmul, 1) := by decide +kernel
theorem d_Re_inverse_42 : decode y_Re_inverse.2.1 42 = .ok (.lsub, 1) := by decide +kernel
theorem d_Re_inverse_43 : decode y_Re_inverse.2.1 43 = .ok (.lstore 13, 2) := by decide +kernel
theorem d_Re_inverse_45 : decode y_Re_inverse.2.1 45 = .ok (.lload 6, 2) := by decide +kernel
theorem d_Re_inverse_47 : decode y_Re_inverse.2.1 47 = .ok (.lload 11, 2) := by decide +kernel
theorem d_Re_inverse_49 : decode y_Re_inverse.2.1 49 = .ok (.lload 8, 2) := by decide +kernel
theorem d_Re_inverse_51 : decode y_Re_inverse.2.1 51 = .ok (.lmul, 1) := by decide +kernel
theorem d_Re_inverse_52 : decode y_Re_inverse.2.1 52 = .ok (.lsub, 1) := by decide +kernel
theorem d_Re_inverse_53 : decode y_Re_inverse.2.1 53 = .ok (.lstore 15, 2) := by decide +kernel
theorem d_Re_inverse_55 : decode y_Re_inverse.2.1 55 = .ok (.lload 4, 2) := by decide +kernel
theorem d_Re_inverse_57 : decode y_Re_inverse.2.1 57 = .ok (.lstore_n 2, 1) := by decide +kernel
theorem d_Re_inverse_58 : decode y_Re_inverse.2.1 58 = .ok (.lload 13, 2) := by decide +kernel
theorem d_Re_inverse_60 : decode y_Re_inverse.2.1 60 = .ok (.lstore 4, 2) := by decide +kernel
theorem d_Re_inverse_62 : decode y_Re_inverse.2.1 62 = .ok (.lload 8, 2) := by decide +kernel
theorem d_Re_inverse_64 : decode y_Re_inverse.2.1 64 = .ok (.lstore 6, 2) := by decide +kernel
theorem d_Re_inverse_66 : decode y_Re_inverse.2.1 66 = .ok (.lload 15, 2) := by decide +kernel
theorem d_Re_inverse_68 : decode y_Re_inverse.2.1 68 = .ok (.lstore 8, 2) := by decide +kernel
theorem d_Re_inverse_70 : decode y_Re_inverse.2.1 70 = .ok (.iinc 10 1, 3) := by decide +kernel
theorem d_Re_inverse_73 : decode y_Re_inverse.2.1 73 = .ok (.goto (-57), 3) := by decide +kernel
theorem d_Re_inverse_76 : decode y_Re_inverse.2.1 76 = .ok (.lload 6, 2) := by decide +kernel
theorem d_Re_inverse_78 : decode y_Re_inverse.2.1 78 = .ok (.lconst 0, 1) := by decide +kernel
theorem d_Re_inverse_79 : decode y_Re_inverse.2.1 79 = .ok (.lcmp, 1) := by decide +kernel
theorem d_Re_inverse_80 : decode y_Re_inverse.2.1 80 = .ok (.ifCond .ge 11, 3) := by decide +kernel
theorem d_Re_inverse_91 : decode y_Re_inverse.2.1 91 = .ok (.lload 6, 2) := by decide +kernel
theorem d_Re_inverse_83 : decode y_Re_inverse.2.1 83 = .ok (.lload 6, 2) := by decide +kernel
theorem d_Re_inverse_85 : decode y_Re_inverse.2.1 85 = .ok (.iload_n 1, 1) := by decide +kernel
theorem d_Re_inverse_86 : decode y_Re_inverse.2.1 86 = .ok (.i2l, 1) := by decide +kernel
theorem d_Re_inverse_87 : decode y_Re_inverse.2.1 87 = .ok (.ladd, 1) := by decide +kernel
theorem d_Re_inverse_88 : decode y_Re_inverse.2.1 88 = .ok (.goto 5, 3) := by decide +kernel
theorem d_Re_inverse_93 : decode y_Re_inverse.2.1 93 = .ok (.l2i, 1) := by decide +kernel
theorem d_Re_inverse_94 : decode y_Re_inverse.2.1 94 = .ok (.ireturn, 1) := by decide +kernel
def h_Re_inverse_16 (G : mG) (d : Nat) (l1 : Int) (j2 : Int) (j4 : Int) (j6 : Int) (j8 : Int) (l10 : Int) (M : mM) (Q : Int → mM → Prop) : Prop := mWm G y_Re_inverse d 16 [vd, vi l1, vl j2, vd, vl j4, vd, vl j6, vd, vl j8, vd, vi l10, vd, vd, vd, vd, vd, vd] [] M (fun r9 M9 => ∃ x9, r9 = some (vi x9) ∧ Q x9 M9)
theorem k_Re_inverse {G : mG} {d : Nat} {l0 : Int} {l1 : Int} {M : mM} {Q : Int → mM → Prop} (hO : mOk M) (hi_l0 : i32 l0) (hi_l1 : i32 l1)
    (h : h_Re_inverse_16 G d l1 l0 l1 1 0 0 M Q) :
    Ci G y_Re_inverse d [vi l0, vi l1] M Q := by
  refine wm_open (y := y_Re_inverse) rfl (Nat.le_of_ble_eq_true rfl) (L := [vi l0, vi l1, vd, vd, vd, vd, vd, vd, vd, vd, vd, vd, vd, vd, vd, vd, vd]) rfl ?_
  refine wm_iload_n d_Re_inverse_0 rfl rfl ?_
  refine wm_i2l d_Re_inverse_1 hi_l0 ?_
  refine wm_lstore_n d_Re_inverse_2 rfl (by decide) (L' := [vi l0, vi l1, vl l0, vd, vd, vd, vd, vd, vd, vd, vd, vd, vd, vd, vd, vd, vd]) rfl ?_
  refine wm_iload_n d_Re_inverse_3 rfl rfl ?_
  refine wm_i2l d_Re_inverse_4 hi_l1 ?_
  refine wm_lstore d_Re_inverse_5 (by decide) (L' := [vi l0, vi l1, vl l0, vd, vl l1, vd, vd, vd, vd, vd, vd, vd, vd, vd, vd, vd, vd]) rfl ?_
  refine wm_lconst (x := 1) d_Re_inverse_7 rfl ?_
  refine wm_lstore d_Re_inverse_8 (by decide) (L' := [vi l0, vi l1, vl l0, vd, vl l1, vd, vl 1, vd, vd, vd, vd, vd, vd, vd, vd, vd, vd]) rfl ?_
  refine wm_lconst (x := 0) d_Re_inverse_10 rfl ?_
  refine wm_lstore d_Re_inverse_11 (by decide) (L' := [vi l0, vi l1, vl l0, vd, vl l1, vd, vl 1, vd, vl 0, vd, vd, vd, vd, vd, vd, vd, vd]) rfl ?_
  refine wm_iconst d_Re_inverse_13 ?_
  refine wm_istore d_Re_inverse_14 (by decide) (L' := [vi l0, vi l1, vl l0, vd, vl l1, vd, vl 1, vd, vl 0, vd, vi 0, vd, vd, vd, vd, vd, vd]) rfl ?_
  refine wm_less (L' := [vd, vi l1, vl l0, vd, vl l1, vd, vl 1, vd, vl 0, vd, vi 0, vd, vd, vd, vd, vd, vd]) ⟨Or.inl rfl, Or.inr rfl, Or.inr rfl, Or.inl rfl, Or.inr rfl, Or.inl rfl, Or.inr rfl, Or.inl rfl, Or.inr rfl, Or.inl rfl, Or.inr rfl, Or.inl rfl, Or.inl rfl, Or.inl rfl, Or.inl rfl, Or.inl rfl, Or.inl rfl, trivial⟩ ?_
  exact h
theorem k_Re_inverse_16 {G : mG} {d : Nat} {l1 : Int} {j2 : Int} {j4 : Int} {j6 : Int} {j8 : Int} {l10 : Int} {M : mM} {Q : Int → mM → Prop} (hO : mOk M) (hi_l1 : i32 l1) (hi_j2 : i64 j2) (hi_j4 : i64 j4) (hi_j6 : i64 j6) (hi_j8 : i64 j8) (hi_l10 : i32 l10)
    (h : (((100 ≤ l10) ∨ (cmpL j4 0 = 0)) → (∀ v7 : Int, v7 = (if (0 ≤ cmpL j6 0) then j6 else j6 + l1) → Q v7 M)) ∧ (¬ ((100 ≤ l10) ∨ (cmpL j4 0 = 0)) → (j4 ≠ 0 ∧ h_Re_inverse_16 G d l1 j4 (j2 - ((Int.tdiv j2 j4) * j4)) j8 (j6 - ((Int.tdiv j2 j4) * j8)) (l10 + 1) M Q))) :
    h_Re_inverse_16 G d l1 j2 j4 j6 j8 l10 M Q := by
  unfold h_Re_inverse_16
  refine wm_iload d_Re_inverse_16 rfl ?_
  refine wm_bipush d_Re_inverse_18 (by decide) ?_
  have hE0 : ((100 ≤ l10) ∨ (cmpL j4 0 = 0)) → mWm G y_Re_inverse d 76 [vd, vi l1, vl j2, vd, vl j4, vd, vl j6, vd, vl j8, vd, vi l10, vd, vd, vd, vd, vd, vd] [] M (fun r9 M9 => ∃ x9, r9 = some (vi x9) ∧ Q x9 M9) := by
    intro q5
    have h := h.1 q5
    refine wm_lload d_Re_inverse_76 rfl ?_
    refine wm_lconst (x := 0) d_Re_inverse_78 rfl ?_
    refine wm_lcmp d_Re_inverse_79 hi_j6 ⟨by decide, by decide⟩ ?_
    have hJ : ∀ v7 : Int, v7 = (if (0 ≤ cmpL j6 0) then j6 else j6 + l1) → mWm G y_Re_inverse d 93 [vd, vd, vd, vd, vd, vd, vd, vd, vd, vd, vd, vd, vd, vd, vd, vd, vd] [vl v7] M (fun r9 M9 => ∃ x9, r9 = some (vi x9) ∧ Q x9 M9) := by
      intro v7 e9
      have h := h v7 e9
      refine wm_l2i d_Re_inverse_93 ?_
      refine wm_ireturn d_Re_inverse_94 rfl rfl ?_
      exact ⟨_, rfl, h⟩
    clear h
    refine wm_if_ge (tgt := 91) d_Re_inverse_80 rfl (m_cmp32 _ _) (fun c6 => ?_) (fun c6 => ?_)
    · refine wm_lload d_Re_inverse_91 rfl ?_
      refine wm_less (L' := [vd, vd, vd, vd, vd, vd, vd, vd, vd, vd, vd, vd, vd, vd, vd, vd, vd]) ⟨Or.inl rfl, Or.inl rfl, Or.inl rfl, Or.inl rfl, Or.inl rfl, Or.inl rfl, Or.inl rfl, Or.inl rfl, Or.inl rfl, Or.inl rfl, Or.inl rfl, Or.inl rfl, Or.inl rfl, Or.inl rfl, Or.inl rfl, Or.inl rfl, Or.inl rfl, trivial⟩ ?_
      exact hJ j6 (if_pos c6).symm
    · refine wm_lload d_Re_inverse_83 rfl ?_
      refine wm_iload_n d_Re_inverse_85 rfl rfl ?_
      refine wm_i2l d_Re_inverse_86 hi_l1 ?_
      refine wm_ladd d_Re_inverse_87 ?_
      refine wm_goto (tgt := 93) d_Re_inverse_88 rfl ?_
      refine wm_less (L' := [vd, vd, vd, vd, vd, vd, vd, vd, vd, vd, vd, vd, vd, vd, vd, vd, vd]) ⟨Or.inl rfl, Or.inl rfl, Or.inl rfl, Or.inl rfl, Or.inl rfl, Or.inl rfl, Or.inl rfl, Or.inl rfl, Or.inl rfl, Or.inl rfl, Or.inl rfl, Or.inl rfl, Or.inl rfl, Or.inl rfl, Or.inl rfl, Or.inl rfl, Or.inl rfl, trivial⟩ ?_
      exact hJ (j6 + l1) (if_neg c6).symm
  have hE1 : ¬ ((100 ≤ l10) ∨ (cmpL j4 0 = 0)) → mWm G y_Re_inverse d 30 [vd, vi l1, vl j2, vd, vl j4, vd, vl j6, vd, vl j8, vd, vi l10, vd, vd, vd, vd, vd, vd] [] M (fun r9 M9 => ∃ x9, r9 = some (vi x9) ∧ Q x9 M9) := by
    intro q11
    have h := h.2 q11
    obtain ⟨h12, h⟩ := h
    refine wm_lload_n d_Re_inverse_30 rfl rfl ?_
    refine wm_lload d_Re_inverse_31 rfl ?_
    refine wm_ldiv d_Re_inverse_33 hi_j2 hi_j4 h12 ?_
    refine wm_lstore d_Re_inverse_34 (by decide) (L' := [vd, vi l1, vl j2, vd, vl j4, vd, vl j6, vd, vl j8, vd, vi l10, vl (Int.tdiv j2 j4), vd, vd, vd, vd, vd]) rfl ?_
    refine wm_lload_n d_Re_inverse_36 rfl rfl ?_
    refine wm_lload d_Re_inverse_37 rfl ?_
    refine wm_lload d_Re_inverse_39 rfl ?_
    refine wm_lmul d_Re_inverse_41 ?_
    refine wm_lsub d_Re_inverse_42 ?_
    refine wm_lstore d_Re_inverse_43 (by decide) (L' := [vd, vi l1, vl j2, vd, vl j4, vd, vl j6, vd, vl j8, vd, vi l10, vl (Int.tdiv j2 j4), vd, vl (j2 - ((Int.tdiv j2 j4) * j4)), vd, vd, vd]) rfl ?_
    refine wm_lload d_Re_inverse_45 rfl ?_
    refine wm_lload d_Re_inverse_47 rfl ?_
    refine wm_lload d_Re_inverse_49 rfl ?_
    refine wm_lmul d_Re_inverse_51 ?_
    refine wm_lsub d_Re_inverse_52 ?_
    refine wm_lstore d_Re_inverse_53 (by decide) (L' := [vd, vi l1, vl j2, vd, vl j4, vd, vl j6, vd, vl j8, vd, vi l10, vl (Int.tdiv j2 j4), vd, vl (j2 - ((Int.tdiv j2 j4) * j4)), vd, vl (j6 - ((Int.tdiv j2 j4) * j8)), vd]) rfl ?_
    refine wm_lload d_Re_inverse_55 rfl ?_
    refine wm_lstore_n d_Re_inverse_57 rfl (by decide) (L' := [vd, vi l1, vl j4, vd, vl j4, vd, vl j6, vd, vl j8, vd, vi l10, vl (Int.tdiv j2 j4), vd, vl (j2 - ((Int.tdiv j2 j4) * j4)), vd, vl (j6 - ((Int.tdiv j2 j4) * j8)), vd]) rfl ?_
    refine wm_lload d_Re_inverse_58 rfl ?_
    refine wm_lstore d_Re_inverse_60 (by decide) (L' := [vd, vi l1, vl j4, vd, vl (j2 - ((Int.tdiv j2 j4) * j4)), vd, vl j6, vd, vl j8, vd, vi l10, vl (Int.tdiv j2 j4), vd, vl (j2 - ((Int.tdiv j2 j4) * j4)), vd, vl (j6 - ((Int.tdiv j2 j4) * j8)), vd]) rfl ?_
    refine wm_lload d_Re_inverse_62 rfl ?_
    refine wm_lstore d_Re_inverse_64 (by decide) (L' := [vd, vi l1, vl j4, vd, vl (j2 - ((Int.tdiv j2 j4) * j4)), vd, vl j8, vd, vl j8, vd, vi l10, vl (Int.tdiv j2 j4), vd, vl (j2 - ((Int.tdiv j2 j4) * j4)), vd, vl (j6 - ((Int.tdiv j2 j4) * j8)), vd]) rfl ?_
    refine wm_lload d_Re_inverse_66 rfl ?_
    refine wm_lstore d_Re_inverse_68 (by decide) (L' := [vd, vi l1, vl j4, vd, vl (j2 - ((Int.tdiv j2 j4) * j4)), vd, vl j8, vd, vl (j6 - ((Int.tdiv j2 j4) * j8)), vd, vi l10, vl (Int.tdiv j2 j4), vd, vl (j2 - ((Int.tdiv j2 j4) * j4)), vd, vl (j6 - ((Int.tdiv j2 j4) * j8)), vd]) rfl ?_
    refine wm_iinc d_Re_inverse_70 (by decide) rfl (L' := [vd, vi l1, vl j4, vd, vl (j2 - ((Int.tdiv j2 j4) * j4)), vd, vl j8, vd, vl (j6 - ((Int.tdiv j2 j4) * j8)), vd, vi (l10 + 1), vl (Int.tdiv j2 j4), vd, vl (j2 - ((Int.tdiv j2 j4) * j4)), vd, vl (j6 - ((Int.tdiv j2 j4) * j8)), vd]) rfl ?_
    refine wm_goto (tgt := 16) d_Re_inverse_73 rfl ?_
    refine wm_less (L' := [vd, vi l1, vl j4, vd, vl (j2 - ((Int.tdiv j2 j4) * j4)), vd, vl j8, vd, vl (j6 - ((Int.tdiv j2 j4) * j8)), vd, vi (l10 + 1), vd, vd, vd, vd, vd, vd]) ⟨Or.inl rfl, Or.inr rfl, Or.inr rfl, Or.inl rfl, Or.inr rfl, Or.inl rfl, Or.inr rfl, Or.inl rfl, Or.inr rfl, Or.inl rfl, Or.inr rfl, Or.inl rfl, Or.inl rfl, Or.inl rfl, Or.inl rfl, Or.inl rfl, Or.inl rfl, trivial⟩ ?_
    exact h
  clear h
  refine wm_icmp_ge (tgt := 76) d_Re_inverse_20 rfl hi_l10 ⟨by decide, by decide⟩ (fun c3 => ?_) (fun c3 => ?_)
  · exact hE0 (Or.inl c3)
  · refine wm_lload d_Re_inverse_23 rfl ?_
    refine wm_lconst (x := 0) d_Re_inverse_25 rfl ?_
    refine wm_lcmp d_Re_inverse_26 hi_j4 ⟨by decide, by decide⟩ ?_
    refine wm_if_eq (tgt := 76) d_Re_inverse_27 rfl (m_cmp32 _ _) (fun c2 => ?_) (fun c2 => ?_)
    · exact hE0 (Or.inr c2)
    · exact hE1 (fun z13 => Or.elim z13 c3 c2)
theorem d_RR_init_0 : decode y_RR_init.2.1 0 = .ok (.aload_n 0, 1) := by decide +kernel
theorem d_RR_init_1 : decode y_RR_init.2.1 1 = .ok (.invokespecial 3, 3) := by decide +kernel
theorem d_RR_init_4 : decode y_RR_init.2.1 4 = .ok (.aload_n 0, 1) := by decide +kernel
theorem d_RR_init_5 : decode y_RR_init.2.1 5 = .ok (.sipush 336, 3) := by decide +kernel
theorem d_RR_init_8 : decode y_RR_init.2.1 8 = .ok (.newarray .int, 2) := by decide +kernel
theorem d_RR_init_10 : decode y_RR_init.2.1 10 = .ok (.putfield 11, 3) := by decide +kernel
theorem d_RR_init_13 : decode y_RR_init.2.1 13 = .ok (.aload_n 0, 1) := by decide +kernel
theorem d_RR_init_14 : decode y_RR_init.2.1 14 = .ok (.sipush 336, 3) := by decide +kernel
theorem d_RR_init_17 : decode y_RR_init.2.1 17 = .ok (.newarray .int, 2) := by decide +kernel
theorem d_RR_init_19 : decode y_RR_init.2.1 19 = .ok (.putfield 15, 3) := by decide +kernel
theorem d_RR_init_22 : decode y_RR_init.2.1 22 = .ok (.aload_n 0, 1) := by decide +kernel
theorem d_RR_init_23 : decode y_RR_init.2.1 23 = .ok (.sipush 336, 3) := by decide +kernel
theorem d_RR_init_26 : decode y_RR_init.2.1 26 = .ok (.newarray .int, 2) := by decide +kernel
theorem d_RR_init_28 : decode y_RR_init.2.1 28 = .ok (.putfield 18, 3) := by decide +kernel
theorem d_RR_init_31 : decode y_RR_init.2.1 31 = .ok (.aload_n 0, 1) := by decide +kernel
theorem d_RR_init_32 : decode y_RR_init.2.1 32 = .ok (.sipush 336, 3) := by decide +kernel
theorem d_RR_init_35 : decode y_RR_init.2.1 35 = .ok (.newarray .int, 2) := by decide +kernel
theorem d_RR_init_37 : decode y_RR_init.2.1 37 = .ok (.putfield 21, 3) := by decide +kernel
theorem d_RR_init_40 : decode y_RR_init.2.1 40 = .ok (.aload_n 0, 1) := by decide +kernel
theorem d_RR_init_41 : decode y_RR_init.2.1 41 = .ok (.sipush 336, 3) := by decide +kernel
theorem d_RR_init_44 : decode y_RR_init.2.1 44 = .ok (.newarray .boolean, 2) := by decide +kernel
theorem d_RR_init_46 : decode y_RR_init.2.1 46 = .ok (.putfield 24, 3) := by decide +kernel
theorem d_RR_init_49 : decode y_RR_init.2.1 49 = .ok (.aload_n 0, 1) := by decide +kernel
theorem d_RR_init_50 : decode y_RR_init.2.1 50 = .ok (.bipush 72, 2) := by decide +kernel
theorem d_RR_init_52 : decode y_RR_init.2.1 52 = .ok (.newarray .int, 2) := by decide +kernel
theorem d_RR_init_54 : decode y_RR_init.2.1 54 = .ok (.putfield 28, 3) := by decide +kernel
theorem d_RR_init_57 : decode y_RR_init.2.1 57 = .ok (.aload_n 0, 1) := by decide +kernel
theorem d_RR_init_58 : decode y_RR_init.2.1 58 = .ok (.bipush 72, 2) := by decide +kernel
theorem d_RR_init_60 : decode y_RR_init.2.1 60 = .ok (.newarray .int, 2) := by decide +kernel
theorem d_RR_init_62 : decode y_RR_init.2.1 62 = .ok (.putfield 31, 3) := by decide +kernel
theorem d_RR_init_65 : decode y_RR_init.2.1 65 = .ok (.aload_n 0, 1) := by decide +kernel
theorem d_RR_init_66 : decode y_RR_init.2.1 66 = .ok (.bipush 72, 2) := by decide +kernel
theorem d_RR_init_68 : decode y_RR_init.2.1 68 = .ok (.newarray .int, 2) := by decide +kernel
theorem d_RR_init_70 : decode y_RR_init.2.1 70 = .ok (.putfield 34, 3) := by decide +kernel
theorem d_RR_init_73 : decode y_RR_init.2.1 73 = .ok (.aload_n 0, 1) := by decide +kernel
theorem d_RR_init_74 : decode y_RR_init.2.1 74 = .ok (.bipush 72, 2) := by decide +kernel
theorem d_RR_init_76 : decode y_RR_init.2.1 76 = .ok (.newarray .boolean, 2) := by decide +kernel
theorem d_RR_init_78 : decode y_RR_init.2.1 78 = .ok (.putfield 37, 3) := by decide +kernel
theorem d_RR_init_81 : decode y_RR_init.2.1 81 = .ok (.return_, 1) := by decide +kernel
theorem k_RR_init {G : mG} {d : Nat} {a0 : Nat} {M : mM} {Q : mM → Prop} (hO : mOk M)
    (h : 0 < a0 ∧ ∀ M2, M2 = mNew M 30 336 336 → mK M2 a0 = 4 ∧ ∀ M5, M5 = mUR M2 a0 8 (mZ M) → ∀ M7, M7 = mNew M5 30 336 336 → mK M7 a0 = 4 ∧ ∀ M10, M10 = mUR M7 a0 9 (mZ M5) → ∀ M12, M12 = mNew M10 30 336 336 → mK M12 a0 = 4 ∧ ∀ M15, M15 = mUR M12 a0 10 (mZ M10) → ∀ M17, M17 = mNew M15 30 336 336 → mK M17 a0 = 4 ∧ ∀ M20, M20 = mUR M17 a0 11 (mZ M15) → ∀ M22, M22 = mNew M20 31 336 336 → mK M22 a0 = 4 ∧ ∀ M25, M25 = mUR M22 a0 13 (mZ M20) → ∀ M27, M27 = mNew M25 30 72 72 → mK M27 a0 = 4 ∧ ∀ M30, M30 = mUR M27 a0 15 (mZ M25) → ∀ M32, M32 = mNew M30 30 72 72 → mK M32 a0 = 4 ∧ ∀ M35, M35 = mUR M32 a0 16 (mZ M30) → ∀ M37, M37 = mNew M35 30 72 72 → mK M37 a0 = 4 ∧ ∀ M40, M40 = mUR M37 a0 17 (mZ M35) → ∀ M42, M42 = mNew M40 31 72 72 → mK M42 a0 = 4 ∧ ∀ M45, M45 = mUR M42 a0 18 (mZ M40) → Q M45) :
    Cv G y_RR_init (d + 1) [vr a0] M Q := by
  refine wm_open (y := y_RR_init) rfl (Nat.le_of_ble_eq_true rfl) (L := [vr a0]) rfl ?_
  obtain ⟨h1, h⟩ := h
  obtain ⟨M2, e3⟩ : ∃ M2, M2 = mNew M 30 336 336 := ⟨_, rfl⟩
  replace h := h M2 e3
  obtain ⟨h4, h⟩ := h
  obtain ⟨M5, e6⟩ : ∃ M5, M5 = mUR M2 a0 8 (mZ M) := ⟨_, rfl⟩
  replace h := h M5 e6
  obtain ⟨M7, e8⟩ : ∃ M7, M7 = mNew M5 30 336 336 := ⟨_, rfl⟩
  replace h := h M7 e8
  obtain ⟨h9, h⟩ := h
  obtain ⟨M10, e11⟩ : ∃ M10, M10 = mUR M7 a0 9 (mZ M5) := ⟨_, rfl⟩
  replace h := h M10 e11
  obtain ⟨M12, e13⟩ : ∃ M12, M12 = mNew M10 30 336 336 := ⟨_, rfl⟩
  replace h := h M12 e13
  obtain ⟨h14, h⟩ := h
  obtain ⟨M15, e16⟩ : ∃ M15, M15 = mUR M12 a0 10 (mZ M10) := ⟨_, rfl⟩
  replace h := h M15 e16
  obtain ⟨M17, e18⟩ : ∃ M17, M17 = mNew M15 30 336 336 := ⟨_, rfl⟩
  replace h := h M17 e18
  obtain ⟨h19, h⟩ := h
  obtain ⟨M20, e21⟩ : ∃ M20, M20 = mUR M17 a0 11 (mZ M15) := ⟨_, rfl⟩
  replace h := h M20 e21
  obtain ⟨M22, e23⟩ : ∃ M22, M22 = mNew M20 31 336 336 := ⟨_, rfl⟩
  replace h := h M22 e23
  obtain ⟨h24, h⟩ := h
  obtain ⟨M25, e26⟩ : ∃ M25, M25 = mUR M22 a0 13 (mZ M20) := ⟨_, rfl⟩
  replace h := h M25 e26
  obtain ⟨M27, e28⟩ : ∃ M27, M27 = mNew M25 30 72 72 := ⟨_, rfl⟩
  replace h := h M27 e28
  obtain ⟨h29, h⟩ := h
  obtain ⟨M30, e31⟩ : ∃ M30, M30 = mUR M27 a0 15 (mZ M25) := ⟨_, rfl⟩
  replace h := h M30 e31
  obtain ⟨M32, e33⟩ : ∃ M32, M32 = mNew M30 30 72 72 := ⟨_, rfl⟩
  replace h := h M32 e33
  obtain ⟨h34, h⟩ := h
  obtain ⟨M35, e36⟩ : ∃ M35, M35 = mUR M32 a0 16 (mZ M30) := ⟨_, rfl⟩
  replace h := h M35 e36
  obtain ⟨M37, e38⟩ : ∃ M37, M37 = mNew M35 30 72 72 := ⟨_, rfl⟩
  replace h := h M37 e38
  obtain ⟨h39, h⟩ := h
  obtain ⟨M40, e41⟩ : ∃ M40, M40 = mUR M37 a0 17 (mZ M35) := ⟨_, rfl⟩
  replace h := h M40 e41
  obtain ⟨M42, e43⟩ : ∃ M42, M42 = mNew M40 31 72 72 := ⟨_, rfl⟩
  replace h := h M42 e43
  obtain ⟨h44, h⟩ := h
  obtain ⟨M45, e46⟩ : ∃ M45, M45 = mUR M42 a0 18 (mZ M40) := ⟨_, rfl⟩
  replace h := h M45 e46
  refine wm_aload_n d_RR_init_0 rfl rfl ?_
  refine wm_objInit trivial k1_94 kO_inst kO_code (Nat.le_of_ble_eq_true rfl) d_RR_init_1 h1 ?_
  refine wm_aload_n d_RR_init_4 rfl rfl ?_
  refine wm_sipush d_RR_init_5 (by decide) ?_
  have hOM2 : mOk M2 := by rw [e3]; exact mOk_New hO
  refine wm_newarrE 0 (atype := .int) (ty := .int) rfl rfl (fun _ => rfl) rfl rfl (by decide) k1_82 ⟨by decide, by decide⟩ d_RR_init_8 e3 ?_
  have hOM5 : mOk M5 := by rw [e6]; exact mOk_UR hOM2
  refine pf_RR_11 rfl rfl d_RR_init_10 h4 e6 ?_
  refine wm_aload_n d_RR_init_13 rfl rfl ?_
  refine wm_sipush d_RR_init_14 (by decide) ?_
  have hOM7 : mOk M7 := by rw [e8]; exact mOk_New hOM5
  refine wm_newarrE 0 (atype := .int) (ty := .int) rfl rfl (fun _ => rfl) rfl rfl (by decide) k1_82 ⟨by decide, by decide⟩ d_RR_init_17 e8 ?_
  have hOM10 : mOk M10 := by rw [e11]; exact mOk_UR hOM7
  refine pf_RR_15 rfl rfl d_RR_init_19 h9 e11 ?_
  refine wm_aload_n d_RR_init_22 rfl rfl ?_
  refine wm_sipush d_RR_init_23 (by decide) ?_
  have hOM12 : mOk M12 := by rw [e13]; exact mOk_New hOM10
  refine wm_newarrE 0 (atype := .int) (ty := .int) rfl rfl (fun _ => rfl) rfl rfl (by decide) k1_82 ⟨by decide, by decide⟩ d_RR_init_26 e13 ?_
  have hOM15 : mOk M15 := by rw [e16]; exact mOk_UR hOM12
  refine pf_RR_18 rfl rfl d_RR_init_28 h14 e16 ?_
  refine wm_aload_n d_RR_init_31 rfl rfl ?_
  refine wm_sipush d_RR_init_32 (by decide) ?_
  have hOM17 : mOk M17 := by rw [e18]; exact mOk_New hOM15
  refine wm_newarrE 0 (atype := .int) (ty := .int) rfl rfl (fun _ => rfl) rfl rfl (by decide) k1_82 ⟨by decide, by decide⟩ d_RR_init_35 e18 ?_
  have hOM20 : mOk M20 := by rw [e21]; exact mOk_UR hOM17
  refine pf_RR_21 rfl rfl d_RR_init_37 h19 e21 ?_
  refine wm_aload_n d_RR_init_40 rfl rfl ?_
  refine wm_sipush d_RR_init_41 (by decide) ?_
  have hOM22 : mOk M22 := by rw [e23]; exact mOk_New hOM20
  refine wm_newarrE 1 (atype := .boolean) (ty := .boolean) rfl rfl (fun _ => rfl) rfl rfl (by decide) k1_162 ⟨by decide, by decide⟩ d_RR_init_44 e23 ?_
  have hOM25 : mOk M25 := by rw [e26]; exact mOk_UR hOM22
  refine pf_RR_24 rfl rfl d_RR_init_46 h24 e26 ?_
  refine wm_aload_n d_RR_init_49 rfl rfl ?_
  refine wm_bipush d_RR_init_50 (by decide) ?_
  have hOM27 : mOk M27 := by rw [e28]; exact mOk_New hOM25
  refine wm_newarrE 0 (atype := .int) (ty := .int) rfl rfl (fun _ => rfl) rfl rfl (by decide) k1_82 ⟨by decide, by decide⟩ d_RR_init_52 e28 ?_
  have hOM30 : mOk M30 := by rw [e31]; exact mOk_UR hOM27
  refine pf_RR_28 rfl rfl d_RR_init_54 h29 e31 ?_
  refine wm_aload_n d_RR_init_57 rfl rfl ?_
  refine wm_bipush d_RR_init_58 (by decide) ?_
  have hOM32 : mOk M32 := by rw [e33]; exact mOk_New hOM30
  refine wm_newarrE 0 (atype := .int) (ty := .int) rfl rfl (fun _ => rfl) rfl rfl (by decide) k1_82 ⟨by decide, by decide⟩ d_RR_init_60 e33 ?_
  have hOM35 : mOk M35 := by rw [e36]; exact mOk_UR hOM32
  refine pf_RR_31 rfl rfl d_RR_init_62 h34 e36 ?_
  refine wm_aload_n d_RR_init_65 rfl rfl ?_
  refine wm_bipush d_RR_init_66 (by decide) ?_
  have hOM37 : mOk M37 := by rw [e38]; exact mOk_New hOM35
  refine wm_newarrE 0 (atype := .int) (ty := .int) rfl rfl (fun _ => rfl) rfl rfl (by decide) k1_82 ⟨by decide, by decide⟩ d_RR_init_68 e38 ?_
  have hOM40 : mOk M40 := by rw [e41]; exact mOk_UR hOM37
  refine pf_RR_34 rfl rfl d_RR_init_70 h39 e41 ?_
  refine wm_aload_n d_RR_init_73 rfl rfl ?_
  refine wm_bipush d_RR_init_74 (by decide) ?_
  have hOM42 : mOk M42 := by rw [e43]; exact mOk_New hOM40
  refine wm_newarrE 1 (atype := .boolean) (ty := .boolean) rfl rfl (fun _ => rfl) rfl rfl (by decide) k1_162 ⟨by decide, by decide⟩ d_RR_init_76 e43 ?_
  have hOM45 : mOk M45 := by rw [e46]; exact mOk_UR hOM42
  refine pf_RR_37 rfl rfl d_RR_init_78 h44 e46 ?_
  refine wm_return d_RR_init_81 rfl ?_
  exact ⟨rfl, h⟩
theorem d_RR_begin_0 : decode y_RR_begin.2.1 0 = .ok (.aload_n 0, 1) := by decide +kernel
theorem d_RR_begin_1 : decode y_RR_begin.2.1 1 = .ok (.aload_n 1, 1) := by decide +kernel
theorem d_RR_begin_2 : decode y_RR_begin.2.1 2 = .ok (.putfield 40, 3) := by decide +kernel
theorem d_RR_begin_5 : decode y_RR_begin.2.1 5 = .ok (.aload_n 0, 1) := by decide +kernel
theorem d_RR_begin_6 : decode y_RR_begin.2.1 6 = .ok (.aload_n 2, 1) := by decide +kernel
theorem d_RR_begin_7 : decode y_RR_begin.2.1 7 = .ok (.putfield 44, 3) := by decide +kernel
theorem d_RR_begin_10 : decode y_RR_begin.2.1 10 = .ok (.aload_n 0, 1) := by decide +kernel
theorem d_RR_begin_11 : decode y_RR_begin.2.1 11 = .ok (.iconst 0, 1) := by decide +kernel
theorem d_RR_begin_12 : decode y_RR_begin.2.1 12 = .ok (.putfield 48, 3) := by decide +kernel
theorem d_RR_begin_15 : decode y_RR_begin.2.1 15 = .ok (.aload_n 0, 1) := by decide +kernel
theorem d_RR_begin_16 : decode y_RR_begin.2.1 16 = .ok (.iconst 0, 1) := by decide +kernel
theorem d_RR_begin_17 : decode y_RR_begin.2.1 17 = .ok (.putfield 52, 3) := by decide +kernel
theorem d_RR_begin_20 : decode y_RR_begin.2.1 20 = .ok (.aload_n 0, 1) := by decide +kernel
theorem d_RR_begin_21 : decode y_RR_begin.2.1 21 = .ok (.iconst (-1), 1) := by decide +kernel
theorem d_RR_begin_22 : decode y_RR_begin.2.1 22 = .ok (.putfield 55, 3) := by decide +kernel
theorem d_RR_begin_25 : decode y_RR_begin.2.1 25 = .ok (.aload_n 0, 1) := by decide +kernel
theorem d_RR_begin_26 : decode y_RR_begin.2.1 26 = .ok (.iconst 0, 1) := by decide +kernel
theorem d_RR_begin_27 : decode y_RR_begin.2.1 27 = .ok (.putfield 58, 3) := by decide +kernel
theorem d_RR_begin_30 : decode y_RR_begin.2.1 30 = .ok (.aload_n 0, 1) := by decide +kernel
theorem d_RR_begin_31 : decode y_RR_begin.2.1 31 = .ok (.iconst 0, 1) := by decide +kernel
theorem d_RR_begin_32 : decode y_RR_begin.2.1 32 = .ok (.putfield 61, 3) := by decide +kernel
theorem d_RR_begin_35 : decode y_RR_begin.2.1 35 = .ok (.return_, 1) := by decide +kernel
theorem k_RR_begin {G : mG} {d : Nat} {a0 : Nat} {a1 : Nat} {a2 : Nat} {M : mM} {Q : mM → Prop} (hO : mOk M)
    (h : mK M a0 = 4 ∧ ∀ M2, M2 = mUR M a0 0 a1 → ∀ M4, M4 = mUR M2 a0 1 a2 → ∀ M6, M6 = mUI M4 a0 2 0 → ∀ M8, M8 = mUI M6 a0 3 0 → ∀ M10, M10 = mUI M8 a0 4 (-1) → ∀ M12, M12 = mUI M10 a0 5 0 → ∀ M14, M14 = mUI M12 a0 19 0 → Q M14) :
    Cv G y_RR_begin d [vr a0, vr a1, vr a2] M Q := by
  refine wm_open (y := y_RR_begin) rfl (Nat.le_of_ble_eq_true rfl) (L := [vr a0, vr a1, vr a2]) rfl ?_
  obtain ⟨h1, h⟩ := h
  obtain ⟨M2, e3⟩ : ∃ M2, M2 = mUR M a0 0 a1 := ⟨_, rfl⟩
  replace h := h M2 e3
  obtain ⟨M4, e5⟩ : ∃ M4, M4 = mUR M2 a0 1 a2 := ⟨_, rfl⟩
  replace h := h M4 e5
  obtain ⟨M6, e7⟩ : ∃ M6, M6 = mUI M4 a0 2 0 := ⟨_, rfl⟩
  replace h := h M6 e7
  obtain ⟨M8, e9⟩ : ∃ M8, M8 = mUI M6 a0 3 0 := ⟨_, rfl⟩
  replace h := h M8 e9
  obtain ⟨M10, e11⟩ : ∃ M10, M10 = mUI M8 a0 4 (-1) := ⟨_, rfl⟩
  replace h := h M10 e11
  obtain ⟨M12, e13⟩ : ∃ M12, M12 = mUI M10 a0 5 0 := ⟨_, rfl⟩
  replace h := h M12 e13
  obtain ⟨M14, e15⟩ : ∃ M14, M14 = mUI M12 a0 19 0 := ⟨_, rfl⟩
  replace h := h M14 e15
  refine wm_aload_n d_RR_begin_0 rfl rfl ?_
  refine wm_aload_n d_RR_begin_1 rfl rfl ?_
  have hOM2 : mOk M2 := by rw [e3]; exact mOk_UR hO
  refine pf_RR_40 rfl d_RR_begin_2 h1 e3 ?_
  refine wm_aload_n d_RR_begin_5 rfl rfl ?_
  refine wm_aload_n d_RR_begin_6 rfl rfl ?_
  have hOM4 : mOk M4 := by rw [e5]; exact mOk_UR hOM2
  refine pf_RR_44 rfl d_RR_begin_7 (by rw [e3]; exact h1) e5 ?_
  refine wm_aload_n d_RR_begin_10 rfl rfl ?_
  refine wm_iconst d_RR_begin_11 ?_
  have hOM6 : mOk M6 := by rw [e7]; exact mOk_UI hOM4 ⟨by decide, by decide⟩
  refine pf_RR_48 rfl d_RR_begin_12 (by rw [e5, e3]; exact h1) ⟨by decide, by decide⟩ e7 ?_
  refine wm_aload_n d_RR_begin_15 rfl rfl ?_
  refine wm_iconst d_RR_begin_16 ?_
  have hOM8 : mOk M8 := by rw [e9]; exact mOk_UI hOM6 ⟨by decide, by decide⟩
  refine pf_RR_52 rfl d_RR_begin_17 (by rw [e7, e5, e3]; exact h1) ⟨by decide, by decide⟩ e9 ?_
  refine wm_aload_n d_RR_begin_20 rfl rfl ?_
  refine wm_iconst d_RR_begin_21 ?_
  have hOM10 : mOk M10 := by rw [e11]; exact mOk_UI hOM8 ⟨by decide, by decide⟩
  refine pf_RR_55 rfl d_RR_begin_22 (by rw [e9, e7, e5, e3]; exact h1) ⟨by decide, by decide⟩ e11 ?_
  refine wm_aload_n d_RR_begin_25 rfl rfl ?_
  refine wm_iconst d_RR_begin_26 ?_
  have hOM12 : mOk M12 := by rw [e13]; exact mOk_UI hOM10 ⟨by decide, by decide⟩
  refine pf_RR_58 rfl d_RR_begin_27 (by rw [e11, e9, e7, e5, e3]; exact h1) ⟨by decide, by decide⟩ e13 ?_
  refine wm_aload_n d_RR_begin_30 rfl rfl ?_
  refine wm_iconst d_RR_begin_31 ?_
  have hOM14 : mOk M14 := by rw [e15]; exact mOk_UI hOM12 ⟨by decide, by decide⟩
  refine pf_RR_61 rfl d_RR_begin_32 (by rw [e13, e11, e9, e7, e5, e3]; exact h1) ⟨by decide, by decide⟩ e15 ?_
  refine wm_return d_RR_begin_35 rfl ?_
  exact ⟨rfl, h⟩
theorem d_RR_here_0 : decode y_RR_here.2.1 0 = .ok (.aload_n 0, 1) := by decide +kernel
theorem d_RR_here_1 : decode y_RR_here.2.1 1 = .ok (.getfield 40, 3) := by decide +kernel
theorem d_RR_here_4 : decode y_RR_here.2.1 4 = .ok (.getfield 64, 3) := by decide +kernel
theorem d_RR_here_7 : decode y_RR_here.2.1 7 = .ok (.aload_n 0, 1) := by decide +kernel
theorem d_RR_here_8 : decode y_RR_here.2.1 8 = .ok (.getfield 48, 3) := by decide +kernel
theorem d_RR_here_11 : decode y_RR_here.2.1 11 = .ok (.iaload, 1) := by decide +kernel
theorem d_RR_here_12 : decode y_RR_here.2.1 12 = .ok (.ireturn, 1) := by decide +kernel
theorem k_RR_here {G : mG} {d : Nat} {a0 : Nat} {M : mM} {Q : Int → mM → Prop} (hO : mOk M)
    (h : mK M a0 = 4 ∧ mK M (mR M a0 0) = 2 ∧ mK M (mR M (mR M a0 0) 4) = 30 ∧ ((0 : Int) ≤ mI M a0 2 ∧ mI M a0 2 < (mN M (mR M (mR M a0 0) 4) : Int)) ∧ Q (mI M (mR M (mR M a0 0) 4) (Int.toNat (mI M a0 2))) M) :
    Ci G y_RR_here d [vr a0] M Q := by
  refine wm_open (y := y_RR_here) rfl (Nat.le_of_ble_eq_true rfl) (L := [vr a0]) rfl ?_
  obtain ⟨h1, h⟩ := h
  obtain ⟨h2, h⟩ := h
  obtain ⟨h3, h⟩ := h
  obtain ⟨h4, h⟩ := h
  refine wm_aload_n d_RR_here_0 rfl rfl ?_
  refine gf_RR_40 rfl d_RR_here_1 h1 ?_
  refine gf_RR_64 rfl d_RR_here_4 h2 ?_
  refine wm_aload_n d_RR_here_7 rfl rfl ?_
  refine gf_RR_48 rfl d_RR_here_8 h1 ?_
  refine wm_iald d_RR_here_11 h3 h4 ?_
  refine wm_ireturn d_RR_here_12 rfl rfl ?_
  exact ⟨_, rfl, h⟩
