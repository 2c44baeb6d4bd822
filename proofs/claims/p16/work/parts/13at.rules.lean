theorem d_Sc_init_0 : decode y_Sc_init.2.1 0 = .ok (.aload_n 0, 1) := by decide +kernel
theorem d_Sc_init_1 : decode y_Sc_init.2.1 1 = .ok (.invokespecial 3, 3) := by decide +kernel
theorem d_Sc_init_4 : decode y_Sc_init.2.1 4 = .ok (.aload_n 0, 1) := by decide +kernel
theorem d_Sc_init_5 : decode y_Sc_init.2.1 5 = .ok (.new 9, 3) := by decide +kernel
theorem d_Sc_init_8 : decode y_Sc_init.2.1 8 = .ok (.dup, 1) := by decide +kernel
theorem d_Sc_init_9 : decode y_Sc_init.2.1 9 = .ok (.invokespecial 11, 3) := by decide +kernel
theorem d_Sc_init_12 : decode y_Sc_init.2.1 12 = .ok (.putfield 12, 3) := by decide +kernel
theorem d_Sc_init_15 : decode y_Sc_init.2.1 15 = .ok (.aload_n 0, 1) := by decide +kernel
theorem d_Sc_init_16 : decode y_Sc_init.2.1 16 = .ok (.new 9, 3) := by decide +kernel
theorem d_Sc_init_19 : decode y_Sc_init.2.1 19 = .ok (.dup, 1) := by decide +kernel
theorem d_Sc_init_20 : decode y_Sc_init.2.1 20 = .ok (.invokespecial 11, 3) := by decide +kernel
theorem d_Sc_init_23 : decode y_Sc_init.2.1 23 = .ok (.putfield 18, 3) := by decide +kernel
theorem d_Sc_init_26 : decode y_Sc_init.2.1 26 = .ok (.aload_n 0, 1) := by decide +kernel
theorem d_Sc_init_27 : decode y_Sc_init.2.1 27 = .ok (.new 9, 3) := by decide +kernel
theorem d_Sc_init_30 : decode y_Sc_init.2.1 30 = .ok (.dup, 1) := by decide +kernel
theorem d_Sc_init_31 : decode y_Sc_init.2.1 31 = .ok (.invokespecial 11, 3) := by decide +kernel
theorem d_Sc_init_34 : decode y_Sc_init.2.1 34 = .ok (.putfield 21, 3) := by decide +kernel
theorem d_Sc_init_37 : decode y_Sc_init.2.1 37 = .ok (.aload_n 0, 1) := by decide +kernel
theorem d_Sc_init_38 : decode y_Sc_init.2.1 38 = .ok (.new 9, 3) := by decide +kernel
theorem d_Sc_init_41 : decode y_Sc_init.2.1 41 = .ok (.dup, 1) := by decide +kernel
theorem d_Sc_init_42 : decode y_Sc_init.2.1 42 = .ok (.invokespecial 11, 3) := by decide +kernel
theorem d_Sc_init_45 : decode y_Sc_init.2.1 45 = .ok (.putfield 24, 3) := by decide +kernel
theorem d_Sc_init_48 : decode y_Sc_init.2.1 48 = .ok (.aload_n 0, 1) := by decide +kernel
theorem d_Sc_init_49 : decode y_Sc_init.2.1 49 = .ok (.new 9, 3) := by decide +kernel
theorem d_Sc_init_52 : decode y_Sc_init.2.1 52 = .ok (.dup, 1) := by decide +kernel
theorem d_Sc_init_53 : decode y_Sc_init.2.1 53 = .ok (.invokespecial 11, 3) := by decide +kernel
theorem d_Sc_init_56 : decode y_Sc_init.2.1 56 = .ok (.putfield 27, 3) := by decide +kernel
theorem d_Sc_init_59 : decode y_Sc_init.2.1 59 = .ok (.aload_n 0, 1) := by decide +kernel
theorem d_Sc_init_60 : decode y_Sc_init.2.1 60 = .ok (.new 9, 3) := by decide +kernel
theorem d_Sc_init_63 : decode y_Sc_init.2.1 63 = .ok (.dup, 1) := by decide +kernel
theorem d_Sc_init_64 : decode y_Sc_init.2.1 64 = .ok (.invokespecial 11, 3) := by decide +kernel
theorem d_Sc_init_67 : decode y_Sc_init.2.1 67 = .ok (.putfield 30, 3) := by decide +kernel
theorem d_Sc_init_70 : decode y_Sc_init.2.1 70 = .ok (.aload_n 0, 1) := by decide +kernel
theorem d_Sc_init_71 : decode y_Sc_init.2.1 71 = .ok (.iconst 4, 1) := by decide +kernel
theorem d_Sc_init_72 : decode y_Sc_init.2.1 72 = .ok (.newarray .long, 2) := by decide +kernel
theorem d_Sc_init_74 : decode y_Sc_init.2.1 74 = .ok (.putfield 33, 3) := by decide +kernel
theorem d_Sc_init_77 : decode y_Sc_init.2.1 77 = .ok (.aload_n 0, 1) := by decide +kernel
theorem d_Sc_init_78 : decode y_Sc_init.2.1 78 = .ok (.new 9, 3) := by decide +kernel
theorem d_Sc_init_81 : decode y_Sc_init.2.1 81 = .ok (.dup, 1) := by decide +kernel
theorem d_Sc_init_82 : decode y_Sc_init.2.1 82 = .ok (.invokespecial 11, 3) := by decide +kernel
theorem d_Sc_init_85 : decode y_Sc_init.2.1 85 = .ok (.putfield 37, 3) := by decide +kernel
theorem d_Sc_init_88 : decode y_Sc_init.2.1 88 = .ok (.aload_n 0, 1) := by decide +kernel
theorem d_Sc_init_89 : decode y_Sc_init.2.1 89 = .ok (.new 9, 3) := by decide +kernel
theorem d_Sc_init_92 : decode y_Sc_init.2.1 92 = .ok (.dup, 1) := by decide +kernel
theorem d_Sc_init_93 : decode y_Sc_init.2.1 93 = .ok (.invokespecial 11, 3) := by decide +kernel
theorem d_Sc_init_96 : decode y_Sc_init.2.1 96 = .ok (.putfield 40, 3) := by decide +kernel
theorem d_Sc_init_99 : decode y_Sc_init.2.1 99 = .ok (.aload_n 0, 1) := by decide +kernel
theorem d_Sc_init_100 : decode y_Sc_init.2.1 100 = .ok (.new 43, 3) := by decide +kernel
theorem d_Sc_init_103 : decode y_Sc_init.2.1 103 = .ok (.dup, 1) := by decide +kernel
theorem d_Sc_init_104 : decode y_Sc_init.2.1 104 = .ok (.invokespecial 45, 3) := by decide +kernel
theorem d_Sc_init_107 : decode y_Sc_init.2.1 107 = .ok (.putfield 46, 3) := by decide +kernel
theorem d_Sc_init_110 : decode y_Sc_init.2.1 110 = .ok (.aload_n 0, 1) := by decide +kernel
theorem d_Sc_init_111 : decode y_Sc_init.2.1 111 = .ok (.new 43, 3) := by decide +kernel
theorem d_Sc_init_114 : decode y_Sc_init.2.1 114 = .ok (.dup, 1) := by decide +kernel
theorem d_Sc_init_115 : decode y_Sc_init.2.1 115 = .ok (.invokespecial 45, 3) := by decide +kernel
theorem d_Sc_init_118 : decode y_Sc_init.2.1 118 = .ok (.putfield 50, 3) := by decide +kernel
theorem d_Sc_init_121 : decode y_Sc_init.2.1 121 = .ok (.return_, 1) := by decide +kernel
theorem k_Sc_init {G : mG} {d : Nat} {a0 : Nat} {M : mM} {Q : mM → Prop} (hO : mOk M)
    (h : 0 < a0 ∧ ∀ M2, M2 = mNew M 10 0 2 → Cv G y_Na_init d [vr (mZ M)] M2 (fun M4 => mOk M4 ∧ (mK M4 a0 = 9 ∧ ∀ M8, M8 = mUR M4 a0 0 (mZ M) → ∀ M10, M10 = mNew M8 10 0 2 → Cv G y_Na_init d [vr (mZ M8)] M10 (fun M12 => mOk M12 ∧ (mK M12 a0 = 9 ∧ ∀ M16, M16 = mUR M12 a0 1 (mZ M8) → ∀ M18, M18 = mNew M16 10 0 2 → Cv G y_Na_init d [vr (mZ M16)] M18 (fun M20 => mOk M20 ∧ (mK M20 a0 = 9 ∧ ∀ M24, M24 = mUR M20 a0 2 (mZ M16) → ∀ M26, M26 = mNew M24 10 0 2 → Cv G y_Na_init d [vr (mZ M24)] M26 (fun M28 => mOk M28 ∧ (mK M28 a0 = 9 ∧ ∀ M32, M32 = mUR M28 a0 3 (mZ M24) → ∀ M34, M34 = mNew M32 10 0 2 → Cv G y_Na_init d [vr (mZ M32)] M34 (fun M36 => mOk M36 ∧ (mK M36 a0 = 9 ∧ ∀ M40, M40 = mUR M36 a0 4 (mZ M32) → ∀ M42, M42 = mNew M40 10 0 2 → Cv G y_Na_init d [vr (mZ M40)] M42 (fun M44 => mOk M44 ∧ (mK M44 a0 = 9 ∧ ∀ M48, M48 = mUR M44 a0 5 (mZ M40) → ∀ M50, M50 = mNew M48 33 4 4 → mK M50 a0 = 9 ∧ ∀ M53, M53 = mUR M50 a0 6 (mZ M48) → ∀ M55, M55 = mNew M53 10 0 2 → Cv G y_Na_init d [vr (mZ M53)] M55 (fun M57 => mOk M57 ∧ (mK M57 a0 = 9 ∧ ∀ M61, M61 = mUR M57 a0 7 (mZ M53) → ∀ M63, M63 = mNew M61 10 0 2 → Cv G y_Na_init d [vr (mZ M61)] M63 (fun M65 => mOk M65 ∧ (mK M65 a0 = 9 ∧ ∀ M69, M69 = mUR M65 a0 8 (mZ M61) → ∀ M71, M71 = mNew M69 11 0 3 → Cv G y_Fr_init d [vr (mZ M69)] M71 (fun M73 => mOk M73 ∧ (mK M73 a0 = 9 ∧ ∀ M77, M77 = mUR M73 a0 9 (mZ M69) → ∀ M79, M79 = mNew M77 11 0 3 → Cv G y_Fr_init d [vr (mZ M77)] M79 (fun M81 => mOk M81 ∧ (mK M81 a0 = 9 ∧ ∀ M85, M85 = mUR M81 a0 10 (mZ M77) → Q M85))))))))))))))))))))) :
    Cv G y_Sc_init (d + 1) [vr a0] M Q := by
  refine wm_open (y := y_Sc_init) rfl (Nat.le_of_ble_eq_true rfl) (L := [vr a0]) rfl ?_
  obtain ⟨h1, h⟩ := h
  obtain ⟨M2, e3⟩ : ∃ M2, M2 = mNew M 10 0 2 := ⟨_, rfl⟩
  replace h := h M2 e3
  refine wm_aload_n d_Sc_init_0 rfl rfl ?_
  refine wm_objInit trivial k2_232 kO_inst kO_code (Nat.le_of_ble_eq_true rfl) d_Sc_init_1 h1 ?_
  refine wm_aload_n d_Sc_init_4 rfl rfl ?_
  have hOM2 : mOk M2 := by rw [e3]; exact mOk_New hO
  refine nf_Sc_9 rfl d_Sc_init_5 e3 ?_
  refine wm_dup d_Sc_init_8 rfl ?_
  refine cf_Sc_11 rfl d_Sc_init_9 (by rw [e3]; exact if_pos rfl) (Nat.le_of_ble_eq_true rfl) (Cv.mono h (fun M4 h => ?_))
  obtain ⟨hOM4, h⟩ := h
  obtain ⟨h7, h⟩ := h
  obtain ⟨M8, e9⟩ : ∃ M8, M8 = mUR M4 a0 0 (mZ M) := ⟨_, rfl⟩
  replace h := h M8 e9
  obtain ⟨M10, e11⟩ : ∃ M10, M10 = mNew M8 10 0 2 := ⟨_, rfl⟩
  replace h := h M10 e11
  have hOM8 : mOk M8 := by rw [e9]; exact mOk_UR hOM4
  refine pf_Sc_12 rfl rfl d_Sc_init_12 h7 e9 ?_
  refine wm_aload_n d_Sc_init_15 rfl rfl ?_
  have hOM10 : mOk M10 := by rw [e11]; exact mOk_New hOM8
  refine nf_Sc_9 rfl d_Sc_init_16 e11 ?_
  refine wm_dup d_Sc_init_19 rfl ?_
  refine cf_Sc_11 rfl d_Sc_init_20 (by rw [e11]; exact if_pos rfl) (Nat.le_of_ble_eq_true rfl) (Cv.mono h (fun M12 h => ?_))
  obtain ⟨hOM12, h⟩ := h
  obtain ⟨h15, h⟩ := h
  obtain ⟨M16, e17⟩ : ∃ M16, M16 = mUR M12 a0 1 (mZ M8) := ⟨_, rfl⟩
  replace h := h M16 e17
  obtain ⟨M18, e19⟩ : ∃ M18, M18 = mNew M16 10 0 2 := ⟨_, rfl⟩
  replace h := h M18 e19
  have hOM16 : mOk M16 := by rw [e17]; exact mOk_UR hOM12
  refine pf_Sc_18 rfl rfl d_Sc_init_23 h15 e17 ?_
  refine wm_aload_n d_Sc_init_26 rfl rfl ?_
  have hOM18 : mOk M18 := by rw [e19]; exact mOk_New hOM16
  refine nf_Sc_9 rfl d_Sc_init_27 e19 ?_
  refine wm_dup d_Sc_init_30 rfl ?_
  refine cf_Sc_11 rfl d_Sc_init_31 (by rw [e19]; exact if_pos rfl) (Nat.le_of_ble_eq_true rfl) (Cv.mono h (fun M20 h => ?_))
  obtain ⟨hOM20, h⟩ := h
  obtain ⟨h23, h⟩ := h
  obtain ⟨M24, e25⟩ : ∃ M24, M24 = mUR M20 a0 2 (mZ M16) := ⟨_, rfl⟩
  replace h := h M24 e25
  obtain ⟨M26, e27⟩ : ∃ M26, M26 = mNew M24 10 0 2 := ⟨_, rfl⟩
  replace h := h M26 e27
  have hOM24 : mOk M24 := by rw [e25]; exact mOk_UR hOM20
  refine pf_Sc_21 rfl rfl d_Sc_init_34 h23 e25 ?_
  refine wm_aload_n d_Sc_init_37 rfl rfl ?_
  have hOM26 : mOk M26 := by rw [e27]; exact mOk_New hOM24
  refine nf_Sc_9 rfl d_Sc_init_38 e27 ?_
  refine wm_dup d_Sc_init_41 rfl ?_
  refine cf_Sc_11 rfl d_Sc_init_42 (by rw [e27]; exact if_pos rfl) (Nat.le_of_ble_eq_true rfl) (Cv.mono h (fun M28 h => ?_))
  obtain ⟨hOM28, h⟩ := h
  obtain ⟨h31, h⟩ := h
  obtain ⟨M32, e33⟩ : ∃ M32, M32 = mUR M28 a0 3 (mZ M24) := ⟨_, rfl⟩
  replace h := h M32 e33
  obtain ⟨M34, e35⟩ : ∃ M34, M34 = mNew M32 10 0 2 := ⟨_, rfl⟩
  replace h := h M34 e35
  have hOM32 : mOk M32 := by rw [e33]; exact mOk_UR hOM28
  refine pf_Sc_24 rfl rfl d_Sc_init_45 h31 e33 ?_
  refine wm_aload_n d_Sc_init_48 rfl rfl ?_
  have hOM34 : mOk M34 := by rw [e35]; exact mOk_New hOM32
  refine nf_Sc_9 rfl d_Sc_init_49 e35 ?_
  refine wm_dup d_Sc_init_52 rfl ?_
  refine cf_Sc_11 rfl d_Sc_init_53 (by rw [e35]; exact if_pos rfl) (Nat.le_of_ble_eq_true rfl) (Cv.mono h (fun M36 h => ?_))
  obtain ⟨hOM36, h⟩ := h
  obtain ⟨h39, h⟩ := h
  obtain ⟨M40, e41⟩ : ∃ M40, M40 = mUR M36 a0 4 (mZ M32) := ⟨_, rfl⟩
  replace h := h M40 e41
  obtain ⟨M42, e43⟩ : ∃ M42, M42 = mNew M40 10 0 2 := ⟨_, rfl⟩
  replace h := h M42 e43
  have hOM40 : mOk M40 := by rw [e41]; exact mOk_UR hOM36
  refine pf_Sc_27 rfl rfl d_Sc_init_56 h39 e41 ?_
  refine wm_aload_n d_Sc_init_59 rfl rfl ?_
  have hOM42 : mOk M42 := by rw [e43]; exact mOk_New hOM40
  refine nf_Sc_9 rfl d_Sc_init_60 e43 ?_
  refine wm_dup d_Sc_init_63 rfl ?_
  refine cf_Sc_11 rfl d_Sc_init_64 (by rw [e43]; exact if_pos rfl) (Nat.le_of_ble_eq_true rfl) (Cv.mono h (fun M44 h => ?_))
  obtain ⟨hOM44, h⟩ := h
  obtain ⟨h47, h⟩ := h
  obtain ⟨M48, e49⟩ : ∃ M48, M48 = mUR M44 a0 5 (mZ M40) := ⟨_, rfl⟩
  replace h := h M48 e49
  obtain ⟨M50, e51⟩ : ∃ M50, M50 = mNew M48 33 4 4 := ⟨_, rfl⟩
  replace h := h M50 e51
  obtain ⟨h52, h⟩ := h
  obtain ⟨M53, e54⟩ : ∃ M53, M53 = mUR M50 a0 6 (mZ M48) := ⟨_, rfl⟩
  replace h := h M53 e54
  obtain ⟨M55, e56⟩ : ∃ M55, M55 = mNew M53 10 0 2 := ⟨_, rfl⟩
  replace h := h M55 e56
  have hOM48 : mOk M48 := by rw [e49]; exact mOk_UR hOM44
  refine pf_Sc_30 rfl rfl d_Sc_init_67 h47 e49 ?_
  refine wm_aload_n d_Sc_init_70 rfl rfl ?_
  refine wm_iconst d_Sc_init_71 ?_
  have hOM50 : mOk M50 := by rw [e51]; exact mOk_New hOM48
  refine wm_newarrE 3 (atype := .long) (ty := .long) rfl rfl (fun _ => rfl) rfl rfl (by decide) k3_35 ⟨by decide, by decide⟩ d_Sc_init_72 e51 ?_
  have hOM53 : mOk M53 := by rw [e54]; exact mOk_UR hOM50
  refine pf_Sc_33 rfl rfl d_Sc_init_74 h52 e54 ?_
  refine wm_aload_n d_Sc_init_77 rfl rfl ?_
  have hOM55 : mOk M55 := by rw [e56]; exact mOk_New hOM53
  refine nf_Sc_9 rfl d_Sc_init_78 e56 ?_
  refine wm_dup d_Sc_init_81 rfl ?_
  refine cf_Sc_11 rfl d_Sc_init_82 (by rw [e56]; exact if_pos rfl) (Nat.le_of_ble_eq_true rfl) (Cv.mono h (fun M57 h => ?_))
  obtain ⟨hOM57, h⟩ := h
  obtain ⟨h60, h⟩ := h
  obtain ⟨M61, e62⟩ : ∃ M61, M61 = mUR M57 a0 7 (mZ M53) := ⟨_, rfl⟩
  replace h := h M61 e62
  obtain ⟨M63, e64⟩ : ∃ M63, M63 = mNew M61 10 0 2 := ⟨_, rfl⟩
  replace h := h M63 e64
  have hOM61 : mOk M61 := by rw [e62]; exact mOk_UR hOM57
  refine pf_Sc_37 rfl rfl d_Sc_init_85 h60 e62 ?_
  refine wm_aload_n d_Sc_init_88 rfl rfl ?_
  have hOM63 : mOk M63 := by rw [e64]; exact mOk_New hOM61
  refine nf_Sc_9 rfl d_Sc_init_89 e64 ?_
  refine wm_dup d_Sc_init_92 rfl ?_
  refine cf_Sc_11 rfl d_Sc_init_93 (by rw [e64]; exact if_pos rfl) (Nat.le_of_ble_eq_true rfl) (Cv.mono h (fun M65 h => ?_))
  obtain ⟨hOM65, h⟩ := h
  obtain ⟨h68, h⟩ := h
  obtain ⟨M69, e70⟩ : ∃ M69, M69 = mUR M65 a0 8 (mZ M61) := ⟨_, rfl⟩
  replace h := h M69 e70
  obtain ⟨M71, e72⟩ : ∃ M71, M71 = mNew M69 11 0 3 := ⟨_, rfl⟩
  replace h := h M71 e72
  have hOM69 : mOk M69 := by rw [e70]; exact mOk_UR hOM65
  refine pf_Sc_40 rfl rfl d_Sc_init_96 h68 e70 ?_
  refine wm_aload_n d_Sc_init_99 rfl rfl ?_
  have hOM71 : mOk M71 := by rw [e72]; exact mOk_New hOM69
  refine nf_Sc_43 rfl d_Sc_init_100 e72 ?_
  refine wm_dup d_Sc_init_103 rfl ?_
  refine cf_Sc_45 rfl d_Sc_init_104 (by rw [e72]; exact if_pos rfl) (Nat.le_of_ble_eq_true rfl) (Cv.mono h (fun M73 h => ?_))
  obtain ⟨hOM73, h⟩ := h
  obtain ⟨h76, h⟩ := h
  obtain ⟨M77, e78⟩ : ∃ M77, M77 = mUR M73 a0 9 (mZ M69) := ⟨_, rfl⟩
  replace h := h M77 e78
  obtain ⟨M79, e80⟩ : ∃ M79, M79 = mNew M77 11 0 3 := ⟨_, rfl⟩
  replace h := h M79 e80
  have hOM77 : mOk M77 := by rw [e78]; exact mOk_UR hOM73
  refine pf_Sc_46 rfl d_Sc_init_107 h76 e78 ?_
  refine wm_aload_n d_Sc_init_110 rfl rfl ?_
  have hOM79 : mOk M79 := by rw [e80]; exact mOk_New hOM77
  refine nf_Sc_43 rfl d_Sc_init_111 e80 ?_
  refine wm_dup d_Sc_init_114 rfl ?_
  refine cf_Sc_45 rfl d_Sc_init_115 (by rw [e80]; exact if_pos rfl) (Nat.le_of_ble_eq_true rfl) (Cv.mono h (fun M81 h => ?_))
  obtain ⟨hOM81, h⟩ := h
  obtain ⟨h84, h⟩ := h
  obtain ⟨M85, e86⟩ : ∃ M85, M85 = mUR M81 a0 10 (mZ M77) := ⟨_, rfl⟩
  replace h := h M85 e86
  have hOM85 : mOk M85 := by rw [e86]; exact mOk_UR hOM81
  refine pf_Sc_50 rfl d_Sc_init_118 h84 e86 ?_
  refine wm_return d_Sc_init_121 rfl ?_
  exact ⟨rfl, h⟩
theorem d_Sc_wholePart_0 : decode y_Sc_wholePart.2.1 0 = .ok (.aload_n 1, 1) := by decide +kernel
theorem d_Sc_wholePart_1 : decode y_Sc_wholePart.2.1 1 = .ok (.aload_n 2, 1) := by decide +kernel
theorem d_Sc_wholePart_2 : decode y_Sc_wholePart.2.1 2 = .ok (.aload_n 0, 1) := by decide +kernel
theorem d_Sc_wholePart_3 : decode y_Sc_wholePart.2.1 3 = .ok (.getfield 21, 3) := by decide +kernel
theorem d_Sc_wholePart_6 : decode y_Sc_wholePart.2.1 6 = .ok (.aload_n 0, 1) := by decide +kernel
theorem d_Sc_wholePart_7 : decode y_Sc_wholePart.2.1 7 = .ok (.getfield 24, 3) := by decide +kernel
theorem d_Sc_wholePart_10 : decode y_Sc_wholePart.2.1 10 = .ok (.invokevirtual 53, 3) := by decide +kernel
theorem d_Sc_wholePart_13 : decode y_Sc_wholePart.2.1 13 = .ok (.aload_n 0, 1) := by decide +kernel
theorem d_Sc_wholePart_14 : decode y_Sc_wholePart.2.1 14 = .ok (.getfield 21, 3) := by decide +kernel
theorem d_Sc_wholePart_17 : decode y_Sc_wholePart.2.1 17 = .ok (.getfield 57, 3) := by decide +kernel
theorem d_Sc_wholePart_20 : decode y_Sc_wholePart.2.1 20 = .ok (.ifCond .ne 7, 3) := by decide +kernel
theorem d_Sc_wholePart_23 : decode y_Sc_wholePart.2.1 23 = .ok (.iconst 0, 1) := by decide +kernel
theorem d_Sc_wholePart_24 : decode y_Sc_wholePart.2.1 24 = .ok (.goto 12, 3) := by decide +kernel
theorem d_Sc_wholePart_27 : decode y_Sc_wholePart.2.1 27 = .ok (.aload_n 0, 1) := by decide +kernel
theorem d_Sc_wholePart_28 : decode y_Sc_wholePart.2.1 28 = .ok (.getfield 21, 3) := by decide +kernel
theorem d_Sc_wholePart_31 : decode y_Sc_wholePart.2.1 31 = .ok (.getfield 61, 3) := by decide +kernel
theorem d_Sc_wholePart_34 : decode y_Sc_wholePart.2.1 34 = .ok (.iconst 0, 1) := by decide +kernel
theorem d_Sc_wholePart_35 : decode y_Sc_wholePart.2.1 35 = .ok (.iaload, 1) := by decide +kernel
theorem d_Sc_wholePart_36 : decode y_Sc_wholePart.2.1 36 = .ok (.ireturn, 1) := by decide +kernel
theorem k_Sc_wholePart {G : mG} {d : Nat} {a0 : Nat} {a1 : Nat} {a2 : Nat} {M : mM} {Q : Int → mM → Prop} (hO : mOk M)
    (h : mK M a0 = 9 ∧ mK M a1 = 10 ∧ Cv G y_Na_divide d [vr a1, vr a2, vr (mR M a0 2), vr (mR M a0 3)] M (fun M3 => mOk M3 ∧ (mK M3 a0 = 9 ∧ mK M3 (mR M3 a0 2) = 10 ∧ (¬ (mI M3 (mR M3 a0 2) 1 = 0) → (mK M3 (mR M3 (mR M3 a0 2) 0) = 30 ∧ ((0 : Int) ≤ 0 ∧ 0 < (mN M3 (mR M3 (mR M3 a0 2) 0) : Int)))) ∧ ∀ v11 : Int, v11 = (if (mI M3 (mR M3 a0 2) 1 = 0) then 0 else mI M3 (mR M3 (mR M3 a0 2) 0) 0) → Q v11 M3))) :
    Ci G y_Sc_wholePart (d + 1) [vr a0, vr a1, vr a2] M Q := by
  refine wm_open (y := y_Sc_wholePart) rfl (Nat.le_of_ble_eq_true rfl) (L := [vr a0, vr a1, vr a2]) rfl ?_
  obtain ⟨h1, h⟩ := h
  obtain ⟨h2, h⟩ := h
  refine wm_aload_n d_Sc_wholePart_0 rfl rfl ?_
  refine wm_aload_n d_Sc_wholePart_1 rfl rfl ?_
  refine wm_aload_n d_Sc_wholePart_2 rfl rfl ?_
  refine gf_Sc_21 rfl d_Sc_wholePart_3 h1 ?_
  refine wm_aload_n d_Sc_wholePart_6 rfl rfl ?_
  refine gf_Sc_24 rfl d_Sc_wholePart_7 h1 ?_
  refine cf_Sc_53 rfl d_Sc_wholePart_10 h2 (Nat.le_of_ble_eq_true rfl) (Cv.mono h (fun M3 h => ?_))
  obtain ⟨hOM3, h⟩ := h
  obtain ⟨h6, h⟩ := h
  obtain ⟨h7, h⟩ := h
  refine wm_aload_n d_Sc_wholePart_13 rfl rfl ?_
  refine gf_Sc_21 rfl d_Sc_wholePart_14 h6 ?_
  refine gf_Sc_57 rfl d_Sc_wholePart_17 h7 ?_
  obtain ⟨s12, h⟩ := h
  have hJ : ∀ v11 : Int, v11 = (if (mI M3 (mR M3 a0 2) 1 = 0) then 0 else mI M3 (mR M3 (mR M3 a0 2) 0) 0) → mWm G y_Sc_wholePart (d + 1) 36 [vd, vd, vd] [vi v11] M3 (fun r9 M9 => ∃ x9, r9 = some (vi x9) ∧ Q x9 M9) := by
    intro v11 e13
    have h := h v11 e13
    refine wm_ireturn d_Sc_wholePart_36 rfl rfl ?_
    exact ⟨_, rfl, h⟩
  clear h
  have s14 := s12
  refine wm_if_ne (tgt := 27) d_Sc_wholePart_20 rfl (hOM3 _ _).1 (fun c8 => ?_) (fun c8 => ?_)
  · have s14 := s14 c8
    obtain ⟨h9, h10⟩ := s14
    refine wm_aload_n d_Sc_wholePart_27 rfl rfl ?_
    refine gf_Sc_21 rfl d_Sc_wholePart_28 h6 ?_
    refine gf_Sc_61 rfl d_Sc_wholePart_31 h7 ?_
    refine wm_iconst d_Sc_wholePart_34 ?_
    refine wm_iald d_Sc_wholePart_35 h9 h10 ?_
    refine wm_less (L' := [vd, vd, vd]) ⟨Or.inl rfl, Or.inl rfl, Or.inl rfl, trivial⟩ ?_
    exact hJ (mI M3 (mR M3 (mR M3 a0 2) 0) 0) (if_neg c8).symm
  · replace c8 := Classical.not_not.mp c8
    refine wm_iconst d_Sc_wholePart_23 ?_
    refine wm_goto (tgt := 36) d_Sc_wholePart_24 rfl ?_
    refine wm_less (L' := [vd, vd, vd]) ⟨Or.inl rfl, Or.inl rfl, Or.inl rfl, trivial⟩ ?_
    exact hJ 0 (if_pos c8).symm
theorem d_Sc_commonDivisor_0 : decode y_Sc_commonDivisor.2.1 0 = .ok (.aload_n 0, 1) := by decide +kernel
theorem d_Sc_commonDivisor_1 : decode y_Sc_commonDivisor.2.1 1 = .ok (.getfield 12, 3) := by decide +kernel
theorem d_Sc_commonDivisor_4 : decode y_Sc_commonDivisor.2.1 4 = .ok (.astore_n 3, 1) := by decide +kernel
theorem d_Sc_commonDivisor_5 : decode y_Sc_commonDivisor.2.1 5 = .ok (.aload_n 0, 1) := by decide +kernel
theorem d_Sc_commonDivisor_6 : decode y_Sc_commonDivisor.2.1 6 = .ok (.getfield 18, 3) := by decide +kernel
theorem d_Sc_commonDivisor_9 : decode y_Sc_commonDivisor.2.1 9 = .ok (.astore 4, 2) := by decide +kernel
theorem d_Sc_commonDivisor_11 : decode y_Sc_commonDivisor.2.1 11 = .ok (.aload_n 1, 1) := by decide +kernel
theorem d_Sc_commonDivisor_12 : decode y_Sc_commonDivisor.2.1 12 = .ok (.aload_n 2, 1) := by decide +kernel
theorem d_Sc_commonDivisor_13 : decode y_Sc_commonDivisor.2.1 13 = .ok (.invokestatic 65, 3) := by decide +kernel
theorem d_Sc_commonDivisor_16 : decode y_Sc_commonDivisor.2.1 16 = .ok (.ifCond .lt 7, 3) := by decide +kernel
theorem d_Sc_commonDivisor_23 : decode y_Sc_commonDivisor.2.1 23 = .ok (.iconst 0, 1) := by decide +kernel
theorem d_Sc_commonDivisor_19 : decode y_Sc_commonDivisor.2.1 19 = .ok (.iconst 1, 1) := by decide +kernel
theorem d_Sc_commonDivisor_20 : decode y_Sc_commonDivisor.2.1 20 = .ok (.goto 4, 3) := by decide +kernel
theorem d_Sc_commonDivisor_24 : decode y_Sc_commonDivisor.2.1 24 = .ok (.istore 5, 2) := by decide +kernel
theorem d_Sc_commonDivisor_26 : decode y_Sc_commonDivisor.2.1 26 = .ok (.aload_n 3, 1) := by decide +kernel
theorem d_Sc_commonDivisor_27 : decode y_Sc_commonDivisor.2.1 27 = .ok (.iload 5, 2) := by decide +kernel
theorem d_Sc_commonDivisor_29 : decode y_Sc_commonDivisor.2.1 29 = .ok (.ifCond .eq 7, 3) := by decide +kernel
theorem d_Sc_commonDivisor_36 : decode y_Sc_commonDivisor.2.1 36 = .ok (.aload_n 2, 1) := by decide +kernel
theorem d_Sc_commonDivisor_32 : decode y_Sc_commonDivisor.2.1 32 = .ok (.aload_n 1, 1) := by decide +kernel
theorem d_Sc_commonDivisor_33 : decode y_Sc_commonDivisor.2.1 33 = .ok (.goto 4, 3) := by decide +kernel
theorem d_Sc_commonDivisor_37 : decode y_Sc_commonDivisor.2.1 37 = .ok (.invokevirtual 69, 3) := by decide +kernel
theorem d_Sc_commonDivisor_40 : decode y_Sc_commonDivisor.2.1 40 = .ok (.aload 4, 2) := by decide +kernel
theorem d_Sc_commonDivisor_42 : decode y_Sc_commonDivisor.2.1 42 = .ok (.iload 5, 2) := by decide +kernel
theorem d_Sc_commonDivisor_44 : decode y_Sc_commonDivisor.2.1 44 = .ok (.ifCond .eq 7, 3) := by decide +kernel
theorem d_Sc_commonDivisor_51 : decode y_Sc_commonDivisor.2.1 51 = .ok (.aload_n 1, 1) := by decide +kernel
theorem d_Sc_commonDivisor_47 : decode y_Sc_commonDivisor.2.1 47 = .ok (.aload_n 2, 1) := by decide +kernel
theorem d_Sc_commonDivisor_48 : decode y_Sc_commonDivisor.2.1 48 = .ok (.goto 4, 3) := by decide +kernel
theorem d_Sc_commonDivisor_52 : decode y_Sc_commonDivisor.2.1 52 = .ok (.invokevirtual 69, 3) := by decide +kernel
theorem d_Sc_commonDivisor_55 : decode y_Sc_commonDivisor.2.1 55 = .ok (.iconst 0, 1) := by decide +kernel
theorem d_Sc_commonDivisor_56 : decode y_Sc_commonDivisor.2.1 56 = .ok (.istore 6, 2) := by decide +kernel
theorem d_Sc_commonDivisor_58 : decode y_Sc_commonDivisor.2.1 58 = .ok (.iload 6, 2) := by decide +kernel
theorem d_Sc_commonDivisor_60 : decode y_Sc_commonDivisor.2.1 60 = .ok (.ldc 73, 2) := by decide +kernel
theorem d_Sc_commonDivisor_62 : decode y_Sc_commonDivisor.2.1 62 = .ok (.if_icmp .ge 111, 3) := by decide +kernel
theorem d_Sc_commonDivisor_65 : decode y_Sc_commonDivisor.2.1 65 = .ok (.aload 4, 2) := by decide +kernel
theorem d_Sc_commonDivisor_67 : decode y_Sc_commonDivisor.2.1 67 = .ok (.getfield 57, 3) := by decide +kernel
theorem d_Sc_commonDivisor_70 : decode y_Sc_commonDivisor.2.1 70 = .ok (.ifCond .le 103, 3) := by decide +kernel
theorem d_Sc_commonDivisor_73 : decode y_Sc_commonDivisor.2.1 73 = .ok (.aload_n 3, 1) := by decide +kernel
theorem d_Sc_commonDivisor_74 : decode y_Sc_commonDivisor.2.1 74 = .ok (.getfield 57, 3) := by decide +kernel
theorem d_Sc_commonDivisor_77 : decode y_Sc_commonDivisor.2.1 77 = .ok (.iconst 3, 1) := by decide +kernel
theorem d_Sc_commonDivisor_78 : decode y_Sc_commonDivisor.2.1 78 = .ok (.if_icmp .ge 23, 3) := by decide +kernel
theorem d_Sc_commonDivisor_101 : decode y_Sc_commonDivisor.2.1 101 = .ok (.aload_n 3, 1) := by decide +kernel
theorem d_Sc_commonDivisor_81 : decode y_Sc_commonDivisor.2.1 81 = .ok (.aload_n 3, 1) := by decide +kernel
theorem d_Sc_commonDivisor_82 : decode y_Sc_commonDivisor.2.1 82 = .ok (.aload_n 3, 1) := by decide +kernel
theorem d_Sc_commonDivisor_83 : decode y_Sc_commonDivisor.2.1 83 = .ok (.iconst 0, 1) := by decide +kernel
theorem d_Sc_commonDivisor_173 : decode y_Sc_commonDivisor.2.1 173 = .ok (.aload_n 3, 1) := by decide +kernel
theorem d_Sc_commonDivisor_174 : decode y_Sc_commonDivisor.2.1 174 = .ok (.areturn, 1) := by decide +kernel
theorem d_Sc_commonDivisor_102 : decode y_Sc_commonDivisor.2.1 102 = .ok (.invokevirtual 88, 3) := by decide +kernel
theorem d_Sc_commonDivisor_105 : decode y_Sc_commonDivisor.2.1 105 = .ok (.bipush 60, 2) := by decide +kernel
theorem d_Sc_commonDivisor_107 : decode y_Sc_commonDivisor.2.1 107 = .ok (.isub, 1) := by decide +kernel
theorem d_Sc_commonDivisor_108 : decode y_Sc_commonDivisor.2.1 108 = .ok (.istore 7, 2) := by decide +kernel
theorem d_Sc_commonDivisor_110 : decode y_Sc_commonDivisor.2.1 110 = .ok (.aload_n 0, 1) := by decide +kernel
theorem d_Sc_commonDivisor_111 : decode y_Sc_commonDivisor.2.1 111 = .ok (.aload_n 3, 1) := by decide +kernel
theorem d_Sc_commonDivisor_112 : decode y_Sc_commonDivisor.2.1 112 = .ok (.iload 7, 2) := by decide +kernel
theorem d_Sc_commonDivisor_114 : decode y_Sc_commonDivisor.2.1 114 = .ok (.invokevirtual 74, 3) := by decide +kernel
theorem d_Sc_commonDivisor_117 : decode y_Sc_commonDivisor.2.1 117 = .ok (.aload 4, 2) := by decide +kernel
theorem d_Sc_commonDivisor_119 : decode y_Sc_commonDivisor.2.1 119 = .ok (.iload 7, 2) := by decide +kernel
theorem d_Sc_commonDivisor_121 : decode y_Sc_commonDivisor.2.1 121 = .ok (.invokevirtual 74, 3) := by decide +kernel
theorem d_Sc_commonDivisor_124 : decode y_Sc_commonDivisor.2.1 124 = .ok (.invokevirtual 92, 3) := by decide +kernel
theorem d_Sc_commonDivisor_127 : decode y_Sc_commonDivisor.2.1 127 = .ok (.ifCond .eq 16, 3) := by decide +kernel
theorem d_Sc_commonDivisor_143 : decode y_Sc_commonDivisor.2.1 143 = .ok (.aload_n 3, 1) := by decide +kernel
theorem d_Sc_commonDivisor_144 : decode y_Sc_commonDivisor.2.1 144 = .ok (.aload 4, 2) := by decide +kernel
theorem d_Sc_commonDivisor_146 : decode y_Sc_commonDivisor.2.1 146 = .ok (.aload_n 0, 1) := by decide +kernel
theorem d_Sc_commonDivisor_147 : decode y_Sc_commonDivisor.2.1 147 = .ok (.getfield 21, 3) := by decide +kernel
theorem d_Sc_commonDivisor_150 : decode y_Sc_commonDivisor.2.1 150 = .ok (.aload_n 0, 1) := by decide +kernel
theorem d_Sc_commonDivisor_151 : decode y_Sc_commonDivisor.2.1 151 = .ok (.getfield 24, 3) := by decide +kernel
theorem d_Sc_commonDivisor_130 : decode y_Sc_commonDivisor.2.1 130 = .ok (.aload_n 3, 1) := by decide +kernel
theorem d_Sc_commonDivisor_131 : decode y_Sc_commonDivisor.2.1 131 = .ok (.aload 4, 2) := by decide +kernel
theorem d_Sc_commonDivisor_133 : decode y_Sc_commonDivisor.2.1 133 = .ok (.aload_n 0, 1) := by decide +kernel
theorem d_Sc_commonDivisor_134 : decode y_Sc_commonDivisor.2.1 134 = .ok (.getfield 33, 3) := by decide +kernel
theorem d_Sc_commonDivisor_154 : decode y_Sc_commonDivisor.2.1 154 = .ok (.invokevirtual 53, 3) := by decide +kernel
theorem d_Sc_commonDivisor_157 : decode y_Sc_commonDivisor.2.1 157 = .ok (.aload_n 3, 1) := by decide +kernel
theorem d_Sc_commonDivisor_158 : decode y_Sc_commonDivisor.2.1 158 = .ok (.astore 8, 2) := by decide +kernel
theorem d_Sc_commonDivisor_160 : decode y_Sc_commonDivisor.2.1 160 = .ok (.aload 4, 2) := by decide +kernel
theorem d_Sc_commonDivisor_162 : decode y_Sc_commonDivisor.2.1 162 = .ok (.astore_n 3, 1) := by decide +kernel
theorem d_Sc_commonDivisor_163 : decode y_Sc_commonDivisor.2.1 163 = .ok (.aload 8, 2) := by decide +kernel
theorem d_Sc_commonDivisor_165 : decode y_Sc_commonDivisor.2.1 165 = .ok (.astore 4, 2) := by decide +kernel
theorem d_Sc_commonDivisor_167 : decode y_Sc_commonDivisor.2.1 167 = .ok (.iinc 6 1, 3) := by decide +kernel
theorem d_Sc_commonDivisor_170 : decode y_Sc_commonDivisor.2.1 170 = .ok (.goto (-112), 3) := by decide +kernel
theorem d_Sc_commonDivisor_137 : decode y_Sc_commonDivisor.2.1 137 = .ok (.invokestatic 96, 3) := by decide +kernel
theorem d_Sc_commonDivisor_140 : decode y_Sc_commonDivisor.2.1 140 = .ok (.goto 27, 3) := by decide +kernel
theorem d_Sc_commonDivisor_84 : decode y_Sc_commonDivisor.2.1 84 = .ok (.invokevirtual 74, 3) := by decide +kernel
theorem d_Sc_commonDivisor_87 : decode y_Sc_commonDivisor.2.1 87 = .ok (.aload 4, 2) := by decide +kernel
theorem d_Sc_commonDivisor_89 : decode y_Sc_commonDivisor.2.1 89 = .ok (.iconst 0, 1) := by decide +kernel
theorem d_Sc_commonDivisor_90 : decode y_Sc_commonDivisor.2.1 90 = .ok (.invokevirtual 74, 3) := by decide +kernel
theorem d_Sc_commonDivisor_93 : decode y_Sc_commonDivisor.2.1 93 = .ok (.invokestatic 78, 3) := by decide +kernel
theorem d_Sc_commonDivisor_96 : decode y_Sc_commonDivisor.2.1 96 = .ok (.invokevirtual 84, 3) := by decide +kernel
theorem d_Sc_commonDivisor_99 : decode y_Sc_commonDivisor.2.1 99 = .ok (.aload_n 3, 1) := by decide +kernel
theorem d_Sc_commonDivisor_100 : decode y_Sc_commonDivisor.2.1 100 = .ok (.areturn, 1) := by decide +kernel
def h_Sc_commonDivisor_58 (G : mG) (d : Nat) (a0 : Nat) (a3 : Nat) (a4 : Nat) (l6 : Int) (M : mM) (Q : Nat → mM → Prop) : Prop := mWm G y_Sc_commonDivisor (d + 1) 58 [vr a0, vd, vd, vr a3, vr a4, vd, vi l6, vd, vd] [] M (fun r9 M9 => ∃ x9, r9 = some (vr x9) ∧ Q x9 M9)
theorem k_Sc_commonDivisor {G : mG} {d : Nat} {a0 : Nat} {a1 : Nat} {a2 : Nat} {M : mM} {Q : Nat → mM → Prop} (hO : mOk M)
    (h : mK M a0 = 9 ∧ Ci G y_Na_order d [vr a1, vr a2] M (fun x3 M2 => i32 x3 ∧ mOk M2 ∧ (∀ v6 : Int, v6 = (if (x3 < 0) then 0 else 1) → ∀ v12 : Nat, v12 = (if (v6 = 0) then a2 else a1) → mK M2 (mR M a0 0) = 10 ∧ Cv G y_Na_put1 d [vr (mR M a0 0), vr v12] M2 (fun M16 => mOk M16 ∧ (∀ v20 : Nat, v20 = (if (v6 = 0) then a1 else a2) → mK M16 (mR M a0 1) = 10 ∧ Cv G y_Na_put1 d [vr (mR M a0 1), vr v20] M16 (fun M24 => mOk M24 ∧ (h_Sc_commonDivisor_58 G d a0 (mR M a0 0) (mR M a0 1) 0 M24 Q))))))) :
    Cr G y_Sc_commonDivisor (d + 1) [vr a0, vr a1, vr a2] M Q := by
  refine wm_open (y := y_Sc_commonDivisor) rfl (Nat.le_of_ble_eq_true rfl) (L := [vr a0, vr a1, vr a2, vd, vd, vd, vd, vd, vd]) rfl ?_
  obtain ⟨h1, h⟩ := h
  refine wm_aload_n d_Sc_commonDivisor_0 rfl rfl ?_
  refine gf_Sc_12 rfl d_Sc_commonDivisor_1 h1 ?_
  refine wm_astore_n d_Sc_commonDivisor_4 rfl (by decide) (L' := [vr a0, vr a1, vr a2, vr (mR M a0 0), vd, vd, vd, vd, vd]) rfl ?_
  refine wm_aload_n d_Sc_commonDivisor_5 rfl rfl ?_
  refine gf_Sc_18 rfl d_Sc_commonDivisor_6 h1 ?_
  refine wm_astore d_Sc_commonDivisor_9 (by decide) (L' := [vr a0, vr a1, vr a2, vr (mR M a0 0), vr (mR M a0 1), vd, vd, vd, vd]) rfl ?_
  refine wm_aload_n d_Sc_commonDivisor_11 rfl rfl ?_
  refine wm_aload_n d_Sc_commonDivisor_12 rfl rfl ?_
  refine cf_Sc_65 rfl d_Sc_commonDivisor_13 (Nat.le_of_ble_eq_true rfl) (Ci.mono h (fun x3 M2 h => ?_))
  obtain ⟨h4, hOM2, h⟩ := h
  have hJ : ∀ v6 : Int, v6 = (if (x3 < 0) then 0 else 1) → mWm G y_Sc_commonDivisor (d + 1) 24 [vr a0, vr a1, vr a2, vr (mR M a0 0), vr (mR M a0 1), vd, vd, vd, vd] [vi v6] M2 (fun r9 M9 => ∃ x9, r9 = some (vr x9) ∧ Q x9 M9) := by
    intro v6 e8
    have h := h v6 e8
    have h9 : i32 v6 := by rw [e8]; (repeat' split) <;> first | exact ⟨by decide, by decide⟩ | exact ⟨by decide, by decide⟩
    have h10 : (v6 = 0 ∨ v6 = 1) := by rw [e8]; (repeat' split) <;> decide
    refine wm_istore d_Sc_commonDivisor_24 (by decide) (L' := [vr a0, vr a1, vr a2, vr (mR M a0 0), vr (mR M a0 1), vi v6, vd, vd, vd]) rfl ?_
    refine wm_aload_n d_Sc_commonDivisor_26 rfl rfl ?_
    refine wm_iload d_Sc_commonDivisor_27 rfl ?_
    have hJ : ∀ v12 : Nat, v12 = (if (v6 = 0) then a2 else a1) → mWm G y_Sc_commonDivisor (d + 1) 37 [vr a0, vr a1, vr a2, vr (mR M a0 0), vr (mR M a0 1), vi v6, vd, vd, vd] [vr v12, vr (mR M a0 0)] M2 (fun r9 M9 => ∃ x9, r9 = some (vr x9) ∧ Q x9 M9) := by
      intro v12 e14
      have h := h v12 e14
      obtain ⟨h15, h⟩ := h
      refine cf_Sc_69 rfl d_Sc_commonDivisor_37 h15 (Nat.le_of_ble_eq_true rfl) (Cv.mono h (fun M16 h => ?_))
      obtain ⟨hOM16, h⟩ := h
      refine wm_aload d_Sc_commonDivisor_40 rfl ?_
      refine wm_iload d_Sc_commonDivisor_42 rfl ?_
      have hJ : ∀ v20 : Nat, v20 = (if (v6 = 0) then a1 else a2) → mWm G y_Sc_commonDivisor (d + 1) 52 [vr a0, vd, vd, vr (mR M a0 0), vr (mR M a0 1), vd, vd, vd, vd] [vr v20, vr (mR M a0 1)] M16 (fun r9 M9 => ∃ x9, r9 = some (vr x9) ∧ Q x9 M9) := by
        intro v20 e22
        have h := h v20 e22
        obtain ⟨h23, h⟩ := h
        refine cf_Sc_69 rfl d_Sc_commonDivisor_52 h23 (Nat.le_of_ble_eq_true rfl) (Cv.mono h (fun M24 h => ?_))
        obtain ⟨hOM24, h⟩ := h
        refine wm_iconst d_Sc_commonDivisor_55 ?_
        refine wm_istore d_Sc_commonDivisor_56 (by decide) (L' := [vr a0, vd, vd, vr (mR M a0 0), vr (mR M a0 1), vd, vi 0, vd, vd]) rfl ?_
        exact h
      clear h
      refine wm_if_eq (tgt := 51) d_Sc_commonDivisor_44 rfl h9 (fun c19 => ?_) (fun c19 => ?_)
      · refine wm_aload_n d_Sc_commonDivisor_51 rfl rfl ?_
        refine wm_less (L' := [vr a0, vd, vd, vr (mR M a0 0), vr (mR M a0 1), vd, vd, vd, vd]) ⟨Or.inr rfl, Or.inl rfl, Or.inl rfl, Or.inr rfl, Or.inr rfl, Or.inl rfl, Or.inl rfl, Or.inl rfl, Or.inl rfl, trivial⟩ ?_
        exact hJ a1 (if_pos c19).symm
      · refine wm_aload_n d_Sc_commonDivisor_47 rfl rfl ?_
        refine wm_goto (tgt := 52) d_Sc_commonDivisor_48 rfl ?_
        refine wm_less (L' := [vr a0, vd, vd, vr (mR M a0 0), vr (mR M a0 1), vd, vd, vd, vd]) ⟨Or.inr rfl, Or.inl rfl, Or.inl rfl, Or.inr rfl, Or.inr rfl, Or.inl rfl, Or.inl rfl, Or.inl rfl, Or.inl rfl, trivial⟩ ?_
        exact hJ a2 (if_neg c19).symm
    clear h
    refine wm_if_eq (tgt := 36) d_Sc_commonDivisor_29 rfl h9 (fun c11 => ?_) (fun c11 => ?_)
    · refine wm_aload_n d_Sc_commonDivisor_36 rfl rfl ?_
      exact hJ a2 (if_pos c11).symm
    · refine wm_aload_n d_Sc_commonDivisor_32 rfl rfl ?_
      refine wm_goto (tgt := 37) d_Sc_commonDivisor_33 rfl ?_
      exact hJ a1 (if_neg c11).symm
  clear h
  refine wm_if_lt (tgt := 23) d_Sc_commonDivisor_16 rfl h4 (fun c5 => ?_) (fun c5 => ?_)
  · refine wm_iconst d_Sc_commonDivisor_23 ?_
    exact hJ 0 (if_pos c5).symm
  · refine wm_iconst d_Sc_commonDivisor_19 ?_
    refine wm_goto (tgt := 24) d_Sc_commonDivisor_20 rfl ?_
    exact hJ 1 (if_neg c5).symm
theorem k_Sc_commonDivisor_58 {G : mG} {d : Nat} {a0 : Nat} {a3 : Nat} {a4 : Nat} {l6 : Int} {M : mM} {Q : Nat → mM → Prop} (hO : mOk M) (hi_l6 : i32 l6)
    (h : (¬ (1000000 ≤ l6) → mK M a4 = 10) ∧ (((1000000 ≤ l6) ∨ (mI M a4 1 ≤ 0)) → (Q a3 M)) ∧ (¬ ((1000000 ≤ l6) ∨ (mI M a4 1 ≤ 0)) → (mK M a3 = 10 ∧ ((3 ≤ mI M a3 1) → (Ci G y_Na_bits d [vr a3] M (fun x42 M41 => i32 x42 ∧ mOk M41 ∧ (mK M41 a3 = 10 ∧ Cj G y_Na_bitsFrom d [vr a3, vi (x42 - 60)] M41 (fun x46 M45 => i64 x46 ∧ mOk M45 ∧ (mK M45 a4 = 10 ∧ Cj G y_Na_bitsFrom d [vr a4, vi (x42 - 60)] M45 (fun x50 M49 => i64 x50 ∧ mOk M49 ∧ (mK M49 a0 = 9 ∧ Ci G y_Sc_findFactors d [vr a0, vl x46, vl x50] M49 (fun x54 M53 => i32 x54 ∧ mOk M53 ∧ (((x54 = 0) → (mK M53 a0 = 9 ∧ mK M53 a3 = 10 ∧ Cv G y_Na_divide d [vr a3, vr a4, vr (mR M53 a0 2), vr (mR M53 a0 3)] M53 (fun M62 => mOk M62 ∧ (h_Sc_commonDivisor_58 G d a0 a4 a3 (l6 + 1) M62 Q)))) ∧ (¬ (x54 = 0) → (mK M53 a0 = 9 ∧ Cv G y_Na_combine d [vr a3, vr a4, vr (mR M53 a0 6)] M53 (fun M66 => mOk M66 ∧ (h_Sc_commonDivisor_58 G d a0 a3 a4 (l6 + 1) M66 Q)))))))))))))) ∧ (¬ (3 ≤ mI M a3 1) → (Cj G y_Na_bitsFrom d [vr a3, vi 0] M (fun x70 M69 => i64 x70 ∧ mOk M69 ∧ (mK M69 a4 = 10 ∧ Cj G y_Na_bitsFrom d [vr a4, vi 0] M69 (fun x74 M73 => i64 x74 ∧ mOk M73 ∧ (Cj G y_Ma_commonDivisor d [vl x70, vl x74] M73 (fun x77 M76 => i64 x77 ∧ mOk M76 ∧ (mK M76 a3 = 10 ∧ Cv G y_Na_putLong d [vr a3, vl x77] M76 (fun M80 => mOk M80 ∧ (Q a3 M80))))))))))))) :
    h_Sc_commonDivisor_58 G d a0 a3 a4 l6 M Q := by
  unfold h_Sc_commonDivisor_58
  refine wm_iload d_Sc_commonDivisor_58 rfl ?_
  refine wm_ldc (x := 1000000) d_Sc_commonDivisor_60 k5_215 (by decide) ?_
  obtain ⟨s35, h⟩ := h
  have hE0 : ((1000000 ≤ l6) ∨ (mI M a4 1 ≤ 0)) → mWm G y_Sc_commonDivisor (d + 1) 173 [vr a0, vd, vd, vr a3, vr a4, vd, vi l6, vd, vd] [] M (fun r9 M9 => ∃ x9, r9 = some (vr x9) ∧ Q x9 M9) := by
    intro q36
    have h := h.1 q36
    refine wm_aload_n d_Sc_commonDivisor_173 rfl rfl ?_
    refine wm_areturn d_Sc_commonDivisor_174 rfl (Or.inl ⟨_, rfl⟩) ?_
    exact ⟨_, rfl, h⟩
  have hE1 : ¬ ((1000000 ≤ l6) ∨ (mI M a4 1 ≤ 0)) → mWm G y_Sc_commonDivisor (d + 1) 73 [vr a0, vd, vd, vr a3, vr a4, vd, vi l6, vd, vd] [] M (fun r9 M9 => ∃ x9, r9 = some (vr x9) ∧ Q x9 M9) := by
    intro q37
    have h := h.2 q37
    obtain ⟨h38, h⟩ := h
    refine wm_aload_n d_Sc_commonDivisor_73 rfl rfl ?_
    refine gf_Sc_57 rfl d_Sc_commonDivisor_74 h38 ?_
    refine wm_iconst d_Sc_commonDivisor_77 ?_
    refine wm_icmp_ge (tgt := 101) d_Sc_commonDivisor_78 rfl (hO _ _).1 ⟨by decide, by decide⟩ (fun c40 => ?_) (fun c40 => ?_)
    · replace h := h.1 c40
      refine wm_aload_n d_Sc_commonDivisor_101 rfl rfl ?_
      refine cf_Sc_88 rfl d_Sc_commonDivisor_102 h38 (Nat.le_of_ble_eq_true rfl) (Ci.mono h (fun x42 M41 h => ?_))
      obtain ⟨h43, hOM41, h⟩ := h
      obtain ⟨h44, h⟩ := h
      refine wm_bipush d_Sc_commonDivisor_105 (by decide) ?_
      refine wm_isub d_Sc_commonDivisor_107 ?_
      refine wm_istore d_Sc_commonDivisor_108 (by decide) (L' := [vr a0, vd, vd, vr a3, vr a4, vd, vi l6, vi (x42 - 60), vd]) rfl ?_
      refine wm_aload_n d_Sc_commonDivisor_110 rfl rfl ?_
      refine wm_aload_n d_Sc_commonDivisor_111 rfl rfl ?_
      refine wm_iload d_Sc_commonDivisor_112 rfl ?_
      refine cf_Sc_74 rfl d_Sc_commonDivisor_114 h44 (Nat.le_of_ble_eq_true rfl) (Cj.mono h (fun x46 M45 h => ?_))
      obtain ⟨h47, hOM45, h⟩ := h
      obtain ⟨h48, h⟩ := h
      refine wm_aload d_Sc_commonDivisor_117 rfl ?_
      refine wm_iload d_Sc_commonDivisor_119 rfl ?_
      refine cf_Sc_74 rfl d_Sc_commonDivisor_121 h48 (Nat.le_of_ble_eq_true rfl) (Cj.mono h (fun x50 M49 h => ?_))
      obtain ⟨h51, hOM49, h⟩ := h
      obtain ⟨h52, h⟩ := h
      refine cf_Sc_92 rfl d_Sc_commonDivisor_124 h52 (Nat.le_of_ble_eq_true rfl) (Ci.mono h (fun x54 M53 h => ?_))
      obtain ⟨h55, hOM53, h⟩ := h
      refine wm_if_eq (tgt := 143) d_Sc_commonDivisor_127 rfl h55 (fun c59 => ?_) (fun c59 => ?_)
      · replace h := h.1 c59
        obtain ⟨h60, h⟩ := h
        obtain ⟨h61, h⟩ := h
        refine wm_aload_n d_Sc_commonDivisor_143 rfl rfl ?_
        refine wm_aload d_Sc_commonDivisor_144 rfl ?_
        refine wm_aload_n d_Sc_commonDivisor_146 rfl rfl ?_
        refine gf_Sc_21 rfl d_Sc_commonDivisor_147 h60 ?_
        refine wm_aload_n d_Sc_commonDivisor_150 rfl rfl ?_
        refine gf_Sc_24 rfl d_Sc_commonDivisor_151 h60 ?_
        refine cf_Sc_53 rfl d_Sc_commonDivisor_154 h61 (Nat.le_of_ble_eq_true rfl) (Cv.mono h (fun M62 h => ?_))
        obtain ⟨hOM62, h⟩ := h
        refine wm_aload_n d_Sc_commonDivisor_157 rfl rfl ?_
        refine wm_astore d_Sc_commonDivisor_158 (by decide) (L' := [vr a0, vd, vd, vr a3, vr a4, vd, vi l6, vi (x42 - 60), vr a3]) rfl ?_
        refine wm_aload d_Sc_commonDivisor_160 rfl ?_
        refine wm_astore_n d_Sc_commonDivisor_162 rfl (by decide) (L' := [vr a0, vd, vd, vr a4, vr a4, vd, vi l6, vi (x42 - 60), vr a3]) rfl ?_
        refine wm_aload d_Sc_commonDivisor_163 rfl ?_
        refine wm_astore d_Sc_commonDivisor_165 (by decide) (L' := [vr a0, vd, vd, vr a4, vr a3, vd, vi l6, vi (x42 - 60), vr a3]) rfl ?_
        refine wm_iinc d_Sc_commonDivisor_167 (by decide) rfl (L' := [vr a0, vd, vd, vr a4, vr a3, vd, vi (l6 + 1), vi (x42 - 60), vr a3]) rfl ?_
        refine wm_goto (tgt := 58) d_Sc_commonDivisor_170 rfl ?_
        refine wm_less (L' := [vr a0, vd, vd, vr a4, vr a3, vd, vi (l6 + 1), vd, vd]) ⟨Or.inr rfl, Or.inl rfl, Or.inl rfl, Or.inr rfl, Or.inr rfl, Or.inl rfl, Or.inr rfl, Or.inl rfl, Or.inl rfl, trivial⟩ ?_
        exact h
      · replace h := h.2 c59
        obtain ⟨h65, h⟩ := h
        refine wm_aload_n d_Sc_commonDivisor_130 rfl rfl ?_
        refine wm_aload d_Sc_commonDivisor_131 rfl ?_
        refine wm_aload_n d_Sc_commonDivisor_133 rfl rfl ?_
        refine gf_Sc_33 rfl d_Sc_commonDivisor_134 h65 ?_
        refine cf_Sc_96 rfl d_Sc_commonDivisor_137 (Nat.le_of_ble_eq_true rfl) (Cv.mono h (fun M66 h => ?_))
        obtain ⟨hOM66, h⟩ := h
        refine wm_goto (tgt := 167) d_Sc_commonDivisor_140 rfl ?_
        refine wm_iinc d_Sc_commonDivisor_167 (by decide) rfl (L' := [vr a0, vd, vd, vr a3, vr a4, vd, vi (l6 + 1), vi (x42 - 60), vd]) rfl ?_
        refine wm_goto (tgt := 58) d_Sc_commonDivisor_170 rfl ?_
        refine wm_less (L' := [vr a0, vd, vd, vr a3, vr a4, vd, vi (l6 + 1), vd, vd]) ⟨Or.inr rfl, Or.inl rfl, Or.inl rfl, Or.inr rfl, Or.inr rfl, Or.inl rfl, Or.inr rfl, Or.inl rfl, Or.inl rfl, trivial⟩ ?_
        exact h
    · replace h := h.2 c40
      refine wm_aload_n d_Sc_commonDivisor_81 rfl rfl ?_
      refine wm_aload_n d_Sc_commonDivisor_82 rfl rfl ?_
      refine wm_iconst d_Sc_commonDivisor_83 ?_
      refine cf_Sc_74 rfl d_Sc_commonDivisor_84 h38 (Nat.le_of_ble_eq_true rfl) (Cj.mono h (fun x70 M69 h => ?_))
      obtain ⟨h71, hOM69, h⟩ := h
      obtain ⟨h72, h⟩ := h
      refine wm_aload d_Sc_commonDivisor_87 rfl ?_
      refine wm_iconst d_Sc_commonDivisor_89 ?_
      refine cf_Sc_74 rfl d_Sc_commonDivisor_90 h72 (Nat.le_of_ble_eq_true rfl) (Cj.mono h (fun x74 M73 h => ?_))
      obtain ⟨h75, hOM73, h⟩ := h
      refine cf_Sc_78 rfl d_Sc_commonDivisor_93 (Nat.le_of_ble_eq_true rfl) (Cj.mono h (fun x77 M76 h => ?_))
      obtain ⟨h78, hOM76, h⟩ := h
      obtain ⟨h79, h⟩ := h
      refine cf_Sc_84 rfl d_Sc_commonDivisor_96 h79 (Nat.le_of_ble_eq_true rfl) (Cv.mono h (fun M80 h => ?_))
      obtain ⟨hOM80, h⟩ := h
      refine wm_aload_n d_Sc_commonDivisor_99 rfl rfl ?_
      refine wm_areturn d_Sc_commonDivisor_100 rfl (Or.inl ⟨_, rfl⟩) ?_
      exact ⟨_, rfl, h⟩
  clear h
  have s83 := s35
  refine wm_icmp_ge (tgt := 173) d_Sc_commonDivisor_62 rfl hi_l6 ⟨by decide, by decide⟩ (fun c34 => ?_) (fun c34 => ?_)
  · exact hE0 (Or.inl c34)
  · have s83 := s83 c34
    have h30 := s83
    refine wm_aload d_Sc_commonDivisor_65 rfl ?_
    refine gf_Sc_57 rfl d_Sc_commonDivisor_67 h30 ?_
    refine wm_if_le (tgt := 173) d_Sc_commonDivisor_70 rfl (hO _ _).1 (fun c33 => ?_) (fun c33 => ?_)
    · exact hE0 (Or.inr c33)
    · exact hE1 (fun z84 => Or.elim z84 c34 c33)
theorem d_Sc_findFactors_0 : decode y_Sc_findFactors.2.1 0 = .ok (.lload_n 1, 1) := by decide +kernel
theorem d_Sc_findFactors_1 : decode y_Sc_findFactors.2.1 1 = .ok (.lstore 5, 2) := by decide +kernel
theorem d_Sc_findFactors_3 : decode y_Sc_findFactors.2.1 3 = .ok (.lload_n 3, 1) := by decide +kernel
theorem d_Sc_findFactors_4 : decode y_Sc_findFactors.2.1 4 = .ok (.lstore 7, 2) := by decide +kernel
theorem d_Sc_findFactors_6 : decode y_Sc_findFactors.2.1 6 = .ok (.lconst 1, 1) := by decide +kernel
theorem d_Sc_findFactors_7 : decode y_Sc_findFactors.2.1 7 = .ok (.lstore 9, 2) := by decide +kernel
theorem d_Sc_findFactors_9 : decode y_Sc_findFactors.2.1 9 = .ok (.lconst 0, 1) := by decide +kernel
theorem d_Sc_findFactors_10 : decode y_Sc_findFactors.2.1 10 = .ok (.lstore 11, 2) := by decide +kernel
theorem d_Sc_findFactors_12 : decode y_Sc_findFactors.2.1 12 = .ok (.lconst 0, 1) := by decide +kernel
theorem d_Sc_findFactors_13 : decode y_Sc_findFactors.2.1 13 = .ok (.lstore 13, 2) := by decide +kernel
theorem d_Sc_findFactors_15 : decode y_Sc_findFactors.2.1 15 = .ok (.lconst 1, 1) := by decide +kernel
theorem d_Sc_findFactors_16 : decode y_Sc_findFactors.2.1 16 = .ok (.lstore 15, 2) := by decide +kernel
theorem d_Sc_findFactors_18 : decode y_Sc_findFactors.2.1 18 = .ok (.iconst 0, 1) := by decide +kernel
theorem d_Sc_findFactors_19 : decode y_Sc_findFactors.2.1 19 = .ok (.istore 17, 2) := by decide +kernel
theorem d_Sc_findFactors_21 : decode y_Sc_findFactors.2.1 21 = .ok (.iload 17, 2) := by decide +kernel
theorem d_Sc_findFactors_23 : decode y_Sc_findFactors.2.1 23 = .ok (.bipush 100, 2) := by decide +kernel
theorem d_Sc_findFactors_25 : decode y_Sc_findFactors.2.1 25 = .ok (.if_icmp .ge 152, 3) := by decide +kernel
theorem d_Sc_findFactors_28 : decode y_Sc_findFactors.2.1 28 = .ok (.lload 7, 2) := by decide +kernel
theorem d_Sc_findFactors_30 : decode y_Sc_findFactors.2.1 30 = .ok (.lload 13, 2) := by decide +kernel
theorem d_Sc_findFactors_32 : decode y_Sc_findFactors.2.1 32 = .ok (.ladd, 1) := by decide +kernel
theorem d_Sc_findFactors_33 : decode y_Sc_findFactors.2.1 33 = .ok (.lconst 0, 1) := by decide +kernel
theorem d_Sc_findFactors_34 : decode y_Sc_findFactors.2.1 34 = .ok (.lcmp, 1) := by decide +kernel
theorem d_Sc_findFactors_35 : decode y_Sc_findFactors.2.1 35 = .ok (.ifCond .eq 142, 3) := by decide +kernel
theorem d_Sc_findFactors_38 : decode y_Sc_findFactors.2.1 38 = .ok (.lload 7, 2) := by decide +kernel
theorem d_Sc_findFactors_40 : decode y_Sc_findFactors.2.1 40 = .ok (.lload 15, 2) := by decide +kernel
theorem d_Sc_findFactors_42 : decode y_Sc_findFactors.2.1 42 = .ok (.ladd, 1) := by decide +kernel
theorem d_Sc_findFactors_43 : decode y_Sc_findFactors.2.1 43 = .ok (.lconst 0, 1) := by decide +kernel
theorem d_Sc_findFactors_44 : decode y_Sc_findFactors.2.1 44 = .ok (.lcmp, 1) := by decide +kernel
theorem d_Sc_findFactors_45 : decode y_Sc_findFactors.2.1 45 = .ok (.ifCond .eq 132, 3) := by decide +kernel
theorem d_Sc_findFactors_48 : decode y_Sc_findFactors.2.1 48 = .ok (.lload 5, 2) := by decide +kernel
theorem d_Sc_findFactors_50 : decode y_Sc_findFactors.2.1 50 = .ok (.lload 9, 2) := by decide +kernel
theorem d_Sc_findFactors_52 : decode y_Sc_findFactors.2.1 52 = .ok (.ladd, 1) := by decide +kernel
theorem d_Sc_findFactors_53 : decode y_Sc_findFactors.2.1 53 = .ok (.lload 7, 2) := by decide +kernel
theorem d_Sc_findFactors_55 : decode y_Sc_findFactors.2.1 55 = .ok (.lload 13, 2) := by decide +kernel
theorem d_Sc_findFactors_57 : decode y_Sc_findFactors.2.1 57 = .ok (.ladd, 1) := by decide +kernel
theorem d_Sc_findFactors_58 : decode y_Sc_findFactors.2.1 58 = .ok (.ldiv, 1) := by decide +kernel
theorem d_Sc_findFactors_59 : decode y_Sc_findFactors.2.1 59 = .ok (.lstore 18, 2) := by decide +kernel
theorem d_Sc_findFactors_61 : decode y_Sc_findFactors.2.1 61 = .ok (.lload 18, 2) := by decide +kernel
theorem d_Sc_findFactors_63 : decode y_Sc_findFactors.2.1 63 = .ok (.lload 5, 2) := by decide +kernel
theorem d_Sc_findFactors_65 : decode y_Sc_findFactors.2.1 65 = .ok (.lload 11, 2) := by decide +kernel
theorem d_Sc_findFactors_67 : decode y_Sc_findFactors.2.1 67 = .ok (.ladd, 1) := by decide +kernel
theorem d_Sc_findFactors_68 : decode y_Sc_findFactors.2.1 68 = .ok (.lload 7, 2) := by decide +kernel
theorem d_Sc_findFactors_70 : decode y_Sc_findFactors.2.1 70 = .ok (.lload 15, 2) := by decide +kernel
theorem d_Sc_findFactors_72 : decode y_Sc_findFactors.2.1 72 = .ok (.ladd, 1) := by decide +kernel
theorem d_Sc_findFactors_73 : decode y_Sc_findFactors.2.1 73 = .ok (.ldiv, 1) := by decide +kernel
theorem d_Sc_findFactors_74 : decode y_Sc_findFactors.2.1 74 = .ok (.lcmp, 1) := by decide +kernel
theorem d_Sc_findFactors_177 : decode y_Sc_findFactors.2.1 177 = .ok (.aload_n 0, 1) := by decide +kernel
theorem d_Sc_findFactors_178 : decode y_Sc_findFactors.2.1 178 = .ok (.getfield 33, 3) := by decide +kernel
theorem d_Sc_findFactors_181 : decode y_Sc_findFactors.2.1 181 = .ok (.iconst 0, 1) := by decide +kernel
theorem d_Sc_findFactors_182 : decode y_Sc_findFactors.2.1 182 = .ok (.lload 9, 2) := by decide +kernel
theorem d_Sc_findFactors_184 : decode y_Sc_findFactors.2.1 184 = .ok (.lastore, 1) := by decide +kernel
theorem d_Sc_findFactors_185 : decode y_Sc_findFactors.2.1 185 = .ok (.aload_n 0, 1) := by decide +kernel
theorem d_Sc_findFactors_186 : decode y_Sc_findFactors.2.1 186 = .ok (.getfield 33, 3) := by decide +kernel
theorem d_Sc_findFactors_189 : decode y_Sc_findFactors.2.1 189 = .ok (.iconst 1, 1) := by decide +kernel
theorem d_Sc_findFactors_190 : decode y_Sc_findFactors.2.1 190 = .ok (.lload 11, 2) := by decide +kernel
theorem d_Sc_findFactors_192 : decode y_Sc_findFactors.2.1 192 = .ok (.lastore, 1) := by decide +kernel
theorem d_Sc_findFactors_193 : decode y_Sc_findFactors.2.1 193 = .ok (.aload_n 0, 1) := by decide +kernel
theorem d_Sc_findFactors_194 : decode y_Sc_findFactors.2.1 194 = .ok (.getfield 33, 3) := by decide +kernel
theorem d_Sc_findFactors_197 : decode y_Sc_findFactors.2.1 197 = .ok (.iconst 2, 1) := by decide +kernel
theorem d_Sc_findFactors_198 : decode y_Sc_findFactors.2.1 198 = .ok (.lload 13, 2) := by decide +kernel
theorem d_Sc_findFactors_200 : decode y_Sc_findFactors.2.1 200 = .ok (.lastore, 1) := by decide +kernel
theorem d_Sc_findFactors_201 : decode y_Sc_findFactors.2.1 201 = .ok (.aload_n 0, 1) := by decide +kernel
theorem d_Sc_findFactors_202 : decode y_Sc_findFactors.2.1 202 = .ok (.getfield 33, 3) := by decide +kernel
theorem d_Sc_findFactors_205 : decode y_Sc_findFactors.2.1 205 = .ok (.iconst 3, 1) := by decide +kernel
theorem d_Sc_findFactors_206 : decode y_Sc_findFactors.2.1 206 = .ok (.lload 15, 2) := by decide +kernel
theorem d_Sc_findFactors_208 : decode y_Sc_findFactors.2.1 208 = .ok (.lastore, 1) := by decide +kernel
theorem d_Sc_findFactors_209 : decode y_Sc_findFactors.2.1 209 = .ok (.lload 11, 2) := by decide +kernel
theorem d_Sc_findFactors_211 : decode y_Sc_findFactors.2.1 211 = .ok (.lconst 0, 1) := by decide +kernel
theorem d_Sc_findFactors_212 : decode y_Sc_findFactors.2.1 212 = .ok (.lcmp, 1) := by decide +kernel
theorem d_Sc_findFactors_213 : decode y_Sc_findFactors.2.1 213 = .ok (.ifCond .eq 7, 3) := by decide +kernel
theorem d_Sc_findFactors_220 : decode y_Sc_findFactors.2.1 220 = .ok (.iconst 0, 1) := by decide +kernel
theorem d_Sc_findFactors_216 : decode y_Sc_findFactors.2.1 216 = .ok (.iconst 1, 1) := by decide +kernel
theorem d_Sc_findFactors_217 : decode y_Sc_findFactors.2.1 217 = .ok (.goto 4, 3) := by decide +kernel
theorem d_Sc_findFactors_221 : decode y_Sc_findFactors.2.1 221 = .ok (.ireturn, 1) := by decide +kernel
theorem d_Sc_findFactors_75 : decode y_Sc_findFactors.2.1 75 = .ok (.ifCond .ne 102, 3) := by decide +kernel
theorem d_Sc_findFactors_78 : decode y_Sc_findFactors.2.1 78 = .ok (.lload 18, 2) := by decide +kernel
theorem d_Sc_findFactors_80 : decode y_Sc_findFactors.2.1 80 = .ok (.ldc2_w 100, 3) := by decide +kernel
theorem d_Sc_findFactors_83 : decode y_Sc_findFactors.2.1 83 = .ok (.lcmp, 1) := by decide +kernel
theorem d_Sc_findFactors_84 : decode y_Sc_findFactors.2.1 84 = .ok (.ifCond .le 6, 3) := by decide +kernel
theorem d_Sc_findFactors_90 : decode y_Sc_findFactors.2.1 90 = .ok (.lload 9, 2) := by decide +kernel
theorem d_Sc_findFactors_92 : decode y_Sc_findFactors.2.1 92 = .ok (.lload 18, 2) := by decide +kernel
theorem d_Sc_findFactors_94 : decode y_Sc_findFactors.2.1 94 = .ok (.lload 13, 2) := by decide +kernel
theorem d_Sc_findFactors_96 : decode y_Sc_findFactors.2.1 96 = .ok (.lmul, 1) := by decide +kernel
theorem d_Sc_findFactors_97 : decode y_Sc_findFactors.2.1 97 = .ok (.lsub, 1) := by decide +kernel
theorem d_Sc_findFactors_98 : decode y_Sc_findFactors.2.1 98 = .ok (.lstore 20, 2) := by decide +kernel
theorem d_Sc_findFactors_100 : decode y_Sc_findFactors.2.1 100 = .ok (.lload 11, 2) := by decide +kernel
theorem d_Sc_findFactors_102 : decode y_Sc_findFactors.2.1 102 = .ok (.lload 18, 2) := by decide +kernel
theorem d_Sc_findFactors_104 : decode y_Sc_findFactors.2.1 104 = .ok (.lload 15, 2) := by decide +kernel
theorem d_Sc_findFactors_106 : decode y_Sc_findFactors.2.1 106 = .ok (.lmul, 1) := by decide +kernel
theorem d_Sc_findFactors_107 : decode y_Sc_findFactors.2.1 107 = .ok (.lsub, 1) := by decide +kernel
theorem d_Sc_findFactors_108 : decode y_Sc_findFactors.2.1 108 = .ok (.lstore 22, 2) := by decide +kernel
theorem d_Sc_findFactors_110 : decode y_Sc_findFactors.2.1 110 = .ok (.lload 20, 2) := by decide +kernel
theorem d_Sc_findFactors_112 : decode y_Sc_findFactors.2.1 112 = .ok (.invokestatic 102, 3) := by decide +kernel
theorem d_Sc_findFactors_115 : decode y_Sc_findFactors.2.1 115 = .ok (.ldc2_w 100, 3) := by decide +kernel
theorem d_Sc_findFactors_118 : decode y_Sc_findFactors.2.1 118 = .ok (.lcmp, 1) := by decide +kernel
theorem d_Sc_findFactors_87 : decode y_Sc_findFactors.2.1 87 = .ok (.goto 90, 3) := by decide +kernel
theorem d_Sc_findFactors_119 : decode y_Sc_findFactors.2.1 119 = .ok (.ifCond .gt 58, 3) := by decide +kernel
theorem d_Sc_findFactors_122 : decode y_Sc_findFactors.2.1 122 = .ok (.lload 22, 2) := by decide +kernel
theorem d_Sc_findFactors_124 : decode y_Sc_findFactors.2.1 124 = .ok (.invokestatic 102, 3) := by decide +kernel
theorem d_Sc_findFactors_127 : decode y_Sc_findFactors.2.1 127 = .ok (.ldc2_w 100, 3) := by decide +kernel
theorem d_Sc_findFactors_130 : decode y_Sc_findFactors.2.1 130 = .ok (.lcmp, 1) := by decide +kernel
theorem d_Sc_findFactors_131 : decode y_Sc_findFactors.2.1 131 = .ok (.ifCond .le 6, 3) := by decide +kernel
theorem d_Sc_findFactors_137 : decode y_Sc_findFactors.2.1 137 = .ok (.lload 5, 2) := by decide +kernel
theorem d_Sc_findFactors_139 : decode y_Sc_findFactors.2.1 139 = .ok (.lload 18, 2) := by decide +kernel
theorem d_Sc_findFactors_141 : decode y_Sc_findFactors.2.1 141 = .ok (.lload 7, 2) := by decide +kernel
theorem d_Sc_findFactors_143 : decode y_Sc_findFactors.2.1 143 = .ok (.lmul, 1) := by decide +kernel
theorem d_Sc_findFactors_144 : decode y_Sc_findFactors.2.1 144 = .ok (.lsub, 1) := by decide +kernel
theorem d_Sc_findFactors_145 : decode y_Sc_findFactors.2.1 145 = .ok (.lstore 24, 2) := by decide +kernel
theorem d_Sc_findFactors_147 : decode y_Sc_findFactors.2.1 147 = .ok (.lload 13, 2) := by decide +kernel
theorem d_Sc_findFactors_149 : decode y_Sc_findFactors.2.1 149 = .ok (.lstore 9, 2) := by decide +kernel
theorem d_Sc_findFactors_151 : decode y_Sc_findFactors.2.1 151 = .ok (.lload 15, 2) := by decide +kernel
theorem d_Sc_findFactors_153 : decode y_Sc_findFactors.2.1 153 = .ok (.lstore 11, 2) := by decide +kernel
theorem d_Sc_findFactors_155 : decode y_Sc_findFactors.2.1 155 = .ok (.lload 7, 2) := by decide +kernel
theorem d_Sc_findFactors_157 : decode y_Sc_findFactors.2.1 157 = .ok (.lstore 5, 2) := by decide +kernel
theorem d_Sc_findFactors_159 : decode y_Sc_findFactors.2.1 159 = .ok (.lload 20, 2) := by decide +kernel
theorem d_Sc_findFactors_161 : decode y_Sc_findFactors.2.1 161 = .ok (.lstore 13, 2) := by decide +kernel
theorem d_Sc_findFactors_163 : decode y_Sc_findFactors.2.1 163 = .ok (.lload 22, 2) := by decide +kernel
theorem d_Sc_findFactors_165 : decode y_Sc_findFactors.2.1 165 = .ok (.lstore 15, 2) := by decide +kernel
theorem d_Sc_findFactors_167 : decode y_Sc_findFactors.2.1 167 = .ok (.lload 24, 2) := by decide +kernel
theorem d_Sc_findFactors_169 : decode y_Sc_findFactors.2.1 169 = .ok (.lstore 7, 2) := by decide +kernel
theorem d_Sc_findFactors_171 : decode y_Sc_findFactors.2.1 171 = .ok (.iinc 17 1, 3) := by decide +kernel
theorem d_Sc_findFactors_174 : decode y_Sc_findFactors.2.1 174 = .ok (.goto (-153), 3) := by decide +kernel
theorem d_Sc_findFactors_134 : decode y_Sc_findFactors.2.1 134 = .ok (.goto 43, 3) := by decide +kernel
def h_Sc_findFactors_21 (G : mG) (d : Nat) (a0 : Nat) (j5 : Int) (j7 : Int) (j9 : Int) (j11 : Int) (j13 : Int) (j15 : Int) (l17 : Int) (M : mM) (Q : Int → mM → Prop) : Prop := mWm G y_Sc_findFactors (d + 1) 21 [vr a0, vd, vd, vd, vd, vl j5, vd, vl j7, vd, vl j9, vd, vl j11, vd, vl j13, vd, vl j15, vd, vi l17, vd, vd, vd, vd, vd, vd, vd, vd] [] M (fun r9 M9 => ∃ x9, r9 = some (vi x9) ∧ Q x9 M9)
theorem k_Sc_findFactors {G : mG} {d : Nat} {a0 : Nat} {j1 : Int} {j3 : Int} {M : mM} {Q : Int → mM → Prop} (hO : mOk M) (hi_j1 : i64 j1) (hi_j3 : i64 j3)
    (h : h_Sc_findFactors_21 G d a0 j1 j3 1 0 0 1 0 M Q) :
    Ci G y_Sc_findFactors (d + 1) [vr a0, vl j1, vl j3] M Q := by
  refine wm_open (y := y_Sc_findFactors) rfl (Nat.le_of_ble_eq_true rfl) (L := [vr a0, vl j1, vd, vl j3, vd, vd, vd, vd, vd, vd, vd, vd, vd, vd, vd, vd, vd, vd, vd, vd, vd, vd, vd, vd, vd, vd]) rfl ?_
  refine wm_lload_n d_Sc_findFactors_0 rfl rfl ?_
  refine wm_lstore d_Sc_findFactors_1 (by decide) (L' := [vr a0, vl j1, vd, vl j3, vd, vl j1, vd, vd, vd, vd, vd, vd, vd, vd, vd, vd, vd, vd, vd, vd, vd, vd, vd, vd, vd, vd]) rfl ?_
  refine wm_lload_n d_Sc_findFactors_3 rfl rfl ?_
  refine wm_lstore d_Sc_findFactors_4 (by decide) (L' := [vr a0, vl j1, vd, vl j3, vd, vl j1, vd, vl j3, vd, vd, vd, vd, vd, vd, vd, vd, vd, vd, vd, vd, vd, vd, vd, vd, vd, vd]) rfl ?_
  refine wm_lconst (x := 1) d_Sc_findFactors_6 rfl ?_
  refine wm_lstore d_Sc_findFactors_7 (by decide) (L' := [vr a0, vl j1, vd, vl j3, vd, vl j1, vd, vl j3, vd, vl 1, vd, vd, vd, vd, vd, vd, vd, vd, vd, vd, vd, vd, vd, vd, vd, vd]) rfl ?_
  refine wm_lconst (x := 0) d_Sc_findFactors_9 rfl ?_
  refine wm_lstore d_Sc_findFactors_10 (by decide) (L' := [vr a0, vl j1, vd, vl j3, vd, vl j1, vd, vl j3, vd, vl 1, vd, vl 0, vd, vd, vd, vd, vd, vd, vd, vd, vd, vd, vd, vd, vd, vd]) rfl ?_
  refine wm_lconst (x := 0) d_Sc_findFactors_12 rfl ?_
  refine wm_lstore d_Sc_findFactors_13 (by decide) (L' := [vr a0, vl j1, vd, vl j3, vd, vl j1, vd, vl j3, vd, vl 1, vd, vl 0, vd, vl 0, vd, vd, vd, vd, vd, vd, vd, vd, vd, vd, vd, vd]) rfl ?_
  refine wm_lconst (x := 1) d_Sc_findFactors_15 rfl ?_
  refine wm_lstore d_Sc_findFactors_16 (by decide) (L' := [vr a0, vl j1, vd, vl j3, vd, vl j1, vd, vl j3, vd, vl 1, vd, vl 0, vd, vl 0, vd, vl 1, vd, vd, vd, vd, vd, vd, vd, vd, vd, vd]) rfl ?_
  refine wm_iconst d_Sc_findFactors_18 ?_
  refine wm_istore d_Sc_findFactors_19 (by decide) (L' := [vr a0, vl j1, vd, vl j3, vd, vl j1, vd, vl j3, vd, vl 1, vd, vl 0, vd, vl 0, vd, vl 1, vd, vi 0, vd, vd, vd, vd, vd, vd, vd, vd]) rfl ?_
  refine wm_less (L' := [vr a0, vd, vd, vd, vd, vl j1, vd, vl j3, vd, vl 1, vd, vl 0, vd, vl 0, vd, vl 1, vd, vi 0, vd, vd, vd, vd, vd, vd, vd, vd]) ⟨Or.inr rfl, Or.inl rfl, Or.inl rfl, Or.inl rfl, Or.inl rfl, Or.inr rfl, Or.inl rfl, Or.inr rfl, Or.inl rfl, Or.inr rfl, Or.inl rfl, Or.inr rfl, Or.inl rfl, Or.inr rfl, Or.inl rfl, Or.inr rfl, Or.inl rfl, Or.inr rfl, Or.inl rfl, Or.inl rfl, Or.inl rfl, Or.inl rfl, Or.inl rfl, Or.inl rfl, Or.inl rfl, Or.inl rfl, trivial⟩ ?_
  exact h
theorem k_Sc_findFactors_21 {G : mG} {d : Nat} {a0 : Nat} {j5 : Int} {j7 : Int} {j9 : Int} {j11 : Int} {j13 : Int} {j15 : Int} {l17 : Int} {M : mM} {Q : Int → mM → Prop} (hO : mOk M) (hi_j5 : i64 j5) (hi_j7 : i64 j7) (hi_j9 : i64 j9) (hi_j11 : i64 j11) (hi_j13 : i64 j13) (hi_j15 : i64 j15) (hi_l17 : i32 l17)
    (h : (¬ (100 ≤ l17) → (i64 (j7 + j13) ∧ (¬ (cmpL (j7 + j13) 0 = 0) → i64 (j7 + j15)))) ∧ (((100 ≤ l17) ∨ ((cmpL (j7 + j13) 0 = 0) ∨ (cmpL (j7 + j15) 0 = 0))) → (mK M a0 = 9 ∧ mK M (mR M a0 6) = 33 ∧ ((0 : Int) ≤ 0 ∧ 0 < (mN M (mR M a0 6) : Int)) ∧ ∀ M17, M17 = mUL M (mR M a0 6) 0 j9 → mK M17 (mR M17 a0 6) = 33 ∧ ((0 : Int) ≤ 1 ∧ 1 < (mN M17 (mR M17 a0 6) : Int)) ∧ ∀ M21, M21 = mUL M17 (mR M17 a0 6) 1 j11 → mK M21 (mR M21 a0 6) = 33 ∧ ((0 : Int) ≤ 2 ∧ 2 < (mN M21 (mR M21 a0 6) : Int)) ∧ ∀ M25, M25 = mUL M21 (mR M21 a0 6) 2 j13 → mK M25 (mR M25 a0 6) = 33 ∧ ((0 : Int) ≤ 3 ∧ 3 < (mN M25 (mR M25 a0 6) : Int)) ∧ ∀ M29, M29 = mUL M25 (mR M25 a0 6) 3 j15 → ∀ v32 : Int, v32 = (if (cmpL j11 0 = 0) then 0 else 1) → Q v32 M29)) ∧ (¬ ((100 ≤ l17) ∨ ((cmpL (j7 + j13) 0 = 0) ∨ (cmpL (j7 + j15) 0 = 0))) → (i64 (j5 + j9) ∧ i64 (j7 + j13) ∧ (j7 + j13) ≠ 0 ∧ i64 (j5 + j11) ∧ i64 (j7 + j15) ∧ (j7 + j15) ≠ 0 ∧ i64 (Int.tdiv (j5 + j9) (j7 + j13)) ∧ i64 (Int.tdiv (j5 + j11) (j7 + j15)) ∧ ((cmpL (Int.tdiv (j5 + j9) (j7 + j13)) (Int.tdiv (j5 + j11) (j7 + j15)) = 0) → (((cmpL (Int.tdiv (j5 + j9) (j7 + j13)) 1073741823 ≤ 0) → (i64 (j9 - ((Int.tdiv (j5 + j9) (j7 + j13)) * j13)) ∧ i64 (if 0 < j9 - ((Int.tdiv (j5 + j9) (j7 + j13)) * j13) then j9 - ((Int.tdiv (j5 + j9) (j7 + j13)) * j13) else -(j9 - ((Int.tdiv (j5 + j9) (j7 + j13)) * j13))) ∧ ((0 < cmpL (if 0 < j9 - ((Int.tdiv (j5 + j9) (j7 + j13)) * j13) then j9 - ((Int.tdiv (j5 + j9) (j7 + j13)) * j13) else -(j9 - ((Int.tdiv (j5 + j9) (j7 + j13)) * j13))) 1073741823) → (mK M a0 = 9 ∧ mK M (mR M a0 6) = 33 ∧ ((0 : Int) ≤ 0 ∧ 0 < (mN M (mR M a0 6) : Int)) ∧ ∀ M66, M66 = mUL M (mR M a0 6) 0 j9 → mK M66 (mR M66 a0 6) = 33 ∧ ((0 : Int) ≤ 1 ∧ 1 < (mN M66 (mR M66 a0 6) : Int)) ∧ ∀ M70, M70 = mUL M66 (mR M66 a0 6) 1 j11 → mK M70 (mR M70 a0 6) = 33 ∧ ((0 : Int) ≤ 2 ∧ 2 < (mN M70 (mR M70 a0 6) : Int)) ∧ ∀ M74, M74 = mUL M70 (mR M70 a0 6) 2 j13 → mK M74 (mR M74 a0 6) = 33 ∧ ((0 : Int) ≤ 3 ∧ 3 < (mN M74 (mR M74 a0 6) : Int)) ∧ ∀ M78, M78 = mUL M74 (mR M74 a0 6) 3 j15 → ∀ v81 : Int, v81 = (if (cmpL j11 0 = 0) then 0 else 1) → Q v81 M78)) ∧ (¬ (0 < cmpL (if 0 < j9 - ((Int.tdiv (j5 + j9) (j7 + j13)) * j13) then j9 - ((Int.tdiv (j5 + j9) (j7 + j13)) * j13) else -(j9 - ((Int.tdiv (j5 + j9) (j7 + j13)) * j13))) 1073741823) → (i64 (j11 - ((Int.tdiv (j5 + j9) (j7 + j13)) * j15)) ∧ i64 (if 0 < j11 - ((Int.tdiv (j5 + j9) (j7 + j13)) * j15) then j11 - ((Int.tdiv (j5 + j9) (j7 + j13)) * j15) else -(j11 - ((Int.tdiv (j5 + j9) (j7 + j13)) * j15))) ∧ ((cmpL (if 0 < j11 - ((Int.tdiv (j5 + j9) (j7 + j13)) * j15) then j11 - ((Int.tdiv (j5 + j9) (j7 + j13)) * j15) else -(j11 - ((Int.tdiv (j5 + j9) (j7 + j13)) * j15))) 1073741823 ≤ 0) → (h_Sc_findFactors_21 G d a0 j7 (j5 - ((Int.tdiv (j5 + j9) (j7 + j13)) * j7)) j13 j15 (j9 - ((Int.tdiv (j5 + j9) (j7 + j13)) * j13)) (j11 - ((Int.tdiv (j5 + j9) (j7 + j13)) * j15)) (l17 + 1) M Q)) ∧ (¬ (cmpL (if 0 < j11 - ((Int.tdiv (j5 + j9) (j7 + j13)) * j15) then j11 - ((Int.tdiv (j5 + j9) (j7 + j13)) * j15) else -(j11 - ((Int.tdiv (j5 + j9) (j7 + j13)) * j15))) 1073741823 ≤ 0) → (mK M a0 = 9 ∧ mK M (mR M a0 6) = 33 ∧ ((0 : Int) ≤ 0 ∧ 0 < (mN M (mR M a0 6) : Int)) ∧ ∀ M94, M94 = mUL M (mR M a0 6) 0 j9 → mK M94 (mR M94 a0 6) = 33 ∧ ((0 : Int) ≤ 1 ∧ 1 < (mN M94 (mR M94 a0 6) : Int)) ∧ ∀ M98, M98 = mUL M94 (mR M94 a0 6) 1 j11 → mK M98 (mR M98 a0 6) = 33 ∧ ((0 : Int) ≤ 2 ∧ 2 < (mN M98 (mR M98 a0 6) : Int)) ∧ ∀ M102, M102 = mUL M98 (mR M98 a0 6) 2 j13 → mK M102 (mR M102 a0 6) = 33 ∧ ((0 : Int) ≤ 3 ∧ 3 < (mN M102 (mR M102 a0 6) : Int)) ∧ ∀ M106, M106 = mUL M102 (mR M102 a0 6) 3 j15 → ∀ v109 : Int, v109 = (if (cmpL j11 0 = 0) then 0 else 1) → Q v109 M106)))))) ∧ (¬ (cmpL (Int.tdiv (j5 + j9) (j7 + j13)) 1073741823 ≤ 0) → (mK M a0 = 9 ∧ mK M (mR M a0 6) = 33 ∧ ((0 : Int) ≤ 0 ∧ 0 < (mN M (mR M a0 6) : Int)) ∧ ∀ M118, M118 = mUL M (mR M a0 6) 0 j9 → mK M118 (mR M118 a0 6) = 33 ∧ ((0 : Int) ≤ 1 ∧ 1 < (mN M118 (mR M118 a0 6) : Int)) ∧ ∀ M122, M122 = mUL M118 (mR M118 a0 6) 1 j11 → mK M122 (mR M122 a0 6) = 33 ∧ ((0 : Int) ≤ 2 ∧ 2 < (mN M122 (mR M122 a0 6) : Int)) ∧ ∀ M126, M126 = mUL M122 (mR M122 a0 6) 2 j13 → mK M126 (mR M126 a0 6) = 33 ∧ ((0 : Int) ≤ 3 ∧ 3 < (mN M126 (mR M126 a0 6) : Int)) ∧ ∀ M130, M130 = mUL M126 (mR M126 a0 6) 3 j15 → ∀ v133 : Int, v133 = (if (cmpL j11 0 = 0) then 0 else 1) → Q v133 M130)))) ∧ (¬ (cmpL (Int.tdiv (j5 + j9) (j7 + j13)) (Int.tdiv (j5 + j11) (j7 + j15)) = 0) → (mK M a0 = 9 ∧ mK M (mR M a0 6) = 33 ∧ ((0 : Int) ≤ 0 ∧ 0 < (mN M (mR M a0 6) : Int)) ∧ ∀ M142, M142 = mUL M (mR M a0 6) 0 j9 → mK M142 (mR M142 a0 6) = 33 ∧ ((0 : Int) ≤ 1 ∧ 1 < (mN M142 (mR M142 a0 6) : Int)) ∧ ∀ M146, M146 = mUL M142 (mR M142 a0 6) 1 j11 → mK M146 (mR M146 a0 6) = 33 ∧ ((0 : Int) ≤ 2 ∧ 2 < (mN M146 (mR M146 a0 6) : Int)) ∧ ∀ M150, M150 = mUL M146 (mR M146 a0 6) 2 j13 → mK M150 (mR M150 a0 6) = 33 ∧ ((0 : Int) ≤ 3 ∧ 3 < (mN M150 (mR M150 a0 6) : Int)) ∧ ∀ M154, M154 = mUL M150 (mR M150 a0 6) 3 j15 → ∀ v157 : Int, v157 = (if (cmpL j11 0 = 0) then 0 else 1) → Q v157 M154))))) :
    h_Sc_findFactors_21 G d a0 j5 j7 j9 j11 j13 j15 l17 M Q := by
  unfold h_Sc_findFactors_21
  refine wm_iload d_Sc_findFactors_21 rfl ?_
  refine wm_bipush d_Sc_findFactors_23 (by decide) ?_
  obtain ⟨s12, h⟩ := h
  have hE0 : ((100 ≤ l17) ∨ ((cmpL (j7 + j13) 0 = 0) ∨ (cmpL (j7 + j15) 0 = 0))) → mWm G y_Sc_findFactors (d + 1) 177 [vr a0, vd, vd, vd, vd, vl j5, vd, vl j7, vd, vl j9, vd, vl j11, vd, vl j13, vd, vl j15, vd, vi l17, vd, vd, vd, vd, vd, vd, vd, vd] [] M (fun r9 M9 => ∃ x9, r9 = some (vi x9) ∧ Q x9 M9) := by
    intro q13
    have h := h.1 q13
    obtain ⟨h14, h⟩ := h
    obtain ⟨h15, h⟩ := h
    obtain ⟨h16, h⟩ := h
    obtain ⟨M17, e18⟩ : ∃ M17, M17 = mUL M (mR M a0 6) 0 j9 := ⟨_, rfl⟩
    replace h := h M17 e18
    obtain ⟨h19, h⟩ := h
    obtain ⟨h20, h⟩ := h
    obtain ⟨M21, e22⟩ : ∃ M21, M21 = mUL M17 (mR M17 a0 6) 1 j11 := ⟨_, rfl⟩
    replace h := h M21 e22
    obtain ⟨h23, h⟩ := h
    obtain ⟨h24, h⟩ := h
    obtain ⟨M25, e26⟩ : ∃ M25, M25 = mUL M21 (mR M21 a0 6) 2 j13 := ⟨_, rfl⟩
    replace h := h M25 e26
    obtain ⟨h27, h⟩ := h
    obtain ⟨h28, h⟩ := h
    obtain ⟨M29, e30⟩ : ∃ M29, M29 = mUL M25 (mR M25 a0 6) 3 j15 := ⟨_, rfl⟩
    replace h := h M29 e30
    refine wm_aload_n d_Sc_findFactors_177 rfl rfl ?_
    refine gf_Sc_33 rfl d_Sc_findFactors_178 h14 ?_
    refine wm_iconst d_Sc_findFactors_181 ?_
    refine wm_lload d_Sc_findFactors_182 rfl ?_
    have hOM17 : mOk M17 := by rw [e18]; exact mOk_UL hO hi_j9
    refine wm_lastE d_Sc_findFactors_184 h15 h16 hi_j9 e18 ?_
    refine wm_aload_n d_Sc_findFactors_185 rfl rfl ?_
    refine gf_Sc_33 rfl d_Sc_findFactors_186 (by rw [e18]; exact h14) ?_
    refine wm_iconst d_Sc_findFactors_189 ?_
    refine wm_lload d_Sc_findFactors_190 rfl ?_
    have hOM21 : mOk M21 := by rw [e22]; exact mOk_UL hOM17 hi_j11
    refine wm_lastE d_Sc_findFactors_192 h19 h20 hi_j11 e22 ?_
    refine wm_aload_n d_Sc_findFactors_193 rfl rfl ?_
    refine gf_Sc_33 rfl d_Sc_findFactors_194 (by rw [e22, e18]; exact h14) ?_
    refine wm_iconst d_Sc_findFactors_197 ?_
    refine wm_lload d_Sc_findFactors_198 rfl ?_
    have hOM25 : mOk M25 := by rw [e26]; exact mOk_UL hOM21 hi_j13
    refine wm_lastE d_Sc_findFactors_200 h23 h24 hi_j13 e26 ?_
    refine wm_aload_n d_Sc_findFactors_201 rfl rfl ?_
    refine gf_Sc_33 rfl d_Sc_findFactors_202 (by rw [e26, e22, e18]; exact h14) ?_
    refine wm_iconst d_Sc_findFactors_205 ?_
    refine wm_lload d_Sc_findFactors_206 rfl ?_
    have hOM29 : mOk M29 := by rw [e30]; exact mOk_UL hOM25 hi_j15
    refine wm_lastE d_Sc_findFactors_208 h27 h28 hi_j15 e30 ?_
    refine wm_lload d_Sc_findFactors_209 rfl ?_
    refine wm_lconst (x := 0) d_Sc_findFactors_211 rfl ?_
    refine wm_lcmp d_Sc_findFactors_212 hi_j11 ⟨by decide, by decide⟩ ?_
    have hJ : ∀ v32 : Int, v32 = (if (cmpL j11 0 = 0) then 0 else 1) → mWm G y_Sc_findFactors (d + 1) 221 [vd, vd, vd, vd, vd, vd, vd, vd, vd, vd, vd, vd, vd, vd, vd, vd, vd, vd, vd, vd, vd, vd, vd, vd, vd, vd] [vi v32] M29 (fun r9 M9 => ∃ x9, r9 = some (vi x9) ∧ Q x9 M9) := by
      intro v32 e34
      have h := h v32 e34
      have h35 : i32 v32 := by rw [e34]; (repeat' split) <;> first | exact ⟨by decide, by decide⟩ | exact ⟨by decide, by decide⟩
      have h36 : (v32 = 0 ∨ v32 = 1) := by rw [e34]; (repeat' split) <;> decide
      refine wm_ireturn d_Sc_findFactors_221 rfl (m_nb h36) ?_
      exact ⟨_, rfl, h⟩
    clear h
    refine wm_if_eq (tgt := 220) d_Sc_findFactors_213 rfl (m_cmp32 _ _) (fun c31 => ?_) (fun c31 => ?_)
    · refine wm_iconst d_Sc_findFactors_220 ?_
      refine wm_less (L' := [vd, vd, vd, vd, vd, vd, vd, vd, vd, vd, vd, vd, vd, vd, vd, vd, vd, vd, vd, vd, vd, vd, vd, vd, vd, vd]) ⟨Or.inl rfl, Or.inl rfl, Or.inl rfl, Or.inl rfl, Or.inl rfl, Or.inl rfl, Or.inl rfl, Or.inl rfl, Or.inl rfl, Or.inl rfl, Or.inl rfl, Or.inl rfl, Or.inl rfl, Or.inl rfl, Or.inl rfl, Or.inl rfl, Or.inl rfl, Or.inl rfl, Or.inl rfl, Or.inl rfl, Or.inl rfl, Or.inl rfl, Or.inl rfl, Or.inl rfl, Or.inl rfl, Or.inl rfl, trivial⟩ ?_
      exact hJ 0 (if_pos c31).symm
    · refine wm_iconst d_Sc_findFactors_216 ?_
      refine wm_goto (tgt := 221) d_Sc_findFactors_217 rfl ?_
      refine wm_less (L' := [vd, vd, vd, vd, vd, vd, vd, vd, vd, vd, vd, vd, vd, vd, vd, vd, vd, vd, vd, vd, vd, vd, vd, vd, vd, vd]) ⟨Or.inl rfl, Or.inl rfl, Or.inl rfl, Or.inl rfl, Or.inl rfl, Or.inl rfl, Or.inl rfl, Or.inl rfl, Or.inl rfl, Or.inl rfl, Or.inl rfl, Or.inl rfl, Or.inl rfl, Or.inl rfl, Or.inl rfl, Or.inl rfl, Or.inl rfl, Or.inl rfl, Or.inl rfl, Or.inl rfl, Or.inl rfl, Or.inl rfl, Or.inl rfl, Or.inl rfl, Or.inl rfl, Or.inl rfl, trivial⟩ ?_
      exact hJ 1 (if_neg c31).symm
  have hE1 : ¬ ((100 ≤ l17) ∨ ((cmpL (j7 + j13) 0 = 0) ∨ (cmpL (j7 + j15) 0 = 0))) → mWm G y_Sc_findFactors (d + 1) 48 [vr a0, vd, vd, vd, vd, vl j5, vd, vl j7, vd, vl j9, vd, vl j11, vd, vl j13, vd, vl j15, vd, vi l17, vd, vd, vd, vd, vd, vd, vd, vd] [] M (fun r9 M9 => ∃ x9, r9 = some (vi x9) ∧ Q x9 M9) := by
    intro q38
    have h := h.2 q38
    obtain ⟨h39, h⟩ := h
    obtain ⟨h40, h⟩ := h
    obtain ⟨h41, h⟩ := h
    obtain ⟨h42, h⟩ := h
    obtain ⟨h43, h⟩ := h
    obtain ⟨h44, h⟩ := h
    obtain ⟨h45, h⟩ := h
    obtain ⟨h46, h⟩ := h
    refine wm_lload d_Sc_findFactors_48 rfl ?_
    refine wm_lload d_Sc_findFactors_50 rfl ?_
    refine wm_ladd d_Sc_findFactors_52 ?_
    refine wm_lload d_Sc_findFactors_53 rfl ?_
    refine wm_lload d_Sc_findFactors_55 rfl ?_
    refine wm_ladd d_Sc_findFactors_57 ?_
    refine wm_ldiv d_Sc_findFactors_58 h39 h40 h41 ?_
    refine wm_lstore d_Sc_findFactors_59 (by decide) (L' := [vr a0, vd, vd, vd, vd, vl j5, vd, vl j7, vd, vl j9, vd, vl j11, vd, vl j13, vd, vl j15, vd, vi l17, vl (Int.tdiv (j5 + j9) (j7 + j13)), vd, vd, vd, vd, vd, vd, vd]) rfl ?_
    refine wm_lload d_Sc_findFactors_61 rfl ?_
    refine wm_lload d_Sc_findFactors_63 rfl ?_
    refine wm_lload d_Sc_findFactors_65 rfl ?_
    refine wm_ladd d_Sc_findFactors_67 ?_
    refine wm_lload d_Sc_findFactors_68 rfl ?_
    refine wm_lload d_Sc_findFactors_70 rfl ?_
    refine wm_ladd d_Sc_findFactors_72 ?_
    refine wm_ldiv d_Sc_findFactors_73 h42 h43 h44 ?_
    refine wm_lcmp d_Sc_findFactors_74 h45 h46 ?_
    refine wm_if_ne (tgt := 177) d_Sc_findFactors_75 rfl (m_cmp32 _ _) (fun c51 => ?_) (fun c51 => ?_)
    · replace h := h.2 c51
      obtain ⟨h139, h⟩ := h
      obtain ⟨h140, h⟩ := h
      obtain ⟨h141, h⟩ := h
      obtain ⟨M142, e143⟩ : ∃ M142, M142 = mUL M (mR M a0 6) 0 j9 := ⟨_, rfl⟩
      replace h := h M142 e143
      obtain ⟨h144, h⟩ := h
      obtain ⟨h145, h⟩ := h
      obtain ⟨M146, e147⟩ : ∃ M146, M146 = mUL M142 (mR M142 a0 6) 1 j11 := ⟨_, rfl⟩
      replace h := h M146 e147
      obtain ⟨h148, h⟩ := h
      obtain ⟨h149, h⟩ := h
      obtain ⟨M150, e151⟩ : ∃ M150, M150 = mUL M146 (mR M146 a0 6) 2 j13 := ⟨_, rfl⟩
      replace h := h M150 e151
      obtain ⟨h152, h⟩ := h
      obtain ⟨h153, h⟩ := h
      obtain ⟨M154, e155⟩ : ∃ M154, M154 = mUL M150 (mR M150 a0 6) 3 j15 := ⟨_, rfl⟩
      replace h := h M154 e155
      refine wm_aload_n d_Sc_findFactors_177 rfl rfl ?_
      refine gf_Sc_33 rfl d_Sc_findFactors_178 h139 ?_
      refine wm_iconst d_Sc_findFactors_181 ?_
      refine wm_lload d_Sc_findFactors_182 rfl ?_
      have hOM142 : mOk M142 := by rw [e143]; exact mOk_UL hO hi_j9
      refine wm_lastE d_Sc_findFactors_184 h140 h141 hi_j9 e143 ?_
      refine wm_aload_n d_Sc_findFactors_185 rfl rfl ?_
      refine gf_Sc_33 rfl d_Sc_findFactors_186 (by rw [e143]; exact h139) ?_
      refine wm_iconst d_Sc_findFactors_189 ?_
      refine wm_lload d_Sc_findFactors_190 rfl ?_
      have hOM146 : mOk M146 := by rw [e147]; exact mOk_UL hOM142 hi_j11
      refine wm_lastE d_Sc_findFactors_192 h144 h145 hi_j11 e147 ?_
      refine wm_aload_n d_Sc_findFactors_193 rfl rfl ?_
      refine gf_Sc_33 rfl d_Sc_findFactors_194 (by rw [e147, e143]; exact h139) ?_
      refine wm_iconst d_Sc_findFactors_197 ?_
      refine wm_lload d_Sc_findFactors_198 rfl ?_
      have hOM150 : mOk M150 := by rw [e151]; exact mOk_UL hOM146 hi_j13
      refine wm_lastE d_Sc_findFactors_200 h148 h149 hi_j13 e151 ?_
      refine wm_aload_n d_Sc_findFactors_201 rfl rfl ?_
      refine gf_Sc_33 rfl d_Sc_findFactors_202 (by rw [e151, e147, e143]; exact h139) ?_
      refine wm_iconst d_Sc_findFactors_205 ?_
      refine wm_lload d_Sc_findFactors_206 rfl ?_
      have hOM154 : mOk M154 := by rw [e155]; exact mOk_UL hOM150 hi_j15
      refine wm_lastE d_Sc_findFactors_208 h152 h153 hi_j15 e155 ?_
      refine wm_lload d_Sc_findFactors_209 rfl ?_
      refine wm_lconst (x := 0) d_Sc_findFactors_211 rfl ?_
      refine wm_lcmp d_Sc_findFactors_212 hi_j11 ⟨by decide, by decide⟩ ?_
      have hJ : ∀ v157 : Int, v157 = (if (cmpL j11 0 = 0) then 0 else 1) → mWm G y_Sc_findFactors (d + 1) 221 [vd, vd, vd, vd, vd, vd, vd, vd, vd, vd, vd, vd, vd, vd, vd, vd, vd, vd, vd, vd, vd, vd, vd, vd, vd, vd] [vi v157] M154 (fun r9 M9 => ∃ x9, r9 = some (vi x9) ∧ Q x9 M9) := by
        intro v157 e159
        have h := h v157 e159
        have h160 : i32 v157 := by rw [e159]; (repeat' split) <;> first | exact ⟨by decide, by decide⟩ | exact ⟨by decide, by decide⟩
        have h161 : (v157 = 0 ∨ v157 = 1) := by rw [e159]; (repeat' split) <;> decide
        refine wm_ireturn d_Sc_findFactors_221 rfl (m_nb h161) ?_
        exact ⟨_, rfl, h⟩
      clear h
      refine wm_if_eq (tgt := 220) d_Sc_findFactors_213 rfl (m_cmp32 _ _) (fun c156 => ?_) (fun c156 => ?_)
      · refine wm_iconst d_Sc_findFactors_220 ?_
        refine wm_less (L' := [vd, vd, vd, vd, vd, vd, vd, vd, vd, vd, vd, vd, vd, vd, vd, vd, vd, vd, vd, vd, vd, vd, vd, vd, vd, vd]) ⟨Or.inl rfl, Or.inl rfl, Or.inl rfl, Or.inl rfl, Or.inl rfl, Or.inl rfl, Or.inl rfl, Or.inl rfl, Or.inl rfl, Or.inl rfl, Or.inl rfl, Or.inl rfl, Or.inl rfl, Or.inl rfl, Or.inl rfl, Or.inl rfl, Or.inl rfl, Or.inl rfl, Or.inl rfl, Or.inl rfl, Or.inl rfl, Or.inl rfl, Or.inl rfl, Or.inl rfl, Or.inl rfl, Or.inl rfl, trivial⟩ ?_
        exact hJ 0 (if_pos c156).symm
      · refine wm_iconst d_Sc_findFactors_216 ?_
        refine wm_goto (tgt := 221) d_Sc_findFactors_217 rfl ?_
        refine wm_less (L' := [vd, vd, vd, vd, vd, vd, vd, vd, vd, vd, vd, vd, vd, vd, vd, vd, vd, vd, vd, vd, vd, vd, vd, vd, vd, vd]) ⟨Or.inl rfl, Or.inl rfl, Or.inl rfl, Or.inl rfl, Or.inl rfl, Or.inl rfl, Or.inl rfl, Or.inl rfl, Or.inl rfl, Or.inl rfl, Or.inl rfl, Or.inl rfl, Or.inl rfl, Or.inl rfl, Or.inl rfl, Or.inl rfl, Or.inl rfl, Or.inl rfl, Or.inl rfl, Or.inl rfl, Or.inl rfl, Or.inl rfl, Or.inl rfl, Or.inl rfl, Or.inl rfl, Or.inl rfl, trivial⟩ ?_
        exact hJ 1 (if_neg c156).symm
    · replace c51 := Classical.not_not.mp c51
      replace h := h.1 c51
      refine wm_lload d_Sc_findFactors_78 rfl ?_
      refine wm_ldc2 (x := 1073741823) d_Sc_findFactors_80 k6_1 (by decide) ?_
      refine wm_lcmp d_Sc_findFactors_83 h45 ⟨by decide, by decide⟩ ?_
      refine wm_if_le (tgt := 90) d_Sc_findFactors_84 rfl (m_cmp32 _ _) (fun c55 => ?_) (fun c55 => ?_)
      · replace h := h.1 c55
        obtain ⟨h56, h⟩ := h
        obtain ⟨h57, h⟩ := h
        refine wm_lload d_Sc_findFactors_90 rfl ?_
        refine wm_lload d_Sc_findFactors_92 rfl ?_
        refine wm_lload d_Sc_findFactors_94 rfl ?_
        refine wm_lmul d_Sc_findFactors_96 ?_
        refine wm_lsub d_Sc_findFactors_97 ?_
        refine wm_lstore d_Sc_findFactors_98 (by decide) (L' := [vr a0, vd, vd, vd, vd, vl j5, vd, vl j7, vd, vl j9, vd, vl j11, vd, vl j13, vd, vl j15, vd, vi l17, vl (Int.tdiv (j5 + j9) (j7 + j13)), vd, vl (j9 - ((Int.tdiv (j5 + j9) (j7 + j13)) * j13)), vd, vd, vd, vd, vd]) rfl ?_
        refine wm_lload d_Sc_findFactors_100 rfl ?_
        refine wm_lload d_Sc_findFactors_102 rfl ?_
        refine wm_lload d_Sc_findFactors_104 rfl ?_
        refine wm_lmul d_Sc_findFactors_106 ?_
        refine wm_lsub d_Sc_findFactors_107 ?_
        refine wm_lstore d_Sc_findFactors_108 (by decide) (L' := [vr a0, vd, vd, vd, vd, vl j5, vd, vl j7, vd, vl j9, vd, vl j11, vd, vl j13, vd, vl j15, vd, vi l17, vl (Int.tdiv (j5 + j9) (j7 + j13)), vd, vl (j9 - ((Int.tdiv (j5 + j9) (j7 + j13)) * j13)), vd, vl (j11 - ((Int.tdiv (j5 + j9) (j7 + j13)) * j15)), vd, vd, vd]) rfl ?_
        refine wm_lload d_Sc_findFactors_110 rfl ?_
        refine wm_mabsl k6_2 (Nat.le_of_ble_eq_true rfl) h56 d_Sc_findFactors_112 ?_
        refine wm_ldc2 (x := 1073741823) d_Sc_findFactors_115 k6_1 (by decide) ?_
        refine wm_lcmp d_Sc_findFactors_118 h57 ⟨by decide, by decide⟩ ?_
        refine wm_if_gt (tgt := 177) d_Sc_findFactors_119 rfl (m_cmp32 _ _) (fun c62 => ?_) (fun c62 => ?_)
        · replace h := h.1 c62
          obtain ⟨h63, h⟩ := h
          obtain ⟨h64, h⟩ := h
          obtain ⟨h65, h⟩ := h
          obtain ⟨M66, e67⟩ : ∃ M66, M66 = mUL M (mR M a0 6) 0 j9 := ⟨_, rfl⟩
          replace h := h M66 e67
          obtain ⟨h68, h⟩ := h
          obtain ⟨h69, h⟩ := h
          obtain ⟨M70, e71⟩ : ∃ M70, M70 = mUL M66 (mR M66 a0 6) 1 j11 := ⟨_, rfl⟩
          replace h := h M70 e71
          obtain ⟨h72, h⟩ := h
          obtain ⟨h73, h⟩ := h
          obtain ⟨M74, e75⟩ : ∃ M74, M74 = mUL M70 (mR M70 a0 6) 2 j13 := ⟨_, rfl⟩
          replace h := h M74 e75
          obtain ⟨h76, h⟩ := h
          obtain ⟨h77, h⟩ := h
          obtain ⟨M78, e79⟩ : ∃ M78, M78 = mUL M74 (mR M74 a0 6) 3 j15 := ⟨_, rfl⟩
          replace h := h M78 e79
          refine wm_aload_n d_Sc_findFactors_177 rfl rfl ?_
          refine gf_Sc_33 rfl d_Sc_findFactors_178 h63 ?_
          refine wm_iconst d_Sc_findFactors_181 ?_
          refine wm_lload d_Sc_findFactors_182 rfl ?_
          have hOM66 : mOk M66 := by rw [e67]; exact mOk_UL hO hi_j9
          refine wm_lastE d_Sc_findFactors_184 h64 h65 hi_j9 e67 ?_
          refine wm_aload_n d_Sc_findFactors_185 rfl rfl ?_
          refine gf_Sc_33 rfl d_Sc_findFactors_186 (by rw [e67]; exact h63) ?_
          refine wm_iconst d_Sc_findFactors_189 ?_
          refine wm_lload d_Sc_findFactors_190 rfl ?_
          have hOM70 : mOk M70 := by rw [e71]; exact mOk_UL hOM66 hi_j11
          refine wm_lastE d_Sc_findFactors_192 h68 h69 hi_j11 e71 ?_
          refine wm_aload_n d_Sc_findFactors_193 rfl rfl ?_
          refine gf_Sc_33 rfl d_Sc_findFactors_194 (by rw [e71, e67]; exact h63) ?_
          refine wm_iconst d_Sc_findFactors_197 ?_
          refine wm_lload d_Sc_findFactors_198 rfl ?_
          have hOM74 : mOk M74 := by rw [e75]; exact mOk_UL hOM70 hi_j13
          refine wm_lastE d_Sc_findFactors_200 h72 h73 hi_j13 e75 ?_
          refine wm_aload_n d_Sc_findFactors_201 rfl rfl ?_
          refine gf_Sc_33 rfl d_Sc_findFactors_202 (by rw [e75, e71, e67]; exact h63) ?_
          refine wm_iconst d_Sc_findFactors_205 ?_
          refine wm_lload d_Sc_findFactors_206 rfl ?_
          have hOM78 : mOk M78 := by rw [e79]; exact mOk_UL hOM74 hi_j15
          refine wm_lastE d_Sc_findFactors_208 h76 h77 hi_j15 e79 ?_
          refine wm_lload d_Sc_findFactors_209 rfl ?_
          refine wm_lconst (x := 0) d_Sc_findFactors_211 rfl ?_
          refine wm_lcmp d_Sc_findFactors_212 hi_j11 ⟨by decide, by decide⟩ ?_
          have hJ : ∀ v81 : Int, v81 = (if (cmpL j11 0 = 0) then 0 else 1) → mWm G y_Sc_findFactors (d + 1) 221 [vd, vd, vd, vd, vd, vd, vd, vd, vd, vd, vd, vd, vd, vd, vd, vd, vd, vd, vd, vd, vd, vd, vd, vd, vd, vd] [vi v81] M78 (fun r9 M9 => ∃ x9, r9 = some (vi x9) ∧ Q x9 M9) := by
            intro v81 e83
            have h := h v81 e83
            have h84 : i32 v81 := by rw [e83]; (repeat' split) <;> first | exact ⟨by decide, by decide⟩ | exact ⟨by decide, by decide⟩
            have h85 : (v81 = 0 ∨ v81 = 1) := by rw [e83]; (repeat' split) <;> decide
            refine wm_ireturn d_Sc_findFactors_221 rfl (m_nb h85) ?_
            exact ⟨_, rfl, h⟩
          clear h
          refine wm_if_eq (tgt := 220) d_Sc_findFactors_213 rfl (m_cmp32 _ _) (fun c80 => ?_) (fun c80 => ?_)
          · refine wm_iconst d_Sc_findFactors_220 ?_
            refine wm_less (L' := [vd, vd, vd, vd, vd, vd, vd, vd, vd, vd, vd, vd, vd, vd, vd, vd, vd, vd, vd, vd, vd, vd, vd, vd, vd, vd]) ⟨Or.inl rfl, Or.inl rfl, Or.inl rfl, Or.inl rfl, Or.inl rfl, Or.inl rfl, Or.inl rfl, Or.inl rfl, Or.inl rfl, Or.inl rfl, Or.inl rfl, Or.inl rfl, Or.inl rfl, Or.inl rfl, Or.inl rfl, Or.inl rfl, Or.inl rfl, Or.inl rfl, Or.inl rfl, Or.inl rfl, Or.inl rfl, Or.inl rfl, Or.inl rfl, Or.inl rfl, Or.inl rfl, Or.inl rfl, trivial⟩ ?_
            exact hJ 0 (if_pos c80).symm
          · refine wm_iconst d_Sc_findFactors_216 ?_
            refine wm_goto (tgt := 221) d_Sc_findFactors_217 rfl ?_
            refine wm_less (L' := [vd, vd, vd, vd, vd, vd, vd, vd, vd, vd, vd, vd, vd, vd, vd, vd, vd, vd, vd, vd, vd, vd, vd, vd, vd, vd]) ⟨Or.inl rfl, Or.inl rfl, Or.inl rfl, Or.inl rfl, Or.inl rfl, Or.inl rfl, Or.inl rfl, Or.inl rfl, Or.inl rfl, Or.inl rfl, Or.inl rfl, Or.inl rfl, Or.inl rfl, Or.inl rfl, Or.inl rfl, Or.inl rfl, Or.inl rfl, Or.inl rfl, Or.inl rfl, Or.inl rfl, Or.inl rfl, Or.inl rfl, Or.inl rfl, Or.inl rfl, Or.inl rfl, Or.inl rfl, trivial⟩ ?_
            exact hJ 1 (if_neg c80).symm
        · replace h := h.2 c62
          obtain ⟨h87, h⟩ := h
          obtain ⟨h88, h⟩ := h
          refine wm_lload d_Sc_findFactors_122 rfl ?_
          refine wm_mabsl k6_2 (Nat.le_of_ble_eq_true rfl) h87 d_Sc_findFactors_124 ?_
          refine wm_ldc2 (x := 1073741823) d_Sc_findFactors_127 k6_1 (by decide) ?_
          refine wm_lcmp d_Sc_findFactors_130 h88 ⟨by decide, by decide⟩ ?_
          refine wm_if_le (tgt := 137) d_Sc_findFactors_131 rfl (m_cmp32 _ _) (fun c90 => ?_) (fun c90 => ?_)
          · replace h := h.1 c90
            refine wm_lload d_Sc_findFactors_137 rfl ?_
            refine wm_lload d_Sc_findFactors_139 rfl ?_
            refine wm_lload d_Sc_findFactors_141 rfl ?_
            refine wm_lmul d_Sc_findFactors_143 ?_
            refine wm_lsub d_Sc_findFactors_144 ?_
            refine wm_lstore d_Sc_findFactors_145 (by decide) (L' := [vr a0, vd, vd, vd, vd, vl j5, vd, vl j7, vd, vl j9, vd, vl j11, vd, vl j13, vd, vl j15, vd, vi l17, vl (Int.tdiv (j5 + j9) (j7 + j13)), vd, vl (j9 - ((Int.tdiv (j5 + j9) (j7 + j13)) * j13)), vd, vl (j11 - ((Int.tdiv (j5 + j9) (j7 + j13)) * j15)), vd, vl (j5 - ((Int.tdiv (j5 + j9) (j7 + j13)) * j7)), vd]) rfl ?_
            refine wm_lload d_Sc_findFactors_147 rfl ?_
            refine wm_lstore d_Sc_findFactors_149 (by decide) (L' := [vr a0, vd, vd, vd, vd, vl j5, vd, vl j7, vd, vl j13, vd, vl j11, vd, vl j13, vd, vl j15, vd, vi l17, vl (Int.tdiv (j5 + j9) (j7 + j13)), vd, vl (j9 - ((Int.tdiv (j5 + j9) (j7 + j13)) * j13)), vd, vl (j11 - ((Int.tdiv (j5 + j9) (j7 + j13)) * j15)), vd, vl (j5 - ((Int.tdiv (j5 + j9) (j7 + j13)) * j7)), vd]) rfl ?_
            refine wm_lload d_Sc_findFactors_151 rfl ?_
            refine wm_lstore d_Sc_findFactors_153 (by decide) (L' := [vr a0, vd, vd, vd, vd, vl j5, vd, vl j7, vd, vl j13, vd, vl j15, vd, vl j13, vd, vl j15, vd, vi l17, vl (Int.tdiv (j5 + j9) (j7 + j13)), vd, vl (j9 - ((Int.tdiv (j5 + j9) (j7 + j13)) * j13)), vd, vl (j11 - ((Int.tdiv (j5 + j9) (j7 + j13)) * j15)), vd, vl (j5 - ((Int.tdiv (j5 + j9) (j7 + j13)) * j7)), vd]) rfl ?_
            refine wm_lload d_Sc_findFactors_155 rfl ?_
            refine wm_lstore d_Sc_findFactors_157 (by decide) (L' := [vr a0, vd, vd, vd, vd, vl j7, vd, vl j7, vd, vl j13, vd, vl j15, vd, vl j13, vd, vl j15, vd, vi l17, vl (Int.tdiv (j5 + j9) (j7 + j13)), vd, vl (j9 - ((Int.tdiv (j5 + j9) (j7 + j13)) * j13)), vd, vl (j11 - ((Int.tdiv (j5 + j9) (j7 + j13)) * j15)), vd, vl (j5 - ((Int.tdiv (j5 + j9) (j7 + j13)) * j7)), vd]) rfl ?_
            refine wm_lload d_Sc_findFactors_159 rfl ?_
            refine wm_lstore d_Sc_findFactors_161 (by decide) (L' := [vr a0, vd, vd, vd, vd, vl j7, vd, vl j7, vd, vl j13, vd, vl j15, vd, vl (j9 - ((Int.tdiv (j5 + j9) (j7 + j13)) * j13)), vd, vl j15, vd, vi l17, vl (Int.tdiv (j5 + j9) (j7 + j13)), vd, vl (j9 - ((Int.tdiv (j5 + j9) (j7 + j13)) * j13)), vd, vl (j11 - ((Int.tdiv (j5 + j9) (j7 + j13)) * j15)), vd, vl (j5 - ((Int.tdiv (j5 + j9) (j7 + j13)) * j7)), vd]) rfl ?_
            refine wm_lload d_Sc_findFactors_163 rfl ?_
            refine wm_lstore d_Sc_findFactors_165 (by decide) (L' := [vr a0, vd, vd, vd, vd, vl j7, vd, vl j7, vd, vl j13, vd, vl j15, vd, vl (j9 - ((Int.tdiv (j5 + j9) (j7 + j13)) * j13)), vd, vl (j11 - ((Int.tdiv (j5 + j9) (j7 + j13)) * j15)), vd, vi l17, vl (Int.tdiv (j5 + j9) (j7 + j13)), vd, vl (j9 - ((Int.tdiv (j5 + j9) (j7 + j13)) * j13)), vd, vl (j11 - ((Int.tdiv (j5 + j9) (j7 + j13)) * j15)), vd, vl (j5 - ((Int.tdiv (j5 + j9) (j7 + j13)) * j7)), vd]) rfl ?_
            refine wm_lload d_Sc_findFactors_167 rfl ?_
            refine wm_lstore d_Sc_findFactors_169 (by decide) (L' := [vr a0, vd, vd, vd, vd, vl j7, vd, vl (j5 - ((Int.tdiv (j5 + j9) (j7 + j13)) * j7)), vd, vl j13, vd, vl j15, vd, vl (j9 - ((Int.tdiv (j5 + j9) (j7 + j13)) * j13)), vd, vl (j11 - ((Int.tdiv (j5 + j9) (j7 + j13)) * j15)), vd, vi l17, vl (Int.tdiv (j5 + j9) (j7 + j13)), vd, vl (j9 - ((Int.tdiv (j5 + j9) (j7 + j13)) * j13)), vd, vl (j11 - ((Int.tdiv (j5 + j9) (j7 + j13)) * j15)), vd, vl (j5 - ((Int.tdiv (j5 + j9) (j7 + j13)) * j7)), vd]) rfl ?_
            refine wm_iinc d_Sc_findFactors_171 (by decide) rfl (L' := [vr a0, vd, vd, vd, vd, vl j7, vd, vl (j5 - ((Int.tdiv (j5 + j9) (j7 + j13)) * j7)), vd, vl j13, vd, vl j15, vd, vl (j9 - ((Int.tdiv (j5 + j9) (j7 + j13)) * j13)), vd, vl (j11 - ((Int.tdiv (j5 + j9) (j7 + j13)) * j15)), vd, vi (l17 + 1), vl (Int.tdiv (j5 + j9) (j7 + j13)), vd, vl (j9 - ((Int.tdiv (j5 + j9) (j7 + j13)) * j13)), vd, vl (j11 - ((Int.tdiv (j5 + j9) (j7 + j13)) * j15)), vd, vl (j5 - ((Int.tdiv (j5 + j9) (j7 + j13)) * j7)), vd]) rfl ?_
            refine wm_goto (tgt := 21) d_Sc_findFactors_174 rfl ?_
            refine wm_less (L' := [vr a0, vd, vd, vd, vd, vl j7, vd, vl (j5 - ((Int.tdiv (j5 + j9) (j7 + j13)) * j7)), vd, vl j13, vd, vl j15, vd, vl (j9 - ((Int.tdiv (j5 + j9) (j7 + j13)) * j13)), vd, vl (j11 - ((Int.tdiv (j5 + j9) (j7 + j13)) * j15)), vd, vi (l17 + 1), vd, vd, vd, vd, vd, vd, vd, vd]) ⟨Or.inr rfl, Or.inl rfl, Or.inl rfl, Or.inl rfl, Or.inl rfl, Or.inr rfl, Or.inl rfl, Or.inr rfl, Or.inl rfl, Or.inr rfl, Or.inl rfl, Or.inr rfl, Or.inl rfl, Or.inr rfl, Or.inl rfl, Or.inr rfl, Or.inl rfl, Or.inr rfl, Or.inl rfl, Or.inl rfl, Or.inl rfl, Or.inl rfl, Or.inl rfl, Or.inl rfl, Or.inl rfl, Or.inl rfl, trivial⟩ ?_
            exact h
          · replace h := h.2 c90
            obtain ⟨h91, h⟩ := h
            obtain ⟨h92, h⟩ := h
            obtain ⟨h93, h⟩ := h
            obtain ⟨M94, e95⟩ : ∃ M94, M94 = mUL M (mR M a0 6) 0 j9 := ⟨_, rfl⟩
            replace h := h M94 e95
            obtain ⟨h96, h⟩ := h
            obtain ⟨h97, h⟩ := h
            obtain ⟨M98, e99⟩ : ∃ M98, M98 = mUL M94 (mR M94 a0 6) 1 j11 := ⟨_, rfl⟩
            replace h := h M98 e99
            obtain ⟨h100, h⟩ := h
            obtain ⟨h101, h⟩ := h
            obtain ⟨M102, e103⟩ : ∃ M102, M102 = mUL M98 (mR M98 a0 6) 2 j13 := ⟨_, rfl⟩
            replace h := h M102 e103
            obtain ⟨h104, h⟩ := h
            obtain ⟨h105, h⟩ := h
            obtain ⟨M106, e107⟩ : ∃ M106, M106 = mUL M102 (mR M102 a0 6) 3 j15 := ⟨_, rfl⟩
            replace h := h M106 e107
            refine wm_goto (tgt := 177) d_Sc_findFactors_134 rfl ?_
            refine wm_aload_n d_Sc_findFactors_177 rfl rfl ?_
            refine gf_Sc_33 rfl d_Sc_findFactors_178 h91 ?_
            refine wm_iconst d_Sc_findFactors_181 ?_
            refine wm_lload d_Sc_findFactors_182 rfl ?_
            have hOM94 : mOk M94 := by rw [e95]; exact mOk_UL hO hi_j9
            refine wm_lastE d_Sc_findFactors_184 h92 h93 hi_j9 e95 ?_
            refine wm_aload_n d_Sc_findFactors_185 rfl rfl ?_
            refine gf_Sc_33 rfl d_Sc_findFactors_186 (by rw [e95]; exact h91) ?_
            refine wm_iconst d_Sc_findFactors_189 ?_
            refine wm_lload d_Sc_findFactors_190 rfl ?_
            have hOM98 : mOk M98 := by rw [e99]; exact mOk_UL hOM94 hi_j11
            refine wm_lastE d_Sc_findFactors_192 h96 h97 hi_j11 e99 ?_
            refine wm_aload_n d_Sc_findFactors_193 rfl rfl ?_
            refine gf_Sc_33 rfl d_Sc_findFactors_194 (by rw [e99, e95]; exact h91) ?_
            refine wm_iconst d_Sc_findFactors_197 ?_
            refine wm_lload d_Sc_findFactors_198 rfl ?_
            have hOM102 : mOk M102 := by rw [e103]; exact mOk_UL hOM98 hi_j13
            refine wm_lastE d_Sc_findFactors_200 h100 h101 hi_j13 e103 ?_
            refine wm_aload_n d_Sc_findFactors_201 rfl rfl ?_
            refine gf_Sc_33 rfl d_Sc_findFactors_202 (by rw [e103, e99, e95]; exact h91) ?_
            refine wm_iconst d_Sc_findFactors_205 ?_
            refine wm_lload d_Sc_findFactors_206 rfl ?_
            have hOM106 : mOk M106 := by rw [e107]; exact mOk_UL hOM102 hi_j15
            refine wm_lastE d_Sc_findFactors_208 h104 h105 hi_j15 e107 ?_
            refine wm_lload d_Sc_findFactors_209 rfl ?_
            refine wm_lconst (x := 0) d_Sc_findFactors_211 rfl ?_
            refine wm_lcmp d_Sc_findFactors_212 hi_j11 ⟨by decide, by decide⟩ ?_
            have hJ : ∀ v109 : Int, v109 = (if (cmpL j11 0 = 0) then 0 else 1) → mWm G y_Sc_findFactors (d + 1) 221 [vd, vd, vd, vd, vd, vd, vd, vd, vd, vd, vd, vd, vd, vd, vd, vd, vd, vd, vd, vd, vd, vd, vd, vd, vd, vd] [vi v109] M106 (fun r9 M9 => ∃ x9, r9 = some (vi x9) ∧ Q x9 M9) := by
              intro v109 e111
              have h := h v109 e111
              have h112 : i32 v109 := by rw [e111]; (repeat' split) <;> first | exact ⟨by decide, by decide⟩ | exact ⟨by decide, by decide⟩
              have h113 : (v109 = 0 ∨ v109 = 1) := by rw [e111]; (repeat' split) <;> decide
              refine wm_ireturn d_Sc_findFactors_221 rfl (m_nb h113) ?_
              exact ⟨_, rfl, h⟩
            clear h
            refine wm_if_eq (tgt := 220) d_Sc_findFactors_213 rfl (m_cmp32 _ _) (fun c108 => ?_) (fun c108 => ?_)
            · refine wm_iconst d_Sc_findFactors_220 ?_
              refine wm_less (L' := [vd, vd, vd, vd, vd, vd, vd, vd, vd, vd, vd, vd, vd, vd, vd, vd, vd, vd, vd, vd, vd, vd, vd, vd, vd, vd]) ⟨Or.inl rfl, Or.inl rfl, Or.inl rfl, Or.inl rfl, Or.inl rfl, Or.inl rfl, Or.inl rfl, Or.inl rfl, Or.inl rfl, Or.inl rfl, Or.inl rfl, Or.inl rfl, Or.inl rfl, Or.inl rfl, Or.inl rfl, Or.inl rfl, Or.inl rfl, Or.inl rfl, Or.inl rfl, Or.inl rfl, Or.inl rfl, Or.inl rfl, Or.inl rfl, Or.inl rfl, Or.inl rfl, Or.inl rfl, trivial⟩ ?_
              exact hJ 0 (if_pos c108).symm
            · refine wm_iconst d_Sc_findFactors_216 ?_
              refine wm_goto (tgt := 221) d_Sc_findFactors_217 rfl ?_
              refine wm_less (L' := [vd, vd, vd, vd, vd, vd, vd, vd, vd, vd, vd, vd, vd, vd, vd, vd, vd, vd, vd, vd, vd, vd, vd, vd, vd, vd]) ⟨Or.inl rfl, Or.inl rfl, Or.inl rfl, Or.inl rfl, Or.inl rfl, Or.inl rfl, Or.inl rfl, Or.inl rfl, Or.inl rfl, Or.inl rfl, Or.inl rfl, Or.inl rfl, Or.inl rfl, Or.inl rfl, Or.inl rfl, Or.inl rfl, Or.inl rfl, Or.inl rfl, Or.inl rfl, Or.inl rfl, Or.inl rfl, Or.inl rfl, Or.inl rfl, Or.inl rfl, Or.inl rfl, Or.inl rfl, trivial⟩ ?_
              exact hJ 1 (if_neg c108).symm
      · replace h := h.2 c55
        obtain ⟨h115, h⟩ := h
        obtain ⟨h116, h⟩ := h
        obtain ⟨h117, h⟩ := h
        obtain ⟨M118, e119⟩ : ∃ M118, M118 = mUL M (mR M a0 6) 0 j9 := ⟨_, rfl⟩
        replace h := h M118 e119
        obtain ⟨h120, h⟩ := h
        obtain ⟨h121, h⟩ := h
        obtain ⟨M122, e123⟩ : ∃ M122, M122 = mUL M118 (mR M118 a0 6) 1 j11 := ⟨_, rfl⟩
        replace h := h M122 e123
        obtain ⟨h124, h⟩ := h
        obtain ⟨h125, h⟩ := h
        obtain ⟨M126, e127⟩ : ∃ M126, M126 = mUL M122 (mR M122 a0 6) 2 j13 := ⟨_, rfl⟩
        replace h := h M126 e127
        obtain ⟨h128, h⟩ := h
        obtain ⟨h129, h⟩ := h
        obtain ⟨M130, e131⟩ : ∃ M130, M130 = mUL M126 (mR M126 a0 6) 3 j15 := ⟨_, rfl⟩
        replace h := h M130 e131
        refine wm_goto (tgt := 177) d_Sc_findFactors_87 rfl ?_
        refine wm_aload_n d_Sc_findFactors_177 rfl rfl ?_
        refine gf_Sc_33 rfl d_Sc_findFactors_178 h115 ?_
        refine wm_iconst d_Sc_findFactors_181 ?_
        refine wm_lload d_Sc_findFactors_182 rfl ?_
        have hOM118 : mOk M118 := by rw [e119]; exact mOk_UL hO hi_j9
        refine wm_lastE d_Sc_findFactors_184 h116 h117 hi_j9 e119 ?_
        refine wm_aload_n d_Sc_findFactors_185 rfl rfl ?_
        refine gf_Sc_33 rfl d_Sc_findFactors_186 (by rw [e119]; exact h115) ?_
        refine wm_iconst d_Sc_findFactors_189 ?_
        refine wm_lload d_Sc_findFactors_190 rfl ?_
        have hOM122 : mOk M122 := by rw [e123]; exact mOk_UL hOM118 hi_j11
        refine wm_lastE d_Sc_findFactors_192 h120 h121 hi_j11 e123 ?_
        refine wm_aload_n d_Sc_findFactors_193 rfl rfl ?_
        refine gf_Sc_33 rfl d_Sc_findFactors_194 (by rw [e123, e119]; exact h115) ?_
        refine wm_iconst d_Sc_findFactors_197 ?_
        refine wm_lload d_Sc_findFactors_198 rfl ?_
        have hOM126 : mOk M126 := by rw [e127]; exact mOk_UL hOM122 hi_j13
        refine wm_lastE d_Sc_findFactors_200 h124 h125 hi_j13 e127 ?_
        refine wm_aload_n d_Sc_findFactors_201 rfl rfl ?_
        refine gf_Sc_33 rfl d_Sc_findFactors_202 (by rw [e127, e123, e119]; exact h115) ?_
        refine wm_iconst d_Sc_findFactors_205 ?_
        refine wm_lload d_Sc_findFactors_206 rfl ?_
        have hOM130 : mOk M130 := by rw [e131]; exact mOk_UL hOM126 hi_j15
        refine wm_lastE d_Sc_findFactors_208 h128 h129 hi_j15 e131 ?_
        refine wm_lload d_Sc_findFactors_209 rfl ?_
        refine wm_lconst (x := 0) d_Sc_findFactors_211 rfl ?_
        refine wm_lcmp d_Sc_findFactors_212 hi_j11 ⟨by decide, by decide⟩ ?_
        have hJ : ∀ v133 : Int, v133 = (if (cmpL j11 0 = 0) then 0 else 1) → mWm G y_Sc_findFactors (d + 1) 221 [vd, vd, vd, vd, vd, vd, vd, vd, vd, vd, vd, vd, vd, vd, vd, vd, vd, vd, vd, vd, vd, vd, vd, vd, vd, vd] [vi v133] M130 (fun r9 M9 => ∃ x9, r9 = some (vi x9) ∧ Q x9 M9) := by
          intro v133 e135
          have h := h v133 e135
          have h136 : i32 v133 := by rw [e135]; (repeat' split) <;> first | exact ⟨by decide, by decide⟩ | exact ⟨by decide, by decide⟩
          have h137 : (v133 = 0 ∨ v133 = 1) := by rw [e135]; (repeat' split) <;> decide
          refine wm_ireturn d_Sc_findFactors_221 rfl (m_nb h137) ?_
          exact ⟨_, rfl, h⟩
        clear h
        refine wm_if_eq (tgt := 220) d_Sc_findFactors_213 rfl (m_cmp32 _ _) (fun c132 => ?_) (fun c132 => ?_)
        · refine wm_iconst d_Sc_findFactors_220 ?_
          refine wm_less (L' := [vd, vd, vd, vd, vd, vd, vd, vd, vd, vd, vd, vd, vd, vd, vd, vd, vd, vd, vd, vd, vd, vd, vd, vd, vd, vd]) ⟨Or.inl rfl, Or.inl rfl, Or.inl rfl, Or.inl rfl, Or.inl rfl, Or.inl rfl, Or.inl rfl, Or.inl rfl, Or.inl rfl, Or.inl rfl, Or.inl rfl, Or.inl rfl, Or.inl rfl, Or.inl rfl, Or.inl rfl, Or.inl rfl, Or.inl rfl, Or.inl rfl, Or.inl rfl, Or.inl rfl, Or.inl rfl, Or.inl rfl, Or.inl rfl, Or.inl rfl, Or.inl rfl, Or.inl rfl, trivial⟩ ?_
          exact hJ 0 (if_pos c132).symm
        · refine wm_iconst d_Sc_findFactors_216 ?_
          refine wm_goto (tgt := 221) d_Sc_findFactors_217 rfl ?_
          refine wm_less (L' := [vd, vd, vd, vd, vd, vd, vd, vd, vd, vd, vd, vd, vd, vd, vd, vd, vd, vd, vd, vd, vd, vd, vd, vd, vd, vd]) ⟨Or.inl rfl, Or.inl rfl, Or.inl rfl, Or.inl rfl, Or.inl rfl, Or.inl rfl, Or.inl rfl, Or.inl rfl, Or.inl rfl, Or.inl rfl, Or.inl rfl, Or.inl rfl, Or.inl rfl, Or.inl rfl, Or.inl rfl, Or.inl rfl, Or.inl rfl, Or.inl rfl, Or.inl rfl, Or.inl rfl, Or.inl rfl, Or.inl rfl, Or.inl rfl, Or.inl rfl, Or.inl rfl, Or.inl rfl, trivial⟩ ?_
          exact hJ 1 (if_neg c132).symm
  clear h
  have s163 := s12
  refine wm_icmp_ge (tgt := 177) d_Sc_findFactors_25 rfl hi_l17 ⟨by decide, by decide⟩ (fun c11 => ?_) (fun c11 => ?_)
  · exact hE0 (Or.inl c11)
  · have s163 := s163 c11
    obtain ⟨h1, s164⟩ := s163
    refine wm_lload d_Sc_findFactors_28 rfl ?_
    refine wm_lload d_Sc_findFactors_30 rfl ?_
    refine wm_ladd d_Sc_findFactors_32 ?_
    refine wm_lconst (x := 0) d_Sc_findFactors_33 rfl ?_
    refine wm_lcmp d_Sc_findFactors_34 h1 ⟨by decide, by decide⟩ ?_
    refine wm_if_eq (tgt := 177) d_Sc_findFactors_35 rfl (m_cmp32 _ _) (fun c10 => ?_) (fun c10 => ?_)
    · exact hE0 (Or.inr (Or.inl c10))
    · have s164 := s164 c10
      have h2 := s164
      refine wm_lload d_Sc_findFactors_38 rfl ?_
      refine wm_lload d_Sc_findFactors_40 rfl ?_
      refine wm_ladd d_Sc_findFactors_42 ?_
      refine wm_lconst (x := 0) d_Sc_findFactors_43 rfl ?_
      refine wm_lcmp d_Sc_findFactors_44 h2 ⟨by decide, by decide⟩ ?_
      refine wm_if_eq (tgt := 177) d_Sc_findFactors_45 rfl (m_cmp32 _ _) (fun c9 => ?_) (fun c9 => ?_)
      · exact hE0 (Or.inr (Or.inr c9))
      · exact hE1 (fun z165 => Or.elim z165 c11 (fun z166 => Or.elim z166 c10 c9))
theorem d_Sc_reduce_0 : decode y_Sc_reduce.2.1 0 = .ok (.aload_n 1, 1) := by decide +kernel
theorem d_Sc_reduce_1 : decode y_Sc_reduce.2.1 1 = .ok (.getfield 108, 3) := by decide +kernel
theorem d_Sc_reduce_4 : decode y_Sc_reduce.2.1 4 = .ok (.aload_n 1, 1) := by decide +kernel
theorem d_Sc_reduce_5 : decode y_Sc_reduce.2.1 5 = .ok (.getfield 111, 3) := by decide +kernel
theorem d_Sc_reduce_8 : decode y_Sc_reduce.2.1 8 = .ok (.invokevirtual 114, 3) := by decide +kernel
theorem d_Sc_reduce_11 : decode y_Sc_reduce.2.1 11 = .ok (.aload_n 1, 1) := by decide +kernel
theorem d_Sc_reduce_12 : decode y_Sc_reduce.2.1 12 = .ok (.iconst 1, 1) := by decide +kernel
theorem d_Sc_reduce_13 : decode y_Sc_reduce.2.1 13 = .ok (.putfield 111, 3) := by decide +kernel
theorem d_Sc_reduce_16 : decode y_Sc_reduce.2.1 16 = .ok (.aload_n 1, 1) := by decide +kernel
theorem d_Sc_reduce_17 : decode y_Sc_reduce.2.1 17 = .ok (.getfield 118, 3) := by decide +kernel
theorem d_Sc_reduce_20 : decode y_Sc_reduce.2.1 20 = .ok (.getfield 57, 3) := by decide +kernel
theorem d_Sc_reduce_23 : decode y_Sc_reduce.2.1 23 = .ok (.ifCond .ne 12, 3) := by decide +kernel
theorem d_Sc_reduce_26 : decode y_Sc_reduce.2.1 26 = .ok (.aload_n 1, 1) := by decide +kernel
theorem d_Sc_reduce_27 : decode y_Sc_reduce.2.1 27 = .ok (.getfield 108, 3) := by decide +kernel
theorem d_Sc_reduce_30 : decode y_Sc_reduce.2.1 30 = .ok (.iconst 1, 1) := by decide +kernel
theorem d_Sc_reduce_35 : decode y_Sc_reduce.2.1 35 = .ok (.aload_n 0, 1) := by decide +kernel
theorem d_Sc_reduce_36 : decode y_Sc_reduce.2.1 36 = .ok (.aload_n 1, 1) := by decide +kernel
theorem d_Sc_reduce_37 : decode y_Sc_reduce.2.1 37 = .ok (.getfield 118, 3) := by decide +kernel
theorem d_Sc_reduce_40 : decode y_Sc_reduce.2.1 40 = .ok (.aload_n 1, 1) := by decide +kernel
theorem d_Sc_reduce_41 : decode y_Sc_reduce.2.1 41 = .ok (.getfield 108, 3) := by decide +kernel
theorem d_Sc_reduce_31 : decode y_Sc_reduce.2.1 31 = .ok (.invokevirtual 121, 3) := by decide +kernel
theorem d_Sc_reduce_34 : decode y_Sc_reduce.2.1 34 = .ok (.return_, 1) := by decide +kernel
theorem d_Sc_reduce_44 : decode y_Sc_reduce.2.1 44 = .ok (.invokevirtual 123, 3) := by decide +kernel
theorem d_Sc_reduce_47 : decode y_Sc_reduce.2.1 47 = .ok (.astore_n 2, 1) := by decide +kernel
theorem d_Sc_reduce_48 : decode y_Sc_reduce.2.1 48 = .ok (.aload_n 2, 1) := by decide +kernel
theorem d_Sc_reduce_49 : decode y_Sc_reduce.2.1 49 = .ok (.invokevirtual 126, 3) := by decide +kernel
theorem d_Sc_reduce_52 : decode y_Sc_reduce.2.1 52 = .ok (.ifCond .ne 57, 3) := by decide +kernel
theorem d_Sc_reduce_55 : decode y_Sc_reduce.2.1 55 = .ok (.aload_n 1, 1) := by decide +kernel
theorem d_Sc_reduce_56 : decode y_Sc_reduce.2.1 56 = .ok (.getfield 118, 3) := by decide +kernel
theorem d_Sc_reduce_59 : decode y_Sc_reduce.2.1 59 = .ok (.aload_n 2, 1) := by decide +kernel
theorem d_Sc_reduce_60 : decode y_Sc_reduce.2.1 60 = .ok (.aload_n 0, 1) := by decide +kernel
theorem d_Sc_reduce_61 : decode y_Sc_reduce.2.1 61 = .ok (.getfield 21, 3) := by decide +kernel
theorem d_Sc_reduce_64 : decode y_Sc_reduce.2.1 64 = .ok (.aload_n 0, 1) := by decide +kernel
theorem d_Sc_reduce_65 : decode y_Sc_reduce.2.1 65 = .ok (.getfield 24, 3) := by decide +kernel
theorem d_Sc_reduce_68 : decode y_Sc_reduce.2.1 68 = .ok (.invokevirtual 53, 3) := by decide +kernel
theorem d_Sc_reduce_71 : decode y_Sc_reduce.2.1 71 = .ok (.aload_n 1, 1) := by decide +kernel
theorem d_Sc_reduce_72 : decode y_Sc_reduce.2.1 72 = .ok (.getfield 118, 3) := by decide +kernel
theorem d_Sc_reduce_75 : decode y_Sc_reduce.2.1 75 = .ok (.aload_n 0, 1) := by decide +kernel
theorem d_Sc_reduce_76 : decode y_Sc_reduce.2.1 76 = .ok (.getfield 21, 3) := by decide +kernel
theorem d_Sc_reduce_79 : decode y_Sc_reduce.2.1 79 = .ok (.invokevirtual 69, 3) := by decide +kernel
theorem d_Sc_reduce_82 : decode y_Sc_reduce.2.1 82 = .ok (.aload_n 1, 1) := by decide +kernel
theorem d_Sc_reduce_83 : decode y_Sc_reduce.2.1 83 = .ok (.getfield 108, 3) := by decide +kernel
theorem d_Sc_reduce_86 : decode y_Sc_reduce.2.1 86 = .ok (.aload_n 2, 1) := by decide +kernel
theorem d_Sc_reduce_87 : decode y_Sc_reduce.2.1 87 = .ok (.aload_n 0, 1) := by decide +kernel
theorem d_Sc_reduce_88 : decode y_Sc_reduce.2.1 88 = .ok (.getfield 21, 3) := by decide +kernel
theorem d_Sc_reduce_91 : decode y_Sc_reduce.2.1 91 = .ok (.aload_n 0, 1) := by decide +kernel
theorem d_Sc_reduce_92 : decode y_Sc_reduce.2.1 92 = .ok (.getfield 24, 3) := by decide +kernel
theorem d_Sc_reduce_95 : decode y_Sc_reduce.2.1 95 = .ok (.invokevirtual 53, 3) := by decide +kernel
theorem d_Sc_reduce_98 : decode y_Sc_reduce.2.1 98 = .ok (.aload_n 1, 1) := by decide +kernel
theorem d_Sc_reduce_99 : decode y_Sc_reduce.2.1 99 = .ok (.getfield 108, 3) := by decide +kernel
theorem d_Sc_reduce_102 : decode y_Sc_reduce.2.1 102 = .ok (.aload_n 0, 1) := by decide +kernel
theorem d_Sc_reduce_103 : decode y_Sc_reduce.2.1 103 = .ok (.getfield 21, 3) := by decide +kernel
theorem d_Sc_reduce_106 : decode y_Sc_reduce.2.1 106 = .ok (.invokevirtual 69, 3) := by decide +kernel
theorem d_Sc_reduce_109 : decode y_Sc_reduce.2.1 109 = .ok (.return_, 1) := by decide +kernel
theorem k_Sc_reduce {G : mG} {d : Nat} {a0 : Nat} {a1 : Nat} {M : mM} {Q : mM → Prop} (hO : mOk M)
    (h : mK M a1 = 11 ∧ mK M (mR M a1 1) = 10 ∧ Cv G y_Na_multiply d [vr (mR M a1 1), vi (mI M a1 2)] M (fun M3 => mOk M3 ∧ (mK M3 a1 = 11 ∧ ∀ M7, M7 = mUI M3 a1 2 1 → mK M7 (mR M7 a1 0) = 10 ∧ ((mI M7 (mR M7 a1 0) 1 = 0) → (mK M7 (mR M7 a1 1) = 10 ∧ Cv G y_Na_put0 d [vr (mR M7 a1 1), vi 1] M7 (fun M13 => mOk M13 ∧ (Q M13)))) ∧ (¬ (mI M7 (mR M7 a1 0) 1 = 0) → (mK M7 a0 = 9 ∧ Cr G y_Sc_commonDivisor d [vr a0, vr (mR M7 a1 0), vr (mR M7 a1 1)] M7 (fun x18 M17 => mOk M17 ∧ (mK M17 x18 = 10 ∧ Ci G y_Na_isOne d [vr x18] M17 (fun x22 M21 => i32 x22 ∧ mOk M21 ∧ (((x22 = 0) → (mK M21 a1 = 11 ∧ mK M21 a0 = 9 ∧ mK M21 (mR M21 a1 0) = 10 ∧ Cv G y_Na_divide d [vr (mR M21 a1 0), vr x18, vr (mR M21 a0 2), vr (mR M21 a0 3)] M21 (fun M32 => mOk M32 ∧ (mK M32 a1 = 11 ∧ mK M32 a0 = 9 ∧ mK M32 (mR M32 a1 0) = 10 ∧ Cv G y_Na_put1 d [vr (mR M32 a1 0), vr (mR M32 a0 2)] M32 (fun M38 => mOk M38 ∧ (mK M38 a1 = 11 ∧ mK M38 a0 = 9 ∧ mK M38 (mR M38 a1 1) = 10 ∧ Cv G y_Na_divide d [vr (mR M38 a1 1), vr x18, vr (mR M38 a0 2), vr (mR M38 a0 3)] M38 (fun M44 => mOk M44 ∧ (mK M44 a1 = 11 ∧ mK M44 a0 = 9 ∧ mK M44 (mR M44 a1 1) = 10 ∧ Cv G y_Na_put1 d [vr (mR M44 a1 1), vr (mR M44 a0 2)] M44 (fun M50 => mOk M50 ∧ (Q M50)))))))))) ∧ (¬ (x22 = 0) → (Q M21))))))))))) :
    Cv G y_Sc_reduce (d + 1) [vr a0, vr a1] M Q := by
  refine wm_open (y := y_Sc_reduce) rfl (Nat.le_of_ble_eq_true rfl) (L := [vr a0, vr a1, vd]) rfl ?_
  obtain ⟨h1, h⟩ := h
  obtain ⟨h2, h⟩ := h
  refine wm_aload_n d_Sc_reduce_0 rfl rfl ?_
  refine gf_Sc_108 rfl d_Sc_reduce_1 h1 ?_
  refine wm_aload_n d_Sc_reduce_4 rfl rfl ?_
  refine gf_Sc_111 rfl d_Sc_reduce_5 h1 ?_
  refine cf_Sc_114 rfl d_Sc_reduce_8 h2 (Nat.le_of_ble_eq_true rfl) (Cv.mono h (fun M3 h => ?_))
  obtain ⟨hOM3, h⟩ := h
  obtain ⟨h6, h⟩ := h
  obtain ⟨M7, e8⟩ : ∃ M7, M7 = mUI M3 a1 2 1 := ⟨_, rfl⟩
  replace h := h M7 e8
  obtain ⟨h9, h⟩ := h
  refine wm_aload_n d_Sc_reduce_11 rfl rfl ?_
  refine wm_iconst d_Sc_reduce_12 ?_
  have hOM7 : mOk M7 := by rw [e8]; exact mOk_UI hOM3 ⟨by decide, by decide⟩
  refine pf_Sc_111 rfl d_Sc_reduce_13 h6 ⟨by decide, by decide⟩ e8 ?_
  refine wm_aload_n d_Sc_reduce_16 rfl rfl ?_
  refine gf_Sc_118 rfl d_Sc_reduce_17 (by rw [e8]; exact h6) ?_
  refine gf_Sc_57 rfl d_Sc_reduce_20 h9 ?_
  refine wm_if_ne (tgt := 35) d_Sc_reduce_23 rfl (hOM7 _ _).1 (fun c11 => ?_) (fun c11 => ?_)
  · replace h := h.2 c11
    obtain ⟨h16, h⟩ := h
    refine wm_aload_n d_Sc_reduce_35 rfl rfl ?_
    refine wm_aload_n d_Sc_reduce_36 rfl rfl ?_
    refine gf_Sc_118 rfl d_Sc_reduce_37 (by rw [e8]; exact h6) ?_
    refine wm_aload_n d_Sc_reduce_40 rfl rfl ?_
    refine gf_Sc_108 rfl d_Sc_reduce_41 (by rw [e8]; exact h6) ?_
    refine cf_Sc_123 rfl d_Sc_reduce_44 h16 (Nat.le_of_ble_eq_true rfl) (Cr.mono h (fun x18 M17 h => ?_))
    obtain ⟨hOM17, h⟩ := h
    obtain ⟨h20, h⟩ := h
    refine wm_astore_n d_Sc_reduce_47 rfl (by decide) (L' := [vr a0, vr a1, vr x18]) rfl ?_
    refine wm_aload_n d_Sc_reduce_48 rfl rfl ?_
    refine cf_Sc_126 rfl d_Sc_reduce_49 h20 (Nat.le_of_ble_eq_true rfl) (Ci.mono h (fun x22 M21 h => ?_))
    obtain ⟨h23, hOM21, h⟩ := h
    refine wm_if_ne (tgt := 109) d_Sc_reduce_52 rfl h23 (fun c28 => ?_) (fun c28 => ?_)
    · replace h := h.2 c28
      refine wm_return d_Sc_reduce_109 rfl ?_
      exact ⟨rfl, h⟩
    · replace c28 := Classical.not_not.mp c28
      replace h := h.1 c28
      obtain ⟨h29, h⟩ := h
      obtain ⟨h30, h⟩ := h
      obtain ⟨h31, h⟩ := h
      refine wm_aload_n d_Sc_reduce_55 rfl rfl ?_
      refine gf_Sc_118 rfl d_Sc_reduce_56 h29 ?_
      refine wm_aload_n d_Sc_reduce_59 rfl rfl ?_
      refine wm_aload_n d_Sc_reduce_60 rfl rfl ?_
      refine gf_Sc_21 rfl d_Sc_reduce_61 h30 ?_
      refine wm_aload_n d_Sc_reduce_64 rfl rfl ?_
      refine gf_Sc_24 rfl d_Sc_reduce_65 h30 ?_
      refine cf_Sc_53 rfl d_Sc_reduce_68 h31 (Nat.le_of_ble_eq_true rfl) (Cv.mono h (fun M32 h => ?_))
      obtain ⟨hOM32, h⟩ := h
      obtain ⟨h35, h⟩ := h
      obtain ⟨h36, h⟩ := h
      obtain ⟨h37, h⟩ := h
      refine wm_aload_n d_Sc_reduce_71 rfl rfl ?_
      refine gf_Sc_118 rfl d_Sc_reduce_72 h35 ?_
      refine wm_aload_n d_Sc_reduce_75 rfl rfl ?_
      refine gf_Sc_21 rfl d_Sc_reduce_76 h36 ?_
      refine cf_Sc_69 rfl d_Sc_reduce_79 h37 (Nat.le_of_ble_eq_true rfl) (Cv.mono h (fun M38 h => ?_))
      obtain ⟨hOM38, h⟩ := h
      obtain ⟨h41, h⟩ := h
      obtain ⟨h42, h⟩ := h
      obtain ⟨h43, h⟩ := h
      refine wm_aload_n d_Sc_reduce_82 rfl rfl ?_
      refine gf_Sc_108 rfl d_Sc_reduce_83 h41 ?_
      refine wm_aload_n d_Sc_reduce_86 rfl rfl ?_
      refine wm_aload_n d_Sc_reduce_87 rfl rfl ?_
      refine gf_Sc_21 rfl d_Sc_reduce_88 h42 ?_
      refine wm_aload_n d_Sc_reduce_91 rfl rfl ?_
      refine gf_Sc_24 rfl d_Sc_reduce_92 h42 ?_
      refine cf_Sc_53 rfl d_Sc_reduce_95 h43 (Nat.le_of_ble_eq_true rfl) (Cv.mono h (fun M44 h => ?_))
      obtain ⟨hOM44, h⟩ := h
      obtain ⟨h47, h⟩ := h
      obtain ⟨h48, h⟩ := h
      obtain ⟨h49, h⟩ := h
      refine wm_aload_n d_Sc_reduce_98 rfl rfl ?_
      refine gf_Sc_108 rfl d_Sc_reduce_99 h47 ?_
      refine wm_aload_n d_Sc_reduce_102 rfl rfl ?_
      refine gf_Sc_21 rfl d_Sc_reduce_103 h48 ?_
      refine cf_Sc_69 rfl d_Sc_reduce_106 h49 (Nat.le_of_ble_eq_true rfl) (Cv.mono h (fun M50 h => ?_))
      obtain ⟨hOM50, h⟩ := h
      refine wm_return d_Sc_reduce_109 rfl ?_
      exact ⟨rfl, h⟩
  · replace c11 := Classical.not_not.mp c11
    replace h := h.1 c11
    obtain ⟨h12, h⟩ := h
    refine wm_aload_n d_Sc_reduce_26 rfl rfl ?_
    refine gf_Sc_108 rfl d_Sc_reduce_27 (by rw [e8]; exact h6) ?_
    refine wm_iconst d_Sc_reduce_30 ?_
    refine cf_Sc_121 rfl d_Sc_reduce_31 h12 (Nat.le_of_ble_eq_true rfl) (Cv.mono h (fun M13 h => ?_))
    obtain ⟨hOM13, h⟩ := h
    refine wm_return d_Sc_reduce_34 rfl ?_
    exact ⟨rfl, h⟩
theorem d_Sc_order_0 : decode y_Sc_order.2.1 0 = .ok (.aload_n 1, 1) := by decide +kernel
theorem d_Sc_order_1 : decode y_Sc_order.2.1 1 = .ok (.getfield 108, 3) := by decide +kernel
theorem d_Sc_order_4 : decode y_Sc_order.2.1 4 = .ok (.aload_n 2, 1) := by decide +kernel
theorem d_Sc_order_5 : decode y_Sc_order.2.1 5 = .ok (.getfield 108, 3) := by decide +kernel
theorem d_Sc_order_8 : decode y_Sc_order.2.1 8 = .ok (.invokestatic 65, 3) := by decide +kernel
theorem d_Sc_order_11 : decode y_Sc_order.2.1 11 = .ok (.ifCond .ne 28, 3) := by decide +kernel
theorem d_Sc_order_14 : decode y_Sc_order.2.1 14 = .ok (.aload_n 0, 1) := by decide +kernel
theorem d_Sc_order_15 : decode y_Sc_order.2.1 15 = .ok (.getfield 27, 3) := by decide +kernel
theorem d_Sc_order_18 : decode y_Sc_order.2.1 18 = .ok (.aload_n 1, 1) := by decide +kernel
theorem d_Sc_order_19 : decode y_Sc_order.2.1 19 = .ok (.getfield 118, 3) := by decide +kernel
theorem d_Sc_order_39 : decode y_Sc_order.2.1 39 = .ok (.aload_n 0, 1) := by decide +kernel
theorem d_Sc_order_40 : decode y_Sc_order.2.1 40 = .ok (.getfield 27, 3) := by decide +kernel
theorem d_Sc_order_43 : decode y_Sc_order.2.1 43 = .ok (.aload_n 1, 1) := by decide +kernel
theorem d_Sc_order_44 : decode y_Sc_order.2.1 44 = .ok (.getfield 118, 3) := by decide +kernel
theorem d_Sc_order_47 : decode y_Sc_order.2.1 47 = .ok (.aload_n 2, 1) := by decide +kernel
theorem d_Sc_order_48 : decode y_Sc_order.2.1 48 = .ok (.getfield 108, 3) := by decide +kernel
theorem d_Sc_order_22 : decode y_Sc_order.2.1 22 = .ok (.invokevirtual 69, 3) := by decide +kernel
theorem d_Sc_order_25 : decode y_Sc_order.2.1 25 = .ok (.aload_n 0, 1) := by decide +kernel
theorem d_Sc_order_26 : decode y_Sc_order.2.1 26 = .ok (.getfield 30, 3) := by decide +kernel
theorem d_Sc_order_29 : decode y_Sc_order.2.1 29 = .ok (.aload_n 2, 1) := by decide +kernel
theorem d_Sc_order_30 : decode y_Sc_order.2.1 30 = .ok (.getfield 118, 3) := by decide +kernel
theorem d_Sc_order_33 : decode y_Sc_order.2.1 33 = .ok (.invokevirtual 69, 3) := by decide +kernel
theorem d_Sc_order_36 : decode y_Sc_order.2.1 36 = .ok (.goto 33, 3) := by decide +kernel
theorem d_Sc_order_69 : decode y_Sc_order.2.1 69 = .ok (.aload_n 0, 1) := by decide +kernel
theorem d_Sc_order_70 : decode y_Sc_order.2.1 70 = .ok (.getfield 27, 3) := by decide +kernel
theorem d_Sc_order_73 : decode y_Sc_order.2.1 73 = .ok (.aload_n 2, 1) := by decide +kernel
theorem d_Sc_order_74 : decode y_Sc_order.2.1 74 = .ok (.getfield 111, 3) := by decide +kernel
theorem d_Sc_order_77 : decode y_Sc_order.2.1 77 = .ok (.invokevirtual 114, 3) := by decide +kernel
theorem d_Sc_order_80 : decode y_Sc_order.2.1 80 = .ok (.aload_n 0, 1) := by decide +kernel
theorem d_Sc_order_81 : decode y_Sc_order.2.1 81 = .ok (.getfield 30, 3) := by decide +kernel
theorem d_Sc_order_84 : decode y_Sc_order.2.1 84 = .ok (.aload_n 1, 1) := by decide +kernel
theorem d_Sc_order_85 : decode y_Sc_order.2.1 85 = .ok (.getfield 111, 3) := by decide +kernel
theorem d_Sc_order_88 : decode y_Sc_order.2.1 88 = .ok (.invokevirtual 114, 3) := by decide +kernel
theorem d_Sc_order_91 : decode y_Sc_order.2.1 91 = .ok (.aload_n 0, 1) := by decide +kernel
theorem d_Sc_order_92 : decode y_Sc_order.2.1 92 = .ok (.getfield 27, 3) := by decide +kernel
theorem d_Sc_order_95 : decode y_Sc_order.2.1 95 = .ok (.aload_n 0, 1) := by decide +kernel
theorem d_Sc_order_96 : decode y_Sc_order.2.1 96 = .ok (.getfield 30, 3) := by decide +kernel
theorem d_Sc_order_99 : decode y_Sc_order.2.1 99 = .ok (.invokestatic 65, 3) := by decide +kernel
theorem d_Sc_order_102 : decode y_Sc_order.2.1 102 = .ok (.ireturn, 1) := by decide +kernel
theorem d_Sc_order_51 : decode y_Sc_order.2.1 51 = .ok (.invokevirtual 130, 3) := by decide +kernel
theorem d_Sc_order_54 : decode y_Sc_order.2.1 54 = .ok (.aload_n 0, 1) := by decide +kernel
theorem d_Sc_order_55 : decode y_Sc_order.2.1 55 = .ok (.getfield 30, 3) := by decide +kernel
theorem d_Sc_order_58 : decode y_Sc_order.2.1 58 = .ok (.aload_n 2, 1) := by decide +kernel
theorem d_Sc_order_59 : decode y_Sc_order.2.1 59 = .ok (.getfield 118, 3) := by decide +kernel
theorem d_Sc_order_62 : decode y_Sc_order.2.1 62 = .ok (.aload_n 1, 1) := by decide +kernel
theorem d_Sc_order_63 : decode y_Sc_order.2.1 63 = .ok (.getfield 108, 3) := by decide +kernel
theorem d_Sc_order_66 : decode y_Sc_order.2.1 66 = .ok (.invokevirtual 130, 3) := by decide +kernel
theorem k_Sc_order {G : mG} {d : Nat} {a0 : Nat} {a1 : Nat} {a2 : Nat} {M : mM} {Q : Int → mM → Prop} (hO : mOk M)
    (h : mK M a1 = 11 ∧ mK M a2 = 11 ∧ Ci G y_Na_order d [vr (mR M a1 1), vr (mR M a2 1)] M (fun x4 M3 => i32 x4 ∧ mOk M3 ∧ (((x4 = 0) → (mK M3 a0 = 9 ∧ mK M3 a1 = 11 ∧ mK M3 (mR M3 a0 4) = 10 ∧ Cv G y_Na_put1 d [vr (mR M3 a0 4), vr (mR M3 a1 0)] M3 (fun M14 => mOk M14 ∧ (mK M14 a0 = 9 ∧ mK M14 a2 = 11 ∧ mK M14 (mR M14 a0 5) = 10 ∧ Cv G y_Na_put1 d [vr (mR M14 a0 5), vr (mR M14 a2 0)] M14 (fun M20 => mOk M20 ∧ (mK M20 a0 = 9 ∧ mK M20 a2 = 11 ∧ mK M20 (mR M20 a0 4) = 10 ∧ Cv G y_Na_multiply d [vr (mR M20 a0 4), vi (mI M20 a2 2)] M20 (fun M26 => mOk M26 ∧ (mK M26 a0 = 9 ∧ mK M26 a1 = 11 ∧ mK M26 (mR M26 a0 5) = 10 ∧ Cv G y_Na_multiply d [vr (mR M26 a0 5), vi (mI M26 a1 2)] M26 (fun M32 => mOk M32 ∧ (mK M32 a0 = 9 ∧ Ci G y_Na_order d [vr (mR M32 a0 4), vr (mR M32 a0 5)] M32 (fun x37 M36 => i32 x37 ∧ mOk M36 ∧ (Q x37 M36)))))))))))) ∧ (¬ (x4 = 0) → (mK M3 a0 = 9 ∧ mK M3 a1 = 11 ∧ mK M3 a2 = 11 ∧ mK M3 (mR M3 a0 4) = 10 ∧ Cv G y_Na_putProduct d [vr (mR M3 a0 4), vr (mR M3 a1 0), vr (mR M3 a2 1)] M3 (fun M43 => mOk M43 ∧ (mK M43 a0 = 9 ∧ mK M43 a2 = 11 ∧ mK M43 a1 = 11 ∧ mK M43 (mR M43 a0 5) = 10 ∧ Cv G y_Na_putProduct d [vr (mR M43 a0 5), vr (mR M43 a2 0), vr (mR M43 a1 1)] M43 (fun M50 => mOk M50 ∧ (mK M50 a0 = 9 ∧ mK M50 a2 = 11 ∧ mK M50 (mR M50 a0 4) = 10 ∧ Cv G y_Na_multiply d [vr (mR M50 a0 4), vi (mI M50 a2 2)] M50 (fun M56 => mOk M56 ∧ (mK M56 a0 = 9 ∧ mK M56 a1 = 11 ∧ mK M56 (mR M56 a0 5) = 10 ∧ Cv G y_Na_multiply d [vr (mR M56 a0 5), vi (mI M56 a1 2)] M56 (fun M62 => mOk M62 ∧ (mK M62 a0 = 9 ∧ Ci G y_Na_order d [vr (mR M62 a0 4), vr (mR M62 a0 5)] M62 (fun x67 M66 => i32 x67 ∧ mOk M66 ∧ (Q x67 M66))))))))))))))) :
    Ci G y_Sc_order (d + 1) [vr a0, vr a1, vr a2] M Q := by
  refine wm_open (y := y_Sc_order) rfl (Nat.le_of_ble_eq_true rfl) (L := [vr a0, vr a1, vr a2]) rfl ?_
  obtain ⟨h1, h⟩ := h
  obtain ⟨h2, h⟩ := h
  refine wm_aload_n d_Sc_order_0 rfl rfl ?_
  refine gf_Sc_108 rfl d_Sc_order_1 h1 ?_
  refine wm_aload_n d_Sc_order_4 rfl rfl ?_
  refine gf_Sc_108 rfl d_Sc_order_5 h2 ?_
  refine cf_Sc_65 rfl d_Sc_order_8 (Nat.le_of_ble_eq_true rfl) (Ci.mono h (fun x4 M3 h => ?_))
  obtain ⟨h5, hOM3, h⟩ := h
  refine wm_if_ne (tgt := 39) d_Sc_order_11 rfl h5 (fun c10 => ?_) (fun c10 => ?_)
  · replace h := h.2 c10
    obtain ⟨h39, h⟩ := h
    obtain ⟨h40, h⟩ := h
    obtain ⟨h41, h⟩ := h
    obtain ⟨h42, h⟩ := h
    refine wm_aload_n d_Sc_order_39 rfl rfl ?_
    refine gf_Sc_27 rfl d_Sc_order_40 h39 ?_
    refine wm_aload_n d_Sc_order_43 rfl rfl ?_
    refine gf_Sc_118 rfl d_Sc_order_44 h40 ?_
    refine wm_aload_n d_Sc_order_47 rfl rfl ?_
    refine gf_Sc_108 rfl d_Sc_order_48 h41 ?_
    refine cf_Sc_130 rfl d_Sc_order_51 h42 (Nat.le_of_ble_eq_true rfl) (Cv.mono h (fun M43 h => ?_))
    obtain ⟨hOM43, h⟩ := h
    obtain ⟨h46, h⟩ := h
    obtain ⟨h47, h⟩ := h
    obtain ⟨h48, h⟩ := h
    obtain ⟨h49, h⟩ := h
    refine wm_aload_n d_Sc_order_54 rfl rfl ?_
    refine gf_Sc_30 rfl d_Sc_order_55 h46 ?_
    refine wm_aload_n d_Sc_order_58 rfl rfl ?_
    refine gf_Sc_118 rfl d_Sc_order_59 h47 ?_
    refine wm_aload_n d_Sc_order_62 rfl rfl ?_
    refine gf_Sc_108 rfl d_Sc_order_63 h48 ?_
    refine cf_Sc_130 rfl d_Sc_order_66 h49 (Nat.le_of_ble_eq_true rfl) (Cv.mono h (fun M50 h => ?_))
    obtain ⟨hOM50, h⟩ := h
    obtain ⟨h53, h⟩ := h
    obtain ⟨h54, h⟩ := h
    obtain ⟨h55, h⟩ := h
    refine wm_aload_n d_Sc_order_69 rfl rfl ?_
    refine gf_Sc_27 rfl d_Sc_order_70 h53 ?_
    refine wm_aload_n d_Sc_order_73 rfl rfl ?_
    refine gf_Sc_111 rfl d_Sc_order_74 h54 ?_
    refine cf_Sc_114 rfl d_Sc_order_77 h55 (Nat.le_of_ble_eq_true rfl) (Cv.mono h (fun M56 h => ?_))
    obtain ⟨hOM56, h⟩ := h
    obtain ⟨h59, h⟩ := h
    obtain ⟨h60, h⟩ := h
    obtain ⟨h61, h⟩ := h
    refine wm_aload_n d_Sc_order_80 rfl rfl ?_
    refine gf_Sc_30 rfl d_Sc_order_81 h59 ?_
    refine wm_aload_n d_Sc_order_84 rfl rfl ?_
    refine gf_Sc_111 rfl d_Sc_order_85 h60 ?_
    refine cf_Sc_114 rfl d_Sc_order_88 h61 (Nat.le_of_ble_eq_true rfl) (Cv.mono h (fun M62 h => ?_))
    obtain ⟨hOM62, h⟩ := h
    obtain ⟨h65, h⟩ := h
    refine wm_aload_n d_Sc_order_91 rfl rfl ?_
    refine gf_Sc_27 rfl d_Sc_order_92 h65 ?_
    refine wm_aload_n d_Sc_order_95 rfl rfl ?_
    refine gf_Sc_30 rfl d_Sc_order_96 h65 ?_
    refine cf_Sc_65 rfl d_Sc_order_99 (Nat.le_of_ble_eq_true rfl) (Ci.mono h (fun x67 M66 h => ?_))
    obtain ⟨h68, hOM66, h⟩ := h
    refine wm_ireturn d_Sc_order_102 rfl rfl ?_
    exact ⟨_, rfl, h⟩
  · replace c10 := Classical.not_not.mp c10
    replace h := h.1 c10
    obtain ⟨h11, h⟩ := h
    obtain ⟨h12, h⟩ := h
    obtain ⟨h13, h⟩ := h
    refine wm_aload_n d_Sc_order_14 rfl rfl ?_
    refine gf_Sc_27 rfl d_Sc_order_15 h11 ?_
    refine wm_aload_n d_Sc_order_18 rfl rfl ?_
    refine gf_Sc_118 rfl d_Sc_order_19 h12 ?_
    refine cf_Sc_69 rfl d_Sc_order_22 h13 (Nat.le_of_ble_eq_true rfl) (Cv.mono h (fun M14 h => ?_))
    obtain ⟨hOM14, h⟩ := h
    obtain ⟨h17, h⟩ := h
    obtain ⟨h18, h⟩ := h
    obtain ⟨h19, h⟩ := h
    refine wm_aload_n d_Sc_order_25 rfl rfl ?_
    refine gf_Sc_30 rfl d_Sc_order_26 h17 ?_
    refine wm_aload_n d_Sc_order_29 rfl rfl ?_
    refine gf_Sc_118 rfl d_Sc_order_30 h18 ?_
    refine cf_Sc_69 rfl d_Sc_order_33 h19 (Nat.le_of_ble_eq_true rfl) (Cv.mono h (fun M20 h => ?_))
    obtain ⟨hOM20, h⟩ := h
    obtain ⟨h23, h⟩ := h
    obtain ⟨h24, h⟩ := h
    obtain ⟨h25, h⟩ := h
    refine wm_goto (tgt := 69) d_Sc_order_36 rfl ?_
    refine wm_aload_n d_Sc_order_69 rfl rfl ?_
    refine gf_Sc_27 rfl d_Sc_order_70 h23 ?_
    refine wm_aload_n d_Sc_order_73 rfl rfl ?_
    refine gf_Sc_111 rfl d_Sc_order_74 h24 ?_
    refine cf_Sc_114 rfl d_Sc_order_77 h25 (Nat.le_of_ble_eq_true rfl) (Cv.mono h (fun M26 h => ?_))
    obtain ⟨hOM26, h⟩ := h
    obtain ⟨h29, h⟩ := h
    obtain ⟨h30, h⟩ := h
    obtain ⟨h31, h⟩ := h
    refine wm_aload_n d_Sc_order_80 rfl rfl ?_
    refine gf_Sc_30 rfl d_Sc_order_81 h29 ?_
    refine wm_aload_n d_Sc_order_84 rfl rfl ?_
    refine gf_Sc_111 rfl d_Sc_order_85 h30 ?_
    refine cf_Sc_114 rfl d_Sc_order_88 h31 (Nat.le_of_ble_eq_true rfl) (Cv.mono h (fun M32 h => ?_))
    obtain ⟨hOM32, h⟩ := h
    obtain ⟨h35, h⟩ := h
    refine wm_aload_n d_Sc_order_91 rfl rfl ?_
    refine gf_Sc_27 rfl d_Sc_order_92 h35 ?_
    refine wm_aload_n d_Sc_order_95 rfl rfl ?_
    refine gf_Sc_30 rfl d_Sc_order_96 h35 ?_
    refine cf_Sc_65 rfl d_Sc_order_99 (Nat.le_of_ble_eq_true rfl) (Ci.mono h (fun x37 M36 h => ?_))
    obtain ⟨h38, hOM36, h⟩ := h
    refine wm_ireturn d_Sc_order_102 rfl rfl ?_
    exact ⟨_, rfl, h⟩
theorem d_Sc_weigh_0 : decode y_Sc_weigh.2.1 0 = .ok (.aload 4, 2) := by decide +kernel
theorem d_Sc_weigh_2 : decode y_Sc_weigh.2.1 2 = .ok (.iconst 0, 1) := by decide +kernel
theorem d_Sc_weigh_3 : decode y_Sc_weigh.2.1 3 = .ok (.invokevirtual 134, 3) := by decide +kernel
theorem d_Sc_weigh_6 : decode y_Sc_weigh.2.1 6 = .ok (.aload 4, 2) := by decide +kernel
theorem d_Sc_weigh_8 : decode y_Sc_weigh.2.1 8 = .ok (.aload_n 1, 1) := by decide +kernel
theorem d_Sc_weigh_9 : decode y_Sc_weigh.2.1 9 = .ok (.getfield 135, 3) := by decide +kernel
theorem d_Sc_weigh_12 : decode y_Sc_weigh.2.1 12 = .ok (.iload_n 2, 1) := by decide +kernel
theorem d_Sc_weigh_13 : decode y_Sc_weigh.2.1 13 = .ok (.iaload, 1) := by decide +kernel
theorem d_Sc_weigh_14 : decode y_Sc_weigh.2.1 14 = .ok (.putfield 111, 3) := by decide +kernel
theorem d_Sc_weigh_17 : decode y_Sc_weigh.2.1 17 = .ok (.aload_n 1, 1) := by decide +kernel
theorem d_Sc_weigh_18 : decode y_Sc_weigh.2.1 18 = .ok (.getfield 140, 3) := by decide +kernel
theorem d_Sc_weigh_21 : decode y_Sc_weigh.2.1 21 = .ok (.iload_n 2, 1) := by decide +kernel
theorem d_Sc_weigh_22 : decode y_Sc_weigh.2.1 22 = .ok (.iaload, 1) := by decide +kernel
theorem d_Sc_weigh_23 : decode y_Sc_weigh.2.1 23 = .ok (.istore 5, 2) := by decide +kernel
theorem d_Sc_weigh_25 : decode y_Sc_weigh.2.1 25 = .ok (.iload 5, 2) := by decide +kernel
theorem d_Sc_weigh_27 : decode y_Sc_weigh.2.1 27 = .ok (.aload_n 1, 1) := by decide +kernel
theorem d_Sc_weigh_28 : decode y_Sc_weigh.2.1 28 = .ok (.getfield 140, 3) := by decide +kernel
theorem d_Sc_weigh_31 : decode y_Sc_weigh.2.1 31 = .ok (.iload_n 2, 1) := by decide +kernel
theorem d_Sc_weigh_32 : decode y_Sc_weigh.2.1 32 = .ok (.iconst 1, 1) := by decide +kernel
theorem d_Sc_weigh_33 : decode y_Sc_weigh.2.1 33 = .ok (.iadd, 1) := by decide +kernel
theorem d_Sc_weigh_34 : decode y_Sc_weigh.2.1 34 = .ok (.iaload, 1) := by decide +kernel
theorem d_Sc_weigh_35 : decode y_Sc_weigh.2.1 35 = .ok (.if_icmp .ge 262, 3) := by decide +kernel
theorem d_Sc_weigh_297 : decode y_Sc_weigh.2.1 297 = .ok (.return_, 1) := by decide +kernel
theorem d_Sc_weigh_38 : decode y_Sc_weigh.2.1 38 = .ok (.aload_n 3, 1) := by decide +kernel
theorem d_Sc_weigh_39 : decode y_Sc_weigh.2.1 39 = .ok (.getfield 143, 3) := by decide +kernel
theorem d_Sc_weigh_42 : decode y_Sc_weigh.2.1 42 = .ok (.aload_n 1, 1) := by decide +kernel
theorem d_Sc_weigh_43 : decode y_Sc_weigh.2.1 43 = .ok (.getfield 149, 3) := by decide +kernel
theorem d_Sc_weigh_46 : decode y_Sc_weigh.2.1 46 = .ok (.iload 5, 2) := by decide +kernel
theorem d_Sc_weigh_48 : decode y_Sc_weigh.2.1 48 = .ok (.iaload, 1) := by decide +kernel
theorem d_Sc_weigh_49 : decode y_Sc_weigh.2.1 49 = .ok (.aaload, 1) := by decide +kernel
theorem d_Sc_weigh_50 : decode y_Sc_weigh.2.1 50 = .ok (.astore 6, 2) := by decide +kernel
theorem d_Sc_weigh_52 : decode y_Sc_weigh.2.1 52 = .ok (.aload_n 1, 1) := by decide +kernel
theorem d_Sc_weigh_53 : decode y_Sc_weigh.2.1 53 = .ok (.getfield 152, 3) := by decide +kernel
theorem d_Sc_weigh_56 : decode y_Sc_weigh.2.1 56 = .ok (.iload 5, 2) := by decide +kernel
theorem d_Sc_weigh_58 : decode y_Sc_weigh.2.1 58 = .ok (.iaload, 1) := by decide +kernel
theorem d_Sc_weigh_59 : decode y_Sc_weigh.2.1 59 = .ok (.istore 7, 2) := by decide +kernel
theorem d_Sc_weigh_61 : decode y_Sc_weigh.2.1 61 = .ok (.aload 6, 2) := by decide +kernel
theorem d_Sc_weigh_63 : decode y_Sc_weigh.2.1 63 = .ok (.getfield 118, 3) := by decide +kernel
theorem d_Sc_weigh_66 : decode y_Sc_weigh.2.1 66 = .ok (.getfield 57, 3) := by decide +kernel
theorem d_Sc_weigh_69 : decode y_Sc_weigh.2.1 69 = .ok (.ifCond .ne 6, 3) := by decide +kernel
theorem d_Sc_weigh_72 : decode y_Sc_weigh.2.1 72 = .ok (.goto 219, 3) := by decide +kernel
theorem d_Sc_weigh_75 : decode y_Sc_weigh.2.1 75 = .ok (.aload 4, 2) := by decide +kernel
theorem d_Sc_weigh_77 : decode y_Sc_weigh.2.1 77 = .ok (.getfield 108, 3) := by decide +kernel
theorem d_Sc_weigh_80 : decode y_Sc_weigh.2.1 80 = .ok (.aload 6, 2) := by decide +kernel
theorem d_Sc_weigh_82 : decode y_Sc_weigh.2.1 82 = .ok (.getfield 108, 3) := by decide +kernel
theorem d_Sc_weigh_85 : decode y_Sc_weigh.2.1 85 = .ok (.invokestatic 65, 3) := by decide +kernel
theorem d_Sc_weigh_88 : decode y_Sc_weigh.2.1 88 = .ok (.ifCond .ne 21, 3) := by decide +kernel
theorem d_Sc_weigh_91 : decode y_Sc_weigh.2.1 91 = .ok (.aload 4, 2) := by decide +kernel
theorem d_Sc_weigh_93 : decode y_Sc_weigh.2.1 93 = .ok (.getfield 118, 3) := by decide +kernel
theorem d_Sc_weigh_96 : decode y_Sc_weigh.2.1 96 = .ok (.aload 6, 2) := by decide +kernel
theorem d_Sc_weigh_98 : decode y_Sc_weigh.2.1 98 = .ok (.getfield 118, 3) := by decide +kernel
theorem d_Sc_weigh_101 : decode y_Sc_weigh.2.1 101 = .ok (.iload 7, 2) := by decide +kernel
theorem d_Sc_weigh_109 : decode y_Sc_weigh.2.1 109 = .ok (.aload_n 0, 1) := by decide +kernel
theorem d_Sc_weigh_110 : decode y_Sc_weigh.2.1 110 = .ok (.aload 4, 2) := by decide +kernel
theorem d_Sc_weigh_112 : decode y_Sc_weigh.2.1 112 = .ok (.getfield 108, 3) := by decide +kernel
theorem d_Sc_weigh_115 : decode y_Sc_weigh.2.1 115 = .ok (.aload 6, 2) := by decide +kernel
theorem d_Sc_weigh_117 : decode y_Sc_weigh.2.1 117 = .ok (.getfield 108, 3) := by decide +kernel
theorem d_Sc_weigh_103 : decode y_Sc_weigh.2.1 103 = .ok (.invokevirtual 155, 3) := by decide +kernel
theorem d_Sc_weigh_106 : decode y_Sc_weigh.2.1 106 = .ok (.goto 185, 3) := by decide +kernel
theorem d_Sc_weigh_120 : decode y_Sc_weigh.2.1 120 = .ok (.invokevirtual 123, 3) := by decide +kernel
theorem d_Sc_weigh_123 : decode y_Sc_weigh.2.1 123 = .ok (.astore 8, 2) := by decide +kernel
theorem d_Sc_weigh_125 : decode y_Sc_weigh.2.1 125 = .ok (.aload_n 0, 1) := by decide +kernel
theorem d_Sc_weigh_126 : decode y_Sc_weigh.2.1 126 = .ok (.getfield 37, 3) := by decide +kernel
theorem d_Sc_weigh_129 : decode y_Sc_weigh.2.1 129 = .ok (.aload 4, 2) := by decide +kernel
theorem d_Sc_weigh_131 : decode y_Sc_weigh.2.1 131 = .ok (.getfield 108, 3) := by decide +kernel
theorem d_Sc_weigh_134 : decode y_Sc_weigh.2.1 134 = .ok (.invokevirtual 69, 3) := by decide +kernel
theorem d_Sc_weigh_137 : decode y_Sc_weigh.2.1 137 = .ok (.aload_n 0, 1) := by decide +kernel
theorem d_Sc_weigh_138 : decode y_Sc_weigh.2.1 138 = .ok (.getfield 37, 3) := by decide +kernel
theorem d_Sc_weigh_141 : decode y_Sc_weigh.2.1 141 = .ok (.aload 8, 2) := by decide +kernel
theorem d_Sc_weigh_143 : decode y_Sc_weigh.2.1 143 = .ok (.aload_n 0, 1) := by decide +kernel
theorem d_Sc_weigh_144 : decode y_Sc_weigh.2.1 144 = .ok (.getfield 21, 3) := by decide +kernel
theorem d_Sc_weigh_147 : decode y_Sc_weigh.2.1 147 = .ok (.aload_n 0, 1) := by decide +kernel
theorem d_Sc_weigh_148 : decode y_Sc_weigh.2.1 148 = .ok (.getfield 24, 3) := by decide +kernel
theorem d_Sc_weigh_151 : decode y_Sc_weigh.2.1 151 = .ok (.invokevirtual 53, 3) := by decide +kernel
theorem d_Sc_weigh_154 : decode y_Sc_weigh.2.1 154 = .ok (.aload_n 0, 1) := by decide +kernel
theorem d_Sc_weigh_155 : decode y_Sc_weigh.2.1 155 = .ok (.getfield 37, 3) := by decide +kernel
theorem d_Sc_weigh_158 : decode y_Sc_weigh.2.1 158 = .ok (.aload_n 0, 1) := by decide +kernel
theorem d_Sc_weigh_159 : decode y_Sc_weigh.2.1 159 = .ok (.getfield 21, 3) := by decide +kernel
theorem d_Sc_weigh_162 : decode y_Sc_weigh.2.1 162 = .ok (.invokevirtual 69, 3) := by decide +kernel
theorem d_Sc_weigh_165 : decode y_Sc_weigh.2.1 165 = .ok (.aload_n 0, 1) := by decide +kernel
theorem d_Sc_weigh_166 : decode y_Sc_weigh.2.1 166 = .ok (.getfield 40, 3) := by decide +kernel
theorem d_Sc_weigh_169 : decode y_Sc_weigh.2.1 169 = .ok (.aload 6, 2) := by decide +kernel
theorem d_Sc_weigh_171 : decode y_Sc_weigh.2.1 171 = .ok (.getfield 108, 3) := by decide +kernel
theorem d_Sc_weigh_174 : decode y_Sc_weigh.2.1 174 = .ok (.invokevirtual 69, 3) := by decide +kernel
theorem d_Sc_weigh_177 : decode y_Sc_weigh.2.1 177 = .ok (.aload_n 0, 1) := by decide +kernel
theorem d_Sc_weigh_178 : decode y_Sc_weigh.2.1 178 = .ok (.getfield 40, 3) := by decide +kernel
theorem d_Sc_weigh_181 : decode y_Sc_weigh.2.1 181 = .ok (.aload 8, 2) := by decide +kernel
theorem d_Sc_weigh_183 : decode y_Sc_weigh.2.1 183 = .ok (.aload_n 0, 1) := by decide +kernel
theorem d_Sc_weigh_184 : decode y_Sc_weigh.2.1 184 = .ok (.getfield 21, 3) := by decide +kernel
theorem d_Sc_weigh_187 : decode y_Sc_weigh.2.1 187 = .ok (.aload_n 0, 1) := by decide +kernel
theorem d_Sc_weigh_188 : decode y_Sc_weigh.2.1 188 = .ok (.getfield 24, 3) := by decide +kernel
theorem d_Sc_weigh_191 : decode y_Sc_weigh.2.1 191 = .ok (.invokevirtual 53, 3) := by decide +kernel
theorem d_Sc_weigh_194 : decode y_Sc_weigh.2.1 194 = .ok (.aload_n 0, 1) := by decide +kernel
theorem d_Sc_weigh_195 : decode y_Sc_weigh.2.1 195 = .ok (.getfield 40, 3) := by decide +kernel
theorem d_Sc_weigh_198 : decode y_Sc_weigh.2.1 198 = .ok (.aload_n 0, 1) := by decide +kernel
theorem d_Sc_weigh_199 : decode y_Sc_weigh.2.1 199 = .ok (.getfield 21, 3) := by decide +kernel
theorem d_Sc_weigh_202 : decode y_Sc_weigh.2.1 202 = .ok (.invokevirtual 69, 3) := by decide +kernel
theorem d_Sc_weigh_205 : decode y_Sc_weigh.2.1 205 = .ok (.aload_n 0, 1) := by decide +kernel
theorem d_Sc_weigh_206 : decode y_Sc_weigh.2.1 206 = .ok (.getfield 30, 3) := by decide +kernel
theorem d_Sc_weigh_209 : decode y_Sc_weigh.2.1 209 = .ok (.aload 4, 2) := by decide +kernel
theorem d_Sc_weigh_211 : decode y_Sc_weigh.2.1 211 = .ok (.getfield 118, 3) := by decide +kernel
theorem d_Sc_weigh_214 : decode y_Sc_weigh.2.1 214 = .ok (.aload_n 0, 1) := by decide +kernel
theorem d_Sc_weigh_215 : decode y_Sc_weigh.2.1 215 = .ok (.getfield 40, 3) := by decide +kernel
theorem d_Sc_weigh_218 : decode y_Sc_weigh.2.1 218 = .ok (.invokevirtual 130, 3) := by decide +kernel
theorem d_Sc_weigh_221 : decode y_Sc_weigh.2.1 221 = .ok (.aload 4, 2) := by decide +kernel
theorem d_Sc_weigh_223 : decode y_Sc_weigh.2.1 223 = .ok (.getfield 118, 3) := by decide +kernel
theorem d_Sc_weigh_226 : decode y_Sc_weigh.2.1 226 = .ok (.aload_n 0, 1) := by decide +kernel
theorem d_Sc_weigh_227 : decode y_Sc_weigh.2.1 227 = .ok (.getfield 30, 3) := by decide +kernel
theorem d_Sc_weigh_230 : decode y_Sc_weigh.2.1 230 = .ok (.invokevirtual 69, 3) := by decide +kernel
theorem d_Sc_weigh_233 : decode y_Sc_weigh.2.1 233 = .ok (.aload_n 0, 1) := by decide +kernel
theorem d_Sc_weigh_234 : decode y_Sc_weigh.2.1 234 = .ok (.getfield 30, 3) := by decide +kernel
theorem d_Sc_weigh_237 : decode y_Sc_weigh.2.1 237 = .ok (.aload 6, 2) := by decide +kernel
theorem d_Sc_weigh_239 : decode y_Sc_weigh.2.1 239 = .ok (.getfield 118, 3) := by decide +kernel
theorem d_Sc_weigh_242 : decode y_Sc_weigh.2.1 242 = .ok (.aload_n 0, 1) := by decide +kernel
theorem d_Sc_weigh_243 : decode y_Sc_weigh.2.1 243 = .ok (.getfield 37, 3) := by decide +kernel
theorem d_Sc_weigh_246 : decode y_Sc_weigh.2.1 246 = .ok (.invokevirtual 130, 3) := by decide +kernel
theorem d_Sc_weigh_249 : decode y_Sc_weigh.2.1 249 = .ok (.aload 4, 2) := by decide +kernel
theorem d_Sc_weigh_251 : decode y_Sc_weigh.2.1 251 = .ok (.getfield 118, 3) := by decide +kernel
theorem d_Sc_weigh_254 : decode y_Sc_weigh.2.1 254 = .ok (.aload_n 0, 1) := by decide +kernel
theorem d_Sc_weigh_255 : decode y_Sc_weigh.2.1 255 = .ok (.getfield 30, 3) := by decide +kernel
theorem d_Sc_weigh_258 : decode y_Sc_weigh.2.1 258 = .ok (.iload 7, 2) := by decide +kernel
theorem d_Sc_weigh_260 : decode y_Sc_weigh.2.1 260 = .ok (.invokevirtual 155, 3) := by decide +kernel
theorem d_Sc_weigh_263 : decode y_Sc_weigh.2.1 263 = .ok (.aload_n 0, 1) := by decide +kernel
theorem d_Sc_weigh_264 : decode y_Sc_weigh.2.1 264 = .ok (.getfield 30, 3) := by decide +kernel
theorem d_Sc_weigh_267 : decode y_Sc_weigh.2.1 267 = .ok (.aload 4, 2) := by decide +kernel
theorem d_Sc_weigh_269 : decode y_Sc_weigh.2.1 269 = .ok (.getfield 108, 3) := by decide +kernel
theorem d_Sc_weigh_272 : decode y_Sc_weigh.2.1 272 = .ok (.aload_n 0, 1) := by decide +kernel
theorem d_Sc_weigh_273 : decode y_Sc_weigh.2.1 273 = .ok (.getfield 40, 3) := by decide +kernel
theorem d_Sc_weigh_276 : decode y_Sc_weigh.2.1 276 = .ok (.invokevirtual 130, 3) := by decide +kernel
theorem d_Sc_weigh_279 : decode y_Sc_weigh.2.1 279 = .ok (.aload 4, 2) := by decide +kernel
theorem d_Sc_weigh_281 : decode y_Sc_weigh.2.1 281 = .ok (.getfield 108, 3) := by decide +kernel
theorem d_Sc_weigh_284 : decode y_Sc_weigh.2.1 284 = .ok (.aload_n 0, 1) := by decide +kernel
theorem d_Sc_weigh_285 : decode y_Sc_weigh.2.1 285 = .ok (.getfield 30, 3) := by decide +kernel
theorem d_Sc_weigh_288 : decode y_Sc_weigh.2.1 288 = .ok (.invokevirtual 69, 3) := by decide +kernel
theorem d_Sc_weigh_291 : decode y_Sc_weigh.2.1 291 = .ok (.iinc 5 1, 3) := by decide +kernel
theorem d_Sc_weigh_294 : decode y_Sc_weigh.2.1 294 = .ok (.goto (-269), 3) := by decide +kernel
def h_Sc_weigh_25 (G : mG) (d : Nat) (a0 : Nat) (a1 : Nat) (l2 : Int) (a3 : Nat) (a4 : Nat) (l5 : Int) (M : mM) (Q : mM → Prop) : Prop := mWm G y_Sc_weigh (d + 1) 25 [vr a0, vr a1, vi l2, vr a3, vr a4, vi l5, vd, vd, vd] [] M (fun r9 M9 => r9 = none ∧ Q M9)
def h_Sc_weigh_291 (G : mG) (d : Nat) (a0 : Nat) (a1 : Nat) (l2 : Int) (a3 : Nat) (a4 : Nat) (l5 : Int) (M : mM) (Q : mM → Prop) : Prop := mWm G y_Sc_weigh (d + 1) 291 [vr a0, vr a1, vi l2, vr a3, vr a4, vi l5, vd, vd, vd] [] M (fun r9 M9 => r9 = none ∧ Q M9)
theorem k_Sc_weigh {G : mG} {d : Nat} {a0 : Nat} {a1 : Nat} {l2 : Int} {a3 : Nat} {a4 : Nat} {M : mM} {Q : mM → Prop} (hO : mOk M) (hi_l2 : i32 l2)
    (h : mK M a4 = 11 ∧ Cv G y_Fr_put0 d [vr a4, vi 0] M (fun M2 => mOk M2 ∧ (mK M2 a1 = 7 ∧ mK M2 (mR M2 a1 6) = 30 ∧ ((0 : Int) ≤ l2 ∧ l2 < (mN M2 (mR M2 a1 6) : Int)) ∧ mK M2 a4 = 11 ∧ ∀ M9, M9 = mUI M2 a4 2 (mI M2 (mR M2 a1 6) (Int.toNat l2)) → mK M9 (mR M9 a1 7) = 30 ∧ ((0 : Int) ≤ l2 ∧ l2 < (mN M9 (mR M9 a1 7) : Int)) ∧ h_Sc_weigh_25 G d a0 a1 l2 a3 a4 (mI M9 (mR M9 a1 7) (Int.toNat l2)) M9 Q))) :
    Cv G y_Sc_weigh (d + 1) [vr a0, vr a1, vi l2, vr a3, vr a4] M Q := by
  refine wm_open (y := y_Sc_weigh) rfl (Nat.le_of_ble_eq_true rfl) (L := [vr a0, vr a1, vi l2, vr a3, vr a4, vd, vd, vd, vd]) rfl ?_
  obtain ⟨h1, h⟩ := h
  refine wm_aload d_Sc_weigh_0 rfl ?_
  refine wm_iconst d_Sc_weigh_2 ?_
  refine cf_Sc_134 rfl d_Sc_weigh_3 h1 (Nat.le_of_ble_eq_true rfl) (Cv.mono h (fun M2 h => ?_))
  obtain ⟨hOM2, h⟩ := h
  obtain ⟨h5, h⟩ := h
  obtain ⟨h6, h⟩ := h
  obtain ⟨h7, h⟩ := h
  obtain ⟨h8, h⟩ := h
  obtain ⟨M9, e10⟩ : ∃ M9, M9 = mUI M2 a4 2 (mI M2 (mR M2 a1 6) (Int.toNat l2)) := ⟨_, rfl⟩
  replace h := h M9 e10
  obtain ⟨h11, h⟩ := h
  obtain ⟨h12, h⟩ := h
  refine wm_aload d_Sc_weigh_6 rfl ?_
  refine wm_aload_n d_Sc_weigh_8 rfl rfl ?_
  refine gf_Sc_135 rfl d_Sc_weigh_9 h5 ?_
  refine wm_iload_n d_Sc_weigh_12 rfl rfl ?_
  refine wm_iald d_Sc_weigh_13 h6 h7 ?_
  have hOM9 : mOk M9 := by rw [e10]; exact mOk_UI hOM2 (hOM2 _ _).1
  refine pf_Sc_111 rfl d_Sc_weigh_14 h8 (hOM2 _ _).1 e10 ?_
  refine wm_aload_n d_Sc_weigh_17 rfl rfl ?_
  refine gf_Sc_140 rfl d_Sc_weigh_18 (by rw [e10]; exact h5) ?_
  refine wm_iload_n d_Sc_weigh_21 rfl rfl ?_
  refine wm_iald d_Sc_weigh_22 h11 h12 ?_
  refine wm_istore d_Sc_weigh_23 (by decide) (L' := [vr a0, vr a1, vi l2, vr a3, vr a4, vi (mI M9 (mR M9 a1 7) (Int.toNat l2)), vd, vd, vd]) rfl ?_
  exact h
theorem k_Sc_weigh_25 {G : mG} {d : Nat} {a0 : Nat} {a1 : Nat} {l2 : Int} {a3 : Nat} {a4 : Nat} {l5 : Int} {M : mM} {Q : mM → Prop} (hO : mOk M) (hi_l2 : i32 l2) (hi_l5 : i32 l5)
    (h : mK M a1 = 7 ∧ mK M (mR M a1 7) = 30 ∧ ((0 : Int) ≤ l2 + 1 ∧ l2 + 1 < (mN M (mR M a1 7) : Int)) ∧ ((mI M (mR M a1 7) (Int.toNat (l2 + 1)) ≤ l5) → (Q M)) ∧ (¬ (mI M (mR M a1 7) (Int.toNat (l2 + 1)) ≤ l5) → (mK M a3 = 13 ∧ mK M (mR M a1 8) = 30 ∧ ((0 : Int) ≤ l5 ∧ l5 < (mN M (mR M a1 8) : Int)) ∧ mK M (mR M a3 0) = 35 ∧ ((0 : Int) ≤ mI M (mR M a1 8) (Int.toNat l5) ∧ mI M (mR M a1 8) (Int.toNat l5) < (mN M (mR M a3 0) : Int)) ∧ mK M (mR M a1 9) = 30 ∧ ((0 : Int) ≤ l5 ∧ l5 < (mN M (mR M a1 9) : Int)) ∧ mK M (mR M (mR M a3 0) (Int.toNat (mI M (mR M a1 8) (Int.toNat l5)))) = 11 ∧ mK M (mR M (mR M (mR M a3 0) (Int.toNat (mI M (mR M a1 8) (Int.toNat l5)))) 0) = 10 ∧ ((mI M (mR M (mR M (mR M a3 0) (Int.toNat (mI M (mR M a1 8) (Int.toNat l5)))) 0) 1 = 0) → (h_Sc_weigh_291 G d a0 a1 l2 a3 a4 l5 M Q)) ∧ (¬ (mI M (mR M (mR M (mR M a3 0) (Int.toNat (mI M (mR M a1 8) (Int.toNat l5)))) 0) 1 = 0) → (mK M a4 = 11 ∧ Ci G y_Na_order d [vr (mR M a4 1), vr (mR M (mR M (mR M a3 0) (Int.toNat (mI M (mR M a1 8) (Int.toNat l5)))) 1)] M (fun x40 M39 => i32 x40 ∧ mOk M39 ∧ (((x40 = 0) → (mK M39 a4 = 11 ∧ mK M39 (mR M (mR M a3 0) (Int.toNat (mI M (mR M a1 8) (Int.toNat l5)))) = 11 ∧ mK M39 (mR M39 a4 0) = 10 ∧ Cv G y_Na_add d [vr (mR M39 a4 0), vr (mR M39 (mR M (mR M a3 0) (Int.toNat (mI M (mR M a1 8) (Int.toNat l5)))) 0), vi (mI M (mR M a1 9) (Int.toNat l5))] M39 (fun M47 => mOk M47 ∧ (h_Sc_weigh_291 G d a0 a1 l2 a3 a4 l5 M47 Q)))) ∧ (¬ (x40 = 0) → (mK M39 a4 = 11 ∧ mK M39 (mR M (mR M a3 0) (Int.toNat (mI M (mR M a1 8) (Int.toNat l5)))) = 11 ∧ mK M39 a0 = 9 ∧ Cr G y_Sc_commonDivisor d [vr a0, vr (mR M39 a4 1), vr (mR M39 (mR M (mR M a3 0) (Int.toNat (mI M (mR M a1 8) (Int.toNat l5)))) 1)] M39 (fun x54 M53 => mOk M53 ∧ (mK M53 a0 = 9 ∧ mK M53 a4 = 11 ∧ mK M53 (mR M53 a0 7) = 10 ∧ Cv G y_Na_put1 d [vr (mR M53 a0 7), vr (mR M53 a4 1)] M53 (fun M59 => mOk M59 ∧ (mK M59 a0 = 9 ∧ mK M59 (mR M59 a0 7) = 10 ∧ Cv G y_Na_divide d [vr (mR M59 a0 7), vr x54, vr (mR M59 a0 2), vr (mR M59 a0 3)] M59 (fun M64 => mOk M64 ∧ (mK M64 a0 = 9 ∧ mK M64 (mR M64 a0 7) = 10 ∧ Cv G y_Na_put1 d [vr (mR M64 a0 7), vr (mR M64 a0 2)] M64 (fun M69 => mOk M69 ∧ (mK M69 a0 = 9 ∧ mK M69 (mR M (mR M a3 0) (Int.toNat (mI M (mR M a1 8) (Int.toNat l5)))) = 11 ∧ mK M69 (mR M69 a0 8) = 10 ∧ Cv G y_Na_put1 d [vr (mR M69 a0 8), vr (mR M69 (mR M (mR M a3 0) (Int.toNat (mI M (mR M a1 8) (Int.toNat l5)))) 1)] M69 (fun M75 => mOk M75 ∧ (mK M75 a0 = 9 ∧ mK M75 (mR M75 a0 8) = 10 ∧ Cv G y_Na_divide d [vr (mR M75 a0 8), vr x54, vr (mR M75 a0 2), vr (mR M75 a0 3)] M75 (fun M80 => mOk M80 ∧ (mK M80 a0 = 9 ∧ mK M80 (mR M80 a0 8) = 10 ∧ Cv G y_Na_put1 d [vr (mR M80 a0 8), vr (mR M80 a0 2)] M80 (fun M85 => mOk M85 ∧ (mK M85 a0 = 9 ∧ mK M85 a4 = 11 ∧ mK M85 (mR M85 a0 5) = 10 ∧ Cv G y_Na_putProduct d [vr (mR M85 a0 5), vr (mR M85 a4 0), vr (mR M85 a0 8)] M85 (fun M91 => mOk M91 ∧ (mK M91 a4 = 11 ∧ mK M91 a0 = 9 ∧ mK M91 (mR M91 a4 0) = 10 ∧ Cv G y_Na_put1 d [vr (mR M91 a4 0), vr (mR M91 a0 5)] M91 (fun M97 => mOk M97 ∧ (mK M97 a0 = 9 ∧ mK M97 (mR M (mR M a3 0) (Int.toNat (mI M (mR M a1 8) (Int.toNat l5)))) = 11 ∧ mK M97 (mR M97 a0 5) = 10 ∧ Cv G y_Na_putProduct d [vr (mR M97 a0 5), vr (mR M97 (mR M (mR M a3 0) (Int.toNat (mI M (mR M a1 8) (Int.toNat l5)))) 0), vr (mR M97 a0 7)] M97 (fun M103 => mOk M103 ∧ (mK M103 a4 = 11 ∧ mK M103 a0 = 9 ∧ mK M103 (mR M103 a4 0) = 10 ∧ Cv G y_Na_add d [vr (mR M103 a4 0), vr (mR M103 a0 5), vi (mI M (mR M a1 9) (Int.toNat l5))] M103 (fun M109 => mOk M109 ∧ (mK M109 a0 = 9 ∧ mK M109 a4 = 11 ∧ mK M109 (mR M109 a0 5) = 10 ∧ Cv G y_Na_putProduct d [vr (mR M109 a0 5), vr (mR M109 a4 1), vr (mR M109 a0 8)] M109 (fun M115 => mOk M115 ∧ (mK M115 a4 = 11 ∧ mK M115 a0 = 9 ∧ mK M115 (mR M115 a4 1) = 10 ∧ Cv G y_Na_put1 d [vr (mR M115 a4 1), vr (mR M115 a0 5)] M115 (fun M121 => mOk M121 ∧ (h_Sc_weigh_291 G d a0 a1 l2 a3 a4 l5 M121 Q))))))))))))))))))))))))))))))))))) :
    h_Sc_weigh_25 G d a0 a1 l2 a3 a4 l5 M Q := by
  unfold h_Sc_weigh_25
  obtain ⟨h13, h⟩ := h
  obtain ⟨h14, h⟩ := h
  obtain ⟨h15, h⟩ := h
  refine wm_iload d_Sc_weigh_25 rfl ?_
  refine wm_aload_n d_Sc_weigh_27 rfl rfl ?_
  refine gf_Sc_140 rfl d_Sc_weigh_28 h13 ?_
  refine wm_iload_n d_Sc_weigh_31 rfl rfl ?_
  refine wm_iconst d_Sc_weigh_32 ?_
  refine wm_iadd d_Sc_weigh_33 ?_
  refine wm_iald d_Sc_weigh_34 h14 h15 ?_
  refine wm_icmp_ge (tgt := 297) d_Sc_weigh_35 rfl hi_l5 (hO _ _).1 (fun c26 => ?_) (fun c26 => ?_)
  · replace h := h.1 c26
    refine wm_return d_Sc_weigh_297 rfl ?_
    exact ⟨rfl, h⟩
  · replace h := h.2 c26
    obtain ⟨h27, h⟩ := h
    obtain ⟨h28, h⟩ := h
    obtain ⟨h29, h⟩ := h
    obtain ⟨h30, h⟩ := h
    obtain ⟨h31, h⟩ := h
    obtain ⟨h32, h⟩ := h
    obtain ⟨h33, h⟩ := h
    obtain ⟨h34, h⟩ := h
    obtain ⟨h35, h⟩ := h
    refine wm_aload_n d_Sc_weigh_38 rfl rfl ?_
    refine gf_Sc_143 rfl d_Sc_weigh_39 h27 ?_
    refine wm_aload_n d_Sc_weigh_42 rfl rfl ?_
    refine gf_Sc_149 rfl d_Sc_weigh_43 h13 ?_
    refine wm_iload d_Sc_weigh_46 rfl ?_
    refine wm_iald d_Sc_weigh_48 h28 h29 ?_
    refine wm_aald5 d_Sc_weigh_49 h30 h31 ?_
    refine wm_astore d_Sc_weigh_50 (by decide) (L' := [vr a0, vr a1, vi l2, vr a3, vr a4, vi l5, vr (mR M (mR M a3 0) (Int.toNat (mI M (mR M a1 8) (Int.toNat l5)))), vd, vd]) rfl ?_
    refine wm_aload_n d_Sc_weigh_52 rfl rfl ?_
    refine gf_Sc_152 rfl d_Sc_weigh_53 h13 ?_
    refine wm_iload d_Sc_weigh_56 rfl ?_
    refine wm_iald d_Sc_weigh_58 h32 h33 ?_
    refine wm_istore d_Sc_weigh_59 (by decide) (L' := [vr a0, vr a1, vi l2, vr a3, vr a4, vi l5, vr (mR M (mR M a3 0) (Int.toNat (mI M (mR M a1 8) (Int.toNat l5)))), vi (mI M (mR M a1 9) (Int.toNat l5)), vd]) rfl ?_
    refine wm_aload d_Sc_weigh_61 rfl ?_
    refine gf_Sc_118 rfl d_Sc_weigh_63 h34 ?_
    refine gf_Sc_57 rfl d_Sc_weigh_66 h35 ?_
    refine wm_if_ne (tgt := 75) d_Sc_weigh_69 rfl (hO _ _).1 (fun c37 => ?_) (fun c37 => ?_)
    · replace h := h.2 c37
      obtain ⟨h38, h⟩ := h
      refine wm_aload d_Sc_weigh_75 rfl ?_
      refine gf_Sc_108 rfl d_Sc_weigh_77 h38 ?_
      refine wm_aload d_Sc_weigh_80 rfl ?_
      refine gf_Sc_108 rfl d_Sc_weigh_82 h34 ?_
      refine cf_Sc_65 rfl d_Sc_weigh_85 (Nat.le_of_ble_eq_true rfl) (Ci.mono h (fun x40 M39 h => ?_))
      obtain ⟨h41, hOM39, h⟩ := h
      refine wm_if_ne (tgt := 109) d_Sc_weigh_88 rfl h41 (fun c43 => ?_) (fun c43 => ?_)
      · replace h := h.2 c43
        obtain ⟨h50, h⟩ := h
        obtain ⟨h51, h⟩ := h
        obtain ⟨h52, h⟩ := h
        refine wm_aload_n d_Sc_weigh_109 rfl rfl ?_
        refine wm_aload d_Sc_weigh_110 rfl ?_
        refine gf_Sc_108 rfl d_Sc_weigh_112 h50 ?_
        refine wm_aload d_Sc_weigh_115 rfl ?_
        refine gf_Sc_108 rfl d_Sc_weigh_117 h51 ?_
        refine cf_Sc_123 rfl d_Sc_weigh_120 h52 (Nat.le_of_ble_eq_true rfl) (Cr.mono h (fun x54 M53 h => ?_))
        obtain ⟨hOM53, h⟩ := h
        obtain ⟨h56, h⟩ := h
        obtain ⟨h57, h⟩ := h
        obtain ⟨h58, h⟩ := h
        refine wm_astore d_Sc_weigh_123 (by decide) (L' := [vr a0, vr a1, vi l2, vr a3, vr a4, vi l5, vr (mR M (mR M a3 0) (Int.toNat (mI M (mR M a1 8) (Int.toNat l5)))), vi (mI M (mR M a1 9) (Int.toNat l5)), vr x54]) rfl ?_
        refine wm_aload_n d_Sc_weigh_125 rfl rfl ?_
        refine gf_Sc_37 rfl d_Sc_weigh_126 h56 ?_
        refine wm_aload d_Sc_weigh_129 rfl ?_
        refine gf_Sc_108 rfl d_Sc_weigh_131 h57 ?_
        refine cf_Sc_69 rfl d_Sc_weigh_134 h58 (Nat.le_of_ble_eq_true rfl) (Cv.mono h (fun M59 h => ?_))
        obtain ⟨hOM59, h⟩ := h
        obtain ⟨h62, h⟩ := h
        obtain ⟨h63, h⟩ := h
        refine wm_aload_n d_Sc_weigh_137 rfl rfl ?_
        refine gf_Sc_37 rfl d_Sc_weigh_138 h62 ?_
        refine wm_aload d_Sc_weigh_141 rfl ?_
        refine wm_aload_n d_Sc_weigh_143 rfl rfl ?_
        refine gf_Sc_21 rfl d_Sc_weigh_144 h62 ?_
        refine wm_aload_n d_Sc_weigh_147 rfl rfl ?_
        refine gf_Sc_24 rfl d_Sc_weigh_148 h62 ?_
        refine cf_Sc_53 rfl d_Sc_weigh_151 h63 (Nat.le_of_ble_eq_true rfl) (Cv.mono h (fun M64 h => ?_))
        obtain ⟨hOM64, h⟩ := h
        obtain ⟨h67, h⟩ := h
        obtain ⟨h68, h⟩ := h
        refine wm_aload_n d_Sc_weigh_154 rfl rfl ?_
        refine gf_Sc_37 rfl d_Sc_weigh_155 h67 ?_
        refine wm_aload_n d_Sc_weigh_158 rfl rfl ?_
        refine gf_Sc_21 rfl d_Sc_weigh_159 h67 ?_
        refine cf_Sc_69 rfl d_Sc_weigh_162 h68 (Nat.le_of_ble_eq_true rfl) (Cv.mono h (fun M69 h => ?_))
        obtain ⟨hOM69, h⟩ := h
        obtain ⟨h72, h⟩ := h
        obtain ⟨h73, h⟩ := h
        obtain ⟨h74, h⟩ := h
        refine wm_aload_n d_Sc_weigh_165 rfl rfl ?_
        refine gf_Sc_40 rfl d_Sc_weigh_166 h72 ?_
        refine wm_aload d_Sc_weigh_169 rfl ?_
        refine gf_Sc_108 rfl d_Sc_weigh_171 h73 ?_
        refine cf_Sc_69 rfl d_Sc_weigh_174 h74 (Nat.le_of_ble_eq_true rfl) (Cv.mono h (fun M75 h => ?_))
        obtain ⟨hOM75, h⟩ := h
        obtain ⟨h78, h⟩ := h
        obtain ⟨h79, h⟩ := h
        refine wm_aload_n d_Sc_weigh_177 rfl rfl ?_
        refine gf_Sc_40 rfl d_Sc_weigh_178 h78 ?_
        refine wm_aload d_Sc_weigh_181 rfl ?_
        refine wm_aload_n d_Sc_weigh_183 rfl rfl ?_
        refine gf_Sc_21 rfl d_Sc_weigh_184 h78 ?_
        refine wm_aload_n d_Sc_weigh_187 rfl rfl ?_
        refine gf_Sc_24 rfl d_Sc_weigh_188 h78 ?_
        refine cf_Sc_53 rfl d_Sc_weigh_191 h79 (Nat.le_of_ble_eq_true rfl) (Cv.mono h (fun M80 h => ?_))
        obtain ⟨hOM80, h⟩ := h
        obtain ⟨h83, h⟩ := h
        obtain ⟨h84, h⟩ := h
        refine wm_aload_n d_Sc_weigh_194 rfl rfl ?_
        refine gf_Sc_40 rfl d_Sc_weigh_195 h83 ?_
        refine wm_aload_n d_Sc_weigh_198 rfl rfl ?_
        refine gf_Sc_21 rfl d_Sc_weigh_199 h83 ?_
        refine cf_Sc_69 rfl d_Sc_weigh_202 h84 (Nat.le_of_ble_eq_true rfl) (Cv.mono h (fun M85 h => ?_))
        obtain ⟨hOM85, h⟩ := h
        obtain ⟨h88, h⟩ := h
        obtain ⟨h89, h⟩ := h
        obtain ⟨h90, h⟩ := h
        refine wm_aload_n d_Sc_weigh_205 rfl rfl ?_
        refine gf_Sc_30 rfl d_Sc_weigh_206 h88 ?_
        refine wm_aload d_Sc_weigh_209 rfl ?_
        refine gf_Sc_118 rfl d_Sc_weigh_211 h89 ?_
        refine wm_aload_n d_Sc_weigh_214 rfl rfl ?_
        refine gf_Sc_40 rfl d_Sc_weigh_215 h88 ?_
        refine cf_Sc_130 rfl d_Sc_weigh_218 h90 (Nat.le_of_ble_eq_true rfl) (Cv.mono h (fun M91 h => ?_))
        obtain ⟨hOM91, h⟩ := h
        obtain ⟨h94, h⟩ := h
        obtain ⟨h95, h⟩ := h
        obtain ⟨h96, h⟩ := h
        refine wm_aload d_Sc_weigh_221 rfl ?_
        refine gf_Sc_118 rfl d_Sc_weigh_223 h94 ?_
        refine wm_aload_n d_Sc_weigh_226 rfl rfl ?_
        refine gf_Sc_30 rfl d_Sc_weigh_227 h95 ?_
        refine cf_Sc_69 rfl d_Sc_weigh_230 h96 (Nat.le_of_ble_eq_true rfl) (Cv.mono h (fun M97 h => ?_))
        obtain ⟨hOM97, h⟩ := h
        obtain ⟨h100, h⟩ := h
        obtain ⟨h101, h⟩ := h
        obtain ⟨h102, h⟩ := h
        refine wm_aload_n d_Sc_weigh_233 rfl rfl ?_
        refine gf_Sc_30 rfl d_Sc_weigh_234 h100 ?_
        refine wm_aload d_Sc_weigh_237 rfl ?_
        refine gf_Sc_118 rfl d_Sc_weigh_239 h101 ?_
        refine wm_aload_n d_Sc_weigh_242 rfl rfl ?_
        refine gf_Sc_37 rfl d_Sc_weigh_243 h100 ?_
        refine cf_Sc_130 rfl d_Sc_weigh_246 h102 (Nat.le_of_ble_eq_true rfl) (Cv.mono h (fun M103 h => ?_))
        obtain ⟨hOM103, h⟩ := h
        obtain ⟨h106, h⟩ := h
        obtain ⟨h107, h⟩ := h
        obtain ⟨h108, h⟩ := h
        refine wm_aload d_Sc_weigh_249 rfl ?_
        refine gf_Sc_118 rfl d_Sc_weigh_251 h106 ?_
        refine wm_aload_n d_Sc_weigh_254 rfl rfl ?_
        refine gf_Sc_30 rfl d_Sc_weigh_255 h107 ?_
        refine wm_iload d_Sc_weigh_258 rfl ?_
        refine cf_Sc_155 rfl d_Sc_weigh_260 h108 (Nat.le_of_ble_eq_true rfl) (Cv.mono h (fun M109 h => ?_))
        obtain ⟨hOM109, h⟩ := h
        obtain ⟨h112, h⟩ := h
        obtain ⟨h113, h⟩ := h
        obtain ⟨h114, h⟩ := h
        refine wm_aload_n d_Sc_weigh_263 rfl rfl ?_
        refine gf_Sc_30 rfl d_Sc_weigh_264 h112 ?_
        refine wm_aload d_Sc_weigh_267 rfl ?_
        refine gf_Sc_108 rfl d_Sc_weigh_269 h113 ?_
        refine wm_aload_n d_Sc_weigh_272 rfl rfl ?_
        refine gf_Sc_40 rfl d_Sc_weigh_273 h112 ?_
        refine cf_Sc_130 rfl d_Sc_weigh_276 h114 (Nat.le_of_ble_eq_true rfl) (Cv.mono h (fun M115 h => ?_))
        obtain ⟨hOM115, h⟩ := h
        obtain ⟨h118, h⟩ := h
        obtain ⟨h119, h⟩ := h
        obtain ⟨h120, h⟩ := h
        refine wm_aload d_Sc_weigh_279 rfl ?_
        refine gf_Sc_108 rfl d_Sc_weigh_281 h118 ?_
        refine wm_aload_n d_Sc_weigh_284 rfl rfl ?_
        refine gf_Sc_30 rfl d_Sc_weigh_285 h119 ?_
        refine cf_Sc_69 rfl d_Sc_weigh_288 h120 (Nat.le_of_ble_eq_true rfl) (Cv.mono h (fun M121 h => ?_))
        obtain ⟨hOM121, h⟩ := h
        refine wm_less (L' := [vr a0, vr a1, vi l2, vr a3, vr a4, vi l5, vd, vd, vd]) ⟨Or.inr rfl, Or.inr rfl, Or.inr rfl, Or.inr rfl, Or.inr rfl, Or.inr rfl, Or.inl rfl, Or.inl rfl, Or.inl rfl, trivial⟩ ?_
        exact h
      · replace c43 := Classical.not_not.mp c43
        replace h := h.1 c43
        obtain ⟨h44, h⟩ := h
        obtain ⟨h45, h⟩ := h
        obtain ⟨h46, h⟩ := h
        refine wm_aload d_Sc_weigh_91 rfl ?_
        refine gf_Sc_118 rfl d_Sc_weigh_93 h44 ?_
        refine wm_aload d_Sc_weigh_96 rfl ?_
        refine gf_Sc_118 rfl d_Sc_weigh_98 h45 ?_
        refine wm_iload d_Sc_weigh_101 rfl ?_
        refine cf_Sc_155 rfl d_Sc_weigh_103 h46 (Nat.le_of_ble_eq_true rfl) (Cv.mono h (fun M47 h => ?_))
        obtain ⟨hOM47, h⟩ := h
        refine wm_goto (tgt := 291) d_Sc_weigh_106 rfl ?_
        refine wm_less (L' := [vr a0, vr a1, vi l2, vr a3, vr a4, vi l5, vd, vd, vd]) ⟨Or.inr rfl, Or.inr rfl, Or.inr rfl, Or.inr rfl, Or.inr rfl, Or.inr rfl, Or.inl rfl, Or.inl rfl, Or.inl rfl, trivial⟩ ?_
        exact h
    · replace c37 := Classical.not_not.mp c37
      replace h := h.1 c37
      refine wm_goto (tgt := 291) d_Sc_weigh_72 rfl ?_
      refine wm_less (L' := [vr a0, vr a1, vi l2, vr a3, vr a4, vi l5, vd, vd, vd]) ⟨Or.inr rfl, Or.inr rfl, Or.inr rfl, Or.inr rfl, Or.inr rfl, Or.inr rfl, Or.inl rfl, Or.inl rfl, Or.inl rfl, trivial⟩ ?_
      exact h
theorem k_Sc_weigh_291 {G : mG} {d : Nat} {a0 : Nat} {a1 : Nat} {l2 : Int} {a3 : Nat} {a4 : Nat} {l5 : Int} {M : mM} {Q : mM → Prop} (hO : mOk M) (hi_l2 : i32 l2) (hi_l5 : i32 l5)
    (h : h_Sc_weigh_25 G d a0 a1 l2 a3 a4 (l5 + 1) M Q) :
    h_Sc_weigh_291 G d a0 a1 l2 a3 a4 l5 M Q := by
  unfold h_Sc_weigh_291
  refine wm_iinc d_Sc_weigh_291 (by decide) rfl (L' := [vr a0, vr a1, vi l2, vr a3, vr a4, vi (l5 + 1), vd, vd, vd]) rfl ?_
  refine wm_goto (tgt := 25) d_Sc_weigh_294 rfl ?_
  exact h
