theorem d_CA_init_0 : decode y_CA_init.2.1 0 = .ok (.aload_n 0, 1) := by decide +kernel
theorem d_CA_init_1 : decode y_CA_init.2.1 1 = .ok (.invokespecial 1, 3) := by decide +kernel
theorem d_CA_init_4 : decode y_CA_init.2.1 4 = .ok (.aload_n 0, 1) := by decide +kernel
theorem d_CA_init_5 : decode y_CA_init.2.1 5 = .ok (.sipush 256, 3) := by decide +kernel
theorem d_CA_init_8 : decode y_CA_init.2.1 8 = .ok (.newarray .char, 2) := by decide +kernel
theorem d_CA_init_10 : decode y_CA_init.2.1 10 = .ok (.putfield 7, 3) := by decide +kernel
theorem d_CA_init_13 : decode y_CA_init.2.1 13 = .ok (.aload_n 0, 1) := by decide +kernel
theorem d_CA_init_14 : decode y_CA_init.2.1 14 = .ok (.iconst 0, 1) := by decide +kernel
theorem d_CA_init_15 : decode y_CA_init.2.1 15 = .ok (.putfield 13, 3) := by decide +kernel
theorem d_CA_init_18 : decode y_CA_init.2.1 18 = .ok (.aload_n 0, 1) := by decide +kernel
theorem d_CA_init_19 : decode y_CA_init.2.1 19 = .ok (.new 17, 3) := by decide +kernel
theorem d_CA_init_22 : decode y_CA_init.2.1 22 = .ok (.dup, 1) := by decide +kernel
theorem d_CA_init_23 : decode y_CA_init.2.1 23 = .ok (.invokespecial 19, 3) := by decide +kernel
theorem d_CA_init_26 : decode y_CA_init.2.1 26 = .ok (.putfield 20, 3) := by decide +kernel
theorem d_CA_init_29 : decode y_CA_init.2.1 29 = .ok (.aload_n 0, 1) := by decide +kernel
theorem d_CA_init_30 : decode y_CA_init.2.1 30 = .ok (.new 24, 3) := by decide +kernel
theorem d_CA_init_33 : decode y_CA_init.2.1 33 = .ok (.dup, 1) := by decide +kernel
theorem d_CA_init_34 : decode y_CA_init.2.1 34 = .ok (.invokespecial 26, 3) := by decide +kernel
theorem d_CA_init_37 : decode y_CA_init.2.1 37 = .ok (.putfield 27, 3) := by decide +kernel
theorem d_CA_init_40 : decode y_CA_init.2.1 40 = .ok (.aload_n 0, 1) := by decide +kernel
theorem d_CA_init_41 : decode y_CA_init.2.1 41 = .ok (.new 31, 3) := by decide +kernel
theorem d_CA_init_44 : decode y_CA_init.2.1 44 = .ok (.dup, 1) := by decide +kernel
theorem d_CA_init_45 : decode y_CA_init.2.1 45 = .ok (.invokespecial 33, 3) := by decide +kernel
theorem d_CA_init_48 : decode y_CA_init.2.1 48 = .ok (.putfield 34, 3) := by decide +kernel
theorem d_CA_init_51 : decode y_CA_init.2.1 51 = .ok (.aload_n 0, 1) := by decide +kernel
theorem d_CA_init_52 : decode y_CA_init.2.1 52 = .ok (.new 31, 3) := by decide +kernel
theorem d_CA_init_55 : decode y_CA_init.2.1 55 = .ok (.dup, 1) := by decide +kernel
theorem d_CA_init_56 : decode y_CA_init.2.1 56 = .ok (.invokespecial 33, 3) := by decide +kernel
theorem d_CA_init_59 : decode y_CA_init.2.1 59 = .ok (.putfield 38, 3) := by decide +kernel
theorem d_CA_init_62 : decode y_CA_init.2.1 62 = .ok (.aload_n 0, 1) := by decide +kernel
theorem d_CA_init_63 : decode y_CA_init.2.1 63 = .ok (.iconst 0, 1) := by decide +kernel
theorem d_CA_init_64 : decode y_CA_init.2.1 64 = .ok (.putfield 41, 3) := by decide +kernel
theorem d_CA_init_67 : decode y_CA_init.2.1 67 = .ok (.aload_n 0, 1) := by decide +kernel
theorem d_CA_init_68 : decode y_CA_init.2.1 68 = .ok (.iconst (-1), 1) := by decide +kernel
theorem d_CA_init_69 : decode y_CA_init.2.1 69 = .ok (.putfield 45, 3) := by decide +kernel
theorem d_CA_init_72 : decode y_CA_init.2.1 72 = .ok (.aload_n 0, 1) := by decide +kernel
theorem d_CA_init_73 : decode y_CA_init.2.1 73 = .ok (.iconst (-1), 1) := by decide +kernel
theorem d_CA_init_74 : decode y_CA_init.2.1 74 = .ok (.putfield 48, 3) := by decide +kernel
theorem d_CA_init_77 : decode y_CA_init.2.1 77 = .ok (.aload_n 0, 1) := by decide +kernel
theorem d_CA_init_78 : decode y_CA_init.2.1 78 = .ok (.new 51, 3) := by decide +kernel
theorem d_CA_init_81 : decode y_CA_init.2.1 81 = .ok (.dup, 1) := by decide +kernel
theorem d_CA_init_82 : decode y_CA_init.2.1 82 = .ok (.invokespecial 53, 3) := by decide +kernel
theorem d_CA_init_85 : decode y_CA_init.2.1 85 = .ok (.putfield 54, 3) := by decide +kernel
theorem d_CA_init_88 : decode y_CA_init.2.1 88 = .ok (.aload_n 0, 1) := by decide +kernel
theorem d_CA_init_89 : decode y_CA_init.2.1 89 = .ok (.new 58, 3) := by decide +kernel
theorem d_CA_init_92 : decode y_CA_init.2.1 92 = .ok (.dup, 1) := by decide +kernel
theorem d_CA_init_93 : decode y_CA_init.2.1 93 = .ok (.aload_n 0, 1) := by decide +kernel
theorem d_CA_init_94 : decode y_CA_init.2.1 94 = .ok (.getfield 54, 3) := by decide +kernel
theorem d_CA_init_97 : decode y_CA_init.2.1 97 = .ok (.invokespecial 60, 3) := by decide +kernel
theorem d_CA_init_100 : decode y_CA_init.2.1 100 = .ok (.putfield 63, 3) := by decide +kernel
theorem d_CA_init_103 : decode y_CA_init.2.1 103 = .ok (.aload_n 0, 1) := by decide +kernel
theorem d_CA_init_104 : decode y_CA_init.2.1 104 = .ok (.new 67, 3) := by decide +kernel
theorem d_CA_init_107 : decode y_CA_init.2.1 107 = .ok (.dup, 1) := by decide +kernel
theorem d_CA_init_108 : decode y_CA_init.2.1 108 = .ok (.invokespecial 69, 3) := by decide +kernel
theorem d_CA_init_111 : decode y_CA_init.2.1 111 = .ok (.putfield 70, 3) := by decide +kernel
theorem d_CA_init_114 : decode y_CA_init.2.1 114 = .ok (.aload_n 0, 1) := by decide +kernel
theorem d_CA_init_115 : decode y_CA_init.2.1 115 = .ok (.new 67, 3) := by decide +kernel
theorem d_CA_init_118 : decode y_CA_init.2.1 118 = .ok (.dup, 1) := by decide +kernel
theorem d_CA_init_119 : decode y_CA_init.2.1 119 = .ok (.invokespecial 69, 3) := by decide +kernel
theorem d_CA_init_122 : decode y_CA_init.2.1 122 = .ok (.putfield 74, 3) := by decide +kernel
theorem d_CA_init_125 : decode y_CA_init.2.1 125 = .ok (.aload_n 0, 1) := by decide +kernel
theorem d_CA_init_126 : decode y_CA_init.2.1 126 = .ok (.new 67, 3) := by decide +kernel
theorem d_CA_init_129 : decode y_CA_init.2.1 129 = .ok (.dup, 1) := by decide +kernel
theorem d_CA_init_130 : decode y_CA_init.2.1 130 = .ok (.invokespecial 69, 3) := by decide +kernel
theorem d_CA_init_133 : decode y_CA_init.2.1 133 = .ok (.putfield 77, 3) := by decide +kernel
theorem d_CA_init_136 : decode y_CA_init.2.1 136 = .ok (.aload_n 0, 1) := by decide +kernel
theorem d_CA_init_137 : decode y_CA_init.2.1 137 = .ok (.new 67, 3) := by decide +kernel
theorem d_CA_init_140 : decode y_CA_init.2.1 140 = .ok (.dup, 1) := by decide +kernel
theorem d_CA_init_141 : decode y_CA_init.2.1 141 = .ok (.invokespecial 69, 3) := by decide +kernel
theorem d_CA_init_144 : decode y_CA_init.2.1 144 = .ok (.putfield 80, 3) := by decide +kernel
theorem d_CA_init_147 : decode y_CA_init.2.1 147 = .ok (.aload_n 0, 1) := by decide +kernel
theorem d_CA_init_148 : decode y_CA_init.2.1 148 = .ok (.new 83, 3) := by decide +kernel
theorem d_CA_init_151 : decode y_CA_init.2.1 151 = .ok (.dup, 1) := by decide +kernel
theorem d_CA_init_152 : decode y_CA_init.2.1 152 = .ok (.invokespecial 85, 3) := by decide +kernel
theorem d_CA_init_155 : decode y_CA_init.2.1 155 = .ok (.putfield 86, 3) := by decide +kernel
theorem d_CA_init_158 : decode y_CA_init.2.1 158 = .ok (.aload_n 0, 1) := by decide +kernel
theorem d_CA_init_159 : decode y_CA_init.2.1 159 = .ok (.new 90, 3) := by decide +kernel
theorem d_CA_init_162 : decode y_CA_init.2.1 162 = .ok (.dup, 1) := by decide +kernel
theorem d_CA_init_163 : decode y_CA_init.2.1 163 = .ok (.invokespecial 92, 3) := by decide +kernel
theorem d_CA_init_166 : decode y_CA_init.2.1 166 = .ok (.putfield 93, 3) := by decide +kernel
theorem d_CA_init_169 : decode y_CA_init.2.1 169 = .ok (.aload_n 0, 1) := by decide +kernel
theorem d_CA_init_170 : decode y_CA_init.2.1 170 = .ok (.sipush 400, 3) := by decide +kernel
theorem d_CA_init_173 : decode y_CA_init.2.1 173 = .ok (.newarray .char, 2) := by decide +kernel
theorem d_CA_init_175 : decode y_CA_init.2.1 175 = .ok (.putfield 97, 3) := by decide +kernel
theorem d_CA_init_178 : decode y_CA_init.2.1 178 = .ok (.aload_n 0, 1) := by decide +kernel
theorem d_CA_init_179 : decode y_CA_init.2.1 179 = .ok (.iconst 0, 1) := by decide +kernel
theorem d_CA_init_180 : decode y_CA_init.2.1 180 = .ok (.putfield 100, 3) := by decide +kernel
theorem d_CA_init_183 : decode y_CA_init.2.1 183 = .ok (.return_, 1) := by decide +kernel
theorem k_CA_init {G : mG} {d : Nat} {a0 : Nat} {M : mM} {Q : mM → Prop} (hO : mOk M)
    (h : 0 < a0 ∧ ∀ M2, M2 = mNew M 32 256 256 → mK M2 a0 = 1 ∧ ∀ M5, M5 = mUR M2 a0 0 (mZ M) → ∀ M7, M7 = mUI M5 a0 1 0 → ∀ M9, M9 = mNew M7 2 0 6 → Cv G y_Wo_init d [vr (mZ M7)] M9 (fun M11 => mOk M11 ∧ (mK M11 a0 = 1 ∧ ∀ M15, M15 = mUR M11 a0 2 (mZ M7) → ∀ M17, M17 = mNew M15 3 0 9 → Cv G y_TR_init d [vr (mZ M15)] M17 (fun M19 => mOk M19 ∧ (mK M19 a0 = 1 ∧ ∀ M23, M23 = mUR M19 a0 3 (mZ M15) → ∀ M25, M25 = mNew M23 6 0 20 → Cv G y_Pr_init d [vr (mZ M23)] M25 (fun M27 => mOk M27 ∧ (mK M27 a0 = 1 ∧ ∀ M31, M31 = mUR M27 a0 4 (mZ M23) → ∀ M33, M33 = mNew M31 6 0 20 → Cv G y_Pr_init d [vr (mZ M31)] M33 (fun M35 => mOk M35 ∧ (mK M35 a0 = 1 ∧ ∀ M39, M39 = mUR M35 a0 5 (mZ M31) → ∀ M41, M41 = mUI M39 a0 6 0 → ∀ M43, M43 = mUI M41 a0 7 (-1) → ∀ M45, M45 = mUI M43 a0 8 (-1) → ∀ M47, M47 = mNew M45 7 0 19 → Cv G y_Ga_init d [vr (mZ M45)] M47 (fun M49 => mOk M49 ∧ (mK M49 a0 = 1 ∧ ∀ M53, M53 = mUR M49 a0 9 (mZ M45) → ∀ M55, M55 = mNew M53 8 0 18 → mK M55 a0 = 1 ∧ Cv G y_So_init d [vr (mZ M53), vr (mR M55 a0 9)] M55 (fun M58 => mOk M58 ∧ (mK M58 a0 = 1 ∧ ∀ M62, M62 = mUR M58 a0 10 (mZ M53) → ∀ M64, M64 = mNew M62 13 0 2 → Cv G y_Fs_init d [vr (mZ M62)] M64 (fun M66 => mOk M66 ∧ (mK M66 a0 = 1 ∧ ∀ M70, M70 = mUR M66 a0 11 (mZ M62) → ∀ M72, M72 = mNew M70 13 0 2 → Cv G y_Fs_init d [vr (mZ M70)] M72 (fun M74 => mOk M74 ∧ (mK M74 a0 = 1 ∧ ∀ M78, M78 = mUR M74 a0 12 (mZ M70) → ∀ M80, M80 = mNew M78 13 0 2 → Cv G y_Fs_init d [vr (mZ M78)] M80 (fun M82 => mOk M82 ∧ (mK M82 a0 = 1 ∧ ∀ M86, M86 = mUR M82 a0 13 (mZ M78) → ∀ M88, M88 = mNew M86 13 0 2 → Cv G y_Fs_init d [vr (mZ M86)] M88 (fun M90 => mOk M90 ∧ (mK M90 a0 = 1 ∧ ∀ M94, M94 = mUR M90 a0 14 (mZ M86) → ∀ M96, M96 = mNew M94 10 0 2 → Cv G y_Na_init d [vr (mZ M94)] M96 (fun M98 => mOk M98 ∧ (mK M98 a0 = 1 ∧ ∀ M102, M102 = mUR M98 a0 15 (mZ M94) → ∀ M104, M104 = mNew M102 11 0 3 → Cv G y_Fr_init d [vr (mZ M102)] M104 (fun M106 => mOk M106 ∧ (mK M106 a0 = 1 ∧ ∀ M110, M110 = mUR M106 a0 16 (mZ M102) → ∀ M112, M112 = mNew M110 32 400 400 → mK M112 a0 = 1 ∧ ∀ M115, M115 = mUR M112 a0 17 (mZ M110) → ∀ M117, M117 = mUI M115 a0 18 0 → Q M117))))))))))))))))))))))))) :
    Cv G y_CA_init (d + 1) [vr a0] M Q := by
  refine wm_open (y := y_CA_init) rfl (Nat.le_of_ble_eq_true rfl) (L := [vr a0]) rfl ?_
  obtain ⟨h1, h⟩ := h
  obtain ⟨M2, e3⟩ : ∃ M2, M2 = mNew M 32 256 256 := ⟨_, rfl⟩
  replace h := h M2 e3
  obtain ⟨h4, h⟩ := h
  obtain ⟨M5, e6⟩ : ∃ M5, M5 = mUR M2 a0 0 (mZ M) := ⟨_, rfl⟩
  replace h := h M5 e6
  obtain ⟨M7, e8⟩ : ∃ M7, M7 = mUI M5 a0 1 0 := ⟨_, rfl⟩
  replace h := h M7 e8
  obtain ⟨M9, e10⟩ : ∃ M9, M9 = mNew M7 2 0 6 := ⟨_, rfl⟩
  replace h := h M9 e10
  refine wm_aload_n d_CA_init_0 rfl rfl ?_
  refine wm_objInit trivial k1_45 kO_inst kO_code (Nat.le_of_ble_eq_true rfl) d_CA_init_1 h1 ?_
  refine wm_aload_n d_CA_init_4 rfl rfl ?_
  refine wm_sipush d_CA_init_5 (by decide) ?_
  have hOM2 : mOk M2 := by rw [e3]; exact mOk_New hO
  refine wm_newarrE 2 (atype := .char) (ty := .char) rfl rfl (fun _ => rfl) rfl rfl (by decide) k1_81 ⟨by decide, by decide⟩ d_CA_init_8 e3 ?_
  have hOM5 : mOk M5 := by rw [e6]; exact mOk_UR hOM2
  refine pf_CA_7 rfl d_CA_init_10 h4 e6 ?_
  refine wm_aload_n d_CA_init_13 rfl rfl ?_
  refine wm_iconst d_CA_init_14 ?_
  have hOM7 : mOk M7 := by rw [e8]; exact mOk_UI hOM5 ⟨by decide, by decide⟩
  refine pf_CA_13 rfl d_CA_init_15 (by rw [e6]; exact h4) ⟨by decide, by decide⟩ e8 ?_
  refine wm_aload_n d_CA_init_18 rfl rfl ?_
  have hOM9 : mOk M9 := by rw [e10]; exact mOk_New hOM7
  refine nf_CA_17 rfl d_CA_init_19 e10 ?_
  refine wm_dup d_CA_init_22 rfl ?_
  refine cf_CA_19 rfl d_CA_init_23 (by rw [e10]; exact if_pos rfl) (Nat.le_of_ble_eq_true rfl) (Cv.mono h (fun M11 h => ?_))
  obtain ⟨hOM11, h⟩ := h
  obtain ⟨h14, h⟩ := h
  obtain ⟨M15, e16⟩ : ∃ M15, M15 = mUR M11 a0 2 (mZ M7) := ⟨_, rfl⟩
  replace h := h M15 e16
  obtain ⟨M17, e18⟩ : ∃ M17, M17 = mNew M15 3 0 9 := ⟨_, rfl⟩
  replace h := h M17 e18
  have hOM15 : mOk M15 := by rw [e16]; exact mOk_UR hOM11
  refine pf_CA_20 rfl rfl d_CA_init_26 h14 e16 ?_
  refine wm_aload_n d_CA_init_29 rfl rfl ?_
  have hOM17 : mOk M17 := by rw [e18]; exact mOk_New hOM15
  refine nf_CA_24 rfl d_CA_init_30 e18 ?_
  refine wm_dup d_CA_init_33 rfl ?_
  refine cf_CA_26 rfl d_CA_init_34 (by rw [e18]; exact if_pos rfl) (Nat.le_of_ble_eq_true rfl) (Cv.mono h (fun M19 h => ?_))
  obtain ⟨hOM19, h⟩ := h
  obtain ⟨h22, h⟩ := h
  obtain ⟨M23, e24⟩ : ∃ M23, M23 = mUR M19 a0 3 (mZ M15) := ⟨_, rfl⟩
  replace h := h M23 e24
  obtain ⟨M25, e26⟩ : ∃ M25, M25 = mNew M23 6 0 20 := ⟨_, rfl⟩
  replace h := h M25 e26
  have hOM23 : mOk M23 := by rw [e24]; exact mOk_UR hOM19
  refine pf_CA_27 rfl rfl d_CA_init_37 h22 e24 ?_
  refine wm_aload_n d_CA_init_40 rfl rfl ?_
  have hOM25 : mOk M25 := by rw [e26]; exact mOk_New hOM23
  refine nf_CA_31 rfl d_CA_init_41 e26 ?_
  refine wm_dup d_CA_init_44 rfl ?_
  refine cf_CA_33 rfl d_CA_init_45 (by rw [e26]; exact if_pos rfl) (Nat.le_of_ble_eq_true rfl) (Cv.mono h (fun M27 h => ?_))
  obtain ⟨hOM27, h⟩ := h
  obtain ⟨h30, h⟩ := h
  obtain ⟨M31, e32⟩ : ∃ M31, M31 = mUR M27 a0 4 (mZ M23) := ⟨_, rfl⟩
  replace h := h M31 e32
  obtain ⟨M33, e34⟩ : ∃ M33, M33 = mNew M31 6 0 20 := ⟨_, rfl⟩
  replace h := h M33 e34
  have hOM31 : mOk M31 := by rw [e32]; exact mOk_UR hOM27
  refine pf_CA_34 rfl d_CA_init_48 h30 e32 ?_
  refine wm_aload_n d_CA_init_51 rfl rfl ?_
  have hOM33 : mOk M33 := by rw [e34]; exact mOk_New hOM31
  refine nf_CA_31 rfl d_CA_init_52 e34 ?_
  refine wm_dup d_CA_init_55 rfl ?_
  refine cf_CA_33 rfl d_CA_init_56 (by rw [e34]; exact if_pos rfl) (Nat.le_of_ble_eq_true rfl) (Cv.mono h (fun M35 h => ?_))
  obtain ⟨hOM35, h⟩ := h
  obtain ⟨h38, h⟩ := h
  obtain ⟨M39, e40⟩ : ∃ M39, M39 = mUR M35 a0 5 (mZ M31) := ⟨_, rfl⟩
  replace h := h M39 e40
  obtain ⟨M41, e42⟩ : ∃ M41, M41 = mUI M39 a0 6 0 := ⟨_, rfl⟩
  replace h := h M41 e42
  obtain ⟨M43, e44⟩ : ∃ M43, M43 = mUI M41 a0 7 (-1) := ⟨_, rfl⟩
  replace h := h M43 e44
  obtain ⟨M45, e46⟩ : ∃ M45, M45 = mUI M43 a0 8 (-1) := ⟨_, rfl⟩
  replace h := h M45 e46
  obtain ⟨M47, e48⟩ : ∃ M47, M47 = mNew M45 7 0 19 := ⟨_, rfl⟩
  replace h := h M47 e48
  have hOM39 : mOk M39 := by rw [e40]; exact mOk_UR hOM35
  refine pf_CA_38 rfl d_CA_init_59 h38 e40 ?_
  refine wm_aload_n d_CA_init_62 rfl rfl ?_
  refine wm_iconst d_CA_init_63 ?_
  have hOM41 : mOk M41 := by rw [e42]; exact mOk_UI hOM39 (m_b32 (by decide))
  refine pf_CA_41 rfl d_CA_init_64 (by rw [e40]; exact h38) (by decide) e42 ?_
  refine wm_aload_n d_CA_init_67 rfl rfl ?_
  refine wm_iconst d_CA_init_68 ?_
  have hOM43 : mOk M43 := by rw [e44]; exact mOk_UI hOM41 ⟨by decide, by decide⟩
  refine pf_CA_45 rfl d_CA_init_69 (by rw [e42, e40]; exact h38) ⟨by decide, by decide⟩ e44 ?_
  refine wm_aload_n d_CA_init_72 rfl rfl ?_
  refine wm_iconst d_CA_init_73 ?_
  have hOM45 : mOk M45 := by rw [e46]; exact mOk_UI hOM43 ⟨by decide, by decide⟩
  refine pf_CA_48 rfl d_CA_init_74 (by rw [e44, e42, e40]; exact h38) ⟨by decide, by decide⟩ e46 ?_
  refine wm_aload_n d_CA_init_77 rfl rfl ?_
  have hOM47 : mOk M47 := by rw [e48]; exact mOk_New hOM45
  refine nf_CA_51 rfl d_CA_init_78 e48 ?_
  refine wm_dup d_CA_init_81 rfl ?_
  refine cf_CA_53 rfl d_CA_init_82 (by rw [e48]; exact if_pos rfl) (Nat.le_of_ble_eq_true rfl) (Cv.mono h (fun M49 h => ?_))
  obtain ⟨hOM49, h⟩ := h
  obtain ⟨h52, h⟩ := h
  obtain ⟨M53, e54⟩ : ∃ M53, M53 = mUR M49 a0 9 (mZ M45) := ⟨_, rfl⟩
  replace h := h M53 e54
  obtain ⟨M55, e56⟩ : ∃ M55, M55 = mNew M53 8 0 18 := ⟨_, rfl⟩
  replace h := h M55 e56
  obtain ⟨h57, h⟩ := h
  have hOM53 : mOk M53 := by rw [e54]; exact mOk_UR hOM49
  refine pf_CA_54 rfl rfl d_CA_init_85 h52 e54 ?_
  refine wm_aload_n d_CA_init_88 rfl rfl ?_
  have hOM55 : mOk M55 := by rw [e56]; exact mOk_New hOM53
  refine nf_CA_58 rfl d_CA_init_89 e56 ?_
  refine wm_dup d_CA_init_92 rfl ?_
  refine wm_aload_n d_CA_init_93 rfl rfl ?_
  refine gf_CA_54 rfl d_CA_init_94 h57 ?_
  refine cf_CA_60 rfl d_CA_init_97 (by rw [e56]; exact if_pos rfl) (Nat.le_of_ble_eq_true rfl) (Cv.mono h (fun M58 h => ?_))
  obtain ⟨hOM58, h⟩ := h
  obtain ⟨h61, h⟩ := h
  obtain ⟨M62, e63⟩ : ∃ M62, M62 = mUR M58 a0 10 (mZ M53) := ⟨_, rfl⟩
  replace h := h M62 e63
  obtain ⟨M64, e65⟩ : ∃ M64, M64 = mNew M62 13 0 2 := ⟨_, rfl⟩
  replace h := h M64 e65
  have hOM62 : mOk M62 := by rw [e63]; exact mOk_UR hOM58
  refine pf_CA_63 rfl rfl d_CA_init_100 h61 e63 ?_
  refine wm_aload_n d_CA_init_103 rfl rfl ?_
  have hOM64 : mOk M64 := by rw [e65]; exact mOk_New hOM62
  refine nf_CA_67 rfl d_CA_init_104 e65 ?_
  refine wm_dup d_CA_init_107 rfl ?_
  refine cf_CA_69 rfl d_CA_init_108 (by rw [e65]; exact if_pos rfl) (Nat.le_of_ble_eq_true rfl) (Cv.mono h (fun M66 h => ?_))
  obtain ⟨hOM66, h⟩ := h
  obtain ⟨h69, h⟩ := h
  obtain ⟨M70, e71⟩ : ∃ M70, M70 = mUR M66 a0 11 (mZ M62) := ⟨_, rfl⟩
  replace h := h M70 e71
  obtain ⟨M72, e73⟩ : ∃ M72, M72 = mNew M70 13 0 2 := ⟨_, rfl⟩
  replace h := h M72 e73
  have hOM70 : mOk M70 := by rw [e71]; exact mOk_UR hOM66
  refine pf_CA_70 rfl rfl d_CA_init_111 h69 e71 ?_
  refine wm_aload_n d_CA_init_114 rfl rfl ?_
  have hOM72 : mOk M72 := by rw [e73]; exact mOk_New hOM70
  refine nf_CA_67 rfl d_CA_init_115 e73 ?_
  refine wm_dup d_CA_init_118 rfl ?_
  refine cf_CA_69 rfl d_CA_init_119 (by rw [e73]; exact if_pos rfl) (Nat.le_of_ble_eq_true rfl) (Cv.mono h (fun M74 h => ?_))
  obtain ⟨hOM74, h⟩ := h
  obtain ⟨h77, h⟩ := h
  obtain ⟨M78, e79⟩ : ∃ M78, M78 = mUR M74 a0 12 (mZ M70) := ⟨_, rfl⟩
  replace h := h M78 e79
  obtain ⟨M80, e81⟩ : ∃ M80, M80 = mNew M78 13 0 2 := ⟨_, rfl⟩
  replace h := h M80 e81
  have hOM78 : mOk M78 := by rw [e79]; exact mOk_UR hOM74
  refine pf_CA_74 rfl d_CA_init_122 h77 e79 ?_
  refine wm_aload_n d_CA_init_125 rfl rfl ?_
  have hOM80 : mOk M80 := by rw [e81]; exact mOk_New hOM78
  refine nf_CA_67 rfl d_CA_init_126 e81 ?_
  refine wm_dup d_CA_init_129 rfl ?_
  refine cf_CA_69 rfl d_CA_init_130 (by rw [e81]; exact if_pos rfl) (Nat.le_of_ble_eq_true rfl) (Cv.mono h (fun M82 h => ?_))
  obtain ⟨hOM82, h⟩ := h
  obtain ⟨h85, h⟩ := h
  obtain ⟨M86, e87⟩ : ∃ M86, M86 = mUR M82 a0 13 (mZ M78) := ⟨_, rfl⟩
  replace h := h M86 e87
  obtain ⟨M88, e89⟩ : ∃ M88, M88 = mNew M86 13 0 2 := ⟨_, rfl⟩
  replace h := h M88 e89
  have hOM86 : mOk M86 := by rw [e87]; exact mOk_UR hOM82
  refine pf_CA_77 rfl d_CA_init_133 h85 e87 ?_
  refine wm_aload_n d_CA_init_136 rfl rfl ?_
  have hOM88 : mOk M88 := by rw [e89]; exact mOk_New hOM86
  refine nf_CA_67 rfl d_CA_init_137 e89 ?_
  refine wm_dup d_CA_init_140 rfl ?_
  refine cf_CA_69 rfl d_CA_init_141 (by rw [e89]; exact if_pos rfl) (Nat.le_of_ble_eq_true rfl) (Cv.mono h (fun M90 h => ?_))
  obtain ⟨hOM90, h⟩ := h
  obtain ⟨h93, h⟩ := h
  obtain ⟨M94, e95⟩ : ∃ M94, M94 = mUR M90 a0 14 (mZ M86) := ⟨_, rfl⟩
  replace h := h M94 e95
  obtain ⟨M96, e97⟩ : ∃ M96, M96 = mNew M94 10 0 2 := ⟨_, rfl⟩
  replace h := h M96 e97
  have hOM94 : mOk M94 := by rw [e95]; exact mOk_UR hOM90
  refine pf_CA_80 rfl rfl d_CA_init_144 h93 e95 ?_
  refine wm_aload_n d_CA_init_147 rfl rfl ?_
  have hOM96 : mOk M96 := by rw [e97]; exact mOk_New hOM94
  refine nf_CA_83 rfl d_CA_init_148 e97 ?_
  refine wm_dup d_CA_init_151 rfl ?_
  refine cf_CA_85 rfl d_CA_init_152 (by rw [e97]; exact if_pos rfl) (Nat.le_of_ble_eq_true rfl) (Cv.mono h (fun M98 h => ?_))
  obtain ⟨hOM98, h⟩ := h
  obtain ⟨h101, h⟩ := h
  obtain ⟨M102, e103⟩ : ∃ M102, M102 = mUR M98 a0 15 (mZ M94) := ⟨_, rfl⟩
  replace h := h M102 e103
  obtain ⟨M104, e105⟩ : ∃ M104, M104 = mNew M102 11 0 3 := ⟨_, rfl⟩
  replace h := h M104 e105
  have hOM102 : mOk M102 := by rw [e103]; exact mOk_UR hOM98
  refine pf_CA_86 rfl rfl d_CA_init_155 h101 e103 ?_
  refine wm_aload_n d_CA_init_158 rfl rfl ?_
  have hOM104 : mOk M104 := by rw [e105]; exact mOk_New hOM102
  refine nf_CA_90 rfl d_CA_init_159 e105 ?_
  refine wm_dup d_CA_init_162 rfl ?_
  refine cf_CA_92 rfl d_CA_init_163 (by rw [e105]; exact if_pos rfl) (Nat.le_of_ble_eq_true rfl) (Cv.mono h (fun M106 h => ?_))
  obtain ⟨hOM106, h⟩ := h
  obtain ⟨h109, h⟩ := h
  obtain ⟨M110, e111⟩ : ∃ M110, M110 = mUR M106 a0 16 (mZ M102) := ⟨_, rfl⟩
  replace h := h M110 e111
  obtain ⟨M112, e113⟩ : ∃ M112, M112 = mNew M110 32 400 400 := ⟨_, rfl⟩
  replace h := h M112 e113
  obtain ⟨h114, h⟩ := h
  obtain ⟨M115, e116⟩ : ∃ M115, M115 = mUR M112 a0 17 (mZ M110) := ⟨_, rfl⟩
  replace h := h M115 e116
  obtain ⟨M117, e118⟩ : ∃ M117, M117 = mUI M115 a0 18 0 := ⟨_, rfl⟩
  replace h := h M117 e118
  have hOM110 : mOk M110 := by rw [e111]; exact mOk_UR hOM106
  refine pf_CA_93 rfl rfl d_CA_init_166 h109 e111 ?_
  refine wm_aload_n d_CA_init_169 rfl rfl ?_
  refine wm_sipush d_CA_init_170 (by decide) ?_
  have hOM112 : mOk M112 := by rw [e113]; exact mOk_New hOM110
  refine wm_newarrE 2 (atype := .char) (ty := .char) rfl rfl (fun _ => rfl) rfl rfl (by decide) k1_81 ⟨by decide, by decide⟩ d_CA_init_173 e113 ?_
  have hOM115 : mOk M115 := by rw [e116]; exact mOk_UR hOM112
  refine pf_CA_97 rfl rfl d_CA_init_175 h114 e116 ?_
  refine wm_aload_n d_CA_init_178 rfl rfl ?_
  refine wm_iconst d_CA_init_179 ?_
  have hOM117 : mOk M117 := by rw [e118]; exact mOk_UI hOM115 ⟨by decide, by decide⟩
  refine pf_CA_100 rfl d_CA_init_180 (by rw [e116]; exact h114) ⟨by decide, by decide⟩ e118 ?_
  refine wm_return d_CA_init_183 rfl ?_
  exact ⟨rfl, h⟩
theorem d_CA_feed_0 : decode y_CA_feed.2.1 0 = .ok (.aload_n 0, 1) := by decide +kernel
theorem d_CA_feed_1 : decode y_CA_feed.2.1 1 = .ok (.getfield 13, 3) := by decide +kernel
theorem d_CA_feed_4 : decode y_CA_feed.2.1 4 = .ok (.bipush 20, 2) := by decide +kernel
theorem d_CA_feed_6 : decode y_CA_feed.2.1 6 = .ok (.iadd, 1) := by decide +kernel
theorem d_CA_feed_7 : decode y_CA_feed.2.1 7 = .ok (.sipush 16384, 3) := by decide +kernel
theorem d_CA_feed_10 : decode y_CA_feed.2.1 10 = .ok (.if_icmp .le 5, 3) := by decide +kernel
theorem d_CA_feed_15 : decode y_CA_feed.2.1 15 = .ok (.aload_n 0, 1) := by decide +kernel
theorem d_CA_feed_16 : decode y_CA_feed.2.1 16 = .ok (.getfield 13, 3) := by decide +kernel
theorem d_CA_feed_19 : decode y_CA_feed.2.1 19 = .ok (.bipush 20, 2) := by decide +kernel
theorem d_CA_feed_21 : decode y_CA_feed.2.1 21 = .ok (.iadd, 1) := by decide +kernel
theorem d_CA_feed_22 : decode y_CA_feed.2.1 22 = .ok (.aload_n 0, 1) := by decide +kernel
theorem d_CA_feed_23 : decode y_CA_feed.2.1 23 = .ok (.getfield 7, 3) := by decide +kernel
theorem d_CA_feed_26 : decode y_CA_feed.2.1 26 = .ok (.arraylength, 1) := by decide +kernel
theorem d_CA_feed_13 : decode y_CA_feed.2.1 13 = .ok (.iconst (-1), 1) := by decide +kernel
theorem d_CA_feed_14 : decode y_CA_feed.2.1 14 = .ok (.ireturn, 1) := by decide +kernel
theorem d_CA_feed_27 : decode y_CA_feed.2.1 27 = .ok (.if_icmp .le 11, 3) := by decide +kernel
theorem d_CA_feed_30 : decode y_CA_feed.2.1 30 = .ok (.aload_n 0, 1) := by decide +kernel
theorem d_CA_feed_31 : decode y_CA_feed.2.1 31 = .ok (.aload_n 0, 1) := by decide +kernel
theorem d_CA_feed_38 : decode y_CA_feed.2.1 38 = .ok (.aload_n 0, 1) := by decide +kernel
theorem d_CA_feed_39 : decode y_CA_feed.2.1 39 = .ok (.iload_n 1, 1) := by decide +kernel
theorem d_CA_feed_40 : decode y_CA_feed.2.1 40 = .ok (.invokevirtual 107, 3) := by decide +kernel
theorem d_CA_feed_43 : decode y_CA_feed.2.1 43 = .ok (.aload_n 0, 1) := by decide +kernel
theorem d_CA_feed_44 : decode y_CA_feed.2.1 44 = .ok (.iload_n 2, 1) := by decide +kernel
theorem d_CA_feed_45 : decode y_CA_feed.2.1 45 = .ok (.invokevirtual 107, 3) := by decide +kernel
theorem d_CA_feed_48 : decode y_CA_feed.2.1 48 = .ok (.aload_n 0, 1) := by decide +kernel
theorem d_CA_feed_49 : decode y_CA_feed.2.1 49 = .ok (.iload_n 3, 1) := by decide +kernel
theorem d_CA_feed_50 : decode y_CA_feed.2.1 50 = .ok (.invokevirtual 107, 3) := by decide +kernel
theorem d_CA_feed_53 : decode y_CA_feed.2.1 53 = .ok (.aload_n 0, 1) := by decide +kernel
theorem d_CA_feed_54 : decode y_CA_feed.2.1 54 = .ok (.iload 4, 2) := by decide +kernel
theorem d_CA_feed_56 : decode y_CA_feed.2.1 56 = .ok (.invokevirtual 107, 3) := by decide +kernel
theorem d_CA_feed_59 : decode y_CA_feed.2.1 59 = .ok (.aload_n 0, 1) := by decide +kernel
theorem d_CA_feed_60 : decode y_CA_feed.2.1 60 = .ok (.iload 5, 2) := by decide +kernel
theorem d_CA_feed_62 : decode y_CA_feed.2.1 62 = .ok (.invokevirtual 107, 3) := by decide +kernel
theorem d_CA_feed_65 : decode y_CA_feed.2.1 65 = .ok (.aload_n 0, 1) := by decide +kernel
theorem d_CA_feed_66 : decode y_CA_feed.2.1 66 = .ok (.getfield 13, 3) := by decide +kernel
theorem d_CA_feed_69 : decode y_CA_feed.2.1 69 = .ok (.ireturn, 1) := by decide +kernel
theorem d_CA_feed_32 : decode y_CA_feed.2.1 32 = .ok (.invokevirtual 103, 3) := by decide +kernel
theorem d_CA_feed_35 : decode y_CA_feed.2.1 35 = .ok (.putfield 7, 3) := by decide +kernel
theorem k_CA_feed {G : mG} {d : Nat} {a0 : Nat} {l1 : Int} {l2 : Int} {l3 : Int} {l4 : Int} {l5 : Int} {M : mM} {Q : Int → mM → Prop} (hO : mOk M) (hi_l1 : i32 l1) (hi_l2 : i32 l2) (hi_l3 : i32 l3) (hi_l4 : i32 l4) (hi_l5 : i32 l5)
    (h : mK M a0 = 1 ∧ i32 ((mI M a0 1) + 20) ∧ (((mI M a0 1) + 20 ≤ 16384) → (mK M (mR M a0 0) = 32 ∧ i32 (mN M (mR M a0 0) : Int) ∧ (((mI M a0 1) + 20 ≤ (mN M (mR M a0 0) : Int)) → (Cv G y_CA_putFour d [vr a0, vi l1] M (fun M16 => mOk M16 ∧ (mK M16 a0 = 1 ∧ Cv G y_CA_putFour d [vr a0, vi l2] M16 (fun M20 => mOk M20 ∧ (mK M20 a0 = 1 ∧ Cv G y_CA_putFour d [vr a0, vi l3] M20 (fun M24 => mOk M24 ∧ (mK M24 a0 = 1 ∧ Cv G y_CA_putFour d [vr a0, vi l4] M24 (fun M28 => mOk M28 ∧ (mK M28 a0 = 1 ∧ Cv G y_CA_putFour d [vr a0, vi l5] M28 (fun M32 => mOk M32 ∧ (mK M32 a0 = 1 ∧ Q (mI M32 a0 1) M32)))))))))))) ∧ (¬ ((mI M a0 1) + 20 ≤ (mN M (mR M a0 0) : Int)) → (Cr G y_CA_growTape d [vr a0] M (fun x37 M36 => mOk M36 ∧ (mK M36 a0 = 1 ∧ ∀ M40, M40 = mUR M36 a0 0 x37 → Cv G y_CA_putFour d [vr a0, vi l1] M40 (fun M42 => mOk M42 ∧ (mK M42 a0 = 1 ∧ Cv G y_CA_putFour d [vr a0, vi l2] M42 (fun M46 => mOk M46 ∧ (mK M46 a0 = 1 ∧ Cv G y_CA_putFour d [vr a0, vi l3] M46 (fun M50 => mOk M50 ∧ (mK M50 a0 = 1 ∧ Cv G y_CA_putFour d [vr a0, vi l4] M50 (fun M54 => mOk M54 ∧ (mK M54 a0 = 1 ∧ Cv G y_CA_putFour d [vr a0, vi l5] M54 (fun M58 => mOk M58 ∧ (mK M58 a0 = 1 ∧ Q (mI M58 a0 1) M58)))))))))))))))) ∧ (¬ ((mI M a0 1) + 20 ≤ 16384) → (Q (-1) M))) :
    Ci G y_CA_feed (d + 1) [vr a0, vi l1, vi l2, vi l3, vi l4, vi l5] M Q := by
  refine wm_open (y := y_CA_feed) rfl (Nat.le_of_ble_eq_true rfl) (L := [vr a0, vi l1, vi l2, vi l3, vi l4, vi l5]) rfl ?_
  obtain ⟨h1, h⟩ := h
  obtain ⟨h7, h⟩ := h
  refine wm_aload_n d_CA_feed_0 rfl rfl ?_
  refine gf_CA_13 rfl d_CA_feed_1 h1 ?_
  refine wm_bipush d_CA_feed_4 (by decide) ?_
  refine wm_iadd d_CA_feed_6 ?_
  refine wm_sipush d_CA_feed_7 (by decide) ?_
  refine wm_icmp_le (tgt := 15) d_CA_feed_10 rfl h7 ⟨by decide, by decide⟩ (fun c8 => ?_) (fun c8 => ?_)
  · replace h := h.1 c8
    obtain ⟨h9, h⟩ := h
    obtain ⟨h14, h⟩ := h
    refine wm_aload_n d_CA_feed_15 rfl rfl ?_
    refine gf_CA_13 rfl d_CA_feed_16 h1 ?_
    refine wm_bipush d_CA_feed_19 (by decide) ?_
    refine wm_iadd d_CA_feed_21 ?_
    refine wm_aload_n d_CA_feed_22 rfl rfl ?_
    refine gf_CA_7 rfl d_CA_feed_23 h1 ?_
    refine wm_alen 2 rfl (fun _ => rfl) d_CA_feed_26 h9 ?_
    refine wm_icmp_le (tgt := 38) d_CA_feed_27 rfl h7 h14 (fun c15 => ?_) (fun c15 => ?_)
    · replace h := h.1 c15
      refine wm_aload_n d_CA_feed_38 rfl rfl ?_
      refine wm_iload_n d_CA_feed_39 rfl rfl ?_
      refine cf_CA_107 rfl d_CA_feed_40 h1 (Nat.le_of_ble_eq_true rfl) (Cv.mono h (fun M16 h => ?_))
      obtain ⟨hOM16, h⟩ := h
      obtain ⟨h19, h⟩ := h
      refine wm_aload_n d_CA_feed_43 rfl rfl ?_
      refine wm_iload_n d_CA_feed_44 rfl rfl ?_
      refine cf_CA_107 rfl d_CA_feed_45 h19 (Nat.le_of_ble_eq_true rfl) (Cv.mono h (fun M20 h => ?_))
      obtain ⟨hOM20, h⟩ := h
      obtain ⟨h23, h⟩ := h
      refine wm_aload_n d_CA_feed_48 rfl rfl ?_
      refine wm_iload_n d_CA_feed_49 rfl rfl ?_
      refine cf_CA_107 rfl d_CA_feed_50 h23 (Nat.le_of_ble_eq_true rfl) (Cv.mono h (fun M24 h => ?_))
      obtain ⟨hOM24, h⟩ := h
      obtain ⟨h27, h⟩ := h
      refine wm_aload_n d_CA_feed_53 rfl rfl ?_
      refine wm_iload d_CA_feed_54 rfl ?_
      refine cf_CA_107 rfl d_CA_feed_56 h27 (Nat.le_of_ble_eq_true rfl) (Cv.mono h (fun M28 h => ?_))
      obtain ⟨hOM28, h⟩ := h
      obtain ⟨h31, h⟩ := h
      refine wm_aload_n d_CA_feed_59 rfl rfl ?_
      refine wm_iload d_CA_feed_60 rfl ?_
      refine cf_CA_107 rfl d_CA_feed_62 h31 (Nat.le_of_ble_eq_true rfl) (Cv.mono h (fun M32 h => ?_))
      obtain ⟨hOM32, h⟩ := h
      obtain ⟨h35, h⟩ := h
      refine wm_aload_n d_CA_feed_65 rfl rfl ?_
      refine gf_CA_13 rfl d_CA_feed_66 h35 ?_
      refine wm_ireturn d_CA_feed_69 rfl rfl ?_
      exact ⟨_, rfl, h⟩
    · replace h := h.2 c15
      refine wm_aload_n d_CA_feed_30 rfl rfl ?_
      refine wm_aload_n d_CA_feed_31 rfl rfl ?_
      refine cf_CA_103 rfl d_CA_feed_32 h1 (Nat.le_of_ble_eq_true rfl) (Cr.mono h (fun x37 M36 h => ?_))
      obtain ⟨hOM36, h⟩ := h
      obtain ⟨h39, h⟩ := h
      obtain ⟨M40, e41⟩ : ∃ M40, M40 = mUR M36 a0 0 x37 := ⟨_, rfl⟩
      replace h := h M40 e41
      have hOM40 : mOk M40 := by rw [e41]; exact mOk_UR hOM36
      refine pf_CA_7 rfl d_CA_feed_35 h39 e41 ?_
      refine wm_aload_n d_CA_feed_38 rfl rfl ?_
      refine wm_iload_n d_CA_feed_39 rfl rfl ?_
      refine cf_CA_107 rfl d_CA_feed_40 (by rw [e41]; exact h39) (Nat.le_of_ble_eq_true rfl) (Cv.mono h (fun M42 h => ?_))
      obtain ⟨hOM42, h⟩ := h
      obtain ⟨h45, h⟩ := h
      refine wm_aload_n d_CA_feed_43 rfl rfl ?_
      refine wm_iload_n d_CA_feed_44 rfl rfl ?_
      refine cf_CA_107 rfl d_CA_feed_45 h45 (Nat.le_of_ble_eq_true rfl) (Cv.mono h (fun M46 h => ?_))
      obtain ⟨hOM46, h⟩ := h
      obtain ⟨h49, h⟩ := h
      refine wm_aload_n d_CA_feed_48 rfl rfl ?_
      refine wm_iload_n d_CA_feed_49 rfl rfl ?_
      refine cf_CA_107 rfl d_CA_feed_50 h49 (Nat.le_of_ble_eq_true rfl) (Cv.mono h (fun M50 h => ?_))
      obtain ⟨hOM50, h⟩ := h
      obtain ⟨h53, h⟩ := h
      refine wm_aload_n d_CA_feed_53 rfl rfl ?_
      refine wm_iload d_CA_feed_54 rfl ?_
      refine cf_CA_107 rfl d_CA_feed_56 h53 (Nat.le_of_ble_eq_true rfl) (Cv.mono h (fun M54 h => ?_))
      obtain ⟨hOM54, h⟩ := h
      obtain ⟨h57, h⟩ := h
      refine wm_aload_n d_CA_feed_59 rfl rfl ?_
      refine wm_iload d_CA_feed_60 rfl ?_
      refine cf_CA_107 rfl d_CA_feed_62 h57 (Nat.le_of_ble_eq_true rfl) (Cv.mono h (fun M58 h => ?_))
      obtain ⟨hOM58, h⟩ := h
      obtain ⟨h61, h⟩ := h
      refine wm_aload_n d_CA_feed_65 rfl rfl ?_
      refine gf_CA_13 rfl d_CA_feed_66 h61 ?_
      refine wm_ireturn d_CA_feed_69 rfl rfl ?_
      exact ⟨_, rfl, h⟩
  · replace h := h.2 c8
    refine wm_iconst d_CA_feed_13 ?_
    refine wm_ireturn d_CA_feed_14 rfl rfl ?_
    exact ⟨_, rfl, h⟩
theorem d_CA_growTape_0 : decode y_CA_growTape.2.1 0 = .ok (.iconst 2, 1) := by decide +kernel
theorem d_CA_growTape_1 : decode y_CA_growTape.2.1 1 = .ok (.aload_n 0, 1) := by decide +kernel
theorem d_CA_growTape_2 : decode y_CA_growTape.2.1 2 = .ok (.getfield 7, 3) := by decide +kernel
theorem d_CA_growTape_5 : decode y_CA_growTape.2.1 5 = .ok (.arraylength, 1) := by decide +kernel
theorem d_CA_growTape_6 : decode y_CA_growTape.2.1 6 = .ok (.imul, 1) := by decide +kernel
theorem d_CA_growTape_7 : decode y_CA_growTape.2.1 7 = .ok (.newarray .char, 2) := by decide +kernel
theorem d_CA_growTape_9 : decode y_CA_growTape.2.1 9 = .ok (.astore_n 1, 1) := by decide +kernel
theorem d_CA_growTape_10 : decode y_CA_growTape.2.1 10 = .ok (.aload_n 0, 1) := by decide +kernel
theorem d_CA_growTape_11 : decode y_CA_growTape.2.1 11 = .ok (.getfield 7, 3) := by decide +kernel
theorem d_CA_growTape_14 : decode y_CA_growTape.2.1 14 = .ok (.iconst 0, 1) := by decide +kernel
theorem d_CA_growTape_15 : decode y_CA_growTape.2.1 15 = .ok (.aload_n 1, 1) := by decide +kernel
theorem d_CA_growTape_16 : decode y_CA_growTape.2.1 16 = .ok (.iconst 0, 1) := by decide +kernel
theorem d_CA_growTape_17 : decode y_CA_growTape.2.1 17 = .ok (.aload_n 0, 1) := by decide +kernel
theorem d_CA_growTape_18 : decode y_CA_growTape.2.1 18 = .ok (.getfield 13, 3) := by decide +kernel
theorem d_CA_growTape_21 : decode y_CA_growTape.2.1 21 = .ok (.invokestatic 111, 3) := by decide +kernel
theorem d_CA_growTape_24 : decode y_CA_growTape.2.1 24 = .ok (.aload_n 1, 1) := by decide +kernel
theorem d_CA_growTape_25 : decode y_CA_growTape.2.1 25 = .ok (.areturn, 1) := by decide +kernel
theorem k_CA_growTape {G : mG} {d : Nat} {a0 : Nat} {M : mM} {Q : Nat → mM → Prop} (hO : mOk M)
    (h : mK M a0 = 1 ∧ mK M (mR M a0 0) = 32 ∧ ((0 : Int) ≤ 2 * (mN M (mR M a0 0) : Int) ∧ 2 * (mN M (mR M a0 0) : Int) ≤ 16777216) ∧ ∀ M4, M4 = mNew M 32 (Int.toNat (2 * (mN M (mR M a0 0) : Int))) (Int.toNat (2 * (mN M (mR M a0 0) : Int))) → mK M4 a0 = 1 ∧ mK M4 (mR M4 a0 0) = 32 ∧ ((0 : Int) ≤ 0 ∧ (0 : Int) ≤ 0 ∧ (0 : Int) ≤ mI M4 a0 1 ∧ 0 + (mI M4 a0 1) ≤ (mN M4 (mR M4 a0 0) : Int) ∧ 0 + (mI M4 a0 1) ≤ (mN M4 (mZ M) : Int)) ∧ (∀ i9 : Nat, (i9 : Int) < mI M4 a0 1 → 0 ≤ mI M4 (mR M4 a0 0) (0 + i9) ∧ mI M4 (mR M4 a0 0) (0 + i9) < 65536) ∧ ∀ M10, M10 = mCpy M4 (mR M4 a0 0) (mZ M) 0 0 (Int.toNat (mI M4 a0 1)) → Q (mZ M) M10) :
    Cr G y_CA_growTape (d + 1) [vr a0] M Q := by
  refine wm_open (y := y_CA_growTape) rfl (Nat.le_of_ble_eq_true rfl) (L := [vr a0, vd]) rfl ?_
  obtain ⟨h1, h⟩ := h
  obtain ⟨h2, h⟩ := h
  obtain ⟨h3, h⟩ := h
  obtain ⟨M4, e5⟩ : ∃ M4, M4 = mNew M 32 (Int.toNat (2 * (mN M (mR M a0 0) : Int))) (Int.toNat (2 * (mN M (mR M a0 0) : Int))) := ⟨_, rfl⟩
  replace h := h M4 e5
  obtain ⟨h6, h⟩ := h
  obtain ⟨h7, h⟩ := h
  obtain ⟨h8, h⟩ := h
  obtain ⟨h9, h⟩ := h
  obtain ⟨M10, e11⟩ : ∃ M10, M10 = mCpy M4 (mR M4 a0 0) (mZ M) 0 0 (Int.toNat (mI M4 a0 1)) := ⟨_, rfl⟩
  replace h := h M10 e11
  refine wm_iconst d_CA_growTape_0 ?_
  refine wm_aload_n d_CA_growTape_1 rfl rfl ?_
  refine gf_CA_7 rfl d_CA_growTape_2 h1 ?_
  refine wm_alen 2 rfl (fun _ => rfl) d_CA_growTape_5 h2 ?_
  refine wm_imul d_CA_growTape_6 ?_
  have hOM4 : mOk M4 := by rw [e5]; exact mOk_New hO
  refine wm_newarrE 2 (atype := .char) (ty := .char) rfl rfl (fun _ => rfl) rfl rfl (by decide) k1_81 h3 d_CA_growTape_7 e5 ?_
  refine wm_astore_n d_CA_growTape_9 rfl (by decide) (L' := [vr a0, vr (mZ M)]) rfl ?_
  refine wm_aload_n d_CA_growTape_10 rfl rfl ?_
  refine gf_CA_7 rfl d_CA_growTape_11 h6 ?_
  refine wm_iconst d_CA_growTape_14 ?_
  refine wm_aload_n d_CA_growTape_15 rfl rfl ?_
  refine wm_iconst d_CA_growTape_16 ?_
  refine wm_aload_n d_CA_growTape_17 rfl rfl ?_
  refine gf_CA_13 rfl d_CA_growTape_18 h6 ?_
  have hOM10 : mOk M10 := by rw [e11]; exact mOk_Cpy hOM4
  refine wm_copyc k4_13 (Nat.le_of_ble_eq_true rfl) h7 (by rw [e5]; exact if_pos rfl) h8 h9 d_CA_growTape_21 e11 ?_
  refine wm_aload_n d_CA_growTape_24 rfl rfl ?_
  refine wm_areturn d_CA_growTape_25 rfl (Or.inr ⟨_, rfl⟩) ?_
  exact ⟨_, rfl, h⟩
theorem d_CA_putFour_0 : decode y_CA_putFour.2.1 0 = .ok (.bipush 24, 2) := by decide +kernel
theorem d_CA_putFour_2 : decode y_CA_putFour.2.1 2 = .ok (.istore_n 2, 1) := by decide +kernel
theorem d_CA_putFour_3 : decode y_CA_putFour.2.1 3 = .ok (.iload_n 2, 1) := by decide +kernel
theorem d_CA_putFour_4 : decode y_CA_putFour.2.1 4 = .ok (.ifCond .lt 33, 3) := by decide +kernel
theorem d_CA_putFour_37 : decode y_CA_putFour.2.1 37 = .ok (.return_, 1) := by decide +kernel
theorem d_CA_putFour_7 : decode y_CA_putFour.2.1 7 = .ok (.aload_n 0, 1) := by decide +kernel
theorem d_CA_putFour_8 : decode y_CA_putFour.2.1 8 = .ok (.getfield 7, 3) := by decide +kernel
theorem d_CA_putFour_11 : decode y_CA_putFour.2.1 11 = .ok (.aload_n 0, 1) := by decide +kernel
theorem d_CA_putFour_12 : decode y_CA_putFour.2.1 12 = .ok (.dup, 1) := by decide +kernel
theorem d_CA_putFour_13 : decode y_CA_putFour.2.1 13 = .ok (.getfield 13, 3) := by decide +kernel
theorem d_CA_putFour_16 : decode y_CA_putFour.2.1 16 = .ok (.dup_x1, 1) := by decide +kernel
theorem d_CA_putFour_17 : decode y_CA_putFour.2.1 17 = .ok (.iconst 1, 1) := by decide +kernel
theorem d_CA_putFour_18 : decode y_CA_putFour.2.1 18 = .ok (.iadd, 1) := by decide +kernel
theorem d_CA_putFour_19 : decode y_CA_putFour.2.1 19 = .ok (.putfield 13, 3) := by decide +kernel
theorem d_CA_putFour_22 : decode y_CA_putFour.2.1 22 = .ok (.iload_n 1, 1) := by decide +kernel
theorem d_CA_putFour_23 : decode y_CA_putFour.2.1 23 = .ok (.iload_n 2, 1) := by decide +kernel
theorem d_CA_putFour_24 : decode y_CA_putFour.2.1 24 = .ok (.iushr, 1) := by decide +kernel
theorem d_CA_putFour_25 : decode y_CA_putFour.2.1 25 = .ok (.sipush 255, 3) := by decide +kernel
theorem d_CA_putFour_28 : decode y_CA_putFour.2.1 28 = .ok (.iand, 1) := by decide +kernel
theorem d_CA_putFour_29 : decode y_CA_putFour.2.1 29 = .ok (.i2c, 1) := by decide +kernel
theorem d_CA_putFour_30 : decode y_CA_putFour.2.1 30 = .ok (.castore, 1) := by decide +kernel
theorem d_CA_putFour_31 : decode y_CA_putFour.2.1 31 = .ok (.iinc 2 (-8), 3) := by decide +kernel
theorem d_CA_putFour_34 : decode y_CA_putFour.2.1 34 = .ok (.goto (-31), 3) := by decide +kernel
def h_CA_putFour_3 (G : mG) (d : Nat) (a0 : Nat) (l1 : Int) (l2 : Int) (M : mM) (Q : mM → Prop) : Prop := mWm G y_CA_putFour d 3 [vr a0, vi l1, vi l2] [] M (fun r9 M9 => r9 = none ∧ Q M9)
theorem k_CA_putFour {G : mG} {d : Nat} {a0 : Nat} {l1 : Int} {M : mM} {Q : mM → Prop} (hO : mOk M) (hi_l1 : i32 l1)
    (h : h_CA_putFour_3 G d a0 l1 24 M Q) :
    Cv G y_CA_putFour d [vr a0, vi l1] M Q := by
  refine wm_open (y := y_CA_putFour) rfl (Nat.le_of_ble_eq_true rfl) (L := [vr a0, vi l1, vd]) rfl ?_
  refine wm_bipush d_CA_putFour_0 (by decide) ?_
  refine wm_istore_n d_CA_putFour_2 rfl (by decide) (L' := [vr a0, vi l1, vi 24]) rfl ?_
  exact h
theorem k_CA_putFour_3 {G : mG} {d : Nat} {a0 : Nat} {l1 : Int} {l2 : Int} {M : mM} {Q : mM → Prop} (hO : mOk M) (hi_l1 : i32 l1) (hi_l2 : i32 l2)
    (h : ((l2 < 0) → (Q M)) ∧ (¬ (l2 < 0) → (mK M a0 = 1 ∧ i32 ((mI M a0 1) + 1) ∧ ∀ M5, M5 = mUI M a0 1 ((mI M a0 1) + 1) → mK M5 (mR M a0 0) = 32 ∧ ((0 : Int) ≤ mI M a0 1 ∧ mI M a0 1 < (mN M5 (mR M a0 0) : Int)) ∧ ((0 : Int) ≤ i2cI (andI (ushrI l1 l2) 255) ∧ i2cI (andI (ushrI l1 l2) 255) < 65536) ∧ ∀ M10, M10 = mUI M5 (mR M a0 0) (Int.toNat (mI M a0 1)) (i2cI (andI (ushrI l1 l2) 255)) → h_CA_putFour_3 G d a0 l1 (l2 + (-8)) M10 Q))) :
    h_CA_putFour_3 G d a0 l1 l2 M Q := by
  unfold h_CA_putFour_3
  refine wm_iload_n d_CA_putFour_3 rfl rfl ?_
  refine wm_if_lt (tgt := 37) d_CA_putFour_4 rfl hi_l2 (fun c2 => ?_) (fun c2 => ?_)
  · replace h := h.1 c2
    refine wm_return d_CA_putFour_37 rfl ?_
    exact ⟨rfl, h⟩
  · replace h := h.2 c2
    obtain ⟨h3, h⟩ := h
    obtain ⟨h4, h⟩ := h
    obtain ⟨M5, e6⟩ : ∃ M5, M5 = mUI M a0 1 ((mI M a0 1) + 1) := ⟨_, rfl⟩
    replace h := h M5 e6
    obtain ⟨h7, h⟩ := h
    obtain ⟨h8, h⟩ := h
    obtain ⟨h9, h⟩ := h
    obtain ⟨M10, e11⟩ : ∃ M10, M10 = mUI M5 (mR M a0 0) (Int.toNat (mI M a0 1)) (i2cI (andI (ushrI l1 l2) 255)) := ⟨_, rfl⟩
    replace h := h M10 e11
    refine wm_aload_n d_CA_putFour_7 rfl rfl ?_
    refine gf_CA_7 rfl d_CA_putFour_8 h3 ?_
    refine wm_aload_n d_CA_putFour_11 rfl rfl ?_
    refine wm_dup d_CA_putFour_12 rfl ?_
    refine gf_CA_13 rfl d_CA_putFour_13 h3 ?_
    refine wm_dup_x1 d_CA_putFour_16 rfl rfl ?_
    refine wm_iconst d_CA_putFour_17 ?_
    refine wm_iadd d_CA_putFour_18 ?_
    have hOM5 : mOk M5 := by rw [e6]; exact mOk_UI hO h4
    refine pf_CA_13 rfl d_CA_putFour_19 h3 h4 e6 ?_
    refine wm_iload_n d_CA_putFour_22 rfl rfl ?_
    refine wm_iload_n d_CA_putFour_23 rfl rfl ?_
    refine wm_iushr d_CA_putFour_24 ?_
    refine wm_sipush d_CA_putFour_25 (by decide) ?_
    refine wm_iand d_CA_putFour_28 ?_
    refine wm_i2c d_CA_putFour_29 ?_
    have hOM10 : mOk M10 := by rw [e11]; exact mOk_UI hOM5 ⟨by omega, by omega⟩
    refine wm_castE d_CA_putFour_30 h7 h8 h9 e11 ?_
    refine wm_iinc d_CA_putFour_31 (by decide) rfl (L' := [vr a0, vi l1, vi (l2 + (-8))]) rfl ?_
    refine wm_goto (tgt := 3) d_CA_putFour_34 rfl ?_
    exact h
theorem d_CA_end_0 : decode y_CA_end.2.1 0 = .ok (.iload_n 1, 1) := by decide +kernel
theorem d_CA_end_1 : decode y_CA_end.2.1 1 = .ok (.ifCond .lt 18, 3) := by decide +kernel
theorem d_CA_end_4 : decode y_CA_end.2.1 4 = .ok (.iload_n 1, 1) := by decide +kernel
theorem d_CA_end_5 : decode y_CA_end.2.1 5 = .ok (.bipush 20, 2) := by decide +kernel
theorem d_CA_end_7 : decode y_CA_end.2.1 7 = .ok (.if_icmp .gt 12, 3) := by decide +kernel
theorem d_CA_end_10 : decode y_CA_end.2.1 10 = .ok (.aload_n 0, 1) := by decide +kernel
theorem d_CA_end_11 : decode y_CA_end.2.1 11 = .ok (.getfield 13, 3) := by decide +kernel
theorem d_CA_end_14 : decode y_CA_end.2.1 14 = .ok (.bipush 20, 2) := by decide +kernel
theorem d_CA_end_16 : decode y_CA_end.2.1 16 = .ok (.if_icmp .ge 11, 3) := by decide +kernel
theorem d_CA_end_27 : decode y_CA_end.2.1 27 = .ok (.aload_n 0, 1) := by decide +kernel
theorem d_CA_end_28 : decode y_CA_end.2.1 28 = .ok (.dup, 1) := by decide +kernel
theorem d_CA_end_29 : decode y_CA_end.2.1 29 = .ok (.getfield 13, 3) := by decide +kernel
theorem d_CA_end_32 : decode y_CA_end.2.1 32 = .ok (.iload_n 1, 1) := by decide +kernel
theorem d_CA_end_33 : decode y_CA_end.2.1 33 = .ok (.bipush 20, 2) := by decide +kernel
theorem d_CA_end_35 : decode y_CA_end.2.1 35 = .ok (.isub, 1) := by decide +kernel
theorem d_CA_end_36 : decode y_CA_end.2.1 36 = .ok (.iadd, 1) := by decide +kernel
theorem d_CA_end_37 : decode y_CA_end.2.1 37 = .ok (.putfield 13, 3) := by decide +kernel
theorem d_CA_end_40 : decode y_CA_end.2.1 40 = .ok (.aload_n 0, 1) := by decide +kernel
theorem d_CA_end_41 : decode y_CA_end.2.1 41 = .ok (.getfield 13, 3) := by decide +kernel
theorem d_CA_end_44 : decode y_CA_end.2.1 44 = .ok (.ireturn, 1) := by decide +kernel
theorem k_CA_end {G : mG} {d : Nat} {a0 : Nat} {l1 : Int} {M : mM} {Q : Int → mM → Prop} (hO : mOk M) (hi_l1 : i32 l1)
    (h : (¬ (l1 < 0) → (¬ (20 < l1) → mK M a0 = 1)) ∧ (((l1 < 0) ∨ ((20 < l1) ∨ (¬ (20 ≤ mI M a0 1)))) → (False)) ∧ (¬ ((l1 < 0) ∨ ((20 < l1) ∨ (¬ (20 ≤ mI M a0 1)))) → (mK M a0 = 1 ∧ i32 ((mI M a0 1) + (l1 - 20)) ∧ ∀ M11, M11 = mUI M a0 1 ((mI M a0 1) + (l1 - 20)) → Q (mI M11 a0 1) M11))) :
    Ci G y_CA_end d [vr a0, vi l1] M Q := by
  refine wm_open (y := y_CA_end) rfl (Nat.le_of_ble_eq_true rfl) (L := [vr a0, vi l1]) rfl ?_
  refine wm_iload_n d_CA_end_0 rfl rfl ?_
  obtain ⟨s6, h⟩ := h
  have hE0 : ((l1 < 0) ∨ ((20 < l1) ∨ (¬ (20 ≤ mI M a0 1)))) → mWm G y_CA_end d 19 [vr a0, vi l1] [] M (fun r9 M9 => ∃ x9, r9 = some (vi x9) ∧ Q x9 M9) := by
    intro q7
    have h := h.1 q7
    exact h.elim
  have hE1 : ¬ ((l1 < 0) ∨ ((20 < l1) ∨ (¬ (20 ≤ mI M a0 1)))) → mWm G y_CA_end d 27 [vr a0, vi l1] [] M (fun r9 M9 => ∃ x9, r9 = some (vi x9) ∧ Q x9 M9) := by
    intro q8
    have h := h.2 q8
    obtain ⟨h9, h⟩ := h
    obtain ⟨h10, h⟩ := h
    obtain ⟨M11, e12⟩ : ∃ M11, M11 = mUI M a0 1 ((mI M a0 1) + (l1 - 20)) := ⟨_, rfl⟩
    replace h := h M11 e12
    refine wm_aload_n d_CA_end_27 rfl rfl ?_
    refine wm_dup d_CA_end_28 rfl ?_
    refine gf_CA_13 rfl d_CA_end_29 h9 ?_
    refine wm_iload_n d_CA_end_32 rfl rfl ?_
    refine wm_bipush d_CA_end_33 (by decide) ?_
    refine wm_isub d_CA_end_35 ?_
    refine wm_iadd d_CA_end_36 ?_
    have hOM11 : mOk M11 := by rw [e12]; exact mOk_UI hO h10
    refine pf_CA_13 rfl d_CA_end_37 h9 h10 e12 ?_
    refine wm_aload_n d_CA_end_40 rfl rfl ?_
    refine gf_CA_13 rfl d_CA_end_41 (by rw [e12]; exact h9) ?_
    refine wm_ireturn d_CA_end_44 rfl rfl ?_
    exact ⟨_, rfl, h⟩
  clear h
  have s13 := s6
  refine wm_if_lt (tgt := 19) d_CA_end_1 rfl hi_l1 (fun c5 => ?_) (fun c5 => ?_)
  · exact hE0 (Or.inl c5)
  · have s13 := s13 c5
    have s14 := s13
    refine wm_iload_n d_CA_end_4 rfl rfl ?_
    refine wm_bipush d_CA_end_5 (by decide) ?_
    refine wm_icmp_gt (tgt := 19) d_CA_end_7 rfl hi_l1 ⟨by decide, by decide⟩ (fun c4 => ?_) (fun c4 => ?_)
    · exact hE0 (Or.inr (Or.inl c4))
    · have s14 := s14 c4
      have h1 := s14
      refine wm_aload_n d_CA_end_10 rfl rfl ?_
      refine gf_CA_13 rfl d_CA_end_11 h1 ?_
      refine wm_bipush d_CA_end_14 (by decide) ?_
      refine wm_icmp_ge (tgt := 27) d_CA_end_16 rfl (hO _ _).1 ⟨by decide, by decide⟩ (fun c3 => ?_) (fun c3 => ?_)
      · exact hE1 (fun z15 => Or.elim z15 c5 (fun z16 => Or.elim z16 c4 (fun z17 => z17 c3)))
      · exact hE0 (Or.inr (Or.inr c3))
theorem d_CA_compile_0 : decode y_CA_compile.2.1 0 = .ok (.aload_n 0, 1) := by decide +kernel
theorem d_CA_compile_1 : decode y_CA_compile.2.1 1 = .ok (.getfield 20, 3) := by decide +kernel
theorem d_CA_compile_4 : decode y_CA_compile.2.1 4 = .ok (.aload_n 0, 1) := by decide +kernel
theorem d_CA_compile_5 : decode y_CA_compile.2.1 5 = .ok (.getfield 7, 3) := by decide +kernel
theorem d_CA_compile_8 : decode y_CA_compile.2.1 8 = .ok (.aload_n 0, 1) := by decide +kernel
theorem d_CA_compile_9 : decode y_CA_compile.2.1 9 = .ok (.getfield 13, 3) := by decide +kernel
theorem d_CA_compile_12 : decode y_CA_compile.2.1 12 = .ok (.invokevirtual 120, 3) := by decide +kernel
theorem d_CA_compile_15 : decode y_CA_compile.2.1 15 = .ok (.aload_n 0, 1) := by decide +kernel
theorem d_CA_compile_16 : decode y_CA_compile.2.1 16 = .ok (.iconst 0, 1) := by decide +kernel
theorem d_CA_compile_17 : decode y_CA_compile.2.1 17 = .ok (.putfield 13, 3) := by decide +kernel
theorem d_CA_compile_20 : decode y_CA_compile.2.1 20 = .ok (.aload_n 0, 1) := by decide +kernel
theorem d_CA_compile_21 : decode y_CA_compile.2.1 21 = .ok (.getfield 27, 3) := by decide +kernel
theorem d_CA_compile_24 : decode y_CA_compile.2.1 24 = .ok (.aload_n 0, 1) := by decide +kernel
theorem d_CA_compile_25 : decode y_CA_compile.2.1 25 = .ok (.getfield 20, 3) := by decide +kernel
theorem d_CA_compile_28 : decode y_CA_compile.2.1 28 = .ok (.aload_n 0, 1) := by decide +kernel
theorem d_CA_compile_29 : decode y_CA_compile.2.1 29 = .ok (.getfield 38, 3) := by decide +kernel
theorem d_CA_compile_32 : decode y_CA_compile.2.1 32 = .ok (.invokevirtual 124, 3) := by decide +kernel
theorem d_CA_compile_35 : decode y_CA_compile.2.1 35 = .ok (.istore_n 1, 1) := by decide +kernel
theorem d_CA_compile_36 : decode y_CA_compile.2.1 36 = .ok (.aload_n 0, 1) := by decide +kernel
theorem d_CA_compile_37 : decode y_CA_compile.2.1 37 = .ok (.iload_n 1, 1) := by decide +kernel
theorem d_CA_compile_38 : decode y_CA_compile.2.1 38 = .ok (.ifCond .ne 7, 3) := by decide +kernel
theorem d_CA_compile_41 : decode y_CA_compile.2.1 41 = .ok (.iconst (-1), 1) := by decide +kernel
theorem d_CA_compile_42 : decode y_CA_compile.2.1 42 = .ok (.goto 10, 3) := by decide +kernel
theorem d_CA_compile_45 : decode y_CA_compile.2.1 45 = .ok (.aload_n 0, 1) := by decide +kernel
theorem d_CA_compile_46 : decode y_CA_compile.2.1 46 = .ok (.getfield 27, 3) := by decide +kernel
theorem d_CA_compile_52 : decode y_CA_compile.2.1 52 = .ok (.putfield 45, 3) := by decide +kernel
theorem d_CA_compile_55 : decode y_CA_compile.2.1 55 = .ok (.iload_n 1, 1) := by decide +kernel
theorem d_CA_compile_56 : decode y_CA_compile.2.1 56 = .ok (.ifCond .ne 37, 3) := by decide +kernel
theorem d_CA_compile_59 : decode y_CA_compile.2.1 59 = .ok (.aload_n 0, 1) := by decide +kernel
theorem d_CA_compile_60 : decode y_CA_compile.2.1 60 = .ok (.getfield 34, 3) := by decide +kernel
theorem d_CA_compile_63 : decode y_CA_compile.2.1 63 = .ok (.astore_n 2, 1) := by decide +kernel
theorem d_CA_compile_64 : decode y_CA_compile.2.1 64 = .ok (.aload_n 0, 1) := by decide +kernel
theorem d_CA_compile_65 : decode y_CA_compile.2.1 65 = .ok (.aload_n 0, 1) := by decide +kernel
theorem d_CA_compile_66 : decode y_CA_compile.2.1 66 = .ok (.getfield 38, 3) := by decide +kernel
theorem d_CA_compile_69 : decode y_CA_compile.2.1 69 = .ok (.putfield 34, 3) := by decide +kernel
theorem d_CA_compile_72 : decode y_CA_compile.2.1 72 = .ok (.aload_n 0, 1) := by decide +kernel
theorem d_CA_compile_73 : decode y_CA_compile.2.1 73 = .ok (.aload_n 2, 1) := by decide +kernel
theorem d_CA_compile_74 : decode y_CA_compile.2.1 74 = .ok (.putfield 38, 3) := by decide +kernel
theorem d_CA_compile_77 : decode y_CA_compile.2.1 77 = .ok (.aload_n 0, 1) := by decide +kernel
theorem d_CA_compile_78 : decode y_CA_compile.2.1 78 = .ok (.iconst 1, 1) := by decide +kernel
theorem d_CA_compile_79 : decode y_CA_compile.2.1 79 = .ok (.putfield 41, 3) := by decide +kernel
theorem d_CA_compile_82 : decode y_CA_compile.2.1 82 = .ok (.aload_n 0, 1) := by decide +kernel
theorem d_CA_compile_83 : decode y_CA_compile.2.1 83 = .ok (.getfield 54, 3) := by decide +kernel
theorem d_CA_compile_86 : decode y_CA_compile.2.1 86 = .ok (.invokevirtual 131, 3) := by decide +kernel
theorem d_CA_compile_89 : decode y_CA_compile.2.1 89 = .ok (.aload_n 0, 1) := by decide +kernel
theorem d_CA_compile_90 : decode y_CA_compile.2.1 90 = .ok (.invokevirtual 134, 3) := by decide +kernel
theorem d_CA_compile_93 : decode y_CA_compile.2.1 93 = .ok (.iload_n 1, 1) := by decide +kernel
theorem d_CA_compile_94 : decode y_CA_compile.2.1 94 = .ok (.ireturn, 1) := by decide +kernel
theorem d_CA_compile_49 : decode y_CA_compile.2.1 49 = .ok (.invokevirtual 128, 3) := by decide +kernel
theorem k_CA_compile {G : mG} {d : Nat} {a0 : Nat} {M : mM} {Q : Int → mM → Prop} (hO : mOk M)
    (h : mK M a0 = 1 ∧ mK M (mR M a0 2) = 2 ∧ Cv G y_Wo_split d [vr (mR M a0 2), vr (mR M a0 0), vi (mI M a0 1)] M (fun M3 => mOk M3 ∧ (mK M3 a0 = 1 ∧ ∀ M7, M7 = mUI M3 a0 1 0 → mK M7 (mR M7 a0 3) = 3 ∧ Ci G y_TR_translate d [vr (mR M7 a0 3), vr (mR M7 a0 2), vr (mR M7 a0 5)] M7 (fun x11 M10 => i32 x11 ∧ mOk M10 ∧ (((x11 = 0) → (mK M10 a0 = 1 ∧ ∀ M19, M19 = mUI M10 a0 7 (-1) → ((x11 = 0) → (∀ M24, M24 = mUR M19 a0 4 (mR M19 a0 5) → ∀ M26, M26 = mUR M24 a0 5 (mR M19 a0 4) → ∀ M28, M28 = mUI M26 a0 6 1 → mK M28 (mR M28 a0 9) = 7 ∧ Cv G y_Ga_clear d [vr (mR M28 a0 9)] M28 (fun M31 => mOk M31 ∧ (mK M31 a0 = 1 ∧ Cv G y_CA_forget d [vr a0] M31 (fun M35 => mOk M35 ∧ (Q x11 M35)))))) ∧ (¬ (x11 = 0) → (Q x11 M19)))) ∧ (¬ (x11 = 0) → (mK M10 a0 = 1 ∧ mK M10 (mR M10 a0 3) = 3 ∧ Ci G y_TR_faultPlace d [vr (mR M10 a0 3)] M10 (fun x41 M40 => i32 x41 ∧ mOk M40 ∧ (mK M40 a0 = 1 ∧ ∀ M44, M44 = mUI M40 a0 7 x41 → ((x11 = 0) → (∀ M49, M49 = mUR M44 a0 4 (mR M44 a0 5) → ∀ M51, M51 = mUR M49 a0 5 (mR M44 a0 4) → ∀ M53, M53 = mUI M51 a0 6 1 → mK M53 (mR M53 a0 9) = 7 ∧ Cv G y_Ga_clear d [vr (mR M53 a0 9)] M53 (fun M56 => mOk M56 ∧ (mK M56 a0 = 1 ∧ Cv G y_CA_forget d [vr a0] M56 (fun M60 => mOk M60 ∧ (Q x11 M60)))))) ∧ (¬ (x11 = 0) → (Q x11 M44))))))))))) :
    Ci G y_CA_compile (d + 1) [vr a0] M Q := by
  refine wm_open (y := y_CA_compile) rfl (Nat.le_of_ble_eq_true rfl) (L := [vr a0, vd, vd]) rfl ?_
  obtain ⟨h1, h⟩ := h
  obtain ⟨h2, h⟩ := h
  refine wm_aload_n d_CA_compile_0 rfl rfl ?_
  refine gf_CA_20 rfl d_CA_compile_1 h1 ?_
  refine wm_aload_n d_CA_compile_4 rfl rfl ?_
  refine gf_CA_7 rfl d_CA_compile_5 h1 ?_
  refine wm_aload_n d_CA_compile_8 rfl rfl ?_
  refine gf_CA_13 rfl d_CA_compile_9 h1 ?_
  refine cf_CA_120 rfl d_CA_compile_12 h2 (Nat.le_of_ble_eq_true rfl) (Cv.mono h (fun M3 h => ?_))
  obtain ⟨hOM3, h⟩ := h
  obtain ⟨h6, h⟩ := h
  obtain ⟨M7, e8⟩ : ∃ M7, M7 = mUI M3 a0 1 0 := ⟨_, rfl⟩
  replace h := h M7 e8
  obtain ⟨h9, h⟩ := h
  refine wm_aload_n d_CA_compile_15 rfl rfl ?_
  refine wm_iconst d_CA_compile_16 ?_
  have hOM7 : mOk M7 := by rw [e8]; exact mOk_UI hOM3 ⟨by decide, by decide⟩
  refine pf_CA_13 rfl d_CA_compile_17 h6 ⟨by decide, by decide⟩ e8 ?_
  refine wm_aload_n d_CA_compile_20 rfl rfl ?_
  refine gf_CA_27 rfl d_CA_compile_21 (by rw [e8]; exact h6) ?_
  refine wm_aload_n d_CA_compile_24 rfl rfl ?_
  refine gf_CA_20 rfl d_CA_compile_25 (by rw [e8]; exact h6) ?_
  refine wm_aload_n d_CA_compile_28 rfl rfl ?_
  refine gf_CA_38 rfl d_CA_compile_29 (by rw [e8]; exact h6) ?_
  refine cf_CA_124 rfl d_CA_compile_32 h9 (Nat.le_of_ble_eq_true rfl) (Ci.mono h (fun x11 M10 h => ?_))
  obtain ⟨h12, hOM10, h⟩ := h
  refine wm_istore_n d_CA_compile_35 rfl (by decide) (L' := [vr a0, vi x11, vd]) rfl ?_
  refine wm_aload_n d_CA_compile_36 rfl rfl ?_
  refine wm_iload_n d_CA_compile_37 rfl rfl ?_
  refine wm_if_ne (tgt := 45) d_CA_compile_38 rfl h12 (fun c17 => ?_) (fun c17 => ?_)
  · replace h := h.2 c17
    obtain ⟨h38, h⟩ := h
    obtain ⟨h39, h⟩ := h
    refine wm_aload_n d_CA_compile_45 rfl rfl ?_
    refine gf_CA_27 rfl d_CA_compile_46 h38 ?_
    refine cf_CA_128 rfl d_CA_compile_49 h39 (Nat.le_of_ble_eq_true rfl) (Ci.mono h (fun x41 M40 h => ?_))
    obtain ⟨h42, hOM40, h⟩ := h
    obtain ⟨h43, h⟩ := h
    obtain ⟨M44, e45⟩ : ∃ M44, M44 = mUI M40 a0 7 x41 := ⟨_, rfl⟩
    replace h := h M44 e45
    have hOM44 : mOk M44 := by rw [e45]; exact mOk_UI hOM40 h42
    refine pf_CA_45 rfl d_CA_compile_52 h43 h42 e45 ?_
    refine wm_iload_n d_CA_compile_55 rfl rfl ?_
    refine wm_if_ne (tgt := 93) d_CA_compile_56 rfl h12 (fun c48 => ?_) (fun c48 => ?_)
    · replace h := h.2 c48
      refine wm_iload_n d_CA_compile_93 rfl rfl ?_
      refine wm_ireturn d_CA_compile_94 rfl rfl ?_
      exact ⟨_, rfl, h⟩
    · replace c48 := Classical.not_not.mp c48
      replace h := h.1 c48
      obtain ⟨M49, e50⟩ : ∃ M49, M49 = mUR M44 a0 4 (mR M44 a0 5) := ⟨_, rfl⟩
      replace h := h M49 e50
      obtain ⟨M51, e52⟩ : ∃ M51, M51 = mUR M49 a0 5 (mR M44 a0 4) := ⟨_, rfl⟩
      replace h := h M51 e52
      obtain ⟨M53, e54⟩ : ∃ M53, M53 = mUI M51 a0 6 1 := ⟨_, rfl⟩
      replace h := h M53 e54
      obtain ⟨h55, h⟩ := h
      refine wm_aload_n d_CA_compile_59 rfl rfl ?_
      refine gf_CA_34 rfl d_CA_compile_60 (by rw [e45]; exact h43) ?_
      refine wm_astore_n d_CA_compile_63 rfl (by decide) (L' := [vr a0, vi x11, vr (mR M44 a0 4)]) rfl ?_
      refine wm_aload_n d_CA_compile_64 rfl rfl ?_
      refine wm_aload_n d_CA_compile_65 rfl rfl ?_
      refine gf_CA_38 rfl d_CA_compile_66 (by rw [e45]; exact h43) ?_
      have hOM49 : mOk M49 := by rw [e50]; exact mOk_UR hOM44
      refine pf_CA_34 rfl d_CA_compile_69 (by rw [e45]; exact h43) e50 ?_
      refine wm_aload_n d_CA_compile_72 rfl rfl ?_
      refine wm_aload_n d_CA_compile_73 rfl rfl ?_
      have hOM51 : mOk M51 := by rw [e52]; exact mOk_UR hOM49
      refine pf_CA_38 rfl d_CA_compile_74 (by rw [e50, e45]; exact h43) e52 ?_
      refine wm_aload_n d_CA_compile_77 rfl rfl ?_
      refine wm_iconst d_CA_compile_78 ?_
      have hOM53 : mOk M53 := by rw [e54]; exact mOk_UI hOM51 (m_b32 (by decide))
      refine pf_CA_41 rfl d_CA_compile_79 (by rw [e52, e50, e45]; exact h43) (by decide) e54 ?_
      refine wm_aload_n d_CA_compile_82 rfl rfl ?_
      refine gf_CA_54 rfl d_CA_compile_83 (by rw [e54, e52, e50, e45]; exact h43) ?_
      refine cf_CA_131 rfl d_CA_compile_86 h55 (Nat.le_of_ble_eq_true rfl) (Cv.mono h (fun M56 h => ?_))
      obtain ⟨hOM56, h⟩ := h
      obtain ⟨h59, h⟩ := h
      refine wm_aload_n d_CA_compile_89 rfl rfl ?_
      refine cf_CA_134 rfl d_CA_compile_90 h59 (Nat.le_of_ble_eq_true rfl) (Cv.mono h (fun M60 h => ?_))
      obtain ⟨hOM60, h⟩ := h
      refine wm_iload_n d_CA_compile_93 rfl rfl ?_
      refine wm_ireturn d_CA_compile_94 rfl rfl ?_
      exact ⟨_, rfl, h⟩
  · replace c17 := Classical.not_not.mp c17
    replace h := h.1 c17
    obtain ⟨h18, h⟩ := h
    obtain ⟨M19, e20⟩ : ∃ M19, M19 = mUI M10 a0 7 (-1) := ⟨_, rfl⟩
    replace h := h M19 e20
    refine wm_iconst d_CA_compile_41 ?_
    refine wm_goto (tgt := 52) d_CA_compile_42 rfl ?_
    have hOM19 : mOk M19 := by rw [e20]; exact mOk_UI hOM10 ⟨by decide, by decide⟩
    refine pf_CA_45 rfl d_CA_compile_52 h18 ⟨by decide, by decide⟩ e20 ?_
    refine wm_iload_n d_CA_compile_55 rfl rfl ?_
    refine wm_if_ne (tgt := 93) d_CA_compile_56 rfl h12 (fun c23 => ?_) (fun c23 => ?_)
    · replace h := h.2 c23
      refine wm_iload_n d_CA_compile_93 rfl rfl ?_
      refine wm_ireturn d_CA_compile_94 rfl rfl ?_
      exact ⟨_, rfl, h⟩
    · replace c23 := Classical.not_not.mp c23
      replace h := h.1 c23
      obtain ⟨M24, e25⟩ : ∃ M24, M24 = mUR M19 a0 4 (mR M19 a0 5) := ⟨_, rfl⟩
      replace h := h M24 e25
      obtain ⟨M26, e27⟩ : ∃ M26, M26 = mUR M24 a0 5 (mR M19 a0 4) := ⟨_, rfl⟩
      replace h := h M26 e27
      obtain ⟨M28, e29⟩ : ∃ M28, M28 = mUI M26 a0 6 1 := ⟨_, rfl⟩
      replace h := h M28 e29
      obtain ⟨h30, h⟩ := h
      refine wm_aload_n d_CA_compile_59 rfl rfl ?_
      refine gf_CA_34 rfl d_CA_compile_60 (by rw [e20]; exact h18) ?_
      refine wm_astore_n d_CA_compile_63 rfl (by decide) (L' := [vr a0, vi x11, vr (mR M19 a0 4)]) rfl ?_
      refine wm_aload_n d_CA_compile_64 rfl rfl ?_
      refine wm_aload_n d_CA_compile_65 rfl rfl ?_
      refine gf_CA_38 rfl d_CA_compile_66 (by rw [e20]; exact h18) ?_
      have hOM24 : mOk M24 := by rw [e25]; exact mOk_UR hOM19
      refine pf_CA_34 rfl d_CA_compile_69 (by rw [e20]; exact h18) e25 ?_
      refine wm_aload_n d_CA_compile_72 rfl rfl ?_
      refine wm_aload_n d_CA_compile_73 rfl rfl ?_
      have hOM26 : mOk M26 := by rw [e27]; exact mOk_UR hOM24
      refine pf_CA_38 rfl d_CA_compile_74 (by rw [e25, e20]; exact h18) e27 ?_
      refine wm_aload_n d_CA_compile_77 rfl rfl ?_
      refine wm_iconst d_CA_compile_78 ?_
      have hOM28 : mOk M28 := by rw [e29]; exact mOk_UI hOM26 (m_b32 (by decide))
      refine pf_CA_41 rfl d_CA_compile_79 (by rw [e27, e25, e20]; exact h18) (by decide) e29 ?_
      refine wm_aload_n d_CA_compile_82 rfl rfl ?_
      refine gf_CA_54 rfl d_CA_compile_83 (by rw [e29, e27, e25, e20]; exact h18) ?_
      refine cf_CA_131 rfl d_CA_compile_86 h30 (Nat.le_of_ble_eq_true rfl) (Cv.mono h (fun M31 h => ?_))
      obtain ⟨hOM31, h⟩ := h
      obtain ⟨h34, h⟩ := h
      refine wm_aload_n d_CA_compile_89 rfl rfl ?_
      refine cf_CA_134 rfl d_CA_compile_90 h34 (Nat.le_of_ble_eq_true rfl) (Cv.mono h (fun M35 h => ?_))
      obtain ⟨hOM35, h⟩ := h
      refine wm_iload_n d_CA_compile_93 rfl rfl ?_
      refine wm_ireturn d_CA_compile_94 rfl rfl ?_
      exact ⟨_, rfl, h⟩
theorem d_CA_forget_0 : decode y_CA_forget.2.1 0 = .ok (.aload_n 0, 1) := by decide +kernel
theorem d_CA_forget_1 : decode y_CA_forget.2.1 1 = .ok (.getfield 70, 3) := by decide +kernel
theorem d_CA_forget_4 : decode y_CA_forget.2.1 4 = .ok (.iconst 0, 1) := by decide +kernel
theorem d_CA_forget_5 : decode y_CA_forget.2.1 5 = .ok (.putfield 137, 3) := by decide +kernel
theorem d_CA_forget_8 : decode y_CA_forget.2.1 8 = .ok (.aload_n 0, 1) := by decide +kernel
theorem d_CA_forget_9 : decode y_CA_forget.2.1 9 = .ok (.getfield 74, 3) := by decide +kernel
theorem d_CA_forget_12 : decode y_CA_forget.2.1 12 = .ok (.iconst 0, 1) := by decide +kernel
theorem d_CA_forget_13 : decode y_CA_forget.2.1 13 = .ok (.putfield 137, 3) := by decide +kernel
theorem d_CA_forget_16 : decode y_CA_forget.2.1 16 = .ok (.aload_n 0, 1) := by decide +kernel
theorem d_CA_forget_17 : decode y_CA_forget.2.1 17 = .ok (.getfield 80, 3) := by decide +kernel
theorem d_CA_forget_20 : decode y_CA_forget.2.1 20 = .ok (.iconst 0, 1) := by decide +kernel
theorem d_CA_forget_21 : decode y_CA_forget.2.1 21 = .ok (.putfield 137, 3) := by decide +kernel
theorem d_CA_forget_24 : decode y_CA_forget.2.1 24 = .ok (.return_, 1) := by decide +kernel
theorem k_CA_forget {G : mG} {d : Nat} {a0 : Nat} {M : mM} {Q : mM → Prop} (hO : mOk M)
    (h : mK M a0 = 1 ∧ mK M (mR M a0 11) = 13 ∧ ∀ M3, M3 = mUI M (mR M a0 11) 1 0 → mK M3 (mR M3 a0 12) = 13 ∧ ∀ M6, M6 = mUI M3 (mR M3 a0 12) 1 0 → mK M6 (mR M6 a0 14) = 13 ∧ ∀ M9, M9 = mUI M6 (mR M6 a0 14) 1 0 → Q M9) :
    Cv G y_CA_forget d [vr a0] M Q := by
  refine wm_open (y := y_CA_forget) rfl (Nat.le_of_ble_eq_true rfl) (L := [vr a0]) rfl ?_
  obtain ⟨h1, h⟩ := h
  obtain ⟨h2, h⟩ := h
  obtain ⟨M3, e4⟩ : ∃ M3, M3 = mUI M (mR M a0 11) 1 0 := ⟨_, rfl⟩
  replace h := h M3 e4
  obtain ⟨h5, h⟩ := h
  obtain ⟨M6, e7⟩ : ∃ M6, M6 = mUI M3 (mR M3 a0 12) 1 0 := ⟨_, rfl⟩
  replace h := h M6 e7
  obtain ⟨h8, h⟩ := h
  obtain ⟨M9, e10⟩ : ∃ M9, M9 = mUI M6 (mR M6 a0 14) 1 0 := ⟨_, rfl⟩
  replace h := h M9 e10
  refine wm_aload_n d_CA_forget_0 rfl rfl ?_
  refine gf_CA_70 rfl d_CA_forget_1 h1 ?_
  refine wm_iconst d_CA_forget_4 ?_
  have hOM3 : mOk M3 := by rw [e4]; exact mOk_UI hO (m_b32 (by decide))
  refine pf_CA_137 rfl d_CA_forget_5 h2 (by decide) e4 ?_
  refine wm_aload_n d_CA_forget_8 rfl rfl ?_
  refine gf_CA_74 rfl d_CA_forget_9 (by rw [e4]; exact h1) ?_
  refine wm_iconst d_CA_forget_12 ?_
  have hOM6 : mOk M6 := by rw [e7]; exact mOk_UI hOM3 (m_b32 (by decide))
  refine pf_CA_137 rfl d_CA_forget_13 h5 (by decide) e7 ?_
  refine wm_aload_n d_CA_forget_16 rfl rfl ?_
  refine gf_CA_80 rfl d_CA_forget_17 (by rw [e7, e4]; exact h1) ?_
  refine wm_iconst d_CA_forget_20 ?_
  have hOM9 : mOk M9 := by rw [e10]; exact mOk_UI hOM6 (m_b32 (by decide))
  refine pf_CA_137 rfl d_CA_forget_21 h8 (by decide) e10 ?_
  refine wm_return d_CA_forget_24 rfl ?_
  exact ⟨rfl, h⟩
theorem d_CA_place_0 : decode y_CA_place.2.1 0 = .ok (.aload_n 0, 1) := by decide +kernel
theorem d_CA_place_1 : decode y_CA_place.2.1 1 = .ok (.getfield 45, 3) := by decide +kernel
theorem d_CA_place_4 : decode y_CA_place.2.1 4 = .ok (.ireturn, 1) := by decide +kernel
theorem k_CA_place {G : mG} {d : Nat} {a0 : Nat} {M : mM} {Q : Int → mM → Prop} (hO : mOk M)
    (h : mK M a0 = 1 ∧ Q (mI M a0 7) M) :
    Ci G y_CA_place d [vr a0] M Q := by
  refine wm_open (y := y_CA_place) rfl (Nat.le_of_ble_eq_true rfl) (L := [vr a0]) rfl ?_
  obtain ⟨h1, h⟩ := h
  refine wm_aload_n d_CA_place_0 rfl rfl ?_
  refine gf_CA_45 rfl d_CA_place_1 h1 ?_
  refine wm_ireturn d_CA_place_4 rfl rfl ?_
  exact ⟨_, rfl, h⟩
theorem d_CA_items_0 : decode y_CA_items.2.1 0 = .ok (.aload_n 0, 1) := by decide +kernel
theorem d_CA_items_1 : decode y_CA_items.2.1 1 = .ok (.getfield 41, 3) := by decide +kernel
theorem d_CA_items_4 : decode y_CA_items.2.1 4 = .ok (.ifCond .ne 5, 3) := by decide +kernel
theorem d_CA_items_7 : decode y_CA_items.2.1 7 = .ok (.iconst (-1), 1) := by decide +kernel
theorem d_CA_items_8 : decode y_CA_items.2.1 8 = .ok (.ireturn, 1) := by decide +kernel
theorem d_CA_items_9 : decode y_CA_items.2.1 9 = .ok (.iload_n 1, 1) := by decide +kernel
theorem d_CA_items_10 : decode y_CA_items.2.1 10 = .ok (.tableswitch 50 0 2 #[26, 34, 42], 26) := by decide +kernel
theorem d_CA_items_36 : decode y_CA_items.2.1 36 = .ok (.aload_n 0, 1) := by decide +kernel
theorem d_CA_items_37 : decode y_CA_items.2.1 37 = .ok (.getfield 34, 3) := by decide +kernel
theorem d_CA_items_40 : decode y_CA_items.2.1 40 = .ok (.getfield 140, 3) := by decide +kernel
theorem d_CA_items_43 : decode y_CA_items.2.1 43 = .ok (.ireturn, 1) := by decide +kernel
theorem d_CA_items_44 : decode y_CA_items.2.1 44 = .ok (.aload_n 0, 1) := by decide +kernel
theorem d_CA_items_45 : decode y_CA_items.2.1 45 = .ok (.getfield 34, 3) := by decide +kernel
theorem d_CA_items_48 : decode y_CA_items.2.1 48 = .ok (.getfield 143, 3) := by decide +kernel
theorem d_CA_items_51 : decode y_CA_items.2.1 51 = .ok (.ireturn, 1) := by decide +kernel
theorem d_CA_items_52 : decode y_CA_items.2.1 52 = .ok (.aload_n 0, 1) := by decide +kernel
theorem d_CA_items_53 : decode y_CA_items.2.1 53 = .ok (.getfield 34, 3) := by decide +kernel
theorem d_CA_items_56 : decode y_CA_items.2.1 56 = .ok (.getfield 146, 3) := by decide +kernel
theorem d_CA_items_59 : decode y_CA_items.2.1 59 = .ok (.ireturn, 1) := by decide +kernel
theorem d_CA_items_60 : decode y_CA_items.2.1 60 = .ok (.iconst (-1), 1) := by decide +kernel
theorem d_CA_items_61 : decode y_CA_items.2.1 61 = .ok (.ireturn, 1) := by decide +kernel
theorem k_CA_items {G : mG} {d : Nat} {a0 : Nat} {l1 : Int} {M : mM} {Q : Int → mM → Prop} (hO : mOk M) (hi_l1 : i32 l1)
    (h : mK M a0 = 1 ∧ ((mI M a0 6 = 0) → (Q (-1) M)) ∧ (¬ (mI M a0 6 = 0) → (((l1 = 0) → (mK M (mR M a0 4) = 6 ∧ Q (mI M (mR M a0 4) 3) M)) ∧ (¬ (l1 = 0) → (((l1 = 1) → (mK M (mR M a0 4) = 6 ∧ Q (mI M (mR M a0 4) 7) M)) ∧ (¬ (l1 = 1) → (((l1 = 2) → (mK M (mR M a0 4) = 6 ∧ Q (mI M (mR M a0 4) 12) M)) ∧ (¬ (l1 = 2) → (Q (-1) M))))))))) :
    Ci G y_CA_items d [vr a0, vi l1] M Q := by
  refine wm_open (y := y_CA_items) rfl (Nat.le_of_ble_eq_true rfl) (L := [vr a0, vi l1]) rfl ?_
  obtain ⟨h1, h⟩ := h
  refine wm_aload_n d_CA_items_0 rfl rfl ?_
  refine gf_CA_41 rfl d_CA_items_1 h1 ?_
  refine wm_if_ne (tgt := 9) d_CA_items_4 rfl (hO _ _).1 (fun c3 => ?_) (fun c3 => ?_)
  · replace h := h.2 c3
    refine wm_iload_n d_CA_items_9 rfl rfl ?_
    by_cases c4 : l1 = 0
    · replace h := h.1 c4
      refine wm_tableIn (tgt := 36) (off := 26) d_CA_items_10 hi_l1 (by omega) (by omega) (by rw [c4]; rfl) rfl ?_
      obtain ⟨h5, h⟩ := h
      refine wm_aload_n d_CA_items_36 rfl rfl ?_
      refine gf_CA_34 rfl d_CA_items_37 h1 ?_
      refine gf_CA_140 rfl d_CA_items_40 h5 ?_
      refine wm_ireturn d_CA_items_43 rfl rfl ?_
      exact ⟨_, rfl, h⟩
    · replace h := h.2 c4
      by_cases c6 : l1 = 1
      · replace h := h.1 c6
        refine wm_tableIn (tgt := 44) (off := 34) d_CA_items_10 hi_l1 (by omega) (by omega) (by rw [c6]; rfl) rfl ?_
        obtain ⟨h7, h⟩ := h
        refine wm_aload_n d_CA_items_44 rfl rfl ?_
        refine gf_CA_34 rfl d_CA_items_45 h1 ?_
        refine gf_CA_143 rfl d_CA_items_48 h7 ?_
        refine wm_ireturn d_CA_items_51 rfl rfl ?_
        exact ⟨_, rfl, h⟩
      · replace h := h.2 c6
        by_cases c8 : l1 = 2
        · replace h := h.1 c8
          refine wm_tableIn (tgt := 52) (off := 42) d_CA_items_10 hi_l1 (by omega) (by omega) (by rw [c8]; rfl) rfl ?_
          obtain ⟨h9, h⟩ := h
          refine wm_aload_n d_CA_items_52 rfl rfl ?_
          refine gf_CA_34 rfl d_CA_items_53 h1 ?_
          refine gf_CA_146 rfl d_CA_items_56 h9 ?_
          refine wm_ireturn d_CA_items_59 rfl rfl ?_
          exact ⟨_, rfl, h⟩
        · replace h := h.2 c8
          refine wm_tableOut (tgt := 60) d_CA_items_10 hi_l1 (by omega) rfl ?_
          refine wm_iconst d_CA_items_60 ?_
          refine wm_ireturn d_CA_items_61 rfl rfl ?_
          exact ⟨_, rfl, h⟩
  · replace c3 := Classical.not_not.mp c3
    replace h := h.1 c3
    refine wm_iconst d_CA_items_7 ?_
    refine wm_ireturn d_CA_items_8 rfl rfl ?_
    exact ⟨_, rfl, h⟩
theorem d_CA_explore_0 : decode y_CA_explore.2.1 0 = .ok (.aload_n 0, 1) := by decide +kernel
theorem d_CA_explore_1 : decode y_CA_explore.2.1 1 = .ok (.getfield 41, 3) := by decide +kernel
theorem d_CA_explore_4 : decode y_CA_explore.2.1 4 = .ok (.ifCond .ne 11, 3) := by decide +kernel
theorem d_CA_explore_15 : decode y_CA_explore.2.1 15 = .ok (.aload_n 0, 1) := by decide +kernel
theorem d_CA_explore_16 : decode y_CA_explore.2.1 16 = .ok (.invokevirtual 134, 3) := by decide +kernel
theorem d_CA_explore_19 : decode y_CA_explore.2.1 19 = .ok (.aload_n 0, 1) := by decide +kernel
theorem d_CA_explore_20 : decode y_CA_explore.2.1 20 = .ok (.getfield 54, 3) := by decide +kernel
theorem d_CA_explore_23 : decode y_CA_explore.2.1 23 = .ok (.aload_n 0, 1) := by decide +kernel
theorem d_CA_explore_24 : decode y_CA_explore.2.1 24 = .ok (.getfield 34, 3) := by decide +kernel
theorem d_CA_explore_27 : decode y_CA_explore.2.1 27 = .ok (.invokevirtual 152, 3) := by decide +kernel
theorem d_CA_explore_30 : decode y_CA_explore.2.1 30 = .ok (.istore_n 1, 1) := by decide +kernel
theorem d_CA_explore_31 : decode y_CA_explore.2.1 31 = .ok (.aload_n 0, 1) := by decide +kernel
theorem d_CA_explore_32 : decode y_CA_explore.2.1 32 = .ok (.iload_n 1, 1) := by decide +kernel
theorem d_CA_explore_33 : decode y_CA_explore.2.1 33 = .ok (.ifCond .ne 7, 3) := by decide +kernel
theorem d_CA_explore_36 : decode y_CA_explore.2.1 36 = .ok (.iconst (-1), 1) := by decide +kernel
theorem d_CA_explore_37 : decode y_CA_explore.2.1 37 = .ok (.goto 10, 3) := by decide +kernel
theorem d_CA_explore_40 : decode y_CA_explore.2.1 40 = .ok (.aload_n 0, 1) := by decide +kernel
theorem d_CA_explore_41 : decode y_CA_explore.2.1 41 = .ok (.getfield 54, 3) := by decide +kernel
theorem d_CA_explore_44 : decode y_CA_explore.2.1 44 = .ok (.getfield 156, 3) := by decide +kernel
theorem d_CA_explore_47 : decode y_CA_explore.2.1 47 = .ok (.putfield 45, 3) := by decide +kernel
theorem d_CA_explore_50 : decode y_CA_explore.2.1 50 = .ok (.aload_n 0, 1) := by decide +kernel
theorem d_CA_explore_51 : decode y_CA_explore.2.1 51 = .ok (.iload_n 1, 1) := by decide +kernel
theorem d_CA_explore_52 : decode y_CA_explore.2.1 52 = .ok (.ifCond .ne 7, 3) := by decide +kernel
theorem d_CA_explore_55 : decode y_CA_explore.2.1 55 = .ok (.iconst (-1), 1) := by decide +kernel
theorem d_CA_explore_56 : decode y_CA_explore.2.1 56 = .ok (.goto 10, 3) := by decide +kernel
theorem d_CA_explore_59 : decode y_CA_explore.2.1 59 = .ok (.aload_n 0, 1) := by decide +kernel
theorem d_CA_explore_60 : decode y_CA_explore.2.1 60 = .ok (.getfield 54, 3) := by decide +kernel
theorem d_CA_explore_63 : decode y_CA_explore.2.1 63 = .ok (.getfield 159, 3) := by decide +kernel
theorem d_CA_explore_66 : decode y_CA_explore.2.1 66 = .ok (.putfield 48, 3) := by decide +kernel
theorem d_CA_explore_69 : decode y_CA_explore.2.1 69 = .ok (.iload_n 1, 1) := by decide +kernel
theorem d_CA_explore_70 : decode y_CA_explore.2.1 70 = .ok (.ireturn, 1) := by decide +kernel
theorem k_CA_explore {G : mG} {d : Nat} {a0 : Nat} {M : mM} {Q : Int → mM → Prop} (hO : mOk M)
    (h : mK M a0 = 1 ∧ ((mI M a0 6 = 0) → (False)) ∧ (¬ (mI M a0 6 = 0) → (Cv G y_CA_forget d [vr a0] M (fun M4 => mOk M4 ∧ (mK M4 a0 = 1 ∧ mK M4 (mR M4 a0 9) = 7 ∧ Ci G y_Ga_discover d [vr (mR M4 a0 9), vr (mR M4 a0 4)] M4 (fun x10 M9 => i32 x10 ∧ mOk M9 ∧ ((¬ (x10 = 0) → (mK M9 a0 = 1 ∧ mK M9 (mR M9 a0 9) = 7)) ∧ ∀ v15 : Int, v15 = (if (x10 = 0) then (-1) else mI M9 (mR M9 a0 9) 10) → mK M9 a0 = 1 ∧ i32 v15 ∧ ∀ M20, M20 = mUI M9 a0 7 v15 → (¬ (x10 = 0) → mK M20 (mR M20 a0 9) = 7) ∧ ∀ v24 : Int, v24 = (if (x10 = 0) then (-1) else mI M20 (mR M20 a0 9) 11) → i32 v24 ∧ ∀ M28, M28 = mUI M20 a0 8 v24 → Q x10 M28))))))) :
    Ci G y_CA_explore (d + 1) [vr a0] M Q := by
  refine wm_open (y := y_CA_explore) rfl (Nat.le_of_ble_eq_true rfl) (L := [vr a0, vd]) rfl ?_
  obtain ⟨h1, h⟩ := h
  refine wm_aload_n d_CA_explore_0 rfl rfl ?_
  refine gf_CA_41 rfl d_CA_explore_1 h1 ?_
  refine wm_if_ne (tgt := 15) d_CA_explore_4 rfl (hO _ _).1 (fun c3 => ?_) (fun c3 => ?_)
  · replace h := h.2 c3
    refine wm_aload_n d_CA_explore_15 rfl rfl ?_
    refine cf_CA_134 rfl d_CA_explore_16 h1 (Nat.le_of_ble_eq_true rfl) (Cv.mono h (fun M4 h => ?_))
    obtain ⟨hOM4, h⟩ := h
    obtain ⟨h7, h⟩ := h
    obtain ⟨h8, h⟩ := h
    refine wm_aload_n d_CA_explore_19 rfl rfl ?_
    refine gf_CA_54 rfl d_CA_explore_20 h7 ?_
    refine wm_aload_n d_CA_explore_23 rfl rfl ?_
    refine gf_CA_34 rfl d_CA_explore_24 h7 ?_
    refine cf_CA_152 rfl d_CA_explore_27 h8 (Nat.le_of_ble_eq_true rfl) (Ci.mono h (fun x10 M9 h => ?_))
    obtain ⟨h11, hOM9, h⟩ := h
    refine wm_istore_n d_CA_explore_30 rfl (by decide) (L' := [vr a0, vi x10]) rfl ?_
    refine wm_aload_n d_CA_explore_31 rfl rfl ?_
    refine wm_iload_n d_CA_explore_32 rfl rfl ?_
    obtain ⟨s16, h⟩ := h
    have hJ : ∀ v15 : Int, v15 = (if (x10 = 0) then (-1) else mI M9 (mR M9 a0 9) 10) → mWm G y_CA_explore (d + 1) 47 [vr a0, vi x10] [vi v15, vr a0] M9 (fun r9 M9 => ∃ x9, r9 = some (vi x9) ∧ Q x9 M9) := by
      intro v15 e17
      have h := h v15 e17
      obtain ⟨h18, h⟩ := h
      obtain ⟨h19, h⟩ := h
      obtain ⟨M20, e21⟩ : ∃ M20, M20 = mUI M9 a0 7 v15 := ⟨_, rfl⟩
      replace h := h M20 e21
      have hOM20 : mOk M20 := by rw [e21]; exact mOk_UI hOM9 h19
      refine pf_CA_45 rfl d_CA_explore_47 h18 h19 e21 ?_
      refine wm_aload_n d_CA_explore_50 rfl rfl ?_
      refine wm_iload_n d_CA_explore_51 rfl rfl ?_
      obtain ⟨s25, h⟩ := h
      have hJ : ∀ v24 : Int, v24 = (if (x10 = 0) then (-1) else mI M20 (mR M20 a0 9) 11) → mWm G y_CA_explore (d + 1) 66 [vd, vi x10] [vi v24, vr a0] M20 (fun r9 M9 => ∃ x9, r9 = some (vi x9) ∧ Q x9 M9) := by
        intro v24 e26
        have h := h v24 e26
        obtain ⟨h27, h⟩ := h
        obtain ⟨M28, e29⟩ : ∃ M28, M28 = mUI M20 a0 8 v24 := ⟨_, rfl⟩
        replace h := h M28 e29
        have hOM28 : mOk M28 := by rw [e29]; exact mOk_UI hOM20 h27
        refine pf_CA_48 rfl d_CA_explore_66 (by rw [e21]; exact h18) h27 e29 ?_
        refine wm_iload_n d_CA_explore_69 rfl rfl ?_
        refine wm_ireturn d_CA_explore_70 rfl rfl ?_
        exact ⟨_, rfl, h⟩
      clear h
      have s30 := s25
      refine wm_if_ne (tgt := 59) d_CA_explore_52 rfl h11 (fun c22 => ?_) (fun c22 => ?_)
      · have s30 := s30 c22
        have h23 := s30
        refine wm_aload_n d_CA_explore_59 rfl rfl ?_
        refine gf_CA_54 rfl d_CA_explore_60 (by rw [e21]; exact h18) ?_
        refine gf_CA_159 rfl d_CA_explore_63 h23 ?_
        refine wm_less (L' := [vd, vi x10]) ⟨Or.inl rfl, Or.inr rfl, trivial⟩ ?_
        exact hJ (mI M20 (mR M20 a0 9) 11) (if_neg c22).symm
      · replace c22 := Classical.not_not.mp c22
        refine wm_iconst d_CA_explore_55 ?_
        refine wm_goto (tgt := 66) d_CA_explore_56 rfl ?_
        refine wm_less (L' := [vd, vi x10]) ⟨Or.inl rfl, Or.inr rfl, trivial⟩ ?_
        exact hJ (-1) (if_pos c22).symm
    clear h
    have s32 := s16
    refine wm_if_ne (tgt := 40) d_CA_explore_33 rfl h11 (fun c12 => ?_) (fun c12 => ?_)
    · have s32 := s32 c12
      obtain ⟨h13, h14⟩ := s32
      refine wm_aload_n d_CA_explore_40 rfl rfl ?_
      refine gf_CA_54 rfl d_CA_explore_41 h13 ?_
      refine gf_CA_156 rfl d_CA_explore_44 h14 ?_
      exact hJ (mI M9 (mR M9 a0 9) 10) (if_neg c12).symm
    · replace c12 := Classical.not_not.mp c12
      refine wm_iconst d_CA_explore_36 ?_
      refine wm_goto (tgt := 47) d_CA_explore_37 rfl ?_
      exact hJ (-1) (if_pos c12).symm
  · replace c3 := Classical.not_not.mp c3
    replace h := h.1 c3
    exact h.elim
theorem d_CA_state_0 : decode y_CA_state.2.1 0 = .ok (.aload_n 0, 1) := by decide +kernel
theorem d_CA_state_1 : decode y_CA_state.2.1 1 = .ok (.getfield 48, 3) := by decide +kernel
theorem d_CA_state_4 : decode y_CA_state.2.1 4 = .ok (.ireturn, 1) := by decide +kernel
theorem k_CA_state {G : mG} {d : Nat} {a0 : Nat} {M : mM} {Q : Int → mM → Prop} (hO : mOk M)
    (h : mK M a0 = 1 ∧ Q (mI M a0 8) M) :
    Ci G y_CA_state d [vr a0] M Q := by
  refine wm_open (y := y_CA_state) rfl (Nat.le_of_ble_eq_true rfl) (L := [vr a0]) rfl ?_
  obtain ⟨h1, h⟩ := h
  refine wm_aload_n d_CA_state_0 rfl rfl ?_
  refine gf_CA_48 rfl d_CA_state_1 h1 ?_
  refine wm_ireturn d_CA_state_4 rfl rfl ?_
  exact ⟨_, rfl, h⟩
theorem d_CA_states_0 : decode y_CA_states.2.1 0 = .ok (.aload_n 0, 1) := by decide +kernel
theorem d_CA_states_1 : decode y_CA_states.2.1 1 = .ok (.getfield 54, 3) := by decide +kernel
theorem d_CA_states_4 : decode y_CA_states.2.1 4 = .ok (.getfield 160, 3) := by decide +kernel
theorem d_CA_states_7 : decode y_CA_states.2.1 7 = .ok (.ireturn, 1) := by decide +kernel
theorem k_CA_states {G : mG} {d : Nat} {a0 : Nat} {M : mM} {Q : Int → mM → Prop} (hO : mOk M)
    (h : mK M a0 = 1 ∧ mK M (mR M a0 9) = 7 ∧ Q (mI M (mR M a0 9) 0) M) :
    Ci G y_CA_states d [vr a0] M Q := by
  refine wm_open (y := y_CA_states) rfl (Nat.le_of_ble_eq_true rfl) (L := [vr a0]) rfl ?_
  obtain ⟨h1, h⟩ := h
  obtain ⟨h2, h⟩ := h
  refine wm_aload_n d_CA_states_0 rfl rfl ?_
  refine gf_CA_54 rfl d_CA_states_1 h1 ?_
  refine gf_CA_160 rfl d_CA_states_4 h2 ?_
  refine wm_ireturn d_CA_states_7 rfl rfl ?_
  exact ⟨_, rfl, h⟩
theorem d_CA_variable_0 : decode y_CA_variable.2.1 0 = .ok (.aload_n 0, 1) := by decide +kernel
theorem d_CA_variable_1 : decode y_CA_variable.2.1 1 = .ok (.getfield 54, 3) := by decide +kernel
theorem d_CA_variable_4 : decode y_CA_variable.2.1 4 = .ok (.iload_n 1, 1) := by decide +kernel
theorem d_CA_variable_5 : decode y_CA_variable.2.1 5 = .ok (.invokevirtual 163, 3) := by decide +kernel
theorem d_CA_variable_8 : decode y_CA_variable.2.1 8 = .ok (.ifCond .eq 18, 3) := by decide +kernel
theorem d_CA_variable_11 : decode y_CA_variable.2.1 11 = .ok (.iload_n 2, 1) := by decide +kernel
theorem d_CA_variable_12 : decode y_CA_variable.2.1 12 = .ok (.ifCond .lt 14, 3) := by decide +kernel
theorem d_CA_variable_15 : decode y_CA_variable.2.1 15 = .ok (.iload_n 2, 1) := by decide +kernel
theorem d_CA_variable_16 : decode y_CA_variable.2.1 16 = .ok (.aload_n 0, 1) := by decide +kernel
theorem d_CA_variable_17 : decode y_CA_variable.2.1 17 = .ok (.getfield 34, 3) := by decide +kernel
theorem d_CA_variable_20 : decode y_CA_variable.2.1 20 = .ok (.getfield 140, 3) := by decide +kernel
theorem d_CA_variable_23 : decode y_CA_variable.2.1 23 = .ok (.if_icmp .lt 11, 3) := by decide +kernel
theorem d_CA_variable_34 : decode y_CA_variable.2.1 34 = .ok (.aload_n 0, 1) := by decide +kernel
theorem d_CA_variable_35 : decode y_CA_variable.2.1 35 = .ok (.getfield 54, 3) := by decide +kernel
theorem d_CA_variable_38 : decode y_CA_variable.2.1 38 = .ok (.getfield 170, 3) := by decide +kernel
theorem d_CA_variable_41 : decode y_CA_variable.2.1 41 = .ok (.iload_n 1, 1) := by decide +kernel
theorem d_CA_variable_42 : decode y_CA_variable.2.1 42 = .ok (.bipush 12, 2) := by decide +kernel
theorem d_CA_variable_44 : decode y_CA_variable.2.1 44 = .ok (.imul, 1) := by decide +kernel
theorem d_CA_variable_45 : decode y_CA_variable.2.1 45 = .ok (.iload_n 2, 1) := by decide +kernel
theorem d_CA_variable_46 : decode y_CA_variable.2.1 46 = .ok (.iadd, 1) := by decide +kernel
theorem d_CA_variable_47 : decode y_CA_variable.2.1 47 = .ok (.iaload, 1) := by decide +kernel
theorem d_CA_variable_48 : decode y_CA_variable.2.1 48 = .ok (.ireturn, 1) := by decide +kernel
theorem k_CA_variable {G : mG} {d : Nat} {a0 : Nat} {l1 : Int} {l2 : Int} {M : mM} {Q : Int → mM → Prop} (hO : mOk M) (hi_l1 : i32 l1) (hi_l2 : i32 l2)
    (h : mK M a0 = 1 ∧ mK M (mR M a0 9) = 7 ∧ Ci G y_Ga_hasState d [vr (mR M a0 9), vi l1] M (fun x4 M3 => i32 x4 ∧ mOk M3 ∧ ((¬ (x4 = 0) → (¬ (l2 < 0) → (mK M3 a0 = 1 ∧ mK M3 (mR M3 a0 4) = 6))) ∧ (((x4 = 0) ∨ ((l2 < 0) ∨ (¬ (l2 < mI M3 (mR M3 a0 4) 3)))) → (False)) ∧ (¬ ((x4 = 0) ∨ ((l2 < 0) ∨ (¬ (l2 < mI M3 (mR M3 a0 4) 3)))) → (mK M3 a0 = 1 ∧ mK M3 (mR M3 a0 9) = 7 ∧ mK M3 (mR M3 (mR M3 a0 9) 1) = 30 ∧ ((0 : Int) ≤ (l1 * 12) + l2 ∧ (l1 * 12) + l2 < (mN M3 (mR M3 (mR M3 a0 9) 1) : Int)) ∧ Q (mI M3 (mR M3 (mR M3 a0 9) 1) (Int.toNat ((l1 * 12) + l2))) M3))))) :
    Ci G y_CA_variable (d + 1) [vr a0, vi l1, vi l2] M Q := by
  refine wm_open (y := y_CA_variable) rfl (Nat.le_of_ble_eq_true rfl) (L := [vr a0, vi l1, vi l2]) rfl ?_
  obtain ⟨h1, h⟩ := h
  obtain ⟨h2, h⟩ := h
  refine wm_aload_n d_CA_variable_0 rfl rfl ?_
  refine gf_CA_54 rfl d_CA_variable_1 h1 ?_
  refine wm_iload_n d_CA_variable_4 rfl rfl ?_
  refine cf_CA_163 rfl d_CA_variable_5 h2 (Nat.le_of_ble_eq_true rfl) (Ci.mono h (fun x4 M3 h => ?_))
  obtain ⟨h5, hOM3, h⟩ := h
  obtain ⟨s14, h⟩ := h
  have hE0 : ((x4 = 0) ∨ ((l2 < 0) ∨ (¬ (l2 < mI M3 (mR M3 a0 4) 3)))) → mWm G y_CA_variable (d + 1) 26 [vr a0, vi l1, vi l2] [] M3 (fun r9 M9 => ∃ x9, r9 = some (vi x9) ∧ Q x9 M9) := by
    intro q15
    have h := h.1 q15
    exact h.elim
  have hE1 : ¬ ((x4 = 0) ∨ ((l2 < 0) ∨ (¬ (l2 < mI M3 (mR M3 a0 4) 3)))) → mWm G y_CA_variable (d + 1) 34 [vr a0, vi l1, vi l2] [] M3 (fun r9 M9 => ∃ x9, r9 = some (vi x9) ∧ Q x9 M9) := by
    intro q16
    have h := h.2 q16
    obtain ⟨h17, h⟩ := h
    obtain ⟨h18, h⟩ := h
    obtain ⟨h19, h⟩ := h
    obtain ⟨h20, h⟩ := h
    refine wm_aload_n d_CA_variable_34 rfl rfl ?_
    refine gf_CA_54 rfl d_CA_variable_35 h17 ?_
    refine gf_CA_170 rfl d_CA_variable_38 h18 ?_
    refine wm_iload_n d_CA_variable_41 rfl rfl ?_
    refine wm_bipush d_CA_variable_42 (by decide) ?_
    refine wm_imul d_CA_variable_44 ?_
    refine wm_iload_n d_CA_variable_45 rfl rfl ?_
    refine wm_iadd d_CA_variable_46 ?_
    refine wm_iald d_CA_variable_47 h19 h20 ?_
    refine wm_ireturn d_CA_variable_48 rfl rfl ?_
    exact ⟨_, rfl, h⟩
  clear h
  have s21 := s14
  refine wm_if_eq (tgt := 26) d_CA_variable_8 rfl h5 (fun c13 => ?_) (fun c13 => ?_)
  · exact hE0 (Or.inl c13)
  · have s21 := s21 c13
    have s22 := s21
    refine wm_iload_n d_CA_variable_11 rfl rfl ?_
    refine wm_if_lt (tgt := 26) d_CA_variable_12 rfl hi_l2 (fun c12 => ?_) (fun c12 => ?_)
    · exact hE0 (Or.inr (Or.inl c12))
    · have s22 := s22 c12
      obtain ⟨h6, h7⟩ := s22
      refine wm_iload_n d_CA_variable_15 rfl rfl ?_
      refine wm_aload_n d_CA_variable_16 rfl rfl ?_
      refine gf_CA_34 rfl d_CA_variable_17 h6 ?_
      refine gf_CA_140 rfl d_CA_variable_20 h7 ?_
      refine wm_icmp_lt (tgt := 34) d_CA_variable_23 rfl hi_l2 (hOM3 _ _).1 (fun c11 => ?_) (fun c11 => ?_)
      · exact hE1 (fun z23 => Or.elim z23 c13 (fun z24 => Or.elim z24 c12 (fun z25 => z25 c11)))
      · exact hE0 (Or.inr (Or.inr c11))
theorem d_CA_kind_0 : decode y_CA_kind.2.1 0 = .ok (.aload_n 0, 1) := by decide +kernel
theorem d_CA_kind_1 : decode y_CA_kind.2.1 1 = .ok (.getfield 54, 3) := by decide +kernel
theorem d_CA_kind_4 : decode y_CA_kind.2.1 4 = .ok (.iload_n 1, 1) := by decide +kernel
theorem d_CA_kind_5 : decode y_CA_kind.2.1 5 = .ok (.invokevirtual 163, 3) := by decide +kernel
theorem d_CA_kind_8 : decode y_CA_kind.2.1 8 = .ok (.ifCond .eq 15, 3) := by decide +kernel
theorem d_CA_kind_23 : decode y_CA_kind.2.1 23 = .ok (.iconst (-1), 1) := by decide +kernel
theorem d_CA_kind_11 : decode y_CA_kind.2.1 11 = .ok (.aload_n 0, 1) := by decide +kernel
theorem d_CA_kind_12 : decode y_CA_kind.2.1 12 = .ok (.getfield 54, 3) := by decide +kernel
theorem d_CA_kind_15 : decode y_CA_kind.2.1 15 = .ok (.getfield 174, 3) := by decide +kernel
theorem d_CA_kind_18 : decode y_CA_kind.2.1 18 = .ok (.iload_n 1, 1) := by decide +kernel
theorem d_CA_kind_19 : decode y_CA_kind.2.1 19 = .ok (.iaload, 1) := by decide +kernel
theorem d_CA_kind_20 : decode y_CA_kind.2.1 20 = .ok (.goto 4, 3) := by decide +kernel
theorem d_CA_kind_24 : decode y_CA_kind.2.1 24 = .ok (.ireturn, 1) := by decide +kernel
theorem k_CA_kind {G : mG} {d : Nat} {a0 : Nat} {l1 : Int} {M : mM} {Q : Int → mM → Prop} (hO : mOk M) (hi_l1 : i32 l1)
    (h : mK M a0 = 1 ∧ mK M (mR M a0 9) = 7 ∧ Ci G y_Ga_hasState d [vr (mR M a0 9), vi l1] M (fun x4 M3 => i32 x4 ∧ mOk M3 ∧ ((¬ (x4 = 0) → (mK M3 a0 = 1 ∧ mK M3 (mR M3 a0 9) = 7 ∧ mK M3 (mR M3 (mR M3 a0 9) 2) = 30 ∧ ((0 : Int) ≤ l1 ∧ l1 < (mN M3 (mR M3 (mR M3 a0 9) 2) : Int)))) ∧ ∀ v11 : Int, v11 = (if (x4 = 0) then (-1) else mI M3 (mR M3 (mR M3 a0 9) 2) (Int.toNat l1)) → Q v11 M3))) :
    Ci G y_CA_kind (d + 1) [vr a0, vi l1] M Q := by
  refine wm_open (y := y_CA_kind) rfl (Nat.le_of_ble_eq_true rfl) (L := [vr a0, vi l1]) rfl ?_
  obtain ⟨h1, h⟩ := h
  obtain ⟨h2, h⟩ := h
  refine wm_aload_n d_CA_kind_0 rfl rfl ?_
  refine gf_CA_54 rfl d_CA_kind_1 h1 ?_
  refine wm_iload_n d_CA_kind_4 rfl rfl ?_
  refine cf_CA_163 rfl d_CA_kind_5 h2 (Nat.le_of_ble_eq_true rfl) (Ci.mono h (fun x4 M3 h => ?_))
  obtain ⟨h5, hOM3, h⟩ := h
  obtain ⟨s12, h⟩ := h
  have hJ : ∀ v11 : Int, v11 = (if (x4 = 0) then (-1) else mI M3 (mR M3 (mR M3 a0 9) 2) (Int.toNat l1)) → mWm G y_CA_kind (d + 1) 24 [vd, vd] [vi v11] M3 (fun r9 M9 => ∃ x9, r9 = some (vi x9) ∧ Q x9 M9) := by
    intro v11 e13
    have h := h v11 e13
    refine wm_ireturn d_CA_kind_24 rfl rfl ?_
    exact ⟨_, rfl, h⟩
  clear h
  have s14 := s12
  refine wm_if_eq (tgt := 23) d_CA_kind_8 rfl h5 (fun c6 => ?_) (fun c6 => ?_)
  · refine wm_iconst d_CA_kind_23 ?_
    refine wm_less (L' := [vd, vd]) ⟨Or.inl rfl, Or.inl rfl, trivial⟩ ?_
    exact hJ (-1) (if_pos c6).symm
  · have s14 := s14 c6
    obtain ⟨h7, h8, h9, h10⟩ := s14
    refine wm_aload_n d_CA_kind_11 rfl rfl ?_
    refine gf_CA_54 rfl d_CA_kind_12 h7 ?_
    refine gf_CA_174 rfl d_CA_kind_15 h8 ?_
    refine wm_iload_n d_CA_kind_18 rfl rfl ?_
    refine wm_iald d_CA_kind_19 h9 h10 ?_
    refine wm_goto (tgt := 24) d_CA_kind_20 rfl ?_
    refine wm_less (L' := [vd, vd]) ⟨Or.inl rfl, Or.inl rfl, trivial⟩ ?_
    exact hJ (mI M3 (mR M3 (mR M3 a0 9) 2) (Int.toNat l1)) (if_neg c6).symm
theorem d_CA_commands_0 : decode y_CA_commands.2.1 0 = .ok (.aload_n 0, 1) := by decide +kernel
theorem d_CA_commands_1 : decode y_CA_commands.2.1 1 = .ok (.getfield 54, 3) := by decide +kernel
theorem d_CA_commands_4 : decode y_CA_commands.2.1 4 = .ok (.iload_n 1, 1) := by decide +kernel
theorem d_CA_commands_5 : decode y_CA_commands.2.1 5 = .ok (.invokevirtual 163, 3) := by decide +kernel
theorem d_CA_commands_8 : decode y_CA_commands.2.1 8 = .ok (.ifCond .eq 27, 3) := by decide +kernel
theorem d_CA_commands_35 : decode y_CA_commands.2.1 35 = .ok (.iconst (-1), 1) := by decide +kernel
theorem d_CA_commands_11 : decode y_CA_commands.2.1 11 = .ok (.aload_n 0, 1) := by decide +kernel
theorem d_CA_commands_12 : decode y_CA_commands.2.1 12 = .ok (.getfield 54, 3) := by decide +kernel
theorem d_CA_commands_15 : decode y_CA_commands.2.1 15 = .ok (.getfield 177, 3) := by decide +kernel
theorem d_CA_commands_18 : decode y_CA_commands.2.1 18 = .ok (.iload_n 1, 1) := by decide +kernel
theorem d_CA_commands_19 : decode y_CA_commands.2.1 19 = .ok (.iconst 1, 1) := by decide +kernel
theorem d_CA_commands_20 : decode y_CA_commands.2.1 20 = .ok (.iadd, 1) := by decide +kernel
theorem d_CA_commands_21 : decode y_CA_commands.2.1 21 = .ok (.iaload, 1) := by decide +kernel
theorem d_CA_commands_22 : decode y_CA_commands.2.1 22 = .ok (.aload_n 0, 1) := by decide +kernel
theorem d_CA_commands_23 : decode y_CA_commands.2.1 23 = .ok (.getfield 54, 3) := by decide +kernel
theorem d_CA_commands_26 : decode y_CA_commands.2.1 26 = .ok (.getfield 177, 3) := by decide +kernel
theorem d_CA_commands_29 : decode y_CA_commands.2.1 29 = .ok (.iload_n 1, 1) := by decide +kernel
theorem d_CA_commands_30 : decode y_CA_commands.2.1 30 = .ok (.iaload, 1) := by decide +kernel
theorem d_CA_commands_31 : decode y_CA_commands.2.1 31 = .ok (.isub, 1) := by decide +kernel
theorem d_CA_commands_32 : decode y_CA_commands.2.1 32 = .ok (.goto 4, 3) := by decide +kernel
theorem d_CA_commands_36 : decode y_CA_commands.2.1 36 = .ok (.ireturn, 1) := by decide +kernel
theorem k_CA_commands {G : mG} {d : Nat} {a0 : Nat} {l1 : Int} {M : mM} {Q : Int → mM → Prop} (hO : mOk M) (hi_l1 : i32 l1)
    (h : mK M a0 = 1 ∧ mK M (mR M a0 9) = 7 ∧ Ci G y_Ga_hasState d [vr (mR M a0 9), vi l1] M (fun x4 M3 => i32 x4 ∧ mOk M3 ∧ ((¬ (x4 = 0) → (mK M3 a0 = 1 ∧ mK M3 (mR M3 a0 9) = 7 ∧ mK M3 (mR M3 (mR M3 a0 9) 4) = 30 ∧ ((0 : Int) ≤ l1 + 1 ∧ l1 + 1 < (mN M3 (mR M3 (mR M3 a0 9) 4) : Int)) ∧ ((0 : Int) ≤ l1 ∧ l1 < (mN M3 (mR M3 (mR M3 a0 9) 4) : Int)))) ∧ ∀ v12 : Int, v12 = (if (x4 = 0) then (-1) else (mI M3 (mR M3 (mR M3 a0 9) 4) (Int.toNat (l1 + 1))) - (mI M3 (mR M3 (mR M3 a0 9) 4) (Int.toNat l1))) → Q v12 M3))) :
    Ci G y_CA_commands (d + 1) [vr a0, vi l1] M Q := by
  refine wm_open (y := y_CA_commands) rfl (Nat.le_of_ble_eq_true rfl) (L := [vr a0, vi l1]) rfl ?_
  obtain ⟨h1, h⟩ := h
  obtain ⟨h2, h⟩ := h
  refine wm_aload_n d_CA_commands_0 rfl rfl ?_
  refine gf_CA_54 rfl d_CA_commands_1 h1 ?_
  refine wm_iload_n d_CA_commands_4 rfl rfl ?_
  refine cf_CA_163 rfl d_CA_commands_5 h2 (Nat.le_of_ble_eq_true rfl) (Ci.mono h (fun x4 M3 h => ?_))
  obtain ⟨h5, hOM3, h⟩ := h
  obtain ⟨s13, h⟩ := h
  have hJ : ∀ v12 : Int, v12 = (if (x4 = 0) then (-1) else (mI M3 (mR M3 (mR M3 a0 9) 4) (Int.toNat (l1 + 1))) - (mI M3 (mR M3 (mR M3 a0 9) 4) (Int.toNat l1))) → mWm G y_CA_commands (d + 1) 36 [vd, vd] [vi v12] M3 (fun r9 M9 => ∃ x9, r9 = some (vi x9) ∧ Q x9 M9) := by
    intro v12 e14
    have h := h v12 e14
    refine wm_ireturn d_CA_commands_36 rfl rfl ?_
    exact ⟨_, rfl, h⟩
  clear h
  have s15 := s13
  refine wm_if_eq (tgt := 35) d_CA_commands_8 rfl h5 (fun c6 => ?_) (fun c6 => ?_)
  · refine wm_iconst d_CA_commands_35 ?_
    refine wm_less (L' := [vd, vd]) ⟨Or.inl rfl, Or.inl rfl, trivial⟩ ?_
    exact hJ (-1) (if_pos c6).symm
  · have s15 := s15 c6
    obtain ⟨h7, h8, h9, h10, h11⟩ := s15
    refine wm_aload_n d_CA_commands_11 rfl rfl ?_
    refine gf_CA_54 rfl d_CA_commands_12 h7 ?_
    refine gf_CA_177 rfl d_CA_commands_15 h8 ?_
    refine wm_iload_n d_CA_commands_18 rfl rfl ?_
    refine wm_iconst d_CA_commands_19 ?_
    refine wm_iadd d_CA_commands_20 ?_
    refine wm_iald d_CA_commands_21 h9 h10 ?_
    refine wm_aload_n d_CA_commands_22 rfl rfl ?_
    refine gf_CA_54 rfl d_CA_commands_23 h7 ?_
    refine gf_CA_177 rfl d_CA_commands_26 h8 ?_
    refine wm_iload_n d_CA_commands_29 rfl rfl ?_
    refine wm_iald d_CA_commands_30 h9 h11 ?_
    refine wm_isub d_CA_commands_31 ?_
    refine wm_goto (tgt := 36) d_CA_commands_32 rfl ?_
    refine wm_less (L' := [vd, vd]) ⟨Or.inl rfl, Or.inl rfl, trivial⟩ ?_
    exact hJ ((mI M3 (mR M3 (mR M3 a0 9) 4) (Int.toNat (l1 + 1))) - (mI M3 (mR M3 (mR M3 a0 9) 4) (Int.toNat l1))) (if_neg c6).symm
theorem d_CA_command_0 : decode y_CA_command.2.1 0 = .ok (.aload_n 0, 1) := by decide +kernel
theorem d_CA_command_1 : decode y_CA_command.2.1 1 = .ok (.getfield 54, 3) := by decide +kernel
theorem d_CA_command_4 : decode y_CA_command.2.1 4 = .ok (.iload_n 1, 1) := by decide +kernel
theorem d_CA_command_5 : decode y_CA_command.2.1 5 = .ok (.iload_n 2, 1) := by decide +kernel
theorem d_CA_command_6 : decode y_CA_command.2.1 6 = .ok (.invokevirtual 180, 3) := by decide +kernel
theorem d_CA_command_9 : decode y_CA_command.2.1 9 = .ok (.istore_n 3, 1) := by decide +kernel
theorem d_CA_command_10 : decode y_CA_command.2.1 10 = .ok (.iload_n 3, 1) := by decide +kernel
theorem d_CA_command_11 : decode y_CA_command.2.1 11 = .ok (.iconst (-1), 1) := by decide +kernel
theorem d_CA_command_12 : decode y_CA_command.2.1 12 = .ok (.if_icmp .ne 7, 3) := by decide +kernel
theorem d_CA_command_15 : decode y_CA_command.2.1 15 = .ok (.iconst (-1), 1) := by decide +kernel
theorem d_CA_command_16 : decode y_CA_command.2.1 16 = .ok (.goto 12, 3) := by decide +kernel
theorem d_CA_command_19 : decode y_CA_command.2.1 19 = .ok (.aload_n 0, 1) := by decide +kernel
theorem d_CA_command_20 : decode y_CA_command.2.1 20 = .ok (.getfield 54, 3) := by decide +kernel
theorem d_CA_command_23 : decode y_CA_command.2.1 23 = .ok (.getfield 184, 3) := by decide +kernel
theorem d_CA_command_26 : decode y_CA_command.2.1 26 = .ok (.iload_n 3, 1) := by decide +kernel
theorem d_CA_command_27 : decode y_CA_command.2.1 27 = .ok (.iaload, 1) := by decide +kernel
theorem d_CA_command_28 : decode y_CA_command.2.1 28 = .ok (.ireturn, 1) := by decide +kernel
theorem k_CA_command {G : mG} {d : Nat} {a0 : Nat} {l1 : Int} {l2 : Int} {M : mM} {Q : Int → mM → Prop} (hO : mOk M) (hi_l1 : i32 l1) (hi_l2 : i32 l2)
    (h : mK M a0 = 1 ∧ mK M (mR M a0 9) = 7 ∧ Ci G y_Ga_commandAt d [vr (mR M a0 9), vi l1, vi l2] M (fun x4 M3 => i32 x4 ∧ mOk M3 ∧ ((¬ (x4 = (-1)) → (mK M3 a0 = 1 ∧ mK M3 (mR M3 a0 9) = 7 ∧ mK M3 (mR M3 (mR M3 a0 9) 5) = 30 ∧ ((0 : Int) ≤ x4 ∧ x4 < (mN M3 (mR M3 (mR M3 a0 9) 5) : Int)))) ∧ ∀ v11 : Int, v11 = (if (x4 = (-1)) then (-1) else mI M3 (mR M3 (mR M3 a0 9) 5) (Int.toNat x4)) → Q v11 M3))) :
    Ci G y_CA_command (d + 1) [vr a0, vi l1, vi l2] M Q := by
  refine wm_open (y := y_CA_command) rfl (Nat.le_of_ble_eq_true rfl) (L := [vr a0, vi l1, vi l2, vd]) rfl ?_
  obtain ⟨h1, h⟩ := h
  obtain ⟨h2, h⟩ := h
  refine wm_aload_n d_CA_command_0 rfl rfl ?_
  refine gf_CA_54 rfl d_CA_command_1 h1 ?_
  refine wm_iload_n d_CA_command_4 rfl rfl ?_
  refine wm_iload_n d_CA_command_5 rfl rfl ?_
  refine cf_CA_180 rfl d_CA_command_6 h2 (Nat.le_of_ble_eq_true rfl) (Ci.mono h (fun x4 M3 h => ?_))
  obtain ⟨h5, hOM3, h⟩ := h
  refine wm_istore_n d_CA_command_9 rfl (by decide) (L' := [vr a0, vi l1, vi l2, vi x4]) rfl ?_
  refine wm_iload_n d_CA_command_10 rfl rfl ?_
  refine wm_iconst d_CA_command_11 ?_
  obtain ⟨s12, h⟩ := h
  have hJ : ∀ v11 : Int, v11 = (if (x4 = (-1)) then (-1) else mI M3 (mR M3 (mR M3 a0 9) 5) (Int.toNat x4)) → mWm G y_CA_command (d + 1) 28 [vd, vd, vd, vd] [vi v11] M3 (fun r9 M9 => ∃ x9, r9 = some (vi x9) ∧ Q x9 M9) := by
    intro v11 e13
    have h := h v11 e13
    refine wm_ireturn d_CA_command_28 rfl rfl ?_
    exact ⟨_, rfl, h⟩
  clear h
  have s14 := s12
  refine wm_icmp_ne (tgt := 19) d_CA_command_12 rfl h5 ⟨by decide, by decide⟩ (fun c6 => ?_) (fun c6 => ?_)
  · have s14 := s14 c6
    obtain ⟨h7, h8, h9, h10⟩ := s14
    refine wm_aload_n d_CA_command_19 rfl rfl ?_
    refine gf_CA_54 rfl d_CA_command_20 h7 ?_
    refine gf_CA_184 rfl d_CA_command_23 h8 ?_
    refine wm_iload_n d_CA_command_26 rfl rfl ?_
    refine wm_iald d_CA_command_27 h9 h10 ?_
    refine wm_less (L' := [vd, vd, vd, vd]) ⟨Or.inl rfl, Or.inl rfl, Or.inl rfl, Or.inl rfl, trivial⟩ ?_
    exact hJ (mI M3 (mR M3 (mR M3 a0 9) 5) (Int.toNat x4)) (if_neg c6).symm
  · replace c6 := Classical.not_not.mp c6
    refine wm_iconst d_CA_command_15 ?_
    refine wm_goto (tgt := 28) d_CA_command_16 rfl ?_
    refine wm_less (L' := [vd, vd, vd, vd]) ⟨Or.inl rfl, Or.inl rfl, Or.inl rfl, Or.inl rfl, trivial⟩ ?_
    exact hJ (-1) (if_pos c6).symm
theorem d_CA_branches_0 : decode y_CA_branches.2.1 0 = .ok (.aload_n 0, 1) := by decide +kernel
theorem d_CA_branches_1 : decode y_CA_branches.2.1 1 = .ok (.getfield 54, 3) := by decide +kernel
theorem d_CA_branches_4 : decode y_CA_branches.2.1 4 = .ok (.iload_n 1, 1) := by decide +kernel
theorem d_CA_branches_5 : decode y_CA_branches.2.1 5 = .ok (.iload_n 2, 1) := by decide +kernel
theorem d_CA_branches_6 : decode y_CA_branches.2.1 6 = .ok (.invokevirtual 180, 3) := by decide +kernel
theorem d_CA_branches_9 : decode y_CA_branches.2.1 9 = .ok (.istore_n 3, 1) := by decide +kernel
theorem d_CA_branches_10 : decode y_CA_branches.2.1 10 = .ok (.iload_n 3, 1) := by decide +kernel
theorem d_CA_branches_11 : decode y_CA_branches.2.1 11 = .ok (.iconst (-1), 1) := by decide +kernel
theorem d_CA_branches_12 : decode y_CA_branches.2.1 12 = .ok (.if_icmp .ne 7, 3) := by decide +kernel
theorem d_CA_branches_15 : decode y_CA_branches.2.1 15 = .ok (.iconst (-1), 1) := by decide +kernel
theorem d_CA_branches_16 : decode y_CA_branches.2.1 16 = .ok (.goto 24, 3) := by decide +kernel
theorem d_CA_branches_19 : decode y_CA_branches.2.1 19 = .ok (.aload_n 0, 1) := by decide +kernel
theorem d_CA_branches_20 : decode y_CA_branches.2.1 20 = .ok (.getfield 54, 3) := by decide +kernel
theorem d_CA_branches_23 : decode y_CA_branches.2.1 23 = .ok (.getfield 187, 3) := by decide +kernel
theorem d_CA_branches_26 : decode y_CA_branches.2.1 26 = .ok (.iload_n 3, 1) := by decide +kernel
theorem d_CA_branches_27 : decode y_CA_branches.2.1 27 = .ok (.iconst 1, 1) := by decide +kernel
theorem d_CA_branches_28 : decode y_CA_branches.2.1 28 = .ok (.iadd, 1) := by decide +kernel
theorem d_CA_branches_29 : decode y_CA_branches.2.1 29 = .ok (.iaload, 1) := by decide +kernel
theorem d_CA_branches_30 : decode y_CA_branches.2.1 30 = .ok (.aload_n 0, 1) := by decide +kernel
theorem d_CA_branches_31 : decode y_CA_branches.2.1 31 = .ok (.getfield 54, 3) := by decide +kernel
theorem d_CA_branches_34 : decode y_CA_branches.2.1 34 = .ok (.getfield 187, 3) := by decide +kernel
theorem d_CA_branches_37 : decode y_CA_branches.2.1 37 = .ok (.iload_n 3, 1) := by decide +kernel
theorem d_CA_branches_38 : decode y_CA_branches.2.1 38 = .ok (.iaload, 1) := by decide +kernel
theorem d_CA_branches_39 : decode y_CA_branches.2.1 39 = .ok (.isub, 1) := by decide +kernel
theorem d_CA_branches_40 : decode y_CA_branches.2.1 40 = .ok (.ireturn, 1) := by decide +kernel
theorem k_CA_branches {G : mG} {d : Nat} {a0 : Nat} {l1 : Int} {l2 : Int} {M : mM} {Q : Int → mM → Prop} (hO : mOk M) (hi_l1 : i32 l1) (hi_l2 : i32 l2)
    (h : mK M a0 = 1 ∧ mK M (mR M a0 9) = 7 ∧ Ci G y_Ga_commandAt d [vr (mR M a0 9), vi l1, vi l2] M (fun x4 M3 => i32 x4 ∧ mOk M3 ∧ ((¬ (x4 = (-1)) → (mK M3 a0 = 1 ∧ mK M3 (mR M3 a0 9) = 7 ∧ mK M3 (mR M3 (mR M3 a0 9) 7) = 30 ∧ ((0 : Int) ≤ x4 + 1 ∧ x4 + 1 < (mN M3 (mR M3 (mR M3 a0 9) 7) : Int)) ∧ ((0 : Int) ≤ x4 ∧ x4 < (mN M3 (mR M3 (mR M3 a0 9) 7) : Int)))) ∧ ∀ v12 : Int, v12 = (if (x4 = (-1)) then (-1) else (mI M3 (mR M3 (mR M3 a0 9) 7) (Int.toNat (x4 + 1))) - (mI M3 (mR M3 (mR M3 a0 9) 7) (Int.toNat x4))) → Q v12 M3))) :
    Ci G y_CA_branches (d + 1) [vr a0, vi l1, vi l2] M Q := by
  refine wm_open (y := y_CA_branches) rfl (Nat.le_of_ble_eq_true rfl) (L := [vr a0, vi l1, vi l2, vd]) rfl ?_
  obtain ⟨h1, h⟩ := h
  obtain ⟨h2, h⟩ := h
  refine wm_aload_n d_CA_branches_0 rfl rfl ?_
  refine gf_CA_54 rfl d_CA_branches_1 h1 ?_
  refine wm_iload_n d_CA_branches_4 rfl rfl ?_
  refine wm_iload_n d_CA_branches_5 rfl rfl ?_
  refine cf_CA_180 rfl d_CA_branches_6 h2 (Nat.le_of_ble_eq_true rfl) (Ci.mono h (fun x4 M3 h => ?_))
  obtain ⟨h5, hOM3, h⟩ := h
  refine wm_istore_n d_CA_branches_9 rfl (by decide) (L' := [vr a0, vi l1, vi l2, vi x4]) rfl ?_
  refine wm_iload_n d_CA_branches_10 rfl rfl ?_
  refine wm_iconst d_CA_branches_11 ?_
  obtain ⟨s13, h⟩ := h
  have hJ : ∀ v12 : Int, v12 = (if (x4 = (-1)) then (-1) else (mI M3 (mR M3 (mR M3 a0 9) 7) (Int.toNat (x4 + 1))) - (mI M3 (mR M3 (mR M3 a0 9) 7) (Int.toNat x4))) → mWm G y_CA_branches (d + 1) 40 [vd, vd, vd, vd] [vi v12] M3 (fun r9 M9 => ∃ x9, r9 = some (vi x9) ∧ Q x9 M9) := by
    intro v12 e14
    have h := h v12 e14
    refine wm_ireturn d_CA_branches_40 rfl rfl ?_
    exact ⟨_, rfl, h⟩
  clear h
  have s15 := s13
  refine wm_icmp_ne (tgt := 19) d_CA_branches_12 rfl h5 ⟨by decide, by decide⟩ (fun c6 => ?_) (fun c6 => ?_)
  · have s15 := s15 c6
    obtain ⟨h7, h8, h9, h10, h11⟩ := s15
    refine wm_aload_n d_CA_branches_19 rfl rfl ?_
    refine gf_CA_54 rfl d_CA_branches_20 h7 ?_
    refine gf_CA_187 rfl d_CA_branches_23 h8 ?_
    refine wm_iload_n d_CA_branches_26 rfl rfl ?_
    refine wm_iconst d_CA_branches_27 ?_
    refine wm_iadd d_CA_branches_28 ?_
    refine wm_iald d_CA_branches_29 h9 h10 ?_
    refine wm_aload_n d_CA_branches_30 rfl rfl ?_
    refine gf_CA_54 rfl d_CA_branches_31 h7 ?_
    refine gf_CA_187 rfl d_CA_branches_34 h8 ?_
    refine wm_iload_n d_CA_branches_37 rfl rfl ?_
    refine wm_iald d_CA_branches_38 h9 h11 ?_
    refine wm_isub d_CA_branches_39 ?_
    refine wm_less (L' := [vd, vd, vd, vd]) ⟨Or.inl rfl, Or.inl rfl, Or.inl rfl, Or.inl rfl, trivial⟩ ?_
    exact hJ ((mI M3 (mR M3 (mR M3 a0 9) 7) (Int.toNat (x4 + 1))) - (mI M3 (mR M3 (mR M3 a0 9) 7) (Int.toNat x4))) (if_neg c6).symm
  · replace c6 := Classical.not_not.mp c6
    refine wm_iconst d_CA_branches_15 ?_
    refine wm_goto (tgt := 40) d_CA_branches_16 rfl ?_
    refine wm_less (L' := [vd, vd, vd, vd]) ⟨Or.inl rfl, Or.inl rfl, Or.inl rfl, Or.inl rfl, trivial⟩ ?_
    exact hJ (-1) (if_pos c6).symm
theorem d_CA_branch_0 : decode y_CA_branch.2.1 0 = .ok (.aload_n 0, 1) := by decide +kernel
theorem d_CA_branch_1 : decode y_CA_branch.2.1 1 = .ok (.getfield 54, 3) := by decide +kernel
theorem d_CA_branch_4 : decode y_CA_branch.2.1 4 = .ok (.iload_n 1, 1) := by decide +kernel
theorem d_CA_branch_5 : decode y_CA_branch.2.1 5 = .ok (.iload_n 2, 1) := by decide +kernel
theorem d_CA_branch_6 : decode y_CA_branch.2.1 6 = .ok (.invokevirtual 180, 3) := by decide +kernel
theorem d_CA_branch_9 : decode y_CA_branch.2.1 9 = .ok (.istore 5, 2) := by decide +kernel
theorem d_CA_branch_11 : decode y_CA_branch.2.1 11 = .ok (.iload 5, 2) := by decide +kernel
theorem d_CA_branch_13 : decode y_CA_branch.2.1 13 = .ok (.iconst (-1), 1) := by decide +kernel
theorem d_CA_branch_14 : decode y_CA_branch.2.1 14 = .ok (.if_icmp .eq 34, 3) := by decide +kernel
theorem d_CA_branch_17 : decode y_CA_branch.2.1 17 = .ok (.iload_n 3, 1) := by decide +kernel
theorem d_CA_branch_18 : decode y_CA_branch.2.1 18 = .ok (.ifCond .lt 30, 3) := by decide +kernel
theorem d_CA_branch_21 : decode y_CA_branch.2.1 21 = .ok (.iload_n 3, 1) := by decide +kernel
theorem d_CA_branch_22 : decode y_CA_branch.2.1 22 = .ok (.aload_n 0, 1) := by decide +kernel
theorem d_CA_branch_23 : decode y_CA_branch.2.1 23 = .ok (.getfield 54, 3) := by decide +kernel
theorem d_CA_branch_26 : decode y_CA_branch.2.1 26 = .ok (.getfield 187, 3) := by decide +kernel
theorem d_CA_branch_29 : decode y_CA_branch.2.1 29 = .ok (.iload 5, 2) := by decide +kernel
theorem d_CA_branch_31 : decode y_CA_branch.2.1 31 = .ok (.iconst 1, 1) := by decide +kernel
theorem d_CA_branch_32 : decode y_CA_branch.2.1 32 = .ok (.iadd, 1) := by decide +kernel
theorem d_CA_branch_33 : decode y_CA_branch.2.1 33 = .ok (.iaload, 1) := by decide +kernel
theorem d_CA_branch_34 : decode y_CA_branch.2.1 34 = .ok (.aload_n 0, 1) := by decide +kernel
theorem d_CA_branch_35 : decode y_CA_branch.2.1 35 = .ok (.getfield 54, 3) := by decide +kernel
theorem d_CA_branch_38 : decode y_CA_branch.2.1 38 = .ok (.getfield 187, 3) := by decide +kernel
theorem d_CA_branch_41 : decode y_CA_branch.2.1 41 = .ok (.iload 5, 2) := by decide +kernel
theorem d_CA_branch_43 : decode y_CA_branch.2.1 43 = .ok (.iaload, 1) := by decide +kernel
theorem d_CA_branch_44 : decode y_CA_branch.2.1 44 = .ok (.isub, 1) := by decide +kernel
theorem d_CA_branch_45 : decode y_CA_branch.2.1 45 = .ok (.if_icmp .lt 5, 3) := by decide +kernel
theorem d_CA_branch_50 : decode y_CA_branch.2.1 50 = .ok (.aload_n 0, 1) := by decide +kernel
theorem d_CA_branch_51 : decode y_CA_branch.2.1 51 = .ok (.getfield 54, 3) := by decide +kernel
theorem d_CA_branch_54 : decode y_CA_branch.2.1 54 = .ok (.getfield 187, 3) := by decide +kernel
theorem d_CA_branch_57 : decode y_CA_branch.2.1 57 = .ok (.iload 5, 2) := by decide +kernel
theorem d_CA_branch_59 : decode y_CA_branch.2.1 59 = .ok (.iaload, 1) := by decide +kernel
theorem d_CA_branch_60 : decode y_CA_branch.2.1 60 = .ok (.iload_n 3, 1) := by decide +kernel
theorem d_CA_branch_61 : decode y_CA_branch.2.1 61 = .ok (.iadd, 1) := by decide +kernel
theorem d_CA_branch_62 : decode y_CA_branch.2.1 62 = .ok (.istore 6, 2) := by decide +kernel
theorem d_CA_branch_64 : decode y_CA_branch.2.1 64 = .ok (.aload_n 0, 1) := by decide +kernel
theorem d_CA_branch_65 : decode y_CA_branch.2.1 65 = .ok (.getfield 54, 3) := by decide +kernel
theorem d_CA_branch_68 : decode y_CA_branch.2.1 68 = .ok (.getfield 190, 3) := by decide +kernel
theorem d_CA_branch_71 : decode y_CA_branch.2.1 71 = .ok (.iload 6, 2) := by decide +kernel
theorem d_CA_branch_73 : decode y_CA_branch.2.1 73 = .ok (.iaload, 1) := by decide +kernel
theorem d_CA_branch_74 : decode y_CA_branch.2.1 74 = .ok (.i2l, 1) := by decide +kernel
theorem d_CA_branch_75 : decode y_CA_branch.2.1 75 = .ok (.aload_n 0, 1) := by decide +kernel
theorem d_CA_branch_76 : decode y_CA_branch.2.1 76 = .ok (.getfield 54, 3) := by decide +kernel
theorem d_CA_branch_79 : decode y_CA_branch.2.1 79 = .ok (.getfield 193, 3) := by decide +kernel
theorem d_CA_branch_82 : decode y_CA_branch.2.1 82 = .ok (.iload 5, 2) := by decide +kernel
theorem d_CA_branch_84 : decode y_CA_branch.2.1 84 = .ok (.iaload, 1) := by decide +kernel
theorem d_CA_branch_85 : decode y_CA_branch.2.1 85 = .ok (.i2l, 1) := by decide +kernel
theorem d_CA_branch_48 : decode y_CA_branch.2.1 48 = .ok (.iconst (-1), 1) := by decide +kernel
theorem d_CA_branch_49 : decode y_CA_branch.2.1 49 = .ok (.ireturn, 1) := by decide +kernel
theorem d_CA_branch_86 : decode y_CA_branch.2.1 86 = .ok (.invokestatic 196, 3) := by decide +kernel
theorem d_CA_branch_89 : decode y_CA_branch.2.1 89 = .ok (.l2i, 1) := by decide +kernel
theorem d_CA_branch_90 : decode y_CA_branch.2.1 90 = .ok (.istore 7, 2) := by decide +kernel
theorem d_CA_branch_92 : decode y_CA_branch.2.1 92 = .ok (.iload 4, 2) := by decide +kernel
theorem d_CA_branch_94 : decode y_CA_branch.2.1 94 = .ok (.tableswitch 65 0 2 #[26, 37, 51], 26) := by decide +kernel
theorem d_CA_branch_120 : decode y_CA_branch.2.1 120 = .ok (.aload_n 0, 1) := by decide +kernel
theorem d_CA_branch_121 : decode y_CA_branch.2.1 121 = .ok (.getfield 54, 3) := by decide +kernel
theorem d_CA_branch_124 : decode y_CA_branch.2.1 124 = .ok (.getfield 202, 3) := by decide +kernel
theorem d_CA_branch_127 : decode y_CA_branch.2.1 127 = .ok (.iload 6, 2) := by decide +kernel
theorem d_CA_branch_129 : decode y_CA_branch.2.1 129 = .ok (.iaload, 1) := by decide +kernel
theorem d_CA_branch_130 : decode y_CA_branch.2.1 130 = .ok (.ireturn, 1) := by decide +kernel
theorem d_CA_branch_131 : decode y_CA_branch.2.1 131 = .ok (.aload_n 0, 1) := by decide +kernel
theorem d_CA_branch_132 : decode y_CA_branch.2.1 132 = .ok (.getfield 54, 3) := by decide +kernel
theorem d_CA_branch_135 : decode y_CA_branch.2.1 135 = .ok (.getfield 190, 3) := by decide +kernel
theorem d_CA_branch_138 : decode y_CA_branch.2.1 138 = .ok (.iload 6, 2) := by decide +kernel
theorem d_CA_branch_140 : decode y_CA_branch.2.1 140 = .ok (.iaload, 1) := by decide +kernel
theorem d_CA_branch_141 : decode y_CA_branch.2.1 141 = .ok (.iload 7, 2) := by decide +kernel
theorem d_CA_branch_143 : decode y_CA_branch.2.1 143 = .ok (.idiv, 1) := by decide +kernel
theorem d_CA_branch_144 : decode y_CA_branch.2.1 144 = .ok (.ireturn, 1) := by decide +kernel
theorem d_CA_branch_145 : decode y_CA_branch.2.1 145 = .ok (.aload_n 0, 1) := by decide +kernel
theorem d_CA_branch_146 : decode y_CA_branch.2.1 146 = .ok (.getfield 54, 3) := by decide +kernel
theorem d_CA_branch_149 : decode y_CA_branch.2.1 149 = .ok (.getfield 193, 3) := by decide +kernel
theorem d_CA_branch_152 : decode y_CA_branch.2.1 152 = .ok (.iload 5, 2) := by decide +kernel
theorem d_CA_branch_154 : decode y_CA_branch.2.1 154 = .ok (.iaload, 1) := by decide +kernel
theorem d_CA_branch_155 : decode y_CA_branch.2.1 155 = .ok (.iload 7, 2) := by decide +kernel
theorem d_CA_branch_157 : decode y_CA_branch.2.1 157 = .ok (.idiv, 1) := by decide +kernel
theorem d_CA_branch_158 : decode y_CA_branch.2.1 158 = .ok (.ireturn, 1) := by decide +kernel
theorem d_CA_branch_159 : decode y_CA_branch.2.1 159 = .ok (.iconst (-1), 1) := by decide +kernel
theorem d_CA_branch_160 : decode y_CA_branch.2.1 160 = .ok (.ireturn, 1) := by decide +kernel
theorem k_CA_branch {G : mG} {d : Nat} {a0 : Nat} {l1 : Int} {l2 : Int} {l3 : Int} {l4 : Int} {M : mM} {Q : Int → mM → Prop} (hO : mOk M) (hi_l1 : i32 l1) (hi_l2 : i32 l2) (hi_l3 : i32 l3) (hi_l4 : i32 l4)
    (h : mK M a0 = 1 ∧ mK M (mR M a0 9) = 7 ∧ Ci G y_Ga_commandAt d [vr (mR M a0 9), vi l1, vi l2] M (fun x4 M3 => i32 x4 ∧ mOk M3 ∧ ((¬ (x4 = (-1)) → (¬ (l3 < 0) → (mK M3 a0 = 1 ∧ mK M3 (mR M3 a0 9) = 7 ∧ mK M3 (mR M3 (mR M3 a0 9) 7) = 30 ∧ ((0 : Int) ≤ x4 + 1 ∧ x4 + 1 < (mN M3 (mR M3 (mR M3 a0 9) 7) : Int)) ∧ ((0 : Int) ≤ x4 ∧ x4 < (mN M3 (mR M3 (mR M3 a0 9) 7) : Int)) ∧ i32 ((mI M3 (mR M3 (mR M3 a0 9) 7) (Int.toNat (x4 + 1))) - (mI M3 (mR M3 (mR M3 a0 9) 7) (Int.toNat x4)))))) ∧ (((x4 = (-1)) ∨ ((l3 < 0) ∨ (¬ (l3 < (mI M3 (mR M3 (mR M3 a0 9) 7) (Int.toNat (x4 + 1))) - (mI M3 (mR M3 (mR M3 a0 9) 7) (Int.toNat x4)))))) → (Q (-1) M3)) ∧ (¬ ((x4 = (-1)) ∨ ((l3 < 0) ∨ (¬ (l3 < (mI M3 (mR M3 (mR M3 a0 9) 7) (Int.toNat (x4 + 1))) - (mI M3 (mR M3 (mR M3 a0 9) 7) (Int.toNat x4)))))) → (mK M3 a0 = 1 ∧ mK M3 (mR M3 a0 9) = 7 ∧ mK M3 (mR M3 (mR M3 a0 9) 7) = 30 ∧ ((0 : Int) ≤ x4 ∧ x4 < (mN M3 (mR M3 (mR M3 a0 9) 7) : Int)) ∧ mK M3 (mR M3 (mR M3 a0 9) 9) = 30 ∧ ((0 : Int) ≤ (mI M3 (mR M3 (mR M3 a0 9) 7) (Int.toNat x4)) + l3 ∧ (mI M3 (mR M3 (mR M3 a0 9) 7) (Int.toNat x4)) + l3 < (mN M3 (mR M3 (mR M3 a0 9) 9) : Int)) ∧ mK M3 (mR M3 (mR M3 a0 9) 6) = 30 ∧ ((0 : Int) ≤ x4 ∧ x4 < (mN M3 (mR M3 (mR M3 a0 9) 6) : Int)) ∧ Cj G y_Ma_commonDivisor d [vl (mI M3 (mR M3 (mR M3 a0 9) 9) (Int.toNat ((mI M3 (mR M3 (mR M3 a0 9) 7) (Int.toNat x4)) + l3))), vl (mI M3 (mR M3 (mR M3 a0 9) 6) (Int.toNat x4))] M3 (fun x27 M26 => i64 x27 ∧ mOk M26 ∧ (((l4 = 0) → (mK M26 a0 = 1 ∧ mK M26 (mR M26 a0 9) = 7 ∧ mK M26 (mR M26 (mR M26 a0 9) 8) = 30 ∧ ((0 : Int) ≤ (mI M3 (mR M3 (mR M3 a0 9) 7) (Int.toNat x4)) + l3 ∧ (mI M3 (mR M3 (mR M3 a0 9) 7) (Int.toNat x4)) + l3 < (mN M26 (mR M26 (mR M26 a0 9) 8) : Int)) ∧ Q (mI M26 (mR M26 (mR M26 a0 9) 8) (Int.toNat ((mI M3 (mR M3 (mR M3 a0 9) 7) (Int.toNat x4)) + l3))) M26)) ∧ (¬ (l4 = 0) → (((l4 = 1) → (mK M26 a0 = 1 ∧ mK M26 (mR M26 a0 9) = 7 ∧ mK M26 (mR M26 (mR M26 a0 9) 9) = 30 ∧ ((0 : Int) ≤ (mI M3 (mR M3 (mR M3 a0 9) 7) (Int.toNat x4)) + l3 ∧ (mI M3 (mR M3 (mR M3 a0 9) 7) (Int.toNat x4)) + l3 < (mN M26 (mR M26 (mR M26 a0 9) 9) : Int)) ∧ i32 x27 ∧ x27 ≠ 0 ∧ Q (Int.tdiv (mI M26 (mR M26 (mR M26 a0 9) 9) (Int.toNat ((mI M3 (mR M3 (mR M3 a0 9) 7) (Int.toNat x4)) + l3))) x27) M26)) ∧ (¬ (l4 = 1) → (((l4 = 2) → (mK M26 a0 = 1 ∧ mK M26 (mR M26 a0 9) = 7 ∧ mK M26 (mR M26 (mR M26 a0 9) 6) = 30 ∧ ((0 : Int) ≤ x4 ∧ x4 < (mN M26 (mR M26 (mR M26 a0 9) 6) : Int)) ∧ i32 x27 ∧ x27 ≠ 0 ∧ Q (Int.tdiv (mI M26 (mR M26 (mR M26 a0 9) 6) (Int.toNat x4)) x27) M26)) ∧ (¬ (l4 = 2) → (Q (-1) M26))))))))))))) :
    Ci G y_CA_branch (d + 1) [vr a0, vi l1, vi l2, vi l3, vi l4] M Q := by
  refine wm_open (y := y_CA_branch) rfl (Nat.le_of_ble_eq_true rfl) (L := [vr a0, vi l1, vi l2, vi l3, vi l4, vd, vd, vd]) rfl ?_
  obtain ⟨h1, h⟩ := h
  obtain ⟨h2, h⟩ := h
  refine wm_aload_n d_CA_branch_0 rfl rfl ?_
  refine gf_CA_54 rfl d_CA_branch_1 h1 ?_
  refine wm_iload_n d_CA_branch_4 rfl rfl ?_
  refine wm_iload_n d_CA_branch_5 rfl rfl ?_
  refine cf_CA_180 rfl d_CA_branch_6 h2 (Nat.le_of_ble_eq_true rfl) (Ci.mono h (fun x4 M3 h => ?_))
  obtain ⟨h5, hOM3, h⟩ := h
  refine wm_istore d_CA_branch_9 (by decide) (L' := [vr a0, vi l1, vi l2, vi l3, vi l4, vi x4, vd, vd]) rfl ?_
  refine wm_iload d_CA_branch_11 rfl ?_
  refine wm_iconst d_CA_branch_13 ?_
  obtain ⟨s15, h⟩ := h
  have hE0 : ((x4 = (-1)) ∨ ((l3 < 0) ∨ (¬ (l3 < (mI M3 (mR M3 (mR M3 a0 9) 7) (Int.toNat (x4 + 1))) - (mI M3 (mR M3 (mR M3 a0 9) 7) (Int.toNat x4)))))) → mWm G y_CA_branch (d + 1) 48 [vr a0, vi l1, vi l2, vi l3, vi l4, vi x4, vd, vd] [] M3 (fun r9 M9 => ∃ x9, r9 = some (vi x9) ∧ Q x9 M9) := by
    intro q16
    have h := h.1 q16
    refine wm_iconst d_CA_branch_48 ?_
    refine wm_ireturn d_CA_branch_49 rfl rfl ?_
    exact ⟨_, rfl, h⟩
  have hE1 : ¬ ((x4 = (-1)) ∨ ((l3 < 0) ∨ (¬ (l3 < (mI M3 (mR M3 (mR M3 a0 9) 7) (Int.toNat (x4 + 1))) - (mI M3 (mR M3 (mR M3 a0 9) 7) (Int.toNat x4)))))) → mWm G y_CA_branch (d + 1) 50 [vr a0, vi l1, vi l2, vi l3, vi l4, vi x4, vd, vd] [] M3 (fun r9 M9 => ∃ x9, r9 = some (vi x9) ∧ Q x9 M9) := by
    intro q17
    have h := h.2 q17
    obtain ⟨h18, h⟩ := h
    obtain ⟨h19, h⟩ := h
    obtain ⟨h20, h⟩ := h
    obtain ⟨h21, h⟩ := h
    obtain ⟨h22, h⟩ := h
    obtain ⟨h23, h⟩ := h
    obtain ⟨h24, h⟩ := h
    obtain ⟨h25, h⟩ := h
    refine wm_aload_n d_CA_branch_50 rfl rfl ?_
    refine gf_CA_54 rfl d_CA_branch_51 h18 ?_
    refine gf_CA_187 rfl d_CA_branch_54 h19 ?_
    refine wm_iload d_CA_branch_57 rfl ?_
    refine wm_iald d_CA_branch_59 h20 h21 ?_
    refine wm_iload_n d_CA_branch_60 rfl rfl ?_
    refine wm_iadd d_CA_branch_61 ?_
    refine wm_istore d_CA_branch_62 (by decide) (L' := [vr a0, vi l1, vi l2, vi l3, vi l4, vi x4, vi ((mI M3 (mR M3 (mR M3 a0 9) 7) (Int.toNat x4)) + l3), vd]) rfl ?_
    refine wm_aload_n d_CA_branch_64 rfl rfl ?_
    refine gf_CA_54 rfl d_CA_branch_65 h18 ?_
    refine gf_CA_190 rfl d_CA_branch_68 h19 ?_
    refine wm_iload d_CA_branch_71 rfl ?_
    refine wm_iald d_CA_branch_73 h22 h23 ?_
    refine wm_i2l d_CA_branch_74 (hOM3 _ _).1 ?_
    refine wm_aload_n d_CA_branch_75 rfl rfl ?_
    refine gf_CA_54 rfl d_CA_branch_76 h18 ?_
    refine gf_CA_193 rfl d_CA_branch_79 h19 ?_
    refine wm_iload d_CA_branch_82 rfl ?_
    refine wm_iald d_CA_branch_84 h24 h25 ?_
    refine wm_i2l d_CA_branch_85 (hOM3 _ _).1 ?_
    refine cf_CA_196 rfl d_CA_branch_86 (Nat.le_of_ble_eq_true rfl) (Cj.mono h (fun x27 M26 h => ?_))
    obtain ⟨h28, hOM26, h⟩ := h
    refine wm_l2i d_CA_branch_89 ?_
    refine wm_istore d_CA_branch_90 (by decide) (L' := [vr a0, vi l1, vi l2, vi l3, vi l4, vi x4, vi ((mI M3 (mR M3 (mR M3 a0 9) 7) (Int.toNat x4)) + l3), vi x27]) rfl ?_
    refine wm_iload d_CA_branch_92 rfl ?_
    by_cases c29 : l4 = 0
    · replace h := h.1 c29
      refine wm_tableIn (tgt := 120) (off := 26) d_CA_branch_94 hi_l4 (by omega) (by omega) (by rw [c29]; rfl) rfl ?_
      obtain ⟨h30, h⟩ := h
      obtain ⟨h31, h⟩ := h
      obtain ⟨h32, h⟩ := h
      obtain ⟨h33, h⟩ := h
      refine wm_aload_n d_CA_branch_120 rfl rfl ?_
      refine gf_CA_54 rfl d_CA_branch_121 h30 ?_
      refine gf_CA_202 rfl d_CA_branch_124 h31 ?_
      refine wm_iload d_CA_branch_127 rfl ?_
      refine wm_iald d_CA_branch_129 h32 h33 ?_
      refine wm_ireturn d_CA_branch_130 rfl rfl ?_
      exact ⟨_, rfl, h⟩
    · replace h := h.2 c29
      by_cases c34 : l4 = 1
      · replace h := h.1 c34
        refine wm_tableIn (tgt := 131) (off := 37) d_CA_branch_94 hi_l4 (by omega) (by omega) (by rw [c34]; rfl) rfl ?_
        obtain ⟨h35, h⟩ := h
        obtain ⟨h36, h⟩ := h
        obtain ⟨h37, h⟩ := h
        obtain ⟨h38, h⟩ := h
        obtain ⟨h39, h⟩ := h
        obtain ⟨h40, h⟩ := h
        refine wm_aload_n d_CA_branch_131 rfl rfl ?_
        refine gf_CA_54 rfl d_CA_branch_132 h35 ?_
        refine gf_CA_190 rfl d_CA_branch_135 h36 ?_
        refine wm_iload d_CA_branch_138 rfl ?_
        refine wm_iald d_CA_branch_140 h37 h38 ?_
        refine wm_iload d_CA_branch_141 rfl ?_
        refine wm_idiv d_CA_branch_143 (hOM26 _ _).1 h39 h40 ?_
        refine wm_ireturn d_CA_branch_144 rfl rfl ?_
        exact ⟨_, rfl, h⟩
      · replace h := h.2 c34
        by_cases c41 : l4 = 2
        · replace h := h.1 c41
          refine wm_tableIn (tgt := 145) (off := 51) d_CA_branch_94 hi_l4 (by omega) (by omega) (by rw [c41]; rfl) rfl ?_
          obtain ⟨h42, h⟩ := h
          obtain ⟨h43, h⟩ := h
          obtain ⟨h44, h⟩ := h
          obtain ⟨h45, h⟩ := h
          obtain ⟨h46, h⟩ := h
          obtain ⟨h47, h⟩ := h
          refine wm_aload_n d_CA_branch_145 rfl rfl ?_
          refine gf_CA_54 rfl d_CA_branch_146 h42 ?_
          refine gf_CA_193 rfl d_CA_branch_149 h43 ?_
          refine wm_iload d_CA_branch_152 rfl ?_
          refine wm_iald d_CA_branch_154 h44 h45 ?_
          refine wm_iload d_CA_branch_155 rfl ?_
          refine wm_idiv d_CA_branch_157 (hOM26 _ _).1 h46 h47 ?_
          refine wm_ireturn d_CA_branch_158 rfl rfl ?_
          exact ⟨_, rfl, h⟩
        · replace h := h.2 c41
          refine wm_tableOut (tgt := 159) d_CA_branch_94 hi_l4 (by omega) rfl ?_
          refine wm_iconst d_CA_branch_159 ?_
          refine wm_ireturn d_CA_branch_160 rfl rfl ?_
          exact ⟨_, rfl, h⟩
  clear h
  have s48 := s15
  refine wm_icmp_eq (tgt := 48) d_CA_branch_14 rfl h5 ⟨by decide, by decide⟩ (fun c14 => ?_) (fun c14 => ?_)
  · exact hE0 (Or.inl c14)
  · have s48 := s48 c14
    have s49 := s48
    refine wm_iload_n d_CA_branch_17 rfl rfl ?_
    refine wm_if_lt (tgt := 48) d_CA_branch_18 rfl hi_l3 (fun c13 => ?_) (fun c13 => ?_)
    · exact hE0 (Or.inr (Or.inl c13))
    · have s49 := s49 c13
      obtain ⟨h6, h7, h8, h9, h10, h11⟩ := s49
      refine wm_iload_n d_CA_branch_21 rfl rfl ?_
      refine wm_aload_n d_CA_branch_22 rfl rfl ?_
      refine gf_CA_54 rfl d_CA_branch_23 h6 ?_
      refine gf_CA_187 rfl d_CA_branch_26 h7 ?_
      refine wm_iload d_CA_branch_29 rfl ?_
      refine wm_iconst d_CA_branch_31 ?_
      refine wm_iadd d_CA_branch_32 ?_
      refine wm_iald d_CA_branch_33 h8 h9 ?_
      refine wm_aload_n d_CA_branch_34 rfl rfl ?_
      refine gf_CA_54 rfl d_CA_branch_35 h6 ?_
      refine gf_CA_187 rfl d_CA_branch_38 h7 ?_
      refine wm_iload d_CA_branch_41 rfl ?_
      refine wm_iald d_CA_branch_43 h8 h10 ?_
      refine wm_isub d_CA_branch_44 ?_
      refine wm_icmp_lt (tgt := 50) d_CA_branch_45 rfl hi_l3 h11 (fun c12 => ?_) (fun c12 => ?_)
      · exact hE1 (fun z50 => Or.elim z50 c14 (fun z51 => Or.elim z51 c13 (fun z52 => z52 c12)))
      · exact hE0 (Or.inr (Or.inr c12))
theorem d_CA_solve_0 : decode y_CA_solve.2.1 0 = .ok (.aload_n 0, 1) := by decide +kernel
theorem d_CA_solve_1 : decode y_CA_solve.2.1 1 = .ok (.getfield 54, 3) := by decide +kernel
theorem d_CA_solve_4 : decode y_CA_solve.2.1 4 = .ok (.getfield 160, 3) := by decide +kernel
theorem d_CA_solve_7 : decode y_CA_solve.2.1 7 = .ok (.ifCond .ne 11, 3) := by decide +kernel
theorem d_CA_solve_18 : decode y_CA_solve.2.1 18 = .ok (.aload_n 0, 1) := by decide +kernel
theorem d_CA_solve_19 : decode y_CA_solve.2.1 19 = .ok (.getfield 63, 3) := by decide +kernel
theorem d_CA_solve_22 : decode y_CA_solve.2.1 22 = .ok (.iconst 0, 1) := by decide +kernel
theorem d_CA_solve_23 : decode y_CA_solve.2.1 23 = .ok (.aload_n 0, 1) := by decide +kernel
theorem d_CA_solve_24 : decode y_CA_solve.2.1 24 = .ok (.getfield 70, 3) := by decide +kernel
theorem d_CA_solve_27 : decode y_CA_solve.2.1 27 = .ok (.invokevirtual 205, 3) := by decide +kernel
theorem d_CA_solve_30 : decode y_CA_solve.2.1 30 = .ok (.istore_n 1, 1) := by decide +kernel
theorem d_CA_solve_31 : decode y_CA_solve.2.1 31 = .ok (.iload_n 1, 1) := by decide +kernel
theorem d_CA_solve_32 : decode y_CA_solve.2.1 32 = .ok (.ifCond .ne 14, 3) := by decide +kernel
theorem d_CA_solve_35 : decode y_CA_solve.2.1 35 = .ok (.aload_n 0, 1) := by decide +kernel
theorem d_CA_solve_36 : decode y_CA_solve.2.1 36 = .ok (.getfield 63, 3) := by decide +kernel
theorem d_CA_solve_39 : decode y_CA_solve.2.1 39 = .ok (.aload_n 0, 1) := by decide +kernel
theorem d_CA_solve_40 : decode y_CA_solve.2.1 40 = .ok (.getfield 70, 3) := by decide +kernel
theorem d_CA_solve_43 : decode y_CA_solve.2.1 43 = .ok (.invokevirtual 209, 3) := by decide +kernel
theorem d_CA_solve_46 : decode y_CA_solve.2.1 46 = .ok (.iload_n 1, 1) := by decide +kernel
theorem d_CA_solve_47 : decode y_CA_solve.2.1 47 = .ok (.ireturn, 1) := by decide +kernel
theorem k_CA_solve {G : mG} {d : Nat} {a0 : Nat} {M : mM} {Q : Int → mM → Prop} (hO : mOk M)
    (h : mK M a0 = 1 ∧ mK M (mR M a0 9) = 7 ∧ ((mI M (mR M a0 9) 0 = 0) → (False)) ∧ (¬ (mI M (mR M a0 9) 0 = 0) → (mK M (mR M a0 10) = 8 ∧ Ci G y_So_workOut d [vr (mR M a0 10), vi 0, vr (mR M a0 11)] M (fun x7 M6 => i32 x7 ∧ mOk M6 ∧ (((x7 = 0) → (mK M6 a0 = 1 ∧ mK M6 (mR M6 a0 10) = 8 ∧ Cv G y_So_rankAndChoose d [vr (mR M6 a0 10), vr (mR M6 a0 11)] M6 (fun M15 => mOk M15 ∧ (Q x7 M15)))) ∧ (¬ (x7 = 0) → (Q x7 M6))))))) :
    Ci G y_CA_solve (d + 1) [vr a0] M Q := by
  refine wm_open (y := y_CA_solve) rfl (Nat.le_of_ble_eq_true rfl) (L := [vr a0, vd]) rfl ?_
  obtain ⟨h1, h⟩ := h
  obtain ⟨h2, h⟩ := h
  refine wm_aload_n d_CA_solve_0 rfl rfl ?_
  refine gf_CA_54 rfl d_CA_solve_1 h1 ?_
  refine gf_CA_160 rfl d_CA_solve_4 h2 ?_
  refine wm_if_ne (tgt := 18) d_CA_solve_7 rfl (hO _ _).1 (fun c4 => ?_) (fun c4 => ?_)
  · replace h := h.2 c4
    obtain ⟨h5, h⟩ := h
    refine wm_aload_n d_CA_solve_18 rfl rfl ?_
    refine gf_CA_63 rfl d_CA_solve_19 h1 ?_
    refine wm_iconst d_CA_solve_22 ?_
    refine wm_aload_n d_CA_solve_23 rfl rfl ?_
    refine gf_CA_70 rfl d_CA_solve_24 h1 ?_
    refine cf_CA_205 rfl d_CA_solve_27 h5 (Nat.le_of_ble_eq_true rfl) (Ci.mono h (fun x7 M6 h => ?_))
    obtain ⟨h8, hOM6, h⟩ := h
    refine wm_istore_n d_CA_solve_30 rfl (by decide) (L' := [vr a0, vi x7]) rfl ?_
    refine wm_iload_n d_CA_solve_31 rfl rfl ?_
    refine wm_if_ne (tgt := 46) d_CA_solve_32 rfl h8 (fun c12 => ?_) (fun c12 => ?_)
    · replace h := h.2 c12
      refine wm_iload_n d_CA_solve_46 rfl rfl ?_
      refine wm_ireturn d_CA_solve_47 rfl rfl ?_
      exact ⟨_, rfl, h⟩
    · replace c12 := Classical.not_not.mp c12
      replace h := h.1 c12
      obtain ⟨h13, h⟩ := h
      obtain ⟨h14, h⟩ := h
      refine wm_aload_n d_CA_solve_35 rfl rfl ?_
      refine gf_CA_63 rfl d_CA_solve_36 h13 ?_
      refine wm_aload_n d_CA_solve_39 rfl rfl ?_
      refine gf_CA_70 rfl d_CA_solve_40 h13 ?_
      refine cf_CA_209 rfl d_CA_solve_43 h14 (Nat.le_of_ble_eq_true rfl) (Cv.mono h (fun M15 h => ?_))
      obtain ⟨hOM15, h⟩ := h
      refine wm_iload_n d_CA_solve_46 rfl rfl ?_
      refine wm_ireturn d_CA_solve_47 rfl rfl ?_
      exact ⟨_, rfl, h⟩
  · replace c4 := Classical.not_not.mp c4
    replace h := h.1 c4
    exact h.elim
theorem d_CA_within_0 : decode y_CA_within.2.1 0 = .ok (.iload_n 1, 1) := by decide +kernel
theorem d_CA_within_1 : decode y_CA_within.2.1 1 = .ok (.ifCond .lt 9, 3) := by decide +kernel
theorem d_CA_within_4 : decode y_CA_within.2.1 4 = .ok (.iload_n 1, 1) := by decide +kernel
theorem d_CA_within_5 : decode y_CA_within.2.1 5 = .ok (.bipush 32, 2) := by decide +kernel
theorem d_CA_within_7 : decode y_CA_within.2.1 7 = .ok (.if_icmp .le 11, 3) := by decide +kernel
theorem d_CA_within_18 : decode y_CA_within.2.1 18 = .ok (.aload_n 0, 1) := by decide +kernel
theorem d_CA_within_19 : decode y_CA_within.2.1 19 = .ok (.getfield 54, 3) := by decide +kernel
theorem d_CA_within_22 : decode y_CA_within.2.1 22 = .ok (.getfield 160, 3) := by decide +kernel
theorem d_CA_within_25 : decode y_CA_within.2.1 25 = .ok (.ifCond .ne 11, 3) := by decide +kernel
theorem d_CA_within_36 : decode y_CA_within.2.1 36 = .ok (.aload_n 0, 1) := by decide +kernel
theorem d_CA_within_37 : decode y_CA_within.2.1 37 = .ok (.getfield 74, 3) := by decide +kernel
theorem d_CA_within_40 : decode y_CA_within.2.1 40 = .ok (.iconst 0, 1) := by decide +kernel
theorem d_CA_within_41 : decode y_CA_within.2.1 41 = .ok (.putfield 137, 3) := by decide +kernel
theorem d_CA_within_44 : decode y_CA_within.2.1 44 = .ok (.aload_n 0, 1) := by decide +kernel
theorem d_CA_within_45 : decode y_CA_within.2.1 45 = .ok (.getfield 74, 3) := by decide +kernel
theorem d_CA_within_48 : decode y_CA_within.2.1 48 = .ok (.aload_n 0, 1) := by decide +kernel
theorem d_CA_within_49 : decode y_CA_within.2.1 49 = .ok (.getfield 54, 3) := by decide +kernel
theorem d_CA_within_52 : decode y_CA_within.2.1 52 = .ok (.invokevirtual 213, 3) := by decide +kernel
theorem d_CA_within_55 : decode y_CA_within.2.1 55 = .ok (.iconst 0, 1) := by decide +kernel
theorem d_CA_within_56 : decode y_CA_within.2.1 56 = .ok (.istore_n 2, 1) := by decide +kernel
theorem d_CA_within_57 : decode y_CA_within.2.1 57 = .ok (.iload_n 2, 1) := by decide +kernel
theorem d_CA_within_58 : decode y_CA_within.2.1 58 = .ok (.iload_n 1, 1) := by decide +kernel
theorem d_CA_within_59 : decode y_CA_within.2.1 59 = .ok (.if_icmp .ge 52, 3) := by decide +kernel
theorem d_CA_within_111 : decode y_CA_within.2.1 111 = .ok (.aload_n 0, 1) := by decide +kernel
theorem d_CA_within_112 : decode y_CA_within.2.1 112 = .ok (.getfield 74, 3) := by decide +kernel
theorem d_CA_within_115 : decode y_CA_within.2.1 115 = .ok (.iconst 1, 1) := by decide +kernel
theorem d_CA_within_116 : decode y_CA_within.2.1 116 = .ok (.putfield 137, 3) := by decide +kernel
theorem d_CA_within_119 : decode y_CA_within.2.1 119 = .ok (.iconst 0, 1) := by decide +kernel
theorem d_CA_within_120 : decode y_CA_within.2.1 120 = .ok (.ireturn, 1) := by decide +kernel
theorem d_CA_within_62 : decode y_CA_within.2.1 62 = .ok (.aload_n 0, 1) := by decide +kernel
theorem d_CA_within_63 : decode y_CA_within.2.1 63 = .ok (.getfield 74, 3) := by decide +kernel
theorem d_CA_within_66 : decode y_CA_within.2.1 66 = .ok (.astore_n 3, 1) := by decide +kernel
theorem d_CA_within_67 : decode y_CA_within.2.1 67 = .ok (.aload_n 0, 1) := by decide +kernel
theorem d_CA_within_68 : decode y_CA_within.2.1 68 = .ok (.aload_n 0, 1) := by decide +kernel
theorem d_CA_within_69 : decode y_CA_within.2.1 69 = .ok (.getfield 77, 3) := by decide +kernel
theorem d_CA_within_72 : decode y_CA_within.2.1 72 = .ok (.putfield 74, 3) := by decide +kernel
theorem d_CA_within_75 : decode y_CA_within.2.1 75 = .ok (.aload_n 0, 1) := by decide +kernel
theorem d_CA_within_76 : decode y_CA_within.2.1 76 = .ok (.aload_n 3, 1) := by decide +kernel
theorem d_CA_within_77 : decode y_CA_within.2.1 77 = .ok (.putfield 77, 3) := by decide +kernel
theorem d_CA_within_80 : decode y_CA_within.2.1 80 = .ok (.aload_n 0, 1) := by decide +kernel
theorem d_CA_within_81 : decode y_CA_within.2.1 81 = .ok (.getfield 63, 3) := by decide +kernel
theorem d_CA_within_84 : decode y_CA_within.2.1 84 = .ok (.getfield 216, 3) := by decide +kernel
theorem d_CA_within_87 : decode y_CA_within.2.1 87 = .ok (.aload_n 0, 1) := by decide +kernel
theorem d_CA_within_88 : decode y_CA_within.2.1 88 = .ok (.getfield 54, 3) := by decide +kernel
theorem d_CA_within_91 : decode y_CA_within.2.1 91 = .ok (.aload_n 3, 1) := by decide +kernel
theorem d_CA_within_92 : decode y_CA_within.2.1 92 = .ok (.aload_n 0, 1) := by decide +kernel
theorem d_CA_within_93 : decode y_CA_within.2.1 93 = .ok (.getfield 74, 3) := by decide +kernel
theorem d_CA_within_96 : decode y_CA_within.2.1 96 = .ok (.invokevirtual 220, 3) := by decide +kernel
theorem d_CA_within_99 : decode y_CA_within.2.1 99 = .ok (.ifCond .ne 6, 3) := by decide +kernel
theorem d_CA_within_102 : decode y_CA_within.2.1 102 = .ok (.bipush 6, 2) := by decide +kernel
theorem d_CA_within_104 : decode y_CA_within.2.1 104 = .ok (.ireturn, 1) := by decide +kernel
theorem d_CA_within_105 : decode y_CA_within.2.1 105 = .ok (.iinc 2 1, 3) := by decide +kernel
theorem d_CA_within_108 : decode y_CA_within.2.1 108 = .ok (.goto (-51), 3) := by decide +kernel
def h_CA_within_57 (G : mG) (d : Nat) (a0 : Nat) (l1 : Int) (l2 : Int) (M : mM) (Q : Int → mM → Prop) : Prop := mWm G y_CA_within (d + 1) 57 [vr a0, vi l1, vi l2, vd] [] M (fun r9 M9 => ∃ x9, r9 = some (vi x9) ∧ Q x9 M9)
theorem k_CA_within {G : mG} {d : Nat} {a0 : Nat} {l1 : Int} {M : mM} {Q : Int → mM → Prop} (hO : mOk M) (hi_l1 : i32 l1)
    (h : (((l1 < 0) ∨ (¬ (l1 ≤ 32))) → (False)) ∧ (¬ ((l1 < 0) ∨ (¬ (l1 ≤ 32))) → (mK M a0 = 1 ∧ mK M (mR M a0 9) = 7 ∧ ((mI M (mR M a0 9) 0 = 0) → (False)) ∧ (¬ (mI M (mR M a0 9) 0 = 0) → (mK M (mR M a0 12) = 13 ∧ ∀ M14, M14 = mUI M (mR M a0 12) 1 0 → mK M14 (mR M14 a0 12) = 13 ∧ Cv G y_Fs_begin d [vr (mR M14 a0 12), vr (mR M14 a0 9)] M14 (fun M17 => mOk M17 ∧ (h_CA_within_57 G d a0 l1 0 M17 Q))))))) :
    Ci G y_CA_within (d + 1) [vr a0, vi l1] M Q := by
  refine wm_open (y := y_CA_within) rfl (Nat.le_of_ble_eq_true rfl) (L := [vr a0, vi l1, vd, vd]) rfl ?_
  refine wm_iload_n d_CA_within_0 rfl rfl ?_
  have hE0 : ((l1 < 0) ∨ (¬ (l1 ≤ 32))) → mWm G y_CA_within (d + 1) 10 [vr a0, vi l1, vd, vd] [] M (fun r9 M9 => ∃ x9, r9 = some (vi x9) ∧ Q x9 M9) := by
    intro q7
    have h := h.1 q7
    exact h.elim
  have hE1 : ¬ ((l1 < 0) ∨ (¬ (l1 ≤ 32))) → mWm G y_CA_within (d + 1) 18 [vr a0, vi l1, vd, vd] [] M (fun r9 M9 => ∃ x9, r9 = some (vi x9) ∧ Q x9 M9) := by
    intro q8
    have h := h.2 q8
    obtain ⟨h9, h⟩ := h
    obtain ⟨h10, h⟩ := h
    refine wm_aload_n d_CA_within_18 rfl rfl ?_
    refine gf_CA_54 rfl d_CA_within_19 h9 ?_
    refine gf_CA_160 rfl d_CA_within_22 h10 ?_
    refine wm_if_ne (tgt := 36) d_CA_within_25 rfl (hO _ _).1 (fun c12 => ?_) (fun c12 => ?_)
    · replace h := h.2 c12
      obtain ⟨h13, h⟩ := h
      obtain ⟨M14, e15⟩ : ∃ M14, M14 = mUI M (mR M a0 12) 1 0 := ⟨_, rfl⟩
      replace h := h M14 e15
      obtain ⟨h16, h⟩ := h
      refine wm_aload_n d_CA_within_36 rfl rfl ?_
      refine gf_CA_74 rfl d_CA_within_37 h9 ?_
      refine wm_iconst d_CA_within_40 ?_
      have hOM14 : mOk M14 := by rw [e15]; exact mOk_UI hO (m_b32 (by decide))
      refine pf_CA_137 rfl d_CA_within_41 h13 (by decide) e15 ?_
      refine wm_aload_n d_CA_within_44 rfl rfl ?_
      refine gf_CA_74 rfl d_CA_within_45 (by rw [e15]; exact h9) ?_
      refine wm_aload_n d_CA_within_48 rfl rfl ?_
      refine gf_CA_54 rfl d_CA_within_49 (by rw [e15]; exact h9) ?_
      refine cf_CA_213 rfl d_CA_within_52 h16 (Nat.le_of_ble_eq_true rfl) (Cv.mono h (fun M17 h => ?_))
      obtain ⟨hOM17, h⟩ := h
      refine wm_iconst d_CA_within_55 ?_
      refine wm_istore_n d_CA_within_56 rfl (by decide) (L' := [vr a0, vi l1, vi 0, vd]) rfl ?_
      exact h
    · replace c12 := Classical.not_not.mp c12
      replace h := h.1 c12
      exact h.elim
  clear h
  refine wm_if_lt (tgt := 10) d_CA_within_1 rfl hi_l1 (fun c5 => ?_) (fun c5 => ?_)
  · exact hE0 (Or.inl c5)
  · refine wm_iload_n d_CA_within_4 rfl rfl ?_
    refine wm_bipush d_CA_within_5 (by decide) ?_
    refine wm_icmp_le (tgt := 18) d_CA_within_7 rfl hi_l1 ⟨by decide, by decide⟩ (fun c4 => ?_) (fun c4 => ?_)
    · exact hE1 (fun z20 => Or.elim z20 c5 (fun z21 => z21 c4))
    · exact hE0 (Or.inr c4)
theorem k_CA_within_57 {G : mG} {d : Nat} {a0 : Nat} {l1 : Int} {l2 : Int} {M : mM} {Q : Int → mM → Prop} (hO : mOk M) (hi_l1 : i32 l1) (hi_l2 : i32 l2)
    (h : ((l1 ≤ l2) → (mK M a0 = 1 ∧ mK M (mR M a0 12) = 13 ∧ ∀ M28, M28 = mUI M (mR M a0 12) 1 1 → Q 0 M28)) ∧ (¬ (l1 ≤ l2) → (mK M a0 = 1 ∧ ∀ M31, M31 = mUR M a0 12 (mR M a0 13) → ∀ M33, M33 = mUR M31 a0 13 (mR M a0 12) → mK M33 (mR M33 a0 10) = 8 ∧ mK M33 (mR M33 (mR M33 a0 10) 0) = 9 ∧ Ci G y_Sc_move d [vr (mR M33 (mR M33 a0 10) 0), vr (mR M33 a0 9), vr (mR M a0 12), vr (mR M33 a0 12)] M33 (fun x38 M37 => i32 x38 ∧ mOk M37 ∧ (((x38 = 0) → (Q 6 M37)) ∧ (¬ (x38 = 0) → (h_CA_within_57 G d a0 l1 (l2 + 1) M37 Q))))))) :
    h_CA_within_57 G d a0 l1 l2 M Q := by
  unfold h_CA_within_57
  refine wm_iload_n d_CA_within_57 rfl rfl ?_
  refine wm_iload_n d_CA_within_58 rfl rfl ?_
  refine wm_icmp_ge (tgt := 111) d_CA_within_59 rfl hi_l2 hi_l1 (fun c25 => ?_) (fun c25 => ?_)
  · replace h := h.1 c25
    obtain ⟨h26, h⟩ := h
    obtain ⟨h27, h⟩ := h
    obtain ⟨M28, e29⟩ : ∃ M28, M28 = mUI M (mR M a0 12) 1 1 := ⟨_, rfl⟩
    replace h := h M28 e29
    refine wm_aload_n d_CA_within_111 rfl rfl ?_
    refine gf_CA_74 rfl d_CA_within_112 h26 ?_
    refine wm_iconst d_CA_within_115 ?_
    have hOM28 : mOk M28 := by rw [e29]; exact mOk_UI hO (m_b32 (by decide))
    refine pf_CA_137 rfl d_CA_within_116 h27 (by decide) e29 ?_
    refine wm_iconst d_CA_within_119 ?_
    refine wm_ireturn d_CA_within_120 rfl rfl ?_
    exact ⟨_, rfl, h⟩
  · replace h := h.2 c25
    obtain ⟨h30, h⟩ := h
    obtain ⟨M31, e32⟩ : ∃ M31, M31 = mUR M a0 12 (mR M a0 13) := ⟨_, rfl⟩
    replace h := h M31 e32
    obtain ⟨M33, e34⟩ : ∃ M33, M33 = mUR M31 a0 13 (mR M a0 12) := ⟨_, rfl⟩
    replace h := h M33 e34
    obtain ⟨h35, h⟩ := h
    obtain ⟨h36, h⟩ := h
    refine wm_aload_n d_CA_within_62 rfl rfl ?_
    refine gf_CA_74 rfl d_CA_within_63 h30 ?_
    refine wm_astore_n d_CA_within_66 rfl (by decide) (L' := [vr a0, vi l1, vi l2, vr (mR M a0 12)]) rfl ?_
    refine wm_aload_n d_CA_within_67 rfl rfl ?_
    refine wm_aload_n d_CA_within_68 rfl rfl ?_
    refine gf_CA_77 rfl d_CA_within_69 h30 ?_
    have hOM31 : mOk M31 := by rw [e32]; exact mOk_UR hO
    refine pf_CA_74 rfl d_CA_within_72 h30 e32 ?_
    refine wm_aload_n d_CA_within_75 rfl rfl ?_
    refine wm_aload_n d_CA_within_76 rfl rfl ?_
    have hOM33 : mOk M33 := by rw [e34]; exact mOk_UR hOM31
    refine pf_CA_77 rfl d_CA_within_77 (by rw [e32]; exact h30) e34 ?_
    refine wm_aload_n d_CA_within_80 rfl rfl ?_
    refine gf_CA_63 rfl d_CA_within_81 (by rw [e34, e32]; exact h30) ?_
    refine gf_CA_216 rfl d_CA_within_84 h35 ?_
    refine wm_aload_n d_CA_within_87 rfl rfl ?_
    refine gf_CA_54 rfl d_CA_within_88 (by rw [e34, e32]; exact h30) ?_
    refine wm_aload_n d_CA_within_91 rfl rfl ?_
    refine wm_aload_n d_CA_within_92 rfl rfl ?_
    refine gf_CA_74 rfl d_CA_within_93 (by rw [e34, e32]; exact h30) ?_
    refine cf_CA_220 rfl d_CA_within_96 h36 (Nat.le_of_ble_eq_true rfl) (Ci.mono h (fun x38 M37 h => ?_))
    obtain ⟨h39, hOM37, h⟩ := h
    refine wm_if_ne (tgt := 105) d_CA_within_99 rfl h39 (fun c41 => ?_) (fun c41 => ?_)
    · replace h := h.2 c41
      refine wm_iinc d_CA_within_105 (by decide) rfl (L' := [vr a0, vi l1, vi (l2 + 1), vr (mR M a0 12)]) rfl ?_
      refine wm_goto (tgt := 57) d_CA_within_108 rfl ?_
      refine wm_less (L' := [vr a0, vi l1, vi (l2 + 1), vd]) ⟨Or.inr rfl, Or.inr rfl, Or.inr rfl, Or.inl rfl, trivial⟩ ?_
      exact h
    · replace c41 := Classical.not_not.mp c41
      replace h := h.1 c41
      refine wm_bipush d_CA_within_102 (by decide) ?_
      refine wm_ireturn d_CA_within_104 rfl rfl ?_
      exact ⟨_, rfl, h⟩
theorem d_CA_choose_0 : decode y_CA_choose.2.1 0 = .ok (.aload_n 0, 1) := by decide +kernel
theorem d_CA_choose_1 : decode y_CA_choose.2.1 1 = .ok (.getfield 54, 3) := by decide +kernel
theorem d_CA_choose_4 : decode y_CA_choose.2.1 4 = .ok (.iload_n 1, 1) := by decide +kernel
theorem d_CA_choose_5 : decode y_CA_choose.2.1 5 = .ok (.iload_n 2, 1) := by decide +kernel
theorem d_CA_choose_6 : decode y_CA_choose.2.1 6 = .ok (.invokevirtual 180, 3) := by decide +kernel
theorem d_CA_choose_9 : decode y_CA_choose.2.1 9 = .ok (.iconst (-1), 1) := by decide +kernel
theorem d_CA_choose_10 : decode y_CA_choose.2.1 10 = .ok (.if_icmp .ne 11, 3) := by decide +kernel
theorem d_CA_choose_21 : decode y_CA_choose.2.1 21 = .ok (.aload_n 0, 1) := by decide +kernel
theorem d_CA_choose_22 : decode y_CA_choose.2.1 22 = .ok (.getfield 54, 3) := by decide +kernel
theorem d_CA_choose_25 : decode y_CA_choose.2.1 25 = .ok (.getfield 226, 3) := by decide +kernel
theorem d_CA_choose_28 : decode y_CA_choose.2.1 28 = .ok (.iload_n 1, 1) := by decide +kernel
theorem d_CA_choose_29 : decode y_CA_choose.2.1 29 = .ok (.iload_n 2, 1) := by decide +kernel
theorem d_CA_choose_30 : decode y_CA_choose.2.1 30 = .ok (.iastore, 1) := by decide +kernel
theorem d_CA_choose_31 : decode y_CA_choose.2.1 31 = .ok (.return_, 1) := by decide +kernel
theorem k_CA_choose {G : mG} {d : Nat} {a0 : Nat} {l1 : Int} {l2 : Int} {M : mM} {Q : mM → Prop} (hO : mOk M) (hi_l1 : i32 l1) (hi_l2 : i32 l2)
    (h : mK M a0 = 1 ∧ mK M (mR M a0 9) = 7 ∧ Ci G y_Ga_commandAt d [vr (mR M a0 9), vi l1, vi l2] M (fun x4 M3 => i32 x4 ∧ mOk M3 ∧ (((x4 = (-1)) → (False)) ∧ (¬ (x4 = (-1)) → (mK M3 a0 = 1 ∧ mK M3 (mR M3 a0 9) = 7 ∧ mK M3 (mR M3 (mR M3 a0 9) 3) = 30 ∧ ((0 : Int) ≤ l1 ∧ l1 < (mN M3 (mR M3 (mR M3 a0 9) 3) : Int)) ∧ ∀ M16, M16 = mUI M3 (mR M3 (mR M3 a0 9) 3) (Int.toNat l1) l2 → Q M16))))) :
    Cv G y_CA_choose (d + 1) [vr a0, vi l1, vi l2] M Q := by
  refine wm_open (y := y_CA_choose) rfl (Nat.le_of_ble_eq_true rfl) (L := [vr a0, vi l1, vi l2]) rfl ?_
  obtain ⟨h1, h⟩ := h
  obtain ⟨h2, h⟩ := h
  refine wm_aload_n d_CA_choose_0 rfl rfl ?_
  refine gf_CA_54 rfl d_CA_choose_1 h1 ?_
  refine wm_iload_n d_CA_choose_4 rfl rfl ?_
  refine wm_iload_n d_CA_choose_5 rfl rfl ?_
  refine cf_CA_180 rfl d_CA_choose_6 h2 (Nat.le_of_ble_eq_true rfl) (Ci.mono h (fun x4 M3 h => ?_))
  obtain ⟨h5, hOM3, h⟩ := h
  refine wm_iconst d_CA_choose_9 ?_
  refine wm_icmp_ne (tgt := 21) d_CA_choose_10 rfl h5 ⟨by decide, by decide⟩ (fun c11 => ?_) (fun c11 => ?_)
  · replace h := h.2 c11
    obtain ⟨h12, h⟩ := h
    obtain ⟨h13, h⟩ := h
    obtain ⟨h14, h⟩ := h
    obtain ⟨h15, h⟩ := h
    obtain ⟨M16, e17⟩ : ∃ M16, M16 = mUI M3 (mR M3 (mR M3 a0 9) 3) (Int.toNat l1) l2 := ⟨_, rfl⟩
    replace h := h M16 e17
    refine wm_aload_n d_CA_choose_21 rfl rfl ?_
    refine gf_CA_54 rfl d_CA_choose_22 h12 ?_
    refine gf_CA_226 rfl d_CA_choose_25 h13 ?_
    refine wm_iload_n d_CA_choose_28 rfl rfl ?_
    refine wm_iload_n d_CA_choose_29 rfl rfl ?_
    have hOM16 : mOk M16 := by rw [e17]; exact mOk_UI hOM3 hi_l2
    refine wm_iastE d_CA_choose_30 h14 h15 hi_l2 e17 ?_
    refine wm_return d_CA_choose_31 rfl ?_
    exact ⟨rfl, h⟩
  · replace c11 := Classical.not_not.mp c11
    replace h := h.1 c11
    exact h.elim
theorem d_CA_adopt_0 : decode y_CA_adopt.2.1 0 = .ok (.aload_n 0, 1) := by decide +kernel
theorem d_CA_adopt_1 : decode y_CA_adopt.2.1 1 = .ok (.getfield 70, 3) := by decide +kernel
theorem d_CA_adopt_4 : decode y_CA_adopt.2.1 4 = .ok (.getfield 137, 3) := by decide +kernel
theorem d_CA_adopt_7 : decode y_CA_adopt.2.1 7 = .ok (.ifCond .ne 11, 3) := by decide +kernel
theorem d_CA_adopt_18 : decode y_CA_adopt.2.1 18 = .ok (.iconst 0, 1) := by decide +kernel
theorem d_CA_adopt_19 : decode y_CA_adopt.2.1 19 = .ok (.istore_n 1, 1) := by decide +kernel
theorem d_CA_adopt_20 : decode y_CA_adopt.2.1 20 = .ok (.iload_n 1, 1) := by decide +kernel
theorem d_CA_adopt_21 : decode y_CA_adopt.2.1 21 = .ok (.aload_n 0, 1) := by decide +kernel
theorem d_CA_adopt_22 : decode y_CA_adopt.2.1 22 = .ok (.getfield 54, 3) := by decide +kernel
theorem d_CA_adopt_25 : decode y_CA_adopt.2.1 25 = .ok (.getfield 160, 3) := by decide +kernel
theorem d_CA_adopt_28 : decode y_CA_adopt.2.1 28 = .ok (.if_icmp .ge 31, 3) := by decide +kernel
theorem d_CA_adopt_59 : decode y_CA_adopt.2.1 59 = .ok (.return_, 1) := by decide +kernel
theorem d_CA_adopt_31 : decode y_CA_adopt.2.1 31 = .ok (.aload_n 0, 1) := by decide +kernel
theorem d_CA_adopt_32 : decode y_CA_adopt.2.1 32 = .ok (.getfield 54, 3) := by decide +kernel
theorem d_CA_adopt_35 : decode y_CA_adopt.2.1 35 = .ok (.getfield 226, 3) := by decide +kernel
theorem d_CA_adopt_38 : decode y_CA_adopt.2.1 38 = .ok (.iload_n 1, 1) := by decide +kernel
theorem d_CA_adopt_39 : decode y_CA_adopt.2.1 39 = .ok (.aload_n 0, 1) := by decide +kernel
theorem d_CA_adopt_40 : decode y_CA_adopt.2.1 40 = .ok (.getfield 63, 3) := by decide +kernel
theorem d_CA_adopt_43 : decode y_CA_adopt.2.1 43 = .ok (.getfield 229, 3) := by decide +kernel
theorem d_CA_adopt_46 : decode y_CA_adopt.2.1 46 = .ok (.iload_n 1, 1) := by decide +kernel
theorem d_CA_adopt_47 : decode y_CA_adopt.2.1 47 = .ok (.iaload, 1) := by decide +kernel
theorem d_CA_adopt_48 : decode y_CA_adopt.2.1 48 = .ok (.iconst 0, 1) := by decide +kernel
theorem d_CA_adopt_49 : decode y_CA_adopt.2.1 49 = .ok (.invokestatic 232, 3) := by decide +kernel
theorem d_CA_adopt_52 : decode y_CA_adopt.2.1 52 = .ok (.iastore, 1) := by decide +kernel
theorem d_CA_adopt_53 : decode y_CA_adopt.2.1 53 = .ok (.iinc 1 1, 3) := by decide +kernel
theorem d_CA_adopt_56 : decode y_CA_adopt.2.1 56 = .ok (.goto (-36), 3) := by decide +kernel
def h_CA_adopt_20 (G : mG) (d : Nat) (a0 : Nat) (l1 : Int) (M : mM) (Q : mM → Prop) : Prop := mWm G y_CA_adopt (d + 1) 20 [vr a0, vi l1] [] M (fun r9 M9 => r9 = none ∧ Q M9)
theorem k_CA_adopt {G : mG} {d : Nat} {a0 : Nat} {M : mM} {Q : mM → Prop} (hO : mOk M)
    (h : mK M a0 = 1 ∧ mK M (mR M a0 11) = 13 ∧ ((mI M (mR M a0 11) 1 = 0) → (False)) ∧ (¬ (mI M (mR M a0 11) 1 = 0) → (h_CA_adopt_20 G d a0 0 M Q))) :
    Cv G y_CA_adopt (d + 1) [vr a0] M Q := by
  refine wm_open (y := y_CA_adopt) rfl (Nat.le_of_ble_eq_true rfl) (L := [vr a0, vd]) rfl ?_
  obtain ⟨h1, h⟩ := h
  obtain ⟨h2, h⟩ := h
  refine wm_aload_n d_CA_adopt_0 rfl rfl ?_
  refine gf_CA_70 rfl d_CA_adopt_1 h1 ?_
  refine gf_CA_137 rfl d_CA_adopt_4 h2 ?_
  refine wm_if_ne (tgt := 18) d_CA_adopt_7 rfl (hO _ _).1 (fun c4 => ?_) (fun c4 => ?_)
  · replace h := h.2 c4
    refine wm_iconst d_CA_adopt_18 ?_
    refine wm_istore_n d_CA_adopt_19 rfl (by decide) (L' := [vr a0, vi 0]) rfl ?_
    exact h
  · replace c4 := Classical.not_not.mp c4
    replace h := h.1 c4
    exact h.elim
theorem k_CA_adopt_20 {G : mG} {d : Nat} {a0 : Nat} {l1 : Int} {M : mM} {Q : mM → Prop} (hO : mOk M) (hi_l1 : i32 l1)
    (h : mK M a0 = 1 ∧ mK M (mR M a0 9) = 7 ∧ ((mI M (mR M a0 9) 0 ≤ l1) → (Q M)) ∧ (¬ (mI M (mR M a0 9) 0 ≤ l1) → (mK M (mR M a0 10) = 8 ∧ mK M (mR M (mR M a0 10) 2) = 30 ∧ ((0 : Int) ≤ l1 ∧ l1 < (mN M (mR M (mR M a0 10) 2) : Int)) ∧ mK M (mR M (mR M a0 9) 3) = 30 ∧ ((0 : Int) ≤ l1 ∧ l1 < (mN M (mR M (mR M a0 9) 3) : Int)) ∧ ∀ M19, M19 = mUI M (mR M (mR M a0 9) 3) (Int.toNat l1) (if mI M (mR M (mR M a0 10) 2) (Int.toNat l1) < 0 then 0 else mI M (mR M (mR M a0 10) 2) (Int.toNat l1)) → h_CA_adopt_20 G d a0 (l1 + 1) M19 Q))) :
    h_CA_adopt_20 G d a0 l1 M Q := by
  unfold h_CA_adopt_20
  obtain ⟨h5, h⟩ := h
  obtain ⟨h6, h⟩ := h
  refine wm_iload_n d_CA_adopt_20 rfl rfl ?_
  refine wm_aload_n d_CA_adopt_21 rfl rfl ?_
  refine gf_CA_54 rfl d_CA_adopt_22 h5 ?_
  refine gf_CA_160 rfl d_CA_adopt_25 h6 ?_
  refine wm_icmp_ge (tgt := 59) d_CA_adopt_28 rfl hi_l1 (hO _ _).1 (fun c13 => ?_) (fun c13 => ?_)
  · replace h := h.1 c13
    refine wm_return d_CA_adopt_59 rfl ?_
    exact ⟨rfl, h⟩
  · replace h := h.2 c13
    obtain ⟨h14, h⟩ := h
    obtain ⟨h15, h⟩ := h
    obtain ⟨h16, h⟩ := h
    obtain ⟨h17, h⟩ := h
    obtain ⟨h18, h⟩ := h
    obtain ⟨M19, e20⟩ : ∃ M19, M19 = mUI M (mR M (mR M a0 9) 3) (Int.toNat l1) (if mI M (mR M (mR M a0 10) 2) (Int.toNat l1) < 0 then 0 else mI M (mR M (mR M a0 10) 2) (Int.toNat l1)) := ⟨_, rfl⟩
    replace h := h M19 e20
    refine wm_aload_n d_CA_adopt_31 rfl rfl ?_
    refine gf_CA_54 rfl d_CA_adopt_32 h5 ?_
    refine gf_CA_226 rfl d_CA_adopt_35 h6 ?_
    refine wm_iload_n d_CA_adopt_38 rfl rfl ?_
    refine wm_aload_n d_CA_adopt_39 rfl rfl ?_
    refine gf_CA_63 rfl d_CA_adopt_40 h5 ?_
    refine gf_CA_229 rfl d_CA_adopt_43 h14 ?_
    refine wm_iload_n d_CA_adopt_46 rfl rfl ?_
    refine wm_iald d_CA_adopt_47 h15 h16 ?_
    refine wm_iconst d_CA_adopt_48 ?_
    refine wm_mmax k8_226 (Nat.le_of_ble_eq_true rfl) (hO _ _).1 ⟨by decide, by decide⟩ d_CA_adopt_49 ?_
    have hOM19 : mOk M19 := by rw [e20]; exact mOk_UI hO (m_ite32 ⟨by decide, by decide⟩ (hO _ _).1)
    refine wm_iastE d_CA_adopt_52 h17 h18 (m_ite32 ⟨by decide, by decide⟩ (hO _ _).1) e20 ?_
    refine wm_iinc d_CA_adopt_53 (by decide) rfl (L' := [vr a0, vi (l1 + 1)]) rfl ?_
    refine wm_goto (tgt := 20) d_CA_adopt_56 rfl ?_
    exact h
theorem d_CA_judge_0 : decode y_CA_judge.2.1 0 = .ok (.iload_n 1, 1) := by decide +kernel
theorem d_CA_judge_1 : decode y_CA_judge.2.1 1 = .ok (.iconst 1, 1) := by decide +kernel
theorem d_CA_judge_2 : decode y_CA_judge.2.1 2 = .ok (.if_icmp .eq 16, 3) := by decide +kernel
theorem d_CA_judge_5 : decode y_CA_judge.2.1 5 = .ok (.iload_n 1, 1) := by decide +kernel
theorem d_CA_judge_6 : decode y_CA_judge.2.1 6 = .ok (.iconst 2, 1) := by decide +kernel
theorem d_CA_judge_7 : decode y_CA_judge.2.1 7 = .ok (.if_icmp .eq 11, 3) := by decide +kernel
theorem d_CA_judge_18 : decode y_CA_judge.2.1 18 = .ok (.aload_n 0, 1) := by decide +kernel
theorem d_CA_judge_19 : decode y_CA_judge.2.1 19 = .ok (.getfield 54, 3) := by decide +kernel
theorem d_CA_judge_22 : decode y_CA_judge.2.1 22 = .ok (.getfield 160, 3) := by decide +kernel
theorem d_CA_judge_25 : decode y_CA_judge.2.1 25 = .ok (.ifCond .ne 11, 3) := by decide +kernel
theorem d_CA_judge_36 : decode y_CA_judge.2.1 36 = .ok (.aload_n 0, 1) := by decide +kernel
theorem d_CA_judge_37 : decode y_CA_judge.2.1 37 = .ok (.getfield 63, 3) := by decide +kernel
theorem d_CA_judge_40 : decode y_CA_judge.2.1 40 = .ok (.iload_n 1, 1) := by decide +kernel
theorem d_CA_judge_41 : decode y_CA_judge.2.1 41 = .ok (.aload_n 0, 1) := by decide +kernel
theorem d_CA_judge_42 : decode y_CA_judge.2.1 42 = .ok (.getfield 80, 3) := by decide +kernel
theorem d_CA_judge_45 : decode y_CA_judge.2.1 45 = .ok (.invokevirtual 205, 3) := by decide +kernel
theorem d_CA_judge_48 : decode y_CA_judge.2.1 48 = .ok (.ireturn, 1) := by decide +kernel
theorem k_CA_judge {G : mG} {d : Nat} {a0 : Nat} {l1 : Int} {M : mM} {Q : Int → mM → Prop} (hO : mOk M) (hi_l1 : i32 l1)
    (h : (((l1 = 1) ∨ (l1 = 2)) → (mK M a0 = 1 ∧ mK M (mR M a0 9) = 7 ∧ ((mI M (mR M a0 9) 0 = 0) → (False)) ∧ (¬ (mI M (mR M a0 9) 0 = 0) → (mK M (mR M a0 10) = 8 ∧ Ci G y_So_workOut d [vr (mR M a0 10), vi l1, vr (mR M a0 14)] M (fun x11 M10 => i32 x11 ∧ mOk M10 ∧ (Q x11 M10)))))) ∧ (¬ ((l1 = 1) ∨ (l1 = 2)) → (False))) :
    Ci G y_CA_judge (d + 1) [vr a0, vi l1] M Q := by
  refine wm_open (y := y_CA_judge) rfl (Nat.le_of_ble_eq_true rfl) (L := [vr a0, vi l1]) rfl ?_
  refine wm_iload_n d_CA_judge_0 rfl rfl ?_
  refine wm_iconst d_CA_judge_1 ?_
  have hE0 : ((l1 = 1) ∨ (l1 = 2)) → mWm G y_CA_judge (d + 1) 18 [vr a0, vi l1] [] M (fun r9 M9 => ∃ x9, r9 = some (vi x9) ∧ Q x9 M9) := by
    intro q4
    have h := h.1 q4
    obtain ⟨h5, h⟩ := h
    obtain ⟨h6, h⟩ := h
    refine wm_aload_n d_CA_judge_18 rfl rfl ?_
    refine gf_CA_54 rfl d_CA_judge_19 h5 ?_
    refine gf_CA_160 rfl d_CA_judge_22 h6 ?_
    refine wm_if_ne (tgt := 36) d_CA_judge_25 rfl (hO _ _).1 (fun c8 => ?_) (fun c8 => ?_)
    · replace h := h.2 c8
      obtain ⟨h9, h⟩ := h
      refine wm_aload_n d_CA_judge_36 rfl rfl ?_
      refine gf_CA_63 rfl d_CA_judge_37 h5 ?_
      refine wm_iload_n d_CA_judge_40 rfl rfl ?_
      refine wm_aload_n d_CA_judge_41 rfl rfl ?_
      refine gf_CA_80 rfl d_CA_judge_42 h5 ?_
      refine cf_CA_205 rfl d_CA_judge_45 h9 (Nat.le_of_ble_eq_true rfl) (Ci.mono h (fun x11 M10 h => ?_))
      obtain ⟨h12, hOM10, h⟩ := h
      refine wm_ireturn d_CA_judge_48 rfl rfl ?_
      exact ⟨_, rfl, h⟩
    · replace c8 := Classical.not_not.mp c8
      replace h := h.1 c8
      exact h.elim
  have hE1 : ¬ ((l1 = 1) ∨ (l1 = 2)) → mWm G y_CA_judge (d + 1) 10 [vr a0, vi l1] [] M (fun r9 M9 => ∃ x9, r9 = some (vi x9) ∧ Q x9 M9) := by
    intro q13
    have h := h.2 q13
    exact h.elim
  clear h
  refine wm_icmp_eq (tgt := 18) d_CA_judge_2 rfl hi_l1 ⟨by decide, by decide⟩ (fun c2 => ?_) (fun c2 => ?_)
  · exact hE0 (Or.inl c2)
  · refine wm_iload_n d_CA_judge_5 rfl rfl ?_
    refine wm_iconst d_CA_judge_6 ?_
    refine wm_icmp_eq (tgt := 18) d_CA_judge_7 rfl hi_l1 ⟨by decide, by decide⟩ (fun c1 => ?_) (fun c1 => ?_)
    · exact hE0 (Or.inr c1)
    · exact hE1 (fun z14 => Or.elim z14 c2 c1)
