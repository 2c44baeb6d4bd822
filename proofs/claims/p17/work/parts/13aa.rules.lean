section
theorem d_CA_init_0 : decode y_CA_init.2.1 0 = .ok (.aload_n 0, 1) := dc9_42 (by decide +kernel)
theorem d_CA_init_1 : decode y_CA_init.2.1 1 = .ok (.invokespecial 1, 3) := dc9_183 (by decide +kernel)
theorem d_CA_init_4 : decode y_CA_init.2.1 4 = .ok (.aload_n 0, 1) := dc9_42 (by decide +kernel)
theorem d_CA_init_5 : decode y_CA_init.2.1 5 = .ok (.sipush 256, 3) := dc9_17 (by decide +kernel)
theorem d_CA_init_8 : decode y_CA_init.2.1 8 = .ok (.newarray .char, 2) := by decide +kernel
theorem d_CA_init_10 : decode y_CA_init.2.1 10 = .ok (.putfield 7, 3) := dc9_181 (by decide +kernel)
theorem d_CA_init_13 : decode y_CA_init.2.1 13 = .ok (.aload_n 0, 1) := dc9_42 (by decide +kernel)
theorem d_CA_init_14 : decode y_CA_init.2.1 14 = .ok (.iconst 0, 1) := dc9_3 (by decide +kernel)
theorem d_CA_init_15 : decode y_CA_init.2.1 15 = .ok (.putfield 13, 3) := dc9_181 (by decide +kernel)
theorem d_CA_init_18 : decode y_CA_init.2.1 18 = .ok (.aload_n 0, 1) := dc9_42 (by decide +kernel)
theorem d_CA_init_19 : decode y_CA_init.2.1 19 = .ok (.new 17, 3) := dc9_187 (by decide +kernel)
theorem d_CA_init_22 : decode y_CA_init.2.1 22 = .ok (.dup, 1) := dc9_89 (by decide +kernel)
theorem d_CA_init_23 : decode y_CA_init.2.1 23 = .ok (.invokespecial 19, 3) := dc9_183 (by decide +kernel)
theorem d_CA_init_26 : decode y_CA_init.2.1 26 = .ok (.putfield 20, 3) := dc9_181 (by decide +kernel)
theorem d_CA_init_29 : decode y_CA_init.2.1 29 = .ok (.aload_n 0, 1) := dc9_42 (by decide +kernel)
theorem d_CA_init_30 : decode y_CA_init.2.1 30 = .ok (.new 24, 3) := dc9_187 (by decide +kernel)
theorem d_CA_init_33 : decode y_CA_init.2.1 33 = .ok (.dup, 1) := dc9_89 (by decide +kernel)
theorem d_CA_init_34 : decode y_CA_init.2.1 34 = .ok (.invokespecial 26, 3) := dc9_183 (by decide +kernel)
theorem d_CA_init_37 : decode y_CA_init.2.1 37 = .ok (.putfield 27, 3) := dc9_181 (by decide +kernel)
theorem d_CA_init_40 : decode y_CA_init.2.1 40 = .ok (.aload_n 0, 1) := dc9_42 (by decide +kernel)
theorem d_CA_init_41 : decode y_CA_init.2.1 41 = .ok (.new 31, 3) := dc9_187 (by decide +kernel)
theorem d_CA_init_44 : decode y_CA_init.2.1 44 = .ok (.dup, 1) := dc9_89 (by decide +kernel)
theorem d_CA_init_45 : decode y_CA_init.2.1 45 = .ok (.invokespecial 33, 3) := dc9_183 (by decide +kernel)
theorem d_CA_init_48 : decode y_CA_init.2.1 48 = .ok (.putfield 34, 3) := dc9_181 (by decide +kernel)
theorem d_CA_init_51 : decode y_CA_init.2.1 51 = .ok (.aload_n 0, 1) := dc9_42 (by decide +kernel)
theorem d_CA_init_52 : decode y_CA_init.2.1 52 = .ok (.new 31, 3) := dc9_187 (by decide +kernel)
theorem d_CA_init_55 : decode y_CA_init.2.1 55 = .ok (.dup, 1) := dc9_89 (by decide +kernel)
theorem d_CA_init_56 : decode y_CA_init.2.1 56 = .ok (.invokespecial 33, 3) := dc9_183 (by decide +kernel)
theorem d_CA_init_59 : decode y_CA_init.2.1 59 = .ok (.putfield 38, 3) := dc9_181 (by decide +kernel)
theorem d_CA_init_62 : decode y_CA_init.2.1 62 = .ok (.aload_n 0, 1) := dc9_42 (by decide +kernel)
theorem d_CA_init_63 : decode y_CA_init.2.1 63 = .ok (.iconst 0, 1) := dc9_3 (by decide +kernel)
theorem d_CA_init_64 : decode y_CA_init.2.1 64 = .ok (.putfield 41, 3) := dc9_181 (by decide +kernel)
theorem d_CA_init_67 : decode y_CA_init.2.1 67 = .ok (.aload_n 0, 1) := dc9_42 (by decide +kernel)
theorem d_CA_init_68 : decode y_CA_init.2.1 68 = .ok (.iconst (-1), 1) := dc9_2 (by decide +kernel)
theorem d_CA_init_69 : decode y_CA_init.2.1 69 = .ok (.putfield 45, 3) := dc9_181 (by decide +kernel)
theorem d_CA_init_72 : decode y_CA_init.2.1 72 = .ok (.aload_n 0, 1) := dc9_42 (by decide +kernel)
theorem d_CA_init_73 : decode y_CA_init.2.1 73 = .ok (.iconst (-1), 1) := dc9_2 (by decide +kernel)
theorem d_CA_init_74 : decode y_CA_init.2.1 74 = .ok (.putfield 48, 3) := dc9_181 (by decide +kernel)
theorem d_CA_init_77 : decode y_CA_init.2.1 77 = .ok (.aload_n 0, 1) := dc9_42 (by decide +kernel)
theorem d_CA_init_78 : decode y_CA_init.2.1 78 = .ok (.new 51, 3) := dc9_187 (by decide +kernel)
theorem d_CA_init_81 : decode y_CA_init.2.1 81 = .ok (.dup, 1) := dc9_89 (by decide +kernel)
theorem d_CA_init_82 : decode y_CA_init.2.1 82 = .ok (.invokespecial 53, 3) := dc9_183 (by decide +kernel)
theorem d_CA_init_85 : decode y_CA_init.2.1 85 = .ok (.putfield 54, 3) := dc9_181 (by decide +kernel)
theorem d_CA_init_88 : decode y_CA_init.2.1 88 = .ok (.aload_n 0, 1) := dc9_42 (by decide +kernel)
theorem d_CA_init_89 : decode y_CA_init.2.1 89 = .ok (.new 58, 3) := dc9_187 (by decide +kernel)
theorem d_CA_init_92 : decode y_CA_init.2.1 92 = .ok (.dup, 1) := dc9_89 (by decide +kernel)
theorem d_CA_init_93 : decode y_CA_init.2.1 93 = .ok (.aload_n 0, 1) := dc9_42 (by decide +kernel)
theorem d_CA_init_94 : decode y_CA_init.2.1 94 = .ok (.getfield 54, 3) := dc9_180 (by decide +kernel)
theorem d_CA_init_97 : decode y_CA_init.2.1 97 = .ok (.invokespecial 60, 3) := dc9_183 (by decide +kernel)
theorem d_CA_init_100 : decode y_CA_init.2.1 100 = .ok (.putfield 63, 3) := dc9_181 (by decide +kernel)
theorem d_CA_init_103 : decode y_CA_init.2.1 103 = .ok (.aload_n 0, 1) := dc9_42 (by decide +kernel)
theorem d_CA_init_104 : decode y_CA_init.2.1 104 = .ok (.new 67, 3) := dc9_187 (by decide +kernel)
theorem d_CA_init_107 : decode y_CA_init.2.1 107 = .ok (.dup, 1) := dc9_89 (by decide +kernel)
theorem d_CA_init_108 : decode y_CA_init.2.1 108 = .ok (.invokespecial 69, 3) := dc9_183 (by decide +kernel)
theorem d_CA_init_111 : decode y_CA_init.2.1 111 = .ok (.putfield 70, 3) := dc9_181 (by decide +kernel)
theorem d_CA_init_114 : decode y_CA_init.2.1 114 = .ok (.aload_n 0, 1) := dc9_42 (by decide +kernel)
theorem d_CA_init_115 : decode y_CA_init.2.1 115 = .ok (.new 67, 3) := dc9_187 (by decide +kernel)
theorem d_CA_init_118 : decode y_CA_init.2.1 118 = .ok (.dup, 1) := dc9_89 (by decide +kernel)
theorem d_CA_init_119 : decode y_CA_init.2.1 119 = .ok (.invokespecial 69, 3) := dc9_183 (by decide +kernel)
theorem d_CA_init_122 : decode y_CA_init.2.1 122 = .ok (.putfield 74, 3) := dc9_181 (by decide +kernel)
theorem d_CA_init_125 : decode y_CA_init.2.1 125 = .ok (.aload_n 0, 1) := dc9_42 (by decide +kernel)
theorem d_CA_init_126 : decode y_CA_init.2.1 126 = .ok (.new 67, 3) := dc9_187 (by decide +kernel)
theorem d_CA_init_129 : decode y_CA_init.2.1 129 = .ok (.dup, 1) := dc9_89 (by decide +kernel)
theorem d_CA_init_130 : decode y_CA_init.2.1 130 = .ok (.invokespecial 69, 3) := dc9_183 (by decide +kernel)
theorem d_CA_init_133 : decode y_CA_init.2.1 133 = .ok (.putfield 77, 3) := dc9_181 (by decide +kernel)
theorem d_CA_init_136 : decode y_CA_init.2.1 136 = .ok (.aload_n 0, 1) := dc9_42 (by decide +kernel)
theorem d_CA_init_137 : decode y_CA_init.2.1 137 = .ok (.new 67, 3) := dc9_187 (by decide +kernel)
theorem d_CA_init_140 : decode y_CA_init.2.1 140 = .ok (.dup, 1) := dc9_89 (by decide +kernel)
theorem d_CA_init_141 : decode y_CA_init.2.1 141 = .ok (.invokespecial 69, 3) := dc9_183 (by decide +kernel)
theorem d_CA_init_144 : decode y_CA_init.2.1 144 = .ok (.putfield 80, 3) := dc9_181 (by decide +kernel)
theorem d_CA_init_147 : decode y_CA_init.2.1 147 = .ok (.aload_n 0, 1) := dc9_42 (by decide +kernel)
theorem d_CA_init_148 : decode y_CA_init.2.1 148 = .ok (.new 83, 3) := dc9_187 (by decide +kernel)
theorem d_CA_init_151 : decode y_CA_init.2.1 151 = .ok (.dup, 1) := dc9_89 (by decide +kernel)
theorem d_CA_init_152 : decode y_CA_init.2.1 152 = .ok (.invokespecial 85, 3) := dc9_183 (by decide +kernel)
theorem d_CA_init_155 : decode y_CA_init.2.1 155 = .ok (.putfield 86, 3) := dc9_181 (by decide +kernel)
theorem d_CA_init_158 : decode y_CA_init.2.1 158 = .ok (.aload_n 0, 1) := dc9_42 (by decide +kernel)
theorem d_CA_init_159 : decode y_CA_init.2.1 159 = .ok (.new 90, 3) := dc9_187 (by decide +kernel)
theorem d_CA_init_162 : decode y_CA_init.2.1 162 = .ok (.dup, 1) := dc9_89 (by decide +kernel)
theorem d_CA_init_163 : decode y_CA_init.2.1 163 = .ok (.invokespecial 92, 3) := dc9_183 (by decide +kernel)
theorem d_CA_init_166 : decode y_CA_init.2.1 166 = .ok (.putfield 93, 3) := dc9_181 (by decide +kernel)
theorem d_CA_init_169 : decode y_CA_init.2.1 169 = .ok (.aload_n 0, 1) := dc9_42 (by decide +kernel)
theorem d_CA_init_170 : decode y_CA_init.2.1 170 = .ok (.sipush 400, 3) := dc9_17 (by decide +kernel)
theorem d_CA_init_173 : decode y_CA_init.2.1 173 = .ok (.newarray .char, 2) := by decide +kernel
theorem d_CA_init_175 : decode y_CA_init.2.1 175 = .ok (.putfield 97, 3) := dc9_181 (by decide +kernel)
theorem d_CA_init_178 : decode y_CA_init.2.1 178 = .ok (.aload_n 0, 1) := dc9_42 (by decide +kernel)
theorem d_CA_init_179 : decode y_CA_init.2.1 179 = .ok (.iconst 0, 1) := dc9_3 (by decide +kernel)
theorem d_CA_init_180 : decode y_CA_init.2.1 180 = .ok (.putfield 100, 3) := dc9_181 (by decide +kernel)
theorem d_CA_init_183 : decode y_CA_init.2.1 183 = .ok (.return_, 1) := dc9_177 (by decide +kernel)
theorem k_CA_init {G : mG} {d : Nat} {a0 : Nat} {M : mM} {Q : mM → Prop} (hO : mOk M)
    (h : 0 < a0 ∧ ∀ M2, M2 = mNew M 32 256 256 → mK M2 a0 = 1 ∧ ∀ M5, M5 = mUR M2 a0 0 (mZ M) → ∀ M7, M7 = mUI M5 a0 1 0 → ∀ M9, M9 = mNew M7 2 0 6 → Cv G y_Wo_init d [vr (mZ M7)] M9 (fun M11 => mOk M11 ∧ (mK M11 a0 = 1 ∧ ∀ M15, M15 = mUR M11 a0 2 (mZ M7) → ∀ M17, M17 = mNew M15 3 0 9 → Cv G y_TR_init d [vr (mZ M15)] M17 (fun M19 => mOk M19 ∧ (mK M19 a0 = 1 ∧ ∀ M23, M23 = mUR M19 a0 3 (mZ M15) → ∀ M25, M25 = mNew M23 6 0 20 → Cv G y_Pr_init d [vr (mZ M23)] M25 (fun M27 => mOk M27 ∧ (mK M27 a0 = 1 ∧ ∀ M31, M31 = mUR M27 a0 4 (mZ M23) → ∀ M33, M33 = mNew M31 6 0 20 → Cv G y_Pr_init d [vr (mZ M31)] M33 (fun M35 => mOk M35 ∧ (mK M35 a0 = 1 ∧ ∀ M39, M39 = mUR M35 a0 5 (mZ M31) → ∀ M41, M41 = mUI M39 a0 6 0 → ∀ M43, M43 = mUI M41 a0 7 (-1) → ∀ M45, M45 = mUI M43 a0 8 (-1) → ∀ M47, M47 = mNew M45 7 0 19 → Cv G y_Ga_init d [vr (mZ M45)] M47 (fun M49 => mOk M49 ∧ (mK M49 a0 = 1 ∧ ∀ M53, M53 = mUR M49 a0 9 (mZ M45) → ∀ M55, M55 = mNew M53 8 0 18 → mK M55 a0 = 1 ∧ Cv G y_So_init d [vr (mZ M53), vr (mR M55 a0 9)] M55 (fun M58 => mOk M58 ∧ (mK M58 a0 = 1 ∧ ∀ M62, M62 = mUR M58 a0 10 (mZ M53) → ∀ M64, M64 = mNew M62 13 0 2 → Cv G y_Fs_init d [vr (mZ M62)] M64 (fun M66 => mOk M66 ∧ (mK M66 a0 = 1 ∧ ∀ M70, M70 = mUR M66 a0 11 (mZ M62) → ∀ M72, M72 = mNew M70 13 0 2 → Cv G y_Fs_init d [vr (mZ M70)] M72 (fun M74 => mOk M74 ∧ (mK M74 a0 = 1 ∧ ∀ M78, M78 = mUR M74 a0 12 (mZ M70) → ∀ M80, M80 = mNew M78 13 0 2 → Cv G y_Fs_init d [vr (mZ M78)] M80 (fun M82 => mOk M82 ∧ (mK M82 a0 = 1 ∧ ∀ M86, M86 = mUR M82 a0 13 (mZ M78) → ∀ M88, M88 = mNew M86 13 0 2 → Cv G y_Fs_init d [vr (mZ M86)] M88 (fun M90 => mOk M90 ∧ (mK M90 a0 = 1 ∧ ∀ M94, M94 = mUR M90 a0 14 (mZ M86) → ∀ M96, M96 = mNew M94 10 0 2 → Cv G y_Na_init d [vr (mZ M94)] M96 (fun M98 => mOk M98 ∧ (mK M98 a0 = 1 ∧ ∀ M102, M102 = mUR M98 a0 15 (mZ M94) → ∀ M104, M104 = mNew M102 11 0 3 → Cv G y_Fr_init d [vr (mZ M102)] M104 (fun M106 => mOk M106 ∧ (mK M106 a0 = 1 ∧ ∀ M110, M110 = mUR M106 a0 16 (mZ M102) → ∀ M112, M112 = mNew M110 32 400 400 → mK M112 a0 = 1 ∧ ∀ M115, M115 = mUR M112 a0 17 (mZ M110) → ∀ M117, M117 = mUI M115 a0 18 0 → Q M117))))))))))))))))))))))))) :
    Cv G y_CA_init (d + 1) [vr a0] M Q := by
  refine wm_open (y := y_CA_init) rfl (Nat.le_of_ble_eq_true rfl) (L := [vr a0]) rfl ?_
  obtain ⟨h1, h⟩ := h
  obtain ⟨M2, e3⟩ : ∃ M2, M2 = mNew M 32 256 256 := ⟨_, rfl⟩
  replace h := h M2 e3
  obtain ⟨h4, h⟩ := h
  obtain ⟨M5, e6⟩ : ∃ M5, M5 = mUR M2 a0 0 (mZ M) := ⟨_, rfl⟩
  replace h := h M5 e6
  obtain ⟨M7, e8⟩ : ∃ M7, M7 = mUI M5 a0 1 0 := ⟨_, rfl⟩
  replace h := h M7 e8
  obtain ⟨M9, e10⟩ : ∃ M9, M9 = mNew M7 2 0 6 := ⟨_, rfl⟩
  replace h := h M9 e10
  refine wm_aload_n d_CA_init_0 rfl rfl ?_
  refine wm_objInit trivial k1_45 kO_inst kO_code (Nat.le_of_ble_eq_true rfl) d_CA_init_1 h1 ?_
  refine wm_aload_n d_CA_init_4 rfl rfl ?_
  refine wm_sipush d_CA_init_5 (by decide) ?_
  have hOM2 : mOk M2 := by rw [e3]; exact mOk_New hO
  refine wm_newarrE 2 (atype := .char) (ty := .char) rfl rfl (fun _ => rfl) rfl rfl (by decide) k1_81 ⟨by decide, by decide⟩ d_CA_init_8 e3 ?_
  have hOM5 : mOk M5 := by rw [e6]; exact mOk_UR hOM2
  refine pf_CA_7 rfl d_CA_init_10 h4 e6 ?_
  refine wm_aload_n d_CA_init_13 rfl rfl ?_
  refine wm_iconst d_CA_init_14 ?_
  have hOM7 : mOk M7 := by rw [e8]; exact mOk_UI hOM5 ⟨by decide, by decide⟩
  refine pf_CA_13 rfl d_CA_init_15 (by rw [e6]; exact h4) ⟨by decide, by decide⟩ e8 ?_
  refine wm_aload_n d_CA_init_18 rfl rfl ?_
  have hOM9 : mOk M9 := by rw [e10]; exact mOk_New hOM7
  refine nf_CA_17 rfl d_CA_init_19 e10 ?_
  refine wm_dup d_CA_init_22 rfl ?_
  refine cf_CA_19 rfl d_CA_init_23 (by rw [e10]; exact if_pos rfl) (Nat.le_of_ble_eq_true rfl) (Cv.mono h (fun M11 h => ?_))
  obtain ⟨hOM11, h⟩ := h
  obtain ⟨h14, h⟩ := h
  obtain ⟨M15, e16⟩ : ∃ M15, M15 = mUR M11 a0 2 (mZ M7) := ⟨_, rfl⟩
  replace h := h M15 e16
  obtain ⟨M17, e18⟩ : ∃ M17, M17 = mNew M15 3 0 9 := ⟨_, rfl⟩
  replace h := h M17 e18
  have hOM15 : mOk M15 := by rw [e16]; exact mOk_UR hOM11
  refine pf_CA_20 rfl rfl d_CA_init_26 h14 e16 ?_
  refine wm_aload_n d_CA_init_29 rfl rfl ?_
  have hOM17 : mOk M17 := by rw [e18]; exact mOk_New hOM15
  refine nf_CA_24 rfl d_CA_init_30 e18 ?_
  refine wm_dup d_CA_init_33 rfl ?_
  refine cf_CA_26 rfl d_CA_init_34 (by rw [e18]; exact if_pos rfl) (Nat.le_of_ble_eq_true rfl) (Cv.mono h (fun M19 h => ?_))
  obtain ⟨hOM19, h⟩ := h
  obtain ⟨h22, h⟩ := h
  obtain ⟨M23, e24⟩ : ∃ M23, M23 = mUR M19 a0 3 (mZ M15) := ⟨_, rfl⟩
  replace h := h M23 e24
  obtain ⟨M25, e26⟩ : ∃ M25, M25 = mNew M23 6 0 20 := ⟨_, rfl⟩
  replace h := h M25 e26
  have hOM23 : mOk M23 := by rw [e24]; exact mOk_UR hOM19
  refine pf_CA_27 rfl rfl d_CA_init_37 h22 e24 ?_
  refine wm_aload_n d_CA_init_40 rfl rfl ?_
  have hOM25 : mOk M25 := by rw [e26]; exact mOk_New hOM23
  refine nf_CA_31 rfl d_CA_init_41 e26 ?_
  refine wm_dup d_CA_init_44 rfl ?_
  refine cf_CA_33 rfl d_CA_init_45 (by rw [e26]; exact if_pos rfl) (Nat.le_of_ble_eq_true rfl) (Cv.mono h (fun M27 h => ?_))
  obtain ⟨hOM27, h⟩ := h
  obtain ⟨h30, h⟩ := h
  obtain ⟨M31, e32⟩ : ∃ M31, M31 = mUR M27 a0 4 (mZ M23) := ⟨_, rfl⟩
  replace h := h M31 e32
  obtain ⟨M33, e34⟩ : ∃ M33, M33 = mNew M31 6 0 20 := ⟨_, rfl⟩
  replace h := h M33 e34
  have hOM31 : mOk M31 := by rw [e32]; exact mOk_UR hOM27
  refine pf_CA_34 rfl d_CA_init_48 h30 e32 ?_
  refine wm_aload_n d_CA_init_51 rfl rfl ?_
  have hOM33 : mOk M33 := by rw [e34]; exact mOk_New hOM31
  refine nf_CA_31 rfl d_CA_init_52 e34 ?_
  refine wm_dup d_CA_init_55 rfl ?_
  refine cf_CA_33 rfl d_CA_init_56 (by rw [e34]; exact if_pos rfl) (Nat.le_of_ble_eq_true rfl) (Cv.mono h (fun M35 h => ?_))
  obtain ⟨hOM35, h⟩ := h
  obtain ⟨h38, h⟩ := h
  obtain ⟨M39, e40⟩ : ∃ M39, M39 = mUR M35 a0 5 (mZ M31) := ⟨_, rfl⟩
  replace h := h M39 e40
  obtain ⟨M41, e42⟩ : ∃ M41, M41 = mUI M39 a0 6 0 := ⟨_, rfl⟩
  replace h := h M41 e42
  obtain ⟨M43, e44⟩ : ∃ M43, M43 = mUI M41 a0 7 (-1) := ⟨_, rfl⟩
  replace h := h M43 e44
  obtain ⟨M45, e46⟩ : ∃ M45, M45 = mUI M43 a0 8 (-1) := ⟨_, rfl⟩
  replace h := h M45 e46
  obtain ⟨M47, e48⟩ : ∃ M47, M47 = mNew M45 7 0 19 := ⟨_, rfl⟩
  replace h := h M47 e48
  have hOM39 : mOk M39 := by rw [e40]; exact mOk_UR hOM35
  refine pf_CA_38 rfl d_CA_init_59 h38 e40 ?_
  refine wm_aload_n d_CA_init_62 rfl rfl ?_
  refine wm_iconst d_CA_init_63 ?_
  have hOM41 : mOk M41 := by rw [e42]; exact mOk_UI hOM39 (m_b32 (by decide))
  refine pf_CA_41 rfl d_CA_init_64 (by rw [e40]; exact h38) (by decide) e42 ?_
  refine wm_aload_n d_CA_init_67 rfl rfl ?_
  refine wm_iconst d_CA_init_68 ?_
  have hOM43 : mOk M43 := by rw [e44]; exact mOk_UI hOM41 ⟨by decide, by decide⟩
  refine pf_CA_45 rfl d_CA_init_69 (by rw [e42, e40]; exact h38) ⟨by decide, by decide⟩ e44 ?_
  refine wm_aload_n d_CA_init_72 rfl rfl ?_
  refine wm_iconst d_CA_init_73 ?_
  have hOM45 : mOk M45 := by rw [e46]; exact mOk_UI hOM43 ⟨by decide, by decide⟩
  refine pf_CA_48 rfl d_CA_init_74 (by rw [e44, e42, e40]; exact h38) ⟨by decide, by decide⟩ e46 ?_
  refine wm_aload_n d_CA_init_77 rfl rfl ?_
  have hOM47 : mOk M47 := by rw [e48]; exact mOk_New hOM45
  refine nf_CA_51 rfl d_CA_init_78 e48 ?_
  refine wm_dup d_CA_init_81 rfl ?_
  refine cf_CA_53 rfl d_CA_init_82 (by rw [e48]; exact if_pos rfl) (Nat.le_of_ble_eq_true rfl) (Cv.mono h (fun M49 h => ?_))
  obtain ⟨hOM49, h⟩ := h
  obtain ⟨h52, h⟩ := h
  obtain ⟨M53, e54⟩ : ∃ M53, M53 = mUR M49 a0 9 (mZ M45) := ⟨_, rfl⟩
  replace h := h M53 e54
  obtain ⟨M55, e56⟩ : ∃ M55, M55 = mNew M53 8 0 18 := ⟨_, rfl⟩
  replace h := h M55 e56
  obtain ⟨h57, h⟩ := h
  have hOM53 : mOk M53 := by rw [e54]; exact mOk_UR hOM49
  refine pf_CA_54 rfl rfl d_CA_init_85 h52 e54 ?_
  refine wm_aload_n d_CA_init_88 rfl rfl ?_
  have hOM55 : mOk M55 := by rw [e56]; exact mOk_New hOM53
  refine nf_CA_58 rfl d_CA_init_89 e56 ?_
  refine wm_dup d_CA_init_92 rfl ?_
  refine wm_aload_n d_CA_init_93 rfl rfl ?_
  refine gf_CA_54 rfl d_CA_init_94 h57 ?_
  refine cf_CA_60 rfl d_CA_init_97 (by rw [e56]; exact if_pos rfl) (Nat.le_of_ble_eq_true rfl) (Cv.mono h (fun M58 h => ?_))
  obtain ⟨hOM58, h⟩ := h
  obtain ⟨h61, h⟩ := h
  obtain ⟨M62, e63⟩ : ∃ M62, M62 = mUR M58 a0 10 (mZ M53) := ⟨_, rfl⟩
  replace h := h M62 e63
  obtain ⟨M64, e65⟩ : ∃ M64, M64 = mNew M62 13 0 2 := ⟨_, rfl⟩
  replace h := h M64 e65
  have hOM62 : mOk M62 := by rw [e63]; exact mOk_UR hOM58
  refine pf_CA_63 rfl rfl d_CA_init_100 h61 e63 ?_
  refine wm_aload_n d_CA_init_103 rfl rfl ?_
  have hOM64 : mOk M64 := by rw [e65]; exact mOk_New hOM62
  refine nf_CA_67 rfl d_CA_init_104 e65 ?_
  refine wm_dup d_CA_init_107 rfl ?_
  refine cf_CA_69 rfl d_CA_init_108 (by rw [e65]; exact if_pos rfl) (Nat.le_of_ble_eq_true rfl) (Cv.mono h (fun M66 h => ?_))
  obtain ⟨hOM66, h⟩ := h
  obtain ⟨h69, h⟩ := h
  obtain ⟨M70, e71⟩ : ∃ M70, M70 = mUR M66 a0 11 (mZ M62) := ⟨_, rfl⟩
  replace h := h M70 e71
  obtain ⟨M72, e73⟩ : ∃ M72, M72 = mNew M70 13 0 2 := ⟨_, rfl⟩
  replace h := h M72 e73
  have hOM70 : mOk M70 := by rw [e71]; exact mOk_UR hOM66
  refine pf_CA_70 rfl rfl d_CA_init_111 h69 e71 ?_
  refine wm_aload_n d_CA_init_114 rfl rfl ?_
  have hOM72 : mOk M72 := by rw [e73]; exact mOk_New hOM70
  refine nf_CA_67 rfl d_CA_init_115 e73 ?_
  refine wm_dup d_CA_init_118 rfl ?_
  refine cf_CA_69 rfl d_CA_init_119 (by rw [e73]; exact if_pos rfl) (Nat.le_of_ble_eq_true rfl) (Cv.mono h (fun M74 h => ?_))
  obtain ⟨hOM74, h⟩ := h
  obtain ⟨h77, h⟩ := h
  obtain ⟨M78, e79⟩ : ∃ M78, M78 = mUR M74 a0 12 (mZ M70) := ⟨_, rfl⟩
  replace h := h M78 e79
  obtain ⟨M80, e81⟩ : ∃ M80, M80 = mNew M78 13 0 2 := ⟨_, rfl⟩
  replace h := h M80 e81
  have hOM78 : mOk M78 := by rw [e79]; exact mOk_UR hOM74
  refine pf_CA_74 rfl d_CA_init_122 h77 e79 ?_
  refine wm_aload_n d_CA_init_125 rfl rfl ?_
  have hOM80 : mOk M80 := by rw [e81]; exact mOk_New hOM78
  refine nf_CA_67 rfl d_CA_init_126 e81 ?_
  refine wm_dup d_CA_init_129 rfl ?_
  refine cf_CA_69 rfl d_CA_init_130 (by rw [e81]; exact if_pos rfl) (Nat.le_of_ble_eq_true rfl) (Cv.mono h (fun M82 h => ?_))
  obtain ⟨hOM82, h⟩ := h
  obtain ⟨h85, h⟩ := h
  obtain ⟨M86, e87⟩ : ∃ M86, M86 = mUR M82 a0 13 (mZ M78) := ⟨_, rfl⟩
  replace h := h M86 e87
  obtain ⟨M88, e89⟩ : ∃ M88, M88 = mNew M86 13 0 2 := ⟨_, rfl⟩
  replace h := h M88 e89
  have hOM86 : mOk M86 := by rw [e87]; exact mOk_UR hOM82
  refine pf_CA_77 rfl d_CA_init_133 h85 e87 ?_
  refine wm_aload_n d_CA_init_136 rfl rfl ?_
  have hOM88 : mOk M88 := by rw [e89]; exact mOk_New hOM86
  refine nf_CA_67 rfl d_CA_init_137 e89 ?_
  refine wm_dup d_CA_init_140 rfl ?_
  refine cf_CA_69 rfl d_CA_init_141 (by rw [e89]; exact if_pos rfl) (Nat.le_of_ble_eq_true rfl) (Cv.mono h (fun M90 h => ?_))
  obtain ⟨hOM90, h⟩ := h
  obtain ⟨h93, h⟩ := h
  obtain ⟨M94, e95⟩ : ∃ M94, M94 = mUR M90 a0 14 (mZ M86) := ⟨_, rfl⟩
  replace h := h M94 e95
  obtain ⟨M96, e97⟩ : ∃ M96, M96 = mNew M94 10 0 2 := ⟨_, rfl⟩
  replace h := h M96 e97
  have hOM94 : mOk M94 := by rw [e95]; exact mOk_UR hOM90
  refine pf_CA_80 rfl rfl d_CA_init_144 h93 e95 ?_
  refine wm_aload_n d_CA_init_147 rfl rfl ?_
  have hOM96 : mOk M96 := by rw [e97]; exact mOk_New hOM94
  refine nf_CA_83 rfl d_CA_init_148 e97 ?_
  refine wm_dup d_CA_init_151 rfl ?_
  refine cf_CA_85 rfl d_CA_init_152 (by rw [e97]; exact if_pos rfl) (Nat.le_of_ble_eq_true rfl) (Cv.mono h (fun M98 h => ?_))
  obtain ⟨hOM98, h⟩ := h
  obtain ⟨h101, h⟩ := h
  obtain ⟨M102, e103⟩ : ∃ M102, M102 = mUR M98 a0 15 (mZ M94) := ⟨_, rfl⟩
  replace h := h M102 e103
  obtain ⟨M104, e105⟩ : ∃ M104, M104 = mNew M102 11 0 3 := ⟨_, rfl⟩
  replace h := h M104 e105
  have hOM102 : mOk M102 := by rw [e103]; exact mOk_UR hOM98
  refine pf_CA_86 rfl rfl d_CA_init_155 h101 e103 ?_
  refine wm_aload_n d_CA_init_158 rfl rfl ?_
  have hOM104 : mOk M104 := by rw [e105]; exact mOk_New hOM102
  refine nf_CA_90 rfl d_CA_init_159 e105 ?_
  refine wm_dup d_CA_init_162 rfl ?_
  refine cf_CA_92 rfl d_CA_init_163 (by rw [e105]; exact if_pos rfl) (Nat.le_of_ble_eq_true rfl) (Cv.mono h (fun M106 h => ?_))
  obtain ⟨hOM106, h⟩ := h
  obtain ⟨h109, h⟩ := h
  obtain ⟨M110, e111⟩ : ∃ M110, M110 = mUR M106 a0 16 (mZ M102) := ⟨_, rfl⟩
  replace h := h M110 e111
  obtain ⟨M112, e113⟩ : ∃ M112, M112 = mNew M110 32 400 400 := ⟨_, rfl⟩
  replace h := h M112 e113
  obtain ⟨h114, h⟩ := h
  obtain ⟨M115, e116⟩ : ∃ M115, M115 = mUR M112 a0 17 (mZ M110) := ⟨_, rfl⟩
  replace h := h M115 e116
  obtain ⟨M117, e118⟩ : ∃ M117, M117 = mUI M115 a0 18 0 := ⟨_, rfl⟩
  replace h := h M117 e118
  have hOM110 : mOk M110 := by rw [e111]; exact mOk_UR hOM106
  refine pf_CA_93 rfl rfl d_CA_init_166 h109 e111 ?_
  refine wm_aload_n d_CA_init_169 rfl rfl ?_
  refine wm_sipush d_CA_init_170 (by decide) ?_
  have hOM112 : mOk M112 := by rw [e113]; exact mOk_New hOM110
  refine wm_newarrE 2 (atype := .char) (ty := .char) rfl rfl (fun _ => rfl) rfl rfl (by decide) k1_81 ⟨by decide, by decide⟩ d_CA_init_173 e113 ?_
  have hOM115 : mOk M115 := by rw [e116]; exact mOk_UR hOM112
  refine pf_CA_97 rfl rfl d_CA_init_175 h114 e116 ?_
  refine wm_aload_n d_CA_init_178 rfl rfl ?_
  refine wm_iconst d_CA_init_179 ?_
  have hOM117 : mOk M117 := by rw [e118]; exact mOk_UI hOM115 ⟨by decide, by decide⟩
  refine pf_CA_100 rfl d_CA_init_180 (by rw [e116]; exact h114) ⟨by decide, by decide⟩ e118 ?_
  refine wm_return d_CA_init_183 rfl ?_
  exact ⟨rfl, h⟩
theorem d_CA_feed_0 : decode y_CA_feed.2.1 0 = .ok (.aload_n 0, 1) := dc9_42 (by decide +kernel)
theorem d_CA_feed_1 : decode y_CA_feed.2.1 1 = .ok (.getfield 13, 3) := dc9_180 (by decide +kernel)
theorem d_CA_feed_4 : decode y_CA_feed.2.1 4 = .ok (.bipush 20, 2) := dc9_16 (by decide +kernel)
theorem d_CA_feed_6 : decode y_CA_feed.2.1 6 = .ok (.iadd, 1) := dc9_96 (by decide +kernel)
theorem d_CA_feed_7 : decode y_CA_feed.2.1 7 = .ok (.sipush 16384, 3) := dc9_17 (by decide +kernel)
theorem d_CA_feed_10 : decode y_CA_feed.2.1 10 = .ok (.if_icmp .le 5, 3) := dc9_164 (by decide +kernel)
theorem d_CA_feed_15 : decode y_CA_feed.2.1 15 = .ok (.aload_n 0, 1) := dc9_42 (by decide +kernel)
theorem d_CA_feed_16 : decode y_CA_feed.2.1 16 = .ok (.getfield 13, 3) := dc9_180 (by decide +kernel)
theorem d_CA_feed_19 : decode y_CA_feed.2.1 19 = .ok (.bipush 20, 2) := dc9_16 (by decide +kernel)
theorem d_CA_feed_21 : decode y_CA_feed.2.1 21 = .ok (.iadd, 1) := dc9_96 (by decide +kernel)
theorem d_CA_feed_22 : decode y_CA_feed.2.1 22 = .ok (.aload_n 0, 1) := dc9_42 (by decide +kernel)
theorem d_CA_feed_23 : decode y_CA_feed.2.1 23 = .ok (.getfield 7, 3) := dc9_180 (by decide +kernel)
theorem d_CA_feed_26 : decode y_CA_feed.2.1 26 = .ok (.arraylength, 1) := dc9_190 (by decide +kernel)
theorem d_CA_feed_13 : decode y_CA_feed.2.1 13 = .ok (.iconst (-1), 1) := dc9_2 (by decide +kernel)
theorem d_CA_feed_14 : decode y_CA_feed.2.1 14 = .ok (.ireturn, 1) := dc9_172 (by decide +kernel)
theorem d_CA_feed_27 : decode y_CA_feed.2.1 27 = .ok (.if_icmp .le 11, 3) := dc9_164 (by decide +kernel)
theorem d_CA_feed_30 : decode y_CA_feed.2.1 30 = .ok (.aload_n 0, 1) := dc9_42 (by decide +kernel)
theorem d_CA_feed_31 : decode y_CA_feed.2.1 31 = .ok (.aload_n 0, 1) := dc9_42 (by decide +kernel)
theorem d_CA_feed_38 : decode y_CA_feed.2.1 38 = .ok (.aload_n 0, 1) := dc9_42 (by decide +kernel)
theorem d_CA_feed_39 : decode y_CA_feed.2.1 39 = .ok (.iload_n 1, 1) := dc9_27 (by decide +kernel)
theorem d_CA_feed_40 : decode y_CA_feed.2.1 40 = .ok (.invokevirtual 107, 3) := dc9_182 (by decide +kernel)
theorem d_CA_feed_43 : decode y_CA_feed.2.1 43 = .ok (.aload_n 0, 1) := dc9_42 (by decide +kernel)
theorem d_CA_feed_44 : decode y_CA_feed.2.1 44 = .ok (.iload_n 2, 1) := dc9_28 (by decide +kernel)
theorem d_CA_feed_45 : decode y_CA_feed.2.1 45 = .ok (.invokevirtual 107, 3) := dc9_182 (by decide +kernel)
theorem d_CA_feed_48 : decode y_CA_feed.2.1 48 = .ok (.aload_n 0, 1) := dc9_42 (by decide +kernel)
theorem d_CA_feed_49 : decode y_CA_feed.2.1 49 = .ok (.iload_n 3, 1) := dc9_29 (by decide +kernel)
theorem d_CA_feed_50 : decode y_CA_feed.2.1 50 = .ok (.invokevirtual 107, 3) := dc9_182 (by decide +kernel)
theorem d_CA_feed_53 : decode y_CA_feed.2.1 53 = .ok (.aload_n 0, 1) := dc9_42 (by decide +kernel)
theorem d_CA_feed_54 : decode y_CA_feed.2.1 54 = .ok (.iload 4, 2) := dc9_21 (by decide +kernel)
theorem d_CA_feed_56 : decode y_CA_feed.2.1 56 = .ok (.invokevirtual 107, 3) := dc9_182 (by decide +kernel)
theorem d_CA_feed_59 : decode y_CA_feed.2.1 59 = .ok (.aload_n 0, 1) := dc9_42 (by decide +kernel)
theorem d_CA_feed_60 : decode y_CA_feed.2.1 60 = .ok (.iload 5, 2) := dc9_21 (by decide +kernel)
theorem d_CA_feed_62 : decode y_CA_feed.2.1 62 = .ok (.invokevirtual 107, 3) := dc9_182 (by decide +kernel)
theorem d_CA_feed_65 : decode y_CA_feed.2.1 65 = .ok (.aload_n 0, 1) := dc9_42 (by decide +kernel)
theorem d_CA_feed_66 : decode y_CA_feed.2.1 66 = .ok (.getfield 13, 3) := dc9_180 (by decide +kernel)
theorem d_CA_feed_69 : decode y_CA_feed.2.1 69 = .ok (.ireturn, 1) := dc9_172 (by decide +kernel)
theorem d_CA_feed_32 : decode y_CA_feed.2.1 32 = .ok (.invokevirtual 103, 3) := dc9_182 (by decide +kernel)
theorem d_CA_feed_35 : decode y_CA_feed.2.1 35 = .ok (.putfield 7, 3) := dc9_181 (by decide +kernel)
theorem k_CA_feed {G : mG} {d : Nat} {a0 : Nat} {l1 : Int} {l2 : Int} {l3 : Int} {l4 : Int} {l5 : Int} {M : mM} {Q : Int → mM → Prop} (hO : mOk M) (hi_l1 : i32 l1) (hi_l2 : i32 l2) (hi_l3 : i32 l3) (hi_l4 : i32 l4) (hi_l5 : i32 l5)
    (h : mK M a0 = 1 ∧ i32 ((mI M a0 1) + 20) ∧ (((mI M a0 1) + 20 ≤ 16384) → (mK M (mR M a0 0) = 32 ∧ i32 (mN M (mR M a0 0) : Int) ∧ (((mI M a0 1) + 20 ≤ (mN M (mR M a0 0) : Int)) → (Cv G y_CA_putFour d [vr a0, vi l1] M (fun M16 => mOk M16 ∧ (mK M16 a0 = 1 ∧ Cv G y_CA_putFour d [vr a0, vi l2] M16 (fun M20 => mOk M20 ∧ (mK M20 a0 = 1 ∧ Cv G y_CA_putFour d [vr a0, vi l3] M20 (fun M24 => mOk M24 ∧ (mK M24 a0 = 1 ∧ Cv G y_CA_putFour d [vr a0, vi l4] M24 (fun M28 => mOk M28 ∧ (mK M28 a0 = 1 ∧ Cv G y_CA_putFour d [vr a0, vi l5] M28 (fun M32 => mOk M32 ∧ (mK M32 a0 = 1 ∧ Q (mI M32 a0 1) M32)))))))))))) ∧ (¬ ((mI M a0 1) + 20 ≤ (mN M (mR M a0 0) : Int)) → (Cr G y_CA_growTape d [vr a0] M (fun x37 M36 => mOk M36 ∧ (mK M36 a0 = 1 ∧ ∀ M40, M40 = mUR M36 a0 0 x37 → Cv G y_CA_putFour d [vr a0, vi l1] M40 (fun M42 => mOk M42 ∧ (mK M42 a0 = 1 ∧ Cv G y_CA_putFour d [vr a0, vi l2] M42 (fun M46 => mOk M46 ∧ (mK M46 a0 = 1 ∧ Cv G y_CA_putFour d [vr a0, vi l3] M46 (fun M50 => mOk M50 ∧ (mK M50 a0 = 1 ∧ Cv G y_CA_putFour d [vr a0, vi l4] M50 (fun M54 => mOk M54 ∧ (mK M54 a0 = 1 ∧ Cv G y_CA_putFour d [vr a0, vi l5] M54 (fun M58 => mOk M58 ∧ (mK M58 a0 = 1 ∧ Q (mI M58 a0 1) M58)))))))))))))))) ∧ (¬ ((mI M a0 1) + 20 ≤ 16384) → (Q (-1) M))) :
    Ci G y_CA_feed (d + 1) [vr a0, vi l1, vi l2, vi l3, vi l4, vi l5] M Q := by
  refine wm_open (y := y_CA_feed) rfl (Nat.le_of_ble_eq_true rfl) (L := [vr a0, vi l1, vi l2, vi l3, vi l4, vi l5]) rfl ?_
  obtain ⟨h1, h⟩ := h
  obtain ⟨h7, h⟩ := h
  refine wm_aload_n d_CA_feed_0 rfl rfl ?_
  refine gf_CA_13 rfl d_CA_feed_1 h1 ?_
  refine wm_bipush d_CA_feed_4 (by decide) ?_
  refine wm_iadd d_CA_feed_6 ?_
  refine wm_sipush d_CA_feed_7 (by decide) ?_
  refine wm_icmp_le (tgt := 15) d_CA_feed_10 rfl h7 ⟨by decide, by decide⟩ (fun c8 => ?_) (fun c8 => ?_)
  · replace h := h.1 c8
    obtain ⟨h9, h⟩ := h
    obtain ⟨h14, h⟩ := h
    refine wm_aload_n d_CA_feed_15 rfl rfl ?_
    refine gf_CA_13 rfl d_CA_feed_16 h1 ?_
    refine wm_bipush d_CA_feed_19 (by decide) ?_
    refine wm_iadd d_CA_feed_21 ?_
    refine wm_aload_n d_CA_feed_22 rfl rfl ?_
    refine gf_CA_7 rfl d_CA_feed_23 h1 ?_
    refine wm_alen 2 rfl (fun _ => rfl) d_CA_feed_26 h9 ?_
    refine wm_icmp_le (tgt := 38) d_CA_feed_27 rfl h7 h14 (fun c15 => ?_) (fun c15 => ?_)
    · replace h := h.1 c15
      refine wm_aload_n d_CA_feed_38 rfl rfl ?_
      refine wm_iload_n d_CA_feed_39 rfl rfl ?_
      refine cf_CA_107 rfl d_CA_feed_40 h1 (Nat.le_of_ble_eq_true rfl) (Cv.mono h (fun M16 h => ?_))
      obtain ⟨hOM16, h⟩ := h
      obtain ⟨h19, h⟩ := h
      refine wm_aload_n d_CA_feed_43 rfl rfl ?_
      refine wm_iload_n d_CA_feed_44 rfl rfl ?_
      refine cf_CA_107 rfl d_CA_feed_45 h19 (Nat.le_of_ble_eq_true rfl) (Cv.mono h (fun M20 h => ?_))
      obtain ⟨hOM20, h⟩ := h
      obtain ⟨h23, h⟩ := h
      refine wm_aload_n d_CA_feed_48 rfl rfl ?_
      refine wm_iload_n d_CA_feed_49 rfl rfl ?_
      refine cf_CA_107 rfl d_CA_feed_50 h23 (Nat.le_of_ble_eq_true rfl) (Cv.mono h (fun M24 h => ?_))
      obtain ⟨hOM24, h⟩ := h
      obtain ⟨h27, h⟩ := h
      refine wm_aload_n d_CA_feed_53 rfl rfl ?_
      refine wm_iload d_CA_feed_54 rfl ?_
      refine cf_CA_107 rfl d_CA_feed_56 h27 (Nat.le_of_ble_eq_true rfl) (Cv.mono h (fun M28 h => ?_))
      obtain ⟨hOM28, h⟩ := h
      obtain ⟨h31, h⟩ := h
      refine wm_aload_n d_CA_feed_59 rfl rfl ?_
      refine wm_iload d_CA_feed_60 rfl ?_
      refine cf_CA_107 rfl d_CA_feed_62 h31 (Nat.le_of_ble_eq_true rfl) (Cv.mono h (fun M32 h => ?_))
      obtain ⟨hOM32, h⟩ := h
      obtain ⟨h35, h⟩ := h
      refine wm_aload_n d_CA_feed_65 rfl rfl ?_
      refine gf_CA_13 rfl d_CA_feed_66 h35 ?_
      refine wm_ireturn d_CA_feed_69 rfl rfl ?_
      exact ⟨_, rfl, h⟩
    · replace h := h.2 c15
      refine wm_aload_n d_CA_feed_30 rfl rfl ?_
      refine wm_aload_n d_CA_feed_31 rfl rfl ?_
      refine cf_CA_103 rfl d_CA_feed_32 h1 (Nat.le_of_ble_eq_true rfl) (Cr.mono h (fun x37 M36 h => ?_))
      obtain ⟨hOM36, h⟩ := h
      obtain ⟨h39, h⟩ := h
      obtain ⟨M40, e41⟩ : ∃ M40, M40 = mUR M36 a0 0 x37 := ⟨_, rfl⟩
      replace h := h M40 e41
      have hOM40 : mOk M40 := by rw [e41]; exact mOk_UR hOM36
      refine pf_CA_7 rfl d_CA_feed_35 h39 e41 ?_
      refine wm_aload_n d_CA_feed_38 rfl rfl ?_
      refine wm_iload_n d_CA_feed_39 rfl rfl ?_
      refine cf_CA_107 rfl d_CA_feed_40 (by rw [e41]; exact h39) (Nat.le_of_ble_eq_true rfl) (Cv.mono h (fun M42 h => ?_))
      obtain ⟨hOM42, h⟩ := h
      obtain ⟨h45, h⟩ := h
      refine wm_aload_n d_CA_feed_43 rfl rfl ?_
      refine wm_iload_n d_CA_feed_44 rfl rfl ?_
      refine cf_CA_107 rfl d_CA_feed_45 h45 (Nat.le_of_ble_eq_true rfl) (Cv.mono h (fun M46 h => ?_))
      obtain ⟨hOM46, h⟩ := h
      obtain ⟨h49, h⟩ := h
      refine wm_aload_n d_CA_feed_48 rfl rfl ?_
      refine wm_iload_n d_CA_feed_49 rfl rfl ?_
      refine cf_CA_107 rfl d_CA_feed_50 h49 (Nat.le_of_ble_eq_true rfl) (Cv.mono h (fun M50 h => ?_))
      obtain ⟨hOM50, h⟩ := h
      obtain ⟨h53, h⟩ := h
      refine wm_aload_n d_CA_feed_53 rfl rfl ?_
      refine wm_iload d_CA_feed_54 rfl ?_
      refine cf_CA_107 rfl d_CA_feed_56 h53 (Nat.le_of_ble_eq_true rfl) (Cv.mono h (fun M54 h => ?_))
      obtain ⟨hOM54, h⟩ := h
      obtain ⟨h57, h⟩ := h
      refine wm_aload_n d_CA_feed_59 rfl rfl ?_
      refine wm_iload d_CA_feed_60 rfl ?_
      refine cf_CA_107 rfl d_CA_feed_62 h57 (Nat.le_of_ble_eq_true rfl) (Cv.mono h (fun M58 h => ?_))
      obtain ⟨hOM58, h⟩ := h
      obtain ⟨h61, h⟩ := h
      refine wm_aload_n d_CA_feed_65 rfl rfl ?_
      refine gf_CA_13 rfl d_CA_feed_66 h61 ?_
      refine wm_ireturn d_CA_feed_69 rfl rfl ?_
      exact ⟨_, rfl, h⟩
  · replace h := h.2 c8
    refine wm_iconst d_CA_feed_13 ?_
    refine wm_ireturn d_CA_feed_14 rfl rfl ?_
    exact ⟨_, rfl, h⟩
theorem d_CA_growTape_0 : decode y_CA_growTape.2.1 0 = .ok (.iconst 2, 1) := dc9_5 (by decide +kernel)
theorem d_CA_growTape_1 : decode y_CA_growTape.2.1 1 = .ok (.aload_n 0, 1) := dc9_42 (by decide +kernel)
theorem d_CA_growTape_2 : decode y_CA_growTape.2.1 2 = .ok (.getfield 7, 3) := dc9_180 (by decide +kernel)
theorem d_CA_growTape_5 : decode y_CA_growTape.2.1 5 = .ok (.arraylength, 1) := dc9_190 (by decide +kernel)
theorem d_CA_growTape_6 : decode y_CA_growTape.2.1 6 = .ok (.imul, 1) := dc9_104 (by decide +kernel)
theorem d_CA_growTape_7 : decode y_CA_growTape.2.1 7 = .ok (.newarray .char, 2) := by decide +kernel
theorem d_CA_growTape_9 : decode y_CA_growTape.2.1 9 = .ok (.astore_n 1, 1) := dc9_76 (by decide +kernel)
theorem d_CA_growTape_10 : decode y_CA_growTape.2.1 10 = .ok (.aload_n 0, 1) := dc9_42 (by decide +kernel)
theorem d_CA_growTape_11 : decode y_CA_growTape.2.1 11 = .ok (.getfield 7, 3) := dc9_180 (by decide +kernel)
theorem d_CA_growTape_14 : decode y_CA_growTape.2.1 14 = .ok (.iconst 0, 1) := dc9_3 (by decide +kernel)
theorem d_CA_growTape_15 : decode y_CA_growTape.2.1 15 = .ok (.aload_n 1, 1) := dc9_43 (by decide +kernel)
theorem d_CA_growTape_16 : decode y_CA_growTape.2.1 16 = .ok (.iconst 0, 1) := dc9_3 (by decide +kernel)
theorem d_CA_growTape_17 : decode y_CA_growTape.2.1 17 = .ok (.aload_n 0, 1) := dc9_42 (by decide +kernel)
theorem d_CA_growTape_18 : decode y_CA_growTape.2.1 18 = .ok (.getfield 13, 3) := dc9_180 (by decide +kernel)
theorem d_CA_growTape_21 : decode y_CA_growTape.2.1 21 = .ok (.invokestatic 111, 3) := dc9_184 (by decide +kernel)
theorem d_CA_growTape_24 : decode y_CA_growTape.2.1 24 = .ok (.aload_n 1, 1) := dc9_43 (by decide +kernel)
theorem d_CA_growTape_25 : decode y_CA_growTape.2.1 25 = .ok (.areturn, 1) := dc9_176 (by decide +kernel)
theorem k_CA_growTape {G : mG} {d : Nat} {a0 : Nat} {M : mM} {Q : Nat → mM → Prop} (hO : mOk M)
    (h : mK M a0 = 1 ∧ mK M (mR M a0 0) = 32 ∧ ((0 : Int) ≤ 2 * (mN M (mR M a0 0) : Int) ∧ 2 * (mN M (mR M a0 0) : Int) ≤ 16777216) ∧ ∀ M4, M4 = mNew M 32 (Int.toNat (2 * (mN M (mR M a0 0) : Int))) (Int.toNat (2 * (mN M (mR M a0 0) : Int))) → mK M4 a0 = 1 ∧ mK M4 (mR M4 a0 0) = 32 ∧ ((0 : Int) ≤ 0 ∧ (0 : Int) ≤ 0 ∧ (0 : Int) ≤ mI M4 a0 1 ∧ 0 + (mI M4 a0 1) ≤ (mN M4 (mR M4 a0 0) : Int) ∧ 0 + (mI M4 a0 1) ≤ (mN M4 (mZ M) : Int)) ∧ (∀ i9 : Nat, (i9 : Int) < mI M4 a0 1 → 0 ≤ mI M4 (mR M4 a0 0) (0 + i9) ∧ mI M4 (mR M4 a0 0) (0 + i9) < 65536) ∧ ∀ M10, M10 = mCpy M4 (mR M4 a0 0) (mZ M) 0 0 (Int.toNat (mI M4 a0 1)) → Q (mZ M) M10) :
    Cr G y_CA_growTape (d + 1) [vr a0] M Q := by
  refine wm_open (y := y_CA_growTape) rfl (Nat.le_of_ble_eq_true rfl) (L := [vr a0, vd]) rfl ?_
  obtain ⟨h1, h⟩ := h
  obtain ⟨h2, h⟩ := h
  obtain ⟨h3, h⟩ := h
  obtain ⟨M4, e5⟩ : ∃ M4, M4 = mNew M 32 (Int.toNat (2 * (mN M (mR M a0 0) : Int))) (Int.toNat (2 * (mN M (mR M a0 0) : Int))) := ⟨_, rfl⟩
  replace h := h M4 e5
  obtain ⟨h6, h⟩ := h
  obtain ⟨h7, h⟩ := h
  obtain ⟨h8, h⟩ := h
  obtain ⟨h9, h⟩ := h
  obtain ⟨M10, e11⟩ : ∃ M10, M10 = mCpy M4 (mR M4 a0 0) (mZ M) 0 0 (Int.toNat (mI M4 a0 1)) := ⟨_, rfl⟩
  replace h := h M10 e11
  refine wm_iconst d_CA_growTape_0 ?_
  refine wm_aload_n d_CA_growTape_1 rfl rfl ?_
  refine gf_CA_7 rfl d_CA_growTape_2 h1 ?_
  refine wm_alen 2 rfl (fun _ => rfl) d_CA_growTape_5 h2 ?_
  refine wm_imul d_CA_growTape_6 ?_
  have hOM4 : mOk M4 := by rw [e5]; exact mOk_New hO
  refine wm_newarrE 2 (atype := .char) (ty := .char) rfl rfl (fun _ => rfl) rfl rfl (by decide) k1_81 h3 d_CA_growTape_7 e5 ?_
  refine wm_astore_n d_CA_growTape_9 rfl (by decide) (L' := [vr a0, vr (mZ M)]) rfl ?_
  refine wm_aload_n d_CA_growTape_10 rfl rfl ?_
  refine gf_CA_7 rfl d_CA_growTape_11 h6 ?_
  refine wm_iconst d_CA_growTape_14 ?_
  refine wm_aload_n d_CA_growTape_15 rfl rfl ?_
  refine wm_iconst d_CA_growTape_16 ?_
  refine wm_aload_n d_CA_growTape_17 rfl rfl ?_
  refine gf_CA_13 rfl d_CA_growTape_18 h6 ?_
  have hOM10 : mOk M10 := by rw [e11]; exact mOk_Cpy hOM4
  refine wm_copyc k4_13 (Nat.le_of_ble_eq_true rfl) h7 (by rw [e5]; exact if_pos rfl) h8 h9 d_CA_growTape_21 e11 ?_
  refine wm_aload_n d_CA_growTape_24 rfl rfl ?_
  refine wm_areturn d_CA_growTape_25 rfl (Or.inr ⟨_, rfl⟩) ?_
  exact ⟨_, rfl, h⟩
theorem d_CA_putFour_0 : decode y_CA_putFour.2.1 0 = .ok (.bipush 24, 2) := dc9_16 (by decide +kernel)
theorem d_CA_putFour_2 : decode y_CA_putFour.2.1 2 = .ok (.istore_n 2, 1) := dc9_61 (by decide +kernel)
theorem d_CA_putFour_3 : decode y_CA_putFour.2.1 3 = .ok (.iload_n 2, 1) := dc9_28 (by decide +kernel)
theorem d_CA_putFour_4 : decode y_CA_putFour.2.1 4 = .ok (.ifCond .lt 33, 3) := dc9_155 (by decide +kernel)
theorem d_CA_putFour_37 : decode y_CA_putFour.2.1 37 = .ok (.return_, 1) := dc9_177 (by decide +kernel)
theorem d_CA_putFour_7 : decode y_CA_putFour.2.1 7 = .ok (.aload_n 0, 1) := dc9_42 (by decide +kernel)
theorem d_CA_putFour_8 : decode y_CA_putFour.2.1 8 = .ok (.getfield 7, 3) := dc9_180 (by decide +kernel)
theorem d_CA_putFour_11 : decode y_CA_putFour.2.1 11 = .ok (.aload_n 0, 1) := dc9_42 (by decide +kernel)
theorem d_CA_putFour_12 : decode y_CA_putFour.2.1 12 = .ok (.dup, 1) := dc9_89 (by decide +kernel)
theorem d_CA_putFour_13 : decode y_CA_putFour.2.1 13 = .ok (.getfield 13, 3) := dc9_180 (by decide +kernel)
theorem d_CA_putFour_16 : decode y_CA_putFour.2.1 16 = .ok (.dup_x1, 1) := dc9_90 (by decide +kernel)
theorem d_CA_putFour_17 : decode y_CA_putFour.2.1 17 = .ok (.iconst 1, 1) := dc9_4 (by decide +kernel)
theorem d_CA_putFour_18 : decode y_CA_putFour.2.1 18 = .ok (.iadd, 1) := dc9_96 (by decide +kernel)
theorem d_CA_putFour_19 : decode y_CA_putFour.2.1 19 = .ok (.putfield 13, 3) := dc9_181 (by decide +kernel)
theorem d_CA_putFour_22 : decode y_CA_putFour.2.1 22 = .ok (.iload_n 1, 1) := dc9_27 (by decide +kernel)
theorem d_CA_putFour_23 : decode y_CA_putFour.2.1 23 = .ok (.iload_n 2, 1) := dc9_28 (by decide +kernel)
theorem d_CA_putFour_24 : decode y_CA_putFour.2.1 24 = .ok (.iushr, 1) := dc9_124 (by decide +kernel)
theorem d_CA_putFour_25 : decode y_CA_putFour.2.1 25 = .ok (.sipush 255, 3) := dc9_17 (by decide +kernel)
theorem d_CA_putFour_28 : decode y_CA_putFour.2.1 28 = .ok (.iand, 1) := dc9_126 (by decide +kernel)
theorem d_CA_putFour_29 : decode y_CA_putFour.2.1 29 = .ok (.i2c, 1) := dc9_146 (by decide +kernel)
theorem d_CA_putFour_30 : decode y_CA_putFour.2.1 30 = .ok (.castore, 1) := dc9_85 (by decide +kernel)
theorem d_CA_putFour_31 : decode y_CA_putFour.2.1 31 = .ok (.iinc 2 (-8), 3) := by decide +kernel
theorem d_CA_putFour_34 : decode y_CA_putFour.2.1 34 = .ok (.goto (-31), 3) := dc9_167 (by decide +kernel)
def h_CA_putFour_3 (G : mG) (d : Nat) (a0 : Nat) (l1 : Int) (l2 : Int) (M : mM) (Q : mM → Prop) : Prop := mWm G y_CA_putFour d 3 [vr a0, vi l1, vi l2] [] M (fun r9 M9 => r9 = none ∧ Q M9)
theorem k_CA_putFour {G : mG} {d : Nat} {a0 : Nat} {l1 : Int} {M : mM} {Q : mM → Prop} (hO : mOk M) (hi_l1 : i32 l1)
    (h : h_CA_putFour_3 G d a0 l1 24 M Q) :
    Cv G y_CA_putFour d [vr a0, vi l1] M Q := by
  refine wm_open (y := y_CA_putFour) rfl (Nat.le_of_ble_eq_true rfl) (L := [vr a0, vi l1, vd]) rfl ?_
  refine wm_bipush d_CA_putFour_0 (by decide) ?_
  refine wm_istore_n d_CA_putFour_2 rfl (by decide) (L' := [vr a0, vi l1, vi 24]) rfl ?_
  exact h
theorem k_CA_putFour_3 {G : mG} {d : Nat} {a0 : Nat} {l1 : Int} {l2 : Int} {M : mM} {Q : mM → Prop} (hO : mOk M) (hi_l1 : i32 l1) (hi_l2 : i32 l2)
    (h : ((l2 < 0) → (Q M)) ∧ (¬ (l2 < 0) → (mK M a0 = 1 ∧ i32 ((mI M a0 1) + 1) ∧ ∀ M5, M5 = mUI M a0 1 ((mI M a0 1) + 1) → mK M5 (mR M a0 0) = 32 ∧ ((0 : Int) ≤ mI M a0 1 ∧ mI M a0 1 < (mN M5 (mR M a0 0) : Int)) ∧ ((0 : Int) ≤ i2cI (andI (ushrI l1 l2) 255) ∧ i2cI (andI (ushrI l1 l2) 255) < 65536) ∧ ∀ M10, M10 = mUI M5 (mR M a0 0) (Int.toNat (mI M a0 1)) (i2cI (andI (ushrI l1 l2) 255)) → h_CA_putFour_3 G d a0 l1 (l2 + (-8)) M10 Q))) :
    h_CA_putFour_3 G d a0 l1 l2 M Q := by
  unfold h_CA_putFour_3
  refine wm_iload_n d_CA_putFour_3 rfl rfl ?_
  refine wm_if_lt (tgt := 37) d_CA_putFour_4 rfl hi_l2 (fun c2 => ?_) (fun c2 => ?_)
  · replace h := h.1 c2
    refine wm_return d_CA_putFour_37 rfl ?_
    exact ⟨rfl, h⟩
  · replace h := h.2 c2
    obtain ⟨h3, h⟩ := h
    obtain ⟨h4, h⟩ := h
    obtain ⟨M5, e6⟩ : ∃ M5, M5 = mUI M a0 1 ((mI M a0 1) + 1) := ⟨_, rfl⟩
    replace h := h M5 e6
    obtain ⟨h7, h⟩ := h
    obtain ⟨h8, h⟩ := h
    obtain ⟨h9, h⟩ := h
    obtain ⟨M10, e11⟩ : ∃ M10, M10 = mUI M5 (mR M a0 0) (Int.toNat (mI M a0 1)) (i2cI (andI (ushrI l1 l2) 255)) := ⟨_, rfl⟩
    replace h := h M10 e11
    refine wm_aload_n d_CA_putFour_7 rfl rfl ?_
    refine gf_CA_7 rfl d_CA_putFour_8 h3 ?_
    refine wm_aload_n d_CA_putFour_11 rfl rfl ?_
    refine wm_dup d_CA_putFour_12 rfl ?_
    refine gf_CA_13 rfl d_CA_putFour_13 h3 ?_
    refine wm_dup_x1 d_CA_putFour_16 rfl rfl ?_
    refine wm_iconst d_CA_putFour_17 ?_
    refine wm_iadd d_CA_putFour_18 ?_
    have hOM5 : mOk M5 := by rw [e6]; exact mOk_UI hO h4
    refine pf_CA_13 rfl d_CA_putFour_19 h3 h4 e6 ?_
    refine wm_iload_n d_CA_putFour_22 rfl rfl ?_
    refine wm_iload_n d_CA_putFour_23 rfl rfl ?_
    refine wm_iushr d_CA_putFour_24 ?_
    refine wm_sipush d_CA_putFour_25 (by decide) ?_
    refine wm_iand d_CA_putFour_28 ?_
    refine wm_i2c d_CA_putFour_29 ?_
    have hOM10 : mOk M10 := by rw [e11]; exact mOk_UI hOM5 ⟨by omega, by omega⟩
    refine wm_castE d_CA_putFour_30 h7 h8 h9 e11 ?_
    refine wm_iinc d_CA_putFour_31 (by decide) rfl (L' := [vr a0, vi l1, vi (l2 + (-8))]) rfl ?_
    refine wm_goto (tgt := 3) d_CA_putFour_34 rfl ?_
    exact h
theorem d_CA_end_0 : decode y_CA_end.2.1 0 = .ok (.iload_n 1, 1) := dc9_27 (by decide +kernel)
theorem d_CA_end_1 : decode y_CA_end.2.1 1 = .ok (.ifCond .lt 18, 3) := dc9_155 (by decide +kernel)
theorem d_CA_end_4 : decode y_CA_end.2.1 4 = .ok (.iload_n 1, 1) := dc9_27 (by decide +kernel)
theorem d_CA_end_5 : decode y_CA_end.2.1 5 = .ok (.bipush 20, 2) := dc9_16 (by decide +kernel)
theorem d_CA_end_7 : decode y_CA_end.2.1 7 = .ok (.if_icmp .gt 12, 3) := dc9_163 (by decide +kernel)
theorem d_CA_end_10 : decode y_CA_end.2.1 10 = .ok (.aload_n 0, 1) := dc9_42 (by decide +kernel)
theorem d_CA_end_11 : decode y_CA_end.2.1 11 = .ok (.getfield 13, 3) := dc9_180 (by decide +kernel)
theorem d_CA_end_14 : decode y_CA_end.2.1 14 = .ok (.bipush 20, 2) := dc9_16 (by decide +kernel)
theorem d_CA_end_16 : decode y_CA_end.2.1 16 = .ok (.if_icmp .ge 11, 3) := dc9_162 (by decide +kernel)
theorem d_CA_end_27 : decode y_CA_end.2.1 27 = .ok (.aload_n 0, 1) := dc9_42 (by decide +kernel)
theorem d_CA_end_28 : decode y_CA_end.2.1 28 = .ok (.dup, 1) := dc9_89 (by decide +kernel)
theorem d_CA_end_29 : decode y_CA_end.2.1 29 = .ok (.getfield 13, 3) := dc9_180 (by decide +kernel)
theorem d_CA_end_32 : decode y_CA_end.2.1 32 = .ok (.iload_n 1, 1) := dc9_27 (by decide +kernel)
theorem d_CA_end_33 : decode y_CA_end.2.1 33 = .ok (.bipush 20, 2) := dc9_16 (by decide +kernel)
theorem d_CA_end_35 : decode y_CA_end.2.1 35 = .ok (.isub, 1) := dc9_100 (by decide +kernel)
theorem d_CA_end_36 : decode y_CA_end.2.1 36 = .ok (.iadd, 1) := dc9_96 (by decide +kernel)
theorem d_CA_end_37 : decode y_CA_end.2.1 37 = .ok (.putfield 13, 3) := dc9_181 (by decide +kernel)
theorem d_CA_end_40 : decode y_CA_end.2.1 40 = .ok (.aload_n 0, 1) := dc9_42 (by decide +kernel)
theorem d_CA_end_41 : decode y_CA_end.2.1 41 = .ok (.getfield 13, 3) := dc9_180 (by decide +kernel)
theorem d_CA_end_44 : decode y_CA_end.2.1 44 = .ok (.ireturn, 1) := dc9_172 (by decide +kernel)
theorem k_CA_end {G : mG} {d : Nat} {a0 : Nat} {l1 : Int} {M : mM} {Q : Int → mM → Prop} (hO : mOk M) (hi_l1 : i32 l1)
    (h : (¬ (l1 < 0) → (¬ (20 < l1) → mK M a0 = 1)) ∧ (((l1 < 0) ∨ ((20 < l1) ∨ (¬ (20 ≤ mI M a0 1)))) → (False)) ∧ (¬ ((l1 < 0) ∨ ((20 < l1) ∨ (¬ (20 ≤ mI M a0 1)))) → (mK M a0 = 1 ∧ i32 ((mI M a0 1) + (l1 - 20)) ∧ ∀ M11, M11 = mUI M a0 1 ((mI M a0 1) + (l1 - 20)) → Q (mI M11 a0 1) M11))) :
    Ci G y_CA_end d [vr a0, vi l1] M Q := by
  refine wm_open (y := y_CA_end) rfl (Nat.le_of_ble_eq_true rfl) (L := [vr a0, vi l1]) rfl ?_
  refine wm_iload_n d_CA_end_0 rfl rfl ?_
  obtain ⟨s6, h⟩ := h
  have hE0 : ((l1 < 0) ∨ ((20 < l1) ∨ (¬ (20 ≤ mI M a0 1)))) → mWm G y_CA_end d 19 [vr a0, vi l1] [] M (fun r9 M9 => ∃ x9, r9 = some (vi x9) ∧ Q x9 M9) := by
    intro q7
    have h := h.1 q7
    exact h.elim
  have hE1 : ¬ ((l1 < 0) ∨ ((20 < l1) ∨ (¬ (20 ≤ mI M a0 1)))) → mWm G y_CA_end d 27 [vr a0, vi l1] [] M (fun r9 M9 => ∃ x9, r9 = some (vi x9) ∧ Q x9 M9) := by
    intro q8
    have h := h.2 q8
    obtain ⟨h9, h⟩ := h
    obtain ⟨h10, h⟩ := h
    obtain ⟨M11, e12⟩ : ∃ M11, M11 = mUI M a0 1 ((mI M a0 1) + (l1 - 20)) := ⟨_, rfl⟩
    replace h := h M11 e12
    refine wm_aload_n d_CA_end_27 rfl rfl ?_
    refine wm_dup d_CA_end_28 rfl ?_
    refine gf_CA_13 rfl d_CA_end_29 h9 ?_
    refine wm_iload_n d_CA_end_32 rfl rfl ?_
    refine wm_bipush d_CA_end_33 (by decide) ?_
    refine wm_isub d_CA_end_35 ?_
    refine wm_iadd d_CA_end_36 ?_
    have hOM11 : mOk M11 := by rw [e12]; exact mOk_UI hO h10
    refine pf_CA_13 rfl d_CA_end_37 h9 h10 e12 ?_
    refine wm_aload_n d_CA_end_40 rfl rfl ?_
    refine gf_CA_13 rfl d_CA_end_41 (by rw [e12]; exact h9) ?_
    refine wm_ireturn d_CA_end_44 rfl rfl ?_
    exact ⟨_, rfl, h⟩
  clear h
  have s13 := s6
  refine wm_if_lt (tgt := 19) d_CA_end_1 rfl hi_l1 (fun c5 => ?_) (fun c5 => ?_)
  · exact hE0 (Or.inl c5)
  · have s13 := s13 c5
    have s14 := s13
    refine wm_iload_n d_CA_end_4 rfl rfl ?_
    refine wm_bipush d_CA_end_5 (by decide) ?_
    refine wm_icmp_gt (tgt := 19) d_CA_end_7 rfl hi_l1 ⟨by decide, by decide⟩ (fun c4 => ?_) (fun c4 => ?_)
    · exact hE0 (Or.inr (Or.inl c4))
    · have s14 := s14 c4
      have h1 := s14
      refine wm_aload_n d_CA_end_10 rfl rfl ?_
      refine gf_CA_13 rfl d_CA_end_11 h1 ?_
      refine wm_bipush d_CA_end_14 (by decide) ?_
      refine wm_icmp_ge (tgt := 27) d_CA_end_16 rfl (hO _ _).1 ⟨by decide, by decide⟩ (fun c3 => ?_) (fun c3 => ?_)
      · exact hE1 (fun z15 => Or.elim z15 c5 (fun z16 => Or.elim z16 c4 (fun z17 => z17 c3)))
      · exact hE0 (Or.inr (Or.inr c3))
theorem d_CA_compile_0 : decode y_CA_compile.2.1 0 = .ok (.aload_n 0, 1) := dc9_42 (by decide +kernel)
theorem d_CA_compile_1 : decode y_CA_compile.2.1 1 = .ok (.getfield 20, 3) := dc9_180 (by decide +kernel)
theorem d_CA_compile_4 : decode y_CA_compile.2.1 4 = .ok (.aload_n 0, 1) := dc9_42 (by decide +kernel)
theorem d_CA_compile_5 : decode y_CA_compile.2.1 5 = .ok (.getfield 7, 3) := dc9_180 (by decide +kernel)
theorem d_CA_compile_8 : decode y_CA_compile.2.1 8 = .ok (.aload_n 0, 1) := dc9_42 (by decide +kernel)
theorem d_CA_compile_9 : decode y_CA_compile.2.1 9 = .ok (.getfield 13, 3) := dc9_180 (by decide +kernel)
theorem d_CA_compile_12 : decode y_CA_compile.2.1 12 = .ok (.invokevirtual 120, 3) := dc9_182 (by decide +kernel)
theorem d_CA_compile_15 : decode y_CA_compile.2.1 15 = .ok (.aload_n 0, 1) := dc9_42 (by decide +kernel)
theorem d_CA_compile_16 : decode y_CA_compile.2.1 16 = .ok (.iconst 0, 1) := dc9_3 (by decide +kernel)
theorem d_CA_compile_17 : decode y_CA_compile.2.1 17 = .ok (.putfield 13, 3) := dc9_181 (by decide +kernel)
theorem d_CA_compile_20 : decode y_CA_compile.2.1 20 = .ok (.aload_n 0, 1) := dc9_42 (by decide +kernel)
theorem d_CA_compile_21 : decode y_CA_compile.2.1 21 = .ok (.getfield 27, 3) := dc9_180 (by decide +kernel)
theorem d_CA_compile_24 : decode y_CA_compile.2.1 24 = .ok (.aload_n 0, 1) := dc9_42 (by decide +kernel)
theorem d_CA_compile_25 : decode y_CA_compile.2.1 25 = .ok (.getfield 20, 3) := dc9_180 (by decide +kernel)
theorem d_CA_compile_28 : decode y_CA_compile.2.1 28 = .ok (.aload_n 0, 1) := dc9_42 (by decide +kernel)
theorem d_CA_compile_29 : decode y_CA_compile.2.1 29 = .ok (.getfield 38, 3) := dc9_180 (by decide +kernel)
theorem d_CA_compile_32 : decode y_CA_compile.2.1 32 = .ok (.invokevirtual 124, 3) := dc9_182 (by decide +kernel)
theorem d_CA_compile_35 : decode y_CA_compile.2.1 35 = .ok (.istore_n 1, 1) := dc9_60 (by decide +kernel)
theorem d_CA_compile_36 : decode y_CA_compile.2.1 36 = .ok (.aload_n 0, 1) := dc9_42 (by decide +kernel)
theorem d_CA_compile_37 : decode y_CA_compile.2.1 37 = .ok (.iload_n 1, 1) := dc9_27 (by decide +kernel)
theorem d_CA_compile_38 : decode y_CA_compile.2.1 38 = .ok (.ifCond .ne 7, 3) := dc9_154 (by decide +kernel)
theorem d_CA_compile_41 : decode y_CA_compile.2.1 41 = .ok (.iconst (-1), 1) := dc9_2 (by decide +kernel)
theorem d_CA_compile_42 : decode y_CA_compile.2.1 42 = .ok (.goto 10, 3) := dc9_167 (by decide +kernel)
theorem d_CA_compile_45 : decode y_CA_compile.2.1 45 = .ok (.aload_n 0, 1) := dc9_42 (by decide +kernel)
theorem d_CA_compile_46 : decode y_CA_compile.2.1 46 = .ok (.getfield 27, 3) := dc9_180 (by decide +kernel)
theorem d_CA_compile_52 : decode y_CA_compile.2.1 52 = .ok (.putfield 45, 3) := dc9_181 (by decide +kernel)
theorem d_CA_compile_55 : decode y_CA_compile.2.1 55 = .ok (.iload_n 1, 1) := dc9_27 (by decide +kernel)
theorem d_CA_compile_56 : decode y_CA_compile.2.1 56 = .ok (.ifCond .ne 37, 3) := dc9_154 (by decide +kernel)
theorem d_CA_compile_59 : decode y_CA_compile.2.1 59 = .ok (.aload_n 0, 1) := dc9_42 (by decide +kernel)
theorem d_CA_compile_60 : decode y_CA_compile.2.1 60 = .ok (.getfield 34, 3) := dc9_180 (by decide +kernel)
theorem d_CA_compile_63 : decode y_CA_compile.2.1 63 = .ok (.astore_n 2, 1) := dc9_77 (by decide +kernel)
theorem d_CA_compile_64 : decode y_CA_compile.2.1 64 = .ok (.aload_n 0, 1) := dc9_42 (by decide +kernel)
theorem d_CA_compile_65 : decode y_CA_compile.2.1 65 = .ok (.aload_n 0, 1) := dc9_42 (by decide +kernel)
theorem d_CA_compile_66 : decode y_CA_compile.2.1 66 = .ok (.getfield 38, 3) := dc9_180 (by decide +kernel)
theorem d_CA_compile_69 : decode y_CA_compile.2.1 69 = .ok (.putfield 34, 3) := dc9_181 (by decide +kernel)
theorem d_CA_compile_72 : decode y_CA_compile.2.1 72 = .ok (.aload_n 0, 1) := dc9_42 (by decide +kernel)
theorem d_CA_compile_73 : decode y_CA_compile.2.1 73 = .ok (.aload_n 2, 1) := dc9_44 (by decide +kernel)
theorem d_CA_compile_74 : decode y_CA_compile.2.1 74 = .ok (.putfield 38, 3) := dc9_181 (by decide +kernel)
theorem d_CA_compile_77 : decode y_CA_compile.2.1 77 = .ok (.aload_n 0, 1) := dc9_42 (by decide +kernel)
theorem d_CA_compile_78 : decode y_CA_compile.2.1 78 = .ok (.iconst 1, 1) := dc9_4 (by decide +kernel)
theorem d_CA_compile_79 : decode y_CA_compile.2.1 79 = .ok (.putfield 41, 3) := dc9_181 (by decide +kernel)
theorem d_CA_compile_82 : decode y_CA_compile.2.1 82 = .ok (.aload_n 0, 1) := dc9_42 (by decide +kernel)
theorem d_CA_compile_83 : decode y_CA_compile.2.1 83 = .ok (.getfield 54, 3) := dc9_180 (by decide +kernel)
theorem d_CA_compile_86 : decode y_CA_compile.2.1 86 = .ok (.invokevirtual 131, 3) := dc9_182 (by decide +kernel)
theorem d_CA_compile_89 : decode y_CA_compile.2.1 89 = .ok (.aload_n 0, 1) := dc9_42 (by decide +kernel)
theorem d_CA_compile_90 : decode y_CA_compile.2.1 90 = .ok (.invokevirtual 134, 3) := dc9_182 (by decide +kernel)
theorem d_CA_compile_93 : decode y_CA_compile.2.1 93 = .ok (.iload_n 1, 1) := dc9_27 (by decide +kernel)
theorem d_CA_compile_94 : decode y_CA_compile.2.1 94 = .ok (.ireturn, 1) := dc9_172 (by decide +kernel)
theorem d_CA_compile_49 : decode y_CA_compile.2.1 49 = .ok (.invokevirtual 128, 3) := dc9_182 (by decide +kernel)
theorem k_CA_compile {G : mG} {d : Nat} {a0 : Nat} {M : mM} {Q : Int → mM → Prop} (hO : mOk M)
    (h : mK M a0 = 1 ∧ mK M (mR M a0 2) = 2 ∧ Cv G y_Wo_split d [vr (mR M a0 2), vr (mR M a0 0), vi (mI M a0 1)] M (fun M3 => mOk M3 ∧ (mK M3 a0 = 1 ∧ ∀ M7, M7 = mUI M3 a0 1 0 → mK M7 (mR M7 a0 3) = 3 ∧ Ci G y_TR_translate d [vr (mR M7 a0 3), vr (mR M7 a0 2), vr (mR M7 a0 5)] M7 (fun x11 M10 => i32 x11 ∧ mOk M10 ∧ (((x11 = 0) → (mK M10 a0 = 1 ∧ ∀ M19, M19 = mUI M10 a0 7 (-1) → ((x11 = 0) → (∀ M24, M24 = mUR M19 a0 4 (mR M19 a0 5) → ∀ M26, M26 = mUR M24 a0 5 (mR M19 a0 4) → ∀ M28, M28 = mUI M26 a0 6 1 → mK M28 (mR M28 a0 9) = 7 ∧ Cv G y_Ga_clear d [vr (mR M28 a0 9)] M28 (fun M31 => mOk M31 ∧ (mK M31 a0 = 1 ∧ Cv G y_CA_forget d [vr a0] M31 (fun M35 => mOk M35 ∧ (Q x11 M35)))))) ∧ (¬ (x11 = 0) → (Q x11 M19)))) ∧ (¬ (x11 = 0) → (mK M10 a0 = 1 ∧ mK M10 (mR M10 a0 3) = 3 ∧ Ci G y_TR_faultPlace d [vr (mR M10 a0 3)] M10 (fun x41 M40 => i32 x41 ∧ mOk M40 ∧ (mK M40 a0 = 1 ∧ ∀ M44, M44 = mUI M40 a0 7 x41 → ((x11 = 0) → (∀ M49, M49 = mUR M44 a0 4 (mR M44 a0 5) → ∀ M51, M51 = mUR M49 a0 5 (mR M44 a0 4) → ∀ M53, M53 = mUI M51 a0 6 1 → mK M53 (mR M53 a0 9) = 7 ∧ Cv G y_Ga_clear d [vr (mR M53 a0 9)] M53 (fun M56 => mOk M56 ∧ (mK M56 a0 = 1 ∧ Cv G y_CA_forget d [vr a0] M56 (fun M60 => mOk M60 ∧ (Q x11 M60)))))) ∧ (¬ (x11 = 0) → (Q x11 M44))))))))))) :
    Ci G y_CA_compile (d + 1) [vr a0] M Q := by
  refine wm_open (y := y_CA_compile) rfl (Nat.le_of_ble_eq_true rfl) (L := [vr a0, vd, vd]) rfl ?_
  obtain ⟨h1, h⟩ := h
  obtain ⟨h2, h⟩ := h
  refine wm_aload_n d_CA_compile_0 rfl rfl ?_
  refine gf_CA_20 rfl d_CA_compile_1 h1 ?_
  refine wm_aload_n d_CA_compile_4 rfl rfl ?_
  refine gf_CA_7 rfl d_CA_compile_5 h1 ?_
  refine wm_aload_n d_CA_compile_8 rfl rfl ?_
  refine gf_CA_13 rfl d_CA_compile_9 h1 ?_
  refine cf_CA_120 rfl d_CA_compile_12 h2 (Nat.le_of_ble_eq_true rfl) (Cv.mono h (fun M3 h => ?_))
  obtain ⟨hOM3, h⟩ := h
  obtain ⟨h6, h⟩ := h
  obtain ⟨M7, e8⟩ : ∃ M7, M7 = mUI M3 a0 1 0 := ⟨_, rfl⟩
  replace h := h M7 e8
  obtain ⟨h9, h⟩ := h
  refine wm_aload_n d_CA_compile_15 rfl rfl ?_
  refine wm_iconst d_CA_compile_16 ?_
  have hOM7 : mOk M7 := by rw [e8]; exact mOk_UI hOM3 ⟨by decide, by decide⟩
  refine pf_CA_13 rfl d_CA_compile_17 h6 ⟨by decide, by decide⟩ e8 ?_
  refine wm_aload_n d_CA_compile_20 rfl rfl ?_
  refine gf_CA_27 rfl d_CA_compile_21 (by rw [e8]; exact h6) ?_
  refine wm_aload_n d_CA_compile_24 rfl rfl ?_
  refine gf_CA_20 rfl d_CA_compile_25 (by rw [e8]; exact h6) ?_
  refine wm_aload_n d_CA_compile_28 rfl rfl ?_
  refine gf_CA_38 rfl d_CA_compile_29 (by rw [e8]; exact h6) ?_
  refine cf_CA_124 rfl d_CA_compile_32 h9 (Nat.le_of_ble_eq_true rfl) (Ci.mono h (fun x11 M10 h => ?_))
  obtain ⟨h12, hOM10, h⟩ := h
  refine wm_istore_n d_CA_compile_35 rfl (by decide) (L' := [vr a0, vi x11, vd]) rfl ?_
  refine wm_aload_n d_CA_compile_36 rfl rfl ?_
  refine wm_iload_n d_CA_compile_37 rfl rfl ?_
  refine wm_if_ne (tgt := 45) d_CA_compile_38 rfl h12 (fun c17 => ?_) (fun c17 => ?_)
  · replace h := h.2 c17
    obtain ⟨h38, h⟩ := h
    obtain ⟨h39, h⟩ := h
    refine wm_aload_n d_CA_compile_45 rfl rfl ?_
    refine gf_CA_27 rfl d_CA_compile_46 h38 ?_
    refine cf_CA_128 rfl d_CA_compile_49 h39 (Nat.le_of_ble_eq_true rfl) (Ci.mono h (fun x41 M40 h => ?_))
    obtain ⟨h42, hOM40, h⟩ := h
    obtain ⟨h43, h⟩ := h
    obtain ⟨M44, e45⟩ : ∃ M44, M44 = mUI M40 a0 7 x41 := ⟨_, rfl⟩
    replace h := h M44 e45
    have hOM44 : mOk M44 := by rw [e45]; exact mOk_UI hOM40 h42
    refine pf_CA_45 rfl d_CA_compile_52 h43 h42 e45 ?_
    refine wm_iload_n d_CA_compile_55 rfl rfl ?_
    refine wm_if_ne (tgt := 93) d_CA_compile_56 rfl h12 (fun c48 => ?_) (fun c48 => ?_)
    · replace h := h.2 c48
      refine wm_iload_n d_CA_compile_93 rfl rfl ?_
      refine wm_ireturn d_CA_compile_94 rfl rfl ?_
      exact ⟨_, rfl, h⟩
    · replace c48 := Classical.not_not.mp c48
      replace h := h.1 c48
      obtain ⟨M49, e50⟩ : ∃ M49, M49 = mUR M44 a0 4 (mR M44 a0 5) := ⟨_, rfl⟩
      replace h := h M49 e50
      obtain ⟨M51, e52⟩ : ∃ M51, M51 = mUR M49 a0 5 (mR M44 a0 4) := ⟨_, rfl⟩
      replace h := h M51 e52
      obtain ⟨M53, e54⟩ : ∃ M53, M53 = mUI M51 a0 6 1 := ⟨_, rfl⟩
      replace h := h M53 e54
      obtain ⟨h55, h⟩ := h
      refine wm_aload_n d_CA_compile_59 rfl rfl ?_
      refine gf_CA_34 rfl d_CA_compile_60 (by rw [e45]; exact h43) ?_
      refine wm_astore_n d_CA_compile_63 rfl (by decide) (L' := [vr a0, vi x11, vr (mR M44 a0 4)]) rfl ?_
      refine wm_aload_n d_CA_compile_64 rfl rfl ?_
      refine wm_aload_n d_CA_compile_65 rfl rfl ?_
      refine gf_CA_38 rfl d_CA_compile_66 (by rw [e45]; exact h43) ?_
      have hOM49 : mOk M49 := by rw [e50]; exact mOk_UR hOM44
      refine pf_CA_34 rfl d_CA_compile_69 (by rw [e45]; exact h43) e50 ?_
      refine wm_aload_n d_CA_compile_72 rfl rfl ?_
      refine wm_aload_n d_CA_compile_73 rfl rfl ?_
      have hOM51 : mOk M51 := by rw [e52]; exact mOk_UR hOM49
      refine pf_CA_38 rfl d_CA_compile_74 (by rw [e50, e45]; exact h43) e52 ?_
      refine wm_aload_n d_CA_compile_77 rfl rfl ?_
      refine wm_iconst d_CA_compile_78 ?_
      have hOM53 : mOk M53 := by rw [e54]; exact mOk_UI hOM51 (m_b32 (by decide))
      refine pf_CA_41 rfl d_CA_compile_79 (by rw [e52, e50, e45]; exact h43) (by decide) e54 ?_
      refine wm_aload_n d_CA_compile_82 rfl rfl ?_
      refine gf_CA_54 rfl d_CA_compile_83 (by rw [e54, e52, e50, e45]; exact h43) ?_
      refine cf_CA_131 rfl d_CA_compile_86 h55 (Nat.le_of_ble_eq_true rfl) (Cv.mono h (fun M56 h => ?_))
      obtain ⟨hOM56, h⟩ := h
      obtain ⟨h59, h⟩ := h
      refine wm_aload_n d_CA_compile_89 rfl rfl ?_
      refine cf_CA_134 rfl d_CA_compile_90 h59 (Nat.le_of_ble_eq_true rfl) (Cv.mono h (fun M60 h => ?_))
      obtain ⟨hOM60, h⟩ := h
      refine wm_iload_n d_CA_compile_93 rfl rfl ?_
      refine wm_ireturn d_CA_compile_94 rfl rfl ?_
      exact ⟨_, rfl, h⟩
  · replace c17 := Classical.not_not.mp c17
    replace h := h.1 c17
    obtain ⟨h18, h⟩ := h
    obtain ⟨M19, e20⟩ : ∃ M19, M19 = mUI M10 a0 7 (-1) := ⟨_, rfl⟩
    replace h := h M19 e20
    refine wm_iconst d_CA_compile_41 ?_
    refine wm_goto (tgt := 52) d_CA_compile_42 rfl ?_
    have hOM19 : mOk M19 := by rw [e20]; exact mOk_UI hOM10 ⟨by decide, by decide⟩
    refine pf_CA_45 rfl d_CA_compile_52 h18 ⟨by decide, by decide⟩ e20 ?_
    refine wm_iload_n d_CA_compile_55 rfl rfl ?_
    refine wm_if_ne (tgt := 93) d_CA_compile_56 rfl h12 (fun c23 => ?_) (fun c23 => ?_)
    · replace h := h.2 c23
      refine wm_iload_n d_CA_compile_93 rfl rfl ?_
      refine wm_ireturn d_CA_compile_94 rfl rfl ?_
      exact ⟨_, rfl, h⟩
    · replace c23 := Classical.not_not.mp c23
      replace h := h.1 c23
      obtain ⟨M24, e25⟩ : ∃ M24, M24 = mUR M19 a0 4 (mR M19 a0 5) := ⟨_, rfl⟩
      replace h := h M24 e25
      obtain ⟨M26, e27⟩ : ∃ M26, M26 = mUR M24 a0 5 (mR M19 a0 4) := ⟨_, rfl⟩
      replace h := h M26 e27
      obtain ⟨M28, e29⟩ : ∃ M28, M28 = mUI M26 a0 6 1 := ⟨_, rfl⟩
      replace h := h M28 e29
      obtain ⟨h30, h⟩ := h
      refine wm_aload_n d_CA_compile_59 rfl rfl ?_
      refine gf_CA_34 rfl d_CA_compile_60 (by rw [e20]; exact h18) ?_
      refine wm_astore_n d_CA_compile_63 rfl (by decide) (L' := [vr a0, vi x11, vr (mR M19 a0 4)]) rfl ?_
      refine wm_aload_n d_CA_compile_64 rfl rfl ?_
      refine wm_aload_n d_CA_compile_65 rfl rfl ?_
      refine gf_CA_38 rfl d_CA_compile_66 (by rw [e20]; exact h18) ?_
      have hOM24 : mOk M24 := by rw [e25]; exact mOk_UR hOM19
      refine pf_CA_34 rfl d_CA_compile_69 (by rw [e20]; exact h18) e25 ?_
      refine wm_aload_n d_CA_compile_72 rfl rfl ?_
      refine wm_aload_n d_CA_compile_73 rfl rfl ?_
      have hOM26 : mOk M26 := by rw [e27]; exact mOk_UR hOM24
      refine pf_CA_38 rfl d_CA_compile_74 (by rw [e25, e20]; exact h18) e27 ?_
      refine wm_aload_n d_CA_compile_77 rfl rfl ?_
      refine wm_iconst d_CA_compile_78 ?_
      have hOM28 : mOk M28 := by rw [e29]; exact mOk_UI hOM26 (m_b32 (by decide))
      refine pf_CA_41 rfl d_CA_compile_79 (by rw [e27, e25, e20]; exact h18) (by decide) e29 ?_
      refine wm_aload_n d_CA_compile_82 rfl rfl ?_
      refine gf_CA_54 rfl d_CA_compile_83 (by rw [e29, e27, e25, e20]; exact h18) ?_
      refine cf_CA_131 rfl d_CA_compile_86 h30 (Nat.le_of_ble_eq_true rfl) (Cv.mono h (fun M31 h => ?_))
      obtain ⟨hOM31, h⟩ := h
      obtain ⟨h34, h⟩ := h
      refine wm_aload_n d_CA_compile_89 rfl rfl ?_
      refine cf_CA_134 rfl d_CA_compile_90 h34 (Nat.le_of_ble_eq_true rfl) (Cv.mono h (fun M35 h => ?_))
      obtain ⟨hOM35, h⟩ := h
      refine wm_iload_n d_CA_compile_93 rfl rfl ?_
      refine wm_ireturn d_CA_compile_94 rfl rfl ?_
      exact ⟨_, rfl, h⟩
theorem d_CA_forget_0 : decode y_CA_forget.2.1 0 = .ok (.aload_n 0, 1) := dc9_42 (by decide +kernel)
theorem d_CA_forget_1 : decode y_CA_forget.2.1 1 = .ok (.getfield 70, 3) := dc9_180 (by decide +kernel)
theorem d_CA_forget_4 : decode y_CA_forget.2.1 4 = .ok (.iconst 0, 1) := dc9_3 (by decide +kernel)
theorem d_CA_forget_5 : decode y_CA_forget.2.1 5 = .ok (.putfield 137, 3) := dc9_181 (by decide +kernel)
theorem d_CA_forget_8 : decode y_CA_forget.2.1 8 = .ok (.aload_n 0, 1) := dc9_42 (by decide +kernel)
theorem d_CA_forget_9 : decode y_CA_forget.2.1 9 = .ok (.getfield 74, 3) := dc9_180 (by decide +kernel)
theorem d_CA_forget_12 : decode y_CA_forget.2.1 12 = .ok (.iconst 0, 1) := dc9_3 (by decide +kernel)
theorem d_CA_forget_13 : decode y_CA_forget.2.1 13 = .ok (.putfield 137, 3) := dc9_181 (by decide +kernel)
theorem d_CA_forget_16 : decode y_CA_forget.2.1 16 = .ok (.aload_n 0, 1) := dc9_42 (by decide +kernel)
theorem d_CA_forget_17 : decode y_CA_forget.2.1 17 = .ok (.getfield 80, 3) := dc9_180 (by decide +kernel)
theorem d_CA_forget_20 : decode y_CA_forget.2.1 20 = .ok (.iconst 0, 1) := dc9_3 (by decide +kernel)
theorem d_CA_forget_21 : decode y_CA_forget.2.1 21 = .ok (.putfield 137, 3) := dc9_181 (by decide +kernel)
theorem d_CA_forget_24 : decode y_CA_forget.2.1 24 = .ok (.return_, 1) := dc9_177 (by decide +kernel)
theorem k_CA_forget {G : mG} {d : Nat} {a0 : Nat} {M : mM} {Q : mM → Prop} (hO : mOk M)
    (h : mK M a0 = 1 ∧ mK M (mR M a0 11) = 13 ∧ ∀ M3, M3 = mUI M (mR M a0 11) 1 0 → mK M3 (mR M3 a0 12) = 13 ∧ ∀ M6, M6 = mUI M3 (mR M3 a0 12) 1 0 → mK M6 (mR M6 a0 14) = 13 ∧ ∀ M9, M9 = mUI M6 (mR M6 a0 14) 1 0 → Q M9) :
    Cv G y_CA_forget d [vr a0] M Q := by
  refine wm_open (y := y_CA_forget) rfl (Nat.le_of_ble_eq_true rfl) (L := [vr a0]) rfl ?_
  obtain ⟨h1, h⟩ := h
  obtain ⟨h2, h⟩ := h
  obtain ⟨M3, e4⟩ : ∃ M3, M3 = mUI M (mR M a0 11) 1 0 := ⟨_, rfl⟩
  replace h := h M3 e4
  obtain ⟨h5, h⟩ := h
  obtain ⟨M6, e7⟩ : ∃ M6, M6 = mUI M3 (mR M3 a0 12) 1 0 := ⟨_, rfl⟩
  replace h := h M6 e7
  obtain ⟨h8, h⟩ := h
  obtain ⟨M9, e10⟩ : ∃ M9, M9 = mUI M6 (mR M6 a0 14) 1 0 := ⟨_, rfl⟩
  replace h := h M9 e10
  refine wm_aload_n d_CA_forget_0 rfl rfl ?_
  refine gf_CA_70 rfl d_CA_forget_1 h1 ?_
  refine wm_iconst d_CA_forget_4 ?_
  have hOM3 : mOk M3 := by rw [e4]; exact mOk_UI hO (m_b32 (by decide))
  refine pf_CA_137 rfl d_CA_forget_5 h2 (by decide) e4 ?_
  refine wm_aload_n d_CA_forget_8 rfl rfl ?_
  refine gf_CA_74 rfl d_CA_forget_9 (by rw [e4]; exact h1) ?_
  refine wm_iconst d_CA_forget_12 ?_
  have hOM6 : mOk M6 := by rw [e7]; exact mOk_UI hOM3 (m_b32 (by decide))
  refine pf_CA_137 rfl d_CA_forget_13 h5 (by decide) e7 ?_
  refine wm_aload_n d_CA_forget_16 rfl rfl ?_
  refine gf_CA_80 rfl d_CA_forget_17 (by rw [e7, e4]; exact h1) ?_
  refine wm_iconst d_CA_forget_20 ?_
  have hOM9 : mOk M9 := by rw [e10]; exact mOk_UI hOM6 (m_b32 (by decide))
  refine pf_CA_137 rfl d_CA_forget_21 h8 (by decide) e10 ?_
  refine wm_return d_CA_forget_24 rfl ?_
  exact ⟨rfl, h⟩
theorem d_CA_place_0 : decode y_CA_place.2.1 0 = .ok (.aload_n 0, 1) := dc9_42 (by decide +kernel)
theorem d_CA_place_1 : decode y_CA_place.2.1 1 = .ok (.getfield 45, 3) := dc9_180 (by decide +kernel)
theorem d_CA_place_4 : decode y_CA_place.2.1 4 = .ok (.ireturn, 1) := dc9_172 (by decide +kernel)
theorem k_CA_place {G : mG} {d : Nat} {a0 : Nat} {M : mM} {Q : Int → mM → Prop} (hO : mOk M)
    (h : mK M a0 = 1 ∧ Q (mI M a0 7) M) :
    Ci G y_CA_place d [vr a0] M Q := by
  refine wm_open (y := y_CA_place) rfl (Nat.le_of_ble_eq_true rfl) (L := [vr a0]) rfl ?_
  obtain ⟨h1, h⟩ := h
  refine wm_aload_n d_CA_place_0 rfl rfl ?_
  refine gf_CA_45 rfl d_CA_place_1 h1 ?_
  refine wm_ireturn d_CA_place_4 rfl rfl ?_
  exact ⟨_, rfl, h⟩
theorem d_CA_items_0 : decode y_CA_items.2.1 0 = .ok (.aload_n 0, 1) := dc9_42 (by decide +kernel)
theorem d_CA_items_1 : decode y_CA_items.2.1 1 = .ok (.getfield 41, 3) := dc9_180 (by decide +kernel)
theorem d_CA_items_4 : decode y_CA_items.2.1 4 = .ok (.ifCond .ne 5, 3) := dc9_154 (by decide +kernel)
theorem d_CA_items_7 : decode y_CA_items.2.1 7 = .ok (.iconst (-1), 1) := dc9_2 (by decide +kernel)
theorem d_CA_items_8 : decode y_CA_items.2.1 8 = .ok (.ireturn, 1) := dc9_172 (by decide +kernel)
theorem d_CA_items_9 : decode y_CA_items.2.1 9 = .ok (.iload_n 1, 1) := dc9_27 (by decide +kernel)
theorem d_CA_items_10 : decode y_CA_items.2.1 10 = .ok (.tableswitch 50 0 2 #[26, 34, 42], 26) := by decide +kernel
theorem d_CA_items_36 : decode y_CA_items.2.1 36 = .ok (.aload_n 0, 1) := dc9_42 (by decide +kernel)
theorem d_CA_items_37 : decode y_CA_items.2.1 37 = .ok (.getfield 34, 3) := dc9_180 (by decide +kernel)
theorem d_CA_items_40 : decode y_CA_items.2.1 40 = .ok (.getfield 140, 3) := dc9_180 (by decide +kernel)
theorem d_CA_items_43 : decode y_CA_items.2.1 43 = .ok (.ireturn, 1) := dc9_172 (by decide +kernel)
theorem d_CA_items_44 : decode y_CA_items.2.1 44 = .ok (.aload_n 0, 1) := dc9_42 (by decide +kernel)
theorem d_CA_items_45 : decode y_CA_items.2.1 45 = .ok (.getfield 34, 3) := dc9_180 (by decide +kernel)
theorem d_CA_items_48 : decode y_CA_items.2.1 48 = .ok (.getfield 143, 3) := dc9_180 (by decide +kernel)
theorem d_CA_items_51 : decode y_CA_items.2.1 51 = .ok (.ireturn, 1) := dc9_172 (by decide +kernel)
theorem d_CA_items_52 : decode y_CA_items.2.1 52 = .ok (.aload_n 0, 1) := dc9_42 (by decide +kernel)
theorem d_CA_items_53 : decode y_CA_items.2.1 53 = .ok (.getfield 34, 3) := dc9_180 (by decide +kernel)
theorem d_CA_items_56 : decode y_CA_items.2.1 56 = .ok (.getfield 146, 3) := dc9_180 (by decide +kernel)
theorem d_CA_items_59 : decode y_CA_items.2.1 59 = .ok (.ireturn, 1) := dc9_172 (by decide +kernel)
theorem d_CA_items_60 : decode y_CA_items.2.1 60 = .ok (.iconst (-1), 1) := dc9_2 (by decide +kernel)
theorem d_CA_items_61 : decode y_CA_items.2.1 61 = .ok (.ireturn, 1) := dc9_172 (by decide +kernel)
theorem k_CA_items {G : mG} {d : Nat} {a0 : Nat} {l1 : Int} {M : mM} {Q : Int → mM → Prop} (hO : mOk M) (hi_l1 : i32 l1)
    (h : mK M a0 = 1 ∧ ((mI M a0 6 = 0) → (Q (-1) M)) ∧ (¬ (mI M a0 6 = 0) → (((l1 = 0) → (mK M (mR M a0 4) = 6 ∧ Q (mI M (mR M a0 4) 3) M)) ∧ (¬ (l1 = 0) → (((l1 = 1) → (mK M (mR M a0 4) = 6 ∧ Q (mI M (mR M a0 4) 7) M)) ∧ (¬ (l1 = 1) → (((l1 = 2) → (mK M (mR M a0 4) = 6 ∧ Q (mI M (mR M a0 4) 12) M)) ∧ (¬ (l1 = 2) → (Q (-1) M))))))))) :
    Ci G y_CA_items d [vr a0, vi l1] M Q := by
  refine wm_open (y := y_CA_items) rfl (Nat.le_of_ble_eq_true rfl) (L := [vr a0, vi l1]) rfl ?_
  obtain ⟨h1, h⟩ := h
  refine wm_aload_n d_CA_items_0 rfl rfl ?_
  refine gf_CA_41 rfl d_CA_items_1 h1 ?_
  refine wm_if_ne (tgt := 9) d_CA_items_4 rfl (hO _ _).1 (fun c3 => ?_) (fun c3 => ?_)
  · replace h := h.2 c3
    refine wm_iload_n d_CA_items_9 rfl rfl ?_
    by_cases c4 : l1 = 0
    · replace h := h.1 c4
      refine wm_tableIn (tgt := 36) (off := 26) d_CA_items_10 hi_l1 (by omega) (by omega) (by rw [c4]; rfl) rfl ?_
      obtain ⟨h5, h⟩ := h
      refine wm_aload_n d_CA_items_36 rfl rfl ?_
      refine gf_CA_34 rfl d_CA_items_37 h1 ?_
      refine gf_CA_140 rfl d_CA_items_40 h5 ?_
      refine wm_ireturn d_CA_items_43 rfl rfl ?_
      exact ⟨_, rfl, h⟩
    · replace h := h.2 c4
      by_cases c6 : l1 = 1
      · replace h := h.1 c6
        refine wm_tableIn (tgt := 44) (off := 34) d_CA_items_10 hi_l1 (by omega) (by omega) (by rw [c6]; rfl) rfl ?_
        obtain ⟨h7, h⟩ := h
        refine wm_aload_n d_CA_items_44 rfl rfl ?_
        refine gf_CA_34 rfl d_CA_items_45 h1 ?_
        refine gf_CA_143 rfl d_CA_items_48 h7 ?_
        refine wm_ireturn d_CA_items_51 rfl rfl ?_
        exact ⟨_, rfl, h⟩
      · replace h := h.2 c6
        by_cases c8 : l1 = 2
        · replace h := h.1 c8
          refine wm_tableIn (tgt := 52) (off := 42) d_CA_items_10 hi_l1 (by omega) (by omega) (by rw [c8]; rfl) rfl ?_
          obtain ⟨h9, h⟩ := h
          refine wm_aload_n d_CA_items_52 rfl rfl ?_
          refine gf_CA_34 rfl d_CA_items_53 h1 ?_
          refine gf_CA_146 rfl d_CA_items_56 h9 ?_
          refine wm_ireturn d_CA_items_59 rfl rfl ?_
          exact ⟨_, rfl, h⟩
        · replace h := h.2 c8
          refine wm_tableOut (tgt := 60) d_CA_items_10 hi_l1 (by omega) rfl ?_
          refine wm_iconst d_CA_items_60 ?_
          refine wm_ireturn d_CA_items_61 rfl rfl ?_
          exact ⟨_, rfl, h⟩
  · replace c3 := Classical.not_not.mp c3
    replace h := h.1 c3
    refine wm_iconst d_CA_items_7 ?_
    refine wm_ireturn d_CA_items_8 rfl rfl ?_
    exact ⟨_, rfl, h⟩
theorem d_CA_explore_0 : decode y_CA_explore.2.1 0 = .ok (.aload_n 0, 1) := dc9_42 (by decide +kernel)
theorem d_CA_explore_1 : decode y_CA_explore.2.1 1 = .ok (.getfield 41, 3) := dc9_180 (by decide +kernel)
theorem d_CA_explore_4 : decode y_CA_explore.2.1 4 = .ok (.ifCond .ne 11, 3) := dc9_154 (by decide +kernel)
theorem d_CA_explore_15 : decode y_CA_explore.2.1 15 = .ok (.aload_n 0, 1) := dc9_42 (by decide +kernel)
theorem d_CA_explore_16 : decode y_CA_explore.2.1 16 = .ok (.invokevirtual 134, 3) := dc9_182 (by decide +kernel)
theorem d_CA_explore_19 : decode y_CA_explore.2.1 19 = .ok (.aload_n 0, 1) := dc9_42 (by decide +kernel)
theorem d_CA_explore_20 : decode y_CA_explore.2.1 20 = .ok (.getfield 54, 3) := dc9_180 (by decide +kernel)
theorem d_CA_explore_23 : decode y_CA_explore.2.1 23 = .ok (.aload_n 0, 1) := dc9_42 (by decide +kernel)
theorem d_CA_explore_24 : decode y_CA_explore.2.1 24 = .ok (.getfield 34, 3) := dc9_180 (by decide +kernel)
theorem d_CA_explore_27 : decode y_CA_explore.2.1 27 = .ok (.invokevirtual 152, 3) := dc9_182 (by decide +kernel)
theorem d_CA_explore_30 : decode y_CA_explore.2.1 30 = .ok (.istore_n 1, 1) := dc9_60 (by decide +kernel)
theorem d_CA_explore_31 : decode y_CA_explore.2.1 31 = .ok (.aload_n 0, 1) := dc9_42 (by decide +kernel)
theorem d_CA_explore_32 : decode y_CA_explore.2.1 32 = .ok (.iload_n 1, 1) := dc9_27 (by decide +kernel)
theorem d_CA_explore_33 : decode y_CA_explore.2.1 33 = .ok (.ifCond .ne 7, 3) := dc9_154 (by decide +kernel)
theorem d_CA_explore_36 : decode y_CA_explore.2.1 36 = .ok (.iconst (-1), 1) := dc9_2 (by decide +kernel)
theorem d_CA_explore_37 : decode y_CA_explore.2.1 37 = .ok (.goto 10, 3) := dc9_167 (by decide +kernel)
theorem d_CA_explore_40 : decode y_CA_explore.2.1 40 = .ok (.aload_n 0, 1) := dc9_42 (by decide +kernel)
theorem d_CA_explore_41 : decode y_CA_explore.2.1 41 = .ok (.getfield 54, 3) := dc9_180 (by decide +kernel)
theorem d_CA_explore_44 : decode y_CA_explore.2.1 44 = .ok (.getfield 156, 3) := dc9_180 (by decide +kernel)
theorem d_CA_explore_47 : decode y_CA_explore.2.1 47 = .ok (.putfield 45, 3) := dc9_181 (by decide +kernel)
theorem d_CA_explore_50 : decode y_CA_explore.2.1 50 = .ok (.aload_n 0, 1) := dc9_42 (by decide +kernel)
theorem d_CA_explore_51 : decode y_CA_explore.2.1 51 = .ok (.iload_n 1, 1) := dc9_27 (by decide +kernel)
theorem d_CA_explore_52 : decode y_CA_explore.2.1 52 = .ok (.ifCond .ne 7, 3) := dc9_154 (by decide +kernel)
theorem d_CA_explore_55 : decode y_CA_explore.2.1 55 = .ok (.iconst (-1), 1) := dc9_2 (by decide +kernel)
theorem d_CA_explore_56 : decode y_CA_explore.2.1 56 = .ok (.goto 10, 3) := dc9_167 (by decide +kernel)
theorem d_CA_explore_59 : decode y_CA_explore.2.1 59 = .ok (.aload_n 0, 1) := dc9_42 (by decide +kernel)
theorem d_CA_explore_60 : decode y_CA_explore.2.1 60 = .ok (.getfield 54, 3) := dc9_180 (by decide +kernel)
theorem d_CA_explore_63 : decode y_CA_explore.2.1 63 = .ok (.getfield 159, 3) := dc9_180 (by decide +kernel)
theorem d_CA_explore_66 : decode y_CA_explore.2.1 66 = .ok (.putfield 48, 3) := dc9_181 (by decide +kernel)
theorem d_CA_explore_69 : decode y_CA_explore.2.1 69 = .ok (.iload_n 1, 1) := dc9_27 (by decide +kernel)
theorem d_CA_explore_70 : decode y_CA_explore.2.1 70 = .ok (.ireturn, 1) := dc9_172 (by decide +kernel)
theorem k_CA_explore {G : mG} {d : Nat} {a0 : Nat} {M : mM} {Q : Int → mM → Prop} (hO : mOk M)
    (h : mK M a0 = 1 ∧ ((mI M a0 6 = 0) → (False)) ∧ (¬ (mI M a0 6 = 0) → (Cv G y_CA_forget d [vr a0] M (fun M4 => mOk M4 ∧ (mK M4 a0 = 1 ∧ mK M4 (mR M4 a0 9) = 7 ∧ Ci G y_Ga_discover d [vr (mR M4 a0 9), vr (mR M4 a0 4)] M4 (fun x10 M9 => i32 x10 ∧ mOk M9 ∧ ((¬ (x10 = 0) → (mK M9 a0 = 1 ∧ mK M9 (mR M9 a0 9) = 7)) ∧ ∀ v15 : Int, v15 = (if (x10 = 0) then (-1) else mI M9 (mR M9 a0 9) 10) → mK M9 a0 = 1 ∧ i32 v15 ∧ ∀ M20, M20 = mUI M9 a0 7 v15 → (¬ (x10 = 0) → mK M20 (mR M20 a0 9) = 7) ∧ ∀ v24 : Int, v24 = (if (x10 = 0) then (-1) else mI M20 (mR M20 a0 9) 11) → i32 v24 ∧ ∀ M28, M28 = mUI M20 a0 8 v24 → Q x10 M28))))))) :
    Ci G y_CA_explore (d + 1) [vr a0] M Q := by
  refine wm_open (y := y_CA_explore) rfl (Nat.le_of_ble_eq_true rfl) (L := [vr a0, vd]) rfl ?_
  obtain ⟨h1, h⟩ := h
  refine wm_aload_n d_CA_explore_0 rfl rfl ?_
  refine gf_CA_41 rfl d_CA_explore_1 h1 ?_
  refine wm_if_ne (tgt := 15) d_CA_explore_4 rfl (hO _ _).1 (fun c3 => ?_) (fun c3 => ?_)
  · replace h := h.2 c3
    refine wm_aload_n d_CA_explore_15 rfl rfl ?_
    refine cf_CA_134 rfl d_CA_explore_16 h1 (Nat.le_of_ble_eq_true rfl) (Cv.mono h (fun M4 h => ?_))
    obtain ⟨hOM4, h⟩ := h
    obtain ⟨h7, h⟩ := h
    obtain ⟨h8, h⟩ := h
    refine wm_aload_n d_CA_explore_19 rfl rfl ?_
    refine gf_CA_54 rfl d_CA_explore_20 h7 ?_
    refine wm_aload_n d_CA_explore_23 rfl rfl ?_
    refine gf_CA_34 rfl d_CA_explore_24 h7 ?_
    refine cf_CA_152 rfl d_CA_explore_27 h8 (Nat.le_of_ble_eq_true rfl) (Ci.mono h (fun x10 M9 h => ?_))
    obtain ⟨h11, hOM9, h⟩ := h
    refine wm_istore_n d_CA_explore_30 rfl (by decide) (L' := [vr a0, vi x10]) rfl ?_
    refine wm_aload_n d_CA_explore_31 rfl rfl ?_
    refine wm_iload_n d_CA_explore_32 rfl rfl ?_
    obtain ⟨s16, h⟩ := h
    have hJ : ∀ v15 : Int, v15 = (if (x10 = 0) then (-1) else mI M9 (mR M9 a0 9) 10) → mWm G y_CA_explore (d + 1) 47 [vr a0, vi x10] [vi v15, vr a0] M9 (fun r9 M9 => ∃ x9, r9 = some (vi x9) ∧ Q x9 M9) := by
      intro v15 e17
      have h := h v15 e17
      obtain ⟨h18, h⟩ := h
      obtain ⟨h19, h⟩ := h
      obtain ⟨M20, e21⟩ : ∃ M20, M20 = mUI M9 a0 7 v15 := ⟨_, rfl⟩
      replace h := h M20 e21
      have hOM20 : mOk M20 := by rw [e21]; exact mOk_UI hOM9 h19
      refine pf_CA_45 rfl d_CA_explore_47 h18 h19 e21 ?_
      refine wm_aload_n d_CA_explore_50 rfl rfl ?_
      refine wm_iload_n d_CA_explore_51 rfl rfl ?_
      obtain ⟨s25, h⟩ := h
      have hJ : ∀ v24 : Int, v24 = (if (x10 = 0) then (-1) else mI M20 (mR M20 a0 9) 11) → mWm G y_CA_explore (d + 1) 66 [vd, vi x10] [vi v24, vr a0] M20 (fun r9 M9 => ∃ x9, r9 = some (vi x9) ∧ Q x9 M9) := by
        intro v24 e26
        have h := h v24 e26
        obtain ⟨h27, h⟩ := h
        obtain ⟨M28, e29⟩ : ∃ M28, M28 = mUI M20 a0 8 v24 := ⟨_, rfl⟩
        replace h := h M28 e29
        have hOM28 : mOk M28 := by rw [e29]; exact mOk_UI hOM20 h27
        refine pf_CA_48 rfl d_CA_explore_66 (by rw [e21]; exact h18) h27 e29 ?_
        refine wm_iload_n d_CA_explore_69 rfl rfl ?_
        refine wm_ireturn d_CA_explore_70 rfl rfl ?_
        exact ⟨_, rfl, h⟩
      clear h
      have s30 := s25
      refine wm_if_ne (tgt := 59) d_CA_explore_52 rfl h11 (fun c22 => ?_) (fun c22 => ?_)
      · have s30 := s30 c22
        have h23 := s30
        refine wm_aload_n d_CA_explore_59 rfl rfl ?_
        refine gf_CA_54 rfl d_CA_explore_60 (by rw [e21]; exact h18) ?_
        refine gf_CA_159 rfl d_CA_explore_63 h23 ?_
        refine wm_less (L' := [vd, vi x10]) ⟨Or.inl rfl, Or.inr rfl, trivial⟩ ?_
        exact hJ (mI M20 (mR M20 a0 9) 11) (if_neg c22).symm
      · replace c22 := Classical.not_not.mp c22
        refine wm_iconst d_CA_explore_55 ?_
        refine wm_goto (tgt := 66) d_CA_explore_56 rfl ?_
        refine wm_less (L' := [vd, vi x10]) ⟨Or.inl rfl, Or.inr rfl, trivial⟩ ?_
        exact hJ (-1) (if_pos c22).symm
    clear h
    have s32 := s16
    refine wm_if_ne (tgt := 40) d_CA_explore_33 rfl h11 (fun c12 => ?_) (fun c12 => ?_)
    · have s32 := s32 c12
      obtain ⟨h13, h14⟩ := s32
      refine wm_aload_n d_CA_explore_40 rfl rfl ?_
      refine gf_CA_54 rfl d_CA_explore_41 h13 ?_
      refine gf_CA_156 rfl d_CA_explore_44 h14 ?_
      exact hJ (mI M9 (mR M9 a0 9) 10) (if_neg c12).symm
    · replace c12 := Classical.not_not.mp c12
      refine wm_iconst d_CA_explore_36 ?_
      refine wm_goto (tgt := 47) d_CA_explore_37 rfl ?_
      exact hJ (-1) (if_pos c12).symm
  · replace c3 := Classical.not_not.mp c3
    replace h := h.1 c3
    exact h.elim
theorem d_CA_state_0 : decode y_CA_state.2.1 0 = .ok (.aload_n 0, 1) := dc9_42 (by decide +kernel)
theorem d_CA_state_1 : decode y_CA_state.2.1 1 = .ok (.getfield 48, 3) := dc9_180 (by decide +kernel)
theorem d_CA_state_4 : decode y_CA_state.2.1 4 = .ok (.ireturn, 1) := dc9_172 (by decide +kernel)
theorem k_CA_state {G : mG} {d : Nat} {a0 : Nat} {M : mM} {Q : Int → mM → Prop} (hO : mOk M)
    (h : mK M a0 = 1 ∧ Q (mI M a0 8) M) :
    Ci G y_CA_state d [vr a0] M Q := by
  refine wm_open (y := y_CA_state) rfl (Nat.le_of_ble_eq_true rfl) (L := [vr a0]) rfl ?_
  obtain ⟨h1, h⟩ := h
  refine wm_aload_n d_CA_state_0 rfl rfl ?_
  refine gf_CA_48 rfl d_CA_state_1 h1 ?_
  refine wm_ireturn d_CA_state_4 rfl rfl ?_
  exact ⟨_, rfl, h⟩
theorem d_CA_states_0 : decode y_CA_states.2.1 0 = .ok (.aload_n 0, 1) := dc9_42 (by decide +kernel)
theorem d_CA_states_1 : decode y_CA_states.2.1 1 = .ok (.getfield 54, 3) := dc9_180 (by decide +kernel)
theorem d_CA_states_4 : decode y_CA_states.2.1 4 = .ok (.getfield 160, 3) := dc9_180 (by decide +kernel)
theorem d_CA_states_7 : decode y_CA_states.2.1 7 = .ok (.ireturn, 1) := dc9_172 (by decide +kernel)
theorem k_CA_states {G : mG} {d : Nat} {a0 : Nat} {M : mM} {Q : Int → mM → Prop} (hO : mOk M)
    (h : mK M a0 = 1 ∧ mK M (mR M a0 9) = 7 ∧ Q (mI M (mR M a0 9) 0) M) :
    Ci G y_CA_states d [vr a0] M Q := by
  refine wm_open (y := y_CA_states) rfl (Nat.le_of_ble_eq_true rfl) (L := [vr a0]) rfl ?_
  obtain ⟨h1, h⟩ := h
  obtain ⟨h2, h⟩ := h
  refine wm_aload_n d_CA_states_0 rfl rfl ?_
  refine gf_CA_54 rfl d_CA_states_1 h1 ?_
  refine gf_CA_160 rfl d_CA_states_4 h2 ?_
  refine wm_ireturn d_CA_states_7 rfl rfl ?_
  exact ⟨_, rfl, h⟩
theorem d_CA_variable_0 : decode y_CA_variable.2.1 0 = .ok (.aload_n 0, 1) := dc9_42 (by decide +kernel)
theorem d_CA_variable_1 : decode y_CA_variable.2.1 1 = .ok (.getfield 54, 3) := dc9_180 (by decide +kernel)
theorem d_CA_variable_4 : decode y_CA_variable.2.1 4 = .ok (.iload_n 1, 1) := dc9_27 (by decide +kernel)
theorem d_CA_variable_5 : decode y_CA_variable.2.1 5 = .ok (.invokevirtual 163, 3) := dc9_182 (by decide +kernel)
theorem d_CA_variable_8 : decode y_CA_variable.2.1 8 = .ok (.ifCond .eq 18, 3) := dc9_153 (by decide +kernel)
theorem d_CA_variable_11 : decode y_CA_variable.2.1 11 = .ok (.iload_n 2, 1) := dc9_28 (by decide +kernel)
theorem d_CA_variable_12 : decode y_CA_variable.2.1 12 = .ok (.ifCond .lt 14, 3) := dc9_155 (by decide +kernel)
theorem d_CA_variable_15 : decode y_CA_variable.2.1 15 = .ok (.iload_n 2, 1) := dc9_28 (by decide +kernel)
theorem d_CA_variable_16 : decode y_CA_variable.2.1 16 = .ok (.aload_n 0, 1) := dc9_42 (by decide +kernel)
theorem d_CA_variable_17 : decode y_CA_variable.2.1 17 = .ok (.getfield 34, 3) := dc9_180 (by decide +kernel)
theorem d_CA_variable_20 : decode y_CA_variable.2.1 20 = .ok (.getfield 140, 3) := dc9_180 (by decide +kernel)
theorem d_CA_variable_23 : decode y_CA_variable.2.1 23 = .ok (.if_icmp .lt 11, 3) := dc9_161 (by decide +kernel)
theorem d_CA_variable_34 : decode y_CA_variable.2.1 34 = .ok (.aload_n 0, 1) := dc9_42 (by decide +kernel)
theorem d_CA_variable_35 : decode y_CA_variable.2.1 35 = .ok (.getfield 54, 3) := dc9_180 (by decide +kernel)
theorem d_CA_variable_38 : decode y_CA_variable.2.1 38 = .ok (.getfield 170, 3) := dc9_180 (by decide +kernel)
theorem d_CA_variable_41 : decode y_CA_variable.2.1 41 = .ok (.iload_n 1, 1) := dc9_27 (by decide +kernel)
theorem d_CA_variable_42 : decode y_CA_variable.2.1 42 = .ok (.bipush 12, 2) := dc9_16 (by decide +kernel)
theorem d_CA_variable_44 : decode y_CA_variable.2.1 44 = .ok (.imul, 1) := dc9_104 (by decide +kernel)
theorem d_CA_variable_45 : decode y_CA_variable.2.1 45 = .ok (.iload_n 2, 1) := dc9_28 (by decide +kernel)
theorem d_CA_variable_46 : decode y_CA_variable.2.1 46 = .ok (.iadd, 1) := dc9_96 (by decide +kernel)
theorem d_CA_variable_47 : decode y_CA_variable.2.1 47 = .ok (.iaload, 1) := dc9_46 (by decide +kernel)
theorem d_CA_variable_48 : decode y_CA_variable.2.1 48 = .ok (.ireturn, 1) := dc9_172 (by decide +kernel)
theorem k_CA_variable {G : mG} {d : Nat} {a0 : Nat} {l1 : Int} {l2 : Int} {M : mM} {Q : Int → mM → Prop} (hO : mOk M) (hi_l1 : i32 l1) (hi_l2 : i32 l2)
    (h : mK M a0 = 1 ∧ mK M (mR M a0 9) = 7 ∧ Ci G y_Ga_hasState d [vr (mR M a0 9), vi l1] M (fun x4 M3 => i32 x4 ∧ mOk M3 ∧ ((¬ (x4 = 0) → (¬ (l2 < 0) → (mK M3 a0 = 1 ∧ mK M3 (mR M3 a0 4) = 6))) ∧ (((x4 = 0) ∨ ((l2 < 0) ∨ (¬ (l2 < mI M3 (mR M3 a0 4) 3)))) → (False)) ∧ (¬ ((x4 = 0) ∨ ((l2 < 0) ∨ (¬ (l2 < mI M3 (mR M3 a0 4) 3)))) → (mK M3 a0 = 1 ∧ mK M3 (mR M3 a0 9) = 7 ∧ mK M3 (mR M3 (mR M3 a0 9) 1) = 30 ∧ ((0 : Int) ≤ (l1 * 12) + l2 ∧ (l1 * 12) + l2 < (mN M3 (mR M3 (mR M3 a0 9) 1) : Int)) ∧ Q (mI M3 (mR M3 (mR M3 a0 9) 1) (Int.toNat ((l1 * 12) + l2))) M3))))) :
    Ci G y_CA_variable (d + 1) [vr a0, vi l1, vi l2] M Q := by
  refine wm_open (y := y_CA_variable) rfl (Nat.le_of_ble_eq_true rfl) (L := [vr a0, vi l1, vi l2]) rfl ?_
  obtain ⟨h1, h⟩ := h
  obtain ⟨h2, h⟩ := h
  refine wm_aload_n d_CA_variable_0 rfl rfl ?_
  refine gf_CA_54 rfl d_CA_variable_1 h1 ?_
  refine wm_iload_n d_CA_variable_4 rfl rfl ?_
  refine cf_CA_163 rfl d_CA_variable_5 h2 (Nat.le_of_ble_eq_true rfl) (Ci.mono h (fun x4 M3 h => ?_))
  obtain ⟨h5, hOM3, h⟩ := h
  obtain ⟨s14, h⟩ := h
  have hE0 : ((x4 = 0) ∨ ((l2 < 0) ∨ (¬ (l2 < mI M3 (mR M3 a0 4) 3)))) → mWm G y_CA_variable (d + 1) 26 [vr a0, vi l1, vi l2] [] M3 (fun r9 M9 => ∃ x9, r9 = some (vi x9) ∧ Q x9 M9) := by
    intro q15
    have h := h.1 q15
    exact h.elim
  have hE1 : ¬ ((x4 = 0) ∨ ((l2 < 0) ∨ (¬ (l2 < mI M3 (mR M3 a0 4) 3)))) → mWm G y_CA_variable (d + 1) 34 [vr a0, vi l1, vi l2] [] M3 (fun r9 M9 => ∃ x9, r9 = some (vi x9) ∧ Q x9 M9) := by
    intro q16
    have h := h.2 q16
    obtain ⟨h17, h⟩ := h
    obtain ⟨h18, h⟩ := h
    obtain ⟨h19, h⟩ := h
    obtain ⟨h20, h⟩ := h
    refine wm_aload_n d_CA_variable_34 rfl rfl ?_
    refine gf_CA_54 rfl d_CA_variable_35 h17 ?_
    refine gf_CA_170 rfl d_CA_variable_38 h18 ?_
    refine wm_iload_n d_CA_variable_41 rfl rfl ?_
    refine wm_bipush d_CA_variable_42 (by decide) ?_
    refine wm_imul d_CA_variable_44 ?_
    refine wm_iload_n d_CA_variable_45 rfl rfl ?_
    refine wm_iadd d_CA_variable_46 ?_
    refine wm_iald d_CA_variable_47 h19 h20 ?_
    refine wm_ireturn d_CA_variable_48 rfl rfl ?_
    exact ⟨_, rfl, h⟩
  clear h
  have s21 := s14
  refine wm_if_eq (tgt := 26) d_CA_variable_8 rfl h5 (fun c13 => ?_) (fun c13 => ?_)
  · exact hE0 (Or.inl c13)
  · have s21 := s21 c13
    have s22 := s21
    refine wm_iload_n d_CA_variable_11 rfl rfl ?_
    refine wm_if_lt (tgt := 26) d_CA_variable_12 rfl hi_l2 (fun c12 => ?_) (fun c12 => ?_)
    · exact hE0 (Or.inr (Or.inl c12))
    · have s22 := s22 c12
      obtain ⟨h6, h7⟩ := s22
      refine wm_iload_n d_CA_variable_15 rfl rfl ?_
      refine wm_aload_n d_CA_variable_16 rfl rfl ?_
      refine gf_CA_34 rfl d_CA_variable_17 h6 ?_
      refine gf_CA_140 rfl d_CA_variable_20 h7 ?_
      refine wm_icmp_lt (tgt := 34) d_CA_variable_23 rfl hi_l2 (hOM3 _ _).1 (fun c11 => ?_) (fun c11 => ?_)
      · exact hE1 (fun z23 => Or.elim z23 c13 (fun z24 => Or.elim z24 c12 (fun z25 => z25 c11)))
      · exact hE0 (Or.inr (Or.inr c11))
theorem d_CA_kind_0 : decode y_CA_kind.2.1 0 = .ok (.aload_n 0, 1) := dc9_42 (by decide +kernel)
theorem d_CA_kind_1 : decode y_CA_kind.2.1 1 = .ok (.getfield 54, 3) := dc9_180 (by decide +kernel)
theorem d_CA_kind_4 : decode y_CA_kind.2.1 4 = .ok (.iload_n 1, 1) := dc9_27 (by decide +kernel)
theorem d_CA_kind_5 : decode y_CA_kind.2.1 5 = .ok (.invokevirtual 163, 3) := dc9_182 (by decide +kernel)
theorem d_CA_kind_8 : decode y_CA_kind.2.1 8 = .ok (.ifCond .eq 15, 3) := dc9_153 (by decide +kernel)
theorem d_CA_kind_23 : decode y_CA_kind.2.1 23 = .ok (.iconst (-1), 1) := dc9_2 (by decide +kernel)
theorem d_CA_kind_11 : decode y_CA_kind.2.1 11 = .ok (.aload_n 0, 1) := dc9_42 (by decide +kernel)
theorem d_CA_kind_12 : decode y_CA_kind.2.1 12 = .ok (.getfield 54, 3) := dc9_180 (by decide +kernel)
theorem d_CA_kind_15 : decode y_CA_kind.2.1 15 = .ok (.getfield 174, 3) := dc9_180 (by decide +kernel)
theorem d_CA_kind_18 : decode y_CA_kind.2.1 18 = .ok (.iload_n 1, 1) := dc9_27 (by decide +kernel)
theorem d_CA_kind_19 : decode y_CA_kind.2.1 19 = .ok (.iaload, 1) := dc9_46 (by decide +kernel)
theorem d_CA_kind_20 : decode y_CA_kind.2.1 20 = .ok (.goto 4, 3) := dc9_167 (by decide +kernel)
theorem d_CA_kind_24 : decode y_CA_kind.2.1 24 = .ok (.ireturn, 1) := dc9_172 (by decide +kernel)
theorem k_CA_kind {G : mG} {d : Nat} {a0 : Nat} {l1 : Int} {M : mM} {Q : Int → mM → Prop} (hO : mOk M) (hi_l1 : i32 l1)
    (h : mK M a0 = 1 ∧ mK M (mR M a0 9) = 7 ∧ Ci G y_Ga_hasState d [vr (mR M a0 9), vi l1] M (fun x4 M3 => i32 x4 ∧ mOk M3 ∧ ((¬ (x4 = 0) → (mK M3 a0 = 1 ∧ mK M3 (mR M3 a0 9) = 7 ∧ mK M3 (mR M3 (mR M3 a0 9) 2) = 30 ∧ ((0 : Int) ≤ l1 ∧ l1 < (mN M3 (mR M3 (mR M3 a0 9) 2) : Int)))) ∧ ∀ v11 : Int, v11 = (if (x4 = 0) then (-1) else mI M3 (mR M3 (mR M3 a0 9) 2) (Int.toNat l1)) → Q v11 M3))) :
    Ci G y_CA_kind (d + 1) [vr a0, vi l1] M Q := by
  refine wm_open (y := y_CA_kind) rfl (Nat.le_of_ble_eq_true rfl) (L := [vr a0, vi l1]) rfl ?_
  obtain ⟨h1, h⟩ := h
  obtain ⟨h2, h⟩ := h
  refine wm_aload_n d_CA_kind_0 rfl rfl ?_
  refine gf_CA_54 rfl d_CA_kind_1 h1 ?_
  refine wm_iload_n d_CA_kind_4 rfl rfl ?_
  refine cf_CA_163 rfl d_CA_kind_5 h2 (Nat.le_of_ble_eq_true rfl) (Ci.mono h (fun x4 M3 h => ?_))
  obtain ⟨h5, hOM3, h⟩ := h
  obtain ⟨s12, h⟩ := h
  have hJ : ∀ v11 : Int, v11 = (if (x4 = 0) then (-1) else mI M3 (mR M3 (mR M3 a0 9) 2) (Int.toNat l1)) → mWm G y_CA_kind (d + 1) 24 [vd, vd] [vi v11] M3 (fun r9 M9 => ∃ x9, r9 = some (vi x9) ∧ Q x9 M9) := by
    intro v11 e13
    have h := h v11 e13
    refine wm_ireturn d_CA_kind_24 rfl rfl ?_
    exact ⟨_, rfl, h⟩
  clear h
  have s14 := s12
  refine wm_if_eq (tgt := 23) d_CA_kind_8 rfl h5 (fun c6 => ?_) (fun c6 => ?_)
  · refine wm_iconst d_CA_kind_23 ?_
    refine wm_less (L' := [vd, vd]) ⟨Or.inl rfl, Or.inl rfl, trivial⟩ ?_
    exact hJ (-1) (if_pos c6).symm
  · have s14 := s14 c6
    obtain ⟨h7, h8, h9, h10⟩ := s14
    refine wm_aload_n d_CA_kind_11 rfl rfl ?_
    refine gf_CA_54 rfl d_CA_kind_12 h7 ?_
    refine gf_CA_174 rfl d_CA_kind_15 h8 ?_
    refine wm_iload_n d_CA_kind_18 rfl rfl ?_
    refine wm_iald d_CA_kind_19 h9 h10 ?_
    refine wm_goto (tgt := 24) d_CA_kind_20 rfl ?_
    refine wm_less (L' := [vd, vd]) ⟨Or.inl rfl, Or.inl rfl, trivial⟩ ?_
    exact hJ (mI M3 (mR M3 (mR M3 a0 9) 2) (Int.toNat l1)) (if_neg c6).symm
theorem d_CA_commands_0 : decode y_CA_commands.2.1 0 = .ok (.aload_n 0, 1) := dc9_42 (by decide +kernel)
theorem d_CA_commands_1 : decode y_CA_commands.2.1 1 = .ok (.getfield 54, 3) := dc9_180 (by decide +kernel)
theorem d_CA_commands_4 : decode y_CA_commands.2.1 4 = .ok (.iload_n 1, 1) := dc9_27 (by decide +kernel)
theorem d_CA_commands_5 : decode y_CA_commands.2.1 5 = .ok (.invokevirtual 163, 3) := dc9_182 (by decide +kernel)
theorem d_CA_commands_8 : decode y_CA_commands.2.1 8 = .ok (.ifCond .eq 27, 3) := dc9_153 (by decide +kernel)
theorem d_CA_commands_35 : decode y_CA_commands.2.1 35 = .ok (.iconst (-1), 1) := dc9_2 (by decide +kernel)
theorem d_CA_commands_11 : decode y_CA_commands.2.1 11 = .ok (.aload_n 0, 1) := dc9_42 (by decide +kernel)
theorem d_CA_commands_12 : decode y_CA_commands.2.1 12 = .ok (.getfield 54, 3) := dc9_180 (by decide +kernel)
theorem d_CA_commands_15 : decode y_CA_commands.2.1 15 = .ok (.getfield 177, 3) := dc9_180 (by decide +kernel)
theorem d_CA_commands_18 : decode y_CA_commands.2.1 18 = .ok (.iload_n 1, 1) := dc9_27 (by decide +kernel)
theorem d_CA_commands_19 : decode y_CA_commands.2.1 19 = .ok (.iconst 1, 1) := dc9_4 (by decide +kernel)
theorem d_CA_commands_20 : decode y_CA_commands.2.1 20 = .ok (.iadd, 1) := dc9_96 (by decide +kernel)
theorem d_CA_commands_21 : decode y_CA_commands.2.1 21 = .ok (.iaload, 1) := dc9_46 (by decide +kernel)
theorem d_CA_commands_22 : decode y_CA_commands.2.1 22 = .ok (.aload_n 0, 1) := dc9_42 (by decide +kernel)
theorem d_CA_commands_23 : decode y_CA_commands.2.1 23 = .ok (.getfield 54, 3) := dc9_180 (by decide +kernel)
theorem d_CA_commands_26 : decode y_CA_commands.2.1 26 = .ok (.getfield 177, 3) := dc9_180 (by decide +kernel)
theorem d_CA_commands_29 : decode y_CA_commands.2.1 29 = .ok (.iload_n 1, 1) := dc9_27 (by decide +kernel)
theorem d_CA_commands_30 : decode y_CA_commands.2.1 30 = .ok (.iaload, 1) := dc9_46 (by decide +kernel)
theorem d_CA_commands_31 : decode y_CA_commands.2.1 31 = .ok (.isub, 1) := dc9_100 (by decide +kernel)
theorem d_CA_commands_32 : decode y_CA_commands.2.1 32 = .ok (.goto 4, 3) := dc9_167 (by decide +kernel)
theorem d_CA_commands_36 : decode y_CA_commands.2.1 36 = .ok (.ireturn, 1) := dc9_172 (by decide +kernel)
theorem k_CA_commands {G : mG} {d : Nat} {a0 : Nat} {l1 : Int} {M : mM} {Q : Int → mM → Prop} (hO : mOk M) (hi_l1 : i32 l1)
    (h : mK M a0 = 1 ∧ mK M (mR M a0 9) = 7 ∧ Ci G y_Ga_hasState d [vr (mR M a0 9), vi l1] M (fun x4 M3 => i32 x4 ∧ mOk M3 ∧ ((¬ (x4 = 0) → (mK M3 a0 = 1 ∧ mK M3 (mR M3 a0 9) = 7 ∧ mK M3 (mR M3 (mR M3 a0 9) 4) = 30 ∧ ((0 : Int) ≤ l1 + 1 ∧ l1 + 1 < (mN M3 (mR M3 (mR M3 a0 9) 4) : Int)) ∧ ((0 : Int) ≤ l1 ∧ l1 < (mN M3 (mR M3 (mR M3 a0 9) 4) : Int)))) ∧ ∀ v12 : Int, v12 = (if (x4 = 0) then (-1) else (mI M3 (mR M3 (mR M3 a0 9) 4) (Int.toNat (l1 + 1))) - (mI M3 (mR M3 (mR M3 a0 9) 4) (Int.toNat l1))) → Q v12 M3))) :
    Ci G y_CA_commands (d + 1) [vr a0, vi l1] M Q := by
  refine wm_open (y := y_CA_commands) rfl (Nat.le_of_ble_eq_true rfl) (L := [vr a0, vi l1]) rfl ?_
  obtain ⟨h1, h⟩ := h
  obtain ⟨h2, h⟩ := h
  refine wm_aload_n d_CA_commands_0 rfl rfl ?_
  refine gf_CA_54 rfl d_CA_commands_1 h1 ?_
  refine wm_iload_n d_CA_commands_4 rfl rfl ?_
  refine cf_CA_163 rfl d_CA_commands_5 h2 (Nat.le_of_ble_eq_true rfl) (Ci.mono h (fun x4 M3 h => ?_))
  obtain ⟨h5, hOM3, h⟩ := h
  obtain ⟨s13, h⟩ := h
  have hJ : ∀ v12 : Int, v12 = (if (x4 = 0) then (-1) else (mI M3 (mR M3 (mR M3 a0 9) 4) (Int.toNat (l1 + 1))) - (mI M3 (mR M3 (mR M3 a0 9) 4) (Int.toNat l1))) → mWm G y_CA_commands (d + 1) 36 [vd, vd] [vi v12] M3 (fun r9 M9 => ∃ x9, r9 = some (vi x9) ∧ Q x9 M9) := by
    intro v12 e14
    have h := h v12 e14
    refine wm_ireturn d_CA_commands_36 rfl rfl ?_
    exact ⟨_, rfl, h⟩
  clear h
  have s15 := s13
  refine wm_if_eq (tgt := 35) d_CA_commands_8 rfl h5 (fun c6 => ?_) (fun c6 => ?_)
  · refine wm_iconst d_CA_commands_35 ?_
    refine wm_less (L' := [vd, vd]) ⟨Or.inl rfl, Or.inl rfl, trivial⟩ ?_
    exact hJ (-1) (if_pos c6).symm
  · have s15 := s15 c6
    obtain ⟨h7, h8, h9, h10, h11⟩ := s15
    refine wm_aload_n d_CA_commands_11 rfl rfl ?_
    refine gf_CA_54 rfl d_CA_commands_12 h7 ?_
    refine gf_CA_177 rfl d_CA_commands_15 h8 ?_
    refine wm_iload_n d_CA_commands_18 rfl rfl ?_
    refine wm_iconst d_CA_commands_19 ?_
    refine wm_iadd d_CA_commands_20 ?_
    refine wm_iald d_CA_commands_21 h9 h10 ?_
    refine wm_aload_n d_CA_commands_22 rfl rfl ?_
    refine gf_CA_54 rfl d_CA_commands_23 h7 ?_
    refine gf_CA_177 rfl d_CA_commands_26 h8 ?_
    refine wm_iload_n d_CA_commands_29 rfl rfl ?_
    refine wm_iald d_CA_commands_30 h9 h11 ?_
    refine wm_isub d_CA_commands_31 ?_
    refine wm_goto (tgt := 36) d_CA_commands_32 rfl ?_
    refine wm_less (L' := [vd, vd]) ⟨Or.inl rfl, Or.inl rfl, trivial⟩ ?_
    exact hJ ((mI M3 (mR M3 (mR M3 a0 9) 4) (Int.toNat (l1 + 1))) - (mI M3 (mR M3 (mR M3 a0 9) 4) (Int.toNat l1))) (if_neg c6).symm
theorem d_CA_command_0 : decode y_CA_command.2.1 0 = .ok (.aload_n 0, 1) := dc9_42 (by decide +kernel)
theorem d_CA_command_1 : decode y_CA_command.2.1 1 = .ok (.getfield 54, 3) := dc9_180 (by decide +kernel)
theorem d_CA_command_4 : decode y_CA_command.2.1 4 = .ok (.iload_n 1, 1) := dc9_27 (by decide +kernel)
theorem d_CA_command_5 : decode y_CA_command.2.1 5 = .ok (.iload_n 2, 1) := dc9_28 (by decide +kernel)
theorem d_CA_command_6 : decode y_CA_command.2.1 6 = .ok (.invokevirtual 180, 3) := dc9_182 (by decide +kernel)
theorem d_CA_command_9 : decode y_CA_command.2.1 9 = .ok (.istore_n 3, 1) := dc9_62 (by decide +kernel)
theorem d_CA_command_10 : decode y_CA_command.2.1 10 = .ok (.iload_n 3, 1) := dc9_29 (by decide +kernel)
theorem d_CA_command_11 : decode y_CA_command.2.1 11 = .ok (.iconst (-1), 1) := dc9_2 (by decide +kernel)
theorem d_CA_command_12 : decode y_CA_command.2.1 12 = .ok (.if_icmp .ne 7, 3) := dc9_160 (by decide +kernel)
theorem d_CA_command_15 : decode y_CA_command.2.1 15 = .ok (.iconst (-1), 1) := dc9_2 (by decide +kernel)
theorem d_CA_command_16 : decode y_CA_command.2.1 16 = .ok (.goto 12, 3) := dc9_167 (by decide +kernel)
theorem d_CA_command_19 : decode y_CA_command.2.1 19 = .ok (.aload_n 0, 1) := dc9_42 (by decide +kernel)
theorem d_CA_command_20 : decode y_CA_command.2.1 20 = .ok (.getfield 54, 3) := dc9_180 (by decide +kernel)
theorem d_CA_command_23 : decode y_CA_command.2.1 23 = .ok (.getfield 184, 3) := dc9_180 (by decide +kernel)
theorem d_CA_command_26 : decode y_CA_command.2.1 26 = .ok (.iload_n 3, 1) := dc9_29 (by decide +kernel)
theorem d_CA_command_27 : decode y_CA_command.2.1 27 = .ok (.iaload, 1) := dc9_46 (by decide +kernel)
theorem d_CA_command_28 : decode y_CA_command.2.1 28 = .ok (.ireturn, 1) := dc9_172 (by decide +kernel)
theorem k_CA_command {G : mG} {d : Nat} {a0 : Nat} {l1 : Int} {l2 : Int} {M : mM} {Q : Int → mM → Prop} (hO : mOk M) (hi_l1 : i32 l1) (hi_l2 : i32 l2)
    (h : mK M a0 = 1 ∧ mK M (mR M a0 9) = 7 ∧ Ci G y_Ga_commandAt d [vr (mR M a0 9), vi l1, vi l2] M (fun x4 M3 => i32 x4 ∧ mOk M3 ∧ ((¬ (x4 = (-1)) → (mK M3 a0 = 1 ∧ mK M3 (mR M3 a0 9) = 7 ∧ mK M3 (mR M3 (mR M3 a0 9) 5) = 30 ∧ ((0 : Int) ≤ x4 ∧ x4 < (mN M3 (mR M3 (mR M3 a0 9) 5) : Int)))) ∧ ∀ v11 : Int, v11 = (if (x4 = (-1)) then (-1) else mI M3 (mR M3 (mR M3 a0 9) 5) (Int.toNat x4)) → Q v11 M3))) :
    Ci G y_CA_command (d + 1) [vr a0, vi l1, vi l2] M Q := by
  refine wm_open (y := y_CA_command) rfl (Nat.le_of_ble_eq_true rfl) (L := [vr a0, vi l1, vi l2, vd]) rfl ?_
  obtain ⟨h1, h⟩ := h
  obtain ⟨h2, h⟩ := h
  refine wm_aload_n d_CA_command_0 rfl rfl ?_
  refine gf_CA_54 rfl d_CA_command_1 h1 ?_
  refine wm_iload_n d_CA_command_4 rfl rfl ?_
  refine wm_iload_n d_CA_command_5 rfl rfl ?_
  refine cf_CA_180 rfl d_CA_command_6 h2 (Nat.le_of_ble_eq_true rfl) (Ci.mono h (fun x4 M3 h => ?_))
  obtain ⟨h5, hOM3, h⟩ := h
  refine wm_istore_n d_CA_command_9 rfl (by decide) (L' := [vr a0, vi l1, vi l2, vi x4]) rfl ?_
  refine wm_iload_n d_CA_command_10 rfl rfl ?_
  refine wm_iconst d_CA_command_11 ?_
  obtain ⟨s12, h⟩ := h
  have hJ : ∀ v11 : Int, v11 = (if (x4 = (-1)) then (-1) else mI M3 (mR M3 (mR M3 a0 9) 5) (Int.toNat x4)) → mWm G y_CA_command (d + 1) 28 [vd, vd, vd, vd] [vi v11] M3 (fun r9 M9 => ∃ x9, r9 = some (vi x9) ∧ Q x9 M9) := by
    intro v11 e13
    have h := h v11 e13
    refine wm_ireturn d_CA_command_28 rfl rfl ?_
    exact ⟨_, rfl, h⟩
  clear h
  have s14 := s12
  refine wm_icmp_ne (tgt := 19) d_CA_command_12 rfl h5 ⟨by decide, by decide⟩ (fun c6 => ?_) (fun c6 => ?_)
  · have s14 := s14 c6
    obtain ⟨h7, h8, h9, h10⟩ := s14
    refine wm_aload_n d_CA_command_19 rfl rfl ?_
    refine gf_CA_54 rfl d_CA_command_20 h7 ?_
    refine gf_CA_184 rfl d_CA_command_23 h8 ?_
    refine wm_iload_n d_CA_command_26 rfl rfl ?_
    refine wm_iald d_CA_command_27 h9 h10 ?_
    refine wm_less (L' := [vd, vd, vd, vd]) ⟨Or.inl rfl, Or.inl rfl, Or.inl rfl, Or.inl rfl, trivial⟩ ?_
    exact hJ (mI M3 (mR M3 (mR M3 a0 9) 5) (Int.toNat x4)) (if_neg c6).symm
  · replace c6 := Classical.not_not.mp c6
    refine wm_iconst d_CA_command_15 ?_
    refine wm_goto (tgt := 28) d_CA_command_16 rfl ?_
    refine wm_less (L' := [vd, vd, vd, vd]) ⟨Or.inl rfl, Or.inl rfl, Or.inl rfl, Or.inl rfl, trivial⟩ ?_
    exact hJ (-1) (if_pos c6).symm
theorem d_CA_branches_0 : decode y_CA_branches.2.1 0 = .ok (.aload_n 0, 1) := dc9_42 (by decide +kernel)
theorem d_CA_branches_1 : decode y_CA_branches.2.1 1 = .ok (.getfield 54, 3) := dc9_180 (by decide +kernel)
theorem d_CA_branches_4 : decode y_CA_branches.2.1 4 = .ok (.iload_n 1, 1) := dc9_27 (by decide +kernel)
theorem d_CA_branches_5 : decode y_CA_branches.2.1 5 = .ok (.iload_n 2, 1) := dc9_28 (by decide +kernel)
theorem d_CA_branches_6 : decode y_CA_branches.2.1 6 = .ok (.invokevirtual 180, 3) := dc9_182 (by decide +kernel)
theorem d_CA_branches_9 : decode y_CA_branches.2.1 9 = .ok (.istore_n 3, 1) := dc9_62 (by decide +kernel)
theorem d_CA_branches_10 : decode y_CA_branches.2.1 10 = .ok (.iload_n 3, 1) := dc9_29 (by decide +kernel)
theorem d_CA_branches_11 : decode y_CA_branches.2.1 11 = .ok (.iconst (-1), 1) := dc9_2 (by decide +kernel)
theorem d_CA_branches_12 : decode y_CA_branches.2.1 12 = .ok (.if_icmp .ne 7, 3) := dc9_160 (by decide +kernel)
theorem d_CA_branches_15 : decode y_CA_branches.2.1 15 = .ok (.iconst (-1), 1) := dc9_2 (by decide +kernel)
theorem d_CA_branches_16 : decode y_CA_branches.2.1 16 = .ok (.goto 24, 3) := dc9_167 (by decide +kernel)
theorem d_CA_branches_19 : decode y_CA_branches.2.1 19 = .ok (.aload_n 0, 1) := dc9_42 (by decide +kernel)
theorem d_CA_branches_20 : decode y_CA_branches.2.1 20 = .ok (.getfield 54, 3) := dc9_180 (by decide +kernel)
theorem d_CA_branches_23 : decode y_CA_branches.2.1 23 = .ok (.getfield 187, 3) := dc9_180 (by decide +kernel)
theorem d_CA_branches_26 : decode y_CA_branches.2.1 26 = .ok (.iload_n 3, 1) := dc9_29 (by decide +kernel)
theorem d_CA_branches_27 : decode y_CA_branches.2.1 27 = .ok (.iconst 1, 1) := dc9_4 (by decide +kernel)
theorem d_CA_branches_28 : decode y_CA_branches.2.1 28 = .ok (.iadd, 1) := dc9_96 (by decide +kernel)
theorem d_CA_branches_29 : decode y_CA_branches.2.1 29 = .ok (.iaload, 1) := dc9_46 (by decide +kernel)
theorem d_CA_branches_30 : decode y_CA_branches.2.1 30 = .ok (.aload_n 0, 1) := dc9_42 (by decide +kernel)
theorem d_CA_branches_31 : decode y_CA_branches.2.1 31 = .ok (.getfield 54, 3) := dc9_180 (by decide +kernel)
theorem d_CA_branches_34 : decode y_CA_branches.2.1 34 = .ok (.getfield 187, 3) := dc9_180 (by decide +kernel)
theorem d_CA_branches_37 : decode y_CA_branches.2.1 37 = .ok (.iload_n 3, 1) := dc9_29 (by decide +kernel)
theorem d_CA_branches_38 : decode y_CA_branches.2.1 38 = .ok (.iaload, 1) := dc9_46 (by decide +kernel)
theorem d_CA_branches_39 : decode y_CA_branches.2.1 39 = .ok (.isub, 1) := dc9_100 (by decide +kernel)
theorem d_CA_branches_40 : decode y_CA_branches.2.1 40 = .ok (.ireturn, 1) := dc9_172 (by decide +kernel)
theorem k_CA_branches {G : mG} {d : Nat} {a0 : Nat} {l1 : Int} {l2 : Int} {M : mM} {Q : Int → mM → Prop} (hO : mOk M) (hi_l1 : i32 l1) (hi_l2 : i32 l2)
    (h : mK M a0 = 1 ∧ mK M (mR M a0 9) = 7 ∧ Ci G y_Ga_commandAt d [vr (mR M a0 9), vi l1, vi l2] M (fun x4 M3 => i32 x4 ∧ mOk M3 ∧ ((¬ (x4 = (-1)) → (mK M3 a0 = 1 ∧ mK M3 (mR M3 a0 9) = 7 ∧ mK M3 (mR M3 (mR M3 a0 9) 7) = 30 ∧ ((0 : Int) ≤ x4 + 1 ∧ x4 + 1 < (mN M3 (mR M3 (mR M3 a0 9) 7) : Int)) ∧ ((0 : Int) ≤ x4 ∧ x4 < (mN M3 (mR M3 (mR M3 a0 9) 7) : Int)))) ∧ ∀ v12 : Int, v12 = (if (x4 = (-1)) then (-1) else (mI M3 (mR M3 (mR M3 a0 9) 7) (Int.toNat (x4 + 1))) - (mI M3 (mR M3 (mR M3 a0 9) 7) (Int.toNat x4))) → Q v12 M3))) :
    Ci G y_CA_branches (d + 1) [vr a0, vi l1, vi l2] M Q := by
  refine wm_open (y := y_CA_branches) rfl (Nat.le_of_ble_eq_true rfl) (L := [vr a0, vi l1, vi l2, vd]) rfl ?_
  obtain ⟨h1, h⟩ := h
  obtain ⟨h2, h⟩ := h
  refine wm_aload_n d_CA_branches_0 rfl rfl ?_
  refine gf_CA_54 rfl d_CA_branches_1 h1 ?_
  refine wm_iload_n d_CA_branches_4 rfl rfl ?_
  refine wm_iload_n d_CA_branches_5 rfl rfl ?_
  refine cf_CA_180 rfl d_CA_branches_6 h2 (Nat.le_of_ble_eq_true rfl) (Ci.mono h (fun x4 M3 h => ?_))
  obtain ⟨h5, hOM3, h⟩ := h
  refine wm_istore_n d_CA_branches_9 rfl (by decide) (L' := [vr a0, vi l1, vi l2, vi x4]) rfl ?_
  refine wm_iload_n d_CA_branches_10 rfl rfl ?_
  refine wm_iconst d_CA_branches_11 ?_
  obtain ⟨s13, h⟩ := h
  have hJ : ∀ v12 : Int, v12 = (if (x4 = (-1)) then (-1) else (mI M3 (mR M3 (mR M3 a0 9) 7) (Int.toNat (x4 + 1))) - (mI M3 (mR M3 (mR M3 a0 9) 7) (Int.toNat x4))) → mWm G y_CA_branches (d + 1) 40 [vd, vd, vd, vd] [vi v12] M3 (fun r9 M9 => ∃ x9, r9 = some (vi x9) ∧ Q x9 M9) := by
    intro v12 e14
    have h := h v12 e14
    refine wm_ireturn d_CA_branches_40 rfl rfl ?_
    exact ⟨_, rfl, h⟩
  clear h
  have s15 := s13
  refine wm_icmp_ne (tgt := 19) d_CA_branches_12 rfl h5 ⟨by decide, by decide⟩ (fun c6 => ?_) (fun c6 => ?_)
  · have s15 := s15 c6
    obtain ⟨h7, h8, h9, h10, h11⟩ := s15
    refine wm_aload_n d_CA_branches_19 rfl rfl ?_
    refine gf_CA_54 rfl d_CA_branches_20 h7 ?_
    refine gf_CA_187 rfl d_CA_branches_23 h8 ?_
    refine wm_iload_n d_CA_branches_26 rfl rfl ?_
    refine wm_iconst d_CA_branches_27 ?_
    refine wm_iadd d_CA_branches_28 ?_
    refine wm_iald d_CA_branches_29 h9 h10 ?_
    refine wm_aload_n d_CA_branches_30 rfl rfl ?_
    refine gf_CA_54 rfl d_CA_branches_31 h7 ?_
    refine gf_CA_187 rfl d_CA_branches_34 h8 ?_
    refine wm_iload_n d_CA_branches_37 rfl rfl ?_
    refine wm_iald d_CA_branches_38 h9 h11 ?_
    refine wm_isub d_CA_branches_39 ?_
    refine wm_less (L' := [vd, vd, vd, vd]) ⟨Or.inl rfl, Or.inl rfl, Or.inl rfl, Or.inl rfl, trivial⟩ ?_
    exact hJ ((mI M3 (mR M3 (mR M3 a0 9) 7) (Int.toNat (x4 + 1))) - (mI M3 (mR M3 (mR M3 a0 9) 7) (Int.toNat x4))) (if_neg c6).symm
  · replace c6 := Classical.not_not.mp c6
    refine wm_iconst d_CA_branches_15 ?_
    refine wm_goto (tgt := 40) d_CA_branches_16 rfl ?_
    refine wm_less (L' := [vd, vd, vd, vd]) ⟨Or.inl rfl, Or.inl rfl, Or.inl rfl, Or.inl rfl, trivial⟩ ?_
    exact hJ (-1) (if_pos c6).symm
theorem d_CA_branch_0 : decode y_CA_branch.2.1 0 = .ok (.aload_n 0, 1) := dc9_42 (by decide +kernel)
theorem d_CA_branch_1 : decode y_CA_branch.2.1 1 = .ok (.getfield 54, 3) := dc9_180 (by decide +kernel)
theorem d_CA_branch_4 : decode y_CA_branch.2.1 4 = .ok (.iload_n 1, 1) := dc9_27 (by decide +kernel)
theorem d_CA_branch_5 : decode y_CA_branch.2.1 5 = .ok (.iload_n 2, 1) := dc9_28 (by decide +kernel)
theorem d_CA_branch_6 : decode y_CA_branch.2.1 6 = .ok (.invokevirtual 180, 3) := dc9_182 (by decide +kernel)
theorem d_CA_branch_9 : decode y_CA_branch.2.1 9 = .ok (.istore 5, 2) := dc9_54 (by decide +kernel)
theorem d_CA_branch_11 : decode y_CA_branch.2.1 11 = .ok (.iload 5, 2) := dc9_21 (by decide +kernel)
theorem d_CA_branch_13 : decode y_CA_branch.2.1 13 = .ok (.iconst (-1), 1) := dc9_2 (by decide +kernel)
theorem d_CA_branch_14 : decode y_CA_branch.2.1 14 = .ok (.if_icmp .eq 34, 3) := dc9_159 (by decide +kernel)
theorem d_CA_branch_17 : decode y_CA_branch.2.1 17 = .ok (.iload_n 3, 1) := dc9_29 (by decide +kernel)
theorem d_CA_branch_18 : decode y_CA_branch.2.1 18 = .ok (.ifCond .lt 30, 3) := dc9_155 (by decide +kernel)
theorem d_CA_branch_21 : decode y_CA_branch.2.1 21 = .ok (.iload_n 3, 1) := dc9_29 (by decide +kernel)
theorem d_CA_branch_22 : decode y_CA_branch.2.1 22 = .ok (.aload_n 0, 1) := dc9_42 (by decide +kernel)
theorem d_CA_branch_23 : decode y_CA_branch.2.1 23 = .ok (.getfield 54, 3) := dc9_180 (by decide +kernel)
theorem d_CA_branch_26 : decode y_CA_branch.2.1 26 = .ok (.getfield 187, 3) := dc9_180 (by decide +kernel)
theorem d_CA_branch_29 : decode y_CA_branch.2.1 29 = .ok (.iload 5, 2) := dc9_21 (by decide +kernel)
theorem d_CA_branch_31 : decode y_CA_branch.2.1 31 = .ok (.iconst 1, 1) := dc9_4 (by decide +kernel)
theorem d_CA_branch_32 : decode y_CA_branch.2.1 32 = .ok (.iadd, 1) := dc9_96 (by decide +kernel)
theorem d_CA_branch_33 : decode y_CA_branch.2.1 33 = .ok (.iaload, 1) := dc9_46 (by decide +kernel)
theorem d_CA_branch_34 : decode y_CA_branch.2.1 34 = .ok (.aload_n 0, 1) := dc9_42 (by decide +kernel)
theorem d_CA_branch_35 : decode y_CA_branch.2.1 35 = .ok (.getfield 54, 3) := dc9_180 (by decide +kernel)
theorem d_CA_branch_38 : decode y_CA_branch.2.1 38 = .ok (.getfield 187, 3) := dc9_180 (by decide +kernel)
theorem d_CA_branch_41 : decode y_CA_branch.2.1 41 = .ok (.iload 5, 2) := dc9_21 (by decide +kernel)
theorem d_CA_branch_43 : decode y_CA_branch.2.1 43 = .ok (.iaload, 1) := dc9_46 (by decide +kernel)
theorem d_CA_branch_44 : decode y_CA_branch.2.1 44 = .ok (.isub, 1) := dc9_100 (by decide +kernel)
theorem d_CA_branch_45 : decode y_CA_branch.2.1 45 = .ok (.if_icmp .lt 5, 3) := dc9_161 (by decide +kernel)
theorem d_CA_branch_50 : decode y_CA_branch.2.1 50 = .ok (.aload_n 0, 1) := dc9_42 (by decide +kernel)
theorem d_CA_branch_51 : decode y_CA_branch.2.1 51 = .ok (.getfield 54, 3) := dc9_180 (by decide +kernel)
theorem d_CA_branch_54 : decode y_CA_branch.2.1 54 = .ok (.getfield 187, 3) := dc9_180 (by decide +kernel)
theorem d_CA_branch_57 : decode y_CA_branch.2.1 57 = .ok (.iload 5, 2) := dc9_21 (by decide +kernel)
theorem d_CA_branch_59 : decode y_CA_branch.2.1 59 = .ok (.iaload, 1) := dc9_46 (by decide +kernel)
theorem d_CA_branch_60 : decode y_CA_branch.2.1 60 = .ok (.iload_n 3, 1) := dc9_29 (by decide +kernel)
theorem d_CA_branch_61 : decode y_CA_branch.2.1 61 = .ok (.iadd, 1) := dc9_96 (by decide +kernel)
theorem d_CA_branch_62 : decode y_CA_branch.2.1 62 = .ok (.istore 6, 2) := dc9_54 (by decide +kernel)
theorem d_CA_branch_64 : decode y_CA_branch.2.1 64 = .ok (.aload_n 0, 1) := dc9_42 (by decide +kernel)
theorem d_CA_branch_65 : decode y_CA_branch.2.1 65 = .ok (.getfield 54, 3) := dc9_180 (by decide +kernel)
theorem d_CA_branch_68 : decode y_CA_branch.2.1 68 = .ok (.getfield 190, 3) := dc9_180 (by decide +kernel)
theorem d_CA_branch_71 : decode y_CA_branch.2.1 71 = .ok (.iload 6, 2) := dc9_21 (by decide +kernel)
theorem d_CA_branch_73 : decode y_CA_branch.2.1 73 = .ok (.iaload, 1) := dc9_46 (by decide +kernel)
theorem d_CA_branch_74 : decode y_CA_branch.2.1 74 = .ok (.i2l, 1) := dc9_133 (by decide +kernel)
theorem d_CA_branch_75 : decode y_CA_branch.2.1 75 = .ok (.aload_n 0, 1) := dc9_42 (by decide +kernel)
theorem d_CA_branch_76 : decode y_CA_branch.2.1 76 = .ok (.getfield 54, 3) := dc9_180 (by decide +kernel)
theorem d_CA_branch_79 : decode y_CA_branch.2.1 79 = .ok (.getfield 193, 3) := dc9_180 (by decide +kernel)
theorem d_CA_branch_82 : decode y_CA_branch.2.1 82 = .ok (.iload 5, 2) := dc9_21 (by decide +kernel)
theorem d_CA_branch_84 : decode y_CA_branch.2.1 84 = .ok (.iaload, 1) := dc9_46 (by decide +kernel)
theorem d_CA_branch_85 : decode y_CA_branch.2.1 85 = .ok (.i2l, 1) := dc9_133 (by decide +kernel)
theorem d_CA_branch_48 : decode y_CA_branch.2.1 48 = .ok (.iconst (-1), 1) := dc9_2 (by decide +kernel)
theorem d_CA_branch_49 : decode y_CA_branch.2.1 49 = .ok (.ireturn, 1) := dc9_172 (by decide +kernel)
theorem d_CA_branch_86 : decode y_CA_branch.2.1 86 = .ok (.invokestatic 196, 3) := dc9_184 (by decide +kernel)
theorem d_CA_branch_89 : decode y_CA_branch.2.1 89 = .ok (.l2i, 1) := dc9_136 (by decide +kernel)
theorem d_CA_branch_90 : decode y_CA_branch.2.1 90 = .ok (.istore 7, 2) := dc9_54 (by decide +kernel)
theorem d_CA_branch_92 : decode y_CA_branch.2.1 92 = .ok (.iload 4, 2) := dc9_21 (by decide +kernel)
theorem d_CA_branch_94 : decode y_CA_branch.2.1 94 = .ok (.tableswitch 65 0 2 #[26, 37, 51], 26) := by decide +kernel
theorem d_CA_branch_120 : decode y_CA_branch.2.1 120 = .ok (.aload_n 0, 1) := dc9_42 (by decide +kernel)
theorem d_CA_branch_121 : decode y_CA_branch.2.1 121 = .ok (.getfield 54, 3) := dc9_180 (by decide +kernel)
theorem d_CA_branch_124 : decode y_CA_branch.2.1 124 = .ok (.getfield 202, 3) := dc9_180 (by decide +kernel)
theorem d_CA_branch_127 : decode y_CA_branch.2.1 127 = .ok (.iload 6, 2) := dc9_21 (by decide +kernel)
theorem d_CA_branch_129 : decode y_CA_branch.2.1 129 = .ok (.iaload, 1) := dc9_46 (by decide +kernel)
theorem d_CA_branch_130 : decode y_CA_branch.2.1 130 = .ok (.ireturn, 1) := dc9_172 (by decide +kernel)
theorem d_CA_branch_131 : decode y_CA_branch.2.1 131 = .ok (.aload_n 0, 1) := dc9_42 (by decide +kernel)
theorem d_CA_branch_132 : decode y_CA_branch.2.1 132 = .ok (.getfield 54, 3) := dc9_180 (by decide +kernel)
theorem d_CA_branch_135 : decode y_CA_branch.2.1 135 = .ok (.getfield 190, 3) := dc9_180 (by decide +kernel)
theorem d_CA_branch_138 : decode y_CA_branch.2.1 138 = .ok (.iload 6, 2) := dc9_21 (by decide +kernel)
theorem d_CA_branch_140 : decode y_CA_branch.2.1 140 = .ok (.iaload, 1) := dc9_46 (by decide +kernel)
theorem d_CA_branch_141 : decode y_CA_branch.2.1 141 = .ok (.iload 7, 2) := dc9_21 (by decide +kernel)
theorem d_CA_branch_143 : decode y_CA_branch.2.1 143 = .ok (.idiv, 1) := dc9_108 (by decide +kernel)
theorem d_CA_branch_144 : decode y_CA_branch.2.1 144 = .ok (.ireturn, 1) := dc9_172 (by decide +kernel)
theorem d_CA_branch_145 : decode y_CA_branch.2.1 145 = .ok (.aload_n 0, 1) := dc9_42 (by decide +kernel)
theorem d_CA_branch_146 : decode y_CA_branch.2.1 146 = .ok (.getfield 54, 3) := dc9_180 (by decide +kernel)
theorem d_CA_branch_149 : decode y_CA_branch.2.1 149 = .ok (.getfield 193, 3) := dc9_180 (by decide +kernel)
theorem d_CA_branch_152 : decode y_CA_branch.2.1 152 = .ok (.iload 5, 2) := dc9_21 (by decide +kernel)
theorem d_CA_branch_154 : decode y_CA_branch.2.1 154 = .ok (.iaload, 1) := dc9_46 (by decide +kernel)
theorem d_CA_branch_155 : decode y_CA_branch.2.1 155 = .ok (.iload 7, 2) := dc9_21 (by decide +kernel)
theorem d_CA_branch_157 : decode y_CA_branch.2.1 157 = .ok (.idiv, 1) := dc9_108 (by decide +kernel)
theorem d_CA_branch_158 : decode y_CA_branch.2.1 158 = .ok (.ireturn, 1) := dc9_172 (by decide +kernel)
theorem d_CA_branch_159 : decode y_CA_branch.2.1 159 = .ok (.iconst (-1), 1) := dc9_2 (by decide +kernel)
theorem d_CA_branch_160 : decode y_CA_branch.2.1 160 = .ok (.ireturn, 1) := dc9_172 (by decide +kernel)
theorem k_CA_branch {G : mG} {d : Nat} {a0 : Nat} {l1 : Int} {l2 : Int} {l3 : Int} {l4 : Int} {M : mM} {Q : Int → mM → Prop} (hO : mOk M) (hi_l1 : i32 l1) (hi_l2 : i32 l2) (hi_l3 : i32 l3) (hi_l4 : i32 l4)
    (h : mK M a0 = 1 ∧ mK M (mR M a0 9) = 7 ∧ Ci G y_Ga_commandAt d [vr (mR M a0 9), vi l1, vi l2] M (fun x4 M3 => i32 x4 ∧ mOk M3 ∧ ((¬ (x4 = (-1)) → (¬ (l3 < 0) → (mK M3 a0 = 1 ∧ mK M3 (mR M3 a0 9) = 7 ∧ mK M3 (mR M3 (mR M3 a0 9) 7) = 30 ∧ ((0 : Int) ≤ x4 + 1 ∧ x4 + 1 < (mN M3 (mR M3 (mR M3 a0 9) 7) : Int)) ∧ ((0 : Int) ≤ x4 ∧ x4 < (mN M3 (mR M3 (mR M3 a0 9) 7) : Int)) ∧ i32 ((mI M3 (mR M3 (mR M3 a0 9) 7) (Int.toNat (x4 + 1))) - (mI M3 (mR M3 (mR M3 a0 9) 7) (Int.toNat x4)))))) ∧ (((x4 = (-1)) ∨ ((l3 < 0) ∨ (¬ (l3 < (mI M3 (mR M3 (mR M3 a0 9) 7) (Int.toNat (x4 + 1))) - (mI M3 (mR M3 (mR M3 a0 9) 7) (Int.toNat x4)))))) → (Q (-1) M3)) ∧ (¬ ((x4 = (-1)) ∨ ((l3 < 0) ∨ (¬ (l3 < (mI M3 (mR M3 (mR M3 a0 9) 7) (Int.toNat (x4 + 1))) - (mI M3 (mR M3 (mR M3 a0 9) 7) (Int.toNat x4)))))) → (mK M3 a0 = 1 ∧ mK M3 (mR M3 a0 9) = 7 ∧ mK M3 (mR M3 (mR M3 a0 9) 7) = 30 ∧ ((0 : Int) ≤ x4 ∧ x4 < (mN M3 (mR M3 (mR M3 a0 9) 7) : Int)) ∧ mK M3 (mR M3 (mR M3 a0 9) 9) = 30 ∧ ((0 : Int) ≤ (mI M3 (mR M3 (mR M3 a0 9) 7) (Int.toNat x4)) + l3 ∧ (mI M3 (mR M3 (mR M3 a0 9) 7) (Int.toNat x4)) + l3 < (mN M3 (mR M3 (mR M3 a0 9) 9) : Int)) ∧ mK M3 (mR M3 (mR M3 a0 9) 6) = 30 ∧ ((0 : Int) ≤ x4 ∧ x4 < (mN M3 (mR M3 (mR M3 a0 9) 6) : Int)) ∧ Cj G y_Ma_commonDivisor d [vl (mI M3 (mR M3 (mR M3 a0 9) 9) (Int.toNat ((mI M3 (mR M3 (mR M3 a0 9) 7) (Int.toNat x4)) + l3))), vl (mI M3 (mR M3 (mR M3 a0 9) 6) (Int.toNat x4))] M3 (fun x27 M26 => i64 x27 ∧ mOk M26 ∧ (((l4 = 0) → (mK M26 a0 = 1 ∧ mK M26 (mR M26 a0 9) = 7 ∧ mK M26 (mR M26 (mR M26 a0 9) 8) = 30 ∧ ((0 : Int) ≤ (mI M3 (mR M3 (mR M3 a0 9) 7) (Int.toNat x4)) + l3 ∧ (mI M3 (mR M3 (mR M3 a0 9) 7) (Int.toNat x4)) + l3 < (mN M26 (mR M26 (mR M26 a0 9) 8) : Int)) ∧ Q (mI M26 (mR M26 (mR M26 a0 9) 8) (Int.toNat ((mI M3 (mR M3 (mR M3 a0 9) 7) (Int.toNat x4)) + l3))) M26)) ∧ (¬ (l4 = 0) → (((l4 = 1) → (mK M26 a0 = 1 ∧ mK M26 (mR M26 a0 9) = 7 ∧ mK M26 (mR M26 (mR M26 a0 9) 9) = 30 ∧ ((0 : Int) ≤ (mI M3 (mR M3 (mR M3 a0 9) 7) (Int.toNat x4)) + l3 ∧ (mI M3 (mR M3 (mR M3 a0 9) 7) (Int.toNat x4)) + l3 < (mN M26 (mR M26 (mR M26 a0 9) 9) : Int)) ∧ i32 x27 ∧ x27 ≠ 0 ∧ Q (Int.tdiv (mI M26 (mR M26 (mR M26 a0 9) 9) (Int.toNat ((mI M3 (mR M3 (mR M3 a0 9) 7) (Int.toNat x4)) + l3))) x27) M26)) ∧ (¬ (l4 = 1) → (((l4 = 2) → (mK M26 a0 = 1 ∧ mK M26 (mR M26 a0 9) = 7 ∧ mK M26 (mR M26 (mR M26 a0 9) 6) = 30 ∧ ((0 : Int) ≤ x4 ∧ x4 < (mN M26 (mR M26 (mR M26 a0 9) 6) : Int)) ∧ i32 x27 ∧ x27 ≠ 0 ∧ Q (Int.tdiv (mI M26 (mR M26 (mR M26 a0 9) 6) (Int.toNat x4)) x27) M26)) ∧ (¬ (l4 = 2) → (Q (-1) M26))))))))))))) :
    Ci G y_CA_branch (d + 1) [vr a0, vi l1, vi l2, vi l3, vi l4] M Q := by
  refine wm_open (y := y_CA_branch) rfl (Nat.le_of_ble_eq_true rfl) (L := [vr a0, vi l1, vi l2, vi l3, vi l4, vd, vd, vd]) rfl ?_
  obtain ⟨h1, h⟩ := h
  obtain ⟨h2, h⟩ := h
  refine wm_aload_n d_CA_branch_0 rfl rfl ?_
  refine gf_CA_54 rfl d_CA_branch_1 h1 ?_
  refine wm_iload_n d_CA_branch_4 rfl rfl ?_
  refine wm_iload_n d_CA_branch_5 rfl rfl ?_
  refine cf_CA_180 rfl d_CA_branch_6 h2 (Nat.le_of_ble_eq_true rfl) (Ci.mono h (fun x4 M3 h => ?_))
  obtain ⟨h5, hOM3, h⟩ := h
  refine wm_istore d_CA_branch_9 (by decide) (L' := [vr a0, vi l1, vi l2, vi l3, vi l4, vi x4, vd, vd]) rfl ?_
  refine wm_iload d_CA_branch_11 rfl ?_
  refine wm_iconst d_CA_branch_13 ?_
  obtain ⟨s15, h⟩ := h
  have hE0 : ((x4 = (-1)) ∨ ((l3 < 0) ∨ (¬ (l3 < (mI M3 (mR M3 (mR M3 a0 9) 7) (Int.toNat (x4 + 1))) - (mI M3 (mR M3 (mR M3 a0 9) 7) (Int.toNat x4)))))) → mWm G y_CA_branch (d + 1) 48 [vr a0, vi l1, vi l2, vi l3, vi l4, vi x4, vd, vd] [] M3 (fun r9 M9 => ∃ x9, r9 = some (vi x9) ∧ Q x9 M9) := by
    intro q16
    have h := h.1 q16
    refine wm_iconst d_CA_branch_48 ?_
    refine wm_ireturn d_CA_branch_49 rfl rfl ?_
    exact ⟨_, rfl, h⟩
  have hE1 : ¬ ((x4 = (-1)) ∨ ((l3 < 0) ∨ (¬ (l3 < (mI M3 (mR M3 (mR M3 a0 9) 7) (Int.toNat (x4 + 1))) - (mI M3 (mR M3 (mR M3 a0 9) 7) (Int.toNat x4)))))) → mWm G y_CA_branch (d + 1) 50 [vr a0, vi l1, vi l2, vi l3, vi l4, vi x4, vd, vd] [] M3 (fun r9 M9 => ∃ x9, r9 = some (vi x9) ∧ Q x9 M9) := by
    intro q17
    have h := h.2 q17
    obtain ⟨h18, h⟩ := h
    obtain ⟨h19, h⟩ := h
    obtain ⟨h20, h⟩ := h
    obtain ⟨h21, h⟩ := h
    obtain ⟨h22, h⟩ := h
    obtain ⟨h23, h⟩ := h
    obtain ⟨h24, h⟩ := h
    obtain ⟨h25, h⟩ := h
    refine wm_aload_n d_CA_branch_50 rfl rfl ?_
    refine gf_CA_54 rfl d_CA_branch_51 h18 ?_
    refine gf_CA_187 rfl d_CA_branch_54 h19 ?_
    refine wm_iload d_CA_branch_57 rfl ?_
    refine wm_iald d_CA_branch_59 h20 h21 ?_
    refine wm_iload_n d_CA_branch_60 rfl rfl ?_
    refine wm_iadd d_CA_branch_61 ?_
    refine wm_istore d_CA_branch_62 (by decide) (L' := [vr a0, vi l1, vi l2, vi l3, vi l4, vi x4, vi ((mI M3 (mR M3 (mR M3 a0 9) 7) (Int.toNat x4)) + l3), vd]) rfl ?_
    refine wm_aload_n d_CA_branch_64 rfl rfl ?_
    refine gf_CA_54 rfl d_CA_branch_65 h18 ?_
    refine gf_CA_190 rfl d_CA_branch_68 h19 ?_
    refine wm_iload d_CA_branch_71 rfl ?_
    refine wm_iald d_CA_branch_73 h22 h23 ?_
    refine wm_i2l d_CA_branch_74 (hOM3 _ _).1 ?_
    refine wm_aload_n d_CA_branch_75 rfl rfl ?_
    refine gf_CA_54 rfl d_CA_branch_76 h18 ?_
    refine gf_CA_193 rfl d_CA_branch_79 h19 ?_
    refine wm_iload d_CA_branch_82 rfl ?_
    refine wm_iald d_CA_branch_84 h24 h25 ?_
    refine wm_i2l d_CA_branch_85 (hOM3 _ _).1 ?_
    refine cf_CA_196 rfl d_CA_branch_86 (Nat.le_of_ble_eq_true rfl) (Cj.mono h (fun x27 M26 h => ?_))
    obtain ⟨h28, hOM26, h⟩ := h
    refine wm_l2i d_CA_branch_89 ?_
    refine wm_istore d_CA_branch_90 (by decide) (L' := [vr a0, vi l1, vi l2, vi l3, vi l4, vi x4, vi ((mI M3 (mR M3 (mR M3 a0 9) 7) (Int.toNat x4)) + l3), vi x27]) rfl ?_
    refine wm_iload d_CA_branch_92 rfl ?_
    by_cases c29 : l4 = 0
    · replace h := h.1 c29
      refine wm_tableIn (tgt := 120) (off := 26) d_CA_branch_94 hi_l4 (by omega) (by omega) (by rw [c29]; rfl) rfl ?_
      obtain ⟨h30, h⟩ := h
      obtain ⟨h31, h⟩ := h
      obtain ⟨h32, h⟩ := h
      obtain ⟨h33, h⟩ := h
      refine wm_aload_n d_CA_branch_120 rfl rfl ?_
      refine gf_CA_54 rfl d_CA_branch_121 h30 ?_
      refine gf_CA_202 rfl d_CA_branch_124 h31 ?_
      refine wm_iload d_CA_branch_127 rfl ?_
      refine wm_iald d_CA_branch_129 h32 h33 ?_
      refine wm_ireturn d_CA_branch_130 rfl rfl ?_
      exact ⟨_, rfl, h⟩
    · replace h := h.2 c29
      by_cases c34 : l4 = 1
      · replace h := h.1 c34
        refine wm_tableIn (tgt := 131) (off := 37) d_CA_branch_94 hi_l4 (by omega) (by omega) (by rw [c34]; rfl) rfl ?_
        obtain ⟨h35, h⟩ := h
        obtain ⟨h36, h⟩ := h
        obtain ⟨h37, h⟩ := h
        obtain ⟨h38, h⟩ := h
        obtain ⟨h39, h⟩ := h
        obtain ⟨h40, h⟩ := h
        refine wm_aload_n d_CA_branch_131 rfl rfl ?_
        refine gf_CA_54 rfl d_CA_branch_132 h35 ?_
        refine gf_CA_190 rfl d_CA_branch_135 h36 ?_
        refine wm_iload d_CA_branch_138 rfl ?_
        refine wm_iald d_CA_branch_140 h37 h38 ?_
        refine wm_iload d_CA_branch_141 rfl ?_
        refine wm_idiv d_CA_branch_143 (hOM26 _ _).1 h39 h40 ?_
        refine wm_ireturn d_CA_branch_144 rfl rfl ?_
        exact ⟨_, rfl, h⟩
      · replace h := h.2 c34
        by_cases c41 : l4 = 2
        · replace h := h.1 c41
          refine wm_tableIn (tgt := 145) (off := 51) d_CA_branch_94 hi_l4 (by omega) (by omega) (by rw [c41]; rfl) rfl ?_
          obtain ⟨h42, h⟩ := h
          obtain ⟨h43, h⟩ := h
          obtain ⟨h44, h⟩ := h
          obtain ⟨h45, h⟩ := h
          obtain ⟨h46, h⟩ := h
          obtain ⟨h47, h⟩ := h
          refine wm_aload_n d_CA_branch_145 rfl rfl ?_
          refine gf_CA_54 rfl d_CA_branch_146 h42 ?_
          refine gf_CA_193 rfl d_CA_branch_149 h43 ?_
          refine wm_iload d_CA_branch_152 rfl ?_
          refine wm_iald d_CA_branch_154 h44 h45 ?_
          refine wm_iload d_CA_branch_155 rfl ?_
          refine wm_idiv d_CA_branch_157 (hOM26 _ _).1 h46 h47 ?_
          refine wm_ireturn d_CA_branch_158 rfl rfl ?_
          exact ⟨_, rfl, h⟩
        · replace h := h.2 c41
          refine wm_tableOut (tgt := 159) d_CA_branch_94 hi_l4 (by omega) rfl ?_
          refine wm_iconst d_CA_branch_159 ?_
          refine wm_ireturn d_CA_branch_160 rfl rfl ?_
          exact ⟨_, rfl, h⟩
  clear h
  have s48 := s15
  refine wm_icmp_eq (tgt := 48) d_CA_branch_14 rfl h5 ⟨by decide, by decide⟩ (fun c14 => ?_) (fun c14 => ?_)
  · exact hE0 (Or.inl c14)
  · have s48 := s48 c14
    have s49 := s48
    refine wm_iload_n d_CA_branch_17 rfl rfl ?_
    refine wm_if_lt (tgt := 48) d_CA_branch_18 rfl hi_l3 (fun c13 => ?_) (fun c13 => ?_)
    · exact hE0 (Or.inr (Or.inl c13))
    · have s49 := s49 c13
      obtain ⟨h6, h7, h8, h9, h10, h11⟩ := s49
      refine wm_iload_n d_CA_branch_21 rfl rfl ?_
      refine wm_aload_n d_CA_branch_22 rfl rfl ?_
      refine gf_CA_54 rfl d_CA_branch_23 h6 ?_
      refine gf_CA_187 rfl d_CA_branch_26 h7 ?_
      refine wm_iload d_CA_branch_29 rfl ?_
      refine wm_iconst d_CA_branch_31 ?_
      refine wm_iadd d_CA_branch_32 ?_
      refine wm_iald d_CA_branch_33 h8 h9 ?_
      refine wm_aload_n d_CA_branch_34 rfl rfl ?_
      refine gf_CA_54 rfl d_CA_branch_35 h6 ?_
      refine gf_CA_187 rfl d_CA_branch_38 h7 ?_
      refine wm_iload d_CA_branch_41 rfl ?_
      refine wm_iald d_CA_branch_43 h8 h10 ?_
      refine wm_isub d_CA_branch_44 ?_
      refine wm_icmp_lt (tgt := 50) d_CA_branch_45 rfl hi_l3 h11 (fun c12 => ?_) (fun c12 => ?_)
      · exact hE1 (fun z50 => Or.elim z50 c14 (fun z51 => Or.elim z51 c13 (fun z52 => z52 c12)))
      · exact hE0 (Or.inr (Or.inr c12))
theorem d_CA_solve_0 : decode y_CA_solve.2.1 0 = .ok (.aload_n 0, 1) := dc9_42 (by decide +kernel)
theorem d_CA_solve_1 : decode y_CA_solve.2.1 1 = .ok (.getfield 54, 3) := dc9_180 (by decide +kernel)
theorem d_CA_solve_4 : decode y_CA_solve.2.1 4 = .ok (.getfield 160, 3) := dc9_180 (by decide +kernel)
theorem d_CA_solve_7 : decode y_CA_solve.2.1 7 = .ok (.ifCond .ne 11, 3) := dc9_154 (by decide +kernel)
theorem d_CA_solve_18 : decode y_CA_solve.2.1 18 = .ok (.aload_n 0, 1) := dc9_42 (by decide +kernel)
theorem d_CA_solve_19 : decode y_CA_solve.2.1 19 = .ok (.getfield 63, 3) := dc9_180 (by decide +kernel)
theorem d_CA_solve_22 : decode y_CA_solve.2.1 22 = .ok (.iconst 0, 1) := dc9_3 (by decide +kernel)
theorem d_CA_solve_23 : decode y_CA_solve.2.1 23 = .ok (.aload_n 0, 1) := dc9_42 (by decide +kernel)
theorem d_CA_solve_24 : decode y_CA_solve.2.1 24 = .ok (.getfield 70, 3) := dc9_180 (by decide +kernel)
theorem d_CA_solve_27 : decode y_CA_solve.2.1 27 = .ok (.invokevirtual 205, 3) := dc9_182 (by decide +kernel)
theorem d_CA_solve_30 : decode y_CA_solve.2.1 30 = .ok (.istore_n 1, 1) := dc9_60 (by decide +kernel)
theorem d_CA_solve_31 : decode y_CA_solve.2.1 31 = .ok (.iload_n 1, 1) := dc9_27 (by decide +kernel)
theorem d_CA_solve_32 : decode y_CA_solve.2.1 32 = .ok (.ifCond .ne 14, 3) := dc9_154 (by decide +kernel)
theorem d_CA_solve_35 : decode y_CA_solve.2.1 35 = .ok (.aload_n 0, 1) := dc9_42 (by decide +kernel)
theorem d_CA_solve_36 : decode y_CA_solve.2.1 36 = .ok (.getfield 63, 3) := dc9_180 (by decide +kernel)
theorem d_CA_solve_39 : decode y_CA_solve.2.1 39 = .ok (.aload_n 0, 1) := dc9_42 (by decide +kernel)
theorem d_CA_solve_40 : decode y_CA_solve.2.1 40 = .ok (.getfield 70, 3) := dc9_180 (by decide +kernel)
theorem d_CA_solve_43 : decode y_CA_solve.2.1 43 = .ok (.invokevirtual 209, 3) := dc9_182 (by decide +kernel)
theorem d_CA_solve_46 : decode y_CA_solve.2.1 46 = .ok (.iload_n 1, 1) := dc9_27 (by decide +kernel)
theorem d_CA_solve_47 : decode y_CA_solve.2.1 47 = .ok (.ireturn, 1) := dc9_172 (by decide +kernel)
theorem k_CA_solve {G : mG} {d : Nat} {a0 : Nat} {M : mM} {Q : Int → mM → Prop} (hO : mOk M)
    (h : mK M a0 = 1 ∧ mK M (mR M a0 9) = 7 ∧ ((mI M (mR M a0 9) 0 = 0) → (False)) ∧ (¬ (mI M (mR M a0 9) 0 = 0) → (mK M (mR M a0 10) = 8 ∧ Ci G y_So_workOut d [vr (mR M a0 10), vi 0, vr (mR M a0 11)] M (fun x7 M6 => i32 x7 ∧ mOk M6 ∧ (((x7 = 0) → (mK M6 a0 = 1 ∧ mK M6 (mR M6 a0 10) = 8 ∧ Cv G y_So_rankAndChoose d [vr (mR M6 a0 10), vr (mR M6 a0 11)] M6 (fun M15 => mOk M15 ∧ (Q x7 M15)))) ∧ (¬ (x7 = 0) → (Q x7 M6))))))) :
    Ci G y_CA_solve (d + 1) [vr a0] M Q := by
  refine wm_open (y := y_CA_solve) rfl (Nat.le_of_ble_eq_true rfl) (L := [vr a0, vd]) rfl ?_
  obtain ⟨h1, h⟩ := h
  obtain ⟨h2, h⟩ := h
  refine wm_aload_n d_CA_solve_0 rfl rfl ?_
  refine gf_CA_54 rfl d_CA_solve_1 h1 ?_
  refine gf_CA_160 rfl d_CA_solve_4 h2 ?_
  refine wm_if_ne (tgt := 18) d_CA_solve_7 rfl (hO _ _).1 (fun c4 => ?_) (fun c4 => ?_)
  · replace h := h.2 c4
    obtain ⟨h5, h⟩ := h
    refine wm_aload_n d_CA_solve_18 rfl rfl ?_
    refine gf_CA_63 rfl d_CA_solve_19 h1 ?_
    refine wm_iconst d_CA_solve_22 ?_
    refine wm_aload_n d_CA_solve_23 rfl rfl ?_
    refine gf_CA_70 rfl d_CA_solve_24 h1 ?_
    refine cf_CA_205 rfl d_CA_solve_27 h5 (Nat.le_of_ble_eq_true rfl) (Ci.mono h (fun x7 M6 h => ?_))
    obtain ⟨h8, hOM6, h⟩ := h
    refine wm_istore_n d_CA_solve_30 rfl (by decide) (L' := [vr a0, vi x7]) rfl ?_
    refine wm_iload_n d_CA_solve_31 rfl rfl ?_
    refine wm_if_ne (tgt := 46) d_CA_solve_32 rfl h8 (fun c12 => ?_) (fun c12 => ?_)
    · replace h := h.2 c12
      refine wm_iload_n d_CA_solve_46 rfl rfl ?_
      refine wm_ireturn d_CA_solve_47 rfl rfl ?_
      exact ⟨_, rfl, h⟩
    · replace c12 := Classical.not_not.mp c12
      replace h := h.1 c12
      obtain ⟨h13, h⟩ := h
      obtain ⟨h14, h⟩ := h
      refine wm_aload_n d_CA_solve_35 rfl rfl ?_
      refine gf_CA_63 rfl d_CA_solve_36 h13 ?_
      refine wm_aload_n d_CA_solve_39 rfl rfl ?_
      refine gf_CA_70 rfl d_CA_solve_40 h13 ?_
      refine cf_CA_209 rfl d_CA_solve_43 h14 (Nat.le_of_ble_eq_true rfl) (Cv.mono h (fun M15 h => ?_))
      obtain ⟨hOM15, h⟩ := h
      refine wm_iload_n d_CA_solve_46 rfl rfl ?_
      refine wm_ireturn d_CA_solve_47 rfl rfl ?_
      exact ⟨_, rfl, h⟩
  · replace c4 := Classical.not_not.mp c4
    replace h := h.1 c4
    exact h.elim
theorem d_CA_within_0 : decode y_CA_within.2.1 0 = .ok (.iload_n 1, 1) := dc9_27 (by decide +kernel)
theorem d_CA_within_1 : decode y_CA_within.2.1 1 = .ok (.ifCond .lt 9, 3) := dc9_155 (by decide +kernel)
theorem d_CA_within_4 : decode y_CA_within.2.1 4 = .ok (.iload_n 1, 1) := dc9_27 (by decide +kernel)
theorem d_CA_within_5 : decode y_CA_within.2.1 5 = .ok (.bipush 32, 2) := dc9_16 (by decide +kernel)
theorem d_CA_within_7 : decode y_CA_within.2.1 7 = .ok (.if_icmp .le 11, 3) := dc9_164 (by decide +kernel)
theorem d_CA_within_18 : decode y_CA_within.2.1 18 = .ok (.aload_n 0, 1) := dc9_42 (by decide +kernel)
theorem d_CA_within_19 : decode y_CA_within.2.1 19 = .ok (.getfield 54, 3) := dc9_180 (by decide +kernel)
theorem d_CA_within_22 : decode y_CA_within.2.1 22 = .ok (.getfield 160, 3) := dc9_180 (by decide +kernel)
theorem d_CA_within_25 : decode y_CA_within.2.1 25 = .ok (.ifCond .ne 11, 3) := dc9_154 (by decide +kernel)
theorem d_CA_within_36 : decode y_CA_within.2.1 36 = .ok (.aload_n 0, 1) := dc9_42 (by decide +kernel)
theorem d_CA_within_37 : decode y_CA_within.2.1 37 = .ok (.getfield 74, 3) := dc9_180 (by decide +kernel)
theorem d_CA_within_40 : decode y_CA_within.2.1 40 = .ok (.iconst 0, 1) := dc9_3 (by decide +kernel)
theorem d_CA_within_41 : decode y_CA_within.2.1 41 = .ok (.putfield 137, 3) := dc9_181 (by decide +kernel)
theorem d_CA_within_44 : decode y_CA_within.2.1 44 = .ok (.aload_n 0, 1) := dc9_42 (by decide +kernel)
theorem d_CA_within_45 : decode y_CA_within.2.1 45 = .ok (.getfield 74, 3) := dc9_180 (by decide +kernel)
theorem d_CA_within_48 : decode y_CA_within.2.1 48 = .ok (.aload_n 0, 1) := dc9_42 (by decide +kernel)
theorem d_CA_within_49 : decode y_CA_within.2.1 49 = .ok (.getfield 54, 3) := dc9_180 (by decide +kernel)
theorem d_CA_within_52 : decode y_CA_within.2.1 52 = .ok (.invokevirtual 213, 3) := dc9_182 (by decide +kernel)
theorem d_CA_within_55 : decode y_CA_within.2.1 55 = .ok (.iconst 0, 1) := dc9_3 (by decide +kernel)
theorem d_CA_within_56 : decode y_CA_within.2.1 56 = .ok (.istore_n 2, 1) := dc9_61 (by decide +kernel)
theorem d_CA_within_57 : decode y_CA_within.2.1 57 = .ok (.iload_n 2, 1) := dc9_28 (by decide +kernel)
theorem d_CA_within_58 : decode y_CA_within.2.1 58 = .ok (.iload_n 1, 1) := dc9_27 (by decide +kernel)
theorem d_CA_within_59 : decode y_CA_within.2.1 59 = .ok (.if_icmp .ge 52, 3) := dc9_162 (by decide +kernel)
theorem d_CA_within_111 : decode y_CA_within.2.1 111 = .ok (.aload_n 0, 1) := dc9_42 (by decide +kernel)
theorem d_CA_within_112 : decode y_CA_within.2.1 112 = .ok (.getfield 74, 3) := dc9_180 (by decide +kernel)
theorem d_CA_within_115 : decode y_CA_within.2.1 115 = .ok (.iconst 1, 1) := dc9_4 (by decide +kernel)
theorem d_CA_within_116 : decode y_CA_within.2.1 116 = .ok (.putfield 137, 3) := dc9_181 (by decide +kernel)
theorem d_CA_within_119 : decode y_CA_within.2.1 119 = .ok (.iconst 0, 1) := dc9_3 (by decide +kernel)
theorem d_CA_within_120 : decode y_CA_within.2.1 120 = .ok (.ireturn, 1) := dc9_172 (by decide +kernel)
theorem d_CA_within_62 : decode y_CA_within.2.1 62 = .ok (.aload_n 0, 1) := dc9_42 (by decide +kernel)
theorem d_CA_within_63 : decode y_CA_within.2.1 63 = .ok (.getfield 74, 3) := dc9_180 (by decide +kernel)
theorem d_CA_within_66 : decode y_CA_within.2.1 66 = .ok (.astore_n 3, 1) := dc9_78 (by decide +kernel)
theorem d_CA_within_67 : decode y_CA_within.2.1 67 = .ok (.aload_n 0, 1) := dc9_42 (by decide +kernel)
theorem d_CA_within_68 : decode y_CA_within.2.1 68 = .ok (.aload_n 0, 1) := dc9_42 (by decide +kernel)
theorem d_CA_within_69 : decode y_CA_within.2.1 69 = .ok (.getfield 77, 3) := dc9_180 (by decide +kernel)
theorem d_CA_within_72 : decode y_CA_within.2.1 72 = .ok (.putfield 74, 3) := dc9_181 (by decide +kernel)
theorem d_CA_within_75 : decode y_CA_within.2.1 75 = .ok (.aload_n 0, 1) := dc9_42 (by decide +kernel)
theorem d_CA_within_76 : decode y_CA_within.2.1 76 = .ok (.aload_n 3, 1) := dc9_45 (by decide +kernel)
theorem d_CA_within_77 : decode y_CA_within.2.1 77 = .ok (.putfield 77, 3) := dc9_181 (by decide +kernel)
theorem d_CA_within_80 : decode y_CA_within.2.1 80 = .ok (.aload_n 0, 1) := dc9_42 (by decide +kernel)
theorem d_CA_within_81 : decode y_CA_within.2.1 81 = .ok (.getfield 63, 3) := dc9_180 (by decide +kernel)
theorem d_CA_within_84 : decode y_CA_within.2.1 84 = .ok (.getfield 216, 3) := dc9_180 (by decide +kernel)
theorem d_CA_within_87 : decode y_CA_within.2.1 87 = .ok (.aload_n 0, 1) := dc9_42 (by decide +kernel)
theorem d_CA_within_88 : decode y_CA_within.2.1 88 = .ok (.getfield 54, 3) := dc9_180 (by decide +kernel)
theorem d_CA_within_91 : decode y_CA_within.2.1 91 = .ok (.aload_n 3, 1) := dc9_45 (by decide +kernel)
theorem d_CA_within_92 : decode y_CA_within.2.1 92 = .ok (.aload_n 0, 1) := dc9_42 (by decide +kernel)
theorem d_CA_within_93 : decode y_CA_within.2.1 93 = .ok (.getfield 74, 3) := dc9_180 (by decide +kernel)
theorem d_CA_within_96 : decode y_CA_within.2.1 96 = .ok (.invokevirtual 220, 3) := dc9_182 (by decide +kernel)
theorem d_CA_within_99 : decode y_CA_within.2.1 99 = .ok (.ifCond .ne 6, 3) := dc9_154 (by decide +kernel)
theorem d_CA_within_102 : decode y_CA_within.2.1 102 = .ok (.bipush 6, 2) := dc9_16 (by decide +kernel)
theorem d_CA_within_104 : decode y_CA_within.2.1 104 = .ok (.ireturn, 1) := dc9_172 (by decide +kernel)
theorem d_CA_within_105 : decode y_CA_within.2.1 105 = .ok (.iinc 2 1, 3) := by decide +kernel
theorem d_CA_within_108 : decode y_CA_within.2.1 108 = .ok (.goto (-51), 3) := dc9_167 (by decide +kernel)
def h_CA_within_57 (G : mG) (d : Nat) (a0 : Nat) (l1 : Int) (l2 : Int) (M : mM) (Q : Int → mM → Prop) : Prop := mWm G y_CA_within (d + 1) 57 [vr a0, vi l1, vi l2, vd] [] M (fun r9 M9 => ∃ x9, r9 = some (vi x9) ∧ Q x9 M9)
theorem k_CA_within {G : mG} {d : Nat} {a0 : Nat} {l1 : Int} {M : mM} {Q : Int → mM → Prop} (hO : mOk M) (hi_l1 : i32 l1)
    (h : (((l1 < 0) ∨ (¬ (l1 ≤ 32))) → (False)) ∧ (¬ ((l1 < 0) ∨ (¬ (l1 ≤ 32))) → (mK M a0 = 1 ∧ mK M (mR M a0 9) = 7 ∧ ((mI M (mR M a0 9) 0 = 0) → (False)) ∧ (¬ (mI M (mR M a0 9) 0 = 0) → (mK M (mR M a0 12) = 13 ∧ ∀ M14, M14 = mUI M (mR M a0 12) 1 0 → mK M14 (mR M14 a0 12) = 13 ∧ Cv G y_Fs_begin d [vr (mR M14 a0 12), vr (mR M14 a0 9)] M14 (fun M17 => mOk M17 ∧ (h_CA_within_57 G d a0 l1 0 M17 Q))))))) :
    Ci G y_CA_within (d + 1) [vr a0, vi l1] M Q := by
  refine wm_open (y := y_CA_within) rfl (Nat.le_of_ble_eq_true rfl) (L := [vr a0, vi l1, vd, vd]) rfl ?_
  refine wm_iload_n d_CA_within_0 rfl rfl ?_
  have hE0 : ((l1 < 0) ∨ (¬ (l1 ≤ 32))) → mWm G y_CA_within (d + 1) 10 [vr a0, vi l1, vd, vd] [] M (fun r9 M9 => ∃ x9, r9 = some (vi x9) ∧ Q x9 M9) := by
    intro q7
    have h := h.1 q7
    exact h.elim
  have hE1 : ¬ ((l1 < 0) ∨ (¬ (l1 ≤ 32))) → mWm G y_CA_within (d + 1) 18 [vr a0, vi l1, vd, vd] [] M (fun r9 M9 => ∃ x9, r9 = some (vi x9) ∧ Q x9 M9) := by
    intro q8
    have h := h.2 q8
    obtain ⟨h9, h⟩ := h
    obtain ⟨h10, h⟩ := h
    refine wm_aload_n d_CA_within_18 rfl rfl ?_
    refine gf_CA_54 rfl d_CA_within_19 h9 ?_
    refine gf_CA_160 rfl d_CA_within_22 h10 ?_
    refine wm_if_ne (tgt := 36) d_CA_within_25 rfl (hO _ _).1 (fun c12 => ?_) (fun c12 => ?_)
    · replace h := h.2 c12
      obtain ⟨h13, h⟩ := h
      obtain ⟨M14, e15⟩ : ∃ M14, M14 = mUI M (mR M a0 12) 1 0 := ⟨_, rfl⟩
      replace h := h M14 e15
      obtain ⟨h16, h⟩ := h
      refine wm_aload_n d_CA_within_36 rfl rfl ?_
      refine gf_CA_74 rfl d_CA_within_37 h9 ?_
      refine wm_iconst d_CA_within_40 ?_
      have hOM14 : mOk M14 := by rw [e15]; exact mOk_UI hO (m_b32 (by decide))
      refine pf_CA_137 rfl d_CA_within_41 h13 (by decide) e15 ?_
      refine wm_aload_n d_CA_within_44 rfl rfl ?_
      refine gf_CA_74 rfl d_CA_within_45 (by rw [e15]; exact h9) ?_
      refine wm_aload_n d_CA_within_48 rfl rfl ?_
      refine gf_CA_54 rfl d_CA_within_49 (by rw [e15]; exact h9) ?_
      refine cf_CA_213 rfl d_CA_within_52 h16 (Nat.le_of_ble_eq_true rfl) (Cv.mono h (fun M17 h => ?_))
      obtain ⟨hOM17, h⟩ := h
      refine wm_iconst d_CA_within_55 ?_
      refine wm_istore_n d_CA_within_56 rfl (by decide) (L' := [vr a0, vi l1, vi 0, vd]) rfl ?_
      exact h
    · replace c12 := Classical.not_not.mp c12
      replace h := h.1 c12
      exact h.elim
  clear h
  refine wm_if_lt (tgt := 10) d_CA_within_1 rfl hi_l1 (fun c5 => ?_) (fun c5 => ?_)
  · exact hE0 (Or.inl c5)
  · refine wm_iload_n d_CA_within_4 rfl rfl ?_
    refine wm_bipush d_CA_within_5 (by decide) ?_
    refine wm_icmp_le (tgt := 18) d_CA_within_7 rfl hi_l1 ⟨by decide, by decide⟩ (fun c4 => ?_) (fun c4 => ?_)
    · exact hE1 (fun z20 => Or.elim z20 c5 (fun z21 => z21 c4))
    · exact hE0 (Or.inr c4)
theorem k_CA_within_57 {G : mG} {d : Nat} {a0 : Nat} {l1 : Int} {l2 : Int} {M : mM} {Q : Int → mM → Prop} (hO : mOk M) (hi_l1 : i32 l1) (hi_l2 : i32 l2)
    (h : ((l1 ≤ l2) → (mK M a0 = 1 ∧ mK M (mR M a0 12) = 13 ∧ ∀ M28, M28 = mUI M (mR M a0 12) 1 1 → Q 0 M28)) ∧ (¬ (l1 ≤ l2) → (mK M a0 = 1 ∧ ∀ M31, M31 = mUR M a0 12 (mR M a0 13) → ∀ M33, M33 = mUR M31 a0 13 (mR M a0 12) → mK M33 (mR M33 a0 10) = 8 ∧ mK M33 (mR M33 (mR M33 a0 10) 0) = 9 ∧ Ci G y_Sc_move d [vr (mR M33 (mR M33 a0 10) 0), vr (mR M33 a0 9), vr (mR M a0 12), vr (mR M33 a0 12)] M33 (fun x38 M37 => i32 x38 ∧ mOk M37 ∧ (((x38 = 0) → (Q 6 M37)) ∧ (¬ (x38 = 0) → (h_CA_within_57 G d a0 l1 (l2 + 1) M37 Q))))))) :
    h_CA_within_57 G d a0 l1 l2 M Q := by
  unfold h_CA_within_57
  refine wm_iload_n d_CA_within_57 rfl rfl ?_
  refine wm_iload_n d_CA_within_58 rfl rfl ?_
  refine wm_icmp_ge (tgt := 111) d_CA_within_59 rfl hi_l2 hi_l1 (fun c25 => ?_) (fun c25 => ?_)
  · replace h := h.1 c25
    obtain ⟨h26, h⟩ := h
    obtain ⟨h27, h⟩ := h
    obtain ⟨M28, e29⟩ : ∃ M28, M28 = mUI M (mR M a0 12) 1 1 := ⟨_, rfl⟩
    replace h := h M28 e29
    refine wm_aload_n d_CA_within_111 rfl rfl ?_
    refine gf_CA_74 rfl d_CA_within_112 h26 ?_
    refine wm_iconst d_CA_within_115 ?_
    have hOM28 : mOk M28 := by rw [e29]; exact mOk_UI hO (m_b32 (by decide))
    refine pf_CA_137 rfl d_CA_within_116 h27 (by decide) e29 ?_
    refine wm_iconst d_CA_within_119 ?_
    refine wm_ireturn d_CA_within_120 rfl rfl ?_
    exact ⟨_, rfl, h⟩
  · replace h := h.2 c25
    obtain ⟨h30, h⟩ := h
    obtain ⟨M31, e32⟩ : ∃ M31, M31 = mUR M a0 12 (mR M a0 13) := ⟨_, rfl⟩
    replace h := h M31 e32
    obtain ⟨M33, e34⟩ : ∃ M33, M33 = mUR M31 a0 13 (mR M a0 12) := ⟨_, rfl⟩
    replace h := h M33 e34
    obtain ⟨h35, h⟩ := h
    obtain ⟨h36, h⟩ := h
    refine wm_aload_n d_CA_within_62 rfl rfl ?_
    refine gf_CA_74 rfl d_CA_within_63 h30 ?_
    refine wm_astore_n d_CA_within_66 rfl (by decide) (L' := [vr a0, vi l1, vi l2, vr (mR M a0 12)]) rfl ?_
    refine wm_aload_n d_CA_within_67 rfl rfl ?_
    refine wm_aload_n d_CA_within_68 rfl rfl ?_
    refine gf_CA_77 rfl d_CA_within_69 h30 ?_
    have hOM31 : mOk M31 := by rw [e32]; exact mOk_UR hO
    refine pf_CA_74 rfl d_CA_within_72 h30 e32 ?_
    refine wm_aload_n d_CA_within_75 rfl rfl ?_
    refine wm_aload_n d_CA_within_76 rfl rfl ?_
    have hOM33 : mOk M33 := by rw [e34]; exact mOk_UR hOM31
    refine pf_CA_77 rfl d_CA_within_77 (by rw [e32]; exact h30) e34 ?_
    refine wm_aload_n d_CA_within_80 rfl rfl ?_
    refine gf_CA_63 rfl d_CA_within_81 (by rw [e34, e32]; exact h30) ?_
    refine gf_CA_216 rfl d_CA_within_84 h35 ?_
    refine wm_aload_n d_CA_within_87 rfl rfl ?_
    refine gf_CA_54 rfl d_CA_within_88 (by rw [e34, e32]; exact h30) ?_
    refine wm_aload_n d_CA_within_91 rfl rfl ?_
    refine wm_aload_n d_CA_within_92 rfl rfl ?_
    refine gf_CA_74 rfl d_CA_within_93 (by rw [e34, e32]; exact h30) ?_
    refine cf_CA_220 rfl d_CA_within_96 h36 (Nat.le_of_ble_eq_true rfl) (Ci.mono h (fun x38 M37 h => ?_))
    obtain ⟨h39, hOM37, h⟩ := h
    refine wm_if_ne (tgt := 105) d_CA_within_99 rfl h39 (fun c41 => ?_) (fun c41 => ?_)
    · replace h := h.2 c41
      refine wm_iinc d_CA_within_105 (by decide) rfl (L' := [vr a0, vi l1, vi (l2 + 1), vr (mR M a0 12)]) rfl ?_
      refine wm_goto (tgt := 57) d_CA_within_108 rfl ?_
      refine wm_less (L' := [vr a0, vi l1, vi (l2 + 1), vd]) ⟨Or.inr rfl, Or.inr rfl, Or.inr rfl, Or.inl rfl, trivial⟩ ?_
      exact h
    · replace c41 := Classical.not_not.mp c41
      replace h := h.1 c41
      refine wm_bipush d_CA_within_102 (by decide) ?_
      refine wm_ireturn d_CA_within_104 rfl rfl ?_
      exact ⟨_, rfl, h⟩
theorem d_CA_choose_0 : decode y_CA_choose.2.1 0 = .ok (.aload_n 0, 1) := dc9_42 (by decide +kernel)
theorem d_CA_choose_1 : decode y_CA_choose.2.1 1 = .ok (.getfield 54, 3) := dc9_180 (by decide +kernel)
theorem d_CA_choose_4 : decode y_CA_choose.2.1 4 = .ok (.iload_n 1, 1) := dc9_27 (by decide +kernel)
theorem d_CA_choose_5 : decode y_CA_choose.2.1 5 = .ok (.iload_n 2, 1) := dc9_28 (by decide +kernel)
theorem d_CA_choose_6 : decode y_CA_choose.2.1 6 = .ok (.invokevirtual 180, 3) := dc9_182 (by decide +kernel)
theorem d_CA_choose_9 : decode y_CA_choose.2.1 9 = .ok (.iconst (-1), 1) := dc9_2 (by decide +kernel)
theorem d_CA_choose_10 : decode y_CA_choose.2.1 10 = .ok (.if_icmp .ne 11, 3) := dc9_160 (by decide +kernel)
theorem d_CA_choose_21 : decode y_CA_choose.2.1 21 = .ok (.aload_n 0, 1) := dc9_42 (by decide +kernel)
theorem d_CA_choose_22 : decode y_CA_choose.2.1 22 = .ok (.getfield 54, 3) := dc9_180 (by decide +kernel)
theorem d_CA_choose_25 : decode y_CA_choose.2.1 25 = .ok (.getfield 226, 3) := dc9_180 (by decide +kernel)
theorem d_CA_choose_28 : decode y_CA_choose.2.1 28 = .ok (.iload_n 1, 1) := dc9_27 (by decide +kernel)
theorem d_CA_choose_29 : decode y_CA_choose.2.1 29 = .ok (.iload_n 2, 1) := dc9_28 (by decide +kernel)
theorem d_CA_choose_30 : decode y_CA_choose.2.1 30 = .ok (.iastore, 1) := dc9_79 (by decide +kernel)
theorem d_CA_choose_31 : decode y_CA_choose.2.1 31 = .ok (.return_, 1) := dc9_177 (by decide +kernel)
theorem k_CA_choose {G : mG} {d : Nat} {a0 : Nat} {l1 : Int} {l2 : Int} {M : mM} {Q : mM → Prop} (hO : mOk M) (hi_l1 : i32 l1) (hi_l2 : i32 l2)
    (h : mK M a0 = 1 ∧ mK M (mR M a0 9) = 7 ∧ Ci G y_Ga_commandAt d [vr (mR M a0 9), vi l1, vi l2] M (fun x4 M3 => i32 x4 ∧ mOk M3 ∧ (((x4 = (-1)) → (False)) ∧ (¬ (x4 = (-1)) → (mK M3 a0 = 1 ∧ mK M3 (mR M3 a0 9) = 7 ∧ mK M3 (mR M3 (mR M3 a0 9) 3) = 30 ∧ ((0 : Int) ≤ l1 ∧ l1 < (mN M3 (mR M3 (mR M3 a0 9) 3) : Int)) ∧ ∀ M16, M16 = mUI M3 (mR M3 (mR M3 a0 9) 3) (Int.toNat l1) l2 → Q M16))))) :
    Cv G y_CA_choose (d + 1) [vr a0, vi l1, vi l2] M Q := by
  refine wm_open (y := y_CA_choose) rfl (Nat.le_of_ble_eq_true rfl) (L := [vr a0, vi l1, vi l2]) rfl ?_
  obtain ⟨h1, h⟩ := h
  obtain ⟨h2, h⟩ := h
  refine wm_aload_n d_CA_choose_0 rfl rfl ?_
  refine gf_CA_54 rfl d_CA_choose_1 h1 ?_
  refine wm_iload_n d_CA_choose_4 rfl rfl ?_
  refine wm_iload_n d_CA_choose_5 rfl rfl ?_
  refine cf_CA_180 rfl d_CA_choose_6 h2 (Nat.le_of_ble_eq_true rfl) (Ci.mono h (fun x4 M3 h => ?_))
  obtain ⟨h5, hOM3, h⟩ := h
  refine wm_iconst d_CA_choose_9 ?_
  refine wm_icmp_ne (tgt := 21) d_CA_choose_10 rfl h5 ⟨by decide, by decide⟩ (fun c11 => ?_) (fun c11 => ?_)
  · replace h := h.2 c11
    obtain ⟨h12, h⟩ := h
    obtain ⟨h13, h⟩ := h
    obtain ⟨h14, h⟩ := h
    obtain ⟨h15, h⟩ := h
    obtain ⟨M16, e17⟩ : ∃ M16, M16 = mUI M3 (mR M3 (mR M3 a0 9) 3) (Int.toNat l1) l2 := ⟨_, rfl⟩
    replace h := h M16 e17
    refine wm_aload_n d_CA_choose_21 rfl rfl ?_
    refine gf_CA_54 rfl d_CA_choose_22 h12 ?_
    refine gf_CA_226 rfl d_CA_choose_25 h13 ?_
    refine wm_iload_n d_CA_choose_28 rfl rfl ?_
    refine wm_iload_n d_CA_choose_29 rfl rfl ?_
    have hOM16 : mOk M16 := by rw [e17]; exact mOk_UI hOM3 hi_l2
    refine wm_iastE d_CA_choose_30 h14 h15 hi_l2 e17 ?_
    refine wm_return d_CA_choose_31 rfl ?_
    exact ⟨rfl, h⟩
  · replace c11 := Classical.not_not.mp c11
    replace h := h.1 c11
    exact h.elim
theorem d_CA_adopt_0 : decode y_CA_adopt.2.1 0 = .ok (.aload_n 0, 1) := dc9_42 (by decide +kernel)
theorem d_CA_adopt_1 : decode y_CA_adopt.2.1 1 = .ok (.getfield 70, 3) := dc9_180 (by decide +kernel)
theorem d_CA_adopt_4 : decode y_CA_adopt.2.1 4 = .ok (.getfield 137, 3) := dc9_180 (by decide +kernel)
theorem d_CA_adopt_7 : decode y_CA_adopt.2.1 7 = .ok (.ifCond .ne 11, 3) := dc9_154 (by decide +kernel)
theorem d_CA_adopt_18 : decode y_CA_adopt.2.1 18 = .ok (.iconst 0, 1) := dc9_3 (by decide +kernel)
theorem d_CA_adopt_19 : decode y_CA_adopt.2.1 19 = .ok (.istore_n 1, 1) := dc9_60 (by decide +kernel)
theorem d_CA_adopt_20 : decode y_CA_adopt.2.1 20 = .ok (.iload_n 1, 1) := dc9_27 (by decide +kernel)
theorem d_CA_adopt_21 : decode y_CA_adopt.2.1 21 = .ok (.aload_n 0, 1) := dc9_42 (by decide +kernel)
theorem d_CA_adopt_22 : decode y_CA_adopt.2.1 22 = .ok (.getfield 54, 3) := dc9_180 (by decide +kernel)
theorem d_CA_adopt_25 : decode y_CA_adopt.2.1 25 = .ok (.getfield 160, 3) := dc9_180 (by decide +kernel)
theorem d_CA_adopt_28 : decode y_CA_adopt.2.1 28 = .ok (.if_icmp .ge 31, 3) := dc9_162 (by decide +kernel)
theorem d_CA_adopt_59 : decode y_CA_adopt.2.1 59 = .ok (.return_, 1) := dc9_177 (by decide +kernel)
theorem d_CA_adopt_31 : decode y_CA_adopt.2.1 31 = .ok (.aload_n 0, 1) := dc9_42 (by decide +kernel)
theorem d_CA_adopt_32 : decode y_CA_adopt.2.1 32 = .ok (.getfield 54, 3) := dc9_180 (by decide +kernel)
theorem d_CA_adopt_35 : decode y_CA_adopt.2.1 35 = .ok (.getfield 226, 3) := dc9_180 (by decide +kernel)
theorem d_CA_adopt_38 : decode y_CA_adopt.2.1 38 = .ok (.iload_n 1, 1) := dc9_27 (by decide +kernel)
theorem d_CA_adopt_39 : decode y_CA_adopt.2.1 39 = .ok (.aload_n 0, 1) := dc9_42 (by decide +kernel)
theorem d_CA_adopt_40 : decode y_CA_adopt.2.1 40 = .ok (.getfield 63, 3) := dc9_180 (by decide +kernel)
theorem d_CA_adopt_43 : decode y_CA_adopt.2.1 43 = .ok (.getfield 229, 3) := dc9_180 (by decide +kernel)
theorem d_CA_adopt_46 : decode y_CA_adopt.2.1 46 = .ok (.iload_n 1, 1) := dc9_27 (by decide +kernel)
theorem d_CA_adopt_47 : decode y_CA_adopt.2.1 47 = .ok (.iaload, 1) := dc9_46 (by decide +kernel)
theorem d_CA_adopt_48 : decode y_CA_adopt.2.1 48 = .ok (.iconst 0, 1) := dc9_3 (by decide +kernel)
theorem d_CA_adopt_49 : decode y_CA_adopt.2.1 49 = .ok (.invokestatic 232, 3) := dc9_184 (by decide +kernel)
theorem d_CA_adopt_52 : decode y_CA_adopt.2.1 52 = .ok (.iastore, 1) := dc9_79 (by decide +kernel)
theorem d_CA_adopt_53 : decode y_CA_adopt.2.1 53 = .ok (.iinc 1 1, 3) := by decide +kernel
theorem d_CA_adopt_56 : decode y_CA_adopt.2.1 56 = .ok (.goto (-36), 3) := dc9_167 (by decide +kernel)
def h_CA_adopt_20 (G : mG) (d : Nat) (a0 : Nat) (l1 : Int) (M : mM) (Q : mM → Prop) : Prop := mWm G y_CA_adopt (d + 1) 20 [vr a0, vi l1] [] M (fun r9 M9 => r9 = none ∧ Q M9)
theorem k_CA_adopt {G : mG} {d : Nat} {a0 : Nat} {M : mM} {Q : mM → Prop} (hO : mOk M)
    (h : mK M a0 = 1 ∧ mK M (mR M a0 11) = 13 ∧ ((mI M (mR M a0 11) 1 = 0) → (False)) ∧ (¬ (mI M (mR M a0 11) 1 = 0) → (h_CA_adopt_20 G d a0 0 M Q))) :
    Cv G y_CA_adopt (d + 1) [vr a0] M Q := by
  refine wm_open (y := y_CA_adopt) rfl (Nat.le_of_ble_eq_true rfl) (L := [vr a0, vd]) rfl ?_
  obtain ⟨h1, h⟩ := h
  obtain ⟨h2, h⟩ := h
  refine wm_aload_n d_CA_adopt_0 rfl rfl ?_
  refine gf_CA_70 rfl d_CA_adopt_1 h1 ?_
  refine gf_CA_137 rfl d_CA_adopt_4 h2 ?_
  refine wm_if_ne (tgt := 18) d_CA_adopt_7 rfl (hO _ _).1 (fun c4 => ?_) (fun c4 => ?_)
  · replace h := h.2 c4
    refine wm_iconst d_CA_adopt_18 ?_
    refine wm_istore_n d_CA_adopt_19 rfl (by decide) (L' := [vr a0, vi 0]) rfl ?_
    exact h
  · replace c4 := Classical.not_not.mp c4
    replace h := h.1 c4
    exact h.elim
theorem k_CA_adopt_20 {G : mG} {d : Nat} {a0 : Nat} {l1 : Int} {M : mM} {Q : mM → Prop} (hO : mOk M) (hi_l1 : i32 l1)
    (h : mK M a0 = 1 ∧ mK M (mR M a0 9) = 7 ∧ ((mI M (mR M a0 9) 0 ≤ l1) → (Q M)) ∧ (¬ (mI M (mR M a0 9) 0 ≤ l1) → (mK M (mR M a0 10) = 8 ∧ mK M (mR M (mR M a0 10) 2) = 30 ∧ ((0 : Int) ≤ l1 ∧ l1 < (mN M (mR M (mR M a0 10) 2) : Int)) ∧ mK M (mR M (mR M a0 9) 3) = 30 ∧ ((0 : Int) ≤ l1 ∧ l1 < (mN M (mR M (mR M a0 9) 3) : Int)) ∧ ∀ M19, M19 = mUI M (mR M (mR M a0 9) 3) (Int.toNat l1) (if mI M (mR M (mR M a0 10) 2) (Int.toNat l1) < 0 then 0 else mI M (mR M (mR M a0 10) 2) (Int.toNat l1)) → h_CA_adopt_20 G d a0 (l1 + 1) M19 Q))) :
    h_CA_adopt_20 G d a0 l1 M Q := by
  unfold h_CA_adopt_20
  obtain ⟨h5, h⟩ := h
  obtain ⟨h6, h⟩ := h
  refine wm_iload_n d_CA_adopt_20 rfl rfl ?_
  refine wm_aload_n d_CA_adopt_21 rfl rfl ?_
  refine gf_CA_54 rfl d_CA_adopt_22 h5 ?_
  refine gf_CA_160 rfl d_CA_adopt_25 h6 ?_
  refine wm_icmp_ge (tgt := 59) d_CA_adopt_28 rfl hi_l1 (hO _ _).1 (fun c13 => ?_) (fun c13 => ?_)
  · replace h := h.1 c13
    refine wm_return d_CA_adopt_59 rfl ?_
    exact ⟨rfl, h⟩
  · replace h := h.2 c13
    obtain ⟨h14, h⟩ := h
    obtain ⟨h15, h⟩ := h
    obtain ⟨h16, h⟩ := h
    obtain ⟨h17, h⟩ := h
    obtain ⟨h18, h⟩ := h
    obtain ⟨M19, e20⟩ : ∃ M19, M19 = mUI M (mR M (mR M a0 9) 3) (Int.toNat l1) (if mI M (mR M (mR M a0 10) 2) (Int.toNat l1) < 0 then 0 else mI M (mR M (mR M a0 10) 2) (Int.toNat l1)) := ⟨_, rfl⟩
    replace h := h M19 e20
    refine wm_aload_n d_CA_adopt_31 rfl rfl ?_
    refine gf_CA_54 rfl d_CA_adopt_32 h5 ?_
    refine gf_CA_226 rfl d_CA_adopt_35 h6 ?_
    refine wm_iload_n d_CA_adopt_38 rfl rfl ?_
    refine wm_aload_n d_CA_adopt_39 rfl rfl ?_
    refine gf_CA_63 rfl d_CA_adopt_40 h5 ?_
    refine gf_CA_229 rfl d_CA_adopt_43 h14 ?_
    refine wm_iload_n d_CA_adopt_46 rfl rfl ?_
    refine wm_iald d_CA_adopt_47 h15 h16 ?_
    refine wm_iconst d_CA_adopt_48 ?_
    refine wm_mmax k8_226 (Nat.le_of_ble_eq_true rfl) (hO _ _).1 ⟨by decide, by decide⟩ d_CA_adopt_49 ?_
    have hOM19 : mOk M19 := by rw [e20]; exact mOk_UI hO (m_ite32 ⟨by decide, by decide⟩ (hO _ _).1)
    refine wm_iastE d_CA_adopt_52 h17 h18 (m_ite32 ⟨by decide, by decide⟩ (hO _ _).1) e20 ?_
    refine wm_iinc d_CA_adopt_53 (by decide) rfl (L' := [vr a0, vi (l1 + 1)]) rfl ?_
    refine wm_goto (tgt := 20) d_CA_adopt_56 rfl ?_
    exact h
theorem d_CA_judge_0 : decode y_CA_judge.2.1 0 = .ok (.iload_n 1, 1) := dc9_27 (by decide +kernel)
theorem d_CA_judge_1 : decode y_CA_judge.2.1 1 = .ok (.iconst 1, 1) := dc9_4 (by decide +kernel)
theorem d_CA_judge_2 : decode y_CA_judge.2.1 2 = .ok (.if_icmp .eq 16, 3) := dc9_159 (by decide +kernel)
theorem d_CA_judge_5 : decode y_CA_judge.2.1 5 = .ok (.iload_n 1, 1) := dc9_27 (by decide +kernel)
theorem d_CA_judge_6 : decode y_CA_judge.2.1 6 = .ok (.iconst 2, 1) := dc9_5 (by decide +kernel)
theorem d_CA_judge_7 : decode y_CA_judge.2.1 7 = .ok (.if_icmp .eq 11, 3) := dc9_159 (by decide +kernel)
theorem d_CA_judge_18 : decode y_CA_judge.2.1 18 = .ok (.aload_n 0, 1) := dc9_42 (by decide +kernel)
theorem d_CA_judge_19 : decode y_CA_judge.2.1 19 = .ok (.getfield 54, 3) := dc9_180 (by decide +kernel)
theorem d_CA_judge_22 : decode y_CA_judge.2.1 22 = .ok (.getfield 160, 3) := dc9_180 (by decide +kernel)
theorem d_CA_judge_25 : decode y_CA_judge.2.1 25 = .ok (.ifCond .ne 11, 3) := dc9_154 (by decide +kernel)
theorem d_CA_judge_36 : decode y_CA_judge.2.1 36 = .ok (.aload_n 0, 1) := dc9_42 (by decide +kernel)
theorem d_CA_judge_37 : decode y_CA_judge.2.1 37 = .ok (.getfield 63, 3) := dc9_180 (by decide +kernel)
theorem d_CA_judge_40 : decode y_CA_judge.2.1 40 = .ok (.iload_n 1, 1) := dc9_27 (by decide +kernel)
theorem d_CA_judge_41 : decode y_CA_judge.2.1 41 = .ok (.aload_n 0, 1) := dc9_42 (by decide +kernel)
theorem d_CA_judge_42 : decode y_CA_judge.2.1 42 = .ok (.getfield 80, 3) := dc9_180 (by decide +kernel)
theorem d_CA_judge_45 : decode y_CA_judge.2.1 45 = .ok (.invokevirtual 205, 3) := dc9_182 (by decide +kernel)
theorem d_CA_judge_48 : decode y_CA_judge.2.1 48 = .ok (.ireturn, 1) := dc9_172 (by decide +kernel)
theorem k_CA_judge {G : mG} {d : Nat} {a0 : Nat} {l1 : Int} {M : mM} {Q : Int → mM → Prop} (hO : mOk M) (hi_l1 : i32 l1)
    (h : (((l1 = 1) ∨ (l1 = 2)) → (mK M a0 = 1 ∧ mK M (mR M a0 9) = 7 ∧ ((mI M (mR M a0 9) 0 = 0) → (False)) ∧ (¬ (mI M (mR M a0 9) 0 = 0) → (mK M (mR M a0 10) = 8 ∧ Ci G y_So_workOut d [vr (mR M a0 10), vi l1, vr (mR M a0 14)] M (fun x11 M10 => i32 x11 ∧ mOk M10 ∧ (Q x11 M10)))))) ∧ (¬ ((l1 = 1) ∨ (l1 = 2)) → (False))) :
    Ci G y_CA_judge (d + 1) [vr a0, vi l1] M Q := by
  refine wm_open (y := y_CA_judge) rfl (Nat.le_of_ble_eq_true rfl) (L := [vr a0, vi l1]) rfl ?_
  refine wm_iload_n d_CA_judge_0 rfl rfl ?_
  refine wm_iconst d_CA_judge_1 ?_
  have hE0 : ((l1 = 1) ∨ (l1 = 2)) → mWm G y_CA_judge (d + 1) 18 [vr a0, vi l1] [] M (fun r9 M9 => ∃ x9, r9 = some (vi x9) ∧ Q x9 M9) := by
    intro q4
    have h := h.1 q4
    obtain ⟨h5, h⟩ := h
    obtain ⟨h6, h⟩ := h
    refine wm_aload_n d_CA_judge_18 rfl rfl ?_
    refine gf_CA_54 rfl d_CA_judge_19 h5 ?_
    refine gf_CA_160 rfl d_CA_judge_22 h6 ?_
    refine wm_if_ne (tgt := 36) d_CA_judge_25 rfl (hO _ _).1 (fun c8 => ?_) (fun c8 => ?_)
    · replace h := h.2 c8
      obtain ⟨h9, h⟩ := h
      refine wm_aload_n d_CA_judge_36 rfl rfl ?_
      refine gf_CA_63 rfl d_CA_judge_37 h5 ?_
      refine wm_iload_n d_CA_judge_40 rfl rfl ?_
      refine wm_aload_n d_CA_judge_41 rfl rfl ?_
      refine gf_CA_80 rfl d_CA_judge_42 h5 ?_
      refine cf_CA_205 rfl d_CA_judge_45 h9 (Nat.le_of_ble_eq_true rfl) (Ci.mono h (fun x11 M10 h => ?_))
      obtain ⟨h12, hOM10, h⟩ := h
      refine wm_ireturn d_CA_judge_48 rfl rfl ?_
      exact ⟨_, rfl, h⟩
    · replace c8 := Classical.not_not.mp c8
      replace h := h.1 c8
      exact h.elim
  have hE1 : ¬ ((l1 = 1) ∨ (l1 = 2)) → mWm G y_CA_judge (d + 1) 10 [vr a0, vi l1] [] M (fun r9 M9 => ∃ x9, r9 = some (vi x9) ∧ Q x9 M9) := by
    intro q13
    have h := h.2 q13
    exact h.elim
  clear h
  refine wm_icmp_eq (tgt := 18) d_CA_judge_2 rfl hi_l1 ⟨by decide, by decide⟩ (fun c2 => ?_) (fun c2 => ?_)
  · exact hE0 (Or.inl c2)
  · refine wm_iload_n d_CA_judge_5 rfl rfl ?_
    refine wm_iconst d_CA_judge_6 ?_
    refine wm_icmp_eq (tgt := 18) d_CA_judge_7 rfl hi_l1 ⟨by decide, by decide⟩ (fun c1 => ?_) (fun c1 => ?_)
    · exact hE0 (Or.inr c1)
    · exact hE1 (fun z14 => Or.elim z14 c2 c1)
end
section
theorem d_CA_print_0 : decode y_CA_print.2.1 0 = .ok (.aload_n 0, 1) := dc9_42 (by decide +kernel)
theorem d_CA_print_1 : decode y_CA_print.2.1 1 = .ok (.iload_n 1, 1) := dc9_27 (by decide +kernel)
theorem d_CA_print_2 : decode y_CA_print.2.1 2 = .ok (.iload_n 2, 1) := dc9_28 (by decide +kernel)
theorem d_CA_print_3 : decode y_CA_print.2.1 3 = .ok (.invokevirtual 237, 3) := dc9_182 (by decide +kernel)
theorem d_CA_print_6 : decode y_CA_print.2.1 6 = .ok (.astore_n 3, 1) := dc9_78 (by decide +kernel)
theorem d_CA_print_7 : decode y_CA_print.2.1 7 = .ok (.aload_n 3, 1) := dc9_45 (by decide +kernel)
theorem d_CA_print_8 : decode y_CA_print.2.1 8 = .ok (.ifnonnull 5, 3) := dc9_199 (by decide +kernel)
theorem d_CA_print_11 : decode y_CA_print.2.1 11 = .ok (.iconst (-1), 1) := dc9_2 (by decide +kernel)
theorem d_CA_print_12 : decode y_CA_print.2.1 12 = .ok (.ireturn, 1) := dc9_172 (by decide +kernel)
theorem d_CA_print_13 : decode y_CA_print.2.1 13 = .ok (.aload_n 0, 1) := dc9_42 (by decide +kernel)
theorem d_CA_print_14 : decode y_CA_print.2.1 14 = .ok (.getfield 93, 3) := dc9_180 (by decide +kernel)
theorem d_CA_print_17 : decode y_CA_print.2.1 17 = .ok (.aload_n 3, 1) := dc9_45 (by decide +kernel)
theorem d_CA_print_18 : decode y_CA_print.2.1 18 = .ok (.invokevirtual 241, 3) := dc9_182 (by decide +kernel)
theorem d_CA_print_21 : decode y_CA_print.2.1 21 = .ok (.aload_n 0, 1) := dc9_42 (by decide +kernel)
theorem d_CA_print_22 : decode y_CA_print.2.1 22 = .ok (.getfield 63, 3) := dc9_180 (by decide +kernel)
theorem d_CA_print_25 : decode y_CA_print.2.1 25 = .ok (.getfield 216, 3) := dc9_180 (by decide +kernel)
theorem d_CA_print_28 : decode y_CA_print.2.1 28 = .ok (.aload_n 0, 1) := dc9_42 (by decide +kernel)
theorem d_CA_print_29 : decode y_CA_print.2.1 29 = .ok (.getfield 93, 3) := dc9_180 (by decide +kernel)
theorem d_CA_print_32 : decode y_CA_print.2.1 32 = .ok (.invokevirtual 245, 3) := dc9_182 (by decide +kernel)
theorem d_CA_print_35 : decode y_CA_print.2.1 35 = .ok (.aload_n 0, 1) := dc9_42 (by decide +kernel)
theorem d_CA_print_36 : decode y_CA_print.2.1 36 = .ok (.iconst 0, 1) := dc9_3 (by decide +kernel)
theorem d_CA_print_37 : decode y_CA_print.2.1 37 = .ok (.putfield 100, 3) := dc9_181 (by decide +kernel)
theorem d_CA_print_40 : decode y_CA_print.2.1 40 = .ok (.aload_n 0, 1) := dc9_42 (by decide +kernel)
theorem d_CA_print_41 : decode y_CA_print.2.1 41 = .ok (.aload_n 0, 1) := dc9_42 (by decide +kernel)
theorem d_CA_print_42 : decode y_CA_print.2.1 42 = .ok (.getfield 93, 3) := dc9_180 (by decide +kernel)
theorem d_CA_print_45 : decode y_CA_print.2.1 45 = .ok (.getfield 248, 3) := dc9_180 (by decide +kernel)
theorem d_CA_print_48 : decode y_CA_print.2.1 48 = .ok (.invokevirtual 251, 3) := dc9_182 (by decide +kernel)
theorem d_CA_print_51 : decode y_CA_print.2.1 51 = .ok (.aload_n 0, 1) := dc9_42 (by decide +kernel)
theorem d_CA_print_52 : decode y_CA_print.2.1 52 = .ok (.getfield 93, 3) := dc9_180 (by decide +kernel)
theorem d_CA_print_55 : decode y_CA_print.2.1 55 = .ok (.getfield 255, 3) := dc9_180 (by decide +kernel)
theorem d_CA_print_58 : decode y_CA_print.2.1 58 = .ok (.invokevirtual 258, 3) := dc9_182 (by decide +kernel)
theorem d_CA_print_61 : decode y_CA_print.2.1 61 = .ok (.ifCond .ne 32, 3) := dc9_154 (by decide +kernel)
theorem d_CA_print_64 : decode y_CA_print.2.1 64 = .ok (.aload_n 0, 1) := dc9_42 (by decide +kernel)
theorem d_CA_print_65 : decode y_CA_print.2.1 65 = .ok (.getfield 97, 3) := dc9_180 (by decide +kernel)
theorem d_CA_print_68 : decode y_CA_print.2.1 68 = .ok (.aload_n 0, 1) := dc9_42 (by decide +kernel)
theorem d_CA_print_69 : decode y_CA_print.2.1 69 = .ok (.dup, 1) := dc9_89 (by decide +kernel)
theorem d_CA_print_70 : decode y_CA_print.2.1 70 = .ok (.getfield 100, 3) := dc9_180 (by decide +kernel)
theorem d_CA_print_73 : decode y_CA_print.2.1 73 = .ok (.dup_x1, 1) := dc9_90 (by decide +kernel)
theorem d_CA_print_74 : decode y_CA_print.2.1 74 = .ok (.iconst 1, 1) := dc9_4 (by decide +kernel)
theorem d_CA_print_75 : decode y_CA_print.2.1 75 = .ok (.iadd, 1) := dc9_96 (by decide +kernel)
theorem d_CA_print_76 : decode y_CA_print.2.1 76 = .ok (.putfield 100, 3) := dc9_181 (by decide +kernel)
theorem d_CA_print_79 : decode y_CA_print.2.1 79 = .ok (.bipush 47, 2) := dc9_16 (by decide +kernel)
theorem d_CA_print_81 : decode y_CA_print.2.1 81 = .ok (.castore, 1) := dc9_85 (by decide +kernel)
theorem d_CA_print_82 : decode y_CA_print.2.1 82 = .ok (.aload_n 0, 1) := dc9_42 (by decide +kernel)
theorem d_CA_print_83 : decode y_CA_print.2.1 83 = .ok (.aload_n 0, 1) := dc9_42 (by decide +kernel)
theorem d_CA_print_84 : decode y_CA_print.2.1 84 = .ok (.getfield 93, 3) := dc9_180 (by decide +kernel)
theorem d_CA_print_87 : decode y_CA_print.2.1 87 = .ok (.getfield 255, 3) := dc9_180 (by decide +kernel)
theorem d_CA_print_90 : decode y_CA_print.2.1 90 = .ok (.invokevirtual 251, 3) := dc9_182 (by decide +kernel)
theorem d_CA_print_93 : decode y_CA_print.2.1 93 = .ok (.aload_n 0, 1) := dc9_42 (by decide +kernel)
theorem d_CA_print_94 : decode y_CA_print.2.1 94 = .ok (.getfield 100, 3) := dc9_180 (by decide +kernel)
theorem d_CA_print_97 : decode y_CA_print.2.1 97 = .ok (.ireturn, 1) := dc9_172 (by decide +kernel)
theorem k_CA_print {G : mG} {d : Nat} {a0 : Nat} {l1 : Int} {l2 : Int} {M : mM} {Q : Int → mM → Prop} (hO : mOk M) (hi_l1 : i32 l1) (hi_l2 : i32 l2)
    (h : mK M a0 = 1 ∧ Cr G y_CA_fractionOf d [vr a0, vi l1, vi l2] M (fun x3 M2 => mOk M2 ∧ (((x3 = 0) → (Q (-1) M2)) ∧ (¬ (x3 = 0) → (mK M2 a0 = 1 ∧ mK M2 (mR M2 a0 16) = 11 ∧ Cv G y_Fr_put1 d [vr (mR M2 a0 16), vr x3] M2 (fun M9 => mOk M9 ∧ (mK M9 a0 = 1 ∧ mK M9 (mR M9 a0 10) = 8 ∧ mK M9 (mR M9 (mR M9 a0 10) 0) = 9 ∧ Cv G y_Sc_reduce d [vr (mR M9 (mR M9 a0 10) 0), vr (mR M9 a0 16)] M9 (fun M15 => mOk M15 ∧ (mK M15 a0 = 1 ∧ ∀ M19, M19 = mUI M15 a0 18 0 → mK M19 (mR M19 a0 16) = 11 ∧ Cv G y_CA_printNumber d [vr a0, vr (mR M19 (mR M19 a0 16) 0)] M19 (fun M22 => mOk M22 ∧ (mK M22 a0 = 1 ∧ mK M22 (mR M22 a0 16) = 11 ∧ mK M22 (mR M22 (mR M22 a0 16) 1) = 10 ∧ Ci G y_Na_isOne d [vr (mR M22 (mR M22 a0 16) 1)] M22 (fun x29 M28 => i32 x29 ∧ mOk M28 ∧ (((x29 = 0) → (mK M28 a0 = 1 ∧ i32 ((mI M28 a0 18) + 1) ∧ ∀ M40, M40 = mUI M28 a0 18 ((mI M28 a0 18) + 1) → mK M40 (mR M28 a0 17) = 32 ∧ ((0 : Int) ≤ mI M28 a0 18 ∧ mI M28 a0 18 < (mN M40 (mR M28 a0 17) : Int)) ∧ ∀ M44, M44 = mUI M40 (mR M28 a0 17) (Int.toNat (mI M28 a0 18)) 47 → mK M44 (mR M44 a0 16) = 11 ∧ Cv G y_CA_printNumber d [vr a0, vr (mR M44 (mR M44 a0 16) 1)] M44 (fun M47 => mOk M47 ∧ (mK M47 a0 = 1 ∧ Q (mI M47 a0 18) M47)))) ∧ (¬ (x29 = 0) → (mK M28 a0 = 1 ∧ Q (mI M28 a0 18) M28))))))))))))))) :
    Ci G y_CA_print (d + 1) [vr a0, vi l1, vi l2] M Q := by
  refine wm_open (y := y_CA_print) rfl (Nat.le_of_ble_eq_true rfl) (L := [vr a0, vi l1, vi l2, vd]) rfl ?_
  obtain ⟨h1, h⟩ := h
  refine wm_aload_n d_CA_print_0 rfl rfl ?_
  refine wm_iload_n d_CA_print_1 rfl rfl ?_
  refine wm_iload_n d_CA_print_2 rfl rfl ?_
  refine cf_CA_237 rfl d_CA_print_3 h1 (Nat.le_of_ble_eq_true rfl) (Cr.mono h (fun x3 M2 h => ?_))
  obtain ⟨hOM2, h⟩ := h
  refine wm_astore_n d_CA_print_6 rfl (by decide) (L' := [vr a0, vi l1, vi l2, vr x3]) rfl ?_
  refine wm_aload_n d_CA_print_7 rfl rfl ?_
  refine wm_ifnonnull (tgt := 13) d_CA_print_8 rfl (fun c6 => ?_) (fun c6 => ?_)
  · replace h := h.2 c6
    obtain ⟨h7, h⟩ := h
    obtain ⟨h8, h⟩ := h
    refine wm_aload_n d_CA_print_13 rfl rfl ?_
    refine gf_CA_93 rfl d_CA_print_14 h7 ?_
    refine wm_aload_n d_CA_print_17 rfl rfl ?_
    refine cf_CA_241 rfl d_CA_print_18 h8 (Nat.le_of_ble_eq_true rfl) (Cv.mono h (fun M9 h => ?_))
    obtain ⟨hOM9, h⟩ := h
    obtain ⟨h12, h⟩ := h
    obtain ⟨h13, h⟩ := h
    obtain ⟨h14, h⟩ := h
    refine wm_aload_n d_CA_print_21 rfl rfl ?_
    refine gf_CA_63 rfl d_CA_print_22 h12 ?_
    refine gf_CA_216 rfl d_CA_print_25 h13 ?_
    refine wm_aload_n d_CA_print_28 rfl rfl ?_
    refine gf_CA_93 rfl d_CA_print_29 h12 ?_
    refine cf_CA_245 rfl d_CA_print_32 h14 (Nat.le_of_ble_eq_true rfl) (Cv.mono h (fun M15 h => ?_))
    obtain ⟨hOM15, h⟩ := h
    obtain ⟨h18, h⟩ := h
    obtain ⟨M19, e20⟩ : ∃ M19, M19 = mUI M15 a0 18 0 := ⟨_, rfl⟩
    replace h := h M19 e20
    obtain ⟨h21, h⟩ := h
    refine wm_aload_n d_CA_print_35 rfl rfl ?_
    refine wm_iconst d_CA_print_36 ?_
    have hOM19 : mOk M19 := by rw [e20]; exact mOk_UI hOM15 ⟨by decide, by decide⟩
    refine pf_CA_100 rfl d_CA_print_37 h18 ⟨by decide, by decide⟩ e20 ?_
    refine wm_aload_n d_CA_print_40 rfl rfl ?_
    refine wm_aload_n d_CA_print_41 rfl rfl ?_
    refine gf_CA_93 rfl d_CA_print_42 (by rw [e20]; exact h18) ?_
    refine gf_CA_248 rfl d_CA_print_45 h21 ?_
    refine cf_CA_251 rfl d_CA_print_48 (by rw [e20]; exact h18) (Nat.le_of_ble_eq_true rfl) (Cv.mono h (fun M22 h => ?_))
    obtain ⟨hOM22, h⟩ := h
    obtain ⟨h25, h⟩ := h
    obtain ⟨h26, h⟩ := h
    obtain ⟨h27, h⟩ := h
    refine wm_aload_n d_CA_print_51 rfl rfl ?_
    refine gf_CA_93 rfl d_CA_print_52 h25 ?_
    refine gf_CA_255 rfl d_CA_print_55 h26 ?_
    refine cf_CA_258 rfl d_CA_print_58 h27 (Nat.le_of_ble_eq_true rfl) (Ci.mono h (fun x29 M28 h => ?_))
    obtain ⟨h30, hOM28, h⟩ := h
    refine wm_if_ne (tgt := 93) d_CA_print_61 rfl h30 (fun c37 => ?_) (fun c37 => ?_)
    · replace h := h.2 c37
      obtain ⟨h51, h⟩ := h
      refine wm_aload_n d_CA_print_93 rfl rfl ?_
      refine gf_CA_100 rfl d_CA_print_94 h51 ?_
      refine wm_ireturn d_CA_print_97 rfl rfl ?_
      exact ⟨_, rfl, h⟩
    · replace c37 := Classical.not_not.mp c37
      replace h := h.1 c37
      obtain ⟨h38, h⟩ := h
      obtain ⟨h39, h⟩ := h
      obtain ⟨M40, e41⟩ : ∃ M40, M40 = mUI M28 a0 18 ((mI M28 a0 18) + 1) := ⟨_, rfl⟩
      replace h := h M40 e41
      obtain ⟨h42, h⟩ := h
      obtain ⟨h43, h⟩ := h
      obtain ⟨M44, e45⟩ : ∃ M44, M44 = mUI M40 (mR M28 a0 17) (Int.toNat (mI M28 a0 18)) 47 := ⟨_, rfl⟩
      replace h := h M44 e45
      obtain ⟨h46, h⟩ := h
      refine wm_aload_n d_CA_print_64 rfl rfl ?_
      refine gf_CA_97 rfl d_CA_print_65 h38 ?_
      refine wm_aload_n d_CA_print_68 rfl rfl ?_
      refine wm_dup d_CA_print_69 rfl ?_
      refine gf_CA_100 rfl d_CA_print_70 h38 ?_
      refine wm_dup_x1 d_CA_print_73 rfl rfl ?_
      refine wm_iconst d_CA_print_74 ?_
      refine wm_iadd d_CA_print_75 ?_
      have hOM40 : mOk M40 := by rw [e41]; exact mOk_UI hOM28 h39
      refine pf_CA_100 rfl d_CA_print_76 h38 h39 e41 ?_
      refine wm_bipush d_CA_print_79 (by decide) ?_
      have hOM44 : mOk M44 := by rw [e45]; exact mOk_UI hOM40 ⟨by omega, by omega⟩
      refine wm_castE d_CA_print_81 h42 h43 ⟨by decide, by decide⟩ e45 ?_
      refine wm_aload_n d_CA_print_82 rfl rfl ?_
      refine wm_aload_n d_CA_print_83 rfl rfl ?_
      refine gf_CA_93 rfl d_CA_print_84 (by rw [e45, e41]; exact h38) ?_
      refine gf_CA_255 rfl d_CA_print_87 h46 ?_
      refine cf_CA_251 rfl d_CA_print_90 (by rw [e45, e41]; exact h38) (Nat.le_of_ble_eq_true rfl) (Cv.mono h (fun M47 h => ?_))
      obtain ⟨hOM47, h⟩ := h
      obtain ⟨h50, h⟩ := h
      refine wm_aload_n d_CA_print_93 rfl rfl ?_
      refine gf_CA_100 rfl d_CA_print_94 h50 ?_
      refine wm_ireturn d_CA_print_97 rfl rfl ?_
      exact ⟨_, rfl, h⟩
  · replace c6 := Classical.not_not.mp c6
    replace h := h.1 c6
    refine wm_iconst d_CA_print_11 ?_
    refine wm_ireturn d_CA_print_12 rfl rfl ?_
    exact ⟨_, rfl, h⟩
theorem d_CA_fractionOf_0 : decode y_CA_fractionOf.2.1 0 = .ok (.iload_n 2, 1) := dc9_28 (by decide +kernel)
theorem d_CA_fractionOf_1 : decode y_CA_fractionOf.2.1 1 = .ok (.ifCond .ne 10, 3) := dc9_154 (by decide +kernel)
theorem d_CA_fractionOf_4 : decode y_CA_fractionOf.2.1 4 = .ok (.aload_n 0, 1) := dc9_42 (by decide +kernel)
theorem d_CA_fractionOf_5 : decode y_CA_fractionOf.2.1 5 = .ok (.getfield 70, 3) := dc9_180 (by decide +kernel)
theorem d_CA_fractionOf_8 : decode y_CA_fractionOf.2.1 8 = .ok (.goto 28, 3) := dc9_167 (by decide +kernel)
theorem d_CA_fractionOf_11 : decode y_CA_fractionOf.2.1 11 = .ok (.iload_n 2, 1) := dc9_28 (by decide +kernel)
theorem d_CA_fractionOf_12 : decode y_CA_fractionOf.2.1 12 = .ok (.iconst 1, 1) := dc9_4 (by decide +kernel)
theorem d_CA_fractionOf_13 : decode y_CA_fractionOf.2.1 13 = .ok (.if_icmp .ne 10, 3) := dc9_160 (by decide +kernel)
theorem d_CA_fractionOf_16 : decode y_CA_fractionOf.2.1 16 = .ok (.aload_n 0, 1) := dc9_42 (by decide +kernel)
theorem d_CA_fractionOf_17 : decode y_CA_fractionOf.2.1 17 = .ok (.getfield 74, 3) := dc9_180 (by decide +kernel)
theorem d_CA_fractionOf_20 : decode y_CA_fractionOf.2.1 20 = .ok (.goto 16, 3) := dc9_167 (by decide +kernel)
theorem d_CA_fractionOf_23 : decode y_CA_fractionOf.2.1 23 = .ok (.iload_n 2, 1) := dc9_28 (by decide +kernel)
theorem d_CA_fractionOf_24 : decode y_CA_fractionOf.2.1 24 = .ok (.iconst 2, 1) := dc9_5 (by decide +kernel)
theorem d_CA_fractionOf_25 : decode y_CA_fractionOf.2.1 25 = .ok (.if_icmp .ne 10, 3) := dc9_160 (by decide +kernel)
theorem d_CA_fractionOf_28 : decode y_CA_fractionOf.2.1 28 = .ok (.aload_n 0, 1) := dc9_42 (by decide +kernel)
theorem d_CA_fractionOf_29 : decode y_CA_fractionOf.2.1 29 = .ok (.getfield 80, 3) := dc9_180 (by decide +kernel)
theorem d_CA_fractionOf_32 : decode y_CA_fractionOf.2.1 32 = .ok (.goto 4, 3) := dc9_167 (by decide +kernel)
theorem d_CA_fractionOf_35 : decode y_CA_fractionOf.2.1 35 = .ok (.aconst_null, 1) := dc9_1 (by decide +kernel)
theorem d_CA_fractionOf_36 : decode y_CA_fractionOf.2.1 36 = .ok (.astore_n 3, 1) := dc9_78 (by decide +kernel)
theorem d_CA_fractionOf_37 : decode y_CA_fractionOf.2.1 37 = .ok (.aload_n 3, 1) := dc9_45 (by decide +kernel)
theorem d_CA_fractionOf_38 : decode y_CA_fractionOf.2.1 38 = .ok (.ifnull 21, 3) := dc9_198 (by decide +kernel)
theorem d_CA_fractionOf_59 : decode y_CA_fractionOf.2.1 59 = .ok (.aconst_null, 1) := dc9_1 (by decide +kernel)
theorem d_CA_fractionOf_60 : decode y_CA_fractionOf.2.1 60 = .ok (.goto 9, 3) := dc9_167 (by decide +kernel)
theorem d_CA_fractionOf_41 : decode y_CA_fractionOf.2.1 41 = .ok (.aload_n 3, 1) := dc9_45 (by decide +kernel)
theorem d_CA_fractionOf_42 : decode y_CA_fractionOf.2.1 42 = .ok (.getfield 137, 3) := dc9_180 (by decide +kernel)
theorem d_CA_fractionOf_45 : decode y_CA_fractionOf.2.1 45 = .ok (.ifCond .eq 14, 3) := dc9_153 (by decide +kernel)
theorem d_CA_fractionOf_48 : decode y_CA_fractionOf.2.1 48 = .ok (.aload_n 0, 1) := dc9_42 (by decide +kernel)
theorem d_CA_fractionOf_49 : decode y_CA_fractionOf.2.1 49 = .ok (.getfield 54, 3) := dc9_180 (by decide +kernel)
theorem d_CA_fractionOf_52 : decode y_CA_fractionOf.2.1 52 = .ok (.iload_n 1, 1) := dc9_27 (by decide +kernel)
theorem d_CA_fractionOf_69 : decode y_CA_fractionOf.2.1 69 = .ok (.areturn, 1) := dc9_176 (by decide +kernel)
theorem d_CA_fractionOf_53 : decode y_CA_fractionOf.2.1 53 = .ok (.invokevirtual 163, 3) := dc9_182 (by decide +kernel)
theorem d_CA_fractionOf_56 : decode y_CA_fractionOf.2.1 56 = .ok (.ifCond .ne 7, 3) := dc9_154 (by decide +kernel)
theorem d_CA_fractionOf_63 : decode y_CA_fractionOf.2.1 63 = .ok (.aload_n 3, 1) := dc9_45 (by decide +kernel)
theorem d_CA_fractionOf_64 : decode y_CA_fractionOf.2.1 64 = .ok (.getfield 262, 3) := dc9_180 (by decide +kernel)
theorem d_CA_fractionOf_67 : decode y_CA_fractionOf.2.1 67 = .ok (.iload_n 1, 1) := dc9_27 (by decide +kernel)
theorem d_CA_fractionOf_68 : decode y_CA_fractionOf.2.1 68 = .ok (.aaload, 1) := dc9_50 (by decide +kernel)
theorem k_CA_fractionOf {G : mG} {d : Nat} {a0 : Nat} {l1 : Int} {l2 : Int} {M : mM} {Q : Nat → mM → Prop} (hO : mOk M) (hi_l1 : i32 l1) (hi_l2 : i32 l2)
    (h : (((l2 = 0) → mK M a0 = 1) ∧ (¬ (l2 = 0) → (((l2 = 1) → mK M a0 = 1) ∧ (¬ (l2 = 1) → ((l2 = 2) → mK M a0 = 1))))) ∧ ∀ v7 : Nat, v7 = (if l2 = 0 then mR M a0 11 else (if l2 = 1 then mR M a0 12 else (if l2 = 2 then mR M a0 14 else 0))) → (¬ (v7 = 0) → mK M v7 = 13) ∧ (((v7 = 0) ∨ (mI M v7 1 = 0)) → (Q 0 M)) ∧ (¬ ((v7 = 0) ∨ (mI M v7 1 = 0)) → (mK M a0 = 1 ∧ mK M (mR M a0 9) = 7 ∧ Ci G y_Ga_hasState d [vr (mR M a0 9), vi l1] M (fun x23 M22 => i32 x23 ∧ mOk M22 ∧ ((¬ (x23 = 0) → (mK M22 v7 = 13 ∧ mK M22 (mR M22 v7 0) = 35 ∧ ((0 : Int) ≤ l1 ∧ l1 < (mN M22 (mR M22 v7 0) : Int)))) ∧ ∀ v29 : Nat, v29 = (if (x23 = 0) then 0 else mR M22 (mR M22 v7 0) (Int.toNat l1)) → Q v29 M22))))) :
    Cr G y_CA_fractionOf (d + 1) [vr a0, vi l1, vi l2] M Q := by
  refine wm_open (y := y_CA_fractionOf) rfl (Nat.le_of_ble_eq_true rfl) (L := [vr a0, vi l1, vi l2, vd]) rfl ?_
  refine wm_iload_n d_CA_fractionOf_0 rfl rfl ?_
  obtain ⟨s8, h⟩ := h
  have hJ : ∀ v7 : Nat, v7 = (if l2 = 0 then mR M a0 11 else (if l2 = 1 then mR M a0 12 else (if l2 = 2 then mR M a0 14 else 0))) → mWm G y_CA_fractionOf (d + 1) 36 [vr a0, vi l1, vd, vd] [vr v7] M (fun r9 M9 => ∃ x9, r9 = some (vr x9) ∧ Q x9 M9) := by
    intro v7 e9
    have h := h v7 e9
    refine wm_astore_n d_CA_fractionOf_36 rfl (by decide) (L' := [vr a0, vi l1, vd, vr v7]) rfl ?_
    refine wm_aload_n d_CA_fractionOf_37 rfl rfl ?_
    obtain ⟨s17, h⟩ := h
    have hE0 : ((v7 = 0) ∨ (mI M v7 1 = 0)) → mWm G y_CA_fractionOf (d + 1) 59 [vr a0, vi l1, vd, vr v7] [] M (fun r9 M9 => ∃ x9, r9 = some (vr x9) ∧ Q x9 M9) := by
      intro q18
      have h := h.1 q18
      refine wm_null d_CA_fractionOf_59 ?_
      refine wm_goto (tgt := 69) d_CA_fractionOf_60 rfl ?_
      refine wm_areturn d_CA_fractionOf_69 rfl (Or.inl ⟨_, rfl⟩) ?_
      exact ⟨_, rfl, h⟩
    have hE1 : ¬ ((v7 = 0) ∨ (mI M v7 1 = 0)) → mWm G y_CA_fractionOf (d + 1) 48 [vr a0, vi l1, vd, vr v7] [] M (fun r9 M9 => ∃ x9, r9 = some (vr x9) ∧ Q x9 M9) := by
      intro q19
      have h := h.2 q19
      obtain ⟨h20, h⟩ := h
      obtain ⟨h21, h⟩ := h
      refine wm_aload_n d_CA_fractionOf_48 rfl rfl ?_
      refine gf_CA_54 rfl d_CA_fractionOf_49 h20 ?_
      refine wm_iload_n d_CA_fractionOf_52 rfl rfl ?_
      refine cf_CA_163 rfl d_CA_fractionOf_53 h21 (Nat.le_of_ble_eq_true rfl) (Ci.mono h (fun x23 M22 h => ?_))
      obtain ⟨h24, hOM22, h⟩ := h
      obtain ⟨s30, h⟩ := h
      have hJ : ∀ v29 : Nat, v29 = (if (x23 = 0) then 0 else mR M22 (mR M22 v7 0) (Int.toNat l1)) → mWm G y_CA_fractionOf (d + 1) 69 [vd, vd, vd, vd] [vr v29] M22 (fun r9 M9 => ∃ x9, r9 = some (vr x9) ∧ Q x9 M9) := by
        intro v29 e31
        have h := h v29 e31
        refine wm_areturn d_CA_fractionOf_69 rfl (Or.inl ⟨_, rfl⟩) ?_
        exact ⟨_, rfl, h⟩
      clear h
      have s32 := s30
      refine wm_if_ne (tgt := 63) d_CA_fractionOf_56 rfl h24 (fun c25 => ?_) (fun c25 => ?_)
      · have s32 := s32 c25
        obtain ⟨h26, h27, h28⟩ := s32
        refine wm_aload_n d_CA_fractionOf_63 rfl rfl ?_
        refine gf_CA_262 rfl d_CA_fractionOf_64 h26 ?_
        refine wm_iload_n d_CA_fractionOf_67 rfl rfl ?_
        refine wm_aald5 d_CA_fractionOf_68 h27 h28 ?_
        refine wm_less (L' := [vd, vd, vd, vd]) ⟨Or.inl rfl, Or.inl rfl, Or.inl rfl, Or.inl rfl, trivial⟩ ?_
        exact hJ (mR M22 (mR M22 v7 0) (Int.toNat l1)) (if_neg c25).symm
      · replace c25 := Classical.not_not.mp c25
        refine wm_null d_CA_fractionOf_59 ?_
        refine wm_goto (tgt := 69) d_CA_fractionOf_60 rfl ?_
        refine wm_less (L' := [vd, vd, vd, vd]) ⟨Or.inl rfl, Or.inl rfl, Or.inl rfl, Or.inl rfl, trivial⟩ ?_
        exact hJ 0 (if_pos c25).symm
    clear h
    have s34 := s17
    refine wm_ifnull (tgt := 59) d_CA_fractionOf_38 rfl (fun c16 => ?_) (fun c16 => ?_)
    · exact hE0 (Or.inl c16)
    · have s34 := s34 c16
      have h14 := s34
      refine wm_aload_n d_CA_fractionOf_41 rfl rfl ?_
      refine gf_CA_137 rfl d_CA_fractionOf_42 h14 ?_
      refine wm_if_eq (tgt := 59) d_CA_fractionOf_45 rfl (hO _ _).1 (fun c15 => ?_) (fun c15 => ?_)
      · exact hE0 (Or.inr c15)
      · exact hE1 (fun z35 => Or.elim z35 c16 c15)
  clear h
  obtain ⟨s37, s38⟩ := s8
  refine wm_if_ne (tgt := 11) d_CA_fractionOf_1 rfl hi_l2 (fun c1 => ?_) (fun c1 => ?_)
  · have s38 := s38 c1
    obtain ⟨s39, s40⟩ := s38
    refine wm_iload_n d_CA_fractionOf_11 rfl rfl ?_
    refine wm_iconst d_CA_fractionOf_12 ?_
    refine wm_icmp_ne (tgt := 23) d_CA_fractionOf_13 rfl hi_l2 ⟨by decide, by decide⟩ (fun c3 => ?_) (fun c3 => ?_)
    · have s40 := s40 c3
      have s41 := s40
      refine wm_iload_n d_CA_fractionOf_23 rfl rfl ?_
      refine wm_iconst d_CA_fractionOf_24 ?_
      refine wm_icmp_ne (tgt := 35) d_CA_fractionOf_25 rfl hi_l2 ⟨by decide, by decide⟩ (fun c5 => ?_) (fun c5 => ?_)
      · refine wm_null d_CA_fractionOf_35 ?_
        refine wm_less (L' := [vr a0, vi l1, vd, vd]) ⟨Or.inr rfl, Or.inr rfl, Or.inl rfl, Or.inl rfl, trivial⟩ ?_
        exact hJ 0 (by rw [if_neg c1, if_neg c3, if_neg c5])
      · replace c5 := Classical.not_not.mp c5
        have s41 := s41 c5
        have h6 := s41
        refine wm_aload_n d_CA_fractionOf_28 rfl rfl ?_
        refine gf_CA_80 rfl d_CA_fractionOf_29 h6 ?_
        refine wm_goto (tgt := 36) d_CA_fractionOf_32 rfl ?_
        refine wm_less (L' := [vr a0, vi l1, vd, vd]) ⟨Or.inr rfl, Or.inr rfl, Or.inl rfl, Or.inl rfl, trivial⟩ ?_
        exact hJ (mR M a0 14) (by rw [if_neg c1, if_neg c3, if_pos c5])
    · replace c3 := Classical.not_not.mp c3
      have s39 := s39 c3
      have h4 := s39
      refine wm_aload_n d_CA_fractionOf_16 rfl rfl ?_
      refine gf_CA_74 rfl d_CA_fractionOf_17 h4 ?_
      refine wm_goto (tgt := 36) d_CA_fractionOf_20 rfl ?_
      refine wm_less (L' := [vr a0, vi l1, vd, vd]) ⟨Or.inr rfl, Or.inr rfl, Or.inl rfl, Or.inl rfl, trivial⟩ ?_
      exact hJ (mR M a0 12) (by rw [if_neg c1, if_pos c3])
  · replace c1 := Classical.not_not.mp c1
    have s37 := s37 c1
    have h2 := s37
    refine wm_aload_n d_CA_fractionOf_4 rfl rfl ?_
    refine gf_CA_70 rfl d_CA_fractionOf_5 h2 ?_
    refine wm_goto (tgt := 36) d_CA_fractionOf_8 rfl ?_
    refine wm_less (L' := [vr a0, vi l1, vd, vd]) ⟨Or.inr rfl, Or.inr rfl, Or.inl rfl, Or.inl rfl, trivial⟩ ?_
    exact hJ (mR M a0 11) (by rw [if_pos c1])
theorem d_CA_printNumber_0 : decode y_CA_printNumber.2.1 0 = .ok (.aload_n 0, 1) := dc9_42 (by decide +kernel)
theorem d_CA_printNumber_1 : decode y_CA_printNumber.2.1 1 = .ok (.getfield 86, 3) := dc9_180 (by decide +kernel)
theorem d_CA_printNumber_4 : decode y_CA_printNumber.2.1 4 = .ok (.aload_n 1, 1) := dc9_43 (by decide +kernel)
theorem d_CA_printNumber_5 : decode y_CA_printNumber.2.1 5 = .ok (.invokevirtual 266, 3) := dc9_182 (by decide +kernel)
theorem d_CA_printNumber_8 : decode y_CA_printNumber.2.1 8 = .ok (.aload_n 0, 1) := dc9_42 (by decide +kernel)
theorem d_CA_printNumber_9 : decode y_CA_printNumber.2.1 9 = .ok (.getfield 100, 3) := dc9_180 (by decide +kernel)
theorem d_CA_printNumber_12 : decode y_CA_printNumber.2.1 12 = .ok (.istore_n 2, 1) := dc9_61 (by decide +kernel)
theorem d_CA_printNumber_13 : decode y_CA_printNumber.2.1 13 = .ok (.iconst 0, 1) := dc9_3 (by decide +kernel)
theorem d_CA_printNumber_14 : decode y_CA_printNumber.2.1 14 = .ok (.istore_n 3, 1) := dc9_62 (by decide +kernel)
theorem d_CA_printNumber_15 : decode y_CA_printNumber.2.1 15 = .ok (.iload_n 3, 1) := dc9_29 (by decide +kernel)
theorem d_CA_printNumber_16 : decode y_CA_printNumber.2.1 16 = .ok (.sipush 480, 3) := dc9_17 (by decide +kernel)
theorem d_CA_printNumber_19 : decode y_CA_printNumber.2.1 19 = .ok (.if_icmp .ge 115, 3) := dc9_162 (by decide +kernel)
theorem d_CA_printNumber_22 : decode y_CA_printNumber.2.1 22 = .ok (.iload_n 3, 1) := dc9_29 (by decide +kernel)
theorem d_CA_printNumber_23 : decode y_CA_printNumber.2.1 23 = .ok (.ifCond .eq 13, 3) := dc9_153 (by decide +kernel)
theorem d_CA_printNumber_26 : decode y_CA_printNumber.2.1 26 = .ok (.aload_n 0, 1) := dc9_42 (by decide +kernel)
theorem d_CA_printNumber_27 : decode y_CA_printNumber.2.1 27 = .ok (.getfield 86, 3) := dc9_180 (by decide +kernel)
theorem d_CA_printNumber_30 : decode y_CA_printNumber.2.1 30 = .ok (.getfield 268, 3) := dc9_180 (by decide +kernel)
theorem d_CA_printNumber_33 : decode y_CA_printNumber.2.1 33 = .ok (.ifCond .le 101, 3) := dc9_158 (by decide +kernel)
theorem d_CA_printNumber_134 : decode y_CA_printNumber.2.1 134 = .ok (.iload_n 2, 1) := dc9_28 (by decide +kernel)
theorem d_CA_printNumber_135 : decode y_CA_printNumber.2.1 135 = .ok (.istore_n 3, 1) := dc9_62 (by decide +kernel)
theorem d_CA_printNumber_136 : decode y_CA_printNumber.2.1 136 = .ok (.aload_n 0, 1) := dc9_42 (by decide +kernel)
theorem d_CA_printNumber_137 : decode y_CA_printNumber.2.1 137 = .ok (.getfield 100, 3) := dc9_180 (by decide +kernel)
theorem d_CA_printNumber_140 : decode y_CA_printNumber.2.1 140 = .ok (.iconst 1, 1) := dc9_4 (by decide +kernel)
theorem d_CA_printNumber_141 : decode y_CA_printNumber.2.1 141 = .ok (.isub, 1) := dc9_100 (by decide +kernel)
theorem d_CA_printNumber_142 : decode y_CA_printNumber.2.1 142 = .ok (.istore 4, 2) := dc9_54 (by decide +kernel)
theorem d_CA_printNumber_36 : decode y_CA_printNumber.2.1 36 = .ok (.aload_n 0, 1) := dc9_42 (by decide +kernel)
theorem d_CA_printNumber_37 : decode y_CA_printNumber.2.1 37 = .ok (.getfield 86, 3) := dc9_180 (by decide +kernel)
theorem d_CA_printNumber_40 : decode y_CA_printNumber.2.1 40 = .ok (.ldc_w 271, 3) := dc9_19 (by decide +kernel)
theorem d_CA_printNumber_43 : decode y_CA_printNumber.2.1 43 = .ok (.invokevirtual 272, 3) := dc9_182 (by decide +kernel)
theorem d_CA_printNumber_46 : decode y_CA_printNumber.2.1 46 = .ok (.istore 4, 2) := dc9_54 (by decide +kernel)
theorem d_CA_printNumber_48 : decode y_CA_printNumber.2.1 48 = .ok (.aload_n 0, 1) := dc9_42 (by decide +kernel)
theorem d_CA_printNumber_49 : decode y_CA_printNumber.2.1 49 = .ok (.getfield 86, 3) := dc9_180 (by decide +kernel)
theorem d_CA_printNumber_52 : decode y_CA_printNumber.2.1 52 = .ok (.getfield 268, 3) := dc9_180 (by decide +kernel)
theorem d_CA_printNumber_55 : decode y_CA_printNumber.2.1 55 = .ok (.ifCond .ne 7, 3) := dc9_154 (by decide +kernel)
theorem d_CA_printNumber_58 : decode y_CA_printNumber.2.1 58 = .ok (.iconst 1, 1) := dc9_4 (by decide +kernel)
theorem d_CA_printNumber_59 : decode y_CA_printNumber.2.1 59 = .ok (.goto 4, 3) := dc9_167 (by decide +kernel)
theorem d_CA_printNumber_62 : decode y_CA_printNumber.2.1 62 = .ok (.iconst 0, 1) := dc9_3 (by decide +kernel)
theorem d_CA_printNumber_63 : decode y_CA_printNumber.2.1 63 = .ok (.istore 5, 2) := dc9_54 (by decide +kernel)
theorem d_CA_printNumber_65 : decode y_CA_printNumber.2.1 65 = .ok (.iconst 0, 1) := dc9_3 (by decide +kernel)
theorem d_CA_printNumber_66 : decode y_CA_printNumber.2.1 66 = .ok (.istore 6, 2) := dc9_54 (by decide +kernel)
theorem d_CA_printNumber_68 : decode y_CA_printNumber.2.1 68 = .ok (.iload 6, 2) := dc9_21 (by decide +kernel)
theorem d_CA_printNumber_70 : decode y_CA_printNumber.2.1 70 = .ok (.bipush 9, 2) := dc9_16 (by decide +kernel)
theorem d_CA_printNumber_72 : decode y_CA_printNumber.2.1 72 = .ok (.if_icmp .ge 56, 3) := dc9_162 (by decide +kernel)
theorem d_CA_printNumber_75 : decode y_CA_printNumber.2.1 75 = .ok (.iload 6, 2) := dc9_21 (by decide +kernel)
theorem d_CA_printNumber_77 : decode y_CA_printNumber.2.1 77 = .ok (.ifCond .eq 13, 3) := dc9_153 (by decide +kernel)
theorem d_CA_printNumber_80 : decode y_CA_printNumber.2.1 80 = .ok (.iload 5, 2) := dc9_21 (by decide +kernel)
theorem d_CA_printNumber_82 : decode y_CA_printNumber.2.1 82 = .ok (.ifCond .eq 8, 3) := dc9_153 (by decide +kernel)
theorem d_CA_printNumber_85 : decode y_CA_printNumber.2.1 85 = .ok (.iload 4, 2) := dc9_21 (by decide +kernel)
theorem d_CA_printNumber_87 : decode y_CA_printNumber.2.1 87 = .ok (.ifCond .le 41, 3) := dc9_158 (by decide +kernel)
theorem d_CA_printNumber_128 : decode y_CA_printNumber.2.1 128 = .ok (.iinc 3 1, 3) := by decide +kernel
theorem d_CA_printNumber_131 : decode y_CA_printNumber.2.1 131 = .ok (.goto (-116), 3) := dc9_167 (by decide +kernel)
theorem d_CA_printNumber_90 : decode y_CA_printNumber.2.1 90 = .ok (.aload_n 0, 1) := dc9_42 (by decide +kernel)
theorem d_CA_printNumber_91 : decode y_CA_printNumber.2.1 91 = .ok (.getfield 97, 3) := dc9_180 (by decide +kernel)
theorem d_CA_printNumber_94 : decode y_CA_printNumber.2.1 94 = .ok (.aload_n 0, 1) := dc9_42 (by decide +kernel)
theorem d_CA_printNumber_95 : decode y_CA_printNumber.2.1 95 = .ok (.dup, 1) := dc9_89 (by decide +kernel)
theorem d_CA_printNumber_96 : decode y_CA_printNumber.2.1 96 = .ok (.getfield 100, 3) := dc9_180 (by decide +kernel)
theorem d_CA_printNumber_99 : decode y_CA_printNumber.2.1 99 = .ok (.dup_x1, 1) := dc9_90 (by decide +kernel)
theorem d_CA_printNumber_100 : decode y_CA_printNumber.2.1 100 = .ok (.iconst 1, 1) := dc9_4 (by decide +kernel)
theorem d_CA_printNumber_101 : decode y_CA_printNumber.2.1 101 = .ok (.iadd, 1) := dc9_96 (by decide +kernel)
theorem d_CA_printNumber_102 : decode y_CA_printNumber.2.1 102 = .ok (.putfield 100, 3) := dc9_181 (by decide +kernel)
theorem d_CA_printNumber_105 : decode y_CA_printNumber.2.1 105 = .ok (.bipush 48, 2) := dc9_16 (by decide +kernel)
theorem d_CA_printNumber_107 : decode y_CA_printNumber.2.1 107 = .ok (.iload 4, 2) := dc9_21 (by decide +kernel)
theorem d_CA_printNumber_109 : decode y_CA_printNumber.2.1 109 = .ok (.bipush 10, 2) := dc9_16 (by decide +kernel)
theorem d_CA_printNumber_111 : decode y_CA_printNumber.2.1 111 = .ok (.irem, 1) := dc9_112 (by decide +kernel)
theorem d_CA_printNumber_112 : decode y_CA_printNumber.2.1 112 = .ok (.iadd, 1) := dc9_96 (by decide +kernel)
theorem d_CA_printNumber_113 : decode y_CA_printNumber.2.1 113 = .ok (.i2c, 1) := dc9_146 (by decide +kernel)
theorem d_CA_printNumber_114 : decode y_CA_printNumber.2.1 114 = .ok (.castore, 1) := dc9_85 (by decide +kernel)
theorem d_CA_printNumber_115 : decode y_CA_printNumber.2.1 115 = .ok (.iload 4, 2) := dc9_21 (by decide +kernel)
theorem d_CA_printNumber_117 : decode y_CA_printNumber.2.1 117 = .ok (.bipush 10, 2) := dc9_16 (by decide +kernel)
theorem d_CA_printNumber_119 : decode y_CA_printNumber.2.1 119 = .ok (.idiv, 1) := dc9_108 (by decide +kernel)
theorem d_CA_printNumber_120 : decode y_CA_printNumber.2.1 120 = .ok (.istore 4, 2) := dc9_54 (by decide +kernel)
theorem d_CA_printNumber_122 : decode y_CA_printNumber.2.1 122 = .ok (.iinc 6 1, 3) := by decide +kernel
theorem d_CA_printNumber_125 : decode y_CA_printNumber.2.1 125 = .ok (.goto (-57), 3) := dc9_167 (by decide +kernel)
theorem d_CA_printNumber_144 : decode y_CA_printNumber.2.1 144 = .ok (.iload_n 3, 1) := dc9_29 (by decide +kernel)
theorem d_CA_printNumber_145 : decode y_CA_printNumber.2.1 145 = .ok (.iload 4, 2) := dc9_21 (by decide +kernel)
theorem d_CA_printNumber_147 : decode y_CA_printNumber.2.1 147 = .ok (.if_icmp .ge 42, 3) := dc9_162 (by decide +kernel)
theorem d_CA_printNumber_189 : decode y_CA_printNumber.2.1 189 = .ok (.return_, 1) := dc9_177 (by decide +kernel)
theorem d_CA_printNumber_150 : decode y_CA_printNumber.2.1 150 = .ok (.aload_n 0, 1) := dc9_42 (by decide +kernel)
theorem d_CA_printNumber_151 : decode y_CA_printNumber.2.1 151 = .ok (.getfield 97, 3) := dc9_180 (by decide +kernel)
theorem d_CA_printNumber_154 : decode y_CA_printNumber.2.1 154 = .ok (.iload_n 3, 1) := dc9_29 (by decide +kernel)
theorem d_CA_printNumber_155 : decode y_CA_printNumber.2.1 155 = .ok (.caload, 1) := dc9_52 (by decide +kernel)
theorem d_CA_printNumber_156 : decode y_CA_printNumber.2.1 156 = .ok (.istore 5, 2) := dc9_54 (by decide +kernel)
theorem d_CA_printNumber_158 : decode y_CA_printNumber.2.1 158 = .ok (.aload_n 0, 1) := dc9_42 (by decide +kernel)
theorem d_CA_printNumber_159 : decode y_CA_printNumber.2.1 159 = .ok (.getfield 97, 3) := dc9_180 (by decide +kernel)
theorem d_CA_printNumber_162 : decode y_CA_printNumber.2.1 162 = .ok (.iload_n 3, 1) := dc9_29 (by decide +kernel)
theorem d_CA_printNumber_163 : decode y_CA_printNumber.2.1 163 = .ok (.aload_n 0, 1) := dc9_42 (by decide +kernel)
theorem d_CA_printNumber_164 : decode y_CA_printNumber.2.1 164 = .ok (.getfield 97, 3) := dc9_180 (by decide +kernel)
theorem d_CA_printNumber_167 : decode y_CA_printNumber.2.1 167 = .ok (.iload 4, 2) := dc9_21 (by decide +kernel)
theorem d_CA_printNumber_169 : decode y_CA_printNumber.2.1 169 = .ok (.caload, 1) := dc9_52 (by decide +kernel)
theorem d_CA_printNumber_170 : decode y_CA_printNumber.2.1 170 = .ok (.castore, 1) := dc9_85 (by decide +kernel)
theorem d_CA_printNumber_171 : decode y_CA_printNumber.2.1 171 = .ok (.aload_n 0, 1) := dc9_42 (by decide +kernel)
theorem d_CA_printNumber_172 : decode y_CA_printNumber.2.1 172 = .ok (.getfield 97, 3) := dc9_180 (by decide +kernel)
theorem d_CA_printNumber_175 : decode y_CA_printNumber.2.1 175 = .ok (.iload 4, 2) := dc9_21 (by decide +kernel)
theorem d_CA_printNumber_177 : decode y_CA_printNumber.2.1 177 = .ok (.iload 5, 2) := dc9_21 (by decide +kernel)
theorem d_CA_printNumber_179 : decode y_CA_printNumber.2.1 179 = .ok (.castore, 1) := dc9_85 (by decide +kernel)
theorem d_CA_printNumber_180 : decode y_CA_printNumber.2.1 180 = .ok (.iinc 3 1, 3) := by decide +kernel
theorem d_CA_printNumber_183 : decode y_CA_printNumber.2.1 183 = .ok (.iinc 4 (-1), 3) := by decide +kernel
theorem d_CA_printNumber_186 : decode y_CA_printNumber.2.1 186 = .ok (.goto (-42), 3) := dc9_167 (by decide +kernel)
def h_CA_printNumber_15 (G : mG) (d : Nat) (a0 : Nat) (l2 : Int) (l3 : Int) (M : mM) (Q : mM → Prop) : Prop := mWm G y_CA_printNumber (d + 1) 15 [vr a0, vd, vi l2, vi l3, vd, vd, vd] [] M (fun r9 M9 => r9 = none ∧ Q M9)
def h_CA_printNumber_68 (G : mG) (d : Nat) (a0 : Nat) (l2 : Int) (l3 : Int) (l4 : Int) (l5 : Int) (l6 : Int) (M : mM) (Q : mM → Prop) : Prop := mWm G y_CA_printNumber (d + 1) 68 [vr a0, vd, vi l2, vi l3, vi l4, vi l5, vi l6] [] M (fun r9 M9 => r9 = none ∧ Q M9)
def h_CA_printNumber_144 (G : mG) (d : Nat) (a0 : Nat) (l3 : Int) (l4 : Int) (M : mM) (Q : mM → Prop) : Prop := mWm G y_CA_printNumber (d + 1) 144 [vr a0, vd, vd, vi l3, vi l4, vd, vd] [] M (fun r9 M9 => r9 = none ∧ Q M9)
theorem k_CA_printNumber {G : mG} {d : Nat} {a0 : Nat} {a1 : Nat} {M : mM} {Q : mM → Prop} (hO : mOk M)
    (h : mK M a0 = 1 ∧ mK M (mR M a0 15) = 10 ∧ Cv G y_Na_put1 d [vr (mR M a0 15), vr a1] M (fun M3 => mOk M3 ∧ (mK M3 a0 = 1 ∧ h_CA_printNumber_15 G d a0 (mI M3 a0 18) 0 M3 Q))) :
    Cv G y_CA_printNumber (d + 1) [vr a0, vr a1] M Q := by
  refine wm_open (y := y_CA_printNumber) rfl (Nat.le_of_ble_eq_true rfl) (L := [vr a0, vr a1, vd, vd, vd, vd, vd]) rfl ?_
  obtain ⟨h1, h⟩ := h
  obtain ⟨h2, h⟩ := h
  refine wm_aload_n d_CA_printNumber_0 rfl rfl ?_
  refine gf_CA_86 rfl d_CA_printNumber_1 h1 ?_
  refine wm_aload_n d_CA_printNumber_4 rfl rfl ?_
  refine cf_CA_266 rfl d_CA_printNumber_5 h2 (Nat.le_of_ble_eq_true rfl) (Cv.mono h (fun M3 h => ?_))
  obtain ⟨hOM3, h⟩ := h
  obtain ⟨h6, h⟩ := h
  refine wm_aload_n d_CA_printNumber_8 rfl rfl ?_
  refine gf_CA_100 rfl d_CA_printNumber_9 h6 ?_
  refine wm_istore_n d_CA_printNumber_12 rfl (by decide) (L' := [vr a0, vr a1, vi (mI M3 a0 18), vd, vd, vd, vd]) rfl ?_
  refine wm_iconst d_CA_printNumber_13 ?_
  refine wm_istore_n d_CA_printNumber_14 rfl (by decide) (L' := [vr a0, vr a1, vi (mI M3 a0 18), vi 0, vd, vd, vd]) rfl ?_
  refine wm_less (L' := [vr a0, vd, vi (mI M3 a0 18), vi 0, vd, vd, vd]) ⟨Or.inr rfl, Or.inl rfl, Or.inr rfl, Or.inr rfl, Or.inl rfl, Or.inl rfl, Or.inl rfl, trivial⟩ ?_
  exact h
theorem k_CA_printNumber_15 {G : mG} {d : Nat} {a0 : Nat} {l2 : Int} {l3 : Int} {M : mM} {Q : mM → Prop} (hO : mOk M) (hi_l2 : i32 l2) (hi_l3 : i32 l3)
    (h : (¬ (480 ≤ l3) → (¬ (l3 = 0) → (mK M a0 = 1 ∧ mK M (mR M a0 15) = 10))) ∧ (((480 ≤ l3) ∨ ((¬ (l3 = 0)) ∧ (mI M (mR M a0 15) 1 ≤ 0))) → (mK M a0 = 1 ∧ h_CA_printNumber_144 G d a0 l2 ((mI M a0 18) - 1) M Q)) ∧ (¬ ((480 ≤ l3) ∨ ((¬ (l3 = 0)) ∧ (mI M (mR M a0 15) 1 ≤ 0))) → (mK M a0 = 1 ∧ mK M (mR M a0 15) = 10 ∧ Ci G y_Na_divideSmall d [vr (mR M a0 15), vi 1000000000] M (fun x19 M18 => i32 x19 ∧ mOk M18 ∧ (mK M18 a0 = 1 ∧ mK M18 (mR M18 a0 15) = 10 ∧ ∀ v24 : Int, v24 = (if (mI M18 (mR M18 a0 15) 1 = 0) then 1 else 0) → h_CA_printNumber_68 G d a0 l2 l3 x19 v24 0 M18 Q))))) :
    h_CA_printNumber_15 G d a0 l2 l3 M Q := by
  unfold h_CA_printNumber_15
  refine wm_iload_n d_CA_printNumber_15 rfl rfl ?_
  refine wm_sipush d_CA_printNumber_16 (by decide) ?_
  obtain ⟨s12, h⟩ := h
  have hE0 : ((480 ≤ l3) ∨ ((¬ (l3 = 0)) ∧ (mI M (mR M a0 15) 1 ≤ 0))) → mWm G y_CA_printNumber (d + 1) 134 [vr a0, vd, vi l2, vi l3, vd, vd, vd] [] M (fun r9 M9 => r9 = none ∧ Q M9) := by
    intro q13
    have h := h.1 q13
    obtain ⟨h14, h⟩ := h
    refine wm_iload_n d_CA_printNumber_134 rfl rfl ?_
    refine wm_istore_n d_CA_printNumber_135 rfl (by decide) (L' := [vr a0, vd, vi l2, vi l2, vd, vd, vd]) rfl ?_
    refine wm_aload_n d_CA_printNumber_136 rfl rfl ?_
    refine gf_CA_100 rfl d_CA_printNumber_137 h14 ?_
    refine wm_iconst d_CA_printNumber_140 ?_
    refine wm_isub d_CA_printNumber_141 ?_
    refine wm_istore d_CA_printNumber_142 (by decide) (L' := [vr a0, vd, vi l2, vi l2, vi ((mI M a0 18) - 1), vd, vd]) rfl ?_
    refine wm_less (L' := [vr a0, vd, vd, vi l2, vi ((mI M a0 18) - 1), vd, vd]) ⟨Or.inr rfl, Or.inl rfl, Or.inl rfl, Or.inr rfl, Or.inr rfl, Or.inl rfl, Or.inl rfl, trivial⟩ ?_
    exact h
  have hE1 : ¬ ((480 ≤ l3) ∨ ((¬ (l3 = 0)) ∧ (mI M (mR M a0 15) 1 ≤ 0))) → mWm G y_CA_printNumber (d + 1) 36 [vr a0, vd, vi l2, vi l3, vd, vd, vd] [] M (fun r9 M9 => r9 = none ∧ Q M9) := by
    intro q15
    have h := h.2 q15
    obtain ⟨h16, h⟩ := h
    obtain ⟨h17, h⟩ := h
    refine wm_aload_n d_CA_printNumber_36 rfl rfl ?_
    refine gf_CA_86 rfl d_CA_printNumber_37 h16 ?_
    refine wm_ldcw (x := 1000000000) d_CA_printNumber_40 k7_101 (by decide) ?_
    refine cf_CA_272 rfl d_CA_printNumber_43 h17 (Nat.le_of_ble_eq_true rfl) (Ci.mono h (fun x19 M18 h => ?_))
    obtain ⟨h20, hOM18, h⟩ := h
    obtain ⟨h21, h⟩ := h
    obtain ⟨h22, h⟩ := h
    refine wm_istore d_CA_printNumber_46 (by decide) (L' := [vr a0, vd, vi l2, vi l3, vi x19, vd, vd]) rfl ?_
    refine wm_aload_n d_CA_printNumber_48 rfl rfl ?_
    refine gf_CA_86 rfl d_CA_printNumber_49 h21 ?_
    refine gf_CA_268 rfl d_CA_printNumber_52 h22 ?_
    have hJ : ∀ v24 : Int, v24 = (if (mI M18 (mR M18 a0 15) 1 = 0) then 1 else 0) → mWm G y_CA_printNumber (d + 1) 63 [vr a0, vd, vi l2, vi l3, vi x19, vd, vd] [vi v24] M18 (fun r9 M9 => r9 = none ∧ Q M9) := by
      intro v24 e26
      have h := h v24 e26
      have h27 : i32 v24 := by rw [e26]; (repeat' split) <;> first | exact ⟨by decide, by decide⟩ | exact ⟨by decide, by decide⟩
      have h28 : (v24 = 0 ∨ v24 = 1) := by rw [e26]; (repeat' split) <;> decide
      refine wm_istore d_CA_printNumber_63 (by decide) (L' := [vr a0, vd, vi l2, vi l3, vi x19, vi v24, vd]) rfl ?_
      refine wm_iconst d_CA_printNumber_65 ?_
      refine wm_istore d_CA_printNumber_66 (by decide) (L' := [vr a0, vd, vi l2, vi l3, vi x19, vi v24, vi 0]) rfl ?_
      exact h
    clear h
    refine wm_if_ne (tgt := 62) d_CA_printNumber_55 rfl (hOM18 _ _).1 (fun c23 => ?_) (fun c23 => ?_)
    · refine wm_iconst d_CA_printNumber_62 ?_
      exact hJ 0 (if_neg c23).symm
    · replace c23 := Classical.not_not.mp c23
      refine wm_iconst d_CA_printNumber_58 ?_
      refine wm_goto (tgt := 63) d_CA_printNumber_59 rfl ?_
      exact hJ 1 (if_pos c23).symm
  clear h
  have s30 := s12
  refine wm_icmp_ge (tgt := 134) d_CA_printNumber_19 rfl hi_l3 ⟨by decide, by decide⟩ (fun c11 => ?_) (fun c11 => ?_)
  · exact hE0 (Or.inl c11)
  · have s30 := s30 c11
    have s31 := s30
    refine wm_iload_n d_CA_printNumber_22 rfl rfl ?_
    refine wm_if_eq (tgt := 36) d_CA_printNumber_23 rfl hi_l3 (fun c10 => ?_) (fun c10 => ?_)
    · exact hE1 (fun z32 => Or.elim z32 c11 (fun z33 => z33.1 c10))
    · have s31 := s31 c10
      obtain ⟨h7, h8⟩ := s31
      refine wm_aload_n d_CA_printNumber_26 rfl rfl ?_
      refine gf_CA_86 rfl d_CA_printNumber_27 h7 ?_
      refine gf_CA_268 rfl d_CA_printNumber_30 h8 ?_
      refine wm_if_le (tgt := 134) d_CA_printNumber_33 rfl (hO _ _).1 (fun c9 => ?_) (fun c9 => ?_)
      · exact hE0 (Or.inr ⟨c10, c9⟩)
      · exact hE1 (fun z34 => Or.elim z34 c11 (fun z35 => c9 z35.2))
theorem k_CA_printNumber_68 {G : mG} {d : Nat} {a0 : Nat} {l2 : Int} {l3 : Int} {l4 : Int} {l5 : Int} {l6 : Int} {M : mM} {Q : mM → Prop} (hO : mOk M) (hi_l2 : i32 l2) (hi_l3 : i32 l3) (hi_l4 : i32 l4) (hi_l5 : i32 l5) (hi_l6 : i32 l6)
    (h : (((9 ≤ l6) ∨ ((¬ (l6 = 0)) ∧ ((¬ (l5 = 0)) ∧ (l4 ≤ 0)))) → (h_CA_printNumber_15 G d a0 l2 (l3 + 1) M Q)) ∧ (¬ ((9 ≤ l6) ∨ ((¬ (l6 = 0)) ∧ ((¬ (l5 = 0)) ∧ (l4 ≤ 0)))) → (mK M a0 = 1 ∧ i32 ((mI M a0 18) + 1) ∧ ∀ M46, M46 = mUI M a0 18 ((mI M a0 18) + 1) → mK M46 (mR M a0 17) = 32 ∧ ((0 : Int) ≤ mI M a0 18 ∧ mI M a0 18 < (mN M46 (mR M a0 17) : Int)) ∧ ((0 : Int) ≤ i2cI (48 + (Int.tmod l4 10)) ∧ i2cI (48 + (Int.tmod l4 10)) < 65536) ∧ ∀ M51, M51 = mUI M46 (mR M a0 17) (Int.toNat (mI M a0 18)) (i2cI (48 + (Int.tmod l4 10))) → h_CA_printNumber_68 G d a0 l2 l3 (Int.tdiv l4 10) l5 (l6 + 1) M51 Q))) :
    h_CA_printNumber_68 G d a0 l2 l3 l4 l5 l6 M Q := by
  unfold h_CA_printNumber_68
  refine wm_iload d_CA_printNumber_68 rfl ?_
  refine wm_bipush d_CA_printNumber_70 (by decide) ?_
  have hE0 : ((9 ≤ l6) ∨ ((¬ (l6 = 0)) ∧ ((¬ (l5 = 0)) ∧ (l4 ≤ 0)))) → mWm G y_CA_printNumber (d + 1) 128 [vr a0, vd, vi l2, vi l3, vi l4, vi l5, vi l6] [] M (fun r9 M9 => r9 = none ∧ Q M9) := by
    intro q42
    have h := h.1 q42
    refine wm_iinc d_CA_printNumber_128 (by decide) rfl (L' := [vr a0, vd, vi l2, vi (l3 + 1), vi l4, vi l5, vi l6]) rfl ?_
    refine wm_goto (tgt := 15) d_CA_printNumber_131 rfl ?_
    refine wm_less (L' := [vr a0, vd, vi l2, vi (l3 + 1), vd, vd, vd]) ⟨Or.inr rfl, Or.inl rfl, Or.inr rfl, Or.inr rfl, Or.inl rfl, Or.inl rfl, Or.inl rfl, trivial⟩ ?_
    exact h
  have hE1 : ¬ ((9 ≤ l6) ∨ ((¬ (l6 = 0)) ∧ ((¬ (l5 = 0)) ∧ (l4 ≤ 0)))) → mWm G y_CA_printNumber (d + 1) 90 [vr a0, vd, vi l2, vi l3, vi l4, vi l5, vi l6] [] M (fun r9 M9 => r9 = none ∧ Q M9) := by
    intro q43
    have h := h.2 q43
    obtain ⟨h44, h⟩ := h
    obtain ⟨h45, h⟩ := h
    obtain ⟨M46, e47⟩ : ∃ M46, M46 = mUI M a0 18 ((mI M a0 18) + 1) := ⟨_, rfl⟩
    replace h := h M46 e47
    obtain ⟨h48, h⟩ := h
    obtain ⟨h49, h⟩ := h
    obtain ⟨h50, h⟩ := h
    obtain ⟨M51, e52⟩ : ∃ M51, M51 = mUI M46 (mR M a0 17) (Int.toNat (mI M a0 18)) (i2cI (48 + (Int.tmod l4 10))) := ⟨_, rfl⟩
    replace h := h M51 e52
    refine wm_aload_n d_CA_printNumber_90 rfl rfl ?_
    refine gf_CA_97 rfl d_CA_printNumber_91 h44 ?_
    refine wm_aload_n d_CA_printNumber_94 rfl rfl ?_
    refine wm_dup d_CA_printNumber_95 rfl ?_
    refine gf_CA_100 rfl d_CA_printNumber_96 h44 ?_
    refine wm_dup_x1 d_CA_printNumber_99 rfl rfl ?_
    refine wm_iconst d_CA_printNumber_100 ?_
    refine wm_iadd d_CA_printNumber_101 ?_
    have hOM46 : mOk M46 := by rw [e47]; exact mOk_UI hO h45
    refine pf_CA_100 rfl d_CA_printNumber_102 h44 h45 e47 ?_
    refine wm_bipush d_CA_printNumber_105 (by decide) ?_
    refine wm_iload d_CA_printNumber_107 rfl ?_
    refine wm_bipush d_CA_printNumber_109 (by decide) ?_
    refine wm_irem d_CA_printNumber_111 hi_l4 ⟨by decide, by decide⟩ (by decide) ?_
    refine wm_iadd d_CA_printNumber_112 ?_
    refine wm_i2c d_CA_printNumber_113 ?_
    have hOM51 : mOk M51 := by rw [e52]; exact mOk_UI hOM46 ⟨by omega, by omega⟩
    refine wm_castE d_CA_printNumber_114 h48 h49 h50 e52 ?_
    refine wm_iload d_CA_printNumber_115 rfl ?_
    refine wm_bipush d_CA_printNumber_117 (by decide) ?_
    refine wm_idiv d_CA_printNumber_119 hi_l4 ⟨by decide, by decide⟩ (by decide) ?_
    refine wm_istore d_CA_printNumber_120 (by decide) (L' := [vr a0, vd, vi l2, vi l3, vi (Int.tdiv l4 10), vi l5, vi l6]) rfl ?_
    refine wm_iinc d_CA_printNumber_122 (by decide) rfl (L' := [vr a0, vd, vi l2, vi l3, vi (Int.tdiv l4 10), vi l5, vi (l6 + 1)]) rfl ?_
    refine wm_goto (tgt := 68) d_CA_printNumber_125 rfl ?_
    exact h
  clear h
  refine wm_icmp_ge (tgt := 128) d_CA_printNumber_72 rfl hi_l6 ⟨by decide, by decide⟩ (fun c40 => ?_) (fun c40 => ?_)
  · exact hE0 (Or.inl c40)
  · refine wm_iload d_CA_printNumber_75 rfl ?_
    refine wm_if_eq (tgt := 90) d_CA_printNumber_77 rfl hi_l6 (fun c39 => ?_) (fun c39 => ?_)
    · exact hE1 (fun z53 => Or.elim z53 c40 (fun z54 => z54.1 c39))
    · refine wm_iload d_CA_printNumber_80 rfl ?_
      refine wm_if_eq (tgt := 90) d_CA_printNumber_82 rfl hi_l5 (fun c38 => ?_) (fun c38 => ?_)
      · exact hE1 (fun z55 => Or.elim z55 c40 (fun z56 => (fun z57 => z57.1 c38) z56.2))
      · refine wm_iload d_CA_printNumber_85 rfl ?_
        refine wm_if_le (tgt := 128) d_CA_printNumber_87 rfl hi_l4 (fun c37 => ?_) (fun c37 => ?_)
        · exact hE0 (Or.inr ⟨c39, ⟨c38, c37⟩⟩)
        · exact hE1 (fun z58 => Or.elim z58 c40 (fun z59 => (fun z60 => c37 z60.2) z59.2))
theorem k_CA_printNumber_144 {G : mG} {d : Nat} {a0 : Nat} {l3 : Int} {l4 : Int} {M : mM} {Q : mM → Prop} (hO : mOk M) (hi_l3 : i32 l3) (hi_l4 : i32 l4)
    (h : ((l4 ≤ l3) → (Q M)) ∧ (¬ (l4 ≤ l3) → (mK M a0 = 1 ∧ mK M (mR M a0 17) = 32 ∧ ((0 : Int) ≤ l3 ∧ l3 < (mN M (mR M a0 17) : Int)) ∧ ((0 : Int) ≤ l4 ∧ l4 < (mN M (mR M a0 17) : Int)) ∧ ((0 : Int) ≤ l3 ∧ l3 < (mN M (mR M a0 17) : Int)) ∧ ((0 : Int) ≤ mI M (mR M a0 17) (Int.toNat l4) ∧ mI M (mR M a0 17) (Int.toNat l4) < 65536) ∧ ∀ M70, M70 = mUI M (mR M a0 17) (Int.toNat l3) (mI M (mR M a0 17) (Int.toNat l4)) → mK M70 (mR M70 a0 17) = 32 ∧ ((0 : Int) ≤ l4 ∧ l4 < (mN M70 (mR M70 a0 17) : Int)) ∧ ((0 : Int) ≤ mI M (mR M a0 17) (Int.toNat l3) ∧ mI M (mR M a0 17) (Int.toNat l3) < 65536) ∧ ∀ M75, M75 = mUI M70 (mR M70 a0 17) (Int.toNat l4) (mI M (mR M a0 17) (Int.toNat l3)) → h_CA_printNumber_144 G d a0 (l3 + 1) (l4 + (-1)) M75 Q))) :
    h_CA_printNumber_144 G d a0 l3 l4 M Q := by
  unfold h_CA_printNumber_144
  refine wm_iload_n d_CA_printNumber_144 rfl rfl ?_
  refine wm_iload d_CA_printNumber_145 rfl ?_
  refine wm_icmp_ge (tgt := 189) d_CA_printNumber_147 rfl hi_l3 hi_l4 (fun c63 => ?_) (fun c63 => ?_)
  · replace h := h.1 c63
    refine wm_return d_CA_printNumber_189 rfl ?_
    exact ⟨rfl, h⟩
  · replace h := h.2 c63
    obtain ⟨h64, h⟩ := h
    obtain ⟨h65, h⟩ := h
    obtain ⟨h66, h⟩ := h
    obtain ⟨h67, h⟩ := h
    obtain ⟨h68, h⟩ := h
    obtain ⟨h69, h⟩ := h
    obtain ⟨M70, e71⟩ : ∃ M70, M70 = mUI M (mR M a0 17) (Int.toNat l3) (mI M (mR M a0 17) (Int.toNat l4)) := ⟨_, rfl⟩
    replace h := h M70 e71
    obtain ⟨h72, h⟩ := h
    obtain ⟨h73, h⟩ := h
    obtain ⟨h74, h⟩ := h
    obtain ⟨M75, e76⟩ : ∃ M75, M75 = mUI M70 (mR M70 a0 17) (Int.toNat l4) (mI M (mR M a0 17) (Int.toNat l3)) := ⟨_, rfl⟩
    replace h := h M75 e76
    refine wm_aload_n d_CA_printNumber_150 rfl rfl ?_
    refine gf_CA_97 rfl d_CA_printNumber_151 h64 ?_
    refine wm_iload_n d_CA_printNumber_154 rfl rfl ?_
    refine wm_cald d_CA_printNumber_155 h65 h66 ?_
    refine wm_istore d_CA_printNumber_156 (by decide) (L' := [vr a0, vd, vd, vi l3, vi l4, vi (mI M (mR M a0 17) (Int.toNat l3)), vd]) rfl ?_
    refine wm_aload_n d_CA_printNumber_158 rfl rfl ?_
    refine gf_CA_97 rfl d_CA_printNumber_159 h64 ?_
    refine wm_iload_n d_CA_printNumber_162 rfl rfl ?_
    refine wm_aload_n d_CA_printNumber_163 rfl rfl ?_
    refine gf_CA_97 rfl d_CA_printNumber_164 h64 ?_
    refine wm_iload d_CA_printNumber_167 rfl ?_
    refine wm_cald d_CA_printNumber_169 h65 h67 ?_
    have hOM70 : mOk M70 := by rw [e71]; exact mOk_UI hO ⟨by omega, by omega⟩
    refine wm_castE d_CA_printNumber_170 h65 h68 h69 e71 ?_
    refine wm_aload_n d_CA_printNumber_171 rfl rfl ?_
    refine gf_CA_97 rfl d_CA_printNumber_172 (by rw [e71]; exact h64) ?_
    refine wm_iload d_CA_printNumber_175 rfl ?_
    refine wm_iload d_CA_printNumber_177 rfl ?_
    have hOM75 : mOk M75 := by rw [e76]; exact mOk_UI hOM70 ⟨by omega, by omega⟩
    refine wm_castE d_CA_printNumber_179 h72 h73 h74 e76 ?_
    refine wm_iinc d_CA_printNumber_180 (by decide) rfl (L' := [vr a0, vd, vd, vi (l3 + 1), vi l4, vi (mI M (mR M a0 17) (Int.toNat l3)), vd]) rfl ?_
    refine wm_iinc d_CA_printNumber_183 (by decide) rfl (L' := [vr a0, vd, vd, vi (l3 + 1), vi (l4 + (-1)), vi (mI M (mR M a0 17) (Int.toNat l3)), vd]) rfl ?_
    refine wm_goto (tgt := 144) d_CA_printNumber_186 rfl ?_
    refine wm_less (L' := [vr a0, vd, vd, vi (l3 + 1), vi (l4 + (-1)), vd, vd]) ⟨Or.inr rfl, Or.inl rfl, Or.inl rfl, Or.inr rfl, Or.inr rfl, Or.inl rfl, Or.inl rfl, trivial⟩ ?_
    exact h
theorem d_CA_character_0 : decode y_CA_character.2.1 0 = .ok (.iload_n 1, 1) := dc9_27 (by decide +kernel)
theorem d_CA_character_1 : decode y_CA_character.2.1 1 = .ok (.ifCond .lt 11, 3) := dc9_155 (by decide +kernel)
theorem d_CA_character_12 : decode y_CA_character.2.1 12 = .ok (.iconst (-1), 1) := dc9_2 (by decide +kernel)
theorem d_CA_character_13 : decode y_CA_character.2.1 13 = .ok (.goto 9, 3) := dc9_167 (by decide +kernel)
theorem d_CA_character_4 : decode y_CA_character.2.1 4 = .ok (.iload_n 1, 1) := dc9_27 (by decide +kernel)
theorem d_CA_character_5 : decode y_CA_character.2.1 5 = .ok (.aload_n 0, 1) := dc9_42 (by decide +kernel)
theorem d_CA_character_6 : decode y_CA_character.2.1 6 = .ok (.getfield 100, 3) := dc9_180 (by decide +kernel)
theorem d_CA_character_9 : decode y_CA_character.2.1 9 = .ok (.if_icmp .lt 7, 3) := dc9_161 (by decide +kernel)
theorem d_CA_character_16 : decode y_CA_character.2.1 16 = .ok (.aload_n 0, 1) := dc9_42 (by decide +kernel)
theorem d_CA_character_17 : decode y_CA_character.2.1 17 = .ok (.getfield 97, 3) := dc9_180 (by decide +kernel)
theorem d_CA_character_20 : decode y_CA_character.2.1 20 = .ok (.iload_n 1, 1) := dc9_27 (by decide +kernel)
theorem d_CA_character_21 : decode y_CA_character.2.1 21 = .ok (.caload, 1) := dc9_52 (by decide +kernel)
theorem d_CA_character_22 : decode y_CA_character.2.1 22 = .ok (.ireturn, 1) := dc9_172 (by decide +kernel)
theorem k_CA_character {G : mG} {d : Nat} {a0 : Nat} {l1 : Int} {M : mM} {Q : Int → mM → Prop} (hO : mOk M) (hi_l1 : i32 l1)
    (h : (¬ (l1 < 0) → (mK M a0 = 1 ∧ ((l1 < mI M a0 18) → (mK M (mR M a0 17) = 32 ∧ ((0 : Int) ≤ l1 ∧ l1 < (mN M (mR M a0 17) : Int)))))) ∧ ∀ v6 : Int, v6 = (if ((l1 < 0) ∨ (¬ (l1 < mI M a0 18))) then (-1) else mI M (mR M a0 17) (Int.toNat l1)) → Q v6 M) :
    Ci G y_CA_character d [vr a0, vi l1] M Q := by
  refine wm_open (y := y_CA_character) rfl (Nat.le_of_ble_eq_true rfl) (L := [vr a0, vi l1]) rfl ?_
  refine wm_iload_n d_CA_character_0 rfl rfl ?_
  obtain ⟨s7, h⟩ := h
  have hJ : ∀ v6 : Int, v6 = (if ((l1 < 0) ∨ (¬ (l1 < mI M a0 18))) then (-1) else mI M (mR M a0 17) (Int.toNat l1)) → mWm G y_CA_character d 22 [vd, vd] [vi v6] M (fun r9 M9 => ∃ x9, r9 = some (vi x9) ∧ Q x9 M9) := by
    intro v6 e8
    have h := h v6 e8
    refine wm_ireturn d_CA_character_22 rfl rfl ?_
    exact ⟨_, rfl, h⟩
  clear h
  have s9 := s7
  refine wm_if_lt (tgt := 12) d_CA_character_1 rfl hi_l1 (fun c1 => ?_) (fun c1 => ?_)
  · refine wm_iconst d_CA_character_12 ?_
    refine wm_goto (tgt := 22) d_CA_character_13 rfl ?_
    refine wm_less (L' := [vd, vd]) ⟨Or.inl rfl, Or.inl rfl, trivial⟩ ?_
    exact hJ (-1) (if_pos (Or.inl c1)).symm
  · have s9 := s9 c1
    obtain ⟨h2, s10⟩ := s9
    refine wm_iload_n d_CA_character_4 rfl rfl ?_
    refine wm_aload_n d_CA_character_5 rfl rfl ?_
    refine gf_CA_100 rfl d_CA_character_6 h2 ?_
    refine wm_icmp_lt (tgt := 16) d_CA_character_9 rfl hi_l1 (hO _ _).1 (fun c3 => ?_) (fun c3 => ?_)
    · have s10 := s10 c3
      obtain ⟨h4, h5⟩ := s10
      refine wm_aload_n d_CA_character_16 rfl rfl ?_
      refine gf_CA_97 rfl d_CA_character_17 h2 ?_
      refine wm_iload_n d_CA_character_20 rfl rfl ?_
      refine wm_cald d_CA_character_21 h4 h5 ?_
      refine wm_less (L' := [vd, vd]) ⟨Or.inl rfl, Or.inl rfl, trivial⟩ ?_
      exact hJ (mI M (mR M a0 17) (Int.toNat l1)) (if_neg (fun z11 => Or.elim z11 c1 (fun z12 => z12 c3))).symm
    · refine wm_iconst d_CA_character_12 ?_
      refine wm_goto (tgt := 22) d_CA_character_13 rfl ?_
      refine wm_less (L' := [vd, vd]) ⟨Or.inl rfl, Or.inl rfl, trivial⟩ ?_
      exact hJ (-1) (if_pos (Or.inr c3)).symm
theorem d_CA_compare_0 : decode y_CA_compare.2.1 0 = .ok (.aload_n 0, 1) := dc9_42 (by decide +kernel)
theorem d_CA_compare_1 : decode y_CA_compare.2.1 1 = .ok (.iload_n 1, 1) := dc9_27 (by decide +kernel)
theorem d_CA_compare_2 : decode y_CA_compare.2.1 2 = .ok (.iload_n 2, 1) := dc9_28 (by decide +kernel)
theorem d_CA_compare_3 : decode y_CA_compare.2.1 3 = .ok (.invokevirtual 237, 3) := dc9_182 (by decide +kernel)
theorem d_CA_compare_6 : decode y_CA_compare.2.1 6 = .ok (.astore 5, 2) := dc9_58 (by decide +kernel)
theorem d_CA_compare_8 : decode y_CA_compare.2.1 8 = .ok (.aload_n 0, 1) := dc9_42 (by decide +kernel)
theorem d_CA_compare_9 : decode y_CA_compare.2.1 9 = .ok (.iload_n 3, 1) := dc9_29 (by decide +kernel)
theorem d_CA_compare_10 : decode y_CA_compare.2.1 10 = .ok (.iload 4, 2) := dc9_21 (by decide +kernel)
theorem d_CA_compare_12 : decode y_CA_compare.2.1 12 = .ok (.invokevirtual 237, 3) := dc9_182 (by decide +kernel)
theorem d_CA_compare_15 : decode y_CA_compare.2.1 15 = .ok (.astore 6, 2) := dc9_58 (by decide +kernel)
theorem d_CA_compare_17 : decode y_CA_compare.2.1 17 = .ok (.aload 5, 2) := dc9_25 (by decide +kernel)
theorem d_CA_compare_19 : decode y_CA_compare.2.1 19 = .ok (.ifnull 8, 3) := dc9_198 (by decide +kernel)
theorem d_CA_compare_27 : decode y_CA_compare.2.1 27 = .ok (.bipush (-2), 2) := dc9_16 (by decide +kernel)
theorem d_CA_compare_29 : decode y_CA_compare.2.1 29 = .ok (.goto 17, 3) := dc9_167 (by decide +kernel)
theorem d_CA_compare_22 : decode y_CA_compare.2.1 22 = .ok (.aload 6, 2) := dc9_25 (by decide +kernel)
theorem d_CA_compare_24 : decode y_CA_compare.2.1 24 = .ok (.ifnonnull 8, 3) := dc9_199 (by decide +kernel)
theorem d_CA_compare_32 : decode y_CA_compare.2.1 32 = .ok (.aload_n 0, 1) := dc9_42 (by decide +kernel)
theorem d_CA_compare_33 : decode y_CA_compare.2.1 33 = .ok (.getfield 63, 3) := dc9_180 (by decide +kernel)
theorem d_CA_compare_36 : decode y_CA_compare.2.1 36 = .ok (.getfield 216, 3) := dc9_180 (by decide +kernel)
theorem d_CA_compare_39 : decode y_CA_compare.2.1 39 = .ok (.aload 5, 2) := dc9_25 (by decide +kernel)
theorem d_CA_compare_41 : decode y_CA_compare.2.1 41 = .ok (.aload 6, 2) := dc9_25 (by decide +kernel)
theorem d_CA_compare_46 : decode y_CA_compare.2.1 46 = .ok (.ireturn, 1) := dc9_172 (by decide +kernel)
theorem d_CA_compare_43 : decode y_CA_compare.2.1 43 = .ok (.invokevirtual 276, 3) := dc9_182 (by decide +kernel)
theorem k_CA_compare {G : mG} {d : Nat} {a0 : Nat} {l1 : Int} {l2 : Int} {l3 : Int} {l4 : Int} {M : mM} {Q : Int → mM → Prop} (hO : mOk M) (hi_l1 : i32 l1) (hi_l2 : i32 l2) (hi_l3 : i32 l3) (hi_l4 : i32 l4)
    (h : mK M a0 = 1 ∧ Cr G y_CA_fractionOf d [vr a0, vi l1, vi l2] M (fun x3 M2 => mOk M2 ∧ (mK M2 a0 = 1 ∧ Cr G y_CA_fractionOf d [vr a0, vi l3, vi l4] M2 (fun x7 M6 => mOk M6 ∧ ((((x3 = 0) ∨ (x7 = 0)) → (Q (-2) M6)) ∧ (¬ ((x3 = 0) ∨ (x7 = 0)) → (mK M6 a0 = 1 ∧ mK M6 (mR M6 a0 10) = 8 ∧ mK M6 (mR M6 (mR M6 a0 10) 0) = 9 ∧ Ci G y_Sc_order d [vr (mR M6 (mR M6 a0 10) 0), vr x3, vr x7] M6 (fun x22 M21 => i32 x22 ∧ mOk M21 ∧ (Q x22 M21))))))))) :
    Ci G y_CA_compare (d + 1) [vr a0, vi l1, vi l2, vi l3, vi l4] M Q := by
  refine wm_open (y := y_CA_compare) rfl (Nat.le_of_ble_eq_true rfl) (L := [vr a0, vi l1, vi l2, vi l3, vi l4, vd, vd]) rfl ?_
  obtain ⟨h1, h⟩ := h
  refine wm_aload_n d_CA_compare_0 rfl rfl ?_
  refine wm_iload_n d_CA_compare_1 rfl rfl ?_
  refine wm_iload_n d_CA_compare_2 rfl rfl ?_
  refine cf_CA_237 rfl d_CA_compare_3 h1 (Nat.le_of_ble_eq_true rfl) (Cr.mono h (fun x3 M2 h => ?_))
  obtain ⟨hOM2, h⟩ := h
  obtain ⟨h5, h⟩ := h
  refine wm_astore d_CA_compare_6 (by decide) (L' := [vr a0, vi l1, vi l2, vi l3, vi l4, vr x3, vd]) rfl ?_
  refine wm_aload_n d_CA_compare_8 rfl rfl ?_
  refine wm_iload_n d_CA_compare_9 rfl rfl ?_
  refine wm_iload d_CA_compare_10 rfl ?_
  refine cf_CA_237 rfl d_CA_compare_12 h5 (Nat.le_of_ble_eq_true rfl) (Cr.mono h (fun x7 M6 h => ?_))
  obtain ⟨hOM6, h⟩ := h
  refine wm_astore d_CA_compare_15 (by decide) (L' := [vr a0, vi l1, vi l2, vi l3, vi l4, vr x3, vr x7]) rfl ?_
  refine wm_aload d_CA_compare_17 rfl ?_
  have hE0 : ((x3 = 0) ∨ (x7 = 0)) → mWm G y_CA_compare (d + 1) 27 [vr a0, vi l1, vi l2, vi l3, vi l4, vr x3, vr x7] [] M6 (fun r9 M9 => ∃ x9, r9 = some (vi x9) ∧ Q x9 M9) := by
    intro q16
    have h := h.1 q16
    refine wm_bipush d_CA_compare_27 (by decide) ?_
    refine wm_goto (tgt := 46) d_CA_compare_29 rfl ?_
    refine wm_ireturn d_CA_compare_46 rfl rfl ?_
    exact ⟨_, rfl, h⟩
  have hE1 : ¬ ((x3 = 0) ∨ (x7 = 0)) → mWm G y_CA_compare (d + 1) 32 [vr a0, vi l1, vi l2, vi l3, vi l4, vr x3, vr x7] [] M6 (fun r9 M9 => ∃ x9, r9 = some (vi x9) ∧ Q x9 M9) := by
    intro q17
    have h := h.2 q17
    obtain ⟨h18, h⟩ := h
    obtain ⟨h19, h⟩ := h
    obtain ⟨h20, h⟩ := h
    refine wm_aload_n d_CA_compare_32 rfl rfl ?_
    refine gf_CA_63 rfl d_CA_compare_33 h18 ?_
    refine gf_CA_216 rfl d_CA_compare_36 h19 ?_
    refine wm_aload d_CA_compare_39 rfl ?_
    refine wm_aload d_CA_compare_41 rfl ?_
    refine cf_CA_276 rfl d_CA_compare_43 h20 (Nat.le_of_ble_eq_true rfl) (Ci.mono h (fun x22 M21 h => ?_))
    obtain ⟨h23, hOM21, h⟩ := h
    refine wm_ireturn d_CA_compare_46 rfl rfl ?_
    exact ⟨_, rfl, h⟩
  clear h
  refine wm_ifnull (tgt := 27) d_CA_compare_19 rfl (fun c14 => ?_) (fun c14 => ?_)
  · exact hE0 (Or.inl c14)
  · refine wm_aload d_CA_compare_22 rfl ?_
    refine wm_ifnonnull (tgt := 32) d_CA_compare_24 rfl (fun c13 => ?_) (fun c13 => ?_)
    · exact hE1 (fun z24 => Or.elim z24 c14 c13)
    · replace c13 := Classical.not_not.mp c13
      exact hE0 (Or.inr c13)
theorem d_CA_billionths_0 : decode y_CA_billionths.2.1 0 = .ok (.aload_n 0, 1) := dc9_42 (by decide +kernel)
theorem d_CA_billionths_1 : decode y_CA_billionths.2.1 1 = .ok (.iload_n 1, 1) := dc9_27 (by decide +kernel)
theorem d_CA_billionths_2 : decode y_CA_billionths.2.1 2 = .ok (.iload_n 2, 1) := dc9_28 (by decide +kernel)
theorem d_CA_billionths_3 : decode y_CA_billionths.2.1 3 = .ok (.invokevirtual 237, 3) := dc9_182 (by decide +kernel)
theorem d_CA_billionths_6 : decode y_CA_billionths.2.1 6 = .ok (.astore_n 3, 1) := dc9_78 (by decide +kernel)
theorem d_CA_billionths_7 : decode y_CA_billionths.2.1 7 = .ok (.aload_n 3, 1) := dc9_45 (by decide +kernel)
theorem d_CA_billionths_8 : decode y_CA_billionths.2.1 8 = .ok (.ifnonnull 5, 3) := dc9_199 (by decide +kernel)
theorem d_CA_billionths_11 : decode y_CA_billionths.2.1 11 = .ok (.iconst (-1), 1) := dc9_2 (by decide +kernel)
theorem d_CA_billionths_12 : decode y_CA_billionths.2.1 12 = .ok (.ireturn, 1) := dc9_172 (by decide +kernel)
theorem d_CA_billionths_13 : decode y_CA_billionths.2.1 13 = .ok (.aload_n 0, 1) := dc9_42 (by decide +kernel)
theorem d_CA_billionths_14 : decode y_CA_billionths.2.1 14 = .ok (.getfield 93, 3) := dc9_180 (by decide +kernel)
theorem d_CA_billionths_17 : decode y_CA_billionths.2.1 17 = .ok (.aload_n 3, 1) := dc9_45 (by decide +kernel)
theorem d_CA_billionths_18 : decode y_CA_billionths.2.1 18 = .ok (.invokevirtual 241, 3) := dc9_182 (by decide +kernel)
theorem d_CA_billionths_21 : decode y_CA_billionths.2.1 21 = .ok (.aload_n 0, 1) := dc9_42 (by decide +kernel)
theorem d_CA_billionths_22 : decode y_CA_billionths.2.1 22 = .ok (.getfield 86, 3) := dc9_180 (by decide +kernel)
theorem d_CA_billionths_25 : decode y_CA_billionths.2.1 25 = .ok (.aload_n 0, 1) := dc9_42 (by decide +kernel)
theorem d_CA_billionths_26 : decode y_CA_billionths.2.1 26 = .ok (.getfield 93, 3) := dc9_180 (by decide +kernel)
theorem d_CA_billionths_29 : decode y_CA_billionths.2.1 29 = .ok (.getfield 248, 3) := dc9_180 (by decide +kernel)
theorem d_CA_billionths_32 : decode y_CA_billionths.2.1 32 = .ok (.invokevirtual 266, 3) := dc9_182 (by decide +kernel)
theorem d_CA_billionths_35 : decode y_CA_billionths.2.1 35 = .ok (.aload_n 0, 1) := dc9_42 (by decide +kernel)
theorem d_CA_billionths_36 : decode y_CA_billionths.2.1 36 = .ok (.getfield 86, 3) := dc9_180 (by decide +kernel)
theorem d_CA_billionths_39 : decode y_CA_billionths.2.1 39 = .ok (.ldc_w 271, 3) := dc9_19 (by decide +kernel)
theorem d_CA_billionths_42 : decode y_CA_billionths.2.1 42 = .ok (.invokevirtual 280, 3) := dc9_182 (by decide +kernel)
theorem d_CA_billionths_45 : decode y_CA_billionths.2.1 45 = .ok (.aload_n 0, 1) := dc9_42 (by decide +kernel)
theorem d_CA_billionths_46 : decode y_CA_billionths.2.1 46 = .ok (.getfield 63, 3) := dc9_180 (by decide +kernel)
theorem d_CA_billionths_49 : decode y_CA_billionths.2.1 49 = .ok (.getfield 216, 3) := dc9_180 (by decide +kernel)
theorem d_CA_billionths_52 : decode y_CA_billionths.2.1 52 = .ok (.aload_n 0, 1) := dc9_42 (by decide +kernel)
theorem d_CA_billionths_53 : decode y_CA_billionths.2.1 53 = .ok (.getfield 86, 3) := dc9_180 (by decide +kernel)
theorem d_CA_billionths_56 : decode y_CA_billionths.2.1 56 = .ok (.aload_n 0, 1) := dc9_42 (by decide +kernel)
theorem d_CA_billionths_57 : decode y_CA_billionths.2.1 57 = .ok (.getfield 93, 3) := dc9_180 (by decide +kernel)
theorem d_CA_billionths_60 : decode y_CA_billionths.2.1 60 = .ok (.getfield 255, 3) := dc9_180 (by decide +kernel)
theorem d_CA_billionths_63 : decode y_CA_billionths.2.1 63 = .ok (.invokevirtual 283, 3) := dc9_182 (by decide +kernel)
theorem d_CA_billionths_66 : decode y_CA_billionths.2.1 66 = .ok (.ireturn, 1) := dc9_172 (by decide +kernel)
theorem k_CA_billionths {G : mG} {d : Nat} {a0 : Nat} {l1 : Int} {l2 : Int} {M : mM} {Q : Int → mM → Prop} (hO : mOk M) (hi_l1 : i32 l1) (hi_l2 : i32 l2)
    (h : mK M a0 = 1 ∧ Cr G y_CA_fractionOf d [vr a0, vi l1, vi l2] M (fun x3 M2 => mOk M2 ∧ (((x3 = 0) → (Q (-1) M2)) ∧ (¬ (x3 = 0) → (mK M2 a0 = 1 ∧ mK M2 (mR M2 a0 16) = 11 ∧ Cv G y_Fr_put1 d [vr (mR M2 a0 16), vr x3] M2 (fun M9 => mOk M9 ∧ (mK M9 a0 = 1 ∧ mK M9 (mR M9 a0 16) = 11 ∧ mK M9 (mR M9 a0 15) = 10 ∧ Cv G y_Na_put1 d [vr (mR M9 a0 15), vr (mR M9 (mR M9 a0 16) 0)] M9 (fun M15 => mOk M15 ∧ (mK M15 a0 = 1 ∧ mK M15 (mR M15 a0 15) = 10 ∧ Cv G y_Na_multiply d [vr (mR M15 a0 15), vi 1000000000] M15 (fun M20 => mOk M20 ∧ (mK M20 a0 = 1 ∧ mK M20 (mR M20 a0 10) = 8 ∧ mK M20 (mR M20 a0 16) = 11 ∧ mK M20 (mR M20 (mR M20 a0 10) 0) = 9 ∧ Ci G y_Sc_wholePart d [vr (mR M20 (mR M20 a0 10) 0), vr (mR M20 a0 15), vr (mR M20 (mR M20 a0 16) 1)] M20 (fun x28 M27 => i32 x28 ∧ mOk M27 ∧ (Q x28 M27))))))))))))) :
    Ci G y_CA_billionths (d + 1) [vr a0, vi l1, vi l2] M Q := by
  refine wm_open (y := y_CA_billionths) rfl (Nat.le_of_ble_eq_true rfl) (L := [vr a0, vi l1, vi l2, vd]) rfl ?_
  obtain ⟨h1, h⟩ := h
  refine wm_aload_n d_CA_billionths_0 rfl rfl ?_
  refine wm_iload_n d_CA_billionths_1 rfl rfl ?_
  refine wm_iload_n d_CA_billionths_2 rfl rfl ?_
  refine cf_CA_237 rfl d_CA_billionths_3 h1 (Nat.le_of_ble_eq_true rfl) (Cr.mono h (fun x3 M2 h => ?_))
  obtain ⟨hOM2, h⟩ := h
  refine wm_astore_n d_CA_billionths_6 rfl (by decide) (L' := [vr a0, vi l1, vi l2, vr x3]) rfl ?_
  refine wm_aload_n d_CA_billionths_7 rfl rfl ?_
  refine wm_ifnonnull (tgt := 13) d_CA_billionths_8 rfl (fun c6 => ?_) (fun c6 => ?_)
  · replace h := h.2 c6
    obtain ⟨h7, h⟩ := h
    obtain ⟨h8, h⟩ := h
    refine wm_aload_n d_CA_billionths_13 rfl rfl ?_
    refine gf_CA_93 rfl d_CA_billionths_14 h7 ?_
    refine wm_aload_n d_CA_billionths_17 rfl rfl ?_
    refine cf_CA_241 rfl d_CA_billionths_18 h8 (Nat.le_of_ble_eq_true rfl) (Cv.mono h (fun M9 h => ?_))
    obtain ⟨hOM9, h⟩ := h
    obtain ⟨h12, h⟩ := h
    obtain ⟨h13, h⟩ := h
    obtain ⟨h14, h⟩ := h
    refine wm_aload_n d_CA_billionths_21 rfl rfl ?_
    refine gf_CA_86 rfl d_CA_billionths_22 h12 ?_
    refine wm_aload_n d_CA_billionths_25 rfl rfl ?_
    refine gf_CA_93 rfl d_CA_billionths_26 h12 ?_
    refine gf_CA_248 rfl d_CA_billionths_29 h13 ?_
    refine cf_CA_266 rfl d_CA_billionths_32 h14 (Nat.le_of_ble_eq_true rfl) (Cv.mono h (fun M15 h => ?_))
    obtain ⟨hOM15, h⟩ := h
    obtain ⟨h18, h⟩ := h
    obtain ⟨h19, h⟩ := h
    refine wm_aload_n d_CA_billionths_35 rfl rfl ?_
    refine gf_CA_86 rfl d_CA_billionths_36 h18 ?_
    refine wm_ldcw (x := 1000000000) d_CA_billionths_39 k7_101 (by decide) ?_
    refine cf_CA_280 rfl d_CA_billionths_42 h19 (Nat.le_of_ble_eq_true rfl) (Cv.mono h (fun M20 h => ?_))
    obtain ⟨hOM20, h⟩ := h
    obtain ⟨h23, h⟩ := h
    obtain ⟨h24, h⟩ := h
    obtain ⟨h25, h⟩ := h
    obtain ⟨h26, h⟩ := h
    refine wm_aload_n d_CA_billionths_45 rfl rfl ?_
    refine gf_CA_63 rfl d_CA_billionths_46 h23 ?_
    refine gf_CA_216 rfl d_CA_billionths_49 h24 ?_
    refine wm_aload_n d_CA_billionths_52 rfl rfl ?_
    refine gf_CA_86 rfl d_CA_billionths_53 h23 ?_
    refine wm_aload_n d_CA_billionths_56 rfl rfl ?_
    refine gf_CA_93 rfl d_CA_billionths_57 h23 ?_
    refine gf_CA_255 rfl d_CA_billionths_60 h25 ?_
    refine cf_CA_283 rfl d_CA_billionths_63 h26 (Nat.le_of_ble_eq_true rfl) (Ci.mono h (fun x28 M27 h => ?_))
    obtain ⟨h29, hOM27, h⟩ := h
    refine wm_ireturn d_CA_billionths_66 rfl rfl ?_
    exact ⟨_, rfl, h⟩
  · replace c6 := Classical.not_not.mp c6
    replace h := h.1 c6
    refine wm_iconst d_CA_billionths_11 ?_
    refine wm_ireturn d_CA_billionths_12 rfl rfl ?_
    exact ⟨_, rfl, h⟩
theorem d_CA_choice_0 : decode y_CA_choice.2.1 0 = .ok (.aload_n 0, 1) := dc9_42 (by decide +kernel)
theorem d_CA_choice_1 : decode y_CA_choice.2.1 1 = .ok (.getfield 70, 3) := dc9_180 (by decide +kernel)
theorem d_CA_choice_4 : decode y_CA_choice.2.1 4 = .ok (.getfield 137, 3) := dc9_180 (by decide +kernel)
theorem d_CA_choice_7 : decode y_CA_choice.2.1 7 = .ok (.ifCond .eq 26, 3) := dc9_153 (by decide +kernel)
theorem d_CA_choice_33 : decode y_CA_choice.2.1 33 = .ok (.iconst (-1), 1) := dc9_2 (by decide +kernel)
theorem d_CA_choice_10 : decode y_CA_choice.2.1 10 = .ok (.aload_n 0, 1) := dc9_42 (by decide +kernel)
theorem d_CA_choice_11 : decode y_CA_choice.2.1 11 = .ok (.getfield 54, 3) := dc9_180 (by decide +kernel)
theorem d_CA_choice_14 : decode y_CA_choice.2.1 14 = .ok (.iload_n 1, 1) := dc9_27 (by decide +kernel)
theorem d_CA_choice_34 : decode y_CA_choice.2.1 34 = .ok (.ireturn, 1) := dc9_172 (by decide +kernel)
theorem d_CA_choice_15 : decode y_CA_choice.2.1 15 = .ok (.invokevirtual 163, 3) := dc9_182 (by decide +kernel)
theorem d_CA_choice_18 : decode y_CA_choice.2.1 18 = .ok (.ifCond .eq 15, 3) := dc9_153 (by decide +kernel)
theorem d_CA_choice_21 : decode y_CA_choice.2.1 21 = .ok (.aload_n 0, 1) := dc9_42 (by decide +kernel)
theorem d_CA_choice_22 : decode y_CA_choice.2.1 22 = .ok (.getfield 63, 3) := dc9_180 (by decide +kernel)
theorem d_CA_choice_25 : decode y_CA_choice.2.1 25 = .ok (.getfield 229, 3) := dc9_180 (by decide +kernel)
theorem d_CA_choice_28 : decode y_CA_choice.2.1 28 = .ok (.iload_n 1, 1) := dc9_27 (by decide +kernel)
theorem d_CA_choice_29 : decode y_CA_choice.2.1 29 = .ok (.iaload, 1) := dc9_46 (by decide +kernel)
theorem d_CA_choice_30 : decode y_CA_choice.2.1 30 = .ok (.goto 4, 3) := dc9_167 (by decide +kernel)
theorem k_CA_choice {G : mG} {d : Nat} {a0 : Nat} {l1 : Int} {M : mM} {Q : Int → mM → Prop} (hO : mOk M) (hi_l1 : i32 l1)
    (h : mK M a0 = 1 ∧ mK M (mR M a0 11) = 13 ∧ ((mI M (mR M a0 11) 1 = 0) → (Q (-1) M)) ∧ (¬ (mI M (mR M a0 11) 1 = 0) → (mK M (mR M a0 9) = 7 ∧ Ci G y_Ga_hasState d [vr (mR M a0 9), vi l1] M (fun x8 M7 => i32 x8 ∧ mOk M7 ∧ ((¬ (x8 = 0) → (mK M7 a0 = 1 ∧ mK M7 (mR M7 a0 10) = 8 ∧ mK M7 (mR M7 (mR M7 a0 10) 2) = 30 ∧ ((0 : Int) ≤ l1 ∧ l1 < (mN M7 (mR M7 (mR M7 a0 10) 2) : Int)))) ∧ ∀ v15 : Int, v15 = (if (x8 = 0) then (-1) else mI M7 (mR M7 (mR M7 a0 10) 2) (Int.toNat l1)) → Q v15 M7))))) :
    Ci G y_CA_choice (d + 1) [vr a0, vi l1] M Q := by
  refine wm_open (y := y_CA_choice) rfl (Nat.le_of_ble_eq_true rfl) (L := [vr a0, vi l1]) rfl ?_
  obtain ⟨h1, h⟩ := h
  obtain ⟨h2, h⟩ := h
  refine wm_aload_n d_CA_choice_0 rfl rfl ?_
  refine gf_CA_70 rfl d_CA_choice_1 h1 ?_
  refine gf_CA_137 rfl d_CA_choice_4 h2 ?_
  refine wm_if_eq (tgt := 33) d_CA_choice_7 rfl (hO _ _).1 (fun c5 => ?_) (fun c5 => ?_)
  · replace h := h.1 c5
    refine wm_iconst d_CA_choice_33 ?_
    refine wm_ireturn d_CA_choice_34 rfl rfl ?_
    exact ⟨_, rfl, h⟩
  · replace h := h.2 c5
    obtain ⟨h6, h⟩ := h
    refine wm_aload_n d_CA_choice_10 rfl rfl ?_
    refine gf_CA_54 rfl d_CA_choice_11 h1 ?_
    refine wm_iload_n d_CA_choice_14 rfl rfl ?_
    refine cf_CA_163 rfl d_CA_choice_15 h6 (Nat.le_of_ble_eq_true rfl) (Ci.mono h (fun x8 M7 h => ?_))
    obtain ⟨h9, hOM7, h⟩ := h
    obtain ⟨s16, h⟩ := h
    have hJ : ∀ v15 : Int, v15 = (if (x8 = 0) then (-1) else mI M7 (mR M7 (mR M7 a0 10) 2) (Int.toNat l1)) → mWm G y_CA_choice (d + 1) 34 [vd, vd] [vi v15] M7 (fun r9 M9 => ∃ x9, r9 = some (vi x9) ∧ Q x9 M9) := by
      intro v15 e17
      have h := h v15 e17
      refine wm_ireturn d_CA_choice_34 rfl rfl ?_
      exact ⟨_, rfl, h⟩
    clear h
    have s18 := s16
    refine wm_if_eq (tgt := 33) d_CA_choice_18 rfl h9 (fun c10 => ?_) (fun c10 => ?_)
    · refine wm_iconst d_CA_choice_33 ?_
      refine wm_less (L' := [vd, vd]) ⟨Or.inl rfl, Or.inl rfl, trivial⟩ ?_
      exact hJ (-1) (if_pos c10).symm
    · have s18 := s18 c10
      obtain ⟨h11, h12, h13, h14⟩ := s18
      refine wm_aload_n d_CA_choice_21 rfl rfl ?_
      refine gf_CA_63 rfl d_CA_choice_22 h11 ?_
      refine gf_CA_229 rfl d_CA_choice_25 h12 ?_
      refine wm_iload_n d_CA_choice_28 rfl rfl ?_
      refine wm_iald d_CA_choice_29 h13 h14 ?_
      refine wm_goto (tgt := 34) d_CA_choice_30 rfl ?_
      refine wm_less (L' := [vd, vd]) ⟨Or.inl rfl, Or.inl rfl, trivial⟩ ?_
      exact hJ (mI M7 (mR M7 (mR M7 a0 10) 2) (Int.toNat l1)) (if_neg c10).symm
theorem d_CA_rank_0 : decode y_CA_rank.2.1 0 = .ok (.aload_n 0, 1) := dc9_42 (by decide +kernel)
theorem d_CA_rank_1 : decode y_CA_rank.2.1 1 = .ok (.getfield 70, 3) := dc9_180 (by decide +kernel)
theorem d_CA_rank_4 : decode y_CA_rank.2.1 4 = .ok (.getfield 137, 3) := dc9_180 (by decide +kernel)
theorem d_CA_rank_7 : decode y_CA_rank.2.1 7 = .ok (.ifCond .eq 26, 3) := dc9_153 (by decide +kernel)
theorem d_CA_rank_33 : decode y_CA_rank.2.1 33 = .ok (.iconst (-1), 1) := dc9_2 (by decide +kernel)
theorem d_CA_rank_10 : decode y_CA_rank.2.1 10 = .ok (.aload_n 0, 1) := dc9_42 (by decide +kernel)
theorem d_CA_rank_11 : decode y_CA_rank.2.1 11 = .ok (.getfield 54, 3) := dc9_180 (by decide +kernel)
theorem d_CA_rank_14 : decode y_CA_rank.2.1 14 = .ok (.iload_n 1, 1) := dc9_27 (by decide +kernel)
theorem d_CA_rank_34 : decode y_CA_rank.2.1 34 = .ok (.ireturn, 1) := dc9_172 (by decide +kernel)
theorem d_CA_rank_15 : decode y_CA_rank.2.1 15 = .ok (.invokevirtual 163, 3) := dc9_182 (by decide +kernel)
theorem d_CA_rank_18 : decode y_CA_rank.2.1 18 = .ok (.ifCond .eq 15, 3) := dc9_153 (by decide +kernel)
theorem d_CA_rank_21 : decode y_CA_rank.2.1 21 = .ok (.aload_n 0, 1) := dc9_42 (by decide +kernel)
theorem d_CA_rank_22 : decode y_CA_rank.2.1 22 = .ok (.getfield 63, 3) := dc9_180 (by decide +kernel)
theorem d_CA_rank_25 : decode y_CA_rank.2.1 25 = .ok (.getfield 287, 3) := dc9_180 (by decide +kernel)
theorem d_CA_rank_28 : decode y_CA_rank.2.1 28 = .ok (.iload_n 1, 1) := dc9_27 (by decide +kernel)
theorem d_CA_rank_29 : decode y_CA_rank.2.1 29 = .ok (.iaload, 1) := dc9_46 (by decide +kernel)
theorem d_CA_rank_30 : decode y_CA_rank.2.1 30 = .ok (.goto 4, 3) := dc9_167 (by decide +kernel)
theorem k_CA_rank {G : mG} {d : Nat} {a0 : Nat} {l1 : Int} {M : mM} {Q : Int → mM → Prop} (hO : mOk M) (hi_l1 : i32 l1)
    (h : mK M a0 = 1 ∧ mK M (mR M a0 11) = 13 ∧ ((mI M (mR M a0 11) 1 = 0) → (Q (-1) M)) ∧ (¬ (mI M (mR M a0 11) 1 = 0) → (mK M (mR M a0 9) = 7 ∧ Ci G y_Ga_hasState d [vr (mR M a0 9), vi l1] M (fun x8 M7 => i32 x8 ∧ mOk M7 ∧ ((¬ (x8 = 0) → (mK M7 a0 = 1 ∧ mK M7 (mR M7 a0 10) = 8 ∧ mK M7 (mR M7 (mR M7 a0 10) 1) = 30 ∧ ((0 : Int) ≤ l1 ∧ l1 < (mN M7 (mR M7 (mR M7 a0 10) 1) : Int)))) ∧ ∀ v15 : Int, v15 = (if (x8 = 0) then (-1) else mI M7 (mR M7 (mR M7 a0 10) 1) (Int.toNat l1)) → Q v15 M7))))) :
    Ci G y_CA_rank (d + 1) [vr a0, vi l1] M Q := by
  refine wm_open (y := y_CA_rank) rfl (Nat.le_of_ble_eq_true rfl) (L := [vr a0, vi l1]) rfl ?_
  obtain ⟨h1, h⟩ := h
  obtain ⟨h2, h⟩ := h
  refine wm_aload_n d_CA_rank_0 rfl rfl ?_
  refine gf_CA_70 rfl d_CA_rank_1 h1 ?_
  refine gf_CA_137 rfl d_CA_rank_4 h2 ?_
  refine wm_if_eq (tgt := 33) d_CA_rank_7 rfl (hO _ _).1 (fun c5 => ?_) (fun c5 => ?_)
  · replace h := h.1 c5
    refine wm_iconst d_CA_rank_33 ?_
    refine wm_ireturn d_CA_rank_34 rfl rfl ?_
    exact ⟨_, rfl, h⟩
  · replace h := h.2 c5
    obtain ⟨h6, h⟩ := h
    refine wm_aload_n d_CA_rank_10 rfl rfl ?_
    refine gf_CA_54 rfl d_CA_rank_11 h1 ?_
    refine wm_iload_n d_CA_rank_14 rfl rfl ?_
    refine cf_CA_163 rfl d_CA_rank_15 h6 (Nat.le_of_ble_eq_true rfl) (Ci.mono h (fun x8 M7 h => ?_))
    obtain ⟨h9, hOM7, h⟩ := h
    obtain ⟨s16, h⟩ := h
    have hJ : ∀ v15 : Int, v15 = (if (x8 = 0) then (-1) else mI M7 (mR M7 (mR M7 a0 10) 1) (Int.toNat l1)) → mWm G y_CA_rank (d + 1) 34 [vd, vd] [vi v15] M7 (fun r9 M9 => ∃ x9, r9 = some (vi x9) ∧ Q x9 M9) := by
      intro v15 e17
      have h := h v15 e17
      refine wm_ireturn d_CA_rank_34 rfl rfl ?_
      exact ⟨_, rfl, h⟩
    clear h
    have s18 := s16
    refine wm_if_eq (tgt := 33) d_CA_rank_18 rfl h9 (fun c10 => ?_) (fun c10 => ?_)
    · refine wm_iconst d_CA_rank_33 ?_
      refine wm_less (L' := [vd, vd]) ⟨Or.inl rfl, Or.inl rfl, trivial⟩ ?_
      exact hJ (-1) (if_pos c10).symm
    · have s18 := s18 c10
      obtain ⟨h11, h12, h13, h14⟩ := s18
      refine wm_aload_n d_CA_rank_21 rfl rfl ?_
      refine gf_CA_63 rfl d_CA_rank_22 h11 ?_
      refine gf_CA_287 rfl d_CA_rank_25 h12 ?_
      refine wm_iload_n d_CA_rank_28 rfl rfl ?_
      refine wm_iald d_CA_rank_29 h13 h14 ?_
      refine wm_goto (tgt := 34) d_CA_rank_30 rfl ?_
      refine wm_less (L' := [vd, vd]) ⟨Or.inl rfl, Or.inl rfl, trivial⟩ ?_
      exact hJ (mI M7 (mR M7 (mR M7 a0 10) 1) (Int.toNat l1)) (if_neg c10).symm
theorem d_CA_next_0 : decode y_CA_next.2.1 0 = .ok (.aload_n 0, 1) := dc9_42 (by decide +kernel)
theorem d_CA_next_1 : decode y_CA_next.2.1 1 = .ok (.getfield 54, 3) := dc9_180 (by decide +kernel)
theorem d_CA_next_4 : decode y_CA_next.2.1 4 = .ok (.iload_n 1, 1) := dc9_27 (by decide +kernel)
theorem d_CA_next_5 : decode y_CA_next.2.1 5 = .ok (.invokevirtual 163, 3) := dc9_182 (by decide +kernel)
theorem d_CA_next_8 : decode y_CA_next.2.1 8 = .ok (.ifCond .eq 7, 3) := dc9_153 (by decide +kernel)
theorem d_CA_next_11 : decode y_CA_next.2.1 11 = .ok (.iload_n 2, 1) := dc9_28 (by decide +kernel)
theorem d_CA_next_12 : decode y_CA_next.2.1 12 = .ok (.ifCond .ge 5, 3) := dc9_156 (by decide +kernel)
theorem d_CA_next_17 : decode y_CA_next.2.1 17 = .ok (.aload_n 0, 1) := dc9_42 (by decide +kernel)
theorem d_CA_next_18 : decode y_CA_next.2.1 18 = .ok (.getfield 54, 3) := dc9_180 (by decide +kernel)
theorem d_CA_next_21 : decode y_CA_next.2.1 21 = .ok (.iload_n 1, 1) := dc9_27 (by decide +kernel)
theorem d_CA_next_22 : decode y_CA_next.2.1 22 = .ok (.aload_n 0, 1) := dc9_42 (by decide +kernel)
theorem d_CA_next_23 : decode y_CA_next.2.1 23 = .ok (.getfield 54, 3) := dc9_180 (by decide +kernel)
theorem d_CA_next_26 : decode y_CA_next.2.1 26 = .ok (.getfield 226, 3) := dc9_180 (by decide +kernel)
theorem d_CA_next_29 : decode y_CA_next.2.1 29 = .ok (.iload_n 1, 1) := dc9_27 (by decide +kernel)
theorem d_CA_next_30 : decode y_CA_next.2.1 30 = .ok (.iaload, 1) := dc9_46 (by decide +kernel)
theorem d_CA_next_15 : decode y_CA_next.2.1 15 = .ok (.iconst (-1), 1) := dc9_2 (by decide +kernel)
theorem d_CA_next_16 : decode y_CA_next.2.1 16 = .ok (.ireturn, 1) := dc9_172 (by decide +kernel)
theorem d_CA_next_31 : decode y_CA_next.2.1 31 = .ok (.invokevirtual 180, 3) := dc9_182 (by decide +kernel)
theorem d_CA_next_34 : decode y_CA_next.2.1 34 = .ok (.istore_n 3, 1) := dc9_62 (by decide +kernel)
theorem d_CA_next_35 : decode y_CA_next.2.1 35 = .ok (.iload_n 3, 1) := dc9_29 (by decide +kernel)
theorem d_CA_next_36 : decode y_CA_next.2.1 36 = .ok (.iconst (-1), 1) := dc9_2 (by decide +kernel)
theorem d_CA_next_37 : decode y_CA_next.2.1 37 = .ok (.if_icmp .ne 7, 3) := dc9_160 (by decide +kernel)
theorem d_CA_next_40 : decode y_CA_next.2.1 40 = .ok (.iload_n 1, 1) := dc9_27 (by decide +kernel)
theorem d_CA_next_41 : decode y_CA_next.2.1 41 = .ok (.goto 12, 3) := dc9_167 (by decide +kernel)
theorem d_CA_next_44 : decode y_CA_next.2.1 44 = .ok (.aload_n 0, 1) := dc9_42 (by decide +kernel)
theorem d_CA_next_45 : decode y_CA_next.2.1 45 = .ok (.getfield 54, 3) := dc9_180 (by decide +kernel)
theorem d_CA_next_48 : decode y_CA_next.2.1 48 = .ok (.iload_n 3, 1) := dc9_29 (by decide +kernel)
theorem d_CA_next_49 : decode y_CA_next.2.1 49 = .ok (.iload_n 2, 1) := dc9_28 (by decide +kernel)
theorem d_CA_next_53 : decode y_CA_next.2.1 53 = .ok (.ireturn, 1) := dc9_172 (by decide +kernel)
theorem d_CA_next_50 : decode y_CA_next.2.1 50 = .ok (.invokevirtual 290, 3) := dc9_182 (by decide +kernel)
theorem k_CA_next {G : mG} {d : Nat} {a0 : Nat} {l1 : Int} {l2 : Int} {M : mM} {Q : Int → mM → Prop} (hO : mOk M) (hi_l1 : i32 l1) (hi_l2 : i32 l2)
    (h : mK M a0 = 1 ∧ mK M (mR M a0 9) = 7 ∧ Ci G y_Ga_hasState d [vr (mR M a0 9), vi l1] M (fun x4 M3 => i32 x4 ∧ mOk M3 ∧ ((((x4 = 0) ∨ (¬ (0 ≤ l2))) → (Q (-1) M3)) ∧ (¬ ((x4 = 0) ∨ (¬ (0 ≤ l2))) → (mK M3 a0 = 1 ∧ mK M3 (mR M3 a0 9) = 7 ∧ mK M3 (mR M3 (mR M3 a0 9) 3) = 30 ∧ ((0 : Int) ≤ l1 ∧ l1 < (mN M3 (mR M3 (mR M3 a0 9) 3) : Int)) ∧ Ci G y_Ga_commandAt d [vr (mR M3 a0 9), vi l1, vi (mI M3 (mR M3 (mR M3 a0 9) 3) (Int.toNat l1))] M3 (fun x16 M15 => i32 x16 ∧ mOk M15 ∧ (((x16 = (-1)) → (Q l1 M15)) ∧ (¬ (x16 = (-1)) → (mK M15 a0 = 1 ∧ mK M15 (mR M15 a0 9) = 7 ∧ Ci G y_Ga_drawn d [vr (mR M15 a0 9), vi x16, vi l2] M15 (fun x25 M24 => i32 x25 ∧ mOk M24 ∧ (Q x25 M24))))))))))) :
    Ci G y_CA_next (d + 1) [vr a0, vi l1, vi l2] M Q := by
  refine wm_open (y := y_CA_next) rfl (Nat.le_of_ble_eq_true rfl) (L := [vr a0, vi l1, vi l2, vd]) rfl ?_
  obtain ⟨h1, h⟩ := h
  obtain ⟨h2, h⟩ := h
  refine wm_aload_n d_CA_next_0 rfl rfl ?_
  refine gf_CA_54 rfl d_CA_next_1 h1 ?_
  refine wm_iload_n d_CA_next_4 rfl rfl ?_
  refine cf_CA_163 rfl d_CA_next_5 h2 (Nat.le_of_ble_eq_true rfl) (Ci.mono h (fun x4 M3 h => ?_))
  obtain ⟨h5, hOM3, h⟩ := h
  have hE0 : ((x4 = 0) ∨ (¬ (0 ≤ l2))) → mWm G y_CA_next (d + 1) 15 [vr a0, vi l1, vi l2, vd] [] M3 (fun r9 M9 => ∃ x9, r9 = some (vi x9) ∧ Q x9 M9) := by
    intro q9
    have h := h.1 q9
    refine wm_iconst d_CA_next_15 ?_
    refine wm_ireturn d_CA_next_16 rfl rfl ?_
    exact ⟨_, rfl, h⟩
  have hE1 : ¬ ((x4 = 0) ∨ (¬ (0 ≤ l2))) → mWm G y_CA_next (d + 1) 17 [vr a0, vi l1, vi l2, vd] [] M3 (fun r9 M9 => ∃ x9, r9 = some (vi x9) ∧ Q x9 M9) := by
    intro q10
    have h := h.2 q10
    obtain ⟨h11, h⟩ := h
    obtain ⟨h12, h⟩ := h
    obtain ⟨h13, h⟩ := h
    obtain ⟨h14, h⟩ := h
    refine wm_aload_n d_CA_next_17 rfl rfl ?_
    refine gf_CA_54 rfl d_CA_next_18 h11 ?_
    refine wm_iload_n d_CA_next_21 rfl rfl ?_
    refine wm_aload_n d_CA_next_22 rfl rfl ?_
    refine gf_CA_54 rfl d_CA_next_23 h11 ?_
    refine gf_CA_226 rfl d_CA_next_26 h12 ?_
    refine wm_iload_n d_CA_next_29 rfl rfl ?_
    refine wm_iald d_CA_next_30 h13 h14 ?_
    refine cf_CA_180 rfl d_CA_next_31 h12 (Nat.le_of_ble_eq_true rfl) (Ci.mono h (fun x16 M15 h => ?_))
    obtain ⟨h17, hOM15, h⟩ := h
    refine wm_istore_n d_CA_next_34 rfl (by decide) (L' := [vr a0, vi l1, vi l2, vi x16]) rfl ?_
    refine wm_iload_n d_CA_next_35 rfl rfl ?_
    refine wm_iconst d_CA_next_36 ?_
    refine wm_icmp_ne (tgt := 44) d_CA_next_37 rfl h17 ⟨by decide, by decide⟩ (fun c21 => ?_) (fun c21 => ?_)
    · replace h := h.2 c21
      obtain ⟨h22, h⟩ := h
      obtain ⟨h23, h⟩ := h
      refine wm_aload_n d_CA_next_44 rfl rfl ?_
      refine gf_CA_54 rfl d_CA_next_45 h22 ?_
      refine wm_iload_n d_CA_next_48 rfl rfl ?_
      refine wm_iload_n d_CA_next_49 rfl rfl ?_
      refine cf_CA_290 rfl d_CA_next_50 h23 (Nat.le_of_ble_eq_true rfl) (Ci.mono h (fun x25 M24 h => ?_))
      obtain ⟨h26, hOM24, h⟩ := h
      refine wm_ireturn d_CA_next_53 rfl rfl ?_
      exact ⟨_, rfl, h⟩
    · replace c21 := Classical.not_not.mp c21
      replace h := h.1 c21
      refine wm_iload_n d_CA_next_40 rfl rfl ?_
      refine wm_goto (tgt := 53) d_CA_next_41 rfl ?_
      refine wm_ireturn d_CA_next_53 rfl rfl ?_
      exact ⟨_, rfl, h⟩
  clear h
  refine wm_if_eq (tgt := 15) d_CA_next_8 rfl h5 (fun c7 => ?_) (fun c7 => ?_)
  · exact hE0 (Or.inl c7)
  · refine wm_iload_n d_CA_next_11 rfl rfl ?_
    refine wm_if_ge (tgt := 17) d_CA_next_12 rfl hi_l2 (fun c6 => ?_) (fun c6 => ?_)
    · exact hE1 (fun z27 => Or.elim z27 c7 (fun z28 => z28 c6))
    · exact hE0 (Or.inr c6)
theorem d_CA_check_0 : decode y_CA_check.2.1 0 = .ok (.aload_n 0, 1) := dc9_42 (by decide +kernel)
theorem d_CA_check_1 : decode y_CA_check.2.1 1 = .ok (.getfield 70, 3) := dc9_180 (by decide +kernel)
theorem d_CA_check_4 : decode y_CA_check.2.1 4 = .ok (.getfield 137, 3) := dc9_180 (by decide +kernel)
theorem d_CA_check_7 : decode y_CA_check.2.1 7 = .ok (.ifCond .ne 5, 3) := dc9_154 (by decide +kernel)
theorem d_CA_check_10 : decode y_CA_check.2.1 10 = .ok (.iconst (-1), 1) := dc9_2 (by decide +kernel)
theorem d_CA_check_11 : decode y_CA_check.2.1 11 = .ok (.ireturn, 1) := dc9_172 (by decide +kernel)
theorem d_CA_check_12 : decode y_CA_check.2.1 12 = .ok (.aload_n 0, 1) := dc9_42 (by decide +kernel)
theorem d_CA_check_13 : decode y_CA_check.2.1 13 = .ok (.getfield 63, 3) := dc9_180 (by decide +kernel)
theorem d_CA_check_16 : decode y_CA_check.2.1 16 = .ok (.aload_n 0, 1) := dc9_42 (by decide +kernel)
theorem d_CA_check_17 : decode y_CA_check.2.1 17 = .ok (.getfield 70, 3) := dc9_180 (by decide +kernel)
theorem d_CA_check_20 : decode y_CA_check.2.1 20 = .ok (.invokevirtual 293, 3) := dc9_182 (by decide +kernel)
theorem d_CA_check_23 : decode y_CA_check.2.1 23 = .ok (.ifCond .eq 7, 3) := dc9_153 (by decide +kernel)
theorem d_CA_check_30 : decode y_CA_check.2.1 30 = .ok (.iconst 0, 1) := dc9_3 (by decide +kernel)
theorem d_CA_check_26 : decode y_CA_check.2.1 26 = .ok (.iconst 1, 1) := dc9_4 (by decide +kernel)
theorem d_CA_check_27 : decode y_CA_check.2.1 27 = .ok (.goto 4, 3) := dc9_167 (by decide +kernel)
theorem d_CA_check_31 : decode y_CA_check.2.1 31 = .ok (.ireturn, 1) := dc9_172 (by decide +kernel)
theorem k_CA_check {G : mG} {d : Nat} {a0 : Nat} {M : mM} {Q : Int → mM → Prop} (hO : mOk M)
    (h : mK M a0 = 1 ∧ mK M (mR M a0 11) = 13 ∧ ((mI M (mR M a0 11) 1 = 0) → (Q (-1) M)) ∧ (¬ (mI M (mR M a0 11) 1 = 0) → (mK M (mR M a0 10) = 8 ∧ Ci G y_So_holds d [vr (mR M a0 10), vr (mR M a0 11)] M (fun x7 M6 => i32 x7 ∧ mOk M6 ∧ (∀ v10 : Int, v10 = (if (x7 = 0) then 0 else 1) → Q v10 M6))))) :
    Ci G y_CA_check (d + 1) [vr a0] M Q := by
  refine wm_open (y := y_CA_check) rfl (Nat.le_of_ble_eq_true rfl) (L := [vr a0]) rfl ?_
  obtain ⟨h1, h⟩ := h
  obtain ⟨h2, h⟩ := h
  refine wm_aload_n d_CA_check_0 rfl rfl ?_
  refine gf_CA_70 rfl d_CA_check_1 h1 ?_
  refine gf_CA_137 rfl d_CA_check_4 h2 ?_
  refine wm_if_ne (tgt := 12) d_CA_check_7 rfl (hO _ _).1 (fun c4 => ?_) (fun c4 => ?_)
  · replace h := h.2 c4
    obtain ⟨h5, h⟩ := h
    refine wm_aload_n d_CA_check_12 rfl rfl ?_
    refine gf_CA_63 rfl d_CA_check_13 h1 ?_
    refine wm_aload_n d_CA_check_16 rfl rfl ?_
    refine gf_CA_70 rfl d_CA_check_17 h1 ?_
    refine cf_CA_293 rfl d_CA_check_20 h5 (Nat.le_of_ble_eq_true rfl) (Ci.mono h (fun x7 M6 h => ?_))
    obtain ⟨h8, hOM6, h⟩ := h
    have hJ : ∀ v10 : Int, v10 = (if (x7 = 0) then 0 else 1) → mWm G y_CA_check (d + 1) 31 [vd] [vi v10] M6 (fun r9 M9 => ∃ x9, r9 = some (vi x9) ∧ Q x9 M9) := by
      intro v10 e12
      have h := h v10 e12
      have h13 : i32 v10 := by rw [e12]; (repeat' split) <;> first | exact ⟨by decide, by decide⟩ | exact ⟨by decide, by decide⟩
      have h14 : (v10 = 0 ∨ v10 = 1) := by rw [e12]; (repeat' split) <;> decide
      refine wm_ireturn d_CA_check_31 rfl rfl ?_
      exact ⟨_, rfl, h⟩
    clear h
    refine wm_if_eq (tgt := 30) d_CA_check_23 rfl h8 (fun c9 => ?_) (fun c9 => ?_)
    · refine wm_iconst d_CA_check_30 ?_
      refine wm_less (L' := [vd]) ⟨Or.inl rfl, trivial⟩ ?_
      exact hJ 0 (if_pos c9).symm
    · refine wm_iconst d_CA_check_26 ?_
      refine wm_goto (tgt := 31) d_CA_check_27 rfl ?_
      refine wm_less (L' := [vd]) ⟨Or.inl rfl, trivial⟩ ?_
      exact hJ 1 (if_neg c9).symm
  · replace c4 := Classical.not_not.mp c4
    replace h := h.1 c4
    refine wm_iconst d_CA_check_10 ?_
    refine wm_ireturn d_CA_check_11 rfl rfl ?_
    exact ⟨_, rfl, h⟩
theorem d_MM_init_0 : decode y_MM_init.2.1 0 = .ok (.aload_n 0, 1) := dc9_42 (by decide +kernel)
theorem d_MM_init_1 : decode y_MM_init.2.1 1 = .ok (.invokespecial 1, 3) := dc9_183 (by decide +kernel)
theorem d_MM_init_4 : decode y_MM_init.2.1 4 = .ok (.aload_n 0, 1) := dc9_42 (by decide +kernel)
theorem d_MM_init_5 : decode y_MM_init.2.1 5 = .ok (.new 7, 3) := dc9_187 (by decide +kernel)
theorem d_MM_init_8 : decode y_MM_init.2.1 8 = .ok (.dup, 1) := dc9_89 (by decide +kernel)
theorem d_MM_init_9 : decode y_MM_init.2.1 9 = .ok (.invokespecial 9, 3) := dc9_183 (by decide +kernel)
theorem d_MM_init_12 : decode y_MM_init.2.1 12 = .ok (.putfield 10, 3) := dc9_181 (by decide +kernel)
theorem d_MM_init_15 : decode y_MM_init.2.1 15 = .ok (.aload_n 0, 1) := dc9_42 (by decide +kernel)
theorem d_MM_init_16 : decode y_MM_init.2.1 16 = .ok (.new 7, 3) := dc9_187 (by decide +kernel)
theorem d_MM_init_19 : decode y_MM_init.2.1 19 = .ok (.dup, 1) := dc9_89 (by decide +kernel)
theorem d_MM_init_20 : decode y_MM_init.2.1 20 = .ok (.invokespecial 9, 3) := dc9_183 (by decide +kernel)
theorem d_MM_init_23 : decode y_MM_init.2.1 23 = .ok (.putfield 16, 3) := dc9_181 (by decide +kernel)
theorem d_MM_init_26 : decode y_MM_init.2.1 26 = .ok (.aload_n 0, 1) := dc9_42 (by decide +kernel)
theorem d_MM_init_27 : decode y_MM_init.2.1 27 = .ok (.new 7, 3) := dc9_187 (by decide +kernel)
theorem d_MM_init_30 : decode y_MM_init.2.1 30 = .ok (.dup, 1) := dc9_89 (by decide +kernel)
theorem d_MM_init_31 : decode y_MM_init.2.1 31 = .ok (.invokespecial 9, 3) := dc9_183 (by decide +kernel)
theorem d_MM_init_34 : decode y_MM_init.2.1 34 = .ok (.putfield 19, 3) := dc9_181 (by decide +kernel)
theorem d_MM_init_37 : decode y_MM_init.2.1 37 = .ok (.aload_n 0, 1) := dc9_42 (by decide +kernel)
theorem d_MM_init_38 : decode y_MM_init.2.1 38 = .ok (.new 7, 3) := dc9_187 (by decide +kernel)
theorem d_MM_init_41 : decode y_MM_init.2.1 41 = .ok (.dup, 1) := dc9_89 (by decide +kernel)
theorem d_MM_init_42 : decode y_MM_init.2.1 42 = .ok (.invokespecial 9, 3) := dc9_183 (by decide +kernel)
theorem d_MM_init_45 : decode y_MM_init.2.1 45 = .ok (.putfield 22, 3) := dc9_181 (by decide +kernel)
theorem d_MM_init_48 : decode y_MM_init.2.1 48 = .ok (.aload_n 0, 1) := dc9_42 (by decide +kernel)
theorem d_MM_init_49 : decode y_MM_init.2.1 49 = .ok (.new 7, 3) := dc9_187 (by decide +kernel)
theorem d_MM_init_52 : decode y_MM_init.2.1 52 = .ok (.dup, 1) := dc9_89 (by decide +kernel)
theorem d_MM_init_53 : decode y_MM_init.2.1 53 = .ok (.invokespecial 9, 3) := dc9_183 (by decide +kernel)
theorem d_MM_init_56 : decode y_MM_init.2.1 56 = .ok (.putfield 25, 3) := dc9_181 (by decide +kernel)
theorem d_MM_init_59 : decode y_MM_init.2.1 59 = .ok (.aload_n 0, 1) := dc9_42 (by decide +kernel)
theorem d_MM_init_60 : decode y_MM_init.2.1 60 = .ok (.new 7, 3) := dc9_187 (by decide +kernel)
theorem d_MM_init_63 : decode y_MM_init.2.1 63 = .ok (.dup, 1) := dc9_89 (by decide +kernel)
theorem d_MM_init_64 : decode y_MM_init.2.1 64 = .ok (.invokespecial 9, 3) := dc9_183 (by decide +kernel)
theorem d_MM_init_67 : decode y_MM_init.2.1 67 = .ok (.putfield 28, 3) := dc9_181 (by decide +kernel)
theorem d_MM_init_70 : decode y_MM_init.2.1 70 = .ok (.aload_n 0, 1) := dc9_42 (by decide +kernel)
theorem d_MM_init_71 : decode y_MM_init.2.1 71 = .ok (.new 31, 3) := dc9_187 (by decide +kernel)
theorem d_MM_init_74 : decode y_MM_init.2.1 74 = .ok (.dup, 1) := dc9_89 (by decide +kernel)
theorem d_MM_init_75 : decode y_MM_init.2.1 75 = .ok (.invokespecial 33, 3) := dc9_183 (by decide +kernel)
theorem d_MM_init_78 : decode y_MM_init.2.1 78 = .ok (.putfield 34, 3) := dc9_181 (by decide +kernel)
theorem d_MM_init_81 : decode y_MM_init.2.1 81 = .ok (.aload_n 0, 1) := dc9_42 (by decide +kernel)
theorem d_MM_init_82 : decode y_MM_init.2.1 82 = .ok (.new 31, 3) := dc9_187 (by decide +kernel)
theorem d_MM_init_85 : decode y_MM_init.2.1 85 = .ok (.dup, 1) := dc9_89 (by decide +kernel)
theorem d_MM_init_86 : decode y_MM_init.2.1 86 = .ok (.invokespecial 33, 3) := dc9_183 (by decide +kernel)
theorem d_MM_init_89 : decode y_MM_init.2.1 89 = .ok (.putfield 38, 3) := dc9_181 (by decide +kernel)
theorem d_MM_init_92 : decode y_MM_init.2.1 92 = .ok (.aload_n 0, 1) := dc9_42 (by decide +kernel)
theorem d_MM_init_93 : decode y_MM_init.2.1 93 = .ok (.iconst (-1), 1) := dc9_2 (by decide +kernel)
theorem d_MM_init_94 : decode y_MM_init.2.1 94 = .ok (.putfield 41, 3) := dc9_181 (by decide +kernel)
theorem d_MM_init_97 : decode y_MM_init.2.1 97 = .ok (.aload_n 0, 1) := dc9_42 (by decide +kernel)
theorem d_MM_init_98 : decode y_MM_init.2.1 98 = .ok (.new 7, 3) := dc9_187 (by decide +kernel)
theorem d_MM_init_101 : decode y_MM_init.2.1 101 = .ok (.dup, 1) := dc9_89 (by decide +kernel)
theorem d_MM_init_102 : decode y_MM_init.2.1 102 = .ok (.invokespecial 9, 3) := dc9_183 (by decide +kernel)
theorem d_MM_init_105 : decode y_MM_init.2.1 105 = .ok (.putfield 45, 3) := dc9_181 (by decide +kernel)
theorem d_MM_init_108 : decode y_MM_init.2.1 108 = .ok (.aload_n 0, 1) := dc9_42 (by decide +kernel)
theorem d_MM_init_109 : decode y_MM_init.2.1 109 = .ok (.new 7, 3) := dc9_187 (by decide +kernel)
theorem d_MM_init_112 : decode y_MM_init.2.1 112 = .ok (.dup, 1) := dc9_89 (by decide +kernel)
theorem d_MM_init_113 : decode y_MM_init.2.1 113 = .ok (.invokespecial 9, 3) := dc9_183 (by decide +kernel)
theorem d_MM_init_116 : decode y_MM_init.2.1 116 = .ok (.putfield 48, 3) := dc9_181 (by decide +kernel)
theorem d_MM_init_119 : decode y_MM_init.2.1 119 = .ok (.aload_n 0, 1) := dc9_42 (by decide +kernel)
theorem d_MM_init_120 : decode y_MM_init.2.1 120 = .ok (.new 7, 3) := dc9_187 (by decide +kernel)
theorem d_MM_init_123 : decode y_MM_init.2.1 123 = .ok (.dup, 1) := dc9_89 (by decide +kernel)
theorem d_MM_init_124 : decode y_MM_init.2.1 124 = .ok (.invokespecial 9, 3) := dc9_183 (by decide +kernel)
theorem d_MM_init_127 : decode y_MM_init.2.1 127 = .ok (.putfield 51, 3) := dc9_181 (by decide +kernel)
theorem d_MM_init_130 : decode y_MM_init.2.1 130 = .ok (.aload_n 0, 1) := dc9_42 (by decide +kernel)
theorem d_MM_init_131 : decode y_MM_init.2.1 131 = .ok (.new 7, 3) := dc9_187 (by decide +kernel)
theorem d_MM_init_134 : decode y_MM_init.2.1 134 = .ok (.dup, 1) := dc9_89 (by decide +kernel)
theorem d_MM_init_135 : decode y_MM_init.2.1 135 = .ok (.invokespecial 9, 3) := dc9_183 (by decide +kernel)
theorem d_MM_init_138 : decode y_MM_init.2.1 138 = .ok (.putfield 54, 3) := dc9_181 (by decide +kernel)
theorem d_MM_init_141 : decode y_MM_init.2.1 141 = .ok (.aload_n 0, 1) := dc9_42 (by decide +kernel)
theorem d_MM_init_142 : decode y_MM_init.2.1 142 = .ok (.new 7, 3) := dc9_187 (by decide +kernel)
theorem d_MM_init_145 : decode y_MM_init.2.1 145 = .ok (.dup, 1) := dc9_89 (by decide +kernel)
theorem d_MM_init_146 : decode y_MM_init.2.1 146 = .ok (.invokespecial 9, 3) := dc9_183 (by decide +kernel)
theorem d_MM_init_149 : decode y_MM_init.2.1 149 = .ok (.putfield 57, 3) := dc9_181 (by decide +kernel)
theorem d_MM_init_152 : decode y_MM_init.2.1 152 = .ok (.aload_n 0, 1) := dc9_42 (by decide +kernel)
theorem d_MM_init_153 : decode y_MM_init.2.1 153 = .ok (.new 7, 3) := dc9_187 (by decide +kernel)
theorem d_MM_init_156 : decode y_MM_init.2.1 156 = .ok (.dup, 1) := dc9_89 (by decide +kernel)
theorem d_MM_init_157 : decode y_MM_init.2.1 157 = .ok (.invokespecial 9, 3) := dc9_183 (by decide +kernel)
theorem d_MM_init_160 : decode y_MM_init.2.1 160 = .ok (.putfield 60, 3) := dc9_181 (by decide +kernel)
theorem d_MM_init_163 : decode y_MM_init.2.1 163 = .ok (.aload_n 0, 1) := dc9_42 (by decide +kernel)
theorem d_MM_init_164 : decode y_MM_init.2.1 164 = .ok (.sipush 16400, 3) := dc9_17 (by decide +kernel)
theorem d_MM_init_167 : decode y_MM_init.2.1 167 = .ok (.newarray .long, 2) := by decide +kernel
theorem d_MM_init_169 : decode y_MM_init.2.1 169 = .ok (.putfield 63, 3) := dc9_181 (by decide +kernel)
theorem d_MM_init_172 : decode y_MM_init.2.1 172 = .ok (.aload_n 0, 1) := dc9_42 (by decide +kernel)
theorem d_MM_init_173 : decode y_MM_init.2.1 173 = .ok (.sipush 16400, 3) := dc9_17 (by decide +kernel)
theorem d_MM_init_176 : decode y_MM_init.2.1 176 = .ok (.newarray .long, 2) := by decide +kernel
theorem d_MM_init_178 : decode y_MM_init.2.1 178 = .ok (.putfield 67, 3) := dc9_181 (by decide +kernel)
theorem d_MM_init_181 : decode y_MM_init.2.1 181 = .ok (.aload_n 0, 1) := dc9_42 (by decide +kernel)
theorem d_MM_init_182 : decode y_MM_init.2.1 182 = .ok (.new 7, 3) := dc9_187 (by decide +kernel)
theorem d_MM_init_185 : decode y_MM_init.2.1 185 = .ok (.dup, 1) := dc9_89 (by decide +kernel)
theorem d_MM_init_186 : decode y_MM_init.2.1 186 = .ok (.invokespecial 9, 3) := dc9_183 (by decide +kernel)
theorem d_MM_init_189 : decode y_MM_init.2.1 189 = .ok (.putfield 70, 3) := dc9_181 (by decide +kernel)
theorem d_MM_init_192 : decode y_MM_init.2.1 192 = .ok (.aload_n 0, 1) := dc9_42 (by decide +kernel)
theorem d_MM_init_193 : decode y_MM_init.2.1 193 = .ok (.bipush 12, 2) := dc9_16 (by decide +kernel)
theorem d_MM_init_195 : decode y_MM_init.2.1 195 = .ok (.newarray .int, 2) := by decide +kernel
theorem d_MM_init_197 : decode y_MM_init.2.1 197 = .ok (.putfield 73, 3) := dc9_181 (by decide +kernel)
theorem d_MM_init_200 : decode y_MM_init.2.1 200 = .ok (.aload_n 0, 1) := dc9_42 (by decide +kernel)
theorem d_MM_init_201 : decode y_MM_init.2.1 201 = .ok (.bipush 60, 2) := dc9_16 (by decide +kernel)
theorem d_MM_init_203 : decode y_MM_init.2.1 203 = .ok (.newarray .boolean, 2) := by decide +kernel
theorem d_MM_init_205 : decode y_MM_init.2.1 205 = .ok (.putfield 77, 3) := dc9_181 (by decide +kernel)
theorem d_MM_init_208 : decode y_MM_init.2.1 208 = .ok (.aload_n 0, 1) := dc9_42 (by decide +kernel)
theorem d_MM_init_209 : decode y_MM_init.2.1 209 = .ok (.bipush 60, 2) := dc9_16 (by decide +kernel)
theorem d_MM_init_211 : decode y_MM_init.2.1 211 = .ok (.newarray .long, 2) := by decide +kernel
theorem d_MM_init_213 : decode y_MM_init.2.1 213 = .ok (.putfield 81, 3) := dc9_181 (by decide +kernel)
theorem d_MM_init_216 : decode y_MM_init.2.1 216 = .ok (.aload_n 0, 1) := dc9_42 (by decide +kernel)
theorem d_MM_init_217 : decode y_MM_init.2.1 217 = .ok (.bipush 60, 2) := dc9_16 (by decide +kernel)
theorem d_MM_init_219 : decode y_MM_init.2.1 219 = .ok (.newarray .long, 2) := by decide +kernel
theorem d_MM_init_221 : decode y_MM_init.2.1 221 = .ok (.putfield 84, 3) := dc9_181 (by decide +kernel)
theorem d_MM_init_224 : decode y_MM_init.2.1 224 = .ok (.aload_n 0, 1) := dc9_42 (by decide +kernel)
theorem d_MM_init_225 : decode y_MM_init.2.1 225 = .ok (.iconst (-1), 1) := dc9_2 (by decide +kernel)
theorem d_MM_init_226 : decode y_MM_init.2.1 226 = .ok (.putfield 87, 3) := dc9_181 (by decide +kernel)
theorem d_MM_init_229 : decode y_MM_init.2.1 229 = .ok (.aload_n 0, 1) := dc9_42 (by decide +kernel)
theorem d_MM_init_230 : decode y_MM_init.2.1 230 = .ok (.sipush 6144, 3) := dc9_17 (by decide +kernel)
theorem d_MM_init_233 : decode y_MM_init.2.1 233 = .ok (.newarray .int, 2) := by decide +kernel
theorem d_MM_init_235 : decode y_MM_init.2.1 235 = .ok (.putfield 90, 3) := dc9_181 (by decide +kernel)
theorem d_MM_init_238 : decode y_MM_init.2.1 238 = .ok (.aload_n 0, 1) := dc9_42 (by decide +kernel)
theorem d_MM_init_239 : decode y_MM_init.2.1 239 = .ok (.sipush 512, 3) := dc9_17 (by decide +kernel)
theorem d_MM_init_242 : decode y_MM_init.2.1 242 = .ok (.newarray .int, 2) := by decide +kernel
theorem d_MM_init_244 : decode y_MM_init.2.1 244 = .ok (.putfield 93, 3) := dc9_181 (by decide +kernel)
theorem d_MM_init_247 : decode y_MM_init.2.1 247 = .ok (.aload_n 0, 1) := dc9_42 (by decide +kernel)
theorem d_MM_init_248 : decode y_MM_init.2.1 248 = .ok (.sipush 512, 3) := dc9_17 (by decide +kernel)
theorem d_MM_init_251 : decode y_MM_init.2.1 251 = .ok (.newarray .int, 2) := by decide +kernel
theorem d_MM_init_253 : decode y_MM_init.2.1 253 = .ok (.putfield 96, 3) := dc9_181 (by decide +kernel)
theorem d_MM_init_256 : decode y_MM_init.2.1 256 = .ok (.aload_n 0, 1) := dc9_42 (by decide +kernel)
theorem d_MM_init_257 : decode y_MM_init.2.1 257 = .ok (.sipush 512, 3) := dc9_17 (by decide +kernel)
theorem d_MM_init_260 : decode y_MM_init.2.1 260 = .ok (.newarray .int, 2) := by decide +kernel
theorem d_MM_init_262 : decode y_MM_init.2.1 262 = .ok (.putfield 99, 3) := dc9_181 (by decide +kernel)
theorem d_MM_init_265 : decode y_MM_init.2.1 265 = .ok (.aload_n 0, 1) := dc9_42 (by decide +kernel)
theorem d_MM_init_266 : decode y_MM_init.2.1 266 = .ok (.new 7, 3) := dc9_187 (by decide +kernel)
theorem d_MM_init_269 : decode y_MM_init.2.1 269 = .ok (.dup, 1) := dc9_89 (by decide +kernel)
theorem d_MM_init_270 : decode y_MM_init.2.1 270 = .ok (.invokespecial 9, 3) := dc9_183 (by decide +kernel)
theorem d_MM_init_273 : decode y_MM_init.2.1 273 = .ok (.putfield 102, 3) := dc9_181 (by decide +kernel)
theorem d_MM_init_276 : decode y_MM_init.2.1 276 = .ok (.aload_n 0, 1) := dc9_42 (by decide +kernel)
theorem d_MM_init_277 : decode y_MM_init.2.1 277 = .ok (.new 7, 3) := dc9_187 (by decide +kernel)
theorem d_MM_init_280 : decode y_MM_init.2.1 280 = .ok (.dup, 1) := dc9_89 (by decide +kernel)
theorem d_MM_init_281 : decode y_MM_init.2.1 281 = .ok (.invokespecial 9, 3) := dc9_183 (by decide +kernel)
theorem d_MM_init_284 : decode y_MM_init.2.1 284 = .ok (.putfield 105, 3) := dc9_181 (by decide +kernel)
theorem d_MM_init_287 : decode y_MM_init.2.1 287 = .ok (.aload_n 0, 1) := dc9_42 (by decide +kernel)
theorem d_MM_init_288 : decode y_MM_init.2.1 288 = .ok (.new 7, 3) := dc9_187 (by decide +kernel)
theorem d_MM_init_291 : decode y_MM_init.2.1 291 = .ok (.dup, 1) := dc9_89 (by decide +kernel)
theorem d_MM_init_292 : decode y_MM_init.2.1 292 = .ok (.invokespecial 9, 3) := dc9_183 (by decide +kernel)
theorem d_MM_init_295 : decode y_MM_init.2.1 295 = .ok (.putfield 108, 3) := dc9_181 (by decide +kernel)
theorem d_MM_init_298 : decode y_MM_init.2.1 298 = .ok (.aload_n 0, 1) := dc9_42 (by decide +kernel)
theorem d_MM_init_299 : decode y_MM_init.2.1 299 = .ok (.new 7, 3) := dc9_187 (by decide +kernel)
theorem d_MM_init_302 : decode y_MM_init.2.1 302 = .ok (.dup, 1) := dc9_89 (by decide +kernel)
theorem d_MM_init_303 : decode y_MM_init.2.1 303 = .ok (.invokespecial 9, 3) := dc9_183 (by decide +kernel)
theorem d_MM_init_306 : decode y_MM_init.2.1 306 = .ok (.putfield 111, 3) := dc9_181 (by decide +kernel)
theorem d_MM_init_309 : decode y_MM_init.2.1 309 = .ok (.aload_n 0, 1) := dc9_42 (by decide +kernel)
theorem d_MM_init_310 : decode y_MM_init.2.1 310 = .ok (.new 114, 3) := dc9_187 (by decide +kernel)
theorem d_MM_init_313 : decode y_MM_init.2.1 313 = .ok (.dup, 1) := dc9_89 (by decide +kernel)
theorem d_MM_init_314 : decode y_MM_init.2.1 314 = .ok (.invokespecial 116, 3) := dc9_183 (by decide +kernel)
theorem d_MM_init_317 : decode y_MM_init.2.1 317 = .ok (.putfield 117, 3) := dc9_181 (by decide +kernel)
theorem d_MM_init_320 : decode y_MM_init.2.1 320 = .ok (.aload_n 0, 1) := dc9_42 (by decide +kernel)
theorem d_MM_init_321 : decode y_MM_init.2.1 321 = .ok (.sipush 4096, 3) := dc9_17 (by decide +kernel)
theorem d_MM_init_324 : decode y_MM_init.2.1 324 = .ok (.newarray .int, 2) := by decide +kernel
theorem d_MM_init_326 : decode y_MM_init.2.1 326 = .ok (.putfield 121, 3) := dc9_181 (by decide +kernel)
theorem d_MM_init_329 : decode y_MM_init.2.1 329 = .ok (.aload_n 0, 1) := dc9_42 (by decide +kernel)
theorem d_MM_init_330 : decode y_MM_init.2.1 330 = .ok (.sipush 4096, 3) := dc9_17 (by decide +kernel)
theorem d_MM_init_333 : decode y_MM_init.2.1 333 = .ok (.newarray .long, 2) := by decide +kernel
theorem d_MM_init_335 : decode y_MM_init.2.1 335 = .ok (.putfield 124, 3) := dc9_181 (by decide +kernel)
theorem d_MM_init_338 : decode y_MM_init.2.1 338 = .ok (.aload_n 0, 1) := dc9_42 (by decide +kernel)
theorem d_MM_init_339 : decode y_MM_init.2.1 339 = .ok (.sipush 4096, 3) := dc9_17 (by decide +kernel)
theorem d_MM_init_342 : decode y_MM_init.2.1 342 = .ok (.newarray .long, 2) := by decide +kernel
theorem d_MM_init_344 : decode y_MM_init.2.1 344 = .ok (.putfield 127, 3) := dc9_181 (by decide +kernel)
theorem d_MM_init_347 : decode y_MM_init.2.1 347 = .ok (.aload_n 0, 1) := dc9_42 (by decide +kernel)
theorem d_MM_init_348 : decode y_MM_init.2.1 348 = .ok (.bipush 12, 2) := dc9_16 (by decide +kernel)
theorem d_MM_init_350 : decode y_MM_init.2.1 350 = .ok (.newarray .int, 2) := by decide +kernel
theorem d_MM_init_352 : decode y_MM_init.2.1 352 = .ok (.putfield 130, 3) := dc9_181 (by decide +kernel)
theorem d_MM_init_355 : decode y_MM_init.2.1 355 = .ok (.aload_n 0, 1) := dc9_42 (by decide +kernel)
theorem d_MM_init_356 : decode y_MM_init.2.1 356 = .ok (.bipush 8, 2) := dc9_16 (by decide +kernel)
theorem d_MM_init_358 : decode y_MM_init.2.1 358 = .ok (.newarray .long, 2) := by decide +kernel
theorem d_MM_init_360 : decode y_MM_init.2.1 360 = .ok (.putfield 133, 3) := dc9_181 (by decide +kernel)
theorem d_MM_init_363 : decode y_MM_init.2.1 363 = .ok (.aload_n 0, 1) := dc9_42 (by decide +kernel)
theorem d_MM_init_364 : decode y_MM_init.2.1 364 = .ok (.bipush 8, 2) := dc9_16 (by decide +kernel)
theorem d_MM_init_366 : decode y_MM_init.2.1 366 = .ok (.newarray .long, 2) := by decide +kernel
theorem d_MM_init_368 : decode y_MM_init.2.1 368 = .ok (.putfield 136, 3) := dc9_181 (by decide +kernel)
theorem d_MM_init_371 : decode y_MM_init.2.1 371 = .ok (.aload_n 0, 1) := dc9_42 (by decide +kernel)
theorem d_MM_init_372 : decode y_MM_init.2.1 372 = .ok (.sipush 900, 3) := dc9_17 (by decide +kernel)
theorem d_MM_init_375 : decode y_MM_init.2.1 375 = .ok (.newarray .int, 2) := by decide +kernel
theorem d_MM_init_377 : decode y_MM_init.2.1 377 = .ok (.putfield 139, 3) := dc9_181 (by decide +kernel)
theorem d_MM_init_380 : decode y_MM_init.2.1 380 = .ok (.return_, 1) := dc9_177 (by decide +kernel)
theorem k_MM_init {G : mG} {d : Nat} {a0 : Nat} {M : mM} {Q : mM → Prop} (hO : mOk M)
    (h : 0 < a0 ∧ ∀ M2, M2 = mNew M 15 0 2 → Cv G y_MN_init d [vr (mZ M)] M2 (fun M4 => mOk M4 ∧ (mK M4 a0 = 14 ∧ ∀ M8, M8 = mUR M4 a0 1 (mZ M) → ∀ M10, M10 = mNew M8 15 0 2 → Cv G y_MN_init d [vr (mZ M8)] M10 (fun M12 => mOk M12 ∧ (mK M12 a0 = 14 ∧ ∀ M16, M16 = mUR M12 a0 2 (mZ M8) → ∀ M18, M18 = mNew M16 15 0 2 → Cv G y_MN_init d [vr (mZ M16)] M18 (fun M20 => mOk M20 ∧ (mK M20 a0 = 14 ∧ ∀ M24, M24 = mUR M20 a0 3 (mZ M16) → ∀ M26, M26 = mNew M24 15 0 2 → Cv G y_MN_init d [vr (mZ M24)] M26 (fun M28 => mOk M28 ∧ (mK M28 a0 = 14 ∧ ∀ M32, M32 = mUR M28 a0 4 (mZ M24) → ∀ M34, M34 = mNew M32 15 0 2 → Cv G y_MN_init d [vr (mZ M32)] M34 (fun M36 => mOk M36 ∧ (mK M36 a0 = 14 ∧ ∀ M40, M40 = mUR M36 a0 5 (mZ M32) → ∀ M42, M42 = mNew M40 15 0 2 → Cv G y_MN_init d [vr (mZ M40)] M42 (fun M44 => mOk M44 ∧ (mK M44 a0 = 14 ∧ ∀ M48, M48 = mUR M44 a0 6 (mZ M40) → ∀ M50, M50 = mNew M48 16 0 30 → Cv G y_MG_init d [vr (mZ M48)] M50 (fun M52 => mOk M52 ∧ (mK M52 a0 = 14 ∧ ∀ M56, M56 = mUR M52 a0 9 (mZ M48) → ∀ M58, M58 = mNew M56 16 0 30 → Cv G y_MG_init d [vr (mZ M56)] M58 (fun M60 => mOk M60 ∧ (mK M60 a0 = 14 ∧ ∀ M64, M64 = mUR M60 a0 10 (mZ M56) → ∀ M66, M66 = mUI M64 a0 12 (-1) → ∀ M68, M68 = mNew M66 15 0 2 → Cv G y_MN_init d [vr (mZ M66)] M68 (fun M70 => mOk M70 ∧ (mK M70 a0 = 14 ∧ ∀ M74, M74 = mUR M70 a0 13 (mZ M66) → ∀ M76, M76 = mNew M74 15 0 2 → Cv G y_MN_init d [vr (mZ M74)] M76 (fun M78 => mOk M78 ∧ (mK M78 a0 = 14 ∧ ∀ M82, M82 = mUR M78 a0 14 (mZ M74) → ∀ M84, M84 = mNew M82 15 0 2 → Cv G y_MN_init d [vr (mZ M82)] M84 (fun M86 => mOk M86 ∧ (mK M86 a0 = 14 ∧ ∀ M90, M90 = mUR M86 a0 15 (mZ M82) → ∀ M92, M92 = mNew M90 15 0 2 → Cv G y_MN_init d [vr (mZ M90)] M92 (fun M94 => mOk M94 ∧ (mK M94 a0 = 14 ∧ ∀ M98, M98 = mUR M94 a0 18 (mZ M90) → ∀ M100, M100 = mNew M98 15 0 2 → Cv G y_MN_init d [vr (mZ M98)] M100 (fun M102 => mOk M102 ∧ (mK M102 a0 = 14 ∧ ∀ M106, M106 = mUR M102 a0 19 (mZ M98) → ∀ M108, M108 = mNew M106 15 0 2 → Cv G y_MN_init d [vr (mZ M106)] M108 (fun M110 => mOk M110 ∧ (mK M110 a0 = 14 ∧ ∀ M114, M114 = mUR M110 a0 20 (mZ M106) → ∀ M116, M116 = mNew M114 33 16400 16400 → mK M116 a0 = 14 ∧ ∀ M119, M119 = mUR M116 a0 21 (mZ M114) → ∀ M121, M121 = mNew M119 33 16400 16400 → mK M121 a0 = 14 ∧ ∀ M124, M124 = mUR M121 a0 22 (mZ M119) → ∀ M126, M126 = mNew M124 15 0 2 → Cv G y_MN_init d [vr (mZ M124)] M126 (fun M128 => mOk M128 ∧ (mK M128 a0 = 14 ∧ ∀ M132, M132 = mUR M128 a0 24 (mZ M124) → ∀ M134, M134 = mNew M132 30 12 12 → mK M134 a0 = 14 ∧ ∀ M137, M137 = mUR M134 a0 25 (mZ M132) → ∀ M139, M139 = mNew M137 31 60 60 → mK M139 a0 = 14 ∧ ∀ M142, M142 = mUR M139 a0 26 (mZ M137) → ∀ M144, M144 = mNew M142 33 60 60 → mK M144 a0 = 14 ∧ ∀ M147, M147 = mUR M144 a0 27 (mZ M142) → ∀ M149, M149 = mNew M147 33 60 60 → mK M149 a0 = 14 ∧ ∀ M152, M152 = mUR M149 a0 28 (mZ M147) → ∀ M154, M154 = mUI M152 a0 30 (-1) → ∀ M156, M156 = mNew M154 30 6144 6144 → mK M156 a0 = 14 ∧ ∀ M159, M159 = mUR M156 a0 31 (mZ M154) → ∀ M161, M161 = mNew M159 30 512 512 → mK M161 a0 = 14 ∧ ∀ M164, M164 = mUR M161 a0 32 (mZ M159) → ∀ M166, M166 = mNew M164 30 512 512 → mK M166 a0 = 14 ∧ ∀ M169, M169 = mUR M166 a0 33 (mZ M164) → ∀ M171, M171 = mNew M169 30 512 512 → mK M171 a0 = 14 ∧ ∀ M174, M174 = mUR M171 a0 34 (mZ M169) → ∀ M176, M176 = mNew M174 15 0 2 → Cv G y_MN_init d [vr (mZ M174)] M176 (fun M178 => mOk M178 ∧ (mK M178 a0 = 14 ∧ ∀ M182, M182 = mUR M178 a0 35 (mZ M174) → ∀ M184, M184 = mNew M182 15 0 2 → Cv G y_MN_init d [vr (mZ M182)] M184 (fun M186 => mOk M186 ∧ (mK M186 a0 = 14 ∧ ∀ M190, M190 = mUR M186 a0 36 (mZ M182) → ∀ M192, M192 = mNew M190 15 0 2 → Cv G y_MN_init d [vr (mZ M190)] M192 (fun M194 => mOk M194 ∧ (mK M194 a0 = 14 ∧ ∀ M198, M198 = mUR M194 a0 37 (mZ M190) → ∀ M200, M200 = mNew M198 15 0 2 → Cv G y_MN_init d [vr (mZ M198)] M200 (fun M202 => mOk M202 ∧ (mK M202 a0 = 14 ∧ ∀ M206, M206 = mUR M202 a0 38 (mZ M198) → ∀ M208, M208 = mNew M206 17 0 32 → Cv G y_MS_init d [vr (mZ M206)] M208 (fun M210 => mOk M210 ∧ (mK M210 a0 = 14 ∧ ∀ M214, M214 = mUR M210 a0 39 (mZ M206) → ∀ M216, M216 = mNew M214 30 4096 4096 → mK M216 a0 = 14 ∧ ∀ M219, M219 = mUR M216 a0 41 (mZ M214) → ∀ M221, M221 = mNew M219 33 4096 4096 → mK M221 a0 = 14 ∧ ∀ M224, M224 = mUR M221 a0 42 (mZ M219) → ∀ M226, M226 = mNew M224 33 4096 4096 → mK M226 a0 = 14 ∧ ∀ M229, M229 = mUR M226 a0 43 (mZ M224) → ∀ M231, M231 = mNew M229 30 12 12 → mK M231 a0 = 14 ∧ ∀ M234, M234 = mUR M231 a0 44 (mZ M229) → ∀ M236, M236 = mNew M234 33 8 8 → mK M236 a0 = 14 ∧ ∀ M239, M239 = mUR M236 a0 45 (mZ M234) → ∀ M241, M241 = mNew M239 33 8 8 → mK M241 a0 = 14 ∧ ∀ M244, M244 = mUR M241 a0 46 (mZ M239) → ∀ M246, M246 = mNew M244 30 900 900 → mK M246 a0 = 14 ∧ ∀ M249, M249 = mUR M246 a0 47 (mZ M244) → Q M249))))))))))))))))))))))))))))))))))))))))) :
    Cv G y_MM_init (d + 1) [vr a0] M Q := by
  refine wm_open (y := y_MM_init) rfl (Nat.le_of_ble_eq_true rfl) (L := [vr a0]) rfl ?_
  obtain ⟨h1, h⟩ := h
  obtain ⟨M2, e3⟩ : ∃ M2, M2 = mNew M 15 0 2 := ⟨_, rfl⟩
  replace h := h M2 e3
  refine wm_aload_n d_MM_init_0 rfl rfl ?_
  refine wm_objInit trivial k8_239 kO_inst kO_code (Nat.le_of_ble_eq_true rfl) d_MM_init_1 h1 ?_
  refine wm_aload_n d_MM_init_4 rfl rfl ?_
  have hOM2 : mOk M2 := by rw [e3]; exact mOk_New hO
  refine nf_MM_7 rfl d_MM_init_5 e3 ?_
  refine wm_dup d_MM_init_8 rfl ?_
  refine cf_MM_9 rfl d_MM_init_9 (by rw [e3]; exact if_pos rfl) (Nat.le_of_ble_eq_true rfl) (Cv.mono h (fun M4 h => ?_))
  obtain ⟨hOM4, h⟩ := h
  obtain ⟨h7, h⟩ := h
  obtain ⟨M8, e9⟩ : ∃ M8, M8 = mUR M4 a0 1 (mZ M) := ⟨_, rfl⟩
  replace h := h M8 e9
  obtain ⟨M10, e11⟩ : ∃ M10, M10 = mNew M8 15 0 2 := ⟨_, rfl⟩
  replace h := h M10 e11
  have hOM8 : mOk M8 := by rw [e9]; exact mOk_UR hOM4
  refine pf_MM_10 rfl d_MM_init_12 h7 e9 ?_
  refine wm_aload_n d_MM_init_15 rfl rfl ?_
  have hOM10 : mOk M10 := by rw [e11]; exact mOk_New hOM8
  refine nf_MM_7 rfl d_MM_init_16 e11 ?_
  refine wm_dup d_MM_init_19 rfl ?_
  refine cf_MM_9 rfl d_MM_init_20 (by rw [e11]; exact if_pos rfl) (Nat.le_of_ble_eq_true rfl) (Cv.mono h (fun M12 h => ?_))
  obtain ⟨hOM12, h⟩ := h
  obtain ⟨h15, h⟩ := h
  obtain ⟨M16, e17⟩ : ∃ M16, M16 = mUR M12 a0 2 (mZ M8) := ⟨_, rfl⟩
  replace h := h M16 e17
  obtain ⟨M18, e19⟩ : ∃ M18, M18 = mNew M16 15 0 2 := ⟨_, rfl⟩
  replace h := h M18 e19
  have hOM16 : mOk M16 := by rw [e17]; exact mOk_UR hOM12
  refine pf_MM_16 rfl d_MM_init_23 h15 e17 ?_
  refine wm_aload_n d_MM_init_26 rfl rfl ?_
  have hOM18 : mOk M18 := by rw [e19]; exact mOk_New hOM16
  refine nf_MM_7 rfl d_MM_init_27 e19 ?_
  refine wm_dup d_MM_init_30 rfl ?_
  refine cf_MM_9 rfl d_MM_init_31 (by rw [e19]; exact if_pos rfl) (Nat.le_of_ble_eq_true rfl) (Cv.mono h (fun M20 h => ?_))
  obtain ⟨hOM20, h⟩ := h
  obtain ⟨h23, h⟩ := h
  obtain ⟨M24, e25⟩ : ∃ M24, M24 = mUR M20 a0 3 (mZ M16) := ⟨_, rfl⟩
  replace h := h M24 e25
  obtain ⟨M26, e27⟩ : ∃ M26, M26 = mNew M24 15 0 2 := ⟨_, rfl⟩
  replace h := h M26 e27
  have hOM24 : mOk M24 := by rw [e25]; exact mOk_UR hOM20
  refine pf_MM_19 rfl rfl d_MM_init_34 h23 e25 ?_
  refine wm_aload_n d_MM_init_37 rfl rfl ?_
  have hOM26 : mOk M26 := by rw [e27]; exact mOk_New hOM24
  refine nf_MM_7 rfl d_MM_init_38 e27 ?_
  refine wm_dup d_MM_init_41 rfl ?_
  refine cf_MM_9 rfl d_MM_init_42 (by rw [e27]; exact if_pos rfl) (Nat.le_of_ble_eq_true rfl) (Cv.mono h (fun M28 h => ?_))
  obtain ⟨hOM28, h⟩ := h
  obtain ⟨h31, h⟩ := h
  obtain ⟨M32, e33⟩ : ∃ M32, M32 = mUR M28 a0 4 (mZ M24) := ⟨_, rfl⟩
  replace h := h M32 e33
  obtain ⟨M34, e35⟩ : ∃ M34, M34 = mNew M32 15 0 2 := ⟨_, rfl⟩
  replace h := h M34 e35
  have hOM32 : mOk M32 := by rw [e33]; exact mOk_UR hOM28
  refine pf_MM_22 rfl rfl d_MM_init_45 h31 e33 ?_
  refine wm_aload_n d_MM_init_48 rfl rfl ?_
  have hOM34 : mOk M34 := by rw [e35]; exact mOk_New hOM32
  refine nf_MM_7 rfl d_MM_init_49 e35 ?_
  refine wm_dup d_MM_init_52 rfl ?_
  refine cf_MM_9 rfl d_MM_init_53 (by rw [e35]; exact if_pos rfl) (Nat.le_of_ble_eq_true rfl) (Cv.mono h (fun M36 h => ?_))
  obtain ⟨hOM36, h⟩ := h
  obtain ⟨h39, h⟩ := h
  obtain ⟨M40, e41⟩ : ∃ M40, M40 = mUR M36 a0 5 (mZ M32) := ⟨_, rfl⟩
  replace h := h M40 e41
  obtain ⟨M42, e43⟩ : ∃ M42, M42 = mNew M40 15 0 2 := ⟨_, rfl⟩
  replace h := h M42 e43
  have hOM40 : mOk M40 := by rw [e41]; exact mOk_UR hOM36
  refine pf_MM_25 rfl rfl d_MM_init_56 h39 e41 ?_
  refine wm_aload_n d_MM_init_59 rfl rfl ?_
  have hOM42 : mOk M42 := by rw [e43]; exact mOk_New hOM40
  refine nf_MM_7 rfl d_MM_init_60 e43 ?_
  refine wm_dup d_MM_init_63 rfl ?_
  refine cf_MM_9 rfl d_MM_init_64 (by rw [e43]; exact if_pos rfl) (Nat.le_of_ble_eq_true rfl) (Cv.mono h (fun M44 h => ?_))
  obtain ⟨hOM44, h⟩ := h
  obtain ⟨h47, h⟩ := h
  obtain ⟨M48, e49⟩ : ∃ M48, M48 = mUR M44 a0 6 (mZ M40) := ⟨_, rfl⟩
  replace h := h M48 e49
  obtain ⟨M50, e51⟩ : ∃ M50, M50 = mNew M48 16 0 30 := ⟨_, rfl⟩
  replace h := h M50 e51
  have hOM48 : mOk M48 := by rw [e49]; exact mOk_UR hOM44
  refine pf_MM_28 rfl rfl d_MM_init_67 h47 e49 ?_
  refine wm_aload_n d_MM_init_70 rfl rfl ?_
  have hOM50 : mOk M50 := by rw [e51]; exact mOk_New hOM48
  refine nf_MM_31 rfl d_MM_init_71 e51 ?_
  refine wm_dup d_MM_init_74 rfl ?_
  refine cf_MM_33 rfl d_MM_init_75 (by rw [e51]; exact if_pos rfl) (Nat.le_of_ble_eq_true rfl) (Cv.mono h (fun M52 h => ?_))
  obtain ⟨hOM52, h⟩ := h
  obtain ⟨h55, h⟩ := h
  obtain ⟨M56, e57⟩ : ∃ M56, M56 = mUR M52 a0 9 (mZ M48) := ⟨_, rfl⟩
  replace h := h M56 e57
  obtain ⟨M58, e59⟩ : ∃ M58, M58 = mNew M56 16 0 30 := ⟨_, rfl⟩
  replace h := h M58 e59
  have hOM56 : mOk M56 := by rw [e57]; exact mOk_UR hOM52
  refine pf_MM_34 rfl d_MM_init_78 h55 e57 ?_
  refine wm_aload_n d_MM_init_81 rfl rfl ?_
  have hOM58 : mOk M58 := by rw [e59]; exact mOk_New hOM56
  refine nf_MM_31 rfl d_MM_init_82 e59 ?_
  refine wm_dup d_MM_init_85 rfl ?_
  refine cf_MM_33 rfl d_MM_init_86 (by rw [e59]; exact if_pos rfl) (Nat.le_of_ble_eq_true rfl) (Cv.mono h (fun M60 h => ?_))
  obtain ⟨hOM60, h⟩ := h
  obtain ⟨h63, h⟩ := h
  obtain ⟨M64, e65⟩ : ∃ M64, M64 = mUR M60 a0 10 (mZ M56) := ⟨_, rfl⟩
  replace h := h M64 e65
  obtain ⟨M66, e67⟩ : ∃ M66, M66 = mUI M64 a0 12 (-1) := ⟨_, rfl⟩
  replace h := h M66 e67
  obtain ⟨M68, e69⟩ : ∃ M68, M68 = mNew M66 15 0 2 := ⟨_, rfl⟩
  replace h := h M68 e69
  have hOM64 : mOk M64 := by rw [e65]; exact mOk_UR hOM60
  refine pf_MM_38 rfl d_MM_init_89 h63 e65 ?_
  refine wm_aload_n d_MM_init_92 rfl rfl ?_
  refine wm_iconst d_MM_init_93 ?_
  have hOM66 : mOk M66 := by rw [e67]; exact mOk_UI hOM64 ⟨by decide, by decide⟩
  refine pf_MM_41 rfl d_MM_init_94 (by rw [e65]; exact h63) ⟨by decide, by decide⟩ e67 ?_
  refine wm_aload_n d_MM_init_97 rfl rfl ?_
  have hOM68 : mOk M68 := by rw [e69]; exact mOk_New hOM66
  refine nf_MM_7 rfl d_MM_init_98 e69 ?_
  refine wm_dup d_MM_init_101 rfl ?_
  refine cf_MM_9 rfl d_MM_init_102 (by rw [e69]; exact if_pos rfl) (Nat.le_of_ble_eq_true rfl) (Cv.mono h (fun M70 h => ?_))
  obtain ⟨hOM70, h⟩ := h
  obtain ⟨h73, h⟩ := h
  obtain ⟨M74, e75⟩ : ∃ M74, M74 = mUR M70 a0 13 (mZ M66) := ⟨_, rfl⟩
  replace h := h M74 e75
  obtain ⟨M76, e77⟩ : ∃ M76, M76 = mNew M74 15 0 2 := ⟨_, rfl⟩
  replace h := h M76 e77
  have hOM74 : mOk M74 := by rw [e75]; exact mOk_UR hOM70
  refine pf_MM_45 rfl rfl d_MM_init_105 h73 e75 ?_
  refine wm_aload_n d_MM_init_108 rfl rfl ?_
  have hOM76 : mOk M76 := by rw [e77]; exact mOk_New hOM74
  refine nf_MM_7 rfl d_MM_init_109 e77 ?_
  refine wm_dup d_MM_init_112 rfl ?_
  refine cf_MM_9 rfl d_MM_init_113 (by rw [e77]; exact if_pos rfl) (Nat.le_of_ble_eq_true rfl) (Cv.mono h (fun M78 h => ?_))
  obtain ⟨hOM78, h⟩ := h
  obtain ⟨h81, h⟩ := h
  obtain ⟨M82, e83⟩ : ∃ M82, M82 = mUR M78 a0 14 (mZ M74) := ⟨_, rfl⟩
  replace h := h M82 e83
  obtain ⟨M84, e85⟩ : ∃ M84, M84 = mNew M82 15 0 2 := ⟨_, rfl⟩
  replace h := h M84 e85
  have hOM82 : mOk M82 := by rw [e83]; exact mOk_UR hOM78
  refine pf_MM_48 rfl rfl d_MM_init_116 h81 e83 ?_
  refine wm_aload_n d_MM_init_119 rfl rfl ?_
  have hOM84 : mOk M84 := by rw [e85]; exact mOk_New hOM82
  refine nf_MM_7 rfl d_MM_init_120 e85 ?_
  refine wm_dup d_MM_init_123 rfl ?_
  refine cf_MM_9 rfl d_MM_init_124 (by rw [e85]; exact if_pos rfl) (Nat.le_of_ble_eq_true rfl) (Cv.mono h (fun M86 h => ?_))
  obtain ⟨hOM86, h⟩ := h
  obtain ⟨h89, h⟩ := h
  obtain ⟨M90, e91⟩ : ∃ M90, M90 = mUR M86 a0 15 (mZ M82) := ⟨_, rfl⟩
  replace h := h M90 e91
  obtain ⟨M92, e93⟩ : ∃ M92, M92 = mNew M90 15 0 2 := ⟨_, rfl⟩
  replace h := h M92 e93
  have hOM90 : mOk M90 := by rw [e91]; exact mOk_UR hOM86
  refine pf_MM_51 rfl rfl d_MM_init_127 h89 e91 ?_
  refine wm_aload_n d_MM_init_130 rfl rfl ?_
  have hOM92 : mOk M92 := by rw [e93]; exact mOk_New hOM90
  refine nf_MM_7 rfl d_MM_init_131 e93 ?_
  refine wm_dup d_MM_init_134 rfl ?_
  refine cf_MM_9 rfl d_MM_init_135 (by rw [e93]; exact if_pos rfl) (Nat.le_of_ble_eq_true rfl) (Cv.mono h (fun M94 h => ?_))
  obtain ⟨hOM94, h⟩ := h
  obtain ⟨h97, h⟩ := h
  obtain ⟨M98, e99⟩ : ∃ M98, M98 = mUR M94 a0 18 (mZ M90) := ⟨_, rfl⟩
  replace h := h M98 e99
  obtain ⟨M100, e101⟩ : ∃ M100, M100 = mNew M98 15 0 2 := ⟨_, rfl⟩
  replace h := h M100 e101
  have hOM98 : mOk M98 := by rw [e99]; exact mOk_UR hOM94
  refine pf_MM_54 rfl rfl d_MM_init_138 h97 e99 ?_
  refine wm_aload_n d_MM_init_141 rfl rfl ?_
  have hOM100 : mOk M100 := by rw [e101]; exact mOk_New hOM98
  refine nf_MM_7 rfl d_MM_init_142 e101 ?_
  refine wm_dup d_MM_init_145 rfl ?_
  refine cf_MM_9 rfl d_MM_init_146 (by rw [e101]; exact if_pos rfl) (Nat.le_of_ble_eq_true rfl) (Cv.mono h (fun M102 h => ?_))
  obtain ⟨hOM102, h⟩ := h
  obtain ⟨h105, h⟩ := h
  obtain ⟨M106, e107⟩ : ∃ M106, M106 = mUR M102 a0 19 (mZ M98) := ⟨_, rfl⟩
  replace h := h M106 e107
  obtain ⟨M108, e109⟩ : ∃ M108, M108 = mNew M106 15 0 2 := ⟨_, rfl⟩
  replace h := h M108 e109
  have hOM106 : mOk M106 := by rw [e107]; exact mOk_UR hOM102
  refine pf_MM_57 rfl rfl d_MM_init_149 h105 e107 ?_
  refine wm_aload_n d_MM_init_152 rfl rfl ?_
  have hOM108 : mOk M108 := by rw [e109]; exact mOk_New hOM106
  refine nf_MM_7 rfl d_MM_init_153 e109 ?_
  refine wm_dup d_MM_init_156 rfl ?_
  refine cf_MM_9 rfl d_MM_init_157 (by rw [e109]; exact if_pos rfl) (Nat.le_of_ble_eq_true rfl) (Cv.mono h (fun M110 h => ?_))
  obtain ⟨hOM110, h⟩ := h
  obtain ⟨h113, h⟩ := h
  obtain ⟨M114, e115⟩ : ∃ M114, M114 = mUR M110 a0 20 (mZ M106) := ⟨_, rfl⟩
  replace h := h M114 e115
  obtain ⟨M116, e117⟩ : ∃ M116, M116 = mNew M114 33 16400 16400 := ⟨_, rfl⟩
  replace h := h M116 e117
  obtain ⟨h118, h⟩ := h
  obtain ⟨M119, e120⟩ : ∃ M119, M119 = mUR M116 a0 21 (mZ M114) := ⟨_, rfl⟩
  replace h := h M119 e120
  obtain ⟨M121, e122⟩ : ∃ M121, M121 = mNew M119 33 16400 16400 := ⟨_, rfl⟩
  replace h := h M121 e122
  obtain ⟨h123, h⟩ := h
  obtain ⟨M124, e125⟩ : ∃ M124, M124 = mUR M121 a0 22 (mZ M119) := ⟨_, rfl⟩
  replace h := h M124 e125
  obtain ⟨M126, e127⟩ : ∃ M126, M126 = mNew M124 15 0 2 := ⟨_, rfl⟩
  replace h := h M126 e127
  have hOM114 : mOk M114 := by rw [e115]; exact mOk_UR hOM110
  refine pf_MM_60 rfl rfl d_MM_init_160 h113 e115 ?_
  refine wm_aload_n d_MM_init_163 rfl rfl ?_
  refine wm_sipush d_MM_init_164 (by decide) ?_
  have hOM116 : mOk M116 := by rw [e117]; exact mOk_New hOM114
  refine wm_newarrE 3 (atype := .long) (ty := .long) rfl rfl (fun _ => rfl) rfl rfl (by decide) k3_35 ⟨by decide, by decide⟩ d_MM_init_167 e117 ?_
  have hOM119 : mOk M119 := by rw [e120]; exact mOk_UR hOM116
  refine pf_MM_63 rfl rfl d_MM_init_169 h118 e120 ?_
  refine wm_aload_n d_MM_init_172 rfl rfl ?_
  refine wm_sipush d_MM_init_173 (by decide) ?_
  have hOM121 : mOk M121 := by rw [e122]; exact mOk_New hOM119
  refine wm_newarrE 3 (atype := .long) (ty := .long) rfl rfl (fun _ => rfl) rfl rfl (by decide) k3_35 ⟨by decide, by decide⟩ d_MM_init_176 e122 ?_
  have hOM124 : mOk M124 := by rw [e125]; exact mOk_UR hOM121
  refine pf_MM_67 rfl rfl d_MM_init_178 h123 e125 ?_
  refine wm_aload_n d_MM_init_181 rfl rfl ?_
  have hOM126 : mOk M126 := by rw [e127]; exact mOk_New hOM124
  refine nf_MM_7 rfl d_MM_init_182 e127 ?_
  refine wm_dup d_MM_init_185 rfl ?_
  refine cf_MM_9 rfl d_MM_init_186 (by rw [e127]; exact if_pos rfl) (Nat.le_of_ble_eq_true rfl) (Cv.mono h (fun M128 h => ?_))
  obtain ⟨hOM128, h⟩ := h
  obtain ⟨h131, h⟩ := h
  obtain ⟨M132, e133⟩ : ∃ M132, M132 = mUR M128 a0 24 (mZ M124) := ⟨_, rfl⟩
  replace h := h M132 e133
  obtain ⟨M134, e135⟩ : ∃ M134, M134 = mNew M132 30 12 12 := ⟨_, rfl⟩
  replace h := h M134 e135
  obtain ⟨h136, h⟩ := h
  obtain ⟨M137, e138⟩ : ∃ M137, M137 = mUR M134 a0 25 (mZ M132) := ⟨_, rfl⟩
  replace h := h M137 e138
  obtain ⟨M139, e140⟩ : ∃ M139, M139 = mNew M137 31 60 60 := ⟨_, rfl⟩
  replace h := h M139 e140
  obtain ⟨h141, h⟩ := h
  obtain ⟨M142, e143⟩ : ∃ M142, M142 = mUR M139 a0 26 (mZ M137) := ⟨_, rfl⟩
  replace h := h M142 e143
  obtain ⟨M144, e145⟩ : ∃ M144, M144 = mNew M142 33 60 60 := ⟨_, rfl⟩
  replace h := h M144 e145
  obtain ⟨h146, h⟩ := h
  obtain ⟨M147, e148⟩ : ∃ M147, M147 = mUR M144 a0 27 (mZ M142) := ⟨_, rfl⟩
  replace h := h M147 e148
  obtain ⟨M149, e150⟩ : ∃ M149, M149 = mNew M147 33 60 60 := ⟨_, rfl⟩
  replace h := h M149 e150
  obtain ⟨h151, h⟩ := h
  obtain ⟨M152, e153⟩ : ∃ M152, M152 = mUR M149 a0 28 (mZ M147) := ⟨_, rfl⟩
  replace h := h M152 e153
  obtain ⟨M154, e155⟩ : ∃ M154, M154 = mUI M152 a0 30 (-1) := ⟨_, rfl⟩
  replace h := h M154 e155
  obtain ⟨M156, e157⟩ : ∃ M156, M156 = mNew M154 30 6144 6144 := ⟨_, rfl⟩
  replace h := h M156 e157
  obtain ⟨h158, h⟩ := h
  obtain ⟨M159, e160⟩ : ∃ M159, M159 = mUR M156 a0 31 (mZ M154) := ⟨_, rfl⟩
  replace h := h M159 e160
  obtain ⟨M161, e162⟩ : ∃ M161, M161 = mNew M159 30 512 512 := ⟨_, rfl⟩
  replace h := h M161 e162
  obtain ⟨h163, h⟩ := h
  obtain ⟨M164, e165⟩ : ∃ M164, M164 = mUR M161 a0 32 (mZ M159) := ⟨_, rfl⟩
  replace h := h M164 e165
  obtain ⟨M166, e167⟩ : ∃ M166, M166 = mNew M164 30 512 512 := ⟨_, rfl⟩
  replace h := h M166 e167
  obtain ⟨h168, h⟩ := h
  obtain ⟨M169, e170⟩ : ∃ M169, M169 = mUR M166 a0 33 (mZ M164) := ⟨_, rfl⟩
  replace h := h M169 e170
  obtain ⟨M171, e172⟩ : ∃ M171, M171 = mNew M169 30 512 512 := ⟨_, rfl⟩
  replace h := h M171 e172
  obtain ⟨h173, h⟩ := h
  obtain ⟨M174, e175⟩ : ∃ M174, M174 = mUR M171 a0 34 (mZ M169) := ⟨_, rfl⟩
  replace h := h M174 e175
  obtain ⟨M176, e177⟩ : ∃ M176, M176 = mNew M174 15 0 2 := ⟨_, rfl⟩
  replace h := h M176 e177
  have hOM132 : mOk M132 := by rw [e133]; exact mOk_UR hOM128
  refine pf_MM_70 rfl rfl d_MM_init_189 h131 e133 ?_
  refine wm_aload_n d_MM_init_192 rfl rfl ?_
  refine wm_bipush d_MM_init_193 (by decide) ?_
  have hOM134 : mOk M134 := by rw [e135]; exact mOk_New hOM132
  refine wm_newarrE 0 (atype := .int) (ty := .int) rfl rfl (fun _ => rfl) rfl rfl (by decide) k1_82 ⟨by decide, by decide⟩ d_MM_init_195 e135 ?_
  have hOM137 : mOk M137 := by rw [e138]; exact mOk_UR hOM134
  refine pf_MM_73 rfl rfl d_MM_init_197 h136 e138 ?_
  refine wm_aload_n d_MM_init_200 rfl rfl ?_
  refine wm_bipush d_MM_init_201 (by decide) ?_
  have hOM139 : mOk M139 := by rw [e140]; exact mOk_New hOM137
  refine wm_newarrE 1 (atype := .boolean) (ty := .boolean) rfl rfl (fun _ => rfl) rfl rfl (by decide) k1_162 ⟨by decide, by decide⟩ d_MM_init_203 e140 ?_
  have hOM142 : mOk M142 := by rw [e143]; exact mOk_UR hOM139
  refine pf_MM_77 rfl rfl d_MM_init_205 h141 e143 ?_
  refine wm_aload_n d_MM_init_208 rfl rfl ?_
  refine wm_bipush d_MM_init_209 (by decide) ?_
  have hOM144 : mOk M144 := by rw [e145]; exact mOk_New hOM142
  refine wm_newarrE 3 (atype := .long) (ty := .long) rfl rfl (fun _ => rfl) rfl rfl (by decide) k3_35 ⟨by decide, by decide⟩ d_MM_init_211 e145 ?_
  have hOM147 : mOk M147 := by rw [e148]; exact mOk_UR hOM144
  refine pf_MM_81 rfl rfl d_MM_init_213 h146 e148 ?_
  refine wm_aload_n d_MM_init_216 rfl rfl ?_
  refine wm_bipush d_MM_init_217 (by decide) ?_
  have hOM149 : mOk M149 := by rw [e150]; exact mOk_New hOM147
  refine wm_newarrE 3 (atype := .long) (ty := .long) rfl rfl (fun _ => rfl) rfl rfl (by decide) k3_35 ⟨by decide, by decide⟩ d_MM_init_219 e150 ?_
  have hOM152 : mOk M152 := by rw [e153]; exact mOk_UR hOM149
  refine pf_MM_84 rfl rfl d_MM_init_221 h151 e153 ?_
  refine wm_aload_n d_MM_init_224 rfl rfl ?_
  refine wm_iconst d_MM_init_225 ?_
  have hOM154 : mOk M154 := by rw [e155]; exact mOk_UI hOM152 ⟨by decide, by decide⟩
  refine pf_MM_87 rfl d_MM_init_226 (by rw [e153]; exact h151) ⟨by decide, by decide⟩ e155 ?_
  refine wm_aload_n d_MM_init_229 rfl rfl ?_
  refine wm_sipush d_MM_init_230 (by decide) ?_
  have hOM156 : mOk M156 := by rw [e157]; exact mOk_New hOM154
  refine wm_newarrE 0 (atype := .int) (ty := .int) rfl rfl (fun _ => rfl) rfl rfl (by decide) k1_82 ⟨by decide, by decide⟩ d_MM_init_233 e157 ?_
  have hOM159 : mOk M159 := by rw [e160]; exact mOk_UR hOM156
  refine pf_MM_90 rfl rfl d_MM_init_235 h158 e160 ?_
  refine wm_aload_n d_MM_init_238 rfl rfl ?_
  refine wm_sipush d_MM_init_239 (by decide) ?_
  have hOM161 : mOk M161 := by rw [e162]; exact mOk_New hOM159
  refine wm_newarrE 0 (atype := .int) (ty := .int) rfl rfl (fun _ => rfl) rfl rfl (by decide) k1_82 ⟨by decide, by decide⟩ d_MM_init_242 e162 ?_
  have hOM164 : mOk M164 := by rw [e165]; exact mOk_UR hOM161
  refine pf_MM_93 rfl rfl d_MM_init_244 h163 e165 ?_
  refine wm_aload_n d_MM_init_247 rfl rfl ?_
  refine wm_sipush d_MM_init_248 (by decide) ?_
  have hOM166 : mOk M166 := by rw [e167]; exact mOk_New hOM164
  refine wm_newarrE 0 (atype := .int) (ty := .int) rfl rfl (fun _ => rfl) rfl rfl (by decide) k1_82 ⟨by decide, by decide⟩ d_MM_init_251 e167 ?_
  have hOM169 : mOk M169 := by rw [e170]; exact mOk_UR hOM166
  refine pf_MM_96 rfl rfl d_MM_init_253 h168 e170 ?_
  refine wm_aload_n d_MM_init_256 rfl rfl ?_
  refine wm_sipush d_MM_init_257 (by decide) ?_
  have hOM171 : mOk M171 := by rw [e172]; exact mOk_New hOM169
  refine wm_newarrE 0 (atype := .int) (ty := .int) rfl rfl (fun _ => rfl) rfl rfl (by decide) k1_82 ⟨by decide, by decide⟩ d_MM_init_260 e172 ?_
  have hOM174 : mOk M174 := by rw [e175]; exact mOk_UR hOM171
  refine pf_MM_99 rfl rfl d_MM_init_262 h173 e175 ?_
  refine wm_aload_n d_MM_init_265 rfl rfl ?_
  have hOM176 : mOk M176 := by rw [e177]; exact mOk_New hOM174
  refine nf_MM_7 rfl d_MM_init_266 e177 ?_
  refine wm_dup d_MM_init_269 rfl ?_
  refine cf_MM_9 rfl d_MM_init_270 (by rw [e177]; exact if_pos rfl) (Nat.le_of_ble_eq_true rfl) (Cv.mono h (fun M178 h => ?_))
  obtain ⟨hOM178, h⟩ := h
  obtain ⟨h181, h⟩ := h
  obtain ⟨M182, e183⟩ : ∃ M182, M182 = mUR M178 a0 35 (mZ M174) := ⟨_, rfl⟩
  replace h := h M182 e183
  obtain ⟨M184, e185⟩ : ∃ M184, M184 = mNew M182 15 0 2 := ⟨_, rfl⟩
  replace h := h M184 e185
  have hOM182 : mOk M182 := by rw [e183]; exact mOk_UR hOM178
  refine pf_MM_102 rfl rfl d_MM_init_273 h181 e183 ?_
  refine wm_aload_n d_MM_init_276 rfl rfl ?_
  have hOM184 : mOk M184 := by rw [e185]; exact mOk_New hOM182
  refine nf_MM_7 rfl d_MM_init_277 e185 ?_
  refine wm_dup d_MM_init_280 rfl ?_
  refine cf_MM_9 rfl d_MM_init_281 (by rw [e185]; exact if_pos rfl) (Nat.le_of_ble_eq_true rfl) (Cv.mono h (fun M186 h => ?_))
  obtain ⟨hOM186, h⟩ := h
  obtain ⟨h189, h⟩ := h
  obtain ⟨M190, e191⟩ : ∃ M190, M190 = mUR M186 a0 36 (mZ M182) := ⟨_, rfl⟩
  replace h := h M190 e191
  obtain ⟨M192, e193⟩ : ∃ M192, M192 = mNew M190 15 0 2 := ⟨_, rfl⟩
  replace h := h M192 e193
  have hOM190 : mOk M190 := by rw [e191]; exact mOk_UR hOM186
  refine pf_MM_105 rfl rfl d_MM_init_284 h189 e191 ?_
  refine wm_aload_n d_MM_init_287 rfl rfl ?_
  have hOM192 : mOk M192 := by rw [e193]; exact mOk_New hOM190
  refine nf_MM_7 rfl d_MM_init_288 e193 ?_
  refine wm_dup d_MM_init_291 rfl ?_
  refine cf_MM_9 rfl d_MM_init_292 (by rw [e193]; exact if_pos rfl) (Nat.le_of_ble_eq_true rfl) (Cv.mono h (fun M194 h => ?_))
  obtain ⟨hOM194, h⟩ := h
  obtain ⟨h197, h⟩ := h
  obtain ⟨M198, e199⟩ : ∃ M198, M198 = mUR M194 a0 37 (mZ M190) := ⟨_, rfl⟩
  replace h := h M198 e199
  obtain ⟨M200, e201⟩ : ∃ M200, M200 = mNew M198 15 0 2 := ⟨_, rfl⟩
  replace h := h M200 e201
  have hOM198 : mOk M198 := by rw [e199]; exact mOk_UR hOM194
  refine pf_MM_108 rfl rfl d_MM_init_295 h197 e199 ?_
  refine wm_aload_n d_MM_init_298 rfl rfl ?_
  have hOM200 : mOk M200 := by rw [e201]; exact mOk_New hOM198
  refine nf_MM_7 rfl d_MM_init_299 e201 ?_
  refine wm_dup d_MM_init_302 rfl ?_
  refine cf_MM_9 rfl d_MM_init_303 (by rw [e201]; exact if_pos rfl) (Nat.le_of_ble_eq_true rfl) (Cv.mono h (fun M202 h => ?_))
  obtain ⟨hOM202, h⟩ := h
  obtain ⟨h205, h⟩ := h
  obtain ⟨M206, e207⟩ : ∃ M206, M206 = mUR M202 a0 38 (mZ M198) := ⟨_, rfl⟩
  replace h := h M206 e207
  obtain ⟨M208, e209⟩ : ∃ M208, M208 = mNew M206 17 0 32 := ⟨_, rfl⟩
  replace h := h M208 e209
  have hOM206 : mOk M206 := by rw [e207]; exact mOk_UR hOM202
  refine pf_MM_111 rfl rfl d_MM_init_306 h205 e207 ?_
  refine wm_aload_n d_MM_init_309 rfl rfl ?_
  have hOM208 : mOk M208 := by rw [e209]; exact mOk_New hOM206
  refine nf_MM_114 rfl d_MM_init_310 e209 ?_
  refine wm_dup d_MM_init_313 rfl ?_
  refine cf_MM_116 rfl d_MM_init_314 (by rw [e209]; exact if_pos rfl) (Nat.le_of_ble_eq_true rfl) (Cv.mono h (fun M210 h => ?_))
  obtain ⟨hOM210, h⟩ := h
  obtain ⟨h213, h⟩ := h
  obtain ⟨M214, e215⟩ : ∃ M214, M214 = mUR M210 a0 39 (mZ M206) := ⟨_, rfl⟩
  replace h := h M214 e215
  obtain ⟨M216, e217⟩ : ∃ M216, M216 = mNew M214 30 4096 4096 := ⟨_, rfl⟩
  replace h := h M216 e217
  obtain ⟨h218, h⟩ := h
  obtain ⟨M219, e220⟩ : ∃ M219, M219 = mUR M216 a0 41 (mZ M214) := ⟨_, rfl⟩
  replace h := h M219 e220
  obtain ⟨M221, e222⟩ : ∃ M221, M221 = mNew M219 33 4096 4096 := ⟨_, rfl⟩
  replace h := h M221 e222
  obtain ⟨h223, h⟩ := h
  obtain ⟨M224, e225⟩ : ∃ M224, M224 = mUR M221 a0 42 (mZ M219) := ⟨_, rfl⟩
  replace h := h M224 e225
  obtain ⟨M226, e227⟩ : ∃ M226, M226 = mNew M224 33 4096 4096 := ⟨_, rfl⟩
  replace h := h M226 e227
  obtain ⟨h228, h⟩ := h
  obtain ⟨M229, e230⟩ : ∃ M229, M229 = mUR M226 a0 43 (mZ M224) := ⟨_, rfl⟩
  replace h := h M229 e230
  obtain ⟨M231, e232⟩ : ∃ M231, M231 = mNew M229 30 12 12 := ⟨_, rfl⟩
  replace h := h M231 e232
  obtain ⟨h233, h⟩ := h
  obtain ⟨M234, e235⟩ : ∃ M234, M234 = mUR M231 a0 44 (mZ M229) := ⟨_, rfl⟩
  replace h := h M234 e235
  obtain ⟨M236, e237⟩ : ∃ M236, M236 = mNew M234 33 8 8 := ⟨_, rfl⟩
  replace h := h M236 e237
  obtain ⟨h238, h⟩ := h
  obtain ⟨M239, e240⟩ : ∃ M239, M239 = mUR M236 a0 45 (mZ M234) := ⟨_, rfl⟩
  replace h := h M239 e240
  obtain ⟨M241, e242⟩ : ∃ M241, M241 = mNew M239 33 8 8 := ⟨_, rfl⟩
  replace h := h M241 e242
  obtain ⟨h243, h⟩ := h
  obtain ⟨M244, e245⟩ : ∃ M244, M244 = mUR M241 a0 46 (mZ M239) := ⟨_, rfl⟩
  replace h := h M244 e245
  obtain ⟨M246, e247⟩ : ∃ M246, M246 = mNew M244 30 900 900 := ⟨_, rfl⟩
  replace h := h M246 e247
  obtain ⟨h248, h⟩ := h
  obtain ⟨M249, e250⟩ : ∃ M249, M249 = mUR M246 a0 47 (mZ M244) := ⟨_, rfl⟩
  replace h := h M249 e250
  have hOM214 : mOk M214 := by rw [e215]; exact mOk_UR hOM210
  refine pf_MM_117 rfl rfl d_MM_init_317 h213 e215 ?_
  refine wm_aload_n d_MM_init_320 rfl rfl ?_
  refine wm_sipush d_MM_init_321 (by decide) ?_
  have hOM216 : mOk M216 := by rw [e217]; exact mOk_New hOM214
  refine wm_newarrE 0 (atype := .int) (ty := .int) rfl rfl (fun _ => rfl) rfl rfl (by decide) k1_82 ⟨by decide, by decide⟩ d_MM_init_324 e217 ?_
  have hOM219 : mOk M219 := by rw [e220]; exact mOk_UR hOM216
  refine pf_MM_121 rfl rfl d_MM_init_326 h218 e220 ?_
  refine wm_aload_n d_MM_init_329 rfl rfl ?_
  refine wm_sipush d_MM_init_330 (by decide) ?_
  have hOM221 : mOk M221 := by rw [e222]; exact mOk_New hOM219
  refine wm_newarrE 3 (atype := .long) (ty := .long) rfl rfl (fun _ => rfl) rfl rfl (by decide) k3_35 ⟨by decide, by decide⟩ d_MM_init_333 e222 ?_
  have hOM224 : mOk M224 := by rw [e225]; exact mOk_UR hOM221
  refine pf_MM_124 rfl rfl d_MM_init_335 h223 e225 ?_
  refine wm_aload_n d_MM_init_338 rfl rfl ?_
  refine wm_sipush d_MM_init_339 (by decide) ?_
  have hOM226 : mOk M226 := by rw [e227]; exact mOk_New hOM224
  refine wm_newarrE 3 (atype := .long) (ty := .long) rfl rfl (fun _ => rfl) rfl rfl (by decide) k3_35 ⟨by decide, by decide⟩ d_MM_init_342 e227 ?_
  have hOM229 : mOk M229 := by rw [e230]; exact mOk_UR hOM226
  refine pf_MM_127 rfl rfl d_MM_init_344 h228 e230 ?_
  refine wm_aload_n d_MM_init_347 rfl rfl ?_
  refine wm_bipush d_MM_init_348 (by decide) ?_
  have hOM231 : mOk M231 := by rw [e232]; exact mOk_New hOM229
  refine wm_newarrE 0 (atype := .int) (ty := .int) rfl rfl (fun _ => rfl) rfl rfl (by decide) k1_82 ⟨by decide, by decide⟩ d_MM_init_350 e232 ?_
  have hOM234 : mOk M234 := by rw [e235]; exact mOk_UR hOM231
  refine pf_MM_130 rfl rfl d_MM_init_352 h233 e235 ?_
  refine wm_aload_n d_MM_init_355 rfl rfl ?_
  refine wm_bipush d_MM_init_356 (by decide) ?_
  have hOM236 : mOk M236 := by rw [e237]; exact mOk_New hOM234
  refine wm_newarrE 3 (atype := .long) (ty := .long) rfl rfl (fun _ => rfl) rfl rfl (by decide) k3_35 ⟨by decide, by decide⟩ d_MM_init_358 e237 ?_
  have hOM239 : mOk M239 := by rw [e240]; exact mOk_UR hOM236
  refine pf_MM_133 rfl rfl d_MM_init_360 h238 e240 ?_
  refine wm_aload_n d_MM_init_363 rfl rfl ?_
  refine wm_bipush d_MM_init_364 (by decide) ?_
  have hOM241 : mOk M241 := by rw [e242]; exact mOk_New hOM239
  refine wm_newarrE 3 (atype := .long) (ty := .long) rfl rfl (fun _ => rfl) rfl rfl (by decide) k3_35 ⟨by decide, by decide⟩ d_MM_init_366 e242 ?_
  have hOM244 : mOk M244 := by rw [e245]; exact mOk_UR hOM241
  refine pf_MM_136 rfl rfl d_MM_init_368 h243 e245 ?_
  refine wm_aload_n d_MM_init_371 rfl rfl ?_
  refine wm_sipush d_MM_init_372 (by decide) ?_
  have hOM246 : mOk M246 := by rw [e247]; exact mOk_New hOM244
  refine wm_newarrE 0 (atype := .int) (ty := .int) rfl rfl (fun _ => rfl) rfl rfl (by decide) k1_82 ⟨by decide, by decide⟩ d_MM_init_375 e247 ?_
  have hOM249 : mOk M249 := by rw [e250]; exact mOk_UR hOM246
  refine pf_MM_139 rfl rfl d_MM_init_377 h248 e250 ?_
  refine wm_return d_MM_init_380 rfl ?_
  exact ⟨rfl, h⟩
theorem d_MM_thrown_0 : decode y_MM_thrown.2.1 0 = .ok (.aload_n 0, 1) := dc9_42 (by decide +kernel)
theorem d_MM_thrown_1 : decode y_MM_thrown.2.1 1 = .ok (.getfield 142, 3) := dc9_180 (by decide +kernel)
theorem d_MM_thrown_4 : decode y_MM_thrown.2.1 4 = .ok (.ireturn, 1) := dc9_172 (by decide +kernel)
theorem d_MM_feed_0 : decode y_MM_feed.2.1 0 = .ok (.aload_n 0, 1) := dc9_42 (by decide +kernel)
theorem d_MM_feed_1 : decode y_MM_feed.2.1 1 = .ok (.iconst 0, 1) := dc9_3 (by decide +kernel)
theorem d_MM_feed_2 : decode y_MM_feed.2.1 2 = .ok (.putfield 142, 3) := dc9_181 (by decide +kernel)
theorem d_MM_feed_5 : decode y_MM_feed.2.1 5 = .ok (.aload_n 0, 1) := dc9_42 (by decide +kernel)
theorem d_MM_feed_6 : decode y_MM_feed.2.1 6 = .ok (.getfield 10, 3) := dc9_180 (by decide +kernel)
theorem d_MM_feed_9 : decode y_MM_feed.2.1 9 = .ok (.getfield 145, 3) := dc9_180 (by decide +kernel)
theorem d_MM_feed_12 : decode y_MM_feed.2.1 12 = .ok (.bipush 20, 2) := dc9_16 (by decide +kernel)
theorem d_MM_feed_14 : decode y_MM_feed.2.1 14 = .ok (.iadd, 1) := dc9_96 (by decide +kernel)
theorem d_MM_feed_15 : decode y_MM_feed.2.1 15 = .ok (.sipush 16384, 3) := dc9_17 (by decide +kernel)
theorem d_MM_feed_18 : decode y_MM_feed.2.1 18 = .ok (.if_icmp .le 5, 3) := dc9_164 (by decide +kernel)
theorem d_MM_feed_23 : decode y_MM_feed.2.1 23 = .ok (.aload_n 0, 1) := dc9_42 (by decide +kernel)
theorem d_MM_feed_24 : decode y_MM_feed.2.1 24 = .ok (.iload_n 1, 1) := dc9_27 (by decide +kernel)
theorem d_MM_feed_21 : decode y_MM_feed.2.1 21 = .ok (.iconst (-1), 1) := dc9_2 (by decide +kernel)
theorem d_MM_feed_22 : decode y_MM_feed.2.1 22 = .ok (.ireturn, 1) := dc9_172 (by decide +kernel)
theorem d_MM_feed_25 : decode y_MM_feed.2.1 25 = .ok (.invokevirtual 148, 3) := dc9_182 (by decide +kernel)
theorem d_MM_feed_28 : decode y_MM_feed.2.1 28 = .ok (.aload_n 0, 1) := dc9_42 (by decide +kernel)
theorem d_MM_feed_29 : decode y_MM_feed.2.1 29 = .ok (.iload_n 2, 1) := dc9_28 (by decide +kernel)
theorem d_MM_feed_30 : decode y_MM_feed.2.1 30 = .ok (.invokevirtual 148, 3) := dc9_182 (by decide +kernel)
theorem d_MM_feed_33 : decode y_MM_feed.2.1 33 = .ok (.aload_n 0, 1) := dc9_42 (by decide +kernel)
theorem d_MM_feed_34 : decode y_MM_feed.2.1 34 = .ok (.iload_n 3, 1) := dc9_29 (by decide +kernel)
theorem d_MM_feed_35 : decode y_MM_feed.2.1 35 = .ok (.invokevirtual 148, 3) := dc9_182 (by decide +kernel)
theorem d_MM_feed_38 : decode y_MM_feed.2.1 38 = .ok (.aload_n 0, 1) := dc9_42 (by decide +kernel)
theorem d_MM_feed_39 : decode y_MM_feed.2.1 39 = .ok (.iload 4, 2) := dc9_21 (by decide +kernel)
theorem d_MM_feed_41 : decode y_MM_feed.2.1 41 = .ok (.invokevirtual 148, 3) := dc9_182 (by decide +kernel)
theorem d_MM_feed_44 : decode y_MM_feed.2.1 44 = .ok (.aload_n 0, 1) := dc9_42 (by decide +kernel)
theorem d_MM_feed_45 : decode y_MM_feed.2.1 45 = .ok (.iload 5, 2) := dc9_21 (by decide +kernel)
theorem d_MM_feed_47 : decode y_MM_feed.2.1 47 = .ok (.invokevirtual 148, 3) := dc9_182 (by decide +kernel)
theorem d_MM_feed_50 : decode y_MM_feed.2.1 50 = .ok (.aload_n 0, 1) := dc9_42 (by decide +kernel)
theorem d_MM_feed_51 : decode y_MM_feed.2.1 51 = .ok (.getfield 10, 3) := dc9_180 (by decide +kernel)
theorem d_MM_feed_54 : decode y_MM_feed.2.1 54 = .ok (.getfield 145, 3) := dc9_180 (by decide +kernel)
theorem d_MM_feed_57 : decode y_MM_feed.2.1 57 = .ok (.ireturn, 1) := dc9_172 (by decide +kernel)
theorem k_MM_feed {G : mG} {d : Nat} {a0 : Nat} {l1 : Int} {l2 : Int} {l3 : Int} {l4 : Int} {l5 : Int} {M : mM} {Q : Int → mM → Prop} (hO : mOk M) (hi_l1 : i32 l1) (hi_l2 : i32 l2) (hi_l3 : i32 l3) (hi_l4 : i32 l4) (hi_l5 : i32 l5)
    (h : mK M a0 = 14 ∧ ∀ M2, M2 = mUI M a0 0 0 → mK M2 (mR M2 a0 1) = 15 ∧ i32 ((mI M2 (mR M2 a0 1) 1) + 20) ∧ (((mI M2 (mR M2 a0 1) 1) + 20 ≤ 16384) → (Cv G y_MM_add4 d [vr a0, vi l1] M2 (fun M9 => mOk M9 ∧ (mK M9 a0 = 14 ∧ Cv G y_MM_add4 d [vr a0, vi l2] M9 (fun M13 => mOk M13 ∧ (mK M13 a0 = 14 ∧ Cv G y_MM_add4 d [vr a0, vi l3] M13 (fun M17 => mOk M17 ∧ (mK M17 a0 = 14 ∧ Cv G y_MM_add4 d [vr a0, vi l4] M17 (fun M21 => mOk M21 ∧ (mK M21 a0 = 14 ∧ Cv G y_MM_add4 d [vr a0, vi l5] M21 (fun M25 => mOk M25 ∧ (mK M25 a0 = 14 ∧ mK M25 (mR M25 a0 1) = 15 ∧ Q (mI M25 (mR M25 a0 1) 1) M25)))))))))))) ∧ (¬ ((mI M2 (mR M2 a0 1) 1) + 20 ≤ 16384) → (Q (-1) M2))) :
    Ci G y_MM_feed (d + 1) [vr a0, vi l1, vi l2, vi l3, vi l4, vi l5] M Q := by
  refine wm_open (y := y_MM_feed) rfl (Nat.le_of_ble_eq_true rfl) (L := [vr a0, vi l1, vi l2, vi l3, vi l4, vi l5]) rfl ?_
  obtain ⟨h1, h⟩ := h
  obtain ⟨M2, e3⟩ : ∃ M2, M2 = mUI M a0 0 0 := ⟨_, rfl⟩
  replace h := h M2 e3
  obtain ⟨h4, h⟩ := h
  obtain ⟨h7, h⟩ := h
  refine wm_aload_n d_MM_feed_0 rfl rfl ?_
  refine wm_iconst d_MM_feed_1 ?_
  have hOM2 : mOk M2 := by rw [e3]; exact mOk_UI hO ⟨by decide, by decide⟩
  refine pf_MM_142 rfl d_MM_feed_2 h1 ⟨by decide, by decide⟩ e3 ?_
  refine wm_aload_n d_MM_feed_5 rfl rfl ?_
  refine gf_MM_10 rfl d_MM_feed_6 (by rw [e3]; exact h1) ?_
  refine gf_MM_145 rfl d_MM_feed_9 h4 ?_
  refine wm_bipush d_MM_feed_12 (by decide) ?_
  refine wm_iadd d_MM_feed_14 ?_
  refine wm_sipush d_MM_feed_15 (by decide) ?_
  refine wm_icmp_le (tgt := 23) d_MM_feed_18 rfl h7 ⟨by decide, by decide⟩ (fun c8 => ?_) (fun c8 => ?_)
  · replace h := h.1 c8
    refine wm_aload_n d_MM_feed_23 rfl rfl ?_
    refine wm_iload_n d_MM_feed_24 rfl rfl ?_
    refine cf_MM_148 rfl d_MM_feed_25 (by rw [e3]; exact h1) (Nat.le_of_ble_eq_true rfl) (Cv.mono h (fun M9 h => ?_))
    obtain ⟨hOM9, h⟩ := h
    obtain ⟨h12, h⟩ := h
    refine wm_aload_n d_MM_feed_28 rfl rfl ?_
    refine wm_iload_n d_MM_feed_29 rfl rfl ?_
    refine cf_MM_148 rfl d_MM_feed_30 h12 (Nat.le_of_ble_eq_true rfl) (Cv.mono h (fun M13 h => ?_))
    obtain ⟨hOM13, h⟩ := h
    obtain ⟨h16, h⟩ := h
    refine wm_aload_n d_MM_feed_33 rfl rfl ?_
    refine wm_iload_n d_MM_feed_34 rfl rfl ?_
    refine cf_MM_148 rfl d_MM_feed_35 h16 (Nat.le_of_ble_eq_true rfl) (Cv.mono h (fun M17 h => ?_))
    obtain ⟨hOM17, h⟩ := h
    obtain ⟨h20, h⟩ := h
    refine wm_aload_n d_MM_feed_38 rfl rfl ?_
    refine wm_iload d_MM_feed_39 rfl ?_
    refine cf_MM_148 rfl d_MM_feed_41 h20 (Nat.le_of_ble_eq_true rfl) (Cv.mono h (fun M21 h => ?_))
    obtain ⟨hOM21, h⟩ := h
    obtain ⟨h24, h⟩ := h
    refine wm_aload_n d_MM_feed_44 rfl rfl ?_
    refine wm_iload d_MM_feed_45 rfl ?_
    refine cf_MM_148 rfl d_MM_feed_47 h24 (Nat.le_of_ble_eq_true rfl) (Cv.mono h (fun M25 h => ?_))
    obtain ⟨hOM25, h⟩ := h
    obtain ⟨h28, h⟩ := h
    obtain ⟨h29, h⟩ := h
    refine wm_aload_n d_MM_feed_50 rfl rfl ?_
    refine gf_MM_10 rfl d_MM_feed_51 h28 ?_
    refine gf_MM_145 rfl d_MM_feed_54 h29 ?_
    refine wm_ireturn d_MM_feed_57 rfl rfl ?_
    exact ⟨_, rfl, h⟩
  · replace h := h.2 c8
    refine wm_iconst d_MM_feed_21 ?_
    refine wm_ireturn d_MM_feed_22 rfl rfl ?_
    exact ⟨_, rfl, h⟩
theorem d_MM_add4_0 : decode y_MM_add4.2.1 0 = .ok (.bipush 24, 2) := dc9_16 (by decide +kernel)
theorem d_MM_add4_2 : decode y_MM_add4.2.1 2 = .ok (.istore_n 2, 1) := dc9_61 (by decide +kernel)
theorem d_MM_add4_3 : decode y_MM_add4.2.1 3 = .ok (.iload_n 2, 1) := dc9_28 (by decide +kernel)
theorem d_MM_add4_4 : decode y_MM_add4.2.1 4 = .ok (.ifCond .lt 23, 3) := dc9_155 (by decide +kernel)
theorem d_MM_add4_27 : decode y_MM_add4.2.1 27 = .ok (.return_, 1) := dc9_177 (by decide +kernel)
theorem d_MM_add4_7 : decode y_MM_add4.2.1 7 = .ok (.aload_n 0, 1) := dc9_42 (by decide +kernel)
theorem d_MM_add4_8 : decode y_MM_add4.2.1 8 = .ok (.getfield 10, 3) := dc9_180 (by decide +kernel)
theorem d_MM_add4_11 : decode y_MM_add4.2.1 11 = .ok (.iload_n 1, 1) := dc9_27 (by decide +kernel)
theorem d_MM_add4_12 : decode y_MM_add4.2.1 12 = .ok (.iload_n 2, 1) := dc9_28 (by decide +kernel)
theorem d_MM_add4_13 : decode y_MM_add4.2.1 13 = .ok (.ishr, 1) := dc9_122 (by decide +kernel)
theorem d_MM_add4_14 : decode y_MM_add4.2.1 14 = .ok (.sipush 255, 3) := dc9_17 (by decide +kernel)
theorem d_MM_add4_17 : decode y_MM_add4.2.1 17 = .ok (.iand, 1) := dc9_126 (by decide +kernel)
theorem d_MM_add4_18 : decode y_MM_add4.2.1 18 = .ok (.invokevirtual 152, 3) := dc9_182 (by decide +kernel)
theorem d_MM_add4_21 : decode y_MM_add4.2.1 21 = .ok (.iinc 2 (-8), 3) := by decide +kernel
theorem d_MM_add4_24 : decode y_MM_add4.2.1 24 = .ok (.goto (-21), 3) := dc9_167 (by decide +kernel)
def h_MM_add4_3 (G : mG) (d : Nat) (a0 : Nat) (l1 : Int) (l2 : Int) (M : mM) (Q : mM → Prop) : Prop := mWm G y_MM_add4 (d + 1) 3 [vr a0, vi l1, vi l2] [] M (fun r9 M9 => r9 = none ∧ Q M9)
theorem k_MM_add4 {G : mG} {d : Nat} {a0 : Nat} {l1 : Int} {M : mM} {Q : mM → Prop} (hO : mOk M) (hi_l1 : i32 l1)
    (h : h_MM_add4_3 G d a0 l1 24 M Q) :
    Cv G y_MM_add4 (d + 1) [vr a0, vi l1] M Q := by
  refine wm_open (y := y_MM_add4) rfl (Nat.le_of_ble_eq_true rfl) (L := [vr a0, vi l1, vd]) rfl ?_
  refine wm_bipush d_MM_add4_0 (by decide) ?_
  refine wm_istore_n d_MM_add4_2 rfl (by decide) (L' := [vr a0, vi l1, vi 24]) rfl ?_
  exact h
theorem k_MM_add4_3 {G : mG} {d : Nat} {a0 : Nat} {l1 : Int} {l2 : Int} {M : mM} {Q : mM → Prop} (hO : mOk M) (hi_l1 : i32 l1) (hi_l2 : i32 l2)
    (h : ((l2 < 0) → (Q M)) ∧ (¬ (l2 < 0) → (mK M a0 = 14 ∧ mK M (mR M a0 1) = 15 ∧ Cv G y_MN_add d [vr (mR M a0 1), vi (andI (shrI l1 l2) 255)] M (fun M5 => mOk M5 ∧ (h_MM_add4_3 G d a0 l1 (l2 + (-8)) M5 Q))))) :
    h_MM_add4_3 G d a0 l1 l2 M Q := by
  unfold h_MM_add4_3
  refine wm_iload_n d_MM_add4_3 rfl rfl ?_
  refine wm_if_lt (tgt := 27) d_MM_add4_4 rfl hi_l2 (fun c2 => ?_) (fun c2 => ?_)
  · replace h := h.1 c2
    refine wm_return d_MM_add4_27 rfl ?_
    exact ⟨rfl, h⟩
  · replace h := h.2 c2
    obtain ⟨h3, h⟩ := h
    obtain ⟨h4, h⟩ := h
    refine wm_aload_n d_MM_add4_7 rfl rfl ?_
    refine gf_MM_10 rfl d_MM_add4_8 h3 ?_
    refine wm_iload_n d_MM_add4_11 rfl rfl ?_
    refine wm_iload_n d_MM_add4_12 rfl rfl ?_
    refine wm_ishr d_MM_add4_13 ?_
    refine wm_sipush d_MM_add4_14 (by decide) ?_
    refine wm_iand d_MM_add4_17 ?_
    refine cf_MM_152 rfl d_MM_add4_18 h4 (Nat.le_of_ble_eq_true rfl) (Cv.mono h (fun M5 h => ?_))
    obtain ⟨hOM5, h⟩ := h
    refine wm_iinc d_MM_add4_21 (by decide) rfl (L' := [vr a0, vi l1, vi (l2 + (-8))]) rfl ?_
    refine wm_goto (tgt := 3) d_MM_add4_24 rfl ?_
    exact h
theorem d_MM_end_0 : decode y_MM_end.2.1 0 = .ok (.aload_n 0, 1) := dc9_42 (by decide +kernel)
theorem d_MM_end_1 : decode y_MM_end.2.1 1 = .ok (.iload_n 1, 1) := dc9_27 (by decide +kernel)
theorem d_MM_end_2 : decode y_MM_end.2.1 2 = .ok (.ifCond .lt 21, 3) := dc9_155 (by decide +kernel)
theorem d_MM_end_23 : decode y_MM_end.2.1 23 = .ok (.iconst 1, 1) := dc9_4 (by decide +kernel)
theorem d_MM_end_24 : decode y_MM_end.2.1 24 = .ok (.goto 4, 3) := dc9_167 (by decide +kernel)
theorem d_MM_end_5 : decode y_MM_end.2.1 5 = .ok (.iload_n 1, 1) := dc9_27 (by decide +kernel)
theorem d_MM_end_6 : decode y_MM_end.2.1 6 = .ok (.bipush 20, 2) := dc9_16 (by decide +kernel)
theorem d_MM_end_8 : decode y_MM_end.2.1 8 = .ok (.if_icmp .gt 15, 3) := dc9_163 (by decide +kernel)
theorem d_MM_end_11 : decode y_MM_end.2.1 11 = .ok (.aload_n 0, 1) := dc9_42 (by decide +kernel)
theorem d_MM_end_12 : decode y_MM_end.2.1 12 = .ok (.getfield 10, 3) := dc9_180 (by decide +kernel)
theorem d_MM_end_15 : decode y_MM_end.2.1 15 = .ok (.getfield 145, 3) := dc9_180 (by decide +kernel)
theorem d_MM_end_18 : decode y_MM_end.2.1 18 = .ok (.bipush 20, 2) := dc9_16 (by decide +kernel)
theorem d_MM_end_20 : decode y_MM_end.2.1 20 = .ok (.if_icmp .ge 7, 3) := dc9_162 (by decide +kernel)
theorem d_MM_end_27 : decode y_MM_end.2.1 27 = .ok (.iconst 0, 1) := dc9_3 (by decide +kernel)
theorem d_MM_end_28 : decode y_MM_end.2.1 28 = .ok (.putfield 142, 3) := dc9_181 (by decide +kernel)
theorem d_MM_end_31 : decode y_MM_end.2.1 31 = .ok (.aload_n 0, 1) := dc9_42 (by decide +kernel)
theorem d_MM_end_32 : decode y_MM_end.2.1 32 = .ok (.getfield 142, 3) := dc9_180 (by decide +kernel)
theorem d_MM_end_35 : decode y_MM_end.2.1 35 = .ok (.ifCond .le 5, 3) := dc9_158 (by decide +kernel)
theorem d_MM_end_40 : decode y_MM_end.2.1 40 = .ok (.aload_n 0, 1) := dc9_42 (by decide +kernel)
theorem d_MM_end_41 : decode y_MM_end.2.1 41 = .ok (.getfield 10, 3) := dc9_180 (by decide +kernel)
theorem d_MM_end_44 : decode y_MM_end.2.1 44 = .ok (.aload_n 0, 1) := dc9_42 (by decide +kernel)
theorem d_MM_end_45 : decode y_MM_end.2.1 45 = .ok (.getfield 10, 3) := dc9_180 (by decide +kernel)
theorem d_MM_end_48 : decode y_MM_end.2.1 48 = .ok (.getfield 145, 3) := dc9_180 (by decide +kernel)
theorem d_MM_end_51 : decode y_MM_end.2.1 51 = .ok (.bipush 20, 2) := dc9_16 (by decide +kernel)
theorem d_MM_end_53 : decode y_MM_end.2.1 53 = .ok (.isub, 1) := dc9_100 (by decide +kernel)
theorem d_MM_end_54 : decode y_MM_end.2.1 54 = .ok (.iload_n 1, 1) := dc9_27 (by decide +kernel)
theorem d_MM_end_55 : decode y_MM_end.2.1 55 = .ok (.iadd, 1) := dc9_96 (by decide +kernel)
theorem d_MM_end_56 : decode y_MM_end.2.1 56 = .ok (.putfield 145, 3) := dc9_181 (by decide +kernel)
theorem d_MM_end_59 : decode y_MM_end.2.1 59 = .ok (.aload_n 0, 1) := dc9_42 (by decide +kernel)
theorem d_MM_end_60 : decode y_MM_end.2.1 60 = .ok (.getfield 10, 3) := dc9_180 (by decide +kernel)
theorem d_MM_end_63 : decode y_MM_end.2.1 63 = .ok (.getfield 145, 3) := dc9_180 (by decide +kernel)
theorem d_MM_end_66 : decode y_MM_end.2.1 66 = .ok (.ireturn, 1) := dc9_172 (by decide +kernel)
theorem d_MM_end_38 : decode y_MM_end.2.1 38 = .ok (.iconst 0, 1) := dc9_3 (by decide +kernel)
theorem d_MM_end_39 : decode y_MM_end.2.1 39 = .ok (.ireturn, 1) := dc9_172 (by decide +kernel)
theorem k_MM_end {G : mG} {d : Nat} {a0 : Nat} {l1 : Int} {M : mM} {Q : Int → mM → Prop} (hO : mOk M) (hi_l1 : i32 l1)
    (h : (¬ (l1 < 0) → (¬ (20 < l1) → (mK M a0 = 14 ∧ mK M (mR M a0 1) = 15))) ∧ ∀ v6 : Int, v6 = (if ((l1 < 0) ∨ ((20 < l1) ∨ (¬ (20 ≤ mI M (mR M a0 1) 1)))) then 1 else 0) → mK M a0 = 14 ∧ ∀ M12, M12 = mUI M a0 0 v6 → ((mI M12 a0 0 ≤ 0) → (mK M12 (mR M12 a0 1) = 15 ∧ i32 (((mI M12 (mR M12 a0 1) 1) - 20) + l1) ∧ ∀ M21, M21 = mUI M12 (mR M12 a0 1) 1 (((mI M12 (mR M12 a0 1) 1) - 20) + l1) → mK M21 (mR M21 a0 1) = 15 ∧ Q (mI M21 (mR M21 a0 1) 1) M21)) ∧ (¬ (mI M12 a0 0 ≤ 0) → (Q 0 M12))) :
    Ci G y_MM_end d [vr a0, vi l1] M Q := by
  refine wm_open (y := y_MM_end) rfl (Nat.le_of_ble_eq_true rfl) (L := [vr a0, vi l1]) rfl ?_
  refine wm_aload_n d_MM_end_0 rfl rfl ?_
  refine wm_iload_n d_MM_end_1 rfl rfl ?_
  obtain ⟨s7, h⟩ := h
  have hJ : ∀ v6 : Int, v6 = (if ((l1 < 0) ∨ ((20 < l1) ∨ (¬ (20 ≤ mI M (mR M a0 1) 1)))) then 1 else 0) → mWm G y_MM_end d 28 [vr a0, vi l1] [vi v6, vr a0] M (fun r9 M9 => ∃ x9, r9 = some (vi x9) ∧ Q x9 M9) := by
    intro v6 e8
    have h := h v6 e8
    have h9 : i32 v6 := by rw [e8]; (repeat' split) <;> first | exact ⟨by decide, by decide⟩ | exact ⟨by decide, by decide⟩
    have h10 : (v6 = 0 ∨ v6 = 1) := by rw [e8]; (repeat' split) <;> decide
    obtain ⟨h11, h⟩ := h
    obtain ⟨M12, e13⟩ : ∃ M12, M12 = mUI M a0 0 v6 := ⟨_, rfl⟩
    replace h := h M12 e13
    have hOM12 : mOk M12 := by rw [e13]; exact mOk_UI hO h9
    refine pf_MM_142 rfl d_MM_end_28 h11 h9 e13 ?_
    refine wm_aload_n d_MM_end_31 rfl rfl ?_
    refine gf_MM_142 rfl d_MM_end_32 (by rw [e13]; exact h11) ?_
    refine wm_if_le (tgt := 40) d_MM_end_35 rfl (hOM12 _ _).1 (fun c18 => ?_) (fun c18 => ?_)
    · replace h := h.1 c18
      obtain ⟨h19, h⟩ := h
      obtain ⟨h20, h⟩ := h
      obtain ⟨M21, e22⟩ : ∃ M21, M21 = mUI M12 (mR M12 a0 1) 1 (((mI M12 (mR M12 a0 1) 1) - 20) + l1) := ⟨_, rfl⟩
      replace h := h M21 e22
      obtain ⟨h23, h⟩ := h
      refine wm_aload_n d_MM_end_40 rfl rfl ?_
      refine gf_MM_10 rfl d_MM_end_41 (by rw [e13]; exact h11) ?_
      refine wm_aload_n d_MM_end_44 rfl rfl ?_
      refine gf_MM_10 rfl d_MM_end_45 (by rw [e13]; exact h11) ?_
      refine gf_MM_145 rfl d_MM_end_48 h19 ?_
      refine wm_bipush d_MM_end_51 (by decide) ?_
      refine wm_isub d_MM_end_53 ?_
      refine wm_iload_n d_MM_end_54 rfl rfl ?_
      refine wm_iadd d_MM_end_55 ?_
      have hOM21 : mOk M21 := by rw [e22]; exact mOk_UI hOM12 h20
      refine pf_MM_145 rfl d_MM_end_56 h19 h20 e22 ?_
      refine wm_aload_n d_MM_end_59 rfl rfl ?_
      refine gf_MM_10 rfl d_MM_end_60 (by rw [e22, e13]; exact h11) ?_
      refine gf_MM_145 rfl d_MM_end_63 h23 ?_
      refine wm_ireturn d_MM_end_66 rfl rfl ?_
      exact ⟨_, rfl, h⟩
    · replace h := h.2 c18
      refine wm_iconst d_MM_end_38 ?_
      refine wm_ireturn d_MM_end_39 rfl rfl ?_
      exact ⟨_, rfl, h⟩
  clear h
  have s24 := s7
  refine wm_if_lt (tgt := 23) d_MM_end_2 rfl hi_l1 (fun c1 => ?_) (fun c1 => ?_)
  · refine wm_iconst d_MM_end_23 ?_
    refine wm_goto (tgt := 28) d_MM_end_24 rfl ?_
    exact hJ 1 (if_pos (Or.inl c1)).symm
  · have s24 := s24 c1
    have s25 := s24
    refine wm_iload_n d_MM_end_5 rfl rfl ?_
    refine wm_bipush d_MM_end_6 (by decide) ?_
    refine wm_icmp_gt (tgt := 23) d_MM_end_8 rfl hi_l1 ⟨by decide, by decide⟩ (fun c2 => ?_) (fun c2 => ?_)
    · refine wm_iconst d_MM_end_23 ?_
      refine wm_goto (tgt := 28) d_MM_end_24 rfl ?_
      exact hJ 1 (if_pos (Or.inr (Or.inl c2))).symm
    · have s25 := s25 c2
      obtain ⟨h3, h4⟩ := s25
      refine wm_aload_n d_MM_end_11 rfl rfl ?_
      refine gf_MM_10 rfl d_MM_end_12 h3 ?_
      refine gf_MM_145 rfl d_MM_end_15 h4 ?_
      refine wm_bipush d_MM_end_18 (by decide) ?_
      refine wm_icmp_ge (tgt := 27) d_MM_end_20 rfl (hO _ _).1 ⟨by decide, by decide⟩ (fun c5 => ?_) (fun c5 => ?_)
      · refine wm_iconst d_MM_end_27 ?_
        exact hJ 0 (if_neg (fun z26 => Or.elim z26 c1 (fun z27 => Or.elim z27 c2 (fun z28 => z28 c5)))).symm
      · refine wm_iconst d_MM_end_23 ?_
        refine wm_goto (tgt := 28) d_MM_end_24 rfl ?_
        exact hJ 1 (if_pos (Or.inr (Or.inr c5))).symm
theorem d_MM_letter_0 : decode y_MM_letter.2.1 0 = .ok (.iload_n 1, 1) := dc9_27 (by decide +kernel)
theorem d_MM_letter_1 : decode y_MM_letter.2.1 1 = .ok (.aload_n 0, 1) := dc9_42 (by decide +kernel)
theorem d_MM_letter_2 : decode y_MM_letter.2.1 2 = .ok (.getfield 16, 3) := dc9_180 (by decide +kernel)
theorem d_MM_letter_5 : decode y_MM_letter.2.1 5 = .ok (.getfield 145, 3) := dc9_180 (by decide +kernel)
theorem d_MM_letter_8 : decode y_MM_letter.2.1 8 = .ok (.if_icmp .ge 14, 3) := dc9_162 (by decide +kernel)
theorem d_MM_letter_22 : decode y_MM_letter.2.1 22 = .ok (.iconst 0, 1) := dc9_3 (by decide +kernel)
theorem d_MM_letter_11 : decode y_MM_letter.2.1 11 = .ok (.aload_n 0, 1) := dc9_42 (by decide +kernel)
theorem d_MM_letter_12 : decode y_MM_letter.2.1 12 = .ok (.getfield 16, 3) := dc9_180 (by decide +kernel)
theorem d_MM_letter_15 : decode y_MM_letter.2.1 15 = .ok (.iload_n 1, 1) := dc9_27 (by decide +kernel)
theorem d_MM_letter_23 : decode y_MM_letter.2.1 23 = .ok (.ireturn, 1) := dc9_172 (by decide +kernel)
theorem d_MM_letter_16 : decode y_MM_letter.2.1 16 = .ok (.invokevirtual 155, 3) := dc9_182 (by decide +kernel)
theorem d_MM_letter_19 : decode y_MM_letter.2.1 19 = .ok (.goto 4, 3) := dc9_167 (by decide +kernel)
theorem k_MM_letter {G : mG} {d : Nat} {a0 : Nat} {l1 : Int} {M : mM} {Q : Int → mM → Prop} (hO : mOk M) (hi_l1 : i32 l1)
    (h : mK M a0 = 14 ∧ mK M (mR M a0 2) = 15 ∧ ((mI M (mR M a0 2) 1 ≤ l1) → (Q 0 M)) ∧ (¬ (mI M (mR M a0 2) 1 ≤ l1) → (Ci G y_MN_at d [vr (mR M a0 2), vi l1] M (fun x7 M6 => i32 x7 ∧ mOk M6 ∧ (Q x7 M6))))) :
    Ci G y_MM_letter (d + 1) [vr a0, vi l1] M Q := by
  refine wm_open (y := y_MM_letter) rfl (Nat.le_of_ble_eq_true rfl) (L := [vr a0, vi l1]) rfl ?_
  obtain ⟨h1, h⟩ := h
  obtain ⟨h2, h⟩ := h
  refine wm_iload_n d_MM_letter_0 rfl rfl ?_
  refine wm_aload_n d_MM_letter_1 rfl rfl ?_
  refine gf_MM_16 rfl d_MM_letter_2 h1 ?_
  refine gf_MM_145 rfl d_MM_letter_5 h2 ?_
  refine wm_icmp_ge (tgt := 22) d_MM_letter_8 rfl hi_l1 (hO _ _).1 (fun c5 => ?_) (fun c5 => ?_)
  · replace h := h.1 c5
    refine wm_iconst d_MM_letter_22 ?_
    refine wm_ireturn d_MM_letter_23 rfl rfl ?_
    exact ⟨_, rfl, h⟩
  · replace h := h.2 c5
    refine wm_aload_n d_MM_letter_11 rfl rfl ?_
    refine gf_MM_16 rfl d_MM_letter_12 h1 ?_
    refine wm_iload_n d_MM_letter_15 rfl rfl ?_
    refine cf_MM_155 rfl d_MM_letter_16 h2 (Nat.le_of_ble_eq_true rfl) (Ci.mono h (fun x7 M6 h => ?_))
    obtain ⟨h8, hOM6, h⟩ := h
    refine wm_goto (tgt := 23) d_MM_letter_19 rfl ?_
    refine wm_ireturn d_MM_letter_23 rfl rfl ?_
    exact ⟨_, rfl, h⟩
end
section
theorem d_MM_isLetter_0 : decode y_MM_isLetter.2.1 0 = .ok (.iload_n 0, 1) := dc9_26 (by decide +kernel)
theorem d_MM_isLetter_1 : decode y_MM_isLetter.2.1 1 = .ok (.bipush 97, 2) := dc9_16 (by decide +kernel)
theorem d_MM_isLetter_3 : decode y_MM_isLetter.2.1 3 = .ok (.if_icmp .lt 9, 3) := dc9_161 (by decide +kernel)
theorem d_MM_isLetter_12 : decode y_MM_isLetter.2.1 12 = .ok (.iload_n 0, 1) := dc9_26 (by decide +kernel)
theorem d_MM_isLetter_13 : decode y_MM_isLetter.2.1 13 = .ok (.bipush 65, 2) := dc9_16 (by decide +kernel)
theorem d_MM_isLetter_15 : decode y_MM_isLetter.2.1 15 = .ok (.if_icmp .lt 13, 3) := dc9_161 (by decide +kernel)
theorem d_MM_isLetter_28 : decode y_MM_isLetter.2.1 28 = .ok (.iconst 0, 1) := dc9_3 (by decide +kernel)
theorem d_MM_isLetter_18 : decode y_MM_isLetter.2.1 18 = .ok (.iload_n 0, 1) := dc9_26 (by decide +kernel)
theorem d_MM_isLetter_19 : decode y_MM_isLetter.2.1 19 = .ok (.bipush 90, 2) := dc9_16 (by decide +kernel)
theorem d_MM_isLetter_21 : decode y_MM_isLetter.2.1 21 = .ok (.if_icmp .gt 7, 3) := dc9_163 (by decide +kernel)
theorem d_MM_isLetter_24 : decode y_MM_isLetter.2.1 24 = .ok (.iconst 1, 1) := dc9_4 (by decide +kernel)
theorem d_MM_isLetter_25 : decode y_MM_isLetter.2.1 25 = .ok (.goto 4, 3) := dc9_167 (by decide +kernel)
theorem d_MM_isLetter_6 : decode y_MM_isLetter.2.1 6 = .ok (.iload_n 0, 1) := dc9_26 (by decide +kernel)
theorem d_MM_isLetter_7 : decode y_MM_isLetter.2.1 7 = .ok (.bipush 122, 2) := dc9_16 (by decide +kernel)
theorem d_MM_isLetter_9 : decode y_MM_isLetter.2.1 9 = .ok (.if_icmp .le 15, 3) := dc9_164 (by decide +kernel)
theorem d_MM_isLetter_29 : decode y_MM_isLetter.2.1 29 = .ok (.ireturn, 1) := dc9_172 (by decide +kernel)
theorem k_MM_isLetter {G : mG} {d : Nat} {l0 : Int} {M : mM} {Q : Int → mM → Prop} (hO : mOk M) (hi_l0 : i32 l0)
    (h : ∀ v7 : Int, v7 = (if (((l0 < 97) ∧ ((l0 < 65) ∨ (90 < l0))) ∨ ((¬ (l0 < 97)) ∧ ((¬ (l0 ≤ 122)) ∧ ((l0 < 65) ∨ (90 < l0))))) then 0 else 1) → Q v7 M) :
    Ci G y_MM_isLetter d [vi l0] M Q := by
  refine wm_open (y := y_MM_isLetter) rfl (Nat.le_of_ble_eq_true rfl) (L := [vi l0]) rfl ?_
  refine wm_iload_n d_MM_isLetter_0 rfl rfl ?_
  refine wm_bipush d_MM_isLetter_1 (by decide) ?_
  have hJ : ∀ v7 : Int, v7 = (if (((l0 < 97) ∧ ((l0 < 65) ∨ (90 < l0))) ∨ ((¬ (l0 < 97)) ∧ ((¬ (l0 ≤ 122)) ∧ ((l0 < 65) ∨ (90 < l0))))) then 0 else 1) → mWm G y_MM_isLetter d 29 [vd] [vi v7] M (fun r9 M9 => ∃ x9, r9 = some (vi x9) ∧ Q x9 M9) := by
    intro v7 e9
    have h := h v7 e9
    have h10 : i32 v7 := by rw [e9]; (repeat' split) <;> first | exact ⟨by decide, by decide⟩ | exact ⟨by decide, by decide⟩
    have h11 : (v7 = 0 ∨ v7 = 1) := by rw [e9]; (repeat' split) <;> decide
    refine wm_ireturn d_MM_isLetter_29 rfl (m_nb h11) ?_
    exact ⟨_, rfl, h⟩
  clear h
  refine wm_icmp_lt (tgt := 12) d_MM_isLetter_3 rfl hi_l0 ⟨by decide, by decide⟩ (fun c1 => ?_) (fun c1 => ?_)
  · refine wm_iload_n d_MM_isLetter_12 rfl rfl ?_
    refine wm_bipush d_MM_isLetter_13 (by decide) ?_
    refine wm_icmp_lt (tgt := 28) d_MM_isLetter_15 rfl hi_l0 ⟨by decide, by decide⟩ (fun c2 => ?_) (fun c2 => ?_)
    · refine wm_iconst d_MM_isLetter_28 ?_
      refine wm_less (L' := [vd]) ⟨Or.inl rfl, trivial⟩ ?_
      exact hJ 0 (if_pos (Or.inl ⟨c1, (Or.inl c2)⟩)).symm
    · refine wm_iload_n d_MM_isLetter_18 rfl rfl ?_
      refine wm_bipush d_MM_isLetter_19 (by decide) ?_
      refine wm_icmp_gt (tgt := 28) d_MM_isLetter_21 rfl hi_l0 ⟨by decide, by decide⟩ (fun c3 => ?_) (fun c3 => ?_)
      · refine wm_iconst d_MM_isLetter_28 ?_
        refine wm_less (L' := [vd]) ⟨Or.inl rfl, trivial⟩ ?_
        exact hJ 0 (if_pos (Or.inl ⟨c1, (Or.inr c3)⟩)).symm
      · refine wm_iconst d_MM_isLetter_24 ?_
        refine wm_goto (tgt := 29) d_MM_isLetter_25 rfl ?_
        refine wm_less (L' := [vd]) ⟨Or.inl rfl, trivial⟩ ?_
        exact hJ 1 (if_neg (fun z12 => Or.elim z12 (fun w => (fun z13 => Or.elim z13 c2 c3) w.2) (fun w => w.1 c1))).symm
  · refine wm_iload_n d_MM_isLetter_6 rfl rfl ?_
    refine wm_bipush d_MM_isLetter_7 (by decide) ?_
    refine wm_icmp_le (tgt := 24) d_MM_isLetter_9 rfl hi_l0 ⟨by decide, by decide⟩ (fun c4 => ?_) (fun c4 => ?_)
    · refine wm_iconst d_MM_isLetter_24 ?_
      refine wm_goto (tgt := 29) d_MM_isLetter_25 rfl ?_
      refine wm_less (L' := [vd]) ⟨Or.inl rfl, trivial⟩ ?_
      exact hJ 1 (if_neg (fun z15 => Or.elim z15 (fun w => c1 w.1) (fun w => (fun z16 => z16.1 c4) w.2))).symm
    · refine wm_iload_n d_MM_isLetter_12 rfl rfl ?_
      refine wm_bipush d_MM_isLetter_13 (by decide) ?_
      refine wm_icmp_lt (tgt := 28) d_MM_isLetter_15 rfl hi_l0 ⟨by decide, by decide⟩ (fun c5 => ?_) (fun c5 => ?_)
      · refine wm_iconst d_MM_isLetter_28 ?_
        refine wm_less (L' := [vd]) ⟨Or.inl rfl, trivial⟩ ?_
        exact hJ 0 (if_pos (Or.inr ⟨c1, ⟨c4, (Or.inl c5)⟩⟩)).symm
      · refine wm_iload_n d_MM_isLetter_18 rfl rfl ?_
        refine wm_bipush d_MM_isLetter_19 (by decide) ?_
        refine wm_icmp_gt (tgt := 28) d_MM_isLetter_21 rfl hi_l0 ⟨by decide, by decide⟩ (fun c6 => ?_) (fun c6 => ?_)
        · refine wm_iconst d_MM_isLetter_28 ?_
          refine wm_less (L' := [vd]) ⟨Or.inl rfl, trivial⟩ ?_
          exact hJ 0 (if_pos (Or.inr ⟨c1, ⟨c4, (Or.inr c6)⟩⟩)).symm
        · refine wm_iconst d_MM_isLetter_24 ?_
          refine wm_goto (tgt := 29) d_MM_isLetter_25 rfl ?_
          refine wm_less (L' := [vd]) ⟨Or.inl rfl, trivial⟩ ?_
          exact hJ 1 (if_neg (fun z17 => Or.elim z17 (fun w => c1 w.1) (fun w => (fun z18 => (fun z19 => Or.elim z19 c5 c6) z18.2) w.2))).symm
theorem d_MM_isDigit_0 : decode y_MM_isDigit.2.1 0 = .ok (.iload_n 0, 1) := dc9_26 (by decide +kernel)
theorem d_MM_isDigit_1 : decode y_MM_isDigit.2.1 1 = .ok (.bipush 48, 2) := dc9_16 (by decide +kernel)
theorem d_MM_isDigit_3 : decode y_MM_isDigit.2.1 3 = .ok (.if_icmp .lt 13, 3) := dc9_161 (by decide +kernel)
theorem d_MM_isDigit_16 : decode y_MM_isDigit.2.1 16 = .ok (.iconst 0, 1) := dc9_3 (by decide +kernel)
theorem d_MM_isDigit_6 : decode y_MM_isDigit.2.1 6 = .ok (.iload_n 0, 1) := dc9_26 (by decide +kernel)
theorem d_MM_isDigit_7 : decode y_MM_isDigit.2.1 7 = .ok (.bipush 57, 2) := dc9_16 (by decide +kernel)
theorem d_MM_isDigit_9 : decode y_MM_isDigit.2.1 9 = .ok (.if_icmp .gt 7, 3) := dc9_163 (by decide +kernel)
theorem d_MM_isDigit_12 : decode y_MM_isDigit.2.1 12 = .ok (.iconst 1, 1) := dc9_4 (by decide +kernel)
theorem d_MM_isDigit_13 : decode y_MM_isDigit.2.1 13 = .ok (.goto 4, 3) := dc9_167 (by decide +kernel)
theorem d_MM_isDigit_17 : decode y_MM_isDigit.2.1 17 = .ok (.ireturn, 1) := dc9_172 (by decide +kernel)
theorem k_MM_isDigit {G : mG} {d : Nat} {l0 : Int} {M : mM} {Q : Int → mM → Prop} (hO : mOk M) (hi_l0 : i32 l0)
    (h : ∀ v3 : Int, v3 = (if ((l0 < 48) ∨ (57 < l0)) then 0 else 1) → Q v3 M) :
    Ci G y_MM_isDigit d [vi l0] M Q := by
  refine wm_open (y := y_MM_isDigit) rfl (Nat.le_of_ble_eq_true rfl) (L := [vi l0]) rfl ?_
  refine wm_iload_n d_MM_isDigit_0 rfl rfl ?_
  refine wm_bipush d_MM_isDigit_1 (by decide) ?_
  have hJ : ∀ v3 : Int, v3 = (if ((l0 < 48) ∨ (57 < l0)) then 0 else 1) → mWm G y_MM_isDigit d 17 [vd] [vi v3] M (fun r9 M9 => ∃ x9, r9 = some (vi x9) ∧ Q x9 M9) := by
    intro v3 e5
    have h := h v3 e5
    have h6 : i32 v3 := by rw [e5]; (repeat' split) <;> first | exact ⟨by decide, by decide⟩ | exact ⟨by decide, by decide⟩
    have h7 : (v3 = 0 ∨ v3 = 1) := by rw [e5]; (repeat' split) <;> decide
    refine wm_ireturn d_MM_isDigit_17 rfl (m_nb h7) ?_
    exact ⟨_, rfl, h⟩
  clear h
  refine wm_icmp_lt (tgt := 16) d_MM_isDigit_3 rfl hi_l0 ⟨by decide, by decide⟩ (fun c1 => ?_) (fun c1 => ?_)
  · refine wm_iconst d_MM_isDigit_16 ?_
    refine wm_less (L' := [vd]) ⟨Or.inl rfl, trivial⟩ ?_
    exact hJ 0 (if_pos (Or.inl c1)).symm
  · refine wm_iload_n d_MM_isDigit_6 rfl rfl ?_
    refine wm_bipush d_MM_isDigit_7 (by decide) ?_
    refine wm_icmp_gt (tgt := 16) d_MM_isDigit_9 rfl hi_l0 ⟨by decide, by decide⟩ (fun c2 => ?_) (fun c2 => ?_)
    · refine wm_iconst d_MM_isDigit_16 ?_
      refine wm_less (L' := [vd]) ⟨Or.inl rfl, trivial⟩ ?_
      exact hJ 0 (if_pos (Or.inr c2)).symm
    · refine wm_iconst d_MM_isDigit_12 ?_
      refine wm_goto (tgt := 17) d_MM_isDigit_13 rfl ?_
      refine wm_less (L' := [vd]) ⟨Or.inl rfl, trivial⟩ ?_
      exact hJ 1 (if_neg (fun z8 => Or.elim z8 c1 c2)).symm
theorem d_MM_isBlank_0 : decode y_MM_isBlank.2.1 0 = .ok (.iload_n 0, 1) := dc9_26 (by decide +kernel)
theorem d_MM_isBlank_1 : decode y_MM_isBlank.2.1 1 = .ok (.bipush 9, 2) := dc9_16 (by decide +kernel)
theorem d_MM_isBlank_3 : decode y_MM_isBlank.2.1 3 = .ok (.if_icmp .eq 21, 3) := dc9_159 (by decide +kernel)
theorem d_MM_isBlank_24 : decode y_MM_isBlank.2.1 24 = .ok (.iconst 1, 1) := dc9_4 (by decide +kernel)
theorem d_MM_isBlank_25 : decode y_MM_isBlank.2.1 25 = .ok (.goto 4, 3) := dc9_167 (by decide +kernel)
theorem d_MM_isBlank_6 : decode y_MM_isBlank.2.1 6 = .ok (.iload_n 0, 1) := dc9_26 (by decide +kernel)
theorem d_MM_isBlank_7 : decode y_MM_isBlank.2.1 7 = .ok (.bipush 10, 2) := dc9_16 (by decide +kernel)
theorem d_MM_isBlank_9 : decode y_MM_isBlank.2.1 9 = .ok (.if_icmp .eq 15, 3) := dc9_159 (by decide +kernel)
theorem d_MM_isBlank_12 : decode y_MM_isBlank.2.1 12 = .ok (.iload_n 0, 1) := dc9_26 (by decide +kernel)
theorem d_MM_isBlank_13 : decode y_MM_isBlank.2.1 13 = .ok (.bipush 13, 2) := dc9_16 (by decide +kernel)
theorem d_MM_isBlank_15 : decode y_MM_isBlank.2.1 15 = .ok (.if_icmp .eq 9, 3) := dc9_159 (by decide +kernel)
theorem d_MM_isBlank_18 : decode y_MM_isBlank.2.1 18 = .ok (.iload_n 0, 1) := dc9_26 (by decide +kernel)
theorem d_MM_isBlank_19 : decode y_MM_isBlank.2.1 19 = .ok (.bipush 32, 2) := dc9_16 (by decide +kernel)
theorem d_MM_isBlank_21 : decode y_MM_isBlank.2.1 21 = .ok (.if_icmp .ne 7, 3) := dc9_160 (by decide +kernel)
theorem d_MM_isBlank_28 : decode y_MM_isBlank.2.1 28 = .ok (.iconst 0, 1) := dc9_3 (by decide +kernel)
theorem d_MM_isBlank_29 : decode y_MM_isBlank.2.1 29 = .ok (.ireturn, 1) := dc9_172 (by decide +kernel)
theorem k_MM_isBlank {G : mG} {d : Nat} {l0 : Int} {M : mM} {Q : Int → mM → Prop} (hO : mOk M) (hi_l0 : i32 l0)
    (h : ∀ v5 : Int, v5 = (if ((l0 = 9) ∨ ((l0 = 10) ∨ ((l0 = 13) ∨ (l0 = 32)))) then 1 else 0) → Q v5 M) :
    Ci G y_MM_isBlank d [vi l0] M Q := by
  refine wm_open (y := y_MM_isBlank) rfl (Nat.le_of_ble_eq_true rfl) (L := [vi l0]) rfl ?_
  refine wm_iload_n d_MM_isBlank_0 rfl rfl ?_
  refine wm_bipush d_MM_isBlank_1 (by decide) ?_
  have hJ : ∀ v5 : Int, v5 = (if ((l0 = 9) ∨ ((l0 = 10) ∨ ((l0 = 13) ∨ (l0 = 32)))) then 1 else 0) → mWm G y_MM_isBlank d 29 [vd] [vi v5] M (fun r9 M9 => ∃ x9, r9 = some (vi x9) ∧ Q x9 M9) := by
    intro v5 e7
    have h := h v5 e7
    have h8 : i32 v5 := by rw [e7]; (repeat' split) <;> first | exact ⟨by decide, by decide⟩ | exact ⟨by decide, by decide⟩
    have h9 : (v5 = 0 ∨ v5 = 1) := by rw [e7]; (repeat' split) <;> decide
    refine wm_ireturn d_MM_isBlank_29 rfl (m_nb h9) ?_
    exact ⟨_, rfl, h⟩
  clear h
  refine wm_icmp_eq (tgt := 24) d_MM_isBlank_3 rfl hi_l0 ⟨by decide, by decide⟩ (fun c1 => ?_) (fun c1 => ?_)
  · refine wm_iconst d_MM_isBlank_24 ?_
    refine wm_goto (tgt := 29) d_MM_isBlank_25 rfl ?_
    refine wm_less (L' := [vd]) ⟨Or.inl rfl, trivial⟩ ?_
    exact hJ 1 (if_pos (Or.inl c1)).symm
  · refine wm_iload_n d_MM_isBlank_6 rfl rfl ?_
    refine wm_bipush d_MM_isBlank_7 (by decide) ?_
    refine wm_icmp_eq (tgt := 24) d_MM_isBlank_9 rfl hi_l0 ⟨by decide, by decide⟩ (fun c2 => ?_) (fun c2 => ?_)
    · refine wm_iconst d_MM_isBlank_24 ?_
      refine wm_goto (tgt := 29) d_MM_isBlank_25 rfl ?_
      refine wm_less (L' := [vd]) ⟨Or.inl rfl, trivial⟩ ?_
      exact hJ 1 (if_pos (Or.inr (Or.inl c2))).symm
    · refine wm_iload_n d_MM_isBlank_12 rfl rfl ?_
      refine wm_bipush d_MM_isBlank_13 (by decide) ?_
      refine wm_icmp_eq (tgt := 24) d_MM_isBlank_15 rfl hi_l0 ⟨by decide, by decide⟩ (fun c3 => ?_) (fun c3 => ?_)
      · refine wm_iconst d_MM_isBlank_24 ?_
        refine wm_goto (tgt := 29) d_MM_isBlank_25 rfl ?_
        refine wm_less (L' := [vd]) ⟨Or.inl rfl, trivial⟩ ?_
        exact hJ 1 (if_pos (Or.inr (Or.inr (Or.inl c3)))).symm
      · refine wm_iload_n d_MM_isBlank_18 rfl rfl ?_
        refine wm_bipush d_MM_isBlank_19 (by decide) ?_
        refine wm_icmp_ne (tgt := 28) d_MM_isBlank_21 rfl hi_l0 ⟨by decide, by decide⟩ (fun c4 => ?_) (fun c4 => ?_)
        · refine wm_iconst d_MM_isBlank_28 ?_
          refine wm_less (L' := [vd]) ⟨Or.inl rfl, trivial⟩ ?_
          exact hJ 0 (if_neg (fun z10 => Or.elim z10 c1 (fun z11 => Or.elim z11 c2 (fun z12 => Or.elim z12 c3 c4)))).symm
        · replace c4 := Classical.not_not.mp c4
          refine wm_iconst d_MM_isBlank_24 ?_
          refine wm_goto (tgt := 29) d_MM_isBlank_25 rfl ?_
          refine wm_less (L' := [vd]) ⟨Or.inl rfl, trivial⟩ ?_
          exact hJ 1 (if_pos (Or.inr (Or.inr (Or.inr c4)))).symm
theorem d_MM_skip_0 : decode y_MM_skip.2.1 0 = .ok (.iload_n 1, 1) := dc9_27 (by decide +kernel)
theorem d_MM_skip_1 : decode y_MM_skip.2.1 1 = .ok (.istore_n 2, 1) := dc9_61 (by decide +kernel)
theorem d_MM_skip_2 : decode y_MM_skip.2.1 2 = .ok (.iload_n 2, 1) := dc9_28 (by decide +kernel)
theorem d_MM_skip_3 : decode y_MM_skip.2.1 3 = .ok (.aload_n 0, 1) := dc9_42 (by decide +kernel)
theorem d_MM_skip_4 : decode y_MM_skip.2.1 4 = .ok (.getfield 16, 3) := dc9_180 (by decide +kernel)
theorem d_MM_skip_7 : decode y_MM_skip.2.1 7 = .ok (.getfield 145, 3) := dc9_180 (by decide +kernel)
theorem d_MM_skip_10 : decode y_MM_skip.2.1 10 = .ok (.if_icmp .ge 67, 3) := dc9_162 (by decide +kernel)
theorem d_MM_skip_13 : decode y_MM_skip.2.1 13 = .ok (.aload_n 0, 1) := dc9_42 (by decide +kernel)
theorem d_MM_skip_14 : decode y_MM_skip.2.1 14 = .ok (.iload_n 2, 1) := dc9_28 (by decide +kernel)
theorem d_MM_skip_77 : decode y_MM_skip.2.1 77 = .ok (.iload_n 2, 1) := dc9_28 (by decide +kernel)
theorem d_MM_skip_78 : decode y_MM_skip.2.1 78 = .ok (.ireturn, 1) := dc9_172 (by decide +kernel)
theorem d_MM_skip_15 : decode y_MM_skip.2.1 15 = .ok (.invokevirtual 159, 3) := dc9_182 (by decide +kernel)
theorem d_MM_skip_18 : decode y_MM_skip.2.1 18 = .ok (.invokestatic 162, 3) := dc9_184 (by decide +kernel)
theorem d_MM_skip_21 : decode y_MM_skip.2.1 21 = .ok (.ifCond .ne 13, 3) := dc9_154 (by decide +kernel)
theorem d_MM_skip_24 : decode y_MM_skip.2.1 24 = .ok (.aload_n 0, 1) := dc9_42 (by decide +kernel)
theorem d_MM_skip_25 : decode y_MM_skip.2.1 25 = .ok (.iload_n 2, 1) := dc9_28 (by decide +kernel)
theorem d_MM_skip_26 : decode y_MM_skip.2.1 26 = .ok (.invokevirtual 159, 3) := dc9_182 (by decide +kernel)
theorem d_MM_skip_29 : decode y_MM_skip.2.1 29 = .ok (.bipush 35, 2) := dc9_16 (by decide +kernel)
theorem d_MM_skip_31 : decode y_MM_skip.2.1 31 = .ok (.if_icmp .ne 46, 3) := dc9_160 (by decide +kernel)
theorem d_MM_skip_34 : decode y_MM_skip.2.1 34 = .ok (.aload_n 0, 1) := dc9_42 (by decide +kernel)
theorem d_MM_skip_35 : decode y_MM_skip.2.1 35 = .ok (.iload_n 2, 1) := dc9_28 (by decide +kernel)
theorem d_MM_skip_36 : decode y_MM_skip.2.1 36 = .ok (.invokevirtual 159, 3) := dc9_182 (by decide +kernel)
theorem d_MM_skip_39 : decode y_MM_skip.2.1 39 = .ok (.bipush 35, 2) := dc9_16 (by decide +kernel)
theorem d_MM_skip_41 : decode y_MM_skip.2.1 41 = .ok (.if_icmp .ne 30, 3) := dc9_160 (by decide +kernel)
theorem d_MM_skip_71 : decode y_MM_skip.2.1 71 = .ok (.iinc 2 1, 3) := by decide +kernel
theorem d_MM_skip_74 : decode y_MM_skip.2.1 74 = .ok (.goto (-72), 3) := dc9_167 (by decide +kernel)
theorem d_MM_skip_44 : decode y_MM_skip.2.1 44 = .ok (.iload_n 2, 1) := dc9_28 (by decide +kernel)
theorem d_MM_skip_45 : decode y_MM_skip.2.1 45 = .ok (.aload_n 0, 1) := dc9_42 (by decide +kernel)
theorem d_MM_skip_46 : decode y_MM_skip.2.1 46 = .ok (.getfield 16, 3) := dc9_180 (by decide +kernel)
theorem d_MM_skip_49 : decode y_MM_skip.2.1 49 = .ok (.getfield 145, 3) := dc9_180 (by decide +kernel)
theorem d_MM_skip_52 : decode y_MM_skip.2.1 52 = .ok (.if_icmp .ge (-50), 3) := dc9_162 (by decide +kernel)
theorem d_MM_skip_55 : decode y_MM_skip.2.1 55 = .ok (.aload_n 0, 1) := dc9_42 (by decide +kernel)
theorem d_MM_skip_56 : decode y_MM_skip.2.1 56 = .ok (.iload_n 2, 1) := dc9_28 (by decide +kernel)
theorem d_MM_skip_57 : decode y_MM_skip.2.1 57 = .ok (.invokevirtual 159, 3) := dc9_182 (by decide +kernel)
theorem d_MM_skip_60 : decode y_MM_skip.2.1 60 = .ok (.bipush 10, 2) := dc9_16 (by decide +kernel)
theorem d_MM_skip_62 : decode y_MM_skip.2.1 62 = .ok (.if_icmp .eq (-60), 3) := dc9_159 (by decide +kernel)
theorem d_MM_skip_65 : decode y_MM_skip.2.1 65 = .ok (.iinc 2 1, 3) := by decide +kernel
theorem d_MM_skip_68 : decode y_MM_skip.2.1 68 = .ok (.goto (-24), 3) := dc9_167 (by decide +kernel)
def h_MM_skip_2 (G : mG) (d : Nat) (a0 : Nat) (l2 : Int) (M : mM) (Q : Int → mM → Prop) : Prop := mWm G y_MM_skip (d + 1) 2 [vr a0, vd, vi l2] [] M (fun r9 M9 => ∃ x9, r9 = some (vi x9) ∧ Q x9 M9)
def h_MM_skip_44 (G : mG) (d : Nat) (a0 : Nat) (l2 : Int) (M : mM) (Q : Int → mM → Prop) : Prop := mWm G y_MM_skip (d + 1) 44 [vr a0, vd, vi l2] [] M (fun r9 M9 => ∃ x9, r9 = some (vi x9) ∧ Q x9 M9)
theorem k_MM_skip {G : mG} {d : Nat} {a0 : Nat} {l1 : Int} {M : mM} {Q : Int → mM → Prop} (hO : mOk M) (hi_l1 : i32 l1)
    (h : h_MM_skip_2 G d a0 l1 M Q) :
    Ci G y_MM_skip (d + 1) [vr a0, vi l1] M Q := by
  refine wm_open (y := y_MM_skip) rfl (Nat.le_of_ble_eq_true rfl) (L := [vr a0, vi l1, vd]) rfl ?_
  refine wm_iload_n d_MM_skip_0 rfl rfl ?_
  refine wm_istore_n d_MM_skip_1 rfl (by decide) (L' := [vr a0, vi l1, vi l1]) rfl ?_
  refine wm_less (L' := [vr a0, vd, vi l1]) ⟨Or.inr rfl, Or.inl rfl, Or.inr rfl, trivial⟩ ?_
  exact h
theorem k_MM_skip_2 {G : mG} {d : Nat} {a0 : Nat} {l2 : Int} {M : mM} {Q : Int → mM → Prop} (hO : mOk M) (hi_l2 : i32 l2)
    (h : mK M a0 = 14 ∧ mK M (mR M a0 2) = 15 ∧ ((mI M (mR M a0 2) 1 ≤ l2) → (Q l2 M)) ∧ (¬ (mI M (mR M a0 2) 1 ≤ l2) → (Ci G y_MM_letter d [vr a0, vi l2] M (fun x6 M5 => i32 x6 ∧ mOk M5 ∧ (Ci G y_MM_isBlank d [vi x6] M5 (fun x9 M8 => i32 x9 ∧ mOk M8 ∧ (((x9 = 0) → (mK M8 a0 = 14 ∧ Ci G y_MM_letter d [vr a0, vi l2] M8 (fun x15 M14 => i32 x15 ∧ mOk M14 ∧ (((x15 = 35) → (mK M14 a0 = 14 ∧ Ci G y_MM_letter d [vr a0, vi l2] M14 (fun x21 M20 => i32 x21 ∧ mOk M20 ∧ (((x21 = 35) → (h_MM_skip_44 G d a0 l2 M20 Q)) ∧ (¬ (x21 = 35) → (h_MM_skip_2 G d a0 (l2 + 1) M20 Q)))))) ∧ (¬ (x15 = 35) → (Q l2 M14)))))) ∧ (¬ (x9 = 0) → (mK M8 a0 = 14 ∧ Ci G y_MM_letter d [vr a0, vi l2] M8 (fun x27 M26 => i32 x27 ∧ mOk M26 ∧ (((x27 = 35) → (h_MM_skip_44 G d a0 l2 M26 Q)) ∧ (¬ (x27 = 35) → (h_MM_skip_2 G d a0 (l2 + 1) M26 Q))))))))))))) :
    h_MM_skip_2 G d a0 l2 M Q := by
  unfold h_MM_skip_2
  obtain ⟨h1, h⟩ := h
  obtain ⟨h2, h⟩ := h
  refine wm_iload_n d_MM_skip_2 rfl rfl ?_
  refine wm_aload_n d_MM_skip_3 rfl rfl ?_
  refine gf_MM_16 rfl d_MM_skip_4 h1 ?_
  refine gf_MM_145 rfl d_MM_skip_7 h2 ?_
  refine wm_icmp_ge (tgt := 77) d_MM_skip_10 rfl hi_l2 (hO _ _).1 (fun c4 => ?_) (fun c4 => ?_)
  · replace h := h.1 c4
    refine wm_iload_n d_MM_skip_77 rfl rfl ?_
    refine wm_ireturn d_MM_skip_78 rfl rfl ?_
    exact ⟨_, rfl, h⟩
  · replace h := h.2 c4
    refine wm_aload_n d_MM_skip_13 rfl rfl ?_
    refine wm_iload_n d_MM_skip_14 rfl rfl ?_
    refine cf_MM_159 rfl d_MM_skip_15 h1 (Nat.le_of_ble_eq_true rfl) (Ci.mono h (fun x6 M5 h => ?_))
    obtain ⟨h7, hOM5, h⟩ := h
    refine cf_MM_162 rfl d_MM_skip_18 (Nat.le_of_ble_eq_true rfl) (Ci.mono h (fun x9 M8 h => ?_))
    obtain ⟨h10, hOM8, h⟩ := h
    refine wm_if_ne (tgt := 34) d_MM_skip_21 rfl h10 (fun c12 => ?_) (fun c12 => ?_)
    · replace h := h.2 c12
      obtain ⟨h25, h⟩ := h
      refine wm_aload_n d_MM_skip_34 rfl rfl ?_
      refine wm_iload_n d_MM_skip_35 rfl rfl ?_
      refine cf_MM_159 rfl d_MM_skip_36 h25 (Nat.le_of_ble_eq_true rfl) (Ci.mono h (fun x27 M26 h => ?_))
      obtain ⟨h28, hOM26, h⟩ := h
      refine wm_bipush d_MM_skip_39 (by decide) ?_
      refine wm_icmp_ne (tgt := 71) d_MM_skip_41 rfl h28 ⟨by decide, by decide⟩ (fun c30 => ?_) (fun c30 => ?_)
      · replace h := h.2 c30
        refine wm_iinc d_MM_skip_71 (by decide) rfl (L' := [vr a0, vd, vi (l2 + 1)]) rfl ?_
        refine wm_goto (tgt := 2) d_MM_skip_74 rfl ?_
        exact h
      · replace c30 := Classical.not_not.mp c30
        replace h := h.1 c30
        exact h
    · replace c12 := Classical.not_not.mp c12
      replace h := h.1 c12
      obtain ⟨h13, h⟩ := h
      refine wm_aload_n d_MM_skip_24 rfl rfl ?_
      refine wm_iload_n d_MM_skip_25 rfl rfl ?_
      refine cf_MM_159 rfl d_MM_skip_26 h13 (Nat.le_of_ble_eq_true rfl) (Ci.mono h (fun x15 M14 h => ?_))
      obtain ⟨h16, hOM14, h⟩ := h
      refine wm_bipush d_MM_skip_29 (by decide) ?_
      refine wm_icmp_ne (tgt := 77) d_MM_skip_31 rfl h16 ⟨by decide, by decide⟩ (fun c18 => ?_) (fun c18 => ?_)
      · replace h := h.2 c18
        refine wm_iload_n d_MM_skip_77 rfl rfl ?_
        refine wm_ireturn d_MM_skip_78 rfl rfl ?_
        exact ⟨_, rfl, h⟩
      · replace c18 := Classical.not_not.mp c18
        replace h := h.1 c18
        obtain ⟨h19, h⟩ := h
        refine wm_aload_n d_MM_skip_34 rfl rfl ?_
        refine wm_iload_n d_MM_skip_35 rfl rfl ?_
        refine cf_MM_159 rfl d_MM_skip_36 h19 (Nat.le_of_ble_eq_true rfl) (Ci.mono h (fun x21 M20 h => ?_))
        obtain ⟨h22, hOM20, h⟩ := h
        refine wm_bipush d_MM_skip_39 (by decide) ?_
        refine wm_icmp_ne (tgt := 71) d_MM_skip_41 rfl h22 ⟨by decide, by decide⟩ (fun c24 => ?_) (fun c24 => ?_)
        · replace h := h.2 c24
          refine wm_iinc d_MM_skip_71 (by decide) rfl (L' := [vr a0, vd, vi (l2 + 1)]) rfl ?_
          refine wm_goto (tgt := 2) d_MM_skip_74 rfl ?_
          exact h
        · replace c24 := Classical.not_not.mp c24
          replace h := h.1 c24
          exact h
theorem k_MM_skip_44 {G : mG} {d : Nat} {a0 : Nat} {l2 : Int} {M : mM} {Q : Int → mM → Prop} (hO : mOk M) (hi_l2 : i32 l2)
    (h : mK M a0 = 14 ∧ mK M (mR M a0 2) = 15 ∧ ((mI M (mR M a0 2) 1 ≤ l2) → (h_MM_skip_2 G d a0 l2 M Q)) ∧ (¬ (mI M (mR M a0 2) 1 ≤ l2) → (Ci G y_MM_letter d [vr a0, vi l2] M (fun x36 M35 => i32 x36 ∧ mOk M35 ∧ (((x36 = 10) → (h_MM_skip_2 G d a0 l2 M35 Q)) ∧ (¬ (x36 = 10) → (h_MM_skip_44 G d a0 (l2 + 1) M35 Q))))))) :
    h_MM_skip_44 G d a0 l2 M Q := by
  unfold h_MM_skip_44
  obtain ⟨h31, h⟩ := h
  obtain ⟨h32, h⟩ := h
  refine wm_iload_n d_MM_skip_44 rfl rfl ?_
  refine wm_aload_n d_MM_skip_45 rfl rfl ?_
  refine gf_MM_16 rfl d_MM_skip_46 h31 ?_
  refine gf_MM_145 rfl d_MM_skip_49 h32 ?_
  refine wm_icmp_ge (tgt := 2) d_MM_skip_52 rfl hi_l2 (hO _ _).1 (fun c34 => ?_) (fun c34 => ?_)
  · replace h := h.1 c34
    exact h
  · replace h := h.2 c34
    refine wm_aload_n d_MM_skip_55 rfl rfl ?_
    refine wm_iload_n d_MM_skip_56 rfl rfl ?_
    refine cf_MM_159 rfl d_MM_skip_57 h31 (Nat.le_of_ble_eq_true rfl) (Ci.mono h (fun x36 M35 h => ?_))
    obtain ⟨h37, hOM35, h⟩ := h
    refine wm_bipush d_MM_skip_60 (by decide) ?_
    refine wm_icmp_eq (tgt := 2) d_MM_skip_62 rfl h37 ⟨by decide, by decide⟩ (fun c39 => ?_) (fun c39 => ?_)
    · replace h := h.1 c39
      exact h
    · replace h := h.2 c39
      refine wm_iinc d_MM_skip_65 (by decide) rfl (L' := [vr a0, vd, vi (l2 + 1)]) rfl ?_
      refine wm_goto (tgt := 44) d_MM_skip_68 rfl ?_
      exact h
theorem d_MM_signKind_0 : decode y_MM_signKind.2.1 0 = .ok (.aload_n 0, 1) := dc9_42 (by decide +kernel)
theorem d_MM_signKind_1 : decode y_MM_signKind.2.1 1 = .ok (.iload_n 1, 1) := dc9_27 (by decide +kernel)
theorem d_MM_signKind_2 : decode y_MM_signKind.2.1 2 = .ok (.iconst 1, 1) := dc9_4 (by decide +kernel)
theorem d_MM_signKind_3 : decode y_MM_signKind.2.1 3 = .ok (.iadd, 1) := dc9_96 (by decide +kernel)
theorem d_MM_signKind_4 : decode y_MM_signKind.2.1 4 = .ok (.invokevirtual 159, 3) := dc9_182 (by decide +kernel)
theorem d_MM_signKind_7 : decode y_MM_signKind.2.1 7 = .ok (.istore_n 2, 1) := dc9_61 (by decide +kernel)
theorem d_MM_signKind_8 : decode y_MM_signKind.2.1 8 = .ok (.aload_n 0, 1) := dc9_42 (by decide +kernel)
theorem d_MM_signKind_9 : decode y_MM_signKind.2.1 9 = .ok (.iload_n 1, 1) := dc9_27 (by decide +kernel)
theorem d_MM_signKind_10 : decode y_MM_signKind.2.1 10 = .ok (.invokevirtual 159, 3) := dc9_182 (by decide +kernel)
theorem d_MM_signKind_13 : decode y_MM_signKind.2.1 13 = .ok (.lookupswitch 275 #[(33, 191), (37, 245), (38, 248), (39, 272), (40, 266), (41, 269), (42, 239), (43, 236), (44, 263), (45, 177), (46, 163), (47, 242), (58, 257), (59, 260), (60, 205), (61, 233), (62, 219), (63, 254), (124, 251)], 163) := by decide +kernel
theorem z_MM_signKind_13_s : lkS #[(33, 191), (37, 245), (38, 248), (39, 272), (40, 266), (41, 269), (42, 239), (43, 236), (44, 263), (45, 177), (46, 163), (47, 242), (58, 257), (59, 260), (60, 205), (61, 233), (62, 219), (63, 254), (124, 251)] := by unfold lkS; decide
theorem d_MM_signKind_204 : decode y_MM_signKind.2.1 204 = .ok (.iload_n 2, 1) := dc9_28 (by decide +kernel)
theorem d_MM_signKind_205 : decode y_MM_signKind.2.1 205 = .ok (.bipush 61, 2) := dc9_16 (by decide +kernel)
theorem d_MM_signKind_207 : decode y_MM_signKind.2.1 207 = .ok (.if_icmp .ne 8, 3) := dc9_160 (by decide +kernel)
theorem d_MM_signKind_210 : decode y_MM_signKind.2.1 210 = .ok (.bipush 18, 2) := dc9_16 (by decide +kernel)
theorem d_MM_signKind_212 : decode y_MM_signKind.2.1 212 = .ok (.goto 5, 3) := dc9_167 (by decide +kernel)
theorem d_MM_signKind_215 : decode y_MM_signKind.2.1 215 = .ok (.bipush 31, 2) := dc9_16 (by decide +kernel)
theorem d_MM_signKind_217 : decode y_MM_signKind.2.1 217 = .ok (.ireturn, 1) := dc9_172 (by decide +kernel)
theorem d_MM_signKind_258 : decode y_MM_signKind.2.1 258 = .ok (.bipush 28, 2) := dc9_16 (by decide +kernel)
theorem d_MM_signKind_260 : decode y_MM_signKind.2.1 260 = .ok (.ireturn, 1) := dc9_172 (by decide +kernel)
theorem d_MM_signKind_261 : decode y_MM_signKind.2.1 261 = .ok (.bipush 29, 2) := dc9_16 (by decide +kernel)
theorem d_MM_signKind_263 : decode y_MM_signKind.2.1 263 = .ok (.ireturn, 1) := dc9_172 (by decide +kernel)
theorem d_MM_signKind_285 : decode y_MM_signKind.2.1 285 = .ok (.bipush 38, 2) := dc9_16 (by decide +kernel)
theorem d_MM_signKind_287 : decode y_MM_signKind.2.1 287 = .ok (.ireturn, 1) := dc9_172 (by decide +kernel)
theorem d_MM_signKind_279 : decode y_MM_signKind.2.1 279 = .ok (.bipush 36, 2) := dc9_16 (by decide +kernel)
theorem d_MM_signKind_281 : decode y_MM_signKind.2.1 281 = .ok (.ireturn, 1) := dc9_172 (by decide +kernel)
theorem d_MM_signKind_282 : decode y_MM_signKind.2.1 282 = .ok (.bipush 37, 2) := dc9_16 (by decide +kernel)
theorem d_MM_signKind_284 : decode y_MM_signKind.2.1 284 = .ok (.ireturn, 1) := dc9_172 (by decide +kernel)
theorem d_MM_signKind_252 : decode y_MM_signKind.2.1 252 = .ok (.bipush 26, 2) := dc9_16 (by decide +kernel)
theorem d_MM_signKind_254 : decode y_MM_signKind.2.1 254 = .ok (.ireturn, 1) := dc9_172 (by decide +kernel)
theorem d_MM_signKind_249 : decode y_MM_signKind.2.1 249 = .ok (.bipush 24, 2) := dc9_16 (by decide +kernel)
theorem d_MM_signKind_251 : decode y_MM_signKind.2.1 251 = .ok (.ireturn, 1) := dc9_172 (by decide +kernel)
theorem d_MM_signKind_276 : decode y_MM_signKind.2.1 276 = .ok (.bipush 35, 2) := dc9_16 (by decide +kernel)
theorem d_MM_signKind_278 : decode y_MM_signKind.2.1 278 = .ok (.ireturn, 1) := dc9_172 (by decide +kernel)
theorem d_MM_signKind_190 : decode y_MM_signKind.2.1 190 = .ok (.iload_n 2, 1) := dc9_28 (by decide +kernel)
theorem d_MM_signKind_191 : decode y_MM_signKind.2.1 191 = .ok (.bipush 62, 2) := dc9_16 (by decide +kernel)
theorem d_MM_signKind_193 : decode y_MM_signKind.2.1 193 = .ok (.if_icmp .ne 8, 3) := dc9_160 (by decide +kernel)
theorem d_MM_signKind_196 : decode y_MM_signKind.2.1 196 = .ok (.bipush 17, 2) := dc9_16 (by decide +kernel)
theorem d_MM_signKind_198 : decode y_MM_signKind.2.1 198 = .ok (.goto 5, 3) := dc9_167 (by decide +kernel)
theorem d_MM_signKind_201 : decode y_MM_signKind.2.1 201 = .ok (.bipush 25, 2) := dc9_16 (by decide +kernel)
theorem d_MM_signKind_203 : decode y_MM_signKind.2.1 203 = .ok (.ireturn, 1) := dc9_172 (by decide +kernel)
theorem d_MM_signKind_176 : decode y_MM_signKind.2.1 176 = .ok (.iload_n 2, 1) := dc9_28 (by decide +kernel)
theorem d_MM_signKind_177 : decode y_MM_signKind.2.1 177 = .ok (.bipush 46, 2) := dc9_16 (by decide +kernel)
theorem d_MM_signKind_179 : decode y_MM_signKind.2.1 179 = .ok (.if_icmp .ne 8, 3) := dc9_160 (by decide +kernel)
theorem d_MM_signKind_182 : decode y_MM_signKind.2.1 182 = .ok (.bipush 16, 2) := dc9_16 (by decide +kernel)
theorem d_MM_signKind_184 : decode y_MM_signKind.2.1 184 = .ok (.goto 5, 3) := dc9_167 (by decide +kernel)
theorem d_MM_signKind_187 : decode y_MM_signKind.2.1 187 = .ok (.bipush 39, 2) := dc9_16 (by decide +kernel)
theorem d_MM_signKind_189 : decode y_MM_signKind.2.1 189 = .ok (.ireturn, 1) := dc9_172 (by decide +kernel)
theorem d_MM_signKind_255 : decode y_MM_signKind.2.1 255 = .ok (.bipush 27, 2) := dc9_16 (by decide +kernel)
theorem d_MM_signKind_257 : decode y_MM_signKind.2.1 257 = .ok (.ireturn, 1) := dc9_172 (by decide +kernel)
theorem d_MM_signKind_270 : decode y_MM_signKind.2.1 270 = .ok (.bipush 33, 2) := dc9_16 (by decide +kernel)
theorem d_MM_signKind_272 : decode y_MM_signKind.2.1 272 = .ok (.ireturn, 1) := dc9_172 (by decide +kernel)
theorem d_MM_signKind_273 : decode y_MM_signKind.2.1 273 = .ok (.bipush 34, 2) := dc9_16 (by decide +kernel)
theorem d_MM_signKind_275 : decode y_MM_signKind.2.1 275 = .ok (.ireturn, 1) := dc9_172 (by decide +kernel)
theorem d_MM_signKind_218 : decode y_MM_signKind.2.1 218 = .ok (.iload_n 2, 1) := dc9_28 (by decide +kernel)
theorem d_MM_signKind_219 : decode y_MM_signKind.2.1 219 = .ok (.bipush 61, 2) := dc9_16 (by decide +kernel)
theorem d_MM_signKind_221 : decode y_MM_signKind.2.1 221 = .ok (.if_icmp .ne 8, 3) := dc9_160 (by decide +kernel)
theorem d_MM_signKind_224 : decode y_MM_signKind.2.1 224 = .ok (.bipush 19, 2) := dc9_16 (by decide +kernel)
theorem d_MM_signKind_226 : decode y_MM_signKind.2.1 226 = .ok (.goto 5, 3) := dc9_167 (by decide +kernel)
theorem d_MM_signKind_229 : decode y_MM_signKind.2.1 229 = .ok (.bipush 21, 2) := dc9_16 (by decide +kernel)
theorem d_MM_signKind_231 : decode y_MM_signKind.2.1 231 = .ok (.ireturn, 1) := dc9_172 (by decide +kernel)
theorem d_MM_signKind_246 : decode y_MM_signKind.2.1 246 = .ok (.bipush 23, 2) := dc9_16 (by decide +kernel)
theorem d_MM_signKind_248 : decode y_MM_signKind.2.1 248 = .ok (.ireturn, 1) := dc9_172 (by decide +kernel)
theorem d_MM_signKind_232 : decode y_MM_signKind.2.1 232 = .ok (.iload_n 2, 1) := dc9_28 (by decide +kernel)
theorem d_MM_signKind_233 : decode y_MM_signKind.2.1 233 = .ok (.bipush 61, 2) := dc9_16 (by decide +kernel)
theorem d_MM_signKind_235 : decode y_MM_signKind.2.1 235 = .ok (.if_icmp .ne 8, 3) := dc9_160 (by decide +kernel)
theorem d_MM_signKind_238 : decode y_MM_signKind.2.1 238 = .ok (.bipush 20, 2) := dc9_16 (by decide +kernel)
theorem d_MM_signKind_240 : decode y_MM_signKind.2.1 240 = .ok (.goto 5, 3) := dc9_167 (by decide +kernel)
theorem d_MM_signKind_243 : decode y_MM_signKind.2.1 243 = .ok (.bipush 22, 2) := dc9_16 (by decide +kernel)
theorem d_MM_signKind_245 : decode y_MM_signKind.2.1 245 = .ok (.ireturn, 1) := dc9_172 (by decide +kernel)
theorem d_MM_signKind_267 : decode y_MM_signKind.2.1 267 = .ok (.bipush 32, 2) := dc9_16 (by decide +kernel)
theorem d_MM_signKind_269 : decode y_MM_signKind.2.1 269 = .ok (.ireturn, 1) := dc9_172 (by decide +kernel)
theorem d_MM_signKind_264 : decode y_MM_signKind.2.1 264 = .ok (.bipush 30, 2) := dc9_16 (by decide +kernel)
theorem d_MM_signKind_266 : decode y_MM_signKind.2.1 266 = .ok (.ireturn, 1) := dc9_172 (by decide +kernel)
theorem d_MM_signKind_288 : decode y_MM_signKind.2.1 288 = .ok (.bipush 39, 2) := dc9_16 (by decide +kernel)
theorem d_MM_signKind_290 : decode y_MM_signKind.2.1 290 = .ok (.ireturn, 1) := dc9_172 (by decide +kernel)
theorem k_MM_signKind {G : mG} {d : Nat} {a0 : Nat} {l1 : Int} {M : mM} {Q : Int → mM → Prop} (hO : mOk M) (hi_l1 : i32 l1)
    (h : mK M a0 = 14 ∧ Ci G y_MM_letter d [vr a0, vi (l1 + 1)] M (fun x3 M2 => i32 x3 ∧ mOk M2 ∧ (mK M2 a0 = 14 ∧ Ci G y_MM_letter d [vr a0, vi l1] M2 (fun x7 M6 => i32 x7 ∧ mOk M6 ∧ (((x7 = 33) → (∀ v11 : Int, v11 = (if (x3 = 61) then 18 else 31) → Q v11 M6)) ∧ (¬ (x7 = 33) → (((x7 = 37) → (Q 28 M6)) ∧ (¬ (x7 = 37) → (((x7 = 38) → (Q 29 M6)) ∧ (¬ (x7 = 38) → (((x7 = 39) → (Q 38 M6)) ∧ (¬ (x7 = 39) → (((x7 = 40) → (Q 36 M6)) ∧ (¬ (x7 = 40) → (((x7 = 41) → (Q 37 M6)) ∧ (¬ (x7 = 41) → (((x7 = 42) → (Q 26 M6)) ∧ (¬ (x7 = 42) → (((x7 = 43) → (Q 24 M6)) ∧ (¬ (x7 = 43) → (((x7 = 44) → (Q 35 M6)) ∧ (¬ (x7 = 44) → (((x7 = 45) → (∀ v26 : Int, v26 = (if (x3 = 62) then 17 else 25) → Q v26 M6)) ∧ (¬ (x7 = 45) → (((x7 = 46) → (∀ v33 : Int, v33 = (if (x3 = 46) then 16 else 39) → Q v33 M6)) ∧ (¬ (x7 = 46) → (((x7 = 47) → (Q 27 M6)) ∧ (¬ (x7 = 47) → (((x7 = 58) → (Q 33 M6)) ∧ (¬ (x7 = 58) → (((x7 = 59) → (Q 34 M6)) ∧ (¬ (x7 = 59) → (((x7 = 60) → (∀ v43 : Int, v43 = (if (x3 = 61) then 19 else 21) → Q v43 M6)) ∧ (¬ (x7 = 60) → (((x7 = 61) → (Q 23 M6)) ∧ (¬ (x7 = 61) → (((x7 = 62) → (∀ v51 : Int, v51 = (if (x3 = 61) then 20 else 22) → Q v51 M6)) ∧ (¬ (x7 = 62) → (((x7 = 63) → (Q 32 M6)) ∧ (¬ (x7 = 63) → (((x7 = 124) → (Q 30 M6)) ∧ (¬ (x7 = 124) → (Q 39 M6))))))))))))))))))))))))))))))))))))))))))) :
    Ci G y_MM_signKind (d + 1) [vr a0, vi l1] M Q := by
  refine wm_open (y := y_MM_signKind) rfl (Nat.le_of_ble_eq_true rfl) (L := [vr a0, vi l1, vd]) rfl ?_
  obtain ⟨h1, h⟩ := h
  refine wm_aload_n d_MM_signKind_0 rfl rfl ?_
  refine wm_iload_n d_MM_signKind_1 rfl rfl ?_
  refine wm_iconst d_MM_signKind_2 ?_
  refine wm_iadd d_MM_signKind_3 ?_
  refine cf_MM_159 rfl d_MM_signKind_4 h1 (Nat.le_of_ble_eq_true rfl) (Ci.mono h (fun x3 M2 h => ?_))
  obtain ⟨h4, hOM2, h⟩ := h
  obtain ⟨h5, h⟩ := h
  refine wm_istore_n d_MM_signKind_7 rfl (by decide) (L' := [vr a0, vi l1, vi x3]) rfl ?_
  refine wm_aload_n d_MM_signKind_8 rfl rfl ?_
  refine wm_iload_n d_MM_signKind_9 rfl rfl ?_
  refine cf_MM_159 rfl d_MM_signKind_10 h5 (Nat.le_of_ble_eq_true rfl) (Ci.mono h (fun x7 M6 h => ?_))
  obtain ⟨h8, hOM6, h⟩ := h
  by_cases c9 : x7 = 33
  · replace h := h.1 c9
    refine wm_lookup (tgt := 204) (off := 191) d_MM_signKind_13 z_MM_signKind_13_s h8 (by rw [c9]; rfl) rfl ?_
    refine wm_iload_n d_MM_signKind_204 rfl rfl ?_
    refine wm_bipush d_MM_signKind_205 (by decide) ?_
    have hJ : ∀ v11 : Int, v11 = (if (x3 = 61) then 18 else 31) → mWm G y_MM_signKind (d + 1) 217 [vd, vd, vd] [vi v11] M6 (fun r9 M9 => ∃ x9, r9 = some (vi x9) ∧ Q x9 M9) := by
      intro v11 e13
      have h := h v11 e13
      have h14 : i32 v11 := by rw [e13]; (repeat' split) <;> first | exact ⟨by decide, by decide⟩ | exact ⟨by decide, by decide⟩
      refine wm_ireturn d_MM_signKind_217 rfl rfl ?_
      exact ⟨_, rfl, h⟩
    clear h
    refine wm_icmp_ne (tgt := 215) d_MM_signKind_207 rfl h4 ⟨by decide, by decide⟩ (fun c10 => ?_) (fun c10 => ?_)
    · refine wm_bipush d_MM_signKind_215 (by decide) ?_
      refine wm_less (L' := [vd, vd, vd]) ⟨Or.inl rfl, Or.inl rfl, Or.inl rfl, trivial⟩ ?_
      exact hJ 31 (if_neg c10).symm
    · replace c10 := Classical.not_not.mp c10
      refine wm_bipush d_MM_signKind_210 (by decide) ?_
      refine wm_goto (tgt := 217) d_MM_signKind_212 rfl ?_
      refine wm_less (L' := [vd, vd, vd]) ⟨Or.inl rfl, Or.inl rfl, Or.inl rfl, trivial⟩ ?_
      exact hJ 18 (if_pos c10).symm
  · replace h := h.2 c9
    by_cases c16 : x7 = 37
    · replace h := h.1 c16
      refine wm_lookup (tgt := 258) (off := 245) d_MM_signKind_13 z_MM_signKind_13_s h8 (by rw [c16]; rfl) rfl ?_
      refine wm_bipush d_MM_signKind_258 (by decide) ?_
      refine wm_ireturn d_MM_signKind_260 rfl rfl ?_
      exact ⟨_, rfl, h⟩
    · replace h := h.2 c16
      by_cases c17 : x7 = 38
      · replace h := h.1 c17
        refine wm_lookup (tgt := 261) (off := 248) d_MM_signKind_13 z_MM_signKind_13_s h8 (by rw [c17]; rfl) rfl ?_
        refine wm_bipush d_MM_signKind_261 (by decide) ?_
        refine wm_ireturn d_MM_signKind_263 rfl rfl ?_
        exact ⟨_, rfl, h⟩
      · replace h := h.2 c17
        by_cases c18 : x7 = 39
        · replace h := h.1 c18
          refine wm_lookup (tgt := 285) (off := 272) d_MM_signKind_13 z_MM_signKind_13_s h8 (by rw [c18]; rfl) rfl ?_
          refine wm_bipush d_MM_signKind_285 (by decide) ?_
          refine wm_ireturn d_MM_signKind_287 rfl rfl ?_
          exact ⟨_, rfl, h⟩
        · replace h := h.2 c18
          by_cases c19 : x7 = 40
          · replace h := h.1 c19
            refine wm_lookup (tgt := 279) (off := 266) d_MM_signKind_13 z_MM_signKind_13_s h8 (by rw [c19]; rfl) rfl ?_
            refine wm_bipush d_MM_signKind_279 (by decide) ?_
            refine wm_ireturn d_MM_signKind_281 rfl rfl ?_
            exact ⟨_, rfl, h⟩
          · replace h := h.2 c19
            by_cases c20 : x7 = 41
            · replace h := h.1 c20
              refine wm_lookup (tgt := 282) (off := 269) d_MM_signKind_13 z_MM_signKind_13_s h8 (by rw [c20]; rfl) rfl ?_
              refine wm_bipush d_MM_signKind_282 (by decide) ?_
              refine wm_ireturn d_MM_signKind_284 rfl rfl ?_
              exact ⟨_, rfl, h⟩
            · replace h := h.2 c20
              by_cases c21 : x7 = 42
              · replace h := h.1 c21
                refine wm_lookup (tgt := 252) (off := 239) d_MM_signKind_13 z_MM_signKind_13_s h8 (by rw [c21]; rfl) rfl ?_
                refine wm_bipush d_MM_signKind_252 (by decide) ?_
                refine wm_ireturn d_MM_signKind_254 rfl rfl ?_
                exact ⟨_, rfl, h⟩
              · replace h := h.2 c21
                by_cases c22 : x7 = 43
                · replace h := h.1 c22
                  refine wm_lookup (tgt := 249) (off := 236) d_MM_signKind_13 z_MM_signKind_13_s h8 (by rw [c22]; rfl) rfl ?_
                  refine wm_bipush d_MM_signKind_249 (by decide) ?_
                  refine wm_ireturn d_MM_signKind_251 rfl rfl ?_
                  exact ⟨_, rfl, h⟩
                · replace h := h.2 c22
                  by_cases c23 : x7 = 44
                  · replace h := h.1 c23
                    refine wm_lookup (tgt := 276) (off := 263) d_MM_signKind_13 z_MM_signKind_13_s h8 (by rw [c23]; rfl) rfl ?_
                    refine wm_bipush d_MM_signKind_276 (by decide) ?_
                    refine wm_ireturn d_MM_signKind_278 rfl rfl ?_
                    exact ⟨_, rfl, h⟩
                  · replace h := h.2 c23
                    by_cases c24 : x7 = 45
                    · replace h := h.1 c24
                      refine wm_lookup (tgt := 190) (off := 177) d_MM_signKind_13 z_MM_signKind_13_s h8 (by rw [c24]; rfl) rfl ?_
                      refine wm_iload_n d_MM_signKind_190 rfl rfl ?_
                      refine wm_bipush d_MM_signKind_191 (by decide) ?_
                      have hJ : ∀ v26 : Int, v26 = (if (x3 = 62) then 17 else 25) → mWm G y_MM_signKind (d + 1) 203 [vd, vd, vd] [vi v26] M6 (fun r9 M9 => ∃ x9, r9 = some (vi x9) ∧ Q x9 M9) := by
                        intro v26 e28
                        have h := h v26 e28
                        have h29 : i32 v26 := by rw [e28]; (repeat' split) <;> first | exact ⟨by decide, by decide⟩ | exact ⟨by decide, by decide⟩
                        refine wm_ireturn d_MM_signKind_203 rfl rfl ?_
                        exact ⟨_, rfl, h⟩
                      clear h
                      refine wm_icmp_ne (tgt := 201) d_MM_signKind_193 rfl h4 ⟨by decide, by decide⟩ (fun c25 => ?_) (fun c25 => ?_)
                      · refine wm_bipush d_MM_signKind_201 (by decide) ?_
                        refine wm_less (L' := [vd, vd, vd]) ⟨Or.inl rfl, Or.inl rfl, Or.inl rfl, trivial⟩ ?_
                        exact hJ 25 (if_neg c25).symm
                      · replace c25 := Classical.not_not.mp c25
                        refine wm_bipush d_MM_signKind_196 (by decide) ?_
                        refine wm_goto (tgt := 203) d_MM_signKind_198 rfl ?_
                        refine wm_less (L' := [vd, vd, vd]) ⟨Or.inl rfl, Or.inl rfl, Or.inl rfl, trivial⟩ ?_
                        exact hJ 17 (if_pos c25).symm
                    · replace h := h.2 c24
                      by_cases c31 : x7 = 46
                      · replace h := h.1 c31
                        refine wm_lookup (tgt := 176) (off := 163) d_MM_signKind_13 z_MM_signKind_13_s h8 (by rw [c31]; rfl) rfl ?_
                        refine wm_iload_n d_MM_signKind_176 rfl rfl ?_
                        refine wm_bipush d_MM_signKind_177 (by decide) ?_
                        have hJ : ∀ v33 : Int, v33 = (if (x3 = 46) then 16 else 39) → mWm G y_MM_signKind (d + 1) 189 [vd, vd, vd] [vi v33] M6 (fun r9 M9 => ∃ x9, r9 = some (vi x9) ∧ Q x9 M9) := by
                          intro v33 e35
                          have h := h v33 e35
                          have h36 : i32 v33 := by rw [e35]; (repeat' split) <;> first | exact ⟨by decide, by decide⟩ | exact ⟨by decide, by decide⟩
                          refine wm_ireturn d_MM_signKind_189 rfl rfl ?_
                          exact ⟨_, rfl, h⟩
                        clear h
                        refine wm_icmp_ne (tgt := 187) d_MM_signKind_179 rfl h4 ⟨by decide, by decide⟩ (fun c32 => ?_) (fun c32 => ?_)
                        · refine wm_bipush d_MM_signKind_187 (by decide) ?_
                          refine wm_less (L' := [vd, vd, vd]) ⟨Or.inl rfl, Or.inl rfl, Or.inl rfl, trivial⟩ ?_
                          exact hJ 39 (if_neg c32).symm
                        · replace c32 := Classical.not_not.mp c32
                          refine wm_bipush d_MM_signKind_182 (by decide) ?_
                          refine wm_goto (tgt := 189) d_MM_signKind_184 rfl ?_
                          refine wm_less (L' := [vd, vd, vd]) ⟨Or.inl rfl, Or.inl rfl, Or.inl rfl, trivial⟩ ?_
                          exact hJ 16 (if_pos c32).symm
                      · replace h := h.2 c31
                        by_cases c38 : x7 = 47
                        · replace h := h.1 c38
                          refine wm_lookup (tgt := 255) (off := 242) d_MM_signKind_13 z_MM_signKind_13_s h8 (by rw [c38]; rfl) rfl ?_
                          refine wm_bipush d_MM_signKind_255 (by decide) ?_
                          refine wm_ireturn d_MM_signKind_257 rfl rfl ?_
                          exact ⟨_, rfl, h⟩
                        · replace h := h.2 c38
                          by_cases c39 : x7 = 58
                          · replace h := h.1 c39
                            refine wm_lookup (tgt := 270) (off := 257) d_MM_signKind_13 z_MM_signKind_13_s h8 (by rw [c39]; rfl) rfl ?_
                            refine wm_bipush d_MM_signKind_270 (by decide) ?_
                            refine wm_ireturn d_MM_signKind_272 rfl rfl ?_
                            exact ⟨_, rfl, h⟩
                          · replace h := h.2 c39
                            by_cases c40 : x7 = 59
                            · replace h := h.1 c40
                              refine wm_lookup (tgt := 273) (off := 260) d_MM_signKind_13 z_MM_signKind_13_s h8 (by rw [c40]; rfl) rfl ?_
                              refine wm_bipush d_MM_signKind_273 (by decide) ?_
                              refine wm_ireturn d_MM_signKind_275 rfl rfl ?_
                              exact ⟨_, rfl, h⟩
                            · replace h := h.2 c40
                              by_cases c41 : x7 = 60
                              · replace h := h.1 c41
                                refine wm_lookup (tgt := 218) (off := 205) d_MM_signKind_13 z_MM_signKind_13_s h8 (by rw [c41]; rfl) rfl ?_
                                refine wm_iload_n d_MM_signKind_218 rfl rfl ?_
                                refine wm_bipush d_MM_signKind_219 (by decide) ?_
                                have hJ : ∀ v43 : Int, v43 = (if (x3 = 61) then 19 else 21) → mWm G y_MM_signKind (d + 1) 231 [vd, vd, vd] [vi v43] M6 (fun r9 M9 => ∃ x9, r9 = some (vi x9) ∧ Q x9 M9) := by
                                  intro v43 e45
                                  have h := h v43 e45
                                  have h46 : i32 v43 := by rw [e45]; (repeat' split) <;> first | exact ⟨by decide, by decide⟩ | exact ⟨by decide, by decide⟩
                                  refine wm_ireturn d_MM_signKind_231 rfl rfl ?_
                                  exact ⟨_, rfl, h⟩
                                clear h
                                refine wm_icmp_ne (tgt := 229) d_MM_signKind_221 rfl h4 ⟨by decide, by decide⟩ (fun c42 => ?_) (fun c42 => ?_)
                                · refine wm_bipush d_MM_signKind_229 (by decide) ?_
                                  refine wm_less (L' := [vd, vd, vd]) ⟨Or.inl rfl, Or.inl rfl, Or.inl rfl, trivial⟩ ?_
                                  exact hJ 21 (if_neg c42).symm
                                · replace c42 := Classical.not_not.mp c42
                                  refine wm_bipush d_MM_signKind_224 (by decide) ?_
                                  refine wm_goto (tgt := 231) d_MM_signKind_226 rfl ?_
                                  refine wm_less (L' := [vd, vd, vd]) ⟨Or.inl rfl, Or.inl rfl, Or.inl rfl, trivial⟩ ?_
                                  exact hJ 19 (if_pos c42).symm
                              · replace h := h.2 c41
                                by_cases c48 : x7 = 61
                                · replace h := h.1 c48
                                  refine wm_lookup (tgt := 246) (off := 233) d_MM_signKind_13 z_MM_signKind_13_s h8 (by rw [c48]; rfl) rfl ?_
                                  refine wm_bipush d_MM_signKind_246 (by decide) ?_
                                  refine wm_ireturn d_MM_signKind_248 rfl rfl ?_
                                  exact ⟨_, rfl, h⟩
                                · replace h := h.2 c48
                                  by_cases c49 : x7 = 62
                                  · replace h := h.1 c49
                                    refine wm_lookup (tgt := 232) (off := 219) d_MM_signKind_13 z_MM_signKind_13_s h8 (by rw [c49]; rfl) rfl ?_
                                    refine wm_iload_n d_MM_signKind_232 rfl rfl ?_
                                    refine wm_bipush d_MM_signKind_233 (by decide) ?_
                                    have hJ : ∀ v51 : Int, v51 = (if (x3 = 61) then 20 else 22) → mWm G y_MM_signKind (d + 1) 245 [vd, vd, vd] [vi v51] M6 (fun r9 M9 => ∃ x9, r9 = some (vi x9) ∧ Q x9 M9) := by
                                      intro v51 e53
                                      have h := h v51 e53
                                      have h54 : i32 v51 := by rw [e53]; (repeat' split) <;> first | exact ⟨by decide, by decide⟩ | exact ⟨by decide, by decide⟩
                                      refine wm_ireturn d_MM_signKind_245 rfl rfl ?_
                                      exact ⟨_, rfl, h⟩
                                    clear h
                                    refine wm_icmp_ne (tgt := 243) d_MM_signKind_235 rfl h4 ⟨by decide, by decide⟩ (fun c50 => ?_) (fun c50 => ?_)
                                    · refine wm_bipush d_MM_signKind_243 (by decide) ?_
                                      refine wm_less (L' := [vd, vd, vd]) ⟨Or.inl rfl, Or.inl rfl, Or.inl rfl, trivial⟩ ?_
                                      exact hJ 22 (if_neg c50).symm
                                    · replace c50 := Classical.not_not.mp c50
                                      refine wm_bipush d_MM_signKind_238 (by decide) ?_
                                      refine wm_goto (tgt := 245) d_MM_signKind_240 rfl ?_
                                      refine wm_less (L' := [vd, vd, vd]) ⟨Or.inl rfl, Or.inl rfl, Or.inl rfl, trivial⟩ ?_
                                      exact hJ 20 (if_pos c50).symm
                                  · replace h := h.2 c49
                                    by_cases c56 : x7 = 63
                                    · replace h := h.1 c56
                                      refine wm_lookup (tgt := 267) (off := 254) d_MM_signKind_13 z_MM_signKind_13_s h8 (by rw [c56]; rfl) rfl ?_
                                      refine wm_bipush d_MM_signKind_267 (by decide) ?_
                                      refine wm_ireturn d_MM_signKind_269 rfl rfl ?_
                                      exact ⟨_, rfl, h⟩
                                    · replace h := h.2 c56
                                      by_cases c57 : x7 = 124
                                      · replace h := h.1 c57
                                        refine wm_lookup (tgt := 264) (off := 251) d_MM_signKind_13 z_MM_signKind_13_s h8 (by rw [c57]; rfl) rfl ?_
                                        refine wm_bipush d_MM_signKind_264 (by decide) ?_
                                        refine wm_ireturn d_MM_signKind_266 rfl rfl ?_
                                        exact ⟨_, rfl, h⟩
                                      · replace h := h.2 c57
                                        refine wm_lookup (tgt := 288) (off := 275) d_MM_signKind_13 z_MM_signKind_13_s h8 (by simp [Op.lookupswitch.offset]; repeat rw [if_neg (by omega)]) rfl ?_
                                        refine wm_bipush d_MM_signKind_288 (by decide) ?_
                                        refine wm_ireturn d_MM_signKind_290 rfl rfl ?_
                                        exact ⟨_, rfl, h⟩
theorem d_MM_word0_0 : decode y_MM_word0.2.1 0 = .ok (.aload_n 0, 1) := dc9_42 (by decide +kernel)
theorem d_MM_word0_1 : decode y_MM_word0.2.1 1 = .ok (.getfield 19, 3) := dc9_180 (by decide +kernel)
theorem d_MM_word0_4 : decode y_MM_word0.2.1 4 = .ok (.iload_n 1, 1) := dc9_27 (by decide +kernel)
theorem d_MM_word0_5 : decode y_MM_word0.2.1 5 = .ok (.invokevirtual 152, 3) := dc9_182 (by decide +kernel)
theorem d_MM_word0_8 : decode y_MM_word0.2.1 8 = .ok (.aload_n 0, 1) := dc9_42 (by decide +kernel)
theorem d_MM_word0_9 : decode y_MM_word0.2.1 9 = .ok (.getfield 22, 3) := dc9_180 (by decide +kernel)
theorem d_MM_word0_12 : decode y_MM_word0.2.1 12 = .ok (.iload_n 2, 1) := dc9_28 (by decide +kernel)
theorem d_MM_word0_13 : decode y_MM_word0.2.1 13 = .ok (.invokevirtual 152, 3) := dc9_182 (by decide +kernel)
theorem d_MM_word0_16 : decode y_MM_word0.2.1 16 = .ok (.aload_n 0, 1) := dc9_42 (by decide +kernel)
theorem d_MM_word0_17 : decode y_MM_word0.2.1 17 = .ok (.getfield 25, 3) := dc9_180 (by decide +kernel)
theorem d_MM_word0_20 : decode y_MM_word0.2.1 20 = .ok (.iload_n 3, 1) := dc9_29 (by decide +kernel)
theorem d_MM_word0_21 : decode y_MM_word0.2.1 21 = .ok (.invokevirtual 152, 3) := dc9_182 (by decide +kernel)
theorem d_MM_word0_24 : decode y_MM_word0.2.1 24 = .ok (.return_, 1) := dc9_177 (by decide +kernel)
theorem k_MM_word0 {G : mG} {d : Nat} {a0 : Nat} {l1 : Int} {l2 : Int} {l3 : Int} {M : mM} {Q : mM → Prop} (hO : mOk M) (hi_l1 : i32 l1) (hi_l2 : i32 l2) (hi_l3 : i32 l3)
    (h : mK M a0 = 14 ∧ mK M (mR M a0 3) = 15 ∧ Cv G y_MN_add d [vr (mR M a0 3), vi l1] M (fun M3 => mOk M3 ∧ (mK M3 a0 = 14 ∧ mK M3 (mR M3 a0 4) = 15 ∧ Cv G y_MN_add d [vr (mR M3 a0 4), vi l2] M3 (fun M8 => mOk M8 ∧ (mK M8 a0 = 14 ∧ mK M8 (mR M8 a0 5) = 15 ∧ Cv G y_MN_add d [vr (mR M8 a0 5), vi l3] M8 (fun M13 => mOk M13 ∧ (Q M13))))))) :
    Cv G y_MM_word0 (d + 1) [vr a0, vi l1, vi l2, vi l3] M Q := by
  refine wm_open (y := y_MM_word0) rfl (Nat.le_of_ble_eq_true rfl) (L := [vr a0, vi l1, vi l2, vi l3]) rfl ?_
  obtain ⟨h1, h⟩ := h
  obtain ⟨h2, h⟩ := h
  refine wm_aload_n d_MM_word0_0 rfl rfl ?_
  refine gf_MM_19 rfl d_MM_word0_1 h1 ?_
  refine wm_iload_n d_MM_word0_4 rfl rfl ?_
  refine cf_MM_152 rfl d_MM_word0_5 h2 (Nat.le_of_ble_eq_true rfl) (Cv.mono h (fun M3 h => ?_))
  obtain ⟨hOM3, h⟩ := h
  obtain ⟨h6, h⟩ := h
  obtain ⟨h7, h⟩ := h
  refine wm_aload_n d_MM_word0_8 rfl rfl ?_
  refine gf_MM_22 rfl d_MM_word0_9 h6 ?_
  refine wm_iload_n d_MM_word0_12 rfl rfl ?_
  refine cf_MM_152 rfl d_MM_word0_13 h7 (Nat.le_of_ble_eq_true rfl) (Cv.mono h (fun M8 h => ?_))
  obtain ⟨hOM8, h⟩ := h
  obtain ⟨h11, h⟩ := h
  obtain ⟨h12, h⟩ := h
  refine wm_aload_n d_MM_word0_16 rfl rfl ?_
  refine gf_MM_25 rfl d_MM_word0_17 h11 ?_
  refine wm_iload_n d_MM_word0_20 rfl rfl ?_
  refine cf_MM_152 rfl d_MM_word0_21 h12 (Nat.le_of_ble_eq_true rfl) (Cv.mono h (fun M13 h => ?_))
  obtain ⟨hOM13, h⟩ := h
  refine wm_return d_MM_word0_24 rfl ?_
  exact ⟨rfl, h⟩
theorem d_MM_cut_0 : decode y_MM_cut.2.1 0 = .ok (.aload_n 0, 1) := dc9_42 (by decide +kernel)
theorem d_MM_cut_1 : decode y_MM_cut.2.1 1 = .ok (.getfield 19, 3) := dc9_180 (by decide +kernel)
theorem d_MM_cut_4 : decode y_MM_cut.2.1 4 = .ok (.iconst 0, 1) := dc9_3 (by decide +kernel)
theorem d_MM_cut_5 : decode y_MM_cut.2.1 5 = .ok (.putfield 145, 3) := dc9_181 (by decide +kernel)
theorem d_MM_cut_8 : decode y_MM_cut.2.1 8 = .ok (.aload_n 0, 1) := dc9_42 (by decide +kernel)
theorem d_MM_cut_9 : decode y_MM_cut.2.1 9 = .ok (.getfield 22, 3) := dc9_180 (by decide +kernel)
theorem d_MM_cut_12 : decode y_MM_cut.2.1 12 = .ok (.iconst 0, 1) := dc9_3 (by decide +kernel)
theorem d_MM_cut_13 : decode y_MM_cut.2.1 13 = .ok (.putfield 145, 3) := dc9_181 (by decide +kernel)
theorem d_MM_cut_16 : decode y_MM_cut.2.1 16 = .ok (.aload_n 0, 1) := dc9_42 (by decide +kernel)
theorem d_MM_cut_17 : decode y_MM_cut.2.1 17 = .ok (.getfield 25, 3) := dc9_180 (by decide +kernel)
theorem d_MM_cut_20 : decode y_MM_cut.2.1 20 = .ok (.iconst 0, 1) := dc9_3 (by decide +kernel)
theorem d_MM_cut_21 : decode y_MM_cut.2.1 21 = .ok (.putfield 145, 3) := dc9_181 (by decide +kernel)
theorem d_MM_cut_24 : decode y_MM_cut.2.1 24 = .ok (.aload_n 0, 1) := dc9_42 (by decide +kernel)
theorem d_MM_cut_25 : decode y_MM_cut.2.1 25 = .ok (.iconst 0, 1) := dc9_3 (by decide +kernel)
theorem d_MM_cut_26 : decode y_MM_cut.2.1 26 = .ok (.invokevirtual 206, 3) := dc9_182 (by decide +kernel)
theorem d_MM_cut_29 : decode y_MM_cut.2.1 29 = .ok (.istore_n 1, 1) := dc9_60 (by decide +kernel)
theorem d_MM_cut_30 : decode y_MM_cut.2.1 30 = .ok (.iconst 1, 1) := dc9_4 (by decide +kernel)
theorem d_MM_cut_31 : decode y_MM_cut.2.1 31 = .ok (.istore_n 2, 1) := dc9_61 (by decide +kernel)
theorem d_MM_cut_32 : decode y_MM_cut.2.1 32 = .ok (.iload_n 2, 1) := dc9_28 (by decide +kernel)
theorem d_MM_cut_33 : decode y_MM_cut.2.1 33 = .ok (.ifCond .eq 207, 3) := dc9_153 (by decide +kernel)
theorem d_MM_cut_36 : decode y_MM_cut.2.1 36 = .ok (.iload_n 1, 1) := dc9_27 (by decide +kernel)
theorem d_MM_cut_37 : decode y_MM_cut.2.1 37 = .ok (.aload_n 0, 1) := dc9_42 (by decide +kernel)
theorem d_MM_cut_38 : decode y_MM_cut.2.1 38 = .ok (.getfield 16, 3) := dc9_180 (by decide +kernel)
theorem d_MM_cut_41 : decode y_MM_cut.2.1 41 = .ok (.getfield 145, 3) := dc9_180 (by decide +kernel)
theorem d_MM_cut_44 : decode y_MM_cut.2.1 44 = .ok (.if_icmp .ge 196, 3) := dc9_162 (by decide +kernel)
theorem d_MM_cut_47 : decode y_MM_cut.2.1 47 = .ok (.iload_n 1, 1) := dc9_27 (by decide +kernel)
theorem d_MM_cut_48 : decode y_MM_cut.2.1 48 = .ok (.istore_n 3, 1) := dc9_62 (by decide +kernel)
theorem d_MM_cut_49 : decode y_MM_cut.2.1 49 = .ok (.aload_n 0, 1) := dc9_42 (by decide +kernel)
theorem d_MM_cut_50 : decode y_MM_cut.2.1 50 = .ok (.iload_n 1, 1) := dc9_27 (by decide +kernel)
theorem d_MM_cut_240 : decode y_MM_cut.2.1 240 = .ok (.iload_n 2, 1) := dc9_28 (by decide +kernel)
theorem d_MM_cut_241 : decode y_MM_cut.2.1 241 = .ok (.ifCond .eq 22, 3) := dc9_153 (by decide +kernel)
theorem d_MM_cut_244 : decode y_MM_cut.2.1 244 = .ok (.aload_n 0, 1) := dc9_42 (by decide +kernel)
theorem d_MM_cut_245 : decode y_MM_cut.2.1 245 = .ok (.iconst 0, 1) := dc9_3 (by decide +kernel)
theorem d_MM_cut_246 : decode y_MM_cut.2.1 246 = .ok (.aload_n 0, 1) := dc9_42 (by decide +kernel)
theorem d_MM_cut_247 : decode y_MM_cut.2.1 247 = .ok (.getfield 16, 3) := dc9_180 (by decide +kernel)
theorem d_MM_cut_250 : decode y_MM_cut.2.1 250 = .ok (.getfield 145, 3) := dc9_180 (by decide +kernel)
theorem d_MM_cut_253 : decode y_MM_cut.2.1 253 = .ok (.aload_n 0, 1) := dc9_42 (by decide +kernel)
theorem d_MM_cut_254 : decode y_MM_cut.2.1 254 = .ok (.getfield 16, 3) := dc9_180 (by decide +kernel)
theorem d_MM_cut_257 : decode y_MM_cut.2.1 257 = .ok (.getfield 145, 3) := dc9_180 (by decide +kernel)
theorem d_MM_cut_260 : decode y_MM_cut.2.1 260 = .ok (.invokevirtual 222, 3) := dc9_182 (by decide +kernel)
theorem d_MM_cut_51 : decode y_MM_cut.2.1 51 = .ok (.invokevirtual 159, 3) := dc9_182 (by decide +kernel)
theorem d_MM_cut_54 : decode y_MM_cut.2.1 54 = .ok (.invokestatic 209, 3) := dc9_184 (by decide +kernel)
theorem d_MM_cut_57 : decode y_MM_cut.2.1 57 = .ok (.ifCond .eq 65, 3) := dc9_153 (by decide +kernel)
theorem d_MM_cut_122 : decode y_MM_cut.2.1 122 = .ok (.aload_n 0, 1) := dc9_42 (by decide +kernel)
theorem d_MM_cut_123 : decode y_MM_cut.2.1 123 = .ok (.iload_n 1, 1) := dc9_27 (by decide +kernel)
theorem d_MM_cut_124 : decode y_MM_cut.2.1 124 = .ok (.invokevirtual 159, 3) := dc9_182 (by decide +kernel)
theorem d_MM_cut_127 : decode y_MM_cut.2.1 127 = .ok (.invokestatic 212, 3) := dc9_184 (by decide +kernel)
theorem d_MM_cut_130 : decode y_MM_cut.2.1 130 = .ok (.ifCond .eq 39, 3) := dc9_153 (by decide +kernel)
theorem d_MM_cut_169 : decode y_MM_cut.2.1 169 = .ok (.aload_n 0, 1) := dc9_42 (by decide +kernel)
theorem d_MM_cut_170 : decode y_MM_cut.2.1 170 = .ok (.iload_n 1, 1) := dc9_27 (by decide +kernel)
theorem d_MM_cut_171 : decode y_MM_cut.2.1 171 = .ok (.invokevirtual 219, 3) := dc9_182 (by decide +kernel)
theorem d_MM_cut_174 : decode y_MM_cut.2.1 174 = .ok (.istore 4, 2) := dc9_54 (by decide +kernel)
theorem d_MM_cut_176 : decode y_MM_cut.2.1 176 = .ok (.iload 4, 2) := dc9_21 (by decide +kernel)
theorem d_MM_cut_178 : decode y_MM_cut.2.1 178 = .ok (.bipush 16, 2) := dc9_16 (by decide +kernel)
theorem d_MM_cut_180 : decode y_MM_cut.2.1 180 = .ok (.if_icmp .lt 14, 3) := dc9_161 (by decide +kernel)
theorem d_MM_cut_194 : decode y_MM_cut.2.1 194 = .ok (.iconst 0, 1) := dc9_3 (by decide +kernel)
theorem d_MM_cut_183 : decode y_MM_cut.2.1 183 = .ok (.iload 4, 2) := dc9_21 (by decide +kernel)
theorem d_MM_cut_185 : decode y_MM_cut.2.1 185 = .ok (.bipush 20, 2) := dc9_16 (by decide +kernel)
theorem d_MM_cut_187 : decode y_MM_cut.2.1 187 = .ok (.if_icmp .gt 7, 3) := dc9_163 (by decide +kernel)
theorem d_MM_cut_190 : decode y_MM_cut.2.1 190 = .ok (.iconst 1, 1) := dc9_4 (by decide +kernel)
theorem d_MM_cut_191 : decode y_MM_cut.2.1 191 = .ok (.goto 4, 3) := dc9_167 (by decide +kernel)
theorem d_MM_cut_195 : decode y_MM_cut.2.1 195 = .ok (.istore 5, 2) := dc9_54 (by decide +kernel)
theorem d_MM_cut_197 : decode y_MM_cut.2.1 197 = .ok (.iload_n 1, 1) := dc9_27 (by decide +kernel)
theorem d_MM_cut_198 : decode y_MM_cut.2.1 198 = .ok (.iload 5, 2) := dc9_21 (by decide +kernel)
theorem d_MM_cut_200 : decode y_MM_cut.2.1 200 = .ok (.ifCond .eq 7, 3) := dc9_153 (by decide +kernel)
theorem d_MM_cut_207 : decode y_MM_cut.2.1 207 = .ok (.iconst 1, 1) := dc9_4 (by decide +kernel)
theorem d_MM_cut_203 : decode y_MM_cut.2.1 203 = .ok (.iconst 2, 1) := dc9_5 (by decide +kernel)
theorem d_MM_cut_204 : decode y_MM_cut.2.1 204 = .ok (.goto 4, 3) := dc9_167 (by decide +kernel)
theorem d_MM_cut_208 : decode y_MM_cut.2.1 208 = .ok (.iadd, 1) := dc9_96 (by decide +kernel)
theorem d_MM_cut_209 : decode y_MM_cut.2.1 209 = .ok (.istore_n 3, 1) := dc9_62 (by decide +kernel)
theorem d_MM_cut_210 : decode y_MM_cut.2.1 210 = .ok (.aload_n 0, 1) := dc9_42 (by decide +kernel)
theorem d_MM_cut_211 : decode y_MM_cut.2.1 211 = .ok (.iload 4, 2) := dc9_21 (by decide +kernel)
theorem d_MM_cut_213 : decode y_MM_cut.2.1 213 = .ok (.iload_n 1, 1) := dc9_27 (by decide +kernel)
theorem d_MM_cut_214 : decode y_MM_cut.2.1 214 = .ok (.iload_n 3, 1) := dc9_29 (by decide +kernel)
theorem d_MM_cut_215 : decode y_MM_cut.2.1 215 = .ok (.invokevirtual 222, 3) := dc9_182 (by decide +kernel)
theorem d_MM_cut_218 : decode y_MM_cut.2.1 218 = .ok (.iload 4, 2) := dc9_21 (by decide +kernel)
theorem d_MM_cut_220 : decode y_MM_cut.2.1 220 = .ok (.bipush 39, 2) := dc9_16 (by decide +kernel)
theorem d_MM_cut_222 : decode y_MM_cut.2.1 222 = .ok (.if_icmp .eq 7, 3) := dc9_159 (by decide +kernel)
theorem d_MM_cut_229 : decode y_MM_cut.2.1 229 = .ok (.iconst 0, 1) := dc9_3 (by decide +kernel)
theorem d_MM_cut_225 : decode y_MM_cut.2.1 225 = .ok (.iconst 1, 1) := dc9_4 (by decide +kernel)
theorem d_MM_cut_226 : decode y_MM_cut.2.1 226 = .ok (.goto 4, 3) := dc9_167 (by decide +kernel)
theorem d_MM_cut_230 : decode y_MM_cut.2.1 230 = .ok (.istore_n 2, 1) := dc9_61 (by decide +kernel)
theorem d_MM_cut_231 : decode y_MM_cut.2.1 231 = .ok (.aload_n 0, 1) := dc9_42 (by decide +kernel)
theorem d_MM_cut_232 : decode y_MM_cut.2.1 232 = .ok (.iload_n 3, 1) := dc9_29 (by decide +kernel)
theorem d_MM_cut_233 : decode y_MM_cut.2.1 233 = .ok (.invokevirtual 206, 3) := dc9_182 (by decide +kernel)
theorem d_MM_cut_236 : decode y_MM_cut.2.1 236 = .ok (.istore_n 1, 1) := dc9_60 (by decide +kernel)
theorem d_MM_cut_237 : decode y_MM_cut.2.1 237 = .ok (.goto (-205), 3) := dc9_167 (by decide +kernel)
theorem d_MM_cut_60 : decode y_MM_cut.2.1 60 = .ok (.aload_n 0, 1) := dc9_42 (by decide +kernel)
theorem d_MM_cut_61 : decode y_MM_cut.2.1 61 = .ok (.iload_n 3, 1) := dc9_29 (by decide +kernel)
theorem d_MM_cut_62 : decode y_MM_cut.2.1 62 = .ok (.invokevirtual 159, 3) := dc9_182 (by decide +kernel)
theorem d_MM_cut_65 : decode y_MM_cut.2.1 65 = .ok (.invokestatic 209, 3) := dc9_184 (by decide +kernel)
theorem d_MM_cut_68 : decode y_MM_cut.2.1 68 = .ok (.ifCond .ne 24, 3) := dc9_154 (by decide +kernel)
theorem d_MM_cut_71 : decode y_MM_cut.2.1 71 = .ok (.aload_n 0, 1) := dc9_42 (by decide +kernel)
theorem d_MM_cut_72 : decode y_MM_cut.2.1 72 = .ok (.iload_n 3, 1) := dc9_29 (by decide +kernel)
theorem d_MM_cut_73 : decode y_MM_cut.2.1 73 = .ok (.invokevirtual 159, 3) := dc9_182 (by decide +kernel)
theorem d_MM_cut_76 : decode y_MM_cut.2.1 76 = .ok (.invokestatic 212, 3) := dc9_184 (by decide +kernel)
theorem d_MM_cut_79 : decode y_MM_cut.2.1 79 = .ok (.ifCond .ne 13, 3) := dc9_154 (by decide +kernel)
theorem d_MM_cut_82 : decode y_MM_cut.2.1 82 = .ok (.aload_n 0, 1) := dc9_42 (by decide +kernel)
theorem d_MM_cut_83 : decode y_MM_cut.2.1 83 = .ok (.iload_n 3, 1) := dc9_29 (by decide +kernel)
theorem d_MM_cut_84 : decode y_MM_cut.2.1 84 = .ok (.invokevirtual 159, 3) := dc9_182 (by decide +kernel)
theorem d_MM_cut_87 : decode y_MM_cut.2.1 87 = .ok (.bipush 95, 2) := dc9_16 (by decide +kernel)
theorem d_MM_cut_89 : decode y_MM_cut.2.1 89 = .ok (.if_icmp .ne 9, 3) := dc9_160 (by decide +kernel)
theorem d_MM_cut_98 : decode y_MM_cut.2.1 98 = .ok (.iload_n 3, 1) := dc9_29 (by decide +kernel)
theorem d_MM_cut_99 : decode y_MM_cut.2.1 99 = .ok (.iload_n 1, 1) := dc9_27 (by decide +kernel)
theorem d_MM_cut_100 : decode y_MM_cut.2.1 100 = .ok (.isub, 1) := dc9_100 (by decide +kernel)
theorem d_MM_cut_101 : decode y_MM_cut.2.1 101 = .ok (.bipush 40, 2) := dc9_16 (by decide +kernel)
theorem d_MM_cut_103 : decode y_MM_cut.2.1 103 = .ok (.if_icmp .le 8, 3) := dc9_164 (by decide +kernel)
theorem d_MM_cut_111 : decode y_MM_cut.2.1 111 = .ok (.aload_n 0, 1) := dc9_42 (by decide +kernel)
theorem d_MM_cut_112 : decode y_MM_cut.2.1 112 = .ok (.iload_n 1, 1) := dc9_27 (by decide +kernel)
theorem d_MM_cut_113 : decode y_MM_cut.2.1 113 = .ok (.iload_n 3, 1) := dc9_29 (by decide +kernel)
theorem d_MM_cut_106 : decode y_MM_cut.2.1 106 = .ok (.bipush 39, 2) := dc9_16 (by decide +kernel)
theorem d_MM_cut_108 : decode y_MM_cut.2.1 108 = .ok (.goto 9, 3) := dc9_167 (by decide +kernel)
theorem d_MM_cut_92 : decode y_MM_cut.2.1 92 = .ok (.iinc 3 1, 3) := by decide +kernel
theorem d_MM_cut_95 : decode y_MM_cut.2.1 95 = .ok (.goto (-35), 3) := dc9_167 (by decide +kernel)
theorem d_MM_cut_114 : decode y_MM_cut.2.1 114 = .ok (.invokevirtual 215, 3) := dc9_182 (by decide +kernel)
theorem d_MM_cut_117 : decode y_MM_cut.2.1 117 = .ok (.istore 4, 2) := dc9_54 (by decide +kernel)
theorem d_MM_cut_119 : decode y_MM_cut.2.1 119 = .ok (.goto 91, 3) := dc9_167 (by decide +kernel)
theorem d_MM_cut_133 : decode y_MM_cut.2.1 133 = .ok (.aload_n 0, 1) := dc9_42 (by decide +kernel)
theorem d_MM_cut_134 : decode y_MM_cut.2.1 134 = .ok (.iload_n 3, 1) := dc9_29 (by decide +kernel)
theorem d_MM_cut_135 : decode y_MM_cut.2.1 135 = .ok (.invokevirtual 159, 3) := dc9_182 (by decide +kernel)
theorem d_MM_cut_138 : decode y_MM_cut.2.1 138 = .ok (.invokestatic 212, 3) := dc9_184 (by decide +kernel)
theorem d_MM_cut_141 : decode y_MM_cut.2.1 141 = .ok (.ifCond .eq 9, 3) := dc9_153 (by decide +kernel)
theorem d_MM_cut_150 : decode y_MM_cut.2.1 150 = .ok (.iload_n 3, 1) := dc9_29 (by decide +kernel)
theorem d_MM_cut_151 : decode y_MM_cut.2.1 151 = .ok (.iload_n 1, 1) := dc9_27 (by decide +kernel)
theorem d_MM_cut_152 : decode y_MM_cut.2.1 152 = .ok (.isub, 1) := dc9_100 (by decide +kernel)
theorem d_MM_cut_153 : decode y_MM_cut.2.1 153 = .ok (.bipush 9, 2) := dc9_16 (by decide +kernel)
theorem d_MM_cut_144 : decode y_MM_cut.2.1 144 = .ok (.iinc 3 1, 3) := by decide +kernel
theorem d_MM_cut_147 : decode y_MM_cut.2.1 147 = .ok (.goto (-14), 3) := dc9_167 (by decide +kernel)
theorem d_MM_cut_155 : decode y_MM_cut.2.1 155 = .ok (.if_icmp .le 8, 3) := dc9_164 (by decide +kernel)
theorem d_MM_cut_163 : decode y_MM_cut.2.1 163 = .ok (.iconst 2, 1) := dc9_5 (by decide +kernel)
theorem d_MM_cut_164 : decode y_MM_cut.2.1 164 = .ok (.istore 4, 2) := dc9_54 (by decide +kernel)
theorem d_MM_cut_166 : decode y_MM_cut.2.1 166 = .ok (.goto 44, 3) := dc9_167 (by decide +kernel)
theorem d_MM_cut_158 : decode y_MM_cut.2.1 158 = .ok (.bipush 39, 2) := dc9_16 (by decide +kernel)
theorem d_MM_cut_160 : decode y_MM_cut.2.1 160 = .ok (.goto 4, 3) := dc9_167 (by decide +kernel)
theorem d_MM_cut_263 : decode y_MM_cut.2.1 263 = .ok (.return_, 1) := dc9_177 (by decide +kernel)
def h_MM_cut_32 (G : mG) (d : Nat) (a0 : Nat) (l1 : Int) (l2 : Int) (M : mM) (Q : mM → Prop) : Prop := mWm G y_MM_cut (d + 1) 32 [vr a0, vi l1, vi l2, vd, vd, vd] [] M (fun r9 M9 => r9 = none ∧ Q M9)
def h_MM_cut_60 (G : mG) (d : Nat) (a0 : Nat) (l1 : Int) (l3 : Int) (M : mM) (Q : mM → Prop) : Prop := mWm G y_MM_cut (d + 1) 60 [vr a0, vi l1, vd, vi l3, vd, vd] [] M (fun r9 M9 => r9 = none ∧ Q M9)
def h_MM_cut_117 (G : mG) (d : Nat) (a0 : Nat) (l1 : Int) (l3 : Int) (k0 : Int) (M : mM) (Q : mM → Prop) : Prop := mWm G y_MM_cut (d + 1) 117 [vr a0, vi l1, vd, vi l3, vd, vd] [vi k0] M (fun r9 M9 => r9 = none ∧ Q M9)
def h_MM_cut_133 (G : mG) (d : Nat) (a0 : Nat) (l1 : Int) (l3 : Int) (M : mM) (Q : mM → Prop) : Prop := mWm G y_MM_cut (d + 1) 133 [vr a0, vi l1, vd, vi l3, vd, vd] [] M (fun r9 M9 => r9 = none ∧ Q M9)
def h_MM_cut_263 (G : mG) (d : Nat) (M : mM) (Q : mM → Prop) : Prop := mWm G y_MM_cut (d + 1) 263 [vd, vd, vd, vd, vd, vd] [] M (fun r9 M9 => r9 = none ∧ Q M9)
theorem k_MM_cut {G : mG} {d : Nat} {a0 : Nat} {M : mM} {Q : mM → Prop} (hO : mOk M)
    (h : mK M a0 = 14 ∧ mK M (mR M a0 3) = 15 ∧ ∀ M3, M3 = mUI M (mR M a0 3) 1 0 → mK M3 (mR M3 a0 4) = 15 ∧ ∀ M6, M6 = mUI M3 (mR M3 a0 4) 1 0 → mK M6 (mR M6 a0 5) = 15 ∧ ∀ M9, M9 = mUI M6 (mR M6 a0 5) 1 0 → Ci G y_MM_skip d [vr a0, vi 0] M9 (fun x12 M11 => i32 x12 ∧ mOk M11 ∧ (h_MM_cut_32 G d a0 x12 1 M11 Q))) :
    Cv G y_MM_cut (d + 1) [vr a0] M Q := by
  refine wm_open (y := y_MM_cut) rfl (Nat.le_of_ble_eq_true rfl) (L := [vr a0, vd, vd, vd, vd, vd]) rfl ?_
  obtain ⟨h1, h⟩ := h
  obtain ⟨h2, h⟩ := h
  obtain ⟨M3, e4⟩ : ∃ M3, M3 = mUI M (mR M a0 3) 1 0 := ⟨_, rfl⟩
  replace h := h M3 e4
  obtain ⟨h5, h⟩ := h
  obtain ⟨M6, e7⟩ : ∃ M6, M6 = mUI M3 (mR M3 a0 4) 1 0 := ⟨_, rfl⟩
  replace h := h M6 e7
  obtain ⟨h8, h⟩ := h
  obtain ⟨M9, e10⟩ : ∃ M9, M9 = mUI M6 (mR M6 a0 5) 1 0 := ⟨_, rfl⟩
  replace h := h M9 e10
  refine wm_aload_n d_MM_cut_0 rfl rfl ?_
  refine gf_MM_19 rfl d_MM_cut_1 h1 ?_
  refine wm_iconst d_MM_cut_4 ?_
  have hOM3 : mOk M3 := by rw [e4]; exact mOk_UI hO ⟨by decide, by decide⟩
  refine pf_MM_145 rfl d_MM_cut_5 h2 ⟨by decide, by decide⟩ e4 ?_
  refine wm_aload_n d_MM_cut_8 rfl rfl ?_
  refine gf_MM_22 rfl d_MM_cut_9 (by rw [e4]; exact h1) ?_
  refine wm_iconst d_MM_cut_12 ?_
  have hOM6 : mOk M6 := by rw [e7]; exact mOk_UI hOM3 ⟨by decide, by decide⟩
  refine pf_MM_145 rfl d_MM_cut_13 h5 ⟨by decide, by decide⟩ e7 ?_
  refine wm_aload_n d_MM_cut_16 rfl rfl ?_
  refine gf_MM_25 rfl d_MM_cut_17 (by rw [e7, e4]; exact h1) ?_
  refine wm_iconst d_MM_cut_20 ?_
  have hOM9 : mOk M9 := by rw [e10]; exact mOk_UI hOM6 ⟨by decide, by decide⟩
  refine pf_MM_145 rfl d_MM_cut_21 h8 ⟨by decide, by decide⟩ e10 ?_
  refine wm_aload_n d_MM_cut_24 rfl rfl ?_
  refine wm_iconst d_MM_cut_25 ?_
  refine cf_MM_206 rfl d_MM_cut_26 (by rw [e10, e7, e4]; exact h1) (Nat.le_of_ble_eq_true rfl) (Ci.mono h (fun x12 M11 h => ?_))
  obtain ⟨h13, hOM11, h⟩ := h
  refine wm_istore_n d_MM_cut_29 rfl (by decide) (L' := [vr a0, vi x12, vd, vd, vd, vd]) rfl ?_
  refine wm_iconst d_MM_cut_30 ?_
  refine wm_istore_n d_MM_cut_31 rfl (by decide) (L' := [vr a0, vi x12, vi 1, vd, vd, vd]) rfl ?_
  exact h
theorem k_MM_cut_32 {G : mG} {d : Nat} {a0 : Nat} {l1 : Int} {l2 : Int} {M : mM} {Q : mM → Prop} (hO : mOk M) (hi_l1 : i32 l1) (hi_l2 : i32 l2)
    (h : (¬ (l2 = 0) → (mK M a0 = 14 ∧ mK M (mR M a0 2) = 15)) ∧ (((l2 = 0) ∨ (mI M (mR M a0 2) 1 ≤ l1)) → (((l2 = 0) → (h_MM_cut_263 G d  M Q)) ∧ (¬ (l2 = 0) → (mK M a0 = 14 ∧ mK M (mR M a0 2) = 15 ∧ Cv G y_MM_word0 d [vr a0, vi 0, vi (mI M (mR M a0 2) 1), vi (mI M (mR M a0 2) 1)] M (fun M24 => mOk M24 ∧ (h_MM_cut_263 G d  M24 Q)))))) ∧ (¬ ((l2 = 0) ∨ (mI M (mR M a0 2) 1 ≤ l1)) → (mK M a0 = 14 ∧ Ci G y_MM_letter d [vr a0, vi l1] M (fun x30 M29 => i32 x30 ∧ mOk M29 ∧ (Ci G y_MM_isLetter d [vi x30] M29 (fun x33 M32 => i32 x33 ∧ mOk M32 ∧ (((x33 = 0) → (mK M32 a0 = 14 ∧ Ci G y_MM_letter d [vr a0, vi l1] M32 (fun x39 M38 => i32 x39 ∧ mOk M38 ∧ (Ci G y_MM_isDigit d [vi x39] M38 (fun x42 M41 => i32 x42 ∧ mOk M41 ∧ (((x42 = 0) → (mK M41 a0 = 14 ∧ Ci G y_MM_signKind d [vr a0, vi l1] M41 (fun x48 M47 => i32 x48 ∧ mOk M47 ∧ (∀ v52 : Int, v52 = (if ((x48 < 16) ∨ (20 < x48)) then 0 else 1) → ∀ v58 : Int, v58 = (if (v52 = 0) then 1 else 2) → mK M47 a0 = 14 ∧ Cv G y_MM_word0 d [vr a0, vi x48, vi l1, vi (l1 + v58)] M47 (fun M63 => mOk M63 ∧ (∀ v67 : Int, v67 = (if (x48 = 39) then 0 else 1) → mK M63 a0 = 14 ∧ Ci G y_MM_skip d [vr a0, vi (l1 + v58)] M63 (fun x74 M73 => i32 x74 ∧ mOk M73 ∧ (h_MM_cut_32 G d a0 x74 v67 M73 Q)))))))) ∧ (¬ (x42 = 0) → (h_MM_cut_133 G d a0 l1 l1 M41 Q)))))))) ∧ (¬ (x33 = 0) → (h_MM_cut_60 G d a0 l1 l1 M32 Q))))))))) :
    h_MM_cut_32 G d a0 l1 l2 M Q := by
  unfold h_MM_cut_32
  refine wm_iload_n d_MM_cut_32 rfl rfl ?_
  obtain ⟨s18, h⟩ := h
  have hE0 : ((l2 = 0) ∨ (mI M (mR M a0 2) 1 ≤ l1)) → mWm G y_MM_cut (d + 1) 240 [vr a0, vi l1, vi l2, vd, vd, vd] [] M (fun r9 M9 => r9 = none ∧ Q M9) := by
    intro q19
    have h := h.1 q19
    refine wm_iload_n d_MM_cut_240 rfl rfl ?_
    refine wm_if_eq (tgt := 263) d_MM_cut_241 rfl hi_l2 (fun c21 => ?_) (fun c21 => ?_)
    · replace h := h.1 c21
      refine wm_less (L' := [vd, vd, vd, vd, vd, vd]) ⟨Or.inl rfl, Or.inl rfl, Or.inl rfl, Or.inl rfl, Or.inl rfl, Or.inl rfl, trivial⟩ ?_
      exact h
    · replace h := h.2 c21
      obtain ⟨h22, h⟩ := h
      obtain ⟨h23, h⟩ := h
      refine wm_aload_n d_MM_cut_244 rfl rfl ?_
      refine wm_iconst d_MM_cut_245 ?_
      refine wm_aload_n d_MM_cut_246 rfl rfl ?_
      refine gf_MM_16 rfl d_MM_cut_247 h22 ?_
      refine gf_MM_145 rfl d_MM_cut_250 h23 ?_
      refine wm_aload_n d_MM_cut_253 rfl rfl ?_
      refine gf_MM_16 rfl d_MM_cut_254 h22 ?_
      refine gf_MM_145 rfl d_MM_cut_257 h23 ?_
      refine cf_MM_222 rfl d_MM_cut_260 h22 (Nat.le_of_ble_eq_true rfl) (Cv.mono h (fun M24 h => ?_))
      obtain ⟨hOM24, h⟩ := h
      refine wm_less (L' := [vd, vd, vd, vd, vd, vd]) ⟨Or.inl rfl, Or.inl rfl, Or.inl rfl, Or.inl rfl, Or.inl rfl, Or.inl rfl, trivial⟩ ?_
      exact h
  have hE1 : ¬ ((l2 = 0) ∨ (mI M (mR M a0 2) 1 ≤ l1)) → mWm G y_MM_cut (d + 1) 47 [vr a0, vi l1, vi l2, vd, vd, vd] [] M (fun r9 M9 => r9 = none ∧ Q M9) := by
    intro q27
    have h := h.2 q27
    obtain ⟨h28, h⟩ := h
    refine wm_iload_n d_MM_cut_47 rfl rfl ?_
    refine wm_istore_n d_MM_cut_48 rfl (by decide) (L' := [vr a0, vi l1, vi l2, vi l1, vd, vd]) rfl ?_
    refine wm_aload_n d_MM_cut_49 rfl rfl ?_
    refine wm_iload_n d_MM_cut_50 rfl rfl ?_
    refine cf_MM_159 rfl d_MM_cut_51 h28 (Nat.le_of_ble_eq_true rfl) (Ci.mono h (fun x30 M29 h => ?_))
    obtain ⟨h31, hOM29, h⟩ := h
    refine cf_MM_209 rfl d_MM_cut_54 (Nat.le_of_ble_eq_true rfl) (Ci.mono h (fun x33 M32 h => ?_))
    obtain ⟨h34, hOM32, h⟩ := h
    refine wm_if_eq (tgt := 122) d_MM_cut_57 rfl h34 (fun c36 => ?_) (fun c36 => ?_)
    · replace h := h.1 c36
      obtain ⟨h37, h⟩ := h
      refine wm_aload_n d_MM_cut_122 rfl rfl ?_
      refine wm_iload_n d_MM_cut_123 rfl rfl ?_
      refine cf_MM_159 rfl d_MM_cut_124 h37 (Nat.le_of_ble_eq_true rfl) (Ci.mono h (fun x39 M38 h => ?_))
      obtain ⟨h40, hOM38, h⟩ := h
      refine cf_MM_212 rfl d_MM_cut_127 (Nat.le_of_ble_eq_true rfl) (Ci.mono h (fun x42 M41 h => ?_))
      obtain ⟨h43, hOM41, h⟩ := h
      refine wm_if_eq (tgt := 169) d_MM_cut_130 rfl h43 (fun c45 => ?_) (fun c45 => ?_)
      · replace h := h.1 c45
        obtain ⟨h46, h⟩ := h
        refine wm_aload_n d_MM_cut_169 rfl rfl ?_
        refine wm_iload_n d_MM_cut_170 rfl rfl ?_
        refine cf_MM_219 rfl d_MM_cut_171 h46 (Nat.le_of_ble_eq_true rfl) (Ci.mono h (fun x48 M47 h => ?_))
        obtain ⟨h49, hOM47, h⟩ := h
        refine wm_istore d_MM_cut_174 (by decide) (L' := [vr a0, vi l1, vi l2, vi l1, vi x48, vd]) rfl ?_
        refine wm_iload d_MM_cut_176 rfl ?_
        refine wm_bipush d_MM_cut_178 (by decide) ?_
        have hJ : ∀ v52 : Int, v52 = (if ((x48 < 16) ∨ (20 < x48)) then 0 else 1) → mWm G y_MM_cut (d + 1) 195 [vr a0, vi l1, vd, vd, vi x48, vd] [vi v52] M47 (fun r9 M9 => r9 = none ∧ Q M9) := by
          intro v52 e54
          have h := h v52 e54
          have h55 : i32 v52 := by rw [e54]; (repeat' split) <;> first | exact ⟨by decide, by decide⟩ | exact ⟨by decide, by decide⟩
          have h56 : (v52 = 0 ∨ v52 = 1) := by rw [e54]; (repeat' split) <;> decide
          refine wm_istore d_MM_cut_195 (by decide) (L' := [vr a0, vi l1, vd, vd, vi x48, vi v52]) rfl ?_
          refine wm_iload_n d_MM_cut_197 rfl rfl ?_
          refine wm_iload d_MM_cut_198 rfl ?_
          have hJ : ∀ v58 : Int, v58 = (if (v52 = 0) then 1 else 2) → mWm G y_MM_cut (d + 1) 208 [vr a0, vi l1, vd, vd, vi x48, vd] [vi v58, vi l1] M47 (fun r9 M9 => r9 = none ∧ Q M9) := by
            intro v58 e60
            have h := h v58 e60
            have h61 : i32 v58 := by rw [e60]; (repeat' split) <;> first | exact ⟨by decide, by decide⟩ | exact ⟨by decide, by decide⟩
            obtain ⟨h62, h⟩ := h
            refine wm_iadd d_MM_cut_208 ?_
            refine wm_istore_n d_MM_cut_209 rfl (by decide) (L' := [vr a0, vi l1, vd, vi (l1 + v58), vi x48, vd]) rfl ?_
            refine wm_aload_n d_MM_cut_210 rfl rfl ?_
            refine wm_iload d_MM_cut_211 rfl ?_
            refine wm_iload_n d_MM_cut_213 rfl rfl ?_
            refine wm_iload_n d_MM_cut_214 rfl rfl ?_
            refine cf_MM_222 rfl d_MM_cut_215 h62 (Nat.le_of_ble_eq_true rfl) (Cv.mono h (fun M63 h => ?_))
            obtain ⟨hOM63, h⟩ := h
            refine wm_iload d_MM_cut_218 rfl ?_
            refine wm_bipush d_MM_cut_220 (by decide) ?_
            have hJ : ∀ v67 : Int, v67 = (if (x48 = 39) then 0 else 1) → mWm G y_MM_cut (d + 1) 230 [vr a0, vd, vd, vi (l1 + v58), vd, vd] [vi v67] M63 (fun r9 M9 => r9 = none ∧ Q M9) := by
              intro v67 e69
              have h := h v67 e69
              have h70 : i32 v67 := by rw [e69]; (repeat' split) <;> first | exact ⟨by decide, by decide⟩ | exact ⟨by decide, by decide⟩
              have h71 : (v67 = 0 ∨ v67 = 1) := by rw [e69]; (repeat' split) <;> decide
              obtain ⟨h72, h⟩ := h
              refine wm_istore_n d_MM_cut_230 rfl (by decide) (L' := [vr a0, vd, vi v67, vi (l1 + v58), vd, vd]) rfl ?_
              refine wm_aload_n d_MM_cut_231 rfl rfl ?_
              refine wm_iload_n d_MM_cut_232 rfl rfl ?_
              refine cf_MM_206 rfl d_MM_cut_233 h72 (Nat.le_of_ble_eq_true rfl) (Ci.mono h (fun x74 M73 h => ?_))
              obtain ⟨h75, hOM73, h⟩ := h
              refine wm_istore_n d_MM_cut_236 rfl (by decide) (L' := [vr a0, vi x74, vi v67, vi (l1 + v58), vd, vd]) rfl ?_
              refine wm_goto (tgt := 32) d_MM_cut_237 rfl ?_
              refine wm_less (L' := [vr a0, vi x74, vi v67, vd, vd, vd]) ⟨Or.inr rfl, Or.inr rfl, Or.inr rfl, Or.inl rfl, Or.inl rfl, Or.inl rfl, trivial⟩ ?_
              exact h
            clear h
            refine wm_icmp_eq (tgt := 229) d_MM_cut_222 rfl h49 ⟨by decide, by decide⟩ (fun c66 => ?_) (fun c66 => ?_)
            · refine wm_iconst d_MM_cut_229 ?_
              refine wm_less (L' := [vr a0, vd, vd, vi (l1 + v58), vd, vd]) ⟨Or.inr rfl, Or.inl rfl, Or.inl rfl, Or.inr rfl, Or.inl rfl, Or.inl rfl, trivial⟩ ?_
              exact hJ 0 (if_pos c66).symm
            · refine wm_iconst d_MM_cut_225 ?_
              refine wm_goto (tgt := 230) d_MM_cut_226 rfl ?_
              refine wm_less (L' := [vr a0, vd, vd, vi (l1 + v58), vd, vd]) ⟨Or.inr rfl, Or.inl rfl, Or.inl rfl, Or.inr rfl, Or.inl rfl, Or.inl rfl, trivial⟩ ?_
              exact hJ 1 (if_neg c66).symm
          clear h
          refine wm_if_eq (tgt := 207) d_MM_cut_200 rfl h55 (fun c57 => ?_) (fun c57 => ?_)
          · refine wm_iconst d_MM_cut_207 ?_
            refine wm_less (L' := [vr a0, vi l1, vd, vd, vi x48, vd]) ⟨Or.inr rfl, Or.inr rfl, Or.inl rfl, Or.inl rfl, Or.inr rfl, Or.inl rfl, trivial⟩ ?_
            exact hJ 1 (if_pos c57).symm
          · refine wm_iconst d_MM_cut_203 ?_
            refine wm_goto (tgt := 208) d_MM_cut_204 rfl ?_
            refine wm_less (L' := [vr a0, vi l1, vd, vd, vi x48, vd]) ⟨Or.inr rfl, Or.inr rfl, Or.inl rfl, Or.inl rfl, Or.inr rfl, Or.inl rfl, trivial⟩ ?_
            exact hJ 2 (if_neg c57).symm
        clear h
        refine wm_icmp_lt (tgt := 194) d_MM_cut_180 rfl h49 ⟨by decide, by decide⟩ (fun c50 => ?_) (fun c50 => ?_)
        · refine wm_iconst d_MM_cut_194 ?_
          refine wm_less (L' := [vr a0, vi l1, vd, vd, vi x48, vd]) ⟨Or.inr rfl, Or.inr rfl, Or.inl rfl, Or.inl rfl, Or.inr rfl, Or.inl rfl, trivial⟩ ?_
          exact hJ 0 (if_pos (Or.inl c50)).symm
        · refine wm_iload d_MM_cut_183 rfl ?_
          refine wm_bipush d_MM_cut_185 (by decide) ?_
          refine wm_icmp_gt (tgt := 194) d_MM_cut_187 rfl h49 ⟨by decide, by decide⟩ (fun c51 => ?_) (fun c51 => ?_)
          · refine wm_iconst d_MM_cut_194 ?_
            refine wm_less (L' := [vr a0, vi l1, vd, vd, vi x48, vd]) ⟨Or.inr rfl, Or.inr rfl, Or.inl rfl, Or.inl rfl, Or.inr rfl, Or.inl rfl, trivial⟩ ?_
            exact hJ 0 (if_pos (Or.inr c51)).symm
          · refine wm_iconst d_MM_cut_190 ?_
            refine wm_goto (tgt := 195) d_MM_cut_191 rfl ?_
            refine wm_less (L' := [vr a0, vi l1, vd, vd, vi x48, vd]) ⟨Or.inr rfl, Or.inr rfl, Or.inl rfl, Or.inl rfl, Or.inr rfl, Or.inl rfl, trivial⟩ ?_
            exact hJ 1 (if_neg (fun z78 => Or.elim z78 c50 c51)).symm
      · replace h := h.2 c45
        refine wm_less (L' := [vr a0, vi l1, vd, vi l1, vd, vd]) ⟨Or.inr rfl, Or.inr rfl, Or.inl rfl, Or.inr rfl, Or.inl rfl, Or.inl rfl, trivial⟩ ?_
        exact h
    · replace h := h.2 c36
      refine wm_less (L' := [vr a0, vi l1, vd, vi l1, vd, vd]) ⟨Or.inr rfl, Or.inr rfl, Or.inl rfl, Or.inr rfl, Or.inl rfl, Or.inl rfl, trivial⟩ ?_
      exact h
  clear h
  have s80 := s18
  refine wm_if_eq (tgt := 240) d_MM_cut_33 rfl hi_l2 (fun c17 => ?_) (fun c17 => ?_)
  · exact hE0 (Or.inl c17)
  · have s80 := s80 c17
    obtain ⟨h14, h15⟩ := s80
    refine wm_iload_n d_MM_cut_36 rfl rfl ?_
    refine wm_aload_n d_MM_cut_37 rfl rfl ?_
    refine gf_MM_16 rfl d_MM_cut_38 h14 ?_
    refine gf_MM_145 rfl d_MM_cut_41 h15 ?_
    refine wm_icmp_ge (tgt := 240) d_MM_cut_44 rfl hi_l1 (hO _ _).1 (fun c16 => ?_) (fun c16 => ?_)
    · exact hE0 (Or.inr c16)
    · exact hE1 (fun z81 => Or.elim z81 c17 c16)
theorem k_MM_cut_60 {G : mG} {d : Nat} {a0 : Nat} {l1 : Int} {l3 : Int} {M : mM} {Q : mM → Prop} (hO : mOk M) (hi_l1 : i32 l1) (hi_l3 : i32 l3)
    (h : mK M a0 = 14 ∧ Ci G y_MM_letter d [vr a0, vi l3] M (fun x85 M84 => i32 x85 ∧ mOk M84 ∧ (Ci G y_MM_isLetter d [vi x85] M84 (fun x88 M87 => i32 x88 ∧ mOk M87 ∧ (((x88 = 0) → (mK M87 a0 = 14 ∧ Ci G y_MM_letter d [vr a0, vi l3] M87 (fun x94 M93 => i32 x94 ∧ mOk M93 ∧ (Ci G y_MM_isDigit d [vi x94] M93 (fun x97 M96 => i32 x97 ∧ mOk M96 ∧ (((x97 = 0) → (mK M96 a0 = 14 ∧ Ci G y_MM_letter d [vr a0, vi l3] M96 (fun x103 M102 => i32 x103 ∧ mOk M102 ∧ (((x103 = 95) → (h_MM_cut_60 G d a0 l1 (l3 + 1) M102 Q)) ∧ (¬ (x103 = 95) → (i32 (l3 - l1) ∧ ((l3 - l1 ≤ 40) → (mK M102 a0 = 14 ∧ Ci G y_MM_wordKind d [vr a0, vi l1, vi l3] M102 (fun x115 M114 => i32 x115 ∧ mOk M114 ∧ (h_MM_cut_117 G d a0 l1 l3 x115 M114 Q)))) ∧ (¬ (l3 - l1 ≤ 40) → (h_MM_cut_117 G d a0 l1 l3 39 M102 Q)))))))) ∧ (¬ (x97 = 0) → (h_MM_cut_60 G d a0 l1 (l3 + 1) M96 Q)))))))) ∧ (¬ (x88 = 0) → (h_MM_cut_60 G d a0 l1 (l3 + 1) M87 Q))))))) :
    h_MM_cut_60 G d a0 l1 l3 M Q := by
  unfold h_MM_cut_60
  obtain ⟨h83, h⟩ := h
  refine wm_aload_n d_MM_cut_60 rfl rfl ?_
  refine wm_iload_n d_MM_cut_61 rfl rfl ?_
  refine cf_MM_159 rfl d_MM_cut_62 h83 (Nat.le_of_ble_eq_true rfl) (Ci.mono h (fun x85 M84 h => ?_))
  obtain ⟨h86, hOM84, h⟩ := h
  refine cf_MM_209 rfl d_MM_cut_65 (Nat.le_of_ble_eq_true rfl) (Ci.mono h (fun x88 M87 h => ?_))
  obtain ⟨h89, hOM87, h⟩ := h
  refine wm_if_ne (tgt := 92) d_MM_cut_68 rfl h89 (fun c91 => ?_) (fun c91 => ?_)
  · replace h := h.2 c91
    refine wm_iinc d_MM_cut_92 (by decide) rfl (L' := [vr a0, vi l1, vd, vi (l3 + 1), vd, vd]) rfl ?_
    refine wm_goto (tgt := 60) d_MM_cut_95 rfl ?_
    exact h
  · replace c91 := Classical.not_not.mp c91
    replace h := h.1 c91
    obtain ⟨h92, h⟩ := h
    refine wm_aload_n d_MM_cut_71 rfl rfl ?_
    refine wm_iload_n d_MM_cut_72 rfl rfl ?_
    refine cf_MM_159 rfl d_MM_cut_73 h92 (Nat.le_of_ble_eq_true rfl) (Ci.mono h (fun x94 M93 h => ?_))
    obtain ⟨h95, hOM93, h⟩ := h
    refine cf_MM_212 rfl d_MM_cut_76 (Nat.le_of_ble_eq_true rfl) (Ci.mono h (fun x97 M96 h => ?_))
    obtain ⟨h98, hOM96, h⟩ := h
    refine wm_if_ne (tgt := 92) d_MM_cut_79 rfl h98 (fun c100 => ?_) (fun c100 => ?_)
    · replace h := h.2 c100
      refine wm_iinc d_MM_cut_92 (by decide) rfl (L' := [vr a0, vi l1, vd, vi (l3 + 1), vd, vd]) rfl ?_
      refine wm_goto (tgt := 60) d_MM_cut_95 rfl ?_
      exact h
    · replace c100 := Classical.not_not.mp c100
      replace h := h.1 c100
      obtain ⟨h101, h⟩ := h
      refine wm_aload_n d_MM_cut_82 rfl rfl ?_
      refine wm_iload_n d_MM_cut_83 rfl rfl ?_
      refine cf_MM_159 rfl d_MM_cut_84 h101 (Nat.le_of_ble_eq_true rfl) (Ci.mono h (fun x103 M102 h => ?_))
      obtain ⟨h104, hOM102, h⟩ := h
      refine wm_bipush d_MM_cut_87 (by decide) ?_
      refine wm_icmp_ne (tgt := 98) d_MM_cut_89 rfl h104 ⟨by decide, by decide⟩ (fun c108 => ?_) (fun c108 => ?_)
      · replace h := h.2 c108
        obtain ⟨h111, h⟩ := h
        refine wm_iload_n d_MM_cut_98 rfl rfl ?_
        refine wm_iload_n d_MM_cut_99 rfl rfl ?_
        refine wm_isub d_MM_cut_100 ?_
        refine wm_bipush d_MM_cut_101 (by decide) ?_
        refine wm_icmp_le (tgt := 111) d_MM_cut_103 rfl h111 ⟨by decide, by decide⟩ (fun c112 => ?_) (fun c112 => ?_)
        · replace h := h.1 c112
          obtain ⟨h113, h⟩ := h
          refine wm_aload_n d_MM_cut_111 rfl rfl ?_
          refine wm_iload_n d_MM_cut_112 rfl rfl ?_
          refine wm_iload_n d_MM_cut_113 rfl rfl ?_
          refine cf_MM_215 rfl d_MM_cut_114 h113 (Nat.le_of_ble_eq_true rfl) (Ci.mono h (fun x115 M114 h => ?_))
          obtain ⟨h116, hOM114, h⟩ := h
          exact h
        · replace h := h.2 c112
          refine wm_bipush d_MM_cut_106 (by decide) ?_
          refine wm_goto (tgt := 117) d_MM_cut_108 rfl ?_
          exact h
      · replace c108 := Classical.not_not.mp c108
        replace h := h.1 c108
        refine wm_iinc d_MM_cut_92 (by decide) rfl (L' := [vr a0, vi l1, vd, vi (l3 + 1), vd, vd]) rfl ?_
        refine wm_goto (tgt := 60) d_MM_cut_95 rfl ?_
        exact h
theorem k_MM_cut_117 {G : mG} {d : Nat} {a0 : Nat} {l1 : Int} {l3 : Int} {k0 : Int} {M : mM} {Q : mM → Prop} (hO : mOk M) (hi_l1 : i32 l1) (hi_l3 : i32 l3) (hi_k0 : i32 k0)
    (h : mK M a0 = 14 ∧ Cv G y_MM_word0 d [vr a0, vi k0, vi l1, vi l3] M (fun M118 => mOk M118 ∧ (∀ v122 : Int, v122 = (if (k0 = 39) then 0 else 1) → mK M118 a0 = 14 ∧ Ci G y_MM_skip d [vr a0, vi l3] M118 (fun x129 M128 => i32 x129 ∧ mOk M128 ∧ (h_MM_cut_32 G d a0 x129 v122 M128 Q))))) :
    h_MM_cut_117 G d a0 l1 l3 k0 M Q := by
  unfold h_MM_cut_117
  obtain ⟨h117, h⟩ := h
  refine wm_istore d_MM_cut_117 (by decide) (L' := [vr a0, vi l1, vd, vi l3, vi k0, vd]) rfl ?_
  refine wm_goto (tgt := 210) d_MM_cut_119 rfl ?_
  refine wm_aload_n d_MM_cut_210 rfl rfl ?_
  refine wm_iload d_MM_cut_211 rfl ?_
  refine wm_iload_n d_MM_cut_213 rfl rfl ?_
  refine wm_iload_n d_MM_cut_214 rfl rfl ?_
  refine cf_MM_222 rfl d_MM_cut_215 h117 (Nat.le_of_ble_eq_true rfl) (Cv.mono h (fun M118 h => ?_))
  obtain ⟨hOM118, h⟩ := h
  refine wm_iload d_MM_cut_218 rfl ?_
  refine wm_bipush d_MM_cut_220 (by decide) ?_
  have hJ : ∀ v122 : Int, v122 = (if (k0 = 39) then 0 else 1) → mWm G y_MM_cut (d + 1) 230 [vr a0, vd, vd, vi l3, vd, vd] [vi v122] M118 (fun r9 M9 => r9 = none ∧ Q M9) := by
    intro v122 e124
    have h := h v122 e124
    have h125 : i32 v122 := by rw [e124]; (repeat' split) <;> first | exact ⟨by decide, by decide⟩ | exact ⟨by decide, by decide⟩
    have h126 : (v122 = 0 ∨ v122 = 1) := by rw [e124]; (repeat' split) <;> decide
    obtain ⟨h127, h⟩ := h
    refine wm_istore_n d_MM_cut_230 rfl (by decide) (L' := [vr a0, vd, vi v122, vi l3, vd, vd]) rfl ?_
    refine wm_aload_n d_MM_cut_231 rfl rfl ?_
    refine wm_iload_n d_MM_cut_232 rfl rfl ?_
    refine cf_MM_206 rfl d_MM_cut_233 h127 (Nat.le_of_ble_eq_true rfl) (Ci.mono h (fun x129 M128 h => ?_))
    obtain ⟨h130, hOM128, h⟩ := h
    refine wm_istore_n d_MM_cut_236 rfl (by decide) (L' := [vr a0, vi x129, vi v122, vi l3, vd, vd]) rfl ?_
    refine wm_goto (tgt := 32) d_MM_cut_237 rfl ?_
    refine wm_less (L' := [vr a0, vi x129, vi v122, vd, vd, vd]) ⟨Or.inr rfl, Or.inr rfl, Or.inr rfl, Or.inl rfl, Or.inl rfl, Or.inl rfl, trivial⟩ ?_
    exact h
  clear h
  refine wm_icmp_eq (tgt := 229) d_MM_cut_222 rfl hi_k0 ⟨by decide, by decide⟩ (fun c121 => ?_) (fun c121 => ?_)
  · refine wm_iconst d_MM_cut_229 ?_
    refine wm_less (L' := [vr a0, vd, vd, vi l3, vd, vd]) ⟨Or.inr rfl, Or.inl rfl, Or.inl rfl, Or.inr rfl, Or.inl rfl, Or.inl rfl, trivial⟩ ?_
    exact hJ 0 (if_pos c121).symm
  · refine wm_iconst d_MM_cut_225 ?_
    refine wm_goto (tgt := 230) d_MM_cut_226 rfl ?_
    refine wm_less (L' := [vr a0, vd, vd, vi l3, vd, vd]) ⟨Or.inr rfl, Or.inl rfl, Or.inl rfl, Or.inr rfl, Or.inl rfl, Or.inl rfl, trivial⟩ ?_
    exact hJ 1 (if_neg c121).symm
theorem k_MM_cut_133 {G : mG} {d : Nat} {a0 : Nat} {l1 : Int} {l3 : Int} {M : mM} {Q : mM → Prop} (hO : mOk M) (hi_l1 : i32 l1) (hi_l3 : i32 l3)
    (h : mK M a0 = 14 ∧ Ci G y_MM_letter d [vr a0, vi l3] M (fun x134 M133 => i32 x134 ∧ mOk M133 ∧ (Ci G y_MM_isDigit d [vi x134] M133 (fun x137 M136 => i32 x137 ∧ mOk M136 ∧ (((x137 = 0) → (i32 (l3 - l1) ∧ ∀ v145 : Int, v145 = (if (l3 - l1 ≤ 9) then 2 else 39) → mK M136 a0 = 14 ∧ Cv G y_MM_word0 d [vr a0, vi v145, vi l1, vi l3] M136 (fun M150 => mOk M150 ∧ (∀ v154 : Int, v154 = (if (v145 = 39) then 0 else 1) → mK M150 a0 = 14 ∧ Ci G y_MM_skip d [vr a0, vi l3] M150 (fun x161 M160 => i32 x161 ∧ mOk M160 ∧ (h_MM_cut_32 G d a0 x161 v154 M160 Q)))))) ∧ (¬ (x137 = 0) → (h_MM_cut_133 G d a0 l1 (l3 + 1) M136 Q))))))) :
    h_MM_cut_133 G d a0 l1 l3 M Q := by
  unfold h_MM_cut_133
  obtain ⟨h132, h⟩ := h
  refine wm_aload_n d_MM_cut_133 rfl rfl ?_
  refine wm_iload_n d_MM_cut_134 rfl rfl ?_
  refine cf_MM_159 rfl d_MM_cut_135 h132 (Nat.le_of_ble_eq_true rfl) (Ci.mono h (fun x134 M133 h => ?_))
  obtain ⟨h135, hOM133, h⟩ := h
  refine cf_MM_212 rfl d_MM_cut_138 (Nat.le_of_ble_eq_true rfl) (Ci.mono h (fun x137 M136 h => ?_))
  obtain ⟨h138, hOM136, h⟩ := h
  refine wm_if_eq (tgt := 150) d_MM_cut_141 rfl h138 (fun c142 => ?_) (fun c142 => ?_)
  · replace h := h.1 c142
    obtain ⟨h143, h⟩ := h
    refine wm_iload_n d_MM_cut_150 rfl rfl ?_
    refine wm_iload_n d_MM_cut_151 rfl rfl ?_
    refine wm_isub d_MM_cut_152 ?_
    refine wm_bipush d_MM_cut_153 (by decide) ?_
    have hJ : ∀ v145 : Int, v145 = (if (l3 - l1 ≤ 9) then 2 else 39) → mWm G y_MM_cut (d + 1) 164 [vr a0, vi l1, vd, vi l3, vd, vd] [vi v145] M136 (fun r9 M9 => r9 = none ∧ Q M9) := by
      intro v145 e147
      have h := h v145 e147
      have h148 : i32 v145 := by rw [e147]; (repeat' split) <;> first | exact ⟨by decide, by decide⟩ | exact ⟨by decide, by decide⟩
      obtain ⟨h149, h⟩ := h
      refine wm_istore d_MM_cut_164 (by decide) (L' := [vr a0, vi l1, vd, vi l3, vi v145, vd]) rfl ?_
      refine wm_goto (tgt := 210) d_MM_cut_166 rfl ?_
      refine wm_aload_n d_MM_cut_210 rfl rfl ?_
      refine wm_iload d_MM_cut_211 rfl ?_
      refine wm_iload_n d_MM_cut_213 rfl rfl ?_
      refine wm_iload_n d_MM_cut_214 rfl rfl ?_
      refine cf_MM_222 rfl d_MM_cut_215 h149 (Nat.le_of_ble_eq_true rfl) (Cv.mono h (fun M150 h => ?_))
      obtain ⟨hOM150, h⟩ := h
      refine wm_iload d_MM_cut_218 rfl ?_
      refine wm_bipush d_MM_cut_220 (by decide) ?_
      have hJ : ∀ v154 : Int, v154 = (if (v145 = 39) then 0 else 1) → mWm G y_MM_cut (d + 1) 230 [vr a0, vd, vd, vi l3, vd, vd] [vi v154] M150 (fun r9 M9 => r9 = none ∧ Q M9) := by
        intro v154 e156
        have h := h v154 e156
        have h157 : i32 v154 := by rw [e156]; (repeat' split) <;> first | exact ⟨by decide, by decide⟩ | exact ⟨by decide, by decide⟩
        have h158 : (v154 = 0 ∨ v154 = 1) := by rw [e156]; (repeat' split) <;> decide
        obtain ⟨h159, h⟩ := h
        refine wm_istore_n d_MM_cut_230 rfl (by decide) (L' := [vr a0, vd, vi v154, vi l3, vd, vd]) rfl ?_
        refine wm_aload_n d_MM_cut_231 rfl rfl ?_
        refine wm_iload_n d_MM_cut_232 rfl rfl ?_
        refine cf_MM_206 rfl d_MM_cut_233 h159 (Nat.le_of_ble_eq_true rfl) (Ci.mono h (fun x161 M160 h => ?_))
        obtain ⟨h162, hOM160, h⟩ := h
        refine wm_istore_n d_MM_cut_236 rfl (by decide) (L' := [vr a0, vi x161, vi v154, vi l3, vd, vd]) rfl ?_
        refine wm_goto (tgt := 32) d_MM_cut_237 rfl ?_
        refine wm_less (L' := [vr a0, vi x161, vi v154, vd, vd, vd]) ⟨Or.inr rfl, Or.inr rfl, Or.inr rfl, Or.inl rfl, Or.inl rfl, Or.inl rfl, trivial⟩ ?_
        exact h
      clear h
      refine wm_icmp_eq (tgt := 229) d_MM_cut_222 rfl h148 ⟨by decide, by decide⟩ (fun c153 => ?_) (fun c153 => ?_)
      · refine wm_iconst d_MM_cut_229 ?_
        refine wm_less (L' := [vr a0, vd, vd, vi l3, vd, vd]) ⟨Or.inr rfl, Or.inl rfl, Or.inl rfl, Or.inr rfl, Or.inl rfl, Or.inl rfl, trivial⟩ ?_
        exact hJ 0 (if_pos c153).symm
      · refine wm_iconst d_MM_cut_225 ?_
        refine wm_goto (tgt := 230) d_MM_cut_226 rfl ?_
        refine wm_less (L' := [vr a0, vd, vd, vi l3, vd, vd]) ⟨Or.inr rfl, Or.inl rfl, Or.inl rfl, Or.inr rfl, Or.inl rfl, Or.inl rfl, trivial⟩ ?_
        exact hJ 1 (if_neg c153).symm
    clear h
    refine wm_icmp_le (tgt := 163) d_MM_cut_155 rfl h143 ⟨by decide, by decide⟩ (fun c144 => ?_) (fun c144 => ?_)
    · refine wm_iconst d_MM_cut_163 ?_
      exact hJ 2 (if_pos c144).symm
    · refine wm_bipush d_MM_cut_158 (by decide) ?_
      refine wm_goto (tgt := 164) d_MM_cut_160 rfl ?_
      exact hJ 39 (if_neg c144).symm
  · replace h := h.2 c142
    refine wm_iinc d_MM_cut_144 (by decide) rfl (L' := [vr a0, vi l1, vd, vi (l3 + 1), vd, vd]) rfl ?_
    refine wm_goto (tgt := 133) d_MM_cut_147 rfl ?_
    exact h
theorem k_MM_cut_263 {G : mG} {d : Nat} {M : mM} {Q : mM → Prop} (hO : mOk M)
    (h : Q M) :
    h_MM_cut_263 G d  M Q := by
  unfold h_MM_cut_263
  refine wm_return d_MM_cut_263 rfl ?_
  exact ⟨rfl, h⟩
theorem d_MM_want_0 : decode y_MM_want.2.1 0 = .ok (.aload_n 0, 1) := dc9_42 (by decide +kernel)
theorem d_MM_want_1 : decode y_MM_want.2.1 1 = .ok (.getfield 28, 3) := dc9_180 (by decide +kernel)
theorem d_MM_want_4 : decode y_MM_want.2.1 4 = .ok (.iload_n 3, 1) := dc9_29 (by decide +kernel)
theorem d_MM_want_5 : decode y_MM_want.2.1 5 = .ok (.invokevirtual 152, 3) := dc9_182 (by decide +kernel)
theorem d_MM_want_8 : decode y_MM_want.2.1 8 = .ok (.aload_n 0, 1) := dc9_42 (by decide +kernel)
theorem d_MM_want_9 : decode y_MM_want.2.1 9 = .ok (.getfield 28, 3) := dc9_180 (by decide +kernel)
theorem d_MM_want_12 : decode y_MM_want.2.1 12 = .ok (.iload_n 2, 1) := dc9_28 (by decide +kernel)
theorem d_MM_want_13 : decode y_MM_want.2.1 13 = .ok (.invokevirtual 152, 3) := dc9_182 (by decide +kernel)
theorem d_MM_want_16 : decode y_MM_want.2.1 16 = .ok (.aload_n 0, 1) := dc9_42 (by decide +kernel)
theorem d_MM_want_17 : decode y_MM_want.2.1 17 = .ok (.getfield 28, 3) := dc9_180 (by decide +kernel)
theorem d_MM_want_20 : decode y_MM_want.2.1 20 = .ok (.iload_n 1, 1) := dc9_27 (by decide +kernel)
theorem d_MM_want_21 : decode y_MM_want.2.1 21 = .ok (.invokevirtual 152, 3) := dc9_182 (by decide +kernel)
theorem d_MM_want_24 : decode y_MM_want.2.1 24 = .ok (.return_, 1) := dc9_177 (by decide +kernel)
theorem k_MM_want {G : mG} {d : Nat} {a0 : Nat} {l1 : Int} {l2 : Int} {l3 : Int} {M : mM} {Q : mM → Prop} (hO : mOk M) (hi_l1 : i32 l1) (hi_l2 : i32 l2) (hi_l3 : i32 l3)
    (h : mK M a0 = 14 ∧ mK M (mR M a0 6) = 15 ∧ Cv G y_MN_add d [vr (mR M a0 6), vi l3] M (fun M3 => mOk M3 ∧ (mK M3 a0 = 14 ∧ mK M3 (mR M3 a0 6) = 15 ∧ Cv G y_MN_add d [vr (mR M3 a0 6), vi l2] M3 (fun M8 => mOk M8 ∧ (mK M8 a0 = 14 ∧ mK M8 (mR M8 a0 6) = 15 ∧ Cv G y_MN_add d [vr (mR M8 a0 6), vi l1] M8 (fun M13 => mOk M13 ∧ (Q M13))))))) :
    Cv G y_MM_want (d + 1) [vr a0, vi l1, vi l2, vi l3] M Q := by
  refine wm_open (y := y_MM_want) rfl (Nat.le_of_ble_eq_true rfl) (L := [vr a0, vi l1, vi l2, vi l3]) rfl ?_
  obtain ⟨h1, h⟩ := h
  obtain ⟨h2, h⟩ := h
  refine wm_aload_n d_MM_want_0 rfl rfl ?_
  refine gf_MM_28 rfl d_MM_want_1 h1 ?_
  refine wm_iload_n d_MM_want_4 rfl rfl ?_
  refine cf_MM_152 rfl d_MM_want_5 h2 (Nat.le_of_ble_eq_true rfl) (Cv.mono h (fun M3 h => ?_))
  obtain ⟨hOM3, h⟩ := h
  obtain ⟨h6, h⟩ := h
  obtain ⟨h7, h⟩ := h
  refine wm_aload_n d_MM_want_8 rfl rfl ?_
  refine gf_MM_28 rfl d_MM_want_9 h6 ?_
  refine wm_iload_n d_MM_want_12 rfl rfl ?_
  refine cf_MM_152 rfl d_MM_want_13 h7 (Nat.le_of_ble_eq_true rfl) (Cv.mono h (fun M8 h => ?_))
  obtain ⟨hOM8, h⟩ := h
  obtain ⟨h11, h⟩ := h
  obtain ⟨h12, h⟩ := h
  refine wm_aload_n d_MM_want_16 rfl rfl ?_
  refine gf_MM_28 rfl d_MM_want_17 h11 ?_
  refine wm_iload_n d_MM_want_20 rfl rfl ?_
  refine cf_MM_152 rfl d_MM_want_21 h12 (Nat.le_of_ble_eq_true rfl) (Cv.mono h (fun M13 h => ?_))
  obtain ⟨hOM13, h⟩ := h
  refine wm_return d_MM_want_24 rfl ?_
  exact ⟨rfl, h⟩
theorem d_MM_level_0 : decode y_MM_level.2.1 0 = .ok (.aload_n 0, 1) := dc9_42 (by decide +kernel)
theorem d_MM_level_1 : decode y_MM_level.2.1 1 = .ok (.aload_n 0, 1) := dc9_42 (by decide +kernel)
theorem d_MM_level_2 : decode y_MM_level.2.1 2 = .ok (.getfield 226, 3) := dc9_180 (by decide +kernel)
theorem d_MM_level_5 : decode y_MM_level.2.1 5 = .ok (.iconst 1, 1) := dc9_4 (by decide +kernel)
theorem d_MM_level_6 : decode y_MM_level.2.1 6 = .ok (.iadd, 1) := dc9_96 (by decide +kernel)
theorem d_MM_level_7 : decode y_MM_level.2.1 7 = .ok (.putfield 226, 3) := dc9_181 (by decide +kernel)
theorem d_MM_level_10 : decode y_MM_level.2.1 10 = .ok (.aload_n 0, 1) := dc9_42 (by decide +kernel)
theorem d_MM_level_11 : decode y_MM_level.2.1 11 = .ok (.getfield 226, 3) := dc9_180 (by decide +kernel)
theorem d_MM_level_14 : decode y_MM_level.2.1 14 = .ok (.bipush 40, 2) := dc9_16 (by decide +kernel)
theorem d_MM_level_16 : decode y_MM_level.2.1 16 = .ok (.if_icmp .gt 7, 3) := dc9_163 (by decide +kernel)
theorem d_MM_level_23 : decode y_MM_level.2.1 23 = .ok (.iconst 0, 1) := dc9_3 (by decide +kernel)
theorem d_MM_level_19 : decode y_MM_level.2.1 19 = .ok (.iconst 1, 1) := dc9_4 (by decide +kernel)
theorem d_MM_level_20 : decode y_MM_level.2.1 20 = .ok (.goto 4, 3) := dc9_167 (by decide +kernel)
theorem d_MM_level_24 : decode y_MM_level.2.1 24 = .ok (.ireturn, 1) := dc9_172 (by decide +kernel)
theorem k_MM_level {G : mG} {d : Nat} {a0 : Nat} {M : mM} {Q : Int → mM → Prop} (hO : mOk M)
    (h : mK M a0 = 14 ∧ i32 ((mI M a0 7) + 1) ∧ ∀ M3, M3 = mUI M a0 7 ((mI M a0 7) + 1) → ∀ v6 : Int, v6 = (if (40 < mI M3 a0 7) then 0 else 1) → Q v6 M3) :
    Ci G y_MM_level d [vr a0] M Q := by
  refine wm_open (y := y_MM_level) rfl (Nat.le_of_ble_eq_true rfl) (L := [vr a0]) rfl ?_
  obtain ⟨h1, h⟩ := h
  obtain ⟨h2, h⟩ := h
  obtain ⟨M3, e4⟩ : ∃ M3, M3 = mUI M a0 7 ((mI M a0 7) + 1) := ⟨_, rfl⟩
  replace h := h M3 e4
  refine wm_aload_n d_MM_level_0 rfl rfl ?_
  refine wm_aload_n d_MM_level_1 rfl rfl ?_
  refine gf_MM_226 rfl d_MM_level_2 h1 ?_
  refine wm_iconst d_MM_level_5 ?_
  refine wm_iadd d_MM_level_6 ?_
  have hOM3 : mOk M3 := by rw [e4]; exact mOk_UI hO h2
  refine pf_MM_226 rfl d_MM_level_7 h1 h2 e4 ?_
  refine wm_aload_n d_MM_level_10 rfl rfl ?_
  refine gf_MM_226 rfl d_MM_level_11 (by rw [e4]; exact h1) ?_
  refine wm_bipush d_MM_level_14 (by decide) ?_
  have hJ : ∀ v6 : Int, v6 = (if (40 < mI M3 a0 7) then 0 else 1) → mWm G y_MM_level d 24 [vd] [vi v6] M3 (fun r9 M9 => ∃ x9, r9 = some (vi x9) ∧ Q x9 M9) := by
    intro v6 e8
    have h := h v6 e8
    have h9 : i32 v6 := by rw [e8]; (repeat' split) <;> first | exact ⟨by decide, by decide⟩ | exact ⟨by decide, by decide⟩
    have h10 : (v6 = 0 ∨ v6 = 1) := by rw [e8]; (repeat' split) <;> decide
    refine wm_ireturn d_MM_level_24 rfl (m_nb h10) ?_
    exact ⟨_, rfl, h⟩
  clear h
  refine wm_icmp_gt (tgt := 23) d_MM_level_16 rfl (hOM3 _ _).1 ⟨by decide, by decide⟩ (fun c5 => ?_) (fun c5 => ?_)
  · refine wm_iconst d_MM_level_23 ?_
    refine wm_less (L' := [vd]) ⟨Or.inl rfl, trivial⟩ ?_
    exact hJ 0 (if_pos c5).symm
  · refine wm_iconst d_MM_level_19 ?_
    refine wm_goto (tgt := 24) d_MM_level_20 rfl ?_
    refine wm_less (L' := [vd]) ⟨Or.inl rfl, trivial⟩ ?_
    exact hJ 1 (if_neg c5).symm
theorem d_MM_isComparison_0 : decode y_MM_isComparison.2.1 0 = .ok (.iload_n 0, 1) := dc9_26 (by decide +kernel)
theorem d_MM_isComparison_1 : decode y_MM_isComparison.2.1 1 = .ok (.bipush 23, 2) := dc9_16 (by decide +kernel)
theorem d_MM_isComparison_3 : decode y_MM_isComparison.2.1 3 = .ok (.if_icmp .eq 33, 3) := dc9_159 (by decide +kernel)
theorem d_MM_isComparison_36 : decode y_MM_isComparison.2.1 36 = .ok (.iconst 1, 1) := dc9_4 (by decide +kernel)
theorem d_MM_isComparison_37 : decode y_MM_isComparison.2.1 37 = .ok (.goto 4, 3) := dc9_167 (by decide +kernel)
theorem d_MM_isComparison_6 : decode y_MM_isComparison.2.1 6 = .ok (.iload_n 0, 1) := dc9_26 (by decide +kernel)
theorem d_MM_isComparison_7 : decode y_MM_isComparison.2.1 7 = .ok (.bipush 18, 2) := dc9_16 (by decide +kernel)
theorem d_MM_isComparison_9 : decode y_MM_isComparison.2.1 9 = .ok (.if_icmp .eq 27, 3) := dc9_159 (by decide +kernel)
theorem d_MM_isComparison_12 : decode y_MM_isComparison.2.1 12 = .ok (.iload_n 0, 1) := dc9_26 (by decide +kernel)
theorem d_MM_isComparison_13 : decode y_MM_isComparison.2.1 13 = .ok (.bipush 21, 2) := dc9_16 (by decide +kernel)
theorem d_MM_isComparison_15 : decode y_MM_isComparison.2.1 15 = .ok (.if_icmp .eq 21, 3) := dc9_159 (by decide +kernel)
theorem d_MM_isComparison_18 : decode y_MM_isComparison.2.1 18 = .ok (.iload_n 0, 1) := dc9_26 (by decide +kernel)
theorem d_MM_isComparison_19 : decode y_MM_isComparison.2.1 19 = .ok (.bipush 19, 2) := dc9_16 (by decide +kernel)
theorem d_MM_isComparison_21 : decode y_MM_isComparison.2.1 21 = .ok (.if_icmp .eq 15, 3) := dc9_159 (by decide +kernel)
theorem d_MM_isComparison_24 : decode y_MM_isComparison.2.1 24 = .ok (.iload_n 0, 1) := dc9_26 (by decide +kernel)
theorem d_MM_isComparison_25 : decode y_MM_isComparison.2.1 25 = .ok (.bipush 22, 2) := dc9_16 (by decide +kernel)
theorem d_MM_isComparison_27 : decode y_MM_isComparison.2.1 27 = .ok (.if_icmp .eq 9, 3) := dc9_159 (by decide +kernel)
theorem d_MM_isComparison_30 : decode y_MM_isComparison.2.1 30 = .ok (.iload_n 0, 1) := dc9_26 (by decide +kernel)
theorem d_MM_isComparison_31 : decode y_MM_isComparison.2.1 31 = .ok (.bipush 20, 2) := dc9_16 (by decide +kernel)
theorem d_MM_isComparison_33 : decode y_MM_isComparison.2.1 33 = .ok (.if_icmp .ne 7, 3) := dc9_160 (by decide +kernel)
theorem d_MM_isComparison_40 : decode y_MM_isComparison.2.1 40 = .ok (.iconst 0, 1) := dc9_3 (by decide +kernel)
theorem d_MM_isComparison_41 : decode y_MM_isComparison.2.1 41 = .ok (.ireturn, 1) := dc9_172 (by decide +kernel)
theorem k_MM_isComparison {G : mG} {d : Nat} {l0 : Int} {M : mM} {Q : Int → mM → Prop} (hO : mOk M) (hi_l0 : i32 l0)
    (h : ∀ v7 : Int, v7 = (if ((l0 = 23) ∨ ((l0 = 18) ∨ ((l0 = 21) ∨ ((l0 = 19) ∨ ((l0 = 22) ∨ (l0 = 20)))))) then 1 else 0) → Q v7 M) :
    Ci G y_MM_isComparison d [vi l0] M Q := by
  refine wm_open (y := y_MM_isComparison) rfl (Nat.le_of_ble_eq_true rfl) (L := [vi l0]) rfl ?_
  refine wm_iload_n d_MM_isComparison_0 rfl rfl ?_
  refine wm_bipush d_MM_isComparison_1 (by decide) ?_
  have hJ : ∀ v7 : Int, v7 = (if ((l0 = 23) ∨ ((l0 = 18) ∨ ((l0 = 21) ∨ ((l0 = 19) ∨ ((l0 = 22) ∨ (l0 = 20)))))) then 1 else 0) → mWm G y_MM_isComparison d 41 [vd] [vi v7] M (fun r9 M9 => ∃ x9, r9 = some (vi x9) ∧ Q x9 M9) := by
    intro v7 e9
    have h := h v7 e9
    have h10 : i32 v7 := by rw [e9]; (repeat' split) <;> first | exact ⟨by decide, by decide⟩ | exact ⟨by decide, by decide⟩
    have h11 : (v7 = 0 ∨ v7 = 1) := by rw [e9]; (repeat' split) <;> decide
    refine wm_ireturn d_MM_isComparison_41 rfl (m_nb h11) ?_
    exact ⟨_, rfl, h⟩
  clear h
  refine wm_icmp_eq (tgt := 36) d_MM_isComparison_3 rfl hi_l0 ⟨by decide, by decide⟩ (fun c1 => ?_) (fun c1 => ?_)
  · refine wm_iconst d_MM_isComparison_36 ?_
    refine wm_goto (tgt := 41) d_MM_isComparison_37 rfl ?_
    refine wm_less (L' := [vd]) ⟨Or.inl rfl, trivial⟩ ?_
    exact hJ 1 (if_pos (Or.inl c1)).symm
  · refine wm_iload_n d_MM_isComparison_6 rfl rfl ?_
    refine wm_bipush d_MM_isComparison_7 (by decide) ?_
    refine wm_icmp_eq (tgt := 36) d_MM_isComparison_9 rfl hi_l0 ⟨by decide, by decide⟩ (fun c2 => ?_) (fun c2 => ?_)
    · refine wm_iconst d_MM_isComparison_36 ?_
      refine wm_goto (tgt := 41) d_MM_isComparison_37 rfl ?_
      refine wm_less (L' := [vd]) ⟨Or.inl rfl, trivial⟩ ?_
      exact hJ 1 (if_pos (Or.inr (Or.inl c2))).symm
    · refine wm_iload_n d_MM_isComparison_12 rfl rfl ?_
      refine wm_bipush d_MM_isComparison_13 (by decide) ?_
      refine wm_icmp_eq (tgt := 36) d_MM_isComparison_15 rfl hi_l0 ⟨by decide, by decide⟩ (fun c3 => ?_) (fun c3 => ?_)
      · refine wm_iconst d_MM_isComparison_36 ?_
        refine wm_goto (tgt := 41) d_MM_isComparison_37 rfl ?_
        refine wm_less (L' := [vd]) ⟨Or.inl rfl, trivial⟩ ?_
        exact hJ 1 (if_pos (Or.inr (Or.inr (Or.inl c3)))).symm
      · refine wm_iload_n d_MM_isComparison_18 rfl rfl ?_
        refine wm_bipush d_MM_isComparison_19 (by decide) ?_
        refine wm_icmp_eq (tgt := 36) d_MM_isComparison_21 rfl hi_l0 ⟨by decide, by decide⟩ (fun c4 => ?_) (fun c4 => ?_)
        · refine wm_iconst d_MM_isComparison_36 ?_
          refine wm_goto (tgt := 41) d_MM_isComparison_37 rfl ?_
          refine wm_less (L' := [vd]) ⟨Or.inl rfl, trivial⟩ ?_
          exact hJ 1 (if_pos (Or.inr (Or.inr (Or.inr (Or.inl c4))))).symm
        · refine wm_iload_n d_MM_isComparison_24 rfl rfl ?_
          refine wm_bipush d_MM_isComparison_25 (by decide) ?_
          refine wm_icmp_eq (tgt := 36) d_MM_isComparison_27 rfl hi_l0 ⟨by decide, by decide⟩ (fun c5 => ?_) (fun c5 => ?_)
          · refine wm_iconst d_MM_isComparison_36 ?_
            refine wm_goto (tgt := 41) d_MM_isComparison_37 rfl ?_
            refine wm_less (L' := [vd]) ⟨Or.inl rfl, trivial⟩ ?_
            exact hJ 1 (if_pos (Or.inr (Or.inr (Or.inr (Or.inr (Or.inl c5)))))).symm
          · refine wm_iload_n d_MM_isComparison_30 rfl rfl ?_
            refine wm_bipush d_MM_isComparison_31 (by decide) ?_
            refine wm_icmp_ne (tgt := 40) d_MM_isComparison_33 rfl hi_l0 ⟨by decide, by decide⟩ (fun c6 => ?_) (fun c6 => ?_)
            · refine wm_iconst d_MM_isComparison_40 ?_
              refine wm_less (L' := [vd]) ⟨Or.inl rfl, trivial⟩ ?_
              exact hJ 0 (if_neg (fun z12 => Or.elim z12 c1 (fun z13 => Or.elim z13 c2 (fun z14 => Or.elim z14 c3 (fun z15 => Or.elim z15 c4 (fun z16 => Or.elim z16 c5 c6)))))).symm
            · replace c6 := Classical.not_not.mp c6
              refine wm_iconst d_MM_isComparison_36 ?_
              refine wm_goto (tgt := 41) d_MM_isComparison_37 rfl ?_
              refine wm_less (L' := [vd]) ⟨Or.inl rfl, trivial⟩ ?_
              exact hJ 1 (if_pos (Or.inr (Or.inr (Or.inr (Or.inr (Or.inr c6)))))).symm
theorem d_MM_readText_0 : decode y_MM_readText.2.1 0 = .ok (.aload_n 0, 1) := dc9_42 (by decide +kernel)
theorem d_MM_readText_1 : decode y_MM_readText.2.1 1 = .ok (.getfield 28, 3) := dc9_180 (by decide +kernel)
theorem d_MM_readText_4 : decode y_MM_readText.2.1 4 = .ok (.iconst 0, 1) := dc9_3 (by decide +kernel)
theorem d_MM_readText_5 : decode y_MM_readText.2.1 5 = .ok (.putfield 145, 3) := dc9_181 (by decide +kernel)
theorem d_MM_readText_8 : decode y_MM_readText.2.1 8 = .ok (.aload_n 0, 1) := dc9_42 (by decide +kernel)
theorem d_MM_readText_9 : decode y_MM_readText.2.1 9 = .ok (.iconst 0, 1) := dc9_3 (by decide +kernel)
theorem d_MM_readText_10 : decode y_MM_readText.2.1 10 = .ok (.putfield 226, 3) := dc9_181 (by decide +kernel)
theorem d_MM_readText_13 : decode y_MM_readText.2.1 13 = .ok (.aload_n 0, 1) := dc9_42 (by decide +kernel)
theorem d_MM_readText_14 : decode y_MM_readText.2.1 14 = .ok (.iconst (-1), 1) := dc9_2 (by decide +kernel)
theorem d_MM_readText_15 : decode y_MM_readText.2.1 15 = .ok (.putfield 229, 3) := dc9_181 (by decide +kernel)
theorem d_MM_readText_18 : decode y_MM_readText.2.1 18 = .ok (.aload_n 0, 1) := dc9_42 (by decide +kernel)
theorem d_MM_readText_19 : decode y_MM_readText.2.1 19 = .ok (.getfield 28, 3) := dc9_180 (by decide +kernel)
theorem d_MM_readText_22 : decode y_MM_readText.2.1 22 = .ok (.bipush 50, 2) := dc9_16 (by decide +kernel)
theorem d_MM_readText_24 : decode y_MM_readText.2.1 24 = .ok (.invokevirtual 152, 3) := dc9_182 (by decide +kernel)
theorem d_MM_readText_27 : decode y_MM_readText.2.1 27 = .ok (.iconst 0, 1) := dc9_3 (by decide +kernel)
theorem d_MM_readText_28 : decode y_MM_readText.2.1 28 = .ok (.istore_n 1, 1) := dc9_60 (by decide +kernel)
theorem d_MM_readText_29 : decode y_MM_readText.2.1 29 = .ok (.aload_n 0, 1) := dc9_42 (by decide +kernel)
theorem d_MM_readText_30 : decode y_MM_readText.2.1 30 = .ok (.getfield 229, 3) := dc9_180 (by decide +kernel)
theorem d_MM_readText_33 : decode y_MM_readText.2.1 33 = .ok (.ifCond .ge 128, 3) := dc9_156 (by decide +kernel)
theorem d_MM_readText_36 : decode y_MM_readText.2.1 36 = .ok (.aload_n 0, 1) := dc9_42 (by decide +kernel)
theorem d_MM_readText_37 : decode y_MM_readText.2.1 37 = .ok (.getfield 28, 3) := dc9_180 (by decide +kernel)
theorem d_MM_readText_40 : decode y_MM_readText.2.1 40 = .ok (.getfield 145, 3) := dc9_180 (by decide +kernel)
theorem d_MM_readText_43 : decode y_MM_readText.2.1 43 = .ok (.ifCond .le 118, 3) := dc9_158 (by decide +kernel)
theorem d_MM_readText_46 : decode y_MM_readText.2.1 46 = .ok (.aload_n 0, 1) := dc9_42 (by decide +kernel)
theorem d_MM_readText_47 : decode y_MM_readText.2.1 47 = .ok (.getfield 28, 3) := dc9_180 (by decide +kernel)
theorem d_MM_readText_161 : decode y_MM_readText.2.1 161 = .ok (.aload_n 0, 1) := dc9_42 (by decide +kernel)
theorem d_MM_readText_162 : decode y_MM_readText.2.1 162 = .ok (.getfield 229, 3) := dc9_180 (by decide +kernel)
theorem d_MM_readText_165 : decode y_MM_readText.2.1 165 = .ok (.ifCond .ge 7, 3) := dc9_156 (by decide +kernel)
theorem d_MM_readText_172 : decode y_MM_readText.2.1 172 = .ok (.iconst 0, 1) := dc9_3 (by decide +kernel)
theorem d_MM_readText_168 : decode y_MM_readText.2.1 168 = .ok (.iconst 1, 1) := dc9_4 (by decide +kernel)
theorem d_MM_readText_169 : decode y_MM_readText.2.1 169 = .ok (.goto 4, 3) := dc9_167 (by decide +kernel)
theorem d_MM_readText_173 : decode y_MM_readText.2.1 173 = .ok (.ireturn, 1) := dc9_172 (by decide +kernel)
theorem d_MM_readText_50 : decode y_MM_readText.2.1 50 = .ok (.invokevirtual 232, 3) := dc9_182 (by decide +kernel)
theorem d_MM_readText_53 : decode y_MM_readText.2.1 53 = .ok (.istore_n 2, 1) := dc9_61 (by decide +kernel)
theorem d_MM_readText_54 : decode y_MM_readText.2.1 54 = .ok (.aload_n 0, 1) := dc9_42 (by decide +kernel)
theorem d_MM_readText_55 : decode y_MM_readText.2.1 55 = .ok (.getfield 19, 3) := dc9_180 (by decide +kernel)
theorem d_MM_readText_58 : decode y_MM_readText.2.1 58 = .ok (.iload_n 1, 1) := dc9_27 (by decide +kernel)
theorem d_MM_readText_59 : decode y_MM_readText.2.1 59 = .ok (.invokevirtual 155, 3) := dc9_182 (by decide +kernel)
theorem d_MM_readText_62 : decode y_MM_readText.2.1 62 = .ok (.istore_n 3, 1) := dc9_62 (by decide +kernel)
theorem d_MM_readText_63 : decode y_MM_readText.2.1 63 = .ok (.iload_n 2, 1) := dc9_28 (by decide +kernel)
theorem d_MM_readText_64 : decode y_MM_readText.2.1 64 = .ok (.bipush 75, 2) := dc9_16 (by decide +kernel)
theorem d_MM_readText_66 : decode y_MM_readText.2.1 66 = .ok (.if_icmp .ne 16, 3) := dc9_160 (by decide +kernel)
theorem d_MM_readText_69 : decode y_MM_readText.2.1 69 = .ok (.aload_n 0, 1) := dc9_42 (by decide +kernel)
theorem d_MM_readText_70 : decode y_MM_readText.2.1 70 = .ok (.aload_n 0, 1) := dc9_42 (by decide +kernel)
theorem d_MM_readText_71 : decode y_MM_readText.2.1 71 = .ok (.getfield 226, 3) := dc9_180 (by decide +kernel)
theorem d_MM_readText_74 : decode y_MM_readText.2.1 74 = .ok (.iconst 1, 1) := dc9_4 (by decide +kernel)
theorem d_MM_readText_75 : decode y_MM_readText.2.1 75 = .ok (.isub, 1) := dc9_100 (by decide +kernel)
theorem d_MM_readText_76 : decode y_MM_readText.2.1 76 = .ok (.putfield 226, 3) := dc9_181 (by decide +kernel)
theorem d_MM_readText_79 : decode y_MM_readText.2.1 79 = .ok (.goto 79, 3) := dc9_167 (by decide +kernel)
theorem d_MM_readText_158 : decode y_MM_readText.2.1 158 = .ok (.goto (-129), 3) := dc9_167 (by decide +kernel)
theorem d_MM_readText_82 : decode y_MM_readText.2.1 82 = .ok (.iload_n 2, 1) := dc9_28 (by decide +kernel)
theorem d_MM_readText_83 : decode y_MM_readText.2.1 83 = .ok (.bipush 50, 2) := dc9_16 (by decide +kernel)
theorem d_MM_readText_85 : decode y_MM_readText.2.1 85 = .ok (.if_icmp .ge 23, 3) := dc9_162 (by decide +kernel)
theorem d_MM_readText_108 : decode y_MM_readText.2.1 108 = .ok (.iload_n 2, 1) := dc9_28 (by decide +kernel)
theorem d_MM_readText_109 : decode y_MM_readText.2.1 109 = .ok (.bipush 61, 2) := dc9_16 (by decide +kernel)
theorem d_MM_readText_88 : decode y_MM_readText.2.1 88 = .ok (.aload_n 0, 1) := dc9_42 (by decide +kernel)
theorem d_MM_readText_89 : decode y_MM_readText.2.1 89 = .ok (.iload_n 2, 1) := dc9_28 (by decide +kernel)
theorem d_MM_readText_90 : decode y_MM_readText.2.1 90 = .ok (.iload_n 3, 1) := dc9_29 (by decide +kernel)
theorem d_MM_readText_111 : decode y_MM_readText.2.1 111 = .ok (.if_icmp .ge 12, 3) := dc9_162 (by decide +kernel)
theorem d_MM_readText_123 : decode y_MM_readText.2.1 123 = .ok (.aload_n 0, 1) := dc9_42 (by decide +kernel)
theorem d_MM_readText_124 : decode y_MM_readText.2.1 124 = .ok (.iload_n 2, 1) := dc9_28 (by decide +kernel)
theorem d_MM_readText_125 : decode y_MM_readText.2.1 125 = .ok (.iload_n 3, 1) := dc9_29 (by decide +kernel)
theorem d_MM_readText_114 : decode y_MM_readText.2.1 114 = .ok (.aload_n 0, 1) := dc9_42 (by decide +kernel)
theorem d_MM_readText_115 : decode y_MM_readText.2.1 115 = .ok (.iload_n 2, 1) := dc9_28 (by decide +kernel)
theorem d_MM_readText_116 : decode y_MM_readText.2.1 116 = .ok (.iload_n 3, 1) := dc9_29 (by decide +kernel)
theorem d_MM_readText_126 : decode y_MM_readText.2.1 126 = .ok (.invokevirtual 238, 3) := dc9_182 (by decide +kernel)
theorem d_MM_readText_117 : decode y_MM_readText.2.1 117 = .ok (.invokevirtual 235, 3) := dc9_182 (by decide +kernel)
theorem d_MM_readText_120 : decode y_MM_readText.2.1 120 = .ok (.goto 9, 3) := dc9_167 (by decide +kernel)
theorem d_MM_readText_91 : decode y_MM_readText.2.1 91 = .ok (.if_icmp .ne 7, 3) := dc9_160 (by decide +kernel)
theorem d_MM_readText_94 : decode y_MM_readText.2.1 94 = .ok (.iconst (-1), 1) := dc9_2 (by decide +kernel)
theorem d_MM_readText_95 : decode y_MM_readText.2.1 95 = .ok (.goto 4, 3) := dc9_167 (by decide +kernel)
theorem d_MM_readText_98 : decode y_MM_readText.2.1 98 = .ok (.iload_n 1, 1) := dc9_27 (by decide +kernel)
theorem d_MM_readText_99 : decode y_MM_readText.2.1 99 = .ok (.putfield 229, 3) := dc9_181 (by decide +kernel)
theorem d_MM_readText_102 : decode y_MM_readText.2.1 102 = .ok (.iinc 1 1, 3) := by decide +kernel
theorem d_MM_readText_105 : decode y_MM_readText.2.1 105 = .ok (.goto 53, 3) := dc9_167 (by decide +kernel)
theorem d_MM_readText_129 : decode y_MM_readText.2.1 129 = .ok (.istore 4, 2) := dc9_54 (by decide +kernel)
theorem d_MM_readText_131 : decode y_MM_readText.2.1 131 = .ok (.aload_n 0, 1) := dc9_42 (by decide +kernel)
theorem d_MM_readText_132 : decode y_MM_readText.2.1 132 = .ok (.iload 4, 2) := dc9_21 (by decide +kernel)
theorem d_MM_readText_134 : decode y_MM_readText.2.1 134 = .ok (.ifCond .ge 7, 3) := dc9_156 (by decide +kernel)
theorem d_MM_readText_141 : decode y_MM_readText.2.1 141 = .ok (.iconst (-1), 1) := dc9_2 (by decide +kernel)
theorem d_MM_readText_137 : decode y_MM_readText.2.1 137 = .ok (.iload_n 1, 1) := dc9_27 (by decide +kernel)
theorem d_MM_readText_138 : decode y_MM_readText.2.1 138 = .ok (.goto 4, 3) := dc9_167 (by decide +kernel)
theorem d_MM_readText_142 : decode y_MM_readText.2.1 142 = .ok (.putfield 229, 3) := dc9_181 (by decide +kernel)
theorem d_MM_readText_145 : decode y_MM_readText.2.1 145 = .ok (.iload 4, 2) := dc9_21 (by decide +kernel)
theorem d_MM_readText_147 : decode y_MM_readText.2.1 147 = .ok (.ifCond .le 9, 3) := dc9_158 (by decide +kernel)
theorem d_MM_readText_156 : decode y_MM_readText.2.1 156 = .ok (.iload_n 1, 1) := dc9_27 (by decide +kernel)
theorem d_MM_readText_150 : decode y_MM_readText.2.1 150 = .ok (.iload_n 1, 1) := dc9_27 (by decide +kernel)
theorem d_MM_readText_151 : decode y_MM_readText.2.1 151 = .ok (.iconst 1, 1) := dc9_4 (by decide +kernel)
theorem d_MM_readText_152 : decode y_MM_readText.2.1 152 = .ok (.iadd, 1) := dc9_96 (by decide +kernel)
theorem d_MM_readText_153 : decode y_MM_readText.2.1 153 = .ok (.goto 4, 3) := dc9_167 (by decide +kernel)
theorem d_MM_readText_157 : decode y_MM_readText.2.1 157 = .ok (.istore_n 1, 1) := dc9_60 (by decide +kernel)
def h_MM_readText_29 (G : mG) (d : Nat) (a0 : Nat) (l1 : Int) (M : mM) (Q : Int → mM → Prop) : Prop := mWm G y_MM_readText (d + 1) 29 [vr a0, vi l1, vd, vd, vd] [] M (fun r9 M9 => ∃ x9, r9 = some (vi x9) ∧ Q x9 M9)
def h_MM_readText_129 (G : mG) (d : Nat) (a0 : Nat) (l1 : Int) (k0 : Int) (M : mM) (Q : Int → mM → Prop) : Prop := mWm G y_MM_readText (d + 1) 129 [vr a0, vi l1, vd, vd, vd] [vi k0] M (fun r9 M9 => ∃ x9, r9 = some (vi x9) ∧ Q x9 M9)
theorem k_MM_readText {G : mG} {d : Nat} {a0 : Nat} {M : mM} {Q : Int → mM → Prop} (hO : mOk M)
    (h : mK M a0 = 14 ∧ mK M (mR M a0 6) = 15 ∧ ∀ M3, M3 = mUI M (mR M a0 6) 1 0 → ∀ M5, M5 = mUI M3 a0 7 0 → ∀ M7, M7 = mUI M5 a0 8 (-1) → mK M7 (mR M7 a0 6) = 15 ∧ Cv G y_MN_add d [vr (mR M7 a0 6), vi 50] M7 (fun M10 => mOk M10 ∧ (h_MM_readText_29 G d a0 0 M10 Q))) :
    Ci G y_MM_readText (d + 1) [vr a0] M Q := by
  refine wm_open (y := y_MM_readText) rfl (Nat.le_of_ble_eq_true rfl) (L := [vr a0, vd, vd, vd, vd]) rfl ?_
  obtain ⟨h1, h⟩ := h
  obtain ⟨h2, h⟩ := h
  obtain ⟨M3, e4⟩ : ∃ M3, M3 = mUI M (mR M a0 6) 1 0 := ⟨_, rfl⟩
  replace h := h M3 e4
  obtain ⟨M5, e6⟩ : ∃ M5, M5 = mUI M3 a0 7 0 := ⟨_, rfl⟩
  replace h := h M5 e6
  obtain ⟨M7, e8⟩ : ∃ M7, M7 = mUI M5 a0 8 (-1) := ⟨_, rfl⟩
  replace h := h M7 e8
  obtain ⟨h9, h⟩ := h
  refine wm_aload_n d_MM_readText_0 rfl rfl ?_
  refine gf_MM_28 rfl d_MM_readText_1 h1 ?_
  refine wm_iconst d_MM_readText_4 ?_
  have hOM3 : mOk M3 := by rw [e4]; exact mOk_UI hO ⟨by decide, by decide⟩
  refine pf_MM_145 rfl d_MM_readText_5 h2 ⟨by decide, by decide⟩ e4 ?_
  refine wm_aload_n d_MM_readText_8 rfl rfl ?_
  refine wm_iconst d_MM_readText_9 ?_
  have hOM5 : mOk M5 := by rw [e6]; exact mOk_UI hOM3 ⟨by decide, by decide⟩
  refine pf_MM_226 rfl d_MM_readText_10 (by rw [e4]; exact h1) ⟨by decide, by decide⟩ e6 ?_
  refine wm_aload_n d_MM_readText_13 rfl rfl ?_
  refine wm_iconst d_MM_readText_14 ?_
  have hOM7 : mOk M7 := by rw [e8]; exact mOk_UI hOM5 ⟨by decide, by decide⟩
  refine pf_MM_229 rfl d_MM_readText_15 (by rw [e6, e4]; exact h1) ⟨by decide, by decide⟩ e8 ?_
  refine wm_aload_n d_MM_readText_18 rfl rfl ?_
  refine gf_MM_28 rfl d_MM_readText_19 (by rw [e8, e6, e4]; exact h1) ?_
  refine wm_bipush d_MM_readText_22 (by decide) ?_
  refine cf_MM_152 rfl d_MM_readText_24 h9 (Nat.le_of_ble_eq_true rfl) (Cv.mono h (fun M10 h => ?_))
  obtain ⟨hOM10, h⟩ := h
  refine wm_iconst d_MM_readText_27 ?_
  refine wm_istore_n d_MM_readText_28 rfl (by decide) (L' := [vr a0, vi 0, vd, vd, vd]) rfl ?_
  exact h
theorem k_MM_readText_29 {G : mG} {d : Nat} {a0 : Nat} {l1 : Int} {M : mM} {Q : Int → mM → Prop} (hO : mOk M) (hi_l1 : i32 l1)
    (h : mK M a0 = 14 ∧ (¬ (0 ≤ mI M a0 8) → mK M (mR M a0 6) = 15) ∧ (((0 ≤ mI M a0 8) ∨ (mI M (mR M a0 6) 1 ≤ 0)) → (∀ v20 : Int, v20 = (if (0 ≤ mI M a0 8) then 0 else 1) → Q v20 M)) ∧ (¬ ((0 ≤ mI M a0 8) ∨ (mI M (mR M a0 6) 1 ≤ 0)) → (mK M (mR M a0 6) = 15 ∧ Ci G y_MN_take d [vr (mR M a0 6)] M (fun x29 M28 => i32 x29 ∧ mOk M28 ∧ (mK M28 a0 = 14 ∧ mK M28 (mR M28 a0 3) = 15 ∧ Ci G y_MN_at d [vr (mR M28 a0 3), vi l1] M28 (fun x34 M33 => i32 x34 ∧ mOk M33 ∧ (((x29 = 75) → (mK M33 a0 = 14 ∧ i32 ((mI M33 a0 7) - 1) ∧ ∀ M44, M44 = mUI M33 a0 7 ((mI M33 a0 7) - 1) → h_MM_readText_29 G d a0 l1 M44 Q)) ∧ (¬ (x29 = 75) → (((50 ≤ x29) → (((61 ≤ x29) → (mK M33 a0 = 14 ∧ Ci G y_MM_rule0 d [vr a0, vi x29, vi x34] M33 (fun x53 M52 => i32 x53 ∧ mOk M52 ∧ (h_MM_readText_129 G d a0 l1 x53 M52 Q)))) ∧ (¬ (61 ≤ x29) → (mK M33 a0 = 14 ∧ Ci G y_MM_item d [vr a0, vi x29, vi x34] M33 (fun x57 M56 => i32 x57 ∧ mOk M56 ∧ (h_MM_readText_129 G d a0 l1 x57 M56 Q)))))) ∧ (¬ (50 ≤ x29) → (∀ v60 : Int, v60 = (if (x29 = x34) then (-1) else l1) → mK M33 a0 = 14 ∧ ∀ M65, M65 = mUI M33 a0 8 v60 → h_MM_readText_29 G d a0 (l1 + 1) M65 Q))))))))))) :
    h_MM_readText_29 G d a0 l1 M Q := by
  unfold h_MM_readText_29
  obtain ⟨h13, h⟩ := h
  refine wm_aload_n d_MM_readText_29 rfl rfl ?_
  refine gf_MM_229 rfl d_MM_readText_30 h13 ?_
  obtain ⟨s17, h⟩ := h
  have hE0 : ((0 ≤ mI M a0 8) ∨ (mI M (mR M a0 6) 1 ≤ 0)) → mWm G y_MM_readText (d + 1) 161 [vr a0, vi l1, vd, vd, vd] [] M (fun r9 M9 => ∃ x9, r9 = some (vi x9) ∧ Q x9 M9) := by
    intro q18
    have h := h.1 q18
    refine wm_aload_n d_MM_readText_161 rfl rfl ?_
    refine gf_MM_229 rfl d_MM_readText_162 h13 ?_
    have hJ : ∀ v20 : Int, v20 = (if (0 ≤ mI M a0 8) then 0 else 1) → mWm G y_MM_readText (d + 1) 173 [vd, vd, vd, vd, vd] [vi v20] M (fun r9 M9 => ∃ x9, r9 = some (vi x9) ∧ Q x9 M9) := by
      intro v20 e22
      have h := h v20 e22
      have h23 : i32 v20 := by rw [e22]; (repeat' split) <;> first | exact ⟨by decide, by decide⟩ | exact ⟨by decide, by decide⟩
      have h24 : (v20 = 0 ∨ v20 = 1) := by rw [e22]; (repeat' split) <;> decide
      refine wm_ireturn d_MM_readText_173 rfl (m_nb h24) ?_
      exact ⟨_, rfl, h⟩
    clear h
    refine wm_if_ge (tgt := 172) d_MM_readText_165 rfl (hO _ _).1 (fun c19 => ?_) (fun c19 => ?_)
    · refine wm_iconst d_MM_readText_172 ?_
      refine wm_less (L' := [vd, vd, vd, vd, vd]) ⟨Or.inl rfl, Or.inl rfl, Or.inl rfl, Or.inl rfl, Or.inl rfl, trivial⟩ ?_
      exact hJ 0 (if_pos c19).symm
    · refine wm_iconst d_MM_readText_168 ?_
      refine wm_goto (tgt := 173) d_MM_readText_169 rfl ?_
      refine wm_less (L' := [vd, vd, vd, vd, vd]) ⟨Or.inl rfl, Or.inl rfl, Or.inl rfl, Or.inl rfl, Or.inl rfl, trivial⟩ ?_
      exact hJ 1 (if_neg c19).symm
  have hE1 : ¬ ((0 ≤ mI M a0 8) ∨ (mI M (mR M a0 6) 1 ≤ 0)) → mWm G y_MM_readText (d + 1) 46 [vr a0, vi l1, vd, vd, vd] [] M (fun r9 M9 => ∃ x9, r9 = some (vi x9) ∧ Q x9 M9) := by
    intro q26
    have h := h.2 q26
    obtain ⟨h27, h⟩ := h
    refine wm_aload_n d_MM_readText_46 rfl rfl ?_
    refine gf_MM_28 rfl d_MM_readText_47 h13 ?_
    refine cf_MM_232 rfl d_MM_readText_50 h27 (Nat.le_of_ble_eq_true rfl) (Ci.mono h (fun x29 M28 h => ?_))
    obtain ⟨h30, hOM28, h⟩ := h
    obtain ⟨h31, h⟩ := h
    obtain ⟨h32, h⟩ := h
    refine wm_istore_n d_MM_readText_53 rfl (by decide) (L' := [vr a0, vi l1, vi x29, vd, vd]) rfl ?_
    refine wm_aload_n d_MM_readText_54 rfl rfl ?_
    refine gf_MM_19 rfl d_MM_readText_55 h31 ?_
    refine wm_iload_n d_MM_readText_58 rfl rfl ?_
    refine cf_MM_155 rfl d_MM_readText_59 h32 (Nat.le_of_ble_eq_true rfl) (Ci.mono h (fun x34 M33 h => ?_))
    obtain ⟨h35, hOM33, h⟩ := h
    refine wm_istore_n d_MM_readText_62 rfl (by decide) (L' := [vr a0, vi l1, vi x29, vi x34, vd]) rfl ?_
    refine wm_iload_n d_MM_readText_63 rfl rfl ?_
    refine wm_bipush d_MM_readText_64 (by decide) ?_
    refine wm_icmp_ne (tgt := 82) d_MM_readText_66 rfl h30 ⟨by decide, by decide⟩ (fun c41 => ?_) (fun c41 => ?_)
    · replace h := h.2 c41
      refine wm_iload_n d_MM_readText_82 rfl rfl ?_
      refine wm_bipush d_MM_readText_83 (by decide) ?_
      refine wm_icmp_ge (tgt := 108) d_MM_readText_85 rfl h30 ⟨by decide, by decide⟩ (fun c48 => ?_) (fun c48 => ?_)
      · replace h := h.1 c48
        refine wm_iload_n d_MM_readText_108 rfl rfl ?_
        refine wm_bipush d_MM_readText_109 (by decide) ?_
        refine wm_icmp_ge (tgt := 123) d_MM_readText_111 rfl h30 ⟨by decide, by decide⟩ (fun c50 => ?_) (fun c50 => ?_)
        · replace h := h.1 c50
          obtain ⟨h51, h⟩ := h
          refine wm_aload_n d_MM_readText_123 rfl rfl ?_
          refine wm_iload_n d_MM_readText_124 rfl rfl ?_
          refine wm_iload_n d_MM_readText_125 rfl rfl ?_
          refine cf_MM_238 rfl d_MM_readText_126 h51 (Nat.le_of_ble_eq_true rfl) (Ci.mono h (fun x53 M52 h => ?_))
          obtain ⟨h54, hOM52, h⟩ := h
          refine wm_less (L' := [vr a0, vi l1, vd, vd, vd]) ⟨Or.inr rfl, Or.inr rfl, Or.inl rfl, Or.inl rfl, Or.inl rfl, trivial⟩ ?_
          exact h
        · replace h := h.2 c50
          obtain ⟨h55, h⟩ := h
          refine wm_aload_n d_MM_readText_114 rfl rfl ?_
          refine wm_iload_n d_MM_readText_115 rfl rfl ?_
          refine wm_iload_n d_MM_readText_116 rfl rfl ?_
          refine cf_MM_235 rfl d_MM_readText_117 h55 (Nat.le_of_ble_eq_true rfl) (Ci.mono h (fun x57 M56 h => ?_))
          obtain ⟨h58, hOM56, h⟩ := h
          refine wm_goto (tgt := 129) d_MM_readText_120 rfl ?_
          refine wm_less (L' := [vr a0, vi l1, vd, vd, vd]) ⟨Or.inr rfl, Or.inr rfl, Or.inl rfl, Or.inl rfl, Or.inl rfl, trivial⟩ ?_
          exact h
      · replace h := h.2 c48
        refine wm_aload_n d_MM_readText_88 rfl rfl ?_
        refine wm_iload_n d_MM_readText_89 rfl rfl ?_
        refine wm_iload_n d_MM_readText_90 rfl rfl ?_
        have hJ : ∀ v60 : Int, v60 = (if (x29 = x34) then (-1) else l1) → mWm G y_MM_readText (d + 1) 99 [vr a0, vi l1, vd, vd, vd] [vi v60, vr a0] M33 (fun r9 M9 => ∃ x9, r9 = some (vi x9) ∧ Q x9 M9) := by
          intro v60 e62
          have h := h v60 e62
          have h63 : i32 v60 := by rw [e62]; (repeat' split) <;> first | exact ⟨by decide, by decide⟩ | exact hi_l1
          obtain ⟨h64, h⟩ := h
          obtain ⟨M65, e66⟩ : ∃ M65, M65 = mUI M33 a0 8 v60 := ⟨_, rfl⟩
          replace h := h M65 e66
          have hOM65 : mOk M65 := by rw [e66]; exact mOk_UI hOM33 h63
          refine pf_MM_229 rfl d_MM_readText_99 h64 h63 e66 ?_
          refine wm_iinc d_MM_readText_102 (by decide) rfl (L' := [vr a0, vi (l1 + 1), vd, vd, vd]) rfl ?_
          refine wm_goto (tgt := 158) d_MM_readText_105 rfl ?_
          refine wm_goto (tgt := 29) d_MM_readText_158 rfl ?_
          exact h
        clear h
        refine wm_icmp_ne (tgt := 98) d_MM_readText_91 rfl h30 h35 (fun c59 => ?_) (fun c59 => ?_)
        · refine wm_iload_n d_MM_readText_98 rfl rfl ?_
          refine wm_less (L' := [vr a0, vi l1, vd, vd, vd]) ⟨Or.inr rfl, Or.inr rfl, Or.inl rfl, Or.inl rfl, Or.inl rfl, trivial⟩ ?_
          exact hJ l1 (if_neg c59).symm
        · replace c59 := Classical.not_not.mp c59
          refine wm_iconst d_MM_readText_94 ?_
          refine wm_goto (tgt := 99) d_MM_readText_95 rfl ?_
          refine wm_less (L' := [vr a0, vi l1, vd, vd, vd]) ⟨Or.inr rfl, Or.inr rfl, Or.inl rfl, Or.inl rfl, Or.inl rfl, trivial⟩ ?_
          exact hJ (-1) (if_pos c59).symm
    · replace c41 := Classical.not_not.mp c41
      replace h := h.1 c41
      obtain ⟨h42, h⟩ := h
      obtain ⟨h43, h⟩ := h
      obtain ⟨M44, e45⟩ : ∃ M44, M44 = mUI M33 a0 7 ((mI M33 a0 7) - 1) := ⟨_, rfl⟩
      replace h := h M44 e45
      refine wm_aload_n d_MM_readText_69 rfl rfl ?_
      refine wm_aload_n d_MM_readText_70 rfl rfl ?_
      refine gf_MM_226 rfl d_MM_readText_71 h42 ?_
      refine wm_iconst d_MM_readText_74 ?_
      refine wm_isub d_MM_readText_75 ?_
      have hOM44 : mOk M44 := by rw [e45]; exact mOk_UI hOM33 h43
      refine pf_MM_226 rfl d_MM_readText_76 h42 h43 e45 ?_
      refine wm_goto (tgt := 158) d_MM_readText_79 rfl ?_
      refine wm_goto (tgt := 29) d_MM_readText_158 rfl ?_
      refine wm_less (L' := [vr a0, vi l1, vd, vd, vd]) ⟨Or.inr rfl, Or.inr rfl, Or.inl rfl, Or.inl rfl, Or.inl rfl, trivial⟩ ?_
      exact h
  clear h
  have s68 := s17
  refine wm_if_ge (tgt := 161) d_MM_readText_33 rfl (hO _ _).1 (fun c16 => ?_) (fun c16 => ?_)
  · exact hE0 (Or.inl c16)
  · have s68 := s68 c16
    have h14 := s68
    refine wm_aload_n d_MM_readText_36 rfl rfl ?_
    refine gf_MM_28 rfl d_MM_readText_37 h13 ?_
    refine gf_MM_145 rfl d_MM_readText_40 h14 ?_
    refine wm_if_le (tgt := 161) d_MM_readText_43 rfl (hO _ _).1 (fun c15 => ?_) (fun c15 => ?_)
    · exact hE0 (Or.inr c15)
    · exact hE1 (fun z69 => Or.elim z69 c16 c15)
theorem k_MM_readText_129 {G : mG} {d : Nat} {a0 : Nat} {l1 : Int} {k0 : Int} {M : mM} {Q : Int → mM → Prop} (hO : mOk M) (hi_l1 : i32 l1) (hi_k0 : i32 k0)
    (h : ∀ v72 : Int, v72 = (if (0 ≤ k0) then (-1) else l1) → mK M a0 = 14 ∧ ∀ M77, M77 = mUI M a0 8 v72 → ∀ v80 : Int, v80 = (if (k0 ≤ 0) then l1 else l1 + 1) → h_MM_readText_29 G d a0 v80 M77 Q) :
    h_MM_readText_129 G d a0 l1 k0 M Q := by
  unfold h_MM_readText_129
  refine wm_istore d_MM_readText_129 (by decide) (L' := [vr a0, vi l1, vd, vd, vi k0]) rfl ?_
  refine wm_aload_n d_MM_readText_131 rfl rfl ?_
  refine wm_iload d_MM_readText_132 rfl ?_
  have hJ : ∀ v72 : Int, v72 = (if (0 ≤ k0) then (-1) else l1) → mWm G y_MM_readText (d + 1) 142 [vr a0, vi l1, vd, vd, vi k0] [vi v72, vr a0] M (fun r9 M9 => ∃ x9, r9 = some (vi x9) ∧ Q x9 M9) := by
    intro v72 e74
    have h := h v72 e74
    have h75 : i32 v72 := by rw [e74]; (repeat' split) <;> first | exact ⟨by decide, by decide⟩ | exact hi_l1
    obtain ⟨h76, h⟩ := h
    obtain ⟨M77, e78⟩ : ∃ M77, M77 = mUI M a0 8 v72 := ⟨_, rfl⟩
    replace h := h M77 e78
    have hOM77 : mOk M77 := by rw [e78]; exact mOk_UI hO h75
    refine pf_MM_229 rfl d_MM_readText_142 h76 h75 e78 ?_
    refine wm_iload d_MM_readText_145 rfl ?_
    have hJ : ∀ v80 : Int, v80 = (if (k0 ≤ 0) then l1 else l1 + 1) → mWm G y_MM_readText (d + 1) 157 [vr a0, vd, vd, vd, vd] [vi v80] M77 (fun r9 M9 => ∃ x9, r9 = some (vi x9) ∧ Q x9 M9) := by
      intro v80 e82
      have h := h v80 e82
      refine wm_istore_n d_MM_readText_157 rfl (by decide) (L' := [vr a0, vi v80, vd, vd, vd]) rfl ?_
      refine wm_goto (tgt := 29) d_MM_readText_158 rfl ?_
      exact h
    clear h
    refine wm_if_le (tgt := 156) d_MM_readText_147 rfl hi_k0 (fun c79 => ?_) (fun c79 => ?_)
    · refine wm_iload_n d_MM_readText_156 rfl rfl ?_
      refine wm_less (L' := [vr a0, vd, vd, vd, vd]) ⟨Or.inr rfl, Or.inl rfl, Or.inl rfl, Or.inl rfl, Or.inl rfl, trivial⟩ ?_
      exact hJ l1 (if_pos c79).symm
    · refine wm_iload_n d_MM_readText_150 rfl rfl ?_
      refine wm_iconst d_MM_readText_151 ?_
      refine wm_iadd d_MM_readText_152 ?_
      refine wm_goto (tgt := 157) d_MM_readText_153 rfl ?_
      refine wm_less (L' := [vr a0, vd, vd, vd, vd]) ⟨Or.inr rfl, Or.inl rfl, Or.inl rfl, Or.inl rfl, Or.inl rfl, trivial⟩ ?_
      exact hJ (l1 + 1) (if_neg c79).symm
  clear h
  refine wm_if_ge (tgt := 141) d_MM_readText_134 rfl hi_k0 (fun c71 => ?_) (fun c71 => ?_)
  · refine wm_iconst d_MM_readText_141 ?_
    exact hJ (-1) (if_pos c71).symm
  · refine wm_iload_n d_MM_readText_137 rfl rfl ?_
    refine wm_goto (tgt := 142) d_MM_readText_138 rfl ?_
    exact hJ l1 (if_neg c71).symm
theorem d_MM_item_0 : decode y_MM_item.2.1 0 = .ok (.iload_n 1, 1) := dc9_27 (by decide +kernel)
theorem d_MM_item_1 : decode y_MM_item.2.1 1 = .ok (.tableswitch 194 50 60 #[59, 65, 194, 76, 95, 194, 114, 126, 146, 194, 174], 59) := by decide +kernel
theorem d_MM_item_60 : decode y_MM_item.2.1 60 = .ok (.aload_n 0, 1) := dc9_42 (by decide +kernel)
theorem d_MM_item_61 : decode y_MM_item.2.1 61 = .ok (.iload_n 2, 1) := dc9_28 (by decide +kernel)
theorem d_MM_item_62 : decode y_MM_item.2.1 62 = .ok (.invokevirtual 241, 3) := dc9_182 (by decide +kernel)
theorem d_MM_item_65 : decode y_MM_item.2.1 65 = .ok (.ireturn, 1) := dc9_172 (by decide +kernel)
theorem d_MM_item_66 : decode y_MM_item.2.1 66 = .ok (.aload_n 0, 1) := dc9_42 (by decide +kernel)
theorem d_MM_item_67 : decode y_MM_item.2.1 67 = .ok (.iconst 1, 1) := dc9_4 (by decide +kernel)
theorem d_MM_item_68 : decode y_MM_item.2.1 68 = .ok (.bipush 23, 2) := dc9_16 (by decide +kernel)
theorem d_MM_item_70 : decode y_MM_item.2.1 70 = .ok (.bipush 61, 2) := dc9_16 (by decide +kernel)
theorem d_MM_item_72 : decode y_MM_item.2.1 72 = .ok (.invokevirtual 244, 3) := dc9_182 (by decide +kernel)
theorem d_MM_item_75 : decode y_MM_item.2.1 75 = .ok (.iconst 0, 1) := dc9_3 (by decide +kernel)
theorem d_MM_item_76 : decode y_MM_item.2.1 76 = .ok (.ireturn, 1) := dc9_172 (by decide +kernel)
theorem d_MM_item_77 : decode y_MM_item.2.1 77 = .ok (.iload_n 2, 1) := dc9_28 (by decide +kernel)
theorem d_MM_item_78 : decode y_MM_item.2.1 78 = .ok (.iconst 5, 1) := dc9_8 (by decide +kernel)
theorem d_MM_item_79 : decode y_MM_item.2.1 79 = .ok (.if_icmp .ne 5, 3) := dc9_160 (by decide +kernel)
theorem d_MM_item_82 : decode y_MM_item.2.1 82 = .ok (.iconst 1, 1) := dc9_4 (by decide +kernel)
theorem d_MM_item_83 : decode y_MM_item.2.1 83 = .ok (.ireturn, 1) := dc9_172 (by decide +kernel)
theorem d_MM_item_84 : decode y_MM_item.2.1 84 = .ok (.aload_n 0, 1) := dc9_42 (by decide +kernel)
theorem d_MM_item_85 : decode y_MM_item.2.1 85 = .ok (.bipush 61, 2) := dc9_16 (by decide +kernel)
theorem d_MM_item_87 : decode y_MM_item.2.1 87 = .ok (.bipush 16, 2) := dc9_16 (by decide +kernel)
theorem d_MM_item_89 : decode y_MM_item.2.1 89 = .ok (.bipush 61, 2) := dc9_16 (by decide +kernel)
theorem d_MM_item_91 : decode y_MM_item.2.1 91 = .ok (.invokevirtual 244, 3) := dc9_182 (by decide +kernel)
theorem d_MM_item_94 : decode y_MM_item.2.1 94 = .ok (.iconst 0, 1) := dc9_3 (by decide +kernel)
theorem d_MM_item_95 : decode y_MM_item.2.1 95 = .ok (.ireturn, 1) := dc9_172 (by decide +kernel)
theorem d_MM_item_96 : decode y_MM_item.2.1 96 = .ok (.iload_n 2, 1) := dc9_28 (by decide +kernel)
theorem d_MM_item_97 : decode y_MM_item.2.1 97 = .ok (.bipush 9, 2) := dc9_16 (by decide +kernel)
theorem d_MM_item_99 : decode y_MM_item.2.1 99 = .ok (.if_icmp .ne 14, 3) := dc9_160 (by decide +kernel)
theorem d_MM_item_102 : decode y_MM_item.2.1 102 = .ok (.aload_n 0, 1) := dc9_42 (by decide +kernel)
theorem d_MM_item_103 : decode y_MM_item.2.1 103 = .ok (.getfield 28, 3) := dc9_180 (by decide +kernel)
theorem d_MM_item_106 : decode y_MM_item.2.1 106 = .ok (.bipush 61, 2) := dc9_16 (by decide +kernel)
theorem d_MM_item_113 : decode y_MM_item.2.1 113 = .ok (.iconst 0, 1) := dc9_3 (by decide +kernel)
theorem d_MM_item_114 : decode y_MM_item.2.1 114 = .ok (.ireturn, 1) := dc9_172 (by decide +kernel)
theorem d_MM_item_108 : decode y_MM_item.2.1 108 = .ok (.invokevirtual 152, 3) := dc9_182 (by decide +kernel)
theorem d_MM_item_111 : decode y_MM_item.2.1 111 = .ok (.iconst 1, 1) := dc9_4 (by decide +kernel)
theorem d_MM_item_112 : decode y_MM_item.2.1 112 = .ok (.ireturn, 1) := dc9_172 (by decide +kernel)
theorem d_MM_item_115 : decode y_MM_item.2.1 115 = .ok (.aload_n 0, 1) := dc9_42 (by decide +kernel)
theorem d_MM_item_116 : decode y_MM_item.2.1 116 = .ok (.bipush 63, 2) := dc9_16 (by decide +kernel)
theorem d_MM_item_118 : decode y_MM_item.2.1 118 = .ok (.bipush 33, 2) := dc9_16 (by decide +kernel)
theorem d_MM_item_120 : decode y_MM_item.2.1 120 = .ok (.bipush 58, 2) := dc9_16 (by decide +kernel)
theorem d_MM_item_122 : decode y_MM_item.2.1 122 = .ok (.invokevirtual 244, 3) := dc9_182 (by decide +kernel)
theorem d_MM_item_125 : decode y_MM_item.2.1 125 = .ok (.iconst 0, 1) := dc9_3 (by decide +kernel)
theorem d_MM_item_126 : decode y_MM_item.2.1 126 = .ok (.ireturn, 1) := dc9_172 (by decide +kernel)
theorem d_MM_item_127 : decode y_MM_item.2.1 127 = .ok (.aload_n 0, 1) := dc9_42 (by decide +kernel)
theorem d_MM_item_128 : decode y_MM_item.2.1 128 = .ok (.iload_n 2, 1) := dc9_28 (by decide +kernel)
theorem d_MM_item_129 : decode y_MM_item.2.1 129 = .ok (.bipush 24, 2) := dc9_16 (by decide +kernel)
theorem d_MM_item_131 : decode y_MM_item.2.1 131 = .ok (.if_icmp .ne 7, 3) := dc9_160 (by decide +kernel)
theorem d_MM_item_134 : decode y_MM_item.2.1 134 = .ok (.iconst 1, 1) := dc9_4 (by decide +kernel)
theorem d_MM_item_135 : decode y_MM_item.2.1 135 = .ok (.goto 4, 3) := dc9_167 (by decide +kernel)
theorem d_MM_item_138 : decode y_MM_item.2.1 138 = .ok (.iconst 0, 1) := dc9_3 (by decide +kernel)
theorem d_MM_item_139 : decode y_MM_item.2.1 139 = .ok (.bipush 57, 2) := dc9_16 (by decide +kernel)
theorem d_MM_item_141 : decode y_MM_item.2.1 141 = .ok (.bipush 56, 2) := dc9_16 (by decide +kernel)
theorem d_MM_item_143 : decode y_MM_item.2.1 143 = .ok (.invokevirtual 247, 3) := dc9_182 (by decide +kernel)
theorem d_MM_item_146 : decode y_MM_item.2.1 146 = .ok (.ireturn, 1) := dc9_172 (by decide +kernel)
theorem d_MM_item_147 : decode y_MM_item.2.1 147 = .ok (.iload_n 2, 1) := dc9_28 (by decide +kernel)
theorem d_MM_item_148 : decode y_MM_item.2.1 148 = .ok (.bipush 10, 2) := dc9_16 (by decide +kernel)
theorem d_MM_item_150 : decode y_MM_item.2.1 150 = .ok (.if_icmp .ne 5, 3) := dc9_160 (by decide +kernel)
theorem d_MM_item_153 : decode y_MM_item.2.1 153 = .ok (.iconst 1, 1) := dc9_4 (by decide +kernel)
theorem d_MM_item_154 : decode y_MM_item.2.1 154 = .ok (.ireturn, 1) := dc9_172 (by decide +kernel)
theorem d_MM_item_155 : decode y_MM_item.2.1 155 = .ok (.aload_n 0, 1) := dc9_42 (by decide +kernel)
theorem d_MM_item_156 : decode y_MM_item.2.1 156 = .ok (.getfield 28, 3) := dc9_180 (by decide +kernel)
theorem d_MM_item_159 : decode y_MM_item.2.1 159 = .ok (.bipush 60, 2) := dc9_16 (by decide +kernel)
theorem d_MM_item_161 : decode y_MM_item.2.1 161 = .ok (.invokevirtual 152, 3) := dc9_182 (by decide +kernel)
theorem d_MM_item_164 : decode y_MM_item.2.1 164 = .ok (.aload_n 0, 1) := dc9_42 (by decide +kernel)
theorem d_MM_item_165 : decode y_MM_item.2.1 165 = .ok (.getfield 28, 3) := dc9_180 (by decide +kernel)
theorem d_MM_item_168 : decode y_MM_item.2.1 168 = .ok (.bipush 59, 2) := dc9_16 (by decide +kernel)
theorem d_MM_item_170 : decode y_MM_item.2.1 170 = .ok (.invokevirtual 152, 3) := dc9_182 (by decide +kernel)
theorem d_MM_item_173 : decode y_MM_item.2.1 173 = .ok (.iconst 0, 1) := dc9_3 (by decide +kernel)
theorem d_MM_item_174 : decode y_MM_item.2.1 174 = .ok (.ireturn, 1) := dc9_172 (by decide +kernel)
theorem d_MM_item_175 : decode y_MM_item.2.1 175 = .ok (.aload_n 0, 1) := dc9_42 (by decide +kernel)
theorem d_MM_item_176 : decode y_MM_item.2.1 176 = .ok (.iload_n 2, 1) := dc9_28 (by decide +kernel)
theorem d_MM_item_177 : decode y_MM_item.2.1 177 = .ok (.bipush 29, 2) := dc9_16 (by decide +kernel)
theorem d_MM_item_179 : decode y_MM_item.2.1 179 = .ok (.if_icmp .ne 7, 3) := dc9_160 (by decide +kernel)
theorem d_MM_item_182 : decode y_MM_item.2.1 182 = .ok (.iconst 1, 1) := dc9_4 (by decide +kernel)
theorem d_MM_item_183 : decode y_MM_item.2.1 183 = .ok (.goto 4, 3) := dc9_167 (by decide +kernel)
theorem d_MM_item_186 : decode y_MM_item.2.1 186 = .ok (.iconst 0, 1) := dc9_3 (by decide +kernel)
theorem d_MM_item_187 : decode y_MM_item.2.1 187 = .ok (.bipush 60, 2) := dc9_16 (by decide +kernel)
theorem d_MM_item_189 : decode y_MM_item.2.1 189 = .ok (.bipush 59, 2) := dc9_16 (by decide +kernel)
theorem d_MM_item_191 : decode y_MM_item.2.1 191 = .ok (.invokevirtual 247, 3) := dc9_182 (by decide +kernel)
theorem d_MM_item_194 : decode y_MM_item.2.1 194 = .ok (.ireturn, 1) := dc9_172 (by decide +kernel)
theorem d_MM_item_195 : decode y_MM_item.2.1 195 = .ok (.aload_n 0, 1) := dc9_42 (by decide +kernel)
theorem d_MM_item_196 : decode y_MM_item.2.1 196 = .ok (.iload_n 2, 1) := dc9_28 (by decide +kernel)
theorem d_MM_item_197 : decode y_MM_item.2.1 197 = .ok (.invokevirtual 251, 3) := dc9_182 (by decide +kernel)
theorem d_MM_item_200 : decode y_MM_item.2.1 200 = .ok (.ireturn, 1) := dc9_172 (by decide +kernel)
theorem k_MM_item {G : mG} {d : Nat} {a0 : Nat} {l1 : Int} {l2 : Int} {M : mM} {Q : Int → mM → Prop} (hO : mOk M) (hi_l1 : i32 l1) (hi_l2 : i32 l2)
    (h : ((l1 = 50) → (mK M a0 = 14 ∧ Ci G y_MM_anItem d [vr a0, vi l2] M (fun x6 M5 => i32 x6 ∧ mOk M5 ∧ (Q x6 M5)))) ∧ (¬ (l1 = 50) → (((l1 = 51) → (mK M a0 = 14 ∧ Cv G y_MM_want d [vr a0, vi 1, vi 23, vi 61] M (fun M11 => mOk M11 ∧ (Q 0 M11)))) ∧ (¬ (l1 = 51) → (((l1 = 53) → (((l2 = 5) → (Q 1 M)) ∧ (¬ (l2 = 5) → (mK M a0 = 14 ∧ Cv G y_MM_want d [vr a0, vi 61, vi 16, vi 61] M (fun M19 => mOk M19 ∧ (Q 0 M19)))))) ∧ (¬ (l1 = 53) → (((l1 = 54) → (((l2 = 9) → (mK M a0 = 14 ∧ mK M (mR M a0 6) = 15 ∧ Cv G y_MN_add d [vr (mR M a0 6), vi 61] M (fun M28 => mOk M28 ∧ (Q 1 M28)))) ∧ (¬ (l2 = 9) → (Q 0 M)))) ∧ (¬ (l1 = 54) → (((l1 = 56) → (mK M a0 = 14 ∧ Cv G y_MM_want d [vr a0, vi 63, vi 33, vi 58] M (fun M34 => mOk M34 ∧ (Q 0 M34)))) ∧ (¬ (l1 = 56) → (((l1 = 57) → (∀ v40 : Int, v40 = (if (l2 = 24) then 1 else 0) → mK M a0 = 14 ∧ Ci G y_MM_again d [vr a0, vi v40, vi 57, vi 56] M (fun x47 M46 => i32 x47 ∧ mOk M46 ∧ (Q x47 M46)))) ∧ (¬ (l1 = 57) → (((l1 = 58) → (((l2 = 10) → (Q 1 M)) ∧ (¬ (l2 = 10) → (mK M a0 = 14 ∧ mK M (mR M a0 6) = 15 ∧ Cv G y_MN_add d [vr (mR M a0 6), vi 60] M (fun M56 => mOk M56 ∧ (mK M56 a0 = 14 ∧ mK M56 (mR M56 a0 6) = 15 ∧ Cv G y_MN_add d [vr (mR M56 a0 6), vi 59] M56 (fun M61 => mOk M61 ∧ (Q 0 M61)))))))) ∧ (¬ (l1 = 58) → (((l1 = 60) → (∀ v67 : Int, v67 = (if (l2 = 29) then 1 else 0) → mK M a0 = 14 ∧ Ci G y_MM_again d [vr a0, vi v67, vi 60, vi 59] M (fun x74 M73 => i32 x74 ∧ mOk M73 ∧ (Q x74 M73)))) ∧ (¬ (l1 = 60) → (mK M a0 = 14 ∧ Ci G y_MM_set0 d [vr a0, vi l2] M (fun x79 M78 => i32 x79 ∧ mOk M78 ∧ (Q x79 M78))))))))))))))))))) :
    Ci G y_MM_item (d + 1) [vr a0, vi l1, vi l2] M Q := by
  refine wm_open (y := y_MM_item) rfl (Nat.le_of_ble_eq_true rfl) (L := [vr a0, vi l1, vi l2]) rfl ?_
  refine wm_iload_n d_MM_item_0 rfl rfl ?_
  by_cases c3 : l1 = 50
  · replace h := h.1 c3
    refine wm_tableIn (tgt := 60) (off := 59) d_MM_item_1 hi_l1 (by omega) (by omega) (by rw [c3]; rfl) rfl ?_
    obtain ⟨h4, h⟩ := h
    refine wm_aload_n d_MM_item_60 rfl rfl ?_
    refine wm_iload_n d_MM_item_61 rfl rfl ?_
    refine cf_MM_241 rfl d_MM_item_62 h4 (Nat.le_of_ble_eq_true rfl) (Ci.mono h (fun x6 M5 h => ?_))
    obtain ⟨h7, hOM5, h⟩ := h
    refine wm_ireturn d_MM_item_65 rfl rfl ?_
    exact ⟨_, rfl, h⟩
  · replace h := h.2 c3
    by_cases c9 : l1 = 51
    · replace h := h.1 c9
      refine wm_tableIn (tgt := 66) (off := 65) d_MM_item_1 hi_l1 (by omega) (by omega) (by rw [c9]; rfl) rfl ?_
      obtain ⟨h10, h⟩ := h
      refine wm_aload_n d_MM_item_66 rfl rfl ?_
      refine wm_iconst d_MM_item_67 ?_
      refine wm_bipush d_MM_item_68 (by decide) ?_
      refine wm_bipush d_MM_item_70 (by decide) ?_
      refine cf_MM_244 rfl d_MM_item_72 h10 (Nat.le_of_ble_eq_true rfl) (Cv.mono h (fun M11 h => ?_))
      obtain ⟨hOM11, h⟩ := h
      refine wm_iconst d_MM_item_75 ?_
      refine wm_ireturn d_MM_item_76 rfl rfl ?_
      exact ⟨_, rfl, h⟩
    · replace h := h.2 c9
      by_cases c15 : l1 = 53
      · replace h := h.1 c15
        refine wm_tableIn (tgt := 77) (off := 76) d_MM_item_1 hi_l1 (by omega) (by omega) (by rw [c15]; rfl) rfl ?_
        refine wm_iload_n d_MM_item_77 rfl rfl ?_
        refine wm_iconst d_MM_item_78 ?_
        refine wm_icmp_ne (tgt := 84) d_MM_item_79 rfl hi_l2 ⟨by decide, by decide⟩ (fun c17 => ?_) (fun c17 => ?_)
        · replace h := h.2 c17
          obtain ⟨h18, h⟩ := h
          refine wm_aload_n d_MM_item_84 rfl rfl ?_
          refine wm_bipush d_MM_item_85 (by decide) ?_
          refine wm_bipush d_MM_item_87 (by decide) ?_
          refine wm_bipush d_MM_item_89 (by decide) ?_
          refine cf_MM_244 rfl d_MM_item_91 h18 (Nat.le_of_ble_eq_true rfl) (Cv.mono h (fun M19 h => ?_))
          obtain ⟨hOM19, h⟩ := h
          refine wm_iconst d_MM_item_94 ?_
          refine wm_ireturn d_MM_item_95 rfl rfl ?_
          exact ⟨_, rfl, h⟩
        · replace c17 := Classical.not_not.mp c17
          replace h := h.1 c17
          refine wm_iconst d_MM_item_82 ?_
          refine wm_ireturn d_MM_item_83 rfl rfl ?_
          exact ⟨_, rfl, h⟩
      · replace h := h.2 c15
        by_cases c23 : l1 = 54
        · replace h := h.1 c23
          refine wm_tableIn (tgt := 96) (off := 95) d_MM_item_1 hi_l1 (by omega) (by omega) (by rw [c23]; rfl) rfl ?_
          refine wm_iload_n d_MM_item_96 rfl rfl ?_
          refine wm_bipush d_MM_item_97 (by decide) ?_
          refine wm_icmp_ne (tgt := 113) d_MM_item_99 rfl hi_l2 ⟨by decide, by decide⟩ (fun c25 => ?_) (fun c25 => ?_)
          · replace h := h.2 c25
            refine wm_iconst d_MM_item_113 ?_
            refine wm_ireturn d_MM_item_114 rfl rfl ?_
            exact ⟨_, rfl, h⟩
          · replace c25 := Classical.not_not.mp c25
            replace h := h.1 c25
            obtain ⟨h26, h⟩ := h
            obtain ⟨h27, h⟩ := h
            refine wm_aload_n d_MM_item_102 rfl rfl ?_
            refine gf_MM_28 rfl d_MM_item_103 h26 ?_
            refine wm_bipush d_MM_item_106 (by decide) ?_
            refine cf_MM_152 rfl d_MM_item_108 h27 (Nat.le_of_ble_eq_true rfl) (Cv.mono h (fun M28 h => ?_))
            obtain ⟨hOM28, h⟩ := h
            refine wm_iconst d_MM_item_111 ?_
            refine wm_ireturn d_MM_item_112 rfl rfl ?_
            exact ⟨_, rfl, h⟩
        · replace h := h.2 c23
          by_cases c32 : l1 = 56
          · replace h := h.1 c32
            refine wm_tableIn (tgt := 115) (off := 114) d_MM_item_1 hi_l1 (by omega) (by omega) (by rw [c32]; rfl) rfl ?_
            obtain ⟨h33, h⟩ := h
            refine wm_aload_n d_MM_item_115 rfl rfl ?_
            refine wm_bipush d_MM_item_116 (by decide) ?_
            refine wm_bipush d_MM_item_118 (by decide) ?_
            refine wm_bipush d_MM_item_120 (by decide) ?_
            refine cf_MM_244 rfl d_MM_item_122 h33 (Nat.le_of_ble_eq_true rfl) (Cv.mono h (fun M34 h => ?_))
            obtain ⟨hOM34, h⟩ := h
            refine wm_iconst d_MM_item_125 ?_
            refine wm_ireturn d_MM_item_126 rfl rfl ?_
            exact ⟨_, rfl, h⟩
          · replace h := h.2 c32
            by_cases c38 : l1 = 57
            · replace h := h.1 c38
              refine wm_tableIn (tgt := 127) (off := 126) d_MM_item_1 hi_l1 (by omega) (by omega) (by rw [c38]; rfl) rfl ?_
              refine wm_aload_n d_MM_item_127 rfl rfl ?_
              refine wm_iload_n d_MM_item_128 rfl rfl ?_
              refine wm_bipush d_MM_item_129 (by decide) ?_
              have hJ : ∀ v40 : Int, v40 = (if (l2 = 24) then 1 else 0) → mWm G y_MM_item (d + 1) 139 [vd, vd, vd] [vi v40, vr a0] M (fun r9 M9 => ∃ x9, r9 = some (vi x9) ∧ Q x9 M9) := by
                intro v40 e42
                have h := h v40 e42
                have h43 : i32 v40 := by rw [e42]; (repeat' split) <;> first | exact ⟨by decide, by decide⟩ | exact ⟨by decide, by decide⟩
                have h44 : (v40 = 0 ∨ v40 = 1) := by rw [e42]; (repeat' split) <;> decide
                obtain ⟨h45, h⟩ := h
                refine wm_bipush d_MM_item_139 (by decide) ?_
                refine wm_bipush d_MM_item_141 (by decide) ?_
                refine cf_MM_247 rfl d_MM_item_143 h45 (Nat.le_of_ble_eq_true rfl) (Ci.mono h (fun x47 M46 h => ?_))
                obtain ⟨h48, hOM46, h⟩ := h
                refine wm_ireturn d_MM_item_146 rfl rfl ?_
                exact ⟨_, rfl, h⟩
              clear h
              refine wm_icmp_ne (tgt := 138) d_MM_item_131 rfl hi_l2 ⟨by decide, by decide⟩ (fun c39 => ?_) (fun c39 => ?_)
              · refine wm_iconst d_MM_item_138 ?_
                refine wm_less (L' := [vd, vd, vd]) ⟨Or.inl rfl, Or.inl rfl, Or.inl rfl, trivial⟩ ?_
                exact hJ 0 (if_neg c39).symm
              · replace c39 := Classical.not_not.mp c39
                refine wm_iconst d_MM_item_134 ?_
                refine wm_goto (tgt := 139) d_MM_item_135 rfl ?_
                refine wm_less (L' := [vd, vd, vd]) ⟨Or.inl rfl, Or.inl rfl, Or.inl rfl, trivial⟩ ?_
                exact hJ 1 (if_pos c39).symm
            · replace h := h.2 c38
              by_cases c51 : l1 = 58
              · replace h := h.1 c51
                refine wm_tableIn (tgt := 147) (off := 146) d_MM_item_1 hi_l1 (by omega) (by omega) (by rw [c51]; rfl) rfl ?_
                refine wm_iload_n d_MM_item_147 rfl rfl ?_
                refine wm_bipush d_MM_item_148 (by decide) ?_
                refine wm_icmp_ne (tgt := 155) d_MM_item_150 rfl hi_l2 ⟨by decide, by decide⟩ (fun c53 => ?_) (fun c53 => ?_)
                · replace h := h.2 c53
                  obtain ⟨h54, h⟩ := h
                  obtain ⟨h55, h⟩ := h
                  refine wm_aload_n d_MM_item_155 rfl rfl ?_
                  refine gf_MM_28 rfl d_MM_item_156 h54 ?_
                  refine wm_bipush d_MM_item_159 (by decide) ?_
                  refine cf_MM_152 rfl d_MM_item_161 h55 (Nat.le_of_ble_eq_true rfl) (Cv.mono h (fun M56 h => ?_))
                  obtain ⟨hOM56, h⟩ := h
                  obtain ⟨h59, h⟩ := h
                  obtain ⟨h60, h⟩ := h
                  refine wm_aload_n d_MM_item_164 rfl rfl ?_
                  refine gf_MM_28 rfl d_MM_item_165 h59 ?_
                  refine wm_bipush d_MM_item_168 (by decide) ?_
                  refine cf_MM_152 rfl d_MM_item_170 h60 (Nat.le_of_ble_eq_true rfl) (Cv.mono h (fun M61 h => ?_))
                  obtain ⟨hOM61, h⟩ := h
                  refine wm_iconst d_MM_item_173 ?_
                  refine wm_ireturn d_MM_item_174 rfl rfl ?_
                  exact ⟨_, rfl, h⟩
                · replace c53 := Classical.not_not.mp c53
                  replace h := h.1 c53
                  refine wm_iconst d_MM_item_153 ?_
                  refine wm_ireturn d_MM_item_154 rfl rfl ?_
                  exact ⟨_, rfl, h⟩
              · replace h := h.2 c51
                by_cases c65 : l1 = 60
                · replace h := h.1 c65
                  refine wm_tableIn (tgt := 175) (off := 174) d_MM_item_1 hi_l1 (by omega) (by omega) (by rw [c65]; rfl) rfl ?_
                  refine wm_aload_n d_MM_item_175 rfl rfl ?_
                  refine wm_iload_n d_MM_item_176 rfl rfl ?_
                  refine wm_bipush d_MM_item_177 (by decide) ?_
                  have hJ : ∀ v67 : Int, v67 = (if (l2 = 29) then 1 else 0) → mWm G y_MM_item (d + 1) 187 [vd, vd, vd] [vi v67, vr a0] M (fun r9 M9 => ∃ x9, r9 = some (vi x9) ∧ Q x9 M9) := by
                    intro v67 e69
                    have h := h v67 e69
                    have h70 : i32 v67 := by rw [e69]; (repeat' split) <;> first | exact ⟨by decide, by decide⟩ | exact ⟨by decide, by decide⟩
                    have h71 : (v67 = 0 ∨ v67 = 1) := by rw [e69]; (repeat' split) <;> decide
                    obtain ⟨h72, h⟩ := h
                    refine wm_bipush d_MM_item_187 (by decide) ?_
                    refine wm_bipush d_MM_item_189 (by decide) ?_
                    refine cf_MM_247 rfl d_MM_item_191 h72 (Nat.le_of_ble_eq_true rfl) (Ci.mono h (fun x74 M73 h => ?_))
                    obtain ⟨h75, hOM73, h⟩ := h
                    refine wm_ireturn d_MM_item_194 rfl rfl ?_
                    exact ⟨_, rfl, h⟩
                  clear h
                  refine wm_icmp_ne (tgt := 186) d_MM_item_179 rfl hi_l2 ⟨by decide, by decide⟩ (fun c66 => ?_) (fun c66 => ?_)
                  · refine wm_iconst d_MM_item_186 ?_
                    refine wm_less (L' := [vd, vd, vd]) ⟨Or.inl rfl, Or.inl rfl, Or.inl rfl, trivial⟩ ?_
                    exact hJ 0 (if_neg c66).symm
                  · replace c66 := Classical.not_not.mp c66
                    refine wm_iconst d_MM_item_182 ?_
                    refine wm_goto (tgt := 187) d_MM_item_183 rfl ?_
                    refine wm_less (L' := [vd, vd, vd]) ⟨Or.inl rfl, Or.inl rfl, Or.inl rfl, trivial⟩ ?_
                    exact hJ 1 (if_pos c66).symm
                · replace h := h.2 c65
                  refine wm_tableD (tgt := 195) (off := 194) d_MM_item_1 hi_l1 (if q8 : 50 ≤ l1 ∧ l1 ≤ 60 then Or.inr ⟨q8.1, q8.2, by
      have q9 : l1 = 52 ∨ l1 = 55 ∨ l1 = 59 := by omega
      rcases q9 with q9 | q9 | q9 <;> (rw [q9]; rfl)⟩ else Or.inl (by omega)) rfl ?_
                  obtain ⟨h77, h⟩ := h
                  refine wm_aload_n d_MM_item_195 rfl rfl ?_
                  refine wm_iload_n d_MM_item_196 rfl rfl ?_
                  refine cf_MM_251 rfl d_MM_item_197 h77 (Nat.le_of_ble_eq_true rfl) (Ci.mono h (fun x79 M78 h => ?_))
                  obtain ⟨h80, hOM78, h⟩ := h
                  refine wm_ireturn d_MM_item_200 rfl rfl ?_
                  exact ⟨_, rfl, h⟩
end
section
theorem d_MM_set0_0 : decode y_MM_set0.2.1 0 = .ok (.iload_n 1, 1) := dc9_27 (by decide +kernel)
theorem d_MM_set0_1 : decode y_MM_set0.2.1 1 = .ok (.bipush 36, 2) := dc9_16 (by decide +kernel)
theorem d_MM_set0_3 : decode y_MM_set0.2.1 3 = .ok (.if_icmp .ne 10, 3) := dc9_160 (by decide +kernel)
theorem d_MM_set0_6 : decode y_MM_set0.2.1 6 = .ok (.aload_n 0, 1) := dc9_42 (by decide +kernel)
theorem d_MM_set0_7 : decode y_MM_set0.2.1 7 = .ok (.invokevirtual 254, 3) := dc9_182 (by decide +kernel)
theorem d_MM_set0_10 : decode y_MM_set0.2.1 10 = .ok (.ifCond .ne 5, 3) := dc9_154 (by decide +kernel)
theorem d_MM_set0_15 : decode y_MM_set0.2.1 15 = .ok (.aload_n 0, 1) := dc9_42 (by decide +kernel)
theorem d_MM_set0_16 : decode y_MM_set0.2.1 16 = .ok (.getfield 28, 3) := dc9_180 (by decide +kernel)
theorem d_MM_set0_19 : decode y_MM_set0.2.1 19 = .ok (.bipush 75, 2) := dc9_16 (by decide +kernel)
theorem d_MM_set0_13 : decode y_MM_set0.2.1 13 = .ok (.iconst (-1), 1) := dc9_2 (by decide +kernel)
theorem d_MM_set0_14 : decode y_MM_set0.2.1 14 = .ok (.ireturn, 1) := dc9_172 (by decide +kernel)
theorem d_MM_set0_21 : decode y_MM_set0.2.1 21 = .ok (.invokevirtual 152, 3) := dc9_182 (by decide +kernel)
theorem d_MM_set0_24 : decode y_MM_set0.2.1 24 = .ok (.aload_n 0, 1) := dc9_42 (by decide +kernel)
theorem d_MM_set0_25 : decode y_MM_set0.2.1 25 = .ok (.getfield 28, 3) := dc9_180 (by decide +kernel)
theorem d_MM_set0_28 : decode y_MM_set0.2.1 28 = .ok (.bipush 37, 2) := dc9_16 (by decide +kernel)
theorem d_MM_set0_30 : decode y_MM_set0.2.1 30 = .ok (.invokevirtual 152, 3) := dc9_182 (by decide +kernel)
theorem d_MM_set0_33 : decode y_MM_set0.2.1 33 = .ok (.aload_n 0, 1) := dc9_42 (by decide +kernel)
theorem d_MM_set0_34 : decode y_MM_set0.2.1 34 = .ok (.getfield 28, 3) := dc9_180 (by decide +kernel)
theorem d_MM_set0_37 : decode y_MM_set0.2.1 37 = .ok (.bipush 61, 2) := dc9_16 (by decide +kernel)
theorem d_MM_set0_39 : decode y_MM_set0.2.1 39 = .ok (.invokevirtual 152, 3) := dc9_182 (by decide +kernel)
theorem d_MM_set0_42 : decode y_MM_set0.2.1 42 = .ok (.aload_n 0, 1) := dc9_42 (by decide +kernel)
theorem d_MM_set0_43 : decode y_MM_set0.2.1 43 = .ok (.iconst 1, 1) := dc9_4 (by decide +kernel)
theorem d_MM_set0_44 : decode y_MM_set0.2.1 44 = .ok (.bipush 38, 2) := dc9_16 (by decide +kernel)
theorem d_MM_set0_46 : decode y_MM_set0.2.1 46 = .ok (.bipush 23, 2) := dc9_16 (by decide +kernel)
theorem d_MM_set0_48 : decode y_MM_set0.2.1 48 = .ok (.invokevirtual 244, 3) := dc9_182 (by decide +kernel)
theorem d_MM_set0_51 : decode y_MM_set0.2.1 51 = .ok (.iconst 1, 1) := dc9_4 (by decide +kernel)
theorem d_MM_set0_52 : decode y_MM_set0.2.1 52 = .ok (.ireturn, 1) := dc9_172 (by decide +kernel)
theorem k_MM_set0 {G : mG} {d : Nat} {a0 : Nat} {l1 : Int} {M : mM} {Q : Int → mM → Prop} (hO : mOk M) (hi_l1 : i32 l1)
    (h : ((l1 = 36) → (mK M a0 = 14 ∧ Ci G y_MM_level d [vr a0] M (fun x5 M4 => i32 x5 ∧ mOk M4 ∧ (((x5 = 0) → (Q (-1) M4)) ∧ (¬ (x5 = 0) → (mK M4 a0 = 14 ∧ mK M4 (mR M4 a0 6) = 15 ∧ Cv G y_MN_add d [vr (mR M4 a0 6), vi 75] M4 (fun M11 => mOk M11 ∧ (mK M11 a0 = 14 ∧ mK M11 (mR M11 a0 6) = 15 ∧ Cv G y_MN_add d [vr (mR M11 a0 6), vi 37] M11 (fun M16 => mOk M16 ∧ (mK M16 a0 = 14 ∧ mK M16 (mR M16 a0 6) = 15 ∧ Cv G y_MN_add d [vr (mR M16 a0 6), vi 61] M16 (fun M21 => mOk M21 ∧ (mK M21 a0 = 14 ∧ Cv G y_MM_want d [vr a0, vi 1, vi 38, vi 23] M21 (fun M25 => mOk M25 ∧ (Q 1 M25)))))))))))))) ∧ (¬ (l1 = 36) → (Q (-1) M))) :
    Ci G y_MM_set0 (d + 1) [vr a0, vi l1] M Q := by
  refine wm_open (y := y_MM_set0) rfl (Nat.le_of_ble_eq_true rfl) (L := [vr a0, vi l1]) rfl ?_
  refine wm_iload_n d_MM_set0_0 rfl rfl ?_
  refine wm_bipush d_MM_set0_1 (by decide) ?_
  refine wm_icmp_ne (tgt := 13) d_MM_set0_3 rfl hi_l1 ⟨by decide, by decide⟩ (fun c2 => ?_) (fun c2 => ?_)
  · replace h := h.2 c2
    refine wm_iconst d_MM_set0_13 ?_
    refine wm_ireturn d_MM_set0_14 rfl rfl ?_
    exact ⟨_, rfl, h⟩
  · replace c2 := Classical.not_not.mp c2
    replace h := h.1 c2
    obtain ⟨h3, h⟩ := h
    refine wm_aload_n d_MM_set0_6 rfl rfl ?_
    refine cf_MM_254 rfl d_MM_set0_7 h3 (Nat.le_of_ble_eq_true rfl) (Ci.mono h (fun x5 M4 h => ?_))
    obtain ⟨h6, hOM4, h⟩ := h
    refine wm_if_ne (tgt := 15) d_MM_set0_10 rfl h6 (fun c8 => ?_) (fun c8 => ?_)
    · replace h := h.2 c8
      obtain ⟨h9, h⟩ := h
      obtain ⟨h10, h⟩ := h
      refine wm_aload_n d_MM_set0_15 rfl rfl ?_
      refine gf_MM_28 rfl d_MM_set0_16 h9 ?_
      refine wm_bipush d_MM_set0_19 (by decide) ?_
      refine cf_MM_152 rfl d_MM_set0_21 h10 (Nat.le_of_ble_eq_true rfl) (Cv.mono h (fun M11 h => ?_))
      obtain ⟨hOM11, h⟩ := h
      obtain ⟨h14, h⟩ := h
      obtain ⟨h15, h⟩ := h
      refine wm_aload_n d_MM_set0_24 rfl rfl ?_
      refine gf_MM_28 rfl d_MM_set0_25 h14 ?_
      refine wm_bipush d_MM_set0_28 (by decide) ?_
      refine cf_MM_152 rfl d_MM_set0_30 h15 (Nat.le_of_ble_eq_true rfl) (Cv.mono h (fun M16 h => ?_))
      obtain ⟨hOM16, h⟩ := h
      obtain ⟨h19, h⟩ := h
      obtain ⟨h20, h⟩ := h
      refine wm_aload_n d_MM_set0_33 rfl rfl ?_
      refine gf_MM_28 rfl d_MM_set0_34 h19 ?_
      refine wm_bipush d_MM_set0_37 (by decide) ?_
      refine cf_MM_152 rfl d_MM_set0_39 h20 (Nat.le_of_ble_eq_true rfl) (Cv.mono h (fun M21 h => ?_))
      obtain ⟨hOM21, h⟩ := h
      obtain ⟨h24, h⟩ := h
      refine wm_aload_n d_MM_set0_42 rfl rfl ?_
      refine wm_iconst d_MM_set0_43 ?_
      refine wm_bipush d_MM_set0_44 (by decide) ?_
      refine wm_bipush d_MM_set0_46 (by decide) ?_
      refine cf_MM_244 rfl d_MM_set0_48 h24 (Nat.le_of_ble_eq_true rfl) (Cv.mono h (fun M25 h => ?_))
      obtain ⟨hOM25, h⟩ := h
      refine wm_iconst d_MM_set0_51 ?_
      refine wm_ireturn d_MM_set0_52 rfl rfl ?_
      exact ⟨_, rfl, h⟩
    · replace c8 := Classical.not_not.mp c8
      replace h := h.1 c8
      refine wm_iconst d_MM_set0_13 ?_
      refine wm_ireturn d_MM_set0_14 rfl rfl ?_
      exact ⟨_, rfl, h⟩
theorem d_MM_anItem_0 : decode y_MM_anItem.2.1 0 = .ok (.iload_n 1, 1) := dc9_27 (by decide +kernel)
theorem d_MM_anItem_1 : decode y_MM_anItem.2.1 1 = .ok (.ifCond .ne 5, 3) := dc9_154 (by decide +kernel)
theorem d_MM_anItem_4 : decode y_MM_anItem.2.1 4 = .ok (.iconst 1, 1) := dc9_4 (by decide +kernel)
theorem d_MM_anItem_5 : decode y_MM_anItem.2.1 5 = .ok (.ireturn, 1) := dc9_172 (by decide +kernel)
theorem d_MM_anItem_6 : decode y_MM_anItem.2.1 6 = .ok (.aload_n 0, 1) := dc9_42 (by decide +kernel)
theorem d_MM_anItem_7 : decode y_MM_anItem.2.1 7 = .ok (.getfield 28, 3) := dc9_180 (by decide +kernel)
theorem d_MM_anItem_10 : decode y_MM_anItem.2.1 10 = .ok (.bipush 50, 2) := dc9_16 (by decide +kernel)
theorem d_MM_anItem_12 : decode y_MM_anItem.2.1 12 = .ok (.invokevirtual 152, 3) := dc9_182 (by decide +kernel)
theorem d_MM_anItem_15 : decode y_MM_anItem.2.1 15 = .ok (.aload_n 0, 1) := dc9_42 (by decide +kernel)
theorem d_MM_anItem_16 : decode y_MM_anItem.2.1 16 = .ok (.getfield 28, 3) := dc9_180 (by decide +kernel)
theorem d_MM_anItem_19 : decode y_MM_anItem.2.1 19 = .ok (.bipush 34, 2) := dc9_16 (by decide +kernel)
theorem d_MM_anItem_21 : decode y_MM_anItem.2.1 21 = .ok (.invokevirtual 152, 3) := dc9_182 (by decide +kernel)
theorem d_MM_anItem_24 : decode y_MM_anItem.2.1 24 = .ok (.iload_n 1, 1) := dc9_27 (by decide +kernel)
theorem d_MM_anItem_25 : decode y_MM_anItem.2.1 25 = .ok (.tableswitch 114 3 11 #[51, 62, 114, 51, 93, 93, 114, 114, 82], 51) := by decide +kernel
theorem d_MM_anItem_76 : decode y_MM_anItem.2.1 76 = .ok (.aload_n 0, 1) := dc9_42 (by decide +kernel)
theorem d_MM_anItem_77 : decode y_MM_anItem.2.1 77 = .ok (.getfield 28, 3) := dc9_180 (by decide +kernel)
theorem d_MM_anItem_80 : decode y_MM_anItem.2.1 80 = .ok (.bipush 51, 2) := dc9_16 (by decide +kernel)
theorem d_MM_anItem_82 : decode y_MM_anItem.2.1 82 = .ok (.invokevirtual 152, 3) := dc9_182 (by decide +kernel)
theorem d_MM_anItem_85 : decode y_MM_anItem.2.1 85 = .ok (.iconst 1, 1) := dc9_4 (by decide +kernel)
theorem d_MM_anItem_86 : decode y_MM_anItem.2.1 86 = .ok (.ireturn, 1) := dc9_172 (by decide +kernel)
theorem d_MM_anItem_87 : decode y_MM_anItem.2.1 87 = .ok (.aload_n 0, 1) := dc9_42 (by decide +kernel)
theorem d_MM_anItem_88 : decode y_MM_anItem.2.1 88 = .ok (.getfield 28, 3) := dc9_180 (by decide +kernel)
theorem d_MM_anItem_91 : decode y_MM_anItem.2.1 91 = .ok (.bipush 54, 2) := dc9_16 (by decide +kernel)
theorem d_MM_anItem_93 : decode y_MM_anItem.2.1 93 = .ok (.invokevirtual 152, 3) := dc9_182 (by decide +kernel)
theorem d_MM_anItem_96 : decode y_MM_anItem.2.1 96 = .ok (.aload_n 0, 1) := dc9_42 (by decide +kernel)
theorem d_MM_anItem_97 : decode y_MM_anItem.2.1 97 = .ok (.iconst 1, 1) := dc9_4 (by decide +kernel)
theorem d_MM_anItem_98 : decode y_MM_anItem.2.1 98 = .ok (.bipush 33, 2) := dc9_16 (by decide +kernel)
theorem d_MM_anItem_100 : decode y_MM_anItem.2.1 100 = .ok (.bipush 53, 2) := dc9_16 (by decide +kernel)
theorem d_MM_anItem_102 : decode y_MM_anItem.2.1 102 = .ok (.invokevirtual 244, 3) := dc9_182 (by decide +kernel)
theorem d_MM_anItem_105 : decode y_MM_anItem.2.1 105 = .ok (.iconst 1, 1) := dc9_4 (by decide +kernel)
theorem d_MM_anItem_106 : decode y_MM_anItem.2.1 106 = .ok (.ireturn, 1) := dc9_172 (by decide +kernel)
theorem d_MM_anItem_118 : decode y_MM_anItem.2.1 118 = .ok (.aload_n 0, 1) := dc9_42 (by decide +kernel)
theorem d_MM_anItem_119 : decode y_MM_anItem.2.1 119 = .ok (.getfield 28, 3) := dc9_180 (by decide +kernel)
theorem d_MM_anItem_122 : decode y_MM_anItem.2.1 122 = .ok (.bipush 57, 2) := dc9_16 (by decide +kernel)
theorem d_MM_anItem_124 : decode y_MM_anItem.2.1 124 = .ok (.invokevirtual 152, 3) := dc9_182 (by decide +kernel)
theorem d_MM_anItem_127 : decode y_MM_anItem.2.1 127 = .ok (.aload_n 0, 1) := dc9_42 (by decide +kernel)
theorem d_MM_anItem_128 : decode y_MM_anItem.2.1 128 = .ok (.bipush 61, 2) := dc9_16 (by decide +kernel)
theorem d_MM_anItem_130 : decode y_MM_anItem.2.1 130 = .ok (.bipush 17, 2) := dc9_16 (by decide +kernel)
theorem d_MM_anItem_132 : decode y_MM_anItem.2.1 132 = .ok (.bipush 56, 2) := dc9_16 (by decide +kernel)
theorem d_MM_anItem_134 : decode y_MM_anItem.2.1 134 = .ok (.invokevirtual 244, 3) := dc9_182 (by decide +kernel)
theorem d_MM_anItem_137 : decode y_MM_anItem.2.1 137 = .ok (.iconst 1, 1) := dc9_4 (by decide +kernel)
theorem d_MM_anItem_138 : decode y_MM_anItem.2.1 138 = .ok (.ireturn, 1) := dc9_172 (by decide +kernel)
theorem d_MM_anItem_107 : decode y_MM_anItem.2.1 107 = .ok (.aload_n 0, 1) := dc9_42 (by decide +kernel)
theorem d_MM_anItem_108 : decode y_MM_anItem.2.1 108 = .ok (.getfield 28, 3) := dc9_180 (by decide +kernel)
theorem d_MM_anItem_111 : decode y_MM_anItem.2.1 111 = .ok (.bipush 61, 2) := dc9_16 (by decide +kernel)
theorem d_MM_anItem_113 : decode y_MM_anItem.2.1 113 = .ok (.invokevirtual 152, 3) := dc9_182 (by decide +kernel)
theorem d_MM_anItem_116 : decode y_MM_anItem.2.1 116 = .ok (.iconst 1, 1) := dc9_4 (by decide +kernel)
theorem d_MM_anItem_117 : decode y_MM_anItem.2.1 117 = .ok (.ireturn, 1) := dc9_172 (by decide +kernel)
theorem d_MM_anItem_139 : decode y_MM_anItem.2.1 139 = .ok (.iconst (-1), 1) := dc9_2 (by decide +kernel)
theorem d_MM_anItem_140 : decode y_MM_anItem.2.1 140 = .ok (.ireturn, 1) := dc9_172 (by decide +kernel)
theorem k_MM_anItem {G : mG} {d : Nat} {a0 : Nat} {l1 : Int} {M : mM} {Q : Int → mM → Prop} (hO : mOk M) (hi_l1 : i32 l1)
    (h : ((l1 = 0) → (Q 1 M)) ∧ (¬ (l1 = 0) → (mK M a0 = 14 ∧ mK M (mR M a0 6) = 15 ∧ Cv G y_MN_add d [vr (mR M a0 6), vi 50] M (fun M5 => mOk M5 ∧ (mK M5 a0 = 14 ∧ mK M5 (mR M5 a0 6) = 15 ∧ Cv G y_MN_add d [vr (mR M5 a0 6), vi 34] M5 (fun M10 => mOk M10 ∧ (((l1 = 3 ∨ l1 = 6) → (mK M10 a0 = 14 ∧ mK M10 (mR M10 a0 6) = 15 ∧ Cv G y_MN_add d [vr (mR M10 a0 6), vi 51] M10 (fun M18 => mOk M18 ∧ (Q 1 M18)))) ∧ (¬ (l1 = 3 ∨ l1 = 6) → (((l1 = 4) → (mK M10 a0 = 14 ∧ mK M10 (mR M10 a0 6) = 15 ∧ Cv G y_MN_add d [vr (mR M10 a0 6), vi 54] M10 (fun M25 => mOk M25 ∧ (mK M25 a0 = 14 ∧ Cv G y_MM_want d [vr a0, vi 1, vi 33, vi 53] M25 (fun M29 => mOk M29 ∧ (Q 1 M29)))))) ∧ (¬ (l1 = 4) → (((l1 = 7 ∨ l1 = 8) → (mK M10 a0 = 14 ∧ mK M10 (mR M10 a0 6) = 15 ∧ Cv G y_MN_add d [vr (mR M10 a0 6), vi 57] M10 (fun M36 => mOk M36 ∧ (mK M36 a0 = 14 ∧ Cv G y_MM_want d [vr a0, vi 61, vi 17, vi 56] M36 (fun M40 => mOk M40 ∧ (Q 1 M40)))))) ∧ (¬ (l1 = 7 ∨ l1 = 8) → (((l1 = 11) → (mK M10 a0 = 14 ∧ mK M10 (mR M10 a0 6) = 15 ∧ Cv G y_MN_add d [vr (mR M10 a0 6), vi 61] M10 (fun M47 => mOk M47 ∧ (Q 1 M47)))) ∧ (¬ (l1 = 11) → (Q (-1) M10))))))))))))))) :
    Ci G y_MM_anItem (d + 1) [vr a0, vi l1] M Q := by
  refine wm_open (y := y_MM_anItem) rfl (Nat.le_of_ble_eq_true rfl) (L := [vr a0, vi l1]) rfl ?_
  refine wm_iload_n d_MM_anItem_0 rfl rfl ?_
  refine wm_if_ne (tgt := 6) d_MM_anItem_1 rfl hi_l1 (fun c2 => ?_) (fun c2 => ?_)
  · replace h := h.2 c2
    obtain ⟨h3, h⟩ := h
    obtain ⟨h4, h⟩ := h
    refine wm_aload_n d_MM_anItem_6 rfl rfl ?_
    refine gf_MM_28 rfl d_MM_anItem_7 h3 ?_
    refine wm_bipush d_MM_anItem_10 (by decide) ?_
    refine cf_MM_152 rfl d_MM_anItem_12 h4 (Nat.le_of_ble_eq_true rfl) (Cv.mono h (fun M5 h => ?_))
    obtain ⟨hOM5, h⟩ := h
    obtain ⟨h8, h⟩ := h
    obtain ⟨h9, h⟩ := h
    refine wm_aload_n d_MM_anItem_15 rfl rfl ?_
    refine gf_MM_28 rfl d_MM_anItem_16 h8 ?_
    refine wm_bipush d_MM_anItem_19 (by decide) ?_
    refine cf_MM_152 rfl d_MM_anItem_21 h9 (Nat.le_of_ble_eq_true rfl) (Cv.mono h (fun M10 h => ?_))
    obtain ⟨hOM10, h⟩ := h
    refine wm_iload_n d_MM_anItem_24 rfl rfl ?_
    by_cases c15 : l1 = 3 ∨ l1 = 6
    · replace h := h.1 c15
      refine wm_tableIn (tgt := 76) (off := 51) d_MM_anItem_25 hi_l1 (by omega) (by omega) (by rcases c15 with q9 | q9 <;> (rw [q9]; rfl)) rfl ?_
      obtain ⟨h16, h⟩ := h
      obtain ⟨h17, h⟩ := h
      refine wm_aload_n d_MM_anItem_76 rfl rfl ?_
      refine gf_MM_28 rfl d_MM_anItem_77 h16 ?_
      refine wm_bipush d_MM_anItem_80 (by decide) ?_
      refine cf_MM_152 rfl d_MM_anItem_82 h17 (Nat.le_of_ble_eq_true rfl) (Cv.mono h (fun M18 h => ?_))
      obtain ⟨hOM18, h⟩ := h
      refine wm_iconst d_MM_anItem_85 ?_
      refine wm_ireturn d_MM_anItem_86 rfl rfl ?_
      exact ⟨_, rfl, h⟩
    · replace h := h.2 c15
      by_cases c22 : l1 = 4
      · replace h := h.1 c22
        refine wm_tableIn (tgt := 87) (off := 62) d_MM_anItem_25 hi_l1 (by omega) (by omega) (by rw [c22]; rfl) rfl ?_
        obtain ⟨h23, h⟩ := h
        obtain ⟨h24, h⟩ := h
        refine wm_aload_n d_MM_anItem_87 rfl rfl ?_
        refine gf_MM_28 rfl d_MM_anItem_88 h23 ?_
        refine wm_bipush d_MM_anItem_91 (by decide) ?_
        refine cf_MM_152 rfl d_MM_anItem_93 h24 (Nat.le_of_ble_eq_true rfl) (Cv.mono h (fun M25 h => ?_))
        obtain ⟨hOM25, h⟩ := h
        obtain ⟨h28, h⟩ := h
        refine wm_aload_n d_MM_anItem_96 rfl rfl ?_
        refine wm_iconst d_MM_anItem_97 ?_
        refine wm_bipush d_MM_anItem_98 (by decide) ?_
        refine wm_bipush d_MM_anItem_100 (by decide) ?_
        refine cf_MM_244 rfl d_MM_anItem_102 h28 (Nat.le_of_ble_eq_true rfl) (Cv.mono h (fun M29 h => ?_))
        obtain ⟨hOM29, h⟩ := h
        refine wm_iconst d_MM_anItem_105 ?_
        refine wm_ireturn d_MM_anItem_106 rfl rfl ?_
        exact ⟨_, rfl, h⟩
      · replace h := h.2 c22
        by_cases c33 : l1 = 7 ∨ l1 = 8
        · replace h := h.1 c33
          refine wm_tableIn (tgt := 118) (off := 93) d_MM_anItem_25 hi_l1 (by omega) (by omega) (by rcases c33 with q9 | q9 <;> (rw [q9]; rfl)) rfl ?_
          obtain ⟨h34, h⟩ := h
          obtain ⟨h35, h⟩ := h
          refine wm_aload_n d_MM_anItem_118 rfl rfl ?_
          refine gf_MM_28 rfl d_MM_anItem_119 h34 ?_
          refine wm_bipush d_MM_anItem_122 (by decide) ?_
          refine cf_MM_152 rfl d_MM_anItem_124 h35 (Nat.le_of_ble_eq_true rfl) (Cv.mono h (fun M36 h => ?_))
          obtain ⟨hOM36, h⟩ := h
          obtain ⟨h39, h⟩ := h
          refine wm_aload_n d_MM_anItem_127 rfl rfl ?_
          refine wm_bipush d_MM_anItem_128 (by decide) ?_
          refine wm_bipush d_MM_anItem_130 (by decide) ?_
          refine wm_bipush d_MM_anItem_132 (by decide) ?_
          refine cf_MM_244 rfl d_MM_anItem_134 h39 (Nat.le_of_ble_eq_true rfl) (Cv.mono h (fun M40 h => ?_))
          obtain ⟨hOM40, h⟩ := h
          refine wm_iconst d_MM_anItem_137 ?_
          refine wm_ireturn d_MM_anItem_138 rfl rfl ?_
          exact ⟨_, rfl, h⟩
        · replace h := h.2 c33
          by_cases c44 : l1 = 11
          · replace h := h.1 c44
            refine wm_tableIn (tgt := 107) (off := 82) d_MM_anItem_25 hi_l1 (by omega) (by omega) (by rw [c44]; rfl) rfl ?_
            obtain ⟨h45, h⟩ := h
            obtain ⟨h46, h⟩ := h
            refine wm_aload_n d_MM_anItem_107 rfl rfl ?_
            refine gf_MM_28 rfl d_MM_anItem_108 h45 ?_
            refine wm_bipush d_MM_anItem_111 (by decide) ?_
            refine cf_MM_152 rfl d_MM_anItem_113 h46 (Nat.le_of_ble_eq_true rfl) (Cv.mono h (fun M47 h => ?_))
            obtain ⟨hOM47, h⟩ := h
            refine wm_iconst d_MM_anItem_116 ?_
            refine wm_ireturn d_MM_anItem_117 rfl rfl ?_
            exact ⟨_, rfl, h⟩
          · replace h := h.2 c44
            refine wm_tableD (tgt := 139) (off := 114) d_MM_anItem_25 hi_l1 (if q8 : 3 ≤ l1 ∧ l1 ≤ 11 then Or.inr ⟨q8.1, q8.2, by
      have q9 : l1 = 5 ∨ l1 = 9 ∨ l1 = 10 := by omega
      rcases q9 with q9 | q9 | q9 <;> (rw [q9]; rfl)⟩ else Or.inl (by omega)) rfl ?_
            refine wm_iconst d_MM_anItem_139 ?_
            refine wm_ireturn d_MM_anItem_140 rfl rfl ?_
            exact ⟨_, rfl, h⟩
  · replace c2 := Classical.not_not.mp c2
    replace h := h.1 c2
    refine wm_iconst d_MM_anItem_4 ?_
    refine wm_ireturn d_MM_anItem_5 rfl rfl ?_
    exact ⟨_, rfl, h⟩
theorem d_MM_rule0_0 : decode y_MM_rule0.2.1 0 = .ok (.iload_n 1, 1) := dc9_27 (by decide +kernel)
theorem d_MM_rule0_1 : decode y_MM_rule0.2.1 1 = .ok (.tableswitch 408 61 76 #[79, 99, 114, 134, 154, 174, 194, 251, 271, 291, 317, 337, 408, 369, 408, 389], 79) := by decide +kernel
theorem d_MM_rule0_80 : decode y_MM_rule0.2.1 80 = .ok (.aload_n 0, 1) := dc9_42 (by decide +kernel)
theorem d_MM_rule0_81 : decode y_MM_rule0.2.1 81 = .ok (.getfield 28, 3) := dc9_180 (by decide +kernel)
theorem d_MM_rule0_84 : decode y_MM_rule0.2.1 84 = .ok (.bipush 62, 2) := dc9_16 (by decide +kernel)
theorem d_MM_rule0_86 : decode y_MM_rule0.2.1 86 = .ok (.invokevirtual 152, 3) := dc9_182 (by decide +kernel)
theorem d_MM_rule0_89 : decode y_MM_rule0.2.1 89 = .ok (.aload_n 0, 1) := dc9_42 (by decide +kernel)
theorem d_MM_rule0_90 : decode y_MM_rule0.2.1 90 = .ok (.getfield 28, 3) := dc9_180 (by decide +kernel)
theorem d_MM_rule0_93 : decode y_MM_rule0.2.1 93 = .ok (.bipush 63, 2) := dc9_16 (by decide +kernel)
theorem d_MM_rule0_95 : decode y_MM_rule0.2.1 95 = .ok (.invokevirtual 152, 3) := dc9_182 (by decide +kernel)
theorem d_MM_rule0_98 : decode y_MM_rule0.2.1 98 = .ok (.iconst 0, 1) := dc9_3 (by decide +kernel)
theorem d_MM_rule0_99 : decode y_MM_rule0.2.1 99 = .ok (.ireturn, 1) := dc9_172 (by decide +kernel)
theorem d_MM_rule0_100 : decode y_MM_rule0.2.1 100 = .ok (.iload_n 2, 1) := dc9_28 (by decide +kernel)
theorem d_MM_rule0_101 : decode y_MM_rule0.2.1 101 = .ok (.bipush 32, 2) := dc9_16 (by decide +kernel)
theorem d_MM_rule0_103 : decode y_MM_rule0.2.1 103 = .ok (.if_icmp .ne 10, 3) := dc9_160 (by decide +kernel)
theorem d_MM_rule0_106 : decode y_MM_rule0.2.1 106 = .ok (.aload_n 0, 1) := dc9_42 (by decide +kernel)
theorem d_MM_rule0_113 : decode y_MM_rule0.2.1 113 = .ok (.iconst 0, 1) := dc9_3 (by decide +kernel)
theorem d_MM_rule0_107 : decode y_MM_rule0.2.1 107 = .ok (.invokevirtual 258, 3) := dc9_182 (by decide +kernel)
theorem d_MM_rule0_110 : decode y_MM_rule0.2.1 110 = .ok (.goto 4, 3) := dc9_167 (by decide +kernel)
theorem d_MM_rule0_115 : decode y_MM_rule0.2.1 115 = .ok (.aload_n 0, 1) := dc9_42 (by decide +kernel)
theorem d_MM_rule0_116 : decode y_MM_rule0.2.1 116 = .ok (.getfield 28, 3) := dc9_180 (by decide +kernel)
theorem d_MM_rule0_119 : decode y_MM_rule0.2.1 119 = .ok (.bipush 64, 2) := dc9_16 (by decide +kernel)
theorem d_MM_rule0_121 : decode y_MM_rule0.2.1 121 = .ok (.invokevirtual 152, 3) := dc9_182 (by decide +kernel)
theorem d_MM_rule0_124 : decode y_MM_rule0.2.1 124 = .ok (.aload_n 0, 1) := dc9_42 (by decide +kernel)
theorem d_MM_rule0_125 : decode y_MM_rule0.2.1 125 = .ok (.getfield 28, 3) := dc9_180 (by decide +kernel)
theorem d_MM_rule0_128 : decode y_MM_rule0.2.1 128 = .ok (.bipush 65, 2) := dc9_16 (by decide +kernel)
theorem d_MM_rule0_130 : decode y_MM_rule0.2.1 130 = .ok (.invokevirtual 152, 3) := dc9_182 (by decide +kernel)
theorem d_MM_rule0_133 : decode y_MM_rule0.2.1 133 = .ok (.iconst 0, 1) := dc9_3 (by decide +kernel)
theorem d_MM_rule0_134 : decode y_MM_rule0.2.1 134 = .ok (.ireturn, 1) := dc9_172 (by decide +kernel)
theorem d_MM_rule0_135 : decode y_MM_rule0.2.1 135 = .ok (.aload_n 0, 1) := dc9_42 (by decide +kernel)
theorem d_MM_rule0_136 : decode y_MM_rule0.2.1 136 = .ok (.iload_n 2, 1) := dc9_28 (by decide +kernel)
theorem d_MM_rule0_137 : decode y_MM_rule0.2.1 137 = .ok (.bipush 30, 2) := dc9_16 (by decide +kernel)
theorem d_MM_rule0_139 : decode y_MM_rule0.2.1 139 = .ok (.if_icmp .ne 7, 3) := dc9_160 (by decide +kernel)
theorem d_MM_rule0_142 : decode y_MM_rule0.2.1 142 = .ok (.iconst 1, 1) := dc9_4 (by decide +kernel)
theorem d_MM_rule0_143 : decode y_MM_rule0.2.1 143 = .ok (.goto 4, 3) := dc9_167 (by decide +kernel)
theorem d_MM_rule0_146 : decode y_MM_rule0.2.1 146 = .ok (.iconst 0, 1) := dc9_3 (by decide +kernel)
theorem d_MM_rule0_147 : decode y_MM_rule0.2.1 147 = .ok (.bipush 64, 2) := dc9_16 (by decide +kernel)
theorem d_MM_rule0_149 : decode y_MM_rule0.2.1 149 = .ok (.bipush 65, 2) := dc9_16 (by decide +kernel)
theorem d_MM_rule0_151 : decode y_MM_rule0.2.1 151 = .ok (.invokevirtual 247, 3) := dc9_182 (by decide +kernel)
theorem d_MM_rule0_154 : decode y_MM_rule0.2.1 154 = .ok (.ireturn, 1) := dc9_172 (by decide +kernel)
theorem d_MM_rule0_155 : decode y_MM_rule0.2.1 155 = .ok (.aload_n 0, 1) := dc9_42 (by decide +kernel)
theorem d_MM_rule0_156 : decode y_MM_rule0.2.1 156 = .ok (.getfield 28, 3) := dc9_180 (by decide +kernel)
theorem d_MM_rule0_159 : decode y_MM_rule0.2.1 159 = .ok (.bipush 66, 2) := dc9_16 (by decide +kernel)
theorem d_MM_rule0_161 : decode y_MM_rule0.2.1 161 = .ok (.invokevirtual 152, 3) := dc9_182 (by decide +kernel)
theorem d_MM_rule0_164 : decode y_MM_rule0.2.1 164 = .ok (.aload_n 0, 1) := dc9_42 (by decide +kernel)
theorem d_MM_rule0_165 : decode y_MM_rule0.2.1 165 = .ok (.getfield 28, 3) := dc9_180 (by decide +kernel)
theorem d_MM_rule0_168 : decode y_MM_rule0.2.1 168 = .ok (.bipush 67, 2) := dc9_16 (by decide +kernel)
theorem d_MM_rule0_170 : decode y_MM_rule0.2.1 170 = .ok (.invokevirtual 152, 3) := dc9_182 (by decide +kernel)
theorem d_MM_rule0_173 : decode y_MM_rule0.2.1 173 = .ok (.iconst 0, 1) := dc9_3 (by decide +kernel)
theorem d_MM_rule0_174 : decode y_MM_rule0.2.1 174 = .ok (.ireturn, 1) := dc9_172 (by decide +kernel)
theorem d_MM_rule0_175 : decode y_MM_rule0.2.1 175 = .ok (.aload_n 0, 1) := dc9_42 (by decide +kernel)
theorem d_MM_rule0_176 : decode y_MM_rule0.2.1 176 = .ok (.iload_n 2, 1) := dc9_28 (by decide +kernel)
theorem d_MM_rule0_177 : decode y_MM_rule0.2.1 177 = .ok (.bipush 29, 2) := dc9_16 (by decide +kernel)
theorem d_MM_rule0_179 : decode y_MM_rule0.2.1 179 = .ok (.if_icmp .ne 7, 3) := dc9_160 (by decide +kernel)
theorem d_MM_rule0_182 : decode y_MM_rule0.2.1 182 = .ok (.iconst 1, 1) := dc9_4 (by decide +kernel)
theorem d_MM_rule0_183 : decode y_MM_rule0.2.1 183 = .ok (.goto 4, 3) := dc9_167 (by decide +kernel)
theorem d_MM_rule0_186 : decode y_MM_rule0.2.1 186 = .ok (.iconst 0, 1) := dc9_3 (by decide +kernel)
theorem d_MM_rule0_187 : decode y_MM_rule0.2.1 187 = .ok (.bipush 66, 2) := dc9_16 (by decide +kernel)
theorem d_MM_rule0_189 : decode y_MM_rule0.2.1 189 = .ok (.bipush 67, 2) := dc9_16 (by decide +kernel)
theorem d_MM_rule0_191 : decode y_MM_rule0.2.1 191 = .ok (.invokevirtual 247, 3) := dc9_182 (by decide +kernel)
theorem d_MM_rule0_194 : decode y_MM_rule0.2.1 194 = .ok (.ireturn, 1) := dc9_172 (by decide +kernel)
theorem d_MM_rule0_195 : decode y_MM_rule0.2.1 195 = .ok (.iload_n 2, 1) := dc9_28 (by decide +kernel)
theorem d_MM_rule0_196 : decode y_MM_rule0.2.1 196 = .ok (.bipush 31, 2) := dc9_16 (by decide +kernel)
theorem d_MM_rule0_198 : decode y_MM_rule0.2.1 198 = .ok (.if_icmp .ne 34, 3) := dc9_160 (by decide +kernel)
theorem d_MM_rule0_201 : decode y_MM_rule0.2.1 201 = .ok (.aload_n 0, 1) := dc9_42 (by decide +kernel)
theorem d_MM_rule0_202 : decode y_MM_rule0.2.1 202 = .ok (.getfield 28, 3) := dc9_180 (by decide +kernel)
theorem d_MM_rule0_205 : decode y_MM_rule0.2.1 205 = .ok (.bipush 75, 2) := dc9_16 (by decide +kernel)
theorem d_MM_rule0_232 : decode y_MM_rule0.2.1 232 = .ok (.aload_n 0, 1) := dc9_42 (by decide +kernel)
theorem d_MM_rule0_233 : decode y_MM_rule0.2.1 233 = .ok (.getfield 28, 3) := dc9_180 (by decide +kernel)
theorem d_MM_rule0_236 : decode y_MM_rule0.2.1 236 = .ok (.bipush 68, 2) := dc9_16 (by decide +kernel)
theorem d_MM_rule0_207 : decode y_MM_rule0.2.1 207 = .ok (.invokevirtual 152, 3) := dc9_182 (by decide +kernel)
theorem d_MM_rule0_210 : decode y_MM_rule0.2.1 210 = .ok (.aload_n 0, 1) := dc9_42 (by decide +kernel)
theorem d_MM_rule0_211 : decode y_MM_rule0.2.1 211 = .ok (.getfield 28, 3) := dc9_180 (by decide +kernel)
theorem d_MM_rule0_214 : decode y_MM_rule0.2.1 214 = .ok (.bipush 67, 2) := dc9_16 (by decide +kernel)
theorem d_MM_rule0_216 : decode y_MM_rule0.2.1 216 = .ok (.invokevirtual 152, 3) := dc9_182 (by decide +kernel)
theorem d_MM_rule0_219 : decode y_MM_rule0.2.1 219 = .ok (.aload_n 0, 1) := dc9_42 (by decide +kernel)
theorem d_MM_rule0_220 : decode y_MM_rule0.2.1 220 = .ok (.invokevirtual 254, 3) := dc9_182 (by decide +kernel)
theorem d_MM_rule0_223 : decode y_MM_rule0.2.1 223 = .ok (.ifCond .eq 7, 3) := dc9_153 (by decide +kernel)
theorem d_MM_rule0_230 : decode y_MM_rule0.2.1 230 = .ok (.iconst (-1), 1) := dc9_2 (by decide +kernel)
theorem d_MM_rule0_226 : decode y_MM_rule0.2.1 226 = .ok (.iconst 1, 1) := dc9_4 (by decide +kernel)
theorem d_MM_rule0_227 : decode y_MM_rule0.2.1 227 = .ok (.goto 4, 3) := dc9_167 (by decide +kernel)
theorem d_MM_rule0_231 : decode y_MM_rule0.2.1 231 = .ok (.ireturn, 1) := dc9_172 (by decide +kernel)
theorem d_MM_rule0_238 : decode y_MM_rule0.2.1 238 = .ok (.invokevirtual 152, 3) := dc9_182 (by decide +kernel)
theorem d_MM_rule0_241 : decode y_MM_rule0.2.1 241 = .ok (.aload_n 0, 1) := dc9_42 (by decide +kernel)
theorem d_MM_rule0_242 : decode y_MM_rule0.2.1 242 = .ok (.getfield 28, 3) := dc9_180 (by decide +kernel)
theorem d_MM_rule0_245 : decode y_MM_rule0.2.1 245 = .ok (.bipush 69, 2) := dc9_16 (by decide +kernel)
theorem d_MM_rule0_247 : decode y_MM_rule0.2.1 247 = .ok (.invokevirtual 152, 3) := dc9_182 (by decide +kernel)
theorem d_MM_rule0_250 : decode y_MM_rule0.2.1 250 = .ok (.iconst 0, 1) := dc9_3 (by decide +kernel)
theorem d_MM_rule0_251 : decode y_MM_rule0.2.1 251 = .ok (.ireturn, 1) := dc9_172 (by decide +kernel)
theorem d_MM_rule0_252 : decode y_MM_rule0.2.1 252 = .ok (.iload_n 2, 1) := dc9_28 (by decide +kernel)
theorem d_MM_rule0_253 : decode y_MM_rule0.2.1 253 = .ok (.invokestatic 261, 3) := dc9_184 (by decide +kernel)
theorem d_MM_rule0_256 : decode y_MM_rule0.2.1 256 = .ok (.ifCond .eq 14, 3) := dc9_153 (by decide +kernel)
theorem d_MM_rule0_270 : decode y_MM_rule0.2.1 270 = .ok (.iconst 0, 1) := dc9_3 (by decide +kernel)
theorem d_MM_rule0_271 : decode y_MM_rule0.2.1 271 = .ok (.ireturn, 1) := dc9_172 (by decide +kernel)
theorem d_MM_rule0_259 : decode y_MM_rule0.2.1 259 = .ok (.aload_n 0, 1) := dc9_42 (by decide +kernel)
theorem d_MM_rule0_260 : decode y_MM_rule0.2.1 260 = .ok (.getfield 28, 3) := dc9_180 (by decide +kernel)
theorem d_MM_rule0_263 : decode y_MM_rule0.2.1 263 = .ok (.bipush 69, 2) := dc9_16 (by decide +kernel)
theorem d_MM_rule0_265 : decode y_MM_rule0.2.1 265 = .ok (.invokevirtual 152, 3) := dc9_182 (by decide +kernel)
theorem d_MM_rule0_268 : decode y_MM_rule0.2.1 268 = .ok (.iconst 1, 1) := dc9_4 (by decide +kernel)
theorem d_MM_rule0_269 : decode y_MM_rule0.2.1 269 = .ok (.ireturn, 1) := dc9_172 (by decide +kernel)
theorem d_MM_rule0_272 : decode y_MM_rule0.2.1 272 = .ok (.aload_n 0, 1) := dc9_42 (by decide +kernel)
theorem d_MM_rule0_273 : decode y_MM_rule0.2.1 273 = .ok (.getfield 28, 3) := dc9_180 (by decide +kernel)
theorem d_MM_rule0_276 : decode y_MM_rule0.2.1 276 = .ok (.bipush 70, 2) := dc9_16 (by decide +kernel)
theorem d_MM_rule0_278 : decode y_MM_rule0.2.1 278 = .ok (.invokevirtual 152, 3) := dc9_182 (by decide +kernel)
theorem d_MM_rule0_281 : decode y_MM_rule0.2.1 281 = .ok (.aload_n 0, 1) := dc9_42 (by decide +kernel)
theorem d_MM_rule0_282 : decode y_MM_rule0.2.1 282 = .ok (.getfield 28, 3) := dc9_180 (by decide +kernel)
theorem d_MM_rule0_285 : decode y_MM_rule0.2.1 285 = .ok (.bipush 71, 2) := dc9_16 (by decide +kernel)
theorem d_MM_rule0_287 : decode y_MM_rule0.2.1 287 = .ok (.invokevirtual 152, 3) := dc9_182 (by decide +kernel)
theorem d_MM_rule0_290 : decode y_MM_rule0.2.1 290 = .ok (.iconst 0, 1) := dc9_3 (by decide +kernel)
theorem d_MM_rule0_291 : decode y_MM_rule0.2.1 291 = .ok (.ireturn, 1) := dc9_172 (by decide +kernel)
theorem d_MM_rule0_292 : decode y_MM_rule0.2.1 292 = .ok (.aload_n 0, 1) := dc9_42 (by decide +kernel)
theorem d_MM_rule0_293 : decode y_MM_rule0.2.1 293 = .ok (.iload_n 2, 1) := dc9_28 (by decide +kernel)
theorem d_MM_rule0_294 : decode y_MM_rule0.2.1 294 = .ok (.bipush 24, 2) := dc9_16 (by decide +kernel)
theorem d_MM_rule0_296 : decode y_MM_rule0.2.1 296 = .ok (.if_icmp .eq 9, 3) := dc9_159 (by decide +kernel)
theorem d_MM_rule0_305 : decode y_MM_rule0.2.1 305 = .ok (.iconst 1, 1) := dc9_4 (by decide +kernel)
theorem d_MM_rule0_306 : decode y_MM_rule0.2.1 306 = .ok (.goto 4, 3) := dc9_167 (by decide +kernel)
theorem d_MM_rule0_299 : decode y_MM_rule0.2.1 299 = .ok (.iload_n 2, 1) := dc9_28 (by decide +kernel)
theorem d_MM_rule0_300 : decode y_MM_rule0.2.1 300 = .ok (.bipush 25, 2) := dc9_16 (by decide +kernel)
theorem d_MM_rule0_302 : decode y_MM_rule0.2.1 302 = .ok (.if_icmp .ne 7, 3) := dc9_160 (by decide +kernel)
theorem d_MM_rule0_309 : decode y_MM_rule0.2.1 309 = .ok (.iconst 0, 1) := dc9_3 (by decide +kernel)
theorem d_MM_rule0_310 : decode y_MM_rule0.2.1 310 = .ok (.bipush 70, 2) := dc9_16 (by decide +kernel)
theorem d_MM_rule0_312 : decode y_MM_rule0.2.1 312 = .ok (.bipush 71, 2) := dc9_16 (by decide +kernel)
theorem d_MM_rule0_314 : decode y_MM_rule0.2.1 314 = .ok (.invokevirtual 247, 3) := dc9_182 (by decide +kernel)
theorem d_MM_rule0_317 : decode y_MM_rule0.2.1 317 = .ok (.ireturn, 1) := dc9_172 (by decide +kernel)
theorem d_MM_rule0_318 : decode y_MM_rule0.2.1 318 = .ok (.aload_n 0, 1) := dc9_42 (by decide +kernel)
theorem d_MM_rule0_319 : decode y_MM_rule0.2.1 319 = .ok (.getfield 28, 3) := dc9_180 (by decide +kernel)
theorem d_MM_rule0_322 : decode y_MM_rule0.2.1 322 = .ok (.bipush 72, 2) := dc9_16 (by decide +kernel)
theorem d_MM_rule0_324 : decode y_MM_rule0.2.1 324 = .ok (.invokevirtual 152, 3) := dc9_182 (by decide +kernel)
theorem d_MM_rule0_327 : decode y_MM_rule0.2.1 327 = .ok (.aload_n 0, 1) := dc9_42 (by decide +kernel)
theorem d_MM_rule0_328 : decode y_MM_rule0.2.1 328 = .ok (.getfield 28, 3) := dc9_180 (by decide +kernel)
theorem d_MM_rule0_331 : decode y_MM_rule0.2.1 331 = .ok (.bipush 73, 2) := dc9_16 (by decide +kernel)
theorem d_MM_rule0_333 : decode y_MM_rule0.2.1 333 = .ok (.invokevirtual 152, 3) := dc9_182 (by decide +kernel)
theorem d_MM_rule0_336 : decode y_MM_rule0.2.1 336 = .ok (.iconst 0, 1) := dc9_3 (by decide +kernel)
theorem d_MM_rule0_337 : decode y_MM_rule0.2.1 337 = .ok (.ireturn, 1) := dc9_172 (by decide +kernel)
theorem d_MM_rule0_338 : decode y_MM_rule0.2.1 338 = .ok (.aload_n 0, 1) := dc9_42 (by decide +kernel)
theorem d_MM_rule0_339 : decode y_MM_rule0.2.1 339 = .ok (.iload_n 2, 1) := dc9_28 (by decide +kernel)
theorem d_MM_rule0_340 : decode y_MM_rule0.2.1 340 = .ok (.bipush 26, 2) := dc9_16 (by decide +kernel)
theorem d_MM_rule0_342 : decode y_MM_rule0.2.1 342 = .ok (.if_icmp .eq 15, 3) := dc9_159 (by decide +kernel)
theorem d_MM_rule0_357 : decode y_MM_rule0.2.1 357 = .ok (.iconst 1, 1) := dc9_4 (by decide +kernel)
theorem d_MM_rule0_358 : decode y_MM_rule0.2.1 358 = .ok (.goto 4, 3) := dc9_167 (by decide +kernel)
theorem d_MM_rule0_345 : decode y_MM_rule0.2.1 345 = .ok (.iload_n 2, 1) := dc9_28 (by decide +kernel)
theorem d_MM_rule0_346 : decode y_MM_rule0.2.1 346 = .ok (.bipush 27, 2) := dc9_16 (by decide +kernel)
theorem d_MM_rule0_348 : decode y_MM_rule0.2.1 348 = .ok (.if_icmp .eq 9, 3) := dc9_159 (by decide +kernel)
theorem d_MM_rule0_351 : decode y_MM_rule0.2.1 351 = .ok (.iload_n 2, 1) := dc9_28 (by decide +kernel)
theorem d_MM_rule0_352 : decode y_MM_rule0.2.1 352 = .ok (.bipush 28, 2) := dc9_16 (by decide +kernel)
theorem d_MM_rule0_354 : decode y_MM_rule0.2.1 354 = .ok (.if_icmp .ne 7, 3) := dc9_160 (by decide +kernel)
theorem d_MM_rule0_361 : decode y_MM_rule0.2.1 361 = .ok (.iconst 0, 1) := dc9_3 (by decide +kernel)
theorem d_MM_rule0_362 : decode y_MM_rule0.2.1 362 = .ok (.bipush 72, 2) := dc9_16 (by decide +kernel)
theorem d_MM_rule0_364 : decode y_MM_rule0.2.1 364 = .ok (.bipush 73, 2) := dc9_16 (by decide +kernel)
theorem d_MM_rule0_366 : decode y_MM_rule0.2.1 366 = .ok (.invokevirtual 247, 3) := dc9_182 (by decide +kernel)
theorem d_MM_rule0_369 : decode y_MM_rule0.2.1 369 = .ok (.ireturn, 1) := dc9_172 (by decide +kernel)
theorem d_MM_rule0_370 : decode y_MM_rule0.2.1 370 = .ok (.aload_n 0, 1) := dc9_42 (by decide +kernel)
theorem d_MM_rule0_371 : decode y_MM_rule0.2.1 371 = .ok (.iload_n 2, 1) := dc9_28 (by decide +kernel)
theorem d_MM_rule0_372 : decode y_MM_rule0.2.1 372 = .ok (.bipush 35, 2) := dc9_16 (by decide +kernel)
theorem d_MM_rule0_374 : decode y_MM_rule0.2.1 374 = .ok (.if_icmp .ne 7, 3) := dc9_160 (by decide +kernel)
theorem d_MM_rule0_377 : decode y_MM_rule0.2.1 377 = .ok (.iconst 1, 1) := dc9_4 (by decide +kernel)
theorem d_MM_rule0_378 : decode y_MM_rule0.2.1 378 = .ok (.goto 4, 3) := dc9_167 (by decide +kernel)
theorem d_MM_rule0_381 : decode y_MM_rule0.2.1 381 = .ok (.iconst 0, 1) := dc9_3 (by decide +kernel)
theorem d_MM_rule0_382 : decode y_MM_rule0.2.1 382 = .ok (.bipush 74, 2) := dc9_16 (by decide +kernel)
theorem d_MM_rule0_384 : decode y_MM_rule0.2.1 384 = .ok (.bipush 61, 2) := dc9_16 (by decide +kernel)
theorem d_MM_rule0_386 : decode y_MM_rule0.2.1 386 = .ok (.invokevirtual 247, 3) := dc9_182 (by decide +kernel)
theorem d_MM_rule0_389 : decode y_MM_rule0.2.1 389 = .ok (.ireturn, 1) := dc9_172 (by decide +kernel)
theorem d_MM_rule0_390 : decode y_MM_rule0.2.1 390 = .ok (.iload_n 2, 1) := dc9_28 (by decide +kernel)
theorem d_MM_rule0_391 : decode y_MM_rule0.2.1 391 = .ok (.bipush 36, 2) := dc9_16 (by decide +kernel)
theorem d_MM_rule0_393 : decode y_MM_rule0.2.1 393 = .ok (.if_icmp .ne 14, 3) := dc9_160 (by decide +kernel)
theorem d_MM_rule0_396 : decode y_MM_rule0.2.1 396 = .ok (.aload_n 0, 1) := dc9_42 (by decide +kernel)
theorem d_MM_rule0_397 : decode y_MM_rule0.2.1 397 = .ok (.invokevirtual 254, 3) := dc9_182 (by decide +kernel)
theorem d_MM_rule0_400 : decode y_MM_rule0.2.1 400 = .ok (.ifCond .eq 7, 3) := dc9_153 (by decide +kernel)
theorem d_MM_rule0_403 : decode y_MM_rule0.2.1 403 = .ok (.iconst 1, 1) := dc9_4 (by decide +kernel)
theorem d_MM_rule0_404 : decode y_MM_rule0.2.1 404 = .ok (.goto 4, 3) := dc9_167 (by decide +kernel)
theorem d_MM_rule0_407 : decode y_MM_rule0.2.1 407 = .ok (.iconst (-1), 1) := dc9_2 (by decide +kernel)
theorem d_MM_rule0_409 : decode y_MM_rule0.2.1 409 = .ok (.aload_n 0, 1) := dc9_42 (by decide +kernel)
theorem d_MM_rule0_410 : decode y_MM_rule0.2.1 410 = .ok (.iload_n 2, 1) := dc9_28 (by decide +kernel)
theorem d_MM_rule0_411 : decode y_MM_rule0.2.1 411 = .ok (.invokevirtual 264, 3) := dc9_182 (by decide +kernel)
theorem d_MM_rule0_414 : decode y_MM_rule0.2.1 414 = .ok (.ireturn, 1) := dc9_172 (by decide +kernel)
theorem d_MM_rule0_114 : decode y_MM_rule0.2.1 114 = .ok (.ireturn, 1) := dc9_172 (by decide +kernel)
theorem d_MM_rule0_408 : decode y_MM_rule0.2.1 408 = .ok (.ireturn, 1) := dc9_172 (by decide +kernel)
def h_MM_rule0_114 (G : mG) (d : Nat) (k0 : Int) (M : mM) (Q : Int → mM → Prop) : Prop := mWm G y_MM_rule0 (d + 1) 114 [vd, vd, vd] [vi k0] M (fun r9 M9 => ∃ x9, r9 = some (vi x9) ∧ Q x9 M9)
def h_MM_rule0_408 (G : mG) (d : Nat) (k0 : Int) (M : mM) (Q : Int → mM → Prop) : Prop := mWm G y_MM_rule0 (d + 1) 408 [vd, vd, vd] [vi k0] M (fun r9 M9 => ∃ x9, r9 = some (vi x9) ∧ Q x9 M9)
theorem k_MM_rule0 {G : mG} {d : Nat} {a0 : Nat} {l1 : Int} {l2 : Int} {M : mM} {Q : Int → mM → Prop} (hO : mOk M) (hi_l1 : i32 l1) (hi_l2 : i32 l2)
    (h : ((l1 = 61) → (mK M a0 = 14 ∧ mK M (mR M a0 6) = 15 ∧ Cv G y_MN_add d [vr (mR M a0 6), vi 62] M (fun M6 => mOk M6 ∧ (mK M6 a0 = 14 ∧ mK M6 (mR M6 a0 6) = 15 ∧ Cv G y_MN_add d [vr (mR M6 a0 6), vi 63] M6 (fun M11 => mOk M11 ∧ (Q 0 M11)))))) ∧ (¬ (l1 = 61) → (((l1 = 62) → (((l2 = 32) → (mK M a0 = 14 ∧ Ci G y_MM_ask d [vr a0] M (fun x20 M19 => i32 x20 ∧ mOk M19 ∧ (h_MM_rule0_114 G d x20 M19 Q)))) ∧ (¬ (l2 = 32) → (h_MM_rule0_114 G d 0 M Q)))) ∧ (¬ (l1 = 62) → (((l1 = 63) → (mK M a0 = 14 ∧ mK M (mR M a0 6) = 15 ∧ Cv G y_MN_add d [vr (mR M a0 6), vi 64] M (fun M26 => mOk M26 ∧ (mK M26 a0 = 14 ∧ mK M26 (mR M26 a0 6) = 15 ∧ Cv G y_MN_add d [vr (mR M26 a0 6), vi 65] M26 (fun M31 => mOk M31 ∧ (Q 0 M31)))))) ∧ (¬ (l1 = 63) → (((l1 = 64) → (∀ v37 : Int, v37 = (if (l2 = 30) then 1 else 0) → mK M a0 = 14 ∧ Ci G y_MM_again d [vr a0, vi v37, vi 64, vi 65] M (fun x44 M43 => i32 x44 ∧ mOk M43 ∧ (Q x44 M43)))) ∧ (¬ (l1 = 64) → (((l1 = 65) → (mK M a0 = 14 ∧ mK M (mR M a0 6) = 15 ∧ Cv G y_MN_add d [vr (mR M a0 6), vi 66] M (fun M51 => mOk M51 ∧ (mK M51 a0 = 14 ∧ mK M51 (mR M51 a0 6) = 15 ∧ Cv G y_MN_add d [vr (mR M51 a0 6), vi 67] M51 (fun M56 => mOk M56 ∧ (Q 0 M56)))))) ∧ (¬ (l1 = 65) → (((l1 = 66) → (∀ v62 : Int, v62 = (if (l2 = 29) then 1 else 0) → mK M a0 = 14 ∧ Ci G y_MM_again d [vr a0, vi v62, vi 66, vi 67] M (fun x69 M68 => i32 x69 ∧ mOk M68 ∧ (Q x69 M68)))) ∧ (¬ (l1 = 66) → (((l1 = 67) → (((l2 = 31) → (mK M a0 = 14 ∧ mK M (mR M a0 6) = 15 ∧ Cv G y_MN_add d [vr (mR M a0 6), vi 75] M (fun M78 => mOk M78 ∧ (mK M78 a0 = 14 ∧ mK M78 (mR M78 a0 6) = 15 ∧ Cv G y_MN_add d [vr (mR M78 a0 6), vi 67] M78 (fun M83 => mOk M83 ∧ (mK M83 a0 = 14 ∧ Ci G y_MM_level d [vr a0] M83 (fun x88 M87 => i32 x88 ∧ mOk M87 ∧ (∀ v91 : Int, v91 = (if (x88 = 0) then (-1) else 1) → Q v91 M87)))))))) ∧ (¬ (l2 = 31) → (mK M a0 = 14 ∧ mK M (mR M a0 6) = 15 ∧ Cv G y_MN_add d [vr (mR M a0 6), vi 68] M (fun M98 => mOk M98 ∧ (mK M98 a0 = 14 ∧ mK M98 (mR M98 a0 6) = 15 ∧ Cv G y_MN_add d [vr (mR M98 a0 6), vi 69] M98 (fun M103 => mOk M103 ∧ (Q 0 M103)))))))) ∧ (¬ (l1 = 67) → (((l1 = 68) → (Ci G y_MM_isComparison d [vi l2] M (fun x109 M108 => i32 x109 ∧ mOk M108 ∧ (((x109 = 0) → (Q 0 M108)) ∧ (¬ (x109 = 0) → (mK M108 a0 = 14 ∧ mK M108 (mR M108 a0 6) = 15 ∧ Cv G y_MN_add d [vr (mR M108 a0 6), vi 69] M108 (fun M115 => mOk M115 ∧ (Q 1 M115)))))))) ∧ (¬ (l1 = 68) → (((l1 = 69) → (mK M a0 = 14 ∧ mK M (mR M a0 6) = 15 ∧ Cv G y_MN_add d [vr (mR M a0 6), vi 70] M (fun M122 => mOk M122 ∧ (mK M122 a0 = 14 ∧ mK M122 (mR M122 a0 6) = 15 ∧ Cv G y_MN_add d [vr (mR M122 a0 6), vi 71] M122 (fun M127 => mOk M127 ∧ (Q 0 M127)))))) ∧ (¬ (l1 = 69) → (((l1 = 70) → (∀ v134 : Int, v134 = (if ((l2 = 24) ∨ (l2 = 25)) then 1 else 0) → mK M a0 = 14 ∧ Ci G y_MM_again d [vr a0, vi v134, vi 70, vi 71] M (fun x141 M140 => i32 x141 ∧ mOk M140 ∧ (Q x141 M140)))) ∧ (¬ (l1 = 70) → (((l1 = 71) → (mK M a0 = 14 ∧ mK M (mR M a0 6) = 15 ∧ Cv G y_MN_add d [vr (mR M a0 6), vi 72] M (fun M149 => mOk M149 ∧ (mK M149 a0 = 14 ∧ mK M149 (mR M149 a0 6) = 15 ∧ Cv G y_MN_add d [vr (mR M149 a0 6), vi 73] M149 (fun M154 => mOk M154 ∧ (Q 0 M154)))))) ∧ (¬ (l1 = 71) → (((l1 = 72) → (∀ v162 : Int, v162 = (if ((l2 = 26) ∨ ((l2 = 27) ∨ (l2 = 28))) then 1 else 0) → mK M a0 = 14 ∧ Ci G y_MM_again d [vr a0, vi v162, vi 72, vi 73] M (fun x169 M168 => i32 x169 ∧ mOk M168 ∧ (Q x169 M168)))) ∧ (¬ (l1 = 72) → (((l1 = 74) → (∀ v177 : Int, v177 = (if (l2 = 35) then 1 else 0) → mK M a0 = 14 ∧ Ci G y_MM_again d [vr a0, vi v177, vi 74, vi 61] M (fun x184 M183 => i32 x184 ∧ mOk M183 ∧ (Q x184 M183)))) ∧ (¬ (l1 = 74) → (((l1 = 76) → (((l2 = 36) → (mK M a0 = 14 ∧ Ci G y_MM_level d [vr a0] M (fun x193 M192 => i32 x193 ∧ mOk M192 ∧ (((x193 = 0) → (h_MM_rule0_408 G d (-1) M192 Q)) ∧ (¬ (x193 = 0) → (h_MM_rule0_408 G d 1 M192 Q)))))) ∧ (¬ (l2 = 36) → (h_MM_rule0_408 G d (-1) M Q)))) ∧ (¬ (l1 = 76) → (mK M a0 = 14 ∧ Ci G y_MM_sign d [vr a0, vi l2] M (fun x199 M198 => i32 x199 ∧ mOk M198 ∧ (Q x199 M198))))))))))))))))))))))))))))))) :
    Ci G y_MM_rule0 (d + 1) [vr a0, vi l1, vi l2] M Q := by
  refine wm_open (y := y_MM_rule0) rfl (Nat.le_of_ble_eq_true rfl) (L := [vr a0, vi l1, vi l2]) rfl ?_
  refine wm_iload_n d_MM_rule0_0 rfl rfl ?_
  by_cases c3 : l1 = 61
  · replace h := h.1 c3
    refine wm_tableIn (tgt := 80) (off := 79) d_MM_rule0_1 hi_l1 (by omega) (by omega) (by rw [c3]; rfl) rfl ?_
    obtain ⟨h4, h⟩ := h
    obtain ⟨h5, h⟩ := h
    refine wm_aload_n d_MM_rule0_80 rfl rfl ?_
    refine gf_MM_28 rfl d_MM_rule0_81 h4 ?_
    refine wm_bipush d_MM_rule0_84 (by decide) ?_
    refine cf_MM_152 rfl d_MM_rule0_86 h5 (Nat.le_of_ble_eq_true rfl) (Cv.mono h (fun M6 h => ?_))
    obtain ⟨hOM6, h⟩ := h
    obtain ⟨h9, h⟩ := h
    obtain ⟨h10, h⟩ := h
    refine wm_aload_n d_MM_rule0_89 rfl rfl ?_
    refine gf_MM_28 rfl d_MM_rule0_90 h9 ?_
    refine wm_bipush d_MM_rule0_93 (by decide) ?_
    refine cf_MM_152 rfl d_MM_rule0_95 h10 (Nat.le_of_ble_eq_true rfl) (Cv.mono h (fun M11 h => ?_))
    obtain ⟨hOM11, h⟩ := h
    refine wm_iconst d_MM_rule0_98 ?_
    refine wm_ireturn d_MM_rule0_99 rfl rfl ?_
    exact ⟨_, rfl, h⟩
  · replace h := h.2 c3
    by_cases c15 : l1 = 62
    · replace h := h.1 c15
      refine wm_tableIn (tgt := 100) (off := 99) d_MM_rule0_1 hi_l1 (by omega) (by omega) (by rw [c15]; rfl) rfl ?_
      refine wm_iload_n d_MM_rule0_100 rfl rfl ?_
      refine wm_bipush d_MM_rule0_101 (by decide) ?_
      refine wm_icmp_ne (tgt := 113) d_MM_rule0_103 rfl hi_l2 ⟨by decide, by decide⟩ (fun c17 => ?_) (fun c17 => ?_)
      · replace h := h.2 c17
        refine wm_iconst d_MM_rule0_113 ?_
        refine wm_less (L' := [vd, vd, vd]) ⟨Or.inl rfl, Or.inl rfl, Or.inl rfl, trivial⟩ ?_
        exact h
      · replace c17 := Classical.not_not.mp c17
        replace h := h.1 c17
        obtain ⟨h18, h⟩ := h
        refine wm_aload_n d_MM_rule0_106 rfl rfl ?_
        refine cf_MM_258 rfl d_MM_rule0_107 h18 (Nat.le_of_ble_eq_true rfl) (Ci.mono h (fun x20 M19 h => ?_))
        obtain ⟨h21, hOM19, h⟩ := h
        refine wm_goto (tgt := 114) d_MM_rule0_110 rfl ?_
        refine wm_less (L' := [vd, vd, vd]) ⟨Or.inl rfl, Or.inl rfl, Or.inl rfl, trivial⟩ ?_
        exact h
    · replace h := h.2 c15
      by_cases c23 : l1 = 63
      · replace h := h.1 c23
        refine wm_tableIn (tgt := 115) (off := 114) d_MM_rule0_1 hi_l1 (by omega) (by omega) (by rw [c23]; rfl) rfl ?_
        obtain ⟨h24, h⟩ := h
        obtain ⟨h25, h⟩ := h
        refine wm_aload_n d_MM_rule0_115 rfl rfl ?_
        refine gf_MM_28 rfl d_MM_rule0_116 h24 ?_
        refine wm_bipush d_MM_rule0_119 (by decide) ?_
        refine cf_MM_152 rfl d_MM_rule0_121 h25 (Nat.le_of_ble_eq_true rfl) (Cv.mono h (fun M26 h => ?_))
        obtain ⟨hOM26, h⟩ := h
        obtain ⟨h29, h⟩ := h
        obtain ⟨h30, h⟩ := h
        refine wm_aload_n d_MM_rule0_124 rfl rfl ?_
        refine gf_MM_28 rfl d_MM_rule0_125 h29 ?_
        refine wm_bipush d_MM_rule0_128 (by decide) ?_
        refine cf_MM_152 rfl d_MM_rule0_130 h30 (Nat.le_of_ble_eq_true rfl) (Cv.mono h (fun M31 h => ?_))
        obtain ⟨hOM31, h⟩ := h
        refine wm_iconst d_MM_rule0_133 ?_
        refine wm_ireturn d_MM_rule0_134 rfl rfl ?_
        exact ⟨_, rfl, h⟩
      · replace h := h.2 c23
        by_cases c35 : l1 = 64
        · replace h := h.1 c35
          refine wm_tableIn (tgt := 135) (off := 134) d_MM_rule0_1 hi_l1 (by omega) (by omega) (by rw [c35]; rfl) rfl ?_
          refine wm_aload_n d_MM_rule0_135 rfl rfl ?_
          refine wm_iload_n d_MM_rule0_136 rfl rfl ?_
          refine wm_bipush d_MM_rule0_137 (by decide) ?_
          have hJ : ∀ v37 : Int, v37 = (if (l2 = 30) then 1 else 0) → mWm G y_MM_rule0 (d + 1) 147 [vd, vd, vd] [vi v37, vr a0] M (fun r9 M9 => ∃ x9, r9 = some (vi x9) ∧ Q x9 M9) := by
            intro v37 e39
            have h := h v37 e39
            have h40 : i32 v37 := by rw [e39]; (repeat' split) <;> first | exact ⟨by decide, by decide⟩ | exact ⟨by decide, by decide⟩
            have h41 : (v37 = 0 ∨ v37 = 1) := by rw [e39]; (repeat' split) <;> decide
            obtain ⟨h42, h⟩ := h
            refine wm_bipush d_MM_rule0_147 (by decide) ?_
            refine wm_bipush d_MM_rule0_149 (by decide) ?_
            refine cf_MM_247 rfl d_MM_rule0_151 h42 (Nat.le_of_ble_eq_true rfl) (Ci.mono h (fun x44 M43 h => ?_))
            obtain ⟨h45, hOM43, h⟩ := h
            refine wm_ireturn d_MM_rule0_154 rfl rfl ?_
            exact ⟨_, rfl, h⟩
          clear h
          refine wm_icmp_ne (tgt := 146) d_MM_rule0_139 rfl hi_l2 ⟨by decide, by decide⟩ (fun c36 => ?_) (fun c36 => ?_)
          · refine wm_iconst d_MM_rule0_146 ?_
            refine wm_less (L' := [vd, vd, vd]) ⟨Or.inl rfl, Or.inl rfl, Or.inl rfl, trivial⟩ ?_
            exact hJ 0 (if_neg c36).symm
          · replace c36 := Classical.not_not.mp c36
            refine wm_iconst d_MM_rule0_142 ?_
            refine wm_goto (tgt := 147) d_MM_rule0_143 rfl ?_
            refine wm_less (L' := [vd, vd, vd]) ⟨Or.inl rfl, Or.inl rfl, Or.inl rfl, trivial⟩ ?_
            exact hJ 1 (if_pos c36).symm
        · replace h := h.2 c35
          by_cases c48 : l1 = 65
          · replace h := h.1 c48
            refine wm_tableIn (tgt := 155) (off := 154) d_MM_rule0_1 hi_l1 (by omega) (by omega) (by rw [c48]; rfl) rfl ?_
            obtain ⟨h49, h⟩ := h
            obtain ⟨h50, h⟩ := h
            refine wm_aload_n d_MM_rule0_155 rfl rfl ?_
            refine gf_MM_28 rfl d_MM_rule0_156 h49 ?_
            refine wm_bipush d_MM_rule0_159 (by decide) ?_
            refine cf_MM_152 rfl d_MM_rule0_161 h50 (Nat.le_of_ble_eq_true rfl) (Cv.mono h (fun M51 h => ?_))
            obtain ⟨hOM51, h⟩ := h
            obtain ⟨h54, h⟩ := h
            obtain ⟨h55, h⟩ := h
            refine wm_aload_n d_MM_rule0_164 rfl rfl ?_
            refine gf_MM_28 rfl d_MM_rule0_165 h54 ?_
            refine wm_bipush d_MM_rule0_168 (by decide) ?_
            refine cf_MM_152 rfl d_MM_rule0_170 h55 (Nat.le_of_ble_eq_true rfl) (Cv.mono h (fun M56 h => ?_))
            obtain ⟨hOM56, h⟩ := h
            refine wm_iconst d_MM_rule0_173 ?_
            refine wm_ireturn d_MM_rule0_174 rfl rfl ?_
            exact ⟨_, rfl, h⟩
          · replace h := h.2 c48
            by_cases c60 : l1 = 66
            · replace h := h.1 c60
              refine wm_tableIn (tgt := 175) (off := 174) d_MM_rule0_1 hi_l1 (by omega) (by omega) (by rw [c60]; rfl) rfl ?_
              refine wm_aload_n d_MM_rule0_175 rfl rfl ?_
              refine wm_iload_n d_MM_rule0_176 rfl rfl ?_
              refine wm_bipush d_MM_rule0_177 (by decide) ?_
              have hJ : ∀ v62 : Int, v62 = (if (l2 = 29) then 1 else 0) → mWm G y_MM_rule0 (d + 1) 187 [vd, vd, vd] [vi v62, vr a0] M (fun r9 M9 => ∃ x9, r9 = some (vi x9) ∧ Q x9 M9) := by
                intro v62 e64
                have h := h v62 e64
                have h65 : i32 v62 := by rw [e64]; (repeat' split) <;> first | exact ⟨by decide, by decide⟩ | exact ⟨by decide, by decide⟩
                have h66 : (v62 = 0 ∨ v62 = 1) := by rw [e64]; (repeat' split) <;> decide
                obtain ⟨h67, h⟩ := h
                refine wm_bipush d_MM_rule0_187 (by decide) ?_
                refine wm_bipush d_MM_rule0_189 (by decide) ?_
                refine cf_MM_247 rfl d_MM_rule0_191 h67 (Nat.le_of_ble_eq_true rfl) (Ci.mono h (fun x69 M68 h => ?_))
                obtain ⟨h70, hOM68, h⟩ := h
                refine wm_ireturn d_MM_rule0_194 rfl rfl ?_
                exact ⟨_, rfl, h⟩
              clear h
              refine wm_icmp_ne (tgt := 186) d_MM_rule0_179 rfl hi_l2 ⟨by decide, by decide⟩ (fun c61 => ?_) (fun c61 => ?_)
              · refine wm_iconst d_MM_rule0_186 ?_
                refine wm_less (L' := [vd, vd, vd]) ⟨Or.inl rfl, Or.inl rfl, Or.inl rfl, trivial⟩ ?_
                exact hJ 0 (if_neg c61).symm
              · replace c61 := Classical.not_not.mp c61
                refine wm_iconst d_MM_rule0_182 ?_
                refine wm_goto (tgt := 187) d_MM_rule0_183 rfl ?_
                refine wm_less (L' := [vd, vd, vd]) ⟨Or.inl rfl, Or.inl rfl, Or.inl rfl, trivial⟩ ?_
                exact hJ 1 (if_pos c61).symm
            · replace h := h.2 c60
              by_cases c73 : l1 = 67
              · replace h := h.1 c73
                refine wm_tableIn (tgt := 195) (off := 194) d_MM_rule0_1 hi_l1 (by omega) (by omega) (by rw [c73]; rfl) rfl ?_
                refine wm_iload_n d_MM_rule0_195 rfl rfl ?_
                refine wm_bipush d_MM_rule0_196 (by decide) ?_
                refine wm_icmp_ne (tgt := 232) d_MM_rule0_198 rfl hi_l2 ⟨by decide, by decide⟩ (fun c75 => ?_) (fun c75 => ?_)
                · replace h := h.2 c75
                  obtain ⟨h96, h⟩ := h
                  obtain ⟨h97, h⟩ := h
                  refine wm_aload_n d_MM_rule0_232 rfl rfl ?_
                  refine gf_MM_28 rfl d_MM_rule0_233 h96 ?_
                  refine wm_bipush d_MM_rule0_236 (by decide) ?_
                  refine cf_MM_152 rfl d_MM_rule0_238 h97 (Nat.le_of_ble_eq_true rfl) (Cv.mono h (fun M98 h => ?_))
                  obtain ⟨hOM98, h⟩ := h
                  obtain ⟨h101, h⟩ := h
                  obtain ⟨h102, h⟩ := h
                  refine wm_aload_n d_MM_rule0_241 rfl rfl ?_
                  refine gf_MM_28 rfl d_MM_rule0_242 h101 ?_
                  refine wm_bipush d_MM_rule0_245 (by decide) ?_
                  refine cf_MM_152 rfl d_MM_rule0_247 h102 (Nat.le_of_ble_eq_true rfl) (Cv.mono h (fun M103 h => ?_))
                  obtain ⟨hOM103, h⟩ := h
                  refine wm_iconst d_MM_rule0_250 ?_
                  refine wm_ireturn d_MM_rule0_251 rfl rfl ?_
                  exact ⟨_, rfl, h⟩
                · replace c75 := Classical.not_not.mp c75
                  replace h := h.1 c75
                  obtain ⟨h76, h⟩ := h
                  obtain ⟨h77, h⟩ := h
                  refine wm_aload_n d_MM_rule0_201 rfl rfl ?_
                  refine gf_MM_28 rfl d_MM_rule0_202 h76 ?_
                  refine wm_bipush d_MM_rule0_205 (by decide) ?_
                  refine cf_MM_152 rfl d_MM_rule0_207 h77 (Nat.le_of_ble_eq_true rfl) (Cv.mono h (fun M78 h => ?_))
                  obtain ⟨hOM78, h⟩ := h
                  obtain ⟨h81, h⟩ := h
                  obtain ⟨h82, h⟩ := h
                  refine wm_aload_n d_MM_rule0_210 rfl rfl ?_
                  refine gf_MM_28 rfl d_MM_rule0_211 h81 ?_
                  refine wm_bipush d_MM_rule0_214 (by decide) ?_
                  refine cf_MM_152 rfl d_MM_rule0_216 h82 (Nat.le_of_ble_eq_true rfl) (Cv.mono h (fun M83 h => ?_))
                  obtain ⟨hOM83, h⟩ := h
                  obtain ⟨h86, h⟩ := h
                  refine wm_aload_n d_MM_rule0_219 rfl rfl ?_
                  refine cf_MM_254 rfl d_MM_rule0_220 h86 (Nat.le_of_ble_eq_true rfl) (Ci.mono h (fun x88 M87 h => ?_))
                  obtain ⟨h89, hOM87, h⟩ := h
                  have hJ : ∀ v91 : Int, v91 = (if (x88 = 0) then (-1) else 1) → mWm G y_MM_rule0 (d + 1) 231 [vd, vd, vd] [vi v91] M87 (fun r9 M9 => ∃ x9, r9 = some (vi x9) ∧ Q x9 M9) := by
                    intro v91 e93
                    have h := h v91 e93
                    have h94 : i32 v91 := by rw [e93]; (repeat' split) <;> first | exact ⟨by decide, by decide⟩ | exact ⟨by decide, by decide⟩
                    refine wm_ireturn d_MM_rule0_231 rfl rfl ?_
                    exact ⟨_, rfl, h⟩
                  clear h
                  refine wm_if_eq (tgt := 230) d_MM_rule0_223 rfl h89 (fun c90 => ?_) (fun c90 => ?_)
                  · refine wm_iconst d_MM_rule0_230 ?_
                    refine wm_less (L' := [vd, vd, vd]) ⟨Or.inl rfl, Or.inl rfl, Or.inl rfl, trivial⟩ ?_
                    exact hJ (-1) (if_pos c90).symm
                  · refine wm_iconst d_MM_rule0_226 ?_
                    refine wm_goto (tgt := 231) d_MM_rule0_227 rfl ?_
                    refine wm_less (L' := [vd, vd, vd]) ⟨Or.inl rfl, Or.inl rfl, Or.inl rfl, trivial⟩ ?_
                    exact hJ 1 (if_neg c90).symm
              · replace h := h.2 c73
                by_cases c107 : l1 = 68
                · replace h := h.1 c107
                  refine wm_tableIn (tgt := 252) (off := 251) d_MM_rule0_1 hi_l1 (by omega) (by omega) (by rw [c107]; rfl) rfl ?_
                  refine wm_iload_n d_MM_rule0_252 rfl rfl ?_
                  refine cf_MM_261 rfl d_MM_rule0_253 (Nat.le_of_ble_eq_true rfl) (Ci.mono h (fun x109 M108 h => ?_))
                  obtain ⟨h110, hOM108, h⟩ := h
                  refine wm_if_eq (tgt := 270) d_MM_rule0_256 rfl h110 (fun c112 => ?_) (fun c112 => ?_)
                  · replace h := h.1 c112
                    refine wm_iconst d_MM_rule0_270 ?_
                    refine wm_ireturn d_MM_rule0_271 rfl rfl ?_
                    exact ⟨_, rfl, h⟩
                  · replace h := h.2 c112
                    obtain ⟨h113, h⟩ := h
                    obtain ⟨h114, h⟩ := h
                    refine wm_aload_n d_MM_rule0_259 rfl rfl ?_
                    refine gf_MM_28 rfl d_MM_rule0_260 h113 ?_
                    refine wm_bipush d_MM_rule0_263 (by decide) ?_
                    refine cf_MM_152 rfl d_MM_rule0_265 h114 (Nat.le_of_ble_eq_true rfl) (Cv.mono h (fun M115 h => ?_))
                    obtain ⟨hOM115, h⟩ := h
                    refine wm_iconst d_MM_rule0_268 ?_
                    refine wm_ireturn d_MM_rule0_269 rfl rfl ?_
                    exact ⟨_, rfl, h⟩
                · replace h := h.2 c107
                  by_cases c119 : l1 = 69
                  · replace h := h.1 c119
                    refine wm_tableIn (tgt := 272) (off := 271) d_MM_rule0_1 hi_l1 (by omega) (by omega) (by rw [c119]; rfl) rfl ?_
                    obtain ⟨h120, h⟩ := h
                    obtain ⟨h121, h⟩ := h
                    refine wm_aload_n d_MM_rule0_272 rfl rfl ?_
                    refine gf_MM_28 rfl d_MM_rule0_273 h120 ?_
                    refine wm_bipush d_MM_rule0_276 (by decide) ?_
                    refine cf_MM_152 rfl d_MM_rule0_278 h121 (Nat.le_of_ble_eq_true rfl) (Cv.mono h (fun M122 h => ?_))
                    obtain ⟨hOM122, h⟩ := h
                    obtain ⟨h125, h⟩ := h
                    obtain ⟨h126, h⟩ := h
                    refine wm_aload_n d_MM_rule0_281 rfl rfl ?_
                    refine gf_MM_28 rfl d_MM_rule0_282 h125 ?_
                    refine wm_bipush d_MM_rule0_285 (by decide) ?_
                    refine cf_MM_152 rfl d_MM_rule0_287 h126 (Nat.le_of_ble_eq_true rfl) (Cv.mono h (fun M127 h => ?_))
                    obtain ⟨hOM127, h⟩ := h
                    refine wm_iconst d_MM_rule0_290 ?_
                    refine wm_ireturn d_MM_rule0_291 rfl rfl ?_
                    exact ⟨_, rfl, h⟩
                  · replace h := h.2 c119
                    by_cases c131 : l1 = 70
                    · replace h := h.1 c131
                      refine wm_tableIn (tgt := 292) (off := 291) d_MM_rule0_1 hi_l1 (by omega) (by omega) (by rw [c131]; rfl) rfl ?_
                      refine wm_aload_n d_MM_rule0_292 rfl rfl ?_
                      refine wm_iload_n d_MM_rule0_293 rfl rfl ?_
                      refine wm_bipush d_MM_rule0_294 (by decide) ?_
                      have hJ : ∀ v134 : Int, v134 = (if ((l2 = 24) ∨ (l2 = 25)) then 1 else 0) → mWm G y_MM_rule0 (d + 1) 310 [vd, vd, vd] [vi v134, vr a0] M (fun r9 M9 => ∃ x9, r9 = some (vi x9) ∧ Q x9 M9) := by
                        intro v134 e136
                        have h := h v134 e136
                        have h137 : i32 v134 := by rw [e136]; (repeat' split) <;> first | exact ⟨by decide, by decide⟩ | exact ⟨by decide, by decide⟩
                        have h138 : (v134 = 0 ∨ v134 = 1) := by rw [e136]; (repeat' split) <;> decide
                        obtain ⟨h139, h⟩ := h
                        refine wm_bipush d_MM_rule0_310 (by decide) ?_
                        refine wm_bipush d_MM_rule0_312 (by decide) ?_
                        refine cf_MM_247 rfl d_MM_rule0_314 h139 (Nat.le_of_ble_eq_true rfl) (Ci.mono h (fun x141 M140 h => ?_))
                        obtain ⟨h142, hOM140, h⟩ := h
                        refine wm_ireturn d_MM_rule0_317 rfl rfl ?_
                        exact ⟨_, rfl, h⟩
                      clear h
                      refine wm_icmp_eq (tgt := 305) d_MM_rule0_296 rfl hi_l2 ⟨by decide, by decide⟩ (fun c132 => ?_) (fun c132 => ?_)
                      · refine wm_iconst d_MM_rule0_305 ?_
                        refine wm_goto (tgt := 310) d_MM_rule0_306 rfl ?_
                        refine wm_less (L' := [vd, vd, vd]) ⟨Or.inl rfl, Or.inl rfl, Or.inl rfl, trivial⟩ ?_
                        exact hJ 1 (if_pos (Or.inl c132)).symm
                      · refine wm_iload_n d_MM_rule0_299 rfl rfl ?_
                        refine wm_bipush d_MM_rule0_300 (by decide) ?_
                        refine wm_icmp_ne (tgt := 309) d_MM_rule0_302 rfl hi_l2 ⟨by decide, by decide⟩ (fun c133 => ?_) (fun c133 => ?_)
                        · refine wm_iconst d_MM_rule0_309 ?_
                          refine wm_less (L' := [vd, vd, vd]) ⟨Or.inl rfl, Or.inl rfl, Or.inl rfl, trivial⟩ ?_
                          exact hJ 0 (if_neg (fun z143 => Or.elim z143 c132 c133)).symm
                        · replace c133 := Classical.not_not.mp c133
                          refine wm_iconst d_MM_rule0_305 ?_
                          refine wm_goto (tgt := 310) d_MM_rule0_306 rfl ?_
                          refine wm_less (L' := [vd, vd, vd]) ⟨Or.inl rfl, Or.inl rfl, Or.inl rfl, trivial⟩ ?_
                          exact hJ 1 (if_pos (Or.inr c133)).symm
                    · replace h := h.2 c131
                      by_cases c146 : l1 = 71
                      · replace h := h.1 c146
                        refine wm_tableIn (tgt := 318) (off := 317) d_MM_rule0_1 hi_l1 (by omega) (by omega) (by rw [c146]; rfl) rfl ?_
                        obtain ⟨h147, h⟩ := h
                        obtain ⟨h148, h⟩ := h
                        refine wm_aload_n d_MM_rule0_318 rfl rfl ?_
                        refine gf_MM_28 rfl d_MM_rule0_319 h147 ?_
                        refine wm_bipush d_MM_rule0_322 (by decide) ?_
                        refine cf_MM_152 rfl d_MM_rule0_324 h148 (Nat.le_of_ble_eq_true rfl) (Cv.mono h (fun M149 h => ?_))
                        obtain ⟨hOM149, h⟩ := h
                        obtain ⟨h152, h⟩ := h
                        obtain ⟨h153, h⟩ := h
                        refine wm_aload_n d_MM_rule0_327 rfl rfl ?_
                        refine gf_MM_28 rfl d_MM_rule0_328 h152 ?_
                        refine wm_bipush d_MM_rule0_331 (by decide) ?_
                        refine cf_MM_152 rfl d_MM_rule0_333 h153 (Nat.le_of_ble_eq_true rfl) (Cv.mono h (fun M154 h => ?_))
                        obtain ⟨hOM154, h⟩ := h
                        refine wm_iconst d_MM_rule0_336 ?_
                        refine wm_ireturn d_MM_rule0_337 rfl rfl ?_
                        exact ⟨_, rfl, h⟩
                      · replace h := h.2 c146
                        by_cases c158 : l1 = 72
                        · replace h := h.1 c158
                          refine wm_tableIn (tgt := 338) (off := 337) d_MM_rule0_1 hi_l1 (by omega) (by omega) (by rw [c158]; rfl) rfl ?_
                          refine wm_aload_n d_MM_rule0_338 rfl rfl ?_
                          refine wm_iload_n d_MM_rule0_339 rfl rfl ?_
                          refine wm_bipush d_MM_rule0_340 (by decide) ?_
                          have hJ : ∀ v162 : Int, v162 = (if ((l2 = 26) ∨ ((l2 = 27) ∨ (l2 = 28))) then 1 else 0) → mWm G y_MM_rule0 (d + 1) 362 [vd, vd, vd] [vi v162, vr a0] M (fun r9 M9 => ∃ x9, r9 = some (vi x9) ∧ Q x9 M9) := by
                            intro v162 e164
                            have h := h v162 e164
                            have h165 : i32 v162 := by rw [e164]; (repeat' split) <;> first | exact ⟨by decide, by decide⟩ | exact ⟨by decide, by decide⟩
                            have h166 : (v162 = 0 ∨ v162 = 1) := by rw [e164]; (repeat' split) <;> decide
                            obtain ⟨h167, h⟩ := h
                            refine wm_bipush d_MM_rule0_362 (by decide) ?_
                            refine wm_bipush d_MM_rule0_364 (by decide) ?_
                            refine cf_MM_247 rfl d_MM_rule0_366 h167 (Nat.le_of_ble_eq_true rfl) (Ci.mono h (fun x169 M168 h => ?_))
                            obtain ⟨h170, hOM168, h⟩ := h
                            refine wm_ireturn d_MM_rule0_369 rfl rfl ?_
                            exact ⟨_, rfl, h⟩
                          clear h
                          refine wm_icmp_eq (tgt := 357) d_MM_rule0_342 rfl hi_l2 ⟨by decide, by decide⟩ (fun c159 => ?_) (fun c159 => ?_)
                          · refine wm_iconst d_MM_rule0_357 ?_
                            refine wm_goto (tgt := 362) d_MM_rule0_358 rfl ?_
                            refine wm_less (L' := [vd, vd, vd]) ⟨Or.inl rfl, Or.inl rfl, Or.inl rfl, trivial⟩ ?_
                            exact hJ 1 (if_pos (Or.inl c159)).symm
                          · refine wm_iload_n d_MM_rule0_345 rfl rfl ?_
                            refine wm_bipush d_MM_rule0_346 (by decide) ?_
                            refine wm_icmp_eq (tgt := 357) d_MM_rule0_348 rfl hi_l2 ⟨by decide, by decide⟩ (fun c160 => ?_) (fun c160 => ?_)
                            · refine wm_iconst d_MM_rule0_357 ?_
                              refine wm_goto (tgt := 362) d_MM_rule0_358 rfl ?_
                              refine wm_less (L' := [vd, vd, vd]) ⟨Or.inl rfl, Or.inl rfl, Or.inl rfl, trivial⟩ ?_
                              exact hJ 1 (if_pos (Or.inr (Or.inl c160))).symm
                            · refine wm_iload_n d_MM_rule0_351 rfl rfl ?_
                              refine wm_bipush d_MM_rule0_352 (by decide) ?_
                              refine wm_icmp_ne (tgt := 361) d_MM_rule0_354 rfl hi_l2 ⟨by decide, by decide⟩ (fun c161 => ?_) (fun c161 => ?_)
                              · refine wm_iconst d_MM_rule0_361 ?_
                                refine wm_less (L' := [vd, vd, vd]) ⟨Or.inl rfl, Or.inl rfl, Or.inl rfl, trivial⟩ ?_
                                exact hJ 0 (if_neg (fun z171 => Or.elim z171 c159 (fun z172 => Or.elim z172 c160 c161))).symm
                              · replace c161 := Classical.not_not.mp c161
                                refine wm_iconst d_MM_rule0_357 ?_
                                refine wm_goto (tgt := 362) d_MM_rule0_358 rfl ?_
                                refine wm_less (L' := [vd, vd, vd]) ⟨Or.inl rfl, Or.inl rfl, Or.inl rfl, trivial⟩ ?_
                                exact hJ 1 (if_pos (Or.inr (Or.inr c161))).symm
                        · replace h := h.2 c158
                          by_cases c175 : l1 = 74
                          · replace h := h.1 c175
                            refine wm_tableIn (tgt := 370) (off := 369) d_MM_rule0_1 hi_l1 (by omega) (by omega) (by rw [c175]; rfl) rfl ?_
                            refine wm_aload_n d_MM_rule0_370 rfl rfl ?_
                            refine wm_iload_n d_MM_rule0_371 rfl rfl ?_
                            refine wm_bipush d_MM_rule0_372 (by decide) ?_
                            have hJ : ∀ v177 : Int, v177 = (if (l2 = 35) then 1 else 0) → mWm G y_MM_rule0 (d + 1) 382 [vd, vd, vd] [vi v177, vr a0] M (fun r9 M9 => ∃ x9, r9 = some (vi x9) ∧ Q x9 M9) := by
                              intro v177 e179
                              have h := h v177 e179
                              have h180 : i32 v177 := by rw [e179]; (repeat' split) <;> first | exact ⟨by decide, by decide⟩ | exact ⟨by decide, by decide⟩
                              have h181 : (v177 = 0 ∨ v177 = 1) := by rw [e179]; (repeat' split) <;> decide
                              obtain ⟨h182, h⟩ := h
                              refine wm_bipush d_MM_rule0_382 (by decide) ?_
                              refine wm_bipush d_MM_rule0_384 (by decide) ?_
                              refine cf_MM_247 rfl d_MM_rule0_386 h182 (Nat.le_of_ble_eq_true rfl) (Ci.mono h (fun x184 M183 h => ?_))
                              obtain ⟨h185, hOM183, h⟩ := h
                              refine wm_ireturn d_MM_rule0_389 rfl rfl ?_
                              exact ⟨_, rfl, h⟩
                            clear h
                            refine wm_icmp_ne (tgt := 381) d_MM_rule0_374 rfl hi_l2 ⟨by decide, by decide⟩ (fun c176 => ?_) (fun c176 => ?_)
                            · refine wm_iconst d_MM_rule0_381 ?_
                              refine wm_less (L' := [vd, vd, vd]) ⟨Or.inl rfl, Or.inl rfl, Or.inl rfl, trivial⟩ ?_
                              exact hJ 0 (if_neg c176).symm
                            · replace c176 := Classical.not_not.mp c176
                              refine wm_iconst d_MM_rule0_377 ?_
                              refine wm_goto (tgt := 382) d_MM_rule0_378 rfl ?_
                              refine wm_less (L' := [vd, vd, vd]) ⟨Or.inl rfl, Or.inl rfl, Or.inl rfl, trivial⟩ ?_
                              exact hJ 1 (if_pos c176).symm
                          · replace h := h.2 c175
                            by_cases c188 : l1 = 76
                            · replace h := h.1 c188
                              refine wm_tableIn (tgt := 390) (off := 389) d_MM_rule0_1 hi_l1 (by omega) (by omega) (by rw [c188]; rfl) rfl ?_
                              refine wm_iload_n d_MM_rule0_390 rfl rfl ?_
                              refine wm_bipush d_MM_rule0_391 (by decide) ?_
                              refine wm_icmp_ne (tgt := 407) d_MM_rule0_393 rfl hi_l2 ⟨by decide, by decide⟩ (fun c190 => ?_) (fun c190 => ?_)
                              · replace h := h.2 c190
                                refine wm_iconst d_MM_rule0_407 ?_
                                refine wm_less (L' := [vd, vd, vd]) ⟨Or.inl rfl, Or.inl rfl, Or.inl rfl, trivial⟩ ?_
                                exact h
                              · replace c190 := Classical.not_not.mp c190
                                replace h := h.1 c190
                                obtain ⟨h191, h⟩ := h
                                refine wm_aload_n d_MM_rule0_396 rfl rfl ?_
                                refine cf_MM_254 rfl d_MM_rule0_397 h191 (Nat.le_of_ble_eq_true rfl) (Ci.mono h (fun x193 M192 h => ?_))
                                obtain ⟨h194, hOM192, h⟩ := h
                                refine wm_if_eq (tgt := 407) d_MM_rule0_400 rfl h194 (fun c196 => ?_) (fun c196 => ?_)
                                · replace h := h.1 c196
                                  refine wm_iconst d_MM_rule0_407 ?_
                                  refine wm_less (L' := [vd, vd, vd]) ⟨Or.inl rfl, Or.inl rfl, Or.inl rfl, trivial⟩ ?_
                                  exact h
                                · replace h := h.2 c196
                                  refine wm_iconst d_MM_rule0_403 ?_
                                  refine wm_goto (tgt := 408) d_MM_rule0_404 rfl ?_
                                  refine wm_less (L' := [vd, vd, vd]) ⟨Or.inl rfl, Or.inl rfl, Or.inl rfl, trivial⟩ ?_
                                  exact h
                            · replace h := h.2 c188
                              refine wm_tableD (tgt := 409) (off := 408) d_MM_rule0_1 hi_l1 (if q8 : 61 ≤ l1 ∧ l1 ≤ 76 then Or.inr ⟨q8.1, q8.2, by
      have q9 : l1 = 73 ∨ l1 = 75 := by omega
      rcases q9 with q9 | q9 <;> (rw [q9]; rfl)⟩ else Or.inl (by omega)) rfl ?_
                              obtain ⟨h197, h⟩ := h
                              refine wm_aload_n d_MM_rule0_409 rfl rfl ?_
                              refine wm_iload_n d_MM_rule0_410 rfl rfl ?_
                              refine cf_MM_264 rfl d_MM_rule0_411 h197 (Nat.le_of_ble_eq_true rfl) (Ci.mono h (fun x199 M198 h => ?_))
                              obtain ⟨h200, hOM198, h⟩ := h
                              refine wm_ireturn d_MM_rule0_414 rfl rfl ?_
                              exact ⟨_, rfl, h⟩
theorem k_MM_rule0_114 {G : mG} {d : Nat} {k0 : Int} {M : mM} {Q : Int → mM → Prop} (hO : mOk M) (hi_k0 : i32 k0)
    (h : Q k0 M) :
    h_MM_rule0_114 G d k0 M Q := by
  unfold h_MM_rule0_114
  refine wm_ireturn d_MM_rule0_114 rfl rfl ?_
  exact ⟨_, rfl, h⟩
theorem k_MM_rule0_408 {G : mG} {d : Nat} {k0 : Int} {M : mM} {Q : Int → mM → Prop} (hO : mOk M) (hi_k0 : i32 k0)
    (h : Q k0 M) :
    h_MM_rule0_408 G d k0 M Q := by
  unfold h_MM_rule0_408
  refine wm_ireturn d_MM_rule0_408 rfl rfl ?_
  exact ⟨_, rfl, h⟩
theorem d_MM_ask_0 : decode y_MM_ask.2.1 0 = .ok (.aload_n 0, 1) := dc9_42 (by decide +kernel)
theorem d_MM_ask_1 : decode y_MM_ask.2.1 1 = .ok (.getfield 28, 3) := dc9_180 (by decide +kernel)
theorem d_MM_ask_4 : decode y_MM_ask.2.1 4 = .ok (.bipush 75, 2) := dc9_16 (by decide +kernel)
theorem d_MM_ask_6 : decode y_MM_ask.2.1 6 = .ok (.invokevirtual 152, 3) := dc9_182 (by decide +kernel)
theorem d_MM_ask_9 : decode y_MM_ask.2.1 9 = .ok (.aload_n 0, 1) := dc9_42 (by decide +kernel)
theorem d_MM_ask_10 : decode y_MM_ask.2.1 10 = .ok (.bipush 61, 2) := dc9_16 (by decide +kernel)
theorem d_MM_ask_12 : decode y_MM_ask.2.1 12 = .ok (.bipush 33, 2) := dc9_16 (by decide +kernel)
theorem d_MM_ask_14 : decode y_MM_ask.2.1 14 = .ok (.bipush 61, 2) := dc9_16 (by decide +kernel)
theorem d_MM_ask_16 : decode y_MM_ask.2.1 16 = .ok (.invokevirtual 244, 3) := dc9_182 (by decide +kernel)
theorem d_MM_ask_19 : decode y_MM_ask.2.1 19 = .ok (.aload_n 0, 1) := dc9_42 (by decide +kernel)
theorem d_MM_ask_20 : decode y_MM_ask.2.1 20 = .ok (.invokevirtual 254, 3) := dc9_182 (by decide +kernel)
theorem d_MM_ask_23 : decode y_MM_ask.2.1 23 = .ok (.ifCond .eq 7, 3) := dc9_153 (by decide +kernel)
theorem d_MM_ask_30 : decode y_MM_ask.2.1 30 = .ok (.iconst (-1), 1) := dc9_2 (by decide +kernel)
theorem d_MM_ask_26 : decode y_MM_ask.2.1 26 = .ok (.iconst 1, 1) := dc9_4 (by decide +kernel)
theorem d_MM_ask_27 : decode y_MM_ask.2.1 27 = .ok (.goto 4, 3) := dc9_167 (by decide +kernel)
theorem d_MM_ask_31 : decode y_MM_ask.2.1 31 = .ok (.ireturn, 1) := dc9_172 (by decide +kernel)
theorem k_MM_ask {G : mG} {d : Nat} {a0 : Nat} {M : mM} {Q : Int → mM → Prop} (hO : mOk M)
    (h : mK M a0 = 14 ∧ mK M (mR M a0 6) = 15 ∧ Cv G y_MN_add d [vr (mR M a0 6), vi 75] M (fun M3 => mOk M3 ∧ (mK M3 a0 = 14 ∧ Cv G y_MM_want d [vr a0, vi 61, vi 33, vi 61] M3 (fun M7 => mOk M7 ∧ (mK M7 a0 = 14 ∧ Ci G y_MM_level d [vr a0] M7 (fun x12 M11 => i32 x12 ∧ mOk M11 ∧ (∀ v15 : Int, v15 = (if (x12 = 0) then (-1) else 1) → Q v15 M11))))))) :
    Ci G y_MM_ask (d + 1) [vr a0] M Q := by
  refine wm_open (y := y_MM_ask) rfl (Nat.le_of_ble_eq_true rfl) (L := [vr a0]) rfl ?_
  obtain ⟨h1, h⟩ := h
  obtain ⟨h2, h⟩ := h
  refine wm_aload_n d_MM_ask_0 rfl rfl ?_
  refine gf_MM_28 rfl d_MM_ask_1 h1 ?_
  refine wm_bipush d_MM_ask_4 (by decide) ?_
  refine cf_MM_152 rfl d_MM_ask_6 h2 (Nat.le_of_ble_eq_true rfl) (Cv.mono h (fun M3 h => ?_))
  obtain ⟨hOM3, h⟩ := h
  obtain ⟨h6, h⟩ := h
  refine wm_aload_n d_MM_ask_9 rfl rfl ?_
  refine wm_bipush d_MM_ask_10 (by decide) ?_
  refine wm_bipush d_MM_ask_12 (by decide) ?_
  refine wm_bipush d_MM_ask_14 (by decide) ?_
  refine cf_MM_244 rfl d_MM_ask_16 h6 (Nat.le_of_ble_eq_true rfl) (Cv.mono h (fun M7 h => ?_))
  obtain ⟨hOM7, h⟩ := h
  obtain ⟨h10, h⟩ := h
  refine wm_aload_n d_MM_ask_19 rfl rfl ?_
  refine cf_MM_254 rfl d_MM_ask_20 h10 (Nat.le_of_ble_eq_true rfl) (Ci.mono h (fun x12 M11 h => ?_))
  obtain ⟨h13, hOM11, h⟩ := h
  have hJ : ∀ v15 : Int, v15 = (if (x12 = 0) then (-1) else 1) → mWm G y_MM_ask (d + 1) 31 [vd] [vi v15] M11 (fun r9 M9 => ∃ x9, r9 = some (vi x9) ∧ Q x9 M9) := by
    intro v15 e17
    have h := h v15 e17
    have h18 : i32 v15 := by rw [e17]; (repeat' split) <;> first | exact ⟨by decide, by decide⟩ | exact ⟨by decide, by decide⟩
    refine wm_ireturn d_MM_ask_31 rfl rfl ?_
    exact ⟨_, rfl, h⟩
  clear h
  refine wm_if_eq (tgt := 30) d_MM_ask_23 rfl h13 (fun c14 => ?_) (fun c14 => ?_)
  · refine wm_iconst d_MM_ask_30 ?_
    refine wm_less (L' := [vd]) ⟨Or.inl rfl, trivial⟩ ?_
    exact hJ (-1) (if_pos c14).symm
  · refine wm_iconst d_MM_ask_26 ?_
    refine wm_goto (tgt := 31) d_MM_ask_27 rfl ?_
    refine wm_less (L' := [vd]) ⟨Or.inl rfl, trivial⟩ ?_
    exact hJ 1 (if_neg c14).symm
theorem d_MM_again_0 : decode y_MM_again.2.1 0 = .ok (.iload_n 1, 1) := dc9_27 (by decide +kernel)
theorem d_MM_again_1 : decode y_MM_again.2.1 1 = .ok (.ifCond .ne 5, 3) := dc9_154 (by decide +kernel)
theorem d_MM_again_4 : decode y_MM_again.2.1 4 = .ok (.iconst 0, 1) := dc9_3 (by decide +kernel)
theorem d_MM_again_5 : decode y_MM_again.2.1 5 = .ok (.ireturn, 1) := dc9_172 (by decide +kernel)
theorem d_MM_again_6 : decode y_MM_again.2.1 6 = .ok (.aload_n 0, 1) := dc9_42 (by decide +kernel)
theorem d_MM_again_7 : decode y_MM_again.2.1 7 = .ok (.getfield 28, 3) := dc9_180 (by decide +kernel)
theorem d_MM_again_10 : decode y_MM_again.2.1 10 = .ok (.iload_n 2, 1) := dc9_28 (by decide +kernel)
theorem d_MM_again_11 : decode y_MM_again.2.1 11 = .ok (.invokevirtual 152, 3) := dc9_182 (by decide +kernel)
theorem d_MM_again_14 : decode y_MM_again.2.1 14 = .ok (.aload_n 0, 1) := dc9_42 (by decide +kernel)
theorem d_MM_again_15 : decode y_MM_again.2.1 15 = .ok (.getfield 28, 3) := dc9_180 (by decide +kernel)
theorem d_MM_again_18 : decode y_MM_again.2.1 18 = .ok (.iload_n 3, 1) := dc9_29 (by decide +kernel)
theorem d_MM_again_19 : decode y_MM_again.2.1 19 = .ok (.invokevirtual 152, 3) := dc9_182 (by decide +kernel)
theorem d_MM_again_22 : decode y_MM_again.2.1 22 = .ok (.iconst 1, 1) := dc9_4 (by decide +kernel)
theorem d_MM_again_23 : decode y_MM_again.2.1 23 = .ok (.ireturn, 1) := dc9_172 (by decide +kernel)
theorem k_MM_again {G : mG} {d : Nat} {a0 : Nat} {l1 : Int} {l2 : Int} {l3 : Int} {M : mM} {Q : Int → mM → Prop} (hO : mOk M) (hi_l1 : i32 l1) (hi_l2 : i32 l2) (hi_l3 : i32 l3)
    (h : ((l1 = 0) → (Q 0 M)) ∧ (¬ (l1 = 0) → (mK M a0 = 14 ∧ mK M (mR M a0 6) = 15 ∧ Cv G y_MN_add d [vr (mR M a0 6), vi l2] M (fun M5 => mOk M5 ∧ (mK M5 a0 = 14 ∧ mK M5 (mR M5 a0 6) = 15 ∧ Cv G y_MN_add d [vr (mR M5 a0 6), vi l3] M5 (fun M10 => mOk M10 ∧ (Q 1 M10))))))) :
    Ci G y_MM_again (d + 1) [vr a0, vi l1, vi l2, vi l3] M Q := by
  refine wm_open (y := y_MM_again) rfl (Nat.le_of_ble_eq_true rfl) (L := [vr a0, vi l1, vi l2, vi l3]) rfl ?_
  refine wm_iload_n d_MM_again_0 rfl rfl ?_
  refine wm_if_ne (tgt := 6) d_MM_again_1 rfl hi_l1 (fun c2 => ?_) (fun c2 => ?_)
  · replace h := h.2 c2
    obtain ⟨h3, h⟩ := h
    obtain ⟨h4, h⟩ := h
    refine wm_aload_n d_MM_again_6 rfl rfl ?_
    refine gf_MM_28 rfl d_MM_again_7 h3 ?_
    refine wm_iload_n d_MM_again_10 rfl rfl ?_
    refine cf_MM_152 rfl d_MM_again_11 h4 (Nat.le_of_ble_eq_true rfl) (Cv.mono h (fun M5 h => ?_))
    obtain ⟨hOM5, h⟩ := h
    obtain ⟨h8, h⟩ := h
    obtain ⟨h9, h⟩ := h
    refine wm_aload_n d_MM_again_14 rfl rfl ?_
    refine gf_MM_28 rfl d_MM_again_15 h8 ?_
    refine wm_iload_n d_MM_again_18 rfl rfl ?_
    refine cf_MM_152 rfl d_MM_again_19 h9 (Nat.le_of_ble_eq_true rfl) (Cv.mono h (fun M10 h => ?_))
    obtain ⟨hOM10, h⟩ := h
    refine wm_iconst d_MM_again_22 ?_
    refine wm_ireturn d_MM_again_23 rfl rfl ?_
    exact ⟨_, rfl, h⟩
  · replace c2 := Classical.not_not.mp c2
    replace h := h.1 c2
    refine wm_iconst d_MM_again_4 ?_
    refine wm_ireturn d_MM_again_5 rfl rfl ?_
    exact ⟨_, rfl, h⟩
theorem d_MM_sign_0 : decode y_MM_sign.2.1 0 = .ok (.iload_n 1, 1) := dc9_27 (by decide +kernel)
theorem d_MM_sign_1 : decode y_MM_sign.2.1 1 = .ok (.lookupswitch 195 #[(1, 106), (2, 106), (12, 106), (13, 106), (14, 148), (15, 148), (25, 75), (36, 108)], 75) := by decide +kernel
theorem z_MM_sign_1_s : lkS #[(1, 106), (2, 106), (12, 106), (13, 106), (14, 148), (15, 148), (25, 75), (36, 108)] := by unfold lkS; decide
theorem d_MM_sign_107 : decode y_MM_sign.2.1 107 = .ok (.iconst 1, 1) := dc9_4 (by decide +kernel)
theorem d_MM_sign_108 : decode y_MM_sign.2.1 108 = .ok (.ireturn, 1) := dc9_172 (by decide +kernel)
theorem d_MM_sign_149 : decode y_MM_sign.2.1 149 = .ok (.aload_n 0, 1) := dc9_42 (by decide +kernel)
theorem d_MM_sign_150 : decode y_MM_sign.2.1 150 = .ok (.getfield 28, 3) := dc9_180 (by decide +kernel)
theorem d_MM_sign_153 : decode y_MM_sign.2.1 153 = .ok (.bipush 75, 2) := dc9_16 (by decide +kernel)
theorem d_MM_sign_155 : decode y_MM_sign.2.1 155 = .ok (.invokevirtual 152, 3) := dc9_182 (by decide +kernel)
theorem d_MM_sign_158 : decode y_MM_sign.2.1 158 = .ok (.aload_n 0, 1) := dc9_42 (by decide +kernel)
theorem d_MM_sign_159 : decode y_MM_sign.2.1 159 = .ok (.getfield 28, 3) := dc9_180 (by decide +kernel)
theorem d_MM_sign_162 : decode y_MM_sign.2.1 162 = .ok (.bipush 37, 2) := dc9_16 (by decide +kernel)
theorem d_MM_sign_164 : decode y_MM_sign.2.1 164 = .ok (.invokevirtual 152, 3) := dc9_182 (by decide +kernel)
theorem d_MM_sign_167 : decode y_MM_sign.2.1 167 = .ok (.aload_n 0, 1) := dc9_42 (by decide +kernel)
theorem d_MM_sign_168 : decode y_MM_sign.2.1 168 = .ok (.getfield 28, 3) := dc9_180 (by decide +kernel)
theorem d_MM_sign_171 : decode y_MM_sign.2.1 171 = .ok (.bipush 74, 2) := dc9_16 (by decide +kernel)
theorem d_MM_sign_173 : decode y_MM_sign.2.1 173 = .ok (.invokevirtual 152, 3) := dc9_182 (by decide +kernel)
theorem d_MM_sign_176 : decode y_MM_sign.2.1 176 = .ok (.aload_n 0, 1) := dc9_42 (by decide +kernel)
theorem d_MM_sign_177 : decode y_MM_sign.2.1 177 = .ok (.getfield 28, 3) := dc9_180 (by decide +kernel)
theorem d_MM_sign_180 : decode y_MM_sign.2.1 180 = .ok (.bipush 61, 2) := dc9_16 (by decide +kernel)
theorem d_MM_sign_182 : decode y_MM_sign.2.1 182 = .ok (.invokevirtual 152, 3) := dc9_182 (by decide +kernel)
theorem d_MM_sign_185 : decode y_MM_sign.2.1 185 = .ok (.aload_n 0, 1) := dc9_42 (by decide +kernel)
theorem d_MM_sign_186 : decode y_MM_sign.2.1 186 = .ok (.getfield 28, 3) := dc9_180 (by decide +kernel)
theorem d_MM_sign_189 : decode y_MM_sign.2.1 189 = .ok (.bipush 76, 2) := dc9_16 (by decide +kernel)
theorem d_MM_sign_191 : decode y_MM_sign.2.1 191 = .ok (.invokevirtual 152, 3) := dc9_182 (by decide +kernel)
theorem d_MM_sign_194 : decode y_MM_sign.2.1 194 = .ok (.iconst 1, 1) := dc9_4 (by decide +kernel)
theorem d_MM_sign_195 : decode y_MM_sign.2.1 195 = .ok (.ireturn, 1) := dc9_172 (by decide +kernel)
theorem d_MM_sign_76 : decode y_MM_sign.2.1 76 = .ok (.aload_n 0, 1) := dc9_42 (by decide +kernel)
theorem d_MM_sign_77 : decode y_MM_sign.2.1 77 = .ok (.getfield 28, 3) := dc9_180 (by decide +kernel)
theorem d_MM_sign_80 : decode y_MM_sign.2.1 80 = .ok (.bipush 75, 2) := dc9_16 (by decide +kernel)
theorem d_MM_sign_82 : decode y_MM_sign.2.1 82 = .ok (.invokevirtual 152, 3) := dc9_182 (by decide +kernel)
theorem d_MM_sign_85 : decode y_MM_sign.2.1 85 = .ok (.aload_n 0, 1) := dc9_42 (by decide +kernel)
theorem d_MM_sign_86 : decode y_MM_sign.2.1 86 = .ok (.getfield 28, 3) := dc9_180 (by decide +kernel)
theorem d_MM_sign_89 : decode y_MM_sign.2.1 89 = .ok (.bipush 73, 2) := dc9_16 (by decide +kernel)
theorem d_MM_sign_91 : decode y_MM_sign.2.1 91 = .ok (.invokevirtual 152, 3) := dc9_182 (by decide +kernel)
theorem d_MM_sign_94 : decode y_MM_sign.2.1 94 = .ok (.aload_n 0, 1) := dc9_42 (by decide +kernel)
theorem d_MM_sign_95 : decode y_MM_sign.2.1 95 = .ok (.invokevirtual 254, 3) := dc9_182 (by decide +kernel)
theorem d_MM_sign_98 : decode y_MM_sign.2.1 98 = .ok (.ifCond .eq 7, 3) := dc9_153 (by decide +kernel)
theorem d_MM_sign_105 : decode y_MM_sign.2.1 105 = .ok (.iconst (-1), 1) := dc9_2 (by decide +kernel)
theorem d_MM_sign_101 : decode y_MM_sign.2.1 101 = .ok (.iconst 1, 1) := dc9_4 (by decide +kernel)
theorem d_MM_sign_102 : decode y_MM_sign.2.1 102 = .ok (.goto 4, 3) := dc9_167 (by decide +kernel)
theorem d_MM_sign_106 : decode y_MM_sign.2.1 106 = .ok (.ireturn, 1) := dc9_172 (by decide +kernel)
theorem d_MM_sign_109 : decode y_MM_sign.2.1 109 = .ok (.aload_n 0, 1) := dc9_42 (by decide +kernel)
theorem d_MM_sign_110 : decode y_MM_sign.2.1 110 = .ok (.getfield 28, 3) := dc9_180 (by decide +kernel)
theorem d_MM_sign_113 : decode y_MM_sign.2.1 113 = .ok (.bipush 75, 2) := dc9_16 (by decide +kernel)
theorem d_MM_sign_115 : decode y_MM_sign.2.1 115 = .ok (.invokevirtual 152, 3) := dc9_182 (by decide +kernel)
theorem d_MM_sign_118 : decode y_MM_sign.2.1 118 = .ok (.aload_n 0, 1) := dc9_42 (by decide +kernel)
theorem d_MM_sign_119 : decode y_MM_sign.2.1 119 = .ok (.getfield 28, 3) := dc9_180 (by decide +kernel)
theorem d_MM_sign_122 : decode y_MM_sign.2.1 122 = .ok (.bipush 37, 2) := dc9_16 (by decide +kernel)
theorem d_MM_sign_124 : decode y_MM_sign.2.1 124 = .ok (.invokevirtual 152, 3) := dc9_182 (by decide +kernel)
theorem d_MM_sign_127 : decode y_MM_sign.2.1 127 = .ok (.aload_n 0, 1) := dc9_42 (by decide +kernel)
theorem d_MM_sign_128 : decode y_MM_sign.2.1 128 = .ok (.getfield 28, 3) := dc9_180 (by decide +kernel)
theorem d_MM_sign_131 : decode y_MM_sign.2.1 131 = .ok (.bipush 61, 2) := dc9_16 (by decide +kernel)
theorem d_MM_sign_133 : decode y_MM_sign.2.1 133 = .ok (.invokevirtual 152, 3) := dc9_182 (by decide +kernel)
theorem d_MM_sign_136 : decode y_MM_sign.2.1 136 = .ok (.aload_n 0, 1) := dc9_42 (by decide +kernel)
theorem d_MM_sign_137 : decode y_MM_sign.2.1 137 = .ok (.invokevirtual 254, 3) := dc9_182 (by decide +kernel)
theorem d_MM_sign_140 : decode y_MM_sign.2.1 140 = .ok (.ifCond .eq 7, 3) := dc9_153 (by decide +kernel)
theorem d_MM_sign_147 : decode y_MM_sign.2.1 147 = .ok (.iconst (-1), 1) := dc9_2 (by decide +kernel)
theorem d_MM_sign_143 : decode y_MM_sign.2.1 143 = .ok (.iconst 1, 1) := dc9_4 (by decide +kernel)
theorem d_MM_sign_144 : decode y_MM_sign.2.1 144 = .ok (.goto 4, 3) := dc9_167 (by decide +kernel)
theorem d_MM_sign_148 : decode y_MM_sign.2.1 148 = .ok (.ireturn, 1) := dc9_172 (by decide +kernel)
theorem d_MM_sign_196 : decode y_MM_sign.2.1 196 = .ok (.iconst (-1), 1) := dc9_2 (by decide +kernel)
theorem d_MM_sign_197 : decode y_MM_sign.2.1 197 = .ok (.ireturn, 1) := dc9_172 (by decide +kernel)
theorem k_MM_sign {G : mG} {d : Nat} {a0 : Nat} {l1 : Int} {M : mM} {Q : Int → mM → Prop} (hO : mOk M) (hi_l1 : i32 l1)
    (h : ((l1 = 1 ∨ l1 = 2 ∨ l1 = 12 ∨ l1 = 13) → (Q 1 M)) ∧ (¬ (l1 = 1 ∨ l1 = 2 ∨ l1 = 12 ∨ l1 = 13) → (((l1 = 14 ∨ l1 = 15) → (mK M a0 = 14 ∧ mK M (mR M a0 6) = 15 ∧ Cv G y_MN_add d [vr (mR M a0 6), vi 75] M (fun M5 => mOk M5 ∧ (mK M5 a0 = 14 ∧ mK M5 (mR M5 a0 6) = 15 ∧ Cv G y_MN_add d [vr (mR M5 a0 6), vi 37] M5 (fun M10 => mOk M10 ∧ (mK M10 a0 = 14 ∧ mK M10 (mR M10 a0 6) = 15 ∧ Cv G y_MN_add d [vr (mR M10 a0 6), vi 74] M10 (fun M15 => mOk M15 ∧ (mK M15 a0 = 14 ∧ mK M15 (mR M15 a0 6) = 15 ∧ Cv G y_MN_add d [vr (mR M15 a0 6), vi 61] M15 (fun M20 => mOk M20 ∧ (mK M20 a0 = 14 ∧ mK M20 (mR M20 a0 6) = 15 ∧ Cv G y_MN_add d [vr (mR M20 a0 6), vi 76] M20 (fun M25 => mOk M25 ∧ (Q 1 M25)))))))))))) ∧ (¬ (l1 = 14 ∨ l1 = 15) → (((l1 = 25) → (mK M a0 = 14 ∧ mK M (mR M a0 6) = 15 ∧ Cv G y_MN_add d [vr (mR M a0 6), vi 75] M (fun M31 => mOk M31 ∧ (mK M31 a0 = 14 ∧ mK M31 (mR M31 a0 6) = 15 ∧ Cv G y_MN_add d [vr (mR M31 a0 6), vi 73] M31 (fun M36 => mOk M36 ∧ (mK M36 a0 = 14 ∧ Ci G y_MM_level d [vr a0] M36 (fun x41 M40 => i32 x41 ∧ mOk M40 ∧ (∀ v44 : Int, v44 = (if (x41 = 0) then (-1) else 1) → Q v44 M40)))))))) ∧ (¬ (l1 = 25) → (((l1 = 36) → (mK M a0 = 14 ∧ mK M (mR M a0 6) = 15 ∧ Cv G y_MN_add d [vr (mR M a0 6), vi 75] M (fun M52 => mOk M52 ∧ (mK M52 a0 = 14 ∧ mK M52 (mR M52 a0 6) = 15 ∧ Cv G y_MN_add d [vr (mR M52 a0 6), vi 37] M52 (fun M57 => mOk M57 ∧ (mK M57 a0 = 14 ∧ mK M57 (mR M57 a0 6) = 15 ∧ Cv G y_MN_add d [vr (mR M57 a0 6), vi 61] M57 (fun M62 => mOk M62 ∧ (mK M62 a0 = 14 ∧ Ci G y_MM_level d [vr a0] M62 (fun x67 M66 => i32 x67 ∧ mOk M66 ∧ (∀ v70 : Int, v70 = (if (x67 = 0) then (-1) else 1) → Q v70 M66)))))))))) ∧ (¬ (l1 = 36) → (Q (-1) M))))))))) :
    Ci G y_MM_sign (d + 1) [vr a0, vi l1] M Q := by
  refine wm_open (y := y_MM_sign) rfl (Nat.le_of_ble_eq_true rfl) (L := [vr a0, vi l1]) rfl ?_
  refine wm_iload_n d_MM_sign_0 rfl rfl ?_
  by_cases c1 : l1 = 1 ∨ l1 = 2 ∨ l1 = 12 ∨ l1 = 13
  · replace h := h.1 c1
    refine wm_lookup (tgt := 107) (off := 106) d_MM_sign_1 z_MM_sign_1_s hi_l1 (by rcases c1 with q9 | q9 | q9 | q9 <;> (rw [q9]; rfl)) rfl ?_
    refine wm_iconst d_MM_sign_107 ?_
    refine wm_ireturn d_MM_sign_108 rfl rfl ?_
    exact ⟨_, rfl, h⟩
  · replace h := h.2 c1
    by_cases c2 : l1 = 14 ∨ l1 = 15
    · replace h := h.1 c2
      refine wm_lookup (tgt := 149) (off := 148) d_MM_sign_1 z_MM_sign_1_s hi_l1 (by rcases c2 with q9 | q9 <;> (rw [q9]; rfl)) rfl ?_
      obtain ⟨h3, h⟩ := h
      obtain ⟨h4, h⟩ := h
      refine wm_aload_n d_MM_sign_149 rfl rfl ?_
      refine gf_MM_28 rfl d_MM_sign_150 h3 ?_
      refine wm_bipush d_MM_sign_153 (by decide) ?_
      refine cf_MM_152 rfl d_MM_sign_155 h4 (Nat.le_of_ble_eq_true rfl) (Cv.mono h (fun M5 h => ?_))
      obtain ⟨hOM5, h⟩ := h
      obtain ⟨h8, h⟩ := h
      obtain ⟨h9, h⟩ := h
      refine wm_aload_n d_MM_sign_158 rfl rfl ?_
      refine gf_MM_28 rfl d_MM_sign_159 h8 ?_
      refine wm_bipush d_MM_sign_162 (by decide) ?_
      refine cf_MM_152 rfl d_MM_sign_164 h9 (Nat.le_of_ble_eq_true rfl) (Cv.mono h (fun M10 h => ?_))
      obtain ⟨hOM10, h⟩ := h
      obtain ⟨h13, h⟩ := h
      obtain ⟨h14, h⟩ := h
      refine wm_aload_n d_MM_sign_167 rfl rfl ?_
      refine gf_MM_28 rfl d_MM_sign_168 h13 ?_
      refine wm_bipush d_MM_sign_171 (by decide) ?_
      refine cf_MM_152 rfl d_MM_sign_173 h14 (Nat.le_of_ble_eq_true rfl) (Cv.mono h (fun M15 h => ?_))
      obtain ⟨hOM15, h⟩ := h
      obtain ⟨h18, h⟩ := h
      obtain ⟨h19, h⟩ := h
      refine wm_aload_n d_MM_sign_176 rfl rfl ?_
      refine gf_MM_28 rfl d_MM_sign_177 h18 ?_
      refine wm_bipush d_MM_sign_180 (by decide) ?_
      refine cf_MM_152 rfl d_MM_sign_182 h19 (Nat.le_of_ble_eq_true rfl) (Cv.mono h (fun M20 h => ?_))
      obtain ⟨hOM20, h⟩ := h
      obtain ⟨h23, h⟩ := h
      obtain ⟨h24, h⟩ := h
      refine wm_aload_n d_MM_sign_185 rfl rfl ?_
      refine gf_MM_28 rfl d_MM_sign_186 h23 ?_
      refine wm_bipush d_MM_sign_189 (by decide) ?_
      refine cf_MM_152 rfl d_MM_sign_191 h24 (Nat.le_of_ble_eq_true rfl) (Cv.mono h (fun M25 h => ?_))
      obtain ⟨hOM25, h⟩ := h
      refine wm_iconst d_MM_sign_194 ?_
      refine wm_ireturn d_MM_sign_195 rfl rfl ?_
      exact ⟨_, rfl, h⟩
    · replace h := h.2 c2
      by_cases c28 : l1 = 25
      · replace h := h.1 c28
        refine wm_lookup (tgt := 76) (off := 75) d_MM_sign_1 z_MM_sign_1_s hi_l1 (by rw [c28]; rfl) rfl ?_
        obtain ⟨h29, h⟩ := h
        obtain ⟨h30, h⟩ := h
        refine wm_aload_n d_MM_sign_76 rfl rfl ?_
        refine gf_MM_28 rfl d_MM_sign_77 h29 ?_
        refine wm_bipush d_MM_sign_80 (by decide) ?_
        refine cf_MM_152 rfl d_MM_sign_82 h30 (Nat.le_of_ble_eq_true rfl) (Cv.mono h (fun M31 h => ?_))
        obtain ⟨hOM31, h⟩ := h
        obtain ⟨h34, h⟩ := h
        obtain ⟨h35, h⟩ := h
        refine wm_aload_n d_MM_sign_85 rfl rfl ?_
        refine gf_MM_28 rfl d_MM_sign_86 h34 ?_
        refine wm_bipush d_MM_sign_89 (by decide) ?_
        refine cf_MM_152 rfl d_MM_sign_91 h35 (Nat.le_of_ble_eq_true rfl) (Cv.mono h (fun M36 h => ?_))
        obtain ⟨hOM36, h⟩ := h
        obtain ⟨h39, h⟩ := h
        refine wm_aload_n d_MM_sign_94 rfl rfl ?_
        refine cf_MM_254 rfl d_MM_sign_95 h39 (Nat.le_of_ble_eq_true rfl) (Ci.mono h (fun x41 M40 h => ?_))
        obtain ⟨h42, hOM40, h⟩ := h
        have hJ : ∀ v44 : Int, v44 = (if (x41 = 0) then (-1) else 1) → mWm G y_MM_sign (d + 1) 106 [vd, vd] [vi v44] M40 (fun r9 M9 => ∃ x9, r9 = some (vi x9) ∧ Q x9 M9) := by
          intro v44 e46
          have h := h v44 e46
          have h47 : i32 v44 := by rw [e46]; (repeat' split) <;> first | exact ⟨by decide, by decide⟩ | exact ⟨by decide, by decide⟩
          refine wm_ireturn d_MM_sign_106 rfl rfl ?_
          exact ⟨_, rfl, h⟩
        clear h
        refine wm_if_eq (tgt := 105) d_MM_sign_98 rfl h42 (fun c43 => ?_) (fun c43 => ?_)
        · refine wm_iconst d_MM_sign_105 ?_
          refine wm_less (L' := [vd, vd]) ⟨Or.inl rfl, Or.inl rfl, trivial⟩ ?_
          exact hJ (-1) (if_pos c43).symm
        · refine wm_iconst d_MM_sign_101 ?_
          refine wm_goto (tgt := 106) d_MM_sign_102 rfl ?_
          refine wm_less (L' := [vd, vd]) ⟨Or.inl rfl, Or.inl rfl, trivial⟩ ?_
          exact hJ 1 (if_neg c43).symm
      · replace h := h.2 c28
        by_cases c49 : l1 = 36
        · replace h := h.1 c49
          refine wm_lookup (tgt := 109) (off := 108) d_MM_sign_1 z_MM_sign_1_s hi_l1 (by rw [c49]; rfl) rfl ?_
          obtain ⟨h50, h⟩ := h
          obtain ⟨h51, h⟩ := h
          refine wm_aload_n d_MM_sign_109 rfl rfl ?_
          refine gf_MM_28 rfl d_MM_sign_110 h50 ?_
          refine wm_bipush d_MM_sign_113 (by decide) ?_
          refine cf_MM_152 rfl d_MM_sign_115 h51 (Nat.le_of_ble_eq_true rfl) (Cv.mono h (fun M52 h => ?_))
          obtain ⟨hOM52, h⟩ := h
          obtain ⟨h55, h⟩ := h
          obtain ⟨h56, h⟩ := h
          refine wm_aload_n d_MM_sign_118 rfl rfl ?_
          refine gf_MM_28 rfl d_MM_sign_119 h55 ?_
          refine wm_bipush d_MM_sign_122 (by decide) ?_
          refine cf_MM_152 rfl d_MM_sign_124 h56 (Nat.le_of_ble_eq_true rfl) (Cv.mono h (fun M57 h => ?_))
          obtain ⟨hOM57, h⟩ := h
          obtain ⟨h60, h⟩ := h
          obtain ⟨h61, h⟩ := h
          refine wm_aload_n d_MM_sign_127 rfl rfl ?_
          refine gf_MM_28 rfl d_MM_sign_128 h60 ?_
          refine wm_bipush d_MM_sign_131 (by decide) ?_
          refine cf_MM_152 rfl d_MM_sign_133 h61 (Nat.le_of_ble_eq_true rfl) (Cv.mono h (fun M62 h => ?_))
          obtain ⟨hOM62, h⟩ := h
          obtain ⟨h65, h⟩ := h
          refine wm_aload_n d_MM_sign_136 rfl rfl ?_
          refine cf_MM_254 rfl d_MM_sign_137 h65 (Nat.le_of_ble_eq_true rfl) (Ci.mono h (fun x67 M66 h => ?_))
          obtain ⟨h68, hOM66, h⟩ := h
          have hJ : ∀ v70 : Int, v70 = (if (x67 = 0) then (-1) else 1) → mWm G y_MM_sign (d + 1) 148 [vd, vd] [vi v70] M66 (fun r9 M9 => ∃ x9, r9 = some (vi x9) ∧ Q x9 M9) := by
            intro v70 e72
            have h := h v70 e72
            have h73 : i32 v70 := by rw [e72]; (repeat' split) <;> first | exact ⟨by decide, by decide⟩ | exact ⟨by decide, by decide⟩
            refine wm_ireturn d_MM_sign_148 rfl rfl ?_
            exact ⟨_, rfl, h⟩
          clear h
          refine wm_if_eq (tgt := 147) d_MM_sign_140 rfl h68 (fun c69 => ?_) (fun c69 => ?_)
          · refine wm_iconst d_MM_sign_147 ?_
            refine wm_less (L' := [vd, vd]) ⟨Or.inl rfl, Or.inl rfl, trivial⟩ ?_
            exact hJ (-1) (if_pos c69).symm
          · refine wm_iconst d_MM_sign_143 ?_
            refine wm_goto (tgt := 148) d_MM_sign_144 rfl ?_
            refine wm_less (L' := [vd, vd]) ⟨Or.inl rfl, Or.inl rfl, trivial⟩ ?_
            exact hJ 1 (if_neg c69).symm
        · replace h := h.2 c49
          refine wm_lookup (tgt := 196) (off := 195) d_MM_sign_1 z_MM_sign_1_s hi_l1 (by simp [Op.lookupswitch.offset]; repeat rw [if_neg (by omega)]) rfl ?_
          refine wm_iconst d_MM_sign_196 ?_
          refine wm_ireturn d_MM_sign_197 rfl rfl ?_
          exact ⟨_, rfl, h⟩
theorem d_MM_stop_0 : decode y_MM_stop.2.1 0 = .ok (.aload_n 0, 1) := dc9_42 (by decide +kernel)
theorem d_MM_stop_1 : decode y_MM_stop.2.1 1 = .ok (.iload_n 1, 1) := dc9_27 (by decide +kernel)
theorem d_MM_stop_2 : decode y_MM_stop.2.1 2 = .ok (.putfield 267, 3) := dc9_181 (by decide +kernel)
theorem d_MM_stop_5 : decode y_MM_stop.2.1 5 = .ok (.aload_n 0, 1) := dc9_42 (by decide +kernel)
theorem d_MM_stop_6 : decode y_MM_stop.2.1 6 = .ok (.iload_n 2, 1) := dc9_28 (by decide +kernel)
theorem d_MM_stop_7 : decode y_MM_stop.2.1 7 = .ok (.putfield 270, 3) := dc9_181 (by decide +kernel)
theorem d_MM_stop_10 : decode y_MM_stop.2.1 10 = .ok (.return_, 1) := dc9_177 (by decide +kernel)
theorem k_MM_stop {G : mG} {d : Nat} {a0 : Nat} {l1 : Int} {l2 : Int} {M : mM} {Q : mM → Prop} (hO : mOk M) (hi_l1 : i32 l1) (hi_l2 : i32 l2)
    (h : mK M a0 = 14 ∧ ∀ M2, M2 = mUI M a0 16 l1 → ∀ M4, M4 = mUI M2 a0 17 l2 → Q M4) :
    Cv G y_MM_stop d [vr a0, vi l1, vi l2] M Q := by
  refine wm_open (y := y_MM_stop) rfl (Nat.le_of_ble_eq_true rfl) (L := [vr a0, vi l1, vi l2]) rfl ?_
  obtain ⟨h1, h⟩ := h
  obtain ⟨M2, e3⟩ : ∃ M2, M2 = mUI M a0 16 l1 := ⟨_, rfl⟩
  replace h := h M2 e3
  obtain ⟨M4, e5⟩ : ∃ M4, M4 = mUI M2 a0 17 l2 := ⟨_, rfl⟩
  replace h := h M4 e5
  refine wm_aload_n d_MM_stop_0 rfl rfl ?_
  refine wm_iload_n d_MM_stop_1 rfl rfl ?_
  have hOM2 : mOk M2 := by rw [e3]; exact mOk_UI hO hi_l1
  refine pf_MM_267 rfl d_MM_stop_2 h1 hi_l1 e3 ?_
  refine wm_aload_n d_MM_stop_5 rfl rfl ?_
  refine wm_iload_n d_MM_stop_6 rfl rfl ?_
  have hOM4 : mOk M4 := by rw [e5]; exact mOk_UI hOM2 hi_l2
  refine pf_MM_270 rfl d_MM_stop_7 (by rw [e3]; exact h1) hi_l2 e5 ?_
  refine wm_return d_MM_stop_10 rfl ?_
  exact ⟨rfl, h⟩
theorem d_MM_word1_0 : decode y_MM_word1.2.1 0 = .ok (.aload_n 0, 1) := dc9_42 (by decide +kernel)
theorem d_MM_word1_1 : decode y_MM_word1.2.1 1 = .ok (.getfield 19, 3) := dc9_180 (by decide +kernel)
theorem d_MM_word1_4 : decode y_MM_word1.2.1 4 = .ok (.iload_n 1, 1) := dc9_27 (by decide +kernel)
theorem d_MM_word1_5 : decode y_MM_word1.2.1 5 = .ok (.invokevirtual 155, 3) := dc9_182 (by decide +kernel)
theorem d_MM_word1_8 : decode y_MM_word1.2.1 8 = .ok (.ireturn, 1) := dc9_172 (by decide +kernel)
theorem k_MM_word1 {G : mG} {d : Nat} {a0 : Nat} {l1 : Int} {M : mM} {Q : Int → mM → Prop} (hO : mOk M) (hi_l1 : i32 l1)
    (h : mK M a0 = 14 ∧ mK M (mR M a0 3) = 15 ∧ Ci G y_MN_at d [vr (mR M a0 3), vi l1] M (fun x4 M3 => i32 x4 ∧ mOk M3 ∧ (Q x4 M3))) :
    Ci G y_MM_word1 (d + 1) [vr a0, vi l1] M Q := by
  refine wm_open (y := y_MM_word1) rfl (Nat.le_of_ble_eq_true rfl) (L := [vr a0, vi l1]) rfl ?_
  obtain ⟨h1, h⟩ := h
  obtain ⟨h2, h⟩ := h
  refine wm_aload_n d_MM_word1_0 rfl rfl ?_
  refine gf_MM_19 rfl d_MM_word1_1 h1 ?_
  refine wm_iload_n d_MM_word1_4 rfl rfl ?_
  refine cf_MM_155 rfl d_MM_word1_5 h2 (Nat.le_of_ble_eq_true rfl) (Ci.mono h (fun x4 M3 h => ?_))
  obtain ⟨h5, hOM3, h⟩ := h
  refine wm_ireturn d_MM_word1_8 rfl rfl ?_
  exact ⟨_, rfl, h⟩
theorem d_MM_place0_0 : decode y_MM_place0.2.1 0 = .ok (.aload_n 0, 1) := dc9_42 (by decide +kernel)
theorem d_MM_place0_1 : decode y_MM_place0.2.1 1 = .ok (.getfield 22, 3) := dc9_180 (by decide +kernel)
theorem d_MM_place0_4 : decode y_MM_place0.2.1 4 = .ok (.iload_n 1, 1) := dc9_27 (by decide +kernel)
theorem d_MM_place0_5 : decode y_MM_place0.2.1 5 = .ok (.invokevirtual 155, 3) := dc9_182 (by decide +kernel)
theorem d_MM_place0_8 : decode y_MM_place0.2.1 8 = .ok (.ireturn, 1) := dc9_172 (by decide +kernel)
theorem k_MM_place0 {G : mG} {d : Nat} {a0 : Nat} {l1 : Int} {M : mM} {Q : Int → mM → Prop} (hO : mOk M) (hi_l1 : i32 l1)
    (h : mK M a0 = 14 ∧ mK M (mR M a0 4) = 15 ∧ Ci G y_MN_at d [vr (mR M a0 4), vi l1] M (fun x4 M3 => i32 x4 ∧ mOk M3 ∧ (Q x4 M3))) :
    Ci G y_MM_place0 (d + 1) [vr a0, vi l1] M Q := by
  refine wm_open (y := y_MM_place0) rfl (Nat.le_of_ble_eq_true rfl) (L := [vr a0, vi l1]) rfl ?_
  obtain ⟨h1, h⟩ := h
  obtain ⟨h2, h⟩ := h
  refine wm_aload_n d_MM_place0_0 rfl rfl ?_
  refine gf_MM_22 rfl d_MM_place0_1 h1 ?_
  refine wm_iload_n d_MM_place0_4 rfl rfl ?_
  refine cf_MM_155 rfl d_MM_place0_5 h2 (Nat.le_of_ble_eq_true rfl) (Ci.mono h (fun x4 M3 h => ?_))
  obtain ⟨h5, hOM3, h⟩ := h
  refine wm_ireturn d_MM_place0_8 rfl rfl ?_
  exact ⟨_, rfl, h⟩
theorem d_MM_node_0 : decode y_MM_node.2.1 0 = .ok (.aload_n 0, 1) := dc9_42 (by decide +kernel)
theorem d_MM_node_1 : decode y_MM_node.2.1 1 = .ok (.getfield 38, 3) := dc9_180 (by decide +kernel)
theorem d_MM_node_4 : decode y_MM_node.2.1 4 = .ok (.getfield 273, 3) := dc9_180 (by decide +kernel)
theorem d_MM_node_7 : decode y_MM_node.2.1 7 = .ok (.iload_n 1, 1) := dc9_27 (by decide +kernel)
theorem d_MM_node_8 : decode y_MM_node.2.1 8 = .ok (.invokevirtual 152, 3) := dc9_182 (by decide +kernel)
theorem d_MM_node_11 : decode y_MM_node.2.1 11 = .ok (.aload_n 0, 1) := dc9_42 (by decide +kernel)
theorem d_MM_node_12 : decode y_MM_node.2.1 12 = .ok (.getfield 38, 3) := dc9_180 (by decide +kernel)
theorem d_MM_node_15 : decode y_MM_node.2.1 15 = .ok (.getfield 276, 3) := dc9_180 (by decide +kernel)
theorem d_MM_node_18 : decode y_MM_node.2.1 18 = .ok (.aload_n 0, 1) := dc9_42 (by decide +kernel)
theorem d_MM_node_19 : decode y_MM_node.2.1 19 = .ok (.iload_n 2, 1) := dc9_28 (by decide +kernel)
theorem d_MM_node_20 : decode y_MM_node.2.1 20 = .ok (.invokevirtual 279, 3) := dc9_182 (by decide +kernel)
theorem d_MM_node_23 : decode y_MM_node.2.1 23 = .ok (.invokevirtual 152, 3) := dc9_182 (by decide +kernel)
theorem d_MM_node_26 : decode y_MM_node.2.1 26 = .ok (.aload_n 0, 1) := dc9_42 (by decide +kernel)
theorem d_MM_node_27 : decode y_MM_node.2.1 27 = .ok (.getfield 38, 3) := dc9_180 (by decide +kernel)
theorem d_MM_node_30 : decode y_MM_node.2.1 30 = .ok (.getfield 281, 3) := dc9_180 (by decide +kernel)
theorem d_MM_node_33 : decode y_MM_node.2.1 33 = .ok (.aload_n 0, 1) := dc9_42 (by decide +kernel)
theorem d_MM_node_34 : decode y_MM_node.2.1 34 = .ok (.iload_n 3, 1) := dc9_29 (by decide +kernel)
theorem d_MM_node_35 : decode y_MM_node.2.1 35 = .ok (.invokevirtual 279, 3) := dc9_182 (by decide +kernel)
theorem d_MM_node_38 : decode y_MM_node.2.1 38 = .ok (.invokevirtual 152, 3) := dc9_182 (by decide +kernel)
theorem d_MM_node_41 : decode y_MM_node.2.1 41 = .ok (.aload_n 0, 1) := dc9_42 (by decide +kernel)
theorem d_MM_node_42 : decode y_MM_node.2.1 42 = .ok (.getfield 38, 3) := dc9_180 (by decide +kernel)
theorem d_MM_node_45 : decode y_MM_node.2.1 45 = .ok (.getfield 284, 3) := dc9_180 (by decide +kernel)
theorem d_MM_node_48 : decode y_MM_node.2.1 48 = .ok (.iconst 0, 1) := dc9_3 (by decide +kernel)
theorem d_MM_node_49 : decode y_MM_node.2.1 49 = .ok (.invokevirtual 152, 3) := dc9_182 (by decide +kernel)
theorem d_MM_node_52 : decode y_MM_node.2.1 52 = .ok (.aload_n 0, 1) := dc9_42 (by decide +kernel)
theorem d_MM_node_53 : decode y_MM_node.2.1 53 = .ok (.getfield 38, 3) := dc9_180 (by decide +kernel)
theorem d_MM_node_56 : decode y_MM_node.2.1 56 = .ok (.getfield 287, 3) := dc9_180 (by decide +kernel)
theorem d_MM_node_59 : decode y_MM_node.2.1 59 = .ok (.iconst (-1), 1) := dc9_2 (by decide +kernel)
theorem d_MM_node_60 : decode y_MM_node.2.1 60 = .ok (.invokevirtual 152, 3) := dc9_182 (by decide +kernel)
theorem d_MM_node_63 : decode y_MM_node.2.1 63 = .ok (.aload_n 0, 1) := dc9_42 (by decide +kernel)
theorem d_MM_node_64 : decode y_MM_node.2.1 64 = .ok (.getfield 38, 3) := dc9_180 (by decide +kernel)
theorem d_MM_node_67 : decode y_MM_node.2.1 67 = .ok (.getfield 290, 3) := dc9_180 (by decide +kernel)
theorem d_MM_node_70 : decode y_MM_node.2.1 70 = .ok (.iconst (-1), 1) := dc9_2 (by decide +kernel)
theorem d_MM_node_71 : decode y_MM_node.2.1 71 = .ok (.invokevirtual 152, 3) := dc9_182 (by decide +kernel)
theorem d_MM_node_74 : decode y_MM_node.2.1 74 = .ok (.aload_n 0, 1) := dc9_42 (by decide +kernel)
theorem d_MM_node_75 : decode y_MM_node.2.1 75 = .ok (.getfield 38, 3) := dc9_180 (by decide +kernel)
theorem d_MM_node_78 : decode y_MM_node.2.1 78 = .ok (.getfield 273, 3) := dc9_180 (by decide +kernel)
theorem d_MM_node_81 : decode y_MM_node.2.1 81 = .ok (.getfield 145, 3) := dc9_180 (by decide +kernel)
theorem d_MM_node_84 : decode y_MM_node.2.1 84 = .ok (.iconst 1, 1) := dc9_4 (by decide +kernel)
theorem d_MM_node_85 : decode y_MM_node.2.1 85 = .ok (.isub, 1) := dc9_100 (by decide +kernel)
theorem d_MM_node_86 : decode y_MM_node.2.1 86 = .ok (.ireturn, 1) := dc9_172 (by decide +kernel)
theorem k_MM_node {G : mG} {d : Nat} {a0 : Nat} {l1 : Int} {l2 : Int} {l3 : Int} {M : mM} {Q : Int → mM → Prop} (hO : mOk M) (hi_l1 : i32 l1) (hi_l2 : i32 l2) (hi_l3 : i32 l3)
    (h : mK M a0 = 14 ∧ mK M (mR M a0 10) = 16 ∧ mK M (mR M (mR M a0 10) 0) = 15 ∧ Cv G y_MN_add d [vr (mR M (mR M a0 10) 0), vi l1] M (fun M4 => mOk M4 ∧ (mK M4 a0 = 14 ∧ mK M4 (mR M4 a0 10) = 16 ∧ Ci G y_MM_place0 d [vr a0, vi l2] M4 (fun x10 M9 => i32 x10 ∧ mOk M9 ∧ (mK M9 (mR M4 (mR M4 a0 10) 1) = 15 ∧ Cv G y_MN_add d [vr (mR M4 (mR M4 a0 10) 1), vi x10] M9 (fun M13 => mOk M13 ∧ (mK M13 a0 = 14 ∧ mK M13 (mR M13 a0 10) = 16 ∧ Ci G y_MM_place0 d [vr a0, vi l3] M13 (fun x19 M18 => i32 x19 ∧ mOk M18 ∧ (mK M18 (mR M13 (mR M13 a0 10) 2) = 15 ∧ Cv G y_MN_add d [vr (mR M13 (mR M13 a0 10) 2), vi x19] M18 (fun M22 => mOk M22 ∧ (mK M22 a0 = 14 ∧ mK M22 (mR M22 a0 10) = 16 ∧ mK M22 (mR M22 (mR M22 a0 10) 3) = 15 ∧ Cv G y_MN_add d [vr (mR M22 (mR M22 a0 10) 3), vi 0] M22 (fun M28 => mOk M28 ∧ (mK M28 a0 = 14 ∧ mK M28 (mR M28 a0 10) = 16 ∧ mK M28 (mR M28 (mR M28 a0 10) 4) = 15 ∧ Cv G y_MN_add d [vr (mR M28 (mR M28 a0 10) 4), vi (-1)] M28 (fun M34 => mOk M34 ∧ (mK M34 a0 = 14 ∧ mK M34 (mR M34 a0 10) = 16 ∧ mK M34 (mR M34 (mR M34 a0 10) 5) = 15 ∧ Cv G y_MN_add d [vr (mR M34 (mR M34 a0 10) 5), vi (-1)] M34 (fun M40 => mOk M40 ∧ (mK M40 a0 = 14 ∧ mK M40 (mR M40 a0 10) = 16 ∧ mK M40 (mR M40 (mR M40 a0 10) 0) = 15 ∧ Q ((mI M40 (mR M40 (mR M40 a0 10) 0) 1) - 1) M40))))))))))))))))) :
    Ci G y_MM_node (d + 1) [vr a0, vi l1, vi l2, vi l3] M Q := by
  refine wm_open (y := y_MM_node) rfl (Nat.le_of_ble_eq_true rfl) (L := [vr a0, vi l1, vi l2, vi l3]) rfl ?_
  obtain ⟨h1, h⟩ := h
  obtain ⟨h2, h⟩ := h
  obtain ⟨h3, h⟩ := h
  refine wm_aload_n d_MM_node_0 rfl rfl ?_
  refine gf_MM_38 rfl d_MM_node_1 h1 ?_
  refine gf_MM_273 rfl d_MM_node_4 h2 ?_
  refine wm_iload_n d_MM_node_7 rfl rfl ?_
  refine cf_MM_152 rfl d_MM_node_8 h3 (Nat.le_of_ble_eq_true rfl) (Cv.mono h (fun M4 h => ?_))
  obtain ⟨hOM4, h⟩ := h
  obtain ⟨h7, h⟩ := h
  obtain ⟨h8, h⟩ := h
  refine wm_aload_n d_MM_node_11 rfl rfl ?_
  refine gf_MM_38 rfl d_MM_node_12 h7 ?_
  refine gf_MM_276 rfl d_MM_node_15 h8 ?_
  refine wm_aload_n d_MM_node_18 rfl rfl ?_
  refine wm_iload_n d_MM_node_19 rfl rfl ?_
  refine cf_MM_279 rfl d_MM_node_20 h7 (Nat.le_of_ble_eq_true rfl) (Ci.mono h (fun x10 M9 h => ?_))
  obtain ⟨h11, hOM9, h⟩ := h
  obtain ⟨h12, h⟩ := h
  refine cf_MM_152 rfl d_MM_node_23 h12 (Nat.le_of_ble_eq_true rfl) (Cv.mono h (fun M13 h => ?_))
  obtain ⟨hOM13, h⟩ := h
  obtain ⟨h16, h⟩ := h
  obtain ⟨h17, h⟩ := h
  refine wm_aload_n d_MM_node_26 rfl rfl ?_
  refine gf_MM_38 rfl d_MM_node_27 h16 ?_
  refine gf_MM_281 rfl d_MM_node_30 h17 ?_
  refine wm_aload_n d_MM_node_33 rfl rfl ?_
  refine wm_iload_n d_MM_node_34 rfl rfl ?_
  refine cf_MM_279 rfl d_MM_node_35 h16 (Nat.le_of_ble_eq_true rfl) (Ci.mono h (fun x19 M18 h => ?_))
  obtain ⟨h20, hOM18, h⟩ := h
  obtain ⟨h21, h⟩ := h
  refine cf_MM_152 rfl d_MM_node_38 h21 (Nat.le_of_ble_eq_true rfl) (Cv.mono h (fun M22 h => ?_))
  obtain ⟨hOM22, h⟩ := h
  obtain ⟨h25, h⟩ := h
  obtain ⟨h26, h⟩ := h
  obtain ⟨h27, h⟩ := h
  refine wm_aload_n d_MM_node_41 rfl rfl ?_
  refine gf_MM_38 rfl d_MM_node_42 h25 ?_
  refine gf_MM_284 rfl d_MM_node_45 h26 ?_
  refine wm_iconst d_MM_node_48 ?_
  refine cf_MM_152 rfl d_MM_node_49 h27 (Nat.le_of_ble_eq_true rfl) (Cv.mono h (fun M28 h => ?_))
  obtain ⟨hOM28, h⟩ := h
  obtain ⟨h31, h⟩ := h
  obtain ⟨h32, h⟩ := h
  obtain ⟨h33, h⟩ := h
  refine wm_aload_n d_MM_node_52 rfl rfl ?_
  refine gf_MM_38 rfl d_MM_node_53 h31 ?_
  refine gf_MM_287 rfl d_MM_node_56 h32 ?_
  refine wm_iconst d_MM_node_59 ?_
  refine cf_MM_152 rfl d_MM_node_60 h33 (Nat.le_of_ble_eq_true rfl) (Cv.mono h (fun M34 h => ?_))
  obtain ⟨hOM34, h⟩ := h
  obtain ⟨h37, h⟩ := h
  obtain ⟨h38, h⟩ := h
  obtain ⟨h39, h⟩ := h
  refine wm_aload_n d_MM_node_63 rfl rfl ?_
  refine gf_MM_38 rfl d_MM_node_64 h37 ?_
  refine gf_MM_290 rfl d_MM_node_67 h38 ?_
  refine wm_iconst d_MM_node_70 ?_
  refine cf_MM_152 rfl d_MM_node_71 h39 (Nat.le_of_ble_eq_true rfl) (Cv.mono h (fun M40 h => ?_))
  obtain ⟨hOM40, h⟩ := h
  obtain ⟨h43, h⟩ := h
  obtain ⟨h44, h⟩ := h
  obtain ⟨h45, h⟩ := h
  refine wm_aload_n d_MM_node_74 rfl rfl ?_
  refine gf_MM_38 rfl d_MM_node_75 h43 ?_
  refine gf_MM_273 rfl d_MM_node_78 h44 ?_
  refine gf_MM_145 rfl d_MM_node_81 h45 ?_
  refine wm_iconst d_MM_node_84 ?_
  refine wm_isub d_MM_node_85 ?_
  refine wm_ireturn d_MM_node_86 rfl rfl ?_
  exact ⟨_, rfl, h⟩
theorem d_MM_join_0 : decode y_MM_join.2.1 0 = .ok (.iload_n 1, 1) := dc9_27 (by decide +kernel)
theorem d_MM_join_1 : decode y_MM_join.2.1 1 = .ok (.ifCond .ge 4, 3) := dc9_156 (by decide +kernel)
theorem d_MM_join_5 : decode y_MM_join.2.1 5 = .ok (.aload_n 0, 1) := dc9_42 (by decide +kernel)
theorem d_MM_join_6 : decode y_MM_join.2.1 6 = .ok (.getfield 38, 3) := dc9_180 (by decide +kernel)
theorem d_MM_join_9 : decode y_MM_join.2.1 9 = .ok (.getfield 287, 3) := dc9_180 (by decide +kernel)
theorem d_MM_join_12 : decode y_MM_join.2.1 12 = .ok (.iload_n 1, 1) := dc9_27 (by decide +kernel)
theorem d_MM_join_4 : decode y_MM_join.2.1 4 = .ok (.return_, 1) := dc9_177 (by decide +kernel)
theorem d_MM_join_13 : decode y_MM_join.2.1 13 = .ok (.invokevirtual 155, 3) := dc9_182 (by decide +kernel)
theorem d_MM_join_16 : decode y_MM_join.2.1 16 = .ok (.ifCond .ge 17, 3) := dc9_156 (by decide +kernel)
theorem d_MM_join_33 : decode y_MM_join.2.1 33 = .ok (.aload_n 0, 1) := dc9_42 (by decide +kernel)
theorem d_MM_join_34 : decode y_MM_join.2.1 34 = .ok (.getfield 38, 3) := dc9_180 (by decide +kernel)
theorem d_MM_join_37 : decode y_MM_join.2.1 37 = .ok (.getfield 287, 3) := dc9_180 (by decide +kernel)
theorem d_MM_join_40 : decode y_MM_join.2.1 40 = .ok (.iload_n 1, 1) := dc9_27 (by decide +kernel)
theorem d_MM_join_19 : decode y_MM_join.2.1 19 = .ok (.aload_n 0, 1) := dc9_42 (by decide +kernel)
theorem d_MM_join_20 : decode y_MM_join.2.1 20 = .ok (.getfield 38, 3) := dc9_180 (by decide +kernel)
theorem d_MM_join_23 : decode y_MM_join.2.1 23 = .ok (.getfield 287, 3) := dc9_180 (by decide +kernel)
theorem d_MM_join_26 : decode y_MM_join.2.1 26 = .ok (.getfield 293, 3) := dc9_180 (by decide +kernel)
theorem d_MM_join_29 : decode y_MM_join.2.1 29 = .ok (.iload_n 1, 1) := dc9_27 (by decide +kernel)
theorem d_MM_join_30 : decode y_MM_join.2.1 30 = .ok (.iload_n 2, 1) := dc9_28 (by decide +kernel)
theorem d_MM_join_31 : decode y_MM_join.2.1 31 = .ok (.iastore, 1) := dc9_79 (by decide +kernel)
theorem d_MM_join_32 : decode y_MM_join.2.1 32 = .ok (.return_, 1) := dc9_177 (by decide +kernel)
theorem d_MM_join_41 : decode y_MM_join.2.1 41 = .ok (.invokevirtual 155, 3) := dc9_182 (by decide +kernel)
theorem d_MM_join_44 : decode y_MM_join.2.1 44 = .ok (.istore_n 3, 1) := dc9_62 (by decide +kernel)
theorem d_MM_join_45 : decode y_MM_join.2.1 45 = .ok (.aload_n 0, 1) := dc9_42 (by decide +kernel)
theorem d_MM_join_46 : decode y_MM_join.2.1 46 = .ok (.getfield 38, 3) := dc9_180 (by decide +kernel)
theorem d_MM_join_49 : decode y_MM_join.2.1 49 = .ok (.getfield 290, 3) := dc9_180 (by decide +kernel)
theorem d_MM_join_52 : decode y_MM_join.2.1 52 = .ok (.iload_n 3, 1) := dc9_29 (by decide +kernel)
theorem d_MM_join_53 : decode y_MM_join.2.1 53 = .ok (.invokevirtual 155, 3) := dc9_182 (by decide +kernel)
theorem d_MM_join_56 : decode y_MM_join.2.1 56 = .ok (.ifCond .lt 18, 3) := dc9_155 (by decide +kernel)
theorem d_MM_join_74 : decode y_MM_join.2.1 74 = .ok (.aload_n 0, 1) := dc9_42 (by decide +kernel)
theorem d_MM_join_75 : decode y_MM_join.2.1 75 = .ok (.getfield 38, 3) := dc9_180 (by decide +kernel)
theorem d_MM_join_78 : decode y_MM_join.2.1 78 = .ok (.getfield 290, 3) := dc9_180 (by decide +kernel)
theorem d_MM_join_81 : decode y_MM_join.2.1 81 = .ok (.getfield 293, 3) := dc9_180 (by decide +kernel)
theorem d_MM_join_84 : decode y_MM_join.2.1 84 = .ok (.iload_n 3, 1) := dc9_29 (by decide +kernel)
theorem d_MM_join_85 : decode y_MM_join.2.1 85 = .ok (.iload_n 2, 1) := dc9_28 (by decide +kernel)
theorem d_MM_join_86 : decode y_MM_join.2.1 86 = .ok (.iastore, 1) := dc9_79 (by decide +kernel)
theorem d_MM_join_87 : decode y_MM_join.2.1 87 = .ok (.return_, 1) := dc9_177 (by decide +kernel)
theorem d_MM_join_59 : decode y_MM_join.2.1 59 = .ok (.aload_n 0, 1) := dc9_42 (by decide +kernel)
theorem d_MM_join_60 : decode y_MM_join.2.1 60 = .ok (.getfield 38, 3) := dc9_180 (by decide +kernel)
theorem d_MM_join_63 : decode y_MM_join.2.1 63 = .ok (.getfield 290, 3) := dc9_180 (by decide +kernel)
theorem d_MM_join_66 : decode y_MM_join.2.1 66 = .ok (.iload_n 3, 1) := dc9_29 (by decide +kernel)
theorem d_MM_join_67 : decode y_MM_join.2.1 67 = .ok (.invokevirtual 155, 3) := dc9_182 (by decide +kernel)
theorem d_MM_join_70 : decode y_MM_join.2.1 70 = .ok (.istore_n 3, 1) := dc9_62 (by decide +kernel)
theorem d_MM_join_71 : decode y_MM_join.2.1 71 = .ok (.goto (-26), 3) := dc9_167 (by decide +kernel)
def h_MM_join_45 (G : mG) (d : Nat) (a0 : Nat) (l2 : Int) (l3 : Int) (M : mM) (Q : mM → Prop) : Prop := mWm G y_MM_join (d + 1) 45 [vr a0, vd, vi l2, vi l3] [] M (fun r9 M9 => r9 = none ∧ Q M9)
theorem k_MM_join {G : mG} {d : Nat} {a0 : Nat} {l1 : Int} {l2 : Int} {M : mM} {Q : mM → Prop} (hO : mOk M) (hi_l1 : i32 l1) (hi_l2 : i32 l2)
    (h : ((0 ≤ l1) → (mK M a0 = 14 ∧ mK M (mR M a0 10) = 16 ∧ mK M (mR M (mR M a0 10) 4) = 15 ∧ Ci G y_MN_at d [vr (mR M (mR M a0 10) 4), vi l1] M (fun x7 M6 => i32 x7 ∧ mOk M6 ∧ (((0 ≤ x7) → (mK M6 a0 = 14 ∧ mK M6 (mR M6 a0 10) = 16 ∧ mK M6 (mR M6 (mR M6 a0 10) 4) = 15 ∧ Ci G y_MN_at d [vr (mR M6 (mR M6 a0 10) 4), vi l1] M6 (fun x20 M19 => i32 x20 ∧ mOk M19 ∧ (h_MM_join_45 G d a0 l2 x20 M19 Q)))) ∧ (¬ (0 ≤ x7) → (mK M6 a0 = 14 ∧ mK M6 (mR M6 a0 10) = 16 ∧ mK M6 (mR M6 (mR M6 a0 10) 4) = 15 ∧ mK M6 (mR M6 (mR M6 (mR M6 a0 10) 4) 0) = 30 ∧ ((0 : Int) ≤ l1 ∧ l1 < (mN M6 (mR M6 (mR M6 (mR M6 a0 10) 4) 0) : Int)) ∧ ∀ M27, M27 = mUI M6 (mR M6 (mR M6 (mR M6 a0 10) 4) 0) (Int.toNat l1) l2 → Q M27)))))) ∧ (¬ (0 ≤ l1) → (Q M))) :
    Cv G y_MM_join (d + 1) [vr a0, vi l1, vi l2] M Q := by
  refine wm_open (y := y_MM_join) rfl (Nat.le_of_ble_eq_true rfl) (L := [vr a0, vi l1, vi l2, vd]) rfl ?_
  refine wm_iload_n d_MM_join_0 rfl rfl ?_
  refine wm_if_ge (tgt := 5) d_MM_join_1 rfl hi_l1 (fun c2 => ?_) (fun c2 => ?_)
  · replace h := h.1 c2
    obtain ⟨h3, h⟩ := h
    obtain ⟨h4, h⟩ := h
    obtain ⟨h5, h⟩ := h
    refine wm_aload_n d_MM_join_5 rfl rfl ?_
    refine gf_MM_38 rfl d_MM_join_6 h3 ?_
    refine gf_MM_287 rfl d_MM_join_9 h4 ?_
    refine wm_iload_n d_MM_join_12 rfl rfl ?_
    refine cf_MM_155 rfl d_MM_join_13 h5 (Nat.le_of_ble_eq_true rfl) (Ci.mono h (fun x7 M6 h => ?_))
    obtain ⟨h8, hOM6, h⟩ := h
    refine wm_if_ge (tgt := 33) d_MM_join_16 rfl h8 (fun c15 => ?_) (fun c15 => ?_)
    · replace h := h.1 c15
      obtain ⟨h16, h⟩ := h
      obtain ⟨h17, h⟩ := h
      obtain ⟨h18, h⟩ := h
      refine wm_aload_n d_MM_join_33 rfl rfl ?_
      refine gf_MM_38 rfl d_MM_join_34 h16 ?_
      refine gf_MM_287 rfl d_MM_join_37 h17 ?_
      refine wm_iload_n d_MM_join_40 rfl rfl ?_
      refine cf_MM_155 rfl d_MM_join_41 h18 (Nat.le_of_ble_eq_true rfl) (Ci.mono h (fun x20 M19 h => ?_))
      obtain ⟨h21, hOM19, h⟩ := h
      refine wm_istore_n d_MM_join_44 rfl (by decide) (L' := [vr a0, vi l1, vi l2, vi x20]) rfl ?_
      refine wm_less (L' := [vr a0, vd, vi l2, vi x20]) ⟨Or.inr rfl, Or.inl rfl, Or.inr rfl, Or.inr rfl, trivial⟩ ?_
      exact h
    · replace h := h.2 c15
      obtain ⟨h22, h⟩ := h
      obtain ⟨h23, h⟩ := h
      obtain ⟨h24, h⟩ := h
      obtain ⟨h25, h⟩ := h
      obtain ⟨h26, h⟩ := h
      obtain ⟨M27, e28⟩ : ∃ M27, M27 = mUI M6 (mR M6 (mR M6 (mR M6 a0 10) 4) 0) (Int.toNat l1) l2 := ⟨_, rfl⟩
      replace h := h M27 e28
      refine wm_aload_n d_MM_join_19 rfl rfl ?_
      refine gf_MM_38 rfl d_MM_join_20 h22 ?_
      refine gf_MM_287 rfl d_MM_join_23 h23 ?_
      refine gf_MM_293 rfl d_MM_join_26 h24 ?_
      refine wm_iload_n d_MM_join_29 rfl rfl ?_
      refine wm_iload_n d_MM_join_30 rfl rfl ?_
      have hOM27 : mOk M27 := by rw [e28]; exact mOk_UI hOM6 hi_l2
      refine wm_iastE d_MM_join_31 h25 h26 hi_l2 e28 ?_
      refine wm_return d_MM_join_32 rfl ?_
      exact ⟨rfl, h⟩
  · replace h := h.2 c2
    refine wm_return d_MM_join_4 rfl ?_
    exact ⟨rfl, h⟩
theorem k_MM_join_45 {G : mG} {d : Nat} {a0 : Nat} {l2 : Int} {l3 : Int} {M : mM} {Q : mM → Prop} (hO : mOk M) (hi_l2 : i32 l2) (hi_l3 : i32 l3)
    (h : mK M a0 = 14 ∧ mK M (mR M a0 10) = 16 ∧ mK M (mR M (mR M a0 10) 5) = 15 ∧ Ci G y_MN_at d [vr (mR M (mR M a0 10) 5), vi l3] M (fun x33 M32 => i32 x33 ∧ mOk M32 ∧ (((x33 < 0) → (mK M32 a0 = 14 ∧ mK M32 (mR M32 a0 10) = 16 ∧ mK M32 (mR M32 (mR M32 a0 10) 5) = 15 ∧ mK M32 (mR M32 (mR M32 (mR M32 a0 10) 5) 0) = 30 ∧ ((0 : Int) ≤ l3 ∧ l3 < (mN M32 (mR M32 (mR M32 (mR M32 a0 10) 5) 0) : Int)) ∧ ∀ M47, M47 = mUI M32 (mR M32 (mR M32 (mR M32 a0 10) 5) 0) (Int.toNat l3) l2 → Q M47)) ∧ (¬ (x33 < 0) → (mK M32 a0 = 14 ∧ mK M32 (mR M32 a0 10) = 16 ∧ mK M32 (mR M32 (mR M32 a0 10) 5) = 15 ∧ Ci G y_MN_at d [vr (mR M32 (mR M32 a0 10) 5), vi l3] M32 (fun x53 M52 => i32 x53 ∧ mOk M52 ∧ (h_MM_join_45 G d a0 l2 x53 M52 Q))))))) :
    h_MM_join_45 G d a0 l2 l3 M Q := by
  unfold h_MM_join_45
  obtain ⟨h29, h⟩ := h
  obtain ⟨h30, h⟩ := h
  obtain ⟨h31, h⟩ := h
  refine wm_aload_n d_MM_join_45 rfl rfl ?_
  refine gf_MM_38 rfl d_MM_join_46 h29 ?_
  refine gf_MM_290 rfl d_MM_join_49 h30 ?_
  refine wm_iload_n d_MM_join_52 rfl rfl ?_
  refine cf_MM_155 rfl d_MM_join_53 h31 (Nat.le_of_ble_eq_true rfl) (Ci.mono h (fun x33 M32 h => ?_))
  obtain ⟨h34, hOM32, h⟩ := h
  refine wm_if_lt (tgt := 74) d_MM_join_56 rfl h34 (fun c41 => ?_) (fun c41 => ?_)
  · replace h := h.1 c41
    obtain ⟨h42, h⟩ := h
    obtain ⟨h43, h⟩ := h
    obtain ⟨h44, h⟩ := h
    obtain ⟨h45, h⟩ := h
    obtain ⟨h46, h⟩ := h
    obtain ⟨M47, e48⟩ : ∃ M47, M47 = mUI M32 (mR M32 (mR M32 (mR M32 a0 10) 5) 0) (Int.toNat l3) l2 := ⟨_, rfl⟩
    replace h := h M47 e48
    refine wm_aload_n d_MM_join_74 rfl rfl ?_
    refine gf_MM_38 rfl d_MM_join_75 h42 ?_
    refine gf_MM_290 rfl d_MM_join_78 h43 ?_
    refine gf_MM_293 rfl d_MM_join_81 h44 ?_
    refine wm_iload_n d_MM_join_84 rfl rfl ?_
    refine wm_iload_n d_MM_join_85 rfl rfl ?_
    have hOM47 : mOk M47 := by rw [e48]; exact mOk_UI hOM32 hi_l2
    refine wm_iastE d_MM_join_86 h45 h46 hi_l2 e48 ?_
    refine wm_return d_MM_join_87 rfl ?_
    exact ⟨rfl, h⟩
  · replace h := h.2 c41
    obtain ⟨h49, h⟩ := h
    obtain ⟨h50, h⟩ := h
    obtain ⟨h51, h⟩ := h
    refine wm_aload_n d_MM_join_59 rfl rfl ?_
    refine gf_MM_38 rfl d_MM_join_60 h49 ?_
    refine gf_MM_290 rfl d_MM_join_63 h50 ?_
    refine wm_iload_n d_MM_join_66 rfl rfl ?_
    refine cf_MM_155 rfl d_MM_join_67 h51 (Nat.le_of_ble_eq_true rfl) (Ci.mono h (fun x53 M52 h => ?_))
    obtain ⟨h54, hOM52, h⟩ := h
    refine wm_istore_n d_MM_join_70 rfl (by decide) (L' := [vr a0, vd, vi l2, vi x53]) rfl ?_
    refine wm_goto (tgt := 45) d_MM_join_71 rfl ?_
    exact h
theorem d_MM_job_0 : decode y_MM_job.2.1 0 = .ok (.aload_n 0, 1) := dc9_42 (by decide +kernel)
theorem d_MM_job_1 : decode y_MM_job.2.1 1 = .ok (.getfield 54, 3) := dc9_180 (by decide +kernel)
theorem d_MM_job_4 : decode y_MM_job.2.1 4 = .ok (.iload_n 1, 1) := dc9_27 (by decide +kernel)
theorem d_MM_job_5 : decode y_MM_job.2.1 5 = .ok (.invokevirtual 152, 3) := dc9_182 (by decide +kernel)
theorem d_MM_job_8 : decode y_MM_job.2.1 8 = .ok (.aload_n 0, 1) := dc9_42 (by decide +kernel)
theorem d_MM_job_9 : decode y_MM_job.2.1 9 = .ok (.getfield 54, 3) := dc9_180 (by decide +kernel)
theorem d_MM_job_12 : decode y_MM_job.2.1 12 = .ok (.iload_n 2, 1) := dc9_28 (by decide +kernel)
theorem d_MM_job_13 : decode y_MM_job.2.1 13 = .ok (.invokevirtual 152, 3) := dc9_182 (by decide +kernel)
theorem d_MM_job_16 : decode y_MM_job.2.1 16 = .ok (.aload_n 0, 1) := dc9_42 (by decide +kernel)
theorem d_MM_job_17 : decode y_MM_job.2.1 17 = .ok (.getfield 54, 3) := dc9_180 (by decide +kernel)
theorem d_MM_job_20 : decode y_MM_job.2.1 20 = .ok (.iload_n 3, 1) := dc9_29 (by decide +kernel)
theorem d_MM_job_21 : decode y_MM_job.2.1 21 = .ok (.invokevirtual 152, 3) := dc9_182 (by decide +kernel)
theorem d_MM_job_24 : decode y_MM_job.2.1 24 = .ok (.return_, 1) := dc9_177 (by decide +kernel)
theorem k_MM_job {G : mG} {d : Nat} {a0 : Nat} {l1 : Int} {l2 : Int} {l3 : Int} {M : mM} {Q : mM → Prop} (hO : mOk M) (hi_l1 : i32 l1) (hi_l2 : i32 l2) (hi_l3 : i32 l3)
    (h : mK M a0 = 14 ∧ mK M (mR M a0 18) = 15 ∧ Cv G y_MN_add d [vr (mR M a0 18), vi l1] M (fun M3 => mOk M3 ∧ (mK M3 a0 = 14 ∧ mK M3 (mR M3 a0 18) = 15 ∧ Cv G y_MN_add d [vr (mR M3 a0 18), vi l2] M3 (fun M8 => mOk M8 ∧ (mK M8 a0 = 14 ∧ mK M8 (mR M8 a0 18) = 15 ∧ Cv G y_MN_add d [vr (mR M8 a0 18), vi l3] M8 (fun M13 => mOk M13 ∧ (Q M13))))))) :
    Cv G y_MM_job (d + 1) [vr a0, vi l1, vi l2, vi l3] M Q := by
  refine wm_open (y := y_MM_job) rfl (Nat.le_of_ble_eq_true rfl) (L := [vr a0, vi l1, vi l2, vi l3]) rfl ?_
  obtain ⟨h1, h⟩ := h
  obtain ⟨h2, h⟩ := h
  refine wm_aload_n d_MM_job_0 rfl rfl ?_
  refine gf_MM_54 rfl d_MM_job_1 h1 ?_
  refine wm_iload_n d_MM_job_4 rfl rfl ?_
  refine cf_MM_152 rfl d_MM_job_5 h2 (Nat.le_of_ble_eq_true rfl) (Cv.mono h (fun M3 h => ?_))
  obtain ⟨hOM3, h⟩ := h
  obtain ⟨h6, h⟩ := h
  obtain ⟨h7, h⟩ := h
  refine wm_aload_n d_MM_job_8 rfl rfl ?_
  refine gf_MM_54 rfl d_MM_job_9 h6 ?_
  refine wm_iload_n d_MM_job_12 rfl rfl ?_
  refine cf_MM_152 rfl d_MM_job_13 h7 (Nat.le_of_ble_eq_true rfl) (Cv.mono h (fun M8 h => ?_))
  obtain ⟨hOM8, h⟩ := h
  obtain ⟨h11, h⟩ := h
  obtain ⟨h12, h⟩ := h
  refine wm_aload_n d_MM_job_16 rfl rfl ?_
  refine gf_MM_54 rfl d_MM_job_17 h11 ?_
  refine wm_iload_n d_MM_job_20 rfl rfl ?_
  refine cf_MM_152 rfl d_MM_job_21 h12 (Nat.le_of_ble_eq_true rfl) (Cv.mono h (fun M13 h => ?_))
  obtain ⟨hOM13, h⟩ := h
  refine wm_return d_MM_job_24 rfl ?_
  exact ⟨rfl, h⟩
theorem d_MM_tree_0 : decode y_MM_tree.2.1 0 = .ok (.aload_n 0, 1) := dc9_42 (by decide +kernel)
theorem d_MM_tree_1 : decode y_MM_tree.2.1 1 = .ok (.getfield 54, 3) := dc9_180 (by decide +kernel)
theorem d_MM_tree_4 : decode y_MM_tree.2.1 4 = .ok (.iconst 0, 1) := dc9_3 (by decide +kernel)
theorem d_MM_tree_5 : decode y_MM_tree.2.1 5 = .ok (.putfield 145, 3) := dc9_181 (by decide +kernel)
theorem d_MM_tree_8 : decode y_MM_tree.2.1 8 = .ok (.aload_n 0, 1) := dc9_42 (by decide +kernel)
theorem d_MM_tree_9 : decode y_MM_tree.2.1 9 = .ok (.getfield 38, 3) := dc9_180 (by decide +kernel)
theorem d_MM_tree_12 : decode y_MM_tree.2.1 12 = .ok (.getfield 273, 3) := dc9_180 (by decide +kernel)
theorem d_MM_tree_15 : decode y_MM_tree.2.1 15 = .ok (.getfield 145, 3) := dc9_180 (by decide +kernel)
theorem d_MM_tree_18 : decode y_MM_tree.2.1 18 = .ok (.istore_n 3, 1) := dc9_62 (by decide +kernel)
theorem d_MM_tree_19 : decode y_MM_tree.2.1 19 = .ok (.aload_n 0, 1) := dc9_42 (by decide +kernel)
theorem d_MM_tree_20 : decode y_MM_tree.2.1 20 = .ok (.iconst (-1), 1) := dc9_2 (by decide +kernel)
theorem d_MM_tree_21 : decode y_MM_tree.2.1 21 = .ok (.iload_n 1, 1) := dc9_27 (by decide +kernel)
theorem d_MM_tree_22 : decode y_MM_tree.2.1 22 = .ok (.iload_n 2, 1) := dc9_28 (by decide +kernel)
theorem d_MM_tree_23 : decode y_MM_tree.2.1 23 = .ok (.invokevirtual 296, 3) := dc9_182 (by decide +kernel)
theorem d_MM_tree_26 : decode y_MM_tree.2.1 26 = .ok (.aload_n 0, 1) := dc9_42 (by decide +kernel)
theorem d_MM_tree_27 : decode y_MM_tree.2.1 27 = .ok (.getfield 54, 3) := dc9_180 (by decide +kernel)
theorem d_MM_tree_30 : decode y_MM_tree.2.1 30 = .ok (.getfield 145, 3) := dc9_180 (by decide +kernel)
theorem d_MM_tree_33 : decode y_MM_tree.2.1 33 = .ok (.ifCond .le 39, 3) := dc9_158 (by decide +kernel)
theorem d_MM_tree_72 : decode y_MM_tree.2.1 72 = .ok (.iload_n 3, 1) := dc9_29 (by decide +kernel)
theorem d_MM_tree_73 : decode y_MM_tree.2.1 73 = .ok (.ireturn, 1) := dc9_172 (by decide +kernel)
theorem d_MM_tree_36 : decode y_MM_tree.2.1 36 = .ok (.aload_n 0, 1) := dc9_42 (by decide +kernel)
theorem d_MM_tree_37 : decode y_MM_tree.2.1 37 = .ok (.getfield 54, 3) := dc9_180 (by decide +kernel)
theorem d_MM_tree_40 : decode y_MM_tree.2.1 40 = .ok (.invokevirtual 232, 3) := dc9_182 (by decide +kernel)
theorem d_MM_tree_43 : decode y_MM_tree.2.1 43 = .ok (.istore 4, 2) := dc9_54 (by decide +kernel)
theorem d_MM_tree_45 : decode y_MM_tree.2.1 45 = .ok (.aload_n 0, 1) := dc9_42 (by decide +kernel)
theorem d_MM_tree_46 : decode y_MM_tree.2.1 46 = .ok (.getfield 54, 3) := dc9_180 (by decide +kernel)
theorem d_MM_tree_49 : decode y_MM_tree.2.1 49 = .ok (.invokevirtual 232, 3) := dc9_182 (by decide +kernel)
theorem d_MM_tree_52 : decode y_MM_tree.2.1 52 = .ok (.istore 5, 2) := dc9_54 (by decide +kernel)
theorem d_MM_tree_54 : decode y_MM_tree.2.1 54 = .ok (.aload_n 0, 1) := dc9_42 (by decide +kernel)
theorem d_MM_tree_55 : decode y_MM_tree.2.1 55 = .ok (.aload_n 0, 1) := dc9_42 (by decide +kernel)
theorem d_MM_tree_56 : decode y_MM_tree.2.1 56 = .ok (.getfield 54, 3) := dc9_180 (by decide +kernel)
theorem d_MM_tree_59 : decode y_MM_tree.2.1 59 = .ok (.invokevirtual 232, 3) := dc9_182 (by decide +kernel)
theorem d_MM_tree_62 : decode y_MM_tree.2.1 62 = .ok (.iload 5, 2) := dc9_21 (by decide +kernel)
theorem d_MM_tree_64 : decode y_MM_tree.2.1 64 = .ok (.iload 4, 2) := dc9_21 (by decide +kernel)
theorem d_MM_tree_66 : decode y_MM_tree.2.1 66 = .ok (.invokevirtual 299, 3) := dc9_182 (by decide +kernel)
theorem d_MM_tree_69 : decode y_MM_tree.2.1 69 = .ok (.goto (-43), 3) := dc9_167 (by decide +kernel)
def h_MM_tree_26 (G : mG) (d : Nat) (a0 : Nat) (l3 : Int) (M : mM) (Q : Int → mM → Prop) : Prop := mWm G y_MM_tree (d + 1) 26 [vr a0, vd, vd, vi l3, vd, vd] [] M (fun r9 M9 => ∃ x9, r9 = some (vi x9) ∧ Q x9 M9)
theorem k_MM_tree {G : mG} {d : Nat} {a0 : Nat} {l1 : Int} {l2 : Int} {M : mM} {Q : Int → mM → Prop} (hO : mOk M) (hi_l1 : i32 l1) (hi_l2 : i32 l2)
    (h : mK M a0 = 14 ∧ mK M (mR M a0 18) = 15 ∧ ∀ M3, M3 = mUI M (mR M a0 18) 1 0 → mK M3 (mR M3 a0 10) = 16 ∧ mK M3 (mR M3 (mR M3 a0 10) 0) = 15 ∧ Cv G y_MM_job d [vr a0, vi (-1), vi l1, vi l2] M3 (fun M7 => mOk M7 ∧ (h_MM_tree_26 G d a0 (mI M3 (mR M3 (mR M3 a0 10) 0) 1) M7 Q))) :
    Ci G y_MM_tree (d + 1) [vr a0, vi l1, vi l2] M Q := by
  refine wm_open (y := y_MM_tree) rfl (Nat.le_of_ble_eq_true rfl) (L := [vr a0, vi l1, vi l2, vd, vd, vd]) rfl ?_
  obtain ⟨h1, h⟩ := h
  obtain ⟨h2, h⟩ := h
  obtain ⟨M3, e4⟩ : ∃ M3, M3 = mUI M (mR M a0 18) 1 0 := ⟨_, rfl⟩
  replace h := h M3 e4
  obtain ⟨h5, h⟩ := h
  obtain ⟨h6, h⟩ := h
  refine wm_aload_n d_MM_tree_0 rfl rfl ?_
  refine gf_MM_54 rfl d_MM_tree_1 h1 ?_
  refine wm_iconst d_MM_tree_4 ?_
  have hOM3 : mOk M3 := by rw [e4]; exact mOk_UI hO ⟨by decide, by decide⟩
  refine pf_MM_145 rfl d_MM_tree_5 h2 ⟨by decide, by decide⟩ e4 ?_
  refine wm_aload_n d_MM_tree_8 rfl rfl ?_
  refine gf_MM_38 rfl d_MM_tree_9 (by rw [e4]; exact h1) ?_
  refine gf_MM_273 rfl d_MM_tree_12 h5 ?_
  refine gf_MM_145 rfl d_MM_tree_15 h6 ?_
  refine wm_istore_n d_MM_tree_18 rfl (by decide) (L' := [vr a0, vi l1, vi l2, vi (mI M3 (mR M3 (mR M3 a0 10) 0) 1), vd, vd]) rfl ?_
  refine wm_aload_n d_MM_tree_19 rfl rfl ?_
  refine wm_iconst d_MM_tree_20 ?_
  refine wm_iload_n d_MM_tree_21 rfl rfl ?_
  refine wm_iload_n d_MM_tree_22 rfl rfl ?_
  refine cf_MM_296 rfl d_MM_tree_23 (by rw [e4]; exact h1) (Nat.le_of_ble_eq_true rfl) (Cv.mono h (fun M7 h => ?_))
  obtain ⟨hOM7, h⟩ := h
  refine wm_less (L' := [vr a0, vd, vd, vi (mI M3 (mR M3 (mR M3 a0 10) 0) 1), vd, vd]) ⟨Or.inr rfl, Or.inl rfl, Or.inl rfl, Or.inr rfl, Or.inl rfl, Or.inl rfl, trivial⟩ ?_
  exact h
theorem k_MM_tree_26 {G : mG} {d : Nat} {a0 : Nat} {l3 : Int} {M : mM} {Q : Int → mM → Prop} (hO : mOk M) (hi_l3 : i32 l3)
    (h : mK M a0 = 14 ∧ mK M (mR M a0 18) = 15 ∧ ((mI M (mR M a0 18) 1 ≤ 0) → (Q l3 M)) ∧ (¬ (mI M (mR M a0 18) 1 ≤ 0) → (Ci G y_MN_take d [vr (mR M a0 18)] M (fun x15 M14 => i32 x15 ∧ mOk M14 ∧ (mK M14 a0 = 14 ∧ mK M14 (mR M14 a0 18) = 15 ∧ Ci G y_MN_take d [vr (mR M14 a0 18)] M14 (fun x20 M19 => i32 x20 ∧ mOk M19 ∧ (mK M19 a0 = 14 ∧ mK M19 (mR M19 a0 18) = 15 ∧ Ci G y_MN_take d [vr (mR M19 a0 18)] M19 (fun x25 M24 => i32 x25 ∧ mOk M24 ∧ (mK M24 a0 = 14 ∧ Cv G y_MM_part d [vr a0, vi x25, vi x20, vi x15] M24 (fun M28 => mOk M28 ∧ (h_MM_tree_26 G d a0 l3 M28 Q))))))))))) :
    h_MM_tree_26 G d a0 l3 M Q := by
  unfold h_MM_tree_26
  obtain ⟨h10, h⟩ := h
  obtain ⟨h11, h⟩ := h
  refine wm_aload_n d_MM_tree_26 rfl rfl ?_
  refine gf_MM_54 rfl d_MM_tree_27 h10 ?_
  refine gf_MM_145 rfl d_MM_tree_30 h11 ?_
  refine wm_if_le (tgt := 72) d_MM_tree_33 rfl (hO _ _).1 (fun c13 => ?_) (fun c13 => ?_)
  · replace h := h.1 c13
    refine wm_iload_n d_MM_tree_72 rfl rfl ?_
    refine wm_ireturn d_MM_tree_73 rfl rfl ?_
    exact ⟨_, rfl, h⟩
  · replace h := h.2 c13
    refine wm_aload_n d_MM_tree_36 rfl rfl ?_
    refine gf_MM_54 rfl d_MM_tree_37 h10 ?_
    refine cf_MM_232 rfl d_MM_tree_40 h11 (Nat.le_of_ble_eq_true rfl) (Ci.mono h (fun x15 M14 h => ?_))
    obtain ⟨h16, hOM14, h⟩ := h
    obtain ⟨h17, h⟩ := h
    obtain ⟨h18, h⟩ := h
    refine wm_istore d_MM_tree_43 (by decide) (L' := [vr a0, vd, vd, vi l3, vi x15, vd]) rfl ?_
    refine wm_aload_n d_MM_tree_45 rfl rfl ?_
    refine gf_MM_54 rfl d_MM_tree_46 h17 ?_
    refine cf_MM_232 rfl d_MM_tree_49 h18 (Nat.le_of_ble_eq_true rfl) (Ci.mono h (fun x20 M19 h => ?_))
    obtain ⟨h21, hOM19, h⟩ := h
    obtain ⟨h22, h⟩ := h
    obtain ⟨h23, h⟩ := h
    refine wm_istore d_MM_tree_52 (by decide) (L' := [vr a0, vd, vd, vi l3, vi x15, vi x20]) rfl ?_
    refine wm_aload_n d_MM_tree_54 rfl rfl ?_
    refine wm_aload_n d_MM_tree_55 rfl rfl ?_
    refine gf_MM_54 rfl d_MM_tree_56 h22 ?_
    refine cf_MM_232 rfl d_MM_tree_59 h23 (Nat.le_of_ble_eq_true rfl) (Ci.mono h (fun x25 M24 h => ?_))
    obtain ⟨h26, hOM24, h⟩ := h
    obtain ⟨h27, h⟩ := h
    refine wm_iload d_MM_tree_62 rfl ?_
    refine wm_iload d_MM_tree_64 rfl ?_
    refine cf_MM_299 rfl d_MM_tree_66 h27 (Nat.le_of_ble_eq_true rfl) (Cv.mono h (fun M28 h => ?_))
    obtain ⟨hOM28, h⟩ := h
    refine wm_goto (tgt := 26) d_MM_tree_69 rfl ?_
    refine wm_less (L' := [vr a0, vd, vd, vi l3, vd, vd]) ⟨Or.inr rfl, Or.inl rfl, Or.inl rfl, Or.inr rfl, Or.inl rfl, Or.inl rfl, trivial⟩ ?_
    exact h
theorem d_MM_isOperand_0 : decode y_MM_isOperand.2.1 0 = .ok (.aload_n 0, 1) := dc9_42 (by decide +kernel)
theorem d_MM_isOperand_1 : decode y_MM_isOperand.2.1 1 = .ok (.iload_n 1, 1) := dc9_27 (by decide +kernel)
theorem d_MM_isOperand_2 : decode y_MM_isOperand.2.1 2 = .ok (.invokevirtual 302, 3) := dc9_182 (by decide +kernel)
theorem d_MM_isOperand_5 : decode y_MM_isOperand.2.1 5 = .ok (.iconst 2, 1) := dc9_5 (by decide +kernel)
theorem d_MM_isOperand_6 : decode y_MM_isOperand.2.1 6 = .ok (.if_icmp .eq 42, 3) := dc9_159 (by decide +kernel)
theorem d_MM_isOperand_48 : decode y_MM_isOperand.2.1 48 = .ok (.iconst 1, 1) := dc9_4 (by decide +kernel)
theorem d_MM_isOperand_49 : decode y_MM_isOperand.2.1 49 = .ok (.goto 4, 3) := dc9_167 (by decide +kernel)
theorem d_MM_isOperand_9 : decode y_MM_isOperand.2.1 9 = .ok (.aload_n 0, 1) := dc9_42 (by decide +kernel)
theorem d_MM_isOperand_10 : decode y_MM_isOperand.2.1 10 = .ok (.iload_n 1, 1) := dc9_27 (by decide +kernel)
theorem d_MM_isOperand_53 : decode y_MM_isOperand.2.1 53 = .ok (.ireturn, 1) := dc9_172 (by decide +kernel)
theorem d_MM_isOperand_11 : decode y_MM_isOperand.2.1 11 = .ok (.invokevirtual 302, 3) := dc9_182 (by decide +kernel)
theorem d_MM_isOperand_14 : decode y_MM_isOperand.2.1 14 = .ok (.iconst 1, 1) := dc9_4 (by decide +kernel)
theorem d_MM_isOperand_15 : decode y_MM_isOperand.2.1 15 = .ok (.if_icmp .eq 33, 3) := dc9_159 (by decide +kernel)
theorem d_MM_isOperand_18 : decode y_MM_isOperand.2.1 18 = .ok (.aload_n 0, 1) := dc9_42 (by decide +kernel)
theorem d_MM_isOperand_19 : decode y_MM_isOperand.2.1 19 = .ok (.iload_n 1, 1) := dc9_27 (by decide +kernel)
theorem d_MM_isOperand_20 : decode y_MM_isOperand.2.1 20 = .ok (.invokevirtual 302, 3) := dc9_182 (by decide +kernel)
theorem d_MM_isOperand_23 : decode y_MM_isOperand.2.1 23 = .ok (.bipush 12, 2) := dc9_16 (by decide +kernel)
theorem d_MM_isOperand_25 : decode y_MM_isOperand.2.1 25 = .ok (.if_icmp .eq 23, 3) := dc9_159 (by decide +kernel)
theorem d_MM_isOperand_28 : decode y_MM_isOperand.2.1 28 = .ok (.aload_n 0, 1) := dc9_42 (by decide +kernel)
theorem d_MM_isOperand_29 : decode y_MM_isOperand.2.1 29 = .ok (.iload_n 1, 1) := dc9_27 (by decide +kernel)
theorem d_MM_isOperand_30 : decode y_MM_isOperand.2.1 30 = .ok (.invokevirtual 302, 3) := dc9_182 (by decide +kernel)
theorem d_MM_isOperand_33 : decode y_MM_isOperand.2.1 33 = .ok (.bipush 13, 2) := dc9_16 (by decide +kernel)
theorem d_MM_isOperand_35 : decode y_MM_isOperand.2.1 35 = .ok (.if_icmp .eq 13, 3) := dc9_159 (by decide +kernel)
theorem d_MM_isOperand_38 : decode y_MM_isOperand.2.1 38 = .ok (.aload_n 0, 1) := dc9_42 (by decide +kernel)
theorem d_MM_isOperand_39 : decode y_MM_isOperand.2.1 39 = .ok (.iload_n 1, 1) := dc9_27 (by decide +kernel)
theorem d_MM_isOperand_40 : decode y_MM_isOperand.2.1 40 = .ok (.invokevirtual 302, 3) := dc9_182 (by decide +kernel)
theorem d_MM_isOperand_43 : decode y_MM_isOperand.2.1 43 = .ok (.bipush 37, 2) := dc9_16 (by decide +kernel)
theorem d_MM_isOperand_45 : decode y_MM_isOperand.2.1 45 = .ok (.if_icmp .ne 7, 3) := dc9_160 (by decide +kernel)
theorem d_MM_isOperand_52 : decode y_MM_isOperand.2.1 52 = .ok (.iconst 0, 1) := dc9_3 (by decide +kernel)
theorem k_MM_isOperand {G : mG} {d : Nat} {a0 : Nat} {l1 : Int} {M : mM} {Q : Int → mM → Prop} (hO : mOk M) (hi_l1 : i32 l1)
    (h : mK M a0 = 14 ∧ Ci G y_MM_word1 d [vr a0, vi l1] M (fun x3 M2 => i32 x3 ∧ mOk M2 ∧ (((x3 = 2) → (Q 1 M2)) ∧ (¬ (x3 = 2) → (mK M2 a0 = 14 ∧ Ci G y_MM_word1 d [vr a0, vi l1] M2 (fun x10 M9 => i32 x10 ∧ mOk M9 ∧ (((x10 = 1) → (Q 1 M9)) ∧ (¬ (x10 = 1) → (mK M9 a0 = 14 ∧ Ci G y_MM_word1 d [vr a0, vi l1] M9 (fun x17 M16 => i32 x17 ∧ mOk M16 ∧ (((x17 = 12) → (Q 1 M16)) ∧ (¬ (x17 = 12) → (mK M16 a0 = 14 ∧ Ci G y_MM_word1 d [vr a0, vi l1] M16 (fun x24 M23 => i32 x24 ∧ mOk M23 ∧ (((x24 = 13) → (Q 1 M23)) ∧ (¬ (x24 = 13) → (mK M23 a0 = 14 ∧ Ci G y_MM_word1 d [vr a0, vi l1] M23 (fun x31 M30 => i32 x31 ∧ mOk M30 ∧ (∀ v34 : Int, v34 = (if (x31 = 37) then 1 else 0) → Q v34 M30))))))))))))))))))) :
    Ci G y_MM_isOperand (d + 1) [vr a0, vi l1] M Q := by
  refine wm_open (y := y_MM_isOperand) rfl (Nat.le_of_ble_eq_true rfl) (L := [vr a0, vi l1]) rfl ?_
  obtain ⟨h1, h⟩ := h
  refine wm_aload_n d_MM_isOperand_0 rfl rfl ?_
  refine wm_iload_n d_MM_isOperand_1 rfl rfl ?_
  refine cf_MM_302 rfl d_MM_isOperand_2 h1 (Nat.le_of_ble_eq_true rfl) (Ci.mono h (fun x3 M2 h => ?_))
  obtain ⟨h4, hOM2, h⟩ := h
  refine wm_iconst d_MM_isOperand_5 ?_
  refine wm_icmp_eq (tgt := 48) d_MM_isOperand_6 rfl h4 ⟨by decide, by decide⟩ (fun c7 => ?_) (fun c7 => ?_)
  · replace h := h.1 c7
    refine wm_iconst d_MM_isOperand_48 ?_
    refine wm_goto (tgt := 53) d_MM_isOperand_49 rfl ?_
    refine wm_ireturn d_MM_isOperand_53 rfl (m_nb (by decide)) ?_
    exact ⟨_, rfl, h⟩
  · replace h := h.2 c7
    obtain ⟨h8, h⟩ := h
    refine wm_aload_n d_MM_isOperand_9 rfl rfl ?_
    refine wm_iload_n d_MM_isOperand_10 rfl rfl ?_
    refine cf_MM_302 rfl d_MM_isOperand_11 h8 (Nat.le_of_ble_eq_true rfl) (Ci.mono h (fun x10 M9 h => ?_))
    obtain ⟨h11, hOM9, h⟩ := h
    refine wm_iconst d_MM_isOperand_14 ?_
    refine wm_icmp_eq (tgt := 48) d_MM_isOperand_15 rfl h11 ⟨by decide, by decide⟩ (fun c14 => ?_) (fun c14 => ?_)
    · replace h := h.1 c14
      refine wm_iconst d_MM_isOperand_48 ?_
      refine wm_goto (tgt := 53) d_MM_isOperand_49 rfl ?_
      refine wm_ireturn d_MM_isOperand_53 rfl (m_nb (by decide)) ?_
      exact ⟨_, rfl, h⟩
    · replace h := h.2 c14
      obtain ⟨h15, h⟩ := h
      refine wm_aload_n d_MM_isOperand_18 rfl rfl ?_
      refine wm_iload_n d_MM_isOperand_19 rfl rfl ?_
      refine cf_MM_302 rfl d_MM_isOperand_20 h15 (Nat.le_of_ble_eq_true rfl) (Ci.mono h (fun x17 M16 h => ?_))
      obtain ⟨h18, hOM16, h⟩ := h
      refine wm_bipush d_MM_isOperand_23 (by decide) ?_
      refine wm_icmp_eq (tgt := 48) d_MM_isOperand_25 rfl h18 ⟨by decide, by decide⟩ (fun c21 => ?_) (fun c21 => ?_)
      · replace h := h.1 c21
        refine wm_iconst d_MM_isOperand_48 ?_
        refine wm_goto (tgt := 53) d_MM_isOperand_49 rfl ?_
        refine wm_ireturn d_MM_isOperand_53 rfl (m_nb (by decide)) ?_
        exact ⟨_, rfl, h⟩
      · replace h := h.2 c21
        obtain ⟨h22, h⟩ := h
        refine wm_aload_n d_MM_isOperand_28 rfl rfl ?_
        refine wm_iload_n d_MM_isOperand_29 rfl rfl ?_
        refine cf_MM_302 rfl d_MM_isOperand_30 h22 (Nat.le_of_ble_eq_true rfl) (Ci.mono h (fun x24 M23 h => ?_))
        obtain ⟨h25, hOM23, h⟩ := h
        refine wm_bipush d_MM_isOperand_33 (by decide) ?_
        refine wm_icmp_eq (tgt := 48) d_MM_isOperand_35 rfl h25 ⟨by decide, by decide⟩ (fun c28 => ?_) (fun c28 => ?_)
        · replace h := h.1 c28
          refine wm_iconst d_MM_isOperand_48 ?_
          refine wm_goto (tgt := 53) d_MM_isOperand_49 rfl ?_
          refine wm_ireturn d_MM_isOperand_53 rfl (m_nb (by decide)) ?_
          exact ⟨_, rfl, h⟩
        · replace h := h.2 c28
          obtain ⟨h29, h⟩ := h
          refine wm_aload_n d_MM_isOperand_38 rfl rfl ?_
          refine wm_iload_n d_MM_isOperand_39 rfl rfl ?_
          refine cf_MM_302 rfl d_MM_isOperand_40 h29 (Nat.le_of_ble_eq_true rfl) (Ci.mono h (fun x31 M30 h => ?_))
          obtain ⟨h32, hOM30, h⟩ := h
          refine wm_bipush d_MM_isOperand_43 (by decide) ?_
          have hJ : ∀ v34 : Int, v34 = (if (x31 = 37) then 1 else 0) → mWm G y_MM_isOperand (d + 1) 53 [vd, vd] [vi v34] M30 (fun r9 M9 => ∃ x9, r9 = some (vi x9) ∧ Q x9 M9) := by
            intro v34 e36
            have h := h v34 e36
            have h37 : i32 v34 := by rw [e36]; (repeat' split) <;> first | exact ⟨by decide, by decide⟩ | exact ⟨by decide, by decide⟩
            have h38 : (v34 = 0 ∨ v34 = 1) := by rw [e36]; (repeat' split) <;> decide
            refine wm_ireturn d_MM_isOperand_53 rfl (m_nb h38) ?_
            exact ⟨_, rfl, h⟩
          clear h
          refine wm_icmp_ne (tgt := 52) d_MM_isOperand_45 rfl h32 ⟨by decide, by decide⟩ (fun c33 => ?_) (fun c33 => ?_)
          · refine wm_iconst d_MM_isOperand_52 ?_
            refine wm_less (L' := [vd, vd]) ⟨Or.inl rfl, Or.inl rfl, trivial⟩ ?_
            exact hJ 0 (if_neg c33).symm
          · replace c33 := Classical.not_not.mp c33
            refine wm_iconst d_MM_isOperand_48 ?_
            refine wm_goto (tgt := 53) d_MM_isOperand_49 rfl ?_
            refine wm_less (L' := [vd, vd]) ⟨Or.inl rfl, Or.inl rfl, trivial⟩ ?_
            exact hJ 1 (if_pos c33).symm
theorem d_MM_looseness_0 : decode y_MM_looseness.2.1 0 = .ok (.aload_n 0, 1) := dc9_42 (by decide +kernel)
theorem d_MM_looseness_1 : decode y_MM_looseness.2.1 1 = .ok (.iload_n 1, 1) := dc9_27 (by decide +kernel)
theorem d_MM_looseness_2 : decode y_MM_looseness.2.1 2 = .ok (.invokevirtual 302, 3) := dc9_182 (by decide +kernel)
theorem d_MM_looseness_5 : decode y_MM_looseness.2.1 5 = .ok (.istore_n 3, 1) := dc9_62 (by decide +kernel)
theorem d_MM_looseness_6 : decode y_MM_looseness.2.1 6 = .ok (.iload_n 3, 1) := dc9_29 (by decide +kernel)
theorem d_MM_looseness_7 : decode y_MM_looseness.2.1 7 = .ok (.bipush 32, 2) := dc9_16 (by decide +kernel)
theorem d_MM_looseness_9 : decode y_MM_looseness.2.1 9 = .ok (.if_icmp .ne 6, 3) := dc9_160 (by decide +kernel)
theorem d_MM_looseness_12 : decode y_MM_looseness.2.1 12 = .ok (.bipush 6, 2) := dc9_16 (by decide +kernel)
theorem d_MM_looseness_14 : decode y_MM_looseness.2.1 14 = .ok (.ireturn, 1) := dc9_172 (by decide +kernel)
theorem d_MM_looseness_15 : decode y_MM_looseness.2.1 15 = .ok (.iload_n 3, 1) := dc9_29 (by decide +kernel)
theorem d_MM_looseness_16 : decode y_MM_looseness.2.1 16 = .ok (.bipush 30, 2) := dc9_16 (by decide +kernel)
theorem d_MM_looseness_18 : decode y_MM_looseness.2.1 18 = .ok (.if_icmp .eq 9, 3) := dc9_159 (by decide +kernel)
theorem d_MM_looseness_21 : decode y_MM_looseness.2.1 21 = .ok (.iload_n 3, 1) := dc9_29 (by decide +kernel)
theorem d_MM_looseness_22 : decode y_MM_looseness.2.1 22 = .ok (.bipush 29, 2) := dc9_16 (by decide +kernel)
theorem d_MM_looseness_24 : decode y_MM_looseness.2.1 24 = .ok (.if_icmp .ne 15, 3) := dc9_160 (by decide +kernel)
theorem d_MM_looseness_39 : decode y_MM_looseness.2.1 39 = .ok (.iload_n 3, 1) := dc9_29 (by decide +kernel)
theorem d_MM_looseness_27 : decode y_MM_looseness.2.1 27 = .ok (.iload_n 3, 1) := dc9_29 (by decide +kernel)
theorem d_MM_looseness_28 : decode y_MM_looseness.2.1 28 = .ok (.bipush 30, 2) := dc9_16 (by decide +kernel)
theorem d_MM_looseness_30 : decode y_MM_looseness.2.1 30 = .ok (.if_icmp .ne 7, 3) := dc9_160 (by decide +kernel)
theorem d_MM_looseness_33 : decode y_MM_looseness.2.1 33 = .ok (.iconst 5, 1) := dc9_8 (by decide +kernel)
theorem d_MM_looseness_34 : decode y_MM_looseness.2.1 34 = .ok (.goto 4, 3) := dc9_167 (by decide +kernel)
theorem d_MM_looseness_37 : decode y_MM_looseness.2.1 37 = .ok (.iconst 4, 1) := dc9_7 (by decide +kernel)
theorem d_MM_looseness_38 : decode y_MM_looseness.2.1 38 = .ok (.ireturn, 1) := dc9_172 (by decide +kernel)
theorem d_MM_looseness_40 : decode y_MM_looseness.2.1 40 = .ok (.invokestatic 261, 3) := dc9_184 (by decide +kernel)
theorem d_MM_looseness_43 : decode y_MM_looseness.2.1 43 = .ok (.ifCond .eq 5, 3) := dc9_153 (by decide +kernel)
theorem d_MM_looseness_48 : decode y_MM_looseness.2.1 48 = .ok (.iload_n 3, 1) := dc9_29 (by decide +kernel)
theorem d_MM_looseness_49 : decode y_MM_looseness.2.1 49 = .ok (.bipush 24, 2) := dc9_16 (by decide +kernel)
theorem d_MM_looseness_46 : decode y_MM_looseness.2.1 46 = .ok (.iconst 3, 1) := dc9_6 (by decide +kernel)
theorem d_MM_looseness_47 : decode y_MM_looseness.2.1 47 = .ok (.ireturn, 1) := dc9_172 (by decide +kernel)
theorem d_MM_looseness_51 : decode y_MM_looseness.2.1 51 = .ok (.if_icmp .eq 9, 3) := dc9_159 (by decide +kernel)
theorem d_MM_looseness_54 : decode y_MM_looseness.2.1 54 = .ok (.iload_n 3, 1) := dc9_29 (by decide +kernel)
theorem d_MM_looseness_55 : decode y_MM_looseness.2.1 55 = .ok (.bipush 25, 2) := dc9_16 (by decide +kernel)
theorem d_MM_looseness_57 : decode y_MM_looseness.2.1 57 = .ok (.if_icmp .ne 24, 3) := dc9_160 (by decide +kernel)
theorem d_MM_looseness_81 : decode y_MM_looseness.2.1 81 = .ok (.iload_n 3, 1) := dc9_29 (by decide +kernel)
theorem d_MM_looseness_82 : decode y_MM_looseness.2.1 82 = .ok (.bipush 26, 2) := dc9_16 (by decide +kernel)
theorem d_MM_looseness_84 : decode y_MM_looseness.2.1 84 = .ok (.if_icmp .eq 15, 3) := dc9_159 (by decide +kernel)
theorem d_MM_looseness_87 : decode y_MM_looseness.2.1 87 = .ok (.iload_n 3, 1) := dc9_29 (by decide +kernel)
theorem d_MM_looseness_88 : decode y_MM_looseness.2.1 88 = .ok (.bipush 27, 2) := dc9_16 (by decide +kernel)
theorem d_MM_looseness_90 : decode y_MM_looseness.2.1 90 = .ok (.if_icmp .eq 9, 3) := dc9_159 (by decide +kernel)
theorem d_MM_looseness_93 : decode y_MM_looseness.2.1 93 = .ok (.iload_n 3, 1) := dc9_29 (by decide +kernel)
theorem d_MM_looseness_94 : decode y_MM_looseness.2.1 94 = .ok (.bipush 28, 2) := dc9_16 (by decide +kernel)
theorem d_MM_looseness_96 : decode y_MM_looseness.2.1 96 = .ok (.if_icmp .ne 7, 3) := dc9_160 (by decide +kernel)
theorem d_MM_looseness_103 : decode y_MM_looseness.2.1 103 = .ok (.iconst 0, 1) := dc9_3 (by decide +kernel)
theorem d_MM_looseness_104 : decode y_MM_looseness.2.1 104 = .ok (.ireturn, 1) := dc9_172 (by decide +kernel)
theorem d_MM_looseness_60 : decode y_MM_looseness.2.1 60 = .ok (.iload_n 1, 1) := dc9_27 (by decide +kernel)
theorem d_MM_looseness_61 : decode y_MM_looseness.2.1 61 = .ok (.iload_n 2, 1) := dc9_28 (by decide +kernel)
theorem d_MM_looseness_62 : decode y_MM_looseness.2.1 62 = .ok (.if_icmp .le 17, 3) := dc9_164 (by decide +kernel)
theorem d_MM_looseness_65 : decode y_MM_looseness.2.1 65 = .ok (.aload_n 0, 1) := dc9_42 (by decide +kernel)
theorem d_MM_looseness_66 : decode y_MM_looseness.2.1 66 = .ok (.iload_n 1, 1) := dc9_27 (by decide +kernel)
theorem d_MM_looseness_67 : decode y_MM_looseness.2.1 67 = .ok (.iconst 1, 1) := dc9_4 (by decide +kernel)
theorem d_MM_looseness_68 : decode y_MM_looseness.2.1 68 = .ok (.isub, 1) := dc9_100 (by decide +kernel)
theorem d_MM_looseness_79 : decode y_MM_looseness.2.1 79 = .ok (.iconst 0, 1) := dc9_3 (by decide +kernel)
theorem d_MM_looseness_69 : decode y_MM_looseness.2.1 69 = .ok (.invokevirtual 304, 3) := dc9_182 (by decide +kernel)
theorem d_MM_looseness_72 : decode y_MM_looseness.2.1 72 = .ok (.ifCond .eq 7, 3) := dc9_153 (by decide +kernel)
theorem d_MM_looseness_75 : decode y_MM_looseness.2.1 75 = .ok (.iconst 2, 1) := dc9_5 (by decide +kernel)
theorem d_MM_looseness_76 : decode y_MM_looseness.2.1 76 = .ok (.goto 4, 3) := dc9_167 (by decide +kernel)
theorem d_MM_looseness_99 : decode y_MM_looseness.2.1 99 = .ok (.iconst 1, 1) := dc9_4 (by decide +kernel)
theorem d_MM_looseness_100 : decode y_MM_looseness.2.1 100 = .ok (.goto 4, 3) := dc9_167 (by decide +kernel)
theorem d_MM_looseness_80 : decode y_MM_looseness.2.1 80 = .ok (.ireturn, 1) := dc9_172 (by decide +kernel)
def h_MM_looseness_80 (G : mG) (d : Nat) (k0 : Int) (M : mM) (Q : Int → mM → Prop) : Prop := mWm G y_MM_looseness (d + 1) 80 [vd, vd, vd, vd] [vi k0] M (fun r9 M9 => ∃ x9, r9 = some (vi x9) ∧ Q x9 M9)
theorem k_MM_looseness {G : mG} {d : Nat} {a0 : Nat} {l1 : Int} {l2 : Int} {M : mM} {Q : Int → mM → Prop} (hO : mOk M) (hi_l1 : i32 l1) (hi_l2 : i32 l2)
    (h : mK M a0 = 14 ∧ Ci G y_MM_word1 d [vr a0, vi l1] M (fun x3 M2 => i32 x3 ∧ mOk M2 ∧ (((x3 = 32) → (Q 6 M2)) ∧ (¬ (x3 = 32) → ((((x3 = 30) ∨ (x3 = 29)) → (∀ v14 : Int, v14 = (if (x3 = 30) then 5 else 4) → Q v14 M2)) ∧ (¬ ((x3 = 30) ∨ (x3 = 29)) → (Ci G y_MM_isComparison d [vi x3] M2 (fun x21 M20 => i32 x21 ∧ mOk M20 ∧ (((x21 = 0) → ((((x3 = 24) ∨ (x3 = 25)) → (((l1 ≤ l2) → (h_MM_looseness_80 G d 0 M20 Q)) ∧ (¬ (l1 ≤ l2) → (mK M20 a0 = 14 ∧ Ci G y_MM_isOperand d [vr a0, vi (l1 - 1)] M20 (fun x41 M40 => i32 x41 ∧ mOk M40 ∧ (((x41 = 0) → (h_MM_looseness_80 G d 0 M40 Q)) ∧ (¬ (x41 = 0) → (h_MM_looseness_80 G d 2 M40 Q)))))))) ∧ (¬ ((x3 = 24) ∨ (x3 = 25)) → (∀ v49 : Int, v49 = (if ((x3 = 26) ∨ ((x3 = 27) ∨ (x3 = 28))) then 1 else 0) → Q v49 M20)))) ∧ (¬ (x21 = 0) → (Q 3 M20))))))))))) :
    Ci G y_MM_looseness (d + 1) [vr a0, vi l1, vi l2] M Q := by
  refine wm_open (y := y_MM_looseness) rfl (Nat.le_of_ble_eq_true rfl) (L := [vr a0, vi l1, vi l2, vd]) rfl ?_
  obtain ⟨h1, h⟩ := h
  refine wm_aload_n d_MM_looseness_0 rfl rfl ?_
  refine wm_iload_n d_MM_looseness_1 rfl rfl ?_
  refine cf_MM_302 rfl d_MM_looseness_2 h1 (Nat.le_of_ble_eq_true rfl) (Ci.mono h (fun x3 M2 h => ?_))
  obtain ⟨h4, hOM2, h⟩ := h
  refine wm_istore_n d_MM_looseness_5 rfl (by decide) (L' := [vr a0, vi l1, vi l2, vi x3]) rfl ?_
  refine wm_iload_n d_MM_looseness_6 rfl rfl ?_
  refine wm_bipush d_MM_looseness_7 (by decide) ?_
  refine wm_icmp_ne (tgt := 15) d_MM_looseness_9 rfl h4 ⟨by decide, by decide⟩ (fun c8 => ?_) (fun c8 => ?_)
  · replace h := h.2 c8
    refine wm_iload_n d_MM_looseness_15 rfl rfl ?_
    refine wm_bipush d_MM_looseness_16 (by decide) ?_
    have hE0 : ((x3 = 30) ∨ (x3 = 29)) → mWm G y_MM_looseness (d + 1) 27 [vr a0, vi l1, vi l2, vi x3] [] M2 (fun r9 M9 => ∃ x9, r9 = some (vi x9) ∧ Q x9 M9) := by
      intro q12
      have h := h.1 q12
      refine wm_iload_n d_MM_looseness_27 rfl rfl ?_
      refine wm_bipush d_MM_looseness_28 (by decide) ?_
      have hJ : ∀ v14 : Int, v14 = (if (x3 = 30) then 5 else 4) → mWm G y_MM_looseness (d + 1) 38 [vd, vd, vd, vd] [vi v14] M2 (fun r9 M9 => ∃ x9, r9 = some (vi x9) ∧ Q x9 M9) := by
        intro v14 e16
        have h := h v14 e16
        have h17 : i32 v14 := by rw [e16]; (repeat' split) <;> first | exact ⟨by decide, by decide⟩ | exact ⟨by decide, by decide⟩
        refine wm_ireturn d_MM_looseness_38 rfl rfl ?_
        exact ⟨_, rfl, h⟩
      clear h
      refine wm_icmp_ne (tgt := 37) d_MM_looseness_30 rfl h4 ⟨by decide, by decide⟩ (fun c13 => ?_) (fun c13 => ?_)
      · refine wm_iconst d_MM_looseness_37 ?_
        refine wm_less (L' := [vd, vd, vd, vd]) ⟨Or.inl rfl, Or.inl rfl, Or.inl rfl, Or.inl rfl, trivial⟩ ?_
        exact hJ 4 (if_neg c13).symm
      · replace c13 := Classical.not_not.mp c13
        refine wm_iconst d_MM_looseness_33 ?_
        refine wm_goto (tgt := 38) d_MM_looseness_34 rfl ?_
        refine wm_less (L' := [vd, vd, vd, vd]) ⟨Or.inl rfl, Or.inl rfl, Or.inl rfl, Or.inl rfl, trivial⟩ ?_
        exact hJ 5 (if_pos c13).symm
    have hE1 : ¬ ((x3 = 30) ∨ (x3 = 29)) → mWm G y_MM_looseness (d + 1) 39 [vr a0, vi l1, vi l2, vi x3] [] M2 (fun r9 M9 => ∃ x9, r9 = some (vi x9) ∧ Q x9 M9) := by
      intro q19
      have h := h.2 q19
      refine wm_iload_n d_MM_looseness_39 rfl rfl ?_
      refine cf_MM_261 rfl d_MM_looseness_40 (Nat.le_of_ble_eq_true rfl) (Ci.mono h (fun x21 M20 h => ?_))
      obtain ⟨h22, hOM20, h⟩ := h
      refine wm_if_eq (tgt := 48) d_MM_looseness_43 rfl h22 (fun c29 => ?_) (fun c29 => ?_)
      · replace h := h.1 c29
        refine wm_iload_n d_MM_looseness_48 rfl rfl ?_
        refine wm_bipush d_MM_looseness_49 (by decide) ?_
        have hE0 : ((x3 = 24) ∨ (x3 = 25)) → mWm G y_MM_looseness (d + 1) 60 [vr a0, vi l1, vi l2, vi x3] [] M20 (fun r9 M9 => ∃ x9, r9 = some (vi x9) ∧ Q x9 M9) := by
          intro q36
          have h := h.1 q36
          refine wm_iload_n d_MM_looseness_60 rfl rfl ?_
          refine wm_iload_n d_MM_looseness_61 rfl rfl ?_
          refine wm_icmp_le (tgt := 79) d_MM_looseness_62 rfl hi_l1 hi_l2 (fun c38 => ?_) (fun c38 => ?_)
          · replace h := h.1 c38
            refine wm_iconst d_MM_looseness_79 ?_
            refine wm_less (L' := [vd, vd, vd, vd]) ⟨Or.inl rfl, Or.inl rfl, Or.inl rfl, Or.inl rfl, trivial⟩ ?_
            exact h
          · replace h := h.2 c38
            obtain ⟨h39, h⟩ := h
            refine wm_aload_n d_MM_looseness_65 rfl rfl ?_
            refine wm_iload_n d_MM_looseness_66 rfl rfl ?_
            refine wm_iconst d_MM_looseness_67 ?_
            refine wm_isub d_MM_looseness_68 ?_
            refine cf_MM_304 rfl d_MM_looseness_69 h39 (Nat.le_of_ble_eq_true rfl) (Ci.mono h (fun x41 M40 h => ?_))
            obtain ⟨h42, hOM40, h⟩ := h
            refine wm_if_eq (tgt := 79) d_MM_looseness_72 rfl h42 (fun c44 => ?_) (fun c44 => ?_)
            · replace h := h.1 c44
              refine wm_iconst d_MM_looseness_79 ?_
              refine wm_less (L' := [vd, vd, vd, vd]) ⟨Or.inl rfl, Or.inl rfl, Or.inl rfl, Or.inl rfl, trivial⟩ ?_
              exact h
            · replace h := h.2 c44
              refine wm_iconst d_MM_looseness_75 ?_
              refine wm_goto (tgt := 80) d_MM_looseness_76 rfl ?_
              refine wm_less (L' := [vd, vd, vd, vd]) ⟨Or.inl rfl, Or.inl rfl, Or.inl rfl, Or.inl rfl, trivial⟩ ?_
              exact h
        have hE1 : ¬ ((x3 = 24) ∨ (x3 = 25)) → mWm G y_MM_looseness (d + 1) 81 [vr a0, vi l1, vi l2, vi x3] [] M20 (fun r9 M9 => ∃ x9, r9 = some (vi x9) ∧ Q x9 M9) := by
          intro q45
          have h := h.2 q45
          refine wm_iload_n d_MM_looseness_81 rfl rfl ?_
          refine wm_bipush d_MM_looseness_82 (by decide) ?_
          have hJ : ∀ v49 : Int, v49 = (if ((x3 = 26) ∨ ((x3 = 27) ∨ (x3 = 28))) then 1 else 0) → mWm G y_MM_looseness (d + 1) 104 [vd, vd, vd, vd] [vi v49] M20 (fun r9 M9 => ∃ x9, r9 = some (vi x9) ∧ Q x9 M9) := by
            intro v49 e51
            have h := h v49 e51
            have h52 : i32 v49 := by rw [e51]; (repeat' split) <;> first | exact ⟨by decide, by decide⟩ | exact ⟨by decide, by decide⟩
            have h53 : (v49 = 0 ∨ v49 = 1) := by rw [e51]; (repeat' split) <;> decide
            refine wm_ireturn d_MM_looseness_104 rfl rfl ?_
            exact ⟨_, rfl, h⟩
          clear h
          refine wm_icmp_eq (tgt := 99) d_MM_looseness_84 rfl h4 ⟨by decide, by decide⟩ (fun c46 => ?_) (fun c46 => ?_)
          · refine wm_iconst d_MM_looseness_99 ?_
            refine wm_goto (tgt := 104) d_MM_looseness_100 rfl ?_
            refine wm_less (L' := [vd, vd, vd, vd]) ⟨Or.inl rfl, Or.inl rfl, Or.inl rfl, Or.inl rfl, trivial⟩ ?_
            exact hJ 1 (if_pos (Or.inl c46)).symm
          · refine wm_iload_n d_MM_looseness_87 rfl rfl ?_
            refine wm_bipush d_MM_looseness_88 (by decide) ?_
            refine wm_icmp_eq (tgt := 99) d_MM_looseness_90 rfl h4 ⟨by decide, by decide⟩ (fun c47 => ?_) (fun c47 => ?_)
            · refine wm_iconst d_MM_looseness_99 ?_
              refine wm_goto (tgt := 104) d_MM_looseness_100 rfl ?_
              refine wm_less (L' := [vd, vd, vd, vd]) ⟨Or.inl rfl, Or.inl rfl, Or.inl rfl, Or.inl rfl, trivial⟩ ?_
              exact hJ 1 (if_pos (Or.inr (Or.inl c47))).symm
            · refine wm_iload_n d_MM_looseness_93 rfl rfl ?_
              refine wm_bipush d_MM_looseness_94 (by decide) ?_
              refine wm_icmp_ne (tgt := 103) d_MM_looseness_96 rfl h4 ⟨by decide, by decide⟩ (fun c48 => ?_) (fun c48 => ?_)
              · refine wm_iconst d_MM_looseness_103 ?_
                refine wm_less (L' := [vd, vd, vd, vd]) ⟨Or.inl rfl, Or.inl rfl, Or.inl rfl, Or.inl rfl, trivial⟩ ?_
                exact hJ 0 (if_neg (fun z54 => Or.elim z54 c46 (fun z55 => Or.elim z55 c47 c48))).symm
              · replace c48 := Classical.not_not.mp c48
                refine wm_iconst d_MM_looseness_99 ?_
                refine wm_goto (tgt := 104) d_MM_looseness_100 rfl ?_
                refine wm_less (L' := [vd, vd, vd, vd]) ⟨Or.inl rfl, Or.inl rfl, Or.inl rfl, Or.inl rfl, trivial⟩ ?_
                exact hJ 1 (if_pos (Or.inr (Or.inr c48))).symm
        clear h
        refine wm_icmp_eq (tgt := 60) d_MM_looseness_51 rfl h4 ⟨by decide, by decide⟩ (fun c34 => ?_) (fun c34 => ?_)
        · exact hE0 (Or.inl c34)
        · refine wm_iload_n d_MM_looseness_54 rfl rfl ?_
          refine wm_bipush d_MM_looseness_55 (by decide) ?_
          refine wm_icmp_ne (tgt := 81) d_MM_looseness_57 rfl h4 ⟨by decide, by decide⟩ (fun c33 => ?_) (fun c33 => ?_)
          · exact hE1 (fun z57 => Or.elim z57 c34 c33)
          · replace c33 := Classical.not_not.mp c33
            exact hE0 (Or.inr c33)
      · replace h := h.2 c29
        refine wm_iconst d_MM_looseness_46 ?_
        refine wm_ireturn d_MM_looseness_47 rfl rfl ?_
        exact ⟨_, rfl, h⟩
    clear h
    refine wm_icmp_eq (tgt := 27) d_MM_looseness_18 rfl h4 ⟨by decide, by decide⟩ (fun c10 => ?_) (fun c10 => ?_)
    · exact hE0 (Or.inl c10)
    · refine wm_iload_n d_MM_looseness_21 rfl rfl ?_
      refine wm_bipush d_MM_looseness_22 (by decide) ?_
      refine wm_icmp_ne (tgt := 39) d_MM_looseness_24 rfl h4 ⟨by decide, by decide⟩ (fun c9 => ?_) (fun c9 => ?_)
      · exact hE1 (fun z59 => Or.elim z59 c10 c9)
      · replace c9 := Classical.not_not.mp c9
        exact hE0 (Or.inr c9)
  · replace c8 := Classical.not_not.mp c8
    replace h := h.1 c8
    refine wm_bipush d_MM_looseness_12 (by decide) ?_
    refine wm_ireturn d_MM_looseness_14 rfl rfl ?_
    exact ⟨_, rfl, h⟩
theorem k_MM_looseness_80 {G : mG} {d : Nat} {k0 : Int} {M : mM} {Q : Int → mM → Prop} (hO : mOk M) (hi_k0 : i32 k0)
    (h : Q k0 M) :
    h_MM_looseness_80 G d k0 M Q := by
  unfold h_MM_looseness_80
  refine wm_ireturn d_MM_looseness_80 rfl rfl ?_
  exact ⟨_, rfl, h⟩
end
section
theorem d_MM_loosest_0 : decode y_MM_loosest.2.1 0 = .ok (.iconst (-1), 1) := dc9_2 (by decide +kernel)
theorem d_MM_loosest_1 : decode y_MM_loosest.2.1 1 = .ok (.istore_n 3, 1) := dc9_62 (by decide +kernel)
theorem d_MM_loosest_2 : decode y_MM_loosest.2.1 2 = .ok (.iconst 0, 1) := dc9_3 (by decide +kernel)
theorem d_MM_loosest_3 : decode y_MM_loosest.2.1 3 = .ok (.istore 4, 2) := dc9_54 (by decide +kernel)
theorem d_MM_loosest_5 : decode y_MM_loosest.2.1 5 = .ok (.iconst 0, 1) := dc9_3 (by decide +kernel)
theorem d_MM_loosest_6 : decode y_MM_loosest.2.1 6 = .ok (.istore 5, 2) := dc9_54 (by decide +kernel)
theorem d_MM_loosest_8 : decode y_MM_loosest.2.1 8 = .ok (.iload_n 1, 1) := dc9_27 (by decide +kernel)
theorem d_MM_loosest_9 : decode y_MM_loosest.2.1 9 = .ok (.istore 6, 2) := dc9_54 (by decide +kernel)
theorem d_MM_loosest_11 : decode y_MM_loosest.2.1 11 = .ok (.iload 6, 2) := dc9_21 (by decide +kernel)
theorem d_MM_loosest_13 : decode y_MM_loosest.2.1 13 = .ok (.iload_n 2, 1) := dc9_28 (by decide +kernel)
theorem d_MM_loosest_14 : decode y_MM_loosest.2.1 14 = .ok (.if_icmp .ge 104, 3) := dc9_162 (by decide +kernel)
theorem d_MM_loosest_118 : decode y_MM_loosest.2.1 118 = .ok (.aload_n 0, 1) := dc9_42 (by decide +kernel)
theorem d_MM_loosest_119 : decode y_MM_loosest.2.1 119 = .ok (.iload_n 1, 1) := dc9_27 (by decide +kernel)
theorem d_MM_loosest_17 : decode y_MM_loosest.2.1 17 = .ok (.aload_n 0, 1) := dc9_42 (by decide +kernel)
theorem d_MM_loosest_18 : decode y_MM_loosest.2.1 18 = .ok (.iload 6, 2) := dc9_21 (by decide +kernel)
theorem d_MM_loosest_120 : decode y_MM_loosest.2.1 120 = .ok (.invokevirtual 302, 3) := dc9_182 (by decide +kernel)
theorem d_MM_loosest_123 : decode y_MM_loosest.2.1 123 = .ok (.bipush 31, 2) := dc9_16 (by decide +kernel)
theorem d_MM_loosest_125 : decode y_MM_loosest.2.1 125 = .ok (.if_icmp .ne 13, 3) := dc9_160 (by decide +kernel)
theorem d_MM_loosest_128 : decode y_MM_loosest.2.1 128 = .ok (.iload 4, 2) := dc9_21 (by decide +kernel)
theorem d_MM_loosest_130 : decode y_MM_loosest.2.1 130 = .ok (.iconst 4, 1) := dc9_7 (by decide +kernel)
theorem d_MM_loosest_131 : decode y_MM_loosest.2.1 131 = .ok (.if_icmp .ge 7, 3) := dc9_162 (by decide +kernel)
theorem d_MM_loosest_138 : decode y_MM_loosest.2.1 138 = .ok (.iload_n 3, 1) := dc9_29 (by decide +kernel)
theorem d_MM_loosest_134 : decode y_MM_loosest.2.1 134 = .ok (.iconst (-1), 1) := dc9_2 (by decide +kernel)
theorem d_MM_loosest_135 : decode y_MM_loosest.2.1 135 = .ok (.goto 4, 3) := dc9_167 (by decide +kernel)
theorem d_MM_loosest_139 : decode y_MM_loosest.2.1 139 = .ok (.ireturn, 1) := dc9_172 (by decide +kernel)
theorem d_MM_loosest_20 : decode y_MM_loosest.2.1 20 = .ok (.invokevirtual 302, 3) := dc9_182 (by decide +kernel)
theorem d_MM_loosest_23 : decode y_MM_loosest.2.1 23 = .ok (.bipush 37, 2) := dc9_16 (by decide +kernel)
theorem d_MM_loosest_25 : decode y_MM_loosest.2.1 25 = .ok (.if_icmp .ne 10, 3) := dc9_160 (by decide +kernel)
theorem d_MM_loosest_28 : decode y_MM_loosest.2.1 28 = .ok (.iload 5, 2) := dc9_21 (by decide +kernel)
theorem d_MM_loosest_30 : decode y_MM_loosest.2.1 30 = .ok (.iconst 1, 1) := dc9_4 (by decide +kernel)
theorem d_MM_loosest_31 : decode y_MM_loosest.2.1 31 = .ok (.isub, 1) := dc9_100 (by decide +kernel)
theorem d_MM_loosest_32 : decode y_MM_loosest.2.1 32 = .ok (.goto 5, 3) := dc9_167 (by decide +kernel)
theorem d_MM_loosest_35 : decode y_MM_loosest.2.1 35 = .ok (.iload 5, 2) := dc9_21 (by decide +kernel)
theorem d_MM_loosest_37 : decode y_MM_loosest.2.1 37 = .ok (.istore 5, 2) := dc9_54 (by decide +kernel)
theorem d_MM_loosest_39 : decode y_MM_loosest.2.1 39 = .ok (.iload 5, 2) := dc9_21 (by decide +kernel)
theorem d_MM_loosest_41 : decode y_MM_loosest.2.1 41 = .ok (.ifCond .ne 13, 3) := dc9_154 (by decide +kernel)
theorem d_MM_loosest_44 : decode y_MM_loosest.2.1 44 = .ok (.aload_n 0, 1) := dc9_42 (by decide +kernel)
theorem d_MM_loosest_45 : decode y_MM_loosest.2.1 45 = .ok (.iload 6, 2) := dc9_21 (by decide +kernel)
theorem d_MM_loosest_47 : decode y_MM_loosest.2.1 47 = .ok (.iload_n 1, 1) := dc9_27 (by decide +kernel)
theorem d_MM_loosest_54 : decode y_MM_loosest.2.1 54 = .ok (.iconst 0, 1) := dc9_3 (by decide +kernel)
theorem d_MM_loosest_48 : decode y_MM_loosest.2.1 48 = .ok (.invokevirtual 307, 3) := dc9_182 (by decide +kernel)
theorem d_MM_loosest_51 : decode y_MM_loosest.2.1 51 = .ok (.goto 4, 3) := dc9_167 (by decide +kernel)
theorem d_MM_loosest_55 : decode y_MM_loosest.2.1 55 = .ok (.istore 7, 2) := dc9_54 (by decide +kernel)
theorem d_MM_loosest_57 : decode y_MM_loosest.2.1 57 = .ok (.iload 7, 2) := dc9_21 (by decide +kernel)
theorem d_MM_loosest_59 : decode y_MM_loosest.2.1 59 = .ok (.iload 4, 2) := dc9_21 (by decide +kernel)
theorem d_MM_loosest_61 : decode y_MM_loosest.2.1 61 = .ok (.if_icmp .gt 22, 3) := dc9_163 (by decide +kernel)
theorem d_MM_loosest_83 : decode y_MM_loosest.2.1 83 = .ok (.iload 7, 2) := dc9_21 (by decide +kernel)
theorem d_MM_loosest_85 : decode y_MM_loosest.2.1 85 = .ok (.istore 4, 2) := dc9_54 (by decide +kernel)
theorem d_MM_loosest_87 : decode y_MM_loosest.2.1 87 = .ok (.iload 6, 2) := dc9_21 (by decide +kernel)
theorem d_MM_loosest_89 : decode y_MM_loosest.2.1 89 = .ok (.istore_n 3, 1) := dc9_62 (by decide +kernel)
theorem d_MM_loosest_64 : decode y_MM_loosest.2.1 64 = .ok (.iload 7, 2) := dc9_21 (by decide +kernel)
theorem d_MM_loosest_66 : decode y_MM_loosest.2.1 66 = .ok (.ifCond .le 24, 3) := dc9_158 (by decide +kernel)
theorem d_MM_loosest_69 : decode y_MM_loosest.2.1 69 = .ok (.iload 7, 2) := dc9_21 (by decide +kernel)
theorem d_MM_loosest_71 : decode y_MM_loosest.2.1 71 = .ok (.iload 4, 2) := dc9_21 (by decide +kernel)
theorem d_MM_loosest_73 : decode y_MM_loosest.2.1 73 = .ok (.if_icmp .ne 17, 3) := dc9_160 (by decide +kernel)
theorem d_MM_loosest_76 : decode y_MM_loosest.2.1 76 = .ok (.iload 7, 2) := dc9_21 (by decide +kernel)
theorem d_MM_loosest_78 : decode y_MM_loosest.2.1 78 = .ok (.bipush 6, 2) := dc9_16 (by decide +kernel)
theorem d_MM_loosest_80 : decode y_MM_loosest.2.1 80 = .ok (.if_icmp .ge 10, 3) := dc9_162 (by decide +kernel)
theorem d_MM_loosest_90 : decode y_MM_loosest.2.1 90 = .ok (.aload_n 0, 1) := dc9_42 (by decide +kernel)
theorem d_MM_loosest_91 : decode y_MM_loosest.2.1 91 = .ok (.iload 6, 2) := dc9_21 (by decide +kernel)
theorem d_MM_loosest_93 : decode y_MM_loosest.2.1 93 = .ok (.invokevirtual 302, 3) := dc9_182 (by decide +kernel)
theorem d_MM_loosest_96 : decode y_MM_loosest.2.1 96 = .ok (.bipush 36, 2) := dc9_16 (by decide +kernel)
theorem d_MM_loosest_98 : decode y_MM_loosest.2.1 98 = .ok (.if_icmp .ne 10, 3) := dc9_160 (by decide +kernel)
theorem d_MM_loosest_101 : decode y_MM_loosest.2.1 101 = .ok (.iload 5, 2) := dc9_21 (by decide +kernel)
theorem d_MM_loosest_103 : decode y_MM_loosest.2.1 103 = .ok (.iconst 1, 1) := dc9_4 (by decide +kernel)
theorem d_MM_loosest_104 : decode y_MM_loosest.2.1 104 = .ok (.iadd, 1) := dc9_96 (by decide +kernel)
theorem d_MM_loosest_105 : decode y_MM_loosest.2.1 105 = .ok (.goto 5, 3) := dc9_167 (by decide +kernel)
theorem d_MM_loosest_108 : decode y_MM_loosest.2.1 108 = .ok (.iload 5, 2) := dc9_21 (by decide +kernel)
theorem d_MM_loosest_110 : decode y_MM_loosest.2.1 110 = .ok (.istore 5, 2) := dc9_54 (by decide +kernel)
theorem d_MM_loosest_112 : decode y_MM_loosest.2.1 112 = .ok (.iinc 6 1, 3) := by decide +kernel
theorem d_MM_loosest_115 : decode y_MM_loosest.2.1 115 = .ok (.goto (-104), 3) := dc9_167 (by decide +kernel)
def h_MM_loosest_11 (G : mG) (d : Nat) (a0 : Nat) (l1 : Int) (l2 : Int) (l3 : Int) (l4 : Int) (l5 : Int) (l6 : Int) (M : mM) (Q : Int → mM → Prop) : Prop := mWm G y_MM_loosest (d + 1) 11 [vr a0, vi l1, vi l2, vi l3, vi l4, vi l5, vi l6, vd] [] M (fun r9 M9 => ∃ x9, r9 = some (vi x9) ∧ Q x9 M9)
def h_MM_loosest_55 (G : mG) (d : Nat) (a0 : Nat) (l1 : Int) (l2 : Int) (l3 : Int) (l4 : Int) (l5 : Int) (l6 : Int) (k0 : Int) (M : mM) (Q : Int → mM → Prop) : Prop := mWm G y_MM_loosest (d + 1) 55 [vr a0, vi l1, vi l2, vi l3, vi l4, vi l5, vi l6, vd] [vi k0] M (fun r9 M9 => ∃ x9, r9 = some (vi x9) ∧ Q x9 M9)
theorem k_MM_loosest {G : mG} {d : Nat} {a0 : Nat} {l1 : Int} {l2 : Int} {M : mM} {Q : Int → mM → Prop} (hO : mOk M) (hi_l1 : i32 l1) (hi_l2 : i32 l2)
    (h : h_MM_loosest_11 G d a0 l1 l2 (-1) 0 0 l1 M Q) :
    Ci G y_MM_loosest (d + 1) [vr a0, vi l1, vi l2] M Q := by
  refine wm_open (y := y_MM_loosest) rfl (Nat.le_of_ble_eq_true rfl) (L := [vr a0, vi l1, vi l2, vd, vd, vd, vd, vd]) rfl ?_
  refine wm_iconst d_MM_loosest_0 ?_
  refine wm_istore_n d_MM_loosest_1 rfl (by decide) (L' := [vr a0, vi l1, vi l2, vi (-1), vd, vd, vd, vd]) rfl ?_
  refine wm_iconst d_MM_loosest_2 ?_
  refine wm_istore d_MM_loosest_3 (by decide) (L' := [vr a0, vi l1, vi l2, vi (-1), vi 0, vd, vd, vd]) rfl ?_
  refine wm_iconst d_MM_loosest_5 ?_
  refine wm_istore d_MM_loosest_6 (by decide) (L' := [vr a0, vi l1, vi l2, vi (-1), vi 0, vi 0, vd, vd]) rfl ?_
  refine wm_iload_n d_MM_loosest_8 rfl rfl ?_
  refine wm_istore d_MM_loosest_9 (by decide) (L' := [vr a0, vi l1, vi l2, vi (-1), vi 0, vi 0, vi l1, vd]) rfl ?_
  exact h
theorem k_MM_loosest_11 {G : mG} {d : Nat} {a0 : Nat} {l1 : Int} {l2 : Int} {l3 : Int} {l4 : Int} {l5 : Int} {l6 : Int} {M : mM} {Q : Int → mM → Prop} (hO : mOk M) (hi_l1 : i32 l1) (hi_l2 : i32 l2) (hi_l3 : i32 l3) (hi_l4 : i32 l4) (hi_l5 : i32 l5) (hi_l6 : i32 l6)
    (h : ((l2 ≤ l6) → (mK M a0 = 14 ∧ Ci G y_MM_word1 d [vr a0, vi l1] M (fun x5 M4 => i32 x5 ∧ mOk M4 ∧ (∀ v9 : Int, v9 = (if ((¬ (x5 = 31)) ∨ (4 ≤ l4)) then l3 else (-1)) → Q v9 M4)))) ∧ (¬ (l2 ≤ l6) → (mK M a0 = 14 ∧ Ci G y_MM_word1 d [vr a0, vi l6] M (fun x17 M16 => i32 x17 ∧ mOk M16 ∧ (∀ v20 : Int, v20 = (if (x17 = 37) then l5 - 1 else l5) → i32 v20 ∧ ((v20 = 0) → (mK M16 a0 = 14 ∧ Ci G y_MM_looseness d [vr a0, vi l6, vi l1] M16 (fun x29 M28 => i32 x29 ∧ mOk M28 ∧ (h_MM_loosest_55 G d a0 l1 l2 l3 l4 v20 l6 x29 M28 Q)))) ∧ (¬ (v20 = 0) → (h_MM_loosest_55 G d a0 l1 l2 l3 l4 v20 l6 0 M16 Q))))))) :
    h_MM_loosest_11 G d a0 l1 l2 l3 l4 l5 l6 M Q := by
  unfold h_MM_loosest_11
  refine wm_iload d_MM_loosest_11 rfl ?_
  refine wm_iload_n d_MM_loosest_13 rfl rfl ?_
  refine wm_icmp_ge (tgt := 118) d_MM_loosest_14 rfl hi_l6 hi_l2 (fun c2 => ?_) (fun c2 => ?_)
  · replace h := h.1 c2
    obtain ⟨h3, h⟩ := h
    refine wm_aload_n d_MM_loosest_118 rfl rfl ?_
    refine wm_iload_n d_MM_loosest_119 rfl rfl ?_
    refine cf_MM_302 rfl d_MM_loosest_120 h3 (Nat.le_of_ble_eq_true rfl) (Ci.mono h (fun x5 M4 h => ?_))
    obtain ⟨h6, hOM4, h⟩ := h
    refine wm_bipush d_MM_loosest_123 (by decide) ?_
    have hJ : ∀ v9 : Int, v9 = (if ((¬ (x5 = 31)) ∨ (4 ≤ l4)) then l3 else (-1)) → mWm G y_MM_loosest (d + 1) 139 [vd, vd, vd, vd, vd, vd, vd, vd] [vi v9] M4 (fun r9 M9 => ∃ x9, r9 = some (vi x9) ∧ Q x9 M9) := by
      intro v9 e11
      have h := h v9 e11
      have h12 : i32 v9 := by rw [e11]; (repeat' split) <;> first | exact hi_l3 | exact ⟨by decide, by decide⟩
      refine wm_ireturn d_MM_loosest_139 rfl rfl ?_
      exact ⟨_, rfl, h⟩
    clear h
    refine wm_icmp_ne (tgt := 138) d_MM_loosest_125 rfl h6 ⟨by decide, by decide⟩ (fun c7 => ?_) (fun c7 => ?_)
    · refine wm_iload_n d_MM_loosest_138 rfl rfl ?_
      refine wm_less (L' := [vd, vd, vd, vd, vd, vd, vd, vd]) ⟨Or.inl rfl, Or.inl rfl, Or.inl rfl, Or.inl rfl, Or.inl rfl, Or.inl rfl, Or.inl rfl, Or.inl rfl, trivial⟩ ?_
      exact hJ l3 (if_pos (Or.inl c7)).symm
    · replace c7 := Classical.not_not.mp c7
      refine wm_iload d_MM_loosest_128 rfl ?_
      refine wm_iconst d_MM_loosest_130 ?_
      refine wm_icmp_ge (tgt := 138) d_MM_loosest_131 rfl hi_l4 ⟨by decide, by decide⟩ (fun c8 => ?_) (fun c8 => ?_)
      · refine wm_iload_n d_MM_loosest_138 rfl rfl ?_
        refine wm_less (L' := [vd, vd, vd, vd, vd, vd, vd, vd]) ⟨Or.inl rfl, Or.inl rfl, Or.inl rfl, Or.inl rfl, Or.inl rfl, Or.inl rfl, Or.inl rfl, Or.inl rfl, trivial⟩ ?_
        exact hJ l3 (if_pos (Or.inr c8)).symm
      · refine wm_iconst d_MM_loosest_134 ?_
        refine wm_goto (tgt := 139) d_MM_loosest_135 rfl ?_
        refine wm_less (L' := [vd, vd, vd, vd, vd, vd, vd, vd]) ⟨Or.inl rfl, Or.inl rfl, Or.inl rfl, Or.inl rfl, Or.inl rfl, Or.inl rfl, Or.inl rfl, Or.inl rfl, trivial⟩ ?_
        exact hJ (-1) (if_neg (fun z13 => Or.elim z13 (fun w => w c7) c8)).symm
  · replace h := h.2 c2
    obtain ⟨h15, h⟩ := h
    refine wm_aload_n d_MM_loosest_17 rfl rfl ?_
    refine wm_iload d_MM_loosest_18 rfl ?_
    refine cf_MM_302 rfl d_MM_loosest_20 h15 (Nat.le_of_ble_eq_true rfl) (Ci.mono h (fun x17 M16 h => ?_))
    obtain ⟨h18, hOM16, h⟩ := h
    refine wm_bipush d_MM_loosest_23 (by decide) ?_
    have hJ : ∀ v20 : Int, v20 = (if (x17 = 37) then l5 - 1 else l5) → mWm G y_MM_loosest (d + 1) 37 [vr a0, vi l1, vi l2, vi l3, vi l4, vd, vi l6, vd] [vi v20] M16 (fun r9 M9 => ∃ x9, r9 = some (vi x9) ∧ Q x9 M9) := by
      intro v20 e22
      have h := h v20 e22
      obtain ⟨h25, h⟩ := h
      refine wm_istore d_MM_loosest_37 (by decide) (L' := [vr a0, vi l1, vi l2, vi l3, vi l4, vi v20, vi l6, vd]) rfl ?_
      refine wm_iload d_MM_loosest_39 rfl ?_
      refine wm_if_ne (tgt := 54) d_MM_loosest_41 rfl h25 (fun c26 => ?_) (fun c26 => ?_)
      · replace h := h.2 c26
        refine wm_iconst d_MM_loosest_54 ?_
        exact h
      · replace c26 := Classical.not_not.mp c26
        replace h := h.1 c26
        obtain ⟨h27, h⟩ := h
        refine wm_aload_n d_MM_loosest_44 rfl rfl ?_
        refine wm_iload d_MM_loosest_45 rfl ?_
        refine wm_iload_n d_MM_loosest_47 rfl rfl ?_
        refine cf_MM_307 rfl d_MM_loosest_48 h27 (Nat.le_of_ble_eq_true rfl) (Ci.mono h (fun x29 M28 h => ?_))
        obtain ⟨h30, hOM28, h⟩ := h
        refine wm_goto (tgt := 55) d_MM_loosest_51 rfl ?_
        exact h
    clear h
    refine wm_icmp_ne (tgt := 35) d_MM_loosest_25 rfl h18 ⟨by decide, by decide⟩ (fun c19 => ?_) (fun c19 => ?_)
    · refine wm_iload d_MM_loosest_35 rfl ?_
      refine wm_less (L' := [vr a0, vi l1, vi l2, vi l3, vi l4, vd, vi l6, vd]) ⟨Or.inr rfl, Or.inr rfl, Or.inr rfl, Or.inr rfl, Or.inr rfl, Or.inl rfl, Or.inr rfl, Or.inl rfl, trivial⟩ ?_
      exact hJ l5 (if_neg c19).symm
    · replace c19 := Classical.not_not.mp c19
      refine wm_iload d_MM_loosest_28 rfl ?_
      refine wm_iconst d_MM_loosest_30 ?_
      refine wm_isub d_MM_loosest_31 ?_
      refine wm_goto (tgt := 37) d_MM_loosest_32 rfl ?_
      refine wm_less (L' := [vr a0, vi l1, vi l2, vi l3, vi l4, vd, vi l6, vd]) ⟨Or.inr rfl, Or.inr rfl, Or.inr rfl, Or.inr rfl, Or.inr rfl, Or.inl rfl, Or.inr rfl, Or.inl rfl, trivial⟩ ?_
      exact hJ (l5 - 1) (if_pos c19).symm
theorem k_MM_loosest_55 {G : mG} {d : Nat} {a0 : Nat} {l1 : Int} {l2 : Int} {l3 : Int} {l4 : Int} {l5 : Int} {l6 : Int} {k0 : Int} {M : mM} {Q : Int → mM → Prop} (hO : mOk M) (hi_l1 : i32 l1) (hi_l2 : i32 l2) (hi_l3 : i32 l3) (hi_l4 : i32 l4) (hi_l5 : i32 l5) (hi_l6 : i32 l6) (hi_k0 : i32 k0)
    (h : ∀ v36 : Int, v36 = (if ((l4 < k0) ∨ ((¬ (k0 ≤ 0)) ∧ ((k0 = l4) ∧ (¬ (6 ≤ k0))))) then l6 else l3) → ∀ v37 : Int, v37 = (if ((l4 < k0) ∨ ((¬ (k0 ≤ 0)) ∧ ((k0 = l4) ∧ (¬ (6 ≤ k0))))) then k0 else l4) → mK M a0 = 14 ∧ Ci G y_MM_word1 d [vr a0, vi l6] M (fun x45 M44 => i32 x45 ∧ mOk M44 ∧ (∀ v48 : Int, v48 = (if (x45 = 36) then l5 + 1 else l5) → h_MM_loosest_11 G d a0 l1 l2 v36 v37 v48 (l6 + 1) M44 Q))) :
    h_MM_loosest_55 G d a0 l1 l2 l3 l4 l5 l6 k0 M Q := by
  unfold h_MM_loosest_55
  refine wm_istore d_MM_loosest_55 (by decide) (L' := [vr a0, vi l1, vi l2, vi l3, vi l4, vi l5, vi l6, vi k0]) rfl ?_
  refine wm_iload d_MM_loosest_57 rfl ?_
  refine wm_iload d_MM_loosest_59 rfl ?_
  have hJ : ∀ v36 : Int, v36 = (if ((l4 < k0) ∨ ((¬ (k0 ≤ 0)) ∧ ((k0 = l4) ∧ (¬ (6 ≤ k0))))) then l6 else l3) → ∀ v37 : Int, v37 = (if ((l4 < k0) ∨ ((¬ (k0 ≤ 0)) ∧ ((k0 = l4) ∧ (¬ (6 ≤ k0))))) then k0 else l4) → mWm G y_MM_loosest (d + 1) 90 [vr a0, vi l1, vi l2, vi v36, vi v37, vi l5, vi l6, vd] [] M (fun r9 M9 => ∃ x9, r9 = some (vi x9) ∧ Q x9 M9) := by
    intro v36 e39
    intro v37 e40
    have h := h v36 e39 v37 e40
    have h41 : i32 v36 := by rw [e39]; (repeat' split) <;> first | exact hi_l6 | exact hi_l3
    have h42 : i32 v37 := by rw [e40]; (repeat' split) <;> first | exact hi_k0 | exact hi_l4
    obtain ⟨h43, h⟩ := h
    refine wm_aload_n d_MM_loosest_90 rfl rfl ?_
    refine wm_iload d_MM_loosest_91 rfl ?_
    refine cf_MM_302 rfl d_MM_loosest_93 h43 (Nat.le_of_ble_eq_true rfl) (Ci.mono h (fun x45 M44 h => ?_))
    obtain ⟨h46, hOM44, h⟩ := h
    refine wm_bipush d_MM_loosest_96 (by decide) ?_
    have hJ : ∀ v48 : Int, v48 = (if (x45 = 36) then l5 + 1 else l5) → mWm G y_MM_loosest (d + 1) 110 [vr a0, vi l1, vi l2, vi v36, vi v37, vd, vi l6, vd] [vi v48] M44 (fun r9 M9 => ∃ x9, r9 = some (vi x9) ∧ Q x9 M9) := by
      intro v48 e50
      have h := h v48 e50
      refine wm_istore d_MM_loosest_110 (by decide) (L' := [vr a0, vi l1, vi l2, vi v36, vi v37, vi v48, vi l6, vd]) rfl ?_
      refine wm_iinc d_MM_loosest_112 (by decide) rfl (L' := [vr a0, vi l1, vi l2, vi v36, vi v37, vi v48, vi (l6 + 1), vd]) rfl ?_
      refine wm_goto (tgt := 11) d_MM_loosest_115 rfl ?_
      exact h
    clear h
    refine wm_icmp_ne (tgt := 108) d_MM_loosest_98 rfl h46 ⟨by decide, by decide⟩ (fun c47 => ?_) (fun c47 => ?_)
    · refine wm_iload d_MM_loosest_108 rfl ?_
      refine wm_less (L' := [vr a0, vi l1, vi l2, vi v36, vi v37, vd, vi l6, vd]) ⟨Or.inr rfl, Or.inr rfl, Or.inr rfl, Or.inr rfl, Or.inr rfl, Or.inl rfl, Or.inr rfl, Or.inl rfl, trivial⟩ ?_
      exact hJ l5 (if_neg c47).symm
    · replace c47 := Classical.not_not.mp c47
      refine wm_iload d_MM_loosest_101 rfl ?_
      refine wm_iconst d_MM_loosest_103 ?_
      refine wm_iadd d_MM_loosest_104 ?_
      refine wm_goto (tgt := 110) d_MM_loosest_105 rfl ?_
      refine wm_less (L' := [vr a0, vi l1, vi l2, vi v36, vi v37, vd, vi l6, vd]) ⟨Or.inr rfl, Or.inr rfl, Or.inr rfl, Or.inr rfl, Or.inr rfl, Or.inl rfl, Or.inr rfl, Or.inl rfl, trivial⟩ ?_
      exact hJ (l5 + 1) (if_pos c47).symm
  clear h
  refine wm_icmp_gt (tgt := 83) d_MM_loosest_61 rfl hi_k0 hi_l4 (fun c32 => ?_) (fun c32 => ?_)
  · refine wm_iload d_MM_loosest_83 rfl ?_
    refine wm_istore d_MM_loosest_85 (by decide) (L' := [vr a0, vi l1, vi l2, vi l3, vi k0, vi l5, vi l6, vi k0]) rfl ?_
    refine wm_iload d_MM_loosest_87 rfl ?_
    refine wm_istore_n d_MM_loosest_89 rfl (by decide) (L' := [vr a0, vi l1, vi l2, vi l6, vi k0, vi l5, vi l6, vi k0]) rfl ?_
    refine wm_less (L' := [vr a0, vi l1, vi l2, vi l6, vi k0, vi l5, vi l6, vd]) ⟨Or.inr rfl, Or.inr rfl, Or.inr rfl, Or.inr rfl, Or.inr rfl, Or.inr rfl, Or.inr rfl, Or.inl rfl, trivial⟩ ?_
    exact hJ l6 (if_pos (Or.inl c32)).symm k0 (if_pos (Or.inl c32)).symm
  · refine wm_iload d_MM_loosest_64 rfl ?_
    refine wm_if_le (tgt := 90) d_MM_loosest_66 rfl hi_k0 (fun c33 => ?_) (fun c33 => ?_)
    · refine wm_less (L' := [vr a0, vi l1, vi l2, vi l3, vi l4, vi l5, vi l6, vd]) ⟨Or.inr rfl, Or.inr rfl, Or.inr rfl, Or.inr rfl, Or.inr rfl, Or.inr rfl, Or.inr rfl, Or.inl rfl, trivial⟩ ?_
      exact hJ l3 (if_neg (fun z52 => Or.elim z52 c32 (fun z53 => z53.1 c33))).symm l4 (if_neg (fun z54 => Or.elim z54 c32 (fun z55 => z55.1 c33))).symm
    · refine wm_iload d_MM_loosest_69 rfl ?_
      refine wm_iload d_MM_loosest_71 rfl ?_
      refine wm_icmp_ne (tgt := 90) d_MM_loosest_73 rfl hi_k0 hi_l4 (fun c34 => ?_) (fun c34 => ?_)
      · refine wm_less (L' := [vr a0, vi l1, vi l2, vi l3, vi l4, vi l5, vi l6, vd]) ⟨Or.inr rfl, Or.inr rfl, Or.inr rfl, Or.inr rfl, Or.inr rfl, Or.inr rfl, Or.inr rfl, Or.inl rfl, trivial⟩ ?_
        exact hJ l3 (if_neg (fun z64 => Or.elim z64 c32 (fun z65 => (fun z66 => c34 z66.1) z65.2))).symm l4 (if_neg (fun z67 => Or.elim z67 c32 (fun z68 => (fun z69 => c34 z69.1) z68.2))).symm
      · replace c34 := Classical.not_not.mp c34
        refine wm_iload d_MM_loosest_76 rfl ?_
        refine wm_bipush d_MM_loosest_78 (by decide) ?_
        refine wm_icmp_ge (tgt := 90) d_MM_loosest_80 rfl hi_k0 ⟨by decide, by decide⟩ (fun c35 => ?_) (fun c35 => ?_)
        · refine wm_less (L' := [vr a0, vi l1, vi l2, vi l3, vi l4, vi l5, vi l6, vd]) ⟨Or.inr rfl, Or.inr rfl, Or.inr rfl, Or.inr rfl, Or.inr rfl, Or.inr rfl, Or.inr rfl, Or.inl rfl, trivial⟩ ?_
          exact hJ l3 (if_neg (fun z56 => Or.elim z56 c32 (fun z57 => (fun z58 => (fun z59 => z59 c35) z58.2) z57.2))).symm l4 (if_neg (fun z60 => Or.elim z60 c32 (fun z61 => (fun z62 => (fun z63 => z63 c35) z62.2) z61.2))).symm
        · refine wm_iload d_MM_loosest_83 rfl ?_
          refine wm_istore d_MM_loosest_85 (by decide) (L' := [vr a0, vi l1, vi l2, vi l3, vi k0, vi l5, vi l6, vi k0]) rfl ?_
          refine wm_iload d_MM_loosest_87 rfl ?_
          refine wm_istore_n d_MM_loosest_89 rfl (by decide) (L' := [vr a0, vi l1, vi l2, vi l6, vi k0, vi l5, vi l6, vi k0]) rfl ?_
          refine wm_less (L' := [vr a0, vi l1, vi l2, vi l6, vi k0, vi l5, vi l6, vd]) ⟨Or.inr rfl, Or.inr rfl, Or.inr rfl, Or.inr rfl, Or.inr rfl, Or.inr rfl, Or.inr rfl, Or.inl rfl, trivial⟩ ?_
          exact hJ l6 (if_pos (Or.inr ⟨c33, ⟨c34, c35⟩⟩)).symm k0 (if_pos (Or.inr ⟨c33, ⟨c34, c35⟩⟩)).symm
theorem d_MM_colonOf_0 : decode y_MM_colonOf.2.1 0 = .ok (.iconst 0, 1) := dc9_3 (by decide +kernel)
theorem d_MM_colonOf_1 : decode y_MM_colonOf.2.1 1 = .ok (.istore_n 3, 1) := dc9_62 (by decide +kernel)
theorem d_MM_colonOf_2 : decode y_MM_colonOf.2.1 2 = .ok (.iconst 0, 1) := dc9_3 (by decide +kernel)
theorem d_MM_colonOf_3 : decode y_MM_colonOf.2.1 3 = .ok (.istore 4, 2) := dc9_54 (by decide +kernel)
theorem d_MM_colonOf_5 : decode y_MM_colonOf.2.1 5 = .ok (.iload_n 1, 1) := dc9_27 (by decide +kernel)
theorem d_MM_colonOf_6 : decode y_MM_colonOf.2.1 6 = .ok (.istore 5, 2) := dc9_54 (by decide +kernel)
theorem d_MM_colonOf_8 : decode y_MM_colonOf.2.1 8 = .ok (.iconst 0, 1) := dc9_3 (by decide +kernel)
theorem d_MM_colonOf_9 : decode y_MM_colonOf.2.1 9 = .ok (.istore 6, 2) := dc9_54 (by decide +kernel)
theorem d_MM_colonOf_11 : decode y_MM_colonOf.2.1 11 = .ok (.iload 6, 2) := dc9_21 (by decide +kernel)
theorem d_MM_colonOf_13 : decode y_MM_colonOf.2.1 13 = .ok (.ifCond .ne 109, 3) := dc9_154 (by decide +kernel)
theorem d_MM_colonOf_16 : decode y_MM_colonOf.2.1 16 = .ok (.iinc 5 1, 3) := by decide +kernel
theorem d_MM_colonOf_19 : decode y_MM_colonOf.2.1 19 = .ok (.aload_n 0, 1) := dc9_42 (by decide +kernel)
theorem d_MM_colonOf_20 : decode y_MM_colonOf.2.1 20 = .ok (.iload 5, 2) := dc9_21 (by decide +kernel)
theorem d_MM_colonOf_122 : decode y_MM_colonOf.2.1 122 = .ok (.iload 5, 2) := dc9_21 (by decide +kernel)
theorem d_MM_colonOf_124 : decode y_MM_colonOf.2.1 124 = .ok (.ireturn, 1) := dc9_172 (by decide +kernel)
theorem d_MM_colonOf_22 : decode y_MM_colonOf.2.1 22 = .ok (.invokevirtual 302, 3) := dc9_182 (by decide +kernel)
theorem d_MM_colonOf_25 : decode y_MM_colonOf.2.1 25 = .ok (.istore 7, 2) := dc9_54 (by decide +kernel)
theorem d_MM_colonOf_27 : decode y_MM_colonOf.2.1 27 = .ok (.iload 7, 2) := dc9_21 (by decide +kernel)
theorem d_MM_colonOf_29 : decode y_MM_colonOf.2.1 29 = .ok (.bipush 36, 2) := dc9_16 (by decide +kernel)
theorem d_MM_colonOf_31 : decode y_MM_colonOf.2.1 31 = .ok (.if_icmp .ne 10, 3) := dc9_160 (by decide +kernel)
theorem d_MM_colonOf_34 : decode y_MM_colonOf.2.1 34 = .ok (.iload 4, 2) := dc9_21 (by decide +kernel)
theorem d_MM_colonOf_36 : decode y_MM_colonOf.2.1 36 = .ok (.iconst 1, 1) := dc9_4 (by decide +kernel)
theorem d_MM_colonOf_37 : decode y_MM_colonOf.2.1 37 = .ok (.iadd, 1) := dc9_96 (by decide +kernel)
theorem d_MM_colonOf_38 : decode y_MM_colonOf.2.1 38 = .ok (.goto 19, 3) := dc9_167 (by decide +kernel)
theorem d_MM_colonOf_41 : decode y_MM_colonOf.2.1 41 = .ok (.iload 7, 2) := dc9_21 (by decide +kernel)
theorem d_MM_colonOf_43 : decode y_MM_colonOf.2.1 43 = .ok (.bipush 37, 2) := dc9_16 (by decide +kernel)
theorem d_MM_colonOf_45 : decode y_MM_colonOf.2.1 45 = .ok (.if_icmp .ne 10, 3) := dc9_160 (by decide +kernel)
theorem d_MM_colonOf_48 : decode y_MM_colonOf.2.1 48 = .ok (.iload 4, 2) := dc9_21 (by decide +kernel)
theorem d_MM_colonOf_50 : decode y_MM_colonOf.2.1 50 = .ok (.iconst 1, 1) := dc9_4 (by decide +kernel)
theorem d_MM_colonOf_51 : decode y_MM_colonOf.2.1 51 = .ok (.isub, 1) := dc9_100 (by decide +kernel)
theorem d_MM_colonOf_52 : decode y_MM_colonOf.2.1 52 = .ok (.goto 5, 3) := dc9_167 (by decide +kernel)
theorem d_MM_colonOf_55 : decode y_MM_colonOf.2.1 55 = .ok (.iload 4, 2) := dc9_21 (by decide +kernel)
theorem d_MM_colonOf_57 : decode y_MM_colonOf.2.1 57 = .ok (.istore 4, 2) := dc9_54 (by decide +kernel)
theorem d_MM_colonOf_59 : decode y_MM_colonOf.2.1 59 = .ok (.iload 7, 2) := dc9_21 (by decide +kernel)
theorem d_MM_colonOf_61 : decode y_MM_colonOf.2.1 61 = .ok (.bipush 33, 2) := dc9_16 (by decide +kernel)
theorem d_MM_colonOf_63 : decode y_MM_colonOf.2.1 63 = .ok (.if_icmp .ne 16, 3) := dc9_160 (by decide +kernel)
theorem d_MM_colonOf_66 : decode y_MM_colonOf.2.1 66 = .ok (.iload 4, 2) := dc9_21 (by decide +kernel)
theorem d_MM_colonOf_68 : decode y_MM_colonOf.2.1 68 = .ok (.ifCond .ne 11, 3) := dc9_154 (by decide +kernel)
theorem d_MM_colonOf_71 : decode y_MM_colonOf.2.1 71 = .ok (.iload_n 3, 1) := dc9_29 (by decide +kernel)
theorem d_MM_colonOf_72 : decode y_MM_colonOf.2.1 72 = .ok (.ifCond .ne 7, 3) := dc9_154 (by decide +kernel)
theorem d_MM_colonOf_75 : decode y_MM_colonOf.2.1 75 = .ok (.iconst 1, 1) := dc9_4 (by decide +kernel)
theorem d_MM_colonOf_76 : decode y_MM_colonOf.2.1 76 = .ok (.goto 4, 3) := dc9_167 (by decide +kernel)
theorem d_MM_colonOf_79 : decode y_MM_colonOf.2.1 79 = .ok (.iconst 0, 1) := dc9_3 (by decide +kernel)
theorem d_MM_colonOf_80 : decode y_MM_colonOf.2.1 80 = .ok (.istore 6, 2) := dc9_54 (by decide +kernel)
theorem d_MM_colonOf_82 : decode y_MM_colonOf.2.1 82 = .ok (.iload 4, 2) := dc9_21 (by decide +kernel)
theorem d_MM_colonOf_84 : decode y_MM_colonOf.2.1 84 = .ok (.ifCond .le 7, 3) := dc9_158 (by decide +kernel)
theorem d_MM_colonOf_91 : decode y_MM_colonOf.2.1 91 = .ok (.iload 7, 2) := dc9_21 (by decide +kernel)
theorem d_MM_colonOf_93 : decode y_MM_colonOf.2.1 93 = .ok (.bipush 32, 2) := dc9_16 (by decide +kernel)
theorem d_MM_colonOf_95 : decode y_MM_colonOf.2.1 95 = .ok (.if_icmp .ne 9, 3) := dc9_160 (by decide +kernel)
theorem d_MM_colonOf_98 : decode y_MM_colonOf.2.1 98 = .ok (.iload_n 3, 1) := dc9_29 (by decide +kernel)
theorem d_MM_colonOf_99 : decode y_MM_colonOf.2.1 99 = .ok (.iconst 1, 1) := dc9_4 (by decide +kernel)
theorem d_MM_colonOf_100 : decode y_MM_colonOf.2.1 100 = .ok (.iadd, 1) := dc9_96 (by decide +kernel)
theorem d_MM_colonOf_101 : decode y_MM_colonOf.2.1 101 = .ok (.goto 17, 3) := dc9_167 (by decide +kernel)
theorem d_MM_colonOf_104 : decode y_MM_colonOf.2.1 104 = .ok (.iload 7, 2) := dc9_21 (by decide +kernel)
theorem d_MM_colonOf_106 : decode y_MM_colonOf.2.1 106 = .ok (.bipush 33, 2) := dc9_16 (by decide +kernel)
theorem d_MM_colonOf_108 : decode y_MM_colonOf.2.1 108 = .ok (.if_icmp .ne 9, 3) := dc9_160 (by decide +kernel)
theorem d_MM_colonOf_111 : decode y_MM_colonOf.2.1 111 = .ok (.iload_n 3, 1) := dc9_29 (by decide +kernel)
theorem d_MM_colonOf_112 : decode y_MM_colonOf.2.1 112 = .ok (.iconst 1, 1) := dc9_4 (by decide +kernel)
theorem d_MM_colonOf_113 : decode y_MM_colonOf.2.1 113 = .ok (.isub, 1) := dc9_100 (by decide +kernel)
theorem d_MM_colonOf_114 : decode y_MM_colonOf.2.1 114 = .ok (.goto 4, 3) := dc9_167 (by decide +kernel)
theorem d_MM_colonOf_117 : decode y_MM_colonOf.2.1 117 = .ok (.iload_n 3, 1) := dc9_29 (by decide +kernel)
theorem d_MM_colonOf_87 : decode y_MM_colonOf.2.1 87 = .ok (.iload_n 3, 1) := dc9_29 (by decide +kernel)
theorem d_MM_colonOf_88 : decode y_MM_colonOf.2.1 88 = .ok (.goto 30, 3) := dc9_167 (by decide +kernel)
theorem d_MM_colonOf_118 : decode y_MM_colonOf.2.1 118 = .ok (.istore_n 3, 1) := dc9_62 (by decide +kernel)
theorem d_MM_colonOf_119 : decode y_MM_colonOf.2.1 119 = .ok (.goto (-108), 3) := dc9_167 (by decide +kernel)
def h_MM_colonOf_11 (G : mG) (d : Nat) (a0 : Nat) (l3 : Int) (l4 : Int) (l5 : Int) (l6 : Int) (M : mM) (Q : Int → mM → Prop) : Prop := mWm G y_MM_colonOf (d + 1) 11 [vr a0, vd, vd, vi l3, vi l4, vi l5, vi l6, vd] [] M (fun r9 M9 => ∃ x9, r9 = some (vi x9) ∧ Q x9 M9)
theorem k_MM_colonOf {G : mG} {d : Nat} {a0 : Nat} {l1 : Int} {l2 : Int} {M : mM} {Q : Int → mM → Prop} (hO : mOk M) (hi_l1 : i32 l1) (hi_l2 : i32 l2)
    (h : h_MM_colonOf_11 G d a0 0 0 l1 0 M Q) :
    Ci G y_MM_colonOf (d + 1) [vr a0, vi l1, vi l2] M Q := by
  refine wm_open (y := y_MM_colonOf) rfl (Nat.le_of_ble_eq_true rfl) (L := [vr a0, vi l1, vi l2, vd, vd, vd, vd, vd]) rfl ?_
  refine wm_iconst d_MM_colonOf_0 ?_
  refine wm_istore_n d_MM_colonOf_1 rfl (by decide) (L' := [vr a0, vi l1, vi l2, vi 0, vd, vd, vd, vd]) rfl ?_
  refine wm_iconst d_MM_colonOf_2 ?_
  refine wm_istore d_MM_colonOf_3 (by decide) (L' := [vr a0, vi l1, vi l2, vi 0, vi 0, vd, vd, vd]) rfl ?_
  refine wm_iload_n d_MM_colonOf_5 rfl rfl ?_
  refine wm_istore d_MM_colonOf_6 (by decide) (L' := [vr a0, vi l1, vi l2, vi 0, vi 0, vi l1, vd, vd]) rfl ?_
  refine wm_iconst d_MM_colonOf_8 ?_
  refine wm_istore d_MM_colonOf_9 (by decide) (L' := [vr a0, vi l1, vi l2, vi 0, vi 0, vi l1, vi 0, vd]) rfl ?_
  refine wm_less (L' := [vr a0, vd, vd, vi 0, vi 0, vi l1, vi 0, vd]) ⟨Or.inr rfl, Or.inl rfl, Or.inl rfl, Or.inr rfl, Or.inr rfl, Or.inr rfl, Or.inr rfl, Or.inl rfl, trivial⟩ ?_
  exact h
theorem k_MM_colonOf_11 {G : mG} {d : Nat} {a0 : Nat} {l3 : Int} {l4 : Int} {l5 : Int} {l6 : Int} {M : mM} {Q : Int → mM → Prop} (hO : mOk M) (hi_l3 : i32 l3) (hi_l4 : i32 l4) (hi_l5 : i32 l5) (hi_l6 : i32 l6)
    (h : ((l6 = 0) → (mK M a0 = 14 ∧ Ci G y_MM_word1 d [vr a0, vi (l5 + 1)] M (fun x5 M4 => i32 x5 ∧ mOk M4 ∧ (∀ v9 : Int, v9 = (if x5 = 36 then l4 + 1 else (if x5 = 37 then l4 - 1 else l4)) → ((x5 = 33) → i32 v9) ∧ ∀ v16 : Int, v16 = (if ((x5 = 33) ∧ ((v9 = 0) ∧ (l3 = 0))) then 1 else 0) → i32 v9 ∧ ∀ v25 : Int, v25 = (if v9 ≤ 0 then (if x5 = 32 then l3 + 1 else (if x5 = 33 then l3 - 1 else l3)) else l3) → h_MM_colonOf_11 G d a0 v25 v9 (l5 + 1) v16 M4 Q)))) ∧ (¬ (l6 = 0) → (Q l5 M))) :
    h_MM_colonOf_11 G d a0 l3 l4 l5 l6 M Q := by
  unfold h_MM_colonOf_11
  refine wm_iload d_MM_colonOf_11 rfl ?_
  refine wm_if_ne (tgt := 122) d_MM_colonOf_13 rfl hi_l6 (fun c2 => ?_) (fun c2 => ?_)
  · replace h := h.2 c2
    refine wm_iload d_MM_colonOf_122 rfl ?_
    refine wm_ireturn d_MM_colonOf_124 rfl rfl ?_
    exact ⟨_, rfl, h⟩
  · replace c2 := Classical.not_not.mp c2
    replace h := h.1 c2
    obtain ⟨h3, h⟩ := h
    refine wm_iinc d_MM_colonOf_16 (by decide) rfl (L' := [vr a0, vd, vd, vi l3, vi l4, vi (l5 + 1), vi l6, vd]) rfl ?_
    refine wm_aload_n d_MM_colonOf_19 rfl rfl ?_
    refine wm_iload d_MM_colonOf_20 rfl ?_
    refine cf_MM_302 rfl d_MM_colonOf_22 h3 (Nat.le_of_ble_eq_true rfl) (Ci.mono h (fun x5 M4 h => ?_))
    obtain ⟨h6, hOM4, h⟩ := h
    refine wm_istore d_MM_colonOf_25 (by decide) (L' := [vr a0, vd, vd, vi l3, vi l4, vi (l5 + 1), vi l6, vi x5]) rfl ?_
    refine wm_iload d_MM_colonOf_27 rfl ?_
    refine wm_bipush d_MM_colonOf_29 (by decide) ?_
    have hJ : ∀ v9 : Int, v9 = (if x5 = 36 then l4 + 1 else (if x5 = 37 then l4 - 1 else l4)) → mWm G y_MM_colonOf (d + 1) 57 [vr a0, vd, vd, vi l3, vd, vi (l5 + 1), vd, vi x5] [vi v9] M4 (fun r9 M9 => ∃ x9, r9 = some (vi x9) ∧ Q x9 M9) := by
      intro v9 e11
      have h := h v9 e11
      refine wm_istore d_MM_colonOf_57 (by decide) (L' := [vr a0, vd, vd, vi l3, vi v9, vi (l5 + 1), vd, vi x5]) rfl ?_
      refine wm_iload d_MM_colonOf_59 rfl ?_
      refine wm_bipush d_MM_colonOf_61 (by decide) ?_
      obtain ⟨s17, h⟩ := h
      have hJ : ∀ v16 : Int, v16 = (if ((x5 = 33) ∧ ((v9 = 0) ∧ (l3 = 0))) then 1 else 0) → mWm G y_MM_colonOf (d + 1) 80 [vr a0, vd, vd, vi l3, vi v9, vi (l5 + 1), vd, vi x5] [vi v16] M4 (fun r9 M9 => ∃ x9, r9 = some (vi x9) ∧ Q x9 M9) := by
        intro v16 e18
        have h := h v16 e18
        have h19 : i32 v16 := by rw [e18]; (repeat' split) <;> first | exact ⟨by decide, by decide⟩ | exact ⟨by decide, by decide⟩
        have h20 : (v16 = 0 ∨ v16 = 1) := by rw [e18]; (repeat' split) <;> decide
        obtain ⟨h21, h⟩ := h
        refine wm_istore d_MM_colonOf_80 (by decide) (L' := [vr a0, vd, vd, vi l3, vi v9, vi (l5 + 1), vi v16, vi x5]) rfl ?_
        refine wm_iload d_MM_colonOf_82 rfl ?_
        have hJ : ∀ v25 : Int, v25 = (if v9 ≤ 0 then (if x5 = 32 then l3 + 1 else (if x5 = 33 then l3 - 1 else l3)) else l3) → mWm G y_MM_colonOf (d + 1) 118 [vr a0, vd, vd, vd, vi v9, vi (l5 + 1), vi v16, vd] [vi v25] M4 (fun r9 M9 => ∃ x9, r9 = some (vi x9) ∧ Q x9 M9) := by
          intro v25 e27
          have h := h v25 e27
          refine wm_istore_n d_MM_colonOf_118 rfl (by decide) (L' := [vr a0, vd, vd, vi v25, vi v9, vi (l5 + 1), vi v16, vd]) rfl ?_
          refine wm_goto (tgt := 11) d_MM_colonOf_119 rfl ?_
          exact h
        clear h
        refine wm_if_le (tgt := 91) d_MM_colonOf_84 rfl h21 (fun c22 => ?_) (fun c22 => ?_)
        · refine wm_iload d_MM_colonOf_91 rfl ?_
          refine wm_bipush d_MM_colonOf_93 (by decide) ?_
          refine wm_icmp_ne (tgt := 104) d_MM_colonOf_95 rfl h6 ⟨by decide, by decide⟩ (fun c23 => ?_) (fun c23 => ?_)
          · refine wm_iload d_MM_colonOf_104 rfl ?_
            refine wm_bipush d_MM_colonOf_106 (by decide) ?_
            refine wm_icmp_ne (tgt := 117) d_MM_colonOf_108 rfl h6 ⟨by decide, by decide⟩ (fun c24 => ?_) (fun c24 => ?_)
            · refine wm_iload_n d_MM_colonOf_117 rfl rfl ?_
              refine wm_less (L' := [vr a0, vd, vd, vd, vi v9, vi (l5 + 1), vi v16, vd]) ⟨Or.inr rfl, Or.inl rfl, Or.inl rfl, Or.inl rfl, Or.inr rfl, Or.inr rfl, Or.inr rfl, Or.inl rfl, trivial⟩ ?_
              exact hJ l3 (by rw [if_pos c22, if_neg c23, if_neg c24])
            · replace c24 := Classical.not_not.mp c24
              refine wm_iload_n d_MM_colonOf_111 rfl rfl ?_
              refine wm_iconst d_MM_colonOf_112 ?_
              refine wm_isub d_MM_colonOf_113 ?_
              refine wm_goto (tgt := 118) d_MM_colonOf_114 rfl ?_
              refine wm_less (L' := [vr a0, vd, vd, vd, vi v9, vi (l5 + 1), vi v16, vd]) ⟨Or.inr rfl, Or.inl rfl, Or.inl rfl, Or.inl rfl, Or.inr rfl, Or.inr rfl, Or.inr rfl, Or.inl rfl, trivial⟩ ?_
              exact hJ (l3 - 1) (by rw [if_pos c22, if_neg c23, if_pos c24])
          · replace c23 := Classical.not_not.mp c23
            refine wm_iload_n d_MM_colonOf_98 rfl rfl ?_
            refine wm_iconst d_MM_colonOf_99 ?_
            refine wm_iadd d_MM_colonOf_100 ?_
            refine wm_goto (tgt := 118) d_MM_colonOf_101 rfl ?_
            refine wm_less (L' := [vr a0, vd, vd, vd, vi v9, vi (l5 + 1), vi v16, vd]) ⟨Or.inr rfl, Or.inl rfl, Or.inl rfl, Or.inl rfl, Or.inr rfl, Or.inr rfl, Or.inr rfl, Or.inl rfl, trivial⟩ ?_
            exact hJ (l3 + 1) (by rw [if_pos c22, if_pos c23])
        · refine wm_iload_n d_MM_colonOf_87 rfl rfl ?_
          refine wm_goto (tgt := 118) d_MM_colonOf_88 rfl ?_
          refine wm_less (L' := [vr a0, vd, vd, vd, vi v9, vi (l5 + 1), vi v16, vd]) ⟨Or.inr rfl, Or.inl rfl, Or.inl rfl, Or.inl rfl, Or.inr rfl, Or.inr rfl, Or.inr rfl, Or.inl rfl, trivial⟩ ?_
          exact hJ l3 (by rw [if_neg c22])
      clear h
      have s28 := s17
      refine wm_icmp_ne (tgt := 79) d_MM_colonOf_63 rfl h6 ⟨by decide, by decide⟩ (fun c12 => ?_) (fun c12 => ?_)
      · refine wm_iconst d_MM_colonOf_79 ?_
        exact hJ 0 (if_neg (fun z34 => c12 z34.1)).symm
      · replace c12 := Classical.not_not.mp c12
        have s28 := s28 c12
        have h13 := s28
        refine wm_iload d_MM_colonOf_66 rfl ?_
        refine wm_if_ne (tgt := 79) d_MM_colonOf_68 rfl h13 (fun c14 => ?_) (fun c14 => ?_)
        · refine wm_iconst d_MM_colonOf_79 ?_
          exact hJ 0 (if_neg (fun z32 => (fun z33 => c14 z33.1) z32.2)).symm
        · replace c14 := Classical.not_not.mp c14
          refine wm_iload_n d_MM_colonOf_71 rfl rfl ?_
          refine wm_if_ne (tgt := 79) d_MM_colonOf_72 rfl hi_l3 (fun c15 => ?_) (fun c15 => ?_)
          · refine wm_iconst d_MM_colonOf_79 ?_
            exact hJ 0 (if_neg (fun z29 => (fun z30 => c15 z30.2) z29.2)).symm
          · replace c15 := Classical.not_not.mp c15
            refine wm_iconst d_MM_colonOf_75 ?_
            refine wm_goto (tgt := 80) d_MM_colonOf_76 rfl ?_
            exact hJ 1 (if_pos ⟨c12, ⟨c14, c15⟩⟩).symm
    clear h
    refine wm_icmp_ne (tgt := 41) d_MM_colonOf_31 rfl h6 ⟨by decide, by decide⟩ (fun c7 => ?_) (fun c7 => ?_)
    · refine wm_iload d_MM_colonOf_41 rfl ?_
      refine wm_bipush d_MM_colonOf_43 (by decide) ?_
      refine wm_icmp_ne (tgt := 55) d_MM_colonOf_45 rfl h6 ⟨by decide, by decide⟩ (fun c8 => ?_) (fun c8 => ?_)
      · refine wm_iload d_MM_colonOf_55 rfl ?_
        refine wm_less (L' := [vr a0, vd, vd, vi l3, vd, vi (l5 + 1), vd, vi x5]) ⟨Or.inr rfl, Or.inl rfl, Or.inl rfl, Or.inr rfl, Or.inl rfl, Or.inr rfl, Or.inl rfl, Or.inr rfl, trivial⟩ ?_
        exact hJ l4 (by rw [if_neg c7, if_neg c8])
      · replace c8 := Classical.not_not.mp c8
        refine wm_iload d_MM_colonOf_48 rfl ?_
        refine wm_iconst d_MM_colonOf_50 ?_
        refine wm_isub d_MM_colonOf_51 ?_
        refine wm_goto (tgt := 57) d_MM_colonOf_52 rfl ?_
        refine wm_less (L' := [vr a0, vd, vd, vi l3, vd, vi (l5 + 1), vd, vi x5]) ⟨Or.inr rfl, Or.inl rfl, Or.inl rfl, Or.inr rfl, Or.inl rfl, Or.inr rfl, Or.inl rfl, Or.inr rfl, trivial⟩ ?_
        exact hJ (l4 - 1) (by rw [if_neg c7, if_pos c8])
    · replace c7 := Classical.not_not.mp c7
      refine wm_iload d_MM_colonOf_34 rfl ?_
      refine wm_iconst d_MM_colonOf_36 ?_
      refine wm_iadd d_MM_colonOf_37 ?_
      refine wm_goto (tgt := 57) d_MM_colonOf_38 rfl ?_
      refine wm_less (L' := [vr a0, vd, vd, vi l3, vd, vi (l5 + 1), vd, vi x5]) ⟨Or.inr rfl, Or.inl rfl, Or.inl rfl, Or.inr rfl, Or.inl rfl, Or.inr rfl, Or.inl rfl, Or.inr rfl, trivial⟩ ?_
      exact hJ (l4 + 1) (by rw [if_pos c7])
theorem d_MM_part_0 : decode y_MM_part.2.1 0 = .ok (.aload_n 0, 1) := dc9_42 (by decide +kernel)
theorem d_MM_part_1 : decode y_MM_part.2.1 1 = .ok (.iload_n 2, 1) := dc9_28 (by decide +kernel)
theorem d_MM_part_2 : decode y_MM_part.2.1 2 = .ok (.iload_n 3, 1) := dc9_29 (by decide +kernel)
theorem d_MM_part_3 : decode y_MM_part.2.1 3 = .ok (.invokevirtual 310, 3) := dc9_182 (by decide +kernel)
theorem d_MM_part_6 : decode y_MM_part.2.1 6 = .ok (.istore 4, 2) := dc9_54 (by decide +kernel)
theorem d_MM_part_8 : decode y_MM_part.2.1 8 = .ok (.iload 4, 2) := dc9_21 (by decide +kernel)
theorem d_MM_part_10 : decode y_MM_part.2.1 10 = .ok (.ifCond .lt 99, 3) := dc9_155 (by decide +kernel)
theorem d_MM_part_109 : decode y_MM_part.2.1 109 = .ok (.aload_n 0, 1) := dc9_42 (by decide +kernel)
theorem d_MM_part_110 : decode y_MM_part.2.1 110 = .ok (.iload_n 2, 1) := dc9_28 (by decide +kernel)
theorem d_MM_part_13 : decode y_MM_part.2.1 13 = .ok (.aload_n 0, 1) := dc9_42 (by decide +kernel)
theorem d_MM_part_14 : decode y_MM_part.2.1 14 = .ok (.aload_n 0, 1) := dc9_42 (by decide +kernel)
theorem d_MM_part_15 : decode y_MM_part.2.1 15 = .ok (.iload 4, 2) := dc9_21 (by decide +kernel)
theorem d_MM_part_111 : decode y_MM_part.2.1 111 = .ok (.invokevirtual 302, 3) := dc9_182 (by decide +kernel)
theorem d_MM_part_114 : decode y_MM_part.2.1 114 = .ok (.istore 5, 2) := dc9_54 (by decide +kernel)
theorem d_MM_part_116 : decode y_MM_part.2.1 116 = .ok (.iload 5, 2) := dc9_21 (by decide +kernel)
theorem d_MM_part_118 : decode y_MM_part.2.1 118 = .ok (.bipush 36, 2) := dc9_16 (by decide +kernel)
theorem d_MM_part_120 : decode y_MM_part.2.1 120 = .ok (.if_icmp .ne 15, 3) := dc9_160 (by decide +kernel)
theorem d_MM_part_123 : decode y_MM_part.2.1 123 = .ok (.aload_n 0, 1) := dc9_42 (by decide +kernel)
theorem d_MM_part_124 : decode y_MM_part.2.1 124 = .ok (.iload_n 1, 1) := dc9_27 (by decide +kernel)
theorem d_MM_part_125 : decode y_MM_part.2.1 125 = .ok (.iload_n 2, 1) := dc9_28 (by decide +kernel)
theorem d_MM_part_126 : decode y_MM_part.2.1 126 = .ok (.iconst 1, 1) := dc9_4 (by decide +kernel)
theorem d_MM_part_127 : decode y_MM_part.2.1 127 = .ok (.iadd, 1) := dc9_96 (by decide +kernel)
theorem d_MM_part_128 : decode y_MM_part.2.1 128 = .ok (.iload_n 3, 1) := dc9_29 (by decide +kernel)
theorem d_MM_part_129 : decode y_MM_part.2.1 129 = .ok (.iconst 1, 1) := dc9_4 (by decide +kernel)
theorem d_MM_part_130 : decode y_MM_part.2.1 130 = .ok (.isub, 1) := dc9_100 (by decide +kernel)
theorem d_MM_part_135 : decode y_MM_part.2.1 135 = .ok (.aload_n 0, 1) := dc9_42 (by decide +kernel)
theorem d_MM_part_136 : decode y_MM_part.2.1 136 = .ok (.iload 5, 2) := dc9_21 (by decide +kernel)
theorem d_MM_part_138 : decode y_MM_part.2.1 138 = .ok (.bipush 25, 2) := dc9_16 (by decide +kernel)
theorem d_MM_part_131 : decode y_MM_part.2.1 131 = .ok (.invokevirtual 296, 3) := dc9_182 (by decide +kernel)
theorem d_MM_part_134 : decode y_MM_part.2.1 134 = .ok (.return_, 1) := dc9_177 (by decide +kernel)
theorem d_MM_part_140 : decode y_MM_part.2.1 140 = .ok (.if_icmp .ne 8, 3) := dc9_160 (by decide +kernel)
theorem d_MM_part_143 : decode y_MM_part.2.1 143 = .ok (.bipush 45, 2) := dc9_16 (by decide +kernel)
theorem d_MM_part_145 : decode y_MM_part.2.1 145 = .ok (.goto 5, 3) := dc9_167 (by decide +kernel)
theorem d_MM_part_148 : decode y_MM_part.2.1 148 = .ok (.iload 5, 2) := dc9_21 (by decide +kernel)
theorem d_MM_part_150 : decode y_MM_part.2.1 150 = .ok (.iload_n 2, 1) := dc9_28 (by decide +kernel)
theorem d_MM_part_151 : decode y_MM_part.2.1 151 = .ok (.iload_n 2, 1) := dc9_28 (by decide +kernel)
theorem d_MM_part_152 : decode y_MM_part.2.1 152 = .ok (.invokevirtual 313, 3) := dc9_182 (by decide +kernel)
theorem d_MM_part_155 : decode y_MM_part.2.1 155 = .ok (.istore 6, 2) := dc9_54 (by decide +kernel)
theorem d_MM_part_157 : decode y_MM_part.2.1 157 = .ok (.aload_n 0, 1) := dc9_42 (by decide +kernel)
theorem d_MM_part_158 : decode y_MM_part.2.1 158 = .ok (.iload_n 1, 1) := dc9_27 (by decide +kernel)
theorem d_MM_part_159 : decode y_MM_part.2.1 159 = .ok (.iload 6, 2) := dc9_21 (by decide +kernel)
theorem d_MM_part_161 : decode y_MM_part.2.1 161 = .ok (.invokevirtual 317, 3) := dc9_182 (by decide +kernel)
theorem d_MM_part_164 : decode y_MM_part.2.1 164 = .ok (.iload 5, 2) := dc9_21 (by decide +kernel)
theorem d_MM_part_166 : decode y_MM_part.2.1 166 = .ok (.bipush 25, 2) := dc9_16 (by decide +kernel)
theorem d_MM_part_168 : decode y_MM_part.2.1 168 = .ok (.if_icmp .eq 10, 3) := dc9_159 (by decide +kernel)
theorem d_MM_part_171 : decode y_MM_part.2.1 171 = .ok (.iload 5, 2) := dc9_21 (by decide +kernel)
theorem d_MM_part_173 : decode y_MM_part.2.1 173 = .ok (.bipush 31, 2) := dc9_16 (by decide +kernel)
theorem d_MM_part_175 : decode y_MM_part.2.1 175 = .ok (.if_icmp .ne 16, 3) := dc9_160 (by decide +kernel)
theorem d_MM_part_191 : decode y_MM_part.2.1 191 = .ok (.iload 5, 2) := dc9_21 (by decide +kernel)
theorem d_MM_part_193 : decode y_MM_part.2.1 193 = .ok (.iconst 2, 1) := dc9_5 (by decide +kernel)
theorem d_MM_part_194 : decode y_MM_part.2.1 194 = .ok (.if_icmp .ne 24, 3) := dc9_160 (by decide +kernel)
theorem d_MM_part_197 : decode y_MM_part.2.1 197 = .ok (.aload_n 0, 1) := dc9_42 (by decide +kernel)
theorem d_MM_part_198 : decode y_MM_part.2.1 198 = .ok (.getfield 38, 3) := dc9_180 (by decide +kernel)
theorem d_MM_part_201 : decode y_MM_part.2.1 201 = .ok (.getfield 284, 3) := dc9_180 (by decide +kernel)
theorem d_MM_part_204 : decode y_MM_part.2.1 204 = .ok (.getfield 293, 3) := dc9_180 (by decide +kernel)
theorem d_MM_part_207 : decode y_MM_part.2.1 207 = .ok (.iload 6, 2) := dc9_21 (by decide +kernel)
theorem d_MM_part_209 : decode y_MM_part.2.1 209 = .ok (.aload_n 0, 1) := dc9_42 (by decide +kernel)
theorem d_MM_part_210 : decode y_MM_part.2.1 210 = .ok (.iload_n 2, 1) := dc9_28 (by decide +kernel)
theorem d_MM_part_218 : decode y_MM_part.2.1 218 = .ok (.iload 5, 2) := dc9_21 (by decide +kernel)
theorem d_MM_part_220 : decode y_MM_part.2.1 220 = .ok (.iconst 1, 1) := dc9_4 (by decide +kernel)
theorem d_MM_part_221 : decode y_MM_part.2.1 221 = .ok (.if_icmp .ne 20, 3) := dc9_160 (by decide +kernel)
theorem d_MM_part_224 : decode y_MM_part.2.1 224 = .ok (.aload_n 0, 1) := dc9_42 (by decide +kernel)
theorem d_MM_part_225 : decode y_MM_part.2.1 225 = .ok (.getfield 38, 3) := dc9_180 (by decide +kernel)
theorem d_MM_part_228 : decode y_MM_part.2.1 228 = .ok (.getfield 284, 3) := dc9_180 (by decide +kernel)
theorem d_MM_part_231 : decode y_MM_part.2.1 231 = .ok (.getfield 293, 3) := dc9_180 (by decide +kernel)
theorem d_MM_part_234 : decode y_MM_part.2.1 234 = .ok (.iload 6, 2) := dc9_21 (by decide +kernel)
theorem d_MM_part_236 : decode y_MM_part.2.1 236 = .ok (.iload_n 2, 1) := dc9_28 (by decide +kernel)
theorem d_MM_part_237 : decode y_MM_part.2.1 237 = .ok (.iastore, 1) := dc9_79 (by decide +kernel)
theorem d_MM_part_238 : decode y_MM_part.2.1 238 = .ok (.goto 29, 3) := dc9_167 (by decide +kernel)
theorem d_MM_part_241 : decode y_MM_part.2.1 241 = .ok (.iload 5, 2) := dc9_21 (by decide +kernel)
theorem d_MM_part_243 : decode y_MM_part.2.1 243 = .ok (.bipush 14, 2) := dc9_16 (by decide +kernel)
theorem d_MM_part_245 : decode y_MM_part.2.1 245 = .ok (.if_icmp .eq 10, 3) := dc9_159 (by decide +kernel)
theorem d_MM_part_248 : decode y_MM_part.2.1 248 = .ok (.iload 5, 2) := dc9_21 (by decide +kernel)
theorem d_MM_part_250 : decode y_MM_part.2.1 250 = .ok (.bipush 15, 2) := dc9_16 (by decide +kernel)
theorem d_MM_part_252 : decode y_MM_part.2.1 252 = .ok (.if_icmp .ne 15, 3) := dc9_160 (by decide +kernel)
theorem d_MM_part_178 : decode y_MM_part.2.1 178 = .ok (.aload_n 0, 1) := dc9_42 (by decide +kernel)
theorem d_MM_part_179 : decode y_MM_part.2.1 179 = .ok (.iload 6, 2) := dc9_21 (by decide +kernel)
theorem d_MM_part_181 : decode y_MM_part.2.1 181 = .ok (.iload_n 2, 1) := dc9_28 (by decide +kernel)
theorem d_MM_part_182 : decode y_MM_part.2.1 182 = .ok (.iconst 1, 1) := dc9_4 (by decide +kernel)
theorem d_MM_part_183 : decode y_MM_part.2.1 183 = .ok (.iadd, 1) := dc9_96 (by decide +kernel)
theorem d_MM_part_184 : decode y_MM_part.2.1 184 = .ok (.iload_n 3, 1) := dc9_29 (by decide +kernel)
theorem d_MM_part_185 : decode y_MM_part.2.1 185 = .ok (.invokevirtual 296, 3) := dc9_182 (by decide +kernel)
theorem d_MM_part_188 : decode y_MM_part.2.1 188 = .ok (.goto 79, 3) := dc9_167 (by decide +kernel)
theorem d_MM_part_211 : decode y_MM_part.2.1 211 = .ok (.invokevirtual 324, 3) := dc9_182 (by decide +kernel)
theorem d_MM_part_214 : decode y_MM_part.2.1 214 = .ok (.iastore, 1) := dc9_79 (by decide +kernel)
theorem d_MM_part_215 : decode y_MM_part.2.1 215 = .ok (.goto 52, 3) := dc9_167 (by decide +kernel)
theorem d_MM_part_255 : decode y_MM_part.2.1 255 = .ok (.aload_n 0, 1) := dc9_42 (by decide +kernel)
theorem d_MM_part_256 : decode y_MM_part.2.1 256 = .ok (.iload 6, 2) := dc9_21 (by decide +kernel)
theorem d_MM_part_258 : decode y_MM_part.2.1 258 = .ok (.iload_n 2, 1) := dc9_28 (by decide +kernel)
theorem d_MM_part_259 : decode y_MM_part.2.1 259 = .ok (.iconst 2, 1) := dc9_5 (by decide +kernel)
theorem d_MM_part_260 : decode y_MM_part.2.1 260 = .ok (.iadd, 1) := dc9_96 (by decide +kernel)
theorem d_MM_part_261 : decode y_MM_part.2.1 261 = .ok (.iload_n 3, 1) := dc9_29 (by decide +kernel)
theorem d_MM_part_262 : decode y_MM_part.2.1 262 = .ok (.iconst 1, 1) := dc9_4 (by decide +kernel)
theorem d_MM_part_263 : decode y_MM_part.2.1 263 = .ok (.isub, 1) := dc9_100 (by decide +kernel)
theorem d_MM_part_264 : decode y_MM_part.2.1 264 = .ok (.invokevirtual 327, 3) := dc9_182 (by decide +kernel)
theorem d_MM_part_17 : decode y_MM_part.2.1 17 = .ok (.invokevirtual 302, 3) := dc9_182 (by decide +kernel)
theorem d_MM_part_20 : decode y_MM_part.2.1 20 = .ok (.iload 4, 2) := dc9_21 (by decide +kernel)
theorem d_MM_part_22 : decode y_MM_part.2.1 22 = .ok (.iload_n 2, 1) := dc9_28 (by decide +kernel)
theorem d_MM_part_23 : decode y_MM_part.2.1 23 = .ok (.invokevirtual 313, 3) := dc9_182 (by decide +kernel)
theorem d_MM_part_26 : decode y_MM_part.2.1 26 = .ok (.istore 5, 2) := dc9_54 (by decide +kernel)
theorem d_MM_part_28 : decode y_MM_part.2.1 28 = .ok (.aload_n 0, 1) := dc9_42 (by decide +kernel)
theorem d_MM_part_29 : decode y_MM_part.2.1 29 = .ok (.iload_n 1, 1) := dc9_27 (by decide +kernel)
theorem d_MM_part_30 : decode y_MM_part.2.1 30 = .ok (.iload 5, 2) := dc9_21 (by decide +kernel)
theorem d_MM_part_32 : decode y_MM_part.2.1 32 = .ok (.invokevirtual 317, 3) := dc9_182 (by decide +kernel)
theorem d_MM_part_35 : decode y_MM_part.2.1 35 = .ok (.aload_n 0, 1) := dc9_42 (by decide +kernel)
theorem d_MM_part_36 : decode y_MM_part.2.1 36 = .ok (.iload 4, 2) := dc9_21 (by decide +kernel)
theorem d_MM_part_38 : decode y_MM_part.2.1 38 = .ok (.invokevirtual 302, 3) := dc9_182 (by decide +kernel)
theorem d_MM_part_41 : decode y_MM_part.2.1 41 = .ok (.bipush 32, 2) := dc9_16 (by decide +kernel)
theorem d_MM_part_43 : decode y_MM_part.2.1 43 = .ok (.if_icmp .eq 24, 3) := dc9_159 (by decide +kernel)
theorem d_MM_part_67 : decode y_MM_part.2.1 67 = .ok (.aload_n 0, 1) := dc9_42 (by decide +kernel)
theorem d_MM_part_68 : decode y_MM_part.2.1 68 = .ok (.iload 4, 2) := dc9_21 (by decide +kernel)
theorem d_MM_part_70 : decode y_MM_part.2.1 70 = .ok (.iload_n 3, 1) := dc9_29 (by decide +kernel)
theorem d_MM_part_46 : decode y_MM_part.2.1 46 = .ok (.aload_n 0, 1) := dc9_42 (by decide +kernel)
theorem d_MM_part_47 : decode y_MM_part.2.1 47 = .ok (.iload 5, 2) := dc9_21 (by decide +kernel)
theorem d_MM_part_49 : decode y_MM_part.2.1 49 = .ok (.iload 4, 2) := dc9_21 (by decide +kernel)
theorem d_MM_part_51 : decode y_MM_part.2.1 51 = .ok (.iconst 1, 1) := dc9_4 (by decide +kernel)
theorem d_MM_part_52 : decode y_MM_part.2.1 52 = .ok (.iadd, 1) := dc9_96 (by decide +kernel)
theorem d_MM_part_53 : decode y_MM_part.2.1 53 = .ok (.iload_n 3, 1) := dc9_29 (by decide +kernel)
theorem d_MM_part_71 : decode y_MM_part.2.1 71 = .ok (.invokevirtual 321, 3) := dc9_182 (by decide +kernel)
theorem d_MM_part_74 : decode y_MM_part.2.1 74 = .ok (.istore 6, 2) := dc9_54 (by decide +kernel)
theorem d_MM_part_76 : decode y_MM_part.2.1 76 = .ok (.aload_n 0, 1) := dc9_42 (by decide +kernel)
theorem d_MM_part_77 : decode y_MM_part.2.1 77 = .ok (.iload 5, 2) := dc9_21 (by decide +kernel)
theorem d_MM_part_79 : decode y_MM_part.2.1 79 = .ok (.iload 6, 2) := dc9_21 (by decide +kernel)
theorem d_MM_part_81 : decode y_MM_part.2.1 81 = .ok (.iconst 1, 1) := dc9_4 (by decide +kernel)
theorem d_MM_part_82 : decode y_MM_part.2.1 82 = .ok (.iadd, 1) := dc9_96 (by decide +kernel)
theorem d_MM_part_83 : decode y_MM_part.2.1 83 = .ok (.iload_n 3, 1) := dc9_29 (by decide +kernel)
theorem d_MM_part_84 : decode y_MM_part.2.1 84 = .ok (.invokevirtual 296, 3) := dc9_182 (by decide +kernel)
theorem d_MM_part_87 : decode y_MM_part.2.1 87 = .ok (.aload_n 0, 1) := dc9_42 (by decide +kernel)
theorem d_MM_part_88 : decode y_MM_part.2.1 88 = .ok (.iload 5, 2) := dc9_21 (by decide +kernel)
theorem d_MM_part_90 : decode y_MM_part.2.1 90 = .ok (.iload 4, 2) := dc9_21 (by decide +kernel)
theorem d_MM_part_92 : decode y_MM_part.2.1 92 = .ok (.iconst 1, 1) := dc9_4 (by decide +kernel)
theorem d_MM_part_93 : decode y_MM_part.2.1 93 = .ok (.iadd, 1) := dc9_96 (by decide +kernel)
theorem d_MM_part_94 : decode y_MM_part.2.1 94 = .ok (.iload 6, 2) := dc9_21 (by decide +kernel)
theorem d_MM_part_96 : decode y_MM_part.2.1 96 = .ok (.invokevirtual 296, 3) := dc9_182 (by decide +kernel)
theorem d_MM_part_99 : decode y_MM_part.2.1 99 = .ok (.aload_n 0, 1) := dc9_42 (by decide +kernel)
theorem d_MM_part_100 : decode y_MM_part.2.1 100 = .ok (.iload 5, 2) := dc9_21 (by decide +kernel)
theorem d_MM_part_102 : decode y_MM_part.2.1 102 = .ok (.iload_n 2, 1) := dc9_28 (by decide +kernel)
theorem d_MM_part_103 : decode y_MM_part.2.1 103 = .ok (.iload 4, 2) := dc9_21 (by decide +kernel)
theorem d_MM_part_105 : decode y_MM_part.2.1 105 = .ok (.invokevirtual 296, 3) := dc9_182 (by decide +kernel)
theorem d_MM_part_108 : decode y_MM_part.2.1 108 = .ok (.return_, 1) := dc9_177 (by decide +kernel)
theorem d_MM_part_54 : decode y_MM_part.2.1 54 = .ok (.invokevirtual 296, 3) := dc9_182 (by decide +kernel)
theorem d_MM_part_57 : decode y_MM_part.2.1 57 = .ok (.aload_n 0, 1) := dc9_42 (by decide +kernel)
theorem d_MM_part_58 : decode y_MM_part.2.1 58 = .ok (.iload 5, 2) := dc9_21 (by decide +kernel)
theorem d_MM_part_60 : decode y_MM_part.2.1 60 = .ok (.iload_n 2, 1) := dc9_28 (by decide +kernel)
theorem d_MM_part_61 : decode y_MM_part.2.1 61 = .ok (.iload 4, 2) := dc9_21 (by decide +kernel)
theorem d_MM_part_63 : decode y_MM_part.2.1 63 = .ok (.invokevirtual 296, 3) := dc9_182 (by decide +kernel)
theorem d_MM_part_66 : decode y_MM_part.2.1 66 = .ok (.return_, 1) := dc9_177 (by decide +kernel)
theorem d_MM_part_267 : decode y_MM_part.2.1 267 = .ok (.return_, 1) := dc9_177 (by decide +kernel)
def h_MM_part_267 (G : mG) (d : Nat) (M : mM) (Q : mM → Prop) : Prop := mWm G y_MM_part (d + 1) 267 [vd, vd, vd, vd, vd, vd, vd] [] M (fun r9 M9 => r9 = none ∧ Q M9)
theorem k_MM_part {G : mG} {d : Nat} {a0 : Nat} {l1 : Int} {l2 : Int} {l3 : Int} {M : mM} {Q : mM → Prop} (hO : mOk M) (hi_l1 : i32 l1) (hi_l2 : i32 l2) (hi_l3 : i32 l3)
    (h : mK M a0 = 14 ∧ Ci G y_MM_loosest d [vr a0, vi l2, vi l3] M (fun x3 M2 => i32 x3 ∧ mOk M2 ∧ (((x3 < 0) → (mK M2 a0 = 14 ∧ Ci G y_MM_word1 d [vr a0, vi l2] M2 (fun x9 M8 => i32 x9 ∧ mOk M8 ∧ (((x9 = 36) → (mK M8 a0 = 14 ∧ Cv G y_MM_job d [vr a0, vi l1, vi (l2 + 1), vi (l3 - 1)] M8 (fun M14 => mOk M14 ∧ (Q M14)))) ∧ (¬ (x9 = 36) → (∀ v18 : Int, v18 = (if (x9 = 25) then 45 else x9) → mK M8 a0 = 14 ∧ Ci G y_MM_node d [vr a0, vi v18, vi l2, vi l2] M8 (fun x24 M23 => i32 x24 ∧ mOk M23 ∧ (mK M23 a0 = 14 ∧ Cv G y_MM_join d [vr a0, vi l1, vi x24] M23 (fun M27 => mOk M27 ∧ ((((x9 = 25) ∨ (x9 = 31)) → (mK M27 a0 = 14 ∧ Cv G y_MM_job d [vr a0, vi x24, vi (l2 + 1), vi l3] M27 (fun M44 => mOk M44 ∧ (h_MM_part_267 G d  M44 Q)))) ∧ (¬ ((x9 = 25) ∨ (x9 = 31)) → (((x9 = 2) → (mK M27 a0 = 14 ∧ mK M27 (mR M27 a0 10) = 16 ∧ mK M27 (mR M27 (mR M27 a0 10) 3) = 15 ∧ Ci G y_MM_numberOf d [vr a0, vi l2] M27 (fun x62 M61 => i32 x62 ∧ mOk M61 ∧ (mK M61 (mR M27 (mR M27 (mR M27 a0 10) 3) 0) = 30 ∧ ((0 : Int) ≤ x24 ∧ x24 < (mN M61 (mR M27 (mR M27 (mR M27 a0 10) 3) 0) : Int)) ∧ ∀ M66, M66 = mUI M61 (mR M27 (mR M27 (mR M27 a0 10) 3) 0) (Int.toNat x24) x62 → h_MM_part_267 G d  M66 Q)))) ∧ (¬ (x9 = 2) → (((x9 = 1) → (mK M27 a0 = 14 ∧ mK M27 (mR M27 a0 10) = 16 ∧ mK M27 (mR M27 (mR M27 a0 10) 3) = 15 ∧ mK M27 (mR M27 (mR M27 (mR M27 a0 10) 3) 0) = 30 ∧ ((0 : Int) ≤ x24 ∧ x24 < (mN M27 (mR M27 (mR M27 (mR M27 a0 10) 3) 0) : Int)) ∧ ∀ M82, M82 = mUI M27 (mR M27 (mR M27 (mR M27 a0 10) 3) 0) (Int.toNat x24) l2 → h_MM_part_267 G d  M82 Q)) ∧ (¬ (x9 = 1) → ((((x9 = 14) ∨ (x9 = 15)) → (mK M27 a0 = 14 ∧ Cv G y_MM_list d [vr a0, vi x24, vi (l2 + 2), vi (l3 - 1)] M27 (fun M89 => mOk M89 ∧ (h_MM_part_267 G d  M89 Q)))) ∧ (¬ ((x9 = 14) ∨ (x9 = 15)) → (h_MM_part_267 G d  M27 Q)))))))))))))))))) ∧ (¬ (x3 < 0) → (mK M2 a0 = 14 ∧ Ci G y_MM_word1 d [vr a0, vi x3] M2 (fun x100 M99 => i32 x100 ∧ mOk M99 ∧ (mK M99 a0 = 14 ∧ Ci G y_MM_node d [vr a0, vi x100, vi x3, vi l2] M99 (fun x104 M103 => i32 x104 ∧ mOk M103 ∧ (mK M103 a0 = 14 ∧ Cv G y_MM_join d [vr a0, vi l1, vi x104] M103 (fun M107 => mOk M107 ∧ (mK M107 a0 = 14 ∧ Ci G y_MM_word1 d [vr a0, vi x3] M107 (fun x112 M111 => i32 x112 ∧ mOk M111 ∧ (((x112 = 32) → (mK M111 a0 = 14 ∧ Ci G y_MM_colonOf d [vr a0, vi x3, vi l3] M111 (fun x118 M117 => i32 x118 ∧ mOk M117 ∧ (mK M117 a0 = 14 ∧ Cv G y_MM_job d [vr a0, vi x104, vi (x118 + 1), vi l3] M117 (fun M121 => mOk M121 ∧ (mK M121 a0 = 14 ∧ Cv G y_MM_job d [vr a0, vi x104, vi (x3 + 1), vi x118] M121 (fun M125 => mOk M125 ∧ (mK M125 a0 = 14 ∧ Cv G y_MM_job d [vr a0, vi x104, vi l2, vi x3] M125 (fun M129 => mOk M129 ∧ (Q M129)))))))))) ∧ (¬ (x112 = 32) → (mK M111 a0 = 14 ∧ Cv G y_MM_job d [vr a0, vi x104, vi (x3 + 1), vi l3] M111 (fun M133 => mOk M133 ∧ (mK M133 a0 = 14 ∧ Cv G y_MM_job d [vr a0, vi x104, vi l2, vi x3] M133 (fun M137 => mOk M137 ∧ (Q M137))))))))))))))))))) :
    Cv G y_MM_part (d + 1) [vr a0, vi l1, vi l2, vi l3] M Q := by
  refine wm_open (y := y_MM_part) rfl (Nat.le_of_ble_eq_true rfl) (L := [vr a0, vi l1, vi l2, vi l3, vd, vd, vd]) rfl ?_
  obtain ⟨h1, h⟩ := h
  refine wm_aload_n d_MM_part_0 rfl rfl ?_
  refine wm_iload_n d_MM_part_1 rfl rfl ?_
  refine wm_iload_n d_MM_part_2 rfl rfl ?_
  refine cf_MM_310 rfl d_MM_part_3 h1 (Nat.le_of_ble_eq_true rfl) (Ci.mono h (fun x3 M2 h => ?_))
  obtain ⟨h4, hOM2, h⟩ := h
  refine wm_istore d_MM_part_6 (by decide) (L' := [vr a0, vi l1, vi l2, vi l3, vi x3, vd, vd]) rfl ?_
  refine wm_iload d_MM_part_8 rfl ?_
  refine wm_if_lt (tgt := 109) d_MM_part_10 rfl h4 (fun c6 => ?_) (fun c6 => ?_)
  · replace h := h.1 c6
    obtain ⟨h7, h⟩ := h
    refine wm_aload_n d_MM_part_109 rfl rfl ?_
    refine wm_iload_n d_MM_part_110 rfl rfl ?_
    refine cf_MM_302 rfl d_MM_part_111 h7 (Nat.le_of_ble_eq_true rfl) (Ci.mono h (fun x9 M8 h => ?_))
    obtain ⟨h10, hOM8, h⟩ := h
    refine wm_istore d_MM_part_114 (by decide) (L' := [vr a0, vi l1, vi l2, vi l3, vi x3, vi x9, vd]) rfl ?_
    refine wm_iload d_MM_part_116 rfl ?_
    refine wm_bipush d_MM_part_118 (by decide) ?_
    refine wm_icmp_ne (tgt := 135) d_MM_part_120 rfl h10 ⟨by decide, by decide⟩ (fun c12 => ?_) (fun c12 => ?_)
    · replace h := h.2 c12
      refine wm_aload_n d_MM_part_135 rfl rfl ?_
      refine wm_iload d_MM_part_136 rfl ?_
      refine wm_bipush d_MM_part_138 (by decide) ?_
      have hJ : ∀ v18 : Int, v18 = (if (x9 = 25) then 45 else x9) → mWm G y_MM_part (d + 1) 150 [vr a0, vi l1, vi l2, vi l3, vd, vi x9, vd] [vi v18, vr a0] M8 (fun r9 M9 => r9 = none ∧ Q M9) := by
        intro v18 e20
        have h := h v18 e20
        have h21 : i32 v18 := by rw [e20]; (repeat' split) <;> first | exact ⟨by decide, by decide⟩ | exact h10
        obtain ⟨h22, h⟩ := h
        refine wm_iload_n d_MM_part_150 rfl rfl ?_
        refine wm_iload_n d_MM_part_151 rfl rfl ?_
        refine cf_MM_313 rfl d_MM_part_152 h22 (Nat.le_of_ble_eq_true rfl) (Ci.mono h (fun x24 M23 h => ?_))
        obtain ⟨h25, hOM23, h⟩ := h
        obtain ⟨h26, h⟩ := h
        refine wm_istore d_MM_part_155 (by decide) (L' := [vr a0, vi l1, vi l2, vi l3, vd, vi x9, vi x24]) rfl ?_
        refine wm_aload_n d_MM_part_157 rfl rfl ?_
        refine wm_iload_n d_MM_part_158 rfl rfl ?_
        refine wm_iload d_MM_part_159 rfl ?_
        refine cf_MM_317 rfl d_MM_part_161 h26 (Nat.le_of_ble_eq_true rfl) (Cv.mono h (fun M27 h => ?_))
        obtain ⟨hOM27, h⟩ := h
        refine wm_iload d_MM_part_164 rfl ?_
        refine wm_bipush d_MM_part_166 (by decide) ?_
        have hE0 : ((x9 = 25) ∨ (x9 = 31)) → mWm G y_MM_part (d + 1) 178 [vr a0, vi l1, vi l2, vi l3, vd, vi x9, vi x24] [] M27 (fun r9 M9 => r9 = none ∧ Q M9) := by
          intro q42
          have h := h.1 q42
          obtain ⟨h43, h⟩ := h
          refine wm_aload_n d_MM_part_178 rfl rfl ?_
          refine wm_iload d_MM_part_179 rfl ?_
          refine wm_iload_n d_MM_part_181 rfl rfl ?_
          refine wm_iconst d_MM_part_182 ?_
          refine wm_iadd d_MM_part_183 ?_
          refine wm_iload_n d_MM_part_184 rfl rfl ?_
          refine cf_MM_296 rfl d_MM_part_185 h43 (Nat.le_of_ble_eq_true rfl) (Cv.mono h (fun M44 h => ?_))
          obtain ⟨hOM44, h⟩ := h
          refine wm_goto (tgt := 267) d_MM_part_188 rfl ?_
          refine wm_less (L' := [vd, vd, vd, vd, vd, vd, vd]) ⟨Or.inl rfl, Or.inl rfl, Or.inl rfl, Or.inl rfl, Or.inl rfl, Or.inl rfl, Or.inl rfl, trivial⟩ ?_
          exact h
        have hE1 : ¬ ((x9 = 25) ∨ (x9 = 31)) → mWm G y_MM_part (d + 1) 191 [vr a0, vi l1, vi l2, vi l3, vd, vi x9, vi x24] [] M27 (fun r9 M9 => r9 = none ∧ Q M9) := by
          intro q47
          have h := h.2 q47
          refine wm_iload d_MM_part_191 rfl ?_
          refine wm_iconst d_MM_part_193 ?_
          refine wm_icmp_ne (tgt := 218) d_MM_part_194 rfl h10 ⟨by decide, by decide⟩ (fun c57 => ?_) (fun c57 => ?_)
          · replace h := h.2 c57
            refine wm_iload d_MM_part_218 rfl ?_
            refine wm_iconst d_MM_part_220 ?_
            refine wm_icmp_ne (tgt := 241) d_MM_part_221 rfl h10 ⟨by decide, by decide⟩ (fun c76 => ?_) (fun c76 => ?_)
            · replace h := h.2 c76
              refine wm_iload d_MM_part_241 rfl ?_
              refine wm_bipush d_MM_part_243 (by decide) ?_
              have hE0 : ((x9 = 14) ∨ (x9 = 15)) → mWm G y_MM_part (d + 1) 255 [vr a0, vi l1, vi l2, vi l3, vd, vi x9, vi x24] [] M27 (fun r9 M9 => r9 = none ∧ Q M9) := by
                intro q87
                have h := h.1 q87
                obtain ⟨h88, h⟩ := h
                refine wm_aload_n d_MM_part_255 rfl rfl ?_
                refine wm_iload d_MM_part_256 rfl ?_
                refine wm_iload_n d_MM_part_258 rfl rfl ?_
                refine wm_iconst d_MM_part_259 ?_
                refine wm_iadd d_MM_part_260 ?_
                refine wm_iload_n d_MM_part_261 rfl rfl ?_
                refine wm_iconst d_MM_part_262 ?_
                refine wm_isub d_MM_part_263 ?_
                refine cf_MM_327 rfl d_MM_part_264 h88 (Nat.le_of_ble_eq_true rfl) (Cv.mono h (fun M89 h => ?_))
                obtain ⟨hOM89, h⟩ := h
                refine wm_less (L' := [vd, vd, vd, vd, vd, vd, vd]) ⟨Or.inl rfl, Or.inl rfl, Or.inl rfl, Or.inl rfl, Or.inl rfl, Or.inl rfl, Or.inl rfl, trivial⟩ ?_
                exact h
              have hE1 : ¬ ((x9 = 14) ∨ (x9 = 15)) → mWm G y_MM_part (d + 1) 267 [vr a0, vi l1, vi l2, vi l3, vd, vi x9, vi x24] [] M27 (fun r9 M9 => r9 = none ∧ Q M9) := by
                intro q92
                have h := h.2 q92
                refine wm_less (L' := [vd, vd, vd, vd, vd, vd, vd]) ⟨Or.inl rfl, Or.inl rfl, Or.inl rfl, Or.inl rfl, Or.inl rfl, Or.inl rfl, Or.inl rfl, trivial⟩ ?_
                exact h
              clear h
              refine wm_icmp_eq (tgt := 255) d_MM_part_245 rfl h10 ⟨by decide, by decide⟩ (fun c85 => ?_) (fun c85 => ?_)
              · exact hE0 (Or.inl c85)
              · refine wm_iload d_MM_part_248 rfl ?_
                refine wm_bipush d_MM_part_250 (by decide) ?_
                refine wm_icmp_ne (tgt := 267) d_MM_part_252 rfl h10 ⟨by decide, by decide⟩ (fun c84 => ?_) (fun c84 => ?_)
                · exact hE1 (fun z93 => Or.elim z93 c85 c84)
                · replace c84 := Classical.not_not.mp c84
                  exact hE0 (Or.inr c84)
            · replace c76 := Classical.not_not.mp c76
              replace h := h.1 c76
              obtain ⟨h77, h⟩ := h
              obtain ⟨h78, h⟩ := h
              obtain ⟨h79, h⟩ := h
              obtain ⟨h80, h⟩ := h
              obtain ⟨h81, h⟩ := h
              obtain ⟨M82, e83⟩ : ∃ M82, M82 = mUI M27 (mR M27 (mR M27 (mR M27 a0 10) 3) 0) (Int.toNat x24) l2 := ⟨_, rfl⟩
              replace h := h M82 e83
              refine wm_aload_n d_MM_part_224 rfl rfl ?_
              refine gf_MM_38 rfl d_MM_part_225 h77 ?_
              refine gf_MM_284 rfl d_MM_part_228 h78 ?_
              refine gf_MM_293 rfl d_MM_part_231 h79 ?_
              refine wm_iload d_MM_part_234 rfl ?_
              refine wm_iload_n d_MM_part_236 rfl rfl ?_
              have hOM82 : mOk M82 := by rw [e83]; exact mOk_UI hOM27 hi_l2
              refine wm_iastE d_MM_part_237 h80 h81 hi_l2 e83 ?_
              refine wm_goto (tgt := 267) d_MM_part_238 rfl ?_
              refine wm_less (L' := [vd, vd, vd, vd, vd, vd, vd]) ⟨Or.inl rfl, Or.inl rfl, Or.inl rfl, Or.inl rfl, Or.inl rfl, Or.inl rfl, Or.inl rfl, trivial⟩ ?_
              exact h
          · replace c57 := Classical.not_not.mp c57
            replace h := h.1 c57
            obtain ⟨h58, h⟩ := h
            obtain ⟨h59, h⟩ := h
            obtain ⟨h60, h⟩ := h
            refine wm_aload_n d_MM_part_197 rfl rfl ?_
            refine gf_MM_38 rfl d_MM_part_198 h58 ?_
            refine gf_MM_284 rfl d_MM_part_201 h59 ?_
            refine gf_MM_293 rfl d_MM_part_204 h60 ?_
            refine wm_iload d_MM_part_207 rfl ?_
            refine wm_aload_n d_MM_part_209 rfl rfl ?_
            refine wm_iload_n d_MM_part_210 rfl rfl ?_
            refine cf_MM_324 rfl d_MM_part_211 h58 (Nat.le_of_ble_eq_true rfl) (Ci.mono h (fun x62 M61 h => ?_))
            obtain ⟨h63, hOM61, h⟩ := h
            obtain ⟨h64, h⟩ := h
            obtain ⟨h65, h⟩ := h
            obtain ⟨M66, e67⟩ : ∃ M66, M66 = mUI M61 (mR M27 (mR M27 (mR M27 a0 10) 3) 0) (Int.toNat x24) x62 := ⟨_, rfl⟩
            replace h := h M66 e67
            have hOM66 : mOk M66 := by rw [e67]; exact mOk_UI hOM61 h63
            refine wm_iastE d_MM_part_214 h64 h65 h63 e67 ?_
            refine wm_goto (tgt := 267) d_MM_part_215 rfl ?_
            refine wm_less (L' := [vd, vd, vd, vd, vd, vd, vd]) ⟨Or.inl rfl, Or.inl rfl, Or.inl rfl, Or.inl rfl, Or.inl rfl, Or.inl rfl, Or.inl rfl, trivial⟩ ?_
            exact h
        clear h
        refine wm_icmp_eq (tgt := 178) d_MM_part_168 rfl h10 ⟨by decide, by decide⟩ (fun c40 => ?_) (fun c40 => ?_)
        · exact hE0 (Or.inl c40)
        · refine wm_iload d_MM_part_171 rfl ?_
          refine wm_bipush d_MM_part_173 (by decide) ?_
          refine wm_icmp_ne (tgt := 191) d_MM_part_175 rfl h10 ⟨by decide, by decide⟩ (fun c39 => ?_) (fun c39 => ?_)
          · exact hE1 (fun z95 => Or.elim z95 c40 c39)
          · replace c39 := Classical.not_not.mp c39
            exact hE0 (Or.inr c39)
      clear h
      refine wm_icmp_ne (tgt := 148) d_MM_part_140 rfl h10 ⟨by decide, by decide⟩ (fun c17 => ?_) (fun c17 => ?_)
      · refine wm_iload d_MM_part_148 rfl ?_
        refine wm_less (L' := [vr a0, vi l1, vi l2, vi l3, vd, vi x9, vd]) ⟨Or.inr rfl, Or.inr rfl, Or.inr rfl, Or.inr rfl, Or.inl rfl, Or.inr rfl, Or.inl rfl, trivial⟩ ?_
        exact hJ x9 (if_neg c17).symm
      · replace c17 := Classical.not_not.mp c17
        refine wm_bipush d_MM_part_143 (by decide) ?_
        refine wm_goto (tgt := 150) d_MM_part_145 rfl ?_
        refine wm_less (L' := [vr a0, vi l1, vi l2, vi l3, vd, vi x9, vd]) ⟨Or.inr rfl, Or.inr rfl, Or.inr rfl, Or.inr rfl, Or.inl rfl, Or.inr rfl, Or.inl rfl, trivial⟩ ?_
        exact hJ 45 (if_pos c17).symm
    · replace c12 := Classical.not_not.mp c12
      replace h := h.1 c12
      obtain ⟨h13, h⟩ := h
      refine wm_aload_n d_MM_part_123 rfl rfl ?_
      refine wm_iload_n d_MM_part_124 rfl rfl ?_
      refine wm_iload_n d_MM_part_125 rfl rfl ?_
      refine wm_iconst d_MM_part_126 ?_
      refine wm_iadd d_MM_part_127 ?_
      refine wm_iload_n d_MM_part_128 rfl rfl ?_
      refine wm_iconst d_MM_part_129 ?_
      refine wm_isub d_MM_part_130 ?_
      refine cf_MM_296 rfl d_MM_part_131 h13 (Nat.le_of_ble_eq_true rfl) (Cv.mono h (fun M14 h => ?_))
      obtain ⟨hOM14, h⟩ := h
      refine wm_return d_MM_part_134 rfl ?_
      exact ⟨rfl, h⟩
  · replace h := h.2 c6
    obtain ⟨h98, h⟩ := h
    refine wm_aload_n d_MM_part_13 rfl rfl ?_
    refine wm_aload_n d_MM_part_14 rfl rfl ?_
    refine wm_iload d_MM_part_15 rfl ?_
    refine cf_MM_302 rfl d_MM_part_17 h98 (Nat.le_of_ble_eq_true rfl) (Ci.mono h (fun x100 M99 h => ?_))
    obtain ⟨h101, hOM99, h⟩ := h
    obtain ⟨h102, h⟩ := h
    refine wm_iload d_MM_part_20 rfl ?_
    refine wm_iload_n d_MM_part_22 rfl rfl ?_
    refine cf_MM_313 rfl d_MM_part_23 h102 (Nat.le_of_ble_eq_true rfl) (Ci.mono h (fun x104 M103 h => ?_))
    obtain ⟨h105, hOM103, h⟩ := h
    obtain ⟨h106, h⟩ := h
    refine wm_istore d_MM_part_26 (by decide) (L' := [vr a0, vi l1, vi l2, vi l3, vi x3, vi x104, vd]) rfl ?_
    refine wm_aload_n d_MM_part_28 rfl rfl ?_
    refine wm_iload_n d_MM_part_29 rfl rfl ?_
    refine wm_iload d_MM_part_30 rfl ?_
    refine cf_MM_317 rfl d_MM_part_32 h106 (Nat.le_of_ble_eq_true rfl) (Cv.mono h (fun M107 h => ?_))
    obtain ⟨hOM107, h⟩ := h
    obtain ⟨h110, h⟩ := h
    refine wm_aload_n d_MM_part_35 rfl rfl ?_
    refine wm_iload d_MM_part_36 rfl ?_
    refine cf_MM_302 rfl d_MM_part_38 h110 (Nat.le_of_ble_eq_true rfl) (Ci.mono h (fun x112 M111 h => ?_))
    obtain ⟨h113, hOM111, h⟩ := h
    refine wm_bipush d_MM_part_41 (by decide) ?_
    refine wm_icmp_eq (tgt := 67) d_MM_part_43 rfl h113 ⟨by decide, by decide⟩ (fun c115 => ?_) (fun c115 => ?_)
    · replace h := h.1 c115
      obtain ⟨h116, h⟩ := h
      refine wm_aload_n d_MM_part_67 rfl rfl ?_
      refine wm_iload d_MM_part_68 rfl ?_
      refine wm_iload_n d_MM_part_70 rfl rfl ?_
      refine cf_MM_321 rfl d_MM_part_71 h116 (Nat.le_of_ble_eq_true rfl) (Ci.mono h (fun x118 M117 h => ?_))
      obtain ⟨h119, hOM117, h⟩ := h
      obtain ⟨h120, h⟩ := h
      refine wm_istore d_MM_part_74 (by decide) (L' := [vr a0, vi l1, vi l2, vi l3, vi x3, vi x104, vi x118]) rfl ?_
      refine wm_aload_n d_MM_part_76 rfl rfl ?_
      refine wm_iload d_MM_part_77 rfl ?_
      refine wm_iload d_MM_part_79 rfl ?_
      refine wm_iconst d_MM_part_81 ?_
      refine wm_iadd d_MM_part_82 ?_
      refine wm_iload_n d_MM_part_83 rfl rfl ?_
      refine cf_MM_296 rfl d_MM_part_84 h120 (Nat.le_of_ble_eq_true rfl) (Cv.mono h (fun M121 h => ?_))
      obtain ⟨hOM121, h⟩ := h
      obtain ⟨h124, h⟩ := h
      refine wm_aload_n d_MM_part_87 rfl rfl ?_
      refine wm_iload d_MM_part_88 rfl ?_
      refine wm_iload d_MM_part_90 rfl ?_
      refine wm_iconst d_MM_part_92 ?_
      refine wm_iadd d_MM_part_93 ?_
      refine wm_iload d_MM_part_94 rfl ?_
      refine cf_MM_296 rfl d_MM_part_96 h124 (Nat.le_of_ble_eq_true rfl) (Cv.mono h (fun M125 h => ?_))
      obtain ⟨hOM125, h⟩ := h
      obtain ⟨h128, h⟩ := h
      refine wm_aload_n d_MM_part_99 rfl rfl ?_
      refine wm_iload d_MM_part_100 rfl ?_
      refine wm_iload_n d_MM_part_102 rfl rfl ?_
      refine wm_iload d_MM_part_103 rfl ?_
      refine cf_MM_296 rfl d_MM_part_105 h128 (Nat.le_of_ble_eq_true rfl) (Cv.mono h (fun M129 h => ?_))
      obtain ⟨hOM129, h⟩ := h
      refine wm_return d_MM_part_108 rfl ?_
      exact ⟨rfl, h⟩
    · replace h := h.2 c115
      obtain ⟨h132, h⟩ := h
      refine wm_aload_n d_MM_part_46 rfl rfl ?_
      refine wm_iload d_MM_part_47 rfl ?_
      refine wm_iload d_MM_part_49 rfl ?_
      refine wm_iconst d_MM_part_51 ?_
      refine wm_iadd d_MM_part_52 ?_
      refine wm_iload_n d_MM_part_53 rfl rfl ?_
      refine cf_MM_296 rfl d_MM_part_54 h132 (Nat.le_of_ble_eq_true rfl) (Cv.mono h (fun M133 h => ?_))
      obtain ⟨hOM133, h⟩ := h
      obtain ⟨h136, h⟩ := h
      refine wm_aload_n d_MM_part_57 rfl rfl ?_
      refine wm_iload d_MM_part_58 rfl ?_
      refine wm_iload_n d_MM_part_60 rfl rfl ?_
      refine wm_iload d_MM_part_61 rfl ?_
      refine cf_MM_296 rfl d_MM_part_63 h136 (Nat.le_of_ble_eq_true rfl) (Cv.mono h (fun M137 h => ?_))
      obtain ⟨hOM137, h⟩ := h
      refine wm_return d_MM_part_66 rfl ?_
      exact ⟨rfl, h⟩
theorem k_MM_part_267 {G : mG} {d : Nat} {M : mM} {Q : mM → Prop} (hO : mOk M)
    (h : Q M) :
    h_MM_part_267 G d  M Q := by
  unfold h_MM_part_267
  refine wm_return d_MM_part_267 rfl ?_
  exact ⟨rfl, h⟩
theorem d_MM_list_0 : decode y_MM_list.2.1 0 = .ok (.iload_n 3, 1) := dc9_29 (by decide +kernel)
theorem d_MM_list_1 : decode y_MM_list.2.1 1 = .ok (.istore 4, 2) := dc9_54 (by decide +kernel)
theorem d_MM_list_3 : decode y_MM_list.2.1 3 = .ok (.iconst 0, 1) := dc9_3 (by decide +kernel)
theorem d_MM_list_4 : decode y_MM_list.2.1 4 = .ok (.istore 5, 2) := dc9_54 (by decide +kernel)
theorem d_MM_list_6 : decode y_MM_list.2.1 6 = .ok (.iload_n 3, 1) := dc9_29 (by decide +kernel)
theorem d_MM_list_7 : decode y_MM_list.2.1 7 = .ok (.iconst 1, 1) := dc9_4 (by decide +kernel)
theorem d_MM_list_8 : decode y_MM_list.2.1 8 = .ok (.isub, 1) := dc9_100 (by decide +kernel)
theorem d_MM_list_9 : decode y_MM_list.2.1 9 = .ok (.istore 6, 2) := dc9_54 (by decide +kernel)
theorem d_MM_list_11 : decode y_MM_list.2.1 11 = .ok (.iload 6, 2) := dc9_21 (by decide +kernel)
theorem d_MM_list_13 : decode y_MM_list.2.1 13 = .ok (.iload_n 2, 1) := dc9_28 (by decide +kernel)
theorem d_MM_list_14 : decode y_MM_list.2.1 14 = .ok (.iconst 1, 1) := dc9_4 (by decide +kernel)
theorem d_MM_list_15 : decode y_MM_list.2.1 15 = .ok (.isub, 1) := dc9_100 (by decide +kernel)
theorem d_MM_list_16 : decode y_MM_list.2.1 16 = .ok (.if_icmp .lt 87, 3) := dc9_161 (by decide +kernel)
theorem d_MM_list_103 : decode y_MM_list.2.1 103 = .ok (.return_, 1) := dc9_177 (by decide +kernel)
theorem d_MM_list_19 : decode y_MM_list.2.1 19 = .ok (.iload 6, 2) := dc9_21 (by decide +kernel)
theorem d_MM_list_21 : decode y_MM_list.2.1 21 = .ok (.iload_n 2, 1) := dc9_28 (by decide +kernel)
theorem d_MM_list_22 : decode y_MM_list.2.1 22 = .ok (.if_icmp .ge 8, 3) := dc9_162 (by decide +kernel)
theorem d_MM_list_30 : decode y_MM_list.2.1 30 = .ok (.aload_n 0, 1) := dc9_42 (by decide +kernel)
theorem d_MM_list_31 : decode y_MM_list.2.1 31 = .ok (.iload 6, 2) := dc9_21 (by decide +kernel)
theorem d_MM_list_25 : decode y_MM_list.2.1 25 = .ok (.bipush 35, 2) := dc9_16 (by decide +kernel)
theorem d_MM_list_27 : decode y_MM_list.2.1 27 = .ok (.goto 9, 3) := dc9_167 (by decide +kernel)
theorem d_MM_list_33 : decode y_MM_list.2.1 33 = .ok (.invokevirtual 302, 3) := dc9_182 (by decide +kernel)
theorem d_MM_list_36 : decode y_MM_list.2.1 36 = .ok (.istore 7, 2) := dc9_54 (by decide +kernel)
theorem d_MM_list_38 : decode y_MM_list.2.1 38 = .ok (.iload 7, 2) := dc9_21 (by decide +kernel)
theorem d_MM_list_40 : decode y_MM_list.2.1 40 = .ok (.bipush 37, 2) := dc9_16 (by decide +kernel)
theorem d_MM_list_42 : decode y_MM_list.2.1 42 = .ok (.if_icmp .ne 10, 3) := dc9_160 (by decide +kernel)
theorem d_MM_list_45 : decode y_MM_list.2.1 45 = .ok (.iload 5, 2) := dc9_21 (by decide +kernel)
theorem d_MM_list_47 : decode y_MM_list.2.1 47 = .ok (.iconst 1, 1) := dc9_4 (by decide +kernel)
theorem d_MM_list_48 : decode y_MM_list.2.1 48 = .ok (.iadd, 1) := dc9_96 (by decide +kernel)
theorem d_MM_list_49 : decode y_MM_list.2.1 49 = .ok (.goto 19, 3) := dc9_167 (by decide +kernel)
theorem d_MM_list_52 : decode y_MM_list.2.1 52 = .ok (.iload 7, 2) := dc9_21 (by decide +kernel)
theorem d_MM_list_54 : decode y_MM_list.2.1 54 = .ok (.bipush 36, 2) := dc9_16 (by decide +kernel)
theorem d_MM_list_56 : decode y_MM_list.2.1 56 = .ok (.if_icmp .ne 10, 3) := dc9_160 (by decide +kernel)
theorem d_MM_list_59 : decode y_MM_list.2.1 59 = .ok (.iload 5, 2) := dc9_21 (by decide +kernel)
theorem d_MM_list_61 : decode y_MM_list.2.1 61 = .ok (.iconst 1, 1) := dc9_4 (by decide +kernel)
theorem d_MM_list_62 : decode y_MM_list.2.1 62 = .ok (.isub, 1) := dc9_100 (by decide +kernel)
theorem d_MM_list_63 : decode y_MM_list.2.1 63 = .ok (.goto 5, 3) := dc9_167 (by decide +kernel)
theorem d_MM_list_66 : decode y_MM_list.2.1 66 = .ok (.iload 5, 2) := dc9_21 (by decide +kernel)
theorem d_MM_list_68 : decode y_MM_list.2.1 68 = .ok (.istore 5, 2) := dc9_54 (by decide +kernel)
theorem d_MM_list_70 : decode y_MM_list.2.1 70 = .ok (.iload 5, 2) := dc9_21 (by decide +kernel)
theorem d_MM_list_72 : decode y_MM_list.2.1 72 = .ok (.ifCond .ne 25, 3) := dc9_154 (by decide +kernel)
theorem d_MM_list_75 : decode y_MM_list.2.1 75 = .ok (.iload 7, 2) := dc9_21 (by decide +kernel)
theorem d_MM_list_77 : decode y_MM_list.2.1 77 = .ok (.bipush 35, 2) := dc9_16 (by decide +kernel)
theorem d_MM_list_79 : decode y_MM_list.2.1 79 = .ok (.if_icmp .ne 18, 3) := dc9_160 (by decide +kernel)
theorem d_MM_list_82 : decode y_MM_list.2.1 82 = .ok (.aload_n 0, 1) := dc9_42 (by decide +kernel)
theorem d_MM_list_83 : decode y_MM_list.2.1 83 = .ok (.iload_n 1, 1) := dc9_27 (by decide +kernel)
theorem d_MM_list_84 : decode y_MM_list.2.1 84 = .ok (.iload 6, 2) := dc9_21 (by decide +kernel)
theorem d_MM_list_86 : decode y_MM_list.2.1 86 = .ok (.iconst 1, 1) := dc9_4 (by decide +kernel)
theorem d_MM_list_87 : decode y_MM_list.2.1 87 = .ok (.iadd, 1) := dc9_96 (by decide +kernel)
theorem d_MM_list_88 : decode y_MM_list.2.1 88 = .ok (.iload 4, 2) := dc9_21 (by decide +kernel)
theorem d_MM_list_90 : decode y_MM_list.2.1 90 = .ok (.invokevirtual 296, 3) := dc9_182 (by decide +kernel)
theorem d_MM_list_93 : decode y_MM_list.2.1 93 = .ok (.iload 6, 2) := dc9_21 (by decide +kernel)
theorem d_MM_list_95 : decode y_MM_list.2.1 95 = .ok (.istore 4, 2) := dc9_54 (by decide +kernel)
theorem d_MM_list_97 : decode y_MM_list.2.1 97 = .ok (.iinc 6 (-1), 3) := by decide +kernel
theorem d_MM_list_100 : decode y_MM_list.2.1 100 = .ok (.goto (-89), 3) := dc9_167 (by decide +kernel)
def h_MM_list_11 (G : mG) (d : Nat) (a0 : Nat) (l1 : Int) (l2 : Int) (l4 : Int) (l5 : Int) (l6 : Int) (M : mM) (Q : mM → Prop) : Prop := mWm G y_MM_list (d + 1) 11 [vr a0, vi l1, vi l2, vd, vi l4, vi l5, vi l6, vd] [] M (fun r9 M9 => r9 = none ∧ Q M9)
def h_MM_list_36 (G : mG) (d : Nat) (a0 : Nat) (l1 : Int) (l2 : Int) (l4 : Int) (l5 : Int) (l6 : Int) (k0 : Int) (M : mM) (Q : mM → Prop) : Prop := mWm G y_MM_list (d + 1) 36 [vr a0, vi l1, vi l2, vd, vi l4, vi l5, vi l6, vd] [vi k0] M (fun r9 M9 => r9 = none ∧ Q M9)
theorem k_MM_list {G : mG} {d : Nat} {a0 : Nat} {l1 : Int} {l2 : Int} {l3 : Int} {M : mM} {Q : mM → Prop} (hO : mOk M) (hi_l1 : i32 l1) (hi_l2 : i32 l2) (hi_l3 : i32 l3)
    (h : h_MM_list_11 G d a0 l1 l2 l3 0 (l3 - 1) M Q) :
    Cv G y_MM_list (d + 1) [vr a0, vi l1, vi l2, vi l3] M Q := by
  refine wm_open (y := y_MM_list) rfl (Nat.le_of_ble_eq_true rfl) (L := [vr a0, vi l1, vi l2, vi l3, vd, vd, vd, vd]) rfl ?_
  refine wm_iload_n d_MM_list_0 rfl rfl ?_
  refine wm_istore d_MM_list_1 (by decide) (L' := [vr a0, vi l1, vi l2, vi l3, vi l3, vd, vd, vd]) rfl ?_
  refine wm_iconst d_MM_list_3 ?_
  refine wm_istore d_MM_list_4 (by decide) (L' := [vr a0, vi l1, vi l2, vi l3, vi l3, vi 0, vd, vd]) rfl ?_
  refine wm_iload_n d_MM_list_6 rfl rfl ?_
  refine wm_iconst d_MM_list_7 ?_
  refine wm_isub d_MM_list_8 ?_
  refine wm_istore d_MM_list_9 (by decide) (L' := [vr a0, vi l1, vi l2, vi l3, vi l3, vi 0, vi (l3 - 1), vd]) rfl ?_
  refine wm_less (L' := [vr a0, vi l1, vi l2, vd, vi l3, vi 0, vi (l3 - 1), vd]) ⟨Or.inr rfl, Or.inr rfl, Or.inr rfl, Or.inl rfl, Or.inr rfl, Or.inr rfl, Or.inr rfl, Or.inl rfl, trivial⟩ ?_
  exact h
theorem k_MM_list_11 {G : mG} {d : Nat} {a0 : Nat} {l1 : Int} {l2 : Int} {l4 : Int} {l5 : Int} {l6 : Int} {M : mM} {Q : mM → Prop} (hO : mOk M) (hi_l1 : i32 l1) (hi_l2 : i32 l2) (hi_l4 : i32 l4) (hi_l5 : i32 l5) (hi_l6 : i32 l6)
    (h : i32 (l2 - 1) ∧ ((l6 < l2 - 1) → (Q M)) ∧ (¬ (l6 < l2 - 1) → (((l2 ≤ l6) → (mK M a0 = 14 ∧ Ci G y_MM_word1 d [vr a0, vi l6] M (fun x10 M9 => i32 x10 ∧ mOk M9 ∧ (h_MM_list_36 G d a0 l1 l2 l4 l5 l6 x10 M9 Q)))) ∧ (¬ (l2 ≤ l6) → (h_MM_list_36 G d a0 l1 l2 l4 l5 l6 35 M Q))))) :
    h_MM_list_11 G d a0 l1 l2 l4 l5 l6 M Q := by
  unfold h_MM_list_11
  obtain ⟨h4, h⟩ := h
  refine wm_iload d_MM_list_11 rfl ?_
  refine wm_iload_n d_MM_list_13 rfl rfl ?_
  refine wm_iconst d_MM_list_14 ?_
  refine wm_isub d_MM_list_15 ?_
  refine wm_icmp_lt (tgt := 103) d_MM_list_16 rfl hi_l6 h4 (fun c5 => ?_) (fun c5 => ?_)
  · replace h := h.1 c5
    refine wm_return d_MM_list_103 rfl ?_
    exact ⟨rfl, h⟩
  · replace h := h.2 c5
    refine wm_iload d_MM_list_19 rfl ?_
    refine wm_iload_n d_MM_list_21 rfl rfl ?_
    refine wm_icmp_ge (tgt := 30) d_MM_list_22 rfl hi_l6 hi_l2 (fun c7 => ?_) (fun c7 => ?_)
    · replace h := h.1 c7
      obtain ⟨h8, h⟩ := h
      refine wm_aload_n d_MM_list_30 rfl rfl ?_
      refine wm_iload d_MM_list_31 rfl ?_
      refine cf_MM_302 rfl d_MM_list_33 h8 (Nat.le_of_ble_eq_true rfl) (Ci.mono h (fun x10 M9 h => ?_))
      obtain ⟨h11, hOM9, h⟩ := h
      exact h
    · replace h := h.2 c7
      refine wm_bipush d_MM_list_25 (by decide) ?_
      refine wm_goto (tgt := 36) d_MM_list_27 rfl ?_
      exact h
theorem k_MM_list_36 {G : mG} {d : Nat} {a0 : Nat} {l1 : Int} {l2 : Int} {l4 : Int} {l5 : Int} {l6 : Int} {k0 : Int} {M : mM} {Q : mM → Prop} (hO : mOk M) (hi_l1 : i32 l1) (hi_l2 : i32 l2) (hi_l4 : i32 l4) (hi_l5 : i32 l5) (hi_l6 : i32 l6) (hi_k0 : i32 k0)
    (h : ∀ v14 : Int, v14 = (if k0 = 37 then l5 + 1 else (if k0 = 36 then l5 - 1 else l5)) → i32 v14 ∧ (((v14 = 0) ∧ (k0 = 35)) → (mK M a0 = 14 ∧ Cv G y_MM_job d [vr a0, vi l1, vi (l6 + 1), vi l4] M (fun M26 => mOk M26 ∧ (h_MM_list_11 G d a0 l1 l2 l6 v14 (l6 + (-1)) M26 Q)))) ∧ (¬ ((v14 = 0) ∧ (k0 = 35)) → (h_MM_list_11 G d a0 l1 l2 l4 v14 (l6 + (-1)) M Q))) :
    h_MM_list_36 G d a0 l1 l2 l4 l5 l6 k0 M Q := by
  unfold h_MM_list_36
  refine wm_istore d_MM_list_36 (by decide) (L' := [vr a0, vi l1, vi l2, vd, vi l4, vi l5, vi l6, vi k0]) rfl ?_
  refine wm_iload d_MM_list_38 rfl ?_
  refine wm_bipush d_MM_list_40 (by decide) ?_
  have hJ : ∀ v14 : Int, v14 = (if k0 = 37 then l5 + 1 else (if k0 = 36 then l5 - 1 else l5)) → mWm G y_MM_list (d + 1) 68 [vr a0, vi l1, vi l2, vd, vi l4, vd, vi l6, vi k0] [vi v14] M (fun r9 M9 => r9 = none ∧ Q M9) := by
    intro v14 e16
    have h := h v14 e16
    obtain ⟨h20, h⟩ := h
    refine wm_istore d_MM_list_68 (by decide) (L' := [vr a0, vi l1, vi l2, vd, vi l4, vi v14, vi l6, vi k0]) rfl ?_
    refine wm_iload d_MM_list_70 rfl ?_
    have hE0 : ((v14 = 0) ∧ (k0 = 35)) → mWm G y_MM_list (d + 1) 82 [vr a0, vi l1, vi l2, vd, vi l4, vi v14, vi l6, vi k0] [] M (fun r9 M9 => r9 = none ∧ Q M9) := by
      intro q24
      have h := h.1 q24
      obtain ⟨h25, h⟩ := h
      refine wm_aload_n d_MM_list_82 rfl rfl ?_
      refine wm_iload_n d_MM_list_83 rfl rfl ?_
      refine wm_iload d_MM_list_84 rfl ?_
      refine wm_iconst d_MM_list_86 ?_
      refine wm_iadd d_MM_list_87 ?_
      refine wm_iload d_MM_list_88 rfl ?_
      refine cf_MM_296 rfl d_MM_list_90 h25 (Nat.le_of_ble_eq_true rfl) (Cv.mono h (fun M26 h => ?_))
      obtain ⟨hOM26, h⟩ := h
      refine wm_iload d_MM_list_93 rfl ?_
      refine wm_istore d_MM_list_95 (by decide) (L' := [vr a0, vi l1, vi l2, vd, vi l6, vi v14, vi l6, vi k0]) rfl ?_
      refine wm_iinc d_MM_list_97 (by decide) rfl (L' := [vr a0, vi l1, vi l2, vd, vi l6, vi v14, vi (l6 + (-1)), vi k0]) rfl ?_
      refine wm_goto (tgt := 11) d_MM_list_100 rfl ?_
      refine wm_less (L' := [vr a0, vi l1, vi l2, vd, vi l6, vi v14, vi (l6 + (-1)), vd]) ⟨Or.inr rfl, Or.inr rfl, Or.inr rfl, Or.inl rfl, Or.inr rfl, Or.inr rfl, Or.inr rfl, Or.inl rfl, trivial⟩ ?_
      exact h
    have hE1 : ¬ ((v14 = 0) ∧ (k0 = 35)) → mWm G y_MM_list (d + 1) 97 [vr a0, vi l1, vi l2, vd, vi l4, vi v14, vi l6, vi k0] [] M (fun r9 M9 => r9 = none ∧ Q M9) := by
      intro q29
      have h := h.2 q29
      refine wm_iinc d_MM_list_97 (by decide) rfl (L' := [vr a0, vi l1, vi l2, vd, vi l4, vi v14, vi (l6 + (-1)), vi k0]) rfl ?_
      refine wm_goto (tgt := 11) d_MM_list_100 rfl ?_
      refine wm_less (L' := [vr a0, vi l1, vi l2, vd, vi l4, vi v14, vi (l6 + (-1)), vd]) ⟨Or.inr rfl, Or.inr rfl, Or.inr rfl, Or.inl rfl, Or.inr rfl, Or.inr rfl, Or.inr rfl, Or.inl rfl, trivial⟩ ?_
      exact h
    clear h
    refine wm_if_ne (tgt := 97) d_MM_list_72 rfl h20 (fun c22 => ?_) (fun c22 => ?_)
    · exact hE1 (fun z32 => c22 z32.1)
    · replace c22 := Classical.not_not.mp c22
      refine wm_iload d_MM_list_75 rfl ?_
      refine wm_bipush d_MM_list_77 (by decide) ?_
      refine wm_icmp_ne (tgt := 97) d_MM_list_79 rfl hi_k0 ⟨by decide, by decide⟩ (fun c21 => ?_) (fun c21 => ?_)
      · exact hE1 (fun z30 => c21 z30.2)
      · replace c21 := Classical.not_not.mp c21
        exact hE0 ⟨c22, c21⟩
  clear h
  refine wm_icmp_ne (tgt := 52) d_MM_list_42 rfl hi_k0 ⟨by decide, by decide⟩ (fun c12 => ?_) (fun c12 => ?_)
  · refine wm_iload d_MM_list_52 rfl ?_
    refine wm_bipush d_MM_list_54 (by decide) ?_
    refine wm_icmp_ne (tgt := 66) d_MM_list_56 rfl hi_k0 ⟨by decide, by decide⟩ (fun c13 => ?_) (fun c13 => ?_)
    · refine wm_iload d_MM_list_66 rfl ?_
      refine wm_less (L' := [vr a0, vi l1, vi l2, vd, vi l4, vd, vi l6, vi k0]) ⟨Or.inr rfl, Or.inr rfl, Or.inr rfl, Or.inl rfl, Or.inr rfl, Or.inl rfl, Or.inr rfl, Or.inr rfl, trivial⟩ ?_
      exact hJ l5 (by rw [if_neg c12, if_neg c13])
    · replace c13 := Classical.not_not.mp c13
      refine wm_iload d_MM_list_59 rfl ?_
      refine wm_iconst d_MM_list_61 ?_
      refine wm_isub d_MM_list_62 ?_
      refine wm_goto (tgt := 68) d_MM_list_63 rfl ?_
      refine wm_less (L' := [vr a0, vi l1, vi l2, vd, vi l4, vd, vi l6, vi k0]) ⟨Or.inr rfl, Or.inr rfl, Or.inr rfl, Or.inl rfl, Or.inr rfl, Or.inl rfl, Or.inr rfl, Or.inr rfl, trivial⟩ ?_
      exact hJ (l5 - 1) (by rw [if_neg c12, if_pos c13])
  · replace c12 := Classical.not_not.mp c12
    refine wm_iload d_MM_list_45 rfl ?_
    refine wm_iconst d_MM_list_47 ?_
    refine wm_iadd d_MM_list_48 ?_
    refine wm_goto (tgt := 68) d_MM_list_49 rfl ?_
    refine wm_less (L' := [vr a0, vi l1, vi l2, vd, vi l4, vd, vi l6, vi k0]) ⟨Or.inr rfl, Or.inr rfl, Or.inr rfl, Or.inl rfl, Or.inr rfl, Or.inl rfl, Or.inr rfl, Or.inr rfl, trivial⟩ ?_
    exact hJ (l5 + 1) (by rw [if_pos c12])
theorem d_MM_numberOf_0 : decode y_MM_numberOf.2.1 0 = .ok (.iconst 0, 1) := dc9_3 (by decide +kernel)
theorem d_MM_numberOf_1 : decode y_MM_numberOf.2.1 1 = .ok (.istore_n 2, 1) := dc9_61 (by decide +kernel)
theorem d_MM_numberOf_2 : decode y_MM_numberOf.2.1 2 = .ok (.aload_n 0, 1) := dc9_42 (by decide +kernel)
theorem d_MM_numberOf_3 : decode y_MM_numberOf.2.1 3 = .ok (.iload_n 1, 1) := dc9_27 (by decide +kernel)
theorem d_MM_numberOf_4 : decode y_MM_numberOf.2.1 4 = .ok (.invokevirtual 279, 3) := dc9_182 (by decide +kernel)
theorem d_MM_numberOf_7 : decode y_MM_numberOf.2.1 7 = .ok (.istore_n 3, 1) := dc9_62 (by decide +kernel)
theorem d_MM_numberOf_8 : decode y_MM_numberOf.2.1 8 = .ok (.iload_n 3, 1) := dc9_29 (by decide +kernel)
theorem d_MM_numberOf_9 : decode y_MM_numberOf.2.1 9 = .ok (.aload_n 0, 1) := dc9_42 (by decide +kernel)
theorem d_MM_numberOf_10 : decode y_MM_numberOf.2.1 10 = .ok (.getfield 25, 3) := dc9_180 (by decide +kernel)
theorem d_MM_numberOf_13 : decode y_MM_numberOf.2.1 13 = .ok (.iload_n 1, 1) := dc9_27 (by decide +kernel)
theorem d_MM_numberOf_14 : decode y_MM_numberOf.2.1 14 = .ok (.invokevirtual 155, 3) := dc9_182 (by decide +kernel)
theorem d_MM_numberOf_17 : decode y_MM_numberOf.2.1 17 = .ok (.if_icmp .ge 26, 3) := dc9_162 (by decide +kernel)
theorem d_MM_numberOf_43 : decode y_MM_numberOf.2.1 43 = .ok (.iload_n 2, 1) := dc9_28 (by decide +kernel)
theorem d_MM_numberOf_44 : decode y_MM_numberOf.2.1 44 = .ok (.ireturn, 1) := dc9_172 (by decide +kernel)
theorem d_MM_numberOf_20 : decode y_MM_numberOf.2.1 20 = .ok (.bipush 10, 2) := dc9_16 (by decide +kernel)
theorem d_MM_numberOf_22 : decode y_MM_numberOf.2.1 22 = .ok (.iload_n 2, 1) := dc9_28 (by decide +kernel)
theorem d_MM_numberOf_23 : decode y_MM_numberOf.2.1 23 = .ok (.imul, 1) := dc9_104 (by decide +kernel)
theorem d_MM_numberOf_24 : decode y_MM_numberOf.2.1 24 = .ok (.aload_n 0, 1) := dc9_42 (by decide +kernel)
theorem d_MM_numberOf_25 : decode y_MM_numberOf.2.1 25 = .ok (.getfield 16, 3) := dc9_180 (by decide +kernel)
theorem d_MM_numberOf_28 : decode y_MM_numberOf.2.1 28 = .ok (.iload_n 3, 1) := dc9_29 (by decide +kernel)
theorem d_MM_numberOf_29 : decode y_MM_numberOf.2.1 29 = .ok (.invokevirtual 155, 3) := dc9_182 (by decide +kernel)
theorem d_MM_numberOf_32 : decode y_MM_numberOf.2.1 32 = .ok (.iadd, 1) := dc9_96 (by decide +kernel)
theorem d_MM_numberOf_33 : decode y_MM_numberOf.2.1 33 = .ok (.bipush 48, 2) := dc9_16 (by decide +kernel)
theorem d_MM_numberOf_35 : decode y_MM_numberOf.2.1 35 = .ok (.isub, 1) := dc9_100 (by decide +kernel)
theorem d_MM_numberOf_36 : decode y_MM_numberOf.2.1 36 = .ok (.istore_n 2, 1) := dc9_61 (by decide +kernel)
theorem d_MM_numberOf_37 : decode y_MM_numberOf.2.1 37 = .ok (.iinc 3 1, 3) := by decide +kernel
theorem d_MM_numberOf_40 : decode y_MM_numberOf.2.1 40 = .ok (.goto (-32), 3) := dc9_167 (by decide +kernel)
def h_MM_numberOf_8 (G : mG) (d : Nat) (a0 : Nat) (l1 : Int) (l2 : Int) (l3 : Int) (M : mM) (Q : Int → mM → Prop) : Prop := mWm G y_MM_numberOf (d + 1) 8 [vr a0, vi l1, vi l2, vi l3] [] M (fun r9 M9 => ∃ x9, r9 = some (vi x9) ∧ Q x9 M9)
theorem k_MM_numberOf {G : mG} {d : Nat} {a0 : Nat} {l1 : Int} {M : mM} {Q : Int → mM → Prop} (hO : mOk M) (hi_l1 : i32 l1)
    (h : mK M a0 = 14 ∧ Ci G y_MM_place0 d [vr a0, vi l1] M (fun x3 M2 => i32 x3 ∧ mOk M2 ∧ (h_MM_numberOf_8 G d a0 l1 0 x3 M2 Q))) :
    Ci G y_MM_numberOf (d + 1) [vr a0, vi l1] M Q := by
  refine wm_open (y := y_MM_numberOf) rfl (Nat.le_of_ble_eq_true rfl) (L := [vr a0, vi l1, vd, vd]) rfl ?_
  obtain ⟨h1, h⟩ := h
  refine wm_iconst d_MM_numberOf_0 ?_
  refine wm_istore_n d_MM_numberOf_1 rfl (by decide) (L' := [vr a0, vi l1, vi 0, vd]) rfl ?_
  refine wm_aload_n d_MM_numberOf_2 rfl rfl ?_
  refine wm_iload_n d_MM_numberOf_3 rfl rfl ?_
  refine cf_MM_279 rfl d_MM_numberOf_4 h1 (Nat.le_of_ble_eq_true rfl) (Ci.mono h (fun x3 M2 h => ?_))
  obtain ⟨h4, hOM2, h⟩ := h
  refine wm_istore_n d_MM_numberOf_7 rfl (by decide) (L' := [vr a0, vi l1, vi 0, vi x3]) rfl ?_
  exact h
theorem k_MM_numberOf_8 {G : mG} {d : Nat} {a0 : Nat} {l1 : Int} {l2 : Int} {l3 : Int} {M : mM} {Q : Int → mM → Prop} (hO : mOk M) (hi_l1 : i32 l1) (hi_l2 : i32 l2) (hi_l3 : i32 l3)
    (h : mK M a0 = 14 ∧ mK M (mR M a0 5) = 15 ∧ Ci G y_MN_at d [vr (mR M a0 5), vi l1] M (fun x8 M7 => i32 x8 ∧ mOk M7 ∧ (((x8 ≤ l3) → (Q l2 M7)) ∧ (¬ (x8 ≤ l3) → (mK M7 a0 = 14 ∧ mK M7 (mR M7 a0 2) = 15 ∧ Ci G y_MN_at d [vr (mR M7 a0 2), vi l3] M7 (fun x15 M14 => i32 x15 ∧ mOk M14 ∧ (h_MM_numberOf_8 G d a0 l1 (((10 * l2) + x15) - 48) (l3 + 1) M14 Q))))))) :
    h_MM_numberOf_8 G d a0 l1 l2 l3 M Q := by
  unfold h_MM_numberOf_8
  obtain ⟨h5, h⟩ := h
  obtain ⟨h6, h⟩ := h
  refine wm_iload_n d_MM_numberOf_8 rfl rfl ?_
  refine wm_aload_n d_MM_numberOf_9 rfl rfl ?_
  refine gf_MM_25 rfl d_MM_numberOf_10 h5 ?_
  refine wm_iload_n d_MM_numberOf_13 rfl rfl ?_
  refine cf_MM_155 rfl d_MM_numberOf_14 h6 (Nat.le_of_ble_eq_true rfl) (Ci.mono h (fun x8 M7 h => ?_))
  obtain ⟨h9, hOM7, h⟩ := h
  refine wm_icmp_ge (tgt := 43) d_MM_numberOf_17 rfl hi_l3 h9 (fun c11 => ?_) (fun c11 => ?_)
  · replace h := h.1 c11
    refine wm_iload_n d_MM_numberOf_43 rfl rfl ?_
    refine wm_ireturn d_MM_numberOf_44 rfl rfl ?_
    exact ⟨_, rfl, h⟩
  · replace h := h.2 c11
    obtain ⟨h12, h⟩ := h
    obtain ⟨h13, h⟩ := h
    refine wm_bipush d_MM_numberOf_20 (by decide) ?_
    refine wm_iload_n d_MM_numberOf_22 rfl rfl ?_
    refine wm_imul d_MM_numberOf_23 ?_
    refine wm_aload_n d_MM_numberOf_24 rfl rfl ?_
    refine gf_MM_16 rfl d_MM_numberOf_25 h12 ?_
    refine wm_iload_n d_MM_numberOf_28 rfl rfl ?_
    refine cf_MM_155 rfl d_MM_numberOf_29 h13 (Nat.le_of_ble_eq_true rfl) (Ci.mono h (fun x15 M14 h => ?_))
    obtain ⟨h16, hOM14, h⟩ := h
    refine wm_iadd d_MM_numberOf_32 ?_
    refine wm_bipush d_MM_numberOf_33 (by decide) ?_
    refine wm_isub d_MM_numberOf_35 ?_
    refine wm_istore_n d_MM_numberOf_36 rfl (by decide) (L' := [vr a0, vi l1, vi (((10 * l2) + x15) - 48), vi l3]) rfl ?_
    refine wm_iinc d_MM_numberOf_37 (by decide) rfl (L' := [vr a0, vi l1, vi (((10 * l2) + x15) - 48), vi (l3 + 1)]) rfl ?_
    refine wm_goto (tgt := 8) d_MM_numberOf_40 rfl ?_
    exact h
theorem d_MM_sameWord_0 : decode y_MM_sameWord.2.1 0 = .ok (.aload_n 0, 1) := dc9_42 (by decide +kernel)
theorem d_MM_sameWord_1 : decode y_MM_sameWord.2.1 1 = .ok (.getfield 25, 3) := dc9_180 (by decide +kernel)
theorem d_MM_sameWord_4 : decode y_MM_sameWord.2.1 4 = .ok (.iload_n 1, 1) := dc9_27 (by decide +kernel)
theorem d_MM_sameWord_5 : decode y_MM_sameWord.2.1 5 = .ok (.invokevirtual 155, 3) := dc9_182 (by decide +kernel)
theorem d_MM_sameWord_8 : decode y_MM_sameWord.2.1 8 = .ok (.aload_n 0, 1) := dc9_42 (by decide +kernel)
theorem d_MM_sameWord_9 : decode y_MM_sameWord.2.1 9 = .ok (.iload_n 1, 1) := dc9_27 (by decide +kernel)
theorem d_MM_sameWord_10 : decode y_MM_sameWord.2.1 10 = .ok (.invokevirtual 279, 3) := dc9_182 (by decide +kernel)
theorem d_MM_sameWord_13 : decode y_MM_sameWord.2.1 13 = .ok (.isub, 1) := dc9_100 (by decide +kernel)
theorem d_MM_sameWord_14 : decode y_MM_sameWord.2.1 14 = .ok (.istore_n 3, 1) := dc9_62 (by decide +kernel)
theorem d_MM_sameWord_15 : decode y_MM_sameWord.2.1 15 = .ok (.aload_n 0, 1) := dc9_42 (by decide +kernel)
theorem d_MM_sameWord_16 : decode y_MM_sameWord.2.1 16 = .ok (.getfield 25, 3) := dc9_180 (by decide +kernel)
theorem d_MM_sameWord_19 : decode y_MM_sameWord.2.1 19 = .ok (.iload_n 2, 1) := dc9_28 (by decide +kernel)
theorem d_MM_sameWord_20 : decode y_MM_sameWord.2.1 20 = .ok (.invokevirtual 155, 3) := dc9_182 (by decide +kernel)
theorem d_MM_sameWord_23 : decode y_MM_sameWord.2.1 23 = .ok (.aload_n 0, 1) := dc9_42 (by decide +kernel)
theorem d_MM_sameWord_24 : decode y_MM_sameWord.2.1 24 = .ok (.iload_n 2, 1) := dc9_28 (by decide +kernel)
theorem d_MM_sameWord_25 : decode y_MM_sameWord.2.1 25 = .ok (.invokevirtual 279, 3) := dc9_182 (by decide +kernel)
theorem d_MM_sameWord_28 : decode y_MM_sameWord.2.1 28 = .ok (.isub, 1) := dc9_100 (by decide +kernel)
theorem d_MM_sameWord_29 : decode y_MM_sameWord.2.1 29 = .ok (.iload_n 3, 1) := dc9_29 (by decide +kernel)
theorem d_MM_sameWord_30 : decode y_MM_sameWord.2.1 30 = .ok (.if_icmp .ne 7, 3) := dc9_160 (by decide +kernel)
theorem d_MM_sameWord_33 : decode y_MM_sameWord.2.1 33 = .ok (.iconst 1, 1) := dc9_4 (by decide +kernel)
theorem d_MM_sameWord_34 : decode y_MM_sameWord.2.1 34 = .ok (.goto 4, 3) := dc9_167 (by decide +kernel)
theorem d_MM_sameWord_37 : decode y_MM_sameWord.2.1 37 = .ok (.iconst 0, 1) := dc9_3 (by decide +kernel)
theorem d_MM_sameWord_38 : decode y_MM_sameWord.2.1 38 = .ok (.istore 4, 2) := dc9_54 (by decide +kernel)
theorem d_MM_sameWord_40 : decode y_MM_sameWord.2.1 40 = .ok (.iconst 0, 1) := dc9_3 (by decide +kernel)
theorem d_MM_sameWord_41 : decode y_MM_sameWord.2.1 41 = .ok (.istore 5, 2) := dc9_54 (by decide +kernel)
theorem d_MM_sameWord_43 : decode y_MM_sameWord.2.1 43 = .ok (.iload 5, 2) := dc9_21 (by decide +kernel)
theorem d_MM_sameWord_45 : decode y_MM_sameWord.2.1 45 = .ok (.iload_n 3, 1) := dc9_29 (by decide +kernel)
theorem d_MM_sameWord_46 : decode y_MM_sameWord.2.1 46 = .ok (.if_icmp .ge 54, 3) := dc9_162 (by decide +kernel)
theorem d_MM_sameWord_49 : decode y_MM_sameWord.2.1 49 = .ok (.iload 4, 2) := dc9_21 (by decide +kernel)
theorem d_MM_sameWord_51 : decode y_MM_sameWord.2.1 51 = .ok (.ifCond .eq 49, 3) := dc9_153 (by decide +kernel)
theorem d_MM_sameWord_54 : decode y_MM_sameWord.2.1 54 = .ok (.aload_n 0, 1) := dc9_42 (by decide +kernel)
theorem d_MM_sameWord_55 : decode y_MM_sameWord.2.1 55 = .ok (.getfield 16, 3) := dc9_180 (by decide +kernel)
theorem d_MM_sameWord_58 : decode y_MM_sameWord.2.1 58 = .ok (.aload_n 0, 1) := dc9_42 (by decide +kernel)
theorem d_MM_sameWord_59 : decode y_MM_sameWord.2.1 59 = .ok (.iload_n 1, 1) := dc9_27 (by decide +kernel)
theorem d_MM_sameWord_100 : decode y_MM_sameWord.2.1 100 = .ok (.iload 4, 2) := dc9_21 (by decide +kernel)
theorem d_MM_sameWord_102 : decode y_MM_sameWord.2.1 102 = .ok (.ireturn, 1) := dc9_172 (by decide +kernel)
theorem d_MM_sameWord_60 : decode y_MM_sameWord.2.1 60 = .ok (.invokevirtual 279, 3) := dc9_182 (by decide +kernel)
theorem d_MM_sameWord_63 : decode y_MM_sameWord.2.1 63 = .ok (.iload 5, 2) := dc9_21 (by decide +kernel)
theorem d_MM_sameWord_65 : decode y_MM_sameWord.2.1 65 = .ok (.iadd, 1) := dc9_96 (by decide +kernel)
theorem d_MM_sameWord_66 : decode y_MM_sameWord.2.1 66 = .ok (.invokevirtual 155, 3) := dc9_182 (by decide +kernel)
theorem d_MM_sameWord_69 : decode y_MM_sameWord.2.1 69 = .ok (.aload_n 0, 1) := dc9_42 (by decide +kernel)
theorem d_MM_sameWord_70 : decode y_MM_sameWord.2.1 70 = .ok (.getfield 16, 3) := dc9_180 (by decide +kernel)
theorem d_MM_sameWord_73 : decode y_MM_sameWord.2.1 73 = .ok (.aload_n 0, 1) := dc9_42 (by decide +kernel)
theorem d_MM_sameWord_74 : decode y_MM_sameWord.2.1 74 = .ok (.iload_n 2, 1) := dc9_28 (by decide +kernel)
theorem d_MM_sameWord_75 : decode y_MM_sameWord.2.1 75 = .ok (.invokevirtual 279, 3) := dc9_182 (by decide +kernel)
theorem d_MM_sameWord_78 : decode y_MM_sameWord.2.1 78 = .ok (.iload 5, 2) := dc9_21 (by decide +kernel)
theorem d_MM_sameWord_80 : decode y_MM_sameWord.2.1 80 = .ok (.iadd, 1) := dc9_96 (by decide +kernel)
theorem d_MM_sameWord_81 : decode y_MM_sameWord.2.1 81 = .ok (.invokevirtual 155, 3) := dc9_182 (by decide +kernel)
theorem d_MM_sameWord_84 : decode y_MM_sameWord.2.1 84 = .ok (.if_icmp .ne 7, 3) := dc9_160 (by decide +kernel)
theorem d_MM_sameWord_87 : decode y_MM_sameWord.2.1 87 = .ok (.iconst 1, 1) := dc9_4 (by decide +kernel)
theorem d_MM_sameWord_88 : decode y_MM_sameWord.2.1 88 = .ok (.goto 4, 3) := dc9_167 (by decide +kernel)
theorem d_MM_sameWord_91 : decode y_MM_sameWord.2.1 91 = .ok (.iconst 0, 1) := dc9_3 (by decide +kernel)
theorem d_MM_sameWord_92 : decode y_MM_sameWord.2.1 92 = .ok (.istore 4, 2) := dc9_54 (by decide +kernel)
theorem d_MM_sameWord_94 : decode y_MM_sameWord.2.1 94 = .ok (.iinc 5 1, 3) := by decide +kernel
theorem d_MM_sameWord_97 : decode y_MM_sameWord.2.1 97 = .ok (.goto (-54), 3) := dc9_167 (by decide +kernel)
def h_MM_sameWord_43 (G : mG) (d : Nat) (a0 : Nat) (l1 : Int) (l2 : Int) (l3 : Int) (l4 : Int) (l5 : Int) (M : mM) (Q : Int → mM → Prop) : Prop := mWm G y_MM_sameWord (d + 1) 43 [vr a0, vi l1, vi l2, vi l3, vi l4, vi l5] [] M (fun r9 M9 => ∃ x9, r9 = some (vi x9) ∧ Q x9 M9)
theorem k_MM_sameWord {G : mG} {d : Nat} {a0 : Nat} {l1 : Int} {l2 : Int} {M : mM} {Q : Int → mM → Prop} (hO : mOk M) (hi_l1 : i32 l1) (hi_l2 : i32 l2)
    (h : mK M a0 = 14 ∧ mK M (mR M a0 5) = 15 ∧ Ci G y_MN_at d [vr (mR M a0 5), vi l1] M (fun x4 M3 => i32 x4 ∧ mOk M3 ∧ (mK M3 a0 = 14 ∧ Ci G y_MM_place0 d [vr a0, vi l1] M3 (fun x8 M7 => i32 x8 ∧ mOk M7 ∧ (mK M7 a0 = 14 ∧ mK M7 (mR M7 a0 5) = 15 ∧ Ci G y_MN_at d [vr (mR M7 a0 5), vi l2] M7 (fun x13 M12 => i32 x13 ∧ mOk M12 ∧ (mK M12 a0 = 14 ∧ Ci G y_MM_place0 d [vr a0, vi l2] M12 (fun x17 M16 => i32 x17 ∧ mOk M16 ∧ (i32 (x13 - x17) ∧ i32 (x4 - x8) ∧ ∀ v22 : Int, v22 = (if (x13 - x17 = x4 - x8) then 1 else 0) → h_MM_sameWord_43 G d a0 l1 l2 (x4 - x8) v22 0 M16 Q))))))))) :
    Ci G y_MM_sameWord (d + 1) [vr a0, vi l1, vi l2] M Q := by
  refine wm_open (y := y_MM_sameWord) rfl (Nat.le_of_ble_eq_true rfl) (L := [vr a0, vi l1, vi l2, vd, vd, vd]) rfl ?_
  obtain ⟨h1, h⟩ := h
  obtain ⟨h2, h⟩ := h
  refine wm_aload_n d_MM_sameWord_0 rfl rfl ?_
  refine gf_MM_25 rfl d_MM_sameWord_1 h1 ?_
  refine wm_iload_n d_MM_sameWord_4 rfl rfl ?_
  refine cf_MM_155 rfl d_MM_sameWord_5 h2 (Nat.le_of_ble_eq_true rfl) (Ci.mono h (fun x4 M3 h => ?_))
  obtain ⟨h5, hOM3, h⟩ := h
  obtain ⟨h6, h⟩ := h
  refine wm_aload_n d_MM_sameWord_8 rfl rfl ?_
  refine wm_iload_n d_MM_sameWord_9 rfl rfl ?_
  refine cf_MM_279 rfl d_MM_sameWord_10 h6 (Nat.le_of_ble_eq_true rfl) (Ci.mono h (fun x8 M7 h => ?_))
  obtain ⟨h9, hOM7, h⟩ := h
  obtain ⟨h10, h⟩ := h
  obtain ⟨h11, h⟩ := h
  refine wm_isub d_MM_sameWord_13 ?_
  refine wm_istore_n d_MM_sameWord_14 rfl (by decide) (L' := [vr a0, vi l1, vi l2, vi (x4 - x8), vd, vd]) rfl ?_
  refine wm_aload_n d_MM_sameWord_15 rfl rfl ?_
  refine gf_MM_25 rfl d_MM_sameWord_16 h10 ?_
  refine wm_iload_n d_MM_sameWord_19 rfl rfl ?_
  refine cf_MM_155 rfl d_MM_sameWord_20 h11 (Nat.le_of_ble_eq_true rfl) (Ci.mono h (fun x13 M12 h => ?_))
  obtain ⟨h14, hOM12, h⟩ := h
  obtain ⟨h15, h⟩ := h
  refine wm_aload_n d_MM_sameWord_23 rfl rfl ?_
  refine wm_iload_n d_MM_sameWord_24 rfl rfl ?_
  refine cf_MM_279 rfl d_MM_sameWord_25 h15 (Nat.le_of_ble_eq_true rfl) (Ci.mono h (fun x17 M16 h => ?_))
  obtain ⟨h18, hOM16, h⟩ := h
  obtain ⟨h19, h⟩ := h
  obtain ⟨h20, h⟩ := h
  refine wm_isub d_MM_sameWord_28 ?_
  refine wm_iload_n d_MM_sameWord_29 rfl rfl ?_
  have hJ : ∀ v22 : Int, v22 = (if (x13 - x17 = x4 - x8) then 1 else 0) → mWm G y_MM_sameWord (d + 1) 38 [vr a0, vi l1, vi l2, vi (x4 - x8), vd, vd] [vi v22] M16 (fun r9 M9 => ∃ x9, r9 = some (vi x9) ∧ Q x9 M9) := by
    intro v22 e24
    have h := h v22 e24
    have h25 : i32 v22 := by rw [e24]; (repeat' split) <;> first | exact ⟨by decide, by decide⟩ | exact ⟨by decide, by decide⟩
    have h26 : (v22 = 0 ∨ v22 = 1) := by rw [e24]; (repeat' split) <;> decide
    refine wm_istore d_MM_sameWord_38 (by decide) (L' := [vr a0, vi l1, vi l2, vi (x4 - x8), vi v22, vd]) rfl ?_
    refine wm_iconst d_MM_sameWord_40 ?_
    refine wm_istore d_MM_sameWord_41 (by decide) (L' := [vr a0, vi l1, vi l2, vi (x4 - x8), vi v22, vi 0]) rfl ?_
    exact h
  clear h
  refine wm_icmp_ne (tgt := 37) d_MM_sameWord_30 rfl h19 h20 (fun c21 => ?_) (fun c21 => ?_)
  · refine wm_iconst d_MM_sameWord_37 ?_
    exact hJ 0 (if_neg c21).symm
  · replace c21 := Classical.not_not.mp c21
    refine wm_iconst d_MM_sameWord_33 ?_
    refine wm_goto (tgt := 38) d_MM_sameWord_34 rfl ?_
    exact hJ 1 (if_pos c21).symm
theorem k_MM_sameWord_43 {G : mG} {d : Nat} {a0 : Nat} {l1 : Int} {l2 : Int} {l3 : Int} {l4 : Int} {l5 : Int} {M : mM} {Q : Int → mM → Prop} (hO : mOk M) (hi_l1 : i32 l1) (hi_l2 : i32 l2) (hi_l3 : i32 l3) (hi_l4 : i32 l4) (hi_l5 : i32 l5)
    (h : (((l3 ≤ l5) ∨ (l4 = 0)) → ((l4 = 0 ∨ l4 = 1) ∧ Q l4 M)) ∧ (¬ ((l3 ≤ l5) ∨ (l4 = 0)) → (mK M a0 = 14 ∧ Ci G y_MM_place0 d [vr a0, vi l1] M (fun x36 M35 => i32 x36 ∧ mOk M35 ∧ (mK M35 (mR M a0 2) = 15 ∧ Ci G y_MN_at d [vr (mR M a0 2), vi (x36 + l5)] M35 (fun x40 M39 => i32 x40 ∧ mOk M39 ∧ (mK M39 a0 = 14 ∧ Ci G y_MM_place0 d [vr a0, vi l2] M39 (fun x44 M43 => i32 x44 ∧ mOk M43 ∧ (mK M43 (mR M39 a0 2) = 15 ∧ Ci G y_MN_at d [vr (mR M39 a0 2), vi (x44 + l5)] M43 (fun x48 M47 => i32 x48 ∧ mOk M47 ∧ (∀ v51 : Int, v51 = (if (x40 = x48) then 1 else 0) → h_MM_sameWord_43 G d a0 l1 l2 l3 v51 (l5 + 1) M47 Q))))))))))) :
    h_MM_sameWord_43 G d a0 l1 l2 l3 l4 l5 M Q := by
  unfold h_MM_sameWord_43
  refine wm_iload d_MM_sameWord_43 rfl ?_
  refine wm_iload_n d_MM_sameWord_45 rfl rfl ?_
  have hE0 : ((l3 ≤ l5) ∨ (l4 = 0)) → mWm G y_MM_sameWord (d + 1) 100 [vr a0, vi l1, vi l2, vi l3, vi l4, vi l5] [] M (fun r9 M9 => ∃ x9, r9 = some (vi x9) ∧ Q x9 M9) := by
    intro q31
    have h := h.1 q31
    obtain ⟨h32, h⟩ := h
    refine wm_iload d_MM_sameWord_100 rfl ?_
    refine wm_ireturn d_MM_sameWord_102 rfl (m_nb h32) ?_
    exact ⟨_, rfl, h⟩
  have hE1 : ¬ ((l3 ≤ l5) ∨ (l4 = 0)) → mWm G y_MM_sameWord (d + 1) 54 [vr a0, vi l1, vi l2, vi l3, vi l4, vi l5] [] M (fun r9 M9 => ∃ x9, r9 = some (vi x9) ∧ Q x9 M9) := by
    intro q33
    have h := h.2 q33
    obtain ⟨h34, h⟩ := h
    refine wm_aload_n d_MM_sameWord_54 rfl rfl ?_
    refine gf_MM_16 rfl d_MM_sameWord_55 h34 ?_
    refine wm_aload_n d_MM_sameWord_58 rfl rfl ?_
    refine wm_iload_n d_MM_sameWord_59 rfl rfl ?_
    refine cf_MM_279 rfl d_MM_sameWord_60 h34 (Nat.le_of_ble_eq_true rfl) (Ci.mono h (fun x36 M35 h => ?_))
    obtain ⟨h37, hOM35, h⟩ := h
    obtain ⟨h38, h⟩ := h
    refine wm_iload d_MM_sameWord_63 rfl ?_
    refine wm_iadd d_MM_sameWord_65 ?_
    refine cf_MM_155 rfl d_MM_sameWord_66 h38 (Nat.le_of_ble_eq_true rfl) (Ci.mono h (fun x40 M39 h => ?_))
    obtain ⟨h41, hOM39, h⟩ := h
    obtain ⟨h42, h⟩ := h
    refine wm_aload_n d_MM_sameWord_69 rfl rfl ?_
    refine gf_MM_16 rfl d_MM_sameWord_70 h42 ?_
    refine wm_aload_n d_MM_sameWord_73 rfl rfl ?_
    refine wm_iload_n d_MM_sameWord_74 rfl rfl ?_
    refine cf_MM_279 rfl d_MM_sameWord_75 h42 (Nat.le_of_ble_eq_true rfl) (Ci.mono h (fun x44 M43 h => ?_))
    obtain ⟨h45, hOM43, h⟩ := h
    obtain ⟨h46, h⟩ := h
    refine wm_iload d_MM_sameWord_78 rfl ?_
    refine wm_iadd d_MM_sameWord_80 ?_
    refine cf_MM_155 rfl d_MM_sameWord_81 h46 (Nat.le_of_ble_eq_true rfl) (Ci.mono h (fun x48 M47 h => ?_))
    obtain ⟨h49, hOM47, h⟩ := h
    have hJ : ∀ v51 : Int, v51 = (if (x40 = x48) then 1 else 0) → mWm G y_MM_sameWord (d + 1) 92 [vr a0, vi l1, vi l2, vi l3, vd, vi l5] [vi v51] M47 (fun r9 M9 => ∃ x9, r9 = some (vi x9) ∧ Q x9 M9) := by
      intro v51 e53
      have h := h v51 e53
      have h54 : i32 v51 := by rw [e53]; (repeat' split) <;> first | exact ⟨by decide, by decide⟩ | exact ⟨by decide, by decide⟩
      have h55 : (v51 = 0 ∨ v51 = 1) := by rw [e53]; (repeat' split) <;> decide
      refine wm_istore d_MM_sameWord_92 (by decide) (L' := [vr a0, vi l1, vi l2, vi l3, vi v51, vi l5]) rfl ?_
      refine wm_iinc d_MM_sameWord_94 (by decide) rfl (L' := [vr a0, vi l1, vi l2, vi l3, vi v51, vi (l5 + 1)]) rfl ?_
      refine wm_goto (tgt := 43) d_MM_sameWord_97 rfl ?_
      exact h
    clear h
    refine wm_icmp_ne (tgt := 91) d_MM_sameWord_84 rfl h41 h49 (fun c50 => ?_) (fun c50 => ?_)
    · refine wm_iconst d_MM_sameWord_91 ?_
      refine wm_less (L' := [vr a0, vi l1, vi l2, vi l3, vd, vi l5]) ⟨Or.inr rfl, Or.inr rfl, Or.inr rfl, Or.inr rfl, Or.inl rfl, Or.inr rfl, trivial⟩ ?_
      exact hJ 0 (if_neg c50).symm
    · replace c50 := Classical.not_not.mp c50
      refine wm_iconst d_MM_sameWord_87 ?_
      refine wm_goto (tgt := 92) d_MM_sameWord_88 rfl ?_
      refine wm_less (L' := [vr a0, vi l1, vi l2, vi l3, vd, vi l5]) ⟨Or.inr rfl, Or.inr rfl, Or.inr rfl, Or.inr rfl, Or.inl rfl, Or.inr rfl, trivial⟩ ?_
      exact hJ 1 (if_pos c50).symm
  clear h
  refine wm_icmp_ge (tgt := 100) d_MM_sameWord_46 rfl hi_l5 hi_l3 (fun c29 => ?_) (fun c29 => ?_)
  · exact hE0 (Or.inl c29)
  · refine wm_iload d_MM_sameWord_49 rfl ?_
    refine wm_if_eq (tgt := 100) d_MM_sameWord_51 rfl hi_l4 (fun c28 => ?_) (fun c28 => ?_)
    · exact hE0 (Or.inr c28)
    · exact hE1 (fun z57 => Or.elim z57 c29 c28)
theorem d_MM_find_0 : decode y_MM_find.2.1 0 = .ok (.iconst (-1), 1) := dc9_2 (by decide +kernel)
theorem d_MM_find_1 : decode y_MM_find.2.1 1 = .ok (.istore_n 2, 1) := dc9_61 (by decide +kernel)
theorem d_MM_find_2 : decode y_MM_find.2.1 2 = .ok (.iconst 0, 1) := dc9_3 (by decide +kernel)
theorem d_MM_find_3 : decode y_MM_find.2.1 3 = .ok (.istore_n 3, 1) := dc9_62 (by decide +kernel)
theorem d_MM_find_4 : decode y_MM_find.2.1 4 = .ok (.iload_n 3, 1) := dc9_29 (by decide +kernel)
theorem d_MM_find_5 : decode y_MM_find.2.1 5 = .ok (.aload_n 0, 1) := dc9_42 (by decide +kernel)
theorem d_MM_find_6 : decode y_MM_find.2.1 6 = .ok (.getfield 45, 3) := dc9_180 (by decide +kernel)
theorem d_MM_find_9 : decode y_MM_find.2.1 9 = .ok (.getfield 145, 3) := dc9_180 (by decide +kernel)
theorem d_MM_find_12 : decode y_MM_find.2.1 12 = .ok (.if_icmp .ge 31, 3) := dc9_162 (by decide +kernel)
theorem d_MM_find_43 : decode y_MM_find.2.1 43 = .ok (.iload_n 2, 1) := dc9_28 (by decide +kernel)
theorem d_MM_find_44 : decode y_MM_find.2.1 44 = .ok (.ireturn, 1) := dc9_172 (by decide +kernel)
theorem d_MM_find_15 : decode y_MM_find.2.1 15 = .ok (.aload_n 0, 1) := dc9_42 (by decide +kernel)
theorem d_MM_find_16 : decode y_MM_find.2.1 16 = .ok (.aload_n 0, 1) := dc9_42 (by decide +kernel)
theorem d_MM_find_17 : decode y_MM_find.2.1 17 = .ok (.getfield 45, 3) := dc9_180 (by decide +kernel)
theorem d_MM_find_20 : decode y_MM_find.2.1 20 = .ok (.iload_n 3, 1) := dc9_29 (by decide +kernel)
theorem d_MM_find_21 : decode y_MM_find.2.1 21 = .ok (.invokevirtual 155, 3) := dc9_182 (by decide +kernel)
theorem d_MM_find_24 : decode y_MM_find.2.1 24 = .ok (.iload_n 1, 1) := dc9_27 (by decide +kernel)
theorem d_MM_find_25 : decode y_MM_find.2.1 25 = .ok (.invokevirtual 330, 3) := dc9_182 (by decide +kernel)
theorem d_MM_find_28 : decode y_MM_find.2.1 28 = .ok (.ifCond .eq 7, 3) := dc9_153 (by decide +kernel)
theorem d_MM_find_35 : decode y_MM_find.2.1 35 = .ok (.iload_n 2, 1) := dc9_28 (by decide +kernel)
theorem d_MM_find_31 : decode y_MM_find.2.1 31 = .ok (.iload_n 3, 1) := dc9_29 (by decide +kernel)
theorem d_MM_find_32 : decode y_MM_find.2.1 32 = .ok (.goto 4, 3) := dc9_167 (by decide +kernel)
theorem d_MM_find_36 : decode y_MM_find.2.1 36 = .ok (.istore_n 2, 1) := dc9_61 (by decide +kernel)
theorem d_MM_find_37 : decode y_MM_find.2.1 37 = .ok (.iinc 3 1, 3) := by decide +kernel
theorem d_MM_find_40 : decode y_MM_find.2.1 40 = .ok (.goto (-36), 3) := dc9_167 (by decide +kernel)
def h_MM_find_4 (G : mG) (d : Nat) (a0 : Nat) (l1 : Int) (l2 : Int) (l3 : Int) (M : mM) (Q : Int → mM → Prop) : Prop := mWm G y_MM_find (d + 1) 4 [vr a0, vi l1, vi l2, vi l3] [] M (fun r9 M9 => ∃ x9, r9 = some (vi x9) ∧ Q x9 M9)
theorem k_MM_find {G : mG} {d : Nat} {a0 : Nat} {l1 : Int} {M : mM} {Q : Int → mM → Prop} (hO : mOk M) (hi_l1 : i32 l1)
    (h : h_MM_find_4 G d a0 l1 (-1) 0 M Q) :
    Ci G y_MM_find (d + 1) [vr a0, vi l1] M Q := by
  refine wm_open (y := y_MM_find) rfl (Nat.le_of_ble_eq_true rfl) (L := [vr a0, vi l1, vd, vd]) rfl ?_
  refine wm_iconst d_MM_find_0 ?_
  refine wm_istore_n d_MM_find_1 rfl (by decide) (L' := [vr a0, vi l1, vi (-1), vd]) rfl ?_
  refine wm_iconst d_MM_find_2 ?_
  refine wm_istore_n d_MM_find_3 rfl (by decide) (L' := [vr a0, vi l1, vi (-1), vi 0]) rfl ?_
  exact h
theorem k_MM_find_4 {G : mG} {d : Nat} {a0 : Nat} {l1 : Int} {l2 : Int} {l3 : Int} {M : mM} {Q : Int → mM → Prop} (hO : mOk M) (hi_l1 : i32 l1) (hi_l2 : i32 l2) (hi_l3 : i32 l3)
    (h : mK M a0 = 14 ∧ mK M (mR M a0 13) = 15 ∧ ((mI M (mR M a0 13) 1 ≤ l3) → (Q l2 M)) ∧ (¬ (mI M (mR M a0 13) 1 ≤ l3) → (Ci G y_MN_at d [vr (mR M a0 13), vi l3] M (fun x6 M5 => i32 x6 ∧ mOk M5 ∧ (mK M5 a0 = 14 ∧ Ci G y_MM_sameWord d [vr a0, vi x6, vi l1] M5 (fun x10 M9 => i32 x10 ∧ mOk M9 ∧ (∀ v13 : Int, v13 = (if (x10 = 0) then l2 else l3) → h_MM_find_4 G d a0 l1 v13 (l3 + 1) M9 Q))))))) :
    h_MM_find_4 G d a0 l1 l2 l3 M Q := by
  unfold h_MM_find_4
  obtain ⟨h1, h⟩ := h
  obtain ⟨h2, h⟩ := h
  refine wm_iload_n d_MM_find_4 rfl rfl ?_
  refine wm_aload_n d_MM_find_5 rfl rfl ?_
  refine gf_MM_45 rfl d_MM_find_6 h1 ?_
  refine gf_MM_145 rfl d_MM_find_9 h2 ?_
  refine wm_icmp_ge (tgt := 43) d_MM_find_12 rfl hi_l3 (hO _ _).1 (fun c4 => ?_) (fun c4 => ?_)
  · replace h := h.1 c4
    refine wm_iload_n d_MM_find_43 rfl rfl ?_
    refine wm_ireturn d_MM_find_44 rfl rfl ?_
    exact ⟨_, rfl, h⟩
  · replace h := h.2 c4
    refine wm_aload_n d_MM_find_15 rfl rfl ?_
    refine wm_aload_n d_MM_find_16 rfl rfl ?_
    refine gf_MM_45 rfl d_MM_find_17 h1 ?_
    refine wm_iload_n d_MM_find_20 rfl rfl ?_
    refine cf_MM_155 rfl d_MM_find_21 h2 (Nat.le_of_ble_eq_true rfl) (Ci.mono h (fun x6 M5 h => ?_))
    obtain ⟨h7, hOM5, h⟩ := h
    obtain ⟨h8, h⟩ := h
    refine wm_iload_n d_MM_find_24 rfl rfl ?_
    refine cf_MM_330 rfl d_MM_find_25 h8 (Nat.le_of_ble_eq_true rfl) (Ci.mono h (fun x10 M9 h => ?_))
    obtain ⟨h11, hOM9, h⟩ := h
    have hJ : ∀ v13 : Int, v13 = (if (x10 = 0) then l2 else l3) → mWm G y_MM_find (d + 1) 36 [vr a0, vi l1, vd, vi l3] [vi v13] M9 (fun r9 M9 => ∃ x9, r9 = some (vi x9) ∧ Q x9 M9) := by
      intro v13 e15
      have h := h v13 e15
      have h16 : i32 v13 := by rw [e15]; (repeat' split) <;> first | exact hi_l2 | exact hi_l3
      refine wm_istore_n d_MM_find_36 rfl (by decide) (L' := [vr a0, vi l1, vi v13, vi l3]) rfl ?_
      refine wm_iinc d_MM_find_37 (by decide) rfl (L' := [vr a0, vi l1, vi v13, vi (l3 + 1)]) rfl ?_
      refine wm_goto (tgt := 4) d_MM_find_40 rfl ?_
      exact h
    clear h
    refine wm_if_eq (tgt := 35) d_MM_find_28 rfl h11 (fun c12 => ?_) (fun c12 => ?_)
    · refine wm_iload_n d_MM_find_35 rfl rfl ?_
      refine wm_less (L' := [vr a0, vi l1, vd, vi l3]) ⟨Or.inr rfl, Or.inr rfl, Or.inl rfl, Or.inr rfl, trivial⟩ ?_
      exact hJ l2 (if_pos c12).symm
    · refine wm_iload_n d_MM_find_31 rfl rfl ?_
      refine wm_goto (tgt := 36) d_MM_find_32 rfl ?_
      refine wm_less (L' := [vr a0, vi l1, vd, vi l3]) ⟨Or.inr rfl, Or.inr rfl, Or.inl rfl, Or.inr rfl, trivial⟩ ?_
      exact hJ l3 (if_neg c12).symm
theorem d_MM_know_0 : decode y_MM_know.2.1 0 = .ok (.aload_n 0, 1) := dc9_42 (by decide +kernel)
theorem d_MM_know_1 : decode y_MM_know.2.1 1 = .ok (.getfield 45, 3) := dc9_180 (by decide +kernel)
theorem d_MM_know_4 : decode y_MM_know.2.1 4 = .ok (.iload_n 1, 1) := dc9_27 (by decide +kernel)
theorem d_MM_know_5 : decode y_MM_know.2.1 5 = .ok (.invokevirtual 152, 3) := dc9_182 (by decide +kernel)
theorem d_MM_know_8 : decode y_MM_know.2.1 8 = .ok (.aload_n 0, 1) := dc9_42 (by decide +kernel)
theorem d_MM_know_9 : decode y_MM_know.2.1 9 = .ok (.getfield 48, 3) := dc9_180 (by decide +kernel)
theorem d_MM_know_12 : decode y_MM_know.2.1 12 = .ok (.iload_n 2, 1) := dc9_28 (by decide +kernel)
theorem d_MM_know_13 : decode y_MM_know.2.1 13 = .ok (.invokevirtual 152, 3) := dc9_182 (by decide +kernel)
theorem d_MM_know_16 : decode y_MM_know.2.1 16 = .ok (.aload_n 0, 1) := dc9_42 (by decide +kernel)
theorem d_MM_know_17 : decode y_MM_know.2.1 17 = .ok (.getfield 51, 3) := dc9_180 (by decide +kernel)
theorem d_MM_know_20 : decode y_MM_know.2.1 20 = .ok (.iload_n 3, 1) := dc9_29 (by decide +kernel)
theorem d_MM_know_21 : decode y_MM_know.2.1 21 = .ok (.invokevirtual 152, 3) := dc9_182 (by decide +kernel)
theorem d_MM_know_24 : decode y_MM_know.2.1 24 = .ok (.return_, 1) := dc9_177 (by decide +kernel)
theorem k_MM_know {G : mG} {d : Nat} {a0 : Nat} {l1 : Int} {l2 : Int} {l3 : Int} {M : mM} {Q : mM → Prop} (hO : mOk M) (hi_l1 : i32 l1) (hi_l2 : i32 l2) (hi_l3 : i32 l3)
    (h : mK M a0 = 14 ∧ mK M (mR M a0 13) = 15 ∧ Cv G y_MN_add d [vr (mR M a0 13), vi l1] M (fun M3 => mOk M3 ∧ (mK M3 a0 = 14 ∧ mK M3 (mR M3 a0 14) = 15 ∧ Cv G y_MN_add d [vr (mR M3 a0 14), vi l2] M3 (fun M8 => mOk M8 ∧ (mK M8 a0 = 14 ∧ mK M8 (mR M8 a0 15) = 15 ∧ Cv G y_MN_add d [vr (mR M8 a0 15), vi l3] M8 (fun M13 => mOk M13 ∧ (Q M13))))))) :
    Cv G y_MM_know (d + 1) [vr a0, vi l1, vi l2, vi l3] M Q := by
  refine wm_open (y := y_MM_know) rfl (Nat.le_of_ble_eq_true rfl) (L := [vr a0, vi l1, vi l2, vi l3]) rfl ?_
  obtain ⟨h1, h⟩ := h
  obtain ⟨h2, h⟩ := h
  refine wm_aload_n d_MM_know_0 rfl rfl ?_
  refine gf_MM_45 rfl d_MM_know_1 h1 ?_
  refine wm_iload_n d_MM_know_4 rfl rfl ?_
  refine cf_MM_152 rfl d_MM_know_5 h2 (Nat.le_of_ble_eq_true rfl) (Cv.mono h (fun M3 h => ?_))
  obtain ⟨hOM3, h⟩ := h
  obtain ⟨h6, h⟩ := h
  obtain ⟨h7, h⟩ := h
  refine wm_aload_n d_MM_know_8 rfl rfl ?_
  refine gf_MM_48 rfl d_MM_know_9 h6 ?_
  refine wm_iload_n d_MM_know_12 rfl rfl ?_
  refine cf_MM_152 rfl d_MM_know_13 h7 (Nat.le_of_ble_eq_true rfl) (Cv.mono h (fun M8 h => ?_))
  obtain ⟨hOM8, h⟩ := h
  obtain ⟨h11, h⟩ := h
  obtain ⟨h12, h⟩ := h
  refine wm_aload_n d_MM_know_16 rfl rfl ?_
  refine gf_MM_51 rfl d_MM_know_17 h11 ?_
  refine wm_iload_n d_MM_know_20 rfl rfl ?_
  refine cf_MM_152 rfl d_MM_know_21 h12 (Nat.le_of_ble_eq_true rfl) (Cv.mono h (fun M13 h => ?_))
  obtain ⟨hOM13, h⟩ := h
  refine wm_return d_MM_know_24 rfl ?_
  exact ⟨rfl, h⟩
theorem d_MM_look_0 : decode y_MM_look.2.1 0 = .ok (.aload_n 0, 1) := dc9_42 (by decide +kernel)
theorem d_MM_look_1 : decode y_MM_look.2.1 1 = .ok (.getfield 60, 3) := dc9_180 (by decide +kernel)
theorem d_MM_look_4 : decode y_MM_look.2.1 4 = .ok (.iconst 0, 1) := dc9_3 (by decide +kernel)
theorem d_MM_look_5 : decode y_MM_look.2.1 5 = .ok (.putfield 145, 3) := dc9_181 (by decide +kernel)
theorem d_MM_look_8 : decode y_MM_look.2.1 8 = .ok (.aload_n 0, 1) := dc9_42 (by decide +kernel)
theorem d_MM_look_9 : decode y_MM_look.2.1 9 = .ok (.getfield 57, 3) := dc9_180 (by decide +kernel)
theorem d_MM_look_12 : decode y_MM_look.2.1 12 = .ok (.iconst 0, 1) := dc9_3 (by decide +kernel)
theorem d_MM_look_13 : decode y_MM_look.2.1 13 = .ok (.putfield 145, 3) := dc9_181 (by decide +kernel)
theorem d_MM_look_16 : decode y_MM_look.2.1 16 = .ok (.aload_n 0, 1) := dc9_42 (by decide +kernel)
theorem d_MM_look_17 : decode y_MM_look.2.1 17 = .ok (.getfield 60, 3) := dc9_180 (by decide +kernel)
theorem d_MM_look_20 : decode y_MM_look.2.1 20 = .ok (.iload_n 1, 1) := dc9_27 (by decide +kernel)
theorem d_MM_look_21 : decode y_MM_look.2.1 21 = .ok (.invokevirtual 152, 3) := dc9_182 (by decide +kernel)
theorem d_MM_look_24 : decode y_MM_look.2.1 24 = .ok (.aload_n 0, 1) := dc9_42 (by decide +kernel)
theorem d_MM_look_25 : decode y_MM_look.2.1 25 = .ok (.getfield 60, 3) := dc9_180 (by decide +kernel)
theorem d_MM_look_28 : decode y_MM_look.2.1 28 = .ok (.iconst 0, 1) := dc9_3 (by decide +kernel)
theorem d_MM_look_29 : decode y_MM_look.2.1 29 = .ok (.invokevirtual 152, 3) := dc9_182 (by decide +kernel)
theorem d_MM_look_32 : decode y_MM_look.2.1 32 = .ok (.aload_n 0, 1) := dc9_42 (by decide +kernel)
theorem d_MM_look_33 : decode y_MM_look.2.1 33 = .ok (.getfield 60, 3) := dc9_180 (by decide +kernel)
theorem d_MM_look_36 : decode y_MM_look.2.1 36 = .ok (.getfield 145, 3) := dc9_180 (by decide +kernel)
theorem d_MM_look_39 : decode y_MM_look.2.1 39 = .ok (.ifCond .le 135, 3) := dc9_158 (by decide +kernel)
theorem d_MM_look_42 : decode y_MM_look.2.1 42 = .ok (.aload_n 0, 1) := dc9_42 (by decide +kernel)
theorem d_MM_look_43 : decode y_MM_look.2.1 43 = .ok (.getfield 267, 3) := dc9_180 (by decide +kernel)
theorem d_MM_look_46 : decode y_MM_look.2.1 46 = .ok (.ifCond .ne 128, 3) := dc9_154 (by decide +kernel)
theorem d_MM_look_49 : decode y_MM_look.2.1 49 = .ok (.aload_n 0, 1) := dc9_42 (by decide +kernel)
theorem d_MM_look_50 : decode y_MM_look.2.1 50 = .ok (.getfield 60, 3) := dc9_180 (by decide +kernel)
theorem d_MM_look_174 : decode y_MM_look.2.1 174 = .ok (.aload_n 0, 1) := dc9_42 (by decide +kernel)
theorem d_MM_look_175 : decode y_MM_look.2.1 175 = .ok (.getfield 267, 3) := dc9_180 (by decide +kernel)
theorem d_MM_look_178 : decode y_MM_look.2.1 178 = .ok (.ifCond .ne 18, 3) := dc9_154 (by decide +kernel)
theorem d_MM_look_181 : decode y_MM_look.2.1 181 = .ok (.aload_n 0, 1) := dc9_42 (by decide +kernel)
theorem d_MM_look_182 : decode y_MM_look.2.1 182 = .ok (.getfield 57, 3) := dc9_180 (by decide +kernel)
theorem d_MM_look_185 : decode y_MM_look.2.1 185 = .ok (.invokevirtual 341, 3) := dc9_182 (by decide +kernel)
theorem d_MM_look_188 : decode y_MM_look.2.1 188 = .ok (.iconst 1, 1) := dc9_4 (by decide +kernel)
theorem d_MM_look_189 : decode y_MM_look.2.1 189 = .ok (.if_icmp .ne 7, 3) := dc9_160 (by decide +kernel)
theorem d_MM_look_192 : decode y_MM_look.2.1 192 = .ok (.iconst 1, 1) := dc9_4 (by decide +kernel)
theorem d_MM_look_193 : decode y_MM_look.2.1 193 = .ok (.goto 4, 3) := dc9_167 (by decide +kernel)
theorem d_MM_look_196 : decode y_MM_look.2.1 196 = .ok (.iconst 0, 1) := dc9_3 (by decide +kernel)
theorem d_MM_look_197 : decode y_MM_look.2.1 197 = .ok (.ireturn, 1) := dc9_172 (by decide +kernel)
theorem d_MM_look_53 : decode y_MM_look.2.1 53 = .ok (.invokevirtual 232, 3) := dc9_182 (by decide +kernel)
theorem d_MM_look_56 : decode y_MM_look.2.1 56 = .ok (.istore_n 3, 1) := dc9_62 (by decide +kernel)
theorem d_MM_look_57 : decode y_MM_look.2.1 57 = .ok (.aload_n 0, 1) := dc9_42 (by decide +kernel)
theorem d_MM_look_58 : decode y_MM_look.2.1 58 = .ok (.getfield 60, 3) := dc9_180 (by decide +kernel)
theorem d_MM_look_61 : decode y_MM_look.2.1 61 = .ok (.invokevirtual 232, 3) := dc9_182 (by decide +kernel)
theorem d_MM_look_64 : decode y_MM_look.2.1 64 = .ok (.istore 4, 2) := dc9_54 (by decide +kernel)
theorem d_MM_look_66 : decode y_MM_look.2.1 66 = .ok (.aload_n 0, 1) := dc9_42 (by decide +kernel)
theorem d_MM_look_67 : decode y_MM_look.2.1 67 = .ok (.getfield 38, 3) := dc9_180 (by decide +kernel)
theorem d_MM_look_70 : decode y_MM_look.2.1 70 = .ok (.getfield 287, 3) := dc9_180 (by decide +kernel)
theorem d_MM_look_73 : decode y_MM_look.2.1 73 = .ok (.iload 4, 2) := dc9_21 (by decide +kernel)
theorem d_MM_look_75 : decode y_MM_look.2.1 75 = .ok (.invokevirtual 155, 3) := dc9_182 (by decide +kernel)
theorem d_MM_look_78 : decode y_MM_look.2.1 78 = .ok (.istore 5, 2) := dc9_54 (by decide +kernel)
theorem d_MM_look_80 : decode y_MM_look.2.1 80 = .ok (.iload_n 3, 1) := dc9_29 (by decide +kernel)
theorem d_MM_look_81 : decode y_MM_look.2.1 81 = .ok (.iconst 1, 1) := dc9_4 (by decide +kernel)
theorem d_MM_look_82 : decode y_MM_look.2.1 82 = .ok (.if_icmp .eq 8, 3) := dc9_159 (by decide +kernel)
theorem d_MM_look_85 : decode y_MM_look.2.1 85 = .ok (.iload 5, 2) := dc9_21 (by decide +kernel)
theorem d_MM_look_87 : decode y_MM_look.2.1 87 = .ok (.ifCond .ge 13, 3) := dc9_156 (by decide +kernel)
theorem d_MM_look_100 : decode y_MM_look.2.1 100 = .ok (.aload_n 0, 1) := dc9_42 (by decide +kernel)
theorem d_MM_look_101 : decode y_MM_look.2.1 101 = .ok (.getfield 60, 3) := dc9_180 (by decide +kernel)
theorem d_MM_look_104 : decode y_MM_look.2.1 104 = .ok (.iload 4, 2) := dc9_21 (by decide +kernel)
theorem d_MM_look_90 : decode y_MM_look.2.1 90 = .ok (.aload_n 0, 1) := dc9_42 (by decide +kernel)
theorem d_MM_look_91 : decode y_MM_look.2.1 91 = .ok (.iload 4, 2) := dc9_21 (by decide +kernel)
theorem d_MM_look_93 : decode y_MM_look.2.1 93 = .ok (.iload_n 2, 1) := dc9_28 (by decide +kernel)
theorem d_MM_look_94 : decode y_MM_look.2.1 94 = .ok (.invokevirtual 334, 3) := dc9_182 (by decide +kernel)
theorem d_MM_look_97 : decode y_MM_look.2.1 97 = .ok (.goto 74, 3) := dc9_167 (by decide +kernel)
theorem d_MM_look_171 : decode y_MM_look.2.1 171 = .ok (.goto (-139), 3) := dc9_167 (by decide +kernel)
theorem d_MM_look_106 : decode y_MM_look.2.1 106 = .ok (.invokevirtual 152, 3) := dc9_182 (by decide +kernel)
theorem d_MM_look_109 : decode y_MM_look.2.1 109 = .ok (.aload_n 0, 1) := dc9_42 (by decide +kernel)
theorem d_MM_look_110 : decode y_MM_look.2.1 110 = .ok (.getfield 60, 3) := dc9_180 (by decide +kernel)
theorem d_MM_look_113 : decode y_MM_look.2.1 113 = .ok (.iconst 1, 1) := dc9_4 (by decide +kernel)
theorem d_MM_look_114 : decode y_MM_look.2.1 114 = .ok (.invokevirtual 152, 3) := dc9_182 (by decide +kernel)
theorem d_MM_look_117 : decode y_MM_look.2.1 117 = .ok (.aload_n 0, 1) := dc9_42 (by decide +kernel)
theorem d_MM_look_118 : decode y_MM_look.2.1 118 = .ok (.getfield 60, 3) := dc9_180 (by decide +kernel)
theorem d_MM_look_121 : decode y_MM_look.2.1 121 = .ok (.getfield 145, 3) := dc9_180 (by decide +kernel)
theorem d_MM_look_124 : decode y_MM_look.2.1 124 = .ok (.istore 6, 2) := dc9_54 (by decide +kernel)
theorem d_MM_look_126 : decode y_MM_look.2.1 126 = .ok (.iload 5, 2) := dc9_21 (by decide +kernel)
theorem d_MM_look_128 : decode y_MM_look.2.1 128 = .ok (.ifCond .lt 37, 3) := dc9_155 (by decide +kernel)
theorem d_MM_look_165 : decode y_MM_look.2.1 165 = .ok (.aload_n 0, 1) := dc9_42 (by decide +kernel)
theorem d_MM_look_166 : decode y_MM_look.2.1 166 = .ok (.iload 6, 2) := dc9_21 (by decide +kernel)
theorem d_MM_look_131 : decode y_MM_look.2.1 131 = .ok (.aload_n 0, 1) := dc9_42 (by decide +kernel)
theorem d_MM_look_132 : decode y_MM_look.2.1 132 = .ok (.getfield 60, 3) := dc9_180 (by decide +kernel)
theorem d_MM_look_135 : decode y_MM_look.2.1 135 = .ok (.iload 5, 2) := dc9_21 (by decide +kernel)
theorem d_MM_look_168 : decode y_MM_look.2.1 168 = .ok (.invokevirtual 338, 3) := dc9_182 (by decide +kernel)
theorem d_MM_look_137 : decode y_MM_look.2.1 137 = .ok (.invokevirtual 152, 3) := dc9_182 (by decide +kernel)
theorem d_MM_look_140 : decode y_MM_look.2.1 140 = .ok (.aload_n 0, 1) := dc9_42 (by decide +kernel)
theorem d_MM_look_141 : decode y_MM_look.2.1 141 = .ok (.getfield 60, 3) := dc9_180 (by decide +kernel)
theorem d_MM_look_144 : decode y_MM_look.2.1 144 = .ok (.iconst 0, 1) := dc9_3 (by decide +kernel)
theorem d_MM_look_145 : decode y_MM_look.2.1 145 = .ok (.invokevirtual 152, 3) := dc9_182 (by decide +kernel)
theorem d_MM_look_148 : decode y_MM_look.2.1 148 = .ok (.aload_n 0, 1) := dc9_42 (by decide +kernel)
theorem d_MM_look_149 : decode y_MM_look.2.1 149 = .ok (.getfield 38, 3) := dc9_180 (by decide +kernel)
theorem d_MM_look_152 : decode y_MM_look.2.1 152 = .ok (.getfield 290, 3) := dc9_180 (by decide +kernel)
theorem d_MM_look_155 : decode y_MM_look.2.1 155 = .ok (.iload 5, 2) := dc9_21 (by decide +kernel)
theorem d_MM_look_157 : decode y_MM_look.2.1 157 = .ok (.invokevirtual 155, 3) := dc9_182 (by decide +kernel)
theorem d_MM_look_160 : decode y_MM_look.2.1 160 = .ok (.istore 5, 2) := dc9_54 (by decide +kernel)
theorem d_MM_look_162 : decode y_MM_look.2.1 162 = .ok (.goto (-36), 3) := dc9_167 (by decide +kernel)
def h_MM_look_32 (G : mG) (d : Nat) (a0 : Nat) (l2 : Int) (M : mM) (Q : Int → mM → Prop) : Prop := mWm G y_MM_look (d + 1) 32 [vr a0, vd, vi l2, vd, vd, vd, vd] [] M (fun r9 M9 => ∃ x9, r9 = some (vi x9) ∧ Q x9 M9)
def h_MM_look_126 (G : mG) (d : Nat) (a0 : Nat) (l2 : Int) (l5 : Int) (l6 : Int) (M : mM) (Q : Int → mM → Prop) : Prop := mWm G y_MM_look (d + 1) 126 [vr a0, vd, vi l2, vd, vd, vi l5, vi l6] [] M (fun r9 M9 => ∃ x9, r9 = some (vi x9) ∧ Q x9 M9)
theorem k_MM_look {G : mG} {d : Nat} {a0 : Nat} {l1 : Int} {l2 : Int} {M : mM} {Q : Int → mM → Prop} (hO : mOk M) (hi_l1 : i32 l1) (hi_l2 : i32 l2)
    (h : mK M a0 = 14 ∧ mK M (mR M a0 20) = 15 ∧ ∀ M3, M3 = mUI M (mR M a0 20) 1 0 → mK M3 (mR M3 a0 19) = 15 ∧ ∀ M6, M6 = mUI M3 (mR M3 a0 19) 1 0 → mK M6 (mR M6 a0 20) = 15 ∧ Cv G y_MN_add d [vr (mR M6 a0 20), vi l1] M6 (fun M9 => mOk M9 ∧ (mK M9 a0 = 14 ∧ mK M9 (mR M9 a0 20) = 15 ∧ Cv G y_MN_add d [vr (mR M9 a0 20), vi 0] M9 (fun M14 => mOk M14 ∧ (h_MM_look_32 G d a0 l2 M14 Q))))) :
    Ci G y_MM_look (d + 1) [vr a0, vi l1, vi l2] M Q := by
  refine wm_open (y := y_MM_look) rfl (Nat.le_of_ble_eq_true rfl) (L := [vr a0, vi l1, vi l2, vd, vd, vd, vd]) rfl ?_
  obtain ⟨h1, h⟩ := h
  obtain ⟨h2, h⟩ := h
  obtain ⟨M3, e4⟩ : ∃ M3, M3 = mUI M (mR M a0 20) 1 0 := ⟨_, rfl⟩
  replace h := h M3 e4
  obtain ⟨h5, h⟩ := h
  obtain ⟨M6, e7⟩ : ∃ M6, M6 = mUI M3 (mR M3 a0 19) 1 0 := ⟨_, rfl⟩
  replace h := h M6 e7
  obtain ⟨h8, h⟩ := h
  refine wm_aload_n d_MM_look_0 rfl rfl ?_
  refine gf_MM_60 rfl d_MM_look_1 h1 ?_
  refine wm_iconst d_MM_look_4 ?_
  have hOM3 : mOk M3 := by rw [e4]; exact mOk_UI hO ⟨by decide, by decide⟩
  refine pf_MM_145 rfl d_MM_look_5 h2 ⟨by decide, by decide⟩ e4 ?_
  refine wm_aload_n d_MM_look_8 rfl rfl ?_
  refine gf_MM_57 rfl d_MM_look_9 (by rw [e4]; exact h1) ?_
  refine wm_iconst d_MM_look_12 ?_
  have hOM6 : mOk M6 := by rw [e7]; exact mOk_UI hOM3 ⟨by decide, by decide⟩
  refine pf_MM_145 rfl d_MM_look_13 h5 ⟨by decide, by decide⟩ e7 ?_
  refine wm_aload_n d_MM_look_16 rfl rfl ?_
  refine gf_MM_60 rfl d_MM_look_17 (by rw [e7, e4]; exact h1) ?_
  refine wm_iload_n d_MM_look_20 rfl rfl ?_
  refine cf_MM_152 rfl d_MM_look_21 h8 (Nat.le_of_ble_eq_true rfl) (Cv.mono h (fun M9 h => ?_))
  obtain ⟨hOM9, h⟩ := h
  obtain ⟨h12, h⟩ := h
  obtain ⟨h13, h⟩ := h
  refine wm_aload_n d_MM_look_24 rfl rfl ?_
  refine gf_MM_60 rfl d_MM_look_25 h12 ?_
  refine wm_iconst d_MM_look_28 ?_
  refine cf_MM_152 rfl d_MM_look_29 h13 (Nat.le_of_ble_eq_true rfl) (Cv.mono h (fun M14 h => ?_))
  obtain ⟨hOM14, h⟩ := h
  refine wm_less (L' := [vr a0, vd, vi l2, vd, vd, vd, vd]) ⟨Or.inr rfl, Or.inl rfl, Or.inr rfl, Or.inl rfl, Or.inl rfl, Or.inl rfl, Or.inl rfl, trivial⟩ ?_
  exact h
theorem k_MM_look_32 {G : mG} {d : Nat} {a0 : Nat} {l2 : Int} {M : mM} {Q : Int → mM → Prop} (hO : mOk M) (hi_l2 : i32 l2)
    (h : mK M a0 = 14 ∧ mK M (mR M a0 20) = 15 ∧ (((mI M (mR M a0 20) 1 ≤ 0) ∨ (¬ (mI M a0 16 = 0))) → (((mI M a0 16 = 0) → (mK M (mR M a0 19) = 15 ∧ Ci G y_MN_last d [vr (mR M a0 19)] M (fun x28 M27 => i32 x28 ∧ mOk M27 ∧ (∀ v31 : Int, v31 = (if (x28 = 1) then 1 else 0) → Q v31 M27)))) ∧ (¬ (mI M a0 16 = 0) → (Q 0 M)))) ∧ (¬ ((mI M (mR M a0 20) 1 ≤ 0) ∨ (¬ (mI M a0 16 = 0))) → (Ci G y_MN_take d [vr (mR M a0 20)] M (fun x39 M38 => i32 x39 ∧ mOk M38 ∧ (mK M38 a0 = 14 ∧ mK M38 (mR M38 a0 20) = 15 ∧ Ci G y_MN_take d [vr (mR M38 a0 20)] M38 (fun x44 M43 => i32 x44 ∧ mOk M43 ∧ (mK M43 a0 = 14 ∧ mK M43 (mR M43 a0 10) = 16 ∧ mK M43 (mR M43 (mR M43 a0 10) 4) = 15 ∧ Ci G y_MN_at d [vr (mR M43 (mR M43 a0 10) 4), vi x44] M43 (fun x50 M49 => i32 x50 ∧ mOk M49 ∧ ((((x39 = 1) ∨ (¬ (0 ≤ x50))) → (mK M49 a0 = 14 ∧ Cv G y_MM_lookAt d [vr a0, vi x44, vi l2] M49 (fun M57 => mOk M57 ∧ (h_MM_look_32 G d a0 l2 M57 Q)))) ∧ (¬ ((x39 = 1) ∨ (¬ (0 ≤ x50))) → (mK M49 a0 = 14 ∧ mK M49 (mR M49 a0 20) = 15 ∧ Cv G y_MN_add d [vr (mR M49 a0 20), vi x44] M49 (fun M63 => mOk M63 ∧ (mK M63 a0 = 14 ∧ mK M63 (mR M63 a0 20) = 15 ∧ Cv G y_MN_add d [vr (mR M63 a0 20), vi 1] M63 (fun M68 => mOk M68 ∧ (mK M68 a0 = 14 ∧ mK M68 (mR M68 a0 20) = 15 ∧ h_MM_look_126 G d a0 l2 x50 (mI M68 (mR M68 a0 20) 1) M68 Q))))))))))))))) :
    h_MM_look_32 G d a0 l2 M Q := by
  unfold h_MM_look_32
  obtain ⟨h17, h⟩ := h
  obtain ⟨h18, h⟩ := h
  refine wm_aload_n d_MM_look_32 rfl rfl ?_
  refine gf_MM_60 rfl d_MM_look_33 h17 ?_
  refine gf_MM_145 rfl d_MM_look_36 h18 ?_
  have hE0 : ((mI M (mR M a0 20) 1 ≤ 0) ∨ (¬ (mI M a0 16 = 0))) → mWm G y_MM_look (d + 1) 174 [vr a0, vd, vi l2, vd, vd, vd, vd] [] M (fun r9 M9 => ∃ x9, r9 = some (vi x9) ∧ Q x9 M9) := by
    intro q22
    have h := h.1 q22
    refine wm_aload_n d_MM_look_174 rfl rfl ?_
    refine gf_MM_267 rfl d_MM_look_175 h17 ?_
    refine wm_if_ne (tgt := 196) d_MM_look_178 rfl (hO _ _).1 (fun c25 => ?_) (fun c25 => ?_)
    · replace h := h.2 c25
      refine wm_iconst d_MM_look_196 ?_
      refine wm_ireturn d_MM_look_197 rfl (m_nb (by decide)) ?_
      exact ⟨_, rfl, h⟩
    · replace c25 := Classical.not_not.mp c25
      replace h := h.1 c25
      obtain ⟨h26, h⟩ := h
      refine wm_aload_n d_MM_look_181 rfl rfl ?_
      refine gf_MM_57 rfl d_MM_look_182 h17 ?_
      refine cf_MM_341 rfl d_MM_look_185 h26 (Nat.le_of_ble_eq_true rfl) (Ci.mono h (fun x28 M27 h => ?_))
      obtain ⟨h29, hOM27, h⟩ := h
      refine wm_iconst d_MM_look_188 ?_
      have hJ : ∀ v31 : Int, v31 = (if (x28 = 1) then 1 else 0) → mWm G y_MM_look (d + 1) 197 [vd, vd, vd, vd, vd, vd, vd] [vi v31] M27 (fun r9 M9 => ∃ x9, r9 = some (vi x9) ∧ Q x9 M9) := by
        intro v31 e33
        have h := h v31 e33
        have h34 : i32 v31 := by rw [e33]; (repeat' split) <;> first | exact ⟨by decide, by decide⟩ | exact ⟨by decide, by decide⟩
        have h35 : (v31 = 0 ∨ v31 = 1) := by rw [e33]; (repeat' split) <;> decide
        refine wm_ireturn d_MM_look_197 rfl (m_nb h35) ?_
        exact ⟨_, rfl, h⟩
      clear h
      refine wm_icmp_ne (tgt := 196) d_MM_look_189 rfl h29 ⟨by decide, by decide⟩ (fun c30 => ?_) (fun c30 => ?_)
      · refine wm_iconst d_MM_look_196 ?_
        refine wm_less (L' := [vd, vd, vd, vd, vd, vd, vd]) ⟨Or.inl rfl, Or.inl rfl, Or.inl rfl, Or.inl rfl, Or.inl rfl, Or.inl rfl, Or.inl rfl, trivial⟩ ?_
        exact hJ 0 (if_neg c30).symm
      · replace c30 := Classical.not_not.mp c30
        refine wm_iconst d_MM_look_192 ?_
        refine wm_goto (tgt := 197) d_MM_look_193 rfl ?_
        refine wm_less (L' := [vd, vd, vd, vd, vd, vd, vd]) ⟨Or.inl rfl, Or.inl rfl, Or.inl rfl, Or.inl rfl, Or.inl rfl, Or.inl rfl, Or.inl rfl, trivial⟩ ?_
        exact hJ 1 (if_pos c30).symm
  have hE1 : ¬ ((mI M (mR M a0 20) 1 ≤ 0) ∨ (¬ (mI M a0 16 = 0))) → mWm G y_MM_look (d + 1) 49 [vr a0, vd, vi l2, vd, vd, vd, vd] [] M (fun r9 M9 => ∃ x9, r9 = some (vi x9) ∧ Q x9 M9) := by
    intro q37
    have h := h.2 q37
    refine wm_aload_n d_MM_look_49 rfl rfl ?_
    refine gf_MM_60 rfl d_MM_look_50 h17 ?_
    refine cf_MM_232 rfl d_MM_look_53 h18 (Nat.le_of_ble_eq_true rfl) (Ci.mono h (fun x39 M38 h => ?_))
    obtain ⟨h40, hOM38, h⟩ := h
    obtain ⟨h41, h⟩ := h
    obtain ⟨h42, h⟩ := h
    refine wm_istore_n d_MM_look_56 rfl (by decide) (L' := [vr a0, vd, vi l2, vi x39, vd, vd, vd]) rfl ?_
    refine wm_aload_n d_MM_look_57 rfl rfl ?_
    refine gf_MM_60 rfl d_MM_look_58 h41 ?_
    refine cf_MM_232 rfl d_MM_look_61 h42 (Nat.le_of_ble_eq_true rfl) (Ci.mono h (fun x44 M43 h => ?_))
    obtain ⟨h45, hOM43, h⟩ := h
    obtain ⟨h46, h⟩ := h
    obtain ⟨h47, h⟩ := h
    obtain ⟨h48, h⟩ := h
    refine wm_istore d_MM_look_64 (by decide) (L' := [vr a0, vd, vi l2, vi x39, vi x44, vd, vd]) rfl ?_
    refine wm_aload_n d_MM_look_66 rfl rfl ?_
    refine gf_MM_38 rfl d_MM_look_67 h46 ?_
    refine gf_MM_287 rfl d_MM_look_70 h47 ?_
    refine wm_iload d_MM_look_73 rfl ?_
    refine cf_MM_155 rfl d_MM_look_75 h48 (Nat.le_of_ble_eq_true rfl) (Ci.mono h (fun x50 M49 h => ?_))
    obtain ⟨h51, hOM49, h⟩ := h
    refine wm_istore d_MM_look_78 (by decide) (L' := [vr a0, vd, vi l2, vi x39, vi x44, vi x50, vd]) rfl ?_
    refine wm_iload_n d_MM_look_80 rfl rfl ?_
    refine wm_iconst d_MM_look_81 ?_
    have hE0 : ((x39 = 1) ∨ (¬ (0 ≤ x50))) → mWm G y_MM_look (d + 1) 90 [vr a0, vd, vi l2, vi x39, vi x44, vi x50, vd] [] M49 (fun r9 M9 => ∃ x9, r9 = some (vi x9) ∧ Q x9 M9) := by
      intro q55
      have h := h.1 q55
      obtain ⟨h56, h⟩ := h
      refine wm_aload_n d_MM_look_90 rfl rfl ?_
      refine wm_iload d_MM_look_91 rfl ?_
      refine wm_iload_n d_MM_look_93 rfl rfl ?_
      refine cf_MM_334 rfl d_MM_look_94 h56 (Nat.le_of_ble_eq_true rfl) (Cv.mono h (fun M57 h => ?_))
      obtain ⟨hOM57, h⟩ := h
      refine wm_goto (tgt := 171) d_MM_look_97 rfl ?_
      refine wm_goto (tgt := 32) d_MM_look_171 rfl ?_
      refine wm_less (L' := [vr a0, vd, vi l2, vd, vd, vd, vd]) ⟨Or.inr rfl, Or.inl rfl, Or.inr rfl, Or.inl rfl, Or.inl rfl, Or.inl rfl, Or.inl rfl, trivial⟩ ?_
      exact h
    have hE1 : ¬ ((x39 = 1) ∨ (¬ (0 ≤ x50))) → mWm G y_MM_look (d + 1) 100 [vr a0, vd, vi l2, vi x39, vi x44, vi x50, vd] [] M49 (fun r9 M9 => ∃ x9, r9 = some (vi x9) ∧ Q x9 M9) := by
      intro q60
      have h := h.2 q60
      obtain ⟨h61, h⟩ := h
      obtain ⟨h62, h⟩ := h
      refine wm_aload_n d_MM_look_100 rfl rfl ?_
      refine gf_MM_60 rfl d_MM_look_101 h61 ?_
      refine wm_iload d_MM_look_104 rfl ?_
      refine cf_MM_152 rfl d_MM_look_106 h62 (Nat.le_of_ble_eq_true rfl) (Cv.mono h (fun M63 h => ?_))
      obtain ⟨hOM63, h⟩ := h
      obtain ⟨h66, h⟩ := h
      obtain ⟨h67, h⟩ := h
      refine wm_aload_n d_MM_look_109 rfl rfl ?_
      refine gf_MM_60 rfl d_MM_look_110 h66 ?_
      refine wm_iconst d_MM_look_113 ?_
      refine cf_MM_152 rfl d_MM_look_114 h67 (Nat.le_of_ble_eq_true rfl) (Cv.mono h (fun M68 h => ?_))
      obtain ⟨hOM68, h⟩ := h
      obtain ⟨h71, h⟩ := h
      obtain ⟨h72, h⟩ := h
      refine wm_aload_n d_MM_look_117 rfl rfl ?_
      refine gf_MM_60 rfl d_MM_look_118 h71 ?_
      refine gf_MM_145 rfl d_MM_look_121 h72 ?_
      refine wm_istore d_MM_look_124 (by decide) (L' := [vr a0, vd, vi l2, vi x39, vi x44, vi x50, vi (mI M68 (mR M68 a0 20) 1)]) rfl ?_
      refine wm_less (L' := [vr a0, vd, vi l2, vd, vd, vi x50, vi (mI M68 (mR M68 a0 20) 1)]) ⟨Or.inr rfl, Or.inl rfl, Or.inr rfl, Or.inl rfl, Or.inl rfl, Or.inr rfl, Or.inr rfl, trivial⟩ ?_
      exact h
    clear h
    refine wm_icmp_eq (tgt := 90) d_MM_look_82 rfl h40 ⟨by decide, by decide⟩ (fun c53 => ?_) (fun c53 => ?_)
    · exact hE0 (Or.inl c53)
    · refine wm_iload d_MM_look_85 rfl ?_
      refine wm_if_ge (tgt := 100) d_MM_look_87 rfl h51 (fun c52 => ?_) (fun c52 => ?_)
      · exact hE1 (fun z73 => Or.elim z73 c53 (fun z74 => z74 c52))
      · exact hE0 (Or.inr c52)
  clear h
  refine wm_if_le (tgt := 174) d_MM_look_39 rfl (hO _ _).1 (fun c20 => ?_) (fun c20 => ?_)
  · exact hE0 (Or.inl c20)
  · refine wm_aload_n d_MM_look_42 rfl rfl ?_
    refine gf_MM_267 rfl d_MM_look_43 h17 ?_
    refine wm_if_ne (tgt := 174) d_MM_look_46 rfl (hO _ _).1 (fun c19 => ?_) (fun c19 => ?_)
    · exact hE0 (Or.inr c19)
    · replace c19 := Classical.not_not.mp c19
      exact hE1 (fun z75 => Or.elim z75 c20 (fun z76 => z76 c19))
theorem k_MM_look_126 {G : mG} {d : Nat} {a0 : Nat} {l2 : Int} {l5 : Int} {l6 : Int} {M : mM} {Q : Int → mM → Prop} (hO : mOk M) (hi_l2 : i32 l2) (hi_l5 : i32 l5) (hi_l6 : i32 l6)
    (h : ((l5 < 0) → (mK M a0 = 14 ∧ Cv G y_MM_turn d [vr a0, vi l6] M (fun M80 => mOk M80 ∧ (h_MM_look_32 G d a0 l2 M80 Q)))) ∧ (¬ (l5 < 0) → (mK M a0 = 14 ∧ mK M (mR M a0 20) = 15 ∧ Cv G y_MN_add d [vr (mR M a0 20), vi l5] M (fun M85 => mOk M85 ∧ (mK M85 a0 = 14 ∧ mK M85 (mR M85 a0 20) = 15 ∧ Cv G y_MN_add d [vr (mR M85 a0 20), vi 0] M85 (fun M90 => mOk M90 ∧ (mK M90 a0 = 14 ∧ mK M90 (mR M90 a0 10) = 16 ∧ mK M90 (mR M90 (mR M90 a0 10) 5) = 15 ∧ Ci G y_MN_at d [vr (mR M90 (mR M90 a0 10) 5), vi l5] M90 (fun x97 M96 => i32 x97 ∧ mOk M96 ∧ (h_MM_look_126 G d a0 l2 x97 l6 M96 Q))))))))) :
    h_MM_look_126 G d a0 l2 l5 l6 M Q := by
  unfold h_MM_look_126
  refine wm_iload d_MM_look_126 rfl ?_
  refine wm_if_lt (tgt := 165) d_MM_look_128 rfl hi_l5 (fun c78 => ?_) (fun c78 => ?_)
  · replace h := h.1 c78
    obtain ⟨h79, h⟩ := h
    refine wm_aload_n d_MM_look_165 rfl rfl ?_
    refine wm_iload d_MM_look_166 rfl ?_
    refine cf_MM_338 rfl d_MM_look_168 h79 (Nat.le_of_ble_eq_true rfl) (Cv.mono h (fun M80 h => ?_))
    obtain ⟨hOM80, h⟩ := h
    refine wm_goto (tgt := 32) d_MM_look_171 rfl ?_
    refine wm_less (L' := [vr a0, vd, vi l2, vd, vd, vd, vd]) ⟨Or.inr rfl, Or.inl rfl, Or.inr rfl, Or.inl rfl, Or.inl rfl, Or.inl rfl, Or.inl rfl, trivial⟩ ?_
    exact h
  · replace h := h.2 c78
    obtain ⟨h83, h⟩ := h
    obtain ⟨h84, h⟩ := h
    refine wm_aload_n d_MM_look_131 rfl rfl ?_
    refine gf_MM_60 rfl d_MM_look_132 h83 ?_
    refine wm_iload d_MM_look_135 rfl ?_
    refine cf_MM_152 rfl d_MM_look_137 h84 (Nat.le_of_ble_eq_true rfl) (Cv.mono h (fun M85 h => ?_))
    obtain ⟨hOM85, h⟩ := h
    obtain ⟨h88, h⟩ := h
    obtain ⟨h89, h⟩ := h
    refine wm_aload_n d_MM_look_140 rfl rfl ?_
    refine gf_MM_60 rfl d_MM_look_141 h88 ?_
    refine wm_iconst d_MM_look_144 ?_
    refine cf_MM_152 rfl d_MM_look_145 h89 (Nat.le_of_ble_eq_true rfl) (Cv.mono h (fun M90 h => ?_))
    obtain ⟨hOM90, h⟩ := h
    obtain ⟨h93, h⟩ := h
    obtain ⟨h94, h⟩ := h
    obtain ⟨h95, h⟩ := h
    refine wm_aload_n d_MM_look_148 rfl rfl ?_
    refine gf_MM_38 rfl d_MM_look_149 h93 ?_
    refine gf_MM_290 rfl d_MM_look_152 h94 ?_
    refine wm_iload d_MM_look_155 rfl ?_
    refine cf_MM_155 rfl d_MM_look_157 h95 (Nat.le_of_ble_eq_true rfl) (Ci.mono h (fun x97 M96 h => ?_))
    obtain ⟨h98, hOM96, h⟩ := h
    refine wm_istore d_MM_look_160 (by decide) (L' := [vr a0, vd, vi l2, vd, vd, vi x97, vi l6]) rfl ?_
    refine wm_goto (tgt := 126) d_MM_look_162 rfl ?_
    exact h
theorem d_MM_turn_0 : decode y_MM_turn.2.1 0 = .ok (.iload_n 1, 1) := dc9_27 (by decide +kernel)
theorem d_MM_turn_1 : decode y_MM_turn.2.1 1 = .ok (.istore_n 2, 1) := dc9_61 (by decide +kernel)
theorem d_MM_turn_2 : decode y_MM_turn.2.1 2 = .ok (.aload_n 0, 1) := dc9_42 (by decide +kernel)
theorem d_MM_turn_3 : decode y_MM_turn.2.1 3 = .ok (.getfield 60, 3) := dc9_180 (by decide +kernel)
theorem d_MM_turn_6 : decode y_MM_turn.2.1 6 = .ok (.getfield 145, 3) := dc9_180 (by decide +kernel)
theorem d_MM_turn_9 : decode y_MM_turn.2.1 9 = .ok (.iconst 2, 1) := dc9_5 (by decide +kernel)
theorem d_MM_turn_10 : decode y_MM_turn.2.1 10 = .ok (.isub, 1) := dc9_100 (by decide +kernel)
theorem d_MM_turn_11 : decode y_MM_turn.2.1 11 = .ok (.istore_n 3, 1) := dc9_62 (by decide +kernel)
theorem d_MM_turn_12 : decode y_MM_turn.2.1 12 = .ok (.iload_n 2, 1) := dc9_28 (by decide +kernel)
theorem d_MM_turn_13 : decode y_MM_turn.2.1 13 = .ok (.iload_n 3, 1) := dc9_29 (by decide +kernel)
theorem d_MM_turn_14 : decode y_MM_turn.2.1 14 = .ok (.if_icmp .ge 52, 3) := dc9_162 (by decide +kernel)
theorem d_MM_turn_66 : decode y_MM_turn.2.1 66 = .ok (.return_, 1) := dc9_177 (by decide +kernel)
theorem d_MM_turn_17 : decode y_MM_turn.2.1 17 = .ok (.aload_n 0, 1) := dc9_42 (by decide +kernel)
theorem d_MM_turn_18 : decode y_MM_turn.2.1 18 = .ok (.getfield 60, 3) := dc9_180 (by decide +kernel)
theorem d_MM_turn_21 : decode y_MM_turn.2.1 21 = .ok (.iload_n 2, 1) := dc9_28 (by decide +kernel)
theorem d_MM_turn_22 : decode y_MM_turn.2.1 22 = .ok (.invokevirtual 155, 3) := dc9_182 (by decide +kernel)
theorem d_MM_turn_25 : decode y_MM_turn.2.1 25 = .ok (.istore 4, 2) := dc9_54 (by decide +kernel)
theorem d_MM_turn_27 : decode y_MM_turn.2.1 27 = .ok (.aload_n 0, 1) := dc9_42 (by decide +kernel)
theorem d_MM_turn_28 : decode y_MM_turn.2.1 28 = .ok (.getfield 60, 3) := dc9_180 (by decide +kernel)
theorem d_MM_turn_31 : decode y_MM_turn.2.1 31 = .ok (.getfield 293, 3) := dc9_180 (by decide +kernel)
theorem d_MM_turn_34 : decode y_MM_turn.2.1 34 = .ok (.iload_n 2, 1) := dc9_28 (by decide +kernel)
theorem d_MM_turn_35 : decode y_MM_turn.2.1 35 = .ok (.aload_n 0, 1) := dc9_42 (by decide +kernel)
theorem d_MM_turn_36 : decode y_MM_turn.2.1 36 = .ok (.getfield 60, 3) := dc9_180 (by decide +kernel)
theorem d_MM_turn_39 : decode y_MM_turn.2.1 39 = .ok (.iload_n 3, 1) := dc9_29 (by decide +kernel)
theorem d_MM_turn_40 : decode y_MM_turn.2.1 40 = .ok (.invokevirtual 155, 3) := dc9_182 (by decide +kernel)
theorem d_MM_turn_43 : decode y_MM_turn.2.1 43 = .ok (.iastore, 1) := dc9_79 (by decide +kernel)
theorem d_MM_turn_44 : decode y_MM_turn.2.1 44 = .ok (.aload_n 0, 1) := dc9_42 (by decide +kernel)
theorem d_MM_turn_45 : decode y_MM_turn.2.1 45 = .ok (.getfield 60, 3) := dc9_180 (by decide +kernel)
theorem d_MM_turn_48 : decode y_MM_turn.2.1 48 = .ok (.getfield 293, 3) := dc9_180 (by decide +kernel)
theorem d_MM_turn_51 : decode y_MM_turn.2.1 51 = .ok (.iload_n 3, 1) := dc9_29 (by decide +kernel)
theorem d_MM_turn_52 : decode y_MM_turn.2.1 52 = .ok (.iload 4, 2) := dc9_21 (by decide +kernel)
theorem d_MM_turn_54 : decode y_MM_turn.2.1 54 = .ok (.iastore, 1) := dc9_79 (by decide +kernel)
theorem d_MM_turn_55 : decode y_MM_turn.2.1 55 = .ok (.iload_n 2, 1) := dc9_28 (by decide +kernel)
theorem d_MM_turn_56 : decode y_MM_turn.2.1 56 = .ok (.iconst 2, 1) := dc9_5 (by decide +kernel)
theorem d_MM_turn_57 : decode y_MM_turn.2.1 57 = .ok (.iadd, 1) := dc9_96 (by decide +kernel)
theorem d_MM_turn_58 : decode y_MM_turn.2.1 58 = .ok (.istore_n 2, 1) := dc9_61 (by decide +kernel)
theorem d_MM_turn_59 : decode y_MM_turn.2.1 59 = .ok (.iload_n 3, 1) := dc9_29 (by decide +kernel)
theorem d_MM_turn_60 : decode y_MM_turn.2.1 60 = .ok (.iconst 2, 1) := dc9_5 (by decide +kernel)
theorem d_MM_turn_61 : decode y_MM_turn.2.1 61 = .ok (.isub, 1) := dc9_100 (by decide +kernel)
theorem d_MM_turn_62 : decode y_MM_turn.2.1 62 = .ok (.istore_n 3, 1) := dc9_62 (by decide +kernel)
theorem d_MM_turn_63 : decode y_MM_turn.2.1 63 = .ok (.goto (-51), 3) := dc9_167 (by decide +kernel)
def h_MM_turn_12 (G : mG) (d : Nat) (a0 : Nat) (l2 : Int) (l3 : Int) (M : mM) (Q : mM → Prop) : Prop := mWm G y_MM_turn (d + 1) 12 [vr a0, vd, vi l2, vi l3, vd] [] M (fun r9 M9 => r9 = none ∧ Q M9)
theorem k_MM_turn {G : mG} {d : Nat} {a0 : Nat} {l1 : Int} {M : mM} {Q : mM → Prop} (hO : mOk M) (hi_l1 : i32 l1)
    (h : mK M a0 = 14 ∧ mK M (mR M a0 20) = 15 ∧ h_MM_turn_12 G d a0 l1 ((mI M (mR M a0 20) 1) - 2) M Q) :
    Cv G y_MM_turn (d + 1) [vr a0, vi l1] M Q := by
  refine wm_open (y := y_MM_turn) rfl (Nat.le_of_ble_eq_true rfl) (L := [vr a0, vi l1, vd, vd, vd]) rfl ?_
  obtain ⟨h1, h⟩ := h
  obtain ⟨h2, h⟩ := h
  refine wm_iload_n d_MM_turn_0 rfl rfl ?_
  refine wm_istore_n d_MM_turn_1 rfl (by decide) (L' := [vr a0, vi l1, vi l1, vd, vd]) rfl ?_
  refine wm_aload_n d_MM_turn_2 rfl rfl ?_
  refine gf_MM_60 rfl d_MM_turn_3 h1 ?_
  refine gf_MM_145 rfl d_MM_turn_6 h2 ?_
  refine wm_iconst d_MM_turn_9 ?_
  refine wm_isub d_MM_turn_10 ?_
  refine wm_istore_n d_MM_turn_11 rfl (by decide) (L' := [vr a0, vi l1, vi l1, vi ((mI M (mR M a0 20) 1) - 2), vd]) rfl ?_
  refine wm_less (L' := [vr a0, vd, vi l1, vi ((mI M (mR M a0 20) 1) - 2), vd]) ⟨Or.inr rfl, Or.inl rfl, Or.inr rfl, Or.inr rfl, Or.inl rfl, trivial⟩ ?_
  exact h
theorem k_MM_turn_12 {G : mG} {d : Nat} {a0 : Nat} {l2 : Int} {l3 : Int} {M : mM} {Q : mM → Prop} (hO : mOk M) (hi_l2 : i32 l2) (hi_l3 : i32 l3)
    (h : ((l3 ≤ l2) → (Q M)) ∧ (¬ (l3 ≤ l2) → (mK M a0 = 14 ∧ mK M (mR M a0 20) = 15 ∧ Ci G y_MN_at d [vr (mR M a0 20), vi l2] M (fun x8 M7 => i32 x8 ∧ mOk M7 ∧ (mK M7 a0 = 14 ∧ mK M7 (mR M7 a0 20) = 15 ∧ Ci G y_MN_at d [vr (mR M7 a0 20), vi l3] M7 (fun x13 M12 => i32 x13 ∧ mOk M12 ∧ (mK M12 (mR M7 (mR M7 a0 20) 0) = 30 ∧ ((0 : Int) ≤ l2 ∧ l2 < (mN M12 (mR M7 (mR M7 a0 20) 0) : Int)) ∧ ∀ M17, M17 = mUI M12 (mR M7 (mR M7 a0 20) 0) (Int.toNat l2) x13 → mK M17 a0 = 14 ∧ mK M17 (mR M17 a0 20) = 15 ∧ mK M17 (mR M17 (mR M17 a0 20) 0) = 30 ∧ ((0 : Int) ≤ l3 ∧ l3 < (mN M17 (mR M17 (mR M17 a0 20) 0) : Int)) ∧ ∀ M23, M23 = mUI M17 (mR M17 (mR M17 a0 20) 0) (Int.toNat l3) x8 → h_MM_turn_12 G d a0 (l2 + 2) (l3 - 2) M23 Q))))))) :
    h_MM_turn_12 G d a0 l2 l3 M Q := by
  unfold h_MM_turn_12
  refine wm_iload_n d_MM_turn_12 rfl rfl ?_
  refine wm_iload_n d_MM_turn_13 rfl rfl ?_
  refine wm_icmp_ge (tgt := 66) d_MM_turn_14 rfl hi_l2 hi_l3 (fun c4 => ?_) (fun c4 => ?_)
  · replace h := h.1 c4
    refine wm_return d_MM_turn_66 rfl ?_
    exact ⟨rfl, h⟩
  · replace h := h.2 c4
    obtain ⟨h5, h⟩ := h
    obtain ⟨h6, h⟩ := h
    refine wm_aload_n d_MM_turn_17 rfl rfl ?_
    refine gf_MM_60 rfl d_MM_turn_18 h5 ?_
    refine wm_iload_n d_MM_turn_21 rfl rfl ?_
    refine cf_MM_155 rfl d_MM_turn_22 h6 (Nat.le_of_ble_eq_true rfl) (Ci.mono h (fun x8 M7 h => ?_))
    obtain ⟨h9, hOM7, h⟩ := h
    obtain ⟨h10, h⟩ := h
    obtain ⟨h11, h⟩ := h
    refine wm_istore d_MM_turn_25 (by decide) (L' := [vr a0, vd, vi l2, vi l3, vi x8]) rfl ?_
    refine wm_aload_n d_MM_turn_27 rfl rfl ?_
    refine gf_MM_60 rfl d_MM_turn_28 h10 ?_
    refine gf_MM_293 rfl d_MM_turn_31 h11 ?_
    refine wm_iload_n d_MM_turn_34 rfl rfl ?_
    refine wm_aload_n d_MM_turn_35 rfl rfl ?_
    refine gf_MM_60 rfl d_MM_turn_36 h10 ?_
    refine wm_iload_n d_MM_turn_39 rfl rfl ?_
    refine cf_MM_155 rfl d_MM_turn_40 h11 (Nat.le_of_ble_eq_true rfl) (Ci.mono h (fun x13 M12 h => ?_))
    obtain ⟨h14, hOM12, h⟩ := h
    obtain ⟨h15, h⟩ := h
    obtain ⟨h16, h⟩ := h
    obtain ⟨M17, e18⟩ : ∃ M17, M17 = mUI M12 (mR M7 (mR M7 a0 20) 0) (Int.toNat l2) x13 := ⟨_, rfl⟩
    replace h := h M17 e18
    obtain ⟨h19, h⟩ := h
    obtain ⟨h20, h⟩ := h
    obtain ⟨h21, h⟩ := h
    obtain ⟨h22, h⟩ := h
    obtain ⟨M23, e24⟩ : ∃ M23, M23 = mUI M17 (mR M17 (mR M17 a0 20) 0) (Int.toNat l3) x8 := ⟨_, rfl⟩
    replace h := h M23 e24
    have hOM17 : mOk M17 := by rw [e18]; exact mOk_UI hOM12 h14
    refine wm_iastE d_MM_turn_43 h15 h16 h14 e18 ?_
    refine wm_aload_n d_MM_turn_44 rfl rfl ?_
    refine gf_MM_60 rfl d_MM_turn_45 h19 ?_
    refine gf_MM_293 rfl d_MM_turn_48 h20 ?_
    refine wm_iload_n d_MM_turn_51 rfl rfl ?_
    refine wm_iload d_MM_turn_52 rfl ?_
    have hOM23 : mOk M23 := by rw [e24]; exact mOk_UI hOM17 h9
    refine wm_iastE d_MM_turn_54 h21 h22 h9 e24 ?_
    refine wm_iload_n d_MM_turn_55 rfl rfl ?_
    refine wm_iconst d_MM_turn_56 ?_
    refine wm_iadd d_MM_turn_57 ?_
    refine wm_istore_n d_MM_turn_58 rfl (by decide) (L' := [vr a0, vd, vi (l2 + 2), vi l3, vi x8]) rfl ?_
    refine wm_iload_n d_MM_turn_59 rfl rfl ?_
    refine wm_iconst d_MM_turn_60 ?_
    refine wm_isub d_MM_turn_61 ?_
    refine wm_istore_n d_MM_turn_62 rfl (by decide) (L' := [vr a0, vd, vi (l2 + 2), vi (l3 - 2), vi x8]) rfl ?_
    refine wm_goto (tgt := 12) d_MM_turn_63 rfl ?_
    refine wm_less (L' := [vr a0, vd, vi (l2 + 2), vi (l3 - 2), vd]) ⟨Or.inr rfl, Or.inl rfl, Or.inr rfl, Or.inr rfl, Or.inl rfl, trivial⟩ ?_
    exact h
theorem d_MM_parts_0 : decode y_MM_parts.2.1 0 = .ok (.iconst 0, 1) := dc9_3 (by decide +kernel)
theorem d_MM_parts_1 : decode y_MM_parts.2.1 1 = .ok (.istore_n 2, 1) := dc9_61 (by decide +kernel)
theorem d_MM_parts_2 : decode y_MM_parts.2.1 2 = .ok (.aload_n 0, 1) := dc9_42 (by decide +kernel)
theorem d_MM_parts_3 : decode y_MM_parts.2.1 3 = .ok (.getfield 38, 3) := dc9_180 (by decide +kernel)
theorem d_MM_parts_6 : decode y_MM_parts.2.1 6 = .ok (.getfield 287, 3) := dc9_180 (by decide +kernel)
theorem d_MM_parts_9 : decode y_MM_parts.2.1 9 = .ok (.iload_n 1, 1) := dc9_27 (by decide +kernel)
theorem d_MM_parts_10 : decode y_MM_parts.2.1 10 = .ok (.invokevirtual 155, 3) := dc9_182 (by decide +kernel)
theorem d_MM_parts_13 : decode y_MM_parts.2.1 13 = .ok (.istore_n 3, 1) := dc9_62 (by decide +kernel)
theorem d_MM_parts_14 : decode y_MM_parts.2.1 14 = .ok (.iload_n 3, 1) := dc9_29 (by decide +kernel)
theorem d_MM_parts_15 : decode y_MM_parts.2.1 15 = .ok (.ifCond .lt 21, 3) := dc9_155 (by decide +kernel)
theorem d_MM_parts_36 : decode y_MM_parts.2.1 36 = .ok (.iload_n 2, 1) := dc9_28 (by decide +kernel)
theorem d_MM_parts_37 : decode y_MM_parts.2.1 37 = .ok (.ireturn, 1) := dc9_172 (by decide +kernel)
theorem d_MM_parts_18 : decode y_MM_parts.2.1 18 = .ok (.iinc 2 1, 3) := by decide +kernel
theorem d_MM_parts_21 : decode y_MM_parts.2.1 21 = .ok (.aload_n 0, 1) := dc9_42 (by decide +kernel)
theorem d_MM_parts_22 : decode y_MM_parts.2.1 22 = .ok (.getfield 38, 3) := dc9_180 (by decide +kernel)
theorem d_MM_parts_25 : decode y_MM_parts.2.1 25 = .ok (.getfield 290, 3) := dc9_180 (by decide +kernel)
theorem d_MM_parts_28 : decode y_MM_parts.2.1 28 = .ok (.iload_n 3, 1) := dc9_29 (by decide +kernel)
theorem d_MM_parts_29 : decode y_MM_parts.2.1 29 = .ok (.invokevirtual 155, 3) := dc9_182 (by decide +kernel)
theorem d_MM_parts_32 : decode y_MM_parts.2.1 32 = .ok (.istore_n 3, 1) := dc9_62 (by decide +kernel)
theorem d_MM_parts_33 : decode y_MM_parts.2.1 33 = .ok (.goto (-19), 3) := dc9_167 (by decide +kernel)
def h_MM_parts_14 (G : mG) (d : Nat) (a0 : Nat) (l2 : Int) (l3 : Int) (M : mM) (Q : Int → mM → Prop) : Prop := mWm G y_MM_parts (d + 1) 14 [vr a0, vd, vi l2, vi l3] [] M (fun r9 M9 => ∃ x9, r9 = some (vi x9) ∧ Q x9 M9)
theorem k_MM_parts {G : mG} {d : Nat} {a0 : Nat} {l1 : Int} {M : mM} {Q : Int → mM → Prop} (hO : mOk M) (hi_l1 : i32 l1)
    (h : mK M a0 = 14 ∧ mK M (mR M a0 10) = 16 ∧ mK M (mR M (mR M a0 10) 4) = 15 ∧ Ci G y_MN_at d [vr (mR M (mR M a0 10) 4), vi l1] M (fun x5 M4 => i32 x5 ∧ mOk M4 ∧ (h_MM_parts_14 G d a0 0 x5 M4 Q))) :
    Ci G y_MM_parts (d + 1) [vr a0, vi l1] M Q := by
  refine wm_open (y := y_MM_parts) rfl (Nat.le_of_ble_eq_true rfl) (L := [vr a0, vi l1, vd, vd]) rfl ?_
  obtain ⟨h1, h⟩ := h
  obtain ⟨h2, h⟩ := h
  obtain ⟨h3, h⟩ := h
  refine wm_iconst d_MM_parts_0 ?_
  refine wm_istore_n d_MM_parts_1 rfl (by decide) (L' := [vr a0, vi l1, vi 0, vd]) rfl ?_
  refine wm_aload_n d_MM_parts_2 rfl rfl ?_
  refine gf_MM_38 rfl d_MM_parts_3 h1 ?_
  refine gf_MM_287 rfl d_MM_parts_6 h2 ?_
  refine wm_iload_n d_MM_parts_9 rfl rfl ?_
  refine cf_MM_155 rfl d_MM_parts_10 h3 (Nat.le_of_ble_eq_true rfl) (Ci.mono h (fun x5 M4 h => ?_))
  obtain ⟨h6, hOM4, h⟩ := h
  refine wm_istore_n d_MM_parts_13 rfl (by decide) (L' := [vr a0, vi l1, vi 0, vi x5]) rfl ?_
  refine wm_less (L' := [vr a0, vd, vi 0, vi x5]) ⟨Or.inr rfl, Or.inl rfl, Or.inr rfl, Or.inr rfl, trivial⟩ ?_
  exact h
theorem k_MM_parts_14 {G : mG} {d : Nat} {a0 : Nat} {l2 : Int} {l3 : Int} {M : mM} {Q : Int → mM → Prop} (hO : mOk M) (hi_l2 : i32 l2) (hi_l3 : i32 l3)
    (h : ((l3 < 0) → (Q l2 M)) ∧ (¬ (l3 < 0) → (mK M a0 = 14 ∧ mK M (mR M a0 10) = 16 ∧ mK M (mR M (mR M a0 10) 5) = 15 ∧ Ci G y_MN_at d [vr (mR M (mR M a0 10) 5), vi l3] M (fun x13 M12 => i32 x13 ∧ mOk M12 ∧ (h_MM_parts_14 G d a0 (l2 + 1) x13 M12 Q))))) :
    h_MM_parts_14 G d a0 l2 l3 M Q := by
  unfold h_MM_parts_14
  refine wm_iload_n d_MM_parts_14 rfl rfl ?_
  refine wm_if_lt (tgt := 36) d_MM_parts_15 rfl hi_l3 (fun c8 => ?_) (fun c8 => ?_)
  · replace h := h.1 c8
    refine wm_iload_n d_MM_parts_36 rfl rfl ?_
    refine wm_ireturn d_MM_parts_37 rfl rfl ?_
    exact ⟨_, rfl, h⟩
  · replace h := h.2 c8
    obtain ⟨h9, h⟩ := h
    obtain ⟨h10, h⟩ := h
    obtain ⟨h11, h⟩ := h
    refine wm_iinc d_MM_parts_18 (by decide) rfl (L' := [vr a0, vd, vi (l2 + 1), vi l3]) rfl ?_
    refine wm_aload_n d_MM_parts_21 rfl rfl ?_
    refine gf_MM_38 rfl d_MM_parts_22 h9 ?_
    refine gf_MM_290 rfl d_MM_parts_25 h10 ?_
    refine wm_iload_n d_MM_parts_28 rfl rfl ?_
    refine cf_MM_155 rfl d_MM_parts_29 h11 (Nat.le_of_ble_eq_true rfl) (Ci.mono h (fun x13 M12 h => ?_))
    obtain ⟨h14, hOM12, h⟩ := h
    refine wm_istore_n d_MM_parts_32 rfl (by decide) (L' := [vr a0, vd, vi (l2 + 1), vi x13]) rfl ?_
    refine wm_goto (tgt := 14) d_MM_parts_33 rfl ?_
    exact h
end
section
theorem d_MM_lookAt_0 : decode y_MM_lookAt.2.1 0 = .ok (.aload_n 0, 1) := dc9_42 (by decide +kernel)
theorem d_MM_lookAt_1 : decode y_MM_lookAt.2.1 1 = .ok (.getfield 38, 3) := dc9_180 (by decide +kernel)
theorem d_MM_lookAt_4 : decode y_MM_lookAt.2.1 4 = .ok (.getfield 273, 3) := dc9_180 (by decide +kernel)
theorem d_MM_lookAt_7 : decode y_MM_lookAt.2.1 7 = .ok (.iload_n 1, 1) := dc9_27 (by decide +kernel)
theorem d_MM_lookAt_8 : decode y_MM_lookAt.2.1 8 = .ok (.invokevirtual 155, 3) := dc9_182 (by decide +kernel)
theorem d_MM_lookAt_11 : decode y_MM_lookAt.2.1 11 = .ok (.istore_n 3, 1) := dc9_62 (by decide +kernel)
theorem d_MM_lookAt_12 : decode y_MM_lookAt.2.1 12 = .ok (.aload_n 0, 1) := dc9_42 (by decide +kernel)
theorem d_MM_lookAt_13 : decode y_MM_lookAt.2.1 13 = .ok (.getfield 38, 3) := dc9_180 (by decide +kernel)
theorem d_MM_lookAt_16 : decode y_MM_lookAt.2.1 16 = .ok (.getfield 276, 3) := dc9_180 (by decide +kernel)
theorem d_MM_lookAt_19 : decode y_MM_lookAt.2.1 19 = .ok (.iload_n 1, 1) := dc9_27 (by decide +kernel)
theorem d_MM_lookAt_20 : decode y_MM_lookAt.2.1 20 = .ok (.invokevirtual 155, 3) := dc9_182 (by decide +kernel)
theorem d_MM_lookAt_23 : decode y_MM_lookAt.2.1 23 = .ok (.istore 4, 2) := dc9_54 (by decide +kernel)
theorem d_MM_lookAt_25 : decode y_MM_lookAt.2.1 25 = .ok (.aload_n 0, 1) := dc9_42 (by decide +kernel)
theorem d_MM_lookAt_26 : decode y_MM_lookAt.2.1 26 = .ok (.iload_n 1, 1) := dc9_27 (by decide +kernel)
theorem d_MM_lookAt_27 : decode y_MM_lookAt.2.1 27 = .ok (.invokevirtual 344, 3) := dc9_182 (by decide +kernel)
theorem d_MM_lookAt_30 : decode y_MM_lookAt.2.1 30 = .ok (.istore 5, 2) := dc9_54 (by decide +kernel)
theorem d_MM_lookAt_32 : decode y_MM_lookAt.2.1 32 = .ok (.aload_n 0, 1) := dc9_42 (by decide +kernel)
theorem d_MM_lookAt_33 : decode y_MM_lookAt.2.1 33 = .ok (.getfield 57, 3) := dc9_180 (by decide +kernel)
theorem d_MM_lookAt_36 : decode y_MM_lookAt.2.1 36 = .ok (.getfield 145, 3) := dc9_180 (by decide +kernel)
theorem d_MM_lookAt_39 : decode y_MM_lookAt.2.1 39 = .ok (.iload 5, 2) := dc9_21 (by decide +kernel)
theorem d_MM_lookAt_41 : decode y_MM_lookAt.2.1 41 = .ok (.isub, 1) := dc9_100 (by decide +kernel)
theorem d_MM_lookAt_42 : decode y_MM_lookAt.2.1 42 = .ok (.istore 6, 2) := dc9_54 (by decide +kernel)
theorem d_MM_lookAt_44 : decode y_MM_lookAt.2.1 44 = .ok (.iconst 0, 1) := dc9_3 (by decide +kernel)
theorem d_MM_lookAt_45 : decode y_MM_lookAt.2.1 45 = .ok (.istore 7, 2) := dc9_54 (by decide +kernel)
theorem d_MM_lookAt_47 : decode y_MM_lookAt.2.1 47 = .ok (.iload 6, 2) := dc9_21 (by decide +kernel)
theorem d_MM_lookAt_49 : decode y_MM_lookAt.2.1 49 = .ok (.istore 8, 2) := dc9_54 (by decide +kernel)
theorem d_MM_lookAt_51 : decode y_MM_lookAt.2.1 51 = .ok (.iload 8, 2) := dc9_21 (by decide +kernel)
theorem d_MM_lookAt_53 : decode y_MM_lookAt.2.1 53 = .ok (.aload_n 0, 1) := dc9_42 (by decide +kernel)
theorem d_MM_lookAt_54 : decode y_MM_lookAt.2.1 54 = .ok (.getfield 57, 3) := dc9_180 (by decide +kernel)
theorem d_MM_lookAt_57 : decode y_MM_lookAt.2.1 57 = .ok (.getfield 145, 3) := dc9_180 (by decide +kernel)
theorem d_MM_lookAt_60 : decode y_MM_lookAt.2.1 60 = .ok (.if_icmp .ge 23, 3) := dc9_162 (by decide +kernel)
theorem d_MM_lookAt_83 : decode y_MM_lookAt.2.1 83 = .ok (.iconst 1, 1) := dc9_4 (by decide +kernel)
theorem d_MM_lookAt_84 : decode y_MM_lookAt.2.1 84 = .ok (.istore 8, 2) := dc9_54 (by decide +kernel)
theorem d_MM_lookAt_86 : decode y_MM_lookAt.2.1 86 = .ok (.iconst 0, 1) := dc9_3 (by decide +kernel)
theorem d_MM_lookAt_87 : decode y_MM_lookAt.2.1 87 = .ok (.istore 9, 2) := dc9_54 (by decide +kernel)
theorem d_MM_lookAt_89 : decode y_MM_lookAt.2.1 89 = .ok (.iload_n 3, 1) := dc9_29 (by decide +kernel)
theorem d_MM_lookAt_63 : decode y_MM_lookAt.2.1 63 = .ok (.iload 7, 2) := dc9_21 (by decide +kernel)
theorem d_MM_lookAt_65 : decode y_MM_lookAt.2.1 65 = .ok (.aload_n 0, 1) := dc9_42 (by decide +kernel)
theorem d_MM_lookAt_66 : decode y_MM_lookAt.2.1 66 = .ok (.getfield 57, 3) := dc9_180 (by decide +kernel)
theorem d_MM_lookAt_69 : decode y_MM_lookAt.2.1 69 = .ok (.iload 8, 2) := dc9_21 (by decide +kernel)
theorem d_MM_lookAt_90 : decode y_MM_lookAt.2.1 90 = .ok (.tableswitch 258 1 32 #[151, 142, 258, 258, 258, 258, 258, 258, 258, 258, 258, 145, 145, 258, 258, 258, 258, 182, 258, 258, 258, 258, 182, 258, 258, 258, 258, 258, 162, 162, 162, 201], 142) := by decide +kernel
theorem d_MM_lookAt_241 : decode y_MM_lookAt.2.1 241 = .ok (.aload_n 0, 1) := dc9_42 (by decide +kernel)
theorem d_MM_lookAt_242 : decode y_MM_lookAt.2.1 242 = .ok (.iload_n 1, 1) := dc9_27 (by decide +kernel)
theorem d_MM_lookAt_243 : decode y_MM_lookAt.2.1 243 = .ok (.iload_n 2, 1) := dc9_28 (by decide +kernel)
theorem d_MM_lookAt_244 : decode y_MM_lookAt.2.1 244 = .ok (.invokevirtual 347, 3) := dc9_182 (by decide +kernel)
theorem d_MM_lookAt_247 : decode y_MM_lookAt.2.1 247 = .ok (.istore 9, 2) := dc9_54 (by decide +kernel)
theorem d_MM_lookAt_249 : decode y_MM_lookAt.2.1 249 = .ok (.goto 125, 3) := dc9_167 (by decide +kernel)
theorem d_MM_lookAt_374 : decode y_MM_lookAt.2.1 374 = .ok (.iload 8, 2) := dc9_21 (by decide +kernel)
theorem d_MM_lookAt_376 : decode y_MM_lookAt.2.1 376 = .ok (.ifCond .ne 10, 3) := dc9_154 (by decide +kernel)
theorem d_MM_lookAt_379 : decode y_MM_lookAt.2.1 379 = .ok (.aload_n 0, 1) := dc9_42 (by decide +kernel)
theorem d_MM_lookAt_380 : decode y_MM_lookAt.2.1 380 = .ok (.iconst 3, 1) := dc9_6 (by decide +kernel)
theorem d_MM_lookAt_381 : decode y_MM_lookAt.2.1 381 = .ok (.iload 4, 2) := dc9_21 (by decide +kernel)
theorem d_MM_lookAt_383 : decode y_MM_lookAt.2.1 383 = .ok (.invokevirtual 351, 3) := dc9_182 (by decide +kernel)
theorem d_MM_lookAt_232 : decode y_MM_lookAt.2.1 232 = .ok (.goto 142, 3) := dc9_167 (by decide +kernel)
theorem d_MM_lookAt_235 : decode y_MM_lookAt.2.1 235 = .ok (.iconst 1, 1) := dc9_4 (by decide +kernel)
theorem d_MM_lookAt_236 : decode y_MM_lookAt.2.1 236 = .ok (.istore 9, 2) := dc9_54 (by decide +kernel)
theorem d_MM_lookAt_238 : decode y_MM_lookAt.2.1 238 = .ok (.goto 136, 3) := dc9_167 (by decide +kernel)
theorem d_MM_lookAt_272 : decode y_MM_lookAt.2.1 272 = .ok (.iload 7, 2) := dc9_21 (by decide +kernel)
theorem d_MM_lookAt_274 : decode y_MM_lookAt.2.1 274 = .ok (.iconst 1, 1) := dc9_4 (by decide +kernel)
theorem d_MM_lookAt_275 : decode y_MM_lookAt.2.1 275 = .ok (.if_icmp .eq 7, 3) := dc9_159 (by decide +kernel)
theorem d_MM_lookAt_282 : decode y_MM_lookAt.2.1 282 = .ok (.iconst 0, 1) := dc9_3 (by decide +kernel)
theorem d_MM_lookAt_278 : decode y_MM_lookAt.2.1 278 = .ok (.iconst 1, 1) := dc9_4 (by decide +kernel)
theorem d_MM_lookAt_279 : decode y_MM_lookAt.2.1 279 = .ok (.goto 4, 3) := dc9_167 (by decide +kernel)
theorem d_MM_lookAt_283 : decode y_MM_lookAt.2.1 283 = .ok (.istore 8, 2) := dc9_54 (by decide +kernel)
theorem d_MM_lookAt_285 : decode y_MM_lookAt.2.1 285 = .ok (.iconst 1, 1) := dc9_4 (by decide +kernel)
theorem d_MM_lookAt_286 : decode y_MM_lookAt.2.1 286 = .ok (.istore 9, 2) := dc9_54 (by decide +kernel)
theorem d_MM_lookAt_288 : decode y_MM_lookAt.2.1 288 = .ok (.goto 86, 3) := dc9_167 (by decide +kernel)
theorem d_MM_lookAt_252 : decode y_MM_lookAt.2.1 252 = .ok (.iload 7, 2) := dc9_21 (by decide +kernel)
theorem d_MM_lookAt_254 : decode y_MM_lookAt.2.1 254 = .ok (.iload 5, 2) := dc9_21 (by decide +kernel)
theorem d_MM_lookAt_256 : decode y_MM_lookAt.2.1 256 = .ok (.if_icmp .ne 7, 3) := dc9_160 (by decide +kernel)
theorem d_MM_lookAt_259 : decode y_MM_lookAt.2.1 259 = .ok (.iconst 1, 1) := dc9_4 (by decide +kernel)
theorem d_MM_lookAt_260 : decode y_MM_lookAt.2.1 260 = .ok (.goto 4, 3) := dc9_167 (by decide +kernel)
theorem d_MM_lookAt_263 : decode y_MM_lookAt.2.1 263 = .ok (.iconst 0, 1) := dc9_3 (by decide +kernel)
theorem d_MM_lookAt_264 : decode y_MM_lookAt.2.1 264 = .ok (.istore 8, 2) := dc9_54 (by decide +kernel)
theorem d_MM_lookAt_266 : decode y_MM_lookAt.2.1 266 = .ok (.iconst 1, 1) := dc9_4 (by decide +kernel)
theorem d_MM_lookAt_267 : decode y_MM_lookAt.2.1 267 = .ok (.istore 9, 2) := dc9_54 (by decide +kernel)
theorem d_MM_lookAt_269 : decode y_MM_lookAt.2.1 269 = .ok (.goto 105, 3) := dc9_167 (by decide +kernel)
theorem d_MM_lookAt_291 : decode y_MM_lookAt.2.1 291 = .ok (.aload_n 0, 1) := dc9_42 (by decide +kernel)
theorem d_MM_lookAt_292 : decode y_MM_lookAt.2.1 292 = .ok (.getfield 57, 3) := dc9_180 (by decide +kernel)
theorem d_MM_lookAt_295 : decode y_MM_lookAt.2.1 295 = .ok (.iload 6, 2) := dc9_21 (by decide +kernel)
theorem d_MM_lookAt_297 : decode y_MM_lookAt.2.1 297 = .ok (.invokevirtual 155, 3) := dc9_182 (by decide +kernel)
theorem d_MM_lookAt_300 : decode y_MM_lookAt.2.1 300 = .ok (.iconst 1, 1) := dc9_4 (by decide +kernel)
theorem d_MM_lookAt_301 : decode y_MM_lookAt.2.1 301 = .ok (.if_icmp .ne 32, 3) := dc9_160 (by decide +kernel)
theorem d_MM_lookAt_304 : decode y_MM_lookAt.2.1 304 = .ok (.aload_n 0, 1) := dc9_42 (by decide +kernel)
theorem d_MM_lookAt_305 : decode y_MM_lookAt.2.1 305 = .ok (.getfield 57, 3) := dc9_180 (by decide +kernel)
theorem d_MM_lookAt_308 : decode y_MM_lookAt.2.1 308 = .ok (.iload 6, 2) := dc9_21 (by decide +kernel)
theorem d_MM_lookAt_310 : decode y_MM_lookAt.2.1 310 = .ok (.iconst 1, 1) := dc9_4 (by decide +kernel)
theorem d_MM_lookAt_311 : decode y_MM_lookAt.2.1 311 = .ok (.iadd, 1) := dc9_96 (by decide +kernel)
theorem d_MM_lookAt_312 : decode y_MM_lookAt.2.1 312 = .ok (.invokevirtual 155, 3) := dc9_182 (by decide +kernel)
theorem d_MM_lookAt_315 : decode y_MM_lookAt.2.1 315 = .ok (.aload_n 0, 1) := dc9_42 (by decide +kernel)
theorem d_MM_lookAt_316 : decode y_MM_lookAt.2.1 316 = .ok (.getfield 57, 3) := dc9_180 (by decide +kernel)
theorem d_MM_lookAt_319 : decode y_MM_lookAt.2.1 319 = .ok (.iload 6, 2) := dc9_21 (by decide +kernel)
theorem d_MM_lookAt_321 : decode y_MM_lookAt.2.1 321 = .ok (.iconst 2, 1) := dc9_5 (by decide +kernel)
theorem d_MM_lookAt_322 : decode y_MM_lookAt.2.1 322 = .ok (.iadd, 1) := dc9_96 (by decide +kernel)
theorem d_MM_lookAt_323 : decode y_MM_lookAt.2.1 323 = .ok (.invokevirtual 155, 3) := dc9_182 (by decide +kernel)
theorem d_MM_lookAt_326 : decode y_MM_lookAt.2.1 326 = .ok (.if_icmp .ne 7, 3) := dc9_160 (by decide +kernel)
theorem d_MM_lookAt_329 : decode y_MM_lookAt.2.1 329 = .ok (.iconst 1, 1) := dc9_4 (by decide +kernel)
theorem d_MM_lookAt_330 : decode y_MM_lookAt.2.1 330 = .ok (.goto 4, 3) := dc9_167 (by decide +kernel)
theorem d_MM_lookAt_333 : decode y_MM_lookAt.2.1 333 = .ok (.iconst 0, 1) := dc9_3 (by decide +kernel)
theorem d_MM_lookAt_348 : decode y_MM_lookAt.2.1 348 = .ok (.iload 7, 2) := dc9_21 (by decide +kernel)
theorem d_MM_lookAt_350 : decode y_MM_lookAt.2.1 350 = .ok (.ifCond .ne 7, 3) := dc9_154 (by decide +kernel)
theorem d_MM_lookAt_353 : decode y_MM_lookAt.2.1 353 = .ok (.iconst 1, 1) := dc9_4 (by decide +kernel)
theorem d_MM_lookAt_354 : decode y_MM_lookAt.2.1 354 = .ok (.goto 4, 3) := dc9_167 (by decide +kernel)
theorem d_MM_lookAt_357 : decode y_MM_lookAt.2.1 357 = .ok (.iconst 0, 1) := dc9_3 (by decide +kernel)
theorem d_MM_lookAt_358 : decode y_MM_lookAt.2.1 358 = .ok (.istore 8, 2) := dc9_54 (by decide +kernel)
theorem d_MM_lookAt_360 : decode y_MM_lookAt.2.1 360 = .ok (.iload_n 3, 1) := dc9_29 (by decide +kernel)
theorem d_MM_lookAt_361 : decode y_MM_lookAt.2.1 361 = .ok (.invokestatic 261, 3) := dc9_184 (by decide +kernel)
theorem d_MM_lookAt_364 : decode y_MM_lookAt.2.1 364 = .ok (.ifCond .eq 7, 3) := dc9_153 (by decide +kernel)
theorem d_MM_lookAt_371 : decode y_MM_lookAt.2.1 371 = .ok (.iconst 0, 1) := dc9_3 (by decide +kernel)
theorem d_MM_lookAt_367 : decode y_MM_lookAt.2.1 367 = .ok (.iconst 1, 1) := dc9_4 (by decide +kernel)
theorem d_MM_lookAt_368 : decode y_MM_lookAt.2.1 368 = .ok (.goto 4, 3) := dc9_167 (by decide +kernel)
theorem d_MM_lookAt_372 : decode y_MM_lookAt.2.1 372 = .ok (.istore 9, 2) := dc9_54 (by decide +kernel)
theorem d_MM_lookAt_71 : decode y_MM_lookAt.2.1 71 = .ok (.invokevirtual 155, 3) := dc9_182 (by decide +kernel)
theorem d_MM_lookAt_74 : decode y_MM_lookAt.2.1 74 = .ok (.iadd, 1) := dc9_96 (by decide +kernel)
theorem d_MM_lookAt_75 : decode y_MM_lookAt.2.1 75 = .ok (.istore 7, 2) := dc9_54 (by decide +kernel)
theorem d_MM_lookAt_77 : decode y_MM_lookAt.2.1 77 = .ok (.iinc 8 1, 3) := by decide +kernel
theorem d_MM_lookAt_80 : decode y_MM_lookAt.2.1 80 = .ok (.goto (-29), 3) := dc9_167 (by decide +kernel)
theorem d_MM_lookAt_334 : decode y_MM_lookAt.2.1 334 = .ok (.istore 8, 2) := dc9_54 (by decide +kernel)
theorem d_MM_lookAt_336 : decode y_MM_lookAt.2.1 336 = .ok (.aload_n 0, 1) := dc9_42 (by decide +kernel)
theorem d_MM_lookAt_337 : decode y_MM_lookAt.2.1 337 = .ok (.getfield 57, 3) := dc9_180 (by decide +kernel)
theorem d_MM_lookAt_340 : decode y_MM_lookAt.2.1 340 = .ok (.invokevirtual 341, 3) := dc9_182 (by decide +kernel)
theorem d_MM_lookAt_343 : decode y_MM_lookAt.2.1 343 = .ok (.istore 9, 2) := dc9_54 (by decide +kernel)
theorem d_MM_lookAt_345 : decode y_MM_lookAt.2.1 345 = .ok (.goto 29, 3) := dc9_167 (by decide +kernel)
theorem d_MM_lookAt_386 : decode y_MM_lookAt.2.1 386 = .ok (.aload_n 0, 1) := dc9_42 (by decide +kernel)
theorem d_MM_lookAt_387 : decode y_MM_lookAt.2.1 387 = .ok (.getfield 57, 3) := dc9_180 (by decide +kernel)
theorem d_MM_lookAt_390 : decode y_MM_lookAt.2.1 390 = .ok (.iload 6, 2) := dc9_21 (by decide +kernel)
theorem d_MM_lookAt_392 : decode y_MM_lookAt.2.1 392 = .ok (.putfield 145, 3) := dc9_181 (by decide +kernel)
theorem d_MM_lookAt_395 : decode y_MM_lookAt.2.1 395 = .ok (.aload_n 0, 1) := dc9_42 (by decide +kernel)
theorem d_MM_lookAt_396 : decode y_MM_lookAt.2.1 396 = .ok (.getfield 57, 3) := dc9_180 (by decide +kernel)
theorem d_MM_lookAt_399 : decode y_MM_lookAt.2.1 399 = .ok (.iload 9, 2) := dc9_21 (by decide +kernel)
theorem d_MM_lookAt_401 : decode y_MM_lookAt.2.1 401 = .ok (.invokevirtual 152, 3) := dc9_182 (by decide +kernel)
theorem d_MM_lookAt_404 : decode y_MM_lookAt.2.1 404 = .ok (.return_, 1) := dc9_177 (by decide +kernel)
def h_MM_lookAt_51 (G : mG) (d : Nat) (a0 : Nat) (l1 : Int) (l2 : Int) (l3 : Int) (l4 : Int) (l5 : Int) (l6 : Int) (l7 : Int) (l8 : Int) (M : mM) (Q : mM → Prop) : Prop := mWm G y_MM_lookAt (d + 1) 51 [vr a0, vi l1, vi l2, vi l3, vi l4, vi l5, vi l6, vi l7, vi l8, vd] [] M (fun r9 M9 => r9 = none ∧ Q M9)
def h_MM_lookAt_334 (G : mG) (d : Nat) (a0 : Nat) (l4 : Int) (l6 : Int) (k0 : Int) (M : mM) (Q : mM → Prop) : Prop := mWm G y_MM_lookAt (d + 1) 334 [vr a0, vd, vd, vd, vi l4, vd, vi l6, vd, vd, vd] [vi k0] M (fun r9 M9 => r9 = none ∧ Q M9)
def h_MM_lookAt_386 (G : mG) (d : Nat) (a0 : Nat) (l6 : Int) (l9 : Int) (M : mM) (Q : mM → Prop) : Prop := mWm G y_MM_lookAt (d + 1) 386 [vr a0, vd, vd, vd, vd, vd, vi l6, vd, vd, vi l9] [] M (fun r9 M9 => r9 = none ∧ Q M9)
theorem k_MM_lookAt {G : mG} {d : Nat} {a0 : Nat} {l1 : Int} {l2 : Int} {M : mM} {Q : mM → Prop} (hO : mOk M) (hi_l1 : i32 l1) (hi_l2 : i32 l2)
    (h : mK M a0 = 14 ∧ mK M (mR M a0 10) = 16 ∧ mK M (mR M (mR M a0 10) 0) = 15 ∧ Ci G y_MN_at d [vr (mR M (mR M a0 10) 0), vi l1] M (fun x5 M4 => i32 x5 ∧ mOk M4 ∧ (mK M4 a0 = 14 ∧ mK M4 (mR M4 a0 10) = 16 ∧ mK M4 (mR M4 (mR M4 a0 10) 1) = 15 ∧ Ci G y_MN_at d [vr (mR M4 (mR M4 a0 10) 1), vi l1] M4 (fun x11 M10 => i32 x11 ∧ mOk M10 ∧ (mK M10 a0 = 14 ∧ Ci G y_MM_parts d [vr a0, vi l1] M10 (fun x15 M14 => i32 x15 ∧ mOk M14 ∧ (mK M14 a0 = 14 ∧ mK M14 (mR M14 a0 19) = 15 ∧ h_MM_lookAt_51 G d a0 l1 l2 x5 x11 x15 ((mI M14 (mR M14 a0 19) 1) - x15) 0 ((mI M14 (mR M14 a0 19) 1) - x15) M14 Q))))))) :
    Cv G y_MM_lookAt (d + 1) [vr a0, vi l1, vi l2] M Q := by
  refine wm_open (y := y_MM_lookAt) rfl (Nat.le_of_ble_eq_true rfl) (L := [vr a0, vi l1, vi l2, vd, vd, vd, vd, vd, vd, vd]) rfl ?_
  obtain ⟨h1, h⟩ := h
  obtain ⟨h2, h⟩ := h
  obtain ⟨h3, h⟩ := h
  refine wm_aload_n d_MM_lookAt_0 rfl rfl ?_
  refine gf_MM_38 rfl d_MM_lookAt_1 h1 ?_
  refine gf_MM_273 rfl d_MM_lookAt_4 h2 ?_
  refine wm_iload_n d_MM_lookAt_7 rfl rfl ?_
  refine cf_MM_155 rfl d_MM_lookAt_8 h3 (Nat.le_of_ble_eq_true rfl) (Ci.mono h (fun x5 M4 h => ?_))
  obtain ⟨h6, hOM4, h⟩ := h
  obtain ⟨h7, h⟩ := h
  obtain ⟨h8, h⟩ := h
  obtain ⟨h9, h⟩ := h
  refine wm_istore_n d_MM_lookAt_11 rfl (by decide) (L' := [vr a0, vi l1, vi l2, vi x5, vd, vd, vd, vd, vd, vd]) rfl ?_
  refine wm_aload_n d_MM_lookAt_12 rfl rfl ?_
  refine gf_MM_38 rfl d_MM_lookAt_13 h7 ?_
  refine gf_MM_276 rfl d_MM_lookAt_16 h8 ?_
  refine wm_iload_n d_MM_lookAt_19 rfl rfl ?_
  refine cf_MM_155 rfl d_MM_lookAt_20 h9 (Nat.le_of_ble_eq_true rfl) (Ci.mono h (fun x11 M10 h => ?_))
  obtain ⟨h12, hOM10, h⟩ := h
  obtain ⟨h13, h⟩ := h
  refine wm_istore d_MM_lookAt_23 (by decide) (L' := [vr a0, vi l1, vi l2, vi x5, vi x11, vd, vd, vd, vd, vd]) rfl ?_
  refine wm_aload_n d_MM_lookAt_25 rfl rfl ?_
  refine wm_iload_n d_MM_lookAt_26 rfl rfl ?_
  refine cf_MM_344 rfl d_MM_lookAt_27 h13 (Nat.le_of_ble_eq_true rfl) (Ci.mono h (fun x15 M14 h => ?_))
  obtain ⟨h16, hOM14, h⟩ := h
  obtain ⟨h17, h⟩ := h
  obtain ⟨h18, h⟩ := h
  refine wm_istore d_MM_lookAt_30 (by decide) (L' := [vr a0, vi l1, vi l2, vi x5, vi x11, vi x15, vd, vd, vd, vd]) rfl ?_
  refine wm_aload_n d_MM_lookAt_32 rfl rfl ?_
  refine gf_MM_57 rfl d_MM_lookAt_33 h17 ?_
  refine gf_MM_145 rfl d_MM_lookAt_36 h18 ?_
  refine wm_iload d_MM_lookAt_39 rfl ?_
  refine wm_isub d_MM_lookAt_41 ?_
  refine wm_istore d_MM_lookAt_42 (by decide) (L' := [vr a0, vi l1, vi l2, vi x5, vi x11, vi x15, vi ((mI M14 (mR M14 a0 19) 1) - x15), vd, vd, vd]) rfl ?_
  refine wm_iconst d_MM_lookAt_44 ?_
  refine wm_istore d_MM_lookAt_45 (by decide) (L' := [vr a0, vi l1, vi l2, vi x5, vi x11, vi x15, vi ((mI M14 (mR M14 a0 19) 1) - x15), vi 0, vd, vd]) rfl ?_
  refine wm_iload d_MM_lookAt_47 rfl ?_
  refine wm_istore d_MM_lookAt_49 (by decide) (L' := [vr a0, vi l1, vi l2, vi x5, vi x11, vi x15, vi ((mI M14 (mR M14 a0 19) 1) - x15), vi 0, vi ((mI M14 (mR M14 a0 19) 1) - x15), vd]) rfl ?_
  exact h
theorem k_MM_lookAt_51 {G : mG} {d : Nat} {a0 : Nat} {l1 : Int} {l2 : Int} {l3 : Int} {l4 : Int} {l5 : Int} {l6 : Int} {l7 : Int} {l8 : Int} {M : mM} {Q : mM → Prop} (hO : mOk M) (hi_l1 : i32 l1) (hi_l2 : i32 l2) (hi_l3 : i32 l3) (hi_l4 : i32 l4) (hi_l5 : i32 l5) (hi_l6 : i32 l6) (hi_l7 : i32 l7) (hi_l8 : i32 l8)
    (h : mK M a0 = 14 ∧ mK M (mR M a0 19) = 15 ∧ ((mI M (mR M a0 19) 1 ≤ l8) → (((l3 = 1) → (Ci G y_MM_lookUp d [vr a0, vi l1, vi l2] M (fun x27 M26 => i32 x27 ∧ mOk M26 ∧ ((((1 : Int) = 0) → (mK M26 a0 = 14 ∧ Cv G y_MM_stop d [vr a0, vi 3, vi l4] M26 (fun M32 => mOk M32 ∧ (h_MM_lookAt_386 G d a0 l6 x27 M32 Q)))) ∧ (¬ ((1 : Int) = 0) → (h_MM_lookAt_386 G d a0 l6 x27 M26 Q)))))) ∧ (¬ (l3 = 1) → (((l3 = 2) → ((((1 : Int) = 0) → (Cv G y_MM_stop d [vr a0, vi 3, vi l4] M (fun M39 => mOk M39 ∧ (h_MM_lookAt_386 G d a0 l6 0 M39 Q)))) ∧ (¬ ((1 : Int) = 0) → (h_MM_lookAt_386 G d a0 l6 0 M Q)))) ∧ (¬ (l3 = 2) → (((l3 = 12 ∨ l3 = 13) → ((((1 : Int) = 0) → (Cv G y_MM_stop d [vr a0, vi 3, vi l4] M (fun M46 => mOk M46 ∧ (h_MM_lookAt_386 G d a0 l6 1 M46 Q)))) ∧ (¬ ((1 : Int) = 0) → (h_MM_lookAt_386 G d a0 l6 1 M Q)))) ∧ (¬ (l3 = 12 ∨ l3 = 13) → (((l3 = 18 ∨ l3 = 23) → (∀ v52 : Int, v52 = (if (l7 = 1) then 0 else 1) → ((v52 = 0) → (Cv G y_MM_stop d [vr a0, vi 3, vi l4] M (fun M59 => mOk M59 ∧ (h_MM_lookAt_386 G d a0 l6 1 M59 Q)))) ∧ (¬ (v52 = 0) → (h_MM_lookAt_386 G d a0 l6 1 M Q)))) ∧ (¬ (l3 = 18 ∨ l3 = 23) → (((l3 = 29 ∨ l3 = 30 ∨ l3 = 31) → (∀ v66 : Int, v66 = (if (l7 = l5) then 1 else 0) → ((v66 = 0) → (Cv G y_MM_stop d [vr a0, vi 3, vi l4] M (fun M73 => mOk M73 ∧ (h_MM_lookAt_386 G d a0 l6 1 M73 Q)))) ∧ (¬ (v66 = 0) → (h_MM_lookAt_386 G d a0 l6 1 M Q)))) ∧ (¬ (l3 = 29 ∨ l3 = 30 ∨ l3 = 31) → (((l3 = 32) → (Ci G y_MN_at d [vr (mR M a0 19), vi l6] M (fun x80 M79 => i32 x80 ∧ mOk M79 ∧ (((x80 = 1) → (mK M79 a0 = 14 ∧ mK M79 (mR M79 a0 19) = 15 ∧ Ci G y_MN_at d [vr (mR M79 a0 19), vi (l6 + 1)] M79 (fun x87 M86 => i32 x87 ∧ mOk M86 ∧ (mK M86 a0 = 14 ∧ mK M86 (mR M86 a0 19) = 15 ∧ Ci G y_MN_at d [vr (mR M86 a0 19), vi (l6 + 2)] M86 (fun x92 M91 => i32 x92 ∧ mOk M91 ∧ (((x87 = x92) → (h_MM_lookAt_334 G d a0 l4 l6 1 M91 Q)) ∧ (¬ (x87 = x92) → (h_MM_lookAt_334 G d a0 l4 l6 0 M91 Q)))))))) ∧ (¬ (x80 = 1) → (h_MM_lookAt_334 G d a0 l4 l6 0 M79 Q)))))) ∧ (¬ (l3 = 32) → (∀ v97 : Int, v97 = (if (l7 = 0) then 1 else 0) → Ci G y_MM_isComparison d [vi l3] M (fun x103 M102 => i32 x103 ∧ mOk M102 ∧ (∀ v106 : Int, v106 = (if (x103 = 0) then 0 else 1) → ((v97 = 0) → (mK M102 a0 = 14 ∧ Cv G y_MM_stop d [vr a0, vi 3, vi l4] M102 (fun M114 => mOk M114 ∧ (h_MM_lookAt_386 G d a0 l6 v106 M114 Q)))) ∧ (¬ (v97 = 0) → (h_MM_lookAt_386 G d a0 l6 v106 M102 Q)))))))))))))))))) ∧ (¬ (mI M (mR M a0 19) 1 ≤ l8) → (Ci G y_MN_at d [vr (mR M a0 19), vi l8] M (fun x120 M119 => i32 x120 ∧ mOk M119 ∧ (h_MM_lookAt_51 G d a0 l1 l2 l3 l4 l5 l6 (l7 + x120) (l8 + 1) M119 Q))))) :
    h_MM_lookAt_51 G d a0 l1 l2 l3 l4 l5 l6 l7 l8 M Q := by
  unfold h_MM_lookAt_51
  obtain ⟨h19, h⟩ := h
  obtain ⟨h20, h⟩ := h
  refine wm_iload d_MM_lookAt_51 rfl ?_
  refine wm_aload_n d_MM_lookAt_53 rfl rfl ?_
  refine gf_MM_57 rfl d_MM_lookAt_54 h19 ?_
  refine gf_MM_145 rfl d_MM_lookAt_57 h20 ?_
  refine wm_icmp_ge (tgt := 83) d_MM_lookAt_60 rfl hi_l8 (hO _ _).1 (fun c22 => ?_) (fun c22 => ?_)
  · replace h := h.1 c22
    refine wm_iconst d_MM_lookAt_83 ?_
    refine wm_istore d_MM_lookAt_84 (by decide) (L' := [vr a0, vi l1, vi l2, vi l3, vi l4, vi l5, vi l6, vi l7, vi 1, vd]) rfl ?_
    refine wm_iconst d_MM_lookAt_86 ?_
    refine wm_istore d_MM_lookAt_87 (by decide) (L' := [vr a0, vi l1, vi l2, vi l3, vi l4, vi l5, vi l6, vi l7, vi 1, vi 0]) rfl ?_
    refine wm_iload_n d_MM_lookAt_89 rfl rfl ?_
    by_cases c25 : l3 = 1
    · replace h := h.1 c25
      refine wm_tableIn (tgt := 241) (off := 151) d_MM_lookAt_90 hi_l3 (by omega) (by omega) (by rw [c25]; rfl) rfl ?_
      refine wm_aload_n d_MM_lookAt_241 rfl rfl ?_
      refine wm_iload_n d_MM_lookAt_242 rfl rfl ?_
      refine wm_iload_n d_MM_lookAt_243 rfl rfl ?_
      refine cf_MM_347 rfl d_MM_lookAt_244 h19 (Nat.le_of_ble_eq_true rfl) (Ci.mono h (fun x27 M26 h => ?_))
      obtain ⟨h28, hOM26, h⟩ := h
      refine wm_istore d_MM_lookAt_247 (by decide) (L' := [vr a0, vi l1, vi l2, vi l3, vi l4, vi l5, vi l6, vi l7, vi 1, vi x27]) rfl ?_
      refine wm_goto (tgt := 374) d_MM_lookAt_249 rfl ?_
      refine wm_iload d_MM_lookAt_374 rfl ?_
      refine wm_if_ne (tgt := 386) d_MM_lookAt_376 rfl ⟨by decide, by decide⟩ (fun c30 => ?_) (fun c30 => ?_)
      · replace h := h.2 c30
        refine wm_less (L' := [vr a0, vd, vd, vd, vd, vd, vi l6, vd, vd, vi x27]) ⟨Or.inr rfl, Or.inl rfl, Or.inl rfl, Or.inl rfl, Or.inl rfl, Or.inl rfl, Or.inr rfl, Or.inl rfl, Or.inl rfl, Or.inr rfl, trivial⟩ ?_
        exact h
      · replace c30 := Classical.not_not.mp c30
        replace h := h.1 c30
        obtain ⟨h31, h⟩ := h
        refine wm_aload_n d_MM_lookAt_379 rfl rfl ?_
        refine wm_iconst d_MM_lookAt_380 ?_
        refine wm_iload d_MM_lookAt_381 rfl ?_
        refine cf_MM_351 rfl d_MM_lookAt_383 h31 (Nat.le_of_ble_eq_true rfl) (Cv.mono h (fun M32 h => ?_))
        obtain ⟨hOM32, h⟩ := h
        refine wm_less (L' := [vr a0, vd, vd, vd, vd, vd, vi l6, vd, vd, vi x27]) ⟨Or.inr rfl, Or.inl rfl, Or.inl rfl, Or.inl rfl, Or.inl rfl, Or.inl rfl, Or.inr rfl, Or.inl rfl, Or.inl rfl, Or.inr rfl, trivial⟩ ?_
        exact h
    · replace h := h.2 c25
      by_cases c36 : l3 = 2
      · replace h := h.1 c36
        refine wm_tableIn (tgt := 232) (off := 142) d_MM_lookAt_90 hi_l3 (by omega) (by omega) (by rw [c36]; rfl) rfl ?_
        refine wm_goto (tgt := 374) d_MM_lookAt_232 rfl ?_
        refine wm_iload d_MM_lookAt_374 rfl ?_
        refine wm_if_ne (tgt := 386) d_MM_lookAt_376 rfl ⟨by decide, by decide⟩ (fun c38 => ?_) (fun c38 => ?_)
        · replace h := h.2 c38
          refine wm_less (L' := [vr a0, vd, vd, vd, vd, vd, vi l6, vd, vd, vi 0]) ⟨Or.inr rfl, Or.inl rfl, Or.inl rfl, Or.inl rfl, Or.inl rfl, Or.inl rfl, Or.inr rfl, Or.inl rfl, Or.inl rfl, Or.inr rfl, trivial⟩ ?_
          exact h
        · replace c38 := Classical.not_not.mp c38
          replace h := h.1 c38
          refine wm_aload_n d_MM_lookAt_379 rfl rfl ?_
          refine wm_iconst d_MM_lookAt_380 ?_
          refine wm_iload d_MM_lookAt_381 rfl ?_
          refine cf_MM_351 rfl d_MM_lookAt_383 h19 (Nat.le_of_ble_eq_true rfl) (Cv.mono h (fun M39 h => ?_))
          obtain ⟨hOM39, h⟩ := h
          refine wm_less (L' := [vr a0, vd, vd, vd, vd, vd, vi l6, vd, vd, vi 0]) ⟨Or.inr rfl, Or.inl rfl, Or.inl rfl, Or.inl rfl, Or.inl rfl, Or.inl rfl, Or.inr rfl, Or.inl rfl, Or.inl rfl, Or.inr rfl, trivial⟩ ?_
          exact h
      · replace h := h.2 c36
        by_cases c43 : l3 = 12 ∨ l3 = 13
        · replace h := h.1 c43
          refine wm_tableIn (tgt := 235) (off := 145) d_MM_lookAt_90 hi_l3 (by omega) (by omega) (by rcases c43 with q9 | q9 <;> (rw [q9]; rfl)) rfl ?_
          refine wm_iconst d_MM_lookAt_235 ?_
          refine wm_istore d_MM_lookAt_236 (by decide) (L' := [vr a0, vi l1, vi l2, vi l3, vi l4, vi l5, vi l6, vi l7, vi 1, vi 1]) rfl ?_
          refine wm_goto (tgt := 374) d_MM_lookAt_238 rfl ?_
          refine wm_iload d_MM_lookAt_374 rfl ?_
          refine wm_if_ne (tgt := 386) d_MM_lookAt_376 rfl ⟨by decide, by decide⟩ (fun c45 => ?_) (fun c45 => ?_)
          · replace h := h.2 c45
            refine wm_less (L' := [vr a0, vd, vd, vd, vd, vd, vi l6, vd, vd, vi 1]) ⟨Or.inr rfl, Or.inl rfl, Or.inl rfl, Or.inl rfl, Or.inl rfl, Or.inl rfl, Or.inr rfl, Or.inl rfl, Or.inl rfl, Or.inr rfl, trivial⟩ ?_
            exact h
          · replace c45 := Classical.not_not.mp c45
            replace h := h.1 c45
            refine wm_aload_n d_MM_lookAt_379 rfl rfl ?_
            refine wm_iconst d_MM_lookAt_380 ?_
            refine wm_iload d_MM_lookAt_381 rfl ?_
            refine cf_MM_351 rfl d_MM_lookAt_383 h19 (Nat.le_of_ble_eq_true rfl) (Cv.mono h (fun M46 h => ?_))
            obtain ⟨hOM46, h⟩ := h
            refine wm_less (L' := [vr a0, vd, vd, vd, vd, vd, vi l6, vd, vd, vi 1]) ⟨Or.inr rfl, Or.inl rfl, Or.inl rfl, Or.inl rfl, Or.inl rfl, Or.inl rfl, Or.inr rfl, Or.inl rfl, Or.inl rfl, Or.inr rfl, trivial⟩ ?_
            exact h
        · replace h := h.2 c43
          by_cases c50 : l3 = 18 ∨ l3 = 23
          · replace h := h.1 c50
            refine wm_tableIn (tgt := 272) (off := 182) d_MM_lookAt_90 hi_l3 (by omega) (by omega) (by rcases c50 with q9 | q9 <;> (rw [q9]; rfl)) rfl ?_
            refine wm_iload d_MM_lookAt_272 rfl ?_
            refine wm_iconst d_MM_lookAt_274 ?_
            have hJ : ∀ v52 : Int, v52 = (if (l7 = 1) then 0 else 1) → mWm G y_MM_lookAt (d + 1) 283 [vr a0, vd, vd, vd, vi l4, vd, vi l6, vd, vd, vd] [vi v52] M (fun r9 M9 => r9 = none ∧ Q M9) := by
              intro v52 e54
              have h := h v52 e54
              have h55 : i32 v52 := by rw [e54]; (repeat' split) <;> first | exact ⟨by decide, by decide⟩ | exact ⟨by decide, by decide⟩
              have h56 : (v52 = 0 ∨ v52 = 1) := by rw [e54]; (repeat' split) <;> decide
              refine wm_istore d_MM_lookAt_283 (by decide) (L' := [vr a0, vd, vd, vd, vi l4, vd, vi l6, vd, vi v52, vd]) rfl ?_
              refine wm_iconst d_MM_lookAt_285 ?_
              refine wm_istore d_MM_lookAt_286 (by decide) (L' := [vr a0, vd, vd, vd, vi l4, vd, vi l6, vd, vi v52, vi 1]) rfl ?_
              refine wm_goto (tgt := 374) d_MM_lookAt_288 rfl ?_
              refine wm_iload d_MM_lookAt_374 rfl ?_
              refine wm_if_ne (tgt := 386) d_MM_lookAt_376 rfl h55 (fun c58 => ?_) (fun c58 => ?_)
              · replace h := h.2 c58
                refine wm_less (L' := [vr a0, vd, vd, vd, vd, vd, vi l6, vd, vd, vi 1]) ⟨Or.inr rfl, Or.inl rfl, Or.inl rfl, Or.inl rfl, Or.inl rfl, Or.inl rfl, Or.inr rfl, Or.inl rfl, Or.inl rfl, Or.inr rfl, trivial⟩ ?_
                exact h
              · replace c58 := Classical.not_not.mp c58
                replace h := h.1 c58
                refine wm_aload_n d_MM_lookAt_379 rfl rfl ?_
                refine wm_iconst d_MM_lookAt_380 ?_
                refine wm_iload d_MM_lookAt_381 rfl ?_
                refine cf_MM_351 rfl d_MM_lookAt_383 h19 (Nat.le_of_ble_eq_true rfl) (Cv.mono h (fun M59 h => ?_))
                obtain ⟨hOM59, h⟩ := h
                refine wm_less (L' := [vr a0, vd, vd, vd, vd, vd, vi l6, vd, vd, vi 1]) ⟨Or.inr rfl, Or.inl rfl, Or.inl rfl, Or.inl rfl, Or.inl rfl, Or.inl rfl, Or.inr rfl, Or.inl rfl, Or.inl rfl, Or.inr rfl, trivial⟩ ?_
                exact h
            clear h
            refine wm_icmp_eq (tgt := 282) d_MM_lookAt_275 rfl hi_l7 ⟨by decide, by decide⟩ (fun c51 => ?_) (fun c51 => ?_)
            · refine wm_iconst d_MM_lookAt_282 ?_
              refine wm_less (L' := [vr a0, vd, vd, vd, vi l4, vd, vi l6, vd, vd, vd]) ⟨Or.inr rfl, Or.inl rfl, Or.inl rfl, Or.inl rfl, Or.inr rfl, Or.inl rfl, Or.inr rfl, Or.inl rfl, Or.inl rfl, Or.inl rfl, trivial⟩ ?_
              exact hJ 0 (if_pos c51).symm
            · refine wm_iconst d_MM_lookAt_278 ?_
              refine wm_goto (tgt := 283) d_MM_lookAt_279 rfl ?_
              refine wm_less (L' := [vr a0, vd, vd, vd, vi l4, vd, vi l6, vd, vd, vd]) ⟨Or.inr rfl, Or.inl rfl, Or.inl rfl, Or.inl rfl, Or.inr rfl, Or.inl rfl, Or.inr rfl, Or.inl rfl, Or.inl rfl, Or.inl rfl, trivial⟩ ?_
              exact hJ 1 (if_neg c51).symm
          · replace h := h.2 c50
            by_cases c64 : l3 = 29 ∨ l3 = 30 ∨ l3 = 31
            · replace h := h.1 c64
              refine wm_tableIn (tgt := 252) (off := 162) d_MM_lookAt_90 hi_l3 (by omega) (by omega) (by rcases c64 with q9 | q9 | q9 <;> (rw [q9]; rfl)) rfl ?_
              refine wm_iload d_MM_lookAt_252 rfl ?_
              refine wm_iload d_MM_lookAt_254 rfl ?_
              have hJ : ∀ v66 : Int, v66 = (if (l7 = l5) then 1 else 0) → mWm G y_MM_lookAt (d + 1) 264 [vr a0, vd, vd, vd, vi l4, vd, vi l6, vd, vd, vd] [vi v66] M (fun r9 M9 => r9 = none ∧ Q M9) := by
                intro v66 e68
                have h := h v66 e68
                have h69 : i32 v66 := by rw [e68]; (repeat' split) <;> first | exact ⟨by decide, by decide⟩ | exact ⟨by decide, by decide⟩
                have h70 : (v66 = 0 ∨ v66 = 1) := by rw [e68]; (repeat' split) <;> decide
                refine wm_istore d_MM_lookAt_264 (by decide) (L' := [vr a0, vd, vd, vd, vi l4, vd, vi l6, vd, vi v66, vd]) rfl ?_
                refine wm_iconst d_MM_lookAt_266 ?_
                refine wm_istore d_MM_lookAt_267 (by decide) (L' := [vr a0, vd, vd, vd, vi l4, vd, vi l6, vd, vi v66, vi 1]) rfl ?_
                refine wm_goto (tgt := 374) d_MM_lookAt_269 rfl ?_
                refine wm_iload d_MM_lookAt_374 rfl ?_
                refine wm_if_ne (tgt := 386) d_MM_lookAt_376 rfl h69 (fun c72 => ?_) (fun c72 => ?_)
                · replace h := h.2 c72
                  refine wm_less (L' := [vr a0, vd, vd, vd, vd, vd, vi l6, vd, vd, vi 1]) ⟨Or.inr rfl, Or.inl rfl, Or.inl rfl, Or.inl rfl, Or.inl rfl, Or.inl rfl, Or.inr rfl, Or.inl rfl, Or.inl rfl, Or.inr rfl, trivial⟩ ?_
                  exact h
                · replace c72 := Classical.not_not.mp c72
                  replace h := h.1 c72
                  refine wm_aload_n d_MM_lookAt_379 rfl rfl ?_
                  refine wm_iconst d_MM_lookAt_380 ?_
                  refine wm_iload d_MM_lookAt_381 rfl ?_
                  refine cf_MM_351 rfl d_MM_lookAt_383 h19 (Nat.le_of_ble_eq_true rfl) (Cv.mono h (fun M73 h => ?_))
                  obtain ⟨hOM73, h⟩ := h
                  refine wm_less (L' := [vr a0, vd, vd, vd, vd, vd, vi l6, vd, vd, vi 1]) ⟨Or.inr rfl, Or.inl rfl, Or.inl rfl, Or.inl rfl, Or.inl rfl, Or.inl rfl, Or.inr rfl, Or.inl rfl, Or.inl rfl, Or.inr rfl, trivial⟩ ?_
                  exact h
              clear h
              refine wm_icmp_ne (tgt := 263) d_MM_lookAt_256 rfl hi_l7 hi_l5 (fun c65 => ?_) (fun c65 => ?_)
              · refine wm_iconst d_MM_lookAt_263 ?_
                refine wm_less (L' := [vr a0, vd, vd, vd, vi l4, vd, vi l6, vd, vd, vd]) ⟨Or.inr rfl, Or.inl rfl, Or.inl rfl, Or.inl rfl, Or.inr rfl, Or.inl rfl, Or.inr rfl, Or.inl rfl, Or.inl rfl, Or.inl rfl, trivial⟩ ?_
                exact hJ 0 (if_neg c65).symm
              · replace c65 := Classical.not_not.mp c65
                refine wm_iconst d_MM_lookAt_259 ?_
                refine wm_goto (tgt := 264) d_MM_lookAt_260 rfl ?_
                refine wm_less (L' := [vr a0, vd, vd, vd, vi l4, vd, vi l6, vd, vd, vd]) ⟨Or.inr rfl, Or.inl rfl, Or.inl rfl, Or.inl rfl, Or.inr rfl, Or.inl rfl, Or.inr rfl, Or.inl rfl, Or.inl rfl, Or.inl rfl, trivial⟩ ?_
                exact hJ 1 (if_pos c65).symm
            · replace h := h.2 c64
              by_cases c78 : l3 = 32
              · replace h := h.1 c78
                refine wm_tableIn (tgt := 291) (off := 201) d_MM_lookAt_90 hi_l3 (by omega) (by omega) (by rw [c78]; rfl) rfl ?_
                refine wm_aload_n d_MM_lookAt_291 rfl rfl ?_
                refine gf_MM_57 rfl d_MM_lookAt_292 h19 ?_
                refine wm_iload d_MM_lookAt_295 rfl ?_
                refine cf_MM_155 rfl d_MM_lookAt_297 h20 (Nat.le_of_ble_eq_true rfl) (Ci.mono h (fun x80 M79 h => ?_))
                obtain ⟨h81, hOM79, h⟩ := h
                refine wm_iconst d_MM_lookAt_300 ?_
                refine wm_icmp_ne (tgt := 333) d_MM_lookAt_301 rfl h81 ⟨by decide, by decide⟩ (fun c83 => ?_) (fun c83 => ?_)
                · replace h := h.2 c83
                  refine wm_iconst d_MM_lookAt_333 ?_
                  refine wm_less (L' := [vr a0, vd, vd, vd, vi l4, vd, vi l6, vd, vd, vd]) ⟨Or.inr rfl, Or.inl rfl, Or.inl rfl, Or.inl rfl, Or.inr rfl, Or.inl rfl, Or.inr rfl, Or.inl rfl, Or.inl rfl, Or.inl rfl, trivial⟩ ?_
                  exact h
                · replace c83 := Classical.not_not.mp c83
                  replace h := h.1 c83
                  obtain ⟨h84, h⟩ := h
                  obtain ⟨h85, h⟩ := h
                  refine wm_aload_n d_MM_lookAt_304 rfl rfl ?_
                  refine gf_MM_57 rfl d_MM_lookAt_305 h84 ?_
                  refine wm_iload d_MM_lookAt_308 rfl ?_
                  refine wm_iconst d_MM_lookAt_310 ?_
                  refine wm_iadd d_MM_lookAt_311 ?_
                  refine cf_MM_155 rfl d_MM_lookAt_312 h85 (Nat.le_of_ble_eq_true rfl) (Ci.mono h (fun x87 M86 h => ?_))
                  obtain ⟨h88, hOM86, h⟩ := h
                  obtain ⟨h89, h⟩ := h
                  obtain ⟨h90, h⟩ := h
                  refine wm_aload_n d_MM_lookAt_315 rfl rfl ?_
                  refine gf_MM_57 rfl d_MM_lookAt_316 h89 ?_
                  refine wm_iload d_MM_lookAt_319 rfl ?_
                  refine wm_iconst d_MM_lookAt_321 ?_
                  refine wm_iadd d_MM_lookAt_322 ?_
                  refine cf_MM_155 rfl d_MM_lookAt_323 h90 (Nat.le_of_ble_eq_true rfl) (Ci.mono h (fun x92 M91 h => ?_))
                  obtain ⟨h93, hOM91, h⟩ := h
                  refine wm_icmp_ne (tgt := 333) d_MM_lookAt_326 rfl h88 h93 (fun c95 => ?_) (fun c95 => ?_)
                  · replace h := h.2 c95
                    refine wm_iconst d_MM_lookAt_333 ?_
                    refine wm_less (L' := [vr a0, vd, vd, vd, vi l4, vd, vi l6, vd, vd, vd]) ⟨Or.inr rfl, Or.inl rfl, Or.inl rfl, Or.inl rfl, Or.inr rfl, Or.inl rfl, Or.inr rfl, Or.inl rfl, Or.inl rfl, Or.inl rfl, trivial⟩ ?_
                    exact h
                  · replace c95 := Classical.not_not.mp c95
                    replace h := h.1 c95
                    refine wm_iconst d_MM_lookAt_329 ?_
                    refine wm_goto (tgt := 334) d_MM_lookAt_330 rfl ?_
                    refine wm_less (L' := [vr a0, vd, vd, vd, vi l4, vd, vi l6, vd, vd, vd]) ⟨Or.inr rfl, Or.inl rfl, Or.inl rfl, Or.inl rfl, Or.inr rfl, Or.inl rfl, Or.inr rfl, Or.inl rfl, Or.inl rfl, Or.inl rfl, trivial⟩ ?_
                    exact h
              · replace h := h.2 c78
                refine wm_tableD (tgt := 348) (off := 258) d_MM_lookAt_90 hi_l3 (if q8 : 1 ≤ l3 ∧ l3 ≤ 32 then Or.inr ⟨q8.1, q8.2, by
      have q9 : l3 = 3 ∨ l3 = 4 ∨ l3 = 5 ∨ l3 = 6 ∨ l3 = 7 ∨ l3 = 8 ∨ l3 = 9 ∨ l3 = 10 ∨ l3 = 11 ∨ l3 = 14 ∨ l3 = 15 ∨ l3 = 16 ∨ l3 = 17 ∨ l3 = 19 ∨ l3 = 20 ∨ l3 = 21 ∨ l3 = 22 ∨ l3 = 24 ∨ l3 = 25 ∨ l3 = 26 ∨ l3 = 27 ∨ l3 = 28 := by omega
      rcases q9 with q9 | q9 | q9 | q9 | q9 | q9 | q9 | q9 | q9 | q9 | q9 | q9 | q9 | q9 | q9 | q9 | q9 | q9 | q9 | q9 | q9 | q9 <;> (rw [q9]; rfl)⟩ else Or.inl (by omega)) rfl ?_
                refine wm_iload d_MM_lookAt_348 rfl ?_
                have hJ : ∀ v97 : Int, v97 = (if (l7 = 0) then 1 else 0) → mWm G y_MM_lookAt (d + 1) 358 [vr a0, vd, vd, vi l3, vi l4, vd, vi l6, vd, vd, vd] [vi v97] M (fun r9 M9 => r9 = none ∧ Q M9) := by
                  intro v97 e99
                  have h := h v97 e99
                  have h100 : i32 v97 := by rw [e99]; (repeat' split) <;> first | exact ⟨by decide, by decide⟩ | exact ⟨by decide, by decide⟩
                  have h101 : (v97 = 0 ∨ v97 = 1) := by rw [e99]; (repeat' split) <;> decide
                  refine wm_istore d_MM_lookAt_358 (by decide) (L' := [vr a0, vd, vd, vi l3, vi l4, vd, vi l6, vd, vi v97, vd]) rfl ?_
                  refine wm_iload_n d_MM_lookAt_360 rfl rfl ?_
                  refine cf_MM_261 rfl d_MM_lookAt_361 (Nat.le_of_ble_eq_true rfl) (Ci.mono h (fun x103 M102 h => ?_))
                  obtain ⟨h104, hOM102, h⟩ := h
                  have hJ : ∀ v106 : Int, v106 = (if (x103 = 0) then 0 else 1) → mWm G y_MM_lookAt (d + 1) 372 [vr a0, vd, vd, vd, vi l4, vd, vi l6, vd, vi v97, vd] [vi v106] M102 (fun r9 M9 => r9 = none ∧ Q M9) := by
                    intro v106 e108
                    have h := h v106 e108
                    have h109 : i32 v106 := by rw [e108]; (repeat' split) <;> first | exact ⟨by decide, by decide⟩ | exact ⟨by decide, by decide⟩
                    have h110 : (v106 = 0 ∨ v106 = 1) := by rw [e108]; (repeat' split) <;> decide
                    refine wm_istore d_MM_lookAt_372 (by decide) (L' := [vr a0, vd, vd, vd, vi l4, vd, vi l6, vd, vi v97, vi v106]) rfl ?_
                    refine wm_iload d_MM_lookAt_374 rfl ?_
                    refine wm_if_ne (tgt := 386) d_MM_lookAt_376 rfl h100 (fun c112 => ?_) (fun c112 => ?_)
                    · replace h := h.2 c112
                      refine wm_less (L' := [vr a0, vd, vd, vd, vd, vd, vi l6, vd, vd, vi v106]) ⟨Or.inr rfl, Or.inl rfl, Or.inl rfl, Or.inl rfl, Or.inl rfl, Or.inl rfl, Or.inr rfl, Or.inl rfl, Or.inl rfl, Or.inr rfl, trivial⟩ ?_
                      exact h
                    · replace c112 := Classical.not_not.mp c112
                      replace h := h.1 c112
                      obtain ⟨h113, h⟩ := h
                      refine wm_aload_n d_MM_lookAt_379 rfl rfl ?_
                      refine wm_iconst d_MM_lookAt_380 ?_
                      refine wm_iload d_MM_lookAt_381 rfl ?_
                      refine cf_MM_351 rfl d_MM_lookAt_383 h113 (Nat.le_of_ble_eq_true rfl) (Cv.mono h (fun M114 h => ?_))
                      obtain ⟨hOM114, h⟩ := h
                      refine wm_less (L' := [vr a0, vd, vd, vd, vd, vd, vi l6, vd, vd, vi v106]) ⟨Or.inr rfl, Or.inl rfl, Or.inl rfl, Or.inl rfl, Or.inl rfl, Or.inl rfl, Or.inr rfl, Or.inl rfl, Or.inl rfl, Or.inr rfl, trivial⟩ ?_
                      exact h
                  clear h
                  refine wm_if_eq (tgt := 371) d_MM_lookAt_364 rfl h104 (fun c105 => ?_) (fun c105 => ?_)
                  · refine wm_iconst d_MM_lookAt_371 ?_
                    refine wm_less (L' := [vr a0, vd, vd, vd, vi l4, vd, vi l6, vd, vi v97, vd]) ⟨Or.inr rfl, Or.inl rfl, Or.inl rfl, Or.inl rfl, Or.inr rfl, Or.inl rfl, Or.inr rfl, Or.inl rfl, Or.inr rfl, Or.inl rfl, trivial⟩ ?_
                    exact hJ 0 (if_pos c105).symm
                  · refine wm_iconst d_MM_lookAt_367 ?_
                    refine wm_goto (tgt := 372) d_MM_lookAt_368 rfl ?_
                    refine wm_less (L' := [vr a0, vd, vd, vd, vi l4, vd, vi l6, vd, vi v97, vd]) ⟨Or.inr rfl, Or.inl rfl, Or.inl rfl, Or.inl rfl, Or.inr rfl, Or.inl rfl, Or.inr rfl, Or.inl rfl, Or.inr rfl, Or.inl rfl, trivial⟩ ?_
                    exact hJ 1 (if_neg c105).symm
                clear h
                refine wm_if_ne (tgt := 357) d_MM_lookAt_350 rfl hi_l7 (fun c96 => ?_) (fun c96 => ?_)
                · refine wm_iconst d_MM_lookAt_357 ?_
                  refine wm_less (L' := [vr a0, vd, vd, vi l3, vi l4, vd, vi l6, vd, vd, vd]) ⟨Or.inr rfl, Or.inl rfl, Or.inl rfl, Or.inr rfl, Or.inr rfl, Or.inl rfl, Or.inr rfl, Or.inl rfl, Or.inl rfl, Or.inl rfl, trivial⟩ ?_
                  exact hJ 0 (if_neg c96).symm
                · replace c96 := Classical.not_not.mp c96
                  refine wm_iconst d_MM_lookAt_353 ?_
                  refine wm_goto (tgt := 358) d_MM_lookAt_354 rfl ?_
                  refine wm_less (L' := [vr a0, vd, vd, vi l3, vi l4, vd, vi l6, vd, vd, vd]) ⟨Or.inr rfl, Or.inl rfl, Or.inl rfl, Or.inr rfl, Or.inr rfl, Or.inl rfl, Or.inr rfl, Or.inl rfl, Or.inl rfl, Or.inl rfl, trivial⟩ ?_
                  exact hJ 1 (if_pos c96).symm
  · replace h := h.2 c22
    refine wm_iload d_MM_lookAt_63 rfl ?_
    refine wm_aload_n d_MM_lookAt_65 rfl rfl ?_
    refine gf_MM_57 rfl d_MM_lookAt_66 h19 ?_
    refine wm_iload d_MM_lookAt_69 rfl ?_
    refine cf_MM_155 rfl d_MM_lookAt_71 h20 (Nat.le_of_ble_eq_true rfl) (Ci.mono h (fun x120 M119 h => ?_))
    obtain ⟨h121, hOM119, h⟩ := h
    refine wm_iadd d_MM_lookAt_74 ?_
    refine wm_istore d_MM_lookAt_75 (by decide) (L' := [vr a0, vi l1, vi l2, vi l3, vi l4, vi l5, vi l6, vi (l7 + x120), vi l8, vd]) rfl ?_
    refine wm_iinc d_MM_lookAt_77 (by decide) rfl (L' := [vr a0, vi l1, vi l2, vi l3, vi l4, vi l5, vi l6, vi (l7 + x120), vi (l8 + 1), vd]) rfl ?_
    refine wm_goto (tgt := 51) d_MM_lookAt_80 rfl ?_
    exact h
theorem k_MM_lookAt_334 {G : mG} {d : Nat} {a0 : Nat} {l4 : Int} {l6 : Int} {k0 : Int} {M : mM} {Q : mM → Prop} (hO : mOk M) (hi_l4 : i32 l4) (hi_l6 : i32 l6) (hi_k0 : i32 k0)
    (h : mK M a0 = 14 ∧ mK M (mR M a0 19) = 15 ∧ Ci G y_MN_last d [vr (mR M a0 19)] M (fun x125 M124 => i32 x125 ∧ mOk M124 ∧ (((k0 = 0) → (mK M124 a0 = 14 ∧ Cv G y_MM_stop d [vr a0, vi 3, vi l4] M124 (fun M130 => mOk M130 ∧ (h_MM_lookAt_386 G d a0 l6 x125 M130 Q)))) ∧ (¬ (k0 = 0) → (h_MM_lookAt_386 G d a0 l6 x125 M124 Q))))) :
    h_MM_lookAt_334 G d a0 l4 l6 k0 M Q := by
  unfold h_MM_lookAt_334
  obtain ⟨h122, h⟩ := h
  obtain ⟨h123, h⟩ := h
  refine wm_istore d_MM_lookAt_334 (by decide) (L' := [vr a0, vd, vd, vd, vi l4, vd, vi l6, vd, vi k0, vd]) rfl ?_
  refine wm_aload_n d_MM_lookAt_336 rfl rfl ?_
  refine gf_MM_57 rfl d_MM_lookAt_337 h122 ?_
  refine cf_MM_341 rfl d_MM_lookAt_340 h123 (Nat.le_of_ble_eq_true rfl) (Ci.mono h (fun x125 M124 h => ?_))
  obtain ⟨h126, hOM124, h⟩ := h
  refine wm_istore d_MM_lookAt_343 (by decide) (L' := [vr a0, vd, vd, vd, vi l4, vd, vi l6, vd, vi k0, vi x125]) rfl ?_
  refine wm_goto (tgt := 374) d_MM_lookAt_345 rfl ?_
  refine wm_iload d_MM_lookAt_374 rfl ?_
  refine wm_if_ne (tgt := 386) d_MM_lookAt_376 rfl hi_k0 (fun c128 => ?_) (fun c128 => ?_)
  · replace h := h.2 c128
    refine wm_less (L' := [vr a0, vd, vd, vd, vd, vd, vi l6, vd, vd, vi x125]) ⟨Or.inr rfl, Or.inl rfl, Or.inl rfl, Or.inl rfl, Or.inl rfl, Or.inl rfl, Or.inr rfl, Or.inl rfl, Or.inl rfl, Or.inr rfl, trivial⟩ ?_
    exact h
  · replace c128 := Classical.not_not.mp c128
    replace h := h.1 c128
    obtain ⟨h129, h⟩ := h
    refine wm_aload_n d_MM_lookAt_379 rfl rfl ?_
    refine wm_iconst d_MM_lookAt_380 ?_
    refine wm_iload d_MM_lookAt_381 rfl ?_
    refine cf_MM_351 rfl d_MM_lookAt_383 h129 (Nat.le_of_ble_eq_true rfl) (Cv.mono h (fun M130 h => ?_))
    obtain ⟨hOM130, h⟩ := h
    refine wm_less (L' := [vr a0, vd, vd, vd, vd, vd, vi l6, vd, vd, vi x125]) ⟨Or.inr rfl, Or.inl rfl, Or.inl rfl, Or.inl rfl, Or.inl rfl, Or.inl rfl, Or.inr rfl, Or.inl rfl, Or.inl rfl, Or.inr rfl, trivial⟩ ?_
    exact h
theorem k_MM_lookAt_386 {G : mG} {d : Nat} {a0 : Nat} {l6 : Int} {l9 : Int} {M : mM} {Q : mM → Prop} (hO : mOk M) (hi_l6 : i32 l6) (hi_l9 : i32 l9)
    (h : mK M a0 = 14 ∧ mK M (mR M a0 19) = 15 ∧ ∀ M135, M135 = mUI M (mR M a0 19) 1 l6 → mK M135 (mR M135 a0 19) = 15 ∧ Cv G y_MN_add d [vr (mR M135 a0 19), vi l9] M135 (fun M138 => mOk M138 ∧ (Q M138))) :
    h_MM_lookAt_386 G d a0 l6 l9 M Q := by
  unfold h_MM_lookAt_386
  obtain ⟨h133, h⟩ := h
  obtain ⟨h134, h⟩ := h
  obtain ⟨M135, e136⟩ : ∃ M135, M135 = mUI M (mR M a0 19) 1 l6 := ⟨_, rfl⟩
  replace h := h M135 e136
  obtain ⟨h137, h⟩ := h
  refine wm_aload_n d_MM_lookAt_386 rfl rfl ?_
  refine gf_MM_57 rfl d_MM_lookAt_387 h133 ?_
  refine wm_iload d_MM_lookAt_390 rfl ?_
  have hOM135 : mOk M135 := by rw [e136]; exact mOk_UI hO hi_l6
  refine pf_MM_145 rfl d_MM_lookAt_392 h134 hi_l6 e136 ?_
  refine wm_aload_n d_MM_lookAt_395 rfl rfl ?_
  refine gf_MM_57 rfl d_MM_lookAt_396 (by rw [e136]; exact h133) ?_
  refine wm_iload d_MM_lookAt_399 rfl ?_
  refine cf_MM_152 rfl d_MM_lookAt_401 h137 (Nat.le_of_ble_eq_true rfl) (Cv.mono h (fun M138 h => ?_))
  obtain ⟨hOM138, h⟩ := h
  refine wm_return d_MM_lookAt_404 rfl ?_
  exact ⟨rfl, h⟩
theorem d_MM_lookUp_0 : decode y_MM_lookUp.2.1 0 = .ok (.aload_n 0, 1) := dc9_42 (by decide +kernel)
theorem d_MM_lookUp_1 : decode y_MM_lookUp.2.1 1 = .ok (.aload_n 0, 1) := dc9_42 (by decide +kernel)
theorem d_MM_lookUp_2 : decode y_MM_lookUp.2.1 2 = .ok (.getfield 38, 3) := dc9_180 (by decide +kernel)
theorem d_MM_lookUp_5 : decode y_MM_lookUp.2.1 5 = .ok (.getfield 284, 3) := dc9_180 (by decide +kernel)
theorem d_MM_lookUp_8 : decode y_MM_lookUp.2.1 8 = .ok (.iload_n 1, 1) := dc9_27 (by decide +kernel)
theorem d_MM_lookUp_9 : decode y_MM_lookUp.2.1 9 = .ok (.invokevirtual 155, 3) := dc9_182 (by decide +kernel)
theorem d_MM_lookUp_12 : decode y_MM_lookUp.2.1 12 = .ok (.invokevirtual 354, 3) := dc9_182 (by decide +kernel)
theorem d_MM_lookUp_15 : decode y_MM_lookUp.2.1 15 = .ok (.istore_n 3, 1) := dc9_62 (by decide +kernel)
theorem d_MM_lookUp_16 : decode y_MM_lookUp.2.1 16 = .ok (.iload_n 3, 1) := dc9_29 (by decide +kernel)
theorem d_MM_lookUp_17 : decode y_MM_lookUp.2.1 17 = .ok (.ifCond .lt 19, 3) := dc9_155 (by decide +kernel)
theorem d_MM_lookUp_20 : decode y_MM_lookUp.2.1 20 = .ok (.iload_n 2, 1) := dc9_28 (by decide +kernel)
theorem d_MM_lookUp_21 : decode y_MM_lookUp.2.1 21 = .ok (.ifCond .eq 33, 3) := dc9_153 (by decide +kernel)
theorem d_MM_lookUp_24 : decode y_MM_lookUp.2.1 24 = .ok (.aload_n 0, 1) := dc9_42 (by decide +kernel)
theorem d_MM_lookUp_25 : decode y_MM_lookUp.2.1 25 = .ok (.getfield 48, 3) := dc9_180 (by decide +kernel)
theorem d_MM_lookUp_28 : decode y_MM_lookUp.2.1 28 = .ok (.iload_n 3, 1) := dc9_29 (by decide +kernel)
theorem d_MM_lookUp_36 : decode y_MM_lookUp.2.1 36 = .ok (.aload_n 0, 1) := dc9_42 (by decide +kernel)
theorem d_MM_lookUp_37 : decode y_MM_lookUp.2.1 37 = .ok (.iconst 2, 1) := dc9_5 (by decide +kernel)
theorem d_MM_lookUp_38 : decode y_MM_lookUp.2.1 38 = .ok (.aload_n 0, 1) := dc9_42 (by decide +kernel)
theorem d_MM_lookUp_39 : decode y_MM_lookUp.2.1 39 = .ok (.getfield 38, 3) := dc9_180 (by decide +kernel)
theorem d_MM_lookUp_42 : decode y_MM_lookUp.2.1 42 = .ok (.getfield 276, 3) := dc9_180 (by decide +kernel)
theorem d_MM_lookUp_45 : decode y_MM_lookUp.2.1 45 = .ok (.iload_n 1, 1) := dc9_27 (by decide +kernel)
theorem d_MM_lookUp_46 : decode y_MM_lookUp.2.1 46 = .ok (.invokevirtual 155, 3) := dc9_182 (by decide +kernel)
theorem d_MM_lookUp_49 : decode y_MM_lookUp.2.1 49 = .ok (.invokevirtual 351, 3) := dc9_182 (by decide +kernel)
theorem d_MM_lookUp_52 : decode y_MM_lookUp.2.1 52 = .ok (.iconst 0, 1) := dc9_3 (by decide +kernel)
theorem d_MM_lookUp_53 : decode y_MM_lookUp.2.1 53 = .ok (.ireturn, 1) := dc9_172 (by decide +kernel)
theorem d_MM_lookUp_54 : decode y_MM_lookUp.2.1 54 = .ok (.aload_n 0, 1) := dc9_42 (by decide +kernel)
theorem d_MM_lookUp_55 : decode y_MM_lookUp.2.1 55 = .ok (.getfield 51, 3) := dc9_180 (by decide +kernel)
theorem d_MM_lookUp_58 : decode y_MM_lookUp.2.1 58 = .ok (.iload_n 3, 1) := dc9_29 (by decide +kernel)
theorem d_MM_lookUp_59 : decode y_MM_lookUp.2.1 59 = .ok (.invokevirtual 155, 3) := dc9_182 (by decide +kernel)
theorem d_MM_lookUp_62 : decode y_MM_lookUp.2.1 62 = .ok (.istore 4, 2) := dc9_54 (by decide +kernel)
theorem d_MM_lookUp_64 : decode y_MM_lookUp.2.1 64 = .ok (.aload_n 0, 1) := dc9_42 (by decide +kernel)
theorem d_MM_lookUp_65 : decode y_MM_lookUp.2.1 65 = .ok (.getfield 38, 3) := dc9_180 (by decide +kernel)
theorem d_MM_lookUp_68 : decode y_MM_lookUp.2.1 68 = .ok (.getfield 284, 3) := dc9_180 (by decide +kernel)
theorem d_MM_lookUp_71 : decode y_MM_lookUp.2.1 71 = .ok (.getfield 293, 3) := dc9_180 (by decide +kernel)
theorem d_MM_lookUp_74 : decode y_MM_lookUp.2.1 74 = .ok (.iload_n 1, 1) := dc9_27 (by decide +kernel)
theorem d_MM_lookUp_75 : decode y_MM_lookUp.2.1 75 = .ok (.aload_n 0, 1) := dc9_42 (by decide +kernel)
theorem d_MM_lookUp_76 : decode y_MM_lookUp.2.1 76 = .ok (.getfield 48, 3) := dc9_180 (by decide +kernel)
theorem d_MM_lookUp_79 : decode y_MM_lookUp.2.1 79 = .ok (.iload_n 3, 1) := dc9_29 (by decide +kernel)
theorem d_MM_lookUp_80 : decode y_MM_lookUp.2.1 80 = .ok (.invokevirtual 155, 3) := dc9_182 (by decide +kernel)
theorem d_MM_lookUp_83 : decode y_MM_lookUp.2.1 83 = .ok (.iconst 3, 1) := dc9_6 (by decide +kernel)
theorem d_MM_lookUp_84 : decode y_MM_lookUp.2.1 84 = .ok (.if_icmp .ne 11, 3) := dc9_160 (by decide +kernel)
theorem d_MM_lookUp_87 : decode y_MM_lookUp.2.1 87 = .ok (.bipush 100, 2) := dc9_16 (by decide +kernel)
theorem d_MM_lookUp_89 : decode y_MM_lookUp.2.1 89 = .ok (.iload 4, 2) := dc9_21 (by decide +kernel)
theorem d_MM_lookUp_91 : decode y_MM_lookUp.2.1 91 = .ok (.iadd, 1) := dc9_96 (by decide +kernel)
theorem d_MM_lookUp_92 : decode y_MM_lookUp.2.1 92 = .ok (.goto 5, 3) := dc9_167 (by decide +kernel)
theorem d_MM_lookUp_95 : decode y_MM_lookUp.2.1 95 = .ok (.iload 4, 2) := dc9_21 (by decide +kernel)
theorem d_MM_lookUp_97 : decode y_MM_lookUp.2.1 97 = .ok (.iastore, 1) := dc9_79 (by decide +kernel)
theorem d_MM_lookUp_98 : decode y_MM_lookUp.2.1 98 = .ok (.aload_n 0, 1) := dc9_42 (by decide +kernel)
theorem d_MM_lookUp_99 : decode y_MM_lookUp.2.1 99 = .ok (.getfield 48, 3) := dc9_180 (by decide +kernel)
theorem d_MM_lookUp_102 : decode y_MM_lookUp.2.1 102 = .ok (.iload_n 3, 1) := dc9_29 (by decide +kernel)
theorem d_MM_lookUp_103 : decode y_MM_lookUp.2.1 103 = .ok (.invokevirtual 155, 3) := dc9_182 (by decide +kernel)
theorem d_MM_lookUp_106 : decode y_MM_lookUp.2.1 106 = .ok (.iconst 3, 1) := dc9_6 (by decide +kernel)
theorem d_MM_lookUp_107 : decode y_MM_lookUp.2.1 107 = .ok (.if_icmp .ne 16, 3) := dc9_160 (by decide +kernel)
theorem d_MM_lookUp_110 : decode y_MM_lookUp.2.1 110 = .ok (.aload_n 0, 1) := dc9_42 (by decide +kernel)
theorem d_MM_lookUp_111 : decode y_MM_lookUp.2.1 111 = .ok (.getfield 38, 3) := dc9_180 (by decide +kernel)
theorem d_MM_lookUp_114 : decode y_MM_lookUp.2.1 114 = .ok (.getfield 357, 3) := dc9_180 (by decide +kernel)
theorem d_MM_lookUp_117 : decode y_MM_lookUp.2.1 117 = .ok (.iload 4, 2) := dc9_21 (by decide +kernel)
theorem d_MM_lookUp_119 : decode y_MM_lookUp.2.1 119 = .ok (.baload, 1) := dc9_51 (by decide +kernel)
theorem d_MM_lookUp_120 : decode y_MM_lookUp.2.1 120 = .ok (.goto 13, 3) := dc9_167 (by decide +kernel)
theorem d_MM_lookUp_123 : decode y_MM_lookUp.2.1 123 = .ok (.aload_n 0, 1) := dc9_42 (by decide +kernel)
theorem d_MM_lookUp_124 : decode y_MM_lookUp.2.1 124 = .ok (.getfield 38, 3) := dc9_180 (by decide +kernel)
theorem d_MM_lookUp_127 : decode y_MM_lookUp.2.1 127 = .ok (.getfield 360, 3) := dc9_180 (by decide +kernel)
theorem d_MM_lookUp_130 : decode y_MM_lookUp.2.1 130 = .ok (.iload 4, 2) := dc9_21 (by decide +kernel)
theorem d_MM_lookUp_132 : decode y_MM_lookUp.2.1 132 = .ok (.baload, 1) := dc9_51 (by decide +kernel)
theorem d_MM_lookUp_133 : decode y_MM_lookUp.2.1 133 = .ok (.istore 5, 2) := dc9_54 (by decide +kernel)
theorem d_MM_lookUp_135 : decode y_MM_lookUp.2.1 135 = .ok (.iload 5, 2) := dc9_21 (by decide +kernel)
theorem d_MM_lookUp_137 : decode y_MM_lookUp.2.1 137 = .ok (.ifCond .eq 7, 3) := dc9_153 (by decide +kernel)
theorem d_MM_lookUp_144 : decode y_MM_lookUp.2.1 144 = .ok (.iconst 0, 1) := dc9_3 (by decide +kernel)
theorem d_MM_lookUp_140 : decode y_MM_lookUp.2.1 140 = .ok (.iconst 1, 1) := dc9_4 (by decide +kernel)
theorem d_MM_lookUp_141 : decode y_MM_lookUp.2.1 141 = .ok (.goto 4, 3) := dc9_167 (by decide +kernel)
theorem d_MM_lookUp_145 : decode y_MM_lookUp.2.1 145 = .ok (.ireturn, 1) := dc9_172 (by decide +kernel)
theorem d_MM_lookUp_29 : decode y_MM_lookUp.2.1 29 = .ok (.invokevirtual 155, 3) := dc9_182 (by decide +kernel)
theorem d_MM_lookUp_32 : decode y_MM_lookUp.2.1 32 = .ok (.iconst 1, 1) := dc9_4 (by decide +kernel)
theorem d_MM_lookUp_33 : decode y_MM_lookUp.2.1 33 = .ok (.if_icmp .eq 21, 3) := dc9_159 (by decide +kernel)
theorem k_MM_lookUp {G : mG} {d : Nat} {a0 : Nat} {l1 : Int} {l2 : Int} {M : mM} {Q : Int → mM → Prop} (hO : mOk M) (hi_l1 : i32 l1) (hi_l2 : i32 l2)
    (h : mK M a0 = 14 ∧ mK M (mR M a0 10) = 16 ∧ mK M (mR M (mR M a0 10) 3) = 15 ∧ Ci G y_MN_at d [vr (mR M (mR M a0 10) 3), vi l1] M (fun x5 M4 => i32 x5 ∧ mOk M4 ∧ (mK M4 a0 = 14 ∧ Ci G y_MM_find d [vr a0, vi x5] M4 (fun x9 M8 => i32 x9 ∧ mOk M8 ∧ (((x9 < 0) → (mK M8 a0 = 14 ∧ mK M8 (mR M8 a0 10) = 16 ∧ mK M8 (mR M8 (mR M8 a0 10) 1) = 15 ∧ Ci G y_MN_at d [vr (mR M8 (mR M8 a0 10) 1), vi l1] M8 (fun x18 M17 => i32 x18 ∧ mOk M17 ∧ (mK M17 a0 = 14 ∧ Cv G y_MM_stop d [vr a0, vi 2, vi x18] M17 (fun M21 => mOk M21 ∧ (Q 0 M21)))))) ∧ (¬ (x9 < 0) → (((l2 = 0) → (mK M8 a0 = 14 ∧ mK M8 (mR M8 a0 15) = 15 ∧ Ci G y_MN_at d [vr (mR M8 a0 15), vi x9] M8 (fun x29 M28 => i32 x29 ∧ mOk M28 ∧ (mK M28 a0 = 14 ∧ mK M28 (mR M28 a0 10) = 16 ∧ mK M28 (mR M28 (mR M28 a0 10) 3) = 15 ∧ mK M28 (mR M28 a0 14) = 15 ∧ Ci G y_MN_at d [vr (mR M28 a0 14), vi x9] M28 (fun x36 M35 => i32 x36 ∧ mOk M35 ∧ (∀ v39 : Int, v39 = (if (x36 = 3) then 100 + x29 else x29) → mK M35 (mR M28 (mR M28 (mR M28 a0 10) 3) 0) = 30 ∧ ((0 : Int) ≤ l1 ∧ l1 < (mN M35 (mR M28 (mR M28 (mR M28 a0 10) 3) 0) : Int)) ∧ i32 v39 ∧ ∀ M45, M45 = mUI M35 (mR M28 (mR M28 (mR M28 a0 10) 3) 0) (Int.toNat l1) v39 → mK M45 a0 = 14 ∧ mK M45 (mR M45 a0 14) = 15 ∧ Ci G y_MN_at d [vr (mR M45 a0 14), vi x9] M45 (fun x50 M49 => i32 x50 ∧ mOk M49 ∧ ((((x50 = 3) → (mK M49 a0 = 14 ∧ mK M49 (mR M49 a0 10) = 16 ∧ mK M49 (mR M49 (mR M49 a0 10) 13) = 31 ∧ ((0 : Int) ≤ x29 ∧ x29 < (mN M49 (mR M49 (mR M49 a0 10) 13) : Int)))) ∧ (¬ (x50 = 3) → (mK M49 a0 = 14 ∧ mK M49 (mR M49 a0 10) = 16 ∧ mK M49 (mR M49 (mR M49 a0 10) 8) = 31 ∧ ((0 : Int) ≤ x29 ∧ x29 < (mN M49 (mR M49 (mR M49 a0 10) 8) : Int))))) ∧ ∀ v61 : Int, v61 = (if (x50 = 3) then mI M49 (mR M49 (mR M49 a0 10) 13) (Int.toNat x29) else mI M49 (mR M49 (mR M49 a0 10) 8) (Int.toNat x29)) → i32 v61 ∧ ∀ v66 : Int, v66 = (if (v61 = 0) then 0 else 1) → Q v66 M49)))))))) ∧ (¬ (l2 = 0) → (mK M8 a0 = 14 ∧ mK M8 (mR M8 a0 14) = 15 ∧ Ci G y_MN_at d [vr (mR M8 a0 14), vi x9] M8 (fun x79 M78 => i32 x79 ∧ mOk M78 ∧ (((x79 = 1) → (mK M78 a0 = 14 ∧ mK M78 (mR M78 a0 15) = 15 ∧ Ci G y_MN_at d [vr (mR M78 a0 15), vi x9] M78 (fun x86 M85 => i32 x86 ∧ mOk M85 ∧ (mK M85 a0 = 14 ∧ mK M85 (mR M85 a0 10) = 16 ∧ mK M85 (mR M85 (mR M85 a0 10) 3) = 15 ∧ mK M85 (mR M85 a0 14) = 15 ∧ Ci G y_MN_at d [vr (mR M85 a0 14), vi x9] M85 (fun x93 M92 => i32 x93 ∧ mOk M92 ∧ (∀ v96 : Int, v96 = (if (x93 = 3) then 100 + x86 else x86) → mK M92 (mR M85 (mR M85 (mR M85 a0 10) 3) 0) = 30 ∧ ((0 : Int) ≤ l1 ∧ l1 < (mN M92 (mR M85 (mR M85 (mR M85 a0 10) 3) 0) : Int)) ∧ i32 v96 ∧ ∀ M102, M102 = mUI M92 (mR M85 (mR M85 (mR M85 a0 10) 3) 0) (Int.toNat l1) v96 → mK M102 a0 = 14 ∧ mK M102 (mR M102 a0 14) = 15 ∧ Ci G y_MN_at d [vr (mR M102 a0 14), vi x9] M102 (fun x107 M106 => i32 x107 ∧ mOk M106 ∧ ((((x107 = 3) → (mK M106 a0 = 14 ∧ mK M106 (mR M106 a0 10) = 16 ∧ mK M106 (mR M106 (mR M106 a0 10) 13) = 31 ∧ ((0 : Int) ≤ x86 ∧ x86 < (mN M106 (mR M106 (mR M106 a0 10) 13) : Int)))) ∧ (¬ (x107 = 3) → (mK M106 a0 = 14 ∧ mK M106 (mR M106 a0 10) = 16 ∧ mK M106 (mR M106 (mR M106 a0 10) 8) = 31 ∧ ((0 : Int) ≤ x86 ∧ x86 < (mN M106 (mR M106 (mR M106 a0 10) 8) : Int))))) ∧ ∀ v118 : Int, v118 = (if (x107 = 3) then mI M106 (mR M106 (mR M106 a0 10) 13) (Int.toNat x86) else mI M106 (mR M106 (mR M106 a0 10) 8) (Int.toNat x86)) → i32 v118 ∧ ∀ v123 : Int, v123 = (if (v118 = 0) then 0 else 1) → Q v123 M106)))))))) ∧ (¬ (x79 = 1) → (mK M78 a0 = 14 ∧ mK M78 (mR M78 a0 10) = 16 ∧ mK M78 (mR M78 (mR M78 a0 10) 1) = 15 ∧ Ci G y_MN_at d [vr (mR M78 (mR M78 a0 10) 1), vi l1] M78 (fun x137 M136 => i32 x137 ∧ mOk M136 ∧ (mK M136 a0 = 14 ∧ Cv G y_MM_stop d [vr a0, vi 2, vi x137] M136 (fun M140 => mOk M140 ∧ (Q 0 M140))))))))))))))))) :
    Ci G y_MM_lookUp (d + 1) [vr a0, vi l1, vi l2] M Q := by
  refine wm_open (y := y_MM_lookUp) rfl (Nat.le_of_ble_eq_true rfl) (L := [vr a0, vi l1, vi l2, vd, vd, vd]) rfl ?_
  obtain ⟨h1, h⟩ := h
  obtain ⟨h2, h⟩ := h
  obtain ⟨h3, h⟩ := h
  refine wm_aload_n d_MM_lookUp_0 rfl rfl ?_
  refine wm_aload_n d_MM_lookUp_1 rfl rfl ?_
  refine gf_MM_38 rfl d_MM_lookUp_2 h1 ?_
  refine gf_MM_284 rfl d_MM_lookUp_5 h2 ?_
  refine wm_iload_n d_MM_lookUp_8 rfl rfl ?_
  refine cf_MM_155 rfl d_MM_lookUp_9 h3 (Nat.le_of_ble_eq_true rfl) (Ci.mono h (fun x5 M4 h => ?_))
  obtain ⟨h6, hOM4, h⟩ := h
  obtain ⟨h7, h⟩ := h
  refine cf_MM_354 rfl d_MM_lookUp_12 h7 (Nat.le_of_ble_eq_true rfl) (Ci.mono h (fun x9 M8 h => ?_))
  obtain ⟨h10, hOM8, h⟩ := h
  refine wm_istore_n d_MM_lookUp_15 rfl (by decide) (L' := [vr a0, vi l1, vi l2, vi x9, vd, vd]) rfl ?_
  refine wm_iload_n d_MM_lookUp_16 rfl rfl ?_
  refine wm_if_lt (tgt := 36) d_MM_lookUp_17 rfl h10 (fun c13 => ?_) (fun c13 => ?_)
  · replace h := h.1 c13
    obtain ⟨h14, h⟩ := h
    obtain ⟨h15, h⟩ := h
    obtain ⟨h16, h⟩ := h
    refine wm_aload_n d_MM_lookUp_36 rfl rfl ?_
    refine wm_iconst d_MM_lookUp_37 ?_
    refine wm_aload_n d_MM_lookUp_38 rfl rfl ?_
    refine gf_MM_38 rfl d_MM_lookUp_39 h14 ?_
    refine gf_MM_276 rfl d_MM_lookUp_42 h15 ?_
    refine wm_iload_n d_MM_lookUp_45 rfl rfl ?_
    refine cf_MM_155 rfl d_MM_lookUp_46 h16 (Nat.le_of_ble_eq_true rfl) (Ci.mono h (fun x18 M17 h => ?_))
    obtain ⟨h19, hOM17, h⟩ := h
    obtain ⟨h20, h⟩ := h
    refine cf_MM_351 rfl d_MM_lookUp_49 h20 (Nat.le_of_ble_eq_true rfl) (Cv.mono h (fun M21 h => ?_))
    obtain ⟨hOM21, h⟩ := h
    refine wm_iconst d_MM_lookUp_52 ?_
    refine wm_ireturn d_MM_lookUp_53 rfl rfl ?_
    exact ⟨_, rfl, h⟩
  · replace h := h.2 c13
    refine wm_iload_n d_MM_lookUp_20 rfl rfl ?_
    refine wm_if_eq (tgt := 54) d_MM_lookUp_21 rfl hi_l2 (fun c25 => ?_) (fun c25 => ?_)
    · replace h := h.1 c25
      obtain ⟨h26, h⟩ := h
      obtain ⟨h27, h⟩ := h
      refine wm_aload_n d_MM_lookUp_54 rfl rfl ?_
      refine gf_MM_51 rfl d_MM_lookUp_55 h26 ?_
      refine wm_iload_n d_MM_lookUp_58 rfl rfl ?_
      refine cf_MM_155 rfl d_MM_lookUp_59 h27 (Nat.le_of_ble_eq_true rfl) (Ci.mono h (fun x29 M28 h => ?_))
      obtain ⟨h30, hOM28, h⟩ := h
      obtain ⟨h31, h⟩ := h
      obtain ⟨h32, h⟩ := h
      obtain ⟨h33, h⟩ := h
      obtain ⟨h34, h⟩ := h
      refine wm_istore d_MM_lookUp_62 (by decide) (L' := [vr a0, vi l1, vi l2, vi x9, vi x29, vd]) rfl ?_
      refine wm_aload_n d_MM_lookUp_64 rfl rfl ?_
      refine gf_MM_38 rfl d_MM_lookUp_65 h31 ?_
      refine gf_MM_284 rfl d_MM_lookUp_68 h32 ?_
      refine gf_MM_293 rfl d_MM_lookUp_71 h33 ?_
      refine wm_iload_n d_MM_lookUp_74 rfl rfl ?_
      refine wm_aload_n d_MM_lookUp_75 rfl rfl ?_
      refine gf_MM_48 rfl d_MM_lookUp_76 h31 ?_
      refine wm_iload_n d_MM_lookUp_79 rfl rfl ?_
      refine cf_MM_155 rfl d_MM_lookUp_80 h34 (Nat.le_of_ble_eq_true rfl) (Ci.mono h (fun x36 M35 h => ?_))
      obtain ⟨h37, hOM35, h⟩ := h
      refine wm_iconst d_MM_lookUp_83 ?_
      have hJ : ∀ v39 : Int, v39 = (if (x36 = 3) then 100 + x29 else x29) → mWm G y_MM_lookUp (d + 1) 97 [vr a0, vd, vd, vi x9, vi x29, vd] [vi v39, vi l1, vr (mR M28 (mR M28 (mR M28 a0 10) 3) 0)] M35 (fun r9 M9 => ∃ x9, r9 = some (vi x9) ∧ Q x9 M9) := by
        intro v39 e41
        have h := h v39 e41
        obtain ⟨h42, h⟩ := h
        obtain ⟨h43, h⟩ := h
        obtain ⟨h44, h⟩ := h
        obtain ⟨M45, e46⟩ : ∃ M45, M45 = mUI M35 (mR M28 (mR M28 (mR M28 a0 10) 3) 0) (Int.toNat l1) v39 := ⟨_, rfl⟩
        replace h := h M45 e46
        obtain ⟨h47, h⟩ := h
        obtain ⟨h48, h⟩ := h
        have hOM45 : mOk M45 := by rw [e46]; exact mOk_UI hOM35 h44
        refine wm_iastE d_MM_lookUp_97 h42 h43 h44 e46 ?_
        refine wm_aload_n d_MM_lookUp_98 rfl rfl ?_
        refine gf_MM_48 rfl d_MM_lookUp_99 h47 ?_
        refine wm_iload_n d_MM_lookUp_102 rfl rfl ?_
        refine cf_MM_155 rfl d_MM_lookUp_103 h48 (Nat.le_of_ble_eq_true rfl) (Ci.mono h (fun x50 M49 h => ?_))
        obtain ⟨h51, hOM49, h⟩ := h
        refine wm_iconst d_MM_lookUp_106 ?_
        obtain ⟨s62, h⟩ := h
        have hJ : ∀ v61 : Int, v61 = (if (x50 = 3) then mI M49 (mR M49 (mR M49 a0 10) 13) (Int.toNat x29) else mI M49 (mR M49 (mR M49 a0 10) 8) (Int.toNat x29)) → mWm G y_MM_lookUp (d + 1) 133 [vd, vd, vd, vd, vd, vd] [vi v61] M49 (fun r9 M9 => ∃ x9, r9 = some (vi x9) ∧ Q x9 M9) := by
          intro v61 e63
          have h := h v61 e63
          obtain ⟨h64, h⟩ := h
          refine wm_istore d_MM_lookUp_133 (by decide) (L' := [vd, vd, vd, vd, vd, vi v61]) rfl ?_
          refine wm_iload d_MM_lookUp_135 rfl ?_
          have hJ : ∀ v66 : Int, v66 = (if (v61 = 0) then 0 else 1) → mWm G y_MM_lookUp (d + 1) 145 [vd, vd, vd, vd, vd, vd] [vi v66] M49 (fun r9 M9 => ∃ x9, r9 = some (vi x9) ∧ Q x9 M9) := by
            intro v66 e68
            have h := h v66 e68
            have h69 : i32 v66 := by rw [e68]; (repeat' split) <;> first | exact ⟨by decide, by decide⟩ | exact ⟨by decide, by decide⟩
            have h70 : (v66 = 0 ∨ v66 = 1) := by rw [e68]; (repeat' split) <;> decide
            refine wm_ireturn d_MM_lookUp_145 rfl rfl ?_
            exact ⟨_, rfl, h⟩
          clear h
          refine wm_if_eq (tgt := 144) d_MM_lookUp_137 rfl h64 (fun c65 => ?_) (fun c65 => ?_)
          · refine wm_iconst d_MM_lookUp_144 ?_
            refine wm_less (L' := [vd, vd, vd, vd, vd, vd]) ⟨Or.inl rfl, Or.inl rfl, Or.inl rfl, Or.inl rfl, Or.inl rfl, Or.inl rfl, trivial⟩ ?_
            exact hJ 0 (if_pos c65).symm
          · refine wm_iconst d_MM_lookUp_140 ?_
            refine wm_goto (tgt := 145) d_MM_lookUp_141 rfl ?_
            refine wm_less (L' := [vd, vd, vd, vd, vd, vd]) ⟨Or.inl rfl, Or.inl rfl, Or.inl rfl, Or.inl rfl, Or.inl rfl, Or.inl rfl, trivial⟩ ?_
            exact hJ 1 (if_neg c65).symm
        clear h
        obtain ⟨s72, s73⟩ := s62
        refine wm_icmp_ne (tgt := 123) d_MM_lookUp_107 rfl h51 ⟨by decide, by decide⟩ (fun c52 => ?_) (fun c52 => ?_)
        · have s73 := s73 c52
          obtain ⟨h57, h58, h59, h60⟩ := s73
          refine wm_aload_n d_MM_lookUp_123 rfl rfl ?_
          refine gf_MM_38 rfl d_MM_lookUp_124 h57 ?_
          refine gf_MM_360 rfl d_MM_lookUp_127 h58 ?_
          refine wm_iload d_MM_lookUp_130 rfl ?_
          refine wm_zald d_MM_lookUp_132 h59 h60 ?_
          refine wm_less (L' := [vd, vd, vd, vd, vd, vd]) ⟨Or.inl rfl, Or.inl rfl, Or.inl rfl, Or.inl rfl, Or.inl rfl, Or.inl rfl, trivial⟩ ?_
          exact hJ (mI M49 (mR M49 (mR M49 a0 10) 8) (Int.toNat x29)) (if_neg c52).symm
        · replace c52 := Classical.not_not.mp c52
          have s72 := s72 c52
          obtain ⟨h53, h54, h55, h56⟩ := s72
          refine wm_aload_n d_MM_lookUp_110 rfl rfl ?_
          refine gf_MM_38 rfl d_MM_lookUp_111 h53 ?_
          refine gf_MM_357 rfl d_MM_lookUp_114 h54 ?_
          refine wm_iload d_MM_lookUp_117 rfl ?_
          refine wm_zald d_MM_lookUp_119 h55 h56 ?_
          refine wm_goto (tgt := 133) d_MM_lookUp_120 rfl ?_
          refine wm_less (L' := [vd, vd, vd, vd, vd, vd]) ⟨Or.inl rfl, Or.inl rfl, Or.inl rfl, Or.inl rfl, Or.inl rfl, Or.inl rfl, trivial⟩ ?_
          exact hJ (mI M49 (mR M49 (mR M49 a0 10) 13) (Int.toNat x29)) (if_pos c52).symm
      clear h
      refine wm_icmp_ne (tgt := 95) d_MM_lookUp_84 rfl h37 ⟨by decide, by decide⟩ (fun c38 => ?_) (fun c38 => ?_)
      · refine wm_iload d_MM_lookUp_95 rfl ?_
        refine wm_less (L' := [vr a0, vd, vd, vi x9, vi x29, vd]) ⟨Or.inr rfl, Or.inl rfl, Or.inl rfl, Or.inr rfl, Or.inr rfl, Or.inl rfl, trivial⟩ ?_
        exact hJ x29 (if_neg c38).symm
      · replace c38 := Classical.not_not.mp c38
        refine wm_bipush d_MM_lookUp_87 (by decide) ?_
        refine wm_iload d_MM_lookUp_89 rfl ?_
        refine wm_iadd d_MM_lookUp_91 ?_
        refine wm_goto (tgt := 97) d_MM_lookUp_92 rfl ?_
        refine wm_less (L' := [vr a0, vd, vd, vi x9, vi x29, vd]) ⟨Or.inr rfl, Or.inl rfl, Or.inl rfl, Or.inr rfl, Or.inr rfl, Or.inl rfl, trivial⟩ ?_
        exact hJ (100 + x29) (if_pos c38).symm
    · replace h := h.2 c25
      obtain ⟨h76, h⟩ := h
      obtain ⟨h77, h⟩ := h
      refine wm_aload_n d_MM_lookUp_24 rfl rfl ?_
      refine gf_MM_48 rfl d_MM_lookUp_25 h76 ?_
      refine wm_iload_n d_MM_lookUp_28 rfl rfl ?_
      refine cf_MM_155 rfl d_MM_lookUp_29 h77 (Nat.le_of_ble_eq_true rfl) (Ci.mono h (fun x79 M78 h => ?_))
      obtain ⟨h80, hOM78, h⟩ := h
      refine wm_iconst d_MM_lookUp_32 ?_
      refine wm_icmp_eq (tgt := 54) d_MM_lookUp_33 rfl h80 ⟨by decide, by decide⟩ (fun c82 => ?_) (fun c82 => ?_)
      · replace h := h.1 c82
        obtain ⟨h83, h⟩ := h
        obtain ⟨h84, h⟩ := h
        refine wm_aload_n d_MM_lookUp_54 rfl rfl ?_
        refine gf_MM_51 rfl d_MM_lookUp_55 h83 ?_
        refine wm_iload_n d_MM_lookUp_58 rfl rfl ?_
        refine cf_MM_155 rfl d_MM_lookUp_59 h84 (Nat.le_of_ble_eq_true rfl) (Ci.mono h (fun x86 M85 h => ?_))
        obtain ⟨h87, hOM85, h⟩ := h
        obtain ⟨h88, h⟩ := h
        obtain ⟨h89, h⟩ := h
        obtain ⟨h90, h⟩ := h
        obtain ⟨h91, h⟩ := h
        refine wm_istore d_MM_lookUp_62 (by decide) (L' := [vr a0, vi l1, vi l2, vi x9, vi x86, vd]) rfl ?_
        refine wm_aload_n d_MM_lookUp_64 rfl rfl ?_
        refine gf_MM_38 rfl d_MM_lookUp_65 h88 ?_
        refine gf_MM_284 rfl d_MM_lookUp_68 h89 ?_
        refine gf_MM_293 rfl d_MM_lookUp_71 h90 ?_
        refine wm_iload_n d_MM_lookUp_74 rfl rfl ?_
        refine wm_aload_n d_MM_lookUp_75 rfl rfl ?_
        refine gf_MM_48 rfl d_MM_lookUp_76 h88 ?_
        refine wm_iload_n d_MM_lookUp_79 rfl rfl ?_
        refine cf_MM_155 rfl d_MM_lookUp_80 h91 (Nat.le_of_ble_eq_true rfl) (Ci.mono h (fun x93 M92 h => ?_))
        obtain ⟨h94, hOM92, h⟩ := h
        refine wm_iconst d_MM_lookUp_83 ?_
        have hJ : ∀ v96 : Int, v96 = (if (x93 = 3) then 100 + x86 else x86) → mWm G y_MM_lookUp (d + 1) 97 [vr a0, vd, vd, vi x9, vi x86, vd] [vi v96, vi l1, vr (mR M85 (mR M85 (mR M85 a0 10) 3) 0)] M92 (fun r9 M9 => ∃ x9, r9 = some (vi x9) ∧ Q x9 M9) := by
          intro v96 e98
          have h := h v96 e98
          obtain ⟨h99, h⟩ := h
          obtain ⟨h100, h⟩ := h
          obtain ⟨h101, h⟩ := h
          obtain ⟨M102, e103⟩ : ∃ M102, M102 = mUI M92 (mR M85 (mR M85 (mR M85 a0 10) 3) 0) (Int.toNat l1) v96 := ⟨_, rfl⟩
          replace h := h M102 e103
          obtain ⟨h104, h⟩ := h
          obtain ⟨h105, h⟩ := h
          have hOM102 : mOk M102 := by rw [e103]; exact mOk_UI hOM92 h101
          refine wm_iastE d_MM_lookUp_97 h99 h100 h101 e103 ?_
          refine wm_aload_n d_MM_lookUp_98 rfl rfl ?_
          refine gf_MM_48 rfl d_MM_lookUp_99 h104 ?_
          refine wm_iload_n d_MM_lookUp_102 rfl rfl ?_
          refine cf_MM_155 rfl d_MM_lookUp_103 h105 (Nat.le_of_ble_eq_true rfl) (Ci.mono h (fun x107 M106 h => ?_))
          obtain ⟨h108, hOM106, h⟩ := h
          refine wm_iconst d_MM_lookUp_106 ?_
          obtain ⟨s119, h⟩ := h
          have hJ : ∀ v118 : Int, v118 = (if (x107 = 3) then mI M106 (mR M106 (mR M106 a0 10) 13) (Int.toNat x86) else mI M106 (mR M106 (mR M106 a0 10) 8) (Int.toNat x86)) → mWm G y_MM_lookUp (d + 1) 133 [vd, vd, vd, vd, vd, vd] [vi v118] M106 (fun r9 M9 => ∃ x9, r9 = some (vi x9) ∧ Q x9 M9) := by
            intro v118 e120
            have h := h v118 e120
            obtain ⟨h121, h⟩ := h
            refine wm_istore d_MM_lookUp_133 (by decide) (L' := [vd, vd, vd, vd, vd, vi v118]) rfl ?_
            refine wm_iload d_MM_lookUp_135 rfl ?_
            have hJ : ∀ v123 : Int, v123 = (if (v118 = 0) then 0 else 1) → mWm G y_MM_lookUp (d + 1) 145 [vd, vd, vd, vd, vd, vd] [vi v123] M106 (fun r9 M9 => ∃ x9, r9 = some (vi x9) ∧ Q x9 M9) := by
              intro v123 e125
              have h := h v123 e125
              have h126 : i32 v123 := by rw [e125]; (repeat' split) <;> first | exact ⟨by decide, by decide⟩ | exact ⟨by decide, by decide⟩
              have h127 : (v123 = 0 ∨ v123 = 1) := by rw [e125]; (repeat' split) <;> decide
              refine wm_ireturn d_MM_lookUp_145 rfl rfl ?_
              exact ⟨_, rfl, h⟩
            clear h
            refine wm_if_eq (tgt := 144) d_MM_lookUp_137 rfl h121 (fun c122 => ?_) (fun c122 => ?_)
            · refine wm_iconst d_MM_lookUp_144 ?_
              refine wm_less (L' := [vd, vd, vd, vd, vd, vd]) ⟨Or.inl rfl, Or.inl rfl, Or.inl rfl, Or.inl rfl, Or.inl rfl, Or.inl rfl, trivial⟩ ?_
              exact hJ 0 (if_pos c122).symm
            · refine wm_iconst d_MM_lookUp_140 ?_
              refine wm_goto (tgt := 145) d_MM_lookUp_141 rfl ?_
              refine wm_less (L' := [vd, vd, vd, vd, vd, vd]) ⟨Or.inl rfl, Or.inl rfl, Or.inl rfl, Or.inl rfl, Or.inl rfl, Or.inl rfl, trivial⟩ ?_
              exact hJ 1 (if_neg c122).symm
          clear h
          obtain ⟨s129, s130⟩ := s119
          refine wm_icmp_ne (tgt := 123) d_MM_lookUp_107 rfl h108 ⟨by decide, by decide⟩ (fun c109 => ?_) (fun c109 => ?_)
          · have s130 := s130 c109
            obtain ⟨h114, h115, h116, h117⟩ := s130
            refine wm_aload_n d_MM_lookUp_123 rfl rfl ?_
            refine gf_MM_38 rfl d_MM_lookUp_124 h114 ?_
            refine gf_MM_360 rfl d_MM_lookUp_127 h115 ?_
            refine wm_iload d_MM_lookUp_130 rfl ?_
            refine wm_zald d_MM_lookUp_132 h116 h117 ?_
            refine wm_less (L' := [vd, vd, vd, vd, vd, vd]) ⟨Or.inl rfl, Or.inl rfl, Or.inl rfl, Or.inl rfl, Or.inl rfl, Or.inl rfl, trivial⟩ ?_
            exact hJ (mI M106 (mR M106 (mR M106 a0 10) 8) (Int.toNat x86)) (if_neg c109).symm
          · replace c109 := Classical.not_not.mp c109
            have s129 := s129 c109
            obtain ⟨h110, h111, h112, h113⟩ := s129
            refine wm_aload_n d_MM_lookUp_110 rfl rfl ?_
            refine gf_MM_38 rfl d_MM_lookUp_111 h110 ?_
            refine gf_MM_357 rfl d_MM_lookUp_114 h111 ?_
            refine wm_iload d_MM_lookUp_117 rfl ?_
            refine wm_zald d_MM_lookUp_119 h112 h113 ?_
            refine wm_goto (tgt := 133) d_MM_lookUp_120 rfl ?_
            refine wm_less (L' := [vd, vd, vd, vd, vd, vd]) ⟨Or.inl rfl, Or.inl rfl, Or.inl rfl, Or.inl rfl, Or.inl rfl, Or.inl rfl, trivial⟩ ?_
            exact hJ (mI M106 (mR M106 (mR M106 a0 10) 13) (Int.toNat x86)) (if_pos c109).symm
        clear h
        refine wm_icmp_ne (tgt := 95) d_MM_lookUp_84 rfl h94 ⟨by decide, by decide⟩ (fun c95 => ?_) (fun c95 => ?_)
        · refine wm_iload d_MM_lookUp_95 rfl ?_
          refine wm_less (L' := [vr a0, vd, vd, vi x9, vi x86, vd]) ⟨Or.inr rfl, Or.inl rfl, Or.inl rfl, Or.inr rfl, Or.inr rfl, Or.inl rfl, trivial⟩ ?_
          exact hJ x86 (if_neg c95).symm
        · replace c95 := Classical.not_not.mp c95
          refine wm_bipush d_MM_lookUp_87 (by decide) ?_
          refine wm_iload d_MM_lookUp_89 rfl ?_
          refine wm_iadd d_MM_lookUp_91 ?_
          refine wm_goto (tgt := 97) d_MM_lookUp_92 rfl ?_
          refine wm_less (L' := [vr a0, vd, vd, vi x9, vi x86, vd]) ⟨Or.inr rfl, Or.inl rfl, Or.inl rfl, Or.inr rfl, Or.inr rfl, Or.inl rfl, trivial⟩ ?_
          exact hJ (100 + x86) (if_pos c95).symm
      · replace h := h.2 c82
        obtain ⟨h133, h⟩ := h
        obtain ⟨h134, h⟩ := h
        obtain ⟨h135, h⟩ := h
        refine wm_aload_n d_MM_lookUp_36 rfl rfl ?_
        refine wm_iconst d_MM_lookUp_37 ?_
        refine wm_aload_n d_MM_lookUp_38 rfl rfl ?_
        refine gf_MM_38 rfl d_MM_lookUp_39 h133 ?_
        refine gf_MM_276 rfl d_MM_lookUp_42 h134 ?_
        refine wm_iload_n d_MM_lookUp_45 rfl rfl ?_
        refine cf_MM_155 rfl d_MM_lookUp_46 h135 (Nat.le_of_ble_eq_true rfl) (Ci.mono h (fun x137 M136 h => ?_))
        obtain ⟨h138, hOM136, h⟩ := h
        obtain ⟨h139, h⟩ := h
        refine cf_MM_351 rfl d_MM_lookUp_49 h139 (Nat.le_of_ble_eq_true rfl) (Cv.mono h (fun M140 h => ?_))
        obtain ⟨hOM140, h⟩ := h
        refine wm_iconst d_MM_lookUp_52 ?_
        refine wm_ireturn d_MM_lookUp_53 rfl rfl ?_
        exact ⟨_, rfl, h⟩
theorem d_MM_rule1_0 : decode y_MM_rule1.2.1 0 = .ok (.aload_n 0, 1) := dc9_42 (by decide +kernel)
theorem d_MM_rule1_1 : decode y_MM_rule1.2.1 1 = .ok (.iload_n 1, 1) := dc9_27 (by decide +kernel)
theorem d_MM_rule1_2 : decode y_MM_rule1.2.1 2 = .ok (.iload_n 2, 1) := dc9_28 (by decide +kernel)
theorem d_MM_rule1_3 : decode y_MM_rule1.2.1 3 = .ok (.invokevirtual 363, 3) := dc9_182 (by decide +kernel)
theorem d_MM_rule1_6 : decode y_MM_rule1.2.1 6 = .ok (.istore 5, 2) := dc9_54 (by decide +kernel)
theorem d_MM_rule1_8 : decode y_MM_rule1.2.1 8 = .ok (.aload_n 0, 1) := dc9_42 (by decide +kernel)
theorem d_MM_rule1_9 : decode y_MM_rule1.2.1 9 = .ok (.iload 5, 2) := dc9_21 (by decide +kernel)
theorem d_MM_rule1_11 : decode y_MM_rule1.2.1 11 = .ok (.iload 4, 2) := dc9_21 (by decide +kernel)
theorem d_MM_rule1_13 : decode y_MM_rule1.2.1 13 = .ok (.invokevirtual 366, 3) := dc9_182 (by decide +kernel)
theorem d_MM_rule1_16 : decode y_MM_rule1.2.1 16 = .ok (.istore 6, 2) := dc9_54 (by decide +kernel)
theorem d_MM_rule1_18 : decode y_MM_rule1.2.1 18 = .ok (.aload_n 0, 1) := dc9_42 (by decide +kernel)
theorem d_MM_rule1_19 : decode y_MM_rule1.2.1 19 = .ok (.getfield 267, 3) := dc9_180 (by decide +kernel)
theorem d_MM_rule1_22 : decode y_MM_rule1.2.1 22 = .ok (.ifCond .ne 19, 3) := dc9_154 (by decide +kernel)
theorem d_MM_rule1_25 : decode y_MM_rule1.2.1 25 = .ok (.iload 6, 2) := dc9_21 (by decide +kernel)
theorem d_MM_rule1_27 : decode y_MM_rule1.2.1 27 = .ok (.iload_n 3, 1) := dc9_29 (by decide +kernel)
theorem d_MM_rule1_28 : decode y_MM_rule1.2.1 28 = .ok (.if_icmp .eq 13, 3) := dc9_159 (by decide +kernel)
theorem d_MM_rule1_31 : decode y_MM_rule1.2.1 31 = .ok (.aload_n 0, 1) := dc9_42 (by decide +kernel)
theorem d_MM_rule1_32 : decode y_MM_rule1.2.1 32 = .ok (.iconst 3, 1) := dc9_6 (by decide +kernel)
theorem d_MM_rule1_33 : decode y_MM_rule1.2.1 33 = .ok (.aload_n 0, 1) := dc9_42 (by decide +kernel)
theorem d_MM_rule1_34 : decode y_MM_rule1.2.1 34 = .ok (.iload_n 1, 1) := dc9_27 (by decide +kernel)
theorem d_MM_rule1_41 : decode y_MM_rule1.2.1 41 = .ok (.iload 5, 2) := dc9_21 (by decide +kernel)
theorem d_MM_rule1_43 : decode y_MM_rule1.2.1 43 = .ok (.ireturn, 1) := dc9_172 (by decide +kernel)
theorem d_MM_rule1_35 : decode y_MM_rule1.2.1 35 = .ok (.invokevirtual 279, 3) := dc9_182 (by decide +kernel)
theorem d_MM_rule1_38 : decode y_MM_rule1.2.1 38 = .ok (.invokevirtual 351, 3) := dc9_182 (by decide +kernel)
theorem k_MM_rule1 {G : mG} {d : Nat} {a0 : Nat} {l1 : Int} {l2 : Int} {l3 : Int} {l4 : Int} {M : mM} {Q : Int → mM → Prop} (hO : mOk M) (hi_l1 : i32 l1) (hi_l2 : i32 l2) (hi_l3 : i32 l3) (hi_l4 : i32 l4)
    (h : mK M a0 = 14 ∧ Ci G y_MM_tree d [vr a0, vi l1, vi l2] M (fun x3 M2 => i32 x3 ∧ mOk M2 ∧ (mK M2 a0 = 14 ∧ Ci G y_MM_look d [vr a0, vi x3, vi l4] M2 (fun x7 M6 => i32 x7 ∧ mOk M6 ∧ (mK M6 a0 = 14 ∧ (((¬ (mI M6 a0 16 = 0)) ∨ (x7 = l3)) → (Q x3 M6)) ∧ (¬ ((¬ (mI M6 a0 16 = 0)) ∨ (x7 = l3)) → (Ci G y_MM_place0 d [vr a0, vi l1] M6 (fun x18 M17 => i32 x18 ∧ mOk M17 ∧ (mK M17 a0 = 14 ∧ Cv G y_MM_stop d [vr a0, vi 3, vi x18] M17 (fun M21 => mOk M21 ∧ (Q x3 M21))))))))))) :
    Ci G y_MM_rule1 (d + 1) [vr a0, vi l1, vi l2, vi l3, vi l4] M Q := by
  refine wm_open (y := y_MM_rule1) rfl (Nat.le_of_ble_eq_true rfl) (L := [vr a0, vi l1, vi l2, vi l3, vi l4, vd, vd]) rfl ?_
  obtain ⟨h1, h⟩ := h
  refine wm_aload_n d_MM_rule1_0 rfl rfl ?_
  refine wm_iload_n d_MM_rule1_1 rfl rfl ?_
  refine wm_iload_n d_MM_rule1_2 rfl rfl ?_
  refine cf_MM_363 rfl d_MM_rule1_3 h1 (Nat.le_of_ble_eq_true rfl) (Ci.mono h (fun x3 M2 h => ?_))
  obtain ⟨h4, hOM2, h⟩ := h
  obtain ⟨h5, h⟩ := h
  refine wm_istore d_MM_rule1_6 (by decide) (L' := [vr a0, vi l1, vi l2, vi l3, vi l4, vi x3, vd]) rfl ?_
  refine wm_aload_n d_MM_rule1_8 rfl rfl ?_
  refine wm_iload d_MM_rule1_9 rfl ?_
  refine wm_iload d_MM_rule1_11 rfl ?_
  refine cf_MM_366 rfl d_MM_rule1_13 h5 (Nat.le_of_ble_eq_true rfl) (Ci.mono h (fun x7 M6 h => ?_))
  obtain ⟨h8, hOM6, h⟩ := h
  obtain ⟨h9, h⟩ := h
  refine wm_istore d_MM_rule1_16 (by decide) (L' := [vr a0, vi l1, vi l2, vi l3, vi l4, vi x3, vi x7]) rfl ?_
  refine wm_aload_n d_MM_rule1_18 rfl rfl ?_
  refine gf_MM_267 rfl d_MM_rule1_19 h9 ?_
  have hE0 : ((¬ (mI M6 a0 16 = 0)) ∨ (x7 = l3)) → mWm G y_MM_rule1 (d + 1) 41 [vr a0, vi l1, vi l2, vi l3, vi l4, vi x3, vi x7] [] M6 (fun r9 M9 => ∃ x9, r9 = some (vi x9) ∧ Q x9 M9) := by
    intro q15
    have h := h.1 q15
    refine wm_iload d_MM_rule1_41 rfl ?_
    refine wm_ireturn d_MM_rule1_43 rfl rfl ?_
    exact ⟨_, rfl, h⟩
  have hE1 : ¬ ((¬ (mI M6 a0 16 = 0)) ∨ (x7 = l3)) → mWm G y_MM_rule1 (d + 1) 31 [vr a0, vi l1, vi l2, vi l3, vi l4, vi x3, vi x7] [] M6 (fun r9 M9 => ∃ x9, r9 = some (vi x9) ∧ Q x9 M9) := by
    intro q16
    have h := h.2 q16
    refine wm_aload_n d_MM_rule1_31 rfl rfl ?_
    refine wm_iconst d_MM_rule1_32 ?_
    refine wm_aload_n d_MM_rule1_33 rfl rfl ?_
    refine wm_iload_n d_MM_rule1_34 rfl rfl ?_
    refine cf_MM_279 rfl d_MM_rule1_35 h9 (Nat.le_of_ble_eq_true rfl) (Ci.mono h (fun x18 M17 h => ?_))
    obtain ⟨h19, hOM17, h⟩ := h
    obtain ⟨h20, h⟩ := h
    refine cf_MM_351 rfl d_MM_rule1_38 h20 (Nat.le_of_ble_eq_true rfl) (Cv.mono h (fun M21 h => ?_))
    obtain ⟨hOM21, h⟩ := h
    refine wm_iload d_MM_rule1_41 rfl ?_
    refine wm_ireturn d_MM_rule1_43 rfl rfl ?_
    exact ⟨_, rfl, h⟩
  clear h
  refine wm_if_ne (tgt := 41) d_MM_rule1_22 rfl (hOM6 _ _).1 (fun c13 => ?_) (fun c13 => ?_)
  · exact hE0 (Or.inl c13)
  · replace c13 := Classical.not_not.mp c13
    refine wm_iload d_MM_rule1_25 rfl ?_
    refine wm_iload_n d_MM_rule1_27 rfl rfl ?_
    refine wm_icmp_eq (tgt := 41) d_MM_rule1_28 rfl h8 hi_l3 (fun c12 => ?_) (fun c12 => ?_)
    · exact hE0 (Or.inr c12)
    · exact hE1 (fun z24 => Or.elim z24 (fun w => w c13) c12)
theorem d_MM_push_0 : decode y_MM_push.2.1 0 = .ok (.aload_n 0, 1) := dc9_42 (by decide +kernel)
theorem d_MM_push_1 : decode y_MM_push.2.1 1 = .ok (.getfield 63, 3) := dc9_180 (by decide +kernel)
theorem d_MM_push_4 : decode y_MM_push.2.1 4 = .ok (.aload_n 0, 1) := dc9_42 (by decide +kernel)
theorem d_MM_push_5 : decode y_MM_push.2.1 5 = .ok (.getfield 370, 3) := dc9_180 (by decide +kernel)
theorem d_MM_push_8 : decode y_MM_push.2.1 8 = .ok (.lload_n 1, 1) := dc9_31 (by decide +kernel)
theorem d_MM_push_9 : decode y_MM_push.2.1 9 = .ok (.lastore, 1) := dc9_80 (by decide +kernel)
theorem d_MM_push_10 : decode y_MM_push.2.1 10 = .ok (.aload_n 0, 1) := dc9_42 (by decide +kernel)
theorem d_MM_push_11 : decode y_MM_push.2.1 11 = .ok (.getfield 67, 3) := dc9_180 (by decide +kernel)
theorem d_MM_push_14 : decode y_MM_push.2.1 14 = .ok (.aload_n 0, 1) := dc9_42 (by decide +kernel)
theorem d_MM_push_15 : decode y_MM_push.2.1 15 = .ok (.getfield 370, 3) := dc9_180 (by decide +kernel)
theorem d_MM_push_18 : decode y_MM_push.2.1 18 = .ok (.lload_n 3, 1) := dc9_33 (by decide +kernel)
theorem d_MM_push_19 : decode y_MM_push.2.1 19 = .ok (.lastore, 1) := dc9_80 (by decide +kernel)
theorem d_MM_push_20 : decode y_MM_push.2.1 20 = .ok (.aload_n 0, 1) := dc9_42 (by decide +kernel)
theorem d_MM_push_21 : decode y_MM_push.2.1 21 = .ok (.aload_n 0, 1) := dc9_42 (by decide +kernel)
theorem d_MM_push_22 : decode y_MM_push.2.1 22 = .ok (.getfield 370, 3) := dc9_180 (by decide +kernel)
theorem d_MM_push_25 : decode y_MM_push.2.1 25 = .ok (.iconst 1, 1) := dc9_4 (by decide +kernel)
theorem d_MM_push_26 : decode y_MM_push.2.1 26 = .ok (.iadd, 1) := dc9_96 (by decide +kernel)
theorem d_MM_push_27 : decode y_MM_push.2.1 27 = .ok (.putfield 370, 3) := dc9_181 (by decide +kernel)
theorem d_MM_push_30 : decode y_MM_push.2.1 30 = .ok (.return_, 1) := dc9_177 (by decide +kernel)
theorem k_MM_push {G : mG} {d : Nat} {a0 : Nat} {j1 : Int} {j3 : Int} {M : mM} {Q : mM → Prop} (hO : mOk M) (hi_j1 : i64 j1) (hi_j3 : i64 j3)
    (h : mK M a0 = 14 ∧ mK M (mR M a0 21) = 33 ∧ ((0 : Int) ≤ mI M a0 23 ∧ mI M a0 23 < (mN M (mR M a0 21) : Int)) ∧ ∀ M4, M4 = mUL M (mR M a0 21) (Int.toNat (mI M a0 23)) j1 → mK M4 (mR M4 a0 22) = 33 ∧ ((0 : Int) ≤ mI M4 a0 23 ∧ mI M4 a0 23 < (mN M4 (mR M4 a0 22) : Int)) ∧ ∀ M8, M8 = mUL M4 (mR M4 a0 22) (Int.toNat (mI M4 a0 23)) j3 → i32 ((mI M8 a0 23) + 1) ∧ ∀ M11, M11 = mUI M8 a0 23 ((mI M8 a0 23) + 1) → Q M11) :
    Cv G y_MM_push d [vr a0, vl j1, vl j3] M Q := by
  refine wm_open (y := y_MM_push) rfl (Nat.le_of_ble_eq_true rfl) (L := [vr a0, vl j1, vd, vl j3, vd]) rfl ?_
  obtain ⟨h1, h⟩ := h
  obtain ⟨h2, h⟩ := h
  obtain ⟨h3, h⟩ := h
  obtain ⟨M4, e5⟩ : ∃ M4, M4 = mUL M (mR M a0 21) (Int.toNat (mI M a0 23)) j1 := ⟨_, rfl⟩
  replace h := h M4 e5
  obtain ⟨h6, h⟩ := h
  obtain ⟨h7, h⟩ := h
  obtain ⟨M8, e9⟩ : ∃ M8, M8 = mUL M4 (mR M4 a0 22) (Int.toNat (mI M4 a0 23)) j3 := ⟨_, rfl⟩
  replace h := h M8 e9
  obtain ⟨h10, h⟩ := h
  obtain ⟨M11, e12⟩ : ∃ M11, M11 = mUI M8 a0 23 ((mI M8 a0 23) + 1) := ⟨_, rfl⟩
  replace h := h M11 e12
  refine wm_aload_n d_MM_push_0 rfl rfl ?_
  refine gf_MM_63 rfl d_MM_push_1 h1 ?_
  refine wm_aload_n d_MM_push_4 rfl rfl ?_
  refine gf_MM_370 rfl d_MM_push_5 h1 ?_
  refine wm_lload_n d_MM_push_8 rfl rfl ?_
  have hOM4 : mOk M4 := by rw [e5]; exact mOk_UL hO hi_j1
  refine wm_lastE d_MM_push_9 h2 h3 hi_j1 e5 ?_
  refine wm_aload_n d_MM_push_10 rfl rfl ?_
  refine gf_MM_67 rfl d_MM_push_11 (by rw [e5]; exact h1) ?_
  refine wm_aload_n d_MM_push_14 rfl rfl ?_
  refine gf_MM_370 rfl d_MM_push_15 (by rw [e5]; exact h1) ?_
  refine wm_lload_n d_MM_push_18 rfl rfl ?_
  have hOM8 : mOk M8 := by rw [e9]; exact mOk_UL hOM4 hi_j3
  refine wm_lastE d_MM_push_19 h6 h7 hi_j3 e9 ?_
  refine wm_aload_n d_MM_push_20 rfl rfl ?_
  refine wm_aload_n d_MM_push_21 rfl rfl ?_
  refine gf_MM_370 rfl d_MM_push_22 (by rw [e9, e5]; exact h1) ?_
  refine wm_iconst d_MM_push_25 ?_
  refine wm_iadd d_MM_push_26 ?_
  have hOM11 : mOk M11 := by rw [e12]; exact mOk_UI hOM8 h10
  refine pf_MM_370 rfl d_MM_push_27 (by rw [e9, e5]; exact h1) h10 e12 ?_
  refine wm_return d_MM_push_30 rfl ?_
  exact ⟨rfl, h⟩
theorem d_MM_pushTruth_0 : decode y_MM_pushTruth.2.1 0 = .ok (.aload_n 0, 1) := dc9_42 (by decide +kernel)
theorem d_MM_pushTruth_1 : decode y_MM_pushTruth.2.1 1 = .ok (.iload_n 1, 1) := dc9_27 (by decide +kernel)
theorem d_MM_pushTruth_2 : decode y_MM_pushTruth.2.1 2 = .ok (.ifCond .eq 7, 3) := dc9_153 (by decide +kernel)
theorem d_MM_pushTruth_9 : decode y_MM_pushTruth.2.1 9 = .ok (.lconst 0, 1) := dc9_9 (by decide +kernel)
theorem d_MM_pushTruth_5 : decode y_MM_pushTruth.2.1 5 = .ok (.lconst 1, 1) := dc9_10 (by decide +kernel)
theorem d_MM_pushTruth_6 : decode y_MM_pushTruth.2.1 6 = .ok (.goto 4, 3) := dc9_167 (by decide +kernel)
theorem d_MM_pushTruth_10 : decode y_MM_pushTruth.2.1 10 = .ok (.lconst 0, 1) := dc9_9 (by decide +kernel)
theorem d_MM_pushTruth_11 : decode y_MM_pushTruth.2.1 11 = .ok (.invokevirtual 373, 3) := dc9_182 (by decide +kernel)
theorem d_MM_pushTruth_14 : decode y_MM_pushTruth.2.1 14 = .ok (.return_, 1) := dc9_177 (by decide +kernel)
theorem k_MM_pushTruth {G : mG} {d : Nat} {a0 : Nat} {l1 : Int} {M : mM} {Q : mM → Prop} (hO : mOk M) (hi_l1 : i32 l1)
    (h : ∀ v2 : Int, v2 = (if (l1 = 0) then 0 else 1) → mK M a0 = 14 ∧ Cv G y_MM_push d [vr a0, vl v2, vl 0] M (fun M7 => mOk M7 ∧ (Q M7))) :
    Cv G y_MM_pushTruth (d + 1) [vr a0, vi l1] M Q := by
  refine wm_open (y := y_MM_pushTruth) rfl (Nat.le_of_ble_eq_true rfl) (L := [vr a0, vi l1]) rfl ?_
  refine wm_aload_n d_MM_pushTruth_0 rfl rfl ?_
  refine wm_iload_n d_MM_pushTruth_1 rfl rfl ?_
  have hJ : ∀ v2 : Int, v2 = (if (l1 = 0) then 0 else 1) → mWm G y_MM_pushTruth (d + 1) 10 [vd, vd] [vl v2, vr a0] M (fun r9 M9 => r9 = none ∧ Q M9) := by
    intro v2 e4
    have h := h v2 e4
    have h5 : (v2 = 0 ∨ v2 = 1) := by rw [e4]; (repeat' split) <;> decide
    obtain ⟨h6, h⟩ := h
    refine wm_lconst (x := 0) d_MM_pushTruth_10 rfl ?_
    refine cf_MM_373 rfl d_MM_pushTruth_11 h6 (Nat.le_of_ble_eq_true rfl) (Cv.mono h (fun M7 h => ?_))
    obtain ⟨hOM7, h⟩ := h
    refine wm_return d_MM_pushTruth_14 rfl ?_
    exact ⟨rfl, h⟩
  clear h
  refine wm_if_eq (tgt := 9) d_MM_pushTruth_2 rfl hi_l1 (fun c1 => ?_) (fun c1 => ?_)
  · refine wm_lconst (x := 0) d_MM_pushTruth_9 rfl ?_
    refine wm_less (L' := [vd, vd]) ⟨Or.inl rfl, Or.inl rfl, trivial⟩ ?_
    exact hJ 0 (if_pos c1).symm
  · refine wm_lconst (x := 1) d_MM_pushTruth_5 rfl ?_
    refine wm_goto (tgt := 10) d_MM_pushTruth_6 rfl ?_
    refine wm_less (L' := [vd, vd]) ⟨Or.inl rfl, Or.inl rfl, trivial⟩ ?_
    exact hJ 1 (if_neg c1).symm
theorem d_MM_divisor_0 : decode y_MM_divisor.2.1 0 = .ok (.lload_n 0, 1) := dc9_30 (by decide +kernel)
theorem d_MM_divisor_1 : decode y_MM_divisor.2.1 1 = .ok (.lconst 0, 1) := dc9_9 (by decide +kernel)
theorem d_MM_divisor_2 : decode y_MM_divisor.2.1 2 = .ok (.lcmp, 1) := dc9_148 (by decide +kernel)
theorem d_MM_divisor_3 : decode y_MM_divisor.2.1 3 = .ok (.ifCond .ge 8, 3) := dc9_156 (by decide +kernel)
theorem d_MM_divisor_11 : decode y_MM_divisor.2.1 11 = .ok (.lload_n 0, 1) := dc9_30 (by decide +kernel)
theorem d_MM_divisor_6 : decode y_MM_divisor.2.1 6 = .ok (.lload_n 0, 1) := dc9_30 (by decide +kernel)
theorem d_MM_divisor_7 : decode y_MM_divisor.2.1 7 = .ok (.lneg, 1) := dc9_117 (by decide +kernel)
theorem d_MM_divisor_8 : decode y_MM_divisor.2.1 8 = .ok (.goto 4, 3) := dc9_167 (by decide +kernel)
theorem d_MM_divisor_12 : decode y_MM_divisor.2.1 12 = .ok (.lstore 4, 2) := dc9_55 (by decide +kernel)
theorem d_MM_divisor_14 : decode y_MM_divisor.2.1 14 = .ok (.lload_n 2, 1) := dc9_32 (by decide +kernel)
theorem d_MM_divisor_15 : decode y_MM_divisor.2.1 15 = .ok (.lstore 6, 2) := dc9_55 (by decide +kernel)
theorem d_MM_divisor_17 : decode y_MM_divisor.2.1 17 = .ok (.lload 6, 2) := dc9_22 (by decide +kernel)
theorem d_MM_divisor_19 : decode y_MM_divisor.2.1 19 = .ok (.lconst 0, 1) := dc9_9 (by decide +kernel)
theorem d_MM_divisor_20 : decode y_MM_divisor.2.1 20 = .ok (.lcmp, 1) := dc9_148 (by decide +kernel)
theorem d_MM_divisor_21 : decode y_MM_divisor.2.1 21 = .ok (.ifCond .le 21, 3) := dc9_158 (by decide +kernel)
theorem d_MM_divisor_42 : decode y_MM_divisor.2.1 42 = .ok (.lload 4, 2) := dc9_22 (by decide +kernel)
theorem d_MM_divisor_44 : decode y_MM_divisor.2.1 44 = .ok (.lreturn, 1) := dc9_173 (by decide +kernel)
theorem d_MM_divisor_24 : decode y_MM_divisor.2.1 24 = .ok (.lload 4, 2) := dc9_22 (by decide +kernel)
theorem d_MM_divisor_26 : decode y_MM_divisor.2.1 26 = .ok (.lload 6, 2) := dc9_22 (by decide +kernel)
theorem d_MM_divisor_28 : decode y_MM_divisor.2.1 28 = .ok (.lrem, 1) := dc9_113 (by decide +kernel)
theorem d_MM_divisor_29 : decode y_MM_divisor.2.1 29 = .ok (.lstore 8, 2) := dc9_55 (by decide +kernel)
theorem d_MM_divisor_31 : decode y_MM_divisor.2.1 31 = .ok (.lload 6, 2) := dc9_22 (by decide +kernel)
theorem d_MM_divisor_33 : decode y_MM_divisor.2.1 33 = .ok (.lstore 4, 2) := dc9_55 (by decide +kernel)
theorem d_MM_divisor_35 : decode y_MM_divisor.2.1 35 = .ok (.lload 8, 2) := dc9_22 (by decide +kernel)
theorem d_MM_divisor_37 : decode y_MM_divisor.2.1 37 = .ok (.lstore 6, 2) := dc9_55 (by decide +kernel)
theorem d_MM_divisor_39 : decode y_MM_divisor.2.1 39 = .ok (.goto (-22), 3) := dc9_167 (by decide +kernel)
def h_MM_divisor_17 (G : mG) (d : Nat) (j4 : Int) (j6 : Int) (M : mM) (Q : Int → mM → Prop) : Prop := mWm G y_MM_divisor d 17 [vd, vd, vd, vd, vl j4, vd, vl j6, vd, vd, vd] [] M (fun r9 M9 => ∃ x9, r9 = some (vl x9) ∧ Q x9 M9)
theorem k_MM_divisor {G : mG} {d : Nat} {j0 : Int} {j2 : Int} {M : mM} {Q : Int → mM → Prop} (hO : mOk M) (hi_j0 : i64 j0) (hi_j2 : i64 j2)
    (h : ∀ v2 : Int, v2 = (if (0 ≤ cmpL j0 0) then j0 else -j0) → h_MM_divisor_17 G d v2 j2 M Q) :
    Cj G y_MM_divisor d [vl j0, vl j2] M Q := by
  refine wm_open (y := y_MM_divisor) rfl (Nat.le_of_ble_eq_true rfl) (L := [vl j0, vd, vl j2, vd, vd, vd, vd, vd, vd, vd]) rfl ?_
  refine wm_lload_n d_MM_divisor_0 rfl rfl ?_
  refine wm_lconst (x := 0) d_MM_divisor_1 rfl ?_
  refine wm_lcmp d_MM_divisor_2 hi_j0 ⟨by decide, by decide⟩ ?_
  have hJ : ∀ v2 : Int, v2 = (if (0 ≤ cmpL j0 0) then j0 else -j0) → mWm G y_MM_divisor d 12 [vd, vd, vl j2, vd, vd, vd, vd, vd, vd, vd] [vl v2] M (fun r9 M9 => ∃ x9, r9 = some (vl x9) ∧ Q x9 M9) := by
    intro v2 e4
    have h := h v2 e4
    refine wm_lstore d_MM_divisor_12 (by decide) (L' := [vd, vd, vl j2, vd, vl v2, vd, vd, vd, vd, vd]) rfl ?_
    refine wm_lload_n d_MM_divisor_14 rfl rfl ?_
    refine wm_lstore d_MM_divisor_15 (by decide) (L' := [vd, vd, vl j2, vd, vl v2, vd, vl j2, vd, vd, vd]) rfl ?_
    refine wm_less (L' := [vd, vd, vd, vd, vl v2, vd, vl j2, vd, vd, vd]) ⟨Or.inl rfl, Or.inl rfl, Or.inl rfl, Or.inl rfl, Or.inr rfl, Or.inl rfl, Or.inr rfl, Or.inl rfl, Or.inl rfl, Or.inl rfl, trivial⟩ ?_
    exact h
  clear h
  refine wm_if_ge (tgt := 11) d_MM_divisor_3 rfl (m_cmp32 _ _) (fun c1 => ?_) (fun c1 => ?_)
  · refine wm_lload_n d_MM_divisor_11 rfl rfl ?_
    refine wm_less (L' := [vd, vd, vl j2, vd, vd, vd, vd, vd, vd, vd]) ⟨Or.inl rfl, Or.inl rfl, Or.inr rfl, Or.inl rfl, Or.inl rfl, Or.inl rfl, Or.inl rfl, Or.inl rfl, Or.inl rfl, Or.inl rfl, trivial⟩ ?_
    exact hJ j0 (if_pos c1).symm
  · refine wm_lload_n d_MM_divisor_6 rfl rfl ?_
    refine wm_lneg d_MM_divisor_7 ?_
    refine wm_goto (tgt := 12) d_MM_divisor_8 rfl ?_
    refine wm_less (L' := [vd, vd, vl j2, vd, vd, vd, vd, vd, vd, vd]) ⟨Or.inl rfl, Or.inl rfl, Or.inr rfl, Or.inl rfl, Or.inl rfl, Or.inl rfl, Or.inl rfl, Or.inl rfl, Or.inl rfl, Or.inl rfl, trivial⟩ ?_
    exact hJ (-j0) (if_neg c1).symm
theorem k_MM_divisor_17 {G : mG} {d : Nat} {j4 : Int} {j6 : Int} {M : mM} {Q : Int → mM → Prop} (hO : mOk M) (hi_j4 : i64 j4) (hi_j6 : i64 j6)
    (h : ((cmpL j6 0 ≤ 0) → (Q j4 M)) ∧ (¬ (cmpL j6 0 ≤ 0) → (j6 ≠ 0 ∧ h_MM_divisor_17 G d j6 (Int.tmod j4 j6) M Q))) :
    h_MM_divisor_17 G d j4 j6 M Q := by
  unfold h_MM_divisor_17
  refine wm_lload d_MM_divisor_17 rfl ?_
  refine wm_lconst (x := 0) d_MM_divisor_19 rfl ?_
  refine wm_lcmp d_MM_divisor_20 hi_j6 ⟨by decide, by decide⟩ ?_
  refine wm_if_le (tgt := 42) d_MM_divisor_21 rfl (m_cmp32 _ _) (fun c8 => ?_) (fun c8 => ?_)
  · replace h := h.1 c8
    refine wm_lload d_MM_divisor_42 rfl ?_
    refine wm_lreturn d_MM_divisor_44 rfl ?_
    exact ⟨_, rfl, h⟩
  · replace h := h.2 c8
    obtain ⟨h9, h⟩ := h
    refine wm_lload d_MM_divisor_24 rfl ?_
    refine wm_lload d_MM_divisor_26 rfl ?_
    refine wm_lrem d_MM_divisor_28 hi_j4 hi_j6 h9 ?_
    refine wm_lstore d_MM_divisor_29 (by decide) (L' := [vd, vd, vd, vd, vl j4, vd, vl j6, vd, vl (Int.tmod j4 j6), vd]) rfl ?_
    refine wm_lload d_MM_divisor_31 rfl ?_
    refine wm_lstore d_MM_divisor_33 (by decide) (L' := [vd, vd, vd, vd, vl j6, vd, vl j6, vd, vl (Int.tmod j4 j6), vd]) rfl ?_
    refine wm_lload d_MM_divisor_35 rfl ?_
    refine wm_lstore d_MM_divisor_37 (by decide) (L' := [vd, vd, vd, vd, vl j6, vd, vl (Int.tmod j4 j6), vd, vl (Int.tmod j4 j6), vd]) rfl ?_
    refine wm_goto (tgt := 17) d_MM_divisor_39 rfl ?_
    refine wm_less (L' := [vd, vd, vd, vd, vl j6, vd, vl (Int.tmod j4 j6), vd, vd, vd]) ⟨Or.inl rfl, Or.inl rfl, Or.inl rfl, Or.inl rfl, Or.inr rfl, Or.inl rfl, Or.inr rfl, Or.inl rfl, Or.inl rfl, Or.inl rfl, trivial⟩ ?_
    exact h
theorem d_MM_pushFraction_0 : decode y_MM_pushFraction.2.1 0 = .ok (.lload_n 1, 1) := dc9_31 (by decide +kernel)
theorem d_MM_pushFraction_1 : decode y_MM_pushFraction.2.1 1 = .ok (.lload_n 3, 1) := dc9_33 (by decide +kernel)
theorem d_MM_pushFraction_2 : decode y_MM_pushFraction.2.1 2 = .ok (.invokestatic 377, 3) := dc9_184 (by decide +kernel)
theorem d_MM_pushFraction_5 : decode y_MM_pushFraction.2.1 5 = .ok (.lstore 6, 2) := dc9_55 (by decide +kernel)
theorem d_MM_pushFraction_7 : decode y_MM_pushFraction.2.1 7 = .ok (.lload_n 1, 1) := dc9_31 (by decide +kernel)
theorem d_MM_pushFraction_8 : decode y_MM_pushFraction.2.1 8 = .ok (.lload 6, 2) := dc9_22 (by decide +kernel)
theorem d_MM_pushFraction_10 : decode y_MM_pushFraction.2.1 10 = .ok (.ldiv, 1) := dc9_109 (by decide +kernel)
theorem d_MM_pushFraction_11 : decode y_MM_pushFraction.2.1 11 = .ok (.lstore 8, 2) := dc9_55 (by decide +kernel)
theorem d_MM_pushFraction_13 : decode y_MM_pushFraction.2.1 13 = .ok (.lload_n 3, 1) := dc9_33 (by decide +kernel)
theorem d_MM_pushFraction_14 : decode y_MM_pushFraction.2.1 14 = .ok (.lload 6, 2) := dc9_22 (by decide +kernel)
theorem d_MM_pushFraction_16 : decode y_MM_pushFraction.2.1 16 = .ok (.ldiv, 1) := dc9_109 (by decide +kernel)
theorem d_MM_pushFraction_17 : decode y_MM_pushFraction.2.1 17 = .ok (.lstore 10, 2) := dc9_55 (by decide +kernel)
theorem d_MM_pushFraction_19 : decode y_MM_pushFraction.2.1 19 = .ok (.lload 8, 2) := dc9_22 (by decide +kernel)
theorem d_MM_pushFraction_21 : decode y_MM_pushFraction.2.1 21 = .ok (.ldc2_w 381, 3) := dc9_20 (by decide +kernel)
theorem d_MM_pushFraction_24 : decode y_MM_pushFraction.2.1 24 = .ok (.lcmp, 1) := dc9_148 (by decide +kernel)
theorem d_MM_pushFraction_25 : decode y_MM_pushFraction.2.1 25 = .ok (.ifCond .ge 21, 3) := dc9_156 (by decide +kernel)
theorem d_MM_pushFraction_46 : decode y_MM_pushFraction.2.1 46 = .ok (.aload_n 0, 1) := dc9_42 (by decide +kernel)
theorem d_MM_pushFraction_47 : decode y_MM_pushFraction.2.1 47 = .ok (.bipush 6, 2) := dc9_16 (by decide +kernel)
theorem d_MM_pushFraction_49 : decode y_MM_pushFraction.2.1 49 = .ok (.iload 5, 2) := dc9_21 (by decide +kernel)
theorem d_MM_pushFraction_28 : decode y_MM_pushFraction.2.1 28 = .ok (.lload 8, 2) := dc9_22 (by decide +kernel)
theorem d_MM_pushFraction_30 : decode y_MM_pushFraction.2.1 30 = .ok (.ldc2_w 383, 3) := dc9_20 (by decide +kernel)
theorem d_MM_pushFraction_33 : decode y_MM_pushFraction.2.1 33 = .ok (.lcmp, 1) := dc9_148 (by decide +kernel)
theorem d_MM_pushFraction_34 : decode y_MM_pushFraction.2.1 34 = .ok (.ifCond .le 12, 3) := dc9_158 (by decide +kernel)
theorem d_MM_pushFraction_37 : decode y_MM_pushFraction.2.1 37 = .ok (.lload 10, 2) := dc9_22 (by decide +kernel)
theorem d_MM_pushFraction_39 : decode y_MM_pushFraction.2.1 39 = .ok (.ldc2_w 381, 3) := dc9_20 (by decide +kernel)
theorem d_MM_pushFraction_42 : decode y_MM_pushFraction.2.1 42 = .ok (.lcmp, 1) := dc9_148 (by decide +kernel)
theorem d_MM_pushFraction_43 : decode y_MM_pushFraction.2.1 43 = .ok (.ifCond .lt 11, 3) := dc9_155 (by decide +kernel)
theorem d_MM_pushFraction_51 : decode y_MM_pushFraction.2.1 51 = .ok (.invokevirtual 351, 3) := dc9_182 (by decide +kernel)
theorem d_MM_pushFraction_54 : decode y_MM_pushFraction.2.1 54 = .ok (.aload_n 0, 1) := dc9_42 (by decide +kernel)
theorem d_MM_pushFraction_55 : decode y_MM_pushFraction.2.1 55 = .ok (.lload 8, 2) := dc9_22 (by decide +kernel)
theorem d_MM_pushFraction_57 : decode y_MM_pushFraction.2.1 57 = .ok (.lload 10, 2) := dc9_22 (by decide +kernel)
theorem d_MM_pushFraction_59 : decode y_MM_pushFraction.2.1 59 = .ok (.invokevirtual 373, 3) := dc9_182 (by decide +kernel)
theorem d_MM_pushFraction_62 : decode y_MM_pushFraction.2.1 62 = .ok (.return_, 1) := dc9_177 (by decide +kernel)
theorem k_MM_pushFraction {G : mG} {d : Nat} {a0 : Nat} {j1 : Int} {j3 : Int} {l5 : Int} {M : mM} {Q : mM → Prop} (hO : mOk M) (hi_j1 : i64 j1) (hi_j3 : i64 j3) (hi_l5 : i32 l5)
    (h : Cj G y_MM_divisor d [vl j1, vl j3] M (fun x2 M1 => i64 x2 ∧ mOk M1 ∧ (x2 ≠ 0 ∧ x2 ≠ 0 ∧ i64 (Int.tdiv j1 x2) ∧ (¬ (0 ≤ cmpL (Int.tdiv j1 x2) 1000000000) → (¬ (cmpL (Int.tdiv j1 x2) (-1000000000) ≤ 0) → i64 (Int.tdiv j3 x2))) ∧ (((0 ≤ cmpL (Int.tdiv j1 x2) 1000000000) ∨ ((cmpL (Int.tdiv j1 x2) (-1000000000) ≤ 0) ∨ (¬ (cmpL (Int.tdiv j3 x2) 1000000000 < 0)))) → (mK M1 a0 = 14 ∧ Cv G y_MM_stop d [vr a0, vi 6, vi l5] M1 (fun M15 => mOk M15 ∧ (mK M15 a0 = 14 ∧ Cv G y_MM_push d [vr a0, vl (Int.tdiv j1 x2), vl (Int.tdiv j3 x2)] M15 (fun M19 => mOk M19 ∧ (Q M19)))))) ∧ (¬ ((0 ≤ cmpL (Int.tdiv j1 x2) 1000000000) ∨ ((cmpL (Int.tdiv j1 x2) (-1000000000) ≤ 0) ∨ (¬ (cmpL (Int.tdiv j3 x2) 1000000000 < 0)))) → (mK M1 a0 = 14 ∧ Cv G y_MM_push d [vr a0, vl (Int.tdiv j1 x2), vl (Int.tdiv j3 x2)] M1 (fun M24 => mOk M24 ∧ (Q M24))))))) :
    Cv G y_MM_pushFraction (d + 1) [vr a0, vl j1, vl j3, vi l5] M Q := by
  refine wm_open (y := y_MM_pushFraction) rfl (Nat.le_of_ble_eq_true rfl) (L := [vr a0, vl j1, vd, vl j3, vd, vi l5, vd, vd, vd, vd, vd, vd]) rfl ?_
  refine wm_lload_n d_MM_pushFraction_0 rfl rfl ?_
  refine wm_lload_n d_MM_pushFraction_1 rfl rfl ?_
  refine cf_MM_377 rfl d_MM_pushFraction_2 (Nat.le_of_ble_eq_true rfl) (Cj.mono h (fun x2 M1 h => ?_))
  obtain ⟨h3, hOM1, h⟩ := h
  obtain ⟨h4, h⟩ := h
  obtain ⟨h5, h⟩ := h
  obtain ⟨h6, h⟩ := h
  refine wm_lstore d_MM_pushFraction_5 (by decide) (L' := [vr a0, vl j1, vd, vl j3, vd, vi l5, vl x2, vd, vd, vd, vd, vd]) rfl ?_
  refine wm_lload_n d_MM_pushFraction_7 rfl rfl ?_
  refine wm_lload d_MM_pushFraction_8 rfl ?_
  refine wm_ldiv d_MM_pushFraction_10 hi_j1 h3 h4 ?_
  refine wm_lstore d_MM_pushFraction_11 (by decide) (L' := [vr a0, vl j1, vd, vl j3, vd, vi l5, vl x2, vd, vl (Int.tdiv j1 x2), vd, vd, vd]) rfl ?_
  refine wm_lload_n d_MM_pushFraction_13 rfl rfl ?_
  refine wm_lload d_MM_pushFraction_14 rfl ?_
  refine wm_ldiv d_MM_pushFraction_16 hi_j3 h3 h5 ?_
  refine wm_lstore d_MM_pushFraction_17 (by decide) (L' := [vr a0, vl j1, vd, vl j3, vd, vi l5, vl x2, vd, vl (Int.tdiv j1 x2), vd, vl (Int.tdiv j3 x2), vd]) rfl ?_
  refine wm_lload d_MM_pushFraction_19 rfl ?_
  refine wm_ldc2 (x := 1000000000) d_MM_pushFraction_21 k12_27 (by decide) ?_
  refine wm_lcmp d_MM_pushFraction_24 h6 ⟨by decide, by decide⟩ ?_
  obtain ⟨s12, h⟩ := h
  have hE0 : ((0 ≤ cmpL (Int.tdiv j1 x2) 1000000000) ∨ ((cmpL (Int.tdiv j1 x2) (-1000000000) ≤ 0) ∨ (¬ (cmpL (Int.tdiv j3 x2) 1000000000 < 0)))) → mWm G y_MM_pushFraction (d + 1) 46 [vr a0, vl j1, vd, vl j3, vd, vi l5, vl x2, vd, vl (Int.tdiv j1 x2), vd, vl (Int.tdiv j3 x2), vd] [] M1 (fun r9 M9 => r9 = none ∧ Q M9) := by
    intro q13
    have h := h.1 q13
    obtain ⟨h14, h⟩ := h
    refine wm_aload_n d_MM_pushFraction_46 rfl rfl ?_
    refine wm_bipush d_MM_pushFraction_47 (by decide) ?_
    refine wm_iload d_MM_pushFraction_49 rfl ?_
    refine cf_MM_351 rfl d_MM_pushFraction_51 h14 (Nat.le_of_ble_eq_true rfl) (Cv.mono h (fun M15 h => ?_))
    obtain ⟨hOM15, h⟩ := h
    obtain ⟨h18, h⟩ := h
    refine wm_aload_n d_MM_pushFraction_54 rfl rfl ?_
    refine wm_lload d_MM_pushFraction_55 rfl ?_
    refine wm_lload d_MM_pushFraction_57 rfl ?_
    refine cf_MM_373 rfl d_MM_pushFraction_59 h18 (Nat.le_of_ble_eq_true rfl) (Cv.mono h (fun M19 h => ?_))
    obtain ⟨hOM19, h⟩ := h
    refine wm_return d_MM_pushFraction_62 rfl ?_
    exact ⟨rfl, h⟩
  have hE1 : ¬ ((0 ≤ cmpL (Int.tdiv j1 x2) 1000000000) ∨ ((cmpL (Int.tdiv j1 x2) (-1000000000) ≤ 0) ∨ (¬ (cmpL (Int.tdiv j3 x2) 1000000000 < 0)))) → mWm G y_MM_pushFraction (d + 1) 54 [vr a0, vl j1, vd, vl j3, vd, vi l5, vl x2, vd, vl (Int.tdiv j1 x2), vd, vl (Int.tdiv j3 x2), vd] [] M1 (fun r9 M9 => r9 = none ∧ Q M9) := by
    intro q22
    have h := h.2 q22
    obtain ⟨h23, h⟩ := h
    refine wm_aload_n d_MM_pushFraction_54 rfl rfl ?_
    refine wm_lload d_MM_pushFraction_55 rfl ?_
    refine wm_lload d_MM_pushFraction_57 rfl ?_
    refine cf_MM_373 rfl d_MM_pushFraction_59 h23 (Nat.le_of_ble_eq_true rfl) (Cv.mono h (fun M24 h => ?_))
    obtain ⟨hOM24, h⟩ := h
    refine wm_return d_MM_pushFraction_62 rfl ?_
    exact ⟨rfl, h⟩
  clear h
  have s27 := s12
  refine wm_if_ge (tgt := 46) d_MM_pushFraction_25 rfl (m_cmp32 _ _) (fun c11 => ?_) (fun c11 => ?_)
  · exact hE0 (Or.inl c11)
  · have s27 := s27 c11
    have s28 := s27
    refine wm_lload d_MM_pushFraction_28 rfl ?_
    refine wm_ldc2 (x := (-1000000000)) d_MM_pushFraction_30 k12_28 (by decide) ?_
    refine wm_lcmp d_MM_pushFraction_33 h6 ⟨by decide, by decide⟩ ?_
    refine wm_if_le (tgt := 46) d_MM_pushFraction_34 rfl (m_cmp32 _ _) (fun c10 => ?_) (fun c10 => ?_)
    · exact hE0 (Or.inr (Or.inl c10))
    · have s28 := s28 c10
      have h8 := s28
      refine wm_lload d_MM_pushFraction_37 rfl ?_
      refine wm_ldc2 (x := 1000000000) d_MM_pushFraction_39 k12_27 (by decide) ?_
      refine wm_lcmp d_MM_pushFraction_42 h8 ⟨by decide, by decide⟩ ?_
      refine wm_if_lt (tgt := 54) d_MM_pushFraction_43 rfl (m_cmp32 _ _) (fun c9 => ?_) (fun c9 => ?_)
      · exact hE1 (fun z29 => Or.elim z29 c11 (fun z30 => Or.elim z30 c10 (fun z31 => z31 c9)))
      · exact hE0 (Or.inr (Or.inr c9))
theorem d_MM_todo_0 : decode y_MM_todo.2.1 0 = .ok (.aload_n 0, 1) := dc9_42 (by decide +kernel)
theorem d_MM_todo_1 : decode y_MM_todo.2.1 1 = .ok (.getfield 70, 3) := dc9_180 (by decide +kernel)
theorem d_MM_todo_4 : decode y_MM_todo.2.1 4 = .ok (.iload_n 1, 1) := dc9_27 (by decide +kernel)
theorem d_MM_todo_5 : decode y_MM_todo.2.1 5 = .ok (.invokevirtual 152, 3) := dc9_182 (by decide +kernel)
theorem d_MM_todo_8 : decode y_MM_todo.2.1 8 = .ok (.aload_n 0, 1) := dc9_42 (by decide +kernel)
theorem d_MM_todo_9 : decode y_MM_todo.2.1 9 = .ok (.getfield 70, 3) := dc9_180 (by decide +kernel)
theorem d_MM_todo_12 : decode y_MM_todo.2.1 12 = .ok (.iload_n 2, 1) := dc9_28 (by decide +kernel)
theorem d_MM_todo_13 : decode y_MM_todo.2.1 13 = .ok (.invokevirtual 152, 3) := dc9_182 (by decide +kernel)
theorem d_MM_todo_16 : decode y_MM_todo.2.1 16 = .ok (.return_, 1) := dc9_177 (by decide +kernel)
theorem k_MM_todo {G : mG} {d : Nat} {a0 : Nat} {l1 : Int} {l2 : Int} {M : mM} {Q : mM → Prop} (hO : mOk M) (hi_l1 : i32 l1) (hi_l2 : i32 l2)
    (h : mK M a0 = 14 ∧ mK M (mR M a0 24) = 15 ∧ Cv G y_MN_add d [vr (mR M a0 24), vi l1] M (fun M3 => mOk M3 ∧ (mK M3 a0 = 14 ∧ mK M3 (mR M3 a0 24) = 15 ∧ Cv G y_MN_add d [vr (mR M3 a0 24), vi l2] M3 (fun M8 => mOk M8 ∧ (Q M8))))) :
    Cv G y_MM_todo (d + 1) [vr a0, vi l1, vi l2] M Q := by
  refine wm_open (y := y_MM_todo) rfl (Nat.le_of_ble_eq_true rfl) (L := [vr a0, vi l1, vi l2]) rfl ?_
  obtain ⟨h1, h⟩ := h
  obtain ⟨h2, h⟩ := h
  refine wm_aload_n d_MM_todo_0 rfl rfl ?_
  refine gf_MM_70 rfl d_MM_todo_1 h1 ?_
  refine wm_iload_n d_MM_todo_4 rfl rfl ?_
  refine cf_MM_152 rfl d_MM_todo_5 h2 (Nat.le_of_ble_eq_true rfl) (Cv.mono h (fun M3 h => ?_))
  obtain ⟨hOM3, h⟩ := h
  obtain ⟨h6, h⟩ := h
  obtain ⟨h7, h⟩ := h
  refine wm_aload_n d_MM_todo_8 rfl rfl ?_
  refine gf_MM_70 rfl d_MM_todo_9 h6 ?_
  refine wm_iload_n d_MM_todo_12 rfl rfl ?_
  refine cf_MM_152 rfl d_MM_todo_13 h7 (Nat.le_of_ble_eq_true rfl) (Cv.mono h (fun M8 h => ?_))
  obtain ⟨hOM8, h⟩ := h
  refine wm_return d_MM_todo_16 rfl ?_
  exact ⟨rfl, h⟩
theorem d_MM_workOut_0 : decode y_MM_workOut.2.1 0 = .ok (.aload_n 0, 1) := dc9_42 (by decide +kernel)
theorem d_MM_workOut_1 : decode y_MM_workOut.2.1 1 = .ok (.iconst 0, 1) := dc9_3 (by decide +kernel)
theorem d_MM_workOut_2 : decode y_MM_workOut.2.1 2 = .ok (.putfield 370, 3) := dc9_181 (by decide +kernel)
theorem d_MM_workOut_5 : decode y_MM_workOut.2.1 5 = .ok (.aload_n 0, 1) := dc9_42 (by decide +kernel)
theorem d_MM_workOut_6 : decode y_MM_workOut.2.1 6 = .ok (.getfield 70, 3) := dc9_180 (by decide +kernel)
theorem d_MM_workOut_9 : decode y_MM_workOut.2.1 9 = .ok (.iconst 0, 1) := dc9_3 (by decide +kernel)
theorem d_MM_workOut_10 : decode y_MM_workOut.2.1 10 = .ok (.putfield 145, 3) := dc9_181 (by decide +kernel)
theorem d_MM_workOut_13 : decode y_MM_workOut.2.1 13 = .ok (.aload_n 0, 1) := dc9_42 (by decide +kernel)
theorem d_MM_workOut_14 : decode y_MM_workOut.2.1 14 = .ok (.iconst 0, 1) := dc9_3 (by decide +kernel)
theorem d_MM_workOut_15 : decode y_MM_workOut.2.1 15 = .ok (.iload_n 2, 1) := dc9_28 (by decide +kernel)
theorem d_MM_workOut_16 : decode y_MM_workOut.2.1 16 = .ok (.invokevirtual 385, 3) := dc9_182 (by decide +kernel)
theorem d_MM_workOut_19 : decode y_MM_workOut.2.1 19 = .ok (.aload_n 0, 1) := dc9_42 (by decide +kernel)
theorem d_MM_workOut_20 : decode y_MM_workOut.2.1 20 = .ok (.getfield 70, 3) := dc9_180 (by decide +kernel)
theorem d_MM_workOut_23 : decode y_MM_workOut.2.1 23 = .ok (.getfield 145, 3) := dc9_180 (by decide +kernel)
theorem d_MM_workOut_26 : decode y_MM_workOut.2.1 26 = .ok (.ifCond .le 115, 3) := dc9_158 (by decide +kernel)
theorem d_MM_workOut_29 : decode y_MM_workOut.2.1 29 = .ok (.aload_n 0, 1) := dc9_42 (by decide +kernel)
theorem d_MM_workOut_30 : decode y_MM_workOut.2.1 30 = .ok (.getfield 267, 3) := dc9_180 (by decide +kernel)
theorem d_MM_workOut_33 : decode y_MM_workOut.2.1 33 = .ok (.ifCond .ne 108, 3) := dc9_154 (by decide +kernel)
theorem d_MM_workOut_36 : decode y_MM_workOut.2.1 36 = .ok (.aload_n 0, 1) := dc9_42 (by decide +kernel)
theorem d_MM_workOut_37 : decode y_MM_workOut.2.1 37 = .ok (.getfield 70, 3) := dc9_180 (by decide +kernel)
theorem d_MM_workOut_141 : decode y_MM_workOut.2.1 141 = .ok (.return_, 1) := dc9_177 (by decide +kernel)
theorem d_MM_workOut_40 : decode y_MM_workOut.2.1 40 = .ok (.invokevirtual 232, 3) := dc9_182 (by decide +kernel)
theorem d_MM_workOut_43 : decode y_MM_workOut.2.1 43 = .ok (.istore_n 3, 1) := dc9_62 (by decide +kernel)
theorem d_MM_workOut_44 : decode y_MM_workOut.2.1 44 = .ok (.aload_n 0, 1) := dc9_42 (by decide +kernel)
theorem d_MM_workOut_45 : decode y_MM_workOut.2.1 45 = .ok (.getfield 70, 3) := dc9_180 (by decide +kernel)
theorem d_MM_workOut_48 : decode y_MM_workOut.2.1 48 = .ok (.invokevirtual 232, 3) := dc9_182 (by decide +kernel)
theorem d_MM_workOut_51 : decode y_MM_workOut.2.1 51 = .ok (.istore 4, 2) := dc9_54 (by decide +kernel)
theorem d_MM_workOut_53 : decode y_MM_workOut.2.1 53 = .ok (.iload 4, 2) := dc9_21 (by decide +kernel)
theorem d_MM_workOut_55 : decode y_MM_workOut.2.1 55 = .ok (.ifCond .ne 12, 3) := dc9_154 (by decide +kernel)
theorem d_MM_workOut_58 : decode y_MM_workOut.2.1 58 = .ok (.aload_n 0, 1) := dc9_42 (by decide +kernel)
theorem d_MM_workOut_59 : decode y_MM_workOut.2.1 59 = .ok (.aload_n 1, 1) := dc9_43 (by decide +kernel)
theorem d_MM_workOut_60 : decode y_MM_workOut.2.1 60 = .ok (.iload_n 3, 1) := dc9_29 (by decide +kernel)
theorem d_MM_workOut_67 : decode y_MM_workOut.2.1 67 = .ok (.iload 4, 2) := dc9_21 (by decide +kernel)
theorem d_MM_workOut_69 : decode y_MM_workOut.2.1 69 = .ok (.iconst 1, 1) := dc9_4 (by decide +kernel)
theorem d_MM_workOut_70 : decode y_MM_workOut.2.1 70 = .ok (.if_icmp .ne 12, 3) := dc9_160 (by decide +kernel)
theorem d_MM_workOut_73 : decode y_MM_workOut.2.1 73 = .ok (.aload_n 0, 1) := dc9_42 (by decide +kernel)
theorem d_MM_workOut_74 : decode y_MM_workOut.2.1 74 = .ok (.aload_n 1, 1) := dc9_43 (by decide +kernel)
theorem d_MM_workOut_75 : decode y_MM_workOut.2.1 75 = .ok (.iload_n 3, 1) := dc9_29 (by decide +kernel)
theorem d_MM_workOut_82 : decode y_MM_workOut.2.1 82 = .ok (.iload 4, 2) := dc9_21 (by decide +kernel)
theorem d_MM_workOut_84 : decode y_MM_workOut.2.1 84 = .ok (.iconst 2, 1) := dc9_5 (by decide +kernel)
theorem d_MM_workOut_85 : decode y_MM_workOut.2.1 85 = .ok (.if_icmp .ne 12, 3) := dc9_160 (by decide +kernel)
theorem d_MM_workOut_88 : decode y_MM_workOut.2.1 88 = .ok (.aload_n 0, 1) := dc9_42 (by decide +kernel)
theorem d_MM_workOut_89 : decode y_MM_workOut.2.1 89 = .ok (.aload_n 1, 1) := dc9_43 (by decide +kernel)
theorem d_MM_workOut_90 : decode y_MM_workOut.2.1 90 = .ok (.iload_n 3, 1) := dc9_29 (by decide +kernel)
theorem d_MM_workOut_97 : decode y_MM_workOut.2.1 97 = .ok (.aload_n 0, 1) := dc9_42 (by decide +kernel)
theorem d_MM_workOut_98 : decode y_MM_workOut.2.1 98 = .ok (.getfield 77, 3) := dc9_180 (by decide +kernel)
theorem d_MM_workOut_101 : decode y_MM_workOut.2.1 101 = .ok (.iload_n 3, 1) := dc9_29 (by decide +kernel)
theorem d_MM_workOut_102 : decode y_MM_workOut.2.1 102 = .ok (.iconst 1, 1) := dc9_4 (by decide +kernel)
theorem d_MM_workOut_103 : decode y_MM_workOut.2.1 103 = .ok (.bastore, 1) := dc9_84 (by decide +kernel)
theorem d_MM_workOut_104 : decode y_MM_workOut.2.1 104 = .ok (.aload_n 0, 1) := dc9_42 (by decide +kernel)
theorem d_MM_workOut_105 : decode y_MM_workOut.2.1 105 = .ok (.getfield 81, 3) := dc9_180 (by decide +kernel)
theorem d_MM_workOut_108 : decode y_MM_workOut.2.1 108 = .ok (.iload_n 3, 1) := dc9_29 (by decide +kernel)
theorem d_MM_workOut_109 : decode y_MM_workOut.2.1 109 = .ok (.aload_n 0, 1) := dc9_42 (by decide +kernel)
theorem d_MM_workOut_110 : decode y_MM_workOut.2.1 110 = .ok (.getfield 63, 3) := dc9_180 (by decide +kernel)
theorem d_MM_workOut_113 : decode y_MM_workOut.2.1 113 = .ok (.aload_n 0, 1) := dc9_42 (by decide +kernel)
theorem d_MM_workOut_114 : decode y_MM_workOut.2.1 114 = .ok (.getfield 370, 3) := dc9_180 (by decide +kernel)
theorem d_MM_workOut_117 : decode y_MM_workOut.2.1 117 = .ok (.iconst 1, 1) := dc9_4 (by decide +kernel)
theorem d_MM_workOut_118 : decode y_MM_workOut.2.1 118 = .ok (.isub, 1) := dc9_100 (by decide +kernel)
theorem d_MM_workOut_119 : decode y_MM_workOut.2.1 119 = .ok (.laload, 1) := dc9_47 (by decide +kernel)
theorem d_MM_workOut_120 : decode y_MM_workOut.2.1 120 = .ok (.lastore, 1) := dc9_80 (by decide +kernel)
theorem d_MM_workOut_61 : decode y_MM_workOut.2.1 61 = .ok (.invokevirtual 387, 3) := dc9_182 (by decide +kernel)
theorem d_MM_workOut_64 : decode y_MM_workOut.2.1 64 = .ok (.goto 74, 3) := dc9_167 (by decide +kernel)
theorem d_MM_workOut_76 : decode y_MM_workOut.2.1 76 = .ok (.invokevirtual 391, 3) := dc9_182 (by decide +kernel)
theorem d_MM_workOut_79 : decode y_MM_workOut.2.1 79 = .ok (.goto 59, 3) := dc9_167 (by decide +kernel)
theorem d_MM_workOut_91 : decode y_MM_workOut.2.1 91 = .ok (.invokevirtual 394, 3) := dc9_182 (by decide +kernel)
theorem d_MM_workOut_94 : decode y_MM_workOut.2.1 94 = .ok (.goto 44, 3) := dc9_167 (by decide +kernel)
theorem d_MM_workOut_121 : decode y_MM_workOut.2.1 121 = .ok (.aload_n 0, 1) := dc9_42 (by decide +kernel)
theorem d_MM_workOut_122 : decode y_MM_workOut.2.1 122 = .ok (.getfield 84, 3) := dc9_180 (by decide +kernel)
theorem d_MM_workOut_125 : decode y_MM_workOut.2.1 125 = .ok (.iload_n 3, 1) := dc9_29 (by decide +kernel)
theorem d_MM_workOut_126 : decode y_MM_workOut.2.1 126 = .ok (.aload_n 0, 1) := dc9_42 (by decide +kernel)
theorem d_MM_workOut_127 : decode y_MM_workOut.2.1 127 = .ok (.getfield 67, 3) := dc9_180 (by decide +kernel)
theorem d_MM_workOut_130 : decode y_MM_workOut.2.1 130 = .ok (.aload_n 0, 1) := dc9_42 (by decide +kernel)
theorem d_MM_workOut_131 : decode y_MM_workOut.2.1 131 = .ok (.getfield 370, 3) := dc9_180 (by decide +kernel)
theorem d_MM_workOut_134 : decode y_MM_workOut.2.1 134 = .ok (.iconst 1, 1) := dc9_4 (by decide +kernel)
theorem d_MM_workOut_135 : decode y_MM_workOut.2.1 135 = .ok (.isub, 1) := dc9_100 (by decide +kernel)
theorem d_MM_workOut_136 : decode y_MM_workOut.2.1 136 = .ok (.laload, 1) := dc9_47 (by decide +kernel)
theorem d_MM_workOut_137 : decode y_MM_workOut.2.1 137 = .ok (.lastore, 1) := dc9_80 (by decide +kernel)
theorem d_MM_workOut_138 : decode y_MM_workOut.2.1 138 = .ok (.goto (-119), 3) := dc9_167 (by decide +kernel)
def h_MM_workOut_19 (G : mG) (d : Nat) (a0 : Nat) (a1 : Nat) (M : mM) (Q : mM → Prop) : Prop := mWm G y_MM_workOut (d + 1) 19 [vr a0, vr a1, vd, vd, vd] [] M (fun r9 M9 => r9 = none ∧ Q M9)
def h_MM_workOut_138 (G : mG) (d : Nat) (a0 : Nat) (a1 : Nat) (M : mM) (Q : mM → Prop) : Prop := mWm G y_MM_workOut (d + 1) 138 [vr a0, vr a1, vd, vd, vd] [] M (fun r9 M9 => r9 = none ∧ Q M9)
theorem k_MM_workOut {G : mG} {d : Nat} {a0 : Nat} {a1 : Nat} {l2 : Int} {M : mM} {Q : mM → Prop} (hO : mOk M) (hi_l2 : i32 l2)
    (h : mK M a0 = 14 ∧ ∀ M2, M2 = mUI M a0 23 0 → mK M2 (mR M2 a0 24) = 15 ∧ ∀ M5, M5 = mUI M2 (mR M2 a0 24) 1 0 → Cv G y_MM_todo d [vr a0, vi 0, vi l2] M5 (fun M7 => mOk M7 ∧ (h_MM_workOut_19 G d a0 a1 M7 Q))) :
    Cv G y_MM_workOut (d + 1) [vr a0, vr a1, vi l2] M Q := by
  refine wm_open (y := y_MM_workOut) rfl (Nat.le_of_ble_eq_true rfl) (L := [vr a0, vr a1, vi l2, vd, vd]) rfl ?_
  obtain ⟨h1, h⟩ := h
  obtain ⟨M2, e3⟩ : ∃ M2, M2 = mUI M a0 23 0 := ⟨_, rfl⟩
  replace h := h M2 e3
  obtain ⟨h4, h⟩ := h
  obtain ⟨M5, e6⟩ : ∃ M5, M5 = mUI M2 (mR M2 a0 24) 1 0 := ⟨_, rfl⟩
  replace h := h M5 e6
  refine wm_aload_n d_MM_workOut_0 rfl rfl ?_
  refine wm_iconst d_MM_workOut_1 ?_
  have hOM2 : mOk M2 := by rw [e3]; exact mOk_UI hO ⟨by decide, by decide⟩
  refine pf_MM_370 rfl d_MM_workOut_2 h1 ⟨by decide, by decide⟩ e3 ?_
  refine wm_aload_n d_MM_workOut_5 rfl rfl ?_
  refine gf_MM_70 rfl d_MM_workOut_6 (by rw [e3]; exact h1) ?_
  refine wm_iconst d_MM_workOut_9 ?_
  have hOM5 : mOk M5 := by rw [e6]; exact mOk_UI hOM2 ⟨by decide, by decide⟩
  refine pf_MM_145 rfl d_MM_workOut_10 h4 ⟨by decide, by decide⟩ e6 ?_
  refine wm_aload_n d_MM_workOut_13 rfl rfl ?_
  refine wm_iconst d_MM_workOut_14 ?_
  refine wm_iload_n d_MM_workOut_15 rfl rfl ?_
  refine cf_MM_385 rfl d_MM_workOut_16 (by rw [e6, e3]; exact h1) (Nat.le_of_ble_eq_true rfl) (Cv.mono h (fun M7 h => ?_))
  obtain ⟨hOM7, h⟩ := h
  refine wm_less (L' := [vr a0, vr a1, vd, vd, vd]) ⟨Or.inr rfl, Or.inr rfl, Or.inl rfl, Or.inl rfl, Or.inl rfl, trivial⟩ ?_
  exact h
theorem k_MM_workOut_19 {G : mG} {d : Nat} {a0 : Nat} {a1 : Nat} {M : mM} {Q : mM → Prop} (hO : mOk M)
    (h : mK M a0 = 14 ∧ mK M (mR M a0 24) = 15 ∧ (((mI M (mR M a0 24) 1 ≤ 0) ∨ (¬ (mI M a0 16 = 0))) → (Q M)) ∧ (¬ ((mI M (mR M a0 24) 1 ≤ 0) ∨ (¬ (mI M a0 16 = 0))) → (Ci G y_MN_take d [vr (mR M a0 24)] M (fun x18 M17 => i32 x18 ∧ mOk M17 ∧ (mK M17 a0 = 14 ∧ mK M17 (mR M17 a0 24) = 15 ∧ Ci G y_MN_take d [vr (mR M17 a0 24)] M17 (fun x23 M22 => i32 x23 ∧ mOk M22 ∧ (((x23 = 0) → (mK M22 a0 = 14 ∧ Cv G y_MM_begin d [vr a0, vr a1, vi x18] M22 (fun M30 => mOk M30 ∧ (h_MM_workOut_138 G d a0 a1 M30 Q)))) ∧ (¬ (x23 = 0) → (((x23 = 1) → (mK M22 a0 = 14 ∧ Cv G y_MM_finish d [vr a0, vr a1, vi x18] M22 (fun M37 => mOk M37 ∧ (h_MM_workOut_138 G d a0 a1 M37 Q)))) ∧ (¬ (x23 = 1) → (((x23 = 2) → (mK M22 a0 = 14 ∧ Cv G y_MM_choose0 d [vr a0, vr a1, vi x18] M22 (fun M43 => mOk M43 ∧ (h_MM_workOut_138 G d a0 a1 M43 Q)))) ∧ (¬ (x23 = 2) → (mK M22 a0 = 14 ∧ mK M22 (mR M22 a0 26) = 31 ∧ ((0 : Int) ≤ x18 ∧ x18 < (mN M22 (mR M22 a0 26) : Int)) ∧ ∀ M49, M49 = mUI M22 (mR M22 a0 26) (Int.toNat x18) 1 → mK M49 (mR M49 a0 21) = 33 ∧ ((0 : Int) ≤ (mI M49 a0 23) - 1 ∧ (mI M49 a0 23) - 1 < (mN M49 (mR M49 a0 21) : Int)) ∧ mK M49 (mR M49 a0 27) = 33 ∧ ((0 : Int) ≤ x18 ∧ x18 < (mN M49 (mR M49 a0 27) : Int)) ∧ ∀ M55, M55 = mUL M49 (mR M49 a0 27) (Int.toNat x18) (mL M49 (mR M49 a0 21) (Int.toNat ((mI M49 a0 23) - 1))) → mK M55 (mR M55 a0 22) = 33 ∧ ((0 : Int) ≤ (mI M55 a0 23) - 1 ∧ (mI M55 a0 23) - 1 < (mN M55 (mR M55 a0 22) : Int)) ∧ mK M55 (mR M55 a0 28) = 33 ∧ ((0 : Int) ≤ x18 ∧ x18 < (mN M55 (mR M55 a0 28) : Int)) ∧ ∀ M61, M61 = mUL M55 (mR M55 a0 28) (Int.toNat x18) (mL M55 (mR M55 a0 22) (Int.toNat ((mI M55 a0 23) - 1))) → h_MM_workOut_138 G d a0 a1 M61 Q))))))))))))) :
    h_MM_workOut_19 G d a0 a1 M Q := by
  unfold h_MM_workOut_19
  obtain ⟨h10, h⟩ := h
  obtain ⟨h11, h⟩ := h
  refine wm_aload_n d_MM_workOut_19 rfl rfl ?_
  refine gf_MM_70 rfl d_MM_workOut_20 h10 ?_
  refine gf_MM_145 rfl d_MM_workOut_23 h11 ?_
  have hE0 : ((mI M (mR M a0 24) 1 ≤ 0) ∨ (¬ (mI M a0 16 = 0))) → mWm G y_MM_workOut (d + 1) 141 [vr a0, vr a1, vd, vd, vd] [] M (fun r9 M9 => r9 = none ∧ Q M9) := by
    intro q15
    have h := h.1 q15
    refine wm_return d_MM_workOut_141 rfl ?_
    exact ⟨rfl, h⟩
  have hE1 : ¬ ((mI M (mR M a0 24) 1 ≤ 0) ∨ (¬ (mI M a0 16 = 0))) → mWm G y_MM_workOut (d + 1) 36 [vr a0, vr a1, vd, vd, vd] [] M (fun r9 M9 => r9 = none ∧ Q M9) := by
    intro q16
    have h := h.2 q16
    refine wm_aload_n d_MM_workOut_36 rfl rfl ?_
    refine gf_MM_70 rfl d_MM_workOut_37 h10 ?_
    refine cf_MM_232 rfl d_MM_workOut_40 h11 (Nat.le_of_ble_eq_true rfl) (Ci.mono h (fun x18 M17 h => ?_))
    obtain ⟨h19, hOM17, h⟩ := h
    obtain ⟨h20, h⟩ := h
    obtain ⟨h21, h⟩ := h
    refine wm_istore_n d_MM_workOut_43 rfl (by decide) (L' := [vr a0, vr a1, vd, vi x18, vd]) rfl ?_
    refine wm_aload_n d_MM_workOut_44 rfl rfl ?_
    refine gf_MM_70 rfl d_MM_workOut_45 h20 ?_
    refine cf_MM_232 rfl d_MM_workOut_48 h21 (Nat.le_of_ble_eq_true rfl) (Ci.mono h (fun x23 M22 h => ?_))
    obtain ⟨h24, hOM22, h⟩ := h
    refine wm_istore d_MM_workOut_51 (by decide) (L' := [vr a0, vr a1, vd, vi x18, vi x23]) rfl ?_
    refine wm_iload d_MM_workOut_53 rfl ?_
    refine wm_if_ne (tgt := 67) d_MM_workOut_55 rfl h24 (fun c28 => ?_) (fun c28 => ?_)
    · replace h := h.2 c28
      refine wm_iload d_MM_workOut_67 rfl ?_
      refine wm_iconst d_MM_workOut_69 ?_
      refine wm_icmp_ne (tgt := 82) d_MM_workOut_70 rfl h24 ⟨by decide, by decide⟩ (fun c35 => ?_) (fun c35 => ?_)
      · replace h := h.2 c35
        refine wm_iload d_MM_workOut_82 rfl ?_
        refine wm_iconst d_MM_workOut_84 ?_
        refine wm_icmp_ne (tgt := 97) d_MM_workOut_85 rfl h24 ⟨by decide, by decide⟩ (fun c41 => ?_) (fun c41 => ?_)
        · replace h := h.2 c41
          obtain ⟨h46, h⟩ := h
          obtain ⟨h47, h⟩ := h
          obtain ⟨h48, h⟩ := h
          obtain ⟨M49, e50⟩ : ∃ M49, M49 = mUI M22 (mR M22 a0 26) (Int.toNat x18) 1 := ⟨_, rfl⟩
          replace h := h M49 e50
          obtain ⟨h51, h⟩ := h
          obtain ⟨h52, h⟩ := h
          obtain ⟨h53, h⟩ := h
          obtain ⟨h54, h⟩ := h
          obtain ⟨M55, e56⟩ : ∃ M55, M55 = mUL M49 (mR M49 a0 27) (Int.toNat x18) (mL M49 (mR M49 a0 21) (Int.toNat ((mI M49 a0 23) - 1))) := ⟨_, rfl⟩
          replace h := h M55 e56
          obtain ⟨h57, h⟩ := h
          obtain ⟨h58, h⟩ := h
          obtain ⟨h59, h⟩ := h
          obtain ⟨h60, h⟩ := h
          obtain ⟨M61, e62⟩ : ∃ M61, M61 = mUL M55 (mR M55 a0 28) (Int.toNat x18) (mL M55 (mR M55 a0 22) (Int.toNat ((mI M55 a0 23) - 1))) := ⟨_, rfl⟩
          replace h := h M61 e62
          refine wm_aload_n d_MM_workOut_97 rfl rfl ?_
          refine gf_MM_77 rfl d_MM_workOut_98 h46 ?_
          refine wm_iload_n d_MM_workOut_101 rfl rfl ?_
          refine wm_iconst d_MM_workOut_102 ?_
          have hOM49 : mOk M49 := by rw [e50]; exact mOk_UI hOM22 (m_b32 (by decide))
          refine wm_zastE d_MM_workOut_103 h47 h48 (by decide) e50 ?_
          refine wm_aload_n d_MM_workOut_104 rfl rfl ?_
          refine gf_MM_81 rfl d_MM_workOut_105 (by rw [e50]; exact h46) ?_
          refine wm_iload_n d_MM_workOut_108 rfl rfl ?_
          refine wm_aload_n d_MM_workOut_109 rfl rfl ?_
          refine gf_MM_63 rfl d_MM_workOut_110 (by rw [e50]; exact h46) ?_
          refine wm_aload_n d_MM_workOut_113 rfl rfl ?_
          refine gf_MM_370 rfl d_MM_workOut_114 (by rw [e50]; exact h46) ?_
          refine wm_iconst d_MM_workOut_117 ?_
          refine wm_isub d_MM_workOut_118 ?_
          refine wm_lald d_MM_workOut_119 h51 h52 ?_
          have hOM55 : mOk M55 := by rw [e56]; exact mOk_UL hOM49 (hOM49 _ _).2
          refine wm_lastE d_MM_workOut_120 h53 h54 (hOM49 _ _).2 e56 ?_
          refine wm_aload_n d_MM_workOut_121 rfl rfl ?_
          refine gf_MM_84 rfl d_MM_workOut_122 (by rw [e56, e50]; exact h46) ?_
          refine wm_iload_n d_MM_workOut_125 rfl rfl ?_
          refine wm_aload_n d_MM_workOut_126 rfl rfl ?_
          refine gf_MM_67 rfl d_MM_workOut_127 (by rw [e56, e50]; exact h46) ?_
          refine wm_aload_n d_MM_workOut_130 rfl rfl ?_
          refine gf_MM_370 rfl d_MM_workOut_131 (by rw [e56, e50]; exact h46) ?_
          refine wm_iconst d_MM_workOut_134 ?_
          refine wm_isub d_MM_workOut_135 ?_
          refine wm_lald d_MM_workOut_136 h57 h58 ?_
          have hOM61 : mOk M61 := by rw [e62]; exact mOk_UL hOM55 (hOM55 _ _).2
          refine wm_lastE d_MM_workOut_137 h59 h60 (hOM55 _ _).2 e62 ?_
          refine wm_less (L' := [vr a0, vr a1, vd, vd, vd]) ⟨Or.inr rfl, Or.inr rfl, Or.inl rfl, Or.inl rfl, Or.inl rfl, trivial⟩ ?_
          exact h
        · replace c41 := Classical.not_not.mp c41
          replace h := h.1 c41
          obtain ⟨h42, h⟩ := h
          refine wm_aload_n d_MM_workOut_88 rfl rfl ?_
          refine wm_aload_n d_MM_workOut_89 rfl rfl ?_
          refine wm_iload_n d_MM_workOut_90 rfl rfl ?_
          refine cf_MM_394 rfl d_MM_workOut_91 h42 (Nat.le_of_ble_eq_true rfl) (Cv.mono h (fun M43 h => ?_))
          obtain ⟨hOM43, h⟩ := h
          refine wm_goto (tgt := 138) d_MM_workOut_94 rfl ?_
          refine wm_less (L' := [vr a0, vr a1, vd, vd, vd]) ⟨Or.inr rfl, Or.inr rfl, Or.inl rfl, Or.inl rfl, Or.inl rfl, trivial⟩ ?_
          exact h
      · replace c35 := Classical.not_not.mp c35
        replace h := h.1 c35
        obtain ⟨h36, h⟩ := h
        refine wm_aload_n d_MM_workOut_73 rfl rfl ?_
        refine wm_aload_n d_MM_workOut_74 rfl rfl ?_
        refine wm_iload_n d_MM_workOut_75 rfl rfl ?_
        refine cf_MM_391 rfl d_MM_workOut_76 h36 (Nat.le_of_ble_eq_true rfl) (Cv.mono h (fun M37 h => ?_))
        obtain ⟨hOM37, h⟩ := h
        refine wm_goto (tgt := 138) d_MM_workOut_79 rfl ?_
        refine wm_less (L' := [vr a0, vr a1, vd, vd, vd]) ⟨Or.inr rfl, Or.inr rfl, Or.inl rfl, Or.inl rfl, Or.inl rfl, trivial⟩ ?_
        exact h
    · replace c28 := Classical.not_not.mp c28
      replace h := h.1 c28
      obtain ⟨h29, h⟩ := h
      refine wm_aload_n d_MM_workOut_58 rfl rfl ?_
      refine wm_aload_n d_MM_workOut_59 rfl rfl ?_
      refine wm_iload_n d_MM_workOut_60 rfl rfl ?_
      refine cf_MM_387 rfl d_MM_workOut_61 h29 (Nat.le_of_ble_eq_true rfl) (Cv.mono h (fun M30 h => ?_))
      obtain ⟨hOM30, h⟩ := h
      refine wm_goto (tgt := 138) d_MM_workOut_64 rfl ?_
      refine wm_less (L' := [vr a0, vr a1, vd, vd, vd]) ⟨Or.inr rfl, Or.inr rfl, Or.inl rfl, Or.inl rfl, Or.inl rfl, trivial⟩ ?_
      exact h
  clear h
  refine wm_if_le (tgt := 141) d_MM_workOut_26 rfl (hO _ _).1 (fun c13 => ?_) (fun c13 => ?_)
  · exact hE0 (Or.inl c13)
  · refine wm_aload_n d_MM_workOut_29 rfl rfl ?_
    refine gf_MM_267 rfl d_MM_workOut_30 h10 ?_
    refine wm_if_ne (tgt := 141) d_MM_workOut_33 rfl (hO _ _).1 (fun c12 => ?_) (fun c12 => ?_)
    · exact hE0 (Or.inr c12)
    · replace c12 := Classical.not_not.mp c12
      exact hE1 (fun z63 => Or.elim z63 c13 (fun z64 => z64 c12))
theorem k_MM_workOut_138 {G : mG} {d : Nat} {a0 : Nat} {a1 : Nat} {M : mM} {Q : mM → Prop} (hO : mOk M)
    (h : h_MM_workOut_19 G d a0 a1 M Q) :
    h_MM_workOut_138 G d a0 a1 M Q := by
  unfold h_MM_workOut_138
  refine wm_goto (tgt := 19) d_MM_workOut_138 rfl ?_
  exact h
theorem d_MM_begin_0 : decode y_MM_begin.2.1 0 = .ok (.aload_n 1, 1) := dc9_43 (by decide +kernel)
theorem d_MM_begin_1 : decode y_MM_begin.2.1 1 = .ok (.getfield 273, 3) := dc9_180 (by decide +kernel)
theorem d_MM_begin_4 : decode y_MM_begin.2.1 4 = .ok (.iload_n 2, 1) := dc9_28 (by decide +kernel)
theorem d_MM_begin_5 : decode y_MM_begin.2.1 5 = .ok (.invokevirtual 155, 3) := dc9_182 (by decide +kernel)
theorem d_MM_begin_8 : decode y_MM_begin.2.1 8 = .ok (.istore_n 3, 1) := dc9_62 (by decide +kernel)
theorem d_MM_begin_9 : decode y_MM_begin.2.1 9 = .ok (.aload_n 1, 1) := dc9_43 (by decide +kernel)
theorem d_MM_begin_10 : decode y_MM_begin.2.1 10 = .ok (.getfield 287, 3) := dc9_180 (by decide +kernel)
theorem d_MM_begin_13 : decode y_MM_begin.2.1 13 = .ok (.iload_n 2, 1) := dc9_28 (by decide +kernel)
theorem d_MM_begin_14 : decode y_MM_begin.2.1 14 = .ok (.invokevirtual 155, 3) := dc9_182 (by decide +kernel)
theorem d_MM_begin_17 : decode y_MM_begin.2.1 17 = .ok (.istore 4, 2) := dc9_54 (by decide +kernel)
theorem d_MM_begin_19 : decode y_MM_begin.2.1 19 = .ok (.iload_n 3, 1) := dc9_29 (by decide +kernel)
theorem d_MM_begin_20 : decode y_MM_begin.2.1 20 = .ok (.lookupswitch 127 #[(1, 99), (2, 68), (12, 83), (13, 83), (29, 113), (30, 113), (32, 113)], 68) := by decide +kernel
theorem z_MM_begin_20_s : lkS #[(1, 99), (2, 68), (12, 83), (13, 83), (29, 113), (30, 113), (32, 113)] := by unfold lkS; decide
theorem d_MM_begin_119 : decode y_MM_begin.2.1 119 = .ok (.aload_n 0, 1) := dc9_42 (by decide +kernel)
theorem d_MM_begin_120 : decode y_MM_begin.2.1 120 = .ok (.aload_n 1, 1) := dc9_43 (by decide +kernel)
theorem d_MM_begin_121 : decode y_MM_begin.2.1 121 = .ok (.aload_n 1, 1) := dc9_43 (by decide +kernel)
theorem d_MM_begin_122 : decode y_MM_begin.2.1 122 = .ok (.getfield 284, 3) := dc9_180 (by decide +kernel)
theorem d_MM_begin_125 : decode y_MM_begin.2.1 125 = .ok (.iload_n 2, 1) := dc9_28 (by decide +kernel)
theorem d_MM_begin_126 : decode y_MM_begin.2.1 126 = .ok (.invokevirtual 155, 3) := dc9_182 (by decide +kernel)
theorem d_MM_begin_129 : decode y_MM_begin.2.1 129 = .ok (.invokevirtual 401, 3) := dc9_182 (by decide +kernel)
theorem d_MM_begin_132 : decode y_MM_begin.2.1 132 = .ok (.return_, 1) := dc9_177 (by decide +kernel)
theorem d_MM_begin_88 : decode y_MM_begin.2.1 88 = .ok (.aload_n 0, 1) := dc9_42 (by decide +kernel)
theorem d_MM_begin_89 : decode y_MM_begin.2.1 89 = .ok (.aload_n 1, 1) := dc9_43 (by decide +kernel)
theorem d_MM_begin_90 : decode y_MM_begin.2.1 90 = .ok (.getfield 284, 3) := dc9_180 (by decide +kernel)
theorem d_MM_begin_93 : decode y_MM_begin.2.1 93 = .ok (.iload_n 2, 1) := dc9_28 (by decide +kernel)
theorem d_MM_begin_94 : decode y_MM_begin.2.1 94 = .ok (.invokevirtual 155, 3) := dc9_182 (by decide +kernel)
theorem d_MM_begin_97 : decode y_MM_begin.2.1 97 = .ok (.i2l, 1) := dc9_133 (by decide +kernel)
theorem d_MM_begin_98 : decode y_MM_begin.2.1 98 = .ok (.lconst 1, 1) := dc9_10 (by decide +kernel)
theorem d_MM_begin_99 : decode y_MM_begin.2.1 99 = .ok (.invokevirtual 373, 3) := dc9_182 (by decide +kernel)
theorem d_MM_begin_102 : decode y_MM_begin.2.1 102 = .ok (.return_, 1) := dc9_177 (by decide +kernel)
theorem d_MM_begin_103 : decode y_MM_begin.2.1 103 = .ok (.aload_n 0, 1) := dc9_42 (by decide +kernel)
theorem d_MM_begin_104 : decode y_MM_begin.2.1 104 = .ok (.iload_n 3, 1) := dc9_29 (by decide +kernel)
theorem d_MM_begin_105 : decode y_MM_begin.2.1 105 = .ok (.bipush 12, 2) := dc9_16 (by decide +kernel)
theorem d_MM_begin_107 : decode y_MM_begin.2.1 107 = .ok (.if_icmp .ne 7, 3) := dc9_160 (by decide +kernel)
theorem d_MM_begin_110 : decode y_MM_begin.2.1 110 = .ok (.iconst 1, 1) := dc9_4 (by decide +kernel)
theorem d_MM_begin_111 : decode y_MM_begin.2.1 111 = .ok (.goto 4, 3) := dc9_167 (by decide +kernel)
theorem d_MM_begin_114 : decode y_MM_begin.2.1 114 = .ok (.iconst 0, 1) := dc9_3 (by decide +kernel)
theorem d_MM_begin_115 : decode y_MM_begin.2.1 115 = .ok (.invokevirtual 397, 3) := dc9_182 (by decide +kernel)
theorem d_MM_begin_118 : decode y_MM_begin.2.1 118 = .ok (.return_, 1) := dc9_177 (by decide +kernel)
theorem d_MM_begin_133 : decode y_MM_begin.2.1 133 = .ok (.aload_n 0, 1) := dc9_42 (by decide +kernel)
theorem d_MM_begin_134 : decode y_MM_begin.2.1 134 = .ok (.iconst 2, 1) := dc9_5 (by decide +kernel)
theorem d_MM_begin_135 : decode y_MM_begin.2.1 135 = .ok (.iload_n 2, 1) := dc9_28 (by decide +kernel)
theorem d_MM_begin_136 : decode y_MM_begin.2.1 136 = .ok (.invokevirtual 385, 3) := dc9_182 (by decide +kernel)
theorem d_MM_begin_139 : decode y_MM_begin.2.1 139 = .ok (.aload_n 0, 1) := dc9_42 (by decide +kernel)
theorem d_MM_begin_140 : decode y_MM_begin.2.1 140 = .ok (.iconst 0, 1) := dc9_3 (by decide +kernel)
theorem d_MM_begin_141 : decode y_MM_begin.2.1 141 = .ok (.iload 4, 2) := dc9_21 (by decide +kernel)
theorem d_MM_begin_143 : decode y_MM_begin.2.1 143 = .ok (.invokevirtual 385, 3) := dc9_182 (by decide +kernel)
theorem d_MM_begin_146 : decode y_MM_begin.2.1 146 = .ok (.return_, 1) := dc9_177 (by decide +kernel)
theorem d_MM_begin_147 : decode y_MM_begin.2.1 147 = .ok (.aload_n 0, 1) := dc9_42 (by decide +kernel)
theorem d_MM_begin_148 : decode y_MM_begin.2.1 148 = .ok (.iconst 1, 1) := dc9_4 (by decide +kernel)
theorem d_MM_begin_149 : decode y_MM_begin.2.1 149 = .ok (.iload_n 2, 1) := dc9_28 (by decide +kernel)
theorem d_MM_begin_150 : decode y_MM_begin.2.1 150 = .ok (.invokevirtual 385, 3) := dc9_182 (by decide +kernel)
theorem d_MM_begin_153 : decode y_MM_begin.2.1 153 = .ok (.aload_n 0, 1) := dc9_42 (by decide +kernel)
theorem d_MM_begin_154 : decode y_MM_begin.2.1 154 = .ok (.getfield 70, 3) := dc9_180 (by decide +kernel)
theorem d_MM_begin_157 : decode y_MM_begin.2.1 157 = .ok (.getfield 145, 3) := dc9_180 (by decide +kernel)
theorem d_MM_begin_160 : decode y_MM_begin.2.1 160 = .ok (.istore 5, 2) := dc9_54 (by decide +kernel)
theorem d_MM_begin_162 : decode y_MM_begin.2.1 162 = .ok (.iload 4, 2) := dc9_21 (by decide +kernel)
theorem d_MM_begin_164 : decode y_MM_begin.2.1 164 = .ok (.istore 6, 2) := dc9_54 (by decide +kernel)
theorem d_MM_begin_166 : decode y_MM_begin.2.1 166 = .ok (.iload 6, 2) := dc9_21 (by decide +kernel)
theorem d_MM_begin_168 : decode y_MM_begin.2.1 168 = .ok (.ifCond .lt 24, 3) := dc9_155 (by decide +kernel)
theorem d_MM_begin_192 : decode y_MM_begin.2.1 192 = .ok (.aload_n 0, 1) := dc9_42 (by decide +kernel)
theorem d_MM_begin_193 : decode y_MM_begin.2.1 193 = .ok (.iload 5, 2) := dc9_21 (by decide +kernel)
theorem d_MM_begin_171 : decode y_MM_begin.2.1 171 = .ok (.aload_n 0, 1) := dc9_42 (by decide +kernel)
theorem d_MM_begin_172 : decode y_MM_begin.2.1 172 = .ok (.iconst 0, 1) := dc9_3 (by decide +kernel)
theorem d_MM_begin_173 : decode y_MM_begin.2.1 173 = .ok (.iload 6, 2) := dc9_21 (by decide +kernel)
theorem d_MM_begin_195 : decode y_MM_begin.2.1 195 = .ok (.invokevirtual 404, 3) := dc9_182 (by decide +kernel)
theorem d_MM_begin_198 : decode y_MM_begin.2.1 198 = .ok (.return_, 1) := dc9_177 (by decide +kernel)
theorem d_MM_begin_175 : decode y_MM_begin.2.1 175 = .ok (.invokevirtual 385, 3) := dc9_182 (by decide +kernel)
theorem d_MM_begin_178 : decode y_MM_begin.2.1 178 = .ok (.aload_n 1, 1) := dc9_43 (by decide +kernel)
theorem d_MM_begin_179 : decode y_MM_begin.2.1 179 = .ok (.getfield 290, 3) := dc9_180 (by decide +kernel)
theorem d_MM_begin_182 : decode y_MM_begin.2.1 182 = .ok (.iload 6, 2) := dc9_21 (by decide +kernel)
theorem d_MM_begin_184 : decode y_MM_begin.2.1 184 = .ok (.invokevirtual 155, 3) := dc9_182 (by decide +kernel)
theorem d_MM_begin_187 : decode y_MM_begin.2.1 187 = .ok (.istore 6, 2) := dc9_54 (by decide +kernel)
theorem d_MM_begin_189 : decode y_MM_begin.2.1 189 = .ok (.goto (-23), 3) := dc9_167 (by decide +kernel)
def h_MM_begin_166 (G : mG) (d : Nat) (a0 : Nat) (a1 : Nat) (l5 : Int) (l6 : Int) (M : mM) (Q : mM → Prop) : Prop := mWm G y_MM_begin (d + 1) 166 [vr a0, vr a1, vd, vd, vd, vi l5, vi l6] [] M (fun r9 M9 => r9 = none ∧ Q M9)
theorem k_MM_begin {G : mG} {d : Nat} {a0 : Nat} {a1 : Nat} {l2 : Int} {M : mM} {Q : mM → Prop} (hO : mOk M) (hi_l2 : i32 l2)
    (h : mK M a1 = 16 ∧ mK M (mR M a1 0) = 15 ∧ Ci G y_MN_at d [vr (mR M a1 0), vi l2] M (fun x4 M3 => i32 x4 ∧ mOk M3 ∧ (mK M3 a1 = 16 ∧ mK M3 (mR M3 a1 4) = 15 ∧ Ci G y_MN_at d [vr (mR M3 a1 4), vi l2] M3 (fun x9 M8 => i32 x9 ∧ mOk M8 ∧ (((x4 = 1) → (mK M8 a1 = 16 ∧ mK M8 (mR M8 a1 3) = 15 ∧ Ci G y_MN_at d [vr (mR M8 a1 3), vi l2] M8 (fun x15 M14 => i32 x15 ∧ mOk M14 ∧ (mK M14 a0 = 14 ∧ Cv G y_MM_name d [vr a0, vr a1, vi x15] M14 (fun M18 => mOk M18 ∧ (Q M18)))))) ∧ (¬ (x4 = 1) → (((x4 = 2) → (mK M8 a1 = 16 ∧ mK M8 (mR M8 a1 3) = 15 ∧ Ci G y_MN_at d [vr (mR M8 a1 3), vi l2] M8 (fun x25 M24 => i32 x25 ∧ mOk M24 ∧ (mK M24 a0 = 14 ∧ Cv G y_MM_push d [vr a0, vl x25, vl 1] M24 (fun M28 => mOk M28 ∧ (Q M28)))))) ∧ (¬ (x4 = 2) → (((x4 = 12 ∨ x4 = 13) → (∀ v33 : Int, v33 = (if (x4 = 12) then 1 else 0) → mK M8 a0 = 14 ∧ Cv G y_MM_pushTruth d [vr a0, vi v33] M8 (fun M39 => mOk M39 ∧ (Q M39)))) ∧ (¬ (x4 = 12 ∨ x4 = 13) → (((x4 = 29 ∨ x4 = 30 ∨ x4 = 32) → (mK M8 a0 = 14 ∧ Cv G y_MM_todo d [vr a0, vi 2, vi l2] M8 (fun M45 => mOk M45 ∧ (mK M45 a0 = 14 ∧ Cv G y_MM_todo d [vr a0, vi 0, vi x9] M45 (fun M49 => mOk M49 ∧ (Q M49)))))) ∧ (¬ (x4 = 29 ∨ x4 = 30 ∨ x4 = 32) → (mK M8 a0 = 14 ∧ Cv G y_MM_todo d [vr a0, vi 1, vi l2] M8 (fun M53 => mOk M53 ∧ (mK M53 a0 = 14 ∧ mK M53 (mR M53 a0 24) = 15 ∧ h_MM_begin_166 G d a0 a1 (mI M53 (mR M53 a0 24) 1) x9 M53 Q))))))))))))))) :
    Cv G y_MM_begin (d + 1) [vr a0, vr a1, vi l2] M Q := by
  refine wm_open (y := y_MM_begin) rfl (Nat.le_of_ble_eq_true rfl) (L := [vr a0, vr a1, vi l2, vd, vd, vd, vd]) rfl ?_
  obtain ⟨h1, h⟩ := h
  obtain ⟨h2, h⟩ := h
  refine wm_aload_n d_MM_begin_0 rfl rfl ?_
  refine gf_MM_273 rfl d_MM_begin_1 h1 ?_
  refine wm_iload_n d_MM_begin_4 rfl rfl ?_
  refine cf_MM_155 rfl d_MM_begin_5 h2 (Nat.le_of_ble_eq_true rfl) (Ci.mono h (fun x4 M3 h => ?_))
  obtain ⟨h5, hOM3, h⟩ := h
  obtain ⟨h6, h⟩ := h
  obtain ⟨h7, h⟩ := h
  refine wm_istore_n d_MM_begin_8 rfl (by decide) (L' := [vr a0, vr a1, vi l2, vi x4, vd, vd, vd]) rfl ?_
  refine wm_aload_n d_MM_begin_9 rfl rfl ?_
  refine gf_MM_287 rfl d_MM_begin_10 h6 ?_
  refine wm_iload_n d_MM_begin_13 rfl rfl ?_
  refine cf_MM_155 rfl d_MM_begin_14 h7 (Nat.le_of_ble_eq_true rfl) (Ci.mono h (fun x9 M8 h => ?_))
  obtain ⟨h10, hOM8, h⟩ := h
  refine wm_istore d_MM_begin_17 (by decide) (L' := [vr a0, vr a1, vi l2, vi x4, vi x9, vd, vd]) rfl ?_
  refine wm_iload_n d_MM_begin_19 rfl rfl ?_
  by_cases c11 : x4 = 1
  · replace h := h.1 c11
    refine wm_lookup (tgt := 119) (off := 99) d_MM_begin_20 z_MM_begin_20_s h5 (by rw [c11]; rfl) rfl ?_
    obtain ⟨h12, h⟩ := h
    obtain ⟨h13, h⟩ := h
    refine wm_aload_n d_MM_begin_119 rfl rfl ?_
    refine wm_aload_n d_MM_begin_120 rfl rfl ?_
    refine wm_aload_n d_MM_begin_121 rfl rfl ?_
    refine gf_MM_284 rfl d_MM_begin_122 h12 ?_
    refine wm_iload_n d_MM_begin_125 rfl rfl ?_
    refine cf_MM_155 rfl d_MM_begin_126 h13 (Nat.le_of_ble_eq_true rfl) (Ci.mono h (fun x15 M14 h => ?_))
    obtain ⟨h16, hOM14, h⟩ := h
    obtain ⟨h17, h⟩ := h
    refine cf_MM_401 rfl d_MM_begin_129 h17 (Nat.le_of_ble_eq_true rfl) (Cv.mono h (fun M18 h => ?_))
    obtain ⟨hOM18, h⟩ := h
    refine wm_return d_MM_begin_132 rfl ?_
    exact ⟨rfl, h⟩
  · replace h := h.2 c11
    by_cases c21 : x4 = 2
    · replace h := h.1 c21
      refine wm_lookup (tgt := 88) (off := 68) d_MM_begin_20 z_MM_begin_20_s h5 (by rw [c21]; rfl) rfl ?_
      obtain ⟨h22, h⟩ := h
      obtain ⟨h23, h⟩ := h
      refine wm_aload_n d_MM_begin_88 rfl rfl ?_
      refine wm_aload_n d_MM_begin_89 rfl rfl ?_
      refine gf_MM_284 rfl d_MM_begin_90 h22 ?_
      refine wm_iload_n d_MM_begin_93 rfl rfl ?_
      refine cf_MM_155 rfl d_MM_begin_94 h23 (Nat.le_of_ble_eq_true rfl) (Ci.mono h (fun x25 M24 h => ?_))
      obtain ⟨h26, hOM24, h⟩ := h
      obtain ⟨h27, h⟩ := h
      refine wm_i2l d_MM_begin_97 h26 ?_
      refine wm_lconst (x := 1) d_MM_begin_98 rfl ?_
      refine cf_MM_373 rfl d_MM_begin_99 h27 (Nat.le_of_ble_eq_true rfl) (Cv.mono h (fun M28 h => ?_))
      obtain ⟨hOM28, h⟩ := h
      refine wm_return d_MM_begin_102 rfl ?_
      exact ⟨rfl, h⟩
    · replace h := h.2 c21
      by_cases c31 : x4 = 12 ∨ x4 = 13
      · replace h := h.1 c31
        refine wm_lookup (tgt := 103) (off := 83) d_MM_begin_20 z_MM_begin_20_s h5 (by rcases c31 with q9 | q9 <;> (rw [q9]; rfl)) rfl ?_
        refine wm_aload_n d_MM_begin_103 rfl rfl ?_
        refine wm_iload_n d_MM_begin_104 rfl rfl ?_
        refine wm_bipush d_MM_begin_105 (by decide) ?_
        have hJ : ∀ v33 : Int, v33 = (if (x4 = 12) then 1 else 0) → mWm G y_MM_begin (d + 1) 115 [vd, vd, vd, vd, vd, vd, vd] [vi v33, vr a0] M8 (fun r9 M9 => r9 = none ∧ Q M9) := by
          intro v33 e35
          have h := h v33 e35
          have h36 : i32 v33 := by rw [e35]; (repeat' split) <;> first | exact ⟨by decide, by decide⟩ | exact ⟨by decide, by decide⟩
          have h37 : (v33 = 0 ∨ v33 = 1) := by rw [e35]; (repeat' split) <;> decide
          obtain ⟨h38, h⟩ := h
          refine cf_MM_397 rfl d_MM_begin_115 h38 (Nat.le_of_ble_eq_true rfl) (Cv.mono h (fun M39 h => ?_))
          obtain ⟨hOM39, h⟩ := h
          refine wm_return d_MM_begin_118 rfl ?_
          exact ⟨rfl, h⟩
        clear h
        refine wm_icmp_ne (tgt := 114) d_MM_begin_107 rfl h5 ⟨by decide, by decide⟩ (fun c32 => ?_) (fun c32 => ?_)
        · refine wm_iconst d_MM_begin_114 ?_
          refine wm_less (L' := [vd, vd, vd, vd, vd, vd, vd]) ⟨Or.inl rfl, Or.inl rfl, Or.inl rfl, Or.inl rfl, Or.inl rfl, Or.inl rfl, Or.inl rfl, trivial⟩ ?_
          exact hJ 0 (if_neg c32).symm
        · replace c32 := Classical.not_not.mp c32
          refine wm_iconst d_MM_begin_110 ?_
          refine wm_goto (tgt := 115) d_MM_begin_111 rfl ?_
          refine wm_less (L' := [vd, vd, vd, vd, vd, vd, vd]) ⟨Or.inl rfl, Or.inl rfl, Or.inl rfl, Or.inl rfl, Or.inl rfl, Or.inl rfl, Or.inl rfl, trivial⟩ ?_
          exact hJ 1 (if_pos c32).symm
      · replace h := h.2 c31
        by_cases c43 : x4 = 29 ∨ x4 = 30 ∨ x4 = 32
        · replace h := h.1 c43
          refine wm_lookup (tgt := 133) (off := 113) d_MM_begin_20 z_MM_begin_20_s h5 (by rcases c43 with q9 | q9 | q9 <;> (rw [q9]; rfl)) rfl ?_
          obtain ⟨h44, h⟩ := h
          refine wm_aload_n d_MM_begin_133 rfl rfl ?_
          refine wm_iconst d_MM_begin_134 ?_
          refine wm_iload_n d_MM_begin_135 rfl rfl ?_
          refine cf_MM_385 rfl d_MM_begin_136 h44 (Nat.le_of_ble_eq_true rfl) (Cv.mono h (fun M45 h => ?_))
          obtain ⟨hOM45, h⟩ := h
          obtain ⟨h48, h⟩ := h
          refine wm_aload_n d_MM_begin_139 rfl rfl ?_
          refine wm_iconst d_MM_begin_140 ?_
          refine wm_iload d_MM_begin_141 rfl ?_
          refine cf_MM_385 rfl d_MM_begin_143 h48 (Nat.le_of_ble_eq_true rfl) (Cv.mono h (fun M49 h => ?_))
          obtain ⟨hOM49, h⟩ := h
          refine wm_return d_MM_begin_146 rfl ?_
          exact ⟨rfl, h⟩
        · replace h := h.2 c43
          refine wm_lookup (tgt := 147) (off := 127) d_MM_begin_20 z_MM_begin_20_s h5 (by simp [Op.lookupswitch.offset]; repeat rw [if_neg (by omega)]) rfl ?_
          obtain ⟨h52, h⟩ := h
          refine wm_aload_n d_MM_begin_147 rfl rfl ?_
          refine wm_iconst d_MM_begin_148 ?_
          refine wm_iload_n d_MM_begin_149 rfl rfl ?_
          refine cf_MM_385 rfl d_MM_begin_150 h52 (Nat.le_of_ble_eq_true rfl) (Cv.mono h (fun M53 h => ?_))
          obtain ⟨hOM53, h⟩ := h
          obtain ⟨h56, h⟩ := h
          obtain ⟨h57, h⟩ := h
          refine wm_aload_n d_MM_begin_153 rfl rfl ?_
          refine gf_MM_70 rfl d_MM_begin_154 h56 ?_
          refine gf_MM_145 rfl d_MM_begin_157 h57 ?_
          refine wm_istore d_MM_begin_160 (by decide) (L' := [vr a0, vr a1, vi l2, vi x4, vi x9, vi (mI M53 (mR M53 a0 24) 1), vd]) rfl ?_
          refine wm_iload d_MM_begin_162 rfl ?_
          refine wm_istore d_MM_begin_164 (by decide) (L' := [vr a0, vr a1, vi l2, vi x4, vi x9, vi (mI M53 (mR M53 a0 24) 1), vi x9]) rfl ?_
          refine wm_less (L' := [vr a0, vr a1, vd, vd, vd, vi (mI M53 (mR M53 a0 24) 1), vi x9]) ⟨Or.inr rfl, Or.inr rfl, Or.inl rfl, Or.inl rfl, Or.inl rfl, Or.inr rfl, Or.inr rfl, trivial⟩ ?_
          exact h
theorem k_MM_begin_166 {G : mG} {d : Nat} {a0 : Nat} {a1 : Nat} {l5 : Int} {l6 : Int} {M : mM} {Q : mM → Prop} (hO : mOk M) (hi_l5 : i32 l5) (hi_l6 : i32 l6)
    (h : ((l6 < 0) → (mK M a0 = 14 ∧ Cv G y_MM_turnTodo d [vr a0, vi l5] M (fun M61 => mOk M61 ∧ (Q M61)))) ∧ (¬ (l6 < 0) → (mK M a0 = 14 ∧ Cv G y_MM_todo d [vr a0, vi 0, vi l6] M (fun M65 => mOk M65 ∧ (mK M65 a1 = 16 ∧ mK M65 (mR M65 a1 5) = 15 ∧ Ci G y_MN_at d [vr (mR M65 a1 5), vi l6] M65 (fun x71 M70 => i32 x71 ∧ mOk M70 ∧ (h_MM_begin_166 G d a0 a1 l5 x71 M70 Q))))))) :
    h_MM_begin_166 G d a0 a1 l5 l6 M Q := by
  unfold h_MM_begin_166
  refine wm_iload d_MM_begin_166 rfl ?_
  refine wm_if_lt (tgt := 192) d_MM_begin_168 rfl hi_l6 (fun c59 => ?_) (fun c59 => ?_)
  · replace h := h.1 c59
    obtain ⟨h60, h⟩ := h
    refine wm_aload_n d_MM_begin_192 rfl rfl ?_
    refine wm_iload d_MM_begin_193 rfl ?_
    refine cf_MM_404 rfl d_MM_begin_195 h60 (Nat.le_of_ble_eq_true rfl) (Cv.mono h (fun M61 h => ?_))
    obtain ⟨hOM61, h⟩ := h
    refine wm_return d_MM_begin_198 rfl ?_
    exact ⟨rfl, h⟩
  · replace h := h.2 c59
    obtain ⟨h64, h⟩ := h
    refine wm_aload_n d_MM_begin_171 rfl rfl ?_
    refine wm_iconst d_MM_begin_172 ?_
    refine wm_iload d_MM_begin_173 rfl ?_
    refine cf_MM_385 rfl d_MM_begin_175 h64 (Nat.le_of_ble_eq_true rfl) (Cv.mono h (fun M65 h => ?_))
    obtain ⟨hOM65, h⟩ := h
    obtain ⟨h68, h⟩ := h
    obtain ⟨h69, h⟩ := h
    refine wm_aload_n d_MM_begin_178 rfl rfl ?_
    refine gf_MM_290 rfl d_MM_begin_179 h68 ?_
    refine wm_iload d_MM_begin_182 rfl ?_
    refine cf_MM_155 rfl d_MM_begin_184 h69 (Nat.le_of_ble_eq_true rfl) (Ci.mono h (fun x71 M70 h => ?_))
    obtain ⟨h72, hOM70, h⟩ := h
    refine wm_istore d_MM_begin_187 (by decide) (L' := [vr a0, vr a1, vd, vd, vd, vi l5, vi x71]) rfl ?_
    refine wm_goto (tgt := 166) d_MM_begin_189 rfl ?_
    exact h
theorem d_MM_turnTodo_0 : decode y_MM_turnTodo.2.1 0 = .ok (.iload_n 1, 1) := dc9_27 (by decide +kernel)
theorem d_MM_turnTodo_1 : decode y_MM_turnTodo.2.1 1 = .ok (.istore_n 2, 1) := dc9_61 (by decide +kernel)
theorem d_MM_turnTodo_2 : decode y_MM_turnTodo.2.1 2 = .ok (.aload_n 0, 1) := dc9_42 (by decide +kernel)
theorem d_MM_turnTodo_3 : decode y_MM_turnTodo.2.1 3 = .ok (.getfield 70, 3) := dc9_180 (by decide +kernel)
theorem d_MM_turnTodo_6 : decode y_MM_turnTodo.2.1 6 = .ok (.getfield 145, 3) := dc9_180 (by decide +kernel)
theorem d_MM_turnTodo_9 : decode y_MM_turnTodo.2.1 9 = .ok (.iconst 2, 1) := dc9_5 (by decide +kernel)
theorem d_MM_turnTodo_10 : decode y_MM_turnTodo.2.1 10 = .ok (.isub, 1) := dc9_100 (by decide +kernel)
theorem d_MM_turnTodo_11 : decode y_MM_turnTodo.2.1 11 = .ok (.istore_n 3, 1) := dc9_62 (by decide +kernel)
theorem d_MM_turnTodo_12 : decode y_MM_turnTodo.2.1 12 = .ok (.iload_n 2, 1) := dc9_28 (by decide +kernel)
theorem d_MM_turnTodo_13 : decode y_MM_turnTodo.2.1 13 = .ok (.iload_n 3, 1) := dc9_29 (by decide +kernel)
theorem d_MM_turnTodo_14 : decode y_MM_turnTodo.2.1 14 = .ok (.if_icmp .ge 60, 3) := dc9_162 (by decide +kernel)
theorem d_MM_turnTodo_74 : decode y_MM_turnTodo.2.1 74 = .ok (.return_, 1) := dc9_177 (by decide +kernel)
theorem d_MM_turnTodo_17 : decode y_MM_turnTodo.2.1 17 = .ok (.aload_n 0, 1) := dc9_42 (by decide +kernel)
theorem d_MM_turnTodo_18 : decode y_MM_turnTodo.2.1 18 = .ok (.getfield 70, 3) := dc9_180 (by decide +kernel)
theorem d_MM_turnTodo_21 : decode y_MM_turnTodo.2.1 21 = .ok (.iload_n 2, 1) := dc9_28 (by decide +kernel)
theorem d_MM_turnTodo_22 : decode y_MM_turnTodo.2.1 22 = .ok (.iconst 1, 1) := dc9_4 (by decide +kernel)
theorem d_MM_turnTodo_23 : decode y_MM_turnTodo.2.1 23 = .ok (.iadd, 1) := dc9_96 (by decide +kernel)
theorem d_MM_turnTodo_24 : decode y_MM_turnTodo.2.1 24 = .ok (.invokevirtual 155, 3) := dc9_182 (by decide +kernel)
theorem d_MM_turnTodo_27 : decode y_MM_turnTodo.2.1 27 = .ok (.istore 4, 2) := dc9_54 (by decide +kernel)
theorem d_MM_turnTodo_29 : decode y_MM_turnTodo.2.1 29 = .ok (.aload_n 0, 1) := dc9_42 (by decide +kernel)
theorem d_MM_turnTodo_30 : decode y_MM_turnTodo.2.1 30 = .ok (.getfield 70, 3) := dc9_180 (by decide +kernel)
theorem d_MM_turnTodo_33 : decode y_MM_turnTodo.2.1 33 = .ok (.getfield 293, 3) := dc9_180 (by decide +kernel)
theorem d_MM_turnTodo_36 : decode y_MM_turnTodo.2.1 36 = .ok (.iload_n 2, 1) := dc9_28 (by decide +kernel)
theorem d_MM_turnTodo_37 : decode y_MM_turnTodo.2.1 37 = .ok (.iconst 1, 1) := dc9_4 (by decide +kernel)
theorem d_MM_turnTodo_38 : decode y_MM_turnTodo.2.1 38 = .ok (.iadd, 1) := dc9_96 (by decide +kernel)
theorem d_MM_turnTodo_39 : decode y_MM_turnTodo.2.1 39 = .ok (.aload_n 0, 1) := dc9_42 (by decide +kernel)
theorem d_MM_turnTodo_40 : decode y_MM_turnTodo.2.1 40 = .ok (.getfield 70, 3) := dc9_180 (by decide +kernel)
theorem d_MM_turnTodo_43 : decode y_MM_turnTodo.2.1 43 = .ok (.iload_n 3, 1) := dc9_29 (by decide +kernel)
theorem d_MM_turnTodo_44 : decode y_MM_turnTodo.2.1 44 = .ok (.iconst 1, 1) := dc9_4 (by decide +kernel)
theorem d_MM_turnTodo_45 : decode y_MM_turnTodo.2.1 45 = .ok (.iadd, 1) := dc9_96 (by decide +kernel)
theorem d_MM_turnTodo_46 : decode y_MM_turnTodo.2.1 46 = .ok (.invokevirtual 155, 3) := dc9_182 (by decide +kernel)
theorem d_MM_turnTodo_49 : decode y_MM_turnTodo.2.1 49 = .ok (.iastore, 1) := dc9_79 (by decide +kernel)
theorem d_MM_turnTodo_50 : decode y_MM_turnTodo.2.1 50 = .ok (.aload_n 0, 1) := dc9_42 (by decide +kernel)
theorem d_MM_turnTodo_51 : decode y_MM_turnTodo.2.1 51 = .ok (.getfield 70, 3) := dc9_180 (by decide +kernel)
theorem d_MM_turnTodo_54 : decode y_MM_turnTodo.2.1 54 = .ok (.getfield 293, 3) := dc9_180 (by decide +kernel)
theorem d_MM_turnTodo_57 : decode y_MM_turnTodo.2.1 57 = .ok (.iload_n 3, 1) := dc9_29 (by decide +kernel)
theorem d_MM_turnTodo_58 : decode y_MM_turnTodo.2.1 58 = .ok (.iconst 1, 1) := dc9_4 (by decide +kernel)
theorem d_MM_turnTodo_59 : decode y_MM_turnTodo.2.1 59 = .ok (.iadd, 1) := dc9_96 (by decide +kernel)
theorem d_MM_turnTodo_60 : decode y_MM_turnTodo.2.1 60 = .ok (.iload 4, 2) := dc9_21 (by decide +kernel)
theorem d_MM_turnTodo_62 : decode y_MM_turnTodo.2.1 62 = .ok (.iastore, 1) := dc9_79 (by decide +kernel)
theorem d_MM_turnTodo_63 : decode y_MM_turnTodo.2.1 63 = .ok (.iload_n 2, 1) := dc9_28 (by decide +kernel)
theorem d_MM_turnTodo_64 : decode y_MM_turnTodo.2.1 64 = .ok (.iconst 2, 1) := dc9_5 (by decide +kernel)
theorem d_MM_turnTodo_65 : decode y_MM_turnTodo.2.1 65 = .ok (.iadd, 1) := dc9_96 (by decide +kernel)
theorem d_MM_turnTodo_66 : decode y_MM_turnTodo.2.1 66 = .ok (.istore_n 2, 1) := dc9_61 (by decide +kernel)
theorem d_MM_turnTodo_67 : decode y_MM_turnTodo.2.1 67 = .ok (.iload_n 3, 1) := dc9_29 (by decide +kernel)
theorem d_MM_turnTodo_68 : decode y_MM_turnTodo.2.1 68 = .ok (.iconst 2, 1) := dc9_5 (by decide +kernel)
theorem d_MM_turnTodo_69 : decode y_MM_turnTodo.2.1 69 = .ok (.isub, 1) := dc9_100 (by decide +kernel)
theorem d_MM_turnTodo_70 : decode y_MM_turnTodo.2.1 70 = .ok (.istore_n 3, 1) := dc9_62 (by decide +kernel)
theorem d_MM_turnTodo_71 : decode y_MM_turnTodo.2.1 71 = .ok (.goto (-59), 3) := dc9_167 (by decide +kernel)
def h_MM_turnTodo_12 (G : mG) (d : Nat) (a0 : Nat) (l2 : Int) (l3 : Int) (M : mM) (Q : mM → Prop) : Prop := mWm G y_MM_turnTodo (d + 1) 12 [vr a0, vd, vi l2, vi l3, vd] [] M (fun r9 M9 => r9 = none ∧ Q M9)
theorem k_MM_turnTodo {G : mG} {d : Nat} {a0 : Nat} {l1 : Int} {M : mM} {Q : mM → Prop} (hO : mOk M) (hi_l1 : i32 l1)
    (h : mK M a0 = 14 ∧ mK M (mR M a0 24) = 15 ∧ h_MM_turnTodo_12 G d a0 l1 ((mI M (mR M a0 24) 1) - 2) M Q) :
    Cv G y_MM_turnTodo (d + 1) [vr a0, vi l1] M Q := by
  refine wm_open (y := y_MM_turnTodo) rfl (Nat.le_of_ble_eq_true rfl) (L := [vr a0, vi l1, vd, vd, vd]) rfl ?_
  obtain ⟨h1, h⟩ := h
  obtain ⟨h2, h⟩ := h
  refine wm_iload_n d_MM_turnTodo_0 rfl rfl ?_
  refine wm_istore_n d_MM_turnTodo_1 rfl (by decide) (L' := [vr a0, vi l1, vi l1, vd, vd]) rfl ?_
  refine wm_aload_n d_MM_turnTodo_2 rfl rfl ?_
  refine gf_MM_70 rfl d_MM_turnTodo_3 h1 ?_
  refine gf_MM_145 rfl d_MM_turnTodo_6 h2 ?_
  refine wm_iconst d_MM_turnTodo_9 ?_
  refine wm_isub d_MM_turnTodo_10 ?_
  refine wm_istore_n d_MM_turnTodo_11 rfl (by decide) (L' := [vr a0, vi l1, vi l1, vi ((mI M (mR M a0 24) 1) - 2), vd]) rfl ?_
  refine wm_less (L' := [vr a0, vd, vi l1, vi ((mI M (mR M a0 24) 1) - 2), vd]) ⟨Or.inr rfl, Or.inl rfl, Or.inr rfl, Or.inr rfl, Or.inl rfl, trivial⟩ ?_
  exact h
theorem k_MM_turnTodo_12 {G : mG} {d : Nat} {a0 : Nat} {l2 : Int} {l3 : Int} {M : mM} {Q : mM → Prop} (hO : mOk M) (hi_l2 : i32 l2) (hi_l3 : i32 l3)
    (h : ((l3 ≤ l2) → (Q M)) ∧ (¬ (l3 ≤ l2) → (mK M a0 = 14 ∧ mK M (mR M a0 24) = 15 ∧ Ci G y_MN_at d [vr (mR M a0 24), vi (l2 + 1)] M (fun x8 M7 => i32 x8 ∧ mOk M7 ∧ (mK M7 a0 = 14 ∧ mK M7 (mR M7 a0 24) = 15 ∧ Ci G y_MN_at d [vr (mR M7 a0 24), vi (l3 + 1)] M7 (fun x13 M12 => i32 x13 ∧ mOk M12 ∧ (mK M12 (mR M7 (mR M7 a0 24) 0) = 30 ∧ ((0 : Int) ≤ l2 + 1 ∧ l2 + 1 < (mN M12 (mR M7 (mR M7 a0 24) 0) : Int)) ∧ ∀ M17, M17 = mUI M12 (mR M7 (mR M7 a0 24) 0) (Int.toNat (l2 + 1)) x13 → mK M17 a0 = 14 ∧ mK M17 (mR M17 a0 24) = 15 ∧ mK M17 (mR M17 (mR M17 a0 24) 0) = 30 ∧ ((0 : Int) ≤ l3 + 1 ∧ l3 + 1 < (mN M17 (mR M17 (mR M17 a0 24) 0) : Int)) ∧ ∀ M23, M23 = mUI M17 (mR M17 (mR M17 a0 24) 0) (Int.toNat (l3 + 1)) x8 → h_MM_turnTodo_12 G d a0 (l2 + 2) (l3 - 2) M23 Q))))))) :
    h_MM_turnTodo_12 G d a0 l2 l3 M Q := by
  unfold h_MM_turnTodo_12
  refine wm_iload_n d_MM_turnTodo_12 rfl rfl ?_
  refine wm_iload_n d_MM_turnTodo_13 rfl rfl ?_
  refine wm_icmp_ge (tgt := 74) d_MM_turnTodo_14 rfl hi_l2 hi_l3 (fun c4 => ?_) (fun c4 => ?_)
  · replace h := h.1 c4
    refine wm_return d_MM_turnTodo_74 rfl ?_
    exact ⟨rfl, h⟩
  · replace h := h.2 c4
    obtain ⟨h5, h⟩ := h
    obtain ⟨h6, h⟩ := h
    refine wm_aload_n d_MM_turnTodo_17 rfl rfl ?_
    refine gf_MM_70 rfl d_MM_turnTodo_18 h5 ?_
    refine wm_iload_n d_MM_turnTodo_21 rfl rfl ?_
    refine wm_iconst d_MM_turnTodo_22 ?_
    refine wm_iadd d_MM_turnTodo_23 ?_
    refine cf_MM_155 rfl d_MM_turnTodo_24 h6 (Nat.le_of_ble_eq_true rfl) (Ci.mono h (fun x8 M7 h => ?_))
    obtain ⟨h9, hOM7, h⟩ := h
    obtain ⟨h10, h⟩ := h
    obtain ⟨h11, h⟩ := h
    refine wm_istore d_MM_turnTodo_27 (by decide) (L' := [vr a0, vd, vi l2, vi l3, vi x8]) rfl ?_
    refine wm_aload_n d_MM_turnTodo_29 rfl rfl ?_
    refine gf_MM_70 rfl d_MM_turnTodo_30 h10 ?_
    refine gf_MM_293 rfl d_MM_turnTodo_33 h11 ?_
    refine wm_iload_n d_MM_turnTodo_36 rfl rfl ?_
    refine wm_iconst d_MM_turnTodo_37 ?_
    refine wm_iadd d_MM_turnTodo_38 ?_
    refine wm_aload_n d_MM_turnTodo_39 rfl rfl ?_
    refine gf_MM_70 rfl d_MM_turnTodo_40 h10 ?_
    refine wm_iload_n d_MM_turnTodo_43 rfl rfl ?_
    refine wm_iconst d_MM_turnTodo_44 ?_
    refine wm_iadd d_MM_turnTodo_45 ?_
    refine cf_MM_155 rfl d_MM_turnTodo_46 h11 (Nat.le_of_ble_eq_true rfl) (Ci.mono h (fun x13 M12 h => ?_))
    obtain ⟨h14, hOM12, h⟩ := h
    obtain ⟨h15, h⟩ := h
    obtain ⟨h16, h⟩ := h
    obtain ⟨M17, e18⟩ : ∃ M17, M17 = mUI M12 (mR M7 (mR M7 a0 24) 0) (Int.toNat (l2 + 1)) x13 := ⟨_, rfl⟩
    replace h := h M17 e18
    obtain ⟨h19, h⟩ := h
    obtain ⟨h20, h⟩ := h
    obtain ⟨h21, h⟩ := h
    obtain ⟨h22, h⟩ := h
    obtain ⟨M23, e24⟩ : ∃ M23, M23 = mUI M17 (mR M17 (mR M17 a0 24) 0) (Int.toNat (l3 + 1)) x8 := ⟨_, rfl⟩
    replace h := h M23 e24
    have hOM17 : mOk M17 := by rw [e18]; exact mOk_UI hOM12 h14
    refine wm_iastE d_MM_turnTodo_49 h15 h16 h14 e18 ?_
    refine wm_aload_n d_MM_turnTodo_50 rfl rfl ?_
    refine gf_MM_70 rfl d_MM_turnTodo_51 h19 ?_
    refine gf_MM_293 rfl d_MM_turnTodo_54 h20 ?_
    refine wm_iload_n d_MM_turnTodo_57 rfl rfl ?_
    refine wm_iconst d_MM_turnTodo_58 ?_
    refine wm_iadd d_MM_turnTodo_59 ?_
    refine wm_iload d_MM_turnTodo_60 rfl ?_
    have hOM23 : mOk M23 := by rw [e24]; exact mOk_UI hOM17 h9
    refine wm_iastE d_MM_turnTodo_62 h21 h22 h9 e24 ?_
    refine wm_iload_n d_MM_turnTodo_63 rfl rfl ?_
    refine wm_iconst d_MM_turnTodo_64 ?_
    refine wm_iadd d_MM_turnTodo_65 ?_
    refine wm_istore_n d_MM_turnTodo_66 rfl (by decide) (L' := [vr a0, vd, vi (l2 + 2), vi l3, vi x8]) rfl ?_
    refine wm_iload_n d_MM_turnTodo_67 rfl rfl ?_
    refine wm_iconst d_MM_turnTodo_68 ?_
    refine wm_isub d_MM_turnTodo_69 ?_
    refine wm_istore_n d_MM_turnTodo_70 rfl (by decide) (L' := [vr a0, vd, vi (l2 + 2), vi (l3 - 2), vi x8]) rfl ?_
    refine wm_goto (tgt := 12) d_MM_turnTodo_71 rfl ?_
    refine wm_less (L' := [vr a0, vd, vi (l2 + 2), vi (l3 - 2), vd]) ⟨Or.inr rfl, Or.inl rfl, Or.inr rfl, Or.inr rfl, Or.inl rfl, trivial⟩ ?_
    exact h
end
