theorem d_MG_init_0 : decode y_MG_init.2.1 0 = .ok (.aload_n 0, 1) := by decide +kernel
theorem d_MG_init_1 : decode y_MG_init.2.1 1 = .ok (.invokespecial 3, 3) := by decide +kernel
theorem d_MG_init_4 : decode y_MG_init.2.1 4 = .ok (.aload_n 0, 1) := by decide +kernel
theorem d_MG_init_5 : decode y_MG_init.2.1 5 = .ok (.new 9, 3) := by decide +kernel
theorem d_MG_init_8 : decode y_MG_init.2.1 8 = .ok (.dup, 1) := by decide +kernel
theorem d_MG_init_9 : decode y_MG_init.2.1 9 = .ok (.invokespecial 11, 3) := by decide +kernel
theorem d_MG_init_12 : decode y_MG_init.2.1 12 = .ok (.putfield 12, 3) := by decide +kernel
theorem d_MG_init_15 : decode y_MG_init.2.1 15 = .ok (.aload_n 0, 1) := by decide +kernel
theorem d_MG_init_16 : decode y_MG_init.2.1 16 = .ok (.new 9, 3) := by decide +kernel
theorem d_MG_init_19 : decode y_MG_init.2.1 19 = .ok (.dup, 1) := by decide +kernel
theorem d_MG_init_20 : decode y_MG_init.2.1 20 = .ok (.invokespecial 11, 3) := by decide +kernel
theorem d_MG_init_23 : decode y_MG_init.2.1 23 = .ok (.putfield 18, 3) := by decide +kernel
theorem d_MG_init_26 : decode y_MG_init.2.1 26 = .ok (.aload_n 0, 1) := by decide +kernel
theorem d_MG_init_27 : decode y_MG_init.2.1 27 = .ok (.new 9, 3) := by decide +kernel
theorem d_MG_init_30 : decode y_MG_init.2.1 30 = .ok (.dup, 1) := by decide +kernel
theorem d_MG_init_31 : decode y_MG_init.2.1 31 = .ok (.invokespecial 11, 3) := by decide +kernel
theorem d_MG_init_34 : decode y_MG_init.2.1 34 = .ok (.putfield 21, 3) := by decide +kernel
theorem d_MG_init_37 : decode y_MG_init.2.1 37 = .ok (.aload_n 0, 1) := by decide +kernel
theorem d_MG_init_38 : decode y_MG_init.2.1 38 = .ok (.new 9, 3) := by decide +kernel
theorem d_MG_init_41 : decode y_MG_init.2.1 41 = .ok (.dup, 1) := by decide +kernel
theorem d_MG_init_42 : decode y_MG_init.2.1 42 = .ok (.invokespecial 11, 3) := by decide +kernel
theorem d_MG_init_45 : decode y_MG_init.2.1 45 = .ok (.putfield 24, 3) := by decide +kernel
theorem d_MG_init_48 : decode y_MG_init.2.1 48 = .ok (.aload_n 0, 1) := by decide +kernel
theorem d_MG_init_49 : decode y_MG_init.2.1 49 = .ok (.new 9, 3) := by decide +kernel
theorem d_MG_init_52 : decode y_MG_init.2.1 52 = .ok (.dup, 1) := by decide +kernel
theorem d_MG_init_53 : decode y_MG_init.2.1 53 = .ok (.invokespecial 11, 3) := by decide +kernel
theorem d_MG_init_56 : decode y_MG_init.2.1 56 = .ok (.putfield 27, 3) := by decide +kernel
theorem d_MG_init_59 : decode y_MG_init.2.1 59 = .ok (.aload_n 0, 1) := by decide +kernel
theorem d_MG_init_60 : decode y_MG_init.2.1 60 = .ok (.new 9, 3) := by decide +kernel
theorem d_MG_init_63 : decode y_MG_init.2.1 63 = .ok (.dup, 1) := by decide +kernel
theorem d_MG_init_64 : decode y_MG_init.2.1 64 = .ok (.invokespecial 11, 3) := by decide +kernel
theorem d_MG_init_67 : decode y_MG_init.2.1 67 = .ok (.putfield 30, 3) := by decide +kernel
theorem d_MG_init_70 : decode y_MG_init.2.1 70 = .ok (.aload_n 0, 1) := by decide +kernel
theorem d_MG_init_71 : decode y_MG_init.2.1 71 = .ok (.bipush 60, 2) := by decide +kernel
theorem d_MG_init_73 : decode y_MG_init.2.1 73 = .ok (.newarray .boolean, 2) := by decide +kernel
theorem d_MG_init_75 : decode y_MG_init.2.1 75 = .ok (.putfield 33, 3) := by decide +kernel
theorem d_MG_init_78 : decode y_MG_init.2.1 78 = .ok (.aload_n 0, 1) := by decide +kernel
theorem d_MG_init_79 : decode y_MG_init.2.1 79 = .ok (.bipush 60, 2) := by decide +kernel
theorem d_MG_init_81 : decode y_MG_init.2.1 81 = .ok (.newarray .boolean, 2) := by decide +kernel
theorem d_MG_init_83 : decode y_MG_init.2.1 83 = .ok (.putfield 37, 3) := by decide +kernel
theorem d_MG_init_86 : decode y_MG_init.2.1 86 = .ok (.aload_n 0, 1) := by decide +kernel
theorem d_MG_init_87 : decode y_MG_init.2.1 87 = .ok (.bipush 60, 2) := by decide +kernel
theorem d_MG_init_89 : decode y_MG_init.2.1 89 = .ok (.newarray .int, 2) := by decide +kernel
theorem d_MG_init_91 : decode y_MG_init.2.1 91 = .ok (.putfield 40, 3) := by decide +kernel
theorem d_MG_init_94 : decode y_MG_init.2.1 94 = .ok (.aload_n 0, 1) := by decide +kernel
theorem d_MG_init_95 : decode y_MG_init.2.1 95 = .ok (.bipush 60, 2) := by decide +kernel
theorem d_MG_init_97 : decode y_MG_init.2.1 97 = .ok (.newarray .long, 2) := by decide +kernel
theorem d_MG_init_99 : decode y_MG_init.2.1 99 = .ok (.putfield 44, 3) := by decide +kernel
theorem d_MG_init_102 : decode y_MG_init.2.1 102 = .ok (.aload_n 0, 1) := by decide +kernel
theorem d_MG_init_103 : decode y_MG_init.2.1 103 = .ok (.bipush 60, 2) := by decide +kernel
theorem d_MG_init_105 : decode y_MG_init.2.1 105 = .ok (.newarray .long, 2) := by decide +kernel
theorem d_MG_init_107 : decode y_MG_init.2.1 107 = .ok (.putfield 48, 3) := by decide +kernel
theorem d_MG_init_110 : decode y_MG_init.2.1 110 = .ok (.aload_n 0, 1) := by decide +kernel
theorem d_MG_init_111 : decode y_MG_init.2.1 111 = .ok (.bipush 12, 2) := by decide +kernel
theorem d_MG_init_113 : decode y_MG_init.2.1 113 = .ok (.newarray .boolean, 2) := by decide +kernel
theorem d_MG_init_115 : decode y_MG_init.2.1 115 = .ok (.putfield 51, 3) := by decide +kernel
theorem d_MG_init_118 : decode y_MG_init.2.1 118 = .ok (.aload_n 0, 1) := by decide +kernel
theorem d_MG_init_119 : decode y_MG_init.2.1 119 = .ok (.bipush 12, 2) := by decide +kernel
theorem d_MG_init_121 : decode y_MG_init.2.1 121 = .ok (.newarray .int, 2) := by decide +kernel
theorem d_MG_init_123 : decode y_MG_init.2.1 123 = .ok (.putfield 54, 3) := by decide +kernel
theorem d_MG_init_126 : decode y_MG_init.2.1 126 = .ok (.aload_n 0, 1) := by decide +kernel
theorem d_MG_init_127 : decode y_MG_init.2.1 127 = .ok (.bipush 12, 2) := by decide +kernel
theorem d_MG_init_129 : decode y_MG_init.2.1 129 = .ok (.newarray .int, 2) := by decide +kernel
theorem d_MG_init_131 : decode y_MG_init.2.1 131 = .ok (.putfield 57, 3) := by decide +kernel
theorem d_MG_init_134 : decode y_MG_init.2.1 134 = .ok (.aload_n 0, 1) := by decide +kernel
theorem d_MG_init_135 : decode y_MG_init.2.1 135 = .ok (.bipush 12, 2) := by decide +kernel
theorem d_MG_init_137 : decode y_MG_init.2.1 137 = .ok (.newarray .int, 2) := by decide +kernel
theorem d_MG_init_139 : decode y_MG_init.2.1 139 = .ok (.putfield 60, 3) := by decide +kernel
theorem d_MG_init_142 : decode y_MG_init.2.1 142 = .ok (.aload_n 0, 1) := by decide +kernel
theorem d_MG_init_143 : decode y_MG_init.2.1 143 = .ok (.bipush 60, 2) := by decide +kernel
theorem d_MG_init_145 : decode y_MG_init.2.1 145 = .ok (.newarray .boolean, 2) := by decide +kernel
theorem d_MG_init_147 : decode y_MG_init.2.1 147 = .ok (.putfield 63, 3) := by decide +kernel
theorem d_MG_init_150 : decode y_MG_init.2.1 150 = .ok (.aload_n 0, 1) := by decide +kernel
theorem d_MG_init_151 : decode y_MG_init.2.1 151 = .ok (.bipush 60, 2) := by decide +kernel
theorem d_MG_init_153 : decode y_MG_init.2.1 153 = .ok (.newarray .int, 2) := by decide +kernel
theorem d_MG_init_155 : decode y_MG_init.2.1 155 = .ok (.putfield 66, 3) := by decide +kernel
theorem d_MG_init_158 : decode y_MG_init.2.1 158 = .ok (.aload_n 0, 1) := by decide +kernel
theorem d_MG_init_159 : decode y_MG_init.2.1 159 = .ok (.bipush 60, 2) := by decide +kernel
theorem d_MG_init_161 : decode y_MG_init.2.1 161 = .ok (.newarray .int, 2) := by decide +kernel
theorem d_MG_init_163 : decode y_MG_init.2.1 163 = .ok (.putfield 69, 3) := by decide +kernel
theorem d_MG_init_166 : decode y_MG_init.2.1 166 = .ok (.aload_n 0, 1) := by decide +kernel
theorem d_MG_init_167 : decode y_MG_init.2.1 167 = .ok (.bipush 60, 2) := by decide +kernel
theorem d_MG_init_169 : decode y_MG_init.2.1 169 = .ok (.newarray .int, 2) := by decide +kernel
theorem d_MG_init_171 : decode y_MG_init.2.1 171 = .ok (.putfield 72, 3) := by decide +kernel
theorem d_MG_init_174 : decode y_MG_init.2.1 174 = .ok (.aload_n 0, 1) := by decide +kernel
theorem d_MG_init_175 : decode y_MG_init.2.1 175 = .ok (.sipush 480, 3) := by decide +kernel
theorem d_MG_init_178 : decode y_MG_init.2.1 178 = .ok (.newarray .int, 2) := by decide +kernel
theorem d_MG_init_180 : decode y_MG_init.2.1 180 = .ok (.putfield 75, 3) := by decide +kernel
theorem d_MG_init_183 : decode y_MG_init.2.1 183 = .ok (.aload_n 0, 1) := by decide +kernel
theorem d_MG_init_184 : decode y_MG_init.2.1 184 = .ok (.sipush 480, 3) := by decide +kernel
theorem d_MG_init_187 : decode y_MG_init.2.1 187 = .ok (.newarray .int, 2) := by decide +kernel
theorem d_MG_init_189 : decode y_MG_init.2.1 189 = .ok (.putfield 78, 3) := by decide +kernel
theorem d_MG_init_192 : decode y_MG_init.2.1 192 = .ok (.aload_n 0, 1) := by decide +kernel
theorem d_MG_init_193 : decode y_MG_init.2.1 193 = .ok (.sipush 480, 3) := by decide +kernel
theorem d_MG_init_196 : decode y_MG_init.2.1 196 = .ok (.newarray .int, 2) := by decide +kernel
theorem d_MG_init_198 : decode y_MG_init.2.1 198 = .ok (.putfield 81, 3) := by decide +kernel
theorem d_MG_init_201 : decode y_MG_init.2.1 201 = .ok (.aload_n 0, 1) := by decide +kernel
theorem d_MG_init_202 : decode y_MG_init.2.1 202 = .ok (.sipush 480, 3) := by decide +kernel
theorem d_MG_init_205 : decode y_MG_init.2.1 205 = .ok (.newarray .int, 2) := by decide +kernel
theorem d_MG_init_207 : decode y_MG_init.2.1 207 = .ok (.putfield 84, 3) := by decide +kernel
theorem d_MG_init_210 : decode y_MG_init.2.1 210 = .ok (.aload_n 0, 1) := by decide +kernel
theorem d_MG_init_211 : decode y_MG_init.2.1 211 = .ok (.new 9, 3) := by decide +kernel
theorem d_MG_init_214 : decode y_MG_init.2.1 214 = .ok (.dup, 1) := by decide +kernel
theorem d_MG_init_215 : decode y_MG_init.2.1 215 = .ok (.invokespecial 11, 3) := by decide +kernel
theorem d_MG_init_218 : decode y_MG_init.2.1 218 = .ok (.putfield 87, 3) := by decide +kernel
theorem d_MG_init_221 : decode y_MG_init.2.1 221 = .ok (.aload_n 0, 1) := by decide +kernel
theorem d_MG_init_222 : decode y_MG_init.2.1 222 = .ok (.new 9, 3) := by decide +kernel
theorem d_MG_init_225 : decode y_MG_init.2.1 225 = .ok (.dup, 1) := by decide +kernel
theorem d_MG_init_226 : decode y_MG_init.2.1 226 = .ok (.invokespecial 11, 3) := by decide +kernel
theorem d_MG_init_229 : decode y_MG_init.2.1 229 = .ok (.putfield 90, 3) := by decide +kernel
theorem d_MG_init_232 : decode y_MG_init.2.1 232 = .ok (.aload_n 0, 1) := by decide +kernel
theorem d_MG_init_233 : decode y_MG_init.2.1 233 = .ok (.new 9, 3) := by decide +kernel
theorem d_MG_init_236 : decode y_MG_init.2.1 236 = .ok (.dup, 1) := by decide +kernel
theorem d_MG_init_237 : decode y_MG_init.2.1 237 = .ok (.invokespecial 11, 3) := by decide +kernel
theorem d_MG_init_240 : decode y_MG_init.2.1 240 = .ok (.putfield 93, 3) := by decide +kernel
theorem d_MG_init_243 : decode y_MG_init.2.1 243 = .ok (.return_, 1) := by decide +kernel
theorem k_MG_init {G : mG} {d : Nat} {a0 : Nat} {M : mM} {Q : mM → Prop} (hO : mOk M)
    (h : 0 < a0 ∧ ∀ M2, M2 = mNew M 15 0 2 → Cv G y_MN_init d [vr (mZ M)] M2 (fun M4 => mOk M4 ∧ (mK M4 a0 = 16 ∧ ∀ M8, M8 = mUR M4 a0 0 (mZ M) → ∀ M10, M10 = mNew M8 15 0 2 → Cv G y_MN_init d [vr (mZ M8)] M10 (fun M12 => mOk M12 ∧ (mK M12 a0 = 16 ∧ ∀ M16, M16 = mUR M12 a0 1 (mZ M8) → ∀ M18, M18 = mNew M16 15 0 2 → Cv G y_MN_init d [vr (mZ M16)] M18 (fun M20 => mOk M20 ∧ (mK M20 a0 = 16 ∧ ∀ M24, M24 = mUR M20 a0 2 (mZ M16) → ∀ M26, M26 = mNew M24 15 0 2 → Cv G y_MN_init d [vr (mZ M24)] M26 (fun M28 => mOk M28 ∧ (mK M28 a0 = 16 ∧ ∀ M32, M32 = mUR M28 a0 3 (mZ M24) → ∀ M34, M34 = mNew M32 15 0 2 → Cv G y_MN_init d [vr (mZ M32)] M34 (fun M36 => mOk M36 ∧ (mK M36 a0 = 16 ∧ ∀ M40, M40 = mUR M36 a0 4 (mZ M32) → ∀ M42, M42 = mNew M40 15 0 2 → Cv G y_MN_init d [vr (mZ M40)] M42 (fun M44 => mOk M44 ∧ (mK M44 a0 = 16 ∧ ∀ M48, M48 = mUR M44 a0 5 (mZ M40) → ∀ M50, M50 = mNew M48 31 60 60 → mK M50 a0 = 16 ∧ ∀ M53, M53 = mUR M50 a0 7 (mZ M48) → ∀ M55, M55 = mNew M53 31 60 60 → mK M55 a0 = 16 ∧ ∀ M58, M58 = mUR M55 a0 8 (mZ M53) → ∀ M60, M60 = mNew M58 30 60 60 → mK M60 a0 = 16 ∧ ∀ M63, M63 = mUR M60 a0 9 (mZ M58) → ∀ M65, M65 = mNew M63 33 60 60 → mK M65 a0 = 16 ∧ ∀ M68, M68 = mUR M65 a0 10 (mZ M63) → ∀ M70, M70 = mNew M68 33 60 60 → mK M70 a0 = 16 ∧ ∀ M73, M73 = mUR M70 a0 11 (mZ M68) → ∀ M75, M75 = mNew M73 31 12 12 → mK M75 a0 = 16 ∧ ∀ M78, M78 = mUR M75 a0 13 (mZ M73) → ∀ M80, M80 = mNew M78 30 12 12 → mK M80 a0 = 16 ∧ ∀ M83, M83 = mUR M80 a0 14 (mZ M78) → ∀ M85, M85 = mNew M83 30 12 12 → mK M85 a0 = 16 ∧ ∀ M88, M88 = mUR M85 a0 15 (mZ M83) → ∀ M90, M90 = mNew M88 30 12 12 → mK M90 a0 = 16 ∧ ∀ M93, M93 = mUR M90 a0 16 (mZ M88) → ∀ M95, M95 = mNew M93 31 60 60 → mK M95 a0 = 16 ∧ ∀ M98, M98 = mUR M95 a0 19 (mZ M93) → ∀ M100, M100 = mNew M98 30 60 60 → mK M100 a0 = 16 ∧ ∀ M103, M103 = mUR M100 a0 20 (mZ M98) → ∀ M105, M105 = mNew M103 30 60 60 → mK M105 a0 = 16 ∧ ∀ M108, M108 = mUR M105 a0 21 (mZ M103) → ∀ M110, M110 = mNew M108 30 60 60 → mK M110 a0 = 16 ∧ ∀ M113, M113 = mUR M110 a0 22 (mZ M108) → ∀ M115, M115 = mNew M113 30 480 480 → mK M115 a0 = 16 ∧ ∀ M118, M118 = mUR M115 a0 23 (mZ M113) → ∀ M120, M120 = mNew M118 30 480 480 → mK M120 a0 = 16 ∧ ∀ M123, M123 = mUR M120 a0 24 (mZ M118) → ∀ M125, M125 = mNew M123 30 480 480 → mK M125 a0 = 16 ∧ ∀ M128, M128 = mUR M125 a0 25 (mZ M123) → ∀ M130, M130 = mNew M128 30 480 480 → mK M130 a0 = 16 ∧ ∀ M133, M133 = mUR M130 a0 26 (mZ M128) → ∀ M135, M135 = mNew M133 15 0 2 → Cv G y_MN_init d [vr (mZ M133)] M135 (fun M137 => mOk M137 ∧ (mK M137 a0 = 16 ∧ ∀ M141, M141 = mUR M137 a0 27 (mZ M133) → ∀ M143, M143 = mNew M141 15 0 2 → Cv G y_MN_init d [vr (mZ M141)] M143 (fun M145 => mOk M145 ∧ (mK M145 a0 = 16 ∧ ∀ M149, M149 = mUR M145 a0 28 (mZ M141) → ∀ M151, M151 = mNew M149 15 0 2 → Cv G y_MN_init d [vr (mZ M149)] M151 (fun M153 => mOk M153 ∧ (mK M153 a0 = 16 ∧ ∀ M157, M157 = mUR M153 a0 29 (mZ M149) → Q M157))))))))))))))))))) :
    Cv G y_MG_init (d + 1) [vr a0] M Q := by
  refine wm_open (y := y_MG_init) rfl (Nat.le_of_ble_eq_true rfl) (L := [vr a0]) rfl ?_
  obtain ⟨h1, h⟩ := h
  obtain ⟨M2, e3⟩ : ∃ M2, M2 = mNew M 15 0 2 := ⟨_, rfl⟩
  replace h := h M2 e3
  refine wm_aload_n d_MG_init_0 rfl rfl ?_
  refine wm_objInit trivial k9_21 kO_inst kO_code (Nat.le_of_ble_eq_true rfl) d_MG_init_1 h1 ?_
  refine wm_aload_n d_MG_init_4 rfl rfl ?_
  have hOM2 : mOk M2 := by rw [e3]; exact mOk_New hO
  refine nf_MG_9 rfl d_MG_init_5 e3 ?_
  refine wm_dup d_MG_init_8 rfl ?_
  refine cf_MG_11 rfl d_MG_init_9 (by rw [e3]; exact if_pos rfl) (Nat.le_of_ble_eq_true rfl) (Cv.mono h (fun M4 h => ?_))
  obtain ⟨hOM4, h⟩ := h
  obtain ⟨h7, h⟩ := h
  obtain ⟨M8, e9⟩ : ∃ M8, M8 = mUR M4 a0 0 (mZ M) := ⟨_, rfl⟩
  replace h := h M8 e9
  obtain ⟨M10, e11⟩ : ∃ M10, M10 = mNew M8 15 0 2 := ⟨_, rfl⟩
  replace h := h M10 e11
  have hOM8 : mOk M8 := by rw [e9]; exact mOk_UR hOM4
  refine pf_MG_12 rfl rfl d_MG_init_12 h7 e9 ?_
  refine wm_aload_n d_MG_init_15 rfl rfl ?_
  have hOM10 : mOk M10 := by rw [e11]; exact mOk_New hOM8
  refine nf_MG_9 rfl d_MG_init_16 e11 ?_
  refine wm_dup d_MG_init_19 rfl ?_
  refine cf_MG_11 rfl d_MG_init_20 (by rw [e11]; exact if_pos rfl) (Nat.le_of_ble_eq_true rfl) (Cv.mono h (fun M12 h => ?_))
  obtain ⟨hOM12, h⟩ := h
  obtain ⟨h15, h⟩ := h
  obtain ⟨M16, e17⟩ : ∃ M16, M16 = mUR M12 a0 1 (mZ M8) := ⟨_, rfl⟩
  replace h := h M16 e17
  obtain ⟨M18, e19⟩ : ∃ M18, M18 = mNew M16 15 0 2 := ⟨_, rfl⟩
  replace h := h M18 e19
  have hOM16 : mOk M16 := by rw [e17]; exact mOk_UR hOM12
  refine pf_MG_18 rfl rfl d_MG_init_23 h15 e17 ?_
  refine wm_aload_n d_MG_init_26 rfl rfl ?_
  have hOM18 : mOk M18 := by rw [e19]; exact mOk_New hOM16
  refine nf_MG_9 rfl d_MG_init_27 e19 ?_
  refine wm_dup d_MG_init_30 rfl ?_
  refine cf_MG_11 rfl d_MG_init_31 (by rw [e19]; exact if_pos rfl) (Nat.le_of_ble_eq_true rfl) (Cv.mono h (fun M20 h => ?_))
  obtain ⟨hOM20, h⟩ := h
  obtain ⟨h23, h⟩ := h
  obtain ⟨M24, e25⟩ : ∃ M24, M24 = mUR M20 a0 2 (mZ M16) := ⟨_, rfl⟩
  replace h := h M24 e25
  obtain ⟨M26, e27⟩ : ∃ M26, M26 = mNew M24 15 0 2 := ⟨_, rfl⟩
  replace h := h M26 e27
  have hOM24 : mOk M24 := by rw [e25]; exact mOk_UR hOM20
  refine pf_MG_21 rfl rfl d_MG_init_34 h23 e25 ?_
  refine wm_aload_n d_MG_init_37 rfl rfl ?_
  have hOM26 : mOk M26 := by rw [e27]; exact mOk_New hOM24
  refine nf_MG_9 rfl d_MG_init_38 e27 ?_
  refine wm_dup d_MG_init_41 rfl ?_
  refine cf_MG_11 rfl d_MG_init_42 (by rw [e27]; exact if_pos rfl) (Nat.le_of_ble_eq_true rfl) (Cv.mono h (fun M28 h => ?_))
  obtain ⟨hOM28, h⟩ := h
  obtain ⟨h31, h⟩ := h
  obtain ⟨M32, e33⟩ : ∃ M32, M32 = mUR M28 a0 3 (mZ M24) := ⟨_, rfl⟩
  replace h := h M32 e33
  obtain ⟨M34, e35⟩ : ∃ M34, M34 = mNew M32 15 0 2 := ⟨_, rfl⟩
  replace h := h M34 e35
  have hOM32 : mOk M32 := by rw [e33]; exact mOk_UR hOM28
  refine pf_MG_24 rfl rfl d_MG_init_45 h31 e33 ?_
  refine wm_aload_n d_MG_init_48 rfl rfl ?_
  have hOM34 : mOk M34 := by rw [e35]; exact mOk_New hOM32
  refine nf_MG_9 rfl d_MG_init_49 e35 ?_
  refine wm_dup d_MG_init_52 rfl ?_
  refine cf_MG_11 rfl d_MG_init_53 (by rw [e35]; exact if_pos rfl) (Nat.le_of_ble_eq_true rfl) (Cv.mono h (fun M36 h => ?_))
  obtain ⟨hOM36, h⟩ := h
  obtain ⟨h39, h⟩ := h
  obtain ⟨M40, e41⟩ : ∃ M40, M40 = mUR M36 a0 4 (mZ M32) := ⟨_, rfl⟩
  replace h := h M40 e41
  obtain ⟨M42, e43⟩ : ∃ M42, M42 = mNew M40 15 0 2 := ⟨_, rfl⟩
  replace h := h M42 e43
  have hOM40 : mOk M40 := by rw [e41]; exact mOk_UR hOM36
  refine pf_MG_27 rfl rfl d_MG_init_56 h39 e41 ?_
  refine wm_aload_n d_MG_init_59 rfl rfl ?_
  have hOM42 : mOk M42 := by rw [e43]; exact mOk_New hOM40
  refine nf_MG_9 rfl d_MG_init_60 e43 ?_
  refine wm_dup d_MG_init_63 rfl ?_
  refine cf_MG_11 rfl d_MG_init_64 (by rw [e43]; exact if_pos rfl) (Nat.le_of_ble_eq_true rfl) (Cv.mono h (fun M44 h => ?_))
  obtain ⟨hOM44, h⟩ := h
  obtain ⟨h47, h⟩ := h
  obtain ⟨M48, e49⟩ : ∃ M48, M48 = mUR M44 a0 5 (mZ M40) := ⟨_, rfl⟩
  replace h := h M48 e49
  obtain ⟨M50, e51⟩ : ∃ M50, M50 = mNew M48 31 60 60 := ⟨_, rfl⟩
  replace h := h M50 e51
  obtain ⟨h52, h⟩ := h
  obtain ⟨M53, e54⟩ : ∃ M53, M53 = mUR M50 a0 7 (mZ M48) := ⟨_, rfl⟩
  replace h := h M53 e54
  obtain ⟨M55, e56⟩ : ∃ M55, M55 = mNew M53 31 60 60 := ⟨_, rfl⟩
  replace h := h M55 e56
  obtain ⟨h57, h⟩ := h
  obtain ⟨M58, e59⟩ : ∃ M58, M58 = mUR M55 a0 8 (mZ M53) := ⟨_, rfl⟩
  replace h := h M58 e59
  obtain ⟨M60, e61⟩ : ∃ M60, M60 = mNew M58 30 60 60 := ⟨_, rfl⟩
  replace h := h M60 e61
  obtain ⟨h62, h⟩ := h
  obtain ⟨M63, e64⟩ : ∃ M63, M63 = mUR M60 a0 9 (mZ M58) := ⟨_, rfl⟩
  replace h := h M63 e64
  obtain ⟨M65, e66⟩ : ∃ M65, M65 = mNew M63 33 60 60 := ⟨_, rfl⟩
  replace h := h M65 e66
  obtain ⟨h67, h⟩ := h
  obtain ⟨M68, e69⟩ : ∃ M68, M68 = mUR M65 a0 10 (mZ M63) := ⟨_, rfl⟩
  replace h := h M68 e69
  obtain ⟨M70, e71⟩ : ∃ M70, M70 = mNew M68 33 60 60 := ⟨_, rfl⟩
  replace h := h M70 e71
  obtain ⟨h72, h⟩ := h
  obtain ⟨M73, e74⟩ : ∃ M73, M73 = mUR M70 a0 11 (mZ M68) := ⟨_, rfl⟩
  replace h := h M73 e74
  obtain ⟨M75, e76⟩ : ∃ M75, M75 = mNew M73 31 12 12 := ⟨_, rfl⟩
  replace h := h M75 e76
  obtain ⟨h77, h⟩ := h
  obtain ⟨M78, e79⟩ : ∃ M78, M78 = mUR M75 a0 13 (mZ M73) := ⟨_, rfl⟩
  replace h := h M78 e79
  obtain ⟨M80, e81⟩ : ∃ M80, M80 = mNew M78 30 12 12 := ⟨_, rfl⟩
  replace h := h M80 e81
  obtain ⟨h82, h⟩ := h
  obtain ⟨M83, e84⟩ : ∃ M83, M83 = mUR M80 a0 14 (mZ M78) := ⟨_, rfl⟩
  replace h := h M83 e84
  obtain ⟨M85, e86⟩ : ∃ M85, M85 = mNew M83 30 12 12 := ⟨_, rfl⟩
  replace h := h M85 e86
  obtain ⟨h87, h⟩ := h
  obtain ⟨M88, e89⟩ : ∃ M88, M88 = mUR M85 a0 15 (mZ M83) := ⟨_, rfl⟩
  replace h := h M88 e89
  obtain ⟨M90, e91⟩ : ∃ M90, M90 = mNew M88 30 12 12 := ⟨_, rfl⟩
  replace h := h M90 e91
  obtain ⟨h92, h⟩ := h
  obtain ⟨M93, e94⟩ : ∃ M93, M93 = mUR M90 a0 16 (mZ M88) := ⟨_, rfl⟩
  replace h := h M93 e94
  obtain ⟨M95, e96⟩ : ∃ M95, M95 = mNew M93 31 60 60 := ⟨_, rfl⟩
  replace h := h M95 e96
  obtain ⟨h97, h⟩ := h
  obtain ⟨M98, e99⟩ : ∃ M98, M98 = mUR M95 a0 19 (mZ M93) := ⟨_, rfl⟩
  replace h := h M98 e99
  obtain ⟨M100, e101⟩ : ∃ M100, M100 = mNew M98 30 60 60 := ⟨_, rfl⟩
  replace h := h M100 e101
  obtain ⟨h102, h⟩ := h
  obtain ⟨M103, e104⟩ : ∃ M103, M103 = mUR M100 a0 20 (mZ M98) := ⟨_, rfl⟩
  replace h := h M103 e104
  obtain ⟨M105, e106⟩ : ∃ M105, M105 = mNew M103 30 60 60 := ⟨_, rfl⟩
  replace h := h M105 e106
  obtain ⟨h107, h⟩ := h
  obtain ⟨M108, e109⟩ : ∃ M108, M108 = mUR M105 a0 21 (mZ M103) := ⟨_, rfl⟩
  replace h := h M108 e109
  obtain ⟨M110, e111⟩ : ∃ M110, M110 = mNew M108 30 60 60 := ⟨_, rfl⟩
  replace h := h M110 e111
  obtain ⟨h112, h⟩ := h
  obtain ⟨M113, e114⟩ : ∃ M113, M113 = mUR M110 a0 22 (mZ M108) := ⟨_, rfl⟩
  replace h := h M113 e114
  obtain ⟨M115, e116⟩ : ∃ M115, M115 = mNew M113 30 480 480 := ⟨_, rfl⟩
  replace h := h M115 e116
  obtain ⟨h117, h⟩ := h
  obtain ⟨M118, e119⟩ : ∃ M118, M118 = mUR M115 a0 23 (mZ M113) := ⟨_, rfl⟩
  replace h := h M118 e119
  obtain ⟨M120, e121⟩ : ∃ M120, M120 = mNew M118 30 480 480 := ⟨_, rfl⟩
  replace h := h M120 e121
  obtain ⟨h122, h⟩ := h
  obtain ⟨M123, e124⟩ : ∃ M123, M123 = mUR M120 a0 24 (mZ M118) := ⟨_, rfl⟩
  replace h := h M123 e124
  obtain ⟨M125, e126⟩ : ∃ M125, M125 = mNew M123 30 480 480 := ⟨_, rfl⟩
  replace h := h M125 e126
  obtain ⟨h127, h⟩ := h
  obtain ⟨M128, e129⟩ : ∃ M128, M128 = mUR M125 a0 25 (mZ M123) := ⟨_, rfl⟩
  replace h := h M128 e129
  obtain ⟨M130, e131⟩ : ∃ M130, M130 = mNew M128 30 480 480 := ⟨_, rfl⟩
  replace h := h M130 e131
  obtain ⟨h132, h⟩ := h
  obtain ⟨M133, e134⟩ : ∃ M133, M133 = mUR M130 a0 26 (mZ M128) := ⟨_, rfl⟩
  replace h := h M133 e134
  obtain ⟨M135, e136⟩ : ∃ M135, M135 = mNew M133 15 0 2 := ⟨_, rfl⟩
  replace h := h M135 e136
  have hOM48 : mOk M48 := by rw [e49]; exact mOk_UR hOM44
  refine pf_MG_30 rfl rfl d_MG_init_67 h47 e49 ?_
  refine wm_aload_n d_MG_init_70 rfl rfl ?_
  refine wm_bipush d_MG_init_71 (by decide) ?_
  have hOM50 : mOk M50 := by rw [e51]; exact mOk_New hOM48
  refine wm_newarrE 1 (atype := .boolean) (ty := .boolean) rfl rfl (fun _ => rfl) rfl rfl (by decide) k1_162 ⟨by decide, by decide⟩ d_MG_init_73 e51 ?_
  have hOM53 : mOk M53 := by rw [e54]; exact mOk_UR hOM50
  refine pf_MG_33 rfl rfl d_MG_init_75 h52 e54 ?_
  refine wm_aload_n d_MG_init_78 rfl rfl ?_
  refine wm_bipush d_MG_init_79 (by decide) ?_
  have hOM55 : mOk M55 := by rw [e56]; exact mOk_New hOM53
  refine wm_newarrE 1 (atype := .boolean) (ty := .boolean) rfl rfl (fun _ => rfl) rfl rfl (by decide) k1_162 ⟨by decide, by decide⟩ d_MG_init_81 e56 ?_
  have hOM58 : mOk M58 := by rw [e59]; exact mOk_UR hOM55
  refine pf_MG_37 rfl rfl d_MG_init_83 h57 e59 ?_
  refine wm_aload_n d_MG_init_86 rfl rfl ?_
  refine wm_bipush d_MG_init_87 (by decide) ?_
  have hOM60 : mOk M60 := by rw [e61]; exact mOk_New hOM58
  refine wm_newarrE 0 (atype := .int) (ty := .int) rfl rfl (fun _ => rfl) rfl rfl (by decide) k1_82 ⟨by decide, by decide⟩ d_MG_init_89 e61 ?_
  have hOM63 : mOk M63 := by rw [e64]; exact mOk_UR hOM60
  refine pf_MG_40 rfl rfl d_MG_init_91 h62 e64 ?_
  refine wm_aload_n d_MG_init_94 rfl rfl ?_
  refine wm_bipush d_MG_init_95 (by decide) ?_
  have hOM65 : mOk M65 := by rw [e66]; exact mOk_New hOM63
  refine wm_newarrE 3 (atype := .long) (ty := .long) rfl rfl (fun _ => rfl) rfl rfl (by decide) k3_35 ⟨by decide, by decide⟩ d_MG_init_97 e66 ?_
  have hOM68 : mOk M68 := by rw [e69]; exact mOk_UR hOM65
  refine pf_MG_44 rfl rfl d_MG_init_99 h67 e69 ?_
  refine wm_aload_n d_MG_init_102 rfl rfl ?_
  refine wm_bipush d_MG_init_103 (by decide) ?_
  have hOM70 : mOk M70 := by rw [e71]; exact mOk_New hOM68
  refine wm_newarrE 3 (atype := .long) (ty := .long) rfl rfl (fun _ => rfl) rfl rfl (by decide) k3_35 ⟨by decide, by decide⟩ d_MG_init_105 e71 ?_
  have hOM73 : mOk M73 := by rw [e74]; exact mOk_UR hOM70
  refine pf_MG_48 rfl rfl d_MG_init_107 h72 e74 ?_
  refine wm_aload_n d_MG_init_110 rfl rfl ?_
  refine wm_bipush d_MG_init_111 (by decide) ?_
  have hOM75 : mOk M75 := by rw [e76]; exact mOk_New hOM73
  refine wm_newarrE 1 (atype := .boolean) (ty := .boolean) rfl rfl (fun _ => rfl) rfl rfl (by decide) k1_162 ⟨by decide, by decide⟩ d_MG_init_113 e76 ?_
  have hOM78 : mOk M78 := by rw [e79]; exact mOk_UR hOM75
  refine pf_MG_51 rfl rfl d_MG_init_115 h77 e79 ?_
  refine wm_aload_n d_MG_init_118 rfl rfl ?_
  refine wm_bipush d_MG_init_119 (by decide) ?_
  have hOM80 : mOk M80 := by rw [e81]; exact mOk_New hOM78
  refine wm_newarrE 0 (atype := .int) (ty := .int) rfl rfl (fun _ => rfl) rfl rfl (by decide) k1_82 ⟨by decide, by decide⟩ d_MG_init_121 e81 ?_
  have hOM83 : mOk M83 := by rw [e84]; exact mOk_UR hOM80
  refine pf_MG_54 rfl rfl d_MG_init_123 h82 e84 ?_
  refine wm_aload_n d_MG_init_126 rfl rfl ?_
  refine wm_bipush d_MG_init_127 (by decide) ?_
  have hOM85 : mOk M85 := by rw [e86]; exact mOk_New hOM83
  refine wm_newarrE 0 (atype := .int) (ty := .int) rfl rfl (fun _ => rfl) rfl rfl (by decide) k1_82 ⟨by decide, by decide⟩ d_MG_init_129 e86 ?_
  have hOM88 : mOk M88 := by rw [e89]; exact mOk_UR hOM85
  refine pf_MG_57 rfl rfl d_MG_init_131 h87 e89 ?_
  refine wm_aload_n d_MG_init_134 rfl rfl ?_
  refine wm_bipush d_MG_init_135 (by decide) ?_
  have hOM90 : mOk M90 := by rw [e91]; exact mOk_New hOM88
  refine wm_newarrE 0 (atype := .int) (ty := .int) rfl rfl (fun _ => rfl) rfl rfl (by decide) k1_82 ⟨by decide, by decide⟩ d_MG_init_137 e91 ?_
  have hOM93 : mOk M93 := by rw [e94]; exact mOk_UR hOM90
  refine pf_MG_60 rfl rfl d_MG_init_139 h92 e94 ?_
  refine wm_aload_n d_MG_init_142 rfl rfl ?_
  refine wm_bipush d_MG_init_143 (by decide) ?_
  have hOM95 : mOk M95 := by rw [e96]; exact mOk_New hOM93
  refine wm_newarrE 1 (atype := .boolean) (ty := .boolean) rfl rfl (fun _ => rfl) rfl rfl (by decide) k1_162 ⟨by decide, by decide⟩ d_MG_init_145 e96 ?_
  have hOM98 : mOk M98 := by rw [e99]; exact mOk_UR hOM95
  refine pf_MG_63 rfl rfl d_MG_init_147 h97 e99 ?_
  refine wm_aload_n d_MG_init_150 rfl rfl ?_
  refine wm_bipush d_MG_init_151 (by decide) ?_
  have hOM100 : mOk M100 := by rw [e101]; exact mOk_New hOM98
  refine wm_newarrE 0 (atype := .int) (ty := .int) rfl rfl (fun _ => rfl) rfl rfl (by decide) k1_82 ⟨by decide, by decide⟩ d_MG_init_153 e101 ?_
  have hOM103 : mOk M103 := by rw [e104]; exact mOk_UR hOM100
  refine pf_MG_66 rfl rfl d_MG_init_155 h102 e104 ?_
  refine wm_aload_n d_MG_init_158 rfl rfl ?_
  refine wm_bipush d_MG_init_159 (by decide) ?_
  have hOM105 : mOk M105 := by rw [e106]; exact mOk_New hOM103
  refine wm_newarrE 0 (atype := .int) (ty := .int) rfl rfl (fun _ => rfl) rfl rfl (by decide) k1_82 ⟨by decide, by decide⟩ d_MG_init_161 e106 ?_
  have hOM108 : mOk M108 := by rw [e109]; exact mOk_UR hOM105
  refine pf_MG_69 rfl rfl d_MG_init_163 h107 e109 ?_
  refine wm_aload_n d_MG_init_166 rfl rfl ?_
  refine wm_bipush d_MG_init_167 (by decide) ?_
  have hOM110 : mOk M110 := by rw [e111]; exact mOk_New hOM108
  refine wm_newarrE 0 (atype := .int) (ty := .int) rfl rfl (fun _ => rfl) rfl rfl (by decide) k1_82 ⟨by decide, by decide⟩ d_MG_init_169 e111 ?_
  have hOM113 : mOk M113 := by rw [e114]; exact mOk_UR hOM110
  refine pf_MG_72 rfl rfl d_MG_init_171 h112 e114 ?_
  refine wm_aload_n d_MG_init_174 rfl rfl ?_
  refine wm_sipush d_MG_init_175 (by decide) ?_
  have hOM115 : mOk M115 := by rw [e116]; exact mOk_New hOM113
  refine wm_newarrE 0 (atype := .int) (ty := .int) rfl rfl (fun _ => rfl) rfl rfl (by decide) k1_82 ⟨by decide, by decide⟩ d_MG_init_178 e116 ?_
  have hOM118 : mOk M118 := by rw [e119]; exact mOk_UR hOM115
  refine pf_MG_75 rfl rfl d_MG_init_180 h117 e119 ?_
  refine wm_aload_n d_MG_init_183 rfl rfl ?_
  refine wm_sipush d_MG_init_184 (by decide) ?_
  have hOM120 : mOk M120 := by rw [e121]; exact mOk_New hOM118
  refine wm_newarrE 0 (atype := .int) (ty := .int) rfl rfl (fun _ => rfl) rfl rfl (by decide) k1_82 ⟨by decide, by decide⟩ d_MG_init_187 e121 ?_
  have hOM123 : mOk M123 := by rw [e124]; exact mOk_UR hOM120
  refine pf_MG_78 rfl rfl d_MG_init_189 h122 e124 ?_
  refine wm_aload_n d_MG_init_192 rfl rfl ?_
  refine wm_sipush d_MG_init_193 (by decide) ?_
  have hOM125 : mOk M125 := by rw [e126]; exact mOk_New hOM123
  refine wm_newarrE 0 (atype := .int) (ty := .int) rfl rfl (fun _ => rfl) rfl rfl (by decide) k1_82 ⟨by decide, by decide⟩ d_MG_init_196 e126 ?_
  have hOM128 : mOk M128 := by rw [e129]; exact mOk_UR hOM125
  refine pf_MG_81 rfl rfl d_MG_init_198 h127 e129 ?_
  refine wm_aload_n d_MG_init_201 rfl rfl ?_
  refine wm_sipush d_MG_init_202 (by decide) ?_
  have hOM130 : mOk M130 := by rw [e131]; exact mOk_New hOM128
  refine wm_newarrE 0 (atype := .int) (ty := .int) rfl rfl (fun _ => rfl) rfl rfl (by decide) k1_82 ⟨by decide, by decide⟩ d_MG_init_205 e131 ?_
  have hOM133 : mOk M133 := by rw [e134]; exact mOk_UR hOM130
  refine pf_MG_84 rfl rfl d_MG_init_207 h132 e134 ?_
  refine wm_aload_n d_MG_init_210 rfl rfl ?_
  have hOM135 : mOk M135 := by rw [e136]; exact mOk_New hOM133
  refine nf_MG_9 rfl d_MG_init_211 e136 ?_
  refine wm_dup d_MG_init_214 rfl ?_
  refine cf_MG_11 rfl d_MG_init_215 (by rw [e136]; exact if_pos rfl) (Nat.le_of_ble_eq_true rfl) (Cv.mono h (fun M137 h => ?_))
  obtain ⟨hOM137, h⟩ := h
  obtain ⟨h140, h⟩ := h
  obtain ⟨M141, e142⟩ : ∃ M141, M141 = mUR M137 a0 27 (mZ M133) := ⟨_, rfl⟩
  replace h := h M141 e142
  obtain ⟨M143, e144⟩ : ∃ M143, M143 = mNew M141 15 0 2 := ⟨_, rfl⟩
  replace h := h M143 e144
  have hOM141 : mOk M141 := by rw [e142]; exact mOk_UR hOM137
  refine pf_MG_87 rfl rfl d_MG_init_218 h140 e142 ?_
  refine wm_aload_n d_MG_init_221 rfl rfl ?_
  have hOM143 : mOk M143 := by rw [e144]; exact mOk_New hOM141
  refine nf_MG_9 rfl d_MG_init_222 e144 ?_
  refine wm_dup d_MG_init_225 rfl ?_
  refine cf_MG_11 rfl d_MG_init_226 (by rw [e144]; exact if_pos rfl) (Nat.le_of_ble_eq_true rfl) (Cv.mono h (fun M145 h => ?_))
  obtain ⟨hOM145, h⟩ := h
  obtain ⟨h148, h⟩ := h
  obtain ⟨M149, e150⟩ : ∃ M149, M149 = mUR M145 a0 28 (mZ M141) := ⟨_, rfl⟩
  replace h := h M149 e150
  obtain ⟨M151, e152⟩ : ∃ M151, M151 = mNew M149 15 0 2 := ⟨_, rfl⟩
  replace h := h M151 e152
  have hOM149 : mOk M149 := by rw [e150]; exact mOk_UR hOM145
  refine pf_MG_90 rfl rfl d_MG_init_229 h148 e150 ?_
  refine wm_aload_n d_MG_init_232 rfl rfl ?_
  have hOM151 : mOk M151 := by rw [e152]; exact mOk_New hOM149
  refine nf_MG_9 rfl d_MG_init_233 e152 ?_
  refine wm_dup d_MG_init_236 rfl ?_
  refine cf_MG_11 rfl d_MG_init_237 (by rw [e152]; exact if_pos rfl) (Nat.le_of_ble_eq_true rfl) (Cv.mono h (fun M153 h => ?_))
  obtain ⟨hOM153, h⟩ := h
  obtain ⟨h156, h⟩ := h
  obtain ⟨M157, e158⟩ : ∃ M157, M157 = mUR M153 a0 29 (mZ M149) := ⟨_, rfl⟩
  replace h := h M157 e158
  have hOM157 : mOk M157 := by rw [e158]; exact mOk_UR hOM153
  refine pf_MG_93 rfl rfl d_MG_init_240 h156 e158 ?_
  refine wm_return d_MG_init_243 rfl ?_
  exact ⟨rfl, h⟩
theorem d_MG_clear_0 : decode y_MG_clear.2.1 0 = .ok (.aload_n 0, 1) := by decide +kernel
theorem d_MG_clear_1 : decode y_MG_clear.2.1 1 = .ok (.getfield 12, 3) := by decide +kernel
theorem d_MG_clear_4 : decode y_MG_clear.2.1 4 = .ok (.iconst 0, 1) := by decide +kernel
theorem d_MG_clear_5 : decode y_MG_clear.2.1 5 = .ok (.putfield 96, 3) := by decide +kernel
theorem d_MG_clear_8 : decode y_MG_clear.2.1 8 = .ok (.aload_n 0, 1) := by decide +kernel
theorem d_MG_clear_9 : decode y_MG_clear.2.1 9 = .ok (.getfield 18, 3) := by decide +kernel
theorem d_MG_clear_12 : decode y_MG_clear.2.1 12 = .ok (.iconst 0, 1) := by decide +kernel
theorem d_MG_clear_13 : decode y_MG_clear.2.1 13 = .ok (.putfield 96, 3) := by decide +kernel
theorem d_MG_clear_16 : decode y_MG_clear.2.1 16 = .ok (.aload_n 0, 1) := by decide +kernel
theorem d_MG_clear_17 : decode y_MG_clear.2.1 17 = .ok (.getfield 21, 3) := by decide +kernel
theorem d_MG_clear_20 : decode y_MG_clear.2.1 20 = .ok (.iconst 0, 1) := by decide +kernel
theorem d_MG_clear_21 : decode y_MG_clear.2.1 21 = .ok (.putfield 96, 3) := by decide +kernel
theorem d_MG_clear_24 : decode y_MG_clear.2.1 24 = .ok (.aload_n 0, 1) := by decide +kernel
theorem d_MG_clear_25 : decode y_MG_clear.2.1 25 = .ok (.getfield 24, 3) := by decide +kernel
theorem d_MG_clear_28 : decode y_MG_clear.2.1 28 = .ok (.iconst 0, 1) := by decide +kernel
theorem d_MG_clear_29 : decode y_MG_clear.2.1 29 = .ok (.putfield 96, 3) := by decide +kernel
theorem d_MG_clear_32 : decode y_MG_clear.2.1 32 = .ok (.aload_n 0, 1) := by decide +kernel
theorem d_MG_clear_33 : decode y_MG_clear.2.1 33 = .ok (.getfield 27, 3) := by decide +kernel
theorem d_MG_clear_36 : decode y_MG_clear.2.1 36 = .ok (.iconst 0, 1) := by decide +kernel
theorem d_MG_clear_37 : decode y_MG_clear.2.1 37 = .ok (.putfield 96, 3) := by decide +kernel
theorem d_MG_clear_40 : decode y_MG_clear.2.1 40 = .ok (.aload_n 0, 1) := by decide +kernel
theorem d_MG_clear_41 : decode y_MG_clear.2.1 41 = .ok (.getfield 30, 3) := by decide +kernel
theorem d_MG_clear_44 : decode y_MG_clear.2.1 44 = .ok (.iconst 0, 1) := by decide +kernel
theorem d_MG_clear_45 : decode y_MG_clear.2.1 45 = .ok (.putfield 96, 3) := by decide +kernel
theorem d_MG_clear_48 : decode y_MG_clear.2.1 48 = .ok (.aload_n 0, 1) := by decide +kernel
theorem d_MG_clear_49 : decode y_MG_clear.2.1 49 = .ok (.iconst 0, 1) := by decide +kernel
theorem d_MG_clear_50 : decode y_MG_clear.2.1 50 = .ok (.putfield 100, 3) := by decide +kernel
theorem d_MG_clear_53 : decode y_MG_clear.2.1 53 = .ok (.aload_n 0, 1) := by decide +kernel
theorem d_MG_clear_54 : decode y_MG_clear.2.1 54 = .ok (.iconst 0, 1) := by decide +kernel
theorem d_MG_clear_55 : decode y_MG_clear.2.1 55 = .ok (.putfield 103, 3) := by decide +kernel
theorem d_MG_clear_58 : decode y_MG_clear.2.1 58 = .ok (.aload_n 0, 1) := by decide +kernel
theorem d_MG_clear_59 : decode y_MG_clear.2.1 59 = .ok (.iconst (-1), 1) := by decide +kernel
theorem d_MG_clear_60 : decode y_MG_clear.2.1 60 = .ok (.putfield 106, 3) := by decide +kernel
theorem d_MG_clear_63 : decode y_MG_clear.2.1 63 = .ok (.aload_n 0, 1) := by decide +kernel
theorem d_MG_clear_64 : decode y_MG_clear.2.1 64 = .ok (.iconst 0, 1) := by decide +kernel
theorem d_MG_clear_65 : decode y_MG_clear.2.1 65 = .ok (.putfield 109, 3) := by decide +kernel
theorem d_MG_clear_68 : decode y_MG_clear.2.1 68 = .ok (.aload_n 0, 1) := by decide +kernel
theorem d_MG_clear_69 : decode y_MG_clear.2.1 69 = .ok (.getfield 87, 3) := by decide +kernel
theorem d_MG_clear_72 : decode y_MG_clear.2.1 72 = .ok (.iconst 0, 1) := by decide +kernel
theorem d_MG_clear_73 : decode y_MG_clear.2.1 73 = .ok (.putfield 96, 3) := by decide +kernel
theorem d_MG_clear_76 : decode y_MG_clear.2.1 76 = .ok (.aload_n 0, 1) := by decide +kernel
theorem d_MG_clear_77 : decode y_MG_clear.2.1 77 = .ok (.getfield 90, 3) := by decide +kernel
theorem d_MG_clear_80 : decode y_MG_clear.2.1 80 = .ok (.iconst 0, 1) := by decide +kernel
theorem d_MG_clear_81 : decode y_MG_clear.2.1 81 = .ok (.putfield 96, 3) := by decide +kernel
theorem d_MG_clear_84 : decode y_MG_clear.2.1 84 = .ok (.aload_n 0, 1) := by decide +kernel
theorem d_MG_clear_85 : decode y_MG_clear.2.1 85 = .ok (.getfield 93, 3) := by decide +kernel
theorem d_MG_clear_88 : decode y_MG_clear.2.1 88 = .ok (.iconst 0, 1) := by decide +kernel
theorem d_MG_clear_89 : decode y_MG_clear.2.1 89 = .ok (.putfield 96, 3) := by decide +kernel
theorem d_MG_clear_92 : decode y_MG_clear.2.1 92 = .ok (.return_, 1) := by decide +kernel
theorem k_MG_clear {G : mG} {d : Nat} {a0 : Nat} {M : mM} {Q : mM → Prop} (hO : mOk M)
    (h : mK M a0 = 16 ∧ mK M (mR M a0 0) = 15 ∧ ∀ M3, M3 = mUI M (mR M a0 0) 1 0 → mK M3 (mR M3 a0 1) = 15 ∧ ∀ M6, M6 = mUI M3 (mR M3 a0 1) 1 0 → mK M6 (mR M6 a0 2) = 15 ∧ ∀ M9, M9 = mUI M6 (mR M6 a0 2) 1 0 → mK M9 (mR M9 a0 3) = 15 ∧ ∀ M12, M12 = mUI M9 (mR M9 a0 3) 1 0 → mK M12 (mR M12 a0 4) = 15 ∧ ∀ M15, M15 = mUI M12 (mR M12 a0 4) 1 0 → mK M15 (mR M15 a0 5) = 15 ∧ ∀ M18, M18 = mUI M15 (mR M15 a0 5) 1 0 → ∀ M20, M20 = mUI M18 a0 6 0 → ∀ M22, M22 = mUI M20 a0 12 0 → ∀ M24, M24 = mUI M22 a0 17 (-1) → ∀ M26, M26 = mUI M24 a0 18 0 → mK M26 (mR M26 a0 27) = 15 ∧ ∀ M29, M29 = mUI M26 (mR M26 a0 27) 1 0 → mK M29 (mR M29 a0 28) = 15 ∧ ∀ M32, M32 = mUI M29 (mR M29 a0 28) 1 0 → mK M32 (mR M32 a0 29) = 15 ∧ ∀ M35, M35 = mUI M32 (mR M32 a0 29) 1 0 → Q M35) :
    Cv G y_MG_clear d [vr a0] M Q := by
  refine wm_open (y := y_MG_clear) rfl (Nat.le_of_ble_eq_true rfl) (L := [vr a0]) rfl ?_
  obtain ⟨h1, h⟩ := h
  obtain ⟨h2, h⟩ := h
  obtain ⟨M3, e4⟩ : ∃ M3, M3 = mUI M (mR M a0 0) 1 0 := ⟨_, rfl⟩
  replace h := h M3 e4
  obtain ⟨h5, h⟩ := h
  obtain ⟨M6, e7⟩ : ∃ M6, M6 = mUI M3 (mR M3 a0 1) 1 0 := ⟨_, rfl⟩
  replace h := h M6 e7
  obtain ⟨h8, h⟩ := h
  obtain ⟨M9, e10⟩ : ∃ M9, M9 = mUI M6 (mR M6 a0 2) 1 0 := ⟨_, rfl⟩
  replace h := h M9 e10
  obtain ⟨h11, h⟩ := h
  obtain ⟨M12, e13⟩ : ∃ M12, M12 = mUI M9 (mR M9 a0 3) 1 0 := ⟨_, rfl⟩
  replace h := h M12 e13
  obtain ⟨h14, h⟩ := h
  obtain ⟨M15, e16⟩ : ∃ M15, M15 = mUI M12 (mR M12 a0 4) 1 0 := ⟨_, rfl⟩
  replace h := h M15 e16
  obtain ⟨h17, h⟩ := h
  obtain ⟨M18, e19⟩ : ∃ M18, M18 = mUI M15 (mR M15 a0 5) 1 0 := ⟨_, rfl⟩
  replace h := h M18 e19
  obtain ⟨M20, e21⟩ : ∃ M20, M20 = mUI M18 a0 6 0 := ⟨_, rfl⟩
  replace h := h M20 e21
  obtain ⟨M22, e23⟩ : ∃ M22, M22 = mUI M20 a0 12 0 := ⟨_, rfl⟩
  replace h := h M22 e23
  obtain ⟨M24, e25⟩ : ∃ M24, M24 = mUI M22 a0 17 (-1) := ⟨_, rfl⟩
  replace h := h M24 e25
  obtain ⟨M26, e27⟩ : ∃ M26, M26 = mUI M24 a0 18 0 := ⟨_, rfl⟩
  replace h := h M26 e27
  obtain ⟨h28, h⟩ := h
  obtain ⟨M29, e30⟩ : ∃ M29, M29 = mUI M26 (mR M26 a0 27) 1 0 := ⟨_, rfl⟩
  replace h := h M29 e30
  obtain ⟨h31, h⟩ := h
  obtain ⟨M32, e33⟩ : ∃ M32, M32 = mUI M29 (mR M29 a0 28) 1 0 := ⟨_, rfl⟩
  replace h := h M32 e33
  obtain ⟨h34, h⟩ := h
  obtain ⟨M35, e36⟩ : ∃ M35, M35 = mUI M32 (mR M32 a0 29) 1 0 := ⟨_, rfl⟩
  replace h := h M35 e36
  refine wm_aload_n d_MG_clear_0 rfl rfl ?_
  refine gf_MG_12 rfl d_MG_clear_1 h1 ?_
  refine wm_iconst d_MG_clear_4 ?_
  have hOM3 : mOk M3 := by rw [e4]; exact mOk_UI hO ⟨by decide, by decide⟩
  refine pf_MG_96 rfl d_MG_clear_5 h2 ⟨by decide, by decide⟩ e4 ?_
  refine wm_aload_n d_MG_clear_8 rfl rfl ?_
  refine gf_MG_18 rfl d_MG_clear_9 (by rw [e4]; exact h1) ?_
  refine wm_iconst d_MG_clear_12 ?_
  have hOM6 : mOk M6 := by rw [e7]; exact mOk_UI hOM3 ⟨by decide, by decide⟩
  refine pf_MG_96 rfl d_MG_clear_13 h5 ⟨by decide, by decide⟩ e7 ?_
  refine wm_aload_n d_MG_clear_16 rfl rfl ?_
  refine gf_MG_21 rfl d_MG_clear_17 (by rw [e7, e4]; exact h1) ?_
  refine wm_iconst d_MG_clear_20 ?_
  have hOM9 : mOk M9 := by rw [e10]; exact mOk_UI hOM6 ⟨by decide, by decide⟩
  refine pf_MG_96 rfl d_MG_clear_21 h8 ⟨by decide, by decide⟩ e10 ?_
  refine wm_aload_n d_MG_clear_24 rfl rfl ?_
  refine gf_MG_24 rfl d_MG_clear_25 (by rw [e10, e7, e4]; exact h1) ?_
  refine wm_iconst d_MG_clear_28 ?_
  have hOM12 : mOk M12 := by rw [e13]; exact mOk_UI hOM9 ⟨by decide, by decide⟩
  refine pf_MG_96 rfl d_MG_clear_29 h11 ⟨by decide, by decide⟩ e13 ?_
  refine wm_aload_n d_MG_clear_32 rfl rfl ?_
  refine gf_MG_27 rfl d_MG_clear_33 (by rw [e13, e10, e7, e4]; exact h1) ?_
  refine wm_iconst d_MG_clear_36 ?_
  have hOM15 : mOk M15 := by rw [e16]; exact mOk_UI hOM12 ⟨by decide, by decide⟩
  refine pf_MG_96 rfl d_MG_clear_37 h14 ⟨by decide, by decide⟩ e16 ?_
  refine wm_aload_n d_MG_clear_40 rfl rfl ?_
  refine gf_MG_30 rfl d_MG_clear_41 (by rw [e16, e13, e10, e7, e4]; exact h1) ?_
  refine wm_iconst d_MG_clear_44 ?_
  have hOM18 : mOk M18 := by rw [e19]; exact mOk_UI hOM15 ⟨by decide, by decide⟩
  refine pf_MG_96 rfl d_MG_clear_45 h17 ⟨by decide, by decide⟩ e19 ?_
  refine wm_aload_n d_MG_clear_48 rfl rfl ?_
  refine wm_iconst d_MG_clear_49 ?_
  have hOM20 : mOk M20 := by rw [e21]; exact mOk_UI hOM18 ⟨by decide, by decide⟩
  refine pf_MG_100 rfl d_MG_clear_50 (by rw [e19, e16, e13, e10, e7, e4]; exact h1) ⟨by decide, by decide⟩ e21 ?_
  refine wm_aload_n d_MG_clear_53 rfl rfl ?_
  refine wm_iconst d_MG_clear_54 ?_
  have hOM22 : mOk M22 := by rw [e23]; exact mOk_UI hOM20 ⟨by decide, by decide⟩
  refine pf_MG_103 rfl d_MG_clear_55 (by rw [e21, e19, e16, e13, e10, e7, e4]; exact h1) ⟨by decide, by decide⟩ e23 ?_
  refine wm_aload_n d_MG_clear_58 rfl rfl ?_
  refine wm_iconst d_MG_clear_59 ?_
  have hOM24 : mOk M24 := by rw [e25]; exact mOk_UI hOM22 ⟨by decide, by decide⟩
  refine pf_MG_106 rfl d_MG_clear_60 (by rw [e23, e21, e19, e16, e13, e10, e7, e4]; exact h1) ⟨by decide, by decide⟩ e25 ?_
  refine wm_aload_n d_MG_clear_63 rfl rfl ?_
  refine wm_iconst d_MG_clear_64 ?_
  have hOM26 : mOk M26 := by rw [e27]; exact mOk_UI hOM24 ⟨by decide, by decide⟩
  refine pf_MG_109 rfl d_MG_clear_65 (by rw [e25, e23, e21, e19, e16, e13, e10, e7, e4]; exact h1) ⟨by decide, by decide⟩ e27 ?_
  refine wm_aload_n d_MG_clear_68 rfl rfl ?_
  refine gf_MG_87 rfl d_MG_clear_69 (by rw [e27, e25, e23, e21, e19, e16, e13, e10, e7, e4]; exact h1) ?_
  refine wm_iconst d_MG_clear_72 ?_
  have hOM29 : mOk M29 := by rw [e30]; exact mOk_UI hOM26 ⟨by decide, by decide⟩
  refine pf_MG_96 rfl d_MG_clear_73 h28 ⟨by decide, by decide⟩ e30 ?_
  refine wm_aload_n d_MG_clear_76 rfl rfl ?_
  refine gf_MG_90 rfl d_MG_clear_77 (by rw [e30, e27, e25, e23, e21, e19, e16, e13, e10, e7, e4]; exact h1) ?_
  refine wm_iconst d_MG_clear_80 ?_
  have hOM32 : mOk M32 := by rw [e33]; exact mOk_UI hOM29 ⟨by decide, by decide⟩
  refine pf_MG_96 rfl d_MG_clear_81 h31 ⟨by decide, by decide⟩ e33 ?_
  refine wm_aload_n d_MG_clear_84 rfl rfl ?_
  refine gf_MG_93 rfl d_MG_clear_85 (by rw [e33, e30, e27, e25, e23, e21, e19, e16, e13, e10, e7, e4]; exact h1) ?_
  refine wm_iconst d_MG_clear_88 ?_
  have hOM35 : mOk M35 := by rw [e36]; exact mOk_UI hOM32 ⟨by decide, by decide⟩
  refine pf_MG_96 rfl d_MG_clear_89 h34 ⟨by decide, by decide⟩ e36 ?_
  refine wm_return d_MG_clear_92 rfl ?_
  exact ⟨rfl, h⟩
theorem d_MN_init_0 : decode y_MN_init.2.1 0 = .ok (.aload_n 0, 1) := by decide +kernel
theorem d_MN_init_1 : decode y_MN_init.2.1 1 = .ok (.invokespecial 1, 3) := by decide +kernel
theorem d_MN_init_4 : decode y_MN_init.2.1 4 = .ok (.aload_n 0, 1) := by decide +kernel
theorem d_MN_init_5 : decode y_MN_init.2.1 5 = .ok (.bipush 16, 2) := by decide +kernel
theorem d_MN_init_7 : decode y_MN_init.2.1 7 = .ok (.newarray .int, 2) := by decide +kernel
theorem d_MN_init_9 : decode y_MN_init.2.1 9 = .ok (.putfield 7, 3) := by decide +kernel
theorem d_MN_init_12 : decode y_MN_init.2.1 12 = .ok (.return_, 1) := by decide +kernel
theorem k_MN_init {G : mG} {d : Nat} {a0 : Nat} {M : mM} {Q : mM → Prop} (hO : mOk M)
    (h : 0 < a0 ∧ ∀ M2, M2 = mNew M 30 16 16 → mK M2 a0 = 15 ∧ ∀ M5, M5 = mUR M2 a0 0 (mZ M) → Q M5) :
    Cv G y_MN_init (d + 1) [vr a0] M Q := by
  refine wm_open (y := y_MN_init) rfl (Nat.le_of_ble_eq_true rfl) (L := [vr a0]) rfl ?_
  obtain ⟨h1, h⟩ := h
  obtain ⟨M2, e3⟩ : ∃ M2, M2 = mNew M 30 16 16 := ⟨_, rfl⟩
  replace h := h M2 e3
  obtain ⟨h4, h⟩ := h
  obtain ⟨M5, e6⟩ : ∃ M5, M5 = mUR M2 a0 0 (mZ M) := ⟨_, rfl⟩
  replace h := h M5 e6
  refine wm_aload_n d_MN_init_0 rfl rfl ?_
  refine wm_objInit trivial k9_5 kO_inst kO_code (Nat.le_of_ble_eq_true rfl) d_MN_init_1 h1 ?_
  refine wm_aload_n d_MN_init_4 rfl rfl ?_
  refine wm_bipush d_MN_init_5 (by decide) ?_
  have hOM2 : mOk M2 := by rw [e3]; exact mOk_New hO
  refine wm_newarrE 0 (atype := .int) (ty := .int) rfl rfl (fun _ => rfl) rfl rfl (by decide) k1_82 ⟨by decide, by decide⟩ d_MN_init_7 e3 ?_
  have hOM5 : mOk M5 := by rw [e6]; exact mOk_UR hOM2
  refine pf_MN_7 rfl d_MN_init_9 h4 e6 ?_
  refine wm_return d_MN_init_12 rfl ?_
  exact ⟨rfl, h⟩
theorem d_MN_add_0 : decode y_MN_add.2.1 0 = .ok (.aload_n 0, 1) := by decide +kernel
theorem d_MN_add_1 : decode y_MN_add.2.1 1 = .ok (.getfield 13, 3) := by decide +kernel
theorem d_MN_add_4 : decode y_MN_add.2.1 4 = .ok (.aload_n 0, 1) := by decide +kernel
theorem d_MN_add_5 : decode y_MN_add.2.1 5 = .ok (.getfield 7, 3) := by decide +kernel
theorem d_MN_add_8 : decode y_MN_add.2.1 8 = .ok (.arraylength, 1) := by decide +kernel
theorem d_MN_add_9 : decode y_MN_add.2.1 9 = .ok (.if_icmp .ne 42, 3) := by decide +kernel
theorem d_MN_add_12 : decode y_MN_add.2.1 12 = .ok (.iconst 2, 1) := by decide +kernel
theorem d_MN_add_13 : decode y_MN_add.2.1 13 = .ok (.aload_n 0, 1) := by decide +kernel
theorem d_MN_add_14 : decode y_MN_add.2.1 14 = .ok (.getfield 13, 3) := by decide +kernel
theorem d_MN_add_17 : decode y_MN_add.2.1 17 = .ok (.imul, 1) := by decide +kernel
theorem d_MN_add_18 : decode y_MN_add.2.1 18 = .ok (.newarray .int, 2) := by decide +kernel
theorem d_MN_add_20 : decode y_MN_add.2.1 20 = .ok (.astore_n 2, 1) := by decide +kernel
theorem d_MN_add_21 : decode y_MN_add.2.1 21 = .ok (.iconst 0, 1) := by decide +kernel
theorem d_MN_add_22 : decode y_MN_add.2.1 22 = .ok (.istore_n 3, 1) := by decide +kernel
theorem d_MN_add_51 : decode y_MN_add.2.1 51 = .ok (.aload_n 0, 1) := by decide +kernel
theorem d_MN_add_52 : decode y_MN_add.2.1 52 = .ok (.getfield 7, 3) := by decide +kernel
theorem d_MN_add_55 : decode y_MN_add.2.1 55 = .ok (.aload_n 0, 1) := by decide +kernel
theorem d_MN_add_56 : decode y_MN_add.2.1 56 = .ok (.getfield 13, 3) := by decide +kernel
theorem d_MN_add_59 : decode y_MN_add.2.1 59 = .ok (.iload_n 1, 1) := by decide +kernel
theorem d_MN_add_60 : decode y_MN_add.2.1 60 = .ok (.iastore, 1) := by decide +kernel
theorem d_MN_add_61 : decode y_MN_add.2.1 61 = .ok (.aload_n 0, 1) := by decide +kernel
theorem d_MN_add_62 : decode y_MN_add.2.1 62 = .ok (.aload_n 0, 1) := by decide +kernel
theorem d_MN_add_63 : decode y_MN_add.2.1 63 = .ok (.getfield 13, 3) := by decide +kernel
theorem d_MN_add_66 : decode y_MN_add.2.1 66 = .ok (.iconst 1, 1) := by decide +kernel
theorem d_MN_add_67 : decode y_MN_add.2.1 67 = .ok (.iadd, 1) := by decide +kernel
theorem d_MN_add_68 : decode y_MN_add.2.1 68 = .ok (.putfield 13, 3) := by decide +kernel
theorem d_MN_add_71 : decode y_MN_add.2.1 71 = .ok (.return_, 1) := by decide +kernel
theorem d_MN_add_23 : decode y_MN_add.2.1 23 = .ok (.iload_n 3, 1) := by decide +kernel
theorem d_MN_add_24 : decode y_MN_add.2.1 24 = .ok (.aload_n 0, 1) := by decide +kernel
theorem d_MN_add_25 : decode y_MN_add.2.1 25 = .ok (.getfield 13, 3) := by decide +kernel
theorem d_MN_add_28 : decode y_MN_add.2.1 28 = .ok (.if_icmp .ge 18, 3) := by decide +kernel
theorem d_MN_add_46 : decode y_MN_add.2.1 46 = .ok (.aload_n 0, 1) := by decide +kernel
theorem d_MN_add_47 : decode y_MN_add.2.1 47 = .ok (.aload_n 2, 1) := by decide +kernel
theorem d_MN_add_48 : decode y_MN_add.2.1 48 = .ok (.putfield 7, 3) := by decide +kernel
theorem d_MN_add_31 : decode y_MN_add.2.1 31 = .ok (.aload_n 2, 1) := by decide +kernel
theorem d_MN_add_32 : decode y_MN_add.2.1 32 = .ok (.iload_n 3, 1) := by decide +kernel
theorem d_MN_add_33 : decode y_MN_add.2.1 33 = .ok (.aload_n 0, 1) := by decide +kernel
theorem d_MN_add_34 : decode y_MN_add.2.1 34 = .ok (.getfield 7, 3) := by decide +kernel
theorem d_MN_add_37 : decode y_MN_add.2.1 37 = .ok (.iload_n 3, 1) := by decide +kernel
theorem d_MN_add_38 : decode y_MN_add.2.1 38 = .ok (.iaload, 1) := by decide +kernel
theorem d_MN_add_39 : decode y_MN_add.2.1 39 = .ok (.iastore, 1) := by decide +kernel
theorem d_MN_add_40 : decode y_MN_add.2.1 40 = .ok (.iinc 3 1, 3) := by decide +kernel
theorem d_MN_add_43 : decode y_MN_add.2.1 43 = .ok (.goto (-20), 3) := by decide +kernel
def h_MN_add_23 (G : mG) (d : Nat) (a0 : Nat) (l1 : Int) (a2 : Nat) (l3 : Int) (M : mM) (Q : mM → Prop) : Prop := mWm G y_MN_add d 23 [vr a0, vi l1, vr a2, vi l3] [] M (fun r9 M9 => r9 = none ∧ Q M9)
theorem k_MN_add {G : mG} {d : Nat} {a0 : Nat} {l1 : Int} {M : mM} {Q : mM → Prop} (hO : mOk M) (hi_l1 : i32 l1)
    (h : mK M a0 = 15 ∧ mK M (mR M a0 0) = 30 ∧ i32 (mN M (mR M a0 0) : Int) ∧ ((mI M a0 1 = (mN M (mR M a0 0) : Int)) → (((0 : Int) ≤ 2 * (mI M a0 1) ∧ 2 * (mI M a0 1) ≤ 16777216) ∧ ∀ M8, M8 = mNew M 30 (Int.toNat (2 * (mI M a0 1))) (Int.toNat (2 * (mI M a0 1))) → h_MN_add_23 G d a0 l1 (mZ M) 0 M8 Q)) ∧ (¬ (mI M a0 1 = (mN M (mR M a0 0) : Int)) → (((0 : Int) ≤ mI M a0 1 ∧ mI M a0 1 < (mN M (mR M a0 0) : Int)) ∧ ∀ M11, M11 = mUI M (mR M a0 0) (Int.toNat (mI M a0 1)) l1 → i32 ((mI M11 a0 1) + 1) ∧ ∀ M14, M14 = mUI M11 a0 1 ((mI M11 a0 1) + 1) → Q M14))) :
    Cv G y_MN_add d [vr a0, vi l1] M Q := by
  refine wm_open (y := y_MN_add) rfl (Nat.le_of_ble_eq_true rfl) (L := [vr a0, vi l1, vd, vd]) rfl ?_
  obtain ⟨h1, h⟩ := h
  obtain ⟨h2, h⟩ := h
  obtain ⟨h5, h⟩ := h
  refine wm_aload_n d_MN_add_0 rfl rfl ?_
  refine gf_MN_13 rfl d_MN_add_1 h1 ?_
  refine wm_aload_n d_MN_add_4 rfl rfl ?_
  refine gf_MN_7 rfl d_MN_add_5 h1 ?_
  refine wm_alen 0 rfl (fun _ => rfl) d_MN_add_8 h2 ?_
  refine wm_icmp_ne (tgt := 51) d_MN_add_9 rfl (hO _ _).1 h5 (fun c6 => ?_) (fun c6 => ?_)
  · replace h := h.2 c6
    obtain ⟨h10, h⟩ := h
    obtain ⟨M11, e12⟩ : ∃ M11, M11 = mUI M (mR M a0 0) (Int.toNat (mI M a0 1)) l1 := ⟨_, rfl⟩
    replace h := h M11 e12
    obtain ⟨h13, h⟩ := h
    obtain ⟨M14, e15⟩ : ∃ M14, M14 = mUI M11 a0 1 ((mI M11 a0 1) + 1) := ⟨_, rfl⟩
    replace h := h M14 e15
    refine wm_aload_n d_MN_add_51 rfl rfl ?_
    refine gf_MN_7 rfl d_MN_add_52 h1 ?_
    refine wm_aload_n d_MN_add_55 rfl rfl ?_
    refine gf_MN_13 rfl d_MN_add_56 h1 ?_
    refine wm_iload_n d_MN_add_59 rfl rfl ?_
    have hOM11 : mOk M11 := by rw [e12]; exact mOk_UI hO hi_l1
    refine wm_iastE d_MN_add_60 h2 h10 hi_l1 e12 ?_
    refine wm_aload_n d_MN_add_61 rfl rfl ?_
    refine wm_aload_n d_MN_add_62 rfl rfl ?_
    refine gf_MN_13 rfl d_MN_add_63 (by rw [e12]; exact h1) ?_
    refine wm_iconst d_MN_add_66 ?_
    refine wm_iadd d_MN_add_67 ?_
    have hOM14 : mOk M14 := by rw [e15]; exact mOk_UI hOM11 h13
    refine pf_MN_13 rfl d_MN_add_68 (by rw [e12]; exact h1) h13 e15 ?_
    refine wm_return d_MN_add_71 rfl ?_
    exact ⟨rfl, h⟩
  · replace c6 := Classical.not_not.mp c6
    replace h := h.1 c6
    obtain ⟨h7, h⟩ := h
    obtain ⟨M8, e9⟩ : ∃ M8, M8 = mNew M 30 (Int.toNat (2 * (mI M a0 1))) (Int.toNat (2 * (mI M a0 1))) := ⟨_, rfl⟩
    replace h := h M8 e9
    refine wm_iconst d_MN_add_12 ?_
    refine wm_aload_n d_MN_add_13 rfl rfl ?_
    refine gf_MN_13 rfl d_MN_add_14 h1 ?_
    refine wm_imul d_MN_add_17 ?_
    have hOM8 : mOk M8 := by rw [e9]; exact mOk_New hO
    refine wm_newarrE 0 (atype := .int) (ty := .int) rfl rfl (fun _ => rfl) rfl rfl (by decide) k1_82 h7 d_MN_add_18 e9 ?_
    refine wm_astore_n d_MN_add_20 rfl (by decide) (L' := [vr a0, vi l1, vr (mZ M), vd]) rfl ?_
    refine wm_iconst d_MN_add_21 ?_
    refine wm_istore_n d_MN_add_22 rfl (by decide) (L' := [vr a0, vi l1, vr (mZ M), vi 0]) rfl ?_
    exact h
theorem k_MN_add_23 {G : mG} {d : Nat} {a0 : Nat} {l1 : Int} {a2 : Nat} {l3 : Int} {M : mM} {Q : mM → Prop} (hO : mOk M) (hi_l1 : i32 l1) (hi_l3 : i32 l3)
    (h : mK M a0 = 15 ∧ ((mI M a0 1 ≤ l3) → (∀ M23, M23 = mUR M a0 0 a2 → mK M23 (mR M23 a0 0) = 30 ∧ ((0 : Int) ≤ mI M23 a0 1 ∧ mI M23 a0 1 < (mN M23 (mR M23 a0 0) : Int)) ∧ ∀ M27, M27 = mUI M23 (mR M23 a0 0) (Int.toNat (mI M23 a0 1)) l1 → i32 ((mI M27 a0 1) + 1) ∧ ∀ M30, M30 = mUI M27 a0 1 ((mI M27 a0 1) + 1) → Q M30)) ∧ (¬ (mI M a0 1 ≤ l3) → (mK M (mR M a0 0) = 30 ∧ ((0 : Int) ≤ l3 ∧ l3 < (mN M (mR M a0 0) : Int)) ∧ mK M a2 = 30 ∧ ((0 : Int) ≤ l3 ∧ l3 < (mN M a2 : Int)) ∧ ∀ M36, M36 = mUI M a2 (Int.toNat l3) (mI M (mR M a0 0) (Int.toNat l3)) → h_MN_add_23 G d a0 l1 a2 (l3 + 1) M36 Q))) :
    h_MN_add_23 G d a0 l1 a2 l3 M Q := by
  unfold h_MN_add_23
  obtain ⟨h16, h⟩ := h
  refine wm_iload_n d_MN_add_23 rfl rfl ?_
  refine wm_aload_n d_MN_add_24 rfl rfl ?_
  refine gf_MN_13 rfl d_MN_add_25 h16 ?_
  refine wm_icmp_ge (tgt := 46) d_MN_add_28 rfl hi_l3 (hO _ _).1 (fun c22 => ?_) (fun c22 => ?_)
  · replace h := h.1 c22
    obtain ⟨M23, e24⟩ : ∃ M23, M23 = mUR M a0 0 a2 := ⟨_, rfl⟩
    replace h := h M23 e24
    obtain ⟨h25, h⟩ := h
    obtain ⟨h26, h⟩ := h
    obtain ⟨M27, e28⟩ : ∃ M27, M27 = mUI M23 (mR M23 a0 0) (Int.toNat (mI M23 a0 1)) l1 := ⟨_, rfl⟩
    replace h := h M27 e28
    obtain ⟨h29, h⟩ := h
    obtain ⟨M30, e31⟩ : ∃ M30, M30 = mUI M27 a0 1 ((mI M27 a0 1) + 1) := ⟨_, rfl⟩
    replace h := h M30 e31
    refine wm_aload_n d_MN_add_46 rfl rfl ?_
    refine wm_aload_n d_MN_add_47 rfl rfl ?_
    have hOM23 : mOk M23 := by rw [e24]; exact mOk_UR hO
    refine pf_MN_7 rfl d_MN_add_48 h16 e24 ?_
    refine wm_aload_n d_MN_add_51 rfl rfl ?_
    refine gf_MN_7 rfl d_MN_add_52 (by rw [e24]; exact h16) ?_
    refine wm_aload_n d_MN_add_55 rfl rfl ?_
    refine gf_MN_13 rfl d_MN_add_56 (by rw [e24]; exact h16) ?_
    refine wm_iload_n d_MN_add_59 rfl rfl ?_
    have hOM27 : mOk M27 := by rw [e28]; exact mOk_UI hOM23 hi_l1
    refine wm_iastE d_MN_add_60 h25 h26 hi_l1 e28 ?_
    refine wm_aload_n d_MN_add_61 rfl rfl ?_
    refine wm_aload_n d_MN_add_62 rfl rfl ?_
    refine gf_MN_13 rfl d_MN_add_63 (by rw [e28, e24]; exact h16) ?_
    refine wm_iconst d_MN_add_66 ?_
    refine wm_iadd d_MN_add_67 ?_
    have hOM30 : mOk M30 := by rw [e31]; exact mOk_UI hOM27 h29
    refine pf_MN_13 rfl d_MN_add_68 (by rw [e28, e24]; exact h16) h29 e31 ?_
    refine wm_return d_MN_add_71 rfl ?_
    exact ⟨rfl, h⟩
  · replace h := h.2 c22
    obtain ⟨h32, h⟩ := h
    obtain ⟨h33, h⟩ := h
    obtain ⟨h34, h⟩ := h
    obtain ⟨h35, h⟩ := h
    obtain ⟨M36, e37⟩ : ∃ M36, M36 = mUI M a2 (Int.toNat l3) (mI M (mR M a0 0) (Int.toNat l3)) := ⟨_, rfl⟩
    replace h := h M36 e37
    refine wm_aload_n d_MN_add_31 rfl rfl ?_
    refine wm_iload_n d_MN_add_32 rfl rfl ?_
    refine wm_aload_n d_MN_add_33 rfl rfl ?_
    refine gf_MN_7 rfl d_MN_add_34 h16 ?_
    refine wm_iload_n d_MN_add_37 rfl rfl ?_
    refine wm_iald d_MN_add_38 h32 h33 ?_
    have hOM36 : mOk M36 := by rw [e37]; exact mOk_UI hO (hO _ _).1
    refine wm_iastE d_MN_add_39 h34 h35 (hO _ _).1 e37 ?_
    refine wm_iinc d_MN_add_40 (by decide) rfl (L' := [vr a0, vi l1, vr a2, vi (l3 + 1)]) rfl ?_
    refine wm_goto (tgt := 23) d_MN_add_43 rfl ?_
    exact h
theorem d_MN_at_0 : decode y_MN_at.2.1 0 = .ok (.aload_n 0, 1) := by decide +kernel
theorem d_MN_at_1 : decode y_MN_at.2.1 1 = .ok (.getfield 7, 3) := by decide +kernel
theorem d_MN_at_4 : decode y_MN_at.2.1 4 = .ok (.iload_n 1, 1) := by decide +kernel
theorem d_MN_at_5 : decode y_MN_at.2.1 5 = .ok (.iaload, 1) := by decide +kernel
theorem d_MN_at_6 : decode y_MN_at.2.1 6 = .ok (.ireturn, 1) := by decide +kernel
theorem k_MN_at {G : mG} {d : Nat} {a0 : Nat} {l1 : Int} {M : mM} {Q : Int → mM → Prop} (hO : mOk M) (hi_l1 : i32 l1)
    (h : mK M a0 = 15 ∧ mK M (mR M a0 0) = 30 ∧ ((0 : Int) ≤ l1 ∧ l1 < (mN M (mR M a0 0) : Int)) ∧ Q (mI M (mR M a0 0) (Int.toNat l1)) M) :
    Ci G y_MN_at d [vr a0, vi l1] M Q := by
  refine wm_open (y := y_MN_at) rfl (Nat.le_of_ble_eq_true rfl) (L := [vr a0, vi l1]) rfl ?_
  obtain ⟨h1, h⟩ := h
  obtain ⟨h2, h⟩ := h
  obtain ⟨h3, h⟩ := h
  refine wm_aload_n d_MN_at_0 rfl rfl ?_
  refine gf_MN_7 rfl d_MN_at_1 h1 ?_
  refine wm_iload_n d_MN_at_4 rfl rfl ?_
  refine wm_iald d_MN_at_5 h2 h3 ?_
  refine wm_ireturn d_MN_at_6 rfl rfl ?_
  exact ⟨_, rfl, h⟩
theorem d_MN_last_0 : decode y_MN_last.2.1 0 = .ok (.aload_n 0, 1) := by decide +kernel
theorem d_MN_last_1 : decode y_MN_last.2.1 1 = .ok (.getfield 7, 3) := by decide +kernel
theorem d_MN_last_4 : decode y_MN_last.2.1 4 = .ok (.aload_n 0, 1) := by decide +kernel
theorem d_MN_last_5 : decode y_MN_last.2.1 5 = .ok (.getfield 13, 3) := by decide +kernel
theorem d_MN_last_8 : decode y_MN_last.2.1 8 = .ok (.iconst 1, 1) := by decide +kernel
theorem d_MN_last_9 : decode y_MN_last.2.1 9 = .ok (.isub, 1) := by decide +kernel
theorem d_MN_last_10 : decode y_MN_last.2.1 10 = .ok (.iaload, 1) := by decide +kernel
theorem d_MN_last_11 : decode y_MN_last.2.1 11 = .ok (.ireturn, 1) := by decide +kernel
theorem k_MN_last {G : mG} {d : Nat} {a0 : Nat} {M : mM} {Q : Int → mM → Prop} (hO : mOk M)
    (h : mK M a0 = 15 ∧ mK M (mR M a0 0) = 30 ∧ ((0 : Int) ≤ (mI M a0 1) - 1 ∧ (mI M a0 1) - 1 < (mN M (mR M a0 0) : Int)) ∧ Q (mI M (mR M a0 0) (Int.toNat ((mI M a0 1) - 1))) M) :
    Ci G y_MN_last d [vr a0] M Q := by
  refine wm_open (y := y_MN_last) rfl (Nat.le_of_ble_eq_true rfl) (L := [vr a0]) rfl ?_
  obtain ⟨h1, h⟩ := h
  obtain ⟨h2, h⟩ := h
  obtain ⟨h3, h⟩ := h
  refine wm_aload_n d_MN_last_0 rfl rfl ?_
  refine gf_MN_7 rfl d_MN_last_1 h1 ?_
  refine wm_aload_n d_MN_last_4 rfl rfl ?_
  refine gf_MN_13 rfl d_MN_last_5 h1 ?_
  refine wm_iconst d_MN_last_8 ?_
  refine wm_isub d_MN_last_9 ?_
  refine wm_iald d_MN_last_10 h2 h3 ?_
  refine wm_ireturn d_MN_last_11 rfl rfl ?_
  exact ⟨_, rfl, h⟩
theorem d_MN_take_0 : decode y_MN_take.2.1 0 = .ok (.aload_n 0, 1) := by decide +kernel
theorem d_MN_take_1 : decode y_MN_take.2.1 1 = .ok (.aload_n 0, 1) := by decide +kernel
theorem d_MN_take_2 : decode y_MN_take.2.1 2 = .ok (.getfield 13, 3) := by decide +kernel
theorem d_MN_take_5 : decode y_MN_take.2.1 5 = .ok (.iconst 1, 1) := by decide +kernel
theorem d_MN_take_6 : decode y_MN_take.2.1 6 = .ok (.isub, 1) := by decide +kernel
theorem d_MN_take_7 : decode y_MN_take.2.1 7 = .ok (.putfield 13, 3) := by decide +kernel
theorem d_MN_take_10 : decode y_MN_take.2.1 10 = .ok (.aload_n 0, 1) := by decide +kernel
theorem d_MN_take_11 : decode y_MN_take.2.1 11 = .ok (.getfield 7, 3) := by decide +kernel
theorem d_MN_take_14 : decode y_MN_take.2.1 14 = .ok (.aload_n 0, 1) := by decide +kernel
theorem d_MN_take_15 : decode y_MN_take.2.1 15 = .ok (.getfield 13, 3) := by decide +kernel
theorem d_MN_take_18 : decode y_MN_take.2.1 18 = .ok (.iaload, 1) := by decide +kernel
theorem d_MN_take_19 : decode y_MN_take.2.1 19 = .ok (.ireturn, 1) := by decide +kernel
theorem k_MN_take {G : mG} {d : Nat} {a0 : Nat} {M : mM} {Q : Int → mM → Prop} (hO : mOk M)
    (h : mK M a0 = 15 ∧ i32 ((mI M a0 1) - 1) ∧ ∀ M3, M3 = mUI M a0 1 ((mI M a0 1) - 1) → mK M3 (mR M3 a0 0) = 30 ∧ ((0 : Int) ≤ mI M3 a0 1 ∧ mI M3 a0 1 < (mN M3 (mR M3 a0 0) : Int)) ∧ Q (mI M3 (mR M3 a0 0) (Int.toNat (mI M3 a0 1))) M3) :
    Ci G y_MN_take d [vr a0] M Q := by
  refine wm_open (y := y_MN_take) rfl (Nat.le_of_ble_eq_true rfl) (L := [vr a0]) rfl ?_
  obtain ⟨h1, h⟩ := h
  obtain ⟨h2, h⟩ := h
  obtain ⟨M3, e4⟩ : ∃ M3, M3 = mUI M a0 1 ((mI M a0 1) - 1) := ⟨_, rfl⟩
  replace h := h M3 e4
  obtain ⟨h5, h⟩ := h
  obtain ⟨h6, h⟩ := h
  refine wm_aload_n d_MN_take_0 rfl rfl ?_
  refine wm_aload_n d_MN_take_1 rfl rfl ?_
  refine gf_MN_13 rfl d_MN_take_2 h1 ?_
  refine wm_iconst d_MN_take_5 ?_
  refine wm_isub d_MN_take_6 ?_
  have hOM3 : mOk M3 := by rw [e4]; exact mOk_UI hO h2
  refine pf_MN_13 rfl d_MN_take_7 h1 h2 e4 ?_
  refine wm_aload_n d_MN_take_10 rfl rfl ?_
  refine gf_MN_7 rfl d_MN_take_11 (by rw [e4]; exact h1) ?_
  refine wm_aload_n d_MN_take_14 rfl rfl ?_
  refine gf_MN_13 rfl d_MN_take_15 (by rw [e4]; exact h1) ?_
  refine wm_iald d_MN_take_18 h5 h6 ?_
  refine wm_ireturn d_MN_take_19 rfl rfl ?_
  exact ⟨_, rfl, h⟩
theorem d_MS_init_0 : decode y_MS_init.2.1 0 = .ok (.aload_n 0, 1) := by decide +kernel
theorem d_MS_init_1 : decode y_MS_init.2.1 1 = .ok (.invokespecial 1, 3) := by decide +kernel
theorem d_MS_init_4 : decode y_MS_init.2.1 4 = .ok (.aload_n 0, 1) := by decide +kernel
theorem d_MS_init_5 : decode y_MS_init.2.1 5 = .ok (.new 7, 3) := by decide +kernel
theorem d_MS_init_8 : decode y_MS_init.2.1 8 = .ok (.dup, 1) := by decide +kernel
theorem d_MS_init_9 : decode y_MS_init.2.1 9 = .ok (.invokespecial 9, 3) := by decide +kernel
theorem d_MS_init_12 : decode y_MS_init.2.1 12 = .ok (.putfield 10, 3) := by decide +kernel
theorem d_MS_init_15 : decode y_MS_init.2.1 15 = .ok (.aload_n 0, 1) := by decide +kernel
theorem d_MS_init_16 : decode y_MS_init.2.1 16 = .ok (.sipush 513, 3) := by decide +kernel
theorem d_MS_init_19 : decode y_MS_init.2.1 19 = .ok (.newarray .int, 2) := by decide +kernel
theorem d_MS_init_21 : decode y_MS_init.2.1 21 = .ok (.putfield 16, 3) := by decide +kernel
theorem d_MS_init_24 : decode y_MS_init.2.1 24 = .ok (.aload_n 0, 1) := by decide +kernel
theorem d_MS_init_25 : decode y_MS_init.2.1 25 = .ok (.sipush 514, 3) := by decide +kernel
theorem d_MS_init_28 : decode y_MS_init.2.1 28 = .ok (.newarray .int, 2) := by decide +kernel
theorem d_MS_init_30 : decode y_MS_init.2.1 30 = .ok (.putfield 20, 3) := by decide +kernel
theorem d_MS_init_33 : decode y_MS_init.2.1 33 = .ok (.aload_n 0, 1) := by decide +kernel
theorem d_MS_init_34 : decode y_MS_init.2.1 34 = .ok (.sipush 4200, 3) := by decide +kernel
theorem d_MS_init_37 : decode y_MS_init.2.1 37 = .ok (.newarray .int, 2) := by decide +kernel
theorem d_MS_init_39 : decode y_MS_init.2.1 39 = .ok (.putfield 23, 3) := by decide +kernel
theorem d_MS_init_42 : decode y_MS_init.2.1 42 = .ok (.aload_n 0, 1) := by decide +kernel
theorem d_MS_init_43 : decode y_MS_init.2.1 43 = .ok (.sipush 4201, 3) := by decide +kernel
theorem d_MS_init_46 : decode y_MS_init.2.1 46 = .ok (.newarray .int, 2) := by decide +kernel
theorem d_MS_init_48 : decode y_MS_init.2.1 48 = .ok (.putfield 26, 3) := by decide +kernel
theorem d_MS_init_51 : decode y_MS_init.2.1 51 = .ok (.aload_n 0, 1) := by decide +kernel
theorem d_MS_init_52 : decode y_MS_init.2.1 52 = .ok (.sipush 4096, 3) := by decide +kernel
theorem d_MS_init_55 : decode y_MS_init.2.1 55 = .ok (.newarray .int, 2) := by decide +kernel
theorem d_MS_init_57 : decode y_MS_init.2.1 57 = .ok (.putfield 29, 3) := by decide +kernel
theorem d_MS_init_60 : decode y_MS_init.2.1 60 = .ok (.aload_n 0, 1) := by decide +kernel
theorem d_MS_init_61 : decode y_MS_init.2.1 61 = .ok (.sipush 4096, 3) := by decide +kernel
theorem d_MS_init_64 : decode y_MS_init.2.1 64 = .ok (.newarray .int, 2) := by decide +kernel
theorem d_MS_init_66 : decode y_MS_init.2.1 66 = .ok (.putfield 32, 3) := by decide +kernel
theorem d_MS_init_69 : decode y_MS_init.2.1 69 = .ok (.aload_n 0, 1) := by decide +kernel
theorem d_MS_init_70 : decode y_MS_init.2.1 70 = .ok (.sipush 4096, 3) := by decide +kernel
theorem d_MS_init_73 : decode y_MS_init.2.1 73 = .ok (.newarray .int, 2) := by decide +kernel
theorem d_MS_init_75 : decode y_MS_init.2.1 75 = .ok (.putfield 35, 3) := by decide +kernel
theorem d_MS_init_78 : decode y_MS_init.2.1 78 = .ok (.aload_n 0, 1) := by decide +kernel
theorem d_MS_init_79 : decode y_MS_init.2.1 79 = .ok (.sipush 1536, 3) := by decide +kernel
theorem d_MS_init_82 : decode y_MS_init.2.1 82 = .ok (.anewarray 38, 3) := by decide +kernel
theorem d_MS_init_85 : decode y_MS_init.2.1 85 = .ok (.putfield 40, 3) := by decide +kernel
theorem d_MS_init_88 : decode y_MS_init.2.1 88 = .ok (.aload_n 0, 1) := by decide +kernel
theorem d_MS_init_89 : decode y_MS_init.2.1 89 = .ok (.iconst 3, 1) := by decide +kernel
theorem d_MS_init_90 : decode y_MS_init.2.1 90 = .ok (.newarray .boolean, 2) := by decide +kernel
theorem d_MS_init_92 : decode y_MS_init.2.1 92 = .ok (.putfield 44, 3) := by decide +kernel
theorem d_MS_init_95 : decode y_MS_init.2.1 95 = .ok (.aload_n 0, 1) := by decide +kernel
theorem d_MS_init_96 : decode y_MS_init.2.1 96 = .ok (.sipush 512, 3) := by decide +kernel
theorem d_MS_init_99 : decode y_MS_init.2.1 99 = .ok (.anewarray 38, 3) := by decide +kernel
theorem d_MS_init_102 : decode y_MS_init.2.1 102 = .ok (.putfield 48, 3) := by decide +kernel
theorem d_MS_init_105 : decode y_MS_init.2.1 105 = .ok (.aload_n 0, 1) := by decide +kernel
theorem d_MS_init_106 : decode y_MS_init.2.1 106 = .ok (.sipush 512, 3) := by decide +kernel
theorem d_MS_init_109 : decode y_MS_init.2.1 109 = .ok (.newarray .int, 2) := by decide +kernel
theorem d_MS_init_111 : decode y_MS_init.2.1 111 = .ok (.putfield 51, 3) := by decide +kernel
theorem d_MS_init_114 : decode y_MS_init.2.1 114 = .ok (.aload_n 0, 1) := by decide +kernel
theorem d_MS_init_115 : decode y_MS_init.2.1 115 = .ok (.sipush 512, 3) := by decide +kernel
theorem d_MS_init_118 : decode y_MS_init.2.1 118 = .ok (.newarray .int, 2) := by decide +kernel
theorem d_MS_init_120 : decode y_MS_init.2.1 120 = .ok (.putfield 54, 3) := by decide +kernel
theorem d_MS_init_123 : decode y_MS_init.2.1 123 = .ok (.aload_n 0, 1) := by decide +kernel
theorem d_MS_init_124 : decode y_MS_init.2.1 124 = .ok (.sipush 512, 3) := by decide +kernel
theorem d_MS_init_127 : decode y_MS_init.2.1 127 = .ok (.newarray .int, 2) := by decide +kernel
theorem d_MS_init_129 : decode y_MS_init.2.1 129 = .ok (.putfield 57, 3) := by decide +kernel
theorem d_MS_init_132 : decode y_MS_init.2.1 132 = .ok (.aload_n 0, 1) := by decide +kernel
theorem d_MS_init_133 : decode y_MS_init.2.1 133 = .ok (.sipush 512, 3) := by decide +kernel
theorem d_MS_init_136 : decode y_MS_init.2.1 136 = .ok (.newarray .int, 2) := by decide +kernel
theorem d_MS_init_138 : decode y_MS_init.2.1 138 = .ok (.putfield 60, 3) := by decide +kernel
theorem d_MS_init_141 : decode y_MS_init.2.1 141 = .ok (.aload_n 0, 1) := by decide +kernel
theorem d_MS_init_142 : decode y_MS_init.2.1 142 = .ok (.sipush 512, 3) := by decide +kernel
theorem d_MS_init_145 : decode y_MS_init.2.1 145 = .ok (.newarray .boolean, 2) := by decide +kernel
theorem d_MS_init_147 : decode y_MS_init.2.1 147 = .ok (.putfield 63, 3) := by decide +kernel
theorem d_MS_init_150 : decode y_MS_init.2.1 150 = .ok (.aload_n 0, 1) := by decide +kernel
theorem d_MS_init_151 : decode y_MS_init.2.1 151 = .ok (.sipush 512, 3) := by decide +kernel
theorem d_MS_init_154 : decode y_MS_init.2.1 154 = .ok (.newarray .boolean, 2) := by decide +kernel
theorem d_MS_init_156 : decode y_MS_init.2.1 156 = .ok (.putfield 66, 3) := by decide +kernel
theorem d_MS_init_159 : decode y_MS_init.2.1 159 = .ok (.aload_n 0, 1) := by decide +kernel
theorem d_MS_init_160 : decode y_MS_init.2.1 160 = .ok (.sipush 512, 3) := by decide +kernel
theorem d_MS_init_163 : decode y_MS_init.2.1 163 = .ok (.anewarray 38, 3) := by decide +kernel
theorem d_MS_init_166 : decode y_MS_init.2.1 166 = .ok (.putfield 69, 3) := by decide +kernel
theorem d_MS_init_169 : decode y_MS_init.2.1 169 = .ok (.aload_n 0, 1) := by decide +kernel
theorem d_MS_init_170 : decode y_MS_init.2.1 170 = .ok (.bipush 40, 2) := by decide +kernel
theorem d_MS_init_172 : decode y_MS_init.2.1 172 = .ok (.newarray .int, 2) := by decide +kernel
theorem d_MS_init_174 : decode y_MS_init.2.1 174 = .ok (.putfield 72, 3) := by decide +kernel
theorem d_MS_init_177 : decode y_MS_init.2.1 177 = .ok (.aload_n 0, 1) := by decide +kernel
theorem d_MS_init_178 : decode y_MS_init.2.1 178 = .ok (.sipush 512, 3) := by decide +kernel
theorem d_MS_init_181 : decode y_MS_init.2.1 181 = .ok (.newarray .int, 2) := by decide +kernel
theorem d_MS_init_183 : decode y_MS_init.2.1 183 = .ok (.putfield 75, 3) := by decide +kernel
theorem d_MS_init_186 : decode y_MS_init.2.1 186 = .ok (.aload_n 0, 1) := by decide +kernel
theorem d_MS_init_187 : decode y_MS_init.2.1 187 = .ok (.sipush 1640, 3) := by decide +kernel
theorem d_MS_init_190 : decode y_MS_init.2.1 190 = .ok (.anewarray 38, 3) := by decide +kernel
theorem d_MS_init_193 : decode y_MS_init.2.1 193 = .ok (.putfield 78, 3) := by decide +kernel
theorem d_MS_init_196 : decode y_MS_init.2.1 196 = .ok (.aload_n 0, 1) := by decide +kernel
theorem d_MS_init_197 : decode y_MS_init.2.1 197 = .ok (.new 38, 3) := by decide +kernel
theorem d_MS_init_200 : decode y_MS_init.2.1 200 = .ok (.dup, 1) := by decide +kernel
theorem d_MS_init_201 : decode y_MS_init.2.1 201 = .ok (.bipush 8, 2) := by decide +kernel
theorem d_MS_init_203 : decode y_MS_init.2.1 203 = .ok (.invokespecial 81, 3) := by decide +kernel
theorem d_MS_init_206 : decode y_MS_init.2.1 206 = .ok (.putfield 84, 3) := by decide +kernel
theorem d_MS_init_209 : decode y_MS_init.2.1 209 = .ok (.aload_n 0, 1) := by decide +kernel
theorem d_MS_init_210 : decode y_MS_init.2.1 210 = .ok (.new 38, 3) := by decide +kernel
theorem d_MS_init_213 : decode y_MS_init.2.1 213 = .ok (.dup, 1) := by decide +kernel
theorem d_MS_init_214 : decode y_MS_init.2.1 214 = .ok (.bipush 56, 2) := by decide +kernel
theorem d_MS_init_216 : decode y_MS_init.2.1 216 = .ok (.invokespecial 81, 3) := by decide +kernel
theorem d_MS_init_219 : decode y_MS_init.2.1 219 = .ok (.putfield 88, 3) := by decide +kernel
theorem d_MS_init_222 : decode y_MS_init.2.1 222 = .ok (.aload_n 0, 1) := by decide +kernel
theorem d_MS_init_223 : decode y_MS_init.2.1 223 = .ok (.new 38, 3) := by decide +kernel
theorem d_MS_init_226 : decode y_MS_init.2.1 226 = .ok (.dup, 1) := by decide +kernel
theorem d_MS_init_227 : decode y_MS_init.2.1 227 = .ok (.sipush 900, 3) := by decide +kernel
theorem d_MS_init_230 : decode y_MS_init.2.1 230 = .ok (.invokespecial 81, 3) := by decide +kernel
theorem d_MS_init_233 : decode y_MS_init.2.1 233 = .ok (.putfield 91, 3) := by decide +kernel
theorem d_MS_init_236 : decode y_MS_init.2.1 236 = .ok (.aload_n 0, 1) := by decide +kernel
theorem d_MS_init_237 : decode y_MS_init.2.1 237 = .ok (.new 38, 3) := by decide +kernel
theorem d_MS_init_240 : decode y_MS_init.2.1 240 = .ok (.dup, 1) := by decide +kernel
theorem d_MS_init_241 : decode y_MS_init.2.1 241 = .ok (.sipush 900, 3) := by decide +kernel
theorem d_MS_init_244 : decode y_MS_init.2.1 244 = .ok (.invokespecial 81, 3) := by decide +kernel
theorem d_MS_init_247 : decode y_MS_init.2.1 247 = .ok (.putfield 94, 3) := by decide +kernel
theorem d_MS_init_250 : decode y_MS_init.2.1 250 = .ok (.aload_n 0, 1) := by decide +kernel
theorem d_MS_init_251 : decode y_MS_init.2.1 251 = .ok (.new 38, 3) := by decide +kernel
theorem d_MS_init_254 : decode y_MS_init.2.1 254 = .ok (.dup, 1) := by decide +kernel
theorem d_MS_init_255 : decode y_MS_init.2.1 255 = .ok (.sipush 900, 3) := by decide +kernel
theorem d_MS_init_258 : decode y_MS_init.2.1 258 = .ok (.invokespecial 81, 3) := by decide +kernel
theorem d_MS_init_261 : decode y_MS_init.2.1 261 = .ok (.putfield 97, 3) := by decide +kernel
theorem d_MS_init_264 : decode y_MS_init.2.1 264 = .ok (.aload_n 0, 1) := by decide +kernel
theorem d_MS_init_265 : decode y_MS_init.2.1 265 = .ok (.sipush 400, 3) := by decide +kernel
theorem d_MS_init_268 : decode y_MS_init.2.1 268 = .ok (.newarray .int, 2) := by decide +kernel
theorem d_MS_init_270 : decode y_MS_init.2.1 270 = .ok (.putfield 100, 3) := by decide +kernel
theorem d_MS_init_273 : decode y_MS_init.2.1 273 = .ok (.iconst 0, 1) := by decide +kernel
theorem d_MS_init_274 : decode y_MS_init.2.1 274 = .ok (.istore_n 1, 1) := by decide +kernel
theorem d_MS_init_275 : decode y_MS_init.2.1 275 = .ok (.iload_n 1, 1) := by decide +kernel
theorem d_MS_init_276 : decode y_MS_init.2.1 276 = .ok (.sipush 512, 3) := by decide +kernel
theorem d_MS_init_279 : decode y_MS_init.2.1 279 = .ok (.if_icmp .ge 71, 3) := by decide +kernel
theorem d_MS_init_350 : decode y_MS_init.2.1 350 = .ok (.iconst 0, 1) := by decide +kernel
theorem d_MS_init_351 : decode y_MS_init.2.1 351 = .ok (.istore_n 1, 1) := by decide +kernel
theorem d_MS_init_282 : decode y_MS_init.2.1 282 = .ok (.iconst 0, 1) := by decide +kernel
theorem d_MS_init_283 : decode y_MS_init.2.1 283 = .ok (.istore_n 2, 1) := by decide +kernel
theorem d_MS_init_284 : decode y_MS_init.2.1 284 = .ok (.iload_n 2, 1) := by decide +kernel
theorem d_MS_init_285 : decode y_MS_init.2.1 285 = .ok (.iconst 3, 1) := by decide +kernel
theorem d_MS_init_286 : decode y_MS_init.2.1 286 = .ok (.if_icmp .ge 28, 3) := by decide +kernel
theorem d_MS_init_314 : decode y_MS_init.2.1 314 = .ok (.aload_n 0, 1) := by decide +kernel
theorem d_MS_init_315 : decode y_MS_init.2.1 315 = .ok (.getfield 48, 3) := by decide +kernel
theorem d_MS_init_318 : decode y_MS_init.2.1 318 = .ok (.iload_n 1, 1) := by decide +kernel
theorem d_MS_init_289 : decode y_MS_init.2.1 289 = .ok (.aload_n 0, 1) := by decide +kernel
theorem d_MS_init_290 : decode y_MS_init.2.1 290 = .ok (.getfield 40, 3) := by decide +kernel
theorem d_MS_init_293 : decode y_MS_init.2.1 293 = .ok (.iconst 3, 1) := by decide +kernel
theorem d_MS_init_294 : decode y_MS_init.2.1 294 = .ok (.iload_n 1, 1) := by decide +kernel
theorem d_MS_init_295 : decode y_MS_init.2.1 295 = .ok (.imul, 1) := by decide +kernel
theorem d_MS_init_296 : decode y_MS_init.2.1 296 = .ok (.iload_n 2, 1) := by decide +kernel
theorem d_MS_init_297 : decode y_MS_init.2.1 297 = .ok (.iadd, 1) := by decide +kernel
theorem d_MS_init_319 : decode y_MS_init.2.1 319 = .ok (.new 38, 3) := by decide +kernel
theorem d_MS_init_322 : decode y_MS_init.2.1 322 = .ok (.dup, 1) := by decide +kernel
theorem d_MS_init_323 : decode y_MS_init.2.1 323 = .ok (.bipush 56, 2) := by decide +kernel
theorem d_MS_init_325 : decode y_MS_init.2.1 325 = .ok (.invokespecial 81, 3) := by decide +kernel
theorem d_MS_init_328 : decode y_MS_init.2.1 328 = .ok (.aastore, 1) := by decide +kernel
theorem d_MS_init_329 : decode y_MS_init.2.1 329 = .ok (.aload_n 0, 1) := by decide +kernel
theorem d_MS_init_330 : decode y_MS_init.2.1 330 = .ok (.getfield 69, 3) := by decide +kernel
theorem d_MS_init_333 : decode y_MS_init.2.1 333 = .ok (.iload_n 1, 1) := by decide +kernel
theorem d_MS_init_334 : decode y_MS_init.2.1 334 = .ok (.new 38, 3) := by decide +kernel
theorem d_MS_init_337 : decode y_MS_init.2.1 337 = .ok (.dup, 1) := by decide +kernel
theorem d_MS_init_338 : decode y_MS_init.2.1 338 = .ok (.bipush 56, 2) := by decide +kernel
theorem d_MS_init_340 : decode y_MS_init.2.1 340 = .ok (.invokespecial 81, 3) := by decide +kernel
theorem d_MS_init_343 : decode y_MS_init.2.1 343 = .ok (.aastore, 1) := by decide +kernel
theorem d_MS_init_344 : decode y_MS_init.2.1 344 = .ok (.iinc 1 1, 3) := by decide +kernel
theorem d_MS_init_347 : decode y_MS_init.2.1 347 = .ok (.goto (-72), 3) := by decide +kernel
theorem d_MS_init_298 : decode y_MS_init.2.1 298 = .ok (.new 38, 3) := by decide +kernel
theorem d_MS_init_301 : decode y_MS_init.2.1 301 = .ok (.dup, 1) := by decide +kernel
theorem d_MS_init_302 : decode y_MS_init.2.1 302 = .ok (.bipush 56, 2) := by decide +kernel
theorem d_MS_init_304 : decode y_MS_init.2.1 304 = .ok (.invokespecial 81, 3) := by decide +kernel
theorem d_MS_init_307 : decode y_MS_init.2.1 307 = .ok (.aastore, 1) := by decide +kernel
theorem d_MS_init_308 : decode y_MS_init.2.1 308 = .ok (.iinc 2 1, 3) := by decide +kernel
theorem d_MS_init_311 : decode y_MS_init.2.1 311 = .ok (.goto (-27), 3) := by decide +kernel
theorem d_MS_init_352 : decode y_MS_init.2.1 352 = .ok (.iload_n 1, 1) := by decide +kernel
theorem d_MS_init_353 : decode y_MS_init.2.1 353 = .ok (.sipush 1640, 3) := by decide +kernel
theorem d_MS_init_356 : decode y_MS_init.2.1 356 = .ok (.if_icmp .ge 24, 3) := by decide +kernel
theorem d_MS_init_380 : decode y_MS_init.2.1 380 = .ok (.return_, 1) := by decide +kernel
theorem d_MS_init_359 : decode y_MS_init.2.1 359 = .ok (.aload_n 0, 1) := by decide +kernel
theorem d_MS_init_360 : decode y_MS_init.2.1 360 = .ok (.getfield 78, 3) := by decide +kernel
theorem d_MS_init_363 : decode y_MS_init.2.1 363 = .ok (.iload_n 1, 1) := by decide +kernel
theorem d_MS_init_364 : decode y_MS_init.2.1 364 = .ok (.new 38, 3) := by decide +kernel
theorem d_MS_init_367 : decode y_MS_init.2.1 367 = .ok (.dup, 1) := by decide +kernel
theorem d_MS_init_368 : decode y_MS_init.2.1 368 = .ok (.bipush 56, 2) := by decide +kernel
theorem d_MS_init_370 : decode y_MS_init.2.1 370 = .ok (.invokespecial 81, 3) := by decide +kernel
theorem d_MS_init_373 : decode y_MS_init.2.1 373 = .ok (.aastore, 1) := by decide +kernel
theorem d_MS_init_374 : decode y_MS_init.2.1 374 = .ok (.iinc 1 1, 3) := by decide +kernel
theorem d_MS_init_377 : decode y_MS_init.2.1 377 = .ok (.goto (-25), 3) := by decide +kernel
def h_MS_init_275 (G : mG) (d : Nat) (a0 : Nat) (l1 : Int) (M : mM) (Q : mM → Prop) : Prop := mWm G y_MS_init (d + 1) 275 [vr a0, vi l1, vd] [] M (fun r9 M9 => r9 = none ∧ Q M9)
def h_MS_init_284 (G : mG) (d : Nat) (a0 : Nat) (l1 : Int) (l2 : Int) (M : mM) (Q : mM → Prop) : Prop := mWm G y_MS_init (d + 1) 284 [vr a0, vi l1, vi l2] [] M (fun r9 M9 => r9 = none ∧ Q M9)
def h_MS_init_352 (G : mG) (d : Nat) (a0 : Nat) (l1 : Int) (M : mM) (Q : mM → Prop) : Prop := mWm G y_MS_init (d + 1) 352 [vr a0, vi l1, vd] [] M (fun r9 M9 => r9 = none ∧ Q M9)
theorem k_MS_init {G : mG} {d : Nat} {a0 : Nat} {M : mM} {Q : mM → Prop} (hO : mOk M)
    (h : 0 < a0 ∧ ∀ M2, M2 = mNew M 18 0 7 → Cv G y_MU_init d [vr (mZ M)] M2 (fun M4 => mOk M4 ∧ (mK M4 a0 = 17 ∧ ∀ M8, M8 = mUR M4 a0 0 (mZ M) → ∀ M10, M10 = mNew M8 30 513 513 → mK M10 a0 = 17 ∧ ∀ M13, M13 = mUR M10 a0 4 (mZ M8) → ∀ M15, M15 = mNew M13 30 514 514 → mK M15 a0 = 17 ∧ ∀ M18, M18 = mUR M15 a0 5 (mZ M13) → ∀ M20, M20 = mNew M18 30 4200 4200 → mK M20 a0 = 17 ∧ ∀ M23, M23 = mUR M20 a0 6 (mZ M18) → ∀ M25, M25 = mNew M23 30 4201 4201 → mK M25 a0 = 17 ∧ ∀ M28, M28 = mUR M25 a0 7 (mZ M23) → ∀ M30, M30 = mNew M28 30 4096 4096 → mK M30 a0 = 17 ∧ ∀ M33, M33 = mUR M30 a0 8 (mZ M28) → ∀ M35, M35 = mNew M33 30 4096 4096 → mK M35 a0 = 17 ∧ ∀ M38, M38 = mUR M35 a0 9 (mZ M33) → ∀ M40, M40 = mNew M38 30 4096 4096 → mK M40 a0 = 17 ∧ ∀ M43, M43 = mUR M40 a0 10 (mZ M38) → ∀ M45, M45 = mNew M43 36 1536 1536 → mK M45 a0 = 17 ∧ ∀ M48, M48 = mUR M45 a0 11 (mZ M43) → ∀ M50, M50 = mNew M48 31 3 3 → mK M50 a0 = 17 ∧ ∀ M53, M53 = mUR M50 a0 12 (mZ M48) → ∀ M55, M55 = mNew M53 36 512 512 → mK M55 a0 = 17 ∧ ∀ M58, M58 = mUR M55 a0 13 (mZ M53) → ∀ M60, M60 = mNew M58 30 512 512 → mK M60 a0 = 17 ∧ ∀ M63, M63 = mUR M60 a0 14 (mZ M58) → ∀ M65, M65 = mNew M63 30 512 512 → mK M65 a0 = 17 ∧ ∀ M68, M68 = mUR M65 a0 15 (mZ M63) → ∀ M70, M70 = mNew M68 30 512 512 → mK M70 a0 = 17 ∧ ∀ M73, M73 = mUR M70 a0 16 (mZ M68) → ∀ M75, M75 = mNew M73 30 512 512 → mK M75 a0 = 17 ∧ ∀ M78, M78 = mUR M75 a0 18 (mZ M73) → ∀ M80, M80 = mNew M78 31 512 512 → mK M80 a0 = 17 ∧ ∀ M83, M83 = mUR M80 a0 19 (mZ M78) → ∀ M85, M85 = mNew M83 31 512 512 → mK M85 a0 = 17 ∧ ∀ M88, M88 = mUR M85 a0 20 (mZ M83) → ∀ M90, M90 = mNew M88 36 512 512 → mK M90 a0 = 17 ∧ ∀ M93, M93 = mUR M90 a0 21 (mZ M88) → ∀ M95, M95 = mNew M93 30 40 40 → mK M95 a0 = 17 ∧ ∀ M98, M98 = mUR M95 a0 22 (mZ M93) → ∀ M100, M100 = mNew M98 30 512 512 → mK M100 a0 = 17 ∧ ∀ M103, M103 = mUR M100 a0 23 (mZ M98) → ∀ M105, M105 = mNew M103 36 1640 1640 → mK M105 a0 = 17 ∧ ∀ M108, M108 = mUR M105 a0 25 (mZ M103) → ∀ M110, M110 = mNew M108 19 0 3 → Cv G y_MF_init d [vr (mZ M108), vi 8] M110 (fun M112 => mOk M112 ∧ (mK M112 a0 = 17 ∧ ∀ M116, M116 = mUR M112 a0 26 (mZ M108) → ∀ M118, M118 = mNew M116 19 0 3 → Cv G y_MF_init d [vr (mZ M116), vi 56] M118 (fun M120 => mOk M120 ∧ (mK M120 a0 = 17 ∧ ∀ M124, M124 = mUR M120 a0 27 (mZ M116) → ∀ M126, M126 = mNew M124 19 0 3 → Cv G y_MF_init d [vr (mZ M124), vi 900] M126 (fun M128 => mOk M128 ∧ (mK M128 a0 = 17 ∧ ∀ M132, M132 = mUR M128 a0 28 (mZ M124) → ∀ M134, M134 = mNew M132 19 0 3 → Cv G y_MF_init d [vr (mZ M132), vi 900] M134 (fun M136 => mOk M136 ∧ (mK M136 a0 = 17 ∧ ∀ M140, M140 = mUR M136 a0 29 (mZ M132) → ∀ M142, M142 = mNew M140 19 0 3 → Cv G y_MF_init d [vr (mZ M140), vi 900] M142 (fun M144 => mOk M144 ∧ (mK M144 a0 = 17 ∧ ∀ M148, M148 = mUR M144 a0 30 (mZ M140) → ∀ M150, M150 = mNew M148 30 400 400 → mK M150 a0 = 17 ∧ ∀ M153, M153 = mUR M150 a0 31 (mZ M148) → h_MS_init_275 G d a0 0 M153 Q))))))))))))) :
    Cv G y_MS_init (d + 1) [vr a0] M Q := by
  refine wm_open (y := y_MS_init) rfl (Nat.le_of_ble_eq_true rfl) (L := [vr a0, vd, vd]) rfl ?_
  obtain ⟨h1, h⟩ := h
  obtain ⟨M2, e3⟩ : ∃ M2, M2 = mNew M 18 0 7 := ⟨_, rfl⟩
  replace h := h M2 e3
  refine wm_aload_n d_MS_init_0 rfl rfl ?_
  refine wm_objInit trivial k9_150 kO_inst kO_code (Nat.le_of_ble_eq_true rfl) d_MS_init_1 h1 ?_
  refine wm_aload_n d_MS_init_4 rfl rfl ?_
  have hOM2 : mOk M2 := by rw [e3]; exact mOk_New hO
  refine nf_MS_7 rfl d_MS_init_5 e3 ?_
  refine wm_dup d_MS_init_8 rfl ?_
  refine cf_MS_9 rfl d_MS_init_9 (by rw [e3]; exact if_pos rfl) (Nat.le_of_ble_eq_true rfl) (Cv.mono h (fun M4 h => ?_))
  obtain ⟨hOM4, h⟩ := h
  obtain ⟨h7, h⟩ := h
  obtain ⟨M8, e9⟩ : ∃ M8, M8 = mUR M4 a0 0 (mZ M) := ⟨_, rfl⟩
  replace h := h M8 e9
  obtain ⟨M10, e11⟩ : ∃ M10, M10 = mNew M8 30 513 513 := ⟨_, rfl⟩
  replace h := h M10 e11
  obtain ⟨h12, h⟩ := h
  obtain ⟨M13, e14⟩ : ∃ M13, M13 = mUR M10 a0 4 (mZ M8) := ⟨_, rfl⟩
  replace h := h M13 e14
  obtain ⟨M15, e16⟩ : ∃ M15, M15 = mNew M13 30 514 514 := ⟨_, rfl⟩
  replace h := h M15 e16
  obtain ⟨h17, h⟩ := h
  obtain ⟨M18, e19⟩ : ∃ M18, M18 = mUR M15 a0 5 (mZ M13) := ⟨_, rfl⟩
  replace h := h M18 e19
  obtain ⟨M20, e21⟩ : ∃ M20, M20 = mNew M18 30 4200 4200 := ⟨_, rfl⟩
  replace h := h M20 e21
  obtain ⟨h22, h⟩ := h
  obtain ⟨M23, e24⟩ : ∃ M23, M23 = mUR M20 a0 6 (mZ M18) := ⟨_, rfl⟩
  replace h := h M23 e24
  obtain ⟨M25, e26⟩ : ∃ M25, M25 = mNew M23 30 4201 4201 := ⟨_, rfl⟩
  replace h := h M25 e26
  obtain ⟨h27, h⟩ := h
  obtain ⟨M28, e29⟩ : ∃ M28, M28 = mUR M25 a0 7 (mZ M23) := ⟨_, rfl⟩
  replace h := h M28 e29
  obtain ⟨M30, e31⟩ : ∃ M30, M30 = mNew M28 30 4096 4096 := ⟨_, rfl⟩
  replace h := h M30 e31
  obtain ⟨h32, h⟩ := h
  obtain ⟨M33, e34⟩ : ∃ M33, M33 = mUR M30 a0 8 (mZ M28) := ⟨_, rfl⟩
  replace h := h M33 e34
  obtain ⟨M35, e36⟩ : ∃ M35, M35 = mNew M33 30 4096 4096 := ⟨_, rfl⟩
  replace h := h M35 e36
  obtain ⟨h37, h⟩ := h
  obtain ⟨M38, e39⟩ : ∃ M38, M38 = mUR M35 a0 9 (mZ M33) := ⟨_, rfl⟩
  replace h := h M38 e39
  obtain ⟨M40, e41⟩ : ∃ M40, M40 = mNew M38 30 4096 4096 := ⟨_, rfl⟩
  replace h := h M40 e41
  obtain ⟨h42, h⟩ := h
  obtain ⟨M43, e44⟩ : ∃ M43, M43 = mUR M40 a0 10 (mZ M38) := ⟨_, rfl⟩
  replace h := h M43 e44
  obtain ⟨M45, e46⟩ : ∃ M45, M45 = mNew M43 36 1536 1536 := ⟨_, rfl⟩
  replace h := h M45 e46
  obtain ⟨h47, h⟩ := h
  obtain ⟨M48, e49⟩ : ∃ M48, M48 = mUR M45 a0 11 (mZ M43) := ⟨_, rfl⟩
  replace h := h M48 e49
  obtain ⟨M50, e51⟩ : ∃ M50, M50 = mNew M48 31 3 3 := ⟨_, rfl⟩
  replace h := h M50 e51
  obtain ⟨h52, h⟩ := h
  obtain ⟨M53, e54⟩ : ∃ M53, M53 = mUR M50 a0 12 (mZ M48) := ⟨_, rfl⟩
  replace h := h M53 e54
  obtain ⟨M55, e56⟩ : ∃ M55, M55 = mNew M53 36 512 512 := ⟨_, rfl⟩
  replace h := h M55 e56
  obtain ⟨h57, h⟩ := h
  obtain ⟨M58, e59⟩ : ∃ M58, M58 = mUR M55 a0 13 (mZ M53) := ⟨_, rfl⟩
  replace h := h M58 e59
  obtain ⟨M60, e61⟩ : ∃ M60, M60 = mNew M58 30 512 512 := ⟨_, rfl⟩
  replace h := h M60 e61
  obtain ⟨h62, h⟩ := h
  obtain ⟨M63, e64⟩ : ∃ M63, M63 = mUR M60 a0 14 (mZ M58) := ⟨_, rfl⟩
  replace h := h M63 e64
  obtain ⟨M65, e66⟩ : ∃ M65, M65 = mNew M63 30 512 512 := ⟨_, rfl⟩
  replace h := h M65 e66
  obtain ⟨h67, h⟩ := h
  obtain ⟨M68, e69⟩ : ∃ M68, M68 = mUR M65 a0 15 (mZ M63) := ⟨_, rfl⟩
  replace h := h M68 e69
  obtain ⟨M70, e71⟩ : ∃ M70, M70 = mNew M68 30 512 512 := ⟨_, rfl⟩
  replace h := h M70 e71
  obtain ⟨h72, h⟩ := h
  obtain ⟨M73, e74⟩ : ∃ M73, M73 = mUR M70 a0 16 (mZ M68) := ⟨_, rfl⟩
  replace h := h M73 e74
  obtain ⟨M75, e76⟩ : ∃ M75, M75 = mNew M73 30 512 512 := ⟨_, rfl⟩
  replace h := h M75 e76
  obtain ⟨h77, h⟩ := h
  obtain ⟨M78, e79⟩ : ∃ M78, M78 = mUR M75 a0 18 (mZ M73) := ⟨_, rfl⟩
  replace h := h M78 e79
  obtain ⟨M80, e81⟩ : ∃ M80, M80 = mNew M78 31 512 512 := ⟨_, rfl⟩
  replace h := h M80 e81
  obtain ⟨h82, h⟩ := h
  obtain ⟨M83, e84⟩ : ∃ M83, M83 = mUR M80 a0 19 (mZ M78) := ⟨_, rfl⟩
  replace h := h M83 e84
  obtain ⟨M85, e86⟩ : ∃ M85, M85 = mNew M83 31 512 512 := ⟨_, rfl⟩
  replace h := h M85 e86
  obtain ⟨h87, h⟩ := h
  obtain ⟨M88, e89⟩ : ∃ M88, M88 = mUR M85 a0 20 (mZ M83) := ⟨_, rfl⟩
  replace h := h M88 e89
  obtain ⟨M90, e91⟩ : ∃ M90, M90 = mNew M88 36 512 512 := ⟨_, rfl⟩
  replace h := h M90 e91
  obtain ⟨h92, h⟩ := h
  obtain ⟨M93, e94⟩ : ∃ M93, M93 = mUR M90 a0 21 (mZ M88) := ⟨_, rfl⟩
  replace h := h M93 e94
  obtain ⟨M95, e96⟩ : ∃ M95, M95 = mNew M93 30 40 40 := ⟨_, rfl⟩
  replace h := h M95 e96
  obtain ⟨h97, h⟩ := h
  obtain ⟨M98, e99⟩ : ∃ M98, M98 = mUR M95 a0 22 (mZ M93) := ⟨_, rfl⟩
  replace h := h M98 e99
  obtain ⟨M100, e101⟩ : ∃ M100, M100 = mNew M98 30 512 512 := ⟨_, rfl⟩
  replace h := h M100 e101
  obtain ⟨h102, h⟩ := h
  obtain ⟨M103, e104⟩ : ∃ M103, M103 = mUR M100 a0 23 (mZ M98) := ⟨_, rfl⟩
  replace h := h M103 e104
  obtain ⟨M105, e106⟩ : ∃ M105, M105 = mNew M103 36 1640 1640 := ⟨_, rfl⟩
  replace h := h M105 e106
  obtain ⟨h107, h⟩ := h
  obtain ⟨M108, e109⟩ : ∃ M108, M108 = mUR M105 a0 25 (mZ M103) := ⟨_, rfl⟩
  replace h := h M108 e109
  obtain ⟨M110, e111⟩ : ∃ M110, M110 = mNew M108 19 0 3 := ⟨_, rfl⟩
  replace h := h M110 e111
  have hOM8 : mOk M8 := by rw [e9]; exact mOk_UR hOM4
  refine pf_MS_10 rfl rfl d_MS_init_12 h7 e9 ?_
  refine wm_aload_n d_MS_init_15 rfl rfl ?_
  refine wm_sipush d_MS_init_16 (by decide) ?_
  have hOM10 : mOk M10 := by rw [e11]; exact mOk_New hOM8
  refine wm_newarrE 0 (atype := .int) (ty := .int) rfl rfl (fun _ => rfl) rfl rfl (by decide) k1_82 ⟨by decide, by decide⟩ d_MS_init_19 e11 ?_
  have hOM13 : mOk M13 := by rw [e14]; exact mOk_UR hOM10
  refine pf_MS_16 rfl rfl d_MS_init_21 h12 e14 ?_
  refine wm_aload_n d_MS_init_24 rfl rfl ?_
  refine wm_sipush d_MS_init_25 (by decide) ?_
  have hOM15 : mOk M15 := by rw [e16]; exact mOk_New hOM13
  refine wm_newarrE 0 (atype := .int) (ty := .int) rfl rfl (fun _ => rfl) rfl rfl (by decide) k1_82 ⟨by decide, by decide⟩ d_MS_init_28 e16 ?_
  have hOM18 : mOk M18 := by rw [e19]; exact mOk_UR hOM15
  refine pf_MS_20 rfl rfl d_MS_init_30 h17 e19 ?_
  refine wm_aload_n d_MS_init_33 rfl rfl ?_
  refine wm_sipush d_MS_init_34 (by decide) ?_
  have hOM20 : mOk M20 := by rw [e21]; exact mOk_New hOM18
  refine wm_newarrE 0 (atype := .int) (ty := .int) rfl rfl (fun _ => rfl) rfl rfl (by decide) k1_82 ⟨by decide, by decide⟩ d_MS_init_37 e21 ?_
  have hOM23 : mOk M23 := by rw [e24]; exact mOk_UR hOM20
  refine pf_MS_23 rfl rfl d_MS_init_39 h22 e24 ?_
  refine wm_aload_n d_MS_init_42 rfl rfl ?_
  refine wm_sipush d_MS_init_43 (by decide) ?_
  have hOM25 : mOk M25 := by rw [e26]; exact mOk_New hOM23
  refine wm_newarrE 0 (atype := .int) (ty := .int) rfl rfl (fun _ => rfl) rfl rfl (by decide) k1_82 ⟨by decide, by decide⟩ d_MS_init_46 e26 ?_
  have hOM28 : mOk M28 := by rw [e29]; exact mOk_UR hOM25
  refine pf_MS_26 rfl rfl d_MS_init_48 h27 e29 ?_
  refine wm_aload_n d_MS_init_51 rfl rfl ?_
  refine wm_sipush d_MS_init_52 (by decide) ?_
  have hOM30 : mOk M30 := by rw [e31]; exact mOk_New hOM28
  refine wm_newarrE 0 (atype := .int) (ty := .int) rfl rfl (fun _ => rfl) rfl rfl (by decide) k1_82 ⟨by decide, by decide⟩ d_MS_init_55 e31 ?_
  have hOM33 : mOk M33 := by rw [e34]; exact mOk_UR hOM30
  refine pf_MS_29 rfl rfl d_MS_init_57 h32 e34 ?_
  refine wm_aload_n d_MS_init_60 rfl rfl ?_
  refine wm_sipush d_MS_init_61 (by decide) ?_
  have hOM35 : mOk M35 := by rw [e36]; exact mOk_New hOM33
  refine wm_newarrE 0 (atype := .int) (ty := .int) rfl rfl (fun _ => rfl) rfl rfl (by decide) k1_82 ⟨by decide, by decide⟩ d_MS_init_64 e36 ?_
  have hOM38 : mOk M38 := by rw [e39]; exact mOk_UR hOM35
  refine pf_MS_32 rfl rfl d_MS_init_66 h37 e39 ?_
  refine wm_aload_n d_MS_init_69 rfl rfl ?_
  refine wm_sipush d_MS_init_70 (by decide) ?_
  have hOM40 : mOk M40 := by rw [e41]; exact mOk_New hOM38
  refine wm_newarrE 0 (atype := .int) (ty := .int) rfl rfl (fun _ => rfl) rfl rfl (by decide) k1_82 ⟨by decide, by decide⟩ d_MS_init_73 e41 ?_
  have hOM43 : mOk M43 := by rw [e44]; exact mOk_UR hOM40
  refine pf_MS_35 rfl rfl d_MS_init_75 h42 e44 ?_
  refine wm_aload_n d_MS_init_78 rfl rfl ?_
  refine wm_sipush d_MS_init_79 (by decide) ?_
  have hOM45 : mOk M45 := by rw [e46]; exact mOk_New hOM43
  refine wm_anewE 6 rfl (fun _ => rfl) k9_221 k9_222 ⟨by decide, by decide⟩ d_MS_init_82 e46 ?_
  have hOM48 : mOk M48 := by rw [e49]; exact mOk_UR hOM45
  refine pf_MS_40 rfl rfl d_MS_init_85 h47 e49 ?_
  refine wm_aload_n d_MS_init_88 rfl rfl ?_
  refine wm_iconst d_MS_init_89 ?_
  have hOM50 : mOk M50 := by rw [e51]; exact mOk_New hOM48
  refine wm_newarrE 1 (atype := .boolean) (ty := .boolean) rfl rfl (fun _ => rfl) rfl rfl (by decide) k1_162 ⟨by decide, by decide⟩ d_MS_init_90 e51 ?_
  have hOM53 : mOk M53 := by rw [e54]; exact mOk_UR hOM50
  refine pf_MS_44 rfl rfl d_MS_init_92 h52 e54 ?_
  refine wm_aload_n d_MS_init_95 rfl rfl ?_
  refine wm_sipush d_MS_init_96 (by decide) ?_
  have hOM55 : mOk M55 := by rw [e56]; exact mOk_New hOM53
  refine wm_anewE 6 rfl (fun _ => rfl) k9_221 k9_222 ⟨by decide, by decide⟩ d_MS_init_99 e56 ?_
  have hOM58 : mOk M58 := by rw [e59]; exact mOk_UR hOM55
  refine pf_MS_48 rfl rfl d_MS_init_102 h57 e59 ?_
  refine wm_aload_n d_MS_init_105 rfl rfl ?_
  refine wm_sipush d_MS_init_106 (by decide) ?_
  have hOM60 : mOk M60 := by rw [e61]; exact mOk_New hOM58
  refine wm_newarrE 0 (atype := .int) (ty := .int) rfl rfl (fun _ => rfl) rfl rfl (by decide) k1_82 ⟨by decide, by decide⟩ d_MS_init_109 e61 ?_
  have hOM63 : mOk M63 := by rw [e64]; exact mOk_UR hOM60
  refine pf_MS_51 rfl rfl d_MS_init_111 h62 e64 ?_
  refine wm_aload_n d_MS_init_114 rfl rfl ?_
  refine wm_sipush d_MS_init_115 (by decide) ?_
  have hOM65 : mOk M65 := by rw [e66]; exact mOk_New hOM63
  refine wm_newarrE 0 (atype := .int) (ty := .int) rfl rfl (fun _ => rfl) rfl rfl (by decide) k1_82 ⟨by decide, by decide⟩ d_MS_init_118 e66 ?_
  have hOM68 : mOk M68 := by rw [e69]; exact mOk_UR hOM65
  refine pf_MS_54 rfl rfl d_MS_init_120 h67 e69 ?_
  refine wm_aload_n d_MS_init_123 rfl rfl ?_
  refine wm_sipush d_MS_init_124 (by decide) ?_
  have hOM70 : mOk M70 := by rw [e71]; exact mOk_New hOM68
  refine wm_newarrE 0 (atype := .int) (ty := .int) rfl rfl (fun _ => rfl) rfl rfl (by decide) k1_82 ⟨by decide, by decide⟩ d_MS_init_127 e71 ?_
  have hOM73 : mOk M73 := by rw [e74]; exact mOk_UR hOM70
  refine pf_MS_57 rfl rfl d_MS_init_129 h72 e74 ?_
  refine wm_aload_n d_MS_init_132 rfl rfl ?_
  refine wm_sipush d_MS_init_133 (by decide) ?_
  have hOM75 : mOk M75 := by rw [e76]; exact mOk_New hOM73
  refine wm_newarrE 0 (atype := .int) (ty := .int) rfl rfl (fun _ => rfl) rfl rfl (by decide) k1_82 ⟨by decide, by decide⟩ d_MS_init_136 e76 ?_
  have hOM78 : mOk M78 := by rw [e79]; exact mOk_UR hOM75
  refine pf_MS_60 rfl rfl d_MS_init_138 h77 e79 ?_
  refine wm_aload_n d_MS_init_141 rfl rfl ?_
  refine wm_sipush d_MS_init_142 (by decide) ?_
  have hOM80 : mOk M80 := by rw [e81]; exact mOk_New hOM78
  refine wm_newarrE 1 (atype := .boolean) (ty := .boolean) rfl rfl (fun _ => rfl) rfl rfl (by decide) k1_162 ⟨by decide, by decide⟩ d_MS_init_145 e81 ?_
  have hOM83 : mOk M83 := by rw [e84]; exact mOk_UR hOM80
  refine pf_MS_63 rfl rfl d_MS_init_147 h82 e84 ?_
  refine wm_aload_n d_MS_init_150 rfl rfl ?_
  refine wm_sipush d_MS_init_151 (by decide) ?_
  have hOM85 : mOk M85 := by rw [e86]; exact mOk_New hOM83
  refine wm_newarrE 1 (atype := .boolean) (ty := .boolean) rfl rfl (fun _ => rfl) rfl rfl (by decide) k1_162 ⟨by decide, by decide⟩ d_MS_init_154 e86 ?_
  have hOM88 : mOk M88 := by rw [e89]; exact mOk_UR hOM85
  refine pf_MS_66 rfl rfl d_MS_init_156 h87 e89 ?_
  refine wm_aload_n d_MS_init_159 rfl rfl ?_
  refine wm_sipush d_MS_init_160 (by decide) ?_
  have hOM90 : mOk M90 := by rw [e91]; exact mOk_New hOM88
  refine wm_anewE 6 rfl (fun _ => rfl) k9_221 k9_222 ⟨by decide, by decide⟩ d_MS_init_163 e91 ?_
  have hOM93 : mOk M93 := by rw [e94]; exact mOk_UR hOM90
  refine pf_MS_69 rfl rfl d_MS_init_166 h92 e94 ?_
  refine wm_aload_n d_MS_init_169 rfl rfl ?_
  refine wm_bipush d_MS_init_170 (by decide) ?_
  have hOM95 : mOk M95 := by rw [e96]; exact mOk_New hOM93
  refine wm_newarrE 0 (atype := .int) (ty := .int) rfl rfl (fun _ => rfl) rfl rfl (by decide) k1_82 ⟨by decide, by decide⟩ d_MS_init_172 e96 ?_
  have hOM98 : mOk M98 := by rw [e99]; exact mOk_UR hOM95
  refine pf_MS_72 rfl rfl d_MS_init_174 h97 e99 ?_
  refine wm_aload_n d_MS_init_177 rfl rfl ?_
  refine wm_sipush d_MS_init_178 (by decide) ?_
  have hOM100 : mOk M100 := by rw [e101]; exact mOk_New hOM98
  refine wm_newarrE 0 (atype := .int) (ty := .int) rfl rfl (fun _ => rfl) rfl rfl (by decide) k1_82 ⟨by decide, by decide⟩ d_MS_init_181 e101 ?_
  have hOM103 : mOk M103 := by rw [e104]; exact mOk_UR hOM100
  refine pf_MS_75 rfl rfl d_MS_init_183 h102 e104 ?_
  refine wm_aload_n d_MS_init_186 rfl rfl ?_
  refine wm_sipush d_MS_init_187 (by decide) ?_
  have hOM105 : mOk M105 := by rw [e106]; exact mOk_New hOM103
  refine wm_anewE 6 rfl (fun _ => rfl) k9_221 k9_222 ⟨by decide, by decide⟩ d_MS_init_190 e106 ?_
  have hOM108 : mOk M108 := by rw [e109]; exact mOk_UR hOM105
  refine pf_MS_78 rfl rfl d_MS_init_193 h107 e109 ?_
  refine wm_aload_n d_MS_init_196 rfl rfl ?_
  have hOM110 : mOk M110 := by rw [e111]; exact mOk_New hOM108
  refine nf_MS_38 rfl d_MS_init_197 e111 ?_
  refine wm_dup d_MS_init_200 rfl ?_
  refine wm_bipush d_MS_init_201 (by decide) ?_
  refine cf_MS_81 rfl d_MS_init_203 (by rw [e111]; exact if_pos rfl) (Nat.le_of_ble_eq_true rfl) (Cv.mono h (fun M112 h => ?_))
  obtain ⟨hOM112, h⟩ := h
  obtain ⟨h115, h⟩ := h
  obtain ⟨M116, e117⟩ : ∃ M116, M116 = mUR M112 a0 26 (mZ M108) := ⟨_, rfl⟩
  replace h := h M116 e117
  obtain ⟨M118, e119⟩ : ∃ M118, M118 = mNew M116 19 0 3 := ⟨_, rfl⟩
  replace h := h M118 e119
  have hOM116 : mOk M116 := by rw [e117]; exact mOk_UR hOM112
  refine pf_MS_84 rfl rfl d_MS_init_206 h115 e117 ?_
  refine wm_aload_n d_MS_init_209 rfl rfl ?_
  have hOM118 : mOk M118 := by rw [e119]; exact mOk_New hOM116
  refine nf_MS_38 rfl d_MS_init_210 e119 ?_
  refine wm_dup d_MS_init_213 rfl ?_
  refine wm_bipush d_MS_init_214 (by decide) ?_
  refine cf_MS_81 rfl d_MS_init_216 (by rw [e119]; exact if_pos rfl) (Nat.le_of_ble_eq_true rfl) (Cv.mono h (fun M120 h => ?_))
  obtain ⟨hOM120, h⟩ := h
  obtain ⟨h123, h⟩ := h
  obtain ⟨M124, e125⟩ : ∃ M124, M124 = mUR M120 a0 27 (mZ M116) := ⟨_, rfl⟩
  replace h := h M124 e125
  obtain ⟨M126, e127⟩ : ∃ M126, M126 = mNew M124 19 0 3 := ⟨_, rfl⟩
  replace h := h M126 e127
  have hOM124 : mOk M124 := by rw [e125]; exact mOk_UR hOM120
  refine pf_MS_88 rfl rfl d_MS_init_219 h123 e125 ?_
  refine wm_aload_n d_MS_init_222 rfl rfl ?_
  have hOM126 : mOk M126 := by rw [e127]; exact mOk_New hOM124
  refine nf_MS_38 rfl d_MS_init_223 e127 ?_
  refine wm_dup d_MS_init_226 rfl ?_
  refine wm_sipush d_MS_init_227 (by decide) ?_
  refine cf_MS_81 rfl d_MS_init_230 (by rw [e127]; exact if_pos rfl) (Nat.le_of_ble_eq_true rfl) (Cv.mono h (fun M128 h => ?_))
  obtain ⟨hOM128, h⟩ := h
  obtain ⟨h131, h⟩ := h
  obtain ⟨M132, e133⟩ : ∃ M132, M132 = mUR M128 a0 28 (mZ M124) := ⟨_, rfl⟩
  replace h := h M132 e133
  obtain ⟨M134, e135⟩ : ∃ M134, M134 = mNew M132 19 0 3 := ⟨_, rfl⟩
  replace h := h M134 e135
  have hOM132 : mOk M132 := by rw [e133]; exact mOk_UR hOM128
  refine pf_MS_91 rfl rfl d_MS_init_233 h131 e133 ?_
  refine wm_aload_n d_MS_init_236 rfl rfl ?_
  have hOM134 : mOk M134 := by rw [e135]; exact mOk_New hOM132
  refine nf_MS_38 rfl d_MS_init_237 e135 ?_
  refine wm_dup d_MS_init_240 rfl ?_
  refine wm_sipush d_MS_init_241 (by decide) ?_
  refine cf_MS_81 rfl d_MS_init_244 (by rw [e135]; exact if_pos rfl) (Nat.le_of_ble_eq_true rfl) (Cv.mono h (fun M136 h => ?_))
  obtain ⟨hOM136, h⟩ := h
  obtain ⟨h139, h⟩ := h
  obtain ⟨M140, e141⟩ : ∃ M140, M140 = mUR M136 a0 29 (mZ M132) := ⟨_, rfl⟩
  replace h := h M140 e141
  obtain ⟨M142, e143⟩ : ∃ M142, M142 = mNew M140 19 0 3 := ⟨_, rfl⟩
  replace h := h M142 e143
  have hOM140 : mOk M140 := by rw [e141]; exact mOk_UR hOM136
  refine pf_MS_94 rfl rfl d_MS_init_247 h139 e141 ?_
  refine wm_aload_n d_MS_init_250 rfl rfl ?_
  have hOM142 : mOk M142 := by rw [e143]; exact mOk_New hOM140
  refine nf_MS_38 rfl d_MS_init_251 e143 ?_
  refine wm_dup d_MS_init_254 rfl ?_
  refine wm_sipush d_MS_init_255 (by decide) ?_
  refine cf_MS_81 rfl d_MS_init_258 (by rw [e143]; exact if_pos rfl) (Nat.le_of_ble_eq_true rfl) (Cv.mono h (fun M144 h => ?_))
  obtain ⟨hOM144, h⟩ := h
  obtain ⟨h147, h⟩ := h
  obtain ⟨M148, e149⟩ : ∃ M148, M148 = mUR M144 a0 30 (mZ M140) := ⟨_, rfl⟩
  replace h := h M148 e149
  obtain ⟨M150, e151⟩ : ∃ M150, M150 = mNew M148 30 400 400 := ⟨_, rfl⟩
  replace h := h M150 e151
  obtain ⟨h152, h⟩ := h
  obtain ⟨M153, e154⟩ : ∃ M153, M153 = mUR M150 a0 31 (mZ M148) := ⟨_, rfl⟩
  replace h := h M153 e154
  have hOM148 : mOk M148 := by rw [e149]; exact mOk_UR hOM144
  refine pf_MS_97 rfl rfl d_MS_init_261 h147 e149 ?_
  refine wm_aload_n d_MS_init_264 rfl rfl ?_
  refine wm_sipush d_MS_init_265 (by decide) ?_
  have hOM150 : mOk M150 := by rw [e151]; exact mOk_New hOM148
  refine wm_newarrE 0 (atype := .int) (ty := .int) rfl rfl (fun _ => rfl) rfl rfl (by decide) k1_82 ⟨by decide, by decide⟩ d_MS_init_268 e151 ?_
  have hOM153 : mOk M153 := by rw [e154]; exact mOk_UR hOM150
  refine pf_MS_100 rfl rfl d_MS_init_270 h152 e154 ?_
  refine wm_iconst d_MS_init_273 ?_
  refine wm_istore_n d_MS_init_274 rfl (by decide) (L' := [vr a0, vi 0, vd]) rfl ?_
  exact h
theorem k_MS_init_275 {G : mG} {d : Nat} {a0 : Nat} {l1 : Int} {M : mM} {Q : mM → Prop} (hO : mOk M) (hi_l1 : i32 l1)
    (h : ((512 ≤ l1) → (h_MS_init_352 G d a0 0 M Q)) ∧ (¬ (512 ≤ l1) → (h_MS_init_284 G d a0 l1 0 M Q))) :
    h_MS_init_275 G d a0 l1 M Q := by
  unfold h_MS_init_275
  refine wm_iload_n d_MS_init_275 rfl rfl ?_
  refine wm_sipush d_MS_init_276 (by decide) ?_
  refine wm_icmp_ge (tgt := 350) d_MS_init_279 rfl hi_l1 ⟨by decide, by decide⟩ (fun c156 => ?_) (fun c156 => ?_)
  · replace h := h.1 c156
    refine wm_iconst d_MS_init_350 ?_
    refine wm_istore_n d_MS_init_351 rfl (by decide) (L' := [vr a0, vi 0, vd]) rfl ?_
    exact h
  · replace h := h.2 c156
    refine wm_iconst d_MS_init_282 ?_
    refine wm_istore_n d_MS_init_283 rfl (by decide) (L' := [vr a0, vi l1, vi 0]) rfl ?_
    exact h
theorem k_MS_init_284 {G : mG} {d : Nat} {a0 : Nat} {l1 : Int} {l2 : Int} {M : mM} {Q : mM → Prop} (hO : mOk M) (hi_l1 : i32 l1) (hi_l2 : i32 l2)
    (h : ((3 ≤ l2) → (mK M a0 = 17 ∧ ∀ M160, M160 = mNew M 19 0 3 → Cv G y_MF_init d [vr (mZ M), vi 56] M160 (fun M162 => mOk M162 ∧ (mK M162 (mR M a0 13) = 36 ∧ ((0 : Int) ≤ l1 ∧ l1 < (mN M162 (mR M a0 13) : Int)) ∧ mK M162 (mZ M) = 19 ∧ ∀ M168, M168 = mUR M162 (mR M a0 13) (Int.toNat l1) (mZ M) → mK M168 a0 = 17 ∧ ∀ M171, M171 = mNew M168 19 0 3 → Cv G y_MF_init d [vr (mZ M168), vi 56] M171 (fun M173 => mOk M173 ∧ (mK M173 (mR M168 a0 21) = 36 ∧ ((0 : Int) ≤ l1 ∧ l1 < (mN M173 (mR M168 a0 21) : Int)) ∧ mK M173 (mZ M168) = 19 ∧ ∀ M179, M179 = mUR M173 (mR M168 a0 21) (Int.toNat l1) (mZ M168) → h_MS_init_275 G d a0 (l1 + 1) M179 Q)))))) ∧ (¬ (3 ≤ l2) → (mK M a0 = 17 ∧ ∀ M182, M182 = mNew M 19 0 3 → Cv G y_MF_init d [vr (mZ M), vi 56] M182 (fun M184 => mOk M184 ∧ (mK M184 (mR M a0 11) = 36 ∧ ((0 : Int) ≤ (3 * l1) + l2 ∧ (3 * l1) + l2 < (mN M184 (mR M a0 11) : Int)) ∧ mK M184 (mZ M) = 19 ∧ ∀ M190, M190 = mUR M184 (mR M a0 11) (Int.toNat ((3 * l1) + l2)) (mZ M) → h_MS_init_284 G d a0 l1 (l2 + 1) M190 Q))))) :
    h_MS_init_284 G d a0 l1 l2 M Q := by
  unfold h_MS_init_284
  refine wm_iload_n d_MS_init_284 rfl rfl ?_
  refine wm_iconst d_MS_init_285 ?_
  refine wm_icmp_ge (tgt := 314) d_MS_init_286 rfl hi_l2 ⟨by decide, by decide⟩ (fun c158 => ?_) (fun c158 => ?_)
  · replace h := h.1 c158
    obtain ⟨h159, h⟩ := h
    obtain ⟨M160, e161⟩ : ∃ M160, M160 = mNew M 19 0 3 := ⟨_, rfl⟩
    replace h := h M160 e161
    refine wm_aload_n d_MS_init_314 rfl rfl ?_
    refine gf_MS_48 rfl d_MS_init_315 h159 ?_
    refine wm_iload_n d_MS_init_318 rfl rfl ?_
    have hOM160 : mOk M160 := by rw [e161]; exact mOk_New hO
    refine nf_MS_38 rfl d_MS_init_319 e161 ?_
    refine wm_dup d_MS_init_322 rfl ?_
    refine wm_bipush d_MS_init_323 (by decide) ?_
    refine cf_MS_81 rfl d_MS_init_325 (by rw [e161]; exact if_pos rfl) (Nat.le_of_ble_eq_true rfl) (Cv.mono h (fun M162 h => ?_))
    obtain ⟨hOM162, h⟩ := h
    obtain ⟨h165, h⟩ := h
    obtain ⟨h166, h⟩ := h
    obtain ⟨h167, h⟩ := h
    obtain ⟨M168, e169⟩ : ∃ M168, M168 = mUR M162 (mR M a0 13) (Int.toNat l1) (mZ M) := ⟨_, rfl⟩
    replace h := h M168 e169
    obtain ⟨h170, h⟩ := h
    obtain ⟨M171, e172⟩ : ∃ M171, M171 = mNew M168 19 0 3 := ⟨_, rfl⟩
    replace h := h M171 e172
    have hOM168 : mOk M168 := by rw [e169]; exact mOk_UR hOM162
    refine wm_aastE (t := 6) (c := 18) rfl (fun _ => rfl) rfl rfl d_MS_init_328 h165 h166 h167 e169 ?_
    refine wm_aload_n d_MS_init_329 rfl rfl ?_
    refine gf_MS_69 rfl d_MS_init_330 h170 ?_
    refine wm_iload_n d_MS_init_333 rfl rfl ?_
    have hOM171 : mOk M171 := by rw [e172]; exact mOk_New hOM168
    refine nf_MS_38 rfl d_MS_init_334 e172 ?_
    refine wm_dup d_MS_init_337 rfl ?_
    refine wm_bipush d_MS_init_338 (by decide) ?_
    refine cf_MS_81 rfl d_MS_init_340 (by rw [e172]; exact if_pos rfl) (Nat.le_of_ble_eq_true rfl) (Cv.mono h (fun M173 h => ?_))
    obtain ⟨hOM173, h⟩ := h
    obtain ⟨h176, h⟩ := h
    obtain ⟨h177, h⟩ := h
    obtain ⟨h178, h⟩ := h
    obtain ⟨M179, e180⟩ : ∃ M179, M179 = mUR M173 (mR M168 a0 21) (Int.toNat l1) (mZ M168) := ⟨_, rfl⟩
    replace h := h M179 e180
    have hOM179 : mOk M179 := by rw [e180]; exact mOk_UR hOM173
    refine wm_aastE (t := 6) (c := 18) rfl (fun _ => rfl) rfl rfl d_MS_init_343 h176 h177 h178 e180 ?_
    refine wm_iinc d_MS_init_344 (by decide) rfl (L' := [vr a0, vi (l1 + 1), vi l2]) rfl ?_
    refine wm_goto (tgt := 275) d_MS_init_347 rfl ?_
    refine wm_less (L' := [vr a0, vi (l1 + 1), vd]) ⟨Or.inr rfl, Or.inr rfl, Or.inl rfl, trivial⟩ ?_
    exact h
  · replace h := h.2 c158
    obtain ⟨h181, h⟩ := h
    obtain ⟨M182, e183⟩ : ∃ M182, M182 = mNew M 19 0 3 := ⟨_, rfl⟩
    replace h := h M182 e183
    refine wm_aload_n d_MS_init_289 rfl rfl ?_
    refine gf_MS_40 rfl d_MS_init_290 h181 ?_
    refine wm_iconst d_MS_init_293 ?_
    refine wm_iload_n d_MS_init_294 rfl rfl ?_
    refine wm_imul d_MS_init_295 ?_
    refine wm_iload_n d_MS_init_296 rfl rfl ?_
    refine wm_iadd d_MS_init_297 ?_
    have hOM182 : mOk M182 := by rw [e183]; exact mOk_New hO
    refine nf_MS_38 rfl d_MS_init_298 e183 ?_
    refine wm_dup d_MS_init_301 rfl ?_
    refine wm_bipush d_MS_init_302 (by decide) ?_
    refine cf_MS_81 rfl d_MS_init_304 (by rw [e183]; exact if_pos rfl) (Nat.le_of_ble_eq_true rfl) (Cv.mono h (fun M184 h => ?_))
    obtain ⟨hOM184, h⟩ := h
    obtain ⟨h187, h⟩ := h
    obtain ⟨h188, h⟩ := h
    obtain ⟨h189, h⟩ := h
    obtain ⟨M190, e191⟩ : ∃ M190, M190 = mUR M184 (mR M a0 11) (Int.toNat ((3 * l1) + l2)) (mZ M) := ⟨_, rfl⟩
    replace h := h M190 e191
    have hOM190 : mOk M190 := by rw [e191]; exact mOk_UR hOM184
    refine wm_aastE (t := 6) (c := 18) rfl (fun _ => rfl) rfl rfl d_MS_init_307 h187 h188 h189 e191 ?_
    refine wm_iinc d_MS_init_308 (by decide) rfl (L' := [vr a0, vi l1, vi (l2 + 1)]) rfl ?_
    refine wm_goto (tgt := 284) d_MS_init_311 rfl ?_
    exact h
theorem k_MS_init_352 {G : mG} {d : Nat} {a0 : Nat} {l1 : Int} {M : mM} {Q : mM → Prop} (hO : mOk M) (hi_l1 : i32 l1)
    (h : ((1640 ≤ l1) → (Q M)) ∧ (¬ (1640 ≤ l1) → (mK M a0 = 17 ∧ ∀ M195, M195 = mNew M 19 0 3 → Cv G y_MF_init d [vr (mZ M), vi 56] M195 (fun M197 => mOk M197 ∧ (mK M197 (mR M a0 25) = 36 ∧ ((0 : Int) ≤ l1 ∧ l1 < (mN M197 (mR M a0 25) : Int)) ∧ mK M197 (mZ M) = 19 ∧ ∀ M203, M203 = mUR M197 (mR M a0 25) (Int.toNat l1) (mZ M) → h_MS_init_352 G d a0 (l1 + 1) M203 Q))))) :
    h_MS_init_352 G d a0 l1 M Q := by
  unfold h_MS_init_352
  refine wm_iload_n d_MS_init_352 rfl rfl ?_
  refine wm_sipush d_MS_init_353 (by decide) ?_
  refine wm_icmp_ge (tgt := 380) d_MS_init_356 rfl hi_l1 ⟨by decide, by decide⟩ (fun c193 => ?_) (fun c193 => ?_)
  · replace h := h.1 c193
    refine wm_return d_MS_init_380 rfl ?_
    exact ⟨rfl, h⟩
  · replace h := h.2 c193
    obtain ⟨h194, h⟩ := h
    obtain ⟨M195, e196⟩ : ∃ M195, M195 = mNew M 19 0 3 := ⟨_, rfl⟩
    replace h := h M195 e196
    refine wm_aload_n d_MS_init_359 rfl rfl ?_
    refine gf_MS_78 rfl d_MS_init_360 h194 ?_
    refine wm_iload_n d_MS_init_363 rfl rfl ?_
    have hOM195 : mOk M195 := by rw [e196]; exact mOk_New hO
    refine nf_MS_38 rfl d_MS_init_364 e196 ?_
    refine wm_dup d_MS_init_367 rfl ?_
    refine wm_bipush d_MS_init_368 (by decide) ?_
    refine cf_MS_81 rfl d_MS_init_370 (by rw [e196]; exact if_pos rfl) (Nat.le_of_ble_eq_true rfl) (Cv.mono h (fun M197 h => ?_))
    obtain ⟨hOM197, h⟩ := h
    obtain ⟨h200, h⟩ := h
    obtain ⟨h201, h⟩ := h
    obtain ⟨h202, h⟩ := h
    obtain ⟨M203, e204⟩ : ∃ M203, M203 = mUR M197 (mR M a0 25) (Int.toNat l1) (mZ M) := ⟨_, rfl⟩
    replace h := h M203 e204
    have hOM203 : mOk M203 := by rw [e204]; exact mOk_UR hOM197
    refine wm_aastE (t := 6) (c := 18) rfl (fun _ => rfl) rfl rfl d_MS_init_373 h200 h201 h202 e204 ?_
    refine wm_iinc d_MS_init_374 (by decide) rfl (L' := [vr a0, vi (l1 + 1), vd]) rfl ?_
    refine wm_goto (tgt := 352) d_MS_init_377 rfl ?_
    exact h
theorem d_MS_clear_0 : decode y_MS_clear.2.1 0 = .ok (.aload_n 0, 1) := by decide +kernel
theorem d_MS_clear_1 : decode y_MS_clear.2.1 1 = .ok (.iconst 0, 1) := by decide +kernel
theorem d_MS_clear_2 : decode y_MS_clear.2.1 2 = .ok (.putfield 103, 3) := by decide +kernel
theorem d_MS_clear_5 : decode y_MS_clear.2.1 5 = .ok (.aload_n 0, 1) := by decide +kernel
theorem d_MS_clear_6 : decode y_MS_clear.2.1 6 = .ok (.iconst 0, 1) := by decide +kernel
theorem d_MS_clear_7 : decode y_MS_clear.2.1 7 = .ok (.putfield 107, 3) := by decide +kernel
theorem d_MS_clear_10 : decode y_MS_clear.2.1 10 = .ok (.aload_n 0, 1) := by decide +kernel
theorem d_MS_clear_11 : decode y_MS_clear.2.1 11 = .ok (.iconst 0, 1) := by decide +kernel
theorem d_MS_clear_12 : decode y_MS_clear.2.1 12 = .ok (.putfield 110, 3) := by decide +kernel
theorem d_MS_clear_15 : decode y_MS_clear.2.1 15 = .ok (.aload_n 0, 1) := by decide +kernel
theorem d_MS_clear_16 : decode y_MS_clear.2.1 16 = .ok (.getfield 20, 3) := by decide +kernel
theorem d_MS_clear_19 : decode y_MS_clear.2.1 19 = .ok (.iconst 0, 1) := by decide +kernel
theorem d_MS_clear_20 : decode y_MS_clear.2.1 20 = .ok (.iconst 0, 1) := by decide +kernel
theorem d_MS_clear_21 : decode y_MS_clear.2.1 21 = .ok (.iastore, 1) := by decide +kernel
theorem d_MS_clear_22 : decode y_MS_clear.2.1 22 = .ok (.aload_n 0, 1) := by decide +kernel
theorem d_MS_clear_23 : decode y_MS_clear.2.1 23 = .ok (.getfield 26, 3) := by decide +kernel
theorem d_MS_clear_26 : decode y_MS_clear.2.1 26 = .ok (.iconst 0, 1) := by decide +kernel
theorem d_MS_clear_27 : decode y_MS_clear.2.1 27 = .ok (.iconst 0, 1) := by decide +kernel
theorem d_MS_clear_28 : decode y_MS_clear.2.1 28 = .ok (.iastore, 1) := by decide +kernel
theorem d_MS_clear_29 : decode y_MS_clear.2.1 29 = .ok (.iconst 0, 1) := by decide +kernel
theorem d_MS_clear_30 : decode y_MS_clear.2.1 30 = .ok (.istore_n 1, 1) := by decide +kernel
theorem d_MS_clear_31 : decode y_MS_clear.2.1 31 = .ok (.iload_n 1, 1) := by decide +kernel
theorem d_MS_clear_32 : decode y_MS_clear.2.1 32 = .ok (.iconst 3, 1) := by decide +kernel
theorem d_MS_clear_33 : decode y_MS_clear.2.1 33 = .ok (.if_icmp .ge 16, 3) := by decide +kernel
theorem d_MS_clear_49 : decode y_MS_clear.2.1 49 = .ok (.return_, 1) := by decide +kernel
theorem d_MS_clear_36 : decode y_MS_clear.2.1 36 = .ok (.aload_n 0, 1) := by decide +kernel
theorem d_MS_clear_37 : decode y_MS_clear.2.1 37 = .ok (.getfield 44, 3) := by decide +kernel
theorem d_MS_clear_40 : decode y_MS_clear.2.1 40 = .ok (.iload_n 1, 1) := by decide +kernel
theorem d_MS_clear_41 : decode y_MS_clear.2.1 41 = .ok (.iconst 0, 1) := by decide +kernel
theorem d_MS_clear_42 : decode y_MS_clear.2.1 42 = .ok (.bastore, 1) := by decide +kernel
theorem d_MS_clear_43 : decode y_MS_clear.2.1 43 = .ok (.iinc 1 1, 3) := by decide +kernel
theorem d_MS_clear_46 : decode y_MS_clear.2.1 46 = .ok (.goto (-15), 3) := by decide +kernel
def h_MS_clear_31 (G : mG) (d : Nat) (a0 : Nat) (l1 : Int) (M : mM) (Q : mM → Prop) : Prop := mWm G y_MS_clear d 31 [vr a0, vi l1] [] M (fun r9 M9 => r9 = none ∧ Q M9)
theorem k_MS_clear {G : mG} {d : Nat} {a0 : Nat} {M : mM} {Q : mM → Prop} (hO : mOk M)
    (h : mK M a0 = 17 ∧ ∀ M2, M2 = mUI M a0 1 0 → ∀ M4, M4 = mUI M2 a0 2 0 → ∀ M6, M6 = mUI M4 a0 3 0 → mK M6 (mR M6 a0 5) = 30 ∧ ((0 : Int) ≤ 0 ∧ 0 < (mN M6 (mR M6 a0 5) : Int)) ∧ ∀ M10, M10 = mUI M6 (mR M6 a0 5) 0 0 → mK M10 (mR M10 a0 7) = 30 ∧ ((0 : Int) ≤ 0 ∧ 0 < (mN M10 (mR M10 a0 7) : Int)) ∧ ∀ M14, M14 = mUI M10 (mR M10 a0 7) 0 0 → h_MS_clear_31 G d a0 0 M14 Q) :
    Cv G y_MS_clear d [vr a0] M Q := by
  refine wm_open (y := y_MS_clear) rfl (Nat.le_of_ble_eq_true rfl) (L := [vr a0, vd]) rfl ?_
  obtain ⟨h1, h⟩ := h
  obtain ⟨M2, e3⟩ : ∃ M2, M2 = mUI M a0 1 0 := ⟨_, rfl⟩
  replace h := h M2 e3
  obtain ⟨M4, e5⟩ : ∃ M4, M4 = mUI M2 a0 2 0 := ⟨_, rfl⟩
  replace h := h M4 e5
  obtain ⟨M6, e7⟩ : ∃ M6, M6 = mUI M4 a0 3 0 := ⟨_, rfl⟩
  replace h := h M6 e7
  obtain ⟨h8, h⟩ := h
  obtain ⟨h9, h⟩ := h
  obtain ⟨M10, e11⟩ : ∃ M10, M10 = mUI M6 (mR M6 a0 5) 0 0 := ⟨_, rfl⟩
  replace h := h M10 e11
  obtain ⟨h12, h⟩ := h
  obtain ⟨h13, h⟩ := h
  obtain ⟨M14, e15⟩ : ∃ M14, M14 = mUI M10 (mR M10 a0 7) 0 0 := ⟨_, rfl⟩
  replace h := h M14 e15
  refine wm_aload_n d_MS_clear_0 rfl rfl ?_
  refine wm_iconst d_MS_clear_1 ?_
  have hOM2 : mOk M2 := by rw [e3]; exact mOk_UI hO ⟨by decide, by decide⟩
  refine pf_MS_103 rfl d_MS_clear_2 h1 ⟨by decide, by decide⟩ e3 ?_
  refine wm_aload_n d_MS_clear_5 rfl rfl ?_
  refine wm_iconst d_MS_clear_6 ?_
  have hOM4 : mOk M4 := by rw [e5]; exact mOk_UI hOM2 ⟨by decide, by decide⟩
  refine pf_MS_107 rfl d_MS_clear_7 (by rw [e3]; exact h1) ⟨by decide, by decide⟩ e5 ?_
  refine wm_aload_n d_MS_clear_10 rfl rfl ?_
  refine wm_iconst d_MS_clear_11 ?_
  have hOM6 : mOk M6 := by rw [e7]; exact mOk_UI hOM4 ⟨by decide, by decide⟩
  refine pf_MS_110 rfl d_MS_clear_12 (by rw [e5, e3]; exact h1) ⟨by decide, by decide⟩ e7 ?_
  refine wm_aload_n d_MS_clear_15 rfl rfl ?_
  refine gf_MS_20 rfl d_MS_clear_16 (by rw [e7, e5, e3]; exact h1) ?_
  refine wm_iconst d_MS_clear_19 ?_
  refine wm_iconst d_MS_clear_20 ?_
  have hOM10 : mOk M10 := by rw [e11]; exact mOk_UI hOM6 ⟨by decide, by decide⟩
  refine wm_iastE d_MS_clear_21 h8 h9 ⟨by decide, by decide⟩ e11 ?_
  refine wm_aload_n d_MS_clear_22 rfl rfl ?_
  refine gf_MS_26 rfl d_MS_clear_23 (by rw [e11, e7, e5, e3]; exact h1) ?_
  refine wm_iconst d_MS_clear_26 ?_
  refine wm_iconst d_MS_clear_27 ?_
  have hOM14 : mOk M14 := by rw [e15]; exact mOk_UI hOM10 ⟨by decide, by decide⟩
  refine wm_iastE d_MS_clear_28 h12 h13 ⟨by decide, by decide⟩ e15 ?_
  refine wm_iconst d_MS_clear_29 ?_
  refine wm_istore_n d_MS_clear_30 rfl (by decide) (L' := [vr a0, vi 0]) rfl ?_
  exact h
theorem k_MS_clear_31 {G : mG} {d : Nat} {a0 : Nat} {l1 : Int} {M : mM} {Q : mM → Prop} (hO : mOk M) (hi_l1 : i32 l1)
    (h : ((3 ≤ l1) → (Q M)) ∧ (¬ (3 ≤ l1) → (mK M a0 = 17 ∧ mK M (mR M a0 12) = 31 ∧ ((0 : Int) ≤ l1 ∧ l1 < (mN M (mR M a0 12) : Int)) ∧ ∀ M24, M24 = mUI M (mR M a0 12) (Int.toNat l1) 0 → h_MS_clear_31 G d a0 (l1 + 1) M24 Q))) :
    h_MS_clear_31 G d a0 l1 M Q := by
  unfold h_MS_clear_31
  refine wm_iload_n d_MS_clear_31 rfl rfl ?_
  refine wm_iconst d_MS_clear_32 ?_
  refine wm_icmp_ge (tgt := 49) d_MS_clear_33 rfl hi_l1 ⟨by decide, by decide⟩ (fun c20 => ?_) (fun c20 => ?_)
  · replace h := h.1 c20
    refine wm_return d_MS_clear_49 rfl ?_
    exact ⟨rfl, h⟩
  · replace h := h.2 c20
    obtain ⟨h21, h⟩ := h
    obtain ⟨h22, h⟩ := h
    obtain ⟨h23, h⟩ := h
    obtain ⟨M24, e25⟩ : ∃ M24, M24 = mUI M (mR M a0 12) (Int.toNat l1) 0 := ⟨_, rfl⟩
    replace h := h M24 e25
    refine wm_aload_n d_MS_clear_36 rfl rfl ?_
    refine gf_MS_44 rfl d_MS_clear_37 h21 ?_
    refine wm_iload_n d_MS_clear_40 rfl rfl ?_
    refine wm_iconst d_MS_clear_41 ?_
    have hOM24 : mOk M24 := by rw [e25]; exact mOk_UI hO (m_b32 (by decide))
    refine wm_zastE d_MS_clear_42 h22 h23 (by decide) e25 ?_
    refine wm_iinc d_MS_clear_43 (by decide) rfl (L' := [vr a0, vi (l1 + 1)]) rfl ?_
    refine wm_goto (tgt := 31) d_MS_clear_46 rfl ?_
    exact h
theorem d_MS_addState_0 : decode y_MS_addState.2.1 0 = .ok (.aload_n 0, 1) := by decide +kernel
theorem d_MS_addState_1 : decode y_MS_addState.2.1 1 = .ok (.getfield 16, 3) := by decide +kernel
theorem d_MS_addState_4 : decode y_MS_addState.2.1 4 = .ok (.aload_n 0, 1) := by decide +kernel
theorem d_MS_addState_5 : decode y_MS_addState.2.1 5 = .ok (.getfield 103, 3) := by decide +kernel
theorem d_MS_addState_8 : decode y_MS_addState.2.1 8 = .ok (.iload_n 1, 1) := by decide +kernel
theorem d_MS_addState_9 : decode y_MS_addState.2.1 9 = .ok (.iastore, 1) := by decide +kernel
theorem d_MS_addState_10 : decode y_MS_addState.2.1 10 = .ok (.aload_n 0, 1) := by decide +kernel
theorem d_MS_addState_11 : decode y_MS_addState.2.1 11 = .ok (.getfield 51, 3) := by decide +kernel
theorem d_MS_addState_14 : decode y_MS_addState.2.1 14 = .ok (.aload_n 0, 1) := by decide +kernel
theorem d_MS_addState_15 : decode y_MS_addState.2.1 15 = .ok (.getfield 103, 3) := by decide +kernel
theorem d_MS_addState_18 : decode y_MS_addState.2.1 18 = .ok (.iconst 0, 1) := by decide +kernel
theorem d_MS_addState_19 : decode y_MS_addState.2.1 19 = .ok (.iastore, 1) := by decide +kernel
theorem d_MS_addState_20 : decode y_MS_addState.2.1 20 = .ok (.aload_n 0, 1) := by decide +kernel
theorem d_MS_addState_21 : decode y_MS_addState.2.1 21 = .ok (.dup, 1) := by decide +kernel
theorem d_MS_addState_22 : decode y_MS_addState.2.1 22 = .ok (.getfield 103, 3) := by decide +kernel
theorem d_MS_addState_25 : decode y_MS_addState.2.1 25 = .ok (.iconst 1, 1) := by decide +kernel
theorem d_MS_addState_26 : decode y_MS_addState.2.1 26 = .ok (.iadd, 1) := by decide +kernel
theorem d_MS_addState_27 : decode y_MS_addState.2.1 27 = .ok (.putfield 103, 3) := by decide +kernel
theorem d_MS_addState_30 : decode y_MS_addState.2.1 30 = .ok (.aload_n 0, 1) := by decide +kernel
theorem d_MS_addState_31 : decode y_MS_addState.2.1 31 = .ok (.getfield 20, 3) := by decide +kernel
theorem d_MS_addState_34 : decode y_MS_addState.2.1 34 = .ok (.aload_n 0, 1) := by decide +kernel
theorem d_MS_addState_35 : decode y_MS_addState.2.1 35 = .ok (.getfield 103, 3) := by decide +kernel
theorem d_MS_addState_38 : decode y_MS_addState.2.1 38 = .ok (.aload_n 0, 1) := by decide +kernel
theorem d_MS_addState_39 : decode y_MS_addState.2.1 39 = .ok (.getfield 107, 3) := by decide +kernel
theorem d_MS_addState_42 : decode y_MS_addState.2.1 42 = .ok (.iastore, 1) := by decide +kernel
theorem d_MS_addState_43 : decode y_MS_addState.2.1 43 = .ok (.return_, 1) := by decide +kernel
theorem k_MS_addState {G : mG} {d : Nat} {a0 : Nat} {l1 : Int} {M : mM} {Q : mM → Prop} (hO : mOk M) (hi_l1 : i32 l1)
    (h : mK M a0 = 17 ∧ mK M (mR M a0 4) = 30 ∧ ((0 : Int) ≤ mI M a0 1 ∧ mI M a0 1 < (mN M (mR M a0 4) : Int)) ∧ ∀ M4, M4 = mUI M (mR M a0 4) (Int.toNat (mI M a0 1)) l1 → mK M4 (mR M4 a0 14) = 30 ∧ ((0 : Int) ≤ mI M4 a0 1 ∧ mI M4 a0 1 < (mN M4 (mR M4 a0 14) : Int)) ∧ ∀ M8, M8 = mUI M4 (mR M4 a0 14) (Int.toNat (mI M4 a0 1)) 0 → i32 ((mI M8 a0 1) + 1) ∧ ∀ M11, M11 = mUI M8 a0 1 ((mI M8 a0 1) + 1) → mK M11 (mR M11 a0 5) = 30 ∧ ((0 : Int) ≤ mI M11 a0 1 ∧ mI M11 a0 1 < (mN M11 (mR M11 a0 5) : Int)) ∧ ∀ M15, M15 = mUI M11 (mR M11 a0 5) (Int.toNat (mI M11 a0 1)) (mI M11 a0 2) → Q M15) :
    Cv G y_MS_addState d [vr a0, vi l1] M Q := by
  refine wm_open (y := y_MS_addState) rfl (Nat.le_of_ble_eq_true rfl) (L := [vr a0, vi l1]) rfl ?_
  obtain ⟨h1, h⟩ := h
  obtain ⟨h2, h⟩ := h
  obtain ⟨h3, h⟩ := h
  obtain ⟨M4, e5⟩ : ∃ M4, M4 = mUI M (mR M a0 4) (Int.toNat (mI M a0 1)) l1 := ⟨_, rfl⟩
  replace h := h M4 e5
  obtain ⟨h6, h⟩ := h
  obtain ⟨h7, h⟩ := h
  obtain ⟨M8, e9⟩ : ∃ M8, M8 = mUI M4 (mR M4 a0 14) (Int.toNat (mI M4 a0 1)) 0 := ⟨_, rfl⟩
  replace h := h M8 e9
  obtain ⟨h10, h⟩ := h
  obtain ⟨M11, e12⟩ : ∃ M11, M11 = mUI M8 a0 1 ((mI M8 a0 1) + 1) := ⟨_, rfl⟩
  replace h := h M11 e12
  obtain ⟨h13, h⟩ := h
  obtain ⟨h14, h⟩ := h
  obtain ⟨M15, e16⟩ : ∃ M15, M15 = mUI M11 (mR M11 a0 5) (Int.toNat (mI M11 a0 1)) (mI M11 a0 2) := ⟨_, rfl⟩
  replace h := h M15 e16
  refine wm_aload_n d_MS_addState_0 rfl rfl ?_
  refine gf_MS_16 rfl d_MS_addState_1 h1 ?_
  refine wm_aload_n d_MS_addState_4 rfl rfl ?_
  refine gf_MS_103 rfl d_MS_addState_5 h1 ?_
  refine wm_iload_n d_MS_addState_8 rfl rfl ?_
  have hOM4 : mOk M4 := by rw [e5]; exact mOk_UI hO hi_l1
  refine wm_iastE d_MS_addState_9 h2 h3 hi_l1 e5 ?_
  refine wm_aload_n d_MS_addState_10 rfl rfl ?_
  refine gf_MS_51 rfl d_MS_addState_11 (by rw [e5]; exact h1) ?_
  refine wm_aload_n d_MS_addState_14 rfl rfl ?_
  refine gf_MS_103 rfl d_MS_addState_15 (by rw [e5]; exact h1) ?_
  refine wm_iconst d_MS_addState_18 ?_
  have hOM8 : mOk M8 := by rw [e9]; exact mOk_UI hOM4 ⟨by decide, by decide⟩
  refine wm_iastE d_MS_addState_19 h6 h7 ⟨by decide, by decide⟩ e9 ?_
  refine wm_aload_n d_MS_addState_20 rfl rfl ?_
  refine wm_dup d_MS_addState_21 rfl ?_
  refine gf_MS_103 rfl d_MS_addState_22 (by rw [e9, e5]; exact h1) ?_
  refine wm_iconst d_MS_addState_25 ?_
  refine wm_iadd d_MS_addState_26 ?_
  have hOM11 : mOk M11 := by rw [e12]; exact mOk_UI hOM8 h10
  refine pf_MS_103 rfl d_MS_addState_27 (by rw [e9, e5]; exact h1) h10 e12 ?_
  refine wm_aload_n d_MS_addState_30 rfl rfl ?_
  refine gf_MS_20 rfl d_MS_addState_31 (by rw [e12, e9, e5]; exact h1) ?_
  refine wm_aload_n d_MS_addState_34 rfl rfl ?_
  refine gf_MS_103 rfl d_MS_addState_35 (by rw [e12, e9, e5]; exact h1) ?_
  refine wm_aload_n d_MS_addState_38 rfl rfl ?_
  refine gf_MS_107 rfl d_MS_addState_39 (by rw [e12, e9, e5]; exact h1) ?_
  have hOM15 : mOk M15 := by rw [e16]; exact mOk_UI hOM11 (hOM11 _ _).1
  refine wm_iastE d_MS_addState_42 h13 h14 (hOM11 _ _).1 e16 ?_
  refine wm_return d_MS_addState_43 rfl ?_
  exact ⟨rfl, h⟩
theorem d_MS_addCommand_0 : decode y_MS_addCommand.2.1 0 = .ok (.aload_n 0, 1) := by decide +kernel
theorem d_MS_addCommand_1 : decode y_MS_addCommand.2.1 1 = .ok (.getfield 23, 3) := by decide +kernel
theorem d_MS_addCommand_4 : decode y_MS_addCommand.2.1 4 = .ok (.aload_n 0, 1) := by decide +kernel
theorem d_MS_addCommand_5 : decode y_MS_addCommand.2.1 5 = .ok (.getfield 107, 3) := by decide +kernel
theorem d_MS_addCommand_8 : decode y_MS_addCommand.2.1 8 = .ok (.iload_n 1, 1) := by decide +kernel
theorem d_MS_addCommand_9 : decode y_MS_addCommand.2.1 9 = .ok (.iastore, 1) := by decide +kernel
theorem d_MS_addCommand_10 : decode y_MS_addCommand.2.1 10 = .ok (.aload_n 0, 1) := by decide +kernel
theorem d_MS_addCommand_11 : decode y_MS_addCommand.2.1 11 = .ok (.dup, 1) := by decide +kernel
theorem d_MS_addCommand_12 : decode y_MS_addCommand.2.1 12 = .ok (.getfield 107, 3) := by decide +kernel
theorem d_MS_addCommand_15 : decode y_MS_addCommand.2.1 15 = .ok (.iconst 1, 1) := by decide +kernel
theorem d_MS_addCommand_16 : decode y_MS_addCommand.2.1 16 = .ok (.iadd, 1) := by decide +kernel
theorem d_MS_addCommand_17 : decode y_MS_addCommand.2.1 17 = .ok (.putfield 107, 3) := by decide +kernel
theorem d_MS_addCommand_20 : decode y_MS_addCommand.2.1 20 = .ok (.aload_n 0, 1) := by decide +kernel
theorem d_MS_addCommand_21 : decode y_MS_addCommand.2.1 21 = .ok (.getfield 26, 3) := by decide +kernel
theorem d_MS_addCommand_24 : decode y_MS_addCommand.2.1 24 = .ok (.aload_n 0, 1) := by decide +kernel
theorem d_MS_addCommand_25 : decode y_MS_addCommand.2.1 25 = .ok (.getfield 107, 3) := by decide +kernel
theorem d_MS_addCommand_28 : decode y_MS_addCommand.2.1 28 = .ok (.aload_n 0, 1) := by decide +kernel
theorem d_MS_addCommand_29 : decode y_MS_addCommand.2.1 29 = .ok (.getfield 110, 3) := by decide +kernel
theorem d_MS_addCommand_32 : decode y_MS_addCommand.2.1 32 = .ok (.iastore, 1) := by decide +kernel
theorem d_MS_addCommand_33 : decode y_MS_addCommand.2.1 33 = .ok (.aload_n 0, 1) := by decide +kernel
theorem d_MS_addCommand_34 : decode y_MS_addCommand.2.1 34 = .ok (.getfield 20, 3) := by decide +kernel
theorem d_MS_addCommand_37 : decode y_MS_addCommand.2.1 37 = .ok (.aload_n 0, 1) := by decide +kernel
theorem d_MS_addCommand_38 : decode y_MS_addCommand.2.1 38 = .ok (.getfield 103, 3) := by decide +kernel
theorem d_MS_addCommand_41 : decode y_MS_addCommand.2.1 41 = .ok (.aload_n 0, 1) := by decide +kernel
theorem d_MS_addCommand_42 : decode y_MS_addCommand.2.1 42 = .ok (.getfield 107, 3) := by decide +kernel
theorem d_MS_addCommand_45 : decode y_MS_addCommand.2.1 45 = .ok (.iastore, 1) := by decide +kernel
theorem d_MS_addCommand_46 : decode y_MS_addCommand.2.1 46 = .ok (.return_, 1) := by decide +kernel
theorem k_MS_addCommand {G : mG} {d : Nat} {a0 : Nat} {l1 : Int} {M : mM} {Q : mM → Prop} (hO : mOk M) (hi_l1 : i32 l1)
    (h : mK M a0 = 17 ∧ mK M (mR M a0 6) = 30 ∧ ((0 : Int) ≤ mI M a0 2 ∧ mI M a0 2 < (mN M (mR M a0 6) : Int)) ∧ ∀ M4, M4 = mUI M (mR M a0 6) (Int.toNat (mI M a0 2)) l1 → i32 ((mI M4 a0 2) + 1) ∧ ∀ M7, M7 = mUI M4 a0 2 ((mI M4 a0 2) + 1) → mK M7 (mR M7 a0 7) = 30 ∧ ((0 : Int) ≤ mI M7 a0 2 ∧ mI M7 a0 2 < (mN M7 (mR M7 a0 7) : Int)) ∧ ∀ M11, M11 = mUI M7 (mR M7 a0 7) (Int.toNat (mI M7 a0 2)) (mI M7 a0 3) → mK M11 (mR M11 a0 5) = 30 ∧ ((0 : Int) ≤ mI M11 a0 1 ∧ mI M11 a0 1 < (mN M11 (mR M11 a0 5) : Int)) ∧ ∀ M15, M15 = mUI M11 (mR M11 a0 5) (Int.toNat (mI M11 a0 1)) (mI M11 a0 2) → Q M15) :
    Cv G y_MS_addCommand d [vr a0, vi l1] M Q := by
  refine wm_open (y := y_MS_addCommand) rfl (Nat.le_of_ble_eq_true rfl) (L := [vr a0, vi l1]) rfl ?_
  obtain ⟨h1, h⟩ := h
  obtain ⟨h2, h⟩ := h
  obtain ⟨h3, h⟩ := h
  obtain ⟨M4, e5⟩ : ∃ M4, M4 = mUI M (mR M a0 6) (Int.toNat (mI M a0 2)) l1 := ⟨_, rfl⟩
  replace h := h M4 e5
  obtain ⟨h6, h⟩ := h
  obtain ⟨M7, e8⟩ : ∃ M7, M7 = mUI M4 a0 2 ((mI M4 a0 2) + 1) := ⟨_, rfl⟩
  replace h := h M7 e8
  obtain ⟨h9, h⟩ := h
  obtain ⟨h10, h⟩ := h
  obtain ⟨M11, e12⟩ : ∃ M11, M11 = mUI M7 (mR M7 a0 7) (Int.toNat (mI M7 a0 2)) (mI M7 a0 3) := ⟨_, rfl⟩
  replace h := h M11 e12
  obtain ⟨h13, h⟩ := h
  obtain ⟨h14, h⟩ := h
  obtain ⟨M15, e16⟩ : ∃ M15, M15 = mUI M11 (mR M11 a0 5) (Int.toNat (mI M11 a0 1)) (mI M11 a0 2) := ⟨_, rfl⟩
  replace h := h M15 e16
  refine wm_aload_n d_MS_addCommand_0 rfl rfl ?_
  refine gf_MS_23 rfl d_MS_addCommand_1 h1 ?_
  refine wm_aload_n d_MS_addCommand_4 rfl rfl ?_
  refine gf_MS_107 rfl d_MS_addCommand_5 h1 ?_
  refine wm_iload_n d_MS_addCommand_8 rfl rfl ?_
  have hOM4 : mOk M4 := by rw [e5]; exact mOk_UI hO hi_l1
  refine wm_iastE d_MS_addCommand_9 h2 h3 hi_l1 e5 ?_
  refine wm_aload_n d_MS_addCommand_10 rfl rfl ?_
  refine wm_dup d_MS_addCommand_11 rfl ?_
  refine gf_MS_107 rfl d_MS_addCommand_12 (by rw [e5]; exact h1) ?_
  refine wm_iconst d_MS_addCommand_15 ?_
  refine wm_iadd d_MS_addCommand_16 ?_
  have hOM7 : mOk M7 := by rw [e8]; exact mOk_UI hOM4 h6
  refine pf_MS_107 rfl d_MS_addCommand_17 (by rw [e5]; exact h1) h6 e8 ?_
  refine wm_aload_n d_MS_addCommand_20 rfl rfl ?_
  refine gf_MS_26 rfl d_MS_addCommand_21 (by rw [e8, e5]; exact h1) ?_
  refine wm_aload_n d_MS_addCommand_24 rfl rfl ?_
  refine gf_MS_107 rfl d_MS_addCommand_25 (by rw [e8, e5]; exact h1) ?_
  refine wm_aload_n d_MS_addCommand_28 rfl rfl ?_
  refine gf_MS_110 rfl d_MS_addCommand_29 (by rw [e8, e5]; exact h1) ?_
  have hOM11 : mOk M11 := by rw [e12]; exact mOk_UI hOM7 (hOM7 _ _).1
  refine wm_iastE d_MS_addCommand_32 h9 h10 (hOM7 _ _).1 e12 ?_
  refine wm_aload_n d_MS_addCommand_33 rfl rfl ?_
  refine gf_MS_20 rfl d_MS_addCommand_34 (by rw [e12, e8, e5]; exact h1) ?_
  refine wm_aload_n d_MS_addCommand_37 rfl rfl ?_
  refine gf_MS_103 rfl d_MS_addCommand_38 (by rw [e12, e8, e5]; exact h1) ?_
  refine wm_aload_n d_MS_addCommand_41 rfl rfl ?_
  refine gf_MS_107 rfl d_MS_addCommand_42 (by rw [e12, e8, e5]; exact h1) ?_
  have hOM15 : mOk M15 := by rw [e16]; exact mOk_UI hOM11 (hOM11 _ _).1
  refine wm_iastE d_MS_addCommand_45 h13 h14 (hOM11 _ _).1 e16 ?_
  refine wm_return d_MS_addCommand_46 rfl ?_
  exact ⟨rfl, h⟩
theorem d_MS_addBranch_0 : decode y_MS_addBranch.2.1 0 = .ok (.aload_n 0, 1) := by decide +kernel
theorem d_MS_addBranch_1 : decode y_MS_addBranch.2.1 1 = .ok (.getfield 29, 3) := by decide +kernel
theorem d_MS_addBranch_4 : decode y_MS_addBranch.2.1 4 = .ok (.aload_n 0, 1) := by decide +kernel
theorem d_MS_addBranch_5 : decode y_MS_addBranch.2.1 5 = .ok (.getfield 110, 3) := by decide +kernel
theorem d_MS_addBranch_8 : decode y_MS_addBranch.2.1 8 = .ok (.iload_n 1, 1) := by decide +kernel
theorem d_MS_addBranch_9 : decode y_MS_addBranch.2.1 9 = .ok (.iastore, 1) := by decide +kernel
theorem d_MS_addBranch_10 : decode y_MS_addBranch.2.1 10 = .ok (.aload_n 0, 1) := by decide +kernel
theorem d_MS_addBranch_11 : decode y_MS_addBranch.2.1 11 = .ok (.getfield 32, 3) := by decide +kernel
theorem d_MS_addBranch_14 : decode y_MS_addBranch.2.1 14 = .ok (.aload_n 0, 1) := by decide +kernel
theorem d_MS_addBranch_15 : decode y_MS_addBranch.2.1 15 = .ok (.getfield 110, 3) := by decide +kernel
theorem d_MS_addBranch_18 : decode y_MS_addBranch.2.1 18 = .ok (.iload_n 2, 1) := by decide +kernel
theorem d_MS_addBranch_19 : decode y_MS_addBranch.2.1 19 = .ok (.iastore, 1) := by decide +kernel
theorem d_MS_addBranch_20 : decode y_MS_addBranch.2.1 20 = .ok (.aload_n 0, 1) := by decide +kernel
theorem d_MS_addBranch_21 : decode y_MS_addBranch.2.1 21 = .ok (.getfield 35, 3) := by decide +kernel
theorem d_MS_addBranch_24 : decode y_MS_addBranch.2.1 24 = .ok (.aload_n 0, 1) := by decide +kernel
theorem d_MS_addBranch_25 : decode y_MS_addBranch.2.1 25 = .ok (.getfield 110, 3) := by decide +kernel
theorem d_MS_addBranch_28 : decode y_MS_addBranch.2.1 28 = .ok (.iload_n 3, 1) := by decide +kernel
theorem d_MS_addBranch_29 : decode y_MS_addBranch.2.1 29 = .ok (.iastore, 1) := by decide +kernel
theorem d_MS_addBranch_30 : decode y_MS_addBranch.2.1 30 = .ok (.aload_n 0, 1) := by decide +kernel
theorem d_MS_addBranch_31 : decode y_MS_addBranch.2.1 31 = .ok (.dup, 1) := by decide +kernel
theorem d_MS_addBranch_32 : decode y_MS_addBranch.2.1 32 = .ok (.getfield 110, 3) := by decide +kernel
theorem d_MS_addBranch_35 : decode y_MS_addBranch.2.1 35 = .ok (.iconst 1, 1) := by decide +kernel
theorem d_MS_addBranch_36 : decode y_MS_addBranch.2.1 36 = .ok (.iadd, 1) := by decide +kernel
theorem d_MS_addBranch_37 : decode y_MS_addBranch.2.1 37 = .ok (.putfield 110, 3) := by decide +kernel
theorem d_MS_addBranch_40 : decode y_MS_addBranch.2.1 40 = .ok (.aload_n 0, 1) := by decide +kernel
theorem d_MS_addBranch_41 : decode y_MS_addBranch.2.1 41 = .ok (.getfield 26, 3) := by decide +kernel
theorem d_MS_addBranch_44 : decode y_MS_addBranch.2.1 44 = .ok (.aload_n 0, 1) := by decide +kernel
theorem d_MS_addBranch_45 : decode y_MS_addBranch.2.1 45 = .ok (.getfield 107, 3) := by decide +kernel
theorem d_MS_addBranch_48 : decode y_MS_addBranch.2.1 48 = .ok (.aload_n 0, 1) := by decide +kernel
theorem d_MS_addBranch_49 : decode y_MS_addBranch.2.1 49 = .ok (.getfield 110, 3) := by decide +kernel
theorem d_MS_addBranch_52 : decode y_MS_addBranch.2.1 52 = .ok (.iastore, 1) := by decide +kernel
theorem d_MS_addBranch_53 : decode y_MS_addBranch.2.1 53 = .ok (.return_, 1) := by decide +kernel
theorem k_MS_addBranch {G : mG} {d : Nat} {a0 : Nat} {l1 : Int} {l2 : Int} {l3 : Int} {M : mM} {Q : mM → Prop} (hO : mOk M) (hi_l1 : i32 l1) (hi_l2 : i32 l2) (hi_l3 : i32 l3)
    (h : mK M a0 = 17 ∧ mK M (mR M a0 8) = 30 ∧ ((0 : Int) ≤ mI M a0 3 ∧ mI M a0 3 < (mN M (mR M a0 8) : Int)) ∧ ∀ M4, M4 = mUI M (mR M a0 8) (Int.toNat (mI M a0 3)) l1 → mK M4 (mR M4 a0 9) = 30 ∧ ((0 : Int) ≤ mI M4 a0 3 ∧ mI M4 a0 3 < (mN M4 (mR M4 a0 9) : Int)) ∧ ∀ M8, M8 = mUI M4 (mR M4 a0 9) (Int.toNat (mI M4 a0 3)) l2 → mK M8 (mR M8 a0 10) = 30 ∧ ((0 : Int) ≤ mI M8 a0 3 ∧ mI M8 a0 3 < (mN M8 (mR M8 a0 10) : Int)) ∧ ∀ M12, M12 = mUI M8 (mR M8 a0 10) (Int.toNat (mI M8 a0 3)) l3 → i32 ((mI M12 a0 3) + 1) ∧ ∀ M15, M15 = mUI M12 a0 3 ((mI M12 a0 3) + 1) → mK M15 (mR M15 a0 7) = 30 ∧ ((0 : Int) ≤ mI M15 a0 2 ∧ mI M15 a0 2 < (mN M15 (mR M15 a0 7) : Int)) ∧ ∀ M19, M19 = mUI M15 (mR M15 a0 7) (Int.toNat (mI M15 a0 2)) (mI M15 a0 3) → Q M19) :
    Cv G y_MS_addBranch d [vr a0, vi l1, vi l2, vi l3] M Q := by
  refine wm_open (y := y_MS_addBranch) rfl (Nat.le_of_ble_eq_true rfl) (L := [vr a0, vi l1, vi l2, vi l3]) rfl ?_
  obtain ⟨h1, h⟩ := h
  obtain ⟨h2, h⟩ := h
  obtain ⟨h3, h⟩ := h
  obtain ⟨M4, e5⟩ : ∃ M4, M4 = mUI M (mR M a0 8) (Int.toNat (mI M a0 3)) l1 := ⟨_, rfl⟩
  replace h := h M4 e5
  obtain ⟨h6, h⟩ := h
  obtain ⟨h7, h⟩ := h
  obtain ⟨M8, e9⟩ : ∃ M8, M8 = mUI M4 (mR M4 a0 9) (Int.toNat (mI M4 a0 3)) l2 := ⟨_, rfl⟩
  replace h := h M8 e9
  obtain ⟨h10, h⟩ := h
  obtain ⟨h11, h⟩ := h
  obtain ⟨M12, e13⟩ : ∃ M12, M12 = mUI M8 (mR M8 a0 10) (Int.toNat (mI M8 a0 3)) l3 := ⟨_, rfl⟩
  replace h := h M12 e13
  obtain ⟨h14, h⟩ := h
  obtain ⟨M15, e16⟩ : ∃ M15, M15 = mUI M12 a0 3 ((mI M12 a0 3) + 1) := ⟨_, rfl⟩
  replace h := h M15 e16
  obtain ⟨h17, h⟩ := h
  obtain ⟨h18, h⟩ := h
  obtain ⟨M19, e20⟩ : ∃ M19, M19 = mUI M15 (mR M15 a0 7) (Int.toNat (mI M15 a0 2)) (mI M15 a0 3) := ⟨_, rfl⟩
  replace h := h M19 e20
  refine wm_aload_n d_MS_addBranch_0 rfl rfl ?_
  refine gf_MS_29 rfl d_MS_addBranch_1 h1 ?_
  refine wm_aload_n d_MS_addBranch_4 rfl rfl ?_
  refine gf_MS_110 rfl d_MS_addBranch_5 h1 ?_
  refine wm_iload_n d_MS_addBranch_8 rfl rfl ?_
  have hOM4 : mOk M4 := by rw [e5]; exact mOk_UI hO hi_l1
  refine wm_iastE d_MS_addBranch_9 h2 h3 hi_l1 e5 ?_
  refine wm_aload_n d_MS_addBranch_10 rfl rfl ?_
  refine gf_MS_32 rfl d_MS_addBranch_11 (by rw [e5]; exact h1) ?_
  refine wm_aload_n d_MS_addBranch_14 rfl rfl ?_
  refine gf_MS_110 rfl d_MS_addBranch_15 (by rw [e5]; exact h1) ?_
  refine wm_iload_n d_MS_addBranch_18 rfl rfl ?_
  have hOM8 : mOk M8 := by rw [e9]; exact mOk_UI hOM4 hi_l2
  refine wm_iastE d_MS_addBranch_19 h6 h7 hi_l2 e9 ?_
  refine wm_aload_n d_MS_addBranch_20 rfl rfl ?_
  refine gf_MS_35 rfl d_MS_addBranch_21 (by rw [e9, e5]; exact h1) ?_
  refine wm_aload_n d_MS_addBranch_24 rfl rfl ?_
  refine gf_MS_110 rfl d_MS_addBranch_25 (by rw [e9, e5]; exact h1) ?_
  refine wm_iload_n d_MS_addBranch_28 rfl rfl ?_
  have hOM12 : mOk M12 := by rw [e13]; exact mOk_UI hOM8 hi_l3
  refine wm_iastE d_MS_addBranch_29 h10 h11 hi_l3 e13 ?_
  refine wm_aload_n d_MS_addBranch_30 rfl rfl ?_
  refine wm_dup d_MS_addBranch_31 rfl ?_
  refine gf_MS_110 rfl d_MS_addBranch_32 (by rw [e13, e9, e5]; exact h1) ?_
  refine wm_iconst d_MS_addBranch_35 ?_
  refine wm_iadd d_MS_addBranch_36 ?_
  have hOM15 : mOk M15 := by rw [e16]; exact mOk_UI hOM12 h14
  refine pf_MS_110 rfl d_MS_addBranch_37 (by rw [e13, e9, e5]; exact h1) h14 e16 ?_
  refine wm_aload_n d_MS_addBranch_40 rfl rfl ?_
  refine gf_MS_26 rfl d_MS_addBranch_41 (by rw [e16, e13, e9, e5]; exact h1) ?_
  refine wm_aload_n d_MS_addBranch_44 rfl rfl ?_
  refine gf_MS_107 rfl d_MS_addBranch_45 (by rw [e16, e13, e9, e5]; exact h1) ?_
  refine wm_aload_n d_MS_addBranch_48 rfl rfl ?_
  refine gf_MS_110 rfl d_MS_addBranch_49 (by rw [e16, e13, e9, e5]; exact h1) ?_
  have hOM19 : mOk M19 := by rw [e20]; exact mOk_UI hOM15 (hOM15 _ _).1
  refine wm_iastE d_MS_addBranch_52 h17 h18 (hOM15 _ _).1 e20 ?_
  refine wm_return d_MS_addBranch_53 rfl ?_
  exact ⟨rfl, h⟩
theorem d_MS_many_0 : decode y_MS_many.2.1 0 = .ok (.aload_n 0, 1) := by decide +kernel
theorem d_MS_many_1 : decode y_MS_many.2.1 1 = .ok (.getfield 20, 3) := by decide +kernel
theorem d_MS_many_4 : decode y_MS_many.2.1 4 = .ok (.iload_n 1, 1) := by decide +kernel
theorem d_MS_many_5 : decode y_MS_many.2.1 5 = .ok (.iconst 1, 1) := by decide +kernel
theorem d_MS_many_6 : decode y_MS_many.2.1 6 = .ok (.iadd, 1) := by decide +kernel
theorem d_MS_many_7 : decode y_MS_many.2.1 7 = .ok (.iaload, 1) := by decide +kernel
theorem d_MS_many_8 : decode y_MS_many.2.1 8 = .ok (.aload_n 0, 1) := by decide +kernel
theorem d_MS_many_9 : decode y_MS_many.2.1 9 = .ok (.getfield 20, 3) := by decide +kernel
theorem d_MS_many_12 : decode y_MS_many.2.1 12 = .ok (.iload_n 1, 1) := by decide +kernel
theorem d_MS_many_13 : decode y_MS_many.2.1 13 = .ok (.iaload, 1) := by decide +kernel
theorem d_MS_many_14 : decode y_MS_many.2.1 14 = .ok (.isub, 1) := by decide +kernel
theorem d_MS_many_15 : decode y_MS_many.2.1 15 = .ok (.ireturn, 1) := by decide +kernel
theorem k_MS_many {G : mG} {d : Nat} {a0 : Nat} {l1 : Int} {M : mM} {Q : Int → mM → Prop} (hO : mOk M) (hi_l1 : i32 l1)
    (h : mK M a0 = 17 ∧ mK M (mR M a0 5) = 30 ∧ ((0 : Int) ≤ l1 + 1 ∧ l1 + 1 < (mN M (mR M a0 5) : Int)) ∧ ((0 : Int) ≤ l1 ∧ l1 < (mN M (mR M a0 5) : Int)) ∧ Q ((mI M (mR M a0 5) (Int.toNat (l1 + 1))) - (mI M (mR M a0 5) (Int.toNat l1))) M) :
    Ci G y_MS_many d [vr a0, vi l1] M Q := by
  refine wm_open (y := y_MS_many) rfl (Nat.le_of_ble_eq_true rfl) (L := [vr a0, vi l1]) rfl ?_
  obtain ⟨h1, h⟩ := h
  obtain ⟨h2, h⟩ := h
  obtain ⟨h3, h⟩ := h
  obtain ⟨h4, h⟩ := h
  refine wm_aload_n d_MS_many_0 rfl rfl ?_
  refine gf_MS_20 rfl d_MS_many_1 h1 ?_
  refine wm_iload_n d_MS_many_4 rfl rfl ?_
  refine wm_iconst d_MS_many_5 ?_
  refine wm_iadd d_MS_many_6 ?_
  refine wm_iald d_MS_many_7 h2 h3 ?_
  refine wm_aload_n d_MS_many_8 rfl rfl ?_
  refine gf_MS_20 rfl d_MS_many_9 h1 ?_
  refine wm_iload_n d_MS_many_12 rfl rfl ?_
  refine wm_iald d_MS_many_13 h2 h4 ?_
  refine wm_isub d_MS_many_14 ?_
  refine wm_ireturn d_MS_many_15 rfl rfl ?_
  exact ⟨_, rfl, h⟩
theorem d_MS_may_0 : decode y_MS_may.2.1 0 = .ok (.aload_n 0, 1) := by decide +kernel
theorem d_MS_may_1 : decode y_MS_may.2.1 1 = .ok (.getfield 113, 3) := by decide +kernel
theorem d_MS_may_4 : decode y_MS_may.2.1 4 = .ok (.aload_n 0, 1) := by decide +kernel
theorem d_MS_may_5 : decode y_MS_may.2.1 5 = .ok (.getfield 16, 3) := by decide +kernel
theorem d_MS_may_8 : decode y_MS_may.2.1 8 = .ok (.iload_n 1, 1) := by decide +kernel
theorem d_MS_may_9 : decode y_MS_may.2.1 9 = .ok (.iaload, 1) := by decide +kernel
theorem d_MS_may_10 : decode y_MS_may.2.1 10 = .ok (.if_icmp .ne 13, 3) := by decide +kernel
theorem d_MS_may_13 : decode y_MS_may.2.1 13 = .ok (.aload_n 0, 1) := by decide +kernel
theorem d_MS_may_14 : decode y_MS_may.2.1 14 = .ok (.getfield 51, 3) := by decide +kernel
theorem d_MS_may_17 : decode y_MS_may.2.1 17 = .ok (.iload_n 1, 1) := by decide +kernel
theorem d_MS_may_18 : decode y_MS_may.2.1 18 = .ok (.iaload, 1) := by decide +kernel
theorem d_MS_may_19 : decode y_MS_may.2.1 19 = .ok (.iload_n 2, 1) := by decide +kernel
theorem d_MS_may_20 : decode y_MS_may.2.1 20 = .ok (.if_icmp .ne 7, 3) := by decide +kernel
theorem d_MS_may_23 : decode y_MS_may.2.1 23 = .ok (.iconst 1, 1) := by decide +kernel
theorem d_MS_may_24 : decode y_MS_may.2.1 24 = .ok (.goto 4, 3) := by decide +kernel
theorem d_MS_may_27 : decode y_MS_may.2.1 27 = .ok (.iconst 0, 1) := by decide +kernel
theorem d_MS_may_28 : decode y_MS_may.2.1 28 = .ok (.ireturn, 1) := by decide +kernel
theorem k_MS_may {G : mG} {d : Nat} {a0 : Nat} {l1 : Int} {l2 : Int} {M : mM} {Q : Int → mM → Prop} (hO : mOk M) (hi_l1 : i32 l1) (hi_l2 : i32 l2)
    (h : mK M a0 = 17 ∧ mK M (mR M a0 4) = 30 ∧ ((0 : Int) ≤ l1 ∧ l1 < (mN M (mR M a0 4) : Int)) ∧ ((mI M a0 17 = mI M (mR M a0 4) (Int.toNat l1)) → (mK M (mR M a0 14) = 30 ∧ ((0 : Int) ≤ l1 ∧ l1 < (mN M (mR M a0 14) : Int)))) ∧ ∀ v8 : Int, v8 = (if ((¬ (mI M a0 17 = mI M (mR M a0 4) (Int.toNat l1))) ∨ (mI M (mR M a0 14) (Int.toNat l1) = l2)) then 1 else 0) → Q v8 M) :
    Ci G y_MS_may d [vr a0, vi l1, vi l2] M Q := by
  refine wm_open (y := y_MS_may) rfl (Nat.le_of_ble_eq_true rfl) (L := [vr a0, vi l1, vi l2]) rfl ?_
  obtain ⟨h1, h⟩ := h
  obtain ⟨h2, h⟩ := h
  obtain ⟨h3, h⟩ := h
  refine wm_aload_n d_MS_may_0 rfl rfl ?_
  refine gf_MS_113 rfl d_MS_may_1 h1 ?_
  refine wm_aload_n d_MS_may_4 rfl rfl ?_
  refine gf_MS_16 rfl d_MS_may_5 h1 ?_
  refine wm_iload_n d_MS_may_8 rfl rfl ?_
  refine wm_iald d_MS_may_9 h2 h3 ?_
  obtain ⟨s9, h⟩ := h
  have hJ : ∀ v8 : Int, v8 = (if ((¬ (mI M a0 17 = mI M (mR M a0 4) (Int.toNat l1))) ∨ (mI M (mR M a0 14) (Int.toNat l1) = l2)) then 1 else 0) → mWm G y_MS_may d 28 [vd, vd, vd] [vi v8] M (fun r9 M9 => ∃ x9, r9 = some (vi x9) ∧ Q x9 M9) := by
    intro v8 e10
    have h := h v8 e10
    have h11 : i32 v8 := by rw [e10]; (repeat' split) <;> first | exact ⟨by decide, by decide⟩ | exact ⟨by decide, by decide⟩
    have h12 : (v8 = 0 ∨ v8 = 1) := by rw [e10]; (repeat' split) <;> decide
    refine wm_ireturn d_MS_may_28 rfl (m_nb h12) ?_
    exact ⟨_, rfl, h⟩
  clear h
  have s13 := s9
  refine wm_icmp_ne (tgt := 23) d_MS_may_10 rfl (hO _ _).1 (hO _ _).1 (fun c4 => ?_) (fun c4 => ?_)
  · refine wm_iconst d_MS_may_23 ?_
    refine wm_goto (tgt := 28) d_MS_may_24 rfl ?_
    refine wm_less (L' := [vd, vd, vd]) ⟨Or.inl rfl, Or.inl rfl, Or.inl rfl, trivial⟩ ?_
    exact hJ 1 (if_pos (Or.inl c4)).symm
  · replace c4 := Classical.not_not.mp c4
    have s13 := s13 c4
    obtain ⟨h5, h6⟩ := s13
    refine wm_aload_n d_MS_may_13 rfl rfl ?_
    refine gf_MS_51 rfl d_MS_may_14 h1 ?_
    refine wm_iload_n d_MS_may_17 rfl rfl ?_
    refine wm_iald d_MS_may_18 h5 h6 ?_
    refine wm_iload_n d_MS_may_19 rfl rfl ?_
    refine wm_icmp_ne (tgt := 27) d_MS_may_20 rfl (hO _ _).1 hi_l2 (fun c7 => ?_) (fun c7 => ?_)
    · refine wm_iconst d_MS_may_27 ?_
      refine wm_less (L' := [vd, vd, vd]) ⟨Or.inl rfl, Or.inl rfl, Or.inl rfl, trivial⟩ ?_
      exact hJ 0 (if_neg (fun z14 => Or.elim z14 (fun w => w c4) c7)).symm
    · replace c7 := Classical.not_not.mp c7
      refine wm_iconst d_MS_may_23 ?_
      refine wm_goto (tgt := 28) d_MS_may_24 rfl ?_
      refine wm_less (L' := [vd, vd, vd]) ⟨Or.inl rfl, Or.inl rfl, Or.inl rfl, trivial⟩ ?_
      exact hJ 1 (if_pos (Or.inr c7)).symm
theorem d_MS_leadsIn_0 : decode y_MS_leadsIn.2.1 0 = .ok (.aload_n 0, 1) := by decide +kernel
theorem d_MS_leadsIn_1 : decode y_MS_leadsIn.2.1 1 = .ok (.getfield 20, 3) := by decide +kernel
theorem d_MS_leadsIn_4 : decode y_MS_leadsIn.2.1 4 = .ok (.iload_n 1, 1) := by decide +kernel
theorem d_MS_leadsIn_5 : decode y_MS_leadsIn.2.1 5 = .ok (.iaload, 1) := by decide +kernel
theorem d_MS_leadsIn_6 : decode y_MS_leadsIn.2.1 6 = .ok (.iload_n 2, 1) := by decide +kernel
theorem d_MS_leadsIn_7 : decode y_MS_leadsIn.2.1 7 = .ok (.iadd, 1) := by decide +kernel
theorem d_MS_leadsIn_8 : decode y_MS_leadsIn.2.1 8 = .ok (.istore_n 3, 1) := by decide +kernel
theorem d_MS_leadsIn_9 : decode y_MS_leadsIn.2.1 9 = .ok (.iconst 0, 1) := by decide +kernel
theorem d_MS_leadsIn_10 : decode y_MS_leadsIn.2.1 10 = .ok (.istore 4, 2) := by decide +kernel
theorem d_MS_leadsIn_12 : decode y_MS_leadsIn.2.1 12 = .ok (.aload_n 0, 1) := by decide +kernel
theorem d_MS_leadsIn_13 : decode y_MS_leadsIn.2.1 13 = .ok (.getfield 26, 3) := by decide +kernel
theorem d_MS_leadsIn_16 : decode y_MS_leadsIn.2.1 16 = .ok (.iload_n 3, 1) := by decide +kernel
theorem d_MS_leadsIn_17 : decode y_MS_leadsIn.2.1 17 = .ok (.iaload, 1) := by decide +kernel
theorem d_MS_leadsIn_18 : decode y_MS_leadsIn.2.1 18 = .ok (.istore 5, 2) := by decide +kernel
theorem d_MS_leadsIn_20 : decode y_MS_leadsIn.2.1 20 = .ok (.iload 5, 2) := by decide +kernel
theorem d_MS_leadsIn_22 : decode y_MS_leadsIn.2.1 22 = .ok (.aload_n 0, 1) := by decide +kernel
theorem d_MS_leadsIn_23 : decode y_MS_leadsIn.2.1 23 = .ok (.getfield 26, 3) := by decide +kernel
theorem d_MS_leadsIn_26 : decode y_MS_leadsIn.2.1 26 = .ok (.iload_n 3, 1) := by decide +kernel
theorem d_MS_leadsIn_27 : decode y_MS_leadsIn.2.1 27 = .ok (.iconst 1, 1) := by decide +kernel
theorem d_MS_leadsIn_28 : decode y_MS_leadsIn.2.1 28 = .ok (.iadd, 1) := by decide +kernel
theorem d_MS_leadsIn_29 : decode y_MS_leadsIn.2.1 29 = .ok (.iaload, 1) := by decide +kernel
theorem d_MS_leadsIn_30 : decode y_MS_leadsIn.2.1 30 = .ok (.if_icmp .ge 36, 3) := by decide +kernel
theorem d_MS_leadsIn_66 : decode y_MS_leadsIn.2.1 66 = .ok (.iload 4, 2) := by decide +kernel
theorem d_MS_leadsIn_68 : decode y_MS_leadsIn.2.1 68 = .ok (.ireturn, 1) := by decide +kernel
theorem d_MS_leadsIn_33 : decode y_MS_leadsIn.2.1 33 = .ok (.iload 4, 2) := by decide +kernel
theorem d_MS_leadsIn_35 : decode y_MS_leadsIn.2.1 35 = .ok (.ifCond .ne 18, 3) := by decide +kernel
theorem d_MS_leadsIn_38 : decode y_MS_leadsIn.2.1 38 = .ok (.aload_n 0, 1) := by decide +kernel
theorem d_MS_leadsIn_39 : decode y_MS_leadsIn.2.1 39 = .ok (.getfield 63, 3) := by decide +kernel
theorem d_MS_leadsIn_42 : decode y_MS_leadsIn.2.1 42 = .ok (.aload_n 0, 1) := by decide +kernel
theorem d_MS_leadsIn_43 : decode y_MS_leadsIn.2.1 43 = .ok (.getfield 29, 3) := by decide +kernel
theorem d_MS_leadsIn_46 : decode y_MS_leadsIn.2.1 46 = .ok (.iload 5, 2) := by decide +kernel
theorem d_MS_leadsIn_48 : decode y_MS_leadsIn.2.1 48 = .ok (.iaload, 1) := by decide +kernel
theorem d_MS_leadsIn_49 : decode y_MS_leadsIn.2.1 49 = .ok (.baload, 1) := by decide +kernel
theorem d_MS_leadsIn_50 : decode y_MS_leadsIn.2.1 50 = .ok (.ifCond .eq 7, 3) := by decide +kernel
theorem d_MS_leadsIn_57 : decode y_MS_leadsIn.2.1 57 = .ok (.iconst 0, 1) := by decide +kernel
theorem d_MS_leadsIn_58 : decode y_MS_leadsIn.2.1 58 = .ok (.istore 4, 2) := by decide +kernel
theorem d_MS_leadsIn_60 : decode y_MS_leadsIn.2.1 60 = .ok (.iinc 5 1, 3) := by decide +kernel
theorem d_MS_leadsIn_63 : decode y_MS_leadsIn.2.1 63 = .ok (.goto (-43), 3) := by decide +kernel
theorem d_MS_leadsIn_53 : decode y_MS_leadsIn.2.1 53 = .ok (.iconst 1, 1) := by decide +kernel
theorem d_MS_leadsIn_54 : decode y_MS_leadsIn.2.1 54 = .ok (.goto 4, 3) := by decide +kernel
def h_MS_leadsIn_20 (G : mG) (d : Nat) (a0 : Nat) (l3 : Int) (l4 : Int) (l5 : Int) (M : mM) (Q : Int → mM → Prop) : Prop := mWm G y_MS_leadsIn d 20 [vr a0, vd, vd, vi l3, vi l4, vi l5] [] M (fun r9 M9 => ∃ x9, r9 = some (vi x9) ∧ Q x9 M9)
theorem k_MS_leadsIn {G : mG} {d : Nat} {a0 : Nat} {l1 : Int} {l2 : Int} {M : mM} {Q : Int → mM → Prop} (hO : mOk M) (hi_l1 : i32 l1) (hi_l2 : i32 l2)
    (h : mK M a0 = 17 ∧ mK M (mR M a0 5) = 30 ∧ ((0 : Int) ≤ l1 ∧ l1 < (mN M (mR M a0 5) : Int)) ∧ mK M (mR M a0 7) = 30 ∧ ((0 : Int) ≤ (mI M (mR M a0 5) (Int.toNat l1)) + l2 ∧ (mI M (mR M a0 5) (Int.toNat l1)) + l2 < (mN M (mR M a0 7) : Int)) ∧ h_MS_leadsIn_20 G d a0 ((mI M (mR M a0 5) (Int.toNat l1)) + l2) 0 (mI M (mR M a0 7) (Int.toNat ((mI M (mR M a0 5) (Int.toNat l1)) + l2))) M Q) :
    Ci G y_MS_leadsIn d [vr a0, vi l1, vi l2] M Q := by
  refine wm_open (y := y_MS_leadsIn) rfl (Nat.le_of_ble_eq_true rfl) (L := [vr a0, vi l1, vi l2, vd, vd, vd]) rfl ?_
  obtain ⟨h1, h⟩ := h
  obtain ⟨h2, h⟩ := h
  obtain ⟨h3, h⟩ := h
  obtain ⟨h4, h⟩ := h
  obtain ⟨h5, h⟩ := h
  refine wm_aload_n d_MS_leadsIn_0 rfl rfl ?_
  refine gf_MS_20 rfl d_MS_leadsIn_1 h1 ?_
  refine wm_iload_n d_MS_leadsIn_4 rfl rfl ?_
  refine wm_iald d_MS_leadsIn_5 h2 h3 ?_
  refine wm_iload_n d_MS_leadsIn_6 rfl rfl ?_
  refine wm_iadd d_MS_leadsIn_7 ?_
  refine wm_istore_n d_MS_leadsIn_8 rfl (by decide) (L' := [vr a0, vi l1, vi l2, vi ((mI M (mR M a0 5) (Int.toNat l1)) + l2), vd, vd]) rfl ?_
  refine wm_iconst d_MS_leadsIn_9 ?_
  refine wm_istore d_MS_leadsIn_10 (by decide) (L' := [vr a0, vi l1, vi l2, vi ((mI M (mR M a0 5) (Int.toNat l1)) + l2), vi 0, vd]) rfl ?_
  refine wm_aload_n d_MS_leadsIn_12 rfl rfl ?_
  refine gf_MS_26 rfl d_MS_leadsIn_13 h1 ?_
  refine wm_iload_n d_MS_leadsIn_16 rfl rfl ?_
  refine wm_iald d_MS_leadsIn_17 h4 h5 ?_
  refine wm_istore d_MS_leadsIn_18 (by decide) (L' := [vr a0, vi l1, vi l2, vi ((mI M (mR M a0 5) (Int.toNat l1)) + l2), vi 0, vi (mI M (mR M a0 7) (Int.toNat ((mI M (mR M a0 5) (Int.toNat l1)) + l2)))]) rfl ?_
  refine wm_less (L' := [vr a0, vd, vd, vi ((mI M (mR M a0 5) (Int.toNat l1)) + l2), vi 0, vi (mI M (mR M a0 7) (Int.toNat ((mI M (mR M a0 5) (Int.toNat l1)) + l2)))]) ⟨Or.inr rfl, Or.inl rfl, Or.inl rfl, Or.inr rfl, Or.inr rfl, Or.inr rfl, trivial⟩ ?_
  exact h
theorem k_MS_leadsIn_20 {G : mG} {d : Nat} {a0 : Nat} {l3 : Int} {l4 : Int} {l5 : Int} {M : mM} {Q : Int → mM → Prop} (hO : mOk M) (hi_l3 : i32 l3) (hi_l4 : i32 l4) (hi_l5 : i32 l5)
    (h : mK M a0 = 17 ∧ mK M (mR M a0 7) = 30 ∧ ((0 : Int) ≤ l3 + 1 ∧ l3 + 1 < (mN M (mR M a0 7) : Int)) ∧ ((mI M (mR M a0 7) (Int.toNat (l3 + 1)) ≤ l5) → ((l4 = 0 ∨ l4 = 1) ∧ Q l4 M)) ∧ (¬ (mI M (mR M a0 7) (Int.toNat (l3 + 1)) ≤ l5) → (((l4 = 0) → (mK M (mR M a0 8) = 30 ∧ ((0 : Int) ≤ l5 ∧ l5 < (mN M (mR M a0 8) : Int)) ∧ mK M (mR M a0 19) = 31 ∧ ((0 : Int) ≤ mI M (mR M a0 8) (Int.toNat l5) ∧ mI M (mR M a0 8) (Int.toNat l5) < (mN M (mR M a0 19) : Int)))) ∧ ∀ v25 : Int, v25 = (if ((l4 = 0) ∧ (mI M (mR M a0 19) (Int.toNat (mI M (mR M a0 8) (Int.toNat l5))) = 0)) then 0 else 1) → h_MS_leadsIn_20 G d a0 l3 v25 (l5 + 1) M Q))) :
    h_MS_leadsIn_20 G d a0 l3 l4 l5 M Q := by
  unfold h_MS_leadsIn_20
  obtain ⟨h6, h⟩ := h
  obtain ⟨h7, h⟩ := h
  obtain ⟨h8, h⟩ := h
  refine wm_iload d_MS_leadsIn_20 rfl ?_
  refine wm_aload_n d_MS_leadsIn_22 rfl rfl ?_
  refine gf_MS_26 rfl d_MS_leadsIn_23 h6 ?_
  refine wm_iload_n d_MS_leadsIn_26 rfl rfl ?_
  refine wm_iconst d_MS_leadsIn_27 ?_
  refine wm_iadd d_MS_leadsIn_28 ?_
  refine wm_iald d_MS_leadsIn_29 h7 h8 ?_
  refine wm_icmp_ge (tgt := 66) d_MS_leadsIn_30 rfl hi_l5 (hO _ _).1 (fun c17 => ?_) (fun c17 => ?_)
  · replace h := h.1 c17
    obtain ⟨h18, h⟩ := h
    refine wm_iload d_MS_leadsIn_66 rfl ?_
    refine wm_ireturn d_MS_leadsIn_68 rfl (m_nb h18) ?_
    exact ⟨_, rfl, h⟩
  · replace h := h.2 c17
    refine wm_iload d_MS_leadsIn_33 rfl ?_
    obtain ⟨s26, h⟩ := h
    have hJ : ∀ v25 : Int, v25 = (if ((l4 = 0) ∧ (mI M (mR M a0 19) (Int.toNat (mI M (mR M a0 8) (Int.toNat l5))) = 0)) then 0 else 1) → mWm G y_MS_leadsIn d 58 [vr a0, vd, vd, vi l3, vd, vi l5] [vi v25] M (fun r9 M9 => ∃ x9, r9 = some (vi x9) ∧ Q x9 M9) := by
      intro v25 e27
      have h := h v25 e27
      have h28 : i32 v25 := by rw [e27]; (repeat' split) <;> first | exact ⟨by decide, by decide⟩ | exact ⟨by decide, by decide⟩
      have h29 : (v25 = 0 ∨ v25 = 1) := by rw [e27]; (repeat' split) <;> decide
      refine wm_istore d_MS_leadsIn_58 (by decide) (L' := [vr a0, vd, vd, vi l3, vi v25, vi l5]) rfl ?_
      refine wm_iinc d_MS_leadsIn_60 (by decide) rfl (L' := [vr a0, vd, vd, vi l3, vi v25, vi (l5 + 1)]) rfl ?_
      refine wm_goto (tgt := 20) d_MS_leadsIn_63 rfl ?_
      exact h
    clear h
    have s30 := s26
    refine wm_if_ne (tgt := 53) d_MS_leadsIn_35 rfl hi_l4 (fun c19 => ?_) (fun c19 => ?_)
    · refine wm_iconst d_MS_leadsIn_53 ?_
      refine wm_goto (tgt := 58) d_MS_leadsIn_54 rfl ?_
      refine wm_less (L' := [vr a0, vd, vd, vi l3, vd, vi l5]) ⟨Or.inr rfl, Or.inl rfl, Or.inl rfl, Or.inr rfl, Or.inl rfl, Or.inr rfl, trivial⟩ ?_
      exact hJ 1 (if_neg (fun z33 => c19 z33.1)).symm
    · replace c19 := Classical.not_not.mp c19
      have s30 := s30 c19
      obtain ⟨h20, h21, h22, h23⟩ := s30
      refine wm_aload_n d_MS_leadsIn_38 rfl rfl ?_
      refine gf_MS_63 rfl d_MS_leadsIn_39 h6 ?_
      refine wm_aload_n d_MS_leadsIn_42 rfl rfl ?_
      refine gf_MS_29 rfl d_MS_leadsIn_43 h6 ?_
      refine wm_iload d_MS_leadsIn_46 rfl ?_
      refine wm_iald d_MS_leadsIn_48 h20 h21 ?_
      refine wm_zald d_MS_leadsIn_49 h22 h23 ?_
      refine wm_if_eq (tgt := 57) d_MS_leadsIn_50 rfl (hO _ _).1 (fun c24 => ?_) (fun c24 => ?_)
      · refine wm_iconst d_MS_leadsIn_57 ?_
        refine wm_less (L' := [vr a0, vd, vd, vi l3, vd, vi l5]) ⟨Or.inr rfl, Or.inl rfl, Or.inl rfl, Or.inr rfl, Or.inl rfl, Or.inr rfl, trivial⟩ ?_
        exact hJ 0 (if_pos ⟨c19, c24⟩).symm
      · refine wm_iconst d_MS_leadsIn_53 ?_
        refine wm_goto (tgt := 58) d_MS_leadsIn_54 rfl ?_
        refine wm_less (L' := [vr a0, vd, vd, vi l3, vd, vi l5]) ⟨Or.inr rfl, Or.inl rfl, Or.inl rfl, Or.inr rfl, Or.inl rfl, Or.inr rfl, trivial⟩ ?_
        exact hJ 1 (if_neg (fun z31 => c24 z31.2)).symm
