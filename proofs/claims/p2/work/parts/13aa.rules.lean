section
theorem d_CA_init_0 : decode y_CA_init.2.1 0 = .ok (.aload_n 0, 1) := dc9_42 (by decide +kernel)
theorem d_CA_init_1 : decode y_CA_init.2.1 1 = .ok (.invokespecial 1, 3) := dc9_183 (by decide +kernel)
theorem d_CA_init_4 : decode y_CA_init.2.1 4 = .ok (.aload_n 0, 1) := dc9_42 (by decide +kernel)
theorem d_CA_init_5 : decode y_CA_init.2.1 5 = .ok (.sipush 256, 3) := dc9_17 (by decide +kernel)
theorem d_CA_init_8 : decode y_CA_init.2.1 8 = .ok (.newarray .char, 2) := by decide +kernel
theorem d_CA_init_10 : decode y_CA_init.2.1 10 = .ok (.putfield 7, 3) := dc9_181 (by decide +kernel)
theorem d_CA_init_13 : decode y_CA_init.2.1 13 = .ok (.aload_n 0, 1) := dc9_42 (by decide +kernel)
theorem d_CA_init_14 : decode y_CA_init.2.1 14 = .ok (.iconst 0, 1) := dc9_3 (by decide +kernel)
theorem d_CA_init_15 : decode y_CA_init.2.1 15 = .ok (.putfield 13, 3) := dc9_181 (by decide +kernel)
theorem d_CA_init_18 : decode y_CA_init.2.1 18 = .ok (.aload_n 0, 1) := dc9_42 (by decide +kernel)
theorem d_CA_init_19 : decode y_CA_init.2.1 19 = .ok (.new 17, 3) := dc9_187 (by decide +kernel)
theorem d_CA_init_22 : decode y_CA_init.2.1 22 = .ok (.dup, 1) := dc9_89 (by decide +kernel)
theorem d_CA_init_23 : decode y_CA_init.2.1 23 = .ok (.invokespecial 19, 3) := dc9_183 (by decide +kernel)
theorem d_CA_init_26 : decode y_CA_init.2.1 26 = .ok (.putfield 20, 3) := dc9_181 (by decide +kernel)
theorem d_CA_init_29 : decode y_CA_init.2.1 29 = .ok (.aload_n 0, 1) := dc9_42 (by decide +kernel)
theorem d_CA_init_30 : decode y_CA_init.2.1 30 = .ok (.new 24, 3) := dc9_187 (by decide +kernel)
theorem d_CA_init_33 : decode y_CA_init.2.1 33 = .ok (.dup, 1) := dc9_89 (by decide +kernel)
theorem d_CA_init_34 : decode y_CA_init.2.1 34 = .ok (.invokespecial 26, 3) := dc9_183 (by decide +kernel)
theorem d_CA_init_37 : decode y_CA_init.2.1 37 = .ok (.putfield 27, 3) := dc9_181 (by decide +kernel)
theorem d_CA_init_40 : decode y_CA_init.2.1 40 = .ok (.aload_n 0, 1) := dc9_42 (by decide +kernel)
theorem d_CA_init_41 : decode y_CA_init.2.1 41 = .ok (.new 31, 3) := dc9_187 (by decide +kernel)
theorem d_CA_init_44 : decode y_CA_init.2.1 44 = .ok (.dup, 1) := dc9_89 (by decide +kernel)
theorem d_CA_init_45 : decode y_CA_init.2.1 45 = .ok (.invokespecial 33, 3) := dc9_183 (by decide +kernel)
theorem d_CA_init_48 : decode y_CA_init.2.1 48 = .ok (.putfield 34, 3) := dc9_181 (by decide +kernel)
theorem d_CA_init_51 : decode y_CA_init.2.1 51 = .ok (.aload_n 0, 1) := dc9_42 (by decide +kernel)
theorem d_CA_init_52 : decode y_CA_init.2.1 52 = .ok (.new 31, 3) := dc9_187 (by decide +kernel)
theorem d_CA_init_55 : decode y_CA_init.2.1 55 = .ok (.dup, 1) := dc9_89 (by decide +kernel)
theorem d_CA_init_56 : decode y_CA_init.2.1 56 = .ok (.invokespecial 33, 3) := dc9_183 (by decide +kernel)
theorem d_CA_init_59 : decode y_CA_init.2.1 59 = .ok (.putfield 38, 3) := dc9_181 (by decide +kernel)
theorem d_CA_init_62 : decode y_CA_init.2.1 62 = .ok (.aload_n 0, 1) := dc9_42 (by decide +kernel)
theorem d_CA_init_63 : decode y_CA_init.2.1 63 = .ok (.iconst 0, 1) := dc9_3 (by decide +kernel)
theorem d_CA_init_64 : decode y_CA_init.2.1 64 = .ok (.putfield 41, 3) := dc9_181 (by decide +kernel)
theorem d_CA_init_67 : decode y_CA_init.2.1 67 = .ok (.aload_n 0, 1) := dc9_42 (by decide +kernel)
theorem d_CA_init_68 : decode y_CA_init.2.1 68 = .ok (.iconst (-1), 1) := dc9_2 (by decide +kernel)
theorem d_CA_init_69 : decode y_CA_init.2.1 69 = .ok (.putfield 45, 3) := dc9_181 (by decide +kernel)
theorem d_CA_init_72 : decode y_CA_init.2.1 72 = .ok (.aload_n 0, 1) := dc9_42 (by decide +kernel)
theorem d_CA_init_73 : decode y_CA_init.2.1 73 = .ok (.iconst (-1), 1) := dc9_2 (by decide +kernel)
theorem d_CA_init_74 : decode y_CA_init.2.1 74 = .ok (.putfield 48, 3) := dc9_181 (by decide +kernel)
theorem d_CA_init_77 : decode y_CA_init.2.1 77 = .ok (.aload_n 0, 1) := dc9_42 (by decide +kernel)
theorem d_CA_init_78 : decode y_CA_init.2.1 78 = .ok (.new 51, 3) := dc9_187 (by decide +kernel)
theorem d_CA_init_81 : decode y_CA_init.2.1 81 = .ok (.dup, 1) := dc9_89 (by decide +kernel)
theorem d_CA_init_82 : decode y_CA_init.2.1 82 = .ok (.invokespecial 53, 3) := dc9_183 (by decide +kernel)
theorem d_CA_init_85 : decode y_CA_init.2.1 85 = .ok (.putfield 54, 3) := dc9_181 (by decide +kernel)
theorem d_CA_init_88 : decode y_CA_init.2.1 88 = .ok (.aload_n 0, 1) := dc9_42 (by decide +kernel)
theorem d_CA_init_89 : decode y_CA_init.2.1 89 = .ok (.new 58, 3) := dc9_187 (by decide +kernel)
theorem d_CA_init_92 : decode y_CA_init.2.1 92 = .ok (.dup, 1) := dc9_89 (by decide +kernel)
theorem d_CA_init_93 : decode y_CA_init.2.1 93 = .ok (.aload_n 0, 1) := dc9_42 (by decide +kernel)
theorem d_CA_init_94 : decode y_CA_init.2.1 94 = .ok (.getfield 54, 3) := dc9_180 (by decide +kernel)
theorem d_CA_init_97 : decode y_CA_init.2.1 97 = .ok (.invokespecial 60, 3) := dc9_183 (by decide +kernel)
theorem d_CA_init_100 : decode y_CA_init.2.1 100 = .ok (.putfield 63, 3) := dc9_181 (by decide +kernel)
theorem d_CA_init_103 : decode y_CA_init.2.1 103 = .ok (.aload_n 0, 1) := dc9_42 (by decide +kernel)
theorem d_CA_init_104 : decode y_CA_init.2.1 104 = .ok (.new 67, 3) := dc9_187 (by decide +kernel)
theorem d_CA_init_107 : decode y_CA_init.2.1 107 = .ok (.dup, 1) := dc9_89 (by decide +kernel)
theorem d_CA_init_108 : decode y_CA_init.2.1 108 = .ok (.invokespecial 69, 3) := dc9_183 (by decide +kernel)
theorem d_CA_init_111 : decode y_CA_init.2.1 111 = .ok (.putfield 70, 3) := dc9_181 (by decide +kernel)
theorem d_CA_init_114 : decode y_CA_init.2.1 114 = .ok (.aload_n 0, 1) := dc9_42 (by decide +kernel)
theorem d_CA_init_115 : decode y_CA_init.2.1 115 = .ok (.new 67, 3) := dc9_187 (by decide +kernel)
theorem d_CA_init_118 : decode y_CA_init.2.1 118 = .ok (.dup, 1) := dc9_89 (by decide +kernel)
theorem d_CA_init_119 : decode y_CA_init.2.1 119 = .ok (.invokespecial 69, 3) := dc9_183 (by decide +kernel)
theorem d_CA_init_122 : decode y_CA_init.2.1 122 = .ok (.putfield 74, 3) := dc9_181 (by decide +kernel)
theorem d_CA_init_125 : decode y_CA_init.2.1 125 = .ok (.aload_n 0, 1) := dc9_42 (by decide +kernel)
theorem d_CA_init_126 : decode y_CA_init.2.1 126 = .ok (.new 67, 3) := dc9_187 (by decide +kernel)
theorem d_CA_init_129 : decode y_CA_init.2.1 129 = .ok (.dup, 1) := dc9_89 (by decide +kernel)
theorem d_CA_init_130 : decode y_CA_init.2.1 130 = .ok (.invokespecial 69, 3) := dc9_183 (by decide +kernel)
theorem d_CA_init_133 : decode y_CA_init.2.1 133 = .ok (.putfield 77, 3) := dc9_181 (by decide +kernel)
theorem d_CA_init_136 : decode y_CA_init.2.1 136 = .ok (.aload_n 0, 1) := dc9_42 (by decide +kernel)
theorem d_CA_init_137 : decode y_CA_init.2.1 137 = .ok (.new 67, 3) := dc9_187 (by decide +kernel)
theorem d_CA_init_140 : decode y_CA_init.2.1 140 = .ok (.dup, 1) := dc9_89 (by decide +kernel)
theorem d_CA_init_141 : decode y_CA_init.2.1 141 = .ok (.invokespecial 69, 3) := dc9_183 (by decide +kernel)
theorem d_CA_init_144 : decode y_CA_init.2.1 144 = .ok (.putfield 80, 3) := dc9_181 (by decide +kernel)
theorem d_CA_init_147 : decode y_CA_init.2.1 147 = .ok (.aload_n 0, 1) := dc9_42 (by decide +kernel)
theorem d_CA_init_148 : decode y_CA_init.2.1 148 = .ok (.new 83, 3) := dc9_187 (by decide +kernel)
theorem d_CA_init_151 : decode y_CA_init.2.1 151 = .ok (.dup, 1) := dc9_89 (by decide +kernel)
theorem d_CA_init_152 : decode y_CA_init.2.1 152 = .ok (.invokespecial 85, 3) := dc9_183 (by decide +kernel)
theorem d_CA_init_155 : decode y_CA_init.2.1 155 = .ok (.putfield 86, 3) := dc9_181 (by decide +kernel)
theorem d_CA_init_158 : decode y_CA_init.2.1 158 = .ok (.aload_n 0, 1) := dc9_42 (by decide +kernel)
theorem d_CA_init_159 : decode y_CA_init.2.1 159 = .ok (.new 90, 3) := dc9_187 (by decide +kernel)
theorem d_CA_init_162 : decode y_CA_init.2.1 162 = .ok (.dup, 1) := dc9_89 (by decide +kernel)
theorem d_CA_init_163 : decode y_CA_init.2.1 163 = .ok (.invokespecial 92, 3) := dc9_183 (by decide +kernel)
theorem d_CA_init_166 : decode y_CA_init.2.1 166 = .ok (.putfield 93, 3) := dc9_181 (by decide +kernel)
theorem d_CA_init_169 : decode y_CA_init.2.1 169 = .ok (.aload_n 0, 1) := dc9_42 (by decide +kernel)
theorem d_CA_init_170 : decode y_CA_init.2.1 170 = .ok (.sipush 400, 3) := dc9_17 (by decide +kernel)
theorem d_CA_init_173 : decode y_CA_init.2.1 173 = .ok (.newarray .char, 2) := by decide +kernel
theorem d_CA_init_175 : decode y_CA_init.2.1 175 = .ok (.putfield 97, 3) := dc9_181 (by decide +kernel)
theorem d_CA_init_178 : decode y_CA_init.2.1 178 = .ok (.aload_n 0, 1) := dc9_42 (by decide +kernel)
theorem d_CA_init_179 : decode y_CA_init.2.1 179 = .ok (.iconst 0, 1) := dc9_3 (by decide +kernel)
theorem d_CA_init_180 : decode y_CA_init.2.1 180 = .ok (.putfield 100, 3) := dc9_181 (by decide +kernel)
theorem d_CA_init_183 : decode y_CA_init.2.1 183 = .ok (.return_, 1) := dc9_177 (by decide +kernel)
theorem k_CA_init {G : mG} {d : Nat} {a0 : Nat} {M : mM} {Q : mM → Prop} (hO : mOk M)
    (h : 0 < a0 ∧ ∀ M2, M2 = mNew M 32 256 256 → mK M2 a0 = 1 ∧ ∀ M5, M5 = mUR M2 a0 0 (mZ M) → ∀ M7, M7 = mUI M5 a0 1 0 → ∀ M9, M9 = mNew M7 2 0 6 → Cv G y_Wo_init d [vr (mZ M7)] M9 (fun M11 => mOk M11 ∧ (mK M11 a0 = 1 ∧ ∀ M15, M15 = mUR M11 a0 2 (mZ M7) → ∀ M17, M17 = mNew M15 3 0 9 → Cv G y_TR_init d [vr (mZ M15)] M17 (fun M19 => mOk M19 ∧ (mK M19 a0 = 1 ∧ ∀ M23, M23 = mUR M19 a0 3 (mZ M15) → ∀ M25, M25 = mNew M23 6 0 20 → Cv G y_Pr_init d [vr (mZ M23)] M25 (fun M27 => mOk M27 ∧ (mK M27 a0 = 1 ∧ ∀ M31, M31 = mUR M27 a0 4 (mZ M23) → ∀ M33, M33 = mNew M31 6 0 20 → Cv G y_Pr_init d [vr (mZ M31)] M33 (fun M35 => mOk M35 ∧ (mK M35 a0 = 1 ∧ ∀ M39, M39 = mUR M35 a0 5 (mZ M31) → ∀ M41, M41 = mUI M39 a0 6 0 → ∀ M43, M43 = mUI M41 a0 7 (-1) → ∀ M45, M45 = mUI M43 a0 8 (-1) → ∀ M47, M47 = mNew M45 7 0 19 → Cv G y_Ga_init d [vr (mZ M45)] M47 (fun M49 => mOk M49 ∧ (mK M49 a0 = 1 ∧ ∀ M53, M53 = mUR M49 a0 9 (mZ M45) → ∀ M55, M55 = mNew M53 8 0 18 → mK M55 a0 = 1 ∧ Cv G y_So_init d [vr (mZ M53), vr (mR M55 a0 9)] M55 (fun M58 => mOk M58 ∧ (mK M58 a0 = 1 ∧ ∀ M62, M62 = mUR M58 a0 10 (mZ M53) → ∀ M64, M64 = mNew M62 13 0 2 → Cv G y_Fs_init d [vr (mZ M62)] M64 (fun M66 => mOk M66 ∧ (mK M66 a0 = 1 ∧ ∀ M70, M70 = mUR M66 a0 11 (mZ M62) → ∀ M72, M72 = mNew M70 13 0 2 → Cv G y_Fs_init d [vr (mZ M70)] M72 (fun M74 => mOk M74 ∧ (mK M74 a0 = 1 ∧ ∀ M78, M78 = mUR M74 a0 12 (mZ M70) → ∀ M80, M80 = mNew M78 13 0 2 → Cv G y_Fs_init d [vr (mZ M78)] M80 (fun M82 => mOk M82 ∧ (mK M82 a0 = 1 ∧ ∀ M86, M86 = mUR M82 a0 13 (mZ M78) → ∀ M88, M88 = mNew M86 13 0 2 → Cv G y_Fs_init d [vr (mZ M86)] M88 (fun M90 => mOk M90 ∧ (mK M90 a0 = 1 ∧ ∀ M94, M94 = mUR M90 a0 14 (mZ M86) → ∀ M96, M96 = mNew M94 10 0 2 → Cv G y_Na_init d [vr (mZ M94)] M96 (fun M98 => mOk M98 ∧ (mK M98 a0 = 1 ∧ ∀ M102, M102 = mUR M98 a0 15 (mZ M94) → ∀ M104, M104 = mNew M102 11 0 3 → Cv G y_Fr_init d [vr (mZ M102)] M104 (fun M106 => mOk M106 ∧ (mK M106 a0 = 1 ∧ ∀ M110, M110 = mUR M106 a0 16 (mZ M102) → ∀ M112, M112 = mNew M110 32 400 400 → mK M112 a0 = 1 ∧ ∀ M115, M115 = mUR M112 a0 17 (mZ M110) → ∀ M117, M117 = mUI M115 a0 18 0 → Q M117))))))))))))))))))))))))) :
    Cv G y_CA_init (d + 1) [vr a0] M Q := by
  refine wm_open (y := y_CA_init) rfl (Nat.le_of_ble_eq_true rfl) (L := [vr a0]) rfl ?_
  obtain ⟨h1, h⟩ := h
  obtain ⟨M2, e3⟩ : ∃ M2, M2 = mNew M 32 256 256 := ⟨_, rfl⟩
  replace h := h M2 e3
  obtain ⟨h4, h⟩ := h
  obtain ⟨M5, e6⟩ : ∃ M5, M5 = mUR M2 a0 0 (mZ M) := ⟨_, rfl⟩
  replace h := h M5 e6
  obtain ⟨M7, e8⟩ : ∃ M7, M7 = mUI M5 a0 1 0 := ⟨_, rfl⟩
  replace h := h M7 e8
  obtain ⟨M9, e10⟩ : ∃ M9, M9 = mNew M7 2 0 6 := ⟨_, rfl⟩
  replace h := h M9 e10
  refine wm_aload_n d_CA_init_0 rfl rfl ?_
  refine wm_objInit trivial k1_45 kO_inst kO_code (Nat.le_of_ble_eq_true rfl) d_CA_init_1 h1 ?_
  refine wm_aload_n d_CA_init_4 rfl rfl ?_
  refine wm_sipush d_CA_init_5 (by decide) ?_
  have hOM2 : mOk M2 := by rw [e3]; exact mOk_New hO
  refine wm_newarrE 2 (atype := .char) (ty := .char) rfl rfl (fun _ => rfl) rfl rfl (by decide) k1_81 ⟨by decide, by decide⟩ d_CA_init_8 e3 ?_
  have hOM5 : mOk M5 := by rw [e6]; exact mOk_UR hOM2
  refine pf_CA_7 rfl d_CA_init_10 h4 e6 ?_
  refine wm_aload_n d_CA_init_13 rfl rfl ?_
  refine wm_iconst d_CA_init_14 ?_
  have hOM7 : mOk M7 := by rw [e8]; exact mOk_UI hOM5 ⟨by decide, by decide⟩
  refine pf_CA_13 rfl d_CA_init_15 (by rw [e6]; exact h4) ⟨by decide, by decide⟩ e8 ?_
  refine wm_aload_n d_CA_init_18 rfl rfl ?_
  have hOM9 : mOk M9 := by rw [e10]; exact mOk_New hOM7
  refine nf_CA_17 rfl d_CA_init_19 e10 ?_
  refine wm_dup d_CA_init_22 rfl ?_
  refine cf_CA_19 rfl d_CA_init_23 (by rw [e10]; exact if_pos rfl) (Nat.le_of_ble_eq_true rfl) (Cv.mono h (fun M11 h => ?_))
  obtain ⟨hOM11, h⟩ := h
  obtain ⟨h14, h⟩ := h
  obtain ⟨M15, e16⟩ : ∃ M15, M15 = mUR M11 a0 2 (mZ M7) := ⟨_, rfl⟩
  replace h := h M15 e16
  obtain ⟨M17, e18⟩ : ∃ M17, M17 = mNew M15 3 0 9 := ⟨_, rfl⟩
  replace h := h M17 e18
  have hOM15 : mOk M15 := by rw [e16]; exact mOk_UR hOM11
  refine pf_CA_20 rfl rfl d_CA_init_26 h14 e16 ?_
  refine wm_aload_n d_CA_init_29 rfl rfl ?_
  have hOM17 : mOk M17 := by rw [e18]; exact mOk_New hOM15
  refine nf_CA_24 rfl d_CA_init_30 e18 ?_
  refine wm_dup d_CA_init_33 rfl ?_
  refine cf_CA_26 rfl d_CA_init_34 (by rw [e18]; exact if_pos rfl) (Nat.le_of_ble_eq_true rfl) (Cv.mono h (fun M19 h => ?_))
  obtain ⟨hOM19, h⟩ := h
  obtain ⟨h22, h⟩ := h
  obtain ⟨M23, e24⟩ : ∃ M23, M23 = mUR M19 a0 3 (mZ M15) := ⟨_, rfl⟩
  replace h := h M23 e24
  obtain ⟨M25, e26⟩ : ∃ M25, M25 = mNew M23 6 0 20 := ⟨_, rfl⟩
  replace h := h M25 e26
  have hOM23 : mOk M23 := by rw [e24]; exact mOk_UR hOM19
  refine pf_CA_27 rfl rfl d_CA_init_37 h22 e24 ?_
  refine wm_aload_n d_CA_init_40 rfl rfl ?_
  have hOM25 : mOk M25 := by rw [e26]; exact mOk_New hOM23
  refine nf_CA_31 rfl d_CA_init_41 e26 ?_
  refine wm_dup d_CA_init_44 rfl ?_
  refine cf_CA_33 rfl d_CA_init_45 (by rw [e26]; exact if_pos rfl) (Nat.le_of_ble_eq_true rfl) (Cv.mono h (fun M27 h => ?_))
  obtain ⟨hOM27, h⟩ := h
  obtain ⟨h30, h⟩ := h
  obtain ⟨M31, e32⟩ : ∃ M31, M31 = mUR M27 a0 4 (mZ M23) := ⟨_, rfl⟩
  replace h := h M31 e32
  obtain ⟨M33, e34⟩ : ∃ M33, M33 = mNew M31 6 0 20 := ⟨_, rfl⟩
  replace h := h M33 e34
  have hOM31 : mOk M31 := by rw [e32]; exact mOk_UR hOM27
  refine pf_CA_34 rfl d_CA_init_48 h30 e32 ?_
  refine wm_aload_n d_CA_init_51 rfl rfl ?_
  have hOM33 : mOk M33 := by rw [e34]; exact mOk_New hOM31
  refine nf_CA_31 rfl d_CA_init_52 e34 ?_
  refine wm_dup d_CA_init_55 rfl ?_
  refine cf_CA_33 rfl d_CA_init_56 (by rw [e34]; exact if_pos rfl) (Nat.le_of_ble_eq_true rfl) (Cv.mono h (fun M35 h => ?_))
  obtain ⟨hOM35, h⟩ := h
  obtain ⟨h38, h⟩ := h
  obtain ⟨M39, e40⟩ : ∃ M39, M39 = mUR M35 a0 5 (mZ M31) := ⟨_, rfl⟩
  replace h := h M39 e40
  obtain ⟨M41, e42⟩ : ∃ M41, M41 = mUI M39 a0 6 0 := ⟨_, rfl⟩
  replace h := h M41 e42
  obtain ⟨M43, e44⟩ : ∃ M43, M43 = mUI M41 a0 7 (-1) := ⟨_, rfl⟩
  replace h := h M43 e44
  obtain ⟨M45, e46⟩ : ∃ M45, M45 = mUI M43 a0 8 (-1) := ⟨_, rfl⟩
  replace h := h M45 e46
  obtain ⟨M47, e48⟩ : ∃ M47, M47 = mNew M45 7 0 19 := ⟨_, rfl⟩
  replace h := h M47 e48
  have hOM39 : mOk M39 := by rw [e40]; exact mOk_UR hOM35
  refine pf_CA_38 rfl d_CA_init_59 h38 e40 ?_
  refine wm_aload_n d_CA_init_62 rfl rfl ?_
  refine wm_iconst d_CA_init_63 ?_
  have hOM41 : mOk M41 := by rw [e42]; exact mOk_UI hOM39 (m_b32 (by decide))
  refine pf_CA_41 rfl d_CA_init_64 (by rw [e40]; exact h38) (by decide) e42 ?_
  refine wm_aload_n d_CA_init_67 rfl rfl ?_
  refine wm_iconst d_CA_init_68 ?_
  have hOM43 : mOk M43 := by rw [e44]; exact mOk_UI hOM41 ⟨by decide, by decide⟩
  refine pf_CA_45 rfl d_CA_init_69 (by rw [e42, e40]; exact h38) ⟨by decide, by decide⟩ e44 ?_
  refine wm_aload_n d_CA_init_72 rfl rfl ?_
  refine wm_iconst d_CA_init_73 ?_
  have hOM45 : mOk M45 := by rw [e46]; exact mOk_UI hOM43 ⟨by decide, by decide⟩
  refine pf_CA_48 rfl d_CA_init_74 (by rw [e44, e42, e40]; exact h38) ⟨by decide, by decide⟩ e46 ?_
  refine wm_aload_n d_CA_init_77 rfl rfl ?_
  have hOM47 : mOk M47 := by rw [e48]; exact mOk_New hOM45
  refine nf_CA_51 rfl d_CA_init_78 e48 ?_
  refine wm_dup d_CA_init_81 rfl ?_
  refine cf_CA_53 rfl d_CA_init_82 (by rw [e48]; exact if_pos rfl) (Nat.le_of_ble_eq_true rfl) (Cv.mono h (fun M49 h => ?_))
  obtain ⟨hOM49, h⟩ := h
  obtain ⟨h52, h⟩ := h
  obtain ⟨M53, e54⟩ : ∃ M53, M53 = mUR M49 a0 9 (mZ M45) := ⟨_, rfl⟩
  replace h := h M53 e54
  obtain ⟨M55, e56⟩ : ∃ M55, M55 = mNew M53 8 0 18 := ⟨_, rfl⟩
  replace h := h M55 e56
  obtain ⟨h57, h⟩ := h
  have hOM53 : mOk M53 := by rw [e54]; exact mOk_UR hOM49
  refine pf_CA_54 rfl rfl d_CA_init_85 h52 e54 ?_
  refine wm_aload_n d_CA_init_88 rfl rfl ?_
  have hOM55 : mOk M55 := by rw [e56]; exact mOk_New hOM53
  refine nf_CA_58 rfl d_CA_init_89 e56 ?_
  refine wm_dup d_CA_init_92 rfl ?_
  refine wm_aload_n d_CA_init_93 rfl rfl ?_
  refine gf_CA_54 rfl d_CA_init_94 h57 ?_
  refine cf_CA_60 rfl d_CA_init_97 (by rw [e56]; exact if_pos rfl) (Nat.le_of_ble_eq_true rfl) (Cv.mono h (fun M58 h => ?_))
  obtain ⟨hOM58, h⟩ := h
  obtain ⟨h61, h⟩ := h
  obtain ⟨M62, e63⟩ : ∃ M62, M62 = mUR M58 a0 10 (mZ M53) := ⟨_, rfl⟩
  replace h := h M62 e63
  obtain ⟨M64, e65⟩ : ∃ M64, M64 = mNew M62 13 0 2 := ⟨_, rfl⟩
  replace h := h M64 e65
  have hOM62 : mOk M62 := by rw [e63]; exact mOk_UR hOM58
  refine pf_CA_63 rfl rfl d_CA_init_100 h61 e63 ?_
  refine wm_aload_n d_CA_init_103 rfl rfl ?_
  have hOM64 : mOk M64 := by rw [e65]; exact mOk_New hOM62
  refine nf_CA_67 rfl d_CA_init_104 e65 ?_
  refine wm_dup d_CA_init_107 rfl ?_
  refine cf_CA_69 rfl d_CA_init_108 (by rw [e65]; exact if_pos rfl) (Nat.le_of_ble_eq_true rfl) (Cv.mono h (fun M66 h => ?_))
  obtain ⟨hOM66, h⟩ := h
  obtain ⟨h69, h⟩ := h
  obtain ⟨M70, e71⟩ : ∃ M70, M70 = mUR M66 a0 11 (mZ M62) := ⟨_, rfl⟩
  replace h := h M70 e71
  obtain ⟨M72, e73⟩ : ∃ M72, M72 = mNew M70 13 0 2 := ⟨_, rfl⟩
  replace h := h M72 e73
  have hOM70 : mOk M70 := by rw [e71]; exact mOk_UR hOM66
  refine pf_CA_70 rfl rfl d_CA_init_111 h69 e71 ?_
  refine wm_aload_n d_CA_init_114 rfl rfl ?_
  have hOM72 : mOk M72 := by rw [e73]; exact mOk_New hOM70
  refine nf_CA_67 rfl d_CA_init_115 e73 ?_
  refine wm_dup d_CA_init_118 rfl ?_
  refine cf_CA_69 rfl d_CA_init_119 (by rw [e73]; exact if_pos rfl) (Nat.le_of_ble_eq_true rfl) (Cv.mono h (fun M74 h => ?_))
  obtain ⟨hOM74, h⟩ := h
  obtain ⟨h77, h⟩ := h
  obtain ⟨M78, e79⟩ : ∃ M78, M78 = mUR M74 a0 12 (mZ M70) := ⟨_, rfl⟩
  replace h := h M78 e79
  obtain ⟨M80, e81⟩ : ∃ M80, M80 = mNew M78 13 0 2 := ⟨_, rfl⟩
  replace h := h M80 e81
  have hOM78 : mOk M78 := by rw [e79]; exact mOk_UR hOM74
  refine pf_CA_74 rfl d_CA_init_122 h77 e79 ?_
  refine wm_aload_n d_CA_init_125 rfl rfl ?_
  have hOM80 : mOk M80 := by rw [e81]; exact mOk_New hOM78
  refine nf_CA_67 rfl d_CA_init_126 e81 ?_
  refine wm_dup d_CA_init_129 rfl ?_
  refine cf_CA_69 rfl d_CA_init_130 (by rw [e81]; exact if_pos rfl) (Nat.le_of_ble_eq_true rfl) (Cv.mono h (fun M82 h => ?_))
  obtain ⟨hOM82, h⟩ := h
  obtain ⟨h85, h⟩ := h
  obtain ⟨M86, e87⟩ : ∃ M86, M86 = mUR M82 a0 13 (mZ M78) := ⟨_, rfl⟩
  replace h := h M86 e87
  obtain ⟨M88, e89⟩ : ∃ M88, M88 = mNew M86 13 0 2 := ⟨_, rfl⟩
  replace h := h M88 e89
  have hOM86 : mOk M86 := by rw [e87]; exact mOk_UR hOM82
  refine pf_CA_77 rfl d_CA_init_133 h85 e87 ?_
  refine wm_aload_n d_CA_init_136 rfl rfl ?_
  have hOM88 : mOk M88 := by rw [e89]; exact mOk_New hOM86
  refine nf_CA_67 rfl d_CA_init_137 e89 ?_
  refine wm_dup d_CA_init_140 rfl ?_
  refine cf_CA_69 rfl d_CA_init_141 (by rw [e89]; exact if_pos rfl) (Nat.le_of_ble_eq_true rfl) (Cv.mono h (fun M90 h => ?_))
  obtain ⟨hOM90, h⟩ := h
  obtain ⟨h93, h⟩ := h
  obtain ⟨M94, e95⟩ : ∃ M94, M94 = mUR M90 a0 14 (mZ M86) := ⟨_, rfl⟩
  replace h := h M94 e95
  obtain ⟨M96, e97⟩ : ∃ M96, M96 = mNew M94 10 0 2 := ⟨_, rfl⟩
  replace h := h M96 e97
  have hOM94 : mOk M94 := by rw [e95]; exact mOk_UR hOM90
  refine pf_CA_80 rfl rfl d_CA_init_144 h93 e95 ?_
  refine wm_aload_n d_CA_init_147 rfl rfl ?_
  have hOM96 : mOk M96 := by rw [e97]; exact mOk_New hOM94
  refine nf_CA_83 rfl d_CA_init_148 e97 ?_
  refine wm_dup d_CA_init_151 rfl ?_
  refine cf_CA_85 rfl d_CA_init_152 (by rw [e97]; exact if_pos rfl) (Nat.le_of_ble_eq_true rfl) (Cv.mono h (fun M98 h => ?_))
  obtain ⟨hOM98, h⟩ := h
  obtain ⟨h101, h⟩ := h
  obtain ⟨M102, e103⟩ : ∃ M102, M102 = mUR M98 a0 15 (mZ M94) := ⟨_, rfl⟩
  replace h := h M102 e103
  obtain ⟨M104, e105⟩ : ∃ M104, M104 = mNew M102 11 0 3 := ⟨_, rfl⟩
  replace h := h M104 e105
  have hOM102 : mOk M102 := by rw [e103]; exact mOk_UR hOM98
  refine pf_CA_86 rfl rfl d_CA_init_155 h101 e103 ?_
  refine wm_aload_n d_CA_init_158 rfl rfl ?_
  have hOM104 : mOk M104 := by rw [e105]; exact mOk_New hOM102
  refine nf_CA_90 rfl d_CA_init_159 e105 ?_
  refine wm_dup d_CA_init_162 rfl ?_
  refine cf_CA_92 rfl d_CA_init_163 (by rw [e105]; exact if_pos rfl) (Nat.le_of_ble_eq_true rfl) (Cv.mono h (fun M106 h => ?_))
  obtain ⟨hOM106, h⟩ := h
  obtain ⟨h109, h⟩ := h
  obtain ⟨M110, e111⟩ : ∃ M110, M110 = mUR M106 a0 16 (mZ M102) := ⟨_, rfl⟩
  replace h := h M110 e111
  obtain ⟨M112, e113⟩ : ∃ M112, M112 = mNew M110 32 400 400 := ⟨_, rfl⟩
  replace h := h M112 e113
  obtain ⟨h114, h⟩ := h
  obtain ⟨M115, e116⟩ : ∃ M115, M115 = mUR M112 a0 17 (mZ M110) := ⟨_, rfl⟩
  replace h := h M115 e116
  obtain ⟨M117, e118⟩ : ∃ M117, M117 = mUI M115 a0 18 0 := ⟨_, rfl⟩
  replace h := h M117 e118
  have hOM110 : mOk M110 := by rw [e111]; exact mOk_UR hOM106
  refine pf_CA_93 rfl rfl d_CA_init_166 h109 e111 ?_
  refine wm_aload_n d_CA_init_169 rfl rfl ?_
  refine wm_sipush d_CA_init_170 (by decide) ?_
  have hOM112 : mOk M112 := by rw [e113]; exact mOk_New hOM110
  refine wm_newarrE 2 (atype := .char) (ty := .char) rfl rfl (fun _ => rfl) rfl rfl (by decide) k1_81 ⟨by decide, by decide⟩ d_CA_init_173 e113 ?_
  have hOM115 : mOk M115 := by rw [e116]; exact mOk_UR hOM112
  refine pf_CA_97 rfl rfl d_CA_init_175 h114 e116 ?_
  refine wm_aload_n d_CA_init_178 rfl rfl ?_
  refine wm_iconst d_CA_init_179 ?_
  have hOM117 : mOk M117 := by rw [e118]; exact mOk_UI hOM115 ⟨by decide, by decide⟩
  refine pf_CA_100 rfl d_CA_init_180 (by rw [e116]; exact h114) ⟨by decide, by decide⟩ e118 ?_
  refine wm_return d_CA_init_183 rfl ?_
  exact ⟨rfl, h⟩
theorem d_CA_feed_0 : decode y_CA_feed.2.1 0 = .ok (.aload_n 0, 1) := dc9_42 (by decide +kernel)
theorem d_CA_feed_1 : decode y_CA_feed.2.1 1 = .ok (.getfield 13, 3) := dc9_180 (by decide +kernel)
theorem d_CA_feed_4 : decode y_CA_feed.2.1 4 = .ok (.bipush 20, 2) := dc9_16 (by decide +kernel)
theorem d_CA_feed_6 : decode y_CA_feed.2.1 6 = .ok (.iadd, 1) := dc9_96 (by decide +kernel)
theorem d_CA_feed_7 : decode y_CA_feed.2.1 7 = .ok (.sipush 16384, 3) := dc9_17 (by decide +kernel)
theorem d_CA_feed_10 : decode y_CA_feed.2.1 10 = .ok (.if_icmp .le 5, 3) := dc9_164 (by decide +kernel)
theorem d_CA_feed_15 : decode y_CA_feed.2.1 15 = .ok (.aload_n 0, 1) := dc9_42 (by decide +kernel)
theorem d_CA_feed_16 : decode y_CA_feed.2.1 16 = .ok (.getfield 13, 3) := dc9_180 (by decide +kernel)
theorem d_CA_feed_19 : decode y_CA_feed.2.1 19 = .ok (.bipush 20, 2) := dc9_16 (by decide +kernel)
theorem d_CA_feed_21 : decode y_CA_feed.2.1 21 = .ok (.iadd, 1) := dc9_96 (by decide +kernel)
theorem d_CA_feed_22 : decode y_CA_feed.2.1 22 = .ok (.aload_n 0, 1) := dc9_42 (by decide +kernel)
theorem d_CA_feed_23 : decode y_CA_feed.2.1 23 = .ok (.getfield 7, 3) := dc9_180 (by decide +kernel)
theorem d_CA_feed_26 : decode y_CA_feed.2.1 26 = .ok (.arraylength, 1) := dc9_190 (by decide +kernel)
theorem d_CA_feed_13 : decode y_CA_feed.2.1 13 = .ok (.iconst (-1), 1) := dc9_2 (by decide +kernel)
theorem d_CA_feed_14 : decode y_CA_feed.2.1 14 = .ok (.ireturn, 1) := dc9_172 (by decide +kernel)
theorem d_CA_feed_27 : decode y_CA_feed.2.1 27 = .ok (.if_icmp .le 11, 3) := dc9_164 (by decide +kernel)
theorem d_CA_feed_30 : decode y_CA_feed.2.1 30 = .ok (.aload_n 0, 1) := dc9_42 (by decide +kernel)
theorem d_CA_feed_31 : decode y_CA_feed.2.1 31 = .ok (.aload_n 0, 1) := dc9_42 (by decide +kernel)
theorem d_CA_feed_38 : decode y_CA_feed.2.1 38 = .ok (.aload_n 0, 1) := dc9_42 (by decide +kernel)
theorem d_CA_feed_39 : decode y_CA_feed.2.1 39 = .ok (.iload_n 1, 1) := dc9_27 (by decide +kernel)
theorem d_CA_feed_40 : decode y_CA_feed.2.1 40 = .ok (.invokevirtual 107, 3) := dc9_182 (by decide +kernel)
theorem d_CA_feed_43 : decode y_CA_feed.2.1 43 = .ok (.aload_n 0, 1) := dc9_42 (by decide +kernel)
theorem d_CA_feed_44 : decode y_CA_feed.2.1 44 = .ok (.iload_n 2, 1) := dc9_28 (by decide +kernel)
theorem d_CA_feed_45 : decode y_CA_feed.2.1 45 = .ok (.invokevirtual 107, 3) := dc9_182 (by decide +kernel)
theorem d_CA_feed_48 : decode y_CA_feed.2.1 48 = .ok (.aload_n 0, 1) := dc9_42 (by decide +kernel)
theorem d_CA_feed_49 : decode y_CA_feed.2.1 49 = .ok (.iload_n 3, 1) := dc9_29 (by decide +kernel)
theorem d_CA_feed_50 : decode y_CA_feed.2.1 50 = .ok (.invokevirtual 107, 3) := dc9_182 (by decide +kernel)
theorem d_CA_feed_53 : decode y_CA_feed.2.1 53 = .ok (.aload_n 0, 1) := dc9_42 (by decide +kernel)
theorem d_CA_feed_54 : decode y_CA_feed.2.1 54 = .ok (.iload 4, 2) := dc9_21 (by decide +kernel)
theorem d_CA_feed_56 : decode y_CA_feed.2.1 56 = .ok (.invokevirtual 107, 3) := dc9_182 (by decide +kernel)
theorem d_CA_feed_59 : decode y_CA_feed.2.1 59 = .ok (.aload_n 0, 1) := dc9_42 (by decide +kernel)
theorem d_CA_feed_60 : decode y_CA_feed.2.1 60 = .ok (.iload 5, 2) := dc9_21 (by decide +kernel)
theorem d_CA_feed_62 : decode y_CA_feed.2.1 62 = .ok (.invokevirtual 107, 3) := dc9_182 (by decide +kernel)
theorem d_CA_feed_65 : decode y_CA_feed.2.1 65 = .ok (.aload_n 0, 1) := dc9_42 (by decide +kernel)
theorem d_CA_feed_66 : decode y_CA_feed.2.1 66 = .ok (.getfield 13, 3) := dc9_180 (by decide +kernel)
theorem d_CA_feed_69 : decode y_CA_feed.2.1 69 = .ok (.ireturn, 1) := dc9_172 (by decide +kernel)
theorem d_CA_feed_32 : decode y_CA_feed.2.1 32 = .ok (.invokevirtual 103, 3) := dc9_182 (by decide +kernel)
theorem d_CA_feed_35 : decode y_CA_feed.2.1 35 = .ok (.putfield 7, 3) := dc9_181 (by decide +kernel)
theorem k_CA_feed {G : mG} {d : Nat} {a0 : Nat} {l1 : Int} {l2 : Int} {l3 : Int} {l4 : Int} {l5 : Int} {M : mM} {Q : Int → mM → Prop} (hO : mOk M) (hi_l1 : i32 l1) (hi_l2 : i32 l2) (hi_l3 : i32 l3) (hi_l4 : i32 l4) (hi_l5 : i32 l5)
    (h : mK M a0 = 1 ∧ i32 ((mI M a0 1) + 20) ∧ (((mI M a0 1) + 20 ≤ 16384) → (mK M (mR M a0 0) = 32 ∧ i32 (mN M (mR M a0 0) : Int) ∧ (((mI M a0 1) + 20 ≤ (mN M (mR M a0 0) : Int)) → (Cv G y_CA_putFour d [vr a0, vi l1] M (fun M16 => mOk M16 ∧ (mK M16 a0 = 1 ∧ Cv G y_CA_putFour d [vr a0, vi l2] M16 (fun M20 => mOk M20 ∧ (mK M20 a0 = 1 ∧ Cv G y_CA_putFour d [vr a0, vi l3] M20 (fun M24 => mOk M24 ∧ (mK M24 a0 = 1 ∧ Cv G y_CA_putFour d [vr a0, vi l4] M24 (fun M28 => mOk M28 ∧ (mK M28 a0 = 1 ∧ Cv G y_CA_putFour d [vr a0, vi l5] M28 (fun M32 => mOk M32 ∧ (mK M32 a0 = 1 ∧ Q (mI M32 a0 1) M32)))))))))))) ∧ (¬ ((mI M a0 1) + 20 ≤ (mN M (mR M a0 0) : Int)) → (Cr G y_CA_growTape d [vr a0] M (fun x37 M36 => mOk M36 ∧ (mK M36 a0 = 1 ∧ ∀ M40, M40 = mUR M36 a0 0 x37 → Cv G y_CA_putFour d [vr a0, vi l1] M40 (fun M42 => mOk M42 ∧ (mK M42 a0 = 1 ∧ Cv G y_CA_putFour d [vr a0, vi l2] M42 (fun M46 => mOk M46 ∧ (mK M46 a0 = 1 ∧ Cv G y_CA_putFour d [vr a0, vi l3] M46 (fun M50 => mOk M50 ∧ (mK M50 a0 = 1 ∧ Cv G y_CA_putFour d [vr a0, vi l4] M50 (fun M54 => mOk M54 ∧ (mK M54 a0 = 1 ∧ Cv G y_CA_putFour d [vr a0, vi l5] M54 (fun M58 => mOk M58 ∧ (mK M58 a0 = 1 ∧ Q (mI M58 a0 1) M58)))))))))))))))) ∧ (¬ ((mI M a0 1) + 20 ≤ 16384) → (Q (-1) M))) :
    Ci G y_CA_feed (d + 1) [vr a0, vi l1, vi l2, vi l3, vi l4, vi l5] M Q := by
  refine wm_open (y := y_CA_feed) rfl (Nat.le_of_ble_eq_true rfl) (L := [vr a0, vi l1, vi l2, vi l3, vi l4, vi l5]) rfl ?_
  obtain ⟨h1, h⟩ := h
  obtain ⟨h7, h⟩ := h
  refine wm_aload_n d_CA_feed_0 rfl rfl ?_
  refine gf_CA_13 rfl d_CA_feed_1 h1 ?_
  refine wm_bipush d_CA_feed_4 (by decide) ?_
  refine wm_iadd d_CA_feed_6 ?_
  refine wm_sipush d_CA_feed_7 (by decide) ?_
  refine wm_icmp_le (tgt := 15) d_CA_feed_10 rfl h7 ⟨by decide, by decide⟩ (fun c8 => ?_) (fun c8 => ?_)
  · replace h := h.1 c8
    obtain ⟨h9, h⟩ := h
    obtain ⟨h14, h⟩ := h
    refine wm_aload_n d_CA_feed_15 rfl rfl ?_
    refine gf_CA_13 rfl d_CA_feed_16 h1 ?_
    refine wm_bipush d_CA_feed_19 (by decide) ?_
    refine wm_iadd d_CA_feed_21 ?_
    refine wm_aload_n d_CA_feed_22 rfl rfl ?_
    refine gf_CA_7 rfl d_CA_feed_23 h1 ?_
    refine wm_alen 2 rfl (fun _ => rfl) d_CA_feed_26 h9 ?_
    refine wm_icmp_le (tgt := 38) d_CA_feed_27 rfl h7 h14 (fun c15 => ?_) (fun c15 => ?_)
    · replace h := h.1 c15
      refine wm_aload_n d_CA_feed_38 rfl rfl ?_
      refine wm_iload_n d_CA_feed_39 rfl rfl ?_
      refine cf_CA_107 rfl d_CA_feed_40 h1 (Nat.le_of_ble_eq_true rfl) (Cv.mono h (fun M16 h => ?_))
      obtain ⟨hOM16, h⟩ := h
      obtain ⟨h19, h⟩ := h
      refine wm_aload_n d_CA_feed_43 rfl rfl ?_
      refine wm_iload_n d_CA_feed_44 rfl rfl ?_
      refine cf_CA_107 rfl d_CA_feed_45 h19 (Nat.le_of_ble_eq_true rfl) (Cv.mono h (fun M20 h => ?_))
      obtain ⟨hOM20, h⟩ := h
      obtain ⟨h23, h⟩ := h
      refine wm_aload_n d_CA_feed_48 rfl rfl ?_
      refine wm_iload_n d_CA_feed_49 rfl rfl ?_
      refine cf_CA_107 rfl d_CA_feed_50 h23 (Nat.le_of_ble_eq_true rfl) (Cv.mono h (fun M24 h => ?_))
      obtain ⟨hOM24, h⟩ := h
      obtain ⟨h27, h⟩ := h
      refine wm_aload_n d_CA_feed_53 rfl rfl ?_
      refine wm_iload d_CA_feed_54 rfl ?_
      refine cf_CA_107 rfl d_CA_feed_56 h27 (Nat.le_of_ble_eq_true rfl) (Cv.mono h (fun M28 h => ?_))
      obtain ⟨hOM28, h⟩ := h
      obtain ⟨h31, h⟩ := h
      refine wm_aload_n d_CA_feed_59 rfl rfl ?_
      refine wm_iload d_CA_feed_60 rfl ?_
      refine cf_CA_107 rfl d_CA_feed_62 h31 (Nat.le_of_ble_eq_true rfl) (Cv.mono h (fun M32 h => ?_))
      obtain ⟨hOM32, h⟩ := h
      obtain ⟨h35, h⟩ := h
      refine wm_aload_n d_CA_feed_65 rfl rfl ?_
      refine gf_CA_13 rfl d_CA_feed_66 h35 ?_
      refine wm_ireturn d_CA_feed_69 rfl rfl ?_
      exact ⟨_, rfl, h⟩
    · replace h := h.2 c15
      refine wm_aload_n d_CA_feed_30 rfl rfl ?_
      refine wm_aload_n d_CA_feed_31 rfl rfl ?_
      refine cf_CA_103 rfl d_CA_feed_32 h1 (Nat.le_of_ble_eq_true rfl) (Cr.mono h (fun x37 M36 h => ?_))
      obtain ⟨hOM36, h⟩ := h
      obtain ⟨h39, h⟩ := h
      obtain ⟨M40, e41⟩ : ∃ M40, M40 = mUR M36 a0 0 x37 := ⟨_, rfl⟩
      replace h := h M40 e41
      have hOM40 : mOk M40 := by rw [e41]; exact mOk_UR hOM36
      refine pf_CA_7 rfl d_CA_feed_35 h39 e41 ?_
      refine wm_aload_n d_CA_feed_38 rfl rfl ?_
      refine wm_iload_n d_CA_feed_39 rfl rfl ?_
      refine cf_CA_107 rfl d_CA_feed_40 (by rw [e41]; exact h39) (Nat.le_of_ble_eq_true rfl) (Cv.mono h (fun M42 h => ?_))
      obtain ⟨hOM42, h⟩ := h
      obtain ⟨h45, h⟩ := h
      refine wm_aload_n d_CA_feed_43 rfl rfl ?_
      refine wm_iload_n d_CA_feed_44 rfl rfl ?_
      refine cf_CA_107 rfl d_CA_feed_45 h45 (Nat.le_of_ble_eq_true rfl) (Cv.mono h (fun M46 h => ?_))
      obtain ⟨hOM46, h⟩ := h
      obtain ⟨h49, h⟩ := h
      refine wm_aload_n d_CA_feed_48 rfl rfl ?_
      refine wm_iload_n d_CA_feed_49 rfl rfl ?_
      refine cf_CA_107 rfl d_CA_feed_50 h49 (Nat.le_of_ble_eq_true rfl) (Cv.mono h (fun M50 h => ?_))
      obtain ⟨hOM50, h⟩ := h
      obtain ⟨h53, h⟩ := h
      refine wm_aload_n d_CA_feed_53 rfl rfl ?_
      refine wm_iload d_CA_feed_54 rfl ?_
      refine cf_CA_107 rfl d_CA_feed_56 h53 (Nat.le_of_ble_eq_true rfl) (Cv.mono h (fun M54 h => ?_))
      obtain ⟨hOM54, h⟩ := h
      obtain ⟨h57, h⟩ := h
      refine wm_aload_n d_CA_feed_59 rfl rfl ?_
      refine wm_iload d_CA_feed_60 rfl ?_
      refine cf_CA_107 rfl d_CA_feed_62 h57 (Nat.le_of_ble_eq_true rfl) (Cv.mono h (fun M58 h => ?_))
      obtain ⟨hOM58, h⟩ := h
      obtain ⟨h61, h⟩ := h
      refine wm_aload_n d_CA_feed_65 rfl rfl ?_
      refine gf_CA_13 rfl d_CA_feed_66 h61 ?_
      refine wm_ireturn d_CA_feed_69 rfl rfl ?_
      exact ⟨_, rfl, h⟩
  · replace h := h.2 c8
    refine wm_iconst d_CA_feed_13 ?_
    refine wm_ireturn d_CA_feed_14 rfl rfl ?_
    exact ⟨_, rfl, h⟩
theorem d_CA_growTape_0 : decode y_CA_growTape.2.1 0 = .ok (.iconst 2, 1) := dc9_5 (by decide +kernel)
theorem d_CA_growTape_1 : decode y_CA_growTape.2.1 1 = .ok (.aload_n 0, 1) := dc9_42 (by decide +kernel)
theorem d_CA_growTape_2 : decode y_CA_growTape.2.1 2 = .ok (.getfield 7, 3) := dc9_180 (by decide +kernel)
theorem d_CA_growTape_5 : decode y_CA_growTape.2.1 5 = .ok (.arraylength, 1) := dc9_190 (by decide +kernel)
theorem d_CA_growTape_6 : decode y_CA_growTape.2.1 6 = .ok (.imul, 1) := dc9_104 (by decide +kernel)
theorem d_CA_growTape_7 : decode y_CA_growTape.2.1 7 = .ok (.newarray .char, 2) := by decide +kernel
theorem d_CA_growTape_9 : decode y_CA_growTape.2.1 9 = .ok (.astore_n 1, 1) := dc9_76 (by decide +kernel)
theorem d_CA_growTape_10 : decode y_CA_growTape.2.1 10 = .ok (.aload_n 0, 1) := dc9_42 (by decide +kernel)
theorem d_CA_growTape_11 : decode y_CA_growTape.2.1 11 = .ok (.getfield 7, 3) := dc9_180 (by decide +kernel)
theorem d_CA_growTape_14 : decode y_CA_growTape.2.1 14 = .ok (.iconst 0, 1) := dc9_3 (by decide +kernel)
theorem d_CA_growTape_15 : decode y_CA_growTape.2.1 15 = .ok (.aload_n 1, 1) := dc9_43 (by decide +kernel)
theorem d_CA_growTape_16 : decode y_CA_growTape.2.1 16 = .ok (.iconst 0, 1) := dc9_3 (by decide +kernel)
theorem d_CA_growTape_17 : decode y_CA_growTape.2.1 17 = .ok (.aload_n 0, 1) := dc9_42 (by decide +kernel)
theorem d_CA_growTape_18 : decode y_CA_growTape.2.1 18 = .ok (.getfield 13, 3) := dc9_180 (by decide +kernel)
theorem d_CA_growTape_21 : decode y_CA_growTape.2.1 21 = .ok (.invokestatic 111, 3) := dc9_184 (by decide +kernel)
theorem d_CA_growTape_24 : decode y_CA_growTape.2.1 24 = .ok (.aload_n 1, 1) := dc9_43 (by decide +kernel)
theorem d_CA_growTape_25 : decode y_CA_growTape.2.1 25 = .ok (.areturn, 1) := dc9_176 (by decide +kernel)
theorem k_CA_growTape {G : mG} {d : Nat} {a0 : Nat} {M : mM} {Q : Nat → mM → Prop} (hO : mOk M)
    (h : mK M a0 = 1 ∧ mK M (mR M a0 0) = 32 ∧ ((0 : Int) ≤ 2 * (mN M (mR M a0 0) : Int) ∧ 2 * (mN M (mR M a0 0) : Int) ≤ 16777216) ∧ ∀ M4, M4 = mNew M 32 (Int.toNat (2 * (mN M (mR M a0 0) : Int))) (Int.toNat (2 * (mN M (mR M a0 0) : Int))) → mK M4 a0 = 1 ∧ mK M4 (mR M4 a0 0) = 32 ∧ ((0 : Int) ≤ 0 ∧ (0 : Int) ≤ 0 ∧ (0 : Int) ≤ mI M4 a0 1 ∧ 0 + (mI M4 a0 1) ≤ (mN M4 (mR M4 a0 0) : Int) ∧ 0 + (mI M4 a0 1) ≤ (mN M4 (mZ M) : Int)) ∧ (∀ i9 : Nat, (i9 : Int) < mI M4 a0 1 → 0 ≤ mI M4 (mR M4 a0 0) (0 + i9) ∧ mI M4 (mR M4 a0 0) (0 + i9) < 65536) ∧ ∀ M10, M10 = mCpy M4 (mR M4 a0 0) (mZ M) 0 0 (Int.toNat (mI M4 a0 1)) → Q (mZ M) M10) :
    Cr G y_CA_growTape (d + 1) [vr a0] M Q := by
  refine wm_open (y := y_CA_growTape) rfl (Nat.le_of_ble_eq_true rfl) (L := [vr a0, vd]) rfl ?_
  obtain ⟨h1, h⟩ := h
  obtain ⟨h2, h⟩ := h
  obtain ⟨h3, h⟩ := h
  obtain ⟨M4, e5⟩ : ∃ M4, M4 = mNew M 32 (Int.toNat (2 * (mN M (mR M a0 0) : Int))) (Int.toNat (2 * (mN M (mR M a0 0) : Int))) := ⟨_, rfl⟩
  replace h := h M4 e5
  obtain ⟨h6, h⟩ := h
  obtain ⟨h7, h⟩ := h
  obtain ⟨h8, h⟩ := h
  obtain ⟨h9, h⟩ := h
  obtain ⟨M10, e11⟩ : ∃ M10, M10 = mCpy M4 (mR M4 a0 0) (mZ M) 0 0 (Int.toNat (mI M4 a0 1)) := ⟨_, rfl⟩
  replace h := h M10 e11
  refine wm_iconst d_CA_growTape_0 ?_
  refine wm_aload_n d_CA_growTape_1 rfl rfl ?_
  refine gf_CA_7 rfl d_CA_growTape_2 h1 ?_
  refine wm_alen 2 rfl (fun _ => rfl) d_CA_growTape_5 h2 ?_
  refine wm_imul d_CA_growTape_6 ?_
  have hOM4 : mOk M4 := by rw [e5]; exact mOk_New hO
  refine wm_newarrE 2 (atype := .char) (ty := .char) rfl rfl (fun _ => rfl) rfl rfl (by decide) k1_81 h3 d_CA_growTape_7 e5 ?_
  refine wm_astore_n d_CA_growTape_9 rfl (by decide) (L' := [vr a0, vr (mZ M)]) rfl ?_
  refine wm_aload_n d_CA_growTape_10 rfl rfl ?_
  refine gf_CA_7 rfl d_CA_growTape_11 h6 ?_
  refine wm_iconst d_CA_growTape_14 ?_
  refine wm_aload_n d_CA_growTape_15 rfl rfl ?_
  refine wm_iconst d_CA_growTape_16 ?_
  refine wm_aload_n d_CA_growTape_17 rfl rfl ?_
  refine gf_CA_13 rfl d_CA_growTape_18 h6 ?_
  have hOM10 : mOk M10 := by rw [e11]; exact mOk_Cpy hOM4
  refine wm_copyc k4_13 (Nat.le_of_ble_eq_true rfl) h7 (by rw [e5]; exact if_pos rfl) h8 h9 d_CA_growTape_21 e11 ?_
  refine wm_aload_n d_CA_growTape_24 rfl rfl ?_
  refine wm_areturn d_CA_growTape_25 rfl (Or.inr ⟨_, rfl⟩) ?_
  exact ⟨_, rfl, h⟩
theorem d_CA_putFour_0 : decode y_CA_putFour.2.1 0 = .ok (.bipush 24, 2) := dc9_16 (by decide +kernel)
theorem d_CA_putFour_2 : decode y_CA_putFour.2.1 2 = .ok (.istore_n 2, 1) := dc9_61 (by decide +kernel)
theorem d_CA_putFour_3 : decode y_CA_putFour.2.1 3 = .ok (.iload_n 2, 1) := dc9_28 (by decide +kernel)
theorem d_CA_putFour_4 : decode y_CA_putFour.2.1 4 = .ok (.ifCond .lt 33, 3) := dc9_155 (by decide +kernel)
theorem d_CA_putFour_37 : decode y_CA_putFour.2.1 37 = .ok (.return_, 1) := dc9_177 (by decide +kernel)
theorem d_CA_putFour_7 : decode y_CA_putFour.2.1 7 = .ok (.aload_n 0, 1) := dc9_42 (by decide +kernel)
theorem d_CA_putFour_8 : decode y_CA_putFour.2.1 8 = .ok (.getfield 7, 3) := dc9_180 (by decide +kernel)
theorem d_CA_putFour_11 : decode y_CA_putFour.2.1 11 = .ok (.aload_n 0, 1) := dc9_42 (by decide +kernel)
theorem d_CA_putFour_12 : decode y_CA_putFour.2.1 12 = .ok (.dup, 1) := dc9_89 (by decide +kernel)
theorem d_CA_putFour_13 : decode y_CA_putFour.2.1 13 = .ok (.getfield 13, 3) := dc9_180 (by decide +kernel)
theorem d_CA_putFour_16 : decode y_CA_putFour.2.1 16 = .ok (.dup_x1, 1) := dc9_90 (by decide +kernel)
theorem d_CA_putFour_17 : decode y_CA_putFour.2.1 17 = .ok (.iconst 1, 1) := dc9_4 (by decide +kernel)
theorem d_CA_putFour_18 : decode y_CA_putFour.2.1 18 = .ok (.iadd, 1) := dc9_96 (by decide +kernel)
theorem d_CA_putFour_19 : decode y_CA_putFour.2.1 19 = .ok (.putfield 13, 3) := dc9_181 (by decide +kernel)
theorem d_CA_putFour_22 : decode y_CA_putFour.2.1 22 = .ok (.iload_n 1, 1) := dc9_27 (by decide +kernel)
theorem d_CA_putFour_23 : decode y_CA_putFour.2.1 23 = .ok (.iload_n 2, 1) := dc9_28 (by decide +kernel)
theorem d_CA_putFour_24 : decode y_CA_putFour.2.1 24 = .ok (.iushr, 1) := dc9_124 (by decide +kernel)
theorem d_CA_putFour_25 : decode y_CA_putFour.2.1 25 = .ok (.sipush 255, 3) := dc9_17 (by decide +kernel)
theorem d_CA_putFour_28 : decode y_CA_putFour.2.1 28 = .ok (.iand, 1) := dc9_126 (by decide +kernel)
theorem d_CA_putFour_29 : decode y_CA_putFour.2.1 29 = .ok (.i2c, 1) := dc9_146 (by decide +kernel)
theorem d_CA_putFour_30 : decode y_CA_putFour.2.1 30 = .ok (.castore, 1) := dc9_85 (by decide +kernel)
theorem d_CA_putFour_31 : decode y_CA_putFour.2.1 31 = .ok (.iinc 2 (-8), 3) := by decide +kernel
theorem d_CA_putFour_34 : decode y_CA_putFour.2.1 34 = .ok (.goto (-31), 3) := dc9_167 (by decide +kernel)
def h_CA_putFour_3 (G : mG) (d : Nat) (a0 : Nat) (l1 : Int) (l2 : Int) (M : mM) (Q : mM → Prop) : Prop := mWm G y_CA_putFour d 3 [vr a0, vi l1, vi l2] [] M (fun r9 M9 => r9 = none ∧ Q M9)
theorem k_CA_putFour {G : mG} {d : Nat} {a0 : Nat} {l1 : Int} {M : mM} {Q : mM → Prop} (hO : mOk M) (hi_l1 : i32 l1)
    (h : h_CA_putFour_3 G d a0 l1 24 M Q) :
    Cv G y_CA_putFour d [vr a0, vi l1] M Q := by
  refine wm_open (y := y_CA_putFour) rfl (Nat.le_of_ble_eq_true rfl) (L := [vr a0, vi l1, vd]) rfl ?_
  refine wm_bipush d_CA_putFour_0 (by decide) ?_
  refine wm_istore_n d_CA_putFour_2 rfl (by decide) (L' := [vr a0, vi l1, vi 24]) rfl ?_
  exact h
theorem k_CA_putFour_3 {G : mG} {d : Nat} {a0 : Nat} {l1 : Int} {l2 : Int} {M : mM} {Q : mM → Prop} (hO : mOk M) (hi_l1 : i32 l1) (hi_l2 : i32 l2)
    (h : ((l2 < 0) → (Q M)) ∧ (¬ (l2 < 0) → (mK M a0 = 1 ∧ i32 ((mI M a0 1) + 1) ∧ ∀ M5, M5 = mUI M a0 1 ((mI M a0 1) + 1) → mK M5 (mR M a0 0) = 32 ∧ ((0 : Int) ≤ mI M a0 1 ∧ mI M a0 1 < (mN M5 (mR M a0 0) : Int)) ∧ ((0 : Int) ≤ i2cI (andI (ushrI l1 l2) 255) ∧ i2cI (andI (ushrI l1 l2) 255) < 65536) ∧ ∀ M10, M10 = mUI M5 (mR M a0 0) (Int.toNat (mI M a0 1)) (i2cI (andI (ushrI l1 l2) 255)) → h_CA_putFour_3 G d a0 l1 (l2 + (-8)) M10 Q))) :
    h_CA_putFour_3 G d a0 l1 l2 M Q := by
  unfold h_CA_putFour_3
  refine wm_iload_n d_CA_putFour_3 rfl rfl ?_
  refine wm_if_lt (tgt := 37) d_CA_putFour_4 rfl hi_l2 (fun c2 => ?_) (fun c2 => ?_)
  · replace h := h.1 c2
    refine wm_return d_CA_putFour_37 rfl ?_
    exact ⟨rfl, h⟩
  · replace h := h.2 c2
    obtain ⟨h3, h⟩ := h
    obtain ⟨h4, h⟩ := h
    obtain ⟨M5, e6⟩ : ∃ M5, M5 = mUI M a0 1 ((mI M a0 1) + 1) := ⟨_, rfl⟩
    replace h := h M5 e6
    obtain ⟨h7, h⟩ := h
    obtain ⟨h8, h⟩ := h
    obtain ⟨h9, h⟩ := h
    obtain ⟨M10, e11⟩ : ∃ M10, M10 = mUI M5 (mR M a0 0) (Int.toNat (mI M a0 1)) (i2cI (andI (ushrI l1 l2) 255)) := ⟨_, rfl⟩
    replace h := h M10 e11
    refine wm_aload_n d_CA_putFour_7 rfl rfl ?_
    refine gf_CA_7 rfl d_CA_putFour_8 h3 ?_
    refine wm_aload_n d_CA_putFour_11 rfl rfl ?_
    refine wm_dup d_CA_putFour_12 rfl ?_
    refine gf_CA_13 rfl d_CA_putFour_13 h3 ?_
    refine wm_dup_x1 d_CA_putFour_16 rfl rfl ?_
    refine wm_iconst d_CA_putFour_17 ?_
    refine wm_iadd d_CA_putFour_18 ?_
    have hOM5 : mOk M5 := by rw [e6]; exact mOk_UI hO h4
    refine pf_CA_13 rfl d_CA_putFour_19 h3 h4 e6 ?_
    refine wm_iload_n d_CA_putFour_22 rfl rfl ?_
    refine wm_iload_n d_CA_putFour_23 rfl rfl ?_
    refine wm_iushr d_CA_putFour_24 ?_
    refine wm_sipush d_CA_putFour_25 (by decide) ?_
    refine wm_iand d_CA_putFour_28 ?_
    refine wm_i2c d_CA_putFour_29 ?_
    have hOM10 : mOk M10 := by rw [e11]; exact mOk_UI hOM5 ⟨by omega, by omega⟩
    refine wm_castE d_CA_putFour_30 h7 h8 h9 e11 ?_
    refine wm_iinc d_CA_putFour_31 (by decide) rfl (L' := [vr a0, vi l1, vi (l2 + (-8))]) rfl ?_
    refine wm_goto (tgt := 3) d_CA_putFour_34 rfl ?_
    exact h
theorem d_CA_end_0 : decode y_CA_end.2.1 0 = .ok (.iload_n 1, 1) := dc9_27 (by decide +kernel)
theorem d_CA_end_1 : decode y_CA_end.2.1 1 = .ok (.ifCond .lt 18, 3) := dc9_155 (by decide +kernel)
theorem d_CA_end_4 : decode y_CA_end.2.1 4 = .ok (.iload_n 1, 1) := dc9_27 (by decide +kernel)
theorem d_CA_end_5 : decode y_CA_end.2.1 5 = .ok (.bipush 20, 2) := dc9_16 (by decide +kernel)
theorem d_CA_end_7 : decode y_CA_end.2.1 7 = .ok (.if_icmp .gt 12, 3) := dc9_163 (by decide +kernel)
theorem d_CA_end_10 : decode y_CA_end.2.1 10 = .ok (.aload_n 0, 1) := dc9_42 (by decide +kernel)
theorem d_CA_end_11 : decode y_CA_end.2.1 11 = .ok (.getfield 13, 3) := dc9_180 (by decide +kernel)
theorem d_CA_end_14 : decode y_CA_end.2.1 14 = .ok (.bipush 20, 2) := dc9_16 (by decide +kernel)
theorem d_CA_end_16 : decode y_CA_end.2.1 16 = .ok (.if_icmp .ge 11, 3) := dc9_162 (by decide +kernel)
theorem d_CA_end_27 : decode y_CA_end.2.1 27 = .ok (.aload_n 0, 1) := dc9_42 (by decide +kernel)
theorem d_CA_end_28 : decode y_CA_end.2.1 28 = .ok (.dup, 1) := dc9_89 (by decide +kernel)
theorem d_CA_end_29 : decode y_CA_end.2.1 29 = .ok (.getfield 13, 3) := dc9_180 (by decide +kernel)
theorem d_CA_end_32 : decode y_CA_end.2.1 32 = .ok (.iload_n 1, 1) := dc9_27 (by decide +kernel)
theorem d_CA_end_33 : decode y_CA_end.2.1 33 = .ok (.bipush 20, 2) := dc9_16 (by decide +kernel)
theorem d_CA_end_35 : decode y_CA_end.2.1 35 = .ok (.isub, 1) := dc9_100 (by decide +kernel)
theorem d_CA_end_36 : decode y_CA_end.2.1 36 = .ok (.iadd, 1) := dc9_96 (by decide +kernel)
theorem d_CA_end_37 : decode y_CA_end.2.1 37 = .ok (.putfield 13, 3) := dc9_181 (by decide +kernel)
theorem d_CA_end_40 : decode y_CA_end.2.1 40 = .ok (.aload_n 0, 1) := dc9_42 (by decide +kernel)
theorem d_CA_end_41 : decode y_CA_end.2.1 41 = .ok (.getfield 13, 3) := dc9_180 (by decide +kernel)
theorem d_CA_end_44 : decode y_CA_end.2.1 44 = .ok (.ireturn, 1) := dc9_172 (by decide +kernel)
theorem k_CA_end {G : mG} {d : Nat} {a0 : Nat} {l1 : Int} {M : mM} {Q : Int → mM → Prop} (hO : mOk M) (hi_l1 : i32 l1)
    (h : (¬ (l1 < 0) → (¬ (20 < l1) → mK M a0 = 1)) ∧ (((l1 < 0) ∨ ((20 < l1) ∨ (¬ (20 ≤ mI M a0 1)))) → (False)) ∧ (¬ ((l1 < 0) ∨ ((20 < l1) ∨ (¬ (20 ≤ mI M a0 1)))) → (mK M a0 = 1 ∧ i32 ((mI M a0 1) + (l1 - 20)) ∧ ∀ M11, M11 = mUI M a0 1 ((mI M a0 1) + (l1 - 20)) → Q (mI M11 a0 1) M11))) :
    Ci G y_CA_end d [vr a0, vi l1] M Q := by
  refine wm_open (y := y_CA_end) rfl (Nat.le_of_ble_eq_true rfl) (L := [vr a0, vi l1]) rfl ?_
  refine wm_iload_n d_CA_end_0 rfl rfl ?_
  obtain ⟨s6, h⟩ := h
  have hE0 : ((l1 < 0) ∨ ((20 < l1) ∨ (¬ (20 ≤ mI M a0 1)))) → mWm G y_CA_end d 19 [vr a0, vi l1] [] M (fun r9 M9 => ∃ x9, r9 = some (vi x9) ∧ Q x9 M9) := by
    intro q7
    have h := h.1 q7
    exact h.elim
  have hE1 : ¬ ((l1 < 0) ∨ ((20 < l1) ∨ (¬ (20 ≤ mI M a0 1)))) → mWm G y_CA_end d 27 [vr a0, vi l1] [] M (fun r9 M9 => ∃ x9, r9 = some (vi x9) ∧ Q x9 M9) := by
    intro q8
    have h := h.2 q8
    obtain ⟨h9, h⟩ := h
    obtain ⟨h10, h⟩ := h
    obtain ⟨M11, e12⟩ : ∃ M11, M11 = mUI M a0 1 ((mI M a0 1) + (l1 - 20)) := ⟨_, rfl⟩
    replace h := h M11 e12
    refine wm_aload_n d_CA_end_27 rfl rfl ?_
    refine wm_dup d_CA_end_28 rfl ?_
    refine gf_CA_13 rfl d_CA_end_29 h9 ?_
    refine wm_iload_n d_CA_end_32 rfl rfl ?_
    refine wm_bipush d_CA_end_33 (by decide) ?_
    refine wm_isub d_CA_end_35 ?_
    refine wm_iadd d_CA_end_36 ?_
    have hOM11 : mOk M11 := by rw [e12]; exact mOk_UI hO h10
    refine pf_CA_13 rfl d_CA_end_37 h9 h10 e12 ?_
    refine wm_aload_n d_CA_end_40 rfl rfl ?_
    refine gf_CA_13 rfl d_CA_end_41 (by rw [e12]; exact h9) ?_
    refine wm_ireturn d_CA_end_44 rfl rfl ?_
    exact ⟨_, rfl, h⟩
  clear h
  have s13 := s6
  refine wm_if_lt (tgt := 19) d_CA_end_1 rfl hi_l1 (fun c5 => ?_) (fun c5 => ?_)
  · exact hE0 (Or.inl c5)
  · have s13 := s13 c5
    have s14 := s13
    refine wm_iload_n d_CA_end_4 rfl rfl ?_
    refine wm_bipush d_CA_end_5 (by decide) ?_
    refine wm_icmp_gt (tgt := 19) d_CA_end_7 rfl hi_l1 ⟨by decide, by decide⟩ (fun c4 => ?_) (fun c4 => ?_)
    · exact hE0 (Or.inr (Or.inl c4))
    · have s14 := s14 c4
      have h1 := s14
      refine wm_aload_n d_CA_end_10 rfl rfl ?_
      refine gf_CA_13 rfl d_CA_end_11 h1 ?_
      refine wm_bipush d_CA_end_14 (by decide) ?_
      refine wm_icmp_ge (tgt := 27) d_CA_end_16 rfl (hO _ _).1 ⟨by decide, by decide⟩ (fun c3 => ?_) (fun c3 => ?_)
      · exact hE1 (fun z15 => Or.elim z15 c5 (fun z16 => Or.elim z16 c4 (fun z17 => z17 c3)))
      · exact hE0 (Or.inr (Or.inr c3))
theorem d_CA_compile_0 : decode y_CA_compile.2.1 0 = .ok (.aload_n 0, 1) := dc9_42 (by decide +kernel)
theorem d_CA_compile_1 : decode y_CA_compile.2.1 1 = .ok (.getfield 20, 3) := dc9_180 (by decide +kernel)
theorem d_CA_compile_4 : decode y_CA_compile.2.1 4 = .ok (.aload_n 0, 1) := dc9_42 (by decide +kernel)
theorem d_CA_compile_5 : decode y_CA_compile.2.1 5 = .ok (.getfield 7, 3) := dc9_180 (by decide +kernel)
theorem d_CA_compile_8 : decode y_CA_compile.2.1 8 = .ok (.aload_n 0, 1) := dc9_42 (by decide +kernel)
theorem d_CA_compile_9 : decode y_CA_compile.2.1 9 = .ok (.getfield 13, 3) := dc9_180 (by decide +kernel)
theorem d_CA_compile_12 : decode y_CA_compile.2.1 12 = .ok (.invokevirtual 120, 3) := dc9_182 (by decide +kernel)
theorem d_CA_compile_15 : decode y_CA_compile.2.1 15 = .ok (.aload_n 0, 1) := dc9_42 (by decide +kernel)
theorem d_CA_compile_16 : decode y_CA_compile.2.1 16 = .ok (.iconst 0, 1) := dc9_3 (by decide +kernel)
theorem d_CA_compile_17 : decode y_CA_compile.2.1 17 = .ok (.putfield 13, 3) := dc9_181 (by decide +kernel)
theorem d_CA_compile_20 : decode y_CA_compile.2.1 20 = .ok (.aload_n 0, 1) := dc9_42 (by decide +kernel)
theorem d_CA_compile_21 : decode y_CA_compile.2.1 21 = .ok (.getfield 27, 3) := dc9_180 (by decide +kernel)
theorem d_CA_compile_24 : decode y_CA_compile.2.1 24 = .ok (.aload_n 0, 1) := dc9_42 (by decide +kernel)
theorem d_CA_compile_25 : decode y_CA_compile.2.1 25 = .ok (.getfield 20, 3) := dc9_180 (by decide +kernel)
theorem d_CA_compile_28 : decode y_CA_compile.2.1 28 = .ok (.aload_n 0, 1) := dc9_42 (by decide +kernel)
theorem d_CA_compile_29 : decode y_CA_compile.2.1 29 = .ok (.getfield 38, 3) := dc9_180 (by decide +kernel)
theorem d_CA_compile_32 : decode y_CA_compile.2.1 32 = .ok (.invokevirtual 124, 3) := dc9_182 (by decide +kernel)
theorem d_CA_compile_35 : decode y_CA_compile.2.1 35 = .ok (.istore_n 1, 1) := dc9_60 (by decide +kernel)
theorem d_CA_compile_36 : decode y_CA_compile.2.1 36 = .ok (.aload_n 0, 1) := dc9_42 (by decide +kernel)
theorem d_CA_compile_37 : decode y_CA_compile.2.1 37 = .ok (.iload_n 1, 1) := dc9_27 (by decide +kernel)
theorem d_CA_compile_38 : decode y_CA_compile.2.1 38 = .ok (.ifCond .ne 7, 3) := dc9_154 (by decide +kernel)
theorem d_CA_compile_41 : decode y_CA_compile.2.1 41 = .ok (.iconst (-1), 1) := dc9_2 (by decide +kernel)
theorem d_CA_compile_42 : decode y_CA_compile.2.1 42 = .ok (.goto 10, 3) := dc9_167 (by decide +kernel)
theorem d_CA_compile_45 : decode y_CA_compile.2.1 45 = .ok (.aload_n 0, 1) := dc9_42 (by decide +kernel)
theorem d_CA_compile_46 : decode y_CA_compile.2.1 46 = .ok (.getfield 27, 3) := dc9_180 (by decide +kernel)
theorem d_CA_compile_52 : decode y_CA_compile.2.1 52 = .ok (.putfield 45, 3) := dc9_181 (by decide +kernel)
theorem d_CA_compile_55 : decode y_CA_compile.2.1 55 = .ok (.iload_n 1, 1) := dc9_27 (by decide +kernel)
theorem d_CA_compile_56 : decode y_CA_compile.2.1 56 = .ok (.ifCond .ne 37, 3) := dc9_154 (by decide +kernel)
theorem d_CA_compile_59 : decode y_CA_compile.2.1 59 = .ok (.aload_n 0, 1) := dc9_42 (by decide +kernel)
theorem d_CA_compile_60 : decode y_CA_compile.2.1 60 = .ok (.getfield 34, 3) := dc9_180 (by decide +kernel)
theorem d_CA_compile_63 : decode y_CA_compile.2.1 63 = .ok (.astore_n 2, 1) := dc9_77 (by decide +kernel)
theorem d_CA_compile_64 : decode y_CA_compile.2.1 64 = .ok (.aload_n 0, 1) := dc9_42 (by decide +kernel)
theorem d_CA_compile_65 : decode y_CA_compile.2.1 65 = .ok (.aload_n 0, 1) := dc9_42 (by decide +kernel)
theorem d_CA_compile_66 : decode y_CA_compile.2.1 66 = .ok (.getfield 38, 3) := dc9_180 (by decide +kernel)
theorem d_CA_compile_69 : decode y_CA_compile.2.1 69 = .ok (.putfield 34, 3) := dc9_181 (by decide +kernel)
theorem d_CA_compile_72 : decode y_CA_compile.2.1 72 = .ok (.aload_n 0, 1) := dc9_42 (by decide +kernel)
theorem d_CA_compile_73 : decode y_CA_compile.2.1 73 = .ok (.aload_n 2, 1) := dc9_44 (by decide +kernel)
theorem d_CA_compile_74 : decode y_CA_compile.2.1 74 = .ok (.putfield 38, 3) := dc9_181 (by decide +kernel)
theorem d_CA_compile_77 : decode y_CA_compile.2.1 77 = .ok (.aload_n 0, 1) := dc9_42 (by decide +kernel)
theorem d_CA_compile_78 : decode y_CA_compile.2.1 78 = .ok (.iconst 1, 1) := dc9_4 (by decide +kernel)
theorem d_CA_compile_79 : decode y_CA_compile.2.1 79 = .ok (.putfield 41, 3) := dc9_181 (by decide +kernel)
theorem d_CA_compile_82 : decode y_CA_compile.2.1 82 = .ok (.aload_n 0, 1) := dc9_42 (by decide +kernel)
theorem d_CA_compile_83 : decode y_CA_compile.2.1 83 = .ok (.getfield 54, 3) := dc9_180 (by decide +kernel)
theorem d_CA_compile_86 : decode y_CA_compile.2.1 86 = .ok (.invokevirtual 131, 3) := dc9_182 (by decide +kernel)
theorem d_CA_compile_89 : decode y_CA_compile.2.1 89 = .ok (.aload_n 0, 1) := dc9_42 (by decide +kernel)
theorem d_CA_compile_90 : decode y_CA_compile.2.1 90 = .ok (.invokevirtual 134, 3) := dc9_182 (by decide +kernel)
theorem d_CA_compile_93 : decode y_CA_compile.2.1 93 = .ok (.iload_n 1, 1) := dc9_27 (by decide +kernel)
theorem d_CA_compile_94 : decode y_CA_compile.2.1 94 = .ok (.ireturn, 1) := dc9_172 (by decide +kernel)
theorem d_CA_compile_49 : decode y_CA_compile.2.1 49 = .ok (.invokevirtual 128, 3) := dc9_182 (by decide +kernel)
theorem k_CA_compile {G : mG} {d : Nat} {a0 : Nat} {M : mM} {Q : Int → mM → Prop} (hO : mOk M)
    (h : mK M a0 = 1 ∧ mK M (mR M a0 2) = 2 ∧ Cv G y_Wo_split d [vr (mR M a0 2), vr (mR M a0 0), vi (mI M a0 1)] M (fun M3 => mOk M3 ∧ (mK M3 a0 = 1 ∧ ∀ M7, M7 = mUI M3 a0 1 0 → mK M7 (mR M7 a0 3) = 3 ∧ Ci G y_TR_translate d [vr (mR M7 a0 3), vr (mR M7 a0 2), vr (mR M7 a0 5)] M7 (fun x11 M10 => i32 x11 ∧ mOk M10 ∧ (((x11 = 0) → (mK M10 a0 = 1 ∧ ∀ M19, M19 = mUI M10 a0 7 (-1) → ((x11 = 0) → (∀ M24, M24 = mUR M19 a0 4 (mR M19 a0 5) → ∀ M26, M26 = mUR M24 a0 5 (mR M19 a0 4) → ∀ M28, M28 = mUI M26 a0 6 1 → mK M28 (mR M28 a0 9) = 7 ∧ Cv G y_Ga_clear d [vr (mR M28 a0 9)] M28 (fun M31 => mOk M31 ∧ (mK M31 a0 = 1 ∧ Cv G y_CA_forget d [vr a0] M31 (fun M35 => mOk M35 ∧ (Q x11 M35)))))) ∧ (¬ (x11 = 0) → (Q x11 M19)))) ∧ (¬ (x11 = 0) → (mK M10 a0 = 1 ∧ mK M10 (mR M10 a0 3) = 3 ∧ Ci G y_TR_faultPlace d [vr (mR M10 a0 3)] M10 (fun x41 M40 => i32 x41 ∧ mOk M40 ∧ (mK M40 a0 = 1 ∧ ∀ M44, M44 = mUI M40 a0 7 x41 → ((x11 = 0) → (∀ M49, M49 = mUR M44 a0 4 (mR M44 a0 5) → ∀ M51, M51 = mUR M49 a0 5 (mR M44 a0 4) → ∀ M53, M53 = mUI M51 a0 6 1 → mK M53 (mR M53 a0 9) = 7 ∧ Cv G y_Ga_clear d [vr (mR M53 a0 9)] M53 (fun M56 => mOk M56 ∧ (mK M56 a0 = 1 ∧ Cv G y_CA_forget d [vr a0] M56 (fun M60 => mOk M60 ∧ (Q x11 M60)))))) ∧ (¬ (x11 = 0) → (Q x11 M44))))))))))) :
    Ci G y_CA_compile (d + 1) [vr a0] M Q := by
  refine wm_open (y := y_CA_compile) rfl (Nat.le_of_ble_eq_true rfl) (L := [vr a0, vd, vd]) rfl ?_
  obtain ⟨h1, h⟩ := h
  obtain ⟨h2, h⟩ := h
  refine wm_aload_n d_CA_compile_0 rfl rfl ?_
  refine gf_CA_20 rfl d_CA_compile_1 h1 ?_
  refine wm_aload_n d_CA_compile_4 rfl rfl ?_
  refine gf_CA_7 rfl d_CA_compile_5 h1 ?_
  refine wm_aload_n d_CA_compile_8 rfl rfl ?_
  refine gf_CA_13 rfl d_CA_compile_9 h1 ?_
  refine cf_CA_120 rfl d_CA_compile_12 h2 (Nat.le_of_ble_eq_true rfl) (Cv.mono h (fun M3 h => ?_))
  obtain ⟨hOM3, h⟩ := h
  obtain ⟨h6, h⟩ := h
  obtain ⟨M7, e8⟩ : ∃ M7, M7 = mUI M3 a0 1 0 := ⟨_, rfl⟩
  replace h := h M7 e8
  obtain ⟨h9, h⟩ := h
  refine wm_aload_n d_CA_compile_15 rfl rfl ?_
  refine wm_iconst d_CA_compile_16 ?_
  have hOM7 : mOk M7 := by rw [e8]; exact mOk_UI hOM3 ⟨by decide, by decide⟩
  refine pf_CA_13 rfl d_CA_compile_17 h6 ⟨by decide, by decide⟩ e8 ?_
  refine wm_aload_n d_CA_compile_20 rfl rfl ?_
  refine gf_CA_27 rfl d_CA_compile_21 (by rw [e8]; exact h6) ?_
  refine wm_aload_n d_CA_compile_24 rfl rfl ?_
  refine gf_CA_20 rfl d_CA_compile_25 (by rw [e8]; exact h6) ?_
  refine wm_aload_n d_CA_compile_28 rfl rfl ?_
  refine gf_CA_38 rfl d_CA_compile_29 (by rw [e8]; exact h6) ?_
  refine cf_CA_124 rfl d_CA_compile_32 h9 (Nat.le_of_ble_eq_true rfl) (Ci.mono h (fun x11 M10 h => ?_))
  obtain ⟨h12, hOM10, h⟩ := h
  refine wm_istore_n d_CA_compile_35 rfl (by decide) (L' := [vr a0, vi x11, vd]) rfl ?_
  refine wm_aload_n d_CA_compile_36 rfl rfl ?_
  refine wm_iload_n d_CA_compile_37 rfl rfl ?_
  refine wm_if_ne (tgt := 45) d_CA_compile_38 rfl h12 (fun c17 => ?_) (fun c17 => ?_)
  · replace h := h.2 c17
    obtain ⟨h38, h⟩ := h
    obtain ⟨h39, h⟩ := h
    refine wm_aload_n d_CA_compile_45 rfl rfl ?_
    refine gf_CA_27 rfl d_CA_compile_46 h38 ?_
    refine cf_CA_128 rfl d_CA_compile_49 h39 (Nat.le_of_ble_eq_true rfl) (Ci.mono h (fun x41 M40 h => ?_))
    obtain ⟨h42, hOM40, h⟩ := h
    obtain ⟨h43, h⟩ := h
    obtain ⟨M44, e45⟩ : ∃ M44, M44 = mUI M40 a0 7 x41 := ⟨_, rfl⟩
    replace h := h M44 e45
    have hOM44 : mOk M44 := by rw [e45]; exact mOk_UI hOM40 h42
    refine pf_CA_45 rfl d_CA_compile_52 h43 h42 e45 ?_
    refine wm_iload_n d_CA_compile_55 rfl rfl ?_
    refine wm_if_ne (tgt := 93) d_CA_compile_56 rfl h12 (fun c48 => ?_) (fun c48 => ?_)
    · replace h := h.2 c48
      refine wm_iload_n d_CA_compile_93 rfl rfl ?_
      refine wm_ireturn d_CA_compile_94 rfl rfl ?_
      exact ⟨_, rfl, h⟩
    · replace c48 := Classical.not_not.mp c48
      replace h := h.1 c48
      obtain ⟨M49, e50⟩ : ∃ M49, M49 = mUR M44 a0 4 (mR M44 a0 5) := ⟨_, rfl⟩
      replace h := h M49 e50
      obtain ⟨M51, e52⟩ : ∃ M51, M51 = mUR M49 a0 5 (mR M44 a0 4) := ⟨_, rfl⟩
      replace h := h M51 e52
      obtain ⟨M53, e54⟩ : ∃ M53, M53 = mUI M51 a0 6 1 := ⟨_, rfl⟩
      replace h := h M53 e54
      obtain ⟨h55, h⟩ := h
      refine wm_aload_n d_CA_compile_59 rfl rfl ?_
      refine gf_CA_34 rfl d_CA_compile_60 (by rw [e45]; exact h43) ?_
      refine wm_astore_n d_CA_compile_63 rfl (by decide) (L' := [vr a0, vi x11, vr (mR M44 a0 4)]) rfl ?_
      refine wm_aload_n d_CA_compile_64 rfl rfl ?_
      refine wm_aload_n d_CA_compile_65 rfl rfl ?_
      refine gf_CA_38 rfl d_CA_compile_66 (by rw [e45]; exact h43) ?_
      have hOM49 : mOk M49 := by rw [e50]; exact mOk_UR hOM44
      refine pf_CA_34 rfl d_CA_compile_69 (by rw [e45]; exact h43) e50 ?_
      refine wm_aload_n d_CA_compile_72 rfl rfl ?_
      refine wm_aload_n d_CA_compile_73 rfl rfl ?_
      have hOM51 : mOk M51 := by rw [e52]; exact mOk_UR hOM49
      refine pf_CA_38 rfl d_CA_compile_74 (by rw [e50, e45]; exact h43) e52 ?_
      refine wm_aload_n d_CA_compile_77 rfl rfl ?_
      refine wm_iconst d_CA_compile_78 ?_
      have hOM53 : mOk M53 := by rw [e54]; exact mOk_UI hOM51 (m_b32 (by decide))
      refine pf_CA_41 rfl d_CA_compile_79 (by rw [e52, e50, e45]; exact h43) (by decide) e54 ?_
      refine wm_aload_n d_CA_compile_82 rfl rfl ?_
      refine gf_CA_54 rfl d_CA_compile_83 (by rw [e54, e52, e50, e45]; exact h43) ?_
      refine cf_CA_131 rfl d_CA_compile_86 h55 (Nat.le_of_ble_eq_true rfl) (Cv.mono h (fun M56 h => ?_))
      obtain ⟨hOM56, h⟩ := h
      obtain ⟨h59, h⟩ := h
      refine wm_aload_n d_CA_compile_89 rfl rfl ?_
      refine cf_CA_134 rfl d_CA_compile_90 h59 (Nat.le_of_ble_eq_true rfl) (Cv.mono h (fun M60 h => ?_))
      obtain ⟨hOM60, h⟩ := h
      refine wm_iload_n d_CA_compile_93 rfl rfl ?_
      refine wm_ireturn d_CA_compile_94 rfl rfl ?_
      exact ⟨_, rfl, h⟩
  · replace c17 := Classical.not_not.mp c17
    replace h := h.1 c17
    obtain ⟨h18, h⟩ := h
    obtain ⟨M19, e20⟩ : ∃ M19, M19 = mUI M10 a0 7 (-1) := ⟨_, rfl⟩
    replace h := h M19 e20
    refine wm_iconst d_CA_compile_41 ?_
    refine wm_goto (tgt := 52) d_CA_compile_42 rfl ?_
    have hOM19 : mOk M19 := by rw [e20]; exact mOk_UI hOM10 ⟨by decide, by decide⟩
    refine pf_CA_45 rfl d_CA_compile_52 h18 ⟨by decide, by decide⟩ e20 ?_
    refine wm_iload_n d_CA_compile_55 rfl rfl ?_
    refine wm_if_ne (tgt := 93) d_CA_compile_56 rfl h12 (fun c23 => ?_) (fun c23 => ?_)
    · replace h := h.2 c23
      refine wm_iload_n d_CA_compile_93 rfl rfl ?_
      refine wm_ireturn d_CA_compile_94 rfl rfl ?_
      exact ⟨_, rfl, h⟩
    · replace c23 := Classical.not_not.mp c23
      replace h := h.1 c23
      obtain ⟨M24, e25⟩ : ∃ M24, M24 = mUR M19 a0 4 (mR M19 a0 5) := ⟨_, rfl⟩
      replace h := h M24 e25
      obtain ⟨M26, e27⟩ : ∃ M26, M26 = mUR M24 a0 5 (mR M19 a0 4) := ⟨_, rfl⟩
      replace h := h M26 e27
      obtain ⟨M28, e29⟩ : ∃ M28, M28 = mUI M26 a0 6 1 := ⟨_, rfl⟩
      replace h := h M28 e29
      obtain ⟨h30, h⟩ := h
      refine wm_aload_n d_CA_compile_59 rfl rfl ?_
      refine gf_CA_34 rfl d_CA_compile_60 (by rw [e20]; exact h18) ?_
      refine wm_astore_n d_CA_compile_63 rfl (by decide) (L' := [vr a0, vi x11, vr (mR M19 a0 4)]) rfl ?_
      refine wm_aload_n d_CA_compile_64 rfl rfl ?_
      refine wm_aload_n d_CA_compile_65 rfl rfl ?_
      refine gf_CA_38 rfl d_CA_compile_66 (by rw [e20]; exact h18) ?_
      have hOM24 : mOk M24 := by rw [e25]; exact mOk_UR hOM19
      refine pf_CA_34 rfl d_CA_compile_69 (by rw [e20]; exact h18) e25 ?_
      refine wm_aload_n d_CA_compile_72 rfl rfl ?_
      refine wm_aload_n d_CA_compile_73 rfl rfl ?_
      have hOM26 : mOk M26 := by rw [e27]; exact mOk_UR hOM24
      refine pf_CA_38 rfl d_CA_compile_74 (by rw [e25, e20]; exact h18) e27 ?_
      refine wm_aload_n d_CA_compile_77 rfl rfl ?_
      refine wm_iconst d_CA_compile_78 ?_
      have hOM28 : mOk M28 := by rw [e29]; exact mOk_UI hOM26 (m_b32 (by decide))
      refine pf_CA_41 rfl d_CA_compile_79 (by rw [e27, e25, e20]; exact h18) (by decide) e29 ?_
      refine wm_aload_n d_CA_compile_82 rfl rfl ?_
      refine gf_CA_54 rfl d_CA_compile_83 (by rw [e29, e27, e25, e20]; exact h18) ?_
      refine cf_CA_131 rfl d_CA_compile_86 h30 (Nat.le_of_ble_eq_true rfl) (Cv.mono h (fun M31 h => ?_))
      obtain ⟨hOM31, h⟩ := h
      obtain ⟨h34, h⟩ := h
      refine wm_aload_n d_CA_compile_89 rfl rfl ?_
      refine cf_CA_134 rfl d_CA_compile_90 h34 (Nat.le_of_ble_eq_true rfl) (Cv.mono h (fun M35 h => ?_))
      obtain ⟨hOM35, h⟩ := h
      refine wm_iload_n d_CA_compile_93 rfl rfl ?_
      refine wm_ireturn d_CA_compile_94 rfl rfl ?_
      exact ⟨_, rfl, h⟩
theorem d_CA_forget_0 : decode y_CA_forget.2.1 0 = .ok (.aload_n 0, 1) := dc9_42 (by decide +kernel)
theorem d_CA_forget_1 : decode y_CA_forget.2.1 1 = .ok (.getfield 70, 3) := dc9_180 (by decide +kernel)
theorem d_CA_forget_4 : decode y_CA_forget.2.1 4 = .ok (.iconst 0, 1) := dc9_3 (by decide +kernel)
theorem d_CA_forget_5 : decode y_CA_forget.2.1 5 = .ok (.putfield 137, 3) := dc9_181 (by decide +kernel)
theorem d_CA_forget_8 : decode y_CA_forget.2.1 8 = .ok (.aload_n 0, 1) := dc9_42 (by decide +kernel)
theorem d_CA_forget_9 : decode y_CA_forget.2.1 9 = .ok (.getfield 74, 3) := dc9_180 (by decide +kernel)
theorem d_CA_forget_12 : decode y_CA_forget.2.1 12 = .ok (.iconst 0, 1) := dc9_3 (by decide +kernel)
theorem d_CA_forget_13 : decode y_CA_forget.2.1 13 = .ok (.putfield 137, 3) := dc9_181 (by decide +kernel)
theorem d_CA_forget_16 : decode y_CA_forget.2.1 16 = .ok (.aload_n 0, 1) := dc9_42 (by decide +kernel)
theorem d_CA_forget_17 : decode y_CA_forget.2.1 17 = .ok (.getfield 80, 3) := dc9_180 (by decide +kernel)
theorem d_CA_forget_20 : decode y_CA_forget.2.1 20 = .ok (.iconst 0, 1) := dc9_3 (by decide +kernel)
theorem d_CA_forget_21 : decode y_CA_forget.2.1 21 = .ok (.putfield 137, 3) := dc9_181 (by decide +kernel)
theorem d_CA_forget_24 : decode y_CA_forget.2.1 24 = .ok (.return_, 1) := dc9_177 (by decide +kernel)
theorem k_CA_forget {G : mG} {d : Nat} {a0 : Nat} {M : mM} {Q : mM → Prop} (hO : mOk M)
    (h : mK M a0 = 1 ∧ mK M (mR M a0 11) = 13 ∧ ∀ M3, M3 = mUI M (mR M a0 11) 1 0 → mK M3 (mR M3 a0 12) = 13 ∧ ∀ M6, M6 = mUI M3 (mR M3 a0 12) 1 0 → mK M6 (mR M6 a0 14) = 13 ∧ ∀ M9, M9 = mUI M6 (mR M6 a0 14) 1 0 → Q M9) :
    Cv G y_CA_forget d [vr a0] M Q := by
  refine wm_open (y := y_CA_forget) rfl (Nat.le_of_ble_eq_true rfl) (L := [vr a0]) rfl ?_
  obtain ⟨h1, h⟩ := h
  obtain ⟨h2, h⟩ := h
  obtain ⟨M3, e4⟩ : ∃ M3, M3 = mUI M (mR M a0 11) 1 0 := ⟨_, rfl⟩
  replace h := h M3 e4
  obtain ⟨h5, h⟩ := h
  obtain ⟨M6, e7⟩ : ∃ M6, M6 = mUI M3 (mR M3 a0 12) 1 0 := ⟨_, rfl⟩
  replace h := h M6 e7
  obtain ⟨h8, h⟩ := h
  obtain ⟨M9, e10⟩ : ∃ M9, M9 = mUI M6 (mR M6 a0 14) 1 0 := ⟨_, rfl⟩
  replace h := h M9 e10
  refine wm_aload_n d_CA_forget_0 rfl rfl ?_
  refine gf_CA_70 rfl d_CA_forget_1 h1 ?_
  refine wm_iconst d_CA_forget_4 ?_
  have hOM3 : mOk M3 := by rw [e4]; exact mOk_UI hO (m_b32 (by decide))
  refine pf_CA_137 rfl d_CA_forget_5 h2 (by decide) e4 ?_
  refine wm_aload_n d_CA_forget_8 rfl rfl ?_
  refine gf_CA_74 rfl d_CA_forget_9 (by rw [e4]; exact h1) ?_
  refine wm_iconst d_CA_forget_12 ?_
  have hOM6 : mOk M6 := by rw [e7]; exact mOk_UI hOM3 (m_b32 (by decide))
  refine pf_CA_137 rfl d_CA_forget_13 h5 (by decide) e7 ?_
  refine wm_aload_n d_CA_forget_16 rfl rfl ?_
  refine gf_CA_80 rfl d_CA_forget_17 (by rw [e7, e4]; exact h1) ?_
  refine wm_iconst d_CA_forget_20 ?_
  have hOM9 : mOk M9 := by rw [e10]; exact mOk_UI hOM6 (m_b32 (by decide))
  refine pf_CA_137 rfl d_CA_forget_21 h8 (by decide) e10 ?_
  refine wm_return d_CA_forget_24 rfl ?_
  exact ⟨rfl, h⟩
theorem d_CA_place_0 : decode y_CA_place.2.1 0 = .ok (.aload_n 0, 1) := dc9_42 (by decide +kernel)
theorem d_CA_place_1 : decode y_CA_place.2.1 1 = .ok (.getfield 45, 3) := dc9_180 (by decide +kernel)
theorem d_CA_place_4 : decode y_CA_place.2.1 4 = .ok (.ireturn, 1) := dc9_172 (by decide +kernel)
theorem k_CA_place {G : mG} {d : Nat} {a0 : Nat} {M : mM} {Q : Int → mM → Prop} (hO : mOk M)
    (h : mK M a0 = 1 ∧ Q (mI M a0 7) M) :
    Ci G y_CA_place d [vr a0] M Q := by
  refine wm_open (y := y_CA_place) rfl (Nat.le_of_ble_eq_true rfl) (L := [vr a0]) rfl ?_
  obtain ⟨h1, h⟩ := h
  refine wm_aload_n d_CA_place_0 rfl rfl ?_
  refine gf_CA_45 rfl d_CA_place_1 h1 ?_
  refine wm_ireturn d_CA_place_4 rfl rfl ?_
  exact ⟨_, rfl, h⟩
theorem d_CA_items_0 : decode y_CA_items.2.1 0 = .ok (.aload_n 0, 1) := dc9_42 (by decide +kernel)
theorem d_CA_items_1 : decode y_CA_items.2.1 1 = .ok (.getfield 41, 3) := dc9_180 (by decide +kernel)
theorem d_CA_items_4 : decode y_CA_items.2.1 4 = .ok (.ifCond .ne 5, 3) := dc9_154 (by decide +kernel)
theorem d_CA_items_7 : decode y_CA_items.2.1 7 = .ok (.iconst (-1), 1) := dc9_2 (by decide +kernel)
theorem d_CA_items_8 : decode y_CA_items.2.1 8 = .ok (.ireturn, 1) := dc9_172 (by decide +kernel)
theorem d_CA_items_9 : decode y_CA_items.2.1 9 = .ok (.iload_n 1, 1) := dc9_27 (by decide +kernel)
theorem d_CA_items_10 : decode y_CA_items.2.1 10 = .ok (.tableswitch 50 0 2 #[26, 34, 42], 26) := by decide +kernel
theorem d_CA_items_36 : decode y_CA_items.2.1 36 = .ok (.aload_n 0, 1) := dc9_42 (by decide +kernel)
theorem d_CA_items_37 : decode y_CA_items.2.1 37 = .ok (.getfield 34, 3) := dc9_180 (by decide +kernel)
theorem d_CA_items_40 : decode y_CA_items.2.1 40 = .ok (.getfield 140, 3) := dc9_180 (by decide +kernel)
theorem d_CA_items_43 : decode y_CA_items.2.1 43 = .ok (.ireturn, 1) := dc9_172 (by decide +kernel)
theorem d_CA_items_44 : decode y_CA_items.2.1 44 = .ok (.aload_n 0, 1) := dc9_42 (by decide +kernel)
theorem d_CA_items_45 : decode y_CA_items.2.1 45 = .ok (.getfield 34, 3) := dc9_180 (by decide +kernel)
theorem d_CA_items_48 : decode y_CA_items.2.1 48 = .ok (.getfield 143, 3) := dc9_180 (by decide +kernel)
theorem d_CA_items_51 : decode y_CA_items.2.1 51 = .ok (.ireturn, 1) := dc9_172 (by decide +kernel)
theorem d_CA_items_52 : decode y_CA_items.2.1 52 = .ok (.aload_n 0, 1) := dc9_42 (by decide +kernel)
theorem d_CA_items_53 : decode y_CA_items.2.1 53 = .ok (.getfield 34, 3) := dc9_180 (by decide +kernel)
theorem d_CA_items_56 : decode y_CA_items.2.1 56 = .ok (.getfield 146, 3) := dc9_180 (by decide +kernel)
theorem d_CA_items_59 : decode y_CA_items.2.1 59 = .ok (.ireturn, 1) := dc9_172 (by decide +kernel)
theorem d_CA_items_60 : decode y_CA_items.2.1 60 = .ok (.iconst (-1), 1) := dc9_2 (by decide +kernel)
theorem d_CA_items_61 : decode y_CA_items.2.1 61 = .ok (.ireturn, 1) := dc9_172 (by decide +kernel)
theorem k_CA_items {G : mG} {d : Nat} {a0 : Nat} {l1 : Int} {M : mM} {Q : Int → mM → Prop} (hO : mOk M) (hi_l1 : i32 l1)
    (h : mK M a0 = 1 ∧ ((mI M a0 6 = 0) → (Q (-1) M)) ∧ (¬ (mI M a0 6 = 0) → (((l1 = 0) → (mK M (mR M a0 4) = 6 ∧ Q (mI M (mR M a0 4) 3) M)) ∧ (¬ (l1 = 0) → (((l1 = 1) → (mK M (mR M a0 4) = 6 ∧ Q (mI M (mR M a0 4) 7) M)) ∧ (¬ (l1 = 1) → (((l1 = 2) → (mK M (mR M a0 4) = 6 ∧ Q (mI M (mR M a0 4) 12) M)) ∧ (¬ (l1 = 2) → (Q (-1) M))))))))) :
    Ci G y_CA_items d [vr a0, vi l1] M Q := by
  refine wm_open (y := y_CA_items) rfl (Nat.le_of_ble_eq_true rfl) (L := [vr a0, vi l1]) rfl ?_
  obtain ⟨h1, h⟩ := h
  refine wm_aload_n d_CA_items_0 rfl rfl ?_
  refine gf_CA_41 rfl d_CA_items_1 h1 ?_
  refine wm_if_ne (tgt := 9) d_CA_items_4 rfl (hO _ _).1 (fun c3 => ?_) (fun c3 => ?_)
  · replace h := h.2 c3
    refine wm_iload_n d_CA_items_9 rfl rfl ?_
    by_cases c4 : l1 = 0
    · replace h := h.1 c4
      refine wm_tableIn (tgt := 36) (off := 26) d_CA_items_10 hi_l1 (by omega) (by omega) (by rw [c4]; rfl) rfl ?_
      obtain ⟨h5, h⟩ := h
      refine wm_aload_n d_CA_items_36 rfl rfl ?_
      refine gf_CA_34 rfl d_CA_items_37 h1 ?_
      refine gf_CA_140 rfl d_CA_items_40 h5 ?_
      refine wm_ireturn d_CA_items_43 rfl rfl ?_
      exact ⟨_, rfl, h⟩
    · replace h := h.2 c4
      by_cases c6 : l1 = 1
      · replace h := h.1 c6
        refine wm_tableIn (tgt := 44) (off := 34) d_CA_items_10 hi_l1 (by omega) (by omega) (by rw [c6]; rfl) rfl ?_
        obtain ⟨h7, h⟩ := h
        refine wm_aload_n d_CA_items_44 rfl rfl ?_
        refine gf_CA_34 rfl d_CA_items_45 h1 ?_
        refine gf_CA_143 rfl d_CA_items_48 h7 ?_
        refine wm_ireturn d_CA_items_51 rfl rfl ?_
        exact ⟨_, rfl, h⟩
      · replace h := h.2 c6
        by_cases c8 : l1 = 2
        · replace h := h.1 c8
          refine wm_tableIn (tgt := 52) (off := 42) d_CA_items_10 hi_l1 (by omega) (by omega) (by rw [c8]; rfl) rfl ?_
          obtain ⟨h9, h⟩ := h
          refine wm_aload_n d_CA_items_52 rfl rfl ?_
          refine gf_CA_34 rfl d_CA_items_53 h1 ?_
          refine gf_CA_146 rfl d_CA_items_56 h9 ?_
          refine wm_ireturn d_CA_items_59 rfl rfl ?_
          exact ⟨_, rfl, h⟩
        · replace h := h.2 c8
          refine wm_tableOut (tgt := 60) d_CA_items_10 hi_l1 (by omega) rfl ?_
          refine wm_iconst d_CA_items_60 ?_
          refine wm_ireturn d_CA_items_61 rfl rfl ?_
          exact ⟨_, rfl, h⟩
  · replace c3 := Classical.not_not.mp c3
    replace h := h.1 c3
    refine wm_iconst d_CA_items_7 ?_
    refine wm_ireturn d_CA_items_8 rfl rfl ?_
    exact ⟨_, rfl, h⟩
theorem d_CA_explore_0 : decode y_CA_explore.2.1 0 = .ok (.aload_n 0, 1) := dc9_42 (by decide +kernel)
theorem d_CA_explore_1 : decode y_CA_explore.2.1 1 = .ok (.getfield 41, 3) := dc9_180 (by decide +kernel)
theorem d_CA_explore_4 : decode y_CA_explore.2.1 4 = .ok (.ifCond .ne 11, 3) := dc9_154 (by decide +kernel)
theorem d_CA_explore_15 : decode y_CA_explore.2.1 15 = .ok (.aload_n 0, 1) := dc9_42 (by decide +kernel)
theorem d_CA_explore_16 : decode y_CA_explore.2.1 16 = .ok (.invokevirtual 134, 3) := dc9_182 (by decide +kernel)
theorem d_CA_explore_19 : decode y_CA_explore.2.1 19 = .ok (.aload_n 0, 1) := dc9_42 (by decide +kernel)
theorem d_CA_explore_20 : decode y_CA_explore.2.1 20 = .ok (.getfield 54, 3) := dc9_180 (by decide +kernel)
theorem d_CA_explore_23 : decode y_CA_explore.2.1 23 = .ok (.aload_n 0, 1) := dc9_42 (by decide +kernel)
theorem d_CA_explore_24 : decode y_CA_explore.2.1 24 = .ok (.getfield 34, 3) := dc9_180 (by decide +kernel)
theorem d_CA_explore_27 : decode y_CA_explore.2.1 27 = .ok (.invokevirtual 152, 3) := dc9_182 (by decide +kernel)
theorem d_CA_explore_30 : decode y_CA_explore.2.1 30 = .ok (.istore_n 1, 1) := dc9_60 (by decide +kernel)
theorem d_CA_explore_31 : decode y_CA_explore.2.1 31 = .ok (.aload_n 0, 1) := dc9_42 (by decide +kernel)
theorem d_CA_explore_32 : decode y_CA_explore.2.1 32 = .ok (.iload_n 1, 1) := dc9_27 (by decide +kernel)
theorem d_CA_explore_33 : decode y_CA_explore.2.1 33 = .ok (.ifCond .ne 7, 3) := dc9_154 (by decide +kernel)
theorem d_CA_explore_36 : decode y_CA_explore.2.1 36 = .ok (.iconst (-1), 1) := dc9_2 (by decide +kernel)
theorem d_CA_explore_37 : decode y_CA_explore.2.1 37 = .ok (.goto 10, 3) := dc9_167 (by decide +kernel)
theorem d_CA_explore_40 : decode y_CA_explore.2.1 40 = .ok (.aload_n 0, 1) := dc9_42 (by decide +kernel)
theorem d_CA_explore_41 : decode y_CA_explore.2.1 41 = .ok (.getfield 54, 3) := dc9_180 (by decide +kernel)
theorem d_CA_explore_44 : decode y_CA_explore.2.1 44 = .ok (.getfield 156, 3) := dc9_180 (by decide +kernel)
theorem d_CA_explore_47 : decode y_CA_explore.2.1 47 = .ok (.putfield 45, 3) := dc9_181 (by decide +kernel)
theorem d_CA_explore_50 : decode y_CA_explore.2.1 50 = .ok (.aload_n 0, 1) := dc9_42 (by decide +kernel)
theorem d_CA_explore_51 : decode y_CA_explore.2.1 51 = .ok (.iload_n 1, 1) := dc9_27 (by decide +kernel)
theorem d_CA_explore_52 : decode y_CA_explore.2.1 52 = .ok (.ifCond .ne 7, 3) := dc9_154 (by decide +kernel)
theorem d_CA_explore_55 : decode y_CA_explore.2.1 55 = .ok (.iconst (-1), 1) := dc9_2 (by decide +kernel)
theorem d_CA_explore_56 : decode y_CA_explore.2.1 56 = .ok (.goto 10, 3) := dc9_167 (by decide +kernel)
theorem d_CA_explore_59 : decode y_CA_explore.2.1 59 = .ok (.aload_n 0, 1) := dc9_42 (by decide +kernel)
theorem d_CA_explore_60 : decode y_CA_explore.2.1 60 = .ok (.getfield 54, 3) := dc9_180 (by decide +kernel)
theorem d_CA_explore_63 : decode y_CA_explore.2.1 63 = .ok (.getfield 159, 3) := dc9_180 (by decide +kernel)
theorem d_CA_explore_66 : decode y_CA_explore.2.1 66 = .ok (.putfield 48, 3) := dc9_181 (by decide +kernel)
theorem d_CA_explore_69 : decode y_CA_explore.2.1 69 = .ok (.iload_n 1, 1) := dc9_27 (by decide +kernel)
theorem d_CA_explore_70 : decode y_CA_explore.2.1 70 = .ok (.ireturn, 1) := dc9_172 (by decide +kernel)
theorem k_CA_explore {G : mG} {d : Nat} {a0 : Nat} {M : mM} {Q : Int → mM → Prop} (hO : mOk M)
    (h : mK M a0 = 1 ∧ ((mI M a0 6 = 0) → (False)) ∧ (¬ (mI M a0 6 = 0) → (Cv G y_CA_forget d [vr a0] M (fun M4 => mOk M4 ∧ (mK M4 a0 = 1 ∧ mK M4 (mR M4 a0 9) = 7 ∧ Ci G y_Ga_discover d [vr (mR M4 a0 9), vr (mR M4 a0 4)] M4 (fun x10 M9 => i32 x10 ∧ mOk M9 ∧ ((¬ (x10 = 0) → (mK M9 a0 = 1 ∧ mK M9 (mR M9 a0 9) = 7)) ∧ ∀ v15 : Int, v15 = (if (x10 = 0) then (-1) else mI M9 (mR M9 a0 9) 10) → mK M9 a0 = 1 ∧ i32 v15 ∧ ∀ M20, M20 = mUI M9 a0 7 v15 → (¬ (x10 = 0) → mK M20 (mR M20 a0 9) = 7) ∧ ∀ v24 : Int, v24 = (if (x10 = 0) then (-1) else mI M20 (mR M20 a0 9) 11) → i32 v24 ∧ ∀ M28, M28 = mUI M20 a0 8 v24 → Q x10 M28))))))) :
    Ci G y_CA_explore (d + 1) [vr a0] M Q := by
  refine wm_open (y := y_CA_explore) rfl (Nat.le_of_ble_eq_true rfl) (L := [vr a0, vd]) rfl ?_
  obtain ⟨h1, h⟩ := h
  refine wm_aload_n d_CA_explore_0 rfl rfl ?_
  refine gf_CA_41 rfl d_CA_explore_1 h1 ?_
  refine wm_if_ne (tgt := 15) d_CA_explore_4 rfl (hO _ _).1 (fun c3 => ?_) (fun c3 => ?_)
  · replace h := h.2 c3
    refine wm_aload_n d_CA_explore_15 rfl rfl ?_
    refine cf_CA_134 rfl d_CA_explore_16 h1 (Nat.le_of_ble_eq_true rfl) (Cv.mono h (fun M4 h => ?_))
    obtain ⟨hOM4, h⟩ := h
    obtain ⟨h7, h⟩ := h
    obtain ⟨h8, h⟩ := h
    refine wm_aload_n d_CA_explore_19 rfl rfl ?_
    refine gf_CA_54 rfl d_CA_explore_20 h7 ?_
    refine wm_aload_n d_CA_explore_23 rfl rfl ?_
    refine gf_CA_34 rfl d_CA_explore_24 h7 ?_
    refine cf_CA_152 rfl d_CA_explore_27 h8 (Nat.le_of_ble_eq_true rfl) (Ci.mono h (fun x10 M9 h => ?_))
    obtain ⟨h11, hOM9, h⟩ := h
    refine wm_istore_n d_CA_explore_30 rfl (by decide) (L' := [vr a0, vi x10]) rfl ?_
    refine wm_aload_n d_CA_explore_31 rfl rfl ?_
    refine wm_iload_n d_CA_explore_32 rfl rfl ?_
    obtain ⟨s16, h⟩ := h
    have hJ : ∀ v15 : Int, v15 = (if (x10 = 0) then (-1) else mI M9 (mR M9 a0 9) 10) → mWm G y_CA_explore (d + 1) 47 [vr a0, vi x10] [vi v15, vr a0] M9 (fun r9 M9 => ∃ x9, r9 = some (vi x9) ∧ Q x9 M9) := by
      intro v15 e17
      have h := h v15 e17
      obtain ⟨h18, h⟩ := h
      obtain ⟨h19, h⟩ := h
      obtain ⟨M20, e21⟩ : ∃ M20, M20 = mUI M9 a0 7 v15 := ⟨_, rfl⟩
      replace h := h M20 e21
      have hOM20 : mOk M20 := by rw [e21]; exact mOk_UI hOM9 h19
      refine pf_CA_45 rfl d_CA_explore_47 h18 h19 e21 ?_
      refine wm_aload_n d_CA_explore_50 rfl rfl ?_
      refine wm_iload_n d_CA_explore_51 rfl rfl ?_
      obtain ⟨s25, h⟩ := h
      have hJ : ∀ v24 : Int, v24 = (if (x10 = 0) then (-1) else mI M20 (mR M20 a0 9) 11) → mWm G y_CA_explore (d + 1) 66 [vd, vi x10] [vi v24, vr a0] M20 (fun r9 M9 => ∃ x9, r9 = some (vi x9) ∧ Q x9 M9) := by
        intro v24 e26
        have h := h v24 e26
        obtain ⟨h27, h⟩ := h
        obtain ⟨M28, e29⟩ : ∃ M28, M28 = mUI M20 a0 8 v24 := ⟨_, rfl⟩
        replace h := h M28 e29
        have hOM28 : mOk M28 := by rw [e29]; exact mOk_UI hOM20 h27
        refine pf_CA_48 rfl d_CA_explore_66 (by rw [e21]; exact h18) h27 e29 ?_
        refine wm_iload_n d_CA_explore_69 rfl rfl ?_
        refine wm_ireturn d_CA_explore_70 rfl rfl ?_
        exact ⟨_, rfl, h⟩
      clear h
      have s30 := s25
      refine wm_if_ne (tgt := 59) d_CA_explore_52 rfl h11 (fun c22 => ?_) (fun c22 => ?_)
      · have s30 := s30 c22
        have h23 := s30
        refine wm_aload_n d_CA_explore_59 rfl rfl ?_
        refine gf_CA_54 rfl d_CA_explore_60 (by rw [e21]; exact h18) ?_
        refine gf_CA_159 rfl d_CA_explore_63 h23 ?_
        refine wm_less (L' := [vd, vi x10]) ⟨Or.inl rfl, Or.inr rfl, trivial⟩ ?_
        exact hJ (mI M20 (mR M20 a0 9) 11) (if_neg c22).symm
      · replace c22 := Classical.not_not.mp c22
        refine wm_iconst d_CA_explore_55 ?_
        refine wm_goto (tgt := 66) d_CA_explore_56 rfl ?_
        refine wm_less (L' := [vd, vi x10]) ⟨Or.inl rfl, Or.inr rfl, trivial⟩ ?_
        exact hJ (-1) (if_pos c22).symm
    clear h
    have s32 := s16
    refine wm_if_ne (tgt := 40) d_CA_explore_33 rfl h11 (fun c12 => ?_) (fun c12 => ?_)
    · have s32 := s32 c12
      obtain ⟨h13, h14⟩ := s32
      refine wm_aload_n d_CA_explore_40 rfl rfl ?_
      refine gf_CA_54 rfl d_CA_explore_41 h13 ?_
      refine gf_CA_156 rfl d_CA_explore_44 h14 ?_
      exact hJ (mI M9 (mR M9 a0 9) 10) (if_neg c12).symm
    · replace c12 := Classical.not_not.mp c12
      refine wm_iconst d_CA_explore_36 ?_
      refine wm_goto (tgt := 47) d_CA_explore_37 rfl ?_
      exact hJ (-1) (if_pos c12).symm
  · replace c3 := Classical.not_not.mp c3
    replace h := h.1 c3
    exact h.elim
theorem d_CA_state_0 : decode y_CA_state.2.1 0 = .ok (.aload_n 0, 1) := dc9_42 (by decide +kernel)
theorem d_CA_state_1 : decode y_CA_state.2.1 1 = .ok (.getfield 48, 3) := dc9_180 (by decide +kernel)
theorem d_CA_state_4 : decode y_CA_state.2.1 4 = .ok (.ireturn, 1) := dc9_172 (by decide +kernel)
theorem k_CA_state {G : mG} {d : Nat} {a0 : Nat} {M : mM} {Q : Int → mM → Prop} (hO : mOk M)
    (h : mK M a0 = 1 ∧ Q (mI M a0 8) M) :
    Ci G y_CA_state d [vr a0] M Q := by
  refine wm_open (y := y_CA_state) rfl (Nat.le_of_ble_eq_true rfl) (L := [vr a0]) rfl ?_
  obtain ⟨h1, h⟩ := h
  refine wm_aload_n d_CA_state_0 rfl rfl ?_
  refine gf_CA_48 rfl d_CA_state_1 h1 ?_
  refine wm_ireturn d_CA_state_4 rfl rfl ?_
  exact ⟨_, rfl, h⟩
theorem d_CA_states_0 : decode y_CA_states.2.1 0 = .ok (.aload_n 0, 1) := dc9_42 (by decide +kernel)
theorem d_CA_states_1 : decode y_CA_states.2.1 1 = .ok (.getfield 54, 3) := dc9_180 (by decide +kernel)
theorem d_CA_states_4 : decode y_CA_states.2.1 4 = .ok (.getfield 160, 3) := dc9_180 (by decide +kernel)
theorem d_CA_states_7 : decode y_CA_states.2.1 7 = .ok (.ireturn, 1) := dc9_172 (by decide +kernel)
theorem k_CA_states {G : mG} {d : Nat} {a0 : Nat} {M : mM} {Q : Int → mM → Prop} (hO : mOk M)
    (h : mK M a0 = 1 ∧ mK M (mR M a0 9) = 7 ∧ Q (mI M (mR M a0 9) 0) M) :
    Ci G y_CA_states d [vr a0] M Q := by
  refine wm_open (y := y_CA_states) rfl (Nat.le_of_ble_eq_true rfl) (L := [vr a0]) rfl ?_
  obtain ⟨h1, h⟩ := h
  obtain ⟨h2, h⟩ := h
  refine wm_aload_n d_CA_states_0 rfl rfl ?_
  refine gf_CA_54 rfl d_CA_states_1 h1 ?_
  refine gf_CA_160 rfl d_CA_states_4 h2 ?_
  refine wm_ireturn d_CA_states_7 rfl rfl ?_
  exact ⟨_, rfl, h⟩
theorem d_CA_variable_0 : decode y_CA_variable.2.1 0 = .ok (.aload_n 0, 1) := dc9_42 (by decide +kernel)
theorem d_CA_variable_1 : decode y_CA_variable.2.1 1 = .ok (.getfield 54, 3) := dc9_180 (by decide +kernel)
theorem d_CA_variable_4 : decode y_CA_variable.2.1 4 = .ok (.iload_n 1, 1) := dc9_27 (by decide +kernel)
theorem d_CA_variable_5 : decode y_CA_variable.2.1 5 = .ok (.invokevirtual 163, 3) := dc9_182 (by decide +kernel)
theorem d_CA_variable_8 : decode y_CA_variable.2.1 8 = .ok (.ifCond .eq 18, 3) := dc9_153 (by decide +kernel)
theorem d_CA_variable_11 : decode y_CA_variable.2.1 11 = .ok (.iload_n 2, 1) := dc9_28 (by decide +kernel)
theorem d_CA_variable_12 : decode y_CA_variable.2.1 12 = .ok (.ifCond .lt 14, 3) := dc9_155 (by decide +kernel)
theorem d_CA_variable_15 : decode y_CA_variable.2.1 15 = .ok (.iload_n 2, 1) := dc9_28 (by decide +kernel)
theorem d_CA_variable_16 : decode y_CA_variable.2.1 16 = .ok (.aload_n 0, 1) := dc9_42 (by decide +kernel)
theorem d_CA_variable_17 : decode y_CA_variable.2.1 17 = .ok (.getfield 34, 3) := dc9_180 (by decide +kernel)
theorem d_CA_variable_20 : decode y_CA_variable.2.1 20 = .ok (.getfield 140, 3) := dc9_180 (by decide +kernel)
theorem d_CA_variable_23 : decode y_CA_variable.2.1 23 = .ok (.if_icmp .lt 11, 3) := dc9_161 (by decide +kernel)
theorem d_CA_variable_34 : decode y_CA_variable.2.1 34 = .ok (.aload_n 0, 1) := dc9_42 (by decide +kernel)
theorem d_CA_variable_35 : decode y_CA_variable.2.1 35 = .ok (.getfield 54, 3) := dc9_180 (by decide +kernel)
theorem d_CA_variable_38 : decode y_CA_variable.2.1 38 = .ok (.getfield 170, 3) := dc9_180 (by decide +kernel)
theorem d_CA_variable_41 : decode y_CA_variable.2.1 41 = .ok (.iload_n 1, 1) := dc9_27 (by decide +kernel)
theorem d_CA_variable_42 : decode y_CA_variable.2.1 42 = .ok (.bipush 12, 2) := dc9_16 (by decide +kernel)
theorem d_CA_variable_44 : decode y_CA_variable.2.1 44 = .ok (.imul, 1) := dc9_104 (by decide +kernel)
theorem d_CA_variable_45 : decode y_CA_variable.2.1 45 = .ok (.iload_n 2, 1) := dc9_28 (by decide +kernel)
theorem d_CA_variable_46 : decode y_CA_variable.2.1 46 = .ok (.iadd, 1) := dc9_96 (by decide +kernel)
theorem d_CA_variable_47 : decode y_CA_variable.2.1 47 = .ok (.iaload, 1) := dc9_46 (by decide +kernel)
theorem d_CA_variable_48 : decode y_CA_variable.2.1 48 = .ok (.ireturn, 1) := dc9_172 (by decide +kernel)
theorem k_CA_variable {G : mG} {d : Nat} {a0 : Nat} {l1 : Int} {l2 : Int} {M : mM} {Q : Int → mM → Prop} (hO : mOk M) (hi_l1 : i32 l1) (hi_l2 : i32 l2)
    (h : mK M a0 = 1 ∧ mK M (mR M a0 9) = 7 ∧ Ci G y_Ga_hasState d [vr (mR M a0 9), vi l1] M (fun x4 M3 => i32 x4 ∧ mOk M3 ∧ ((¬ (x4 = 0) → (¬ (l2 < 0) → (mK M3 a0 = 1 ∧ mK M3 (mR M3 a0 4) = 6))) ∧ (((x4 = 0) ∨ ((l2 < 0) ∨ (¬ (l2 < mI M3 (mR M3 a0 4) 3)))) → (False)) ∧ (¬ ((x4 = 0) ∨ ((l2 < 0) ∨ (¬ (l2 < mI M3 (mR M3 a0 4) 3)))) → (mK M3 a0 = 1 ∧ mK M3 (mR M3 a0 9) = 7 ∧ mK M3 (mR M3 (mR M3 a0 9) 1) = 30 ∧ ((0 : Int) ≤ (l1 * 12) + l2 ∧ (l1 * 12) + l2 < (mN M3 (mR M3 (mR M3 a0 9) 1) : Int)) ∧ Q (mI M3 (mR M3 (mR M3 a0 9) 1) (Int.toNat ((l1 * 12) + l2))) M3))))) :
    Ci G y_CA_variable (d + 1) [vr a0, vi l1, vi l2] M Q := by
  refine wm_open (y := y_CA_variable) rfl (Nat.le_of_ble_eq_true rfl) (L := [vr a0, vi l1, vi l2]) rfl ?_
  obtain ⟨h1, h⟩ := h
  obtain ⟨h2, h⟩ := h
  refine wm_aload_n d_CA_variable_0 rfl rfl ?_
  refine gf_CA_54 rfl d_CA_variable_1 h1 ?_
  refine wm_iload_n d_CA_variable_4 rfl rfl ?_
  refine cf_CA_163 rfl d_CA_variable_5 h2 (Nat.le_of_ble_eq_true rfl) (Ci.mono h (fun x4 M3 h => ?_))
  obtain ⟨h5, hOM3, h⟩ := h
  obtain ⟨s14, h⟩ := h
  have hE0 : ((x4 = 0) ∨ ((l2 < 0) ∨ (¬ (l2 < mI M3 (mR M3 a0 4) 3)))) → mWm G y_CA_variable (d + 1) 26 [vr a0, vi l1, vi l2] [] M3 (fun r9 M9 => ∃ x9, r9 = some (vi x9) ∧ Q x9 M9) := by
    intro q15
    have h := h.1 q15
    exact h.elim
  have hE1 : ¬ ((x4 = 0) ∨ ((l2 < 0) ∨ (¬ (l2 < mI M3 (mR M3 a0 4) 3)))) → mWm G y_CA_variable (d + 1) 34 [vr a0, vi l1, vi l2] [] M3 (fun r9 M9 => ∃ x9, r9 = some (vi x9) ∧ Q x9 M9) := by
    intro q16
    have h := h.2 q16
    obtain ⟨h17, h⟩ := h
    obtain ⟨h18, h⟩ := h
    obtain ⟨h19, h⟩ := h
    obtain ⟨h20, h⟩ := h
    refine wm_aload_n d_CA_variable_34 rfl rfl ?_
    refine gf_CA_54 rfl d_CA_variable_35 h17 ?_
    refine gf_CA_170 rfl d_CA_variable_38 h18 ?_
    refine wm_iload_n d_CA_variable_41 rfl rfl ?_
    refine wm_bipush d_CA_variable_42 (by decide) ?_
    refine wm_imul d_CA_variable_44 ?_
    refine wm_iload_n d_CA_variable_45 rfl rfl ?_
    refine wm_iadd d_CA_variable_46 ?_
    refine wm_iald d_CA_variable_47 h19 h20 ?_
    refine wm_ireturn d_CA_variable_48 rfl rfl ?_
    exact ⟨_, rfl, h⟩
  clear h
  have s21 := s14
  refine wm_if_eq (tgt := 26) d_CA_variable_8 rfl h5 (fun c13 => ?_) (fun c13 => ?_)
  · exact hE0 (Or.inl c13)
  · have s21 := s21 c13
    have s22 := s21
    refine wm_iload_n d_CA_variable_11 rfl rfl ?_
    refine wm_if_lt (tgt := 26) d_CA_variable_12 rfl hi_l2 (fun c12 => ?_) (fun c12 => ?_)
    · exact hE0 (Or.inr (Or.inl c12))
    · have s22 := s22 c12
      obtain ⟨h6, h7⟩ := s22
      refine wm_iload_n d_CA_variable_15 rfl rfl ?_
      refine wm_aload_n d_CA_variable_16 rfl rfl ?_
      refine gf_CA_34 rfl d_CA_variable_17 h6 ?_
      refine gf_CA_140 rfl d_CA_variable_20 h7 ?_
      refine wm_icmp_lt (tgt := 34) d_CA_variable_23 rfl hi_l2 (hOM3 _ _).1 (fun c11 => ?_) (fun c11 => ?_)
      · exact hE1 (fun z23 => Or.elim z23 c13 (fun z24 => Or.elim z24 c12 (fun z25 => z25 c11)))
      · exact hE0 (Or.inr (Or.inr c11))
theorem d_CA_kind_0 : decode y_CA_kind.2.1 0 = .ok (.aload_n 0, 1) := dc9_42 (by decide +kernel)
theorem d_CA_kind_1 : decode y_CA_kind.2.1 1 = .ok (.getfield 54, 3) := dc9_180 (by decide +kernel)
theorem d_CA_kind_4 : decode y_CA_kind.2.1 4 = .ok (.iload_n 1, 1) := dc9_27 (by decide +kernel)
theorem d_CA_kind_5 : decode y_CA_kind.2.1 5 = .ok (.invokevirtual 163, 3) := dc9_182 (by decide +kernel)
theorem d_CA_kind_8 : decode y_CA_kind.2.1 8 = .ok (.ifCond .eq 15, 3) := dc9_153 (by decide +kernel)
theorem d_CA_kind_23 : decode y_CA_kind.2.1 23 = .ok (.iconst (-1), 1) := dc9_2 (by decide +kernel)
theorem d_CA_kind_11 : decode y_CA_kind.2.1 11 = .ok (.aload_n 0, 1) := dc9_42 (by decide +kernel)
theorem d_CA_kind_12 : decode y_CA_kind.2.1 12 = .ok (.getfield 54, 3) := dc9_180 (by decide +kernel)
theorem d_CA_kind_15 : decode y_CA_kind.2.1 15 = .ok (.getfield 174, 3) := dc9_180 (by decide +kernel)
theorem d_CA_kind_18 : decode y_CA_kind.2.1 18 = .ok (.iload_n 1, 1) := dc9_27 (by decide +kernel)
theorem d_CA_kind_19 : decode y_CA_kind.2.1 19 = .ok (.iaload, 1) := dc9_46 (by decide +kernel)
theorem d_CA_kind_20 : decode y_CA_kind.2.1 20 = .ok (.goto 4, 3) := dc9_167 (by decide +kernel)
theorem d_CA_kind_24 : decode y_CA_kind.2.1 24 = .ok (.ireturn, 1) := dc9_172 (by decide +kernel)
theorem k_CA_kind {G : mG} {d : Nat} {a0 : Nat} {l1 : Int} {M : mM} {Q : Int → mM → Prop} (hO : mOk M) (hi_l1 : i32 l1)
    (h : mK M a0 = 1 ∧ mK M (mR M a0 9) = 7 ∧ Ci G y_Ga_hasState d [vr (mR M a0 9), vi l1] M (fun x4 M3 => i32 x4 ∧ mOk M3 ∧ ((¬ (x4 = 0) → (mK M3 a0 = 1 ∧ mK M3 (mR M3 a0 9) = 7 ∧ mK M3 (mR M3 (mR M3 a0 9) 2) = 30 ∧ ((0 : Int) ≤ l1 ∧ l1 < (mN M3 (mR M3 (mR M3 a0 9) 2) : Int)))) ∧ ∀ v11 : Int, v11 = (if (x4 = 0) then (-1) else mI M3 (mR M3 (mR M3 a0 9) 2) (Int.toNat l1)) → Q v11 M3))) :
    Ci G y_CA_kind (d + 1) [vr a0, vi l1] M Q := by
  refine wm_open (y := y_CA_kind) rfl (Nat.le_of_ble_eq_true rfl) (L := [vr a0, vi l1]) rfl ?_
  obtain ⟨h1, h⟩ := h
  obtain ⟨h2, h⟩ := h
  refine wm_aload_n d_CA_kind_0 rfl rfl ?_
  refine gf_CA_54 rfl d_CA_kind_1 h1 ?_
  refine wm_iload_n d_CA_kind_4 rfl rfl ?_
  refine cf_CA_163 rfl d_CA_kind_5 h2 (Nat.le_of_ble_eq_true rfl) (Ci.mono h (fun x4 M3 h => ?_))
  obtain ⟨h5, hOM3, h⟩ := h
  obtain ⟨s12, h⟩ := h
  have hJ : ∀ v11 : Int, v11 = (if (x4 = 0) then (-1) else mI M3 (mR M3 (mR M3 a0 9) 2) (Int.toNat l1)) → mWm G y_CA_kind (d + 1) 24 [vd, vd] [vi v11] M3 (fun r9 M9 => ∃ x9, r9 = some (vi x9) ∧ Q x9 M9) := by
    intro v11 e13
    have h := h v11 e13
    refine wm_ireturn d_CA_kind_24 rfl rfl ?_
    exact ⟨_, rfl, h⟩
  clear h
  have s14 := s12
  refine wm_if_eq (tgt := 23) d_CA_kind_8 rfl h5 (fun c6 => ?_) (fun c6 => ?_)
  · refine wm_iconst d_CA_kind_23 ?_
    refine wm_less (L' := [vd, vd]) ⟨Or.inl rfl, Or.inl rfl, trivial⟩ ?_
    exact hJ (-1) (if_pos c6).symm
  · have s14 := s14 c6
    obtain ⟨h7, h8, h9, h10⟩ := s14
    refine wm_aload_n d_CA_kind_11 rfl rfl ?_
    refine gf_CA_54 rfl d_CA_kind_12 h7 ?_
    refine gf_CA_174 rfl d_CA_kind_15 h8 ?_
    refine wm_iload_n d_CA_kind_18 rfl rfl ?_
    refine wm_iald d_CA_kind_19 h9 h10 ?_
    refine wm_goto (tgt := 24) d_CA_kind_20 rfl ?_
    refine wm_less (L' := [vd, vd]) ⟨Or.inl rfl, Or.inl rfl, trivial⟩ ?_
    exact hJ (mI M3 (mR M3 (mR M3 a0 9) 2) (Int.toNat l1)) (if_neg c6).symm
theorem d_CA_commands_0 : decode y_CA_commands.2.1 0 = .ok (.aload_n 0, 1) := dc9_42 (by decide +kernel)
theorem d_CA_commands_1 : decode y_CA_commands.2.1 1 = .ok (.getfield 54, 3) := dc9_180 (by decide +kernel)
theorem d_CA_commands_4 : decode y_CA_commands.2.1 4 = .ok (.iload_n 1, 1) := dc9_27 (by decide +kernel)
theorem d_CA_commands_5 : decode y_CA_commands.2.1 5 = .ok (.invokevirtual 163, 3) := dc9_182 (by decide +kernel)
theorem d_CA_commands_8 : decode y_CA_commands.2.1 8 = .ok (.ifCond .eq 27, 3) := dc9_153 (by decide +kernel)
theorem d_CA_commands_35 : decode y_CA_commands.2.1 35 = .ok (.iconst (-1), 1) := dc9_2 (by decide +kernel)
theorem d_CA_commands_11 : decode y_CA_commands.2.1 11 = .ok (.aload_n 0, 1) := dc9_42 (by decide +kernel)
theorem d_CA_commands_12 : decode y_CA_commands.2.1 12 = .ok (.getfield 54, 3) := dc9_180 (by decide +kernel)
theorem d_CA_commands_15 : decode y_CA_commands.2.1 15 = .ok (.getfield 177, 3) := dc9_180 (by decide +kernel)
theorem d_CA_commands_18 : decode y_CA_commands.2.1 18 = .ok (.iload_n 1, 1) := dc9_27 (by decide +kernel)
theorem d_CA_commands_19 : decode y_CA_commands.2.1 19 = .ok (.iconst 1, 1) := dc9_4 (by decide +kernel)
theorem d_CA_commands_20 : decode y_CA_commands.2.1 20 = .ok (.iadd, 1) := dc9_96 (by decide +kernel)
theorem d_CA_commands_21 : decode y_CA_commands.2.1 21 = .ok (.iaload, 1) := dc9_46 (by decide +kernel)
theorem d_CA_commands_22 : decode y_CA_commands.2.1 22 = .ok (.aload_n 0, 1) := dc9_42 (by decide +kernel)
theorem d_CA_commands_23 : decode y_CA_commands.2.1 23 = .ok (.getfield 54, 3) := dc9_180 (by decide +kernel)
theorem d_CA_commands_26 : decode y_CA_commands.2.1 26 = .ok (.getfield 177, 3) := dc9_180 (by decide +kernel)
theorem d_CA_commands_29 : decode y_CA_commands.2.1 29 = .ok (.iload_n 1, 1) := dc9_27 (by decide +kernel)
theorem d_CA_commands_30 : decode y_CA_commands.2.1 30 = .ok (.iaload, 1) := dc9_46 (by decide +kernel)
theorem d_CA_commands_31 : decode y_CA_commands.2.1 31 = .ok (.isub, 1) := dc9_100 (by decide +kernel)
theorem d_CA_commands_32 : decode y_CA_commands.2.1 32 = .ok (.goto 4, 3) := dc9_167 (by decide +kernel)
theorem d_CA_commands_36 : decode y_CA_commands.2.1 36 = .ok (.ireturn, 1) := dc9_172 (by decide +kernel)
theorem k_CA_commands {G : mG} {d : Nat} {a0 : Nat} {l1 : Int} {M : mM} {Q : Int → mM → Prop} (hO : mOk M) (hi_l1 : i32 l1)
    (h : mK M a0 = 1 ∧ mK M (mR M a0 9) = 7 ∧ Ci G y_Ga_hasState d [vr (mR M a0 9), vi l1] M (fun x4 M3 => i32 x4 ∧ mOk M3 ∧ ((¬ (x4 = 0) → (mK M3 a0 = 1 ∧ mK M3 (mR M3 a0 9) = 7 ∧ mK M3 (mR M3 (mR M3 a0 9) 4) = 30 ∧ ((0 : Int) ≤ l1 + 1 ∧ l1 + 1 < (mN M3 (mR M3 (mR M3 a0 9) 4) : Int)) ∧ ((0 : Int) ≤ l1 ∧ l1 < (mN M3 (mR M3 (mR M3 a0 9) 4) : Int)))) ∧ ∀ v12 : Int, v12 = (if (x4 = 0) then (-1) else (mI M3 (mR M3 (mR M3 a0 9) 4) (Int.toNat (l1 + 1))) - (mI M3 (mR M3 (mR M3 a0 9) 4) (Int.toNat l1))) → Q v12 M3))) :
    Ci G y_CA_commands (d + 1) [vr a0, vi l1] M Q := by
  refine wm_open (y := y_CA_commands) rfl (Nat.le_of_ble_eq_true rfl) (L := [vr a0, vi l1]) rfl ?_
  obtain ⟨h1, h⟩ := h
  obtain ⟨h2, h⟩ := h
  refine wm_aload_n d_CA_commands_0 rfl rfl ?_
  refine gf_CA_54 rfl d_CA_commands_1 h1 ?_
  refine wm_iload_n d_CA_commands_4 rfl rfl ?_
  refine cf_CA_163 rfl d_CA_commands_5 h2 (Nat.le_of_ble_eq_true rfl) (Ci.mono h (fun x4 M3 h => ?_))
  obtain ⟨h5, hOM3, h⟩ := h
  obtain ⟨s13, h⟩ := h
  have hJ : ∀ v12 : Int, v12 = (if (x4 = 0) then (-1) else (mI M3 (mR M3 (mR M3 a0 9) 4) (Int.toNat (l1 + 1))) - (mI M3 (mR M3 (mR M3 a0 9) 4) (Int.toNat l1))) → mWm G y_CA_commands (d + 1) 36 [vd, vd] [vi v12] M3 (fun r9 M9 => ∃ x9, r9 = some (vi x9) ∧ Q x9 M9) := by
    intro v12 e14
    have h := h v12 e14
    refine wm_ireturn d_CA_commands_36 rfl rfl ?_
    exact ⟨_, rfl, h⟩
  clear h
  have s15 := s13
  refine wm_if_eq (tgt := 35) d_CA_commands_8 rfl h5 (fun c6 => ?_) (fun c6 => ?_)
  · refine wm_iconst d_CA_commands_35 ?_
    refine wm_less (L' := [vd, vd]) ⟨Or.inl rfl, Or.inl rfl, trivial⟩ ?_
    exact hJ (-1) (if_pos c6).symm
  · have s15 := s15 c6
    obtain ⟨h7, h8, h9, h10, h11⟩ := s15
    refine wm_aload_n d_CA_commands_11 rfl rfl ?_
    refine gf_CA_54 rfl d_CA_commands_12 h7 ?_
    refine gf_CA_177 rfl d_CA_commands_15 h8 ?_
    refine wm_iload_n d_CA_commands_18 rfl rfl ?_
    refine wm_iconst d_CA_commands_19 ?_
    refine wm_iadd d_CA_commands_20 ?_
    refine wm_iald d_CA_commands_21 h9 h10 ?_
    refine wm_aload_n d_CA_commands_22 rfl rfl ?_
    refine gf_CA_54 rfl d_CA_commands_23 h7 ?_
    refine gf_CA_177 rfl d_CA_commands_26 h8 ?_
    refine wm_iload_n d_CA_commands_29 rfl rfl ?_
    refine wm_iald d_CA_commands_30 h9 h11 ?_
    refine wm_isub d_CA_commands_31 ?_
    refine wm_goto (tgt := 36) d_CA_commands_32 rfl ?_
    refine wm_less (L' := [vd, vd]) ⟨Or.inl rfl, Or.inl rfl, trivial⟩ ?_
    exact hJ ((mI M3 (mR M3 (mR M3 a0 9) 4) (Int.toNat (l1 + 1))) - (mI M3 (mR M3 (mR M3 a0 9) 4) (Int.toNat l1))) (if_neg c6).symm
theorem d_CA_command_0 : decode y_CA_command.2.1 0 = .ok (.aload_n 0, 1) := dc9_42 (by decide +kernel)
theorem d_CA_command_1 : decode y_CA_command.2.1 1 = .ok (.getfield 54, 3) := dc9_180 (by decide +kernel)
theorem d_CA_command_4 : decode y_CA_command.2.1 4 = .ok (.iload_n 1, 1) := dc9_27 (by decide +kernel)
theorem d_CA_command_5 : decode y_CA_command.2.1 5 = .ok (.iload_n 2, 1) := dc9_28 (by decide +kernel)
theorem d_CA_command_6 : decode y_CA_command.2.1 6 = .ok (.invokevirtual 180, 3) := dc9_182 (by decide +kernel)
theorem d_CA_command_9 : decode y_CA_command.2.1 9 = .ok (.istore_n 3, 1) := dc9_62 (by decide +kernel)
theorem d_CA_command_10 : decode y_CA_command.2.1 10 = .ok (.iload_n 3, 1) := dc9_29 (by decide +kernel)
theorem d_CA_command_11 : decode y_CA_command.2.1 11 = .ok (.iconst (-1), 1) := dc9_2 (by decide +kernel)
theorem d_CA_command_12 : decode y_CA_command.2.1 12 = .ok (.if_icmp .ne 7, 3) := dc9_160 (by decide +kernel)
theorem d_CA_command_15 : decode y_CA_command.2.1 15 = .ok (.iconst (-1), 1) := dc9_2 (by decide +kernel)
theorem d_CA_command_16 : decode y_CA_command.2.1 16 = .ok (.goto 12, 3) := dc9_167 (by decide +kernel)
theorem d_CA_command_19 : decode y_CA_command.2.1 19 = .ok (.aload_n 0, 1) := dc9_42 (by decide +kernel)
theorem d_CA_command_20 : decode y_CA_command.2.1 20 = .ok (.getfield 54, 3) := dc9_180 (by decide +kernel)
theorem d_CA_command_23 : decode y_CA_command.2.1 23 = .ok (.getfield 184, 3) := dc9_180 (by decide +kernel)
theorem d_CA_command_26 : decode y_CA_command.2.1 26 = .ok (.iload_n 3, 1) := dc9_29 (by decide +kernel)
theorem d_CA_command_27 : decode y_CA_command.2.1 27 = .ok (.iaload, 1) := dc9_46 (by decide +kernel)
theorem d_CA_command_28 : decode y_CA_command.2.1 28 = .ok (.ireturn, 1) := dc9_172 (by decide +kernel)
theorem k_CA_command {G : mG} {d : Nat} {a0 : Nat} {l1 : Int} {l2 : Int} {M : mM} {Q : Int → mM → Prop} (hO : mOk M) (hi_l1 : i32 l1) (hi_l2 : i32 l2)
    (h : mK M a0 = 1 ∧ mK M (mR M a0 9) = 7 ∧ Ci G y_Ga_commandAt d [vr (mR M a0 9), vi l1, vi l2] M (fun x4 M3 => i32 x4 ∧ mOk M3 ∧ ((¬ (x4 = (-1)) → (mK M3 a0 = 1 ∧ mK M3 (mR M3 a0 9) = 7 ∧ mK M3 (mR M3 (mR M3 a0 9) 5) = 30 ∧ ((0 : Int) ≤ x4 ∧ x4 < (mN M3 (mR M3 (mR M3 a0 9) 5) : Int)))) ∧ ∀ v11 : Int, v11 = (if (x4 = (-1)) then (-1) else mI M3 (mR M3 (mR M3 a0 9) 5) (Int.toNat x4)) → Q v11 M3))) :
    Ci G y_CA_command (d + 1) [vr a0, vi l1, vi l2] M Q := by
  refine wm_open (y := y_CA_command) rfl (Nat.le_of_ble_eq_true rfl) (L := [vr a0, vi l1, vi l2, vd]) rfl ?_
  obtain ⟨h1, h⟩ := h
  obtain ⟨h2, h⟩ := h
  refine wm_aload_n d_CA_command_0 rfl rfl ?_
  refine gf_CA_54 rfl d_CA_command_1 h1 ?_
  refine wm_iload_n d_CA_command_4 rfl rfl ?_
  refine wm_iload_n d_CA_command_5 rfl rfl ?_
  refine cf_CA_180 rfl d_CA_command_6 h2 (Nat.le_of_ble_eq_true rfl) (Ci.mono h (fun x4 M3 h => ?_))
  obtain ⟨h5, hOM3, h⟩ := h
  refine wm_istore_n d_CA_command_9 rfl (by decide) (L' := [vr a0, vi l1, vi l2, vi x4]) rfl ?_
  refine wm_iload_n d_CA_command_10 rfl rfl ?_
  refine wm_iconst d_CA_command_11 ?_
  obtain ⟨s12, h⟩ := h
  have hJ : ∀ v11 : Int, v11 = (if (x4 = (-1)) then (-1) else mI M3 (mR M3 (mR M3 a0 9) 5) (Int.toNat x4)) → mWm G y_CA_command (d + 1) 28 [vd, vd, vd, vd] [vi v11] M3 (fun r9 M9 => ∃ x9, r9 = some (vi x9) ∧ Q x9 M9) := by
    intro v11 e13
    have h := h v11 e13
    refine wm_ireturn d_CA_command_28 rfl rfl ?_
    exact ⟨_, rfl, h⟩
  clear h
  have s14 := s12
  refine wm_icmp_ne (tgt := 19) d_CA_command_12 rfl h5 ⟨by decide, by decide⟩ (fun c6 => ?_) (fun c6 => ?_)
  · have s14 := s14 c6
    obtain ⟨h7, h8, h9, h10⟩ := s14
    refine wm_aload_n d_CA_command_19 rfl rfl ?_
    refine gf_CA_54 rfl d_CA_command_20 h7 ?_
    refine gf_CA_184 rfl d_CA_command_23 h8 ?_
    refine wm_iload_n d_CA_command_26 rfl rfl ?_
    refine wm_iald d_CA_command_27 h9 h10 ?_
    refine wm_less (L' := [vd, vd, vd, vd]) ⟨Or.inl rfl, Or.inl rfl, Or.inl rfl, Or.inl rfl, trivial⟩ ?_
    exact hJ (mI M3 (mR M3 (mR M3 a0 9) 5) (Int.toNat x4)) (if_neg c6).symm
  · replace c6 := Classical.not_not.mp c6
    refine wm_iconst d_CA_command_15 ?_
    refine wm_goto (tgt := 28) d_CA_command_16 rfl ?_
    refine wm_less (L' := [vd, vd, vd, vd]) ⟨Or.inl rfl, Or.inl rfl, Or.inl rfl, Or.inl rfl, trivial⟩ ?_
    exact hJ (-1) (if_pos c6).symm
theorem d_CA_branches_0 : decode y_CA_branches.2.1 0 = .ok (.aload_n 0, 1) := dc9_42 (by decide +kernel)
theorem d_CA_branches_1 : decode y_CA_branches.2.1 1 = .ok (.getfield 54, 3) := dc9_180 (by decide +kernel)
theorem d_CA_branches_4 : decode y_CA_branches.2.1 4 = .ok (.iload_n 1, 1) := dc9_27 (by decide +kernel)
theorem d_CA_branches_5 : decode y_CA_branches.2.1 5 = .ok (.iload_n 2, 1) := dc9_28 (by decide +kernel)
theorem d_CA_branches_6 : decode y_CA_branches.2.1 6 = .ok (.invokevirtual 180, 3) := dc9_182 (by decide +kernel)
theorem d_CA_branches_9 : decode y_CA_branches.2.1 9 = .ok (.istore_n 3, 1) := dc9_62 (by decide +kernel)
theorem d_CA_branches_10 : decode y_CA_branches.2.1 10 = .ok (.iload_n 3, 1) := dc9_29 (by decide +kernel)
theorem d_CA_branches_11 : decode y_CA_branches.2.1 11 = .ok (.iconst (-1), 1) := dc9_2 (by decide +kernel)
theorem d_CA_branches_12 : decode y_CA_branches.2.1 12 = .ok (.if_icmp .ne 7, 3) := dc9_160 (by decide +kernel)
theorem d_CA_branches_15 : decode y_CA_branches.2.1 15 = .ok (.iconst (-1), 1) := dc9_2 (by decide +kernel)
theorem d_CA_branches_16 : decode y_CA_branches.2.1 16 = .ok (.goto 24, 3) := dc9_167 (by decide +kernel)
theorem d_CA_branches_19 : decode y_CA_branches.2.1 19 = .ok (.aload_n 0, 1) := dc9_42 (by decide +kernel)
theorem d_CA_branches_20 : decode y_CA_branches.2.1 20 = .ok (.getfield 54, 3) := dc9_180 (by decide +kernel)
theorem d_CA_branches_23 : decode y_CA_branches.2.1 23 = .ok (.getfield 187, 3) := dc9_180 (by decide +kernel)
theorem d_CA_branches_26 : decode y_CA_branches.2.1 26 = .ok (.iload_n 3, 1) := dc9_29 (by decide +kernel)
theorem d_CA_branches_27 : decode y_CA_branches.2.1 27 = .ok (.iconst 1, 1) := dc9_4 (by decide +kernel)
theorem d_CA_branches_28 : decode y_CA_branches.2.1 28 = .ok (.iadd, 1) := dc9_96 (by decide +kernel)
theorem d_CA_branches_29 : decode y_CA_branches.2.1 29 = .ok (.iaload, 1) := dc9_46 (by decide +kernel)
theorem d_CA_branches_30 : decode y_CA_branches.2.1 30 = .ok (.aload_n 0, 1) := dc9_42 (by decide +kernel)
theorem d_CA_branches_31 : decode y_CA_branches.2.1 31 = .ok (.getfield 54, 3) := dc9_180 (by decide +kernel)
theorem d_CA_branches_34 : decode y_CA_branches.2.1 34 = .ok (.getfield 187, 3) := dc9_180 (by decide +kernel)
theorem d_CA_branches_37 : decode y_CA_branches.2.1 37 = .ok (.iload_n 3, 1) := dc9_29 (by decide +kernel)
theorem d_CA_branches_38 : decode y_CA_branches.2.1 38 = .ok (.iaload, 1) := dc9_46 (by decide +kernel)
theorem d_CA_branches_39 : decode y_CA_branches.2.1 39 = .ok (.isub, 1) := dc9_100 (by decide +kernel)
theorem d_CA_branches_40 : decode y_CA_branches.2.1 40 = .ok (.ireturn, 1) := dc9_172 (by decide +kernel)
theorem k_CA_branches {G : mG} {d : Nat} {a0 : Nat} {l1 : Int} {l2 : Int} {M : mM} {Q : Int → mM → Prop} (hO : mOk M) (hi_l1 : i32 l1) (hi_l2 : i32 l2)
    (h : mK M a0 = 1 ∧ mK M (mR M a0 9) = 7 ∧ Ci G y_Ga_commandAt d [vr (mR M a0 9), vi l1, vi l2] M (fun x4 M3 => i32 x4 ∧ mOk M3 ∧ ((¬ (x4 = (-1)) → (mK M3 a0 = 1 ∧ mK M3 (mR M3 a0 9) = 7 ∧ mK M3 (mR M3 (mR M3 a0 9) 7) = 30 ∧ ((0 : Int) ≤ x4 + 1 ∧ x4 + 1 < (mN M3 (mR M3 (mR M3 a0 9) 7) : Int)) ∧ ((0 : Int) ≤ x4 ∧ x4 < (mN M3 (mR M3 (mR M3 a0 9) 7) : Int)))) ∧ ∀ v12 : Int, v12 = (if (x4 = (-1)) then (-1) else (mI M3 (mR M3 (mR M3 a0 9) 7) (Int.toNat (x4 + 1))) - (mI M3 (mR M3 (mR M3 a0 9) 7) (Int.toNat x4))) → Q v12 M3))) :
    Ci G y_CA_branches (d + 1) [vr a0, vi l1, vi l2] M Q := by
  refine wm_open (y := y_CA_branches) rfl (Nat.le_of_ble_eq_true rfl) (L := [vr a0, vi l1, vi l2, vd]) rfl ?_
  obtain ⟨h1, h⟩ := h
  obtain ⟨h2, h⟩ := h
  refine wm_aload_n d_CA_branches_0 rfl rfl ?_
  refine gf_CA_54 rfl d_CA_branches_1 h1 ?_
  refine wm_iload_n d_CA_branches_4 rfl rfl ?_
  refine wm_iload_n d_CA_branches_5 rfl rfl ?_
  refine cf_CA_180 rfl d_CA_branches_6 h2 (Nat.le_of_ble_eq_true rfl) (Ci.mono h (fun x4 M3 h => ?_))
  obtain ⟨h5, hOM3, h⟩ := h
  refine wm_istore_n d_CA_branches_9 rfl (by decide) (L' := [vr a0, vi l1, vi l2, vi x4]) rfl ?_
  refine wm_iload_n d_CA_branches_10 rfl rfl ?_
  refine wm_iconst d_CA_branches_11 ?_
  obtain ⟨s13, h⟩ := h
  have hJ : ∀ v12 : Int, v12 = (if (x4 = (-1)) then (-1) else (mI M3 (mR M3 (mR M3 a0 9) 7) (Int.toNat (x4 + 1))) - (mI M3 (mR M3 (mR M3 a0 9) 7) (Int.toNat x4))) → mWm G y_CA_branches (d + 1) 40 [vd, vd, vd, vd] [vi v12] M3 (fun r9 M9 => ∃ x9, r9 = some (vi x9) ∧ Q x9 M9) := by
    intro v12 e14
    have h := h v12 e14
    refine wm_ireturn d_CA_branches_40 rfl rfl ?_
    exact ⟨_, rfl, h⟩
  clear h
  have s15 := s13
  refine wm_icmp_ne (tgt := 19) d_CA_branches_12 rfl h5 ⟨by decide, by decide⟩ (fun c6 => ?_) (fun c6 => ?_)
  · have s15 := s15 c6
    obtain ⟨h7, h8, h9, h10, h11⟩ := s15
    refine wm_aload_n d_CA_branches_19 rfl rfl ?_
    refine gf_CA_54 rfl d_CA_branches_20 h7 ?_
    refine gf_CA_187 rfl d_CA_branches_23 h8 ?_
    refine wm_iload_n d_CA_branches_26 rfl rfl ?_
    refine wm_iconst d_CA_branches_27 ?_
    refine wm_iadd d_CA_branches_28 ?_
    refine wm_iald d_CA_branches_29 h9 h10 ?_
    refine wm_aload_n d_CA_branches_30 rfl rfl ?_
    refine gf_CA_54 rfl d_CA_branches_31 h7 ?_
    refine gf_CA_187 rfl d_CA_branches_34 h8 ?_
    refine wm_iload_n d_CA_branches_37 rfl rfl ?_
    refine wm_iald d_CA_branches_38 h9 h11 ?_
    refine wm_isub d_CA_branches_39 ?_
    refine wm_less (L' := [vd, vd, vd, vd]) ⟨Or.inl rfl, Or.inl rfl, Or.inl rfl, Or.inl rfl, trivial⟩ ?_
    exact hJ ((mI M3 (mR M3 (mR M3 a0 9) 7) (Int.toNat (x4 + 1))) - (mI M3 (mR M3 (mR M3 a0 9) 7) (Int.toNat x4))) (if_neg c6).symm
  · replace c6 := Classical.not_not.mp c6
    refine wm_iconst d_CA_branches_15 ?_
    refine wm_goto (tgt := 40) d_CA_branches_16 rfl ?_
    refine wm_less (L' := [vd, vd, vd, vd]) ⟨Or.inl rfl, Or.inl rfl, Or.inl rfl, Or.inl rfl, trivial⟩ ?_
    exact hJ (-1) (if_pos c6).symm
theorem d_CA_branch_0 : decode y_CA_branch.2.1 0 = .ok (.aload_n 0, 1) := dc9_42 (by decide +kernel)
theorem d_CA_branch_1 : decode y_CA_branch.2.1 1 = .ok (.getfield 54, 3) := dc9_180 (by decide +kernel)
theorem d_CA_branch_4 : decode y_CA_branch.2.1 4 = .ok (.iload_n 1, 1) := dc9_27 (by decide +kernel)
theorem d_CA_branch_5 : decode y_CA_branch.2.1 5 = .ok (.iload_n 2, 1) := dc9_28 (by decide +kernel)
theorem d_CA_branch_6 : decode y_CA_branch.2.1 6 = .ok (.invokevirtual 180, 3) := dc9_182 (by decide +kernel)
theorem d_CA_branch_9 : decode y_CA_branch.2.1 9 = .ok (.istore 5, 2) := dc9_54 (by decide +kernel)
theorem d_CA_branch_11 : decode y_CA_branch.2.1 11 = .ok (.iload 5, 2) := dc9_21 (by decide +kernel)
theorem d_CA_branch_13 : decode y_CA_branch.2.1 13 = .ok (.iconst (-1), 1) := dc9_2 (by decide +kernel)
theorem d_CA_branch_14 : decode y_CA_branch.2.1 14 = .ok (.if_icmp .eq 34, 3) := dc9_159 (by decide +kernel)
theorem d_CA_branch_17 : decode y_CA_branch.2.1 17 = .ok (.iload_n 3, 1) := dc9_29 (by decide +kernel)
theorem d_CA_branch_18 : decode y_CA_branch.2.1 18 = .ok (.ifCond .lt 30, 3) := dc9_155 (by decide +kernel)
theorem d_CA_branch_21 : decode y_CA_branch.2.1 21 = .ok (.iload_n 3, 1) := dc9_29 (by decide +kernel)
theorem d_CA_branch_22 : decode y_CA_branch.2.1 22 = .ok (.aload_n 0, 1) := dc9_42 (by decide +kernel)
theorem d_CA_branch_23 : decode y_CA_branch.2.1 23 = .ok (.getfield 54, 3) := dc9_180 (by decide +kernel)
theorem d_CA_branch_26 : decode y_CA_branch.2.1 26 = .ok (.getfield 187, 3) := dc9_180 (by decide +kernel)
theorem d_CA_branch_29 : decode y_CA_branch.2.1 29 = .ok (.iload 5, 2) := dc9_21 (by decide +kernel)
theorem d_CA_branch_31 : decode y_CA_branch.2.1 31 = .ok (.iconst 1, 1) := dc9_4 (by decide +kernel)
theorem d_CA_branch_32 : decode y_CA_branch.2.1 32 = .ok (.iadd, 1) := dc9_96 (by decide +kernel)
theorem d_CA_branch_33 : decode y_CA_branch.2.1 33 = .ok (.iaload, 1) := dc9_46 (by decide +kernel)
theorem d_CA_branch_34 : decode y_CA_branch.2.1 34 = .ok (.aload_n 0, 1) := dc9_42 (by decide +kernel)
theorem d_CA_branch_35 : decode y_CA_branch.2.1 35 = .ok (.getfield 54, 3) := dc9_180 (by decide +kernel)
theorem d_CA_branch_38 : decode y_CA_branch.2.1 38 = .ok (.getfield 187, 3) := dc9_180 (by decide +kernel)
theorem d_CA_branch_41 : decode y_CA_branch.2.1 41 = .ok (.iload 5, 2) := dc9_21 (by decide +kernel)
theorem d_CA_branch_43 : decode y_CA_branch.2.1 43 = .ok (.iaload, 1) := dc9_46 (by decide +kernel)
theorem d_CA_branch_44 : decode y_CA_branch.2.1 44 = .ok (.isub, 1) := dc9_100 (by decide +kernel)
theorem d_CA_branch_45 : decode y_CA_branch.2.1 45 = .ok (.if_icmp .lt 5, 3) := dc9_161 (by decide +kernel)
theorem d_CA_branch_50 : decode y_CA_branch.2.1 50 = .ok (.aload_n 0, 1) := dc9_42 (by decide +kernel)
theorem d_CA_branch_51 : decode y_CA_branch.2.1 51 = .ok (.getfield 54, 3) := dc9_180 (by decide +kernel)
theorem d_CA_branch_54 : decode y_CA_branch.2.1 54 = .ok (.getfield 187, 3) := dc9_180 (by decide +kernel)
theorem d_CA_branch_57 : decode y_CA_branch.2.1 57 = .ok (.iload 5, 2) := dc9_21 (by decide +kernel)
theorem d_CA_branch_59 : decode y_CA_branch.2.1 59 = .ok (.iaload, 1) := dc9_46 (by decide +kernel)
theorem d_CA_branch_60 : decode y_CA_branch.2.1 60 = .ok (.iload_n 3, 1) := dc9_29 (by decide +kernel)
theorem d_CA_branch_61 : decode y_CA_branch.2.1 61 = .ok (.iadd, 1) := dc9_96 (by decide +kernel)
theorem d_CA_branch_62 : decode y_CA_branch.2.1 62 = .ok (.istore 6, 2) := dc9_54 (by decide +kernel)
theorem d_CA_branch_64 : decode y_CA_branch.2.1 64 = .ok (.aload_n 0, 1) := dc9_42 (by decide +kernel)
theorem d_CA_branch_65 : decode y_CA_branch.2.1 65 = .ok (.getfield 54, 3) := dc9_180 (by decide +kernel)
theorem d_CA_branch_68 : decode y_CA_branch.2.1 68 = .ok (.getfield 190, 3) := dc9_180 (by decide +kernel)
theorem d_CA_branch_71 : decode y_CA_branch.2.1 71 = .ok (.iload 6, 2) := dc9_21 (by decide +kernel)
theorem d_CA_branch_73 : decode y_CA_branch.2.1 73 = .ok (.iaload, 1) := dc9_46 (by decide +kernel)
theorem d_CA_branch_74 : decode y_CA_branch.2.1 74 = .ok (.i2l, 1) := dc9_133 (by decide +kernel)
theorem d_CA_branch_75 : decode y_CA_branch.2.1 75 = .ok (.aload_n 0, 1) := dc9_42 (by decide +kernel)
theorem d_CA_branch_76 : decode y_CA_branch.2.1 76 = .ok (.getfield 54, 3) := dc9_180 (by decide +kernel)
theorem d_CA_branch_79 : decode y_CA_branch.2.1 79 = .ok (.getfield 193, 3) := dc9_180 (by decide +kernel)
theorem d_CA_branch_82 : decode y_CA_branch.2.1 82 = .ok (.iload 5, 2) := dc9_21 (by decide +kernel)
theorem d_CA_branch_84 : decode y_CA_branch.2.1 84 = .ok (.iaload, 1) := dc9_46 (by decide +kernel)
theorem d_CA_branch_85 : decode y_CA_branch.2.1 85 = .ok (.i2l, 1) := dc9_133 (by decide +kernel)
theorem d_CA_branch_48 : decode y_CA_branch.2.1 48 = .ok (.iconst (-1), 1) := dc9_2 (by decide +kernel)
theorem d_CA_branch_49 : decode y_CA_branch.2.1 49 = .ok (.ireturn, 1) := dc9_172 (by decide +kernel)
theorem d_CA_branch_86 : decode y_CA_branch.2.1 86 = .ok (.invokestatic 196, 3) := dc9_184 (by decide +kernel)
theorem d_CA_branch_89 : decode y_CA_branch.2.1 89 = .ok (.l2i, 1) := dc9_136 (by decide +kernel)
theorem d_CA_branch_90 : decode y_CA_branch.2.1 90 = .ok (.istore 7, 2) := dc9_54 (by decide +kernel)
theorem d_CA_branch_92 : decode y_CA_branch.2.1 92 = .ok (.iload 4, 2) := dc9_21 (by decide +kernel)
theorem d_CA_branch_94 : decode y_CA_branch.2.1 94 = .ok (.tableswitch 65 0 2 #[26, 37, 51], 26) := by decide +kernel
theorem d_CA_branch_120 : decode y_CA_branch.2.1 120 = .ok (.aload_n 0, 1) := dc9_42 (by decide +kernel)
theorem d_CA_branch_121 : decode y_CA_branch.2.1 121 = .ok (.getfield 54, 3) := dc9_180 (by decide +kernel)
theorem d_CA_branch_124 : decode y_CA_branch.2.1 124 = .ok (.getfield 202, 3) := dc9_180 (by decide +kernel)
theorem d_CA_branch_127 : decode y_CA_branch.2.1 127 = .ok (.iload 6, 2) := dc9_21 (by decide +kernel)
theorem d_CA_branch_129 : decode y_CA_branch.2.1 129 = .ok (.iaload, 1) := dc9_46 (by decide +kernel)
theorem d_CA_branch_130 : decode y_CA_branch.2.1 130 = .ok (.ireturn, 1) := dc9_172 (by decide +kernel)
theorem d_CA_branch_131 : decode y_CA_branch.2.1 131 = .ok (.aload_n 0, 1) := dc9_42 (by decide +kernel)
theorem d_CA_branch_132 : decode y_CA_branch.2.1 132 = .ok (.getfield 54, 3) := dc9_180 (by decide +kernel)
theorem d_CA_branch_135 : decode y_CA_branch.2.1 135 = .ok (.getfield 190, 3) := dc9_180 (by decide +kernel)
theorem d_CA_branch_138 : decode y_CA_branch.2.1 138 = .ok (.iload 6, 2) := dc9_21 (by decide +kernel)
theorem d_CA_branch_140 : decode y_CA_branch.2.1 140 = .ok (.iaload, 1) := dc9_46 (by decide +kernel)
theorem d_CA_branch_141 : decode y_CA_branch.2.1 141 = .ok (.iload 7, 2) := dc9_21 (by decide +kernel)
theorem d_CA_branch_143 : decode y_CA_branch.2.1 143 = .ok (.idiv, 1) := dc9_108 (by decide +kernel)
theorem d_CA_branch_144 : decode y_CA_branch.2.1 144 = .ok (.ireturn, 1) := dc9_172 (by decide +kernel)
theorem d_CA_branch_145 : decode y_CA_branch.2.1 145 = .ok (.aload_n 0, 1) := dc9_42 (by decide +kernel)
theorem d_CA_branch_146 : decode y_CA_branch.2.1 146 = .ok (.getfield 54, 3) := dc9_180 (by decide +kernel)
theorem d_CA_branch_149 : decode y_CA_branch.2.1 149 = .ok (.getfield 193, 3) := dc9_180 (by decide +kernel)
theorem d_CA_branch_152 : decode y_CA_branch.2.1 152 = .ok (.iload 5, 2) := dc9_21 (by decide +kernel)
theorem d_CA_branch_154 : decode y_CA_branch.2.1 154 = .ok (.iaload, 1) := dc9_46 (by decide +kernel)
theorem d_CA_branch_155 : decode y_CA_branch.2.1 155 = .ok (.iload 7, 2) := dc9_21 (by decide +kernel)
theorem d_CA_branch_157 : decode y_CA_branch.2.1 157 = .ok (.idiv, 1) := dc9_108 (by decide +kernel)
theorem d_CA_branch_158 : decode y_CA_branch.2.1 158 = .ok (.ireturn, 1) := dc9_172 (by decide +kernel)
theorem d_CA_branch_159 : decode y_CA_branch.2.1 159 = .ok (.iconst (-1), 1) := dc9_2 (by decide +kernel)
theorem d_CA_branch_160 : decode y_CA_branch.2.1 160 = .ok (.ireturn, 1) := dc9_172 (by decide +kernel)
theorem k_CA_branch {G : mG} {d : Nat} {a0 : Nat} {l1 : Int} {l2 : Int} {l3 : Int} {l4 : Int} {M : mM} {Q : Int → mM → Prop} (hO : mOk M) (hi_l1 : i32 l1) (hi_l2 : i32 l2) (hi_l3 : i32 l3) (hi_l4 : i32 l4)
    (h : mK M a0 = 1 ∧ mK M (mR M a0 9) = 7 ∧ Ci G y_Ga_commandAt d [vr (mR M a0 9), vi l1, vi l2] M (fun x4 M3 => i32 x4 ∧ mOk M3 ∧ ((¬ (x4 = (-1)) → (¬ (l3 < 0) → (mK M3 a0 = 1 ∧ mK M3 (mR M3 a0 9) = 7 ∧ mK M3 (mR M3 (mR M3 a0 9) 7) = 30 ∧ ((0 : Int) ≤ x4 + 1 ∧ x4 + 1 < (mN M3 (mR M3 (mR M3 a0 9) 7) : Int)) ∧ ((0 : Int) ≤ x4 ∧ x4 < (mN M3 (mR M3 (mR M3 a0 9) 7) : Int)) ∧ i32 ((mI M3 (mR M3 (mR M3 a0 9) 7) (Int.toNat (x4 + 1))) - (mI M3 (mR M3 (mR M3 a0 9) 7) (Int.toNat x4)))))) ∧ (((x4 = (-1)) ∨ ((l3 < 0) ∨ (¬ (l3 < (mI M3 (mR M3 (mR M3 a0 9) 7) (Int.toNat (x4 + 1))) - (mI M3 (mR M3 (mR M3 a0 9) 7) (Int.toNat x4)))))) → (Q (-1) M3)) ∧ (¬ ((x4 = (-1)) ∨ ((l3 < 0) ∨ (¬ (l3 < (mI M3 (mR M3 (mR M3 a0 9) 7) (Int.toNat (x4 + 1))) - (mI M3 (mR M3 (mR M3 a0 9) 7) (Int.toNat x4)))))) → (mK M3 a0 = 1 ∧ mK M3 (mR M3 a0 9) = 7 ∧ mK M3 (mR M3 (mR M3 a0 9) 7) = 30 ∧ ((0 : Int) ≤ x4 ∧ x4 < (mN M3 (mR M3 (mR M3 a0 9) 7) : Int)) ∧ mK M3 (mR M3 (mR M3 a0 9) 9) = 30 ∧ ((0 : Int) ≤ (mI M3 (mR M3 (mR M3 a0 9) 7) (Int.toNat x4)) + l3 ∧ (mI M3 (mR M3 (mR M3 a0 9) 7) (Int.toNat x4)) + l3 < (mN M3 (mR M3 (mR M3 a0 9) 9) : Int)) ∧ mK M3 (mR M3 (mR M3 a0 9) 6) = 30 ∧ ((0 : Int) ≤ x4 ∧ x4 < (mN M3 (mR M3 (mR M3 a0 9) 6) : Int)) ∧ Cj G y_Ma_commonDivisor d [vl (mI M3 (mR M3 (mR M3 a0 9) 9) (Int.toNat ((mI M3 (mR M3 (mR M3 a0 9) 7) (Int.toNat x4)) + l3))), vl (mI M3 (mR M3 (mR M3 a0 9) 6) (Int.toNat x4))] M3 (fun x27 M26 => i64 x27 ∧ mOk M26 ∧ (((l4 = 0) → (mK M26 a0 = 1 ∧ mK M26 (mR M26 a0 9) = 7 ∧ mK M26 (mR M26 (mR M26 a0 9) 8) = 30 ∧ ((0 : Int) ≤ (mI M3 (mR M3 (mR M3 a0 9) 7) (Int.toNat x4)) + l3 ∧ (mI M3 (mR M3 (mR M3 a0 9) 7) (Int.toNat x4)) + l3 < (mN M26 (mR M26 (mR M26 a0 9) 8) : Int)) ∧ Q (mI M26 (mR M26 (mR M26 a0 9) 8) (Int.toNat ((mI M3 (mR M3 (mR M3 a0 9) 7) (Int.toNat x4)) + l3))) M26)) ∧ (¬ (l4 = 0) → (((l4 = 1) → (mK M26 a0 = 1 ∧ mK M26 (mR M26 a0 9) = 7 ∧ mK M26 (mR M26 (mR M26 a0 9) 9) = 30 ∧ ((0 : Int) ≤ (mI M3 (mR M3 (mR M3 a0 9) 7) (Int.toNat x4)) + l3 ∧ (mI M3 (mR M3 (mR M3 a0 9) 7) (Int.toNat x4)) + l3 < (mN M26 (mR M26 (mR M26 a0 9) 9) : Int)) ∧ i32 x27 ∧ x27 ≠ 0 ∧ Q (Int.tdiv (mI M26 (mR M26 (mR M26 a0 9) 9) (Int.toNat ((mI M3 (mR M3 (mR M3 a0 9) 7) (Int.toNat x4)) + l3))) x27) M26)) ∧ (¬ (l4 = 1) → (((l4 = 2) → (mK M26 a0 = 1 ∧ mK M26 (mR M26 a0 9) = 7 ∧ mK M26 (mR M26 (mR M26 a0 9) 6) = 30 ∧ ((0 : Int) ≤ x4 ∧ x4 < (mN M26 (mR M26 (mR M26 a0 9) 6) : Int)) ∧ i32 x27 ∧ x27 ≠ 0 ∧ Q (Int.tdiv (mI M26 (mR M26 (mR M26 a0 9) 6) (Int.toNat x4)) x27) M26)) ∧ (¬ (l4 = 2) → (Q (-1) M26))))))))))))) :
    Ci G y_CA_branch (d + 1) [vr a0, vi l1, vi l2, vi l3, vi l4] M Q := by
  refine wm_open (y := y_CA_branch) rfl (Nat.le_of_ble_eq_true rfl) (L := [vr a0, vi l1, vi l2, vi l3, vi l4, vd, vd, vd]) rfl ?_
  obtain ⟨h1, h⟩ := h
  obtain ⟨h2, h⟩ := h
  refine wm_aload_n d_CA_branch_0 rfl rfl ?_
  refine gf_CA_54 rfl d_CA_branch_1 h1 ?_
  refine wm_iload_n d_CA_branch_4 rfl rfl ?_
  refine wm_iload_n d_CA_branch_5 rfl rfl ?_
  refine cf_CA_180 rfl d_CA_branch_6 h2 (Nat.le_of_ble_eq_true rfl) (Ci.mono h (fun x4 M3 h => ?_))
  obtain ⟨h5, hOM3, h⟩ := h
  refine wm_istore d_CA_branch_9 (by decide) (L' := [vr a0, vi l1, vi l2, vi l3, vi l4, vi x4, vd, vd]) rfl ?_
  refine wm_iload d_CA_branch_11 rfl ?_
  refine wm_iconst d_CA_branch_13 ?_
  obtain ⟨s15, h⟩ := h
  have hE0 : ((x4 = (-1)) ∨ ((l3 < 0) ∨ (¬ (l3 < (mI M3 (mR M3 (mR M3 a0 9) 7) (Int.toNat (x4 + 1))) - (mI M3 (mR M3 (mR M3 a0 9) 7) (Int.toNat x4)))))) → mWm G y_CA_branch (d + 1) 48 [vr a0, vi l1, vi l2, vi l3, vi l4, vi x4, vd, vd] [] M3 (fun r9 M9 => ∃ x9, r9 = some (vi x9) ∧ Q x9 M9) := by
    intro q16
    have h := h.1 q16
    refine wm_iconst d_CA_branch_48 ?_
    refine wm_ireturn d_CA_branch_49 rfl rfl ?_
    exact ⟨_, rfl, h⟩
  have hE1 : ¬ ((x4 = (-1)) ∨ ((l3 < 0) ∨ (¬ (l3 < (mI M3 (mR M3 (mR M3 a0 9) 7) (Int.toNat (x4 + 1))) - (mI M3 (mR M3 (mR M3 a0 9) 7) (Int.toNat x4)))))) → mWm G y_CA_branch (d + 1) 50 [vr a0, vi l1, vi l2, vi l3, vi l4, vi x4, vd, vd] [] M3 (fun r9 M9 => ∃ x9, r9 = some (vi x9) ∧ Q x9 M9) := by
    intro q17
    have h := h.2 q17
    obtain ⟨h18, h⟩ := h
    obtain ⟨h19, h⟩ := h
    obtain ⟨h20, h⟩ := h
    obtain ⟨h21, h⟩ := h
    obtain ⟨h22, h⟩ := h
    obtain ⟨h23, h⟩ := h
    obtain ⟨h24, h⟩ := h
    obtain ⟨h25, h⟩ := h
    refine wm_aload_n d_CA_branch_50 rfl rfl ?_
    refine gf_CA_54 rfl d_CA_branch_51 h18 ?_
    refine gf_CA_187 rfl d_CA_branch_54 h19 ?_
    refine wm_iload d_CA_branch_57 rfl ?_
    refine wm_iald d_CA_branch_59 h20 h21 ?_
    refine wm_iload_n d_CA_branch_60 rfl rfl ?_
    refine wm_iadd d_CA_branch_61 ?_
    refine wm_istore d_CA_branch_62 (by decide) (L' := [vr a0, vi l1, vi l2, vi l3, vi l4, vi x4, vi ((mI M3 (mR M3 (mR M3 a0 9) 7) (Int.toNat x4)) + l3), vd]) rfl ?_
    refine wm_aload_n d_CA_branch_64 rfl rfl ?_
    refine gf_CA_54 rfl d_CA_branch_65 h18 ?_
    refine gf_CA_190 rfl d_CA_branch_68 h19 ?_
    refine wm_iload d_CA_branch_71 rfl ?_
    refine wm_iald d_CA_branch_73 h22 h23 ?_
    refine wm_i2l d_CA_branch_74 (hOM3 _ _).1 ?_
    refine wm_aload_n d_CA_branch_75 rfl rfl ?_
    refine gf_CA_54 rfl d_CA_branch_76 h18 ?_
    refine gf_CA_193 rfl d_CA_branch_79 h19 ?_
    refine wm_iload d_CA_branch_82 rfl ?_
    refine wm_iald d_CA_branch_84 h24 h25 ?_
    refine wm_i2l d_CA_branch_85 (hOM3 _ _).1 ?_
    refine cf_CA_196 rfl d_CA_branch_86 (Nat.le_of_ble_eq_true rfl) (Cj.mono h (fun x27 M26 h => ?_))
    obtain ⟨h28, hOM26, h⟩ := h
    refine wm_l2i d_CA_branch_89 ?_
    refine wm_istore d_CA_branch_90 (by decide) (L' := [vr a0, vi l1, vi l2, vi l3, vi l4, vi x4, vi ((mI M3 (mR M3 (mR M3 a0 9) 7) (Int.toNat x4)) + l3), vi x27]) rfl ?_
    refine wm_iload d_CA_branch_92 rfl ?_
    by_cases c29 : l4 = 0
    · replace h := h.1 c29
      refine wm_tableIn (tgt := 120) (off := 26) d_CA_branch_94 hi_l4 (by omega) (by omega) (by rw [c29]; rfl) rfl ?_
      obtain ⟨h30, h⟩ := h
      obtain ⟨h31, h⟩ := h
      obtain ⟨h32, h⟩ := h
      obtain ⟨h33, h⟩ := h
      refine wm_aload_n d_CA_branch_120 rfl rfl ?_
      refine gf_CA_54 rfl d_CA_branch_121 h30 ?_
      refine gf_CA_202 rfl d_CA_branch_124 h31 ?_
      refine wm_iload d_CA_branch_127 rfl ?_
      refine wm_iald d_CA_branch_129 h32 h33 ?_
      refine wm_ireturn d_CA_branch_130 rfl rfl ?_
      exact ⟨_, rfl, h⟩
    · replace h := h.2 c29
      by_cases c34 : l4 = 1
      · replace h := h.1 c34
        refine wm_tableIn (tgt := 131) (off := 37) d_CA_branch_94 hi_l4 (by omega) (by omega) (by rw [c34]; rfl) rfl ?_
        obtain ⟨h35, h⟩ := h
        obtain ⟨h36, h⟩ := h
        obtain ⟨h37, h⟩ := h
        obtain ⟨h38, h⟩ := h
        obtain ⟨h39, h⟩ := h
        obtain ⟨h40, h⟩ := h
        refine wm_aload_n d_CA_branch_131 rfl rfl ?_
        refine gf_CA_54 rfl d_CA_branch_132 h35 ?_
        refine gf_CA_190 rfl d_CA_branch_135 h36 ?_
        refine wm_iload d_CA_branch_138 rfl ?_
        refine wm_iald d_CA_branch_140 h37 h38 ?_
        refine wm_iload d_CA_branch_141 rfl ?_
        refine wm_idiv d_CA_branch_143 (hOM26 _ _).1 h39 h40 ?_
        refine wm_ireturn d_CA_branch_144 rfl rfl ?_
        exact ⟨_, rfl, h⟩
      · replace h := h.2 c34
        by_cases c41 : l4 = 2
        · replace h := h.1 c41
          refine wm_tableIn (tgt := 145) (off := 51) d_CA_branch_94 hi_l4 (by omega) (by omega) (by rw [c41]; rfl) rfl ?_
          obtain ⟨h42, h⟩ := h
          obtain ⟨h43, h⟩ := h
          obtain ⟨h44, h⟩ := h
          obtain ⟨h45, h⟩ := h
          obtain ⟨h46, h⟩ := h
          obtain ⟨h47, h⟩ := h
          refine wm_aload_n d_CA_branch_145 rfl rfl ?_
          refine gf_CA_54 rfl d_CA_branch_146 h42 ?_
          refine gf_CA_193 rfl d_CA_branch_149 h43 ?_
          refine wm_iload d_CA_branch_152 rfl ?_
          refine wm_iald d_CA_branch_154 h44 h45 ?_
          refine wm_iload d_CA_branch_155 rfl ?_
          refine wm_idiv d_CA_branch_157 (hOM26 _ _).1 h46 h47 ?_
          refine wm_ireturn d_CA_branch_158 rfl rfl ?_
          exact ⟨_, rfl, h⟩
        · replace h := h.2 c41
          refine wm_tableOut (tgt := 159) d_CA_branch_94 hi_l4 (by omega) rfl ?_
          refine wm_iconst d_CA_branch_159 ?_
          refine wm_ireturn d_CA_branch_160 rfl rfl ?_
          exact ⟨_, rfl, h⟩
  clear h
  have s48 := s15
  refine wm_icmp_eq (tgt := 48) d_CA_branch_14 rfl h5 ⟨by decide, by decide⟩ (fun c14 => ?_) (fun c14 => ?_)
  · exact hE0 (Or.inl c14)
  · have s48 := s48 c14
    have s49 := s48
    refine wm_iload_n d_CA_branch_17 rfl rfl ?_
    refine wm_if_lt (tgt := 48) d_CA_branch_18 rfl hi_l3 (fun c13 => ?_) (fun c13 => ?_)
    · exact hE0 (Or.inr (Or.inl c13))
    · have s49 := s49 c13
      obtain ⟨h6, h7, h8, h9, h10, h11⟩ := s49
      refine wm_iload_n d_CA_branch_21 rfl rfl ?_
      refine wm_aload_n d_CA_branch_22 rfl rfl ?_
      refine gf_CA_54 rfl d_CA_branch_23 h6 ?_
      refine gf_CA_187 rfl d_CA_branch_26 h7 ?_
      refine wm_iload d_CA_branch_29 rfl ?_
      refine wm_iconst d_CA_branch_31 ?_
      refine wm_iadd d_CA_branch_32 ?_
      refine wm_iald d_CA_branch_33 h8 h9 ?_
      refine wm_aload_n d_CA_branch_34 rfl rfl ?_
      refine gf_CA_54 rfl d_CA_branch_35 h6 ?_
      refine gf_CA_187 rfl d_CA_branch_38 h7 ?_
      refine wm_iload d_CA_branch_41 rfl ?_
      refine wm_iald d_CA_branch_43 h8 h10 ?_
      refine wm_isub d_CA_branch_44 ?_
      refine wm_icmp_lt (tgt := 50) d_CA_branch_45 rfl hi_l3 h11 (fun c12 => ?_) (fun c12 => ?_)
      · exact hE1 (fun z50 => Or.elim z50 c14 (fun z51 => Or.elim z51 c13 (fun z52 => z52 c12)))
      · exact hE0 (Or.inr (Or.inr c12))
theorem d_CA_solve_0 : decode y_CA_solve.2.1 0 = .ok (.aload_n 0, 1) := dc9_42 (by decide +kernel)
theorem d_CA_solve_1 : decode y_CA_solve.2.1 1 = .ok (.getfield 54, 3) := dc9_180 (by decide +kernel)
theorem d_CA_solve_4 : decode y_CA_solve.2.1 4 = .ok (.getfield 160, 3) := dc9_180 (by decide +kernel)
theorem d_CA_solve_7 : decode y_CA_solve.2.1 7 = .ok (.ifCond .ne 11, 3) := dc9_154 (by decide +kernel)
theorem d_CA_solve_18 : decode y_CA_solve.2.1 18 = .ok (.aload_n 0, 1) := dc9_42 (by decide +kernel)
theorem d_CA_solve_19 : decode y_CA_solve.2.1 19 = .ok (.getfield 63, 3) := dc9_180 (by decide +kernel)
theorem d_CA_solve_22 : decode y_CA_solve.2.1 22 = .ok (.iconst 0, 1) := dc9_3 (by decide +kernel)
theorem d_CA_solve_23 : decode y_CA_solve.2.1 23 = .ok (.aload_n 0, 1) := dc9_42 (by decide +kernel)
theorem d_CA_solve_24 : decode y_CA_solve.2.1 24 = .ok (.getfield 70, 3) := dc9_180 (by decide +kernel)
theorem d_CA_solve_27 : decode y_CA_solve.2.1 27 = .ok (.invokevirtual 205, 3) := dc9_182 (by decide +kernel)
theorem d_CA_solve_30 : decode y_CA_solve.2.1 30 = .ok (.istore_n 1, 1) := dc9_60 (by decide +kernel)
theorem d_CA_solve_31 : decode y_CA_solve.2.1 31 = .ok (.iload_n 1, 1) := dc9_27 (by decide +kernel)
theorem d_CA_solve_32 : decode y_CA_solve.2.1 32 = .ok (.ifCond .ne 14, 3) := dc9_154 (by decide +kernel)
theorem d_CA_solve_35 : decode y_CA_solve.2.1 35 = .ok (.aload_n 0, 1) := dc9_42 (by decide +kernel)
theorem d_CA_solve_36 : decode y_CA_solve.2.1 36 = .ok (.getfield 63, 3) := dc9_180 (by decide +kernel)
theorem d_CA_solve_39 : decode y_CA_solve.2.1 39 = .ok (.aload_n 0, 1) := dc9_42 (by decide +kernel)
theorem d_CA_solve_40 : decode y_CA_solve.2.1 40 = .ok (.getfield 70, 3) := dc9_180 (by decide +kernel)
theorem d_CA_solve_43 : decode y_CA_solve.2.1 43 = .ok (.invokevirtual 209, 3) := dc9_182 (by decide +kernel)
theorem d_CA_solve_46 : decode y_CA_solve.2.1 46 = .ok (.iload_n 1, 1) := dc9_27 (by decide +kernel)
theorem d_CA_solve_47 : decode y_CA_solve.2.1 47 = .ok (.ireturn, 1) := dc9_172 (by decide +kernel)
theorem k_CA_solve {G : mG} {d : Nat} {a0 : Nat} {M : mM} {Q : Int → mM → Prop} (hO : mOk M)
    (h : mK M a0 = 1 ∧ mK M (mR M a0 9) = 7 ∧ ((mI M (mR M a0 9) 0 = 0) → (False)) ∧ (¬ (mI M (mR M a0 9) 0 = 0) → (mK M (mR M a0 10) = 8 ∧ Ci G y_So_workOut d [vr (mR M a0 10), vi 0, vr (mR M a0 11)] M (fun x7 M6 => i32 x7 ∧ mOk M6 ∧ (((x7 = 0) → (mK M6 a0 = 1 ∧ mK M6 (mR M6 a0 10) = 8 ∧ Cv G y_So_rankAndChoose d [vr (mR M6 a0 10), vr (mR M6 a0 11)] M6 (fun M15 => mOk M15 ∧ (Q x7 M15)))) ∧ (¬ (x7 = 0) → (Q x7 M6))))))) :
    Ci G y_CA_solve (d + 1) [vr a0] M Q := by
  refine wm_open (y := y_CA_solve) rfl (Nat.le_of_ble_eq_true rfl) (L := [vr a0, vd]) rfl ?_
  obtain ⟨h1, h⟩ := h
  obtain ⟨h2, h⟩ := h
  refine wm_aload_n d_CA_solve_0 rfl rfl ?_
  refine gf_CA_54 rfl d_CA_solve_1 h1 ?_
  refine gf_CA_160 rfl d_CA_solve_4 h2 ?_
  refine wm_if_ne (tgt := 18) d_CA_solve_7 rfl (hO _ _).1 (fun c4 => ?_) (fun c4 => ?_)
  · replace h := h.2 c4
    obtain ⟨h5, h⟩ := h
    refine wm_aload_n d_CA_solve_18 rfl rfl ?_
    refine gf_CA_63 rfl d_CA_solve_19 h1 ?_
    refine wm_iconst d_CA_solve_22 ?_
    refine wm_aload_n d_CA_solve_23 rfl rfl ?_
    refine gf_CA_70 rfl d_CA_solve_24 h1 ?_
    refine cf_CA_205 rfl d_CA_solve_27 h5 (Nat.le_of_ble_eq_true rfl) (Ci.mono h (fun x7 M6 h => ?_))
    obtain ⟨h8, hOM6, h⟩ := h
    refine wm_istore_n d_CA_solve_30 rfl (by decide) (L' := [vr a0, vi x7]) rfl ?_
    refine wm_iload_n d_CA_solve_31 rfl rfl ?_
    refine wm_if_ne (tgt := 46) d_CA_solve_32 rfl h8 (fun c12 => ?_) (fun c12 => ?_)
    · replace h := h.2 c12
      refine wm_iload_n d_CA_solve_46 rfl rfl ?_
      refine wm_ireturn d_CA_solve_47 rfl rfl ?_
      exact ⟨_, rfl, h⟩
    · replace c12 := Classical.not_not.mp c12
      replace h := h.1 c12
      obtain ⟨h13, h⟩ := h
      obtain ⟨h14, h⟩ := h
      refine wm_aload_n d_CA_solve_35 rfl rfl ?_
      refine gf_CA_63 rfl d_CA_solve_36 h13 ?_
      refine wm_aload_n d_CA_solve_39 rfl rfl ?_
      refine gf_CA_70 rfl d_CA_solve_40 h13 ?_
      refine cf_CA_209 rfl d_CA_solve_43 h14 (Nat.le_of_ble_eq_true rfl) (Cv.mono h (fun M15 h => ?_))
      obtain ⟨hOM15, h⟩ := h
      refine wm_iload_n d_CA_solve_46 rfl rfl ?_
      refine wm_ireturn d_CA_solve_47 rfl rfl ?_
      exact ⟨_, rfl, h⟩
  · replace c4 := Classical.not_not.mp c4
    replace h := h.1 c4
    exact h.elim
theorem d_CA_within_0 : decode y_CA_within.2.1 0 = .ok (.iload_n 1, 1) := dc9_27 (by decide +kernel)
theorem d_CA_within_1 : decode y_CA_within.2.1 1 = .ok (.ifCond .lt 9, 3) := dc9_155 (by decide +kernel)
theorem d_CA_within_4 : decode y_CA_within.2.1 4 = .ok (.iload_n 1, 1) := dc9_27 (by decide +kernel)
theorem d_CA_within_5 : decode y_CA_within.2.1 5 = .ok (.bipush 32, 2) := dc9_16 (by decide +kernel)
theorem d_CA_within_7 : decode y_CA_within.2.1 7 = .ok (.if_icmp .le 11, 3) := dc9_164 (by decide +kernel)
theorem d_CA_within_18 : decode y_CA_within.2.1 18 = .ok (.aload_n 0, 1) := dc9_42 (by decide +kernel)
theorem d_CA_within_19 : decode y_CA_within.2.1 19 = .ok (.getfield 54, 3) := dc9_180 (by decide +kernel)
theorem d_CA_within_22 : decode y_CA_within.2.1 22 = .ok (.getfield 160, 3) := dc9_180 (by decide +kernel)
theorem d_CA_within_25 : decode y_CA_within.2.1 25 = .ok (.ifCond .ne 11, 3) := dc9_154 (by decide +kernel)
theorem d_CA_within_36 : decode y_CA_within.2.1 36 = .ok (.aload_n 0, 1) := dc9_42 (by decide +kernel)
theorem d_CA_within_37 : decode y_CA_within.2.1 37 = .ok (.getfield 74, 3) := dc9_180 (by decide +kernel)
theorem d_CA_within_40 : decode y_CA_within.2.1 40 = .ok (.iconst 0, 1) := dc9_3 (by decide +kernel)
theorem d_CA_within_41 : decode y_CA_within.2.1 41 = .ok (.putfield 137, 3) := dc9_181 (by decide +kernel)
theorem d_CA_within_44 : decode y_CA_within.2.1 44 = .ok (.aload_n 0, 1) := dc9_42 (by decide +kernel)
theorem d_CA_within_45 : decode y_CA_within.2.1 45 = .ok (.getfield 74, 3) := dc9_180 (by decide +kernel)
theorem d_CA_within_48 : decode y_CA_within.2.1 48 = .ok (.aload_n 0, 1) := dc9_42 (by decide +kernel)
theorem d_CA_within_49 : decode y_CA_within.2.1 49 = .ok (.getfield 54, 3) := dc9_180 (by decide +kernel)
theorem d_CA_within_52 : decode y_CA_within.2.1 52 = .ok (.invokevirtual 213, 3) := dc9_182 (by decide +kernel)
theorem d_CA_within_55 : decode y_CA_within.2.1 55 = .ok (.iconst 0, 1) := dc9_3 (by decide +kernel)
theorem d_CA_within_56 : decode y_CA_within.2.1 56 = .ok (.istore_n 2, 1) := dc9_61 (by decide +kernel)
theorem d_CA_within_57 : decode y_CA_within.2.1 57 = .ok (.iload_n 2, 1) := dc9_28 (by decide +kernel)
theorem d_CA_within_58 : decode y_CA_within.2.1 58 = .ok (.iload_n 1, 1) := dc9_27 (by decide +kernel)
theorem d_CA_within_59 : decode y_CA_within.2.1 59 = .ok (.if_icmp .ge 52, 3) := dc9_162 (by decide +kernel)
theorem d_CA_within_111 : decode y_CA_within.2.1 111 = .ok (.aload_n 0, 1) := dc9_42 (by decide +kernel)
theorem d_CA_within_112 : decode y_CA_within.2.1 112 = .ok (.getfield 74, 3) := dc9_180 (by decide +kernel)
theorem d_CA_within_115 : decode y_CA_within.2.1 115 = .ok (.iconst 1, 1) := dc9_4 (by decide +kernel)
theorem d_CA_within_116 : decode y_CA_within.2.1 116 = .ok (.putfield 137, 3) := dc9_181 (by decide +kernel)
theorem d_CA_within_119 : decode y_CA_within.2.1 119 = .ok (.iconst 0, 1) := dc9_3 (by decide +kernel)
theorem d_CA_within_120 : decode y_CA_within.2.1 120 = .ok (.ireturn, 1) := dc9_172 (by decide +kernel)
theorem d_CA_within_62 : decode y_CA_within.2.1 62 = .ok (.aload_n 0, 1) := dc9_42 (by decide +kernel)
theorem d_CA_within_63 : decode y_CA_within.2.1 63 = .ok (.getfield 74, 3) := dc9_180 (by decide +kernel)
theorem d_CA_within_66 : decode y_CA_within.2.1 66 = .ok (.astore_n 3, 1) := dc9_78 (by decide +kernel)
theorem d_CA_within_67 : decode y_CA_within.2.1 67 = .ok (.aload_n 0, 1) := dc9_42 (by decide +kernel)
theorem d_CA_within_68 : decode y_CA_within.2.1 68 = .ok (.aload_n 0, 1) := dc9_42 (by decide +kernel)
theorem d_CA_within_69 : decode y_CA_within.2.1 69 = .ok (.getfield 77, 3) := dc9_180 (by decide +kernel)
theorem d_CA_within_72 : decode y_CA_within.2.1 72 = .ok (.putfield 74, 3) := dc9_181 (by decide +kernel)
theorem d_CA_within_75 : decode y_CA_within.2.1 75 = .ok (.aload_n 0, 1) := dc9_42 (by decide +kernel)
theorem d_CA_within_76 : decode y_CA_within.2.1 76 = .ok (.aload_n 3, 1) := dc9_45 (by decide +kernel)
theorem d_CA_within_77 : decode y_CA_within.2.1 77 = .ok (.putfield 77, 3) := dc9_181 (by decide +kernel)
theorem d_CA_within_80 : decode y_CA_within.2.1 80 = .ok (.aload_n 0, 1) := dc9_42 (by decide +kernel)
theorem d_CA_within_81 : decode y_CA_within.2.1 81 = .ok (.getfield 63, 3) := dc9_180 (by decide +kernel)
theorem d_CA_within_84 : decode y_CA_within.2.1 84 = .ok (.getfield 216, 3) := dc9_180 (by decide +kernel)
theorem d_CA_within_87 : decode y_CA_within.2.1 87 = .ok (.aload_n 0, 1) := dc9_42 (by decide +kernel)
theorem d_CA_within_88 : decode y_CA_within.2.1 88 = .ok (.getfield 54, 3) := dc9_180 (by decide +kernel)
theorem d_CA_within_91 : decode y_CA_within.2.1 91 = .ok (.aload_n 3, 1) := dc9_45 (by decide +kernel)
theorem d_CA_within_92 : decode y_CA_within.2.1 92 = .ok (.aload_n 0, 1) := dc9_42 (by decide +kernel)
theorem d_CA_within_93 : decode y_CA_within.2.1 93 = .ok (.getfield 74, 3) := dc9_180 (by decide +kernel)
theorem d_CA_within_96 : decode y_CA_within.2.1 96 = .ok (.invokevirtual 220, 3) := dc9_182 (by decide +kernel)
theorem d_CA_within_99 : decode y_CA_within.2.1 99 = .ok (.ifCond .ne 6, 3) := dc9_154 (by decide +kernel)
theorem d_CA_within_102 : decode y_CA_within.2.1 102 = .ok (.bipush 6, 2) := dc9_16 (by decide +kernel)
theorem d_CA_within_104 : decode y_CA_within.2.1 104 = .ok (.ireturn, 1) := dc9_172 (by decide +kernel)
theorem d_CA_within_105 : decode y_CA_within.2.1 105 = .ok (.iinc 2 1, 3) := by decide +kernel
theorem d_CA_within_108 : decode y_CA_within.2.1 108 = .ok (.goto (-51), 3) := dc9_167 (by decide +kernel)
def h_CA_within_57 (G : mG) (d : Nat) (a0 : Nat) (l1 : Int) (l2 : Int) (M : mM) (Q : Int → mM → Prop) : Prop := mWm G y_CA_within (d + 1) 57 [vr a0, vi l1, vi l2, vd] [] M (fun r9 M9 => ∃ x9, r9 = some (vi x9) ∧ Q x9 M9)
theorem k_CA_within {G : mG} {d : Nat} {a0 : Nat} {l1 : Int} {M : mM} {Q : Int → mM → Prop} (hO : mOk M) (hi_l1 : i32 l1)
    (h : (((l1 < 0) ∨ (¬ (l1 ≤ 32))) → (False)) ∧ (¬ ((l1 < 0) ∨ (¬ (l1 ≤ 32))) → (mK M a0 = 1 ∧ mK M (mR M a0 9) = 7 ∧ ((mI M (mR M a0 9) 0 = 0) → (False)) ∧ (¬ (mI M (mR M a0 9) 0 = 0) → (mK M (mR M a0 12) = 13 ∧ ∀ M14, M14 = mUI M (mR M a0 12) 1 0 → mK M14 (mR M14 a0 12) = 13 ∧ Cv G y_Fs_begin d [vr (mR M14 a0 12), vr (mR M14 a0 9)] M14 (fun M17 => mOk M17 ∧ (h_CA_within_57 G d a0 l1 0 M17 Q))))))) :
    Ci G y_CA_within (d + 1) [vr a0, vi l1] M Q := by
  refine wm_open (y := y_CA_within) rfl (Nat.le_of_ble_eq_true rfl) (L := [vr a0, vi l1, vd, vd]) rfl ?_
  refine wm_iload_n d_CA_within_0 rfl rfl ?_
  have hE0 : ((l1 < 0) ∨ (¬ (l1 ≤ 32))) → mWm G y_CA_within (d + 1) 10 [vr a0, vi l1, vd, vd] [] M (fun r9 M9 => ∃ x9, r9 = some (vi x9) ∧ Q x9 M9) := by
    intro q7
    have h := h.1 q7
    exact h.elim
  have hE1 : ¬ ((l1 < 0) ∨ (¬ (l1 ≤ 32))) → mWm G y_CA_within (d + 1) 18 [vr a0, vi l1, vd, vd] [] M (fun r9 M9 => ∃ x9, r9 = some (vi x9) ∧ Q x9 M9) := by
    intro q8
    have h := h.2 q8
    obtain ⟨h9, h⟩ := h
    obtain ⟨h10, h⟩ := h
    refine wm_aload_n d_CA_within_18 rfl rfl ?_
    refine gf_CA_54 rfl d_CA_within_19 h9 ?_
    refine gf_CA_160 rfl d_CA_within_22 h10 ?_
    refine wm_if_ne (tgt := 36) d_CA_within_25 rfl (hO _ _).1 (fun c12 => ?_) (fun c12 => ?_)
    · replace h := h.2 c12
      obtain ⟨h13, h⟩ := h
      obtain ⟨M14, e15⟩ : ∃ M14, M14 = mUI M (mR M a0 12) 1 0 := ⟨_, rfl⟩
      replace h := h M14 e15
      obtain ⟨h16, h⟩ := h
      refine wm_aload_n d_CA_within_36 rfl rfl ?_
      refine gf_CA_74 rfl d_CA_within_37 h9 ?_
      refine wm_iconst d_CA_within_40 ?_
      have hOM14 : mOk M14 := by rw [e15]; exact mOk_UI hO (m_b32 (by decide))
      refine pf_CA_137 rfl d_CA_within_41 h13 (by decide) e15 ?_
      refine wm_aload_n d_CA_within_44 rfl rfl ?_
      refine gf_CA_74 rfl d_CA_within_45 (by rw [e15]; exact h9) ?_
      refine wm_aload_n d_CA_within_48 rfl rfl ?_
      refine gf_CA_54 rfl d_CA_within_49 (by rw [e15]; exact h9) ?_
      refine cf_CA_213 rfl d_CA_within_52 h16 (Nat.le_of_ble_eq_true rfl) (Cv.mono h (fun M17 h => ?_))
      obtain ⟨hOM17, h⟩ := h
      refine wm_iconst d_CA_within_55 ?_
      refine wm_istore_n d_CA_within_56 rfl (by decide) (L' := [vr a0, vi l1, vi 0, vd]) rfl ?_
      exact h
    · replace c12 := Classical.not_not.mp c12
      replace h := h.1 c12
      exact h.elim
  clear h
  refine wm_if_lt (tgt := 10) d_CA_within_1 rfl hi_l1 (fun c5 => ?_) (fun c5 => ?_)
  · exact hE0 (Or.inl c5)
  · refine wm_iload_n d_CA_within_4 rfl rfl ?_
    refine wm_bipush d_CA_within_5 (by decide) ?_
    refine wm_icmp_le (tgt := 18) d_CA_within_7 rfl hi_l1 ⟨by decide, by decide⟩ (fun c4 => ?_) (fun c4 => ?_)
    · exact hE1 (fun z20 => Or.elim z20 c5 (fun z21 => z21 c4))
    · exact hE0 (Or.inr c4)
theorem k_CA_within_57 {G : mG} {d : Nat} {a0 : Nat} {l1 : Int} {l2 : Int} {M : mM} {Q : Int → mM → Prop} (hO : mOk M) (hi_l1 : i32 l1) (hi_l2 : i32 l2)
    (h : ((l1 ≤ l2) → (mK M a0 = 1 ∧ mK M (mR M a0 12) = 13 ∧ ∀ M28, M28 = mUI M (mR M a0 12) 1 1 → Q 0 M28)) ∧ (¬ (l1 ≤ l2) → (mK M a0 = 1 ∧ ∀ M31, M31 = mUR M a0 12 (mR M a0 13) → ∀ M33, M33 = mUR M31 a0 13 (mR M a0 12) → mK M33 (mR M33 a0 10) = 8 ∧ mK M33 (mR M33 (mR M33 a0 10) 0) = 9 ∧ Ci G y_Sc_move d [vr (mR M33 (mR M33 a0 10) 0), vr (mR M33 a0 9), vr (mR M a0 12), vr (mR M33 a0 12)] M33 (fun x38 M37 => i32 x38 ∧ mOk M37 ∧ (((x38 = 0) → (Q 6 M37)) ∧ (¬ (x38 = 0) → (h_CA_within_57 G d a0 l1 (l2 + 1) M37 Q))))))) :
    h_CA_within_57 G d a0 l1 l2 M Q := by
  unfold h_CA_within_57
  refine wm_iload_n d_CA_within_57 rfl rfl ?_
  refine wm_iload_n d_CA_within_58 rfl rfl ?_
  refine wm_icmp_ge (tgt := 111) d_CA_within_59 rfl hi_l2 hi_l1 (fun c25 => ?_) (fun c25 => ?_)
  · replace h := h.1 c25
    obtain ⟨h26, h⟩ := h
    obtain ⟨h27, h⟩ := h
    obtain ⟨M28, e29⟩ : ∃ M28, M28 = mUI M (mR M a0 12) 1 1 := ⟨_, rfl⟩
    replace h := h M28 e29
    refine wm_aload_n d_CA_within_111 rfl rfl ?_
    refine gf_CA_74 rfl d_CA_within_112 h26 ?_
    refine wm_iconst d_CA_within_115 ?_
    have hOM28 : mOk M28 := by rw [e29]; exact mOk_UI hO (m_b32 (by decide))
    refine pf_CA_137 rfl d_CA_within_116 h27 (by decide) e29 ?_
    refine wm_iconst d_CA_within_119 ?_
    refine wm_ireturn d_CA_within_120 rfl rfl ?_
    exact ⟨_, rfl, h⟩
  · replace h := h.2 c25
    obtain ⟨h30, h⟩ := h
    obtain ⟨M31, e32⟩ : ∃ M31, M31 = mUR M a0 12 (mR M a0 13) := ⟨_, rfl⟩
    replace h := h M31 e32
    obtain ⟨M33, e34⟩ : ∃ M33, M33 = mUR M31 a0 13 (mR M a0 12) := ⟨_, rfl⟩
    replace h := h M33 e34
    obtain ⟨h35, h⟩ := h
    obtain ⟨h36, h⟩ := h
    refine wm_aload_n d_CA_within_62 rfl rfl ?_
    refine gf_CA_74 rfl d_CA_within_63 h30 ?_
    refine wm_astore_n d_CA_within_66 rfl (by decide) (L' := [vr a0, vi l1, vi l2, vr (mR M a0 12)]) rfl ?_
    refine wm_aload_n d_CA_within_67 rfl rfl ?_
    refine wm_aload_n d_CA_within_68 rfl rfl ?_
    refine gf_CA_77 rfl d_CA_within_69 h30 ?_
    have hOM31 : mOk M31 := by rw [e32]; exact mOk_UR hO
    refine pf_CA_74 rfl d_CA_within_72 h30 e32 ?_
    refine wm_aload_n d_CA_within_75 rfl rfl ?_
    refine wm_aload_n d_CA_within_76 rfl rfl ?_
    have hOM33 : mOk M33 := by rw [e34]; exact mOk_UR hOM31
    refine pf_CA_77 rfl d_CA_within_77 (by rw [e32]; exact h30) e34 ?_
    refine wm_aload_n d_CA_within_80 rfl rfl ?_
    refine gf_CA_63 rfl d_CA_within_81 (by rw [e34, e32]; exact h30) ?_
    refine gf_CA_216 rfl d_CA_within_84 h35 ?_
    refine wm_aload_n d_CA_within_87 rfl rfl ?_
    refine gf_CA_54 rfl d_CA_within_88 (by rw [e34, e32]; exact h30) ?_
    refine wm_aload_n d_CA_within_91 rfl rfl ?_
    refine wm_aload_n d_CA_within_92 rfl rfl ?_
    refine gf_CA_74 rfl d_CA_within_93 (by rw [e34, e32]; exact h30) ?_
    refine cf_CA_220 rfl d_CA_within_96 h36 (Nat.le_of_ble_eq_true rfl) (Ci.mono h (fun x38 M37 h => ?_))
    obtain ⟨h39, hOM37, h⟩ := h
    refine wm_if_ne (tgt := 105) d_CA_within_99 rfl h39 (fun c41 => ?_) (fun c41 => ?_)
    · replace h := h.2 c41
      refine wm_iinc d_CA_within_105 (by decide) rfl (L' := [vr a0, vi l1, vi (l2 + 1), vr (mR M a0 12)]) rfl ?_
      refine wm_goto (tgt := 57) d_CA_within_108 rfl ?_
      refine wm_less (L' := [vr a0, vi l1, vi (l2 + 1), vd]) ⟨Or.inr rfl, Or.inr rfl, Or.inr rfl, Or.inl rfl, trivial⟩ ?_
      exact h
    · replace c41 := Classical.not_not.mp c41
      replace h := h.1 c41
      refine wm_bipush d_CA_within_102 (by decide) ?_
      refine wm_ireturn d_CA_within_104 rfl rfl ?_
      exact ⟨_, rfl, h⟩
theorem d_CA_choose_0 : decode y_CA_choose.2.1 0 = .ok (.aload_n 0, 1) := dc9_42 (by decide +kernel)
theorem d_CA_choose_1 : decode y_CA_choose.2.1 1 = .ok (.getfield 54, 3) := dc9_180 (by decide +kernel)
theorem d_CA_choose_4 : decode y_CA_choose.2.1 4 = .ok (.iload_n 1, 1) := dc9_27 (by decide +kernel)
theorem d_CA_choose_5 : decode y_CA_choose.2.1 5 = .ok (.iload_n 2, 1) := dc9_28 (by decide +kernel)
theorem d_CA_choose_6 : decode y_CA_choose.2.1 6 = .ok (.invokevirtual 180, 3) := dc9_182 (by decide +kernel)
theorem d_CA_choose_9 : decode y_CA_choose.2.1 9 = .ok (.iconst (-1), 1) := dc9_2 (by decide +kernel)
theorem d_CA_choose_10 : decode y_CA_choose.2.1 10 = .ok (.if_icmp .ne 11, 3) := dc9_160 (by decide +kernel)
theorem d_CA_choose_21 : decode y_CA_choose.2.1 21 = .ok (.aload_n 0, 1) := dc9_42 (by decide +kernel)
theorem d_CA_choose_22 : decode y_CA_choose.2.1 22 = .ok (.getfield 54, 3) := dc9_180 (by decide +kernel)
theorem d_CA_choose_25 : decode y_CA_choose.2.1 25 = .ok (.getfield 226, 3) := dc9_180 (by decide +kernel)
theorem d_CA_choose_28 : decode y_CA_choose.2.1 28 = .ok (.iload_n 1, 1) := dc9_27 (by decide +kernel)
theorem d_CA_choose_29 : decode y_CA_choose.2.1 29 = .ok (.iload_n 2, 1) := dc9_28 (by decide +kernel)
theorem d_CA_choose_30 : decode y_CA_choose.2.1 30 = .ok (.iastore, 1) := dc9_79 (by decide +kernel)
theorem d_CA_choose_31 : decode y_CA_choose.2.1 31 = .ok (.return_, 1) := dc9_177 (by decide +kernel)
theorem k_CA_choose {G : mG} {d : Nat} {a0 : Nat} {l1 : Int} {l2 : Int} {M : mM} {Q : mM → Prop} (hO : mOk M) (hi_l1 : i32 l1) (hi_l2 : i32 l2)
    (h : mK M a0 = 1 ∧ mK M (mR M a0 9) = 7 ∧ Ci G y_Ga_commandAt d [vr (mR M a0 9), vi l1, vi l2] M (fun x4 M3 => i32 x4 ∧ mOk M3 ∧ (((x4 = (-1)) → (False)) ∧ (¬ (x4 = (-1)) → (mK M3 a0 = 1 ∧ mK M3 (mR M3 a0 9) = 7 ∧ mK M3 (mR M3 (mR M3 a0 9) 3) = 30 ∧ ((0 : Int) ≤ l1 ∧ l1 < (mN M3 (mR M3 (mR M3 a0 9) 3) : Int)) ∧ ∀ M16, M16 = mUI M3 (mR M3 (mR M3 a0 9) 3) (Int.toNat l1) l2 → Q M16))))) :
    Cv G y_CA_choose (d + 1) [vr a0, vi l1, vi l2] M Q := by
  refine wm_open (y := y_CA_choose) rfl (Nat.le_of_ble_eq_true rfl) (L := [vr a0, vi l1, vi l2]) rfl ?_
  obtain ⟨h1, h⟩ := h
  obtain ⟨h2, h⟩ := h
  refine wm_aload_n d_CA_choose_0 rfl rfl ?_
  refine gf_CA_54 rfl d_CA_choose_1 h1 ?_
  refine wm_iload_n d_CA_choose_4 rfl rfl ?_
  refine wm_iload_n d_CA_choose_5 rfl rfl ?_
  refine cf_CA_180 rfl d_CA_choose_6 h2 (Nat.le_of_ble_eq_true rfl) (Ci.mono h (fun x4 M3 h => ?_))
  obtain ⟨h5, hOM3, h⟩ := h
  refine wm_iconst d_CA_choose_9 ?_
  refine wm_icmp_ne (tgt := 21) d_CA_choose_10 rfl h5 ⟨by decide, by decide⟩ (fun c11 => ?_) (fun c11 => ?_)
  · replace h := h.2 c11
    obtain ⟨h12, h⟩ := h
    obtain ⟨h13, h⟩ := h
    obtain ⟨h14, h⟩ := h
    obtain ⟨h15, h⟩ := h
    obtain ⟨M16, e17⟩ : ∃ M16, M16 = mUI M3 (mR M3 (mR M3 a0 9) 3) (Int.toNat l1) l2 := ⟨_, rfl⟩
    replace h := h M16 e17
    refine wm_aload_n d_CA_choose_21 rfl rfl ?_
    refine gf_CA_54 rfl d_CA_choose_22 h12 ?_
    refine gf_CA_226 rfl d_CA_choose_25 h13 ?_
    refine wm_iload_n d_CA_choose_28 rfl rfl ?_
    refine wm_iload_n d_CA_choose_29 rfl rfl ?_
    have hOM16 : mOk M16 := by rw [e17]; exact mOk_UI hOM3 hi_l2
    refine wm_iastE d_CA_choose_30 h14 h15 hi_l2 e17 ?_
    refine wm_return d_CA_choose_31 rfl ?_
    exact ⟨rfl, h⟩
  · replace c11 := Classical.not_not.mp c11
    replace h := h.1 c11
    exact h.elim
theorem d_CA_adopt_0 : decode y_CA_adopt.2.1 0 = .ok (.aload_n 0, 1) := dc9_42 (by decide +kernel)
theorem d_CA_adopt_1 : decode y_CA_adopt.2.1 1 = .ok (.getfield 70, 3) := dc9_180 (by decide +kernel)
theorem d_CA_adopt_4 : decode y_CA_adopt.2.1 4 = .ok (.getfield 137, 3) := dc9_180 (by decide +kernel)
theorem d_CA_adopt_7 : decode y_CA_adopt.2.1 7 = .ok (.ifCond .ne 11, 3) := dc9_154 (by decide +kernel)
theorem d_CA_adopt_18 : decode y_CA_adopt.2.1 18 = .ok (.iconst 0, 1) := dc9_3 (by decide +kernel)
theorem d_CA_adopt_19 : decode y_CA_adopt.2.1 19 = .ok (.istore_n 1, 1) := dc9_60 (by decide +kernel)
theorem d_CA_adopt_20 : decode y_CA_adopt.2.1 20 = .ok (.iload_n 1, 1) := dc9_27 (by decide +kernel)
theorem d_CA_adopt_21 : decode y_CA_adopt.2.1 21 = .ok (.aload_n 0, 1) := dc9_42 (by decide +kernel)
theorem d_CA_adopt_22 : decode y_CA_adopt.2.1 22 = .ok (.getfield 54, 3) := dc9_180 (by decide +kernel)
theorem d_CA_adopt_25 : decode y_CA_adopt.2.1 25 = .ok (.getfield 160, 3) := dc9_180 (by decide +kernel)
theorem d_CA_adopt_28 : decode y_CA_adopt.2.1 28 = .ok (.if_icmp .ge 31, 3) := dc9_162 (by decide +kernel)
theorem d_CA_adopt_59 : decode y_CA_adopt.2.1 59 = .ok (.return_, 1) := dc9_177 (by decide +kernel)
theorem d_CA_adopt_31 : decode y_CA_adopt.2.1 31 = .ok (.aload_n 0, 1) := dc9_42 (by decide +kernel)
theorem d_CA_adopt_32 : decode y_CA_adopt.2.1 32 = .ok (.getfield 54, 3) := dc9_180 (by decide +kernel)
theorem d_CA_adopt_35 : decode y_CA_adopt.2.1 35 = .ok (.getfield 226, 3) := dc9_180 (by decide +kernel)
theorem d_CA_adopt_38 : decode y_CA_adopt.2.1 38 = .ok (.iload_n 1, 1) := dc9_27 (by decide +kernel)
theorem d_CA_adopt_39 : decode y_CA_adopt.2.1 39 = .ok (.aload_n 0, 1) := dc9_42 (by decide +kernel)
theorem d_CA_adopt_40 : decode y_CA_adopt.2.1 40 = .ok (.getfield 63, 3) := dc9_180 (by decide +kernel)
theorem d_CA_adopt_43 : decode y_CA_adopt.2.1 43 = .ok (.getfield 229, 3) := dc9_180 (by decide +kernel)
theorem d_CA_adopt_46 : decode y_CA_adopt.2.1 46 = .ok (.iload_n 1, 1) := dc9_27 (by decide +kernel)
theorem d_CA_adopt_47 : decode y_CA_adopt.2.1 47 = .ok (.iaload, 1) := dc9_46 (by decide +kernel)
theorem d_CA_adopt_48 : decode y_CA_adopt.2.1 48 = .ok (.iconst 0, 1) := dc9_3 (by decide +kernel)
theorem d_CA_adopt_49 : decode y_CA_adopt.2.1 49 = .ok (.invokestatic 232, 3) := dc9_184 (by decide +kernel)
theorem d_CA_adopt_52 : decode y_CA_adopt.2.1 52 = .ok (.iastore, 1) := dc9_79 (by decide +kernel)
theorem d_CA_adopt_53 : decode y_CA_adopt.2.1 53 = .ok (.iinc 1 1, 3) := by decide +kernel
theorem d_CA_adopt_56 : decode y_CA_adopt.2.1 56 = .ok (.goto (-36), 3) := dc9_167 (by decide +kernel)
def h_CA_adopt_20 (G : mG) (d : Nat) (a0 : Nat) (l1 : Int) (M : mM) (Q : mM → Prop) : Prop := mWm G y_CA_adopt (d + 1) 20 [vr a0, vi l1] [] M (fun r9 M9 => r9 = none ∧ Q M9)
theorem k_CA_adopt {G : mG} {d : Nat} {a0 : Nat} {M : mM} {Q : mM → Prop} (hO : mOk M)
    (h : mK M a0 = 1 ∧ mK M (mR M a0 11) = 13 ∧ ((mI M (mR M a0 11) 1 = 0) → (False)) ∧ (¬ (mI M (mR M a0 11) 1 = 0) → (h_CA_adopt_20 G d a0 0 M Q))) :
    Cv G y_CA_adopt (d + 1) [vr a0] M Q := by
  refine wm_open (y := y_CA_adopt) rfl (Nat.le_of_ble_eq_true rfl) (L := [vr a0, vd]) rfl ?_
  obtain ⟨h1, h⟩ := h
  obtain ⟨h2, h⟩ := h
  refine wm_aload_n d_CA_adopt_0 rfl rfl ?_
  refine gf_CA_70 rfl d_CA_adopt_1 h1 ?_
  refine gf_CA_137 rfl d_CA_adopt_4 h2 ?_
  refine wm_if_ne (tgt := 18) d_CA_adopt_7 rfl (hO _ _).1 (fun c4 => ?_) (fun c4 => ?_)
  · replace h := h.2 c4
    refine wm_iconst d_CA_adopt_18 ?_
    refine wm_istore_n d_CA_adopt_19 rfl (by decide) (L' := [vr a0, vi 0]) rfl ?_
    exact h
  · replace c4 := Classical.not_not.mp c4
    replace h := h.1 c4
    exact h.elim
theorem k_CA_adopt_20 {G : mG} {d : Nat} {a0 : Nat} {l1 : Int} {M : mM} {Q : mM → Prop} (hO : mOk M) (hi_l1 : i32 l1)
    (h : mK M a0 = 1 ∧ mK M (mR M a0 9) = 7 ∧ ((mI M (mR M a0 9) 0 ≤ l1) → (Q M)) ∧ (¬ (mI M (mR M a0 9) 0 ≤ l1) → (mK M (mR M a0 10) = 8 ∧ mK M (mR M (mR M a0 10) 2) = 30 ∧ ((0 : Int) ≤ l1 ∧ l1 < (mN M (mR M (mR M a0 10) 2) : Int)) ∧ mK M (mR M (mR M a0 9) 3) = 30 ∧ ((0 : Int) ≤ l1 ∧ l1 < (mN M (mR M (mR M a0 9) 3) : Int)) ∧ ∀ M19, M19 = mUI M (mR M (mR M a0 9) 3) (Int.toNat l1) (if mI M (mR M (mR M a0 10) 2) (Int.toNat l1) < 0 then 0 else mI M (mR M (mR M a0 10) 2) (Int.toNat l1)) → h_CA_adopt_20 G d a0 (l1 + 1) M19 Q))) :
    h_CA_adopt_20 G d a0 l1 M Q := by
  unfold h_CA_adopt_20
  obtain ⟨h5, h⟩ := h
  obtain ⟨h6, h⟩ := h
  refine wm_iload_n d_CA_adopt_20 rfl rfl ?_
  refine wm_aload_n d_CA_adopt_21 rfl rfl ?_
  refine gf_CA_54 rfl d_CA_adopt_22 h5 ?_
  refine gf_CA_160 rfl d_CA_adopt_25 h6 ?_
  refine wm_icmp_ge (tgt := 59) d_CA_adopt_28 rfl hi_l1 (hO _ _).1 (fun c13 => ?_) (fun c13 => ?_)
  · replace h := h.1 c13
    refine wm_return d_CA_adopt_59 rfl ?_
    exact ⟨rfl, h⟩
  · replace h := h.2 c13
    obtain ⟨h14, h⟩ := h
    obtain ⟨h15, h⟩ := h
    obtain ⟨h16, h⟩ := h
    obtain ⟨h17, h⟩ := h
    obtain ⟨h18, h⟩ := h
    obtain ⟨M19, e20⟩ : ∃ M19, M19 = mUI M (mR M (mR M a0 9) 3) (Int.toNat l1) (if mI M (mR M (mR M a0 10) 2) (Int.toNat l1) < 0 then 0 else mI M (mR M (mR M a0 10) 2) (Int.toNat l1)) := ⟨_, rfl⟩
    replace h := h M19 e20
    refine wm_aload_n d_CA_adopt_31 rfl rfl ?_
    refine gf_CA_54 rfl d_CA_adopt_32 h5 ?_
    refine gf_CA_226 rfl d_CA_adopt_35 h6 ?_
    refine wm_iload_n d_CA_adopt_38 rfl rfl ?_
    refine wm_aload_n d_CA_adopt_39 rfl rfl ?_
    refine gf_CA_63 rfl d_CA_adopt_40 h5 ?_
    refine gf_CA_229 rfl d_CA_adopt_43 h14 ?_
    refine wm_iload_n d_CA_adopt_46 rfl rfl ?_
    refine wm_iald d_CA_adopt_47 h15 h16 ?_
    refine wm_iconst d_CA_adopt_48 ?_
    refine wm_mmax k8_226 (Nat.le_of_ble_eq_true rfl) (hO _ _).1 ⟨by decide, by decide⟩ d_CA_adopt_49 ?_
    have hOM19 : mOk M19 := by rw [e20]; exact mOk_UI hO (m_ite32 ⟨by decide, by decide⟩ (hO _ _).1)
    refine wm_iastE d_CA_adopt_52 h17 h18 (m_ite32 ⟨by decide, by decide⟩ (hO _ _).1) e20 ?_
    refine wm_iinc d_CA_adopt_53 (by decide) rfl (L' := [vr a0, vi (l1 + 1)]) rfl ?_
    refine wm_goto (tgt := 20) d_CA_adopt_56 rfl ?_
    exact h
theorem d_CA_judge_0 : decode y_CA_judge.2.1 0 = .ok (.iload_n 1, 1) := dc9_27 (by decide +kernel)
theorem d_CA_judge_1 : decode y_CA_judge.2.1 1 = .ok (.iconst 1, 1) := dc9_4 (by decide +kernel)
theorem d_CA_judge_2 : decode y_CA_judge.2.1 2 = .ok (.if_icmp .eq 16, 3) := dc9_159 (by decide +kernel)
theorem d_CA_judge_5 : decode y_CA_judge.2.1 5 = .ok (.iload_n 1, 1) := dc9_27 (by decide +kernel)
theorem d_CA_judge_6 : decode y_CA_judge.2.1 6 = .ok (.iconst 2, 1) := dc9_5 (by decide +kernel)
theorem d_CA_judge_7 : decode y_CA_judge.2.1 7 = .ok (.if_icmp .eq 11, 3) := dc9_159 (by decide +kernel)
theorem d_CA_judge_18 : decode y_CA_judge.2.1 18 = .ok (.aload_n 0, 1) := dc9_42 (by decide +kernel)
theorem d_CA_judge_19 : decode y_CA_judge.2.1 19 = .ok (.getfield 54, 3) := dc9_180 (by decide +kernel)
theorem d_CA_judge_22 : decode y_CA_judge.2.1 22 = .ok (.getfield 160, 3) := dc9_180 (by decide +kernel)
theorem d_CA_judge_25 : decode y_CA_judge.2.1 25 = .ok (.ifCond .ne 11, 3) := dc9_154 (by decide +kernel)
theorem d_CA_judge_36 : decode y_CA_judge.2.1 36 = .ok (.aload_n 0, 1) := dc9_42 (by decide +kernel)
theorem d_CA_judge_37 : decode y_CA_judge.2.1 37 = .ok (.getfield 63, 3) := dc9_180 (by decide +kernel)
theorem d_CA_judge_40 : decode y_CA_judge.2.1 40 = .ok (.iload_n 1, 1) := dc9_27 (by decide +kernel)
theorem d_CA_judge_41 : decode y_CA_judge.2.1 41 = .ok (.aload_n 0, 1) := dc9_42 (by decide +kernel)
theorem d_CA_judge_42 : decode y_CA_judge.2.1 42 = .ok (.getfield 80, 3) := dc9_180 (by decide +kernel)
theorem d_CA_judge_45 : decode y_CA_judge.2.1 45 = .ok (.invokevirtual 205, 3) := dc9_182 (by decide +kernel)
theorem d_CA_judge_48 : decode y_CA_judge.2.1 48 = .ok (.ireturn, 1) := dc9_172 (by decide +kernel)
theorem k_CA_judge {G : mG} {d : Nat} {a0 : Nat} {l1 : Int} {M : mM} {Q : Int → mM → Prop} (hO : mOk M) (hi_l1 : i32 l1)
    (h : (((l1 = 1) ∨ (l1 = 2)) → (mK M a0 = 1 ∧ mK M (mR M a0 9) = 7 ∧ ((mI M (mR M a0 9) 0 = 0) → (False)) ∧ (¬ (mI M (mR M a0 9) 0 = 0) → (mK M (mR M a0 10) = 8 ∧ Ci G y_So_workOut d [vr (mR M a0 10), vi l1, vr (mR M a0 14)] M (fun x11 M10 => i32 x11 ∧ mOk M10 ∧ (Q x11 M10)))))) ∧ (¬ ((l1 = 1) ∨ (l1 = 2)) → (False))) :
    Ci G y_CA_judge (d + 1) [vr a0, vi l1] M Q := by
  refine wm_open (y := y_CA_judge) rfl (Nat.le_of_ble_eq_true rfl) (L := [vr a0, vi l1]) rfl ?_
  refine wm_iload_n d_CA_judge_0 rfl rfl ?_
  refine wm_iconst d_CA_judge_1 ?_
  have hE0 : ((l1 = 1) ∨ (l1 = 2)) → mWm G y_CA_judge (d + 1) 18 [vr a0, vi l1] [] M (fun r9 M9 => ∃ x9, r9 = some (vi x9) ∧ Q x9 M9) := by
    intro q4
    have h := h.1 q4
    obtain ⟨h5, h⟩ := h
    obtain ⟨h6, h⟩ := h
    refine wm_aload_n d_CA_judge_18 rfl rfl ?_
    refine gf_CA_54 rfl d_CA_judge_19 h5 ?_
    refine gf_CA_160 rfl d_CA_judge_22 h6 ?_
    refine wm_if_ne (tgt := 36) d_CA_judge_25 rfl (hO _ _).1 (fun c8 => ?_) (fun c8 => ?_)
    · replace h := h.2 c8
      obtain ⟨h9, h⟩ := h
      refine wm_aload_n d_CA_judge_36 rfl rfl ?_
      refine gf_CA_63 rfl d_CA_judge_37 h5 ?_
      refine wm_iload_n d_CA_judge_40 rfl rfl ?_
      refine wm_aload_n d_CA_judge_41 rfl rfl ?_
      refine gf_CA_80 rfl d_CA_judge_42 h5 ?_
      refine cf_CA_205 rfl d_CA_judge_45 h9 (Nat.le_of_ble_eq_true rfl) (Ci.mono h (fun x11 M10 h => ?_))
      obtain ⟨h12, hOM10, h⟩ := h
      refine wm_ireturn d_CA_judge_48 rfl rfl ?_
      exact ⟨_, rfl, h⟩
    · replace c8 := Classical.not_not.mp c8
      replace h := h.1 c8
      exact h.elim
  have hE1 : ¬ ((l1 = 1) ∨ (l1 = 2)) → mWm G y_CA_judge (d + 1) 10 [vr a0, vi l1] [] M (fun r9 M9 => ∃ x9, r9 = some (vi x9) ∧ Q x9 M9) := by
    intro q13
    have h := h.2 q13
    exact h.elim
  clear h
  refine wm_icmp_eq (tgt := 18) d_CA_judge_2 rfl hi_l1 ⟨by decide, by decide⟩ (fun c2 => ?_) (fun c2 => ?_)
  · exact hE0 (Or.inl c2)
  · refine wm_iload_n d_CA_judge_5 rfl rfl ?_
    refine wm_iconst d_CA_judge_6 ?_
    refine wm_icmp_eq (tgt := 18) d_CA_judge_7 rfl hi_l1 ⟨by decide, by decide⟩ (fun c1 => ?_) (fun c1 => ?_)
    · exact hE0 (Or.inr c1)
    · exact hE1 (fun z14 => Or.elim z14 c2 c1)
end
section
theorem d_CA_print_0 : decode y_CA_print.2.1 0 = .ok (.aload_n 0, 1) := dc9_42 (by decide +kernel)
theorem d_CA_print_1 : decode y_CA_print.2.1 1 = .ok (.iload_n 1, 1) := dc9_27 (by decide +kernel)
theorem d_CA_print_2 : decode y_CA_print.2.1 2 = .ok (.iload_n 2, 1) := dc9_28 (by decide +kernel)
theorem d_CA_print_3 : decode y_CA_print.2.1 3 = .ok (.invokevirtual 237, 3) := dc9_182 (by decide +kernel)
theorem d_CA_print_6 : decode y_CA_print.2.1 6 = .ok (.astore_n 3, 1) := dc9_78 (by decide +kernel)
theorem d_CA_print_7 : decode y_CA_print.2.1 7 = .ok (.aload_n 3, 1) := dc9_45 (by decide +kernel)
theorem d_CA_print_8 : decode y_CA_print.2.1 8 = .ok (.ifnonnull 5, 3) := dc9_199 (by decide +kernel)
theorem d_CA_print_11 : decode y_CA_print.2.1 11 = .ok (.iconst (-1), 1) := dc9_2 (by decide +kernel)
theorem d_CA_print_12 : decode y_CA_print.2.1 12 = .ok (.ireturn, 1) := dc9_172 (by decide +kernel)
theorem d_CA_print_13 : decode y_CA_print.2.1 13 = .ok (.aload_n 0, 1) := dc9_42 (by decide +kernel)
theorem d_CA_print_14 : decode y_CA_print.2.1 14 = .ok (.getfield 93, 3) := dc9_180 (by decide +kernel)
theorem d_CA_print_17 : decode y_CA_print.2.1 17 = .ok (.aload_n 3, 1) := dc9_45 (by decide +kernel)
theorem d_CA_print_18 : decode y_CA_print.2.1 18 = .ok (.invokevirtual 241, 3) := dc9_182 (by decide +kernel)
theorem d_CA_print_21 : decode y_CA_print.2.1 21 = .ok (.aload_n 0, 1) := dc9_42 (by decide +kernel)
theorem d_CA_print_22 : decode y_CA_print.2.1 22 = .ok (.getfield 63, 3) := dc9_180 (by decide +kernel)
theorem d_CA_print_25 : decode y_CA_print.2.1 25 = .ok (.getfield 216, 3) := dc9_180 (by decide +kernel)
theorem d_CA_print_28 : decode y_CA_print.2.1 28 = .ok (.aload_n 0, 1) := dc9_42 (by decide +kernel)
theorem d_CA_print_29 : decode y_CA_print.2.1 29 = .ok (.getfield 93, 3) := dc9_180 (by decide +kernel)
theorem d_CA_print_32 : decode y_CA_print.2.1 32 = .ok (.invokevirtual 245, 3) := dc9_182 (by decide +kernel)
theorem d_CA_print_35 : decode y_CA_print.2.1 35 = .ok (.aload_n 0, 1) := dc9_42 (by decide +kernel)
theorem d_CA_print_36 : decode y_CA_print.2.1 36 = .ok (.iconst 0, 1) := dc9_3 (by decide +kernel)
theorem d_CA_print_37 : decode y_CA_print.2.1 37 = .ok (.putfield 100, 3) := dc9_181 (by decide +kernel)
theorem d_CA_print_40 : decode y_CA_print.2.1 40 = .ok (.aload_n 0, 1) := dc9_42 (by decide +kernel)
theorem d_CA_print_41 : decode y_CA_print.2.1 41 = .ok (.aload_n 0, 1) := dc9_42 (by decide +kernel)
theorem d_CA_print_42 : decode y_CA_print.2.1 42 = .ok (.getfield 93, 3) := dc9_180 (by decide +kernel)
theorem d_CA_print_45 : decode y_CA_print.2.1 45 = .ok (.getfield 248, 3) := dc9_180 (by decide +kernel)
theorem d_CA_print_48 : decode y_CA_print.2.1 48 = .ok (.invokevirtual 251, 3) := dc9_182 (by decide +kernel)
theorem d_CA_print_51 : decode y_CA_print.2.1 51 = .ok (.aload_n 0, 1) := dc9_42 (by decide +kernel)
theorem d_CA_print_52 : decode y_CA_print.2.1 52 = .ok (.getfield 93, 3) := dc9_180 (by decide +kernel)
theorem d_CA_print_55 : decode y_CA_print.2.1 55 = .ok (.getfield 255, 3) := dc9_180 (by decide +kernel)
theorem d_CA_print_58 : decode y_CA_print.2.1 58 = .ok (.invokevirtual 258, 3) := dc9_182 (by decide +kernel)
theorem d_CA_print_61 : decode y_CA_print.2.1 61 = .ok (.ifCond .ne 32, 3) := dc9_154 (by decide +kernel)
theorem d_CA_print_64 : decode y_CA_print.2.1 64 = .ok (.aload_n 0, 1) := dc9_42 (by decide +kernel)
theorem d_CA_print_65 : decode y_CA_print.2.1 65 = .ok (.getfield 97, 3) := dc9_180 (by decide +kernel)
theorem d_CA_print_68 : decode y_CA_print.2.1 68 = .ok (.aload_n 0, 1) := dc9_42 (by decide +kernel)
theorem d_CA_print_69 : decode y_CA_print.2.1 69 = .ok (.dup, 1) := dc9_89 (by decide +kernel)
theorem d_CA_print_70 : decode y_CA_print.2.1 70 = .ok (.getfield 100, 3) := dc9_180 (by decide +kernel)
theorem d_CA_print_73 : decode y_CA_print.2.1 73 = .ok (.dup_x1, 1) := dc9_90 (by decide +kernel)
theorem d_CA_print_74 : decode y_CA_print.2.1 74 = .ok (.iconst 1, 1) := dc9_4 (by decide +kernel)
theorem d_CA_print_75 : decode y_CA_print.2.1 75 = .ok (.iadd, 1) := dc9_96 (by decide +kernel)
theorem d_CA_print_76 : decode y_CA_print.2.1 76 = .ok (.putfield 100, 3) := dc9_181 (by decide +kernel)
theorem d_CA_print_79 : decode y_CA_print.2.1 79 = .ok (.bipush 47, 2) := dc9_16 (by decide +kernel)
theorem d_CA_print_81 : decode y_CA_print.2.1 81 = .ok (.castore, 1) := dc9_85 (by decide +kernel)
theorem d_CA_print_82 : decode y_CA_print.2.1 82 = .ok (.aload_n 0, 1) := dc9_42 (by decide +kernel)
theorem d_CA_print_83 : decode y_CA_print.2.1 83 = .ok (.aload_n 0, 1) := dc9_42 (by decide +kernel)
theorem d_CA_print_84 : decode y_CA_print.2.1 84 = .ok (.getfield 93, 3) := dc9_180 (by decide +kernel)
theorem d_CA_print_87 : decode y_CA_print.2.1 87 = .ok (.getfield 255, 3) := dc9_180 (by decide +kernel)
theorem d_CA_print_90 : decode y_CA_print.2.1 90 = .ok (.invokevirtual 251, 3) := dc9_182 (by decide +kernel)
theorem d_CA_print_93 : decode y_CA_print.2.1 93 = .ok (.aload_n 0, 1) := dc9_42 (by decide +kernel)
theorem d_CA_print_94 : decode y_CA_print.2.1 94 = .ok (.getfield 100, 3) := dc9_180 (by decide +kernel)
theorem d_CA_print_97 : decode y_CA_print.2.1 97 = .ok (.ireturn, 1) := dc9_172 (by decide +kernel)
theorem k_CA_print {G : mG} {d : Nat} {a0 : Nat} {l1 : Int} {l2 : Int} {M : mM} {Q : Int → mM → Prop} (hO : mOk M) (hi_l1 : i32 l1) (hi_l2 : i32 l2)
    (h : mK M a0 = 1 ∧ Cr G y_CA_fractionOf d [vr a0, vi l1, vi l2] M (fun x3 M2 => mOk M2 ∧ (((x3 = 0) → (Q (-1) M2)) ∧ (¬ (x3 = 0) → (mK M2 a0 = 1 ∧ mK M2 (mR M2 a0 16) = 11 ∧ Cv G y_Fr_put1 d [vr (mR M2 a0 16), vr x3] M2 (fun M9 => mOk M9 ∧ (mK M9 a0 = 1 ∧ mK M9 (mR M9 a0 10) = 8 ∧ mK M9 (mR M9 (mR M9 a0 10) 0) = 9 ∧ Cv G y_Sc_reduce d [vr (mR M9 (mR M9 a0 10) 0), vr (mR M9 a0 16)] M9 (fun M15 => mOk M15 ∧ (mK M15 a0 = 1 ∧ ∀ M19, M19 = mUI M15 a0 18 0 → mK M19 (mR M19 a0 16) = 11 ∧ Cv G y_CA_printNumber d [vr a0, vr (mR M19 (mR M19 a0 16) 0)] M19 (fun M22 => mOk M22 ∧ (mK M22 a0 = 1 ∧ mK M22 (mR M22 a0 16) = 11 ∧ mK M22 (mR M22 (mR M22 a0 16) 1) = 10 ∧ Ci G y_Na_isOne d [vr (mR M22 (mR M22 a0 16) 1)] M22 (fun x29 M28 => i32 x29 ∧ mOk M28 ∧ (((x29 = 0) → (mK M28 a0 = 1 ∧ i32 ((mI M28 a0 18) + 1) ∧ ∀ M40, M40 = mUI M28 a0 18 ((mI M28 a0 18) + 1) → mK M40 (mR M28 a0 17) = 32 ∧ ((0 : Int) ≤ mI M28 a0 18 ∧ mI M28 a0 18 < (mN M40 (mR M28 a0 17) : Int)) ∧ ∀ M44, M44 = mUI M40 (mR M28 a0 17) (Int.toNat (mI M28 a0 18)) 47 → mK M44 (mR M44 a0 16) = 11 ∧ Cv G y_CA_printNumber d [vr a0, vr (mR M44 (mR M44 a0 16) 1)] M44 (fun M47 => mOk M47 ∧ (mK M47 a0 = 1 ∧ Q (mI M47 a0 18) M47)))) ∧ (¬ (x29 = 0) → (mK M28 a0 = 1 ∧ Q (mI M28 a0 18) M28))))))))))))))) :
    Ci G y_CA_print (d + 1) [vr a0, vi l1, vi l2] M Q := by
  refine wm_open (y := y_CA_print) rfl (Nat.le_of_ble_eq_true rfl) (L := [vr a0, vi l1, vi l2, vd]) rfl ?_
  obtain ⟨h1, h⟩ := h
  refine wm_aload_n d_CA_print_0 rfl rfl ?_
  refine wm_iload_n d_CA_print_1 rfl rfl ?_
  refine wm_iload_n d_CA_print_2 rfl rfl ?_
  refine cf_CA_237 rfl d_CA_print_3 h1 (Nat.le_of_ble_eq_true rfl) (Cr.mono h (fun x3 M2 h => ?_))
  obtain ⟨hOM2, h⟩ := h
  refine wm_astore_n d_CA_print_6 rfl (by decide) (L' := [vr a0, vi l1, vi l2, vr x3]) rfl ?_
  refine wm_aload_n d_CA_print_7 rfl rfl ?_
  refine wm_ifnonnull (tgt := 13) d_CA_print_8 rfl (fun c6 => ?_) (fun c6 => ?_)
  · replace h := h.2 c6
    obtain ⟨h7, h⟩ := h
    obtain ⟨h8, h⟩ := h
    refine wm_aload_n d_CA_print_13 rfl rfl ?_
    refine gf_CA_93 rfl d_CA_print_14 h7 ?_
    refine wm_aload_n d_CA_print_17 rfl rfl ?_
    refine cf_CA_241 rfl d_CA_print_18 h8 (Nat.le_of_ble_eq_true rfl) (Cv.mono h (fun M9 h => ?_))
    obtain ⟨hOM9, h⟩ := h
    obtain ⟨h12, h⟩ := h
    obtain ⟨h13, h⟩ := h
    obtain ⟨h14, h⟩ := h
    refine wm_aload_n d_CA_print_21 rfl rfl ?_
    refine gf_CA_63 rfl d_CA_print_22 h12 ?_
    refine gf_CA_216 rfl d_CA_print_25 h13 ?_
    refine wm_aload_n d_CA_print_28 rfl rfl ?_
    refine gf_CA_93 rfl d_CA_print_29 h12 ?_
    refine cf_CA_245 rfl d_CA_print_32 h14 (Nat.le_of_ble_eq_true rfl) (Cv.mono h (fun M15 h => ?_))
    obtain ⟨hOM15, h⟩ := h
    obtain ⟨h18, h⟩ := h
    obtain ⟨M19, e20⟩ : ∃ M19, M19 = mUI M15 a0 18 0 := ⟨_, rfl⟩
    replace h := h M19 e20
    obtain ⟨h21, h⟩ := h
    refine wm_aload_n d_CA_print_35 rfl rfl ?_
    refine wm_iconst d_CA_print_36 ?_
    have hOM19 : mOk M19 := by rw [e20]; exact mOk_UI hOM15 ⟨by decide, by decide⟩
    refine pf_CA_100 rfl d_CA_print_37 h18 ⟨by decide, by decide⟩ e20 ?_
    refine wm_aload_n d_CA_print_40 rfl rfl ?_
    refine wm_aload_n d_CA_print_41 rfl rfl ?_
    refine gf_CA_93 rfl d_CA_print_42 (by rw [e20]; exact h18) ?_
    refine gf_CA_248 rfl d_CA_print_45 h21 ?_
    refine cf_CA_251 rfl d_CA_print_48 (by rw [e20]; exact h18) (Nat.le_of_ble_eq_true rfl) (Cv.mono h (fun M22 h => ?_))
    obtain ⟨hOM22, h⟩ := h
    obtain ⟨h25, h⟩ := h
    obtain ⟨h26, h⟩ := h
    obtain ⟨h27, h⟩ := h
    refine wm_aload_n d_CA_print_51 rfl rfl ?_
    refine gf_CA_93 rfl d_CA_print_52 h25 ?_
    refine gf_CA_255 rfl d_CA_print_55 h26 ?_
    refine cf_CA_258 rfl d_CA_print_58 h27 (Nat.le_of_ble_eq_true rfl) (Ci.mono h (fun x29 M28 h => ?_))
    obtain ⟨h30, hOM28, h⟩ := h
    refine wm_if_ne (tgt := 93) d_CA_print_61 rfl h30 (fun c37 => ?_) (fun c37 => ?_)
    · replace h := h.2 c37
      obtain ⟨h51, h⟩ := h
      refine wm_aload_n d_CA_print_93 rfl rfl ?_
      refine gf_CA_100 rfl d_CA_print_94 h51 ?_
      refine wm_ireturn d_CA_print_97 rfl rfl ?_
      exact ⟨_, rfl, h⟩
    · replace c37 := Classical.not_not.mp c37
      replace h := h.1 c37
      obtain ⟨h38, h⟩ := h
      obtain ⟨h39, h⟩ := h
      obtain ⟨M40, e41⟩ : ∃ M40, M40 = mUI M28 a0 18 ((mI M28 a0 18) + 1) := ⟨_, rfl⟩
      replace h := h M40 e41
      obtain ⟨h42, h⟩ := h
      obtain ⟨h43, h⟩ := h
      obtain ⟨M44, e45⟩ : ∃ M44, M44 = mUI M40 (mR M28 a0 17) (Int.toNat (mI M28 a0 18)) 47 := ⟨_, rfl⟩
      replace h := h M44 e45
      obtain ⟨h46, h⟩ := h
      refine wm_aload_n d_CA_print_64 rfl rfl ?_
      refine gf_CA_97 rfl d_CA_print_65 h38 ?_
      refine wm_aload_n d_CA_print_68 rfl rfl ?_
      refine wm_dup d_CA_print_69 rfl ?_
      refine gf_CA_100 rfl d_CA_print_70 h38 ?_
      refine wm_dup_x1 d_CA_print_73 rfl rfl ?_
      refine wm_iconst d_CA_print_74 ?_
      refine wm_iadd d_CA_print_75 ?_
      have hOM40 : mOk M40 := by rw [e41]; exact mOk_UI hOM28 h39
      refine pf_CA_100 rfl d_CA_print_76 h38 h39 e41 ?_
      refine wm_bipush d_CA_print_79 (by decide) ?_
      have hOM44 : mOk M44 := by rw [e45]; exact mOk_UI hOM40 ⟨by omega, by omega⟩
      refine wm_castE d_CA_print_81 h42 h43 ⟨by decide, by decide⟩ e45 ?_
      refine wm_aload_n d_CA_print_82 rfl rfl ?_
      refine wm_aload_n d_CA_print_83 rfl rfl ?_
      refine gf_CA_93 rfl d_CA_print_84 (by rw [e45, e41]; exact h38) ?_
      refine gf_CA_255 rfl d_CA_print_87 h46 ?_
      refine cf_CA_251 rfl d_CA_print_90 (by rw [e45, e41]; exact h38) (Nat.le_of_ble_eq_true rfl) (Cv.mono h (fun M47 h => ?_))
      obtain ⟨hOM47, h⟩ := h
      obtain ⟨h50, h⟩ := h
      refine wm_aload_n d_CA_print_93 rfl rfl ?_
      refine gf_CA_100 rfl d_CA_print_94 h50 ?_
      refine wm_ireturn d_CA_print_97 rfl rfl ?_
      exact ⟨_, rfl, h⟩
  · replace c6 := Classical.not_not.mp c6
    replace h := h.1 c6
    refine wm_iconst d_CA_print_11 ?_
    refine wm_ireturn d_CA_print_12 rfl rfl ?_
    exact ⟨_, rfl, h⟩
theorem d_CA_fractionOf_0 : decode y_CA_fractionOf.2.1 0 = .ok (.iload_n 2, 1) := dc9_28 (by decide +kernel)
theorem d_CA_fractionOf_1 : decode y_CA_fractionOf.2.1 1 = .ok (.ifCond .ne 10, 3) := dc9_154 (by decide +kernel)
theorem d_CA_fractionOf_4 : decode y_CA_fractionOf.2.1 4 = .ok (.aload_n 0, 1) := dc9_42 (by decide +kernel)
theorem d_CA_fractionOf_5 : decode y_CA_fractionOf.2.1 5 = .ok (.getfield 70, 3) := dc9_180 (by decide +kernel)
theorem d_CA_fractionOf_8 : decode y_CA_fractionOf.2.1 8 = .ok (.goto 28, 3) := dc9_167 (by decide +kernel)
theorem d_CA_fractionOf_11 : decode y_CA_fractionOf.2.1 11 = .ok (.iload_n 2, 1) := dc9_28 (by decide +kernel)
theorem d_CA_fractionOf_12 : decode y_CA_fractionOf.2.1 12 = .ok (.iconst 1, 1) := dc9_4 (by decide +kernel)
theorem d_CA_fractionOf_13 : decode y_CA_fractionOf.2.1 13 = .ok (.if_icmp .ne 10, 3) := dc9_160 (by decide +kernel)
theorem d_CA_fractionOf_16 : decode y_CA_fractionOf.2.1 16 = .ok (.aload_n 0, 1) := dc9_42 (by decide +kernel)
theorem d_CA_fractionOf_17 : decode y_CA_fractionOf.2.1 17 = .ok (.getfield 74, 3) := dc9_180 (by decide +kernel)
theorem d_CA_fractionOf_20 : decode y_CA_fractionOf.2.1 20 = .ok (.goto 16, 3) := dc9_167 (by decide +kernel)
theorem d_CA_fractionOf_23 : decode y_CA_fractionOf.2.1 23 = .ok (.iload_n 2, 1) := dc9_28 (by decide +kernel)
theorem d_CA_fractionOf_24 : decode y_CA_fractionOf.2.1 24 = .ok (.iconst 2, 1) := dc9_5 (by decide +kernel)
theorem d_CA_fractionOf_25 : decode y_CA_fractionOf.2.1 25 = .ok (.if_icmp .ne 10, 3) := dc9_160 (by decide +kernel)
theorem d_CA_fractionOf_28 : decode y_CA_fractionOf.2.1 28 = .ok (.aload_n 0, 1) := dc9_42 (by decide +kernel)
theorem d_CA_fractionOf_29 : decode y_CA_fractionOf.2.1 29 = .ok (.getfield 80, 3) := dc9_180 (by decide +kernel)
theorem d_CA_fractionOf_32 : decode y_CA_fractionOf.2.1 32 = .ok (.goto 4, 3) := dc9_167 (by decide +kernel)
theorem d_CA_fractionOf_35 : decode y_CA_fractionOf.2.1 35 = .ok (.aconst_null, 1) := dc9_1 (by decide +kernel)
theorem d_CA_fractionOf_36 : decode y_CA_fractionOf.2.1 36 = .ok (.astore_n 3, 1) := dc9_78 (by decide +kernel)
theorem d_CA_fractionOf_37 : decode y_CA_fractionOf.2.1 37 = .ok (.aload_n 3, 1) := dc9_45 (by decide +kernel)
theorem d_CA_fractionOf_38 : decode y_CA_fractionOf.2.1 38 = .ok (.ifnull 21, 3) := dc9_198 (by decide +kernel)
theorem d_CA_fractionOf_59 : decode y_CA_fractionOf.2.1 59 = .ok (.aconst_null, 1) := dc9_1 (by decide +kernel)
theorem d_CA_fractionOf_60 : decode y_CA_fractionOf.2.1 60 = .ok (.goto 9, 3) := dc9_167 (by decide +kernel)
theorem d_CA_fractionOf_41 : decode y_CA_fractionOf.2.1 41 = .ok (.aload_n 3, 1) := dc9_45 (by decide +kernel)
theorem d_CA_fractionOf_42 : decode y_CA_fractionOf.2.1 42 = .ok (.getfield 137, 3) := dc9_180 (by decide +kernel)
theorem d_CA_fractionOf_45 : decode y_CA_fractionOf.2.1 45 = .ok (.ifCond .eq 14, 3) := dc9_153 (by decide +kernel)
theorem d_CA_fractionOf_48 : decode y_CA_fractionOf.2.1 48 = .ok (.aload_n 0, 1) := dc9_42 (by decide +kernel)
theorem d_CA_fractionOf_49 : decode y_CA_fractionOf.2.1 49 = .ok (.getfield 54, 3) := dc9_180 (by decide +kernel)
theorem d_CA_fractionOf_52 : decode y_CA_fractionOf.2.1 52 = .ok (.iload_n 1, 1) := dc9_27 (by decide +kernel)
theorem d_CA_fractionOf_69 : decode y_CA_fractionOf.2.1 69 = .ok (.areturn, 1) := dc9_176 (by decide +kernel)
theorem d_CA_fractionOf_53 : decode y_CA_fractionOf.2.1 53 = .ok (.invokevirtual 163, 3) := dc9_182 (by decide +kernel)
theorem d_CA_fractionOf_56 : decode y_CA_fractionOf.2.1 56 = .ok (.ifCond .ne 7, 3) := dc9_154 (by decide +kernel)
theorem d_CA_fractionOf_63 : decode y_CA_fractionOf.2.1 63 = .ok (.aload_n 3, 1) := dc9_45 (by decide +kernel)
theorem d_CA_fractionOf_64 : decode y_CA_fractionOf.2.1 64 = .ok (.getfield 262, 3) := dc9_180 (by decide +kernel)
theorem d_CA_fractionOf_67 : decode y_CA_fractionOf.2.1 67 = .ok (.iload_n 1, 1) := dc9_27 (by decide +kernel)
theorem d_CA_fractionOf_68 : decode y_CA_fractionOf.2.1 68 = .ok (.aaload, 1) := dc9_50 (by decide +kernel)
theorem k_CA_fractionOf {G : mG} {d : Nat} {a0 : Nat} {l1 : Int} {l2 : Int} {M : mM} {Q : Nat → mM → Prop} (hO : mOk M) (hi_l1 : i32 l1) (hi_l2 : i32 l2)
    (h : (((l2 = 0) → mK M a0 = 1) ∧ (¬ (l2 = 0) → (((l2 = 1) → mK M a0 = 1) ∧ (¬ (l2 = 1) → ((l2 = 2) → mK M a0 = 1))))) ∧ ∀ v7 : Nat, v7 = (if l2 = 0 then mR M a0 11 else (if l2 = 1 then mR M a0 12 else (if l2 = 2 then mR M a0 14 else 0))) → (¬ (v7 = 0) → mK M v7 = 13) ∧ (((v7 = 0) ∨ (mI M v7 1 = 0)) → (Q 0 M)) ∧ (¬ ((v7 = 0) ∨ (mI M v7 1 = 0)) → (mK M a0 = 1 ∧ mK M (mR M a0 9) = 7 ∧ Ci G y_Ga_hasState d [vr (mR M a0 9), vi l1] M (fun x23 M22 => i32 x23 ∧ mOk M22 ∧ ((¬ (x23 = 0) → (mK M22 v7 = 13 ∧ mK M22 (mR M22 v7 0) = 35 ∧ ((0 : Int) ≤ l1 ∧ l1 < (mN M22 (mR M22 v7 0) : Int)))) ∧ ∀ v29 : Nat, v29 = (if (x23 = 0) then 0 else mR M22 (mR M22 v7 0) (Int.toNat l1)) → Q v29 M22))))) :
    Cr G y_CA_fractionOf (d + 1) [vr a0, vi l1, vi l2] M Q := by
  refine wm_open (y := y_CA_fractionOf) rfl (Nat.le_of_ble_eq_true rfl) (L := [vr a0, vi l1, vi l2, vd]) rfl ?_
  refine wm_iload_n d_CA_fractionOf_0 rfl rfl ?_
  obtain ⟨s8, h⟩ := h
  have hJ : ∀ v7 : Nat, v7 = (if l2 = 0 then mR M a0 11 else (if l2 = 1 then mR M a0 12 else (if l2 = 2 then mR M a0 14 else 0))) → mWm G y_CA_fractionOf (d + 1) 36 [vr a0, vi l1, vd, vd] [vr v7] M (fun r9 M9 => ∃ x9, r9 = some (vr x9) ∧ Q x9 M9) := by
    intro v7 e9
    have h := h v7 e9
    refine wm_astore_n d_CA_fractionOf_36 rfl (by decide) (L' := [vr a0, vi l1, vd, vr v7]) rfl ?_
    refine wm_aload_n d_CA_fractionOf_37 rfl rfl ?_
    obtain ⟨s17, h⟩ := h
    have hE0 : ((v7 = 0) ∨ (mI M v7 1 = 0)) → mWm G y_CA_fractionOf (d + 1) 59 [vr a0, vi l1, vd, vr v7] [] M (fun r9 M9 => ∃ x9, r9 = some (vr x9) ∧ Q x9 M9) := by
      intro q18
      have h := h.1 q18
      refine wm_null d_CA_fractionOf_59 ?_
      refine wm_goto (tgt := 69) d_CA_fractionOf_60 rfl ?_
      refine wm_areturn d_CA_fractionOf_69 rfl (Or.inl ⟨_, rfl⟩) ?_
      exact ⟨_, rfl, h⟩
    have hE1 : ¬ ((v7 = 0) ∨ (mI M v7 1 = 0)) → mWm G y_CA_fractionOf (d + 1) 48 [vr a0, vi l1, vd, vr v7] [] M (fun r9 M9 => ∃ x9, r9 = some (vr x9) ∧ Q x9 M9) := by
      intro q19
      have h := h.2 q19
      obtain ⟨h20, h⟩ := h
      obtain ⟨h21, h⟩ := h
      refine wm_aload_n d_CA_fractionOf_48 rfl rfl ?_
      refine gf_CA_54 rfl d_CA_fractionOf_49 h20 ?_
      refine wm_iload_n d_CA_fractionOf_52 rfl rfl ?_
      refine cf_CA_163 rfl d_CA_fractionOf_53 h21 (Nat.le_of_ble_eq_true rfl) (Ci.mono h (fun x23 M22 h => ?_))
      obtain ⟨h24, hOM22, h⟩ := h
      obtain ⟨s30, h⟩ := h
      have hJ : ∀ v29 : Nat, v29 = (if (x23 = 0) then 0 else mR M22 (mR M22 v7 0) (Int.toNat l1)) → mWm G y_CA_fractionOf (d + 1) 69 [vd, vd, vd, vd] [vr v29] M22 (fun r9 M9 => ∃ x9, r9 = some (vr x9) ∧ Q x9 M9) := by
        intro v29 e31
        have h := h v29 e31
        refine wm_areturn d_CA_fractionOf_69 rfl (Or.inl ⟨_, rfl⟩) ?_
        exact ⟨_, rfl, h⟩
      clear h
      have s32 := s30
      refine wm_if_ne (tgt := 63) d_CA_fractionOf_56 rfl h24 (fun c25 => ?_) (fun c25 => ?_)
      · have s32 := s32 c25
        obtain ⟨h26, h27, h28⟩ := s32
        refine wm_aload_n d_CA_fractionOf_63 rfl rfl ?_
        refine gf_CA_262 rfl d_CA_fractionOf_64 h26 ?_
        refine wm_iload_n d_CA_fractionOf_67 rfl rfl ?_
        refine wm_aald5 d_CA_fractionOf_68 h27 h28 ?_
        refine wm_less (L' := [vd, vd, vd, vd]) ⟨Or.inl rfl, Or.inl rfl, Or.inl rfl, Or.inl rfl, trivial⟩ ?_
        exact hJ (mR M22 (mR M22 v7 0) (Int.toNat l1)) (if_neg c25).symm
      · replace c25 := Classical.not_not.mp c25
        refine wm_null d_CA_fractionOf_59 ?_
        refine wm_goto (tgt := 69) d_CA_fractionOf_60 rfl ?_
        refine wm_less (L' := [vd, vd, vd, vd]) ⟨Or.inl rfl, Or.inl rfl, Or.inl rfl, Or.inl rfl, trivial⟩ ?_
        exact hJ 0 (if_pos c25).symm
    clear h
    have s34 := s17
    refine wm_ifnull (tgt := 59) d_CA_fractionOf_38 rfl (fun c16 => ?_) (fun c16 => ?_)
    · exact hE0 (Or.inl c16)
    · have s34 := s34 c16
      have h14 := s34
      refine wm_aload_n d_CA_fractionOf_41 rfl rfl ?_
      refine gf_CA_137 rfl d_CA_fractionOf_42 h14 ?_
      refine wm_if_eq (tgt := 59) d_CA_fractionOf_45 rfl (hO _ _).1 (fun c15 => ?_) (fun c15 => ?_)
      · exact hE0 (Or.inr c15)
      · exact hE1 (fun z35 => Or.elim z35 c16 c15)
  clear h
  obtain ⟨s37, s38⟩ := s8
  refine wm_if_ne (tgt := 11) d_CA_fractionOf_1 rfl hi_l2 (fun c1 => ?_) (fun c1 => ?_)
  · have s38 := s38 c1
    obtain ⟨s39, s40⟩ := s38
    refine wm_iload_n d_CA_fractionOf_11 rfl rfl ?_
    refine wm_iconst d_CA_fractionOf_12 ?_
    refine wm_icmp_ne (tgt := 23) d_CA_fractionOf_13 rfl hi_l2 ⟨by decide, by decide⟩ (fun c3 => ?_) (fun c3 => ?_)
    · have s40 := s40 c3
      have s41 := s40
      refine wm_iload_n d_CA_fractionOf_23 rfl rfl ?_
      refine wm_iconst d_CA_fractionOf_24 ?_
      refine wm_icmp_ne (tgt := 35) d_CA_fractionOf_25 rfl hi_l2 ⟨by decide, by decide⟩ (fun c5 => ?_) (fun c5 => ?_)
      · refine wm_null d_CA_fractionOf_35 ?_
        refine wm_less (L' := [vr a0, vi l1, vd, vd]) ⟨Or.inr rfl, Or.inr rfl, Or.inl rfl, Or.inl rfl, trivial⟩ ?_
        exact hJ 0 (by rw [if_neg c1, if_neg c3, if_neg c5])
      · replace c5 := Classical.not_not.mp c5
        have s41 := s41 c5
        have h6 := s41
        refine wm_aload_n d_CA_fractionOf_28 rfl rfl ?_
        refine gf_CA_80 rfl d_CA_fractionOf_29 h6 ?_
        refine wm_goto (tgt := 36) d_CA_fractionOf_32 rfl ?_
        refine wm_less (L' := [vr a0, vi l1, vd, vd]) ⟨Or.inr rfl, Or.inr rfl, Or.inl rfl, Or.inl rfl, trivial⟩ ?_
        exact hJ (mR M a0 14) (by rw [if_neg c1, if_neg c3, if_pos c5])
    · replace c3 := Classical.not_not.mp c3
      have s39 := s39 c3
      have h4 := s39
      refine wm_aload_n d_CA_fractionOf_16 rfl rfl ?_
      refine gf_CA_74 rfl d_CA_fractionOf_17 h4 ?_
      refine wm_goto (tgt := 36) d_CA_fractionOf_20 rfl ?_
      refine wm_less (L' := [vr a0, vi l1, vd, vd]) ⟨Or.inr rfl, Or.inr rfl, Or.inl rfl, Or.inl rfl, trivial⟩ ?_
      exact hJ (mR M a0 12) (by rw [if_neg c1, if_pos c3])
  · replace c1 := Classical.not_not.mp c1
    have s37 := s37 c1
    have h2 := s37
    refine wm_aload_n d_CA_fractionOf_4 rfl rfl ?_
    refine gf_CA_70 rfl d_CA_fractionOf_5 h2 ?_
    refine wm_goto (tgt := 36) d_CA_fractionOf_8 rfl ?_
    refine wm_less (L' := [vr a0, vi l1, vd, vd]) ⟨Or.inr rfl, Or.inr rfl, Or.inl rfl, Or.inl rfl, trivial⟩ ?_
    exact hJ (mR M a0 11) (by rw [if_pos c1])
theorem d_CA_printNumber_0 : decode y_CA_printNumber.2.1 0 = .ok (.aload_n 0, 1) := dc9_42 (by decide +kernel)
theorem d_CA_printNumber_1 : decode y_CA_printNumber.2.1 1 = .ok (.getfield 86, 3) := dc9_180 (by decide +kernel)
theorem d_CA_printNumber_4 : decode y_CA_printNumber.2.1 4 = .ok (.aload_n 1, 1) := dc9_43 (by decide +kernel)
theorem d_CA_printNumber_5 : decode y_CA_printNumber.2.1 5 = .ok (.invokevirtual 266, 3) := dc9_182 (by decide +kernel)
theorem d_CA_printNumber_8 : decode y_CA_printNumber.2.1 8 = .ok (.aload_n 0, 1) := dc9_42 (by decide +kernel)
theorem d_CA_printNumber_9 : decode y_CA_printNumber.2.1 9 = .ok (.getfield 100, 3) := dc9_180 (by decide +kernel)
theorem d_CA_printNumber_12 : decode y_CA_printNumber.2.1 12 = .ok (.istore_n 2, 1) := dc9_61 (by decide +kernel)
theorem d_CA_printNumber_13 : decode y_CA_printNumber.2.1 13 = .ok (.iconst 0, 1) := dc9_3 (by decide +kernel)
theorem d_CA_printNumber_14 : decode y_CA_printNumber.2.1 14 = .ok (.istore_n 3, 1) := dc9_62 (by decide +kernel)
theorem d_CA_printNumber_15 : decode y_CA_printNumber.2.1 15 = .ok (.iload_n 3, 1) := dc9_29 (by decide +kernel)
theorem d_CA_printNumber_16 : decode y_CA_printNumber.2.1 16 = .ok (.sipush 480, 3) := dc9_17 (by decide +kernel)
theorem d_CA_printNumber_19 : decode y_CA_printNumber.2.1 19 = .ok (.if_icmp .ge 115, 3) := dc9_162 (by decide +kernel)
theorem d_CA_printNumber_22 : decode y_CA_printNumber.2.1 22 = .ok (.iload_n 3, 1) := dc9_29 (by decide +kernel)
theorem d_CA_printNumber_23 : decode y_CA_printNumber.2.1 23 = .ok (.ifCond .eq 13, 3) := dc9_153 (by decide +kernel)
theorem d_CA_printNumber_26 : decode y_CA_printNumber.2.1 26 = .ok (.aload_n 0, 1) := dc9_42 (by decide +kernel)
theorem d_CA_printNumber_27 : decode y_CA_printNumber.2.1 27 = .ok (.getfield 86, 3) := dc9_180 (by decide +kernel)
theorem d_CA_printNumber_30 : decode y_CA_printNumber.2.1 30 = .ok (.getfield 268, 3) := dc9_180 (by decide +kernel)
theorem d_CA_printNumber_33 : decode y_CA_printNumber.2.1 33 = .ok (.ifCond .le 101, 3) := dc9_158 (by decide +kernel)
theorem d_CA_printNumber_134 : decode y_CA_printNumber.2.1 134 = .ok (.iload_n 2, 1) := dc9_28 (by decide +kernel)
theorem d_CA_printNumber_135 : decode y_CA_printNumber.2.1 135 = .ok (.istore_n 3, 1) := dc9_62 (by decide +kernel)
theorem d_CA_printNumber_136 : decode y_CA_printNumber.2.1 136 = .ok (.aload_n 0, 1) := dc9_42 (by decide +kernel)
theorem d_CA_printNumber_137 : decode y_CA_printNumber.2.1 137 = .ok (.getfield 100, 3) := dc9_180 (by decide +kernel)
theorem d_CA_printNumber_140 : decode y_CA_printNumber.2.1 140 = .ok (.iconst 1, 1) := dc9_4 (by decide +kernel)
theorem d_CA_printNumber_141 : decode y_CA_printNumber.2.1 141 = .ok (.isub, 1) := dc9_100 (by decide +kernel)
theorem d_CA_printNumber_142 : decode y_CA_printNumber.2.1 142 = .ok (.istore 4, 2) := dc9_54 (by decide +kernel)
theorem d_CA_printNumber_36 : decode y_CA_printNumber.2.1 36 = .ok (.aload_n 0, 1) := dc9_42 (by decide +kernel)
theorem d_CA_printNumber_37 : decode y_CA_printNumber.2.1 37 = .ok (.getfield 86, 3) := dc9_180 (by decide +kernel)
theorem d_CA_printNumber_40 : decode y_CA_printNumber.2.1 40 = .ok (.ldc_w 271, 3) := dc9_19 (by decide +kernel)
theorem d_CA_printNumber_43 : decode y_CA_printNumber.2.1 43 = .ok (.invokevirtual 272, 3) := dc9_182 (by decide +kernel)
theorem d_CA_printNumber_46 : decode y_CA_printNumber.2.1 46 = .ok (.istore 4, 2) := dc9_54 (by decide +kernel)
theorem d_CA_printNumber_48 : decode y_CA_printNumber.2.1 48 = .ok (.aload_n 0, 1) := dc9_42 (by decide +kernel)
theorem d_CA_printNumber_49 : decode y_CA_printNumber.2.1 49 = .ok (.getfield 86, 3) := dc9_180 (by decide +kernel)
theorem d_CA_printNumber_52 : decode y_CA_printNumber.2.1 52 = .ok (.getfield 268, 3) := dc9_180 (by decide +kernel)
theorem d_CA_printNumber_55 : decode y_CA_printNumber.2.1 55 = .ok (.ifCond .ne 7, 3) := dc9_154 (by decide +kernel)
theorem d_CA_printNumber_58 : decode y_CA_printNumber.2.1 58 = .ok (.iconst 1, 1) := dc9_4 (by decide +kernel)
theorem d_CA_printNumber_59 : decode y_CA_printNumber.2.1 59 = .ok (.goto 4, 3) := dc9_167 (by decide +kernel)
theorem d_CA_printNumber_62 : decode y_CA_printNumber.2.1 62 = .ok (.iconst 0, 1) := dc9_3 (by decide +kernel)
theorem d_CA_printNumber_63 : decode y_CA_printNumber.2.1 63 = .ok (.istore 5, 2) := dc9_54 (by decide +kernel)
theorem d_CA_printNumber_65 : decode y_CA_printNumber.2.1 65 = .ok (.iconst 0, 1) := dc9_3 (by decide +kernel)
theorem d_CA_printNumber_66 : decode y_CA_printNumber.2.1 66 = .ok (.istore 6, 2) := dc9_54 (by decide +kernel)
theorem d_CA_printNumber_68 : decode y_CA_printNumber.2.1 68 = .ok (.iload 6, 2) := dc9_21 (by decide +kernel)
theorem d_CA_printNumber_70 : decode y_CA_printNumber.2.1 70 = .ok (.bipush 9, 2) := dc9_16 (by decide +kernel)
theorem d_CA_printNumber_72 : decode y_CA_printNumber.2.1 72 = .ok (.if_icmp .ge 56, 3) := dc9_162 (by decide +kernel)
theorem d_CA_printNumber_75 : decode y_CA_printNumber.2.1 75 = .ok (.iload 6, 2) := dc9_21 (by decide +kernel)
theorem d_CA_printNumber_77 : decode y_CA_printNumber.2.1 77 = .ok (.ifCond .eq 13, 3) := dc9_153 (by decide +kernel)
theorem d_CA_printNumber_80 : decode y_CA_printNumber.2.1 80 = .ok (.iload 5, 2) := dc9_21 (by decide +kernel)
theorem d_CA_printNumber_82 : decode y_CA_printNumber.2.1 82 = .ok (.ifCond .eq 8, 3) := dc9_153 (by decide +kernel)
theorem d_CA_printNumber_85 : decode y_CA_printNumber.2.1 85 = .ok (.iload 4, 2) := dc9_21 (by decide +kernel)
theorem d_CA_printNumber_87 : decode y_CA_printNumber.2.1 87 = .ok (.ifCond .le 41, 3) := dc9_158 (by decide +kernel)
theorem d_CA_printNumber_128 : decode y_CA_printNumber.2.1 128 = .ok (.iinc 3 1, 3) := by decide +kernel
theorem d_CA_printNumber_131 : decode y_CA_printNumber.2.1 131 = .ok (.goto (-116), 3) := dc9_167 (by decide +kernel)
theorem d_CA_printNumber_90 : decode y_CA_printNumber.2.1 90 = .ok (.aload_n 0, 1) := dc9_42 (by decide +kernel)
theorem d_CA_printNumber_91 : decode y_CA_printNumber.2.1 91 = .ok (.getfield 97, 3) := dc9_180 (by decide +kernel)
theorem d_CA_printNumber_94 : decode y_CA_printNumber.2.1 94 = .ok (.aload_n 0, 1) := dc9_42 (by decide +kernel)
theorem d_CA_printNumber_95 : decode y_CA_printNumber.2.1 95 = .ok (.dup, 1) := dc9_89 (by decide +kernel)
theorem d_CA_printNumber_96 : decode y_CA_printNumber.2.1 96 = .ok (.getfield 100, 3) := dc9_180 (by decide +kernel)
theorem d_CA_printNumber_99 : decode y_CA_printNumber.2.1 99 = .ok (.dup_x1, 1) := dc9_90 (by decide +kernel)
theorem d_CA_printNumber_100 : decode y_CA_printNumber.2.1 100 = .ok (.iconst 1, 1) := dc9_4 (by decide +kernel)
theorem d_CA_printNumber_101 : decode y_CA_printNumber.2.1 101 = .ok (.iadd, 1) := dc9_96 (by decide +kernel)
theorem d_CA_printNumber_102 : decode y_CA_printNumber.2.1 102 = .ok (.putfield 100, 3) := dc9_181 (by decide +kernel)
theorem d_CA_printNumber_105 : decode y_CA_printNumber.2.1 105 = .ok (.bipush 48, 2) := dc9_16 (by decide +kernel)
theorem d_CA_printNumber_107 : decode y_CA_printNumber.2.1 107 = .ok (.iload 4, 2) := dc9_21 (by decide +kernel)
theorem d_CA_printNumber_109 : decode y_CA_printNumber.2.1 109 = .ok (.bipush 10, 2) := dc9_16 (by decide +kernel)
theorem d_CA_printNumber_111 : decode y_CA_printNumber.2.1 111 = .ok (.irem, 1) := dc9_112 (by decide +kernel)
theorem d_CA_printNumber_112 : decode y_CA_printNumber.2.1 112 = .ok (.iadd, 1) := dc9_96 (by decide +kernel)
theorem d_CA_printNumber_113 : decode y_CA_printNumber.2.1 113 = .ok (.i2c, 1) := dc9_146 (by decide +kernel)
theorem d_CA_printNumber_114 : decode y_CA_printNumber.2.1 114 = .ok (.castore, 1) := dc9_85 (by decide +kernel)
theorem d_CA_printNumber_115 : decode y_CA_printNumber.2.1 115 = .ok (.iload 4, 2) := dc9_21 (by decide +kernel)
theorem d_CA_printNumber_117 : decode y_CA_printNumber.2.1 117 = .ok (.bipush 10, 2) := dc9_16 (by decide +kernel)
theorem d_CA_printNumber_119 : decode y_CA_printNumber.2.1 119 = .ok (.idiv, 1) := dc9_108 (by decide +kernel)
theorem d_CA_printNumber_120 : decode y_CA_printNumber.2.1 120 = .ok (.istore 4, 2) := dc9_54 (by decide +kernel)
theorem d_CA_printNumber_122 : decode y_CA_printNumber.2.1 122 = .ok (.iinc 6 1, 3) := by decide +kernel
theorem d_CA_printNumber_125 : decode y_CA_printNumber.2.1 125 = .ok (.goto (-57), 3) := dc9_167 (by decide +kernel)
theorem d_CA_printNumber_144 : decode y_CA_printNumber.2.1 144 = .ok (.iload_n 3, 1) := dc9_29 (by decide +kernel)
theorem d_CA_printNumber_145 : decode y_CA_printNumber.2.1 145 = .ok (.iload 4, 2) := dc9_21 (by decide +kernel)
theorem d_CA_printNumber_147 : decode y_CA_printNumber.2.1 147 = .ok (.if_icmp .ge 42, 3) := dc9_162 (by decide +kernel)
theorem d_CA_printNumber_189 : decode y_CA_printNumber.2.1 189 = .ok (.return_, 1) := dc9_177 (by decide +kernel)
theorem d_CA_printNumber_150 : decode y_CA_printNumber.2.1 150 = .ok (.aload_n 0, 1) := dc9_42 (by decide +kernel)
theorem d_CA_printNumber_151 : decode y_CA_printNumber.2.1 151 = .ok (.getfield 97, 3) := dc9_180 (by decide +kernel)
theorem d_CA_printNumber_154 : decode y_CA_printNumber.2.1 154 = .ok (.iload_n 3, 1) := dc9_29 (by decide +kernel)
theorem d_CA_printNumber_155 : decode y_CA_printNumber.2.1 155 = .ok (.caload, 1) := dc9_52 (by decide +kernel)
theorem d_CA_printNumber_156 : decode y_CA_printNumber.2.1 156 = .ok (.istore 5, 2) := dc9_54 (by decide +kernel)
theorem d_CA_printNumber_158 : decode y_CA_printNumber.2.1 158 = .ok (.aload_n 0, 1) := dc9_42 (by decide +kernel)
theorem d_CA_printNumber_159 : decode y_CA_printNumber.2.1 159 = .ok (.getfield 97, 3) := dc9_180 (by decide +kernel)
theorem d_CA_printNumber_162 : decode y_CA_printNumber.2.1 162 = .ok (.iload_n 3, 1) := dc9_29 (by decide +kernel)
theorem d_CA_printNumber_163 : decode y_CA_printNumber.2.1 163 = .ok (.aload_n 0, 1) := dc9_42 (by decide +kernel)
theorem d_CA_printNumber_164 : decode y_CA_printNumber.2.1 164 = .ok (.getfield 97, 3) := dc9_180 (by decide +kernel)
theorem d_CA_printNumber_167 : decode y_CA_printNumber.2.1 167 = .ok (.iload 4, 2) := dc9_21 (by decide +kernel)
theorem d_CA_printNumber_169 : decode y_CA_printNumber.2.1 169 = .ok (.caload, 1) := dc9_52 (by decide +kernel)
theorem d_CA_printNumber_170 : decode y_CA_printNumber.2.1 170 = .ok (.castore, 1) := dc9_85 (by decide +kernel)
theorem d_CA_printNumber_171 : decode y_CA_printNumber.2.1 171 = .ok (.aload_n 0, 1) := dc9_42 (by decide +kernel)
theorem d_CA_printNumber_172 : decode y_CA_printNumber.2.1 172 = .ok (.getfield 97, 3) := dc9_180 (by decide +kernel)
theorem d_CA_printNumber_175 : decode y_CA_printNumber.2.1 175 = .ok (.iload 4, 2) := dc9_21 (by decide +kernel)
theorem d_CA_printNumber_177 : decode y_CA_printNumber.2.1 177 = .ok (.iload 5, 2) := dc9_21 (by decide +kernel)
theorem d_CA_printNumber_179 : decode y_CA_printNumber.2.1 179 = .ok (.castore, 1) := dc9_85 (by decide +kernel)
theorem d_CA_printNumber_180 : decode y_CA_printNumber.2.1 180 = .ok (.iinc 3 1, 3) := by decide +kernel
theorem d_CA_printNumber_183 : decode y_CA_printNumber.2.1 183 = .ok (.iinc 4 (-1), 3) := by decide +kernel
theorem d_CA_printNumber_186 : decode y_CA_printNumber.2.1 186 = .ok (.goto (-42), 3) := dc9_167 (by decide +kernel)
def h_CA_printNumber_15 (G : mG) (d : Nat) (a0 : Nat) (l2 : Int) (l3 : Int) (M : mM) (Q : mM → Prop) : Prop := mWm G y_CA_printNumber (d + 1) 15 [vr a0, vd, vi l2, vi l3, vd, vd, vd] [] M (fun r9 M9 => r9 = none ∧ Q M9)
def h_CA_printNumber_68 (G : mG) (d : Nat) (a0 : Nat) (l2 : Int) (l3 : Int) (l4 : Int) (l5 : Int) (l6 : Int) (M : mM) (Q : mM → Prop) : Prop := mWm G y_CA_printNumber (d + 1) 68 [vr a0, vd, vi l2, vi l3, vi l4, vi l5, vi l6] [] M (fun r9 M9 => r9 = none ∧ Q M9)
def h_CA_printNumber_144 (G : mG) (d : Nat) (a0 : Nat) (l3 : Int) (l4 : Int) (M : mM) (Q : mM → Prop) : Prop := mWm G y_CA_printNumber (d + 1) 144 [vr a0, vd, vd, vi l3, vi l4, vd, vd] [] M (fun r9 M9 => r9 = none ∧ Q M9)
theorem k_CA_printNumber {G : mG} {d : Nat} {a0 : Nat} {a1 : Nat} {M : mM} {Q : mM → Prop} (hO : mOk M)
    (h : mK M a0 = 1 ∧ mK M (mR M a0 15) = 10 ∧ Cv G y_Na_put1 d [vr (mR M a0 15), vr a1] M (fun M3 => mOk M3 ∧ (mK M3 a0 = 1 ∧ h_CA_printNumber_15 G d a0 (mI M3 a0 18) 0 M3 Q))) :
    Cv G y_CA_printNumber (d + 1) [vr a0, vr a1] M Q := by
  refine wm_open (y := y_CA_printNumber) rfl (Nat.le_of_ble_eq_true rfl) (L := [vr a0, vr a1, vd, vd, vd, vd, vd]) rfl ?_
  obtain ⟨h1, h⟩ := h
  obtain ⟨h2, h⟩ := h
  refine wm_aload_n d_CA_printNumber_0 rfl rfl ?_
  refine gf_CA_86 rfl d_CA_printNumber_1 h1 ?_
  refine wm_aload_n d_CA_printNumber_4 rfl rfl ?_
  refine cf_CA_266 rfl d_CA_printNumber_5 h2 (Nat.le_of_ble_eq_true rfl) (Cv.mono h (fun M3 h => ?_))
  obtain ⟨hOM3, h⟩ := h
  obtain ⟨h6, h⟩ := h
  refine wm_aload_n d_CA_printNumber_8 rfl rfl ?_
  refine gf_CA_100 rfl d_CA_printNumber_9 h6 ?_
  refine wm_istore_n d_CA_printNumber_12 rfl (by decide) (L' := [vr a0, vr a1, vi (mI M3 a0 18), vd, vd, vd, vd]) rfl ?_
  refine wm_iconst d_CA_printNumber_13 ?_
  refine wm_istore_n d_CA_printNumber_14 rfl (by decide) (L' := [vr a0, vr a1, vi (mI M3 a0 18), vi 0, vd, vd, vd]) rfl ?_
  refine wm_less (L' := [vr a0, vd, vi (mI M3 a0 18), vi 0, vd, vd, vd]) ⟨Or.inr rfl, Or.inl rfl, Or.inr rfl, Or.inr rfl, Or.inl rfl, Or.inl rfl, Or.inl rfl, trivial⟩ ?_
  exact h
theorem k_CA_printNumber_15 {G : mG} {d : Nat} {a0 : Nat} {l2 : Int} {l3 : Int} {M : mM} {Q : mM → Prop} (hO : mOk M) (hi_l2 : i32 l2) (hi_l3 : i32 l3)
    (h : (¬ (480 ≤ l3) → (¬ (l3 = 0) → (mK M a0 = 1 ∧ mK M (mR M a0 15) = 10))) ∧ (((480 ≤ l3) ∨ ((¬ (l3 = 0)) ∧ (mI M (mR M a0 15) 1 ≤ 0))) → (mK M a0 = 1 ∧ h_CA_printNumber_144 G d a0 l2 ((mI M a0 18) - 1) M Q)) ∧ (¬ ((480 ≤ l3) ∨ ((¬ (l3 = 0)) ∧ (mI M (mR M a0 15) 1 ≤ 0))) → (mK M a0 = 1 ∧ mK M (mR M a0 15) = 10 ∧ Ci G y_Na_divideSmall d [vr (mR M a0 15), vi 1000000000] M (fun x19 M18 => i32 x19 ∧ mOk M18 ∧ (mK M18 a0 = 1 ∧ mK M18 (mR M18 a0 15) = 10 ∧ ∀ v24 : Int, v24 = (if (mI M18 (mR M18 a0 15) 1 = 0) then 1 else 0) → h_CA_printNumber_68 G d a0 l2 l3 x19 v24 0 M18 Q))))) :
    h_CA_printNumber_15 G d a0 l2 l3 M Q := by
  unfold h_CA_printNumber_15
  refine wm_iload_n d_CA_printNumber_15 rfl rfl ?_
  refine wm_sipush d_CA_printNumber_16 (by decide) ?_
  obtain ⟨s12, h⟩ := h
  have hE0 : ((480 ≤ l3) ∨ ((¬ (l3 = 0)) ∧ (mI M (mR M a0 15) 1 ≤ 0))) → mWm G y_CA_printNumber (d + 1) 134 [vr a0, vd, vi l2, vi l3, vd, vd, vd] [] M (fun r9 M9 => r9 = none ∧ Q M9) := by
    intro q13
    have h := h.1 q13
    obtain ⟨h14, h⟩ := h
    refine wm_iload_n d_CA_printNumber_134 rfl rfl ?_
    refine wm_istore_n d_CA_printNumber_135 rfl (by decide) (L' := [vr a0, vd, vi l2, vi l2, vd, vd, vd]) rfl ?_
    refine wm_aload_n d_CA_printNumber_136 rfl rfl ?_
    refine gf_CA_100 rfl d_CA_printNumber_137 h14 ?_
    refine wm_iconst d_CA_printNumber_140 ?_
    refine wm_isub d_CA_printNumber_141 ?_
    refine wm_istore d_CA_printNumber_142 (by decide) (L' := [vr a0, vd, vi l2, vi l2, vi ((mI M a0 18) - 1), vd, vd]) rfl ?_
    refine wm_less (L' := [vr a0, vd, vd, vi l2, vi ((mI M a0 18) - 1), vd, vd]) ⟨Or.inr rfl, Or.inl rfl, Or.inl rfl, Or.inr rfl, Or.inr rfl, Or.inl rfl, Or.inl rfl, trivial⟩ ?_
    exact h
  have hE1 : ¬ ((480 ≤ l3) ∨ ((¬ (l3 = 0)) ∧ (mI M (mR M a0 15) 1 ≤ 0))) → mWm G y_CA_printNumber (d + 1) 36 [vr a0, vd, vi l2, vi l3, vd, vd, vd] [] M (fun r9 M9 => r9 = none ∧ Q M9) := by
    intro q15
    have h := h.2 q15
    obtain ⟨h16, h⟩ := h
    obtain ⟨h17, h⟩ := h
    refine wm_aload_n d_CA_printNumber_36 rfl rfl ?_
    refine gf_CA_86 rfl d_CA_printNumber_37 h16 ?_
    refine wm_ldcw (x := 1000000000) d_CA_printNumber_40 k7_101 (by decide) ?_
    refine cf_CA_272 rfl d_CA_printNumber_43 h17 (Nat.le_of_ble_eq_true rfl) (Ci.mono h (fun x19 M18 h => ?_))
    obtain ⟨h20, hOM18, h⟩ := h
    obtain ⟨h21, h⟩ := h
    obtain ⟨h22, h⟩ := h
    refine wm_istore d_CA_printNumber_46 (by decide) (L' := [vr a0, vd, vi l2, vi l3, vi x19, vd, vd]) rfl ?_
    refine wm_aload_n d_CA_printNumber_48 rfl rfl ?_
    refine gf_CA_86 rfl d_CA_printNumber_49 h21 ?_
    refine gf_CA_268 rfl d_CA_printNumber_52 h22 ?_
    have hJ : ∀ v24 : Int, v24 = (if (mI M18 (mR M18 a0 15) 1 = 0) then 1 else 0) → mWm G y_CA_printNumber (d + 1) 63 [vr a0, vd, vi l2, vi l3, vi x19, vd, vd] [vi v24] M18 (fun r9 M9 => r9 = none ∧ Q M9) := by
      intro v24 e26
      have h := h v24 e26
      have h27 : i32 v24 := by rw [e26]; (repeat' split) <;> first | exact ⟨by decide, by decide⟩ | exact ⟨by decide, by decide⟩
      have h28 : (v24 = 0 ∨ v24 = 1) := by rw [e26]; (repeat' split) <;> decide
      refine wm_istore d_CA_printNumber_63 (by decide) (L' := [vr a0, vd, vi l2, vi l3, vi x19, vi v24, vd]) rfl ?_
      refine wm_iconst d_CA_printNumber_65 ?_
      refine wm_istore d_CA_printNumber_66 (by decide) (L' := [vr a0, vd, vi l2, vi l3, vi x19, vi v24, vi 0]) rfl ?_
      exact h
    clear h
    refine wm_if_ne (tgt := 62) d_CA_printNumber_55 rfl (hOM18 _ _).1 (fun c23 => ?_) (fun c23 => ?_)
    · refine wm_iconst d_CA_printNumber_62 ?_
      exact hJ 0 (if_neg c23).symm
    · replace c23 := Classical.not_not.mp c23
      refine wm_iconst d_CA_printNumber_58 ?_
      refine wm_goto (tgt := 63) d_CA_printNumber_59 rfl ?_
      exact hJ 1 (if_pos c23).symm
  clear h
  have s30 := s12
  refine wm_icmp_ge (tgt := 134) d_CA_printNumber_19 rfl hi_l3 ⟨by decide, by decide⟩ (fun c11 => ?_) (fun c11 => ?_)
  · exact hE0 (Or.inl c11)
  · have s30 := s30 c11
    have s31 := s30
    refine wm_iload_n d_CA_printNumber_22 rfl rfl ?_
    refine wm_if_eq (tgt := 36) d_CA_printNumber_23 rfl hi_l3 (fun c10 => ?_) (fun c10 => ?_)
    · exact hE1 (fun z32 => Or.elim z32 c11 (fun z33 => z33.1 c10))
    · have s31 := s31 c10
      obtain ⟨h7, h8⟩ := s31
      refine wm_aload_n d_CA_printNumber_26 rfl rfl ?_
      refine gf_CA_86 rfl d_CA_printNumber_27 h7 ?_
      refine gf_CA_268 rfl d_CA_printNumber_30 h8 ?_
      refine wm_if_le (tgt := 134) d_CA_printNumber_33 rfl (hO _ _).1 (fun c9 => ?_) (fun c9 => ?_)
      · exact hE0 (Or.inr ⟨c10, c9⟩)
      · exact hE1 (fun z34 => Or.elim z34 c11 (fun z35 => c9 z35.2))
theorem k_CA_printNumber_68 {G : mG} {d : Nat} {a0 : Nat} {l2 : Int} {l3 : Int} {l4 : Int} {l5 : Int} {l6 : Int} {M : mM} {Q : mM → Prop} (hO : mOk M) (hi_l2 : i32 l2) (hi_l3 : i32 l3) (hi_l4 : i32 l4) (hi_l5 : i32 l5) (hi_l6 : i32 l6)
    (h : (((9 ≤ l6) ∨ ((¬ (l6 = 0)) ∧ ((¬ (l5 = 0)) ∧ (l4 ≤ 0)))) → (h_CA_printNumber_15 G d a0 l2 (l3 + 1) M Q)) ∧ (¬ ((9 ≤ l6) ∨ ((¬ (l6 = 0)) ∧ ((¬ (l5 = 0)) ∧ (l4 ≤ 0)))) → (mK M a0 = 1 ∧ i32 ((mI M a0 18) + 1) ∧ ∀ M46, M46 = mUI M a0 18 ((mI M a0 18) + 1) → mK M46 (mR M a0 17) = 32 ∧ ((0 : Int) ≤ mI M a0 18 ∧ mI M a0 18 < (mN M46 (mR M a0 17) : Int)) ∧ ((0 : Int) ≤ i2cI (48 + (Int.tmod l4 10)) ∧ i2cI (48 + (Int.tmod l4 10)) < 65536) ∧ ∀ M51, M51 = mUI M46 (mR M a0 17) (Int.toNat (mI M a0 18)) (i2cI (48 + (Int.tmod l4 10))) → h_CA_printNumber_68 G d a0 l2 l3 (Int.tdiv l4 10) l5 (l6 + 1) M51 Q))) :
    h_CA_printNumber_68 G d a0 l2 l3 l4 l5 l6 M Q := by
  unfold h_CA_printNumber_68
  refine wm_iload d_CA_printNumber_68 rfl ?_
  refine wm_bipush d_CA_printNumber_70 (by decide) ?_
  have hE0 : ((9 ≤ l6) ∨ ((¬ (l6 = 0)) ∧ ((¬ (l5 = 0)) ∧ (l4 ≤ 0)))) → mWm G y_CA_printNumber (d + 1) 128 [vr a0, vd, vi l2, vi l3, vi l4, vi l5, vi l6] [] M (fun r9 M9 => r9 = none ∧ Q M9) := by
    intro q42
    have h := h.1 q42
    refine wm_iinc d_CA_printNumber_128 (by decide) rfl (L' := [vr a0, vd, vi l2, vi (l3 + 1), vi l4, vi l5, vi l6]) rfl ?_
    refine wm_goto (tgt := 15) d_CA_printNumber_131 rfl ?_
    refine wm_less (L' := [vr a0, vd, vi l2, vi (l3 + 1), vd, vd, vd]) ⟨Or.inr rfl, Or.inl rfl, Or.inr rfl, Or.inr rfl, Or.inl rfl, Or.inl rfl, Or.inl rfl, trivial⟩ ?_
    exact h
  have hE1 : ¬ ((9 ≤ l6) ∨ ((¬ (l6 = 0)) ∧ ((¬ (l5 = 0)) ∧ (l4 ≤ 0)))) → mWm G y_CA_printNumber (d + 1) 90 [vr a0, vd, vi l2, vi l3, vi l4, vi l5, vi l6] [] M (fun r9 M9 => r9 = none ∧ Q M9) := by
    intro q43
    have h := h.2 q43
    obtain ⟨h44, h⟩ := h
    obtain ⟨h45, h⟩ := h
    obtain ⟨M46, e47⟩ : ∃ M46, M46 = mUI M a0 18 ((mI M a0 18) + 1) := ⟨_, rfl⟩
    replace h := h M46 e47
    obtain ⟨h48, h⟩ := h
    obtain ⟨h49, h⟩ := h
    obtain ⟨h50, h⟩ := h
    obtain ⟨M51, e52⟩ : ∃ M51, M51 = mUI M46 (mR M a0 17) (Int.toNat (mI M a0 18)) (i2cI (48 + (Int.tmod l4 10))) := ⟨_, rfl⟩
    replace h := h M51 e52
    refine wm_aload_n d_CA_printNumber_90 rfl rfl ?_
    refine gf_CA_97 rfl d_CA_printNumber_91 h44 ?_
    refine wm_aload_n d_CA_printNumber_94 rfl rfl ?_
    refine wm_dup d_CA_printNumber_95 rfl ?_
    refine gf_CA_100 rfl d_CA_printNumber_96 h44 ?_
    refine wm_dup_x1 d_CA_printNumber_99 rfl rfl ?_
    refine wm_iconst d_CA_printNumber_100 ?_
    refine wm_iadd d_CA_printNumber_101 ?_
    have hOM46 : mOk M46 := by rw [e47]; exact mOk_UI hO h45
    refine pf_CA_100 rfl d_CA_printNumber_102 h44 h45 e47 ?_
    refine wm_bipush d_CA_printNumber_105 (by decide) ?_
    refine wm_iload d_CA_printNumber_107 rfl ?_
    refine wm_bipush d_CA_printNumber_109 (by decide) ?_
    refine wm_irem d_CA_printNumber_111 hi_l4 ⟨by decide, by decide⟩ (by decide) ?_
    refine wm_iadd d_CA_printNumber_112 ?_
    refine wm_i2c d_CA_printNumber_113 ?_
    have hOM51 : mOk M51 := by rw [e52]; exact mOk_UI hOM46 ⟨by omega, by omega⟩
    refine wm_castE d_CA_printNumber_114 h48 h49 h50 e52 ?_
    refine wm_iload d_CA_printNumber_115 rfl ?_
    refine wm_bipush d_CA_printNumber_117 (by decide) ?_
    refine wm_idiv d_CA_printNumber_119 hi_l4 ⟨by decide, by decide⟩ (by decide) ?_
    refine wm_istore d_CA_printNumber_120 (by decide) (L' := [vr a0, vd, vi l2, vi l3, vi (Int.tdiv l4 10), vi l5, vi l6]) rfl ?_
    refine wm_iinc d_CA_printNumber_122 (by decide) rfl (L' := [vr a0, vd, vi l2, vi l3, vi (Int.tdiv l4 10), vi l5, vi (l6 + 1)]) rfl ?_
    refine wm_goto (tgt := 68) d_CA_printNumber_125 rfl ?_
    exact h
  clear h
  refine wm_icmp_ge (tgt := 128) d_CA_printNumber_72 rfl hi_l6 ⟨by decide, by decide⟩ (fun c40 => ?_) (fun c40 => ?_)
  · exact hE0 (Or.inl c40)
  · refine wm_iload d_CA_printNumber_75 rfl ?_
    refine wm_if_eq (tgt := 90) d_CA_printNumber_77 rfl hi_l6 (fun c39 => ?_) (fun c39 => ?_)
    · exact hE1 (fun z53 => Or.elim z53 c40 (fun z54 => z54.1 c39))
    · refine wm_iload d_CA_printNumber_80 rfl ?_
      refine wm_if_eq (tgt := 90) d_CA_printNumber_82 rfl hi_l5 (fun c38 => ?_) (fun c38 => ?_)
      · exact hE1 (fun z55 => Or.elim z55 c40 (fun z56 => (fun z57 => z57.1 c38) z56.2))
      · refine wm_iload d_CA_printNumber_85 rfl ?_
        refine wm_if_le (tgt := 128) d_CA_printNumber_87 rfl hi_l4 (fun c37 => ?_) (fun c37 => ?_)
        · exact hE0 (Or.inr ⟨c39, ⟨c38, c37⟩⟩)
        · exact hE1 (fun z58 => Or.elim z58 c40 (fun z59 => (fun z60 => c37 z60.2) z59.2))
theorem k_CA_printNumber_144 {G : mG} {d : Nat} {a0 : Nat} {l3 : Int} {l4 : Int} {M : mM} {Q : mM → Prop} (hO : mOk M) (hi_l3 : i32 l3) (hi_l4 : i32 l4)
    (h : ((l4 ≤ l3) → (Q M)) ∧ (¬ (l4 ≤ l3) → (mK M a0 = 1 ∧ mK M (mR M a0 17) = 32 ∧ ((0 : Int) ≤ l3 ∧ l3 < (mN M (mR M a0 17) : Int)) ∧ ((0 : Int) ≤ l4 ∧ l4 < (mN M (mR M a0 17) : Int)) ∧ ((0 : Int) ≤ l3 ∧ l3 < (mN M (mR M a0 17) : Int)) ∧ ((0 : Int) ≤ mI M (mR M a0 17) (Int.toNat l4) ∧ mI M (mR M a0 17) (Int.toNat l4) < 65536) ∧ ∀ M70, M70 = mUI M (mR M a0 17) (Int.toNat l3) (mI M (mR M a0 17) (Int.toNat l4)) → mK M70 (mR M70 a0 17) = 32 ∧ ((0 : Int) ≤ l4 ∧ l4 < (mN M70 (mR M70 a0 17) : Int)) ∧ ((0 : Int) ≤ mI M (mR M a0 17) (Int.toNat l3) ∧ mI M (mR M a0 17) (Int.toNat l3) < 65536) ∧ ∀ M75, M75 = mUI M70 (mR M70 a0 17) (Int.toNat l4) (mI M (mR M a0 17) (Int.toNat l3)) → h_CA_printNumber_144 G d a0 (l3 + 1) (l4 + (-1)) M75 Q))) :
    h_CA_printNumber_144 G d a0 l3 l4 M Q := by
  unfold h_CA_printNumber_144
  refine wm_iload_n d_CA_printNumber_144 rfl rfl ?_
  refine wm_iload d_CA_printNumber_145 rfl ?_
  refine wm_icmp_ge (tgt := 189) d_CA_printNumber_147 rfl hi_l3 hi_l4 (fun c63 => ?_) (fun c63 => ?_)
  · replace h := h.1 c63
    refine wm_return d_CA_printNumber_189 rfl ?_
    exact ⟨rfl, h⟩
  · replace h := h.2 c63
    obtain ⟨h64, h⟩ := h
    obtain ⟨h65, h⟩ := h
    obtain ⟨h66, h⟩ := h
    obtain ⟨h67, h⟩ := h
    obtain ⟨h68, h⟩ := h
    obtain ⟨h69, h⟩ := h
    obtain ⟨M70, e71⟩ : ∃ M70, M70 = mUI M (mR M a0 17) (Int.toNat l3) (mI M (mR M a0 17) (Int.toNat l4)) := ⟨_, rfl⟩
    replace h := h M70 e71
    obtain ⟨h72, h⟩ := h
    obtain ⟨h73, h⟩ := h
    obtain ⟨h74, h⟩ := h
    obtain ⟨M75, e76⟩ : ∃ M75, M75 = mUI M70 (mR M70 a0 17) (Int.toNat l4) (mI M (mR M a0 17) (Int.toNat l3)) := ⟨_, rfl⟩
    replace h := h M75 e76
    refine wm_aload_n d_CA_printNumber_150 rfl rfl ?_
    refine gf_CA_97 rfl d_CA_printNumber_151 h64 ?_
    refine wm_iload_n d_CA_printNumber_154 rfl rfl ?_
    refine wm_cald d_CA_printNumber_155 h65 h66 ?_
    refine wm_istore d_CA_printNumber_156 (by decide) (L' := [vr a0, vd, vd, vi l3, vi l4, vi (mI M (mR M a0 17) (Int.toNat l3)), vd]) rfl ?_
    refine wm_aload_n d_CA_printNumber_158 rfl rfl ?_
    refine gf_CA_97 rfl d_CA_printNumber_159 h64 ?_
    refine wm_iload_n d_CA_printNumber_162 rfl rfl ?_
    refine wm_aload_n d_CA_printNumber_163 rfl rfl ?_
    refine gf_CA_97 rfl d_CA_printNumber_164 h64 ?_
    refine wm_iload d_CA_printNumber_167 rfl ?_
    refine wm_cald d_CA_printNumber_169 h65 h67 ?_
    have hOM70 : mOk M70 := by rw [e71]; exact mOk_UI hO ⟨by omega, by omega⟩
    refine wm_castE d_CA_printNumber_170 h65 h68 h69 e71 ?_
    refine wm_aload_n d_CA_printNumber_171 rfl rfl ?_
    refine gf_CA_97 rfl d_CA_printNumber_172 (by rw [e71]; exact h64) ?_
    refine wm_iload d_CA_printNumber_175 rfl ?_
    refine wm_iload d_CA_printNumber_177 rfl ?_
    have hOM75 : mOk M75 := by rw [e76]; exact mOk_UI hOM70 ⟨by omega, by omega⟩
    refine wm_castE d_CA_printNumber_179 h72 h73 h74 e76 ?_
    refine wm_iinc d_CA_printNumber_180 (by decide) rfl (L' := [vr a0, vd, vd, vi (l3 + 1), vi l4, vi (mI M (mR M a0 17) (Int.toNat l3)), vd]) rfl ?_
    refine wm_iinc d_CA_printNumber_183 (by decide) rfl (L' := [vr a0, vd, vd, vi (l3 + 1), vi (l4 + (-1)), vi (mI M (mR M a0 17) (Int.toNat l3)), vd]) rfl ?_
    refine wm_goto (tgt := 144) d_CA_printNumber_186 rfl ?_
    refine wm_less (L' := [vr a0, vd, vd, vi (l3 + 1), vi (l4 + (-1)), vd, vd]) ⟨Or.inr rfl, Or.inl rfl, Or.inl rfl, Or.inr rfl, Or.inr rfl, Or.inl rfl, Or.inl rfl, trivial⟩ ?_
    exact h
theorem d_CA_character_0 : decode y_CA_character.2.1 0 = .ok (.iload_n 1, 1) := dc9_27 (by decide +kernel)
theorem d_CA_character_1 : decode y_CA_character.2.1 1 = .ok (.ifCond .lt 11, 3) := dc9_155 (by decide +kernel)
theorem d_CA_character_12 : decode y_CA_character.2.1 12 = .ok (.iconst (-1), 1) := dc9_2 (by decide +kernel)
theorem d_CA_character_13 : decode y_CA_character.2.1 13 = .ok (.goto 9, 3) := dc9_167 (by decide +kernel)
theorem d_CA_character_4 : decode y_CA_character.2.1 4 = .ok (.iload_n 1, 1) := dc9_27 (by decide +kernel)
theorem d_CA_character_5 : decode y_CA_character.2.1 5 = .ok (.aload_n 0, 1) := dc9_42 (by decide +kernel)
theorem d_CA_character_6 : decode y_CA_character.2.1 6 = .ok (.getfield 100, 3) := dc9_180 (by decide +kernel)
theorem d_CA_character_9 : decode y_CA_character.2.1 9 = .ok (.if_icmp .lt 7, 3) := dc9_161 (by decide +kernel)
theorem d_CA_character_16 : decode y_CA_character.2.1 16 = .ok (.aload_n 0, 1) := dc9_42 (by decide +kernel)
theorem d_CA_character_17 : decode y_CA_character.2.1 17 = .ok (.getfield 97, 3) := dc9_180 (by decide +kernel)
theorem d_CA_character_20 : decode y_CA_character.2.1 20 = .ok (.iload_n 1, 1) := dc9_27 (by decide +kernel)
theorem d_CA_character_21 : decode y_CA_character.2.1 21 = .ok (.caload, 1) := dc9_52 (by decide +kernel)
theorem d_CA_character_22 : decode y_CA_character.2.1 22 = .ok (.ireturn, 1) := dc9_172 (by decide +kernel)
theorem k_CA_character {G : mG} {d : Nat} {a0 : Nat} {l1 : Int} {M : mM} {Q : Int → mM → Prop} (hO : mOk M) (hi_l1 : i32 l1)
    (h : (¬ (l1 < 0) → (mK M a0 = 1 ∧ ((l1 < mI M a0 18) → (mK M (mR M a0 17) = 32 ∧ ((0 : Int) ≤ l1 ∧ l1 < (mN M (mR M a0 17) : Int)))))) ∧ ∀ v6 : Int, v6 = (if ((l1 < 0) ∨ (¬ (l1 < mI M a0 18))) then (-1) else mI M (mR M a0 17) (Int.toNat l1)) → Q v6 M) :
    Ci G y_CA_character d [vr a0, vi l1] M Q := by
  refine wm_open (y := y_CA_character) rfl (Nat.le_of_ble_eq_true rfl) (L := [vr a0, vi l1]) rfl ?_
  refine wm_iload_n d_CA_character_0 rfl rfl ?_
  obtain ⟨s7, h⟩ := h
  have hJ : ∀ v6 : Int, v6 = (if ((l1 < 0) ∨ (¬ (l1 < mI M a0 18))) then (-1) else mI M (mR M a0 17) (Int.toNat l1)) → mWm G y_CA_character d 22 [vd, vd] [vi v6] M (fun r9 M9 => ∃ x9, r9 = some (vi x9) ∧ Q x9 M9) := by
    intro v6 e8
    have h := h v6 e8
    refine wm_ireturn d_CA_character_22 rfl rfl ?_
    exact ⟨_, rfl, h⟩
  clear h
  have s9 := s7
  refine wm_if_lt (tgt := 12) d_CA_character_1 rfl hi_l1 (fun c1 => ?_) (fun c1 => ?_)
  · refine wm_iconst d_CA_character_12 ?_
    refine wm_goto (tgt := 22) d_CA_character_13 rfl ?_
    refine wm_less (L' := [vd, vd]) ⟨Or.inl rfl, Or.inl rfl, trivial⟩ ?_
    exact hJ (-1) (if_pos (Or.inl c1)).symm
  · have s9 := s9 c1
    obtain ⟨h2, s10⟩ := s9
    refine wm_iload_n d_CA_character_4 rfl rfl ?_
    refine wm_aload_n d_CA_character_5 rfl rfl ?_
    refine gf_CA_100 rfl d_CA_character_6 h2 ?_
    refine wm_icmp_lt (tgt := 16) d_CA_character_9 rfl hi_l1 (hO _ _).1 (fun c3 => ?_) (fun c3 => ?_)
    · have s10 := s10 c3
      obtain ⟨h4, h5⟩ := s10
      refine wm_aload_n d_CA_character_16 rfl rfl ?_
      refine gf_CA_97 rfl d_CA_character_17 h2 ?_
      refine wm_iload_n d_CA_character_20 rfl rfl ?_
      refine wm_cald d_CA_character_21 h4 h5 ?_
      refine wm_less (L' := [vd, vd]) ⟨Or.inl rfl, Or.inl rfl, trivial⟩ ?_
      exact hJ (mI M (mR M a0 17) (Int.toNat l1)) (if_neg (fun z11 => Or.elim z11 c1 (fun z12 => z12 c3))).symm
    · refine wm_iconst d_CA_character_12 ?_
      refine wm_goto (tgt := 22) d_CA_character_13 rfl ?_
      refine wm_less (L' := [vd, vd]) ⟨Or.inl rfl, Or.inl rfl, trivial⟩ ?_
      exact hJ (-1) (if_pos (Or.inr c3)).symm
theorem d_CA_compare_0 : decode y_CA_compare.2.1 0 = .ok (.aload_n 0, 1) := dc9_42 (by decide +kernel)
theorem d_CA_compare_1 : decode y_CA_compare.2.1 1 = .ok (.iload_n 1, 1) := dc9_27 (by decide +kernel)
theorem d_CA_compare_2 : decode y_CA_compare.2.1 2 = .ok (.iload_n 2, 1) := dc9_28 (by decide +kernel)
theorem d_CA_compare_3 : decode y_CA_compare.2.1 3 = .ok (.invokevirtual 237, 3) := dc9_182 (by decide +kernel)
theorem d_CA_compare_6 : decode y_CA_compare.2.1 6 = .ok (.astore 5, 2) := dc9_58 (by decide +kernel)
theorem d_CA_compare_8 : decode y_CA_compare.2.1 8 = .ok (.aload_n 0, 1) := dc9_42 (by decide +kernel)
theorem d_CA_compare_9 : decode y_CA_compare.2.1 9 = .ok (.iload_n 3, 1) := dc9_29 (by decide +kernel)
theorem d_CA_compare_10 : decode y_CA_compare.2.1 10 = .ok (.iload 4, 2) := dc9_21 (by decide +kernel)
theorem d_CA_compare_12 : decode y_CA_compare.2.1 12 = .ok (.invokevirtual 237, 3) := dc9_182 (by decide +kernel)
theorem d_CA_compare_15 : decode y_CA_compare.2.1 15 = .ok (.astore 6, 2) := dc9_58 (by decide +kernel)
theorem d_CA_compare_17 : decode y_CA_compare.2.1 17 = .ok (.aload 5, 2) := dc9_25 (by decide +kernel)
theorem d_CA_compare_19 : decode y_CA_compare.2.1 19 = .ok (.ifnull 8, 3) := dc9_198 (by decide +kernel)
theorem d_CA_compare_27 : decode y_CA_compare.2.1 27 = .ok (.bipush (-2), 2) := dc9_16 (by decide +kernel)
theorem d_CA_compare_29 : decode y_CA_compare.2.1 29 = .ok (.goto 17, 3) := dc9_167 (by decide +kernel)
theorem d_CA_compare_22 : decode y_CA_compare.2.1 22 = .ok (.aload 6, 2) := dc9_25 (by decide +kernel)
theorem d_CA_compare_24 : decode y_CA_compare.2.1 24 = .ok (.ifnonnull 8, 3) := dc9_199 (by decide +kernel)
theorem d_CA_compare_32 : decode y_CA_compare.2.1 32 = .ok (.aload_n 0, 1) := dc9_42 (by decide +kernel)
theorem d_CA_compare_33 : decode y_CA_compare.2.1 33 = .ok (.getfield 63, 3) := dc9_180 (by decide +kernel)
theorem d_CA_compare_36 : decode y_CA_compare.2.1 36 = .ok (.getfield 216, 3) := dc9_180 (by decide +kernel)
theorem d_CA_compare_39 : decode y_CA_compare.2.1 39 = .ok (.aload 5, 2) := dc9_25 (by decide +kernel)
theorem d_CA_compare_41 : decode y_CA_compare.2.1 41 = .ok (.aload 6, 2) := dc9_25 (by decide +kernel)
theorem d_CA_compare_46 : decode y_CA_compare.2.1 46 = .ok (.ireturn, 1) := dc9_172 (by decide +kernel)
theorem d_CA_compare_43 : decode y_CA_compare.2.1 43 = .ok (.invokevirtual 276, 3) := dc9_182 (by decide +kernel)
theorem k_CA_compare {G : mG} {d : Nat} {a0 : Nat} {l1 : Int} {l2 : Int} {l3 : Int} {l4 : Int} {M : mM} {Q : Int → mM → Prop} (hO : mOk M) (hi_l1 : i32 l1) (hi_l2 : i32 l2) (hi_l3 : i32 l3) (hi_l4 : i32 l4)
    (h : mK M a0 = 1 ∧ Cr G y_CA_fractionOf d [vr a0, vi l1, vi l2] M (fun x3 M2 => mOk M2 ∧ (mK M2 a0 = 1 ∧ Cr G y_CA_fractionOf d [vr a0, vi l3, vi l4] M2 (fun x7 M6 => mOk M6 ∧ ((((x3 = 0) ∨ (x7 = 0)) → (Q (-2) M6)) ∧ (¬ ((x3 = 0) ∨ (x7 = 0)) → (mK M6 a0 = 1 ∧ mK M6 (mR M6 a0 10) = 8 ∧ mK M6 (mR M6 (mR M6 a0 10) 0) = 9 ∧ Ci G y_Sc_order d [vr (mR M6 (mR M6 a0 10) 0), vr x3, vr x7] M6 (fun x22 M21 => i32 x22 ∧ mOk M21 ∧ (Q x22 M21))))))))) :
    Ci G y_CA_compare (d + 1) [vr a0, vi l1, vi l2, vi l3, vi l4] M Q := by
  refine wm_open (y := y_CA_compare) rfl (Nat.le_of_ble_eq_true rfl) (L := [vr a0, vi l1, vi l2, vi l3, vi l4, vd, vd]) rfl ?_
  obtain ⟨h1, h⟩ := h
  refine wm_aload_n d_CA_compare_0 rfl rfl ?_
  refine wm_iload_n d_CA_compare_1 rfl rfl ?_
  refine wm_iload_n d_CA_compare_2 rfl rfl ?_
  refine cf_CA_237 rfl d_CA_compare_3 h1 (Nat.le_of_ble_eq_true rfl) (Cr.mono h (fun x3 M2 h => ?_))
  obtain ⟨hOM2, h⟩ := h
  obtain ⟨h5, h⟩ := h
  refine wm_astore d_CA_compare_6 (by decide) (L' := [vr a0, vi l1, vi l2, vi l3, vi l4, vr x3, vd]) rfl ?_
  refine wm_aload_n d_CA_compare_8 rfl rfl ?_
  refine wm_iload_n d_CA_compare_9 rfl rfl ?_
  refine wm_iload d_CA_compare_10 rfl ?_
  refine cf_CA_237 rfl d_CA_compare_12 h5 (Nat.le_of_ble_eq_true rfl) (Cr.mono h (fun x7 M6 h => ?_))
  obtain ⟨hOM6, h⟩ := h
  refine wm_astore d_CA_compare_15 (by decide) (L' := [vr a0, vi l1, vi l2, vi l3, vi l4, vr x3, vr x7]) rfl ?_
  refine wm_aload d_CA_compare_17 rfl ?_
  have hE0 : ((x3 = 0) ∨ (x7 = 0)) → mWm G y_CA_compare (d + 1) 27 [vr a0, vi l1, vi l2, vi l3, vi l4, vr x3, vr x7] [] M6 (fun r9 M9 => ∃ x9, r9 = some (vi x9) ∧ Q x9 M9) := by
    intro q16
    have h := h.1 q16
    refine wm_bipush d_CA_compare_27 (by decide) ?_
    refine wm_goto (tgt := 46) d_CA_compare_29 rfl ?_
    refine wm_ireturn d_CA_compare_46 rfl rfl ?_
    exact ⟨_, rfl, h⟩
  have hE1 : ¬ ((x3 = 0) ∨ (x7 = 0)) → mWm G y_CA_compare (d + 1) 32 [vr a0, vi l1, vi l2, vi l3, vi l4, vr x3, vr x7] [] M6 (fun r9 M9 => ∃ x9, r9 = some (vi x9) ∧ Q x9 M9) := by
    intro q17
    have h := h.2 q17
    obtain ⟨h18, h⟩ := h
    obtain ⟨h19, h⟩ := h
    obtain ⟨h20, h⟩ := h
    refine wm_aload_n d_CA_compare_32 rfl rfl ?_
    refine gf_CA_63 rfl d_CA_compare_33 h18 ?_
    refine gf_CA_216 rfl d_CA_compare_36 h19 ?_
    refine wm_aload d_CA_compare_39 rfl ?_
    refine wm_aload d_CA_compare_41 rfl ?_
    refine cf_CA_276 rfl d_CA_compare_43 h20 (Nat.le_of_ble_eq_true rfl) (Ci.mono h (fun x22 M21 h => ?_))
    obtain ⟨h23, hOM21, h⟩ := h
    refine wm_ireturn d_CA_compare_46 rfl rfl ?_
    exact ⟨_, rfl, h⟩
  clear h
  refine wm_ifnull (tgt := 27) d_CA_compare_19 rfl (fun c14 => ?_) (fun c14 => ?_)
  · exact hE0 (Or.inl c14)
  · refine wm_aload d_CA_compare_22 rfl ?_
    refine wm_ifnonnull (tgt := 32) d_CA_compare_24 rfl (fun c13 => ?_) (fun c13 => ?_)
    · exact hE1 (fun z24 => Or.elim z24 c14 c13)
    · replace c13 := Classical.not_not.mp c13
      exact hE0 (Or.inr c13)
theorem d_CA_billionths_0 : decode y_CA_billionths.2.1 0 = .ok (.aload_n 0, 1) := dc9_42 (by decide +kernel)
theorem d_CA_billionths_1 : decode y_CA_billionths.2.1 1 = .ok (.iload_n 1, 1) := dc9_27 (by decide +kernel)
theorem d_CA_billionths_2 : decode y_CA_billionths.2.1 2 = .ok (.iload_n 2, 1) := dc9_28 (by decide +kernel)
theorem d_CA_billionths_3 : decode y_CA_billionths.2.1 3 = .ok (.invokevirtual 237, 3) := dc9_182 (by decide +kernel)
theorem d_CA_billionths_6 : decode y_CA_billionths.2.1 6 = .ok (.astore_n 3, 1) := dc9_78 (by decide +kernel)
theorem d_CA_billionths_7 : decode y_CA_billionths.2.1 7 = .ok (.aload_n 3, 1) := dc9_45 (by decide +kernel)
theorem d_CA_billionths_8 : decode y_CA_billionths.2.1 8 = .ok (.ifnonnull 5, 3) := dc9_199 (by decide +kernel)
theorem d_CA_billionths_11 : decode y_CA_billionths.2.1 11 = .ok (.iconst (-1), 1) := dc9_2 (by decide +kernel)
theorem d_CA_billionths_12 : decode y_CA_billionths.2.1 12 = .ok (.ireturn, 1) := dc9_172 (by decide +kernel)
theorem d_CA_billionths_13 : decode y_CA_billionths.2.1 13 = .ok (.aload_n 0, 1) := dc9_42 (by decide +kernel)
theorem d_CA_billionths_14 : decode y_CA_billionths.2.1 14 = .ok (.getfield 93, 3) := dc9_180 (by decide +kernel)
theorem d_CA_billionths_17 : decode y_CA_billionths.2.1 17 = .ok (.aload_n 3, 1) := dc9_45 (by decide +kernel)
theorem d_CA_billionths_18 : decode y_CA_billionths.2.1 18 = .ok (.invokevirtual 241, 3) := dc9_182 (by decide +kernel)
theorem d_CA_billionths_21 : decode y_CA_billionths.2.1 21 = .ok (.aload_n 0, 1) := dc9_42 (by decide +kernel)
theorem d_CA_billionths_22 : decode y_CA_billionths.2.1 22 = .ok (.getfield 86, 3) := dc9_180 (by decide +kernel)
theorem d_CA_billionths_25 : decode y_CA_billionths.2.1 25 = .ok (.aload_n 0, 1) := dc9_42 (by decide +kernel)
theorem d_CA_billionths_26 : decode y_CA_billionths.2.1 26 = .ok (.getfield 93, 3) := dc9_180 (by decide +kernel)
theorem d_CA_billionths_29 : decode y_CA_billionths.2.1 29 = .ok (.getfield 248, 3) := dc9_180 (by decide +kernel)
theorem d_CA_billionths_32 : decode y_CA_billionths.2.1 32 = .ok (.invokevirtual 266, 3) := dc9_182 (by decide +kernel)
theorem d_CA_billionths_35 : decode y_CA_billionths.2.1 35 = .ok (.aload_n 0, 1) := dc9_42 (by decide +kernel)
theorem d_CA_billionths_36 : decode y_CA_billionths.2.1 36 = .ok (.getfield 86, 3) := dc9_180 (by decide +kernel)
theorem d_CA_billionths_39 : decode y_CA_billionths.2.1 39 = .ok (.ldc_w 271, 3) := dc9_19 (by decide +kernel)
theorem d_CA_billionths_42 : decode y_CA_billionths.2.1 42 = .ok (.invokevirtual 280, 3) := dc9_182 (by decide +kernel)
theorem d_CA_billionths_45 : decode y_CA_billionths.2.1 45 = .ok (.aload_n 0, 1) := dc9_42 (by decide +kernel)
theorem d_CA_billionths_46 : decode y_CA_billionths.2.1 46 = .ok (.getfield 63, 3) := dc9_180 (by decide +kernel)
theorem d_CA_billionths_49 : decode y_CA_billionths.2.1 49 = .ok (.getfield 216, 3) := dc9_180 (by decide +kernel)
theorem d_CA_billionths_52 : decode y_CA_billionths.2.1 52 = .ok (.aload_n 0, 1) := dc9_42 (by decide +kernel)
theorem d_CA_billionths_53 : decode y_CA_billionths.2.1 53 = .ok (.getfield 86, 3) := dc9_180 (by decide +kernel)
theorem d_CA_billionths_56 : decode y_CA_billionths.2.1 56 = .ok (.aload_n 0, 1) := dc9_42 (by decide +kernel)
theorem d_CA_billionths_57 : decode y_CA_billionths.2.1 57 = .ok (.getfield 93, 3) := dc9_180 (by decide +kernel)
theorem d_CA_billionths_60 : decode y_CA_billionths.2.1 60 = .ok (.getfield 255, 3) := dc9_180 (by decide +kernel)
theorem d_CA_billionths_63 : decode y_CA_billionths.2.1 63 = .ok (.invokevirtual 283, 3) := dc9_182 (by decide +kernel)
theorem d_CA_billionths_66 : decode y_CA_billionths.2.1 66 = .ok (.ireturn, 1) := dc9_172 (by decide +kernel)
theorem k_CA_billionths {G : mG} {d : Nat} {a0 : Nat} {l1 : Int} {l2 : Int} {M : mM} {Q : Int → mM → Prop} (hO : mOk M) (hi_l1 : i32 l1) (hi_l2 : i32 l2)
    (h : mK M a0 = 1 ∧ Cr G y_CA_fractionOf d [vr a0, vi l1, vi l2] M (fun x3 M2 => mOk M2 ∧ (((x3 = 0) → (Q (-1) M2)) ∧ (¬ (x3 = 0) → (mK M2 a0 = 1 ∧ mK M2 (mR M2 a0 16) = 11 ∧ Cv G y_Fr_put1 d [vr (mR M2 a0 16), vr x3] M2 (fun M9 => mOk M9 ∧ (mK M9 a0 = 1 ∧ mK M9 (mR M9 a0 16) = 11 ∧ mK M9 (mR M9 a0 15) = 10 ∧ Cv G y_Na_put1 d [vr (mR M9 a0 15), vr (mR M9 (mR M9 a0 16) 0)] M9 (fun M15 => mOk M15 ∧ (mK M15 a0 = 1 ∧ mK M15 (mR M15 a0 15) = 10 ∧ Cv G y_Na_multiply d [vr (mR M15 a0 15), vi 1000000000] M15 (fun M20 => mOk M20 ∧ (mK M20 a0 = 1 ∧ mK M20 (mR M20 a0 10) = 8 ∧ mK M20 (mR M20 a0 16) = 11 ∧ mK M20 (mR M20 (mR M20 a0 10) 0) = 9 ∧ Ci G y_Sc_wholePart d [vr (mR M20 (mR M20 a0 10) 0), vr (mR M20 a0 15), vr (mR M20 (mR M20 a0 16) 1)] M20 (fun x28 M27 => i32 x28 ∧ mOk M27 ∧ (Q x28 M27))))))))))))) :
    Ci G y_CA_billionths (d + 1) [vr a0, vi l1, vi l2] M Q := by
  refine wm_open (y := y_CA_billionths) rfl (Nat.le_of_ble_eq_true rfl) (L := [vr a0, vi l1, vi l2, vd]) rfl ?_
  obtain ⟨h1, h⟩ := h
  refine wm_aload_n d_CA_billionths_0 rfl rfl ?_
  refine wm_iload_n d_CA_billionths_1 rfl rfl ?_
  refine wm_iload_n d_CA_billionths_2 rfl rfl ?_
  refine cf_CA_237 rfl d_CA_billionths_3 h1 (Nat.le_of_ble_eq_true rfl) (Cr.mono h (fun x3 M2 h => ?_))
  obtain ⟨hOM2, h⟩ := h
  refine wm_astore_n d_CA_billionths_6 rfl (by decide) (L' := [vr a0, vi l1, vi l2, vr x3]) rfl ?_
  refine wm_aload_n d_CA_billionths_7 rfl rfl ?_
  refine wm_ifnonnull (tgt := 13) d_CA_billionths_8 rfl (fun c6 => ?_) (fun c6 => ?_)
  · replace h := h.2 c6
    obtain ⟨h7, h⟩ := h
    obtain ⟨h8, h⟩ := h
    refine wm_aload_n d_CA_billionths_13 rfl rfl ?_
    refine gf_CA_93 rfl d_CA_billionths_14 h7 ?_
    refine wm_aload_n d_CA_billionths_17 rfl rfl ?_
    refine cf_CA_241 rfl d_CA_billionths_18 h8 (Nat.le_of_ble_eq_true rfl) (Cv.mono h (fun M9 h => ?_))
    obtain ⟨hOM9, h⟩ := h
    obtain ⟨h12, h⟩ := h
    obtain ⟨h13, h⟩ := h
    obtain ⟨h14, h⟩ := h
    refine wm_aload_n d_CA_billionths_21 rfl rfl ?_
    refine gf_CA_86 rfl d_CA_billionths_22 h12 ?_
    refine wm_aload_n d_CA_billionths_25 rfl rfl ?_
    refine gf_CA_93 rfl d_CA_billionths_26 h12 ?_
    refine gf_CA_248 rfl d_CA_billionths_29 h13 ?_
    refine cf_CA_266 rfl d_CA_billionths_32 h14 (Nat.le_of_ble_eq_true rfl) (Cv.mono h (fun M15 h => ?_))
    obtain ⟨hOM15, h⟩ := h
    obtain ⟨h18, h⟩ := h
    obtain ⟨h19, h⟩ := h
    refine wm_aload_n d_CA_billionths_35 rfl rfl ?_
    refine gf_CA_86 rfl d_CA_billionths_36 h18 ?_
    refine wm_ldcw (x := 1000000000) d_CA_billionths_39 k7_101 (by decide) ?_
    refine cf_CA_280 rfl d_CA_billionths_42 h19 (Nat.le_of_ble_eq_true rfl) (Cv.mono h (fun M20 h => ?_))
    obtain ⟨hOM20, h⟩ := h
    obtain ⟨h23, h⟩ := h
    obtain ⟨h24, h⟩ := h
    obtain ⟨h25, h⟩ := h
    obtain ⟨h26, h⟩ := h
    refine wm_aload_n d_CA_billionths_45 rfl rfl ?_
    refine gf_CA_63 rfl d_CA_billionths_46 h23 ?_
    refine gf_CA_216 rfl d_CA_billionths_49 h24 ?_
    refine wm_aload_n d_CA_billionths_52 rfl rfl ?_
    refine gf_CA_86 rfl d_CA_billionths_53 h23 ?_
    refine wm_aload_n d_CA_billionths_56 rfl rfl ?_
    refine gf_CA_93 rfl d_CA_billionths_57 h23 ?_
    refine gf_CA_255 rfl d_CA_billionths_60 h25 ?_
    refine cf_CA_283 rfl d_CA_billionths_63 h26 (Nat.le_of_ble_eq_true rfl) (Ci.mono h (fun x28 M27 h => ?_))
    obtain ⟨h29, hOM27, h⟩ := h
    refine wm_ireturn d_CA_billionths_66 rfl rfl ?_
    exact ⟨_, rfl, h⟩
  · replace c6 := Classical.not_not.mp c6
    replace h := h.1 c6
    refine wm_iconst d_CA_billionths_11 ?_
    refine wm_ireturn d_CA_billionths_12 rfl rfl ?_
    exact ⟨_, rfl, h⟩
theorem d_CA_choice_0 : decode y_CA_choice.2.1 0 = .ok (.aload_n 0, 1) := dc9_42 (by decide +kernel)
theorem d_CA_choice_1 : decode y_CA_choice.2.1 1 = .ok (.getfield 70, 3) := dc9_180 (by decide +kernel)
theorem d_CA_choice_4 : decode y_CA_choice.2.1 4 = .ok (.getfield 137, 3) := dc9_180 (by decide +kernel)
theorem d_CA_choice_7 : decode y_CA_choice.2.1 7 = .ok (.ifCond .eq 26, 3) := dc9_153 (by decide +kernel)
theorem d_CA_choice_33 : decode y_CA_choice.2.1 33 = .ok (.iconst (-1), 1) := dc9_2 (by decide +kernel)
theorem d_CA_choice_10 : decode y_CA_choice.2.1 10 = .ok (.aload_n 0, 1) := dc9_42 (by decide +kernel)
theorem d_CA_choice_11 : decode y_CA_choice.2.1 11 = .ok (.getfield 54, 3) := dc9_180 (by decide +kernel)
theorem d_CA_choice_14 : decode y_CA_choice.2.1 14 = .ok (.iload_n 1, 1) := dc9_27 (by decide +kernel)
theorem d_CA_choice_34 : decode y_CA_choice.2.1 34 = .ok (.ireturn, 1) := dc9_172 (by decide +kernel)
theorem d_CA_choice_15 : decode y_CA_choice.2.1 15 = .ok (.invokevirtual 163, 3) := dc9_182 (by decide +kernel)
theorem d_CA_choice_18 : decode y_CA_choice.2.1 18 = .ok (.ifCond .eq 15, 3) := dc9_153 (by decide +kernel)
theorem d_CA_choice_21 : decode y_CA_choice.2.1 21 = .ok (.aload_n 0, 1) := dc9_42 (by decide +kernel)
theorem d_CA_choice_22 : decode y_CA_choice.2.1 22 = .ok (.getfield 63, 3) := dc9_180 (by decide +kernel)
theorem d_CA_choice_25 : decode y_CA_choice.2.1 25 = .ok (.getfield 229, 3) := dc9_180 (by decide +kernel)
theorem d_CA_choice_28 : decode y_CA_choice.2.1 28 = .ok (.iload_n 1, 1) := dc9_27 (by decide +kernel)
theorem d_CA_choice_29 : decode y_CA_choice.2.1 29 = .ok (.iaload, 1) := dc9_46 (by decide +kernel)
theorem d_CA_choice_30 : decode y_CA_choice.2.1 30 = .ok (.goto 4, 3) := dc9_167 (by decide +kernel)
theorem k_CA_choice {G : mG} {d : Nat} {a0 : Nat} {l1 : Int} {M : mM} {Q : Int → mM → Prop} (hO : mOk M) (hi_l1 : i32 l1)
    (h : mK M a0 = 1 ∧ mK M (mR M a0 11) = 13 ∧ ((mI M (mR M a0 11) 1 = 0) → (Q (-1) M)) ∧ (¬ (mI M (mR M a0 11) 1 = 0) → (mK M (mR M a0 9) = 7 ∧ Ci G y_Ga_hasState d [vr (mR M a0 9), vi l1] M (fun x8 M7 => i32 x8 ∧ mOk M7 ∧ ((¬ (x8 = 0) → (mK M7 a0 = 1 ∧ mK M7 (mR M7 a0 10) = 8 ∧ mK M7 (mR M7 (mR M7 a0 10) 2) = 30 ∧ ((0 : Int) ≤ l1 ∧ l1 < (mN M7 (mR M7 (mR M7 a0 10) 2) : Int)))) ∧ ∀ v15 : Int, v15 = (if (x8 = 0) then (-1) else mI M7 (mR M7 (mR M7 a0 10) 2) (Int.toNat l1)) → Q v15 M7))))) :
    Ci G y_CA_choice (d + 1) [vr a0, vi l1] M Q := by
  refine wm_open (y := y_CA_choice) rfl (Nat.le_of_ble_eq_true rfl) (L := [vr a0, vi l1]) rfl ?_
  obtain ⟨h1, h⟩ := h
  obtain ⟨h2, h⟩ := h
  refine wm_aload_n d_CA_choice_0 rfl rfl ?_
  refine gf_CA_70 rfl d_CA_choice_1 h1 ?_
  refine gf_CA_137 rfl d_CA_choice_4 h2 ?_
  refine wm_if_eq (tgt := 33) d_CA_choice_7 rfl (hO _ _).1 (fun c5 => ?_) (fun c5 => ?_)
  · replace h := h.1 c5
    refine wm_iconst d_CA_choice_33 ?_
    refine wm_ireturn d_CA_choice_34 rfl rfl ?_
    exact ⟨_, rfl, h⟩
  · replace h := h.2 c5
    obtain ⟨h6, h⟩ := h
    refine wm_aload_n d_CA_choice_10 rfl rfl ?_
    refine gf_CA_54 rfl d_CA_choice_11 h1 ?_
    refine wm_iload_n d_CA_choice_14 rfl rfl ?_
    refine cf_CA_163 rfl d_CA_choice_15 h6 (Nat.le_of_ble_eq_true rfl) (Ci.mono h (fun x8 M7 h => ?_))
    obtain ⟨h9, hOM7, h⟩ := h
    obtain ⟨s16, h⟩ := h
    have hJ : ∀ v15 : Int, v15 = (if (x8 = 0) then (-1) else mI M7 (mR M7 (mR M7 a0 10) 2) (Int.toNat l1)) → mWm G y_CA_choice (d + 1) 34 [vd, vd] [vi v15] M7 (fun r9 M9 => ∃ x9, r9 = some (vi x9) ∧ Q x9 M9) := by
      intro v15 e17
      have h := h v15 e17
      refine wm_ireturn d_CA_choice_34 rfl rfl ?_
      exact ⟨_, rfl, h⟩
    clear h
    have s18 := s16
    refine wm_if_eq (tgt := 33) d_CA_choice_18 rfl h9 (fun c10 => ?_) (fun c10 => ?_)
    · refine wm_iconst d_CA_choice_33 ?_
      refine wm_less (L' := [vd, vd]) ⟨Or.inl rfl, Or.inl rfl, trivial⟩ ?_
      exact hJ (-1) (if_pos c10).symm
    · have s18 := s18 c10
      obtain ⟨h11, h12, h13, h14⟩ := s18
      refine wm_aload_n d_CA_choice_21 rfl rfl ?_
      refine gf_CA_63 rfl d_CA_choice_22 h11 ?_
      refine gf_CA_229 rfl d_CA_choice_25 h12 ?_
      refine wm_iload_n d_CA_choice_28 rfl rfl ?_
      refine wm_iald d_CA_choice_29 h13 h14 ?_
      refine wm_goto (tgt := 34) d_CA_choice_30 rfl ?_
      refine wm_less (L' := [vd, vd]) ⟨Or.inl rfl, Or.inl rfl, trivial⟩ ?_
      exact hJ (mI M7 (mR M7 (mR M7 a0 10) 2) (Int.toNat l1)) (if_neg c10).symm
theorem d_CA_rank_0 : decode y_CA_rank.2.1 0 = .ok (.aload_n 0, 1) := dc9_42 (by decide +kernel)
theorem d_CA_rank_1 : decode y_CA_rank.2.1 1 = .ok (.getfield 70, 3) := dc9_180 (by decide +kernel)
theorem d_CA_rank_4 : decode y_CA_rank.2.1 4 = .ok (.getfield 137, 3) := dc9_180 (by decide +kernel)
theorem d_CA_rank_7 : decode y_CA_rank.2.1 7 = .ok (.ifCond .eq 26, 3) := dc9_153 (by decide +kernel)
theorem d_CA_rank_33 : decode y_CA_rank.2.1 33 = .ok (.iconst (-1), 1) := dc9_2 (by decide +kernel)
theorem d_CA_rank_10 : decode y_CA_rank.2.1 10 = .ok (.aload_n 0, 1) := dc9_42 (by decide +kernel)
theorem d_CA_rank_11 : decode y_CA_rank.2.1 11 = .ok (.getfield 54, 3) := dc9_180 (by decide +kernel)
theorem d_CA_rank_14 : decode y_CA_rank.2.1 14 = .ok (.iload_n 1, 1) := dc9_27 (by decide +kernel)
theorem d_CA_rank_34 : decode y_CA_rank.2.1 34 = .ok (.ireturn, 1) := dc9_172 (by decide +kernel)
theorem d_CA_rank_15 : decode y_CA_rank.2.1 15 = .ok (.invokevirtual 163, 3) := dc9_182 (by decide +kernel)
theorem d_CA_rank_18 : decode y_CA_rank.2.1 18 = .ok (.ifCond .eq 15, 3) := dc9_153 (by decide +kernel)
theorem d_CA_rank_21 : decode y_CA_rank.2.1 21 = .ok (.aload_n 0, 1) := dc9_42 (by decide +kernel)
theorem d_CA_rank_22 : decode y_CA_rank.2.1 22 = .ok (.getfield 63, 3) := dc9_180 (by decide +kernel)
theorem d_CA_rank_25 : decode y_CA_rank.2.1 25 = .ok (.getfield 287, 3) := dc9_180 (by decide +kernel)
theorem d_CA_rank_28 : decode y_CA_rank.2.1 28 = .ok (.iload_n 1, 1) := dc9_27 (by decide +kernel)
theorem d_CA_rank_29 : decode y_CA_rank.2.1 29 = .ok (.iaload, 1) := dc9_46 (by decide +kernel)
theorem d_CA_rank_30 : decode y_CA_rank.2.1 30 = .ok (.goto 4, 3) := dc9_167 (by decide +kernel)
theorem k_CA_rank {G : mG} {d : Nat} {a0 : Nat} {l1 : Int} {M : mM} {Q : Int → mM → Prop} (hO : mOk M) (hi_l1 : i32 l1)
    (h : mK M a0 = 1 ∧ mK M (mR M a0 11) = 13 ∧ ((mI M (mR M a0 11) 1 = 0) → (Q (-1) M)) ∧ (¬ (mI M (mR M a0 11) 1 = 0) → (mK M (mR M a0 9) = 7 ∧ Ci G y_Ga_hasState d [vr (mR M a0 9), vi l1] M (fun x8 M7 => i32 x8 ∧ mOk M7 ∧ ((¬ (x8 = 0) → (mK M7 a0 = 1 ∧ mK M7 (mR M7 a0 10) = 8 ∧ mK M7 (mR M7 (mR M7 a0 10) 1) = 30 ∧ ((0 : Int) ≤ l1 ∧ l1 < (mN M7 (mR M7 (mR M7 a0 10) 1) : Int)))) ∧ ∀ v15 : Int, v15 = (if (x8 = 0) then (-1) else mI M7 (mR M7 (mR M7 a0 10) 1) (Int.toNat l1)) → Q v15 M7))))) :
    Ci G y_CA_rank (d + 1) [vr a0, vi l1] M Q := by
  refine wm_open (y := y_CA_rank) rfl (Nat.le_of_ble_eq_true rfl) (L := [vr a0, vi l1]) rfl ?_
  obtain ⟨h1, h⟩ := h
  obtain ⟨h2, h⟩ := h
  refine wm_aload_n d_CA_rank_0 rfl rfl ?_
  refine gf_CA_70 rfl d_CA_rank_1 h1 ?_
  refine gf_CA_137 rfl d_CA_rank_4 h2 ?_
  refine wm_if_eq (tgt := 33) d_CA_rank_7 rfl (hO _ _).1 (fun c5 => ?_) (fun c5 => ?_)
  · replace h := h.1 c5
    refine wm_iconst d_CA_rank_33 ?_
    refine wm_ireturn d_CA_rank_34 rfl rfl ?_
    exact ⟨_, rfl, h⟩
  · replace h := h.2 c5
    obtain ⟨h6, h⟩ := h
    refine wm_aload_n d_CA_rank_10 rfl rfl ?_
    refine gf_CA_54 rfl d_CA_rank_11 h1 ?_
    refine wm_iload_n d_CA_rank_14 rfl rfl ?_
    refine cf_CA_163 rfl d_CA_rank_15 h6 (Nat.le_of_ble_eq_true rfl) (Ci.mono h (fun x8 M7 h => ?_))
    obtain ⟨h9, hOM7, h⟩ := h
    obtain ⟨s16, h⟩ := h
    have hJ : ∀ v15 : Int, v15 = (if (x8 = 0) then (-1) else mI M7 (mR M7 (mR M7 a0 10) 1) (Int.toNat l1)) → mWm G y_CA_rank (d + 1) 34 [vd, vd] [vi v15] M7 (fun r9 M9 => ∃ x9, r9 = some (vi x9) ∧ Q x9 M9) := by
      intro v15 e17
      have h := h v15 e17
      refine wm_ireturn d_CA_rank_34 rfl rfl ?_
      exact ⟨_, rfl, h⟩
    clear h
    have s18 := s16
    refine wm_if_eq (tgt := 33) d_CA_rank_18 rfl h9 (fun c10 => ?_) (fun c10 => ?_)
    · refine wm_iconst d_CA_rank_33 ?_
      refine wm_less (L' := [vd, vd]) ⟨Or.inl rfl, Or.inl rfl, trivial⟩ ?_
      exact hJ (-1) (if_pos c10).symm
    · have s18 := s18 c10
      obtain ⟨h11, h12, h13, h14⟩ := s18
      refine wm_aload_n d_CA_rank_21 rfl rfl ?_
      refine gf_CA_63 rfl d_CA_rank_22 h11 ?_
      refine gf_CA_287 rfl d_CA_rank_25 h12 ?_
      refine wm_iload_n d_CA_rank_28 rfl rfl ?_
      refine wm_iald d_CA_rank_29 h13 h14 ?_
      refine wm_goto (tgt := 34) d_CA_rank_30 rfl ?_
      refine wm_less (L' := [vd, vd]) ⟨Or.inl rfl, Or.inl rfl, trivial⟩ ?_
      exact hJ (mI M7 (mR M7 (mR M7 a0 10) 1) (Int.toNat l1)) (if_neg c10).symm
theorem d_CA_next_0 : decode y_CA_next.2.1 0 = .ok (.aload_n 0, 1) := dc9_42 (by decide +kernel)
theorem d_CA_next_1 : decode y_CA_next.2.1 1 = .ok (.getfield 54, 3) := dc9_180 (by decide +kernel)
theorem d_CA_next_4 : decode y_CA_next.2.1 4 = .ok (.iload_n 1, 1) := dc9_27 (by decide +kernel)
theorem d_CA_next_5 : decode y_CA_next.2.1 5 = .ok (.invokevirtual 163, 3) := dc9_182 (by decide +kernel)
theorem d_CA_next_8 : decode y_CA_next.2.1 8 = .ok (.ifCond .eq 7, 3) := dc9_153 (by decide +kernel)
theorem d_CA_next_11 : decode y_CA_next.2.1 11 = .ok (.iload_n 2, 1) := dc9_28 (by decide +kernel)
theorem d_CA_next_12 : decode y_CA_next.2.1 12 = .ok (.ifCond .ge 5, 3) := dc9_156 (by decide +kernel)
theorem d_CA_next_17 : decode y_CA_next.2.1 17 = .ok (.aload_n 0, 1) := dc9_42 (by decide +kernel)
theorem d_CA_next_18 : decode y_CA_next.2.1 18 = .ok (.getfield 54, 3) := dc9_180 (by decide +kernel)
theorem d_CA_next_21 : decode y_CA_next.2.1 21 = .ok (.iload_n 1, 1) := dc9_27 (by decide +kernel)
theorem d_CA_next_22 : decode y_CA_next.2.1 22 = .ok (.aload_n 0, 1) := dc9_42 (by decide +kernel)
theorem d_CA_next_23 : decode y_CA_next.2.1 23 = .ok (.getfield 54, 3) := dc9_180 (by decide +kernel)
theorem d_CA_next_26 : decode y_CA_next.2.1 26 = .ok (.getfield 226, 3) := dc9_180 (by decide +kernel)
theorem d_CA_next_29 : decode y_CA_next.2.1 29 = .ok (.iload_n 1, 1) := dc9_27 (by decide +kernel)
theorem d_CA_next_30 : decode y_CA_next.2.1 30 = .ok (.iaload, 1) := dc9_46 (by decide +kernel)
theorem d_CA_next_15 : decode y_CA_next.2.1 15 = .ok (.iconst (-1), 1) := dc9_2 (by decide +kernel)
theorem d_CA_next_16 : decode y_CA_next.2.1 16 = .ok (.ireturn, 1) := dc9_172 (by decide +kernel)
theorem d_CA_next_31 : decode y_CA_next.2.1 31 = .ok (.invokevirtual 180, 3) := dc9_182 (by decide +kernel)
theorem d_CA_next_34 : decode y_CA_next.2.1 34 = .ok (.istore_n 3, 1) := dc9_62 (by decide +kernel)
theorem d_CA_next_35 : decode y_CA_next.2.1 35 = .ok (.iload_n 3, 1) := dc9_29 (by decide +kernel)
theorem d_CA_next_36 : decode y_CA_next.2.1 36 = .ok (.iconst (-1), 1) := dc9_2 (by decide +kernel)
theorem d_CA_next_37 : decode y_CA_next.2.1 37 = .ok (.if_icmp .ne 7, 3) := dc9_160 (by decide +kernel)
theorem d_CA_next_40 : decode y_CA_next.2.1 40 = .ok (.iload_n 1, 1) := dc9_27 (by decide +kernel)
theorem d_CA_next_41 : decode y_CA_next.2.1 41 = .ok (.goto 12, 3) := dc9_167 (by decide +kernel)
theorem d_CA_next_44 : decode y_CA_next.2.1 44 = .ok (.aload_n 0, 1) := dc9_42 (by decide +kernel)
theorem d_CA_next_45 : decode y_CA_next.2.1 45 = .ok (.getfield 54, 3) := dc9_180 (by decide +kernel)
theorem d_CA_next_48 : decode y_CA_next.2.1 48 = .ok (.iload_n 3, 1) := dc9_29 (by decide +kernel)
theorem d_CA_next_49 : decode y_CA_next.2.1 49 = .ok (.iload_n 2, 1) := dc9_28 (by decide +kernel)
theorem d_CA_next_53 : decode y_CA_next.2.1 53 = .ok (.ireturn, 1) := dc9_172 (by decide +kernel)
theorem d_CA_next_50 : decode y_CA_next.2.1 50 = .ok (.invokevirtual 290, 3) := dc9_182 (by decide +kernel)
theorem k_CA_next {G : mG} {d : Nat} {a0 : Nat} {l1 : Int} {l2 : Int} {M : mM} {Q : Int → mM → Prop} (hO : mOk M) (hi_l1 : i32 l1) (hi_l2 : i32 l2)
    (h : mK M a0 = 1 ∧ mK M (mR M a0 9) = 7 ∧ Ci G y_Ga_hasState d [vr (mR M a0 9), vi l1] M (fun x4 M3 => i32 x4 ∧ mOk M3 ∧ ((((x4 = 0) ∨ (¬ (0 ≤ l2))) → (Q (-1) M3)) ∧ (¬ ((x4 = 0) ∨ (¬ (0 ≤ l2))) → (mK M3 a0 = 1 ∧ mK M3 (mR M3 a0 9) = 7 ∧ mK M3 (mR M3 (mR M3 a0 9) 3) = 30 ∧ ((0 : Int) ≤ l1 ∧ l1 < (mN M3 (mR M3 (mR M3 a0 9) 3) : Int)) ∧ Ci G y_Ga_commandAt d [vr (mR M3 a0 9), vi l1, vi (mI M3 (mR M3 (mR M3 a0 9) 3) (Int.toNat l1))] M3 (fun x16 M15 => i32 x16 ∧ mOk M15 ∧ (((x16 = (-1)) → (Q l1 M15)) ∧ (¬ (x16 = (-1)) → (mK M15 a0 = 1 ∧ mK M15 (mR M15 a0 9) = 7 ∧ Ci G y_Ga_drawn d [vr (mR M15 a0 9), vi x16, vi l2] M15 (fun x25 M24 => i32 x25 ∧ mOk M24 ∧ (Q x25 M24))))))))))) :
    Ci G y_CA_next (d + 1) [vr a0, vi l1, vi l2] M Q := by
  refine wm_open (y := y_CA_next) rfl (Nat.le_of_ble_eq_true rfl) (L := [vr a0, vi l1, vi l2, vd]) rfl ?_
  obtain ⟨h1, h⟩ := h
  obtain ⟨h2, h⟩ := h
  refine wm_aload_n d_CA_next_0 rfl rfl ?_
  refine gf_CA_54 rfl d_CA_next_1 h1 ?_
  refine wm_iload_n d_CA_next_4 rfl rfl ?_
  refine cf_CA_163 rfl d_CA_next_5 h2 (Nat.le_of_ble_eq_true rfl) (Ci.mono h (fun x4 M3 h => ?_))
  obtain ⟨h5, hOM3, h⟩ := h
  have hE0 : ((x4 = 0) ∨ (¬ (0 ≤ l2))) → mWm G y_CA_next (d + 1) 15 [vr a0, vi l1, vi l2, vd] [] M3 (fun r9 M9 => ∃ x9, r9 = some (vi x9) ∧ Q x9 M9) := by
    intro q9
    have h := h.1 q9
    refine wm_iconst d_CA_next_15 ?_
    refine wm_ireturn d_CA_next_16 rfl rfl ?_
    exact ⟨_, rfl, h⟩
  have hE1 : ¬ ((x4 = 0) ∨ (¬ (0 ≤ l2))) → mWm G y_CA_next (d + 1) 17 [vr a0, vi l1, vi l2, vd] [] M3 (fun r9 M9 => ∃ x9, r9 = some (vi x9) ∧ Q x9 M9) := by
    intro q10
    have h := h.2 q10
    obtain ⟨h11, h⟩ := h
    obtain ⟨h12, h⟩ := h
    obtain ⟨h13, h⟩ := h
    obtain ⟨h14, h⟩ := h
    refine wm_aload_n d_CA_next_17 rfl rfl ?_
    refine gf_CA_54 rfl d_CA_next_18 h11 ?_
    refine wm_iload_n d_CA_next_21 rfl rfl ?_
    refine wm_aload_n d_CA_next_22 rfl rfl ?_
    refine gf_CA_54 rfl d_CA_next_23 h11 ?_
    refine gf_CA_226 rfl d_CA_next_26 h12 ?_
    refine wm_iload_n d_CA_next_29 rfl rfl ?_
    refine wm_iald d_CA_next_30 h13 h14 ?_
    refine cf_CA_180 rfl d_CA_next_31 h12 (Nat.le_of_ble_eq_true rfl) (Ci.mono h (fun x16 M15 h => ?_))
    obtain ⟨h17, hOM15, h⟩ := h
    refine wm_istore_n d_CA_next_34 rfl (by decide) (L' := [vr a0, vi l1, vi l2, vi x16]) rfl ?_
    refine wm_iload_n d_CA_next_35 rfl rfl ?_
    refine wm_iconst d_CA_next_36 ?_
    refine wm_icmp_ne (tgt := 44) d_CA_next_37 rfl h17 ⟨by decide, by decide⟩ (fun c21 => ?_) (fun c21 => ?_)
    · replace h := h.2 c21
      obtain ⟨h22, h⟩ := h
      obtain ⟨h23, h⟩ := h
      refine wm_aload_n d_CA_next_44 rfl rfl ?_
      refine gf_CA_54 rfl d_CA_next_45 h22 ?_
      refine wm_iload_n d_CA_next_48 rfl rfl ?_
      refine wm_iload_n d_CA_next_49 rfl rfl ?_
      refine cf_CA_290 rfl d_CA_next_50 h23 (Nat.le_of_ble_eq_true rfl) (Ci.mono h (fun x25 M24 h => ?_))
      obtain ⟨h26, hOM24, h⟩ := h
      refine wm_ireturn d_CA_next_53 rfl rfl ?_
      exact ⟨_, rfl, h⟩
    · replace c21 := Classical.not_not.mp c21
      replace h := h.1 c21
      refine wm_iload_n d_CA_next_40 rfl rfl ?_
      refine wm_goto (tgt := 53) d_CA_next_41 rfl ?_
      refine wm_ireturn d_CA_next_53 rfl rfl ?_
      exact ⟨_, rfl, h⟩
  clear h
  refine wm_if_eq (tgt := 15) d_CA_next_8 rfl h5 (fun c7 => ?_) (fun c7 => ?_)
  · exact hE0 (Or.inl c7)
  · refine wm_iload_n d_CA_next_11 rfl rfl ?_
    refine wm_if_ge (tgt := 17) d_CA_next_12 rfl hi_l2 (fun c6 => ?_) (fun c6 => ?_)
    · exact hE1 (fun z27 => Or.elim z27 c7 (fun z28 => z28 c6))
    · exact hE0 (Or.inr c6)
theorem d_CA_check_0 : decode y_CA_check.2.1 0 = .ok (.aload_n 0, 1) := dc9_42 (by decide +kernel)
theorem d_CA_check_1 : decode y_CA_check.2.1 1 = .ok (.getfield 70, 3) := dc9_180 (by decide +kernel)
theorem d_CA_check_4 : decode y_CA_check.2.1 4 = .ok (.getfield 137, 3) := dc9_180 (by decide +kernel)
theorem d_CA_check_7 : decode y_CA_check.2.1 7 = .ok (.ifCond .ne 5, 3) := dc9_154 (by decide +kernel)
theorem d_CA_check_10 : decode y_CA_check.2.1 10 = .ok (.iconst (-1), 1) := dc9_2 (by decide +kernel)
theorem d_CA_check_11 : decode y_CA_check.2.1 11 = .ok (.ireturn, 1) := dc9_172 (by decide +kernel)
theorem d_CA_check_12 : decode y_CA_check.2.1 12 = .ok (.aload_n 0, 1) := dc9_42 (by decide +kernel)
theorem d_CA_check_13 : decode y_CA_check.2.1 13 = .ok (.getfield 63, 3) := dc9_180 (by decide +kernel)
theorem d_CA_check_16 : decode y_CA_check.2.1 16 = .ok (.aload_n 0, 1) := dc9_42 (by decide +kernel)
theorem d_CA_check_17 : decode y_CA_check.2.1 17 = .ok (.getfield 70, 3) := dc9_180 (by decide +kernel)
theorem d_CA_check_20 : decode y_CA_check.2.1 20 = .ok (.invokevirtual 293, 3) := dc9_182 (by decide +kernel)
theorem d_CA_check_23 : decode y_CA_check.2.1 23 = .ok (.ifCond .eq 7, 3) := dc9_153 (by decide +kernel)
theorem d_CA_check_30 : decode y_CA_check.2.1 30 = .ok (.iconst 0, 1) := dc9_3 (by decide +kernel)
theorem d_CA_check_26 : decode y_CA_check.2.1 26 = .ok (.iconst 1, 1) := dc9_4 (by decide +kernel)
theorem d_CA_check_27 : decode y_CA_check.2.1 27 = .ok (.goto 4, 3) := dc9_167 (by decide +kernel)
theorem d_CA_check_31 : decode y_CA_check.2.1 31 = .ok (.ireturn, 1) := dc9_172 (by decide +kernel)
theorem k_CA_check {G : mG} {d : Nat} {a0 : Nat} {M : mM} {Q : Int → mM → Prop} (hO : mOk M)
    (h : mK M a0 = 1 ∧ mK M (mR M a0 11) = 13 ∧ ((mI M (mR M a0 11) 1 = 0) → (Q (-1) M)) ∧ (¬ (mI M (mR M a0 11) 1 = 0) → (mK M (mR M a0 10) = 8 ∧ Ci G y_So_holds d [vr (mR M a0 10), vr (mR M a0 11)] M (fun x7 M6 => i32 x7 ∧ mOk M6 ∧ (∀ v10 : Int, v10 = (if (x7 = 0) then 0 else 1) → Q v10 M6))))) :
    Ci G y_CA_check (d + 1) [vr a0] M Q := by
  refine wm_open (y := y_CA_check) rfl (Nat.le_of_ble_eq_true rfl) (L := [vr a0]) rfl ?_
  obtain ⟨h1, h⟩ := h
  obtain ⟨h2, h⟩ := h
  refine wm_aload_n d_CA_check_0 rfl rfl ?_
  refine gf_CA_70 rfl d_CA_check_1 h1 ?_
  refine gf_CA_137 rfl d_CA_check_4 h2 ?_
  refine wm_if_ne (tgt := 12) d_CA_check_7 rfl (hO _ _).1 (fun c4 => ?_) (fun c4 => ?_)
  · replace h := h.2 c4
    obtain ⟨h5, h⟩ := h
    refine wm_aload_n d_CA_check_12 rfl rfl ?_
    refine gf_CA_63 rfl d_CA_check_13 h1 ?_
    refine wm_aload_n d_CA_check_16 rfl rfl ?_
    refine gf_CA_70 rfl d_CA_check_17 h1 ?_
    refine cf_CA_293 rfl d_CA_check_20 h5 (Nat.le_of_ble_eq_true rfl) (Ci.mono h (fun x7 M6 h => ?_))
    obtain ⟨h8, hOM6, h⟩ := h
    have hJ : ∀ v10 : Int, v10 = (if (x7 = 0) then 0 else 1) → mWm G y_CA_check (d + 1) 31 [vd] [vi v10] M6 (fun r9 M9 => ∃ x9, r9 = some (vi x9) ∧ Q x9 M9) := by
      intro v10 e12
      have h := h v10 e12
      have h13 : i32 v10 := by rw [e12]; (repeat' split) <;> first | exact ⟨by decide, by decide⟩ | exact ⟨by decide, by decide⟩
      have h14 : (v10 = 0 ∨ v10 = 1) := by rw [e12]; (repeat' split) <;> decide
      refine wm_ireturn d_CA_check_31 rfl rfl ?_
      exact ⟨_, rfl, h⟩
    clear h
    refine wm_if_eq (tgt := 30) d_CA_check_23 rfl h8 (fun c9 => ?_) (fun c9 => ?_)
    · refine wm_iconst d_CA_check_30 ?_
      refine wm_less (L' := [vd]) ⟨Or.inl rfl, trivial⟩ ?_
      exact hJ 0 (if_pos c9).symm
    · refine wm_iconst d_CA_check_26 ?_
      refine wm_goto (tgt := 31) d_CA_check_27 rfl ?_
      refine wm_less (L' := [vd]) ⟨Or.inl rfl, trivial⟩ ?_
      exact hJ 1 (if_neg c9).symm
  · replace c4 := Classical.not_not.mp c4
    replace h := h.1 c4
    refine wm_iconst d_CA_check_10 ?_
    refine wm_ireturn d_CA_check_11 rfl rfl ?_
    exact ⟨_, rfl, h⟩
theorem d_MM_init_0 : decode y_MM_init.2.1 0 = .ok (.aload_n 0, 1) := dc9_42 (by decide +kernel)
theorem d_MM_init_1 : decode y_MM_init.2.1 1 = .ok (.invokespecial 1, 3) := dc9_183 (by decide +kernel)
theorem d_MM_init_4 : decode y_MM_init.2.1 4 = .ok (.aload_n 0, 1) := dc9_42 (by decide +kernel)
theorem d_MM_init_5 : decode y_MM_init.2.1 5 = .ok (.new 7, 3) := dc9_187 (by decide +kernel)
theorem d_MM_init_8 : decode y_MM_init.2.1 8 = .ok (.dup, 1) := dc9_89 (by decide +kernel)
theorem d_MM_init_9 : decode y_MM_init.2.1 9 = .ok (.invokespecial 9, 3) := dc9_183 (by decide +kernel)
theorem d_MM_init_12 : decode y_MM_init.2.1 12 = .ok (.putfield 10, 3) := dc9_181 (by decide +kernel)
theorem d_MM_init_15 : decode y_MM_init.2.1 15 = .ok (.aload_n 0, 1) := dc9_42 (by decide +kernel)
theorem d_MM_init_16 : decode y_MM_init.2.1 16 = .ok (.new 7, 3) := dc9_187 (by decide +kernel)
theorem d_MM_init_19 : decode y_MM_init.2.1 19 = .ok (.dup, 1) := dc9_89 (by decide +kernel)
theorem d_MM_init_20 : decode y_MM_init.2.1 20 = .ok (.invokespecial 9, 3) := dc9_183 (by decide +kernel)
theorem d_MM_init_23 : decode y_MM_init.2.1 23 = .ok (.putfield 16, 3) := dc9_181 (by decide +kernel)
theorem d_MM_init_26 : decode y_MM_init.2.1 26 = .ok (.aload_n 0, 1) := dc9_42 (by decide +kernel)
theorem d_MM_init_27 : decode y_MM_init.2.1 27 = .ok (.new 7, 3) := dc9_187 (by decide +kernel)
theorem d_MM_init_30 : decode y_MM_init.2.1 30 = .ok (.dup, 1) := dc9_89 (by decide +kernel)
theorem d_MM_init_31 : decode y_MM_init.2.1 31 = .ok (.invokespecial 9, 3) := dc9_183 (by decide +kernel)
theorem d_MM_init_34 : decode y_MM_init.2.1 34 = .ok (.putfield 19, 3) := dc9_181 (by decide +kernel)
theorem d_MM_init_37 : decode y_MM_init.2.1 37 = .ok (.aload_n 0, 1) := dc9_42 (by decide +kernel)
theorem d_MM_init_38 : decode y_MM_init.2.1 38 = .ok (.new 7, 3) := dc9_187 (by decide +kernel)
theorem d_MM_init_41 : decode y_MM_init.2.1 41 = .ok (.dup, 1) := dc9_89 (by decide +kernel)
theorem d_MM_init_42 : decode y_MM_init.2.1 42 = .ok (.invokespecial 9, 3) := dc9_183 (by decide +kernel)
theorem d_MM_init_45 : decode y_MM_init.2.1 45 = .ok (.putfield 22, 3) := dc9_181 (by decide +kernel)
theorem d_MM_init_48 : decode y_MM_init.2.1 48 = .ok (.aload_n 0, 1) := dc9_42 (by decide +kernel)
theorem d_MM_init_49 : decode y_MM_init.2.1 49 = .ok (.new 7, 3) := dc9_187 (by decide +kernel)
theorem d_MM_init_52 : decode y_MM_init.2.1 52 = .ok (.dup, 1) := dc9_89 (by decide +kernel)
theorem d_MM_init_53 : decode y_MM_init.2.1 53 = .ok (.invokespecial 9, 3) := dc9_183 (by decide +kernel)
theorem d_MM_init_56 : decode y_MM_init.2.1 56 = .ok (.putfield 25, 3) := dc9_181 (by decide +kernel)
theorem d_MM_init_59 : decode y_MM_init.2.1 59 = .ok (.aload_n 0, 1) := dc9_42 (by decide +kernel)
theorem d_MM_init_60 : decode y_MM_init.2.1 60 = .ok (.new 7, 3) := dc9_187 (by decide +kernel)
theorem d_MM_init_63 : decode y_MM_init.2.1 63 = .ok (.dup, 1) := dc9_89 (by decide +kernel)
theorem d_MM_init_64 : decode y_MM_init.2.1 64 = .ok (.invokespecial 9, 3) := dc9_183 (by decide +kernel)
theorem d_MM_init_67 : decode y_MM_init.2.1 67 = .ok (.putfield 28, 3) := dc9_181 (by decide +kernel)
theorem d_MM_init_70 : decode y_MM_init.2.1 70 = .ok (.aload_n 0, 1) := dc9_42 (by decide +kernel)
theorem d_MM_init_71 : decode y_MM_init.2.1 71 = .ok (.new 31, 3) := dc9_187 (by decide +kernel)
theorem d_MM_init_74 : decode y_MM_init.2.1 74 = .ok (.dup, 1) := dc9_89 (by decide +kernel)
theorem d_MM_init_75 : decode y_MM_init.2.1 75 = .ok (.invokespecial 33, 3) := dc9_183 (by decide +kernel)
theorem d_MM_init_78 : decode y_MM_init.2.1 78 = .ok (.putfield 34, 3) := dc9_181 (by decide +kernel)
theorem d_MM_init_81 : decode y_MM_init.2.1 81 = .ok (.aload_n 0, 1) := dc9_42 (by decide +kernel)
theorem d_MM_init_82 : decode y_MM_init.2.1 82 = .ok (.new 31, 3) := dc9_187 (by decide +kernel)
theorem d_MM_init_85 : decode y_MM_init.2.1 85 = .ok (.dup, 1) := dc9_89 (by decide +kernel)
theorem d_MM_init_86 : decode y_MM_init.2.1 86 = .ok (.invokespecial 33, 3) := dc9_183 (by decide +kernel)
theorem d_MM_init_89 : decode y_MM_init.2.1 89 = .ok (.putfield 38, 3) := dc9_181 (by decide +kernel)
theorem d_MM_init_92 : decode y_MM_init.2.1 92 = .ok (.aload_n 0, 1) := dc9_42 (by decide +kernel)
theorem d_MM_init_93 : decode y_MM_init.2.1 93 = .ok (.iconst (-1), 1) := dc9_2 (by decide +kernel)
theorem d_MM_init_94 : decode y_MM_init.2.1 94 = .ok (.putfield 41, 3) := dc9_181 (by decide +kernel)
theorem d_MM_init_97 : decode y_MM_init.2.1 97 = .ok (.aload_n 0, 1) := dc9_42 (by decide +kernel)
theorem d_MM_init_98 : decode y_MM_init.2.1 98 = .ok (.new 7, 3) := dc9_187 (by decide +kernel)
theorem d_MM_init_101 : decode y_MM_init.2.1 101 = .ok (.dup, 1) := dc9_89 (by decide +kernel)
theorem d_MM_init_102 : decode y_MM_init.2.1 102 = .ok (.invokespecial 9, 3) := dc9_183 (by decide +kernel)
theorem d_MM_init_105 : decode y_MM_init.2.1 105 = .ok (.putfield 45, 3) := dc9_181 (by decide +kernel)
theorem d_MM_init_108 : decode y_MM_init.2.1 108 = .ok (.aload_n 0, 1) := dc9_42 (by decide +kernel)
theorem d_MM_init_109 : decode y_MM_init.2.1 109 = .ok (.new 7, 3) := dc9_187 (by decide +kernel)
theorem d_MM_init_112 : decode y_MM_init.2.1 112 = .ok (.dup, 1) := dc9_89 (by decide +kernel)
theorem d_MM_init_113 : decode y_MM_init.2.1 113 = .ok (.invokespecial 9, 3) := dc9_183 (by decide +kernel)
theorem d_MM_init_116 : decode y_MM_init.2.1 116 = .ok (.putfield 48, 3) := dc9_181 (by decide +kernel)
theorem d_MM_init_119 : decode y_MM_init.2.1 119 = .ok (.aload_n 0, 1) := dc9_42 (by decide +kernel)
theorem d_MM_init_120 : decode y_MM_init.2.1 120 = .ok (.new 7, 3) := dc9_187 (by decide +kernel)
theorem d_MM_init_123 : decode y_MM_init.2.1 123 = .ok (.dup, 1) := dc9_89 (by decide +kernel)
theorem d_MM_init_124 : decode y_MM_init.2.1 124 = .ok (.invokespecial 9, 3) := dc9_183 (by decide +kernel)
theorem d_MM_init_127 : decode y_MM_init.2.1 127 = .ok (.putfield 51, 3) := dc9_181 (by decide +kernel)
theorem d_MM_init_130 : decode y_MM_init.2.1 130 = .ok (.aload_n 0, 1) := dc9_42 (by decide +kernel)
theorem d_MM_init_131 : decode y_MM_init.2.1 131 = .ok (.new 7, 3) := dc9_187 (by decide +kernel)
theorem d_MM_init_134 : decode y_MM_init.2.1 134 = .ok (.dup, 1) := dc9_89 (by decide +kernel)
theorem d_MM_init_135 : decode y_MM_init.2.1 135 = .ok (.invokespecial 9, 3) := dc9_183 (by decide +kernel)
theorem d_MM_init_138 : decode y_MM_init.2.1 138 = .ok (.putfield 54, 3) := dc9_181 (by decide +kernel)
theorem d_MM_init_141 : decode y_MM_init.2.1 141 = .ok (.aload_n 0, 1) := dc9_42 (by decide +kernel)
theorem d_MM_init_142 : decode y_MM_init.2.1 142 = .ok (.new 7, 3) := dc9_187 (by decide +kernel)
theorem d_MM_init_145 : decode y_MM_init.2.1 145 = .ok (.dup, 1) := dc9_89 (by decide +kernel)
theorem d_MM_init_146 : decode y_MM_init.2.1 146 = .ok (.invokespecial 9, 3) := dc9_183 (by decide +kernel)
theorem d_MM_init_149 : decode y_MM_init.2.1 149 = .ok (.putfield 57, 3) := dc9_181 (by decide +kernel)
theorem d_MM_init_152 : decode y_MM_init.2.1 152 = .ok (.aload_n 0, 1) := dc9_42 (by decide +kernel)
theorem d_MM_init_153 : decode y_MM_init.2.1 153 = .ok (.new 7, 3) := dc9_187 (by decide +kernel)
theorem d_MM_init_156 : decode y_MM_init.2.1 156 = .ok (.dup, 1) := dc9_89 (by decide +kernel)
theorem d_MM_init_157 : decode y_MM_init.2.1 157 = .ok (.invokespecial 9, 3) := dc9_183 (by decide +kernel)
theorem d_MM_init_160 : decode y_MM_init.2.1 160 = .ok (.putfield 60, 3) := dc9_181 (by decide +kernel)
theorem d_MM_init_163 : decode y_MM_init.2.1 163 = .ok (.aload_n 0, 1) := dc9_42 (by decide +kernel)
theorem d_MM_init_164 : decode y_MM_init.2.1 164 = .ok (.sipush 16400, 3) := dc9_17 (by decide +kernel)
theorem d_MM_init_167 : decode y_MM_init.2.1 167 = .ok (.newarray .long, 2) := by decide +kernel
theorem d_MM_init_169 : decode y_MM_init.2.1 169 = .ok (.putfield 63, 3) := dc9_181 (by decide +kernel)
theorem d_MM_init_172 : decode y_MM_init.2.1 172 = .ok (.aload_n 0, 1) := dc9_42 (by decide +kernel)
theorem d_MM_init_173 : decode y_MM_init.2.1 173 = .ok (.sipush 16400, 3) := dc9_17 (by decide +kernel)
theorem d_MM_init_176 : decode y_MM_init.2.1 176 = .ok (.newarray .long, 2) := by decide +kernel
theorem d_MM_init_178 : decode y_MM_init.2.1 178 = .ok (.putfield 67, 3) := dc9_181 (by decide +kernel)
theorem d_MM_init_181 : decode y_MM_init.2.1 181 = .ok (.aload_n 0, 1) := dc9_42 (by decide +kernel)
theorem d_MM_init_182 : decode y_MM_init.2.1 182 = .ok (.new 7, 3) := dc9_187 (by decide +kernel)
theorem d_MM_init_185 : decode y_MM_init.2.1 185 = .ok (.dup, 1) := dc9_89 (by decide +kernel)
theorem d_MM_init_186 : decode y_MM_init.2.1 186 = .ok (.invokespecial 9, 3) := dc9_183 (by decide +kernel)
theorem d_MM_init_189 : decode y_MM_init.2.1 189 = .ok (.putfield 70, 3) := dc9_181 (by decide +kernel)
theorem d_MM_init_192 : decode y_MM_init.2.1 192 = .ok (.aload_n 0, 1) := dc9_42 (by decide +kernel)
theorem d_MM_init_193 : decode y_MM_init.2.1 193 = .ok (.bipush 12, 2) := dc9_16 (by decide +kernel)
theorem d_MM_init_195 : decode y_MM_init.2.1 195 = .ok (.newarray .int, 2) := by decide +kernel
theorem d_MM_init_197 : decode y_MM_init.2.1 197 = .ok (.putfield 73, 3) := dc9_181 (by decide +kernel)
theorem d_MM_init_200 : decode y_MM_init.2.1 200 = .ok (.aload_n 0, 1) := dc9_42 (by decide +kernel)
theorem d_MM_init_201 : decode y_MM_init.2.1 201 = .ok (.bipush 60, 2) := dc9_16 (by decide +kernel)
theorem d_MM_init_203 : decode y_MM_init.2.1 203 = .ok (.newarray .boolean, 2) := by decide +kernel
theorem d_MM_init_205 : decode y_MM_init.2.1 205 = .ok (.putfield 77, 3) := dc9_181 (by decide +kernel)
theorem d_MM_init_208 : decode y_MM_init.2.1 208 = .ok (.aload_n 0, 1) := dc9_42 (by decide +kernel)
theorem d_MM_init_209 : decode y_MM_init.2.1 209 = .ok (.bipush 60, 2) := dc9_16 (by decide +kernel)
theorem d_MM_init_211 : decode y_MM_init.2.1 211 = .ok (.newarray .long, 2) := by decide +kernel
theorem d_MM_init_213 : decode y_MM_init.2.1 213 = .ok (.putfield 81, 3) := dc9_181 (by decide +kernel)
theorem d_MM_init_216 : decode y_MM_init.2.1 216 = .ok (.aload_n 0, 1) := dc9_42 (by decide +kernel)
theorem d_MM_init_217 : decode y_MM_init.2.1 217 = .ok (.bipush 60, 2) := dc9_16 (by decide +kernel)
theorem d_MM_init_219 : decode y_MM_init.2.1 219 = .ok (.newarray .long, 2) := by decide +kernel
theorem d_MM_init_221 : decode y_MM_init.2.1 221 = .ok (.putfield 84, 3) := dc9_181 (by decide +kernel)
theorem d_MM_init_224 : decode y_MM_init.2.1 224 = .ok (.aload_n 0, 1) := dc9_42 (by decide +kernel)
theorem d_MM_init_225 : decode y_MM_init.2.1 225 = .ok (.iconst (-1), 1) := dc9_2 (by decide +kernel)
theorem d_MM_init_226 : decode y_MM_init.2.1 226 = .ok (.putfield 87, 3) := dc9_181 (by decide +kernel)
theorem d_MM_init_229 : decode y_MM_init.2.1 229 = .ok (.aload_n 0, 1) := dc9_42 (by decide +kernel)
theorem d_MM_init_230 : decode y_MM_init.2.1 230 = .ok (.sipush 6144, 3) := dc9_17 (by decide +kernel)
theorem d_MM_init_233 : decode y_MM_init.2.1 233 = .ok (.newarray .int, 2) := by decide +kernel
theorem d_MM_init_235 : decode y_MM_init.2.1 235 = .ok (.putfield 90, 3) := dc9_181 (by decide +kernel)
theorem d_MM_init_238 : decode y_MM_init.2.1 238 = .ok (.aload_n 0, 1) := dc9_42 (by decide +kernel)
theorem d_MM_init_239 : decode y_MM_init.2.1 239 = .ok (.sipush 512, 3) := dc9_17 (by decide +kernel)
theorem d_MM_init_242 : decode y_MM_init.2.1 242 = .ok (.newarray .int, 2) := by decide +kernel
theorem d_MM_init_244 : decode y_MM_init.2.1 244 = .ok (.putfield 93, 3) := dc9_181 (by decide +kernel)
theorem d_MM_init_247 : decode y_MM_init.2.1 247 = .ok (.aload_n 0, 1) := dc9_42 (by decide +kernel)
theorem d_MM_init_248 : decode y_MM_init.2.1 248 = .ok (.sipush 512, 3) := dc9_17 (by decide +kernel)
theorem d_MM_init_251 : decode y_MM_init.2.1 251 = .ok (.newarray .int, 2) := by decide +kernel
theorem d_MM_init_253 : decode y_MM_init.2.1 253 = .ok (.putfield 96, 3) := dc9_181 (by decide +kernel)
theorem d_MM_init_256 : decode y_MM_init.2.1 256 = .ok (.aload_n 0, 1) := dc9_42 (by decide +kernel)
theorem d_MM_init_257 : decode y_MM_init.2.1 257 = .ok (.sipush 512, 3) := dc9_17 (by decide +kernel)
theorem d_MM_init_260 : decode y_MM_init.2.1 260 = .ok (.newarray .int, 2) := by decide +kernel
theorem d_MM_init_262 : decode y_MM_init.2.1 262 = .ok (.putfield 99, 3) := dc9_181 (by decide +kernel)
theorem d_MM_init_265 : decode y_MM_init.2.1 265 = .ok (.aload_n 0, 1) := dc9_42 (by decide +kernel)
theorem d_MM_init_266 : decode y_MM_init.2.1 266 = .ok (.new 7, 3) := dc9_187 (by decide +kernel)
theorem d_MM_init_269 : decode y_MM_init.2.1 269 = .ok (.dup, 1) := dc9_89 (by decide +kernel)
theorem d_MM_init_270 : decode y_MM_init.2.1 270 = .ok (.invokespecial 9, 3) := dc9_183 (by decide +kernel)
theorem d_MM_init_273 : decode y_MM_init.2.1 273 = .ok (.putfield 102, 3) := dc9_181 (by decide +kernel)
theorem d_MM_init_276 : decode y_MM_init.2.1 276 = .ok (.aload_n 0, 1) := dc9_42 (by decide +kernel)
theorem d_MM_init_277 : decode y_MM_init.2.1 277 = .ok (.new 7, 3) := dc9_187 (by decide +kernel)
theorem d_MM_init_280 : decode y_MM_init.2.1 280 = .ok (.dup, 1) := dc9_89 (by decide +kernel)
theorem d_MM_init_281 : decode y_MM_init.2.1 281 = .ok (.invokespecial 9, 3) := dc9_183 (by decide +kernel)
theorem d_MM_init_284 : decode y_MM_init.2.1 284 = .ok (.putfield 105, 3) := dc9_181 (by decide +kernel)
theorem d_MM_init_287 : decode y_MM_init.2.1 287 = .ok (.aload_n 0, 1) := dc9_42 (by decide +kernel)
theorem d_MM_init_288 : decode y_MM_init.2.1 288 = .ok (.new 7, 3) := dc9_187 (by decide +kernel)
theorem d_MM_init_291 : decode y_MM_init.2.1 291 = .ok (.dup, 1) := dc9_89 (by decide +kernel)
theorem d_MM_init_292 : decode y_MM_init.2.1 292 = .ok (.invokespecial 9, 3) := dc9_183 (by decide +kernel)
theorem d_MM_init_295 : decode y_MM_init.2.1 295 = .ok (.putfield 108, 3) := dc9_181 (by decide +kernel)
theorem d_MM_init_298 : decode y_MM_init.2.1 298 = .ok (.aload_n 0, 1) := dc9_42 (by decide +kernel)
theorem d_MM_init_299 : decode y_MM_init.2.1 299 = .ok (.new 7, 3) := dc9_187 (by decide +kernel)
theorem d_MM_init_302 : decode y_MM_init.2.1 302 = .ok (.dup, 1) := dc9_89 (by decide +kernel)
theorem d_MM_init_303 : decode y_MM_init.2.1 303 = .ok (.invokespecial 9, 3) := dc9_183 (by decide +kernel)
theorem d_MM_init_306 : decode y_MM_init.2.1 306 = .ok (.putfield 111, 3) := dc9_181 (by decide +kernel)
theorem d_MM_init_309 : decode y_MM_init.2.1 309 = .ok (.aload_n 0, 1) := dc9_42 (by decide +kernel)
theorem d_MM_init_310 : decode y_MM_init.2.1 310 = .ok (.new 114, 3) := dc9_187 (by decide +kernel)
theorem d_MM_init_313 : decode y_MM_init.2.1 313 = .ok (.dup, 1) := dc9_89 (by decide +kernel)
theorem d_MM_init_314 : decode y_MM_init.2.1 314 = .ok (.invokespecial 116, 3) := dc9_183 (by decide +kernel)
theorem d_MM_init_317 : decode y_MM_init.2.1 317 = .ok (.putfield 117, 3) := dc9_181 (by decide +kernel)
theorem d_MM_init_320 : decode y_MM_init.2.1 320 = .ok (.aload_n 0, 1) := dc9_42 (by decide +kernel)
theorem d_MM_init_321 : decode y_MM_init.2.1 321 = .ok (.sipush 4096, 3) := dc9_17 (by decide +kernel)
theorem d_MM_init_324 : decode y_MM_init.2.1 324 = .ok (.newarray .int, 2) := by decide +kernel
theorem d_MM_init_326 : decode y_MM_init.2.1 326 = .ok (.putfield 121, 3) := dc9_181 (by decide +kernel)
theorem d_MM_init_329 : decode y_MM_init.2.1 329 = .ok (.aload_n 0, 1) := dc9_42 (by decide +kernel)
theorem d_MM_init_330 : decode y_MM_init.2.1 330 = .ok (.sipush 4096, 3) := dc9_17 (by decide +kernel)
theorem d_MM_init_333 : decode y_MM_init.2.1 333 = .ok (.newarray .long, 2) := by decide +kernel
theorem d_MM_init_335 : decode y_MM_init.2.1 335 = .ok (.putfield 124, 3) := dc9_181 (by decide +kernel)
theorem d_MM_init_338 : decode y_MM_init.2.1 338 = .ok (.aload_n 0, 1) := dc9_42 (by decide +kernel)
theorem d_MM_init_339 : decode y_MM_init.2.1 339 = .ok (.sipush 4096, 3) := dc9_17 (by decide +kernel)
theorem d_MM_init_342 : decode y_MM_init.2.1 342 = .ok (.newarray .long, 2) := by decide +kernel
theorem d_MM_init_344 : decode y_MM_init.2.1 344 = .ok (.putfield 127, 3) := dc9_181 (by decide +kernel)
theorem d_MM_init_347 : decode y_MM_init.2.1 347 = .ok (.aload_n 0, 1) := dc9_42 (by decide +kernel)
theorem d_MM_init_348 : decode y_MM_init.2.1 348 = .ok (.bipush 12, 2) := dc9_16 (by decide +kernel)
theorem d_MM_init_350 : decode y_MM_init.2.1 350 = .ok (.newarray .int, 2) := by decide +kernel
theorem d_MM_init_352 : decode y_MM_init.2.1 352 = .ok (.putfield 130, 3) := dc9_181 (by decide +kernel)
theorem d_MM_init_355 : decode y_MM_init.2.1 355 = .ok (.aload_n 0, 1) := dc9_42 (by decide +kernel)
theorem d_MM_init_356 : decode y_MM_init.2.1 356 = .ok (.bipush 8, 2) := dc9_16 (by decide +kernel)
theorem d_MM_init_358 : decode y_MM_init.2.1 358 = .ok (.newarray .long, 2) := by decide +kernel
theorem d_MM_init_360 : decode y_MM_init.2.1 360 = .ok (.putfield 133, 3) := dc9_181 (by decide +kernel)
theorem d_MM_init_363 : decode y_MM_init.2.1 363 = .ok (.aload_n 0, 1) := dc9_42 (by decide +kernel)
theorem d_MM_init_364 : decode y_MM_init.2.1 364 = .ok (.bipush 8, 2) := dc9_16 (by decide +kernel)
theorem d_MM_init_366 : decode y_MM_init.2.1 366 = .ok (.newarray .long, 2) := by decide +kernel
theorem d_MM_init_368 : decode y_MM_init.2.1 368 = .ok (.putfield 136, 3) := dc9_181 (by decide +kernel)
theorem d_MM_init_371 : decode y_MM_init.2.1 371 = .ok (.aload_n 0, 1) := dc9_42 (by decide +kernel)
theorem d_MM_init_372 : decode y_MM_init.2.1 372 = .ok (.sipush 900, 3) := dc9_17 (by decide +kernel)
theorem d_MM_init_375 : decode y_MM_init.2.1 375 = .ok (.newarray .int, 2) := by decide +kernel
theorem d_MM_init_377 : decode y_MM_init.2.1 377 = .ok (.putfield 139, 3) := dc9_181 (by decide +kernel)
theorem d_MM_init_380 : decode y_MM_init.2.1 380 = .ok (.return_, 1) := dc9_177 (by decide +kernel)
theorem k_MM_init {G : mG} {d : Nat} {a0 : Nat} {M : mM} {Q : mM → Prop} (hO : mOk M)
    (h : 0 < a0 ∧ ∀ M2, M2 = mNew M 15 0 2 → Cv G y_MN_init d [vr (mZ M)] M2 (fun M4 => mOk M4 ∧ (mK M4 a0 = 14 ∧ ∀ M8, M8 = mUR M4 a0 1 (mZ M) → ∀ M10, M10 = mNew M8 15 0 2 → Cv G y_MN_init d [vr (mZ M8)] M10 (fun M12 => mOk M12 ∧ (mK M12 a0 = 14 ∧ ∀ M16, M16 = mUR M12 a0 2 (mZ M8) → ∀ M18, M18 = mNew M16 15 0 2 → Cv G y_MN_init d [vr (mZ M16)] M18 (fun M20 => mOk M20 ∧ (mK M20 a0 = 14 ∧ ∀ M24, M24 = mUR M20 a0 3 (mZ M16) → ∀ M26, M26 = mNew M24 15 0 2 → Cv G y_MN_init d [vr (mZ M24)] M26 (fun M28 => mOk M28 ∧ (mK M28 a0 = 14 ∧ ∀ M32, M32 = mUR M28 a0 4 (mZ M24) → ∀ M34, M34 = mNew M32 15 0 2 → Cv G y_MN_init d [vr (mZ M32)] M34 (fun M36 => mOk M36 ∧ (mK M36 a0 = 14 ∧ ∀ M40, M40 = mUR M36 a0 5 (mZ M32) → ∀ M42, M42 = mNew M40 15 0 2 → Cv G y_MN_init d [vr (mZ M40)] M42 (fun M44 => mOk M44 ∧ (mK M44 a0 = 14 ∧ ∀ M48, M48 = mUR M44 a0 6 (mZ M40) → ∀ M50, M50 = mNew M48 16 0 30 → Cv G y_MG_init d [vr (mZ M48)] M50 (fun M52 => mOk M52 ∧ (mK M52 a0 = 14 ∧ ∀ M56, M56 = mUR M52 a0 9 (mZ M48) → ∀ M58, M58 = mNew M56 16 0 30 → Cv G y_MG_init d [vr (mZ M56)] M58 (fun M60 => mOk M60 ∧ (mK M60 a0 = 14 ∧ ∀ M64, M64 = mUR M60 a0 10 (mZ M56) → ∀ M66, M66 = mUI M64 a0 12 (-1) → ∀ M68, M68 = mNew M66 15 0 2 → Cv G y_MN_init d [vr (mZ M66)] M68 (fun M70 => mOk M70 ∧ (mK M70 a0 = 14 ∧ ∀ M74, M74 = mUR M70 a0 13 (mZ M66) → ∀ M76, M76 = mNew M74 15 0 2 → Cv G y_MN_init d [vr (mZ M74)] M76 (fun M78 => mOk M78 ∧ (mK M78 a0 = 14 ∧ ∀ M82, M82 = mUR M78 a0 14 (mZ M74) → ∀ M84, M84 = mNew M82 15 0 2 → Cv G y_MN_init d [vr (mZ M82)] M84 (fun M86 => mOk M86 ∧ (mK M86 a0 = 14 ∧ ∀ M90, M90 = mUR M86 a0 15 (mZ M82) → ∀ M92, M92 = mNew M90 15 0 2 → Cv G y_MN_init d [vr (mZ M90)] M92 (fun M94 => mOk M94 ∧ (mK M94 a0 = 14 ∧ ∀ M98, M98 = mUR M94 a0 18 (mZ M90) → ∀ M100, M100 = mNew M98 15 0 2 → Cv G y_MN_init d [vr (mZ M98)] M100 (fun M102 => mOk M102 ∧ (mK M102 a0 = 14 ∧ ∀ M106, M106 = mUR M102 a0 19 (mZ M98) → ∀ M108, M108 = mNew M106 15 0 2 → Cv G y_MN_init d [vr (mZ M106)] M108 (fun M110 => mOk M110 ∧ (mK M110 a0 = 14 ∧ ∀ M114, M114 = mUR M110 a0 20 (mZ M106) → ∀ M116, M116 = mNew M114 33 16400 16400 → mK M116 a0 = 14 ∧ ∀ M119, M119 = mUR M116 a0 21 (mZ M114) → ∀ M121, M121 = mNew M119 33 16400 16400 → mK M121 a0 = 14 ∧ ∀ M124, M124 = mUR M121 a0 22 (mZ M119) → ∀ M126, M126 = mNew M124 15 0 2 → Cv G y_MN_init d [vr (mZ M124)] M126 (fun M128 => mOk M128 ∧ (mK M128 a0 = 14 ∧ ∀ M132, M132 = mUR M128 a0 24 (mZ M124) → ∀ M134, M134 = mNew M132 30 12 12 → mK M134 a0 = 14 ∧ ∀ M137, M137 = mUR M134 a0 25 (mZ M132) → ∀ M139, M139 = mNew M137 31 60 60 → mK M139 a0 = 14 ∧ ∀ M142, M142 = mUR M139 a0 26 (mZ M137) → ∀ M144, M144 = mNew M142 33 60 60 → mK M144 a0 = 14 ∧ ∀ M147, M147 = mUR M144 a0 27 (mZ M142) → ∀ M149, M149 = mNew M147 33 60 60 → mK M149 a0 = 14 ∧ ∀ M152, M152 = mUR M149 a0 28 (mZ M147) → ∀ M154, M154 = mUI M152 a0 30 (-1) → ∀ M156, M156 = mNew M154 30 6144 6144 → mK M156 a0 = 14 ∧ ∀ M159, M159 = mUR M156 a0 31 (mZ M154) → ∀ M161, M161 = mNew M159 30 512 512 → mK M161 a0 = 14 ∧ ∀ M164, M164 = mUR M161 a0 32 (mZ M159) → ∀ M166, M166 = mNew M164 30 512 512 → mK M166 a0 = 14 ∧ ∀ M169, M169 = mUR M166 a0 33 (mZ M164) → ∀ M171, M171 = mNew M169 30 512 512 → mK M171 a0 = 14 ∧ ∀ M174, M174 = mUR M171 a0 34 (mZ M169) → ∀ M176, M176 = mNew M174 15 0 2 → Cv G y_MN_init d [vr (mZ M174)] M176 (fun M178 => mOk M178 ∧ (mK M178 a0 = 14 ∧ ∀ M182, M182 = mUR M178 a0 35 (mZ M174) → ∀ M184, M184 = mNew M182 15 0 2 → Cv G y_MN_init d [vr (mZ M182)] M184 (fun M186 => mOk M186 ∧ (mK M186 a0 = 14 ∧ ∀ M190, M190 = mUR M186 a0 36 (mZ M182) → ∀ M192, M192 = mNew M190 15 0 2 → Cv G y_MN_init d [vr (mZ M190)] M192 (fun M194 => mOk M194 ∧ (mK M194 a0 = 14 ∧ ∀ M198, M198 = mUR M194 a0 37 (mZ M190) → ∀ M200, M200 = mNew M198 15 0 2 → Cv G y_MN_init d [vr (mZ M198)] M200 (fun M202 => mOk M202 ∧ (mK M202 a0 = 14 ∧ ∀ M206, M206 = mUR M202 a0 38 (mZ M198) → ∀ M208, M208 = mNew M206 17 0 32 → Cv G y_MS_init d [vr (mZ M206)] M208 (fun M210 => mOk M210 ∧ (mK M210 a0 = 14 ∧ ∀ M214, M214 = mUR M210 a0 39 (mZ M206) → ∀ M216, M216 = mNew M214 30 4096 4096 → mK M216 a0 = 14 ∧ ∀ M219, M219 = mUR M216 a0 41 (mZ M214) → ∀ M221, M221 = mNew M219 33 4096 4096 → mK M221 a0 = 14 ∧ ∀ M224, M224 = mUR M221 a0 42 (mZ M219) → ∀ M226, M226 = mNew M224 33 4096 4096 → mK M226 a0 = 14 ∧ ∀ M229, M229 = mUR M226 a0 43 (mZ M224) → ∀ M231, M231 = mNew M229 30 12 12 → mK M231 a0 = 14 ∧ ∀ M234, M234 = mUR M231 a0 44 (mZ M229) → ∀ M236, M236 = mNew M234 33 8 8 → mK M236 a0 = 14 ∧ ∀ M239, M239 = mUR M236 a0 45 (mZ M234) → ∀ M241, M241 = mNew M239 33 8 8 → mK M241 a0 = 14 ∧ ∀ M244, M244 = mUR M241 a0 46 (mZ M239) → ∀ M246, M246 = mNew M244 30 900 900 → mK M246 a0 = 14 ∧ ∀ M249, M249 = mUR M246 a0 47 (mZ M244) → Q M249))))))))))))))))))))))))))))))))))))))))) :
    Cv G y_MM_init (d + 1) [vr a0] M Q := by
  refine wm_open (y := y_MM_init) rfl (Nat.le_of_ble_eq_true rfl) (L := [vr a0]) rfl ?_
  obtain ⟨h1, h⟩ := h
  obtain ⟨M2, e3⟩ : ∃ M2, M2 = mNew M 15 0 2 := ⟨_, rfl⟩
  replace h := h M2 e3
  refine wm_aload_n d_MM_init_0 rfl rfl ?_
  refine wm_objInit trivial k8_239 kO_inst kO_code (Nat.le_of_ble_eq_true rfl) d_MM_init_1 h1 ?_
  refine wm_aload_n d_MM_init_4 rfl rfl ?_
  have hOM2 : mOk M2 := by rw [e3]; exact mOk_New hO
  refine nf_MM_7 rfl d_MM_init_5 e3 ?_
  refine wm_dup d_MM_init_8 rfl ?_
  refine cf_MM_9 rfl d_MM_init_9 (by rw [e3]; exact if_pos rfl) (Nat.le_of_ble_eq_true rfl) (Cv.mono h (fun M4 h => ?_))
  obtain ⟨hOM4, h⟩ := h
  obtain ⟨h7, h⟩ := h
  obtain ⟨M8, e9⟩ : ∃ M8, M8 = mUR M4 a0 1 (mZ M) := ⟨_, rfl⟩
  replace h := h M8 e9
  obtain ⟨M10, e11⟩ : ∃ M10, M10 = mNew M8 15 0 2 := ⟨_, rfl⟩
  replace h := h M10 e11
  have hOM8 : mOk M8 := by rw [e9]; exact mOk_UR hOM4
  refine pf_MM_10 rfl d_MM_init_12 h7 e9 ?_
  refine wm_aload_n d_MM_init_15 rfl rfl ?_
  have hOM10 : mOk M10 := by rw [e11]; exact mOk_New hOM8
  refine nf_MM_7 rfl d_MM_init_16 e11 ?_
  refine wm_dup d_MM_init_19 rfl ?_
  refine cf_MM_9 rfl d_MM_init_20 (by rw [e11]; exact if_pos rfl) (Nat.le_of_ble_eq_true rfl) (Cv.mono h (fun M12 h => ?_))
  obtain ⟨hOM12, h⟩ := h
  obtain ⟨h15, h⟩ := h
  obtain ⟨M16, e17⟩ : ∃ M16, M16 = mUR M12 a0 2 (mZ M8) := ⟨_, rfl⟩
  replace h := h M16 e17
  obtain ⟨M18, e19⟩ : ∃ M18, M18 = mNew M16 15 0 2 := ⟨_, rfl⟩
  replace h := h M18 e19
  have hOM16 : mOk M16 := by rw [e17]; exact mOk_UR hOM12
  refine pf_MM_16 rfl d_MM_init_23 h15 e17 ?_
  refine wm_aload_n d_MM_init_26 rfl rfl ?_
  have hOM18 : mOk M18 := by rw [e19]; exact mOk_New hOM16
  refine nf_MM_7 rfl d_MM_init_27 e19 ?_
  refine wm_dup d_MM_init_30 rfl ?_
  refine cf_MM_9 rfl d_MM_init_31 (by rw [e19]; exact if_pos rfl) (Nat.le_of_ble_eq_true rfl) (Cv.mono h (fun M20 h => ?_))
  obtain ⟨hOM20, h⟩ := h
  obtain ⟨h23, h⟩ := h
  obtain ⟨M24, e25⟩ : ∃ M24, M24 = mUR M20 a0 3 (mZ M16) := ⟨_, rfl⟩
  replace h := h M24 e25
  obtain ⟨M26, e27⟩ : ∃ M26, M26 = mNew M24 15 0 2 := ⟨_, rfl⟩
  replace h := h M26 e27
  have hOM24 : mOk M24 := by rw [e25]; exact mOk_UR hOM20
  refine pf_MM_19 rfl rfl d_MM_init_34 h23 e25 ?_
  refine wm_aload_n d_MM_init_37 rfl rfl ?_
  have hOM26 : mOk M26 := by rw [e27]; exact mOk_New hOM24
  refine nf_MM_7 rfl d_MM_init_38 e27 ?_
  refine wm_dup d_MM_init_41 rfl ?_
  refine cf_MM_9 rfl d_MM_init_42 (by rw [e27]; exact if_pos rfl) (Nat.le_of_ble_eq_true rfl) (Cv.mono h (fun M28 h => ?_))
  obtain ⟨hOM28, h⟩ := h
  obtain ⟨h31, h⟩ := h
  obtain ⟨M32, e33⟩ : ∃ M32, M32 = mUR M28 a0 4 (mZ M24) := ⟨_, rfl⟩
  replace h := h M32 e33
  obtain ⟨M34, e35⟩ : ∃ M34, M34 = mNew M32 15 0 2 := ⟨_, rfl⟩
  replace h := h M34 e35
  have hOM32 : mOk M32 := by rw [e33]; exact mOk_UR hOM28
  refine pf_MM_22 rfl rfl d_MM_init_45 h31 e33 ?_
  refine wm_aload_n d_MM_init_48 rfl rfl ?_
  have hOM34 : mOk M34 := by rw [e35]; exact mOk_New hOM32
  refine nf_MM_7 rfl d_MM_init_49 e35 ?_
  refine wm_dup d_MM_init_52 rfl ?_
  refine cf_MM_9 rfl d_MM_init_53 (by rw [e35]; exact if_pos rfl) (Nat.le_of_ble_eq_true rfl) (Cv.mono h (fun M36 h => ?_))
  obtain ⟨hOM36, h⟩ := h
  obtain ⟨h39, h⟩ := h
  obtain ⟨M40, e41⟩ : ∃ M40, M40 = mUR M36 a0 5 (mZ M32) := ⟨_, rfl⟩
  replace h := h M40 e41
  obtain ⟨M42, e43⟩ : ∃ M42, M42 = mNew M40 15 0 2 := ⟨_, rfl⟩
  replace h := h M42 e43
  have hOM40 : mOk M40 := by rw [e41]; exact mOk_UR hOM36
  refine pf_MM_25 rfl rfl d_MM_init_56 h39 e41 ?_
  refine wm_aload_n d_MM_init_59 rfl rfl ?_
  have hOM42 : mOk M42 := by rw [e43]; exact mOk_New hOM40
  refine nf_MM_7 rfl d_MM_init_60 e43 ?_
  refine wm_dup d_MM_init_63 rfl ?_
  refine cf_MM_9 rfl d_MM_init_64 (by rw [e43]; exact if_pos rfl) (Nat.le_of_ble_eq_true rfl) (Cv.mono h (fun M44 h => ?_))
  obtain ⟨hOM44, h⟩ := h
  obtain ⟨h47, h⟩ := h
  obtain ⟨M48, e49⟩ : ∃ M48, M48 = mUR M44 a0 6 (mZ M40) := ⟨_, rfl⟩
  replace h := h M48 e49
  obtain ⟨M50, e51⟩ : ∃ M50, M50 = mNew M48 16 0 30 := ⟨_, rfl⟩
  replace h := h M50 e51
  have hOM48 : mOk M48 := by rw [e49]; exact mOk_UR hOM44
  refine pf_MM_28 rfl rfl d_MM_init_67 h47 e49 ?_
  refine wm_aload_n d_MM_init_70 rfl rfl ?_
  have hOM50 : mOk M50 := by rw [e51]; exact mOk_New hOM48
  refine nf_MM_31 rfl d_MM_init_71 e51 ?_
  refine wm_dup d_MM_init_74 rfl ?_
  refine cf_MM_33 rfl d_MM_init_75 (by rw [e51]; exact if_pos rfl) (Nat.le_of_ble_eq_true rfl) (Cv.mono h (fun M52 h => ?_))
  obtain ⟨hOM52, h⟩ := h
  obtain ⟨h55, h⟩ := h
  obtain ⟨M56, e57⟩ : ∃ M56, M56 = mUR M52 a0 9 (mZ M48) := ⟨_, rfl⟩
  replace h := h M56 e57
  obtain ⟨M58, e59⟩ : ∃ M58, M58 = mNew M56 16 0 30 := ⟨_, rfl⟩
  replace h := h M58 e59
  have hOM56 : mOk M56 := by rw [e57]; exact mOk_UR hOM52
  refine pf_MM_34 rfl d_MM_init_78 h55 e57 ?_
  refine wm_aload_n d_MM_init_81 rfl rfl ?_
  have hOM58 : mOk M58 := by rw [e59]; exact mOk_New hOM56
  refine nf_MM_31 rfl d_MM_init_82 e59 ?_
  refine wm_dup d_MM_init_85 rfl ?_
  refine cf_MM_33 rfl d_MM_init_86 (by rw [e59]; exact if_pos rfl) (Nat.le_of_ble_eq_true rfl) (Cv.mono h (fun M60 h => ?_))
  obtain ⟨hOM60, h⟩ := h
  obtain ⟨h63, h⟩ := h
  obtain ⟨M64, e65⟩ : ∃ M64, M64 = mUR M60 a0 10 (mZ M56) := ⟨_, rfl⟩
  replace h := h M64 e65
  obtain ⟨M66, e67⟩ : ∃ M66, M66 = mUI M64 a0 12 (-1) := ⟨_, rfl⟩
  replace h := h M66 e67
  obtain ⟨M68, e69⟩ : ∃ M68, M68 = mNew M66 15 0 2 := ⟨_, rfl⟩
  replace h := h M68 e69
  have hOM64 : mOk M64 := by rw [e65]; exact mOk_UR hOM60
  refine pf_MM_38 rfl d_MM_init_89 h63 e65 ?_
  refine wm_aload_n d_MM_init_92 rfl rfl ?_
  refine wm_iconst d_MM_init_93 ?_
  have hOM66 : mOk M66 := by rw [e67]; exact mOk_UI hOM64 ⟨by decide, by decide⟩
  refine pf_MM_41 rfl d_MM_init_94 (by rw [e65]; exact h63) ⟨by decide, by decide⟩ e67 ?_
  refine wm_aload_n d_MM_init_97 rfl rfl ?_
  have hOM68 : mOk M68 := by rw [e69]; exact mOk_New hOM66
  refine nf_MM_7 rfl d_MM_init_98 e69 ?_
  refine wm_dup d_MM_init_101 rfl ?_
  refine cf_MM_9 rfl d_MM_init_102 (by rw [e69]; exact if_pos rfl) (Nat.le_of_ble_eq_true rfl) (Cv.mono h (fun M70 h => ?_))
  obtain ⟨hOM70, h⟩ := h
  obtain ⟨h73, h⟩ := h
  obtain ⟨M74, e75⟩ : ∃ M74, M74 = mUR M70 a0 13 (mZ M66) := ⟨_, rfl⟩
  replace h := h M74 e75
  obtain ⟨M76, e77⟩ : ∃ M76, M76 = mNew M74 15 0 2 := ⟨_, rfl⟩
  replace h := h M76 e77
  have hOM74 : mOk M74 := by rw [e75]; exact mOk_UR hOM70
  refine pf_MM_45 rfl rfl d_MM_init_105 h73 e75 ?_
  refine wm_aload_n d_MM_init_108 rfl rfl ?_
  have hOM76 : mOk M76 := by rw [e77]; exact mOk_New hOM74
  refine nf_MM_7 rfl d_MM_init_109 e77 ?_
  refine wm_dup d_MM_init_112 rfl ?_
  refine cf_MM_9 rfl d_MM_init_113 (by rw [e77]; exact if_pos rfl) (Nat.le_of_ble_eq_true rfl) (Cv.mono h (fun M78 h => ?_))
  obtain ⟨hOM78, h⟩ := h
  obtain ⟨h81, h⟩ := h
  obtain ⟨M82, e83⟩ : ∃ M82, M82 = mUR M78 a0 14 (mZ M74) := ⟨_, rfl⟩
  replace h := h M82 e83
  obtain ⟨M84, e85⟩ : ∃ M84, M84 = mNew M82 15 0 2 := ⟨_, rfl⟩
  replace h := h M84 e85
  have hOM82 : mOk M82 := by rw [e83]; exact mOk_UR hOM78
  refine pf_MM_48 rfl rfl d_MM_init_116 h81 e83 ?_
  refine wm_aload_n d_MM_init_119 rfl rfl ?_
  have hOM84 : mOk M84 := by rw [e85]; exact mOk_New hOM82
  refine nf_MM_7 rfl d_MM_init_120 e85 ?_
  refine wm_dup d_MM_init_123 rfl ?_
  refine cf_MM_9 rfl d_MM_init_124 (by rw [e85]; exact if_pos rfl) (Nat.le_of_ble_eq_true rfl) (Cv.mono h (fun M86 h => ?_))
  obtain ⟨hOM86, h⟩ := h
  obtain ⟨h89, h⟩ := h
  obtain ⟨M90, e91⟩ : ∃ M90, M90 = mUR M86 a0 15 (mZ M82) := ⟨_, rfl⟩
  replace h := h M90 e91
  obtain ⟨M92, e93⟩ : ∃ M92, M92 = mNew M90 15 0 2 := ⟨_, rfl⟩
  replace h := h M92 e93
  have hOM90 : mOk M90 := by rw [e91]; exact mOk_UR hOM86
  refine pf_MM_51 rfl rfl d_MM_init_127 h89 e91 ?_
  refine wm_aload_n d_MM_init_130 rfl rfl ?_
  have hOM92 : mOk M92 := by rw [e93]; exact mOk_New hOM90
  refine nf_MM_7 rfl d_MM_init_131 e93 ?_
  refine wm_dup d_MM_init_134 rfl ?_
  refine cf_MM_9 rfl d_MM_init_135 (by rw [e93]; exact if_pos rfl) (Nat.le_of_ble_eq_true rfl) (Cv.mono h (fun M94 h => ?_))
  obtain ⟨hOM94, h⟩ := h
  obtain ⟨h97, h⟩ := h
  obtain ⟨M98, e99⟩ : ∃ M98, M98 = mUR M94 a0 18 (mZ M90) := ⟨_, rfl⟩
  replace h := h M98 e99
  obtain ⟨M100, e101⟩ : ∃ M100, M100 = mNew M98 15 0 2 := ⟨_, rfl⟩
  replace h := h M100 e101
  have hOM98 : mOk M98 := by rw [e99]; exact mOk_UR hOM94
  refine pf_MM_54 rfl rfl d_MM_init_138 h97 e99 ?_
  refine wm_aload_n d_MM_init_141 rfl rfl ?_
  have hOM100 : mOk M100 := by rw [e101]; exact mOk_New hOM98
  refine nf_MM_7 rfl d_MM_init_142 e101 ?_
  refine wm_dup d_MM_init_145 rfl ?_
  refine cf_MM_9 rfl d_MM_init_146 (by rw [e101]; exact if_pos rfl) (Nat.le_of_ble_eq_true rfl) (Cv.mono h (fun M102 h => ?_))
  obtain ⟨hOM102, h⟩ := h
  obtain ⟨h105, h⟩ := h
  obtain ⟨M106, e107⟩ : ∃ M106, M106 = mUR M102 a0 19 (mZ M98) := ⟨_, rfl⟩
  replace h := h M106 e107
  obtain ⟨M108, e109⟩ : ∃ M108, M108 = mNew M106 15 0 2 := ⟨_, rfl⟩
  replace h := h M108 e109
  have hOM106 : mOk M106 := by rw [e107]; exact mOk_UR hOM102
  refine pf_MM_57 rfl rfl d_MM_init_149 h105 e107 ?_
  refine wm_aload_n d_MM_init_152 rfl rfl ?_
  have hOM108 : mOk M108 := by rw [e109]; exact mOk_New hOM106
  refine nf_MM_7 rfl d_MM_init_153 e109 ?_
  refine wm_dup d_MM_init_156 rfl ?_
  refine cf_MM_9 rfl d_MM_init_157 (by rw [e109]; exact if_pos rfl) (Nat.le_of_ble_eq_true rfl) (Cv.mono h (fun M110 h => ?_))
  obtain ⟨hOM110, h⟩ := h
  obtain ⟨h113, h⟩ := h
  obtain ⟨M114, e115⟩ : ∃ M114, M114 = mUR M110 a0 20 (mZ M106) := ⟨_, rfl⟩
  replace h := h M114 e115
  obtain ⟨M116, e117⟩ : ∃ M116, M116 = mNew M114 33 16400 16400 := ⟨_, rfl⟩
  replace h := h M116 e117
  obtain ⟨h118, h⟩ := h
  obtain ⟨M119, e120⟩ : ∃ M119, M119 = mUR M116 a0 21 (mZ M114) := ⟨_, rfl⟩
  replace h := h M119 e120
  obtain ⟨M121, e122⟩ : ∃ M121, M121 = mNew M119 33 16400 16400 := ⟨_, rfl⟩
  replace h := h M121 e122
  obtain ⟨h123, h⟩ := h
  obtain ⟨M124, e125⟩ : ∃ M124, M124 = mUR M121 a0 22 (mZ M119) := ⟨_, rfl⟩
  replace h := h M124 e125
  obtain ⟨M126, e127⟩ : ∃ M126, M126 = mNew M124 15 0 2 := ⟨_, rfl⟩
  replace h := h M126 e127
  have hOM114 : mOk M114 := by rw [e115]; exact mOk_UR hOM110
  refine pf_MM_60 rfl rfl d_MM_init_160 h113 e115 ?_
  refine wm_aload_n d_MM_init_163 rfl rfl ?_
  refine wm_sipush d_MM_init_164 (by decide) ?_
  have hOM116 : mOk M116 := by rw [e117]; exact mOk_New hOM114
  refine wm_newarrE 3 (atype := .long) (ty := .long) rfl rfl (fun _ => rfl) rfl rfl (by decide) k3_35 ⟨by decide, by decide⟩ d_MM_init_167 e117 ?_
  have hOM119 : mOk M119 := by rw [e120]; exact mOk_UR hOM116
  refine pf_MM_63 rfl rfl d_MM_init_169 h118 e120 ?_
  refine wm_aload_n d_MM_init_172 rfl rfl ?_
  refine wm_sipush d_MM_init_173 (by decide) ?_
  have hOM121 : mOk M121 := by rw [e122]; exact mOk_New hOM119
  refine wm_newarrE 3 (atype := .long) (ty := .long) rfl rfl (fun _ => rfl) rfl rfl (by decide) k3_35 ⟨by decide, by decide⟩ d_MM_init_176 e122 ?_
  have hOM124 : mOk M124 := by rw [e125]; exact mOk_UR hOM121
  refine pf_MM_67 rfl rfl d_MM_init_178 h123 e125 ?_
  refine wm_aload_n d_MM_init_181 rfl rfl ?_
  have hOM126 : mOk M126 := by rw [e127]; exact mOk_New hOM124
  refine nf_MM_7 rfl d_MM_init_182 e127 ?_
  refine wm_dup d_MM_init_185 rfl ?_
  refine cf_MM_9 rfl d_MM_init_186 (by rw [e127]; exact if_pos rfl) (Nat.le_of_ble_eq_true rfl) (Cv.mono h (fun M128 h => ?_))
  obtain ⟨hOM128, h⟩ := h
  obtain ⟨h131, h⟩ := h
  obtain ⟨M132, e133⟩ : ∃ M132, M132 = mUR M128 a0 24 (mZ M124) := ⟨_, rfl⟩
  replace h := h M132 e133
  obtain ⟨M134, e135⟩ : ∃ M134, M134 = mNew M132 30 12 12 := ⟨_, rfl⟩
  replace h := h M134 e135
  obtain ⟨h136, h⟩ := h
  obtain ⟨M137, e138⟩ : ∃ M137, M137 = mUR M134 a0 25 (mZ M132) := ⟨_, rfl⟩
  replace h := h M137 e138
  obtain ⟨M139, e140⟩ : ∃ M139, M139 = mNew M137 31 60 60 := ⟨_, rfl⟩
  replace h := h M139 e140
  obtain ⟨h141, h⟩ := h
  obtain ⟨M142, e143⟩ : ∃ M142, M142 = mUR M139 a0 26 (mZ M137) := ⟨_, rfl⟩
  replace h := h M142 e143
  obtain ⟨M144, e145⟩ : ∃ M144, M144 = mNew M142 33 60 60 := ⟨_, rfl⟩
  replace h := h M144 e145
  obtain ⟨h146, h⟩ := h
  obtain ⟨M147, e148⟩ : ∃ M147, M147 = mUR M144 a0 27 (mZ M142) := ⟨_, rfl⟩
  replace h := h M147 e148
  obtain ⟨M149, e150⟩ : ∃ M149, M149 = mNew M147 33 60 60 := ⟨_, rfl⟩
  replace h := h M149 e150
  obtain ⟨h151, h⟩ := h
  obtain ⟨M152, e153⟩ : ∃ M152, M152 = mUR M149 a0 28 (mZ M147) := ⟨_, rfl⟩
  replace h := h M152 e153
  obtain ⟨M154, e155⟩ : ∃ M154, M154 = mUI M152 a0 30 (-1) := ⟨_, rfl⟩
  replace h := h M154 e155
  obtain ⟨M156, e157⟩ : ∃ M156, M156 = mNew M154 30 6144 6144 := ⟨_, rfl⟩
  replace h := h M156 e157
  obtain ⟨h158, h⟩ := h
  obtain ⟨M159, e160⟩ : ∃ M159, M159 = mUR M156 a0 31 (mZ M154) := ⟨_, rfl⟩
  replace h := h M159 e160
  obtain ⟨M161, e162⟩ : ∃ M161, M161 = mNew M159 30 512 512 := ⟨_, rfl⟩
  replace h := h M161 e162
  obtain ⟨h163, h⟩ := h
  obtain ⟨M164, e165⟩ : ∃ M164, M164 = mUR M161 a0 32 (mZ M159) := ⟨_, rfl⟩
  replace h := h M164 e165
  obtain ⟨M166, e167⟩ : ∃ M166, M166 = mNew M164 30 512 512 := ⟨_, rfl⟩
  replace h := h M166 e167
  obtain ⟨h168, h⟩ := h
  obtain ⟨M169, e170⟩ : ∃ M169, M169 = mUR M166 a0 33 (mZ M164) := ⟨_, rfl⟩
  replace h := h M169 e170
  obtain ⟨M171, e172⟩ : ∃ M171, M171 = mNew M169 30 512 512 := ⟨_, rfl⟩
  replace h := h M171 e172
  obtain ⟨h173, h⟩ := h
  obtain ⟨M174, e175⟩ : ∃ M174, M174 = mUR M171 a0 34 (mZ M169) := ⟨_, rfl⟩
  replace h := h M174 e175
  obtain ⟨M176, e177⟩ : ∃ M176, M176 = mNew M174 15 0 2 := ⟨_, rfl⟩
  replace h := h M176 e177
  have hOM132 : mOk M132 := by rw [e133]; exact mOk_UR hOM128
  refine pf_MM_70 rfl rfl d_MM_init_189 h131 e133 ?_
  refine wm_aload_n d_MM_init_192 rfl rfl ?_
  refine wm_bipush d_MM_init_193 (by decide) ?_
  have hOM134 : mOk M134 := by rw [e135]; exact mOk_New hOM132
  refine wm_newarrE 0 (atype := .int) (ty := .int) rfl rfl (fun _ => rfl) rfl rfl (by decide) k1_82 ⟨by decide, by decide⟩ d_MM_init_195 e135 ?_
  have hOM137 : mOk M137 := by rw [e138]; exact mOk_UR hOM134
  refine pf_MM_73 rfl rfl d_MM_init_197 h136 e138 ?_
  refine wm_aload_n d_MM_init_200 rfl rfl ?_
  refine wm_bipush d_MM_init_201 (by decide) ?_
  have hOM139 : mOk M139 := by rw [e140]; exact mOk_New hOM137
  refine wm_newarrE 1 (atype := .boolean) (ty := .boolean) rfl rfl (fun _ => rfl) rfl rfl (by decide) k1_162 ⟨by decide, by decide⟩ d_MM_init_203 e140 ?_
  have hOM142 : mOk M142 := by rw [e143]; exact mOk_UR hOM139
  refine pf_MM_77 rfl rfl d_MM_init_205 h141 e143 ?_
  refine wm_aload_n d_MM_init_208 rfl rfl ?_
  refine wm_bipush d_MM_init_209 (by decide) ?_
  have hOM144 : mOk M144 := by rw [e145]; exact mOk_New hOM142
  refine wm_newarrE 3 (atype := .long) (ty := .long) rfl rfl (fun _ => rfl) rfl rfl (by decide) k3_35 ⟨by decide, by decide⟩ d_MM_init_211 e145 ?_
  have hOM147 : mOk M147 := by rw [e148]; exact mOk_UR hOM144
  refine pf_MM_81 rfl rfl d_MM_init_213 h146 e148 ?_
  refine wm_aload_n d_MM_init_216 rfl rfl ?_
  refine wm_bipush d_MM_init_217 (by decide) ?_
  have hOM149 : mOk M149 := by rw [e150]; exact mOk_New hOM147
  refine wm_newarrE 3 (atype := .long) (ty := .long) rfl rfl (fun _ => rfl) rfl rfl (by decide) k3_35 ⟨by decide, by decide⟩ d_MM_init_219 e150 ?_
  have hOM152 : mOk M152 := by rw [e153]; exact mOk_UR hOM149
  refine pf_MM_84 rfl rfl d_MM_init_221 h151 e153 ?_
  refine wm_aload_n d_MM_init_224 rfl rfl ?_
  refine wm_iconst d_MM_init_225 ?_
  have hOM154 : mOk M154 := by rw [e155]; exact mOk_UI hOM152 ⟨by decide, by decide⟩
  refine pf_MM_87 rfl d_MM_init_226 (by rw [e153]; exact h151) ⟨by decide, by decide⟩ e155 ?_
  refine wm_aload_n d_MM_init_229 rfl rfl ?_
  refine wm_sipush d_MM_init_230 (by decide) ?_
  have hOM156 : mOk M156 := by rw [e157]; exact mOk_New hOM154
  refine wm_newarrE 0 (atype := .int) (ty := .int) rfl rfl (fun _ => rfl) rfl rfl (by decide) k1_82 ⟨by decide, by decide⟩ d_MM_init_233 e157 ?_
  have hOM159 : mOk M159 := by rw [e160]; exact mOk_UR hOM156
  refine pf_MM_90 rfl rfl d_MM_init_235 h158 e160 ?_
  refine wm_aload_n d_MM_init_238 rfl rfl ?_
  refine wm_sipush d_MM_init_239 (by decide) ?_
  have hOM161 : mOk M161 := by rw [e162]; exact mOk_New hOM159
  refine wm_newarrE 0 (atype := .int) (ty := .int) rfl rfl (fun _ => rfl) rfl rfl (by decide) k1_82 ⟨by decide, by decide⟩ d_MM_init_242 e162 ?_
  have hOM164 : mOk M164 := by rw [e165]; exact mOk_UR hOM161
  refine pf_MM_93 rfl rfl d_MM_init_244 h163 e165 ?_
  refine wm_aload_n d_MM_init_247 rfl rfl ?_
  refine wm_sipush d_MM_init_248 (by decide) ?_
  have hOM166 : mOk M166 := by rw [e167]; exact mOk_New hOM164
  refine wm_newarrE 0 (atype := .int) (ty := .int) rfl rfl (fun _ => rfl) rfl rfl (by decide) k1_82 ⟨by decide, by decide⟩ d_MM_init_251 e167 ?_
  have hOM169 : mOk M169 := by rw [e170]; exact mOk_UR hOM166
  refine pf_MM_96 rfl rfl d_MM_init_253 h168 e170 ?_
  refine wm_aload_n d_MM_init_256 rfl rfl ?_
  refine wm_sipush d_MM_init_257 (by decide) ?_
  have hOM171 : mOk M171 := by rw [e172]; exact mOk_New hOM169
  refine wm_newarrE 0 (atype := .int) (ty := .int) rfl rfl (fun _ => rfl) rfl rfl (by decide) k1_82 ⟨by decide, by decide⟩ d_MM_init_260 e172 ?_
  have hOM174 : mOk M174 := by rw [e175]; exact mOk_UR hOM171
  refine pf_MM_99 rfl rfl d_MM_init_262 h173 e175 ?_
  refine wm_aload_n d_MM_init_265 rfl rfl ?_
  have hOM176 : mOk M176 := by rw [e177]; exact mOk_New hOM174
  refine nf_MM_7 rfl d_MM_init_266 e177 ?_
  refine wm_dup d_MM_init_269 rfl ?_
  refine cf_MM_9 rfl d_MM_init_270 (by rw [e177]; exact if_pos rfl) (Nat.le_of_ble_eq_true rfl) (Cv.mono h (fun M178 h => ?_))
  obtain ⟨hOM178, h⟩ := h
  obtain ⟨h181, h⟩ := h
  obtain ⟨M182, e183⟩ : ∃ M182, M182 = mUR M178 a0 35 (mZ M174) := ⟨_, rfl⟩
  replace h := h M182 e183
  obtain ⟨M184, e185⟩ : ∃ M184, M184 = mNew M182 15 0 2 := ⟨_, rfl⟩
  replace h := h M184 e185
  have hOM182 : mOk M182 := by rw [e183]; exact mOk_UR hOM178
  refine pf_MM_102 rfl rfl d_MM_init_273 h181 e183 ?_
  refine wm_aload_n d_MM_init_276 rfl rfl ?_
  have hOM184 : mOk M184 := by rw [e185]; exact mOk_New hOM182
  refine nf_MM_7 rfl d_MM_init_277 e185 ?_
  refine wm_dup d_MM_init_280 rfl ?_
  refine cf_MM_9 rfl d_MM_init_281 (by rw [e185]; exact if_pos rfl) (Nat.le_of_ble_eq_true rfl) (Cv.mono h (fun M186 h => ?_))
  obtain ⟨hOM186, h⟩ := h
  obtain ⟨h189, h⟩ := h
  obtain ⟨M190, e191⟩ : ∃ M190, M190 = mUR M186 a0 36 (mZ M182) := ⟨_, rfl⟩
  replace h := h M190 e191
  obtain ⟨M192, e193⟩ : ∃ M192, M192 = mNew M190 15 0 2 := ⟨_, rfl⟩
  replace h := h M192 e193
  have hOM190 : mOk M190 := by rw [e191]; exact mOk_UR hOM186
  refine pf_MM_105 rfl rfl d_MM_init_284 h189 e191 ?_
  refine wm_aload_n d_MM_init_287 rfl rfl ?_
  have hOM192 : mOk M192 := by rw [e193]; exact mOk_New hOM190
  refine nf_MM_7 rfl d_MM_init_288 e193 ?_
  refine wm_dup d_MM_init_291 rfl ?_
  refine cf_MM_9 rfl d_MM_init_292 (by rw [e193]; exact if_pos rfl) (Nat.le_of_ble_eq_true rfl) (Cv.mono h (fun M194 h => ?_))
  obtain ⟨hOM194, h⟩ := h
  obtain ⟨h197, h⟩ := h
  obtain ⟨M198, e199⟩ : ∃ M198, M198 = mUR M194 a0 37 (mZ M190) := ⟨_, rfl⟩
  replace h := h M198 e199
  obtain ⟨M200, e201⟩ : ∃ M200, M200 = mNew M198 15 0 2 := ⟨_, rfl⟩
  replace h := h M200 e201
  have hOM198 : mOk M198 := by rw [e199]; exact mOk_UR hOM194
  refine pf_MM_108 rfl rfl d_MM_init_295 h197 e199 ?_
  refine wm_aload_n d_MM_init_298 rfl rfl ?_
  have hOM200 : mOk M200 := by rw [e201]; exact mOk_New hOM198
  refine nf_MM_7 rfl d_MM_init_299 e201 ?_
  refine wm_dup d_MM_init_302 rfl ?_
  refine cf_MM_9 rfl d_MM_init_303 (by rw [e201]; exact if_pos rfl) (Nat.le_of_ble_eq_true rfl) (Cv.mono h (fun M202 h => ?_))
  obtain ⟨hOM202, h⟩ := h
  obtain ⟨h205, h⟩ := h
  obtain ⟨M206, e207⟩ : ∃ M206, M206 = mUR M202 a0 38 (mZ M198) := ⟨_, rfl⟩
  replace h := h M206 e207
  obtain ⟨M208, e209⟩ : ∃ M208, M208 = mNew M206 17 0 32 := ⟨_, rfl⟩
  replace h := h M208 e209
  have hOM206 : mOk M206 := by rw [e207]; exact mOk_UR hOM202
  refine pf_MM_111 rfl rfl d_MM_init_306 h205 e207 ?_
  refine wm_aload_n d_MM_init_309 rfl rfl ?_
  have hOM208 : mOk M208 := by rw [e209]; exact mOk_New hOM206
  refine nf_MM_114 rfl d_MM_init_310 e209 ?_
  refine wm_dup d_MM_init_313 rfl ?_
  refine cf_MM_116 rfl d_MM_init_314 (by rw [e209]; exact if_pos rfl) (Nat.le_of_ble_eq_true rfl) (Cv.mono h (fun M210 h => ?_))
  obtain ⟨hOM210, h⟩ := h
  obtain ⟨h213, h⟩ := h
  obtain ⟨M214, e215⟩ : ∃ M214, M214 = mUR M210 a0 39 (mZ M206) := ⟨_, rfl⟩
  replace h := h M214 e215
  obtain ⟨M216, e217⟩ : ∃ M216, M216 = mNew M214 30 4096 4096 := ⟨_, rfl⟩
  replace h := h M216 e217
  obtain ⟨h218, h⟩ := h
  obtain ⟨M219, e220⟩ : ∃ M219, M219 = mUR M216 a0 41 (mZ M214) := ⟨_, rfl⟩
  replace h := h M219 e220
  obtain ⟨M221, e222⟩ : ∃ M221, M221 = mNew M219 33 4096 4096 := ⟨_, rfl⟩
  replace h := h M221 e222
  obtain ⟨h223, h⟩ := h
  obtain ⟨M224, e225⟩ : ∃ M224, M224 = mUR M221 a0 42 (mZ M219) := ⟨_, rfl⟩
  replace h := h M224 e225
  obtain ⟨M226, e227⟩ : ∃ M226, M226 = mNew M224 33 4096 4096 := ⟨_, rfl⟩
  replace h := h M226 e227
  obtain ⟨h228, h⟩ := h
  obtain ⟨M229, e230⟩ : ∃ M229, M229 = mUR M226 a0 43 (mZ M224) := ⟨_, rfl⟩
  replace h := h M229 e230
  obtain ⟨M231, e232⟩ : ∃ M231, M231 = mNew M229 30 12 12 := ⟨_, rfl⟩
  replace h := h M231 e232
  obtain ⟨h233, h⟩ := h
  obtain ⟨M234, e235⟩ : ∃ M234, M234 = mUR M231 a0 44 (mZ M229) := ⟨_, rfl⟩
  replace h := h M234 e235
  obtain ⟨M236, e237⟩ : ∃ M236, M236 = mNew M234 33 8 8 := ⟨_, rfl⟩
  replace h := h M236 e237
  obtain ⟨h238, h⟩ := h
  obtain ⟨M239, e240⟩ : ∃ M239, M239 = mUR M236 a0 45 (mZ M234) := ⟨_, rfl⟩
  replace h := h M239 e240
  obtain ⟨M241, e242⟩ : ∃ M241, M241 = mNew M239 33 8 8 := ⟨_, rfl⟩
  replace h := h M241 e242
  obtain ⟨h243, h⟩ := h
  obtain ⟨M244, e245⟩ : ∃ M244, M244 = mUR M241 a0 46 (mZ M239) := ⟨_, rfl⟩
  replace h := h M244 e245
  obtain ⟨M246, e247⟩ : ∃ M246, M246 = mNew M244 30 900 900 := ⟨_, rfl⟩
  replace h := h M246 e247
  obtain ⟨h248, h⟩ := h
  obtain ⟨M249, e250⟩ : ∃ M249, M249 = mUR M246 a0 47 (mZ M244) := ⟨_, rfl⟩
  replace h := h M249 e250
  have hOM214 : mOk M214 := by rw [e215]; exact mOk_UR hOM210
  refine pf_MM_117 rfl rfl d_MM_init_317 h213 e215 ?_
  refine wm_aload_n d_MM_init_320 rfl rfl ?_
  refine wm_sipush d_MM_init_321 (by decide) ?_
  have hOM216 : mOk M216 := by rw [e217]; exact mOk_New hOM214
  refine wm_newarrE 0 (atype := .int) (ty := .int) rfl rfl (fun _ => rfl) rfl rfl (by decide) k1_82 ⟨by decide, by decide⟩ d_MM_init_324 e217 ?_
  have hOM219 : mOk M219 := by rw [e220]; exact mOk_UR hOM216
  refine pf_MM_121 rfl rfl d_MM_init_326 h218 e220 ?_
  refine wm_aload_n d_MM_init_329 rfl rfl ?_
  refine wm_sipush d_MM_init_330 (by decide) ?_
  have hOM221 : mOk M221 := by rw [e222]; exact mOk_New hOM219
  refine wm_newarrE 3 (atype := .long) (ty := .long) rfl rfl (fun _ => rfl) rfl rfl (by decide) k3_35 ⟨by decide, by decide⟩ d_MM_init_333 e222 ?_
  have hOM224 : mOk M224 := by rw [e225]; exact mOk_UR hOM221
  refine pf_MM_124 rfl rfl d_MM_init_335 h223 e225 ?_
  refine wm_aload_n d_MM_init_338 rfl rfl ?_
  refine wm_sipush d_MM_init_339 (by decide) ?_
  have hOM226 : mOk M226 := by rw [e227]; exact mOk_New hOM224
  refine wm_newarrE 3 (atype := .long) (ty := .long) rfl rfl (fun _ => rfl) rfl rfl (by decide) k3_35 ⟨by decide, by decide⟩ d_MM_init_342 e227 ?_
  have hOM229 : mOk M229 := by rw [e230]; exact mOk_UR hOM226
  refine pf_MM_127 rfl rfl d_MM_init_344 h228 e230 ?_
  refine wm_aload_n d_MM_init_347 rfl rfl ?_
  refine wm_bipush d_MM_init_348 (by decide) ?_
  have hOM231 : mOk M231 := by rw [e232]; exact mOk_New hOM229
  refine wm_newarrE 0 (atype := .int) (ty := .int) rfl rfl (fun _ => rfl) rfl rfl (by decide) k1_82 ⟨by decide, by decide⟩ d_MM_init_350 e232 ?_
  have hOM234 : mOk M234 := by rw [e235]; exact mOk_UR hOM231
  refine pf_MM_130 rfl rfl d_MM_init_352 h233 e235 ?_
  refine wm_aload_n d_MM_init_355 rfl rfl ?_
  refine wm_bipush d_MM_init_356 (by decide) ?_
  have hOM236 : mOk M236 := by rw [e237]; exact mOk_New hOM234
  refine wm_newarrE 3 (atype := .long) (ty := .long) rfl rfl (fun _ => rfl) rfl rfl (by decide) k3_35 ⟨by decide, by decide⟩ d_MM_init_358 e237 ?_
  have hOM239 : mOk M239 := by rw [e240]; exact mOk_UR hOM236
  refine pf_MM_133 rfl rfl d_MM_init_360 h238 e240 ?_
  refine wm_aload_n d_MM_init_363 rfl rfl ?_
  refine wm_bipush d_MM_init_364 (by decide) ?_
  have hOM241 : mOk M241 := by rw [e242]; exact mOk_New hOM239
  refine wm_newarrE 3 (atype := .long) (ty := .long) rfl rfl (fun _ => rfl) rfl rfl (by decide) k3_35 ⟨by decide, by decide⟩ d_MM_init_366 e242 ?_
  have hOM244 : mOk M244 := by rw [e245]; exact mOk_UR hOM241
  refine pf_MM_136 rfl rfl d_MM_init_368 h243 e245 ?_
  refine wm_aload_n d_MM_init_371 rfl rfl ?_
  refine wm_sipush d_MM_init_372 (by decide) ?_
  have hOM246 : mOk M246 := by rw [e247]; exact mOk_New hOM244
  refine wm_newarrE 0 (atype := .int) (ty := .int) rfl rfl (fun _ => rfl) rfl rfl (by decide) k1_82 ⟨by decide, by decide⟩ d_MM_init_375 e247 ?_
  have hOM249 : mOk M249 := by rw [e250]; exact mOk_UR hOM246
  refine pf_MM_139 rfl rfl d_MM_init_377 h248 e250 ?_
  refine wm_return d_MM_init_380 rfl ?_
  exact ⟨rfl, h⟩
theorem d_MM_feed_0 : decode y_MM_feed.2.1 0 = .ok (.aload_n 0, 1) := dc9_42 (by decide +kernel)
theorem d_MM_feed_1 : decode y_MM_feed.2.1 1 = .ok (.iconst 0, 1) := dc9_3 (by decide +kernel)
theorem d_MM_feed_2 : decode y_MM_feed.2.1 2 = .ok (.putfield 142, 3) := dc9_181 (by decide +kernel)
theorem d_MM_feed_5 : decode y_MM_feed.2.1 5 = .ok (.aload_n 0, 1) := dc9_42 (by decide +kernel)
theorem d_MM_feed_6 : decode y_MM_feed.2.1 6 = .ok (.getfield 10, 3) := dc9_180 (by decide +kernel)
theorem d_MM_feed_9 : decode y_MM_feed.2.1 9 = .ok (.getfield 145, 3) := dc9_180 (by decide +kernel)
theorem d_MM_feed_12 : decode y_MM_feed.2.1 12 = .ok (.bipush 20, 2) := dc9_16 (by decide +kernel)
theorem d_MM_feed_14 : decode y_MM_feed.2.1 14 = .ok (.iadd, 1) := dc9_96 (by decide +kernel)
theorem d_MM_feed_15 : decode y_MM_feed.2.1 15 = .ok (.sipush 16384, 3) := dc9_17 (by decide +kernel)
theorem d_MM_feed_18 : decode y_MM_feed.2.1 18 = .ok (.if_icmp .le 5, 3) := dc9_164 (by decide +kernel)
theorem d_MM_feed_23 : decode y_MM_feed.2.1 23 = .ok (.aload_n 0, 1) := dc9_42 (by decide +kernel)
theorem d_MM_feed_24 : decode y_MM_feed.2.1 24 = .ok (.iload_n 1, 1) := dc9_27 (by decide +kernel)
theorem d_MM_feed_21 : decode y_MM_feed.2.1 21 = .ok (.iconst (-1), 1) := dc9_2 (by decide +kernel)
theorem d_MM_feed_22 : decode y_MM_feed.2.1 22 = .ok (.ireturn, 1) := dc9_172 (by decide +kernel)
theorem d_MM_feed_25 : decode y_MM_feed.2.1 25 = .ok (.invokevirtual 148, 3) := dc9_182 (by decide +kernel)
theorem d_MM_feed_28 : decode y_MM_feed.2.1 28 = .ok (.aload_n 0, 1) := dc9_42 (by decide +kernel)
theorem d_MM_feed_29 : decode y_MM_feed.2.1 29 = .ok (.iload_n 2, 1) := dc9_28 (by decide +kernel)
theorem d_MM_feed_30 : decode y_MM_feed.2.1 30 = .ok (.invokevirtual 148, 3) := dc9_182 (by decide +kernel)
theorem d_MM_feed_33 : decode y_MM_feed.2.1 33 = .ok (.aload_n 0, 1) := dc9_42 (by decide +kernel)
theorem d_MM_feed_34 : decode y_MM_feed.2.1 34 = .ok (.iload_n 3, 1) := dc9_29 (by decide +kernel)
theorem d_MM_feed_35 : decode y_MM_feed.2.1 35 = .ok (.invokevirtual 148, 3) := dc9_182 (by decide +kernel)
theorem d_MM_feed_38 : decode y_MM_feed.2.1 38 = .ok (.aload_n 0, 1) := dc9_42 (by decide +kernel)
theorem d_MM_feed_39 : decode y_MM_feed.2.1 39 = .ok (.iload 4, 2) := dc9_21 (by decide +kernel)
theorem d_MM_feed_41 : decode y_MM_feed.2.1 41 = .ok (.invokevirtual 148, 3) := dc9_182 (by decide +kernel)
theorem d_MM_feed_44 : decode y_MM_feed.2.1 44 = .ok (.aload_n 0, 1) := dc9_42 (by decide +kernel)
theorem d_MM_feed_45 : decode y_MM_feed.2.1 45 = .ok (.iload 5, 2) := dc9_21 (by decide +kernel)
theorem d_MM_feed_47 : decode y_MM_feed.2.1 47 = .ok (.invokevirtual 148, 3) := dc9_182 (by decide +kernel)
theorem d_MM_feed_50 : decode y_MM_feed.2.1 50 = .ok (.aload_n 0, 1) := dc9_42 (by decide +kernel)
theorem d_MM_feed_51 : decode y_MM_feed.2.1 51 = .ok (.getfield 10, 3) := dc9_180 (by decide +kernel)
theorem d_MM_feed_54 : decode y_MM_feed.2.1 54 = .ok (.getfield 145, 3) := dc9_180 (by decide +kernel)
theorem d_MM_feed_57 : decode y_MM_feed.2.1 57 = .ok (.ireturn, 1) := dc9_172 (by decide +kernel)
theorem k_MM_feed {G : mG} {d : Nat} {a0 : Nat} {l1 : Int} {l2 : Int} {l3 : Int} {l4 : Int} {l5 : Int} {M : mM} {Q : Int → mM → Prop} (hO : mOk M) (hi_l1 : i32 l1) (hi_l2 : i32 l2) (hi_l3 : i32 l3) (hi_l4 : i32 l4) (hi_l5 : i32 l5)
    (h : mK M a0 = 14 ∧ ∀ M2, M2 = mUI M a0 0 0 → mK M2 (mR M2 a0 1) = 15 ∧ i32 ((mI M2 (mR M2 a0 1) 1) + 20) ∧ (((mI M2 (mR M2 a0 1) 1) + 20 ≤ 16384) → (Cv G y_MM_add4 d [vr a0, vi l1] M2 (fun M9 => mOk M9 ∧ (mK M9 a0 = 14 ∧ Cv G y_MM_add4 d [vr a0, vi l2] M9 (fun M13 => mOk M13 ∧ (mK M13 a0 = 14 ∧ Cv G y_MM_add4 d [vr a0, vi l3] M13 (fun M17 => mOk M17 ∧ (mK M17 a0 = 14 ∧ Cv G y_MM_add4 d [vr a0, vi l4] M17 (fun M21 => mOk M21 ∧ (mK M21 a0 = 14 ∧ Cv G y_MM_add4 d [vr a0, vi l5] M21 (fun M25 => mOk M25 ∧ (mK M25 a0 = 14 ∧ mK M25 (mR M25 a0 1) = 15 ∧ Q (mI M25 (mR M25 a0 1) 1) M25)))))))))))) ∧ (¬ ((mI M2 (mR M2 a0 1) 1) + 20 ≤ 16384) → (Q (-1) M2))) :
    Ci G y_MM_feed (d + 1) [vr a0, vi l1, vi l2, vi l3, vi l4, vi l5] M Q := by
  refine wm_open (y := y_MM_feed) rfl (Nat.le_of_ble_eq_true rfl) (L := [vr a0, vi l1, vi l2, vi l3, vi l4, vi l5]) rfl ?_
  obtain ⟨h1, h⟩ := h
  obtain ⟨M2, e3⟩ : ∃ M2, M2 = mUI M a0 0 0 := ⟨_, rfl⟩
  replace h := h M2 e3
  obtain ⟨h4, h⟩ := h
  obtain ⟨h7, h⟩ := h
  refine wm_aload_n d_MM_feed_0 rfl rfl ?_
  refine wm_iconst d_MM_feed_1 ?_
  have hOM2 : mOk M2 := by rw [e3]; exact mOk_UI hO ⟨by decide, by decide⟩
  refine pf_MM_142 rfl d_MM_feed_2 h1 ⟨by decide, by decide⟩ e3 ?_
  refine wm_aload_n d_MM_feed_5 rfl rfl ?_
  refine gf_MM_10 rfl d_MM_feed_6 (by rw [e3]; exact h1) ?_
  refine gf_MM_145 rfl d_MM_feed_9 h4 ?_
  refine wm_bipush d_MM_feed_12 (by decide) ?_
  refine wm_iadd d_MM_feed_14 ?_
  refine wm_sipush d_MM_feed_15 (by decide) ?_
  refine wm_icmp_le (tgt := 23) d_MM_feed_18 rfl h7 ⟨by decide, by decide⟩ (fun c8 => ?_) (fun c8 => ?_)
  · replace h := h.1 c8
    refine wm_aload_n d_MM_feed_23 rfl rfl ?_
    refine wm_iload_n d_MM_feed_24 rfl rfl ?_
    refine cf_MM_148 rfl d_MM_feed_25 (by rw [e3]; exact h1) (Nat.le_of_ble_eq_true rfl) (Cv.mono h (fun M9 h => ?_))
    obtain ⟨hOM9, h⟩ := h
    obtain ⟨h12, h⟩ := h
    refine wm_aload_n d_MM_feed_28 rfl rfl ?_
    refine wm_iload_n d_MM_feed_29 rfl rfl ?_
    refine cf_MM_148 rfl d_MM_feed_30 h12 (Nat.le_of_ble_eq_true rfl) (Cv.mono h (fun M13 h => ?_))
    obtain ⟨hOM13, h⟩ := h
    obtain ⟨h16, h⟩ := h
    refine wm_aload_n d_MM_feed_33 rfl rfl ?_
    refine wm_iload_n d_MM_feed_34 rfl rfl ?_
    refine cf_MM_148 rfl d_MM_feed_35 h16 (Nat.le_of_ble_eq_true rfl) (Cv.mono h (fun M17 h => ?_))
    obtain ⟨hOM17, h⟩ := h
    obtain ⟨h20, h⟩ := h
    refine wm_aload_n d_MM_feed_38 rfl rfl ?_
    refine wm_iload d_MM_feed_39 rfl ?_
    refine cf_MM_148 rfl d_MM_feed_41 h20 (Nat.le_of_ble_eq_true rfl) (Cv.mono h (fun M21 h => ?_))
    obtain ⟨hOM21, h⟩ := h
    obtain ⟨h24, h⟩ := h
    refine wm_aload_n d_MM_feed_44 rfl rfl ?_
    refine wm_iload d_MM_feed_45 rfl ?_
    refine cf_MM_148 rfl d_MM_feed_47 h24 (Nat.le_of_ble_eq_true rfl) (Cv.mono h (fun M25 h => ?_))
    obtain ⟨hOM25, h⟩ := h
    obtain ⟨h28, h⟩ := h
    obtain ⟨h29, h⟩ := h
    refine wm_aload_n d_MM_feed_50 rfl rfl ?_
    refine gf_MM_10 rfl d_MM_feed_51 h28 ?_
    refine gf_MM_145 rfl d_MM_feed_54 h29 ?_
    refine wm_ireturn d_MM_feed_57 rfl rfl ?_
    exact ⟨_, rfl, h⟩
  · replace h := h.2 c8
    refine wm_iconst d_MM_feed_21 ?_
    refine wm_ireturn d_MM_feed_22 rfl rfl ?_
    exact ⟨_, rfl, h⟩
theorem d_MM_add4_0 : decode y_MM_add4.2.1 0 = .ok (.bipush 24, 2) := dc9_16 (by decide +kernel)
theorem d_MM_add4_2 : decode y_MM_add4.2.1 2 = .ok (.istore_n 2, 1) := dc9_61 (by decide +kernel)
theorem d_MM_add4_3 : decode y_MM_add4.2.1 3 = .ok (.iload_n 2, 1) := dc9_28 (by decide +kernel)
theorem d_MM_add4_4 : decode y_MM_add4.2.1 4 = .ok (.ifCond .lt 23, 3) := dc9_155 (by decide +kernel)
theorem d_MM_add4_27 : decode y_MM_add4.2.1 27 = .ok (.return_, 1) := dc9_177 (by decide +kernel)
theorem d_MM_add4_7 : decode y_MM_add4.2.1 7 = .ok (.aload_n 0, 1) := dc9_42 (by decide +kernel)
theorem d_MM_add4_8 : decode y_MM_add4.2.1 8 = .ok (.getfield 10, 3) := dc9_180 (by decide +kernel)
theorem d_MM_add4_11 : decode y_MM_add4.2.1 11 = .ok (.iload_n 1, 1) := dc9_27 (by decide +kernel)
theorem d_MM_add4_12 : decode y_MM_add4.2.1 12 = .ok (.iload_n 2, 1) := dc9_28 (by decide +kernel)
theorem d_MM_add4_13 : decode y_MM_add4.2.1 13 = .ok (.ishr, 1) := dc9_122 (by decide +kernel)
theorem d_MM_add4_14 : decode y_MM_add4.2.1 14 = .ok (.sipush 255, 3) := dc9_17 (by decide +kernel)
theorem d_MM_add4_17 : decode y_MM_add4.2.1 17 = .ok (.iand, 1) := dc9_126 (by decide +kernel)
theorem d_MM_add4_18 : decode y_MM_add4.2.1 18 = .ok (.invokevirtual 152, 3) := dc9_182 (by decide +kernel)
theorem d_MM_add4_21 : decode y_MM_add4.2.1 21 = .ok (.iinc 2 (-8), 3) := by decide +kernel
theorem d_MM_add4_24 : decode y_MM_add4.2.1 24 = .ok (.goto (-21), 3) := dc9_167 (by decide +kernel)
def h_MM_add4_3 (G : mG) (d : Nat) (a0 : Nat) (l1 : Int) (l2 : Int) (M : mM) (Q : mM → Prop) : Prop := mWm G y_MM_add4 (d + 1) 3 [vr a0, vi l1, vi l2] [] M (fun r9 M9 => r9 = none ∧ Q M9)
theorem k_MM_add4 {G : mG} {d : Nat} {a0 : Nat} {l1 : Int} {M : mM} {Q : mM → Prop} (hO : mOk M) (hi_l1 : i32 l1)
    (h : h_MM_add4_3 G d a0 l1 24 M Q) :
    Cv G y_MM_add4 (d + 1) [vr a0, vi l1] M Q := by
  refine wm_open (y := y_MM_add4) rfl (Nat.le_of_ble_eq_true rfl) (L := [vr a0, vi l1, vd]) rfl ?_
  refine wm_bipush d_MM_add4_0 (by decide) ?_
  refine wm_istore_n d_MM_add4_2 rfl (by decide) (L' := [vr a0, vi l1, vi 24]) rfl ?_
  exact h
theorem k_MM_add4_3 {G : mG} {d : Nat} {a0 : Nat} {l1 : Int} {l2 : Int} {M : mM} {Q : mM → Prop} (hO : mOk M) (hi_l1 : i32 l1) (hi_l2 : i32 l2)
    (h : ((l2 < 0) → (Q M)) ∧ (¬ (l2 < 0) → (mK M a0 = 14 ∧ mK M (mR M a0 1) = 15 ∧ Cv G y_MN_add d [vr (mR M a0 1), vi (andI (shrI l1 l2) 255)] M (fun M5 => mOk M5 ∧ (h_MM_add4_3 G d a0 l1 (l2 + (-8)) M5 Q))))) :
    h_MM_add4_3 G d a0 l1 l2 M Q := by
  unfold h_MM_add4_3
  refine wm_iload_n d_MM_add4_3 rfl rfl ?_
  refine wm_if_lt (tgt := 27) d_MM_add4_4 rfl hi_l2 (fun c2 => ?_) (fun c2 => ?_)
  · replace h := h.1 c2
    refine wm_return d_MM_add4_27 rfl ?_
    exact ⟨rfl, h⟩
  · replace h := h.2 c2
    obtain ⟨h3, h⟩ := h
    obtain ⟨h4, h⟩ := h
    refine wm_aload_n d_MM_add4_7 rfl rfl ?_
    refine gf_MM_10 rfl d_MM_add4_8 h3 ?_
    refine wm_iload_n d_MM_add4_11 rfl rfl ?_
    refine wm_iload_n d_MM_add4_12 rfl rfl ?_
    refine wm_ishr d_MM_add4_13 ?_
    refine wm_sipush d_MM_add4_14 (by decide) ?_
    refine wm_iand d_MM_add4_17 ?_
    refine cf_MM_152 rfl d_MM_add4_18 h4 (Nat.le_of_ble_eq_true rfl) (Cv.mono h (fun M5 h => ?_))
    obtain ⟨hOM5, h⟩ := h
    refine wm_iinc d_MM_add4_21 (by decide) rfl (L' := [vr a0, vi l1, vi (l2 + (-8))]) rfl ?_
    refine wm_goto (tgt := 3) d_MM_add4_24 rfl ?_
    exact h
theorem d_MM_end_0 : decode y_MM_end.2.1 0 = .ok (.aload_n 0, 1) := dc9_42 (by decide +kernel)
theorem d_MM_end_1 : decode y_MM_end.2.1 1 = .ok (.iload_n 1, 1) := dc9_27 (by decide +kernel)
theorem d_MM_end_2 : decode y_MM_end.2.1 2 = .ok (.ifCond .lt 21, 3) := dc9_155 (by decide +kernel)
theorem d_MM_end_23 : decode y_MM_end.2.1 23 = .ok (.iconst 1, 1) := dc9_4 (by decide +kernel)
theorem d_MM_end_24 : decode y_MM_end.2.1 24 = .ok (.goto 4, 3) := dc9_167 (by decide +kernel)
theorem d_MM_end_5 : decode y_MM_end.2.1 5 = .ok (.iload_n 1, 1) := dc9_27 (by decide +kernel)
theorem d_MM_end_6 : decode y_MM_end.2.1 6 = .ok (.bipush 20, 2) := dc9_16 (by decide +kernel)
theorem d_MM_end_8 : decode y_MM_end.2.1 8 = .ok (.if_icmp .gt 15, 3) := dc9_163 (by decide +kernel)
theorem d_MM_end_11 : decode y_MM_end.2.1 11 = .ok (.aload_n 0, 1) := dc9_42 (by decide +kernel)
theorem d_MM_end_12 : decode y_MM_end.2.1 12 = .ok (.getfield 10, 3) := dc9_180 (by decide +kernel)
theorem d_MM_end_15 : decode y_MM_end.2.1 15 = .ok (.getfield 145, 3) := dc9_180 (by decide +kernel)
theorem d_MM_end_18 : decode y_MM_end.2.1 18 = .ok (.bipush 20, 2) := dc9_16 (by decide +kernel)
theorem d_MM_end_20 : decode y_MM_end.2.1 20 = .ok (.if_icmp .ge 7, 3) := dc9_162 (by decide +kernel)
theorem d_MM_end_27 : decode y_MM_end.2.1 27 = .ok (.iconst 0, 1) := dc9_3 (by decide +kernel)
theorem d_MM_end_28 : decode y_MM_end.2.1 28 = .ok (.putfield 142, 3) := dc9_181 (by decide +kernel)
theorem d_MM_end_31 : decode y_MM_end.2.1 31 = .ok (.aload_n 0, 1) := dc9_42 (by decide +kernel)
theorem d_MM_end_32 : decode y_MM_end.2.1 32 = .ok (.getfield 142, 3) := dc9_180 (by decide +kernel)
theorem d_MM_end_35 : decode y_MM_end.2.1 35 = .ok (.ifCond .le 5, 3) := dc9_158 (by decide +kernel)
theorem d_MM_end_40 : decode y_MM_end.2.1 40 = .ok (.aload_n 0, 1) := dc9_42 (by decide +kernel)
theorem d_MM_end_41 : decode y_MM_end.2.1 41 = .ok (.getfield 10, 3) := dc9_180 (by decide +kernel)
theorem d_MM_end_44 : decode y_MM_end.2.1 44 = .ok (.aload_n 0, 1) := dc9_42 (by decide +kernel)
theorem d_MM_end_45 : decode y_MM_end.2.1 45 = .ok (.getfield 10, 3) := dc9_180 (by decide +kernel)
theorem d_MM_end_48 : decode y_MM_end.2.1 48 = .ok (.getfield 145, 3) := dc9_180 (by decide +kernel)
theorem d_MM_end_51 : decode y_MM_end.2.1 51 = .ok (.bipush 20, 2) := dc9_16 (by decide +kernel)
theorem d_MM_end_53 : decode y_MM_end.2.1 53 = .ok (.isub, 1) := dc9_100 (by decide +kernel)
theorem d_MM_end_54 : decode y_MM_end.2.1 54 = .ok (.iload_n 1, 1) := dc9_27 (by decide +kernel)
theorem d_MM_end_55 : decode y_MM_end.2.1 55 = .ok (.iadd, 1) := dc9_96 (by decide +kernel)
theorem d_MM_end_56 : decode y_MM_end.2.1 56 = .ok (.putfield 145, 3) := dc9_181 (by decide +kernel)
theorem d_MM_end_59 : decode y_MM_end.2.1 59 = .ok (.aload_n 0, 1) := dc9_42 (by decide +kernel)
theorem d_MM_end_60 : decode y_MM_end.2.1 60 = .ok (.getfield 10, 3) := dc9_180 (by decide +kernel)
theorem d_MM_end_63 : decode y_MM_end.2.1 63 = .ok (.getfield 145, 3) := dc9_180 (by decide +kernel)
theorem d_MM_end_66 : decode y_MM_end.2.1 66 = .ok (.ireturn, 1) := dc9_172 (by decide +kernel)
theorem d_MM_end_38 : decode y_MM_end.2.1 38 = .ok (.iconst 0, 1) := dc9_3 (by decide +kernel)
theorem d_MM_end_39 : decode y_MM_end.2.1 39 = .ok (.ireturn, 1) := dc9_172 (by decide +kernel)
theorem k_MM_end {G : mG} {d : Nat} {a0 : Nat} {l1 : Int} {M : mM} {Q : Int → mM → Prop} (hO : mOk M) (hi_l1 : i32 l1)
    (h : (¬ (l1 < 0) → (¬ (20 < l1) → (mK M a0 = 14 ∧ mK M (mR M a0 1) = 15))) ∧ ∀ v6 : Int, v6 = (if ((l1 < 0) ∨ ((20 < l1) ∨ (¬ (20 ≤ mI M (mR M a0 1) 1)))) then 1 else 0) → mK M a0 = 14 ∧ ∀ M12, M12 = mUI M a0 0 v6 → ((mI M12 a0 0 ≤ 0) → (mK M12 (mR M12 a0 1) = 15 ∧ i32 (((mI M12 (mR M12 a0 1) 1) - 20) + l1) ∧ ∀ M21, M21 = mUI M12 (mR M12 a0 1) 1 (((mI M12 (mR M12 a0 1) 1) - 20) + l1) → mK M21 (mR M21 a0 1) = 15 ∧ Q (mI M21 (mR M21 a0 1) 1) M21)) ∧ (¬ (mI M12 a0 0 ≤ 0) → (Q 0 M12))) :
    Ci G y_MM_end d [vr a0, vi l1] M Q := by
  refine wm_open (y := y_MM_end) rfl (Nat.le_of_ble_eq_true rfl) (L := [vr a0, vi l1]) rfl ?_
  refine wm_aload_n d_MM_end_0 rfl rfl ?_
  refine wm_iload_n d_MM_end_1 rfl rfl ?_
  obtain ⟨s7, h⟩ := h
  have hJ : ∀ v6 : Int, v6 = (if ((l1 < 0) ∨ ((20 < l1) ∨ (¬ (20 ≤ mI M (mR M a0 1) 1)))) then 1 else 0) → mWm G y_MM_end d 28 [vr a0, vi l1] [vi v6, vr a0] M (fun r9 M9 => ∃ x9, r9 = some (vi x9) ∧ Q x9 M9) := by
    intro v6 e8
    have h := h v6 e8
    have h9 : i32 v6 := by rw [e8]; (repeat' split) <;> first | exact ⟨by decide, by decide⟩ | exact ⟨by decide, by decide⟩
    have h10 : (v6 = 0 ∨ v6 = 1) := by rw [e8]; (repeat' split) <;> decide
    obtain ⟨h11, h⟩ := h
    obtain ⟨M12, e13⟩ : ∃ M12, M12 = mUI M a0 0 v6 := ⟨_, rfl⟩
    replace h := h M12 e13
    have hOM12 : mOk M12 := by rw [e13]; exact mOk_UI hO h9
    refine pf_MM_142 rfl d_MM_end_28 h11 h9 e13 ?_
    refine wm_aload_n d_MM_end_31 rfl rfl ?_
    refine gf_MM_142 rfl d_MM_end_32 (by rw [e13]; exact h11) ?_
    refine wm_if_le (tgt := 40) d_MM_end_35 rfl (hOM12 _ _).1 (fun c18 => ?_) (fun c18 => ?_)
    · replace h := h.1 c18
      obtain ⟨h19, h⟩ := h
      obtain ⟨h20, h⟩ := h
      obtain ⟨M21, e22⟩ : ∃ M21, M21 = mUI M12 (mR M12 a0 1) 1 (((mI M12 (mR M12 a0 1) 1) - 20) + l1) := ⟨_, rfl⟩
      replace h := h M21 e22
      obtain ⟨h23, h⟩ := h
      refine wm_aload_n d_MM_end_40 rfl rfl ?_
      refine gf_MM_10 rfl d_MM_end_41 (by rw [e13]; exact h11) ?_
      refine wm_aload_n d_MM_end_44 rfl rfl ?_
      refine gf_MM_10 rfl d_MM_end_45 (by rw [e13]; exact h11) ?_
      refine gf_MM_145 rfl d_MM_end_48 h19 ?_
      refine wm_bipush d_MM_end_51 (by decide) ?_
      refine wm_isub d_MM_end_53 ?_
      refine wm_iload_n d_MM_end_54 rfl rfl ?_
      refine wm_iadd d_MM_end_55 ?_
      have hOM21 : mOk M21 := by rw [e22]; exact mOk_UI hOM12 h20
      refine pf_MM_145 rfl d_MM_end_56 h19 h20 e22 ?_
      refine wm_aload_n d_MM_end_59 rfl rfl ?_
      refine gf_MM_10 rfl d_MM_end_60 (by rw [e22, e13]; exact h11) ?_
      refine gf_MM_145 rfl d_MM_end_63 h23 ?_
      refine wm_ireturn d_MM_end_66 rfl rfl ?_
      exact ⟨_, rfl, h⟩
    · replace h := h.2 c18
      refine wm_iconst d_MM_end_38 ?_
      refine wm_ireturn d_MM_end_39 rfl rfl ?_
      exact ⟨_, rfl, h⟩
  clear h
  have s24 := s7
  refine wm_if_lt (tgt := 23) d_MM_end_2 rfl hi_l1 (fun c1 => ?_) (fun c1 => ?_)
  · refine wm_iconst d_MM_end_23 ?_
    refine wm_goto (tgt := 28) d_MM_end_24 rfl ?_
    exact hJ 1 (if_pos (Or.inl c1)).symm
  · have s24 := s24 c1
    have s25 := s24
    refine wm_iload_n d_MM_end_5 rfl rfl ?_
    refine wm_bipush d_MM_end_6 (by decide) ?_
    refine wm_icmp_gt (tgt := 23) d_MM_end_8 rfl hi_l1 ⟨by decide, by decide⟩ (fun c2 => ?_) (fun c2 => ?_)
    · refine wm_iconst d_MM_end_23 ?_
      refine wm_goto (tgt := 28) d_MM_end_24 rfl ?_
      exact hJ 1 (if_pos (Or.inr (Or.inl c2))).symm
    · have s25 := s25 c2
      obtain ⟨h3, h4⟩ := s25
      refine wm_aload_n d_MM_end_11 rfl rfl ?_
      refine gf_MM_10 rfl d_MM_end_12 h3 ?_
      refine gf_MM_145 rfl d_MM_end_15 h4 ?_
      refine wm_bipush d_MM_end_18 (by decide) ?_
      refine wm_icmp_ge (tgt := 27) d_MM_end_20 rfl (hO _ _).1 ⟨by decide, by decide⟩ (fun c5 => ?_) (fun c5 => ?_)
      · refine wm_iconst d_MM_end_27 ?_
        exact hJ 0 (if_neg (fun z26 => Or.elim z26 c1 (fun z27 => Or.elim z27 c2 (fun z28 => z28 c5)))).symm
      · refine wm_iconst d_MM_end_23 ?_
        refine wm_goto (tgt := 28) d_MM_end_24 rfl ?_
        exact hJ 1 (if_pos (Or.inr (Or.inr c5))).symm
theorem d_MM_letter_0 : decode y_MM_letter.2.1 0 = .ok (.iload_n 1, 1) := dc9_27 (by decide +kernel)
theorem d_MM_letter_1 : decode y_MM_letter.2.1 1 = .ok (.aload_n 0, 1) := dc9_42 (by decide +kernel)
theorem d_MM_letter_2 : decode y_MM_letter.2.1 2 = .ok (.getfield 16, 3) := dc9_180 (by decide +kernel)
theorem d_MM_letter_5 : decode y_MM_letter.2.1 5 = .ok (.getfield 145, 3) := dc9_180 (by decide +kernel)
theorem d_MM_letter_8 : decode y_MM_letter.2.1 8 = .ok (.if_icmp .ge 14, 3) := dc9_162 (by decide +kernel)
theorem d_MM_letter_22 : decode y_MM_letter.2.1 22 = .ok (.iconst 0, 1) := dc9_3 (by decide +kernel)
theorem d_MM_letter_11 : decode y_MM_letter.2.1 11 = .ok (.aload_n 0, 1) := dc9_42 (by decide +kernel)
theorem d_MM_letter_12 : decode y_MM_letter.2.1 12 = .ok (.getfield 16, 3) := dc9_180 (by decide +kernel)
theorem d_MM_letter_15 : decode y_MM_letter.2.1 15 = .ok (.iload_n 1, 1) := dc9_27 (by decide +kernel)
theorem d_MM_letter_23 : decode y_MM_letter.2.1 23 = .ok (.ireturn, 1) := dc9_172 (by decide +kernel)
theorem d_MM_letter_16 : decode y_MM_letter.2.1 16 = .ok (.invokevirtual 155, 3) := dc9_182 (by decide +kernel)
theorem d_MM_letter_19 : decode y_MM_letter.2.1 19 = .ok (.goto 4, 3) := dc9_167 (by decide +kernel)
theorem k_MM_letter {G : mG} {d : Nat} {a0 : Nat} {l1 : Int} {M : mM} {Q : Int → mM → Prop} (hO : mOk M) (hi_l1 : i32 l1)
    (h : mK M a0 = 14 ∧ mK M (mR M a0 2) = 15 ∧ ((mI M (mR M a0 2) 1 ≤ l1) → (Q 0 M)) ∧ (¬ (mI M (mR M a0 2) 1 ≤ l1) → (Ci G y_MN_at d [vr (mR M a0 2), vi l1] M (fun x7 M6 => i32 x7 ∧ mOk M6 ∧ (Q x7 M6))))) :
    Ci G y_MM_letter (d + 1) [vr a0, vi l1] M Q := by
  refine wm_open (y := y_MM_letter) rfl (Nat.le_of_ble_eq_true rfl) (L := [vr a0, vi l1]) rfl ?_
  obtain ⟨h1, h⟩ := h
  obtain ⟨h2, h⟩ := h
  refine wm_iload_n d_MM_letter_0 rfl rfl ?_
  refine wm_aload_n d_MM_letter_1 rfl rfl ?_
  refine gf_MM_16 rfl d_MM_letter_2 h1 ?_
  refine gf_MM_145 rfl d_MM_letter_5 h2 ?_
  refine wm_icmp_ge (tgt := 22) d_MM_letter_8 rfl hi_l1 (hO _ _).1 (fun c5 => ?_) (fun c5 => ?_)
  · replace h := h.1 c5
    refine wm_iconst d_MM_letter_22 ?_
    refine wm_ireturn d_MM_letter_23 rfl rfl ?_
    exact ⟨_, rfl, h⟩
  · replace h := h.2 c5
    refine wm_aload_n d_MM_letter_11 rfl rfl ?_
    refine gf_MM_16 rfl d_MM_letter_12 h1 ?_
    refine wm_iload_n d_MM_letter_15 rfl rfl ?_
    refine cf_MM_155 rfl d_MM_letter_16 h2 (Nat.le_of_ble_eq_true rfl) (Ci.mono h (fun x7 M6 h => ?_))
    obtain ⟨h8, hOM6, h⟩ := h
    refine wm_goto (tgt := 23) d_MM_letter_19 rfl ?_
    refine wm_ireturn d_MM_letter_23 rfl rfl ?_
    exact ⟨_, rfl, h⟩
end
section
theorem d_MM_isLetter_0 : decode y_MM_isLetter.2.1 0 = .ok (.iload_n 0, 1) := dc9_26 (by decide +kernel)
theorem d_MM_isLetter_1 : decode y_MM_isLetter.2.1 1 = .ok (.bipush 97, 2) := dc9_16 (by decide +kernel)
theorem d_MM_isLetter_3 : decode y_MM_isLetter.2.1 3 = .ok (.if_icmp .lt 9, 3) := dc9_161 (by decide +kernel)
theorem d_MM_isLetter_12 : decode y_MM_isLetter.2.1 12 = .ok (.iload_n 0, 1) := dc9_26 (by decide +kernel)
theorem d_MM_isLetter_13 : decode y_MM_isLetter.2.1 13 = .ok (.bipush 65, 2) := dc9_16 (by decide +kernel)
theorem d_MM_isLetter_15 : decode y_MM_isLetter.2.1 15 = .ok (.if_icmp .lt 13, 3) := dc9_161 (by decide +kernel)
theorem d_MM_isLetter_28 : decode y_MM_isLetter.2.1 28 = .ok (.iconst 0, 1) := dc9_3 (by decide +kernel)
theorem d_MM_isLetter_18 : decode y_MM_isLetter.2.1 18 = .ok (.iload_n 0, 1) := dc9_26 (by decide +kernel)
theorem d_MM_isLetter_19 : decode y_MM_isLetter.2.1 19 = .ok (.bipush 90, 2) := dc9_16 (by decide +kernel)
theorem d_MM_isLetter_21 : decode y_MM_isLetter.2.1 21 = .ok (.if_icmp .gt 7, 3) := dc9_163 (by decide +kernel)
theorem d_MM_isLetter_24 : decode y_MM_isLetter.2.1 24 = .ok (.iconst 1, 1) := dc9_4 (by decide +kernel)
theorem d_MM_isLetter_25 : decode y_MM_isLetter.2.1 25 = .ok (.goto 4, 3) := dc9_167 (by decide +kernel)
theorem d_MM_isLetter_6 : decode y_MM_isLetter.2.1 6 = .ok (.iload_n 0, 1) := dc9_26 (by decide +kernel)
theorem d_MM_isLetter_7 : decode y_MM_isLetter.2.1 7 = .ok (.bipush 122, 2) := dc9_16 (by decide +kernel)
theorem d_MM_isLetter_9 : decode y_MM_isLetter.2.1 9 = .ok (.if_icmp .le 15, 3) := dc9_164 (by decide +kernel)
theorem d_MM_isLetter_29 : decode y_MM_isLetter.2.1 29 = .ok (.ireturn, 1) := dc9_172 (by decide +kernel)
theorem k_MM_isLetter {G : mG} {d : Nat} {l0 : Int} {M : mM} {Q : Int → mM → Prop} (hO : mOk M) (hi_l0 : i32 l0)
    (h : ∀ v7 : Int, v7 = (if (((l0 < 97) ∧ ((l0 < 65) ∨ (90 < l0))) ∨ ((¬ (l0 < 97)) ∧ ((¬ (l0 ≤ 122)) ∧ ((l0 < 65) ∨ (90 < l0))))) then 0 else 1) → Q v7 M) :
    Ci G y_MM_isLetter d [vi l0] M Q := by
  refine wm_open (y := y_MM_isLetter) rfl (Nat.le_of_ble_eq_true rfl) (L := [vi l0]) rfl ?_
  refine wm_iload_n d_MM_isLetter_0 rfl rfl ?_
  refine wm_bipush d_MM_isLetter_1 (by decide) ?_
  have hJ : ∀ v7 : Int, v7 = (if (((l0 < 97) ∧ ((l0 < 65) ∨ (90 < l0))) ∨ ((¬ (l0 < 97)) ∧ ((¬ (l0 ≤ 122)) ∧ ((l0 < 65) ∨ (90 < l0))))) then 0 else 1) → mWm G y_MM_isLetter d 29 [vd] [vi v7] M (fun r9 M9 => ∃ x9, r9 = some (vi x9) ∧ Q x9 M9) := by
    intro v7 e9
    have h := h v7 e9
    have h10 : i32 v7 := by rw [e9]; (repeat' split) <;> first | exact ⟨by decide, by decide⟩ | exact ⟨by decide, by decide⟩
    have h11 : (v7 = 0 ∨ v7 = 1) := by rw [e9]; (repeat' split) <;> decide
    refine wm_ireturn d_MM_isLetter_29 rfl (m_nb h11) ?_
    exact ⟨_, rfl, h⟩
  clear h
  refine wm_icmp_lt (tgt := 12) d_MM_isLetter_3 rfl hi_l0 ⟨by decide, by decide⟩ (fun c1 => ?_) (fun c1 => ?_)
  · refine wm_iload_n d_MM_isLetter_12 rfl rfl ?_
    refine wm_bipush d_MM_isLetter_13 (by decide) ?_
    refine wm_icmp_lt (tgt := 28) d_MM_isLetter_15 rfl hi_l0 ⟨by decide, by decide⟩ (fun c2 => ?_) (fun c2 => ?_)
    · refine wm_iconst d_MM_isLetter_28 ?_
      refine wm_less (L' := [vd]) ⟨Or.inl rfl, trivial⟩ ?_
      exact hJ 0 (if_pos (Or.inl ⟨c1, (Or.inl c2)⟩)).symm
    · refine wm_iload_n d_MM_isLetter_18 rfl rfl ?_
      refine wm_bipush d_MM_isLetter_19 (by decide) ?_
      refine wm_icmp_gt (tgt := 28) d_MM_isLetter_21 rfl hi_l0 ⟨by decide, by decide⟩ (fun c3 => ?_) (fun c3 => ?_)
      · refine wm_iconst d_MM_isLetter_28 ?_
        refine wm_less (L' := [vd]) ⟨Or.inl rfl, trivial⟩ ?_
        exact hJ 0 (if_pos (Or.inl ⟨c1, (Or.inr c3)⟩)).symm
      · refine wm_iconst d_MM_isLetter_24 ?_
        refine wm_goto (tgt := 29) d_MM_isLetter_25 rfl ?_
        refine wm_less (L' := [vd]) ⟨Or.inl rfl, trivial⟩ ?_
        exact hJ 1 (if_neg (fun z12 => Or.elim z12 (fun w => (fun z13 => Or.elim z13 c2 c3) w.2) (fun w => w.1 c1))).symm
  · refine wm_iload_n d_MM_isLetter_6 rfl rfl ?_
    refine wm_bipush d_MM_isLetter_7 (by decide) ?_
    refine wm_icmp_le (tgt := 24) d_MM_isLetter_9 rfl hi_l0 ⟨by decide, by decide⟩ (fun c4 => ?_) (fun c4 => ?_)
    · refine wm_iconst d_MM_isLetter_24 ?_
      refine wm_goto (tgt := 29) d_MM_isLetter_25 rfl ?_
      refine wm_less (L' := [vd]) ⟨Or.inl rfl, trivial⟩ ?_
      exact hJ 1 (if_neg (fun z15 => Or.elim z15 (fun w => c1 w.1) (fun w => (fun z16 => z16.1 c4) w.2))).symm
    · refine wm_iload_n d_MM_isLetter_12 rfl rfl ?_
      refine wm_bipush d_MM_isLetter_13 (by decide) ?_
      refine wm_icmp_lt (tgt := 28) d_MM_isLetter_15 rfl hi_l0 ⟨by decide, by decide⟩ (fun c5 => ?_) (fun c5 => ?_)
      · refine wm_iconst d_MM_isLetter_28 ?_
        refine wm_less (L' := [vd]) ⟨Or.inl rfl, trivial⟩ ?_
        exact hJ 0 (if_pos (Or.inr ⟨c1, ⟨c4, (Or.inl c5)⟩⟩)).symm
      · refine wm_iload_n d_MM_isLetter_18 rfl rfl ?_
        refine wm_bipush d_MM_isLetter_19 (by decide) ?_
        refine wm_icmp_gt (tgt := 28) d_MM_isLetter_21 rfl hi_l0 ⟨by decide, by decide⟩ (fun c6 => ?_) (fun c6 => ?_)
        · refine wm_iconst d_MM_isLetter_28 ?_
          refine wm_less (L' := [vd]) ⟨Or.inl rfl, trivial⟩ ?_
          exact hJ 0 (if_pos (Or.inr ⟨c1, ⟨c4, (Or.inr c6)⟩⟩)).symm
        · refine wm_iconst d_MM_isLetter_24 ?_
          refine wm_goto (tgt := 29) d_MM_isLetter_25 rfl ?_
          refine wm_less (L' := [vd]) ⟨Or.inl rfl, trivial⟩ ?_
          exact hJ 1 (if_neg (fun z17 => Or.elim z17 (fun w => c1 w.1) (fun w => (fun z18 => (fun z19 => Or.elim z19 c5 c6) z18.2) w.2))).symm
theorem d_MM_isDigit_0 : decode y_MM_isDigit.2.1 0 = .ok (.iload_n 0, 1) := dc9_26 (by decide +kernel)
theorem d_MM_isDigit_1 : decode y_MM_isDigit.2.1 1 = .ok (.bipush 48, 2) := dc9_16 (by decide +kernel)
theorem d_MM_isDigit_3 : decode y_MM_isDigit.2.1 3 = .ok (.if_icmp .lt 13, 3) := dc9_161 (by decide +kernel)
theorem d_MM_isDigit_16 : decode y_MM_isDigit.2.1 16 = .ok (.iconst 0, 1) := dc9_3 (by decide +kernel)
theorem d_MM_isDigit_6 : decode y_MM_isDigit.2.1 6 = .ok (.iload_n 0, 1) := dc9_26 (by decide +kernel)
theorem d_MM_isDigit_7 : decode y_MM_isDigit.2.1 7 = .ok (.bipush 57, 2) := dc9_16 (by decide +kernel)
theorem d_MM_isDigit_9 : decode y_MM_isDigit.2.1 9 = .ok (.if_icmp .gt 7, 3) := dc9_163 (by decide +kernel)
theorem d_MM_isDigit_12 : decode y_MM_isDigit.2.1 12 = .ok (.iconst 1, 1) := dc9_4 (by decide +kernel)
theorem d_MM_isDigit_13 : decode y_MM_isDigit.2.1 13 = .ok (.goto 4, 3) := dc9_167 (by decide +kernel)
theorem d_MM_isDigit_17 : decode y_MM_isDigit.2.1 17 = .ok (.ireturn, 1) := dc9_172 (by decide +kernel)
theorem k_MM_isDigit {G : mG} {d : Nat} {l0 : Int} {M : mM} {Q : Int → mM → Prop} (hO : mOk M) (hi_l0 : i32 l0)
    (h : ∀ v3 : Int, v3 = (if ((l0 < 48) ∨ (57 < l0)) then 0 else 1) → Q v3 M) :
    Ci G y_MM_isDigit d [vi l0] M Q := by
  refine wm_open (y := y_MM_isDigit) rfl (Nat.le_of_ble_eq_true rfl) (L := [vi l0]) rfl ?_
  refine wm_iload_n d_MM_isDigit_0 rfl rfl ?_
  refine wm_bipush d_MM_isDigit_1 (by decide) ?_
  have hJ : ∀ v3 : Int, v3 = (if ((l0 < 48) ∨ (57 < l0)) then 0 else 1) → mWm G y_MM_isDigit d 17 [vd] [vi v3] M (fun r9 M9 => ∃ x9, r9 = some (vi x9) ∧ Q x9 M9) := by
    intro v3 e5
    have h := h v3 e5
    have h6 : i32 v3 := by rw [e5]; (repeat' split) <;> first | exact ⟨by decide, by decide⟩ | exact ⟨by decide, by decide⟩
    have h7 : (v3 = 0 ∨ v3 = 1) := by rw [e5]; (repeat' split) <;> decide
    refine wm_ireturn d_MM_isDigit_17 rfl (m_nb h7) ?_
    exact ⟨_, rfl, h⟩
  clear h
  refine wm_icmp_lt (tgt := 16) d_MM_isDigit_3 rfl hi_l0 ⟨by decide, by decide⟩ (fun c1 => ?_) (fun c1 => ?_)
  · refine wm_iconst d_MM_isDigit_16 ?_
    refine wm_less (L' := [vd]) ⟨Or.inl rfl, trivial⟩ ?_
    exact hJ 0 (if_pos (Or.inl c1)).symm
  · refine wm_iload_n d_MM_isDigit_6 rfl rfl ?_
    refine wm_bipush d_MM_isDigit_7 (by decide) ?_
    refine wm_icmp_gt (tgt := 16) d_MM_isDigit_9 rfl hi_l0 ⟨by decide, by decide⟩ (fun c2 => ?_) (fun c2 => ?_)
    · refine wm_iconst d_MM_isDigit_16 ?_
      refine wm_less (L' := [vd]) ⟨Or.inl rfl, trivial⟩ ?_
      exact hJ 0 (if_pos (Or.inr c2)).symm
    · refine wm_iconst d_MM_isDigit_12 ?_
      refine wm_goto (tgt := 17) d_MM_isDigit_13 rfl ?_
      refine wm_less (L' := [vd]) ⟨Or.inl rfl, trivial⟩ ?_
      exact hJ 1 (if_neg (fun z8 => Or.elim z8 c1 c2)).symm
theorem d_MM_isBlank_0 : decode y_MM_isBlank.2.1 0 = .ok (.iload_n 0, 1) := dc9_26 (by decide +kernel)
theorem d_MM_isBlank_1 : decode y_MM_isBlank.2.1 1 = .ok (.bipush 9, 2) := dc9_16 (by decide +kernel)
theorem d_MM_isBlank_3 : decode y_MM_isBlank.2.1 3 = .ok (.if_icmp .eq 21, 3) := dc9_159 (by decide +kernel)
theorem d_MM_isBlank_24 : decode y_MM_isBlank.2.1 24 = .ok (.iconst 1, 1) := dc9_4 (by decide +kernel)
theorem d_MM_isBlank_25 : decode y_MM_isBlank.2.1 25 = .ok (.goto 4, 3) := dc9_167 (by decide +kernel)
theorem d_MM_isBlank_6 : decode y_MM_isBlank.2.1 6 = .ok (.iload_n 0, 1) := dc9_26 (by decide +kernel)
theorem d_MM_isBlank_7 : decode y_MM_isBlank.2.1 7 = .ok (.bipush 10, 2) := dc9_16 (by decide +kernel)
theorem d_MM_isBlank_9 : decode y_MM_isBlank.2.1 9 = .ok (.if_icmp .eq 15, 3) := dc9_159 (by decide +kernel)
theorem d_MM_isBlank_12 : decode y_MM_isBlank.2.1 12 = .ok (.iload_n 0, 1) := dc9_26 (by decide +kernel)
theorem d_MM_isBlank_13 : decode y_MM_isBlank.2.1 13 = .ok (.bipush 13, 2) := dc9_16 (by decide +kernel)
theorem d_MM_isBlank_15 : decode y_MM_isBlank.2.1 15 = .ok (.if_icmp .eq 9, 3) := dc9_159 (by decide +kernel)
theorem d_MM_isBlank_18 : decode y_MM_isBlank.2.1 18 = .ok (.iload_n 0, 1) := dc9_26 (by decide +kernel)
theorem d_MM_isBlank_19 : decode y_MM_isBlank.2.1 19 = .ok (.bipush 32, 2) := dc9_16 (by decide +kernel)
theorem d_MM_isBlank_21 : decode y_MM_isBlank.2.1 21 = .ok (.if_icmp .ne 7, 3) := dc9_160 (by decide +kernel)
theorem d_MM_isBlank_28 : decode y_MM_isBlank.2.1 28 = .ok (.iconst 0, 1) := dc9_3 (by decide +kernel)
theorem d_MM_isBlank_29 : decode y_MM_isBlank.2.1 29 = .ok (.ireturn, 1) := dc9_172 (by decide +kernel)
theorem k_MM_isBlank {G : mG} {d : Nat} {l0 : Int} {M : mM} {Q : Int → mM → Prop} (hO : mOk M) (hi_l0 : i32 l0)
    (h : ∀ v5 : Int, v5 = (if ((l0 = 9) ∨ ((l0 = 10) ∨ ((l0 = 13) ∨ (l0 = 32)))) then 1 else 0) → Q v5 M) :
    Ci G y_MM_isBlank d [vi l0] M Q := by
  refine wm_open (y := y_MM_isBlank) rfl (Nat.le_of_ble_eq_true rfl) (L := [vi l0]) rfl ?_
  refine wm_iload_n d_MM_isBlank_0 rfl rfl ?_
  refine wm_bipush d_MM_isBlank_1 (by decide) ?_
  have hJ : ∀ v5 : Int, v5 = (if ((l0 = 9) ∨ ((l0 = 10) ∨ ((l0 = 13) ∨ (l0 = 32)))) then 1 else 0) → mWm G y_MM_isBlank d 29 [vd] [vi v5] M (fun r9 M9 => ∃ x9, r9 = some (vi x9) ∧ Q x9 M9) := by
    intro v5 e7
    have h := h v5 e7
    have h8 : i32 v5 := by rw [e7]; (repeat' split) <;> first | exact ⟨by decide, by decide⟩ | exact ⟨by decide, by decide⟩
    have h9 : (v5 = 0 ∨ v5 = 1) := by rw [e7]; (repeat' split) <;> decide
    refine wm_ireturn d_MM_isBlank_29 rfl (m_nb h9) ?_
    exact ⟨_, rfl, h⟩
  clear h
  refine wm_icmp_eq (tgt := 24) d_MM_isBlank_3 rfl hi_l0 ⟨by decide, by decide⟩ (fun c1 => ?_) (fun c1 => ?_)
  · refine wm_iconst d_MM_isBlank_24 ?_
    refine wm_goto (tgt := 29) d_MM_isBlank_25 rfl ?_
    refine wm_less (L' := [vd]) ⟨Or.inl rfl, trivial⟩ ?_
    exact hJ 1 (if_pos (Or.inl c1)).symm
  · refine wm_iload_n d_MM_isBlank_6 rfl rfl ?_
    refine wm_bipush d_MM_isBlank_7 (by decide) ?_
    refine wm_icmp_eq (tgt := 24) d_MM_isBlank_9 rfl hi_l0 ⟨by decide, by decide⟩ (fun c2 => ?_) (fun c2 => ?_)
    · refine wm_iconst d_MM_isBlank_24 ?_
      refine wm_goto (tgt := 29) d_MM_isBlank_25 rfl ?_
      refine wm_less (L' := [vd]) ⟨Or.inl rfl, trivial⟩ ?_
      exact hJ 1 (if_pos (Or.inr (Or.inl c2))).symm
    · refine wm_iload_n d_MM_isBlank_12 rfl rfl ?_
      refine wm_bipush d_MM_isBlank_13 (by decide) ?_
      refine wm_icmp_eq (tgt := 24) d_MM_isBlank_15 rfl hi_l0 ⟨by decide, by decide⟩ (fun c3 => ?_) (fun c3 => ?_)
      · refine wm_iconst d_MM_isBlank_24 ?_
        refine wm_goto (tgt := 29) d_MM_isBlank_25 rfl ?_
        refine wm_less (L' := [vd]) ⟨Or.inl rfl, trivial⟩ ?_
        exact hJ 1 (if_pos (Or.inr (Or.inr (Or.inl c3)))).symm
      · refine wm_iload_n d_MM_isBlank_18 rfl rfl ?_
        refine wm_bipush d_MM_isBlank_19 (by decide) ?_
        refine wm_icmp_ne (tgt := 28) d_MM_isBlank_21 rfl hi_l0 ⟨by decide, by decide⟩ (fun c4 => ?_) (fun c4 => ?_)
        · refine wm_iconst d_MM_isBlank_28 ?_
          refine wm_less (L' := [vd]) ⟨Or.inl rfl, trivial⟩ ?_
          exact hJ 0 (if_neg (fun z10 => Or.elim z10 c1 (fun z11 => Or.elim z11 c2 (fun z12 => Or.elim z12 c3 c4)))).symm
        · replace c4 := Classical.not_not.mp c4
          refine wm_iconst d_MM_isBlank_24 ?_
          refine wm_goto (tgt := 29) d_MM_isBlank_25 rfl ?_
          refine wm_less (L' := [vd]) ⟨Or.inl rfl, trivial⟩ ?_
          exact hJ 1 (if_pos (Or.inr (Or.inr (Or.inr c4)))).symm
theorem d_MM_skip_0 : decode y_MM_skip.2.1 0 = .ok (.iload_n 1, 1) := dc9_27 (by decide +kernel)
theorem d_MM_skip_1 : decode y_MM_skip.2.1 1 = .ok (.istore_n 2, 1) := dc9_61 (by decide +kernel)
theorem d_MM_skip_2 : decode y_MM_skip.2.1 2 = .ok (.iload_n 2, 1) := dc9_28 (by decide +kernel)
theorem d_MM_skip_3 : decode y_MM_skip.2.1 3 = .ok (.aload_n 0, 1) := dc9_42 (by decide +kernel)
theorem d_MM_skip_4 : decode y_MM_skip.2.1 4 = .ok (.getfield 16, 3) := dc9_180 (by decide +kernel)
theorem d_MM_skip_7 : decode y_MM_skip.2.1 7 = .ok (.getfield 145, 3) := dc9_180 (by decide +kernel)
theorem d_MM_skip_10 : decode y_MM_skip.2.1 10 = .ok (.if_icmp .ge 67, 3) := dc9_162 (by decide +kernel)
theorem d_MM_skip_13 : decode y_MM_skip.2.1 13 = .ok (.aload_n 0, 1) := dc9_42 (by decide +kernel)
theorem d_MM_skip_14 : decode y_MM_skip.2.1 14 = .ok (.iload_n 2, 1) := dc9_28 (by decide +kernel)
theorem d_MM_skip_77 : decode y_MM_skip.2.1 77 = .ok (.iload_n 2, 1) := dc9_28 (by decide +kernel)
theorem d_MM_skip_78 : decode y_MM_skip.2.1 78 = .ok (.ireturn, 1) := dc9_172 (by decide +kernel)
theorem d_MM_skip_15 : decode y_MM_skip.2.1 15 = .ok (.invokevirtual 159, 3) := dc9_182 (by decide +kernel)
theorem d_MM_skip_18 : decode y_MM_skip.2.1 18 = .ok (.invokestatic 162, 3) := dc9_184 (by decide +kernel)
theorem d_MM_skip_21 : decode y_MM_skip.2.1 21 = .ok (.ifCond .ne 13, 3) := dc9_154 (by decide +kernel)
theorem d_MM_skip_24 : decode y_MM_skip.2.1 24 = .ok (.aload_n 0, 1) := dc9_42 (by decide +kernel)
theorem d_MM_skip_25 : decode y_MM_skip.2.1 25 = .ok (.iload_n 2, 1) := dc9_28 (by decide +kernel)
theorem d_MM_skip_26 : decode y_MM_skip.2.1 26 = .ok (.invokevirtual 159, 3) := dc9_182 (by decide +kernel)
theorem d_MM_skip_29 : decode y_MM_skip.2.1 29 = .ok (.bipush 35, 2) := dc9_16 (by decide +kernel)
theorem d_MM_skip_31 : decode y_MM_skip.2.1 31 = .ok (.if_icmp .ne 46, 3) := dc9_160 (by decide +kernel)
theorem d_MM_skip_34 : decode y_MM_skip.2.1 34 = .ok (.aload_n 0, 1) := dc9_42 (by decide +kernel)
theorem d_MM_skip_35 : decode y_MM_skip.2.1 35 = .ok (.iload_n 2, 1) := dc9_28 (by decide +kernel)
theorem d_MM_skip_36 : decode y_MM_skip.2.1 36 = .ok (.invokevirtual 159, 3) := dc9_182 (by decide +kernel)
theorem d_MM_skip_39 : decode y_MM_skip.2.1 39 = .ok (.bipush 35, 2) := dc9_16 (by decide +kernel)
theorem d_MM_skip_41 : decode y_MM_skip.2.1 41 = .ok (.if_icmp .ne 30, 3) := dc9_160 (by decide +kernel)
theorem d_MM_skip_71 : decode y_MM_skip.2.1 71 = .ok (.iinc 2 1, 3) := by decide +kernel
theorem d_MM_skip_74 : decode y_MM_skip.2.1 74 = .ok (.goto (-72), 3) := dc9_167 (by decide +kernel)
theorem d_MM_skip_44 : decode y_MM_skip.2.1 44 = .ok (.iload_n 2, 1) := dc9_28 (by decide +kernel)
theorem d_MM_skip_45 : decode y_MM_skip.2.1 45 = .ok (.aload_n 0, 1) := dc9_42 (by decide +kernel)
theorem d_MM_skip_46 : decode y_MM_skip.2.1 46 = .ok (.getfield 16, 3) := dc9_180 (by decide +kernel)
theorem d_MM_skip_49 : decode y_MM_skip.2.1 49 = .ok (.getfield 145, 3) := dc9_180 (by decide +kernel)
theorem d_MM_skip_52 : decode y_MM_skip.2.1 52 = .ok (.if_icmp .ge (-50), 3) := dc9_162 (by decide +kernel)
theorem d_MM_skip_55 : decode y_MM_skip.2.1 55 = .ok (.aload_n 0, 1) := dc9_42 (by decide +kernel)
theorem d_MM_skip_56 : decode y_MM_skip.2.1 56 = .ok (.iload_n 2, 1) := dc9_28 (by decide +kernel)
theorem d_MM_skip_57 : decode y_MM_skip.2.1 57 = .ok (.invokevirtual 159, 3) := dc9_182 (by decide +kernel)
theorem d_MM_skip_60 : decode y_MM_skip.2.1 60 = .ok (.bipush 10, 2) := dc9_16 (by decide +kernel)
theorem d_MM_skip_62 : decode y_MM_skip.2.1 62 = .ok (.if_icmp .eq (-60), 3) := dc9_159 (by decide +kernel)
theorem d_MM_skip_65 : decode y_MM_skip.2.1 65 = .ok (.iinc 2 1, 3) := by decide +kernel
theorem d_MM_skip_68 : decode y_MM_skip.2.1 68 = .ok (.goto (-24), 3) := dc9_167 (by decide +kernel)
def h_MM_skip_2 (G : mG) (d : Nat) (a0 : Nat) (l2 : Int) (M : mM) (Q : Int → mM → Prop) : Prop := mWm G y_MM_skip (d + 1) 2 [vr a0, vd, vi l2] [] M (fun r9 M9 => ∃ x9, r9 = some (vi x9) ∧ Q x9 M9)
def h_MM_skip_44 (G : mG) (d : Nat) (a0 : Nat) (l2 : Int) (M : mM) (Q : Int → mM → Prop) : Prop := mWm G y_MM_skip (d + 1) 44 [vr a0, vd, vi l2] [] M (fun r9 M9 => ∃ x9, r9 = some (vi x9) ∧ Q x9 M9)
theorem k_MM_skip {G : mG} {d : Nat} {a0 : Nat} {l1 : Int} {M : mM} {Q : Int → mM → Prop} (hO : mOk M) (hi_l1 : i32 l1)
    (h : h_MM_skip_2 G d a0 l1 M Q) :
    Ci G y_MM_skip (d + 1) [vr a0, vi l1] M Q := by
  refine wm_open (y := y_MM_skip) rfl (Nat.le_of_ble_eq_true rfl) (L := [vr a0, vi l1, vd]) rfl ?_
  refine wm_iload_n d_MM_skip_0 rfl rfl ?_
  refine wm_istore_n d_MM_skip_1 rfl (by decide) (L' := [vr a0, vi l1, vi l1]) rfl ?_
  refine wm_less (L' := [vr a0, vd, vi l1]) ⟨Or.inr rfl, Or.inl rfl, Or.inr rfl, trivial⟩ ?_
  exact h
theorem k_MM_skip_2 {G : mG} {d : Nat} {a0 : Nat} {l2 : Int} {M : mM} {Q : Int → mM → Prop} (hO : mOk M) (hi_l2 : i32 l2)
    (h : mK M a0 = 14 ∧ mK M (mR M a0 2) = 15 ∧ ((mI M (mR M a0 2) 1 ≤ l2) → (Q l2 M)) ∧ (¬ (mI M (mR M a0 2) 1 ≤ l2) → (Ci G y_MM_letter d [vr a0, vi l2] M (fun x6 M5 => i32 x6 ∧ mOk M5 ∧ (Ci G y_MM_isBlank d [vi x6] M5 (fun x9 M8 => i32 x9 ∧ mOk M8 ∧ (((x9 = 0) → (mK M8 a0 = 14 ∧ Ci G y_MM_letter d [vr a0, vi l2] M8 (fun x15 M14 => i32 x15 ∧ mOk M14 ∧ (((x15 = 35) → (mK M14 a0 = 14 ∧ Ci G y_MM_letter d [vr a0, vi l2] M14 (fun x21 M20 => i32 x21 ∧ mOk M20 ∧ (((x21 = 35) → (h_MM_skip_44 G d a0 l2 M20 Q)) ∧ (¬ (x21 = 35) → (h_MM_skip_2 G d a0 (l2 + 1) M20 Q)))))) ∧ (¬ (x15 = 35) → (Q l2 M14)))))) ∧ (¬ (x9 = 0) → (mK M8 a0 = 14 ∧ Ci G y_MM_letter d [vr a0, vi l2] M8 (fun x27 M26 => i32 x27 ∧ mOk M26 ∧ (((x27 = 35) → (h_MM_skip_44 G d a0 l2 M26 Q)) ∧ (¬ (x27 = 35) → (h_MM_skip_2 G d a0 (l2 + 1) M26 Q))))))))))))) :
    h_MM_skip_2 G d a0 l2 M Q := by
  unfold h_MM_skip_2
  obtain ⟨h1, h⟩ := h
  obtain ⟨h2, h⟩ := h
  refine wm_iload_n d_MM_skip_2 rfl rfl ?_
  refine wm_aload_n d_MM_skip_3 rfl rfl ?_
  refine gf_MM_16 rfl d_MM_skip_4 h1 ?_
  refine gf_MM_145 rfl d_MM_skip_7 h2 ?_
  refine wm_icmp_ge (tgt := 77) d_MM_skip_10 rfl hi_l2 (hO _ _).1 (fun c4 => ?_) (fun c4 => ?_)
  · replace h := h.1 c4
    refine wm_iload_n d_MM_skip_77 rfl rfl ?_
    refine wm_ireturn d_MM_skip_78 rfl rfl ?_
    exact ⟨_, rfl, h⟩
  · replace h := h.2 c4
    refine wm_aload_n d_MM_skip_13 rfl rfl ?_
    refine wm_iload_n d_MM_skip_14 rfl rfl ?_
    refine cf_MM_159 rfl d_MM_skip_15 h1 (Nat.le_of_ble_eq_true rfl) (Ci.mono h (fun x6 M5 h => ?_))
    obtain ⟨h7, hOM5, h⟩ := h
    refine cf_MM_162 rfl d_MM_skip_18 (Nat.le_of_ble_eq_true rfl) (Ci.mono h (fun x9 M8 h => ?_))
    obtain ⟨h10, hOM8, h⟩ := h
    refine wm_if_ne (tgt := 34) d_MM_skip_21 rfl h10 (fun c12 => ?_) (fun c12 => ?_)
    · replace h := h.2 c12
      obtain ⟨h25, h⟩ := h
      refine wm_aload_n d_MM_skip_34 rfl rfl ?_
      refine wm_iload_n d_MM_skip_35 rfl rfl ?_
      refine cf_MM_159 rfl d_MM_skip_36 h25 (Nat.le_of_ble_eq_true rfl) (Ci.mono h (fun x27 M26 h => ?_))
      obtain ⟨h28, hOM26, h⟩ := h
      refine wm_bipush d_MM_skip_39 (by decide) ?_
      refine wm_icmp_ne (tgt := 71) d_MM_skip_41 rfl h28 ⟨by decide, by decide⟩ (fun c30 => ?_) (fun c30 => ?_)
      · replace h := h.2 c30
        refine wm_iinc d_MM_skip_71 (by decide) rfl (L' := [vr a0, vd, vi (l2 + 1)]) rfl ?_
        refine wm_goto (tgt := 2) d_MM_skip_74 rfl ?_
        exact h
      · replace c30 := Classical.not_not.mp c30
        replace h := h.1 c30
        exact h
    · replace c12 := Classical.not_not.mp c12
      replace h := h.1 c12
      obtain ⟨h13, h⟩ := h
      refine wm_aload_n d_MM_skip_24 rfl rfl ?_
      refine wm_iload_n d_MM_skip_25 rfl rfl ?_
      refine cf_MM_159 rfl d_MM_skip_26 h13 (Nat.le_of_ble_eq_true rfl) (Ci.mono h (fun x15 M14 h => ?_))
      obtain ⟨h16, hOM14, h⟩ := h
      refine wm_bipush d_MM_skip_29 (by decide) ?_
      refine wm_icmp_ne (tgt := 77) d_MM_skip_31 rfl h16 ⟨by decide, by decide⟩ (fun c18 => ?_) (fun c18 => ?_)
      · replace h := h.2 c18
        refine wm_iload_n d_MM_skip_77 rfl rfl ?_
        refine wm_ireturn d_MM_skip_78 rfl rfl ?_
        exact ⟨_, rfl, h⟩
      · replace c18 := Classical.not_not.mp c18
        replace h := h.1 c18
        obtain ⟨h19, h⟩ := h
        refine wm_aload_n d_MM_skip_34 rfl rfl ?_
        refine wm_iload_n d_MM_skip_35 rfl rfl ?_
        refine cf_MM_159 rfl d_MM_skip_36 h19 (Nat.le_of_ble_eq_true rfl) (Ci.mono h (fun x21 M20 h => ?_))
        obtain ⟨h22, hOM20, h⟩ := h
        refine wm_bipush d_MM_skip_39 (by decide) ?_
        refine wm_icmp_ne (tgt := 71) d_MM_skip_41 rfl h22 ⟨by decide, by decide⟩ (fun c24 => ?_) (fun c24 => ?_)
        · replace h := h.2 c24
          refine wm_iinc d_MM_skip_71 (by decide) rfl (L' := [vr a0, vd, vi (l2 + 1)]) rfl ?_
          refine wm_goto (tgt := 2) d_MM_skip_74 rfl ?_
          exact h
        · replace c24 := Classical.not_not.mp c24
          replace h := h.1 c24
          exact h
theorem k_MM_skip_44 {G : mG} {d : Nat} {a0 : Nat} {l2 : Int} {M : mM} {Q : Int → mM → Prop} (hO : mOk M) (hi_l2 : i32 l2)
    (h : mK M a0 = 14 ∧ mK M (mR M a0 2) = 15 ∧ ((mI M (mR M a0 2) 1 ≤ l2) → (h_MM_skip_2 G d a0 l2 M Q)) ∧ (¬ (mI M (mR M a0 2) 1 ≤ l2) → (Ci G y_MM_letter d [vr a0, vi l2] M (fun x36 M35 => i32 x36 ∧ mOk M35 ∧ (((x36 = 10) → (h_MM_skip_2 G d a0 l2 M35 Q)) ∧ (¬ (x36 = 10) → (h_MM_skip_44 G d a0 (l2 + 1) M35 Q))))))) :
    h_MM_skip_44 G d a0 l2 M Q := by
  unfold h_MM_skip_44
  obtain ⟨h31, h⟩ := h
  obtain ⟨h32, h⟩ := h
  refine wm_iload_n d_MM_skip_44 rfl rfl ?_
  refine wm_aload_n d_MM_skip_45 rfl rfl ?_
  refine gf_MM_16 rfl d_MM_skip_46 h31 ?_
  refine gf_MM_145 rfl d_MM_skip_49 h32 ?_
  refine wm_icmp_ge (tgt := 2) d_MM_skip_52 rfl hi_l2 (hO _ _).1 (fun c34 => ?_) (fun c34 => ?_)
  · replace h := h.1 c34
    exact h
  · replace h := h.2 c34
    refine wm_aload_n d_MM_skip_55 rfl rfl ?_
    refine wm_iload_n d_MM_skip_56 rfl rfl ?_
    refine cf_MM_159 rfl d_MM_skip_57 h31 (Nat.le_of_ble_eq_true rfl) (Ci.mono h (fun x36 M35 h => ?_))
    obtain ⟨h37, hOM35, h⟩ := h
    refine wm_bipush d_MM_skip_60 (by decide) ?_
    refine wm_icmp_eq (tgt := 2) d_MM_skip_62 rfl h37 ⟨by decide, by decide⟩ (fun c39 => ?_) (fun c39 => ?_)
    · replace h := h.1 c39
      exact h
    · replace h := h.2 c39
      refine wm_iinc d_MM_skip_65 (by decide) rfl (L' := [vr a0, vd, vi (l2 + 1)]) rfl ?_
      refine wm_goto (tgt := 44) d_MM_skip_68 rfl ?_
      exact h
theorem d_MM_signKind_0 : decode y_MM_signKind.2.1 0 = .ok (.aload_n 0, 1) := dc9_42 (by decide +kernel)
theorem d_MM_signKind_1 : decode y_MM_signKind.2.1 1 = .ok (.iload_n 1, 1) := dc9_27 (by decide +kernel)
theorem d_MM_signKind_2 : decode y_MM_signKind.2.1 2 = .ok (.iconst 1, 1) := dc9_4 (by decide +kernel)
theorem d_MM_signKind_3 : decode y_MM_signKind.2.1 3 = .ok (.iadd, 1) := dc9_96 (by decide +kernel)
theorem d_MM_signKind_4 : decode y_MM_signKind.2.1 4 = .ok (.invokevirtual 159, 3) := dc9_182 (by decide +kernel)
theorem d_MM_signKind_7 : decode y_MM_signKind.2.1 7 = .ok (.istore_n 2, 1) := dc9_61 (by decide +kernel)
theorem d_MM_signKind_8 : decode y_MM_signKind.2.1 8 = .ok (.aload_n 0, 1) := dc9_42 (by decide +kernel)
theorem d_MM_signKind_9 : decode y_MM_signKind.2.1 9 = .ok (.iload_n 1, 1) := dc9_27 (by decide +kernel)
theorem d_MM_signKind_10 : decode y_MM_signKind.2.1 10 = .ok (.invokevirtual 159, 3) := dc9_182 (by decide +kernel)
theorem d_MM_signKind_13 : decode y_MM_signKind.2.1 13 = .ok (.lookupswitch 275 #[(33, 191), (37, 245), (38, 248), (39, 272), (40, 266), (41, 269), (42, 239), (43, 236), (44, 263), (45, 177), (46, 163), (47, 242), (58, 257), (59, 260), (60, 205), (61, 233), (62, 219), (63, 254), (124, 251)], 163) := by decide +kernel
theorem z_MM_signKind_13_s : lkS #[(33, 191), (37, 245), (38, 248), (39, 272), (40, 266), (41, 269), (42, 239), (43, 236), (44, 263), (45, 177), (46, 163), (47, 242), (58, 257), (59, 260), (60, 205), (61, 233), (62, 219), (63, 254), (124, 251)] := by unfold lkS; decide
theorem d_MM_signKind_204 : decode y_MM_signKind.2.1 204 = .ok (.iload_n 2, 1) := dc9_28 (by decide +kernel)
theorem d_MM_signKind_205 : decode y_MM_signKind.2.1 205 = .ok (.bipush 61, 2) := dc9_16 (by decide +kernel)
theorem d_MM_signKind_207 : decode y_MM_signKind.2.1 207 = .ok (.if_icmp .ne 8, 3) := dc9_160 (by decide +kernel)
theorem d_MM_signKind_210 : decode y_MM_signKind.2.1 210 = .ok (.bipush 18, 2) := dc9_16 (by decide +kernel)
theorem d_MM_signKind_212 : decode y_MM_signKind.2.1 212 = .ok (.goto 5, 3) := dc9_167 (by decide +kernel)
theorem d_MM_signKind_215 : decode y_MM_signKind.2.1 215 = .ok (.bipush 31, 2) := dc9_16 (by decide +kernel)
theorem d_MM_signKind_217 : decode y_MM_signKind.2.1 217 = .ok (.ireturn, 1) := dc9_172 (by decide +kernel)
theorem d_MM_signKind_258 : decode y_MM_signKind.2.1 258 = .ok (.bipush 28, 2) := dc9_16 (by decide +kernel)
theorem d_MM_signKind_260 : decode y_MM_signKind.2.1 260 = .ok (.ireturn, 1) := dc9_172 (by decide +kernel)
theorem d_MM_signKind_261 : decode y_MM_signKind.2.1 261 = .ok (.bipush 29, 2) := dc9_16 (by decide +kernel)
theorem d_MM_signKind_263 : decode y_MM_signKind.2.1 263 = .ok (.ireturn, 1) := dc9_172 (by decide +kernel)
theorem d_MM_signKind_285 : decode y_MM_signKind.2.1 285 = .ok (.bipush 38, 2) := dc9_16 (by decide +kernel)
theorem d_MM_signKind_287 : decode y_MM_signKind.2.1 287 = .ok (.ireturn, 1) := dc9_172 (by decide +kernel)
theorem d_MM_signKind_279 : decode y_MM_signKind.2.1 279 = .ok (.bipush 36, 2) := dc9_16 (by decide +kernel)
theorem d_MM_signKind_281 : decode y_MM_signKind.2.1 281 = .ok (.ireturn, 1) := dc9_172 (by decide +kernel)
theorem d_MM_signKind_282 : decode y_MM_signKind.2.1 282 = .ok (.bipush 37, 2) := dc9_16 (by decide +kernel)
theorem d_MM_signKind_284 : decode y_MM_signKind.2.1 284 = .ok (.ireturn, 1) := dc9_172 (by decide +kernel)
theorem d_MM_signKind_252 : decode y_MM_signKind.2.1 252 = .ok (.bipush 26, 2) := dc9_16 (by decide +kernel)
theorem d_MM_signKind_254 : decode y_MM_signKind.2.1 254 = .ok (.ireturn, 1) := dc9_172 (by decide +kernel)
theorem d_MM_signKind_249 : decode y_MM_signKind.2.1 249 = .ok (.bipush 24, 2) := dc9_16 (by decide +kernel)
theorem d_MM_signKind_251 : decode y_MM_signKind.2.1 251 = .ok (.ireturn, 1) := dc9_172 (by decide +kernel)
theorem d_MM_signKind_276 : decode y_MM_signKind.2.1 276 = .ok (.bipush 35, 2) := dc9_16 (by decide +kernel)
theorem d_MM_signKind_278 : decode y_MM_signKind.2.1 278 = .ok (.ireturn, 1) := dc9_172 (by decide +kernel)
theorem d_MM_signKind_190 : decode y_MM_signKind.2.1 190 = .ok (.iload_n 2, 1) := dc9_28 (by decide +kernel)
theorem d_MM_signKind_191 : decode y_MM_signKind.2.1 191 = .ok (.bipush 62, 2) := dc9_16 (by decide +kernel)
theorem d_MM_signKind_193 : decode y_MM_signKind.2.1 193 = .ok (.if_icmp .ne 8, 3) := dc9_160 (by decide +kernel)
theorem d_MM_signKind_196 : decode y_MM_signKind.2.1 196 = .ok (.bipush 17, 2) := dc9_16 (by decide +kernel)
theorem d_MM_signKind_198 : decode y_MM_signKind.2.1 198 = .ok (.goto 5, 3) := dc9_167 (by decide +kernel)
theorem d_MM_signKind_201 : decode y_MM_signKind.2.1 201 = .ok (.bipush 25, 2) := dc9_16 (by decide +kernel)
theorem d_MM_signKind_203 : decode y_MM_signKind.2.1 203 = .ok (.ireturn, 1) := dc9_172 (by decide +kernel)
theorem d_MM_signKind_176 : decode y_MM_signKind.2.1 176 = .ok (.iload_n 2, 1) := dc9_28 (by decide +kernel)
theorem d_MM_signKind_177 : decode y_MM_signKind.2.1 177 = .ok (.bipush 46, 2) := dc9_16 (by decide +kernel)
theorem d_MM_signKind_179 : decode y_MM_signKind.2.1 179 = .ok (.if_icmp .ne 8, 3) := dc9_160 (by decide +kernel)
theorem d_MM_signKind_182 : decode y_MM_signKind.2.1 182 = .ok (.bipush 16, 2) := dc9_16 (by decide +kernel)
theorem d_MM_signKind_184 : decode y_MM_signKind.2.1 184 = .ok (.goto 5, 3) := dc9_167 (by decide +kernel)
theorem d_MM_signKind_187 : decode y_MM_signKind.2.1 187 = .ok (.bipush 39, 2) := dc9_16 (by decide +kernel)
theorem d_MM_signKind_189 : decode y_MM_signKind.2.1 189 = .ok (.ireturn, 1) := dc9_172 (by decide +kernel)
theorem d_MM_signKind_255 : decode y_MM_signKind.2.1 255 = .ok (.bipush 27, 2) := dc9_16 (by decide +kernel)
theorem d_MM_signKind_257 : decode y_MM_signKind.2.1 257 = .ok (.ireturn, 1) := dc9_172 (by decide +kernel)
theorem d_MM_signKind_270 : decode y_MM_signKind.2.1 270 = .ok (.bipush 33, 2) := dc9_16 (by decide +kernel)
theorem d_MM_signKind_272 : decode y_MM_signKind.2.1 272 = .ok (.ireturn, 1) := dc9_172 (by decide +kernel)
theorem d_MM_signKind_273 : decode y_MM_signKind.2.1 273 = .ok (.bipush 34, 2) := dc9_16 (by decide +kernel)
theorem d_MM_signKind_275 : decode y_MM_signKind.2.1 275 = .ok (.ireturn, 1) := dc9_172 (by decide +kernel)
theorem d_MM_signKind_218 : decode y_MM_signKind.2.1 218 = .ok (.iload_n 2, 1) := dc9_28 (by decide +kernel)
theorem d_MM_signKind_219 : decode y_MM_signKind.2.1 219 = .ok (.bipush 61, 2) := dc9_16 (by decide +kernel)
theorem d_MM_signKind_221 : decode y_MM_signKind.2.1 221 = .ok (.if_icmp .ne 8, 3) := dc9_160 (by decide +kernel)
theorem d_MM_signKind_224 : decode y_MM_signKind.2.1 224 = .ok (.bipush 19, 2) := dc9_16 (by decide +kernel)
theorem d_MM_signKind_226 : decode y_MM_signKind.2.1 226 = .ok (.goto 5, 3) := dc9_167 (by decide +kernel)
theorem d_MM_signKind_229 : decode y_MM_signKind.2.1 229 = .ok (.bipush 21, 2) := dc9_16 (by decide +kernel)
theorem d_MM_signKind_231 : decode y_MM_signKind.2.1 231 = .ok (.ireturn, 1) := dc9_172 (by decide +kernel)
theorem d_MM_signKind_246 : decode y_MM_signKind.2.1 246 = .ok (.bipush 23, 2) := dc9_16 (by decide +kernel)
theorem d_MM_signKind_248 : decode y_MM_signKind.2.1 248 = .ok (.ireturn, 1) := dc9_172 (by decide +kernel)
theorem d_MM_signKind_232 : decode y_MM_signKind.2.1 232 = .ok (.iload_n 2, 1) := dc9_28 (by decide +kernel)
theorem d_MM_signKind_233 : decode y_MM_signKind.2.1 233 = .ok (.bipush 61, 2) := dc9_16 (by decide +kernel)
theorem d_MM_signKind_235 : decode y_MM_signKind.2.1 235 = .ok (.if_icmp .ne 8, 3) := dc9_160 (by decide +kernel)
theorem d_MM_signKind_238 : decode y_MM_signKind.2.1 238 = .ok (.bipush 20, 2) := dc9_16 (by decide +kernel)
theorem d_MM_signKind_240 : decode y_MM_signKind.2.1 240 = .ok (.goto 5, 3) := dc9_167 (by decide +kernel)
theorem d_MM_signKind_243 : decode y_MM_signKind.2.1 243 = .ok (.bipush 22, 2) := dc9_16 (by decide +kernel)
theorem d_MM_signKind_245 : decode y_MM_signKind.2.1 245 = .ok (.ireturn, 1) := dc9_172 (by decide +kernel)
theorem d_MM_signKind_267 : decode y_MM_signKind.2.1 267 = .ok (.bipush 32, 2) := dc9_16 (by decide +kernel)
theorem d_MM_signKind_269 : decode y_MM_signKind.2.1 269 = .ok (.ireturn, 1) := dc9_172 (by decide +kernel)
theorem d_MM_signKind_264 : decode y_MM_signKind.2.1 264 = .ok (.bipush 30, 2) := dc9_16 (by decide +kernel)
theorem d_MM_signKind_266 : decode y_MM_signKind.2.1 266 = .ok (.ireturn, 1) := dc9_172 (by decide +kernel)
theorem d_MM_signKind_288 : decode y_MM_signKind.2.1 288 = .ok (.bipush 39, 2) := dc9_16 (by decide +kernel)
theorem d_MM_signKind_290 : decode y_MM_signKind.2.1 290 = .ok (.ireturn, 1) := dc9_172 (by decide +kernel)
theorem k_MM_signKind {G : mG} {d : Nat} {a0 : Nat} {l1 : Int} {M : mM} {Q : Int → mM → Prop} (hO : mOk M) (hi_l1 : i32 l1)
    (h : mK M a0 = 14 ∧ Ci G y_MM_letter d [vr a0, vi (l1 + 1)] M (fun x3 M2 => i32 x3 ∧ mOk M2 ∧ (mK M2 a0 = 14 ∧ Ci G y_MM_letter d [vr a0, vi l1] M2 (fun x7 M6 => i32 x7 ∧ mOk M6 ∧ (((x7 = 33) → (∀ v11 : Int, v11 = (if (x3 = 61) then 18 else 31) → Q v11 M6)) ∧ (¬ (x7 = 33) → (((x7 = 37) → (Q 28 M6)) ∧ (¬ (x7 = 37) → (((x7 = 38) → (Q 29 M6)) ∧ (¬ (x7 = 38) → (((x7 = 39) → (Q 38 M6)) ∧ (¬ (x7 = 39) → (((x7 = 40) → (Q 36 M6)) ∧ (¬ (x7 = 40) → (((x7 = 41) → (Q 37 M6)) ∧ (¬ (x7 = 41) → (((x7 = 42) → (Q 26 M6)) ∧ (¬ (x7 = 42) → (((x7 = 43) → (Q 24 M6)) ∧ (¬ (x7 = 43) → (((x7 = 44) → (Q 35 M6)) ∧ (¬ (x7 = 44) → (((x7 = 45) → (∀ v26 : Int, v26 = (if (x3 = 62) then 17 else 25) → Q v26 M6)) ∧ (¬ (x7 = 45) → (((x7 = 46) → (∀ v33 : Int, v33 = (if (x3 = 46) then 16 else 39) → Q v33 M6)) ∧ (¬ (x7 = 46) → (((x7 = 47) → (Q 27 M6)) ∧ (¬ (x7 = 47) → (((x7 = 58) → (Q 33 M6)) ∧ (¬ (x7 = 58) → (((x7 = 59) → (Q 34 M6)) ∧ (¬ (x7 = 59) → (((x7 = 60) → (∀ v43 : Int, v43 = (if (x3 = 61) then 19 else 21) → Q v43 M6)) ∧ (¬ (x7 = 60) → (((x7 = 61) → (Q 23 M6)) ∧ (¬ (x7 = 61) → (((x7 = 62) → (∀ v51 : Int, v51 = (if (x3 = 61) then 20 else 22) → Q v51 M6)) ∧ (¬ (x7 = 62) → (((x7 = 63) → (Q 32 M6)) ∧ (¬ (x7 = 63) → (((x7 = 124) → (Q 30 M6)) ∧ (¬ (x7 = 124) → (Q 39 M6))))))))))))))))))))))))))))))))))))))))))) :
    Ci G y_MM_signKind (d + 1) [vr a0, vi l1] M Q := by
  refine wm_open (y := y_MM_signKind) rfl (Nat.le_of_ble_eq_true rfl) (L := [vr a0, vi l1, vd]) rfl ?_
  obtain ⟨h1, h⟩ := h
  refine wm_aload_n d_MM_signKind_0 rfl rfl ?_
  refine wm_iload_n d_MM_signKind_1 rfl rfl ?_
  refine wm_iconst d_MM_signKind_2 ?_
  refine wm_iadd d_MM_signKind_3 ?_
  refine cf_MM_159 rfl d_MM_signKind_4 h1 (Nat.le_of_ble_eq_true rfl) (Ci.mono h (fun x3 M2 h => ?_))
  obtain ⟨h4, hOM2, h⟩ := h
  obtain ⟨h5, h⟩ := h
  refine wm_istore_n d_MM_signKind_7 rfl (by decide) (L' := [vr a0, vi l1, vi x3]) rfl ?_
  refine wm_aload_n d_MM_signKind_8 rfl rfl ?_
  refine wm_iload_n d_MM_signKind_9 rfl rfl ?_
  refine cf_MM_159 rfl d_MM_signKind_10 h5 (Nat.le_of_ble_eq_true rfl) (Ci.mono h (fun x7 M6 h => ?_))
  obtain ⟨h8, hOM6, h⟩ := h
  by_cases c9 : x7 = 33
  · replace h := h.1 c9
    refine wm_lookup (tgt := 204) (off := 191) d_MM_signKind_13 z_MM_signKind_13_s h8 (by rw [c9]; rfl) rfl ?_
    refine wm_iload_n d_MM_signKind_204 rfl rfl ?_
    refine wm_bipush d_MM_signKind_205 (by decide) ?_
    have hJ : ∀ v11 : Int, v11 = (if (x3 = 61) then 18 else 31) → mWm G y_MM_signKind (d + 1) 217 [vd, vd, vd] [vi v11] M6 (fun r9 M9 => ∃ x9, r9 = some (vi x9) ∧ Q x9 M9) := by
      intro v11 e13
      have h := h v11 e13
      have h14 : i32 v11 := by rw [e13]; (repeat' split) <;> first | exact ⟨by decide, by decide⟩ | exact ⟨by decide, by decide⟩
      refine wm_ireturn d_MM_signKind_217 rfl rfl ?_
      exact ⟨_, rfl, h⟩
    clear h
    refine wm_icmp_ne (tgt := 215) d_MM_signKind_207 rfl h4 ⟨by decide, by decide⟩ (fun c10 => ?_) (fun c10 => ?_)
    · refine wm_bipush d_MM_signKind_215 (by decide) ?_
      refine wm_less (L' := [vd, vd, vd]) ⟨Or.inl rfl, Or.inl rfl, Or.inl rfl, trivial⟩ ?_
      exact hJ 31 (if_neg c10).symm
    · replace c10 := Classical.not_not.mp c10
      refine wm_bipush d_MM_signKind_210 (by decide) ?_
      refine wm_goto (tgt := 217) d_MM_signKind_212 rfl ?_
      refine wm_less (L' := [vd, vd, vd]) ⟨Or.inl rfl, Or.inl rfl, Or.inl rfl, trivial⟩ ?_
      exact hJ 18 (if_pos c10).symm
  · replace h := h.2 c9
    by_cases c16 : x7 = 37
    · replace h := h.1 c16
      refine wm_lookup (tgt := 258) (off := 245) d_MM_signKind_13 z_MM_signKind_13_s h8 (by rw [c16]; rfl) rfl ?_
      refine wm_bipush d_MM_signKind_258 (by decide) ?_
      refine wm_ireturn d_MM_signKind_260 rfl rfl ?_
      exact ⟨_, rfl, h⟩
    · replace h := h.2 c16
      by_cases c17 : x7 = 38
      · replace h := h.1 c17
        refine wm_lookup (tgt := 261) (off := 248) d_MM_signKind_13 z_MM_signKind_13_s h8 (by rw [c17]; rfl) rfl ?_
        refine wm_bipush d_MM_signKind_261 (by decide) ?_
        refine wm_ireturn d_MM_signKind_263 rfl rfl ?_
        exact ⟨_, rfl, h⟩
      · replace h := h.2 c17
        by_cases c18 : x7 = 39
        · replace h := h.1 c18
          refine wm_lookup (tgt := 285) (off := 272) d_MM_signKind_13 z_MM_signKind_13_s h8 (by rw [c18]; rfl) rfl ?_
          refine wm_bipush d_MM_signKind_285 (by decide) ?_
          refine wm_ireturn d_MM_signKind_287 rfl rfl ?_
          exact ⟨_, rfl, h⟩
        · replace h := h.2 c18
          by_cases c19 : x7 = 40
          · replace h := h.1 c19
            refine wm_lookup (tgt := 279) (off := 266) d_MM_signKind_13 z_MM_signKind_13_s h8 (by rw [c19]; rfl) rfl ?_
            refine wm_bipush d_MM_signKind_279 (by decide) ?_
            refine wm_ireturn d_MM_signKind_281 rfl rfl ?_
            exact ⟨_, rfl, h⟩
          · replace h := h.2 c19
            by_cases c20 : x7 = 41
            · replace h := h.1 c20
              refine wm_lookup (tgt := 282) (off := 269) d_MM_signKind_13 z_MM_signKind_13_s h8 (by rw [c20]; rfl) rfl ?_
              refine wm_bipush d_MM_signKind_282 (by decide) ?_
              refine wm_ireturn d_MM_signKind_284 rfl rfl ?_
              exact ⟨_, rfl, h⟩
            · replace h := h.2 c20
              by_cases c21 : x7 = 42
              · replace h := h.1 c21
                refine wm_lookup (tgt := 252) (off := 239) d_MM_signKind_13 z_MM_signKind_13_s h8 (by rw [c21]; rfl) rfl ?_
                refine wm_bipush d_MM_signKind_252 (by decide) ?_
                refine wm_ireturn d_MM_signKind_254 rfl rfl ?_
                exact ⟨_, rfl, h⟩
              · replace h := h.2 c21
                by_cases c22 : x7 = 43
                · replace h := h.1 c22
                  refine wm_lookup (tgt := 249) (off := 236) d_MM_signKind_13 z_MM_signKind_13_s h8 (by rw [c22]; rfl) rfl ?_
                  refine wm_bipush d_MM_signKind_249 (by decide) ?_
                  refine wm_ireturn d_MM_signKind_251 rfl rfl ?_
                  exact ⟨_, rfl, h⟩
                · replace h := h.2 c22
                  by_cases c23 : x7 = 44
                  · replace h := h.1 c23
                    refine wm_lookup (tgt := 276) (off := 263) d_MM_signKind_13 z_MM_signKind_13_s h8 (by rw [c23]; rfl) rfl ?_
                    refine wm_bipush d_MM_signKind_276 (by decide) ?_
                    refine wm_ireturn d_MM_signKind_278 rfl rfl ?_
                    exact ⟨_, rfl, h⟩
                  · replace h := h.2 c23
                    by_cases c24 : x7 = 45
                    · replace h := h.1 c24
                      refine wm_lookup (tgt := 190) (off := 177) d_MM_signKind_13 z_MM_signKind_13_s h8 (by rw [c24]; rfl) rfl ?_
                      refine wm_iload_n d_MM_signKind_190 rfl rfl ?_
                      refine wm_bipush d_MM_signKind_191 (by decide) ?_
                      have hJ : ∀ v26 : Int, v26 = (if (x3 = 62) then 17 else 25) → mWm G y_MM_signKind (d + 1) 203 [vd, vd, vd] [vi v26] M6 (fun r9 M9 => ∃ x9, r9 = some (vi x9) ∧ Q x9 M9) := by
                        intro v26 e28
                        have h := h v26 e28
                        have h29 : i32 v26 := by rw [e28]; (repeat' split) <;> first | exact ⟨by decide, by decide⟩ | exact ⟨by decide, by decide⟩
                        refine wm_ireturn d_MM_signKind_203 rfl rfl ?_
                        exact ⟨_, rfl, h⟩
                      clear h
                      refine wm_icmp_ne (tgt := 201) d_MM_signKind_193 rfl h4 ⟨by decide, by decide⟩ (fun c25 => ?_) (fun c25 => ?_)
                      · refine wm_bipush d_MM_signKind_201 (by decide) ?_
                        refine wm_less (L' := [vd, vd, vd]) ⟨Or.inl rfl, Or.inl rfl, Or.inl rfl, trivial⟩ ?_
                        exact hJ 25 (if_neg c25).symm
                      · replace c25 := Classical.not_not.mp c25
                        refine wm_bipush d_MM_signKind_196 (by decide) ?_
                        refine wm_goto (tgt := 203) d_MM_signKind_198 rfl ?_
                        refine wm_less (L' := [vd, vd, vd]) ⟨Or.inl rfl, Or.inl rfl, Or.inl rfl, trivial⟩ ?_
                        exact hJ 17 (if_pos c25).symm
                    · replace h := h.2 c24
                      by_cases c31 : x7 = 46
                      · replace h := h.1 c31
                        refine wm_lookup (tgt := 176) (off := 163) d_MM_signKind_13 z_MM_signKind_13_s h8 (by rw [c31]; rfl) rfl ?_
                        refine wm_iload_n d_MM_signKind_176 rfl rfl ?_
                        refine wm_bipush d_MM_signKind_177 (by decide) ?_
                        have hJ : ∀ v33 : Int, v33 = (if (x3 = 46) then 16 else 39) → mWm G y_MM_signKind (d + 1) 189 [vd, vd, vd] [vi v33] M6 (fun r9 M9 => ∃ x9, r9 = some (vi x9) ∧ Q x9 M9) := by
                          intro v33 e35
                          have h := h v33 e35
                          have h36 : i32 v33 := by rw [e35]; (repeat' split) <;> first | exact ⟨by decide, by decide⟩ | exact ⟨by decide, by decide⟩
                          refine wm_ireturn d_MM_signKind_189 rfl rfl ?_
                          exact ⟨_, rfl, h⟩
                        clear h
                        refine wm_icmp_ne (tgt := 187) d_MM_signKind_179 rfl h4 ⟨by decide, by decide⟩ (fun c32 => ?_) (fun c32 => ?_)
                        · refine wm_bipush d_MM_signKind_187 (by decide) ?_
                          refine wm_less (L' := [vd, vd, vd]) ⟨Or.inl rfl, Or.inl rfl, Or.inl rfl, trivial⟩ ?_
                          exact hJ 39 (if_neg c32).symm
                        · replace c32 := Classical.not_not.mp c32
                          refine wm_bipush d_MM_signKind_182 (by decide) ?_
                          refine wm_goto (tgt := 189) d_MM_signKind_184 rfl ?_
                          refine wm_less (L' := [vd, vd, vd]) ⟨Or.inl rfl, Or.inl rfl, Or.inl rfl, trivial⟩ ?_
                          exact hJ 16 (if_pos c32).symm
                      · replace h := h.2 c31
                        by_cases c38 : x7 = 47
                        · replace h := h.1 c38
                          refine wm_lookup (tgt := 255) (off := 242) d_MM_signKind_13 z_MM_signKind_13_s h8 (by rw [c38]; rfl) rfl ?_
                          refine wm_bipush d_MM_signKind_255 (by decide) ?_
                          refine wm_ireturn d_MM_signKind_257 rfl rfl ?_
                          exact ⟨_, rfl, h⟩
                        · replace h := h.2 c38
                          by_cases c39 : x7 = 58
                          · replace h := h.1 c39
                            refine wm_lookup (tgt := 270) (off := 257) d_MM_signKind_13 z_MM_signKind_13_s h8 (by rw [c39]; rfl) rfl ?_
                            refine wm_bipush d_MM_signKind_270 (by decide) ?_
                            refine wm_ireturn d_MM_signKind_272 rfl rfl ?_
                            exact ⟨_, rfl, h⟩
                          · replace h := h.2 c39
                            by_cases c40 : x7 = 59
                            · replace h := h.1 c40
                              refine wm_lookup (tgt := 273) (off := 260) d_MM_signKind_13 z_MM_signKind_13_s h8 (by rw [c40]; rfl) rfl ?_
                              refine wm_bipush d_MM_signKind_273 (by decide) ?_
                              refine wm_ireturn d_MM_signKind_275 rfl rfl ?_
                              exact ⟨_, rfl, h⟩
                            · replace h := h.2 c40
                              by_cases c41 : x7 = 60
                              · replace h := h.1 c41
                                refine wm_lookup (tgt := 218) (off := 205) d_MM_signKind_13 z_MM_signKind_13_s h8 (by rw [c41]; rfl) rfl ?_
                                refine wm_iload_n d_MM_signKind_218 rfl rfl ?_
                                refine wm_bipush d_MM_signKind_219 (by decide) ?_
                                have hJ : ∀ v43 : Int, v43 = (if (x3 = 61) then 19 else 21) → mWm G y_MM_signKind (d + 1) 231 [vd, vd, vd] [vi v43] M6 (fun r9 M9 => ∃ x9, r9 = some (vi x9) ∧ Q x9 M9) := by
                                  intro v43 e45
                                  have h := h v43 e45
                                  have h46 : i32 v43 := by rw [e45]; (repeat' split) <;> first | exact ⟨by decide, by decide⟩ | exact ⟨by decide, by decide⟩
                                  refine wm_ireturn d_MM_signKind_231 rfl rfl ?_
                                  exact ⟨_, rfl, h⟩
                                clear h
                                refine wm_icmp_ne (tgt := 229) d_MM_signKind_221 rfl h4 ⟨by decide, by decide⟩ (fun c42 => ?_) (fun c42 => ?_)
                                · refine wm_bipush d_MM_signKind_229 (by decide) ?_
                                  refine wm_less (L' := [vd, vd, vd]) ⟨Or.inl rfl, Or.inl rfl, Or.inl rfl, trivial⟩ ?_
                                  exact hJ 21 (if_neg c42).symm
                                · replace c42 := Classical.not_not.mp c42
                                  refine wm_bipush d_MM_signKind_224 (by decide) ?_
                                  refine wm_goto (tgt := 231) d_MM_signKind_226 rfl ?_
                                  refine wm_less (L' := [vd, vd, vd]) ⟨Or.inl rfl, Or.inl rfl, Or.inl rfl, trivial⟩ ?_
                                  exact hJ 19 (if_pos c42).symm
                              · replace h := h.2 c41
                                by_cases c48 : x7 = 61
                                · replace h := h.1 c48
                                  refine wm_lookup (tgt := 246) (off := 233) d_MM_signKind_13 z_MM_signKind_13_s h8 (by rw [c48]; rfl) rfl ?_
                                  refine wm_bipush d_MM_signKind_246 (by decide) ?_
                                  refine wm_ireturn d_MM_signKind_248 rfl rfl ?_
                                  exact ⟨_, rfl, h⟩
                                · replace h := h.2 c48
                                  by_cases c49 : x7 = 62
                                  · replace h := h.1 c49
                                    refine wm_lookup (tgt := 232) (off := 219) d_MM_signKind_13 z_MM_signKind_13_s h8 (by rw [c49]; rfl) rfl ?_
                                    refine wm_iload_n d_MM_signKind_232 rfl rfl ?_
                                    refine wm_bipush d_MM_signKind_233 (by decide) ?_
                                    have hJ : ∀ v51 : Int, v51 = (if (x3 = 61) then 20 else 22) → mWm G y_MM_signKind (d + 1) 245 [vd, vd, vd] [vi v51] M6 (fun r9 M9 => ∃ x9, r9 = some (vi x9) ∧ Q x9 M9) := by
                                      intro v51 e53
                                      have h := h v51 e53
                                      have h54 : i32 v51 := by rw [e53]; (repeat' split) <;> first | exact ⟨by decide, by decide⟩ | exact ⟨by decide, by decide⟩
                                      refine wm_ireturn d_MM_signKind_245 rfl rfl ?_
                                      exact ⟨_, rfl, h⟩
                                    clear h
                                    refine wm_icmp_ne (tgt := 243) d_MM_signKind_235 rfl h4 ⟨by decide, by decide⟩ (fun c50 => ?_) (fun c50 => ?_)
                                    · refine wm_bipush d_MM_signKind_243 (by decide) ?_
                                      refine wm_less (L' := [vd, vd, vd]) ⟨Or.inl rfl, Or.inl rfl, Or.inl rfl, trivial⟩ ?_
                                      exact hJ 22 (if_neg c50).symm
                                    · replace c50 := Classical.not_not.mp c50
                                      refine wm_bipush d_MM_signKind_238 (by decide) ?_
                                      refine wm_goto (tgt := 245) d_MM_signKind_240 rfl ?_
                                      refine wm_less (L' := [vd, vd, vd]) ⟨Or.inl rfl, Or.inl rfl, Or.inl rfl, trivial⟩ ?_
                                      exact hJ 20 (if_pos c50).symm
                                  · replace h := h.2 c49
                                    by_cases c56 : x7 = 63
                                    · replace h := h.1 c56
                                      refine wm_lookup (tgt := 267) (off := 254) d_MM_signKind_13 z_MM_signKind_13_s h8 (by rw [c56]; rfl) rfl ?_
                                      refine wm_bipush d_MM_signKind_267 (by decide) ?_
                                      refine wm_ireturn d_MM_signKind_269 rfl rfl ?_
                                      exact ⟨_, rfl, h⟩
                                    · replace h := h.2 c56
                                      by_cases c57 : x7 = 124
                                      · replace h := h.1 c57
                                        refine wm_lookup (tgt := 264) (off := 251) d_MM_signKind_13 z_MM_signKind_13_s h8 (by rw [c57]; rfl) rfl ?_
                                        refine wm_bipush d_MM_signKind_264 (by decide) ?_
                                        refine wm_ireturn d_MM_signKind_266 rfl rfl ?_
                                        exact ⟨_, rfl, h⟩
                                      · replace h := h.2 c57
                                        refine wm_lookup (tgt := 288) (off := 275) d_MM_signKind_13 z_MM_signKind_13_s h8 (by simp [Op.lookupswitch.offset]; repeat rw [if_neg (by omega)]) rfl ?_
                                        refine wm_bipush d_MM_signKind_288 (by decide) ?_
                                        refine wm_ireturn d_MM_signKind_290 rfl rfl ?_
                                        exact ⟨_, rfl, h⟩
theorem d_MM_word0_0 : decode y_MM_word0.2.1 0 = .ok (.aload_n 0, 1) := dc9_42 (by decide +kernel)
theorem d_MM_word0_1 : decode y_MM_word0.2.1 1 = .ok (.getfield 19, 3) := dc9_180 (by decide +kernel)
theorem d_MM_word0_4 : decode y_MM_word0.2.1 4 = .ok (.iload_n 1, 1) := dc9_27 (by decide +kernel)
theorem d_MM_word0_5 : decode y_MM_word0.2.1 5 = .ok (.invokevirtual 152, 3) := dc9_182 (by decide +kernel)
theorem d_MM_word0_8 : decode y_MM_word0.2.1 8 = .ok (.aload_n 0, 1) := dc9_42 (by decide +kernel)
theorem d_MM_word0_9 : decode y_MM_word0.2.1 9 = .ok (.getfield 22, 3) := dc9_180 (by decide +kernel)
theorem d_MM_word0_12 : decode y_MM_word0.2.1 12 = .ok (.iload_n 2, 1) := dc9_28 (by decide +kernel)
theorem d_MM_word0_13 : decode y_MM_word0.2.1 13 = .ok (.invokevirtual 152, 3) := dc9_182 (by decide +kernel)
theorem d_MM_word0_16 : decode y_MM_word0.2.1 16 = .ok (.aload_n 0, 1) := dc9_42 (by decide +kernel)
theorem d_MM_word0_17 : decode y_MM_word0.2.1 17 = .ok (.getfield 25, 3) := dc9_180 (by decide +kernel)
theorem d_MM_word0_20 : decode y_MM_word0.2.1 20 = .ok (.iload_n 3, 1) := dc9_29 (by decide +kernel)
theorem d_MM_word0_21 : decode y_MM_word0.2.1 21 = .ok (.invokevirtual 152, 3) := dc9_182 (by decide +kernel)
theorem d_MM_word0_24 : decode y_MM_word0.2.1 24 = .ok (.return_, 1) := dc9_177 (by decide +kernel)
theorem k_MM_word0 {G : mG} {d : Nat} {a0 : Nat} {l1 : Int} {l2 : Int} {l3 : Int} {M : mM} {Q : mM → Prop} (hO : mOk M) (hi_l1 : i32 l1) (hi_l2 : i32 l2) (hi_l3 : i32 l3)
    (h : mK M a0 = 14 ∧ mK M (mR M a0 3) = 15 ∧ Cv G y_MN_add d [vr (mR M a0 3), vi l1] M (fun M3 => mOk M3 ∧ (mK M3 a0 = 14 ∧ mK M3 (mR M3 a0 4) = 15 ∧ Cv G y_MN_add d [vr (mR M3 a0 4), vi l2] M3 (fun M8 => mOk M8 ∧ (mK M8 a0 = 14 ∧ mK M8 (mR M8 a0 5) = 15 ∧ Cv G y_MN_add d [vr (mR M8 a0 5), vi l3] M8 (fun M13 => mOk M13 ∧ (Q M13))))))) :
    Cv G y_MM_word0 (d + 1) [vr a0, vi l1, vi l2, vi l3] M Q := by
  refine wm_open (y := y_MM_word0) rfl (Nat.le_of_ble_eq_true rfl) (L := [vr a0, vi l1, vi l2, vi l3]) rfl ?_
  obtain ⟨h1, h⟩ := h
  obtain ⟨h2, h⟩ := h
  refine wm_aload_n d_MM_word0_0 rfl rfl ?_
  refine gf_MM_19 rfl d_MM_word0_1 h1 ?_
  refine wm_iload_n d_MM_word0_4 rfl rfl ?_
  refine cf_MM_152 rfl d_MM_word0_5 h2 (Nat.le_of_ble_eq_true rfl) (Cv.mono h (fun M3 h => ?_))
  obtain ⟨hOM3, h⟩ := h
  obtain ⟨h6, h⟩ := h
  obtain ⟨h7, h⟩ := h
  refine wm_aload_n d_MM_word0_8 rfl rfl ?_
  refine gf_MM_22 rfl d_MM_word0_9 h6 ?_
  refine wm_iload_n d_MM_word0_12 rfl rfl ?_
  refine cf_MM_152 rfl d_MM_word0_13 h7 (Nat.le_of_ble_eq_true rfl) (Cv.mono h (fun M8 h => ?_))
  obtain ⟨hOM8, h⟩ := h
  obtain ⟨h11, h⟩ := h
  obtain ⟨h12, h⟩ := h
  refine wm_aload_n d_MM_word0_16 rfl rfl ?_
  refine gf_MM_25 rfl d_MM_word0_17 h11 ?_
  refine wm_iload_n d_MM_word0_20 rfl rfl ?_
  refine cf_MM_152 rfl d_MM_word0_21 h12 (Nat.le_of_ble_eq_true rfl) (Cv.mono h (fun M13 h => ?_))
  obtain ⟨hOM13, h⟩ := h
  refine wm_return d_MM_word0_24 rfl ?_
  exact ⟨rfl, h⟩
theorem d_MM_cut_0 : decode y_MM_cut.2.1 0 = .ok (.aload_n 0, 1) := dc9_42 (by decide +kernel)
theorem d_MM_cut_1 : decode y_MM_cut.2.1 1 = .ok (.getfield 19, 3) := dc9_180 (by decide +kernel)
theorem d_MM_cut_4 : decode y_MM_cut.2.1 4 = .ok (.iconst 0, 1) := dc9_3 (by decide +kernel)
theorem d_MM_cut_5 : decode y_MM_cut.2.1 5 = .ok (.putfield 145, 3) := dc9_181 (by decide +kernel)
theorem d_MM_cut_8 : decode y_MM_cut.2.1 8 = .ok (.aload_n 0, 1) := dc9_42 (by decide +kernel)
theorem d_MM_cut_9 : decode y_MM_cut.2.1 9 = .ok (.getfield 22, 3) := dc9_180 (by decide +kernel)
theorem d_MM_cut_12 : decode y_MM_cut.2.1 12 = .ok (.iconst 0, 1) := dc9_3 (by decide +kernel)
theorem d_MM_cut_13 : decode y_MM_cut.2.1 13 = .ok (.putfield 145, 3) := dc9_181 (by decide +kernel)
theorem d_MM_cut_16 : decode y_MM_cut.2.1 16 = .ok (.aload_n 0, 1) := dc9_42 (by decide +kernel)
theorem d_MM_cut_17 : decode y_MM_cut.2.1 17 = .ok (.getfield 25, 3) := dc9_180 (by decide +kernel)
theorem d_MM_cut_20 : decode y_MM_cut.2.1 20 = .ok (.iconst 0, 1) := dc9_3 (by decide +kernel)
theorem d_MM_cut_21 : decode y_MM_cut.2.1 21 = .ok (.putfield 145, 3) := dc9_181 (by decide +kernel)
theorem d_MM_cut_24 : decode y_MM_cut.2.1 24 = .ok (.aload_n 0, 1) := dc9_42 (by decide +kernel)
theorem d_MM_cut_25 : decode y_MM_cut.2.1 25 = .ok (.iconst 0, 1) := dc9_3 (by decide +kernel)
theorem d_MM_cut_26 : decode y_MM_cut.2.1 26 = .ok (.invokevirtual 206, 3) := dc9_182 (by decide +kernel)
theorem d_MM_cut_29 : decode y_MM_cut.2.1 29 = .ok (.istore_n 1, 1) := dc9_60 (by decide +kernel)
theorem d_MM_cut_30 : decode y_MM_cut.2.1 30 = .ok (.iconst 1, 1) := dc9_4 (by decide +kernel)
theorem d_MM_cut_31 : decode y_MM_cut.2.1 31 = .ok (.istore_n 2, 1) := dc9_61 (by decide +kernel)
theorem d_MM_cut_32 : decode y_MM_cut.2.1 32 = .ok (.iload_n 2, 1) := dc9_28 (by decide +kernel)
theorem d_MM_cut_33 : decode y_MM_cut.2.1 33 = .ok (.ifCond .eq 207, 3) := dc9_153 (by decide +kernel)
theorem d_MM_cut_36 : decode y_MM_cut.2.1 36 = .ok (.iload_n 1, 1) := dc9_27 (by decide +kernel)
theorem d_MM_cut_37 : decode y_MM_cut.2.1 37 = .ok (.aload_n 0, 1) := dc9_42 (by decide +kernel)
theorem d_MM_cut_38 : decode y_MM_cut.2.1 38 = .ok (.getfield 16, 3) := dc9_180 (by decide +kernel)
theorem d_MM_cut_41 : decode y_MM_cut.2.1 41 = .ok (.getfield 145, 3) := dc9_180 (by decide +kernel)
theorem d_MM_cut_44 : decode y_MM_cut.2.1 44 = .ok (.if_icmp .ge 196, 3) := dc9_162 (by decide +kernel)
theorem d_MM_cut_47 : decode y_MM_cut.2.1 47 = .ok (.iload_n 1, 1) := dc9_27 (by decide +kernel)
theorem d_MM_cut_48 : decode y_MM_cut.2.1 48 = .ok (.istore_n 3, 1) := dc9_62 (by decide +kernel)
theorem d_MM_cut_49 : decode y_MM_cut.2.1 49 = .ok (.aload_n 0, 1) := dc9_42 (by decide +kernel)
theorem d_MM_cut_50 : decode y_MM_cut.2.1 50 = .ok (.iload_n 1, 1) := dc9_27 (by decide +kernel)
theorem d_MM_cut_240 : decode y_MM_cut.2.1 240 = .ok (.iload_n 2, 1) := dc9_28 (by decide +kernel)
theorem d_MM_cut_241 : decode y_MM_cut.2.1 241 = .ok (.ifCond .eq 22, 3) := dc9_153 (by decide +kernel)
theorem d_MM_cut_244 : decode y_MM_cut.2.1 244 = .ok (.aload_n 0, 1) := dc9_42 (by decide +kernel)
theorem d_MM_cut_245 : decode y_MM_cut.2.1 245 = .ok (.iconst 0, 1) := dc9_3 (by decide +kernel)
theorem d_MM_cut_246 : decode y_MM_cut.2.1 246 = .ok (.aload_n 0, 1) := dc9_42 (by decide +kernel)
theorem d_MM_cut_247 : decode y_MM_cut.2.1 247 = .ok (.getfield 16, 3) := dc9_180 (by decide +kernel)
theorem d_MM_cut_250 : decode y_MM_cut.2.1 250 = .ok (.getfield 145, 3) := dc9_180 (by decide +kernel)
theorem d_MM_cut_253 : decode y_MM_cut.2.1 253 = .ok (.aload_n 0, 1) := dc9_42 (by decide +kernel)
theorem d_MM_cut_254 : decode y_MM_cut.2.1 254 = .ok (.getfield 16, 3) := dc9_180 (by decide +kernel)
theorem d_MM_cut_257 : decode y_MM_cut.2.1 257 = .ok (.getfield 145, 3) := dc9_180 (by decide +kernel)
theorem d_MM_cut_260 : decode y_MM_cut.2.1 260 = .ok (.invokevirtual 222, 3) := dc9_182 (by decide +kernel)
theorem d_MM_cut_51 : decode y_MM_cut.2.1 51 = .ok (.invokevirtual 159, 3) := dc9_182 (by decide +kernel)
theorem d_MM_cut_54 : decode y_MM_cut.2.1 54 = .ok (.invokestatic 209, 3) := dc9_184 (by decide +kernel)
theorem d_MM_cut_57 : decode y_MM_cut.2.1 57 = .ok (.ifCond .eq 65, 3) := dc9_153 (by decide +kernel)
theorem d_MM_cut_122 : decode y_MM_cut.2.1 122 = .ok (.aload_n 0, 1) := dc9_42 (by decide +kernel)
theorem d_MM_cut_123 : decode y_MM_cut.2.1 123 = .ok (.iload_n 1, 1) := dc9_27 (by decide +kernel)
theorem d_MM_cut_124 : decode y_MM_cut.2.1 124 = .ok (.invokevirtual 159, 3) := dc9_182 (by decide +kernel)
theorem d_MM_cut_127 : decode y_MM_cut.2.1 127 = .ok (.invokestatic 212, 3) := dc9_184 (by decide +kernel)
theorem d_MM_cut_130 : decode y_MM_cut.2.1 130 = .ok (.ifCond .eq 39, 3) := dc9_153 (by decide +kernel)
theorem d_MM_cut_169 : decode y_MM_cut.2.1 169 = .ok (.aload_n 0, 1) := dc9_42 (by decide +kernel)
theorem d_MM_cut_170 : decode y_MM_cut.2.1 170 = .ok (.iload_n 1, 1) := dc9_27 (by decide +kernel)
theorem d_MM_cut_171 : decode y_MM_cut.2.1 171 = .ok (.invokevirtual 219, 3) := dc9_182 (by decide +kernel)
theorem d_MM_cut_174 : decode y_MM_cut.2.1 174 = .ok (.istore 4, 2) := dc9_54 (by decide +kernel)
theorem d_MM_cut_176 : decode y_MM_cut.2.1 176 = .ok (.iload 4, 2) := dc9_21 (by decide +kernel)
theorem d_MM_cut_178 : decode y_MM_cut.2.1 178 = .ok (.bipush 16, 2) := dc9_16 (by decide +kernel)
theorem d_MM_cut_180 : decode y_MM_cut.2.1 180 = .ok (.if_icmp .lt 14, 3) := dc9_161 (by decide +kernel)
theorem d_MM_cut_194 : decode y_MM_cut.2.1 194 = .ok (.iconst 0, 1) := dc9_3 (by decide +kernel)
theorem d_MM_cut_183 : decode y_MM_cut.2.1 183 = .ok (.iload 4, 2) := dc9_21 (by decide +kernel)
theorem d_MM_cut_185 : decode y_MM_cut.2.1 185 = .ok (.bipush 20, 2) := dc9_16 (by decide +kernel)
theorem d_MM_cut_187 : decode y_MM_cut.2.1 187 = .ok (.if_icmp .gt 7, 3) := dc9_163 (by decide +kernel)
theorem d_MM_cut_190 : decode y_MM_cut.2.1 190 = .ok (.iconst 1, 1) := dc9_4 (by decide +kernel)
theorem d_MM_cut_191 : decode y_MM_cut.2.1 191 = .ok (.goto 4, 3) := dc9_167 (by decide +kernel)
theorem d_MM_cut_195 : decode y_MM_cut.2.1 195 = .ok (.istore 5, 2) := dc9_54 (by decide +kernel)
theorem d_MM_cut_197 : decode y_MM_cut.2.1 197 = .ok (.iload_n 1, 1) := dc9_27 (by decide +kernel)
theorem d_MM_cut_198 : decode y_MM_cut.2.1 198 = .ok (.iload 5, 2) := dc9_21 (by decide +kernel)
theorem d_MM_cut_200 : decode y_MM_cut.2.1 200 = .ok (.ifCond .eq 7, 3) := dc9_153 (by decide +kernel)
theorem d_MM_cut_207 : decode y_MM_cut.2.1 207 = .ok (.iconst 1, 1) := dc9_4 (by decide +kernel)
theorem d_MM_cut_203 : decode y_MM_cut.2.1 203 = .ok (.iconst 2, 1) := dc9_5 (by decide +kernel)
theorem d_MM_cut_204 : decode y_MM_cut.2.1 204 = .ok (.goto 4, 3) := dc9_167 (by decide +kernel)
theorem d_MM_cut_208 : decode y_MM_cut.2.1 208 = .ok (.iadd, 1) := dc9_96 (by decide +kernel)
theorem d_MM_cut_209 : decode y_MM_cut.2.1 209 = .ok (.istore_n 3, 1) := dc9_62 (by decide +kernel)
theorem d_MM_cut_210 : decode y_MM_cut.2.1 210 = .ok (.aload_n 0, 1) := dc9_42 (by decide +kernel)
theorem d_MM_cut_211 : decode y_MM_cut.2.1 211 = .ok (.iload 4, 2) := dc9_21 (by decide +kernel)
theorem d_MM_cut_213 : decode y_MM_cut.2.1 213 = .ok (.iload_n 1, 1) := dc9_27 (by decide +kernel)
theorem d_MM_cut_214 : decode y_MM_cut.2.1 214 = .ok (.iload_n 3, 1) := dc9_29 (by decide +kernel)
theorem d_MM_cut_215 : decode y_MM_cut.2.1 215 = .ok (.invokevirtual 222, 3) := dc9_182 (by decide +kernel)
theorem d_MM_cut_218 : decode y_MM_cut.2.1 218 = .ok (.iload 4, 2) := dc9_21 (by decide +kernel)
theorem d_MM_cut_220 : decode y_MM_cut.2.1 220 = .ok (.bipush 39, 2) := dc9_16 (by decide +kernel)
theorem d_MM_cut_222 : decode y_MM_cut.2.1 222 = .ok (.if_icmp .eq 7, 3) := dc9_159 (by decide +kernel)
theorem d_MM_cut_229 : decode y_MM_cut.2.1 229 = .ok (.iconst 0, 1) := dc9_3 (by decide +kernel)
theorem d_MM_cut_225 : decode y_MM_cut.2.1 225 = .ok (.iconst 1, 1) := dc9_4 (by decide +kernel)
theorem d_MM_cut_226 : decode y_MM_cut.2.1 226 = .ok (.goto 4, 3) := dc9_167 (by decide +kernel)
theorem d_MM_cut_230 : decode y_MM_cut.2.1 230 = .ok (.istore_n 2, 1) := dc9_61 (by decide +kernel)
theorem d_MM_cut_231 : decode y_MM_cut.2.1 231 = .ok (.aload_n 0, 1) := dc9_42 (by decide +kernel)
theorem d_MM_cut_232 : decode y_MM_cut.2.1 232 = .ok (.iload_n 3, 1) := dc9_29 (by decide +kernel)
theorem d_MM_cut_233 : decode y_MM_cut.2.1 233 = .ok (.invokevirtual 206, 3) := dc9_182 (by decide +kernel)
theorem d_MM_cut_236 : decode y_MM_cut.2.1 236 = .ok (.istore_n 1, 1) := dc9_60 (by decide +kernel)
theorem d_MM_cut_237 : decode y_MM_cut.2.1 237 = .ok (.goto (-205), 3) := dc9_167 (by decide +kernel)
theorem d_MM_cut_60 : decode y_MM_cut.2.1 60 = .ok (.aload_n 0, 1) := dc9_42 (by decide +kernel)
theorem d_MM_cut_61 : decode y_MM_cut.2.1 61 = .ok (.iload_n 3, 1) := dc9_29 (by decide +kernel)
theorem d_MM_cut_62 : decode y_MM_cut.2.1 62 = .ok (.invokevirtual 159, 3) := dc9_182 (by decide +kernel)
theorem d_MM_cut_65 : decode y_MM_cut.2.1 65 = .ok (.invokestatic 209, 3) := dc9_184 (by decide +kernel)
theorem d_MM_cut_68 : decode y_MM_cut.2.1 68 = .ok (.ifCond .ne 24, 3) := dc9_154 (by decide +kernel)
theorem d_MM_cut_71 : decode y_MM_cut.2.1 71 = .ok (.aload_n 0, 1) := dc9_42 (by decide +kernel)
theorem d_MM_cut_72 : decode y_MM_cut.2.1 72 = .ok (.iload_n 3, 1) := dc9_29 (by decide +kernel)
theorem d_MM_cut_73 : decode y_MM_cut.2.1 73 = .ok (.invokevirtual 159, 3) := dc9_182 (by decide +kernel)
theorem d_MM_cut_76 : decode y_MM_cut.2.1 76 = .ok (.invokestatic 212, 3) := dc9_184 (by decide +kernel)
theorem d_MM_cut_79 : decode y_MM_cut.2.1 79 = .ok (.ifCond .ne 13, 3) := dc9_154 (by decide +kernel)
theorem d_MM_cut_82 : decode y_MM_cut.2.1 82 = .ok (.aload_n 0, 1) := dc9_42 (by decide +kernel)
theorem d_MM_cut_83 : decode y_MM_cut.2.1 83 = .ok (.iload_n 3, 1) := dc9_29 (by decide +kernel)
theorem d_MM_cut_84 : decode y_MM_cut.2.1 84 = .ok (.invokevirtual 159, 3) := dc9_182 (by decide +kernel)
theorem d_MM_cut_87 : decode y_MM_cut.2.1 87 = .ok (.bipush 95, 2) := dc9_16 (by decide +kernel)
theorem d_MM_cut_89 : decode y_MM_cut.2.1 89 = .ok (.if_icmp .ne 9, 3) := dc9_160 (by decide +kernel)
theorem d_MM_cut_98 : decode y_MM_cut.2.1 98 = .ok (.iload_n 3, 1) := dc9_29 (by decide +kernel)
theorem d_MM_cut_99 : decode y_MM_cut.2.1 99 = .ok (.iload_n 1, 1) := dc9_27 (by decide +kernel)
theorem d_MM_cut_100 : decode y_MM_cut.2.1 100 = .ok (.isub, 1) := dc9_100 (by decide +kernel)
theorem d_MM_cut_101 : decode y_MM_cut.2.1 101 = .ok (.bipush 40, 2) := dc9_16 (by decide +kernel)
theorem d_MM_cut_103 : decode y_MM_cut.2.1 103 = .ok (.if_icmp .le 8, 3) := dc9_164 (by decide +kernel)
theorem d_MM_cut_111 : decode y_MM_cut.2.1 111 = .ok (.aload_n 0, 1) := dc9_42 (by decide +kernel)
theorem d_MM_cut_112 : decode y_MM_cut.2.1 112 = .ok (.iload_n 1, 1) := dc9_27 (by decide +kernel)
theorem d_MM_cut_113 : decode y_MM_cut.2.1 113 = .ok (.iload_n 3, 1) := dc9_29 (by decide +kernel)
theorem d_MM_cut_106 : decode y_MM_cut.2.1 106 = .ok (.bipush 39, 2) := dc9_16 (by decide +kernel)
theorem d_MM_cut_108 : decode y_MM_cut.2.1 108 = .ok (.goto 9, 3) := dc9_167 (by decide +kernel)
theorem d_MM_cut_92 : decode y_MM_cut.2.1 92 = .ok (.iinc 3 1, 3) := by decide +kernel
theorem d_MM_cut_95 : decode y_MM_cut.2.1 95 = .ok (.goto (-35), 3) := dc9_167 (by decide +kernel)
theorem d_MM_cut_114 : decode y_MM_cut.2.1 114 = .ok (.invokevirtual 215, 3) := dc9_182 (by decide +kernel)
theorem d_MM_cut_117 : decode y_MM_cut.2.1 117 = .ok (.istore 4, 2) := dc9_54 (by decide +kernel)
theorem d_MM_cut_119 : decode y_MM_cut.2.1 119 = .ok (.goto 91, 3) := dc9_167 (by decide +kernel)
theorem d_MM_cut_133 : decode y_MM_cut.2.1 133 = .ok (.aload_n 0, 1) := dc9_42 (by decide +kernel)
theorem d_MM_cut_134 : decode y_MM_cut.2.1 134 = .ok (.iload_n 3, 1) := dc9_29 (by decide +kernel)
theorem d_MM_cut_135 : decode y_MM_cut.2.1 135 = .ok (.invokevirtual 159, 3) := dc9_182 (by decide +kernel)
theorem d_MM_cut_138 : decode y_MM_cut.2.1 138 = .ok (.invokestatic 212, 3) := dc9_184 (by decide +kernel)
theorem d_MM_cut_141 : decode y_MM_cut.2.1 141 = .ok (.ifCond .eq 9, 3) := dc9_153 (by decide +kernel)
theorem d_MM_cut_150 : decode y_MM_cut.2.1 150 = .ok (.iload_n 3, 1) := dc9_29 (by decide +kernel)
theorem d_MM_cut_151 : decode y_MM_cut.2.1 151 = .ok (.iload_n 1, 1) := dc9_27 (by decide +kernel)
theorem d_MM_cut_152 : decode y_MM_cut.2.1 152 = .ok (.isub, 1) := dc9_100 (by decide +kernel)
theorem d_MM_cut_153 : decode y_MM_cut.2.1 153 = .ok (.bipush 9, 2) := dc9_16 (by decide +kernel)
theorem d_MM_cut_144 : decode y_MM_cut.2.1 144 = .ok (.iinc 3 1, 3) := by decide +kernel
theorem d_MM_cut_147 : decode y_MM_cut.2.1 147 = .ok (.goto (-14), 3) := dc9_167 (by decide +kernel)
theorem d_MM_cut_155 : decode y_MM_cut.2.1 155 = .ok (.if_icmp .le 8, 3) := dc9_164 (by decide +kernel)
theorem d_MM_cut_163 : decode y_MM_cut.2.1 163 = .ok (.iconst 2, 1) := dc9_5 (by decide +kernel)
theorem d_MM_cut_164 : decode y_MM_cut.2.1 164 = .ok (.istore 4, 2) := dc9_54 (by decide +kernel)
theorem d_MM_cut_166 : decode y_MM_cut.2.1 166 = .ok (.goto 44, 3) := dc9_167 (by decide +kernel)
theorem d_MM_cut_158 : decode y_MM_cut.2.1 158 = .ok (.bipush 39, 2) := dc9_16 (by decide +kernel)
theorem d_MM_cut_160 : decode y_MM_cut.2.1 160 = .ok (.goto 4, 3) := dc9_167 (by decide +kernel)
theorem d_MM_cut_263 : decode y_MM_cut.2.1 263 = .ok (.return_, 1) := dc9_177 (by decide +kernel)
def h_MM_cut_32 (G : mG) (d : Nat) (a0 : Nat) (l1 : Int) (l2 : Int) (M : mM) (Q : mM → Prop) : Prop := mWm G y_MM_cut (d + 1) 32 [vr a0, vi l1, vi l2, vd, vd, vd] [] M (fun r9 M9 => r9 = none ∧ Q M9)
def h_MM_cut_60 (G : mG) (d : Nat) (a0 : Nat) (l1 : Int) (l3 : Int) (M : mM) (Q : mM → Prop) : Prop := mWm G y_MM_cut (d + 1) 60 [vr a0, vi l1, vd, vi l3, vd, vd] [] M (fun r9 M9 => r9 = none ∧ Q M9)
def h_MM_cut_117 (G : mG) (d : Nat) (a0 : Nat) (l1 : Int) (l3 : Int) (k0 : Int) (M : mM) (Q : mM → Prop) : Prop := mWm G y_MM_cut (d + 1) 117 [vr a0, vi l1, vd, vi l3, vd, vd] [vi k0] M (fun r9 M9 => r9 = none ∧ Q M9)
def h_MM_cut_133 (G : mG) (d : Nat) (a0 : Nat) (l1 : Int) (l3 : Int) (M : mM) (Q : mM → Prop) : Prop := mWm G y_MM_cut (d + 1) 133 [vr a0, vi l1, vd, vi l3, vd, vd] [] M (fun r9 M9 => r9 = none ∧ Q M9)
def h_MM_cut_263 (G : mG) (d : Nat) (M : mM) (Q : mM → Prop) : Prop := mWm G y_MM_cut (d + 1) 263 [vd, vd, vd, vd, vd, vd] [] M (fun r9 M9 => r9 = none ∧ Q M9)
theorem k_MM_cut {G : mG} {d : Nat} {a0 : Nat} {M : mM} {Q : mM → Prop} (hO : mOk M)
    (h : mK M a0 = 14 ∧ mK M (mR M a0 3) = 15 ∧ ∀ M3, M3 = mUI M (mR M a0 3) 1 0 → mK M3 (mR M3 a0 4) = 15 ∧ ∀ M6, M6 = mUI M3 (mR M3 a0 4) 1 0 → mK M6 (mR M6 a0 5) = 15 ∧ ∀ M9, M9 = mUI M6 (mR M6 a0 5) 1 0 → Ci G y_MM_skip d [vr a0, vi 0] M9 (fun x12 M11 => i32 x12 ∧ mOk M11 ∧ (h_MM_cut_32 G d a0 x12 1 M11 Q))) :
    Cv G y_MM_cut (d + 1) [vr a0] M Q := by
  refine wm_open (y := y_MM_cut) rfl (Nat.le_of_ble_eq_true rfl) (L := [vr a0, vd, vd, vd, vd, vd]) rfl ?_
  obtain ⟨h1, h⟩ := h
  obtain ⟨h2, h⟩ := h
  obtain ⟨M3, e4⟩ : ∃ M3, M3 = mUI M (mR M a0 3) 1 0 := ⟨_, rfl⟩
  replace h := h M3 e4
  obtain ⟨h5, h⟩ := h
  obtain ⟨M6, e7⟩ : ∃ M6, M6 = mUI M3 (mR M3 a0 4) 1 0 := ⟨_, rfl⟩
  replace h := h M6 e7
  obtain ⟨h8, h⟩ := h
  obtain ⟨M9, e10⟩ : ∃ M9, M9 = mUI M6 (mR M6 a0 5) 1 0 := ⟨_, rfl⟩
  replace h := h M9 e10
  refine wm_aload_n d_MM_cut_0 rfl rfl ?_
  refine gf_MM_19 rfl d_MM_cut_1 h1 ?_
  refine wm_iconst d_MM_cut_4 ?_
  have hOM3 : mOk M3 := by rw [e4]; exact mOk_UI hO ⟨by decide, by decide⟩
  refine pf_MM_145 rfl d_MM_cut_5 h2 ⟨by decide, by decide⟩ e4 ?_
  refine wm_aload_n d_MM_cut_8 rfl rfl ?_
  refine gf_MM_22 rfl d_MM_cut_9 (by rw [e4]; exact h1) ?_
  refine wm_iconst d_MM_cut_12 ?_
  have hOM6 : mOk M6 := by rw [e7]; exact mOk_UI hOM3 ⟨by decide, by decide⟩
  refine pf_MM_145 rfl d_MM_cut_13 h5 ⟨by decide, by decide⟩ e7 ?_
  refine wm_aload_n d_MM_cut_16 rfl rfl ?_
  refine gf_MM_25 rfl d_MM_cut_17 (by rw [e7, e4]; exact h1) ?_
  refine wm_iconst d_MM_cut_20 ?_
  have hOM9 : mOk M9 := by rw [e10]; exact mOk_UI hOM6 ⟨by decide, by decide⟩
  refine pf_MM_145 rfl d_MM_cut_21 h8 ⟨by decide, by decide⟩ e10 ?_
  refine wm_aload_n d_MM_cut_24 rfl rfl ?_
  refine wm_iconst d_MM_cut_25 ?_
  refine cf_MM_206 rfl d_MM_cut_26 (by rw [e10, e7, e4]; exact h1) (Nat.le_of_ble_eq_true rfl) (Ci.mono h (fun x12 M11 h => ?_))
  obtain ⟨h13, hOM11, h⟩ := h
  refine wm_istore_n d_MM_cut_29 rfl (by decide) (L' := [vr a0, vi x12, vd, vd, vd, vd]) rfl ?_
  refine wm_iconst d_MM_cut_30 ?_
  refine wm_istore_n d_MM_cut_31 rfl (by decide) (L' := [vr a0, vi x12, vi 1, vd, vd, vd]) rfl ?_
  exact h
theorem k_MM_cut_32 {G : mG} {d : Nat} {a0 : Nat} {l1 : Int} {l2 : Int} {M : mM} {Q : mM → Prop} (hO : mOk M) (hi_l1 : i32 l1) (hi_l2 : i32 l2)
    (h : (¬ (l2 = 0) → (mK M a0 = 14 ∧ mK M (mR M a0 2) = 15)) ∧ (((l2 = 0) ∨ (mI M (mR M a0 2) 1 ≤ l1)) → (((l2 = 0) → (h_MM_cut_263 G d  M Q)) ∧ (¬ (l2 = 0) → (mK M a0 = 14 ∧ mK M (mR M a0 2) = 15 ∧ Cv G y_MM_word0 d [vr a0, vi 0, vi (mI M (mR M a0 2) 1), vi (mI M (mR M a0 2) 1)] M (fun M24 => mOk M24 ∧ (h_MM_cut_263 G d  M24 Q)))))) ∧ (¬ ((l2 = 0) ∨ (mI M (mR M a0 2) 1 ≤ l1)) → (mK M a0 = 14 ∧ Ci G y_MM_letter d [vr a0, vi l1] M (fun x30 M29 => i32 x30 ∧ mOk M29 ∧ (Ci G y_MM_isLetter d [vi x30] M29 (fun x33 M32 => i32 x33 ∧ mOk M32 ∧ (((x33 = 0) → (mK M32 a0 = 14 ∧ Ci G y_MM_letter d [vr a0, vi l1] M32 (fun x39 M38 => i32 x39 ∧ mOk M38 ∧ (Ci G y_MM_isDigit d [vi x39] M38 (fun x42 M41 => i32 x42 ∧ mOk M41 ∧ (((x42 = 0) → (mK M41 a0 = 14 ∧ Ci G y_MM_signKind d [vr a0, vi l1] M41 (fun x48 M47 => i32 x48 ∧ mOk M47 ∧ (∀ v52 : Int, v52 = (if ((x48 < 16) ∨ (20 < x48)) then 0 else 1) → ∀ v58 : Int, v58 = (if (v52 = 0) then 1 else 2) → mK M47 a0 = 14 ∧ Cv G y_MM_word0 d [vr a0, vi x48, vi l1, vi (l1 + v58)] M47 (fun M63 => mOk M63 ∧ (∀ v67 : Int, v67 = (if (x48 = 39) then 0 else 1) → mK M63 a0 = 14 ∧ Ci G y_MM_skip d [vr a0, vi (l1 + v58)] M63 (fun x74 M73 => i32 x74 ∧ mOk M73 ∧ (h_MM_cut_32 G d a0 x74 v67 M73 Q)))))))) ∧ (¬ (x42 = 0) → (h_MM_cut_133 G d a0 l1 l1 M41 Q)))))))) ∧ (¬ (x33 = 0) → (h_MM_cut_60 G d a0 l1 l1 M32 Q))))))))) :
    h_MM_cut_32 G d a0 l1 l2 M Q := by
  unfold h_MM_cut_32
  refine wm_iload_n d_MM_cut_32 rfl rfl ?_
  obtain ⟨s18, h⟩ := h
  have hE0 : ((l2 = 0) ∨ (mI M (mR M a0 2) 1 ≤ l1)) → mWm G y_MM_cut (d + 1) 240 [vr a0, vi l1, vi l2, vd, vd, vd] [] M (fun r9 M9 => r9 = none ∧ Q M9) := by
    intro q19
    have h := h.1 q19
    refine wm_iload_n d_MM_cut_240 rfl rfl ?_
    refine wm_if_eq (tgt := 263) d_MM_cut_241 rfl hi_l2 (fun c21 => ?_) (fun c21 => ?_)
    · replace h := h.1 c21
      refine wm_less (L' := [vd, vd, vd, vd, vd, vd]) ⟨Or.inl rfl, Or.inl rfl, Or.inl rfl, Or.inl rfl, Or.inl rfl, Or.inl rfl, trivial⟩ ?_
      exact h
    · replace h := h.2 c21
      obtain ⟨h22, h⟩ := h
      obtain ⟨h23, h⟩ := h
      refine wm_aload_n d_MM_cut_244 rfl rfl ?_
      refine wm_iconst d_MM_cut_245 ?_
      refine wm_aload_n d_MM_cut_246 rfl rfl ?_
      refine gf_MM_16 rfl d_MM_cut_247 h22 ?_
      refine gf_MM_145 rfl d_MM_cut_250 h23 ?_
      refine wm_aload_n d_MM_cut_253 rfl rfl ?_
      refine gf_MM_16 rfl d_MM_cut_254 h22 ?_
      refine gf_MM_145 rfl d_MM_cut_257 h23 ?_
      refine cf_MM_222 rfl d_MM_cut_260 h22 (Nat.le_of_ble_eq_true rfl) (Cv.mono h (fun M24 h => ?_))
      obtain ⟨hOM24, h⟩ := h
      refine wm_less (L' := [vd, vd, vd, vd, vd, vd]) ⟨Or.inl rfl, Or.inl rfl, Or.inl rfl, Or.inl rfl, Or.inl rfl, Or.inl rfl, trivial⟩ ?_
      exact h
  have hE1 : ¬ ((l2 = 0) ∨ (mI M (mR M a0 2) 1 ≤ l1)) → mWm G y_MM_cut (d + 1) 47 [vr a0, vi l1, vi l2, vd, vd, vd] [] M (fun r9 M9 => r9 = none ∧ Q M9) := by
    intro q27
    have h := h.2 q27
    obtain ⟨h28, h⟩ := h
    refine wm_iload_n d_MM_cut_47 rfl rfl ?_
    refine wm_istore_n d_MM_cut_48 rfl (by decide) (L' := [vr a0, vi l1, vi l2, vi l1, vd, vd]) rfl ?_
    refine wm_aload_n d_MM_cut_49 rfl rfl ?_
    refine wm_iload_n d_MM_cut_50 rfl rfl ?_
    refine cf_MM_159 rfl d_MM_cut_51 h28 (Nat.le_of_ble_eq_true rfl) (Ci.mono h (fun x30 M29 h => ?_))
    obtain ⟨h31, hOM29, h⟩ := h
    refine cf_MM_209 rfl d_MM_cut_54 (Nat.le_of_ble_eq_true rfl) (Ci.mono h (fun x33 M32 h => ?_))
    obtain ⟨h34, hOM32, h⟩ := h
    refine wm_if_eq (tgt := 122) d_MM_cut_57 rfl h34 (fun c36 => ?_) (fun c36 => ?_)
    · replace h := h.1 c36
      obtain ⟨h37, h⟩ := h
      refine wm_aload_n d_MM_cut_122 rfl rfl ?_
      refine wm_iload_n d_MM_cut_123 rfl rfl ?_
      refine cf_MM_159 rfl d_MM_cut_124 h37 (Nat.le_of_ble_eq_true rfl) (Ci.mono h (fun x39 M38 h => ?_))
      obtain ⟨h40, hOM38, h⟩ := h
      refine cf_MM_212 rfl d_MM_cut_127 (Nat.le_of_ble_eq_true rfl) (Ci.mono h (fun x42 M41 h => ?_))
      obtain ⟨h43, hOM41, h⟩ := h
      refine wm_if_eq (tgt := 169) d_MM_cut_130 rfl h43 (fun c45 => ?_) (fun c45 => ?_)
      · replace h := h.1 c45
        obtain ⟨h46, h⟩ := h
        refine wm_aload_n d_MM_cut_169 rfl rfl ?_
        refine wm_iload_n d_MM_cut_170 rfl rfl ?_
        refine cf_MM_219 rfl d_MM_cut_171 h46 (Nat.le_of_ble_eq_true rfl) (Ci.mono h (fun x48 M47 h => ?_))
        obtain ⟨h49, hOM47, h⟩ := h
        refine wm_istore d_MM_cut_174 (by decide) (L' := [vr a0, vi l1, vi l2, vi l1, vi x48, vd]) rfl ?_
        refine wm_iload d_MM_cut_176 rfl ?_
        refine wm_bipush d_MM_cut_178 (by decide) ?_
        have hJ : ∀ v52 : Int, v52 = (if ((x48 < 16) ∨ (20 < x48)) then 0 else 1) → mWm G y_MM_cut (d + 1) 195 [vr a0, vi l1, vd, vd, vi x48, vd] [vi v52] M47 (fun r9 M9 => r9 = none ∧ Q M9) := by
          intro v52 e54
          have h := h v52 e54
          have h55 : i32 v52 := by rw [e54]; (repeat' split) <;> first | exact ⟨by decide, by decide⟩ | exact ⟨by decide, by decide⟩
          have h56 : (v52 = 0 ∨ v52 = 1) := by rw [e54]; (repeat' split) <;> decide
          refine wm_istore d_MM_cut_195 (by decide) (L' := [vr a0, vi l1, vd, vd, vi x48, vi v52]) rfl ?_
          refine wm_iload_n d_MM_cut_197 rfl rfl ?_
          refine wm_iload d_MM_cut_198 rfl ?_
          have hJ : ∀ v58 : Int, v58 = (if (v52 = 0) then 1 else 2) → mWm G y_MM_cut (d + 1) 208 [vr a0, vi l1, vd, vd, vi x48, vd] [vi v58, vi l1] M47 (fun r9 M9 => r9 = none ∧ Q M9) := by
            intro v58 e60
            have h := h v58 e60
            have h61 : i32 v58 := by rw [e60]; (repeat' split) <;> first | exact ⟨by decide, by decide⟩ | exact ⟨by decide, by decide⟩
            obtain ⟨h62, h⟩ := h
            refine wm_iadd d_MM_cut_208 ?_
            refine wm_istore_n d_MM_cut_209 rfl (by decide) (L' := [vr a0, vi l1, vd, vi (l1 + v58), vi x48, vd]) rfl ?_
            refine wm_aload_n d_MM_cut_210 rfl rfl ?_
            refine wm_iload d_MM_cut_211 rfl ?_
            refine wm_iload_n d_MM_cut_213 rfl rfl ?_
            refine wm_iload_n d_MM_cut_214 rfl rfl ?_
            refine cf_MM_222 rfl d_MM_cut_215 h62 (Nat.le_of_ble_eq_true rfl) (Cv.mono h (fun M63 h => ?_))
            obtain ⟨hOM63, h⟩ := h
            refine wm_iload d_MM_cut_218 rfl ?_
            refine wm_bipush d_MM_cut_220 (by decide) ?_
            have hJ : ∀ v67 : Int, v67 = (if (x48 = 39) then 0 else 1) → mWm G y_MM_cut (d + 1) 230 [vr a0, vd, vd, vi (l1 + v58), vd, vd] [vi v67] M63 (fun r9 M9 => r9 = none ∧ Q M9) := by
              intro v67 e69
              have h := h v67 e69
              have h70 : i32 v67 := by rw [e69]; (repeat' split) <;> first | exact ⟨by decide, by decide⟩ | exact ⟨by decide, by decide⟩
              have h71 : (v67 = 0 ∨ v67 = 1) := by rw [e69]; (repeat' split) <;> decide
              obtain ⟨h72, h⟩ := h
              refine wm_istore_n d_MM_cut_230 rfl (by decide) (L' := [vr a0, vd, vi v67, vi (l1 + v58), vd, vd]) rfl ?_
              refine wm_aload_n d_MM_cut_231 rfl rfl ?_
              refine wm_iload_n d_MM_cut_232 rfl rfl ?_
              refine cf_MM_206 rfl d_MM_cut_233 h72 (Nat.le_of_ble_eq_true rfl) (Ci.mono h (fun x74 M73 h => ?_))
              obtain ⟨h75, hOM73, h⟩ := h
              refine wm_istore_n d_MM_cut_236 rfl (by decide) (L' := [vr a0, vi x74, vi v67, vi (l1 + v58), vd, vd]) rfl ?_
              refine wm_goto (tgt := 32) d_MM_cut_237 rfl ?_
              refine wm_less (L' := [vr a0, vi x74, vi v67, vd, vd, vd]) ⟨Or.inr rfl, Or.inr rfl, Or.inr rfl, Or.inl rfl, Or.inl rfl, Or.inl rfl, trivial⟩ ?_
              exact h
            clear h
            refine wm_icmp_eq (tgt := 229) d_MM_cut_222 rfl h49 ⟨by decide, by decide⟩ (fun c66 => ?_) (fun c66 => ?_)
            · refine wm_iconst d_MM_cut_229 ?_
              refine wm_less (L' := [vr a0, vd, vd, vi (l1 + v58), vd, vd]) ⟨Or.inr rfl, Or.inl rfl, Or.inl rfl, Or.inr rfl, Or.inl rfl, Or.inl rfl, trivial⟩ ?_
              exact hJ 0 (if_pos c66).symm
            · refine wm_iconst d_MM_cut_225 ?_
              refine wm_goto (tgt := 230) d_MM_cut_226 rfl ?_
              refine wm_less (L' := [vr a0, vd, vd, vi (l1 + v58), vd, vd]) ⟨Or.inr rfl, Or.inl rfl, Or.inl rfl, Or.inr rfl, Or.inl rfl, Or.inl rfl, trivial⟩ ?_
              exact hJ 1 (if_neg c66).symm
          clear h
          refine wm_if_eq (tgt := 207) d_MM_cut_200 rfl h55 (fun c57 => ?_) (fun c57 => ?_)
          · refine wm_iconst d_MM_cut_207 ?_
            refine wm_less (L' := [vr a0, vi l1, vd, vd, vi x48, vd]) ⟨Or.inr rfl, Or.inr rfl, Or.inl rfl, Or.inl rfl, Or.inr rfl, Or.inl rfl, trivial⟩ ?_
            exact hJ 1 (if_pos c57).symm
          · refine wm_iconst d_MM_cut_203 ?_
            refine wm_goto (tgt := 208) d_MM_cut_204 rfl ?_
            refine wm_less (L' := [vr a0, vi l1, vd, vd, vi x48, vd]) ⟨Or.inr rfl, Or.inr rfl, Or.inl rfl, Or.inl rfl, Or.inr rfl, Or.inl rfl, trivial⟩ ?_
            exact hJ 2 (if_neg c57).symm
        clear h
        refine wm_icmp_lt (tgt := 194) d_MM_cut_180 rfl h49 ⟨by decide, by decide⟩ (fun c50 => ?_) (fun c50 => ?_)
        · refine wm_iconst d_MM_cut_194 ?_
          refine wm_less (L' := [vr a0, vi l1, vd, vd, vi x48, vd]) ⟨Or.inr rfl, Or.inr rfl, Or.inl rfl, Or.inl rfl, Or.inr rfl, Or.inl rfl, trivial⟩ ?_
          exact hJ 0 (if_pos (Or.inl c50)).symm
        · refine wm_iload d_MM_cut_183 rfl ?_
          refine wm_bipush d_MM_cut_185 (by decide) ?_
          refine wm_icmp_gt (tgt := 194) d_MM_cut_187 rfl h49 ⟨by decide, by decide⟩ (fun c51 => ?_) (fun c51 => ?_)
          · refine wm_iconst d_MM_cut_194 ?_
            refine wm_less (L' := [vr a0, vi l1, vd, vd, vi x48, vd]) ⟨Or.inr rfl, Or.inr rfl, Or.inl rfl, Or.inl rfl, Or.inr rfl, Or.inl rfl, trivial⟩ ?_
            exact hJ 0 (if_pos (Or.inr c51)).symm
          · refine wm_iconst d_MM_cut_190 ?_
            refine wm_goto (tgt := 195) d_MM_cut_191 rfl ?_
            refine wm_less (L' := [vr a0, vi l1, vd, vd, vi x48, vd]) ⟨Or.inr rfl, Or.inr rfl, Or.inl rfl, Or.inl rfl, Or.inr rfl, Or.inl rfl, trivial⟩ ?_
            exact hJ 1 (if_neg (fun z78 => Or.elim z78 c50 c51)).symm
      · replace h := h.2 c45
        refine wm_less (L' := [vr a0, vi l1, vd, vi l1, vd, vd]) ⟨Or.inr rfl, Or.inr rfl, Or.inl rfl, Or.inr rfl, Or.inl rfl, Or.inl rfl, trivial⟩ ?_
        exact h
    · replace h := h.2 c36
      refine wm_less (L' := [vr a0, vi l1, vd, vi l1, vd, vd]) ⟨Or.inr rfl, Or.inr rfl, Or.inl rfl, Or.inr rfl, Or.inl rfl, Or.inl rfl, trivial⟩ ?_
      exact h
  clear h
  have s80 := s18
  refine wm_if_eq (tgt := 240) d_MM_cut_33 rfl hi_l2 (fun c17 => ?_) (fun c17 => ?_)
  · exact hE0 (Or.inl c17)
  · have s80 := s80 c17
    obtain ⟨h14, h15⟩ := s80
    refine wm_iload_n d_MM_cut_36 rfl rfl ?_
    refine wm_aload_n d_MM_cut_37 rfl rfl ?_
    refine gf_MM_16 rfl d_MM_cut_38 h14 ?_
    refine gf_MM_145 rfl d_MM_cut_41 h15 ?_
    refine wm_icmp_ge (tgt := 240) d_MM_cut_44 rfl hi_l1 (hO _ _).1 (fun c16 => ?_) (fun c16 => ?_)
    · exact hE0 (Or.inr c16)
    · exact hE1 (fun z81 => Or.elim z81 c17 c16)
theorem k_MM_cut_60 {G : mG} {d : Nat} {a0 : Nat} {l1 : Int} {l3 : Int} {M : mM} {Q : mM → Prop} (hO : mOk M) (hi_l1 : i32 l1) (hi_l3 : i32 l3)
    (h : mK M a0 = 14 ∧ Ci G y_MM_letter d [vr a0, vi l3] M (fun x85 M84 => i32 x85 ∧ mOk M84 ∧ (Ci G y_MM_isLetter d [vi x85] M84 (fun x88 M87 => i32 x88 ∧ mOk M87 ∧ (((x88 = 0) → (mK M87 a0 = 14 ∧ Ci G y_MM_letter d [vr a0, vi l3] M87 (fun x94 M93 => i32 x94 ∧ mOk M93 ∧ (Ci G y_MM_isDigit d [vi x94] M93 (fun x97 M96 => i32 x97 ∧ mOk M96 ∧ (((x97 = 0) → (mK M96 a0 = 14 ∧ Ci G y_MM_letter d [vr a0, vi l3] M96 (fun x103 M102 => i32 x103 ∧ mOk M102 ∧ (((x103 = 95) → (h_MM_cut_60 G d a0 l1 (l3 + 1) M102 Q)) ∧ (¬ (x103 = 95) → (i32 (l3 - l1) ∧ ((l3 - l1 ≤ 40) → (mK M102 a0 = 14 ∧ Ci G y_MM_wordKind d [vr a0, vi l1, vi l3] M102 (fun x115 M114 => i32 x115 ∧ mOk M114 ∧ (h_MM_cut_117 G d a0 l1 l3 x115 M114 Q)))) ∧ (¬ (l3 - l1 ≤ 40) → (h_MM_cut_117 G d a0 l1 l3 39 M102 Q)))))))) ∧ (¬ (x97 = 0) → (h_MM_cut_60 G d a0 l1 (l3 + 1) M96 Q)))))))) ∧ (¬ (x88 = 0) → (h_MM_cut_60 G d a0 l1 (l3 + 1) M87 Q))))))) :
    h_MM_cut_60 G d a0 l1 l3 M Q := by
  unfold h_MM_cut_60
  obtain ⟨h83, h⟩ := h
  refine wm_aload_n d_MM_cut_60 rfl rfl ?_
  refine wm_iload_n d_MM_cut_61 rfl rfl ?_
  refine cf_MM_159 rfl d_MM_cut_62 h83 (Nat.le_of_ble_eq_true rfl) (Ci.mono h (fun x85 M84 h => ?_))
  obtain ⟨h86, hOM84, h⟩ := h
  refine cf_MM_209 rfl d_MM_cut_65 (Nat.le_of_ble_eq_true rfl) (Ci.mono h (fun x88 M87 h => ?_))
  obtain ⟨h89, hOM87, h⟩ := h
  refine wm_if_ne (tgt := 92) d_MM_cut_68 rfl h89 (fun c91 => ?_) (fun c91 => ?_)
  · replace h := h.2 c91
    refine wm_iinc d_MM_cut_92 (by decide) rfl (L' := [vr a0, vi l1, vd, vi (l3 + 1), vd, vd]) rfl ?_
    refine wm_goto (tgt := 60) d_MM_cut_95 rfl ?_
    exact h
  · replace c91 := Classical.not_not.mp c91
    replace h := h.1 c91
    obtain ⟨h92, h⟩ := h
    refine wm_aload_n d_MM_cut_71 rfl rfl ?_
    refine wm_iload_n d_MM_cut_72 rfl rfl ?_
    refine cf_MM_159 rfl d_MM_cut_73 h92 (Nat.le_of_ble_eq_true rfl) (Ci.mono h (fun x94 M93 h => ?_))
    obtain ⟨h95, hOM93, h⟩ := h
    refine cf_MM_212 rfl d_MM_cut_76 (Nat.le_of_ble_eq_true rfl) (Ci.mono h (fun x97 M96 h => ?_))
    obtain ⟨h98, hOM96, h⟩ := h
    refine wm_if_ne (tgt := 92) d_MM_cut_79 rfl h98 (fun c100 => ?_) (fun c100 => ?_)
    · replace h := h.2 c100
      refine wm_iinc d_MM_cut_92 (by decide) rfl (L' := [vr a0, vi l1, vd, vi (l3 + 1), vd, vd]) rfl ?_
      refine wm_goto (tgt := 60) d_MM_cut_95 rfl ?_
      exact h
    · replace c100 := Classical.not_not.mp c100
      replace h := h.1 c100
      obtain ⟨h101, h⟩ := h
      refine wm_aload_n d_MM_cut_82 rfl rfl ?_
      refine wm_iload_n d_MM_cut_83 rfl rfl ?_
      refine cf_MM_159 rfl d_MM_cut_84 h101 (Nat.le_of_ble_eq_true rfl) (Ci.mono h (fun x103 M102 h => ?_))
      obtain ⟨h104, hOM102, h⟩ := h
      refine wm_bipush d_MM_cut_87 (by decide) ?_
      refine wm_icmp_ne (tgt := 98) d_MM_cut_89 rfl h104 ⟨by decide, by decide⟩ (fun c108 => ?_) (fun c108 => ?_)
      · replace h := h.2 c108
        obtain ⟨h111, h⟩ := h
        refine wm_iload_n d_MM_cut_98 rfl rfl ?_
        refine wm_iload_n d_MM_cut_99 rfl rfl ?_
        refine wm_isub d_MM_cut_100 ?_
        refine wm_bipush d_MM_cut_101 (by decide) ?_
        refine wm_icmp_le (tgt := 111) d_MM_cut_103 rfl h111 ⟨by decide, by decide⟩ (fun c112 => ?_) (fun c112 => ?_)
        · replace h := h.1 c112
          obtain ⟨h113, h⟩ := h
          refine wm_aload_n d_MM_cut_111 rfl rfl ?_
          refine wm_iload_n d_MM_cut_112 rfl rfl ?_
          refine wm_iload_n d_MM_cut_113 rfl rfl ?_
          refine cf_MM_215 rfl d_MM_cut_114 h113 (Nat.le_of_ble_eq_true rfl) (Ci.mono h (fun x115 M114 h => ?_))
          obtain ⟨h116, hOM114, h⟩ := h
          exact h
        · replace h := h.2 c112
          refine wm_bipush d_MM_cut_106 (by decide) ?_
          refine wm_goto (tgt := 117) d_MM_cut_108 rfl ?_
          exact h
      · replace c108 := Classical.not_not.mp c108
        replace h := h.1 c108
        refine wm_iinc d_MM_cut_92 (by decide) rfl (L' := [vr a0, vi l1, vd, vi (l3 + 1), vd, vd]) rfl ?_
        refine wm_goto (tgt := 60) d_MM_cut_95 rfl ?_
        exact h
theorem k_MM_cut_117 {G : mG} {d : Nat} {a0 : Nat} {l1 : Int} {l3 : Int} {k0 : Int} {M : mM} {Q : mM → Prop} (hO : mOk M) (hi_l1 : i32 l1) (hi_l3 : i32 l3) (hi_k0 : i32 k0)
    (h : mK M a0 = 14 ∧ Cv G y_MM_word0 d [vr a0, vi k0, vi l1, vi l3] M (fun M118 => mOk M118 ∧ (∀ v122 : Int, v122 = (if (k0 = 39) then 0 else 1) → mK M118 a0 = 14 ∧ Ci G y_MM_skip d [vr a0, vi l3] M118 (fun x129 M128 => i32 x129 ∧ mOk M128 ∧ (h_MM_cut_32 G d a0 x129 v122 M128 Q))))) :
    h_MM_cut_117 G d a0 l1 l3 k0 M Q := by
  unfold h_MM_cut_117
  obtain ⟨h117, h⟩ := h
  refine wm_istore d_MM_cut_117 (by decide) (L' := [vr a0, vi l1, vd, vi l3, vi k0, vd]) rfl ?_
  refine wm_goto (tgt := 210) d_MM_cut_119 rfl ?_
  refine wm_aload_n d_MM_cut_210 rfl rfl ?_
  refine wm_iload d_MM_cut_211 rfl ?_
  refine wm_iload_n d_MM_cut_213 rfl rfl ?_
  refine wm_iload_n d_MM_cut_214 rfl rfl ?_
  refine cf_MM_222 rfl d_MM_cut_215 h117 (Nat.le_of_ble_eq_true rfl) (Cv.mono h (fun M118 h => ?_))
  obtain ⟨hOM118, h⟩ := h
  refine wm_iload d_MM_cut_218 rfl ?_
  refine wm_bipush d_MM_cut_220 (by decide) ?_
  have hJ : ∀ v122 : Int, v122 = (if (k0 = 39) then 0 else 1) → mWm G y_MM_cut (d + 1) 230 [vr a0, vd, vd, vi l3, vd, vd] [vi v122] M118 (fun r9 M9 => r9 = none ∧ Q M9) := by
    intro v122 e124
    have h := h v122 e124
    have h125 : i32 v122 := by rw [e124]; (repeat' split) <;> first | exact ⟨by decide, by decide⟩ | exact ⟨by decide, by decide⟩
    have h126 : (v122 = 0 ∨ v122 = 1) := by rw [e124]; (repeat' split) <;> decide
    obtain ⟨h127, h⟩ := h
    refine wm_istore_n d_MM_cut_230 rfl (by decide) (L' := [vr a0, vd, vi v122, vi l3, vd, vd]) rfl ?_
    refine wm_aload_n d_MM_cut_231 rfl rfl ?_
    refine wm_iload_n d_MM_cut_232 rfl rfl ?_
    refine cf_MM_206 rfl d_MM_cut_233 h127 (Nat.le_of_ble_eq_true rfl) (Ci.mono h (fun x129 M128 h => ?_))
    obtain ⟨h130, hOM128, h⟩ := h
    refine wm_istore_n d_MM_cut_236 rfl (by decide) (L' := [vr a0, vi x129, vi v122, vi l3, vd, vd]) rfl ?_
    refine wm_goto (tgt := 32) d_MM_cut_237 rfl ?_
    refine wm_less (L' := [vr a0, vi x129, vi v122, vd, vd, vd]) ⟨Or.inr rfl, Or.inr rfl, Or.inr rfl, Or.inl rfl, Or.inl rfl, Or.inl rfl, trivial⟩ ?_
    exact h
  clear h
  refine wm_icmp_eq (tgt := 229) d_MM_cut_222 rfl hi_k0 ⟨by decide, by decide⟩ (fun c121 => ?_) (fun c121 => ?_)
  · refine wm_iconst d_MM_cut_229 ?_
    refine wm_less (L' := [vr a0, vd, vd, vi l3, vd, vd]) ⟨Or.inr rfl, Or.inl rfl, Or.inl rfl, Or.inr rfl, Or.inl rfl, Or.inl rfl, trivial⟩ ?_
    exact hJ 0 (if_pos c121).symm
  · refine wm_iconst d_MM_cut_225 ?_
    refine wm_goto (tgt := 230) d_MM_cut_226 rfl ?_
    refine wm_less (L' := [vr a0, vd, vd, vi l3, vd, vd]) ⟨Or.inr rfl, Or.inl rfl, Or.inl rfl, Or.inr rfl, Or.inl rfl, Or.inl rfl, trivial⟩ ?_
    exact hJ 1 (if_neg c121).symm
theorem k_MM_cut_133 {G : mG} {d : Nat} {a0 : Nat} {l1 : Int} {l3 : Int} {M : mM} {Q : mM → Prop} (hO : mOk M) (hi_l1 : i32 l1) (hi_l3 : i32 l3)
    (h : mK M a0 = 14 ∧ Ci G y_MM_letter d [vr a0, vi l3] M (fun x134 M133 => i32 x134 ∧ mOk M133 ∧ (Ci G y_MM_isDigit d [vi x134] M133 (fun x137 M136 => i32 x137 ∧ mOk M136 ∧ (((x137 = 0) → (i32 (l3 - l1) ∧ ∀ v145 : Int, v145 = (if (l3 - l1 ≤ 9) then 2 else 39) → mK M136 a0 = 14 ∧ Cv G y_MM_word0 d [vr a0, vi v145, vi l1, vi l3] M136 (fun M150 => mOk M150 ∧ (∀ v154 : Int, v154 = (if (v145 = 39) then 0 else 1) → mK M150 a0 = 14 ∧ Ci G y_MM_skip d [vr a0, vi l3] M150 (fun x161 M160 => i32 x161 ∧ mOk M160 ∧ (h_MM_cut_32 G d a0 x161 v154 M160 Q)))))) ∧ (¬ (x137 = 0) → (h_MM_cut_133 G d a0 l1 (l3 + 1) M136 Q))))))) :
    h_MM_cut_133 G d a0 l1 l3 M Q := by
  unfold h_MM_cut_133
  obtain ⟨h132, h⟩ := h
  refine wm_aload_n d_MM_cut_133 rfl rfl ?_
  refine wm_iload_n d_MM_cut_134 rfl rfl ?_
  refine cf_MM_159 rfl d_MM_cut_135 h132 (Nat.le_of_ble_eq_true rfl) (Ci.mono h (fun x134 M133 h => ?_))
  obtain ⟨h135, hOM133, h⟩ := h
  refine cf_MM_212 rfl d_MM_cut_138 (Nat.le_of_ble_eq_true rfl) (Ci.mono h (fun x137 M136 h => ?_))
  obtain ⟨h138, hOM136, h⟩ := h
  refine wm_if_eq (tgt := 150) d_MM_cut_141 rfl h138 (fun c142 => ?_) (fun c142 => ?_)
  · replace h := h.1 c142
    obtain ⟨h143, h⟩ := h
    refine wm_iload_n d_MM_cut_150 rfl rfl ?_
    refine wm_iload_n d_MM_cut_151 rfl rfl ?_
    refine wm_isub d_MM_cut_152 ?_
    refine wm_bipush d_MM_cut_153 (by decide) ?_
    have hJ : ∀ v145 : Int, v145 = (if (l3 - l1 ≤ 9) then 2 else 39) → mWm G y_MM_cut (d + 1) 164 [vr a0, vi l1, vd, vi l3, vd, vd] [vi v145] M136 (fun r9 M9 => r9 = none ∧ Q M9) := by
      intro v145 e147
      have h := h v145 e147
      have h148 : i32 v145 := by rw [e147]; (repeat' split) <;> first | exact ⟨by decide, by decide⟩ | exact ⟨by decide, by decide⟩
      obtain ⟨h149, h⟩ := h
      refine wm_istore d_MM_cut_164 (by decide) (L' := [vr a0, vi l1, vd, vi l3, vi v145, vd]) rfl ?_
      refine wm_goto (tgt := 210) d_MM_cut_166 rfl ?_
      refine wm_aload_n d_MM_cut_210 rfl rfl ?_
      refine wm_iload d_MM_cut_211 rfl ?_
      refine wm_iload_n d_MM_cut_213 rfl rfl ?_
      refine wm_iload_n d_MM_cut_214 rfl rfl ?_
      refine cf_MM_222 rfl d_MM_cut_215 h149 (Nat.le_of_ble_eq_true rfl) (Cv.mono h (fun M150 h => ?_))
      obtain ⟨hOM150, h⟩ := h
      refine wm_iload d_MM_cut_218 rfl ?_
      refine wm_bipush d_MM_cut_220 (by decide) ?_
      have hJ : ∀ v154 : Int, v154 = (if (v145 = 39) then 0 else 1) → mWm G y_MM_cut (d + 1) 230 [vr a0, vd, vd, vi l3, vd, vd] [vi v154] M150 (fun r9 M9 => r9 = none ∧ Q M9) := by
        intro v154 e156
        have h := h v154 e156
        have h157 : i32 v154 := by rw [e156]; (repeat' split) <;> first | exact ⟨by decide, by decide⟩ | exact ⟨by decide, by decide⟩
        have h158 : (v154 = 0 ∨ v154 = 1) := by rw [e156]; (repeat' split) <;> decide
        obtain ⟨h159, h⟩ := h
        refine wm_istore_n d_MM_cut_230 rfl (by decide) (L' := [vr a0, vd, vi v154, vi l3, vd, vd]) rfl ?_
        refine wm_aload_n d_MM_cut_231 rfl rfl ?_
        refine wm_iload_n d_MM_cut_232 rfl rfl ?_
        refine cf_MM_206 rfl d_MM_cut_233 h159 (Nat.le_of_ble_eq_true rfl) (Ci.mono h (fun x161 M160 h => ?_))
        obtain ⟨h162, hOM160, h⟩ := h
        refine wm_istore_n d_MM_cut_236 rfl (by decide) (L' := [vr a0, vi x161, vi v154, vi l3, vd, vd]) rfl ?_
        refine wm_goto (tgt := 32) d_MM_cut_237 rfl ?_
        refine wm_less (L' := [vr a0, vi x161, vi v154, vd, vd, vd]) ⟨Or.inr rfl, Or.inr rfl, Or.inr rfl, Or.inl rfl, Or.inl rfl, Or.inl rfl, trivial⟩ ?_
        exact h
      clear h
      refine wm_icmp_eq (tgt := 229) d_MM_cut_222 rfl h148 ⟨by decide, by decide⟩ (fun c153 => ?_) (fun c153 => ?_)
      · refine wm_iconst d_MM_cut_229 ?_
        refine wm_less (L' := [vr a0, vd, vd, vi l3, vd, vd]) ⟨Or.inr rfl, Or.inl rfl, Or.inl rfl, Or.inr rfl, Or.inl rfl, Or.inl rfl, trivial⟩ ?_
        exact hJ 0 (if_pos c153).symm
      · refine wm_iconst d_MM_cut_225 ?_
        refine wm_goto (tgt := 230) d_MM_cut_226 rfl ?_
        refine wm_less (L' := [vr a0, vd, vd, vi l3, vd, vd]) ⟨Or.inr rfl, Or.inl rfl, Or.inl rfl, Or.inr rfl, Or.inl rfl, Or.inl rfl, trivial⟩ ?_
        exact hJ 1 (if_neg c153).symm
    clear h
    refine wm_icmp_le (tgt := 163) d_MM_cut_155 rfl h143 ⟨by decide, by decide⟩ (fun c144 => ?_) (fun c144 => ?_)
    · refine wm_iconst d_MM_cut_163 ?_
      exact hJ 2 (if_pos c144).symm
    · refine wm_bipush d_MM_cut_158 (by decide) ?_
      refine wm_goto (tgt := 164) d_MM_cut_160 rfl ?_
      exact hJ 39 (if_neg c144).symm
  · replace h := h.2 c142
    refine wm_iinc d_MM_cut_144 (by decide) rfl (L' := [vr a0, vi l1, vd, vi (l3 + 1), vd, vd]) rfl ?_
    refine wm_goto (tgt := 133) d_MM_cut_147 rfl ?_
    exact h
theorem k_MM_cut_263 {G : mG} {d : Nat} {M : mM} {Q : mM → Prop} (hO : mOk M)
    (h : Q M) :
    h_MM_cut_263 G d  M Q := by
  unfold h_MM_cut_263
  refine wm_return d_MM_cut_263 rfl ?_
  exact ⟨rfl, h⟩
theorem d_MM_want_0 : decode y_MM_want.2.1 0 = .ok (.aload_n 0, 1) := dc9_42 (by decide +kernel)
theorem d_MM_want_1 : decode y_MM_want.2.1 1 = .ok (.getfield 28, 3) := dc9_180 (by decide +kernel)
theorem d_MM_want_4 : decode y_MM_want.2.1 4 = .ok (.iload_n 3, 1) := dc9_29 (by decide +kernel)
theorem d_MM_want_5 : decode y_MM_want.2.1 5 = .ok (.invokevirtual 152, 3) := dc9_182 (by decide +kernel)
theorem d_MM_want_8 : decode y_MM_want.2.1 8 = .ok (.aload_n 0, 1) := dc9_42 (by decide +kernel)
theorem d_MM_want_9 : decode y_MM_want.2.1 9 = .ok (.getfield 28, 3) := dc9_180 (by decide +kernel)
theorem d_MM_want_12 : decode y_MM_want.2.1 12 = .ok (.iload_n 2, 1) := dc9_28 (by decide +kernel)
theorem d_MM_want_13 : decode y_MM_want.2.1 13 = .ok (.invokevirtual 152, 3) := dc9_182 (by decide +kernel)
theorem d_MM_want_16 : decode y_MM_want.2.1 16 = .ok (.aload_n 0, 1) := dc9_42 (by decide +kernel)
theorem d_MM_want_17 : decode y_MM_want.2.1 17 = .ok (.getfield 28, 3) := dc9_180 (by decide +kernel)
theorem d_MM_want_20 : decode y_MM_want.2.1 20 = .ok (.iload_n 1, 1) := dc9_27 (by decide +kernel)
theorem d_MM_want_21 : decode y_MM_want.2.1 21 = .ok (.invokevirtual 152, 3) := dc9_182 (by decide +kernel)
theorem d_MM_want_24 : decode y_MM_want.2.1 24 = .ok (.return_, 1) := dc9_177 (by decide +kernel)
theorem k_MM_want {G : mG} {d : Nat} {a0 : Nat} {l1 : Int} {l2 : Int} {l3 : Int} {M : mM} {Q : mM → Prop} (hO : mOk M) (hi_l1 : i32 l1) (hi_l2 : i32 l2) (hi_l3 : i32 l3)
    (h : mK M a0 = 14 ∧ mK M (mR M a0 6) = 15 ∧ Cv G y_MN_add d [vr (mR M a0 6), vi l3] M (fun M3 => mOk M3 ∧ (mK M3 a0 = 14 ∧ mK M3 (mR M3 a0 6) = 15 ∧ Cv G y_MN_add d [vr (mR M3 a0 6), vi l2] M3 (fun M8 => mOk M8 ∧ (mK M8 a0 = 14 ∧ mK M8 (mR M8 a0 6) = 15 ∧ Cv G y_MN_add d [vr (mR M8 a0 6), vi l1] M8 (fun M13 => mOk M13 ∧ (Q M13))))))) :
    Cv G y_MM_want (d + 1) [vr a0, vi l1, vi l2, vi l3] M Q := by
  refine wm_open (y := y_MM_want) rfl (Nat.le_of_ble_eq_true rfl) (L := [vr a0, vi l1, vi l2, vi l3]) rfl ?_
  obtain ⟨h1, h⟩ := h
  obtain ⟨h2, h⟩ := h
  refine wm_aload_n d_MM_want_0 rfl rfl ?_
  refine gf_MM_28 rfl d_MM_want_1 h1 ?_
  refine wm_iload_n d_MM_want_4 rfl rfl ?_
  refine cf_MM_152 rfl d_MM_want_5 h2 (Nat.le_of_ble_eq_true rfl) (Cv.mono h (fun M3 h => ?_))
  obtain ⟨hOM3, h⟩ := h
  obtain ⟨h6, h⟩ := h
  obtain ⟨h7, h⟩ := h
  refine wm_aload_n d_MM_want_8 rfl rfl ?_
  refine gf_MM_28 rfl d_MM_want_9 h6 ?_
  refine wm_iload_n d_MM_want_12 rfl rfl ?_
  refine cf_MM_152 rfl d_MM_want_13 h7 (Nat.le_of_ble_eq_true rfl) (Cv.mono h (fun M8 h => ?_))
  obtain ⟨hOM8, h⟩ := h
  obtain ⟨h11, h⟩ := h
  obtain ⟨h12, h⟩ := h
  refine wm_aload_n d_MM_want_16 rfl rfl ?_
  refine gf_MM_28 rfl d_MM_want_17 h11 ?_
  refine wm_iload_n d_MM_want_20 rfl rfl ?_
  refine cf_MM_152 rfl d_MM_want_21 h12 (Nat.le_of_ble_eq_true rfl) (Cv.mono h (fun M13 h => ?_))
  obtain ⟨hOM13, h⟩ := h
  refine wm_return d_MM_want_24 rfl ?_
  exact ⟨rfl, h⟩
theorem d_MM_level_0 : decode y_MM_level.2.1 0 = .ok (.aload_n 0, 1) := dc9_42 (by decide +kernel)
theorem d_MM_level_1 : decode y_MM_level.2.1 1 = .ok (.aload_n 0, 1) := dc9_42 (by decide +kernel)
theorem d_MM_level_2 : decode y_MM_level.2.1 2 = .ok (.getfield 226, 3) := dc9_180 (by decide +kernel)
theorem d_MM_level_5 : decode y_MM_level.2.1 5 = .ok (.iconst 1, 1) := dc9_4 (by decide +kernel)
theorem d_MM_level_6 : decode y_MM_level.2.1 6 = .ok (.iadd, 1) := dc9_96 (by decide +kernel)
theorem d_MM_level_7 : decode y_MM_level.2.1 7 = .ok (.putfield 226, 3) := dc9_181 (by decide +kernel)
theorem d_MM_level_10 : decode y_MM_level.2.1 10 = .ok (.aload_n 0, 1) := dc9_42 (by decide +kernel)
theorem d_MM_level_11 : decode y_MM_level.2.1 11 = .ok (.getfield 226, 3) := dc9_180 (by decide +kernel)
theorem d_MM_level_14 : decode y_MM_level.2.1 14 = .ok (.bipush 40, 2) := dc9_16 (by decide +kernel)
theorem d_MM_level_16 : decode y_MM_level.2.1 16 = .ok (.if_icmp .gt 7, 3) := dc9_163 (by decide +kernel)
theorem d_MM_level_23 : decode y_MM_level.2.1 23 = .ok (.iconst 0, 1) := dc9_3 (by decide +kernel)
theorem d_MM_level_19 : decode y_MM_level.2.1 19 = .ok (.iconst 1, 1) := dc9_4 (by decide +kernel)
theorem d_MM_level_20 : decode y_MM_level.2.1 20 = .ok (.goto 4, 3) := dc9_167 (by decide +kernel)
theorem d_MM_level_24 : decode y_MM_level.2.1 24 = .ok (.ireturn, 1) := dc9_172 (by decide +kernel)
theorem k_MM_level {G : mG} {d : Nat} {a0 : Nat} {M : mM} {Q : Int → mM → Prop} (hO : mOk M)
    (h : mK M a0 = 14 ∧ i32 ((mI M a0 7) + 1) ∧ ∀ M3, M3 = mUI M a0 7 ((mI M a0 7) + 1) → ∀ v6 : Int, v6 = (if (40 < mI M3 a0 7) then 0 else 1) → Q v6 M3) :
    Ci G y_MM_level d [vr a0] M Q := by
  refine wm_open (y := y_MM_level) rfl (Nat.le_of_ble_eq_true rfl) (L := [vr a0]) rfl ?_
  obtain ⟨h1, h⟩ := h
  obtain ⟨h2, h⟩ := h
  obtain ⟨M3, e4⟩ : ∃ M3, M3 = mUI M a0 7 ((mI M a0 7) + 1) := ⟨_, rfl⟩
  replace h := h M3 e4
  refine wm_aload_n d_MM_level_0 rfl rfl ?_
  refine wm_aload_n d_MM_level_1 rfl rfl ?_
  refine gf_MM_226 rfl d_MM_level_2 h1 ?_
  refine wm_iconst d_MM_level_5 ?_
  refine wm_iadd d_MM_level_6 ?_
  have hOM3 : mOk M3 := by rw [e4]; exact mOk_UI hO h2
  refine pf_MM_226 rfl d_MM_level_7 h1 h2 e4 ?_
  refine wm_aload_n d_MM_level_10 rfl rfl ?_
  refine gf_MM_226 rfl d_MM_level_11 (by rw [e4]; exact h1) ?_
  refine wm_bipush d_MM_level_14 (by decide) ?_
  have hJ : ∀ v6 : Int, v6 = (if (40 < mI M3 a0 7) then 0 else 1) → mWm G y_MM_level d 24 [vd] [vi v6] M3 (fun r9 M9 => ∃ x9, r9 = some (vi x9) ∧ Q x9 M9) := by
    intro v6 e8
    have h := h v6 e8
    have h9 : i32 v6 := by rw [e8]; (repeat' split) <;> first | exact ⟨by decide, by decide⟩ | exact ⟨by decide, by decide⟩
    have h10 : (v6 = 0 ∨ v6 = 1) := by rw [e8]; (repeat' split) <;> decide
    refine wm_ireturn d_MM_level_24 rfl (m_nb h10) ?_
    exact ⟨_, rfl, h⟩
  clear h
  refine wm_icmp_gt (tgt := 23) d_MM_level_16 rfl (hOM3 _ _).1 ⟨by decide, by decide⟩ (fun c5 => ?_) (fun c5 => ?_)
  · refine wm_iconst d_MM_level_23 ?_
    refine wm_less (L' := [vd]) ⟨Or.inl rfl, trivial⟩ ?_
    exact hJ 0 (if_pos c5).symm
  · refine wm_iconst d_MM_level_19 ?_
    refine wm_goto (tgt := 24) d_MM_level_20 rfl ?_
    refine wm_less (L' := [vd]) ⟨Or.inl rfl, trivial⟩ ?_
    exact hJ 1 (if_neg c5).symm
theorem d_MM_isComparison_0 : decode y_MM_isComparison.2.1 0 = .ok (.iload_n 0, 1) := dc9_26 (by decide +kernel)
theorem d_MM_isComparison_1 : decode y_MM_isComparison.2.1 1 = .ok (.bipush 23, 2) := dc9_16 (by decide +kernel)
theorem d_MM_isComparison_3 : decode y_MM_isComparison.2.1 3 = .ok (.if_icmp .eq 33, 3) := dc9_159 (by decide +kernel)
theorem d_MM_isComparison_36 : decode y_MM_isComparison.2.1 36 = .ok (.iconst 1, 1) := dc9_4 (by decide +kernel)
theorem d_MM_isComparison_37 : decode y_MM_isComparison.2.1 37 = .ok (.goto 4, 3) := dc9_167 (by decide +kernel)
theorem d_MM_isComparison_6 : decode y_MM_isComparison.2.1 6 = .ok (.iload_n 0, 1) := dc9_26 (by decide +kernel)
theorem d_MM_isComparison_7 : decode y_MM_isComparison.2.1 7 = .ok (.bipush 18, 2) := dc9_16 (by decide +kernel)
theorem d_MM_isComparison_9 : decode y_MM_isComparison.2.1 9 = .ok (.if_icmp .eq 27, 3) := dc9_159 (by decide +kernel)
theorem d_MM_isComparison_12 : decode y_MM_isComparison.2.1 12 = .ok (.iload_n 0, 1) := dc9_26 (by decide +kernel)
theorem d_MM_isComparison_13 : decode y_MM_isComparison.2.1 13 = .ok (.bipush 21, 2) := dc9_16 (by decide +kernel)
theorem d_MM_isComparison_15 : decode y_MM_isComparison.2.1 15 = .ok (.if_icmp .eq 21, 3) := dc9_159 (by decide +kernel)
theorem d_MM_isComparison_18 : decode y_MM_isComparison.2.1 18 = .ok (.iload_n 0, 1) := dc9_26 (by decide +kernel)
theorem d_MM_isComparison_19 : decode y_MM_isComparison.2.1 19 = .ok (.bipush 19, 2) := dc9_16 (by decide +kernel)
theorem d_MM_isComparison_21 : decode y_MM_isComparison.2.1 21 = .ok (.if_icmp .eq 15, 3) := dc9_159 (by decide +kernel)
theorem d_MM_isComparison_24 : decode y_MM_isComparison.2.1 24 = .ok (.iload_n 0, 1) := dc9_26 (by decide +kernel)
theorem d_MM_isComparison_25 : decode y_MM_isComparison.2.1 25 = .ok (.bipush 22, 2) := dc9_16 (by decide +kernel)
theorem d_MM_isComparison_27 : decode y_MM_isComparison.2.1 27 = .ok (.if_icmp .eq 9, 3) := dc9_159 (by decide +kernel)
theorem d_MM_isComparison_30 : decode y_MM_isComparison.2.1 30 = .ok (.iload_n 0, 1) := dc9_26 (by decide +kernel)
theorem d_MM_isComparison_31 : decode y_MM_isComparison.2.1 31 = .ok (.bipush 20, 2) := dc9_16 (by decide +kernel)
theorem d_MM_isComparison_33 : decode y_MM_isComparison.2.1 33 = .ok (.if_icmp .ne 7, 3) := dc9_160 (by decide +kernel)
theorem d_MM_isComparison_40 : decode y_MM_isComparison.2.1 40 = .ok (.iconst 0, 1) := dc9_3 (by decide +kernel)
theorem d_MM_isComparison_41 : decode y_MM_isComparison.2.1 41 = .ok (.ireturn, 1) := dc9_172 (by decide +kernel)
theorem k_MM_isComparison {G : mG} {d : Nat} {l0 : Int} {M : mM} {Q : Int → mM → Prop} (hO : mOk M) (hi_l0 : i32 l0)
    (h : ∀ v7 : Int, v7 = (if ((l0 = 23) ∨ ((l0 = 18) ∨ ((l0 = 21) ∨ ((l0 = 19) ∨ ((l0 = 22) ∨ (l0 = 20)))))) then 1 else 0) → Q v7 M) :
    Ci G y_MM_isComparison d [vi l0] M Q := by
  refine wm_open (y := y_MM_isComparison) rfl (Nat.le_of_ble_eq_true rfl) (L := [vi l0]) rfl ?_
  refine wm_iload_n d_MM_isComparison_0 rfl rfl ?_
  refine wm_bipush d_MM_isComparison_1 (by decide) ?_
  have hJ : ∀ v7 : Int, v7 = (if ((l0 = 23) ∨ ((l0 = 18) ∨ ((l0 = 21) ∨ ((l0 = 19) ∨ ((l0 = 22) ∨ (l0 = 20)))))) then 1 else 0) → mWm G y_MM_isComparison d 41 [vd] [vi v7] M (fun r9 M9 => ∃ x9, r9 = some (vi x9) ∧ Q x9 M9) := by
    intro v7 e9
    have h := h v7 e9
    have h10 : i32 v7 := by rw [e9]; (repeat' split) <;> first | exact ⟨by decide, by decide⟩ | exact ⟨by decide, by decide⟩
    have h11 : (v7 = 0 ∨ v7 = 1) := by rw [e9]; (repeat' split) <;> decide
    refine wm_ireturn d_MM_isComparison_41 rfl (m_nb h11) ?_
    exact ⟨_, rfl, h⟩
  clear h
  refine wm_icmp_eq (tgt := 36) d_MM_isComparison_3 rfl hi_l0 ⟨by decide, by decide⟩ (fun c1 => ?_) (fun c1 => ?_)
  · refine wm_iconst d_MM_isComparison_36 ?_
    refine wm_goto (tgt := 41) d_MM_isComparison_37 rfl ?_
    refine wm_less (L' := [vd]) ⟨Or.inl rfl, trivial⟩ ?_
    exact hJ 1 (if_pos (Or.inl c1)).symm
  · refine wm_iload_n d_MM_isComparison_6 rfl rfl ?_
    refine wm_bipush d_MM_isComparison_7 (by decide) ?_
    refine wm_icmp_eq (tgt := 36) d_MM_isComparison_9 rfl hi_l0 ⟨by decide, by decide⟩ (fun c2 => ?_) (fun c2 => ?_)
    · refine wm_iconst d_MM_isComparison_36 ?_
      refine wm_goto (tgt := 41) d_MM_isComparison_37 rfl ?_
      refine wm_less (L' := [vd]) ⟨Or.inl rfl, trivial⟩ ?_
      exact hJ 1 (if_pos (Or.inr (Or.inl c2))).symm
    · refine wm_iload_n d_MM_isComparison_12 rfl rfl ?_
      refine wm_bipush d_MM_isComparison_13 (by decide) ?_
      refine wm_icmp_eq (tgt := 36) d_MM_isComparison_15 rfl hi_l0 ⟨by decide, by decide⟩ (fun c3 => ?_) (fun c3 => ?_)
      · refine wm_iconst d_MM_isComparison_36 ?_
        refine wm_goto (tgt := 41) d_MM_isComparison_37 rfl ?_
        refine wm_less (L' := [vd]) ⟨Or.inl rfl, trivial⟩ ?_
        exact hJ 1 (if_pos (Or.inr (Or.inr (Or.inl c3)))).symm
      · refine wm_iload_n d_MM_isComparison_18 rfl rfl ?_
        refine wm_bipush d_MM_isComparison_19 (by decide) ?_
        refine wm_icmp_eq (tgt := 36) d_MM_isComparison_21 rfl hi_l0 ⟨by decide, by decide⟩ (fun c4 => ?_) (fun c4 => ?_)
        · refine wm_iconst d_MM_isComparison_36 ?_
          refine wm_goto (tgt := 41) d_MM_isComparison_37 rfl ?_
          refine wm_less (L' := [vd]) ⟨Or.inl rfl, trivial⟩ ?_
          exact hJ 1 (if_pos (Or.inr (Or.inr (Or.inr (Or.inl c4))))).symm
        · refine wm_iload_n d_MM_isComparison_24 rfl rfl ?_
          refine wm_bipush d_MM_isComparison_25 (by decide) ?_
          refine wm_icmp_eq (tgt := 36) d_MM_isComparison_27 rfl hi_l0 ⟨by decide, by decide⟩ (fun c5 => ?_) (fun c5 => ?_)
          · refine wm_iconst d_MM_isComparison_36 ?_
            refine wm_goto (tgt := 41) d_MM_isComparison_37 rfl ?_
            refine wm_less (L' := [vd]) ⟨Or.inl rfl, trivial⟩ ?_
            exact hJ 1 (if_pos (Or.inr (Or.inr (Or.inr (Or.inr (Or.inl c5)))))).symm
          · refine wm_iload_n d_MM_isComparison_30 rfl rfl ?_
            refine wm_bipush d_MM_isComparison_31 (by decide) ?_
            refine wm_icmp_ne (tgt := 40) d_MM_isComparison_33 rfl hi_l0 ⟨by decide, by decide⟩ (fun c6 => ?_) (fun c6 => ?_)
            · refine wm_iconst d_MM_isComparison_40 ?_
              refine wm_less (L' := [vd]) ⟨Or.inl rfl, trivial⟩ ?_
              exact hJ 0 (if_neg (fun z12 => Or.elim z12 c1 (fun z13 => Or.elim z13 c2 (fun z14 => Or.elim z14 c3 (fun z15 => Or.elim z15 c4 (fun z16 => Or.elim z16 c5 c6)))))).symm
            · replace c6 := Classical.not_not.mp c6
              refine wm_iconst d_MM_isComparison_36 ?_
              refine wm_goto (tgt := 41) d_MM_isComparison_37 rfl ?_
              refine wm_less (L' := [vd]) ⟨Or.inl rfl, trivial⟩ ?_
              exact hJ 1 (if_pos (Or.inr (Or.inr (Or.inr (Or.inr (Or.inr c6)))))).symm
theorem d_MM_readText_0 : decode y_MM_readText.2.1 0 = .ok (.aload_n 0, 1) := dc9_42 (by decide +kernel)
theorem d_MM_readText_1 : decode y_MM_readText.2.1 1 = .ok (.getfield 28, 3) := dc9_180 (by decide +kernel)
theorem d_MM_readText_4 : decode y_MM_readText.2.1 4 = .ok (.iconst 0, 1) := dc9_3 (by decide +kernel)
theorem d_MM_readText_5 : decode y_MM_readText.2.1 5 = .ok (.putfield 145, 3) := dc9_181 (by decide +kernel)
theorem d_MM_readText_8 : decode y_MM_readText.2.1 8 = .ok (.aload_n 0, 1) := dc9_42 (by decide +kernel)
theorem d_MM_readText_9 : decode y_MM_readText.2.1 9 = .ok (.iconst 0, 1) := dc9_3 (by decide +kernel)
theorem d_MM_readText_10 : decode y_MM_readText.2.1 10 = .ok (.putfield 226, 3) := dc9_181 (by decide +kernel)
theorem d_MM_readText_13 : decode y_MM_readText.2.1 13 = .ok (.aload_n 0, 1) := dc9_42 (by decide +kernel)
theorem d_MM_readText_14 : decode y_MM_readText.2.1 14 = .ok (.iconst (-1), 1) := dc9_2 (by decide +kernel)
theorem d_MM_readText_15 : decode y_MM_readText.2.1 15 = .ok (.putfield 229, 3) := dc9_181 (by decide +kernel)
theorem d_MM_readText_18 : decode y_MM_readText.2.1 18 = .ok (.aload_n 0, 1) := dc9_42 (by decide +kernel)
theorem d_MM_readText_19 : decode y_MM_readText.2.1 19 = .ok (.getfield 28, 3) := dc9_180 (by decide +kernel)
theorem d_MM_readText_22 : decode y_MM_readText.2.1 22 = .ok (.bipush 50, 2) := dc9_16 (by decide +kernel)
theorem d_MM_readText_24 : decode y_MM_readText.2.1 24 = .ok (.invokevirtual 152, 3) := dc9_182 (by decide +kernel)
theorem d_MM_readText_27 : decode y_MM_readText.2.1 27 = .ok (.iconst 0, 1) := dc9_3 (by decide +kernel)
theorem d_MM_readText_28 : decode y_MM_readText.2.1 28 = .ok (.istore_n 1, 1) := dc9_60 (by decide +kernel)
theorem d_MM_readText_29 : decode y_MM_readText.2.1 29 = .ok (.aload_n 0, 1) := dc9_42 (by decide +kernel)
theorem d_MM_readText_30 : decode y_MM_readText.2.1 30 = .ok (.getfield 229, 3) := dc9_180 (by decide +kernel)
theorem d_MM_readText_33 : decode y_MM_readText.2.1 33 = .ok (.ifCond .ge 128, 3) := dc9_156 (by decide +kernel)
theorem d_MM_readText_36 : decode y_MM_readText.2.1 36 = .ok (.aload_n 0, 1) := dc9_42 (by decide +kernel)
theorem d_MM_readText_37 : decode y_MM_readText.2.1 37 = .ok (.getfield 28, 3) := dc9_180 (by decide +kernel)
theorem d_MM_readText_40 : decode y_MM_readText.2.1 40 = .ok (.getfield 145, 3) := dc9_180 (by decide +kernel)
theorem d_MM_readText_43 : decode y_MM_readText.2.1 43 = .ok (.ifCond .le 118, 3) := dc9_158 (by decide +kernel)
theorem d_MM_readText_46 : decode y_MM_readText.2.1 46 = .ok (.aload_n 0, 1) := dc9_42 (by decide +kernel)
theorem d_MM_readText_47 : decode y_MM_readText.2.1 47 = .ok (.getfield 28, 3) := dc9_180 (by decide +kernel)
theorem d_MM_readText_161 : decode y_MM_readText.2.1 161 = .ok (.aload_n 0, 1) := dc9_42 (by decide +kernel)
theorem d_MM_readText_162 : decode y_MM_readText.2.1 162 = .ok (.getfield 229, 3) := dc9_180 (by decide +kernel)
theorem d_MM_readText_165 : decode y_MM_readText.2.1 165 = .ok (.ifCond .ge 7, 3) := dc9_156 (by decide +kernel)
theorem d_MM_readText_172 : decode y_MM_readText.2.1 172 = .ok (.iconst 0, 1) := dc9_3 (by decide +kernel)
theorem d_MM_readText_168 : decode y_MM_readText.2.1 168 = .ok (.iconst 1, 1) := dc9_4 (by decide +kernel)
theorem d_MM_readText_169 : decode y_MM_readText.2.1 169 = .ok (.goto 4, 3) := dc9_167 (by decide +kernel)
theorem d_MM_readText_173 : decode y_MM_readText.2.1 173 = .ok (.ireturn, 1) := dc9_172 (by decide +kernel)
theorem d_MM_readText_50 : decode y_MM_readText.2.1 50 = .ok (.invokevirtual 232, 3) := dc9_182 (by decide +kernel)
theorem d_MM_readText_53 : decode y_MM_readText.2.1 53 = .ok (.istore_n 2, 1) := dc9_61 (by decide +kernel)
theorem d_MM_readText_54 : decode y_MM_readText.2.1 54 = .ok (.aload_n 0, 1) := dc9_42 (by decide +kernel)
theorem d_MM_readText_55 : decode y_MM_readText.2.1 55 = .ok (.getfield 19, 3) := dc9_180 (by decide +kernel)
theorem d_MM_readText_58 : decode y_MM_readText.2.1 58 = .ok (.iload_n 1, 1) := dc9_27 (by decide +kernel)
theorem d_MM_readText_59 : decode y_MM_readText.2.1 59 = .ok (.invokevirtual 155, 3) := dc9_182 (by decide +kernel)
theorem d_MM_readText_62 : decode y_MM_readText.2.1 62 = .ok (.istore_n 3, 1) := dc9_62 (by decide +kernel)
theorem d_MM_readText_63 : decode y_MM_readText.2.1 63 = .ok (.iload_n 2, 1) := dc9_28 (by decide +kernel)
theorem d_MM_readText_64 : decode y_MM_readText.2.1 64 = .ok (.bipush 75, 2) := dc9_16 (by decide +kernel)
theorem d_MM_readText_66 : decode y_MM_readText.2.1 66 = .ok (.if_icmp .ne 16, 3) := dc9_160 (by decide +kernel)
theorem d_MM_readText_69 : decode y_MM_readText.2.1 69 = .ok (.aload_n 0, 1) := dc9_42 (by decide +kernel)
theorem d_MM_readText_70 : decode y_MM_readText.2.1 70 = .ok (.aload_n 0, 1) := dc9_42 (by decide +kernel)
theorem d_MM_readText_71 : decode y_MM_readText.2.1 71 = .ok (.getfield 226, 3) := dc9_180 (by decide +kernel)
theorem d_MM_readText_74 : decode y_MM_readText.2.1 74 = .ok (.iconst 1, 1) := dc9_4 (by decide +kernel)
theorem d_MM_readText_75 : decode y_MM_readText.2.1 75 = .ok (.isub, 1) := dc9_100 (by decide +kernel)
theorem d_MM_readText_76 : decode y_MM_readText.2.1 76 = .ok (.putfield 226, 3) := dc9_181 (by decide +kernel)
theorem d_MM_readText_79 : decode y_MM_readText.2.1 79 = .ok (.goto 79, 3) := dc9_167 (by decide +kernel)
theorem d_MM_readText_158 : decode y_MM_readText.2.1 158 = .ok (.goto (-129), 3) := dc9_167 (by decide +kernel)
theorem d_MM_readText_82 : decode y_MM_readText.2.1 82 = .ok (.iload_n 2, 1) := dc9_28 (by decide +kernel)
theorem d_MM_readText_83 : decode y_MM_readText.2.1 83 = .ok (.bipush 50, 2) := dc9_16 (by decide +kernel)
theorem d_MM_readText_85 : decode y_MM_readText.2.1 85 = .ok (.if_icmp .ge 23, 3) := dc9_162 (by decide +kernel)
theorem d_MM_readText_108 : decode y_MM_readText.2.1 108 = .ok (.iload_n 2, 1) := dc9_28 (by decide +kernel)
theorem d_MM_readText_109 : decode y_MM_readText.2.1 109 = .ok (.bipush 61, 2) := dc9_16 (by decide +kernel)
theorem d_MM_readText_88 : decode y_MM_readText.2.1 88 = .ok (.aload_n 0, 1) := dc9_42 (by decide +kernel)
theorem d_MM_readText_89 : decode y_MM_readText.2.1 89 = .ok (.iload_n 2, 1) := dc9_28 (by decide +kernel)
theorem d_MM_readText_90 : decode y_MM_readText.2.1 90 = .ok (.iload_n 3, 1) := dc9_29 (by decide +kernel)
theorem d_MM_readText_111 : decode y_MM_readText.2.1 111 = .ok (.if_icmp .ge 12, 3) := dc9_162 (by decide +kernel)
theorem d_MM_readText_123 : decode y_MM_readText.2.1 123 = .ok (.aload_n 0, 1) := dc9_42 (by decide +kernel)
theorem d_MM_readText_124 : decode y_MM_readText.2.1 124 = .ok (.iload_n 2, 1) := dc9_28 (by decide +kernel)
theorem d_MM_readText_125 : decode y_MM_readText.2.1 125 = .ok (.iload_n 3, 1) := dc9_29 (by decide +kernel)
theorem d_MM_readText_114 : decode y_MM_readText.2.1 114 = .ok (.aload_n 0, 1) := dc9_42 (by decide +kernel)
theorem d_MM_readText_115 : decode y_MM_readText.2.1 115 = .ok (.iload_n 2, 1) := dc9_28 (by decide +kernel)
theorem d_MM_readText_116 : decode y_MM_readText.2.1 116 = .ok (.iload_n 3, 1) := dc9_29 (by decide +kernel)
theorem d_MM_readText_126 : decode y_MM_readText.2.1 126 = .ok (.invokevirtual 238, 3) := dc9_182 (by decide +kernel)
theorem d_MM_readText_117 : decode y_MM_readText.2.1 117 = .ok (.invokevirtual 235, 3) := dc9_182 (by decide +kernel)
theorem d_MM_readText_120 : decode y_MM_readText.2.1 120 = .ok (.goto 9, 3) := dc9_167 (by decide +kernel)
theorem d_MM_readText_91 : decode y_MM_readText.2.1 91 = .ok (.if_icmp .ne 7, 3) := dc9_160 (by decide +kernel)
theorem d_MM_readText_94 : decode y_MM_readText.2.1 94 = .ok (.iconst (-1), 1) := dc9_2 (by decide +kernel)
theorem d_MM_readText_95 : decode y_MM_readText.2.1 95 = .ok (.goto 4, 3) := dc9_167 (by decide +kernel)
theorem d_MM_readText_98 : decode y_MM_readText.2.1 98 = .ok (.iload_n 1, 1) := dc9_27 (by decide +kernel)
theorem d_MM_readText_99 : decode y_MM_readText.2.1 99 = .ok (.putfield 229, 3) := dc9_181 (by decide +kernel)
theorem d_MM_readText_102 : decode y_MM_readText.2.1 102 = .ok (.iinc 1 1, 3) := by decide +kernel
theorem d_MM_readText_105 : decode y_MM_readText.2.1 105 = .ok (.goto 53, 3) := dc9_167 (by decide +kernel)
theorem d_MM_readText_129 : decode y_MM_readText.2.1 129 = .ok (.istore 4, 2) := dc9_54 (by decide +kernel)
theorem d_MM_readText_131 : decode y_MM_readText.2.1 131 = .ok (.aload_n 0, 1) := dc9_42 (by decide +kernel)
theorem d_MM_readText_132 : decode y_MM_readText.2.1 132 = .ok (.iload 4, 2) := dc9_21 (by decide +kernel)
theorem d_MM_readText_134 : decode y_MM_readText.2.1 134 = .ok (.ifCond .ge 7, 3) := dc9_156 (by decide +kernel)
theorem d_MM_readText_141 : decode y_MM_readText.2.1 141 = .ok (.iconst (-1), 1) := dc9_2 (by decide +kernel)
theorem d_MM_readText_137 : decode y_MM_readText.2.1 137 = .ok (.iload_n 1, 1) := dc9_27 (by decide +kernel)
theorem d_MM_readText_138 : decode y_MM_readText.2.1 138 = .ok (.goto 4, 3) := dc9_167 (by decide +kernel)
theorem d_MM_readText_142 : decode y_MM_readText.2.1 142 = .ok (.putfield 229, 3) := dc9_181 (by decide +kernel)
theorem d_MM_readText_145 : decode y_MM_readText.2.1 145 = .ok (.iload 4, 2) := dc9_21 (by decide +kernel)
theorem d_MM_readText_147 : decode y_MM_readText.2.1 147 = .ok (.ifCond .le 9, 3) := dc9_158 (by decide +kernel)
theorem d_MM_readText_156 : decode y_MM_readText.2.1 156 = .ok (.iload_n 1, 1) := dc9_27 (by decide +kernel)
theorem d_MM_readText_150 : decode y_MM_readText.2.1 150 = .ok (.iload_n 1, 1) := dc9_27 (by decide +kernel)
theorem d_MM_readText_151 : decode y_MM_readText.2.1 151 = .ok (.iconst 1, 1) := dc9_4 (by decide +kernel)
theorem d_MM_readText_152 : decode y_MM_readText.2.1 152 = .ok (.iadd, 1) := dc9_96 (by decide +kernel)
theorem d_MM_readText_153 : decode y_MM_readText.2.1 153 = .ok (.goto 4, 3) := dc9_167 (by decide +kernel)
theorem d_MM_readText_157 : decode y_MM_readText.2.1 157 = .ok (.istore_n 1, 1) := dc9_60 (by decide +kernel)
def h_MM_readText_29 (G : mG) (d : Nat) (a0 : Nat) (l1 : Int) (M : mM) (Q : Int → mM → Prop) : Prop := mWm G y_MM_readText (d + 1) 29 [vr a0, vi l1, vd, vd, vd] [] M (fun r9 M9 => ∃ x9, r9 = some (vi x9) ∧ Q x9 M9)
def h_MM_readText_129 (G : mG) (d : Nat) (a0 : Nat) (l1 : Int) (k0 : Int) (M : mM) (Q : Int → mM → Prop) : Prop := mWm G y_MM_readText (d + 1) 129 [vr a0, vi l1, vd, vd, vd] [vi k0] M (fun r9 M9 => ∃ x9, r9 = some (vi x9) ∧ Q x9 M9)
theorem k_MM_readText {G : mG} {d : Nat} {a0 : Nat} {M : mM} {Q : Int → mM → Prop} (hO : mOk M)
    (h : mK M a0 = 14 ∧ mK M (mR M a0 6) = 15 ∧ ∀ M3, M3 = mUI M (mR M a0 6) 1 0 → ∀ M5, M5 = mUI M3 a0 7 0 → ∀ M7, M7 = mUI M5 a0 8 (-1) → mK M7 (mR M7 a0 6) = 15 ∧ Cv G y_MN_add d [vr (mR M7 a0 6), vi 50] M7 (fun M10 => mOk M10 ∧ (h_MM_readText_29 G d a0 0 M10 Q))) :
    Ci G y_MM_readText (d + 1) [vr a0] M Q := by
  refine wm_open (y := y_MM_readText) rfl (Nat.le_of_ble_eq_true rfl) (L := [vr a0, vd, vd, vd, vd]) rfl ?_
  obtain ⟨h1, h⟩ := h
  obtain ⟨h2, h⟩ := h
  obtain ⟨M3, e4⟩ : ∃ M3, M3 = mUI M (mR M a0 6) 1 0 := ⟨_, rfl⟩
  replace h := h M3 e4
  obtain ⟨M5, e6⟩ : ∃ M5, M5 = mUI M3 a0 7 0 := ⟨_, rfl⟩
  replace h := h M5 e6
  obtain ⟨M7, e8⟩ : ∃ M7, M7 = mUI M5 a0 8 (-1) := ⟨_, rfl⟩
  replace h := h M7 e8
  obtain ⟨h9, h⟩ := h
  refine wm_aload_n d_MM_readText_0 rfl rfl ?_
  refine gf_MM_28 rfl d_MM_readText_1 h1 ?_
  refine wm_iconst d_MM_readText_4 ?_
  have hOM3 : mOk M3 := by rw [e4]; exact mOk_UI hO ⟨by decide, by decide⟩
  refine pf_MM_145 rfl d_MM_readText_5 h2 ⟨by decide, by decide⟩ e4 ?_
  refine wm_aload_n d_MM_readText_8 rfl rfl ?_
  refine wm_iconst d_MM_readText_9 ?_
  have hOM5 : mOk M5 := by rw [e6]; exact mOk_UI hOM3 ⟨by decide, by decide⟩
  refine pf_MM_226 rfl d_MM_readText_10 (by rw [e4]; exact h1) ⟨by decide, by decide⟩ e6 ?_
  refine wm_aload_n d_MM_readText_13 rfl rfl ?_
  refine wm_iconst d_MM_readText_14 ?_
  have hOM7 : mOk M7 := by rw [e8]; exact mOk_UI hOM5 ⟨by decide, by decide⟩
  refine pf_MM_229 rfl d_MM_readText_15 (by rw [e6, e4]; exact h1) ⟨by decide, by decide⟩ e8 ?_
  refine wm_aload_n d_MM_readText_18 rfl rfl ?_
  refine gf_MM_28 rfl d_MM_readText_19 (by rw [e8, e6, e4]; exact h1) ?_
  refine wm_bipush d_MM_readText_22 (by decide) ?_
  refine cf_MM_152 rfl d_MM_readText_24 h9 (Nat.le_of_ble_eq_true rfl) (Cv.mono h (fun M10 h => ?_))
  obtain ⟨hOM10, h⟩ := h
  refine wm_iconst d_MM_readText_27 ?_
  refine wm_istore_n d_MM_readText_28 rfl (by decide) (L' := [vr a0, vi 0, vd, vd, vd]) rfl ?_
  exact h
theorem k_MM_readText_29 {G : mG} {d : Nat} {a0 : Nat} {l1 : Int} {M : mM} {Q : Int → mM → Prop} (hO : mOk M) (hi_l1 : i32 l1)
    (h : mK M a0 = 14 ∧ (¬ (0 ≤ mI M a0 8) → mK M (mR M a0 6) = 15) ∧ (((0 ≤ mI M a0 8) ∨ (mI M (mR M a0 6) 1 ≤ 0)) → (∀ v20 : Int, v20 = (if (0 ≤ mI M a0 8) then 0 else 1) → Q v20 M)) ∧ (¬ ((0 ≤ mI M a0 8) ∨ (mI M (mR M a0 6) 1 ≤ 0)) → (mK M (mR M a0 6) = 15 ∧ Ci G y_MN_take d [vr (mR M a0 6)] M (fun x29 M28 => i32 x29 ∧ mOk M28 ∧ (mK M28 a0 = 14 ∧ mK M28 (mR M28 a0 3) = 15 ∧ Ci G y_MN_at d [vr (mR M28 a0 3), vi l1] M28 (fun x34 M33 => i32 x34 ∧ mOk M33 ∧ (((x29 = 75) → (mK M33 a0 = 14 ∧ i32 ((mI M33 a0 7) - 1) ∧ ∀ M44, M44 = mUI M33 a0 7 ((mI M33 a0 7) - 1) → h_MM_readText_29 G d a0 l1 M44 Q)) ∧ (¬ (x29 = 75) → (((50 ≤ x29) → (((61 ≤ x29) → (mK M33 a0 = 14 ∧ Ci G y_MM_rule0 d [vr a0, vi x29, vi x34] M33 (fun x53 M52 => i32 x53 ∧ mOk M52 ∧ (h_MM_readText_129 G d a0 l1 x53 M52 Q)))) ∧ (¬ (61 ≤ x29) → (mK M33 a0 = 14 ∧ Ci G y_MM_item d [vr a0, vi x29, vi x34] M33 (fun x57 M56 => i32 x57 ∧ mOk M56 ∧ (h_MM_readText_129 G d a0 l1 x57 M56 Q)))))) ∧ (¬ (50 ≤ x29) → (∀ v60 : Int, v60 = (if (x29 = x34) then (-1) else l1) → mK M33 a0 = 14 ∧ ∀ M65, M65 = mUI M33 a0 8 v60 → h_MM_readText_29 G d a0 (l1 + 1) M65 Q))))))))))) :
    h_MM_readText_29 G d a0 l1 M Q := by
  unfold h_MM_readText_29
  obtain ⟨h13, h⟩ := h
  refine wm_aload_n d_MM_readText_29 rfl rfl ?_
  refine gf_MM_229 rfl d_MM_readText_30 h13 ?_
  obtain ⟨s17, h⟩ := h
  have hE0 : ((0 ≤ mI M a0 8) ∨ (mI M (mR M a0 6) 1 ≤ 0)) → mWm G y_MM_readText (d + 1) 161 [vr a0, vi l1, vd, vd, vd] [] M (fun r9 M9 => ∃ x9, r9 = some (vi x9) ∧ Q x9 M9) := by
    intro q18
    have h := h.1 q18
    refine wm_aload_n d_MM_readText_161 rfl rfl ?_
    refine gf_MM_229 rfl d_MM_readText_162 h13 ?_
    have hJ : ∀ v20 : Int, v20 = (if (0 ≤ mI M a0 8) then 0 else 1) → mWm G y_MM_readText (d + 1) 173 [vd, vd, vd, vd, vd] [vi v20] M (fun r9 M9 => ∃ x9, r9 = some (vi x9) ∧ Q x9 M9) := by
      intro v20 e22
      have h := h v20 e22
      have h23 : i32 v20 := by rw [e22]; (repeat' split) <;> first | exact ⟨by decide, by decide⟩ | exact ⟨by decide, by decide⟩
      have h24 : (v20 = 0 ∨ v20 = 1) := by rw [e22]; (repeat' split) <;> decide
      refine wm_ireturn d_MM_readText_173 rfl (m_nb h24) ?_
      exact ⟨_, rfl, h⟩
    clear h
    refine wm_if_ge (tgt := 172) d_MM_readText_165 rfl (hO _ _).1 (fun c19 => ?_) (fun c19 => ?_)
    · refine wm_iconst d_MM_readText_172 ?_
      refine wm_less (L' := [vd, vd, vd, vd, vd]) ⟨Or.inl rfl, Or.inl rfl, Or.inl rfl, Or.inl rfl, Or.inl rfl, trivial⟩ ?_
      exact hJ 0 (if_pos c19).symm
    · refine wm_iconst d_MM_readText_168 ?_
      refine wm_goto (tgt := 173) d_MM_readText_169 rfl ?_
      refine wm_less (L' := [vd, vd, vd, vd, vd]) ⟨Or.inl rfl, Or.inl rfl, Or.inl rfl, Or.inl rfl, Or.inl rfl, trivial⟩ ?_
      exact hJ 1 (if_neg c19).symm
  have hE1 : ¬ ((0 ≤ mI M a0 8) ∨ (mI M (mR M a0 6) 1 ≤ 0)) → mWm G y_MM_readText (d + 1) 46 [vr a0, vi l1, vd, vd, vd] [] M (fun r9 M9 => ∃ x9, r9 = some (vi x9) ∧ Q x9 M9) := by
    intro q26
    have h := h.2 q26
    obtain ⟨h27, h⟩ := h
    refine wm_aload_n d_MM_readText_46 rfl rfl ?_
    refine gf_MM_28 rfl d_MM_readText_47 h13 ?_
    refine cf_MM_232 rfl d_MM_readText_50 h27 (Nat.le_of_ble_eq_true rfl) (Ci.mono h (fun x29 M28 h => ?_))
    obtain ⟨h30, hOM28, h⟩ := h
    obtain ⟨h31, h⟩ := h
    obtain ⟨h32, h⟩ := h
    refine wm_istore_n d_MM_readText_53 rfl (by decide) (L' := [vr a0, vi l1, vi x29, vd, vd]) rfl ?_
    refine wm_aload_n d_MM_readText_54 rfl rfl ?_
    refine gf_MM_19 rfl d_MM_readText_55 h31 ?_
    refine wm_iload_n d_MM_readText_58 rfl rfl ?_
    refine cf_MM_155 rfl d_MM_readText_59 h32 (Nat.le_of_ble_eq_true rfl) (Ci.mono h (fun x34 M33 h => ?_))
    obtain ⟨h35, hOM33, h⟩ := h
    refine wm_istore_n d_MM_readText_62 rfl (by decide) (L' := [vr a0, vi l1, vi x29, vi x34, vd]) rfl ?_
    refine wm_iload_n d_MM_readText_63 rfl rfl ?_
    refine wm_bipush d_MM_readText_64 (by decide) ?_
    refine wm_icmp_ne (tgt := 82) d_MM_readText_66 rfl h30 ⟨by decide, by decide⟩ (fun c41 => ?_) (fun c41 => ?_)
    · replace h := h.2 c41
      refine wm_iload_n d_MM_readText_82 rfl rfl ?_
      refine wm_bipush d_MM_readText_83 (by decide) ?_
      refine wm_icmp_ge (tgt := 108) d_MM_readText_85 rfl h30 ⟨by decide, by decide⟩ (fun c48 => ?_) (fun c48 => ?_)
      · replace h := h.1 c48
        refine wm_iload_n d_MM_readText_108 rfl rfl ?_
        refine wm_bipush d_MM_readText_109 (by decide) ?_
        refine wm_icmp_ge (tgt := 123) d_MM_readText_111 rfl h30 ⟨by decide, by decide⟩ (fun c50 => ?_) (fun c50 => ?_)
        · replace h := h.1 c50
          obtain ⟨h51, h⟩ := h
          refine wm_aload_n d_MM_readText_123 rfl rfl ?_
          refine wm_iload_n d_MM_readText_124 rfl rfl ?_
          refine wm_iload_n d_MM_readText_125 rfl rfl ?_
          refine cf_MM_238 rfl d_MM_readText_126 h51 (Nat.le_of_ble_eq_true rfl) (Ci.mono h (fun x53 M52 h => ?_))
          obtain ⟨h54, hOM52, h⟩ := h
          refine wm_less (L' := [vr a0, vi l1, vd, vd, vd]) ⟨Or.inr rfl, Or.inr rfl, Or.inl rfl, Or.inl rfl, Or.inl rfl, trivial⟩ ?_
          exact h
        · replace h := h.2 c50
          obtain ⟨h55, h⟩ := h
          refine wm_aload_n d_MM_readText_114 rfl rfl ?_
          refine wm_iload_n d_MM_readText_115 rfl rfl ?_
          refine wm_iload_n d_MM_readText_116 rfl rfl ?_
          refine cf_MM_235 rfl d_MM_readText_117 h55 (Nat.le_of_ble_eq_true rfl) (Ci.mono h (fun x57 M56 h => ?_))
          obtain ⟨h58, hOM56, h⟩ := h
          refine wm_goto (tgt := 129) d_MM_readText_120 rfl ?_
          refine wm_less (L' := [vr a0, vi l1, vd, vd, vd]) ⟨Or.inr rfl, Or.inr rfl, Or.inl rfl, Or.inl rfl, Or.inl rfl, trivial⟩ ?_
          exact h
      · replace h := h.2 c48
        refine wm_aload_n d_MM_readText_88 rfl rfl ?_
        refine wm_iload_n d_MM_readText_89 rfl rfl ?_
        refine wm_iload_n d_MM_readText_90 rfl rfl ?_
        have hJ : ∀ v60 : Int, v60 = (if (x29 = x34) then (-1) else l1) → mWm G y_MM_readText (d + 1) 99 [vr a0, vi l1, vd, vd, vd] [vi v60, vr a0] M33 (fun r9 M9 => ∃ x9, r9 = some (vi x9) ∧ Q x9 M9) := by
          intro v60 e62
          have h := h v60 e62
          have h63 : i32 v60 := by rw [e62]; (repeat' split) <;> first | exact ⟨by decide, by decide⟩ | exact hi_l1
          obtain ⟨h64, h⟩ := h
          obtain ⟨M65, e66⟩ : ∃ M65, M65 = mUI M33 a0 8 v60 := ⟨_, rfl⟩
          replace h := h M65 e66
          have hOM65 : mOk M65 := by rw [e66]; exact mOk_UI hOM33 h63
          refine pf_MM_229 rfl d_MM_readText_99 h64 h63 e66 ?_
          refine wm_iinc d_MM_readText_102 (by decide) rfl (L' := [vr a0, vi (l1 + 1), vd, vd, vd]) rfl ?_
          refine wm_goto (tgt := 158) d_MM_readText_105 rfl ?_
          refine wm_goto (tgt := 29) d_MM_readText_158 rfl ?_
          exact h
        clear h
        refine wm_icmp_ne (tgt := 98) d_MM_readText_91 rfl h30 h35 (fun c59 => ?_) (fun c59 => ?_)
        · refine wm_iload_n d_MM_readText_98 rfl rfl ?_
          refine wm_less (L' := [vr a0, vi l1, vd, vd, vd]) ⟨Or.inr rfl, Or.inr rfl, Or.inl rfl, Or.inl rfl, Or.inl rfl, trivial⟩ ?_
          exact hJ l1 (if_neg c59).symm
        · replace c59 := Classical.not_not.mp c59
          refine wm_iconst d_MM_readText_94 ?_
          refine wm_goto (tgt := 99) d_MM_readText_95 rfl ?_
          refine wm_less (L' := [vr a0, vi l1, vd, vd, vd]) ⟨Or.inr rfl, Or.inr rfl, Or.inl rfl, Or.inl rfl, Or.inl rfl, trivial⟩ ?_
          exact hJ (-1) (if_pos c59).symm
    · replace c41 := Classical.not_not.mp c41
      replace h := h.1 c41
      obtain ⟨h42, h⟩ := h
      obtain ⟨h43, h⟩ := h
      obtain ⟨M44, e45⟩ : ∃ M44, M44 = mUI M33 a0 7 ((mI M33 a0 7) - 1) := ⟨_, rfl⟩
      replace h := h M44 e45
      refine wm_aload_n d_MM_readText_69 rfl rfl ?_
      refine wm_aload_n d_MM_readText_70 rfl rfl ?_
      refine gf_MM_226 rfl d_MM_readText_71 h42 ?_
      refine wm_iconst d_MM_readText_74 ?_
      refine wm_isub d_MM_readText_75 ?_
      have hOM44 : mOk M44 := by rw [e45]; exact mOk_UI hOM33 h43
      refine pf_MM_226 rfl d_MM_readText_76 h42 h43 e45 ?_
      refine wm_goto (tgt := 158) d_MM_readText_79 rfl ?_
      refine wm_goto (tgt := 29) d_MM_readText_158 rfl ?_
      refine wm_less (L' := [vr a0, vi l1, vd, vd, vd]) ⟨Or.inr rfl, Or.inr rfl, Or.inl rfl, Or.inl rfl, Or.inl rfl, trivial⟩ ?_
      exact h
  clear h
  have s68 := s17
  refine wm_if_ge (tgt := 161) d_MM_readText_33 rfl (hO _ _).1 (fun c16 => ?_) (fun c16 => ?_)
  · exact hE0 (Or.inl c16)
  · have s68 := s68 c16
    have h14 := s68
    refine wm_aload_n d_MM_readText_36 rfl rfl ?_
    refine gf_MM_28 rfl d_MM_readText_37 h13 ?_
    refine gf_MM_145 rfl d_MM_readText_40 h14 ?_
    refine wm_if_le (tgt := 161) d_MM_readText_43 rfl (hO _ _).1 (fun c15 => ?_) (fun c15 => ?_)
    · exact hE0 (Or.inr c15)
    · exact hE1 (fun z69 => Or.elim z69 c16 c15)
theorem k_MM_readText_129 {G : mG} {d : Nat} {a0 : Nat} {l1 : Int} {k0 : Int} {M : mM} {Q : Int → mM → Prop} (hO : mOk M) (hi_l1 : i32 l1) (hi_k0 : i32 k0)
    (h : ∀ v72 : Int, v72 = (if (0 ≤ k0) then (-1) else l1) → mK M a0 = 14 ∧ ∀ M77, M77 = mUI M a0 8 v72 → ∀ v80 : Int, v80 = (if (k0 ≤ 0) then l1 else l1 + 1) → h_MM_readText_29 G d a0 v80 M77 Q) :
    h_MM_readText_129 G d a0 l1 k0 M Q := by
  unfold h_MM_readText_129
  refine wm_istore d_MM_readText_129 (by decide) (L' := [vr a0, vi l1, vd, vd, vi k0]) rfl ?_
  refine wm_aload_n d_MM_readText_131 rfl rfl ?_
  refine wm_iload d_MM_readText_132 rfl ?_
  have hJ : ∀ v72 : Int, v72 = (if (0 ≤ k0) then (-1) else l1) → mWm G y_MM_readText (d + 1) 142 [vr a0, vi l1, vd, vd, vi k0] [vi v72, vr a0] M (fun r9 M9 => ∃ x9, r9 = some (vi x9) ∧ Q x9 M9) := by
    intro v72 e74
    have h := h v72 e74
    have h75 : i32 v72 := by rw [e74]; (repeat' split) <;> first | exact ⟨by decide, by decide⟩ | exact hi_l1
    obtain ⟨h76, h⟩ := h
    obtain ⟨M77, e78⟩ : ∃ M77, M77 = mUI M a0 8 v72 := ⟨_, rfl⟩
    replace h := h M77 e78
    have hOM77 : mOk M77 := by rw [e78]; exact mOk_UI hO h75
    refine pf_MM_229 rfl d_MM_readText_142 h76 h75 e78 ?_
    refine wm_iload d_MM_readText_145 rfl ?_
    have hJ : ∀ v80 : Int, v80 = (if (k0 ≤ 0) then l1 else l1 + 1) → mWm G y_MM_readText (d + 1) 157 [vr a0, vd, vd, vd, vd] [vi v80] M77 (fun r9 M9 => ∃ x9, r9 = some (vi x9) ∧ Q x9 M9) := by
      intro v80 e82
      have h := h v80 e82
      refine wm_istore_n d_MM_readText_157 rfl (by decide) (L' := [vr a0, vi v80, vd, vd, vd]) rfl ?_
      refine wm_goto (tgt := 29) d_MM_readText_158 rfl ?_
      exact h
    clear h
    refine wm_if_le (tgt := 156) d_MM_readText_147 rfl hi_k0 (fun c79 => ?_) (fun c79 => ?_)
    · refine wm_iload_n d_MM_readText_156 rfl rfl ?_
      refine wm_less (L' := [vr a0, vd, vd, vd, vd]) ⟨Or.inr rfl, Or.inl rfl, Or.inl rfl, Or.inl rfl, Or.inl rfl, trivial⟩ ?_
      exact hJ l1 (if_pos c79).symm
    · refine wm_iload_n d_MM_readText_150 rfl rfl ?_
      refine wm_iconst d_MM_readText_151 ?_
      refine wm_iadd d_MM_readText_152 ?_
      refine wm_goto (tgt := 157) d_MM_readText_153 rfl ?_
      refine wm_less (L' := [vr a0, vd, vd, vd, vd]) ⟨Or.inr rfl, Or.inl rfl, Or.inl rfl, Or.inl rfl, Or.inl rfl, trivial⟩ ?_
      exact hJ (l1 + 1) (if_neg c79).symm
  clear h
  refine wm_if_ge (tgt := 141) d_MM_readText_134 rfl hi_k0 (fun c71 => ?_) (fun c71 => ?_)
  · refine wm_iconst d_MM_readText_141 ?_
    exact hJ (-1) (if_pos c71).symm
  · refine wm_iload_n d_MM_readText_137 rfl rfl ?_
    refine wm_goto (tgt := 142) d_MM_readText_138 rfl ?_
    exact hJ l1 (if_neg c71).symm
theorem d_MM_item_0 : decode y_MM_item.2.1 0 = .ok (.iload_n 1, 1) := dc9_27 (by decide +kernel)
theorem d_MM_item_1 : decode y_MM_item.2.1 1 = .ok (.tableswitch 194 50 60 #[59, 65, 194, 76, 95, 194, 114, 126, 146, 194, 174], 59) := by decide +kernel
theorem d_MM_item_60 : decode y_MM_item.2.1 60 = .ok (.aload_n 0, 1) := dc9_42 (by decide +kernel)
theorem d_MM_item_61 : decode y_MM_item.2.1 61 = .ok (.iload_n 2, 1) := dc9_28 (by decide +kernel)
theorem d_MM_item_62 : decode y_MM_item.2.1 62 = .ok (.invokevirtual 241, 3) := dc9_182 (by decide +kernel)
theorem d_MM_item_65 : decode y_MM_item.2.1 65 = .ok (.ireturn, 1) := dc9_172 (by decide +kernel)
theorem d_MM_item_66 : decode y_MM_item.2.1 66 = .ok (.aload_n 0, 1) := dc9_42 (by decide +kernel)
theorem d_MM_item_67 : decode y_MM_item.2.1 67 = .ok (.iconst 1, 1) := dc9_4 (by decide +kernel)
theorem d_MM_item_68 : decode y_MM_item.2.1 68 = .ok (.bipush 23, 2) := dc9_16 (by decide +kernel)
theorem d_MM_item_70 : decode y_MM_item.2.1 70 = .ok (.bipush 61, 2) := dc9_16 (by decide +kernel)
theorem d_MM_item_72 : decode y_MM_item.2.1 72 = .ok (.invokevirtual 244, 3) := dc9_182 (by decide +kernel)
theorem d_MM_item_75 : decode y_MM_item.2.1 75 = .ok (.iconst 0, 1) := dc9_3 (by decide +kernel)
theorem d_MM_item_76 : decode y_MM_item.2.1 76 = .ok (.ireturn, 1) := dc9_172 (by decide +kernel)
theorem d_MM_item_77 : decode y_MM_item.2.1 77 = .ok (.iload_n 2, 1) := dc9_28 (by decide +kernel)
theorem d_MM_item_78 : decode y_MM_item.2.1 78 = .ok (.iconst 5, 1) := dc9_8 (by decide +kernel)
theorem d_MM_item_79 : decode y_MM_item.2.1 79 = .ok (.if_icmp .ne 5, 3) := dc9_160 (by decide +kernel)
theorem d_MM_item_82 : decode y_MM_item.2.1 82 = .ok (.iconst 1, 1) := dc9_4 (by decide +kernel)
theorem d_MM_item_83 : decode y_MM_item.2.1 83 = .ok (.ireturn, 1) := dc9_172 (by decide +kernel)
theorem d_MM_item_84 : decode y_MM_item.2.1 84 = .ok (.aload_n 0, 1) := dc9_42 (by decide +kernel)
theorem d_MM_item_85 : decode y_MM_item.2.1 85 = .ok (.bipush 61, 2) := dc9_16 (by decide +kernel)
theorem d_MM_item_87 : decode y_MM_item.2.1 87 = .ok (.bipush 16, 2) := dc9_16 (by decide +kernel)
theorem d_MM_item_89 : decode y_MM_item.2.1 89 = .ok (.bipush 61, 2) := dc9_16 (by decide +kernel)
theorem d_MM_item_91 : decode y_MM_item.2.1 91 = .ok (.invokevirtual 244, 3) := dc9_182 (by decide +kernel)
theorem d_MM_item_94 : decode y_MM_item.2.1 94 = .ok (.iconst 0, 1) := dc9_3 (by decide +kernel)
theorem d_MM_item_95 : decode y_MM_item.2.1 95 = .ok (.ireturn, 1) := dc9_172 (by decide +kernel)
theorem d_MM_item_96 : decode y_MM_item.2.1 96 = .ok (.iload_n 2, 1) := dc9_28 (by decide +kernel)
theorem d_MM_item_97 : decode y_MM_item.2.1 97 = .ok (.bipush 9, 2) := dc9_16 (by decide +kernel)
theorem d_MM_item_99 : decode y_MM_item.2.1 99 = .ok (.if_icmp .ne 14, 3) := dc9_160 (by decide +kernel)
theorem d_MM_item_102 : decode y_MM_item.2.1 102 = .ok (.aload_n 0, 1) := dc9_42 (by decide +kernel)
theorem d_MM_item_103 : decode y_MM_item.2.1 103 = .ok (.getfield 28, 3) := dc9_180 (by decide +kernel)
theorem d_MM_item_106 : decode y_MM_item.2.1 106 = .ok (.bipush 61, 2) := dc9_16 (by decide +kernel)
theorem d_MM_item_113 : decode y_MM_item.2.1 113 = .ok (.iconst 0, 1) := dc9_3 (by decide +kernel)
theorem d_MM_item_114 : decode y_MM_item.2.1 114 = .ok (.ireturn, 1) := dc9_172 (by decide +kernel)
theorem d_MM_item_108 : decode y_MM_item.2.1 108 = .ok (.invokevirtual 152, 3) := dc9_182 (by decide +kernel)
theorem d_MM_item_111 : decode y_MM_item.2.1 111 = .ok (.iconst 1, 1) := dc9_4 (by decide +kernel)
theorem d_MM_item_112 : decode y_MM_item.2.1 112 = .ok (.ireturn, 1) := dc9_172 (by decide +kernel)
theorem d_MM_item_115 : decode y_MM_item.2.1 115 = .ok (.aload_n 0, 1) := dc9_42 (by decide +kernel)
theorem d_MM_item_116 : decode y_MM_item.2.1 116 = .ok (.bipush 63, 2) := dc9_16 (by decide +kernel)
theorem d_MM_item_118 : decode y_MM_item.2.1 118 = .ok (.bipush 33, 2) := dc9_16 (by decide +kernel)
theorem d_MM_item_120 : decode y_MM_item.2.1 120 = .ok (.bipush 58, 2) := dc9_16 (by decide +kernel)
theorem d_MM_item_122 : decode y_MM_item.2.1 122 = .ok (.invokevirtual 244, 3) := dc9_182 (by decide +kernel)
theorem d_MM_item_125 : decode y_MM_item.2.1 125 = .ok (.iconst 0, 1) := dc9_3 (by decide +kernel)
theorem d_MM_item_126 : decode y_MM_item.2.1 126 = .ok (.ireturn, 1) := dc9_172 (by decide +kernel)
theorem d_MM_item_127 : decode y_MM_item.2.1 127 = .ok (.aload_n 0, 1) := dc9_42 (by decide +kernel)
theorem d_MM_item_128 : decode y_MM_item.2.1 128 = .ok (.iload_n 2, 1) := dc9_28 (by decide +kernel)
theorem d_MM_item_129 : decode y_MM_item.2.1 129 = .ok (.bipush 24, 2) := dc9_16 (by decide +kernel)
theorem d_MM_item_131 : decode y_MM_item.2.1 131 = .ok (.if_icmp .ne 7, 3) := dc9_160 (by decide +kernel)
theorem d_MM_item_134 : decode y_MM_item.2.1 134 = .ok (.iconst 1, 1) := dc9_4 (by decide +kernel)
theorem d_MM_item_135 : decode y_MM_item.2.1 135 = .ok (.goto 4, 3) := dc9_167 (by decide +kernel)
theorem d_MM_item_138 : decode y_MM_item.2.1 138 = .ok (.iconst 0, 1) := dc9_3 (by decide +kernel)
theorem d_MM_item_139 : decode y_MM_item.2.1 139 = .ok (.bipush 57, 2) := dc9_16 (by decide +kernel)
theorem d_MM_item_141 : decode y_MM_item.2.1 141 = .ok (.bipush 56, 2) := dc9_16 (by decide +kernel)
theorem d_MM_item_143 : decode y_MM_item.2.1 143 = .ok (.invokevirtual 247, 3) := dc9_182 (by decide +kernel)
theorem d_MM_item_146 : decode y_MM_item.2.1 146 = .ok (.ireturn, 1) := dc9_172 (by decide +kernel)
theorem d_MM_item_147 : decode y_MM_item.2.1 147 = .ok (.iload_n 2, 1) := dc9_28 (by decide +kernel)
theorem d_MM_item_148 : decode y_MM_item.2.1 148 = .ok (.bipush 10, 2) := dc9_16 (by decide +kernel)
theorem d_MM_item_150 : decode y_MM_item.2.1 150 = .ok (.if_icmp .ne 5, 3) := dc9_160 (by decide +kernel)
theorem d_MM_item_153 : decode y_MM_item.2.1 153 = .ok (.iconst 1, 1) := dc9_4 (by decide +kernel)
theorem d_MM_item_154 : decode y_MM_item.2.1 154 = .ok (.ireturn, 1) := dc9_172 (by decide +kernel)
theorem d_MM_item_155 : decode y_MM_item.2.1 155 = .ok (.aload_n 0, 1) := dc9_42 (by decide +kernel)
theorem d_MM_item_156 : decode y_MM_item.2.1 156 = .ok (.getfield 28, 3) := dc9_180 (by decide +kernel)
theorem d_MM_item_159 : decode y_MM_item.2.1 159 = .ok (.bipush 60, 2) := dc9_16 (by decide +kernel)
theorem d_MM_item_161 : decode y_MM_item.2.1 161 = .ok (.invokevirtual 152, 3) := dc9_182 (by decide +kernel)
theorem d_MM_item_164 : decode y_MM_item.2.1 164 = .ok (.aload_n 0, 1) := dc9_42 (by decide +kernel)
theorem d_MM_item_165 : decode y_MM_item.2.1 165 = .ok (.getfield 28, 3) := dc9_180 (by decide +kernel)
theorem d_MM_item_168 : decode y_MM_item.2.1 168 = .ok (.bipush 59, 2) := dc9_16 (by decide +kernel)
theorem d_MM_item_170 : decode y_MM_item.2.1 170 = .ok (.invokevirtual 152, 3) := dc9_182 (by decide +kernel)
theorem d_MM_item_173 : decode y_MM_item.2.1 173 = .ok (.iconst 0, 1) := dc9_3 (by decide +kernel)
theorem d_MM_item_174 : decode y_MM_item.2.1 174 = .ok (.ireturn, 1) := dc9_172 (by decide +kernel)
theorem d_MM_item_175 : decode y_MM_item.2.1 175 = .ok (.aload_n 0, 1) := dc9_42 (by decide +kernel)
theorem d_MM_item_176 : decode y_MM_item.2.1 176 = .ok (.iload_n 2, 1) := dc9_28 (by decide +kernel)
theorem d_MM_item_177 : decode y_MM_item.2.1 177 = .ok (.bipush 29, 2) := dc9_16 (by decide +kernel)
theorem d_MM_item_179 : decode y_MM_item.2.1 179 = .ok (.if_icmp .ne 7, 3) := dc9_160 (by decide +kernel)
theorem d_MM_item_182 : decode y_MM_item.2.1 182 = .ok (.iconst 1, 1) := dc9_4 (by decide +kernel)
theorem d_MM_item_183 : decode y_MM_item.2.1 183 = .ok (.goto 4, 3) := dc9_167 (by decide +kernel)
theorem d_MM_item_186 : decode y_MM_item.2.1 186 = .ok (.iconst 0, 1) := dc9_3 (by decide +kernel)
theorem d_MM_item_187 : decode y_MM_item.2.1 187 = .ok (.bipush 60, 2) := dc9_16 (by decide +kernel)
theorem d_MM_item_189 : decode y_MM_item.2.1 189 = .ok (.bipush 59, 2) := dc9_16 (by decide +kernel)
theorem d_MM_item_191 : decode y_MM_item.2.1 191 = .ok (.invokevirtual 247, 3) := dc9_182 (by decide +kernel)
theorem d_MM_item_194 : decode y_MM_item.2.1 194 = .ok (.ireturn, 1) := dc9_172 (by decide +kernel)
theorem d_MM_item_195 : decode y_MM_item.2.1 195 = .ok (.aload_n 0, 1) := dc9_42 (by decide +kernel)
theorem d_MM_item_196 : decode y_MM_item.2.1 196 = .ok (.iload_n 2, 1) := dc9_28 (by decide +kernel)
theorem d_MM_item_197 : decode y_MM_item.2.1 197 = .ok (.invokevirtual 251, 3) := dc9_182 (by decide +kernel)
theorem d_MM_item_200 : decode y_MM_item.2.1 200 = .ok (.ireturn, 1) := dc9_172 (by decide +kernel)
theorem k_MM_item {G : mG} {d : Nat} {a0 : Nat} {l1 : Int} {l2 : Int} {M : mM} {Q : Int → mM → Prop} (hO : mOk M) (hi_l1 : i32 l1) (hi_l2 : i32 l2)
    (h : ((l1 = 50) → (mK M a0 = 14 ∧ Ci G y_MM_anItem d [vr a0, vi l2] M (fun x6 M5 => i32 x6 ∧ mOk M5 ∧ (Q x6 M5)))) ∧ (¬ (l1 = 50) → (((l1 = 51) → (mK M a0 = 14 ∧ Cv G y_MM_want d [vr a0, vi 1, vi 23, vi 61] M (fun M11 => mOk M11 ∧ (Q 0 M11)))) ∧ (¬ (l1 = 51) → (((l1 = 53) → (((l2 = 5) → (Q 1 M)) ∧ (¬ (l2 = 5) → (mK M a0 = 14 ∧ Cv G y_MM_want d [vr a0, vi 61, vi 16, vi 61] M (fun M19 => mOk M19 ∧ (Q 0 M19)))))) ∧ (¬ (l1 = 53) → (((l1 = 54) → (((l2 = 9) → (mK M a0 = 14 ∧ mK M (mR M a0 6) = 15 ∧ Cv G y_MN_add d [vr (mR M a0 6), vi 61] M (fun M28 => mOk M28 ∧ (Q 1 M28)))) ∧ (¬ (l2 = 9) → (Q 0 M)))) ∧ (¬ (l1 = 54) → (((l1 = 56) → (mK M a0 = 14 ∧ Cv G y_MM_want d [vr a0, vi 63, vi 33, vi 58] M (fun M34 => mOk M34 ∧ (Q 0 M34)))) ∧ (¬ (l1 = 56) → (((l1 = 57) → (∀ v40 : Int, v40 = (if (l2 = 24) then 1 else 0) → mK M a0 = 14 ∧ Ci G y_MM_again d [vr a0, vi v40, vi 57, vi 56] M (fun x47 M46 => i32 x47 ∧ mOk M46 ∧ (Q x47 M46)))) ∧ (¬ (l1 = 57) → (((l1 = 58) → (((l2 = 10) → (Q 1 M)) ∧ (¬ (l2 = 10) → (mK M a0 = 14 ∧ mK M (mR M a0 6) = 15 ∧ Cv G y_MN_add d [vr (mR M a0 6), vi 60] M (fun M56 => mOk M56 ∧ (mK M56 a0 = 14 ∧ mK M56 (mR M56 a0 6) = 15 ∧ Cv G y_MN_add d [vr (mR M56 a0 6), vi 59] M56 (fun M61 => mOk M61 ∧ (Q 0 M61)))))))) ∧ (¬ (l1 = 58) → (((l1 = 60) → (∀ v67 : Int, v67 = (if (l2 = 29) then 1 else 0) → mK M a0 = 14 ∧ Ci G y_MM_again d [vr a0, vi v67, vi 60, vi 59] M (fun x74 M73 => i32 x74 ∧ mOk M73 ∧ (Q x74 M73)))) ∧ (¬ (l1 = 60) → (mK M a0 = 14 ∧ Ci G y_MM_set0 d [vr a0, vi l2] M (fun x79 M78 => i32 x79 ∧ mOk M78 ∧ (Q x79 M78))))))))))))))))))) :
    Ci G y_MM_item (d + 1) [vr a0, vi l1, vi l2] M Q := by
  refine wm_open (y := y_MM_item) rfl (Nat.le_of_ble_eq_true rfl) (L := [vr a0, vi l1, vi l2]) rfl ?_
  refine wm_iload_n d_MM_item_0 rfl rfl ?_
  by_cases c3 : l1 = 50
  · replace h := h.1 c3
    refine wm_tableIn (tgt := 60) (off := 59) d_MM_item_1 hi_l1 (by omega) (by omega) (by rw [c3]; rfl) rfl ?_
    obtain ⟨h4, h⟩ := h
    refine wm_aload_n d_MM_item_60 rfl rfl ?_
    refine wm_iload_n d_MM_item_61 rfl rfl ?_
    refine cf_MM_241 rfl d_MM_item_62 h4 (Nat.le_of_ble_eq_true rfl) (Ci.mono h (fun x6 M5 h => ?_))
    obtain ⟨h7, hOM5, h⟩ := h
    refine wm_ireturn d_MM_item_65 rfl rfl ?_
    exact ⟨_, rfl, h⟩
  · replace h := h.2 c3
    by_cases c9 : l1 = 51
    · replace h := h.1 c9
      refine wm_tableIn (tgt := 66) (off := 65) d_MM_item_1 hi_l1 (by omega) (by omega) (by rw [c9]; rfl) rfl ?_
      obtain ⟨h10, h⟩ := h
      refine wm_aload_n d_MM_item_66 rfl rfl ?_
      refine wm_iconst d_MM_item_67 ?_
      refine wm_bipush d_MM_item_68 (by decide) ?_
      refine wm_bipush d_MM_item_70 (by decide) ?_
      refine cf_MM_244 rfl d_MM_item_72 h10 (Nat.le_of_ble_eq_true rfl) (Cv.mono h (fun M11 h => ?_))
      obtain ⟨hOM11, h⟩ := h
      refine wm_iconst d_MM_item_75 ?_
      refine wm_ireturn d_MM_item_76 rfl rfl ?_
      exact ⟨_, rfl, h⟩
    · replace h := h.2 c9
      by_cases c15 : l1 = 53
      · replace h := h.1 c15
        refine wm_tableIn (tgt := 77) (off := 76) d_MM_item_1 hi_l1 (by omega) (by omega) (by rw [c15]; rfl) rfl ?_
        refine wm_iload_n d_MM_item_77 rfl rfl ?_
        refine wm_iconst d_MM_item_78 ?_
        refine wm_icmp_ne (tgt := 84) d_MM_item_79 rfl hi_l2 ⟨by decide, by decide⟩ (fun c17 => ?_) (fun c17 => ?_)
        · replace h := h.2 c17
          obtain ⟨h18, h⟩ := h
          refine wm_aload_n d_MM_item_84 rfl rfl ?_
          refine wm_bipush d_MM_item_85 (by decide) ?_
          refine wm_bipush d_MM_item_87 (by decide) ?_
          refine wm_bipush d_MM_item_89 (by decide) ?_
          refine cf_MM_244 rfl d_MM_item_91 h18 (Nat.le_of_ble_eq_true rfl) (Cv.mono h (fun M19 h => ?_))
          obtain ⟨hOM19, h⟩ := h
          refine wm_iconst d_MM_item_94 ?_
          refine wm_ireturn d_MM_item_95 rfl rfl ?_
          exact ⟨_, rfl, h⟩
        · replace c17 := Classical.not_not.mp c17
          replace h := h.1 c17
          refine wm_iconst d_MM_item_82 ?_
          refine wm_ireturn d_MM_item_83 rfl rfl ?_
          exact ⟨_, rfl, h⟩
      · replace h := h.2 c15
        by_cases c23 : l1 = 54
        · replace h := h.1 c23
          refine wm_tableIn (tgt := 96) (off := 95) d_MM_item_1 hi_l1 (by omega) (by omega) (by rw [c23]; rfl) rfl ?_
          refine wm_iload_n d_MM_item_96 rfl rfl ?_
          refine wm_bipush d_MM_item_97 (by decide) ?_
          refine wm_icmp_ne (tgt := 113) d_MM_item_99 rfl hi_l2 ⟨by decide, by decide⟩ (fun c25 => ?_) (fun c25 => ?_)
          · replace h := h.2 c25
            refine wm_iconst d_MM_item_113 ?_
            refine wm_ireturn d_MM_item_114 rfl rfl ?_
            exact ⟨_, rfl, h⟩
          · replace c25 := Classical.not_not.mp c25
            replace h := h.1 c25
            obtain ⟨h26, h⟩ := h
            obtain ⟨h27, h⟩ := h
            refine wm_aload_n d_MM_item_102 rfl rfl ?_
            refine gf_MM_28 rfl d_MM_item_103 h26 ?_
            refine wm_bipush d_MM_item_106 (by decide) ?_
            refine cf_MM_152 rfl d_MM_item_108 h27 (Nat.le_of_ble_eq_true rfl) (Cv.mono h (fun M28 h => ?_))
            obtain ⟨hOM28, h⟩ := h
            refine wm_iconst d_MM_item_111 ?_
            refine wm_ireturn d_MM_item_112 rfl rfl ?_
            exact ⟨_, rfl, h⟩
        · replace h := h.2 c23
          by_cases c32 : l1 = 56
          · replace h := h.1 c32
            refine wm_tableIn (tgt := 115) (off := 114) d_MM_item_1 hi_l1 (by omega) (by omega) (by rw [c32]; rfl) rfl ?_
            obtain ⟨h33, h⟩ := h
            refine wm_aload_n d_MM_item_115 rfl rfl ?_
            refine wm_bipush d_MM_item_116 (by decide) ?_
            refine wm_bipush d_MM_item_118 (by decide) ?_
            refine wm_bipush d_MM_item_120 (by decide) ?_
            refine cf_MM_244 rfl d_MM_item_122 h33 (Nat.le_of_ble_eq_true rfl) (Cv.mono h (fun M34 h => ?_))
            obtain ⟨hOM34, h⟩ := h
            refine wm_iconst d_MM_item_125 ?_
            refine wm_ireturn d_MM_item_126 rfl rfl ?_
            exact ⟨_, rfl, h⟩
          · replace h := h.2 c32
            by_cases c38 : l1 = 57
            · replace h := h.1 c38
              refine wm_tableIn (tgt := 127) (off := 126) d_MM_item_1 hi_l1 (by omega) (by omega) (by rw [c38]; rfl) rfl ?_
              refine wm_aload_n d_MM_item_127 rfl rfl ?_
              refine wm_iload_n d_MM_item_128 rfl rfl ?_
              refine wm_bipush d_MM_item_129 (by decide) ?_
              have hJ : ∀ v40 : Int, v40 = (if (l2 = 24) then 1 else 0) → mWm G y_MM_item (d + 1) 139 [vd, vd, vd] [vi v40, vr a0] M (fun r9 M9 => ∃ x9, r9 = some (vi x9) ∧ Q x9 M9) := by
                intro v40 e42
                have h := h v40 e42
                have h43 : i32 v40 := by rw [e42]; (repeat' split) <;> first | exact ⟨by decide, by decide⟩ | exact ⟨by decide, by decide⟩
                have h44 : (v40 = 0 ∨ v40 = 1) := by rw [e42]; (repeat' split) <;> decide
                obtain ⟨h45, h⟩ := h
                refine wm_bipush d_MM_item_139 (by decide) ?_
                refine wm_bipush d_MM_item_141 (by decide) ?_
                refine cf_MM_247 rfl d_MM_item_143 h45 (Nat.le_of_ble_eq_true rfl) (Ci.mono h (fun x47 M46 h => ?_))
                obtain ⟨h48, hOM46, h⟩ := h
                refine wm_ireturn d_MM_item_146 rfl rfl ?_
                exact ⟨_, rfl, h⟩
              clear h
              refine wm_icmp_ne (tgt := 138) d_MM_item_131 rfl hi_l2 ⟨by decide, by decide⟩ (fun c39 => ?_) (fun c39 => ?_)
              · refine wm_iconst d_MM_item_138 ?_
                refine wm_less (L' := [vd, vd, vd]) ⟨Or.inl rfl, Or.inl rfl, Or.inl rfl, trivial⟩ ?_
                exact hJ 0 (if_neg c39).symm
              · replace c39 := Classical.not_not.mp c39
                refine wm_iconst d_MM_item_134 ?_
                refine wm_goto (tgt := 139) d_MM_item_135 rfl ?_
                refine wm_less (L' := [vd, vd, vd]) ⟨Or.inl rfl, Or.inl rfl, Or.inl rfl, trivial⟩ ?_
                exact hJ 1 (if_pos c39).symm
            · replace h := h.2 c38
              by_cases c51 : l1 = 58
              · replace h := h.1 c51
                refine wm_tableIn (tgt := 147) (off := 146) d_MM_item_1 hi_l1 (by omega) (by omega) (by rw [c51]; rfl) rfl ?_
                refine wm_iload_n d_MM_item_147 rfl rfl ?_
                refine wm_bipush d_MM_item_148 (by decide) ?_
                refine wm_icmp_ne (tgt := 155) d_MM_item_150 rfl hi_l2 ⟨by decide, by decide⟩ (fun c53 => ?_) (fun c53 => ?_)
                · replace h := h.2 c53
                  obtain ⟨h54, h⟩ := h
                  obtain ⟨h55, h⟩ := h
                  refine wm_aload_n d_MM_item_155 rfl rfl ?_
                  refine gf_MM_28 rfl d_MM_item_156 h54 ?_
                  refine wm_bipush d_MM_item_159 (by decide) ?_
                  refine cf_MM_152 rfl d_MM_item_161 h55 (Nat.le_of_ble_eq_true rfl) (Cv.mono h (fun M56 h => ?_))
                  obtain ⟨hOM56, h⟩ := h
                  obtain ⟨h59, h⟩ := h
                  obtain ⟨h60, h⟩ := h
                  refine wm_aload_n d_MM_item_164 rfl rfl ?_
                  refine gf_MM_28 rfl d_MM_item_165 h59 ?_
                  refine wm_bipush d_MM_item_168 (by decide) ?_
                  refine cf_MM_152 rfl d_MM_item_170 h60 (Nat.le_of_ble_eq_true rfl) (Cv.mono h (fun M61 h => ?_))
                  obtain ⟨hOM61, h⟩ := h
                  refine wm_iconst d_MM_item_173 ?_
                  refine wm_ireturn d_MM_item_174 rfl rfl ?_
                  exact ⟨_, rfl, h⟩
                · replace c53 := Classical.not_not.mp c53
                  replace h := h.1 c53
                  refine wm_iconst d_MM_item_153 ?_
                  refine wm_ireturn d_MM_item_154 rfl rfl ?_
                  exact ⟨_, rfl, h⟩
              · replace h := h.2 c51
                by_cases c65 : l1 = 60
                · replace h := h.1 c65
                  refine wm_tableIn (tgt := 175) (off := 174) d_MM_item_1 hi_l1 (by omega) (by omega) (by rw [c65]; rfl) rfl ?_
                  refine wm_aload_n d_MM_item_175 rfl rfl ?_
                  refine wm_iload_n d_MM_item_176 rfl rfl ?_
                  refine wm_bipush d_MM_item_177 (by decide) ?_
                  have hJ : ∀ v67 : Int, v67 = (if (l2 = 29) then 1 else 0) → mWm G y_MM_item (d + 1) 187 [vd, vd, vd] [vi v67, vr a0] M (fun r9 M9 => ∃ x9, r9 = some (vi x9) ∧ Q x9 M9) := by
                    intro v67 e69
                    have h := h v67 e69
                    have h70 : i32 v67 := by rw [e69]; (repeat' split) <;> first | exact ⟨by decide, by decide⟩ | exact ⟨by decide, by decide⟩
                    have h71 : (v67 = 0 ∨ v67 = 1) := by rw [e69]; (repeat' split) <;> decide
                    obtain ⟨h72, h⟩ := h
                    refine wm_bipush d_MM_item_187 (by decide) ?_
                    refine wm_bipush d_MM_item_189 (by decide) ?_
                    refine cf_MM_247 rfl d_MM_item_191 h72 (Nat.le_of_ble_eq_true rfl) (Ci.mono h (fun x74 M73 h => ?_))
                    obtain ⟨h75, hOM73, h⟩ := h
                    refine wm_ireturn d_MM_item_194 rfl rfl ?_
                    exact ⟨_, rfl, h⟩
                  clear h
                  refine wm_icmp_ne (tgt := 186) d_MM_item_179 rfl hi_l2 ⟨by decide, by decide⟩ (fun c66 => ?_) (fun c66 => ?_)
                  · refine wm_iconst d_MM_item_186 ?_
                    refine wm_less (L' := [vd, vd, vd]) ⟨Or.inl rfl, Or.inl rfl, Or.inl rfl, trivial⟩ ?_
                    exact hJ 0 (if_neg c66).symm
                  · replace c66 := Classical.not_not.mp c66
                    refine wm_iconst d_MM_item_182 ?_
                    refine wm_goto (tgt := 187) d_MM_item_183 rfl ?_
                    refine wm_less (L' := [vd, vd, vd]) ⟨Or.inl rfl, Or.inl rfl, Or.inl rfl, trivial⟩ ?_
                    exact hJ 1 (if_pos c66).symm
                · replace h := h.2 c65
                  refine wm_tableD (tgt := 195) (off := 194) d_MM_item_1 hi_l1 (if q8 : 50 ≤ l1 ∧ l1 ≤ 60 then Or.inr ⟨q8.1, q8.2, by
      have q9 : l1 = 52 ∨ l1 = 55 ∨ l1 = 59 := by omega
      rcases q9 with q9 | q9 | q9 <;> (rw [q9]; rfl)⟩ else Or.inl (by omega)) rfl ?_
                  obtain ⟨h77, h⟩ := h
                  refine wm_aload_n d_MM_item_195 rfl rfl ?_
                  refine wm_iload_n d_MM_item_196 rfl rfl ?_
                  refine cf_MM_251 rfl d_MM_item_197 h77 (Nat.le_of_ble_eq_true rfl) (Ci.mono h (fun x79 M78 h => ?_))
                  obtain ⟨h80, hOM78, h⟩ := h
                  refine wm_ireturn d_MM_item_200 rfl rfl ?_
                  exact ⟨_, rfl, h⟩
end
