theorem d_So_evaluate_0 : decode y_So_evaluate.2.1 0 = .ok (.aload_n 0, 1) := by decide +kernel
theorem d_So_evaluate_1 : decode y_So_evaluate.2.1 1 = .ok (.getfield 28, 3) := by decide +kernel
theorem d_So_evaluate_4 : decode y_So_evaluate.2.1 4 = .ok (.getfield 159, 3) := by decide +kernel
theorem d_So_evaluate_7 : decode y_So_evaluate.2.1 7 = .ok (.iconst 0, 1) := by decide +kernel
theorem d_So_evaluate_8 : decode y_So_evaluate.2.1 8 = .ok (.invokestatic 125, 3) := by decide +kernel
theorem d_So_evaluate_11 : decode y_So_evaluate.2.1 11 = .ok (.iconst 0, 1) := by decide +kernel
theorem d_So_evaluate_12 : decode y_So_evaluate.2.1 12 = .ok (.istore_n 2, 1) := by decide +kernel
theorem d_So_evaluate_13 : decode y_So_evaluate.2.1 13 = .ok (.iconst 0, 1) := by decide +kernel
theorem d_So_evaluate_14 : decode y_So_evaluate.2.1 14 = .ok (.istore_n 3, 1) := by decide +kernel
theorem d_So_evaluate_15 : decode y_So_evaluate.2.1 15 = .ok (.iload_n 3, 1) := by decide +kernel
theorem d_So_evaluate_16 : decode y_So_evaluate.2.1 16 = .ok (.aload_n 0, 1) := by decide +kernel
theorem d_So_evaluate_17 : decode y_So_evaluate.2.1 17 = .ok (.getfield 122, 3) := by decide +kernel
theorem d_So_evaluate_20 : decode y_So_evaluate.2.1 20 = .ok (.if_icmp .ge 192, 3) := by decide +kernel
theorem d_So_evaluate_212 : decode y_So_evaluate.2.1 212 = .ok (.aload_n 0, 1) := by decide +kernel
theorem d_So_evaluate_213 : decode y_So_evaluate.2.1 213 = .ok (.getfield 28, 3) := by decide +kernel
theorem d_So_evaluate_216 : decode y_So_evaluate.2.1 216 = .ok (.aload_n 0, 1) := by decide +kernel
theorem d_So_evaluate_217 : decode y_So_evaluate.2.1 217 = .ok (.getfield 122, 3) := by decide +kernel
theorem d_So_evaluate_220 : decode y_So_evaluate.2.1 220 = .ok (.iload_n 2, 1) := by decide +kernel
theorem d_So_evaluate_23 : decode y_So_evaluate.2.1 23 = .ok (.iload_n 3, 1) := by decide +kernel
theorem d_So_evaluate_24 : decode y_So_evaluate.2.1 24 = .ok (.bipush 41, 2) := by decide +kernel
theorem d_So_evaluate_26 : decode y_So_evaluate.2.1 26 = .ok (.imul, 1) := by decide +kernel
theorem d_So_evaluate_27 : decode y_So_evaluate.2.1 27 = .ok (.istore 4, 2) := by decide +kernel
theorem d_So_evaluate_29 : decode y_So_evaluate.2.1 29 = .ok (.aload_n 0, 1) := by decide +kernel
theorem d_So_evaluate_30 : decode y_So_evaluate.2.1 30 = .ok (.getfield 44, 3) := by decide +kernel
theorem d_So_evaluate_33 : decode y_So_evaluate.2.1 33 = .ok (.iload_n 3, 1) := by decide +kernel
theorem d_So_evaluate_34 : decode y_So_evaluate.2.1 34 = .ok (.iaload, 1) := by decide +kernel
theorem d_So_evaluate_35 : decode y_So_evaluate.2.1 35 = .ok (.istore 5, 2) := by decide +kernel
theorem d_So_evaluate_37 : decode y_So_evaluate.2.1 37 = .ok (.aload_n 0, 1) := by decide +kernel
theorem d_So_evaluate_38 : decode y_So_evaluate.2.1 38 = .ok (.getfield 64, 3) := by decide +kernel
theorem d_So_evaluate_41 : decode y_So_evaluate.2.1 41 = .ok (.getfield 145, 3) := by decide +kernel
theorem d_So_evaluate_44 : decode y_So_evaluate.2.1 44 = .ok (.iload 5, 2) := by decide +kernel
theorem d_So_evaluate_46 : decode y_So_evaluate.2.1 46 = .ok (.iaload, 1) := by decide +kernel
theorem d_So_evaluate_47 : decode y_So_evaluate.2.1 47 = .ok (.istore 6, 2) := by decide +kernel
theorem d_So_evaluate_49 : decode y_So_evaluate.2.1 49 = .ok (.aload_n 0, 1) := by decide +kernel
theorem d_So_evaluate_50 : decode y_So_evaluate.2.1 50 = .ok (.getfield 28, 3) := by decide +kernel
theorem d_So_evaluate_53 : decode y_So_evaluate.2.1 53 = .ok (.getfield 159, 3) := by decide +kernel
theorem d_So_evaluate_56 : decode y_So_evaluate.2.1 56 = .ok (.iload 4, 2) := by decide +kernel
theorem d_So_evaluate_58 : decode y_So_evaluate.2.1 58 = .ok (.iload_n 3, 1) := by decide +kernel
theorem d_So_evaluate_59 : decode y_So_evaluate.2.1 59 = .ok (.iadd, 1) := by decide +kernel
theorem d_So_evaluate_60 : decode y_So_evaluate.2.1 60 = .ok (.iload 6, 2) := by decide +kernel
theorem d_So_evaluate_62 : decode y_So_evaluate.2.1 62 = .ok (.iastore, 1) := by decide +kernel
theorem d_So_evaluate_63 : decode y_So_evaluate.2.1 63 = .ok (.iload_n 2, 1) := by decide +kernel
theorem d_So_evaluate_64 : decode y_So_evaluate.2.1 64 = .ok (.bipush 32, 2) := by decide +kernel
theorem d_So_evaluate_66 : decode y_So_evaluate.2.1 66 = .ok (.iload 6, 2) := by decide +kernel
theorem d_So_evaluate_221 : decode y_So_evaluate.2.1 221 = .ok (.invokevirtual 165, 3) := by decide +kernel
theorem d_So_evaluate_224 : decode y_So_evaluate.2.1 224 = .ok (.iconst 0, 1) := by decide +kernel
theorem d_So_evaluate_225 : decode y_So_evaluate.2.1 225 = .ok (.istore_n 3, 1) := by decide +kernel
theorem d_So_evaluate_68 : decode y_So_evaluate.2.1 68 = .ok (.invokestatic 154, 3) := by decide +kernel
theorem d_So_evaluate_71 : decode y_So_evaluate.2.1 71 = .ok (.isub, 1) := by decide +kernel
theorem d_So_evaluate_72 : decode y_So_evaluate.2.1 72 = .ok (.iadd, 1) := by decide +kernel
theorem d_So_evaluate_73 : decode y_So_evaluate.2.1 73 = .ok (.istore_n 2, 1) := by decide +kernel
theorem d_So_evaluate_74 : decode y_So_evaluate.2.1 74 = .ok (.aload_n 0, 1) := by decide +kernel
theorem d_So_evaluate_75 : decode y_So_evaluate.2.1 75 = .ok (.getfield 64, 3) := by decide +kernel
theorem d_So_evaluate_78 : decode y_So_evaluate.2.1 78 = .ok (.getfield 139, 3) := by decide +kernel
theorem d_So_evaluate_81 : decode y_So_evaluate.2.1 81 = .ok (.iload 5, 2) := by decide +kernel
theorem d_So_evaluate_83 : decode y_So_evaluate.2.1 83 = .ok (.iaload, 1) := by decide +kernel
theorem d_So_evaluate_84 : decode y_So_evaluate.2.1 84 = .ok (.istore 7, 2) := by decide +kernel
theorem d_So_evaluate_86 : decode y_So_evaluate.2.1 86 = .ok (.iload 7, 2) := by decide +kernel
theorem d_So_evaluate_88 : decode y_So_evaluate.2.1 88 = .ok (.aload_n 0, 1) := by decide +kernel
theorem d_So_evaluate_89 : decode y_So_evaluate.2.1 89 = .ok (.getfield 64, 3) := by decide +kernel
theorem d_So_evaluate_92 : decode y_So_evaluate.2.1 92 = .ok (.getfield 139, 3) := by decide +kernel
theorem d_So_evaluate_95 : decode y_So_evaluate.2.1 95 = .ok (.iload 5, 2) := by decide +kernel
theorem d_So_evaluate_97 : decode y_So_evaluate.2.1 97 = .ok (.iconst 1, 1) := by decide +kernel
theorem d_So_evaluate_98 : decode y_So_evaluate.2.1 98 = .ok (.iadd, 1) := by decide +kernel
theorem d_So_evaluate_99 : decode y_So_evaluate.2.1 99 = .ok (.iaload, 1) := by decide +kernel
theorem d_So_evaluate_100 : decode y_So_evaluate.2.1 100 = .ok (.if_icmp .ge 106, 3) := by decide +kernel
theorem d_So_evaluate_206 : decode y_So_evaluate.2.1 206 = .ok (.iinc 3 1, 3) := by decide +kernel
theorem d_So_evaluate_209 : decode y_So_evaluate.2.1 209 = .ok (.goto (-194), 3) := by decide +kernel
theorem d_So_evaluate_103 : decode y_So_evaluate.2.1 103 = .ok (.aload_n 0, 1) := by decide +kernel
theorem d_So_evaluate_104 : decode y_So_evaluate.2.1 104 = .ok (.getfield 64, 3) := by decide +kernel
theorem d_So_evaluate_107 : decode y_So_evaluate.2.1 107 = .ok (.getfield 142, 3) := by decide +kernel
theorem d_So_evaluate_110 : decode y_So_evaluate.2.1 110 = .ok (.iload 7, 2) := by decide +kernel
theorem d_So_evaluate_112 : decode y_So_evaluate.2.1 112 = .ok (.iaload, 1) := by decide +kernel
theorem d_So_evaluate_113 : decode y_So_evaluate.2.1 113 = .ok (.istore 8, 2) := by decide +kernel
theorem d_So_evaluate_115 : decode y_So_evaluate.2.1 115 = .ok (.aload_n 0, 1) := by decide +kernel
theorem d_So_evaluate_116 : decode y_So_evaluate.2.1 116 = .ok (.getfield 38, 3) := by decide +kernel
theorem d_So_evaluate_119 : decode y_So_evaluate.2.1 119 = .ok (.iload 8, 2) := by decide +kernel
theorem d_So_evaluate_121 : decode y_So_evaluate.2.1 121 = .ok (.iaload, 1) := by decide +kernel
theorem d_So_evaluate_122 : decode y_So_evaluate.2.1 122 = .ok (.iconst (-1), 1) := by decide +kernel
theorem d_So_evaluate_123 : decode y_So_evaluate.2.1 123 = .ok (.if_icmp .eq 37, 3) := by decide +kernel
theorem d_So_evaluate_160 : decode y_So_evaluate.2.1 160 = .ok (.aload_n 0, 1) := by decide +kernel
theorem d_So_evaluate_161 : decode y_So_evaluate.2.1 161 = .ok (.getfield 64, 3) := by decide +kernel
theorem d_So_evaluate_164 : decode y_So_evaluate.2.1 164 = .ok (.getfield 113, 3) := by decide +kernel
theorem d_So_evaluate_167 : decode y_So_evaluate.2.1 167 = .ok (.iload 8, 2) := by decide +kernel
theorem d_So_evaluate_169 : decode y_So_evaluate.2.1 169 = .ok (.iaload, 1) := by decide +kernel
theorem d_So_evaluate_170 : decode y_So_evaluate.2.1 170 = .ok (.iconst 3, 1) := by decide +kernel
theorem d_So_evaluate_171 : decode y_So_evaluate.2.1 171 = .ok (.if_icmp .ne 29, 3) := by decide +kernel
theorem d_So_evaluate_174 : decode y_So_evaluate.2.1 174 = .ok (.aload_n 0, 1) := by decide +kernel
theorem d_So_evaluate_175 : decode y_So_evaluate.2.1 175 = .ok (.getfield 28, 3) := by decide +kernel
theorem d_So_evaluate_178 : decode y_So_evaluate.2.1 178 = .ok (.getfield 159, 3) := by decide +kernel
theorem d_So_evaluate_181 : decode y_So_evaluate.2.1 181 = .ok (.iload 4, 2) := by decide +kernel
theorem d_So_evaluate_183 : decode y_So_evaluate.2.1 183 = .ok (.bipush 40, 2) := by decide +kernel
theorem d_So_evaluate_185 : decode y_So_evaluate.2.1 185 = .ok (.iadd, 1) := by decide +kernel
theorem d_So_evaluate_186 : decode y_So_evaluate.2.1 186 = .ok (.dup2, 1) := by decide +kernel
theorem d_So_evaluate_187 : decode y_So_evaluate.2.1 187 = .ok (.iaload, 1) := by decide +kernel
theorem d_So_evaluate_188 : decode y_So_evaluate.2.1 188 = .ok (.aload_n 0, 1) := by decide +kernel
theorem d_So_evaluate_189 : decode y_So_evaluate.2.1 189 = .ok (.getfield 64, 3) := by decide +kernel
theorem d_So_evaluate_192 : decode y_So_evaluate.2.1 192 = .ok (.getfield 162, 3) := by decide +kernel
theorem d_So_evaluate_195 : decode y_So_evaluate.2.1 195 = .ok (.iload 7, 2) := by decide +kernel
theorem d_So_evaluate_197 : decode y_So_evaluate.2.1 197 = .ok (.iaload, 1) := by decide +kernel
theorem d_So_evaluate_198 : decode y_So_evaluate.2.1 198 = .ok (.iadd, 1) := by decide +kernel
theorem d_So_evaluate_199 : decode y_So_evaluate.2.1 199 = .ok (.iastore, 1) := by decide +kernel
theorem d_So_evaluate_126 : decode y_So_evaluate.2.1 126 = .ok (.aload_n 0, 1) := by decide +kernel
theorem d_So_evaluate_127 : decode y_So_evaluate.2.1 127 = .ok (.getfield 28, 3) := by decide +kernel
theorem d_So_evaluate_130 : decode y_So_evaluate.2.1 130 = .ok (.getfield 159, 3) := by decide +kernel
theorem d_So_evaluate_133 : decode y_So_evaluate.2.1 133 = .ok (.iload 4, 2) := by decide +kernel
theorem d_So_evaluate_135 : decode y_So_evaluate.2.1 135 = .ok (.aload_n 0, 1) := by decide +kernel
theorem d_So_evaluate_136 : decode y_So_evaluate.2.1 136 = .ok (.getfield 38, 3) := by decide +kernel
theorem d_So_evaluate_139 : decode y_So_evaluate.2.1 139 = .ok (.iload 8, 2) := by decide +kernel
theorem d_So_evaluate_141 : decode y_So_evaluate.2.1 141 = .ok (.iaload, 1) := by decide +kernel
theorem d_So_evaluate_142 : decode y_So_evaluate.2.1 142 = .ok (.iadd, 1) := by decide +kernel
theorem d_So_evaluate_143 : decode y_So_evaluate.2.1 143 = .ok (.dup2, 1) := by decide +kernel
theorem d_So_evaluate_144 : decode y_So_evaluate.2.1 144 = .ok (.iaload, 1) := by decide +kernel
theorem d_So_evaluate_145 : decode y_So_evaluate.2.1 145 = .ok (.aload_n 0, 1) := by decide +kernel
theorem d_So_evaluate_146 : decode y_So_evaluate.2.1 146 = .ok (.getfield 64, 3) := by decide +kernel
theorem d_So_evaluate_149 : decode y_So_evaluate.2.1 149 = .ok (.getfield 162, 3) := by decide +kernel
theorem d_So_evaluate_152 : decode y_So_evaluate.2.1 152 = .ok (.iload 7, 2) := by decide +kernel
theorem d_So_evaluate_154 : decode y_So_evaluate.2.1 154 = .ok (.iaload, 1) := by decide +kernel
theorem d_So_evaluate_155 : decode y_So_evaluate.2.1 155 = .ok (.isub, 1) := by decide +kernel
theorem d_So_evaluate_156 : decode y_So_evaluate.2.1 156 = .ok (.iastore, 1) := by decide +kernel
theorem d_So_evaluate_157 : decode y_So_evaluate.2.1 157 = .ok (.goto 43, 3) := by decide +kernel
theorem d_So_evaluate_200 : decode y_So_evaluate.2.1 200 = .ok (.iinc 7 1, 3) := by decide +kernel
theorem d_So_evaluate_203 : decode y_So_evaluate.2.1 203 = .ok (.goto (-117), 3) := by decide +kernel
theorem d_So_evaluate_226 : decode y_So_evaluate.2.1 226 = .ok (.iload_n 3, 1) := by decide +kernel
theorem d_So_evaluate_227 : decode y_So_evaluate.2.1 227 = .ok (.aload_n 0, 1) := by decide +kernel
theorem d_So_evaluate_228 : decode y_So_evaluate.2.1 228 = .ok (.getfield 122, 3) := by decide +kernel
theorem d_So_evaluate_231 : decode y_So_evaluate.2.1 231 = .ok (.if_icmp .ge 59, 3) := by decide +kernel
theorem d_So_evaluate_290 : decode y_So_evaluate.2.1 290 = .ok (.return_, 1) := by decide +kernel
theorem d_So_evaluate_234 : decode y_So_evaluate.2.1 234 = .ok (.aload_n 1, 1) := by decide +kernel
theorem d_So_evaluate_235 : decode y_So_evaluate.2.1 235 = .ok (.getfield 169, 3) := by decide +kernel
theorem d_So_evaluate_238 : decode y_So_evaluate.2.1 238 = .ok (.aload_n 0, 1) := by decide +kernel
theorem d_So_evaluate_239 : decode y_So_evaluate.2.1 239 = .ok (.getfield 41, 3) := by decide +kernel
theorem d_So_evaluate_242 : decode y_So_evaluate.2.1 242 = .ok (.iload_n 3, 1) := by decide +kernel
theorem d_So_evaluate_243 : decode y_So_evaluate.2.1 243 = .ok (.iaload, 1) := by decide +kernel
theorem d_So_evaluate_244 : decode y_So_evaluate.2.1 244 = .ok (.aaload, 1) := by decide +kernel
theorem d_So_evaluate_245 : decode y_So_evaluate.2.1 245 = .ok (.astore 4, 2) := by decide +kernel
theorem d_So_evaluate_247 : decode y_So_evaluate.2.1 247 = .ok (.aload 4, 2) := by decide +kernel
theorem d_So_evaluate_249 : decode y_So_evaluate.2.1 249 = .ok (.getfield 173, 3) := by decide +kernel
theorem d_So_evaluate_252 : decode y_So_evaluate.2.1 252 = .ok (.aload_n 0, 1) := by decide +kernel
theorem d_So_evaluate_253 : decode y_So_evaluate.2.1 253 = .ok (.getfield 28, 3) := by decide +kernel
theorem d_So_evaluate_256 : decode y_So_evaluate.2.1 256 = .ok (.getfield 177, 3) := by decide +kernel
theorem d_So_evaluate_259 : decode y_So_evaluate.2.1 259 = .ok (.iload_n 3, 1) := by decide +kernel
theorem d_So_evaluate_260 : decode y_So_evaluate.2.1 260 = .ok (.aaload, 1) := by decide +kernel
theorem d_So_evaluate_261 : decode y_So_evaluate.2.1 261 = .ok (.invokevirtual 181, 3) := by decide +kernel
theorem d_So_evaluate_264 : decode y_So_evaluate.2.1 264 = .ok (.aload 4, 2) := by decide +kernel
theorem d_So_evaluate_266 : decode y_So_evaluate.2.1 266 = .ok (.getfield 187, 3) := by decide +kernel
theorem d_So_evaluate_269 : decode y_So_evaluate.2.1 269 = .ok (.aload_n 0, 1) := by decide +kernel
theorem d_So_evaluate_270 : decode y_So_evaluate.2.1 270 = .ok (.getfield 28, 3) := by decide +kernel
theorem d_So_evaluate_273 : decode y_So_evaluate.2.1 273 = .ok (.getfield 177, 3) := by decide +kernel
theorem d_So_evaluate_276 : decode y_So_evaluate.2.1 276 = .ok (.aload_n 0, 1) := by decide +kernel
theorem d_So_evaluate_277 : decode y_So_evaluate.2.1 277 = .ok (.getfield 122, 3) := by decide +kernel
theorem d_So_evaluate_280 : decode y_So_evaluate.2.1 280 = .ok (.aaload, 1) := by decide +kernel
theorem d_So_evaluate_281 : decode y_So_evaluate.2.1 281 = .ok (.invokevirtual 181, 3) := by decide +kernel
theorem d_So_evaluate_284 : decode y_So_evaluate.2.1 284 = .ok (.iinc 3 1, 3) := by decide +kernel
theorem d_So_evaluate_287 : decode y_So_evaluate.2.1 287 = .ok (.goto (-61), 3) := by decide +kernel
def h_So_evaluate_15 (G : mG) (d : Nat) (a0 : Nat) (a1 : Nat) (l2 : Int) (l3 : Int) (M : mM) (Q : mM → Prop) : Prop := mWm G y_So_evaluate (d + 1) 15 [vr a0, vr a1, vi l2, vi l3, vd, vd, vd, vd, vd] [] M (fun r9 M9 => r9 = none ∧ Q M9)
def h_So_evaluate_86 (G : mG) (d : Nat) (a0 : Nat) (a1 : Nat) (l2 : Int) (l3 : Int) (l4 : Int) (l5 : Int) (l7 : Int) (M : mM) (Q : mM → Prop) : Prop := mWm G y_So_evaluate (d + 1) 86 [vr a0, vr a1, vi l2, vi l3, vi l4, vi l5, vd, vi l7, vd] [] M (fun r9 M9 => r9 = none ∧ Q M9)
def h_So_evaluate_226 (G : mG) (d : Nat) (a0 : Nat) (a1 : Nat) (l3 : Int) (M : mM) (Q : mM → Prop) : Prop := mWm G y_So_evaluate (d + 1) 226 [vr a0, vr a1, vd, vi l3, vd, vd, vd, vd, vd] [] M (fun r9 M9 => r9 = none ∧ Q M9)
theorem k_So_evaluate {G : mG} {d : Nat} {a0 : Nat} {a1 : Nat} {M : mM} {Q : mM → Prop} (hO : mOk M)
    (h : mK M a0 = 8 ∧ mK M (mR M a0 4) = 12 ∧ Cv G y_JA_fill d [vr (mR M (mR M a0 4) 0), vi 0] M (fun M3 => mOk M3 ∧ (h_So_evaluate_15 G d a0 a1 0 0 M3 Q))) :
    Cv G y_So_evaluate (d + 1) [vr a0, vr a1] M Q := by
  refine wm_open (y := y_So_evaluate) rfl (Nat.le_of_ble_eq_true rfl) (L := [vr a0, vr a1, vd, vd, vd, vd, vd, vd, vd]) rfl ?_
  obtain ⟨h1, h⟩ := h
  obtain ⟨h2, h⟩ := h
  refine wm_aload_n d_So_evaluate_0 rfl rfl ?_
  refine gf_So_28 rfl d_So_evaluate_1 h1 ?_
  refine gf_So_159 rfl d_So_evaluate_4 h2 ?_
  refine wm_iconst d_So_evaluate_7 ?_
  refine cf_So_125 rfl d_So_evaluate_8 (Nat.le_of_ble_eq_true rfl) (Cv.mono h (fun M3 h => ?_))
  obtain ⟨hOM3, h⟩ := h
  refine wm_iconst d_So_evaluate_11 ?_
  refine wm_istore_n d_So_evaluate_12 rfl (by decide) (L' := [vr a0, vr a1, vi 0, vd, vd, vd, vd, vd, vd]) rfl ?_
  refine wm_iconst d_So_evaluate_13 ?_
  refine wm_istore_n d_So_evaluate_14 rfl (by decide) (L' := [vr a0, vr a1, vi 0, vi 0, vd, vd, vd, vd, vd]) rfl ?_
  exact h
theorem k_So_evaluate_15 {G : mG} {d : Nat} {a0 : Nat} {a1 : Nat} {l2 : Int} {l3 : Int} {M : mM} {Q : mM → Prop} (hO : mOk M) (hi_l2 : i32 l2) (hi_l3 : i32 l3)
    (h : mK M a0 = 8 ∧ ((mI M a0 10 ≤ l3) → (mK M (mR M a0 4) = 12 ∧ Cv G y_Re_settle d [vr (mR M a0 4), vi (mI M a0 10), vi l2] M (fun M10 => mOk M10 ∧ (h_So_evaluate_226 G d a0 a1 0 M10 Q)))) ∧ (¬ (mI M a0 10 ≤ l3) → (mK M (mR M a0 9) = 30 ∧ ((0 : Int) ≤ l3 ∧ l3 < (mN M (mR M a0 9) : Int)) ∧ mK M (mR M a0 3) = 7 ∧ mK M (mR M (mR M a0 3) 6) = 30 ∧ ((0 : Int) ≤ mI M (mR M a0 9) (Int.toNat l3) ∧ mI M (mR M a0 9) (Int.toNat l3) < (mN M (mR M (mR M a0 3) 6) : Int)) ∧ mK M (mR M a0 4) = 12 ∧ mK M (mR M (mR M a0 4) 0) = 30 ∧ ((0 : Int) ≤ (l3 * 41) + l3 ∧ (l3 * 41) + l3 < (mN M (mR M (mR M a0 4) 0) : Int)) ∧ ∀ M21, M21 = mUI M (mR M (mR M a0 4) 0) (Int.toNat ((l3 * 41) + l3)) (mI M (mR M (mR M a0 3) 6) (Int.toNat (mI M (mR M a0 9) (Int.toNat l3)))) → Ci G y_JI_nlz d [vi (mI M (mR M (mR M a0 3) 6) (Int.toNat (mI M (mR M a0 9) (Int.toNat l3))))] M21 (fun x24 M23 => i32 x24 ∧ mOk M23 ∧ (mK M23 a0 = 8 ∧ mK M23 (mR M23 a0 3) = 7 ∧ mK M23 (mR M23 (mR M23 a0 3) 7) = 30 ∧ ((0 : Int) ≤ mI M (mR M a0 9) (Int.toNat l3) ∧ mI M (mR M a0 9) (Int.toNat l3) < (mN M23 (mR M23 (mR M23 a0 3) 7) : Int)) ∧ h_So_evaluate_86 G d a0 a1 (l2 + (32 - x24)) l3 (l3 * 41) (mI M (mR M a0 9) (Int.toNat l3)) (mI M23 (mR M23 (mR M23 a0 3) 7) (Int.toNat (mI M (mR M a0 9) (Int.toNat l3)))) M23 Q))))) :
    h_So_evaluate_15 G d a0 a1 l2 l3 M Q := by
  unfold h_So_evaluate_15
  obtain ⟨h6, h⟩ := h
  refine wm_iload_n d_So_evaluate_15 rfl rfl ?_
  refine wm_aload_n d_So_evaluate_16 rfl rfl ?_
  refine gf_So_122 rfl d_So_evaluate_17 h6 ?_
  refine wm_icmp_ge (tgt := 212) d_So_evaluate_20 rfl hi_l3 (hO _ _).1 (fun c8 => ?_) (fun c8 => ?_)
  · replace h := h.1 c8
    obtain ⟨h9, h⟩ := h
    refine wm_aload_n d_So_evaluate_212 rfl rfl ?_
    refine gf_So_28 rfl d_So_evaluate_213 h6 ?_
    refine wm_aload_n d_So_evaluate_216 rfl rfl ?_
    refine gf_So_122 rfl d_So_evaluate_217 h6 ?_
    refine wm_iload_n d_So_evaluate_220 rfl rfl ?_
    refine cf_So_165 rfl d_So_evaluate_221 h9 (Nat.le_of_ble_eq_true rfl) (Cv.mono h (fun M10 h => ?_))
    obtain ⟨hOM10, h⟩ := h
    refine wm_iconst d_So_evaluate_224 ?_
    refine wm_istore_n d_So_evaluate_225 rfl (by decide) (L' := [vr a0, vr a1, vi l2, vi 0, vd, vd, vd, vd, vd]) rfl ?_
    refine wm_less (L' := [vr a0, vr a1, vd, vi 0, vd, vd, vd, vd, vd]) ⟨Or.inr rfl, Or.inr rfl, Or.inl rfl, Or.inr rfl, Or.inl rfl, Or.inl rfl, Or.inl rfl, Or.inl rfl, Or.inl rfl, trivial⟩ ?_
    exact h
  · replace h := h.2 c8
    obtain ⟨h13, h⟩ := h
    obtain ⟨h14, h⟩ := h
    obtain ⟨h15, h⟩ := h
    obtain ⟨h16, h⟩ := h
    obtain ⟨h17, h⟩ := h
    obtain ⟨h18, h⟩ := h
    obtain ⟨h19, h⟩ := h
    obtain ⟨h20, h⟩ := h
    obtain ⟨M21, e22⟩ : ∃ M21, M21 = mUI M (mR M (mR M a0 4) 0) (Int.toNat ((l3 * 41) + l3)) (mI M (mR M (mR M a0 3) 6) (Int.toNat (mI M (mR M a0 9) (Int.toNat l3)))) := ⟨_, rfl⟩
    replace h := h M21 e22
    refine wm_iload_n d_So_evaluate_23 rfl rfl ?_
    refine wm_bipush d_So_evaluate_24 (by decide) ?_
    refine wm_imul d_So_evaluate_26 ?_
    refine wm_istore d_So_evaluate_27 (by decide) (L' := [vr a0, vr a1, vi l2, vi l3, vi (l3 * 41), vd, vd, vd, vd]) rfl ?_
    refine wm_aload_n d_So_evaluate_29 rfl rfl ?_
    refine gf_So_44 rfl d_So_evaluate_30 h6 ?_
    refine wm_iload_n d_So_evaluate_33 rfl rfl ?_
    refine wm_iald d_So_evaluate_34 h13 h14 ?_
    refine wm_istore d_So_evaluate_35 (by decide) (L' := [vr a0, vr a1, vi l2, vi l3, vi (l3 * 41), vi (mI M (mR M a0 9) (Int.toNat l3)), vd, vd, vd]) rfl ?_
    refine wm_aload_n d_So_evaluate_37 rfl rfl ?_
    refine gf_So_64 rfl d_So_evaluate_38 h6 ?_
    refine gf_So_145 rfl d_So_evaluate_41 h15 ?_
    refine wm_iload d_So_evaluate_44 rfl ?_
    refine wm_iald d_So_evaluate_46 h16 h17 ?_
    refine wm_istore d_So_evaluate_47 (by decide) (L' := [vr a0, vr a1, vi l2, vi l3, vi (l3 * 41), vi (mI M (mR M a0 9) (Int.toNat l3)), vi (mI M (mR M (mR M a0 3) 6) (Int.toNat (mI M (mR M a0 9) (Int.toNat l3)))), vd, vd]) rfl ?_
    refine wm_aload_n d_So_evaluate_49 rfl rfl ?_
    refine gf_So_28 rfl d_So_evaluate_50 h6 ?_
    refine gf_So_159 rfl d_So_evaluate_53 h18 ?_
    refine wm_iload d_So_evaluate_56 rfl ?_
    refine wm_iload_n d_So_evaluate_58 rfl rfl ?_
    refine wm_iadd d_So_evaluate_59 ?_
    refine wm_iload d_So_evaluate_60 rfl ?_
    have hOM21 : mOk M21 := by rw [e22]; exact mOk_UI hO (hO _ _).1
    refine wm_iastE d_So_evaluate_62 h19 h20 (hO _ _).1 e22 ?_
    refine wm_iload_n d_So_evaluate_63 rfl rfl ?_
    refine wm_bipush d_So_evaluate_64 (by decide) ?_
    refine wm_iload d_So_evaluate_66 rfl ?_
    refine cf_So_154 rfl d_So_evaluate_68 (Nat.le_of_ble_eq_true rfl) (Ci.mono h (fun x24 M23 h => ?_))
    obtain ⟨h25, hOM23, h⟩ := h
    obtain ⟨h26, h⟩ := h
    obtain ⟨h27, h⟩ := h
    obtain ⟨h28, h⟩ := h
    obtain ⟨h29, h⟩ := h
    refine wm_isub d_So_evaluate_71 ?_
    refine wm_iadd d_So_evaluate_72 ?_
    refine wm_istore_n d_So_evaluate_73 rfl (by decide) (L' := [vr a0, vr a1, vi (l2 + (32 - x24)), vi l3, vi (l3 * 41), vi (mI M (mR M a0 9) (Int.toNat l3)), vi (mI M (mR M (mR M a0 3) 6) (Int.toNat (mI M (mR M a0 9) (Int.toNat l3)))), vd, vd]) rfl ?_
    refine wm_aload_n d_So_evaluate_74 rfl rfl ?_
    refine gf_So_64 rfl d_So_evaluate_75 h26 ?_
    refine gf_So_139 rfl d_So_evaluate_78 h27 ?_
    refine wm_iload d_So_evaluate_81 rfl ?_
    refine wm_iald d_So_evaluate_83 h28 h29 ?_
    refine wm_istore d_So_evaluate_84 (by decide) (L' := [vr a0, vr a1, vi (l2 + (32 - x24)), vi l3, vi (l3 * 41), vi (mI M (mR M a0 9) (Int.toNat l3)), vi (mI M (mR M (mR M a0 3) 6) (Int.toNat (mI M (mR M a0 9) (Int.toNat l3)))), vi (mI M23 (mR M23 (mR M23 a0 3) 7) (Int.toNat (mI M (mR M a0 9) (Int.toNat l3)))), vd]) rfl ?_
    refine wm_less (L' := [vr a0, vr a1, vi (l2 + (32 - x24)), vi l3, vi (l3 * 41), vi (mI M (mR M a0 9) (Int.toNat l3)), vd, vi (mI M23 (mR M23 (mR M23 a0 3) 7) (Int.toNat (mI M (mR M a0 9) (Int.toNat l3)))), vd]) ⟨Or.inr rfl, Or.inr rfl, Or.inr rfl, Or.inr rfl, Or.inr rfl, Or.inr rfl, Or.inl rfl, Or.inr rfl, Or.inl rfl, trivial⟩ ?_
    exact h
theorem k_So_evaluate_86 {G : mG} {d : Nat} {a0 : Nat} {a1 : Nat} {l2 : Int} {l3 : Int} {l4 : Int} {l5 : Int} {l7 : Int} {M : mM} {Q : mM → Prop} (hO : mOk M) (hi_l2 : i32 l2) (hi_l3 : i32 l3) (hi_l4 : i32 l4) (hi_l5 : i32 l5) (hi_l7 : i32 l7)
    (h : mK M a0 = 8 ∧ mK M (mR M a0 3) = 7 ∧ mK M (mR M (mR M a0 3) 7) = 30 ∧ ((0 : Int) ≤ l5 + 1 ∧ l5 + 1 < (mN M (mR M (mR M a0 3) 7) : Int)) ∧ ((mI M (mR M (mR M a0 3) 7) (Int.toNat (l5 + 1)) ≤ l7) → (h_So_evaluate_15 G d a0 a1 l2 (l3 + 1) M Q)) ∧ (¬ (mI M (mR M (mR M a0 3) 7) (Int.toNat (l5 + 1)) ≤ l7) → (mK M (mR M (mR M a0 3) 8) = 30 ∧ ((0 : Int) ≤ l7 ∧ l7 < (mN M (mR M (mR M a0 3) 8) : Int)) ∧ mK M (mR M a0 7) = 30 ∧ ((0 : Int) ≤ mI M (mR M (mR M a0 3) 8) (Int.toNat l7) ∧ mI M (mR M (mR M a0 3) 8) (Int.toNat l7) < (mN M (mR M a0 7) : Int)) ∧ (((mI M (mR M a0 7) (Int.toNat (mI M (mR M (mR M a0 3) 8) (Int.toNat l7))) = (-1)) → (mK M (mR M (mR M a0 3) 2) = 30 ∧ ((0 : Int) ≤ mI M (mR M (mR M a0 3) 8) (Int.toNat l7) ∧ mI M (mR M (mR M a0 3) 8) (Int.toNat l7) < (mN M (mR M (mR M a0 3) 2) : Int)) ∧ ((mI M (mR M (mR M a0 3) 2) (Int.toNat (mI M (mR M (mR M a0 3) 8) (Int.toNat l7))) = 3) → (mK M (mR M a0 4) = 12 ∧ mK M (mR M (mR M a0 4) 0) = 30 ∧ ((0 : Int) ≤ l4 + 40 ∧ l4 + 40 < (mN M (mR M (mR M a0 4) 0) : Int)) ∧ mK M (mR M (mR M a0 3) 9) = 30 ∧ ((0 : Int) ≤ l7 ∧ l7 < (mN M (mR M (mR M a0 3) 9) : Int)) ∧ ((0 : Int) ≤ l4 + 40 ∧ l4 + 40 < (mN M (mR M (mR M a0 4) 0) : Int)) ∧ i32 ((mI M (mR M (mR M a0 4) 0) (Int.toNat (l4 + 40))) + (mI M (mR M (mR M a0 3) 9) (Int.toNat l7))))))) ∧ (¬ (mI M (mR M a0 7) (Int.toNat (mI M (mR M (mR M a0 3) 8) (Int.toNat l7))) = (-1)) → (mK M (mR M a0 4) = 12 ∧ ((0 : Int) ≤ mI M (mR M (mR M a0 3) 8) (Int.toNat l7) ∧ mI M (mR M (mR M a0 3) 8) (Int.toNat l7) < (mN M (mR M a0 7) : Int)) ∧ mK M (mR M (mR M a0 4) 0) = 30 ∧ ((0 : Int) ≤ l4 + (mI M (mR M a0 7) (Int.toNat (mI M (mR M (mR M a0 3) 8) (Int.toNat l7)))) ∧ l4 + (mI M (mR M a0 7) (Int.toNat (mI M (mR M (mR M a0 3) 8) (Int.toNat l7)))) < (mN M (mR M (mR M a0 4) 0) : Int)) ∧ mK M (mR M (mR M a0 3) 9) = 30 ∧ ((0 : Int) ≤ l7 ∧ l7 < (mN M (mR M (mR M a0 3) 9) : Int)) ∧ ((0 : Int) ≤ l4 + (mI M (mR M a0 7) (Int.toNat (mI M (mR M (mR M a0 3) 8) (Int.toNat l7)))) ∧ l4 + (mI M (mR M a0 7) (Int.toNat (mI M (mR M (mR M a0 3) 8) (Int.toNat l7)))) < (mN M (mR M (mR M a0 4) 0) : Int)) ∧ i32 ((mI M (mR M (mR M a0 4) 0) (Int.toNat (l4 + (mI M (mR M a0 7) (Int.toNat (mI M (mR M (mR M a0 3) 8) (Int.toNat l7))))))) - (mI M (mR M (mR M a0 3) 9) (Int.toNat l7)))))) ∧ ∀ M63 : mM, M63 = (if mI M (mR M a0 7) (Int.toNat (mI M (mR M (mR M a0 3) 8) (Int.toNat l7))) = (-1) then (if mI M (mR M (mR M a0 3) 2) (Int.toNat (mI M (mR M (mR M a0 3) 8) (Int.toNat l7))) = 3 then (mUI M (mR M (mR M a0 4) 0) (Int.toNat (l4 + 40)) ((mI M (mR M (mR M a0 4) 0) (Int.toNat (l4 + 40))) + (mI M (mR M (mR M a0 3) 9) (Int.toNat l7)))) else M) else (mUI M (mR M (mR M a0 4) 0) (Int.toNat (l4 + (mI M (mR M a0 7) (Int.toNat (mI M (mR M (mR M a0 3) 8) (Int.toNat l7)))))) ((mI M (mR M (mR M a0 4) 0) (Int.toNat (l4 + (mI M (mR M a0 7) (Int.toNat (mI M (mR M (mR M a0 3) 8) (Int.toNat l7))))))) - (mI M (mR M (mR M a0 3) 9) (Int.toNat l7))))) → mOk M63 ∧ h_So_evaluate_86 G d a0 a1 l2 l3 l4 l5 (l7 + 1) M63 Q))) :
    h_So_evaluate_86 G d a0 a1 l2 l3 l4 l5 l7 M Q := by
  unfold h_So_evaluate_86
  obtain ⟨h30, h⟩ := h
  obtain ⟨h31, h⟩ := h
  obtain ⟨h32, h⟩ := h
  obtain ⟨h33, h⟩ := h
  refine wm_iload d_So_evaluate_86 rfl ?_
  refine wm_aload_n d_So_evaluate_88 rfl rfl ?_
  refine gf_So_64 rfl d_So_evaluate_89 h30 ?_
  refine gf_So_139 rfl d_So_evaluate_92 h31 ?_
  refine wm_iload d_So_evaluate_95 rfl ?_
  refine wm_iconst d_So_evaluate_97 ?_
  refine wm_iadd d_So_evaluate_98 ?_
  refine wm_iald d_So_evaluate_99 h32 h33 ?_
  refine wm_icmp_ge (tgt := 206) d_So_evaluate_100 rfl hi_l7 (hO _ _).1 (fun c39 => ?_) (fun c39 => ?_)
  · replace h := h.1 c39
    refine wm_iinc d_So_evaluate_206 (by decide) rfl (L' := [vr a0, vr a1, vi l2, vi (l3 + 1), vi l4, vi l5, vd, vi l7, vd]) rfl ?_
    refine wm_goto (tgt := 15) d_So_evaluate_209 rfl ?_
    refine wm_less (L' := [vr a0, vr a1, vi l2, vi (l3 + 1), vd, vd, vd, vd, vd]) ⟨Or.inr rfl, Or.inr rfl, Or.inr rfl, Or.inr rfl, Or.inl rfl, Or.inl rfl, Or.inl rfl, Or.inl rfl, Or.inl rfl, trivial⟩ ?_
    exact h
  · replace h := h.2 c39
    obtain ⟨h40, h⟩ := h
    obtain ⟨h41, h⟩ := h
    obtain ⟨h42, h⟩ := h
    obtain ⟨h43, h⟩ := h
    refine wm_aload_n d_So_evaluate_103 rfl rfl ?_
    refine gf_So_64 rfl d_So_evaluate_104 h30 ?_
    refine gf_So_142 rfl d_So_evaluate_107 h31 ?_
    refine wm_iload d_So_evaluate_110 rfl ?_
    refine wm_iald d_So_evaluate_112 h40 h41 ?_
    refine wm_istore d_So_evaluate_113 (by decide) (L' := [vr a0, vr a1, vi l2, vi l3, vi l4, vi l5, vd, vi l7, vi (mI M (mR M (mR M a0 3) 8) (Int.toNat l7))]) rfl ?_
    refine wm_aload_n d_So_evaluate_115 rfl rfl ?_
    refine gf_So_38 rfl d_So_evaluate_116 h30 ?_
    refine wm_iload d_So_evaluate_119 rfl ?_
    refine wm_iald d_So_evaluate_121 h42 h43 ?_
    refine wm_iconst d_So_evaluate_122 ?_
    obtain ⟨s64, h⟩ := h
    have hJ : ∀ M63 : mM, M63 = (if mI M (mR M a0 7) (Int.toNat (mI M (mR M (mR M a0 3) 8) (Int.toNat l7))) = (-1) then (if mI M (mR M (mR M a0 3) 2) (Int.toNat (mI M (mR M (mR M a0 3) 8) (Int.toNat l7))) = 3 then (mUI M (mR M (mR M a0 4) 0) (Int.toNat (l4 + 40)) ((mI M (mR M (mR M a0 4) 0) (Int.toNat (l4 + 40))) + (mI M (mR M (mR M a0 3) 9) (Int.toNat l7)))) else M) else (mUI M (mR M (mR M a0 4) 0) (Int.toNat (l4 + (mI M (mR M a0 7) (Int.toNat (mI M (mR M (mR M a0 3) 8) (Int.toNat l7)))))) ((mI M (mR M (mR M a0 4) 0) (Int.toNat (l4 + (mI M (mR M a0 7) (Int.toNat (mI M (mR M (mR M a0 3) 8) (Int.toNat l7))))))) - (mI M (mR M (mR M a0 3) 9) (Int.toNat l7))))) → mWm G y_So_evaluate (d + 1) 200 [vr a0, vr a1, vi l2, vi l3, vi l4, vi l5, vd, vi l7, vd] [] M63 (fun r9 M9 => r9 = none ∧ Q M9) := by
      intro M63 e65
      have h := h M63 e65
      have h66 : mK M63 = mK M := by rw [e65]; (repeat' split) <;> rfl
      obtain ⟨hOM63, h⟩ := h
      refine wm_iinc d_So_evaluate_200 (by decide) rfl (L' := [vr a0, vr a1, vi l2, vi l3, vi l4, vi l5, vd, vi (l7 + 1), vd]) rfl ?_
      refine wm_goto (tgt := 86) d_So_evaluate_203 rfl ?_
      exact h
    clear h
    obtain ⟨s67, s68⟩ := s64
    refine wm_icmp_eq (tgt := 160) d_So_evaluate_123 rfl (hO _ _).1 ⟨by decide, by decide⟩ (fun c44 => ?_) (fun c44 => ?_)
    · have s67 := s67 c44
      obtain ⟨h45, h46, s69⟩ := s67
      refine wm_aload_n d_So_evaluate_160 rfl rfl ?_
      refine gf_So_64 rfl d_So_evaluate_161 h30 ?_
      refine gf_So_113 rfl d_So_evaluate_164 h31 ?_
      refine wm_iload d_So_evaluate_167 rfl ?_
      refine wm_iald d_So_evaluate_169 h45 h46 ?_
      refine wm_iconst d_So_evaluate_170 ?_
      refine wm_icmp_ne (tgt := 200) d_So_evaluate_171 rfl (hO _ _).1 ⟨by decide, by decide⟩ (fun c47 => ?_) (fun c47 => ?_)
      · refine wm_less (L' := [vr a0, vr a1, vi l2, vi l3, vi l4, vi l5, vd, vi l7, vd]) ⟨Or.inr rfl, Or.inr rfl, Or.inr rfl, Or.inr rfl, Or.inr rfl, Or.inr rfl, Or.inl rfl, Or.inr rfl, Or.inl rfl, trivial⟩ ?_
        exact hJ M (by rw [if_pos c44, if_neg c47])
      · replace c47 := Classical.not_not.mp c47
        have s69 := s69 c47
        obtain ⟨h48, h49, h50, h51, h52, h53, h54⟩ := s69
        refine wm_aload_n d_So_evaluate_174 rfl rfl ?_
        refine gf_So_28 rfl d_So_evaluate_175 h30 ?_
        refine gf_So_159 rfl d_So_evaluate_178 h48 ?_
        refine wm_iload d_So_evaluate_181 rfl ?_
        refine wm_bipush d_So_evaluate_183 (by decide) ?_
        refine wm_iadd d_So_evaluate_185 ?_
        refine wm_dup2 d_So_evaluate_186 rfl rfl ?_
        refine wm_iald d_So_evaluate_187 h49 h50 ?_
        refine wm_aload_n d_So_evaluate_188 rfl rfl ?_
        refine gf_So_64 rfl d_So_evaluate_189 h30 ?_
        refine gf_So_162 rfl d_So_evaluate_192 h31 ?_
        refine wm_iload d_So_evaluate_195 rfl ?_
        refine wm_iald d_So_evaluate_197 h51 h52 ?_
        refine wm_iadd d_So_evaluate_198 ?_
        refine wm_iastE d_So_evaluate_199 h49 h53 h54 rfl ?_
        refine wm_less (L' := [vr a0, vr a1, vi l2, vi l3, vi l4, vi l5, vd, vi l7, vd]) ⟨Or.inr rfl, Or.inr rfl, Or.inr rfl, Or.inr rfl, Or.inr rfl, Or.inr rfl, Or.inl rfl, Or.inr rfl, Or.inl rfl, trivial⟩ ?_
        exact hJ (mUI M (mR M (mR M a0 4) 0) (Int.toNat (l4 + 40)) ((mI M (mR M (mR M a0 4) 0) (Int.toNat (l4 + 40))) + (mI M (mR M (mR M a0 3) 9) (Int.toNat l7)))) (by rw [if_pos c44, if_pos c47])
    · have s68 := s68 c44
      obtain ⟨h55, h56, h57, h58, h59, h60, h61, h62⟩ := s68
      refine wm_aload_n d_So_evaluate_126 rfl rfl ?_
      refine gf_So_28 rfl d_So_evaluate_127 h30 ?_
      refine gf_So_159 rfl d_So_evaluate_130 h55 ?_
      refine wm_iload d_So_evaluate_133 rfl ?_
      refine wm_aload_n d_So_evaluate_135 rfl rfl ?_
      refine gf_So_38 rfl d_So_evaluate_136 h30 ?_
      refine wm_iload d_So_evaluate_139 rfl ?_
      refine wm_iald d_So_evaluate_141 h42 h56 ?_
      refine wm_iadd d_So_evaluate_142 ?_
      refine wm_dup2 d_So_evaluate_143 rfl rfl ?_
      refine wm_iald d_So_evaluate_144 h57 h58 ?_
      refine wm_aload_n d_So_evaluate_145 rfl rfl ?_
      refine gf_So_64 rfl d_So_evaluate_146 h30 ?_
      refine gf_So_162 rfl d_So_evaluate_149 h31 ?_
      refine wm_iload d_So_evaluate_152 rfl ?_
      refine wm_iald d_So_evaluate_154 h59 h60 ?_
      refine wm_isub d_So_evaluate_155 ?_
      refine wm_iastE d_So_evaluate_156 h57 h61 h62 rfl ?_
      refine wm_goto (tgt := 200) d_So_evaluate_157 rfl ?_
      refine wm_less (L' := [vr a0, vr a1, vi l2, vi l3, vi l4, vi l5, vd, vi l7, vd]) ⟨Or.inr rfl, Or.inr rfl, Or.inr rfl, Or.inr rfl, Or.inr rfl, Or.inr rfl, Or.inl rfl, Or.inr rfl, Or.inl rfl, trivial⟩ ?_
      exact hJ (mUI M (mR M (mR M a0 4) 0) (Int.toNat (l4 + (mI M (mR M a0 7) (Int.toNat (mI M (mR M (mR M a0 3) 8) (Int.toNat l7)))))) ((mI M (mR M (mR M a0 4) 0) (Int.toNat (l4 + (mI M (mR M a0 7) (Int.toNat (mI M (mR M (mR M a0 3) 8) (Int.toNat l7))))))) - (mI M (mR M (mR M a0 3) 9) (Int.toNat l7)))) (by rw [if_neg c44])
theorem k_So_evaluate_226 {G : mG} {d : Nat} {a0 : Nat} {a1 : Nat} {l3 : Int} {M : mM} {Q : mM → Prop} (hO : mOk M) (hi_l3 : i32 l3)
    (h : mK M a0 = 8 ∧ ((mI M a0 10 ≤ l3) → (Q M)) ∧ (¬ (mI M a0 10 ≤ l3) → (mK M a1 = 13 ∧ mK M (mR M a0 8) = 30 ∧ ((0 : Int) ≤ l3 ∧ l3 < (mN M (mR M a0 8) : Int)) ∧ mK M (mR M a1 0) = 35 ∧ ((0 : Int) ≤ mI M (mR M a0 8) (Int.toNat l3) ∧ mI M (mR M a0 8) (Int.toNat l3) < (mN M (mR M a1 0) : Int)) ∧ mK M (mR M (mR M a1 0) (Int.toNat (mI M (mR M a0 8) (Int.toNat l3)))) = 11 ∧ mK M (mR M a0 4) = 12 ∧ mK M (mR M (mR M a0 4) 1) = 34 ∧ ((0 : Int) ≤ l3 ∧ l3 < (mN M (mR M (mR M a0 4) 1) : Int)) ∧ mK M (mR M (mR M (mR M a1 0) (Int.toNat (mI M (mR M a0 8) (Int.toNat l3)))) 0) = 10 ∧ Cv G y_Na_put1 d [vr (mR M (mR M (mR M a1 0) (Int.toNat (mI M (mR M a0 8) (Int.toNat l3)))) 0), vr (mR M (mR M (mR M a0 4) 1) (Int.toNat l3))] M (fun M83 => mOk M83 ∧ (mK M83 (mR M (mR M a1 0) (Int.toNat (mI M (mR M a0 8) (Int.toNat l3)))) = 11 ∧ mK M83 a0 = 8 ∧ mK M83 (mR M83 a0 4) = 12 ∧ mK M83 (mR M83 (mR M83 a0 4) 1) = 34 ∧ ((0 : Int) ≤ mI M83 a0 10 ∧ mI M83 a0 10 < (mN M83 (mR M83 (mR M83 a0 4) 1) : Int)) ∧ mK M83 (mR M83 (mR M (mR M a1 0) (Int.toNat (mI M (mR M a0 8) (Int.toNat l3)))) 1) = 10 ∧ Cv G y_Na_put1 d [vr (mR M83 (mR M (mR M a1 0) (Int.toNat (mI M (mR M a0 8) (Int.toNat l3)))) 1), vr (mR M83 (mR M83 (mR M83 a0 4) 1) (Int.toNat (mI M83 a0 10)))] M83 (fun M92 => mOk M92 ∧ (h_So_evaluate_226 G d a0 a1 (l3 + 1) M92 Q))))))) :
    h_So_evaluate_226 G d a0 a1 l3 M Q := by
  unfold h_So_evaluate_226
  obtain ⟨h70, h⟩ := h
  refine wm_iload_n d_So_evaluate_226 rfl rfl ?_
  refine wm_aload_n d_So_evaluate_227 rfl rfl ?_
  refine gf_So_122 rfl d_So_evaluate_228 h70 ?_
  refine wm_icmp_ge (tgt := 290) d_So_evaluate_231 rfl hi_l3 (hO _ _).1 (fun c72 => ?_) (fun c72 => ?_)
  · replace h := h.1 c72
    refine wm_return d_So_evaluate_290 rfl ?_
    exact ⟨rfl, h⟩
  · replace h := h.2 c72
    obtain ⟨h73, h⟩ := h
    obtain ⟨h74, h⟩ := h
    obtain ⟨h75, h⟩ := h
    obtain ⟨h76, h⟩ := h
    obtain ⟨h77, h⟩ := h
    obtain ⟨h78, h⟩ := h
    obtain ⟨h79, h⟩ := h
    obtain ⟨h80, h⟩ := h
    obtain ⟨h81, h⟩ := h
    obtain ⟨h82, h⟩ := h
    refine wm_aload_n d_So_evaluate_234 rfl rfl ?_
    refine gf_So_169 rfl d_So_evaluate_235 h73 ?_
    refine wm_aload_n d_So_evaluate_238 rfl rfl ?_
    refine gf_So_41 rfl d_So_evaluate_239 h70 ?_
    refine wm_iload_n d_So_evaluate_242 rfl rfl ?_
    refine wm_iald d_So_evaluate_243 h74 h75 ?_
    refine wm_aald5 d_So_evaluate_244 h76 h77 ?_
    refine wm_astore d_So_evaluate_245 (by decide) (L' := [vr a0, vr a1, vd, vi l3, vr (mR M (mR M a1 0) (Int.toNat (mI M (mR M a0 8) (Int.toNat l3)))), vd, vd, vd, vd]) rfl ?_
    refine wm_aload d_So_evaluate_247 rfl ?_
    refine gf_So_173 rfl d_So_evaluate_249 h78 ?_
    refine wm_aload_n d_So_evaluate_252 rfl rfl ?_
    refine gf_So_28 rfl d_So_evaluate_253 h70 ?_
    refine gf_So_177 rfl d_So_evaluate_256 h79 ?_
    refine wm_iload_n d_So_evaluate_259 rfl rfl ?_
    refine wm_aald4 d_So_evaluate_260 h80 h81 ?_
    refine cf_So_181 rfl d_So_evaluate_261 h82 (Nat.le_of_ble_eq_true rfl) (Cv.mono h (fun M83 h => ?_))
    obtain ⟨hOM83, h⟩ := h
    obtain ⟨h86, h⟩ := h
    obtain ⟨h87, h⟩ := h
    obtain ⟨h88, h⟩ := h
    obtain ⟨h89, h⟩ := h
    obtain ⟨h90, h⟩ := h
    obtain ⟨h91, h⟩ := h
    refine wm_aload d_So_evaluate_264 rfl ?_
    refine gf_So_187 rfl d_So_evaluate_266 h86 ?_
    refine wm_aload_n d_So_evaluate_269 rfl rfl ?_
    refine gf_So_28 rfl d_So_evaluate_270 h87 ?_
    refine gf_So_177 rfl d_So_evaluate_273 h88 ?_
    refine wm_aload_n d_So_evaluate_276 rfl rfl ?_
    refine gf_So_122 rfl d_So_evaluate_277 h87 ?_
    refine wm_aald4 d_So_evaluate_280 h89 h90 ?_
    refine cf_So_181 rfl d_So_evaluate_281 h91 (Nat.le_of_ble_eq_true rfl) (Cv.mono h (fun M92 h => ?_))
    obtain ⟨hOM92, h⟩ := h
    refine wm_iinc d_So_evaluate_284 (by decide) rfl (L' := [vr a0, vr a1, vd, vi (l3 + 1), vr (mR M (mR M a1 0) (Int.toNat (mI M (mR M a0 8) (Int.toNat l3)))), vd, vd, vd, vd]) rfl ?_
    refine wm_goto (tgt := 226) d_So_evaluate_287 rfl ?_
    refine wm_less (L' := [vr a0, vr a1, vd, vi (l3 + 1), vd, vd, vd, vd, vd]) ⟨Or.inr rfl, Or.inr rfl, Or.inl rfl, Or.inr rfl, Or.inl rfl, Or.inl rfl, Or.inl rfl, Or.inl rfl, Or.inl rfl, trivial⟩ ?_
    exact h
theorem d_So_improve_0 : decode y_So_improve.2.1 0 = .ok (.iconst 0, 1) := by decide +kernel
theorem d_So_improve_1 : decode y_So_improve.2.1 1 = .ok (.istore_n 3, 1) := by decide +kernel
theorem d_So_improve_2 : decode y_So_improve.2.1 2 = .ok (.iconst 0, 1) := by decide +kernel
theorem d_So_improve_3 : decode y_So_improve.2.1 3 = .ok (.istore 4, 2) := by decide +kernel
theorem d_So_improve_5 : decode y_So_improve.2.1 5 = .ok (.iload 4, 2) := by decide +kernel
theorem d_So_improve_7 : decode y_So_improve.2.1 7 = .ok (.aload_n 0, 1) := by decide +kernel
theorem d_So_improve_8 : decode y_So_improve.2.1 8 = .ok (.getfield 122, 3) := by decide +kernel
theorem d_So_improve_11 : decode y_So_improve.2.1 11 = .ok (.if_icmp .ge 117, 3) := by decide +kernel
theorem d_So_improve_128 : decode y_So_improve.2.1 128 = .ok (.iload_n 3, 1) := by decide +kernel
theorem d_So_improve_129 : decode y_So_improve.2.1 129 = .ok (.ireturn, 1) := by decide +kernel
theorem d_So_improve_14 : decode y_So_improve.2.1 14 = .ok (.aload_n 0, 1) := by decide +kernel
theorem d_So_improve_15 : decode y_So_improve.2.1 15 = .ok (.getfield 41, 3) := by decide +kernel
theorem d_So_improve_18 : decode y_So_improve.2.1 18 = .ok (.iload 4, 2) := by decide +kernel
theorem d_So_improve_20 : decode y_So_improve.2.1 20 = .ok (.iaload, 1) := by decide +kernel
theorem d_So_improve_21 : decode y_So_improve.2.1 21 = .ok (.istore 5, 2) := by decide +kernel
theorem d_So_improve_23 : decode y_So_improve.2.1 23 = .ok (.aload_n 0, 1) := by decide +kernel
theorem d_So_improve_24 : decode y_So_improve.2.1 24 = .ok (.getfield 64, 3) := by decide +kernel
theorem d_So_improve_27 : decode y_So_improve.2.1 27 = .ok (.getfield 113, 3) := by decide +kernel
theorem d_So_improve_30 : decode y_So_improve.2.1 30 = .ok (.iload 5, 2) := by decide +kernel
theorem d_So_improve_32 : decode y_So_improve.2.1 32 = .ok (.iaload, 1) := by decide +kernel
theorem d_So_improve_33 : decode y_So_improve.2.1 33 = .ok (.iload_n 1, 1) := by decide +kernel
theorem d_So_improve_34 : decode y_So_improve.2.1 34 = .ok (.if_icmp .ne 88, 3) := by decide +kernel
theorem d_So_improve_37 : decode y_So_improve.2.1 37 = .ok (.aload_n 0, 1) := by decide +kernel
theorem d_So_improve_38 : decode y_So_improve.2.1 38 = .ok (.getfield 35, 3) := by decide +kernel
theorem d_So_improve_41 : decode y_So_improve.2.1 41 = .ok (.iload 5, 2) := by decide +kernel
theorem d_So_improve_43 : decode y_So_improve.2.1 43 = .ok (.iaload, 1) := by decide +kernel
theorem d_So_improve_44 : decode y_So_improve.2.1 44 = .ok (.aload_n 0, 1) := by decide +kernel
theorem d_So_improve_45 : decode y_So_improve.2.1 45 = .ok (.getfield 32, 3) := by decide +kernel
theorem d_So_improve_48 : decode y_So_improve.2.1 48 = .ok (.iload 5, 2) := by decide +kernel
theorem d_So_improve_50 : decode y_So_improve.2.1 50 = .ok (.iaload, 1) := by decide +kernel
theorem d_So_improve_51 : decode y_So_improve.2.1 51 = .ok (.isub, 1) := by decide +kernel
theorem d_So_improve_52 : decode y_So_improve.2.1 52 = .ok (.iconst 1, 1) := by decide +kernel
theorem d_So_improve_53 : decode y_So_improve.2.1 53 = .ok (.if_icmp .le 69, 3) := by decide +kernel
theorem d_So_improve_56 : decode y_So_improve.2.1 56 = .ok (.aload_n 0, 1) := by decide +kernel
theorem d_So_improve_57 : decode y_So_improve.2.1 57 = .ok (.getfield 12, 3) := by decide +kernel
theorem d_So_improve_60 : decode y_So_improve.2.1 60 = .ok (.aload_n 0, 1) := by decide +kernel
theorem d_So_improve_61 : decode y_So_improve.2.1 61 = .ok (.getfield 64, 3) := by decide +kernel
theorem d_So_improve_64 : decode y_So_improve.2.1 64 = .ok (.aload_n 0, 1) := by decide +kernel
theorem d_So_improve_65 : decode y_So_improve.2.1 65 = .ok (.getfield 32, 3) := by decide +kernel
theorem d_So_improve_68 : decode y_So_improve.2.1 68 = .ok (.iload 5, 2) := by decide +kernel
theorem d_So_improve_70 : decode y_So_improve.2.1 70 = .ok (.iaload, 1) := by decide +kernel
theorem d_So_improve_71 : decode y_So_improve.2.1 71 = .ok (.aload_n 0, 1) := by decide +kernel
theorem d_So_improve_72 : decode y_So_improve.2.1 72 = .ok (.getfield 35, 3) := by decide +kernel
theorem d_So_improve_75 : decode y_So_improve.2.1 75 = .ok (.iload 5, 2) := by decide +kernel
theorem d_So_improve_77 : decode y_So_improve.2.1 77 = .ok (.iaload, 1) := by decide +kernel
theorem d_So_improve_78 : decode y_So_improve.2.1 78 = .ok (.iload_n 1, 1) := by decide +kernel
theorem d_So_improve_79 : decode y_So_improve.2.1 79 = .ok (.iconst 1, 1) := by decide +kernel
theorem d_So_improve_80 : decode y_So_improve.2.1 80 = .ok (.if_icmp .ne 7, 3) := by decide +kernel
theorem d_So_improve_83 : decode y_So_improve.2.1 83 = .ok (.iconst 1, 1) := by decide +kernel
theorem d_So_improve_84 : decode y_So_improve.2.1 84 = .ok (.goto 4, 3) := by decide +kernel
theorem d_So_improve_87 : decode y_So_improve.2.1 87 = .ok (.iconst 0, 1) := by decide +kernel
theorem d_So_improve_88 : decode y_So_improve.2.1 88 = .ok (.aload_n 2, 1) := by decide +kernel
theorem d_So_improve_89 : decode y_So_improve.2.1 89 = .ok (.invokevirtual 190, 3) := by decide +kernel
theorem d_So_improve_92 : decode y_So_improve.2.1 92 = .ok (.istore 6, 2) := by decide +kernel
theorem d_So_improve_94 : decode y_So_improve.2.1 94 = .ok (.aload_n 0, 1) := by decide +kernel
theorem d_So_improve_95 : decode y_So_improve.2.1 95 = .ok (.getfield 12, 3) := by decide +kernel
theorem d_So_improve_98 : decode y_So_improve.2.1 98 = .ok (.aload_n 2, 1) := by decide +kernel
theorem d_So_improve_99 : decode y_So_improve.2.1 99 = .ok (.getfield 169, 3) := by decide +kernel
theorem d_So_improve_102 : decode y_So_improve.2.1 102 = .ok (.iload 5, 2) := by decide +kernel
theorem d_So_improve_104 : decode y_So_improve.2.1 104 = .ok (.aaload, 1) := by decide +kernel
theorem d_So_improve_105 : decode y_So_improve.2.1 105 = .ok (.invokevirtual 194, 3) := by decide +kernel
theorem d_So_improve_108 : decode y_So_improve.2.1 108 = .ok (.ifCond .eq 14, 3) := by decide +kernel
theorem d_So_improve_111 : decode y_So_improve.2.1 111 = .ok (.aload_n 0, 1) := by decide +kernel
theorem d_So_improve_112 : decode y_So_improve.2.1 112 = .ok (.getfield 44, 3) := by decide +kernel
theorem d_So_improve_115 : decode y_So_improve.2.1 115 = .ok (.iload 4, 2) := by decide +kernel
theorem d_So_improve_117 : decode y_So_improve.2.1 117 = .ok (.iload 6, 2) := by decide +kernel
theorem d_So_improve_119 : decode y_So_improve.2.1 119 = .ok (.iastore, 1) := by decide +kernel
theorem d_So_improve_120 : decode y_So_improve.2.1 120 = .ok (.iconst 1, 1) := by decide +kernel
theorem d_So_improve_121 : decode y_So_improve.2.1 121 = .ok (.istore_n 3, 1) := by decide +kernel
theorem d_So_improve_122 : decode y_So_improve.2.1 122 = .ok (.iinc 4 1, 3) := by decide +kernel
theorem d_So_improve_125 : decode y_So_improve.2.1 125 = .ok (.goto (-120), 3) := by decide +kernel
def h_So_improve_5 (G : mG) (d : Nat) (a0 : Nat) (l1 : Int) (a2 : Nat) (l3 : Int) (l4 : Int) (M : mM) (Q : Int → mM → Prop) : Prop := mWm G y_So_improve (d + 1) 5 [vr a0, vi l1, vr a2, vi l3, vi l4, vd, vd] [] M (fun r9 M9 => ∃ x9, r9 = some (vi x9) ∧ Q x9 M9)
def h_So_improve_122 (G : mG) (d : Nat) (a0 : Nat) (l1 : Int) (a2 : Nat) (l3 : Int) (l4 : Int) (M : mM) (Q : Int → mM → Prop) : Prop := mWm G y_So_improve (d + 1) 122 [vr a0, vi l1, vr a2, vi l3, vi l4, vd, vd] [] M (fun r9 M9 => ∃ x9, r9 = some (vi x9) ∧ Q x9 M9)
theorem k_So_improve {G : mG} {d : Nat} {a0 : Nat} {l1 : Int} {a2 : Nat} {M : mM} {Q : Int → mM → Prop} (hO : mOk M) (hi_l1 : i32 l1)
    (h : h_So_improve_5 G d a0 l1 a2 0 0 M Q) :
    Ci G y_So_improve (d + 1) [vr a0, vi l1, vr a2] M Q := by
  refine wm_open (y := y_So_improve) rfl (Nat.le_of_ble_eq_true rfl) (L := [vr a0, vi l1, vr a2, vd, vd, vd, vd]) rfl ?_
  refine wm_iconst d_So_improve_0 ?_
  refine wm_istore_n d_So_improve_1 rfl (by decide) (L' := [vr a0, vi l1, vr a2, vi 0, vd, vd, vd]) rfl ?_
  refine wm_iconst d_So_improve_2 ?_
  refine wm_istore d_So_improve_3 (by decide) (L' := [vr a0, vi l1, vr a2, vi 0, vi 0, vd, vd]) rfl ?_
  exact h
theorem k_So_improve_5 {G : mG} {d : Nat} {a0 : Nat} {l1 : Int} {a2 : Nat} {l3 : Int} {l4 : Int} {M : mM} {Q : Int → mM → Prop} (hO : mOk M) (hi_l1 : i32 l1) (hi_l3 : i32 l3) (hi_l4 : i32 l4)
    (h : mK M a0 = 8 ∧ ((mI M a0 10 ≤ l4) → ((l3 = 0 ∨ l3 = 1) ∧ Q l3 M)) ∧ (¬ (mI M a0 10 ≤ l4) → (mK M (mR M a0 8) = 30 ∧ ((0 : Int) ≤ l4 ∧ l4 < (mN M (mR M a0 8) : Int)) ∧ mK M (mR M a0 3) = 7 ∧ mK M (mR M (mR M a0 3) 2) = 30 ∧ ((0 : Int) ≤ mI M (mR M a0 8) (Int.toNat l4) ∧ mI M (mR M a0 8) (Int.toNat l4) < (mN M (mR M (mR M a0 3) 2) : Int)) ∧ ((mI M (mR M (mR M a0 3) 2) (Int.toNat (mI M (mR M a0 8) (Int.toNat l4))) = l1) → (mK M (mR M a0 6) = 30 ∧ ((0 : Int) ≤ mI M (mR M a0 8) (Int.toNat l4) ∧ mI M (mR M a0 8) (Int.toNat l4) < (mN M (mR M a0 6) : Int)) ∧ mK M (mR M a0 5) = 30 ∧ ((0 : Int) ≤ mI M (mR M a0 8) (Int.toNat l4) ∧ mI M (mR M a0 8) (Int.toNat l4) < (mN M (mR M a0 5) : Int)) ∧ i32 ((mI M (mR M a0 6) (Int.toNat (mI M (mR M a0 8) (Int.toNat l4)))) - (mI M (mR M a0 5) (Int.toNat (mI M (mR M a0 8) (Int.toNat l4))))))) ∧ (((¬ (mI M (mR M (mR M a0 3) 2) (Int.toNat (mI M (mR M a0 8) (Int.toNat l4))) = l1)) ∨ ((mI M (mR M a0 6) (Int.toNat (mI M (mR M a0 8) (Int.toNat l4)))) - (mI M (mR M a0 5) (Int.toNat (mI M (mR M a0 8) (Int.toNat l4)))) ≤ 1)) → (h_So_improve_122 G d a0 l1 a2 l3 l4 M Q)) ∧ (¬ ((¬ (mI M (mR M (mR M a0 3) 2) (Int.toNat (mI M (mR M a0 8) (Int.toNat l4))) = l1)) ∨ ((mI M (mR M a0 6) (Int.toNat (mI M (mR M a0 8) (Int.toNat l4)))) - (mI M (mR M a0 5) (Int.toNat (mI M (mR M a0 8) (Int.toNat l4)))) ≤ 1)) → (mK M (mR M a0 5) = 30 ∧ ((0 : Int) ≤ mI M (mR M a0 8) (Int.toNat l4) ∧ mI M (mR M a0 8) (Int.toNat l4) < (mN M (mR M a0 5) : Int)) ∧ mK M (mR M a0 6) = 30 ∧ ((0 : Int) ≤ mI M (mR M a0 8) (Int.toNat l4) ∧ mI M (mR M a0 8) (Int.toNat l4) < (mN M (mR M a0 6) : Int)) ∧ ∀ v33 : Int, v33 = (if (l1 = 1) then 1 else 0) → mK M (mR M a0 0) = 9 ∧ Ci G y_Sc_pick d [vr (mR M a0 0), vr (mR M a0 3), vi (mI M (mR M a0 5) (Int.toNat (mI M (mR M a0 8) (Int.toNat l4)))), vi (mI M (mR M a0 6) (Int.toNat (mI M (mR M a0 8) (Int.toNat l4)))), vi v33, vr a2] M (fun x40 M39 => i32 x40 ∧ mOk M39 ∧ (mK M39 a0 = 8 ∧ mK M39 a2 = 13 ∧ mK M39 (mR M39 a2 0) = 35 ∧ ((0 : Int) ≤ mI M (mR M a0 8) (Int.toNat l4) ∧ mI M (mR M a0 8) (Int.toNat l4) < (mN M39 (mR M39 a2 0) : Int)) ∧ mK M39 (mR M39 a0 0) = 9 ∧ Ci G y_Sc_orderOfPicked d [vr (mR M39 a0 0), vr (mR M39 (mR M39 a2 0) (Int.toNat (mI M (mR M a0 8) (Int.toNat l4))))] M39 (fun x48 M47 => i32 x48 ∧ mOk M47 ∧ (((x48 = 0) → (h_So_improve_122 G d a0 l1 a2 l3 l4 M47 Q)) ∧ (¬ (x48 = 0) → (mK M47 a0 = 8 ∧ mK M47 (mR M47 a0 9) = 30 ∧ ((0 : Int) ≤ l4 ∧ l4 < (mN M47 (mR M47 a0 9) : Int)) ∧ ∀ M58, M58 = mUI M47 (mR M47 a0 9) (Int.toNat l4) x40 → h_So_improve_122 G d a0 l1 a2 1 l4 M58 Q))))))))))) :
    h_So_improve_5 G d a0 l1 a2 l3 l4 M Q := by
  unfold h_So_improve_5
  obtain ⟨h1, h⟩ := h
  refine wm_iload d_So_improve_5 rfl ?_
  refine wm_aload_n d_So_improve_7 rfl rfl ?_
  refine gf_So_122 rfl d_So_improve_8 h1 ?_
  refine wm_icmp_ge (tgt := 128) d_So_improve_11 rfl hi_l4 (hO _ _).1 (fun c9 => ?_) (fun c9 => ?_)
  · replace h := h.1 c9
    obtain ⟨h10, h⟩ := h
    refine wm_iload_n d_So_improve_128 rfl rfl ?_
    refine wm_ireturn d_So_improve_129 rfl (m_nb h10) ?_
    exact ⟨_, rfl, h⟩
  · replace h := h.2 c9
    obtain ⟨h11, h⟩ := h
    obtain ⟨h12, h⟩ := h
    obtain ⟨h13, h⟩ := h
    obtain ⟨h14, h⟩ := h
    obtain ⟨h15, h⟩ := h
    refine wm_aload_n d_So_improve_14 rfl rfl ?_
    refine gf_So_41 rfl d_So_improve_15 h1 ?_
    refine wm_iload d_So_improve_18 rfl ?_
    refine wm_iald d_So_improve_20 h11 h12 ?_
    refine wm_istore d_So_improve_21 (by decide) (L' := [vr a0, vi l1, vr a2, vi l3, vi l4, vi (mI M (mR M a0 8) (Int.toNat l4)), vd]) rfl ?_
    refine wm_aload_n d_So_improve_23 rfl rfl ?_
    refine gf_So_64 rfl d_So_improve_24 h1 ?_
    refine gf_So_113 rfl d_So_improve_27 h13 ?_
    refine wm_iload d_So_improve_30 rfl ?_
    refine wm_iald d_So_improve_32 h14 h15 ?_
    refine wm_iload_n d_So_improve_33 rfl rfl ?_
    obtain ⟨s25, h⟩ := h
    have hE0 : ((¬ (mI M (mR M (mR M a0 3) 2) (Int.toNat (mI M (mR M a0 8) (Int.toNat l4))) = l1)) ∨ ((mI M (mR M a0 6) (Int.toNat (mI M (mR M a0 8) (Int.toNat l4)))) - (mI M (mR M a0 5) (Int.toNat (mI M (mR M a0 8) (Int.toNat l4)))) ≤ 1)) → mWm G y_So_improve (d + 1) 122 [vr a0, vi l1, vr a2, vi l3, vi l4, vi (mI M (mR M a0 8) (Int.toNat l4)), vd] [] M (fun r9 M9 => ∃ x9, r9 = some (vi x9) ∧ Q x9 M9) := by
      intro q26
      have h := h.1 q26
      refine wm_less (L' := [vr a0, vi l1, vr a2, vi l3, vi l4, vd, vd]) ⟨Or.inr rfl, Or.inr rfl, Or.inr rfl, Or.inr rfl, Or.inr rfl, Or.inl rfl, Or.inl rfl, trivial⟩ ?_
      exact h
    have hE1 : ¬ ((¬ (mI M (mR M (mR M a0 3) 2) (Int.toNat (mI M (mR M a0 8) (Int.toNat l4))) = l1)) ∨ ((mI M (mR M a0 6) (Int.toNat (mI M (mR M a0 8) (Int.toNat l4)))) - (mI M (mR M a0 5) (Int.toNat (mI M (mR M a0 8) (Int.toNat l4)))) ≤ 1)) → mWm G y_So_improve (d + 1) 56 [vr a0, vi l1, vr a2, vi l3, vi l4, vi (mI M (mR M a0 8) (Int.toNat l4)), vd] [] M (fun r9 M9 => ∃ x9, r9 = some (vi x9) ∧ Q x9 M9) := by
      intro q27
      have h := h.2 q27
      obtain ⟨h28, h⟩ := h
      obtain ⟨h29, h⟩ := h
      obtain ⟨h30, h⟩ := h
      obtain ⟨h31, h⟩ := h
      refine wm_aload_n d_So_improve_56 rfl rfl ?_
      refine gf_So_12 rfl d_So_improve_57 h1 ?_
      refine wm_aload_n d_So_improve_60 rfl rfl ?_
      refine gf_So_64 rfl d_So_improve_61 h1 ?_
      refine wm_aload_n d_So_improve_64 rfl rfl ?_
      refine gf_So_32 rfl d_So_improve_65 h1 ?_
      refine wm_iload d_So_improve_68 rfl ?_
      refine wm_iald d_So_improve_70 h28 h29 ?_
      refine wm_aload_n d_So_improve_71 rfl rfl ?_
      refine gf_So_35 rfl d_So_improve_72 h1 ?_
      refine wm_iload d_So_improve_75 rfl ?_
      refine wm_iald d_So_improve_77 h30 h31 ?_
      refine wm_iload_n d_So_improve_78 rfl rfl ?_
      refine wm_iconst d_So_improve_79 ?_
      have hJ : ∀ v33 : Int, v33 = (if (l1 = 1) then 1 else 0) → mWm G y_So_improve (d + 1) 88 [vr a0, vi l1, vr a2, vi l3, vi l4, vi (mI M (mR M a0 8) (Int.toNat l4)), vd] [vi v33, vi (mI M (mR M a0 6) (Int.toNat (mI M (mR M a0 8) (Int.toNat l4)))), vi (mI M (mR M a0 5) (Int.toNat (mI M (mR M a0 8) (Int.toNat l4)))), vr (mR M a0 3), vr (mR M a0 0)] M (fun r9 M9 => ∃ x9, r9 = some (vi x9) ∧ Q x9 M9) := by
        intro v33 e35
        have h := h v33 e35
        have h36 : i32 v33 := by rw [e35]; (repeat' split) <;> first | exact ⟨by decide, by decide⟩ | exact ⟨by decide, by decide⟩
        have h37 : (v33 = 0 ∨ v33 = 1) := by rw [e35]; (repeat' split) <;> decide
        obtain ⟨h38, h⟩ := h
        refine wm_aload_n d_So_improve_88 rfl rfl ?_
        refine cf_So_190 rfl d_So_improve_89 h38 (Nat.le_of_ble_eq_true rfl) (Ci.mono h (fun x40 M39 h => ?_))
        obtain ⟨h41, hOM39, h⟩ := h
        obtain ⟨h42, h⟩ := h
        obtain ⟨h43, h⟩ := h
        obtain ⟨h44, h⟩ := h
        obtain ⟨h45, h⟩ := h
        obtain ⟨h46, h⟩ := h
        refine wm_istore d_So_improve_92 (by decide) (L' := [vr a0, vi l1, vr a2, vi l3, vi l4, vi (mI M (mR M a0 8) (Int.toNat l4)), vi x40]) rfl ?_
        refine wm_aload_n d_So_improve_94 rfl rfl ?_
        refine gf_So_12 rfl d_So_improve_95 h42 ?_
        refine wm_aload_n d_So_improve_98 rfl rfl ?_
        refine gf_So_169 rfl d_So_improve_99 h43 ?_
        refine wm_iload d_So_improve_102 rfl ?_
        refine wm_aald5 d_So_improve_104 h44 h45 ?_
        refine cf_So_194 rfl d_So_improve_105 h46 (Nat.le_of_ble_eq_true rfl) (Ci.mono h (fun x48 M47 h => ?_))
        obtain ⟨h49, hOM47, h⟩ := h
        refine wm_if_eq (tgt := 122) d_So_improve_108 rfl h49 (fun c54 => ?_) (fun c54 => ?_)
        · replace h := h.1 c54
          refine wm_less (L' := [vr a0, vi l1, vr a2, vi l3, vi l4, vd, vd]) ⟨Or.inr rfl, Or.inr rfl, Or.inr rfl, Or.inr rfl, Or.inr rfl, Or.inl rfl, Or.inl rfl, trivial⟩ ?_
          exact h
        · replace h := h.2 c54
          obtain ⟨h55, h⟩ := h
          obtain ⟨h56, h⟩ := h
          obtain ⟨h57, h⟩ := h
          obtain ⟨M58, e59⟩ : ∃ M58, M58 = mUI M47 (mR M47 a0 9) (Int.toNat l4) x40 := ⟨_, rfl⟩
          replace h := h M58 e59
          refine wm_aload_n d_So_improve_111 rfl rfl ?_
          refine gf_So_44 rfl d_So_improve_112 h55 ?_
          refine wm_iload d_So_improve_115 rfl ?_
          refine wm_iload d_So_improve_117 rfl ?_
          have hOM58 : mOk M58 := by rw [e59]; exact mOk_UI hOM47 h41
          refine wm_iastE d_So_improve_119 h56 h57 h41 e59 ?_
          refine wm_iconst d_So_improve_120 ?_
          refine wm_istore_n d_So_improve_121 rfl (by decide) (L' := [vr a0, vi l1, vr a2, vi 1, vi l4, vi (mI M (mR M a0 8) (Int.toNat l4)), vi x40]) rfl ?_
          refine wm_less (L' := [vr a0, vi l1, vr a2, vi 1, vi l4, vd, vd]) ⟨Or.inr rfl, Or.inr rfl, Or.inr rfl, Or.inr rfl, Or.inr rfl, Or.inl rfl, Or.inl rfl, trivial⟩ ?_
          exact h
      clear h
      refine wm_icmp_ne (tgt := 87) d_So_improve_80 rfl hi_l1 ⟨by decide, by decide⟩ (fun c32 => ?_) (fun c32 => ?_)
      · refine wm_iconst d_So_improve_87 ?_
        exact hJ 0 (if_neg c32).symm
      · replace c32 := Classical.not_not.mp c32
        refine wm_iconst d_So_improve_83 ?_
        refine wm_goto (tgt := 88) d_So_improve_84 rfl ?_
        exact hJ 1 (if_pos c32).symm
    clear h
    have s61 := s25
    refine wm_icmp_ne (tgt := 122) d_So_improve_34 rfl (hO _ _).1 hi_l1 (fun c24 => ?_) (fun c24 => ?_)
    · exact hE0 (Or.inl c24)
    · replace c24 := Classical.not_not.mp c24
      have s61 := s61 c24
      obtain ⟨h16, h17, h18, h19, h20⟩ := s61
      refine wm_aload_n d_So_improve_37 rfl rfl ?_
      refine gf_So_35 rfl d_So_improve_38 h1 ?_
      refine wm_iload d_So_improve_41 rfl ?_
      refine wm_iald d_So_improve_43 h16 h17 ?_
      refine wm_aload_n d_So_improve_44 rfl rfl ?_
      refine gf_So_32 rfl d_So_improve_45 h1 ?_
      refine wm_iload d_So_improve_48 rfl ?_
      refine wm_iald d_So_improve_50 h18 h19 ?_
      refine wm_isub d_So_improve_51 ?_
      refine wm_iconst d_So_improve_52 ?_
      refine wm_icmp_le (tgt := 122) d_So_improve_53 rfl h20 ⟨by decide, by decide⟩ (fun c23 => ?_) (fun c23 => ?_)
      · exact hE0 (Or.inr c23)
      · exact hE1 (fun z62 => Or.elim z62 (fun w => w c24) c23)
theorem k_So_improve_122 {G : mG} {d : Nat} {a0 : Nat} {l1 : Int} {a2 : Nat} {l3 : Int} {l4 : Int} {M : mM} {Q : Int → mM → Prop} (hO : mOk M) (hi_l1 : i32 l1) (hi_l3 : i32 l3) (hi_l4 : i32 l4)
    (h : h_So_improve_5 G d a0 l1 a2 l3 (l4 + 1) M Q) :
    h_So_improve_122 G d a0 l1 a2 l3 l4 M Q := by
  unfold h_So_improve_122
  refine wm_iinc d_So_improve_122 (by decide) rfl (L' := [vr a0, vi l1, vr a2, vi l3, vi (l4 + 1), vd, vd]) rfl ?_
  refine wm_goto (tgt := 5) d_So_improve_125 rfl ?_
  exact h
theorem d_So_listOthers_0 : decode y_So_listOthers.2.1 0 = .ok (.aload_n 0, 1) := by decide +kernel
theorem d_So_listOthers_1 : decode y_So_listOthers.2.1 1 = .ok (.getfield 47, 3) := by decide +kernel
theorem d_So_listOthers_4 : decode y_So_listOthers.2.1 4 = .ok (.arraylength, 1) := by decide +kernel
theorem d_So_listOthers_5 : decode y_So_listOthers.2.1 5 = .ok (.ifCond .ne 12, 3) := by decide +kernel
theorem d_So_listOthers_8 : decode y_So_listOthers.2.1 8 = .ok (.aload_n 0, 1) := by decide +kernel
theorem d_So_listOthers_9 : decode y_So_listOthers.2.1 9 = .ok (.sipush 2400, 3) := by decide +kernel
theorem d_So_listOthers_12 : decode y_So_listOthers.2.1 12 = .ok (.newarray .int, 2) := by decide +kernel
theorem d_So_listOthers_14 : decode y_So_listOthers.2.1 14 = .ok (.putfield 47, 3) := by decide +kernel
theorem d_So_listOthers_17 : decode y_So_listOthers.2.1 17 = .ok (.aload_n 0, 1) := by decide +kernel
theorem d_So_listOthers_18 : decode y_So_listOthers.2.1 18 = .ok (.iconst 0, 1) := by decide +kernel
theorem d_So_listOthers_19 : decode y_So_listOthers.2.1 19 = .ok (.putfield 198, 3) := by decide +kernel
theorem d_So_listOthers_22 : decode y_So_listOthers.2.1 22 = .ok (.aload_n 0, 1) := by decide +kernel
theorem d_So_listOthers_23 : decode y_So_listOthers.2.1 23 = .ok (.lconst 0, 1) := by decide +kernel
theorem d_So_listOthers_24 : decode y_So_listOthers.2.1 24 = .ok (.putfield 201, 3) := by decide +kernel
theorem d_So_listOthers_27 : decode y_So_listOthers.2.1 27 = .ok (.aload_n 0, 1) := by decide +kernel
theorem d_So_listOthers_28 : decode y_So_listOthers.2.1 28 = .ok (.iconst 2, 1) := by decide +kernel
theorem d_So_listOthers_29 : decode y_So_listOthers.2.1 29 = .ok (.invokevirtual 205, 3) := by decide +kernel
theorem d_So_listOthers_32 : decode y_So_listOthers.2.1 32 = .ok (.aload_n 0, 1) := by decide +kernel
theorem d_So_listOthers_33 : decode y_So_listOthers.2.1 33 = .ok (.aload_n 0, 1) := by decide +kernel
theorem d_So_listOthers_34 : decode y_So_listOthers.2.1 34 = .ok (.getfield 198, 3) := by decide +kernel
theorem d_So_listOthers_37 : decode y_So_listOthers.2.1 37 = .ok (.putfield 208, 3) := by decide +kernel
theorem d_So_listOthers_40 : decode y_So_listOthers.2.1 40 = .ok (.aload_n 0, 1) := by decide +kernel
theorem d_So_listOthers_41 : decode y_So_listOthers.2.1 41 = .ok (.iconst 1, 1) := by decide +kernel
theorem d_So_listOthers_42 : decode y_So_listOthers.2.1 42 = .ok (.invokevirtual 205, 3) := by decide +kernel
theorem d_So_listOthers_45 : decode y_So_listOthers.2.1 45 = .ok (.aload_n 0, 1) := by decide +kernel
theorem d_So_listOthers_46 : decode y_So_listOthers.2.1 46 = .ok (.iconst 0, 1) := by decide +kernel
theorem d_So_listOthers_47 : decode y_So_listOthers.2.1 47 = .ok (.aload_n 0, 1) := by decide +kernel
theorem d_So_listOthers_48 : decode y_So_listOthers.2.1 48 = .ok (.getfield 208, 3) := by decide +kernel
theorem d_So_listOthers_51 : decode y_So_listOthers.2.1 51 = .ok (.invokevirtual 211, 3) := by decide +kernel
theorem d_So_listOthers_54 : decode y_So_listOthers.2.1 54 = .ok (.aload_n 0, 1) := by decide +kernel
theorem d_So_listOthers_55 : decode y_So_listOthers.2.1 55 = .ok (.aload_n 0, 1) := by decide +kernel
theorem d_So_listOthers_56 : decode y_So_listOthers.2.1 56 = .ok (.getfield 208, 3) := by decide +kernel
theorem d_So_listOthers_59 : decode y_So_listOthers.2.1 59 = .ok (.aload_n 0, 1) := by decide +kernel
theorem d_So_listOthers_60 : decode y_So_listOthers.2.1 60 = .ok (.getfield 198, 3) := by decide +kernel
theorem d_So_listOthers_63 : decode y_So_listOthers.2.1 63 = .ok (.invokevirtual 211, 3) := by decide +kernel
theorem d_So_listOthers_66 : decode y_So_listOthers.2.1 66 = .ok (.return_, 1) := by decide +kernel
theorem k_So_listOthers {G : mG} {d : Nat} {a0 : Nat} {M : mM} {Q : mM → Prop} (hO : mOk M)
    (h : mK M a0 = 8 ∧ mK M (mR M a0 11) = 30 ∧ i32 (mN M (mR M a0 11) : Int) ∧ (((mN M (mR M a0 11) : Int) = 0) → (∀ M9, M9 = mNew M 30 2400 2400 → mK M9 a0 = 8 ∧ ∀ M12, M12 = mUR M9 a0 11 (mZ M) → ∀ M14, M14 = mUI M12 a0 12 0 → ∀ M16, M16 = mUL M14 a0 14 (w64 0) → Cv G y_So_addOthers d [vr a0, vi 2] M16 (fun M18 => mOk M18 ∧ (mK M18 a0 = 8 ∧ ∀ M22, M22 = mUI M18 a0 13 (mI M18 a0 12) → Cv G y_So_addOthers d [vr a0, vi 1] M22 (fun M24 => mOk M24 ∧ (mK M24 a0 = 8 ∧ Cv G y_So_mix d [vr a0, vi 0, vi (mI M24 a0 13)] M24 (fun M28 => mOk M28 ∧ (mK M28 a0 = 8 ∧ Cv G y_So_mix d [vr a0, vi (mI M28 a0 13), vi (mI M28 a0 12)] M28 (fun M32 => mOk M32 ∧ (Q M32)))))))))) ∧ (¬ ((mN M (mR M a0 11) : Int) = 0) → (∀ M35, M35 = mUI M a0 12 0 → ∀ M37, M37 = mUL M35 a0 14 (w64 0) → Cv G y_So_addOthers d [vr a0, vi 2] M37 (fun M39 => mOk M39 ∧ (mK M39 a0 = 8 ∧ ∀ M43, M43 = mUI M39 a0 13 (mI M39 a0 12) → Cv G y_So_addOthers d [vr a0, vi 1] M43 (fun M45 => mOk M45 ∧ (mK M45 a0 = 8 ∧ Cv G y_So_mix d [vr a0, vi 0, vi (mI M45 a0 13)] M45 (fun M49 => mOk M49 ∧ (mK M49 a0 = 8 ∧ Cv G y_So_mix d [vr a0, vi (mI M49 a0 13), vi (mI M49 a0 12)] M49 (fun M53 => mOk M53 ∧ (Q M53))))))))))) :
    Cv G y_So_listOthers (d + 1) [vr a0] M Q := by
  refine wm_open (y := y_So_listOthers) rfl (Nat.le_of_ble_eq_true rfl) (L := [vr a0]) rfl ?_
  obtain ⟨h1, h⟩ := h
  obtain ⟨h2, h⟩ := h
  obtain ⟨h7, h⟩ := h
  refine wm_aload_n d_So_listOthers_0 rfl rfl ?_
  refine gf_So_47 rfl d_So_listOthers_1 h1 ?_
  refine wm_alen 0 rfl (fun _ => rfl) d_So_listOthers_4 h2 ?_
  refine wm_if_ne (tgt := 17) d_So_listOthers_5 rfl h7 (fun c8 => ?_) (fun c8 => ?_)
  · replace h := h.2 c8
    obtain ⟨M35, e36⟩ : ∃ M35, M35 = mUI M a0 12 0 := ⟨_, rfl⟩
    replace h := h M35 e36
    obtain ⟨M37, e38⟩ : ∃ M37, M37 = mUL M35 a0 14 (w64 0) := ⟨_, rfl⟩
    replace h := h M37 e38
    refine wm_aload_n d_So_listOthers_17 rfl rfl ?_
    refine wm_iconst d_So_listOthers_18 ?_
    have hOM35 : mOk M35 := by rw [e36]; exact mOk_UI hO ⟨by decide, by decide⟩
    refine pf_So_198 rfl d_So_listOthers_19 h1 ⟨by decide, by decide⟩ e36 ?_
    refine wm_aload_n d_So_listOthers_22 rfl rfl ?_
    refine wm_lconst (x := 0) d_So_listOthers_23 rfl ?_
    have hOM37 : mOk M37 := by rw [e38]; exact mOk_UL hOM35 i64_w64
    refine pf_So_201 rfl d_So_listOthers_24 (by rw [e36]; exact h1) e38 ?_
    refine wm_aload_n d_So_listOthers_27 rfl rfl ?_
    refine wm_iconst d_So_listOthers_28 ?_
    refine cf_So_205 rfl d_So_listOthers_29 (by rw [e38, e36]; exact h1) (Nat.le_of_ble_eq_true rfl) (Cv.mono h (fun M39 h => ?_))
    obtain ⟨hOM39, h⟩ := h
    obtain ⟨h42, h⟩ := h
    obtain ⟨M43, e44⟩ : ∃ M43, M43 = mUI M39 a0 13 (mI M39 a0 12) := ⟨_, rfl⟩
    replace h := h M43 e44
    refine wm_aload_n d_So_listOthers_32 rfl rfl ?_
    refine wm_aload_n d_So_listOthers_33 rfl rfl ?_
    refine gf_So_198 rfl d_So_listOthers_34 h42 ?_
    have hOM43 : mOk M43 := by rw [e44]; exact mOk_UI hOM39 (hOM39 _ _).1
    refine pf_So_208 rfl d_So_listOthers_37 h42 (hOM39 _ _).1 e44 ?_
    refine wm_aload_n d_So_listOthers_40 rfl rfl ?_
    refine wm_iconst d_So_listOthers_41 ?_
    refine cf_So_205 rfl d_So_listOthers_42 (by rw [e44]; exact h42) (Nat.le_of_ble_eq_true rfl) (Cv.mono h (fun M45 h => ?_))
    obtain ⟨hOM45, h⟩ := h
    obtain ⟨h48, h⟩ := h
    refine wm_aload_n d_So_listOthers_45 rfl rfl ?_
    refine wm_iconst d_So_listOthers_46 ?_
    refine wm_aload_n d_So_listOthers_47 rfl rfl ?_
    refine gf_So_208 rfl d_So_listOthers_48 h48 ?_
    refine cf_So_211 rfl d_So_listOthers_51 h48 (Nat.le_of_ble_eq_true rfl) (Cv.mono h (fun M49 h => ?_))
    obtain ⟨hOM49, h⟩ := h
    obtain ⟨h52, h⟩ := h
    refine wm_aload_n d_So_listOthers_54 rfl rfl ?_
    refine wm_aload_n d_So_listOthers_55 rfl rfl ?_
    refine gf_So_208 rfl d_So_listOthers_56 h52 ?_
    refine wm_aload_n d_So_listOthers_59 rfl rfl ?_
    refine gf_So_198 rfl d_So_listOthers_60 h52 ?_
    refine cf_So_211 rfl d_So_listOthers_63 h52 (Nat.le_of_ble_eq_true rfl) (Cv.mono h (fun M53 h => ?_))
    obtain ⟨hOM53, h⟩ := h
    refine wm_return d_So_listOthers_66 rfl ?_
    exact ⟨rfl, h⟩
  · replace c8 := Classical.not_not.mp c8
    replace h := h.1 c8
    obtain ⟨M9, e10⟩ : ∃ M9, M9 = mNew M 30 2400 2400 := ⟨_, rfl⟩
    replace h := h M9 e10
    obtain ⟨h11, h⟩ := h
    obtain ⟨M12, e13⟩ : ∃ M12, M12 = mUR M9 a0 11 (mZ M) := ⟨_, rfl⟩
    replace h := h M12 e13
    obtain ⟨M14, e15⟩ : ∃ M14, M14 = mUI M12 a0 12 0 := ⟨_, rfl⟩
    replace h := h M14 e15
    obtain ⟨M16, e17⟩ : ∃ M16, M16 = mUL M14 a0 14 (w64 0) := ⟨_, rfl⟩
    replace h := h M16 e17
    refine wm_aload_n d_So_listOthers_8 rfl rfl ?_
    refine wm_sipush d_So_listOthers_9 (by decide) ?_
    have hOM9 : mOk M9 := by rw [e10]; exact mOk_New hO
    refine wm_newarrE 0 (atype := .int) (ty := .int) rfl rfl (fun _ => rfl) rfl rfl (by decide) k1_82 ⟨by decide, by decide⟩ d_So_listOthers_12 e10 ?_
    have hOM12 : mOk M12 := by rw [e13]; exact mOk_UR hOM9
    refine pf_So_47 rfl d_So_listOthers_14 h11 e13 ?_
    refine wm_aload_n d_So_listOthers_17 rfl rfl ?_
    refine wm_iconst d_So_listOthers_18 ?_
    have hOM14 : mOk M14 := by rw [e15]; exact mOk_UI hOM12 ⟨by decide, by decide⟩
    refine pf_So_198 rfl d_So_listOthers_19 (by rw [e13]; exact h11) ⟨by decide, by decide⟩ e15 ?_
    refine wm_aload_n d_So_listOthers_22 rfl rfl ?_
    refine wm_lconst (x := 0) d_So_listOthers_23 rfl ?_
    have hOM16 : mOk M16 := by rw [e17]; exact mOk_UL hOM14 i64_w64
    refine pf_So_201 rfl d_So_listOthers_24 (by rw [e15, e13]; exact h11) e17 ?_
    refine wm_aload_n d_So_listOthers_27 rfl rfl ?_
    refine wm_iconst d_So_listOthers_28 ?_
    refine cf_So_205 rfl d_So_listOthers_29 (by rw [e17, e15, e13]; exact h11) (Nat.le_of_ble_eq_true rfl) (Cv.mono h (fun M18 h => ?_))
    obtain ⟨hOM18, h⟩ := h
    obtain ⟨h21, h⟩ := h
    obtain ⟨M22, e23⟩ : ∃ M22, M22 = mUI M18 a0 13 (mI M18 a0 12) := ⟨_, rfl⟩
    replace h := h M22 e23
    refine wm_aload_n d_So_listOthers_32 rfl rfl ?_
    refine wm_aload_n d_So_listOthers_33 rfl rfl ?_
    refine gf_So_198 rfl d_So_listOthers_34 h21 ?_
    have hOM22 : mOk M22 := by rw [e23]; exact mOk_UI hOM18 (hOM18 _ _).1
    refine pf_So_208 rfl d_So_listOthers_37 h21 (hOM18 _ _).1 e23 ?_
    refine wm_aload_n d_So_listOthers_40 rfl rfl ?_
    refine wm_iconst d_So_listOthers_41 ?_
    refine cf_So_205 rfl d_So_listOthers_42 (by rw [e23]; exact h21) (Nat.le_of_ble_eq_true rfl) (Cv.mono h (fun M24 h => ?_))
    obtain ⟨hOM24, h⟩ := h
    obtain ⟨h27, h⟩ := h
    refine wm_aload_n d_So_listOthers_45 rfl rfl ?_
    refine wm_iconst d_So_listOthers_46 ?_
    refine wm_aload_n d_So_listOthers_47 rfl rfl ?_
    refine gf_So_208 rfl d_So_listOthers_48 h27 ?_
    refine cf_So_211 rfl d_So_listOthers_51 h27 (Nat.le_of_ble_eq_true rfl) (Cv.mono h (fun M28 h => ?_))
    obtain ⟨hOM28, h⟩ := h
    obtain ⟨h31, h⟩ := h
    refine wm_aload_n d_So_listOthers_54 rfl rfl ?_
    refine wm_aload_n d_So_listOthers_55 rfl rfl ?_
    refine gf_So_208 rfl d_So_listOthers_56 h31 ?_
    refine wm_aload_n d_So_listOthers_59 rfl rfl ?_
    refine gf_So_198 rfl d_So_listOthers_60 h31 ?_
    refine cf_So_211 rfl d_So_listOthers_63 h31 (Nat.le_of_ble_eq_true rfl) (Cv.mono h (fun M32 h => ?_))
    obtain ⟨hOM32, h⟩ := h
    refine wm_return d_So_listOthers_66 rfl ?_
    exact ⟨rfl, h⟩
theorem d_So_addOthers_0 : decode y_So_addOthers.2.1 0 = .ok (.iconst 0, 1) := by decide +kernel
theorem d_So_addOthers_1 : decode y_So_addOthers.2.1 1 = .ok (.istore_n 2, 1) := by decide +kernel
theorem d_So_addOthers_2 : decode y_So_addOthers.2.1 2 = .ok (.iload_n 2, 1) := by decide +kernel
theorem d_So_addOthers_3 : decode y_So_addOthers.2.1 3 = .ok (.aload_n 0, 1) := by decide +kernel
theorem d_So_addOthers_4 : decode y_So_addOthers.2.1 4 = .ok (.getfield 122, 3) := by decide +kernel
theorem d_So_addOthers_7 : decode y_So_addOthers.2.1 7 = .ok (.if_icmp .ge 94, 3) := by decide +kernel
theorem d_So_addOthers_101 : decode y_So_addOthers.2.1 101 = .ok (.return_, 1) := by decide +kernel
theorem d_So_addOthers_10 : decode y_So_addOthers.2.1 10 = .ok (.aload_n 0, 1) := by decide +kernel
theorem d_So_addOthers_11 : decode y_So_addOthers.2.1 11 = .ok (.getfield 41, 3) := by decide +kernel
theorem d_So_addOthers_14 : decode y_So_addOthers.2.1 14 = .ok (.iload_n 2, 1) := by decide +kernel
theorem d_So_addOthers_15 : decode y_So_addOthers.2.1 15 = .ok (.iaload, 1) := by decide +kernel
theorem d_So_addOthers_16 : decode y_So_addOthers.2.1 16 = .ok (.istore_n 3, 1) := by decide +kernel
theorem d_So_addOthers_17 : decode y_So_addOthers.2.1 17 = .ok (.aload_n 0, 1) := by decide +kernel
theorem d_So_addOthers_18 : decode y_So_addOthers.2.1 18 = .ok (.getfield 32, 3) := by decide +kernel
theorem d_So_addOthers_21 : decode y_So_addOthers.2.1 21 = .ok (.iload_n 3, 1) := by decide +kernel
theorem d_So_addOthers_22 : decode y_So_addOthers.2.1 22 = .ok (.iaload, 1) := by decide +kernel
theorem d_So_addOthers_23 : decode y_So_addOthers.2.1 23 = .ok (.istore 4, 2) := by decide +kernel
theorem d_So_addOthers_25 : decode y_So_addOthers.2.1 25 = .ok (.iload 4, 2) := by decide +kernel
theorem d_So_addOthers_27 : decode y_So_addOthers.2.1 27 = .ok (.aload_n 0, 1) := by decide +kernel
theorem d_So_addOthers_28 : decode y_So_addOthers.2.1 28 = .ok (.getfield 35, 3) := by decide +kernel
theorem d_So_addOthers_31 : decode y_So_addOthers.2.1 31 = .ok (.iload_n 3, 1) := by decide +kernel
theorem d_So_addOthers_32 : decode y_So_addOthers.2.1 32 = .ok (.iaload, 1) := by decide +kernel
theorem d_So_addOthers_33 : decode y_So_addOthers.2.1 33 = .ok (.if_icmp .ge 62, 3) := by decide +kernel
theorem d_So_addOthers_36 : decode y_So_addOthers.2.1 36 = .ok (.aload_n 0, 1) := by decide +kernel
theorem d_So_addOthers_37 : decode y_So_addOthers.2.1 37 = .ok (.getfield 64, 3) := by decide +kernel
theorem d_So_addOthers_40 : decode y_So_addOthers.2.1 40 = .ok (.getfield 113, 3) := by decide +kernel
theorem d_So_addOthers_43 : decode y_So_addOthers.2.1 43 = .ok (.iload_n 3, 1) := by decide +kernel
theorem d_So_addOthers_44 : decode y_So_addOthers.2.1 44 = .ok (.iaload, 1) := by decide +kernel
theorem d_So_addOthers_45 : decode y_So_addOthers.2.1 45 = .ok (.iload_n 1, 1) := by decide +kernel
theorem d_So_addOthers_46 : decode y_So_addOthers.2.1 46 = .ok (.if_icmp .ne 49, 3) := by decide +kernel
theorem d_So_addOthers_49 : decode y_So_addOthers.2.1 49 = .ok (.iload 4, 2) := by decide +kernel
theorem d_So_addOthers_51 : decode y_So_addOthers.2.1 51 = .ok (.aload_n 0, 1) := by decide +kernel
theorem d_So_addOthers_52 : decode y_So_addOthers.2.1 52 = .ok (.getfield 44, 3) := by decide +kernel
theorem d_So_addOthers_55 : decode y_So_addOthers.2.1 55 = .ok (.iload_n 2, 1) := by decide +kernel
theorem d_So_addOthers_56 : decode y_So_addOthers.2.1 56 = .ok (.iaload, 1) := by decide +kernel
theorem d_So_addOthers_57 : decode y_So_addOthers.2.1 57 = .ok (.if_icmp .eq 26, 3) := by decide +kernel
theorem d_So_addOthers_60 : decode y_So_addOthers.2.1 60 = .ok (.aload_n 0, 1) := by decide +kernel
theorem d_So_addOthers_61 : decode y_So_addOthers.2.1 61 = .ok (.getfield 47, 3) := by decide +kernel
theorem d_So_addOthers_64 : decode y_So_addOthers.2.1 64 = .ok (.aload_n 0, 1) := by decide +kernel
theorem d_So_addOthers_65 : decode y_So_addOthers.2.1 65 = .ok (.dup, 1) := by decide +kernel
theorem d_So_addOthers_66 : decode y_So_addOthers.2.1 66 = .ok (.getfield 198, 3) := by decide +kernel
theorem d_So_addOthers_69 : decode y_So_addOthers.2.1 69 = .ok (.dup_x1, 1) := by decide +kernel
theorem d_So_addOthers_70 : decode y_So_addOthers.2.1 70 = .ok (.iconst 1, 1) := by decide +kernel
theorem d_So_addOthers_71 : decode y_So_addOthers.2.1 71 = .ok (.iadd, 1) := by decide +kernel
theorem d_So_addOthers_72 : decode y_So_addOthers.2.1 72 = .ok (.putfield 198, 3) := by decide +kernel
theorem d_So_addOthers_75 : decode y_So_addOthers.2.1 75 = .ok (.iload 4, 2) := by decide +kernel
theorem d_So_addOthers_77 : decode y_So_addOthers.2.1 77 = .ok (.bipush 40, 2) := by decide +kernel
theorem d_So_addOthers_79 : decode y_So_addOthers.2.1 79 = .ok (.imul, 1) := by decide +kernel
theorem d_So_addOthers_80 : decode y_So_addOthers.2.1 80 = .ok (.iload_n 2, 1) := by decide +kernel
theorem d_So_addOthers_81 : decode y_So_addOthers.2.1 81 = .ok (.iadd, 1) := by decide +kernel
theorem d_So_addOthers_82 : decode y_So_addOthers.2.1 82 = .ok (.iastore, 1) := by decide +kernel
theorem d_So_addOthers_95 : decode y_So_addOthers.2.1 95 = .ok (.iinc 2 1, 3) := by decide +kernel
theorem d_So_addOthers_98 : decode y_So_addOthers.2.1 98 = .ok (.goto (-96), 3) := by decide +kernel
theorem d_So_addOthers_83 : decode y_So_addOthers.2.1 83 = .ok (.aload_n 0, 1) := by decide +kernel
theorem d_So_addOthers_84 : decode y_So_addOthers.2.1 84 = .ok (.iload 4, 2) := by decide +kernel
theorem d_So_addOthers_86 : decode y_So_addOthers.2.1 86 = .ok (.invokevirtual 214, 3) := by decide +kernel
theorem d_So_addOthers_89 : decode y_So_addOthers.2.1 89 = .ok (.iinc 4 1, 3) := by decide +kernel
theorem d_So_addOthers_92 : decode y_So_addOthers.2.1 92 = .ok (.goto (-67), 3) := by decide +kernel
def h_So_addOthers_2 (G : mG) (d : Nat) (a0 : Nat) (l1 : Int) (l2 : Int) (M : mM) (Q : mM → Prop) : Prop := mWm G y_So_addOthers (d + 1) 2 [vr a0, vi l1, vi l2, vd, vd] [] M (fun r9 M9 => r9 = none ∧ Q M9)
def h_So_addOthers_25 (G : mG) (d : Nat) (a0 : Nat) (l1 : Int) (l2 : Int) (l3 : Int) (l4 : Int) (M : mM) (Q : mM → Prop) : Prop := mWm G y_So_addOthers (d + 1) 25 [vr a0, vi l1, vi l2, vi l3, vi l4] [] M (fun r9 M9 => r9 = none ∧ Q M9)
theorem k_So_addOthers {G : mG} {d : Nat} {a0 : Nat} {l1 : Int} {M : mM} {Q : mM → Prop} (hO : mOk M) (hi_l1 : i32 l1)
    (h : h_So_addOthers_2 G d a0 l1 0 M Q) :
    Cv G y_So_addOthers (d + 1) [vr a0, vi l1] M Q := by
  refine wm_open (y := y_So_addOthers) rfl (Nat.le_of_ble_eq_true rfl) (L := [vr a0, vi l1, vd, vd, vd]) rfl ?_
  refine wm_iconst d_So_addOthers_0 ?_
  refine wm_istore_n d_So_addOthers_1 rfl (by decide) (L' := [vr a0, vi l1, vi 0, vd, vd]) rfl ?_
  exact h
theorem k_So_addOthers_2 {G : mG} {d : Nat} {a0 : Nat} {l1 : Int} {l2 : Int} {M : mM} {Q : mM → Prop} (hO : mOk M) (hi_l1 : i32 l1) (hi_l2 : i32 l2)
    (h : mK M a0 = 8 ∧ ((mI M a0 10 ≤ l2) → (Q M)) ∧ (¬ (mI M a0 10 ≤ l2) → (mK M (mR M a0 8) = 30 ∧ ((0 : Int) ≤ l2 ∧ l2 < (mN M (mR M a0 8) : Int)) ∧ mK M (mR M a0 5) = 30 ∧ ((0 : Int) ≤ mI M (mR M a0 8) (Int.toNat l2) ∧ mI M (mR M a0 8) (Int.toNat l2) < (mN M (mR M a0 5) : Int)) ∧ h_So_addOthers_25 G d a0 l1 l2 (mI M (mR M a0 8) (Int.toNat l2)) (mI M (mR M a0 5) (Int.toNat (mI M (mR M a0 8) (Int.toNat l2)))) M Q))) :
    h_So_addOthers_2 G d a0 l1 l2 M Q := by
  unfold h_So_addOthers_2
  obtain ⟨h1, h⟩ := h
  refine wm_iload_n d_So_addOthers_2 rfl rfl ?_
  refine wm_aload_n d_So_addOthers_3 rfl rfl ?_
  refine gf_So_122 rfl d_So_addOthers_4 h1 ?_
  refine wm_icmp_ge (tgt := 101) d_So_addOthers_7 rfl hi_l2 (hO _ _).1 (fun c7 => ?_) (fun c7 => ?_)
  · replace h := h.1 c7
    refine wm_return d_So_addOthers_101 rfl ?_
    exact ⟨rfl, h⟩
  · replace h := h.2 c7
    obtain ⟨h8, h⟩ := h
    obtain ⟨h9, h⟩ := h
    obtain ⟨h10, h⟩ := h
    obtain ⟨h11, h⟩ := h
    refine wm_aload_n d_So_addOthers_10 rfl rfl ?_
    refine gf_So_41 rfl d_So_addOthers_11 h1 ?_
    refine wm_iload_n d_So_addOthers_14 rfl rfl ?_
    refine wm_iald d_So_addOthers_15 h8 h9 ?_
    refine wm_istore_n d_So_addOthers_16 rfl (by decide) (L' := [vr a0, vi l1, vi l2, vi (mI M (mR M a0 8) (Int.toNat l2)), vd]) rfl ?_
    refine wm_aload_n d_So_addOthers_17 rfl rfl ?_
    refine gf_So_32 rfl d_So_addOthers_18 h1 ?_
    refine wm_iload_n d_So_addOthers_21 rfl rfl ?_
    refine wm_iald d_So_addOthers_22 h10 h11 ?_
    refine wm_istore d_So_addOthers_23 (by decide) (L' := [vr a0, vi l1, vi l2, vi (mI M (mR M a0 8) (Int.toNat l2)), vi (mI M (mR M a0 5) (Int.toNat (mI M (mR M a0 8) (Int.toNat l2))))]) rfl ?_
    exact h
theorem k_So_addOthers_25 {G : mG} {d : Nat} {a0 : Nat} {l1 : Int} {l2 : Int} {l3 : Int} {l4 : Int} {M : mM} {Q : mM → Prop} (hO : mOk M) (hi_l1 : i32 l1) (hi_l2 : i32 l2) (hi_l3 : i32 l3) (hi_l4 : i32 l4)
    (h : mK M a0 = 8 ∧ mK M (mR M a0 6) = 30 ∧ ((0 : Int) ≤ l3 ∧ l3 < (mN M (mR M a0 6) : Int)) ∧ (¬ (mI M (mR M a0 6) (Int.toNat l3) ≤ l4) → (mK M (mR M a0 3) = 7 ∧ mK M (mR M (mR M a0 3) 2) = 30 ∧ ((0 : Int) ≤ l3 ∧ l3 < (mN M (mR M (mR M a0 3) 2) : Int)))) ∧ (((mI M (mR M a0 6) (Int.toNat l3) ≤ l4) ∨ (¬ (mI M (mR M (mR M a0 3) 2) (Int.toNat l3) = l1))) → (h_So_addOthers_2 G d a0 l1 (l2 + 1) M Q)) ∧ (¬ ((mI M (mR M a0 6) (Int.toNat l3) ≤ l4) ∨ (¬ (mI M (mR M (mR M a0 3) 2) (Int.toNat l3) = l1))) → (mK M (mR M a0 9) = 30 ∧ ((0 : Int) ≤ l2 ∧ l2 < (mN M (mR M a0 9) : Int)) ∧ ((l4 = mI M (mR M a0 9) (Int.toNat l2)) → (Cv G y_So_addToDraw d [vr a0, vi l4] M (fun M35 => mOk M35 ∧ (h_So_addOthers_25 G d a0 l1 l2 l3 (l4 + 1) M35 Q)))) ∧ (¬ (l4 = mI M (mR M a0 9) (Int.toNat l2)) → (i32 ((mI M a0 12) + 1) ∧ ∀ M39, M39 = mUI M a0 12 ((mI M a0 12) + 1) → mK M39 (mR M a0 11) = 30 ∧ ((0 : Int) ≤ mI M a0 12 ∧ mI M a0 12 < (mN M39 (mR M a0 11) : Int)) ∧ i32 ((l4 * 40) + l2) ∧ ∀ M44, M44 = mUI M39 (mR M a0 11) (Int.toNat (mI M a0 12)) ((l4 * 40) + l2) → Cv G y_So_addToDraw d [vr a0, vi l4] M44 (fun M46 => mOk M46 ∧ (h_So_addOthers_25 G d a0 l1 l2 l3 (l4 + 1) M46 Q))))))) :
    h_So_addOthers_25 G d a0 l1 l2 l3 l4 M Q := by
  unfold h_So_addOthers_25
  obtain ⟨h12, h⟩ := h
  obtain ⟨h13, h⟩ := h
  obtain ⟨h14, h⟩ := h
  refine wm_iload d_So_addOthers_25 rfl ?_
  refine wm_aload_n d_So_addOthers_27 rfl rfl ?_
  refine gf_So_35 rfl d_So_addOthers_28 h12 ?_
  refine wm_iload_n d_So_addOthers_31 rfl rfl ?_
  refine wm_iald d_So_addOthers_32 h13 h14 ?_
  obtain ⟨s23, h⟩ := h
  have hE0 : ((mI M (mR M a0 6) (Int.toNat l3) ≤ l4) ∨ (¬ (mI M (mR M (mR M a0 3) 2) (Int.toNat l3) = l1))) → mWm G y_So_addOthers (d + 1) 95 [vr a0, vi l1, vi l2, vi l3, vi l4] [] M (fun r9 M9 => r9 = none ∧ Q M9) := by
    intro q24
    have h := h.1 q24
    refine wm_iinc d_So_addOthers_95 (by decide) rfl (L' := [vr a0, vi l1, vi (l2 + 1), vi l3, vi l4]) rfl ?_
    refine wm_goto (tgt := 2) d_So_addOthers_98 rfl ?_
    refine wm_less (L' := [vr a0, vi l1, vi (l2 + 1), vd, vd]) ⟨Or.inr rfl, Or.inr rfl, Or.inr rfl, Or.inl rfl, Or.inl rfl, trivial⟩ ?_
    exact h
  have hE1 : ¬ ((mI M (mR M a0 6) (Int.toNat l3) ≤ l4) ∨ (¬ (mI M (mR M (mR M a0 3) 2) (Int.toNat l3) = l1))) → mWm G y_So_addOthers (d + 1) 49 [vr a0, vi l1, vi l2, vi l3, vi l4] [] M (fun r9 M9 => r9 = none ∧ Q M9) := by
    intro q25
    have h := h.2 q25
    obtain ⟨h26, h⟩ := h
    obtain ⟨h27, h⟩ := h
    refine wm_iload d_So_addOthers_49 rfl ?_
    refine wm_aload_n d_So_addOthers_51 rfl rfl ?_
    refine gf_So_44 rfl d_So_addOthers_52 h12 ?_
    refine wm_iload_n d_So_addOthers_55 rfl rfl ?_
    refine wm_iald d_So_addOthers_56 h26 h27 ?_
    refine wm_icmp_eq (tgt := 83) d_So_addOthers_57 rfl hi_l4 (hO _ _).1 (fun c34 => ?_) (fun c34 => ?_)
    · replace h := h.1 c34
      refine wm_aload_n d_So_addOthers_83 rfl rfl ?_
      refine wm_iload d_So_addOthers_84 rfl ?_
      refine cf_So_214 rfl d_So_addOthers_86 h12 (Nat.le_of_ble_eq_true rfl) (Cv.mono h (fun M35 h => ?_))
      obtain ⟨hOM35, h⟩ := h
      refine wm_iinc d_So_addOthers_89 (by decide) rfl (L' := [vr a0, vi l1, vi l2, vi l3, vi (l4 + 1)]) rfl ?_
      refine wm_goto (tgt := 25) d_So_addOthers_92 rfl ?_
      exact h
    · replace h := h.2 c34
      obtain ⟨h38, h⟩ := h
      obtain ⟨M39, e40⟩ : ∃ M39, M39 = mUI M a0 12 ((mI M a0 12) + 1) := ⟨_, rfl⟩
      replace h := h M39 e40
      obtain ⟨h41, h⟩ := h
      obtain ⟨h42, h⟩ := h
      obtain ⟨h43, h⟩ := h
      obtain ⟨M44, e45⟩ : ∃ M44, M44 = mUI M39 (mR M a0 11) (Int.toNat (mI M a0 12)) ((l4 * 40) + l2) := ⟨_, rfl⟩
      replace h := h M44 e45
      refine wm_aload_n d_So_addOthers_60 rfl rfl ?_
      refine gf_So_47 rfl d_So_addOthers_61 h12 ?_
      refine wm_aload_n d_So_addOthers_64 rfl rfl ?_
      refine wm_dup d_So_addOthers_65 rfl ?_
      refine gf_So_198 rfl d_So_addOthers_66 h12 ?_
      refine wm_dup_x1 d_So_addOthers_69 rfl rfl ?_
      refine wm_iconst d_So_addOthers_70 ?_
      refine wm_iadd d_So_addOthers_71 ?_
      have hOM39 : mOk M39 := by rw [e40]; exact mOk_UI hO h38
      refine pf_So_198 rfl d_So_addOthers_72 h12 h38 e40 ?_
      refine wm_iload d_So_addOthers_75 rfl ?_
      refine wm_bipush d_So_addOthers_77 (by decide) ?_
      refine wm_imul d_So_addOthers_79 ?_
      refine wm_iload_n d_So_addOthers_80 rfl rfl ?_
      refine wm_iadd d_So_addOthers_81 ?_
      have hOM44 : mOk M44 := by rw [e45]; exact mOk_UI hOM39 h43
      refine wm_iastE d_So_addOthers_82 h41 h42 h43 e45 ?_
      refine wm_aload_n d_So_addOthers_83 rfl rfl ?_
      refine wm_iload d_So_addOthers_84 rfl ?_
      refine cf_So_214 rfl d_So_addOthers_86 (by rw [e45, e40]; exact h12) (Nat.le_of_ble_eq_true rfl) (Cv.mono h (fun M46 h => ?_))
      obtain ⟨hOM46, h⟩ := h
      refine wm_iinc d_So_addOthers_89 (by decide) rfl (L' := [vr a0, vi l1, vi l2, vi l3, vi (l4 + 1)]) rfl ?_
      refine wm_goto (tgt := 25) d_So_addOthers_92 rfl ?_
      exact h
  clear h
  have s49 := s23
  refine wm_icmp_ge (tgt := 95) d_So_addOthers_33 rfl hi_l4 (hO _ _).1 (fun c22 => ?_) (fun c22 => ?_)
  · exact hE0 (Or.inl c22)
  · have s49 := s49 c22
    obtain ⟨h15, h16, h17⟩ := s49
    refine wm_aload_n d_So_addOthers_36 rfl rfl ?_
    refine gf_So_64 rfl d_So_addOthers_37 h12 ?_
    refine gf_So_113 rfl d_So_addOthers_40 h15 ?_
    refine wm_iload_n d_So_addOthers_43 rfl rfl ?_
    refine wm_iald d_So_addOthers_44 h16 h17 ?_
    refine wm_iload_n d_So_addOthers_45 rfl rfl ?_
    refine wm_icmp_ne (tgt := 95) d_So_addOthers_46 rfl (hO _ _).1 hi_l1 (fun c21 => ?_) (fun c21 => ?_)
    · exact hE0 (Or.inr c21)
    · replace c21 := Classical.not_not.mp c21
      exact hE1 (fun z50 => Or.elim z50 c22 (fun z51 => z51 c21))
theorem d_So_addToDraw_0 : decode y_So_addToDraw.2.1 0 = .ok (.aload_n 0, 1) := by decide +kernel
theorem d_So_addToDraw_1 : decode y_So_addToDraw.2.1 1 = .ok (.getfield 64, 3) := by decide +kernel
theorem d_So_addToDraw_4 : decode y_So_addToDraw.2.1 4 = .ok (.getfield 139, 3) := by decide +kernel
theorem d_So_addToDraw_7 : decode y_So_addToDraw.2.1 7 = .ok (.iload_n 1, 1) := by decide +kernel
theorem d_So_addToDraw_8 : decode y_So_addToDraw.2.1 8 = .ok (.iaload, 1) := by decide +kernel
theorem d_So_addToDraw_9 : decode y_So_addToDraw.2.1 9 = .ok (.istore_n 2, 1) := by decide +kernel
theorem d_So_addToDraw_10 : decode y_So_addToDraw.2.1 10 = .ok (.iload_n 2, 1) := by decide +kernel
theorem d_So_addToDraw_11 : decode y_So_addToDraw.2.1 11 = .ok (.aload_n 0, 1) := by decide +kernel
theorem d_So_addToDraw_12 : decode y_So_addToDraw.2.1 12 = .ok (.getfield 64, 3) := by decide +kernel
theorem d_So_addToDraw_15 : decode y_So_addToDraw.2.1 15 = .ok (.getfield 139, 3) := by decide +kernel
theorem d_So_addToDraw_18 : decode y_So_addToDraw.2.1 18 = .ok (.iload_n 1, 1) := by decide +kernel
theorem d_So_addToDraw_19 : decode y_So_addToDraw.2.1 19 = .ok (.iconst 1, 1) := by decide +kernel
theorem d_So_addToDraw_20 : decode y_So_addToDraw.2.1 20 = .ok (.iadd, 1) := by decide +kernel
theorem d_So_addToDraw_21 : decode y_So_addToDraw.2.1 21 = .ok (.iaload, 1) := by decide +kernel
theorem d_So_addToDraw_22 : decode y_So_addToDraw.2.1 22 = .ok (.if_icmp .ge 55, 3) := by decide +kernel
theorem d_So_addToDraw_77 : decode y_So_addToDraw.2.1 77 = .ok (.return_, 1) := by decide +kernel
theorem d_So_addToDraw_25 : decode y_So_addToDraw.2.1 25 = .ok (.aload_n 0, 1) := by decide +kernel
theorem d_So_addToDraw_26 : decode y_So_addToDraw.2.1 26 = .ok (.aload_n 0, 1) := by decide +kernel
theorem d_So_addToDraw_27 : decode y_So_addToDraw.2.1 27 = .ok (.getfield 201, 3) := by decide +kernel
theorem d_So_addToDraw_30 : decode y_So_addToDraw.2.1 30 = .ok (.ldc2_w 217, 3) := by decide +kernel
theorem d_So_addToDraw_33 : decode y_So_addToDraw.2.1 33 = .ok (.lmul, 1) := by decide +kernel
theorem d_So_addToDraw_34 : decode y_So_addToDraw.2.1 34 = .ok (.aload_n 0, 1) := by decide +kernel
theorem d_So_addToDraw_35 : decode y_So_addToDraw.2.1 35 = .ok (.getfield 64, 3) := by decide +kernel
theorem d_So_addToDraw_38 : decode y_So_addToDraw.2.1 38 = .ok (.getfield 162, 3) := by decide +kernel
theorem d_So_addToDraw_41 : decode y_So_addToDraw.2.1 41 = .ok (.iload_n 2, 1) := by decide +kernel
theorem d_So_addToDraw_42 : decode y_So_addToDraw.2.1 42 = .ok (.iaload, 1) := by decide +kernel
theorem d_So_addToDraw_43 : decode y_So_addToDraw.2.1 43 = .ok (.i2l, 1) := by decide +kernel
theorem d_So_addToDraw_44 : decode y_So_addToDraw.2.1 44 = .ok (.ladd, 1) := by decide +kernel
theorem d_So_addToDraw_45 : decode y_So_addToDraw.2.1 45 = .ok (.putfield 201, 3) := by decide +kernel
theorem d_So_addToDraw_48 : decode y_So_addToDraw.2.1 48 = .ok (.aload_n 0, 1) := by decide +kernel
theorem d_So_addToDraw_49 : decode y_So_addToDraw.2.1 49 = .ok (.aload_n 0, 1) := by decide +kernel
theorem d_So_addToDraw_50 : decode y_So_addToDraw.2.1 50 = .ok (.getfield 201, 3) := by decide +kernel
theorem d_So_addToDraw_53 : decode y_So_addToDraw.2.1 53 = .ok (.ldc2_w 217, 3) := by decide +kernel
theorem d_So_addToDraw_56 : decode y_So_addToDraw.2.1 56 = .ok (.lmul, 1) := by decide +kernel
theorem d_So_addToDraw_57 : decode y_So_addToDraw.2.1 57 = .ok (.aload_n 0, 1) := by decide +kernel
theorem d_So_addToDraw_58 : decode y_So_addToDraw.2.1 58 = .ok (.getfield 64, 3) := by decide +kernel
theorem d_So_addToDraw_61 : decode y_So_addToDraw.2.1 61 = .ok (.getfield 142, 3) := by decide +kernel
theorem d_So_addToDraw_64 : decode y_So_addToDraw.2.1 64 = .ok (.iload_n 2, 1) := by decide +kernel
theorem d_So_addToDraw_65 : decode y_So_addToDraw.2.1 65 = .ok (.iaload, 1) := by decide +kernel
theorem d_So_addToDraw_66 : decode y_So_addToDraw.2.1 66 = .ok (.i2l, 1) := by decide +kernel
theorem d_So_addToDraw_67 : decode y_So_addToDraw.2.1 67 = .ok (.ladd, 1) := by decide +kernel
theorem d_So_addToDraw_68 : decode y_So_addToDraw.2.1 68 = .ok (.putfield 201, 3) := by decide +kernel
theorem d_So_addToDraw_71 : decode y_So_addToDraw.2.1 71 = .ok (.iinc 2 1, 3) := by decide +kernel
theorem d_So_addToDraw_74 : decode y_So_addToDraw.2.1 74 = .ok (.goto (-64), 3) := by decide +kernel
def h_So_addToDraw_10 (G : mG) (d : Nat) (a0 : Nat) (l1 : Int) (l2 : Int) (M : mM) (Q : mM → Prop) : Prop := mWm G y_So_addToDraw d 10 [vr a0, vi l1, vi l2] [] M (fun r9 M9 => r9 = none ∧ Q M9)
theorem k_So_addToDraw {G : mG} {d : Nat} {a0 : Nat} {l1 : Int} {M : mM} {Q : mM → Prop} (hO : mOk M) (hi_l1 : i32 l1)
    (h : mK M a0 = 8 ∧ mK M (mR M a0 3) = 7 ∧ mK M (mR M (mR M a0 3) 7) = 30 ∧ ((0 : Int) ≤ l1 ∧ l1 < (mN M (mR M (mR M a0 3) 7) : Int)) ∧ h_So_addToDraw_10 G d a0 l1 (mI M (mR M (mR M a0 3) 7) (Int.toNat l1)) M Q) :
    Cv G y_So_addToDraw d [vr a0, vi l1] M Q := by
  refine wm_open (y := y_So_addToDraw) rfl (Nat.le_of_ble_eq_true rfl) (L := [vr a0, vi l1, vd]) rfl ?_
  obtain ⟨h1, h⟩ := h
  obtain ⟨h2, h⟩ := h
  obtain ⟨h3, h⟩ := h
  obtain ⟨h4, h⟩ := h
  refine wm_aload_n d_So_addToDraw_0 rfl rfl ?_
  refine gf_So_64 rfl d_So_addToDraw_1 h1 ?_
  refine gf_So_139 rfl d_So_addToDraw_4 h2 ?_
  refine wm_iload_n d_So_addToDraw_7 rfl rfl ?_
  refine wm_iald d_So_addToDraw_8 h3 h4 ?_
  refine wm_istore_n d_So_addToDraw_9 rfl (by decide) (L' := [vr a0, vi l1, vi (mI M (mR M (mR M a0 3) 7) (Int.toNat l1))]) rfl ?_
  exact h
theorem k_So_addToDraw_10 {G : mG} {d : Nat} {a0 : Nat} {l1 : Int} {l2 : Int} {M : mM} {Q : mM → Prop} (hO : mOk M) (hi_l1 : i32 l1) (hi_l2 : i32 l2)
    (h : mK M a0 = 8 ∧ mK M (mR M a0 3) = 7 ∧ mK M (mR M (mR M a0 3) 7) = 30 ∧ ((0 : Int) ≤ l1 + 1 ∧ l1 + 1 < (mN M (mR M (mR M a0 3) 7) : Int)) ∧ ((mI M (mR M (mR M a0 3) 7) (Int.toNat (l1 + 1)) ≤ l2) → (Q M)) ∧ (¬ (mI M (mR M (mR M a0 3) 7) (Int.toNat (l1 + 1)) ≤ l2) → (mK M (mR M (mR M a0 3) 9) = 30 ∧ ((0 : Int) ≤ l2 ∧ l2 < (mN M (mR M (mR M a0 3) 9) : Int)) ∧ ∀ M13, M13 = mUL M a0 14 (w64 (((mL M a0 14) * 6364136223846793005) + (mI M (mR M (mR M a0 3) 9) (Int.toNat l2)))) → mK M13 (mR M13 a0 3) = 7 ∧ mK M13 (mR M13 (mR M13 a0 3) 8) = 30 ∧ ((0 : Int) ≤ l2 ∧ l2 < (mN M13 (mR M13 (mR M13 a0 3) 8) : Int)) ∧ ∀ M18, M18 = mUL M13 a0 14 (w64 (((mL M13 a0 14) * 6364136223846793005) + (mI M13 (mR M13 (mR M13 a0 3) 8) (Int.toNat l2)))) → h_So_addToDraw_10 G d a0 l1 (l2 + 1) M18 Q))) :
    h_So_addToDraw_10 G d a0 l1 l2 M Q := by
  unfold h_So_addToDraw_10
  obtain ⟨h5, h⟩ := h
  obtain ⟨h6, h⟩ := h
  obtain ⟨h7, h⟩ := h
  obtain ⟨h8, h⟩ := h
  refine wm_iload_n d_So_addToDraw_10 rfl rfl ?_
  refine wm_aload_n d_So_addToDraw_11 rfl rfl ?_
  refine gf_So_64 rfl d_So_addToDraw_12 h5 ?_
  refine gf_So_139 rfl d_So_addToDraw_15 h6 ?_
  refine wm_iload_n d_So_addToDraw_18 rfl rfl ?_
  refine wm_iconst d_So_addToDraw_19 ?_
  refine wm_iadd d_So_addToDraw_20 ?_
  refine wm_iald d_So_addToDraw_21 h7 h8 ?_
  refine wm_icmp_ge (tgt := 77) d_So_addToDraw_22 rfl hi_l2 (hO _ _).1 (fun c10 => ?_) (fun c10 => ?_)
  · replace h := h.1 c10
    refine wm_return d_So_addToDraw_77 rfl ?_
    exact ⟨rfl, h⟩
  · replace h := h.2 c10
    obtain ⟨h11, h⟩ := h
    obtain ⟨h12, h⟩ := h
    obtain ⟨M13, e14⟩ : ∃ M13, M13 = mUL M a0 14 (w64 (((mL M a0 14) * 6364136223846793005) + (mI M (mR M (mR M a0 3) 9) (Int.toNat l2)))) := ⟨_, rfl⟩
    replace h := h M13 e14
    obtain ⟨h15, h⟩ := h
    obtain ⟨h16, h⟩ := h
    obtain ⟨h17, h⟩ := h
    obtain ⟨M18, e19⟩ : ∃ M18, M18 = mUL M13 a0 14 (w64 (((mL M13 a0 14) * 6364136223846793005) + (mI M13 (mR M13 (mR M13 a0 3) 8) (Int.toNat l2)))) := ⟨_, rfl⟩
    replace h := h M18 e19
    refine wm_aload_n d_So_addToDraw_25 rfl rfl ?_
    refine wm_aload_n d_So_addToDraw_26 rfl rfl ?_
    refine gf_So_201 rfl d_So_addToDraw_27 h5 ?_
    refine wm_ldc2 (x := 6364136223846793005) d_So_addToDraw_30 k8_176 (by decide) ?_
    refine wm_lmul d_So_addToDraw_33 ?_
    refine wm_aload_n d_So_addToDraw_34 rfl rfl ?_
    refine gf_So_64 rfl d_So_addToDraw_35 h5 ?_
    refine gf_So_162 rfl d_So_addToDraw_38 h6 ?_
    refine wm_iload_n d_So_addToDraw_41 rfl rfl ?_
    refine wm_iald d_So_addToDraw_42 h11 h12 ?_
    refine wm_i2l d_So_addToDraw_43 (hO _ _).1 ?_
    refine wm_ladd d_So_addToDraw_44 ?_
    have hOM13 : mOk M13 := by rw [e14]; exact mOk_UL hO i64_w64
    refine pf_So_201 rfl d_So_addToDraw_45 h5 e14 ?_
    refine wm_aload_n d_So_addToDraw_48 rfl rfl ?_
    refine wm_aload_n d_So_addToDraw_49 rfl rfl ?_
    refine gf_So_201 rfl d_So_addToDraw_50 (by rw [e14]; exact h5) ?_
    refine wm_ldc2 (x := 6364136223846793005) d_So_addToDraw_53 k8_176 (by decide) ?_
    refine wm_lmul d_So_addToDraw_56 ?_
    refine wm_aload_n d_So_addToDraw_57 rfl rfl ?_
    refine gf_So_64 rfl d_So_addToDraw_58 (by rw [e14]; exact h5) ?_
    refine gf_So_142 rfl d_So_addToDraw_61 h15 ?_
    refine wm_iload_n d_So_addToDraw_64 rfl rfl ?_
    refine wm_iald d_So_addToDraw_65 h16 h17 ?_
    refine wm_i2l d_So_addToDraw_66 (hOM13 _ _).1 ?_
    refine wm_ladd d_So_addToDraw_67 ?_
    have hOM18 : mOk M18 := by rw [e19]; exact mOk_UL hOM13 i64_w64
    refine pf_So_201 rfl d_So_addToDraw_68 (by rw [e14]; exact h5) e19 ?_
    refine wm_iinc d_So_addToDraw_71 (by decide) rfl (L' := [vr a0, vi l1, vi (l2 + 1)]) rfl ?_
    refine wm_goto (tgt := 10) d_So_addToDraw_74 rfl ?_
    exact h
theorem d_So_mix_0 : decode y_So_mix.2.1 0 = .ok (.iload_n 2, 1) := by decide +kernel
theorem d_So_mix_1 : decode y_So_mix.2.1 1 = .ok (.iconst 1, 1) := by decide +kernel
theorem d_So_mix_2 : decode y_So_mix.2.1 2 = .ok (.isub, 1) := by decide +kernel
theorem d_So_mix_3 : decode y_So_mix.2.1 3 = .ok (.istore_n 3, 1) := by decide +kernel
theorem d_So_mix_4 : decode y_So_mix.2.1 4 = .ok (.iload_n 3, 1) := by decide +kernel
theorem d_So_mix_5 : decode y_So_mix.2.1 5 = .ok (.iload_n 1, 1) := by decide +kernel
theorem d_So_mix_6 : decode y_So_mix.2.1 6 = .ok (.if_icmp .le 74, 3) := by decide +kernel
theorem d_So_mix_80 : decode y_So_mix.2.1 80 = .ok (.return_, 1) := by decide +kernel
theorem d_So_mix_9 : decode y_So_mix.2.1 9 = .ok (.aload_n 0, 1) := by decide +kernel
theorem d_So_mix_10 : decode y_So_mix.2.1 10 = .ok (.aload_n 0, 1) := by decide +kernel
theorem d_So_mix_11 : decode y_So_mix.2.1 11 = .ok (.getfield 201, 3) := by decide +kernel
theorem d_So_mix_14 : decode y_So_mix.2.1 14 = .ok (.ldc2_w 217, 3) := by decide +kernel
theorem d_So_mix_17 : decode y_So_mix.2.1 17 = .ok (.lmul, 1) := by decide +kernel
theorem d_So_mix_18 : decode y_So_mix.2.1 18 = .ok (.ldc2_w 219, 3) := by decide +kernel
theorem d_So_mix_21 : decode y_So_mix.2.1 21 = .ok (.ladd, 1) := by decide +kernel
theorem d_So_mix_22 : decode y_So_mix.2.1 22 = .ok (.putfield 201, 3) := by decide +kernel
theorem d_So_mix_25 : decode y_So_mix.2.1 25 = .ok (.iload_n 1, 1) := by decide +kernel
theorem d_So_mix_26 : decode y_So_mix.2.1 26 = .ok (.aload_n 0, 1) := by decide +kernel
theorem d_So_mix_27 : decode y_So_mix.2.1 27 = .ok (.getfield 201, 3) := by decide +kernel
theorem d_So_mix_30 : decode y_So_mix.2.1 30 = .ok (.bipush 33, 2) := by decide +kernel
theorem d_So_mix_32 : decode y_So_mix.2.1 32 = .ok (.lushr, 1) := by decide +kernel
theorem d_So_mix_33 : decode y_So_mix.2.1 33 = .ok (.iload_n 3, 1) := by decide +kernel
theorem d_So_mix_34 : decode y_So_mix.2.1 34 = .ok (.iload_n 1, 1) := by decide +kernel
theorem d_So_mix_35 : decode y_So_mix.2.1 35 = .ok (.isub, 1) := by decide +kernel
theorem d_So_mix_36 : decode y_So_mix.2.1 36 = .ok (.iconst 1, 1) := by decide +kernel
theorem d_So_mix_37 : decode y_So_mix.2.1 37 = .ok (.iadd, 1) := by decide +kernel
theorem d_So_mix_38 : decode y_So_mix.2.1 38 = .ok (.i2l, 1) := by decide +kernel
theorem d_So_mix_39 : decode y_So_mix.2.1 39 = .ok (.lrem, 1) := by decide +kernel
theorem d_So_mix_40 : decode y_So_mix.2.1 40 = .ok (.l2i, 1) := by decide +kernel
theorem d_So_mix_41 : decode y_So_mix.2.1 41 = .ok (.iadd, 1) := by decide +kernel
theorem d_So_mix_42 : decode y_So_mix.2.1 42 = .ok (.istore 4, 2) := by decide +kernel
theorem d_So_mix_44 : decode y_So_mix.2.1 44 = .ok (.aload_n 0, 1) := by decide +kernel
theorem d_So_mix_45 : decode y_So_mix.2.1 45 = .ok (.getfield 47, 3) := by decide +kernel
theorem d_So_mix_48 : decode y_So_mix.2.1 48 = .ok (.iload_n 3, 1) := by decide +kernel
theorem d_So_mix_49 : decode y_So_mix.2.1 49 = .ok (.iaload, 1) := by decide +kernel
theorem d_So_mix_50 : decode y_So_mix.2.1 50 = .ok (.istore 5, 2) := by decide +kernel
theorem d_So_mix_52 : decode y_So_mix.2.1 52 = .ok (.aload_n 0, 1) := by decide +kernel
theorem d_So_mix_53 : decode y_So_mix.2.1 53 = .ok (.getfield 47, 3) := by decide +kernel
theorem d_So_mix_56 : decode y_So_mix.2.1 56 = .ok (.iload_n 3, 1) := by decide +kernel
theorem d_So_mix_57 : decode y_So_mix.2.1 57 = .ok (.aload_n 0, 1) := by decide +kernel
theorem d_So_mix_58 : decode y_So_mix.2.1 58 = .ok (.getfield 47, 3) := by decide +kernel
theorem d_So_mix_61 : decode y_So_mix.2.1 61 = .ok (.iload 4, 2) := by decide +kernel
theorem d_So_mix_63 : decode y_So_mix.2.1 63 = .ok (.iaload, 1) := by decide +kernel
theorem d_So_mix_64 : decode y_So_mix.2.1 64 = .ok (.iastore, 1) := by decide +kernel
theorem d_So_mix_65 : decode y_So_mix.2.1 65 = .ok (.aload_n 0, 1) := by decide +kernel
theorem d_So_mix_66 : decode y_So_mix.2.1 66 = .ok (.getfield 47, 3) := by decide +kernel
theorem d_So_mix_69 : decode y_So_mix.2.1 69 = .ok (.iload 4, 2) := by decide +kernel
theorem d_So_mix_71 : decode y_So_mix.2.1 71 = .ok (.iload 5, 2) := by decide +kernel
theorem d_So_mix_73 : decode y_So_mix.2.1 73 = .ok (.iastore, 1) := by decide +kernel
theorem d_So_mix_74 : decode y_So_mix.2.1 74 = .ok (.iinc 3 (-1), 3) := by decide +kernel
theorem d_So_mix_77 : decode y_So_mix.2.1 77 = .ok (.goto (-73), 3) := by decide +kernel
def h_So_mix_4 (G : mG) (d : Nat) (a0 : Nat) (l1 : Int) (l3 : Int) (M : mM) (Q : mM → Prop) : Prop := mWm G y_So_mix d 4 [vr a0, vi l1, vd, vi l3, vd, vd] [] M (fun r9 M9 => r9 = none ∧ Q M9)
theorem k_So_mix {G : mG} {d : Nat} {a0 : Nat} {l1 : Int} {l2 : Int} {M : mM} {Q : mM → Prop} (hO : mOk M) (hi_l1 : i32 l1) (hi_l2 : i32 l2)
    (h : h_So_mix_4 G d a0 l1 (l2 - 1) M Q) :
    Cv G y_So_mix d [vr a0, vi l1, vi l2] M Q := by
  refine wm_open (y := y_So_mix) rfl (Nat.le_of_ble_eq_true rfl) (L := [vr a0, vi l1, vi l2, vd, vd, vd]) rfl ?_
  refine wm_iload_n d_So_mix_0 rfl rfl ?_
  refine wm_iconst d_So_mix_1 ?_
  refine wm_isub d_So_mix_2 ?_
  refine wm_istore_n d_So_mix_3 rfl (by decide) (L' := [vr a0, vi l1, vi l2, vi (l2 - 1), vd, vd]) rfl ?_
  refine wm_less (L' := [vr a0, vi l1, vd, vi (l2 - 1), vd, vd]) ⟨Or.inr rfl, Or.inr rfl, Or.inl rfl, Or.inr rfl, Or.inl rfl, Or.inl rfl, trivial⟩ ?_
  exact h
theorem k_So_mix_4 {G : mG} {d : Nat} {a0 : Nat} {l1 : Int} {l3 : Int} {M : mM} {Q : mM → Prop} (hO : mOk M) (hi_l1 : i32 l1) (hi_l3 : i32 l3)
    (h : ((l3 ≤ l1) → (Q M)) ∧ (¬ (l3 ≤ l1) → (mK M a0 = 8 ∧ ∀ M4, M4 = mUL M a0 14 (w64 (((mL M a0 14) * 6364136223846793005) + 1442695040888963407)) → i32 ((l3 - l1) + 1) ∧ ((l3 - l1) + 1) ≠ 0 ∧ mK M4 (mR M4 a0 11) = 30 ∧ ((0 : Int) ≤ l3 ∧ l3 < (mN M4 (mR M4 a0 11) : Int)) ∧ ((0 : Int) ≤ l1 + (Int.tmod (ushrL (mL M4 a0 14) 33) ((l3 - l1) + 1)) ∧ l1 + (Int.tmod (ushrL (mL M4 a0 14) 33) ((l3 - l1) + 1)) < (mN M4 (mR M4 a0 11) : Int)) ∧ ((0 : Int) ≤ l3 ∧ l3 < (mN M4 (mR M4 a0 11) : Int)) ∧ ∀ M12, M12 = mUI M4 (mR M4 a0 11) (Int.toNat l3) (mI M4 (mR M4 a0 11) (Int.toNat (l1 + (Int.tmod (ushrL (mL M4 a0 14) 33) ((l3 - l1) + 1))))) → mK M12 (mR M12 a0 11) = 30 ∧ ((0 : Int) ≤ l1 + (Int.tmod (ushrL (mL M4 a0 14) 33) ((l3 - l1) + 1)) ∧ l1 + (Int.tmod (ushrL (mL M4 a0 14) 33) ((l3 - l1) + 1)) < (mN M12 (mR M12 a0 11) : Int)) ∧ ∀ M16, M16 = mUI M12 (mR M12 a0 11) (Int.toNat (l1 + (Int.tmod (ushrL (mL M4 a0 14) 33) ((l3 - l1) + 1)))) (mI M4 (mR M4 a0 11) (Int.toNat l3)) → h_So_mix_4 G d a0 l1 (l3 + (-1)) M16 Q))) :
    h_So_mix_4 G d a0 l1 l3 M Q := by
  unfold h_So_mix_4
  refine wm_iload_n d_So_mix_4 rfl rfl ?_
  refine wm_iload_n d_So_mix_5 rfl rfl ?_
  refine wm_icmp_le (tgt := 80) d_So_mix_6 rfl hi_l3 hi_l1 (fun c2 => ?_) (fun c2 => ?_)
  · replace h := h.1 c2
    refine wm_return d_So_mix_80 rfl ?_
    exact ⟨rfl, h⟩
  · replace h := h.2 c2
    obtain ⟨h3, h⟩ := h
    obtain ⟨M4, e5⟩ : ∃ M4, M4 = mUL M a0 14 (w64 (((mL M a0 14) * 6364136223846793005) + 1442695040888963407)) := ⟨_, rfl⟩
    replace h := h M4 e5
    obtain ⟨h6, h⟩ := h
    obtain ⟨h7, h⟩ := h
    obtain ⟨h8, h⟩ := h
    obtain ⟨h9, h⟩ := h
    obtain ⟨h10, h⟩ := h
    obtain ⟨h11, h⟩ := h
    obtain ⟨M12, e13⟩ : ∃ M12, M12 = mUI M4 (mR M4 a0 11) (Int.toNat l3) (mI M4 (mR M4 a0 11) (Int.toNat (l1 + (Int.tmod (ushrL (mL M4 a0 14) 33) ((l3 - l1) + 1))))) := ⟨_, rfl⟩
    replace h := h M12 e13
    obtain ⟨h14, h⟩ := h
    obtain ⟨h15, h⟩ := h
    obtain ⟨M16, e17⟩ : ∃ M16, M16 = mUI M12 (mR M12 a0 11) (Int.toNat (l1 + (Int.tmod (ushrL (mL M4 a0 14) 33) ((l3 - l1) + 1)))) (mI M4 (mR M4 a0 11) (Int.toNat l3)) := ⟨_, rfl⟩
    replace h := h M16 e17
    refine wm_aload_n d_So_mix_9 rfl rfl ?_
    refine wm_aload_n d_So_mix_10 rfl rfl ?_
    refine gf_So_201 rfl d_So_mix_11 h3 ?_
    refine wm_ldc2 (x := 6364136223846793005) d_So_mix_14 k8_176 (by decide) ?_
    refine wm_lmul d_So_mix_17 ?_
    refine wm_ldc2 (x := 1442695040888963407) d_So_mix_18 k8_181 (by decide) ?_
    refine wm_ladd d_So_mix_21 ?_
    have hOM4 : mOk M4 := by rw [e5]; exact mOk_UL hO i64_w64
    refine pf_So_201 rfl d_So_mix_22 h3 e5 ?_
    refine wm_iload_n d_So_mix_25 rfl rfl ?_
    refine wm_aload_n d_So_mix_26 rfl rfl ?_
    refine gf_So_201 rfl d_So_mix_27 (by rw [e5]; exact h3) ?_
    refine wm_bipush d_So_mix_30 (by decide) ?_
    refine wm_lushr d_So_mix_32 ?_
    refine wm_iload_n d_So_mix_33 rfl rfl ?_
    refine wm_iload_n d_So_mix_34 rfl rfl ?_
    refine wm_isub d_So_mix_35 ?_
    refine wm_iconst d_So_mix_36 ?_
    refine wm_iadd d_So_mix_37 ?_
    refine wm_i2l d_So_mix_38 h6 ?_
    refine wm_lrem d_So_mix_39 (m_i64 _) (i64_of32 h6) h7 ?_
    refine wm_l2i d_So_mix_40 ?_
    refine wm_iadd d_So_mix_41 ?_
    refine wm_istore d_So_mix_42 (by decide) (L' := [vr a0, vi l1, vd, vi l3, vi (l1 + (Int.tmod (ushrL (mL M4 a0 14) 33) ((l3 - l1) + 1))), vd]) rfl ?_
    refine wm_aload_n d_So_mix_44 rfl rfl ?_
    refine gf_So_47 rfl d_So_mix_45 (by rw [e5]; exact h3) ?_
    refine wm_iload_n d_So_mix_48 rfl rfl ?_
    refine wm_iald d_So_mix_49 h8 h9 ?_
    refine wm_istore d_So_mix_50 (by decide) (L' := [vr a0, vi l1, vd, vi l3, vi (l1 + (Int.tmod (ushrL (mL M4 a0 14) 33) ((l3 - l1) + 1))), vi (mI M4 (mR M4 a0 11) (Int.toNat l3))]) rfl ?_
    refine wm_aload_n d_So_mix_52 rfl rfl ?_
    refine gf_So_47 rfl d_So_mix_53 (by rw [e5]; exact h3) ?_
    refine wm_iload_n d_So_mix_56 rfl rfl ?_
    refine wm_aload_n d_So_mix_57 rfl rfl ?_
    refine gf_So_47 rfl d_So_mix_58 (by rw [e5]; exact h3) ?_
    refine wm_iload d_So_mix_61 rfl ?_
    refine wm_iald d_So_mix_63 h8 h10 ?_
    have hOM12 : mOk M12 := by rw [e13]; exact mOk_UI hOM4 (hOM4 _ _).1
    refine wm_iastE d_So_mix_64 h8 h11 (hOM4 _ _).1 e13 ?_
    refine wm_aload_n d_So_mix_65 rfl rfl ?_
    refine gf_So_47 rfl d_So_mix_66 (by rw [e13, e5]; exact h3) ?_
    refine wm_iload d_So_mix_69 rfl ?_
    refine wm_iload d_So_mix_71 rfl ?_
    have hOM16 : mOk M16 := by rw [e17]; exact mOk_UI hOM12 (hOM4 _ _).1
    refine wm_iastE d_So_mix_73 h14 h15 (hOM4 _ _).1 e17 ?_
    refine wm_iinc d_So_mix_74 (by decide) rfl (L' := [vr a0, vi l1, vd, vi (l3 + (-1)), vi (l1 + (Int.tmod (ushrL (mL M4 a0 14) 33) ((l3 - l1) + 1))), vi (mI M4 (mR M4 a0 11) (Int.toNat l3))]) rfl ?_
    refine wm_goto (tgt := 4) d_So_mix_77 rfl ?_
    refine wm_less (L' := [vr a0, vi l1, vd, vi (l3 + (-1)), vd, vd]) ⟨Or.inr rfl, Or.inr rfl, Or.inl rfl, Or.inr rfl, Or.inl rfl, Or.inl rfl, trivial⟩ ?_
    exact h
theorem d_So_improveOne_0 : decode y_So_improveOne.2.1 0 = .ok (.iconst 0, 1) := by decide +kernel
theorem d_So_improveOne_1 : decode y_So_improveOne.2.1 1 = .ok (.istore_n 2, 1) := by decide +kernel
theorem d_So_improveOne_2 : decode y_So_improveOne.2.1 2 = .ok (.iload_n 2, 1) := by decide +kernel
theorem d_So_improveOne_3 : decode y_So_improveOne.2.1 3 = .ok (.aload_n 0, 1) := by decide +kernel
theorem d_So_improveOne_4 : decode y_So_improveOne.2.1 4 = .ok (.getfield 198, 3) := by decide +kernel
theorem d_So_improveOne_7 : decode y_So_improveOne.2.1 7 = .ok (.if_icmp .ge 141, 3) := by decide +kernel
theorem d_So_improveOne_148 : decode y_So_improveOne.2.1 148 = .ok (.iconst 0, 1) := by decide +kernel
theorem d_So_improveOne_149 : decode y_So_improveOne.2.1 149 = .ok (.ireturn, 1) := by decide +kernel
theorem d_So_improveOne_10 : decode y_So_improveOne.2.1 10 = .ok (.aload_n 0, 1) := by decide +kernel
theorem d_So_improveOne_11 : decode y_So_improveOne.2.1 11 = .ok (.getfield 47, 3) := by decide +kernel
theorem d_So_improveOne_14 : decode y_So_improveOne.2.1 14 = .ok (.iload_n 2, 1) := by decide +kernel
theorem d_So_improveOne_15 : decode y_So_improveOne.2.1 15 = .ok (.iaload, 1) := by decide +kernel
theorem d_So_improveOne_16 : decode y_So_improveOne.2.1 16 = .ok (.bipush 40, 2) := by decide +kernel
theorem d_So_improveOne_18 : decode y_So_improveOne.2.1 18 = .ok (.idiv, 1) := by decide +kernel
theorem d_So_improveOne_19 : decode y_So_improveOne.2.1 19 = .ok (.istore_n 3, 1) := by decide +kernel
theorem d_So_improveOne_20 : decode y_So_improveOne.2.1 20 = .ok (.aload_n 0, 1) := by decide +kernel
theorem d_So_improveOne_21 : decode y_So_improveOne.2.1 21 = .ok (.getfield 47, 3) := by decide +kernel
theorem d_So_improveOne_24 : decode y_So_improveOne.2.1 24 = .ok (.iload_n 2, 1) := by decide +kernel
theorem d_So_improveOne_25 : decode y_So_improveOne.2.1 25 = .ok (.iaload, 1) := by decide +kernel
theorem d_So_improveOne_26 : decode y_So_improveOne.2.1 26 = .ok (.bipush 40, 2) := by decide +kernel
theorem d_So_improveOne_28 : decode y_So_improveOne.2.1 28 = .ok (.irem, 1) := by decide +kernel
theorem d_So_improveOne_29 : decode y_So_improveOne.2.1 29 = .ok (.istore 4, 2) := by decide +kernel
theorem d_So_improveOne_31 : decode y_So_improveOne.2.1 31 = .ok (.aload_n 0, 1) := by decide +kernel
theorem d_So_improveOne_32 : decode y_So_improveOne.2.1 32 = .ok (.getfield 12, 3) := by decide +kernel
theorem d_So_improveOne_35 : decode y_So_improveOne.2.1 35 = .ok (.aload_n 0, 1) := by decide +kernel
theorem d_So_improveOne_36 : decode y_So_improveOne.2.1 36 = .ok (.getfield 64, 3) := by decide +kernel
theorem d_So_improveOne_39 : decode y_So_improveOne.2.1 39 = .ok (.iload_n 3, 1) := by decide +kernel
theorem d_So_improveOne_40 : decode y_So_improveOne.2.1 40 = .ok (.aload_n 1, 1) := by decide +kernel
theorem d_So_improveOne_41 : decode y_So_improveOne.2.1 41 = .ok (.aload_n 0, 1) := by decide +kernel
theorem d_So_improveOne_42 : decode y_So_improveOne.2.1 42 = .ok (.getfield 60, 3) := by decide +kernel
theorem d_So_improveOne_45 : decode y_So_improveOne.2.1 45 = .ok (.invokevirtual 221, 3) := by decide +kernel
theorem d_So_improveOne_48 : decode y_So_improveOne.2.1 48 = .ok (.aload_n 0, 1) := by decide +kernel
theorem d_So_improveOne_49 : decode y_So_improveOne.2.1 49 = .ok (.getfield 12, 3) := by decide +kernel
theorem d_So_improveOne_52 : decode y_So_improveOne.2.1 52 = .ok (.aload_n 0, 1) := by decide +kernel
theorem d_So_improveOne_53 : decode y_So_improveOne.2.1 53 = .ok (.getfield 60, 3) := by decide +kernel
theorem d_So_improveOne_56 : decode y_So_improveOne.2.1 56 = .ok (.aload_n 1, 1) := by decide +kernel
theorem d_So_improveOne_57 : decode y_So_improveOne.2.1 57 = .ok (.getfield 169, 3) := by decide +kernel
theorem d_So_improveOne_60 : decode y_So_improveOne.2.1 60 = .ok (.aload_n 0, 1) := by decide +kernel
theorem d_So_improveOne_61 : decode y_So_improveOne.2.1 61 = .ok (.getfield 41, 3) := by decide +kernel
theorem d_So_improveOne_64 : decode y_So_improveOne.2.1 64 = .ok (.iload 4, 2) := by decide +kernel
theorem d_So_improveOne_66 : decode y_So_improveOne.2.1 66 = .ok (.iaload, 1) := by decide +kernel
theorem d_So_improveOne_67 : decode y_So_improveOne.2.1 67 = .ok (.aaload, 1) := by decide +kernel
theorem d_So_improveOne_68 : decode y_So_improveOne.2.1 68 = .ok (.invokevirtual 225, 3) := by decide +kernel
theorem d_So_improveOne_71 : decode y_So_improveOne.2.1 71 = .ok (.iload_n 2, 1) := by decide +kernel
theorem d_So_improveOne_72 : decode y_So_improveOne.2.1 72 = .ok (.aload_n 0, 1) := by decide +kernel
theorem d_So_improveOne_73 : decode y_So_improveOne.2.1 73 = .ok (.getfield 208, 3) := by decide +kernel
theorem d_So_improveOne_76 : decode y_So_improveOne.2.1 76 = .ok (.if_icmp .ge 7, 3) := by decide +kernel
theorem d_So_improveOne_83 : decode y_So_improveOne.2.1 83 = .ok (.iconst 1, 1) := by decide +kernel
theorem d_So_improveOne_79 : decode y_So_improveOne.2.1 79 = .ok (.iconst (-1), 1) := by decide +kernel
theorem d_So_improveOne_80 : decode y_So_improveOne.2.1 80 = .ok (.goto 4, 3) := by decide +kernel
theorem d_So_improveOne_84 : decode y_So_improveOne.2.1 84 = .ok (.if_icmp .ne 58, 3) := by decide +kernel
theorem d_So_improveOne_87 : decode y_So_improveOne.2.1 87 = .ok (.aload_n 0, 1) := by decide +kernel
theorem d_So_improveOne_88 : decode y_So_improveOne.2.1 88 = .ok (.getfield 47, 3) := by decide +kernel
theorem d_So_improveOne_91 : decode y_So_improveOne.2.1 91 = .ok (.iload_n 2, 1) := by decide +kernel
theorem d_So_improveOne_92 : decode y_So_improveOne.2.1 92 = .ok (.aload_n 0, 1) := by decide +kernel
theorem d_So_improveOne_93 : decode y_So_improveOne.2.1 93 = .ok (.getfield 44, 3) := by decide +kernel
theorem d_So_improveOne_96 : decode y_So_improveOne.2.1 96 = .ok (.iload 4, 2) := by decide +kernel
theorem d_So_improveOne_98 : decode y_So_improveOne.2.1 98 = .ok (.iaload, 1) := by decide +kernel
theorem d_So_improveOne_99 : decode y_So_improveOne.2.1 99 = .ok (.bipush 40, 2) := by decide +kernel
theorem d_So_improveOne_101 : decode y_So_improveOne.2.1 101 = .ok (.imul, 1) := by decide +kernel
theorem d_So_improveOne_102 : decode y_So_improveOne.2.1 102 = .ok (.iload 4, 2) := by decide +kernel
theorem d_So_improveOne_104 : decode y_So_improveOne.2.1 104 = .ok (.iadd, 1) := by decide +kernel
theorem d_So_improveOne_105 : decode y_So_improveOne.2.1 105 = .ok (.iastore, 1) := by decide +kernel
theorem d_So_improveOne_106 : decode y_So_improveOne.2.1 106 = .ok (.aload_n 0, 1) := by decide +kernel
theorem d_So_improveOne_107 : decode y_So_improveOne.2.1 107 = .ok (.getfield 44, 3) := by decide +kernel
theorem d_So_improveOne_110 : decode y_So_improveOne.2.1 110 = .ok (.iload 4, 2) := by decide +kernel
theorem d_So_improveOne_112 : decode y_So_improveOne.2.1 112 = .ok (.iload_n 3, 1) := by decide +kernel
theorem d_So_improveOne_113 : decode y_So_improveOne.2.1 113 = .ok (.iastore, 1) := by decide +kernel
theorem d_So_improveOne_142 : decode y_So_improveOne.2.1 142 = .ok (.iinc 2 1, 3) := by decide +kernel
theorem d_So_improveOne_145 : decode y_So_improveOne.2.1 145 = .ok (.goto (-143), 3) := by decide +kernel
theorem d_So_improveOne_114 : decode y_So_improveOne.2.1 114 = .ok (.aload_n 0, 1) := by decide +kernel
theorem d_So_improveOne_115 : decode y_So_improveOne.2.1 115 = .ok (.iconst 0, 1) := by decide +kernel
theorem d_So_improveOne_116 : decode y_So_improveOne.2.1 116 = .ok (.iload_n 2, 1) := by decide +kernel
theorem d_So_improveOne_117 : decode y_So_improveOne.2.1 117 = .ok (.iconst 1, 1) := by decide +kernel
theorem d_So_improveOne_118 : decode y_So_improveOne.2.1 118 = .ok (.iadd, 1) := by decide +kernel
theorem d_So_improveOne_119 : decode y_So_improveOne.2.1 119 = .ok (.aload_n 0, 1) := by decide +kernel
theorem d_So_improveOne_120 : decode y_So_improveOne.2.1 120 = .ok (.getfield 208, 3) := by decide +kernel
theorem d_So_improveOne_123 : decode y_So_improveOne.2.1 123 = .ok (.invokestatic 229, 3) := by decide +kernel
theorem d_So_improveOne_126 : decode y_So_improveOne.2.1 126 = .ok (.invokevirtual 211, 3) := by decide +kernel
theorem d_So_improveOne_129 : decode y_So_improveOne.2.1 129 = .ok (.aload_n 0, 1) := by decide +kernel
theorem d_So_improveOne_130 : decode y_So_improveOne.2.1 130 = .ok (.aload_n 0, 1) := by decide +kernel
theorem d_So_improveOne_131 : decode y_So_improveOne.2.1 131 = .ok (.getfield 208, 3) := by decide +kernel
theorem d_So_improveOne_134 : decode y_So_improveOne.2.1 134 = .ok (.iload_n 2, 1) := by decide +kernel
theorem d_So_improveOne_135 : decode y_So_improveOne.2.1 135 = .ok (.iconst 1, 1) := by decide +kernel
theorem d_So_improveOne_136 : decode y_So_improveOne.2.1 136 = .ok (.iadd, 1) := by decide +kernel
theorem d_So_improveOne_137 : decode y_So_improveOne.2.1 137 = .ok (.invokevirtual 211, 3) := by decide +kernel
theorem d_So_improveOne_140 : decode y_So_improveOne.2.1 140 = .ok (.iconst 1, 1) := by decide +kernel
theorem d_So_improveOne_141 : decode y_So_improveOne.2.1 141 = .ok (.ireturn, 1) := by decide +kernel
def h_So_improveOne_2 (G : mG) (d : Nat) (a0 : Nat) (a1 : Nat) (l2 : Int) (M : mM) (Q : Int → mM → Prop) : Prop := mWm G y_So_improveOne (d + 1) 2 [vr a0, vr a1, vi l2, vd, vd] [] M (fun r9 M9 => ∃ x9, r9 = some (vi x9) ∧ Q x9 M9)
theorem k_So_improveOne {G : mG} {d : Nat} {a0 : Nat} {a1 : Nat} {M : mM} {Q : Int → mM → Prop} (hO : mOk M)
    (h : h_So_improveOne_2 G d a0 a1 0 M Q) :
    Ci G y_So_improveOne (d + 1) [vr a0, vr a1] M Q := by
  refine wm_open (y := y_So_improveOne) rfl (Nat.le_of_ble_eq_true rfl) (L := [vr a0, vr a1, vd, vd, vd]) rfl ?_
  refine wm_iconst d_So_improveOne_0 ?_
  refine wm_istore_n d_So_improveOne_1 rfl (by decide) (L' := [vr a0, vr a1, vi 0, vd, vd]) rfl ?_
  exact h
theorem k_So_improveOne_2 {G : mG} {d : Nat} {a0 : Nat} {a1 : Nat} {l2 : Int} {M : mM} {Q : Int → mM → Prop} (hO : mOk M) (hi_l2 : i32 l2)
    (h : mK M a0 = 8 ∧ ((mI M a0 12 ≤ l2) → (Q 0 M)) ∧ (¬ (mI M a0 12 ≤ l2) → (mK M (mR M a0 11) = 30 ∧ ((0 : Int) ≤ l2 ∧ l2 < (mN M (mR M a0 11) : Int)) ∧ ((0 : Int) ≤ l2 ∧ l2 < (mN M (mR M a0 11) : Int)) ∧ mK M (mR M a0 0) = 9 ∧ Cv G y_Sc_weigh d [vr (mR M a0 0), vr (mR M a0 3), vi (Int.tdiv (mI M (mR M a0 11) (Int.toNat l2)) 40), vr a1, vr (mR M a0 17)] M (fun M8 => mOk M8 ∧ (mK M8 a0 = 8 ∧ mK M8 a1 = 13 ∧ mK M8 (mR M8 a0 8) = 30 ∧ ((0 : Int) ≤ Int.tmod (mI M (mR M a0 11) (Int.toNat l2)) 40 ∧ Int.tmod (mI M (mR M a0 11) (Int.toNat l2)) 40 < (mN M8 (mR M8 a0 8) : Int)) ∧ mK M8 (mR M8 a1 0) = 35 ∧ ((0 : Int) ≤ mI M8 (mR M8 a0 8) (Int.toNat (Int.tmod (mI M (mR M a0 11) (Int.toNat l2)) 40)) ∧ mI M8 (mR M8 a0 8) (Int.toNat (Int.tmod (mI M (mR M a0 11) (Int.toNat l2)) 40)) < (mN M8 (mR M8 a1 0) : Int)) ∧ mK M8 (mR M8 a0 0) = 9 ∧ Ci G y_Sc_order d [vr (mR M8 a0 0), vr (mR M8 a0 17), vr (mR M8 (mR M8 a1 0) (Int.toNat (mI M8 (mR M8 a0 8) (Int.toNat (Int.tmod (mI M (mR M a0 11) (Int.toNat l2)) 40)))))] M8 (fun x19 M18 => i32 x19 ∧ mOk M18 ∧ (mK M18 a0 = 8 ∧ ∀ v23 : Int, v23 = (if (mI M18 a0 13 ≤ l2) then 1 else (-1)) → ((x19 = v23) → (mK M18 (mR M18 a0 9) = 30 ∧ ((0 : Int) ≤ Int.tmod (mI M (mR M a0 11) (Int.toNat l2)) 40 ∧ Int.tmod (mI M (mR M a0 11) (Int.toNat l2)) 40 < (mN M18 (mR M18 a0 9) : Int)) ∧ mK M18 (mR M18 a0 11) = 30 ∧ ((0 : Int) ≤ l2 ∧ l2 < (mN M18 (mR M18 a0 11) : Int)) ∧ i32 (((mI M18 (mR M18 a0 9) (Int.toNat (Int.tmod (mI M (mR M a0 11) (Int.toNat l2)) 40))) * 40) + (Int.tmod (mI M (mR M a0 11) (Int.toNat l2)) 40)) ∧ ∀ M34, M34 = mUI M18 (mR M18 a0 11) (Int.toNat l2) (((mI M18 (mR M18 a0 9) (Int.toNat (Int.tmod (mI M (mR M a0 11) (Int.toNat l2)) 40))) * 40) + (Int.tmod (mI M (mR M a0 11) (Int.toNat l2)) 40)) → mK M34 (mR M34 a0 9) = 30 ∧ ((0 : Int) ≤ Int.tmod (mI M (mR M a0 11) (Int.toNat l2)) 40 ∧ Int.tmod (mI M (mR M a0 11) (Int.toNat l2)) 40 < (mN M34 (mR M34 a0 9) : Int)) ∧ ∀ M38, M38 = mUI M34 (mR M34 a0 9) (Int.toNat (Int.tmod (mI M (mR M a0 11) (Int.toNat l2)) 40)) (Int.tdiv (mI M (mR M a0 11) (Int.toNat l2)) 40) → i32 (l2 + 1) ∧ Cv G y_So_mix d [vr a0, vi 0, vi (if mI M38 a0 13 < l2 + 1 then mI M38 a0 13 else l2 + 1)] M38 (fun M41 => mOk M41 ∧ (mK M41 a0 = 8 ∧ Cv G y_So_mix d [vr a0, vi (mI M41 a0 13), vi (l2 + 1)] M41 (fun M45 => mOk M45 ∧ (Q 1 M45)))))) ∧ (¬ (x19 = v23) → (h_So_improveOne_2 G d a0 a1 (l2 + 1) M18 Q))))))))) :
    h_So_improveOne_2 G d a0 a1 l2 M Q := by
  unfold h_So_improveOne_2
  obtain ⟨h1, h⟩ := h
  refine wm_iload_n d_So_improveOne_2 rfl rfl ?_
  refine wm_aload_n d_So_improveOne_3 rfl rfl ?_
  refine gf_So_198 rfl d_So_improveOne_4 h1 ?_
  refine wm_icmp_ge (tgt := 148) d_So_improveOne_7 rfl hi_l2 (hO _ _).1 (fun c3 => ?_) (fun c3 => ?_)
  · replace h := h.1 c3
    refine wm_iconst d_So_improveOne_148 ?_
    refine wm_ireturn d_So_improveOne_149 rfl (m_nb (by decide)) ?_
    exact ⟨_, rfl, h⟩
  · replace h := h.2 c3
    obtain ⟨h4, h⟩ := h
    obtain ⟨h5, h⟩ := h
    obtain ⟨h6, h⟩ := h
    obtain ⟨h7, h⟩ := h
    refine wm_aload_n d_So_improveOne_10 rfl rfl ?_
    refine gf_So_47 rfl d_So_improveOne_11 h1 ?_
    refine wm_iload_n d_So_improveOne_14 rfl rfl ?_
    refine wm_iald d_So_improveOne_15 h4 h5 ?_
    refine wm_bipush d_So_improveOne_16 (by decide) ?_
    refine wm_idiv d_So_improveOne_18 (hO _ _).1 ⟨by decide, by decide⟩ (by decide) ?_
    refine wm_istore_n d_So_improveOne_19 rfl (by decide) (L' := [vr a0, vr a1, vi l2, vi (Int.tdiv (mI M (mR M a0 11) (Int.toNat l2)) 40), vd]) rfl ?_
    refine wm_aload_n d_So_improveOne_20 rfl rfl ?_
    refine gf_So_47 rfl d_So_improveOne_21 h1 ?_
    refine wm_iload_n d_So_improveOne_24 rfl rfl ?_
    refine wm_iald d_So_improveOne_25 h4 h6 ?_
    refine wm_bipush d_So_improveOne_26 (by decide) ?_
    refine wm_irem d_So_improveOne_28 (hO _ _).1 ⟨by decide, by decide⟩ (by decide) ?_
    refine wm_istore d_So_improveOne_29 (by decide) (L' := [vr a0, vr a1, vi l2, vi (Int.tdiv (mI M (mR M a0 11) (Int.toNat l2)) 40), vi (Int.tmod (mI M (mR M a0 11) (Int.toNat l2)) 40)]) rfl ?_
    refine wm_aload_n d_So_improveOne_31 rfl rfl ?_
    refine gf_So_12 rfl d_So_improveOne_32 h1 ?_
    refine wm_aload_n d_So_improveOne_35 rfl rfl ?_
    refine gf_So_64 rfl d_So_improveOne_36 h1 ?_
    refine wm_iload_n d_So_improveOne_39 rfl rfl ?_
    refine wm_aload_n d_So_improveOne_40 rfl rfl ?_
    refine wm_aload_n d_So_improveOne_41 rfl rfl ?_
    refine gf_So_60 rfl d_So_improveOne_42 h1 ?_
    refine cf_So_221 rfl d_So_improveOne_45 h7 (Nat.le_of_ble_eq_true rfl) (Cv.mono h (fun M8 h => ?_))
    obtain ⟨hOM8, h⟩ := h
    obtain ⟨h11, h⟩ := h
    obtain ⟨h12, h⟩ := h
    obtain ⟨h13, h⟩ := h
    obtain ⟨h14, h⟩ := h
    obtain ⟨h15, h⟩ := h
    obtain ⟨h16, h⟩ := h
    obtain ⟨h17, h⟩ := h
    refine wm_aload_n d_So_improveOne_48 rfl rfl ?_
    refine gf_So_12 rfl d_So_improveOne_49 h11 ?_
    refine wm_aload_n d_So_improveOne_52 rfl rfl ?_
    refine gf_So_60 rfl d_So_improveOne_53 h11 ?_
    refine wm_aload_n d_So_improveOne_56 rfl rfl ?_
    refine gf_So_169 rfl d_So_improveOne_57 h12 ?_
    refine wm_aload_n d_So_improveOne_60 rfl rfl ?_
    refine gf_So_41 rfl d_So_improveOne_61 h11 ?_
    refine wm_iload d_So_improveOne_64 rfl ?_
    refine wm_iald d_So_improveOne_66 h13 h14 ?_
    refine wm_aald5 d_So_improveOne_67 h15 h16 ?_
    refine cf_So_225 rfl d_So_improveOne_68 h17 (Nat.le_of_ble_eq_true rfl) (Ci.mono h (fun x19 M18 h => ?_))
    obtain ⟨h20, hOM18, h⟩ := h
    obtain ⟨h21, h⟩ := h
    refine wm_iload_n d_So_improveOne_71 rfl rfl ?_
    refine wm_aload_n d_So_improveOne_72 rfl rfl ?_
    refine gf_So_208 rfl d_So_improveOne_73 h21 ?_
    have hJ : ∀ v23 : Int, v23 = (if (mI M18 a0 13 ≤ l2) then 1 else (-1)) → mWm G y_So_improveOne (d + 1) 84 [vr a0, vr a1, vi l2, vi (Int.tdiv (mI M (mR M a0 11) (Int.toNat l2)) 40), vi (Int.tmod (mI M (mR M a0 11) (Int.toNat l2)) 40)] [vi v23, vi x19] M18 (fun r9 M9 => ∃ x9, r9 = some (vi x9) ∧ Q x9 M9) := by
      intro v23 e25
      have h := h v23 e25
      have h26 : i32 v23 := by rw [e25]; (repeat' split) <;> first | exact ⟨by decide, by decide⟩ | exact ⟨by decide, by decide⟩
      refine wm_icmp_ne (tgt := 142) d_So_improveOne_84 rfl h20 h26 (fun c28 => ?_) (fun c28 => ?_)
      · replace h := h.2 c28
        refine wm_iinc d_So_improveOne_142 (by decide) rfl (L' := [vr a0, vr a1, vi (l2 + 1), vi (Int.tdiv (mI M (mR M a0 11) (Int.toNat l2)) 40), vi (Int.tmod (mI M (mR M a0 11) (Int.toNat l2)) 40)]) rfl ?_
        refine wm_goto (tgt := 2) d_So_improveOne_145 rfl ?_
        refine wm_less (L' := [vr a0, vr a1, vi (l2 + 1), vd, vd]) ⟨Or.inr rfl, Or.inr rfl, Or.inr rfl, Or.inl rfl, Or.inl rfl, trivial⟩ ?_
        exact h
      · replace c28 := Classical.not_not.mp c28
        replace h := h.1 c28
        obtain ⟨h29, h⟩ := h
        obtain ⟨h30, h⟩ := h
        obtain ⟨h31, h⟩ := h
        obtain ⟨h32, h⟩ := h
        obtain ⟨h33, h⟩ := h
        obtain ⟨M34, e35⟩ : ∃ M34, M34 = mUI M18 (mR M18 a0 11) (Int.toNat l2) (((mI M18 (mR M18 a0 9) (Int.toNat (Int.tmod (mI M (mR M a0 11) (Int.toNat l2)) 40))) * 40) + (Int.tmod (mI M (mR M a0 11) (Int.toNat l2)) 40)) := ⟨_, rfl⟩
        replace h := h M34 e35
        obtain ⟨h36, h⟩ := h
        obtain ⟨h37, h⟩ := h
        obtain ⟨M38, e39⟩ : ∃ M38, M38 = mUI M34 (mR M34 a0 9) (Int.toNat (Int.tmod (mI M (mR M a0 11) (Int.toNat l2)) 40)) (Int.tdiv (mI M (mR M a0 11) (Int.toNat l2)) 40) := ⟨_, rfl⟩
        replace h := h M38 e39
        obtain ⟨h40, h⟩ := h
        refine wm_aload_n d_So_improveOne_87 rfl rfl ?_
        refine gf_So_47 rfl d_So_improveOne_88 h21 ?_
        refine wm_iload_n d_So_improveOne_91 rfl rfl ?_
        refine wm_aload_n d_So_improveOne_92 rfl rfl ?_
        refine gf_So_44 rfl d_So_improveOne_93 h21 ?_
        refine wm_iload d_So_improveOne_96 rfl ?_
        refine wm_iald d_So_improveOne_98 h29 h30 ?_
        refine wm_bipush d_So_improveOne_99 (by decide) ?_
        refine wm_imul d_So_improveOne_101 ?_
        refine wm_iload d_So_improveOne_102 rfl ?_
        refine wm_iadd d_So_improveOne_104 ?_
        have hOM34 : mOk M34 := by rw [e35]; exact mOk_UI hOM18 h33
        refine wm_iastE d_So_improveOne_105 h31 h32 h33 e35 ?_
        refine wm_aload_n d_So_improveOne_106 rfl rfl ?_
        refine gf_So_44 rfl d_So_improveOne_107 (by rw [e35]; exact h21) ?_
        refine wm_iload d_So_improveOne_110 rfl ?_
        refine wm_iload_n d_So_improveOne_112 rfl rfl ?_
        have hOM38 : mOk M38 := by rw [e39]; exact mOk_UI hOM34 (m_tdiv32 (hO _ _).1 (by decide))
        refine wm_iastE d_So_improveOne_113 h36 h37 (m_tdiv32 (hO _ _).1 (by decide)) e39 ?_
        refine wm_aload_n d_So_improveOne_114 rfl rfl ?_
        refine wm_iconst d_So_improveOne_115 ?_
        refine wm_iload_n d_So_improveOne_116 rfl rfl ?_
        refine wm_iconst d_So_improveOne_117 ?_
        refine wm_iadd d_So_improveOne_118 ?_
        refine wm_aload_n d_So_improveOne_119 rfl rfl ?_
        refine gf_So_208 rfl d_So_improveOne_120 (by rw [e39, e35]; exact h21) ?_
        refine wm_mmin k8_187 (Nat.le_of_ble_eq_true rfl) h40 (hOM38 _ _).1 d_So_improveOne_123 ?_
        refine cf_So_211 rfl d_So_improveOne_126 (by rw [e39, e35]; exact h21) (Nat.le_of_ble_eq_true rfl) (Cv.mono h (fun M41 h => ?_))
        obtain ⟨hOM41, h⟩ := h
        obtain ⟨h44, h⟩ := h
        refine wm_aload_n d_So_improveOne_129 rfl rfl ?_
        refine wm_aload_n d_So_improveOne_130 rfl rfl ?_
        refine gf_So_208 rfl d_So_improveOne_131 h44 ?_
        refine wm_iload_n d_So_improveOne_134 rfl rfl ?_
        refine wm_iconst d_So_improveOne_135 ?_
        refine wm_iadd d_So_improveOne_136 ?_
        refine cf_So_211 rfl d_So_improveOne_137 h44 (Nat.le_of_ble_eq_true rfl) (Cv.mono h (fun M45 h => ?_))
        obtain ⟨hOM45, h⟩ := h
        refine wm_iconst d_So_improveOne_140 ?_
        refine wm_ireturn d_So_improveOne_141 rfl (m_nb (by decide)) ?_
        exact ⟨_, rfl, h⟩
    clear h
    refine wm_icmp_ge (tgt := 83) d_So_improveOne_76 rfl hi_l2 (hOM18 _ _).1 (fun c22 => ?_) (fun c22 => ?_)
    · refine wm_iconst d_So_improveOne_83 ?_
      exact hJ 1 (if_pos c22).symm
    · refine wm_iconst d_So_improveOne_79 ?_
      refine wm_goto (tgt := 84) d_So_improveOne_80 rfl ?_
      exact hJ (-1) (if_neg c22).symm
