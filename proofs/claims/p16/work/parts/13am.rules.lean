theorem d_Ga_weighChances_0 : decode y_Ga_weighChances.2.1 0 = .ok (.aload_n 0, 1) := by decide +kernel
theorem d_Ga_weighChances_1 : decode y_Ga_weighChances.2.1 1 = .ok (.getfield 72, 3) := by decide +kernel
theorem d_Ga_weighChances_4 : decode y_Ga_weighChances.2.1 4 = .ok (.getfield 153, 3) := by decide +kernel
theorem d_Ga_weighChances_7 : decode y_Ga_weighChances.2.1 7 = .ok (.iload_n 1, 1) := by decide +kernel
theorem d_Ga_weighChances_8 : decode y_Ga_weighChances.2.1 8 = .ok (.iaload, 1) := by decide +kernel
theorem d_Ga_weighChances_9 : decode y_Ga_weighChances.2.1 9 = .ok (.istore_n 2, 1) := by decide +kernel
theorem d_Ga_weighChances_10 : decode y_Ga_weighChances.2.1 10 = .ok (.aload_n 0, 1) := by decide +kernel
theorem d_Ga_weighChances_11 : decode y_Ga_weighChances.2.1 11 = .ok (.getfield 72, 3) := by decide +kernel
theorem d_Ga_weighChances_14 : decode y_Ga_weighChances.2.1 14 = .ok (.getfield 153, 3) := by decide +kernel
theorem d_Ga_weighChances_17 : decode y_Ga_weighChances.2.1 17 = .ok (.iload_n 1, 1) := by decide +kernel
theorem d_Ga_weighChances_18 : decode y_Ga_weighChances.2.1 18 = .ok (.iconst 1, 1) := by decide +kernel
theorem d_Ga_weighChances_19 : decode y_Ga_weighChances.2.1 19 = .ok (.iadd, 1) := by decide +kernel
theorem d_Ga_weighChances_20 : decode y_Ga_weighChances.2.1 20 = .ok (.iaload, 1) := by decide +kernel
theorem d_Ga_weighChances_21 : decode y_Ga_weighChances.2.1 21 = .ok (.iload_n 2, 1) := by decide +kernel
theorem d_Ga_weighChances_22 : decode y_Ga_weighChances.2.1 22 = .ok (.isub, 1) := by decide +kernel
theorem d_Ga_weighChances_23 : decode y_Ga_weighChances.2.1 23 = .ok (.istore_n 3, 1) := by decide +kernel
theorem d_Ga_weighChances_24 : decode y_Ga_weighChances.2.1 24 = .ok (.iconst 0, 1) := by decide +kernel
theorem d_Ga_weighChances_25 : decode y_Ga_weighChances.2.1 25 = .ok (.istore 4, 2) := by decide +kernel
theorem d_Ga_weighChances_27 : decode y_Ga_weighChances.2.1 27 = .ok (.iload 4, 2) := by decide +kernel
theorem d_Ga_weighChances_29 : decode y_Ga_weighChances.2.1 29 = .ok (.iload_n 3, 1) := by decide +kernel
theorem d_Ga_weighChances_30 : decode y_Ga_weighChances.2.1 30 = .ok (.if_icmp .ge 114, 3) := by decide +kernel
theorem d_Ga_weighChances_144 : decode y_Ga_weighChances.2.1 144 = .ok (.lconst 1, 1) := by decide +kernel
theorem d_Ga_weighChances_145 : decode y_Ga_weighChances.2.1 145 = .ok (.lstore 4, 2) := by decide +kernel
theorem d_Ga_weighChances_147 : decode y_Ga_weighChances.2.1 147 = .ok (.iconst 0, 1) := by decide +kernel
theorem d_Ga_weighChances_148 : decode y_Ga_weighChances.2.1 148 = .ok (.istore 6, 2) := by decide +kernel
theorem d_Ga_weighChances_33 : decode y_Ga_weighChances.2.1 33 = .ok (.aload_n 0, 1) := by decide +kernel
theorem d_Ga_weighChances_34 : decode y_Ga_weighChances.2.1 34 = .ok (.getfield 42, 3) := by decide +kernel
theorem d_Ga_weighChances_37 : decode y_Ga_weighChances.2.1 37 = .ok (.aload_n 0, 1) := by decide +kernel
theorem d_Ga_weighChances_38 : decode y_Ga_weighChances.2.1 38 = .ok (.getfield 72, 3) := by decide +kernel
theorem d_Ga_weighChances_41 : decode y_Ga_weighChances.2.1 41 = .ok (.getfield 158, 3) := by decide +kernel
theorem d_Ga_weighChances_44 : decode y_Ga_weighChances.2.1 44 = .ok (.iload_n 2, 1) := by decide +kernel
theorem d_Ga_weighChances_45 : decode y_Ga_weighChances.2.1 45 = .ok (.iload 4, 2) := by decide +kernel
theorem d_Ga_weighChances_47 : decode y_Ga_weighChances.2.1 47 = .ok (.iadd, 1) := by decide +kernel
theorem d_Ga_weighChances_48 : decode y_Ga_weighChances.2.1 48 = .ok (.iaload, 1) := by decide +kernel
theorem d_Ga_weighChances_49 : decode y_Ga_weighChances.2.1 49 = .ok (.invokevirtual 123, 3) := by decide +kernel
theorem d_Ga_weighChances_52 : decode y_Ga_weighChances.2.1 52 = .ok (.ifCond .ne 8, 3) := by decide +kernel
theorem d_Ga_weighChances_55 : decode y_Ga_weighChances.2.1 55 = .ok (.aload_n 0, 1) := by decide +kernel
theorem d_Ga_weighChances_60 : decode y_Ga_weighChances.2.1 60 = .ok (.aload_n 0, 1) := by decide +kernel
theorem d_Ga_weighChances_61 : decode y_Ga_weighChances.2.1 61 = .ok (.getfield 49, 3) := by decide +kernel
theorem d_Ga_weighChances_64 : decode y_Ga_weighChances.2.1 64 = .ok (.iload 4, 2) := by decide +kernel
theorem d_Ga_weighChances_66 : decode y_Ga_weighChances.2.1 66 = .ok (.aload_n 0, 1) := by decide +kernel
theorem d_Ga_weighChances_67 : decode y_Ga_weighChances.2.1 67 = .ok (.getfield 42, 3) := by decide +kernel
theorem d_Ga_weighChances_70 : decode y_Ga_weighChances.2.1 70 = .ok (.getfield 129, 3) := by decide +kernel
theorem d_Ga_weighChances_73 : decode y_Ga_weighChances.2.1 73 = .ok (.iconst 0, 1) := by decide +kernel
theorem d_Ga_weighChances_74 : decode y_Ga_weighChances.2.1 74 = .ok (.iaload, 1) := by decide +kernel
theorem d_Ga_weighChances_75 : decode y_Ga_weighChances.2.1 75 = .ok (.iastore, 1) := by decide +kernel
theorem d_Ga_weighChances_76 : decode y_Ga_weighChances.2.1 76 = .ok (.aload_n 0, 1) := by decide +kernel
theorem d_Ga_weighChances_77 : decode y_Ga_weighChances.2.1 77 = .ok (.getfield 52, 3) := by decide +kernel
theorem d_Ga_weighChances_80 : decode y_Ga_weighChances.2.1 80 = .ok (.iload 4, 2) := by decide +kernel
theorem d_Ga_weighChances_82 : decode y_Ga_weighChances.2.1 82 = .ok (.aload_n 0, 1) := by decide +kernel
theorem d_Ga_weighChances_83 : decode y_Ga_weighChances.2.1 83 = .ok (.getfield 42, 3) := by decide +kernel
theorem d_Ga_weighChances_86 : decode y_Ga_weighChances.2.1 86 = .ok (.getfield 161, 3) := by decide +kernel
theorem d_Ga_weighChances_89 : decode y_Ga_weighChances.2.1 89 = .ok (.iconst 0, 1) := by decide +kernel
theorem d_Ga_weighChances_90 : decode y_Ga_weighChances.2.1 90 = .ok (.iaload, 1) := by decide +kernel
theorem d_Ga_weighChances_91 : decode y_Ga_weighChances.2.1 91 = .ok (.iastore, 1) := by decide +kernel
theorem d_Ga_weighChances_56 : decode y_Ga_weighChances.2.1 56 = .ok (.invokevirtual 126, 3) := by decide +kernel
theorem d_Ga_weighChances_59 : decode y_Ga_weighChances.2.1 59 = .ok (.ireturn, 1) := by decide +kernel
theorem d_Ga_weighChances_92 : decode y_Ga_weighChances.2.1 92 = .ok (.aload_n 0, 1) := by decide +kernel
theorem d_Ga_weighChances_93 : decode y_Ga_weighChances.2.1 93 = .ok (.getfield 49, 3) := by decide +kernel
theorem d_Ga_weighChances_96 : decode y_Ga_weighChances.2.1 96 = .ok (.iload 4, 2) := by decide +kernel
theorem d_Ga_weighChances_98 : decode y_Ga_weighChances.2.1 98 = .ok (.iaload, 1) := by decide +kernel
theorem d_Ga_weighChances_99 : decode y_Ga_weighChances.2.1 99 = .ok (.ifCond .lt 20, 3) := by decide +kernel
theorem d_Ga_weighChances_102 : decode y_Ga_weighChances.2.1 102 = .ok (.aload_n 0, 1) := by decide +kernel
theorem d_Ga_weighChances_103 : decode y_Ga_weighChances.2.1 103 = .ok (.getfield 49, 3) := by decide +kernel
theorem d_Ga_weighChances_106 : decode y_Ga_weighChances.2.1 106 = .ok (.iload 4, 2) := by decide +kernel
theorem d_Ga_weighChances_108 : decode y_Ga_weighChances.2.1 108 = .ok (.iaload, 1) := by decide +kernel
theorem d_Ga_weighChances_109 : decode y_Ga_weighChances.2.1 109 = .ok (.aload_n 0, 1) := by decide +kernel
theorem d_Ga_weighChances_110 : decode y_Ga_weighChances.2.1 110 = .ok (.getfield 52, 3) := by decide +kernel
theorem d_Ga_weighChances_113 : decode y_Ga_weighChances.2.1 113 = .ok (.iload 4, 2) := by decide +kernel
theorem d_Ga_weighChances_115 : decode y_Ga_weighChances.2.1 115 = .ok (.iaload, 1) := by decide +kernel
theorem d_Ga_weighChances_116 : decode y_Ga_weighChances.2.1 116 = .ok (.if_icmp .le 22, 3) := by decide +kernel
theorem d_Ga_weighChances_138 : decode y_Ga_weighChances.2.1 138 = .ok (.iinc 4 1, 3) := by decide +kernel
theorem d_Ga_weighChances_141 : decode y_Ga_weighChances.2.1 141 = .ok (.goto (-114), 3) := by decide +kernel
theorem d_Ga_weighChances_119 : decode y_Ga_weighChances.2.1 119 = .ok (.aload_n 0, 1) := by decide +kernel
theorem d_Ga_weighChances_120 : decode y_Ga_weighChances.2.1 120 = .ok (.bipush 11, 2) := by decide +kernel
theorem d_Ga_weighChances_122 : decode y_Ga_weighChances.2.1 122 = .ok (.aload_n 0, 1) := by decide +kernel
theorem d_Ga_weighChances_123 : decode y_Ga_weighChances.2.1 123 = .ok (.getfield 72, 3) := by decide +kernel
theorem d_Ga_weighChances_126 : decode y_Ga_weighChances.2.1 126 = .ok (.getfield 164, 3) := by decide +kernel
theorem d_Ga_weighChances_129 : decode y_Ga_weighChances.2.1 129 = .ok (.iload_n 2, 1) := by decide +kernel
theorem d_Ga_weighChances_130 : decode y_Ga_weighChances.2.1 130 = .ok (.iload 4, 2) := by decide +kernel
theorem d_Ga_weighChances_132 : decode y_Ga_weighChances.2.1 132 = .ok (.iadd, 1) := by decide +kernel
theorem d_Ga_weighChances_133 : decode y_Ga_weighChances.2.1 133 = .ok (.iaload, 1) := by decide +kernel
theorem d_Ga_weighChances_134 : decode y_Ga_weighChances.2.1 134 = .ok (.invokevirtual 148, 3) := by decide +kernel
theorem d_Ga_weighChances_137 : decode y_Ga_weighChances.2.1 137 = .ok (.ireturn, 1) := by decide +kernel
theorem d_Ga_weighChances_150 : decode y_Ga_weighChances.2.1 150 = .ok (.iload 6, 2) := by decide +kernel
theorem d_Ga_weighChances_152 : decode y_Ga_weighChances.2.1 152 = .ok (.iload_n 3, 1) := by decide +kernel
theorem d_Ga_weighChances_153 : decode y_Ga_weighChances.2.1 153 = .ok (.if_icmp .ge 61, 3) := by decide +kernel
theorem d_Ga_weighChances_214 : decode y_Ga_weighChances.2.1 214 = .ok (.aload_n 0, 1) := by decide +kernel
theorem d_Ga_weighChances_215 : decode y_Ga_weighChances.2.1 215 = .ok (.getfield 27, 3) := by decide +kernel
theorem d_Ga_weighChances_218 : decode y_Ga_weighChances.2.1 218 = .ok (.aload_n 0, 1) := by decide +kernel
theorem d_Ga_weighChances_219 : decode y_Ga_weighChances.2.1 219 = .ok (.getfield 59, 3) := by decide +kernel
theorem d_Ga_weighChances_222 : decode y_Ga_weighChances.2.1 222 = .ok (.lload 4, 2) := by decide +kernel
theorem d_Ga_weighChances_224 : decode y_Ga_weighChances.2.1 224 = .ok (.l2i, 1) := by decide +kernel
theorem d_Ga_weighChances_225 : decode y_Ga_weighChances.2.1 225 = .ok (.iastore, 1) := by decide +kernel
theorem d_Ga_weighChances_226 : decode y_Ga_weighChances.2.1 226 = .ok (.lconst 0, 1) := by decide +kernel
theorem d_Ga_weighChances_227 : decode y_Ga_weighChances.2.1 227 = .ok (.lstore 6, 2) := by decide +kernel
theorem d_Ga_weighChances_229 : decode y_Ga_weighChances.2.1 229 = .ok (.iconst 0, 1) := by decide +kernel
theorem d_Ga_weighChances_230 : decode y_Ga_weighChances.2.1 230 = .ok (.istore 8, 2) := by decide +kernel
theorem d_Ga_weighChances_156 : decode y_Ga_weighChances.2.1 156 = .ok (.lload 4, 2) := by decide +kernel
theorem d_Ga_weighChances_158 : decode y_Ga_weighChances.2.1 158 = .ok (.lload 4, 2) := by decide +kernel
theorem d_Ga_weighChances_160 : decode y_Ga_weighChances.2.1 160 = .ok (.aload_n 0, 1) := by decide +kernel
theorem d_Ga_weighChances_161 : decode y_Ga_weighChances.2.1 161 = .ok (.getfield 52, 3) := by decide +kernel
theorem d_Ga_weighChances_164 : decode y_Ga_weighChances.2.1 164 = .ok (.iload 6, 2) := by decide +kernel
theorem d_Ga_weighChances_166 : decode y_Ga_weighChances.2.1 166 = .ok (.iaload, 1) := by decide +kernel
theorem d_Ga_weighChances_167 : decode y_Ga_weighChances.2.1 167 = .ok (.i2l, 1) := by decide +kernel
theorem d_Ga_weighChances_168 : decode y_Ga_weighChances.2.1 168 = .ok (.invokestatic 167, 3) := by decide +kernel
theorem d_Ga_weighChances_171 : decode y_Ga_weighChances.2.1 171 = .ok (.ldiv, 1) := by decide +kernel
theorem d_Ga_weighChances_172 : decode y_Ga_weighChances.2.1 172 = .ok (.aload_n 0, 1) := by decide +kernel
theorem d_Ga_weighChances_173 : decode y_Ga_weighChances.2.1 173 = .ok (.getfield 52, 3) := by decide +kernel
theorem d_Ga_weighChances_176 : decode y_Ga_weighChances.2.1 176 = .ok (.iload 6, 2) := by decide +kernel
theorem d_Ga_weighChances_178 : decode y_Ga_weighChances.2.1 178 = .ok (.iaload, 1) := by decide +kernel
theorem d_Ga_weighChances_179 : decode y_Ga_weighChances.2.1 179 = .ok (.i2l, 1) := by decide +kernel
theorem d_Ga_weighChances_180 : decode y_Ga_weighChances.2.1 180 = .ok (.lmul, 1) := by decide +kernel
theorem d_Ga_weighChances_181 : decode y_Ga_weighChances.2.1 181 = .ok (.lstore 4, 2) := by decide +kernel
theorem d_Ga_weighChances_183 : decode y_Ga_weighChances.2.1 183 = .ok (.lload 4, 2) := by decide +kernel
theorem d_Ga_weighChances_185 : decode y_Ga_weighChances.2.1 185 = .ok (.ldc2_w 171, 3) := by decide +kernel
theorem d_Ga_weighChances_188 : decode y_Ga_weighChances.2.1 188 = .ok (.lcmp, 1) := by decide +kernel
theorem d_Ga_weighChances_189 : decode y_Ga_weighChances.2.1 189 = .ok (.ifCond .lt 19, 3) := by decide +kernel
theorem d_Ga_weighChances_208 : decode y_Ga_weighChances.2.1 208 = .ok (.iinc 6 1, 3) := by decide +kernel
theorem d_Ga_weighChances_211 : decode y_Ga_weighChances.2.1 211 = .ok (.goto (-61), 3) := by decide +kernel
theorem d_Ga_weighChances_192 : decode y_Ga_weighChances.2.1 192 = .ok (.aload_n 0, 1) := by decide +kernel
theorem d_Ga_weighChances_193 : decode y_Ga_weighChances.2.1 193 = .ok (.bipush 6, 2) := by decide +kernel
theorem d_Ga_weighChances_195 : decode y_Ga_weighChances.2.1 195 = .ok (.aload_n 0, 1) := by decide +kernel
theorem d_Ga_weighChances_196 : decode y_Ga_weighChances.2.1 196 = .ok (.getfield 72, 3) := by decide +kernel
theorem d_Ga_weighChances_199 : decode y_Ga_weighChances.2.1 199 = .ok (.getfield 145, 3) := by decide +kernel
theorem d_Ga_weighChances_202 : decode y_Ga_weighChances.2.1 202 = .ok (.iload_n 1, 1) := by decide +kernel
theorem d_Ga_weighChances_203 : decode y_Ga_weighChances.2.1 203 = .ok (.iaload, 1) := by decide +kernel
theorem d_Ga_weighChances_204 : decode y_Ga_weighChances.2.1 204 = .ok (.invokevirtual 148, 3) := by decide +kernel
theorem d_Ga_weighChances_207 : decode y_Ga_weighChances.2.1 207 = .ok (.ireturn, 1) := by decide +kernel
theorem d_Ga_weighChances_232 : decode y_Ga_weighChances.2.1 232 = .ok (.iload 8, 2) := by decide +kernel
theorem d_Ga_weighChances_234 : decode y_Ga_weighChances.2.1 234 = .ok (.iload_n 3, 1) := by decide +kernel
theorem d_Ga_weighChances_235 : decode y_Ga_weighChances.2.1 235 = .ok (.if_icmp .ge 34, 3) := by decide +kernel
theorem d_Ga_weighChances_269 : decode y_Ga_weighChances.2.1 269 = .ok (.lload 6, 2) := by decide +kernel
theorem d_Ga_weighChances_271 : decode y_Ga_weighChances.2.1 271 = .ok (.lload 4, 2) := by decide +kernel
theorem d_Ga_weighChances_273 : decode y_Ga_weighChances.2.1 273 = .ok (.lcmp, 1) := by decide +kernel
theorem d_Ga_weighChances_238 : decode y_Ga_weighChances.2.1 238 = .ok (.lload 6, 2) := by decide +kernel
theorem d_Ga_weighChances_240 : decode y_Ga_weighChances.2.1 240 = .ok (.lload 4, 2) := by decide +kernel
theorem d_Ga_weighChances_242 : decode y_Ga_weighChances.2.1 242 = .ok (.aload_n 0, 1) := by decide +kernel
theorem d_Ga_weighChances_243 : decode y_Ga_weighChances.2.1 243 = .ok (.getfield 52, 3) := by decide +kernel
theorem d_Ga_weighChances_246 : decode y_Ga_weighChances.2.1 246 = .ok (.iload 8, 2) := by decide +kernel
theorem d_Ga_weighChances_248 : decode y_Ga_weighChances.2.1 248 = .ok (.iaload, 1) := by decide +kernel
theorem d_Ga_weighChances_249 : decode y_Ga_weighChances.2.1 249 = .ok (.i2l, 1) := by decide +kernel
theorem d_Ga_weighChances_250 : decode y_Ga_weighChances.2.1 250 = .ok (.ldiv, 1) := by decide +kernel
theorem d_Ga_weighChances_251 : decode y_Ga_weighChances.2.1 251 = .ok (.aload_n 0, 1) := by decide +kernel
theorem d_Ga_weighChances_252 : decode y_Ga_weighChances.2.1 252 = .ok (.getfield 49, 3) := by decide +kernel
theorem d_Ga_weighChances_255 : decode y_Ga_weighChances.2.1 255 = .ok (.iload 8, 2) := by decide +kernel
theorem d_Ga_weighChances_257 : decode y_Ga_weighChances.2.1 257 = .ok (.iaload, 1) := by decide +kernel
theorem d_Ga_weighChances_258 : decode y_Ga_weighChances.2.1 258 = .ok (.i2l, 1) := by decide +kernel
theorem d_Ga_weighChances_259 : decode y_Ga_weighChances.2.1 259 = .ok (.lmul, 1) := by decide +kernel
theorem d_Ga_weighChances_260 : decode y_Ga_weighChances.2.1 260 = .ok (.ladd, 1) := by decide +kernel
theorem d_Ga_weighChances_261 : decode y_Ga_weighChances.2.1 261 = .ok (.lstore 6, 2) := by decide +kernel
theorem d_Ga_weighChances_263 : decode y_Ga_weighChances.2.1 263 = .ok (.iinc 8 1, 3) := by decide +kernel
theorem d_Ga_weighChances_266 : decode y_Ga_weighChances.2.1 266 = .ok (.goto (-34), 3) := by decide +kernel
theorem d_Ga_weighChances_274 : decode y_Ga_weighChances.2.1 274 = .ok (.ifCond .ne 7, 3) := by decide +kernel
theorem d_Ga_weighChances_277 : decode y_Ga_weighChances.2.1 277 = .ok (.iconst 0, 1) := by decide +kernel
theorem d_Ga_weighChances_278 : decode y_Ga_weighChances.2.1 278 = .ok (.goto 18, 3) := by decide +kernel
theorem d_Ga_weighChances_281 : decode y_Ga_weighChances.2.1 281 = .ok (.aload_n 0, 1) := by decide +kernel
theorem d_Ga_weighChances_282 : decode y_Ga_weighChances.2.1 282 = .ok (.bipush 11, 2) := by decide +kernel
theorem d_Ga_weighChances_284 : decode y_Ga_weighChances.2.1 284 = .ok (.aload_n 0, 1) := by decide +kernel
theorem d_Ga_weighChances_285 : decode y_Ga_weighChances.2.1 285 = .ok (.getfield 72, 3) := by decide +kernel
theorem d_Ga_weighChances_288 : decode y_Ga_weighChances.2.1 288 = .ok (.getfield 145, 3) := by decide +kernel
theorem d_Ga_weighChances_291 : decode y_Ga_weighChances.2.1 291 = .ok (.iload_n 1, 1) := by decide +kernel
theorem d_Ga_weighChances_292 : decode y_Ga_weighChances.2.1 292 = .ok (.iaload, 1) := by decide +kernel
theorem d_Ga_weighChances_293 : decode y_Ga_weighChances.2.1 293 = .ok (.invokevirtual 148, 3) := by decide +kernel
theorem d_Ga_weighChances_296 : decode y_Ga_weighChances.2.1 296 = .ok (.ireturn, 1) := by decide +kernel
def h_Ga_weighChances_27 (G : mG) (d : Nat) (a0 : Nat) (l1 : Int) (l2 : Int) (l3 : Int) (l4 : Int) (M : mM) (Q : Int → mM → Prop) : Prop := mWm G y_Ga_weighChances (d + 1) 27 [vr a0, vi l1, vi l2, vi l3, vi l4, vd, vd, vd, vd] [] M (fun r9 M9 => ∃ x9, r9 = some (vi x9) ∧ Q x9 M9)
def h_Ga_weighChances_150 (G : mG) (d : Nat) (a0 : Nat) (l1 : Int) (l3 : Int) (j4 : Int) (l6 : Int) (M : mM) (Q : Int → mM → Prop) : Prop := mWm G y_Ga_weighChances (d + 1) 150 [vr a0, vi l1, vd, vi l3, vl j4, vd, vi l6, vd, vd] [] M (fun r9 M9 => ∃ x9, r9 = some (vi x9) ∧ Q x9 M9)
def h_Ga_weighChances_232 (G : mG) (d : Nat) (a0 : Nat) (l1 : Int) (l3 : Int) (j4 : Int) (j6 : Int) (l8 : Int) (M : mM) (Q : Int → mM → Prop) : Prop := mWm G y_Ga_weighChances (d + 1) 232 [vr a0, vi l1, vd, vi l3, vl j4, vd, vl j6, vd, vi l8] [] M (fun r9 M9 => ∃ x9, r9 = some (vi x9) ∧ Q x9 M9)
def h_Ga_weighChances_296 (G : mG) (d : Nat) (k0 : Int) (M : mM) (Q : Int → mM → Prop) : Prop := mWm G y_Ga_weighChances (d + 1) 296 [vd, vd, vd, vd, vd, vd, vd, vd, vd] [vi k0] M (fun r9 M9 => ∃ x9, r9 = some (vi x9) ∧ Q x9 M9)
theorem k_Ga_weighChances {G : mG} {d : Nat} {a0 : Nat} {l1 : Int} {M : mM} {Q : Int → mM → Prop} (hO : mOk M) (hi_l1 : i32 l1)
    (h : mK M a0 = 7 ∧ mK M (mR M a0 14) = 6 ∧ mK M (mR M (mR M a0 14) 16) = 30 ∧ ((0 : Int) ≤ l1 ∧ l1 < (mN M (mR M (mR M a0 14) 16) : Int)) ∧ ((0 : Int) ≤ l1 + 1 ∧ l1 + 1 < (mN M (mR M (mR M a0 14) 16) : Int)) ∧ h_Ga_weighChances_27 G d a0 l1 (mI M (mR M (mR M a0 14) 16) (Int.toNat l1)) ((mI M (mR M (mR M a0 14) 16) (Int.toNat (l1 + 1))) - (mI M (mR M (mR M a0 14) 16) (Int.toNat l1))) 0 M Q) :
    Ci G y_Ga_weighChances (d + 1) [vr a0, vi l1] M Q := by
  refine wm_open (y := y_Ga_weighChances) rfl (Nat.le_of_ble_eq_true rfl) (L := [vr a0, vi l1, vd, vd, vd, vd, vd, vd, vd]) rfl ?_
  obtain ⟨h1, h⟩ := h
  obtain ⟨h2, h⟩ := h
  obtain ⟨h3, h⟩ := h
  obtain ⟨h4, h⟩ := h
  obtain ⟨h5, h⟩ := h
  refine wm_aload_n d_Ga_weighChances_0 rfl rfl ?_
  refine gf_Ga_72 rfl d_Ga_weighChances_1 h1 ?_
  refine gf_Ga_153 rfl d_Ga_weighChances_4 h2 ?_
  refine wm_iload_n d_Ga_weighChances_7 rfl rfl ?_
  refine wm_iald d_Ga_weighChances_8 h3 h4 ?_
  refine wm_istore_n d_Ga_weighChances_9 rfl (by decide) (L' := [vr a0, vi l1, vi (mI M (mR M (mR M a0 14) 16) (Int.toNat l1)), vd, vd, vd, vd, vd, vd]) rfl ?_
  refine wm_aload_n d_Ga_weighChances_10 rfl rfl ?_
  refine gf_Ga_72 rfl d_Ga_weighChances_11 h1 ?_
  refine gf_Ga_153 rfl d_Ga_weighChances_14 h2 ?_
  refine wm_iload_n d_Ga_weighChances_17 rfl rfl ?_
  refine wm_iconst d_Ga_weighChances_18 ?_
  refine wm_iadd d_Ga_weighChances_19 ?_
  refine wm_iald d_Ga_weighChances_20 h3 h5 ?_
  refine wm_iload_n d_Ga_weighChances_21 rfl rfl ?_
  refine wm_isub d_Ga_weighChances_22 ?_
  refine wm_istore_n d_Ga_weighChances_23 rfl (by decide) (L' := [vr a0, vi l1, vi (mI M (mR M (mR M a0 14) 16) (Int.toNat l1)), vi ((mI M (mR M (mR M a0 14) 16) (Int.toNat (l1 + 1))) - (mI M (mR M (mR M a0 14) 16) (Int.toNat l1))), vd, vd, vd, vd, vd]) rfl ?_
  refine wm_iconst d_Ga_weighChances_24 ?_
  refine wm_istore d_Ga_weighChances_25 (by decide) (L' := [vr a0, vi l1, vi (mI M (mR M (mR M a0 14) 16) (Int.toNat l1)), vi ((mI M (mR M (mR M a0 14) 16) (Int.toNat (l1 + 1))) - (mI M (mR M (mR M a0 14) 16) (Int.toNat l1))), vi 0, vd, vd, vd, vd]) rfl ?_
  exact h
theorem k_Ga_weighChances_27 {G : mG} {d : Nat} {a0 : Nat} {l1 : Int} {l2 : Int} {l3 : Int} {l4 : Int} {M : mM} {Q : Int → mM → Prop} (hO : mOk M) (hi_l1 : i32 l1) (hi_l2 : i32 l2) (hi_l3 : i32 l3) (hi_l4 : i32 l4)
    (h : ((l3 ≤ l4) → (h_Ga_weighChances_150 G d a0 l1 l3 1 0 M Q)) ∧ (¬ (l3 ≤ l4) → (mK M a0 = 7 ∧ mK M (mR M a0 14) = 6 ∧ mK M (mR M (mR M a0 14) 18) = 30 ∧ ((0 : Int) ≤ l2 + l4 ∧ l2 + l4 < (mN M (mR M (mR M a0 14) 18) : Int)) ∧ mK M (mR M a0 15) = 5 ∧ Ci G y_Ma_run d [vr (mR M a0 15), vi (mI M (mR M (mR M a0 14) 18) (Int.toNat (l2 + l4)))] M (fun x14 M13 => i32 x14 ∧ mOk M13 ∧ (((x14 = 0) → (mK M13 a0 = 7 ∧ Ci G y_Ga_machineFault d [vr a0] M13 (fun x20 M19 => i32 x20 ∧ mOk M19 ∧ (Q x20 M19)))) ∧ (¬ (x14 = 0) → (mK M13 a0 = 7 ∧ mK M13 (mR M13 a0 15) = 5 ∧ mK M13 (mR M13 (mR M13 a0 15) 6) = 30 ∧ ((0 : Int) ≤ 0 ∧ 0 < (mN M13 (mR M13 (mR M13 a0 15) 6) : Int)) ∧ mK M13 (mR M13 a0 17) = 30 ∧ ((0 : Int) ≤ l4 ∧ l4 < (mN M13 (mR M13 a0 17) : Int)) ∧ ∀ M28, M28 = mUI M13 (mR M13 a0 17) (Int.toNat l4) (mI M13 (mR M13 (mR M13 a0 15) 6) 0) → mK M28 (mR M28 a0 15) = 5 ∧ mK M28 (mR M28 (mR M28 a0 15) 7) = 30 ∧ ((0 : Int) ≤ 0 ∧ 0 < (mN M28 (mR M28 (mR M28 a0 15) 7) : Int)) ∧ mK M28 (mR M28 a0 18) = 30 ∧ ((0 : Int) ≤ l4 ∧ l4 < (mN M28 (mR M28 a0 18) : Int)) ∧ ∀ M35, M35 = mUI M28 (mR M28 a0 18) (Int.toNat l4) (mI M28 (mR M28 (mR M28 a0 15) 7) 0) → mK M35 (mR M35 a0 17) = 30 ∧ ((0 : Int) ≤ l4 ∧ l4 < (mN M35 (mR M35 a0 17) : Int)) ∧ (¬ (mI M35 (mR M35 a0 17) (Int.toNat l4) < 0) → (((0 : Int) ≤ l4 ∧ l4 < (mN M35 (mR M35 a0 17) : Int)) ∧ mK M35 (mR M35 a0 18) = 30 ∧ ((0 : Int) ≤ l4 ∧ l4 < (mN M35 (mR M35 a0 18) : Int)))) ∧ (((mI M35 (mR M35 a0 17) (Int.toNat l4) < 0) ∨ (¬ (mI M35 (mR M35 a0 17) (Int.toNat l4) ≤ mI M35 (mR M35 a0 18) (Int.toNat l4)))) → (mK M35 (mR M35 a0 14) = 6 ∧ mK M35 (mR M35 (mR M35 a0 14) 17) = 30 ∧ ((0 : Int) ≤ l2 + l4 ∧ l2 + l4 < (mN M35 (mR M35 (mR M35 a0 14) 17) : Int)) ∧ Ci G y_Ga_fault d [vr a0, vi 11, vi (mI M35 (mR M35 (mR M35 a0 14) 17) (Int.toNat (l2 + l4)))] M35 (fun x50 M49 => i32 x50 ∧ mOk M49 ∧ (Q x50 M49)))) ∧ (¬ ((mI M35 (mR M35 a0 17) (Int.toNat l4) < 0) ∨ (¬ (mI M35 (mR M35 a0 17) (Int.toNat l4) ≤ mI M35 (mR M35 a0 18) (Int.toNat l4)))) → (h_Ga_weighChances_27 G d a0 l1 l2 l3 (l4 + 1) M35 Q))))))))) :
    h_Ga_weighChances_27 G d a0 l1 l2 l3 l4 M Q := by
  unfold h_Ga_weighChances_27
  refine wm_iload d_Ga_weighChances_27 rfl ?_
  refine wm_iload_n d_Ga_weighChances_29 rfl rfl ?_
  refine wm_icmp_ge (tgt := 144) d_Ga_weighChances_30 rfl hi_l4 hi_l3 (fun c7 => ?_) (fun c7 => ?_)
  · replace h := h.1 c7
    refine wm_lconst (x := 1) d_Ga_weighChances_144 rfl ?_
    refine wm_lstore d_Ga_weighChances_145 (by decide) (L' := [vr a0, vi l1, vi l2, vi l3, vl 1, vd, vd, vd, vd]) rfl ?_
    refine wm_iconst d_Ga_weighChances_147 ?_
    refine wm_istore d_Ga_weighChances_148 (by decide) (L' := [vr a0, vi l1, vi l2, vi l3, vl 1, vd, vi 0, vd, vd]) rfl ?_
    refine wm_less (L' := [vr a0, vi l1, vd, vi l3, vl 1, vd, vi 0, vd, vd]) ⟨Or.inr rfl, Or.inr rfl, Or.inl rfl, Or.inr rfl, Or.inr rfl, Or.inl rfl, Or.inr rfl, Or.inl rfl, Or.inl rfl, trivial⟩ ?_
    exact h
  · replace h := h.2 c7
    obtain ⟨h8, h⟩ := h
    obtain ⟨h9, h⟩ := h
    obtain ⟨h10, h⟩ := h
    obtain ⟨h11, h⟩ := h
    obtain ⟨h12, h⟩ := h
    refine wm_aload_n d_Ga_weighChances_33 rfl rfl ?_
    refine gf_Ga_42 rfl d_Ga_weighChances_34 h8 ?_
    refine wm_aload_n d_Ga_weighChances_37 rfl rfl ?_
    refine gf_Ga_72 rfl d_Ga_weighChances_38 h8 ?_
    refine gf_Ga_158 rfl d_Ga_weighChances_41 h9 ?_
    refine wm_iload_n d_Ga_weighChances_44 rfl rfl ?_
    refine wm_iload d_Ga_weighChances_45 rfl ?_
    refine wm_iadd d_Ga_weighChances_47 ?_
    refine wm_iald d_Ga_weighChances_48 h10 h11 ?_
    refine cf_Ga_123 rfl d_Ga_weighChances_49 h12 (Nat.le_of_ble_eq_true rfl) (Ci.mono h (fun x14 M13 h => ?_))
    obtain ⟨h15, hOM13, h⟩ := h
    refine wm_if_ne (tgt := 60) d_Ga_weighChances_52 rfl h15 (fun c17 => ?_) (fun c17 => ?_)
    · replace h := h.2 c17
      obtain ⟨h22, h⟩ := h
      obtain ⟨h23, h⟩ := h
      obtain ⟨h24, h⟩ := h
      obtain ⟨h25, h⟩ := h
      obtain ⟨h26, h⟩ := h
      obtain ⟨h27, h⟩ := h
      obtain ⟨M28, e29⟩ : ∃ M28, M28 = mUI M13 (mR M13 a0 17) (Int.toNat l4) (mI M13 (mR M13 (mR M13 a0 15) 6) 0) := ⟨_, rfl⟩
      replace h := h M28 e29
      obtain ⟨h30, h⟩ := h
      obtain ⟨h31, h⟩ := h
      obtain ⟨h32, h⟩ := h
      obtain ⟨h33, h⟩ := h
      obtain ⟨h34, h⟩ := h
      obtain ⟨M35, e36⟩ : ∃ M35, M35 = mUI M28 (mR M28 a0 18) (Int.toNat l4) (mI M28 (mR M28 (mR M28 a0 15) 7) 0) := ⟨_, rfl⟩
      replace h := h M35 e36
      obtain ⟨h37, h⟩ := h
      obtain ⟨h38, h⟩ := h
      refine wm_aload_n d_Ga_weighChances_60 rfl rfl ?_
      refine gf_Ga_49 rfl d_Ga_weighChances_61 h22 ?_
      refine wm_iload d_Ga_weighChances_64 rfl ?_
      refine wm_aload_n d_Ga_weighChances_66 rfl rfl ?_
      refine gf_Ga_42 rfl d_Ga_weighChances_67 h22 ?_
      refine gf_Ga_129 rfl d_Ga_weighChances_70 h23 ?_
      refine wm_iconst d_Ga_weighChances_73 ?_
      refine wm_iald d_Ga_weighChances_74 h24 h25 ?_
      have hOM28 : mOk M28 := by rw [e29]; exact mOk_UI hOM13 (hOM13 _ _).1
      refine wm_iastE d_Ga_weighChances_75 h26 h27 (hOM13 _ _).1 e29 ?_
      refine wm_aload_n d_Ga_weighChances_76 rfl rfl ?_
      refine gf_Ga_52 rfl d_Ga_weighChances_77 (by rw [e29]; exact h22) ?_
      refine wm_iload d_Ga_weighChances_80 rfl ?_
      refine wm_aload_n d_Ga_weighChances_82 rfl rfl ?_
      refine gf_Ga_42 rfl d_Ga_weighChances_83 (by rw [e29]; exact h22) ?_
      refine gf_Ga_161 rfl d_Ga_weighChances_86 h30 ?_
      refine wm_iconst d_Ga_weighChances_89 ?_
      refine wm_iald d_Ga_weighChances_90 h31 h32 ?_
      have hOM35 : mOk M35 := by rw [e36]; exact mOk_UI hOM28 (hOM28 _ _).1
      refine wm_iastE d_Ga_weighChances_91 h33 h34 (hOM28 _ _).1 e36 ?_
      refine wm_aload_n d_Ga_weighChances_92 rfl rfl ?_
      refine gf_Ga_49 rfl d_Ga_weighChances_93 (by rw [e36, e29]; exact h22) ?_
      refine wm_iload d_Ga_weighChances_96 rfl ?_
      refine wm_iald d_Ga_weighChances_98 h37 h38 ?_
      obtain ⟨s44, h⟩ := h
      have hE0 : ((mI M35 (mR M35 a0 17) (Int.toNat l4) < 0) ∨ (¬ (mI M35 (mR M35 a0 17) (Int.toNat l4) ≤ mI M35 (mR M35 a0 18) (Int.toNat l4)))) → mWm G y_Ga_weighChances (d + 1) 119 [vr a0, vi l1, vi l2, vi l3, vi l4, vd, vd, vd, vd] [] M35 (fun r9 M9 => ∃ x9, r9 = some (vi x9) ∧ Q x9 M9) := by
        intro q45
        have h := h.1 q45
        obtain ⟨h46, h⟩ := h
        obtain ⟨h47, h⟩ := h
        obtain ⟨h48, h⟩ := h
        refine wm_aload_n d_Ga_weighChances_119 rfl rfl ?_
        refine wm_bipush d_Ga_weighChances_120 (by decide) ?_
        refine wm_aload_n d_Ga_weighChances_122 rfl rfl ?_
        refine gf_Ga_72 rfl d_Ga_weighChances_123 (by rw [e36, e29]; exact h22) ?_
        refine gf_Ga_164 rfl d_Ga_weighChances_126 h46 ?_
        refine wm_iload_n d_Ga_weighChances_129 rfl rfl ?_
        refine wm_iload d_Ga_weighChances_130 rfl ?_
        refine wm_iadd d_Ga_weighChances_132 ?_
        refine wm_iald d_Ga_weighChances_133 h47 h48 ?_
        refine cf_Ga_148 rfl d_Ga_weighChances_134 (by rw [e36, e29]; exact h22) (Nat.le_of_ble_eq_true rfl) (Ci.mono h (fun x50 M49 h => ?_))
        obtain ⟨h51, hOM49, h⟩ := h
        refine wm_ireturn d_Ga_weighChances_137 rfl rfl ?_
        exact ⟨_, rfl, h⟩
      have hE1 : ¬ ((mI M35 (mR M35 a0 17) (Int.toNat l4) < 0) ∨ (¬ (mI M35 (mR M35 a0 17) (Int.toNat l4) ≤ mI M35 (mR M35 a0 18) (Int.toNat l4)))) → mWm G y_Ga_weighChances (d + 1) 138 [vr a0, vi l1, vi l2, vi l3, vi l4, vd, vd, vd, vd] [] M35 (fun r9 M9 => ∃ x9, r9 = some (vi x9) ∧ Q x9 M9) := by
        intro q52
        have h := h.2 q52
        refine wm_iinc d_Ga_weighChances_138 (by decide) rfl (L' := [vr a0, vi l1, vi l2, vi l3, vi (l4 + 1), vd, vd, vd, vd]) rfl ?_
        refine wm_goto (tgt := 27) d_Ga_weighChances_141 rfl ?_
        exact h
      clear h
      have s53 := s44
      refine wm_if_lt (tgt := 119) d_Ga_weighChances_99 rfl (hOM35 _ _).1 (fun c43 => ?_) (fun c43 => ?_)
      · exact hE0 (Or.inl c43)
      · have s53 := s53 c43
        obtain ⟨h39, h40, h41⟩ := s53
        refine wm_aload_n d_Ga_weighChances_102 rfl rfl ?_
        refine gf_Ga_49 rfl d_Ga_weighChances_103 (by rw [e36, e29]; exact h22) ?_
        refine wm_iload d_Ga_weighChances_106 rfl ?_
        refine wm_iald d_Ga_weighChances_108 h37 h39 ?_
        refine wm_aload_n d_Ga_weighChances_109 rfl rfl ?_
        refine gf_Ga_52 rfl d_Ga_weighChances_110 (by rw [e36, e29]; exact h22) ?_
        refine wm_iload d_Ga_weighChances_113 rfl ?_
        refine wm_iald d_Ga_weighChances_115 h40 h41 ?_
        refine wm_icmp_le (tgt := 138) d_Ga_weighChances_116 rfl (hOM35 _ _).1 (hOM35 _ _).1 (fun c42 => ?_) (fun c42 => ?_)
        · exact hE1 (fun z54 => Or.elim z54 c43 (fun z55 => z55 c42))
        · exact hE0 (Or.inr c42)
    · replace c17 := Classical.not_not.mp c17
      replace h := h.1 c17
      obtain ⟨h18, h⟩ := h
      refine wm_aload_n d_Ga_weighChances_55 rfl rfl ?_
      refine cf_Ga_126 rfl d_Ga_weighChances_56 h18 (Nat.le_of_ble_eq_true rfl) (Ci.mono h (fun x20 M19 h => ?_))
      obtain ⟨h21, hOM19, h⟩ := h
      refine wm_ireturn d_Ga_weighChances_59 rfl rfl ?_
      exact ⟨_, rfl, h⟩
theorem k_Ga_weighChances_150 {G : mG} {d : Nat} {a0 : Nat} {l1 : Int} {l3 : Int} {j4 : Int} {l6 : Int} {M : mM} {Q : Int → mM → Prop} (hO : mOk M) (hi_l1 : i32 l1) (hi_l3 : i32 l3) (hi_j4 : i64 j4) (hi_l6 : i32 l6)
    (h : ((l3 ≤ l6) → (mK M a0 = 7 ∧ mK M (mR M a0 6) = 30 ∧ ((0 : Int) ≤ mI M a0 12 ∧ mI M a0 12 < (mN M (mR M a0 6) : Int)) ∧ i32 j4 ∧ ∀ M66, M66 = mUI M (mR M a0 6) (Int.toNat (mI M a0 12)) j4 → h_Ga_weighChances_232 G d a0 l1 l3 j4 0 0 M66 Q)) ∧ (¬ (l3 ≤ l6) → (mK M a0 = 7 ∧ mK M (mR M a0 18) = 30 ∧ ((0 : Int) ≤ l6 ∧ l6 < (mN M (mR M a0 18) : Int)) ∧ Cj G y_Ma_commonDivisor d [vl j4, vl (mI M (mR M a0 18) (Int.toNat l6))] M (fun x72 M71 => i64 x72 ∧ mOk M71 ∧ (x72 ≠ 0 ∧ mK M71 a0 = 7 ∧ mK M71 (mR M71 a0 18) = 30 ∧ ((0 : Int) ≤ l6 ∧ l6 < (mN M71 (mR M71 a0 18) : Int)) ∧ i64 ((Int.tdiv j4 x72) * (mI M71 (mR M71 a0 18) (Int.toNat l6))) ∧ ((cmpL ((Int.tdiv j4 x72) * (mI M71 (mR M71 a0 18) (Int.toNat l6))) 1000000000 < 0) → (h_Ga_weighChances_150 G d a0 l1 l3 ((Int.tdiv j4 x72) * (mI M71 (mR M71 a0 18) (Int.toNat l6))) (l6 + 1) M71 Q)) ∧ (¬ (cmpL ((Int.tdiv j4 x72) * (mI M71 (mR M71 a0 18) (Int.toNat l6))) 1000000000 < 0) → (mK M71 (mR M71 a0 14) = 6 ∧ mK M71 (mR M71 (mR M71 a0 14) 14) = 30 ∧ ((0 : Int) ≤ l1 ∧ l1 < (mN M71 (mR M71 (mR M71 a0 14) 14) : Int)) ∧ Ci G y_Ga_fault d [vr a0, vi 6, vi (mI M71 (mR M71 (mR M71 a0 14) 14) (Int.toNat l1))] M71 (fun x85 M84 => i32 x85 ∧ mOk M84 ∧ (Q x85 M84))))))))) :
    h_Ga_weighChances_150 G d a0 l1 l3 j4 l6 M Q := by
  unfold h_Ga_weighChances_150
  refine wm_iload d_Ga_weighChances_150 rfl ?_
  refine wm_iload_n d_Ga_weighChances_152 rfl rfl ?_
  refine wm_icmp_ge (tgt := 214) d_Ga_weighChances_153 rfl hi_l6 hi_l3 (fun c61 => ?_) (fun c61 => ?_)
  · replace h := h.1 c61
    obtain ⟨h62, h⟩ := h
    obtain ⟨h63, h⟩ := h
    obtain ⟨h64, h⟩ := h
    obtain ⟨h65, h⟩ := h
    obtain ⟨M66, e67⟩ : ∃ M66, M66 = mUI M (mR M a0 6) (Int.toNat (mI M a0 12)) j4 := ⟨_, rfl⟩
    replace h := h M66 e67
    refine wm_aload_n d_Ga_weighChances_214 rfl rfl ?_
    refine gf_Ga_27 rfl d_Ga_weighChances_215 h62 ?_
    refine wm_aload_n d_Ga_weighChances_218 rfl rfl ?_
    refine gf_Ga_59 rfl d_Ga_weighChances_219 h62 ?_
    refine wm_lload d_Ga_weighChances_222 rfl ?_
    refine wm_l2i d_Ga_weighChances_224 ?_
    have hOM66 : mOk M66 := by rw [e67]; exact mOk_UI hO h65
    refine wm_iastE d_Ga_weighChances_225 h63 h64 h65 e67 ?_
    refine wm_lconst (x := 0) d_Ga_weighChances_226 rfl ?_
    refine wm_lstore d_Ga_weighChances_227 (by decide) (L' := [vr a0, vi l1, vd, vi l3, vl j4, vd, vl 0, vd, vd]) rfl ?_
    refine wm_iconst d_Ga_weighChances_229 ?_
    refine wm_istore d_Ga_weighChances_230 (by decide) (L' := [vr a0, vi l1, vd, vi l3, vl j4, vd, vl 0, vd, vi 0]) rfl ?_
    exact h
  · replace h := h.2 c61
    obtain ⟨h68, h⟩ := h
    obtain ⟨h69, h⟩ := h
    obtain ⟨h70, h⟩ := h
    refine wm_lload d_Ga_weighChances_156 rfl ?_
    refine wm_lload d_Ga_weighChances_158 rfl ?_
    refine wm_aload_n d_Ga_weighChances_160 rfl rfl ?_
    refine gf_Ga_52 rfl d_Ga_weighChances_161 h68 ?_
    refine wm_iload d_Ga_weighChances_164 rfl ?_
    refine wm_iald d_Ga_weighChances_166 h69 h70 ?_
    refine wm_i2l d_Ga_weighChances_167 (hO _ _).1 ?_
    refine cf_Ga_167 rfl d_Ga_weighChances_168 (Nat.le_of_ble_eq_true rfl) (Cj.mono h (fun x72 M71 h => ?_))
    obtain ⟨h73, hOM71, h⟩ := h
    obtain ⟨h74, h⟩ := h
    obtain ⟨h75, h⟩ := h
    obtain ⟨h76, h⟩ := h
    obtain ⟨h77, h⟩ := h
    obtain ⟨h78, h⟩ := h
    refine wm_ldiv d_Ga_weighChances_171 hi_j4 h73 h74 ?_
    refine wm_aload_n d_Ga_weighChances_172 rfl rfl ?_
    refine gf_Ga_52 rfl d_Ga_weighChances_173 h75 ?_
    refine wm_iload d_Ga_weighChances_176 rfl ?_
    refine wm_iald d_Ga_weighChances_178 h76 h77 ?_
    refine wm_i2l d_Ga_weighChances_179 (hOM71 _ _).1 ?_
    refine wm_lmul d_Ga_weighChances_180 ?_
    refine wm_lstore d_Ga_weighChances_181 (by decide) (L' := [vr a0, vi l1, vd, vi l3, vl ((Int.tdiv j4 x72) * (mI M71 (mR M71 a0 18) (Int.toNat l6))), vd, vi l6, vd, vd]) rfl ?_
    refine wm_lload d_Ga_weighChances_183 rfl ?_
    refine wm_ldc2 (x := 1000000000) d_Ga_weighChances_185 k8_29 (by decide) ?_
    refine wm_lcmp d_Ga_weighChances_188 h78 ⟨by decide, by decide⟩ ?_
    refine wm_if_lt (tgt := 208) d_Ga_weighChances_189 rfl (m_cmp32 _ _) (fun c80 => ?_) (fun c80 => ?_)
    · replace h := h.1 c80
      refine wm_iinc d_Ga_weighChances_208 (by decide) rfl (L' := [vr a0, vi l1, vd, vi l3, vl ((Int.tdiv j4 x72) * (mI M71 (mR M71 a0 18) (Int.toNat l6))), vd, vi (l6 + 1), vd, vd]) rfl ?_
      refine wm_goto (tgt := 150) d_Ga_weighChances_211 rfl ?_
      exact h
    · replace h := h.2 c80
      obtain ⟨h81, h⟩ := h
      obtain ⟨h82, h⟩ := h
      obtain ⟨h83, h⟩ := h
      refine wm_aload_n d_Ga_weighChances_192 rfl rfl ?_
      refine wm_bipush d_Ga_weighChances_193 (by decide) ?_
      refine wm_aload_n d_Ga_weighChances_195 rfl rfl ?_
      refine gf_Ga_72 rfl d_Ga_weighChances_196 h75 ?_
      refine gf_Ga_145 rfl d_Ga_weighChances_199 h81 ?_
      refine wm_iload_n d_Ga_weighChances_202 rfl rfl ?_
      refine wm_iald d_Ga_weighChances_203 h82 h83 ?_
      refine cf_Ga_148 rfl d_Ga_weighChances_204 h75 (Nat.le_of_ble_eq_true rfl) (Ci.mono h (fun x85 M84 h => ?_))
      obtain ⟨h86, hOM84, h⟩ := h
      refine wm_ireturn d_Ga_weighChances_207 rfl rfl ?_
      exact ⟨_, rfl, h⟩
theorem k_Ga_weighChances_232 {G : mG} {d : Nat} {a0 : Nat} {l1 : Int} {l3 : Int} {j4 : Int} {j6 : Int} {l8 : Int} {M : mM} {Q : Int → mM → Prop} (hO : mOk M) (hi_l1 : i32 l1) (hi_l3 : i32 l3) (hi_j4 : i64 j4) (hi_j6 : i64 j6) (hi_l8 : i32 l8)
    (h : ((l3 ≤ l8) → (((cmpL j6 j4 = 0) → (h_Ga_weighChances_296 G d 0 M Q)) ∧ (¬ (cmpL j6 j4 = 0) → (mK M a0 = 7 ∧ mK M (mR M a0 14) = 6 ∧ mK M (mR M (mR M a0 14) 14) = 30 ∧ ((0 : Int) ≤ l1 ∧ l1 < (mN M (mR M (mR M a0 14) 14) : Int)) ∧ Ci G y_Ga_fault d [vr a0, vi 11, vi (mI M (mR M (mR M a0 14) 14) (Int.toNat l1))] M (fun x103 M102 => i32 x103 ∧ mOk M102 ∧ (h_Ga_weighChances_296 G d x103 M102 Q)))))) ∧ (¬ (l3 ≤ l8) → (mK M a0 = 7 ∧ mK M (mR M a0 18) = 30 ∧ ((0 : Int) ≤ l8 ∧ l8 < (mN M (mR M a0 18) : Int)) ∧ (mI M (mR M a0 18) (Int.toNat l8)) ≠ 0 ∧ mK M (mR M a0 17) = 30 ∧ ((0 : Int) ≤ l8 ∧ l8 < (mN M (mR M a0 17) : Int)) ∧ h_Ga_weighChances_232 G d a0 l1 l3 j4 (j6 + ((Int.tdiv j4 (mI M (mR M a0 18) (Int.toNat l8))) * (mI M (mR M a0 17) (Int.toNat l8)))) (l8 + 1) M Q))) :
    h_Ga_weighChances_232 G d a0 l1 l3 j4 j6 l8 M Q := by
  unfold h_Ga_weighChances_232
  refine wm_iload d_Ga_weighChances_232 rfl ?_
  refine wm_iload_n d_Ga_weighChances_234 rfl rfl ?_
  refine wm_icmp_ge (tgt := 269) d_Ga_weighChances_235 rfl hi_l8 hi_l3 (fun c95 => ?_) (fun c95 => ?_)
  · replace h := h.1 c95
    refine wm_lload d_Ga_weighChances_269 rfl ?_
    refine wm_lload d_Ga_weighChances_271 rfl ?_
    refine wm_lcmp d_Ga_weighChances_273 hi_j6 hi_j4 ?_
    refine wm_if_ne (tgt := 281) d_Ga_weighChances_274 rfl (m_cmp32 _ _) (fun c97 => ?_) (fun c97 => ?_)
    · replace h := h.2 c97
      obtain ⟨h98, h⟩ := h
      obtain ⟨h99, h⟩ := h
      obtain ⟨h100, h⟩ := h
      obtain ⟨h101, h⟩ := h
      refine wm_aload_n d_Ga_weighChances_281 rfl rfl ?_
      refine wm_bipush d_Ga_weighChances_282 (by decide) ?_
      refine wm_aload_n d_Ga_weighChances_284 rfl rfl ?_
      refine gf_Ga_72 rfl d_Ga_weighChances_285 h98 ?_
      refine gf_Ga_145 rfl d_Ga_weighChances_288 h99 ?_
      refine wm_iload_n d_Ga_weighChances_291 rfl rfl ?_
      refine wm_iald d_Ga_weighChances_292 h100 h101 ?_
      refine cf_Ga_148 rfl d_Ga_weighChances_293 h98 (Nat.le_of_ble_eq_true rfl) (Ci.mono h (fun x103 M102 h => ?_))
      obtain ⟨h104, hOM102, h⟩ := h
      refine wm_less (L' := [vd, vd, vd, vd, vd, vd, vd, vd, vd]) ⟨Or.inl rfl, Or.inl rfl, Or.inl rfl, Or.inl rfl, Or.inl rfl, Or.inl rfl, Or.inl rfl, Or.inl rfl, Or.inl rfl, trivial⟩ ?_
      exact h
    · replace c97 := Classical.not_not.mp c97
      replace h := h.1 c97
      refine wm_iconst d_Ga_weighChances_277 ?_
      refine wm_goto (tgt := 296) d_Ga_weighChances_278 rfl ?_
      refine wm_less (L' := [vd, vd, vd, vd, vd, vd, vd, vd, vd]) ⟨Or.inl rfl, Or.inl rfl, Or.inl rfl, Or.inl rfl, Or.inl rfl, Or.inl rfl, Or.inl rfl, Or.inl rfl, Or.inl rfl, trivial⟩ ?_
      exact h
  · replace h := h.2 c95
    obtain ⟨h105, h⟩ := h
    obtain ⟨h106, h⟩ := h
    obtain ⟨h107, h⟩ := h
    obtain ⟨h108, h⟩ := h
    obtain ⟨h109, h⟩ := h
    obtain ⟨h110, h⟩ := h
    refine wm_lload d_Ga_weighChances_238 rfl ?_
    refine wm_lload d_Ga_weighChances_240 rfl ?_
    refine wm_aload_n d_Ga_weighChances_242 rfl rfl ?_
    refine gf_Ga_52 rfl d_Ga_weighChances_243 h105 ?_
    refine wm_iload d_Ga_weighChances_246 rfl ?_
    refine wm_iald d_Ga_weighChances_248 h106 h107 ?_
    refine wm_i2l d_Ga_weighChances_249 (hO _ _).1 ?_
    refine wm_ldiv d_Ga_weighChances_250 hi_j4 (i64_of32 (hO _ _).1) h108 ?_
    refine wm_aload_n d_Ga_weighChances_251 rfl rfl ?_
    refine gf_Ga_49 rfl d_Ga_weighChances_252 h105 ?_
    refine wm_iload d_Ga_weighChances_255 rfl ?_
    refine wm_iald d_Ga_weighChances_257 h109 h110 ?_
    refine wm_i2l d_Ga_weighChances_258 (hO _ _).1 ?_
    refine wm_lmul d_Ga_weighChances_259 ?_
    refine wm_ladd d_Ga_weighChances_260 ?_
    refine wm_lstore d_Ga_weighChances_261 (by decide) (L' := [vr a0, vi l1, vd, vi l3, vl j4, vd, vl (j6 + ((Int.tdiv j4 (mI M (mR M a0 18) (Int.toNat l8))) * (mI M (mR M a0 17) (Int.toNat l8)))), vd, vi l8]) rfl ?_
    refine wm_iinc d_Ga_weighChances_263 (by decide) rfl (L' := [vr a0, vi l1, vd, vi l3, vl j4, vd, vl (j6 + ((Int.tdiv j4 (mI M (mR M a0 18) (Int.toNat l8))) * (mI M (mR M a0 17) (Int.toNat l8)))), vd, vi (l8 + 1)]) rfl ?_
    refine wm_goto (tgt := 232) d_Ga_weighChances_266 rfl ?_
    exact h
theorem k_Ga_weighChances_296 {G : mG} {d : Nat} {k0 : Int} {M : mM} {Q : Int → mM → Prop} (hO : mOk M) (hi_k0 : i32 k0)
    (h : Q k0 M) :
    h_Ga_weighChances_296 G d k0 M Q := by
  unfold h_Ga_weighChances_296
  refine wm_ireturn d_Ga_weighChances_296 rfl rfl ?_
  exact ⟨_, rfl, h⟩
theorem d_Ga_follow_0 : decode y_Ga_follow.2.1 0 = .ok (.aload_n 0, 1) := by decide +kernel
theorem d_Ga_follow_1 : decode y_Ga_follow.2.1 1 = .ok (.getfield 42, 3) := by decide +kernel
theorem d_Ga_follow_4 : decode y_Ga_follow.2.1 4 = .ok (.invokevirtual 173, 3) := by decide +kernel
theorem d_Ga_follow_7 : decode y_Ga_follow.2.1 7 = .ok (.aload_n 0, 1) := by decide +kernel
theorem d_Ga_follow_8 : decode y_Ga_follow.2.1 8 = .ok (.getfield 42, 3) := by decide +kernel
theorem d_Ga_follow_11 : decode y_Ga_follow.2.1 11 = .ok (.aload_n 0, 1) := by decide +kernel
theorem d_Ga_follow_12 : decode y_Ga_follow.2.1 12 = .ok (.getfield 72, 3) := by decide +kernel
theorem d_Ga_follow_15 : decode y_Ga_follow.2.1 15 = .ok (.getfield 176, 3) := by decide +kernel
theorem d_Ga_follow_18 : decode y_Ga_follow.2.1 18 = .ok (.iload_n 2, 1) := by decide +kernel
theorem d_Ga_follow_19 : decode y_Ga_follow.2.1 19 = .ok (.iaload, 1) := by decide +kernel
theorem d_Ga_follow_20 : decode y_Ga_follow.2.1 20 = .ok (.invokevirtual 123, 3) := by decide +kernel
theorem d_Ga_follow_23 : decode y_Ga_follow.2.1 23 = .ok (.ifCond .ne 8, 3) := by decide +kernel
theorem d_Ga_follow_26 : decode y_Ga_follow.2.1 26 = .ok (.aload_n 0, 1) := by decide +kernel
theorem d_Ga_follow_31 : decode y_Ga_follow.2.1 31 = .ok (.aload_n 0, 1) := by decide +kernel
theorem d_Ga_follow_27 : decode y_Ga_follow.2.1 27 = .ok (.invokevirtual 126, 3) := by decide +kernel
theorem d_Ga_follow_30 : decode y_Ga_follow.2.1 30 = .ok (.ireturn, 1) := by decide +kernel
theorem d_Ga_follow_32 : decode y_Ga_follow.2.1 32 = .ok (.invokevirtual 100, 3) := by decide +kernel
theorem d_Ga_follow_35 : decode y_Ga_follow.2.1 35 = .ok (.istore 4, 2) := by decide +kernel
theorem d_Ga_follow_37 : decode y_Ga_follow.2.1 37 = .ok (.iload 4, 2) := by decide +kernel
theorem d_Ga_follow_39 : decode y_Ga_follow.2.1 39 = .ok (.iconst (-1), 1) := by decide +kernel
theorem d_Ga_follow_40 : decode y_Ga_follow.2.1 40 = .ok (.if_icmp .ne 18, 3) := by decide +kernel
theorem d_Ga_follow_43 : decode y_Ga_follow.2.1 43 = .ok (.aload_n 0, 1) := by decide +kernel
theorem d_Ga_follow_44 : decode y_Ga_follow.2.1 44 = .ok (.iconst 5, 1) := by decide +kernel
theorem d_Ga_follow_45 : decode y_Ga_follow.2.1 45 = .ok (.aload_n 0, 1) := by decide +kernel
theorem d_Ga_follow_46 : decode y_Ga_follow.2.1 46 = .ok (.getfield 72, 3) := by decide +kernel
theorem d_Ga_follow_49 : decode y_Ga_follow.2.1 49 = .ok (.getfield 164, 3) := by decide +kernel
theorem d_Ga_follow_52 : decode y_Ga_follow.2.1 52 = .ok (.iload_n 2, 1) := by decide +kernel
theorem d_Ga_follow_53 : decode y_Ga_follow.2.1 53 = .ok (.iaload, 1) := by decide +kernel
theorem d_Ga_follow_58 : decode y_Ga_follow.2.1 58 = .ok (.aload_n 0, 1) := by decide +kernel
theorem d_Ga_follow_59 : decode y_Ga_follow.2.1 59 = .ok (.getfield 30, 3) := by decide +kernel
theorem d_Ga_follow_62 : decode y_Ga_follow.2.1 62 = .ok (.aload_n 0, 1) := by decide +kernel
theorem d_Ga_follow_63 : decode y_Ga_follow.2.1 63 = .ok (.getfield 59, 3) := by decide +kernel
theorem d_Ga_follow_66 : decode y_Ga_follow.2.1 66 = .ok (.iaload, 1) := by decide +kernel
theorem d_Ga_follow_67 : decode y_Ga_follow.2.1 67 = .ok (.istore 5, 2) := by decide +kernel
theorem d_Ga_follow_54 : decode y_Ga_follow.2.1 54 = .ok (.invokevirtual 148, 3) := by decide +kernel
theorem d_Ga_follow_57 : decode y_Ga_follow.2.1 57 = .ok (.ireturn, 1) := by decide +kernel
theorem d_Ga_follow_69 : decode y_Ga_follow.2.1 69 = .ok (.iload 5, 2) := by decide +kernel
theorem d_Ga_follow_71 : decode y_Ga_follow.2.1 71 = .ok (.aload_n 0, 1) := by decide +kernel
theorem d_Ga_follow_72 : decode y_Ga_follow.2.1 72 = .ok (.getfield 62, 3) := by decide +kernel
theorem d_Ga_follow_75 : decode y_Ga_follow.2.1 75 = .ok (.if_icmp .ge 34, 3) := by decide +kernel
theorem d_Ga_follow_109 : decode y_Ga_follow.2.1 109 = .ok (.aload_n 0, 1) := by decide +kernel
theorem d_Ga_follow_110 : decode y_Ga_follow.2.1 110 = .ok (.getfield 62, 3) := by decide +kernel
theorem d_Ga_follow_113 : decode y_Ga_follow.2.1 113 = .ok (.sipush 4096, 3) := by decide +kernel
theorem d_Ga_follow_78 : decode y_Ga_follow.2.1 78 = .ok (.aload_n 0, 1) := by decide +kernel
theorem d_Ga_follow_79 : decode y_Ga_follow.2.1 79 = .ok (.getfield 33, 3) := by decide +kernel
theorem d_Ga_follow_82 : decode y_Ga_follow.2.1 82 = .ok (.iload 5, 2) := by decide +kernel
theorem d_Ga_follow_84 : decode y_Ga_follow.2.1 84 = .ok (.iaload, 1) := by decide +kernel
theorem d_Ga_follow_85 : decode y_Ga_follow.2.1 85 = .ok (.iload 4, 2) := by decide +kernel
theorem d_Ga_follow_116 : decode y_Ga_follow.2.1 116 = .ok (.if_icmp .ne 18, 3) := by decide +kernel
theorem d_Ga_follow_119 : decode y_Ga_follow.2.1 119 = .ok (.aload_n 0, 1) := by decide +kernel
theorem d_Ga_follow_120 : decode y_Ga_follow.2.1 120 = .ok (.iconst 5, 1) := by decide +kernel
theorem d_Ga_follow_121 : decode y_Ga_follow.2.1 121 = .ok (.aload_n 0, 1) := by decide +kernel
theorem d_Ga_follow_122 : decode y_Ga_follow.2.1 122 = .ok (.getfield 72, 3) := by decide +kernel
theorem d_Ga_follow_125 : decode y_Ga_follow.2.1 125 = .ok (.getfield 145, 3) := by decide +kernel
theorem d_Ga_follow_128 : decode y_Ga_follow.2.1 128 = .ok (.iload_n 1, 1) := by decide +kernel
theorem d_Ga_follow_129 : decode y_Ga_follow.2.1 129 = .ok (.iaload, 1) := by decide +kernel
theorem d_Ga_follow_134 : decode y_Ga_follow.2.1 134 = .ok (.aload_n 0, 1) := by decide +kernel
theorem d_Ga_follow_135 : decode y_Ga_follow.2.1 135 = .ok (.getfield 33, 3) := by decide +kernel
theorem d_Ga_follow_138 : decode y_Ga_follow.2.1 138 = .ok (.aload_n 0, 1) := by decide +kernel
theorem d_Ga_follow_139 : decode y_Ga_follow.2.1 139 = .ok (.getfield 62, 3) := by decide +kernel
theorem d_Ga_follow_142 : decode y_Ga_follow.2.1 142 = .ok (.iload 4, 2) := by decide +kernel
theorem d_Ga_follow_144 : decode y_Ga_follow.2.1 144 = .ok (.iastore, 1) := by decide +kernel
theorem d_Ga_follow_145 : decode y_Ga_follow.2.1 145 = .ok (.aload_n 0, 1) := by decide +kernel
theorem d_Ga_follow_146 : decode y_Ga_follow.2.1 146 = .ok (.getfield 36, 3) := by decide +kernel
theorem d_Ga_follow_149 : decode y_Ga_follow.2.1 149 = .ok (.aload_n 0, 1) := by decide +kernel
theorem d_Ga_follow_150 : decode y_Ga_follow.2.1 150 = .ok (.getfield 62, 3) := by decide +kernel
theorem d_Ga_follow_153 : decode y_Ga_follow.2.1 153 = .ok (.iload_n 3, 1) := by decide +kernel
theorem d_Ga_follow_154 : decode y_Ga_follow.2.1 154 = .ok (.iastore, 1) := by decide +kernel
theorem d_Ga_follow_87 : decode y_Ga_follow.2.1 87 = .ok (.if_icmp .ne 16, 3) := by decide +kernel
theorem d_Ga_follow_90 : decode y_Ga_follow.2.1 90 = .ok (.aload_n 0, 1) := by decide +kernel
theorem d_Ga_follow_91 : decode y_Ga_follow.2.1 91 = .ok (.getfield 36, 3) := by decide +kernel
theorem d_Ga_follow_94 : decode y_Ga_follow.2.1 94 = .ok (.iload 5, 2) := by decide +kernel
theorem d_Ga_follow_96 : decode y_Ga_follow.2.1 96 = .ok (.dup2, 1) := by decide +kernel
theorem d_Ga_follow_97 : decode y_Ga_follow.2.1 97 = .ok (.iaload, 1) := by decide +kernel
theorem d_Ga_follow_98 : decode y_Ga_follow.2.1 98 = .ok (.iload_n 3, 1) := by decide +kernel
theorem d_Ga_follow_99 : decode y_Ga_follow.2.1 99 = .ok (.iadd, 1) := by decide +kernel
theorem d_Ga_follow_100 : decode y_Ga_follow.2.1 100 = .ok (.iastore, 1) := by decide +kernel
theorem d_Ga_follow_101 : decode y_Ga_follow.2.1 101 = .ok (.iconst 0, 1) := by decide +kernel
theorem d_Ga_follow_102 : decode y_Ga_follow.2.1 102 = .ok (.ireturn, 1) := by decide +kernel
theorem d_Ga_follow_103 : decode y_Ga_follow.2.1 103 = .ok (.iinc 5 1, 3) := by decide +kernel
theorem d_Ga_follow_106 : decode y_Ga_follow.2.1 106 = .ok (.goto (-37), 3) := by decide +kernel
theorem d_Ga_follow_130 : decode y_Ga_follow.2.1 130 = .ok (.invokevirtual 148, 3) := by decide +kernel
theorem d_Ga_follow_133 : decode y_Ga_follow.2.1 133 = .ok (.ireturn, 1) := by decide +kernel
theorem d_Ga_follow_155 : decode y_Ga_follow.2.1 155 = .ok (.aload_n 0, 1) := by decide +kernel
theorem d_Ga_follow_156 : decode y_Ga_follow.2.1 156 = .ok (.dup, 1) := by decide +kernel
theorem d_Ga_follow_157 : decode y_Ga_follow.2.1 157 = .ok (.getfield 62, 3) := by decide +kernel
theorem d_Ga_follow_160 : decode y_Ga_follow.2.1 160 = .ok (.iconst 1, 1) := by decide +kernel
theorem d_Ga_follow_161 : decode y_Ga_follow.2.1 161 = .ok (.iadd, 1) := by decide +kernel
theorem d_Ga_follow_162 : decode y_Ga_follow.2.1 162 = .ok (.putfield 62, 3) := by decide +kernel
theorem d_Ga_follow_165 : decode y_Ga_follow.2.1 165 = .ok (.iconst 0, 1) := by decide +kernel
theorem d_Ga_follow_166 : decode y_Ga_follow.2.1 166 = .ok (.ireturn, 1) := by decide +kernel
def h_Ga_follow_69 (G : mG) (d : Nat) (a0 : Nat) (l1 : Int) (l3 : Int) (l4 : Int) (l5 : Int) (M : mM) (Q : Int → mM → Prop) : Prop := mWm G y_Ga_follow (d + 1) 69 [vr a0, vi l1, vd, vi l3, vi l4, vi l5] [] M (fun r9 M9 => ∃ x9, r9 = some (vi x9) ∧ Q x9 M9)
theorem k_Ga_follow {G : mG} {d : Nat} {a0 : Nat} {l1 : Int} {l2 : Int} {l3 : Int} {M : mM} {Q : Int → mM → Prop} (hO : mOk M) (hi_l1 : i32 l1) (hi_l2 : i32 l2) (hi_l3 : i32 l3)
    (h : mK M a0 = 7 ∧ mK M (mR M a0 15) = 5 ∧ Cv G y_Ma_beginSets d [vr (mR M a0 15)] M (fun M3 => mOk M3 ∧ (mK M3 a0 = 7 ∧ mK M3 (mR M3 a0 14) = 6 ∧ mK M3 (mR M3 (mR M3 a0 14) 19) = 30 ∧ ((0 : Int) ≤ l2 ∧ l2 < (mN M3 (mR M3 (mR M3 a0 14) 19) : Int)) ∧ mK M3 (mR M3 a0 15) = 5 ∧ Ci G y_Ma_run d [vr (mR M3 a0 15), vi (mI M3 (mR M3 (mR M3 a0 14) 19) (Int.toNat l2))] M3 (fun x12 M11 => i32 x12 ∧ mOk M11 ∧ (((x12 = 0) → (mK M11 a0 = 7 ∧ Ci G y_Ga_machineFault d [vr a0] M11 (fun x18 M17 => i32 x18 ∧ mOk M17 ∧ (Q x18 M17)))) ∧ (¬ (x12 = 0) → (mK M11 a0 = 7 ∧ Ci G y_Ga_enter d [vr a0] M11 (fun x22 M21 => i32 x22 ∧ mOk M21 ∧ (((x22 = (-1)) → (mK M21 a0 = 7 ∧ mK M21 (mR M21 a0 14) = 6 ∧ mK M21 (mR M21 (mR M21 a0 14) 17) = 30 ∧ ((0 : Int) ≤ l2 ∧ l2 < (mN M21 (mR M21 (mR M21 a0 14) 17) : Int)) ∧ Ci G y_Ga_fault d [vr a0, vi 5, vi (mI M21 (mR M21 (mR M21 a0 14) 17) (Int.toNat l2))] M21 (fun x34 M33 => i32 x34 ∧ mOk M33 ∧ (Q x34 M33)))) ∧ (¬ (x22 = (-1)) → (mK M21 a0 = 7 ∧ mK M21 (mR M21 a0 7) = 30 ∧ ((0 : Int) ≤ mI M21 a0 12 ∧ mI M21 a0 12 < (mN M21 (mR M21 a0 7) : Int)) ∧ h_Ga_follow_69 G d a0 l1 l3 x22 (mI M21 (mR M21 a0 7) (Int.toNat (mI M21 a0 12))) M21 Q))))))))))) :
    Ci G y_Ga_follow (d + 1) [vr a0, vi l1, vi l2, vi l3] M Q := by
  refine wm_open (y := y_Ga_follow) rfl (Nat.le_of_ble_eq_true rfl) (L := [vr a0, vi l1, vi l2, vi l3, vd, vd]) rfl ?_
  obtain ⟨h1, h⟩ := h
  obtain ⟨h2, h⟩ := h
  refine wm_aload_n d_Ga_follow_0 rfl rfl ?_
  refine gf_Ga_42 rfl d_Ga_follow_1 h1 ?_
  refine cf_Ga_173 rfl d_Ga_follow_4 h2 (Nat.le_of_ble_eq_true rfl) (Cv.mono h (fun M3 h => ?_))
  obtain ⟨hOM3, h⟩ := h
  obtain ⟨h6, h⟩ := h
  obtain ⟨h7, h⟩ := h
  obtain ⟨h8, h⟩ := h
  obtain ⟨h9, h⟩ := h
  obtain ⟨h10, h⟩ := h
  refine wm_aload_n d_Ga_follow_7 rfl rfl ?_
  refine gf_Ga_42 rfl d_Ga_follow_8 h6 ?_
  refine wm_aload_n d_Ga_follow_11 rfl rfl ?_
  refine gf_Ga_72 rfl d_Ga_follow_12 h6 ?_
  refine gf_Ga_176 rfl d_Ga_follow_15 h7 ?_
  refine wm_iload_n d_Ga_follow_18 rfl rfl ?_
  refine wm_iald d_Ga_follow_19 h8 h9 ?_
  refine cf_Ga_123 rfl d_Ga_follow_20 h10 (Nat.le_of_ble_eq_true rfl) (Ci.mono h (fun x12 M11 h => ?_))
  obtain ⟨h13, hOM11, h⟩ := h
  refine wm_if_ne (tgt := 31) d_Ga_follow_23 rfl h13 (fun c15 => ?_) (fun c15 => ?_)
  · replace h := h.2 c15
    obtain ⟨h20, h⟩ := h
    refine wm_aload_n d_Ga_follow_31 rfl rfl ?_
    refine cf_Ga_100 rfl d_Ga_follow_32 h20 (Nat.le_of_ble_eq_true rfl) (Ci.mono h (fun x22 M21 h => ?_))
    obtain ⟨h23, hOM21, h⟩ := h
    refine wm_istore d_Ga_follow_35 (by decide) (L' := [vr a0, vi l1, vi l2, vi l3, vi x22, vd]) rfl ?_
    refine wm_iload d_Ga_follow_37 rfl ?_
    refine wm_iconst d_Ga_follow_39 ?_
    refine wm_icmp_ne (tgt := 58) d_Ga_follow_40 rfl h23 ⟨by decide, by decide⟩ (fun c28 => ?_) (fun c28 => ?_)
    · replace h := h.2 c28
      obtain ⟨h36, h⟩ := h
      obtain ⟨h37, h⟩ := h
      obtain ⟨h38, h⟩ := h
      refine wm_aload_n d_Ga_follow_58 rfl rfl ?_
      refine gf_Ga_30 rfl d_Ga_follow_59 h36 ?_
      refine wm_aload_n d_Ga_follow_62 rfl rfl ?_
      refine gf_Ga_59 rfl d_Ga_follow_63 h36 ?_
      refine wm_iald d_Ga_follow_66 h37 h38 ?_
      refine wm_istore d_Ga_follow_67 (by decide) (L' := [vr a0, vi l1, vi l2, vi l3, vi x22, vi (mI M21 (mR M21 a0 7) (Int.toNat (mI M21 a0 12)))]) rfl ?_
      refine wm_less (L' := [vr a0, vi l1, vd, vi l3, vi x22, vi (mI M21 (mR M21 a0 7) (Int.toNat (mI M21 a0 12)))]) ⟨Or.inr rfl, Or.inr rfl, Or.inl rfl, Or.inr rfl, Or.inr rfl, Or.inr rfl, trivial⟩ ?_
      exact h
    · replace c28 := Classical.not_not.mp c28
      replace h := h.1 c28
      obtain ⟨h29, h⟩ := h
      obtain ⟨h30, h⟩ := h
      obtain ⟨h31, h⟩ := h
      obtain ⟨h32, h⟩ := h
      refine wm_aload_n d_Ga_follow_43 rfl rfl ?_
      refine wm_iconst d_Ga_follow_44 ?_
      refine wm_aload_n d_Ga_follow_45 rfl rfl ?_
      refine gf_Ga_72 rfl d_Ga_follow_46 h29 ?_
      refine gf_Ga_164 rfl d_Ga_follow_49 h30 ?_
      refine wm_iload_n d_Ga_follow_52 rfl rfl ?_
      refine wm_iald d_Ga_follow_53 h31 h32 ?_
      refine cf_Ga_148 rfl d_Ga_follow_54 h29 (Nat.le_of_ble_eq_true rfl) (Ci.mono h (fun x34 M33 h => ?_))
      obtain ⟨h35, hOM33, h⟩ := h
      refine wm_ireturn d_Ga_follow_57 rfl rfl ?_
      exact ⟨_, rfl, h⟩
  · replace c15 := Classical.not_not.mp c15
    replace h := h.1 c15
    obtain ⟨h16, h⟩ := h
    refine wm_aload_n d_Ga_follow_26 rfl rfl ?_
    refine cf_Ga_126 rfl d_Ga_follow_27 h16 (Nat.le_of_ble_eq_true rfl) (Ci.mono h (fun x18 M17 h => ?_))
    obtain ⟨h19, hOM17, h⟩ := h
    refine wm_ireturn d_Ga_follow_30 rfl rfl ?_
    exact ⟨_, rfl, h⟩
theorem k_Ga_follow_69 {G : mG} {d : Nat} {a0 : Nat} {l1 : Int} {l3 : Int} {l4 : Int} {l5 : Int} {M : mM} {Q : Int → mM → Prop} (hO : mOk M) (hi_l1 : i32 l1) (hi_l3 : i32 l3) (hi_l4 : i32 l4) (hi_l5 : i32 l5)
    (h : mK M a0 = 7 ∧ ((mI M a0 13 ≤ l5) → (((mI M a0 13 = 4096) → (mK M (mR M a0 14) = 6 ∧ mK M (mR M (mR M a0 14) 14) = 30 ∧ ((0 : Int) ≤ l1 ∧ l1 < (mN M (mR M (mR M a0 14) 14) : Int)) ∧ Ci G y_Ga_fault d [vr a0, vi 5, vi (mI M (mR M (mR M a0 14) 14) (Int.toNat l1))] M (fun x62 M61 => i32 x62 ∧ mOk M61 ∧ (Q x62 M61)))) ∧ (¬ (mI M a0 13 = 4096) → (mK M (mR M a0 8) = 30 ∧ ((0 : Int) ≤ mI M a0 13 ∧ mI M a0 13 < (mN M (mR M a0 8) : Int)) ∧ ∀ M66, M66 = mUI M (mR M a0 8) (Int.toNat (mI M a0 13)) l4 → mK M66 (mR M66 a0 9) = 30 ∧ ((0 : Int) ≤ mI M66 a0 13 ∧ mI M66 a0 13 < (mN M66 (mR M66 a0 9) : Int)) ∧ ∀ M70, M70 = mUI M66 (mR M66 a0 9) (Int.toNat (mI M66 a0 13)) l3 → i32 ((mI M70 a0 13) + 1) ∧ ∀ M73, M73 = mUI M70 a0 13 ((mI M70 a0 13) + 1) → Q 0 M73)))) ∧ (¬ (mI M a0 13 ≤ l5) → (mK M (mR M a0 8) = 30 ∧ ((0 : Int) ≤ l5 ∧ l5 < (mN M (mR M a0 8) : Int)) ∧ ((mI M (mR M a0 8) (Int.toNat l5) = l4) → (mK M (mR M a0 9) = 30 ∧ ((0 : Int) ≤ l5 ∧ l5 < (mN M (mR M a0 9) : Int)) ∧ ((0 : Int) ≤ l5 ∧ l5 < (mN M (mR M a0 9) : Int)) ∧ i32 ((mI M (mR M a0 9) (Int.toNat l5)) + l3) ∧ ∀ M87, M87 = mUI M (mR M a0 9) (Int.toNat l5) ((mI M (mR M a0 9) (Int.toNat l5)) + l3) → Q 0 M87)) ∧ (¬ (mI M (mR M a0 8) (Int.toNat l5) = l4) → (h_Ga_follow_69 G d a0 l1 l3 l4 (l5 + 1) M Q))))) :
    h_Ga_follow_69 G d a0 l1 l3 l4 l5 M Q := by
  unfold h_Ga_follow_69
  obtain ⟨h39, h⟩ := h
  refine wm_iload d_Ga_follow_69 rfl ?_
  refine wm_aload_n d_Ga_follow_71 rfl rfl ?_
  refine gf_Ga_62 rfl d_Ga_follow_72 h39 ?_
  refine wm_icmp_ge (tgt := 109) d_Ga_follow_75 rfl hi_l5 (hO _ _).1 (fun c55 => ?_) (fun c55 => ?_)
  · replace h := h.1 c55
    refine wm_aload_n d_Ga_follow_109 rfl rfl ?_
    refine gf_Ga_62 rfl d_Ga_follow_110 h39 ?_
    refine wm_sipush d_Ga_follow_113 (by decide) ?_
    refine wm_icmp_ne (tgt := 134) d_Ga_follow_116 rfl (hO _ _).1 ⟨by decide, by decide⟩ (fun c57 => ?_) (fun c57 => ?_)
    · replace h := h.2 c57
      obtain ⟨h64, h⟩ := h
      obtain ⟨h65, h⟩ := h
      obtain ⟨M66, e67⟩ : ∃ M66, M66 = mUI M (mR M a0 8) (Int.toNat (mI M a0 13)) l4 := ⟨_, rfl⟩
      replace h := h M66 e67
      obtain ⟨h68, h⟩ := h
      obtain ⟨h69, h⟩ := h
      obtain ⟨M70, e71⟩ : ∃ M70, M70 = mUI M66 (mR M66 a0 9) (Int.toNat (mI M66 a0 13)) l3 := ⟨_, rfl⟩
      replace h := h M70 e71
      obtain ⟨h72, h⟩ := h
      obtain ⟨M73, e74⟩ : ∃ M73, M73 = mUI M70 a0 13 ((mI M70 a0 13) + 1) := ⟨_, rfl⟩
      replace h := h M73 e74
      refine wm_aload_n d_Ga_follow_134 rfl rfl ?_
      refine gf_Ga_33 rfl d_Ga_follow_135 h39 ?_
      refine wm_aload_n d_Ga_follow_138 rfl rfl ?_
      refine gf_Ga_62 rfl d_Ga_follow_139 h39 ?_
      refine wm_iload d_Ga_follow_142 rfl ?_
      have hOM66 : mOk M66 := by rw [e67]; exact mOk_UI hO hi_l4
      refine wm_iastE d_Ga_follow_144 h64 h65 hi_l4 e67 ?_
      refine wm_aload_n d_Ga_follow_145 rfl rfl ?_
      refine gf_Ga_36 rfl d_Ga_follow_146 (by rw [e67]; exact h39) ?_
      refine wm_aload_n d_Ga_follow_149 rfl rfl ?_
      refine gf_Ga_62 rfl d_Ga_follow_150 (by rw [e67]; exact h39) ?_
      refine wm_iload_n d_Ga_follow_153 rfl rfl ?_
      have hOM70 : mOk M70 := by rw [e71]; exact mOk_UI hOM66 hi_l3
      refine wm_iastE d_Ga_follow_154 h68 h69 hi_l3 e71 ?_
      refine wm_aload_n d_Ga_follow_155 rfl rfl ?_
      refine wm_dup d_Ga_follow_156 rfl ?_
      refine gf_Ga_62 rfl d_Ga_follow_157 (by rw [e71, e67]; exact h39) ?_
      refine wm_iconst d_Ga_follow_160 ?_
      refine wm_iadd d_Ga_follow_161 ?_
      have hOM73 : mOk M73 := by rw [e74]; exact mOk_UI hOM70 h72
      refine pf_Ga_62 rfl d_Ga_follow_162 (by rw [e71, e67]; exact h39) h72 e74 ?_
      refine wm_iconst d_Ga_follow_165 ?_
      refine wm_ireturn d_Ga_follow_166 rfl rfl ?_
      exact ⟨_, rfl, h⟩
    · replace c57 := Classical.not_not.mp c57
      replace h := h.1 c57
      obtain ⟨h58, h⟩ := h
      obtain ⟨h59, h⟩ := h
      obtain ⟨h60, h⟩ := h
      refine wm_aload_n d_Ga_follow_119 rfl rfl ?_
      refine wm_iconst d_Ga_follow_120 ?_
      refine wm_aload_n d_Ga_follow_121 rfl rfl ?_
      refine gf_Ga_72 rfl d_Ga_follow_122 h39 ?_
      refine gf_Ga_145 rfl d_Ga_follow_125 h58 ?_
      refine wm_iload_n d_Ga_follow_128 rfl rfl ?_
      refine wm_iald d_Ga_follow_129 h59 h60 ?_
      refine cf_Ga_148 rfl d_Ga_follow_130 h39 (Nat.le_of_ble_eq_true rfl) (Ci.mono h (fun x62 M61 h => ?_))
      obtain ⟨h63, hOM61, h⟩ := h
      refine wm_ireturn d_Ga_follow_133 rfl rfl ?_
      exact ⟨_, rfl, h⟩
  · replace h := h.2 c55
    obtain ⟨h75, h⟩ := h
    obtain ⟨h76, h⟩ := h
    refine wm_aload_n d_Ga_follow_78 rfl rfl ?_
    refine gf_Ga_33 rfl d_Ga_follow_79 h39 ?_
    refine wm_iload d_Ga_follow_82 rfl ?_
    refine wm_iald d_Ga_follow_84 h75 h76 ?_
    refine wm_iload d_Ga_follow_85 rfl ?_
    refine wm_icmp_ne (tgt := 103) d_Ga_follow_87 rfl (hO _ _).1 hi_l4 (fun c82 => ?_) (fun c82 => ?_)
    · replace h := h.2 c82
      refine wm_iinc d_Ga_follow_103 (by decide) rfl (L' := [vr a0, vi l1, vd, vi l3, vi l4, vi (l5 + 1)]) rfl ?_
      refine wm_goto (tgt := 69) d_Ga_follow_106 rfl ?_
      exact h
    · replace c82 := Classical.not_not.mp c82
      replace h := h.1 c82
      obtain ⟨h83, h⟩ := h
      obtain ⟨h84, h⟩ := h
      obtain ⟨h85, h⟩ := h
      obtain ⟨h86, h⟩ := h
      obtain ⟨M87, e88⟩ : ∃ M87, M87 = mUI M (mR M a0 9) (Int.toNat l5) ((mI M (mR M a0 9) (Int.toNat l5)) + l3) := ⟨_, rfl⟩
      replace h := h M87 e88
      refine wm_aload_n d_Ga_follow_90 rfl rfl ?_
      refine gf_Ga_36 rfl d_Ga_follow_91 h39 ?_
      refine wm_iload d_Ga_follow_94 rfl ?_
      refine wm_dup2 d_Ga_follow_96 rfl rfl ?_
      refine wm_iald d_Ga_follow_97 h83 h84 ?_
      refine wm_iload_n d_Ga_follow_98 rfl rfl ?_
      refine wm_iadd d_Ga_follow_99 ?_
      have hOM87 : mOk M87 := by rw [e88]; exact mOk_UI hO h86
      refine wm_iastE d_Ga_follow_100 h83 h85 h86 e88 ?_
      refine wm_iconst d_Ga_follow_101 ?_
      refine wm_ireturn d_Ga_follow_102 rfl rfl ?_
      exact ⟨_, rfl, h⟩
theorem d_Ga_enter_0 : decode y_Ga_enter.2.1 0 = .ok (.iconst 0, 1) := by decide +kernel
theorem d_Ga_enter_1 : decode y_Ga_enter.2.1 1 = .ok (.istore_n 1, 1) := by decide +kernel
theorem d_Ga_enter_2 : decode y_Ga_enter.2.1 2 = .ok (.iconst 0, 1) := by decide +kernel
theorem d_Ga_enter_3 : decode y_Ga_enter.2.1 3 = .ok (.istore_n 2, 1) := by decide +kernel
theorem d_Ga_enter_4 : decode y_Ga_enter.2.1 4 = .ok (.iload_n 2, 1) := by decide +kernel
theorem d_Ga_enter_5 : decode y_Ga_enter.2.1 5 = .ok (.aload_n 0, 1) := by decide +kernel
theorem d_Ga_enter_6 : decode y_Ga_enter.2.1 6 = .ok (.getfield 72, 3) := by decide +kernel
theorem d_Ga_enter_9 : decode y_Ga_enter.2.1 9 = .ok (.getfield 91, 3) := by decide +kernel
theorem d_Ga_enter_12 : decode y_Ga_enter.2.1 12 = .ok (.if_icmp .ge 24, 3) := by decide +kernel
theorem d_Ga_enter_36 : decode y_Ga_enter.2.1 36 = .ok (.iload_n 1, 1) := by decide +kernel
theorem d_Ga_enter_37 : decode y_Ga_enter.2.1 37 = .ok (.iload_n 1, 1) := by decide +kernel
theorem d_Ga_enter_38 : decode y_Ga_enter.2.1 38 = .ok (.bipush 15, 2) := by decide +kernel
theorem d_Ga_enter_40 : decode y_Ga_enter.2.1 40 = .ok (.iushr, 1) := by decide +kernel
theorem d_Ga_enter_41 : decode y_Ga_enter.2.1 41 = .ok (.ixor, 1) := by decide +kernel
theorem d_Ga_enter_42 : decode y_Ga_enter.2.1 42 = .ok (.istore_n 1, 1) := by decide +kernel
theorem d_Ga_enter_43 : decode y_Ga_enter.2.1 43 = .ok (.iload_n 1, 1) := by decide +kernel
theorem d_Ga_enter_44 : decode y_Ga_enter.2.1 44 = .ok (.sipush 1023, 3) := by decide +kernel
theorem d_Ga_enter_47 : decode y_Ga_enter.2.1 47 = .ok (.iand, 1) := by decide +kernel
theorem d_Ga_enter_48 : decode y_Ga_enter.2.1 48 = .ok (.istore_n 2, 1) := by decide +kernel
theorem d_Ga_enter_49 : decode y_Ga_enter.2.1 49 = .ok (.iconst 0, 1) := by decide +kernel
theorem d_Ga_enter_50 : decode y_Ga_enter.2.1 50 = .ok (.istore_n 3, 1) := by decide +kernel
theorem d_Ga_enter_15 : decode y_Ga_enter.2.1 15 = .ok (.iload_n 1, 1) := by decide +kernel
theorem d_Ga_enter_16 : decode y_Ga_enter.2.1 16 = .ok (.bipush 31, 2) := by decide +kernel
theorem d_Ga_enter_18 : decode y_Ga_enter.2.1 18 = .ok (.imul, 1) := by decide +kernel
theorem d_Ga_enter_19 : decode y_Ga_enter.2.1 19 = .ok (.aload_n 0, 1) := by decide +kernel
theorem d_Ga_enter_20 : decode y_Ga_enter.2.1 20 = .ok (.getfield 42, 3) := by decide +kernel
theorem d_Ga_enter_23 : decode y_Ga_enter.2.1 23 = .ok (.getfield 83, 3) := by decide +kernel
theorem d_Ga_enter_26 : decode y_Ga_enter.2.1 26 = .ok (.iload_n 2, 1) := by decide +kernel
theorem d_Ga_enter_27 : decode y_Ga_enter.2.1 27 = .ok (.iaload, 1) := by decide +kernel
theorem d_Ga_enter_28 : decode y_Ga_enter.2.1 28 = .ok (.iadd, 1) := by decide +kernel
theorem d_Ga_enter_29 : decode y_Ga_enter.2.1 29 = .ok (.istore_n 1, 1) := by decide +kernel
theorem d_Ga_enter_30 : decode y_Ga_enter.2.1 30 = .ok (.iinc 2 1, 3) := by decide +kernel
theorem d_Ga_enter_33 : decode y_Ga_enter.2.1 33 = .ok (.goto (-29), 3) := by decide +kernel
theorem d_Ga_enter_51 : decode y_Ga_enter.2.1 51 = .ok (.iload_n 3, 1) := by decide +kernel
theorem d_Ga_enter_52 : decode y_Ga_enter.2.1 52 = .ok (.sipush 1024, 3) := by decide +kernel
theorem d_Ga_enter_55 : decode y_Ga_enter.2.1 55 = .ok (.if_icmp .ge 47, 3) := by decide +kernel
theorem d_Ga_enter_58 : decode y_Ga_enter.2.1 58 = .ok (.aload_n 0, 1) := by decide +kernel
theorem d_Ga_enter_59 : decode y_Ga_enter.2.1 59 = .ok (.getfield 46, 3) := by decide +kernel
theorem d_Ga_enter_62 : decode y_Ga_enter.2.1 62 = .ok (.iload_n 2, 1) := by decide +kernel
theorem d_Ga_enter_63 : decode y_Ga_enter.2.1 63 = .ok (.iaload, 1) := by decide +kernel
theorem d_Ga_enter_64 : decode y_Ga_enter.2.1 64 = .ok (.iconst (-1), 1) := by decide +kernel
theorem d_Ga_enter_65 : decode y_Ga_enter.2.1 65 = .ok (.if_icmp .eq 37, 3) := by decide +kernel
theorem d_Ga_enter_68 : decode y_Ga_enter.2.1 68 = .ok (.aload_n 0, 1) := by decide +kernel
theorem d_Ga_enter_69 : decode y_Ga_enter.2.1 69 = .ok (.aload_n 0, 1) := by decide +kernel
theorem d_Ga_enter_70 : decode y_Ga_enter.2.1 70 = .ok (.getfield 46, 3) := by decide +kernel
theorem d_Ga_enter_73 : decode y_Ga_enter.2.1 73 = .ok (.iload_n 2, 1) := by decide +kernel
theorem d_Ga_enter_74 : decode y_Ga_enter.2.1 74 = .ok (.iaload, 1) := by decide +kernel
theorem d_Ga_enter_102 : decode y_Ga_enter.2.1 102 = .ok (.aload_n 0, 1) := by decide +kernel
theorem d_Ga_enter_103 : decode y_Ga_enter.2.1 103 = .ok (.getfield 55, 3) := by decide +kernel
theorem d_Ga_enter_106 : decode y_Ga_enter.2.1 106 = .ok (.sipush 512, 3) := by decide +kernel
theorem d_Ga_enter_109 : decode y_Ga_enter.2.1 109 = .ok (.if_icmp .ne 5, 3) := by decide +kernel
theorem d_Ga_enter_112 : decode y_Ga_enter.2.1 112 = .ok (.iconst (-1), 1) := by decide +kernel
theorem d_Ga_enter_113 : decode y_Ga_enter.2.1 113 = .ok (.ireturn, 1) := by decide +kernel
theorem d_Ga_enter_114 : decode y_Ga_enter.2.1 114 = .ok (.aload_n 0, 1) := by decide +kernel
theorem d_Ga_enter_115 : decode y_Ga_enter.2.1 115 = .ok (.getfield 46, 3) := by decide +kernel
theorem d_Ga_enter_118 : decode y_Ga_enter.2.1 118 = .ok (.iload_n 2, 1) := by decide +kernel
theorem d_Ga_enter_119 : decode y_Ga_enter.2.1 119 = .ok (.aload_n 0, 1) := by decide +kernel
theorem d_Ga_enter_120 : decode y_Ga_enter.2.1 120 = .ok (.getfield 55, 3) := by decide +kernel
theorem d_Ga_enter_123 : decode y_Ga_enter.2.1 123 = .ok (.iastore, 1) := by decide +kernel
theorem d_Ga_enter_124 : decode y_Ga_enter.2.1 124 = .ok (.aload_n 0, 1) := by decide +kernel
theorem d_Ga_enter_125 : decode y_Ga_enter.2.1 125 = .ok (.getfield 42, 3) := by decide +kernel
theorem d_Ga_enter_128 : decode y_Ga_enter.2.1 128 = .ok (.getfield 83, 3) := by decide +kernel
theorem d_Ga_enter_131 : decode y_Ga_enter.2.1 131 = .ok (.iconst 0, 1) := by decide +kernel
theorem d_Ga_enter_132 : decode y_Ga_enter.2.1 132 = .ok (.aload_n 0, 1) := by decide +kernel
theorem d_Ga_enter_133 : decode y_Ga_enter.2.1 133 = .ok (.getfield 9, 3) := by decide +kernel
theorem d_Ga_enter_136 : decode y_Ga_enter.2.1 136 = .ok (.aload_n 0, 1) := by decide +kernel
theorem d_Ga_enter_137 : decode y_Ga_enter.2.1 137 = .ok (.getfield 55, 3) := by decide +kernel
theorem d_Ga_enter_140 : decode y_Ga_enter.2.1 140 = .ok (.bipush 12, 2) := by decide +kernel
theorem d_Ga_enter_142 : decode y_Ga_enter.2.1 142 = .ok (.imul, 1) := by decide +kernel
theorem d_Ga_enter_143 : decode y_Ga_enter.2.1 143 = .ok (.bipush 12, 2) := by decide +kernel
theorem d_Ga_enter_145 : decode y_Ga_enter.2.1 145 = .ok (.invokestatic 94, 3) := by decide +kernel
theorem d_Ga_enter_148 : decode y_Ga_enter.2.1 148 = .ok (.aload_n 0, 1) := by decide +kernel
theorem d_Ga_enter_149 : decode y_Ga_enter.2.1 149 = .ok (.dup, 1) := by decide +kernel
theorem d_Ga_enter_150 : decode y_Ga_enter.2.1 150 = .ok (.getfield 55, 3) := by decide +kernel
theorem d_Ga_enter_153 : decode y_Ga_enter.2.1 153 = .ok (.iconst 1, 1) := by decide +kernel
theorem d_Ga_enter_154 : decode y_Ga_enter.2.1 154 = .ok (.iadd, 1) := by decide +kernel
theorem d_Ga_enter_155 : decode y_Ga_enter.2.1 155 = .ok (.putfield 55, 3) := by decide +kernel
theorem d_Ga_enter_158 : decode y_Ga_enter.2.1 158 = .ok (.aload_n 0, 1) := by decide +kernel
theorem d_Ga_enter_159 : decode y_Ga_enter.2.1 159 = .ok (.getfield 55, 3) := by decide +kernel
theorem d_Ga_enter_162 : decode y_Ga_enter.2.1 162 = .ok (.iconst 1, 1) := by decide +kernel
theorem d_Ga_enter_163 : decode y_Ga_enter.2.1 163 = .ok (.isub, 1) := by decide +kernel
theorem d_Ga_enter_164 : decode y_Ga_enter.2.1 164 = .ok (.ireturn, 1) := by decide +kernel
theorem d_Ga_enter_75 : decode y_Ga_enter.2.1 75 = .ok (.invokevirtual 179, 3) := by decide +kernel
theorem d_Ga_enter_78 : decode y_Ga_enter.2.1 78 = .ok (.ifCond .eq 10, 3) := by decide +kernel
theorem d_Ga_enter_88 : decode y_Ga_enter.2.1 88 = .ok (.iload_n 2, 1) := by decide +kernel
theorem d_Ga_enter_89 : decode y_Ga_enter.2.1 89 = .ok (.iconst 1, 1) := by decide +kernel
theorem d_Ga_enter_90 : decode y_Ga_enter.2.1 90 = .ok (.iadd, 1) := by decide +kernel
theorem d_Ga_enter_91 : decode y_Ga_enter.2.1 91 = .ok (.sipush 1023, 3) := by decide +kernel
theorem d_Ga_enter_94 : decode y_Ga_enter.2.1 94 = .ok (.iand, 1) := by decide +kernel
theorem d_Ga_enter_95 : decode y_Ga_enter.2.1 95 = .ok (.istore_n 2, 1) := by decide +kernel
theorem d_Ga_enter_96 : decode y_Ga_enter.2.1 96 = .ok (.iinc 3 1, 3) := by decide +kernel
theorem d_Ga_enter_99 : decode y_Ga_enter.2.1 99 = .ok (.goto (-48), 3) := by decide +kernel
theorem d_Ga_enter_81 : decode y_Ga_enter.2.1 81 = .ok (.aload_n 0, 1) := by decide +kernel
theorem d_Ga_enter_82 : decode y_Ga_enter.2.1 82 = .ok (.getfield 46, 3) := by decide +kernel
theorem d_Ga_enter_85 : decode y_Ga_enter.2.1 85 = .ok (.iload_n 2, 1) := by decide +kernel
theorem d_Ga_enter_86 : decode y_Ga_enter.2.1 86 = .ok (.iaload, 1) := by decide +kernel
theorem d_Ga_enter_87 : decode y_Ga_enter.2.1 87 = .ok (.ireturn, 1) := by decide +kernel
def h_Ga_enter_4 (G : mG) (d : Nat) (a0 : Nat) (l1 : Int) (l2 : Int) (M : mM) (Q : Int → mM → Prop) : Prop := mWm G y_Ga_enter (d + 1) 4 [vr a0, vi l1, vi l2, vd] [] M (fun r9 M9 => ∃ x9, r9 = some (vi x9) ∧ Q x9 M9)
def h_Ga_enter_51 (G : mG) (d : Nat) (a0 : Nat) (l2 : Int) (l3 : Int) (M : mM) (Q : Int → mM → Prop) : Prop := mWm G y_Ga_enter (d + 1) 51 [vr a0, vd, vi l2, vi l3] [] M (fun r9 M9 => ∃ x9, r9 = some (vi x9) ∧ Q x9 M9)
theorem k_Ga_enter {G : mG} {d : Nat} {a0 : Nat} {M : mM} {Q : Int → mM → Prop} (hO : mOk M)
    (h : h_Ga_enter_4 G d a0 0 0 M Q) :
    Ci G y_Ga_enter (d + 1) [vr a0] M Q := by
  refine wm_open (y := y_Ga_enter) rfl (Nat.le_of_ble_eq_true rfl) (L := [vr a0, vd, vd, vd]) rfl ?_
  refine wm_iconst d_Ga_enter_0 ?_
  refine wm_istore_n d_Ga_enter_1 rfl (by decide) (L' := [vr a0, vi 0, vd, vd]) rfl ?_
  refine wm_iconst d_Ga_enter_2 ?_
  refine wm_istore_n d_Ga_enter_3 rfl (by decide) (L' := [vr a0, vi 0, vi 0, vd]) rfl ?_
  exact h
theorem k_Ga_enter_4 {G : mG} {d : Nat} {a0 : Nat} {l1 : Int} {l2 : Int} {M : mM} {Q : Int → mM → Prop} (hO : mOk M) (hi_l1 : i32 l1) (hi_l2 : i32 l2)
    (h : mK M a0 = 7 ∧ mK M (mR M a0 14) = 6 ∧ ((mI M (mR M a0 14) 3 ≤ l2) → (h_Ga_enter_51 G d a0 (andI (xorI l1 (ushrI l1 15)) 1023) 0 M Q)) ∧ (¬ (mI M (mR M a0 14) 3 ≤ l2) → (mK M (mR M a0 15) = 5 ∧ mK M (mR M (mR M a0 15) 5) = 30 ∧ ((0 : Int) ≤ l2 ∧ l2 < (mN M (mR M (mR M a0 15) 5) : Int)) ∧ h_Ga_enter_4 G d a0 ((l1 * 31) + (mI M (mR M (mR M a0 15) 5) (Int.toNat l2))) (l2 + 1) M Q))) :
    h_Ga_enter_4 G d a0 l1 l2 M Q := by
  unfold h_Ga_enter_4
  obtain ⟨h1, h⟩ := h
  obtain ⟨h2, h⟩ := h
  refine wm_iload_n d_Ga_enter_4 rfl rfl ?_
  refine wm_aload_n d_Ga_enter_5 rfl rfl ?_
  refine gf_Ga_72 rfl d_Ga_enter_6 h1 ?_
  refine gf_Ga_91 rfl d_Ga_enter_9 h2 ?_
  refine wm_icmp_ge (tgt := 36) d_Ga_enter_12 rfl hi_l2 (hO _ _).1 (fun c7 => ?_) (fun c7 => ?_)
  · replace h := h.1 c7
    refine wm_iload_n d_Ga_enter_36 rfl rfl ?_
    refine wm_iload_n d_Ga_enter_37 rfl rfl ?_
    refine wm_bipush d_Ga_enter_38 (by decide) ?_
    refine wm_iushr d_Ga_enter_40 ?_
    refine wm_ixor d_Ga_enter_41 ?_
    refine wm_istore_n d_Ga_enter_42 rfl (by decide) (L' := [vr a0, vi (xorI l1 (ushrI l1 15)), vi l2, vd]) rfl ?_
    refine wm_iload_n d_Ga_enter_43 rfl rfl ?_
    refine wm_sipush d_Ga_enter_44 (by decide) ?_
    refine wm_iand d_Ga_enter_47 ?_
    refine wm_istore_n d_Ga_enter_48 rfl (by decide) (L' := [vr a0, vi (xorI l1 (ushrI l1 15)), vi (andI (xorI l1 (ushrI l1 15)) 1023), vd]) rfl ?_
    refine wm_iconst d_Ga_enter_49 ?_
    refine wm_istore_n d_Ga_enter_50 rfl (by decide) (L' := [vr a0, vi (xorI l1 (ushrI l1 15)), vi (andI (xorI l1 (ushrI l1 15)) 1023), vi 0]) rfl ?_
    refine wm_less (L' := [vr a0, vd, vi (andI (xorI l1 (ushrI l1 15)) 1023), vi 0]) ⟨Or.inr rfl, Or.inl rfl, Or.inr rfl, Or.inr rfl, trivial⟩ ?_
    exact h
  · replace h := h.2 c7
    obtain ⟨h8, h⟩ := h
    obtain ⟨h9, h⟩ := h
    obtain ⟨h10, h⟩ := h
    refine wm_iload_n d_Ga_enter_15 rfl rfl ?_
    refine wm_bipush d_Ga_enter_16 (by decide) ?_
    refine wm_imul d_Ga_enter_18 ?_
    refine wm_aload_n d_Ga_enter_19 rfl rfl ?_
    refine gf_Ga_42 rfl d_Ga_enter_20 h1 ?_
    refine gf_Ga_83 rfl d_Ga_enter_23 h8 ?_
    refine wm_iload_n d_Ga_enter_26 rfl rfl ?_
    refine wm_iald d_Ga_enter_27 h9 h10 ?_
    refine wm_iadd d_Ga_enter_28 ?_
    refine wm_istore_n d_Ga_enter_29 rfl (by decide) (L' := [vr a0, vi ((l1 * 31) + (mI M (mR M (mR M a0 15) 5) (Int.toNat l2))), vi l2, vd]) rfl ?_
    refine wm_iinc d_Ga_enter_30 (by decide) rfl (L' := [vr a0, vi ((l1 * 31) + (mI M (mR M (mR M a0 15) 5) (Int.toNat l2))), vi (l2 + 1), vd]) rfl ?_
    refine wm_goto (tgt := 4) d_Ga_enter_33 rfl ?_
    exact h
theorem k_Ga_enter_51 {G : mG} {d : Nat} {a0 : Nat} {l2 : Int} {l3 : Int} {M : mM} {Q : Int → mM → Prop} (hO : mOk M) (hi_l2 : i32 l2) (hi_l3 : i32 l3)
    (h : (¬ (1024 ≤ l3) → (mK M a0 = 7 ∧ mK M (mR M a0 16) = 30 ∧ ((0 : Int) ≤ l2 ∧ l2 < (mN M (mR M a0 16) : Int)))) ∧ (((1024 ≤ l3) ∨ (mI M (mR M a0 16) (Int.toNat l2) = (-1))) → (mK M a0 = 7 ∧ ((mI M a0 0 = 512) → (Q (-1) M)) ∧ (¬ (mI M a0 0 = 512) → (mK M (mR M a0 16) = 30 ∧ ((0 : Int) ≤ l2 ∧ l2 < (mN M (mR M a0 16) : Int)) ∧ ∀ M23, M23 = mUI M (mR M a0 16) (Int.toNat l2) (mI M a0 0) → mK M23 (mR M23 a0 15) = 5 ∧ mK M23 (mR M23 (mR M23 a0 15) 5) = 30 ∧ mK M23 (mR M23 a0 1) = 30 ∧ ((0 : Int) ≤ 0 ∧ (0 : Int) ≤ (mI M23 a0 0) * 12 ∧ (0 : Int) ≤ 12 ∧ 0 + 12 ≤ (mN M23 (mR M23 (mR M23 a0 15) 5) : Int) ∧ ((mI M23 a0 0) * 12) + 12 ≤ (mN M23 (mR M23 a0 1) : Int)) ∧ ∀ M29, M29 = mCpy M23 (mR M23 (mR M23 a0 15) 5) (mR M23 a0 1) 0 (Int.toNat ((mI M23 a0 0) * 12)) 12 → i32 ((mI M29 a0 0) + 1) ∧ ∀ M32, M32 = mUI M29 a0 0 ((mI M29 a0 0) + 1) → Q ((mI M32 a0 0) - 1) M32)))) ∧ (¬ ((1024 ≤ l3) ∨ (mI M (mR M a0 16) (Int.toNat l2) = (-1))) → (mK M a0 = 7 ∧ mK M (mR M a0 16) = 30 ∧ ((0 : Int) ≤ l2 ∧ l2 < (mN M (mR M a0 16) : Int)) ∧ Ci G y_Ga_isNext d [vr a0, vi (mI M (mR M a0 16) (Int.toNat l2))] M (fun x39 M38 => i32 x39 ∧ mOk M38 ∧ (((x39 = 0) → (h_Ga_enter_51 G d a0 (andI (l2 + 1) 1023) (l3 + 1) M38 Q)) ∧ (¬ (x39 = 0) → (mK M38 a0 = 7 ∧ mK M38 (mR M38 a0 16) = 30 ∧ ((0 : Int) ≤ l2 ∧ l2 < (mN M38 (mR M38 a0 16) : Int)) ∧ Q (mI M38 (mR M38 a0 16) (Int.toNat l2)) M38))))))) :
    h_Ga_enter_51 G d a0 l2 l3 M Q := by
  unfold h_Ga_enter_51
  refine wm_iload_n d_Ga_enter_51 rfl rfl ?_
  refine wm_sipush d_Ga_enter_52 (by decide) ?_
  obtain ⟨s16, h⟩ := h
  have hE0 : ((1024 ≤ l3) ∨ (mI M (mR M a0 16) (Int.toNat l2) = (-1))) → mWm G y_Ga_enter (d + 1) 102 [vr a0, vd, vi l2, vi l3] [] M (fun r9 M9 => ∃ x9, r9 = some (vi x9) ∧ Q x9 M9) := by
    intro q17
    have h := h.1 q17
    obtain ⟨h18, h⟩ := h
    refine wm_aload_n d_Ga_enter_102 rfl rfl ?_
    refine gf_Ga_55 rfl d_Ga_enter_103 h18 ?_
    refine wm_sipush d_Ga_enter_106 (by decide) ?_
    refine wm_icmp_ne (tgt := 114) d_Ga_enter_109 rfl (hO _ _).1 ⟨by decide, by decide⟩ (fun c20 => ?_) (fun c20 => ?_)
    · replace h := h.2 c20
      obtain ⟨h21, h⟩ := h
      obtain ⟨h22, h⟩ := h
      obtain ⟨M23, e24⟩ : ∃ M23, M23 = mUI M (mR M a0 16) (Int.toNat l2) (mI M a0 0) := ⟨_, rfl⟩
      replace h := h M23 e24
      obtain ⟨h25, h⟩ := h
      obtain ⟨h26, h⟩ := h
      obtain ⟨h27, h⟩ := h
      obtain ⟨h28, h⟩ := h
      obtain ⟨M29, e30⟩ : ∃ M29, M29 = mCpy M23 (mR M23 (mR M23 a0 15) 5) (mR M23 a0 1) 0 (Int.toNat ((mI M23 a0 0) * 12)) 12 := ⟨_, rfl⟩
      replace h := h M29 e30
      obtain ⟨h31, h⟩ := h
      obtain ⟨M32, e33⟩ : ∃ M32, M32 = mUI M29 a0 0 ((mI M29 a0 0) + 1) := ⟨_, rfl⟩
      replace h := h M32 e33
      refine wm_aload_n d_Ga_enter_114 rfl rfl ?_
      refine gf_Ga_46 rfl d_Ga_enter_115 h18 ?_
      refine wm_iload_n d_Ga_enter_118 rfl rfl ?_
      refine wm_aload_n d_Ga_enter_119 rfl rfl ?_
      refine gf_Ga_55 rfl d_Ga_enter_120 h18 ?_
      have hOM23 : mOk M23 := by rw [e24]; exact mOk_UI hO (hO _ _).1
      refine wm_iastE d_Ga_enter_123 h21 h22 (hO _ _).1 e24 ?_
      refine wm_aload_n d_Ga_enter_124 rfl rfl ?_
      refine gf_Ga_42 rfl d_Ga_enter_125 (by rw [e24]; exact h18) ?_
      refine gf_Ga_83 rfl d_Ga_enter_128 h25 ?_
      refine wm_iconst d_Ga_enter_131 ?_
      refine wm_aload_n d_Ga_enter_132 rfl rfl ?_
      refine gf_Ga_9 rfl d_Ga_enter_133 (by rw [e24]; exact h18) ?_
      refine wm_aload_n d_Ga_enter_136 rfl rfl ?_
      refine gf_Ga_55 rfl d_Ga_enter_137 (by rw [e24]; exact h18) ?_
      refine wm_bipush d_Ga_enter_140 (by decide) ?_
      refine wm_imul d_Ga_enter_142 ?_
      refine wm_bipush d_Ga_enter_143 (by decide) ?_
      have hOM29 : mOk M29 := by rw [e30]; exact mOk_Cpy hOM23
      refine wm_copyi k7_234 (Nat.le_of_ble_eq_true rfl) h26 h27 h28 d_Ga_enter_145 e30 ?_
      refine wm_aload_n d_Ga_enter_148 rfl rfl ?_
      refine wm_dup d_Ga_enter_149 rfl ?_
      refine gf_Ga_55 rfl d_Ga_enter_150 (by rw [e30, e24]; exact h18) ?_
      refine wm_iconst d_Ga_enter_153 ?_
      refine wm_iadd d_Ga_enter_154 ?_
      have hOM32 : mOk M32 := by rw [e33]; exact mOk_UI hOM29 h31
      refine pf_Ga_55 rfl d_Ga_enter_155 (by rw [e30, e24]; exact h18) h31 e33 ?_
      refine wm_aload_n d_Ga_enter_158 rfl rfl ?_
      refine gf_Ga_55 rfl d_Ga_enter_159 (by rw [e33, e30, e24]; exact h18) ?_
      refine wm_iconst d_Ga_enter_162 ?_
      refine wm_isub d_Ga_enter_163 ?_
      refine wm_ireturn d_Ga_enter_164 rfl rfl ?_
      exact ⟨_, rfl, h⟩
    · replace c20 := Classical.not_not.mp c20
      replace h := h.1 c20
      refine wm_iconst d_Ga_enter_112 ?_
      refine wm_ireturn d_Ga_enter_113 rfl rfl ?_
      exact ⟨_, rfl, h⟩
  have hE1 : ¬ ((1024 ≤ l3) ∨ (mI M (mR M a0 16) (Int.toNat l2) = (-1))) → mWm G y_Ga_enter (d + 1) 68 [vr a0, vd, vi l2, vi l3] [] M (fun r9 M9 => ∃ x9, r9 = some (vi x9) ∧ Q x9 M9) := by
    intro q34
    have h := h.2 q34
    obtain ⟨h35, h⟩ := h
    obtain ⟨h36, h⟩ := h
    obtain ⟨h37, h⟩ := h
    refine wm_aload_n d_Ga_enter_68 rfl rfl ?_
    refine wm_aload_n d_Ga_enter_69 rfl rfl ?_
    refine gf_Ga_46 rfl d_Ga_enter_70 h35 ?_
    refine wm_iload_n d_Ga_enter_73 rfl rfl ?_
    refine wm_iald d_Ga_enter_74 h36 h37 ?_
    refine cf_Ga_179 rfl d_Ga_enter_75 h35 (Nat.le_of_ble_eq_true rfl) (Ci.mono h (fun x39 M38 h => ?_))
    obtain ⟨h40, hOM38, h⟩ := h
    refine wm_if_eq (tgt := 88) d_Ga_enter_78 rfl h40 (fun c45 => ?_) (fun c45 => ?_)
    · replace h := h.1 c45
      refine wm_iload_n d_Ga_enter_88 rfl rfl ?_
      refine wm_iconst d_Ga_enter_89 ?_
      refine wm_iadd d_Ga_enter_90 ?_
      refine wm_sipush d_Ga_enter_91 (by decide) ?_
      refine wm_iand d_Ga_enter_94 ?_
      refine wm_istore_n d_Ga_enter_95 rfl (by decide) (L' := [vr a0, vd, vi (andI (l2 + 1) 1023), vi l3]) rfl ?_
      refine wm_iinc d_Ga_enter_96 (by decide) rfl (L' := [vr a0, vd, vi (andI (l2 + 1) 1023), vi (l3 + 1)]) rfl ?_
      refine wm_goto (tgt := 51) d_Ga_enter_99 rfl ?_
      exact h
    · replace h := h.2 c45
      obtain ⟨h46, h⟩ := h
      obtain ⟨h47, h⟩ := h
      obtain ⟨h48, h⟩ := h
      refine wm_aload_n d_Ga_enter_81 rfl rfl ?_
      refine gf_Ga_46 rfl d_Ga_enter_82 h46 ?_
      refine wm_iload_n d_Ga_enter_85 rfl rfl ?_
      refine wm_iald d_Ga_enter_86 h47 h48 ?_
      refine wm_ireturn d_Ga_enter_87 rfl rfl ?_
      exact ⟨_, rfl, h⟩
  clear h
  have s49 := s16
  refine wm_icmp_ge (tgt := 102) d_Ga_enter_55 rfl hi_l3 ⟨by decide, by decide⟩ (fun c15 => ?_) (fun c15 => ?_)
  · exact hE0 (Or.inl c15)
  · have s49 := s49 c15
    obtain ⟨h11, h12, h13⟩ := s49
    refine wm_aload_n d_Ga_enter_58 rfl rfl ?_
    refine gf_Ga_46 rfl d_Ga_enter_59 h11 ?_
    refine wm_iload_n d_Ga_enter_62 rfl rfl ?_
    refine wm_iald d_Ga_enter_63 h12 h13 ?_
    refine wm_iconst d_Ga_enter_64 ?_
    refine wm_icmp_eq (tgt := 102) d_Ga_enter_65 rfl (hO _ _).1 ⟨by decide, by decide⟩ (fun c14 => ?_) (fun c14 => ?_)
    · exact hE0 (Or.inr c14)
    · exact hE1 (fun z50 => Or.elim z50 c15 c14)
theorem d_Ga_isNext_0 : decode y_Ga_isNext.2.1 0 = .ok (.iconst 0, 1) := by decide +kernel
theorem d_Ga_isNext_1 : decode y_Ga_isNext.2.1 1 = .ok (.istore_n 2, 1) := by decide +kernel
theorem d_Ga_isNext_2 : decode y_Ga_isNext.2.1 2 = .ok (.iload_n 2, 1) := by decide +kernel
theorem d_Ga_isNext_3 : decode y_Ga_isNext.2.1 3 = .ok (.aload_n 0, 1) := by decide +kernel
theorem d_Ga_isNext_4 : decode y_Ga_isNext.2.1 4 = .ok (.getfield 72, 3) := by decide +kernel
theorem d_Ga_isNext_7 : decode y_Ga_isNext.2.1 7 = .ok (.getfield 91, 3) := by decide +kernel
theorem d_Ga_isNext_10 : decode y_Ga_isNext.2.1 10 = .ok (.if_icmp .ge 34, 3) := by decide +kernel
theorem d_Ga_isNext_44 : decode y_Ga_isNext.2.1 44 = .ok (.iconst 1, 1) := by decide +kernel
theorem d_Ga_isNext_45 : decode y_Ga_isNext.2.1 45 = .ok (.ireturn, 1) := by decide +kernel
theorem d_Ga_isNext_13 : decode y_Ga_isNext.2.1 13 = .ok (.aload_n 0, 1) := by decide +kernel
theorem d_Ga_isNext_14 : decode y_Ga_isNext.2.1 14 = .ok (.getfield 9, 3) := by decide +kernel
theorem d_Ga_isNext_17 : decode y_Ga_isNext.2.1 17 = .ok (.iload_n 1, 1) := by decide +kernel
theorem d_Ga_isNext_18 : decode y_Ga_isNext.2.1 18 = .ok (.bipush 12, 2) := by decide +kernel
theorem d_Ga_isNext_20 : decode y_Ga_isNext.2.1 20 = .ok (.imul, 1) := by decide +kernel
theorem d_Ga_isNext_21 : decode y_Ga_isNext.2.1 21 = .ok (.iload_n 2, 1) := by decide +kernel
theorem d_Ga_isNext_22 : decode y_Ga_isNext.2.1 22 = .ok (.iadd, 1) := by decide +kernel
theorem d_Ga_isNext_23 : decode y_Ga_isNext.2.1 23 = .ok (.iaload, 1) := by decide +kernel
theorem d_Ga_isNext_24 : decode y_Ga_isNext.2.1 24 = .ok (.aload_n 0, 1) := by decide +kernel
theorem d_Ga_isNext_25 : decode y_Ga_isNext.2.1 25 = .ok (.getfield 42, 3) := by decide +kernel
theorem d_Ga_isNext_28 : decode y_Ga_isNext.2.1 28 = .ok (.getfield 83, 3) := by decide +kernel
theorem d_Ga_isNext_31 : decode y_Ga_isNext.2.1 31 = .ok (.iload_n 2, 1) := by decide +kernel
theorem d_Ga_isNext_32 : decode y_Ga_isNext.2.1 32 = .ok (.iaload, 1) := by decide +kernel
theorem d_Ga_isNext_33 : decode y_Ga_isNext.2.1 33 = .ok (.if_icmp .eq 5, 3) := by decide +kernel
theorem d_Ga_isNext_38 : decode y_Ga_isNext.2.1 38 = .ok (.iinc 2 1, 3) := by decide +kernel
theorem d_Ga_isNext_41 : decode y_Ga_isNext.2.1 41 = .ok (.goto (-39), 3) := by decide +kernel
theorem d_Ga_isNext_36 : decode y_Ga_isNext.2.1 36 = .ok (.iconst 0, 1) := by decide +kernel
theorem d_Ga_isNext_37 : decode y_Ga_isNext.2.1 37 = .ok (.ireturn, 1) := by decide +kernel
def h_Ga_isNext_2 (G : mG) (d : Nat) (a0 : Nat) (l1 : Int) (l2 : Int) (M : mM) (Q : Int → mM → Prop) : Prop := mWm G y_Ga_isNext d 2 [vr a0, vi l1, vi l2] [] M (fun r9 M9 => ∃ x9, r9 = some (vi x9) ∧ Q x9 M9)
theorem k_Ga_isNext {G : mG} {d : Nat} {a0 : Nat} {l1 : Int} {M : mM} {Q : Int → mM → Prop} (hO : mOk M) (hi_l1 : i32 l1)
    (h : h_Ga_isNext_2 G d a0 l1 0 M Q) :
    Ci G y_Ga_isNext d [vr a0, vi l1] M Q := by
  refine wm_open (y := y_Ga_isNext) rfl (Nat.le_of_ble_eq_true rfl) (L := [vr a0, vi l1, vd]) rfl ?_
  refine wm_iconst d_Ga_isNext_0 ?_
  refine wm_istore_n d_Ga_isNext_1 rfl (by decide) (L' := [vr a0, vi l1, vi 0]) rfl ?_
  exact h
theorem k_Ga_isNext_2 {G : mG} {d : Nat} {a0 : Nat} {l1 : Int} {l2 : Int} {M : mM} {Q : Int → mM → Prop} (hO : mOk M) (hi_l1 : i32 l1) (hi_l2 : i32 l2)
    (h : mK M a0 = 7 ∧ mK M (mR M a0 14) = 6 ∧ ((mI M (mR M a0 14) 3 ≤ l2) → (Q 1 M)) ∧ (¬ (mI M (mR M a0 14) 3 ≤ l2) → (mK M (mR M a0 1) = 30 ∧ ((0 : Int) ≤ (l1 * 12) + l2 ∧ (l1 * 12) + l2 < (mN M (mR M a0 1) : Int)) ∧ mK M (mR M a0 15) = 5 ∧ mK M (mR M (mR M a0 15) 5) = 30 ∧ ((0 : Int) ≤ l2 ∧ l2 < (mN M (mR M (mR M a0 15) 5) : Int)) ∧ ((mI M (mR M a0 1) (Int.toNat ((l1 * 12) + l2)) = mI M (mR M (mR M a0 15) 5) (Int.toNat l2)) → (h_Ga_isNext_2 G d a0 l1 (l2 + 1) M Q)) ∧ (¬ (mI M (mR M a0 1) (Int.toNat ((l1 * 12) + l2)) = mI M (mR M (mR M a0 15) 5) (Int.toNat l2)) → (Q 0 M))))) :
    h_Ga_isNext_2 G d a0 l1 l2 M Q := by
  unfold h_Ga_isNext_2
  obtain ⟨h1, h⟩ := h
  obtain ⟨h2, h⟩ := h
  refine wm_iload_n d_Ga_isNext_2 rfl rfl ?_
  refine wm_aload_n d_Ga_isNext_3 rfl rfl ?_
  refine gf_Ga_72 rfl d_Ga_isNext_4 h1 ?_
  refine gf_Ga_91 rfl d_Ga_isNext_7 h2 ?_
  refine wm_icmp_ge (tgt := 44) d_Ga_isNext_10 rfl hi_l2 (hO _ _).1 (fun c10 => ?_) (fun c10 => ?_)
  · replace h := h.1 c10
    refine wm_iconst d_Ga_isNext_44 ?_
    refine wm_ireturn d_Ga_isNext_45 rfl (m_nb (by decide)) ?_
    exact ⟨_, rfl, h⟩
  · replace h := h.2 c10
    obtain ⟨h11, h⟩ := h
    obtain ⟨h12, h⟩ := h
    obtain ⟨h13, h⟩ := h
    obtain ⟨h14, h⟩ := h
    obtain ⟨h15, h⟩ := h
    refine wm_aload_n d_Ga_isNext_13 rfl rfl ?_
    refine gf_Ga_9 rfl d_Ga_isNext_14 h1 ?_
    refine wm_iload_n d_Ga_isNext_17 rfl rfl ?_
    refine wm_bipush d_Ga_isNext_18 (by decide) ?_
    refine wm_imul d_Ga_isNext_20 ?_
    refine wm_iload_n d_Ga_isNext_21 rfl rfl ?_
    refine wm_iadd d_Ga_isNext_22 ?_
    refine wm_iald d_Ga_isNext_23 h11 h12 ?_
    refine wm_aload_n d_Ga_isNext_24 rfl rfl ?_
    refine gf_Ga_42 rfl d_Ga_isNext_25 h1 ?_
    refine gf_Ga_83 rfl d_Ga_isNext_28 h13 ?_
    refine wm_iload_n d_Ga_isNext_31 rfl rfl ?_
    refine wm_iald d_Ga_isNext_32 h14 h15 ?_
    refine wm_icmp_eq (tgt := 38) d_Ga_isNext_33 rfl (hO _ _).1 (hO _ _).1 (fun c17 => ?_) (fun c17 => ?_)
    · replace h := h.1 c17
      refine wm_iinc d_Ga_isNext_38 (by decide) rfl (L' := [vr a0, vi l1, vi (l2 + 1)]) rfl ?_
      refine wm_goto (tgt := 2) d_Ga_isNext_41 rfl ?_
      exact h
    · replace h := h.2 c17
      refine wm_iconst d_Ga_isNext_36 ?_
      refine wm_ireturn d_Ga_isNext_37 rfl (m_nb (by decide)) ?_
      exact ⟨_, rfl, h⟩
theorem d_Ma_init_0 : decode y_Ma_init.2.1 0 = .ok (.aload_n 0, 1) := by decide +kernel
theorem d_Ma_init_1 : decode y_Ma_init.2.1 1 = .ok (.invokespecial 3, 3) := by decide +kernel
theorem d_Ma_init_4 : decode y_Ma_init.2.1 4 = .ok (.aload_n 0, 1) := by decide +kernel
theorem d_Ma_init_5 : decode y_Ma_init.2.1 5 = .ok (.bipush 12, 2) := by decide +kernel
theorem d_Ma_init_7 : decode y_Ma_init.2.1 7 = .ok (.newarray .int, 2) := by decide +kernel
theorem d_Ma_init_9 : decode y_Ma_init.2.1 9 = .ok (.putfield 9, 3) := by decide +kernel
theorem d_Ma_init_12 : decode y_Ma_init.2.1 12 = .ok (.aload_n 0, 1) := by decide +kernel
theorem d_Ma_init_13 : decode y_Ma_init.2.1 13 = .ok (.bipush 12, 2) := by decide +kernel
theorem d_Ma_init_15 : decode y_Ma_init.2.1 15 = .ok (.newarray .int, 2) := by decide +kernel
theorem d_Ma_init_17 : decode y_Ma_init.2.1 17 = .ok (.putfield 15, 3) := by decide +kernel
theorem d_Ma_init_20 : decode y_Ma_init.2.1 20 = .ok (.aload_n 0, 1) := by decide +kernel
theorem d_Ma_init_21 : decode y_Ma_init.2.1 21 = .ok (.bipush 64, 2) := by decide +kernel
theorem d_Ma_init_23 : decode y_Ma_init.2.1 23 = .ok (.newarray .int, 2) := by decide +kernel
theorem d_Ma_init_25 : decode y_Ma_init.2.1 25 = .ok (.putfield 18, 3) := by decide +kernel
theorem d_Ma_init_28 : decode y_Ma_init.2.1 28 = .ok (.aload_n 0, 1) := by decide +kernel
theorem d_Ma_init_29 : decode y_Ma_init.2.1 29 = .ok (.bipush 64, 2) := by decide +kernel
theorem d_Ma_init_31 : decode y_Ma_init.2.1 31 = .ok (.newarray .int, 2) := by decide +kernel
theorem d_Ma_init_33 : decode y_Ma_init.2.1 33 = .ok (.putfield 21, 3) := by decide +kernel
theorem d_Ma_init_36 : decode y_Ma_init.2.1 36 = .ok (.aload_n 0, 1) := by decide +kernel
theorem d_Ma_init_37 : decode y_Ma_init.2.1 37 = .ok (.iconst 0, 1) := by decide +kernel
theorem d_Ma_init_38 : decode y_Ma_init.2.1 38 = .ok (.putfield 24, 3) := by decide +kernel
theorem d_Ma_init_41 : decode y_Ma_init.2.1 41 = .ok (.aload_n 0, 1) := by decide +kernel
theorem d_Ma_init_42 : decode y_Ma_init.2.1 42 = .ok (.bipush 60, 2) := by decide +kernel
theorem d_Ma_init_44 : decode y_Ma_init.2.1 44 = .ok (.newarray .int, 2) := by decide +kernel
theorem d_Ma_init_46 : decode y_Ma_init.2.1 46 = .ok (.putfield 28, 3) := by decide +kernel
theorem d_Ma_init_49 : decode y_Ma_init.2.1 49 = .ok (.aload_n 0, 1) := by decide +kernel
theorem d_Ma_init_50 : decode y_Ma_init.2.1 50 = .ok (.bipush 60, 2) := by decide +kernel
theorem d_Ma_init_52 : decode y_Ma_init.2.1 52 = .ok (.newarray .int, 2) := by decide +kernel
theorem d_Ma_init_54 : decode y_Ma_init.2.1 54 = .ok (.putfield 31, 3) := by decide +kernel
theorem d_Ma_init_57 : decode y_Ma_init.2.1 57 = .ok (.aload_n 0, 1) := by decide +kernel
theorem d_Ma_init_58 : decode y_Ma_init.2.1 58 = .ok (.bipush 60, 2) := by decide +kernel
theorem d_Ma_init_60 : decode y_Ma_init.2.1 60 = .ok (.newarray .int, 2) := by decide +kernel
theorem d_Ma_init_62 : decode y_Ma_init.2.1 62 = .ok (.putfield 34, 3) := by decide +kernel
theorem d_Ma_init_65 : decode y_Ma_init.2.1 65 = .ok (.aload_n 0, 1) := by decide +kernel
theorem d_Ma_init_66 : decode y_Ma_init.2.1 66 = .ok (.bipush 61, 2) := by decide +kernel
theorem d_Ma_init_68 : decode y_Ma_init.2.1 68 = .ok (.newarray .int, 2) := by decide +kernel
theorem d_Ma_init_70 : decode y_Ma_init.2.1 70 = .ok (.putfield 37, 3) := by decide +kernel
theorem d_Ma_init_73 : decode y_Ma_init.2.1 73 = .ok (.aload_n 0, 1) := by decide +kernel
theorem d_Ma_init_74 : decode y_Ma_init.2.1 74 = .ok (.bipush 61, 2) := by decide +kernel
theorem d_Ma_init_76 : decode y_Ma_init.2.1 76 = .ok (.newarray .int, 2) := by decide +kernel
theorem d_Ma_init_78 : decode y_Ma_init.2.1 78 = .ok (.putfield 40, 3) := by decide +kernel
theorem d_Ma_init_81 : decode y_Ma_init.2.1 81 = .ok (.return_, 1) := by decide +kernel
theorem k_Ma_init {G : mG} {d : Nat} {a0 : Nat} {M : mM} {Q : mM → Prop} (hO : mOk M)
    (h : 0 < a0 ∧ ∀ M2, M2 = mNew M 30 12 12 → mK M2 a0 = 5 ∧ ∀ M5, M5 = mUR M2 a0 3 (mZ M) → ∀ M7, M7 = mNew M5 30 12 12 → mK M7 a0 = 5 ∧ ∀ M10, M10 = mUR M7 a0 5 (mZ M5) → ∀ M12, M12 = mNew M10 30 64 64 → mK M12 a0 = 5 ∧ ∀ M15, M15 = mUR M12 a0 6 (mZ M10) → ∀ M17, M17 = mNew M15 30 64 64 → mK M17 a0 = 5 ∧ ∀ M20, M20 = mUR M17 a0 7 (mZ M15) → ∀ M22, M22 = mUI M20 a0 9 0 → ∀ M24, M24 = mNew M22 30 60 60 → mK M24 a0 = 5 ∧ ∀ M27, M27 = mUR M24 a0 10 (mZ M22) → ∀ M29, M29 = mNew M27 30 60 60 → mK M29 a0 = 5 ∧ ∀ M32, M32 = mUR M29 a0 11 (mZ M27) → ∀ M34, M34 = mNew M32 30 60 60 → mK M34 a0 = 5 ∧ ∀ M37, M37 = mUR M34 a0 12 (mZ M32) → ∀ M39, M39 = mNew M37 30 61 61 → mK M39 a0 = 5 ∧ ∀ M42, M42 = mUR M39 a0 13 (mZ M37) → ∀ M44, M44 = mNew M42 30 61 61 → mK M44 a0 = 5 ∧ ∀ M47, M47 = mUR M44 a0 14 (mZ M42) → Q M47) :
    Cv G y_Ma_init (d + 1) [vr a0] M Q := by
  refine wm_open (y := y_Ma_init) rfl (Nat.le_of_ble_eq_true rfl) (L := [vr a0]) rfl ?_
  obtain ⟨h1, h⟩ := h
  obtain ⟨M2, e3⟩ : ∃ M2, M2 = mNew M 30 12 12 := ⟨_, rfl⟩
  replace h := h M2 e3
  obtain ⟨h4, h⟩ := h
  obtain ⟨M5, e6⟩ : ∃ M5, M5 = mUR M2 a0 3 (mZ M) := ⟨_, rfl⟩
  replace h := h M5 e6
  obtain ⟨M7, e8⟩ : ∃ M7, M7 = mNew M5 30 12 12 := ⟨_, rfl⟩
  replace h := h M7 e8
  obtain ⟨h9, h⟩ := h
  obtain ⟨M10, e11⟩ : ∃ M10, M10 = mUR M7 a0 5 (mZ M5) := ⟨_, rfl⟩
  replace h := h M10 e11
  obtain ⟨M12, e13⟩ : ∃ M12, M12 = mNew M10 30 64 64 := ⟨_, rfl⟩
  replace h := h M12 e13
  obtain ⟨h14, h⟩ := h
  obtain ⟨M15, e16⟩ : ∃ M15, M15 = mUR M12 a0 6 (mZ M10) := ⟨_, rfl⟩
  replace h := h M15 e16
  obtain ⟨M17, e18⟩ : ∃ M17, M17 = mNew M15 30 64 64 := ⟨_, rfl⟩
  replace h := h M17 e18
  obtain ⟨h19, h⟩ := h
  obtain ⟨M20, e21⟩ : ∃ M20, M20 = mUR M17 a0 7 (mZ M15) := ⟨_, rfl⟩
  replace h := h M20 e21
  obtain ⟨M22, e23⟩ : ∃ M22, M22 = mUI M20 a0 9 0 := ⟨_, rfl⟩
  replace h := h M22 e23
  obtain ⟨M24, e25⟩ : ∃ M24, M24 = mNew M22 30 60 60 := ⟨_, rfl⟩
  replace h := h M24 e25
  obtain ⟨h26, h⟩ := h
  obtain ⟨M27, e28⟩ : ∃ M27, M27 = mUR M24 a0 10 (mZ M22) := ⟨_, rfl⟩
  replace h := h M27 e28
  obtain ⟨M29, e30⟩ : ∃ M29, M29 = mNew M27 30 60 60 := ⟨_, rfl⟩
  replace h := h M29 e30
  obtain ⟨h31, h⟩ := h
  obtain ⟨M32, e33⟩ : ∃ M32, M32 = mUR M29 a0 11 (mZ M27) := ⟨_, rfl⟩
  replace h := h M32 e33
  obtain ⟨M34, e35⟩ : ∃ M34, M34 = mNew M32 30 60 60 := ⟨_, rfl⟩
  replace h := h M34 e35
  obtain ⟨h36, h⟩ := h
  obtain ⟨M37, e38⟩ : ∃ M37, M37 = mUR M34 a0 12 (mZ M32) := ⟨_, rfl⟩
  replace h := h M37 e38
  obtain ⟨M39, e40⟩ : ∃ M39, M39 = mNew M37 30 61 61 := ⟨_, rfl⟩
  replace h := h M39 e40
  obtain ⟨h41, h⟩ := h
  obtain ⟨M42, e43⟩ : ∃ M42, M42 = mUR M39 a0 13 (mZ M37) := ⟨_, rfl⟩
  replace h := h M42 e43
  obtain ⟨M44, e45⟩ : ∃ M44, M44 = mNew M42 30 61 61 := ⟨_, rfl⟩
  replace h := h M44 e45
  obtain ⟨h46, h⟩ := h
  obtain ⟨M47, e48⟩ : ∃ M47, M47 = mUR M44 a0 14 (mZ M42) := ⟨_, rfl⟩
  replace h := h M47 e48
  refine wm_aload_n d_Ma_init_0 rfl rfl ?_
  refine wm_objInit trivial k1_168 kO_inst kO_code (Nat.le_of_ble_eq_true rfl) d_Ma_init_1 h1 ?_
  refine wm_aload_n d_Ma_init_4 rfl rfl ?_
  refine wm_bipush d_Ma_init_5 (by decide) ?_
  have hOM2 : mOk M2 := by rw [e3]; exact mOk_New hO
  refine wm_newarrE 0 (atype := .int) (ty := .int) rfl rfl (fun _ => rfl) rfl rfl (by decide) k1_82 ⟨by decide, by decide⟩ d_Ma_init_7 e3 ?_
  have hOM5 : mOk M5 := by rw [e6]; exact mOk_UR hOM2
  refine pf_Ma_9 rfl d_Ma_init_9 h4 e6 ?_
  refine wm_aload_n d_Ma_init_12 rfl rfl ?_
  refine wm_bipush d_Ma_init_13 (by decide) ?_
  have hOM7 : mOk M7 := by rw [e8]; exact mOk_New hOM5
  refine wm_newarrE 0 (atype := .int) (ty := .int) rfl rfl (fun _ => rfl) rfl rfl (by decide) k1_82 ⟨by decide, by decide⟩ d_Ma_init_15 e8 ?_
  have hOM10 : mOk M10 := by rw [e11]; exact mOk_UR hOM7
  refine pf_Ma_15 rfl rfl d_Ma_init_17 h9 e11 ?_
  refine wm_aload_n d_Ma_init_20 rfl rfl ?_
  refine wm_bipush d_Ma_init_21 (by decide) ?_
  have hOM12 : mOk M12 := by rw [e13]; exact mOk_New hOM10
  refine wm_newarrE 0 (atype := .int) (ty := .int) rfl rfl (fun _ => rfl) rfl rfl (by decide) k1_82 ⟨by decide, by decide⟩ d_Ma_init_23 e13 ?_
  have hOM15 : mOk M15 := by rw [e16]; exact mOk_UR hOM12
  refine pf_Ma_18 rfl d_Ma_init_25 h14 e16 ?_
  refine wm_aload_n d_Ma_init_28 rfl rfl ?_
  refine wm_bipush d_Ma_init_29 (by decide) ?_
  have hOM17 : mOk M17 := by rw [e18]; exact mOk_New hOM15
  refine wm_newarrE 0 (atype := .int) (ty := .int) rfl rfl (fun _ => rfl) rfl rfl (by decide) k1_82 ⟨by decide, by decide⟩ d_Ma_init_31 e18 ?_
  have hOM20 : mOk M20 := by rw [e21]; exact mOk_UR hOM17
  refine pf_Ma_21 rfl d_Ma_init_33 h19 e21 ?_
  refine wm_aload_n d_Ma_init_36 rfl rfl ?_
  refine wm_iconst d_Ma_init_37 ?_
  have hOM22 : mOk M22 := by rw [e23]; exact mOk_UI hOM20 ⟨by decide, by decide⟩
  refine pf_Ma_24 rfl d_Ma_init_38 (by rw [e21]; exact h19) ⟨by decide, by decide⟩ e23 ?_
  refine wm_aload_n d_Ma_init_41 rfl rfl ?_
  refine wm_bipush d_Ma_init_42 (by decide) ?_
  have hOM24 : mOk M24 := by rw [e25]; exact mOk_New hOM22
  refine wm_newarrE 0 (atype := .int) (ty := .int) rfl rfl (fun _ => rfl) rfl rfl (by decide) k1_82 ⟨by decide, by decide⟩ d_Ma_init_44 e25 ?_
  have hOM27 : mOk M27 := by rw [e28]; exact mOk_UR hOM24
  refine pf_Ma_28 rfl rfl d_Ma_init_46 h26 e28 ?_
  refine wm_aload_n d_Ma_init_49 rfl rfl ?_
  refine wm_bipush d_Ma_init_50 (by decide) ?_
  have hOM29 : mOk M29 := by rw [e30]; exact mOk_New hOM27
  refine wm_newarrE 0 (atype := .int) (ty := .int) rfl rfl (fun _ => rfl) rfl rfl (by decide) k1_82 ⟨by decide, by decide⟩ d_Ma_init_52 e30 ?_
  have hOM32 : mOk M32 := by rw [e33]; exact mOk_UR hOM29
  refine pf_Ma_31 rfl rfl d_Ma_init_54 h31 e33 ?_
  refine wm_aload_n d_Ma_init_57 rfl rfl ?_
  refine wm_bipush d_Ma_init_58 (by decide) ?_
  have hOM34 : mOk M34 := by rw [e35]; exact mOk_New hOM32
  refine wm_newarrE 0 (atype := .int) (ty := .int) rfl rfl (fun _ => rfl) rfl rfl (by decide) k1_82 ⟨by decide, by decide⟩ d_Ma_init_60 e35 ?_
  have hOM37 : mOk M37 := by rw [e38]; exact mOk_UR hOM34
  refine pf_Ma_34 rfl rfl d_Ma_init_62 h36 e38 ?_
  refine wm_aload_n d_Ma_init_65 rfl rfl ?_
  refine wm_bipush d_Ma_init_66 (by decide) ?_
  have hOM39 : mOk M39 := by rw [e40]; exact mOk_New hOM37
  refine wm_newarrE 0 (atype := .int) (ty := .int) rfl rfl (fun _ => rfl) rfl rfl (by decide) k1_82 ⟨by decide, by decide⟩ d_Ma_init_68 e40 ?_
  have hOM42 : mOk M42 := by rw [e43]; exact mOk_UR hOM39
  refine pf_Ma_37 rfl rfl d_Ma_init_70 h41 e43 ?_
  refine wm_aload_n d_Ma_init_73 rfl rfl ?_
  refine wm_bipush d_Ma_init_74 (by decide) ?_
  have hOM44 : mOk M44 := by rw [e45]; exact mOk_New hOM42
  refine wm_newarrE 0 (atype := .int) (ty := .int) rfl rfl (fun _ => rfl) rfl rfl (by decide) k1_82 ⟨by decide, by decide⟩ d_Ma_init_76 e45 ?_
  have hOM47 : mOk M47 := by rw [e48]; exact mOk_UR hOM44
  refine pf_Ma_40 rfl rfl d_Ma_init_78 h46 e48 ?_
  refine wm_return d_Ma_init_81 rfl ?_
  exact ⟨rfl, h⟩
theorem d_Ma_commonDivisor_0 : decode y_Ma_commonDivisor.2.1 0 = .ok (.lload_n 0, 1) := by decide +kernel
theorem d_Ma_commonDivisor_1 : decode y_Ma_commonDivisor.2.1 1 = .ok (.lconst 0, 1) := by decide +kernel
theorem d_Ma_commonDivisor_2 : decode y_Ma_commonDivisor.2.1 2 = .ok (.lcmp, 1) := by decide +kernel
theorem d_Ma_commonDivisor_3 : decode y_Ma_commonDivisor.2.1 3 = .ok (.ifCond .ge 8, 3) := by decide +kernel
theorem d_Ma_commonDivisor_11 : decode y_Ma_commonDivisor.2.1 11 = .ok (.lload_n 0, 1) := by decide +kernel
theorem d_Ma_commonDivisor_6 : decode y_Ma_commonDivisor.2.1 6 = .ok (.lload_n 0, 1) := by decide +kernel
theorem d_Ma_commonDivisor_7 : decode y_Ma_commonDivisor.2.1 7 = .ok (.lneg, 1) := by decide +kernel
theorem d_Ma_commonDivisor_8 : decode y_Ma_commonDivisor.2.1 8 = .ok (.goto 4, 3) := by decide +kernel
theorem d_Ma_commonDivisor_12 : decode y_Ma_commonDivisor.2.1 12 = .ok (.lstore 4, 2) := by decide +kernel
theorem d_Ma_commonDivisor_14 : decode y_Ma_commonDivisor.2.1 14 = .ok (.lload_n 2, 1) := by decide +kernel
theorem d_Ma_commonDivisor_15 : decode y_Ma_commonDivisor.2.1 15 = .ok (.lstore 6, 2) := by decide +kernel
theorem d_Ma_commonDivisor_17 : decode y_Ma_commonDivisor.2.1 17 = .ok (.iconst 0, 1) := by decide +kernel
theorem d_Ma_commonDivisor_18 : decode y_Ma_commonDivisor.2.1 18 = .ok (.istore 8, 2) := by decide +kernel
theorem d_Ma_commonDivisor_20 : decode y_Ma_commonDivisor.2.1 20 = .ok (.iload 8, 2) := by decide +kernel
theorem d_Ma_commonDivisor_22 : decode y_Ma_commonDivisor.2.1 22 = .ok (.bipush 100, 2) := by decide +kernel
theorem d_Ma_commonDivisor_24 : decode y_Ma_commonDivisor.2.1 24 = .ok (.if_icmp .ge 31, 3) := by decide +kernel
theorem d_Ma_commonDivisor_27 : decode y_Ma_commonDivisor.2.1 27 = .ok (.lload 6, 2) := by decide +kernel
theorem d_Ma_commonDivisor_29 : decode y_Ma_commonDivisor.2.1 29 = .ok (.lconst 0, 1) := by decide +kernel
theorem d_Ma_commonDivisor_30 : decode y_Ma_commonDivisor.2.1 30 = .ok (.lcmp, 1) := by decide +kernel
theorem d_Ma_commonDivisor_31 : decode y_Ma_commonDivisor.2.1 31 = .ok (.ifCond .eq 24, 3) := by decide +kernel
theorem d_Ma_commonDivisor_34 : decode y_Ma_commonDivisor.2.1 34 = .ok (.lload 4, 2) := by decide +kernel
theorem d_Ma_commonDivisor_36 : decode y_Ma_commonDivisor.2.1 36 = .ok (.lload 6, 2) := by decide +kernel
theorem d_Ma_commonDivisor_38 : decode y_Ma_commonDivisor.2.1 38 = .ok (.lrem, 1) := by decide +kernel
theorem d_Ma_commonDivisor_39 : decode y_Ma_commonDivisor.2.1 39 = .ok (.lstore 9, 2) := by decide +kernel
theorem d_Ma_commonDivisor_41 : decode y_Ma_commonDivisor.2.1 41 = .ok (.lload 6, 2) := by decide +kernel
theorem d_Ma_commonDivisor_43 : decode y_Ma_commonDivisor.2.1 43 = .ok (.lstore 4, 2) := by decide +kernel
theorem d_Ma_commonDivisor_45 : decode y_Ma_commonDivisor.2.1 45 = .ok (.lload 9, 2) := by decide +kernel
theorem d_Ma_commonDivisor_47 : decode y_Ma_commonDivisor.2.1 47 = .ok (.lstore 6, 2) := by decide +kernel
theorem d_Ma_commonDivisor_49 : decode y_Ma_commonDivisor.2.1 49 = .ok (.iinc 8 1, 3) := by decide +kernel
theorem d_Ma_commonDivisor_52 : decode y_Ma_commonDivisor.2.1 52 = .ok (.goto (-32), 3) := by decide +kernel
theorem d_Ma_commonDivisor_55 : decode y_Ma_commonDivisor.2.1 55 = .ok (.lload 4, 2) := by decide +kernel
theorem d_Ma_commonDivisor_57 : decode y_Ma_commonDivisor.2.1 57 = .ok (.lconst 0, 1) := by decide +kernel
theorem d_Ma_commonDivisor_58 : decode y_Ma_commonDivisor.2.1 58 = .ok (.lcmp, 1) := by decide +kernel
theorem d_Ma_commonDivisor_59 : decode y_Ma_commonDivisor.2.1 59 = .ok (.ifCond .ne 7, 3) := by decide +kernel
theorem d_Ma_commonDivisor_62 : decode y_Ma_commonDivisor.2.1 62 = .ok (.lconst 1, 1) := by decide +kernel
theorem d_Ma_commonDivisor_63 : decode y_Ma_commonDivisor.2.1 63 = .ok (.goto 5, 3) := by decide +kernel
theorem d_Ma_commonDivisor_66 : decode y_Ma_commonDivisor.2.1 66 = .ok (.lload 4, 2) := by decide +kernel
theorem d_Ma_commonDivisor_68 : decode y_Ma_commonDivisor.2.1 68 = .ok (.lreturn, 1) := by decide +kernel
def h_Ma_commonDivisor_20 (G : mG) (d : Nat) (j4 : Int) (j6 : Int) (l8 : Int) (M : mM) (Q : Int → mM → Prop) : Prop := mWm G y_Ma_commonDivisor d 20 [vd, vd, vd, vd, vl j4, vd, vl j6, vd, vi l8, vd, vd] [] M (fun r9 M9 => ∃ x9, r9 = some (vl x9) ∧ Q x9 M9)
theorem k_Ma_commonDivisor {G : mG} {d : Nat} {j0 : Int} {j2 : Int} {M : mM} {Q : Int → mM → Prop} (hO : mOk M) (hi_j0 : i64 j0) (hi_j2 : i64 j2)
    (h : ∀ v2 : Int, v2 = (if (0 ≤ cmpL j0 0) then j0 else -j0) → h_Ma_commonDivisor_20 G d v2 j2 0 M Q) :
    Cj G y_Ma_commonDivisor d [vl j0, vl j2] M Q := by
  refine wm_open (y := y_Ma_commonDivisor) rfl (Nat.le_of_ble_eq_true rfl) (L := [vl j0, vd, vl j2, vd, vd, vd, vd, vd, vd, vd, vd]) rfl ?_
  refine wm_lload_n d_Ma_commonDivisor_0 rfl rfl ?_
  refine wm_lconst (x := 0) d_Ma_commonDivisor_1 rfl ?_
  refine wm_lcmp d_Ma_commonDivisor_2 hi_j0 ⟨by decide, by decide⟩ ?_
  have hJ : ∀ v2 : Int, v2 = (if (0 ≤ cmpL j0 0) then j0 else -j0) → mWm G y_Ma_commonDivisor d 12 [vd, vd, vl j2, vd, vd, vd, vd, vd, vd, vd, vd] [vl v2] M (fun r9 M9 => ∃ x9, r9 = some (vl x9) ∧ Q x9 M9) := by
    intro v2 e4
    have h := h v2 e4
    refine wm_lstore d_Ma_commonDivisor_12 (by decide) (L' := [vd, vd, vl j2, vd, vl v2, vd, vd, vd, vd, vd, vd]) rfl ?_
    refine wm_lload_n d_Ma_commonDivisor_14 rfl rfl ?_
    refine wm_lstore d_Ma_commonDivisor_15 (by decide) (L' := [vd, vd, vl j2, vd, vl v2, vd, vl j2, vd, vd, vd, vd]) rfl ?_
    refine wm_iconst d_Ma_commonDivisor_17 ?_
    refine wm_istore d_Ma_commonDivisor_18 (by decide) (L' := [vd, vd, vl j2, vd, vl v2, vd, vl j2, vd, vi 0, vd, vd]) rfl ?_
    refine wm_less (L' := [vd, vd, vd, vd, vl v2, vd, vl j2, vd, vi 0, vd, vd]) ⟨Or.inl rfl, Or.inl rfl, Or.inl rfl, Or.inl rfl, Or.inr rfl, Or.inl rfl, Or.inr rfl, Or.inl rfl, Or.inr rfl, Or.inl rfl, Or.inl rfl, trivial⟩ ?_
    exact h
  clear h
  refine wm_if_ge (tgt := 11) d_Ma_commonDivisor_3 rfl (m_cmp32 _ _) (fun c1 => ?_) (fun c1 => ?_)
  · refine wm_lload_n d_Ma_commonDivisor_11 rfl rfl ?_
    refine wm_less (L' := [vd, vd, vl j2, vd, vd, vd, vd, vd, vd, vd, vd]) ⟨Or.inl rfl, Or.inl rfl, Or.inr rfl, Or.inl rfl, Or.inl rfl, Or.inl rfl, Or.inl rfl, Or.inl rfl, Or.inl rfl, Or.inl rfl, Or.inl rfl, trivial⟩ ?_
    exact hJ j0 (if_pos c1).symm
  · refine wm_lload_n d_Ma_commonDivisor_6 rfl rfl ?_
    refine wm_lneg d_Ma_commonDivisor_7 ?_
    refine wm_goto (tgt := 12) d_Ma_commonDivisor_8 rfl ?_
    refine wm_less (L' := [vd, vd, vl j2, vd, vd, vd, vd, vd, vd, vd, vd]) ⟨Or.inl rfl, Or.inl rfl, Or.inr rfl, Or.inl rfl, Or.inl rfl, Or.inl rfl, Or.inl rfl, Or.inl rfl, Or.inl rfl, Or.inl rfl, Or.inl rfl, trivial⟩ ?_
    exact hJ (-j0) (if_neg c1).symm
theorem k_Ma_commonDivisor_20 {G : mG} {d : Nat} {j4 : Int} {j6 : Int} {l8 : Int} {M : mM} {Q : Int → mM → Prop} (hO : mOk M) (hi_j4 : i64 j4) (hi_j6 : i64 j6) (hi_l8 : i32 l8)
    (h : (((100 ≤ l8) ∨ (cmpL j6 0 = 0)) → (∀ v12 : Int, v12 = (if (cmpL j4 0 = 0) then 1 else j4) → Q v12 M)) ∧ (¬ ((100 ≤ l8) ∨ (cmpL j6 0 = 0)) → (j6 ≠ 0 ∧ h_Ma_commonDivisor_20 G d j6 (Int.tmod j4 j6) (l8 + 1) M Q))) :
    h_Ma_commonDivisor_20 G d j4 j6 l8 M Q := by
  unfold h_Ma_commonDivisor_20
  refine wm_iload d_Ma_commonDivisor_20 rfl ?_
  refine wm_bipush d_Ma_commonDivisor_22 (by decide) ?_
  have hE0 : ((100 ≤ l8) ∨ (cmpL j6 0 = 0)) → mWm G y_Ma_commonDivisor d 55 [vd, vd, vd, vd, vl j4, vd, vl j6, vd, vi l8, vd, vd] [] M (fun r9 M9 => ∃ x9, r9 = some (vl x9) ∧ Q x9 M9) := by
    intro q10
    have h := h.1 q10
    refine wm_lload d_Ma_commonDivisor_55 rfl ?_
    refine wm_lconst (x := 0) d_Ma_commonDivisor_57 rfl ?_
    refine wm_lcmp d_Ma_commonDivisor_58 hi_j4 ⟨by decide, by decide⟩ ?_
    have hJ : ∀ v12 : Int, v12 = (if (cmpL j4 0 = 0) then 1 else j4) → mWm G y_Ma_commonDivisor d 68 [vd, vd, vd, vd, vd, vd, vd, vd, vd, vd, vd] [vl v12] M (fun r9 M9 => ∃ x9, r9 = some (vl x9) ∧ Q x9 M9) := by
      intro v12 e14
      have h := h v12 e14
      refine wm_lreturn d_Ma_commonDivisor_68 rfl ?_
      exact ⟨_, rfl, h⟩
    clear h
    refine wm_if_ne (tgt := 66) d_Ma_commonDivisor_59 rfl (m_cmp32 _ _) (fun c11 => ?_) (fun c11 => ?_)
    · refine wm_lload d_Ma_commonDivisor_66 rfl ?_
      refine wm_less (L' := [vd, vd, vd, vd, vd, vd, vd, vd, vd, vd, vd]) ⟨Or.inl rfl, Or.inl rfl, Or.inl rfl, Or.inl rfl, Or.inl rfl, Or.inl rfl, Or.inl rfl, Or.inl rfl, Or.inl rfl, Or.inl rfl, Or.inl rfl, trivial⟩ ?_
      exact hJ j4 (if_neg c11).symm
    · replace c11 := Classical.not_not.mp c11
      refine wm_lconst (x := 1) d_Ma_commonDivisor_62 rfl ?_
      refine wm_goto (tgt := 68) d_Ma_commonDivisor_63 rfl ?_
      refine wm_less (L' := [vd, vd, vd, vd, vd, vd, vd, vd, vd, vd, vd]) ⟨Or.inl rfl, Or.inl rfl, Or.inl rfl, Or.inl rfl, Or.inl rfl, Or.inl rfl, Or.inl rfl, Or.inl rfl, Or.inl rfl, Or.inl rfl, Or.inl rfl, trivial⟩ ?_
      exact hJ 1 (if_pos c11).symm
  have hE1 : ¬ ((100 ≤ l8) ∨ (cmpL j6 0 = 0)) → mWm G y_Ma_commonDivisor d 34 [vd, vd, vd, vd, vl j4, vd, vl j6, vd, vi l8, vd, vd] [] M (fun r9 M9 => ∃ x9, r9 = some (vl x9) ∧ Q x9 M9) := by
    intro q16
    have h := h.2 q16
    obtain ⟨h17, h⟩ := h
    refine wm_lload d_Ma_commonDivisor_34 rfl ?_
    refine wm_lload d_Ma_commonDivisor_36 rfl ?_
    refine wm_lrem d_Ma_commonDivisor_38 hi_j4 hi_j6 h17 ?_
    refine wm_lstore d_Ma_commonDivisor_39 (by decide) (L' := [vd, vd, vd, vd, vl j4, vd, vl j6, vd, vi l8, vl (Int.tmod j4 j6), vd]) rfl ?_
    refine wm_lload d_Ma_commonDivisor_41 rfl ?_
    refine wm_lstore d_Ma_commonDivisor_43 (by decide) (L' := [vd, vd, vd, vd, vl j6, vd, vl j6, vd, vi l8, vl (Int.tmod j4 j6), vd]) rfl ?_
    refine wm_lload d_Ma_commonDivisor_45 rfl ?_
    refine wm_lstore d_Ma_commonDivisor_47 (by decide) (L' := [vd, vd, vd, vd, vl j6, vd, vl (Int.tmod j4 j6), vd, vi l8, vl (Int.tmod j4 j6), vd]) rfl ?_
    refine wm_iinc d_Ma_commonDivisor_49 (by decide) rfl (L' := [vd, vd, vd, vd, vl j6, vd, vl (Int.tmod j4 j6), vd, vi (l8 + 1), vl (Int.tmod j4 j6), vd]) rfl ?_
    refine wm_goto (tgt := 20) d_Ma_commonDivisor_52 rfl ?_
    refine wm_less (L' := [vd, vd, vd, vd, vl j6, vd, vl (Int.tmod j4 j6), vd, vi (l8 + 1), vd, vd]) ⟨Or.inl rfl, Or.inl rfl, Or.inl rfl, Or.inl rfl, Or.inr rfl, Or.inl rfl, Or.inr rfl, Or.inl rfl, Or.inr rfl, Or.inl rfl, Or.inl rfl, trivial⟩ ?_
    exact h
  clear h
  refine wm_icmp_ge (tgt := 55) d_Ma_commonDivisor_24 rfl hi_l8 ⟨by decide, by decide⟩ (fun c8 => ?_) (fun c8 => ?_)
  · exact hE0 (Or.inl c8)
  · refine wm_lload d_Ma_commonDivisor_27 rfl ?_
    refine wm_lconst (x := 0) d_Ma_commonDivisor_29 rfl ?_
    refine wm_lcmp d_Ma_commonDivisor_30 hi_j6 ⟨by decide, by decide⟩ ?_
    refine wm_if_eq (tgt := 55) d_Ma_commonDivisor_31 rfl (m_cmp32 _ _) (fun c7 => ?_) (fun c7 => ?_)
    · exact hE0 (Or.inr c7)
    · exact hE1 (fun z18 => Or.elim z18 c8 c7)
theorem d_Ma_enter_0 : decode y_Ma_enter.2.1 0 = .ok (.aload_n 0, 1) := by decide +kernel
theorem d_Ma_enter_1 : decode y_Ma_enter.2.1 1 = .ok (.aload_n 1, 1) := by decide +kernel
theorem d_Ma_enter_2 : decode y_Ma_enter.2.1 2 = .ok (.putfield 9, 3) := by decide +kernel
theorem d_Ma_enter_5 : decode y_Ma_enter.2.1 5 = .ok (.aload_n 0, 1) := by decide +kernel
theorem d_Ma_enter_6 : decode y_Ma_enter.2.1 6 = .ok (.iload_n 2, 1) := by decide +kernel
theorem d_Ma_enter_7 : decode y_Ma_enter.2.1 7 = .ok (.putfield 43, 3) := by decide +kernel
theorem d_Ma_enter_10 : decode y_Ma_enter.2.1 10 = .ok (.aload_n 0, 1) := by decide +kernel
theorem d_Ma_enter_11 : decode y_Ma_enter.2.1 11 = .ok (.dup, 1) := by decide +kernel
theorem d_Ma_enter_12 : decode y_Ma_enter.2.1 12 = .ok (.getfield 24, 3) := by decide +kernel
theorem d_Ma_enter_15 : decode y_Ma_enter.2.1 15 = .ok (.iconst 1, 1) := by decide +kernel
theorem d_Ma_enter_16 : decode y_Ma_enter.2.1 16 = .ok (.iadd, 1) := by decide +kernel
theorem d_Ma_enter_17 : decode y_Ma_enter.2.1 17 = .ok (.putfield 24, 3) := by decide +kernel
theorem d_Ma_enter_20 : decode y_Ma_enter.2.1 20 = .ok (.return_, 1) := by decide +kernel
theorem k_Ma_enter {G : mG} {d : Nat} {a0 : Nat} {a1 : Nat} {l2 : Int} {M : mM} {Q : mM → Prop} (hO : mOk M) (hi_l2 : i32 l2)
    (h : mK M a0 = 5 ∧ ∀ M2, M2 = mUR M a0 3 a1 → ∀ M4, M4 = mUI M2 a0 4 l2 → i32 ((mI M4 a0 9) + 1) ∧ ∀ M7, M7 = mUI M4 a0 9 ((mI M4 a0 9) + 1) → Q M7) :
    Cv G y_Ma_enter d [vr a0, vr a1, vi l2] M Q := by
  refine wm_open (y := y_Ma_enter) rfl (Nat.le_of_ble_eq_true rfl) (L := [vr a0, vr a1, vi l2]) rfl ?_
  obtain ⟨h1, h⟩ := h
  obtain ⟨M2, e3⟩ : ∃ M2, M2 = mUR M a0 3 a1 := ⟨_, rfl⟩
  replace h := h M2 e3
  obtain ⟨M4, e5⟩ : ∃ M4, M4 = mUI M2 a0 4 l2 := ⟨_, rfl⟩
  replace h := h M4 e5
  obtain ⟨h6, h⟩ := h
  obtain ⟨M7, e8⟩ : ∃ M7, M7 = mUI M4 a0 9 ((mI M4 a0 9) + 1) := ⟨_, rfl⟩
  replace h := h M7 e8
  refine wm_aload_n d_Ma_enter_0 rfl rfl ?_
  refine wm_aload_n d_Ma_enter_1 rfl rfl ?_
  have hOM2 : mOk M2 := by rw [e3]; exact mOk_UR hO
  refine pf_Ma_9 rfl d_Ma_enter_2 h1 e3 ?_
  refine wm_aload_n d_Ma_enter_5 rfl rfl ?_
  refine wm_iload_n d_Ma_enter_6 rfl rfl ?_
  have hOM4 : mOk M4 := by rw [e5]; exact mOk_UI hOM2 hi_l2
  refine pf_Ma_43 rfl d_Ma_enter_7 (by rw [e3]; exact h1) hi_l2 e5 ?_
  refine wm_aload_n d_Ma_enter_10 rfl rfl ?_
  refine wm_dup d_Ma_enter_11 rfl ?_
  refine gf_Ma_24 rfl d_Ma_enter_12 (by rw [e5, e3]; exact h1) ?_
  refine wm_iconst d_Ma_enter_15 ?_
  refine wm_iadd d_Ma_enter_16 ?_
  have hOM7 : mOk M7 := by rw [e8]; exact mOk_UI hOM4 h6
  refine pf_Ma_24 rfl d_Ma_enter_17 (by rw [e5, e3]; exact h1) h6 e8 ?_
  refine wm_return d_Ma_enter_20 rfl ?_
  exact ⟨rfl, h⟩
theorem d_Ma_beginSets_0 : decode y_Ma_beginSets.2.1 0 = .ok (.aload_n 0, 1) := by decide +kernel
theorem d_Ma_beginSets_1 : decode y_Ma_beginSets.2.1 1 = .ok (.getfield 9, 3) := by decide +kernel
theorem d_Ma_beginSets_4 : decode y_Ma_beginSets.2.1 4 = .ok (.aload_n 0, 1) := by decide +kernel
theorem d_Ma_beginSets_5 : decode y_Ma_beginSets.2.1 5 = .ok (.getfield 43, 3) := by decide +kernel
theorem d_Ma_beginSets_8 : decode y_Ma_beginSets.2.1 8 = .ok (.aload_n 0, 1) := by decide +kernel
theorem d_Ma_beginSets_9 : decode y_Ma_beginSets.2.1 9 = .ok (.getfield 15, 3) := by decide +kernel
theorem d_Ma_beginSets_12 : decode y_Ma_beginSets.2.1 12 = .ok (.iconst 0, 1) := by decide +kernel
theorem d_Ma_beginSets_13 : decode y_Ma_beginSets.2.1 13 = .ok (.bipush 12, 2) := by decide +kernel
theorem d_Ma_beginSets_15 : decode y_Ma_beginSets.2.1 15 = .ok (.invokestatic 46, 3) := by decide +kernel
theorem d_Ma_beginSets_18 : decode y_Ma_beginSets.2.1 18 = .ok (.return_, 1) := by decide +kernel
theorem k_Ma_beginSets {G : mG} {d : Nat} {a0 : Nat} {M : mM} {Q : mM → Prop} (hO : mOk M)
    (h : mK M a0 = 5 ∧ mK M (mR M a0 3) = 30 ∧ mK M (mR M a0 5) = 30 ∧ ((0 : Int) ≤ mI M a0 4 ∧ (0 : Int) ≤ 0 ∧ (0 : Int) ≤ 12 ∧ (mI M a0 4) + 12 ≤ (mN M (mR M a0 3) : Int) ∧ 0 + 12 ≤ (mN M (mR M a0 5) : Int)) ∧ ∀ M5, M5 = mCpy M (mR M a0 3) (mR M a0 5) (Int.toNat (mI M a0 4)) 0 12 → Q M5) :
    Cv G y_Ma_beginSets (d + 1) [vr a0] M Q := by
  refine wm_open (y := y_Ma_beginSets) rfl (Nat.le_of_ble_eq_true rfl) (L := [vr a0]) rfl ?_
  obtain ⟨h1, h⟩ := h
  obtain ⟨h2, h⟩ := h
  obtain ⟨h3, h⟩ := h
  obtain ⟨h4, h⟩ := h
  obtain ⟨M5, e6⟩ : ∃ M5, M5 = mCpy M (mR M a0 3) (mR M a0 5) (Int.toNat (mI M a0 4)) 0 12 := ⟨_, rfl⟩
  replace h := h M5 e6
  refine wm_aload_n d_Ma_beginSets_0 rfl rfl ?_
  refine gf_Ma_9 rfl d_Ma_beginSets_1 h1 ?_
  refine wm_aload_n d_Ma_beginSets_4 rfl rfl ?_
  refine gf_Ma_43 rfl d_Ma_beginSets_5 h1 ?_
  refine wm_aload_n d_Ma_beginSets_8 rfl rfl ?_
  refine gf_Ma_15 rfl d_Ma_beginSets_9 h1 ?_
  refine wm_iconst d_Ma_beginSets_12 ?_
  refine wm_bipush d_Ma_beginSets_13 (by decide) ?_
  have hOM5 : mOk M5 := by rw [e6]; exact mOk_Cpy hO
  refine wm_copyi k8_38 (Nat.le_of_ble_eq_true rfl) h2 h3 h4 d_Ma_beginSets_15 e6 ?_
  refine wm_return d_Ma_beginSets_18 rfl ?_
  exact ⟨rfl, h⟩
