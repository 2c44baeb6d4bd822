section
theorem d_Ga_weighChances_0 : decode y_Ga_weighChances.2.1 0 = .ok (.aload_n 0, 1) := dc9_42 (by decide +kernel)
theorem d_Ga_weighChances_1 : decode y_Ga_weighChances.2.1 1 = .ok (.getfield 72, 3) := dc9_180 (by decide +kernel)
theorem d_Ga_weighChances_4 : decode y_Ga_weighChances.2.1 4 = .ok (.getfield 153, 3) := dc9_180 (by decide +kernel)
theorem d_Ga_weighChances_7 : decode y_Ga_weighChances.2.1 7 = .ok (.iload_n 1, 1) := dc9_27 (by decide +kernel)
theorem d_Ga_weighChances_8 : decode y_Ga_weighChances.2.1 8 = .ok (.iaload, 1) := dc9_46 (by decide +kernel)
theorem d_Ga_weighChances_9 : decode y_Ga_weighChances.2.1 9 = .ok (.istore_n 2, 1) := dc9_61 (by decide +kernel)
theorem d_Ga_weighChances_10 : decode y_Ga_weighChances.2.1 10 = .ok (.aload_n 0, 1) := dc9_42 (by decide +kernel)
theorem d_Ga_weighChances_11 : decode y_Ga_weighChances.2.1 11 = .ok (.getfield 72, 3) := dc9_180 (by decide +kernel)
theorem d_Ga_weighChances_14 : decode y_Ga_weighChances.2.1 14 = .ok (.getfield 153, 3) := dc9_180 (by decide +kernel)
theorem d_Ga_weighChances_17 : decode y_Ga_weighChances.2.1 17 = .ok (.iload_n 1, 1) := dc9_27 (by decide +kernel)
theorem d_Ga_weighChances_18 : decode y_Ga_weighChances.2.1 18 = .ok (.iconst 1, 1) := dc9_4 (by decide +kernel)
theorem d_Ga_weighChances_19 : decode y_Ga_weighChances.2.1 19 = .ok (.iadd, 1) := dc9_96 (by decide +kernel)
theorem d_Ga_weighChances_20 : decode y_Ga_weighChances.2.1 20 = .ok (.iaload, 1) := dc9_46 (by decide +kernel)
theorem d_Ga_weighChances_21 : decode y_Ga_weighChances.2.1 21 = .ok (.iload_n 2, 1) := dc9_28 (by decide +kernel)
theorem d_Ga_weighChances_22 : decode y_Ga_weighChances.2.1 22 = .ok (.isub, 1) := dc9_100 (by decide +kernel)
theorem d_Ga_weighChances_23 : decode y_Ga_weighChances.2.1 23 = .ok (.istore_n 3, 1) := dc9_62 (by decide +kernel)
theorem d_Ga_weighChances_24 : decode y_Ga_weighChances.2.1 24 = .ok (.iconst 0, 1) := dc9_3 (by decide +kernel)
theorem d_Ga_weighChances_25 : decode y_Ga_weighChances.2.1 25 = .ok (.istore 4, 2) := dc9_54 (by decide +kernel)
theorem d_Ga_weighChances_27 : decode y_Ga_weighChances.2.1 27 = .ok (.iload 4, 2) := dc9_21 (by decide +kernel)
theorem d_Ga_weighChances_29 : decode y_Ga_weighChances.2.1 29 = .ok (.iload_n 3, 1) := dc9_29 (by decide +kernel)
theorem d_Ga_weighChances_30 : decode y_Ga_weighChances.2.1 30 = .ok (.if_icmp .ge 114, 3) := dc9_162 (by decide +kernel)
theorem d_Ga_weighChances_144 : decode y_Ga_weighChances.2.1 144 = .ok (.lconst 1, 1) := dc9_10 (by decide +kernel)
theorem d_Ga_weighChances_145 : decode y_Ga_weighChances.2.1 145 = .ok (.lstore 4, 2) := dc9_55 (by decide +kernel)
theorem d_Ga_weighChances_147 : decode y_Ga_weighChances.2.1 147 = .ok (.iconst 0, 1) := dc9_3 (by decide +kernel)
theorem d_Ga_weighChances_148 : decode y_Ga_weighChances.2.1 148 = .ok (.istore 6, 2) := dc9_54 (by decide +kernel)
theorem d_Ga_weighChances_33 : decode y_Ga_weighChances.2.1 33 = .ok (.aload_n 0, 1) := dc9_42 (by decide +kernel)
theorem d_Ga_weighChances_34 : decode y_Ga_weighChances.2.1 34 = .ok (.getfield 42, 3) := dc9_180 (by decide +kernel)
theorem d_Ga_weighChances_37 : decode y_Ga_weighChances.2.1 37 = .ok (.aload_n 0, 1) := dc9_42 (by decide +kernel)
theorem d_Ga_weighChances_38 : decode y_Ga_weighChances.2.1 38 = .ok (.getfield 72, 3) := dc9_180 (by decide +kernel)
theorem d_Ga_weighChances_41 : decode y_Ga_weighChances.2.1 41 = .ok (.getfield 158, 3) := dc9_180 (by decide +kernel)
theorem d_Ga_weighChances_44 : decode y_Ga_weighChances.2.1 44 = .ok (.iload_n 2, 1) := dc9_28 (by decide +kernel)
theorem d_Ga_weighChances_45 : decode y_Ga_weighChances.2.1 45 = .ok (.iload 4, 2) := dc9_21 (by decide +kernel)
theorem d_Ga_weighChances_47 : decode y_Ga_weighChances.2.1 47 = .ok (.iadd, 1) := dc9_96 (by decide +kernel)
theorem d_Ga_weighChances_48 : decode y_Ga_weighChances.2.1 48 = .ok (.iaload, 1) := dc9_46 (by decide +kernel)
theorem d_Ga_weighChances_49 : decode y_Ga_weighChances.2.1 49 = .ok (.invokevirtual 123, 3) := dc9_182 (by decide +kernel)
theorem d_Ga_weighChances_52 : decode y_Ga_weighChances.2.1 52 = .ok (.ifCond .ne 8, 3) := dc9_154 (by decide +kernel)
theorem d_Ga_weighChances_55 : decode y_Ga_weighChances.2.1 55 = .ok (.aload_n 0, 1) := dc9_42 (by decide +kernel)
theorem d_Ga_weighChances_60 : decode y_Ga_weighChances.2.1 60 = .ok (.aload_n 0, 1) := dc9_42 (by decide +kernel)
theorem d_Ga_weighChances_61 : decode y_Ga_weighChances.2.1 61 = .ok (.getfield 49, 3) := dc9_180 (by decide +kernel)
theorem d_Ga_weighChances_64 : decode y_Ga_weighChances.2.1 64 = .ok (.iload 4, 2) := dc9_21 (by decide +kernel)
theorem d_Ga_weighChances_66 : decode y_Ga_weighChances.2.1 66 = .ok (.aload_n 0, 1) := dc9_42 (by decide +kernel)
theorem d_Ga_weighChances_67 : decode y_Ga_weighChances.2.1 67 = .ok (.getfield 42, 3) := dc9_180 (by decide +kernel)
theorem d_Ga_weighChances_70 : decode y_Ga_weighChances.2.1 70 = .ok (.getfield 129, 3) := dc9_180 (by decide +kernel)
theorem d_Ga_weighChances_73 : decode y_Ga_weighChances.2.1 73 = .ok (.iconst 0, 1) := dc9_3 (by decide +kernel)
theorem d_Ga_weighChances_74 : decode y_Ga_weighChances.2.1 74 = .ok (.iaload, 1) := dc9_46 (by decide +kernel)
theorem d_Ga_weighChances_75 : decode y_Ga_weighChances.2.1 75 = .ok (.iastore, 1) := dc9_79 (by decide +kernel)
theorem d_Ga_weighChances_76 : decode y_Ga_weighChances.2.1 76 = .ok (.aload_n 0, 1) := dc9_42 (by decide +kernel)
theorem d_Ga_weighChances_77 : decode y_Ga_weighChances.2.1 77 = .ok (.getfield 52, 3) := dc9_180 (by decide +kernel)
theorem d_Ga_weighChances_80 : decode y_Ga_weighChances.2.1 80 = .ok (.iload 4, 2) := dc9_21 (by decide +kernel)
theorem d_Ga_weighChances_82 : decode y_Ga_weighChances.2.1 82 = .ok (.aload_n 0, 1) := dc9_42 (by decide +kernel)
theorem d_Ga_weighChances_83 : decode y_Ga_weighChances.2.1 83 = .ok (.getfield 42, 3) := dc9_180 (by decide +kernel)
theorem d_Ga_weighChances_86 : decode y_Ga_weighChances.2.1 86 = .ok (.getfield 161, 3) := dc9_180 (by decide +kernel)
theorem d_Ga_weighChances_89 : decode y_Ga_weighChances.2.1 89 = .ok (.iconst 0, 1) := dc9_3 (by decide +kernel)
theorem d_Ga_weighChances_90 : decode y_Ga_weighChances.2.1 90 = .ok (.iaload, 1) := dc9_46 (by decide +kernel)
theorem d_Ga_weighChances_91 : decode y_Ga_weighChances.2.1 91 = .ok (.iastore, 1) := dc9_79 (by decide +kernel)
theorem d_Ga_weighChances_56 : decode y_Ga_weighChances.2.1 56 = .ok (.invokevirtual 126, 3) := dc9_182 (by decide +kernel)
theorem d_Ga_weighChances_59 : decode y_Ga_weighChances.2.1 59 = .ok (.ireturn, 1) := dc9_172 (by decide +kernel)
theorem d_Ga_weighChances_92 : decode y_Ga_weighChances.2.1 92 = .ok (.aload_n 0, 1) := dc9_42 (by decide +kernel)
theorem d_Ga_weighChances_93 : decode y_Ga_weighChances.2.1 93 = .ok (.getfield 49, 3) := dc9_180 (by decide +kernel)
theorem d_Ga_weighChances_96 : decode y_Ga_weighChances.2.1 96 = .ok (.iload 4, 2) := dc9_21 (by decide +kernel)
theorem d_Ga_weighChances_98 : decode y_Ga_weighChances.2.1 98 = .ok (.iaload, 1) := dc9_46 (by decide +kernel)
theorem d_Ga_weighChances_99 : decode y_Ga_weighChances.2.1 99 = .ok (.ifCond .lt 20, 3) := dc9_155 (by decide +kernel)
theorem d_Ga_weighChances_102 : decode y_Ga_weighChances.2.1 102 = .ok (.aload_n 0, 1) := dc9_42 (by decide +kernel)
theorem d_Ga_weighChances_103 : decode y_Ga_weighChances.2.1 103 = .ok (.getfield 49, 3) := dc9_180 (by decide +kernel)
theorem d_Ga_weighChances_106 : decode y_Ga_weighChances.2.1 106 = .ok (.iload 4, 2) := dc9_21 (by decide +kernel)
theorem d_Ga_weighChances_108 : decode y_Ga_weighChances.2.1 108 = .ok (.iaload, 1) := dc9_46 (by decide +kernel)
theorem d_Ga_weighChances_109 : decode y_Ga_weighChances.2.1 109 = .ok (.aload_n 0, 1) := dc9_42 (by decide +kernel)
theorem d_Ga_weighChances_110 : decode y_Ga_weighChances.2.1 110 = .ok (.getfield 52, 3) := dc9_180 (by decide +kernel)
theorem d_Ga_weighChances_113 : decode y_Ga_weighChances.2.1 113 = .ok (.iload 4, 2) := dc9_21 (by decide +kernel)
theorem d_Ga_weighChances_115 : decode y_Ga_weighChances.2.1 115 = .ok (.iaload, 1) := dc9_46 (by decide +kernel)
theorem d_Ga_weighChances_116 : decode y_Ga_weighChances.2.1 116 = .ok (.if_icmp .le 22, 3) := dc9_164 (by decide +kernel)
theorem d_Ga_weighChances_138 : decode y_Ga_weighChances.2.1 138 = .ok (.iinc 4 1, 3) := by decide +kernel
theorem d_Ga_weighChances_141 : decode y_Ga_weighChances.2.1 141 = .ok (.goto (-114), 3) := dc9_167 (by decide +kernel)
theorem d_Ga_weighChances_119 : decode y_Ga_weighChances.2.1 119 = .ok (.aload_n 0, 1) := dc9_42 (by decide +kernel)
theorem d_Ga_weighChances_120 : decode y_Ga_weighChances.2.1 120 = .ok (.bipush 11, 2) := dc9_16 (by decide +kernel)
theorem d_Ga_weighChances_122 : decode y_Ga_weighChances.2.1 122 = .ok (.aload_n 0, 1) := dc9_42 (by decide +kernel)
theorem d_Ga_weighChances_123 : decode y_Ga_weighChances.2.1 123 = .ok (.getfield 72, 3) := dc9_180 (by decide +kernel)
theorem d_Ga_weighChances_126 : decode y_Ga_weighChances.2.1 126 = .ok (.getfield 164, 3) := dc9_180 (by decide +kernel)
theorem d_Ga_weighChances_129 : decode y_Ga_weighChances.2.1 129 = .ok (.iload_n 2, 1) := dc9_28 (by decide +kernel)
theorem d_Ga_weighChances_130 : decode y_Ga_weighChances.2.1 130 = .ok (.iload 4, 2) := dc9_21 (by decide +kernel)
theorem d_Ga_weighChances_132 : decode y_Ga_weighChances.2.1 132 = .ok (.iadd, 1) := dc9_96 (by decide +kernel)
theorem d_Ga_weighChances_133 : decode y_Ga_weighChances.2.1 133 = .ok (.iaload, 1) := dc9_46 (by decide +kernel)
theorem d_Ga_weighChances_134 : decode y_Ga_weighChances.2.1 134 = .ok (.invokevirtual 148, 3) := dc9_182 (by decide +kernel)
theorem d_Ga_weighChances_137 : decode y_Ga_weighChances.2.1 137 = .ok (.ireturn, 1) := dc9_172 (by decide +kernel)
theorem d_Ga_weighChances_150 : decode y_Ga_weighChances.2.1 150 = .ok (.iload 6, 2) := dc9_21 (by decide +kernel)
theorem d_Ga_weighChances_152 : decode y_Ga_weighChances.2.1 152 = .ok (.iload_n 3, 1) := dc9_29 (by decide +kernel)
theorem d_Ga_weighChances_153 : decode y_Ga_weighChances.2.1 153 = .ok (.if_icmp .ge 61, 3) := dc9_162 (by decide +kernel)
theorem d_Ga_weighChances_214 : decode y_Ga_weighChances.2.1 214 = .ok (.aload_n 0, 1) := dc9_42 (by decide +kernel)
theorem d_Ga_weighChances_215 : decode y_Ga_weighChances.2.1 215 = .ok (.getfield 27, 3) := dc9_180 (by decide +kernel)
theorem d_Ga_weighChances_218 : decode y_Ga_weighChances.2.1 218 = .ok (.aload_n 0, 1) := dc9_42 (by decide +kernel)
theorem d_Ga_weighChances_219 : decode y_Ga_weighChances.2.1 219 = .ok (.getfield 59, 3) := dc9_180 (by decide +kernel)
theorem d_Ga_weighChances_222 : decode y_Ga_weighChances.2.1 222 = .ok (.lload 4, 2) := dc9_22 (by decide +kernel)
theorem d_Ga_weighChances_224 : decode y_Ga_weighChances.2.1 224 = .ok (.l2i, 1) := dc9_136 (by decide +kernel)
theorem d_Ga_weighChances_225 : decode y_Ga_weighChances.2.1 225 = .ok (.iastore, 1) := dc9_79 (by decide +kernel)
theorem d_Ga_weighChances_226 : decode y_Ga_weighChances.2.1 226 = .ok (.lconst 0, 1) := dc9_9 (by decide +kernel)
theorem d_Ga_weighChances_227 : decode y_Ga_weighChances.2.1 227 = .ok (.lstore 6, 2) := dc9_55 (by decide +kernel)
theorem d_Ga_weighChances_229 : decode y_Ga_weighChances.2.1 229 = .ok (.iconst 0, 1) := dc9_3 (by decide +kernel)
theorem d_Ga_weighChances_230 : decode y_Ga_weighChances.2.1 230 = .ok (.istore 8, 2) := dc9_54 (by decide +kernel)
theorem d_Ga_weighChances_156 : decode y_Ga_weighChances.2.1 156 = .ok (.lload 4, 2) := dc9_22 (by decide +kernel)
theorem d_Ga_weighChances_158 : decode y_Ga_weighChances.2.1 158 = .ok (.lload 4, 2) := dc9_22 (by decide +kernel)
theorem d_Ga_weighChances_160 : decode y_Ga_weighChances.2.1 160 = .ok (.aload_n 0, 1) := dc9_42 (by decide +kernel)
theorem d_Ga_weighChances_161 : decode y_Ga_weighChances.2.1 161 = .ok (.getfield 52, 3) := dc9_180 (by decide +kernel)
theorem d_Ga_weighChances_164 : decode y_Ga_weighChances.2.1 164 = .ok (.iload 6, 2) := dc9_21 (by decide +kernel)
theorem d_Ga_weighChances_166 : decode y_Ga_weighChances.2.1 166 = .ok (.iaload, 1) := dc9_46 (by decide +kernel)
theorem d_Ga_weighChances_167 : decode y_Ga_weighChances.2.1 167 = .ok (.i2l, 1) := dc9_133 (by decide +kernel)
theorem d_Ga_weighChances_168 : decode y_Ga_weighChances.2.1 168 = .ok (.invokestatic 167, 3) := dc9_184 (by decide +kernel)
theorem d_Ga_weighChances_171 : decode y_Ga_weighChances.2.1 171 = .ok (.ldiv, 1) := dc9_109 (by decide +kernel)
theorem d_Ga_weighChances_172 : decode y_Ga_weighChances.2.1 172 = .ok (.aload_n 0, 1) := dc9_42 (by decide +kernel)
theorem d_Ga_weighChances_173 : decode y_Ga_weighChances.2.1 173 = .ok (.getfield 52, 3) := dc9_180 (by decide +kernel)
theorem d_Ga_weighChances_176 : decode y_Ga_weighChances.2.1 176 = .ok (.iload 6, 2) := dc9_21 (by decide +kernel)
theorem d_Ga_weighChances_178 : decode y_Ga_weighChances.2.1 178 = .ok (.iaload, 1) := dc9_46 (by decide +kernel)
theorem d_Ga_weighChances_179 : decode y_Ga_weighChances.2.1 179 = .ok (.i2l, 1) := dc9_133 (by decide +kernel)
theorem d_Ga_weighChances_180 : decode y_Ga_weighChances.2.1 180 = .ok (.lmul, 1) := dc9_105 (by decide +kernel)
theorem d_Ga_weighChances_181 : decode y_Ga_weighChances.2.1 181 = .ok (.lstore 4, 2) := dc9_55 (by decide +kernel)
theorem d_Ga_weighChances_183 : decode y_Ga_weighChances.2.1 183 = .ok (.lload 4, 2) := dc9_22 (by decide +kernel)
theorem d_Ga_weighChances_185 : decode y_Ga_weighChances.2.1 185 = .ok (.ldc2_w 171, 3) := dc9_20 (by decide +kernel)
theorem d_Ga_weighChances_188 : decode y_Ga_weighChances.2.1 188 = .ok (.lcmp, 1) := dc9_148 (by decide +kernel)
theorem d_Ga_weighChances_189 : decode y_Ga_weighChances.2.1 189 = .ok (.ifCond .lt 19, 3) := dc9_155 (by decide +kernel)
theorem d_Ga_weighChances_208 : decode y_Ga_weighChances.2.1 208 = .ok (.iinc 6 1, 3) := by decide +kernel
theorem d_Ga_weighChances_211 : decode y_Ga_weighChances.2.1 211 = .ok (.goto (-61), 3) := dc9_167 (by decide +kernel)
theorem d_Ga_weighChances_192 : decode y_Ga_weighChances.2.1 192 = .ok (.aload_n 0, 1) := dc9_42 (by decide +kernel)
theorem d_Ga_weighChances_193 : decode y_Ga_weighChances.2.1 193 = .ok (.bipush 6, 2) := dc9_16 (by decide +kernel)
theorem d_Ga_weighChances_195 : decode y_Ga_weighChances.2.1 195 = .ok (.aload_n 0, 1) := dc9_42 (by decide +kernel)
theorem d_Ga_weighChances_196 : decode y_Ga_weighChances.2.1 196 = .ok (.getfield 72, 3) := dc9_180 (by decide +kernel)
theorem d_Ga_weighChances_199 : decode y_Ga_weighChances.2.1 199 = .ok (.getfield 145, 3) := dc9_180 (by decide +kernel)
theorem d_Ga_weighChances_202 : decode y_Ga_weighChances.2.1 202 = .ok (.iload_n 1, 1) := dc9_27 (by decide +kernel)
theorem d_Ga_weighChances_203 : decode y_Ga_weighChances.2.1 203 = .ok (.iaload, 1) := dc9_46 (by decide +kernel)
theorem d_Ga_weighChances_204 : decode y_Ga_weighChances.2.1 204 = .ok (.invokevirtual 148, 3) := dc9_182 (by decide +kernel)
theorem d_Ga_weighChances_207 : decode y_Ga_weighChances.2.1 207 = .ok (.ireturn, 1) := dc9_172 (by decide +kernel)
theorem d_Ga_weighChances_232 : decode y_Ga_weighChances.2.1 232 = .ok (.iload 8, 2) := dc9_21 (by decide +kernel)
theorem d_Ga_weighChances_234 : decode y_Ga_weighChances.2.1 234 = .ok (.iload_n 3, 1) := dc9_29 (by decide +kernel)
theorem d_Ga_weighChances_235 : decode y_Ga_weighChances.2.1 235 = .ok (.if_icmp .ge 34, 3) := dc9_162 (by decide +kernel)
theorem d_Ga_weighChances_269 : decode y_Ga_weighChances.2.1 269 = .ok (.lload 6, 2) := dc9_22 (by decide +kernel)
theorem d_Ga_weighChances_271 : decode y_Ga_weighChances.2.1 271 = .ok (.lload 4, 2) := dc9_22 (by decide +kernel)
theorem d_Ga_weighChances_273 : decode y_Ga_weighChances.2.1 273 = .ok (.lcmp, 1) := dc9_148 (by decide +kernel)
theorem d_Ga_weighChances_238 : decode y_Ga_weighChances.2.1 238 = .ok (.lload 6, 2) := dc9_22 (by decide +kernel)
theorem d_Ga_weighChances_240 : decode y_Ga_weighChances.2.1 240 = .ok (.lload 4, 2) := dc9_22 (by decide +kernel)
theorem d_Ga_weighChances_242 : decode y_Ga_weighChances.2.1 242 = .ok (.aload_n 0, 1) := dc9_42 (by decide +kernel)
theorem d_Ga_weighChances_243 : decode y_Ga_weighChances.2.1 243 = .ok (.getfield 52, 3) := dc9_180 (by decide +kernel)
theorem d_Ga_weighChances_246 : decode y_Ga_weighChances.2.1 246 = .ok (.iload 8, 2) := dc9_21 (by decide +kernel)
theorem d_Ga_weighChances_248 : decode y_Ga_weighChances.2.1 248 = .ok (.iaload, 1) := dc9_46 (by decide +kernel)
theorem d_Ga_weighChances_249 : decode y_Ga_weighChances.2.1 249 = .ok (.i2l, 1) := dc9_133 (by decide +kernel)
theorem d_Ga_weighChances_250 : decode y_Ga_weighChances.2.1 250 = .ok (.ldiv, 1) := dc9_109 (by decide +kernel)
theorem d_Ga_weighChances_251 : decode y_Ga_weighChances.2.1 251 = .ok (.aload_n 0, 1) := dc9_42 (by decide +kernel)
theorem d_Ga_weighChances_252 : decode y_Ga_weighChances.2.1 252 = .ok (.getfield 49, 3) := dc9_180 (by decide +kernel)
theorem d_Ga_weighChances_255 : decode y_Ga_weighChances.2.1 255 = .ok (.iload 8, 2) := dc9_21 (by decide +kernel)
theorem d_Ga_weighChances_257 : decode y_Ga_weighChances.2.1 257 = .ok (.iaload, 1) := dc9_46 (by decide +kernel)
theorem d_Ga_weighChances_258 : decode y_Ga_weighChances.2.1 258 = .ok (.i2l, 1) := dc9_133 (by decide +kernel)
theorem d_Ga_weighChances_259 : decode y_Ga_weighChances.2.1 259 = .ok (.lmul, 1) := dc9_105 (by decide +kernel)
theorem d_Ga_weighChances_260 : decode y_Ga_weighChances.2.1 260 = .ok (.ladd, 1) := dc9_97 (by decide +kernel)
theorem d_Ga_weighChances_261 : decode y_Ga_weighChances.2.1 261 = .ok (.lstore 6, 2) := dc9_55 (by decide +kernel)
theorem d_Ga_weighChances_263 : decode y_Ga_weighChances.2.1 263 = .ok (.iinc 8 1, 3) := by decide +kernel
theorem d_Ga_weighChances_266 : decode y_Ga_weighChances.2.1 266 = .ok (.goto (-34), 3) := dc9_167 (by decide +kernel)
theorem d_Ga_weighChances_274 : decode y_Ga_weighChances.2.1 274 = .ok (.ifCond .ne 7, 3) := dc9_154 (by decide +kernel)
theorem d_Ga_weighChances_277 : decode y_Ga_weighChances.2.1 277 = .ok (.iconst 0, 1) := dc9_3 (by decide +kernel)
theorem d_Ga_weighChances_278 : decode y_Ga_weighChances.2.1 278 = .ok (.goto 18, 3) := dc9_167 (by decide +kernel)
theorem d_Ga_weighChances_281 : decode y_Ga_weighChances.2.1 281 = .ok (.aload_n 0, 1) := dc9_42 (by decide +kernel)
theorem d_Ga_weighChances_282 : decode y_Ga_weighChances.2.1 282 = .ok (.bipush 11, 2) := dc9_16 (by decide +kernel)
theorem d_Ga_weighChances_284 : decode y_Ga_weighChances.2.1 284 = .ok (.aload_n 0, 1) := dc9_42 (by decide +kernel)
theorem d_Ga_weighChances_285 : decode y_Ga_weighChances.2.1 285 = .ok (.getfield 72, 3) := dc9_180 (by decide +kernel)
theorem d_Ga_weighChances_288 : decode y_Ga_weighChances.2.1 288 = .ok (.getfield 145, 3) := dc9_180 (by decide +kernel)
theorem d_Ga_weighChances_291 : decode y_Ga_weighChances.2.1 291 = .ok (.iload_n 1, 1) := dc9_27 (by decide +kernel)
theorem d_Ga_weighChances_292 : decode y_Ga_weighChances.2.1 292 = .ok (.iaload, 1) := dc9_46 (by decide +kernel)
theorem d_Ga_weighChances_293 : decode y_Ga_weighChances.2.1 293 = .ok (.invokevirtual 148, 3) := dc9_182 (by decide +kernel)
theorem d_Ga_weighChances_296 : decode y_Ga_weighChances.2.1 296 = .ok (.ireturn, 1) := dc9_172 (by decide +kernel)
def h_Ga_weighChances_27 (G : mG) (d : Nat) (a0 : Nat) (l1 : Int) (l2 : Int) (l3 : Int) (l4 : Int) (M : mM) (Q : Int → mM → Prop) : Prop := mWm G y_Ga_weighChances (d + 1) 27 [vr a0, vi l1, vi l2, vi l3, vi l4, vd, vd, vd, vd] [] M (fun r9 M9 => ∃ x9, r9 = some (vi x9) ∧ Q x9 M9)
def h_Ga_weighChances_150 (G : mG) (d : Nat) (a0 : Nat) (l1 : Int) (l3 : Int) (j4 : Int) (l6 : Int) (M : mM) (Q : Int → mM → Prop) : Prop := mWm G y_Ga_weighChances (d + 1) 150 [vr a0, vi l1, vd, vi l3, vl j4, vd, vi l6, vd, vd] [] M (fun r9 M9 => ∃ x9, r9 = some (vi x9) ∧ Q x9 M9)
def h_Ga_weighChances_232 (G : mG) (d : Nat) (a0 : Nat) (l1 : Int) (l3 : Int) (j4 : Int) (j6 : Int) (l8 : Int) (M : mM) (Q : Int → mM → Prop) : Prop := mWm G y_Ga_weighChances (d + 1) 232 [vr a0, vi l1, vd, vi l3, vl j4, vd, vl j6, vd, vi l8] [] M (fun r9 M9 => ∃ x9, r9 = some (vi x9) ∧ Q x9 M9)
def h_Ga_weighChances_296 (G : mG) (d : Nat) (k0 : Int) (M : mM) (Q : Int → mM → Prop) : Prop := mWm G y_Ga_weighChances (d + 1) 296 [vd, vd, vd, vd, vd, vd, vd, vd, vd] [vi k0] M (fun r9 M9 => ∃ x9, r9 = some (vi x9) ∧ Q x9 M9)
theorem k_Ga_weighChances {G : mG} {d : Nat} {a0 : Nat} {l1 : Int} {M : mM} {Q : Int → mM → Prop} (hO : mOk M) (hi_l1 : i32 l1)
    (h : mK M a0 = 7 ∧ mK M (mR M a0 14) = 6 ∧ mK M (mR M (mR M a0 14) 16) = 30 ∧ ((0 : Int) ≤ l1 ∧ l1 < (mN M (mR M (mR M a0 14) 16) : Int)) ∧ ((0 : Int) ≤ l1 + 1 ∧ l1 + 1 < (mN M (mR M (mR M a0 14) 16) : Int)) ∧ h_Ga_weighChances_27 G d a0 l1 (mI M (mR M (mR M a0 14) 16) (Int.toNat l1)) ((mI M (mR M (mR M a0 14) 16) (Int.toNat (l1 + 1))) - (mI M (mR M (mR M a0 14) 16) (Int.toNat l1))) 0 M Q) :
    Ci G y_Ga_weighChances (d + 1) [vr a0, vi l1] M Q := by
  refine wm_open (y := y_Ga_weighChances) rfl (Nat.le_of_ble_eq_true rfl) (L := [vr a0, vi l1, vd, vd, vd, vd, vd, vd, vd]) rfl ?_
  obtain ⟨h1, h⟩ := h
  obtain ⟨h2, h⟩ := h
  obtain ⟨h3, h⟩ := h
  obtain ⟨h4, h⟩ := h
  obtain ⟨h5, h⟩ := h
  refine wm_aload_n d_Ga_weighChances_0 rfl rfl ?_
  refine gf_Ga_72 rfl d_Ga_weighChances_1 h1 ?_
  refine gf_Ga_153 rfl d_Ga_weighChances_4 h2 ?_
  refine wm_iload_n d_Ga_weighChances_7 rfl rfl ?_
  refine wm_iald d_Ga_weighChances_8 h3 h4 ?_
  refine wm_istore_n d_Ga_weighChances_9 rfl (by decide) (L' := [vr a0, vi l1, vi (mI M (mR M (mR M a0 14) 16) (Int.toNat l1)), vd, vd, vd, vd, vd, vd]) rfl ?_
  refine wm_aload_n d_Ga_weighChances_10 rfl rfl ?_
  refine gf_Ga_72 rfl d_Ga_weighChances_11 h1 ?_
  refine gf_Ga_153 rfl d_Ga_weighChances_14 h2 ?_
  refine wm_iload_n d_Ga_weighChances_17 rfl rfl ?_
  refine wm_iconst d_Ga_weighChances_18 ?_
  refine wm_iadd d_Ga_weighChances_19 ?_
  refine wm_iald d_Ga_weighChances_20 h3 h5 ?_
  refine wm_iload_n d_Ga_weighChances_21 rfl rfl ?_
  refine wm_isub d_Ga_weighChances_22 ?_
  refine wm_istore_n d_Ga_weighChances_23 rfl (by decide) (L' := [vr a0, vi l1, vi (mI M (mR M (mR M a0 14) 16) (Int.toNat l1)), vi ((mI M (mR M (mR M a0 14) 16) (Int.toNat (l1 + 1))) - (mI M (mR M (mR M a0 14) 16) (Int.toNat l1))), vd, vd, vd, vd, vd]) rfl ?_
  refine wm_iconst d_Ga_weighChances_24 ?_
  refine wm_istore d_Ga_weighChances_25 (by decide) (L' := [vr a0, vi l1, vi (mI M (mR M (mR M a0 14) 16) (Int.toNat l1)), vi ((mI M (mR M (mR M a0 14) 16) (Int.toNat (l1 + 1))) - (mI M (mR M (mR M a0 14) 16) (Int.toNat l1))), vi 0, vd, vd, vd, vd]) rfl ?_
  exact h
theorem k_Ga_weighChances_27 {G : mG} {d : Nat} {a0 : Nat} {l1 : Int} {l2 : Int} {l3 : Int} {l4 : Int} {M : mM} {Q : Int → mM → Prop} (hO : mOk M) (hi_l1 : i32 l1) (hi_l2 : i32 l2) (hi_l3 : i32 l3) (hi_l4 : i32 l4)
    (h : ((l3 ≤ l4) → (h_Ga_weighChances_150 G d a0 l1 l3 1 0 M Q)) ∧ (¬ (l3 ≤ l4) → (mK M a0 = 7 ∧ mK M (mR M a0 14) = 6 ∧ mK M (mR M (mR M a0 14) 18) = 30 ∧ ((0 : Int) ≤ l2 + l4 ∧ l2 + l4 < (mN M (mR M (mR M a0 14) 18) : Int)) ∧ mK M (mR M a0 15) = 5 ∧ Ci G y_Ma_run d [vr (mR M a0 15), vi (mI M (mR M (mR M a0 14) 18) (Int.toNat (l2 + l4)))] M (fun x14 M13 => i32 x14 ∧ mOk M13 ∧ (((x14 = 0) → (mK M13 a0 = 7 ∧ Ci G y_Ga_machineFault d [vr a0] M13 (fun x20 M19 => i32 x20 ∧ mOk M19 ∧ (Q x20 M19)))) ∧ (¬ (x14 = 0) → (mK M13 a0 = 7 ∧ mK M13 (mR M13 a0 15) = 5 ∧ mK M13 (mR M13 (mR M13 a0 15) 6) = 30 ∧ ((0 : Int) ≤ 0 ∧ 0 < (mN M13 (mR M13 (mR M13 a0 15) 6) : Int)) ∧ mK M13 (mR M13 a0 17) = 30 ∧ ((0 : Int) ≤ l4 ∧ l4 < (mN M13 (mR M13 a0 17) : Int)) ∧ ∀ M28, M28 = mUI M13 (mR M13 a0 17) (Int.toNat l4) (mI M13 (mR M13 (mR M13 a0 15) 6) 0) → mK M28 (mR M28 a0 15) = 5 ∧ mK M28 (mR M28 (mR M28 a0 15) 7) = 30 ∧ ((0 : Int) ≤ 0 ∧ 0 < (mN M28 (mR M28 (mR M28 a0 15) 7) : Int)) ∧ mK M28 (mR M28 a0 18) = 30 ∧ ((0 : Int) ≤ l4 ∧ l4 < (mN M28 (mR M28 a0 18) : Int)) ∧ ∀ M35, M35 = mUI M28 (mR M28 a0 18) (Int.toNat l4) (mI M28 (mR M28 (mR M28 a0 15) 7) 0) → mK M35 (mR M35 a0 17) = 30 ∧ ((0 : Int) ≤ l4 ∧ l4 < (mN M35 (mR M35 a0 17) : Int)) ∧ (¬ (mI M35 (mR M35 a0 17) (Int.toNat l4) < 0) → (((0 : Int) ≤ l4 ∧ l4 < (mN M35 (mR M35 a0 17) : Int)) ∧ mK M35 (mR M35 a0 18) = 30 ∧ ((0 : Int) ≤ l4 ∧ l4 < (mN M35 (mR M35 a0 18) : Int)))) ∧ (((mI M35 (mR M35 a0 17) (Int.toNat l4) < 0) ∨ (¬ (mI M35 (mR M35 a0 17) (Int.toNat l4) ≤ mI M35 (mR M35 a0 18) (Int.toNat l4)))) → (mK M35 (mR M35 a0 14) = 6 ∧ mK M35 (mR M35 (mR M35 a0 14) 17) = 30 ∧ ((0 : Int) ≤ l2 + l4 ∧ l2 + l4 < (mN M35 (mR M35 (mR M35 a0 14) 17) : Int)) ∧ Ci G y_Ga_fault d [vr a0, vi 11, vi (mI M35 (mR M35 (mR M35 a0 14) 17) (Int.toNat (l2 + l4)))] M35 (fun x50 M49 => i32 x50 ∧ mOk M49 ∧ (Q x50 M49)))) ∧ (¬ ((mI M35 (mR M35 a0 17) (Int.toNat l4) < 0) ∨ (¬ (mI M35 (mR M35 a0 17) (Int.toNat l4) ≤ mI M35 (mR M35 a0 18) (Int.toNat l4)))) → (h_Ga_weighChances_27 G d a0 l1 l2 l3 (l4 + 1) M35 Q))))))))) :
    h_Ga_weighChances_27 G d a0 l1 l2 l3 l4 M Q := by
  unfold h_Ga_weighChances_27
  refine wm_iload d_Ga_weighChances_27 rfl ?_
  refine wm_iload_n d_Ga_weighChances_29 rfl rfl ?_
  refine wm_icmp_ge (tgt := 144) d_Ga_weighChances_30 rfl hi_l4 hi_l3 (fun c7 => ?_) (fun c7 => ?_)
  · replace h := h.1 c7
    refine wm_lconst (x := 1) d_Ga_weighChances_144 rfl ?_
    refine wm_lstore d_Ga_weighChances_145 (by decide) (L' := [vr a0, vi l1, vi l2, vi l3, vl 1, vd, vd, vd, vd]) rfl ?_
    refine wm_iconst d_Ga_weighChances_147 ?_
    refine wm_istore d_Ga_weighChances_148 (by decide) (L' := [vr a0, vi l1, vi l2, vi l3, vl 1, vd, vi 0, vd, vd]) rfl ?_
    refine wm_less (L' := [vr a0, vi l1, vd, vi l3, vl 1, vd, vi 0, vd, vd]) ⟨Or.inr rfl, Or.inr rfl, Or.inl rfl, Or.inr rfl, Or.inr rfl, Or.inl rfl, Or.inr rfl, Or.inl rfl, Or.inl rfl, trivial⟩ ?_
    exact h
  · replace h := h.2 c7
    obtain ⟨h8, h⟩ := h
    obtain ⟨h9, h⟩ := h
    obtain ⟨h10, h⟩ := h
    obtain ⟨h11, h⟩ := h
    obtain ⟨h12, h⟩ := h
    refine wm_aload_n d_Ga_weighChances_33 rfl rfl ?_
    refine gf_Ga_42 rfl d_Ga_weighChances_34 h8 ?_
    refine wm_aload_n d_Ga_weighChances_37 rfl rfl ?_
    refine gf_Ga_72 rfl d_Ga_weighChances_38 h8 ?_
    refine gf_Ga_158 rfl d_Ga_weighChances_41 h9 ?_
    refine wm_iload_n d_Ga_weighChances_44 rfl rfl ?_
    refine wm_iload d_Ga_weighChances_45 rfl ?_
    refine wm_iadd d_Ga_weighChances_47 ?_
    refine wm_iald d_Ga_weighChances_48 h10 h11 ?_
    refine cf_Ga_123 rfl d_Ga_weighChances_49 h12 (Nat.le_of_ble_eq_true rfl) (Ci.mono h (fun x14 M13 h => ?_))
    obtain ⟨h15, hOM13, h⟩ := h
    refine wm_if_ne (tgt := 60) d_Ga_weighChances_52 rfl h15 (fun c17 => ?_) (fun c17 => ?_)
    · replace h := h.2 c17
      obtain ⟨h22, h⟩ := h
      obtain ⟨h23, h⟩ := h
      obtain ⟨h24, h⟩ := h
      obtain ⟨h25, h⟩ := h
      obtain ⟨h26, h⟩ := h
      obtain ⟨h27, h⟩ := h
      obtain ⟨M28, e29⟩ : ∃ M28, M28 = mUI M13 (mR M13 a0 17) (Int.toNat l4) (mI M13 (mR M13 (mR M13 a0 15) 6) 0) := ⟨_, rfl⟩
      replace h := h M28 e29
      obtain ⟨h30, h⟩ := h
      obtain ⟨h31, h⟩ := h
      obtain ⟨h32, h⟩ := h
      obtain ⟨h33, h⟩ := h
      obtain ⟨h34, h⟩ := h
      obtain ⟨M35, e36⟩ : ∃ M35, M35 = mUI M28 (mR M28 a0 18) (Int.toNat l4) (mI M28 (mR M28 (mR M28 a0 15) 7) 0) := ⟨_, rfl⟩
      replace h := h M35 e36
      obtain ⟨h37, h⟩ := h
      obtain ⟨h38, h⟩ := h
      refine wm_aload_n d_Ga_weighChances_60 rfl rfl ?_
      refine gf_Ga_49 rfl d_Ga_weighChances_61 h22 ?_
      refine wm_iload d_Ga_weighChances_64 rfl ?_
      refine wm_aload_n d_Ga_weighChances_66 rfl rfl ?_
      refine gf_Ga_42 rfl d_Ga_weighChances_67 h22 ?_
      refine gf_Ga_129 rfl d_Ga_weighChances_70 h23 ?_
      refine wm_iconst d_Ga_weighChances_73 ?_
      refine wm_iald d_Ga_weighChances_74 h24 h25 ?_
      have hOM28 : mOk M28 := by rw [e29]; exact mOk_UI hOM13 (hOM13 _ _).1
      refine wm_iastE d_Ga_weighChances_75 h26 h27 (hOM13 _ _).1 e29 ?_
      refine wm_aload_n d_Ga_weighChances_76 rfl rfl ?_
      refine gf_Ga_52 rfl d_Ga_weighChances_77 (by rw [e29]; exact h22) ?_
      refine wm_iload d_Ga_weighChances_80 rfl ?_
      refine wm_aload_n d_Ga_weighChances_82 rfl rfl ?_
      refine gf_Ga_42 rfl d_Ga_weighChances_83 (by rw [e29]; exact h22) ?_
      refine gf_Ga_161 rfl d_Ga_weighChances_86 h30 ?_
      refine wm_iconst d_Ga_weighChances_89 ?_
      refine wm_iald d_Ga_weighChances_90 h31 h32 ?_
      have hOM35 : mOk M35 := by rw [e36]; exact mOk_UI hOM28 (hOM28 _ _).1
      refine wm_iastE d_Ga_weighChances_91 h33 h34 (hOM28 _ _).1 e36 ?_
      refine wm_aload_n d_Ga_weighChances_92 rfl rfl ?_
      refine gf_Ga_49 rfl d_Ga_weighChances_93 (by rw [e36, e29]; exact h22) ?_
      refine wm_iload d_Ga_weighChances_96 rfl ?_
      refine wm_iald d_Ga_weighChances_98 h37 h38 ?_
      obtain ⟨s44, h⟩ := h
      have hE0 : ((mI M35 (mR M35 a0 17) (Int.toNat l4) < 0) ∨ (¬ (mI M35 (mR M35 a0 17) (Int.toNat l4) ≤ mI M35 (mR M35 a0 18) (Int.toNat l4)))) → mWm G y_Ga_weighChances (d + 1) 119 [vr a0, vi l1, vi l2, vi l3, vi l4, vd, vd, vd, vd] [] M35 (fun r9 M9 => ∃ x9, r9 = some (vi x9) ∧ Q x9 M9) := by
        intro q45
        have h := h.1 q45
        obtain ⟨h46, h⟩ := h
        obtain ⟨h47, h⟩ := h
        obtain ⟨h48, h⟩ := h
        refine wm_aload_n d_Ga_weighChances_119 rfl rfl ?_
        refine wm_bipush d_Ga_weighChances_120 (by decide) ?_
        refine wm_aload_n d_Ga_weighChances_122 rfl rfl ?_
        refine gf_Ga_72 rfl d_Ga_weighChances_123 (by rw [e36, e29]; exact h22) ?_
        refine gf_Ga_164 rfl d_Ga_weighChances_126 h46 ?_
        refine wm_iload_n d_Ga_weighChances_129 rfl rfl ?_
        refine wm_iload d_Ga_weighChances_130 rfl ?_
        refine wm_iadd d_Ga_weighChances_132 ?_
        refine wm_iald d_Ga_weighChances_133 h47 h48 ?_
        refine cf_Ga_148 rfl d_Ga_weighChances_134 (by rw [e36, e29]; exact h22) (Nat.le_of_ble_eq_true rfl) (Ci.mono h (fun x50 M49 h => ?_))
        obtain ⟨h51, hOM49, h⟩ := h
        refine wm_ireturn d_Ga_weighChances_137 rfl rfl ?_
        exact ⟨_, rfl, h⟩
      have hE1 : ¬ ((mI M35 (mR M35 a0 17) (Int.toNat l4) < 0) ∨ (¬ (mI M35 (mR M35 a0 17) (Int.toNat l4) ≤ mI M35 (mR M35 a0 18) (Int.toNat l4)))) → mWm G y_Ga_weighChances (d + 1) 138 [vr a0, vi l1, vi l2, vi l3, vi l4, vd, vd, vd, vd] [] M35 (fun r9 M9 => ∃ x9, r9 = some (vi x9) ∧ Q x9 M9) := by
        intro q52
        have h := h.2 q52
        refine wm_iinc d_Ga_weighChances_138 (by decide) rfl (L' := [vr a0, vi l1, vi l2, vi l3, vi (l4 + 1), vd, vd, vd, vd]) rfl ?_
        refine wm_goto (tgt := 27) d_Ga_weighChances_141 rfl ?_
        exact h
      clear h
      have s53 := s44
      refine wm_if_lt (tgt := 119) d_Ga_weighChances_99 rfl (hOM35 _ _).1 (fun c43 => ?_) (fun c43 => ?_)
      · exact hE0 (Or.inl c43)
      · have s53 := s53 c43
        obtain ⟨h39, h40, h41⟩ := s53
        refine wm_aload_n d_Ga_weighChances_102 rfl rfl ?_
        refine gf_Ga_49 rfl d_Ga_weighChances_103 (by rw [e36, e29]; exact h22) ?_
        refine wm_iload d_Ga_weighChances_106 rfl ?_
        refine wm_iald d_Ga_weighChances_108 h37 h39 ?_
        refine wm_aload_n d_Ga_weighChances_109 rfl rfl ?_
        refine gf_Ga_52 rfl d_Ga_weighChances_110 (by rw [e36, e29]; exact h22) ?_
        refine wm_iload d_Ga_weighChances_113 rfl ?_
        refine wm_iald d_Ga_weighChances_115 h40 h41 ?_
        refine wm_icmp_le (tgt := 138) d_Ga_weighChances_116 rfl (hOM35 _ _).1 (hOM35 _ _).1 (fun c42 => ?_) (fun c42 => ?_)
        · exact hE1 (fun z54 => Or.elim z54 c43 (fun z55 => z55 c42))
        · exact hE0 (Or.inr c42)
    · replace c17 := Classical.not_not.mp c17
      replace h := h.1 c17
      obtain ⟨h18, h⟩ := h
      refine wm_aload_n d_Ga_weighChances_55 rfl rfl ?_
      refine cf_Ga_126 rfl d_Ga_weighChances_56 h18 (Nat.le_of_ble_eq_true rfl) (Ci.mono h (fun x20 M19 h => ?_))
      obtain ⟨h21, hOM19, h⟩ := h
      refine wm_ireturn d_Ga_weighChances_59 rfl rfl ?_
      exact ⟨_, rfl, h⟩
theorem k_Ga_weighChances_150 {G : mG} {d : Nat} {a0 : Nat} {l1 : Int} {l3 : Int} {j4 : Int} {l6 : Int} {M : mM} {Q : Int → mM → Prop} (hO : mOk M) (hi_l1 : i32 l1) (hi_l3 : i32 l3) (hi_j4 : i64 j4) (hi_l6 : i32 l6)
    (h : ((l3 ≤ l6) → (mK M a0 = 7 ∧ mK M (mR M a0 6) = 30 ∧ ((0 : Int) ≤ mI M a0 12 ∧ mI M a0 12 < (mN M (mR M a0 6) : Int)) ∧ i32 j4 ∧ ∀ M66, M66 = mUI M (mR M a0 6) (Int.toNat (mI M a0 12)) j4 → h_Ga_weighChances_232 G d a0 l1 l3 j4 0 0 M66 Q)) ∧ (¬ (l3 ≤ l6) → (mK M a0 = 7 ∧ mK M (mR M a0 18) = 30 ∧ ((0 : Int) ≤ l6 ∧ l6 < (mN M (mR M a0 18) : Int)) ∧ Cj G y_Ma_commonDivisor d [vl j4, vl (mI M (mR M a0 18) (Int.toNat l6))] M (fun x72 M71 => i64 x72 ∧ mOk M71 ∧ (x72 ≠ 0 ∧ mK M71 a0 = 7 ∧ mK M71 (mR M71 a0 18) = 30 ∧ ((0 : Int) ≤ l6 ∧ l6 < (mN M71 (mR M71 a0 18) : Int)) ∧ i64 ((Int.tdiv j4 x72) * (mI M71 (mR M71 a0 18) (Int.toNat l6))) ∧ ((cmpL ((Int.tdiv j4 x72) * (mI M71 (mR M71 a0 18) (Int.toNat l6))) 1000000000 < 0) → (h_Ga_weighChances_150 G d a0 l1 l3 ((Int.tdiv j4 x72) * (mI M71 (mR M71 a0 18) (Int.toNat l6))) (l6 + 1) M71 Q)) ∧ (¬ (cmpL ((Int.tdiv j4 x72) * (mI M71 (mR M71 a0 18) (Int.toNat l6))) 1000000000 < 0) → (mK M71 (mR M71 a0 14) = 6 ∧ mK M71 (mR M71 (mR M71 a0 14) 14) = 30 ∧ ((0 : Int) ≤ l1 ∧ l1 < (mN M71 (mR M71 (mR M71 a0 14) 14) : Int)) ∧ Ci G y_Ga_fault d [vr a0, vi 6, vi (mI M71 (mR M71 (mR M71 a0 14) 14) (Int.toNat l1))] M71 (fun x85 M84 => i32 x85 ∧ mOk M84 ∧ (Q x85 M84))))))))) :
    h_Ga_weighChances_150 G d a0 l1 l3 j4 l6 M Q := by
  unfold h_Ga_weighChances_150
  refine wm_iload d_Ga_weighChances_150 rfl ?_
  refine wm_iload_n d_Ga_weighChances_152 rfl rfl ?_
  refine wm_icmp_ge (tgt := 214) d_Ga_weighChances_153 rfl hi_l6 hi_l3 (fun c61 => ?_) (fun c61 => ?_)
  · replace h := h.1 c61
    obtain ⟨h62, h⟩ := h
    obtain ⟨h63, h⟩ := h
    obtain ⟨h64, h⟩ := h
    obtain ⟨h65, h⟩ := h
    obtain ⟨M66, e67⟩ : ∃ M66, M66 = mUI M (mR M a0 6) (Int.toNat (mI M a0 12)) j4 := ⟨_, rfl⟩
    replace h := h M66 e67
    refine wm_aload_n d_Ga_weighChances_214 rfl rfl ?_
    refine gf_Ga_27 rfl d_Ga_weighChances_215 h62 ?_
    refine wm_aload_n d_Ga_weighChances_218 rfl rfl ?_
    refine gf_Ga_59 rfl d_Ga_weighChances_219 h62 ?_
    refine wm_lload d_Ga_weighChances_222 rfl ?_
    refine wm_l2i d_Ga_weighChances_224 ?_
    have hOM66 : mOk M66 := by rw [e67]; exact mOk_UI hO h65
    refine wm_iastE d_Ga_weighChances_225 h63 h64 h65 e67 ?_
    refine wm_lconst (x := 0) d_Ga_weighChances_226 rfl ?_
    refine wm_lstore d_Ga_weighChances_227 (by decide) (L' := [vr a0, vi l1, vd, vi l3, vl j4, vd, vl 0, vd, vd]) rfl ?_
    refine wm_iconst d_Ga_weighChances_229 ?_
    refine wm_istore d_Ga_weighChances_230 (by decide) (L' := [vr a0, vi l1, vd, vi l3, vl j4, vd, vl 0, vd, vi 0]) rfl ?_
    exact h
  · replace h := h.2 c61
    obtain ⟨h68, h⟩ := h
    obtain ⟨h69, h⟩ := h
    obtain ⟨h70, h⟩ := h
    refine wm_lload d_Ga_weighChances_156 rfl ?_
    refine wm_lload d_Ga_weighChances_158 rfl ?_
    refine wm_aload_n d_Ga_weighChances_160 rfl rfl ?_
    refine gf_Ga_52 rfl d_Ga_weighChances_161 h68 ?_
    refine wm_iload d_Ga_weighChances_164 rfl ?_
    refine wm_iald d_Ga_weighChances_166 h69 h70 ?_
    refine wm_i2l d_Ga_weighChances_167 (hO _ _).1 ?_
    refine cf_Ga_167 rfl d_Ga_weighChances_168 (Nat.le_of_ble_eq_true rfl) (Cj.mono h (fun x72 M71 h => ?_))
    obtain ⟨h73, hOM71, h⟩ := h
    obtain ⟨h74, h⟩ := h
    obtain ⟨h75, h⟩ := h
    obtain ⟨h76, h⟩ := h
    obtain ⟨h77, h⟩ := h
    obtain ⟨h78, h⟩ := h
    refine wm_ldiv d_Ga_weighChances_171 hi_j4 h73 h74 ?_
    refine wm_aload_n d_Ga_weighChances_172 rfl rfl ?_
    refine gf_Ga_52 rfl d_Ga_weighChances_173 h75 ?_
    refine wm_iload d_Ga_weighChances_176 rfl ?_
    refine wm_iald d_Ga_weighChances_178 h76 h77 ?_
    refine wm_i2l d_Ga_weighChances_179 (hOM71 _ _).1 ?_
    refine wm_lmul d_Ga_weighChances_180 ?_
    refine wm_lstore d_Ga_weighChances_181 (by decide) (L' := [vr a0, vi l1, vd, vi l3, vl ((Int.tdiv j4 x72) * (mI M71 (mR M71 a0 18) (Int.toNat l6))), vd, vi l6, vd, vd]) rfl ?_
    refine wm_lload d_Ga_weighChances_183 rfl ?_
    refine wm_ldc2 (x := 1000000000) d_Ga_weighChances_185 k8_29 (by decide) ?_
    refine wm_lcmp d_Ga_weighChances_188 h78 ⟨by decide, by decide⟩ ?_
    refine wm_if_lt (tgt := 208) d_Ga_weighChances_189 rfl (m_cmp32 _ _) (fun c80 => ?_) (fun c80 => ?_)
    · replace h := h.1 c80
      refine wm_iinc d_Ga_weighChances_208 (by decide) rfl (L' := [vr a0, vi l1, vd, vi l3, vl ((Int.tdiv j4 x72) * (mI M71 (mR M71 a0 18) (Int.toNat l6))), vd, vi (l6 + 1), vd, vd]) rfl ?_
      refine wm_goto (tgt := 150) d_Ga_weighChances_211 rfl ?_
      exact h
    · replace h := h.2 c80
      obtain ⟨h81, h⟩ := h
      obtain ⟨h82, h⟩ := h
      obtain ⟨h83, h⟩ := h
      refine wm_aload_n d_Ga_weighChances_192 rfl rfl ?_
      refine wm_bipush d_Ga_weighChances_193 (by decide) ?_
      refine wm_aload_n d_Ga_weighChances_195 rfl rfl ?_
      refine gf_Ga_72 rfl d_Ga_weighChances_196 h75 ?_
      refine gf_Ga_145 rfl d_Ga_weighChances_199 h81 ?_
      refine wm_iload_n d_Ga_weighChances_202 rfl rfl ?_
      refine wm_iald d_Ga_weighChances_203 h82 h83 ?_
      refine cf_Ga_148 rfl d_Ga_weighChances_204 h75 (Nat.le_of_ble_eq_true rfl) (Ci.mono h (fun x85 M84 h => ?_))
      obtain ⟨h86, hOM84, h⟩ := h
      refine wm_ireturn d_Ga_weighChances_207 rfl rfl ?_
      exact ⟨_, rfl, h⟩
theorem k_Ga_weighChances_232 {G : mG} {d : Nat} {a0 : Nat} {l1 : Int} {l3 : Int} {j4 : Int} {j6 : Int} {l8 : Int} {M : mM} {Q : Int → mM → Prop} (hO : mOk M) (hi_l1 : i32 l1) (hi_l3 : i32 l3) (hi_j4 : i64 j4) (hi_j6 : i64 j6) (hi_l8 : i32 l8)
    (h : ((l3 ≤ l8) → (((cmpL j6 j4 = 0) → (h_Ga_weighChances_296 G d 0 M Q)) ∧ (¬ (cmpL j6 j4 = 0) → (mK M a0 = 7 ∧ mK M (mR M a0 14) = 6 ∧ mK M (mR M (mR M a0 14) 14) = 30 ∧ ((0 : Int) ≤ l1 ∧ l1 < (mN M (mR M (mR M a0 14) 14) : Int)) ∧ Ci G y_Ga_fault d [vr a0, vi 11, vi (mI M (mR M (mR M a0 14) 14) (Int.toNat l1))] M (fun x103 M102 => i32 x103 ∧ mOk M102 ∧ (h_Ga_weighChances_296 G d x103 M102 Q)))))) ∧ (¬ (l3 ≤ l8) → (mK M a0 = 7 ∧ mK M (mR M a0 18) = 30 ∧ ((0 : Int) ≤ l8 ∧ l8 < (mN M (mR M a0 18) : Int)) ∧ (mI M (mR M a0 18) (Int.toNat l8)) ≠ 0 ∧ mK M (mR M a0 17) = 30 ∧ ((0 : Int) ≤ l8 ∧ l8 < (mN M (mR M a0 17) : Int)) ∧ h_Ga_weighChances_232 G d a0 l1 l3 j4 (j6 + ((Int.tdiv j4 (mI M (mR M a0 18) (Int.toNat l8))) * (mI M (mR M a0 17) (Int.toNat l8)))) (l8 + 1) M Q))) :
    h_Ga_weighChances_232 G d a0 l1 l3 j4 j6 l8 M Q := by
  unfold h_Ga_weighChances_232
  refine wm_iload d_Ga_weighChances_232 rfl ?_
  refine wm_iload_n d_Ga_weighChances_234 rfl rfl ?_
  refine wm_icmp_ge (tgt := 269) d_Ga_weighChances_235 rfl hi_l8 hi_l3 (fun c95 => ?_) (fun c95 => ?_)
  · replace h := h.1 c95
    refine wm_lload d_Ga_weighChances_269 rfl ?_
    refine wm_lload d_Ga_weighChances_271 rfl ?_
    refine wm_lcmp d_Ga_weighChances_273 hi_j6 hi_j4 ?_
    refine wm_if_ne (tgt := 281) d_Ga_weighChances_274 rfl (m_cmp32 _ _) (fun c97 => ?_) (fun c97 => ?_)
    · replace h := h.2 c97
      obtain ⟨h98, h⟩ := h
      obtain ⟨h99, h⟩ := h
      obtain ⟨h100, h⟩ := h
      obtain ⟨h101, h⟩ := h
      refine wm_aload_n d_Ga_weighChances_281 rfl rfl ?_
      refine wm_bipush d_Ga_weighChances_282 (by decide) ?_
      refine wm_aload_n d_Ga_weighChances_284 rfl rfl ?_
      refine gf_Ga_72 rfl d_Ga_weighChances_285 h98 ?_
      refine gf_Ga_145 rfl d_Ga_weighChances_288 h99 ?_
      refine wm_iload_n d_Ga_weighChances_291 rfl rfl ?_
      refine wm_iald d_Ga_weighChances_292 h100 h101 ?_
      refine cf_Ga_148 rfl d_Ga_weighChances_293 h98 (Nat.le_of_ble_eq_true rfl) (Ci.mono h (fun x103 M102 h => ?_))
      obtain ⟨h104, hOM102, h⟩ := h
      refine wm_less (L' := [vd, vd, vd, vd, vd, vd, vd, vd, vd]) ⟨Or.inl rfl, Or.inl rfl, Or.inl rfl, Or.inl rfl, Or.inl rfl, Or.inl rfl, Or.inl rfl, Or.inl rfl, Or.inl rfl, trivial⟩ ?_
      exact h
    · replace c97 := Classical.not_not.mp c97
      replace h := h.1 c97
      refine wm_iconst d_Ga_weighChances_277 ?_
      refine wm_goto (tgt := 296) d_Ga_weighChances_278 rfl ?_
      refine wm_less (L' := [vd, vd, vd, vd, vd, vd, vd, vd, vd]) ⟨Or.inl rfl, Or.inl rfl, Or.inl rfl, Or.inl rfl, Or.inl rfl, Or.inl rfl, Or.inl rfl, Or.inl rfl, Or.inl rfl, trivial⟩ ?_
      exact h
  · replace h := h.2 c95
    obtain ⟨h105, h⟩ := h
    obtain ⟨h106, h⟩ := h
    obtain ⟨h107, h⟩ := h
    obtain ⟨h108, h⟩ := h
    obtain ⟨h109, h⟩ := h
    obtain ⟨h110, h⟩ := h
    refine wm_lload d_Ga_weighChances_238 rfl ?_
    refine wm_lload d_Ga_weighChances_240 rfl ?_
    refine wm_aload_n d_Ga_weighChances_242 rfl rfl ?_
    refine gf_Ga_52 rfl d_Ga_weighChances_243 h105 ?_
    refine wm_iload d_Ga_weighChances_246 rfl ?_
    refine wm_iald d_Ga_weighChances_248 h106 h107 ?_
    refine wm_i2l d_Ga_weighChances_249 (hO _ _).1 ?_
    refine wm_ldiv d_Ga_weighChances_250 hi_j4 (i64_of32 (hO _ _).1) h108 ?_
    refine wm_aload_n d_Ga_weighChances_251 rfl rfl ?_
    refine gf_Ga_49 rfl d_Ga_weighChances_252 h105 ?_
    refine wm_iload d_Ga_weighChances_255 rfl ?_
    refine wm_iald d_Ga_weighChances_257 h109 h110 ?_
    refine wm_i2l d_Ga_weighChances_258 (hO _ _).1 ?_
    refine wm_lmul d_Ga_weighChances_259 ?_
    refine wm_ladd d_Ga_weighChances_260 ?_
    refine wm_lstore d_Ga_weighChances_261 (by decide) (L' := [vr a0, vi l1, vd, vi l3, vl j4, vd, vl (j6 + ((Int.tdiv j4 (mI M (mR M a0 18) (Int.toNat l8))) * (mI M (mR M a0 17) (Int.toNat l8)))), vd, vi l8]) rfl ?_
    refine wm_iinc d_Ga_weighChances_263 (by decide) rfl (L' := [vr a0, vi l1, vd, vi l3, vl j4, vd, vl (j6 + ((Int.tdiv j4 (mI M (mR M a0 18) (Int.toNat l8))) * (mI M (mR M a0 17) (Int.toNat l8)))), vd, vi (l8 + 1)]) rfl ?_
    refine wm_goto (tgt := 232) d_Ga_weighChances_266 rfl ?_
    exact h
theorem k_Ga_weighChances_296 {G : mG} {d : Nat} {k0 : Int} {M : mM} {Q : Int → mM → Prop} (hO : mOk M) (hi_k0 : i32 k0)
    (h : Q k0 M) :
    h_Ga_weighChances_296 G d k0 M Q := by
  unfold h_Ga_weighChances_296
  refine wm_ireturn d_Ga_weighChances_296 rfl rfl ?_
  exact ⟨_, rfl, h⟩
theorem d_Ga_follow_0 : decode y_Ga_follow.2.1 0 = .ok (.aload_n 0, 1) := dc9_42 (by decide +kernel)
theorem d_Ga_follow_1 : decode y_Ga_follow.2.1 1 = .ok (.getfield 42, 3) := dc9_180 (by decide +kernel)
theorem d_Ga_follow_4 : decode y_Ga_follow.2.1 4 = .ok (.invokevirtual 173, 3) := dc9_182 (by decide +kernel)
theorem d_Ga_follow_7 : decode y_Ga_follow.2.1 7 = .ok (.aload_n 0, 1) := dc9_42 (by decide +kernel)
theorem d_Ga_follow_8 : decode y_Ga_follow.2.1 8 = .ok (.getfield 42, 3) := dc9_180 (by decide +kernel)
theorem d_Ga_follow_11 : decode y_Ga_follow.2.1 11 = .ok (.aload_n 0, 1) := dc9_42 (by decide +kernel)
theorem d_Ga_follow_12 : decode y_Ga_follow.2.1 12 = .ok (.getfield 72, 3) := dc9_180 (by decide +kernel)
theorem d_Ga_follow_15 : decode y_Ga_follow.2.1 15 = .ok (.getfield 176, 3) := dc9_180 (by decide +kernel)
theorem d_Ga_follow_18 : decode y_Ga_follow.2.1 18 = .ok (.iload_n 2, 1) := dc9_28 (by decide +kernel)
theorem d_Ga_follow_19 : decode y_Ga_follow.2.1 19 = .ok (.iaload, 1) := dc9_46 (by decide +kernel)
theorem d_Ga_follow_20 : decode y_Ga_follow.2.1 20 = .ok (.invokevirtual 123, 3) := dc9_182 (by decide +kernel)
theorem d_Ga_follow_23 : decode y_Ga_follow.2.1 23 = .ok (.ifCond .ne 8, 3) := dc9_154 (by decide +kernel)
theorem d_Ga_follow_26 : decode y_Ga_follow.2.1 26 = .ok (.aload_n 0, 1) := dc9_42 (by decide +kernel)
theorem d_Ga_follow_31 : decode y_Ga_follow.2.1 31 = .ok (.aload_n 0, 1) := dc9_42 (by decide +kernel)
theorem d_Ga_follow_27 : decode y_Ga_follow.2.1 27 = .ok (.invokevirtual 126, 3) := dc9_182 (by decide +kernel)
theorem d_Ga_follow_30 : decode y_Ga_follow.2.1 30 = .ok (.ireturn, 1) := dc9_172 (by decide +kernel)
theorem d_Ga_follow_32 : decode y_Ga_follow.2.1 32 = .ok (.invokevirtual 100, 3) := dc9_182 (by decide +kernel)
theorem d_Ga_follow_35 : decode y_Ga_follow.2.1 35 = .ok (.istore 4, 2) := dc9_54 (by decide +kernel)
theorem d_Ga_follow_37 : decode y_Ga_follow.2.1 37 = .ok (.iload 4, 2) := dc9_21 (by decide +kernel)
theorem d_Ga_follow_39 : decode y_Ga_follow.2.1 39 = .ok (.iconst (-1), 1) := dc9_2 (by decide +kernel)
theorem d_Ga_follow_40 : decode y_Ga_follow.2.1 40 = .ok (.if_icmp .ne 18, 3) := dc9_160 (by decide +kernel)
theorem d_Ga_follow_43 : decode y_Ga_follow.2.1 43 = .ok (.aload_n 0, 1) := dc9_42 (by decide +kernel)
theorem d_Ga_follow_44 : decode y_Ga_follow.2.1 44 = .ok (.iconst 5, 1) := dc9_8 (by decide +kernel)
theorem d_Ga_follow_45 : decode y_Ga_follow.2.1 45 = .ok (.aload_n 0, 1) := dc9_42 (by decide +kernel)
theorem d_Ga_follow_46 : decode y_Ga_follow.2.1 46 = .ok (.getfield 72, 3) := dc9_180 (by decide +kernel)
theorem d_Ga_follow_49 : decode y_Ga_follow.2.1 49 = .ok (.getfield 164, 3) := dc9_180 (by decide +kernel)
theorem d_Ga_follow_52 : decode y_Ga_follow.2.1 52 = .ok (.iload_n 2, 1) := dc9_28 (by decide +kernel)
theorem d_Ga_follow_53 : decode y_Ga_follow.2.1 53 = .ok (.iaload, 1) := dc9_46 (by decide +kernel)
theorem d_Ga_follow_58 : decode y_Ga_follow.2.1 58 = .ok (.aload_n 0, 1) := dc9_42 (by decide +kernel)
theorem d_Ga_follow_59 : decode y_Ga_follow.2.1 59 = .ok (.getfield 30, 3) := dc9_180 (by decide +kernel)
theorem d_Ga_follow_62 : decode y_Ga_follow.2.1 62 = .ok (.aload_n 0, 1) := dc9_42 (by decide +kernel)
theorem d_Ga_follow_63 : decode y_Ga_follow.2.1 63 = .ok (.getfield 59, 3) := dc9_180 (by decide +kernel)
theorem d_Ga_follow_66 : decode y_Ga_follow.2.1 66 = .ok (.iaload, 1) := dc9_46 (by decide +kernel)
theorem d_Ga_follow_67 : decode y_Ga_follow.2.1 67 = .ok (.istore 5, 2) := dc9_54 (by decide +kernel)
theorem d_Ga_follow_54 : decode y_Ga_follow.2.1 54 = .ok (.invokevirtual 148, 3) := dc9_182 (by decide +kernel)
theorem d_Ga_follow_57 : decode y_Ga_follow.2.1 57 = .ok (.ireturn, 1) := dc9_172 (by decide +kernel)
theorem d_Ga_follow_69 : decode y_Ga_follow.2.1 69 = .ok (.iload 5, 2) := dc9_21 (by decide +kernel)
theorem d_Ga_follow_71 : decode y_Ga_follow.2.1 71 = .ok (.aload_n 0, 1) := dc9_42 (by decide +kernel)
theorem d_Ga_follow_72 : decode y_Ga_follow.2.1 72 = .ok (.getfield 62, 3) := dc9_180 (by decide +kernel)
theorem d_Ga_follow_75 : decode y_Ga_follow.2.1 75 = .ok (.if_icmp .ge 34, 3) := dc9_162 (by decide +kernel)
theorem d_Ga_follow_109 : decode y_Ga_follow.2.1 109 = .ok (.aload_n 0, 1) := dc9_42 (by decide +kernel)
theorem d_Ga_follow_110 : decode y_Ga_follow.2.1 110 = .ok (.getfield 62, 3) := dc9_180 (by decide +kernel)
theorem d_Ga_follow_113 : decode y_Ga_follow.2.1 113 = .ok (.sipush 4096, 3) := dc9_17 (by decide +kernel)
theorem d_Ga_follow_78 : decode y_Ga_follow.2.1 78 = .ok (.aload_n 0, 1) := dc9_42 (by decide +kernel)
theorem d_Ga_follow_79 : decode y_Ga_follow.2.1 79 = .ok (.getfield 33, 3) := dc9_180 (by decide +kernel)
theorem d_Ga_follow_82 : decode y_Ga_follow.2.1 82 = .ok (.iload 5, 2) := dc9_21 (by decide +kernel)
theorem d_Ga_follow_84 : decode y_Ga_follow.2.1 84 = .ok (.iaload, 1) := dc9_46 (by decide +kernel)
theorem d_Ga_follow_85 : decode y_Ga_follow.2.1 85 = .ok (.iload 4, 2) := dc9_21 (by decide +kernel)
theorem d_Ga_follow_116 : decode y_Ga_follow.2.1 116 = .ok (.if_icmp .ne 18, 3) := dc9_160 (by decide +kernel)
theorem d_Ga_follow_119 : decode y_Ga_follow.2.1 119 = .ok (.aload_n 0, 1) := dc9_42 (by decide +kernel)
theorem d_Ga_follow_120 : decode y_Ga_follow.2.1 120 = .ok (.iconst 5, 1) := dc9_8 (by decide +kernel)
theorem d_Ga_follow_121 : decode y_Ga_follow.2.1 121 = .ok (.aload_n 0, 1) := dc9_42 (by decide +kernel)
theorem d_Ga_follow_122 : decode y_Ga_follow.2.1 122 = .ok (.getfield 72, 3) := dc9_180 (by decide +kernel)
theorem d_Ga_follow_125 : decode y_Ga_follow.2.1 125 = .ok (.getfield 145, 3) := dc9_180 (by decide +kernel)
theorem d_Ga_follow_128 : decode y_Ga_follow.2.1 128 = .ok (.iload_n 1, 1) := dc9_27 (by decide +kernel)
theorem d_Ga_follow_129 : decode y_Ga_follow.2.1 129 = .ok (.iaload, 1) := dc9_46 (by decide +kernel)
theorem d_Ga_follow_134 : decode y_Ga_follow.2.1 134 = .ok (.aload_n 0, 1) := dc9_42 (by decide +kernel)
theorem d_Ga_follow_135 : decode y_Ga_follow.2.1 135 = .ok (.getfield 33, 3) := dc9_180 (by decide +kernel)
theorem d_Ga_follow_138 : decode y_Ga_follow.2.1 138 = .ok (.aload_n 0, 1) := dc9_42 (by decide +kernel)
theorem d_Ga_follow_139 : decode y_Ga_follow.2.1 139 = .ok (.getfield 62, 3) := dc9_180 (by decide +kernel)
theorem d_Ga_follow_142 : decode y_Ga_follow.2.1 142 = .ok (.iload 4, 2) := dc9_21 (by decide +kernel)
theorem d_Ga_follow_144 : decode y_Ga_follow.2.1 144 = .ok (.iastore, 1) := dc9_79 (by decide +kernel)
theorem d_Ga_follow_145 : decode y_Ga_follow.2.1 145 = .ok (.aload_n 0, 1) := dc9_42 (by decide +kernel)
theorem d_Ga_follow_146 : decode y_Ga_follow.2.1 146 = .ok (.getfield 36, 3) := dc9_180 (by decide +kernel)
theorem d_Ga_follow_149 : decode y_Ga_follow.2.1 149 = .ok (.aload_n 0, 1) := dc9_42 (by decide +kernel)
theorem d_Ga_follow_150 : decode y_Ga_follow.2.1 150 = .ok (.getfield 62, 3) := dc9_180 (by decide +kernel)
theorem d_Ga_follow_153 : decode y_Ga_follow.2.1 153 = .ok (.iload_n 3, 1) := dc9_29 (by decide +kernel)
theorem d_Ga_follow_154 : decode y_Ga_follow.2.1 154 = .ok (.iastore, 1) := dc9_79 (by decide +kernel)
theorem d_Ga_follow_87 : decode y_Ga_follow.2.1 87 = .ok (.if_icmp .ne 16, 3) := dc9_160 (by decide +kernel)
theorem d_Ga_follow_90 : decode y_Ga_follow.2.1 90 = .ok (.aload_n 0, 1) := dc9_42 (by decide +kernel)
theorem d_Ga_follow_91 : decode y_Ga_follow.2.1 91 = .ok (.getfield 36, 3) := dc9_180 (by decide +kernel)
theorem d_Ga_follow_94 : decode y_Ga_follow.2.1 94 = .ok (.iload 5, 2) := dc9_21 (by decide +kernel)
theorem d_Ga_follow_96 : decode y_Ga_follow.2.1 96 = .ok (.dup2, 1) := dc9_92 (by decide +kernel)
theorem d_Ga_follow_97 : decode y_Ga_follow.2.1 97 = .ok (.iaload, 1) := dc9_46 (by decide +kernel)
theorem d_Ga_follow_98 : decode y_Ga_follow.2.1 98 = .ok (.iload_n 3, 1) := dc9_29 (by decide +kernel)
theorem d_Ga_follow_99 : decode y_Ga_follow.2.1 99 = .ok (.iadd, 1) := dc9_96 (by decide +kernel)
theorem d_Ga_follow_100 : decode y_Ga_follow.2.1 100 = .ok (.iastore, 1) := dc9_79 (by decide +kernel)
theorem d_Ga_follow_101 : decode y_Ga_follow.2.1 101 = .ok (.iconst 0, 1) := dc9_3 (by decide +kernel)
theorem d_Ga_follow_102 : decode y_Ga_follow.2.1 102 = .ok (.ireturn, 1) := dc9_172 (by decide +kernel)
theorem d_Ga_follow_103 : decode y_Ga_follow.2.1 103 = .ok (.iinc 5 1, 3) := by decide +kernel
theorem d_Ga_follow_106 : decode y_Ga_follow.2.1 106 = .ok (.goto (-37), 3) := dc9_167 (by decide +kernel)
theorem d_Ga_follow_130 : decode y_Ga_follow.2.1 130 = .ok (.invokevirtual 148, 3) := dc9_182 (by decide +kernel)
theorem d_Ga_follow_133 : decode y_Ga_follow.2.1 133 = .ok (.ireturn, 1) := dc9_172 (by decide +kernel)
theorem d_Ga_follow_155 : decode y_Ga_follow.2.1 155 = .ok (.aload_n 0, 1) := dc9_42 (by decide +kernel)
theorem d_Ga_follow_156 : decode y_Ga_follow.2.1 156 = .ok (.dup, 1) := dc9_89 (by decide +kernel)
theorem d_Ga_follow_157 : decode y_Ga_follow.2.1 157 = .ok (.getfield 62, 3) := dc9_180 (by decide +kernel)
theorem d_Ga_follow_160 : decode y_Ga_follow.2.1 160 = .ok (.iconst 1, 1) := dc9_4 (by decide +kernel)
theorem d_Ga_follow_161 : decode y_Ga_follow.2.1 161 = .ok (.iadd, 1) := dc9_96 (by decide +kernel)
theorem d_Ga_follow_162 : decode y_Ga_follow.2.1 162 = .ok (.putfield 62, 3) := dc9_181 (by decide +kernel)
theorem d_Ga_follow_165 : decode y_Ga_follow.2.1 165 = .ok (.iconst 0, 1) := dc9_3 (by decide +kernel)
theorem d_Ga_follow_166 : decode y_Ga_follow.2.1 166 = .ok (.ireturn, 1) := dc9_172 (by decide +kernel)
def h_Ga_follow_69 (G : mG) (d : Nat) (a0 : Nat) (l1 : Int) (l3 : Int) (l4 : Int) (l5 : Int) (M : mM) (Q : Int → mM → Prop) : Prop := mWm G y_Ga_follow (d + 1) 69 [vr a0, vi l1, vd, vi l3, vi l4, vi l5] [] M (fun r9 M9 => ∃ x9, r9 = some (vi x9) ∧ Q x9 M9)
theorem k_Ga_follow {G : mG} {d : Nat} {a0 : Nat} {l1 : Int} {l2 : Int} {l3 : Int} {M : mM} {Q : Int → mM → Prop} (hO : mOk M) (hi_l1 : i32 l1) (hi_l2 : i32 l2) (hi_l3 : i32 l3)
    (h : mK M a0 = 7 ∧ mK M (mR M a0 15) = 5 ∧ Cv G y_Ma_beginSets d [vr (mR M a0 15)] M (fun M3 => mOk M3 ∧ (mK M3 a0 = 7 ∧ mK M3 (mR M3 a0 14) = 6 ∧ mK M3 (mR M3 (mR M3 a0 14) 19) = 30 ∧ ((0 : Int) ≤ l2 ∧ l2 < (mN M3 (mR M3 (mR M3 a0 14) 19) : Int)) ∧ mK M3 (mR M3 a0 15) = 5 ∧ Ci G y_Ma_run d [vr (mR M3 a0 15), vi (mI M3 (mR M3 (mR M3 a0 14) 19) (Int.toNat l2))] M3 (fun x12 M11 => i32 x12 ∧ mOk M11 ∧ (((x12 = 0) → (mK M11 a0 = 7 ∧ Ci G y_Ga_machineFault d [vr a0] M11 (fun x18 M17 => i32 x18 ∧ mOk M17 ∧ (Q x18 M17)))) ∧ (¬ (x12 = 0) → (mK M11 a0 = 7 ∧ Ci G y_Ga_enter d [vr a0] M11 (fun x22 M21 => i32 x22 ∧ mOk M21 ∧ (((x22 = (-1)) → (mK M21 a0 = 7 ∧ mK M21 (mR M21 a0 14) = 6 ∧ mK M21 (mR M21 (mR M21 a0 14) 17) = 30 ∧ ((0 : Int) ≤ l2 ∧ l2 < (mN M21 (mR M21 (mR M21 a0 14) 17) : Int)) ∧ Ci G y_Ga_fault d [vr a0, vi 5, vi (mI M21 (mR M21 (mR M21 a0 14) 17) (Int.toNat l2))] M21 (fun x34 M33 => i32 x34 ∧ mOk M33 ∧ (Q x34 M33)))) ∧ (¬ (x22 = (-1)) → (mK M21 a0 = 7 ∧ mK M21 (mR M21 a0 7) = 30 ∧ ((0 : Int) ≤ mI M21 a0 12 ∧ mI M21 a0 12 < (mN M21 (mR M21 a0 7) : Int)) ∧ h_Ga_follow_69 G d a0 l1 l3 x22 (mI M21 (mR M21 a0 7) (Int.toNat (mI M21 a0 12))) M21 Q))))))))))) :
    Ci G y_Ga_follow (d + 1) [vr a0, vi l1, vi l2, vi l3] M Q := by
  refine wm_open (y := y_Ga_follow) rfl (Nat.le_of_ble_eq_true rfl) (L := [vr a0, vi l1, vi l2, vi l3, vd, vd]) rfl ?_
  obtain ⟨h1, h⟩ := h
  obtain ⟨h2, h⟩ := h
  refine wm_aload_n d_Ga_follow_0 rfl rfl ?_
  refine gf_Ga_42 rfl d_Ga_follow_1 h1 ?_
  refine cf_Ga_173 rfl d_Ga_follow_4 h2 (Nat.le_of_ble_eq_true rfl) (Cv.mono h (fun M3 h => ?_))
  obtain ⟨hOM3, h⟩ := h
  obtain ⟨h6, h⟩ := h
  obtain ⟨h7, h⟩ := h
  obtain ⟨h8, h⟩ := h
  obtain ⟨h9, h⟩ := h
  obtain ⟨h10, h⟩ := h
  refine wm_aload_n d_Ga_follow_7 rfl rfl ?_
  refine gf_Ga_42 rfl d_Ga_follow_8 h6 ?_
  refine wm_aload_n d_Ga_follow_11 rfl rfl ?_
  refine gf_Ga_72 rfl d_Ga_follow_12 h6 ?_
  refine gf_Ga_176 rfl d_Ga_follow_15 h7 ?_
  refine wm_iload_n d_Ga_follow_18 rfl rfl ?_
  refine wm_iald d_Ga_follow_19 h8 h9 ?_
  refine cf_Ga_123 rfl d_Ga_follow_20 h10 (Nat.le_of_ble_eq_true rfl) (Ci.mono h (fun x12 M11 h => ?_))
  obtain ⟨h13, hOM11, h⟩ := h
  refine wm_if_ne (tgt := 31) d_Ga_follow_23 rfl h13 (fun c15 => ?_) (fun c15 => ?_)
  · replace h := h.2 c15
    obtain ⟨h20, h⟩ := h
    refine wm_aload_n d_Ga_follow_31 rfl rfl ?_
    refine cf_Ga_100 rfl d_Ga_follow_32 h20 (Nat.le_of_ble_eq_true rfl) (Ci.mono h (fun x22 M21 h => ?_))
    obtain ⟨h23, hOM21, h⟩ := h
    refine wm_istore d_Ga_follow_35 (by decide) (L' := [vr a0, vi l1, vi l2, vi l3, vi x22, vd]) rfl ?_
    refine wm_iload d_Ga_follow_37 rfl ?_
    refine wm_iconst d_Ga_follow_39 ?_
    refine wm_icmp_ne (tgt := 58) d_Ga_follow_40 rfl h23 ⟨by decide, by decide⟩ (fun c28 => ?_) (fun c28 => ?_)
    · replace h := h.2 c28
      obtain ⟨h36, h⟩ := h
      obtain ⟨h37, h⟩ := h
      obtain ⟨h38, h⟩ := h
      refine wm_aload_n d_Ga_follow_58 rfl rfl ?_
      refine gf_Ga_30 rfl d_Ga_follow_59 h36 ?_
      refine wm_aload_n d_Ga_follow_62 rfl rfl ?_
      refine gf_Ga_59 rfl d_Ga_follow_63 h36 ?_
      refine wm_iald d_Ga_follow_66 h37 h38 ?_
      refine wm_istore d_Ga_follow_67 (by decide) (L' := [vr a0, vi l1, vi l2, vi l3, vi x22, vi (mI M21 (mR M21 a0 7) (Int.toNat (mI M21 a0 12)))]) rfl ?_
      refine wm_less (L' := [vr a0, vi l1, vd, vi l3, vi x22, vi (mI M21 (mR M21 a0 7) (Int.toNat (mI M21 a0 12)))]) ⟨Or.inr rfl, Or.inr rfl, Or.inl rfl, Or.inr rfl, Or.inr rfl, Or.inr rfl, trivial⟩ ?_
      exact h
    · replace c28 := Classical.not_not.mp c28
      replace h := h.1 c28
      obtain ⟨h29, h⟩ := h
      obtain ⟨h30, h⟩ := h
      obtain ⟨h31, h⟩ := h
      obtain ⟨h32, h⟩ := h
      refine wm_aload_n d_Ga_follow_43 rfl rfl ?_
      refine wm_iconst d_Ga_follow_44 ?_
      refine wm_aload_n d_Ga_follow_45 rfl rfl ?_
      refine gf_Ga_72 rfl d_Ga_follow_46 h29 ?_
      refine gf_Ga_164 rfl d_Ga_follow_49 h30 ?_
      refine wm_iload_n d_Ga_follow_52 rfl rfl ?_
      refine wm_iald d_Ga_follow_53 h31 h32 ?_
      refine cf_Ga_148 rfl d_Ga_follow_54 h29 (Nat.le_of_ble_eq_true rfl) (Ci.mono h (fun x34 M33 h => ?_))
      obtain ⟨h35, hOM33, h⟩ := h
      refine wm_ireturn d_Ga_follow_57 rfl rfl ?_
      exact ⟨_, rfl, h⟩
  · replace c15 := Classical.not_not.mp c15
    replace h := h.1 c15
    obtain ⟨h16, h⟩ := h
    refine wm_aload_n d_Ga_follow_26 rfl rfl ?_
    refine cf_Ga_126 rfl d_Ga_follow_27 h16 (Nat.le_of_ble_eq_true rfl) (Ci.mono h (fun x18 M17 h => ?_))
    obtain ⟨h19, hOM17, h⟩ := h
    refine wm_ireturn d_Ga_follow_30 rfl rfl ?_
    exact ⟨_, rfl, h⟩
theorem k_Ga_follow_69 {G : mG} {d : Nat} {a0 : Nat} {l1 : Int} {l3 : Int} {l4 : Int} {l5 : Int} {M : mM} {Q : Int → mM → Prop} (hO : mOk M) (hi_l1 : i32 l1) (hi_l3 : i32 l3) (hi_l4 : i32 l4) (hi_l5 : i32 l5)
    (h : mK M a0 = 7 ∧ ((mI M a0 13 ≤ l5) → (((mI M a0 13 = 4096) → (mK M (mR M a0 14) = 6 ∧ mK M (mR M (mR M a0 14) 14) = 30 ∧ ((0 : Int) ≤ l1 ∧ l1 < (mN M (mR M (mR M a0 14) 14) : Int)) ∧ Ci G y_Ga_fault d [vr a0, vi 5, vi (mI M (mR M (mR M a0 14) 14) (Int.toNat l1))] M (fun x62 M61 => i32 x62 ∧ mOk M61 ∧ (Q x62 M61)))) ∧ (¬ (mI M a0 13 = 4096) → (mK M (mR M a0 8) = 30 ∧ ((0 : Int) ≤ mI M a0 13 ∧ mI M a0 13 < (mN M (mR M a0 8) : Int)) ∧ ∀ M66, M66 = mUI M (mR M a0 8) (Int.toNat (mI M a0 13)) l4 → mK M66 (mR M66 a0 9) = 30 ∧ ((0 : Int) ≤ mI M66 a0 13 ∧ mI M66 a0 13 < (mN M66 (mR M66 a0 9) : Int)) ∧ ∀ M70, M70 = mUI M66 (mR M66 a0 9) (Int.toNat (mI M66 a0 13)) l3 → i32 ((mI M70 a0 13) + 1) ∧ ∀ M73, M73 = mUI M70 a0 13 ((mI M70 a0 13) + 1) → Q 0 M73)))) ∧ (¬ (mI M a0 13 ≤ l5) → (mK M (mR M a0 8) = 30 ∧ ((0 : Int) ≤ l5 ∧ l5 < (mN M (mR M a0 8) : Int)) ∧ ((mI M (mR M a0 8) (Int.toNat l5) = l4) → (mK M (mR M a0 9) = 30 ∧ ((0 : Int) ≤ l5 ∧ l5 < (mN M (mR M a0 9) : Int)) ∧ ((0 : Int) ≤ l5 ∧ l5 < (mN M (mR M a0 9) : Int)) ∧ i32 ((mI M (mR M a0 9) (Int.toNat l5)) + l3) ∧ ∀ M87, M87 = mUI M (mR M a0 9) (Int.toNat l5) ((mI M (mR M a0 9) (Int.toNat l5)) + l3) → Q 0 M87)) ∧ (¬ (mI M (mR M a0 8) (Int.toNat l5) = l4) → (h_Ga_follow_69 G d a0 l1 l3 l4 (l5 + 1) M Q))))) :
    h_Ga_follow_69 G d a0 l1 l3 l4 l5 M Q := by
  unfold h_Ga_follow_69
  obtain ⟨h39, h⟩ := h
  refine wm_iload d_Ga_follow_69 rfl ?_
  refine wm_aload_n d_Ga_follow_71 rfl rfl ?_
  refine gf_Ga_62 rfl d_Ga_follow_72 h39 ?_
  refine wm_icmp_ge (tgt := 109) d_Ga_follow_75 rfl hi_l5 (hO _ _).1 (fun c55 => ?_) (fun c55 => ?_)
  · replace h := h.1 c55
    refine wm_aload_n d_Ga_follow_109 rfl rfl ?_
    refine gf_Ga_62 rfl d_Ga_follow_110 h39 ?_
    refine wm_sipush d_Ga_follow_113 (by decide) ?_
    refine wm_icmp_ne (tgt := 134) d_Ga_follow_116 rfl (hO _ _).1 ⟨by decide, by decide⟩ (fun c57 => ?_) (fun c57 => ?_)
    · replace h := h.2 c57
      obtain ⟨h64, h⟩ := h
      obtain ⟨h65, h⟩ := h
      obtain ⟨M66, e67⟩ : ∃ M66, M66 = mUI M (mR M a0 8) (Int.toNat (mI M a0 13)) l4 := ⟨_, rfl⟩
      replace h := h M66 e67
      obtain ⟨h68, h⟩ := h
      obtain ⟨h69, h⟩ := h
      obtain ⟨M70, e71⟩ : ∃ M70, M70 = mUI M66 (mR M66 a0 9) (Int.toNat (mI M66 a0 13)) l3 := ⟨_, rfl⟩
      replace h := h M70 e71
      obtain ⟨h72, h⟩ := h
      obtain ⟨M73, e74⟩ : ∃ M73, M73 = mUI M70 a0 13 ((mI M70 a0 13) + 1) := ⟨_, rfl⟩
      replace h := h M73 e74
      refine wm_aload_n d_Ga_follow_134 rfl rfl ?_
      refine gf_Ga_33 rfl d_Ga_follow_135 h39 ?_
      refine wm_aload_n d_Ga_follow_138 rfl rfl ?_
      refine gf_Ga_62 rfl d_Ga_follow_139 h39 ?_
      refine wm_iload d_Ga_follow_142 rfl ?_
      have hOM66 : mOk M66 := by rw [e67]; exact mOk_UI hO hi_l4
      refine wm_iastE d_Ga_follow_144 h64 h65 hi_l4 e67 ?_
      refine wm_aload_n d_Ga_follow_145 rfl rfl ?_
      refine gf_Ga_36 rfl d_Ga_follow_146 (by rw [e67]; exact h39) ?_
      refine wm_aload_n d_Ga_follow_149 rfl rfl ?_
      refine gf_Ga_62 rfl d_Ga_follow_150 (by rw [e67]; exact h39) ?_
      refine wm_iload_n d_Ga_follow_153 rfl rfl ?_
      have hOM70 : mOk M70 := by rw [e71]; exact mOk_UI hOM66 hi_l3
      refine wm_iastE d_Ga_follow_154 h68 h69 hi_l3 e71 ?_
      refine wm_aload_n d_Ga_follow_155 rfl rfl ?_
      refine wm_dup d_Ga_follow_156 rfl ?_
      refine gf_Ga_62 rfl d_Ga_follow_157 (by rw [e71, e67]; exact h39) ?_
      refine wm_iconst d_Ga_follow_160 ?_
      refine wm_iadd d_Ga_follow_161 ?_
      have hOM73 : mOk M73 := by rw [e74]; exact mOk_UI hOM70 h72
      refine pf_Ga_62 rfl d_Ga_follow_162 (by rw [e71, e67]; exact h39) h72 e74 ?_
      refine wm_iconst d_Ga_follow_165 ?_
      refine wm_ireturn d_Ga_follow_166 rfl rfl ?_
      exact ⟨_, rfl, h⟩
    · replace c57 := Classical.not_not.mp c57
      replace h := h.1 c57
      obtain ⟨h58, h⟩ := h
      obtain ⟨h59, h⟩ := h
      obtain ⟨h60, h⟩ := h
      refine wm_aload_n d_Ga_follow_119 rfl rfl ?_
      refine wm_iconst d_Ga_follow_120 ?_
      refine wm_aload_n d_Ga_follow_121 rfl rfl ?_
      refine gf_Ga_72 rfl d_Ga_follow_122 h39 ?_
      refine gf_Ga_145 rfl d_Ga_follow_125 h58 ?_
      refine wm_iload_n d_Ga_follow_128 rfl rfl ?_
      refine wm_iald d_Ga_follow_129 h59 h60 ?_
      refine cf_Ga_148 rfl d_Ga_follow_130 h39 (Nat.le_of_ble_eq_true rfl) (Ci.mono h (fun x62 M61 h => ?_))
      obtain ⟨h63, hOM61, h⟩ := h
      refine wm_ireturn d_Ga_follow_133 rfl rfl ?_
      exact ⟨_, rfl, h⟩
  · replace h := h.2 c55
    obtain ⟨h75, h⟩ := h
    obtain ⟨h76, h⟩ := h
    refine wm_aload_n d_Ga_follow_78 rfl rfl ?_
    refine gf_Ga_33 rfl d_Ga_follow_79 h39 ?_
    refine wm_iload d_Ga_follow_82 rfl ?_
    refine wm_iald d_Ga_follow_84 h75 h76 ?_
    refine wm_iload d_Ga_follow_85 rfl ?_
    refine wm_icmp_ne (tgt := 103) d_Ga_follow_87 rfl (hO _ _).1 hi_l4 (fun c82 => ?_) (fun c82 => ?_)
    · replace h := h.2 c82
      refine wm_iinc d_Ga_follow_103 (by decide) rfl (L' := [vr a0, vi l1, vd, vi l3, vi l4, vi (l5 + 1)]) rfl ?_
      refine wm_goto (tgt := 69) d_Ga_follow_106 rfl ?_
      exact h
    · replace c82 := Classical.not_not.mp c82
      replace h := h.1 c82
      obtain ⟨h83, h⟩ := h
      obtain ⟨h84, h⟩ := h
      obtain ⟨h85, h⟩ := h
      obtain ⟨h86, h⟩ := h
      obtain ⟨M87, e88⟩ : ∃ M87, M87 = mUI M (mR M a0 9) (Int.toNat l5) ((mI M (mR M a0 9) (Int.toNat l5)) + l3) := ⟨_, rfl⟩
      replace h := h M87 e88
      refine wm_aload_n d_Ga_follow_90 rfl rfl ?_
      refine gf_Ga_36 rfl d_Ga_follow_91 h39 ?_
      refine wm_iload d_Ga_follow_94 rfl ?_
      refine wm_dup2 d_Ga_follow_96 rfl rfl ?_
      refine wm_iald d_Ga_follow_97 h83 h84 ?_
      refine wm_iload_n d_Ga_follow_98 rfl rfl ?_
      refine wm_iadd d_Ga_follow_99 ?_
      have hOM87 : mOk M87 := by rw [e88]; exact mOk_UI hO h86
      refine wm_iastE d_Ga_follow_100 h83 h85 h86 e88 ?_
      refine wm_iconst d_Ga_follow_101 ?_
      refine wm_ireturn d_Ga_follow_102 rfl rfl ?_
      exact ⟨_, rfl, h⟩
theorem d_Ga_enter_0 : decode y_Ga_enter.2.1 0 = .ok (.iconst 0, 1) := dc9_3 (by decide +kernel)
theorem d_Ga_enter_1 : decode y_Ga_enter.2.1 1 = .ok (.istore_n 1, 1) := dc9_60 (by decide +kernel)
theorem d_Ga_enter_2 : decode y_Ga_enter.2.1 2 = .ok (.iconst 0, 1) := dc9_3 (by decide +kernel)
theorem d_Ga_enter_3 : decode y_Ga_enter.2.1 3 = .ok (.istore_n 2, 1) := dc9_61 (by decide +kernel)
theorem d_Ga_enter_4 : decode y_Ga_enter.2.1 4 = .ok (.iload_n 2, 1) := dc9_28 (by decide +kernel)
theorem d_Ga_enter_5 : decode y_Ga_enter.2.1 5 = .ok (.aload_n 0, 1) := dc9_42 (by decide +kernel)
theorem d_Ga_enter_6 : decode y_Ga_enter.2.1 6 = .ok (.getfield 72, 3) := dc9_180 (by decide +kernel)
theorem d_Ga_enter_9 : decode y_Ga_enter.2.1 9 = .ok (.getfield 91, 3) := dc9_180 (by decide +kernel)
theorem d_Ga_enter_12 : decode y_Ga_enter.2.1 12 = .ok (.if_icmp .ge 24, 3) := dc9_162 (by decide +kernel)
theorem d_Ga_enter_36 : decode y_Ga_enter.2.1 36 = .ok (.iload_n 1, 1) := dc9_27 (by decide +kernel)
theorem d_Ga_enter_37 : decode y_Ga_enter.2.1 37 = .ok (.iload_n 1, 1) := dc9_27 (by decide +kernel)
theorem d_Ga_enter_38 : decode y_Ga_enter.2.1 38 = .ok (.bipush 15, 2) := dc9_16 (by decide +kernel)
theorem d_Ga_enter_40 : decode y_Ga_enter.2.1 40 = .ok (.iushr, 1) := dc9_124 (by decide +kernel)
theorem d_Ga_enter_41 : decode y_Ga_enter.2.1 41 = .ok (.ixor, 1) := dc9_130 (by decide +kernel)
theorem d_Ga_enter_42 : decode y_Ga_enter.2.1 42 = .ok (.istore_n 1, 1) := dc9_60 (by decide +kernel)
theorem d_Ga_enter_43 : decode y_Ga_enter.2.1 43 = .ok (.iload_n 1, 1) := dc9_27 (by decide +kernel)
theorem d_Ga_enter_44 : decode y_Ga_enter.2.1 44 = .ok (.sipush 1023, 3) := dc9_17 (by decide +kernel)
theorem d_Ga_enter_47 : decode y_Ga_enter.2.1 47 = .ok (.iand, 1) := dc9_126 (by decide +kernel)
theorem d_Ga_enter_48 : decode y_Ga_enter.2.1 48 = .ok (.istore_n 2, 1) := dc9_61 (by decide +kernel)
theorem d_Ga_enter_49 : decode y_Ga_enter.2.1 49 = .ok (.iconst 0, 1) := dc9_3 (by decide +kernel)
theorem d_Ga_enter_50 : decode y_Ga_enter.2.1 50 = .ok (.istore_n 3, 1) := dc9_62 (by decide +kernel)
theorem d_Ga_enter_15 : decode y_Ga_enter.2.1 15 = .ok (.iload_n 1, 1) := dc9_27 (by decide +kernel)
theorem d_Ga_enter_16 : decode y_Ga_enter.2.1 16 = .ok (.bipush 31, 2) := dc9_16 (by decide +kernel)
theorem d_Ga_enter_18 : decode y_Ga_enter.2.1 18 = .ok (.imul, 1) := dc9_104 (by decide +kernel)
theorem d_Ga_enter_19 : decode y_Ga_enter.2.1 19 = .ok (.aload_n 0, 1) := dc9_42 (by decide +kernel)
theorem d_Ga_enter_20 : decode y_Ga_enter.2.1 20 = .ok (.getfield 42, 3) := dc9_180 (by decide +kernel)
theorem d_Ga_enter_23 : decode y_Ga_enter.2.1 23 = .ok (.getfield 83, 3) := dc9_180 (by decide +kernel)
theorem d_Ga_enter_26 : decode y_Ga_enter.2.1 26 = .ok (.iload_n 2, 1) := dc9_28 (by decide +kernel)
theorem d_Ga_enter_27 : decode y_Ga_enter.2.1 27 = .ok (.iaload, 1) := dc9_46 (by decide +kernel)
theorem d_Ga_enter_28 : decode y_Ga_enter.2.1 28 = .ok (.iadd, 1) := dc9_96 (by decide +kernel)
theorem d_Ga_enter_29 : decode y_Ga_enter.2.1 29 = .ok (.istore_n 1, 1) := dc9_60 (by decide +kernel)
theorem d_Ga_enter_30 : decode y_Ga_enter.2.1 30 = .ok (.iinc 2 1, 3) := by decide +kernel
theorem d_Ga_enter_33 : decode y_Ga_enter.2.1 33 = .ok (.goto (-29), 3) := dc9_167 (by decide +kernel)
theorem d_Ga_enter_51 : decode y_Ga_enter.2.1 51 = .ok (.iload_n 3, 1) := dc9_29 (by decide +kernel)
theorem d_Ga_enter_52 : decode y_Ga_enter.2.1 52 = .ok (.sipush 1024, 3) := dc9_17 (by decide +kernel)
theorem d_Ga_enter_55 : decode y_Ga_enter.2.1 55 = .ok (.if_icmp .ge 47, 3) := dc9_162 (by decide +kernel)
theorem d_Ga_enter_58 : decode y_Ga_enter.2.1 58 = .ok (.aload_n 0, 1) := dc9_42 (by decide +kernel)
theorem d_Ga_enter_59 : decode y_Ga_enter.2.1 59 = .ok (.getfield 46, 3) := dc9_180 (by decide +kernel)
theorem d_Ga_enter_62 : decode y_Ga_enter.2.1 62 = .ok (.iload_n 2, 1) := dc9_28 (by decide +kernel)
theorem d_Ga_enter_63 : decode y_Ga_enter.2.1 63 = .ok (.iaload, 1) := dc9_46 (by decide +kernel)
theorem d_Ga_enter_64 : decode y_Ga_enter.2.1 64 = .ok (.iconst (-1), 1) := dc9_2 (by decide +kernel)
theorem d_Ga_enter_65 : decode y_Ga_enter.2.1 65 = .ok (.if_icmp .eq 37, 3) := dc9_159 (by decide +kernel)
theorem d_Ga_enter_68 : decode y_Ga_enter.2.1 68 = .ok (.aload_n 0, 1) := dc9_42 (by decide +kernel)
theorem d_Ga_enter_69 : decode y_Ga_enter.2.1 69 = .ok (.aload_n 0, 1) := dc9_42 (by decide +kernel)
theorem d_Ga_enter_70 : decode y_Ga_enter.2.1 70 = .ok (.getfield 46, 3) := dc9_180 (by decide +kernel)
theorem d_Ga_enter_73 : decode y_Ga_enter.2.1 73 = .ok (.iload_n 2, 1) := dc9_28 (by decide +kernel)
theorem d_Ga_enter_74 : decode y_Ga_enter.2.1 74 = .ok (.iaload, 1) := dc9_46 (by decide +kernel)
theorem d_Ga_enter_102 : decode y_Ga_enter.2.1 102 = .ok (.aload_n 0, 1) := dc9_42 (by decide +kernel)
theorem d_Ga_enter_103 : decode y_Ga_enter.2.1 103 = .ok (.getfield 55, 3) := dc9_180 (by decide +kernel)
theorem d_Ga_enter_106 : decode y_Ga_enter.2.1 106 = .ok (.sipush 512, 3) := dc9_17 (by decide +kernel)
theorem d_Ga_enter_109 : decode y_Ga_enter.2.1 109 = .ok (.if_icmp .ne 5, 3) := dc9_160 (by decide +kernel)
theorem d_Ga_enter_112 : decode y_Ga_enter.2.1 112 = .ok (.iconst (-1), 1) := dc9_2 (by decide +kernel)
theorem d_Ga_enter_113 : decode y_Ga_enter.2.1 113 = .ok (.ireturn, 1) := dc9_172 (by decide +kernel)
theorem d_Ga_enter_114 : decode y_Ga_enter.2.1 114 = .ok (.aload_n 0, 1) := dc9_42 (by decide +kernel)
theorem d_Ga_enter_115 : decode y_Ga_enter.2.1 115 = .ok (.getfield 46, 3) := dc9_180 (by decide +kernel)
theorem d_Ga_enter_118 : decode y_Ga_enter.2.1 118 = .ok (.iload_n 2, 1) := dc9_28 (by decide +kernel)
theorem d_Ga_enter_119 : decode y_Ga_enter.2.1 119 = .ok (.aload_n 0, 1) := dc9_42 (by decide +kernel)
theorem d_Ga_enter_120 : decode y_Ga_enter.2.1 120 = .ok (.getfield 55, 3) := dc9_180 (by decide +kernel)
theorem d_Ga_enter_123 : decode y_Ga_enter.2.1 123 = .ok (.iastore, 1) := dc9_79 (by decide +kernel)
theorem d_Ga_enter_124 : decode y_Ga_enter.2.1 124 = .ok (.aload_n 0, 1) := dc9_42 (by decide +kernel)
theorem d_Ga_enter_125 : decode y_Ga_enter.2.1 125 = .ok (.getfield 42, 3) := dc9_180 (by decide +kernel)
theorem d_Ga_enter_128 : decode y_Ga_enter.2.1 128 = .ok (.getfield 83, 3) := dc9_180 (by decide +kernel)
theorem d_Ga_enter_131 : decode y_Ga_enter.2.1 131 = .ok (.iconst 0, 1) := dc9_3 (by decide +kernel)
theorem d_Ga_enter_132 : decode y_Ga_enter.2.1 132 = .ok (.aload_n 0, 1) := dc9_42 (by decide +kernel)
theorem d_Ga_enter_133 : decode y_Ga_enter.2.1 133 = .ok (.getfield 9, 3) := dc9_180 (by decide +kernel)
theorem d_Ga_enter_136 : decode y_Ga_enter.2.1 136 = .ok (.aload_n 0, 1) := dc9_42 (by decide +kernel)
theorem d_Ga_enter_137 : decode y_Ga_enter.2.1 137 = .ok (.getfield 55, 3) := dc9_180 (by decide +kernel)
theorem d_Ga_enter_140 : decode y_Ga_enter.2.1 140 = .ok (.bipush 12, 2) := dc9_16 (by decide +kernel)
theorem d_Ga_enter_142 : decode y_Ga_enter.2.1 142 = .ok (.imul, 1) := dc9_104 (by decide +kernel)
theorem d_Ga_enter_143 : decode y_Ga_enter.2.1 143 = .ok (.bipush 12, 2) := dc9_16 (by decide +kernel)
theorem d_Ga_enter_145 : decode y_Ga_enter.2.1 145 = .ok (.invokestatic 94, 3) := dc9_184 (by decide +kernel)
theorem d_Ga_enter_148 : decode y_Ga_enter.2.1 148 = .ok (.aload_n 0, 1) := dc9_42 (by decide +kernel)
theorem d_Ga_enter_149 : decode y_Ga_enter.2.1 149 = .ok (.dup, 1) := dc9_89 (by decide +kernel)
theorem d_Ga_enter_150 : decode y_Ga_enter.2.1 150 = .ok (.getfield 55, 3) := dc9_180 (by decide +kernel)
theorem d_Ga_enter_153 : decode y_Ga_enter.2.1 153 = .ok (.iconst 1, 1) := dc9_4 (by decide +kernel)
theorem d_Ga_enter_154 : decode y_Ga_enter.2.1 154 = .ok (.iadd, 1) := dc9_96 (by decide +kernel)
theorem d_Ga_enter_155 : decode y_Ga_enter.2.1 155 = .ok (.putfield 55, 3) := dc9_181 (by decide +kernel)
theorem d_Ga_enter_158 : decode y_Ga_enter.2.1 158 = .ok (.aload_n 0, 1) := dc9_42 (by decide +kernel)
theorem d_Ga_enter_159 : decode y_Ga_enter.2.1 159 = .ok (.getfield 55, 3) := dc9_180 (by decide +kernel)
theorem d_Ga_enter_162 : decode y_Ga_enter.2.1 162 = .ok (.iconst 1, 1) := dc9_4 (by decide +kernel)
theorem d_Ga_enter_163 : decode y_Ga_enter.2.1 163 = .ok (.isub, 1) := dc9_100 (by decide +kernel)
theorem d_Ga_enter_164 : decode y_Ga_enter.2.1 164 = .ok (.ireturn, 1) := dc9_172 (by decide +kernel)
theorem d_Ga_enter_75 : decode y_Ga_enter.2.1 75 = .ok (.invokevirtual 179, 3) := dc9_182 (by decide +kernel)
theorem d_Ga_enter_78 : decode y_Ga_enter.2.1 78 = .ok (.ifCond .eq 10, 3) := dc9_153 (by decide +kernel)
theorem d_Ga_enter_88 : decode y_Ga_enter.2.1 88 = .ok (.iload_n 2, 1) := dc9_28 (by decide +kernel)
theorem d_Ga_enter_89 : decode y_Ga_enter.2.1 89 = .ok (.iconst 1, 1) := dc9_4 (by decide +kernel)
theorem d_Ga_enter_90 : decode y_Ga_enter.2.1 90 = .ok (.iadd, 1) := dc9_96 (by decide +kernel)
theorem d_Ga_enter_91 : decode y_Ga_enter.2.1 91 = .ok (.sipush 1023, 3) := dc9_17 (by decide +kernel)
theorem d_Ga_enter_94 : decode y_Ga_enter.2.1 94 = .ok (.iand, 1) := dc9_126 (by decide +kernel)
theorem d_Ga_enter_95 : decode y_Ga_enter.2.1 95 = .ok (.istore_n 2, 1) := dc9_61 (by decide +kernel)
theorem d_Ga_enter_96 : decode y_Ga_enter.2.1 96 = .ok (.iinc 3 1, 3) := by decide +kernel
theorem d_Ga_enter_99 : decode y_Ga_enter.2.1 99 = .ok (.goto (-48), 3) := dc9_167 (by decide +kernel)
theorem d_Ga_enter_81 : decode y_Ga_enter.2.1 81 = .ok (.aload_n 0, 1) := dc9_42 (by decide +kernel)
theorem d_Ga_enter_82 : decode y_Ga_enter.2.1 82 = .ok (.getfield 46, 3) := dc9_180 (by decide +kernel)
theorem d_Ga_enter_85 : decode y_Ga_enter.2.1 85 = .ok (.iload_n 2, 1) := dc9_28 (by decide +kernel)
theorem d_Ga_enter_86 : decode y_Ga_enter.2.1 86 = .ok (.iaload, 1) := dc9_46 (by decide +kernel)
theorem d_Ga_enter_87 : decode y_Ga_enter.2.1 87 = .ok (.ireturn, 1) := dc9_172 (by decide +kernel)
def h_Ga_enter_4 (G : mG) (d : Nat) (a0 : Nat) (l1 : Int) (l2 : Int) (M : mM) (Q : Int → mM → Prop) : Prop := mWm G y_Ga_enter (d + 1) 4 [vr a0, vi l1, vi l2, vd] [] M (fun r9 M9 => ∃ x9, r9 = some (vi x9) ∧ Q x9 M9)
def h_Ga_enter_51 (G : mG) (d : Nat) (a0 : Nat) (l2 : Int) (l3 : Int) (M : mM) (Q : Int → mM → Prop) : Prop := mWm G y_Ga_enter (d + 1) 51 [vr a0, vd, vi l2, vi l3] [] M (fun r9 M9 => ∃ x9, r9 = some (vi x9) ∧ Q x9 M9)
theorem k_Ga_enter {G : mG} {d : Nat} {a0 : Nat} {M : mM} {Q : Int → mM → Prop} (hO : mOk M)
    (h : h_Ga_enter_4 G d a0 0 0 M Q) :
    Ci G y_Ga_enter (d + 1) [vr a0] M Q := by
  refine wm_open (y := y_Ga_enter) rfl (Nat.le_of_ble_eq_true rfl) (L := [vr a0, vd, vd, vd]) rfl ?_
  refine wm_iconst d_Ga_enter_0 ?_
  refine wm_istore_n d_Ga_enter_1 rfl (by decide) (L' := [vr a0, vi 0, vd, vd]) rfl ?_
  refine wm_iconst d_Ga_enter_2 ?_
  refine wm_istore_n d_Ga_enter_3 rfl (by decide) (L' := [vr a0, vi 0, vi 0, vd]) rfl ?_
  exact h
theorem k_Ga_enter_51 {G : mG} {d : Nat} {a0 : Nat} {l2 : Int} {l3 : Int} {M : mM} {Q : Int → mM → Prop} (hO : mOk M) (hi_l2 : i32 l2) (hi_l3 : i32 l3)
    (h : (¬ (1024 ≤ l3) → (mK M a0 = 7 ∧ mK M (mR M a0 16) = 30 ∧ ((0 : Int) ≤ l2 ∧ l2 < (mN M (mR M a0 16) : Int)))) ∧ (((1024 ≤ l3) ∨ (mI M (mR M a0 16) (Int.toNat l2) = (-1))) → (mK M a0 = 7 ∧ ((mI M a0 0 = 512) → (Q (-1) M)) ∧ (¬ (mI M a0 0 = 512) → (mK M (mR M a0 16) = 30 ∧ ((0 : Int) ≤ l2 ∧ l2 < (mN M (mR M a0 16) : Int)) ∧ ∀ M23, M23 = mUI M (mR M a0 16) (Int.toNat l2) (mI M a0 0) → mK M23 (mR M23 a0 15) = 5 ∧ mK M23 (mR M23 (mR M23 a0 15) 5) = 30 ∧ mK M23 (mR M23 a0 1) = 30 ∧ ((0 : Int) ≤ 0 ∧ (0 : Int) ≤ (mI M23 a0 0) * 12 ∧ (0 : Int) ≤ 12 ∧ 0 + 12 ≤ (mN M23 (mR M23 (mR M23 a0 15) 5) : Int) ∧ ((mI M23 a0 0) * 12) + 12 ≤ (mN M23 (mR M23 a0 1) : Int)) ∧ ∀ M29, M29 = mCpy M23 (mR M23 (mR M23 a0 15) 5) (mR M23 a0 1) 0 (Int.toNat ((mI M23 a0 0) * 12)) 12 → i32 ((mI M29 a0 0) + 1) ∧ ∀ M32, M32 = mUI M29 a0 0 ((mI M29 a0 0) + 1) → Q ((mI M32 a0 0) - 1) M32)))) ∧ (¬ ((1024 ≤ l3) ∨ (mI M (mR M a0 16) (Int.toNat l2) = (-1))) → (mK M a0 = 7 ∧ mK M (mR M a0 16) = 30 ∧ ((0 : Int) ≤ l2 ∧ l2 < (mN M (mR M a0 16) : Int)) ∧ Ci G y_Ga_isNext d [vr a0, vi (mI M (mR M a0 16) (Int.toNat l2))] M (fun x39 M38 => i32 x39 ∧ mOk M38 ∧ (((x39 = 0) → (h_Ga_enter_51 G d a0 (andI (l2 + 1) 1023) (l3 + 1) M38 Q)) ∧ (¬ (x39 = 0) → (mK M38 a0 = 7 ∧ mK M38 (mR M38 a0 16) = 30 ∧ ((0 : Int) ≤ l2 ∧ l2 < (mN M38 (mR M38 a0 16) : Int)) ∧ Q (mI M38 (mR M38 a0 16) (Int.toNat l2)) M38))))))) :
    h_Ga_enter_51 G d a0 l2 l3 M Q := by
  unfold h_Ga_enter_51
  refine wm_iload_n d_Ga_enter_51 rfl rfl ?_
  refine wm_sipush d_Ga_enter_52 (by decide) ?_
  obtain ⟨s16, h⟩ := h
  have hE0 : ((1024 ≤ l3) ∨ (mI M (mR M a0 16) (Int.toNat l2) = (-1))) → mWm G y_Ga_enter (d + 1) 102 [vr a0, vd, vi l2, vi l3] [] M (fun r9 M9 => ∃ x9, r9 = some (vi x9) ∧ Q x9 M9) := by
    intro q17
    have h := h.1 q17
    obtain ⟨h18, h⟩ := h
    refine wm_aload_n d_Ga_enter_102 rfl rfl ?_
    refine gf_Ga_55 rfl d_Ga_enter_103 h18 ?_
    refine wm_sipush d_Ga_enter_106 (by decide) ?_
    refine wm_icmp_ne (tgt := 114) d_Ga_enter_109 rfl (hO _ _).1 ⟨by decide, by decide⟩ (fun c20 => ?_) (fun c20 => ?_)
    · replace h := h.2 c20
      obtain ⟨h21, h⟩ := h
      obtain ⟨h22, h⟩ := h
      obtain ⟨M23, e24⟩ : ∃ M23, M23 = mUI M (mR M a0 16) (Int.toNat l2) (mI M a0 0) := ⟨_, rfl⟩
      replace h := h M23 e24
      obtain ⟨h25, h⟩ := h
      obtain ⟨h26, h⟩ := h
      obtain ⟨h27, h⟩ := h
      obtain ⟨h28, h⟩ := h
      obtain ⟨M29, e30⟩ : ∃ M29, M29 = mCpy M23 (mR M23 (mR M23 a0 15) 5) (mR M23 a0 1) 0 (Int.toNat ((mI M23 a0 0) * 12)) 12 := ⟨_, rfl⟩
      replace h := h M29 e30
      obtain ⟨h31, h⟩ := h
      obtain ⟨M32, e33⟩ : ∃ M32, M32 = mUI M29 a0 0 ((mI M29 a0 0) + 1) := ⟨_, rfl⟩
      replace h := h M32 e33
      refine wm_aload_n d_Ga_enter_114 rfl rfl ?_
      refine gf_Ga_46 rfl d_Ga_enter_115 h18 ?_
      refine wm_iload_n d_Ga_enter_118 rfl rfl ?_
      refine wm_aload_n d_Ga_enter_119 rfl rfl ?_
      refine gf_Ga_55 rfl d_Ga_enter_120 h18 ?_
      have hOM23 : mOk M23 := by rw [e24]; exact mOk_UI hO (hO _ _).1
      refine wm_iastE d_Ga_enter_123 h21 h22 (hO _ _).1 e24 ?_
      refine wm_aload_n d_Ga_enter_124 rfl rfl ?_
      refine gf_Ga_42 rfl d_Ga_enter_125 (by rw [e24]; exact h18) ?_
      refine gf_Ga_83 rfl d_Ga_enter_128 h25 ?_
      refine wm_iconst d_Ga_enter_131 ?_
      refine wm_aload_n d_Ga_enter_132 rfl rfl ?_
      refine gf_Ga_9 rfl d_Ga_enter_133 (by rw [e24]; exact h18) ?_
      refine wm_aload_n d_Ga_enter_136 rfl rfl ?_
      refine gf_Ga_55 rfl d_Ga_enter_137 (by rw [e24]; exact h18) ?_
      refine wm_bipush d_Ga_enter_140 (by decide) ?_
      refine wm_imul d_Ga_enter_142 ?_
      refine wm_bipush d_Ga_enter_143 (by decide) ?_
      have hOM29 : mOk M29 := by rw [e30]; exact mOk_Cpy hOM23
      refine wm_copyi k7_234 (Nat.le_of_ble_eq_true rfl) h26 h27 h28 d_Ga_enter_145 e30 ?_
      refine wm_aload_n d_Ga_enter_148 rfl rfl ?_
      refine wm_dup d_Ga_enter_149 rfl ?_
      refine gf_Ga_55 rfl d_Ga_enter_150 (by rw [e30, e24]; exact h18) ?_
      refine wm_iconst d_Ga_enter_153 ?_
      refine wm_iadd d_Ga_enter_154 ?_
      have hOM32 : mOk M32 := by rw [e33]; exact mOk_UI hOM29 h31
      refine pf_Ga_55 rfl d_Ga_enter_155 (by rw [e30, e24]; exact h18) h31 e33 ?_
      refine wm_aload_n d_Ga_enter_158 rfl rfl ?_
      refine gf_Ga_55 rfl d_Ga_enter_159 (by rw [e33, e30, e24]; exact h18) ?_
      refine wm_iconst d_Ga_enter_162 ?_
      refine wm_isub d_Ga_enter_163 ?_
      refine wm_ireturn d_Ga_enter_164 rfl rfl ?_
      exact ⟨_, rfl, h⟩
    · replace c20 := Classical.not_not.mp c20
      replace h := h.1 c20
      refine wm_iconst d_Ga_enter_112 ?_
      refine wm_ireturn d_Ga_enter_113 rfl rfl ?_
      exact ⟨_, rfl, h⟩
  have hE1 : ¬ ((1024 ≤ l3) ∨ (mI M (mR M a0 16) (Int.toNat l2) = (-1))) → mWm G y_Ga_enter (d + 1) 68 [vr a0, vd, vi l2, vi l3] [] M (fun r9 M9 => ∃ x9, r9 = some (vi x9) ∧ Q x9 M9) := by
    intro q34
    have h := h.2 q34
    obtain ⟨h35, h⟩ := h
    obtain ⟨h36, h⟩ := h
    obtain ⟨h37, h⟩ := h
    refine wm_aload_n d_Ga_enter_68 rfl rfl ?_
    refine wm_aload_n d_Ga_enter_69 rfl rfl ?_
    refine gf_Ga_46 rfl d_Ga_enter_70 h35 ?_
    refine wm_iload_n d_Ga_enter_73 rfl rfl ?_
    refine wm_iald d_Ga_enter_74 h36 h37 ?_
    refine cf_Ga_179 rfl d_Ga_enter_75 h35 (Nat.le_of_ble_eq_true rfl) (Ci.mono h (fun x39 M38 h => ?_))
    obtain ⟨h40, hOM38, h⟩ := h
    refine wm_if_eq (tgt := 88) d_Ga_enter_78 rfl h40 (fun c45 => ?_) (fun c45 => ?_)
    · replace h := h.1 c45
      refine wm_iload_n d_Ga_enter_88 rfl rfl ?_
      refine wm_iconst d_Ga_enter_89 ?_
      refine wm_iadd d_Ga_enter_90 ?_
      refine wm_sipush d_Ga_enter_91 (by decide) ?_
      refine wm_iand d_Ga_enter_94 ?_
      refine wm_istore_n d_Ga_enter_95 rfl (by decide) (L' := [vr a0, vd, vi (andI (l2 + 1) 1023), vi l3]) rfl ?_
      refine wm_iinc d_Ga_enter_96 (by decide) rfl (L' := [vr a0, vd, vi (andI (l2 + 1) 1023), vi (l3 + 1)]) rfl ?_
      refine wm_goto (tgt := 51) d_Ga_enter_99 rfl ?_
      exact h
    · replace h := h.2 c45
      obtain ⟨h46, h⟩ := h
      obtain ⟨h47, h⟩ := h
      obtain ⟨h48, h⟩ := h
      refine wm_aload_n d_Ga_enter_81 rfl rfl ?_
      refine gf_Ga_46 rfl d_Ga_enter_82 h46 ?_
      refine wm_iload_n d_Ga_enter_85 rfl rfl ?_
      refine wm_iald d_Ga_enter_86 h47 h48 ?_
      refine wm_ireturn d_Ga_enter_87 rfl rfl ?_
      exact ⟨_, rfl, h⟩
  clear h
  have s49 := s16
  refine wm_icmp_ge (tgt := 102) d_Ga_enter_55 rfl hi_l3 ⟨by decide, by decide⟩ (fun c15 => ?_) (fun c15 => ?_)
  · exact hE0 (Or.inl c15)
  · have s49 := s49 c15
    obtain ⟨h11, h12, h13⟩ := s49
    refine wm_aload_n d_Ga_enter_58 rfl rfl ?_
    refine gf_Ga_46 rfl d_Ga_enter_59 h11 ?_
    refine wm_iload_n d_Ga_enter_62 rfl rfl ?_
    refine wm_iald d_Ga_enter_63 h12 h13 ?_
    refine wm_iconst d_Ga_enter_64 ?_
    refine wm_icmp_eq (tgt := 102) d_Ga_enter_65 rfl (hO _ _).1 ⟨by decide, by decide⟩ (fun c14 => ?_) (fun c14 => ?_)
    · exact hE0 (Or.inr c14)
    · exact hE1 (fun z50 => Or.elim z50 c15 c14)
theorem d_Ga_isNext_0 : decode y_Ga_isNext.2.1 0 = .ok (.iconst 0, 1) := dc9_3 (by decide +kernel)
theorem d_Ga_isNext_1 : decode y_Ga_isNext.2.1 1 = .ok (.istore_n 2, 1) := dc9_61 (by decide +kernel)
theorem d_Ga_isNext_2 : decode y_Ga_isNext.2.1 2 = .ok (.iload_n 2, 1) := dc9_28 (by decide +kernel)
theorem d_Ga_isNext_3 : decode y_Ga_isNext.2.1 3 = .ok (.aload_n 0, 1) := dc9_42 (by decide +kernel)
theorem d_Ga_isNext_4 : decode y_Ga_isNext.2.1 4 = .ok (.getfield 72, 3) := dc9_180 (by decide +kernel)
theorem d_Ga_isNext_7 : decode y_Ga_isNext.2.1 7 = .ok (.getfield 91, 3) := dc9_180 (by decide +kernel)
theorem d_Ga_isNext_10 : decode y_Ga_isNext.2.1 10 = .ok (.if_icmp .ge 34, 3) := dc9_162 (by decide +kernel)
theorem d_Ga_isNext_44 : decode y_Ga_isNext.2.1 44 = .ok (.iconst 1, 1) := dc9_4 (by decide +kernel)
theorem d_Ga_isNext_45 : decode y_Ga_isNext.2.1 45 = .ok (.ireturn, 1) := dc9_172 (by decide +kernel)
theorem d_Ga_isNext_13 : decode y_Ga_isNext.2.1 13 = .ok (.aload_n 0, 1) := dc9_42 (by decide +kernel)
theorem d_Ga_isNext_14 : decode y_Ga_isNext.2.1 14 = .ok (.getfield 9, 3) := dc9_180 (by decide +kernel)
theorem d_Ga_isNext_17 : decode y_Ga_isNext.2.1 17 = .ok (.iload_n 1, 1) := dc9_27 (by decide +kernel)
theorem d_Ga_isNext_18 : decode y_Ga_isNext.2.1 18 = .ok (.bipush 12, 2) := dc9_16 (by decide +kernel)
theorem d_Ga_isNext_20 : decode y_Ga_isNext.2.1 20 = .ok (.imul, 1) := dc9_104 (by decide +kernel)
theorem d_Ga_isNext_21 : decode y_Ga_isNext.2.1 21 = .ok (.iload_n 2, 1) := dc9_28 (by decide +kernel)
theorem d_Ga_isNext_22 : decode y_Ga_isNext.2.1 22 = .ok (.iadd, 1) := dc9_96 (by decide +kernel)
theorem d_Ga_isNext_23 : decode y_Ga_isNext.2.1 23 = .ok (.iaload, 1) := dc9_46 (by decide +kernel)
theorem d_Ga_isNext_24 : decode y_Ga_isNext.2.1 24 = .ok (.aload_n 0, 1) := dc9_42 (by decide +kernel)
theorem d_Ga_isNext_25 : decode y_Ga_isNext.2.1 25 = .ok (.getfield 42, 3) := dc9_180 (by decide +kernel)
theorem d_Ga_isNext_28 : decode y_Ga_isNext.2.1 28 = .ok (.getfield 83, 3) := dc9_180 (by decide +kernel)
theorem d_Ga_isNext_31 : decode y_Ga_isNext.2.1 31 = .ok (.iload_n 2, 1) := dc9_28 (by decide +kernel)
theorem d_Ga_isNext_32 : decode y_Ga_isNext.2.1 32 = .ok (.iaload, 1) := dc9_46 (by decide +kernel)
theorem d_Ga_isNext_33 : decode y_Ga_isNext.2.1 33 = .ok (.if_icmp .eq 5, 3) := dc9_159 (by decide +kernel)
theorem d_Ga_isNext_38 : decode y_Ga_isNext.2.1 38 = .ok (.iinc 2 1, 3) := by decide +kernel
theorem d_Ga_isNext_41 : decode y_Ga_isNext.2.1 41 = .ok (.goto (-39), 3) := dc9_167 (by decide +kernel)
theorem d_Ga_isNext_36 : decode y_Ga_isNext.2.1 36 = .ok (.iconst 0, 1) := dc9_3 (by decide +kernel)
theorem d_Ga_isNext_37 : decode y_Ga_isNext.2.1 37 = .ok (.ireturn, 1) := dc9_172 (by decide +kernel)
def h_Ga_isNext_2 (G : mG) (d : Nat) (a0 : Nat) (l1 : Int) (l2 : Int) (M : mM) (Q : Int → mM → Prop) : Prop := mWm G y_Ga_isNext d 2 [vr a0, vi l1, vi l2] [] M (fun r9 M9 => ∃ x9, r9 = some (vi x9) ∧ Q x9 M9)
theorem k_Ga_isNext {G : mG} {d : Nat} {a0 : Nat} {l1 : Int} {M : mM} {Q : Int → mM → Prop} (hO : mOk M) (hi_l1 : i32 l1)
    (h : h_Ga_isNext_2 G d a0 l1 0 M Q) :
    Ci G y_Ga_isNext d [vr a0, vi l1] M Q := by
  refine wm_open (y := y_Ga_isNext) rfl (Nat.le_of_ble_eq_true rfl) (L := [vr a0, vi l1, vd]) rfl ?_
  refine wm_iconst d_Ga_isNext_0 ?_
  refine wm_istore_n d_Ga_isNext_1 rfl (by decide) (L' := [vr a0, vi l1, vi 0]) rfl ?_
  exact h
theorem k_Ga_isNext_2 {G : mG} {d : Nat} {a0 : Nat} {l1 : Int} {l2 : Int} {M : mM} {Q : Int → mM → Prop} (hO : mOk M) (hi_l1 : i32 l1) (hi_l2 : i32 l2)
    (h : mK M a0 = 7 ∧ mK M (mR M a0 14) = 6 ∧ ((mI M (mR M a0 14) 3 ≤ l2) → (Q 1 M)) ∧ (¬ (mI M (mR M a0 14) 3 ≤ l2) → (mK M (mR M a0 1) = 30 ∧ ((0 : Int) ≤ (l1 * 12) + l2 ∧ (l1 * 12) + l2 < (mN M (mR M a0 1) : Int)) ∧ mK M (mR M a0 15) = 5 ∧ mK M (mR M (mR M a0 15) 5) = 30 ∧ ((0 : Int) ≤ l2 ∧ l2 < (mN M (mR M (mR M a0 15) 5) : Int)) ∧ ((mI M (mR M a0 1) (Int.toNat ((l1 * 12) + l2)) = mI M (mR M (mR M a0 15) 5) (Int.toNat l2)) → (h_Ga_isNext_2 G d a0 l1 (l2 + 1) M Q)) ∧ (¬ (mI M (mR M a0 1) (Int.toNat ((l1 * 12) + l2)) = mI M (mR M (mR M a0 15) 5) (Int.toNat l2)) → (Q 0 M))))) :
    h_Ga_isNext_2 G d a0 l1 l2 M Q := by
  unfold h_Ga_isNext_2
  obtain ⟨h1, h⟩ := h
  obtain ⟨h2, h⟩ := h
  refine wm_iload_n d_Ga_isNext_2 rfl rfl ?_
  refine wm_aload_n d_Ga_isNext_3 rfl rfl ?_
  refine gf_Ga_72 rfl d_Ga_isNext_4 h1 ?_
  refine gf_Ga_91 rfl d_Ga_isNext_7 h2 ?_
  refine wm_icmp_ge (tgt := 44) d_Ga_isNext_10 rfl hi_l2 (hO _ _).1 (fun c10 => ?_) (fun c10 => ?_)
  · replace h := h.1 c10
    refine wm_iconst d_Ga_isNext_44 ?_
    refine wm_ireturn d_Ga_isNext_45 rfl (m_nb (by decide)) ?_
    exact ⟨_, rfl, h⟩
  · replace h := h.2 c10
    obtain ⟨h11, h⟩ := h
    obtain ⟨h12, h⟩ := h
    obtain ⟨h13, h⟩ := h
    obtain ⟨h14, h⟩ := h
    obtain ⟨h15, h⟩ := h
    refine wm_aload_n d_Ga_isNext_13 rfl rfl ?_
    refine gf_Ga_9 rfl d_Ga_isNext_14 h1 ?_
    refine wm_iload_n d_Ga_isNext_17 rfl rfl ?_
    refine wm_bipush d_Ga_isNext_18 (by decide) ?_
    refine wm_imul d_Ga_isNext_20 ?_
    refine wm_iload_n d_Ga_isNext_21 rfl rfl ?_
    refine wm_iadd d_Ga_isNext_22 ?_
    refine wm_iald d_Ga_isNext_23 h11 h12 ?_
    refine wm_aload_n d_Ga_isNext_24 rfl rfl ?_
    refine gf_Ga_42 rfl d_Ga_isNext_25 h1 ?_
    refine gf_Ga_83 rfl d_Ga_isNext_28 h13 ?_
    refine wm_iload_n d_Ga_isNext_31 rfl rfl ?_
    refine wm_iald d_Ga_isNext_32 h14 h15 ?_
    refine wm_icmp_eq (tgt := 38) d_Ga_isNext_33 rfl (hO _ _).1 (hO _ _).1 (fun c17 => ?_) (fun c17 => ?_)
    · replace h := h.1 c17
      refine wm_iinc d_Ga_isNext_38 (by decide) rfl (L' := [vr a0, vi l1, vi (l2 + 1)]) rfl ?_
      refine wm_goto (tgt := 2) d_Ga_isNext_41 rfl ?_
      exact h
    · replace h := h.2 c17
      refine wm_iconst d_Ga_isNext_36 ?_
      refine wm_ireturn d_Ga_isNext_37 rfl (m_nb (by decide)) ?_
      exact ⟨_, rfl, h⟩
theorem d_Ma_init_0 : decode y_Ma_init.2.1 0 = .ok (.aload_n 0, 1) := dc9_42 (by decide +kernel)
theorem d_Ma_init_1 : decode y_Ma_init.2.1 1 = .ok (.invokespecial 3, 3) := dc9_183 (by decide +kernel)
theorem d_Ma_init_4 : decode y_Ma_init.2.1 4 = .ok (.aload_n 0, 1) := dc9_42 (by decide +kernel)
theorem d_Ma_init_5 : decode y_Ma_init.2.1 5 = .ok (.bipush 12, 2) := dc9_16 (by decide +kernel)
theorem d_Ma_init_7 : decode y_Ma_init.2.1 7 = .ok (.newarray .int, 2) := by decide +kernel
theorem d_Ma_init_9 : decode y_Ma_init.2.1 9 = .ok (.putfield 9, 3) := dc9_181 (by decide +kernel)
theorem d_Ma_init_12 : decode y_Ma_init.2.1 12 = .ok (.aload_n 0, 1) := dc9_42 (by decide +kernel)
theorem d_Ma_init_13 : decode y_Ma_init.2.1 13 = .ok (.bipush 12, 2) := dc9_16 (by decide +kernel)
theorem d_Ma_init_15 : decode y_Ma_init.2.1 15 = .ok (.newarray .int, 2) := by decide +kernel
theorem d_Ma_init_17 : decode y_Ma_init.2.1 17 = .ok (.putfield 15, 3) := dc9_181 (by decide +kernel)
theorem d_Ma_init_20 : decode y_Ma_init.2.1 20 = .ok (.aload_n 0, 1) := dc9_42 (by decide +kernel)
theorem d_Ma_init_21 : decode y_Ma_init.2.1 21 = .ok (.bipush 64, 2) := dc9_16 (by decide +kernel)
theorem d_Ma_init_23 : decode y_Ma_init.2.1 23 = .ok (.newarray .int, 2) := by decide +kernel
theorem d_Ma_init_25 : decode y_Ma_init.2.1 25 = .ok (.putfield 18, 3) := dc9_181 (by decide +kernel)
theorem d_Ma_init_28 : decode y_Ma_init.2.1 28 = .ok (.aload_n 0, 1) := dc9_42 (by decide +kernel)
theorem d_Ma_init_29 : decode y_Ma_init.2.1 29 = .ok (.bipush 64, 2) := dc9_16 (by decide +kernel)
theorem d_Ma_init_31 : decode y_Ma_init.2.1 31 = .ok (.newarray .int, 2) := by decide +kernel
theorem d_Ma_init_33 : decode y_Ma_init.2.1 33 = .ok (.putfield 21, 3) := dc9_181 (by decide +kernel)
theorem d_Ma_init_36 : decode y_Ma_init.2.1 36 = .ok (.aload_n 0, 1) := dc9_42 (by decide +kernel)
theorem d_Ma_init_37 : decode y_Ma_init.2.1 37 = .ok (.iconst 0, 1) := dc9_3 (by decide +kernel)
theorem d_Ma_init_38 : decode y_Ma_init.2.1 38 = .ok (.putfield 24, 3) := dc9_181 (by decide +kernel)
theorem d_Ma_init_41 : decode y_Ma_init.2.1 41 = .ok (.aload_n 0, 1) := dc9_42 (by decide +kernel)
theorem d_Ma_init_42 : decode y_Ma_init.2.1 42 = .ok (.bipush 60, 2) := dc9_16 (by decide +kernel)
theorem d_Ma_init_44 : decode y_Ma_init.2.1 44 = .ok (.newarray .int, 2) := by decide +kernel
theorem d_Ma_init_46 : decode y_Ma_init.2.1 46 = .ok (.putfield 28, 3) := dc9_181 (by decide +kernel)
theorem d_Ma_init_49 : decode y_Ma_init.2.1 49 = .ok (.aload_n 0, 1) := dc9_42 (by decide +kernel)
theorem d_Ma_init_50 : decode y_Ma_init.2.1 50 = .ok (.bipush 60, 2) := dc9_16 (by decide +kernel)
theorem d_Ma_init_52 : decode y_Ma_init.2.1 52 = .ok (.newarray .int, 2) := by decide +kernel
theorem d_Ma_init_54 : decode y_Ma_init.2.1 54 = .ok (.putfield 31, 3) := dc9_181 (by decide +kernel)
theorem d_Ma_init_57 : decode y_Ma_init.2.1 57 = .ok (.aload_n 0, 1) := dc9_42 (by decide +kernel)
theorem d_Ma_init_58 : decode y_Ma_init.2.1 58 = .ok (.bipush 60, 2) := dc9_16 (by decide +kernel)
theorem d_Ma_init_60 : decode y_Ma_init.2.1 60 = .ok (.newarray .int, 2) := by decide +kernel
theorem d_Ma_init_62 : decode y_Ma_init.2.1 62 = .ok (.putfield 34, 3) := dc9_181 (by decide +kernel)
theorem d_Ma_init_65 : decode y_Ma_init.2.1 65 = .ok (.aload_n 0, 1) := dc9_42 (by decide +kernel)
theorem d_Ma_init_66 : decode y_Ma_init.2.1 66 = .ok (.bipush 61, 2) := dc9_16 (by decide +kernel)
theorem d_Ma_init_68 : decode y_Ma_init.2.1 68 = .ok (.newarray .int, 2) := by decide +kernel
theorem d_Ma_init_70 : decode y_Ma_init.2.1 70 = .ok (.putfield 37, 3) := dc9_181 (by decide +kernel)
theorem d_Ma_init_73 : decode y_Ma_init.2.1 73 = .ok (.aload_n 0, 1) := dc9_42 (by decide +kernel)
theorem d_Ma_init_74 : decode y_Ma_init.2.1 74 = .ok (.bipush 61, 2) := dc9_16 (by decide +kernel)
theorem d_Ma_init_76 : decode y_Ma_init.2.1 76 = .ok (.newarray .int, 2) := by decide +kernel
theorem d_Ma_init_78 : decode y_Ma_init.2.1 78 = .ok (.putfield 40, 3) := dc9_181 (by decide +kernel)
theorem d_Ma_init_81 : decode y_Ma_init.2.1 81 = .ok (.return_, 1) := dc9_177 (by decide +kernel)
theorem k_Ma_init {G : mG} {d : Nat} {a0 : Nat} {M : mM} {Q : mM → Prop} (hO : mOk M)
    (h : 0 < a0 ∧ ∀ M2, M2 = mNew M 30 12 12 → mK M2 a0 = 5 ∧ ∀ M5, M5 = mUR M2 a0 3 (mZ M) → ∀ M7, M7 = mNew M5 30 12 12 → mK M7 a0 = 5 ∧ ∀ M10, M10 = mUR M7 a0 5 (mZ M5) → ∀ M12, M12 = mNew M10 30 64 64 → mK M12 a0 = 5 ∧ ∀ M15, M15 = mUR M12 a0 6 (mZ M10) → ∀ M17, M17 = mNew M15 30 64 64 → mK M17 a0 = 5 ∧ ∀ M20, M20 = mUR M17 a0 7 (mZ M15) → ∀ M22, M22 = mUI M20 a0 9 0 → ∀ M24, M24 = mNew M22 30 60 60 → mK M24 a0 = 5 ∧ ∀ M27, M27 = mUR M24 a0 10 (mZ M22) → ∀ M29, M29 = mNew M27 30 60 60 → mK M29 a0 = 5 ∧ ∀ M32, M32 = mUR M29 a0 11 (mZ M27) → ∀ M34, M34 = mNew M32 30 60 60 → mK M34 a0 = 5 ∧ ∀ M37, M37 = mUR M34 a0 12 (mZ M32) → ∀ M39, M39 = mNew M37 30 61 61 → mK M39 a0 = 5 ∧ ∀ M42, M42 = mUR M39 a0 13 (mZ M37) → ∀ M44, M44 = mNew M42 30 61 61 → mK M44 a0 = 5 ∧ ∀ M47, M47 = mUR M44 a0 14 (mZ M42) → Q M47) :
    Cv G y_Ma_init (d + 1) [vr a0] M Q := by
  refine wm_open (y := y_Ma_init) rfl (Nat.le_of_ble_eq_true rfl) (L := [vr a0]) rfl ?_
  obtain ⟨h1, h⟩ := h
  obtain ⟨M2, e3⟩ : ∃ M2, M2 = mNew M 30 12 12 := ⟨_, rfl⟩
  replace h := h M2 e3
  obtain ⟨h4, h⟩ := h
  obtain ⟨M5, e6⟩ : ∃ M5, M5 = mUR M2 a0 3 (mZ M) := ⟨_, rfl⟩
  replace h := h M5 e6
  obtain ⟨M7, e8⟩ : ∃ M7, M7 = mNew M5 30 12 12 := ⟨_, rfl⟩
  replace h := h M7 e8
  obtain ⟨h9, h⟩ := h
  obtain ⟨M10, e11⟩ : ∃ M10, M10 = mUR M7 a0 5 (mZ M5) := ⟨_, rfl⟩
  replace h := h M10 e11
  obtain ⟨M12, e13⟩ : ∃ M12, M12 = mNew M10 30 64 64 := ⟨_, rfl⟩
  replace h := h M12 e13
  obtain ⟨h14, h⟩ := h
  obtain ⟨M15, e16⟩ : ∃ M15, M15 = mUR M12 a0 6 (mZ M10) := ⟨_, rfl⟩
  replace h := h M15 e16
  obtain ⟨M17, e18⟩ : ∃ M17, M17 = mNew M15 30 64 64 := ⟨_, rfl⟩
  replace h := h M17 e18
  obtain ⟨h19, h⟩ := h
  obtain ⟨M20, e21⟩ : ∃ M20, M20 = mUR M17 a0 7 (mZ M15) := ⟨_, rfl⟩
  replace h := h M20 e21
  obtain ⟨M22, e23⟩ : ∃ M22, M22 = mUI M20 a0 9 0 := ⟨_, rfl⟩
  replace h := h M22 e23
  obtain ⟨M24, e25⟩ : ∃ M24, M24 = mNew M22 30 60 60 := ⟨_, rfl⟩
  replace h := h M24 e25
  obtain ⟨h26, h⟩ := h
  obtain ⟨M27, e28⟩ : ∃ M27, M27 = mUR M24 a0 10 (mZ M22) := ⟨_, rfl⟩
  replace h := h M27 e28
  obtain ⟨M29, e30⟩ : ∃ M29, M29 = mNew M27 30 60 60 := ⟨_, rfl⟩
  replace h := h M29 e30
  obtain ⟨h31, h⟩ := h
  obtain ⟨M32, e33⟩ : ∃ M32, M32 = mUR M29 a0 11 (mZ M27) := ⟨_, rfl⟩
  replace h := h M32 e33
  obtain ⟨M34, e35⟩ : ∃ M34, M34 = mNew M32 30 60 60 := ⟨_, rfl⟩
  replace h := h M34 e35
  obtain ⟨h36, h⟩ := h
  obtain ⟨M37, e38⟩ : ∃ M37, M37 = mUR M34 a0 12 (mZ M32) := ⟨_, rfl⟩
  replace h := h M37 e38
  obtain ⟨M39, e40⟩ : ∃ M39, M39 = mNew M37 30 61 61 := ⟨_, rfl⟩
  replace h := h M39 e40
  obtain ⟨h41, h⟩ := h
  obtain ⟨M42, e43⟩ : ∃ M42, M42 = mUR M39 a0 13 (mZ M37) := ⟨_, rfl⟩
  replace h := h M42 e43
  obtain ⟨M44, e45⟩ : ∃ M44, M44 = mNew M42 30 61 61 := ⟨_, rfl⟩
  replace h := h M44 e45
  obtain ⟨h46, h⟩ := h
  obtain ⟨M47, e48⟩ : ∃ M47, M47 = mUR M44 a0 14 (mZ M42) := ⟨_, rfl⟩
  replace h := h M47 e48
  refine wm_aload_n d_Ma_init_0 rfl rfl ?_
  refine wm_objInit trivial k1_168 kO_inst kO_code (Nat.le_of_ble_eq_true rfl) d_Ma_init_1 h1 ?_
  refine wm_aload_n d_Ma_init_4 rfl rfl ?_
  refine wm_bipush d_Ma_init_5 (by decide) ?_
  have hOM2 : mOk M2 := by rw [e3]; exact mOk_New hO
  refine wm_newarrE 0 (atype := .int) (ty := .int) rfl rfl (fun _ => rfl) rfl rfl (by decide) k1_82 ⟨by decide, by decide⟩ d_Ma_init_7 e3 ?_
  have hOM5 : mOk M5 := by rw [e6]; exact mOk_UR hOM2
  refine pf_Ma_9 rfl d_Ma_init_9 h4 e6 ?_
  refine wm_aload_n d_Ma_init_12 rfl rfl ?_
  refine wm_bipush d_Ma_init_13 (by decide) ?_
  have hOM7 : mOk M7 := by rw [e8]; exact mOk_New hOM5
  refine wm_newarrE 0 (atype := .int) (ty := .int) rfl rfl (fun _ => rfl) rfl rfl (by decide) k1_82 ⟨by decide, by decide⟩ d_Ma_init_15 e8 ?_
  have hOM10 : mOk M10 := by rw [e11]; exact mOk_UR hOM7
  refine pf_Ma_15 rfl rfl d_Ma_init_17 h9 e11 ?_
  refine wm_aload_n d_Ma_init_20 rfl rfl ?_
  refine wm_bipush d_Ma_init_21 (by decide) ?_
  have hOM12 : mOk M12 := by rw [e13]; exact mOk_New hOM10
  refine wm_newarrE 0 (atype := .int) (ty := .int) rfl rfl (fun _ => rfl) rfl rfl (by decide) k1_82 ⟨by decide, by decide⟩ d_Ma_init_23 e13 ?_
  have hOM15 : mOk M15 := by rw [e16]; exact mOk_UR hOM12
  refine pf_Ma_18 rfl d_Ma_init_25 h14 e16 ?_
  refine wm_aload_n d_Ma_init_28 rfl rfl ?_
  refine wm_bipush d_Ma_init_29 (by decide) ?_
  have hOM17 : mOk M17 := by rw [e18]; exact mOk_New hOM15
  refine wm_newarrE 0 (atype := .int) (ty := .int) rfl rfl (fun _ => rfl) rfl rfl (by decide) k1_82 ⟨by decide, by decide⟩ d_Ma_init_31 e18 ?_
  have hOM20 : mOk M20 := by rw [e21]; exact mOk_UR hOM17
  refine pf_Ma_21 rfl d_Ma_init_33 h19 e21 ?_
  refine wm_aload_n d_Ma_init_36 rfl rfl ?_
  refine wm_iconst d_Ma_init_37 ?_
  have hOM22 : mOk M22 := by rw [e23]; exact mOk_UI hOM20 ⟨by decide, by decide⟩
  refine pf_Ma_24 rfl d_Ma_init_38 (by rw [e21]; exact h19) ⟨by decide, by decide⟩ e23 ?_
  refine wm_aload_n d_Ma_init_41 rfl rfl ?_
  refine wm_bipush d_Ma_init_42 (by decide) ?_
  have hOM24 : mOk M24 := by rw [e25]; exact mOk_New hOM22
  refine wm_newarrE 0 (atype := .int) (ty := .int) rfl rfl (fun _ => rfl) rfl rfl (by decide) k1_82 ⟨by decide, by decide⟩ d_Ma_init_44 e25 ?_
  have hOM27 : mOk M27 := by rw [e28]; exact mOk_UR hOM24
  refine pf_Ma_28 rfl rfl d_Ma_init_46 h26 e28 ?_
  refine wm_aload_n d_Ma_init_49 rfl rfl ?_
  refine wm_bipush d_Ma_init_50 (by decide) ?_
  have hOM29 : mOk M29 := by rw [e30]; exact mOk_New hOM27
  refine wm_newarrE 0 (atype := .int) (ty := .int) rfl rfl (fun _ => rfl) rfl rfl (by decide) k1_82 ⟨by decide, by decide⟩ d_Ma_init_52 e30 ?_
  have hOM32 : mOk M32 := by rw [e33]; exact mOk_UR hOM29
  refine pf_Ma_31 rfl rfl d_Ma_init_54 h31 e33 ?_
  refine wm_aload_n d_Ma_init_57 rfl rfl ?_
  refine wm_bipush d_Ma_init_58 (by decide) ?_
  have hOM34 : mOk M34 := by rw [e35]; exact mOk_New hOM32
  refine wm_newarrE 0 (atype := .int) (ty := .int) rfl rfl (fun _ => rfl) rfl rfl (by decide) k1_82 ⟨by decide, by decide⟩ d_Ma_init_60 e35 ?_
  have hOM37 : mOk M37 := by rw [e38]; exact mOk_UR hOM34
  refine pf_Ma_34 rfl rfl d_Ma_init_62 h36 e38 ?_
  refine wm_aload_n d_Ma_init_65 rfl rfl ?_
  refine wm_bipush d_Ma_init_66 (by decide) ?_
  have hOM39 : mOk M39 := by rw [e40]; exact mOk_New hOM37
  refine wm_newarrE 0 (atype := .int) (ty := .int) rfl rfl (fun _ => rfl) rfl rfl (by decide) k1_82 ⟨by decide, by decide⟩ d_Ma_init_68 e40 ?_
  have hOM42 : mOk M42 := by rw [e43]; exact mOk_UR hOM39
  refine pf_Ma_37 rfl rfl d_Ma_init_70 h41 e43 ?_
  refine wm_aload_n d_Ma_init_73 rfl rfl ?_
  refine wm_bipush d_Ma_init_74 (by decide) ?_
  have hOM44 : mOk M44 := by rw [e45]; exact mOk_New hOM42
  refine wm_newarrE 0 (atype := .int) (ty := .int) rfl rfl (fun _ => rfl) rfl rfl (by decide) k1_82 ⟨by decide, by decide⟩ d_Ma_init_76 e45 ?_
  have hOM47 : mOk M47 := by rw [e48]; exact mOk_UR hOM44
  refine pf_Ma_40 rfl rfl d_Ma_init_78 h46 e48 ?_
  refine wm_return d_Ma_init_81 rfl ?_
  exact ⟨rfl, h⟩
theorem d_Ma_commonDivisor_0 : decode y_Ma_commonDivisor.2.1 0 = .ok (.lload_n 0, 1) := dc9_30 (by decide +kernel)
theorem d_Ma_commonDivisor_1 : decode y_Ma_commonDivisor.2.1 1 = .ok (.lconst 0, 1) := dc9_9 (by decide +kernel)
theorem d_Ma_commonDivisor_2 : decode y_Ma_commonDivisor.2.1 2 = .ok (.lcmp, 1) := dc9_148 (by decide +kernel)
theorem d_Ma_commonDivisor_3 : decode y_Ma_commonDivisor.2.1 3 = .ok (.ifCond .ge 8, 3) := dc9_156 (by decide +kernel)
theorem d_Ma_commonDivisor_11 : decode y_Ma_commonDivisor.2.1 11 = .ok (.lload_n 0, 1) := dc9_30 (by decide +kernel)
theorem d_Ma_commonDivisor_6 : decode y_Ma_commonDivisor.2.1 6 = .ok (.lload_n 0, 1) := dc9_30 (by decide +kernel)
theorem d_Ma_commonDivisor_7 : decode y_Ma_commonDivisor.2.1 7 = .ok (.lneg, 1) := dc9_117 (by decide +kernel)
theorem d_Ma_commonDivisor_8 : decode y_Ma_commonDivisor.2.1 8 = .ok (.goto 4, 3) := dc9_167 (by decide +kernel)
theorem d_Ma_commonDivisor_12 : decode y_Ma_commonDivisor.2.1 12 = .ok (.lstore 4, 2) := dc9_55 (by decide +kernel)
theorem d_Ma_commonDivisor_14 : decode y_Ma_commonDivisor.2.1 14 = .ok (.lload_n 2, 1) := dc9_32 (by decide +kernel)
theorem d_Ma_commonDivisor_15 : decode y_Ma_commonDivisor.2.1 15 = .ok (.lstore 6, 2) := dc9_55 (by decide +kernel)
theorem d_Ma_commonDivisor_17 : decode y_Ma_commonDivisor.2.1 17 = .ok (.iconst 0, 1) := dc9_3 (by decide +kernel)
theorem d_Ma_commonDivisor_18 : decode y_Ma_commonDivisor.2.1 18 = .ok (.istore 8, 2) := dc9_54 (by decide +kernel)
theorem d_Ma_commonDivisor_20 : decode y_Ma_commonDivisor.2.1 20 = .ok (.iload 8, 2) := dc9_21 (by decide +kernel)
theorem d_Ma_commonDivisor_22 : decode y_Ma_commonDivisor.2.1 22 = .ok (.bipush 100, 2) := dc9_16 (by decide +kernel)
theorem d_Ma_commonDivisor_24 : decode y_Ma_commonDivisor.2.1 24 = .ok (.if_icmp .ge 31, 3) := dc9_162 (by decide +kernel)
theorem d_Ma_commonDivisor_27 : decode y_Ma_commonDivisor.2.1 27 = .ok (.lload 6, 2) := dc9_22 (by decide +kernel)
theorem d_Ma_commonDivisor_29 : decode y_Ma_commonDivisor.2.1 29 = .ok (.lconst 0, 1) := dc9_9 (by decide +kernel)
theorem d_Ma_commonDivisor_30 : decode y_Ma_commonDivisor.2.1 30 = .ok (.lcmp, 1) := dc9_148 (by decide +kernel)
theorem d_Ma_commonDivisor_31 : decode y_Ma_commonDivisor.2.1 31 = .ok (.ifCond .eq 24, 3) := dc9_153 (by decide +kernel)
theorem d_Ma_commonDivisor_34 : decode y_Ma_commonDivisor.2.1 34 = .ok (.lload 4, 2) := dc9_22 (by decide +kernel)
theorem d_Ma_commonDivisor_36 : decode y_Ma_commonDivisor.2.1 36 = .ok (.lload 6, 2) := dc9_22 (by decide +kernel)
theorem d_Ma_commonDivisor_38 : decode y_Ma_commonDivisor.2.1 38 = .ok (.lrem, 1) := dc9_113 (by decide +kernel)
theorem d_Ma_commonDivisor_39 : decode y_Ma_commonDivisor.2.1 39 = .ok (.lstore 9, 2) := dc9_55 (by decide +kernel)
theorem d_Ma_commonDivisor_41 : decode y_Ma_commonDivisor.2.1 41 = .ok (.lload 6, 2) := dc9_22 (by decide +kernel)
theorem d_Ma_commonDivisor_43 : decode y_Ma_commonDivisor.2.1 43 = .ok (.lstore 4, 2) := dc9_55 (by decide +kernel)
theorem d_Ma_commonDivisor_45 : decode y_Ma_commonDivisor.2.1 45 = .ok (.lload 9, 2) := dc9_22 (by decide +kernel)
theorem d_Ma_commonDivisor_47 : decode y_Ma_commonDivisor.2.1 47 = .ok (.lstore 6, 2) := dc9_55 (by decide +kernel)
theorem d_Ma_commonDivisor_49 : decode y_Ma_commonDivisor.2.1 49 = .ok (.iinc 8 1, 3) := by decide +kernel
theorem d_Ma_commonDivisor_52 : decode y_Ma_commonDivisor.2.1 52 = .ok (.goto (-32), 3) := dc9_167 (by decide +kernel)
theorem d_Ma_commonDivisor_55 : decode y_Ma_commonDivisor.2.1 55 = .ok (.lload 4, 2) := dc9_22 (by decide +kernel)
theorem d_Ma_commonDivisor_57 : decode y_Ma_commonDivisor.2.1 57 = .ok (.lconst 0, 1) := dc9_9 (by decide +kernel)
theorem d_Ma_commonDivisor_58 : decode y_Ma_commonDivisor.2.1 58 = .ok (.lcmp, 1) := dc9_148 (by decide +kernel)
theorem d_Ma_commonDivisor_59 : decode y_Ma_commonDivisor.2.1 59 = .ok (.ifCond .ne 7, 3) := dc9_154 (by decide +kernel)
theorem d_Ma_commonDivisor_62 : decode y_Ma_commonDivisor.2.1 62 = .ok (.lconst 1, 1) := dc9_10 (by decide +kernel)
theorem d_Ma_commonDivisor_63 : decode y_Ma_commonDivisor.2.1 63 = .ok (.goto 5, 3) := dc9_167 (by decide +kernel)
theorem d_Ma_commonDivisor_66 : decode y_Ma_commonDivisor.2.1 66 = .ok (.lload 4, 2) := dc9_22 (by decide +kernel)
theorem d_Ma_commonDivisor_68 : decode y_Ma_commonDivisor.2.1 68 = .ok (.lreturn, 1) := dc9_173 (by decide +kernel)
def h_Ma_commonDivisor_20 (G : mG) (d : Nat) (j4 : Int) (j6 : Int) (l8 : Int) (M : mM) (Q : Int → mM → Prop) : Prop := mWm G y_Ma_commonDivisor d 20 [vd, vd, vd, vd, vl j4, vd, vl j6, vd, vi l8, vd, vd] [] M (fun r9 M9 => ∃ x9, r9 = some (vl x9) ∧ Q x9 M9)
theorem k_Ma_commonDivisor {G : mG} {d : Nat} {j0 : Int} {j2 : Int} {M : mM} {Q : Int → mM → Prop} (hO : mOk M) (hi_j0 : i64 j0) (hi_j2 : i64 j2)
    (h : ∀ v2 : Int, v2 = (if (0 ≤ cmpL j0 0) then j0 else -j0) → h_Ma_commonDivisor_20 G d v2 j2 0 M Q) :
    Cj G y_Ma_commonDivisor d [vl j0, vl j2] M Q := by
  refine wm_open (y := y_Ma_commonDivisor) rfl (Nat.le_of_ble_eq_true rfl) (L := [vl j0, vd, vl j2, vd, vd, vd, vd, vd, vd, vd, vd]) rfl ?_
  refine wm_lload_n d_Ma_commonDivisor_0 rfl rfl ?_
  refine wm_lconst (x := 0) d_Ma_commonDivisor_1 rfl ?_
  refine wm_lcmp d_Ma_commonDivisor_2 hi_j0 ⟨by decide, by decide⟩ ?_
  have hJ : ∀ v2 : Int, v2 = (if (0 ≤ cmpL j0 0) then j0 else -j0) → mWm G y_Ma_commonDivisor d 12 [vd, vd, vl j2, vd, vd, vd, vd, vd, vd, vd, vd] [vl v2] M (fun r9 M9 => ∃ x9, r9 = some (vl x9) ∧ Q x9 M9) := by
    intro v2 e4
    have h := h v2 e4
    refine wm_lstore d_Ma_commonDivisor_12 (by decide) (L' := [vd, vd, vl j2, vd, vl v2, vd, vd, vd, vd, vd, vd]) rfl ?_
    refine wm_lload_n d_Ma_commonDivisor_14 rfl rfl ?_
    refine wm_lstore d_Ma_commonDivisor_15 (by decide) (L' := [vd, vd, vl j2, vd, vl v2, vd, vl j2, vd, vd, vd, vd]) rfl ?_
    refine wm_iconst d_Ma_commonDivisor_17 ?_
    refine wm_istore d_Ma_commonDivisor_18 (by decide) (L' := [vd, vd, vl j2, vd, vl v2, vd, vl j2, vd, vi 0, vd, vd]) rfl ?_
    refine wm_less (L' := [vd, vd, vd, vd, vl v2, vd, vl j2, vd, vi 0, vd, vd]) ⟨Or.inl rfl, Or.inl rfl, Or.inl rfl, Or.inl rfl, Or.inr rfl, Or.inl rfl, Or.inr rfl, Or.inl rfl, Or.inr rfl, Or.inl rfl, Or.inl rfl, trivial⟩ ?_
    exact h
  clear h
  refine wm_if_ge (tgt := 11) d_Ma_commonDivisor_3 rfl (m_cmp32 _ _) (fun c1 => ?_) (fun c1 => ?_)
  · refine wm_lload_n d_Ma_commonDivisor_11 rfl rfl ?_
    refine wm_less (L' := [vd, vd, vl j2, vd, vd, vd, vd, vd, vd, vd, vd]) ⟨Or.inl rfl, Or.inl rfl, Or.inr rfl, Or.inl rfl, Or.inl rfl, Or.inl rfl, Or.inl rfl, Or.inl rfl, Or.inl rfl, Or.inl rfl, Or.inl rfl, trivial⟩ ?_
    exact hJ j0 (if_pos c1).symm
  · refine wm_lload_n d_Ma_commonDivisor_6 rfl rfl ?_
    refine wm_lneg d_Ma_commonDivisor_7 ?_
    refine wm_goto (tgt := 12) d_Ma_commonDivisor_8 rfl ?_
    refine wm_less (L' := [vd, vd, vl j2, vd, vd, vd, vd, vd, vd, vd, vd]) ⟨Or.inl rfl, Or.inl rfl, Or.inr rfl, Or.inl rfl, Or.inl rfl, Or.inl rfl, Or.inl rfl, Or.inl rfl, Or.inl rfl, Or.inl rfl, Or.inl rfl, trivial⟩ ?_
    exact hJ (-j0) (if_neg c1).symm
theorem k_Ma_commonDivisor_20 {G : mG} {d : Nat} {j4 : Int} {j6 : Int} {l8 : Int} {M : mM} {Q : Int → mM → Prop} (hO : mOk M) (hi_j4 : i64 j4) (hi_j6 : i64 j6) (hi_l8 : i32 l8)
    (h : (((100 ≤ l8) ∨ (cmpL j6 0 = 0)) → (∀ v12 : Int, v12 = (if (cmpL j4 0 = 0) then 1 else j4) → Q v12 M)) ∧ (¬ ((100 ≤ l8) ∨ (cmpL j6 0 = 0)) → (j6 ≠ 0 ∧ h_Ma_commonDivisor_20 G d j6 (Int.tmod j4 j6) (l8 + 1) M Q))) :
    h_Ma_commonDivisor_20 G d j4 j6 l8 M Q := by
  unfold h_Ma_commonDivisor_20
  refine wm_iload d_Ma_commonDivisor_20 rfl ?_
  refine wm_bipush d_Ma_commonDivisor_22 (by decide) ?_
  have hE0 : ((100 ≤ l8) ∨ (cmpL j6 0 = 0)) → mWm G y_Ma_commonDivisor d 55 [vd, vd, vd, vd, vl j4, vd, vl j6, vd, vi l8, vd, vd] [] M (fun r9 M9 => ∃ x9, r9 = some (vl x9) ∧ Q x9 M9) := by
    intro q10
    have h := h.1 q10
    refine wm_lload d_Ma_commonDivisor_55 rfl ?_
    refine wm_lconst (x := 0) d_Ma_commonDivisor_57 rfl ?_
    refine wm_lcmp d_Ma_commonDivisor_58 hi_j4 ⟨by decide, by decide⟩ ?_
    have hJ : ∀ v12 : Int, v12 = (if (cmpL j4 0 = 0) then 1 else j4) → mWm G y_Ma_commonDivisor d 68 [vd, vd, vd, vd, vd, vd, vd, vd, vd, vd, vd] [vl v12] M (fun r9 M9 => ∃ x9, r9 = some (vl x9) ∧ Q x9 M9) := by
      intro v12 e14
      have h := h v12 e14
      refine wm_lreturn d_Ma_commonDivisor_68 rfl ?_
      exact ⟨_, rfl, h⟩
    clear h
    refine wm_if_ne (tgt := 66) d_Ma_commonDivisor_59 rfl (m_cmp32 _ _) (fun c11 => ?_) (fun c11 => ?_)
    · refine wm_lload d_Ma_commonDivisor_66 rfl ?_
      refine wm_less (L' := [vd, vd, vd, vd, vd, vd, vd, vd, vd, vd, vd]) ⟨Or.inl rfl, Or.inl rfl, Or.inl rfl, Or.inl rfl, Or.inl rfl, Or.inl rfl, Or.inl rfl, Or.inl rfl, Or.inl rfl, Or.inl rfl, Or.inl rfl, trivial⟩ ?_
      exact hJ j4 (if_neg c11).symm
    · replace c11 := Classical.not_not.mp c11
      refine wm_lconst (x := 1) d_Ma_commonDivisor_62 rfl ?_
      refine wm_goto (tgt := 68) d_Ma_commonDivisor_63 rfl ?_
      refine wm_less (L' := [vd, vd, vd, vd, vd, vd, vd, vd, vd, vd, vd]) ⟨Or.inl rfl, Or.inl rfl, Or.inl rfl, Or.inl rfl, Or.inl rfl, Or.inl rfl, Or.inl rfl, Or.inl rfl, Or.inl rfl, Or.inl rfl, Or.inl rfl, trivial⟩ ?_
      exact hJ 1 (if_pos c11).symm
  have hE1 : ¬ ((100 ≤ l8) ∨ (cmpL j6 0 = 0)) → mWm G y_Ma_commonDivisor d 34 [vd, vd, vd, vd, vl j4, vd, vl j6, vd, vi l8, vd, vd] [] M (fun r9 M9 => ∃ x9, r9 = some (vl x9) ∧ Q x9 M9) := by
    intro q16
    have h := h.2 q16
    obtain ⟨h17, h⟩ := h
    refine wm_lload d_Ma_commonDivisor_34 rfl ?_
    refine wm_lload d_Ma_commonDivisor_36 rfl ?_
    refine wm_lrem d_Ma_commonDivisor_38 hi_j4 hi_j6 h17 ?_
    refine wm_lstore d_Ma_commonDivisor_39 (by decide) (L' := [vd, vd, vd, vd, vl j4, vd, vl j6, vd, vi l8, vl (Int.tmod j4 j6), vd]) rfl ?_
    refine wm_lload d_Ma_commonDivisor_41 rfl ?_
    refine wm_lstore d_Ma_commonDivisor_43 (by decide) (L' := [vd, vd, vd, vd, vl j6, vd, vl j6, vd, vi l8, vl (Int.tmod j4 j6), vd]) rfl ?_
    refine wm_lload d_Ma_commonDivisor_45 rfl ?_
    refine wm_lstore d_Ma_commonDivisor_47 (by decide) (L' := [vd, vd, vd, vd, vl j6, vd, vl (Int.tmod j4 j6), vd, vi l8, vl (Int.tmod j4 j6), vd]) rfl ?_
    refine wm_iinc d_Ma_commonDivisor_49 (by decide) rfl (L' := [vd, vd, vd, vd, vl j6, vd, vl (Int.tmod j4 j6), vd, vi (l8 + 1), vl (Int.tmod j4 j6), vd]) rfl ?_
    refine wm_goto (tgt := 20) d_Ma_commonDivisor_52 rfl ?_
    refine wm_less (L' := [vd, vd, vd, vd, vl j6, vd, vl (Int.tmod j4 j6), vd, vi (l8 + 1), vd, vd]) ⟨Or.inl rfl, Or.inl rfl, Or.inl rfl, Or.inl rfl, Or.inr rfl, Or.inl rfl, Or.inr rfl, Or.inl rfl, Or.inr rfl, Or.inl rfl, Or.inl rfl, trivial⟩ ?_
    exact h
  clear h
  refine wm_icmp_ge (tgt := 55) d_Ma_commonDivisor_24 rfl hi_l8 ⟨by decide, by decide⟩ (fun c8 => ?_) (fun c8 => ?_)
  · exact hE0 (Or.inl c8)
  · refine wm_lload d_Ma_commonDivisor_27 rfl ?_
    refine wm_lconst (x := 0) d_Ma_commonDivisor_29 rfl ?_
    refine wm_lcmp d_Ma_commonDivisor_30 hi_j6 ⟨by decide, by decide⟩ ?_
    refine wm_if_eq (tgt := 55) d_Ma_commonDivisor_31 rfl (m_cmp32 _ _) (fun c7 => ?_) (fun c7 => ?_)
    · exact hE0 (Or.inr c7)
    · exact hE1 (fun z18 => Or.elim z18 c8 c7)
theorem d_Ma_enter_0 : decode y_Ma_enter.2.1 0 = .ok (.aload_n 0, 1) := dc9_42 (by decide +kernel)
theorem d_Ma_enter_1 : decode y_Ma_enter.2.1 1 = .ok (.aload_n 1, 1) := dc9_43 (by decide +kernel)
theorem d_Ma_enter_2 : decode y_Ma_enter.2.1 2 = .ok (.putfield 9, 3) := dc9_181 (by decide +kernel)
theorem d_Ma_enter_5 : decode y_Ma_enter.2.1 5 = .ok (.aload_n 0, 1) := dc9_42 (by decide +kernel)
theorem d_Ma_enter_6 : decode y_Ma_enter.2.1 6 = .ok (.iload_n 2, 1) := dc9_28 (by decide +kernel)
theorem d_Ma_enter_7 : decode y_Ma_enter.2.1 7 = .ok (.putfield 43, 3) := dc9_181 (by decide +kernel)
theorem d_Ma_enter_10 : decode y_Ma_enter.2.1 10 = .ok (.aload_n 0, 1) := dc9_42 (by decide +kernel)
theorem d_Ma_enter_11 : decode y_Ma_enter.2.1 11 = .ok (.dup, 1) := dc9_89 (by decide +kernel)
theorem d_Ma_enter_12 : decode y_Ma_enter.2.1 12 = .ok (.getfield 24, 3) := dc9_180 (by decide +kernel)
theorem d_Ma_enter_15 : decode y_Ma_enter.2.1 15 = .ok (.iconst 1, 1) := dc9_4 (by decide +kernel)
theorem d_Ma_enter_16 : decode y_Ma_enter.2.1 16 = .ok (.iadd, 1) := dc9_96 (by decide +kernel)
theorem d_Ma_enter_17 : decode y_Ma_enter.2.1 17 = .ok (.putfield 24, 3) := dc9_181 (by decide +kernel)
theorem d_Ma_enter_20 : decode y_Ma_enter.2.1 20 = .ok (.return_, 1) := dc9_177 (by decide +kernel)
theorem k_Ma_enter {G : mG} {d : Nat} {a0 : Nat} {a1 : Nat} {l2 : Int} {M : mM} {Q : mM → Prop} (hO : mOk M) (hi_l2 : i32 l2)
    (h : mK M a0 = 5 ∧ ∀ M2, M2 = mUR M a0 3 a1 → ∀ M4, M4 = mUI M2 a0 4 l2 → i32 ((mI M4 a0 9) + 1) ∧ ∀ M7, M7 = mUI M4 a0 9 ((mI M4 a0 9) + 1) → Q M7) :
    Cv G y_Ma_enter d [vr a0, vr a1, vi l2] M Q := by
  refine wm_open (y := y_Ma_enter) rfl (Nat.le_of_ble_eq_true rfl) (L := [vr a0, vr a1, vi l2]) rfl ?_
  obtain ⟨h1, h⟩ := h
  obtain ⟨M2, e3⟩ : ∃ M2, M2 = mUR M a0 3 a1 := ⟨_, rfl⟩
  replace h := h M2 e3
  obtain ⟨M4, e5⟩ : ∃ M4, M4 = mUI M2 a0 4 l2 := ⟨_, rfl⟩
  replace h := h M4 e5
  obtain ⟨h6, h⟩ := h
  obtain ⟨M7, e8⟩ : ∃ M7, M7 = mUI M4 a0 9 ((mI M4 a0 9) + 1) := ⟨_, rfl⟩
  replace h := h M7 e8
  refine wm_aload_n d_Ma_enter_0 rfl rfl ?_
  refine wm_aload_n d_Ma_enter_1 rfl rfl ?_
  have hOM2 : mOk M2 := by rw [e3]; exact mOk_UR hO
  refine pf_Ma_9 rfl d_Ma_enter_2 h1 e3 ?_
  refine wm_aload_n d_Ma_enter_5 rfl rfl ?_
  refine wm_iload_n d_Ma_enter_6 rfl rfl ?_
  have hOM4 : mOk M4 := by rw [e5]; exact mOk_UI hOM2 hi_l2
  refine pf_Ma_43 rfl d_Ma_enter_7 (by rw [e3]; exact h1) hi_l2 e5 ?_
  refine wm_aload_n d_Ma_enter_10 rfl rfl ?_
  refine wm_dup d_Ma_enter_11 rfl ?_
  refine gf_Ma_24 rfl d_Ma_enter_12 (by rw [e5, e3]; exact h1) ?_
  refine wm_iconst d_Ma_enter_15 ?_
  refine wm_iadd d_Ma_enter_16 ?_
  have hOM7 : mOk M7 := by rw [e8]; exact mOk_UI hOM4 h6
  refine pf_Ma_24 rfl d_Ma_enter_17 (by rw [e5, e3]; exact h1) h6 e8 ?_
  refine wm_return d_Ma_enter_20 rfl ?_
  exact ⟨rfl, h⟩
theorem d_Ma_beginSets_0 : decode y_Ma_beginSets.2.1 0 = .ok (.aload_n 0, 1) := dc9_42 (by decide +kernel)
theorem d_Ma_beginSets_1 : decode y_Ma_beginSets.2.1 1 = .ok (.getfield 9, 3) := dc9_180 (by decide +kernel)
theorem d_Ma_beginSets_4 : decode y_Ma_beginSets.2.1 4 = .ok (.aload_n 0, 1) := dc9_42 (by decide +kernel)
theorem d_Ma_beginSets_5 : decode y_Ma_beginSets.2.1 5 = .ok (.getfield 43, 3) := dc9_180 (by decide +kernel)
theorem d_Ma_beginSets_8 : decode y_Ma_beginSets.2.1 8 = .ok (.aload_n 0, 1) := dc9_42 (by decide +kernel)
theorem d_Ma_beginSets_9 : decode y_Ma_beginSets.2.1 9 = .ok (.getfield 15, 3) := dc9_180 (by decide +kernel)
theorem d_Ma_beginSets_12 : decode y_Ma_beginSets.2.1 12 = .ok (.iconst 0, 1) := dc9_3 (by decide +kernel)
theorem d_Ma_beginSets_13 : decode y_Ma_beginSets.2.1 13 = .ok (.bipush 12, 2) := dc9_16 (by decide +kernel)
theorem d_Ma_beginSets_15 : decode y_Ma_beginSets.2.1 15 = .ok (.invokestatic 46, 3) := dc9_184 (by decide +kernel)
theorem d_Ma_beginSets_18 : decode y_Ma_beginSets.2.1 18 = .ok (.return_, 1) := dc9_177 (by decide +kernel)
theorem k_Ma_beginSets {G : mG} {d : Nat} {a0 : Nat} {M : mM} {Q : mM → Prop} (hO : mOk M)
    (h : mK M a0 = 5 ∧ mK M (mR M a0 3) = 30 ∧ mK M (mR M a0 5) = 30 ∧ ((0 : Int) ≤ mI M a0 4 ∧ (0 : Int) ≤ 0 ∧ (0 : Int) ≤ 12 ∧ (mI M a0 4) + 12 ≤ (mN M (mR M a0 3) : Int) ∧ 0 + 12 ≤ (mN M (mR M a0 5) : Int)) ∧ ∀ M5, M5 = mCpy M (mR M a0 3) (mR M a0 5) (Int.toNat (mI M a0 4)) 0 12 → Q M5) :
    Cv G y_Ma_beginSets (d + 1) [vr a0] M Q := by
  refine wm_open (y := y_Ma_beginSets) rfl (Nat.le_of_ble_eq_true rfl) (L := [vr a0]) rfl ?_
  obtain ⟨h1, h⟩ := h
  obtain ⟨h2, h⟩ := h
  obtain ⟨h3, h⟩ := h
  obtain ⟨h4, h⟩ := h
  obtain ⟨M5, e6⟩ : ∃ M5, M5 = mCpy M (mR M a0 3) (mR M a0 5) (Int.toNat (mI M a0 4)) 0 12 := ⟨_, rfl⟩
  replace h := h M5 e6
  refine wm_aload_n d_Ma_beginSets_0 rfl rfl ?_
  refine gf_Ma_9 rfl d_Ma_beginSets_1 h1 ?_
  refine wm_aload_n d_Ma_beginSets_4 rfl rfl ?_
  refine gf_Ma_43 rfl d_Ma_beginSets_5 h1 ?_
  refine wm_aload_n d_Ma_beginSets_8 rfl rfl ?_
  refine gf_Ma_15 rfl d_Ma_beginSets_9 h1 ?_
  refine wm_iconst d_Ma_beginSets_12 ?_
  refine wm_bipush d_Ma_beginSets_13 (by decide) ?_
  have hOM5 : mOk M5 := by rw [e6]; exact mOk_Cpy hO
  refine wm_copyi k8_38 (Nat.le_of_ble_eq_true rfl) h2 h3 h4 d_Ma_beginSets_15 e6 ?_
  refine wm_return d_Ma_beginSets_18 rfl ?_
  exact ⟨rfl, h⟩
end
section
theorem d_Ma_run_0 : decode y_Ma_run.2.1 0 = .ok (.iload_n 1, 1) := dc9_27 (by decide +kernel)
theorem d_Ma_run_1 : decode y_Ma_run.2.1 1 = .ok (.istore_n 2, 1) := dc9_61 (by decide +kernel)
theorem d_Ma_run_2 : decode y_Ma_run.2.1 2 = .ok (.aload_n 0, 1) := dc9_42 (by decide +kernel)
theorem d_Ma_run_3 : decode y_Ma_run.2.1 3 = .ok (.iconst 0, 1) := dc9_3 (by decide +kernel)
theorem d_Ma_run_4 : decode y_Ma_run.2.1 4 = .ok (.putfield 52, 3) := dc9_181 (by decide +kernel)
theorem d_Ma_run_7 : decode y_Ma_run.2.1 7 = .ok (.aload_n 0, 1) := dc9_42 (by decide +kernel)
theorem d_Ma_run_8 : decode y_Ma_run.2.1 8 = .ok (.iconst 0, 1) := dc9_3 (by decide +kernel)
theorem d_Ma_run_9 : decode y_Ma_run.2.1 9 = .ok (.putfield 55, 3) := dc9_181 (by decide +kernel)
theorem d_Ma_run_12 : decode y_Ma_run.2.1 12 = .ok (.iconst 0, 1) := dc9_3 (by decide +kernel)
theorem d_Ma_run_13 : decode y_Ma_run.2.1 13 = .ok (.istore_n 3, 1) := dc9_62 (by decide +kernel)
theorem d_Ma_run_14 : decode y_Ma_run.2.1 14 = .ok (.iload_n 3, 1) := dc9_29 (by decide +kernel)
theorem d_Ma_run_15 : decode y_Ma_run.2.1 15 = .ok (.ldc 58, 2) := dc9_18 (by decide +kernel)
theorem d_Ma_run_17 : decode y_Ma_run.2.1 17 = .ok (.if_icmp .ge 347, 3) := dc9_162 (by decide +kernel)
theorem d_Ma_run_20 : decode y_Ma_run.2.1 20 = .ok (.iload_n 2, 1) := dc9_28 (by decide +kernel)
theorem d_Ma_run_21 : decode y_Ma_run.2.1 21 = .ok (.ifCond .lt 343, 3) := dc9_155 (by decide +kernel)
theorem d_Ma_run_24 : decode y_Ma_run.2.1 24 = .ok (.iload_n 2, 1) := dc9_28 (by decide +kernel)
theorem d_Ma_run_25 : decode y_Ma_run.2.1 25 = .ok (.aload_n 0, 1) := dc9_42 (by decide +kernel)
theorem d_Ma_run_26 : decode y_Ma_run.2.1 26 = .ok (.getfield 59, 3) := dc9_180 (by decide +kernel)
theorem d_Ma_run_29 : decode y_Ma_run.2.1 29 = .ok (.getfield 63, 3) := dc9_180 (by decide +kernel)
theorem d_Ma_run_32 : decode y_Ma_run.2.1 32 = .ok (.if_icmp .ge 332, 3) := dc9_162 (by decide +kernel)
theorem d_Ma_run_35 : decode y_Ma_run.2.1 35 = .ok (.aload_n 0, 1) := dc9_42 (by decide +kernel)
theorem d_Ma_run_36 : decode y_Ma_run.2.1 36 = .ok (.getfield 59, 3) := dc9_180 (by decide +kernel)
theorem d_Ma_run_39 : decode y_Ma_run.2.1 39 = .ok (.getfield 68, 3) := dc9_180 (by decide +kernel)
theorem d_Ma_run_42 : decode y_Ma_run.2.1 42 = .ok (.iload_n 2, 1) := dc9_28 (by decide +kernel)
theorem d_Ma_run_43 : decode y_Ma_run.2.1 43 = .ok (.iaload, 1) := dc9_46 (by decide +kernel)
theorem d_Ma_run_44 : decode y_Ma_run.2.1 44 = .ok (.istore 4, 2) := dc9_54 (by decide +kernel)
theorem d_Ma_run_46 : decode y_Ma_run.2.1 46 = .ok (.aload_n 0, 1) := dc9_42 (by decide +kernel)
theorem d_Ma_run_47 : decode y_Ma_run.2.1 47 = .ok (.getfield 59, 3) := dc9_180 (by decide +kernel)
theorem d_Ma_run_50 : decode y_Ma_run.2.1 50 = .ok (.getfield 71, 3) := dc9_180 (by decide +kernel)
theorem d_Ma_run_53 : decode y_Ma_run.2.1 53 = .ok (.iload_n 2, 1) := dc9_28 (by decide +kernel)
theorem d_Ma_run_54 : decode y_Ma_run.2.1 54 = .ok (.iaload, 1) := dc9_46 (by decide +kernel)
theorem d_Ma_run_55 : decode y_Ma_run.2.1 55 = .ok (.istore 5, 2) := dc9_54 (by decide +kernel)
theorem d_Ma_run_57 : decode y_Ma_run.2.1 57 = .ok (.iinc 2 1, 3) := by decide +kernel
theorem d_Ma_run_60 : decode y_Ma_run.2.1 60 = .ok (.iload 4, 2) := dc9_21 (by decide +kernel)
theorem d_Ma_run_364 : decode y_Ma_run.2.1 364 = .ok (.aload_n 0, 1) := dc9_42 (by decide +kernel)
theorem d_Ma_run_365 : decode y_Ma_run.2.1 365 = .ok (.bipush 6, 2) := dc9_16 (by decide +kernel)
theorem d_Ma_run_367 : decode y_Ma_run.2.1 367 = .ok (.iconst 0, 1) := dc9_3 (by decide +kernel)
theorem d_Ma_run_368 : decode y_Ma_run.2.1 368 = .ok (.invokevirtual 92, 3) := dc9_182 (by decide +kernel)
theorem d_Ma_run_371 : decode y_Ma_run.2.1 371 = .ok (.ireturn, 1) := dc9_172 (by decide +kernel)
theorem d_Ma_run_62 : decode y_Ma_run.2.1 62 = .ok (.lookupswitch 283 #[(0, 266), (3, 82), (4, 92), (5, 119), (7, 139), (30, 150), (31, 150), (33, 228), (42, 260)], 82) := by decide +kernel
theorem z_Ma_run_62_s : lkS #[(0, 266), (3, 82), (4, 92), (5, 119), (7, 139), (30, 150), (31, 150), (33, 228), (42, 260)] := by unfold lkS; decide
theorem d_Ma_run_328 : decode y_Ma_run.2.1 328 = .ok (.aload_n 0, 1) := dc9_42 (by decide +kernel)
theorem d_Ma_run_329 : decode y_Ma_run.2.1 329 = .ok (.getfield 55, 3) := dc9_180 (by decide +kernel)
theorem d_Ma_run_332 : decode y_Ma_run.2.1 332 = .ok (.ifCond .ne 5, 3) := dc9_154 (by decide +kernel)
theorem d_Ma_run_335 : decode y_Ma_run.2.1 335 = .ok (.iconst 1, 1) := dc9_4 (by decide +kernel)
theorem d_Ma_run_336 : decode y_Ma_run.2.1 336 = .ok (.ireturn, 1) := dc9_172 (by decide +kernel)
theorem d_Ma_run_337 : decode y_Ma_run.2.1 337 = .ok (.aload_n 0, 1) := dc9_42 (by decide +kernel)
theorem d_Ma_run_338 : decode y_Ma_run.2.1 338 = .ok (.invokevirtual 84, 3) := dc9_182 (by decide +kernel)
theorem d_Ma_run_341 : decode y_Ma_run.2.1 341 = .ok (.istore_n 2, 1) := dc9_61 (by decide +kernel)
theorem d_Ma_run_342 : decode y_Ma_run.2.1 342 = .ok (.goto 16, 3) := dc9_167 (by decide +kernel)
theorem d_Ma_run_358 : decode y_Ma_run.2.1 358 = .ok (.iinc 3 1, 3) := by decide +kernel
theorem d_Ma_run_361 : decode y_Ma_run.2.1 361 = .ok (.goto (-347), 3) := dc9_167 (by decide +kernel)
theorem d_Ma_run_144 : decode y_Ma_run.2.1 144 = .ok (.aload_n 0, 1) := dc9_42 (by decide +kernel)
theorem d_Ma_run_145 : decode y_Ma_run.2.1 145 = .ok (.iload 5, 2) := dc9_21 (by decide +kernel)
theorem d_Ma_run_147 : decode y_Ma_run.2.1 147 = .ok (.iconst 1, 1) := dc9_4 (by decide +kernel)
theorem d_Ma_run_148 : decode y_Ma_run.2.1 148 = .ok (.invokevirtual 74, 3) := dc9_182 (by decide +kernel)
theorem d_Ma_run_151 : decode y_Ma_run.2.1 151 = .ok (.goto 207, 3) := dc9_167 (by decide +kernel)
theorem d_Ma_run_154 : decode y_Ma_run.2.1 154 = .ok (.aload_n 0, 1) := dc9_42 (by decide +kernel)
theorem d_Ma_run_155 : decode y_Ma_run.2.1 155 = .ok (.aload_n 0, 1) := dc9_42 (by decide +kernel)
theorem d_Ma_run_156 : decode y_Ma_run.2.1 156 = .ok (.getfield 59, 3) := dc9_180 (by decide +kernel)
theorem d_Ma_run_159 : decode y_Ma_run.2.1 159 = .ok (.getfield 78, 3) := dc9_180 (by decide +kernel)
theorem d_Ma_run_162 : decode y_Ma_run.2.1 162 = .ok (.iload 5, 2) := dc9_21 (by decide +kernel)
theorem d_Ma_run_164 : decode y_Ma_run.2.1 164 = .ok (.iaload, 1) := dc9_46 (by decide +kernel)
theorem d_Ma_run_165 : decode y_Ma_run.2.1 165 = .ok (.aload_n 0, 1) := dc9_42 (by decide +kernel)
theorem d_Ma_run_166 : decode y_Ma_run.2.1 166 = .ok (.getfield 59, 3) := dc9_180 (by decide +kernel)
theorem d_Ma_run_169 : decode y_Ma_run.2.1 169 = .ok (.getfield 79, 3) := dc9_180 (by decide +kernel)
theorem d_Ma_run_172 : decode y_Ma_run.2.1 172 = .ok (.iload 5, 2) := dc9_21 (by decide +kernel)
theorem d_Ma_run_174 : decode y_Ma_run.2.1 174 = .ok (.iaload, 1) := dc9_46 (by decide +kernel)
theorem d_Ma_run_175 : decode y_Ma_run.2.1 175 = .ok (.invokevirtual 74, 3) := dc9_182 (by decide +kernel)
theorem d_Ma_run_178 : decode y_Ma_run.2.1 178 = .ok (.goto 180, 3) := dc9_167 (by decide +kernel)
theorem d_Ma_run_181 : decode y_Ma_run.2.1 181 = .ok (.aload_n 0, 1) := dc9_42 (by decide +kernel)
theorem d_Ma_run_182 : decode y_Ma_run.2.1 182 = .ok (.aload_n 0, 1) := dc9_42 (by decide +kernel)
theorem d_Ma_run_183 : decode y_Ma_run.2.1 183 = .ok (.getfield 9, 3) := dc9_180 (by decide +kernel)
theorem d_Ma_run_186 : decode y_Ma_run.2.1 186 = .ok (.aload_n 0, 1) := dc9_42 (by decide +kernel)
theorem d_Ma_run_187 : decode y_Ma_run.2.1 187 = .ok (.getfield 43, 3) := dc9_180 (by decide +kernel)
theorem d_Ma_run_190 : decode y_Ma_run.2.1 190 = .ok (.iload 5, 2) := dc9_21 (by decide +kernel)
theorem d_Ma_run_192 : decode y_Ma_run.2.1 192 = .ok (.iadd, 1) := dc9_96 (by decide +kernel)
theorem d_Ma_run_193 : decode y_Ma_run.2.1 193 = .ok (.iaload, 1) := dc9_46 (by decide +kernel)
theorem d_Ma_run_194 : decode y_Ma_run.2.1 194 = .ok (.iconst 1, 1) := dc9_4 (by decide +kernel)
theorem d_Ma_run_195 : decode y_Ma_run.2.1 195 = .ok (.invokevirtual 74, 3) := dc9_182 (by decide +kernel)
theorem d_Ma_run_198 : decode y_Ma_run.2.1 198 = .ok (.goto 160, 3) := dc9_167 (by decide +kernel)
theorem d_Ma_run_201 : decode y_Ma_run.2.1 201 = .ok (.aload_n 0, 1) := dc9_42 (by decide +kernel)
theorem d_Ma_run_202 : decode y_Ma_run.2.1 202 = .ok (.iload 5, 2) := dc9_21 (by decide +kernel)
theorem d_Ma_run_204 : decode y_Ma_run.2.1 204 = .ok (.iload_n 2, 1) := dc9_28 (by decide +kernel)
theorem d_Ma_run_205 : decode y_Ma_run.2.1 205 = .ok (.invokevirtual 80, 3) := dc9_182 (by decide +kernel)
theorem d_Ma_run_208 : decode y_Ma_run.2.1 208 = .ok (.istore_n 2, 1) := dc9_61 (by decide +kernel)
theorem d_Ma_run_209 : decode y_Ma_run.2.1 209 = .ok (.goto 149, 3) := dc9_167 (by decide +kernel)
theorem d_Ma_run_212 : decode y_Ma_run.2.1 212 = .ok (.aload_n 0, 1) := dc9_42 (by decide +kernel)
theorem d_Ma_run_213 : decode y_Ma_run.2.1 213 = .ok (.getfield 18, 3) := dc9_180 (by decide +kernel)
theorem d_Ma_run_216 : decode y_Ma_run.2.1 216 = .ok (.aload_n 0, 1) := dc9_42 (by decide +kernel)
theorem d_Ma_run_217 : decode y_Ma_run.2.1 217 = .ok (.getfield 52, 3) := dc9_180 (by decide +kernel)
theorem d_Ma_run_220 : decode y_Ma_run.2.1 220 = .ok (.iconst 1, 1) := dc9_4 (by decide +kernel)
theorem d_Ma_run_221 : decode y_Ma_run.2.1 221 = .ok (.isub, 1) := dc9_100 (by decide +kernel)
theorem d_Ma_run_222 : decode y_Ma_run.2.1 222 = .ok (.iaload, 1) := dc9_46 (by decide +kernel)
theorem d_Ma_run_223 : decode y_Ma_run.2.1 223 = .ok (.ifCond .ne 7, 3) := dc9_154 (by decide +kernel)
theorem d_Ma_run_226 : decode y_Ma_run.2.1 226 = .ok (.iconst 1, 1) := dc9_4 (by decide +kernel)
theorem d_Ma_run_227 : decode y_Ma_run.2.1 227 = .ok (.goto 4, 3) := dc9_167 (by decide +kernel)
theorem d_Ma_run_230 : decode y_Ma_run.2.1 230 = .ok (.iconst 0, 1) := dc9_3 (by decide +kernel)
theorem d_Ma_run_231 : decode y_Ma_run.2.1 231 = .ok (.iload 4, 2) := dc9_21 (by decide +kernel)
theorem d_Ma_run_233 : decode y_Ma_run.2.1 233 = .ok (.bipush 30, 2) := dc9_16 (by decide +kernel)
theorem d_Ma_run_235 : decode y_Ma_run.2.1 235 = .ok (.if_icmp .ne 7, 3) := dc9_160 (by decide +kernel)
theorem d_Ma_run_238 : decode y_Ma_run.2.1 238 = .ok (.iconst 1, 1) := dc9_4 (by decide +kernel)
theorem d_Ma_run_239 : decode y_Ma_run.2.1 239 = .ok (.goto 4, 3) := dc9_167 (by decide +kernel)
theorem d_Ma_run_242 : decode y_Ma_run.2.1 242 = .ok (.iconst 0, 1) := dc9_3 (by decide +kernel)
theorem d_Ma_run_243 : decode y_Ma_run.2.1 243 = .ok (.if_icmp .ne 7, 3) := dc9_160 (by decide +kernel)
theorem d_Ma_run_246 : decode y_Ma_run.2.1 246 = .ok (.iconst 1, 1) := dc9_4 (by decide +kernel)
theorem d_Ma_run_247 : decode y_Ma_run.2.1 247 = .ok (.goto 4, 3) := dc9_167 (by decide +kernel)
theorem d_Ma_run_250 : decode y_Ma_run.2.1 250 = .ok (.iconst 0, 1) := dc9_3 (by decide +kernel)
theorem d_Ma_run_251 : decode y_Ma_run.2.1 251 = .ok (.istore 6, 2) := dc9_54 (by decide +kernel)
theorem d_Ma_run_253 : decode y_Ma_run.2.1 253 = .ok (.iload 6, 2) := dc9_21 (by decide +kernel)
theorem d_Ma_run_255 : decode y_Ma_run.2.1 255 = .ok (.ifCond .eq 8, 3) := dc9_153 (by decide +kernel)
theorem d_Ma_run_263 : decode y_Ma_run.2.1 263 = .ok (.iload_n 2, 1) := dc9_28 (by decide +kernel)
theorem d_Ma_run_258 : decode y_Ma_run.2.1 258 = .ok (.iload 5, 2) := dc9_21 (by decide +kernel)
theorem d_Ma_run_260 : decode y_Ma_run.2.1 260 = .ok (.goto 4, 3) := dc9_167 (by decide +kernel)
theorem d_Ma_run_264 : decode y_Ma_run.2.1 264 = .ok (.istore_n 2, 1) := dc9_61 (by decide +kernel)
theorem d_Ma_run_265 : decode y_Ma_run.2.1 265 = .ok (.aload_n 0, 1) := dc9_42 (by decide +kernel)
theorem d_Ma_run_266 : decode y_Ma_run.2.1 266 = .ok (.iload 6, 2) := dc9_21 (by decide +kernel)
theorem d_Ma_run_268 : decode y_Ma_run.2.1 268 = .ok (.ifCond .eq 10, 3) := dc9_153 (by decide +kernel)
theorem d_Ma_run_278 : decode y_Ma_run.2.1 278 = .ok (.aload_n 0, 1) := dc9_42 (by decide +kernel)
theorem d_Ma_run_279 : decode y_Ma_run.2.1 279 = .ok (.getfield 52, 3) := dc9_180 (by decide +kernel)
theorem d_Ma_run_282 : decode y_Ma_run.2.1 282 = .ok (.iconst 1, 1) := dc9_4 (by decide +kernel)
theorem d_Ma_run_283 : decode y_Ma_run.2.1 283 = .ok (.isub, 1) := dc9_100 (by decide +kernel)
theorem d_Ma_run_271 : decode y_Ma_run.2.1 271 = .ok (.aload_n 0, 1) := dc9_42 (by decide +kernel)
theorem d_Ma_run_272 : decode y_Ma_run.2.1 272 = .ok (.getfield 52, 3) := dc9_180 (by decide +kernel)
theorem d_Ma_run_275 : decode y_Ma_run.2.1 275 = .ok (.goto 9, 3) := dc9_167 (by decide +kernel)
theorem d_Ma_run_284 : decode y_Ma_run.2.1 284 = .ok (.putfield 52, 3) := dc9_181 (by decide +kernel)
theorem d_Ma_run_287 : decode y_Ma_run.2.1 287 = .ok (.goto 71, 3) := dc9_167 (by decide +kernel)
theorem d_Ma_run_290 : decode y_Ma_run.2.1 290 = .ok (.aload_n 0, 1) := dc9_42 (by decide +kernel)
theorem d_Ma_run_291 : decode y_Ma_run.2.1 291 = .ok (.dup, 1) := dc9_89 (by decide +kernel)
theorem d_Ma_run_292 : decode y_Ma_run.2.1 292 = .ok (.getfield 52, 3) := dc9_180 (by decide +kernel)
theorem d_Ma_run_295 : decode y_Ma_run.2.1 295 = .ok (.iconst 1, 1) := dc9_4 (by decide +kernel)
theorem d_Ma_run_296 : decode y_Ma_run.2.1 296 = .ok (.isub, 1) := dc9_100 (by decide +kernel)
theorem d_Ma_run_297 : decode y_Ma_run.2.1 297 = .ok (.putfield 52, 3) := dc9_181 (by decide +kernel)
theorem d_Ma_run_300 : decode y_Ma_run.2.1 300 = .ok (.aload_n 0, 1) := dc9_42 (by decide +kernel)
theorem d_Ma_run_301 : decode y_Ma_run.2.1 301 = .ok (.getfield 18, 3) := dc9_180 (by decide +kernel)
theorem d_Ma_run_304 : decode y_Ma_run.2.1 304 = .ok (.aload_n 0, 1) := dc9_42 (by decide +kernel)
theorem d_Ma_run_305 : decode y_Ma_run.2.1 305 = .ok (.getfield 52, 3) := dc9_180 (by decide +kernel)
theorem d_Ma_run_308 : decode y_Ma_run.2.1 308 = .ok (.iaload, 1) := dc9_46 (by decide +kernel)
theorem d_Ma_run_309 : decode y_Ma_run.2.1 309 = .ok (.ifCond .ne 8, 3) := dc9_154 (by decide +kernel)
theorem d_Ma_run_312 : decode y_Ma_run.2.1 312 = .ok (.iload 5, 2) := dc9_21 (by decide +kernel)
theorem d_Ma_run_314 : decode y_Ma_run.2.1 314 = .ok (.goto 4, 3) := dc9_167 (by decide +kernel)
theorem d_Ma_run_317 : decode y_Ma_run.2.1 317 = .ok (.iload_n 2, 1) := dc9_28 (by decide +kernel)
theorem d_Ma_run_318 : decode y_Ma_run.2.1 318 = .ok (.istore_n 2, 1) := dc9_61 (by decide +kernel)
theorem d_Ma_run_319 : decode y_Ma_run.2.1 319 = .ok (.goto 39, 3) := dc9_167 (by decide +kernel)
theorem d_Ma_run_322 : decode y_Ma_run.2.1 322 = .ok (.iload 5, 2) := dc9_21 (by decide +kernel)
theorem d_Ma_run_324 : decode y_Ma_run.2.1 324 = .ok (.istore_n 2, 1) := dc9_61 (by decide +kernel)
theorem d_Ma_run_325 : decode y_Ma_run.2.1 325 = .ok (.goto 33, 3) := dc9_167 (by decide +kernel)
theorem d_Ma_run_345 : decode y_Ma_run.2.1 345 = .ok (.aload_n 0, 1) := dc9_42 (by decide +kernel)
theorem d_Ma_run_346 : decode y_Ma_run.2.1 346 = .ok (.iload 4, 2) := dc9_21 (by decide +kernel)
theorem d_Ma_run_348 : decode y_Ma_run.2.1 348 = .ok (.iload 5, 2) := dc9_21 (by decide +kernel)
theorem d_Ma_run_350 : decode y_Ma_run.2.1 350 = .ok (.invokevirtual 88, 3) := dc9_182 (by decide +kernel)
theorem d_Ma_run_353 : decode y_Ma_run.2.1 353 = .ok (.ifCond .ne 5, 3) := dc9_154 (by decide +kernel)
theorem d_Ma_run_356 : decode y_Ma_run.2.1 356 = .ok (.iconst 0, 1) := dc9_3 (by decide +kernel)
theorem d_Ma_run_357 : decode y_Ma_run.2.1 357 = .ok (.ireturn, 1) := dc9_172 (by decide +kernel)
def h_Ma_run_14 (G : mG) (d : Nat) (a0 : Nat) (l2 : Int) (l3 : Int) (M : mM) (Q : Int → mM → Prop) : Prop := mWm G y_Ma_run (d + 1) 14 [vr a0, vd, vi l2, vi l3, vd, vd, vd] [] M (fun r9 M9 => ∃ x9, r9 = some (vi x9) ∧ Q x9 M9)
theorem k_Ma_run {G : mG} {d : Nat} {a0 : Nat} {l1 : Int} {M : mM} {Q : Int → mM → Prop} (hO : mOk M) (hi_l1 : i32 l1)
    (h : mK M a0 = 5 ∧ ∀ M2, M2 = mUI M a0 8 0 → ∀ M4, M4 = mUI M2 a0 15 0 → h_Ma_run_14 G d a0 l1 0 M4 Q) :
    Ci G y_Ma_run (d + 1) [vr a0, vi l1] M Q := by
  refine wm_open (y := y_Ma_run) rfl (Nat.le_of_ble_eq_true rfl) (L := [vr a0, vi l1, vd, vd, vd, vd, vd]) rfl ?_
  obtain ⟨h1, h⟩ := h
  obtain ⟨M2, e3⟩ : ∃ M2, M2 = mUI M a0 8 0 := ⟨_, rfl⟩
  replace h := h M2 e3
  obtain ⟨M4, e5⟩ : ∃ M4, M4 = mUI M2 a0 15 0 := ⟨_, rfl⟩
  replace h := h M4 e5
  refine wm_iload_n d_Ma_run_0 rfl rfl ?_
  refine wm_istore_n d_Ma_run_1 rfl (by decide) (L' := [vr a0, vi l1, vi l1, vd, vd, vd, vd]) rfl ?_
  refine wm_aload_n d_Ma_run_2 rfl rfl ?_
  refine wm_iconst d_Ma_run_3 ?_
  have hOM2 : mOk M2 := by rw [e3]; exact mOk_UI hO ⟨by decide, by decide⟩
  refine pf_Ma_52 rfl d_Ma_run_4 h1 ⟨by decide, by decide⟩ e3 ?_
  refine wm_aload_n d_Ma_run_7 rfl rfl ?_
  refine wm_iconst d_Ma_run_8 ?_
  have hOM4 : mOk M4 := by rw [e5]; exact mOk_UI hOM2 ⟨by decide, by decide⟩
  refine pf_Ma_55 rfl d_Ma_run_9 (by rw [e3]; exact h1) ⟨by decide, by decide⟩ e5 ?_
  refine wm_iconst d_Ma_run_12 ?_
  refine wm_istore_n d_Ma_run_13 rfl (by decide) (L' := [vr a0, vi l1, vi l1, vi 0, vd, vd, vd]) rfl ?_
  refine wm_less (L' := [vr a0, vd, vi l1, vi 0, vd, vd, vd]) ⟨Or.inr rfl, Or.inl rfl, Or.inr rfl, Or.inr rfl, Or.inl rfl, Or.inl rfl, Or.inl rfl, trivial⟩ ?_
  exact h
theorem k_Ma_run_14 {G : mG} {d : Nat} {a0 : Nat} {l2 : Int} {l3 : Int} {M : mM} {Q : Int → mM → Prop} (hO : mOk M) (hi_l2 : i32 l2) (hi_l3 : i32 l3)
    (h : (¬ (1000000 ≤ l3) → (¬ (l2 < 0) → (mK M a0 = 5 ∧ mK M (mR M a0 0) = 6))) ∧ (((1000000 ≤ l3) ∨ ((l2 < 0) ∨ (mI M (mR M a0 0) 2 ≤ l2))) → (mK M a0 = 5 ∧ Ci G y_Ma_stop d [vr a0, vi 6, vi 0] M (fun x19 M18 => i32 x19 ∧ mOk M18 ∧ ((x19 = 0 ∨ x19 = 1) ∧ Q x19 M18)))) ∧ (¬ ((1000000 ≤ l3) ∨ ((l2 < 0) ∨ (mI M (mR M a0 0) 2 ≤ l2))) → (mK M a0 = 5 ∧ mK M (mR M a0 0) = 6 ∧ mK M (mR M (mR M a0 0) 0) = 30 ∧ ((0 : Int) ≤ l2 ∧ l2 < (mN M (mR M (mR M a0 0) 0) : Int)) ∧ mK M (mR M (mR M a0 0) 1) = 30 ∧ ((0 : Int) ≤ l2 ∧ l2 < (mN M (mR M (mR M a0 0) 1) : Int)) ∧ ((mI M (mR M (mR M a0 0) 0) (Int.toNat l2) = 0) → (((mI M a0 15 = 0) → (Q 1 M)) ∧ (¬ (mI M a0 15 = 0) → (Ci G y_Ma_comeBack d [vr a0] M (fun x33 M32 => i32 x33 ∧ mOk M32 ∧ (h_Ma_run_14 G d a0 x33 (l3 + 1) M32 Q)))))) ∧ (¬ (mI M (mR M (mR M a0 0) 0) (Int.toNat l2) = 0) → (((mI M (mR M (mR M a0 0) 0) (Int.toNat l2) = 3) → (Cv G y_Ma_push d [vr a0, vi (mI M (mR M (mR M a0 0) 1) (Int.toNat l2)), vi 1] M (fun M36 => mOk M36 ∧ (h_Ma_run_14 G d a0 (l2 + 1) (l3 + 1) M36 Q)))) ∧ (¬ (mI M (mR M (mR M a0 0) 0) (Int.toNat l2) = 3) → (((mI M (mR M (mR M a0 0) 0) (Int.toNat l2) = 4) → (mK M (mR M (mR M a0 0) 8) = 30 ∧ ((0 : Int) ≤ mI M (mR M (mR M a0 0) 1) (Int.toNat l2) ∧ mI M (mR M (mR M a0 0) 1) (Int.toNat l2) < (mN M (mR M (mR M a0 0) 8) : Int)) ∧ mK M (mR M (mR M a0 0) 9) = 30 ∧ ((0 : Int) ≤ mI M (mR M (mR M a0 0) 1) (Int.toNat l2) ∧ mI M (mR M (mR M a0 0) 1) (Int.toNat l2) < (mN M (mR M (mR M a0 0) 9) : Int)) ∧ Cv G y_Ma_push d [vr a0, vi (mI M (mR M (mR M a0 0) 8) (Int.toNat (mI M (mR M (mR M a0 0) 1) (Int.toNat l2)))), vi (mI M (mR M (mR M a0 0) 9) (Int.toNat (mI M (mR M (mR M a0 0) 1) (Int.toNat l2))))] M (fun M44 => mOk M44 ∧ (h_Ma_run_14 G d a0 (l2 + 1) (l3 + 1) M44 Q)))) ∧ (¬ (mI M (mR M (mR M a0 0) 0) (Int.toNat l2) = 4) → (((mI M (mR M (mR M a0 0) 0) (Int.toNat l2) = 5) → (mK M (mR M a0 3) = 30 ∧ ((0 : Int) ≤ (mI M a0 4) + (mI M (mR M (mR M a0 0) 1) (Int.toNat l2)) ∧ (mI M a0 4) + (mI M (mR M (mR M a0 0) 1) (Int.toNat l2)) < (mN M (mR M a0 3) : Int)) ∧ Cv G y_Ma_push d [vr a0, vi (mI M (mR M a0 3) (Int.toNat ((mI M a0 4) + (mI M (mR M (mR M a0 0) 1) (Int.toNat l2))))), vi 1] M (fun M50 => mOk M50 ∧ (h_Ma_run_14 G d a0 (l2 + 1) (l3 + 1) M50 Q)))) ∧ (¬ (mI M (mR M (mR M a0 0) 0) (Int.toNat l2) = 5) → (((mI M (mR M (mR M a0 0) 0) (Int.toNat l2) = 7) → (Ci G y_Ma_meet d [vr a0, vi (mI M (mR M (mR M a0 0) 1) (Int.toNat l2)), vi (l2 + 1)] M (fun x55 M54 => i32 x55 ∧ mOk M54 ∧ (h_Ma_run_14 G d a0 x55 (l3 + 1) M54 Q)))) ∧ (¬ (mI M (mR M (mR M a0 0) 0) (Int.toNat l2) = 7) → (((mI M (mR M (mR M a0 0) 0) (Int.toNat l2) = 30 ∨ mI M (mR M (mR M a0 0) 0) (Int.toNat l2) = 31) → (mK M (mR M a0 6) = 30 ∧ ((0 : Int) ≤ (mI M a0 8) - 1 ∧ (mI M a0 8) - 1 < (mN M (mR M a0 6) : Int)) ∧ ∀ v61 : Int, v61 = (if (mI M (mR M a0 6) (Int.toNat ((mI M a0 8) - 1)) = 0) then 1 else 0) → ∀ v67 : Int, v67 = (if (mI M (mR M (mR M a0 0) 0) (Int.toNat l2) = 30) then 1 else 0) → ∀ v73 : Int, v73 = (if (v61 = v67) then 1 else 0) → ∀ v79 : Int, v79 = (if (v73 = 0) then l2 + 1 else mI M (mR M (mR M a0 0) 1) (Int.toNat l2)) → ∀ v83 : Int, v83 = (if (v73 = 0) then (mI M a0 8) - 1 else mI M a0 8) → i32 v83 ∧ ∀ M87, M87 = mUI M a0 8 v83 → h_Ma_run_14 G d a0 v79 (l3 + 1) M87 Q)) ∧ (¬ (mI M (mR M (mR M a0 0) 0) (Int.toNat l2) = 30 ∨ mI M (mR M (mR M a0 0) 0) (Int.toNat l2) = 31) → (((mI M (mR M (mR M a0 0) 0) (Int.toNat l2) = 33) → (i32 ((mI M a0 8) - 1) ∧ ∀ M96, M96 = mUI M a0 8 ((mI M a0 8) - 1) → mK M96 (mR M96 a0 6) = 30 ∧ ((0 : Int) ≤ mI M96 a0 8 ∧ mI M96 a0 8 < (mN M96 (mR M96 a0 6) : Int)) ∧ ∀ v101 : Int, v101 = (if (mI M96 (mR M96 a0 6) (Int.toNat (mI M96 a0 8)) = 0) then mI M (mR M (mR M a0 0) 1) (Int.toNat l2) else l2 + 1) → h_Ma_run_14 G d a0 v101 (l3 + 1) M96 Q)) ∧ (¬ (mI M (mR M (mR M a0 0) 0) (Int.toNat l2) = 33) → (((mI M (mR M (mR M a0 0) 0) (Int.toNat l2) = 42) → (h_Ma_run_14 G d a0 (mI M (mR M (mR M a0 0) 1) (Int.toNat l2)) (l3 + 1) M Q)) ∧ (¬ (mI M (mR M (mR M a0 0) 0) (Int.toNat l2) = 42) → (Ci G y_Ma_compute d [vr a0, vi (mI M (mR M (mR M a0 0) 0) (Int.toNat l2)), vi (mI M (mR M (mR M a0 0) 1) (Int.toNat l2))] M (fun x107 M106 => i32 x107 ∧ mOk M106 ∧ (((x107 = 0) → (Q 0 M106)) ∧ (¬ (x107 = 0) → (h_Ma_run_14 G d a0 (l2 + 1) (l3 + 1) M106 Q))))))))))))))))))))))) :
    h_Ma_run_14 G d a0 l2 l3 M Q := by
  unfold h_Ma_run_14
  refine wm_iload_n d_Ma_run_14 rfl rfl ?_
  refine wm_ldc (x := 1000000) d_Ma_run_15 k5_52 (by decide) ?_
  obtain ⟨s15, h⟩ := h
  have hE0 : ((1000000 ≤ l3) ∨ ((l2 < 0) ∨ (mI M (mR M a0 0) 2 ≤ l2))) → mWm G y_Ma_run (d + 1) 364 [vr a0, vd, vi l2, vi l3, vd, vd, vd] [] M (fun r9 M9 => ∃ x9, r9 = some (vi x9) ∧ Q x9 M9) := by
    intro q16
    have h := h.1 q16
    obtain ⟨h17, h⟩ := h
    refine wm_aload_n d_Ma_run_364 rfl rfl ?_
    refine wm_bipush d_Ma_run_365 (by decide) ?_
    refine wm_iconst d_Ma_run_367 ?_
    refine cf_Ma_92 rfl d_Ma_run_368 h17 (Nat.le_of_ble_eq_true rfl) (Ci.mono h (fun x19 M18 h => ?_))
    obtain ⟨h20, hOM18, h⟩ := h
    obtain ⟨h21, h⟩ := h
    refine wm_ireturn d_Ma_run_371 rfl (m_nb h21) ?_
    exact ⟨_, rfl, h⟩
  have hE1 : ¬ ((1000000 ≤ l3) ∨ ((l2 < 0) ∨ (mI M (mR M a0 0) 2 ≤ l2))) → mWm G y_Ma_run (d + 1) 35 [vr a0, vd, vi l2, vi l3, vd, vd, vd] [] M (fun r9 M9 => ∃ x9, r9 = some (vi x9) ∧ Q x9 M9) := by
    intro q22
    have h := h.2 q22
    obtain ⟨h23, h⟩ := h
    obtain ⟨h24, h⟩ := h
    obtain ⟨h25, h⟩ := h
    obtain ⟨h26, h⟩ := h
    obtain ⟨h27, h⟩ := h
    obtain ⟨h28, h⟩ := h
    refine wm_aload_n d_Ma_run_35 rfl rfl ?_
    refine gf_Ma_59 rfl d_Ma_run_36 h23 ?_
    refine gf_Ma_68 rfl d_Ma_run_39 h24 ?_
    refine wm_iload_n d_Ma_run_42 rfl rfl ?_
    refine wm_iald d_Ma_run_43 h25 h26 ?_
    refine wm_istore d_Ma_run_44 (by decide) (L' := [vr a0, vd, vi l2, vi l3, vi (mI M (mR M (mR M a0 0) 0) (Int.toNat l2)), vd, vd]) rfl ?_
    refine wm_aload_n d_Ma_run_46 rfl rfl ?_
    refine gf_Ma_59 rfl d_Ma_run_47 h23 ?_
    refine gf_Ma_71 rfl d_Ma_run_50 h24 ?_
    refine wm_iload_n d_Ma_run_53 rfl rfl ?_
    refine wm_iald d_Ma_run_54 h27 h28 ?_
    refine wm_istore d_Ma_run_55 (by decide) (L' := [vr a0, vd, vi l2, vi l3, vi (mI M (mR M (mR M a0 0) 0) (Int.toNat l2)), vi (mI M (mR M (mR M a0 0) 1) (Int.toNat l2)), vd]) rfl ?_
    refine wm_iinc d_Ma_run_57 (by decide) rfl (L' := [vr a0, vd, vi (l2 + 1), vi l3, vi (mI M (mR M (mR M a0 0) 0) (Int.toNat l2)), vi (mI M (mR M (mR M a0 0) 1) (Int.toNat l2)), vd]) rfl ?_
    refine wm_iload d_Ma_run_60 rfl ?_
    by_cases c29 : mI M (mR M (mR M a0 0) 0) (Int.toNat l2) = 0
    · replace h := h.1 c29
      refine wm_lookup (tgt := 328) (off := 266) d_Ma_run_62 z_Ma_run_62_s (hO _ _).1 (by rw [c29]; rfl) rfl ?_
      refine wm_aload_n d_Ma_run_328 rfl rfl ?_
      refine gf_Ma_55 rfl d_Ma_run_329 h23 ?_
      refine wm_if_ne (tgt := 337) d_Ma_run_332 rfl (hO _ _).1 (fun c31 => ?_) (fun c31 => ?_)
      · replace h := h.2 c31
        refine wm_aload_n d_Ma_run_337 rfl rfl ?_
        refine cf_Ma_84 rfl d_Ma_run_338 h23 (Nat.le_of_ble_eq_true rfl) (Ci.mono h (fun x33 M32 h => ?_))
        obtain ⟨h34, hOM32, h⟩ := h
        refine wm_istore_n d_Ma_run_341 rfl (by decide) (L' := [vr a0, vd, vi x33, vi l3, vi (mI M (mR M (mR M a0 0) 0) (Int.toNat l2)), vi (mI M (mR M (mR M a0 0) 1) (Int.toNat l2)), vd]) rfl ?_
        refine wm_goto (tgt := 358) d_Ma_run_342 rfl ?_
        refine wm_iinc d_Ma_run_358 (by decide) rfl (L' := [vr a0, vd, vi x33, vi (l3 + 1), vi (mI M (mR M (mR M a0 0) 0) (Int.toNat l2)), vi (mI M (mR M (mR M a0 0) 1) (Int.toNat l2)), vd]) rfl ?_
        refine wm_goto (tgt := 14) d_Ma_run_361 rfl ?_
        refine wm_less (L' := [vr a0, vd, vi x33, vi (l3 + 1), vd, vd, vd]) ⟨Or.inr rfl, Or.inl rfl, Or.inr rfl, Or.inr rfl, Or.inl rfl, Or.inl rfl, Or.inl rfl, trivial⟩ ?_
        exact h
      · replace c31 := Classical.not_not.mp c31
        replace h := h.1 c31
        refine wm_iconst d_Ma_run_335 ?_
        refine wm_ireturn d_Ma_run_336 rfl (m_nb (by decide)) ?_
        exact ⟨_, rfl, h⟩
    · replace h := h.2 c29
      by_cases c35 : mI M (mR M (mR M a0 0) 0) (Int.toNat l2) = 3
      · replace h := h.1 c35
        refine wm_lookup (tgt := 144) (off := 82) d_Ma_run_62 z_Ma_run_62_s (hO _ _).1 (by rw [c35]; rfl) rfl ?_
        refine wm_aload_n d_Ma_run_144 rfl rfl ?_
        refine wm_iload d_Ma_run_145 rfl ?_
        refine wm_iconst d_Ma_run_147 ?_
        refine cf_Ma_74 rfl d_Ma_run_148 h23 (Nat.le_of_ble_eq_true rfl) (Cv.mono h (fun M36 h => ?_))
        obtain ⟨hOM36, h⟩ := h
        refine wm_goto (tgt := 358) d_Ma_run_151 rfl ?_
        refine wm_iinc d_Ma_run_358 (by decide) rfl (L' := [vr a0, vd, vi (l2 + 1), vi (l3 + 1), vi (mI M (mR M (mR M a0 0) 0) (Int.toNat l2)), vi (mI M (mR M (mR M a0 0) 1) (Int.toNat l2)), vd]) rfl ?_
        refine wm_goto (tgt := 14) d_Ma_run_361 rfl ?_
        refine wm_less (L' := [vr a0, vd, vi (l2 + 1), vi (l3 + 1), vd, vd, vd]) ⟨Or.inr rfl, Or.inl rfl, Or.inr rfl, Or.inr rfl, Or.inl rfl, Or.inl rfl, Or.inl rfl, trivial⟩ ?_
        exact h
      · replace h := h.2 c35
        by_cases c39 : mI M (mR M (mR M a0 0) 0) (Int.toNat l2) = 4
        · replace h := h.1 c39
          refine wm_lookup (tgt := 154) (off := 92) d_Ma_run_62 z_Ma_run_62_s (hO _ _).1 (by rw [c39]; rfl) rfl ?_
          obtain ⟨h40, h⟩ := h
          obtain ⟨h41, h⟩ := h
          obtain ⟨h42, h⟩ := h
          obtain ⟨h43, h⟩ := h
          refine wm_aload_n d_Ma_run_154 rfl rfl ?_
          refine wm_aload_n d_Ma_run_155 rfl rfl ?_
          refine gf_Ma_59 rfl d_Ma_run_156 h23 ?_
          refine gf_Ma_78 rfl d_Ma_run_159 h24 ?_
          refine wm_iload d_Ma_run_162 rfl ?_
          refine wm_iald d_Ma_run_164 h40 h41 ?_
          refine wm_aload_n d_Ma_run_165 rfl rfl ?_
          refine gf_Ma_59 rfl d_Ma_run_166 h23 ?_
          refine gf_Ma_79 rfl d_Ma_run_169 h24 ?_
          refine wm_iload d_Ma_run_172 rfl ?_
          refine wm_iald d_Ma_run_174 h42 h43 ?_
          refine cf_Ma_74 rfl d_Ma_run_175 h23 (Nat.le_of_ble_eq_true rfl) (Cv.mono h (fun M44 h => ?_))
          obtain ⟨hOM44, h⟩ := h
          refine wm_goto (tgt := 358) d_Ma_run_178 rfl ?_
          refine wm_iinc d_Ma_run_358 (by decide) rfl (L' := [vr a0, vd, vi (l2 + 1), vi (l3 + 1), vi (mI M (mR M (mR M a0 0) 0) (Int.toNat l2)), vi (mI M (mR M (mR M a0 0) 1) (Int.toNat l2)), vd]) rfl ?_
          refine wm_goto (tgt := 14) d_Ma_run_361 rfl ?_
          refine wm_less (L' := [vr a0, vd, vi (l2 + 1), vi (l3 + 1), vd, vd, vd]) ⟨Or.inr rfl, Or.inl rfl, Or.inr rfl, Or.inr rfl, Or.inl rfl, Or.inl rfl, Or.inl rfl, trivial⟩ ?_
          exact h
        · replace h := h.2 c39
          by_cases c47 : mI M (mR M (mR M a0 0) 0) (Int.toNat l2) = 5
          · replace h := h.1 c47
            refine wm_lookup (tgt := 181) (off := 119) d_Ma_run_62 z_Ma_run_62_s (hO _ _).1 (by rw [c47]; rfl) rfl ?_
            obtain ⟨h48, h⟩ := h
            obtain ⟨h49, h⟩ := h
            refine wm_aload_n d_Ma_run_181 rfl rfl ?_
            refine wm_aload_n d_Ma_run_182 rfl rfl ?_
            refine gf_Ma_9 rfl d_Ma_run_183 h23 ?_
            refine wm_aload_n d_Ma_run_186 rfl rfl ?_
            refine gf_Ma_43 rfl d_Ma_run_187 h23 ?_
            refine wm_iload d_Ma_run_190 rfl ?_
            refine wm_iadd d_Ma_run_192 ?_
            refine wm_iald d_Ma_run_193 h48 h49 ?_
            refine wm_iconst d_Ma_run_194 ?_
            refine cf_Ma_74 rfl d_Ma_run_195 h23 (Nat.le_of_ble_eq_true rfl) (Cv.mono h (fun M50 h => ?_))
            obtain ⟨hOM50, h⟩ := h
            refine wm_goto (tgt := 358) d_Ma_run_198 rfl ?_
            refine wm_iinc d_Ma_run_358 (by decide) rfl (L' := [vr a0, vd, vi (l2 + 1), vi (l3 + 1), vi (mI M (mR M (mR M a0 0) 0) (Int.toNat l2)), vi (mI M (mR M (mR M a0 0) 1) (Int.toNat l2)), vd]) rfl ?_
            refine wm_goto (tgt := 14) d_Ma_run_361 rfl ?_
            refine wm_less (L' := [vr a0, vd, vi (l2 + 1), vi (l3 + 1), vd, vd, vd]) ⟨Or.inr rfl, Or.inl rfl, Or.inr rfl, Or.inr rfl, Or.inl rfl, Or.inl rfl, Or.inl rfl, trivial⟩ ?_
            exact h
          · replace h := h.2 c47
            by_cases c53 : mI M (mR M (mR M a0 0) 0) (Int.toNat l2) = 7
            · replace h := h.1 c53
              refine wm_lookup (tgt := 201) (off := 139) d_Ma_run_62 z_Ma_run_62_s (hO _ _).1 (by rw [c53]; rfl) rfl ?_
              refine wm_aload_n d_Ma_run_201 rfl rfl ?_
              refine wm_iload d_Ma_run_202 rfl ?_
              refine wm_iload_n d_Ma_run_204 rfl rfl ?_
              refine cf_Ma_80 rfl d_Ma_run_205 h23 (Nat.le_of_ble_eq_true rfl) (Ci.mono h (fun x55 M54 h => ?_))
              obtain ⟨h56, hOM54, h⟩ := h
              refine wm_istore_n d_Ma_run_208 rfl (by decide) (L' := [vr a0, vd, vi x55, vi l3, vi (mI M (mR M (mR M a0 0) 0) (Int.toNat l2)), vi (mI M (mR M (mR M a0 0) 1) (Int.toNat l2)), vd]) rfl ?_
              refine wm_goto (tgt := 358) d_Ma_run_209 rfl ?_
              refine wm_iinc d_Ma_run_358 (by decide) rfl (L' := [vr a0, vd, vi x55, vi (l3 + 1), vi (mI M (mR M (mR M a0 0) 0) (Int.toNat l2)), vi (mI M (mR M (mR M a0 0) 1) (Int.toNat l2)), vd]) rfl ?_
              refine wm_goto (tgt := 14) d_Ma_run_361 rfl ?_
              refine wm_less (L' := [vr a0, vd, vi x55, vi (l3 + 1), vd, vd, vd]) ⟨Or.inr rfl, Or.inl rfl, Or.inr rfl, Or.inr rfl, Or.inl rfl, Or.inl rfl, Or.inl rfl, trivial⟩ ?_
              exact h
            · replace h := h.2 c53
              by_cases c57 : mI M (mR M (mR M a0 0) 0) (Int.toNat l2) = 30 ∨ mI M (mR M (mR M a0 0) 0) (Int.toNat l2) = 31
              · replace h := h.1 c57
                refine wm_lookup (tgt := 212) (off := 150) d_Ma_run_62 z_Ma_run_62_s (hO _ _).1 (by rcases c57 with q9 | q9 <;> (rw [q9]; rfl)) rfl ?_
                obtain ⟨h58, h⟩ := h
                obtain ⟨h59, h⟩ := h
                refine wm_aload_n d_Ma_run_212 rfl rfl ?_
                refine gf_Ma_18 rfl d_Ma_run_213 h23 ?_
                refine wm_aload_n d_Ma_run_216 rfl rfl ?_
                refine gf_Ma_52 rfl d_Ma_run_217 h23 ?_
                refine wm_iconst d_Ma_run_220 ?_
                refine wm_isub d_Ma_run_221 ?_
                refine wm_iald d_Ma_run_222 h58 h59 ?_
                have hJ : ∀ v61 : Int, v61 = (if (mI M (mR M a0 6) (Int.toNat ((mI M a0 8) - 1)) = 0) then 1 else 0) → mWm G y_Ma_run (d + 1) 231 [vr a0, vd, vi (l2 + 1), vi l3, vi (mI M (mR M (mR M a0 0) 0) (Int.toNat l2)), vi (mI M (mR M (mR M a0 0) 1) (Int.toNat l2)), vd] [vi v61] M (fun r9 M9 => ∃ x9, r9 = some (vi x9) ∧ Q x9 M9) := by
                  intro v61 e63
                  have h := h v61 e63
                  have h64 : i32 v61 := by rw [e63]; (repeat' split) <;> first | exact ⟨by decide, by decide⟩ | exact ⟨by decide, by decide⟩
                  have h65 : (v61 = 0 ∨ v61 = 1) := by rw [e63]; (repeat' split) <;> decide
                  refine wm_iload d_Ma_run_231 rfl ?_
                  refine wm_bipush d_Ma_run_233 (by decide) ?_
                  have hJ : ∀ v67 : Int, v67 = (if (mI M (mR M (mR M a0 0) 0) (Int.toNat l2) = 30) then 1 else 0) → mWm G y_Ma_run (d + 1) 243 [vr a0, vd, vi (l2 + 1), vi l3, vd, vi (mI M (mR M (mR M a0 0) 1) (Int.toNat l2)), vd] [vi v67, vi v61] M (fun r9 M9 => ∃ x9, r9 = some (vi x9) ∧ Q x9 M9) := by
                    intro v67 e69
                    have h := h v67 e69
                    have h70 : i32 v67 := by rw [e69]; (repeat' split) <;> first | exact ⟨by decide, by decide⟩ | exact ⟨by decide, by decide⟩
                    have h71 : (v67 = 0 ∨ v67 = 1) := by rw [e69]; (repeat' split) <;> decide
                    have hJ : ∀ v73 : Int, v73 = (if (v61 = v67) then 1 else 0) → mWm G y_Ma_run (d + 1) 251 [vr a0, vd, vi (l2 + 1), vi l3, vd, vi (mI M (mR M (mR M a0 0) 1) (Int.toNat l2)), vd] [vi v73] M (fun r9 M9 => ∃ x9, r9 = some (vi x9) ∧ Q x9 M9) := by
                      intro v73 e75
                      have h := h v73 e75
                      have h76 : i32 v73 := by rw [e75]; (repeat' split) <;> first | exact ⟨by decide, by decide⟩ | exact ⟨by decide, by decide⟩
                      have h77 : (v73 = 0 ∨ v73 = 1) := by rw [e75]; (repeat' split) <;> decide
                      refine wm_istore d_Ma_run_251 (by decide) (L' := [vr a0, vd, vi (l2 + 1), vi l3, vd, vi (mI M (mR M (mR M a0 0) 1) (Int.toNat l2)), vi v73]) rfl ?_
                      refine wm_iload d_Ma_run_253 rfl ?_
                      have hJ : ∀ v79 : Int, v79 = (if (v73 = 0) then l2 + 1 else mI M (mR M (mR M a0 0) 1) (Int.toNat l2)) → mWm G y_Ma_run (d + 1) 264 [vr a0, vd, vd, vi l3, vd, vd, vi v73] [vi v79] M (fun r9 M9 => ∃ x9, r9 = some (vi x9) ∧ Q x9 M9) := by
                        intro v79 e81
                        have h := h v79 e81
                        refine wm_istore_n d_Ma_run_264 rfl (by decide) (L' := [vr a0, vd, vi v79, vi l3, vd, vd, vi v73]) rfl ?_
                        refine wm_aload_n d_Ma_run_265 rfl rfl ?_
                        refine wm_iload d_Ma_run_266 rfl ?_
                        have hJ : ∀ v83 : Int, v83 = (if (v73 = 0) then (mI M a0 8) - 1 else mI M a0 8) → mWm G y_Ma_run (d + 1) 284 [vr a0, vd, vi v79, vi l3, vd, vd, vd] [vi v83, vr a0] M (fun r9 M9 => ∃ x9, r9 = some (vi x9) ∧ Q x9 M9) := by
                          intro v83 e85
                          have h := h v83 e85
                          obtain ⟨h86, h⟩ := h
                          obtain ⟨M87, e88⟩ : ∃ M87, M87 = mUI M a0 8 v83 := ⟨_, rfl⟩
                          replace h := h M87 e88
                          have hOM87 : mOk M87 := by rw [e88]; exact mOk_UI hO h86
                          refine pf_Ma_52 rfl d_Ma_run_284 h23 h86 e88 ?_
                          refine wm_goto (tgt := 358) d_Ma_run_287 rfl ?_
                          refine wm_iinc d_Ma_run_358 (by decide) rfl (L' := [vr a0, vd, vi v79, vi (l3 + 1), vd, vd, vd]) rfl ?_
                          refine wm_goto (tgt := 14) d_Ma_run_361 rfl ?_
                          exact h
                        clear h
                        refine wm_if_eq (tgt := 278) d_Ma_run_268 rfl h76 (fun c82 => ?_) (fun c82 => ?_)
                        · refine wm_aload_n d_Ma_run_278 rfl rfl ?_
                          refine gf_Ma_52 rfl d_Ma_run_279 h23 ?_
                          refine wm_iconst d_Ma_run_282 ?_
                          refine wm_isub d_Ma_run_283 ?_
                          refine wm_less (L' := [vr a0, vd, vi v79, vi l3, vd, vd, vd]) ⟨Or.inr rfl, Or.inl rfl, Or.inr rfl, Or.inr rfl, Or.inl rfl, Or.inl rfl, Or.inl rfl, trivial⟩ ?_
                          exact hJ ((mI M a0 8) - 1) (if_pos c82).symm
                        · refine wm_aload_n d_Ma_run_271 rfl rfl ?_
                          refine gf_Ma_52 rfl d_Ma_run_272 h23 ?_
                          refine wm_goto (tgt := 284) d_Ma_run_275 rfl ?_
                          refine wm_less (L' := [vr a0, vd, vi v79, vi l3, vd, vd, vd]) ⟨Or.inr rfl, Or.inl rfl, Or.inr rfl, Or.inr rfl, Or.inl rfl, Or.inl rfl, Or.inl rfl, trivial⟩ ?_
                          exact hJ (mI M a0 8) (if_neg c82).symm
                      clear h
                      refine wm_if_eq (tgt := 263) d_Ma_run_255 rfl h76 (fun c78 => ?_) (fun c78 => ?_)
                      · refine wm_iload_n d_Ma_run_263 rfl rfl ?_
                        refine wm_less (L' := [vr a0, vd, vd, vi l3, vd, vd, vi v73]) ⟨Or.inr rfl, Or.inl rfl, Or.inl rfl, Or.inr rfl, Or.inl rfl, Or.inl rfl, Or.inr rfl, trivial⟩ ?_
                        exact hJ (l2 + 1) (if_pos c78).symm
                      · refine wm_iload d_Ma_run_258 rfl ?_
                        refine wm_goto (tgt := 264) d_Ma_run_260 rfl ?_
                        refine wm_less (L' := [vr a0, vd, vd, vi l3, vd, vd, vi v73]) ⟨Or.inr rfl, Or.inl rfl, Or.inl rfl, Or.inr rfl, Or.inl rfl, Or.inl rfl, Or.inr rfl, trivial⟩ ?_
                        exact hJ (mI M (mR M (mR M a0 0) 1) (Int.toNat l2)) (if_neg c78).symm
                    clear h
                    refine wm_icmp_ne (tgt := 250) d_Ma_run_243 rfl h64 h70 (fun c72 => ?_) (fun c72 => ?_)
                    · refine wm_iconst d_Ma_run_250 ?_
                      exact hJ 0 (if_neg c72).symm
                    · replace c72 := Classical.not_not.mp c72
                      refine wm_iconst d_Ma_run_246 ?_
                      refine wm_goto (tgt := 251) d_Ma_run_247 rfl ?_
                      exact hJ 1 (if_pos c72).symm
                  clear h
                  refine wm_icmp_ne (tgt := 242) d_Ma_run_235 rfl (hO _ _).1 ⟨by decide, by decide⟩ (fun c66 => ?_) (fun c66 => ?_)
                  · refine wm_iconst d_Ma_run_242 ?_
                    refine wm_less (L' := [vr a0, vd, vi (l2 + 1), vi l3, vd, vi (mI M (mR M (mR M a0 0) 1) (Int.toNat l2)), vd]) ⟨Or.inr rfl, Or.inl rfl, Or.inr rfl, Or.inr rfl, Or.inl rfl, Or.inr rfl, Or.inl rfl, trivial⟩ ?_
                    exact hJ 0 (if_neg c66).symm
                  · replace c66 := Classical.not_not.mp c66
                    refine wm_iconst d_Ma_run_238 ?_
                    refine wm_goto (tgt := 243) d_Ma_run_239 rfl ?_
                    refine wm_less (L' := [vr a0, vd, vi (l2 + 1), vi l3, vd, vi (mI M (mR M (mR M a0 0) 1) (Int.toNat l2)), vd]) ⟨Or.inr rfl, Or.inl rfl, Or.inr rfl, Or.inr rfl, Or.inl rfl, Or.inr rfl, Or.inl rfl, trivial⟩ ?_
                    exact hJ 1 (if_pos c66).symm
                clear h
                refine wm_if_ne (tgt := 230) d_Ma_run_223 rfl (hO _ _).1 (fun c60 => ?_) (fun c60 => ?_)
                · refine wm_iconst d_Ma_run_230 ?_
                  exact hJ 0 (if_neg c60).symm
                · replace c60 := Classical.not_not.mp c60
                  refine wm_iconst d_Ma_run_226 ?_
                  refine wm_goto (tgt := 231) d_Ma_run_227 rfl ?_
                  exact hJ 1 (if_pos c60).symm
              · replace h := h.2 c57
                by_cases c94 : mI M (mR M (mR M a0 0) 0) (Int.toNat l2) = 33
                · replace h := h.1 c94
                  refine wm_lookup (tgt := 290) (off := 228) d_Ma_run_62 z_Ma_run_62_s (hO _ _).1 (by rw [c94]; rfl) rfl ?_
                  obtain ⟨h95, h⟩ := h
                  obtain ⟨M96, e97⟩ : ∃ M96, M96 = mUI M a0 8 ((mI M a0 8) - 1) := ⟨_, rfl⟩
                  replace h := h M96 e97
                  obtain ⟨h98, h⟩ := h
                  obtain ⟨h99, h⟩ := h
                  refine wm_aload_n d_Ma_run_290 rfl rfl ?_
                  refine wm_dup d_Ma_run_291 rfl ?_
                  refine gf_Ma_52 rfl d_Ma_run_292 h23 ?_
                  refine wm_iconst d_Ma_run_295 ?_
                  refine wm_isub d_Ma_run_296 ?_
                  have hOM96 : mOk M96 := by rw [e97]; exact mOk_UI hO h95
                  refine pf_Ma_52 rfl d_Ma_run_297 h23 h95 e97 ?_
                  refine wm_aload_n d_Ma_run_300 rfl rfl ?_
                  refine gf_Ma_18 rfl d_Ma_run_301 (by rw [e97]; exact h23) ?_
                  refine wm_aload_n d_Ma_run_304 rfl rfl ?_
                  refine gf_Ma_52 rfl d_Ma_run_305 (by rw [e97]; exact h23) ?_
                  refine wm_iald d_Ma_run_308 h98 h99 ?_
                  have hJ : ∀ v101 : Int, v101 = (if (mI M96 (mR M96 a0 6) (Int.toNat (mI M96 a0 8)) = 0) then mI M (mR M (mR M a0 0) 1) (Int.toNat l2) else l2 + 1) → mWm G y_Ma_run (d + 1) 318 [vr a0, vd, vd, vi l3, vd, vd, vd] [vi v101] M96 (fun r9 M9 => ∃ x9, r9 = some (vi x9) ∧ Q x9 M9) := by
                    intro v101 e103
                    have h := h v101 e103
                    refine wm_istore_n d_Ma_run_318 rfl (by decide) (L' := [vr a0, vd, vi v101, vi l3, vd, vd, vd]) rfl ?_
                    refine wm_goto (tgt := 358) d_Ma_run_319 rfl ?_
                    refine wm_iinc d_Ma_run_358 (by decide) rfl (L' := [vr a0, vd, vi v101, vi (l3 + 1), vd, vd, vd]) rfl ?_
                    refine wm_goto (tgt := 14) d_Ma_run_361 rfl ?_
                    exact h
                  clear h
                  refine wm_if_ne (tgt := 317) d_Ma_run_309 rfl (hOM96 _ _).1 (fun c100 => ?_) (fun c100 => ?_)
                  · refine wm_iload_n d_Ma_run_317 rfl rfl ?_
                    refine wm_less (L' := [vr a0, vd, vd, vi l3, vd, vd, vd]) ⟨Or.inr rfl, Or.inl rfl, Or.inl rfl, Or.inr rfl, Or.inl rfl, Or.inl rfl, Or.inl rfl, trivial⟩ ?_
                    exact hJ (l2 + 1) (if_neg c100).symm
                  · replace c100 := Classical.not_not.mp c100
                    refine wm_iload d_Ma_run_312 rfl ?_
                    refine wm_goto (tgt := 318) d_Ma_run_314 rfl ?_
                    refine wm_less (L' := [vr a0, vd, vd, vi l3, vd, vd, vd]) ⟨Or.inr rfl, Or.inl rfl, Or.inl rfl, Or.inr rfl, Or.inl rfl, Or.inl rfl, Or.inl rfl, trivial⟩ ?_
                    exact hJ (mI M (mR M (mR M a0 0) 1) (Int.toNat l2)) (if_pos c100).symm
                · replace h := h.2 c94
                  by_cases c105 : mI M (mR M (mR M a0 0) 0) (Int.toNat l2) = 42
                  · replace h := h.1 c105
                    refine wm_lookup (tgt := 322) (off := 260) d_Ma_run_62 z_Ma_run_62_s (hO _ _).1 (by rw [c105]; rfl) rfl ?_
                    refine wm_iload d_Ma_run_322 rfl ?_
                    refine wm_istore_n d_Ma_run_324 rfl (by decide) (L' := [vr a0, vd, vi (mI M (mR M (mR M a0 0) 1) (Int.toNat l2)), vi l3, vi (mI M (mR M (mR M a0 0) 0) (Int.toNat l2)), vi (mI M (mR M (mR M a0 0) 1) (Int.toNat l2)), vd]) rfl ?_
                    refine wm_goto (tgt := 358) d_Ma_run_325 rfl ?_
                    refine wm_iinc d_Ma_run_358 (by decide) rfl (L' := [vr a0, vd, vi (mI M (mR M (mR M a0 0) 1) (Int.toNat l2)), vi (l3 + 1), vi (mI M (mR M (mR M a0 0) 0) (Int.toNat l2)), vi (mI M (mR M (mR M a0 0) 1) (Int.toNat l2)), vd]) rfl ?_
                    refine wm_goto (tgt := 14) d_Ma_run_361 rfl ?_
                    refine wm_less (L' := [vr a0, vd, vi (mI M (mR M (mR M a0 0) 1) (Int.toNat l2)), vi (l3 + 1), vd, vd, vd]) ⟨Or.inr rfl, Or.inl rfl, Or.inr rfl, Or.inr rfl, Or.inl rfl, Or.inl rfl, Or.inl rfl, trivial⟩ ?_
                    exact h
                  · replace h := h.2 c105
                    refine wm_lookup (tgt := 345) (off := 283) d_Ma_run_62 z_Ma_run_62_s (hO _ _).1 (by simp [Op.lookupswitch.offset]; repeat rw [if_neg (by omega)]) rfl ?_
                    refine wm_aload_n d_Ma_run_345 rfl rfl ?_
                    refine wm_iload d_Ma_run_346 rfl ?_
                    refine wm_iload d_Ma_run_348 rfl ?_
                    refine cf_Ma_88 rfl d_Ma_run_350 h23 (Nat.le_of_ble_eq_true rfl) (Ci.mono h (fun x107 M106 h => ?_))
                    obtain ⟨h108, hOM106, h⟩ := h
                    refine wm_if_ne (tgt := 358) d_Ma_run_353 rfl h108 (fun c110 => ?_) (fun c110 => ?_)
                    · replace h := h.2 c110
                      refine wm_iinc d_Ma_run_358 (by decide) rfl (L' := [vr a0, vd, vi (l2 + 1), vi (l3 + 1), vi (mI M (mR M (mR M a0 0) 0) (Int.toNat l2)), vi (mI M (mR M (mR M a0 0) 1) (Int.toNat l2)), vd]) rfl ?_
                      refine wm_goto (tgt := 14) d_Ma_run_361 rfl ?_
                      refine wm_less (L' := [vr a0, vd, vi (l2 + 1), vi (l3 + 1), vd, vd, vd]) ⟨Or.inr rfl, Or.inl rfl, Or.inr rfl, Or.inr rfl, Or.inl rfl, Or.inl rfl, Or.inl rfl, trivial⟩ ?_
                      exact h
                    · replace c110 := Classical.not_not.mp c110
                      replace h := h.1 c110
                      refine wm_iconst d_Ma_run_356 ?_
                      refine wm_ireturn d_Ma_run_357 rfl (m_nb (by decide)) ?_
                      exact ⟨_, rfl, h⟩
  clear h
  have s111 := s15
  refine wm_icmp_ge (tgt := 364) d_Ma_run_17 rfl hi_l3 ⟨by decide, by decide⟩ (fun c14 => ?_) (fun c14 => ?_)
  · exact hE0 (Or.inl c14)
  · have s111 := s111 c14
    have s112 := s111
    refine wm_iload_n d_Ma_run_20 rfl rfl ?_
    refine wm_if_lt (tgt := 364) d_Ma_run_21 rfl hi_l2 (fun c13 => ?_) (fun c13 => ?_)
    · exact hE0 (Or.inr (Or.inl c13))
    · have s112 := s112 c13
      obtain ⟨h6, h7⟩ := s112
      refine wm_iload_n d_Ma_run_24 rfl rfl ?_
      refine wm_aload_n d_Ma_run_25 rfl rfl ?_
      refine gf_Ma_59 rfl d_Ma_run_26 h6 ?_
      refine gf_Ma_63 rfl d_Ma_run_29 h7 ?_
      refine wm_icmp_ge (tgt := 364) d_Ma_run_32 rfl hi_l2 (hO _ _).1 (fun c12 => ?_) (fun c12 => ?_)
      · exact hE0 (Or.inr (Or.inr c12))
      · exact hE1 (fun z113 => Or.elim z113 c14 (fun z114 => Or.elim z114 c13 c12))
theorem d_Ma_stop_0 : decode y_Ma_stop.2.1 0 = .ok (.aload_n 0, 1) := dc9_42 (by decide +kernel)
theorem d_Ma_stop_1 : decode y_Ma_stop.2.1 1 = .ok (.iload_n 1, 1) := dc9_27 (by decide +kernel)
theorem d_Ma_stop_2 : decode y_Ma_stop.2.1 2 = .ok (.putfield 95, 3) := dc9_181 (by decide +kernel)
theorem d_Ma_stop_5 : decode y_Ma_stop.2.1 5 = .ok (.aload_n 0, 1) := dc9_42 (by decide +kernel)
theorem d_Ma_stop_6 : decode y_Ma_stop.2.1 6 = .ok (.iload_n 2, 1) := dc9_28 (by decide +kernel)
theorem d_Ma_stop_7 : decode y_Ma_stop.2.1 7 = .ok (.putfield 98, 3) := dc9_181 (by decide +kernel)
theorem d_Ma_stop_10 : decode y_Ma_stop.2.1 10 = .ok (.iconst 0, 1) := dc9_3 (by decide +kernel)
theorem d_Ma_stop_11 : decode y_Ma_stop.2.1 11 = .ok (.ireturn, 1) := dc9_172 (by decide +kernel)
theorem k_Ma_stop {G : mG} {d : Nat} {a0 : Nat} {l1 : Int} {l2 : Int} {M : mM} {Q : Int → mM → Prop} (hO : mOk M) (hi_l1 : i32 l1) (hi_l2 : i32 l2)
    (h : mK M a0 = 5 ∧ ∀ M2, M2 = mUI M a0 1 l1 → ∀ M4, M4 = mUI M2 a0 2 l2 → Q 0 M4) :
    Ci G y_Ma_stop d [vr a0, vi l1, vi l2] M Q := by
  refine wm_open (y := y_Ma_stop) rfl (Nat.le_of_ble_eq_true rfl) (L := [vr a0, vi l1, vi l2]) rfl ?_
  obtain ⟨h1, h⟩ := h
  obtain ⟨M2, e3⟩ : ∃ M2, M2 = mUI M a0 1 l1 := ⟨_, rfl⟩
  replace h := h M2 e3
  obtain ⟨M4, e5⟩ : ∃ M4, M4 = mUI M2 a0 2 l2 := ⟨_, rfl⟩
  replace h := h M4 e5
  refine wm_aload_n d_Ma_stop_0 rfl rfl ?_
  refine wm_iload_n d_Ma_stop_1 rfl rfl ?_
  have hOM2 : mOk M2 := by rw [e3]; exact mOk_UI hO hi_l1
  refine pf_Ma_95 rfl d_Ma_stop_2 h1 hi_l1 e3 ?_
  refine wm_aload_n d_Ma_stop_5 rfl rfl ?_
  refine wm_iload_n d_Ma_stop_6 rfl rfl ?_
  have hOM4 : mOk M4 := by rw [e5]; exact mOk_UI hOM2 hi_l2
  refine pf_Ma_98 rfl d_Ma_stop_7 (by rw [e3]; exact h1) hi_l2 e5 ?_
  refine wm_iconst d_Ma_stop_10 ?_
  refine wm_ireturn d_Ma_stop_11 rfl (m_nb (by decide)) ?_
  exact ⟨_, rfl, h⟩
theorem d_Ma_push_0 : decode y_Ma_push.2.1 0 = .ok (.aload_n 0, 1) := dc9_42 (by decide +kernel)
theorem d_Ma_push_1 : decode y_Ma_push.2.1 1 = .ok (.getfield 52, 3) := dc9_180 (by decide +kernel)
theorem d_Ma_push_4 : decode y_Ma_push.2.1 4 = .ok (.aload_n 0, 1) := dc9_42 (by decide +kernel)
theorem d_Ma_push_5 : decode y_Ma_push.2.1 5 = .ok (.getfield 18, 3) := dc9_180 (by decide +kernel)
theorem d_Ma_push_8 : decode y_Ma_push.2.1 8 = .ok (.arraylength, 1) := dc9_190 (by decide +kernel)
theorem d_Ma_push_9 : decode y_Ma_push.2.1 9 = .ok (.if_icmp .ne 37, 3) := dc9_160 (by decide +kernel)
theorem d_Ma_push_12 : decode y_Ma_push.2.1 12 = .ok (.aload_n 0, 1) := dc9_42 (by decide +kernel)
theorem d_Ma_push_13 : decode y_Ma_push.2.1 13 = .ok (.aload_n 0, 1) := dc9_42 (by decide +kernel)
theorem d_Ma_push_14 : decode y_Ma_push.2.1 14 = .ok (.getfield 18, 3) := dc9_180 (by decide +kernel)
theorem d_Ma_push_17 : decode y_Ma_push.2.1 17 = .ok (.iconst 2, 1) := dc9_5 (by decide +kernel)
theorem d_Ma_push_18 : decode y_Ma_push.2.1 18 = .ok (.aload_n 0, 1) := dc9_42 (by decide +kernel)
theorem d_Ma_push_19 : decode y_Ma_push.2.1 19 = .ok (.getfield 52, 3) := dc9_180 (by decide +kernel)
theorem d_Ma_push_22 : decode y_Ma_push.2.1 22 = .ok (.imul, 1) := dc9_104 (by decide +kernel)
theorem d_Ma_push_23 : decode y_Ma_push.2.1 23 = .ok (.invokestatic 101, 3) := dc9_184 (by decide +kernel)
theorem d_Ma_push_26 : decode y_Ma_push.2.1 26 = .ok (.putfield 18, 3) := dc9_181 (by decide +kernel)
theorem d_Ma_push_29 : decode y_Ma_push.2.1 29 = .ok (.aload_n 0, 1) := dc9_42 (by decide +kernel)
theorem d_Ma_push_30 : decode y_Ma_push.2.1 30 = .ok (.aload_n 0, 1) := dc9_42 (by decide +kernel)
theorem d_Ma_push_31 : decode y_Ma_push.2.1 31 = .ok (.getfield 21, 3) := dc9_180 (by decide +kernel)
theorem d_Ma_push_34 : decode y_Ma_push.2.1 34 = .ok (.iconst 2, 1) := dc9_5 (by decide +kernel)
theorem d_Ma_push_35 : decode y_Ma_push.2.1 35 = .ok (.aload_n 0, 1) := dc9_42 (by decide +kernel)
theorem d_Ma_push_36 : decode y_Ma_push.2.1 36 = .ok (.getfield 52, 3) := dc9_180 (by decide +kernel)
theorem d_Ma_push_39 : decode y_Ma_push.2.1 39 = .ok (.imul, 1) := dc9_104 (by decide +kernel)
theorem d_Ma_push_40 : decode y_Ma_push.2.1 40 = .ok (.invokestatic 101, 3) := dc9_184 (by decide +kernel)
theorem d_Ma_push_43 : decode y_Ma_push.2.1 43 = .ok (.putfield 21, 3) := dc9_181 (by decide +kernel)
theorem d_Ma_push_46 : decode y_Ma_push.2.1 46 = .ok (.aload_n 0, 1) := dc9_42 (by decide +kernel)
theorem d_Ma_push_47 : decode y_Ma_push.2.1 47 = .ok (.getfield 18, 3) := dc9_180 (by decide +kernel)
theorem d_Ma_push_50 : decode y_Ma_push.2.1 50 = .ok (.aload_n 0, 1) := dc9_42 (by decide +kernel)
theorem d_Ma_push_51 : decode y_Ma_push.2.1 51 = .ok (.getfield 52, 3) := dc9_180 (by decide +kernel)
theorem d_Ma_push_54 : decode y_Ma_push.2.1 54 = .ok (.iload_n 1, 1) := dc9_27 (by decide +kernel)
theorem d_Ma_push_55 : decode y_Ma_push.2.1 55 = .ok (.iastore, 1) := dc9_79 (by decide +kernel)
theorem d_Ma_push_56 : decode y_Ma_push.2.1 56 = .ok (.aload_n 0, 1) := dc9_42 (by decide +kernel)
theorem d_Ma_push_57 : decode y_Ma_push.2.1 57 = .ok (.getfield 21, 3) := dc9_180 (by decide +kernel)
theorem d_Ma_push_60 : decode y_Ma_push.2.1 60 = .ok (.aload_n 0, 1) := dc9_42 (by decide +kernel)
theorem d_Ma_push_61 : decode y_Ma_push.2.1 61 = .ok (.getfield 52, 3) := dc9_180 (by decide +kernel)
theorem d_Ma_push_64 : decode y_Ma_push.2.1 64 = .ok (.iload_n 2, 1) := dc9_28 (by decide +kernel)
theorem d_Ma_push_65 : decode y_Ma_push.2.1 65 = .ok (.iastore, 1) := dc9_79 (by decide +kernel)
theorem d_Ma_push_66 : decode y_Ma_push.2.1 66 = .ok (.aload_n 0, 1) := dc9_42 (by decide +kernel)
theorem d_Ma_push_67 : decode y_Ma_push.2.1 67 = .ok (.dup, 1) := dc9_89 (by decide +kernel)
theorem d_Ma_push_68 : decode y_Ma_push.2.1 68 = .ok (.getfield 52, 3) := dc9_180 (by decide +kernel)
theorem d_Ma_push_71 : decode y_Ma_push.2.1 71 = .ok (.iconst 1, 1) := dc9_4 (by decide +kernel)
theorem d_Ma_push_72 : decode y_Ma_push.2.1 72 = .ok (.iadd, 1) := dc9_96 (by decide +kernel)
theorem d_Ma_push_73 : decode y_Ma_push.2.1 73 = .ok (.putfield 52, 3) := dc9_181 (by decide +kernel)
theorem d_Ma_push_76 : decode y_Ma_push.2.1 76 = .ok (.return_, 1) := dc9_177 (by decide +kernel)
theorem k_Ma_push {G : mG} {d : Nat} {a0 : Nat} {l1 : Int} {l2 : Int} {M : mM} {Q : mM → Prop} (hO : mOk M) (hi_l1 : i32 l1) (hi_l2 : i32 l2)
    (h : mK M a0 = 5 ∧ mK M (mR M a0 6) = 30 ∧ i32 (mN M (mR M a0 6) : Int) ∧ ((mI M a0 8 = (mN M (mR M a0 6) : Int)) → (Cr G y_JA_copyOf d [vr (mR M a0 6), vi (2 * (mI M a0 8))] M (fun x10 M9 => mOk M9 ∧ (mK M9 a0 = 5 ∧ ∀ M13, M13 = mUR M9 a0 6 x10 → Cr G y_JA_copyOf d [vr (mR M13 a0 7), vi (2 * (mI M13 a0 8))] M13 (fun x16 M15 => mOk M15 ∧ (mK M15 a0 = 5 ∧ ∀ M19, M19 = mUR M15 a0 7 x16 → mK M19 (mR M19 a0 6) = 30 ∧ ((0 : Int) ≤ mI M19 a0 8 ∧ mI M19 a0 8 < (mN M19 (mR M19 a0 6) : Int)) ∧ ∀ M23, M23 = mUI M19 (mR M19 a0 6) (Int.toNat (mI M19 a0 8)) l1 → mK M23 (mR M23 a0 7) = 30 ∧ ((0 : Int) ≤ mI M23 a0 8 ∧ mI M23 a0 8 < (mN M23 (mR M23 a0 7) : Int)) ∧ ∀ M27, M27 = mUI M23 (mR M23 a0 7) (Int.toNat (mI M23 a0 8)) l2 → i32 ((mI M27 a0 8) + 1) ∧ ∀ M30, M30 = mUI M27 a0 8 ((mI M27 a0 8) + 1) → Q M30)))))) ∧ (¬ (mI M a0 8 = (mN M (mR M a0 6) : Int)) → (((0 : Int) ≤ mI M a0 8 ∧ mI M a0 8 < (mN M (mR M a0 6) : Int)) ∧ ∀ M33, M33 = mUI M (mR M a0 6) (Int.toNat (mI M a0 8)) l1 → mK M33 (mR M33 a0 7) = 30 ∧ ((0 : Int) ≤ mI M33 a0 8 ∧ mI M33 a0 8 < (mN M33 (mR M33 a0 7) : Int)) ∧ ∀ M37, M37 = mUI M33 (mR M33 a0 7) (Int.toNat (mI M33 a0 8)) l2 → i32 ((mI M37 a0 8) + 1) ∧ ∀ M40, M40 = mUI M37 a0 8 ((mI M37 a0 8) + 1) → Q M40))) :
    Cv G y_Ma_push (d + 1) [vr a0, vi l1, vi l2] M Q := by
  refine wm_open (y := y_Ma_push) rfl (Nat.le_of_ble_eq_true rfl) (L := [vr a0, vi l1, vi l2]) rfl ?_
  obtain ⟨h1, h⟩ := h
  obtain ⟨h2, h⟩ := h
  obtain ⟨h7, h⟩ := h
  refine wm_aload_n d_Ma_push_0 rfl rfl ?_
  refine gf_Ma_52 rfl d_Ma_push_1 h1 ?_
  refine wm_aload_n d_Ma_push_4 rfl rfl ?_
  refine gf_Ma_18 rfl d_Ma_push_5 h1 ?_
  refine wm_alen 0 rfl (fun _ => rfl) d_Ma_push_8 h2 ?_
  refine wm_icmp_ne (tgt := 46) d_Ma_push_9 rfl (hO _ _).1 h7 (fun c8 => ?_) (fun c8 => ?_)
  · replace h := h.2 c8
    obtain ⟨h32, h⟩ := h
    obtain ⟨M33, e34⟩ : ∃ M33, M33 = mUI M (mR M a0 6) (Int.toNat (mI M a0 8)) l1 := ⟨_, rfl⟩
    replace h := h M33 e34
    obtain ⟨h35, h⟩ := h
    obtain ⟨h36, h⟩ := h
    obtain ⟨M37, e38⟩ : ∃ M37, M37 = mUI M33 (mR M33 a0 7) (Int.toNat (mI M33 a0 8)) l2 := ⟨_, rfl⟩
    replace h := h M37 e38
    obtain ⟨h39, h⟩ := h
    obtain ⟨M40, e41⟩ : ∃ M40, M40 = mUI M37 a0 8 ((mI M37 a0 8) + 1) := ⟨_, rfl⟩
    replace h := h M40 e41
    refine wm_aload_n d_Ma_push_46 rfl rfl ?_
    refine gf_Ma_18 rfl d_Ma_push_47 h1 ?_
    refine wm_aload_n d_Ma_push_50 rfl rfl ?_
    refine gf_Ma_52 rfl d_Ma_push_51 h1 ?_
    refine wm_iload_n d_Ma_push_54 rfl rfl ?_
    have hOM33 : mOk M33 := by rw [e34]; exact mOk_UI hO hi_l1
    refine wm_iastE d_Ma_push_55 h2 h32 hi_l1 e34 ?_
    refine wm_aload_n d_Ma_push_56 rfl rfl ?_
    refine gf_Ma_21 rfl d_Ma_push_57 (by rw [e34]; exact h1) ?_
    refine wm_aload_n d_Ma_push_60 rfl rfl ?_
    refine gf_Ma_52 rfl d_Ma_push_61 (by rw [e34]; exact h1) ?_
    refine wm_iload_n d_Ma_push_64 rfl rfl ?_
    have hOM37 : mOk M37 := by rw [e38]; exact mOk_UI hOM33 hi_l2
    refine wm_iastE d_Ma_push_65 h35 h36 hi_l2 e38 ?_
    refine wm_aload_n d_Ma_push_66 rfl rfl ?_
    refine wm_dup d_Ma_push_67 rfl ?_
    refine gf_Ma_52 rfl d_Ma_push_68 (by rw [e38, e34]; exact h1) ?_
    refine wm_iconst d_Ma_push_71 ?_
    refine wm_iadd d_Ma_push_72 ?_
    have hOM40 : mOk M40 := by rw [e41]; exact mOk_UI hOM37 h39
    refine pf_Ma_52 rfl d_Ma_push_73 (by rw [e38, e34]; exact h1) h39 e41 ?_
    refine wm_return d_Ma_push_76 rfl ?_
    exact ⟨rfl, h⟩
  · replace c8 := Classical.not_not.mp c8
    replace h := h.1 c8
    refine wm_aload_n d_Ma_push_12 rfl rfl ?_
    refine wm_aload_n d_Ma_push_13 rfl rfl ?_
    refine gf_Ma_18 rfl d_Ma_push_14 h1 ?_
    refine wm_iconst d_Ma_push_17 ?_
    refine wm_aload_n d_Ma_push_18 rfl rfl ?_
    refine gf_Ma_52 rfl d_Ma_push_19 h1 ?_
    refine wm_imul d_Ma_push_22 ?_
    refine cf_Ma_101 rfl d_Ma_push_23 (Nat.le_of_ble_eq_true rfl) (Cr.mono h (fun x10 M9 h => ?_))
    obtain ⟨hOM9, h⟩ := h
    obtain ⟨h12, h⟩ := h
    obtain ⟨M13, e14⟩ : ∃ M13, M13 = mUR M9 a0 6 x10 := ⟨_, rfl⟩
    replace h := h M13 e14
    have hOM13 : mOk M13 := by rw [e14]; exact mOk_UR hOM9
    refine pf_Ma_18 rfl d_Ma_push_26 h12 e14 ?_
    refine wm_aload_n d_Ma_push_29 rfl rfl ?_
    refine wm_aload_n d_Ma_push_30 rfl rfl ?_
    refine gf_Ma_21 rfl d_Ma_push_31 (by rw [e14]; exact h12) ?_
    refine wm_iconst d_Ma_push_34 ?_
    refine wm_aload_n d_Ma_push_35 rfl rfl ?_
    refine gf_Ma_52 rfl d_Ma_push_36 (by rw [e14]; exact h12) ?_
    refine wm_imul d_Ma_push_39 ?_
    refine cf_Ma_101 rfl d_Ma_push_40 (Nat.le_of_ble_eq_true rfl) (Cr.mono h (fun x16 M15 h => ?_))
    obtain ⟨hOM15, h⟩ := h
    obtain ⟨h18, h⟩ := h
    obtain ⟨M19, e20⟩ : ∃ M19, M19 = mUR M15 a0 7 x16 := ⟨_, rfl⟩
    replace h := h M19 e20
    obtain ⟨h21, h⟩ := h
    obtain ⟨h22, h⟩ := h
    obtain ⟨M23, e24⟩ : ∃ M23, M23 = mUI M19 (mR M19 a0 6) (Int.toNat (mI M19 a0 8)) l1 := ⟨_, rfl⟩
    replace h := h M23 e24
    obtain ⟨h25, h⟩ := h
    obtain ⟨h26, h⟩ := h
    obtain ⟨M27, e28⟩ : ∃ M27, M27 = mUI M23 (mR M23 a0 7) (Int.toNat (mI M23 a0 8)) l2 := ⟨_, rfl⟩
    replace h := h M27 e28
    obtain ⟨h29, h⟩ := h
    obtain ⟨M30, e31⟩ : ∃ M30, M30 = mUI M27 a0 8 ((mI M27 a0 8) + 1) := ⟨_, rfl⟩
    replace h := h M30 e31
    have hOM19 : mOk M19 := by rw [e20]; exact mOk_UR hOM15
    refine pf_Ma_21 rfl d_Ma_push_43 h18 e20 ?_
    refine wm_aload_n d_Ma_push_46 rfl rfl ?_
    refine gf_Ma_18 rfl d_Ma_push_47 (by rw [e20]; exact h18) ?_
    refine wm_aload_n d_Ma_push_50 rfl rfl ?_
    refine gf_Ma_52 rfl d_Ma_push_51 (by rw [e20]; exact h18) ?_
    refine wm_iload_n d_Ma_push_54 rfl rfl ?_
    have hOM23 : mOk M23 := by rw [e24]; exact mOk_UI hOM19 hi_l1
    refine wm_iastE d_Ma_push_55 h21 h22 hi_l1 e24 ?_
    refine wm_aload_n d_Ma_push_56 rfl rfl ?_
    refine gf_Ma_21 rfl d_Ma_push_57 (by rw [e24, e20]; exact h18) ?_
    refine wm_aload_n d_Ma_push_60 rfl rfl ?_
    refine gf_Ma_52 rfl d_Ma_push_61 (by rw [e24, e20]; exact h18) ?_
    refine wm_iload_n d_Ma_push_64 rfl rfl ?_
    have hOM27 : mOk M27 := by rw [e28]; exact mOk_UI hOM23 hi_l2
    refine wm_iastE d_Ma_push_65 h25 h26 hi_l2 e28 ?_
    refine wm_aload_n d_Ma_push_66 rfl rfl ?_
    refine wm_dup d_Ma_push_67 rfl ?_
    refine gf_Ma_52 rfl d_Ma_push_68 (by rw [e28, e24, e20]; exact h18) ?_
    refine wm_iconst d_Ma_push_71 ?_
    refine wm_iadd d_Ma_push_72 ?_
    have hOM30 : mOk M30 := by rw [e31]; exact mOk_UI hOM27 h29
    refine pf_Ma_52 rfl d_Ma_push_73 (by rw [e28, e24, e20]; exact h18) h29 e31 ?_
    refine wm_return d_Ma_push_76 rfl ?_
    exact ⟨rfl, h⟩
theorem d_Ma_meet_0 : decode y_Ma_meet.2.1 0 = .ok (.aload_n 0, 1) := dc9_42 (by decide +kernel)
theorem d_Ma_meet_1 : decode y_Ma_meet.2.1 1 = .ok (.getfield 28, 3) := dc9_180 (by decide +kernel)
theorem d_Ma_meet_4 : decode y_Ma_meet.2.1 4 = .ok (.iload_n 1, 1) := dc9_27 (by decide +kernel)
theorem d_Ma_meet_5 : decode y_Ma_meet.2.1 5 = .ok (.iaload, 1) := dc9_46 (by decide +kernel)
theorem d_Ma_meet_6 : decode y_Ma_meet.2.1 6 = .ok (.aload_n 0, 1) := dc9_42 (by decide +kernel)
theorem d_Ma_meet_7 : decode y_Ma_meet.2.1 7 = .ok (.getfield 24, 3) := dc9_180 (by decide +kernel)
theorem d_Ma_meet_10 : decode y_Ma_meet.2.1 10 = .ok (.if_icmp .ne 21, 3) := dc9_160 (by decide +kernel)
theorem d_Ma_meet_13 : decode y_Ma_meet.2.1 13 = .ok (.aload_n 0, 1) := dc9_42 (by decide +kernel)
theorem d_Ma_meet_14 : decode y_Ma_meet.2.1 14 = .ok (.aload_n 0, 1) := dc9_42 (by decide +kernel)
theorem d_Ma_meet_15 : decode y_Ma_meet.2.1 15 = .ok (.getfield 31, 3) := dc9_180 (by decide +kernel)
theorem d_Ma_meet_18 : decode y_Ma_meet.2.1 18 = .ok (.iload_n 1, 1) := dc9_27 (by decide +kernel)
theorem d_Ma_meet_19 : decode y_Ma_meet.2.1 19 = .ok (.iaload, 1) := dc9_46 (by decide +kernel)
theorem d_Ma_meet_20 : decode y_Ma_meet.2.1 20 = .ok (.aload_n 0, 1) := dc9_42 (by decide +kernel)
theorem d_Ma_meet_21 : decode y_Ma_meet.2.1 21 = .ok (.getfield 34, 3) := dc9_180 (by decide +kernel)
theorem d_Ma_meet_24 : decode y_Ma_meet.2.1 24 = .ok (.iload_n 1, 1) := dc9_27 (by decide +kernel)
theorem d_Ma_meet_25 : decode y_Ma_meet.2.1 25 = .ok (.iaload, 1) := dc9_46 (by decide +kernel)
theorem d_Ma_meet_31 : decode y_Ma_meet.2.1 31 = .ok (.aload_n 0, 1) := dc9_42 (by decide +kernel)
theorem d_Ma_meet_32 : decode y_Ma_meet.2.1 32 = .ok (.getfield 37, 3) := dc9_180 (by decide +kernel)
theorem d_Ma_meet_35 : decode y_Ma_meet.2.1 35 = .ok (.aload_n 0, 1) := dc9_42 (by decide +kernel)
theorem d_Ma_meet_36 : decode y_Ma_meet.2.1 36 = .ok (.getfield 55, 3) := dc9_180 (by decide +kernel)
theorem d_Ma_meet_39 : decode y_Ma_meet.2.1 39 = .ok (.iload_n 1, 1) := dc9_27 (by decide +kernel)
theorem d_Ma_meet_40 : decode y_Ma_meet.2.1 40 = .ok (.iastore, 1) := dc9_79 (by decide +kernel)
theorem d_Ma_meet_41 : decode y_Ma_meet.2.1 41 = .ok (.aload_n 0, 1) := dc9_42 (by decide +kernel)
theorem d_Ma_meet_42 : decode y_Ma_meet.2.1 42 = .ok (.getfield 40, 3) := dc9_180 (by decide +kernel)
theorem d_Ma_meet_45 : decode y_Ma_meet.2.1 45 = .ok (.aload_n 0, 1) := dc9_42 (by decide +kernel)
theorem d_Ma_meet_46 : decode y_Ma_meet.2.1 46 = .ok (.getfield 55, 3) := dc9_180 (by decide +kernel)
theorem d_Ma_meet_49 : decode y_Ma_meet.2.1 49 = .ok (.iload_n 2, 1) := dc9_28 (by decide +kernel)
theorem d_Ma_meet_50 : decode y_Ma_meet.2.1 50 = .ok (.iastore, 1) := dc9_79 (by decide +kernel)
theorem d_Ma_meet_26 : decode y_Ma_meet.2.1 26 = .ok (.invokevirtual 74, 3) := dc9_182 (by decide +kernel)
theorem d_Ma_meet_29 : decode y_Ma_meet.2.1 29 = .ok (.iload_n 2, 1) := dc9_28 (by decide +kernel)
theorem d_Ma_meet_30 : decode y_Ma_meet.2.1 30 = .ok (.ireturn, 1) := dc9_172 (by decide +kernel)
theorem d_Ma_meet_51 : decode y_Ma_meet.2.1 51 = .ok (.aload_n 0, 1) := dc9_42 (by decide +kernel)
theorem d_Ma_meet_52 : decode y_Ma_meet.2.1 52 = .ok (.dup, 1) := dc9_89 (by decide +kernel)
theorem d_Ma_meet_53 : decode y_Ma_meet.2.1 53 = .ok (.getfield 55, 3) := dc9_180 (by decide +kernel)
theorem d_Ma_meet_56 : decode y_Ma_meet.2.1 56 = .ok (.iconst 1, 1) := dc9_4 (by decide +kernel)
theorem d_Ma_meet_57 : decode y_Ma_meet.2.1 57 = .ok (.iadd, 1) := dc9_96 (by decide +kernel)
theorem d_Ma_meet_58 : decode y_Ma_meet.2.1 58 = .ok (.putfield 55, 3) := dc9_181 (by decide +kernel)
theorem d_Ma_meet_61 : decode y_Ma_meet.2.1 61 = .ok (.aload_n 0, 1) := dc9_42 (by decide +kernel)
theorem d_Ma_meet_62 : decode y_Ma_meet.2.1 62 = .ok (.getfield 59, 3) := dc9_180 (by decide +kernel)
theorem d_Ma_meet_65 : decode y_Ma_meet.2.1 65 = .ok (.getfield 107, 3) := dc9_180 (by decide +kernel)
theorem d_Ma_meet_68 : decode y_Ma_meet.2.1 68 = .ok (.iload_n 1, 1) := dc9_27 (by decide +kernel)
theorem d_Ma_meet_69 : decode y_Ma_meet.2.1 69 = .ok (.iaload, 1) := dc9_46 (by decide +kernel)
theorem d_Ma_meet_70 : decode y_Ma_meet.2.1 70 = .ok (.ireturn, 1) := dc9_172 (by decide +kernel)
theorem k_Ma_meet {G : mG} {d : Nat} {a0 : Nat} {l1 : Int} {l2 : Int} {M : mM} {Q : Int → mM → Prop} (hO : mOk M) (hi_l1 : i32 l1) (hi_l2 : i32 l2)
    (h : mK M a0 = 5 ∧ mK M (mR M a0 10) = 30 ∧ ((0 : Int) ≤ l1 ∧ l1 < (mN M (mR M a0 10) : Int)) ∧ ((mI M (mR M a0 10) (Int.toNat l1) = mI M a0 9) → (mK M (mR M a0 11) = 30 ∧ ((0 : Int) ≤ l1 ∧ l1 < (mN M (mR M a0 11) : Int)) ∧ mK M (mR M a0 12) = 30 ∧ ((0 : Int) ≤ l1 ∧ l1 < (mN M (mR M a0 12) : Int)) ∧ Cv G y_Ma_push d [vr a0, vi (mI M (mR M a0 11) (Int.toNat l1)), vi (mI M (mR M a0 12) (Int.toNat l1))] M (fun M10 => mOk M10 ∧ (Q l2 M10)))) ∧ (¬ (mI M (mR M a0 10) (Int.toNat l1) = mI M a0 9) → (mK M (mR M a0 13) = 30 ∧ ((0 : Int) ≤ mI M a0 15 ∧ mI M a0 15 < (mN M (mR M a0 13) : Int)) ∧ ∀ M15, M15 = mUI M (mR M a0 13) (Int.toNat (mI M a0 15)) l1 → mK M15 (mR M15 a0 14) = 30 ∧ ((0 : Int) ≤ mI M15 a0 15 ∧ mI M15 a0 15 < (mN M15 (mR M15 a0 14) : Int)) ∧ ∀ M19, M19 = mUI M15 (mR M15 a0 14) (Int.toNat (mI M15 a0 15)) l2 → i32 ((mI M19 a0 15) + 1) ∧ ∀ M22, M22 = mUI M19 a0 15 ((mI M19 a0 15) + 1) → mK M22 (mR M22 a0 0) = 6 ∧ mK M22 (mR M22 (mR M22 a0 0) 10) = 30 ∧ ((0 : Int) ≤ l1 ∧ l1 < (mN M22 (mR M22 (mR M22 a0 0) 10) : Int)) ∧ Q (mI M22 (mR M22 (mR M22 a0 0) 10) (Int.toNat l1)) M22))) :
    Ci G y_Ma_meet (d + 1) [vr a0, vi l1, vi l2] M Q := by
  refine wm_open (y := y_Ma_meet) rfl (Nat.le_of_ble_eq_true rfl) (L := [vr a0, vi l1, vi l2]) rfl ?_
  obtain ⟨h1, h⟩ := h
  obtain ⟨h2, h⟩ := h
  obtain ⟨h3, h⟩ := h
  refine wm_aload_n d_Ma_meet_0 rfl rfl ?_
  refine gf_Ma_28 rfl d_Ma_meet_1 h1 ?_
  refine wm_iload_n d_Ma_meet_4 rfl rfl ?_
  refine wm_iald d_Ma_meet_5 h2 h3 ?_
  refine wm_aload_n d_Ma_meet_6 rfl rfl ?_
  refine gf_Ma_24 rfl d_Ma_meet_7 h1 ?_
  refine wm_icmp_ne (tgt := 31) d_Ma_meet_10 rfl (hO _ _).1 (hO _ _).1 (fun c5 => ?_) (fun c5 => ?_)
  · replace h := h.2 c5
    obtain ⟨h13, h⟩ := h
    obtain ⟨h14, h⟩ := h
    obtain ⟨M15, e16⟩ : ∃ M15, M15 = mUI M (mR M a0 13) (Int.toNat (mI M a0 15)) l1 := ⟨_, rfl⟩
    replace h := h M15 e16
    obtain ⟨h17, h⟩ := h
    obtain ⟨h18, h⟩ := h
    obtain ⟨M19, e20⟩ : ∃ M19, M19 = mUI M15 (mR M15 a0 14) (Int.toNat (mI M15 a0 15)) l2 := ⟨_, rfl⟩
    replace h := h M19 e20
    obtain ⟨h21, h⟩ := h
    obtain ⟨M22, e23⟩ : ∃ M22, M22 = mUI M19 a0 15 ((mI M19 a0 15) + 1) := ⟨_, rfl⟩
    replace h := h M22 e23
    obtain ⟨h24, h⟩ := h
    obtain ⟨h25, h⟩ := h
    obtain ⟨h26, h⟩ := h
    refine wm_aload_n d_Ma_meet_31 rfl rfl ?_
    refine gf_Ma_37 rfl d_Ma_meet_32 h1 ?_
    refine wm_aload_n d_Ma_meet_35 rfl rfl ?_
    refine gf_Ma_55 rfl d_Ma_meet_36 h1 ?_
    refine wm_iload_n d_Ma_meet_39 rfl rfl ?_
    have hOM15 : mOk M15 := by rw [e16]; exact mOk_UI hO hi_l1
    refine wm_iastE d_Ma_meet_40 h13 h14 hi_l1 e16 ?_
    refine wm_aload_n d_Ma_meet_41 rfl rfl ?_
    refine gf_Ma_40 rfl d_Ma_meet_42 (by rw [e16]; exact h1) ?_
    refine wm_aload_n d_Ma_meet_45 rfl rfl ?_
    refine gf_Ma_55 rfl d_Ma_meet_46 (by rw [e16]; exact h1) ?_
    refine wm_iload_n d_Ma_meet_49 rfl rfl ?_
    have hOM19 : mOk M19 := by rw [e20]; exact mOk_UI hOM15 hi_l2
    refine wm_iastE d_Ma_meet_50 h17 h18 hi_l2 e20 ?_
    refine wm_aload_n d_Ma_meet_51 rfl rfl ?_
    refine wm_dup d_Ma_meet_52 rfl ?_
    refine gf_Ma_55 rfl d_Ma_meet_53 (by rw [e20, e16]; exact h1) ?_
    refine wm_iconst d_Ma_meet_56 ?_
    refine wm_iadd d_Ma_meet_57 ?_
    have hOM22 : mOk M22 := by rw [e23]; exact mOk_UI hOM19 h21
    refine pf_Ma_55 rfl d_Ma_meet_58 (by rw [e20, e16]; exact h1) h21 e23 ?_
    refine wm_aload_n d_Ma_meet_61 rfl rfl ?_
    refine gf_Ma_59 rfl d_Ma_meet_62 (by rw [e23, e20, e16]; exact h1) ?_
    refine gf_Ma_107 rfl d_Ma_meet_65 h24 ?_
    refine wm_iload_n d_Ma_meet_68 rfl rfl ?_
    refine wm_iald d_Ma_meet_69 h25 h26 ?_
    refine wm_ireturn d_Ma_meet_70 rfl rfl ?_
    exact ⟨_, rfl, h⟩
  · replace c5 := Classical.not_not.mp c5
    replace h := h.1 c5
    obtain ⟨h6, h⟩ := h
    obtain ⟨h7, h⟩ := h
    obtain ⟨h8, h⟩ := h
    obtain ⟨h9, h⟩ := h
    refine wm_aload_n d_Ma_meet_13 rfl rfl ?_
    refine wm_aload_n d_Ma_meet_14 rfl rfl ?_
    refine gf_Ma_31 rfl d_Ma_meet_15 h1 ?_
    refine wm_iload_n d_Ma_meet_18 rfl rfl ?_
    refine wm_iald d_Ma_meet_19 h6 h7 ?_
    refine wm_aload_n d_Ma_meet_20 rfl rfl ?_
    refine gf_Ma_34 rfl d_Ma_meet_21 h1 ?_
    refine wm_iload_n d_Ma_meet_24 rfl rfl ?_
    refine wm_iald d_Ma_meet_25 h8 h9 ?_
    refine cf_Ma_74 rfl d_Ma_meet_26 h1 (Nat.le_of_ble_eq_true rfl) (Cv.mono h (fun M10 h => ?_))
    obtain ⟨hOM10, h⟩ := h
    refine wm_iload_n d_Ma_meet_29 rfl rfl ?_
    refine wm_ireturn d_Ma_meet_30 rfl rfl ?_
    exact ⟨_, rfl, h⟩
theorem d_Ma_comeBack_0 : decode y_Ma_comeBack.2.1 0 = .ok (.aload_n 0, 1) := dc9_42 (by decide +kernel)
theorem d_Ma_comeBack_1 : decode y_Ma_comeBack.2.1 1 = .ok (.dup, 1) := dc9_89 (by decide +kernel)
theorem d_Ma_comeBack_2 : decode y_Ma_comeBack.2.1 2 = .ok (.getfield 55, 3) := dc9_180 (by decide +kernel)
theorem d_Ma_comeBack_5 : decode y_Ma_comeBack.2.1 5 = .ok (.iconst 1, 1) := dc9_4 (by decide +kernel)
theorem d_Ma_comeBack_6 : decode y_Ma_comeBack.2.1 6 = .ok (.isub, 1) := dc9_100 (by decide +kernel)
theorem d_Ma_comeBack_7 : decode y_Ma_comeBack.2.1 7 = .ok (.putfield 55, 3) := dc9_181 (by decide +kernel)
theorem d_Ma_comeBack_10 : decode y_Ma_comeBack.2.1 10 = .ok (.aload_n 0, 1) := dc9_42 (by decide +kernel)
theorem d_Ma_comeBack_11 : decode y_Ma_comeBack.2.1 11 = .ok (.getfield 37, 3) := dc9_180 (by decide +kernel)
theorem d_Ma_comeBack_14 : decode y_Ma_comeBack.2.1 14 = .ok (.aload_n 0, 1) := dc9_42 (by decide +kernel)
theorem d_Ma_comeBack_15 : decode y_Ma_comeBack.2.1 15 = .ok (.getfield 55, 3) := dc9_180 (by decide +kernel)
theorem d_Ma_comeBack_18 : decode y_Ma_comeBack.2.1 18 = .ok (.iaload, 1) := dc9_46 (by decide +kernel)
theorem d_Ma_comeBack_19 : decode y_Ma_comeBack.2.1 19 = .ok (.istore_n 1, 1) := dc9_60 (by decide +kernel)
theorem d_Ma_comeBack_20 : decode y_Ma_comeBack.2.1 20 = .ok (.aload_n 0, 1) := dc9_42 (by decide +kernel)
theorem d_Ma_comeBack_21 : decode y_Ma_comeBack.2.1 21 = .ok (.getfield 28, 3) := dc9_180 (by decide +kernel)
theorem d_Ma_comeBack_24 : decode y_Ma_comeBack.2.1 24 = .ok (.iload_n 1, 1) := dc9_27 (by decide +kernel)
theorem d_Ma_comeBack_25 : decode y_Ma_comeBack.2.1 25 = .ok (.aload_n 0, 1) := dc9_42 (by decide +kernel)
theorem d_Ma_comeBack_26 : decode y_Ma_comeBack.2.1 26 = .ok (.getfield 24, 3) := dc9_180 (by decide +kernel)
theorem d_Ma_comeBack_29 : decode y_Ma_comeBack.2.1 29 = .ok (.iastore, 1) := dc9_79 (by decide +kernel)
theorem d_Ma_comeBack_30 : decode y_Ma_comeBack.2.1 30 = .ok (.aload_n 0, 1) := dc9_42 (by decide +kernel)
theorem d_Ma_comeBack_31 : decode y_Ma_comeBack.2.1 31 = .ok (.getfield 31, 3) := dc9_180 (by decide +kernel)
theorem d_Ma_comeBack_34 : decode y_Ma_comeBack.2.1 34 = .ok (.iload_n 1, 1) := dc9_27 (by decide +kernel)
theorem d_Ma_comeBack_35 : decode y_Ma_comeBack.2.1 35 = .ok (.aload_n 0, 1) := dc9_42 (by decide +kernel)
theorem d_Ma_comeBack_36 : decode y_Ma_comeBack.2.1 36 = .ok (.getfield 18, 3) := dc9_180 (by decide +kernel)
theorem d_Ma_comeBack_39 : decode y_Ma_comeBack.2.1 39 = .ok (.aload_n 0, 1) := dc9_42 (by decide +kernel)
theorem d_Ma_comeBack_40 : decode y_Ma_comeBack.2.1 40 = .ok (.getfield 52, 3) := dc9_180 (by decide +kernel)
theorem d_Ma_comeBack_43 : decode y_Ma_comeBack.2.1 43 = .ok (.iconst 1, 1) := dc9_4 (by decide +kernel)
theorem d_Ma_comeBack_44 : decode y_Ma_comeBack.2.1 44 = .ok (.isub, 1) := dc9_100 (by decide +kernel)
theorem d_Ma_comeBack_45 : decode y_Ma_comeBack.2.1 45 = .ok (.iaload, 1) := dc9_46 (by decide +kernel)
theorem d_Ma_comeBack_46 : decode y_Ma_comeBack.2.1 46 = .ok (.iastore, 1) := dc9_79 (by decide +kernel)
theorem d_Ma_comeBack_47 : decode y_Ma_comeBack.2.1 47 = .ok (.aload_n 0, 1) := dc9_42 (by decide +kernel)
theorem d_Ma_comeBack_48 : decode y_Ma_comeBack.2.1 48 = .ok (.getfield 34, 3) := dc9_180 (by decide +kernel)
theorem d_Ma_comeBack_51 : decode y_Ma_comeBack.2.1 51 = .ok (.iload_n 1, 1) := dc9_27 (by decide +kernel)
theorem d_Ma_comeBack_52 : decode y_Ma_comeBack.2.1 52 = .ok (.aload_n 0, 1) := dc9_42 (by decide +kernel)
theorem d_Ma_comeBack_53 : decode y_Ma_comeBack.2.1 53 = .ok (.getfield 21, 3) := dc9_180 (by decide +kernel)
theorem d_Ma_comeBack_56 : decode y_Ma_comeBack.2.1 56 = .ok (.aload_n 0, 1) := dc9_42 (by decide +kernel)
theorem d_Ma_comeBack_57 : decode y_Ma_comeBack.2.1 57 = .ok (.getfield 52, 3) := dc9_180 (by decide +kernel)
theorem d_Ma_comeBack_60 : decode y_Ma_comeBack.2.1 60 = .ok (.iconst 1, 1) := dc9_4 (by decide +kernel)
theorem d_Ma_comeBack_61 : decode y_Ma_comeBack.2.1 61 = .ok (.isub, 1) := dc9_100 (by decide +kernel)
theorem d_Ma_comeBack_62 : decode y_Ma_comeBack.2.1 62 = .ok (.iaload, 1) := dc9_46 (by decide +kernel)
theorem d_Ma_comeBack_63 : decode y_Ma_comeBack.2.1 63 = .ok (.iastore, 1) := dc9_79 (by decide +kernel)
theorem d_Ma_comeBack_64 : decode y_Ma_comeBack.2.1 64 = .ok (.aload_n 0, 1) := dc9_42 (by decide +kernel)
theorem d_Ma_comeBack_65 : decode y_Ma_comeBack.2.1 65 = .ok (.getfield 40, 3) := dc9_180 (by decide +kernel)
theorem d_Ma_comeBack_68 : decode y_Ma_comeBack.2.1 68 = .ok (.aload_n 0, 1) := dc9_42 (by decide +kernel)
theorem d_Ma_comeBack_69 : decode y_Ma_comeBack.2.1 69 = .ok (.getfield 55, 3) := dc9_180 (by decide +kernel)
theorem d_Ma_comeBack_72 : decode y_Ma_comeBack.2.1 72 = .ok (.iaload, 1) := dc9_46 (by decide +kernel)
theorem d_Ma_comeBack_73 : decode y_Ma_comeBack.2.1 73 = .ok (.ireturn, 1) := dc9_172 (by decide +kernel)
theorem k_Ma_comeBack {G : mG} {d : Nat} {a0 : Nat} {M : mM} {Q : Int → mM → Prop} (hO : mOk M)
    (h : mK M a0 = 5 ∧ i32 ((mI M a0 15) - 1) ∧ ∀ M3, M3 = mUI M a0 15 ((mI M a0 15) - 1) → mK M3 (mR M3 a0 13) = 30 ∧ ((0 : Int) ≤ mI M3 a0 15 ∧ mI M3 a0 15 < (mN M3 (mR M3 a0 13) : Int)) ∧ mK M3 (mR M3 a0 10) = 30 ∧ ((0 : Int) ≤ mI M3 (mR M3 a0 13) (Int.toNat (mI M3 a0 15)) ∧ mI M3 (mR M3 a0 13) (Int.toNat (mI M3 a0 15)) < (mN M3 (mR M3 a0 10) : Int)) ∧ ∀ M9, M9 = mUI M3 (mR M3 a0 10) (Int.toNat (mI M3 (mR M3 a0 13) (Int.toNat (mI M3 a0 15)))) (mI M3 a0 9) → mK M9 (mR M9 a0 6) = 30 ∧ ((0 : Int) ≤ (mI M9 a0 8) - 1 ∧ (mI M9 a0 8) - 1 < (mN M9 (mR M9 a0 6) : Int)) ∧ mK M9 (mR M9 a0 11) = 30 ∧ ((0 : Int) ≤ mI M3 (mR M3 a0 13) (Int.toNat (mI M3 a0 15)) ∧ mI M3 (mR M3 a0 13) (Int.toNat (mI M3 a0 15)) < (mN M9 (mR M9 a0 11) : Int)) ∧ ∀ M15, M15 = mUI M9 (mR M9 a0 11) (Int.toNat (mI M3 (mR M3 a0 13) (Int.toNat (mI M3 a0 15)))) (mI M9 (mR M9 a0 6) (Int.toNat ((mI M9 a0 8) - 1))) → mK M15 (mR M15 a0 7) = 30 ∧ ((0 : Int) ≤ (mI M15 a0 8) - 1 ∧ (mI M15 a0 8) - 1 < (mN M15 (mR M15 a0 7) : Int)) ∧ mK M15 (mR M15 a0 12) = 30 ∧ ((0 : Int) ≤ mI M3 (mR M3 a0 13) (Int.toNat (mI M3 a0 15)) ∧ mI M3 (mR M3 a0 13) (Int.toNat (mI M3 a0 15)) < (mN M15 (mR M15 a0 12) : Int)) ∧ ∀ M21, M21 = mUI M15 (mR M15 a0 12) (Int.toNat (mI M3 (mR M3 a0 13) (Int.toNat (mI M3 a0 15)))) (mI M15 (mR M15 a0 7) (Int.toNat ((mI M15 a0 8) - 1))) → mK M21 (mR M21 a0 14) = 30 ∧ ((0 : Int) ≤ mI M21 a0 15 ∧ mI M21 a0 15 < (mN M21 (mR M21 a0 14) : Int)) ∧ Q (mI M21 (mR M21 a0 14) (Int.toNat (mI M21 a0 15))) M21) :
    Ci G y_Ma_comeBack d [vr a0] M Q := by
  refine wm_open (y := y_Ma_comeBack) rfl (Nat.le_of_ble_eq_true rfl) (L := [vr a0, vd]) rfl ?_
  obtain ⟨h1, h⟩ := h
  obtain ⟨h2, h⟩ := h
  obtain ⟨M3, e4⟩ : ∃ M3, M3 = mUI M a0 15 ((mI M a0 15) - 1) := ⟨_, rfl⟩
  replace h := h M3 e4
  obtain ⟨h5, h⟩ := h
  obtain ⟨h6, h⟩ := h
  obtain ⟨h7, h⟩ := h
  obtain ⟨h8, h⟩ := h
  obtain ⟨M9, e10⟩ : ∃ M9, M9 = mUI M3 (mR M3 a0 10) (Int.toNat (mI M3 (mR M3 a0 13) (Int.toNat (mI M3 a0 15)))) (mI M3 a0 9) := ⟨_, rfl⟩
  replace h := h M9 e10
  obtain ⟨h11, h⟩ := h
  obtain ⟨h12, h⟩ := h
  obtain ⟨h13, h⟩ := h
  obtain ⟨h14, h⟩ := h
  obtain ⟨M15, e16⟩ : ∃ M15, M15 = mUI M9 (mR M9 a0 11) (Int.toNat (mI M3 (mR M3 a0 13) (Int.toNat (mI M3 a0 15)))) (mI M9 (mR M9 a0 6) (Int.toNat ((mI M9 a0 8) - 1))) := ⟨_, rfl⟩
  replace h := h M15 e16
  obtain ⟨h17, h⟩ := h
  obtain ⟨h18, h⟩ := h
  obtain ⟨h19, h⟩ := h
  obtain ⟨h20, h⟩ := h
  obtain ⟨M21, e22⟩ : ∃ M21, M21 = mUI M15 (mR M15 a0 12) (Int.toNat (mI M3 (mR M3 a0 13) (Int.toNat (mI M3 a0 15)))) (mI M15 (mR M15 a0 7) (Int.toNat ((mI M15 a0 8) - 1))) := ⟨_, rfl⟩
  replace h := h M21 e22
  obtain ⟨h23, h⟩ := h
  obtain ⟨h24, h⟩ := h
  refine wm_aload_n d_Ma_comeBack_0 rfl rfl ?_
  refine wm_dup d_Ma_comeBack_1 rfl ?_
  refine gf_Ma_55 rfl d_Ma_comeBack_2 h1 ?_
  refine wm_iconst d_Ma_comeBack_5 ?_
  refine wm_isub d_Ma_comeBack_6 ?_
  have hOM3 : mOk M3 := by rw [e4]; exact mOk_UI hO h2
  refine pf_Ma_55 rfl d_Ma_comeBack_7 h1 h2 e4 ?_
  refine wm_aload_n d_Ma_comeBack_10 rfl rfl ?_
  refine gf_Ma_37 rfl d_Ma_comeBack_11 (by rw [e4]; exact h1) ?_
  refine wm_aload_n d_Ma_comeBack_14 rfl rfl ?_
  refine gf_Ma_55 rfl d_Ma_comeBack_15 (by rw [e4]; exact h1) ?_
  refine wm_iald d_Ma_comeBack_18 h5 h6 ?_
  refine wm_istore_n d_Ma_comeBack_19 rfl (by decide) (L' := [vr a0, vi (mI M3 (mR M3 a0 13) (Int.toNat (mI M3 a0 15)))]) rfl ?_
  refine wm_aload_n d_Ma_comeBack_20 rfl rfl ?_
  refine gf_Ma_28 rfl d_Ma_comeBack_21 (by rw [e4]; exact h1) ?_
  refine wm_iload_n d_Ma_comeBack_24 rfl rfl ?_
  refine wm_aload_n d_Ma_comeBack_25 rfl rfl ?_
  refine gf_Ma_24 rfl d_Ma_comeBack_26 (by rw [e4]; exact h1) ?_
  have hOM9 : mOk M9 := by rw [e10]; exact mOk_UI hOM3 (hOM3 _ _).1
  refine wm_iastE d_Ma_comeBack_29 h7 h8 (hOM3 _ _).1 e10 ?_
  refine wm_aload_n d_Ma_comeBack_30 rfl rfl ?_
  refine gf_Ma_31 rfl d_Ma_comeBack_31 (by rw [e10, e4]; exact h1) ?_
  refine wm_iload_n d_Ma_comeBack_34 rfl rfl ?_
  refine wm_aload_n d_Ma_comeBack_35 rfl rfl ?_
  refine gf_Ma_18 rfl d_Ma_comeBack_36 (by rw [e10, e4]; exact h1) ?_
  refine wm_aload_n d_Ma_comeBack_39 rfl rfl ?_
  refine gf_Ma_52 rfl d_Ma_comeBack_40 (by rw [e10, e4]; exact h1) ?_
  refine wm_iconst d_Ma_comeBack_43 ?_
  refine wm_isub d_Ma_comeBack_44 ?_
  refine wm_iald d_Ma_comeBack_45 h11 h12 ?_
  have hOM15 : mOk M15 := by rw [e16]; exact mOk_UI hOM9 (hOM9 _ _).1
  refine wm_iastE d_Ma_comeBack_46 h13 h14 (hOM9 _ _).1 e16 ?_
  refine wm_aload_n d_Ma_comeBack_47 rfl rfl ?_
  refine gf_Ma_34 rfl d_Ma_comeBack_48 (by rw [e16, e10, e4]; exact h1) ?_
  refine wm_iload_n d_Ma_comeBack_51 rfl rfl ?_
  refine wm_aload_n d_Ma_comeBack_52 rfl rfl ?_
  refine gf_Ma_21 rfl d_Ma_comeBack_53 (by rw [e16, e10, e4]; exact h1) ?_
  refine wm_aload_n d_Ma_comeBack_56 rfl rfl ?_
  refine gf_Ma_52 rfl d_Ma_comeBack_57 (by rw [e16, e10, e4]; exact h1) ?_
  refine wm_iconst d_Ma_comeBack_60 ?_
  refine wm_isub d_Ma_comeBack_61 ?_
  refine wm_iald d_Ma_comeBack_62 h17 h18 ?_
  have hOM21 : mOk M21 := by rw [e22]; exact mOk_UI hOM15 (hOM15 _ _).1
  refine wm_iastE d_Ma_comeBack_63 h19 h20 (hOM15 _ _).1 e22 ?_
  refine wm_aload_n d_Ma_comeBack_64 rfl rfl ?_
  refine gf_Ma_40 rfl d_Ma_comeBack_65 (by rw [e22, e16, e10, e4]; exact h1) ?_
  refine wm_aload_n d_Ma_comeBack_68 rfl rfl ?_
  refine gf_Ma_55 rfl d_Ma_comeBack_69 (by rw [e22, e16, e10, e4]; exact h1) ?_
  refine wm_iald d_Ma_comeBack_72 h23 h24 ?_
  refine wm_ireturn d_Ma_comeBack_73 rfl rfl ?_
  exact ⟨_, rfl, h⟩
theorem d_Ma_compute_0 : decode y_Ma_compute.2.1 0 = .ok (.iload_n 1, 1) := dc9_27 (by decide +kernel)
theorem d_Ma_compute_1 : decode y_Ma_compute.2.1 1 = .ok (.tableswitch 95 40 43 #[31, 56, 95, 82], 31) := by decide +kernel
theorem d_Ma_compute_32 : decode y_Ma_compute.2.1 32 = .ok (.aload_n 0, 1) := dc9_42 (by decide +kernel)
theorem d_Ma_compute_33 : decode y_Ma_compute.2.1 33 = .ok (.getfield 18, 3) := dc9_180 (by decide +kernel)
theorem d_Ma_compute_36 : decode y_Ma_compute.2.1 36 = .ok (.aload_n 0, 1) := dc9_42 (by decide +kernel)
theorem d_Ma_compute_37 : decode y_Ma_compute.2.1 37 = .ok (.getfield 52, 3) := dc9_180 (by decide +kernel)
theorem d_Ma_compute_40 : decode y_Ma_compute.2.1 40 = .ok (.iconst 1, 1) := dc9_4 (by decide +kernel)
theorem d_Ma_compute_41 : decode y_Ma_compute.2.1 41 = .ok (.isub, 1) := dc9_100 (by decide +kernel)
theorem d_Ma_compute_42 : decode y_Ma_compute.2.1 42 = .ok (.aload_n 0, 1) := dc9_42 (by decide +kernel)
theorem d_Ma_compute_43 : decode y_Ma_compute.2.1 43 = .ok (.getfield 18, 3) := dc9_180 (by decide +kernel)
theorem d_Ma_compute_46 : decode y_Ma_compute.2.1 46 = .ok (.aload_n 0, 1) := dc9_42 (by decide +kernel)
theorem d_Ma_compute_47 : decode y_Ma_compute.2.1 47 = .ok (.getfield 52, 3) := dc9_180 (by decide +kernel)
theorem d_Ma_compute_50 : decode y_Ma_compute.2.1 50 = .ok (.iconst 1, 1) := dc9_4 (by decide +kernel)
theorem d_Ma_compute_51 : decode y_Ma_compute.2.1 51 = .ok (.isub, 1) := dc9_100 (by decide +kernel)
theorem d_Ma_compute_52 : decode y_Ma_compute.2.1 52 = .ok (.iaload, 1) := dc9_46 (by decide +kernel)
theorem d_Ma_compute_53 : decode y_Ma_compute.2.1 53 = .ok (.ineg, 1) := dc9_116 (by decide +kernel)
theorem d_Ma_compute_54 : decode y_Ma_compute.2.1 54 = .ok (.iastore, 1) := dc9_79 (by decide +kernel)
theorem d_Ma_compute_55 : decode y_Ma_compute.2.1 55 = .ok (.iconst 1, 1) := dc9_4 (by decide +kernel)
theorem d_Ma_compute_56 : decode y_Ma_compute.2.1 56 = .ok (.ireturn, 1) := dc9_172 (by decide +kernel)
theorem d_Ma_compute_57 : decode y_Ma_compute.2.1 57 = .ok (.aload_n 0, 1) := dc9_42 (by decide +kernel)
theorem d_Ma_compute_58 : decode y_Ma_compute.2.1 58 = .ok (.getfield 18, 3) := dc9_180 (by decide +kernel)
theorem d_Ma_compute_61 : decode y_Ma_compute.2.1 61 = .ok (.aload_n 0, 1) := dc9_42 (by decide +kernel)
theorem d_Ma_compute_62 : decode y_Ma_compute.2.1 62 = .ok (.getfield 52, 3) := dc9_180 (by decide +kernel)
theorem d_Ma_compute_65 : decode y_Ma_compute.2.1 65 = .ok (.iconst 1, 1) := dc9_4 (by decide +kernel)
theorem d_Ma_compute_66 : decode y_Ma_compute.2.1 66 = .ok (.isub, 1) := dc9_100 (by decide +kernel)
theorem d_Ma_compute_67 : decode y_Ma_compute.2.1 67 = .ok (.iconst 1, 1) := dc9_4 (by decide +kernel)
theorem d_Ma_compute_68 : decode y_Ma_compute.2.1 68 = .ok (.aload_n 0, 1) := dc9_42 (by decide +kernel)
theorem d_Ma_compute_69 : decode y_Ma_compute.2.1 69 = .ok (.getfield 18, 3) := dc9_180 (by decide +kernel)
theorem d_Ma_compute_72 : decode y_Ma_compute.2.1 72 = .ok (.aload_n 0, 1) := dc9_42 (by decide +kernel)
theorem d_Ma_compute_73 : decode y_Ma_compute.2.1 73 = .ok (.getfield 52, 3) := dc9_180 (by decide +kernel)
theorem d_Ma_compute_76 : decode y_Ma_compute.2.1 76 = .ok (.iconst 1, 1) := dc9_4 (by decide +kernel)
theorem d_Ma_compute_77 : decode y_Ma_compute.2.1 77 = .ok (.isub, 1) := dc9_100 (by decide +kernel)
theorem d_Ma_compute_78 : decode y_Ma_compute.2.1 78 = .ok (.iaload, 1) := dc9_46 (by decide +kernel)
theorem d_Ma_compute_79 : decode y_Ma_compute.2.1 79 = .ok (.isub, 1) := dc9_100 (by decide +kernel)
theorem d_Ma_compute_80 : decode y_Ma_compute.2.1 80 = .ok (.iastore, 1) := dc9_79 (by decide +kernel)
theorem d_Ma_compute_81 : decode y_Ma_compute.2.1 81 = .ok (.iconst 1, 1) := dc9_4 (by decide +kernel)
theorem d_Ma_compute_82 : decode y_Ma_compute.2.1 82 = .ok (.ireturn, 1) := dc9_172 (by decide +kernel)
theorem d_Ma_compute_83 : decode y_Ma_compute.2.1 83 = .ok (.aload_n 0, 1) := dc9_42 (by decide +kernel)
theorem d_Ma_compute_84 : decode y_Ma_compute.2.1 84 = .ok (.iload_n 2, 1) := dc9_28 (by decide +kernel)
theorem d_Ma_compute_85 : decode y_Ma_compute.2.1 85 = .ok (.bipush 16, 2) := dc9_16 (by decide +kernel)
theorem d_Ma_compute_87 : decode y_Ma_compute.2.1 87 = .ok (.idiv, 1) := dc9_108 (by decide +kernel)
theorem d_Ma_compute_88 : decode y_Ma_compute.2.1 88 = .ok (.iload_n 2, 1) := dc9_28 (by decide +kernel)
theorem d_Ma_compute_89 : decode y_Ma_compute.2.1 89 = .ok (.bipush 16, 2) := dc9_16 (by decide +kernel)
theorem d_Ma_compute_91 : decode y_Ma_compute.2.1 91 = .ok (.irem, 1) := dc9_112 (by decide +kernel)
theorem d_Ma_compute_92 : decode y_Ma_compute.2.1 92 = .ok (.invokevirtual 110, 3) := dc9_182 (by decide +kernel)
theorem d_Ma_compute_95 : decode y_Ma_compute.2.1 95 = .ok (.ireturn, 1) := dc9_172 (by decide +kernel)
theorem d_Ma_compute_96 : decode y_Ma_compute.2.1 96 = .ok (.aload_n 0, 1) := dc9_42 (by decide +kernel)
theorem d_Ma_compute_97 : decode y_Ma_compute.2.1 97 = .ok (.dup, 1) := dc9_89 (by decide +kernel)
theorem d_Ma_compute_98 : decode y_Ma_compute.2.1 98 = .ok (.getfield 52, 3) := dc9_180 (by decide +kernel)
theorem d_Ma_compute_101 : decode y_Ma_compute.2.1 101 = .ok (.iconst 1, 1) := dc9_4 (by decide +kernel)
theorem d_Ma_compute_102 : decode y_Ma_compute.2.1 102 = .ok (.isub, 1) := dc9_100 (by decide +kernel)
theorem d_Ma_compute_103 : decode y_Ma_compute.2.1 103 = .ok (.putfield 52, 3) := dc9_181 (by decide +kernel)
theorem d_Ma_compute_106 : decode y_Ma_compute.2.1 106 = .ok (.aload_n 0, 1) := dc9_42 (by decide +kernel)
theorem d_Ma_compute_107 : decode y_Ma_compute.2.1 107 = .ok (.getfield 18, 3) := dc9_180 (by decide +kernel)
theorem d_Ma_compute_110 : decode y_Ma_compute.2.1 110 = .ok (.aload_n 0, 1) := dc9_42 (by decide +kernel)
theorem d_Ma_compute_111 : decode y_Ma_compute.2.1 111 = .ok (.getfield 52, 3) := dc9_180 (by decide +kernel)
theorem d_Ma_compute_114 : decode y_Ma_compute.2.1 114 = .ok (.iconst 1, 1) := dc9_4 (by decide +kernel)
theorem d_Ma_compute_115 : decode y_Ma_compute.2.1 115 = .ok (.isub, 1) := dc9_100 (by decide +kernel)
theorem d_Ma_compute_116 : decode y_Ma_compute.2.1 116 = .ok (.iaload, 1) := dc9_46 (by decide +kernel)
theorem d_Ma_compute_117 : decode y_Ma_compute.2.1 117 = .ok (.i2l, 1) := dc9_133 (by decide +kernel)
theorem d_Ma_compute_118 : decode y_Ma_compute.2.1 118 = .ok (.lstore_n 3, 1) := dc9_66 (by decide +kernel)
theorem d_Ma_compute_119 : decode y_Ma_compute.2.1 119 = .ok (.aload_n 0, 1) := dc9_42 (by decide +kernel)
theorem d_Ma_compute_120 : decode y_Ma_compute.2.1 120 = .ok (.getfield 21, 3) := dc9_180 (by decide +kernel)
theorem d_Ma_compute_123 : decode y_Ma_compute.2.1 123 = .ok (.aload_n 0, 1) := dc9_42 (by decide +kernel)
theorem d_Ma_compute_124 : decode y_Ma_compute.2.1 124 = .ok (.getfield 52, 3) := dc9_180 (by decide +kernel)
theorem d_Ma_compute_127 : decode y_Ma_compute.2.1 127 = .ok (.iconst 1, 1) := dc9_4 (by decide +kernel)
theorem d_Ma_compute_128 : decode y_Ma_compute.2.1 128 = .ok (.isub, 1) := dc9_100 (by decide +kernel)
theorem d_Ma_compute_129 : decode y_Ma_compute.2.1 129 = .ok (.iaload, 1) := dc9_46 (by decide +kernel)
theorem d_Ma_compute_130 : decode y_Ma_compute.2.1 130 = .ok (.i2l, 1) := dc9_133 (by decide +kernel)
theorem d_Ma_compute_131 : decode y_Ma_compute.2.1 131 = .ok (.lstore 5, 2) := dc9_55 (by decide +kernel)
theorem d_Ma_compute_133 : decode y_Ma_compute.2.1 133 = .ok (.aload_n 0, 1) := dc9_42 (by decide +kernel)
theorem d_Ma_compute_134 : decode y_Ma_compute.2.1 134 = .ok (.getfield 18, 3) := dc9_180 (by decide +kernel)
theorem d_Ma_compute_137 : decode y_Ma_compute.2.1 137 = .ok (.aload_n 0, 1) := dc9_42 (by decide +kernel)
theorem d_Ma_compute_138 : decode y_Ma_compute.2.1 138 = .ok (.getfield 52, 3) := dc9_180 (by decide +kernel)
theorem d_Ma_compute_141 : decode y_Ma_compute.2.1 141 = .ok (.iaload, 1) := dc9_46 (by decide +kernel)
theorem d_Ma_compute_142 : decode y_Ma_compute.2.1 142 = .ok (.i2l, 1) := dc9_133 (by decide +kernel)
theorem d_Ma_compute_143 : decode y_Ma_compute.2.1 143 = .ok (.lstore 7, 2) := dc9_55 (by decide +kernel)
theorem d_Ma_compute_145 : decode y_Ma_compute.2.1 145 = .ok (.aload_n 0, 1) := dc9_42 (by decide +kernel)
theorem d_Ma_compute_146 : decode y_Ma_compute.2.1 146 = .ok (.getfield 21, 3) := dc9_180 (by decide +kernel)
theorem d_Ma_compute_149 : decode y_Ma_compute.2.1 149 = .ok (.aload_n 0, 1) := dc9_42 (by decide +kernel)
theorem d_Ma_compute_150 : decode y_Ma_compute.2.1 150 = .ok (.getfield 52, 3) := dc9_180 (by decide +kernel)
theorem d_Ma_compute_153 : decode y_Ma_compute.2.1 153 = .ok (.iaload, 1) := dc9_46 (by decide +kernel)
theorem d_Ma_compute_154 : decode y_Ma_compute.2.1 154 = .ok (.i2l, 1) := dc9_133 (by decide +kernel)
theorem d_Ma_compute_155 : decode y_Ma_compute.2.1 155 = .ok (.lstore 9, 2) := dc9_55 (by decide +kernel)
theorem d_Ma_compute_157 : decode y_Ma_compute.2.1 157 = .ok (.iload_n 1, 1) := dc9_27 (by decide +kernel)
theorem d_Ma_compute_158 : decode y_Ma_compute.2.1 158 = .ok (.tableswitch 199 25 29 #[34, 55, 76, 91, 147], 34) := by decide +kernel
theorem d_Ma_compute_192 : decode y_Ma_compute.2.1 192 = .ok (.aload_n 0, 1) := dc9_42 (by decide +kernel)
theorem d_Ma_compute_193 : decode y_Ma_compute.2.1 193 = .ok (.lload_n 3, 1) := dc9_33 (by decide +kernel)
theorem d_Ma_compute_194 : decode y_Ma_compute.2.1 194 = .ok (.lload 9, 2) := dc9_22 (by decide +kernel)
theorem d_Ma_compute_196 : decode y_Ma_compute.2.1 196 = .ok (.lmul, 1) := dc9_105 (by decide +kernel)
theorem d_Ma_compute_197 : decode y_Ma_compute.2.1 197 = .ok (.lload 7, 2) := dc9_22 (by decide +kernel)
theorem d_Ma_compute_199 : decode y_Ma_compute.2.1 199 = .ok (.lload 5, 2) := dc9_22 (by decide +kernel)
theorem d_Ma_compute_201 : decode y_Ma_compute.2.1 201 = .ok (.lmul, 1) := dc9_105 (by decide +kernel)
theorem d_Ma_compute_202 : decode y_Ma_compute.2.1 202 = .ok (.ladd, 1) := dc9_97 (by decide +kernel)
theorem d_Ma_compute_203 : decode y_Ma_compute.2.1 203 = .ok (.lload 5, 2) := dc9_22 (by decide +kernel)
theorem d_Ma_compute_205 : decode y_Ma_compute.2.1 205 = .ok (.lload 9, 2) := dc9_22 (by decide +kernel)
theorem d_Ma_compute_207 : decode y_Ma_compute.2.1 207 = .ok (.lmul, 1) := dc9_105 (by decide +kernel)
theorem d_Ma_compute_208 : decode y_Ma_compute.2.1 208 = .ok (.iload_n 2, 1) := dc9_28 (by decide +kernel)
theorem d_Ma_compute_209 : decode y_Ma_compute.2.1 209 = .ok (.invokevirtual 113, 3) := dc9_182 (by decide +kernel)
theorem d_Ma_compute_212 : decode y_Ma_compute.2.1 212 = .ok (.ireturn, 1) := dc9_172 (by decide +kernel)
theorem d_Ma_compute_213 : decode y_Ma_compute.2.1 213 = .ok (.aload_n 0, 1) := dc9_42 (by decide +kernel)
theorem d_Ma_compute_214 : decode y_Ma_compute.2.1 214 = .ok (.lload_n 3, 1) := dc9_33 (by decide +kernel)
theorem d_Ma_compute_215 : decode y_Ma_compute.2.1 215 = .ok (.lload 9, 2) := dc9_22 (by decide +kernel)
theorem d_Ma_compute_217 : decode y_Ma_compute.2.1 217 = .ok (.lmul, 1) := dc9_105 (by decide +kernel)
theorem d_Ma_compute_218 : decode y_Ma_compute.2.1 218 = .ok (.lload 7, 2) := dc9_22 (by decide +kernel)
theorem d_Ma_compute_220 : decode y_Ma_compute.2.1 220 = .ok (.lload 5, 2) := dc9_22 (by decide +kernel)
theorem d_Ma_compute_222 : decode y_Ma_compute.2.1 222 = .ok (.lmul, 1) := dc9_105 (by decide +kernel)
theorem d_Ma_compute_223 : decode y_Ma_compute.2.1 223 = .ok (.lsub, 1) := dc9_101 (by decide +kernel)
theorem d_Ma_compute_224 : decode y_Ma_compute.2.1 224 = .ok (.lload 5, 2) := dc9_22 (by decide +kernel)
theorem d_Ma_compute_226 : decode y_Ma_compute.2.1 226 = .ok (.lload 9, 2) := dc9_22 (by decide +kernel)
theorem d_Ma_compute_228 : decode y_Ma_compute.2.1 228 = .ok (.lmul, 1) := dc9_105 (by decide +kernel)
theorem d_Ma_compute_229 : decode y_Ma_compute.2.1 229 = .ok (.iload_n 2, 1) := dc9_28 (by decide +kernel)
theorem d_Ma_compute_230 : decode y_Ma_compute.2.1 230 = .ok (.invokevirtual 113, 3) := dc9_182 (by decide +kernel)
theorem d_Ma_compute_233 : decode y_Ma_compute.2.1 233 = .ok (.ireturn, 1) := dc9_172 (by decide +kernel)
theorem d_Ma_compute_234 : decode y_Ma_compute.2.1 234 = .ok (.aload_n 0, 1) := dc9_42 (by decide +kernel)
theorem d_Ma_compute_235 : decode y_Ma_compute.2.1 235 = .ok (.lload_n 3, 1) := dc9_33 (by decide +kernel)
theorem d_Ma_compute_236 : decode y_Ma_compute.2.1 236 = .ok (.lload 7, 2) := dc9_22 (by decide +kernel)
theorem d_Ma_compute_238 : decode y_Ma_compute.2.1 238 = .ok (.lmul, 1) := dc9_105 (by decide +kernel)
theorem d_Ma_compute_239 : decode y_Ma_compute.2.1 239 = .ok (.lload 5, 2) := dc9_22 (by decide +kernel)
theorem d_Ma_compute_241 : decode y_Ma_compute.2.1 241 = .ok (.lload 9, 2) := dc9_22 (by decide +kernel)
theorem d_Ma_compute_243 : decode y_Ma_compute.2.1 243 = .ok (.lmul, 1) := dc9_105 (by decide +kernel)
theorem d_Ma_compute_244 : decode y_Ma_compute.2.1 244 = .ok (.iload_n 2, 1) := dc9_28 (by decide +kernel)
theorem d_Ma_compute_245 : decode y_Ma_compute.2.1 245 = .ok (.invokevirtual 113, 3) := dc9_182 (by decide +kernel)
theorem d_Ma_compute_248 : decode y_Ma_compute.2.1 248 = .ok (.ireturn, 1) := dc9_172 (by decide +kernel)
theorem d_Ma_compute_249 : decode y_Ma_compute.2.1 249 = .ok (.lload 7, 2) := dc9_22 (by decide +kernel)
theorem d_Ma_compute_251 : decode y_Ma_compute.2.1 251 = .ok (.lconst 0, 1) := dc9_9 (by decide +kernel)
theorem d_Ma_compute_252 : decode y_Ma_compute.2.1 252 = .ok (.lcmp, 1) := dc9_148 (by decide +kernel)
theorem d_Ma_compute_253 : decode y_Ma_compute.2.1 253 = .ok (.ifCond .ne 11, 3) := dc9_154 (by decide +kernel)
theorem d_Ma_compute_256 : decode y_Ma_compute.2.1 256 = .ok (.aload_n 0, 1) := dc9_42 (by decide +kernel)
theorem d_Ma_compute_257 : decode y_Ma_compute.2.1 257 = .ok (.bipush 7, 2) := dc9_16 (by decide +kernel)
theorem d_Ma_compute_259 : decode y_Ma_compute.2.1 259 = .ok (.iload_n 2, 1) := dc9_28 (by decide +kernel)
theorem d_Ma_compute_264 : decode y_Ma_compute.2.1 264 = .ok (.lload 7, 2) := dc9_22 (by decide +kernel)
theorem d_Ma_compute_266 : decode y_Ma_compute.2.1 266 = .ok (.lconst 0, 1) := dc9_9 (by decide +kernel)
theorem d_Ma_compute_267 : decode y_Ma_compute.2.1 267 = .ok (.lcmp, 1) := dc9_148 (by decide +kernel)
theorem d_Ma_compute_268 : decode y_Ma_compute.2.1 268 = .ok (.ifCond .le 20, 3) := dc9_158 (by decide +kernel)
theorem d_Ma_compute_288 : decode y_Ma_compute.2.1 288 = .ok (.aload_n 0, 1) := dc9_42 (by decide +kernel)
theorem d_Ma_compute_289 : decode y_Ma_compute.2.1 289 = .ok (.lload_n 3, 1) := dc9_33 (by decide +kernel)
theorem d_Ma_compute_290 : decode y_Ma_compute.2.1 290 = .ok (.lneg, 1) := dc9_117 (by decide +kernel)
theorem d_Ma_compute_291 : decode y_Ma_compute.2.1 291 = .ok (.lload 9, 2) := dc9_22 (by decide +kernel)
theorem d_Ma_compute_293 : decode y_Ma_compute.2.1 293 = .ok (.lmul, 1) := dc9_105 (by decide +kernel)
theorem d_Ma_compute_294 : decode y_Ma_compute.2.1 294 = .ok (.lload 5, 2) := dc9_22 (by decide +kernel)
theorem d_Ma_compute_296 : decode y_Ma_compute.2.1 296 = .ok (.lneg, 1) := dc9_117 (by decide +kernel)
theorem d_Ma_compute_297 : decode y_Ma_compute.2.1 297 = .ok (.lload 7, 2) := dc9_22 (by decide +kernel)
theorem d_Ma_compute_299 : decode y_Ma_compute.2.1 299 = .ok (.lmul, 1) := dc9_105 (by decide +kernel)
theorem d_Ma_compute_300 : decode y_Ma_compute.2.1 300 = .ok (.iload_n 2, 1) := dc9_28 (by decide +kernel)
theorem d_Ma_compute_271 : decode y_Ma_compute.2.1 271 = .ok (.aload_n 0, 1) := dc9_42 (by decide +kernel)
theorem d_Ma_compute_272 : decode y_Ma_compute.2.1 272 = .ok (.lload_n 3, 1) := dc9_33 (by decide +kernel)
theorem d_Ma_compute_273 : decode y_Ma_compute.2.1 273 = .ok (.lload 9, 2) := dc9_22 (by decide +kernel)
theorem d_Ma_compute_275 : decode y_Ma_compute.2.1 275 = .ok (.lmul, 1) := dc9_105 (by decide +kernel)
theorem d_Ma_compute_276 : decode y_Ma_compute.2.1 276 = .ok (.lload 5, 2) := dc9_22 (by decide +kernel)
theorem d_Ma_compute_278 : decode y_Ma_compute.2.1 278 = .ok (.lload 7, 2) := dc9_22 (by decide +kernel)
theorem d_Ma_compute_280 : decode y_Ma_compute.2.1 280 = .ok (.lmul, 1) := dc9_105 (by decide +kernel)
theorem d_Ma_compute_281 : decode y_Ma_compute.2.1 281 = .ok (.iload_n 2, 1) := dc9_28 (by decide +kernel)
theorem d_Ma_compute_260 : decode y_Ma_compute.2.1 260 = .ok (.invokevirtual 92, 3) := dc9_182 (by decide +kernel)
theorem d_Ma_compute_263 : decode y_Ma_compute.2.1 263 = .ok (.ireturn, 1) := dc9_172 (by decide +kernel)
theorem d_Ma_compute_301 : decode y_Ma_compute.2.1 301 = .ok (.invokevirtual 113, 3) := dc9_182 (by decide +kernel)
theorem d_Ma_compute_282 : decode y_Ma_compute.2.1 282 = .ok (.invokevirtual 113, 3) := dc9_182 (by decide +kernel)
theorem d_Ma_compute_285 : decode y_Ma_compute.2.1 285 = .ok (.goto 19, 3) := dc9_167 (by decide +kernel)
theorem d_Ma_compute_305 : decode y_Ma_compute.2.1 305 = .ok (.lload 5, 2) := dc9_22 (by decide +kernel)
theorem d_Ma_compute_307 : decode y_Ma_compute.2.1 307 = .ok (.lconst 1, 1) := dc9_10 (by decide +kernel)
theorem d_Ma_compute_308 : decode y_Ma_compute.2.1 308 = .ok (.lcmp, 1) := dc9_148 (by decide +kernel)
theorem d_Ma_compute_309 : decode y_Ma_compute.2.1 309 = .ok (.ifCond .ne 10, 3) := dc9_154 (by decide +kernel)
theorem d_Ma_compute_312 : decode y_Ma_compute.2.1 312 = .ok (.lload 9, 2) := dc9_22 (by decide +kernel)
theorem d_Ma_compute_314 : decode y_Ma_compute.2.1 314 = .ok (.lconst 1, 1) := dc9_10 (by decide +kernel)
theorem d_Ma_compute_315 : decode y_Ma_compute.2.1 315 = .ok (.lcmp, 1) := dc9_148 (by decide +kernel)
theorem d_Ma_compute_316 : decode y_Ma_compute.2.1 316 = .ok (.ifCond .eq 11, 3) := dc9_153 (by decide +kernel)
theorem d_Ma_compute_327 : decode y_Ma_compute.2.1 327 = .ok (.lload 7, 2) := dc9_22 (by decide +kernel)
theorem d_Ma_compute_329 : decode y_Ma_compute.2.1 329 = .ok (.lconst 0, 1) := dc9_9 (by decide +kernel)
theorem d_Ma_compute_330 : decode y_Ma_compute.2.1 330 = .ok (.lcmp, 1) := dc9_148 (by decide +kernel)
theorem d_Ma_compute_331 : decode y_Ma_compute.2.1 331 = .ok (.ifCond .gt 13, 3) := dc9_157 (by decide +kernel)
theorem d_Ma_compute_344 : decode y_Ma_compute.2.1 344 = .ok (.aload_n 0, 1) := dc9_42 (by decide +kernel)
theorem d_Ma_compute_345 : decode y_Ma_compute.2.1 345 = .ok (.lload_n 3, 1) := dc9_33 (by decide +kernel)
theorem d_Ma_compute_346 : decode y_Ma_compute.2.1 346 = .ok (.lload 7, 2) := dc9_22 (by decide +kernel)
theorem d_Ma_compute_334 : decode y_Ma_compute.2.1 334 = .ok (.aload_n 0, 1) := dc9_42 (by decide +kernel)
theorem d_Ma_compute_335 : decode y_Ma_compute.2.1 335 = .ok (.bipush 7, 2) := dc9_16 (by decide +kernel)
theorem d_Ma_compute_337 : decode y_Ma_compute.2.1 337 = .ok (.iload_n 2, 1) := dc9_28 (by decide +kernel)
theorem d_Ma_compute_348 : decode y_Ma_compute.2.1 348 = .ok (.invokestatic 117, 3) := dc9_184 (by decide +kernel)
theorem d_Ma_compute_351 : decode y_Ma_compute.2.1 351 = .ok (.lconst 1, 1) := dc9_10 (by decide +kernel)
theorem d_Ma_compute_352 : decode y_Ma_compute.2.1 352 = .ok (.iload_n 2, 1) := dc9_28 (by decide +kernel)
theorem d_Ma_compute_353 : decode y_Ma_compute.2.1 353 = .ok (.invokevirtual 113, 3) := dc9_182 (by decide +kernel)
theorem d_Ma_compute_338 : decode y_Ma_compute.2.1 338 = .ok (.invokevirtual 92, 3) := dc9_182 (by decide +kernel)
theorem d_Ma_compute_341 : decode y_Ma_compute.2.1 341 = .ok (.goto 15, 3) := dc9_167 (by decide +kernel)
theorem d_Ma_compute_319 : decode y_Ma_compute.2.1 319 = .ok (.aload_n 0, 1) := dc9_42 (by decide +kernel)
theorem d_Ma_compute_320 : decode y_Ma_compute.2.1 320 = .ok (.bipush 8, 2) := dc9_16 (by decide +kernel)
theorem d_Ma_compute_322 : decode y_Ma_compute.2.1 322 = .ok (.iload_n 2, 1) := dc9_28 (by decide +kernel)
theorem d_Ma_compute_323 : decode y_Ma_compute.2.1 323 = .ok (.invokevirtual 92, 3) := dc9_182 (by decide +kernel)
theorem d_Ma_compute_326 : decode y_Ma_compute.2.1 326 = .ok (.ireturn, 1) := dc9_172 (by decide +kernel)
theorem d_Ma_compute_357 : decode y_Ma_compute.2.1 357 = .ok (.aload_n 0, 1) := dc9_42 (by decide +kernel)
theorem d_Ma_compute_358 : decode y_Ma_compute.2.1 358 = .ok (.iload_n 1, 1) := dc9_27 (by decide +kernel)
theorem d_Ma_compute_359 : decode y_Ma_compute.2.1 359 = .ok (.lload_n 3, 1) := dc9_33 (by decide +kernel)
theorem d_Ma_compute_360 : decode y_Ma_compute.2.1 360 = .ok (.lload 9, 2) := dc9_22 (by decide +kernel)
theorem d_Ma_compute_362 : decode y_Ma_compute.2.1 362 = .ok (.lmul, 1) := dc9_105 (by decide +kernel)
theorem d_Ma_compute_363 : decode y_Ma_compute.2.1 363 = .ok (.lload 7, 2) := dc9_22 (by decide +kernel)
theorem d_Ma_compute_365 : decode y_Ma_compute.2.1 365 = .ok (.lload 5, 2) := dc9_22 (by decide +kernel)
theorem d_Ma_compute_367 : decode y_Ma_compute.2.1 367 = .ok (.lmul, 1) := dc9_105 (by decide +kernel)
theorem d_Ma_compute_368 : decode y_Ma_compute.2.1 368 = .ok (.invokestatic 123, 3) := dc9_184 (by decide +kernel)
theorem d_Ma_compute_371 : decode y_Ma_compute.2.1 371 = .ok (.invokevirtual 129, 3) := dc9_182 (by decide +kernel)
theorem d_Ma_compute_374 : decode y_Ma_compute.2.1 374 = .ok (.ireturn, 1) := dc9_172 (by decide +kernel)
theorem d_Ma_compute_304 : decode y_Ma_compute.2.1 304 = .ok (.ireturn, 1) := dc9_172 (by decide +kernel)
theorem d_Ma_compute_356 : decode y_Ma_compute.2.1 356 = .ok (.ireturn, 1) := dc9_172 (by decide +kernel)
def h_Ma_compute_304 (G : mG) (d : Nat) (k0 : Int) (M : mM) (Q : Int → mM → Prop) : Prop := mWm G y_Ma_compute (d + 1) 304 [vd, vd, vd, vd, vd, vd, vd, vd, vd, vd, vd] [vi k0] M (fun r9 M9 => ∃ x9, r9 = some (vi x9) ∧ Q x9 M9)
def h_Ma_compute_356 (G : mG) (d : Nat) (k0 : Int) (M : mM) (Q : Int → mM → Prop) : Prop := mWm G y_Ma_compute (d + 1) 356 [vd, vd, vd, vd, vd, vd, vd, vd, vd, vd, vd] [vi k0] M (fun r9 M9 => ∃ x9, r9 = some (vi x9) ∧ Q x9 M9)
theorem k_Ma_compute_304 {G : mG} {d : Nat} {k0 : Int} {M : mM} {Q : Int → mM → Prop} (hO : mOk M) (hi_k0 : i32 k0)
    (h : (k0 = 0 ∨ k0 = 1) ∧ Q k0 M) :
    h_Ma_compute_304 G d k0 M Q := by
  unfold h_Ma_compute_304
  obtain ⟨h102, h⟩ := h
  refine wm_ireturn d_Ma_compute_304 rfl (m_nb h102) ?_
  exact ⟨_, rfl, h⟩
theorem k_Ma_compute_356 {G : mG} {d : Nat} {k0 : Int} {M : mM} {Q : Int → mM → Prop} (hO : mOk M) (hi_k0 : i32 k0)
    (h : (k0 = 0 ∨ k0 = 1) ∧ Q k0 M) :
    h_Ma_compute_356 G d k0 M Q := by
  unfold h_Ma_compute_356
  obtain ⟨h103, h⟩ := h
  refine wm_ireturn d_Ma_compute_356 rfl (m_nb h103) ?_
  exact ⟨_, rfl, h⟩
theorem d_Ma_store_0 : decode y_Ma_store.2.1 0 = .ok (.aload_n 0, 1) := dc9_42 (by decide +kernel)
theorem d_Ma_store_1 : decode y_Ma_store.2.1 1 = .ok (.dup, 1) := dc9_89 (by decide +kernel)
theorem d_Ma_store_2 : decode y_Ma_store.2.1 2 = .ok (.getfield 52, 3) := dc9_180 (by decide +kernel)
theorem d_Ma_store_5 : decode y_Ma_store.2.1 5 = .ok (.iconst 1, 1) := dc9_4 (by decide +kernel)
theorem d_Ma_store_6 : decode y_Ma_store.2.1 6 = .ok (.isub, 1) := dc9_100 (by decide +kernel)
theorem d_Ma_store_7 : decode y_Ma_store.2.1 7 = .ok (.putfield 52, 3) := dc9_181 (by decide +kernel)
theorem d_Ma_store_10 : decode y_Ma_store.2.1 10 = .ok (.aload_n 0, 1) := dc9_42 (by decide +kernel)
theorem d_Ma_store_11 : decode y_Ma_store.2.1 11 = .ok (.getfield 21, 3) := dc9_180 (by decide +kernel)
theorem d_Ma_store_14 : decode y_Ma_store.2.1 14 = .ok (.aload_n 0, 1) := dc9_42 (by decide +kernel)
theorem d_Ma_store_15 : decode y_Ma_store.2.1 15 = .ok (.getfield 52, 3) := dc9_180 (by decide +kernel)
theorem d_Ma_store_18 : decode y_Ma_store.2.1 18 = .ok (.iaload, 1) := dc9_46 (by decide +kernel)
theorem d_Ma_store_19 : decode y_Ma_store.2.1 19 = .ok (.iconst 1, 1) := dc9_4 (by decide +kernel)
theorem d_Ma_store_20 : decode y_Ma_store.2.1 20 = .ok (.if_icmp .eq 11, 3) := dc9_159 (by decide +kernel)
theorem d_Ma_store_31 : decode y_Ma_store.2.1 31 = .ok (.aload_n 0, 1) := dc9_42 (by decide +kernel)
theorem d_Ma_store_32 : decode y_Ma_store.2.1 32 = .ok (.getfield 18, 3) := dc9_180 (by decide +kernel)
theorem d_Ma_store_35 : decode y_Ma_store.2.1 35 = .ok (.aload_n 0, 1) := dc9_42 (by decide +kernel)
theorem d_Ma_store_36 : decode y_Ma_store.2.1 36 = .ok (.getfield 52, 3) := dc9_180 (by decide +kernel)
theorem d_Ma_store_39 : decode y_Ma_store.2.1 39 = .ok (.iaload, 1) := dc9_46 (by decide +kernel)
theorem d_Ma_store_40 : decode y_Ma_store.2.1 40 = .ok (.aload_n 0, 1) := dc9_42 (by decide +kernel)
theorem d_Ma_store_41 : decode y_Ma_store.2.1 41 = .ok (.getfield 59, 3) := dc9_180 (by decide +kernel)
theorem d_Ma_store_44 : decode y_Ma_store.2.1 44 = .ok (.getfield 132, 3) := dc9_180 (by decide +kernel)
theorem d_Ma_store_47 : decode y_Ma_store.2.1 47 = .ok (.iload_n 2, 1) := dc9_28 (by decide +kernel)
theorem d_Ma_store_48 : decode y_Ma_store.2.1 48 = .ok (.iaload, 1) := dc9_46 (by decide +kernel)
theorem d_Ma_store_23 : decode y_Ma_store.2.1 23 = .ok (.aload_n 0, 1) := dc9_42 (by decide +kernel)
theorem d_Ma_store_24 : decode y_Ma_store.2.1 24 = .ok (.bipush 8, 2) := dc9_16 (by decide +kernel)
theorem d_Ma_store_26 : decode y_Ma_store.2.1 26 = .ok (.iload_n 1, 1) := dc9_27 (by decide +kernel)
theorem d_Ma_store_49 : decode y_Ma_store.2.1 49 = .ok (.if_icmp .lt 24, 3) := dc9_161 (by decide +kernel)
theorem d_Ma_store_52 : decode y_Ma_store.2.1 52 = .ok (.aload_n 0, 1) := dc9_42 (by decide +kernel)
theorem d_Ma_store_53 : decode y_Ma_store.2.1 53 = .ok (.getfield 18, 3) := dc9_180 (by decide +kernel)
theorem d_Ma_store_56 : decode y_Ma_store.2.1 56 = .ok (.aload_n 0, 1) := dc9_42 (by decide +kernel)
theorem d_Ma_store_57 : decode y_Ma_store.2.1 57 = .ok (.getfield 52, 3) := dc9_180 (by decide +kernel)
theorem d_Ma_store_60 : decode y_Ma_store.2.1 60 = .ok (.iaload, 1) := dc9_46 (by decide +kernel)
theorem d_Ma_store_61 : decode y_Ma_store.2.1 61 = .ok (.aload_n 0, 1) := dc9_42 (by decide +kernel)
theorem d_Ma_store_62 : decode y_Ma_store.2.1 62 = .ok (.getfield 59, 3) := dc9_180 (by decide +kernel)
theorem d_Ma_store_65 : decode y_Ma_store.2.1 65 = .ok (.getfield 135, 3) := dc9_180 (by decide +kernel)
theorem d_Ma_store_68 : decode y_Ma_store.2.1 68 = .ok (.iload_n 2, 1) := dc9_28 (by decide +kernel)
theorem d_Ma_store_69 : decode y_Ma_store.2.1 69 = .ok (.iaload, 1) := dc9_46 (by decide +kernel)
theorem d_Ma_store_70 : decode y_Ma_store.2.1 70 = .ok (.if_icmp .le 11, 3) := dc9_164 (by decide +kernel)
theorem d_Ma_store_81 : decode y_Ma_store.2.1 81 = .ok (.aload_n 0, 1) := dc9_42 (by decide +kernel)
theorem d_Ma_store_82 : decode y_Ma_store.2.1 82 = .ok (.getfield 15, 3) := dc9_180 (by decide +kernel)
theorem d_Ma_store_85 : decode y_Ma_store.2.1 85 = .ok (.iload_n 2, 1) := dc9_28 (by decide +kernel)
theorem d_Ma_store_86 : decode y_Ma_store.2.1 86 = .ok (.aload_n 0, 1) := dc9_42 (by decide +kernel)
theorem d_Ma_store_87 : decode y_Ma_store.2.1 87 = .ok (.getfield 18, 3) := dc9_180 (by decide +kernel)
theorem d_Ma_store_90 : decode y_Ma_store.2.1 90 = .ok (.aload_n 0, 1) := dc9_42 (by decide +kernel)
theorem d_Ma_store_91 : decode y_Ma_store.2.1 91 = .ok (.getfield 52, 3) := dc9_180 (by decide +kernel)
theorem d_Ma_store_94 : decode y_Ma_store.2.1 94 = .ok (.iaload, 1) := dc9_46 (by decide +kernel)
theorem d_Ma_store_95 : decode y_Ma_store.2.1 95 = .ok (.iastore, 1) := dc9_79 (by decide +kernel)
theorem d_Ma_store_96 : decode y_Ma_store.2.1 96 = .ok (.iconst 1, 1) := dc9_4 (by decide +kernel)
theorem d_Ma_store_97 : decode y_Ma_store.2.1 97 = .ok (.ireturn, 1) := dc9_172 (by decide +kernel)
theorem d_Ma_store_73 : decode y_Ma_store.2.1 73 = .ok (.aload_n 0, 1) := dc9_42 (by decide +kernel)
theorem d_Ma_store_74 : decode y_Ma_store.2.1 74 = .ok (.bipush 12, 2) := dc9_16 (by decide +kernel)
theorem d_Ma_store_76 : decode y_Ma_store.2.1 76 = .ok (.iload_n 1, 1) := dc9_27 (by decide +kernel)
theorem d_Ma_store_77 : decode y_Ma_store.2.1 77 = .ok (.invokevirtual 92, 3) := dc9_182 (by decide +kernel)
theorem d_Ma_store_80 : decode y_Ma_store.2.1 80 = .ok (.ireturn, 1) := dc9_172 (by decide +kernel)
theorem d_Ma_store_27 : decode y_Ma_store.2.1 27 = .ok (.invokevirtual 92, 3) := dc9_182 (by decide +kernel)
theorem d_Ma_store_30 : decode y_Ma_store.2.1 30 = .ok (.ireturn, 1) := dc9_172 (by decide +kernel)
theorem k_Ma_store {G : mG} {d : Nat} {a0 : Nat} {l1 : Int} {l2 : Int} {M : mM} {Q : Int → mM → Prop} (hO : mOk M) (hi_l1 : i32 l1) (hi_l2 : i32 l2)
    (h : mK M a0 = 5 ∧ i32 ((mI M a0 8) - 1) ∧ ∀ M3, M3 = mUI M a0 8 ((mI M a0 8) - 1) → mK M3 (mR M3 a0 7) = 30 ∧ ((0 : Int) ≤ mI M3 a0 8 ∧ mI M3 a0 8 < (mN M3 (mR M3 a0 7) : Int)) ∧ ((mI M3 (mR M3 a0 7) (Int.toNat (mI M3 a0 8)) = 1) → (mK M3 (mR M3 a0 6) = 30 ∧ ((0 : Int) ≤ mI M3 a0 8 ∧ mI M3 a0 8 < (mN M3 (mR M3 a0 6) : Int)) ∧ mK M3 (mR M3 a0 0) = 6 ∧ mK M3 (mR M3 (mR M3 a0 0) 4) = 30 ∧ ((0 : Int) ≤ l2 ∧ l2 < (mN M3 (mR M3 (mR M3 a0 0) 4) : Int)) ∧ (¬ (mI M3 (mR M3 a0 6) (Int.toNat (mI M3 a0 8)) < mI M3 (mR M3 (mR M3 a0 0) 4) (Int.toNat l2)) → (((0 : Int) ≤ mI M3 a0 8 ∧ mI M3 a0 8 < (mN M3 (mR M3 a0 6) : Int)) ∧ mK M3 (mR M3 (mR M3 a0 0) 5) = 30 ∧ ((0 : Int) ≤ l2 ∧ l2 < (mN M3 (mR M3 (mR M3 a0 0) 5) : Int)))) ∧ (((mI M3 (mR M3 a0 6) (Int.toNat (mI M3 a0 8)) < mI M3 (mR M3 (mR M3 a0 0) 4) (Int.toNat l2)) ∨ (¬ (mI M3 (mR M3 a0 6) (Int.toNat (mI M3 a0 8)) ≤ mI M3 (mR M3 (mR M3 a0 0) 5) (Int.toNat l2)))) → (Ci G y_Ma_stop d [vr a0, vi 12, vi l1] M3 (fun x38 M37 => i32 x38 ∧ mOk M37 ∧ ((x38 = 0 ∨ x38 = 1) ∧ Q x38 M37)))) ∧ (¬ ((mI M3 (mR M3 a0 6) (Int.toNat (mI M3 a0 8)) < mI M3 (mR M3 (mR M3 a0 0) 4) (Int.toNat l2)) ∨ (¬ (mI M3 (mR M3 a0 6) (Int.toNat (mI M3 a0 8)) ≤ mI M3 (mR M3 (mR M3 a0 0) 5) (Int.toNat l2)))) → (((0 : Int) ≤ mI M3 a0 8 ∧ mI M3 a0 8 < (mN M3 (mR M3 a0 6) : Int)) ∧ mK M3 (mR M3 a0 5) = 30 ∧ ((0 : Int) ≤ l2 ∧ l2 < (mN M3 (mR M3 a0 5) : Int)) ∧ ∀ M45, M45 = mUI M3 (mR M3 a0 5) (Int.toNat l2) (mI M3 (mR M3 a0 6) (Int.toNat (mI M3 a0 8))) → Q 1 M45)))) ∧ (¬ (mI M3 (mR M3 a0 7) (Int.toNat (mI M3 a0 8)) = 1) → (Ci G y_Ma_stop d [vr a0, vi 8, vi l1] M3 (fun x51 M50 => i32 x51 ∧ mOk M50 ∧ ((x51 = 0 ∨ x51 = 1) ∧ Q x51 M50))))) :
    Ci G y_Ma_store (d + 1) [vr a0, vi l1, vi l2] M Q := by
  refine wm_open (y := y_Ma_store) rfl (Nat.le_of_ble_eq_true rfl) (L := [vr a0, vi l1, vi l2]) rfl ?_
  obtain ⟨h1, h⟩ := h
  obtain ⟨h2, h⟩ := h
  obtain ⟨M3, e4⟩ : ∃ M3, M3 = mUI M a0 8 ((mI M a0 8) - 1) := ⟨_, rfl⟩
  replace h := h M3 e4
  obtain ⟨h5, h⟩ := h
  obtain ⟨h6, h⟩ := h
  refine wm_aload_n d_Ma_store_0 rfl rfl ?_
  refine wm_dup d_Ma_store_1 rfl ?_
  refine gf_Ma_52 rfl d_Ma_store_2 h1 ?_
  refine wm_iconst d_Ma_store_5 ?_
  refine wm_isub d_Ma_store_6 ?_
  have hOM3 : mOk M3 := by rw [e4]; exact mOk_UI hO h2
  refine pf_Ma_52 rfl d_Ma_store_7 h1 h2 e4 ?_
  refine wm_aload_n d_Ma_store_10 rfl rfl ?_
  refine gf_Ma_21 rfl d_Ma_store_11 (by rw [e4]; exact h1) ?_
  refine wm_aload_n d_Ma_store_14 rfl rfl ?_
  refine gf_Ma_52 rfl d_Ma_store_15 (by rw [e4]; exact h1) ?_
  refine wm_iald d_Ma_store_18 h5 h6 ?_
  refine wm_iconst d_Ma_store_19 ?_
  refine wm_icmp_eq (tgt := 31) d_Ma_store_20 rfl (hOM3 _ _).1 ⟨by decide, by decide⟩ (fun c21 => ?_) (fun c21 => ?_)
  · replace h := h.1 c21
    obtain ⟨h22, h⟩ := h
    obtain ⟨h23, h⟩ := h
    obtain ⟨h24, h⟩ := h
    obtain ⟨h25, h⟩ := h
    obtain ⟨h26, h⟩ := h
    refine wm_aload_n d_Ma_store_31 rfl rfl ?_
    refine gf_Ma_18 rfl d_Ma_store_32 (by rw [e4]; exact h1) ?_
    refine wm_aload_n d_Ma_store_35 rfl rfl ?_
    refine gf_Ma_52 rfl d_Ma_store_36 (by rw [e4]; exact h1) ?_
    refine wm_iald d_Ma_store_39 h22 h23 ?_
    refine wm_aload_n d_Ma_store_40 rfl rfl ?_
    refine gf_Ma_59 rfl d_Ma_store_41 (by rw [e4]; exact h1) ?_
    refine gf_Ma_132 rfl d_Ma_store_44 h24 ?_
    refine wm_iload_n d_Ma_store_47 rfl rfl ?_
    refine wm_iald d_Ma_store_48 h25 h26 ?_
    obtain ⟨s35, h⟩ := h
    have hE0 : ((mI M3 (mR M3 a0 6) (Int.toNat (mI M3 a0 8)) < mI M3 (mR M3 (mR M3 a0 0) 4) (Int.toNat l2)) ∨ (¬ (mI M3 (mR M3 a0 6) (Int.toNat (mI M3 a0 8)) ≤ mI M3 (mR M3 (mR M3 a0 0) 5) (Int.toNat l2)))) → mWm G y_Ma_store (d + 1) 73 [vr a0, vi l1, vi l2] [] M3 (fun r9 M9 => ∃ x9, r9 = some (vi x9) ∧ Q x9 M9) := by
      intro q36
      have h := h.1 q36
      refine wm_aload_n d_Ma_store_73 rfl rfl ?_
      refine wm_bipush d_Ma_store_74 (by decide) ?_
      refine wm_iload_n d_Ma_store_76 rfl rfl ?_
      refine cf_Ma_92 rfl d_Ma_store_77 (by rw [e4]; exact h1) (Nat.le_of_ble_eq_true rfl) (Ci.mono h (fun x38 M37 h => ?_))
      obtain ⟨h39, hOM37, h⟩ := h
      obtain ⟨h40, h⟩ := h
      refine wm_ireturn d_Ma_store_80 rfl (m_nb h40) ?_
      exact ⟨_, rfl, h⟩
    have hE1 : ¬ ((mI M3 (mR M3 a0 6) (Int.toNat (mI M3 a0 8)) < mI M3 (mR M3 (mR M3 a0 0) 4) (Int.toNat l2)) ∨ (¬ (mI M3 (mR M3 a0 6) (Int.toNat (mI M3 a0 8)) ≤ mI M3 (mR M3 (mR M3 a0 0) 5) (Int.toNat l2)))) → mWm G y_Ma_store (d + 1) 81 [vr a0, vi l1, vi l2] [] M3 (fun r9 M9 => ∃ x9, r9 = some (vi x9) ∧ Q x9 M9) := by
      intro q41
      have h := h.2 q41
      obtain ⟨h42, h⟩ := h
      obtain ⟨h43, h⟩ := h
      obtain ⟨h44, h⟩ := h
      obtain ⟨M45, e46⟩ : ∃ M45, M45 = mUI M3 (mR M3 a0 5) (Int.toNat l2) (mI M3 (mR M3 a0 6) (Int.toNat (mI M3 a0 8))) := ⟨_, rfl⟩
      replace h := h M45 e46
      refine wm_aload_n d_Ma_store_81 rfl rfl ?_
      refine gf_Ma_15 rfl d_Ma_store_82 (by rw [e4]; exact h1) ?_
      refine wm_iload_n d_Ma_store_85 rfl rfl ?_
      refine wm_aload_n d_Ma_store_86 rfl rfl ?_
      refine gf_Ma_18 rfl d_Ma_store_87 (by rw [e4]; exact h1) ?_
      refine wm_aload_n d_Ma_store_90 rfl rfl ?_
      refine gf_Ma_52 rfl d_Ma_store_91 (by rw [e4]; exact h1) ?_
      refine wm_iald d_Ma_store_94 h22 h42 ?_
      have hOM45 : mOk M45 := by rw [e46]; exact mOk_UI hOM3 (hOM3 _ _).1
      refine wm_iastE d_Ma_store_95 h43 h44 (hOM3 _ _).1 e46 ?_
      refine wm_iconst d_Ma_store_96 ?_
      refine wm_ireturn d_Ma_store_97 rfl (m_nb (by decide)) ?_
      exact ⟨_, rfl, h⟩
    clear h
    have s47 := s35
    refine wm_icmp_lt (tgt := 73) d_Ma_store_49 rfl (hOM3 _ _).1 (hOM3 _ _).1 (fun c34 => ?_) (fun c34 => ?_)
    · exact hE0 (Or.inl c34)
    · have s47 := s47 c34
      obtain ⟨h27, h28, h29⟩ := s47
      refine wm_aload_n d_Ma_store_52 rfl rfl ?_
      refine gf_Ma_18 rfl d_Ma_store_53 (by rw [e4]; exact h1) ?_
      refine wm_aload_n d_Ma_store_56 rfl rfl ?_
      refine gf_Ma_52 rfl d_Ma_store_57 (by rw [e4]; exact h1) ?_
      refine wm_iald d_Ma_store_60 h22 h27 ?_
      refine wm_aload_n d_Ma_store_61 rfl rfl ?_
      refine gf_Ma_59 rfl d_Ma_store_62 (by rw [e4]; exact h1) ?_
      refine gf_Ma_135 rfl d_Ma_store_65 h24 ?_
      refine wm_iload_n d_Ma_store_68 rfl rfl ?_
      refine wm_iald d_Ma_store_69 h28 h29 ?_
      refine wm_icmp_le (tgt := 81) d_Ma_store_70 rfl (hOM3 _ _).1 (hOM3 _ _).1 (fun c33 => ?_) (fun c33 => ?_)
      · exact hE1 (fun z48 => Or.elim z48 c34 (fun z49 => z49 c33))
      · exact hE0 (Or.inr c33)
  · replace h := h.2 c21
    refine wm_aload_n d_Ma_store_23 rfl rfl ?_
    refine wm_bipush d_Ma_store_24 (by decide) ?_
    refine wm_iload_n d_Ma_store_26 rfl rfl ?_
    refine cf_Ma_92 rfl d_Ma_store_27 (by rw [e4]; exact h1) (Nat.le_of_ble_eq_true rfl) (Ci.mono h (fun x51 M50 h => ?_))
    obtain ⟨h52, hOM50, h⟩ := h
    obtain ⟨h53, h⟩ := h
    refine wm_ireturn d_Ma_store_30 rfl (m_nb h53) ?_
    exact ⟨_, rfl, h⟩
theorem d_Ma_settle_0 : decode y_Ma_settle.2.1 0 = .ok (.lload_n 1, 1) := dc9_31 (by decide +kernel)
theorem d_Ma_settle_1 : decode y_Ma_settle.2.1 1 = .ok (.lload_n 3, 1) := dc9_33 (by decide +kernel)
theorem d_Ma_settle_2 : decode y_Ma_settle.2.1 2 = .ok (.invokestatic 138, 3) := dc9_184 (by decide +kernel)
theorem d_Ma_settle_5 : decode y_Ma_settle.2.1 5 = .ok (.lstore 6, 2) := dc9_55 (by decide +kernel)
theorem d_Ma_settle_7 : decode y_Ma_settle.2.1 7 = .ok (.lload_n 1, 1) := dc9_31 (by decide +kernel)
theorem d_Ma_settle_8 : decode y_Ma_settle.2.1 8 = .ok (.lload 6, 2) := dc9_22 (by decide +kernel)
theorem d_Ma_settle_10 : decode y_Ma_settle.2.1 10 = .ok (.ldiv, 1) := dc9_109 (by decide +kernel)
theorem d_Ma_settle_11 : decode y_Ma_settle.2.1 11 = .ok (.lstore 8, 2) := dc9_55 (by decide +kernel)
theorem d_Ma_settle_13 : decode y_Ma_settle.2.1 13 = .ok (.lload_n 3, 1) := dc9_33 (by decide +kernel)
theorem d_Ma_settle_14 : decode y_Ma_settle.2.1 14 = .ok (.lload 6, 2) := dc9_22 (by decide +kernel)
theorem d_Ma_settle_16 : decode y_Ma_settle.2.1 16 = .ok (.ldiv, 1) := dc9_109 (by decide +kernel)
theorem d_Ma_settle_17 : decode y_Ma_settle.2.1 17 = .ok (.lstore 10, 2) := dc9_55 (by decide +kernel)
theorem d_Ma_settle_19 : decode y_Ma_settle.2.1 19 = .ok (.lload 8, 2) := dc9_22 (by decide +kernel)
theorem d_Ma_settle_21 : decode y_Ma_settle.2.1 21 = .ok (.ldc2_w 141, 3) := dc9_20 (by decide +kernel)
theorem d_Ma_settle_24 : decode y_Ma_settle.2.1 24 = .ok (.lcmp, 1) := dc9_148 (by decide +kernel)
theorem d_Ma_settle_25 : decode y_Ma_settle.2.1 25 = .ok (.ifCond .ge 21, 3) := dc9_156 (by decide +kernel)
theorem d_Ma_settle_28 : decode y_Ma_settle.2.1 28 = .ok (.lload 8, 2) := dc9_22 (by decide +kernel)
theorem d_Ma_settle_30 : decode y_Ma_settle.2.1 30 = .ok (.ldc2_w 143, 3) := dc9_20 (by decide +kernel)
theorem d_Ma_settle_33 : decode y_Ma_settle.2.1 33 = .ok (.lcmp, 1) := dc9_148 (by decide +kernel)
theorem d_Ma_settle_34 : decode y_Ma_settle.2.1 34 = .ok (.ifCond .le 12, 3) := dc9_158 (by decide +kernel)
theorem d_Ma_settle_37 : decode y_Ma_settle.2.1 37 = .ok (.lload 10, 2) := dc9_22 (by decide +kernel)
theorem d_Ma_settle_39 : decode y_Ma_settle.2.1 39 = .ok (.ldc2_w 141, 3) := dc9_20 (by decide +kernel)
theorem d_Ma_settle_42 : decode y_Ma_settle.2.1 42 = .ok (.lcmp, 1) := dc9_148 (by decide +kernel)
theorem d_Ma_settle_43 : decode y_Ma_settle.2.1 43 = .ok (.ifCond .lt 12, 3) := dc9_155 (by decide +kernel)
theorem d_Ma_settle_55 : decode y_Ma_settle.2.1 55 = .ok (.aload_n 0, 1) := dc9_42 (by decide +kernel)
theorem d_Ma_settle_56 : decode y_Ma_settle.2.1 56 = .ok (.getfield 18, 3) := dc9_180 (by decide +kernel)
theorem d_Ma_settle_59 : decode y_Ma_settle.2.1 59 = .ok (.aload_n 0, 1) := dc9_42 (by decide +kernel)
theorem d_Ma_settle_60 : decode y_Ma_settle.2.1 60 = .ok (.getfield 52, 3) := dc9_180 (by decide +kernel)
theorem d_Ma_settle_63 : decode y_Ma_settle.2.1 63 = .ok (.iconst 1, 1) := dc9_4 (by decide +kernel)
theorem d_Ma_settle_64 : decode y_Ma_settle.2.1 64 = .ok (.isub, 1) := dc9_100 (by decide +kernel)
theorem d_Ma_settle_65 : decode y_Ma_settle.2.1 65 = .ok (.lload 8, 2) := dc9_22 (by decide +kernel)
theorem d_Ma_settle_67 : decode y_Ma_settle.2.1 67 = .ok (.l2i, 1) := dc9_136 (by decide +kernel)
theorem d_Ma_settle_68 : decode y_Ma_settle.2.1 68 = .ok (.iastore, 1) := dc9_79 (by decide +kernel)
theorem d_Ma_settle_69 : decode y_Ma_settle.2.1 69 = .ok (.aload_n 0, 1) := dc9_42 (by decide +kernel)
theorem d_Ma_settle_70 : decode y_Ma_settle.2.1 70 = .ok (.getfield 21, 3) := dc9_180 (by decide +kernel)
theorem d_Ma_settle_73 : decode y_Ma_settle.2.1 73 = .ok (.aload_n 0, 1) := dc9_42 (by decide +kernel)
theorem d_Ma_settle_74 : decode y_Ma_settle.2.1 74 = .ok (.getfield 52, 3) := dc9_180 (by decide +kernel)
theorem d_Ma_settle_77 : decode y_Ma_settle.2.1 77 = .ok (.iconst 1, 1) := dc9_4 (by decide +kernel)
theorem d_Ma_settle_78 : decode y_Ma_settle.2.1 78 = .ok (.isub, 1) := dc9_100 (by decide +kernel)
theorem d_Ma_settle_79 : decode y_Ma_settle.2.1 79 = .ok (.lload 10, 2) := dc9_22 (by decide +kernel)
theorem d_Ma_settle_81 : decode y_Ma_settle.2.1 81 = .ok (.l2i, 1) := dc9_136 (by decide +kernel)
theorem d_Ma_settle_82 : decode y_Ma_settle.2.1 82 = .ok (.iastore, 1) := dc9_79 (by decide +kernel)
theorem d_Ma_settle_46 : decode y_Ma_settle.2.1 46 = .ok (.aload_n 0, 1) := dc9_42 (by decide +kernel)
theorem d_Ma_settle_47 : decode y_Ma_settle.2.1 47 = .ok (.bipush 6, 2) := dc9_16 (by decide +kernel)
theorem d_Ma_settle_49 : decode y_Ma_settle.2.1 49 = .ok (.iload 5, 2) := dc9_21 (by decide +kernel)
theorem d_Ma_settle_51 : decode y_Ma_settle.2.1 51 = .ok (.invokevirtual 92, 3) := dc9_182 (by decide +kernel)
theorem d_Ma_settle_54 : decode y_Ma_settle.2.1 54 = .ok (.ireturn, 1) := dc9_172 (by decide +kernel)
theorem d_Ma_settle_83 : decode y_Ma_settle.2.1 83 = .ok (.iconst 1, 1) := dc9_4 (by decide +kernel)
theorem d_Ma_settle_84 : decode y_Ma_settle.2.1 84 = .ok (.ireturn, 1) := dc9_172 (by decide +kernel)
theorem k_Ma_settle {G : mG} {d : Nat} {a0 : Nat} {j1 : Int} {j3 : Int} {l5 : Int} {M : mM} {Q : Int → mM → Prop} (hO : mOk M) (hi_j1 : i64 j1) (hi_j3 : i64 j3) (hi_l5 : i32 l5)
    (h : Cj G y_Ma_commonDivisor d [vl j1, vl j3] M (fun x2 M1 => i64 x2 ∧ mOk M1 ∧ (x2 ≠ 0 ∧ x2 ≠ 0 ∧ i64 (Int.tdiv j1 x2) ∧ (¬ (0 ≤ cmpL (Int.tdiv j1 x2) 1000000000) → (¬ (cmpL (Int.tdiv j1 x2) (-1000000000) ≤ 0) → i64 (Int.tdiv j3 x2))) ∧ (((0 ≤ cmpL (Int.tdiv j1 x2) 1000000000) ∨ ((cmpL (Int.tdiv j1 x2) (-1000000000) ≤ 0) ∨ (¬ (cmpL (Int.tdiv j3 x2) 1000000000 < 0)))) → (mK M1 a0 = 5 ∧ Ci G y_Ma_stop d [vr a0, vi 6, vi l5] M1 (fun x15 M14 => i32 x15 ∧ mOk M14 ∧ ((x15 = 0 ∨ x15 = 1) ∧ Q x15 M14)))) ∧ (¬ ((0 ≤ cmpL (Int.tdiv j1 x2) 1000000000) ∨ ((cmpL (Int.tdiv j1 x2) (-1000000000) ≤ 0) ∨ (¬ (cmpL (Int.tdiv j3 x2) 1000000000 < 0)))) → (mK M1 a0 = 5 ∧ mK M1 (mR M1 a0 6) = 30 ∧ ((0 : Int) ≤ (mI M1 a0 8) - 1 ∧ (mI M1 a0 8) - 1 < (mN M1 (mR M1 a0 6) : Int)) ∧ i32 (Int.tdiv j1 x2) ∧ ∀ M23, M23 = mUI M1 (mR M1 a0 6) (Int.toNat ((mI M1 a0 8) - 1)) (Int.tdiv j1 x2) → mK M23 (mR M23 a0 7) = 30 ∧ ((0 : Int) ≤ (mI M23 a0 8) - 1 ∧ (mI M23 a0 8) - 1 < (mN M23 (mR M23 a0 7) : Int)) ∧ i32 (Int.tdiv j3 x2) ∧ ∀ M28, M28 = mUI M23 (mR M23 a0 7) (Int.toNat ((mI M23 a0 8) - 1)) (Int.tdiv j3 x2) → Q 1 M28))))) :
    Ci G y_Ma_settle (d + 1) [vr a0, vl j1, vl j3, vi l5] M Q := by
  refine wm_open (y := y_Ma_settle) rfl (Nat.le_of_ble_eq_true rfl) (L := [vr a0, vl j1, vd, vl j3, vd, vi l5, vd, vd, vd, vd, vd, vd]) rfl ?_
  refine wm_lload_n d_Ma_settle_0 rfl rfl ?_
  refine wm_lload_n d_Ma_settle_1 rfl rfl ?_
  refine cf_Ma_138 rfl d_Ma_settle_2 (Nat.le_of_ble_eq_true rfl) (Cj.mono h (fun x2 M1 h => ?_))
  obtain ⟨h3, hOM1, h⟩ := h
  obtain ⟨h4, h⟩ := h
  obtain ⟨h5, h⟩ := h
  obtain ⟨h6, h⟩ := h
  refine wm_lstore d_Ma_settle_5 (by decide) (L' := [vr a0, vl j1, vd, vl j3, vd, vi l5, vl x2, vd, vd, vd, vd, vd]) rfl ?_
  refine wm_lload_n d_Ma_settle_7 rfl rfl ?_
  refine wm_lload d_Ma_settle_8 rfl ?_
  refine wm_ldiv d_Ma_settle_10 hi_j1 h3 h4 ?_
  refine wm_lstore d_Ma_settle_11 (by decide) (L' := [vr a0, vl j1, vd, vl j3, vd, vi l5, vl x2, vd, vl (Int.tdiv j1 x2), vd, vd, vd]) rfl ?_
  refine wm_lload_n d_Ma_settle_13 rfl rfl ?_
  refine wm_lload d_Ma_settle_14 rfl ?_
  refine wm_ldiv d_Ma_settle_16 hi_j3 h3 h5 ?_
  refine wm_lstore d_Ma_settle_17 (by decide) (L' := [vr a0, vl j1, vd, vl j3, vd, vi l5, vl x2, vd, vl (Int.tdiv j1 x2), vd, vl (Int.tdiv j3 x2), vd]) rfl ?_
  refine wm_lload d_Ma_settle_19 rfl ?_
  refine wm_ldc2 (x := 1000000000) d_Ma_settle_21 k5_96 (by decide) ?_
  refine wm_lcmp d_Ma_settle_24 h6 ⟨by decide, by decide⟩ ?_
  obtain ⟨s11, h⟩ := h
  have hE0 : ((0 ≤ cmpL (Int.tdiv j1 x2) 1000000000) ∨ ((cmpL (Int.tdiv j1 x2) (-1000000000) ≤ 0) ∨ (¬ (cmpL (Int.tdiv j3 x2) 1000000000 < 0)))) → mWm G y_Ma_settle (d + 1) 46 [vr a0, vl j1, vd, vl j3, vd, vi l5, vl x2, vd, vl (Int.tdiv j1 x2), vd, vl (Int.tdiv j3 x2), vd] [] M1 (fun r9 M9 => ∃ x9, r9 = some (vi x9) ∧ Q x9 M9) := by
    intro q12
    have h := h.1 q12
    obtain ⟨h13, h⟩ := h
    refine wm_aload_n d_Ma_settle_46 rfl rfl ?_
    refine wm_bipush d_Ma_settle_47 (by decide) ?_
    refine wm_iload d_Ma_settle_49 rfl ?_
    refine cf_Ma_92 rfl d_Ma_settle_51 h13 (Nat.le_of_ble_eq_true rfl) (Ci.mono h (fun x15 M14 h => ?_))
    obtain ⟨h16, hOM14, h⟩ := h
    obtain ⟨h17, h⟩ := h
    refine wm_ireturn d_Ma_settle_54 rfl (m_nb h17) ?_
    exact ⟨_, rfl, h⟩
  have hE1 : ¬ ((0 ≤ cmpL (Int.tdiv j1 x2) 1000000000) ∨ ((cmpL (Int.tdiv j1 x2) (-1000000000) ≤ 0) ∨ (¬ (cmpL (Int.tdiv j3 x2) 1000000000 < 0)))) → mWm G y_Ma_settle (d + 1) 55 [vr a0, vl j1, vd, vl j3, vd, vi l5, vl x2, vd, vl (Int.tdiv j1 x2), vd, vl (Int.tdiv j3 x2), vd] [] M1 (fun r9 M9 => ∃ x9, r9 = some (vi x9) ∧ Q x9 M9) := by
    intro q18
    have h := h.2 q18
    obtain ⟨h19, h⟩ := h
    obtain ⟨h20, h⟩ := h
    obtain ⟨h21, h⟩ := h
    obtain ⟨h22, h⟩ := h
    obtain ⟨M23, e24⟩ : ∃ M23, M23 = mUI M1 (mR M1 a0 6) (Int.toNat ((mI M1 a0 8) - 1)) (Int.tdiv j1 x2) := ⟨_, rfl⟩
    replace h := h M23 e24
    obtain ⟨h25, h⟩ := h
    obtain ⟨h26, h⟩ := h
    obtain ⟨h27, h⟩ := h
    obtain ⟨M28, e29⟩ : ∃ M28, M28 = mUI M23 (mR M23 a0 7) (Int.toNat ((mI M23 a0 8) - 1)) (Int.tdiv j3 x2) := ⟨_, rfl⟩
    replace h := h M28 e29
    refine wm_aload_n d_Ma_settle_55 rfl rfl ?_
    refine gf_Ma_18 rfl d_Ma_settle_56 h19 ?_
    refine wm_aload_n d_Ma_settle_59 rfl rfl ?_
    refine gf_Ma_52 rfl d_Ma_settle_60 h19 ?_
    refine wm_iconst d_Ma_settle_63 ?_
    refine wm_isub d_Ma_settle_64 ?_
    refine wm_lload d_Ma_settle_65 rfl ?_
    refine wm_l2i d_Ma_settle_67 ?_
    have hOM23 : mOk M23 := by rw [e24]; exact mOk_UI hOM1 h22
    refine wm_iastE d_Ma_settle_68 h20 h21 h22 e24 ?_
    refine wm_aload_n d_Ma_settle_69 rfl rfl ?_
    refine gf_Ma_21 rfl d_Ma_settle_70 (by rw [e24]; exact h19) ?_
    refine wm_aload_n d_Ma_settle_73 rfl rfl ?_
    refine gf_Ma_52 rfl d_Ma_settle_74 (by rw [e24]; exact h19) ?_
    refine wm_iconst d_Ma_settle_77 ?_
    refine wm_isub d_Ma_settle_78 ?_
    refine wm_lload d_Ma_settle_79 rfl ?_
    refine wm_l2i d_Ma_settle_81 ?_
    have hOM28 : mOk M28 := by rw [e29]; exact mOk_UI hOM23 h27
    refine wm_iastE d_Ma_settle_82 h25 h26 h27 e29 ?_
    refine wm_iconst d_Ma_settle_83 ?_
    refine wm_ireturn d_Ma_settle_84 rfl (m_nb (by decide)) ?_
    exact ⟨_, rfl, h⟩
  clear h
  have s30 := s11
  refine wm_if_ge (tgt := 46) d_Ma_settle_25 rfl (m_cmp32 _ _) (fun c10 => ?_) (fun c10 => ?_)
  · exact hE0 (Or.inl c10)
  · have s30 := s30 c10
    have s31 := s30
    refine wm_lload d_Ma_settle_28 rfl ?_
    refine wm_ldc2 (x := (-1000000000)) d_Ma_settle_30 k5_97 (by decide) ?_
    refine wm_lcmp d_Ma_settle_33 h6 ⟨by decide, by decide⟩ ?_
    refine wm_if_le (tgt := 46) d_Ma_settle_34 rfl (m_cmp32 _ _) (fun c9 => ?_) (fun c9 => ?_)
    · exact hE0 (Or.inr (Or.inl c9))
    · have s31 := s31 c9
      have h7 := s31
      refine wm_lload d_Ma_settle_37 rfl ?_
      refine wm_ldc2 (x := 1000000000) d_Ma_settle_39 k5_96 (by decide) ?_
      refine wm_lcmp d_Ma_settle_42 h7 ⟨by decide, by decide⟩ ?_
      refine wm_if_lt (tgt := 55) d_Ma_settle_43 rfl (m_cmp32 _ _) (fun c8 => ?_) (fun c8 => ?_)
      · exact hE1 (fun z32 => Or.elim z32 c10 (fun z33 => Or.elim z33 c9 (fun z34 => z34 c8)))
      · exact hE0 (Or.inr (Or.inr c8))
end
section
theorem d_Ma_relate_0 : decode y_Ma_relate.2.1 0 = .ok (.iload_n 1, 1) := dc9_27 (by decide +kernel)
theorem d_Ma_relate_1 : decode y_Ma_relate.2.1 1 = .ok (.bipush 15, 2) := dc9_16 (by decide +kernel)
theorem d_Ma_relate_3 : decode y_Ma_relate.2.1 3 = .ok (.if_icmp .eq 9, 3) := dc9_159 (by decide +kernel)
theorem d_Ma_relate_6 : decode y_Ma_relate.2.1 6 = .ok (.iload_n 1, 1) := dc9_27 (by decide +kernel)
theorem d_Ma_relate_7 : decode y_Ma_relate.2.1 7 = .ok (.bipush 16, 2) := dc9_16 (by decide +kernel)
theorem d_Ma_relate_9 : decode y_Ma_relate.2.1 9 = .ok (.if_icmp .ne 68, 3) := dc9_160 (by decide +kernel)
theorem d_Ma_relate_77 : decode y_Ma_relate.2.1 77 = .ok (.iload_n 1, 1) := dc9_27 (by decide +kernel)
theorem d_Ma_relate_78 : decode y_Ma_relate.2.1 78 = .ok (.tableswitch 103 19 24 #[51, 77, 103, 64, 90, 38], 38) := by decide +kernel
theorem d_Ma_relate_12 : decode y_Ma_relate.2.1 12 = .ok (.iload_n 2, 1) := dc9_28 (by decide +kernel)
theorem d_Ma_relate_13 : decode y_Ma_relate.2.1 13 = .ok (.ifCond .le 7, 3) := dc9_158 (by decide +kernel)
theorem d_Ma_relate_20 : decode y_Ma_relate.2.1 20 = .ok (.iconst 0, 1) := dc9_3 (by decide +kernel)
theorem d_Ma_relate_16 : decode y_Ma_relate.2.1 16 = .ok (.iconst 1, 1) := dc9_4 (by decide +kernel)
theorem d_Ma_relate_17 : decode y_Ma_relate.2.1 17 = .ok (.goto 4, 3) := dc9_167 (by decide +kernel)
theorem d_Ma_relate_21 : decode y_Ma_relate.2.1 21 = .ok (.iload_n 1, 1) := dc9_27 (by decide +kernel)
theorem d_Ma_relate_22 : decode y_Ma_relate.2.1 22 = .ok (.bipush 15, 2) := dc9_16 (by decide +kernel)
theorem d_Ma_relate_24 : decode y_Ma_relate.2.1 24 = .ok (.if_icmp .ne 7, 3) := dc9_160 (by decide +kernel)
theorem d_Ma_relate_27 : decode y_Ma_relate.2.1 27 = .ok (.iconst 1, 1) := dc9_4 (by decide +kernel)
theorem d_Ma_relate_28 : decode y_Ma_relate.2.1 28 = .ok (.goto 4, 3) := dc9_167 (by decide +kernel)
theorem d_Ma_relate_31 : decode y_Ma_relate.2.1 31 = .ok (.iconst 0, 1) := dc9_3 (by decide +kernel)
theorem d_Ma_relate_32 : decode y_Ma_relate.2.1 32 = .ok (.if_icmp .ne 43, 3) := dc9_160 (by decide +kernel)
theorem d_Ma_relate_35 : decode y_Ma_relate.2.1 35 = .ok (.aload_n 0, 1) := dc9_42 (by decide +kernel)
theorem d_Ma_relate_36 : decode y_Ma_relate.2.1 36 = .ok (.getfield 18, 3) := dc9_180 (by decide +kernel)
theorem d_Ma_relate_39 : decode y_Ma_relate.2.1 39 = .ok (.aload_n 0, 1) := dc9_42 (by decide +kernel)
theorem d_Ma_relate_40 : decode y_Ma_relate.2.1 40 = .ok (.getfield 52, 3) := dc9_180 (by decide +kernel)
theorem d_Ma_relate_43 : decode y_Ma_relate.2.1 43 = .ok (.iconst 1, 1) := dc9_4 (by decide +kernel)
theorem d_Ma_relate_44 : decode y_Ma_relate.2.1 44 = .ok (.isub, 1) := dc9_100 (by decide +kernel)
theorem d_Ma_relate_45 : decode y_Ma_relate.2.1 45 = .ok (.aload_n 0, 1) := dc9_42 (by decide +kernel)
theorem d_Ma_relate_46 : decode y_Ma_relate.2.1 46 = .ok (.getfield 18, 3) := dc9_180 (by decide +kernel)
theorem d_Ma_relate_49 : decode y_Ma_relate.2.1 49 = .ok (.aload_n 0, 1) := dc9_42 (by decide +kernel)
theorem d_Ma_relate_50 : decode y_Ma_relate.2.1 50 = .ok (.getfield 52, 3) := dc9_180 (by decide +kernel)
theorem d_Ma_relate_53 : decode y_Ma_relate.2.1 53 = .ok (.iaload, 1) := dc9_46 (by decide +kernel)
theorem d_Ma_relate_54 : decode y_Ma_relate.2.1 54 = .ok (.iastore, 1) := dc9_79 (by decide +kernel)
theorem d_Ma_relate_55 : decode y_Ma_relate.2.1 55 = .ok (.aload_n 0, 1) := dc9_42 (by decide +kernel)
theorem d_Ma_relate_56 : decode y_Ma_relate.2.1 56 = .ok (.getfield 21, 3) := dc9_180 (by decide +kernel)
theorem d_Ma_relate_59 : decode y_Ma_relate.2.1 59 = .ok (.aload_n 0, 1) := dc9_42 (by decide +kernel)
theorem d_Ma_relate_60 : decode y_Ma_relate.2.1 60 = .ok (.getfield 52, 3) := dc9_180 (by decide +kernel)
theorem d_Ma_relate_63 : decode y_Ma_relate.2.1 63 = .ok (.iconst 1, 1) := dc9_4 (by decide +kernel)
theorem d_Ma_relate_64 : decode y_Ma_relate.2.1 64 = .ok (.isub, 1) := dc9_100 (by decide +kernel)
theorem d_Ma_relate_65 : decode y_Ma_relate.2.1 65 = .ok (.aload_n 0, 1) := dc9_42 (by decide +kernel)
theorem d_Ma_relate_66 : decode y_Ma_relate.2.1 66 = .ok (.getfield 21, 3) := dc9_180 (by decide +kernel)
theorem d_Ma_relate_69 : decode y_Ma_relate.2.1 69 = .ok (.aload_n 0, 1) := dc9_42 (by decide +kernel)
theorem d_Ma_relate_70 : decode y_Ma_relate.2.1 70 = .ok (.getfield 52, 3) := dc9_180 (by decide +kernel)
theorem d_Ma_relate_73 : decode y_Ma_relate.2.1 73 = .ok (.iaload, 1) := dc9_46 (by decide +kernel)
theorem d_Ma_relate_74 : decode y_Ma_relate.2.1 74 = .ok (.iastore, 1) := dc9_79 (by decide +kernel)
theorem d_Ma_relate_129 : decode y_Ma_relate.2.1 129 = .ok (.iload_n 2, 1) := dc9_28 (by decide +kernel)
theorem d_Ma_relate_130 : decode y_Ma_relate.2.1 130 = .ok (.ifCond .eq 7, 3) := dc9_153 (by decide +kernel)
theorem d_Ma_relate_137 : decode y_Ma_relate.2.1 137 = .ok (.iconst 0, 1) := dc9_3 (by decide +kernel)
theorem d_Ma_relate_138 : decode y_Ma_relate.2.1 138 = .ok (.istore_n 3, 1) := dc9_62 (by decide +kernel)
theorem d_Ma_relate_139 : decode y_Ma_relate.2.1 139 = .ok (.goto 52, 3) := dc9_167 (by decide +kernel)
theorem d_Ma_relate_133 : decode y_Ma_relate.2.1 133 = .ok (.iconst 1, 1) := dc9_4 (by decide +kernel)
theorem d_Ma_relate_134 : decode y_Ma_relate.2.1 134 = .ok (.goto 4, 3) := dc9_167 (by decide +kernel)
theorem d_Ma_relate_155 : decode y_Ma_relate.2.1 155 = .ok (.iload_n 2, 1) := dc9_28 (by decide +kernel)
theorem d_Ma_relate_156 : decode y_Ma_relate.2.1 156 = .ok (.ifCond .gt 7, 3) := dc9_157 (by decide +kernel)
theorem d_Ma_relate_163 : decode y_Ma_relate.2.1 163 = .ok (.iconst 0, 1) := dc9_3 (by decide +kernel)
theorem d_Ma_relate_164 : decode y_Ma_relate.2.1 164 = .ok (.istore_n 3, 1) := dc9_62 (by decide +kernel)
theorem d_Ma_relate_165 : decode y_Ma_relate.2.1 165 = .ok (.goto 26, 3) := dc9_167 (by decide +kernel)
theorem d_Ma_relate_159 : decode y_Ma_relate.2.1 159 = .ok (.iconst 1, 1) := dc9_4 (by decide +kernel)
theorem d_Ma_relate_160 : decode y_Ma_relate.2.1 160 = .ok (.goto 4, 3) := dc9_167 (by decide +kernel)
theorem d_Ma_relate_142 : decode y_Ma_relate.2.1 142 = .ok (.iload_n 2, 1) := dc9_28 (by decide +kernel)
theorem d_Ma_relate_143 : decode y_Ma_relate.2.1 143 = .ok (.ifCond .ge 7, 3) := dc9_156 (by decide +kernel)
theorem d_Ma_relate_150 : decode y_Ma_relate.2.1 150 = .ok (.iconst 0, 1) := dc9_3 (by decide +kernel)
theorem d_Ma_relate_151 : decode y_Ma_relate.2.1 151 = .ok (.istore_n 3, 1) := dc9_62 (by decide +kernel)
theorem d_Ma_relate_152 : decode y_Ma_relate.2.1 152 = .ok (.goto 39, 3) := dc9_167 (by decide +kernel)
theorem d_Ma_relate_146 : decode y_Ma_relate.2.1 146 = .ok (.iconst 1, 1) := dc9_4 (by decide +kernel)
theorem d_Ma_relate_147 : decode y_Ma_relate.2.1 147 = .ok (.goto 4, 3) := dc9_167 (by decide +kernel)
theorem d_Ma_relate_168 : decode y_Ma_relate.2.1 168 = .ok (.iload_n 2, 1) := dc9_28 (by decide +kernel)
theorem d_Ma_relate_169 : decode y_Ma_relate.2.1 169 = .ok (.ifCond .le 7, 3) := dc9_158 (by decide +kernel)
theorem d_Ma_relate_176 : decode y_Ma_relate.2.1 176 = .ok (.iconst 0, 1) := dc9_3 (by decide +kernel)
theorem d_Ma_relate_177 : decode y_Ma_relate.2.1 177 = .ok (.istore_n 3, 1) := dc9_62 (by decide +kernel)
theorem d_Ma_relate_178 : decode y_Ma_relate.2.1 178 = .ok (.goto 13, 3) := dc9_167 (by decide +kernel)
theorem d_Ma_relate_172 : decode y_Ma_relate.2.1 172 = .ok (.iconst 1, 1) := dc9_4 (by decide +kernel)
theorem d_Ma_relate_173 : decode y_Ma_relate.2.1 173 = .ok (.goto 4, 3) := dc9_167 (by decide +kernel)
theorem d_Ma_relate_116 : decode y_Ma_relate.2.1 116 = .ok (.iload_n 2, 1) := dc9_28 (by decide +kernel)
theorem d_Ma_relate_117 : decode y_Ma_relate.2.1 117 = .ok (.ifCond .ne 7, 3) := dc9_154 (by decide +kernel)
theorem d_Ma_relate_120 : decode y_Ma_relate.2.1 120 = .ok (.iconst 1, 1) := dc9_4 (by decide +kernel)
theorem d_Ma_relate_121 : decode y_Ma_relate.2.1 121 = .ok (.goto 4, 3) := dc9_167 (by decide +kernel)
theorem d_Ma_relate_125 : decode y_Ma_relate.2.1 125 = .ok (.istore_n 3, 1) := dc9_62 (by decide +kernel)
theorem d_Ma_relate_126 : decode y_Ma_relate.2.1 126 = .ok (.goto 65, 3) := dc9_167 (by decide +kernel)
theorem d_Ma_relate_124 : decode y_Ma_relate.2.1 124 = .ok (.iconst 0, 1) := dc9_3 (by decide +kernel)
theorem d_Ma_relate_181 : decode y_Ma_relate.2.1 181 = .ok (.iload_n 2, 1) := dc9_28 (by decide +kernel)
theorem d_Ma_relate_182 : decode y_Ma_relate.2.1 182 = .ok (.ifCond .lt 7, 3) := dc9_155 (by decide +kernel)
theorem d_Ma_relate_189 : decode y_Ma_relate.2.1 189 = .ok (.iconst 0, 1) := dc9_3 (by decide +kernel)
theorem d_Ma_relate_190 : decode y_Ma_relate.2.1 190 = .ok (.istore_n 3, 1) := dc9_62 (by decide +kernel)
theorem d_Ma_relate_185 : decode y_Ma_relate.2.1 185 = .ok (.iconst 1, 1) := dc9_4 (by decide +kernel)
theorem d_Ma_relate_186 : decode y_Ma_relate.2.1 186 = .ok (.goto 4, 3) := dc9_167 (by decide +kernel)
theorem d_Ma_relate_191 : decode y_Ma_relate.2.1 191 = .ok (.aload_n 0, 1) := dc9_42 (by decide +kernel)
theorem d_Ma_relate_192 : decode y_Ma_relate.2.1 192 = .ok (.getfield 18, 3) := dc9_180 (by decide +kernel)
theorem d_Ma_relate_195 : decode y_Ma_relate.2.1 195 = .ok (.aload_n 0, 1) := dc9_42 (by decide +kernel)
theorem d_Ma_relate_196 : decode y_Ma_relate.2.1 196 = .ok (.getfield 52, 3) := dc9_180 (by decide +kernel)
theorem d_Ma_relate_199 : decode y_Ma_relate.2.1 199 = .ok (.iconst 1, 1) := dc9_4 (by decide +kernel)
theorem d_Ma_relate_200 : decode y_Ma_relate.2.1 200 = .ok (.isub, 1) := dc9_100 (by decide +kernel)
theorem d_Ma_relate_201 : decode y_Ma_relate.2.1 201 = .ok (.iload_n 3, 1) := dc9_29 (by decide +kernel)
theorem d_Ma_relate_202 : decode y_Ma_relate.2.1 202 = .ok (.ifCond .eq 7, 3) := dc9_153 (by decide +kernel)
theorem d_Ma_relate_209 : decode y_Ma_relate.2.1 209 = .ok (.iconst 0, 1) := dc9_3 (by decide +kernel)
theorem d_Ma_relate_205 : decode y_Ma_relate.2.1 205 = .ok (.iconst 1, 1) := dc9_4 (by decide +kernel)
theorem d_Ma_relate_206 : decode y_Ma_relate.2.1 206 = .ok (.goto 4, 3) := dc9_167 (by decide +kernel)
theorem d_Ma_relate_210 : decode y_Ma_relate.2.1 210 = .ok (.iastore, 1) := dc9_79 (by decide +kernel)
theorem d_Ma_relate_211 : decode y_Ma_relate.2.1 211 = .ok (.aload_n 0, 1) := dc9_42 (by decide +kernel)
theorem d_Ma_relate_212 : decode y_Ma_relate.2.1 212 = .ok (.getfield 21, 3) := dc9_180 (by decide +kernel)
theorem d_Ma_relate_215 : decode y_Ma_relate.2.1 215 = .ok (.aload_n 0, 1) := dc9_42 (by decide +kernel)
theorem d_Ma_relate_216 : decode y_Ma_relate.2.1 216 = .ok (.getfield 52, 3) := dc9_180 (by decide +kernel)
theorem d_Ma_relate_219 : decode y_Ma_relate.2.1 219 = .ok (.iconst 1, 1) := dc9_4 (by decide +kernel)
theorem d_Ma_relate_220 : decode y_Ma_relate.2.1 220 = .ok (.isub, 1) := dc9_100 (by decide +kernel)
theorem d_Ma_relate_221 : decode y_Ma_relate.2.1 221 = .ok (.iconst 1, 1) := dc9_4 (by decide +kernel)
theorem d_Ma_relate_222 : decode y_Ma_relate.2.1 222 = .ok (.iastore, 1) := dc9_79 (by decide +kernel)
theorem d_Ma_relate_223 : decode y_Ma_relate.2.1 223 = .ok (.iconst 1, 1) := dc9_4 (by decide +kernel)
theorem d_Ma_relate_224 : decode y_Ma_relate.2.1 224 = .ok (.ireturn, 1) := dc9_172 (by decide +kernel)
theorem d_Ma_relate_75 : decode y_Ma_relate.2.1 75 = .ok (.iconst 1, 1) := dc9_4 (by decide +kernel)
theorem d_Ma_relate_76 : decode y_Ma_relate.2.1 76 = .ok (.ireturn, 1) := dc9_172 (by decide +kernel)
def h_Ma_relate_75 (G : mG) (d : Nat) (M : mM) (Q : Int → mM → Prop) : Prop := mWm G y_Ma_relate d 75 [vd, vd, vd, vd] [] M (fun r9 M9 => ∃ x9, r9 = some (vi x9) ∧ Q x9 M9)
theorem k_Ma_relate {G : mG} {d : Nat} {a0 : Nat} {l1 : Int} {l2 : Int} {M : mM} {Q : Int → mM → Prop} (hO : mOk M) (hi_l1 : i32 l1) (hi_l2 : i32 l2)
    (h : (((l1 = 15) ∨ (l1 = 16)) → (∀ v7 : Int, v7 = (if (l2 ≤ 0) then 0 else 1) → ∀ v13 : Int, v13 = (if (l1 = 15) then 1 else 0) → ((v7 = v13) → (mK M a0 = 5 ∧ mK M (mR M a0 6) = 30 ∧ ((0 : Int) ≤ mI M a0 8 ∧ mI M a0 8 < (mN M (mR M a0 6) : Int)) ∧ ((0 : Int) ≤ (mI M a0 8) - 1 ∧ (mI M a0 8) - 1 < (mN M (mR M a0 6) : Int)) ∧ ∀ M24, M24 = mUI M (mR M a0 6) (Int.toNat ((mI M a0 8) - 1)) (mI M (mR M a0 6) (Int.toNat (mI M a0 8))) → mK M24 (mR M24 a0 7) = 30 ∧ ((0 : Int) ≤ mI M24 a0 8 ∧ mI M24 a0 8 < (mN M24 (mR M24 a0 7) : Int)) ∧ ((0 : Int) ≤ (mI M24 a0 8) - 1 ∧ (mI M24 a0 8) - 1 < (mN M24 (mR M24 a0 7) : Int)) ∧ ∀ M29, M29 = mUI M24 (mR M24 a0 7) (Int.toNat ((mI M24 a0 8) - 1)) (mI M24 (mR M24 a0 7) (Int.toNat (mI M24 a0 8))) → h_Ma_relate_75 G d  M29 Q)) ∧ (¬ (v7 = v13) → (h_Ma_relate_75 G d  M Q)))) ∧ (¬ ((l1 = 15) ∨ (l1 = 16)) → (∀ v50 : Int, v50 = (if (((l1 = 19) ∧ (l2 = 0)) ∨ ((¬ (l1 = 19)) ∧ (((l1 = 20) ∧ (0 < l2)) ∨ ((¬ (l1 = 20)) ∧ (((l1 = 22) ∧ (0 ≤ l2)) ∨ ((¬ (l1 = 22)) ∧ (((l1 = 23) ∧ (l2 ≤ 0)) ∨ ((¬ (l1 = 23)) ∧ (((l1 = 24) ∧ (¬ (l2 = 0))) ∨ ((¬ (l1 = 24)) ∧ (l2 < 0))))))))))) then 0 else 1) → mK M a0 = 5 ∧ ∀ v57 : Int, v57 = (if (v50 = 0) then 0 else 1) → mK M (mR M a0 6) = 30 ∧ ((0 : Int) ≤ (mI M a0 8) - 1 ∧ (mI M a0 8) - 1 < (mN M (mR M a0 6) : Int)) ∧ ∀ M64, M64 = mUI M (mR M a0 6) (Int.toNat ((mI M a0 8) - 1)) v57 → mK M64 (mR M64 a0 7) = 30 ∧ ((0 : Int) ≤ (mI M64 a0 8) - 1 ∧ (mI M64 a0 8) - 1 < (mN M64 (mR M64 a0 7) : Int)) ∧ ∀ M68, M68 = mUI M64 (mR M64 a0 7) (Int.toNat ((mI M64 a0 8) - 1)) 1 → Q 1 M68))) :
    Ci G y_Ma_relate d [vr a0, vi l1, vi l2] M Q := by
  refine wm_open (y := y_Ma_relate) rfl (Nat.le_of_ble_eq_true rfl) (L := [vr a0, vi l1, vi l2, vd]) rfl ?_
  refine wm_iload_n d_Ma_relate_0 rfl rfl ?_
  refine wm_bipush d_Ma_relate_1 (by decide) ?_
  have hE0 : ((l1 = 15) ∨ (l1 = 16)) → mWm G y_Ma_relate d 12 [vr a0, vi l1, vi l2, vd] [] M (fun r9 M9 => ∃ x9, r9 = some (vi x9) ∧ Q x9 M9) := by
    intro q5
    have h := h.1 q5
    refine wm_iload_n d_Ma_relate_12 rfl rfl ?_
    have hJ : ∀ v7 : Int, v7 = (if (l2 ≤ 0) then 0 else 1) → mWm G y_Ma_relate d 21 [vr a0, vi l1, vd, vd] [vi v7] M (fun r9 M9 => ∃ x9, r9 = some (vi x9) ∧ Q x9 M9) := by
      intro v7 e9
      have h := h v7 e9
      have h10 : i32 v7 := by rw [e9]; (repeat' split) <;> first | exact ⟨by decide, by decide⟩ | exact ⟨by decide, by decide⟩
      have h11 : (v7 = 0 ∨ v7 = 1) := by rw [e9]; (repeat' split) <;> decide
      refine wm_iload_n d_Ma_relate_21 rfl rfl ?_
      refine wm_bipush d_Ma_relate_22 (by decide) ?_
      have hJ : ∀ v13 : Int, v13 = (if (l1 = 15) then 1 else 0) → mWm G y_Ma_relate d 32 [vr a0, vd, vd, vd] [vi v13, vi v7] M (fun r9 M9 => ∃ x9, r9 = some (vi x9) ∧ Q x9 M9) := by
        intro v13 e15
        have h := h v13 e15
        have h16 : i32 v13 := by rw [e15]; (repeat' split) <;> first | exact ⟨by decide, by decide⟩ | exact ⟨by decide, by decide⟩
        have h17 : (v13 = 0 ∨ v13 = 1) := by rw [e15]; (repeat' split) <;> decide
        refine wm_icmp_ne (tgt := 75) d_Ma_relate_32 rfl h10 h16 (fun c19 => ?_) (fun c19 => ?_)
        · replace h := h.2 c19
          refine wm_less (L' := [vd, vd, vd, vd]) ⟨Or.inl rfl, Or.inl rfl, Or.inl rfl, Or.inl rfl, trivial⟩ ?_
          exact h
        · replace c19 := Classical.not_not.mp c19
          replace h := h.1 c19
          obtain ⟨h20, h⟩ := h
          obtain ⟨h21, h⟩ := h
          obtain ⟨h22, h⟩ := h
          obtain ⟨h23, h⟩ := h
          obtain ⟨M24, e25⟩ : ∃ M24, M24 = mUI M (mR M a0 6) (Int.toNat ((mI M a0 8) - 1)) (mI M (mR M a0 6) (Int.toNat (mI M a0 8))) := ⟨_, rfl⟩
          replace h := h M24 e25
          obtain ⟨h26, h⟩ := h
          obtain ⟨h27, h⟩ := h
          obtain ⟨h28, h⟩ := h
          obtain ⟨M29, e30⟩ : ∃ M29, M29 = mUI M24 (mR M24 a0 7) (Int.toNat ((mI M24 a0 8) - 1)) (mI M24 (mR M24 a0 7) (Int.toNat (mI M24 a0 8))) := ⟨_, rfl⟩
          replace h := h M29 e30
          refine wm_aload_n d_Ma_relate_35 rfl rfl ?_
          refine gf_Ma_18 rfl d_Ma_relate_36 h20 ?_
          refine wm_aload_n d_Ma_relate_39 rfl rfl ?_
          refine gf_Ma_52 rfl d_Ma_relate_40 h20 ?_
          refine wm_iconst d_Ma_relate_43 ?_
          refine wm_isub d_Ma_relate_44 ?_
          refine wm_aload_n d_Ma_relate_45 rfl rfl ?_
          refine gf_Ma_18 rfl d_Ma_relate_46 h20 ?_
          refine wm_aload_n d_Ma_relate_49 rfl rfl ?_
          refine gf_Ma_52 rfl d_Ma_relate_50 h20 ?_
          refine wm_iald d_Ma_relate_53 h21 h22 ?_
          have hOM24 : mOk M24 := by rw [e25]; exact mOk_UI hO (hO _ _).1
          refine wm_iastE d_Ma_relate_54 h21 h23 (hO _ _).1 e25 ?_
          refine wm_aload_n d_Ma_relate_55 rfl rfl ?_
          refine gf_Ma_21 rfl d_Ma_relate_56 (by rw [e25]; exact h20) ?_
          refine wm_aload_n d_Ma_relate_59 rfl rfl ?_
          refine gf_Ma_52 rfl d_Ma_relate_60 (by rw [e25]; exact h20) ?_
          refine wm_iconst d_Ma_relate_63 ?_
          refine wm_isub d_Ma_relate_64 ?_
          refine wm_aload_n d_Ma_relate_65 rfl rfl ?_
          refine gf_Ma_21 rfl d_Ma_relate_66 (by rw [e25]; exact h20) ?_
          refine wm_aload_n d_Ma_relate_69 rfl rfl ?_
          refine gf_Ma_52 rfl d_Ma_relate_70 (by rw [e25]; exact h20) ?_
          refine wm_iald d_Ma_relate_73 h26 h27 ?_
          have hOM29 : mOk M29 := by rw [e30]; exact mOk_UI hOM24 (hOM24 _ _).1
          refine wm_iastE d_Ma_relate_74 h26 h28 (hOM24 _ _).1 e30 ?_
          refine wm_less (L' := [vd, vd, vd, vd]) ⟨Or.inl rfl, Or.inl rfl, Or.inl rfl, Or.inl rfl, trivial⟩ ?_
          exact h
      clear h
      refine wm_icmp_ne (tgt := 31) d_Ma_relate_24 rfl hi_l1 ⟨by decide, by decide⟩ (fun c12 => ?_) (fun c12 => ?_)
      · refine wm_iconst d_Ma_relate_31 ?_
        refine wm_less (L' := [vr a0, vd, vd, vd]) ⟨Or.inr rfl, Or.inl rfl, Or.inl rfl, Or.inl rfl, trivial⟩ ?_
        exact hJ 0 (if_neg c12).symm
      · replace c12 := Classical.not_not.mp c12
        refine wm_iconst d_Ma_relate_27 ?_
        refine wm_goto (tgt := 32) d_Ma_relate_28 rfl ?_
        refine wm_less (L' := [vr a0, vd, vd, vd]) ⟨Or.inr rfl, Or.inl rfl, Or.inl rfl, Or.inl rfl, trivial⟩ ?_
        exact hJ 1 (if_pos c12).symm
    clear h
    refine wm_if_le (tgt := 20) d_Ma_relate_13 rfl hi_l2 (fun c6 => ?_) (fun c6 => ?_)
    · refine wm_iconst d_Ma_relate_20 ?_
      refine wm_less (L' := [vr a0, vi l1, vd, vd]) ⟨Or.inr rfl, Or.inr rfl, Or.inl rfl, Or.inl rfl, trivial⟩ ?_
      exact hJ 0 (if_pos c6).symm
    · refine wm_iconst d_Ma_relate_16 ?_
      refine wm_goto (tgt := 21) d_Ma_relate_17 rfl ?_
      refine wm_less (L' := [vr a0, vi l1, vd, vd]) ⟨Or.inr rfl, Or.inr rfl, Or.inl rfl, Or.inl rfl, trivial⟩ ?_
      exact hJ 1 (if_neg c6).symm
  have hE1 : ¬ ((l1 = 15) ∨ (l1 = 16)) → mWm G y_Ma_relate d 77 [vr a0, vi l1, vi l2, vd] [] M (fun r9 M9 => ∃ x9, r9 = some (vi x9) ∧ Q x9 M9) := by
    intro q33
    have h := h.2 q33
    refine wm_iload_n d_Ma_relate_77 rfl rfl ?_
    have hJ : ∀ v50 : Int, v50 = (if (((l1 = 19) ∧ (l2 = 0)) ∨ ((¬ (l1 = 19)) ∧ (((l1 = 20) ∧ (0 < l2)) ∨ ((¬ (l1 = 20)) ∧ (((l1 = 22) ∧ (0 ≤ l2)) ∨ ((¬ (l1 = 22)) ∧ (((l1 = 23) ∧ (l2 ≤ 0)) ∨ ((¬ (l1 = 23)) ∧ (((l1 = 24) ∧ (¬ (l2 = 0))) ∨ ((¬ (l1 = 24)) ∧ (l2 < 0))))))))))) then 0 else 1) → mWm G y_Ma_relate d 191 [vr a0, vd, vd, vi v50] [] M (fun r9 M9 => ∃ x9, r9 = some (vi x9) ∧ Q x9 M9) := by
      intro v50 e52
      have h := h v50 e52
      have h53 : i32 v50 := by rw [e52]; (repeat' split) <;> first | exact ⟨by decide, by decide⟩ | exact ⟨by decide, by decide⟩
      have h54 : (v50 = 0 ∨ v50 = 1) := by rw [e52]; (repeat' split) <;> decide
      obtain ⟨h55, h⟩ := h
      refine wm_aload_n d_Ma_relate_191 rfl rfl ?_
      refine gf_Ma_18 rfl d_Ma_relate_192 h55 ?_
      refine wm_aload_n d_Ma_relate_195 rfl rfl ?_
      refine gf_Ma_52 rfl d_Ma_relate_196 h55 ?_
      refine wm_iconst d_Ma_relate_199 ?_
      refine wm_isub d_Ma_relate_200 ?_
      refine wm_iload_n d_Ma_relate_201 rfl rfl ?_
      have hJ : ∀ v57 : Int, v57 = (if (v50 = 0) then 0 else 1) → mWm G y_Ma_relate d 210 [vr a0, vd, vd, vd] [vi v57, vi ((mI M a0 8) - 1), vr (mR M a0 6)] M (fun r9 M9 => ∃ x9, r9 = some (vi x9) ∧ Q x9 M9) := by
        intro v57 e59
        have h := h v57 e59
        have h60 : i32 v57 := by rw [e59]; (repeat' split) <;> first | exact ⟨by decide, by decide⟩ | exact ⟨by decide, by decide⟩
        have h61 : (v57 = 0 ∨ v57 = 1) := by rw [e59]; (repeat' split) <;> decide
        obtain ⟨h62, h⟩ := h
        obtain ⟨h63, h⟩ := h
        obtain ⟨M64, e65⟩ : ∃ M64, M64 = mUI M (mR M a0 6) (Int.toNat ((mI M a0 8) - 1)) v57 := ⟨_, rfl⟩
        replace h := h M64 e65
        obtain ⟨h66, h⟩ := h
        obtain ⟨h67, h⟩ := h
        obtain ⟨M68, e69⟩ : ∃ M68, M68 = mUI M64 (mR M64 a0 7) (Int.toNat ((mI M64 a0 8) - 1)) 1 := ⟨_, rfl⟩
        replace h := h M68 e69
        have hOM64 : mOk M64 := by rw [e65]; exact mOk_UI hO h60
        refine wm_iastE d_Ma_relate_210 h62 h63 h60 e65 ?_
        refine wm_aload_n d_Ma_relate_211 rfl rfl ?_
        refine gf_Ma_21 rfl d_Ma_relate_212 (by rw [e65]; exact h55) ?_
        refine wm_aload_n d_Ma_relate_215 rfl rfl ?_
        refine gf_Ma_52 rfl d_Ma_relate_216 (by rw [e65]; exact h55) ?_
        refine wm_iconst d_Ma_relate_219 ?_
        refine wm_isub d_Ma_relate_220 ?_
        refine wm_iconst d_Ma_relate_221 ?_
        have hOM68 : mOk M68 := by rw [e69]; exact mOk_UI hOM64 ⟨by decide, by decide⟩
        refine wm_iastE d_Ma_relate_222 h66 h67 ⟨by decide, by decide⟩ e69 ?_
        refine wm_iconst d_Ma_relate_223 ?_
        refine wm_ireturn d_Ma_relate_224 rfl (m_nb (by decide)) ?_
        exact ⟨_, rfl, h⟩
      clear h
      refine wm_if_eq (tgt := 209) d_Ma_relate_202 rfl h53 (fun c56 => ?_) (fun c56 => ?_)
      · refine wm_iconst d_Ma_relate_209 ?_
        refine wm_less (L' := [vr a0, vd, vd, vd]) ⟨Or.inr rfl, Or.inl rfl, Or.inl rfl, Or.inl rfl, trivial⟩ ?_
        exact hJ 0 (if_pos c56).symm
      · refine wm_iconst d_Ma_relate_205 ?_
        refine wm_goto (tgt := 210) d_Ma_relate_206 rfl ?_
        refine wm_less (L' := [vr a0, vd, vd, vd]) ⟨Or.inr rfl, Or.inl rfl, Or.inl rfl, Or.inl rfl, trivial⟩ ?_
        exact hJ 1 (if_neg c56).symm
    clear h
    by_cases c35 : l1 = 19
    · refine wm_tableIn (tgt := 129) (off := 51) d_Ma_relate_78 hi_l1 (by omega) (by omega) (by rw [c35]; rfl) rfl ?_
      refine wm_iload_n d_Ma_relate_129 rfl rfl ?_
      refine wm_if_eq (tgt := 137) d_Ma_relate_130 rfl hi_l2 (fun c36 => ?_) (fun c36 => ?_)
      · refine wm_iconst d_Ma_relate_137 ?_
        refine wm_istore_n d_Ma_relate_138 rfl (by decide) (L' := [vr a0, vi l1, vi l2, vi 0]) rfl ?_
        refine wm_goto (tgt := 191) d_Ma_relate_139 rfl ?_
        refine wm_less (L' := [vr a0, vd, vd, vi 0]) ⟨Or.inr rfl, Or.inl rfl, Or.inl rfl, Or.inr rfl, trivial⟩ ?_
        exact hJ 0 (if_pos (Or.inl ⟨c35, c36⟩)).symm
      · refine wm_iconst d_Ma_relate_133 ?_
        refine wm_goto (tgt := 138) d_Ma_relate_134 rfl ?_
        refine wm_istore_n d_Ma_relate_138 rfl (by decide) (L' := [vr a0, vi l1, vi l2, vi 1]) rfl ?_
        refine wm_goto (tgt := 191) d_Ma_relate_139 rfl ?_
        refine wm_less (L' := [vr a0, vd, vd, vi 1]) ⟨Or.inr rfl, Or.inl rfl, Or.inl rfl, Or.inr rfl, trivial⟩ ?_
        exact hJ 1 (if_neg (fun z71 => Or.elim z71 (fun w => c36 w.2) (fun w => w.1 c35))).symm
    · by_cases c38 : l1 = 20
      · refine wm_tableIn (tgt := 155) (off := 77) d_Ma_relate_78 hi_l1 (by omega) (by omega) (by rw [c38]; rfl) rfl ?_
        refine wm_iload_n d_Ma_relate_155 rfl rfl ?_
        refine wm_if_gt (tgt := 163) d_Ma_relate_156 rfl hi_l2 (fun c39 => ?_) (fun c39 => ?_)
        · refine wm_iconst d_Ma_relate_163 ?_
          refine wm_istore_n d_Ma_relate_164 rfl (by decide) (L' := [vr a0, vi l1, vi l2, vi 0]) rfl ?_
          refine wm_goto (tgt := 191) d_Ma_relate_165 rfl ?_
          refine wm_less (L' := [vr a0, vd, vd, vi 0]) ⟨Or.inr rfl, Or.inl rfl, Or.inl rfl, Or.inr rfl, trivial⟩ ?_
          exact hJ 0 (if_pos (Or.inr ⟨c35, (Or.inl ⟨c38, c39⟩)⟩)).symm
        · refine wm_iconst d_Ma_relate_159 ?_
          refine wm_goto (tgt := 164) d_Ma_relate_160 rfl ?_
          refine wm_istore_n d_Ma_relate_164 rfl (by decide) (L' := [vr a0, vi l1, vi l2, vi 1]) rfl ?_
          refine wm_goto (tgt := 191) d_Ma_relate_165 rfl ?_
          refine wm_less (L' := [vr a0, vd, vd, vi 1]) ⟨Or.inr rfl, Or.inl rfl, Or.inl rfl, Or.inr rfl, trivial⟩ ?_
          exact hJ 1 (if_neg (fun z73 => Or.elim z73 (fun w => c35 w.1) (fun w => (fun z74 => Or.elim z74 (fun w => c39 w.2) (fun w => w.1 c38)) w.2))).symm
      · by_cases c41 : l1 = 22
        · refine wm_tableIn (tgt := 142) (off := 64) d_Ma_relate_78 hi_l1 (by omega) (by omega) (by rw [c41]; rfl) rfl ?_
          refine wm_iload_n d_Ma_relate_142 rfl rfl ?_
          refine wm_if_ge (tgt := 150) d_Ma_relate_143 rfl hi_l2 (fun c42 => ?_) (fun c42 => ?_)
          · refine wm_iconst d_Ma_relate_150 ?_
            refine wm_istore_n d_Ma_relate_151 rfl (by decide) (L' := [vr a0, vi l1, vi l2, vi 0]) rfl ?_
            refine wm_goto (tgt := 191) d_Ma_relate_152 rfl ?_
            refine wm_less (L' := [vr a0, vd, vd, vi 0]) ⟨Or.inr rfl, Or.inl rfl, Or.inl rfl, Or.inr rfl, trivial⟩ ?_
            exact hJ 0 (if_pos (Or.inr ⟨c35, (Or.inr ⟨c38, (Or.inl ⟨c41, c42⟩)⟩)⟩)).symm
          · refine wm_iconst d_Ma_relate_146 ?_
            refine wm_goto (tgt := 151) d_Ma_relate_147 rfl ?_
            refine wm_istore_n d_Ma_relate_151 rfl (by decide) (L' := [vr a0, vi l1, vi l2, vi 1]) rfl ?_
            refine wm_goto (tgt := 191) d_Ma_relate_152 rfl ?_
            refine wm_less (L' := [vr a0, vd, vd, vi 1]) ⟨Or.inr rfl, Or.inl rfl, Or.inl rfl, Or.inr rfl, trivial⟩ ?_
            exact hJ 1 (if_neg (fun z76 => Or.elim z76 (fun w => c35 w.1) (fun w => (fun z77 => Or.elim z77 (fun w => c38 w.1) (fun w => (fun z78 => Or.elim z78 (fun w => c42 w.2) (fun w => w.1 c41)) w.2)) w.2))).symm
        · by_cases c44 : l1 = 23
          · refine wm_tableIn (tgt := 168) (off := 90) d_Ma_relate_78 hi_l1 (by omega) (by omega) (by rw [c44]; rfl) rfl ?_
            refine wm_iload_n d_Ma_relate_168 rfl rfl ?_
            refine wm_if_le (tgt := 176) d_Ma_relate_169 rfl hi_l2 (fun c45 => ?_) (fun c45 => ?_)
            · refine wm_iconst d_Ma_relate_176 ?_
              refine wm_istore_n d_Ma_relate_177 rfl (by decide) (L' := [vr a0, vi l1, vi l2, vi 0]) rfl ?_
              refine wm_goto (tgt := 191) d_Ma_relate_178 rfl ?_
              refine wm_less (L' := [vr a0, vd, vd, vi 0]) ⟨Or.inr rfl, Or.inl rfl, Or.inl rfl, Or.inr rfl, trivial⟩ ?_
              exact hJ 0 (if_pos (Or.inr ⟨c35, (Or.inr ⟨c38, (Or.inr ⟨c41, (Or.inl ⟨c44, c45⟩)⟩)⟩)⟩)).symm
            · refine wm_iconst d_Ma_relate_172 ?_
              refine wm_goto (tgt := 177) d_Ma_relate_173 rfl ?_
              refine wm_istore_n d_Ma_relate_177 rfl (by decide) (L' := [vr a0, vi l1, vi l2, vi 1]) rfl ?_
              refine wm_goto (tgt := 191) d_Ma_relate_178 rfl ?_
              refine wm_less (L' := [vr a0, vd, vd, vi 1]) ⟨Or.inr rfl, Or.inl rfl, Or.inl rfl, Or.inr rfl, trivial⟩ ?_
              exact hJ 1 (if_neg (fun z80 => Or.elim z80 (fun w => c35 w.1) (fun w => (fun z81 => Or.elim z81 (fun w => c38 w.1) (fun w => (fun z82 => Or.elim z82 (fun w => c41 w.1) (fun w => (fun z83 => Or.elim z83 (fun w => c45 w.2) (fun w => w.1 c44)) w.2)) w.2)) w.2))).symm
          · by_cases c47 : l1 = 24
            · refine wm_tableIn (tgt := 116) (off := 38) d_Ma_relate_78 hi_l1 (by omega) (by omega) (by rw [c47]; rfl) rfl ?_
              refine wm_iload_n d_Ma_relate_116 rfl rfl ?_
              refine wm_if_ne (tgt := 124) d_Ma_relate_117 rfl hi_l2 (fun c48 => ?_) (fun c48 => ?_)
              · refine wm_iconst d_Ma_relate_124 ?_
                refine wm_istore_n d_Ma_relate_125 rfl (by decide) (L' := [vr a0, vi l1, vi l2, vi 0]) rfl ?_
                refine wm_goto (tgt := 191) d_Ma_relate_126 rfl ?_
                refine wm_less (L' := [vr a0, vd, vd, vi 0]) ⟨Or.inr rfl, Or.inl rfl, Or.inl rfl, Or.inr rfl, trivial⟩ ?_
                exact hJ 0 (if_pos (Or.inr ⟨c35, (Or.inr ⟨c38, (Or.inr ⟨c41, (Or.inr ⟨c44, (Or.inl ⟨c47, c48⟩)⟩)⟩)⟩)⟩)).symm
              · replace c48 := Classical.not_not.mp c48
                refine wm_iconst d_Ma_relate_120 ?_
                refine wm_goto (tgt := 125) d_Ma_relate_121 rfl ?_
                refine wm_istore_n d_Ma_relate_125 rfl (by decide) (L' := [vr a0, vi l1, vi l2, vi 1]) rfl ?_
                refine wm_goto (tgt := 191) d_Ma_relate_126 rfl ?_
                refine wm_less (L' := [vr a0, vd, vd, vi 1]) ⟨Or.inr rfl, Or.inl rfl, Or.inl rfl, Or.inr rfl, trivial⟩ ?_
                exact hJ 1 (if_neg (fun z85 => Or.elim z85 (fun w => c35 w.1) (fun w => (fun z86 => Or.elim z86 (fun w => c38 w.1) (fun w => (fun z87 => Or.elim z87 (fun w => c41 w.1) (fun w => (fun z88 => Or.elim z88 (fun w => c44 w.1) (fun w => (fun z89 => Or.elim z89 (fun w => (fun z90 => z90 c48) w.2) (fun w => w.1 c47)) w.2)) w.2)) w.2)) w.2))).symm
            · refine wm_tableD (tgt := 181) (off := 103) d_Ma_relate_78 hi_l1 (if q8 : 19 ≤ l1 ∧ l1 ≤ 24 then Or.inr ⟨q8.1, q8.2, by
      have q9 : l1 = 21 := by omega
      rcases q9 with q9 <;> (rw [q9]; rfl)⟩ else Or.inl (by omega)) rfl ?_
              refine wm_iload_n d_Ma_relate_181 rfl rfl ?_
              refine wm_if_lt (tgt := 189) d_Ma_relate_182 rfl hi_l2 (fun c49 => ?_) (fun c49 => ?_)
              · refine wm_iconst d_Ma_relate_189 ?_
                refine wm_istore_n d_Ma_relate_190 rfl (by decide) (L' := [vr a0, vi l1, vi l2, vi 0]) rfl ?_
                refine wm_less (L' := [vr a0, vd, vd, vi 0]) ⟨Or.inr rfl, Or.inl rfl, Or.inl rfl, Or.inr rfl, trivial⟩ ?_
                exact hJ 0 (if_pos (Or.inr ⟨c35, (Or.inr ⟨c38, (Or.inr ⟨c41, (Or.inr ⟨c44, (Or.inr ⟨c47, c49⟩)⟩)⟩)⟩)⟩)).symm
              · refine wm_iconst d_Ma_relate_185 ?_
                refine wm_goto (tgt := 190) d_Ma_relate_186 rfl ?_
                refine wm_istore_n d_Ma_relate_190 rfl (by decide) (L' := [vr a0, vi l1, vi l2, vi 1]) rfl ?_
                refine wm_less (L' := [vr a0, vd, vd, vi 1]) ⟨Or.inr rfl, Or.inl rfl, Or.inl rfl, Or.inr rfl, trivial⟩ ?_
                exact hJ 1 (if_neg (fun z91 => Or.elim z91 (fun w => c35 w.1) (fun w => (fun z92 => Or.elim z92 (fun w => c38 w.1) (fun w => (fun z93 => Or.elim z93 (fun w => c41 w.1) (fun w => (fun z94 => Or.elim z94 (fun w => c44 w.1) (fun w => (fun z95 => Or.elim z95 (fun w => c47 w.1) (fun w => c49 w.2)) w.2)) w.2)) w.2)) w.2))).symm
  clear h
  refine wm_icmp_eq (tgt := 12) d_Ma_relate_3 rfl hi_l1 ⟨by decide, by decide⟩ (fun c3 => ?_) (fun c3 => ?_)
  · exact hE0 (Or.inl c3)
  · refine wm_iload_n d_Ma_relate_6 rfl rfl ?_
    refine wm_bipush d_Ma_relate_7 (by decide) ?_
    refine wm_icmp_ne (tgt := 77) d_Ma_relate_9 rfl hi_l1 ⟨by decide, by decide⟩ (fun c2 => ?_) (fun c2 => ?_)
    · exact hE1 (fun z97 => Or.elim z97 c3 c2)
    · replace c2 := Classical.not_not.mp c2
      exact hE0 (Or.inr c2)
theorem k_Ma_relate_75 {G : mG} {d : Nat} {M : mM} {Q : Int → mM → Prop} (hO : mOk M)
    (h : Q 1 M) :
    h_Ma_relate_75 G d  M Q := by
  unfold h_Ma_relate_75
  refine wm_iconst d_Ma_relate_75 ?_
  refine wm_ireturn d_Ma_relate_76 rfl (m_nb (by decide)) ?_
  exact ⟨_, rfl, h⟩
theorem d_Na_init_0 : decode y_Na_init.2.1 0 = .ok (.aload_n 0, 1) := dc9_42 (by decide +kernel)
theorem d_Na_init_1 : decode y_Na_init.2.1 1 = .ok (.invokespecial 3, 3) := dc9_183 (by decide +kernel)
theorem d_Na_init_4 : decode y_Na_init.2.1 4 = .ok (.aload_n 0, 1) := dc9_42 (by decide +kernel)
theorem d_Na_init_5 : decode y_Na_init.2.1 5 = .ok (.iconst 4, 1) := dc9_7 (by decide +kernel)
theorem d_Na_init_6 : decode y_Na_init.2.1 6 = .ok (.newarray .int, 2) := by decide +kernel
theorem d_Na_init_8 : decode y_Na_init.2.1 8 = .ok (.putfield 9, 3) := dc9_181 (by decide +kernel)
theorem d_Na_init_11 : decode y_Na_init.2.1 11 = .ok (.aload_n 0, 1) := dc9_42 (by decide +kernel)
theorem d_Na_init_12 : decode y_Na_init.2.1 12 = .ok (.iconst 0, 1) := dc9_3 (by decide +kernel)
theorem d_Na_init_13 : decode y_Na_init.2.1 13 = .ok (.putfield 13, 3) := dc9_181 (by decide +kernel)
theorem d_Na_init_16 : decode y_Na_init.2.1 16 = .ok (.return_, 1) := dc9_177 (by decide +kernel)
theorem k_Na_init {G : mG} {d : Nat} {a0 : Nat} {M : mM} {Q : mM → Prop} (hO : mOk M)
    (h : 0 < a0 ∧ ∀ M2, M2 = mNew M 30 4 4 → mK M2 a0 = 10 ∧ ∀ M5, M5 = mUR M2 a0 0 (mZ M) → ∀ M7, M7 = mUI M5 a0 1 0 → Q M7) :
    Cv G y_Na_init (d + 1) [vr a0] M Q := by
  refine wm_open (y := y_Na_init) rfl (Nat.le_of_ble_eq_true rfl) (L := [vr a0]) rfl ?_
  obtain ⟨h1, h⟩ := h
  obtain ⟨M2, e3⟩ : ∃ M2, M2 = mNew M 30 4 4 := ⟨_, rfl⟩
  replace h := h M2 e3
  obtain ⟨h4, h⟩ := h
  obtain ⟨M5, e6⟩ : ∃ M5, M5 = mUR M2 a0 0 (mZ M) := ⟨_, rfl⟩
  replace h := h M5 e6
  obtain ⟨M7, e8⟩ : ∃ M7, M7 = mUI M5 a0 1 0 := ⟨_, rfl⟩
  replace h := h M7 e8
  refine wm_aload_n d_Na_init_0 rfl rfl ?_
  refine wm_objInit trivial k2_238 kO_inst kO_code (Nat.le_of_ble_eq_true rfl) d_Na_init_1 h1 ?_
  refine wm_aload_n d_Na_init_4 rfl rfl ?_
  refine wm_iconst d_Na_init_5 ?_
  have hOM2 : mOk M2 := by rw [e3]; exact mOk_New hO
  refine wm_newarrE 0 (atype := .int) (ty := .int) rfl rfl (fun _ => rfl) rfl rfl (by decide) k1_82 ⟨by decide, by decide⟩ d_Na_init_6 e3 ?_
  have hOM5 : mOk M5 := by rw [e6]; exact mOk_UR hOM2
  refine pf_Na_9 rfl d_Na_init_8 h4 e6 ?_
  refine wm_aload_n d_Na_init_11 rfl rfl ?_
  refine wm_iconst d_Na_init_12 ?_
  have hOM7 : mOk M7 := by rw [e8]; exact mOk_UI hOM5 ⟨by decide, by decide⟩
  refine pf_Na_13 rfl d_Na_init_13 (by rw [e6]; exact h4) ⟨by decide, by decide⟩ e8 ?_
  refine wm_return d_Na_init_16 rfl ?_
  exact ⟨rfl, h⟩
theorem d_Na_reserve_0 : decode y_Na_reserve.2.1 0 = .ok (.iload_n 1, 1) := dc9_27 (by decide +kernel)
theorem d_Na_reserve_1 : decode y_Na_reserve.2.1 1 = .ok (.aload_n 0, 1) := dc9_42 (by decide +kernel)
theorem d_Na_reserve_2 : decode y_Na_reserve.2.1 2 = .ok (.getfield 9, 3) := dc9_180 (by decide +kernel)
theorem d_Na_reserve_5 : decode y_Na_reserve.2.1 5 = .ok (.arraylength, 1) := dc9_190 (by decide +kernel)
theorem d_Na_reserve_6 : decode y_Na_reserve.2.1 6 = .ok (.if_icmp .le 25, 3) := dc9_164 (by decide +kernel)
theorem d_Na_reserve_9 : decode y_Na_reserve.2.1 9 = .ok (.aload_n 0, 1) := dc9_42 (by decide +kernel)
theorem d_Na_reserve_10 : decode y_Na_reserve.2.1 10 = .ok (.aload_n 0, 1) := dc9_42 (by decide +kernel)
theorem d_Na_reserve_11 : decode y_Na_reserve.2.1 11 = .ok (.getfield 9, 3) := dc9_180 (by decide +kernel)
theorem d_Na_reserve_14 : decode y_Na_reserve.2.1 14 = .ok (.iload_n 1, 1) := dc9_27 (by decide +kernel)
theorem d_Na_reserve_15 : decode y_Na_reserve.2.1 15 = .ok (.iconst 2, 1) := dc9_5 (by decide +kernel)
theorem d_Na_reserve_16 : decode y_Na_reserve.2.1 16 = .ok (.aload_n 0, 1) := dc9_42 (by decide +kernel)
theorem d_Na_reserve_17 : decode y_Na_reserve.2.1 17 = .ok (.getfield 9, 3) := dc9_180 (by decide +kernel)
theorem d_Na_reserve_20 : decode y_Na_reserve.2.1 20 = .ok (.arraylength, 1) := dc9_190 (by decide +kernel)
theorem d_Na_reserve_21 : decode y_Na_reserve.2.1 21 = .ok (.imul, 1) := dc9_104 (by decide +kernel)
theorem d_Na_reserve_22 : decode y_Na_reserve.2.1 22 = .ok (.invokestatic 17, 3) := dc9_184 (by decide +kernel)
theorem d_Na_reserve_31 : decode y_Na_reserve.2.1 31 = .ok (.return_, 1) := dc9_177 (by decide +kernel)
theorem d_Na_reserve_25 : decode y_Na_reserve.2.1 25 = .ok (.invokestatic 23, 3) := dc9_184 (by decide +kernel)
theorem d_Na_reserve_28 : decode y_Na_reserve.2.1 28 = .ok (.putfield 9, 3) := dc9_181 (by decide +kernel)
theorem k_Na_reserve {G : mG} {d : Nat} {a0 : Nat} {l1 : Int} {M : mM} {Q : mM → Prop} (hO : mOk M) (hi_l1 : i32 l1)
    (h : mK M a0 = 10 ∧ mK M (mR M a0 0) = 30 ∧ i32 (mN M (mR M a0 0) : Int) ∧ ((l1 ≤ (mN M (mR M a0 0) : Int)) → (Q M)) ∧ (¬ (l1 ≤ (mN M (mR M a0 0) : Int)) → (i32 (2 * (mN M (mR M a0 0) : Int)) ∧ Cr G y_JA_copyOf d [vr (mR M a0 0), vi (if l1 < 2 * (mN M (mR M a0 0) : Int) then 2 * (mN M (mR M a0 0) : Int) else l1)] M (fun x12 M11 => mOk M11 ∧ (mK M11 a0 = 10 ∧ ∀ M15, M15 = mUR M11 a0 0 x12 → Q M15))))) :
    Cv G y_Na_reserve (d + 1) [vr a0, vi l1] M Q := by
  refine wm_open (y := y_Na_reserve) rfl (Nat.le_of_ble_eq_true rfl) (L := [vr a0, vi l1]) rfl ?_
  obtain ⟨h1, h⟩ := h
  obtain ⟨h2, h⟩ := h
  obtain ⟨h8, h⟩ := h
  refine wm_iload_n d_Na_reserve_0 rfl rfl ?_
  refine wm_aload_n d_Na_reserve_1 rfl rfl ?_
  refine gf_Na_9 rfl d_Na_reserve_2 h1 ?_
  refine wm_alen 0 rfl (fun _ => rfl) d_Na_reserve_5 h2 ?_
  refine wm_icmp_le (tgt := 31) d_Na_reserve_6 rfl hi_l1 h8 (fun c9 => ?_) (fun c9 => ?_)
  · replace h := h.1 c9
    refine wm_return d_Na_reserve_31 rfl ?_
    exact ⟨rfl, h⟩
  · replace h := h.2 c9
    obtain ⟨h10, h⟩ := h
    refine wm_aload_n d_Na_reserve_9 rfl rfl ?_
    refine wm_aload_n d_Na_reserve_10 rfl rfl ?_
    refine gf_Na_9 rfl d_Na_reserve_11 h1 ?_
    refine wm_iload_n d_Na_reserve_14 rfl rfl ?_
    refine wm_iconst d_Na_reserve_15 ?_
    refine wm_aload_n d_Na_reserve_16 rfl rfl ?_
    refine gf_Na_9 rfl d_Na_reserve_17 h1 ?_
    refine wm_alen 0 rfl (fun _ => rfl) d_Na_reserve_20 h2 ?_
    refine wm_imul d_Na_reserve_21 ?_
    refine wm_mmax k5_191 (Nat.le_of_ble_eq_true rfl) hi_l1 h10 d_Na_reserve_22 ?_
    refine cf_Na_23 rfl d_Na_reserve_25 (Nat.le_of_ble_eq_true rfl) (Cr.mono h (fun x12 M11 h => ?_))
    obtain ⟨hOM11, h⟩ := h
    obtain ⟨h14, h⟩ := h
    obtain ⟨M15, e16⟩ : ∃ M15, M15 = mUR M11 a0 0 x12 := ⟨_, rfl⟩
    replace h := h M15 e16
    have hOM15 : mOk M15 := by rw [e16]; exact mOk_UR hOM11
    refine pf_Na_9 rfl d_Na_reserve_28 h14 e16 ?_
    refine wm_return d_Na_reserve_31 rfl ?_
    exact ⟨rfl, h⟩
theorem d_Na_trim_0 : decode y_Na_trim.2.1 0 = .ok (.aload_n 0, 1) := dc9_42 (by decide +kernel)
theorem d_Na_trim_1 : decode y_Na_trim.2.1 1 = .ok (.iload_n 1, 1) := dc9_27 (by decide +kernel)
theorem d_Na_trim_2 : decode y_Na_trim.2.1 2 = .ok (.putfield 13, 3) := dc9_181 (by decide +kernel)
theorem d_Na_trim_5 : decode y_Na_trim.2.1 5 = .ok (.aload_n 0, 1) := dc9_42 (by decide +kernel)
theorem d_Na_trim_6 : decode y_Na_trim.2.1 6 = .ok (.getfield 13, 3) := dc9_180 (by decide +kernel)
theorem d_Na_trim_9 : decode y_Na_trim.2.1 9 = .ok (.ifCond .le 30, 3) := dc9_158 (by decide +kernel)
theorem d_Na_trim_12 : decode y_Na_trim.2.1 12 = .ok (.aload_n 0, 1) := dc9_42 (by decide +kernel)
theorem d_Na_trim_13 : decode y_Na_trim.2.1 13 = .ok (.getfield 9, 3) := dc9_180 (by decide +kernel)
theorem d_Na_trim_16 : decode y_Na_trim.2.1 16 = .ok (.aload_n 0, 1) := dc9_42 (by decide +kernel)
theorem d_Na_trim_17 : decode y_Na_trim.2.1 17 = .ok (.getfield 13, 3) := dc9_180 (by decide +kernel)
theorem d_Na_trim_20 : decode y_Na_trim.2.1 20 = .ok (.iconst 1, 1) := dc9_4 (by decide +kernel)
theorem d_Na_trim_21 : decode y_Na_trim.2.1 21 = .ok (.isub, 1) := dc9_100 (by decide +kernel)
theorem d_Na_trim_22 : decode y_Na_trim.2.1 22 = .ok (.iaload, 1) := dc9_46 (by decide +kernel)
theorem d_Na_trim_23 : decode y_Na_trim.2.1 23 = .ok (.ifCond .ne 16, 3) := dc9_154 (by decide +kernel)
theorem d_Na_trim_26 : decode y_Na_trim.2.1 26 = .ok (.aload_n 0, 1) := dc9_42 (by decide +kernel)
theorem d_Na_trim_27 : decode y_Na_trim.2.1 27 = .ok (.dup, 1) := dc9_89 (by decide +kernel)
theorem d_Na_trim_28 : decode y_Na_trim.2.1 28 = .ok (.getfield 13, 3) := dc9_180 (by decide +kernel)
theorem d_Na_trim_31 : decode y_Na_trim.2.1 31 = .ok (.iconst 1, 1) := dc9_4 (by decide +kernel)
theorem d_Na_trim_32 : decode y_Na_trim.2.1 32 = .ok (.isub, 1) := dc9_100 (by decide +kernel)
theorem d_Na_trim_33 : decode y_Na_trim.2.1 33 = .ok (.putfield 13, 3) := dc9_181 (by decide +kernel)
theorem d_Na_trim_36 : decode y_Na_trim.2.1 36 = .ok (.goto (-31), 3) := dc9_167 (by decide +kernel)
theorem d_Na_trim_39 : decode y_Na_trim.2.1 39 = .ok (.return_, 1) := dc9_177 (by decide +kernel)
def h_Na_trim_5 (G : mG) (d : Nat) (a0 : Nat) (M : mM) (Q : mM → Prop) : Prop := mWm G y_Na_trim d 5 [vr a0, vd] [] M (fun r9 M9 => r9 = none ∧ Q M9)
theorem k_Na_trim {G : mG} {d : Nat} {a0 : Nat} {l1 : Int} {M : mM} {Q : mM → Prop} (hO : mOk M) (hi_l1 : i32 l1)
    (h : mK M a0 = 10 ∧ ∀ M2, M2 = mUI M a0 1 l1 → h_Na_trim_5 G d a0 M2 Q) :
    Cv G y_Na_trim d [vr a0, vi l1] M Q := by
  refine wm_open (y := y_Na_trim) rfl (Nat.le_of_ble_eq_true rfl) (L := [vr a0, vi l1]) rfl ?_
  obtain ⟨h1, h⟩ := h
  obtain ⟨M2, e3⟩ : ∃ M2, M2 = mUI M a0 1 l1 := ⟨_, rfl⟩
  replace h := h M2 e3
  refine wm_aload_n d_Na_trim_0 rfl rfl ?_
  refine wm_iload_n d_Na_trim_1 rfl rfl ?_
  have hOM2 : mOk M2 := by rw [e3]; exact mOk_UI hO hi_l1
  refine pf_Na_13 rfl d_Na_trim_2 h1 hi_l1 e3 ?_
  refine wm_less (L' := [vr a0, vd]) ⟨Or.inr rfl, Or.inl rfl, trivial⟩ ?_
  exact h
theorem k_Na_trim_5 {G : mG} {d : Nat} {a0 : Nat} {M : mM} {Q : mM → Prop} (hO : mOk M)
    (h : mK M a0 = 10 ∧ (¬ (mI M a0 1 ≤ 0) → (mK M (mR M a0 0) = 30 ∧ ((0 : Int) ≤ (mI M a0 1) - 1 ∧ (mI M a0 1) - 1 < (mN M (mR M a0 0) : Int)))) ∧ (((mI M a0 1 ≤ 0) ∨ (¬ (mI M (mR M a0 0) (Int.toNat ((mI M a0 1) - 1)) = 0))) → (Q M)) ∧ (¬ ((mI M a0 1 ≤ 0) ∨ (¬ (mI M (mR M a0 0) (Int.toNat ((mI M a0 1) - 1)) = 0))) → (i32 ((mI M a0 1) - 1) ∧ ∀ M14, M14 = mUI M a0 1 ((mI M a0 1) - 1) → h_Na_trim_5 G d a0 M14 Q))) :
    h_Na_trim_5 G d a0 M Q := by
  unfold h_Na_trim_5
  obtain ⟨h4, h⟩ := h
  refine wm_aload_n d_Na_trim_5 rfl rfl ?_
  refine gf_Na_13 rfl d_Na_trim_6 h4 ?_
  obtain ⟨s10, h⟩ := h
  have hE0 : ((mI M a0 1 ≤ 0) ∨ (¬ (mI M (mR M a0 0) (Int.toNat ((mI M a0 1) - 1)) = 0))) → mWm G y_Na_trim d 39 [vr a0, vd] [] M (fun r9 M9 => r9 = none ∧ Q M9) := by
    intro q11
    have h := h.1 q11
    refine wm_return d_Na_trim_39 rfl ?_
    exact ⟨rfl, h⟩
  have hE1 : ¬ ((mI M a0 1 ≤ 0) ∨ (¬ (mI M (mR M a0 0) (Int.toNat ((mI M a0 1) - 1)) = 0))) → mWm G y_Na_trim d 26 [vr a0, vd] [] M (fun r9 M9 => r9 = none ∧ Q M9) := by
    intro q12
    have h := h.2 q12
    obtain ⟨h13, h⟩ := h
    obtain ⟨M14, e15⟩ : ∃ M14, M14 = mUI M a0 1 ((mI M a0 1) - 1) := ⟨_, rfl⟩
    replace h := h M14 e15
    refine wm_aload_n d_Na_trim_26 rfl rfl ?_
    refine wm_dup d_Na_trim_27 rfl ?_
    refine gf_Na_13 rfl d_Na_trim_28 h4 ?_
    refine wm_iconst d_Na_trim_31 ?_
    refine wm_isub d_Na_trim_32 ?_
    have hOM14 : mOk M14 := by rw [e15]; exact mOk_UI hO h13
    refine pf_Na_13 rfl d_Na_trim_33 h4 h13 e15 ?_
    refine wm_goto (tgt := 5) d_Na_trim_36 rfl ?_
    exact h
  clear h
  have s16 := s10
  refine wm_if_le (tgt := 39) d_Na_trim_9 rfl (hO _ _).1 (fun c9 => ?_) (fun c9 => ?_)
  · exact hE0 (Or.inl c9)
  · have s16 := s16 c9
    obtain ⟨h5, h6⟩ := s16
    refine wm_aload_n d_Na_trim_12 rfl rfl ?_
    refine gf_Na_9 rfl d_Na_trim_13 h4 ?_
    refine wm_aload_n d_Na_trim_16 rfl rfl ?_
    refine gf_Na_13 rfl d_Na_trim_17 h4 ?_
    refine wm_iconst d_Na_trim_20 ?_
    refine wm_isub d_Na_trim_21 ?_
    refine wm_iald d_Na_trim_22 h5 h6 ?_
    refine wm_if_ne (tgt := 39) d_Na_trim_23 rfl (hO _ _).1 (fun c8 => ?_) (fun c8 => ?_)
    · exact hE0 (Or.inr c8)
    · replace c8 := Classical.not_not.mp c8
      exact hE1 (fun z17 => Or.elim z17 c9 (fun z18 => z18 c8))
theorem d_Na_put0_0 : decode y_Na_put0.2.1 0 = .ok (.aload_n 0, 1) := dc9_42 (by decide +kernel)
theorem d_Na_put0_1 : decode y_Na_put0.2.1 1 = .ok (.getfield 9, 3) := dc9_180 (by decide +kernel)
theorem d_Na_put0_4 : decode y_Na_put0.2.1 4 = .ok (.iconst 0, 1) := dc9_3 (by decide +kernel)
theorem d_Na_put0_5 : decode y_Na_put0.2.1 5 = .ok (.iload_n 1, 1) := dc9_27 (by decide +kernel)
theorem d_Na_put0_6 : decode y_Na_put0.2.1 6 = .ok (.iastore, 1) := dc9_79 (by decide +kernel)
theorem d_Na_put0_7 : decode y_Na_put0.2.1 7 = .ok (.aload_n 0, 1) := dc9_42 (by decide +kernel)
theorem d_Na_put0_8 : decode y_Na_put0.2.1 8 = .ok (.iload_n 1, 1) := dc9_27 (by decide +kernel)
theorem d_Na_put0_9 : decode y_Na_put0.2.1 9 = .ok (.ifCond .ne 7, 3) := dc9_154 (by decide +kernel)
theorem d_Na_put0_12 : decode y_Na_put0.2.1 12 = .ok (.iconst 0, 1) := dc9_3 (by decide +kernel)
theorem d_Na_put0_13 : decode y_Na_put0.2.1 13 = .ok (.goto 4, 3) := dc9_167 (by decide +kernel)
theorem d_Na_put0_16 : decode y_Na_put0.2.1 16 = .ok (.iconst 1, 1) := dc9_4 (by decide +kernel)
theorem d_Na_put0_17 : decode y_Na_put0.2.1 17 = .ok (.putfield 13, 3) := dc9_181 (by decide +kernel)
theorem d_Na_put0_20 : decode y_Na_put0.2.1 20 = .ok (.return_, 1) := dc9_177 (by decide +kernel)
theorem k_Na_put0 {G : mG} {d : Nat} {a0 : Nat} {l1 : Int} {M : mM} {Q : mM → Prop} (hO : mOk M) (hi_l1 : i32 l1)
    (h : mK M a0 = 10 ∧ mK M (mR M a0 0) = 30 ∧ ((0 : Int) ≤ 0 ∧ 0 < (mN M (mR M a0 0) : Int)) ∧ ∀ M4, M4 = mUI M (mR M a0 0) 0 l1 → ∀ v7 : Int, v7 = (if (l1 = 0) then 0 else 1) → ∀ M12, M12 = mUI M4 a0 1 v7 → Q M12) :
    Cv G y_Na_put0 d [vr a0, vi l1] M Q := by
  refine wm_open (y := y_Na_put0) rfl (Nat.le_of_ble_eq_true rfl) (L := [vr a0, vi l1]) rfl ?_
  obtain ⟨h1, h⟩ := h
  obtain ⟨h2, h⟩ := h
  obtain ⟨h3, h⟩ := h
  obtain ⟨M4, e5⟩ : ∃ M4, M4 = mUI M (mR M a0 0) 0 l1 := ⟨_, rfl⟩
  replace h := h M4 e5
  refine wm_aload_n d_Na_put0_0 rfl rfl ?_
  refine gf_Na_9 rfl d_Na_put0_1 h1 ?_
  refine wm_iconst d_Na_put0_4 ?_
  refine wm_iload_n d_Na_put0_5 rfl rfl ?_
  have hOM4 : mOk M4 := by rw [e5]; exact mOk_UI hO hi_l1
  refine wm_iastE d_Na_put0_6 h2 h3 hi_l1 e5 ?_
  refine wm_aload_n d_Na_put0_7 rfl rfl ?_
  refine wm_iload_n d_Na_put0_8 rfl rfl ?_
  have hJ : ∀ v7 : Int, v7 = (if (l1 = 0) then 0 else 1) → mWm G y_Na_put0 d 17 [vd, vd] [vi v7, vr a0] M4 (fun r9 M9 => r9 = none ∧ Q M9) := by
    intro v7 e9
    have h := h v7 e9
    have h10 : i32 v7 := by rw [e9]; (repeat' split) <;> first | exact ⟨by decide, by decide⟩ | exact ⟨by decide, by decide⟩
    have h11 : (v7 = 0 ∨ v7 = 1) := by rw [e9]; (repeat' split) <;> decide
    obtain ⟨M12, e13⟩ : ∃ M12, M12 = mUI M4 a0 1 v7 := ⟨_, rfl⟩
    replace h := h M12 e13
    have hOM12 : mOk M12 := by rw [e13]; exact mOk_UI hOM4 h10
    refine pf_Na_13 rfl d_Na_put0_17 (by rw [e5]; exact h1) h10 e13 ?_
    refine wm_return d_Na_put0_20 rfl ?_
    exact ⟨rfl, h⟩
  clear h
  refine wm_if_ne (tgt := 16) d_Na_put0_9 rfl hi_l1 (fun c6 => ?_) (fun c6 => ?_)
  · refine wm_iconst d_Na_put0_16 ?_
    refine wm_less (L' := [vd, vd]) ⟨Or.inl rfl, Or.inl rfl, trivial⟩ ?_
    exact hJ 1 (if_neg c6).symm
  · replace c6 := Classical.not_not.mp c6
    refine wm_iconst d_Na_put0_12 ?_
    refine wm_goto (tgt := 17) d_Na_put0_13 rfl ?_
    refine wm_less (L' := [vd, vd]) ⟨Or.inl rfl, Or.inl rfl, trivial⟩ ?_
    exact hJ 0 (if_pos c6).symm
theorem d_Na_putLong_0 : decode y_Na_putLong.2.1 0 = .ok (.aload_n 0, 1) := dc9_42 (by decide +kernel)
theorem d_Na_putLong_1 : decode y_Na_putLong.2.1 1 = .ok (.getfield 9, 3) := dc9_180 (by decide +kernel)
theorem d_Na_putLong_4 : decode y_Na_putLong.2.1 4 = .ok (.iconst 0, 1) := dc9_3 (by decide +kernel)
theorem d_Na_putLong_5 : decode y_Na_putLong.2.1 5 = .ok (.lload_n 1, 1) := dc9_31 (by decide +kernel)
theorem d_Na_putLong_6 : decode y_Na_putLong.2.1 6 = .ok (.ldc2_w 29, 3) := dc9_20 (by decide +kernel)
theorem d_Na_putLong_9 : decode y_Na_putLong.2.1 9 = .ok (.land, 1) := dc9_127 (by decide +kernel)
theorem d_Na_putLong_10 : decode y_Na_putLong.2.1 10 = .ok (.l2i, 1) := dc9_136 (by decide +kernel)
theorem d_Na_putLong_11 : decode y_Na_putLong.2.1 11 = .ok (.iastore, 1) := dc9_79 (by decide +kernel)
theorem d_Na_putLong_12 : decode y_Na_putLong.2.1 12 = .ok (.aload_n 0, 1) := dc9_42 (by decide +kernel)
theorem d_Na_putLong_13 : decode y_Na_putLong.2.1 13 = .ok (.getfield 9, 3) := dc9_180 (by decide +kernel)
theorem d_Na_putLong_16 : decode y_Na_putLong.2.1 16 = .ok (.iconst 1, 1) := dc9_4 (by decide +kernel)
theorem d_Na_putLong_17 : decode y_Na_putLong.2.1 17 = .ok (.lload_n 1, 1) := dc9_31 (by decide +kernel)
theorem d_Na_putLong_18 : decode y_Na_putLong.2.1 18 = .ok (.bipush 30, 2) := dc9_16 (by decide +kernel)
theorem d_Na_putLong_20 : decode y_Na_putLong.2.1 20 = .ok (.lushr, 1) := dc9_125 (by decide +kernel)
theorem d_Na_putLong_21 : decode y_Na_putLong.2.1 21 = .ok (.l2i, 1) := dc9_136 (by decide +kernel)
theorem d_Na_putLong_22 : decode y_Na_putLong.2.1 22 = .ok (.iastore, 1) := dc9_79 (by decide +kernel)
theorem d_Na_putLong_23 : decode y_Na_putLong.2.1 23 = .ok (.aload_n 0, 1) := dc9_42 (by decide +kernel)
theorem d_Na_putLong_24 : decode y_Na_putLong.2.1 24 = .ok (.iconst 2, 1) := dc9_5 (by decide +kernel)
theorem d_Na_putLong_25 : decode y_Na_putLong.2.1 25 = .ok (.invokevirtual 31, 3) := dc9_182 (by decide +kernel)
theorem d_Na_putLong_28 : decode y_Na_putLong.2.1 28 = .ok (.return_, 1) := dc9_177 (by decide +kernel)
theorem k_Na_putLong {G : mG} {d : Nat} {a0 : Nat} {j1 : Int} {M : mM} {Q : mM → Prop} (hO : mOk M) (hi_j1 : i64 j1)
    (h : mK M a0 = 10 ∧ mK M (mR M a0 0) = 30 ∧ ((0 : Int) ≤ 0 ∧ 0 < (mN M (mR M a0 0) : Int)) ∧ i32 (andL j1 1073741823) ∧ ∀ M5, M5 = mUI M (mR M a0 0) 0 (andL j1 1073741823) → mK M5 (mR M5 a0 0) = 30 ∧ ((0 : Int) ≤ 1 ∧ 1 < (mN M5 (mR M5 a0 0) : Int)) ∧ i32 (ushrL j1 30) ∧ ∀ M10, M10 = mUI M5 (mR M5 a0 0) 1 (ushrL j1 30) → Cv G y_Na_trim d [vr a0, vi 2] M10 (fun M12 => mOk M12 ∧ (Q M12))) :
    Cv G y_Na_putLong (d + 1) [vr a0, vl j1] M Q := by
  refine wm_open (y := y_Na_putLong) rfl (Nat.le_of_ble_eq_true rfl) (L := [vr a0, vl j1, vd]) rfl ?_
  obtain ⟨h1, h⟩ := h
  obtain ⟨h2, h⟩ := h
  obtain ⟨h3, h⟩ := h
  obtain ⟨h4, h⟩ := h
  obtain ⟨M5, e6⟩ : ∃ M5, M5 = mUI M (mR M a0 0) 0 (andL j1 1073741823) := ⟨_, rfl⟩
  replace h := h M5 e6
  obtain ⟨h7, h⟩ := h
  obtain ⟨h8, h⟩ := h
  obtain ⟨h9, h⟩ := h
  obtain ⟨M10, e11⟩ : ∃ M10, M10 = mUI M5 (mR M5 a0 0) 1 (ushrL j1 30) := ⟨_, rfl⟩
  replace h := h M10 e11
  refine wm_aload_n d_Na_putLong_0 rfl rfl ?_
  refine gf_Na_9 rfl d_Na_putLong_1 h1 ?_
  refine wm_iconst d_Na_putLong_4 ?_
  refine wm_lload_n d_Na_putLong_5 rfl rfl ?_
  refine wm_ldc2 (x := 1073741823) d_Na_putLong_6 k5_202 (by decide) ?_
  refine wm_land d_Na_putLong_9 ?_
  refine wm_l2i d_Na_putLong_10 ?_
  have hOM5 : mOk M5 := by rw [e6]; exact mOk_UI hO h4
  refine wm_iastE d_Na_putLong_11 h2 h3 h4 e6 ?_
  refine wm_aload_n d_Na_putLong_12 rfl rfl ?_
  refine gf_Na_9 rfl d_Na_putLong_13 (by rw [e6]; exact h1) ?_
  refine wm_iconst d_Na_putLong_16 ?_
  refine wm_lload_n d_Na_putLong_17 rfl rfl ?_
  refine wm_bipush d_Na_putLong_18 (by decide) ?_
  refine wm_lushr d_Na_putLong_20 ?_
  refine wm_l2i d_Na_putLong_21 ?_
  have hOM10 : mOk M10 := by rw [e11]; exact mOk_UI hOM5 h9
  refine wm_iastE d_Na_putLong_22 h7 h8 h9 e11 ?_
  refine wm_aload_n d_Na_putLong_23 rfl rfl ?_
  refine wm_iconst d_Na_putLong_24 ?_
  refine cf_Na_31 rfl d_Na_putLong_25 (by rw [e11, e6]; exact h1) (Nat.le_of_ble_eq_true rfl) (Cv.mono h (fun M12 h => ?_))
  obtain ⟨hOM12, h⟩ := h
  refine wm_return d_Na_putLong_28 rfl ?_
  exact ⟨rfl, h⟩
theorem d_Na_put1_0 : decode y_Na_put1.2.1 0 = .ok (.aload_n 1, 1) := dc9_43 (by decide +kernel)
theorem d_Na_put1_1 : decode y_Na_put1.2.1 1 = .ok (.getfield 13, 3) := dc9_180 (by decide +kernel)
theorem d_Na_put1_4 : decode y_Na_put1.2.1 4 = .ok (.aload_n 0, 1) := dc9_42 (by decide +kernel)
theorem d_Na_put1_5 : decode y_Na_put1.2.1 5 = .ok (.getfield 9, 3) := dc9_180 (by decide +kernel)
theorem d_Na_put1_8 : decode y_Na_put1.2.1 8 = .ok (.arraylength, 1) := dc9_190 (by decide +kernel)
theorem d_Na_put1_9 : decode y_Na_put1.2.1 9 = .ok (.if_icmp .le 23, 3) := dc9_164 (by decide +kernel)
theorem d_Na_put1_12 : decode y_Na_put1.2.1 12 = .ok (.aload_n 0, 1) := dc9_42 (by decide +kernel)
theorem d_Na_put1_13 : decode y_Na_put1.2.1 13 = .ok (.aload_n 1, 1) := dc9_43 (by decide +kernel)
theorem d_Na_put1_14 : decode y_Na_put1.2.1 14 = .ok (.getfield 13, 3) := dc9_180 (by decide +kernel)
theorem d_Na_put1_17 : decode y_Na_put1.2.1 17 = .ok (.iconst 2, 1) := dc9_5 (by decide +kernel)
theorem d_Na_put1_18 : decode y_Na_put1.2.1 18 = .ok (.aload_n 0, 1) := dc9_42 (by decide +kernel)
theorem d_Na_put1_19 : decode y_Na_put1.2.1 19 = .ok (.getfield 9, 3) := dc9_180 (by decide +kernel)
theorem d_Na_put1_22 : decode y_Na_put1.2.1 22 = .ok (.arraylength, 1) := dc9_190 (by decide +kernel)
theorem d_Na_put1_23 : decode y_Na_put1.2.1 23 = .ok (.imul, 1) := dc9_104 (by decide +kernel)
theorem d_Na_put1_24 : decode y_Na_put1.2.1 24 = .ok (.invokestatic 17, 3) := dc9_184 (by decide +kernel)
theorem d_Na_put1_32 : decode y_Na_put1.2.1 32 = .ok (.aload_n 1, 1) := dc9_43 (by decide +kernel)
theorem d_Na_put1_33 : decode y_Na_put1.2.1 33 = .ok (.getfield 9, 3) := dc9_180 (by decide +kernel)
theorem d_Na_put1_36 : decode y_Na_put1.2.1 36 = .ok (.iconst 0, 1) := dc9_3 (by decide +kernel)
theorem d_Na_put1_37 : decode y_Na_put1.2.1 37 = .ok (.aload_n 0, 1) := dc9_42 (by decide +kernel)
theorem d_Na_put1_38 : decode y_Na_put1.2.1 38 = .ok (.getfield 9, 3) := dc9_180 (by decide +kernel)
theorem d_Na_put1_41 : decode y_Na_put1.2.1 41 = .ok (.iconst 0, 1) := dc9_3 (by decide +kernel)
theorem d_Na_put1_42 : decode y_Na_put1.2.1 42 = .ok (.aload_n 1, 1) := dc9_43 (by decide +kernel)
theorem d_Na_put1_43 : decode y_Na_put1.2.1 43 = .ok (.getfield 13, 3) := dc9_180 (by decide +kernel)
theorem d_Na_put1_46 : decode y_Na_put1.2.1 46 = .ok (.invokestatic 35, 3) := dc9_184 (by decide +kernel)
theorem d_Na_put1_49 : decode y_Na_put1.2.1 49 = .ok (.aload_n 0, 1) := dc9_42 (by decide +kernel)
theorem d_Na_put1_50 : decode y_Na_put1.2.1 50 = .ok (.aload_n 1, 1) := dc9_43 (by decide +kernel)
theorem d_Na_put1_51 : decode y_Na_put1.2.1 51 = .ok (.getfield 13, 3) := dc9_180 (by decide +kernel)
theorem d_Na_put1_54 : decode y_Na_put1.2.1 54 = .ok (.putfield 13, 3) := dc9_181 (by decide +kernel)
theorem d_Na_put1_57 : decode y_Na_put1.2.1 57 = .ok (.return_, 1) := dc9_177 (by decide +kernel)
theorem d_Na_put1_27 : decode y_Na_put1.2.1 27 = .ok (.newarray .int, 2) := by decide +kernel
theorem d_Na_put1_29 : decode y_Na_put1.2.1 29 = .ok (.putfield 9, 3) := dc9_181 (by decide +kernel)
theorem k_Na_put1 {G : mG} {d : Nat} {a0 : Nat} {a1 : Nat} {M : mM} {Q : mM → Prop} (hO : mOk M)
    (h : mK M a1 = 10 ∧ mK M a0 = 10 ∧ mK M (mR M a0 0) = 30 ∧ i32 (mN M (mR M a0 0) : Int) ∧ ((mI M a1 1 ≤ (mN M (mR M a0 0) : Int)) → (mK M (mR M a1 0) = 30 ∧ ((0 : Int) ≤ 0 ∧ (0 : Int) ≤ 0 ∧ (0 : Int) ≤ mI M a1 1 ∧ 0 + (mI M a1 1) ≤ (mN M (mR M a1 0) : Int) ∧ 0 + (mI M a1 1) ≤ (mN M (mR M a0 0) : Int)) ∧ ∀ M13, M13 = mCpy M (mR M a1 0) (mR M a0 0) 0 0 (Int.toNat (mI M a1 1)) → ∀ M15, M15 = mUI M13 a0 1 (mI M13 a1 1) → Q M15)) ∧ (¬ (mI M a1 1 ≤ (mN M (mR M a0 0) : Int)) → (i32 (2 * (mN M (mR M a0 0) : Int)) ∧ ((0 : Int) ≤ (if mI M a1 1 < 2 * (mN M (mR M a0 0) : Int) then 2 * (mN M (mR M a0 0) : Int) else mI M a1 1) ∧ (if mI M a1 1 < 2 * (mN M (mR M a0 0) : Int) then 2 * (mN M (mR M a0 0) : Int) else mI M a1 1) ≤ 16777216) ∧ ∀ M19, M19 = mNew M 30 (Int.toNat (if mI M a1 1 < 2 * (mN M (mR M a0 0) : Int) then 2 * (mN M (mR M a0 0) : Int) else mI M a1 1)) (Int.toNat (if mI M a1 1 < 2 * (mN M (mR M a0 0) : Int) then 2 * (mN M (mR M a0 0) : Int) else mI M a1 1)) → mK M19 a0 = 10 ∧ ∀ M22, M22 = mUR M19 a0 0 (mZ M) → mK M22 a1 = 10 ∧ mK M22 (mR M22 a1 0) = 30 ∧ mK M22 (mR M22 a0 0) = 30 ∧ ((0 : Int) ≤ 0 ∧ (0 : Int) ≤ 0 ∧ (0 : Int) ≤ mI M22 a1 1 ∧ 0 + (mI M22 a1 1) ≤ (mN M22 (mR M22 a1 0) : Int) ∧ 0 + (mI M22 a1 1) ≤ (mN M22 (mR M22 a0 0) : Int)) ∧ ∀ M28, M28 = mCpy M22 (mR M22 a1 0) (mR M22 a0 0) 0 0 (Int.toNat (mI M22 a1 1)) → ∀ M30, M30 = mUI M28 a0 1 (mI M28 a1 1) → Q M30))) :
    Cv G y_Na_put1 (d + 1) [vr a0, vr a1] M Q := by
  refine wm_open (y := y_Na_put1) rfl (Nat.le_of_ble_eq_true rfl) (L := [vr a0, vr a1]) rfl ?_
  obtain ⟨h1, h⟩ := h
  obtain ⟨h2, h⟩ := h
  obtain ⟨h3, h⟩ := h
  obtain ⟨h9, h⟩ := h
  refine wm_aload_n d_Na_put1_0 rfl rfl ?_
  refine gf_Na_13 rfl d_Na_put1_1 h1 ?_
  refine wm_aload_n d_Na_put1_4 rfl rfl ?_
  refine gf_Na_9 rfl d_Na_put1_5 h2 ?_
  refine wm_alen 0 rfl (fun _ => rfl) d_Na_put1_8 h3 ?_
  refine wm_icmp_le (tgt := 32) d_Na_put1_9 rfl (hO _ _).1 h9 (fun c10 => ?_) (fun c10 => ?_)
  · replace h := h.1 c10
    obtain ⟨h11, h⟩ := h
    obtain ⟨h12, h⟩ := h
    obtain ⟨M13, e14⟩ : ∃ M13, M13 = mCpy M (mR M a1 0) (mR M a0 0) 0 0 (Int.toNat (mI M a1 1)) := ⟨_, rfl⟩
    replace h := h M13 e14
    obtain ⟨M15, e16⟩ : ∃ M15, M15 = mUI M13 a0 1 (mI M13 a1 1) := ⟨_, rfl⟩
    replace h := h M15 e16
    refine wm_aload_n d_Na_put1_32 rfl rfl ?_
    refine gf_Na_9 rfl d_Na_put1_33 h1 ?_
    refine wm_iconst d_Na_put1_36 ?_
    refine wm_aload_n d_Na_put1_37 rfl rfl ?_
    refine gf_Na_9 rfl d_Na_put1_38 h2 ?_
    refine wm_iconst d_Na_put1_41 ?_
    refine wm_aload_n d_Na_put1_42 rfl rfl ?_
    refine gf_Na_13 rfl d_Na_put1_43 h1 ?_
    have hOM13 : mOk M13 := by rw [e14]; exact mOk_Cpy hO
    refine wm_copyi k5_192 (Nat.le_of_ble_eq_true rfl) h11 h3 h12 d_Na_put1_46 e14 ?_
    refine wm_aload_n d_Na_put1_49 rfl rfl ?_
    refine wm_aload_n d_Na_put1_50 rfl rfl ?_
    refine gf_Na_13 rfl d_Na_put1_51 (by rw [e14]; exact h1) ?_
    have hOM15 : mOk M15 := by rw [e16]; exact mOk_UI hOM13 (hOM13 _ _).1
    refine pf_Na_13 rfl d_Na_put1_54 (by rw [e14]; exact h2) (hOM13 _ _).1 e16 ?_
    refine wm_return d_Na_put1_57 rfl ?_
    exact ⟨rfl, h⟩
  · replace h := h.2 c10
    obtain ⟨h17, h⟩ := h
    obtain ⟨h18, h⟩ := h
    obtain ⟨M19, e20⟩ : ∃ M19, M19 = mNew M 30 (Int.toNat (if mI M a1 1 < 2 * (mN M (mR M a0 0) : Int) then 2 * (mN M (mR M a0 0) : Int) else mI M a1 1)) (Int.toNat (if mI M a1 1 < 2 * (mN M (mR M a0 0) : Int) then 2 * (mN M (mR M a0 0) : Int) else mI M a1 1)) := ⟨_, rfl⟩
    replace h := h M19 e20
    obtain ⟨h21, h⟩ := h
    obtain ⟨M22, e23⟩ : ∃ M22, M22 = mUR M19 a0 0 (mZ M) := ⟨_, rfl⟩
    replace h := h M22 e23
    obtain ⟨h24, h⟩ := h
    obtain ⟨h25, h⟩ := h
    obtain ⟨h26, h⟩ := h
    obtain ⟨h27, h⟩ := h
    obtain ⟨M28, e29⟩ : ∃ M28, M28 = mCpy M22 (mR M22 a1 0) (mR M22 a0 0) 0 0 (Int.toNat (mI M22 a1 1)) := ⟨_, rfl⟩
    replace h := h M28 e29
    obtain ⟨M30, e31⟩ : ∃ M30, M30 = mUI M28 a0 1 (mI M28 a1 1) := ⟨_, rfl⟩
    replace h := h M30 e31
    refine wm_aload_n d_Na_put1_12 rfl rfl ?_
    refine wm_aload_n d_Na_put1_13 rfl rfl ?_
    refine gf_Na_13 rfl d_Na_put1_14 h1 ?_
    refine wm_iconst d_Na_put1_17 ?_
    refine wm_aload_n d_Na_put1_18 rfl rfl ?_
    refine gf_Na_9 rfl d_Na_put1_19 h2 ?_
    refine wm_alen 0 rfl (fun _ => rfl) d_Na_put1_22 h3 ?_
    refine wm_imul d_Na_put1_23 ?_
    refine wm_mmax k5_191 (Nat.le_of_ble_eq_true rfl) (hO _ _).1 h17 d_Na_put1_24 ?_
    have hOM19 : mOk M19 := by rw [e20]; exact mOk_New hO
    refine wm_newarrE 0 (atype := .int) (ty := .int) rfl rfl (fun _ => rfl) rfl rfl (by decide) k1_82 h18 d_Na_put1_27 e20 ?_
    have hOM22 : mOk M22 := by rw [e23]; exact mOk_UR hOM19
    refine pf_Na_9 rfl d_Na_put1_29 h21 e23 ?_
    refine wm_aload_n d_Na_put1_32 rfl rfl ?_
    refine gf_Na_9 rfl d_Na_put1_33 h24 ?_
    refine wm_iconst d_Na_put1_36 ?_
    refine wm_aload_n d_Na_put1_37 rfl rfl ?_
    refine gf_Na_9 rfl d_Na_put1_38 (by rw [e23]; exact h21) ?_
    refine wm_iconst d_Na_put1_41 ?_
    refine wm_aload_n d_Na_put1_42 rfl rfl ?_
    refine gf_Na_13 rfl d_Na_put1_43 h24 ?_
    have hOM28 : mOk M28 := by rw [e29]; exact mOk_Cpy hOM22
    refine wm_copyi k5_192 (Nat.le_of_ble_eq_true rfl) h25 h26 h27 d_Na_put1_46 e29 ?_
    refine wm_aload_n d_Na_put1_49 rfl rfl ?_
    refine wm_aload_n d_Na_put1_50 rfl rfl ?_
    refine gf_Na_13 rfl d_Na_put1_51 (by rw [e29]; exact h24) ?_
    have hOM30 : mOk M30 := by rw [e31]; exact mOk_UI hOM28 (hOM28 _ _).1
    refine pf_Na_13 rfl d_Na_put1_54 (by rw [e29, e23]; exact h21) (hOM28 _ _).1 e31 ?_
    refine wm_return d_Na_put1_57 rfl ?_
    exact ⟨rfl, h⟩
theorem d_Na_isOne_0 : decode y_Na_isOne.2.1 0 = .ok (.aload_n 0, 1) := dc9_42 (by decide +kernel)
theorem d_Na_isOne_1 : decode y_Na_isOne.2.1 1 = .ok (.getfield 13, 3) := dc9_180 (by decide +kernel)
theorem d_Na_isOne_4 : decode y_Na_isOne.2.1 4 = .ok (.iconst 1, 1) := dc9_4 (by decide +kernel)
theorem d_Na_isOne_5 : decode y_Na_isOne.2.1 5 = .ok (.if_icmp .ne 17, 3) := dc9_160 (by decide +kernel)
theorem d_Na_isOne_8 : decode y_Na_isOne.2.1 8 = .ok (.aload_n 0, 1) := dc9_42 (by decide +kernel)
theorem d_Na_isOne_9 : decode y_Na_isOne.2.1 9 = .ok (.getfield 9, 3) := dc9_180 (by decide +kernel)
theorem d_Na_isOne_12 : decode y_Na_isOne.2.1 12 = .ok (.iconst 0, 1) := dc9_3 (by decide +kernel)
theorem d_Na_isOne_13 : decode y_Na_isOne.2.1 13 = .ok (.iaload, 1) := dc9_46 (by decide +kernel)
theorem d_Na_isOne_14 : decode y_Na_isOne.2.1 14 = .ok (.iconst 1, 1) := dc9_4 (by decide +kernel)
theorem d_Na_isOne_15 : decode y_Na_isOne.2.1 15 = .ok (.if_icmp .ne 7, 3) := dc9_160 (by decide +kernel)
theorem d_Na_isOne_18 : decode y_Na_isOne.2.1 18 = .ok (.iconst 1, 1) := dc9_4 (by decide +kernel)
theorem d_Na_isOne_19 : decode y_Na_isOne.2.1 19 = .ok (.goto 4, 3) := dc9_167 (by decide +kernel)
theorem d_Na_isOne_22 : decode y_Na_isOne.2.1 22 = .ok (.iconst 0, 1) := dc9_3 (by decide +kernel)
theorem d_Na_isOne_23 : decode y_Na_isOne.2.1 23 = .ok (.ireturn, 1) := dc9_172 (by decide +kernel)
theorem k_Na_isOne {G : mG} {d : Nat} {a0 : Nat} {M : mM} {Q : Int → mM → Prop} (hO : mOk M)
    (h : mK M a0 = 10 ∧ ((mI M a0 1 = 1) → (mK M (mR M a0 0) = 30 ∧ ((0 : Int) ≤ 0 ∧ 0 < (mN M (mR M a0 0) : Int)))) ∧ ∀ v6 : Int, v6 = (if ((mI M a0 1 = 1) ∧ (mI M (mR M a0 0) 0 = 1)) then 1 else 0) → Q v6 M) :
    Ci G y_Na_isOne d [vr a0] M Q := by
  refine wm_open (y := y_Na_isOne) rfl (Nat.le_of_ble_eq_true rfl) (L := [vr a0]) rfl ?_
  obtain ⟨h1, h⟩ := h
  refine wm_aload_n d_Na_isOne_0 rfl rfl ?_
  refine gf_Na_13 rfl d_Na_isOne_1 h1 ?_
  refine wm_iconst d_Na_isOne_4 ?_
  obtain ⟨s7, h⟩ := h
  have hJ : ∀ v6 : Int, v6 = (if ((mI M a0 1 = 1) ∧ (mI M (mR M a0 0) 0 = 1)) then 1 else 0) → mWm G y_Na_isOne d 23 [vd] [vi v6] M (fun r9 M9 => ∃ x9, r9 = some (vi x9) ∧ Q x9 M9) := by
    intro v6 e8
    have h := h v6 e8
    have h9 : i32 v6 := by rw [e8]; (repeat' split) <;> first | exact ⟨by decide, by decide⟩ | exact ⟨by decide, by decide⟩
    have h10 : (v6 = 0 ∨ v6 = 1) := by rw [e8]; (repeat' split) <;> decide
    refine wm_ireturn d_Na_isOne_23 rfl (m_nb h10) ?_
    exact ⟨_, rfl, h⟩
  clear h
  have s11 := s7
  refine wm_icmp_ne (tgt := 22) d_Na_isOne_5 rfl (hO _ _).1 ⟨by decide, by decide⟩ (fun c2 => ?_) (fun c2 => ?_)
  · refine wm_iconst d_Na_isOne_22 ?_
    refine wm_less (L' := [vd]) ⟨Or.inl rfl, trivial⟩ ?_
    exact hJ 0 (if_neg (fun z14 => c2 z14.1)).symm
  · replace c2 := Classical.not_not.mp c2
    have s11 := s11 c2
    obtain ⟨h3, h4⟩ := s11
    refine wm_aload_n d_Na_isOne_8 rfl rfl ?_
    refine gf_Na_9 rfl d_Na_isOne_9 h1 ?_
    refine wm_iconst d_Na_isOne_12 ?_
    refine wm_iald d_Na_isOne_13 h3 h4 ?_
    refine wm_iconst d_Na_isOne_14 ?_
    refine wm_icmp_ne (tgt := 22) d_Na_isOne_15 rfl (hO _ _).1 ⟨by decide, by decide⟩ (fun c5 => ?_) (fun c5 => ?_)
    · refine wm_iconst d_Na_isOne_22 ?_
      refine wm_less (L' := [vd]) ⟨Or.inl rfl, trivial⟩ ?_
      exact hJ 0 (if_neg (fun z12 => c5 z12.2)).symm
    · replace c5 := Classical.not_not.mp c5
      refine wm_iconst d_Na_isOne_18 ?_
      refine wm_goto (tgt := 23) d_Na_isOne_19 rfl ?_
      refine wm_less (L' := [vd]) ⟨Or.inl rfl, trivial⟩ ?_
      exact hJ 1 (if_pos ⟨c2, c5⟩).symm
theorem d_Na_bits_0 : decode y_Na_bits.2.1 0 = .ok (.aload_n 0, 1) := dc9_42 (by decide +kernel)
theorem d_Na_bits_1 : decode y_Na_bits.2.1 1 = .ok (.getfield 13, 3) := dc9_180 (by decide +kernel)
theorem d_Na_bits_4 : decode y_Na_bits.2.1 4 = .ok (.ifCond .ne 7, 3) := dc9_154 (by decide +kernel)
theorem d_Na_bits_7 : decode y_Na_bits.2.1 7 = .ok (.iconst 0, 1) := dc9_3 (by decide +kernel)
theorem d_Na_bits_8 : decode y_Na_bits.2.1 8 = .ok (.goto 27, 3) := dc9_167 (by decide +kernel)
theorem d_Na_bits_11 : decode y_Na_bits.2.1 11 = .ok (.bipush 30, 2) := dc9_16 (by decide +kernel)
theorem d_Na_bits_13 : decode y_Na_bits.2.1 13 = .ok (.aload_n 0, 1) := dc9_42 (by decide +kernel)
theorem d_Na_bits_14 : decode y_Na_bits.2.1 14 = .ok (.getfield 13, 3) := dc9_180 (by decide +kernel)
theorem d_Na_bits_17 : decode y_Na_bits.2.1 17 = .ok (.imul, 1) := dc9_104 (by decide +kernel)
theorem d_Na_bits_18 : decode y_Na_bits.2.1 18 = .ok (.aload_n 0, 1) := dc9_42 (by decide +kernel)
theorem d_Na_bits_19 : decode y_Na_bits.2.1 19 = .ok (.getfield 9, 3) := dc9_180 (by decide +kernel)
theorem d_Na_bits_22 : decode y_Na_bits.2.1 22 = .ok (.aload_n 0, 1) := dc9_42 (by decide +kernel)
theorem d_Na_bits_23 : decode y_Na_bits.2.1 23 = .ok (.getfield 13, 3) := dc9_180 (by decide +kernel)
theorem d_Na_bits_26 : decode y_Na_bits.2.1 26 = .ok (.iconst 1, 1) := dc9_4 (by decide +kernel)
theorem d_Na_bits_27 : decode y_Na_bits.2.1 27 = .ok (.isub, 1) := dc9_100 (by decide +kernel)
theorem d_Na_bits_28 : decode y_Na_bits.2.1 28 = .ok (.iaload, 1) := dc9_46 (by decide +kernel)
theorem d_Na_bits_35 : decode y_Na_bits.2.1 35 = .ok (.ireturn, 1) := dc9_172 (by decide +kernel)
theorem d_Na_bits_29 : decode y_Na_bits.2.1 29 = .ok (.invokestatic 41, 3) := dc9_184 (by decide +kernel)
theorem d_Na_bits_32 : decode y_Na_bits.2.1 32 = .ok (.isub, 1) := dc9_100 (by decide +kernel)
theorem d_Na_bits_33 : decode y_Na_bits.2.1 33 = .ok (.iconst 2, 1) := dc9_5 (by decide +kernel)
theorem d_Na_bits_34 : decode y_Na_bits.2.1 34 = .ok (.iadd, 1) := dc9_96 (by decide +kernel)
theorem k_Na_bits {G : mG} {d : Nat} {a0 : Nat} {M : mM} {Q : Int → mM → Prop} (hO : mOk M)
    (h : mK M a0 = 10 ∧ ((mI M a0 1 = 0) → (Q 0 M)) ∧ (¬ (mI M a0 1 = 0) → (mK M (mR M a0 0) = 30 ∧ ((0 : Int) ≤ (mI M a0 1) - 1 ∧ (mI M a0 1) - 1 < (mN M (mR M a0 0) : Int)) ∧ Ci G y_JI_nlz d [vi (mI M (mR M a0 0) (Int.toNat ((mI M a0 1) - 1)))] M (fun x10 M9 => i32 x10 ∧ mOk M9 ∧ (Q (((30 * (mI M a0 1)) - x10) + 2) M9))))) :
    Ci G y_Na_bits (d + 1) [vr a0] M Q := by
  refine wm_open (y := y_Na_bits) rfl (Nat.le_of_ble_eq_true rfl) (L := [vr a0]) rfl ?_
  obtain ⟨h1, h⟩ := h
  refine wm_aload_n d_Na_bits_0 rfl rfl ?_
  refine gf_Na_13 rfl d_Na_bits_1 h1 ?_
  refine wm_if_ne (tgt := 11) d_Na_bits_4 rfl (hO _ _).1 (fun c6 => ?_) (fun c6 => ?_)
  · replace h := h.2 c6
    obtain ⟨h7, h⟩ := h
    obtain ⟨h8, h⟩ := h
    refine wm_bipush d_Na_bits_11 (by decide) ?_
    refine wm_aload_n d_Na_bits_13 rfl rfl ?_
    refine gf_Na_13 rfl d_Na_bits_14 h1 ?_
    refine wm_imul d_Na_bits_17 ?_
    refine wm_aload_n d_Na_bits_18 rfl rfl ?_
    refine gf_Na_9 rfl d_Na_bits_19 h1 ?_
    refine wm_aload_n d_Na_bits_22 rfl rfl ?_
    refine gf_Na_13 rfl d_Na_bits_23 h1 ?_
    refine wm_iconst d_Na_bits_26 ?_
    refine wm_isub d_Na_bits_27 ?_
    refine wm_iald d_Na_bits_28 h7 h8 ?_
    refine cf_Na_41 rfl d_Na_bits_29 (Nat.le_of_ble_eq_true rfl) (Ci.mono h (fun x10 M9 h => ?_))
    obtain ⟨h11, hOM9, h⟩ := h
    refine wm_isub d_Na_bits_32 ?_
    refine wm_iconst d_Na_bits_33 ?_
    refine wm_iadd d_Na_bits_34 ?_
    refine wm_ireturn d_Na_bits_35 rfl rfl ?_
    exact ⟨_, rfl, h⟩
  · replace c6 := Classical.not_not.mp c6
    replace h := h.1 c6
    refine wm_iconst d_Na_bits_7 ?_
    refine wm_goto (tgt := 35) d_Na_bits_8 rfl ?_
    refine wm_ireturn d_Na_bits_35 rfl rfl ?_
    exact ⟨_, rfl, h⟩
theorem d_Na_order_0 : decode y_Na_order.2.1 0 = .ok (.aload_n 0, 1) := dc9_42 (by decide +kernel)
theorem d_Na_order_1 : decode y_Na_order.2.1 1 = .ok (.getfield 13, 3) := dc9_180 (by decide +kernel)
theorem d_Na_order_4 : decode y_Na_order.2.1 4 = .ok (.aload_n 1, 1) := dc9_43 (by decide +kernel)
theorem d_Na_order_5 : decode y_Na_order.2.1 5 = .ok (.getfield 13, 3) := dc9_180 (by decide +kernel)
theorem d_Na_order_8 : decode y_Na_order.2.1 8 = .ok (.if_icmp .eq 20, 3) := dc9_159 (by decide +kernel)
theorem d_Na_order_28 : decode y_Na_order.2.1 28 = .ok (.aload_n 0, 1) := dc9_42 (by decide +kernel)
theorem d_Na_order_29 : decode y_Na_order.2.1 29 = .ok (.getfield 13, 3) := dc9_180 (by decide +kernel)
theorem d_Na_order_32 : decode y_Na_order.2.1 32 = .ok (.iconst 1, 1) := dc9_4 (by decide +kernel)
theorem d_Na_order_33 : decode y_Na_order.2.1 33 = .ok (.isub, 1) := dc9_100 (by decide +kernel)
theorem d_Na_order_34 : decode y_Na_order.2.1 34 = .ok (.istore_n 2, 1) := dc9_61 (by decide +kernel)
theorem d_Na_order_11 : decode y_Na_order.2.1 11 = .ok (.aload_n 0, 1) := dc9_42 (by decide +kernel)
theorem d_Na_order_12 : decode y_Na_order.2.1 12 = .ok (.getfield 13, 3) := dc9_180 (by decide +kernel)
theorem d_Na_order_15 : decode y_Na_order.2.1 15 = .ok (.aload_n 1, 1) := dc9_43 (by decide +kernel)
theorem d_Na_order_16 : decode y_Na_order.2.1 16 = .ok (.getfield 13, 3) := dc9_180 (by decide +kernel)
theorem d_Na_order_19 : decode y_Na_order.2.1 19 = .ok (.if_icmp .ge 7, 3) := dc9_162 (by decide +kernel)
theorem d_Na_order_26 : decode y_Na_order.2.1 26 = .ok (.iconst 1, 1) := dc9_4 (by decide +kernel)
theorem d_Na_order_27 : decode y_Na_order.2.1 27 = .ok (.ireturn, 1) := dc9_172 (by decide +kernel)
theorem d_Na_order_22 : decode y_Na_order.2.1 22 = .ok (.iconst (-1), 1) := dc9_2 (by decide +kernel)
theorem d_Na_order_23 : decode y_Na_order.2.1 23 = .ok (.goto 4, 3) := dc9_167 (by decide +kernel)
theorem d_Na_order_35 : decode y_Na_order.2.1 35 = .ok (.iload_n 2, 1) := dc9_28 (by decide +kernel)
theorem d_Na_order_36 : decode y_Na_order.2.1 36 = .ok (.ifCond .lt 45, 3) := dc9_155 (by decide +kernel)
theorem d_Na_order_81 : decode y_Na_order.2.1 81 = .ok (.iconst 0, 1) := dc9_3 (by decide +kernel)
theorem d_Na_order_82 : decode y_Na_order.2.1 82 = .ok (.ireturn, 1) := dc9_172 (by decide +kernel)
theorem d_Na_order_39 : decode y_Na_order.2.1 39 = .ok (.aload_n 0, 1) := dc9_42 (by decide +kernel)
theorem d_Na_order_40 : decode y_Na_order.2.1 40 = .ok (.getfield 9, 3) := dc9_180 (by decide +kernel)
theorem d_Na_order_43 : decode y_Na_order.2.1 43 = .ok (.iload_n 2, 1) := dc9_28 (by decide +kernel)
theorem d_Na_order_44 : decode y_Na_order.2.1 44 = .ok (.iaload, 1) := dc9_46 (by decide +kernel)
theorem d_Na_order_45 : decode y_Na_order.2.1 45 = .ok (.aload_n 1, 1) := dc9_43 (by decide +kernel)
theorem d_Na_order_46 : decode y_Na_order.2.1 46 = .ok (.getfield 9, 3) := dc9_180 (by decide +kernel)
theorem d_Na_order_49 : decode y_Na_order.2.1 49 = .ok (.iload_n 2, 1) := dc9_28 (by decide +kernel)
theorem d_Na_order_50 : decode y_Na_order.2.1 50 = .ok (.iaload, 1) := dc9_46 (by decide +kernel)
theorem d_Na_order_51 : decode y_Na_order.2.1 51 = .ok (.if_icmp .eq 24, 3) := dc9_159 (by decide +kernel)
theorem d_Na_order_75 : decode y_Na_order.2.1 75 = .ok (.iinc 2 (-1), 3) := by decide +kernel
theorem d_Na_order_78 : decode y_Na_order.2.1 78 = .ok (.goto (-43), 3) := dc9_167 (by decide +kernel)
theorem d_Na_order_54 : decode y_Na_order.2.1 54 = .ok (.aload_n 0, 1) := dc9_42 (by decide +kernel)
theorem d_Na_order_55 : decode y_Na_order.2.1 55 = .ok (.getfield 9, 3) := dc9_180 (by decide +kernel)
theorem d_Na_order_58 : decode y_Na_order.2.1 58 = .ok (.iload_n 2, 1) := dc9_28 (by decide +kernel)
theorem d_Na_order_59 : decode y_Na_order.2.1 59 = .ok (.iaload, 1) := dc9_46 (by decide +kernel)
theorem d_Na_order_60 : decode y_Na_order.2.1 60 = .ok (.aload_n 1, 1) := dc9_43 (by decide +kernel)
theorem d_Na_order_61 : decode y_Na_order.2.1 61 = .ok (.getfield 9, 3) := dc9_180 (by decide +kernel)
theorem d_Na_order_64 : decode y_Na_order.2.1 64 = .ok (.iload_n 2, 1) := dc9_28 (by decide +kernel)
theorem d_Na_order_65 : decode y_Na_order.2.1 65 = .ok (.iaload, 1) := dc9_46 (by decide +kernel)
theorem d_Na_order_66 : decode y_Na_order.2.1 66 = .ok (.if_icmp .ge 7, 3) := dc9_162 (by decide +kernel)
theorem d_Na_order_73 : decode y_Na_order.2.1 73 = .ok (.iconst 1, 1) := dc9_4 (by decide +kernel)
theorem d_Na_order_74 : decode y_Na_order.2.1 74 = .ok (.ireturn, 1) := dc9_172 (by decide +kernel)
theorem d_Na_order_69 : decode y_Na_order.2.1 69 = .ok (.iconst (-1), 1) := dc9_2 (by decide +kernel)
theorem d_Na_order_70 : decode y_Na_order.2.1 70 = .ok (.goto 4, 3) := dc9_167 (by decide +kernel)
def h_Na_order_35 (G : mG) (d : Nat) (a0 : Nat) (a1 : Nat) (l2 : Int) (M : mM) (Q : Int → mM → Prop) : Prop := mWm G y_Na_order d 35 [vr a0, vr a1, vi l2] [] M (fun r9 M9 => ∃ x9, r9 = some (vi x9) ∧ Q x9 M9)
theorem k_Na_order {G : mG} {d : Nat} {a0 : Nat} {a1 : Nat} {M : mM} {Q : Int → mM → Prop} (hO : mOk M)
    (h : mK M a0 = 10 ∧ mK M a1 = 10 ∧ ((mI M a0 1 = mI M a1 1) → (h_Na_order_35 G d a0 a1 ((mI M a0 1) - 1) M Q)) ∧ (¬ (mI M a0 1 = mI M a1 1) → (∀ v7 : Int, v7 = (if (mI M a1 1 ≤ mI M a0 1) then 1 else (-1)) → Q v7 M))) :
    Ci G y_Na_order d [vr a0, vr a1] M Q := by
  refine wm_open (y := y_Na_order) rfl (Nat.le_of_ble_eq_true rfl) (L := [vr a0, vr a1, vd]) rfl ?_
  obtain ⟨h1, h⟩ := h
  obtain ⟨h2, h⟩ := h
  refine wm_aload_n d_Na_order_0 rfl rfl ?_
  refine gf_Na_13 rfl d_Na_order_1 h1 ?_
  refine wm_aload_n d_Na_order_4 rfl rfl ?_
  refine gf_Na_13 rfl d_Na_order_5 h2 ?_
  refine wm_icmp_eq (tgt := 28) d_Na_order_8 rfl (hO _ _).1 (hO _ _).1 (fun c5 => ?_) (fun c5 => ?_)
  · replace h := h.1 c5
    refine wm_aload_n d_Na_order_28 rfl rfl ?_
    refine gf_Na_13 rfl d_Na_order_29 h1 ?_
    refine wm_iconst d_Na_order_32 ?_
    refine wm_isub d_Na_order_33 ?_
    refine wm_istore_n d_Na_order_34 rfl (by decide) (L' := [vr a0, vr a1, vi ((mI M a0 1) - 1)]) rfl ?_
    exact h
  · replace h := h.2 c5
    refine wm_aload_n d_Na_order_11 rfl rfl ?_
    refine gf_Na_13 rfl d_Na_order_12 h1 ?_
    refine wm_aload_n d_Na_order_15 rfl rfl ?_
    refine gf_Na_13 rfl d_Na_order_16 h2 ?_
    have hJ : ∀ v7 : Int, v7 = (if (mI M a1 1 ≤ mI M a0 1) then 1 else (-1)) → mWm G y_Na_order d 27 [vd, vd, vd] [vi v7] M (fun r9 M9 => ∃ x9, r9 = some (vi x9) ∧ Q x9 M9) := by
      intro v7 e9
      have h := h v7 e9
      have h10 : i32 v7 := by rw [e9]; (repeat' split) <;> first | exact ⟨by decide, by decide⟩ | exact ⟨by decide, by decide⟩
      refine wm_ireturn d_Na_order_27 rfl rfl ?_
      exact ⟨_, rfl, h⟩
    clear h
    refine wm_icmp_ge (tgt := 26) d_Na_order_19 rfl (hO _ _).1 (hO _ _).1 (fun c6 => ?_) (fun c6 => ?_)
    · refine wm_iconst d_Na_order_26 ?_
      refine wm_less (L' := [vd, vd, vd]) ⟨Or.inl rfl, Or.inl rfl, Or.inl rfl, trivial⟩ ?_
      exact hJ 1 (if_pos c6).symm
    · refine wm_iconst d_Na_order_22 ?_
      refine wm_goto (tgt := 27) d_Na_order_23 rfl ?_
      refine wm_less (L' := [vd, vd, vd]) ⟨Or.inl rfl, Or.inl rfl, Or.inl rfl, trivial⟩ ?_
      exact hJ (-1) (if_neg c6).symm
theorem k_Na_order_35 {G : mG} {d : Nat} {a0 : Nat} {a1 : Nat} {l2 : Int} {M : mM} {Q : Int → mM → Prop} (hO : mOk M) (hi_l2 : i32 l2)
    (h : ((l2 < 0) → (Q 0 M)) ∧ (¬ (l2 < 0) → (mK M a0 = 10 ∧ mK M (mR M a0 0) = 30 ∧ ((0 : Int) ≤ l2 ∧ l2 < (mN M (mR M a0 0) : Int)) ∧ mK M a1 = 10 ∧ mK M (mR M a1 0) = 30 ∧ ((0 : Int) ≤ l2 ∧ l2 < (mN M (mR M a1 0) : Int)) ∧ ((mI M (mR M a0 0) (Int.toNat l2) = mI M (mR M a1 0) (Int.toNat l2)) → (h_Na_order_35 G d a0 a1 (l2 + (-1)) M Q)) ∧ (¬ (mI M (mR M a0 0) (Int.toNat l2) = mI M (mR M a1 0) (Int.toNat l2)) → (((0 : Int) ≤ l2 ∧ l2 < (mN M (mR M a0 0) : Int)) ∧ ((0 : Int) ≤ l2 ∧ l2 < (mN M (mR M a1 0) : Int)) ∧ ∀ v38 : Int, v38 = (if (mI M (mR M a1 0) (Int.toNat l2) ≤ mI M (mR M a0 0) (Int.toNat l2)) then 1 else (-1)) → Q v38 M))))) :
    h_Na_order_35 G d a0 a1 l2 M Q := by
  unfold h_Na_order_35
  refine wm_iload_n d_Na_order_35 rfl rfl ?_
  refine wm_if_lt (tgt := 81) d_Na_order_36 rfl hi_l2 (fun c23 => ?_) (fun c23 => ?_)
  · replace h := h.1 c23
    refine wm_iconst d_Na_order_81 ?_
    refine wm_ireturn d_Na_order_82 rfl rfl ?_
    exact ⟨_, rfl, h⟩
  · replace h := h.2 c23
    obtain ⟨h24, h⟩ := h
    obtain ⟨h25, h⟩ := h
    obtain ⟨h26, h⟩ := h
    obtain ⟨h27, h⟩ := h
    obtain ⟨h28, h⟩ := h
    obtain ⟨h29, h⟩ := h
    refine wm_aload_n d_Na_order_39 rfl rfl ?_
    refine gf_Na_9 rfl d_Na_order_40 h24 ?_
    refine wm_iload_n d_Na_order_43 rfl rfl ?_
    refine wm_iald d_Na_order_44 h25 h26 ?_
    refine wm_aload_n d_Na_order_45 rfl rfl ?_
    refine gf_Na_9 rfl d_Na_order_46 h27 ?_
    refine wm_iload_n d_Na_order_49 rfl rfl ?_
    refine wm_iald d_Na_order_50 h28 h29 ?_
    refine wm_icmp_eq (tgt := 75) d_Na_order_51 rfl (hO _ _).1 (hO _ _).1 (fun c34 => ?_) (fun c34 => ?_)
    · replace h := h.1 c34
      refine wm_iinc d_Na_order_75 (by decide) rfl (L' := [vr a0, vr a1, vi (l2 + (-1))]) rfl ?_
      refine wm_goto (tgt := 35) d_Na_order_78 rfl ?_
      exact h
    · replace h := h.2 c34
      obtain ⟨h35, h⟩ := h
      obtain ⟨h36, h⟩ := h
      refine wm_aload_n d_Na_order_54 rfl rfl ?_
      refine gf_Na_9 rfl d_Na_order_55 h24 ?_
      refine wm_iload_n d_Na_order_58 rfl rfl ?_
      refine wm_iald d_Na_order_59 h25 h35 ?_
      refine wm_aload_n d_Na_order_60 rfl rfl ?_
      refine gf_Na_9 rfl d_Na_order_61 h27 ?_
      refine wm_iload_n d_Na_order_64 rfl rfl ?_
      refine wm_iald d_Na_order_65 h28 h36 ?_
      have hJ : ∀ v38 : Int, v38 = (if (mI M (mR M a1 0) (Int.toNat l2) ≤ mI M (mR M a0 0) (Int.toNat l2)) then 1 else (-1)) → mWm G y_Na_order d 74 [vd, vd, vd] [vi v38] M (fun r9 M9 => ∃ x9, r9 = some (vi x9) ∧ Q x9 M9) := by
        intro v38 e40
        have h := h v38 e40
        have h41 : i32 v38 := by rw [e40]; (repeat' split) <;> first | exact ⟨by decide, by decide⟩ | exact ⟨by decide, by decide⟩
        refine wm_ireturn d_Na_order_74 rfl rfl ?_
        exact ⟨_, rfl, h⟩
      clear h
      refine wm_icmp_ge (tgt := 73) d_Na_order_66 rfl (hO _ _).1 (hO _ _).1 (fun c37 => ?_) (fun c37 => ?_)
      · refine wm_iconst d_Na_order_73 ?_
        refine wm_less (L' := [vd, vd, vd]) ⟨Or.inl rfl, Or.inl rfl, Or.inl rfl, trivial⟩ ?_
        exact hJ 1 (if_pos c37).symm
      · refine wm_iconst d_Na_order_69 ?_
        refine wm_goto (tgt := 74) d_Na_order_70 rfl ?_
        refine wm_less (L' := [vd, vd, vd]) ⟨Or.inl rfl, Or.inl rfl, Or.inl rfl, trivial⟩ ?_
        exact hJ (-1) (if_neg c37).symm
theorem d_Na_add_0 : decode y_Na_add.2.1 0 = .ok (.aload_n 0, 1) := dc9_42 (by decide +kernel)
theorem d_Na_add_1 : decode y_Na_add.2.1 1 = .ok (.getfield 13, 3) := dc9_180 (by decide +kernel)
theorem d_Na_add_4 : decode y_Na_add.2.1 4 = .ok (.aload_n 1, 1) := dc9_43 (by decide +kernel)
theorem d_Na_add_5 : decode y_Na_add.2.1 5 = .ok (.getfield 13, 3) := dc9_180 (by decide +kernel)
theorem d_Na_add_8 : decode y_Na_add.2.1 8 = .ok (.invokestatic 17, 3) := dc9_184 (by decide +kernel)
theorem d_Na_add_11 : decode y_Na_add.2.1 11 = .ok (.istore_n 3, 1) := dc9_62 (by decide +kernel)
theorem d_Na_add_12 : decode y_Na_add.2.1 12 = .ok (.aload_n 0, 1) := dc9_42 (by decide +kernel)
theorem d_Na_add_13 : decode y_Na_add.2.1 13 = .ok (.iload_n 3, 1) := dc9_29 (by decide +kernel)
theorem d_Na_add_14 : decode y_Na_add.2.1 14 = .ok (.iconst 1, 1) := dc9_4 (by decide +kernel)
theorem d_Na_add_15 : decode y_Na_add.2.1 15 = .ok (.iadd, 1) := dc9_96 (by decide +kernel)
theorem d_Na_add_16 : decode y_Na_add.2.1 16 = .ok (.invokevirtual 47, 3) := dc9_182 (by decide +kernel)
theorem d_Na_add_19 : decode y_Na_add.2.1 19 = .ok (.aload_n 0, 1) := dc9_42 (by decide +kernel)
theorem d_Na_add_20 : decode y_Na_add.2.1 20 = .ok (.getfield 9, 3) := dc9_180 (by decide +kernel)
theorem d_Na_add_23 : decode y_Na_add.2.1 23 = .ok (.aload_n 0, 1) := dc9_42 (by decide +kernel)
theorem d_Na_add_24 : decode y_Na_add.2.1 24 = .ok (.getfield 13, 3) := dc9_180 (by decide +kernel)
theorem d_Na_add_27 : decode y_Na_add.2.1 27 = .ok (.iload_n 3, 1) := dc9_29 (by decide +kernel)
theorem d_Na_add_28 : decode y_Na_add.2.1 28 = .ok (.iconst 1, 1) := dc9_4 (by decide +kernel)
theorem d_Na_add_29 : decode y_Na_add.2.1 29 = .ok (.iadd, 1) := dc9_96 (by decide +kernel)
theorem d_Na_add_30 : decode y_Na_add.2.1 30 = .ok (.iconst 0, 1) := dc9_3 (by decide +kernel)
theorem d_Na_add_31 : decode y_Na_add.2.1 31 = .ok (.invokestatic 50, 3) := dc9_184 (by decide +kernel)
theorem d_Na_add_34 : decode y_Na_add.2.1 34 = .ok (.lconst 0, 1) := dc9_9 (by decide +kernel)
theorem d_Na_add_35 : decode y_Na_add.2.1 35 = .ok (.lstore 4, 2) := dc9_55 (by decide +kernel)
theorem d_Na_add_37 : decode y_Na_add.2.1 37 = .ok (.iconst 0, 1) := dc9_3 (by decide +kernel)
theorem d_Na_add_38 : decode y_Na_add.2.1 38 = .ok (.istore 6, 2) := dc9_54 (by decide +kernel)
theorem d_Na_add_40 : decode y_Na_add.2.1 40 = .ok (.iload 6, 2) := dc9_21 (by decide +kernel)
theorem d_Na_add_42 : decode y_Na_add.2.1 42 = .ok (.aload_n 1, 1) := dc9_43 (by decide +kernel)
theorem d_Na_add_43 : decode y_Na_add.2.1 43 = .ok (.getfield 13, 3) := dc9_180 (by decide +kernel)
theorem d_Na_add_46 : decode y_Na_add.2.1 46 = .ok (.if_icmp .ge 55, 3) := dc9_162 (by decide +kernel)
theorem d_Na_add_101 : decode y_Na_add.2.1 101 = .ok (.aload_n 1, 1) := dc9_43 (by decide +kernel)
theorem d_Na_add_102 : decode y_Na_add.2.1 102 = .ok (.getfield 13, 3) := dc9_180 (by decide +kernel)
theorem d_Na_add_105 : decode y_Na_add.2.1 105 = .ok (.istore 6, 2) := dc9_54 (by decide +kernel)
theorem d_Na_add_49 : decode y_Na_add.2.1 49 = .ok (.lload 4, 2) := dc9_22 (by decide +kernel)
theorem d_Na_add_51 : decode y_Na_add.2.1 51 = .ok (.aload_n 0, 1) := dc9_42 (by decide +kernel)
theorem d_Na_add_52 : decode y_Na_add.2.1 52 = .ok (.getfield 9, 3) := dc9_180 (by decide +kernel)
theorem d_Na_add_55 : decode y_Na_add.2.1 55 = .ok (.iload 6, 2) := dc9_21 (by decide +kernel)
theorem d_Na_add_57 : decode y_Na_add.2.1 57 = .ok (.iaload, 1) := dc9_46 (by decide +kernel)
theorem d_Na_add_58 : decode y_Na_add.2.1 58 = .ok (.i2l, 1) := dc9_133 (by decide +kernel)
theorem d_Na_add_59 : decode y_Na_add.2.1 59 = .ok (.iload_n 2, 1) := dc9_28 (by decide +kernel)
theorem d_Na_add_60 : decode y_Na_add.2.1 60 = .ok (.i2l, 1) := dc9_133 (by decide +kernel)
theorem d_Na_add_61 : decode y_Na_add.2.1 61 = .ok (.aload_n 1, 1) := dc9_43 (by decide +kernel)
theorem d_Na_add_62 : decode y_Na_add.2.1 62 = .ok (.getfield 9, 3) := dc9_180 (by decide +kernel)
theorem d_Na_add_65 : decode y_Na_add.2.1 65 = .ok (.iload 6, 2) := dc9_21 (by decide +kernel)
theorem d_Na_add_67 : decode y_Na_add.2.1 67 = .ok (.iaload, 1) := dc9_46 (by decide +kernel)
theorem d_Na_add_68 : decode y_Na_add.2.1 68 = .ok (.i2l, 1) := dc9_133 (by decide +kernel)
theorem d_Na_add_69 : decode y_Na_add.2.1 69 = .ok (.lmul, 1) := dc9_105 (by decide +kernel)
theorem d_Na_add_70 : decode y_Na_add.2.1 70 = .ok (.ladd, 1) := dc9_97 (by decide +kernel)
theorem d_Na_add_71 : decode y_Na_add.2.1 71 = .ok (.ladd, 1) := dc9_97 (by decide +kernel)
theorem d_Na_add_72 : decode y_Na_add.2.1 72 = .ok (.lstore 4, 2) := dc9_55 (by decide +kernel)
theorem d_Na_add_74 : decode y_Na_add.2.1 74 = .ok (.aload_n 0, 1) := dc9_42 (by decide +kernel)
theorem d_Na_add_75 : decode y_Na_add.2.1 75 = .ok (.getfield 9, 3) := dc9_180 (by decide +kernel)
theorem d_Na_add_78 : decode y_Na_add.2.1 78 = .ok (.iload 6, 2) := dc9_21 (by decide +kernel)
theorem d_Na_add_80 : decode y_Na_add.2.1 80 = .ok (.lload 4, 2) := dc9_22 (by decide +kernel)
theorem d_Na_add_82 : decode y_Na_add.2.1 82 = .ok (.ldc2_w 29, 3) := dc9_20 (by decide +kernel)
theorem d_Na_add_85 : decode y_Na_add.2.1 85 = .ok (.land, 1) := dc9_127 (by decide +kernel)
theorem d_Na_add_86 : decode y_Na_add.2.1 86 = .ok (.l2i, 1) := dc9_136 (by decide +kernel)
theorem d_Na_add_87 : decode y_Na_add.2.1 87 = .ok (.iastore, 1) := dc9_79 (by decide +kernel)
theorem d_Na_add_88 : decode y_Na_add.2.1 88 = .ok (.lload 4, 2) := dc9_22 (by decide +kernel)
theorem d_Na_add_90 : decode y_Na_add.2.1 90 = .ok (.bipush 30, 2) := dc9_16 (by decide +kernel)
theorem d_Na_add_92 : decode y_Na_add.2.1 92 = .ok (.lushr, 1) := dc9_125 (by decide +kernel)
theorem d_Na_add_93 : decode y_Na_add.2.1 93 = .ok (.lstore 4, 2) := dc9_55 (by decide +kernel)
theorem d_Na_add_95 : decode y_Na_add.2.1 95 = .ok (.iinc 6 1, 3) := by decide +kernel
theorem d_Na_add_98 : decode y_Na_add.2.1 98 = .ok (.goto (-58), 3) := dc9_167 (by decide +kernel)
theorem d_Na_add_107 : decode y_Na_add.2.1 107 = .ok (.iload 6, 2) := dc9_21 (by decide +kernel)
theorem d_Na_add_109 : decode y_Na_add.2.1 109 = .ok (.iload_n 3, 1) := dc9_29 (by decide +kernel)
theorem d_Na_add_110 : decode y_Na_add.2.1 110 = .ok (.if_icmp .gt 50, 3) := dc9_163 (by decide +kernel)
theorem d_Na_add_113 : decode y_Na_add.2.1 113 = .ok (.lload 4, 2) := dc9_22 (by decide +kernel)
theorem d_Na_add_115 : decode y_Na_add.2.1 115 = .ok (.lconst 0, 1) := dc9_9 (by decide +kernel)
theorem d_Na_add_116 : decode y_Na_add.2.1 116 = .ok (.lcmp, 1) := dc9_148 (by decide +kernel)
theorem d_Na_add_117 : decode y_Na_add.2.1 117 = .ok (.ifCond .eq 43, 3) := dc9_153 (by decide +kernel)
theorem d_Na_add_120 : decode y_Na_add.2.1 120 = .ok (.lload 4, 2) := dc9_22 (by decide +kernel)
theorem d_Na_add_122 : decode y_Na_add.2.1 122 = .ok (.aload_n 0, 1) := dc9_42 (by decide +kernel)
theorem d_Na_add_123 : decode y_Na_add.2.1 123 = .ok (.getfield 9, 3) := dc9_180 (by decide +kernel)
theorem d_Na_add_126 : decode y_Na_add.2.1 126 = .ok (.iload 6, 2) := dc9_21 (by decide +kernel)
theorem d_Na_add_128 : decode y_Na_add.2.1 128 = .ok (.iaload, 1) := dc9_46 (by decide +kernel)
theorem d_Na_add_129 : decode y_Na_add.2.1 129 = .ok (.i2l, 1) := dc9_133 (by decide +kernel)
theorem d_Na_add_130 : decode y_Na_add.2.1 130 = .ok (.ladd, 1) := dc9_97 (by decide +kernel)
theorem d_Na_add_131 : decode y_Na_add.2.1 131 = .ok (.lstore 4, 2) := dc9_55 (by decide +kernel)
theorem d_Na_add_133 : decode y_Na_add.2.1 133 = .ok (.aload_n 0, 1) := dc9_42 (by decide +kernel)
theorem d_Na_add_134 : decode y_Na_add.2.1 134 = .ok (.getfield 9, 3) := dc9_180 (by decide +kernel)
theorem d_Na_add_137 : decode y_Na_add.2.1 137 = .ok (.iload 6, 2) := dc9_21 (by decide +kernel)
theorem d_Na_add_139 : decode y_Na_add.2.1 139 = .ok (.lload 4, 2) := dc9_22 (by decide +kernel)
theorem d_Na_add_141 : decode y_Na_add.2.1 141 = .ok (.ldc2_w 29, 3) := dc9_20 (by decide +kernel)
theorem d_Na_add_144 : decode y_Na_add.2.1 144 = .ok (.land, 1) := dc9_127 (by decide +kernel)
theorem d_Na_add_145 : decode y_Na_add.2.1 145 = .ok (.l2i, 1) := dc9_136 (by decide +kernel)
theorem d_Na_add_146 : decode y_Na_add.2.1 146 = .ok (.iastore, 1) := dc9_79 (by decide +kernel)
theorem d_Na_add_147 : decode y_Na_add.2.1 147 = .ok (.lload 4, 2) := dc9_22 (by decide +kernel)
theorem d_Na_add_149 : decode y_Na_add.2.1 149 = .ok (.bipush 30, 2) := dc9_16 (by decide +kernel)
theorem d_Na_add_151 : decode y_Na_add.2.1 151 = .ok (.lushr, 1) := dc9_125 (by decide +kernel)
theorem d_Na_add_152 : decode y_Na_add.2.1 152 = .ok (.lstore 4, 2) := dc9_55 (by decide +kernel)
theorem d_Na_add_154 : decode y_Na_add.2.1 154 = .ok (.iinc 6 1, 3) := by decide +kernel
theorem d_Na_add_157 : decode y_Na_add.2.1 157 = .ok (.goto (-50), 3) := dc9_167 (by decide +kernel)
theorem d_Na_add_160 : decode y_Na_add.2.1 160 = .ok (.aload_n 0, 1) := dc9_42 (by decide +kernel)
theorem d_Na_add_161 : decode y_Na_add.2.1 161 = .ok (.iload_n 3, 1) := dc9_29 (by decide +kernel)
theorem d_Na_add_162 : decode y_Na_add.2.1 162 = .ok (.iconst 1, 1) := dc9_4 (by decide +kernel)
theorem d_Na_add_163 : decode y_Na_add.2.1 163 = .ok (.iadd, 1) := dc9_96 (by decide +kernel)
theorem d_Na_add_164 : decode y_Na_add.2.1 164 = .ok (.invokevirtual 31, 3) := dc9_182 (by decide +kernel)
theorem d_Na_add_167 : decode y_Na_add.2.1 167 = .ok (.return_, 1) := dc9_177 (by decide +kernel)
def h_Na_add_40 (G : mG) (d : Nat) (a0 : Nat) (a1 : Nat) (l2 : Int) (l3 : Int) (j4 : Int) (l6 : Int) (M : mM) (Q : mM → Prop) : Prop := mWm G y_Na_add (d + 1) 40 [vr a0, vr a1, vi l2, vi l3, vl j4, vd, vi l6] [] M (fun r9 M9 => r9 = none ∧ Q M9)
def h_Na_add_107 (G : mG) (d : Nat) (a0 : Nat) (l3 : Int) (j4 : Int) (l6 : Int) (M : mM) (Q : mM → Prop) : Prop := mWm G y_Na_add (d + 1) 107 [vr a0, vd, vd, vi l3, vl j4, vd, vi l6] [] M (fun r9 M9 => r9 = none ∧ Q M9)
theorem k_Na_add {G : mG} {d : Nat} {a0 : Nat} {a1 : Nat} {l2 : Int} {M : mM} {Q : mM → Prop} (hO : mOk M) (hi_l2 : i32 l2)
    (h : mK M a0 = 10 ∧ mK M a1 = 10 ∧ Cv G y_Na_reserve d [vr a0, vi ((if mI M a0 1 < mI M a1 1 then mI M a1 1 else mI M a0 1) + 1)] M (fun M3 => mOk M3 ∧ (mK M3 a0 = 10 ∧ Cv G y_JA_fillR d [vr (mR M3 a0 0), vi (mI M3 a0 1), vi ((if mI M a0 1 < mI M a1 1 then mI M a1 1 else mI M a0 1) + 1), vi 0] M3 (fun M7 => mOk M7 ∧ (h_Na_add_40 G d a0 a1 l2 (if mI M a0 1 < mI M a1 1 then mI M a1 1 else mI M a0 1) 0 0 M7 Q))))) :
    Cv G y_Na_add (d + 1) [vr a0, vr a1, vi l2] M Q := by
  refine wm_open (y := y_Na_add) rfl (Nat.le_of_ble_eq_true rfl) (L := [vr a0, vr a1, vi l2, vd, vd, vd, vd]) rfl ?_
  obtain ⟨h1, h⟩ := h
  obtain ⟨h2, h⟩ := h
  refine wm_aload_n d_Na_add_0 rfl rfl ?_
  refine gf_Na_13 rfl d_Na_add_1 h1 ?_
  refine wm_aload_n d_Na_add_4 rfl rfl ?_
  refine gf_Na_13 rfl d_Na_add_5 h2 ?_
  refine wm_mmax k5_191 (Nat.le_of_ble_eq_true rfl) (hO _ _).1 (hO _ _).1 d_Na_add_8 ?_
  refine wm_istore_n d_Na_add_11 rfl (by decide) (L' := [vr a0, vr a1, vi l2, vi (if mI M a0 1 < mI M a1 1 then mI M a1 1 else mI M a0 1), vd, vd, vd]) rfl ?_
  refine wm_aload_n d_Na_add_12 rfl rfl ?_
  refine wm_iload_n d_Na_add_13 rfl rfl ?_
  refine wm_iconst d_Na_add_14 ?_
  refine wm_iadd d_Na_add_15 ?_
  refine cf_Na_47 rfl d_Na_add_16 h1 (Nat.le_of_ble_eq_true rfl) (Cv.mono h (fun M3 h => ?_))
  obtain ⟨hOM3, h⟩ := h
  obtain ⟨h6, h⟩ := h
  refine wm_aload_n d_Na_add_19 rfl rfl ?_
  refine gf_Na_9 rfl d_Na_add_20 h6 ?_
  refine wm_aload_n d_Na_add_23 rfl rfl ?_
  refine gf_Na_13 rfl d_Na_add_24 h6 ?_
  refine wm_iload_n d_Na_add_27 rfl rfl ?_
  refine wm_iconst d_Na_add_28 ?_
  refine wm_iadd d_Na_add_29 ?_
  refine wm_iconst d_Na_add_30 ?_
  refine cf_Na_50 rfl d_Na_add_31 (Nat.le_of_ble_eq_true rfl) (Cv.mono h (fun M7 h => ?_))
  obtain ⟨hOM7, h⟩ := h
  refine wm_lconst (x := 0) d_Na_add_34 rfl ?_
  refine wm_lstore d_Na_add_35 (by decide) (L' := [vr a0, vr a1, vi l2, vi (if mI M a0 1 < mI M a1 1 then mI M a1 1 else mI M a0 1), vl 0, vd, vd]) rfl ?_
  refine wm_iconst d_Na_add_37 ?_
  refine wm_istore d_Na_add_38 (by decide) (L' := [vr a0, vr a1, vi l2, vi (if mI M a0 1 < mI M a1 1 then mI M a1 1 else mI M a0 1), vl 0, vd, vi 0]) rfl ?_
  exact h
theorem k_Na_add_40 {G : mG} {d : Nat} {a0 : Nat} {a1 : Nat} {l2 : Int} {l3 : Int} {j4 : Int} {l6 : Int} {M : mM} {Q : mM → Prop} (hO : mOk M) (hi_l2 : i32 l2) (hi_l3 : i32 l3) (hi_j4 : i64 j4) (hi_l6 : i32 l6)
    (h : mK M a1 = 10 ∧ ((mI M a1 1 ≤ l6) → (h_Na_add_107 G d a0 l3 j4 (mI M a1 1) M Q)) ∧ (¬ (mI M a1 1 ≤ l6) → (mK M a0 = 10 ∧ mK M (mR M a0 0) = 30 ∧ ((0 : Int) ≤ l6 ∧ l6 < (mN M (mR M a0 0) : Int)) ∧ mK M (mR M a1 0) = 30 ∧ ((0 : Int) ≤ l6 ∧ l6 < (mN M (mR M a1 0) : Int)) ∧ ((0 : Int) ≤ l6 ∧ l6 < (mN M (mR M a0 0) : Int)) ∧ i32 (andL (j4 + ((mI M (mR M a0 0) (Int.toNat l6)) + (l2 * (mI M (mR M a1 0) (Int.toNat l6))))) 1073741823) ∧ ∀ M27, M27 = mUI M (mR M a0 0) (Int.toNat l6) (andL (j4 + ((mI M (mR M a0 0) (Int.toNat l6)) + (l2 * (mI M (mR M a1 0) (Int.toNat l6))))) 1073741823) → h_Na_add_40 G d a0 a1 l2 l3 (ushrL (j4 + ((mI M (mR M a0 0) (Int.toNat l6)) + (l2 * (mI M (mR M a1 0) (Int.toNat l6))))) 30) (l6 + 1) M27 Q))) :
    h_Na_add_40 G d a0 a1 l2 l3 j4 l6 M Q := by
  unfold h_Na_add_40
  obtain ⟨h10, h⟩ := h
  refine wm_iload d_Na_add_40 rfl ?_
  refine wm_aload_n d_Na_add_42 rfl rfl ?_
  refine gf_Na_13 rfl d_Na_add_43 h10 ?_
  refine wm_icmp_ge (tgt := 101) d_Na_add_46 rfl hi_l6 (hO _ _).1 (fun c19 => ?_) (fun c19 => ?_)
  · replace h := h.1 c19
    refine wm_aload_n d_Na_add_101 rfl rfl ?_
    refine gf_Na_13 rfl d_Na_add_102 h10 ?_
    refine wm_istore d_Na_add_105 (by decide) (L' := [vr a0, vr a1, vi l2, vi l3, vl j4, vd, vi (mI M a1 1)]) rfl ?_
    refine wm_less (L' := [vr a0, vd, vd, vi l3, vl j4, vd, vi (mI M a1 1)]) ⟨Or.inr rfl, Or.inl rfl, Or.inl rfl, Or.inr rfl, Or.inr rfl, Or.inl rfl, Or.inr rfl, trivial⟩ ?_
    exact h
  · replace h := h.2 c19
    obtain ⟨h20, h⟩ := h
    obtain ⟨h21, h⟩ := h
    obtain ⟨h22, h⟩ := h
    obtain ⟨h23, h⟩ := h
    obtain ⟨h24, h⟩ := h
    obtain ⟨h25, h⟩ := h
    obtain ⟨h26, h⟩ := h
    obtain ⟨M27, e28⟩ : ∃ M27, M27 = mUI M (mR M a0 0) (Int.toNat l6) (andL (j4 + ((mI M (mR M a0 0) (Int.toNat l6)) + (l2 * (mI M (mR M a1 0) (Int.toNat l6))))) 1073741823) := ⟨_, rfl⟩
    replace h := h M27 e28
    refine wm_lload d_Na_add_49 rfl ?_
    refine wm_aload_n d_Na_add_51 rfl rfl ?_
    refine gf_Na_9 rfl d_Na_add_52 h20 ?_
    refine wm_iload d_Na_add_55 rfl ?_
    refine wm_iald d_Na_add_57 h21 h22 ?_
    refine wm_i2l d_Na_add_58 (hO _ _).1 ?_
    refine wm_iload_n d_Na_add_59 rfl rfl ?_
    refine wm_i2l d_Na_add_60 hi_l2 ?_
    refine wm_aload_n d_Na_add_61 rfl rfl ?_
    refine gf_Na_9 rfl d_Na_add_62 h10 ?_
    refine wm_iload d_Na_add_65 rfl ?_
    refine wm_iald d_Na_add_67 h23 h24 ?_
    refine wm_i2l d_Na_add_68 (hO _ _).1 ?_
    refine wm_lmul d_Na_add_69 ?_
    refine wm_ladd d_Na_add_70 ?_
    refine wm_ladd d_Na_add_71 ?_
    refine wm_lstore d_Na_add_72 (by decide) (L' := [vr a0, vr a1, vi l2, vi l3, vl (j4 + ((mI M (mR M a0 0) (Int.toNat l6)) + (l2 * (mI M (mR M a1 0) (Int.toNat l6))))), vd, vi l6]) rfl ?_
    refine wm_aload_n d_Na_add_74 rfl rfl ?_
    refine gf_Na_9 rfl d_Na_add_75 h20 ?_
    refine wm_iload d_Na_add_78 rfl ?_
    refine wm_lload d_Na_add_80 rfl ?_
    refine wm_ldc2 (x := 1073741823) d_Na_add_82 k5_202 (by decide) ?_
    refine wm_land d_Na_add_85 ?_
    refine wm_l2i d_Na_add_86 ?_
    have hOM27 : mOk M27 := by rw [e28]; exact mOk_UI hO h26
    refine wm_iastE d_Na_add_87 h21 h25 h26 e28 ?_
    refine wm_lload d_Na_add_88 rfl ?_
    refine wm_bipush d_Na_add_90 (by decide) ?_
    refine wm_lushr d_Na_add_92 ?_
    refine wm_lstore d_Na_add_93 (by decide) (L' := [vr a0, vr a1, vi l2, vi l3, vl (ushrL (j4 + ((mI M (mR M a0 0) (Int.toNat l6)) + (l2 * (mI M (mR M a1 0) (Int.toNat l6))))) 30), vd, vi l6]) rfl ?_
    refine wm_iinc d_Na_add_95 (by decide) rfl (L' := [vr a0, vr a1, vi l2, vi l3, vl (ushrL (j4 + ((mI M (mR M a0 0) (Int.toNat l6)) + (l2 * (mI M (mR M a1 0) (Int.toNat l6))))) 30), vd, vi (l6 + 1)]) rfl ?_
    refine wm_goto (tgt := 40) d_Na_add_98 rfl ?_
    exact h
theorem k_Na_add_107 {G : mG} {d : Nat} {a0 : Nat} {l3 : Int} {j4 : Int} {l6 : Int} {M : mM} {Q : mM → Prop} (hO : mOk M) (hi_l3 : i32 l3) (hi_j4 : i64 j4) (hi_l6 : i32 l6)
    (h : (((l3 < l6) ∨ (cmpL j4 0 = 0)) → (mK M a0 = 10 ∧ Cv G y_Na_trim d [vr a0, vi (l3 + 1)] M (fun M39 => mOk M39 ∧ (Q M39)))) ∧ (¬ ((l3 < l6) ∨ (cmpL j4 0 = 0)) → (mK M a0 = 10 ∧ mK M (mR M a0 0) = 30 ∧ ((0 : Int) ≤ l6 ∧ l6 < (mN M (mR M a0 0) : Int)) ∧ ((0 : Int) ≤ l6 ∧ l6 < (mN M (mR M a0 0) : Int)) ∧ i32 (andL (j4 + (mI M (mR M a0 0) (Int.toNat l6))) 1073741823) ∧ ∀ M48, M48 = mUI M (mR M a0 0) (Int.toNat l6) (andL (j4 + (mI M (mR M a0 0) (Int.toNat l6))) 1073741823) → h_Na_add_107 G d a0 l3 (ushrL (j4 + (mI M (mR M a0 0) (Int.toNat l6))) 30) (l6 + 1) M48 Q))) :
    h_Na_add_107 G d a0 l3 j4 l6 M Q := by
  unfold h_Na_add_107
  refine wm_iload d_Na_add_107 rfl ?_
  refine wm_iload_n d_Na_add_109 rfl rfl ?_
  have hE0 : ((l3 < l6) ∨ (cmpL j4 0 = 0)) → mWm G y_Na_add (d + 1) 160 [vr a0, vd, vd, vi l3, vl j4, vd, vi l6] [] M (fun r9 M9 => r9 = none ∧ Q M9) := by
    intro q37
    have h := h.1 q37
    obtain ⟨h38, h⟩ := h
    refine wm_aload_n d_Na_add_160 rfl rfl ?_
    refine wm_iload_n d_Na_add_161 rfl rfl ?_
    refine wm_iconst d_Na_add_162 ?_
    refine wm_iadd d_Na_add_163 ?_
    refine cf_Na_31 rfl d_Na_add_164 h38 (Nat.le_of_ble_eq_true rfl) (Cv.mono h (fun M39 h => ?_))
    obtain ⟨hOM39, h⟩ := h
    refine wm_return d_Na_add_167 rfl ?_
    exact ⟨rfl, h⟩
  have hE1 : ¬ ((l3 < l6) ∨ (cmpL j4 0 = 0)) → mWm G y_Na_add (d + 1) 120 [vr a0, vd, vd, vi l3, vl j4, vd, vi l6] [] M (fun r9 M9 => r9 = none ∧ Q M9) := by
    intro q42
    have h := h.2 q42
    obtain ⟨h43, h⟩ := h
    obtain ⟨h44, h⟩ := h
    obtain ⟨h45, h⟩ := h
    obtain ⟨h46, h⟩ := h
    obtain ⟨h47, h⟩ := h
    obtain ⟨M48, e49⟩ : ∃ M48, M48 = mUI M (mR M a0 0) (Int.toNat l6) (andL (j4 + (mI M (mR M a0 0) (Int.toNat l6))) 1073741823) := ⟨_, rfl⟩
    replace h := h M48 e49
    refine wm_lload d_Na_add_120 rfl ?_
    refine wm_aload_n d_Na_add_122 rfl rfl ?_
    refine gf_Na_9 rfl d_Na_add_123 h43 ?_
    refine wm_iload d_Na_add_126 rfl ?_
    refine wm_iald d_Na_add_128 h44 h45 ?_
    refine wm_i2l d_Na_add_129 (hO _ _).1 ?_
    refine wm_ladd d_Na_add_130 ?_
    refine wm_lstore d_Na_add_131 (by decide) (L' := [vr a0, vd, vd, vi l3, vl (j4 + (mI M (mR M a0 0) (Int.toNat l6))), vd, vi l6]) rfl ?_
    refine wm_aload_n d_Na_add_133 rfl rfl ?_
    refine gf_Na_9 rfl d_Na_add_134 h43 ?_
    refine wm_iload d_Na_add_137 rfl ?_
    refine wm_lload d_Na_add_139 rfl ?_
    refine wm_ldc2 (x := 1073741823) d_Na_add_141 k5_202 (by decide) ?_
    refine wm_land d_Na_add_144 ?_
    refine wm_l2i d_Na_add_145 ?_
    have hOM48 : mOk M48 := by rw [e49]; exact mOk_UI hO h47
    refine wm_iastE d_Na_add_146 h44 h46 h47 e49 ?_
    refine wm_lload d_Na_add_147 rfl ?_
    refine wm_bipush d_Na_add_149 (by decide) ?_
    refine wm_lushr d_Na_add_151 ?_
    refine wm_lstore d_Na_add_152 (by decide) (L' := [vr a0, vd, vd, vi l3, vl (ushrL (j4 + (mI M (mR M a0 0) (Int.toNat l6))) 30), vd, vi l6]) rfl ?_
    refine wm_iinc d_Na_add_154 (by decide) rfl (L' := [vr a0, vd, vd, vi l3, vl (ushrL (j4 + (mI M (mR M a0 0) (Int.toNat l6))) 30), vd, vi (l6 + 1)]) rfl ?_
    refine wm_goto (tgt := 107) d_Na_add_157 rfl ?_
    exact h
  clear h
  refine wm_icmp_gt (tgt := 160) d_Na_add_110 rfl hi_l6 hi_l3 (fun c35 => ?_) (fun c35 => ?_)
  · exact hE0 (Or.inl c35)
  · refine wm_lload d_Na_add_113 rfl ?_
    refine wm_lconst (x := 0) d_Na_add_115 rfl ?_
    refine wm_lcmp d_Na_add_116 hi_j4 ⟨by decide, by decide⟩ ?_
    refine wm_if_eq (tgt := 160) d_Na_add_117 rfl (m_cmp32 _ _) (fun c34 => ?_) (fun c34 => ?_)
    · exact hE0 (Or.inr c34)
    · exact hE1 (fun z50 => Or.elim z50 c35 c34)
theorem d_Na_multiply_0 : decode y_Na_multiply.2.1 0 = .ok (.iload_n 1, 1) := dc9_27 (by decide +kernel)
theorem d_Na_multiply_1 : decode y_Na_multiply.2.1 1 = .ok (.iconst 1, 1) := dc9_4 (by decide +kernel)
theorem d_Na_multiply_2 : decode y_Na_multiply.2.1 2 = .ok (.if_icmp .ne 4, 3) := dc9_160 (by decide +kernel)
theorem d_Na_multiply_5 : decode y_Na_multiply.2.1 5 = .ok (.return_, 1) := dc9_177 (by decide +kernel)
theorem d_Na_multiply_6 : decode y_Na_multiply.2.1 6 = .ok (.aload_n 0, 1) := dc9_42 (by decide +kernel)
theorem d_Na_multiply_7 : decode y_Na_multiply.2.1 7 = .ok (.getfield 13, 3) := dc9_180 (by decide +kernel)
theorem d_Na_multiply_10 : decode y_Na_multiply.2.1 10 = .ok (.aload_n 0, 1) := dc9_42 (by decide +kernel)
theorem d_Na_multiply_11 : decode y_Na_multiply.2.1 11 = .ok (.getfield 9, 3) := dc9_180 (by decide +kernel)
theorem d_Na_multiply_14 : decode y_Na_multiply.2.1 14 = .ok (.arraylength, 1) := dc9_190 (by decide +kernel)
theorem d_Na_multiply_15 : decode y_Na_multiply.2.1 15 = .ok (.if_icmp .ne 20, 3) := dc9_160 (by decide +kernel)
theorem d_Na_multiply_18 : decode y_Na_multiply.2.1 18 = .ok (.aload_n 0, 1) := dc9_42 (by decide +kernel)
theorem d_Na_multiply_19 : decode y_Na_multiply.2.1 19 = .ok (.aload_n 0, 1) := dc9_42 (by decide +kernel)
theorem d_Na_multiply_20 : decode y_Na_multiply.2.1 20 = .ok (.getfield 9, 3) := dc9_180 (by decide +kernel)
theorem d_Na_multiply_23 : decode y_Na_multiply.2.1 23 = .ok (.iconst 2, 1) := dc9_5 (by decide +kernel)
theorem d_Na_multiply_24 : decode y_Na_multiply.2.1 24 = .ok (.aload_n 0, 1) := dc9_42 (by decide +kernel)
theorem d_Na_multiply_25 : decode y_Na_multiply.2.1 25 = .ok (.getfield 13, 3) := dc9_180 (by decide +kernel)
theorem d_Na_multiply_28 : decode y_Na_multiply.2.1 28 = .ok (.imul, 1) := dc9_104 (by decide +kernel)
theorem d_Na_multiply_29 : decode y_Na_multiply.2.1 29 = .ok (.invokestatic 23, 3) := dc9_184 (by decide +kernel)
theorem d_Na_multiply_32 : decode y_Na_multiply.2.1 32 = .ok (.putfield 9, 3) := dc9_181 (by decide +kernel)
theorem d_Na_multiply_35 : decode y_Na_multiply.2.1 35 = .ok (.lconst 0, 1) := dc9_9 (by decide +kernel)
theorem d_Na_multiply_36 : decode y_Na_multiply.2.1 36 = .ok (.lstore_n 2, 1) := dc9_65 (by decide +kernel)
theorem d_Na_multiply_37 : decode y_Na_multiply.2.1 37 = .ok (.iconst 0, 1) := dc9_3 (by decide +kernel)
theorem d_Na_multiply_38 : decode y_Na_multiply.2.1 38 = .ok (.istore 4, 2) := dc9_54 (by decide +kernel)
theorem d_Na_multiply_40 : decode y_Na_multiply.2.1 40 = .ok (.iload 4, 2) := dc9_21 (by decide +kernel)
theorem d_Na_multiply_42 : decode y_Na_multiply.2.1 42 = .ok (.aload_n 0, 1) := dc9_42 (by decide +kernel)
theorem d_Na_multiply_43 : decode y_Na_multiply.2.1 43 = .ok (.getfield 13, 3) := dc9_180 (by decide +kernel)
theorem d_Na_multiply_46 : decode y_Na_multiply.2.1 46 = .ok (.if_icmp .ge 41, 3) := dc9_162 (by decide +kernel)
theorem d_Na_multiply_87 : decode y_Na_multiply.2.1 87 = .ok (.lload_n 2, 1) := dc9_32 (by decide +kernel)
theorem d_Na_multiply_88 : decode y_Na_multiply.2.1 88 = .ok (.lconst 0, 1) := dc9_9 (by decide +kernel)
theorem d_Na_multiply_89 : decode y_Na_multiply.2.1 89 = .ok (.lcmp, 1) := dc9_148 (by decide +kernel)
theorem d_Na_multiply_49 : decode y_Na_multiply.2.1 49 = .ok (.lload_n 2, 1) := dc9_32 (by decide +kernel)
theorem d_Na_multiply_50 : decode y_Na_multiply.2.1 50 = .ok (.iload_n 1, 1) := dc9_27 (by decide +kernel)
theorem d_Na_multiply_51 : decode y_Na_multiply.2.1 51 = .ok (.i2l, 1) := dc9_133 (by decide +kernel)
theorem d_Na_multiply_52 : decode y_Na_multiply.2.1 52 = .ok (.aload_n 0, 1) := dc9_42 (by decide +kernel)
theorem d_Na_multiply_53 : decode y_Na_multiply.2.1 53 = .ok (.getfield 9, 3) := dc9_180 (by decide +kernel)
theorem d_Na_multiply_56 : decode y_Na_multiply.2.1 56 = .ok (.iload 4, 2) := dc9_21 (by decide +kernel)
theorem d_Na_multiply_58 : decode y_Na_multiply.2.1 58 = .ok (.iaload, 1) := dc9_46 (by decide +kernel)
theorem d_Na_multiply_59 : decode y_Na_multiply.2.1 59 = .ok (.i2l, 1) := dc9_133 (by decide +kernel)
theorem d_Na_multiply_60 : decode y_Na_multiply.2.1 60 = .ok (.lmul, 1) := dc9_105 (by decide +kernel)
theorem d_Na_multiply_61 : decode y_Na_multiply.2.1 61 = .ok (.ladd, 1) := dc9_97 (by decide +kernel)
theorem d_Na_multiply_62 : decode y_Na_multiply.2.1 62 = .ok (.lstore_n 2, 1) := dc9_65 (by decide +kernel)
theorem d_Na_multiply_63 : decode y_Na_multiply.2.1 63 = .ok (.aload_n 0, 1) := dc9_42 (by decide +kernel)
theorem d_Na_multiply_64 : decode y_Na_multiply.2.1 64 = .ok (.getfield 9, 3) := dc9_180 (by decide +kernel)
theorem d_Na_multiply_67 : decode y_Na_multiply.2.1 67 = .ok (.iload 4, 2) := dc9_21 (by decide +kernel)
theorem d_Na_multiply_69 : decode y_Na_multiply.2.1 69 = .ok (.lload_n 2, 1) := dc9_32 (by decide +kernel)
theorem d_Na_multiply_70 : decode y_Na_multiply.2.1 70 = .ok (.ldc2_w 29, 3) := dc9_20 (by decide +kernel)
theorem d_Na_multiply_73 : decode y_Na_multiply.2.1 73 = .ok (.land, 1) := dc9_127 (by decide +kernel)
theorem d_Na_multiply_74 : decode y_Na_multiply.2.1 74 = .ok (.l2i, 1) := dc9_136 (by decide +kernel)
theorem d_Na_multiply_75 : decode y_Na_multiply.2.1 75 = .ok (.iastore, 1) := dc9_79 (by decide +kernel)
theorem d_Na_multiply_76 : decode y_Na_multiply.2.1 76 = .ok (.lload_n 2, 1) := dc9_32 (by decide +kernel)
theorem d_Na_multiply_77 : decode y_Na_multiply.2.1 77 = .ok (.bipush 30, 2) := dc9_16 (by decide +kernel)
theorem d_Na_multiply_79 : decode y_Na_multiply.2.1 79 = .ok (.lushr, 1) := dc9_125 (by decide +kernel)
theorem d_Na_multiply_80 : decode y_Na_multiply.2.1 80 = .ok (.lstore_n 2, 1) := dc9_65 (by decide +kernel)
theorem d_Na_multiply_81 : decode y_Na_multiply.2.1 81 = .ok (.iinc 4 1, 3) := by decide +kernel
theorem d_Na_multiply_84 : decode y_Na_multiply.2.1 84 = .ok (.goto (-44), 3) := dc9_167 (by decide +kernel)
theorem d_Na_multiply_90 : decode y_Na_multiply.2.1 90 = .ok (.ifCond .eq 24, 3) := dc9_153 (by decide +kernel)
theorem d_Na_multiply_93 : decode y_Na_multiply.2.1 93 = .ok (.aload_n 0, 1) := dc9_42 (by decide +kernel)
theorem d_Na_multiply_94 : decode y_Na_multiply.2.1 94 = .ok (.getfield 9, 3) := dc9_180 (by decide +kernel)
theorem d_Na_multiply_97 : decode y_Na_multiply.2.1 97 = .ok (.aload_n 0, 1) := dc9_42 (by decide +kernel)
theorem d_Na_multiply_98 : decode y_Na_multiply.2.1 98 = .ok (.getfield 13, 3) := dc9_180 (by decide +kernel)
theorem d_Na_multiply_101 : decode y_Na_multiply.2.1 101 = .ok (.lload_n 2, 1) := dc9_32 (by decide +kernel)
theorem d_Na_multiply_102 : decode y_Na_multiply.2.1 102 = .ok (.l2i, 1) := dc9_136 (by decide +kernel)
theorem d_Na_multiply_103 : decode y_Na_multiply.2.1 103 = .ok (.iastore, 1) := dc9_79 (by decide +kernel)
theorem d_Na_multiply_104 : decode y_Na_multiply.2.1 104 = .ok (.aload_n 0, 1) := dc9_42 (by decide +kernel)
theorem d_Na_multiply_105 : decode y_Na_multiply.2.1 105 = .ok (.dup, 1) := dc9_89 (by decide +kernel)
theorem d_Na_multiply_106 : decode y_Na_multiply.2.1 106 = .ok (.getfield 13, 3) := dc9_180 (by decide +kernel)
theorem d_Na_multiply_109 : decode y_Na_multiply.2.1 109 = .ok (.iconst 1, 1) := dc9_4 (by decide +kernel)
theorem d_Na_multiply_110 : decode y_Na_multiply.2.1 110 = .ok (.iadd, 1) := dc9_96 (by decide +kernel)
theorem d_Na_multiply_111 : decode y_Na_multiply.2.1 111 = .ok (.putfield 13, 3) := dc9_181 (by decide +kernel)
theorem d_Na_multiply_114 : decode y_Na_multiply.2.1 114 = .ok (.return_, 1) := dc9_177 (by decide +kernel)
def h_Na_multiply_40 (G : mG) (d : Nat) (a0 : Nat) (l1 : Int) (j2 : Int) (l4 : Int) (M : mM) (Q : mM → Prop) : Prop := mWm G y_Na_multiply (d + 1) 40 [vr a0, vi l1, vl j2, vd, vi l4] [] M (fun r9 M9 => r9 = none ∧ Q M9)
theorem k_Na_multiply {G : mG} {d : Nat} {a0 : Nat} {l1 : Int} {M : mM} {Q : mM → Prop} (hO : mOk M) (hi_l1 : i32 l1)
    (h : ((l1 = 1) → (Q M)) ∧ (¬ (l1 = 1) → (mK M a0 = 10 ∧ mK M (mR M a0 0) = 30 ∧ i32 (mN M (mR M a0 0) : Int) ∧ ((mI M a0 1 = (mN M (mR M a0 0) : Int)) → (Cr G y_JA_copyOf d [vr (mR M a0 0), vi (2 * (mI M a0 1))] M (fun x16 M15 => mOk M15 ∧ (mK M15 a0 = 10 ∧ ∀ M19, M19 = mUR M15 a0 0 x16 → h_Na_multiply_40 G d a0 l1 0 0 M19 Q)))) ∧ (¬ (mI M a0 1 = (mN M (mR M a0 0) : Int)) → (h_Na_multiply_40 G d a0 l1 0 0 M Q))))) :
    Cv G y_Na_multiply (d + 1) [vr a0, vi l1] M Q := by
  refine wm_open (y := y_Na_multiply) rfl (Nat.le_of_ble_eq_true rfl) (L := [vr a0, vi l1, vd, vd, vd]) rfl ?_
  refine wm_iload_n d_Na_multiply_0 rfl rfl ?_
  refine wm_iconst d_Na_multiply_1 ?_
  refine wm_icmp_ne (tgt := 6) d_Na_multiply_2 rfl hi_l1 ⟨by decide, by decide⟩ (fun c6 => ?_) (fun c6 => ?_)
  · replace h := h.2 c6
    obtain ⟨h7, h⟩ := h
    obtain ⟨h8, h⟩ := h
    obtain ⟨h13, h⟩ := h
    refine wm_aload_n d_Na_multiply_6 rfl rfl ?_
    refine gf_Na_13 rfl d_Na_multiply_7 h7 ?_
    refine wm_aload_n d_Na_multiply_10 rfl rfl ?_
    refine gf_Na_9 rfl d_Na_multiply_11 h7 ?_
    refine wm_alen 0 rfl (fun _ => rfl) d_Na_multiply_14 h8 ?_
    refine wm_icmp_ne (tgt := 35) d_Na_multiply_15 rfl (hO _ _).1 h13 (fun c14 => ?_) (fun c14 => ?_)
    · replace h := h.2 c14
      refine wm_lconst (x := 0) d_Na_multiply_35 rfl ?_
      refine wm_lstore_n d_Na_multiply_36 rfl (by decide) (L' := [vr a0, vi l1, vl 0, vd, vd]) rfl ?_
      refine wm_iconst d_Na_multiply_37 ?_
      refine wm_istore d_Na_multiply_38 (by decide) (L' := [vr a0, vi l1, vl 0, vd, vi 0]) rfl ?_
      exact h
    · replace c14 := Classical.not_not.mp c14
      replace h := h.1 c14
      refine wm_aload_n d_Na_multiply_18 rfl rfl ?_
      refine wm_aload_n d_Na_multiply_19 rfl rfl ?_
      refine gf_Na_9 rfl d_Na_multiply_20 h7 ?_
      refine wm_iconst d_Na_multiply_23 ?_
      refine wm_aload_n d_Na_multiply_24 rfl rfl ?_
      refine gf_Na_13 rfl d_Na_multiply_25 h7 ?_
      refine wm_imul d_Na_multiply_28 ?_
      refine cf_Na_23 rfl d_Na_multiply_29 (Nat.le_of_ble_eq_true rfl) (Cr.mono h (fun x16 M15 h => ?_))
      obtain ⟨hOM15, h⟩ := h
      obtain ⟨h18, h⟩ := h
      obtain ⟨M19, e20⟩ : ∃ M19, M19 = mUR M15 a0 0 x16 := ⟨_, rfl⟩
      replace h := h M19 e20
      have hOM19 : mOk M19 := by rw [e20]; exact mOk_UR hOM15
      refine pf_Na_9 rfl d_Na_multiply_32 h18 e20 ?_
      refine wm_lconst (x := 0) d_Na_multiply_35 rfl ?_
      refine wm_lstore_n d_Na_multiply_36 rfl (by decide) (L' := [vr a0, vi l1, vl 0, vd, vd]) rfl ?_
      refine wm_iconst d_Na_multiply_37 ?_
      refine wm_istore d_Na_multiply_38 (by decide) (L' := [vr a0, vi l1, vl 0, vd, vi 0]) rfl ?_
      exact h
  · replace c6 := Classical.not_not.mp c6
    replace h := h.1 c6
    refine wm_return d_Na_multiply_5 rfl ?_
    exact ⟨rfl, h⟩
theorem k_Na_multiply_40 {G : mG} {d : Nat} {a0 : Nat} {l1 : Int} {j2 : Int} {l4 : Int} {M : mM} {Q : mM → Prop} (hO : mOk M) (hi_l1 : i32 l1) (hi_j2 : i64 j2) (hi_l4 : i32 l4)
    (h : mK M a0 = 10 ∧ ((mI M a0 1 ≤ l4) → (((cmpL j2 0 = 0) → (Q M)) ∧ (¬ (cmpL j2 0 = 0) → (mK M (mR M a0 0) = 30 ∧ ((0 : Int) ≤ mI M a0 1 ∧ mI M a0 1 < (mN M (mR M a0 0) : Int)) ∧ i32 j2 ∧ ∀ M39, M39 = mUI M (mR M a0 0) (Int.toNat (mI M a0 1)) j2 → i32 ((mI M39 a0 1) + 1) ∧ ∀ M42, M42 = mUI M39 a0 1 ((mI M39 a0 1) + 1) → Q M42)))) ∧ (¬ (mI M a0 1 ≤ l4) → (mK M (mR M a0 0) = 30 ∧ ((0 : Int) ≤ l4 ∧ l4 < (mN M (mR M a0 0) : Int)) ∧ ((0 : Int) ≤ l4 ∧ l4 < (mN M (mR M a0 0) : Int)) ∧ i32 (andL (j2 + (l1 * (mI M (mR M a0 0) (Int.toNat l4)))) 1073741823) ∧ ∀ M48, M48 = mUI M (mR M a0 0) (Int.toNat l4) (andL (j2 + (l1 * (mI M (mR M a0 0) (Int.toNat l4)))) 1073741823) → h_Na_multiply_40 G d a0 l1 (ushrL (j2 + (l1 * (mI M (mR M a0 0) (Int.toNat l4)))) 30) (l4 + 1) M48 Q))) :
    h_Na_multiply_40 G d a0 l1 j2 l4 M Q := by
  unfold h_Na_multiply_40
  obtain ⟨h21, h⟩ := h
  refine wm_iload d_Na_multiply_40 rfl ?_
  refine wm_aload_n d_Na_multiply_42 rfl rfl ?_
  refine gf_Na_13 rfl d_Na_multiply_43 h21 ?_
  refine wm_icmp_ge (tgt := 87) d_Na_multiply_46 rfl hi_l4 (hO _ _).1 (fun c28 => ?_) (fun c28 => ?_)
  · replace h := h.1 c28
    refine wm_lload_n d_Na_multiply_87 rfl rfl ?_
    refine wm_lconst (x := 0) d_Na_multiply_88 rfl ?_
    refine wm_lcmp d_Na_multiply_89 hi_j2 ⟨by decide, by decide⟩ ?_
    refine wm_if_eq (tgt := 114) d_Na_multiply_90 rfl (m_cmp32 _ _) (fun c35 => ?_) (fun c35 => ?_)
    · replace h := h.1 c35
      refine wm_return d_Na_multiply_114 rfl ?_
      exact ⟨rfl, h⟩
    · replace h := h.2 c35
      obtain ⟨h36, h⟩ := h
      obtain ⟨h37, h⟩ := h
      obtain ⟨h38, h⟩ := h
      obtain ⟨M39, e40⟩ : ∃ M39, M39 = mUI M (mR M a0 0) (Int.toNat (mI M a0 1)) j2 := ⟨_, rfl⟩
      replace h := h M39 e40
      obtain ⟨h41, h⟩ := h
      obtain ⟨M42, e43⟩ : ∃ M42, M42 = mUI M39 a0 1 ((mI M39 a0 1) + 1) := ⟨_, rfl⟩
      replace h := h M42 e43
      refine wm_aload_n d_Na_multiply_93 rfl rfl ?_
      refine gf_Na_9 rfl d_Na_multiply_94 h21 ?_
      refine wm_aload_n d_Na_multiply_97 rfl rfl ?_
      refine gf_Na_13 rfl d_Na_multiply_98 h21 ?_
      refine wm_lload_n d_Na_multiply_101 rfl rfl ?_
      refine wm_l2i d_Na_multiply_102 ?_
      have hOM39 : mOk M39 := by rw [e40]; exact mOk_UI hO h38
      refine wm_iastE d_Na_multiply_103 h36 h37 h38 e40 ?_
      refine wm_aload_n d_Na_multiply_104 rfl rfl ?_
      refine wm_dup d_Na_multiply_105 rfl ?_
      refine gf_Na_13 rfl d_Na_multiply_106 (by rw [e40]; exact h21) ?_
      refine wm_iconst d_Na_multiply_109 ?_
      refine wm_iadd d_Na_multiply_110 ?_
      have hOM42 : mOk M42 := by rw [e43]; exact mOk_UI hOM39 h41
      refine pf_Na_13 rfl d_Na_multiply_111 (by rw [e40]; exact h21) h41 e43 ?_
      refine wm_return d_Na_multiply_114 rfl ?_
      exact ⟨rfl, h⟩
  · replace h := h.2 c28
    obtain ⟨h44, h⟩ := h
    obtain ⟨h45, h⟩ := h
    obtain ⟨h46, h⟩ := h
    obtain ⟨h47, h⟩ := h
    obtain ⟨M48, e49⟩ : ∃ M48, M48 = mUI M (mR M a0 0) (Int.toNat l4) (andL (j2 + (l1 * (mI M (mR M a0 0) (Int.toNat l4)))) 1073741823) := ⟨_, rfl⟩
    replace h := h M48 e49
    refine wm_lload_n d_Na_multiply_49 rfl rfl ?_
    refine wm_iload_n d_Na_multiply_50 rfl rfl ?_
    refine wm_i2l d_Na_multiply_51 hi_l1 ?_
    refine wm_aload_n d_Na_multiply_52 rfl rfl ?_
    refine gf_Na_9 rfl d_Na_multiply_53 h21 ?_
    refine wm_iload d_Na_multiply_56 rfl ?_
    refine wm_iald d_Na_multiply_58 h44 h45 ?_
    refine wm_i2l d_Na_multiply_59 (hO _ _).1 ?_
    refine wm_lmul d_Na_multiply_60 ?_
    refine wm_ladd d_Na_multiply_61 ?_
    refine wm_lstore_n d_Na_multiply_62 rfl (by decide) (L' := [vr a0, vi l1, vl (j2 + (l1 * (mI M (mR M a0 0) (Int.toNat l4)))), vd, vi l4]) rfl ?_
    refine wm_aload_n d_Na_multiply_63 rfl rfl ?_
    refine gf_Na_9 rfl d_Na_multiply_64 h21 ?_
    refine wm_iload d_Na_multiply_67 rfl ?_
    refine wm_lload_n d_Na_multiply_69 rfl rfl ?_
    refine wm_ldc2 (x := 1073741823) d_Na_multiply_70 k5_202 (by decide) ?_
    refine wm_land d_Na_multiply_73 ?_
    refine wm_l2i d_Na_multiply_74 ?_
    have hOM48 : mOk M48 := by rw [e49]; exact mOk_UI hO h47
    refine wm_iastE d_Na_multiply_75 h44 h46 h47 e49 ?_
    refine wm_lload_n d_Na_multiply_76 rfl rfl ?_
    refine wm_bipush d_Na_multiply_77 (by decide) ?_
    refine wm_lushr d_Na_multiply_79 ?_
    refine wm_lstore_n d_Na_multiply_80 rfl (by decide) (L' := [vr a0, vi l1, vl (ushrL (j2 + (l1 * (mI M (mR M a0 0) (Int.toNat l4)))) 30), vd, vi l4]) rfl ?_
    refine wm_iinc d_Na_multiply_81 (by decide) rfl (L' := [vr a0, vi l1, vl (ushrL (j2 + (l1 * (mI M (mR M a0 0) (Int.toNat l4)))) 30), vd, vi (l4 + 1)]) rfl ?_
    refine wm_goto (tgt := 40) d_Na_multiply_84 rfl ?_
    exact h
theorem d_Na_putProduct_0 : decode y_Na_putProduct.2.1 0 = .ok (.aload_n 0, 1) := dc9_42 (by decide +kernel)
theorem d_Na_putProduct_1 : decode y_Na_putProduct.2.1 1 = .ok (.aload_n 1, 1) := dc9_43 (by decide +kernel)
theorem d_Na_putProduct_2 : decode y_Na_putProduct.2.1 2 = .ok (.getfield 13, 3) := dc9_180 (by decide +kernel)
theorem d_Na_putProduct_5 : decode y_Na_putProduct.2.1 5 = .ok (.aload_n 2, 1) := dc9_44 (by decide +kernel)
theorem d_Na_putProduct_6 : decode y_Na_putProduct.2.1 6 = .ok (.getfield 13, 3) := dc9_180 (by decide +kernel)
theorem d_Na_putProduct_9 : decode y_Na_putProduct.2.1 9 = .ok (.iadd, 1) := dc9_96 (by decide +kernel)
theorem d_Na_putProduct_10 : decode y_Na_putProduct.2.1 10 = .ok (.invokevirtual 47, 3) := dc9_182 (by decide +kernel)
theorem d_Na_putProduct_13 : decode y_Na_putProduct.2.1 13 = .ok (.aload_n 0, 1) := dc9_42 (by decide +kernel)
theorem d_Na_putProduct_14 : decode y_Na_putProduct.2.1 14 = .ok (.getfield 9, 3) := dc9_180 (by decide +kernel)
theorem d_Na_putProduct_17 : decode y_Na_putProduct.2.1 17 = .ok (.iconst 0, 1) := dc9_3 (by decide +kernel)
theorem d_Na_putProduct_18 : decode y_Na_putProduct.2.1 18 = .ok (.aload_n 1, 1) := dc9_43 (by decide +kernel)
theorem d_Na_putProduct_19 : decode y_Na_putProduct.2.1 19 = .ok (.getfield 13, 3) := dc9_180 (by decide +kernel)
theorem d_Na_putProduct_22 : decode y_Na_putProduct.2.1 22 = .ok (.aload_n 2, 1) := dc9_44 (by decide +kernel)
theorem d_Na_putProduct_23 : decode y_Na_putProduct.2.1 23 = .ok (.getfield 13, 3) := dc9_180 (by decide +kernel)
theorem d_Na_putProduct_26 : decode y_Na_putProduct.2.1 26 = .ok (.iadd, 1) := dc9_96 (by decide +kernel)
theorem d_Na_putProduct_27 : decode y_Na_putProduct.2.1 27 = .ok (.iconst 0, 1) := dc9_3 (by decide +kernel)
theorem d_Na_putProduct_28 : decode y_Na_putProduct.2.1 28 = .ok (.invokestatic 50, 3) := dc9_184 (by decide +kernel)
theorem d_Na_putProduct_31 : decode y_Na_putProduct.2.1 31 = .ok (.iconst 0, 1) := dc9_3 (by decide +kernel)
theorem d_Na_putProduct_32 : decode y_Na_putProduct.2.1 32 = .ok (.istore_n 3, 1) := dc9_62 (by decide +kernel)
theorem d_Na_putProduct_33 : decode y_Na_putProduct.2.1 33 = .ok (.iload_n 3, 1) := dc9_29 (by decide +kernel)
theorem d_Na_putProduct_34 : decode y_Na_putProduct.2.1 34 = .ok (.aload_n 1, 1) := dc9_43 (by decide +kernel)
theorem d_Na_putProduct_35 : decode y_Na_putProduct.2.1 35 = .ok (.getfield 13, 3) := dc9_180 (by decide +kernel)
theorem d_Na_putProduct_38 : decode y_Na_putProduct.2.1 38 = .ok (.if_icmp .ge 103, 3) := dc9_162 (by decide +kernel)
theorem d_Na_putProduct_141 : decode y_Na_putProduct.2.1 141 = .ok (.aload_n 0, 1) := dc9_42 (by decide +kernel)
theorem d_Na_putProduct_142 : decode y_Na_putProduct.2.1 142 = .ok (.aload_n 1, 1) := dc9_43 (by decide +kernel)
theorem d_Na_putProduct_143 : decode y_Na_putProduct.2.1 143 = .ok (.getfield 13, 3) := dc9_180 (by decide +kernel)
theorem d_Na_putProduct_146 : decode y_Na_putProduct.2.1 146 = .ok (.aload_n 2, 1) := dc9_44 (by decide +kernel)
theorem d_Na_putProduct_147 : decode y_Na_putProduct.2.1 147 = .ok (.getfield 13, 3) := dc9_180 (by decide +kernel)
theorem d_Na_putProduct_150 : decode y_Na_putProduct.2.1 150 = .ok (.iadd, 1) := dc9_96 (by decide +kernel)
theorem d_Na_putProduct_41 : decode y_Na_putProduct.2.1 41 = .ok (.aload_n 1, 1) := dc9_43 (by decide +kernel)
theorem d_Na_putProduct_42 : decode y_Na_putProduct.2.1 42 = .ok (.getfield 9, 3) := dc9_180 (by decide +kernel)
theorem d_Na_putProduct_45 : decode y_Na_putProduct.2.1 45 = .ok (.iload_n 3, 1) := dc9_29 (by decide +kernel)
theorem d_Na_putProduct_46 : decode y_Na_putProduct.2.1 46 = .ok (.iaload, 1) := dc9_46 (by decide +kernel)
theorem d_Na_putProduct_47 : decode y_Na_putProduct.2.1 47 = .ok (.i2l, 1) := dc9_133 (by decide +kernel)
theorem d_Na_putProduct_48 : decode y_Na_putProduct.2.1 48 = .ok (.lstore 4, 2) := dc9_55 (by decide +kernel)
theorem d_Na_putProduct_50 : decode y_Na_putProduct.2.1 50 = .ok (.lconst 0, 1) := dc9_9 (by decide +kernel)
theorem d_Na_putProduct_51 : decode y_Na_putProduct.2.1 51 = .ok (.lstore 6, 2) := dc9_55 (by decide +kernel)
theorem d_Na_putProduct_53 : decode y_Na_putProduct.2.1 53 = .ok (.iconst 0, 1) := dc9_3 (by decide +kernel)
theorem d_Na_putProduct_54 : decode y_Na_putProduct.2.1 54 = .ok (.istore 8, 2) := dc9_54 (by decide +kernel)
theorem d_Na_putProduct_151 : decode y_Na_putProduct.2.1 151 = .ok (.invokevirtual 31, 3) := dc9_182 (by decide +kernel)
theorem d_Na_putProduct_154 : decode y_Na_putProduct.2.1 154 = .ok (.return_, 1) := dc9_177 (by decide +kernel)
theorem d_Na_putProduct_56 : decode y_Na_putProduct.2.1 56 = .ok (.iload 8, 2) := dc9_21 (by decide +kernel)
theorem d_Na_putProduct_58 : decode y_Na_putProduct.2.1 58 = .ok (.aload_n 2, 1) := dc9_44 (by decide +kernel)
theorem d_Na_putProduct_59 : decode y_Na_putProduct.2.1 59 = .ok (.getfield 13, 3) := dc9_180 (by decide +kernel)
theorem d_Na_putProduct_62 : decode y_Na_putProduct.2.1 62 = .ok (.if_icmp .ge 59, 3) := dc9_162 (by decide +kernel)
theorem d_Na_putProduct_121 : decode y_Na_putProduct.2.1 121 = .ok (.aload_n 0, 1) := dc9_42 (by decide +kernel)
theorem d_Na_putProduct_122 : decode y_Na_putProduct.2.1 122 = .ok (.getfield 9, 3) := dc9_180 (by decide +kernel)
theorem d_Na_putProduct_125 : decode y_Na_putProduct.2.1 125 = .ok (.iload_n 3, 1) := dc9_29 (by decide +kernel)
theorem d_Na_putProduct_126 : decode y_Na_putProduct.2.1 126 = .ok (.aload_n 2, 1) := dc9_44 (by decide +kernel)
theorem d_Na_putProduct_127 : decode y_Na_putProduct.2.1 127 = .ok (.getfield 13, 3) := dc9_180 (by decide +kernel)
theorem d_Na_putProduct_130 : decode y_Na_putProduct.2.1 130 = .ok (.iadd, 1) := dc9_96 (by decide +kernel)
theorem d_Na_putProduct_131 : decode y_Na_putProduct.2.1 131 = .ok (.lload 6, 2) := dc9_22 (by decide +kernel)
theorem d_Na_putProduct_133 : decode y_Na_putProduct.2.1 133 = .ok (.l2i, 1) := dc9_136 (by decide +kernel)
theorem d_Na_putProduct_134 : decode y_Na_putProduct.2.1 134 = .ok (.iastore, 1) := dc9_79 (by decide +kernel)
theorem d_Na_putProduct_135 : decode y_Na_putProduct.2.1 135 = .ok (.iinc 3 1, 3) := by decide +kernel
theorem d_Na_putProduct_138 : decode y_Na_putProduct.2.1 138 = .ok (.goto (-105), 3) := dc9_167 (by decide +kernel)
theorem d_Na_putProduct_65 : decode y_Na_putProduct.2.1 65 = .ok (.lload 6, 2) := dc9_22 (by decide +kernel)
theorem d_Na_putProduct_67 : decode y_Na_putProduct.2.1 67 = .ok (.aload_n 0, 1) := dc9_42 (by decide +kernel)
theorem d_Na_putProduct_68 : decode y_Na_putProduct.2.1 68 = .ok (.getfield 9, 3) := dc9_180 (by decide +kernel)
theorem d_Na_putProduct_71 : decode y_Na_putProduct.2.1 71 = .ok (.iload_n 3, 1) := dc9_29 (by decide +kernel)
theorem d_Na_putProduct_72 : decode y_Na_putProduct.2.1 72 = .ok (.iload 8, 2) := dc9_21 (by decide +kernel)
theorem d_Na_putProduct_74 : decode y_Na_putProduct.2.1 74 = .ok (.iadd, 1) := dc9_96 (by decide +kernel)
theorem d_Na_putProduct_75 : decode y_Na_putProduct.2.1 75 = .ok (.iaload, 1) := dc9_46 (by decide +kernel)
theorem d_Na_putProduct_76 : decode y_Na_putProduct.2.1 76 = .ok (.i2l, 1) := dc9_133 (by decide +kernel)
theorem d_Na_putProduct_77 : decode y_Na_putProduct.2.1 77 = .ok (.lload 4, 2) := dc9_22 (by decide +kernel)
theorem d_Na_putProduct_79 : decode y_Na_putProduct.2.1 79 = .ok (.aload_n 2, 1) := dc9_44 (by decide +kernel)
theorem d_Na_putProduct_80 : decode y_Na_putProduct.2.1 80 = .ok (.getfield 9, 3) := dc9_180 (by decide +kernel)
theorem d_Na_putProduct_83 : decode y_Na_putProduct.2.1 83 = .ok (.iload 8, 2) := dc9_21 (by decide +kernel)
theorem d_Na_putProduct_85 : decode y_Na_putProduct.2.1 85 = .ok (.iaload, 1) := dc9_46 (by decide +kernel)
theorem d_Na_putProduct_86 : decode y_Na_putProduct.2.1 86 = .ok (.i2l, 1) := dc9_133 (by decide +kernel)
theorem d_Na_putProduct_87 : decode y_Na_putProduct.2.1 87 = .ok (.lmul, 1) := dc9_105 (by decide +kernel)
theorem d_Na_putProduct_88 : decode y_Na_putProduct.2.1 88 = .ok (.ladd, 1) := dc9_97 (by decide +kernel)
theorem d_Na_putProduct_89 : decode y_Na_putProduct.2.1 89 = .ok (.ladd, 1) := dc9_97 (by decide +kernel)
theorem d_Na_putProduct_90 : decode y_Na_putProduct.2.1 90 = .ok (.lstore 6, 2) := dc9_55 (by decide +kernel)
theorem d_Na_putProduct_92 : decode y_Na_putProduct.2.1 92 = .ok (.aload_n 0, 1) := dc9_42 (by decide +kernel)
theorem d_Na_putProduct_93 : decode y_Na_putProduct.2.1 93 = .ok (.getfield 9, 3) := dc9_180 (by decide +kernel)
theorem d_Na_putProduct_96 : decode y_Na_putProduct.2.1 96 = .ok (.iload_n 3, 1) := dc9_29 (by decide +kernel)
theorem d_Na_putProduct_97 : decode y_Na_putProduct.2.1 97 = .ok (.iload 8, 2) := dc9_21 (by decide +kernel)
theorem d_Na_putProduct_99 : decode y_Na_putProduct.2.1 99 = .ok (.iadd, 1) := dc9_96 (by decide +kernel)
theorem d_Na_putProduct_100 : decode y_Na_putProduct.2.1 100 = .ok (.lload 6, 2) := dc9_22 (by decide +kernel)
theorem d_Na_putProduct_102 : decode y_Na_putProduct.2.1 102 = .ok (.ldc2_w 29, 3) := dc9_20 (by decide +kernel)
theorem d_Na_putProduct_105 : decode y_Na_putProduct.2.1 105 = .ok (.land, 1) := dc9_127 (by decide +kernel)
theorem d_Na_putProduct_106 : decode y_Na_putProduct.2.1 106 = .ok (.l2i, 1) := dc9_136 (by decide +kernel)
theorem d_Na_putProduct_107 : decode y_Na_putProduct.2.1 107 = .ok (.iastore, 1) := dc9_79 (by decide +kernel)
theorem d_Na_putProduct_108 : decode y_Na_putProduct.2.1 108 = .ok (.lload 6, 2) := dc9_22 (by decide +kernel)
theorem d_Na_putProduct_110 : decode y_Na_putProduct.2.1 110 = .ok (.bipush 30, 2) := dc9_16 (by decide +kernel)
theorem d_Na_putProduct_112 : decode y_Na_putProduct.2.1 112 = .ok (.lushr, 1) := dc9_125 (by decide +kernel)
theorem d_Na_putProduct_113 : decode y_Na_putProduct.2.1 113 = .ok (.lstore 6, 2) := dc9_55 (by decide +kernel)
theorem d_Na_putProduct_115 : decode y_Na_putProduct.2.1 115 = .ok (.iinc 8 1, 3) := by decide +kernel
theorem d_Na_putProduct_118 : decode y_Na_putProduct.2.1 118 = .ok (.goto (-62), 3) := dc9_167 (by decide +kernel)
def h_Na_putProduct_33 (G : mG) (d : Nat) (a0 : Nat) (a1 : Nat) (a2 : Nat) (l3 : Int) (M : mM) (Q : mM → Prop) : Prop := mWm G y_Na_putProduct (d + 1) 33 [vr a0, vr a1, vr a2, vi l3, vd, vd, vd, vd, vd] [] M (fun r9 M9 => r9 = none ∧ Q M9)
def h_Na_putProduct_56 (G : mG) (d : Nat) (a0 : Nat) (a1 : Nat) (a2 : Nat) (l3 : Int) (j4 : Int) (j6 : Int) (l8 : Int) (M : mM) (Q : mM → Prop) : Prop := mWm G y_Na_putProduct (d + 1) 56 [vr a0, vr a1, vr a2, vi l3, vl j4, vd, vl j6, vd, vi l8] [] M (fun r9 M9 => r9 = none ∧ Q M9)
theorem k_Na_putProduct {G : mG} {d : Nat} {a0 : Nat} {a1 : Nat} {a2 : Nat} {M : mM} {Q : mM → Prop} (hO : mOk M)
    (h : mK M a1 = 10 ∧ mK M a2 = 10 ∧ mK M a0 = 10 ∧ Cv G y_Na_reserve d [vr a0, vi ((mI M a1 1) + (mI M a2 1))] M (fun M4 => mOk M4 ∧ (mK M4 a0 = 10 ∧ mK M4 a1 = 10 ∧ mK M4 a2 = 10 ∧ Cv G y_JA_fillR d [vr (mR M4 a0 0), vi 0, vi ((mI M4 a1 1) + (mI M4 a2 1)), vi 0] M4 (fun M10 => mOk M10 ∧ (h_Na_putProduct_33 G d a0 a1 a2 0 M10 Q))))) :
    Cv G y_Na_putProduct (d + 1) [vr a0, vr a1, vr a2] M Q := by
  refine wm_open (y := y_Na_putProduct) rfl (Nat.le_of_ble_eq_true rfl) (L := [vr a0, vr a1, vr a2, vd, vd, vd, vd, vd, vd]) rfl ?_
  obtain ⟨h1, h⟩ := h
  obtain ⟨h2, h⟩ := h
  obtain ⟨h3, h⟩ := h
  refine wm_aload_n d_Na_putProduct_0 rfl rfl ?_
  refine wm_aload_n d_Na_putProduct_1 rfl rfl ?_
  refine gf_Na_13 rfl d_Na_putProduct_2 h1 ?_
  refine wm_aload_n d_Na_putProduct_5 rfl rfl ?_
  refine gf_Na_13 rfl d_Na_putProduct_6 h2 ?_
  refine wm_iadd d_Na_putProduct_9 ?_
  refine cf_Na_47 rfl d_Na_putProduct_10 h3 (Nat.le_of_ble_eq_true rfl) (Cv.mono h (fun M4 h => ?_))
  obtain ⟨hOM4, h⟩ := h
  obtain ⟨h7, h⟩ := h
  obtain ⟨h8, h⟩ := h
  obtain ⟨h9, h⟩ := h
  refine wm_aload_n d_Na_putProduct_13 rfl rfl ?_
  refine gf_Na_9 rfl d_Na_putProduct_14 h7 ?_
  refine wm_iconst d_Na_putProduct_17 ?_
  refine wm_aload_n d_Na_putProduct_18 rfl rfl ?_
  refine gf_Na_13 rfl d_Na_putProduct_19 h8 ?_
  refine wm_aload_n d_Na_putProduct_22 rfl rfl ?_
  refine gf_Na_13 rfl d_Na_putProduct_23 h9 ?_
  refine wm_iadd d_Na_putProduct_26 ?_
  refine wm_iconst d_Na_putProduct_27 ?_
  refine cf_Na_50 rfl d_Na_putProduct_28 (Nat.le_of_ble_eq_true rfl) (Cv.mono h (fun M10 h => ?_))
  obtain ⟨hOM10, h⟩ := h
  refine wm_iconst d_Na_putProduct_31 ?_
  refine wm_istore_n d_Na_putProduct_32 rfl (by decide) (L' := [vr a0, vr a1, vr a2, vi 0, vd, vd, vd, vd, vd]) rfl ?_
  exact h
theorem k_Na_putProduct_33 {G : mG} {d : Nat} {a0 : Nat} {a1 : Nat} {a2 : Nat} {l3 : Int} {M : mM} {Q : mM → Prop} (hO : mOk M) (hi_l3 : i32 l3)
    (h : mK M a1 = 10 ∧ ((mI M a1 1 ≤ l3) → (mK M a2 = 10 ∧ mK M a0 = 10 ∧ Cv G y_Na_trim d [vr a0, vi ((mI M a1 1) + (mI M a2 1))] M (fun M20 => mOk M20 ∧ (Q M20)))) ∧ (¬ (mI M a1 1 ≤ l3) → (mK M (mR M a1 0) = 30 ∧ ((0 : Int) ≤ l3 ∧ l3 < (mN M (mR M a1 0) : Int)) ∧ h_Na_putProduct_56 G d a0 a1 a2 l3 (mI M (mR M a1 0) (Int.toNat l3)) 0 0 M Q))) :
    h_Na_putProduct_33 G d a0 a1 a2 l3 M Q := by
  unfold h_Na_putProduct_33
  obtain ⟨h13, h⟩ := h
  refine wm_iload_n d_Na_putProduct_33 rfl rfl ?_
  refine wm_aload_n d_Na_putProduct_34 rfl rfl ?_
  refine gf_Na_13 rfl d_Na_putProduct_35 h13 ?_
  refine wm_icmp_ge (tgt := 141) d_Na_putProduct_38 rfl hi_l3 (hO _ _).1 (fun c17 => ?_) (fun c17 => ?_)
  · replace h := h.1 c17
    obtain ⟨h18, h⟩ := h
    obtain ⟨h19, h⟩ := h
    refine wm_aload_n d_Na_putProduct_141 rfl rfl ?_
    refine wm_aload_n d_Na_putProduct_142 rfl rfl ?_
    refine gf_Na_13 rfl d_Na_putProduct_143 h13 ?_
    refine wm_aload_n d_Na_putProduct_146 rfl rfl ?_
    refine gf_Na_13 rfl d_Na_putProduct_147 h18 ?_
    refine wm_iadd d_Na_putProduct_150 ?_
    refine cf_Na_31 rfl d_Na_putProduct_151 h19 (Nat.le_of_ble_eq_true rfl) (Cv.mono h (fun M20 h => ?_))
    obtain ⟨hOM20, h⟩ := h
    refine wm_return d_Na_putProduct_154 rfl ?_
    exact ⟨rfl, h⟩
  · replace h := h.2 c17
    obtain ⟨h23, h⟩ := h
    obtain ⟨h24, h⟩ := h
    refine wm_aload_n d_Na_putProduct_41 rfl rfl ?_
    refine gf_Na_9 rfl d_Na_putProduct_42 h13 ?_
    refine wm_iload_n d_Na_putProduct_45 rfl rfl ?_
    refine wm_iald d_Na_putProduct_46 h23 h24 ?_
    refine wm_i2l d_Na_putProduct_47 (hO _ _).1 ?_
    refine wm_lstore d_Na_putProduct_48 (by decide) (L' := [vr a0, vr a1, vr a2, vi l3, vl (mI M (mR M a1 0) (Int.toNat l3)), vd, vd, vd, vd]) rfl ?_
    refine wm_lconst (x := 0) d_Na_putProduct_50 rfl ?_
    refine wm_lstore d_Na_putProduct_51 (by decide) (L' := [vr a0, vr a1, vr a2, vi l3, vl (mI M (mR M a1 0) (Int.toNat l3)), vd, vl 0, vd, vd]) rfl ?_
    refine wm_iconst d_Na_putProduct_53 ?_
    refine wm_istore d_Na_putProduct_54 (by decide) (L' := [vr a0, vr a1, vr a2, vi l3, vl (mI M (mR M a1 0) (Int.toNat l3)), vd, vl 0, vd, vi 0]) rfl ?_
    exact h
theorem k_Na_putProduct_56 {G : mG} {d : Nat} {a0 : Nat} {a1 : Nat} {a2 : Nat} {l3 : Int} {j4 : Int} {j6 : Int} {l8 : Int} {M : mM} {Q : mM → Prop} (hO : mOk M) (hi_l3 : i32 l3) (hi_j4 : i64 j4) (hi_j6 : i64 j6) (hi_l8 : i32 l8)
    (h : mK M a2 = 10 ∧ ((mI M a2 1 ≤ l8) → (mK M a0 = 10 ∧ mK M (mR M a0 0) = 30 ∧ ((0 : Int) ≤ l3 + (mI M a2 1) ∧ l3 + (mI M a2 1) < (mN M (mR M a0 0) : Int)) ∧ i32 j6 ∧ ∀ M43, M43 = mUI M (mR M a0 0) (Int.toNat (l3 + (mI M a2 1))) j6 → h_Na_putProduct_33 G d a0 a1 a2 (l3 + 1) M43 Q)) ∧ (¬ (mI M a2 1 ≤ l8) → (mK M a0 = 10 ∧ mK M (mR M a0 0) = 30 ∧ ((0 : Int) ≤ l3 + l8 ∧ l3 + l8 < (mN M (mR M a0 0) : Int)) ∧ mK M (mR M a2 0) = 30 ∧ ((0 : Int) ≤ l8 ∧ l8 < (mN M (mR M a2 0) : Int)) ∧ ((0 : Int) ≤ l3 + l8 ∧ l3 + l8 < (mN M (mR M a0 0) : Int)) ∧ i32 (andL (j6 + ((mI M (mR M a0 0) (Int.toNat (l3 + l8))) + (j4 * (mI M (mR M a2 0) (Int.toNat l8))))) 1073741823) ∧ ∀ M52, M52 = mUI M (mR M a0 0) (Int.toNat (l3 + l8)) (andL (j6 + ((mI M (mR M a0 0) (Int.toNat (l3 + l8))) + (j4 * (mI M (mR M a2 0) (Int.toNat l8))))) 1073741823) → h_Na_putProduct_56 G d a0 a1 a2 l3 j4 (ushrL (j6 + ((mI M (mR M a0 0) (Int.toNat (l3 + l8))) + (j4 * (mI M (mR M a2 0) (Int.toNat l8))))) 30) (l8 + 1) M52 Q))) :
    h_Na_putProduct_56 G d a0 a1 a2 l3 j4 j6 l8 M Q := by
  unfold h_Na_putProduct_56
  obtain ⟨h25, h⟩ := h
  refine wm_iload d_Na_putProduct_56 rfl ?_
  refine wm_aload_n d_Na_putProduct_58 rfl rfl ?_
  refine gf_Na_13 rfl d_Na_putProduct_59 h25 ?_
  refine wm_icmp_ge (tgt := 121) d_Na_putProduct_62 rfl hi_l8 (hO _ _).1 (fun c38 => ?_) (fun c38 => ?_)
  · replace h := h.1 c38
    obtain ⟨h39, h⟩ := h
    obtain ⟨h40, h⟩ := h
    obtain ⟨h41, h⟩ := h
    obtain ⟨h42, h⟩ := h
    obtain ⟨M43, e44⟩ : ∃ M43, M43 = mUI M (mR M a0 0) (Int.toNat (l3 + (mI M a2 1))) j6 := ⟨_, rfl⟩
    replace h := h M43 e44
    refine wm_aload_n d_Na_putProduct_121 rfl rfl ?_
    refine gf_Na_9 rfl d_Na_putProduct_122 h39 ?_
    refine wm_iload_n d_Na_putProduct_125 rfl rfl ?_
    refine wm_aload_n d_Na_putProduct_126 rfl rfl ?_
    refine gf_Na_13 rfl d_Na_putProduct_127 h25 ?_
    refine wm_iadd d_Na_putProduct_130 ?_
    refine wm_lload d_Na_putProduct_131 rfl ?_
    refine wm_l2i d_Na_putProduct_133 ?_
    have hOM43 : mOk M43 := by rw [e44]; exact mOk_UI hO h42
    refine wm_iastE d_Na_putProduct_134 h40 h41 h42 e44 ?_
    refine wm_iinc d_Na_putProduct_135 (by decide) rfl (L' := [vr a0, vr a1, vr a2, vi (l3 + 1), vl j4, vd, vl j6, vd, vi l8]) rfl ?_
    refine wm_goto (tgt := 33) d_Na_putProduct_138 rfl ?_
    refine wm_less (L' := [vr a0, vr a1, vr a2, vi (l3 + 1), vd, vd, vd, vd, vd]) ⟨Or.inr rfl, Or.inr rfl, Or.inr rfl, Or.inr rfl, Or.inl rfl, Or.inl rfl, Or.inl rfl, Or.inl rfl, Or.inl rfl, trivial⟩ ?_
    exact h
  · replace h := h.2 c38
    obtain ⟨h45, h⟩ := h
    obtain ⟨h46, h⟩ := h
    obtain ⟨h47, h⟩ := h
    obtain ⟨h48, h⟩ := h
    obtain ⟨h49, h⟩ := h
    obtain ⟨h50, h⟩ := h
    obtain ⟨h51, h⟩ := h
    obtain ⟨M52, e53⟩ : ∃ M52, M52 = mUI M (mR M a0 0) (Int.toNat (l3 + l8)) (andL (j6 + ((mI M (mR M a0 0) (Int.toNat (l3 + l8))) + (j4 * (mI M (mR M a2 0) (Int.toNat l8))))) 1073741823) := ⟨_, rfl⟩
    replace h := h M52 e53
    refine wm_lload d_Na_putProduct_65 rfl ?_
    refine wm_aload_n d_Na_putProduct_67 rfl rfl ?_
    refine gf_Na_9 rfl d_Na_putProduct_68 h45 ?_
    refine wm_iload_n d_Na_putProduct_71 rfl rfl ?_
    refine wm_iload d_Na_putProduct_72 rfl ?_
    refine wm_iadd d_Na_putProduct_74 ?_
    refine wm_iald d_Na_putProduct_75 h46 h47 ?_
    refine wm_i2l d_Na_putProduct_76 (hO _ _).1 ?_
    refine wm_lload d_Na_putProduct_77 rfl ?_
    refine wm_aload_n d_Na_putProduct_79 rfl rfl ?_
    refine gf_Na_9 rfl d_Na_putProduct_80 h25 ?_
    refine wm_iload d_Na_putProduct_83 rfl ?_
    refine wm_iald d_Na_putProduct_85 h48 h49 ?_
    refine wm_i2l d_Na_putProduct_86 (hO _ _).1 ?_
    refine wm_lmul d_Na_putProduct_87 ?_
    refine wm_ladd d_Na_putProduct_88 ?_
    refine wm_ladd d_Na_putProduct_89 ?_
    refine wm_lstore d_Na_putProduct_90 (by decide) (L' := [vr a0, vr a1, vr a2, vi l3, vl j4, vd, vl (j6 + ((mI M (mR M a0 0) (Int.toNat (l3 + l8))) + (j4 * (mI M (mR M a2 0) (Int.toNat l8))))), vd, vi l8]) rfl ?_
    refine wm_aload_n d_Na_putProduct_92 rfl rfl ?_
    refine gf_Na_9 rfl d_Na_putProduct_93 h45 ?_
    refine wm_iload_n d_Na_putProduct_96 rfl rfl ?_
    refine wm_iload d_Na_putProduct_97 rfl ?_
    refine wm_iadd d_Na_putProduct_99 ?_
    refine wm_lload d_Na_putProduct_100 rfl ?_
    refine wm_ldc2 (x := 1073741823) d_Na_putProduct_102 k5_202 (by decide) ?_
    refine wm_land d_Na_putProduct_105 ?_
    refine wm_l2i d_Na_putProduct_106 ?_
    have hOM52 : mOk M52 := by rw [e53]; exact mOk_UI hO h51
    refine wm_iastE d_Na_putProduct_107 h46 h50 h51 e53 ?_
    refine wm_lload d_Na_putProduct_108 rfl ?_
    refine wm_bipush d_Na_putProduct_110 (by decide) ?_
    refine wm_lushr d_Na_putProduct_112 ?_
    refine wm_lstore d_Na_putProduct_113 (by decide) (L' := [vr a0, vr a1, vr a2, vi l3, vl j4, vd, vl (ushrL (j6 + ((mI M (mR M a0 0) (Int.toNat (l3 + l8))) + (j4 * (mI M (mR M a2 0) (Int.toNat l8))))) 30), vd, vi l8]) rfl ?_
    refine wm_iinc d_Na_putProduct_115 (by decide) rfl (L' := [vr a0, vr a1, vr a2, vi l3, vl j4, vd, vl (ushrL (j6 + ((mI M (mR M a0 0) (Int.toNat (l3 + l8))) + (j4 * (mI M (mR M a2 0) (Int.toNat l8))))) 30), vd, vi (l8 + 1)]) rfl ?_
    refine wm_goto (tgt := 56) d_Na_putProduct_118 rfl ?_
    exact h
theorem d_Na_divideSmall_0 : decode y_Na_divideSmall.2.1 0 = .ok (.lconst 0, 1) := dc9_9 (by decide +kernel)
theorem d_Na_divideSmall_1 : decode y_Na_divideSmall.2.1 1 = .ok (.lstore_n 2, 1) := dc9_65 (by decide +kernel)
theorem d_Na_divideSmall_2 : decode y_Na_divideSmall.2.1 2 = .ok (.aload_n 0, 1) := dc9_42 (by decide +kernel)
theorem d_Na_divideSmall_3 : decode y_Na_divideSmall.2.1 3 = .ok (.getfield 13, 3) := dc9_180 (by decide +kernel)
theorem d_Na_divideSmall_6 : decode y_Na_divideSmall.2.1 6 = .ok (.iconst 1, 1) := dc9_4 (by decide +kernel)
theorem d_Na_divideSmall_7 : decode y_Na_divideSmall.2.1 7 = .ok (.isub, 1) := dc9_100 (by decide +kernel)
theorem d_Na_divideSmall_8 : decode y_Na_divideSmall.2.1 8 = .ok (.istore 4, 2) := dc9_54 (by decide +kernel)
theorem d_Na_divideSmall_10 : decode y_Na_divideSmall.2.1 10 = .ok (.iload 4, 2) := dc9_21 (by decide +kernel)
theorem d_Na_divideSmall_12 : decode y_Na_divideSmall.2.1 12 = .ok (.ifCond .lt 44, 3) := dc9_155 (by decide +kernel)
theorem d_Na_divideSmall_15 : decode y_Na_divideSmall.2.1 15 = .ok (.iload_n 1, 1) := dc9_27 (by decide +kernel)
theorem d_Na_divideSmall_16 : decode y_Na_divideSmall.2.1 16 = .ok (.ifCond .le 40, 3) := dc9_158 (by decide +kernel)
theorem d_Na_divideSmall_19 : decode y_Na_divideSmall.2.1 19 = .ok (.lload_n 2, 1) := dc9_32 (by decide +kernel)
theorem d_Na_divideSmall_20 : decode y_Na_divideSmall.2.1 20 = .ok (.bipush 30, 2) := dc9_16 (by decide +kernel)
theorem d_Na_divideSmall_22 : decode y_Na_divideSmall.2.1 22 = .ok (.lshl, 1) := dc9_121 (by decide +kernel)
theorem d_Na_divideSmall_23 : decode y_Na_divideSmall.2.1 23 = .ok (.aload_n 0, 1) := dc9_42 (by decide +kernel)
theorem d_Na_divideSmall_24 : decode y_Na_divideSmall.2.1 24 = .ok (.getfield 9, 3) := dc9_180 (by decide +kernel)
theorem d_Na_divideSmall_27 : decode y_Na_divideSmall.2.1 27 = .ok (.iload 4, 2) := dc9_21 (by decide +kernel)
theorem d_Na_divideSmall_29 : decode y_Na_divideSmall.2.1 29 = .ok (.iaload, 1) := dc9_46 (by decide +kernel)
theorem d_Na_divideSmall_30 : decode y_Na_divideSmall.2.1 30 = .ok (.i2l, 1) := dc9_133 (by decide +kernel)
theorem d_Na_divideSmall_31 : decode y_Na_divideSmall.2.1 31 = .ok (.ladd, 1) := dc9_97 (by decide +kernel)
theorem d_Na_divideSmall_32 : decode y_Na_divideSmall.2.1 32 = .ok (.lstore_n 2, 1) := dc9_65 (by decide +kernel)
theorem d_Na_divideSmall_33 : decode y_Na_divideSmall.2.1 33 = .ok (.aload_n 0, 1) := dc9_42 (by decide +kernel)
theorem d_Na_divideSmall_34 : decode y_Na_divideSmall.2.1 34 = .ok (.getfield 9, 3) := dc9_180 (by decide +kernel)
theorem d_Na_divideSmall_37 : decode y_Na_divideSmall.2.1 37 = .ok (.iload 4, 2) := dc9_21 (by decide +kernel)
theorem d_Na_divideSmall_39 : decode y_Na_divideSmall.2.1 39 = .ok (.lload_n 2, 1) := dc9_32 (by decide +kernel)
theorem d_Na_divideSmall_40 : decode y_Na_divideSmall.2.1 40 = .ok (.iload_n 1, 1) := dc9_27 (by decide +kernel)
theorem d_Na_divideSmall_41 : decode y_Na_divideSmall.2.1 41 = .ok (.i2l, 1) := dc9_133 (by decide +kernel)
theorem d_Na_divideSmall_42 : decode y_Na_divideSmall.2.1 42 = .ok (.ldiv, 1) := dc9_109 (by decide +kernel)
theorem d_Na_divideSmall_43 : decode y_Na_divideSmall.2.1 43 = .ok (.l2i, 1) := dc9_136 (by decide +kernel)
theorem d_Na_divideSmall_44 : decode y_Na_divideSmall.2.1 44 = .ok (.iastore, 1) := dc9_79 (by decide +kernel)
theorem d_Na_divideSmall_45 : decode y_Na_divideSmall.2.1 45 = .ok (.lload_n 2, 1) := dc9_32 (by decide +kernel)
theorem d_Na_divideSmall_46 : decode y_Na_divideSmall.2.1 46 = .ok (.iload_n 1, 1) := dc9_27 (by decide +kernel)
theorem d_Na_divideSmall_47 : decode y_Na_divideSmall.2.1 47 = .ok (.i2l, 1) := dc9_133 (by decide +kernel)
theorem d_Na_divideSmall_48 : decode y_Na_divideSmall.2.1 48 = .ok (.lrem, 1) := dc9_113 (by decide +kernel)
theorem d_Na_divideSmall_49 : decode y_Na_divideSmall.2.1 49 = .ok (.lstore_n 2, 1) := dc9_65 (by decide +kernel)
theorem d_Na_divideSmall_50 : decode y_Na_divideSmall.2.1 50 = .ok (.iinc 4 (-1), 3) := by decide +kernel
theorem d_Na_divideSmall_53 : decode y_Na_divideSmall.2.1 53 = .ok (.goto (-43), 3) := dc9_167 (by decide +kernel)
theorem d_Na_divideSmall_56 : decode y_Na_divideSmall.2.1 56 = .ok (.aload_n 0, 1) := dc9_42 (by decide +kernel)
theorem d_Na_divideSmall_57 : decode y_Na_divideSmall.2.1 57 = .ok (.getfield 13, 3) := dc9_180 (by decide +kernel)
theorem d_Na_divideSmall_60 : decode y_Na_divideSmall.2.1 60 = .ok (.ifCond .le 30, 3) := dc9_158 (by decide +kernel)
theorem d_Na_divideSmall_63 : decode y_Na_divideSmall.2.1 63 = .ok (.aload_n 0, 1) := dc9_42 (by decide +kernel)
theorem d_Na_divideSmall_64 : decode y_Na_divideSmall.2.1 64 = .ok (.getfield 9, 3) := dc9_180 (by decide +kernel)
theorem d_Na_divideSmall_67 : decode y_Na_divideSmall.2.1 67 = .ok (.aload_n 0, 1) := dc9_42 (by decide +kernel)
theorem d_Na_divideSmall_68 : decode y_Na_divideSmall.2.1 68 = .ok (.getfield 13, 3) := dc9_180 (by decide +kernel)
theorem d_Na_divideSmall_71 : decode y_Na_divideSmall.2.1 71 = .ok (.iconst 1, 1) := dc9_4 (by decide +kernel)
theorem d_Na_divideSmall_72 : decode y_Na_divideSmall.2.1 72 = .ok (.isub, 1) := dc9_100 (by decide +kernel)
theorem d_Na_divideSmall_73 : decode y_Na_divideSmall.2.1 73 = .ok (.iaload, 1) := dc9_46 (by decide +kernel)
theorem d_Na_divideSmall_74 : decode y_Na_divideSmall.2.1 74 = .ok (.ifCond .ne 16, 3) := dc9_154 (by decide +kernel)
theorem d_Na_divideSmall_77 : decode y_Na_divideSmall.2.1 77 = .ok (.aload_n 0, 1) := dc9_42 (by decide +kernel)
theorem d_Na_divideSmall_78 : decode y_Na_divideSmall.2.1 78 = .ok (.dup, 1) := dc9_89 (by decide +kernel)
theorem d_Na_divideSmall_79 : decode y_Na_divideSmall.2.1 79 = .ok (.getfield 13, 3) := dc9_180 (by decide +kernel)
theorem d_Na_divideSmall_82 : decode y_Na_divideSmall.2.1 82 = .ok (.iconst 1, 1) := dc9_4 (by decide +kernel)
theorem d_Na_divideSmall_83 : decode y_Na_divideSmall.2.1 83 = .ok (.isub, 1) := dc9_100 (by decide +kernel)
theorem d_Na_divideSmall_84 : decode y_Na_divideSmall.2.1 84 = .ok (.putfield 13, 3) := dc9_181 (by decide +kernel)
theorem d_Na_divideSmall_87 : decode y_Na_divideSmall.2.1 87 = .ok (.goto (-31), 3) := dc9_167 (by decide +kernel)
theorem d_Na_divideSmall_90 : decode y_Na_divideSmall.2.1 90 = .ok (.lload_n 2, 1) := dc9_32 (by decide +kernel)
theorem d_Na_divideSmall_91 : decode y_Na_divideSmall.2.1 91 = .ok (.l2i, 1) := dc9_136 (by decide +kernel)
theorem d_Na_divideSmall_92 : decode y_Na_divideSmall.2.1 92 = .ok (.ireturn, 1) := dc9_172 (by decide +kernel)
def h_Na_divideSmall_10 (G : mG) (d : Nat) (a0 : Nat) (l1 : Int) (j2 : Int) (l4 : Int) (M : mM) (Q : Int → mM → Prop) : Prop := mWm G y_Na_divideSmall d 10 [vr a0, vi l1, vl j2, vd, vi l4] [] M (fun r9 M9 => ∃ x9, r9 = some (vi x9) ∧ Q x9 M9)
def h_Na_divideSmall_56 (G : mG) (d : Nat) (a0 : Nat) (j2 : Int) (M : mM) (Q : Int → mM → Prop) : Prop := mWm G y_Na_divideSmall d 56 [vr a0, vd, vl j2, vd, vd] [] M (fun r9 M9 => ∃ x9, r9 = some (vi x9) ∧ Q x9 M9)
theorem k_Na_divideSmall {G : mG} {d : Nat} {a0 : Nat} {l1 : Int} {M : mM} {Q : Int → mM → Prop} (hO : mOk M) (hi_l1 : i32 l1)
    (h : mK M a0 = 10 ∧ h_Na_divideSmall_10 G d a0 l1 0 ((mI M a0 1) - 1) M Q) :
    Ci G y_Na_divideSmall d [vr a0, vi l1] M Q := by
  refine wm_open (y := y_Na_divideSmall) rfl (Nat.le_of_ble_eq_true rfl) (L := [vr a0, vi l1, vd, vd, vd]) rfl ?_
  obtain ⟨h1, h⟩ := h
  refine wm_lconst (x := 0) d_Na_divideSmall_0 rfl ?_
  refine wm_lstore_n d_Na_divideSmall_1 rfl (by decide) (L' := [vr a0, vi l1, vl 0, vd, vd]) rfl ?_
  refine wm_aload_n d_Na_divideSmall_2 rfl rfl ?_
  refine gf_Na_13 rfl d_Na_divideSmall_3 h1 ?_
  refine wm_iconst d_Na_divideSmall_6 ?_
  refine wm_isub d_Na_divideSmall_7 ?_
  refine wm_istore d_Na_divideSmall_8 (by decide) (L' := [vr a0, vi l1, vl 0, vd, vi ((mI M a0 1) - 1)]) rfl ?_
  exact h
theorem k_Na_divideSmall_10 {G : mG} {d : Nat} {a0 : Nat} {l1 : Int} {j2 : Int} {l4 : Int} {M : mM} {Q : Int → mM → Prop} (hO : mOk M) (hi_l1 : i32 l1) (hi_j2 : i64 j2) (hi_l4 : i32 l4)
    (h : (((l4 < 0) ∨ (l1 ≤ 0)) → (h_Na_divideSmall_56 G d a0 j2 M Q)) ∧ (¬ ((l4 < 0) ∨ (l1 ≤ 0)) → (mK M a0 = 10 ∧ mK M (mR M a0 0) = 30 ∧ ((0 : Int) ≤ l4 ∧ l4 < (mN M (mR M a0 0) : Int)) ∧ i64 ((shlL j2 30) + (mI M (mR M a0 0) (Int.toNat l4))) ∧ l1 ≠ 0 ∧ ((0 : Int) ≤ l4 ∧ l4 < (mN M (mR M a0 0) : Int)) ∧ i32 (Int.tdiv ((shlL j2 30) + (mI M (mR M a0 0) (Int.toNat l4))) l1) ∧ ∀ M22, M22 = mUI M (mR M a0 0) (Int.toNat l4) (Int.tdiv ((shlL j2 30) + (mI M (mR M a0 0) (Int.toNat l4))) l1) → l1 ≠ 0 ∧ h_Na_divideSmall_10 G d a0 l1 (Int.tmod ((shlL j2 30) + (mI M (mR M a0 0) (Int.toNat l4))) l1) (l4 + (-1)) M22 Q))) :
    h_Na_divideSmall_10 G d a0 l1 j2 l4 M Q := by
  unfold h_Na_divideSmall_10
  refine wm_iload d_Na_divideSmall_10 rfl ?_
  have hE0 : ((l4 < 0) ∨ (l1 ≤ 0)) → mWm G y_Na_divideSmall d 56 [vr a0, vi l1, vl j2, vd, vi l4] [] M (fun r9 M9 => ∃ x9, r9 = some (vi x9) ∧ Q x9 M9) := by
    intro q13
    have h := h.1 q13
    refine wm_less (L' := [vr a0, vd, vl j2, vd, vd]) ⟨Or.inr rfl, Or.inl rfl, Or.inr rfl, Or.inl rfl, Or.inl rfl, trivial⟩ ?_
    exact h
  have hE1 : ¬ ((l4 < 0) ∨ (l1 ≤ 0)) → mWm G y_Na_divideSmall d 19 [vr a0, vi l1, vl j2, vd, vi l4] [] M (fun r9 M9 => ∃ x9, r9 = some (vi x9) ∧ Q x9 M9) := by
    intro q14
    have h := h.2 q14
    obtain ⟨h15, h⟩ := h
    obtain ⟨h16, h⟩ := h
    obtain ⟨h17, h⟩ := h
    obtain ⟨h18, h⟩ := h
    obtain ⟨h19, h⟩ := h
    obtain ⟨h20, h⟩ := h
    obtain ⟨h21, h⟩ := h
    obtain ⟨M22, e23⟩ : ∃ M22, M22 = mUI M (mR M a0 0) (Int.toNat l4) (Int.tdiv ((shlL j2 30) + (mI M (mR M a0 0) (Int.toNat l4))) l1) := ⟨_, rfl⟩
    replace h := h M22 e23
    obtain ⟨h24, h⟩ := h
    refine wm_lload_n d_Na_divideSmall_19 rfl rfl ?_
    refine wm_bipush d_Na_divideSmall_20 (by decide) ?_
    refine wm_lshl d_Na_divideSmall_22 ?_
    refine wm_aload_n d_Na_divideSmall_23 rfl rfl ?_
    refine gf_Na_9 rfl d_Na_divideSmall_24 h15 ?_
    refine wm_iload d_Na_divideSmall_27 rfl ?_
    refine wm_iald d_Na_divideSmall_29 h16 h17 ?_
    refine wm_i2l d_Na_divideSmall_30 (hO _ _).1 ?_
    refine wm_ladd d_Na_divideSmall_31 ?_
    refine wm_lstore_n d_Na_divideSmall_32 rfl (by decide) (L' := [vr a0, vi l1, vl ((shlL j2 30) + (mI M (mR M a0 0) (Int.toNat l4))), vd, vi l4]) rfl ?_
    refine wm_aload_n d_Na_divideSmall_33 rfl rfl ?_
    refine gf_Na_9 rfl d_Na_divideSmall_34 h15 ?_
    refine wm_iload d_Na_divideSmall_37 rfl ?_
    refine wm_lload_n d_Na_divideSmall_39 rfl rfl ?_
    refine wm_iload_n d_Na_divideSmall_40 rfl rfl ?_
    refine wm_i2l d_Na_divideSmall_41 hi_l1 ?_
    refine wm_ldiv d_Na_divideSmall_42 h18 (i64_of32 hi_l1) h19 ?_
    refine wm_l2i d_Na_divideSmall_43 ?_
    have hOM22 : mOk M22 := by rw [e23]; exact mOk_UI hO h21
    refine wm_iastE d_Na_divideSmall_44 h16 h20 h21 e23 ?_
    refine wm_lload_n d_Na_divideSmall_45 rfl rfl ?_
    refine wm_iload_n d_Na_divideSmall_46 rfl rfl ?_
    refine wm_i2l d_Na_divideSmall_47 hi_l1 ?_
    refine wm_lrem d_Na_divideSmall_48 h18 (i64_of32 hi_l1) h24 ?_
    refine wm_lstore_n d_Na_divideSmall_49 rfl (by decide) (L' := [vr a0, vi l1, vl (Int.tmod ((shlL j2 30) + (mI M (mR M a0 0) (Int.toNat l4))) l1), vd, vi l4]) rfl ?_
    refine wm_iinc d_Na_divideSmall_50 (by decide) rfl (L' := [vr a0, vi l1, vl (Int.tmod ((shlL j2 30) + (mI M (mR M a0 0) (Int.toNat l4))) l1), vd, vi (l4 + (-1))]) rfl ?_
    refine wm_goto (tgt := 10) d_Na_divideSmall_53 rfl ?_
    exact h
  clear h
  refine wm_if_lt (tgt := 56) d_Na_divideSmall_12 rfl hi_l4 (fun c11 => ?_) (fun c11 => ?_)
  · exact hE0 (Or.inl c11)
  · refine wm_iload_n d_Na_divideSmall_15 rfl rfl ?_
    refine wm_if_le (tgt := 56) d_Na_divideSmall_16 rfl hi_l1 (fun c10 => ?_) (fun c10 => ?_)
    · exact hE0 (Or.inr c10)
    · exact hE1 (fun z25 => Or.elim z25 c11 c10)
theorem k_Na_divideSmall_56 {G : mG} {d : Nat} {a0 : Nat} {j2 : Int} {M : mM} {Q : Int → mM → Prop} (hO : mOk M) (hi_j2 : i64 j2)
    (h : mK M a0 = 10 ∧ (¬ (mI M a0 1 ≤ 0) → (mK M (mR M a0 0) = 30 ∧ ((0 : Int) ≤ (mI M a0 1) - 1 ∧ (mI M a0 1) - 1 < (mN M (mR M a0 0) : Int)))) ∧ (((mI M a0 1 ≤ 0) ∨ (¬ (mI M (mR M a0 0) (Int.toNat ((mI M a0 1) - 1)) = 0))) → (Q j2 M)) ∧ (¬ ((mI M a0 1 ≤ 0) ∨ (¬ (mI M (mR M a0 0) (Int.toNat ((mI M a0 1) - 1)) = 0))) → (i32 ((mI M a0 1) - 1) ∧ ∀ M37, M37 = mUI M a0 1 ((mI M a0 1) - 1) → h_Na_divideSmall_56 G d a0 j2 M37 Q))) :
    h_Na_divideSmall_56 G d a0 j2 M Q := by
  unfold h_Na_divideSmall_56
  obtain ⟨h27, h⟩ := h
  refine wm_aload_n d_Na_divideSmall_56 rfl rfl ?_
  refine gf_Na_13 rfl d_Na_divideSmall_57 h27 ?_
  obtain ⟨s33, h⟩ := h
  have hE0 : ((mI M a0 1 ≤ 0) ∨ (¬ (mI M (mR M a0 0) (Int.toNat ((mI M a0 1) - 1)) = 0))) → mWm G y_Na_divideSmall d 90 [vr a0, vd, vl j2, vd, vd] [] M (fun r9 M9 => ∃ x9, r9 = some (vi x9) ∧ Q x9 M9) := by
    intro q34
    have h := h.1 q34
    refine wm_lload_n d_Na_divideSmall_90 rfl rfl ?_
    refine wm_l2i d_Na_divideSmall_91 ?_
    refine wm_ireturn d_Na_divideSmall_92 rfl rfl ?_
    exact ⟨_, rfl, h⟩
  have hE1 : ¬ ((mI M a0 1 ≤ 0) ∨ (¬ (mI M (mR M a0 0) (Int.toNat ((mI M a0 1) - 1)) = 0))) → mWm G y_Na_divideSmall d 77 [vr a0, vd, vl j2, vd, vd] [] M (fun r9 M9 => ∃ x9, r9 = some (vi x9) ∧ Q x9 M9) := by
    intro q35
    have h := h.2 q35
    obtain ⟨h36, h⟩ := h
    obtain ⟨M37, e38⟩ : ∃ M37, M37 = mUI M a0 1 ((mI M a0 1) - 1) := ⟨_, rfl⟩
    replace h := h M37 e38
    refine wm_aload_n d_Na_divideSmall_77 rfl rfl ?_
    refine wm_dup d_Na_divideSmall_78 rfl ?_
    refine gf_Na_13 rfl d_Na_divideSmall_79 h27 ?_
    refine wm_iconst d_Na_divideSmall_82 ?_
    refine wm_isub d_Na_divideSmall_83 ?_
    have hOM37 : mOk M37 := by rw [e38]; exact mOk_UI hO h36
    refine pf_Na_13 rfl d_Na_divideSmall_84 h27 h36 e38 ?_
    refine wm_goto (tgt := 56) d_Na_divideSmall_87 rfl ?_
    exact h
  clear h
  have s39 := s33
  refine wm_if_le (tgt := 90) d_Na_divideSmall_60 rfl (hO _ _).1 (fun c32 => ?_) (fun c32 => ?_)
  · exact hE0 (Or.inl c32)
  · have s39 := s39 c32
    obtain ⟨h28, h29⟩ := s39
    refine wm_aload_n d_Na_divideSmall_63 rfl rfl ?_
    refine gf_Na_9 rfl d_Na_divideSmall_64 h27 ?_
    refine wm_aload_n d_Na_divideSmall_67 rfl rfl ?_
    refine gf_Na_13 rfl d_Na_divideSmall_68 h27 ?_
    refine wm_iconst d_Na_divideSmall_71 ?_
    refine wm_isub d_Na_divideSmall_72 ?_
    refine wm_iald d_Na_divideSmall_73 h28 h29 ?_
    refine wm_if_ne (tgt := 90) d_Na_divideSmall_74 rfl (hO _ _).1 (fun c31 => ?_) (fun c31 => ?_)
    · exact hE0 (Or.inr c31)
    · replace c31 := Classical.not_not.mp c31
      exact hE1 (fun z40 => Or.elim z40 c32 (fun z41 => z41 c31))
theorem d_Na_modulo_0 : decode y_Na_modulo.2.1 0 = .ok (.lconst 0, 1) := dc9_9 (by decide +kernel)
theorem d_Na_modulo_1 : decode y_Na_modulo.2.1 1 = .ok (.lstore_n 2, 1) := dc9_65 (by decide +kernel)
theorem d_Na_modulo_2 : decode y_Na_modulo.2.1 2 = .ok (.aload_n 0, 1) := dc9_42 (by decide +kernel)
theorem d_Na_modulo_3 : decode y_Na_modulo.2.1 3 = .ok (.getfield 13, 3) := dc9_180 (by decide +kernel)
theorem d_Na_modulo_6 : decode y_Na_modulo.2.1 6 = .ok (.iconst 1, 1) := dc9_4 (by decide +kernel)
theorem d_Na_modulo_7 : decode y_Na_modulo.2.1 7 = .ok (.isub, 1) := dc9_100 (by decide +kernel)
theorem d_Na_modulo_8 : decode y_Na_modulo.2.1 8 = .ok (.istore 4, 2) := dc9_54 (by decide +kernel)
theorem d_Na_modulo_10 : decode y_Na_modulo.2.1 10 = .ok (.iload 4, 2) := dc9_21 (by decide +kernel)
theorem d_Na_modulo_12 : decode y_Na_modulo.2.1 12 = .ok (.ifCond .lt 30, 3) := dc9_155 (by decide +kernel)
theorem d_Na_modulo_15 : decode y_Na_modulo.2.1 15 = .ok (.iload_n 1, 1) := dc9_27 (by decide +kernel)
theorem d_Na_modulo_16 : decode y_Na_modulo.2.1 16 = .ok (.ifCond .le 26, 3) := dc9_158 (by decide +kernel)
theorem d_Na_modulo_19 : decode y_Na_modulo.2.1 19 = .ok (.lload_n 2, 1) := dc9_32 (by decide +kernel)
theorem d_Na_modulo_20 : decode y_Na_modulo.2.1 20 = .ok (.bipush 30, 2) := dc9_16 (by decide +kernel)
theorem d_Na_modulo_22 : decode y_Na_modulo.2.1 22 = .ok (.lshl, 1) := dc9_121 (by decide +kernel)
theorem d_Na_modulo_23 : decode y_Na_modulo.2.1 23 = .ok (.aload_n 0, 1) := dc9_42 (by decide +kernel)
theorem d_Na_modulo_24 : decode y_Na_modulo.2.1 24 = .ok (.getfield 9, 3) := dc9_180 (by decide +kernel)
theorem d_Na_modulo_27 : decode y_Na_modulo.2.1 27 = .ok (.iload 4, 2) := dc9_21 (by decide +kernel)
theorem d_Na_modulo_29 : decode y_Na_modulo.2.1 29 = .ok (.iaload, 1) := dc9_46 (by decide +kernel)
theorem d_Na_modulo_30 : decode y_Na_modulo.2.1 30 = .ok (.i2l, 1) := dc9_133 (by decide +kernel)
theorem d_Na_modulo_31 : decode y_Na_modulo.2.1 31 = .ok (.ladd, 1) := dc9_97 (by decide +kernel)
theorem d_Na_modulo_32 : decode y_Na_modulo.2.1 32 = .ok (.iload_n 1, 1) := dc9_27 (by decide +kernel)
theorem d_Na_modulo_33 : decode y_Na_modulo.2.1 33 = .ok (.i2l, 1) := dc9_133 (by decide +kernel)
theorem d_Na_modulo_34 : decode y_Na_modulo.2.1 34 = .ok (.lrem, 1) := dc9_113 (by decide +kernel)
theorem d_Na_modulo_35 : decode y_Na_modulo.2.1 35 = .ok (.lstore_n 2, 1) := dc9_65 (by decide +kernel)
theorem d_Na_modulo_36 : decode y_Na_modulo.2.1 36 = .ok (.iinc 4 (-1), 3) := by decide +kernel
theorem d_Na_modulo_39 : decode y_Na_modulo.2.1 39 = .ok (.goto (-29), 3) := dc9_167 (by decide +kernel)
theorem d_Na_modulo_42 : decode y_Na_modulo.2.1 42 = .ok (.lload_n 2, 1) := dc9_32 (by decide +kernel)
theorem d_Na_modulo_43 : decode y_Na_modulo.2.1 43 = .ok (.l2i, 1) := dc9_136 (by decide +kernel)
theorem d_Na_modulo_44 : decode y_Na_modulo.2.1 44 = .ok (.ireturn, 1) := dc9_172 (by decide +kernel)
def h_Na_modulo_10 (G : mG) (d : Nat) (a0 : Nat) (l1 : Int) (j2 : Int) (l4 : Int) (M : mM) (Q : Int → mM → Prop) : Prop := mWm G y_Na_modulo d 10 [vr a0, vi l1, vl j2, vd, vi l4] [] M (fun r9 M9 => ∃ x9, r9 = some (vi x9) ∧ Q x9 M9)
theorem k_Na_modulo {G : mG} {d : Nat} {a0 : Nat} {l1 : Int} {M : mM} {Q : Int → mM → Prop} (hO : mOk M) (hi_l1 : i32 l1)
    (h : mK M a0 = 10 ∧ h_Na_modulo_10 G d a0 l1 0 ((mI M a0 1) - 1) M Q) :
    Ci G y_Na_modulo d [vr a0, vi l1] M Q := by
  refine wm_open (y := y_Na_modulo) rfl (Nat.le_of_ble_eq_true rfl) (L := [vr a0, vi l1, vd, vd, vd]) rfl ?_
  obtain ⟨h1, h⟩ := h
  refine wm_lconst (x := 0) d_Na_modulo_0 rfl ?_
  refine wm_lstore_n d_Na_modulo_1 rfl (by decide) (L' := [vr a0, vi l1, vl 0, vd, vd]) rfl ?_
  refine wm_aload_n d_Na_modulo_2 rfl rfl ?_
  refine gf_Na_13 rfl d_Na_modulo_3 h1 ?_
  refine wm_iconst d_Na_modulo_6 ?_
  refine wm_isub d_Na_modulo_7 ?_
  refine wm_istore d_Na_modulo_8 (by decide) (L' := [vr a0, vi l1, vl 0, vd, vi ((mI M a0 1) - 1)]) rfl ?_
  exact h
theorem k_Na_modulo_10 {G : mG} {d : Nat} {a0 : Nat} {l1 : Int} {j2 : Int} {l4 : Int} {M : mM} {Q : Int → mM → Prop} (hO : mOk M) (hi_l1 : i32 l1) (hi_j2 : i64 j2) (hi_l4 : i32 l4)
    (h : (((l4 < 0) ∨ (l1 ≤ 0)) → (Q j2 M)) ∧ (¬ ((l4 < 0) ∨ (l1 ≤ 0)) → (mK M a0 = 10 ∧ mK M (mR M a0 0) = 30 ∧ ((0 : Int) ≤ l4 ∧ l4 < (mN M (mR M a0 0) : Int)) ∧ i64 ((shlL j2 30) + (mI M (mR M a0 0) (Int.toNat l4))) ∧ l1 ≠ 0 ∧ h_Na_modulo_10 G d a0 l1 (Int.tmod ((shlL j2 30) + (mI M (mR M a0 0) (Int.toNat l4))) l1) (l4 + (-1)) M Q))) :
    h_Na_modulo_10 G d a0 l1 j2 l4 M Q := by
  unfold h_Na_modulo_10
  refine wm_iload d_Na_modulo_10 rfl ?_
  have hE0 : ((l4 < 0) ∨ (l1 ≤ 0)) → mWm G y_Na_modulo d 42 [vr a0, vi l1, vl j2, vd, vi l4] [] M (fun r9 M9 => ∃ x9, r9 = some (vi x9) ∧ Q x9 M9) := by
    intro q10
    have h := h.1 q10
    refine wm_lload_n d_Na_modulo_42 rfl rfl ?_
    refine wm_l2i d_Na_modulo_43 ?_
    refine wm_ireturn d_Na_modulo_44 rfl rfl ?_
    exact ⟨_, rfl, h⟩
  have hE1 : ¬ ((l4 < 0) ∨ (l1 ≤ 0)) → mWm G y_Na_modulo d 19 [vr a0, vi l1, vl j2, vd, vi l4] [] M (fun r9 M9 => ∃ x9, r9 = some (vi x9) ∧ Q x9 M9) := by
    intro q11
    have h := h.2 q11
    obtain ⟨h12, h⟩ := h
    obtain ⟨h13, h⟩ := h
    obtain ⟨h14, h⟩ := h
    obtain ⟨h15, h⟩ := h
    obtain ⟨h16, h⟩ := h
    refine wm_lload_n d_Na_modulo_19 rfl rfl ?_
    refine wm_bipush d_Na_modulo_20 (by decide) ?_
    refine wm_lshl d_Na_modulo_22 ?_
    refine wm_aload_n d_Na_modulo_23 rfl rfl ?_
    refine gf_Na_9 rfl d_Na_modulo_24 h12 ?_
    refine wm_iload d_Na_modulo_27 rfl ?_
    refine wm_iald d_Na_modulo_29 h13 h14 ?_
    refine wm_i2l d_Na_modulo_30 (hO _ _).1 ?_
    refine wm_ladd d_Na_modulo_31 ?_
    refine wm_iload_n d_Na_modulo_32 rfl rfl ?_
    refine wm_i2l d_Na_modulo_33 hi_l1 ?_
    refine wm_lrem d_Na_modulo_34 h15 (i64_of32 hi_l1) h16 ?_
    refine wm_lstore_n d_Na_modulo_35 rfl (by decide) (L' := [vr a0, vi l1, vl (Int.tmod ((shlL j2 30) + (mI M (mR M a0 0) (Int.toNat l4))) l1), vd, vi l4]) rfl ?_
    refine wm_iinc d_Na_modulo_36 (by decide) rfl (L' := [vr a0, vi l1, vl (Int.tmod ((shlL j2 30) + (mI M (mR M a0 0) (Int.toNat l4))) l1), vd, vi (l4 + (-1))]) rfl ?_
    refine wm_goto (tgt := 10) d_Na_modulo_39 rfl ?_
    exact h
  clear h
  refine wm_if_lt (tgt := 42) d_Na_modulo_12 rfl hi_l4 (fun c8 => ?_) (fun c8 => ?_)
  · exact hE0 (Or.inl c8)
  · refine wm_iload_n d_Na_modulo_15 rfl rfl ?_
    refine wm_if_le (tgt := 42) d_Na_modulo_16 rfl hi_l1 (fun c7 => ?_) (fun c7 => ?_)
    · exact hE0 (Or.inr c7)
    · exact hE1 (fun z17 => Or.elim z17 c8 c7)
end
section
theorem d_Na_bitsFrom_0 : decode y_Na_bitsFrom.2.1 0 = .ok (.iload_n 1, 1) := dc9_27 (by decide +kernel)
theorem d_Na_bitsFrom_1 : decode y_Na_bitsFrom.2.1 1 = .ok (.bipush 30, 2) := dc9_16 (by decide +kernel)
theorem d_Na_bitsFrom_3 : decode y_Na_bitsFrom.2.1 3 = .ok (.idiv, 1) := dc9_108 (by decide +kernel)
theorem d_Na_bitsFrom_4 : decode y_Na_bitsFrom.2.1 4 = .ok (.istore_n 2, 1) := dc9_61 (by decide +kernel)
theorem d_Na_bitsFrom_5 : decode y_Na_bitsFrom.2.1 5 = .ok (.iload_n 1, 1) := dc9_27 (by decide +kernel)
theorem d_Na_bitsFrom_6 : decode y_Na_bitsFrom.2.1 6 = .ok (.bipush 30, 2) := dc9_16 (by decide +kernel)
theorem d_Na_bitsFrom_8 : decode y_Na_bitsFrom.2.1 8 = .ok (.irem, 1) := dc9_112 (by decide +kernel)
theorem d_Na_bitsFrom_9 : decode y_Na_bitsFrom.2.1 9 = .ok (.istore_n 3, 1) := dc9_62 (by decide +kernel)
theorem d_Na_bitsFrom_10 : decode y_Na_bitsFrom.2.1 10 = .ok (.iload_n 2, 1) := dc9_28 (by decide +kernel)
theorem d_Na_bitsFrom_11 : decode y_Na_bitsFrom.2.1 11 = .ok (.aload_n 0, 1) := dc9_42 (by decide +kernel)
theorem d_Na_bitsFrom_12 : decode y_Na_bitsFrom.2.1 12 = .ok (.getfield 13, 3) := dc9_180 (by decide +kernel)
theorem d_Na_bitsFrom_15 : decode y_Na_bitsFrom.2.1 15 = .ok (.if_icmp .ge 15, 3) := dc9_162 (by decide +kernel)
theorem d_Na_bitsFrom_30 : decode y_Na_bitsFrom.2.1 30 = .ok (.lconst 0, 1) := dc9_9 (by decide +kernel)
theorem d_Na_bitsFrom_18 : decode y_Na_bitsFrom.2.1 18 = .ok (.aload_n 0, 1) := dc9_42 (by decide +kernel)
theorem d_Na_bitsFrom_19 : decode y_Na_bitsFrom.2.1 19 = .ok (.getfield 9, 3) := dc9_180 (by decide +kernel)
theorem d_Na_bitsFrom_22 : decode y_Na_bitsFrom.2.1 22 = .ok (.iload_n 2, 1) := dc9_28 (by decide +kernel)
theorem d_Na_bitsFrom_23 : decode y_Na_bitsFrom.2.1 23 = .ok (.iaload, 1) := dc9_46 (by decide +kernel)
theorem d_Na_bitsFrom_24 : decode y_Na_bitsFrom.2.1 24 = .ok (.iload_n 3, 1) := dc9_29 (by decide +kernel)
theorem d_Na_bitsFrom_25 : decode y_Na_bitsFrom.2.1 25 = .ok (.iushr, 1) := dc9_124 (by decide +kernel)
theorem d_Na_bitsFrom_26 : decode y_Na_bitsFrom.2.1 26 = .ok (.i2l, 1) := dc9_133 (by decide +kernel)
theorem d_Na_bitsFrom_27 : decode y_Na_bitsFrom.2.1 27 = .ok (.goto 4, 3) := dc9_167 (by decide +kernel)
theorem d_Na_bitsFrom_31 : decode y_Na_bitsFrom.2.1 31 = .ok (.lstore 4, 2) := dc9_55 (by decide +kernel)
theorem d_Na_bitsFrom_33 : decode y_Na_bitsFrom.2.1 33 = .ok (.lload 4, 2) := dc9_22 (by decide +kernel)
theorem d_Na_bitsFrom_35 : decode y_Na_bitsFrom.2.1 35 = .ok (.iload_n 2, 1) := dc9_28 (by decide +kernel)
theorem d_Na_bitsFrom_36 : decode y_Na_bitsFrom.2.1 36 = .ok (.iconst 1, 1) := dc9_4 (by decide +kernel)
theorem d_Na_bitsFrom_37 : decode y_Na_bitsFrom.2.1 37 = .ok (.iadd, 1) := dc9_96 (by decide +kernel)
theorem d_Na_bitsFrom_38 : decode y_Na_bitsFrom.2.1 38 = .ok (.aload_n 0, 1) := dc9_42 (by decide +kernel)
theorem d_Na_bitsFrom_39 : decode y_Na_bitsFrom.2.1 39 = .ok (.getfield 13, 3) := dc9_180 (by decide +kernel)
theorem d_Na_bitsFrom_42 : decode y_Na_bitsFrom.2.1 42 = .ok (.if_icmp .ge 20, 3) := dc9_162 (by decide +kernel)
theorem d_Na_bitsFrom_62 : decode y_Na_bitsFrom.2.1 62 = .ok (.lconst 0, 1) := dc9_9 (by decide +kernel)
theorem d_Na_bitsFrom_45 : decode y_Na_bitsFrom.2.1 45 = .ok (.aload_n 0, 1) := dc9_42 (by decide +kernel)
theorem d_Na_bitsFrom_46 : decode y_Na_bitsFrom.2.1 46 = .ok (.getfield 9, 3) := dc9_180 (by decide +kernel)
theorem d_Na_bitsFrom_49 : decode y_Na_bitsFrom.2.1 49 = .ok (.iload_n 2, 1) := dc9_28 (by decide +kernel)
theorem d_Na_bitsFrom_50 : decode y_Na_bitsFrom.2.1 50 = .ok (.iconst 1, 1) := dc9_4 (by decide +kernel)
theorem d_Na_bitsFrom_51 : decode y_Na_bitsFrom.2.1 51 = .ok (.iadd, 1) := dc9_96 (by decide +kernel)
theorem d_Na_bitsFrom_52 : decode y_Na_bitsFrom.2.1 52 = .ok (.iaload, 1) := dc9_46 (by decide +kernel)
theorem d_Na_bitsFrom_53 : decode y_Na_bitsFrom.2.1 53 = .ok (.i2l, 1) := dc9_133 (by decide +kernel)
theorem d_Na_bitsFrom_54 : decode y_Na_bitsFrom.2.1 54 = .ok (.bipush 30, 2) := dc9_16 (by decide +kernel)
theorem d_Na_bitsFrom_56 : decode y_Na_bitsFrom.2.1 56 = .ok (.iload_n 3, 1) := dc9_29 (by decide +kernel)
theorem d_Na_bitsFrom_57 : decode y_Na_bitsFrom.2.1 57 = .ok (.isub, 1) := dc9_100 (by decide +kernel)
theorem d_Na_bitsFrom_58 : decode y_Na_bitsFrom.2.1 58 = .ok (.lshl, 1) := dc9_121 (by decide +kernel)
theorem d_Na_bitsFrom_59 : decode y_Na_bitsFrom.2.1 59 = .ok (.goto 4, 3) := dc9_167 (by decide +kernel)
theorem d_Na_bitsFrom_63 : decode y_Na_bitsFrom.2.1 63 = .ok (.ladd, 1) := dc9_97 (by decide +kernel)
theorem d_Na_bitsFrom_64 : decode y_Na_bitsFrom.2.1 64 = .ok (.lstore 4, 2) := dc9_55 (by decide +kernel)
theorem d_Na_bitsFrom_66 : decode y_Na_bitsFrom.2.1 66 = .ok (.lload 4, 2) := dc9_22 (by decide +kernel)
theorem d_Na_bitsFrom_68 : decode y_Na_bitsFrom.2.1 68 = .ok (.iload_n 2, 1) := dc9_28 (by decide +kernel)
theorem d_Na_bitsFrom_69 : decode y_Na_bitsFrom.2.1 69 = .ok (.iconst 2, 1) := dc9_5 (by decide +kernel)
theorem d_Na_bitsFrom_70 : decode y_Na_bitsFrom.2.1 70 = .ok (.iadd, 1) := dc9_96 (by decide +kernel)
theorem d_Na_bitsFrom_71 : decode y_Na_bitsFrom.2.1 71 = .ok (.aload_n 0, 1) := dc9_42 (by decide +kernel)
theorem d_Na_bitsFrom_72 : decode y_Na_bitsFrom.2.1 72 = .ok (.getfield 13, 3) := dc9_180 (by decide +kernel)
theorem d_Na_bitsFrom_75 : decode y_Na_bitsFrom.2.1 75 = .ok (.if_icmp .ge 26, 3) := dc9_162 (by decide +kernel)
theorem d_Na_bitsFrom_101 : decode y_Na_bitsFrom.2.1 101 = .ok (.lconst 0, 1) := dc9_9 (by decide +kernel)
theorem d_Na_bitsFrom_78 : decode y_Na_bitsFrom.2.1 78 = .ok (.aload_n 0, 1) := dc9_42 (by decide +kernel)
theorem d_Na_bitsFrom_79 : decode y_Na_bitsFrom.2.1 79 = .ok (.getfield 9, 3) := dc9_180 (by decide +kernel)
theorem d_Na_bitsFrom_82 : decode y_Na_bitsFrom.2.1 82 = .ok (.iload_n 2, 1) := dc9_28 (by decide +kernel)
theorem d_Na_bitsFrom_83 : decode y_Na_bitsFrom.2.1 83 = .ok (.iconst 2, 1) := dc9_5 (by decide +kernel)
theorem d_Na_bitsFrom_84 : decode y_Na_bitsFrom.2.1 84 = .ok (.iadd, 1) := dc9_96 (by decide +kernel)
theorem d_Na_bitsFrom_85 : decode y_Na_bitsFrom.2.1 85 = .ok (.iaload, 1) := dc9_46 (by decide +kernel)
theorem d_Na_bitsFrom_86 : decode y_Na_bitsFrom.2.1 86 = .ok (.iconst 1, 1) := dc9_4 (by decide +kernel)
theorem d_Na_bitsFrom_87 : decode y_Na_bitsFrom.2.1 87 = .ok (.iload_n 3, 1) := dc9_29 (by decide +kernel)
theorem d_Na_bitsFrom_88 : decode y_Na_bitsFrom.2.1 88 = .ok (.ishl, 1) := dc9_120 (by decide +kernel)
theorem d_Na_bitsFrom_89 : decode y_Na_bitsFrom.2.1 89 = .ok (.iconst 1, 1) := dc9_4 (by decide +kernel)
theorem d_Na_bitsFrom_90 : decode y_Na_bitsFrom.2.1 90 = .ok (.isub, 1) := dc9_100 (by decide +kernel)
theorem d_Na_bitsFrom_91 : decode y_Na_bitsFrom.2.1 91 = .ok (.iand, 1) := dc9_126 (by decide +kernel)
theorem d_Na_bitsFrom_92 : decode y_Na_bitsFrom.2.1 92 = .ok (.i2l, 1) := dc9_133 (by decide +kernel)
theorem d_Na_bitsFrom_93 : decode y_Na_bitsFrom.2.1 93 = .ok (.bipush 60, 2) := dc9_16 (by decide +kernel)
theorem d_Na_bitsFrom_95 : decode y_Na_bitsFrom.2.1 95 = .ok (.iload_n 3, 1) := dc9_29 (by decide +kernel)
theorem d_Na_bitsFrom_96 : decode y_Na_bitsFrom.2.1 96 = .ok (.isub, 1) := dc9_100 (by decide +kernel)
theorem d_Na_bitsFrom_97 : decode y_Na_bitsFrom.2.1 97 = .ok (.lshl, 1) := dc9_121 (by decide +kernel)
theorem d_Na_bitsFrom_98 : decode y_Na_bitsFrom.2.1 98 = .ok (.goto 4, 3) := dc9_167 (by decide +kernel)
theorem d_Na_bitsFrom_102 : decode y_Na_bitsFrom.2.1 102 = .ok (.ladd, 1) := dc9_97 (by decide +kernel)
theorem d_Na_bitsFrom_103 : decode y_Na_bitsFrom.2.1 103 = .ok (.lstore 4, 2) := dc9_55 (by decide +kernel)
theorem d_Na_bitsFrom_105 : decode y_Na_bitsFrom.2.1 105 = .ok (.lload 4, 2) := dc9_22 (by decide +kernel)
theorem d_Na_bitsFrom_107 : decode y_Na_bitsFrom.2.1 107 = .ok (.lreturn, 1) := dc9_173 (by decide +kernel)
theorem k_Na_bitsFrom {G : mG} {d : Nat} {a0 : Nat} {l1 : Int} {M : mM} {Q : Int → mM → Prop} (hO : mOk M) (hi_l1 : i32 l1)
    (h : mK M a0 = 10 ∧ (¬ (mI M a0 1 ≤ Int.tdiv l1 30) → (mK M (mR M a0 0) = 30 ∧ ((0 : Int) ≤ Int.tdiv l1 30 ∧ Int.tdiv l1 30 < (mN M (mR M a0 0) : Int)))) ∧ ∀ v5 : Int, v5 = (if (mI M a0 1 ≤ Int.tdiv l1 30) then 0 else ushrI (mI M (mR M a0 0) (Int.toNat (Int.tdiv l1 30))) (Int.tmod l1 30)) → i32 ((Int.tdiv l1 30) + 1) ∧ (¬ (mI M a0 1 ≤ (Int.tdiv l1 30) + 1) → (mK M (mR M a0 0) = 30 ∧ ((0 : Int) ≤ (Int.tdiv l1 30) + 1 ∧ (Int.tdiv l1 30) + 1 < (mN M (mR M a0 0) : Int)))) ∧ ∀ v12 : Int, v12 = (if (mI M a0 1 ≤ (Int.tdiv l1 30) + 1) then 0 else shlL (mI M (mR M a0 0) (Int.toNat ((Int.tdiv l1 30) + 1))) (30 - (Int.tmod l1 30))) → i32 ((Int.tdiv l1 30) + 2) ∧ (¬ (mI M a0 1 ≤ (Int.tdiv l1 30) + 2) → (mK M (mR M a0 0) = 30 ∧ ((0 : Int) ≤ (Int.tdiv l1 30) + 2 ∧ (Int.tdiv l1 30) + 2 < (mN M (mR M a0 0) : Int)))) ∧ ∀ v19 : Int, v19 = (if (mI M a0 1 ≤ (Int.tdiv l1 30) + 2) then 0 else shlL (andI (mI M (mR M a0 0) (Int.toNat ((Int.tdiv l1 30) + 2))) ((shlI 1 (Int.tmod l1 30)) - 1)) (60 - (Int.tmod l1 30))) → Q ((v5 + v12) + v19) M) :
    Cj G y_Na_bitsFrom d [vr a0, vi l1] M Q := by
  refine wm_open (y := y_Na_bitsFrom) rfl (Nat.le_of_ble_eq_true rfl) (L := [vr a0, vi l1, vd, vd, vd, vd]) rfl ?_
  obtain ⟨h1, h⟩ := h
  refine wm_iload_n d_Na_bitsFrom_0 rfl rfl ?_
  refine wm_bipush d_Na_bitsFrom_1 (by decide) ?_
  refine wm_idiv d_Na_bitsFrom_3 hi_l1 ⟨by decide, by decide⟩ (by decide) ?_
  refine wm_istore_n d_Na_bitsFrom_4 rfl (by decide) (L' := [vr a0, vi l1, vi (Int.tdiv l1 30), vd, vd, vd]) rfl ?_
  refine wm_iload_n d_Na_bitsFrom_5 rfl rfl ?_
  refine wm_bipush d_Na_bitsFrom_6 (by decide) ?_
  refine wm_irem d_Na_bitsFrom_8 hi_l1 ⟨by decide, by decide⟩ (by decide) ?_
  refine wm_istore_n d_Na_bitsFrom_9 rfl (by decide) (L' := [vr a0, vi l1, vi (Int.tdiv l1 30), vi (Int.tmod l1 30), vd, vd]) rfl ?_
  refine wm_iload_n d_Na_bitsFrom_10 rfl rfl ?_
  refine wm_aload_n d_Na_bitsFrom_11 rfl rfl ?_
  refine gf_Na_13 rfl d_Na_bitsFrom_12 h1 ?_
  obtain ⟨s6, h⟩ := h
  have hJ : ∀ v5 : Int, v5 = (if (mI M a0 1 ≤ Int.tdiv l1 30) then 0 else ushrI (mI M (mR M a0 0) (Int.toNat (Int.tdiv l1 30))) (Int.tmod l1 30)) → mWm G y_Na_bitsFrom d 31 [vr a0, vd, vi (Int.tdiv l1 30), vi (Int.tmod l1 30), vd, vd] [vl v5] M (fun r9 M9 => ∃ x9, r9 = some (vl x9) ∧ Q x9 M9) := by
    intro v5 e7
    have h := h v5 e7
    obtain ⟨h8, h⟩ := h
    refine wm_lstore d_Na_bitsFrom_31 (by decide) (L' := [vr a0, vd, vi (Int.tdiv l1 30), vi (Int.tmod l1 30), vl v5, vd]) rfl ?_
    refine wm_lload d_Na_bitsFrom_33 rfl ?_
    refine wm_iload_n d_Na_bitsFrom_35 rfl rfl ?_
    refine wm_iconst d_Na_bitsFrom_36 ?_
    refine wm_iadd d_Na_bitsFrom_37 ?_
    refine wm_aload_n d_Na_bitsFrom_38 rfl rfl ?_
    refine gf_Na_13 rfl d_Na_bitsFrom_39 h1 ?_
    obtain ⟨s13, h⟩ := h
    have hJ : ∀ v12 : Int, v12 = (if (mI M a0 1 ≤ (Int.tdiv l1 30) + 1) then 0 else shlL (mI M (mR M a0 0) (Int.toNat ((Int.tdiv l1 30) + 1))) (30 - (Int.tmod l1 30))) → mWm G y_Na_bitsFrom d 63 [vr a0, vd, vi (Int.tdiv l1 30), vi (Int.tmod l1 30), vd, vd] [vl v12, vl v5] M (fun r9 M9 => ∃ x9, r9 = some (vl x9) ∧ Q x9 M9) := by
      intro v12 e14
      have h := h v12 e14
      obtain ⟨h15, h⟩ := h
      refine wm_ladd d_Na_bitsFrom_63 ?_
      refine wm_lstore d_Na_bitsFrom_64 (by decide) (L' := [vr a0, vd, vi (Int.tdiv l1 30), vi (Int.tmod l1 30), vl (v5 + v12), vd]) rfl ?_
      refine wm_lload d_Na_bitsFrom_66 rfl ?_
      refine wm_iload_n d_Na_bitsFrom_68 rfl rfl ?_
      refine wm_iconst d_Na_bitsFrom_69 ?_
      refine wm_iadd d_Na_bitsFrom_70 ?_
      refine wm_aload_n d_Na_bitsFrom_71 rfl rfl ?_
      refine gf_Na_13 rfl d_Na_bitsFrom_72 h1 ?_
      obtain ⟨s20, h⟩ := h
      have hJ : ∀ v19 : Int, v19 = (if (mI M a0 1 ≤ (Int.tdiv l1 30) + 2) then 0 else shlL (andI (mI M (mR M a0 0) (Int.toNat ((Int.tdiv l1 30) + 2))) ((shlI 1 (Int.tmod l1 30)) - 1)) (60 - (Int.tmod l1 30))) → mWm G y_Na_bitsFrom d 102 [vd, vd, vd, vd, vd, vd] [vl v19, vl (v5 + v12)] M (fun r9 M9 => ∃ x9, r9 = some (vl x9) ∧ Q x9 M9) := by
        intro v19 e21
        have h := h v19 e21
        refine wm_ladd d_Na_bitsFrom_102 ?_
        refine wm_lstore d_Na_bitsFrom_103 (by decide) (L' := [vd, vd, vd, vd, vl ((v5 + v12) + v19), vd]) rfl ?_
        refine wm_lload d_Na_bitsFrom_105 rfl ?_
        refine wm_lreturn d_Na_bitsFrom_107 rfl ?_
        exact ⟨_, rfl, h⟩
      clear h
      have s22 := s20
      refine wm_icmp_ge (tgt := 101) d_Na_bitsFrom_75 rfl h15 (hO _ _).1 (fun c16 => ?_) (fun c16 => ?_)
      · refine wm_lconst (x := 0) d_Na_bitsFrom_101 rfl ?_
        refine wm_less (L' := [vd, vd, vd, vd, vd, vd]) ⟨Or.inl rfl, Or.inl rfl, Or.inl rfl, Or.inl rfl, Or.inl rfl, Or.inl rfl, trivial⟩ ?_
        exact hJ 0 (if_pos c16).symm
      · have s22 := s22 c16
        obtain ⟨h17, h18⟩ := s22
        refine wm_aload_n d_Na_bitsFrom_78 rfl rfl ?_
        refine gf_Na_9 rfl d_Na_bitsFrom_79 h1 ?_
        refine wm_iload_n d_Na_bitsFrom_82 rfl rfl ?_
        refine wm_iconst d_Na_bitsFrom_83 ?_
        refine wm_iadd d_Na_bitsFrom_84 ?_
        refine wm_iald d_Na_bitsFrom_85 h17 h18 ?_
        refine wm_iconst d_Na_bitsFrom_86 ?_
        refine wm_iload_n d_Na_bitsFrom_87 rfl rfl ?_
        refine wm_ishl d_Na_bitsFrom_88 ?_
        refine wm_iconst d_Na_bitsFrom_89 ?_
        refine wm_isub d_Na_bitsFrom_90 ?_
        refine wm_iand d_Na_bitsFrom_91 ?_
        refine wm_i2l d_Na_bitsFrom_92 (m_i32 _) ?_
        refine wm_bipush d_Na_bitsFrom_93 (by decide) ?_
        refine wm_iload_n d_Na_bitsFrom_95 rfl rfl ?_
        refine wm_isub d_Na_bitsFrom_96 ?_
        refine wm_lshl d_Na_bitsFrom_97 ?_
        refine wm_goto (tgt := 102) d_Na_bitsFrom_98 rfl ?_
        refine wm_less (L' := [vd, vd, vd, vd, vd, vd]) ⟨Or.inl rfl, Or.inl rfl, Or.inl rfl, Or.inl rfl, Or.inl rfl, Or.inl rfl, trivial⟩ ?_
        exact hJ (shlL (andI (mI M (mR M a0 0) (Int.toNat ((Int.tdiv l1 30) + 2))) ((shlI 1 (Int.tmod l1 30)) - 1)) (60 - (Int.tmod l1 30))) (if_neg c16).symm
    clear h
    have s24 := s13
    refine wm_icmp_ge (tgt := 62) d_Na_bitsFrom_42 rfl h8 (hO _ _).1 (fun c9 => ?_) (fun c9 => ?_)
    · refine wm_lconst (x := 0) d_Na_bitsFrom_62 rfl ?_
      refine wm_less (L' := [vr a0, vd, vi (Int.tdiv l1 30), vi (Int.tmod l1 30), vd, vd]) ⟨Or.inr rfl, Or.inl rfl, Or.inr rfl, Or.inr rfl, Or.inl rfl, Or.inl rfl, trivial⟩ ?_
      exact hJ 0 (if_pos c9).symm
    · have s24 := s24 c9
      obtain ⟨h10, h11⟩ := s24
      refine wm_aload_n d_Na_bitsFrom_45 rfl rfl ?_
      refine gf_Na_9 rfl d_Na_bitsFrom_46 h1 ?_
      refine wm_iload_n d_Na_bitsFrom_49 rfl rfl ?_
      refine wm_iconst d_Na_bitsFrom_50 ?_
      refine wm_iadd d_Na_bitsFrom_51 ?_
      refine wm_iald d_Na_bitsFrom_52 h10 h11 ?_
      refine wm_i2l d_Na_bitsFrom_53 (hO _ _).1 ?_
      refine wm_bipush d_Na_bitsFrom_54 (by decide) ?_
      refine wm_iload_n d_Na_bitsFrom_56 rfl rfl ?_
      refine wm_isub d_Na_bitsFrom_57 ?_
      refine wm_lshl d_Na_bitsFrom_58 ?_
      refine wm_goto (tgt := 63) d_Na_bitsFrom_59 rfl ?_
      refine wm_less (L' := [vr a0, vd, vi (Int.tdiv l1 30), vi (Int.tmod l1 30), vd, vd]) ⟨Or.inr rfl, Or.inl rfl, Or.inr rfl, Or.inr rfl, Or.inl rfl, Or.inl rfl, trivial⟩ ?_
      exact hJ (shlL (mI M (mR M a0 0) (Int.toNat ((Int.tdiv l1 30) + 1))) (30 - (Int.tmod l1 30))) (if_neg c9).symm
  clear h
  have s26 := s6
  refine wm_icmp_ge (tgt := 30) d_Na_bitsFrom_15 rfl (m_tdiv32 hi_l1 (by decide)) (hO _ _).1 (fun c2 => ?_) (fun c2 => ?_)
  · refine wm_lconst (x := 0) d_Na_bitsFrom_30 rfl ?_
    refine wm_less (L' := [vr a0, vd, vi (Int.tdiv l1 30), vi (Int.tmod l1 30), vd, vd]) ⟨Or.inr rfl, Or.inl rfl, Or.inr rfl, Or.inr rfl, Or.inl rfl, Or.inl rfl, trivial⟩ ?_
    exact hJ 0 (if_pos c2).symm
  · have s26 := s26 c2
    obtain ⟨h3, h4⟩ := s26
    refine wm_aload_n d_Na_bitsFrom_18 rfl rfl ?_
    refine gf_Na_9 rfl d_Na_bitsFrom_19 h1 ?_
    refine wm_iload_n d_Na_bitsFrom_22 rfl rfl ?_
    refine wm_iald d_Na_bitsFrom_23 h3 h4 ?_
    refine wm_iload_n d_Na_bitsFrom_24 rfl rfl ?_
    refine wm_iushr d_Na_bitsFrom_25 ?_
    refine wm_i2l d_Na_bitsFrom_26 (m_i32 _) ?_
    refine wm_goto (tgt := 31) d_Na_bitsFrom_27 rfl ?_
    refine wm_less (L' := [vr a0, vd, vi (Int.tdiv l1 30), vi (Int.tmod l1 30), vd, vd]) ⟨Or.inr rfl, Or.inl rfl, Or.inr rfl, Or.inr rfl, Or.inl rfl, Or.inl rfl, trivial⟩ ?_
    exact hJ (ushrI (mI M (mR M a0 0) (Int.toNat (Int.tdiv l1 30))) (Int.tmod l1 30)) (if_neg c2).symm
theorem d_Na_divide_0 : decode y_Na_divide.2.1 0 = .ok (.aload_n 2, 1) := dc9_44 (by decide +kernel)
theorem d_Na_divide_1 : decode y_Na_divide.2.1 1 = .ok (.iconst 0, 1) := dc9_3 (by decide +kernel)
theorem d_Na_divide_2 : decode y_Na_divide.2.1 2 = .ok (.invokevirtual 54, 3) := dc9_182 (by decide +kernel)
theorem d_Na_divide_5 : decode y_Na_divide.2.1 5 = .ok (.aload_n 1, 1) := dc9_43 (by decide +kernel)
theorem d_Na_divide_6 : decode y_Na_divide.2.1 6 = .ok (.getfield 13, 3) := dc9_180 (by decide +kernel)
theorem d_Na_divide_9 : decode y_Na_divide.2.1 9 = .ok (.ifCond .eq 14, 3) := dc9_153 (by decide +kernel)
theorem d_Na_divide_12 : decode y_Na_divide.2.1 12 = .ok (.aload_n 0, 1) := dc9_42 (by decide +kernel)
theorem d_Na_divide_13 : decode y_Na_divide.2.1 13 = .ok (.getfield 13, 3) := dc9_180 (by decide +kernel)
theorem d_Na_divide_16 : decode y_Na_divide.2.1 16 = .ok (.aload_n 1, 1) := dc9_43 (by decide +kernel)
theorem d_Na_divide_17 : decode y_Na_divide.2.1 17 = .ok (.getfield 13, 3) := dc9_180 (by decide +kernel)
theorem d_Na_divide_20 : decode y_Na_divide.2.1 20 = .ok (.if_icmp .ge 4, 3) := dc9_162 (by decide +kernel)
theorem d_Na_divide_24 : decode y_Na_divide.2.1 24 = .ok (.aload_n 1, 1) := dc9_43 (by decide +kernel)
theorem d_Na_divide_25 : decode y_Na_divide.2.1 25 = .ok (.getfield 13, 3) := dc9_180 (by decide +kernel)
theorem d_Na_divide_28 : decode y_Na_divide.2.1 28 = .ok (.iconst 1, 1) := dc9_4 (by decide +kernel)
theorem d_Na_divide_29 : decode y_Na_divide.2.1 29 = .ok (.if_icmp .ne 23, 3) := dc9_160 (by decide +kernel)
theorem d_Na_divide_32 : decode y_Na_divide.2.1 32 = .ok (.aload_n 2, 1) := dc9_44 (by decide +kernel)
theorem d_Na_divide_33 : decode y_Na_divide.2.1 33 = .ok (.aload_n 0, 1) := dc9_42 (by decide +kernel)
theorem d_Na_divide_52 : decode y_Na_divide.2.1 52 = .ok (.iconst 1, 1) := dc9_4 (by decide +kernel)
theorem d_Na_divide_53 : decode y_Na_divide.2.1 53 = .ok (.aload_n 1, 1) := dc9_43 (by decide +kernel)
theorem d_Na_divide_54 : decode y_Na_divide.2.1 54 = .ok (.getfield 9, 3) := dc9_180 (by decide +kernel)
theorem d_Na_divide_57 : decode y_Na_divide.2.1 57 = .ok (.aload_n 1, 1) := dc9_43 (by decide +kernel)
theorem d_Na_divide_58 : decode y_Na_divide.2.1 58 = .ok (.getfield 13, 3) := dc9_180 (by decide +kernel)
theorem d_Na_divide_61 : decode y_Na_divide.2.1 61 = .ok (.iconst 1, 1) := dc9_4 (by decide +kernel)
theorem d_Na_divide_62 : decode y_Na_divide.2.1 62 = .ok (.isub, 1) := dc9_100 (by decide +kernel)
theorem d_Na_divide_63 : decode y_Na_divide.2.1 63 = .ok (.iaload, 1) := dc9_46 (by decide +kernel)
theorem d_Na_divide_23 : decode y_Na_divide.2.1 23 = .ok (.return_, 1) := dc9_177 (by decide +kernel)
theorem d_Na_divide_34 : decode y_Na_divide.2.1 34 = .ok (.invokevirtual 57, 3) := dc9_182 (by decide +kernel)
theorem d_Na_divide_37 : decode y_Na_divide.2.1 37 = .ok (.aload_n 0, 1) := dc9_42 (by decide +kernel)
theorem d_Na_divide_38 : decode y_Na_divide.2.1 38 = .ok (.aload_n 2, 1) := dc9_44 (by decide +kernel)
theorem d_Na_divide_39 : decode y_Na_divide.2.1 39 = .ok (.aload_n 1, 1) := dc9_43 (by decide +kernel)
theorem d_Na_divide_40 : decode y_Na_divide.2.1 40 = .ok (.getfield 9, 3) := dc9_180 (by decide +kernel)
theorem d_Na_divide_43 : decode y_Na_divide.2.1 43 = .ok (.iconst 0, 1) := dc9_3 (by decide +kernel)
theorem d_Na_divide_44 : decode y_Na_divide.2.1 44 = .ok (.iaload, 1) := dc9_46 (by decide +kernel)
theorem d_Na_divide_45 : decode y_Na_divide.2.1 45 = .ok (.invokevirtual 60, 3) := dc9_182 (by decide +kernel)
theorem d_Na_divide_48 : decode y_Na_divide.2.1 48 = .ok (.invokevirtual 54, 3) := dc9_182 (by decide +kernel)
theorem d_Na_divide_51 : decode y_Na_divide.2.1 51 = .ok (.return_, 1) := dc9_177 (by decide +kernel)
theorem d_Na_divide_64 : decode y_Na_divide.2.1 64 = .ok (.invokestatic 41, 3) := dc9_184 (by decide +kernel)
theorem d_Na_divide_67 : decode y_Na_divide.2.1 67 = .ok (.iconst 2, 1) := dc9_5 (by decide +kernel)
theorem d_Na_divide_68 : decode y_Na_divide.2.1 68 = .ok (.isub, 1) := dc9_100 (by decide +kernel)
theorem d_Na_divide_69 : decode y_Na_divide.2.1 69 = .ok (.ishl, 1) := dc9_120 (by decide +kernel)
theorem d_Na_divide_70 : decode y_Na_divide.2.1 70 = .ok (.istore 4, 2) := dc9_54 (by decide +kernel)
theorem d_Na_divide_72 : decode y_Na_divide.2.1 72 = .ok (.aload_n 3, 1) := dc9_45 (by decide +kernel)
theorem d_Na_divide_73 : decode y_Na_divide.2.1 73 = .ok (.aload_n 1, 1) := dc9_43 (by decide +kernel)
theorem d_Na_divide_74 : decode y_Na_divide.2.1 74 = .ok (.invokevirtual 57, 3) := dc9_182 (by decide +kernel)
theorem d_Na_divide_77 : decode y_Na_divide.2.1 77 = .ok (.aload_n 3, 1) := dc9_45 (by decide +kernel)
theorem d_Na_divide_78 : decode y_Na_divide.2.1 78 = .ok (.iload 4, 2) := dc9_21 (by decide +kernel)
theorem d_Na_divide_80 : decode y_Na_divide.2.1 80 = .ok (.invokevirtual 63, 3) := dc9_182 (by decide +kernel)
theorem d_Na_divide_83 : decode y_Na_divide.2.1 83 = .ok (.aload_n 0, 1) := dc9_42 (by decide +kernel)
theorem d_Na_divide_84 : decode y_Na_divide.2.1 84 = .ok (.iload 4, 2) := dc9_21 (by decide +kernel)
theorem d_Na_divide_86 : decode y_Na_divide.2.1 86 = .ok (.invokevirtual 63, 3) := dc9_182 (by decide +kernel)
theorem d_Na_divide_89 : decode y_Na_divide.2.1 89 = .ok (.aload_n 0, 1) := dc9_42 (by decide +kernel)
theorem d_Na_divide_90 : decode y_Na_divide.2.1 90 = .ok (.aload_n 0, 1) := dc9_42 (by decide +kernel)
theorem d_Na_divide_91 : decode y_Na_divide.2.1 91 = .ok (.getfield 13, 3) := dc9_180 (by decide +kernel)
theorem d_Na_divide_94 : decode y_Na_divide.2.1 94 = .ok (.iconst 1, 1) := dc9_4 (by decide +kernel)
theorem d_Na_divide_95 : decode y_Na_divide.2.1 95 = .ok (.iadd, 1) := dc9_96 (by decide +kernel)
theorem d_Na_divide_96 : decode y_Na_divide.2.1 96 = .ok (.invokevirtual 47, 3) := dc9_182 (by decide +kernel)
theorem d_Na_divide_99 : decode y_Na_divide.2.1 99 = .ok (.aload_n 0, 1) := dc9_42 (by decide +kernel)
theorem d_Na_divide_100 : decode y_Na_divide.2.1 100 = .ok (.getfield 9, 3) := dc9_180 (by decide +kernel)
theorem d_Na_divide_103 : decode y_Na_divide.2.1 103 = .ok (.aload_n 0, 1) := dc9_42 (by decide +kernel)
theorem d_Na_divide_104 : decode y_Na_divide.2.1 104 = .ok (.getfield 13, 3) := dc9_180 (by decide +kernel)
theorem d_Na_divide_107 : decode y_Na_divide.2.1 107 = .ok (.iconst 0, 1) := dc9_3 (by decide +kernel)
theorem d_Na_divide_108 : decode y_Na_divide.2.1 108 = .ok (.iastore, 1) := dc9_79 (by decide +kernel)
theorem d_Na_divide_109 : decode y_Na_divide.2.1 109 = .ok (.aload_n 0, 1) := dc9_42 (by decide +kernel)
theorem d_Na_divide_110 : decode y_Na_divide.2.1 110 = .ok (.getfield 13, 3) := dc9_180 (by decide +kernel)
theorem d_Na_divide_113 : decode y_Na_divide.2.1 113 = .ok (.aload_n 3, 1) := dc9_45 (by decide +kernel)
theorem d_Na_divide_114 : decode y_Na_divide.2.1 114 = .ok (.getfield 13, 3) := dc9_180 (by decide +kernel)
theorem d_Na_divide_117 : decode y_Na_divide.2.1 117 = .ok (.isub, 1) := dc9_100 (by decide +kernel)
theorem d_Na_divide_118 : decode y_Na_divide.2.1 118 = .ok (.iconst 1, 1) := dc9_4 (by decide +kernel)
theorem d_Na_divide_119 : decode y_Na_divide.2.1 119 = .ok (.iadd, 1) := dc9_96 (by decide +kernel)
theorem d_Na_divide_120 : decode y_Na_divide.2.1 120 = .ok (.istore 5, 2) := dc9_54 (by decide +kernel)
theorem d_Na_divide_122 : decode y_Na_divide.2.1 122 = .ok (.aload_n 2, 1) := dc9_44 (by decide +kernel)
theorem d_Na_divide_123 : decode y_Na_divide.2.1 123 = .ok (.iload 5, 2) := dc9_21 (by decide +kernel)
theorem d_Na_divide_125 : decode y_Na_divide.2.1 125 = .ok (.invokevirtual 47, 3) := dc9_182 (by decide +kernel)
theorem d_Na_divide_128 : decode y_Na_divide.2.1 128 = .ok (.iload 5, 2) := dc9_21 (by decide +kernel)
theorem d_Na_divide_130 : decode y_Na_divide.2.1 130 = .ok (.iconst 1, 1) := dc9_4 (by decide +kernel)
theorem d_Na_divide_131 : decode y_Na_divide.2.1 131 = .ok (.isub, 1) := dc9_100 (by decide +kernel)
theorem d_Na_divide_132 : decode y_Na_divide.2.1 132 = .ok (.istore 6, 2) := dc9_54 (by decide +kernel)
theorem d_Na_divide_134 : decode y_Na_divide.2.1 134 = .ok (.iload 6, 2) := dc9_21 (by decide +kernel)
theorem d_Na_divide_136 : decode y_Na_divide.2.1 136 = .ok (.ifCond .lt 23, 3) := dc9_155 (by decide +kernel)
theorem d_Na_divide_159 : decode y_Na_divide.2.1 159 = .ok (.aload_n 2, 1) := dc9_44 (by decide +kernel)
theorem d_Na_divide_160 : decode y_Na_divide.2.1 160 = .ok (.iload 5, 2) := dc9_21 (by decide +kernel)
theorem d_Na_divide_139 : decode y_Na_divide.2.1 139 = .ok (.aload_n 2, 1) := dc9_44 (by decide +kernel)
theorem d_Na_divide_140 : decode y_Na_divide.2.1 140 = .ok (.getfield 9, 3) := dc9_180 (by decide +kernel)
theorem d_Na_divide_143 : decode y_Na_divide.2.1 143 = .ok (.iload 6, 2) := dc9_21 (by decide +kernel)
theorem d_Na_divide_145 : decode y_Na_divide.2.1 145 = .ok (.aload_n 0, 1) := dc9_42 (by decide +kernel)
theorem d_Na_divide_146 : decode y_Na_divide.2.1 146 = .ok (.aload_n 3, 1) := dc9_45 (by decide +kernel)
theorem d_Na_divide_147 : decode y_Na_divide.2.1 147 = .ok (.iload 6, 2) := dc9_21 (by decide +kernel)
theorem d_Na_divide_162 : decode y_Na_divide.2.1 162 = .ok (.invokevirtual 31, 3) := dc9_182 (by decide +kernel)
theorem d_Na_divide_165 : decode y_Na_divide.2.1 165 = .ok (.aload_n 0, 1) := dc9_42 (by decide +kernel)
theorem d_Na_divide_166 : decode y_Na_divide.2.1 166 = .ok (.aload_n 0, 1) := dc9_42 (by decide +kernel)
theorem d_Na_divide_167 : decode y_Na_divide.2.1 167 = .ok (.getfield 13, 3) := dc9_180 (by decide +kernel)
theorem d_Na_divide_170 : decode y_Na_divide.2.1 170 = .ok (.invokevirtual 31, 3) := dc9_182 (by decide +kernel)
theorem d_Na_divide_173 : decode y_Na_divide.2.1 173 = .ok (.aload_n 0, 1) := dc9_42 (by decide +kernel)
theorem d_Na_divide_174 : decode y_Na_divide.2.1 174 = .ok (.iload 4, 2) := dc9_21 (by decide +kernel)
theorem d_Na_divide_176 : decode y_Na_divide.2.1 176 = .ok (.invokevirtual 60, 3) := dc9_182 (by decide +kernel)
theorem d_Na_divide_179 : decode y_Na_divide.2.1 179 = .ok (.pop, 1) := dc9_87 (by decide +kernel)
theorem d_Na_divide_180 : decode y_Na_divide.2.1 180 = .ok (.return_, 1) := dc9_177 (by decide +kernel)
theorem d_Na_divide_149 : decode y_Na_divide.2.1 149 = .ok (.invokevirtual 66, 3) := dc9_182 (by decide +kernel)
theorem d_Na_divide_152 : decode y_Na_divide.2.1 152 = .ok (.iastore, 1) := dc9_79 (by decide +kernel)
theorem d_Na_divide_153 : decode y_Na_divide.2.1 153 = .ok (.iinc 6 (-1), 3) := by decide +kernel
theorem d_Na_divide_156 : decode y_Na_divide.2.1 156 = .ok (.goto (-22), 3) := dc9_167 (by decide +kernel)
def h_Na_divide_134 (G : mG) (d : Nat) (a0 : Nat) (a2 : Nat) (a3 : Nat) (l4 : Int) (l5 : Int) (l6 : Int) (M : mM) (Q : mM → Prop) : Prop := mWm G y_Na_divide (d + 1) 134 [vr a0, vd, vr a2, vr a3, vi l4, vi l5, vi l6] [] M (fun r9 M9 => r9 = none ∧ Q M9)
theorem k_Na_divide {G : mG} {d : Nat} {a0 : Nat} {a1 : Nat} {a2 : Nat} {a3 : Nat} {M : mM} {Q : mM → Prop} (hO : mOk M)
    (h : mK M a2 = 10 ∧ Cv G y_Na_put0 d [vr a2, vi 0] M (fun M2 => mOk M2 ∧ (mK M2 a1 = 10 ∧ (¬ (mI M2 a1 1 = 0) → mK M2 a0 = 10) ∧ (((mI M2 a1 1 = 0) ∨ (¬ (mI M2 a1 1 ≤ mI M2 a0 1))) → (Q M2)) ∧ (¬ ((mI M2 a1 1 = 0) ∨ (¬ (mI M2 a1 1 ≤ mI M2 a0 1))) → (((mI M2 a1 1 = 1) → (mK M2 a2 = 10 ∧ Cv G y_Na_put1 d [vr a2, vr a0] M2 (fun M16 => mOk M16 ∧ (mK M16 a1 = 10 ∧ mK M16 (mR M16 a1 0) = 30 ∧ ((0 : Int) ≤ 0 ∧ 0 < (mN M16 (mR M16 a1 0) : Int)) ∧ mK M16 a2 = 10 ∧ Ci G y_Na_divideSmall d [vr a2, vi (mI M16 (mR M16 a1 0) 0)] M16 (fun x24 M23 => i32 x24 ∧ mOk M23 ∧ (mK M23 a0 = 10 ∧ Cv G y_Na_put0 d [vr a0, vi x24] M23 (fun M27 => mOk M27 ∧ (Q M27)))))))) ∧ (¬ (mI M2 a1 1 = 1) → (mK M2 (mR M2 a1 0) = 30 ∧ ((0 : Int) ≤ (mI M2 a1 1) - 1 ∧ (mI M2 a1 1) - 1 < (mN M2 (mR M2 a1 0) : Int)) ∧ Ci G y_JI_nlz d [vi (mI M2 (mR M2 a1 0) (Int.toNat ((mI M2 a1 1) - 1)))] M2 (fun x33 M32 => i32 x33 ∧ mOk M32 ∧ (mK M32 a3 = 10 ∧ Cv G y_Na_put1 d [vr a3, vr a1] M32 (fun M36 => mOk M36 ∧ (mK M36 a3 = 10 ∧ Cv G y_Na_multiply d [vr a3, vi (shlI 1 (x33 - 2))] M36 (fun M40 => mOk M40 ∧ (mK M40 a0 = 10 ∧ Cv G y_Na_multiply d [vr a0, vi (shlI 1 (x33 - 2))] M40 (fun M44 => mOk M44 ∧ (mK M44 a0 = 10 ∧ Cv G y_Na_reserve d [vr a0, vi ((mI M44 a0 1) + 1)] M44 (fun M48 => mOk M48 ∧ (mK M48 a0 = 10 ∧ mK M48 (mR M48 a0 0) = 30 ∧ ((0 : Int) ≤ mI M48 a0 1 ∧ mI M48 a0 1 < (mN M48 (mR M48 a0 0) : Int)) ∧ ∀ M54, M54 = mUI M48 (mR M48 a0 0) (Int.toNat (mI M48 a0 1)) 0 → mK M54 a3 = 10 ∧ mK M54 a2 = 10 ∧ Cv G y_Na_reserve d [vr a2, vi (((mI M54 a0 1) - (mI M54 a3 1)) + 1)] M54 (fun M58 => mOk M58 ∧ (h_Na_divide_134 G d a0 a2 a3 (shlI 1 (x33 - 2)) (((mI M54 a0 1) - (mI M54 a3 1)) + 1) ((((mI M54 a0 1) - (mI M54 a3 1)) + 1) - 1) M58 Q))))))))))))))))))) :
    Cv G y_Na_divide (d + 1) [vr a0, vr a1, vr a2, vr a3] M Q := by
  refine wm_open (y := y_Na_divide) rfl (Nat.le_of_ble_eq_true rfl) (L := [vr a0, vr a1, vr a2, vr a3, vd, vd, vd]) rfl ?_
  obtain ⟨h1, h⟩ := h
  refine wm_aload_n d_Na_divide_0 rfl rfl ?_
  refine wm_iconst d_Na_divide_1 ?_
  refine cf_Na_54 rfl d_Na_divide_2 h1 (Nat.le_of_ble_eq_true rfl) (Cv.mono h (fun M2 h => ?_))
  obtain ⟨hOM2, h⟩ := h
  obtain ⟨h5, h⟩ := h
  refine wm_aload_n d_Na_divide_5 rfl rfl ?_
  refine gf_Na_13 rfl d_Na_divide_6 h5 ?_
  obtain ⟨s10, h⟩ := h
  have hE0 : ((mI M2 a1 1 = 0) ∨ (¬ (mI M2 a1 1 ≤ mI M2 a0 1))) → mWm G y_Na_divide (d + 1) 23 [vr a0, vr a1, vr a2, vr a3, vd, vd, vd] [] M2 (fun r9 M9 => r9 = none ∧ Q M9) := by
    intro q11
    have h := h.1 q11
    refine wm_return d_Na_divide_23 rfl ?_
    exact ⟨rfl, h⟩
  have hE1 : ¬ ((mI M2 a1 1 = 0) ∨ (¬ (mI M2 a1 1 ≤ mI M2 a0 1))) → mWm G y_Na_divide (d + 1) 24 [vr a0, vr a1, vr a2, vr a3, vd, vd, vd] [] M2 (fun r9 M9 => r9 = none ∧ Q M9) := by
    intro q12
    have h := h.2 q12
    refine wm_aload_n d_Na_divide_24 rfl rfl ?_
    refine gf_Na_13 rfl d_Na_divide_25 h5 ?_
    refine wm_iconst d_Na_divide_28 ?_
    refine wm_icmp_ne (tgt := 52) d_Na_divide_29 rfl (hOM2 _ _).1 ⟨by decide, by decide⟩ (fun c14 => ?_) (fun c14 => ?_)
    · replace h := h.2 c14
      obtain ⟨h30, h⟩ := h
      obtain ⟨h31, h⟩ := h
      refine wm_iconst d_Na_divide_52 ?_
      refine wm_aload_n d_Na_divide_53 rfl rfl ?_
      refine gf_Na_9 rfl d_Na_divide_54 h5 ?_
      refine wm_aload_n d_Na_divide_57 rfl rfl ?_
      refine gf_Na_13 rfl d_Na_divide_58 h5 ?_
      refine wm_iconst d_Na_divide_61 ?_
      refine wm_isub d_Na_divide_62 ?_
      refine wm_iald d_Na_divide_63 h30 h31 ?_
      refine cf_Na_41 rfl d_Na_divide_64 (Nat.le_of_ble_eq_true rfl) (Ci.mono h (fun x33 M32 h => ?_))
      obtain ⟨h34, hOM32, h⟩ := h
      obtain ⟨h35, h⟩ := h
      refine wm_iconst d_Na_divide_67 ?_
      refine wm_isub d_Na_divide_68 ?_
      refine wm_ishl d_Na_divide_69 ?_
      refine wm_istore d_Na_divide_70 (by decide) (L' := [vr a0, vr a1, vr a2, vr a3, vi (shlI 1 (x33 - 2)), vd, vd]) rfl ?_
      refine wm_aload_n d_Na_divide_72 rfl rfl ?_
      refine wm_aload_n d_Na_divide_73 rfl rfl ?_
      refine cf_Na_57 rfl d_Na_divide_74 h35 (Nat.le_of_ble_eq_true rfl) (Cv.mono h (fun M36 h => ?_))
      obtain ⟨hOM36, h⟩ := h
      obtain ⟨h39, h⟩ := h
      refine wm_aload_n d_Na_divide_77 rfl rfl ?_
      refine wm_iload d_Na_divide_78 rfl ?_
      refine cf_Na_63 rfl d_Na_divide_80 h39 (Nat.le_of_ble_eq_true rfl) (Cv.mono h (fun M40 h => ?_))
      obtain ⟨hOM40, h⟩ := h
      obtain ⟨h43, h⟩ := h
      refine wm_aload_n d_Na_divide_83 rfl rfl ?_
      refine wm_iload d_Na_divide_84 rfl ?_
      refine cf_Na_63 rfl d_Na_divide_86 h43 (Nat.le_of_ble_eq_true rfl) (Cv.mono h (fun M44 h => ?_))
      obtain ⟨hOM44, h⟩ := h
      obtain ⟨h47, h⟩ := h
      refine wm_aload_n d_Na_divide_89 rfl rfl ?_
      refine wm_aload_n d_Na_divide_90 rfl rfl ?_
      refine gf_Na_13 rfl d_Na_divide_91 h47 ?_
      refine wm_iconst d_Na_divide_94 ?_
      refine wm_iadd d_Na_divide_95 ?_
      refine cf_Na_47 rfl d_Na_divide_96 h47 (Nat.le_of_ble_eq_true rfl) (Cv.mono h (fun M48 h => ?_))
      obtain ⟨hOM48, h⟩ := h
      obtain ⟨h51, h⟩ := h
      obtain ⟨h52, h⟩ := h
      obtain ⟨h53, h⟩ := h
      obtain ⟨M54, e55⟩ : ∃ M54, M54 = mUI M48 (mR M48 a0 0) (Int.toNat (mI M48 a0 1)) 0 := ⟨_, rfl⟩
      replace h := h M54 e55
      obtain ⟨h56, h⟩ := h
      obtain ⟨h57, h⟩ := h
      refine wm_aload_n d_Na_divide_99 rfl rfl ?_
      refine gf_Na_9 rfl d_Na_divide_100 h51 ?_
      refine wm_aload_n d_Na_divide_103 rfl rfl ?_
      refine gf_Na_13 rfl d_Na_divide_104 h51 ?_
      refine wm_iconst d_Na_divide_107 ?_
      have hOM54 : mOk M54 := by rw [e55]; exact mOk_UI hOM48 ⟨by decide, by decide⟩
      refine wm_iastE d_Na_divide_108 h52 h53 ⟨by decide, by decide⟩ e55 ?_
      refine wm_aload_n d_Na_divide_109 rfl rfl ?_
      refine gf_Na_13 rfl d_Na_divide_110 (by rw [e55]; exact h51) ?_
      refine wm_aload_n d_Na_divide_113 rfl rfl ?_
      refine gf_Na_13 rfl d_Na_divide_114 h56 ?_
      refine wm_isub d_Na_divide_117 ?_
      refine wm_iconst d_Na_divide_118 ?_
      refine wm_iadd d_Na_divide_119 ?_
      refine wm_istore d_Na_divide_120 (by decide) (L' := [vr a0, vr a1, vr a2, vr a3, vi (shlI 1 (x33 - 2)), vi (((mI M54 a0 1) - (mI M54 a3 1)) + 1), vd]) rfl ?_
      refine wm_aload_n d_Na_divide_122 rfl rfl ?_
      refine wm_iload d_Na_divide_123 rfl ?_
      refine cf_Na_47 rfl d_Na_divide_125 h57 (Nat.le_of_ble_eq_true rfl) (Cv.mono h (fun M58 h => ?_))
      obtain ⟨hOM58, h⟩ := h
      refine wm_iload d_Na_divide_128 rfl ?_
      refine wm_iconst d_Na_divide_130 ?_
      refine wm_isub d_Na_divide_131 ?_
      refine wm_istore d_Na_divide_132 (by decide) (L' := [vr a0, vr a1, vr a2, vr a3, vi (shlI 1 (x33 - 2)), vi (((mI M54 a0 1) - (mI M54 a3 1)) + 1), vi ((((mI M54 a0 1) - (mI M54 a3 1)) + 1) - 1)]) rfl ?_
      refine wm_less (L' := [vr a0, vd, vr a2, vr a3, vi (shlI 1 (x33 - 2)), vi (((mI M54 a0 1) - (mI M54 a3 1)) + 1), vi ((((mI M54 a0 1) - (mI M54 a3 1)) + 1) - 1)]) ⟨Or.inr rfl, Or.inl rfl, Or.inr rfl, Or.inr rfl, Or.inr rfl, Or.inr rfl, Or.inr rfl, trivial⟩ ?_
      exact h
    · replace c14 := Classical.not_not.mp c14
      replace h := h.1 c14
      obtain ⟨h15, h⟩ := h
      refine wm_aload_n d_Na_divide_32 rfl rfl ?_
      refine wm_aload_n d_Na_divide_33 rfl rfl ?_
      refine cf_Na_57 rfl d_Na_divide_34 h15 (Nat.le_of_ble_eq_true rfl) (Cv.mono h (fun M16 h => ?_))
      obtain ⟨hOM16, h⟩ := h
      obtain ⟨h19, h⟩ := h
      obtain ⟨h20, h⟩ := h
      obtain ⟨h21, h⟩ := h
      obtain ⟨h22, h⟩ := h
      refine wm_aload_n d_Na_divide_37 rfl rfl ?_
      refine wm_aload_n d_Na_divide_38 rfl rfl ?_
      refine wm_aload_n d_Na_divide_39 rfl rfl ?_
      refine gf_Na_9 rfl d_Na_divide_40 h19 ?_
      refine wm_iconst d_Na_divide_43 ?_
      refine wm_iald d_Na_divide_44 h20 h21 ?_
      refine cf_Na_60 rfl d_Na_divide_45 h22 (Nat.le_of_ble_eq_true rfl) (Ci.mono h (fun x24 M23 h => ?_))
      obtain ⟨h25, hOM23, h⟩ := h
      obtain ⟨h26, h⟩ := h
      refine cf_Na_54 rfl d_Na_divide_48 h26 (Nat.le_of_ble_eq_true rfl) (Cv.mono h (fun M27 h => ?_))
      obtain ⟨hOM27, h⟩ := h
      refine wm_return d_Na_divide_51 rfl ?_
      exact ⟨rfl, h⟩
  clear h
  have s61 := s10
  refine wm_if_eq (tgt := 23) d_Na_divide_9 rfl (hOM2 _ _).1 (fun c9 => ?_) (fun c9 => ?_)
  · exact hE0 (Or.inl c9)
  · have s61 := s61 c9
    have h6 := s61
    refine wm_aload_n d_Na_divide_12 rfl rfl ?_
    refine gf_Na_13 rfl d_Na_divide_13 h6 ?_
    refine wm_aload_n d_Na_divide_16 rfl rfl ?_
    refine gf_Na_13 rfl d_Na_divide_17 h5 ?_
    refine wm_icmp_ge (tgt := 24) d_Na_divide_20 rfl (hOM2 _ _).1 (hOM2 _ _).1 (fun c8 => ?_) (fun c8 => ?_)
    · exact hE1 (fun z62 => Or.elim z62 c9 (fun z63 => z63 c8))
    · exact hE0 (Or.inr c8)
theorem k_Na_divide_134 {G : mG} {d : Nat} {a0 : Nat} {a2 : Nat} {a3 : Nat} {l4 : Int} {l5 : Int} {l6 : Int} {M : mM} {Q : mM → Prop} (hO : mOk M) (hi_l4 : i32 l4) (hi_l5 : i32 l5) (hi_l6 : i32 l6)
    (h : ((l6 < 0) → (mK M a2 = 10 ∧ Cv G y_Na_trim d [vr a2, vi l5] M (fun M67 => mOk M67 ∧ (mK M67 a0 = 10 ∧ Cv G y_Na_trim d [vr a0, vi (mI M67 a0 1)] M67 (fun M71 => mOk M71 ∧ (mK M71 a0 = 10 ∧ Ci G y_Na_divideSmall d [vr a0, vi l4] M71 (fun x76 M75 => i32 x76 ∧ mOk M75 ∧ (Q M75)))))))) ∧ (¬ (l6 < 0) → (mK M a2 = 10 ∧ mK M a0 = 10 ∧ Ci G y_Na_takeMultiple d [vr a0, vr a3, vi l6] M (fun x81 M80 => i32 x81 ∧ mOk M80 ∧ (mK M80 (mR M a2 0) = 30 ∧ ((0 : Int) ≤ l6 ∧ l6 < (mN M80 (mR M a2 0) : Int)) ∧ ∀ M85, M85 = mUI M80 (mR M a2 0) (Int.toNat l6) x81 → h_Na_divide_134 G d a0 a2 a3 l4 l5 (l6 + (-1)) M85 Q))))) :
    h_Na_divide_134 G d a0 a2 a3 l4 l5 l6 M Q := by
  unfold h_Na_divide_134
  refine wm_iload d_Na_divide_134 rfl ?_
  refine wm_if_lt (tgt := 159) d_Na_divide_136 rfl hi_l6 (fun c65 => ?_) (fun c65 => ?_)
  · replace h := h.1 c65
    obtain ⟨h66, h⟩ := h
    refine wm_aload_n d_Na_divide_159 rfl rfl ?_
    refine wm_iload d_Na_divide_160 rfl ?_
    refine cf_Na_31 rfl d_Na_divide_162 h66 (Nat.le_of_ble_eq_true rfl) (Cv.mono h (fun M67 h => ?_))
    obtain ⟨hOM67, h⟩ := h
    obtain ⟨h70, h⟩ := h
    refine wm_aload_n d_Na_divide_165 rfl rfl ?_
    refine wm_aload_n d_Na_divide_166 rfl rfl ?_
    refine gf_Na_13 rfl d_Na_divide_167 h70 ?_
    refine cf_Na_31 rfl d_Na_divide_170 h70 (Nat.le_of_ble_eq_true rfl) (Cv.mono h (fun M71 h => ?_))
    obtain ⟨hOM71, h⟩ := h
    obtain ⟨h74, h⟩ := h
    refine wm_aload_n d_Na_divide_173 rfl rfl ?_
    refine wm_iload d_Na_divide_174 rfl ?_
    refine cf_Na_60 rfl d_Na_divide_176 h74 (Nat.le_of_ble_eq_true rfl) (Ci.mono h (fun x76 M75 h => ?_))
    obtain ⟨h77, hOM75, h⟩ := h
    refine wm_pop d_Na_divide_179 rfl ?_
    refine wm_return d_Na_divide_180 rfl ?_
    exact ⟨rfl, h⟩
  · replace h := h.2 c65
    obtain ⟨h78, h⟩ := h
    obtain ⟨h79, h⟩ := h
    refine wm_aload_n d_Na_divide_139 rfl rfl ?_
    refine gf_Na_9 rfl d_Na_divide_140 h78 ?_
    refine wm_iload d_Na_divide_143 rfl ?_
    refine wm_aload_n d_Na_divide_145 rfl rfl ?_
    refine wm_aload_n d_Na_divide_146 rfl rfl ?_
    refine wm_iload d_Na_divide_147 rfl ?_
    refine cf_Na_66 rfl d_Na_divide_149 h79 (Nat.le_of_ble_eq_true rfl) (Ci.mono h (fun x81 M80 h => ?_))
    obtain ⟨h82, hOM80, h⟩ := h
    obtain ⟨h83, h⟩ := h
    obtain ⟨h84, h⟩ := h
    obtain ⟨M85, e86⟩ : ∃ M85, M85 = mUI M80 (mR M a2 0) (Int.toNat l6) x81 := ⟨_, rfl⟩
    replace h := h M85 e86
    have hOM85 : mOk M85 := by rw [e86]; exact mOk_UI hOM80 h82
    refine wm_iastE d_Na_divide_152 h83 h84 h82 e86 ?_
    refine wm_iinc d_Na_divide_153 (by decide) rfl (L' := [vr a0, vd, vr a2, vr a3, vi l4, vi l5, vi (l6 + (-1))]) rfl ?_
    refine wm_goto (tgt := 134) d_Na_divide_156 rfl ?_
    exact h
theorem d_Na_takeMultiple_0 : decode y_Na_takeMultiple.2.1 0 = .ok (.aload_n 1, 1) := dc9_43 (by decide +kernel)
theorem d_Na_takeMultiple_1 : decode y_Na_takeMultiple.2.1 1 = .ok (.getfield 13, 3) := dc9_180 (by decide +kernel)
theorem d_Na_takeMultiple_4 : decode y_Na_takeMultiple.2.1 4 = .ok (.istore_n 3, 1) := dc9_62 (by decide +kernel)
theorem d_Na_takeMultiple_5 : decode y_Na_takeMultiple.2.1 5 = .ok (.aload_n 1, 1) := dc9_43 (by decide +kernel)
theorem d_Na_takeMultiple_6 : decode y_Na_takeMultiple.2.1 6 = .ok (.getfield 9, 3) := dc9_180 (by decide +kernel)
theorem d_Na_takeMultiple_9 : decode y_Na_takeMultiple.2.1 9 = .ok (.iload_n 3, 1) := dc9_29 (by decide +kernel)
theorem d_Na_takeMultiple_10 : decode y_Na_takeMultiple.2.1 10 = .ok (.iconst 1, 1) := dc9_4 (by decide +kernel)
theorem d_Na_takeMultiple_11 : decode y_Na_takeMultiple.2.1 11 = .ok (.isub, 1) := dc9_100 (by decide +kernel)
theorem d_Na_takeMultiple_12 : decode y_Na_takeMultiple.2.1 12 = .ok (.iaload, 1) := dc9_46 (by decide +kernel)
theorem d_Na_takeMultiple_13 : decode y_Na_takeMultiple.2.1 13 = .ok (.i2l, 1) := dc9_133 (by decide +kernel)
theorem d_Na_takeMultiple_14 : decode y_Na_takeMultiple.2.1 14 = .ok (.lstore 4, 2) := dc9_55 (by decide +kernel)
theorem d_Na_takeMultiple_16 : decode y_Na_takeMultiple.2.1 16 = .ok (.aload_n 0, 1) := dc9_42 (by decide +kernel)
theorem d_Na_takeMultiple_17 : decode y_Na_takeMultiple.2.1 17 = .ok (.getfield 9, 3) := dc9_180 (by decide +kernel)
theorem d_Na_takeMultiple_20 : decode y_Na_takeMultiple.2.1 20 = .ok (.iload_n 2, 1) := dc9_28 (by decide +kernel)
theorem d_Na_takeMultiple_21 : decode y_Na_takeMultiple.2.1 21 = .ok (.iload_n 3, 1) := dc9_29 (by decide +kernel)
theorem d_Na_takeMultiple_22 : decode y_Na_takeMultiple.2.1 22 = .ok (.iadd, 1) := dc9_96 (by decide +kernel)
theorem d_Na_takeMultiple_23 : decode y_Na_takeMultiple.2.1 23 = .ok (.iaload, 1) := dc9_46 (by decide +kernel)
theorem d_Na_takeMultiple_24 : decode y_Na_takeMultiple.2.1 24 = .ok (.i2l, 1) := dc9_133 (by decide +kernel)
theorem d_Na_takeMultiple_25 : decode y_Na_takeMultiple.2.1 25 = .ok (.bipush 30, 2) := dc9_16 (by decide +kernel)
theorem d_Na_takeMultiple_27 : decode y_Na_takeMultiple.2.1 27 = .ok (.lshl, 1) := dc9_121 (by decide +kernel)
theorem d_Na_takeMultiple_28 : decode y_Na_takeMultiple.2.1 28 = .ok (.aload_n 0, 1) := dc9_42 (by decide +kernel)
theorem d_Na_takeMultiple_29 : decode y_Na_takeMultiple.2.1 29 = .ok (.getfield 9, 3) := dc9_180 (by decide +kernel)
theorem d_Na_takeMultiple_32 : decode y_Na_takeMultiple.2.1 32 = .ok (.iload_n 2, 1) := dc9_28 (by decide +kernel)
theorem d_Na_takeMultiple_33 : decode y_Na_takeMultiple.2.1 33 = .ok (.iload_n 3, 1) := dc9_29 (by decide +kernel)
theorem d_Na_takeMultiple_34 : decode y_Na_takeMultiple.2.1 34 = .ok (.iadd, 1) := dc9_96 (by decide +kernel)
theorem d_Na_takeMultiple_35 : decode y_Na_takeMultiple.2.1 35 = .ok (.iconst 1, 1) := dc9_4 (by decide +kernel)
theorem d_Na_takeMultiple_36 : decode y_Na_takeMultiple.2.1 36 = .ok (.isub, 1) := dc9_100 (by decide +kernel)
theorem d_Na_takeMultiple_37 : decode y_Na_takeMultiple.2.1 37 = .ok (.iaload, 1) := dc9_46 (by decide +kernel)
theorem d_Na_takeMultiple_38 : decode y_Na_takeMultiple.2.1 38 = .ok (.i2l, 1) := dc9_133 (by decide +kernel)
theorem d_Na_takeMultiple_39 : decode y_Na_takeMultiple.2.1 39 = .ok (.ladd, 1) := dc9_97 (by decide +kernel)
theorem d_Na_takeMultiple_40 : decode y_Na_takeMultiple.2.1 40 = .ok (.lstore 6, 2) := dc9_55 (by decide +kernel)
theorem d_Na_takeMultiple_42 : decode y_Na_takeMultiple.2.1 42 = .ok (.lload 6, 2) := dc9_22 (by decide +kernel)
theorem d_Na_takeMultiple_44 : decode y_Na_takeMultiple.2.1 44 = .ok (.lload 4, 2) := dc9_22 (by decide +kernel)
theorem d_Na_takeMultiple_46 : decode y_Na_takeMultiple.2.1 46 = .ok (.ldiv, 1) := dc9_109 (by decide +kernel)
theorem d_Na_takeMultiple_47 : decode y_Na_takeMultiple.2.1 47 = .ok (.ldc2_w 29, 3) := dc9_20 (by decide +kernel)
theorem d_Na_takeMultiple_50 : decode y_Na_takeMultiple.2.1 50 = .ok (.invokestatic 70, 3) := dc9_184 (by decide +kernel)
theorem d_Na_takeMultiple_53 : decode y_Na_takeMultiple.2.1 53 = .ok (.lstore 8, 2) := dc9_55 (by decide +kernel)
theorem d_Na_takeMultiple_55 : decode y_Na_takeMultiple.2.1 55 = .ok (.lload 6, 2) := dc9_22 (by decide +kernel)
theorem d_Na_takeMultiple_57 : decode y_Na_takeMultiple.2.1 57 = .ok (.lload 8, 2) := dc9_22 (by decide +kernel)
theorem d_Na_takeMultiple_59 : decode y_Na_takeMultiple.2.1 59 = .ok (.lload 4, 2) := dc9_22 (by decide +kernel)
theorem d_Na_takeMultiple_61 : decode y_Na_takeMultiple.2.1 61 = .ok (.lmul, 1) := dc9_105 (by decide +kernel)
theorem d_Na_takeMultiple_62 : decode y_Na_takeMultiple.2.1 62 = .ok (.lsub, 1) := dc9_101 (by decide +kernel)
theorem d_Na_takeMultiple_63 : decode y_Na_takeMultiple.2.1 63 = .ok (.lstore 10, 2) := dc9_55 (by decide +kernel)
theorem d_Na_takeMultiple_65 : decode y_Na_takeMultiple.2.1 65 = .ok (.iconst 0, 1) := dc9_3 (by decide +kernel)
theorem d_Na_takeMultiple_66 : decode y_Na_takeMultiple.2.1 66 = .ok (.istore 12, 2) := dc9_54 (by decide +kernel)
theorem d_Na_takeMultiple_68 : decode y_Na_takeMultiple.2.1 68 = .ok (.iload 12, 2) := dc9_21 (by decide +kernel)
theorem d_Na_takeMultiple_70 : decode y_Na_takeMultiple.2.1 70 = .ok (.iconst 2, 1) := dc9_5 (by decide +kernel)
theorem d_Na_takeMultiple_71 : decode y_Na_takeMultiple.2.1 71 = .ok (.if_icmp .ge 55, 3) := dc9_162 (by decide +kernel)
theorem d_Na_takeMultiple_74 : decode y_Na_takeMultiple.2.1 74 = .ok (.lload 8, 2) := dc9_22 (by decide +kernel)
theorem d_Na_takeMultiple_76 : decode y_Na_takeMultiple.2.1 76 = .ok (.aload_n 1, 1) := dc9_43 (by decide +kernel)
theorem d_Na_takeMultiple_77 : decode y_Na_takeMultiple.2.1 77 = .ok (.getfield 9, 3) := dc9_180 (by decide +kernel)
theorem d_Na_takeMultiple_80 : decode y_Na_takeMultiple.2.1 80 = .ok (.iload_n 3, 1) := dc9_29 (by decide +kernel)
theorem d_Na_takeMultiple_81 : decode y_Na_takeMultiple.2.1 81 = .ok (.iconst 2, 1) := dc9_5 (by decide +kernel)
theorem d_Na_takeMultiple_82 : decode y_Na_takeMultiple.2.1 82 = .ok (.isub, 1) := dc9_100 (by decide +kernel)
theorem d_Na_takeMultiple_83 : decode y_Na_takeMultiple.2.1 83 = .ok (.iaload, 1) := dc9_46 (by decide +kernel)
theorem d_Na_takeMultiple_84 : decode y_Na_takeMultiple.2.1 84 = .ok (.i2l, 1) := dc9_133 (by decide +kernel)
theorem d_Na_takeMultiple_85 : decode y_Na_takeMultiple.2.1 85 = .ok (.lmul, 1) := dc9_105 (by decide +kernel)
theorem d_Na_takeMultiple_86 : decode y_Na_takeMultiple.2.1 86 = .ok (.lload 10, 2) := dc9_22 (by decide +kernel)
theorem d_Na_takeMultiple_88 : decode y_Na_takeMultiple.2.1 88 = .ok (.bipush 30, 2) := dc9_16 (by decide +kernel)
theorem d_Na_takeMultiple_90 : decode y_Na_takeMultiple.2.1 90 = .ok (.lshl, 1) := dc9_121 (by decide +kernel)
theorem d_Na_takeMultiple_91 : decode y_Na_takeMultiple.2.1 91 = .ok (.aload_n 0, 1) := dc9_42 (by decide +kernel)
theorem d_Na_takeMultiple_92 : decode y_Na_takeMultiple.2.1 92 = .ok (.getfield 9, 3) := dc9_180 (by decide +kernel)
theorem d_Na_takeMultiple_95 : decode y_Na_takeMultiple.2.1 95 = .ok (.iload_n 2, 1) := dc9_28 (by decide +kernel)
theorem d_Na_takeMultiple_96 : decode y_Na_takeMultiple.2.1 96 = .ok (.iload_n 3, 1) := dc9_29 (by decide +kernel)
theorem d_Na_takeMultiple_97 : decode y_Na_takeMultiple.2.1 97 = .ok (.iadd, 1) := dc9_96 (by decide +kernel)
theorem d_Na_takeMultiple_98 : decode y_Na_takeMultiple.2.1 98 = .ok (.iconst 2, 1) := dc9_5 (by decide +kernel)
theorem d_Na_takeMultiple_99 : decode y_Na_takeMultiple.2.1 99 = .ok (.isub, 1) := dc9_100 (by decide +kernel)
theorem d_Na_takeMultiple_100 : decode y_Na_takeMultiple.2.1 100 = .ok (.iaload, 1) := dc9_46 (by decide +kernel)
theorem d_Na_takeMultiple_101 : decode y_Na_takeMultiple.2.1 101 = .ok (.i2l, 1) := dc9_133 (by decide +kernel)
theorem d_Na_takeMultiple_102 : decode y_Na_takeMultiple.2.1 102 = .ok (.ladd, 1) := dc9_97 (by decide +kernel)
theorem d_Na_takeMultiple_103 : decode y_Na_takeMultiple.2.1 103 = .ok (.lcmp, 1) := dc9_148 (by decide +kernel)
theorem d_Na_takeMultiple_104 : decode y_Na_takeMultiple.2.1 104 = .ok (.ifCond .le 22, 3) := dc9_158 (by decide +kernel)
theorem d_Na_takeMultiple_107 : decode y_Na_takeMultiple.2.1 107 = .ok (.lload 8, 2) := dc9_22 (by decide +kernel)
theorem d_Na_takeMultiple_109 : decode y_Na_takeMultiple.2.1 109 = .ok (.lconst 1, 1) := dc9_10 (by decide +kernel)
theorem d_Na_takeMultiple_110 : decode y_Na_takeMultiple.2.1 110 = .ok (.lsub, 1) := dc9_101 (by decide +kernel)
theorem d_Na_takeMultiple_111 : decode y_Na_takeMultiple.2.1 111 = .ok (.lstore 8, 2) := dc9_55 (by decide +kernel)
theorem d_Na_takeMultiple_113 : decode y_Na_takeMultiple.2.1 113 = .ok (.lload 10, 2) := dc9_22 (by decide +kernel)
theorem d_Na_takeMultiple_115 : decode y_Na_takeMultiple.2.1 115 = .ok (.lload 4, 2) := dc9_22 (by decide +kernel)
theorem d_Na_takeMultiple_117 : decode y_Na_takeMultiple.2.1 117 = .ok (.ladd, 1) := dc9_97 (by decide +kernel)
theorem d_Na_takeMultiple_118 : decode y_Na_takeMultiple.2.1 118 = .ok (.lstore 10, 2) := dc9_55 (by decide +kernel)
theorem d_Na_takeMultiple_120 : decode y_Na_takeMultiple.2.1 120 = .ok (.iinc 12 1, 3) := by decide +kernel
theorem d_Na_takeMultiple_123 : decode y_Na_takeMultiple.2.1 123 = .ok (.goto (-55), 3) := dc9_167 (by decide +kernel)
theorem d_Na_takeMultiple_126 : decode y_Na_takeMultiple.2.1 126 = .ok (.lconst 0, 1) := dc9_9 (by decide +kernel)
theorem d_Na_takeMultiple_127 : decode y_Na_takeMultiple.2.1 127 = .ok (.lstore 12, 2) := dc9_55 (by decide +kernel)
theorem d_Na_takeMultiple_129 : decode y_Na_takeMultiple.2.1 129 = .ok (.iconst 0, 1) := dc9_3 (by decide +kernel)
theorem d_Na_takeMultiple_130 : decode y_Na_takeMultiple.2.1 130 = .ok (.istore 14, 2) := dc9_54 (by decide +kernel)
theorem d_Na_takeMultiple_132 : decode y_Na_takeMultiple.2.1 132 = .ok (.iload 14, 2) := dc9_21 (by decide +kernel)
theorem d_Na_takeMultiple_134 : decode y_Na_takeMultiple.2.1 134 = .ok (.iload_n 3, 1) := dc9_29 (by decide +kernel)
theorem d_Na_takeMultiple_135 : decode y_Na_takeMultiple.2.1 135 = .ok (.if_icmp .ge 59, 3) := dc9_162 (by decide +kernel)
theorem d_Na_takeMultiple_194 : decode y_Na_takeMultiple.2.1 194 = .ok (.lload 12, 2) := dc9_22 (by decide +kernel)
theorem d_Na_takeMultiple_196 : decode y_Na_takeMultiple.2.1 196 = .ok (.aload_n 0, 1) := dc9_42 (by decide +kernel)
theorem d_Na_takeMultiple_197 : decode y_Na_takeMultiple.2.1 197 = .ok (.getfield 9, 3) := dc9_180 (by decide +kernel)
theorem d_Na_takeMultiple_200 : decode y_Na_takeMultiple.2.1 200 = .ok (.iload_n 2, 1) := dc9_28 (by decide +kernel)
theorem d_Na_takeMultiple_201 : decode y_Na_takeMultiple.2.1 201 = .ok (.iload_n 3, 1) := dc9_29 (by decide +kernel)
theorem d_Na_takeMultiple_202 : decode y_Na_takeMultiple.2.1 202 = .ok (.iadd, 1) := dc9_96 (by decide +kernel)
theorem d_Na_takeMultiple_203 : decode y_Na_takeMultiple.2.1 203 = .ok (.iaload, 1) := dc9_46 (by decide +kernel)
theorem d_Na_takeMultiple_204 : decode y_Na_takeMultiple.2.1 204 = .ok (.i2l, 1) := dc9_133 (by decide +kernel)
theorem d_Na_takeMultiple_205 : decode y_Na_takeMultiple.2.1 205 = .ok (.ladd, 1) := dc9_97 (by decide +kernel)
theorem d_Na_takeMultiple_206 : decode y_Na_takeMultiple.2.1 206 = .ok (.lstore 12, 2) := dc9_55 (by decide +kernel)
theorem d_Na_takeMultiple_208 : decode y_Na_takeMultiple.2.1 208 = .ok (.aload_n 0, 1) := dc9_42 (by decide +kernel)
theorem d_Na_takeMultiple_209 : decode y_Na_takeMultiple.2.1 209 = .ok (.getfield 9, 3) := dc9_180 (by decide +kernel)
theorem d_Na_takeMultiple_212 : decode y_Na_takeMultiple.2.1 212 = .ok (.iload_n 2, 1) := dc9_28 (by decide +kernel)
theorem d_Na_takeMultiple_213 : decode y_Na_takeMultiple.2.1 213 = .ok (.iload_n 3, 1) := dc9_29 (by decide +kernel)
theorem d_Na_takeMultiple_214 : decode y_Na_takeMultiple.2.1 214 = .ok (.iadd, 1) := dc9_96 (by decide +kernel)
theorem d_Na_takeMultiple_215 : decode y_Na_takeMultiple.2.1 215 = .ok (.iconst 0, 1) := dc9_3 (by decide +kernel)
theorem d_Na_takeMultiple_216 : decode y_Na_takeMultiple.2.1 216 = .ok (.iastore, 1) := dc9_79 (by decide +kernel)
theorem d_Na_takeMultiple_217 : decode y_Na_takeMultiple.2.1 217 = .ok (.lload 12, 2) := dc9_22 (by decide +kernel)
theorem d_Na_takeMultiple_219 : decode y_Na_takeMultiple.2.1 219 = .ok (.lconst 0, 1) := dc9_9 (by decide +kernel)
theorem d_Na_takeMultiple_220 : decode y_Na_takeMultiple.2.1 220 = .ok (.lcmp, 1) := dc9_148 (by decide +kernel)
theorem d_Na_takeMultiple_138 : decode y_Na_takeMultiple.2.1 138 = .ok (.lload 12, 2) := dc9_22 (by decide +kernel)
theorem d_Na_takeMultiple_140 : decode y_Na_takeMultiple.2.1 140 = .ok (.aload_n 0, 1) := dc9_42 (by decide +kernel)
theorem d_Na_takeMultiple_141 : decode y_Na_takeMultiple.2.1 141 = .ok (.getfield 9, 3) := dc9_180 (by decide +kernel)
theorem d_Na_takeMultiple_144 : decode y_Na_takeMultiple.2.1 144 = .ok (.iload_n 2, 1) := dc9_28 (by decide +kernel)
theorem d_Na_takeMultiple_145 : decode y_Na_takeMultiple.2.1 145 = .ok (.iload 14, 2) := dc9_21 (by decide +kernel)
theorem d_Na_takeMultiple_147 : decode y_Na_takeMultiple.2.1 147 = .ok (.iadd, 1) := dc9_96 (by decide +kernel)
theorem d_Na_takeMultiple_148 : decode y_Na_takeMultiple.2.1 148 = .ok (.iaload, 1) := dc9_46 (by decide +kernel)
theorem d_Na_takeMultiple_149 : decode y_Na_takeMultiple.2.1 149 = .ok (.i2l, 1) := dc9_133 (by decide +kernel)
theorem d_Na_takeMultiple_150 : decode y_Na_takeMultiple.2.1 150 = .ok (.lload 8, 2) := dc9_22 (by decide +kernel)
theorem d_Na_takeMultiple_152 : decode y_Na_takeMultiple.2.1 152 = .ok (.aload_n 1, 1) := dc9_43 (by decide +kernel)
theorem d_Na_takeMultiple_153 : decode y_Na_takeMultiple.2.1 153 = .ok (.getfield 9, 3) := dc9_180 (by decide +kernel)
theorem d_Na_takeMultiple_156 : decode y_Na_takeMultiple.2.1 156 = .ok (.iload 14, 2) := dc9_21 (by decide +kernel)
theorem d_Na_takeMultiple_158 : decode y_Na_takeMultiple.2.1 158 = .ok (.iaload, 1) := dc9_46 (by decide +kernel)
theorem d_Na_takeMultiple_159 : decode y_Na_takeMultiple.2.1 159 = .ok (.i2l, 1) := dc9_133 (by decide +kernel)
theorem d_Na_takeMultiple_160 : decode y_Na_takeMultiple.2.1 160 = .ok (.lmul, 1) := dc9_105 (by decide +kernel)
theorem d_Na_takeMultiple_161 : decode y_Na_takeMultiple.2.1 161 = .ok (.lsub, 1) := dc9_101 (by decide +kernel)
theorem d_Na_takeMultiple_162 : decode y_Na_takeMultiple.2.1 162 = .ok (.ladd, 1) := dc9_97 (by decide +kernel)
theorem d_Na_takeMultiple_163 : decode y_Na_takeMultiple.2.1 163 = .ok (.lstore 12, 2) := dc9_55 (by decide +kernel)
theorem d_Na_takeMultiple_165 : decode y_Na_takeMultiple.2.1 165 = .ok (.aload_n 0, 1) := dc9_42 (by decide +kernel)
theorem d_Na_takeMultiple_166 : decode y_Na_takeMultiple.2.1 166 = .ok (.getfield 9, 3) := dc9_180 (by decide +kernel)
theorem d_Na_takeMultiple_169 : decode y_Na_takeMultiple.2.1 169 = .ok (.iload_n 2, 1) := dc9_28 (by decide +kernel)
theorem d_Na_takeMultiple_170 : decode y_Na_takeMultiple.2.1 170 = .ok (.iload 14, 2) := dc9_21 (by decide +kernel)
theorem d_Na_takeMultiple_172 : decode y_Na_takeMultiple.2.1 172 = .ok (.iadd, 1) := dc9_96 (by decide +kernel)
theorem d_Na_takeMultiple_173 : decode y_Na_takeMultiple.2.1 173 = .ok (.lload 12, 2) := dc9_22 (by decide +kernel)
theorem d_Na_takeMultiple_175 : decode y_Na_takeMultiple.2.1 175 = .ok (.ldc2_w 29, 3) := dc9_20 (by decide +kernel)
theorem d_Na_takeMultiple_178 : decode y_Na_takeMultiple.2.1 178 = .ok (.land, 1) := dc9_127 (by decide +kernel)
theorem d_Na_takeMultiple_179 : decode y_Na_takeMultiple.2.1 179 = .ok (.l2i, 1) := dc9_136 (by decide +kernel)
theorem d_Na_takeMultiple_180 : decode y_Na_takeMultiple.2.1 180 = .ok (.iastore, 1) := dc9_79 (by decide +kernel)
theorem d_Na_takeMultiple_181 : decode y_Na_takeMultiple.2.1 181 = .ok (.lload 12, 2) := dc9_22 (by decide +kernel)
theorem d_Na_takeMultiple_183 : decode y_Na_takeMultiple.2.1 183 = .ok (.bipush 30, 2) := dc9_16 (by decide +kernel)
theorem d_Na_takeMultiple_185 : decode y_Na_takeMultiple.2.1 185 = .ok (.lshr, 1) := dc9_123 (by decide +kernel)
theorem d_Na_takeMultiple_186 : decode y_Na_takeMultiple.2.1 186 = .ok (.lstore 12, 2) := dc9_55 (by decide +kernel)
theorem d_Na_takeMultiple_188 : decode y_Na_takeMultiple.2.1 188 = .ok (.iinc 14 1, 3) := by decide +kernel
theorem d_Na_takeMultiple_191 : decode y_Na_takeMultiple.2.1 191 = .ok (.goto (-59), 3) := dc9_167 (by decide +kernel)
theorem d_Na_takeMultiple_221 : decode y_Na_takeMultiple.2.1 221 = .ok (.ifCond .lt 7, 3) := dc9_155 (by decide +kernel)
theorem d_Na_takeMultiple_228 : decode y_Na_takeMultiple.2.1 228 = .ok (.lconst 0, 1) := dc9_9 (by decide +kernel)
theorem d_Na_takeMultiple_229 : decode y_Na_takeMultiple.2.1 229 = .ok (.lstore 12, 2) := dc9_55 (by decide +kernel)
theorem d_Na_takeMultiple_231 : decode y_Na_takeMultiple.2.1 231 = .ok (.iconst 0, 1) := dc9_3 (by decide +kernel)
theorem d_Na_takeMultiple_232 : decode y_Na_takeMultiple.2.1 232 = .ok (.istore 14, 2) := dc9_54 (by decide +kernel)
theorem d_Na_takeMultiple_224 : decode y_Na_takeMultiple.2.1 224 = .ok (.lload 8, 2) := dc9_22 (by decide +kernel)
theorem d_Na_takeMultiple_226 : decode y_Na_takeMultiple.2.1 226 = .ok (.l2i, 1) := dc9_136 (by decide +kernel)
theorem d_Na_takeMultiple_227 : decode y_Na_takeMultiple.2.1 227 = .ok (.ireturn, 1) := dc9_172 (by decide +kernel)
theorem d_Na_takeMultiple_234 : decode y_Na_takeMultiple.2.1 234 = .ok (.iload 14, 2) := dc9_21 (by decide +kernel)
theorem d_Na_takeMultiple_236 : decode y_Na_takeMultiple.2.1 236 = .ok (.iload_n 3, 1) := dc9_29 (by decide +kernel)
theorem d_Na_takeMultiple_237 : decode y_Na_takeMultiple.2.1 237 = .ok (.if_icmp .ge 55, 3) := dc9_162 (by decide +kernel)
theorem d_Na_takeMultiple_292 : decode y_Na_takeMultiple.2.1 292 = .ok (.lload 8, 2) := dc9_22 (by decide +kernel)
theorem d_Na_takeMultiple_294 : decode y_Na_takeMultiple.2.1 294 = .ok (.l2i, 1) := dc9_136 (by decide +kernel)
theorem d_Na_takeMultiple_295 : decode y_Na_takeMultiple.2.1 295 = .ok (.iconst 1, 1) := dc9_4 (by decide +kernel)
theorem d_Na_takeMultiple_296 : decode y_Na_takeMultiple.2.1 296 = .ok (.isub, 1) := dc9_100 (by decide +kernel)
theorem d_Na_takeMultiple_297 : decode y_Na_takeMultiple.2.1 297 = .ok (.ireturn, 1) := dc9_172 (by decide +kernel)
theorem d_Na_takeMultiple_240 : decode y_Na_takeMultiple.2.1 240 = .ok (.lload 12, 2) := dc9_22 (by decide +kernel)
theorem d_Na_takeMultiple_242 : decode y_Na_takeMultiple.2.1 242 = .ok (.aload_n 0, 1) := dc9_42 (by decide +kernel)
theorem d_Na_takeMultiple_243 : decode y_Na_takeMultiple.2.1 243 = .ok (.getfield 9, 3) := dc9_180 (by decide +kernel)
theorem d_Na_takeMultiple_246 : decode y_Na_takeMultiple.2.1 246 = .ok (.iload_n 2, 1) := dc9_28 (by decide +kernel)
theorem d_Na_takeMultiple_247 : decode y_Na_takeMultiple.2.1 247 = .ok (.iload 14, 2) := dc9_21 (by decide +kernel)
theorem d_Na_takeMultiple_249 : decode y_Na_takeMultiple.2.1 249 = .ok (.iadd, 1) := dc9_96 (by decide +kernel)
theorem d_Na_takeMultiple_250 : decode y_Na_takeMultiple.2.1 250 = .ok (.iaload, 1) := dc9_46 (by decide +kernel)
theorem d_Na_takeMultiple_251 : decode y_Na_takeMultiple.2.1 251 = .ok (.aload_n 1, 1) := dc9_43 (by decide +kernel)
theorem d_Na_takeMultiple_252 : decode y_Na_takeMultiple.2.1 252 = .ok (.getfield 9, 3) := dc9_180 (by decide +kernel)
theorem d_Na_takeMultiple_255 : decode y_Na_takeMultiple.2.1 255 = .ok (.iload 14, 2) := dc9_21 (by decide +kernel)
theorem d_Na_takeMultiple_257 : decode y_Na_takeMultiple.2.1 257 = .ok (.iaload, 1) := dc9_46 (by decide +kernel)
theorem d_Na_takeMultiple_258 : decode y_Na_takeMultiple.2.1 258 = .ok (.iadd, 1) := dc9_96 (by decide +kernel)
theorem d_Na_takeMultiple_259 : decode y_Na_takeMultiple.2.1 259 = .ok (.i2l, 1) := dc9_133 (by decide +kernel)
theorem d_Na_takeMultiple_260 : decode y_Na_takeMultiple.2.1 260 = .ok (.ladd, 1) := dc9_97 (by decide +kernel)
theorem d_Na_takeMultiple_261 : decode y_Na_takeMultiple.2.1 261 = .ok (.lstore 12, 2) := dc9_55 (by decide +kernel)
theorem d_Na_takeMultiple_263 : decode y_Na_takeMultiple.2.1 263 = .ok (.aload_n 0, 1) := dc9_42 (by decide +kernel)
theorem d_Na_takeMultiple_264 : decode y_Na_takeMultiple.2.1 264 = .ok (.getfield 9, 3) := dc9_180 (by decide +kernel)
theorem d_Na_takeMultiple_267 : decode y_Na_takeMultiple.2.1 267 = .ok (.iload_n 2, 1) := dc9_28 (by decide +kernel)
theorem d_Na_takeMultiple_268 : decode y_Na_takeMultiple.2.1 268 = .ok (.iload 14, 2) := dc9_21 (by decide +kernel)
theorem d_Na_takeMultiple_270 : decode y_Na_takeMultiple.2.1 270 = .ok (.iadd, 1) := dc9_96 (by decide +kernel)
theorem d_Na_takeMultiple_271 : decode y_Na_takeMultiple.2.1 271 = .ok (.lload 12, 2) := dc9_22 (by decide +kernel)
theorem d_Na_takeMultiple_273 : decode y_Na_takeMultiple.2.1 273 = .ok (.ldc2_w 29, 3) := dc9_20 (by decide +kernel)
theorem d_Na_takeMultiple_276 : decode y_Na_takeMultiple.2.1 276 = .ok (.land, 1) := dc9_127 (by decide +kernel)
theorem d_Na_takeMultiple_277 : decode y_Na_takeMultiple.2.1 277 = .ok (.l2i, 1) := dc9_136 (by decide +kernel)
theorem d_Na_takeMultiple_278 : decode y_Na_takeMultiple.2.1 278 = .ok (.iastore, 1) := dc9_79 (by decide +kernel)
theorem d_Na_takeMultiple_279 : decode y_Na_takeMultiple.2.1 279 = .ok (.lload 12, 2) := dc9_22 (by decide +kernel)
theorem d_Na_takeMultiple_281 : decode y_Na_takeMultiple.2.1 281 = .ok (.bipush 30, 2) := dc9_16 (by decide +kernel)
theorem d_Na_takeMultiple_283 : decode y_Na_takeMultiple.2.1 283 = .ok (.lshr, 1) := dc9_123 (by decide +kernel)
theorem d_Na_takeMultiple_284 : decode y_Na_takeMultiple.2.1 284 = .ok (.lstore 12, 2) := dc9_55 (by decide +kernel)
theorem d_Na_takeMultiple_286 : decode y_Na_takeMultiple.2.1 286 = .ok (.iinc 14 1, 3) := by decide +kernel
theorem d_Na_takeMultiple_289 : decode y_Na_takeMultiple.2.1 289 = .ok (.goto (-55), 3) := dc9_167 (by decide +kernel)
def h_Na_takeMultiple_68 (G : mG) (d : Nat) (a0 : Nat) (a1 : Nat) (l2 : Int) (l3 : Int) (j4 : Int) (j8 : Int) (j10 : Int) (l12 : Int) (M : mM) (Q : Int → mM → Prop) : Prop := mWm G y_Na_takeMultiple (d + 1) 68 [vr a0, vr a1, vi l2, vi l3, vl j4, vd, vd, vd, vl j8, vd, vl j10, vd, vi l12, vd, vd] [] M (fun r9 M9 => ∃ x9, r9 = some (vi x9) ∧ Q x9 M9)
def h_Na_takeMultiple_132 (G : mG) (d : Nat) (a0 : Nat) (a1 : Nat) (l2 : Int) (l3 : Int) (j8 : Int) (j12 : Int) (l14 : Int) (M : mM) (Q : Int → mM → Prop) : Prop := mWm G y_Na_takeMultiple (d + 1) 132 [vr a0, vr a1, vi l2, vi l3, vd, vd, vd, vd, vl j8, vd, vd, vd, vl j12, vd, vi l14] [] M (fun r9 M9 => ∃ x9, r9 = some (vi x9) ∧ Q x9 M9)
def h_Na_takeMultiple_234 (G : mG) (d : Nat) (a0 : Nat) (a1 : Nat) (l2 : Int) (l3 : Int) (j8 : Int) (j12 : Int) (l14 : Int) (M : mM) (Q : Int → mM → Prop) : Prop := mWm G y_Na_takeMultiple (d + 1) 234 [vr a0, vr a1, vi l2, vi l3, vd, vd, vd, vd, vl j8, vd, vd, vd, vl j12, vd, vi l14] [] M (fun r9 M9 => ∃ x9, r9 = some (vi x9) ∧ Q x9 M9)
theorem k_Na_takeMultiple {G : mG} {d : Nat} {a0 : Nat} {a1 : Nat} {l2 : Int} {M : mM} {Q : Int → mM → Prop} (hO : mOk M) (hi_l2 : i32 l2)
    (h : mK M a1 = 10 ∧ mK M (mR M a1 0) = 30 ∧ ((0 : Int) ≤ (mI M a1 1) - 1 ∧ (mI M a1 1) - 1 < (mN M (mR M a1 0) : Int)) ∧ mK M a0 = 10 ∧ mK M (mR M a0 0) = 30 ∧ ((0 : Int) ≤ l2 + (mI M a1 1) ∧ l2 + (mI M a1 1) < (mN M (mR M a0 0) : Int)) ∧ ((0 : Int) ≤ (l2 + (mI M a1 1)) - 1 ∧ (l2 + (mI M a1 1)) - 1 < (mN M (mR M a0 0) : Int)) ∧ i64 ((shlL (mI M (mR M a0 0) (Int.toNat (l2 + (mI M a1 1)))) 30) + (mI M (mR M a0 0) (Int.toNat ((l2 + (mI M a1 1)) - 1)))) ∧ (mI M (mR M a1 0) (Int.toNat ((mI M a1 1) - 1))) ≠ 0 ∧ i64 (Int.tdiv ((shlL (mI M (mR M a0 0) (Int.toNat (l2 + (mI M a1 1)))) 30) + (mI M (mR M a0 0) (Int.toNat ((l2 + (mI M a1 1)) - 1)))) (mI M (mR M a1 0) (Int.toNat ((mI M a1 1) - 1)))) ∧ h_Na_takeMultiple_68 G d a0 a1 l2 (mI M a1 1) (mI M (mR M a1 0) (Int.toNat ((mI M a1 1) - 1))) (if 1073741823 < Int.tdiv ((shlL (mI M (mR M a0 0) (Int.toNat (l2 + (mI M a1 1)))) 30) + (mI M (mR M a0 0) (Int.toNat ((l2 + (mI M a1 1)) - 1)))) (mI M (mR M a1 0) (Int.toNat ((mI M a1 1) - 1))) then 1073741823 else Int.tdiv ((shlL (mI M (mR M a0 0) (Int.toNat (l2 + (mI M a1 1)))) 30) + (mI M (mR M a0 0) (Int.toNat ((l2 + (mI M a1 1)) - 1)))) (mI M (mR M a1 0) (Int.toNat ((mI M a1 1) - 1)))) (((shlL (mI M (mR M a0 0) (Int.toNat (l2 + (mI M a1 1)))) 30) + (mI M (mR M a0 0) (Int.toNat ((l2 + (mI M a1 1)) - 1)))) - ((if 1073741823 < Int.tdiv ((shlL (mI M (mR M a0 0) (Int.toNat (l2 + (mI M a1 1)))) 30) + (mI M (mR M a0 0) (Int.toNat ((l2 + (mI M a1 1)) - 1)))) (mI M (mR M a1 0) (Int.toNat ((mI M a1 1) - 1))) then 1073741823 else Int.tdiv ((shlL (mI M (mR M a0 0) (Int.toNat (l2 + (mI M a1 1)))) 30) + (mI M (mR M a0 0) (Int.toNat ((l2 + (mI M a1 1)) - 1)))) (mI M (mR M a1 0) (Int.toNat ((mI M a1 1) - 1)))) * (mI M (mR M a1 0) (Int.toNat ((mI M a1 1) - 1))))) 0 M Q) :
    Ci G y_Na_takeMultiple (d + 1) [vr a0, vr a1, vi l2] M Q := by
  refine wm_open (y := y_Na_takeMultiple) rfl (Nat.le_of_ble_eq_true rfl) (L := [vr a0, vr a1, vi l2, vd, vd, vd, vd, vd, vd, vd, vd, vd, vd, vd, vd]) rfl ?_
  obtain ⟨h1, h⟩ := h
  obtain ⟨h2, h⟩ := h
  obtain ⟨h3, h⟩ := h
  obtain ⟨h4, h⟩ := h
  obtain ⟨h5, h⟩ := h
  obtain ⟨h6, h⟩ := h
  obtain ⟨h7, h⟩ := h
  obtain ⟨h8, h⟩ := h
  obtain ⟨h9, h⟩ := h
  obtain ⟨h10, h⟩ := h
  refine wm_aload_n d_Na_takeMultiple_0 rfl rfl ?_
  refine gf_Na_13 rfl d_Na_takeMultiple_1 h1 ?_
  refine wm_istore_n d_Na_takeMultiple_4 rfl (by decide) (L' := [vr a0, vr a1, vi l2, vi (mI M a1 1), vd, vd, vd, vd, vd, vd, vd, vd, vd, vd, vd]) rfl ?_
  refine wm_aload_n d_Na_takeMultiple_5 rfl rfl ?_
  refine gf_Na_9 rfl d_Na_takeMultiple_6 h1 ?_
  refine wm_iload_n d_Na_takeMultiple_9 rfl rfl ?_
  refine wm_iconst d_Na_takeMultiple_10 ?_
  refine wm_isub d_Na_takeMultiple_11 ?_
  refine wm_iald d_Na_takeMultiple_12 h2 h3 ?_
  refine wm_i2l d_Na_takeMultiple_13 (hO _ _).1 ?_
  refine wm_lstore d_Na_takeMultiple_14 (by decide) (L' := [vr a0, vr a1, vi l2, vi (mI M a1 1), vl (mI M (mR M a1 0) (Int.toNat ((mI M a1 1) - 1))), vd, vd, vd, vd, vd, vd, vd, vd, vd, vd]) rfl ?_
  refine wm_aload_n d_Na_takeMultiple_16 rfl rfl ?_
  refine gf_Na_9 rfl d_Na_takeMultiple_17 h4 ?_
  refine wm_iload_n d_Na_takeMultiple_20 rfl rfl ?_
  refine wm_iload_n d_Na_takeMultiple_21 rfl rfl ?_
  refine wm_iadd d_Na_takeMultiple_22 ?_
  refine wm_iald d_Na_takeMultiple_23 h5 h6 ?_
  refine wm_i2l d_Na_takeMultiple_24 (hO _ _).1 ?_
  refine wm_bipush d_Na_takeMultiple_25 (by decide) ?_
  refine wm_lshl d_Na_takeMultiple_27 ?_
  refine wm_aload_n d_Na_takeMultiple_28 rfl rfl ?_
  refine gf_Na_9 rfl d_Na_takeMultiple_29 h4 ?_
  refine wm_iload_n d_Na_takeMultiple_32 rfl rfl ?_
  refine wm_iload_n d_Na_takeMultiple_33 rfl rfl ?_
  refine wm_iadd d_Na_takeMultiple_34 ?_
  refine wm_iconst d_Na_takeMultiple_35 ?_
  refine wm_isub d_Na_takeMultiple_36 ?_
  refine wm_iald d_Na_takeMultiple_37 h5 h7 ?_
  refine wm_i2l d_Na_takeMultiple_38 (hO _ _).1 ?_
  refine wm_ladd d_Na_takeMultiple_39 ?_
  refine wm_lstore d_Na_takeMultiple_40 (by decide) (L' := [vr a0, vr a1, vi l2, vi (mI M a1 1), vl (mI M (mR M a1 0) (Int.toNat ((mI M a1 1) - 1))), vd, vl ((shlL (mI M (mR M a0 0) (Int.toNat (l2 + (mI M a1 1)))) 30) + (mI M (mR M a0 0) (Int.toNat ((l2 + (mI M a1 1)) - 1)))), vd, vd, vd, vd, vd, vd, vd, vd]) rfl ?_
  refine wm_lload d_Na_takeMultiple_42 rfl ?_
  refine wm_lload d_Na_takeMultiple_44 rfl ?_
  refine wm_ldiv d_Na_takeMultiple_46 h8 (i64_of32 (hO _ _).1) h9 ?_
  refine wm_ldc2 (x := 1073741823) d_Na_takeMultiple_47 k5_202 (by decide) ?_
  refine wm_mminl k7_89 (Nat.le_of_ble_eq_true rfl) h10 ⟨by decide, by decide⟩ d_Na_takeMultiple_50 ?_
  refine wm_lstore d_Na_takeMultiple_53 (by decide) (L' := [vr a0, vr a1, vi l2, vi (mI M a1 1), vl (mI M (mR M a1 0) (Int.toNat ((mI M a1 1) - 1))), vd, vl ((shlL (mI M (mR M a0 0) (Int.toNat (l2 + (mI M a1 1)))) 30) + (mI M (mR M a0 0) (Int.toNat ((l2 + (mI M a1 1)) - 1)))), vd, vl (if 1073741823 < Int.tdiv ((shlL (mI M (mR M a0 0) (Int.toNat (l2 + (mI M a1 1)))) 30) + (mI M (mR M a0 0) (Int.toNat ((l2 + (mI M a1 1)) - 1)))) (mI M (mR M a1 0) (Int.toNat ((mI M a1 1) - 1))) then 1073741823 else Int.tdiv ((shlL (mI M (mR M a0 0) (Int.toNat (l2 + (mI M a1 1)))) 30) + (mI M (mR M a0 0) (Int.toNat ((l2 + (mI M a1 1)) - 1)))) (mI M (mR M a1 0) (Int.toNat ((mI M a1 1) - 1)))), vd, vd, vd, vd, vd, vd]) rfl ?_
  refine wm_lload d_Na_takeMultiple_55 rfl ?_
  refine wm_lload d_Na_takeMultiple_57 rfl ?_
  refine wm_lload d_Na_takeMultiple_59 rfl ?_
  refine wm_lmul d_Na_takeMultiple_61 ?_
  refine wm_lsub d_Na_takeMultiple_62 ?_
  refine wm_lstore d_Na_takeMultiple_63 (by decide) (L' := [vr a0, vr a1, vi l2, vi (mI M a1 1), vl (mI M (mR M a1 0) (Int.toNat ((mI M a1 1) - 1))), vd, vl ((shlL (mI M (mR M a0 0) (Int.toNat (l2 + (mI M a1 1)))) 30) + (mI M (mR M a0 0) (Int.toNat ((l2 + (mI M a1 1)) - 1)))), vd, vl (if 1073741823 < Int.tdiv ((shlL (mI M (mR M a0 0) (Int.toNat (l2 + (mI M a1 1)))) 30) + (mI M (mR M a0 0) (Int.toNat ((l2 + (mI M a1 1)) - 1)))) (mI M (mR M a1 0) (Int.toNat ((mI M a1 1) - 1))) then 1073741823 else Int.tdiv ((shlL (mI M (mR M a0 0) (Int.toNat (l2 + (mI M a1 1)))) 30) + (mI M (mR M a0 0) (Int.toNat ((l2 + (mI M a1 1)) - 1)))) (mI M (mR M a1 0) (Int.toNat ((mI M a1 1) - 1)))), vd, vl (((shlL (mI M (mR M a0 0) (Int.toNat (l2 + (mI M a1 1)))) 30) + (mI M (mR M a0 0) (Int.toNat ((l2 + (mI M a1 1)) - 1)))) - ((if 1073741823 < Int.tdiv ((shlL (mI M (mR M a0 0) (Int.toNat (l2 + (mI M a1 1)))) 30) + (mI M (mR M a0 0) (Int.toNat ((l2 + (mI M a1 1)) - 1)))) (mI M (mR M a1 0) (Int.toNat ((mI M a1 1) - 1))) then 1073741823 else Int.tdiv ((shlL (mI M (mR M a0 0) (Int.toNat (l2 + (mI M a1 1)))) 30) + (mI M (mR M a0 0) (Int.toNat ((l2 + (mI M a1 1)) - 1)))) (mI M (mR M a1 0) (Int.toNat ((mI M a1 1) - 1)))) * (mI M (mR M a1 0) (Int.toNat ((mI M a1 1) - 1))))), vd, vd, vd, vd]) rfl ?_
  refine wm_iconst d_Na_takeMultiple_65 ?_
  refine wm_istore d_Na_takeMultiple_66 (by decide) (L' := [vr a0, vr a1, vi l2, vi (mI M a1 1), vl (mI M (mR M a1 0) (Int.toNat ((mI M a1 1) - 1))), vd, vl ((shlL (mI M (mR M a0 0) (Int.toNat (l2 + (mI M a1 1)))) 30) + (mI M (mR M a0 0) (Int.toNat ((l2 + (mI M a1 1)) - 1)))), vd, vl (if 1073741823 < Int.tdiv ((shlL (mI M (mR M a0 0) (Int.toNat (l2 + (mI M a1 1)))) 30) + (mI M (mR M a0 0) (Int.toNat ((l2 + (mI M a1 1)) - 1)))) (mI M (mR M a1 0) (Int.toNat ((mI M a1 1) - 1))) then 1073741823 else Int.tdiv ((shlL (mI M (mR M a0 0) (Int.toNat (l2 + (mI M a1 1)))) 30) + (mI M (mR M a0 0) (Int.toNat ((l2 + (mI M a1 1)) - 1)))) (mI M (mR M a1 0) (Int.toNat ((mI M a1 1) - 1)))), vd, vl (((shlL (mI M (mR M a0 0) (Int.toNat (l2 + (mI M a1 1)))) 30) + (mI M (mR M a0 0) (Int.toNat ((l2 + (mI M a1 1)) - 1)))) - ((if 1073741823 < Int.tdiv ((shlL (mI M (mR M a0 0) (Int.toNat (l2 + (mI M a1 1)))) 30) + (mI M (mR M a0 0) (Int.toNat ((l2 + (mI M a1 1)) - 1)))) (mI M (mR M a1 0) (Int.toNat ((mI M a1 1) - 1))) then 1073741823 else Int.tdiv ((shlL (mI M (mR M a0 0) (Int.toNat (l2 + (mI M a1 1)))) 30) + (mI M (mR M a0 0) (Int.toNat ((l2 + (mI M a1 1)) - 1)))) (mI M (mR M a1 0) (Int.toNat ((mI M a1 1) - 1)))) * (mI M (mR M a1 0) (Int.toNat ((mI M a1 1) - 1))))), vd, vi 0, vd, vd]) rfl ?_
  refine wm_less (L' := [vr a0, vr a1, vi l2, vi (mI M a1 1), vl (mI M (mR M a1 0) (Int.toNat ((mI M a1 1) - 1))), vd, vd, vd, vl (if 1073741823 < Int.tdiv ((shlL (mI M (mR M a0 0) (Int.toNat (l2 + (mI M a1 1)))) 30) + (mI M (mR M a0 0) (Int.toNat ((l2 + (mI M a1 1)) - 1)))) (mI M (mR M a1 0) (Int.toNat ((mI M a1 1) - 1))) then 1073741823 else Int.tdiv ((shlL (mI M (mR M a0 0) (Int.toNat (l2 + (mI M a1 1)))) 30) + (mI M (mR M a0 0) (Int.toNat ((l2 + (mI M a1 1)) - 1)))) (mI M (mR M a1 0) (Int.toNat ((mI M a1 1) - 1)))), vd, vl (((shlL (mI M (mR M a0 0) (Int.toNat (l2 + (mI M a1 1)))) 30) + (mI M (mR M a0 0) (Int.toNat ((l2 + (mI M a1 1)) - 1)))) - ((if 1073741823 < Int.tdiv ((shlL (mI M (mR M a0 0) (Int.toNat (l2 + (mI M a1 1)))) 30) + (mI M (mR M a0 0) (Int.toNat ((l2 + (mI M a1 1)) - 1)))) (mI M (mR M a1 0) (Int.toNat ((mI M a1 1) - 1))) then 1073741823 else Int.tdiv ((shlL (mI M (mR M a0 0) (Int.toNat (l2 + (mI M a1 1)))) 30) + (mI M (mR M a0 0) (Int.toNat ((l2 + (mI M a1 1)) - 1)))) (mI M (mR M a1 0) (Int.toNat ((mI M a1 1) - 1)))) * (mI M (mR M a1 0) (Int.toNat ((mI M a1 1) - 1))))), vd, vi 0, vd, vd]) ⟨Or.inr rfl, Or.inr rfl, Or.inr rfl, Or.inr rfl, Or.inr rfl, Or.inl rfl, Or.inl rfl, Or.inl rfl, Or.inr rfl, Or.inl rfl, Or.inr rfl, Or.inl rfl, Or.inr rfl, Or.inl rfl, Or.inl rfl, trivial⟩ ?_
  exact h
theorem k_Na_takeMultiple_68 {G : mG} {d : Nat} {a0 : Nat} {a1 : Nat} {l2 : Int} {l3 : Int} {j4 : Int} {j8 : Int} {j10 : Int} {l12 : Int} {M : mM} {Q : Int → mM → Prop} (hO : mOk M) (hi_l2 : i32 l2) (hi_l3 : i32 l3) (hi_j4 : i64 j4) (hi_j8 : i64 j8) (hi_j10 : i64 j10) (hi_l12 : i32 l12)
    (h : (¬ (2 ≤ l12) → (mK M a1 = 10 ∧ mK M (mR M a1 0) = 30 ∧ ((0 : Int) ≤ l3 - 2 ∧ l3 - 2 < (mN M (mR M a1 0) : Int)) ∧ mK M a0 = 10 ∧ mK M (mR M a0 0) = 30 ∧ ((0 : Int) ≤ (l2 + l3) - 2 ∧ (l2 + l3) - 2 < (mN M (mR M a0 0) : Int)) ∧ i64 (j8 * (mI M (mR M a1 0) (Int.toNat (l3 - 2)))) ∧ i64 ((shlL j10 30) + (mI M (mR M a0 0) (Int.toNat ((l2 + l3) - 2)))))) ∧ (((2 ≤ l12) ∨ (cmpL (j8 * (mI M (mR M a1 0) (Int.toNat (l3 - 2)))) ((shlL j10 30) + (mI M (mR M a0 0) (Int.toNat ((l2 + l3) - 2)))) ≤ 0)) → (h_Na_takeMultiple_132 G d a0 a1 l2 l3 j8 0 0 M Q)) ∧ (¬ ((2 ≤ l12) ∨ (cmpL (j8 * (mI M (mR M a1 0) (Int.toNat (l3 - 2)))) ((shlL j10 30) + (mI M (mR M a0 0) (Int.toNat ((l2 + l3) - 2)))) ≤ 0)) → (h_Na_takeMultiple_68 G d a0 a1 l2 l3 j4 (j8 - 1) (j10 + j4) (l12 + 1) M Q))) :
    h_Na_takeMultiple_68 G d a0 a1 l2 l3 j4 j8 j10 l12 M Q := by
  unfold h_Na_takeMultiple_68
  refine wm_iload d_Na_takeMultiple_68 rfl ?_
  refine wm_iconst d_Na_takeMultiple_70 ?_
  obtain ⟨s21, h⟩ := h
  have hE0 : ((2 ≤ l12) ∨ (cmpL (j8 * (mI M (mR M a1 0) (Int.toNat (l3 - 2)))) ((shlL j10 30) + (mI M (mR M a0 0) (Int.toNat ((l2 + l3) - 2)))) ≤ 0)) → mWm G y_Na_takeMultiple (d + 1) 126 [vr a0, vr a1, vi l2, vi l3, vl j4, vd, vd, vd, vl j8, vd, vl j10, vd, vi l12, vd, vd] [] M (fun r9 M9 => ∃ x9, r9 = some (vi x9) ∧ Q x9 M9) := by
    intro q22
    have h := h.1 q22
    refine wm_lconst (x := 0) d_Na_takeMultiple_126 rfl ?_
    refine wm_lstore d_Na_takeMultiple_127 (by decide) (L' := [vr a0, vr a1, vi l2, vi l3, vl j4, vd, vd, vd, vl j8, vd, vl j10, vd, vl 0, vd, vd]) rfl ?_
    refine wm_iconst d_Na_takeMultiple_129 ?_
    refine wm_istore d_Na_takeMultiple_130 (by decide) (L' := [vr a0, vr a1, vi l2, vi l3, vl j4, vd, vd, vd, vl j8, vd, vl j10, vd, vl 0, vd, vi 0]) rfl ?_
    refine wm_less (L' := [vr a0, vr a1, vi l2, vi l3, vd, vd, vd, vd, vl j8, vd, vd, vd, vl 0, vd, vi 0]) ⟨Or.inr rfl, Or.inr rfl, Or.inr rfl, Or.inr rfl, Or.inl rfl, Or.inl rfl, Or.inl rfl, Or.inl rfl, Or.inr rfl, Or.inl rfl, Or.inl rfl, Or.inl rfl, Or.inr rfl, Or.inl rfl, Or.inr rfl, trivial⟩ ?_
    exact h
  have hE1 : ¬ ((2 ≤ l12) ∨ (cmpL (j8 * (mI M (mR M a1 0) (Int.toNat (l3 - 2)))) ((shlL j10 30) + (mI M (mR M a0 0) (Int.toNat ((l2 + l3) - 2)))) ≤ 0)) → mWm G y_Na_takeMultiple (d + 1) 107 [vr a0, vr a1, vi l2, vi l3, vl j4, vd, vd, vd, vl j8, vd, vl j10, vd, vi l12, vd, vd] [] M (fun r9 M9 => ∃ x9, r9 = some (vi x9) ∧ Q x9 M9) := by
    intro q23
    have h := h.2 q23
    refine wm_lload d_Na_takeMultiple_107 rfl ?_
    refine wm_lconst (x := 1) d_Na_takeMultiple_109 rfl ?_
    refine wm_lsub d_Na_takeMultiple_110 ?_
    refine wm_lstore d_Na_takeMultiple_111 (by decide) (L' := [vr a0, vr a1, vi l2, vi l3, vl j4, vd, vd, vd, vl (j8 - 1), vd, vl j10, vd, vi l12, vd, vd]) rfl ?_
    refine wm_lload d_Na_takeMultiple_113 rfl ?_
    refine wm_lload d_Na_takeMultiple_115 rfl ?_
    refine wm_ladd d_Na_takeMultiple_117 ?_
    refine wm_lstore d_Na_takeMultiple_118 (by decide) (L' := [vr a0, vr a1, vi l2, vi l3, vl j4, vd, vd, vd, vl (j8 - 1), vd, vl (j10 + j4), vd, vi l12, vd, vd]) rfl ?_
    refine wm_iinc d_Na_takeMultiple_120 (by decide) rfl (L' := [vr a0, vr a1, vi l2, vi l3, vl j4, vd, vd, vd, vl (j8 - 1), vd, vl (j10 + j4), vd, vi (l12 + 1), vd, vd]) rfl ?_
    refine wm_goto (tgt := 68) d_Na_takeMultiple_123 rfl ?_
    exact h
  clear h
  have s24 := s21
  refine wm_icmp_ge (tgt := 126) d_Na_takeMultiple_71 rfl hi_l12 ⟨by decide, by decide⟩ (fun c20 => ?_) (fun c20 => ?_)
  · exact hE0 (Or.inl c20)
  · have s24 := s24 c20
    obtain ⟨h11, h12, h13, h14, h15, h16, h17, h18⟩ := s24
    refine wm_lload d_Na_takeMultiple_74 rfl ?_
    refine wm_aload_n d_Na_takeMultiple_76 rfl rfl ?_
    refine gf_Na_9 rfl d_Na_takeMultiple_77 h11 ?_
    refine wm_iload_n d_Na_takeMultiple_80 rfl rfl ?_
    refine wm_iconst d_Na_takeMultiple_81 ?_
    refine wm_isub d_Na_takeMultiple_82 ?_
    refine wm_iald d_Na_takeMultiple_83 h12 h13 ?_
    refine wm_i2l d_Na_takeMultiple_84 (hO _ _).1 ?_
    refine wm_lmul d_Na_takeMultiple_85 ?_
    refine wm_lload d_Na_takeMultiple_86 rfl ?_
    refine wm_bipush d_Na_takeMultiple_88 (by decide) ?_
    refine wm_lshl d_Na_takeMultiple_90 ?_
    refine wm_aload_n d_Na_takeMultiple_91 rfl rfl ?_
    refine gf_Na_9 rfl d_Na_takeMultiple_92 h14 ?_
    refine wm_iload_n d_Na_takeMultiple_95 rfl rfl ?_
    refine wm_iload_n d_Na_takeMultiple_96 rfl rfl ?_
    refine wm_iadd d_Na_takeMultiple_97 ?_
    refine wm_iconst d_Na_takeMultiple_98 ?_
    refine wm_isub d_Na_takeMultiple_99 ?_
    refine wm_iald d_Na_takeMultiple_100 h15 h16 ?_
    refine wm_i2l d_Na_takeMultiple_101 (hO _ _).1 ?_
    refine wm_ladd d_Na_takeMultiple_102 ?_
    refine wm_lcmp d_Na_takeMultiple_103 h17 h18 ?_
    refine wm_if_le (tgt := 126) d_Na_takeMultiple_104 rfl (m_cmp32 _ _) (fun c19 => ?_) (fun c19 => ?_)
    · exact hE0 (Or.inr c19)
    · exact hE1 (fun z25 => Or.elim z25 c20 c19)
theorem k_Na_takeMultiple_132 {G : mG} {d : Nat} {a0 : Nat} {a1 : Nat} {l2 : Int} {l3 : Int} {j8 : Int} {j12 : Int} {l14 : Int} {M : mM} {Q : Int → mM → Prop} (hO : mOk M) (hi_l2 : i32 l2) (hi_l3 : i32 l3) (hi_j8 : i64 j8) (hi_j12 : i64 j12) (hi_l14 : i32 l14)
    (h : ((l3 ≤ l14) → (mK M a0 = 10 ∧ mK M (mR M a0 0) = 30 ∧ ((0 : Int) ≤ l2 + l3 ∧ l2 + l3 < (mN M (mR M a0 0) : Int)) ∧ ((0 : Int) ≤ l2 + l3 ∧ l2 + l3 < (mN M (mR M a0 0) : Int)) ∧ ∀ M46, M46 = mUI M (mR M a0 0) (Int.toNat (l2 + l3)) 0 → i64 (j12 + (mI M (mR M a0 0) (Int.toNat (l2 + l3)))) ∧ ((cmpL (j12 + (mI M (mR M a0 0) (Int.toNat (l2 + l3)))) 0 < 0) → (h_Na_takeMultiple_234 G d a0 a1 l2 l3 j8 0 0 M46 Q)) ∧ (¬ (cmpL (j12 + (mI M (mR M a0 0) (Int.toNat (l2 + l3)))) 0 < 0) → (Q j8 M46)))) ∧ (¬ (l3 ≤ l14) → (mK M a0 = 10 ∧ mK M (mR M a0 0) = 30 ∧ ((0 : Int) ≤ l2 + l14 ∧ l2 + l14 < (mN M (mR M a0 0) : Int)) ∧ mK M a1 = 10 ∧ mK M (mR M a1 0) = 30 ∧ ((0 : Int) ≤ l14 ∧ l14 < (mN M (mR M a1 0) : Int)) ∧ ((0 : Int) ≤ l2 + l14 ∧ l2 + l14 < (mN M (mR M a0 0) : Int)) ∧ i32 (andL (j12 + ((mI M (mR M a0 0) (Int.toNat (l2 + l14))) - (j8 * (mI M (mR M a1 0) (Int.toNat l14))))) 1073741823) ∧ ∀ M59, M59 = mUI M (mR M a0 0) (Int.toNat (l2 + l14)) (andL (j12 + ((mI M (mR M a0 0) (Int.toNat (l2 + l14))) - (j8 * (mI M (mR M a1 0) (Int.toNat l14))))) 1073741823) → h_Na_takeMultiple_132 G d a0 a1 l2 l3 j8 (shrL (j12 + ((mI M (mR M a0 0) (Int.toNat (l2 + l14))) - (j8 * (mI M (mR M a1 0) (Int.toNat l14))))) 30) (l14 + 1) M59 Q))) :
    h_Na_takeMultiple_132 G d a0 a1 l2 l3 j8 j12 l14 M Q := by
  unfold h_Na_takeMultiple_132
  refine wm_iload d_Na_takeMultiple_132 rfl ?_
  refine wm_iload_n d_Na_takeMultiple_134 rfl rfl ?_
  refine wm_icmp_ge (tgt := 194) d_Na_takeMultiple_135 rfl hi_l14 hi_l3 (fun c41 => ?_) (fun c41 => ?_)
  · replace h := h.1 c41
    obtain ⟨h42, h⟩ := h
    obtain ⟨h43, h⟩ := h
    obtain ⟨h44, h⟩ := h
    obtain ⟨h45, h⟩ := h
    obtain ⟨M46, e47⟩ : ∃ M46, M46 = mUI M (mR M a0 0) (Int.toNat (l2 + l3)) 0 := ⟨_, rfl⟩
    replace h := h M46 e47
    obtain ⟨h48, h⟩ := h
    refine wm_lload d_Na_takeMultiple_194 rfl ?_
    refine wm_aload_n d_Na_takeMultiple_196 rfl rfl ?_
    refine gf_Na_9 rfl d_Na_takeMultiple_197 h42 ?_
    refine wm_iload_n d_Na_takeMultiple_200 rfl rfl ?_
    refine wm_iload_n d_Na_takeMultiple_201 rfl rfl ?_
    refine wm_iadd d_Na_takeMultiple_202 ?_
    refine wm_iald d_Na_takeMultiple_203 h43 h44 ?_
    refine wm_i2l d_Na_takeMultiple_204 (hO _ _).1 ?_
    refine wm_ladd d_Na_takeMultiple_205 ?_
    refine wm_lstore d_Na_takeMultiple_206 (by decide) (L' := [vr a0, vr a1, vi l2, vi l3, vd, vd, vd, vd, vl j8, vd, vd, vd, vl (j12 + (mI M (mR M a0 0) (Int.toNat (l2 + l3)))), vd, vi l14]) rfl ?_
    refine wm_aload_n d_Na_takeMultiple_208 rfl rfl ?_
    refine gf_Na_9 rfl d_Na_takeMultiple_209 h42 ?_
    refine wm_iload_n d_Na_takeMultiple_212 rfl rfl ?_
    refine wm_iload_n d_Na_takeMultiple_213 rfl rfl ?_
    refine wm_iadd d_Na_takeMultiple_214 ?_
    refine wm_iconst d_Na_takeMultiple_215 ?_
    have hOM46 : mOk M46 := by rw [e47]; exact mOk_UI hO ⟨by decide, by decide⟩
    refine wm_iastE d_Na_takeMultiple_216 h43 h45 ⟨by decide, by decide⟩ e47 ?_
    refine wm_lload d_Na_takeMultiple_217 rfl ?_
    refine wm_lconst (x := 0) d_Na_takeMultiple_219 rfl ?_
    refine wm_lcmp d_Na_takeMultiple_220 h48 ⟨by decide, by decide⟩ ?_
    refine wm_if_lt (tgt := 228) d_Na_takeMultiple_221 rfl (m_cmp32 _ _) (fun c50 => ?_) (fun c50 => ?_)
    · replace h := h.1 c50
      refine wm_lconst (x := 0) d_Na_takeMultiple_228 rfl ?_
      refine wm_lstore d_Na_takeMultiple_229 (by decide) (L' := [vr a0, vr a1, vi l2, vi l3, vd, vd, vd, vd, vl j8, vd, vd, vd, vl 0, vd, vi l14]) rfl ?_
      refine wm_iconst d_Na_takeMultiple_231 ?_
      refine wm_istore d_Na_takeMultiple_232 (by decide) (L' := [vr a0, vr a1, vi l2, vi l3, vd, vd, vd, vd, vl j8, vd, vd, vd, vl 0, vd, vi 0]) rfl ?_
      exact h
    · replace h := h.2 c50
      refine wm_lload d_Na_takeMultiple_224 rfl ?_
      refine wm_l2i d_Na_takeMultiple_226 ?_
      refine wm_ireturn d_Na_takeMultiple_227 rfl rfl ?_
      exact ⟨_, rfl, h⟩
  · replace h := h.2 c41
    obtain ⟨h51, h⟩ := h
    obtain ⟨h52, h⟩ := h
    obtain ⟨h53, h⟩ := h
    obtain ⟨h54, h⟩ := h
    obtain ⟨h55, h⟩ := h
    obtain ⟨h56, h⟩ := h
    obtain ⟨h57, h⟩ := h
    obtain ⟨h58, h⟩ := h
    obtain ⟨M59, e60⟩ : ∃ M59, M59 = mUI M (mR M a0 0) (Int.toNat (l2 + l14)) (andL (j12 + ((mI M (mR M a0 0) (Int.toNat (l2 + l14))) - (j8 * (mI M (mR M a1 0) (Int.toNat l14))))) 1073741823) := ⟨_, rfl⟩
    replace h := h M59 e60
    refine wm_lload d_Na_takeMultiple_138 rfl ?_
    refine wm_aload_n d_Na_takeMultiple_140 rfl rfl ?_
    refine gf_Na_9 rfl d_Na_takeMultiple_141 h51 ?_
    refine wm_iload_n d_Na_takeMultiple_144 rfl rfl ?_
    refine wm_iload d_Na_takeMultiple_145 rfl ?_
    refine wm_iadd d_Na_takeMultiple_147 ?_
    refine wm_iald d_Na_takeMultiple_148 h52 h53 ?_
    refine wm_i2l d_Na_takeMultiple_149 (hO _ _).1 ?_
    refine wm_lload d_Na_takeMultiple_150 rfl ?_
    refine wm_aload_n d_Na_takeMultiple_152 rfl rfl ?_
    refine gf_Na_9 rfl d_Na_takeMultiple_153 h54 ?_
    refine wm_iload d_Na_takeMultiple_156 rfl ?_
    refine wm_iald d_Na_takeMultiple_158 h55 h56 ?_
    refine wm_i2l d_Na_takeMultiple_159 (hO _ _).1 ?_
    refine wm_lmul d_Na_takeMultiple_160 ?_
    refine wm_lsub d_Na_takeMultiple_161 ?_
    refine wm_ladd d_Na_takeMultiple_162 ?_
    refine wm_lstore d_Na_takeMultiple_163 (by decide) (L' := [vr a0, vr a1, vi l2, vi l3, vd, vd, vd, vd, vl j8, vd, vd, vd, vl (j12 + ((mI M (mR M a0 0) (Int.toNat (l2 + l14))) - (j8 * (mI M (mR M a1 0) (Int.toNat l14))))), vd, vi l14]) rfl ?_
    refine wm_aload_n d_Na_takeMultiple_165 rfl rfl ?_
    refine gf_Na_9 rfl d_Na_takeMultiple_166 h51 ?_
    refine wm_iload_n d_Na_takeMultiple_169 rfl rfl ?_
    refine wm_iload d_Na_takeMultiple_170 rfl ?_
    refine wm_iadd d_Na_takeMultiple_172 ?_
    refine wm_lload d_Na_takeMultiple_173 rfl ?_
    refine wm_ldc2 (x := 1073741823) d_Na_takeMultiple_175 k5_202 (by decide) ?_
    refine wm_land d_Na_takeMultiple_178 ?_
    refine wm_l2i d_Na_takeMultiple_179 ?_
    have hOM59 : mOk M59 := by rw [e60]; exact mOk_UI hO h58
    refine wm_iastE d_Na_takeMultiple_180 h52 h57 h58 e60 ?_
    refine wm_lload d_Na_takeMultiple_181 rfl ?_
    refine wm_bipush d_Na_takeMultiple_183 (by decide) ?_
    refine wm_lshr d_Na_takeMultiple_185 ?_
    refine wm_lstore d_Na_takeMultiple_186 (by decide) (L' := [vr a0, vr a1, vi l2, vi l3, vd, vd, vd, vd, vl j8, vd, vd, vd, vl (shrL (j12 + ((mI M (mR M a0 0) (Int.toNat (l2 + l14))) - (j8 * (mI M (mR M a1 0) (Int.toNat l14))))) 30), vd, vi l14]) rfl ?_
    refine wm_iinc d_Na_takeMultiple_188 (by decide) rfl (L' := [vr a0, vr a1, vi l2, vi l3, vd, vd, vd, vd, vl j8, vd, vd, vd, vl (shrL (j12 + ((mI M (mR M a0 0) (Int.toNat (l2 + l14))) - (j8 * (mI M (mR M a1 0) (Int.toNat l14))))) 30), vd, vi (l14 + 1)]) rfl ?_
    refine wm_goto (tgt := 132) d_Na_takeMultiple_191 rfl ?_
    exact h
theorem k_Na_takeMultiple_234 {G : mG} {d : Nat} {a0 : Nat} {a1 : Nat} {l2 : Int} {l3 : Int} {j8 : Int} {j12 : Int} {l14 : Int} {M : mM} {Q : Int → mM → Prop} (hO : mOk M) (hi_l2 : i32 l2) (hi_l3 : i32 l3) (hi_j8 : i64 j8) (hi_j12 : i64 j12) (hi_l14 : i32 l14)
    (h : ((l3 ≤ l14) → (Q (j8 - 1) M)) ∧ (¬ (l3 ≤ l14) → (mK M a0 = 10 ∧ mK M (mR M a0 0) = 30 ∧ ((0 : Int) ≤ l2 + l14 ∧ l2 + l14 < (mN M (mR M a0 0) : Int)) ∧ mK M a1 = 10 ∧ mK M (mR M a1 0) = 30 ∧ ((0 : Int) ≤ l14 ∧ l14 < (mN M (mR M a1 0) : Int)) ∧ i32 ((mI M (mR M a0 0) (Int.toNat (l2 + l14))) + (mI M (mR M a1 0) (Int.toNat l14))) ∧ ((0 : Int) ≤ l2 + l14 ∧ l2 + l14 < (mN M (mR M a0 0) : Int)) ∧ i32 (andL (j12 + ((mI M (mR M a0 0) (Int.toNat (l2 + l14))) + (mI M (mR M a1 0) (Int.toNat l14)))) 1073741823) ∧ ∀ M81, M81 = mUI M (mR M a0 0) (Int.toNat (l2 + l14)) (andL (j12 + ((mI M (mR M a0 0) (Int.toNat (l2 + l14))) + (mI M (mR M a1 0) (Int.toNat l14)))) 1073741823) → h_Na_takeMultiple_234 G d a0 a1 l2 l3 j8 (shrL (j12 + ((mI M (mR M a0 0) (Int.toNat (l2 + l14))) + (mI M (mR M a1 0) (Int.toNat l14)))) 30) (l14 + 1) M81 Q))) :
    h_Na_takeMultiple_234 G d a0 a1 l2 l3 j8 j12 l14 M Q := by
  unfold h_Na_takeMultiple_234
  refine wm_iload d_Na_takeMultiple_234 rfl ?_
  refine wm_iload_n d_Na_takeMultiple_236 rfl rfl ?_
  refine wm_icmp_ge (tgt := 292) d_Na_takeMultiple_237 rfl hi_l14 hi_l3 (fun c71 => ?_) (fun c71 => ?_)
  · replace h := h.1 c71
    refine wm_lload d_Na_takeMultiple_292 rfl ?_
    refine wm_l2i d_Na_takeMultiple_294 ?_
    refine wm_iconst d_Na_takeMultiple_295 ?_
    refine wm_isub d_Na_takeMultiple_296 ?_
    refine wm_ireturn d_Na_takeMultiple_297 rfl rfl ?_
    exact ⟨_, rfl, h⟩
  · replace h := h.2 c71
    obtain ⟨h72, h⟩ := h
    obtain ⟨h73, h⟩ := h
    obtain ⟨h74, h⟩ := h
    obtain ⟨h75, h⟩ := h
    obtain ⟨h76, h⟩ := h
    obtain ⟨h77, h⟩ := h
    obtain ⟨h78, h⟩ := h
    obtain ⟨h79, h⟩ := h
    obtain ⟨h80, h⟩ := h
    obtain ⟨M81, e82⟩ : ∃ M81, M81 = mUI M (mR M a0 0) (Int.toNat (l2 + l14)) (andL (j12 + ((mI M (mR M a0 0) (Int.toNat (l2 + l14))) + (mI M (mR M a1 0) (Int.toNat l14)))) 1073741823) := ⟨_, rfl⟩
    replace h := h M81 e82
    refine wm_lload d_Na_takeMultiple_240 rfl ?_
    refine wm_aload_n d_Na_takeMultiple_242 rfl rfl ?_
    refine gf_Na_9 rfl d_Na_takeMultiple_243 h72 ?_
    refine wm_iload_n d_Na_takeMultiple_246 rfl rfl ?_
    refine wm_iload d_Na_takeMultiple_247 rfl ?_
    refine wm_iadd d_Na_takeMultiple_249 ?_
    refine wm_iald d_Na_takeMultiple_250 h73 h74 ?_
    refine wm_aload_n d_Na_takeMultiple_251 rfl rfl ?_
    refine gf_Na_9 rfl d_Na_takeMultiple_252 h75 ?_
    refine wm_iload d_Na_takeMultiple_255 rfl ?_
    refine wm_iald d_Na_takeMultiple_257 h76 h77 ?_
    refine wm_iadd d_Na_takeMultiple_258 ?_
    refine wm_i2l d_Na_takeMultiple_259 h78 ?_
    refine wm_ladd d_Na_takeMultiple_260 ?_
    refine wm_lstore d_Na_takeMultiple_261 (by decide) (L' := [vr a0, vr a1, vi l2, vi l3, vd, vd, vd, vd, vl j8, vd, vd, vd, vl (j12 + ((mI M (mR M a0 0) (Int.toNat (l2 + l14))) + (mI M (mR M a1 0) (Int.toNat l14)))), vd, vi l14]) rfl ?_
    refine wm_aload_n d_Na_takeMultiple_263 rfl rfl ?_
    refine gf_Na_9 rfl d_Na_takeMultiple_264 h72 ?_
    refine wm_iload_n d_Na_takeMultiple_267 rfl rfl ?_
    refine wm_iload d_Na_takeMultiple_268 rfl ?_
    refine wm_iadd d_Na_takeMultiple_270 ?_
    refine wm_lload d_Na_takeMultiple_271 rfl ?_
    refine wm_ldc2 (x := 1073741823) d_Na_takeMultiple_273 k5_202 (by decide) ?_
    refine wm_land d_Na_takeMultiple_276 ?_
    refine wm_l2i d_Na_takeMultiple_277 ?_
    have hOM81 : mOk M81 := by rw [e82]; exact mOk_UI hO h80
    refine wm_iastE d_Na_takeMultiple_278 h73 h79 h80 e82 ?_
    refine wm_lload d_Na_takeMultiple_279 rfl ?_
    refine wm_bipush d_Na_takeMultiple_281 (by decide) ?_
    refine wm_lshr d_Na_takeMultiple_283 ?_
    refine wm_lstore d_Na_takeMultiple_284 (by decide) (L' := [vr a0, vr a1, vi l2, vi l3, vd, vd, vd, vd, vl j8, vd, vd, vd, vl (shrL (j12 + ((mI M (mR M a0 0) (Int.toNat (l2 + l14))) + (mI M (mR M a1 0) (Int.toNat l14)))) 30), vd, vi l14]) rfl ?_
    refine wm_iinc d_Na_takeMultiple_286 (by decide) rfl (L' := [vr a0, vr a1, vi l2, vi l3, vd, vd, vd, vd, vl j8, vd, vd, vd, vl (shrL (j12 + ((mI M (mR M a0 0) (Int.toNat (l2 + l14))) + (mI M (mR M a1 0) (Int.toNat l14)))) 30), vd, vi (l14 + 1)]) rfl ?_
    refine wm_goto (tgt := 234) d_Na_takeMultiple_289 rfl ?_
    exact h
theorem d_Na_combine_0 : decode y_Na_combine.2.1 0 = .ok (.aload_n 0, 1) := dc9_42 (by decide +kernel)
theorem d_Na_combine_1 : decode y_Na_combine.2.1 1 = .ok (.getfield 13, 3) := dc9_180 (by decide +kernel)
theorem d_Na_combine_4 : decode y_Na_combine.2.1 4 = .ok (.istore_n 3, 1) := dc9_62 (by decide +kernel)
theorem d_Na_combine_5 : decode y_Na_combine.2.1 5 = .ok (.aload_n 1, 1) := dc9_43 (by decide +kernel)
theorem d_Na_combine_6 : decode y_Na_combine.2.1 6 = .ok (.iload_n 3, 1) := dc9_29 (by decide +kernel)
theorem d_Na_combine_7 : decode y_Na_combine.2.1 7 = .ok (.invokevirtual 47, 3) := dc9_182 (by decide +kernel)
theorem d_Na_combine_10 : decode y_Na_combine.2.1 10 = .ok (.aload_n 1, 1) := dc9_43 (by decide +kernel)
theorem d_Na_combine_11 : decode y_Na_combine.2.1 11 = .ok (.getfield 9, 3) := dc9_180 (by decide +kernel)
theorem d_Na_combine_14 : decode y_Na_combine.2.1 14 = .ok (.aload_n 1, 1) := dc9_43 (by decide +kernel)
theorem d_Na_combine_15 : decode y_Na_combine.2.1 15 = .ok (.getfield 13, 3) := dc9_180 (by decide +kernel)
theorem d_Na_combine_18 : decode y_Na_combine.2.1 18 = .ok (.iload_n 3, 1) := dc9_29 (by decide +kernel)
theorem d_Na_combine_19 : decode y_Na_combine.2.1 19 = .ok (.iconst 0, 1) := dc9_3 (by decide +kernel)
theorem d_Na_combine_20 : decode y_Na_combine.2.1 20 = .ok (.invokestatic 50, 3) := dc9_184 (by decide +kernel)
theorem d_Na_combine_23 : decode y_Na_combine.2.1 23 = .ok (.lconst 0, 1) := dc9_9 (by decide +kernel)
theorem d_Na_combine_24 : decode y_Na_combine.2.1 24 = .ok (.lstore 4, 2) := dc9_55 (by decide +kernel)
theorem d_Na_combine_26 : decode y_Na_combine.2.1 26 = .ok (.lconst 0, 1) := dc9_9 (by decide +kernel)
theorem d_Na_combine_27 : decode y_Na_combine.2.1 27 = .ok (.lstore 6, 2) := dc9_55 (by decide +kernel)
theorem d_Na_combine_29 : decode y_Na_combine.2.1 29 = .ok (.iconst 0, 1) := dc9_3 (by decide +kernel)
theorem d_Na_combine_30 : decode y_Na_combine.2.1 30 = .ok (.istore 8, 2) := dc9_54 (by decide +kernel)
theorem d_Na_combine_32 : decode y_Na_combine.2.1 32 = .ok (.iload 8, 2) := dc9_21 (by decide +kernel)
theorem d_Na_combine_34 : decode y_Na_combine.2.1 34 = .ok (.iload_n 3, 1) := dc9_29 (by decide +kernel)
theorem d_Na_combine_35 : decode y_Na_combine.2.1 35 = .ok (.if_icmp .ge 107, 3) := dc9_162 (by decide +kernel)
theorem d_Na_combine_142 : decode y_Na_combine.2.1 142 = .ok (.aload_n 0, 1) := dc9_42 (by decide +kernel)
theorem d_Na_combine_143 : decode y_Na_combine.2.1 143 = .ok (.iload_n 3, 1) := dc9_29 (by decide +kernel)
theorem d_Na_combine_38 : decode y_Na_combine.2.1 38 = .ok (.aload_n 0, 1) := dc9_42 (by decide +kernel)
theorem d_Na_combine_39 : decode y_Na_combine.2.1 39 = .ok (.getfield 9, 3) := dc9_180 (by decide +kernel)
theorem d_Na_combine_42 : decode y_Na_combine.2.1 42 = .ok (.iload 8, 2) := dc9_21 (by decide +kernel)
theorem d_Na_combine_44 : decode y_Na_combine.2.1 44 = .ok (.iaload, 1) := dc9_46 (by decide +kernel)
theorem d_Na_combine_45 : decode y_Na_combine.2.1 45 = .ok (.i2l, 1) := dc9_133 (by decide +kernel)
theorem d_Na_combine_46 : decode y_Na_combine.2.1 46 = .ok (.lstore 9, 2) := dc9_55 (by decide +kernel)
theorem d_Na_combine_48 : decode y_Na_combine.2.1 48 = .ok (.aload_n 1, 1) := dc9_43 (by decide +kernel)
theorem d_Na_combine_49 : decode y_Na_combine.2.1 49 = .ok (.getfield 9, 3) := dc9_180 (by decide +kernel)
theorem d_Na_combine_52 : decode y_Na_combine.2.1 52 = .ok (.iload 8, 2) := dc9_21 (by decide +kernel)
theorem d_Na_combine_54 : decode y_Na_combine.2.1 54 = .ok (.iaload, 1) := dc9_46 (by decide +kernel)
theorem d_Na_combine_55 : decode y_Na_combine.2.1 55 = .ok (.i2l, 1) := dc9_133 (by decide +kernel)
theorem d_Na_combine_56 : decode y_Na_combine.2.1 56 = .ok (.lstore 11, 2) := dc9_55 (by decide +kernel)
theorem d_Na_combine_58 : decode y_Na_combine.2.1 58 = .ok (.lload 4, 2) := dc9_22 (by decide +kernel)
theorem d_Na_combine_60 : decode y_Na_combine.2.1 60 = .ok (.aload_n 2, 1) := dc9_44 (by decide +kernel)
theorem d_Na_combine_61 : decode y_Na_combine.2.1 61 = .ok (.iconst 0, 1) := dc9_3 (by decide +kernel)
theorem d_Na_combine_62 : decode y_Na_combine.2.1 62 = .ok (.laload, 1) := dc9_47 (by decide +kernel)
theorem d_Na_combine_63 : decode y_Na_combine.2.1 63 = .ok (.lload 9, 2) := dc9_22 (by decide +kernel)
theorem d_Na_combine_65 : decode y_Na_combine.2.1 65 = .ok (.lmul, 1) := dc9_105 (by decide +kernel)
theorem d_Na_combine_66 : decode y_Na_combine.2.1 66 = .ok (.aload_n 2, 1) := dc9_44 (by decide +kernel)
theorem d_Na_combine_67 : decode y_Na_combine.2.1 67 = .ok (.iconst 1, 1) := dc9_4 (by decide +kernel)
theorem d_Na_combine_68 : decode y_Na_combine.2.1 68 = .ok (.laload, 1) := dc9_47 (by decide +kernel)
theorem d_Na_combine_69 : decode y_Na_combine.2.1 69 = .ok (.lload 11, 2) := dc9_22 (by decide +kernel)
theorem d_Na_combine_71 : decode y_Na_combine.2.1 71 = .ok (.lmul, 1) := dc9_105 (by decide +kernel)
theorem d_Na_combine_72 : decode y_Na_combine.2.1 72 = .ok (.ladd, 1) := dc9_97 (by decide +kernel)
theorem d_Na_combine_73 : decode y_Na_combine.2.1 73 = .ok (.ladd, 1) := dc9_97 (by decide +kernel)
theorem d_Na_combine_74 : decode y_Na_combine.2.1 74 = .ok (.lstore 4, 2) := dc9_55 (by decide +kernel)
theorem d_Na_combine_76 : decode y_Na_combine.2.1 76 = .ok (.lload 6, 2) := dc9_22 (by decide +kernel)
theorem d_Na_combine_78 : decode y_Na_combine.2.1 78 = .ok (.aload_n 2, 1) := dc9_44 (by decide +kernel)
theorem d_Na_combine_79 : decode y_Na_combine.2.1 79 = .ok (.iconst 2, 1) := dc9_5 (by decide +kernel)
theorem d_Na_combine_80 : decode y_Na_combine.2.1 80 = .ok (.laload, 1) := dc9_47 (by decide +kernel)
theorem d_Na_combine_81 : decode y_Na_combine.2.1 81 = .ok (.lload 9, 2) := dc9_22 (by decide +kernel)
theorem d_Na_combine_83 : decode y_Na_combine.2.1 83 = .ok (.lmul, 1) := dc9_105 (by decide +kernel)
theorem d_Na_combine_84 : decode y_Na_combine.2.1 84 = .ok (.aload_n 2, 1) := dc9_44 (by decide +kernel)
theorem d_Na_combine_85 : decode y_Na_combine.2.1 85 = .ok (.iconst 3, 1) := dc9_6 (by decide +kernel)
theorem d_Na_combine_86 : decode y_Na_combine.2.1 86 = .ok (.laload, 1) := dc9_47 (by decide +kernel)
theorem d_Na_combine_87 : decode y_Na_combine.2.1 87 = .ok (.lload 11, 2) := dc9_22 (by decide +kernel)
theorem d_Na_combine_89 : decode y_Na_combine.2.1 89 = .ok (.lmul, 1) := dc9_105 (by decide +kernel)
theorem d_Na_combine_90 : decode y_Na_combine.2.1 90 = .ok (.ladd, 1) := dc9_97 (by decide +kernel)
theorem d_Na_combine_91 : decode y_Na_combine.2.1 91 = .ok (.ladd, 1) := dc9_97 (by decide +kernel)
theorem d_Na_combine_92 : decode y_Na_combine.2.1 92 = .ok (.lstore 6, 2) := dc9_55 (by decide +kernel)
theorem d_Na_combine_94 : decode y_Na_combine.2.1 94 = .ok (.aload_n 0, 1) := dc9_42 (by decide +kernel)
theorem d_Na_combine_95 : decode y_Na_combine.2.1 95 = .ok (.getfield 9, 3) := dc9_180 (by decide +kernel)
theorem d_Na_combine_98 : decode y_Na_combine.2.1 98 = .ok (.iload 8, 2) := dc9_21 (by decide +kernel)
theorem d_Na_combine_100 : decode y_Na_combine.2.1 100 = .ok (.lload 4, 2) := dc9_22 (by decide +kernel)
theorem d_Na_combine_102 : decode y_Na_combine.2.1 102 = .ok (.ldc2_w 29, 3) := dc9_20 (by decide +kernel)
theorem d_Na_combine_105 : decode y_Na_combine.2.1 105 = .ok (.land, 1) := dc9_127 (by decide +kernel)
theorem d_Na_combine_106 : decode y_Na_combine.2.1 106 = .ok (.l2i, 1) := dc9_136 (by decide +kernel)
theorem d_Na_combine_107 : decode y_Na_combine.2.1 107 = .ok (.iastore, 1) := dc9_79 (by decide +kernel)
theorem d_Na_combine_108 : decode y_Na_combine.2.1 108 = .ok (.aload_n 1, 1) := dc9_43 (by decide +kernel)
theorem d_Na_combine_109 : decode y_Na_combine.2.1 109 = .ok (.getfield 9, 3) := dc9_180 (by decide +kernel)
theorem d_Na_combine_112 : decode y_Na_combine.2.1 112 = .ok (.iload 8, 2) := dc9_21 (by decide +kernel)
theorem d_Na_combine_114 : decode y_Na_combine.2.1 114 = .ok (.lload 6, 2) := dc9_22 (by decide +kernel)
theorem d_Na_combine_116 : decode y_Na_combine.2.1 116 = .ok (.ldc2_w 29, 3) := dc9_20 (by decide +kernel)
theorem d_Na_combine_119 : decode y_Na_combine.2.1 119 = .ok (.land, 1) := dc9_127 (by decide +kernel)
theorem d_Na_combine_120 : decode y_Na_combine.2.1 120 = .ok (.l2i, 1) := dc9_136 (by decide +kernel)
theorem d_Na_combine_121 : decode y_Na_combine.2.1 121 = .ok (.iastore, 1) := dc9_79 (by decide +kernel)
theorem d_Na_combine_144 : decode y_Na_combine.2.1 144 = .ok (.invokevirtual 31, 3) := dc9_182 (by decide +kernel)
theorem d_Na_combine_147 : decode y_Na_combine.2.1 147 = .ok (.aload_n 1, 1) := dc9_43 (by decide +kernel)
theorem d_Na_combine_148 : decode y_Na_combine.2.1 148 = .ok (.iload_n 3, 1) := dc9_29 (by decide +kernel)
theorem d_Na_combine_149 : decode y_Na_combine.2.1 149 = .ok (.invokevirtual 31, 3) := dc9_182 (by decide +kernel)
theorem d_Na_combine_152 : decode y_Na_combine.2.1 152 = .ok (.return_, 1) := dc9_177 (by decide +kernel)
theorem d_Na_combine_122 : decode y_Na_combine.2.1 122 = .ok (.lload 4, 2) := dc9_22 (by decide +kernel)
theorem d_Na_combine_124 : decode y_Na_combine.2.1 124 = .ok (.bipush 30, 2) := dc9_16 (by decide +kernel)
theorem d_Na_combine_126 : decode y_Na_combine.2.1 126 = .ok (.lshr, 1) := dc9_123 (by decide +kernel)
theorem d_Na_combine_127 : decode y_Na_combine.2.1 127 = .ok (.lstore 4, 2) := dc9_55 (by decide +kernel)
theorem d_Na_combine_129 : decode y_Na_combine.2.1 129 = .ok (.lload 6, 2) := dc9_22 (by decide +kernel)
theorem d_Na_combine_131 : decode y_Na_combine.2.1 131 = .ok (.bipush 30, 2) := dc9_16 (by decide +kernel)
theorem d_Na_combine_133 : decode y_Na_combine.2.1 133 = .ok (.lshr, 1) := dc9_123 (by decide +kernel)
theorem d_Na_combine_134 : decode y_Na_combine.2.1 134 = .ok (.lstore 6, 2) := dc9_55 (by decide +kernel)
theorem d_Na_combine_136 : decode y_Na_combine.2.1 136 = .ok (.iinc 8 1, 3) := by decide +kernel
theorem d_Na_combine_139 : decode y_Na_combine.2.1 139 = .ok (.goto (-107), 3) := dc9_167 (by decide +kernel)
def h_Na_combine_32 (G : mG) (d : Nat) (a0 : Nat) (a1 : Nat) (a2 : Nat) (l3 : Int) (j4 : Int) (j6 : Int) (l8 : Int) (M : mM) (Q : mM → Prop) : Prop := mWm G y_Na_combine (d + 1) 32 [vr a0, vr a1, vr a2, vi l3, vl j4, vd, vl j6, vd, vi l8, vd, vd, vd, vd] [] M (fun r9 M9 => r9 = none ∧ Q M9)
theorem k_Na_combine {G : mG} {d : Nat} {a0 : Nat} {a1 : Nat} {a2 : Nat} {M : mM} {Q : mM → Prop} (hO : mOk M)
    (h : mK M a0 = 10 ∧ mK M a1 = 10 ∧ Cv G y_Na_reserve d [vr a1, vi (mI M a0 1)] M (fun M3 => mOk M3 ∧ (mK M3 a1 = 10 ∧ Cv G y_JA_fillR d [vr (mR M3 a1 0), vi (mI M3 a1 1), vi (mI M a0 1), vi 0] M3 (fun M7 => mOk M7 ∧ (h_Na_combine_32 G d a0 a1 a2 (mI M a0 1) 0 0 0 M7 Q))))) :
    Cv G y_Na_combine (d + 1) [vr a0, vr a1, vr a2] M Q := by
  refine wm_open (y := y_Na_combine) rfl (Nat.le_of_ble_eq_true rfl) (L := [vr a0, vr a1, vr a2, vd, vd, vd, vd, vd, vd, vd, vd, vd, vd]) rfl ?_
  obtain ⟨h1, h⟩ := h
  obtain ⟨h2, h⟩ := h
  refine wm_aload_n d_Na_combine_0 rfl rfl ?_
  refine gf_Na_13 rfl d_Na_combine_1 h1 ?_
  refine wm_istore_n d_Na_combine_4 rfl (by decide) (L' := [vr a0, vr a1, vr a2, vi (mI M a0 1), vd, vd, vd, vd, vd, vd, vd, vd, vd]) rfl ?_
  refine wm_aload_n d_Na_combine_5 rfl rfl ?_
  refine wm_iload_n d_Na_combine_6 rfl rfl ?_
  refine cf_Na_47 rfl d_Na_combine_7 h2 (Nat.le_of_ble_eq_true rfl) (Cv.mono h (fun M3 h => ?_))
  obtain ⟨hOM3, h⟩ := h
  obtain ⟨h6, h⟩ := h
  refine wm_aload_n d_Na_combine_10 rfl rfl ?_
  refine gf_Na_9 rfl d_Na_combine_11 h6 ?_
  refine wm_aload_n d_Na_combine_14 rfl rfl ?_
  refine gf_Na_13 rfl d_Na_combine_15 h6 ?_
  refine wm_iload_n d_Na_combine_18 rfl rfl ?_
  refine wm_iconst d_Na_combine_19 ?_
  refine cf_Na_50 rfl d_Na_combine_20 (Nat.le_of_ble_eq_true rfl) (Cv.mono h (fun M7 h => ?_))
  obtain ⟨hOM7, h⟩ := h
  refine wm_lconst (x := 0) d_Na_combine_23 rfl ?_
  refine wm_lstore d_Na_combine_24 (by decide) (L' := [vr a0, vr a1, vr a2, vi (mI M a0 1), vl 0, vd, vd, vd, vd, vd, vd, vd, vd]) rfl ?_
  refine wm_lconst (x := 0) d_Na_combine_26 rfl ?_
  refine wm_lstore d_Na_combine_27 (by decide) (L' := [vr a0, vr a1, vr a2, vi (mI M a0 1), vl 0, vd, vl 0, vd, vd, vd, vd, vd, vd]) rfl ?_
  refine wm_iconst d_Na_combine_29 ?_
  refine wm_istore d_Na_combine_30 (by decide) (L' := [vr a0, vr a1, vr a2, vi (mI M a0 1), vl 0, vd, vl 0, vd, vi 0, vd, vd, vd, vd]) rfl ?_
  exact h
theorem k_Na_combine_32 {G : mG} {d : Nat} {a0 : Nat} {a1 : Nat} {a2 : Nat} {l3 : Int} {j4 : Int} {j6 : Int} {l8 : Int} {M : mM} {Q : mM → Prop} (hO : mOk M) (hi_l3 : i32 l3) (hi_j4 : i64 j4) (hi_j6 : i64 j6) (hi_l8 : i32 l8)
    (h : ((l3 ≤ l8) → (mK M a0 = 10 ∧ Cv G y_Na_trim d [vr a0, vi l3] M (fun M13 => mOk M13 ∧ (mK M13 a1 = 10 ∧ Cv G y_Na_trim d [vr a1, vi l3] M13 (fun M17 => mOk M17 ∧ (Q M17)))))) ∧ (¬ (l3 ≤ l8) → (mK M a0 = 10 ∧ mK M (mR M a0 0) = 30 ∧ ((0 : Int) ≤ l8 ∧ l8 < (mN M (mR M a0 0) : Int)) ∧ mK M a1 = 10 ∧ mK M (mR M a1 0) = 30 ∧ ((0 : Int) ≤ l8 ∧ l8 < (mN M (mR M a1 0) : Int)) ∧ mK M a2 = 33 ∧ ((0 : Int) ≤ 0 ∧ 0 < (mN M a2 : Int)) ∧ ((0 : Int) ≤ 1 ∧ 1 < (mN M a2 : Int)) ∧ ((0 : Int) ≤ 2 ∧ 2 < (mN M a2 : Int)) ∧ ((0 : Int) ≤ 3 ∧ 3 < (mN M a2 : Int)) ∧ ((0 : Int) ≤ l8 ∧ l8 < (mN M (mR M a0 0) : Int)) ∧ i32 (andL (j4 + (((mL M a2 0) * (mI M (mR M a0 0) (Int.toNat l8))) + ((mL M a2 1) * (mI M (mR M a1 0) (Int.toNat l8))))) 1073741823) ∧ ∀ M33, M33 = mUI M (mR M a0 0) (Int.toNat l8) (andL (j4 + (((mL M a2 0) * (mI M (mR M a0 0) (Int.toNat l8))) + ((mL M a2 1) * (mI M (mR M a1 0) (Int.toNat l8))))) 1073741823) → mK M33 (mR M33 a1 0) = 30 ∧ ((0 : Int) ≤ l8 ∧ l8 < (mN M33 (mR M33 a1 0) : Int)) ∧ i32 (andL (j6 + (((mL M a2 2) * (mI M (mR M a0 0) (Int.toNat l8))) + ((mL M a2 3) * (mI M (mR M a1 0) (Int.toNat l8))))) 1073741823) ∧ ∀ M38, M38 = mUI M33 (mR M33 a1 0) (Int.toNat l8) (andL (j6 + (((mL M a2 2) * (mI M (mR M a0 0) (Int.toNat l8))) + ((mL M a2 3) * (mI M (mR M a1 0) (Int.toNat l8))))) 1073741823) → h_Na_combine_32 G d a0 a1 a2 l3 (shrL (j4 + (((mL M a2 0) * (mI M (mR M a0 0) (Int.toNat l8))) + ((mL M a2 1) * (mI M (mR M a1 0) (Int.toNat l8))))) 30) (shrL (j6 + (((mL M a2 2) * (mI M (mR M a0 0) (Int.toNat l8))) + ((mL M a2 3) * (mI M (mR M a1 0) (Int.toNat l8))))) 30) (l8 + 1) M38 Q))) :
    h_Na_combine_32 G d a0 a1 a2 l3 j4 j6 l8 M Q := by
  unfold h_Na_combine_32
  refine wm_iload d_Na_combine_32 rfl ?_
  refine wm_iload_n d_Na_combine_34 rfl rfl ?_
  refine wm_icmp_ge (tgt := 142) d_Na_combine_35 rfl hi_l8 hi_l3 (fun c11 => ?_) (fun c11 => ?_)
  · replace h := h.1 c11
    obtain ⟨h12, h⟩ := h
    refine wm_aload_n d_Na_combine_142 rfl rfl ?_
    refine wm_iload_n d_Na_combine_143 rfl rfl ?_
    refine cf_Na_31 rfl d_Na_combine_144 h12 (Nat.le_of_ble_eq_true rfl) (Cv.mono h (fun M13 h => ?_))
    obtain ⟨hOM13, h⟩ := h
    obtain ⟨h16, h⟩ := h
    refine wm_aload_n d_Na_combine_147 rfl rfl ?_
    refine wm_iload_n d_Na_combine_148 rfl rfl ?_
    refine cf_Na_31 rfl d_Na_combine_149 h16 (Nat.le_of_ble_eq_true rfl) (Cv.mono h (fun M17 h => ?_))
    obtain ⟨hOM17, h⟩ := h
    refine wm_return d_Na_combine_152 rfl ?_
    exact ⟨rfl, h⟩
  · replace h := h.2 c11
    obtain ⟨h20, h⟩ := h
    obtain ⟨h21, h⟩ := h
    obtain ⟨h22, h⟩ := h
    obtain ⟨h23, h⟩ := h
    obtain ⟨h24, h⟩ := h
    obtain ⟨h25, h⟩ := h
    obtain ⟨h26, h⟩ := h
    obtain ⟨h27, h⟩ := h
    obtain ⟨h28, h⟩ := h
    obtain ⟨h29, h⟩ := h
    obtain ⟨h30, h⟩ := h
    obtain ⟨h31, h⟩ := h
    obtain ⟨h32, h⟩ := h
    obtain ⟨M33, e34⟩ : ∃ M33, M33 = mUI M (mR M a0 0) (Int.toNat l8) (andL (j4 + (((mL M a2 0) * (mI M (mR M a0 0) (Int.toNat l8))) + ((mL M a2 1) * (mI M (mR M a1 0) (Int.toNat l8))))) 1073741823) := ⟨_, rfl⟩
    replace h := h M33 e34
    obtain ⟨h35, h⟩ := h
    obtain ⟨h36, h⟩ := h
    obtain ⟨h37, h⟩ := h
    obtain ⟨M38, e39⟩ : ∃ M38, M38 = mUI M33 (mR M33 a1 0) (Int.toNat l8) (andL (j6 + (((mL M a2 2) * (mI M (mR M a0 0) (Int.toNat l8))) + ((mL M a2 3) * (mI M (mR M a1 0) (Int.toNat l8))))) 1073741823) := ⟨_, rfl⟩
    replace h := h M38 e39
    refine wm_aload_n d_Na_combine_38 rfl rfl ?_
    refine gf_Na_9 rfl d_Na_combine_39 h20 ?_
    refine wm_iload d_Na_combine_42 rfl ?_
    refine wm_iald d_Na_combine_44 h21 h22 ?_
    refine wm_i2l d_Na_combine_45 (hO _ _).1 ?_
    refine wm_lstore d_Na_combine_46 (by decide) (L' := [vr a0, vr a1, vr a2, vi l3, vl j4, vd, vl j6, vd, vi l8, vl (mI M (mR M a0 0) (Int.toNat l8)), vd, vd, vd]) rfl ?_
    refine wm_aload_n d_Na_combine_48 rfl rfl ?_
    refine gf_Na_9 rfl d_Na_combine_49 h23 ?_
    refine wm_iload d_Na_combine_52 rfl ?_
    refine wm_iald d_Na_combine_54 h24 h25 ?_
    refine wm_i2l d_Na_combine_55 (hO _ _).1 ?_
    refine wm_lstore d_Na_combine_56 (by decide) (L' := [vr a0, vr a1, vr a2, vi l3, vl j4, vd, vl j6, vd, vi l8, vl (mI M (mR M a0 0) (Int.toNat l8)), vd, vl (mI M (mR M a1 0) (Int.toNat l8)), vd]) rfl ?_
    refine wm_lload d_Na_combine_58 rfl ?_
    refine wm_aload_n d_Na_combine_60 rfl rfl ?_
    refine wm_iconst d_Na_combine_61 ?_
    refine wm_lald d_Na_combine_62 h26 h27 ?_
    refine wm_lload d_Na_combine_63 rfl ?_
    refine wm_lmul d_Na_combine_65 ?_
    refine wm_aload_n d_Na_combine_66 rfl rfl ?_
    refine wm_iconst d_Na_combine_67 ?_
    refine wm_lald d_Na_combine_68 h26 h28 ?_
    refine wm_lload d_Na_combine_69 rfl ?_
    refine wm_lmul d_Na_combine_71 ?_
    refine wm_ladd d_Na_combine_72 ?_
    refine wm_ladd d_Na_combine_73 ?_
    refine wm_lstore d_Na_combine_74 (by decide) (L' := [vr a0, vr a1, vr a2, vi l3, vl (j4 + (((mL M a2 0) * (mI M (mR M a0 0) (Int.toNat l8))) + ((mL M a2 1) * (mI M (mR M a1 0) (Int.toNat l8))))), vd, vl j6, vd, vi l8, vl (mI M (mR M a0 0) (Int.toNat l8)), vd, vl (mI M (mR M a1 0) (Int.toNat l8)), vd]) rfl ?_
    refine wm_lload d_Na_combine_76 rfl ?_
    refine wm_aload_n d_Na_combine_78 rfl rfl ?_
    refine wm_iconst d_Na_combine_79 ?_
    refine wm_lald d_Na_combine_80 h26 h29 ?_
    refine wm_lload d_Na_combine_81 rfl ?_
    refine wm_lmul d_Na_combine_83 ?_
    refine wm_aload_n d_Na_combine_84 rfl rfl ?_
    refine wm_iconst d_Na_combine_85 ?_
    refine wm_lald d_Na_combine_86 h26 h30 ?_
    refine wm_lload d_Na_combine_87 rfl ?_
    refine wm_lmul d_Na_combine_89 ?_
    refine wm_ladd d_Na_combine_90 ?_
    refine wm_ladd d_Na_combine_91 ?_
    refine wm_lstore d_Na_combine_92 (by decide) (L' := [vr a0, vr a1, vr a2, vi l3, vl (j4 + (((mL M a2 0) * (mI M (mR M a0 0) (Int.toNat l8))) + ((mL M a2 1) * (mI M (mR M a1 0) (Int.toNat l8))))), vd, vl (j6 + (((mL M a2 2) * (mI M (mR M a0 0) (Int.toNat l8))) + ((mL M a2 3) * (mI M (mR M a1 0) (Int.toNat l8))))), vd, vi l8, vl (mI M (mR M a0 0) (Int.toNat l8)), vd, vl (mI M (mR M a1 0) (Int.toNat l8)), vd]) rfl ?_
    refine wm_aload_n d_Na_combine_94 rfl rfl ?_
    refine gf_Na_9 rfl d_Na_combine_95 h20 ?_
    refine wm_iload d_Na_combine_98 rfl ?_
    refine wm_lload d_Na_combine_100 rfl ?_
    refine wm_ldc2 (x := 1073741823) d_Na_combine_102 k5_202 (by decide) ?_
    refine wm_land d_Na_combine_105 ?_
    refine wm_l2i d_Na_combine_106 ?_
    have hOM33 : mOk M33 := by rw [e34]; exact mOk_UI hO h32
    refine wm_iastE d_Na_combine_107 h21 h31 h32 e34 ?_
    refine wm_aload_n d_Na_combine_108 rfl rfl ?_
    refine gf_Na_9 rfl d_Na_combine_109 (by rw [e34]; exact h23) ?_
    refine wm_iload d_Na_combine_112 rfl ?_
    refine wm_lload d_Na_combine_114 rfl ?_
    refine wm_ldc2 (x := 1073741823) d_Na_combine_116 k5_202 (by decide) ?_
    refine wm_land d_Na_combine_119 ?_
    refine wm_l2i d_Na_combine_120 ?_
    have hOM38 : mOk M38 := by rw [e39]; exact mOk_UI hOM33 h37
    refine wm_iastE d_Na_combine_121 h35 h36 h37 e39 ?_
    refine wm_lload d_Na_combine_122 rfl ?_
    refine wm_bipush d_Na_combine_124 (by decide) ?_
    refine wm_lshr d_Na_combine_126 ?_
    refine wm_lstore d_Na_combine_127 (by decide) (L' := [vr a0, vr a1, vr a2, vi l3, vl (shrL (j4 + (((mL M a2 0) * (mI M (mR M a0 0) (Int.toNat l8))) + ((mL M a2 1) * (mI M (mR M a1 0) (Int.toNat l8))))) 30), vd, vl (j6 + (((mL M a2 2) * (mI M (mR M a0 0) (Int.toNat l8))) + ((mL M a2 3) * (mI M (mR M a1 0) (Int.toNat l8))))), vd, vi l8, vl (mI M (mR M a0 0) (Int.toNat l8)), vd, vl (mI M (mR M a1 0) (Int.toNat l8)), vd]) rfl ?_
    refine wm_lload d_Na_combine_129 rfl ?_
    refine wm_bipush d_Na_combine_131 (by decide) ?_
    refine wm_lshr d_Na_combine_133 ?_
    refine wm_lstore d_Na_combine_134 (by decide) (L' := [vr a0, vr a1, vr a2, vi l3, vl (shrL (j4 + (((mL M a2 0) * (mI M (mR M a0 0) (Int.toNat l8))) + ((mL M a2 1) * (mI M (mR M a1 0) (Int.toNat l8))))) 30), vd, vl (shrL (j6 + (((mL M a2 2) * (mI M (mR M a0 0) (Int.toNat l8))) + ((mL M a2 3) * (mI M (mR M a1 0) (Int.toNat l8))))) 30), vd, vi l8, vl (mI M (mR M a0 0) (Int.toNat l8)), vd, vl (mI M (mR M a1 0) (Int.toNat l8)), vd]) rfl ?_
    refine wm_iinc d_Na_combine_136 (by decide) rfl (L' := [vr a0, vr a1, vr a2, vi l3, vl (shrL (j4 + (((mL M a2 0) * (mI M (mR M a0 0) (Int.toNat l8))) + ((mL M a2 1) * (mI M (mR M a1 0) (Int.toNat l8))))) 30), vd, vl (shrL (j6 + (((mL M a2 2) * (mI M (mR M a0 0) (Int.toNat l8))) + ((mL M a2 3) * (mI M (mR M a1 0) (Int.toNat l8))))) 30), vd, vi (l8 + 1), vl (mI M (mR M a0 0) (Int.toNat l8)), vd, vl (mI M (mR M a1 0) (Int.toNat l8)), vd]) rfl ?_
    refine wm_goto (tgt := 32) d_Na_combine_139 rfl ?_
    refine wm_less (L' := [vr a0, vr a1, vr a2, vi l3, vl (shrL (j4 + (((mL M a2 0) * (mI M (mR M a0 0) (Int.toNat l8))) + ((mL M a2 1) * (mI M (mR M a1 0) (Int.toNat l8))))) 30), vd, vl (shrL (j6 + (((mL M a2 2) * (mI M (mR M a0 0) (Int.toNat l8))) + ((mL M a2 3) * (mI M (mR M a1 0) (Int.toNat l8))))) 30), vd, vi (l8 + 1), vd, vd, vd, vd]) ⟨Or.inr rfl, Or.inr rfl, Or.inr rfl, Or.inr rfl, Or.inr rfl, Or.inl rfl, Or.inr rfl, Or.inl rfl, Or.inr rfl, Or.inl rfl, Or.inl rfl, Or.inl rfl, Or.inl rfl, trivial⟩ ?_
    exact h
theorem d_Pr_init_0 : decode y_Pr_init.2.1 0 = .ok (.aload_n 0, 1) := dc9_42 (by decide +kernel)
theorem d_Pr_init_1 : decode y_Pr_init.2.1 1 = .ok (.invokespecial 3, 3) := dc9_183 (by decide +kernel)
theorem d_Pr_init_4 : decode y_Pr_init.2.1 4 = .ok (.aload_n 0, 1) := dc9_42 (by decide +kernel)
theorem d_Pr_init_5 : decode y_Pr_init.2.1 5 = .ok (.sipush 128, 3) := dc9_17 (by decide +kernel)
theorem d_Pr_init_8 : decode y_Pr_init.2.1 8 = .ok (.newarray .int, 2) := by decide +kernel
theorem d_Pr_init_10 : decode y_Pr_init.2.1 10 = .ok (.putfield 9, 3) := dc9_181 (by decide +kernel)
theorem d_Pr_init_13 : decode y_Pr_init.2.1 13 = .ok (.aload_n 0, 1) := dc9_42 (by decide +kernel)
theorem d_Pr_init_14 : decode y_Pr_init.2.1 14 = .ok (.sipush 128, 3) := dc9_17 (by decide +kernel)
theorem d_Pr_init_17 : decode y_Pr_init.2.1 17 = .ok (.newarray .int, 2) := by decide +kernel
theorem d_Pr_init_19 : decode y_Pr_init.2.1 19 = .ok (.putfield 15, 3) := dc9_181 (by decide +kernel)
theorem d_Pr_init_22 : decode y_Pr_init.2.1 22 = .ok (.aload_n 0, 1) := dc9_42 (by decide +kernel)
theorem d_Pr_init_23 : decode y_Pr_init.2.1 23 = .ok (.bipush 12, 2) := dc9_16 (by decide +kernel)
theorem d_Pr_init_25 : decode y_Pr_init.2.1 25 = .ok (.newarray .int, 2) := by decide +kernel
theorem d_Pr_init_27 : decode y_Pr_init.2.1 27 = .ok (.putfield 18, 3) := dc9_181 (by decide +kernel)
theorem d_Pr_init_30 : decode y_Pr_init.2.1 30 = .ok (.aload_n 0, 1) := dc9_42 (by decide +kernel)
theorem d_Pr_init_31 : decode y_Pr_init.2.1 31 = .ok (.bipush 12, 2) := dc9_16 (by decide +kernel)
theorem d_Pr_init_33 : decode y_Pr_init.2.1 33 = .ok (.newarray .int, 2) := by decide +kernel
theorem d_Pr_init_35 : decode y_Pr_init.2.1 35 = .ok (.putfield 21, 3) := dc9_181 (by decide +kernel)
theorem d_Pr_init_38 : decode y_Pr_init.2.1 38 = .ok (.aload_n 0, 1) := dc9_42 (by decide +kernel)
theorem d_Pr_init_39 : decode y_Pr_init.2.1 39 = .ok (.bipush 12, 2) := dc9_16 (by decide +kernel)
theorem d_Pr_init_41 : decode y_Pr_init.2.1 41 = .ok (.newarray .int, 2) := by decide +kernel
theorem d_Pr_init_43 : decode y_Pr_init.2.1 43 = .ok (.putfield 24, 3) := dc9_181 (by decide +kernel)
theorem d_Pr_init_46 : decode y_Pr_init.2.1 46 = .ok (.aload_n 0, 1) := dc9_42 (by decide +kernel)
theorem d_Pr_init_47 : decode y_Pr_init.2.1 47 = .ok (.bipush 60, 2) := dc9_16 (by decide +kernel)
theorem d_Pr_init_49 : decode y_Pr_init.2.1 49 = .ok (.newarray .int, 2) := by decide +kernel
theorem d_Pr_init_51 : decode y_Pr_init.2.1 51 = .ok (.putfield 27, 3) := dc9_181 (by decide +kernel)
theorem d_Pr_init_54 : decode y_Pr_init.2.1 54 = .ok (.aload_n 0, 1) := dc9_42 (by decide +kernel)
theorem d_Pr_init_55 : decode y_Pr_init.2.1 55 = .ok (.bipush 60, 2) := dc9_16 (by decide +kernel)
theorem d_Pr_init_57 : decode y_Pr_init.2.1 57 = .ok (.newarray .int, 2) := by decide +kernel
theorem d_Pr_init_59 : decode y_Pr_init.2.1 59 = .ok (.putfield 30, 3) := dc9_181 (by decide +kernel)
theorem d_Pr_init_62 : decode y_Pr_init.2.1 62 = .ok (.aload_n 0, 1) := dc9_42 (by decide +kernel)
theorem d_Pr_init_63 : decode y_Pr_init.2.1 63 = .ok (.bipush 60, 2) := dc9_16 (by decide +kernel)
theorem d_Pr_init_65 : decode y_Pr_init.2.1 65 = .ok (.newarray .int, 2) := by decide +kernel
theorem d_Pr_init_67 : decode y_Pr_init.2.1 67 = .ok (.putfield 33, 3) := dc9_181 (by decide +kernel)
theorem d_Pr_init_70 : decode y_Pr_init.2.1 70 = .ok (.aload_n 0, 1) := dc9_42 (by decide +kernel)
theorem d_Pr_init_71 : decode y_Pr_init.2.1 71 = .ok (.bipush 60, 2) := dc9_16 (by decide +kernel)
theorem d_Pr_init_73 : decode y_Pr_init.2.1 73 = .ok (.newarray .int, 2) := by decide +kernel
theorem d_Pr_init_75 : decode y_Pr_init.2.1 75 = .ok (.putfield 36, 3) := dc9_181 (by decide +kernel)
theorem d_Pr_init_78 : decode y_Pr_init.2.1 78 = .ok (.aload_n 0, 1) := dc9_42 (by decide +kernel)
theorem d_Pr_init_79 : decode y_Pr_init.2.1 79 = .ok (.bipush 60, 2) := dc9_16 (by decide +kernel)
theorem d_Pr_init_81 : decode y_Pr_init.2.1 81 = .ok (.newarray .int, 2) := by decide +kernel
theorem d_Pr_init_83 : decode y_Pr_init.2.1 83 = .ok (.putfield 39, 3) := dc9_181 (by decide +kernel)
theorem d_Pr_init_86 : decode y_Pr_init.2.1 86 = .ok (.aload_n 0, 1) := dc9_42 (by decide +kernel)
theorem d_Pr_init_87 : decode y_Pr_init.2.1 87 = .ok (.bipush 60, 2) := dc9_16 (by decide +kernel)
theorem d_Pr_init_89 : decode y_Pr_init.2.1 89 = .ok (.newarray .int, 2) := by decide +kernel
theorem d_Pr_init_91 : decode y_Pr_init.2.1 91 = .ok (.putfield 42, 3) := dc9_181 (by decide +kernel)
theorem d_Pr_init_94 : decode y_Pr_init.2.1 94 = .ok (.aload_n 0, 1) := dc9_42 (by decide +kernel)
theorem d_Pr_init_95 : decode y_Pr_init.2.1 95 = .ok (.bipush 61, 2) := dc9_16 (by decide +kernel)
theorem d_Pr_init_97 : decode y_Pr_init.2.1 97 = .ok (.newarray .int, 2) := by decide +kernel
theorem d_Pr_init_99 : decode y_Pr_init.2.1 99 = .ok (.putfield 45, 3) := dc9_181 (by decide +kernel)
theorem d_Pr_init_102 : decode y_Pr_init.2.1 102 = .ok (.aload_n 0, 1) := dc9_42 (by decide +kernel)
theorem d_Pr_init_103 : decode y_Pr_init.2.1 103 = .ok (.sipush 480, 3) := dc9_17 (by decide +kernel)
theorem d_Pr_init_106 : decode y_Pr_init.2.1 106 = .ok (.newarray .int, 2) := by decide +kernel
theorem d_Pr_init_108 : decode y_Pr_init.2.1 108 = .ok (.putfield 48, 3) := dc9_181 (by decide +kernel)
theorem d_Pr_init_111 : decode y_Pr_init.2.1 111 = .ok (.aload_n 0, 1) := dc9_42 (by decide +kernel)
theorem d_Pr_init_112 : decode y_Pr_init.2.1 112 = .ok (.sipush 480, 3) := dc9_17 (by decide +kernel)
theorem d_Pr_init_115 : decode y_Pr_init.2.1 115 = .ok (.newarray .int, 2) := by decide +kernel
theorem d_Pr_init_117 : decode y_Pr_init.2.1 117 = .ok (.putfield 51, 3) := dc9_181 (by decide +kernel)
theorem d_Pr_init_120 : decode y_Pr_init.2.1 120 = .ok (.aload_n 0, 1) := dc9_42 (by decide +kernel)
theorem d_Pr_init_121 : decode y_Pr_init.2.1 121 = .ok (.sipush 480, 3) := dc9_17 (by decide +kernel)
theorem d_Pr_init_124 : decode y_Pr_init.2.1 124 = .ok (.newarray .int, 2) := by decide +kernel
theorem d_Pr_init_126 : decode y_Pr_init.2.1 126 = .ok (.putfield 54, 3) := dc9_181 (by decide +kernel)
theorem d_Pr_init_129 : decode y_Pr_init.2.1 129 = .ok (.return_, 1) := dc9_177 (by decide +kernel)
theorem k_Pr_init {G : mG} {d : Nat} {a0 : Nat} {M : mM} {Q : mM → Prop} (hO : mOk M)
    (h : 0 < a0 ∧ ∀ M2, M2 = mNew M 30 128 128 → mK M2 a0 = 6 ∧ ∀ M5, M5 = mUR M2 a0 0 (mZ M) → ∀ M7, M7 = mNew M5 30 128 128 → mK M7 a0 = 6 ∧ ∀ M10, M10 = mUR M7 a0 1 (mZ M5) → ∀ M12, M12 = mNew M10 30 12 12 → mK M12 a0 = 6 ∧ ∀ M15, M15 = mUR M12 a0 4 (mZ M10) → ∀ M17, M17 = mNew M15 30 12 12 → mK M17 a0 = 6 ∧ ∀ M20, M20 = mUR M17 a0 5 (mZ M15) → ∀ M22, M22 = mNew M20 30 12 12 → mK M22 a0 = 6 ∧ ∀ M25, M25 = mUR M22 a0 6 (mZ M20) → ∀ M27, M27 = mNew M25 30 60 60 → mK M27 a0 = 6 ∧ ∀ M30, M30 = mUR M27 a0 8 (mZ M25) → ∀ M32, M32 = mNew M30 30 60 60 → mK M32 a0 = 6 ∧ ∀ M35, M35 = mUR M32 a0 9 (mZ M30) → ∀ M37, M37 = mNew M35 30 60 60 → mK M37 a0 = 6 ∧ ∀ M40, M40 = mUR M37 a0 10 (mZ M35) → ∀ M42, M42 = mNew M40 30 60 60 → mK M42 a0 = 6 ∧ ∀ M45, M45 = mUR M42 a0 13 (mZ M40) → ∀ M47, M47 = mNew M45 30 60 60 → mK M47 a0 = 6 ∧ ∀ M50, M50 = mUR M47 a0 14 (mZ M45) → ∀ M52, M52 = mNew M50 30 60 60 → mK M52 a0 = 6 ∧ ∀ M55, M55 = mUR M52 a0 15 (mZ M50) → ∀ M57, M57 = mNew M55 30 61 61 → mK M57 a0 = 6 ∧ ∀ M60, M60 = mUR M57 a0 16 (mZ M55) → ∀ M62, M62 = mNew M60 30 480 480 → mK M62 a0 = 6 ∧ ∀ M65, M65 = mUR M62 a0 17 (mZ M60) → ∀ M67, M67 = mNew M65 30 480 480 → mK M67 a0 = 6 ∧ ∀ M70, M70 = mUR M67 a0 18 (mZ M65) → ∀ M72, M72 = mNew M70 30 480 480 → mK M72 a0 = 6 ∧ ∀ M75, M75 = mUR M72 a0 19 (mZ M70) → Q M75) :
    Cv G y_Pr_init (d + 1) [vr a0] M Q := by
  refine wm_open (y := y_Pr_init) rfl (Nat.le_of_ble_eq_true rfl) (L := [vr a0]) rfl ?_
  obtain ⟨h1, h⟩ := h
  obtain ⟨M2, e3⟩ : ∃ M2, M2 = mNew M 30 128 128 := ⟨_, rfl⟩
  replace h := h M2 e3
  obtain ⟨h4, h⟩ := h
  obtain ⟨M5, e6⟩ : ∃ M5, M5 = mUR M2 a0 0 (mZ M) := ⟨_, rfl⟩
  replace h := h M5 e6
  obtain ⟨M7, e8⟩ : ∃ M7, M7 = mNew M5 30 128 128 := ⟨_, rfl⟩
  replace h := h M7 e8
  obtain ⟨h9, h⟩ := h
  obtain ⟨M10, e11⟩ : ∃ M10, M10 = mUR M7 a0 1 (mZ M5) := ⟨_, rfl⟩
  replace h := h M10 e11
  obtain ⟨M12, e13⟩ : ∃ M12, M12 = mNew M10 30 12 12 := ⟨_, rfl⟩
  replace h := h M12 e13
  obtain ⟨h14, h⟩ := h
  obtain ⟨M15, e16⟩ : ∃ M15, M15 = mUR M12 a0 4 (mZ M10) := ⟨_, rfl⟩
  replace h := h M15 e16
  obtain ⟨M17, e18⟩ : ∃ M17, M17 = mNew M15 30 12 12 := ⟨_, rfl⟩
  replace h := h M17 e18
  obtain ⟨h19, h⟩ := h
  obtain ⟨M20, e21⟩ : ∃ M20, M20 = mUR M17 a0 5 (mZ M15) := ⟨_, rfl⟩
  replace h := h M20 e21
  obtain ⟨M22, e23⟩ : ∃ M22, M22 = mNew M20 30 12 12 := ⟨_, rfl⟩
  replace h := h M22 e23
  obtain ⟨h24, h⟩ := h
  obtain ⟨M25, e26⟩ : ∃ M25, M25 = mUR M22 a0 6 (mZ M20) := ⟨_, rfl⟩
  replace h := h M25 e26
  obtain ⟨M27, e28⟩ : ∃ M27, M27 = mNew M25 30 60 60 := ⟨_, rfl⟩
  replace h := h M27 e28
  obtain ⟨h29, h⟩ := h
  obtain ⟨M30, e31⟩ : ∃ M30, M30 = mUR M27 a0 8 (mZ M25) := ⟨_, rfl⟩
  replace h := h M30 e31
  obtain ⟨M32, e33⟩ : ∃ M32, M32 = mNew M30 30 60 60 := ⟨_, rfl⟩
  replace h := h M32 e33
  obtain ⟨h34, h⟩ := h
  obtain ⟨M35, e36⟩ : ∃ M35, M35 = mUR M32 a0 9 (mZ M30) := ⟨_, rfl⟩
  replace h := h M35 e36
  obtain ⟨M37, e38⟩ : ∃ M37, M37 = mNew M35 30 60 60 := ⟨_, rfl⟩
  replace h := h M37 e38
  obtain ⟨h39, h⟩ := h
  obtain ⟨M40, e41⟩ : ∃ M40, M40 = mUR M37 a0 10 (mZ M35) := ⟨_, rfl⟩
  replace h := h M40 e41
  obtain ⟨M42, e43⟩ : ∃ M42, M42 = mNew M40 30 60 60 := ⟨_, rfl⟩
  replace h := h M42 e43
  obtain ⟨h44, h⟩ := h
  obtain ⟨M45, e46⟩ : ∃ M45, M45 = mUR M42 a0 13 (mZ M40) := ⟨_, rfl⟩
  replace h := h M45 e46
  obtain ⟨M47, e48⟩ : ∃ M47, M47 = mNew M45 30 60 60 := ⟨_, rfl⟩
  replace h := h M47 e48
  obtain ⟨h49, h⟩ := h
  obtain ⟨M50, e51⟩ : ∃ M50, M50 = mUR M47 a0 14 (mZ M45) := ⟨_, rfl⟩
  replace h := h M50 e51
  obtain ⟨M52, e53⟩ : ∃ M52, M52 = mNew M50 30 60 60 := ⟨_, rfl⟩
  replace h := h M52 e53
  obtain ⟨h54, h⟩ := h
  obtain ⟨M55, e56⟩ : ∃ M55, M55 = mUR M52 a0 15 (mZ M50) := ⟨_, rfl⟩
  replace h := h M55 e56
  obtain ⟨M57, e58⟩ : ∃ M57, M57 = mNew M55 30 61 61 := ⟨_, rfl⟩
  replace h := h M57 e58
  obtain ⟨h59, h⟩ := h
  obtain ⟨M60, e61⟩ : ∃ M60, M60 = mUR M57 a0 16 (mZ M55) := ⟨_, rfl⟩
  replace h := h M60 e61
  obtain ⟨M62, e63⟩ : ∃ M62, M62 = mNew M60 30 480 480 := ⟨_, rfl⟩
  replace h := h M62 e63
  obtain ⟨h64, h⟩ := h
  obtain ⟨M65, e66⟩ : ∃ M65, M65 = mUR M62 a0 17 (mZ M60) := ⟨_, rfl⟩
  replace h := h M65 e66
  obtain ⟨M67, e68⟩ : ∃ M67, M67 = mNew M65 30 480 480 := ⟨_, rfl⟩
  replace h := h M67 e68
  obtain ⟨h69, h⟩ := h
  obtain ⟨M70, e71⟩ : ∃ M70, M70 = mUR M67 a0 18 (mZ M65) := ⟨_, rfl⟩
  replace h := h M70 e71
  obtain ⟨M72, e73⟩ : ∃ M72, M72 = mNew M70 30 480 480 := ⟨_, rfl⟩
  replace h := h M72 e73
  obtain ⟨h74, h⟩ := h
  obtain ⟨M75, e76⟩ : ∃ M75, M75 = mUR M72 a0 19 (mZ M70) := ⟨_, rfl⟩
  replace h := h M75 e76
  refine wm_aload_n d_Pr_init_0 rfl rfl ?_
  refine wm_objInit trivial k2_22 kO_inst kO_code (Nat.le_of_ble_eq_true rfl) d_Pr_init_1 h1 ?_
  refine wm_aload_n d_Pr_init_4 rfl rfl ?_
  refine wm_sipush d_Pr_init_5 (by decide) ?_
  have hOM2 : mOk M2 := by rw [e3]; exact mOk_New hO
  refine wm_newarrE 0 (atype := .int) (ty := .int) rfl rfl (fun _ => rfl) rfl rfl (by decide) k1_82 ⟨by decide, by decide⟩ d_Pr_init_8 e3 ?_
  have hOM5 : mOk M5 := by rw [e6]; exact mOk_UR hOM2
  refine pf_Pr_9 rfl d_Pr_init_10 h4 e6 ?_
  refine wm_aload_n d_Pr_init_13 rfl rfl ?_
  refine wm_sipush d_Pr_init_14 (by decide) ?_
  have hOM7 : mOk M7 := by rw [e8]; exact mOk_New hOM5
  refine wm_newarrE 0 (atype := .int) (ty := .int) rfl rfl (fun _ => rfl) rfl rfl (by decide) k1_82 ⟨by decide, by decide⟩ d_Pr_init_17 e8 ?_
  have hOM10 : mOk M10 := by rw [e11]; exact mOk_UR hOM7
  refine pf_Pr_15 rfl d_Pr_init_19 h9 e11 ?_
  refine wm_aload_n d_Pr_init_22 rfl rfl ?_
  refine wm_bipush d_Pr_init_23 (by decide) ?_
  have hOM12 : mOk M12 := by rw [e13]; exact mOk_New hOM10
  refine wm_newarrE 0 (atype := .int) (ty := .int) rfl rfl (fun _ => rfl) rfl rfl (by decide) k1_82 ⟨by decide, by decide⟩ d_Pr_init_25 e13 ?_
  have hOM15 : mOk M15 := by rw [e16]; exact mOk_UR hOM12
  refine pf_Pr_18 rfl rfl d_Pr_init_27 h14 e16 ?_
  refine wm_aload_n d_Pr_init_30 rfl rfl ?_
  refine wm_bipush d_Pr_init_31 (by decide) ?_
  have hOM17 : mOk M17 := by rw [e18]; exact mOk_New hOM15
  refine wm_newarrE 0 (atype := .int) (ty := .int) rfl rfl (fun _ => rfl) rfl rfl (by decide) k1_82 ⟨by decide, by decide⟩ d_Pr_init_33 e18 ?_
  have hOM20 : mOk M20 := by rw [e21]; exact mOk_UR hOM17
  refine pf_Pr_21 rfl rfl d_Pr_init_35 h19 e21 ?_
  refine wm_aload_n d_Pr_init_38 rfl rfl ?_
  refine wm_bipush d_Pr_init_39 (by decide) ?_
  have hOM22 : mOk M22 := by rw [e23]; exact mOk_New hOM20
  refine wm_newarrE 0 (atype := .int) (ty := .int) rfl rfl (fun _ => rfl) rfl rfl (by decide) k1_82 ⟨by decide, by decide⟩ d_Pr_init_41 e23 ?_
  have hOM25 : mOk M25 := by rw [e26]; exact mOk_UR hOM22
  refine pf_Pr_24 rfl rfl d_Pr_init_43 h24 e26 ?_
  refine wm_aload_n d_Pr_init_46 rfl rfl ?_
  refine wm_bipush d_Pr_init_47 (by decide) ?_
  have hOM27 : mOk M27 := by rw [e28]; exact mOk_New hOM25
  refine wm_newarrE 0 (atype := .int) (ty := .int) rfl rfl (fun _ => rfl) rfl rfl (by decide) k1_82 ⟨by decide, by decide⟩ d_Pr_init_49 e28 ?_
  have hOM30 : mOk M30 := by rw [e31]; exact mOk_UR hOM27
  refine pf_Pr_27 rfl rfl d_Pr_init_51 h29 e31 ?_
  refine wm_aload_n d_Pr_init_54 rfl rfl ?_
  refine wm_bipush d_Pr_init_55 (by decide) ?_
  have hOM32 : mOk M32 := by rw [e33]; exact mOk_New hOM30
  refine wm_newarrE 0 (atype := .int) (ty := .int) rfl rfl (fun _ => rfl) rfl rfl (by decide) k1_82 ⟨by decide, by decide⟩ d_Pr_init_57 e33 ?_
  have hOM35 : mOk M35 := by rw [e36]; exact mOk_UR hOM32
  refine pf_Pr_30 rfl rfl d_Pr_init_59 h34 e36 ?_
  refine wm_aload_n d_Pr_init_62 rfl rfl ?_
  refine wm_bipush d_Pr_init_63 (by decide) ?_
  have hOM37 : mOk M37 := by rw [e38]; exact mOk_New hOM35
  refine wm_newarrE 0 (atype := .int) (ty := .int) rfl rfl (fun _ => rfl) rfl rfl (by decide) k1_82 ⟨by decide, by decide⟩ d_Pr_init_65 e38 ?_
  have hOM40 : mOk M40 := by rw [e41]; exact mOk_UR hOM37
  refine pf_Pr_33 rfl rfl d_Pr_init_67 h39 e41 ?_
  refine wm_aload_n d_Pr_init_70 rfl rfl ?_
  refine wm_bipush d_Pr_init_71 (by decide) ?_
  have hOM42 : mOk M42 := by rw [e43]; exact mOk_New hOM40
  refine wm_newarrE 0 (atype := .int) (ty := .int) rfl rfl (fun _ => rfl) rfl rfl (by decide) k1_82 ⟨by decide, by decide⟩ d_Pr_init_73 e43 ?_
  have hOM45 : mOk M45 := by rw [e46]; exact mOk_UR hOM42
  refine pf_Pr_36 rfl rfl d_Pr_init_75 h44 e46 ?_
  refine wm_aload_n d_Pr_init_78 rfl rfl ?_
  refine wm_bipush d_Pr_init_79 (by decide) ?_
  have hOM47 : mOk M47 := by rw [e48]; exact mOk_New hOM45
  refine wm_newarrE 0 (atype := .int) (ty := .int) rfl rfl (fun _ => rfl) rfl rfl (by decide) k1_82 ⟨by decide, by decide⟩ d_Pr_init_81 e48 ?_
  have hOM50 : mOk M50 := by rw [e51]; exact mOk_UR hOM47
  refine pf_Pr_39 rfl rfl d_Pr_init_83 h49 e51 ?_
  refine wm_aload_n d_Pr_init_86 rfl rfl ?_
  refine wm_bipush d_Pr_init_87 (by decide) ?_
  have hOM52 : mOk M52 := by rw [e53]; exact mOk_New hOM50
  refine wm_newarrE 0 (atype := .int) (ty := .int) rfl rfl (fun _ => rfl) rfl rfl (by decide) k1_82 ⟨by decide, by decide⟩ d_Pr_init_89 e53 ?_
  have hOM55 : mOk M55 := by rw [e56]; exact mOk_UR hOM52
  refine pf_Pr_42 rfl rfl d_Pr_init_91 h54 e56 ?_
  refine wm_aload_n d_Pr_init_94 rfl rfl ?_
  refine wm_bipush d_Pr_init_95 (by decide) ?_
  have hOM57 : mOk M57 := by rw [e58]; exact mOk_New hOM55
  refine wm_newarrE 0 (atype := .int) (ty := .int) rfl rfl (fun _ => rfl) rfl rfl (by decide) k1_82 ⟨by decide, by decide⟩ d_Pr_init_97 e58 ?_
  have hOM60 : mOk M60 := by rw [e61]; exact mOk_UR hOM57
  refine pf_Pr_45 rfl rfl d_Pr_init_99 h59 e61 ?_
  refine wm_aload_n d_Pr_init_102 rfl rfl ?_
  refine wm_sipush d_Pr_init_103 (by decide) ?_
  have hOM62 : mOk M62 := by rw [e63]; exact mOk_New hOM60
  refine wm_newarrE 0 (atype := .int) (ty := .int) rfl rfl (fun _ => rfl) rfl rfl (by decide) k1_82 ⟨by decide, by decide⟩ d_Pr_init_106 e63 ?_
  have hOM65 : mOk M65 := by rw [e66]; exact mOk_UR hOM62
  refine pf_Pr_48 rfl rfl d_Pr_init_108 h64 e66 ?_
  refine wm_aload_n d_Pr_init_111 rfl rfl ?_
  refine wm_sipush d_Pr_init_112 (by decide) ?_
  have hOM67 : mOk M67 := by rw [e68]; exact mOk_New hOM65
  refine wm_newarrE 0 (atype := .int) (ty := .int) rfl rfl (fun _ => rfl) rfl rfl (by decide) k1_82 ⟨by decide, by decide⟩ d_Pr_init_115 e68 ?_
  have hOM70 : mOk M70 := by rw [e71]; exact mOk_UR hOM67
  refine pf_Pr_51 rfl rfl d_Pr_init_117 h69 e71 ?_
  refine wm_aload_n d_Pr_init_120 rfl rfl ?_
  refine wm_sipush d_Pr_init_121 (by decide) ?_
  have hOM72 : mOk M72 := by rw [e73]; exact mOk_New hOM70
  refine wm_newarrE 0 (atype := .int) (ty := .int) rfl rfl (fun _ => rfl) rfl rfl (by decide) k1_82 ⟨by decide, by decide⟩ d_Pr_init_124 e73 ?_
  have hOM75 : mOk M75 := by rw [e76]; exact mOk_UR hOM72
  refine pf_Pr_54 rfl rfl d_Pr_init_126 h74 e76 ?_
  refine wm_return d_Pr_init_129 rfl ?_
  exact ⟨rfl, h⟩
theorem d_Pr_clear_0 : decode y_Pr_clear.2.1 0 = .ok (.aload_n 0, 1) := dc9_42 (by decide +kernel)
theorem d_Pr_clear_1 : decode y_Pr_clear.2.1 1 = .ok (.iconst 0, 1) := dc9_3 (by decide +kernel)
theorem d_Pr_clear_2 : decode y_Pr_clear.2.1 2 = .ok (.putfield 57, 3) := dc9_181 (by decide +kernel)
theorem d_Pr_clear_5 : decode y_Pr_clear.2.1 5 = .ok (.aload_n 0, 1) := dc9_42 (by decide +kernel)
theorem d_Pr_clear_6 : decode y_Pr_clear.2.1 6 = .ok (.iconst 0, 1) := dc9_3 (by decide +kernel)
theorem d_Pr_clear_7 : decode y_Pr_clear.2.1 7 = .ok (.putfield 61, 3) := dc9_181 (by decide +kernel)
theorem d_Pr_clear_10 : decode y_Pr_clear.2.1 10 = .ok (.aload_n 0, 1) := dc9_42 (by decide +kernel)
theorem d_Pr_clear_11 : decode y_Pr_clear.2.1 11 = .ok (.iconst 0, 1) := dc9_3 (by decide +kernel)
theorem d_Pr_clear_12 : decode y_Pr_clear.2.1 12 = .ok (.putfield 64, 3) := dc9_181 (by decide +kernel)
theorem d_Pr_clear_15 : decode y_Pr_clear.2.1 15 = .ok (.aload_n 0, 1) := dc9_42 (by decide +kernel)
theorem d_Pr_clear_16 : decode y_Pr_clear.2.1 16 = .ok (.iconst 0, 1) := dc9_3 (by decide +kernel)
theorem d_Pr_clear_17 : decode y_Pr_clear.2.1 17 = .ok (.putfield 67, 3) := dc9_181 (by decide +kernel)
theorem d_Pr_clear_20 : decode y_Pr_clear.2.1 20 = .ok (.aload_n 0, 1) := dc9_42 (by decide +kernel)
theorem d_Pr_clear_21 : decode y_Pr_clear.2.1 21 = .ok (.iconst (-1), 1) := dc9_2 (by decide +kernel)
theorem d_Pr_clear_22 : decode y_Pr_clear.2.1 22 = .ok (.putfield 70, 3) := dc9_181 (by decide +kernel)
theorem d_Pr_clear_25 : decode y_Pr_clear.2.1 25 = .ok (.aload_n 0, 1) := dc9_42 (by decide +kernel)
theorem d_Pr_clear_26 : decode y_Pr_clear.2.1 26 = .ok (.getfield 45, 3) := dc9_180 (by decide +kernel)
theorem d_Pr_clear_29 : decode y_Pr_clear.2.1 29 = .ok (.iconst 0, 1) := dc9_3 (by decide +kernel)
theorem d_Pr_clear_30 : decode y_Pr_clear.2.1 30 = .ok (.iconst 0, 1) := dc9_3 (by decide +kernel)
theorem d_Pr_clear_31 : decode y_Pr_clear.2.1 31 = .ok (.iastore, 1) := dc9_79 (by decide +kernel)
theorem d_Pr_clear_32 : decode y_Pr_clear.2.1 32 = .ok (.aload_n 0, 1) := dc9_42 (by decide +kernel)
theorem d_Pr_clear_33 : decode y_Pr_clear.2.1 33 = .ok (.getfield 9, 3) := dc9_180 (by decide +kernel)
theorem d_Pr_clear_36 : decode y_Pr_clear.2.1 36 = .ok (.arraylength, 1) := dc9_190 (by decide +kernel)
theorem d_Pr_clear_37 : decode y_Pr_clear.2.1 37 = .ok (.istore_n 2, 1) := dc9_61 (by decide +kernel)
theorem d_Pr_clear_38 : decode y_Pr_clear.2.1 38 = .ok (.iconst 0, 1) := dc9_3 (by decide +kernel)
theorem d_Pr_clear_39 : decode y_Pr_clear.2.1 39 = .ok (.istore_n 3, 1) := dc9_62 (by decide +kernel)
theorem d_Pr_clear_40 : decode y_Pr_clear.2.1 40 = .ok (.iload_n 3, 1) := dc9_29 (by decide +kernel)
theorem d_Pr_clear_41 : decode y_Pr_clear.2.1 41 = .ok (.bipush 31, 2) := dc9_16 (by decide +kernel)
theorem d_Pr_clear_43 : decode y_Pr_clear.2.1 43 = .ok (.if_icmp .ge 18, 3) := dc9_162 (by decide +kernel)
theorem d_Pr_clear_46 : decode y_Pr_clear.2.1 46 = .ok (.iload_n 2, 1) := dc9_28 (by decide +kernel)
theorem d_Pr_clear_47 : decode y_Pr_clear.2.1 47 = .ok (.iload_n 1, 1) := dc9_27 (by decide +kernel)
theorem d_Pr_clear_48 : decode y_Pr_clear.2.1 48 = .ok (.if_icmp .ge 13, 3) := dc9_162 (by decide +kernel)
theorem d_Pr_clear_51 : decode y_Pr_clear.2.1 51 = .ok (.iload_n 2, 1) := dc9_28 (by decide +kernel)
theorem d_Pr_clear_52 : decode y_Pr_clear.2.1 52 = .ok (.iconst 2, 1) := dc9_5 (by decide +kernel)
theorem d_Pr_clear_53 : decode y_Pr_clear.2.1 53 = .ok (.imul, 1) := dc9_104 (by decide +kernel)
theorem d_Pr_clear_54 : decode y_Pr_clear.2.1 54 = .ok (.istore_n 2, 1) := dc9_61 (by decide +kernel)
theorem d_Pr_clear_55 : decode y_Pr_clear.2.1 55 = .ok (.iinc 3 1, 3) := by decide +kernel
theorem d_Pr_clear_58 : decode y_Pr_clear.2.1 58 = .ok (.goto (-18), 3) := dc9_167 (by decide +kernel)
theorem d_Pr_clear_61 : decode y_Pr_clear.2.1 61 = .ok (.iload_n 2, 1) := dc9_28 (by decide +kernel)
theorem d_Pr_clear_62 : decode y_Pr_clear.2.1 62 = .ok (.aload_n 0, 1) := dc9_42 (by decide +kernel)
theorem d_Pr_clear_63 : decode y_Pr_clear.2.1 63 = .ok (.getfield 9, 3) := dc9_180 (by decide +kernel)
theorem d_Pr_clear_66 : decode y_Pr_clear.2.1 66 = .ok (.arraylength, 1) := dc9_190 (by decide +kernel)
theorem d_Pr_clear_67 : decode y_Pr_clear.2.1 67 = .ok (.if_icmp .le 17, 3) := dc9_164 (by decide +kernel)
theorem d_Pr_clear_70 : decode y_Pr_clear.2.1 70 = .ok (.aload_n 0, 1) := dc9_42 (by decide +kernel)
theorem d_Pr_clear_71 : decode y_Pr_clear.2.1 71 = .ok (.iload_n 2, 1) := dc9_28 (by decide +kernel)
theorem d_Pr_clear_84 : decode y_Pr_clear.2.1 84 = .ok (.return_, 1) := dc9_177 (by decide +kernel)
theorem d_Pr_clear_72 : decode y_Pr_clear.2.1 72 = .ok (.newarray .int, 2) := by decide +kernel
theorem d_Pr_clear_74 : decode y_Pr_clear.2.1 74 = .ok (.putfield 9, 3) := dc9_181 (by decide +kernel)
theorem d_Pr_clear_77 : decode y_Pr_clear.2.1 77 = .ok (.aload_n 0, 1) := dc9_42 (by decide +kernel)
theorem d_Pr_clear_78 : decode y_Pr_clear.2.1 78 = .ok (.iload_n 2, 1) := dc9_28 (by decide +kernel)
theorem d_Pr_clear_79 : decode y_Pr_clear.2.1 79 = .ok (.newarray .int, 2) := by decide +kernel
theorem d_Pr_clear_81 : decode y_Pr_clear.2.1 81 = .ok (.putfield 15, 3) := dc9_181 (by decide +kernel)
def h_Pr_clear_40 (G : mG) (d : Nat) (a0 : Nat) (l1 : Int) (l2 : Int) (l3 : Int) (M : mM) (Q : mM → Prop) : Prop := mWm G y_Pr_clear d 40 [vr a0, vi l1, vi l2, vi l3] [] M (fun r9 M9 => r9 = none ∧ Q M9)
theorem k_Pr_clear {G : mG} {d : Nat} {a0 : Nat} {l1 : Int} {M : mM} {Q : mM → Prop} (hO : mOk M) (hi_l1 : i32 l1)
    (h : mK M a0 = 6 ∧ ∀ M2, M2 = mUI M a0 2 0 → ∀ M4, M4 = mUI M2 a0 3 0 → ∀ M6, M6 = mUI M4 a0 7 0 → ∀ M8, M8 = mUI M6 a0 12 0 → ∀ M10, M10 = mUI M8 a0 11 (-1) → mK M10 (mR M10 a0 16) = 30 ∧ ((0 : Int) ≤ 0 ∧ 0 < (mN M10 (mR M10 a0 16) : Int)) ∧ ∀ M14, M14 = mUI M10 (mR M10 a0 16) 0 0 → mK M14 (mR M14 a0 0) = 30 ∧ h_Pr_clear_40 G d a0 l1 (mN M14 (mR M14 a0 0) : Int) 0 M14 Q) :
    Cv G y_Pr_clear d [vr a0, vi l1] M Q := by
  refine wm_open (y := y_Pr_clear) rfl (Nat.le_of_ble_eq_true rfl) (L := [vr a0, vi l1, vd, vd]) rfl ?_
  obtain ⟨h1, h⟩ := h
  obtain ⟨M2, e3⟩ : ∃ M2, M2 = mUI M a0 2 0 := ⟨_, rfl⟩
  replace h := h M2 e3
  obtain ⟨M4, e5⟩ : ∃ M4, M4 = mUI M2 a0 3 0 := ⟨_, rfl⟩
  replace h := h M4 e5
  obtain ⟨M6, e7⟩ : ∃ M6, M6 = mUI M4 a0 7 0 := ⟨_, rfl⟩
  replace h := h M6 e7
  obtain ⟨M8, e9⟩ : ∃ M8, M8 = mUI M6 a0 12 0 := ⟨_, rfl⟩
  replace h := h M8 e9
  obtain ⟨M10, e11⟩ : ∃ M10, M10 = mUI M8 a0 11 (-1) := ⟨_, rfl⟩
  replace h := h M10 e11
  obtain ⟨h12, h⟩ := h
  obtain ⟨h13, h⟩ := h
  obtain ⟨M14, e15⟩ : ∃ M14, M14 = mUI M10 (mR M10 a0 16) 0 0 := ⟨_, rfl⟩
  replace h := h M14 e15
  obtain ⟨h16, h⟩ := h
  refine wm_aload_n d_Pr_clear_0 rfl rfl ?_
  refine wm_iconst d_Pr_clear_1 ?_
  have hOM2 : mOk M2 := by rw [e3]; exact mOk_UI hO ⟨by decide, by decide⟩
  refine pf_Pr_57 rfl d_Pr_clear_2 h1 ⟨by decide, by decide⟩ e3 ?_
  refine wm_aload_n d_Pr_clear_5 rfl rfl ?_
  refine wm_iconst d_Pr_clear_6 ?_
  have hOM4 : mOk M4 := by rw [e5]; exact mOk_UI hOM2 ⟨by decide, by decide⟩
  refine pf_Pr_61 rfl d_Pr_clear_7 (by rw [e3]; exact h1) ⟨by decide, by decide⟩ e5 ?_
  refine wm_aload_n d_Pr_clear_10 rfl rfl ?_
  refine wm_iconst d_Pr_clear_11 ?_
  have hOM6 : mOk M6 := by rw [e7]; exact mOk_UI hOM4 ⟨by decide, by decide⟩
  refine pf_Pr_64 rfl d_Pr_clear_12 (by rw [e5, e3]; exact h1) ⟨by decide, by decide⟩ e7 ?_
  refine wm_aload_n d_Pr_clear_15 rfl rfl ?_
  refine wm_iconst d_Pr_clear_16 ?_
  have hOM8 : mOk M8 := by rw [e9]; exact mOk_UI hOM6 ⟨by decide, by decide⟩
  refine pf_Pr_67 rfl d_Pr_clear_17 (by rw [e7, e5, e3]; exact h1) ⟨by decide, by decide⟩ e9 ?_
  refine wm_aload_n d_Pr_clear_20 rfl rfl ?_
  refine wm_iconst d_Pr_clear_21 ?_
  have hOM10 : mOk M10 := by rw [e11]; exact mOk_UI hOM8 ⟨by decide, by decide⟩
  refine pf_Pr_70 rfl d_Pr_clear_22 (by rw [e9, e7, e5, e3]; exact h1) ⟨by decide, by decide⟩ e11 ?_
  refine wm_aload_n d_Pr_clear_25 rfl rfl ?_
  refine gf_Pr_45 rfl d_Pr_clear_26 (by rw [e11, e9, e7, e5, e3]; exact h1) ?_
  refine wm_iconst d_Pr_clear_29 ?_
  refine wm_iconst d_Pr_clear_30 ?_
  have hOM14 : mOk M14 := by rw [e15]; exact mOk_UI hOM10 ⟨by decide, by decide⟩
  refine wm_iastE d_Pr_clear_31 h12 h13 ⟨by decide, by decide⟩ e15 ?_
  refine wm_aload_n d_Pr_clear_32 rfl rfl ?_
  refine gf_Pr_9 rfl d_Pr_clear_33 (by rw [e15, e11, e9, e7, e5, e3]; exact h1) ?_
  refine wm_alen 0 rfl (fun _ => rfl) d_Pr_clear_36 h16 ?_
  refine wm_istore_n d_Pr_clear_37 rfl (by decide) (L' := [vr a0, vi l1, vi (mN M14 (mR M14 a0 0) : Int), vd]) rfl ?_
  refine wm_iconst d_Pr_clear_38 ?_
  refine wm_istore_n d_Pr_clear_39 rfl (by decide) (L' := [vr a0, vi l1, vi (mN M14 (mR M14 a0 0) : Int), vi 0]) rfl ?_
  exact h
theorem k_Pr_clear_40 {G : mG} {d : Nat} {a0 : Nat} {l1 : Int} {l2 : Int} {l3 : Int} {M : mM} {Q : mM → Prop} (hO : mOk M) (hi_l1 : i32 l1) (hi_l2 : i32 l2) (hi_l3 : i32 l3)
    (h : (((31 ≤ l3) ∨ (l1 ≤ l2)) → (mK M a0 = 6 ∧ mK M (mR M a0 0) = 30 ∧ i32 (mN M (mR M a0 0) : Int) ∧ ((l2 ≤ (mN M (mR M a0 0) : Int)) → (Q M)) ∧ (¬ (l2 ≤ (mN M (mR M a0 0) : Int)) → (((0 : Int) ≤ l2 ∧ l2 ≤ 16777216) ∧ ∀ M30, M30 = mNew M 30 (Int.toNat l2) (Int.toNat l2) → mK M30 a0 = 6 ∧ ∀ M33, M33 = mUR M30 a0 0 (mZ M) → ((0 : Int) ≤ l2 ∧ l2 ≤ 16777216) ∧ ∀ M36, M36 = mNew M33 30 (Int.toNat l2) (Int.toNat l2) → mK M36 a0 = 6 ∧ ∀ M39, M39 = mUR M36 a0 1 (mZ M33) → Q M39)))) ∧ (¬ ((31 ≤ l3) ∨ (l1 ≤ l2)) → (h_Pr_clear_40 G d a0 l1 (l2 * 2) (l3 + 1) M Q))) :
    h_Pr_clear_40 G d a0 l1 l2 l3 M Q := by
  unfold h_Pr_clear_40
  refine wm_iload_n d_Pr_clear_40 rfl rfl ?_
  refine wm_bipush d_Pr_clear_41 (by decide) ?_
  have hE0 : ((31 ≤ l3) ∨ (l1 ≤ l2)) → mWm G y_Pr_clear d 61 [vr a0, vi l1, vi l2, vi l3] [] M (fun r9 M9 => r9 = none ∧ Q M9) := by
    intro q20
    have h := h.1 q20
    obtain ⟨h21, h⟩ := h
    obtain ⟨h22, h⟩ := h
    obtain ⟨h27, h⟩ := h
    refine wm_iload_n d_Pr_clear_61 rfl rfl ?_
    refine wm_aload_n d_Pr_clear_62 rfl rfl ?_
    refine gf_Pr_9 rfl d_Pr_clear_63 h21 ?_
    refine wm_alen 0 rfl (fun _ => rfl) d_Pr_clear_66 h22 ?_
    refine wm_icmp_le (tgt := 84) d_Pr_clear_67 rfl hi_l2 h27 (fun c28 => ?_) (fun c28 => ?_)
    · replace h := h.1 c28
      refine wm_return d_Pr_clear_84 rfl ?_
      exact ⟨rfl, h⟩
    · replace h := h.2 c28
      obtain ⟨h29, h⟩ := h
      obtain ⟨M30, e31⟩ : ∃ M30, M30 = mNew M 30 (Int.toNat l2) (Int.toNat l2) := ⟨_, rfl⟩
      replace h := h M30 e31
      obtain ⟨h32, h⟩ := h
      obtain ⟨M33, e34⟩ : ∃ M33, M33 = mUR M30 a0 0 (mZ M) := ⟨_, rfl⟩
      replace h := h M33 e34
      obtain ⟨h35, h⟩ := h
      obtain ⟨M36, e37⟩ : ∃ M36, M36 = mNew M33 30 (Int.toNat l2) (Int.toNat l2) := ⟨_, rfl⟩
      replace h := h M36 e37
      obtain ⟨h38, h⟩ := h
      obtain ⟨M39, e40⟩ : ∃ M39, M39 = mUR M36 a0 1 (mZ M33) := ⟨_, rfl⟩
      replace h := h M39 e40
      refine wm_aload_n d_Pr_clear_70 rfl rfl ?_
      refine wm_iload_n d_Pr_clear_71 rfl rfl ?_
      have hOM30 : mOk M30 := by rw [e31]; exact mOk_New hO
      refine wm_newarrE 0 (atype := .int) (ty := .int) rfl rfl (fun _ => rfl) rfl rfl (by decide) k1_82 h29 d_Pr_clear_72 e31 ?_
      have hOM33 : mOk M33 := by rw [e34]; exact mOk_UR hOM30
      refine pf_Pr_9 rfl d_Pr_clear_74 h32 e34 ?_
      refine wm_aload_n d_Pr_clear_77 rfl rfl ?_
      refine wm_iload_n d_Pr_clear_78 rfl rfl ?_
      have hOM36 : mOk M36 := by rw [e37]; exact mOk_New hOM33
      refine wm_newarrE 0 (atype := .int) (ty := .int) rfl rfl (fun _ => rfl) rfl rfl (by decide) k1_82 h35 d_Pr_clear_79 e37 ?_
      have hOM39 : mOk M39 := by rw [e40]; exact mOk_UR hOM36
      refine pf_Pr_15 rfl d_Pr_clear_81 h38 e40 ?_
      refine wm_return d_Pr_clear_84 rfl ?_
      exact ⟨rfl, h⟩
  have hE1 : ¬ ((31 ≤ l3) ∨ (l1 ≤ l2)) → mWm G y_Pr_clear d 51 [vr a0, vi l1, vi l2, vi l3] [] M (fun r9 M9 => r9 = none ∧ Q M9) := by
    intro q41
    have h := h.2 q41
    refine wm_iload_n d_Pr_clear_51 rfl rfl ?_
    refine wm_iconst d_Pr_clear_52 ?_
    refine wm_imul d_Pr_clear_53 ?_
    refine wm_istore_n d_Pr_clear_54 rfl (by decide) (L' := [vr a0, vi l1, vi (l2 * 2), vi l3]) rfl ?_
    refine wm_iinc d_Pr_clear_55 (by decide) rfl (L' := [vr a0, vi l1, vi (l2 * 2), vi (l3 + 1)]) rfl ?_
    refine wm_goto (tgt := 40) d_Pr_clear_58 rfl ?_
    exact h
  clear h
  refine wm_icmp_ge (tgt := 61) d_Pr_clear_43 rfl hi_l3 ⟨by decide, by decide⟩ (fun c18 => ?_) (fun c18 => ?_)
  · exact hE0 (Or.inl c18)
  · refine wm_iload_n d_Pr_clear_46 rfl rfl ?_
    refine wm_iload_n d_Pr_clear_47 rfl rfl ?_
    refine wm_icmp_ge (tgt := 61) d_Pr_clear_48 rfl hi_l2 hi_l1 (fun c17 => ?_) (fun c17 => ?_)
    · exact hE0 (Or.inr c17)
    · exact hE1 (fun z42 => Or.elim z42 c18 c17)
theorem d_Pr_add_0 : decode y_Pr_add.2.1 0 = .ok (.aload_n 0, 1) := dc9_42 (by decide +kernel)
theorem d_Pr_add_1 : decode y_Pr_add.2.1 1 = .ok (.getfield 57, 3) := dc9_180 (by decide +kernel)
theorem d_Pr_add_4 : decode y_Pr_add.2.1 4 = .ok (.aload_n 0, 1) := dc9_42 (by decide +kernel)
theorem d_Pr_add_5 : decode y_Pr_add.2.1 5 = .ok (.getfield 9, 3) := dc9_180 (by decide +kernel)
theorem d_Pr_add_8 : decode y_Pr_add.2.1 8 = .ok (.arraylength, 1) := dc9_190 (by decide +kernel)
theorem d_Pr_add_9 : decode y_Pr_add.2.1 9 = .ok (.if_icmp .ge 33, 3) := dc9_162 (by decide +kernel)
theorem d_Pr_add_12 : decode y_Pr_add.2.1 12 = .ok (.aload_n 0, 1) := dc9_42 (by decide +kernel)
theorem d_Pr_add_13 : decode y_Pr_add.2.1 13 = .ok (.getfield 9, 3) := dc9_180 (by decide +kernel)
theorem d_Pr_add_16 : decode y_Pr_add.2.1 16 = .ok (.aload_n 0, 1) := dc9_42 (by decide +kernel)
theorem d_Pr_add_17 : decode y_Pr_add.2.1 17 = .ok (.getfield 57, 3) := dc9_180 (by decide +kernel)
theorem d_Pr_add_20 : decode y_Pr_add.2.1 20 = .ok (.iload_n 1, 1) := dc9_27 (by decide +kernel)
theorem d_Pr_add_21 : decode y_Pr_add.2.1 21 = .ok (.iastore, 1) := dc9_79 (by decide +kernel)
theorem d_Pr_add_22 : decode y_Pr_add.2.1 22 = .ok (.aload_n 0, 1) := dc9_42 (by decide +kernel)
theorem d_Pr_add_23 : decode y_Pr_add.2.1 23 = .ok (.getfield 15, 3) := dc9_180 (by decide +kernel)
theorem d_Pr_add_26 : decode y_Pr_add.2.1 26 = .ok (.aload_n 0, 1) := dc9_42 (by decide +kernel)
theorem d_Pr_add_27 : decode y_Pr_add.2.1 27 = .ok (.getfield 57, 3) := dc9_180 (by decide +kernel)
theorem d_Pr_add_30 : decode y_Pr_add.2.1 30 = .ok (.iload_n 2, 1) := dc9_28 (by decide +kernel)
theorem d_Pr_add_31 : decode y_Pr_add.2.1 31 = .ok (.iastore, 1) := dc9_79 (by decide +kernel)
theorem d_Pr_add_42 : decode y_Pr_add.2.1 42 = .ok (.aload_n 0, 1) := dc9_42 (by decide +kernel)
theorem d_Pr_add_43 : decode y_Pr_add.2.1 43 = .ok (.getfield 57, 3) := dc9_180 (by decide +kernel)
theorem d_Pr_add_46 : decode y_Pr_add.2.1 46 = .ok (.iconst 1, 1) := dc9_4 (by decide +kernel)
theorem d_Pr_add_47 : decode y_Pr_add.2.1 47 = .ok (.isub, 1) := dc9_100 (by decide +kernel)
theorem d_Pr_add_48 : decode y_Pr_add.2.1 48 = .ok (.ireturn, 1) := dc9_172 (by decide +kernel)
theorem d_Pr_add_32 : decode y_Pr_add.2.1 32 = .ok (.aload_n 0, 1) := dc9_42 (by decide +kernel)
theorem d_Pr_add_33 : decode y_Pr_add.2.1 33 = .ok (.dup, 1) := dc9_89 (by decide +kernel)
theorem d_Pr_add_34 : decode y_Pr_add.2.1 34 = .ok (.getfield 57, 3) := dc9_180 (by decide +kernel)
theorem d_Pr_add_37 : decode y_Pr_add.2.1 37 = .ok (.iconst 1, 1) := dc9_4 (by decide +kernel)
theorem d_Pr_add_38 : decode y_Pr_add.2.1 38 = .ok (.iadd, 1) := dc9_96 (by decide +kernel)
theorem d_Pr_add_39 : decode y_Pr_add.2.1 39 = .ok (.putfield 57, 3) := dc9_181 (by decide +kernel)
theorem k_Pr_add {G : mG} {d : Nat} {a0 : Nat} {l1 : Int} {l2 : Int} {M : mM} {Q : Int → mM → Prop} (hO : mOk M) (hi_l1 : i32 l1) (hi_l2 : i32 l2)
    (h : mK M a0 = 6 ∧ mK M (mR M a0 0) = 30 ∧ i32 (mN M (mR M a0 0) : Int) ∧ (((mN M (mR M a0 0) : Int) ≤ mI M a0 2) → (Q ((mI M a0 2) - 1) M)) ∧ (¬ ((mN M (mR M a0 0) : Int) ≤ mI M a0 2) → (((0 : Int) ≤ mI M a0 2 ∧ mI M a0 2 < (mN M (mR M a0 0) : Int)) ∧ ∀ M13, M13 = mUI M (mR M a0 0) (Int.toNat (mI M a0 2)) l1 → mK M13 (mR M13 a0 1) = 30 ∧ ((0 : Int) ≤ mI M13 a0 2 ∧ mI M13 a0 2 < (mN M13 (mR M13 a0 1) : Int)) ∧ ∀ M17, M17 = mUI M13 (mR M13 a0 1) (Int.toNat (mI M13 a0 2)) l2 → i32 ((mI M17 a0 2) + 1) ∧ ∀ M20, M20 = mUI M17 a0 2 ((mI M17 a0 2) + 1) → Q ((mI M20 a0 2) - 1) M20))) :
    Ci G y_Pr_add d [vr a0, vi l1, vi l2] M Q := by
  refine wm_open (y := y_Pr_add) rfl (Nat.le_of_ble_eq_true rfl) (L := [vr a0, vi l1, vi l2]) rfl ?_
  obtain ⟨h1, h⟩ := h
  obtain ⟨h2, h⟩ := h
  obtain ⟨h10, h⟩ := h
  refine wm_aload_n d_Pr_add_0 rfl rfl ?_
  refine gf_Pr_57 rfl d_Pr_add_1 h1 ?_
  refine wm_aload_n d_Pr_add_4 rfl rfl ?_
  refine gf_Pr_9 rfl d_Pr_add_5 h1 ?_
  refine wm_alen 0 rfl (fun _ => rfl) d_Pr_add_8 h2 ?_
  refine wm_icmp_ge (tgt := 42) d_Pr_add_9 rfl (hO _ _).1 h10 (fun c11 => ?_) (fun c11 => ?_)
  · replace h := h.1 c11
    refine wm_aload_n d_Pr_add_42 rfl rfl ?_
    refine gf_Pr_57 rfl d_Pr_add_43 h1 ?_
    refine wm_iconst d_Pr_add_46 ?_
    refine wm_isub d_Pr_add_47 ?_
    refine wm_ireturn d_Pr_add_48 rfl rfl ?_
    exact ⟨_, rfl, h⟩
  · replace h := h.2 c11
    obtain ⟨h12, h⟩ := h
    obtain ⟨M13, e14⟩ : ∃ M13, M13 = mUI M (mR M a0 0) (Int.toNat (mI M a0 2)) l1 := ⟨_, rfl⟩
    replace h := h M13 e14
    obtain ⟨h15, h⟩ := h
    obtain ⟨h16, h⟩ := h
    obtain ⟨M17, e18⟩ : ∃ M17, M17 = mUI M13 (mR M13 a0 1) (Int.toNat (mI M13 a0 2)) l2 := ⟨_, rfl⟩
    replace h := h M17 e18
    obtain ⟨h19, h⟩ := h
    obtain ⟨M20, e21⟩ : ∃ M20, M20 = mUI M17 a0 2 ((mI M17 a0 2) + 1) := ⟨_, rfl⟩
    replace h := h M20 e21
    refine wm_aload_n d_Pr_add_12 rfl rfl ?_
    refine gf_Pr_9 rfl d_Pr_add_13 h1 ?_
    refine wm_aload_n d_Pr_add_16 rfl rfl ?_
    refine gf_Pr_57 rfl d_Pr_add_17 h1 ?_
    refine wm_iload_n d_Pr_add_20 rfl rfl ?_
    have hOM13 : mOk M13 := by rw [e14]; exact mOk_UI hO hi_l1
    refine wm_iastE d_Pr_add_21 h2 h12 hi_l1 e14 ?_
    refine wm_aload_n d_Pr_add_22 rfl rfl ?_
    refine gf_Pr_15 rfl d_Pr_add_23 (by rw [e14]; exact h1) ?_
    refine wm_aload_n d_Pr_add_26 rfl rfl ?_
    refine gf_Pr_57 rfl d_Pr_add_27 (by rw [e14]; exact h1) ?_
    refine wm_iload_n d_Pr_add_30 rfl rfl ?_
    have hOM17 : mOk M17 := by rw [e18]; exact mOk_UI hOM13 hi_l2
    refine wm_iastE d_Pr_add_31 h15 h16 hi_l2 e18 ?_
    refine wm_aload_n d_Pr_add_32 rfl rfl ?_
    refine wm_dup d_Pr_add_33 rfl ?_
    refine gf_Pr_57 rfl d_Pr_add_34 (by rw [e18, e14]; exact h1) ?_
    refine wm_iconst d_Pr_add_37 ?_
    refine wm_iadd d_Pr_add_38 ?_
    have hOM20 : mOk M20 := by rw [e21]; exact mOk_UI hOM17 h19
    refine pf_Pr_57 rfl d_Pr_add_39 (by rw [e18, e14]; exact h1) h19 e21 ?_
    refine wm_aload_n d_Pr_add_42 rfl rfl ?_
    refine gf_Pr_57 rfl d_Pr_add_43 (by rw [e21, e18, e14]; exact h1) ?_
    refine wm_iconst d_Pr_add_46 ?_
    refine wm_isub d_Pr_add_47 ?_
    refine wm_ireturn d_Pr_add_48 rfl rfl ?_
    exact ⟨_, rfl, h⟩
end
section
theorem d_Re_init_0 : decode y_Re_init.2.1 0 = .ok (.aload_n 0, 1) := dc9_42 (by decide +kernel)
theorem d_Re_init_1 : decode y_Re_init.2.1 1 = .ok (.invokespecial 3, 3) := dc9_183 (by decide +kernel)
theorem d_Re_init_4 : decode y_Re_init.2.1 4 = .ok (.aload_n 0, 1) := dc9_42 (by decide +kernel)
theorem d_Re_init_5 : decode y_Re_init.2.1 5 = .ok (.sipush 1640, 3) := dc9_17 (by decide +kernel)
theorem d_Re_init_8 : decode y_Re_init.2.1 8 = .ok (.newarray .int, 2) := by decide +kernel
theorem d_Re_init_10 : decode y_Re_init.2.1 10 = .ok (.putfield 11, 3) := dc9_181 (by decide +kernel)
theorem d_Re_init_13 : decode y_Re_init.2.1 13 = .ok (.aload_n 0, 1) := dc9_42 (by decide +kernel)
theorem d_Re_init_14 : decode y_Re_init.2.1 14 = .ok (.bipush 41, 2) := dc9_16 (by decide +kernel)
theorem d_Re_init_16 : decode y_Re_init.2.1 16 = .ok (.anewarray 15, 3) := dc9_189 (by decide +kernel)
theorem d_Re_init_19 : decode y_Re_init.2.1 19 = .ok (.putfield 17, 3) := dc9_181 (by decide +kernel)
theorem d_Re_init_22 : decode y_Re_init.2.1 22 = .ok (.aload_n 0, 1) := dc9_42 (by decide +kernel)
theorem d_Re_init_23 : decode y_Re_init.2.1 23 = .ok (.sipush 1640, 3) := dc9_17 (by decide +kernel)
theorem d_Re_init_26 : decode y_Re_init.2.1 26 = .ok (.newarray .int, 2) := by decide +kernel
theorem d_Re_init_28 : decode y_Re_init.2.1 28 = .ok (.putfield 21, 3) := dc9_181 (by decide +kernel)
theorem d_Re_init_31 : decode y_Re_init.2.1 31 = .ok (.aload_n 0, 1) := dc9_42 (by decide +kernel)
theorem d_Re_init_32 : decode y_Re_init.2.1 32 = .ok (.bipush 40, 2) := dc9_16 (by decide +kernel)
theorem d_Re_init_34 : decode y_Re_init.2.1 34 = .ok (.newarray .int, 2) := by decide +kernel
theorem d_Re_init_36 : decode y_Re_init.2.1 36 = .ok (.putfield 24, 3) := dc9_181 (by decide +kernel)
theorem d_Re_init_39 : decode y_Re_init.2.1 39 = .ok (.aload_n 0, 1) := dc9_42 (by decide +kernel)
theorem d_Re_init_40 : decode y_Re_init.2.1 40 = .ok (.bipush 41, 2) := dc9_16 (by decide +kernel)
theorem d_Re_init_42 : decode y_Re_init.2.1 42 = .ok (.newarray .int, 2) := by decide +kernel
theorem d_Re_init_44 : decode y_Re_init.2.1 44 = .ok (.putfield 27, 3) := dc9_181 (by decide +kernel)
theorem d_Re_init_47 : decode y_Re_init.2.1 47 = .ok (.aload_n 0, 1) := dc9_42 (by decide +kernel)
theorem d_Re_init_48 : decode y_Re_init.2.1 48 = .ok (.bipush 41, 2) := dc9_16 (by decide +kernel)
theorem d_Re_init_50 : decode y_Re_init.2.1 50 = .ok (.newarray .int, 2) := by decide +kernel
theorem d_Re_init_52 : decode y_Re_init.2.1 52 = .ok (.putfield 30, 3) := dc9_181 (by decide +kernel)
theorem d_Re_init_55 : decode y_Re_init.2.1 55 = .ok (.aload_n 0, 1) := dc9_42 (by decide +kernel)
theorem d_Re_init_56 : decode y_Re_init.2.1 56 = .ok (.new 15, 3) := dc9_187 (by decide +kernel)
theorem d_Re_init_59 : decode y_Re_init.2.1 59 = .ok (.dup, 1) := dc9_89 (by decide +kernel)
theorem d_Re_init_60 : decode y_Re_init.2.1 60 = .ok (.invokespecial 33, 3) := dc9_183 (by decide +kernel)
theorem d_Re_init_63 : decode y_Re_init.2.1 63 = .ok (.putfield 34, 3) := dc9_181 (by decide +kernel)
theorem d_Re_init_66 : decode y_Re_init.2.1 66 = .ok (.iconst 0, 1) := dc9_3 (by decide +kernel)
theorem d_Re_init_67 : decode y_Re_init.2.1 67 = .ok (.istore_n 1, 1) := dc9_60 (by decide +kernel)
theorem d_Re_init_68 : decode y_Re_init.2.1 68 = .ok (.iload_n 1, 1) := dc9_27 (by decide +kernel)
theorem d_Re_init_69 : decode y_Re_init.2.1 69 = .ok (.bipush 41, 2) := dc9_16 (by decide +kernel)
theorem d_Re_init_71 : decode y_Re_init.2.1 71 = .ok (.if_icmp .ge 22, 3) := dc9_162 (by decide +kernel)
theorem d_Re_init_93 : decode y_Re_init.2.1 93 = .ok (.return_, 1) := dc9_177 (by decide +kernel)
theorem d_Re_init_74 : decode y_Re_init.2.1 74 = .ok (.aload_n 0, 1) := dc9_42 (by decide +kernel)
theorem d_Re_init_75 : decode y_Re_init.2.1 75 = .ok (.getfield 17, 3) := dc9_180 (by decide +kernel)
theorem d_Re_init_78 : decode y_Re_init.2.1 78 = .ok (.iload_n 1, 1) := dc9_27 (by decide +kernel)
theorem d_Re_init_79 : decode y_Re_init.2.1 79 = .ok (.new 15, 3) := dc9_187 (by decide +kernel)
theorem d_Re_init_82 : decode y_Re_init.2.1 82 = .ok (.dup, 1) := dc9_89 (by decide +kernel)
theorem d_Re_init_83 : decode y_Re_init.2.1 83 = .ok (.invokespecial 33, 3) := dc9_183 (by decide +kernel)
theorem d_Re_init_86 : decode y_Re_init.2.1 86 = .ok (.aastore, 1) := dc9_83 (by decide +kernel)
theorem d_Re_init_87 : decode y_Re_init.2.1 87 = .ok (.iinc 1 1, 3) := by decide +kernel
theorem d_Re_init_90 : decode y_Re_init.2.1 90 = .ok (.goto (-22), 3) := dc9_167 (by decide +kernel)
def h_Re_init_68 (G : mG) (d : Nat) (a0 : Nat) (l1 : Int) (M : mM) (Q : mM → Prop) : Prop := mWm G y_Re_init (d + 1) 68 [vr a0, vi l1] [] M (fun r9 M9 => r9 = none ∧ Q M9)
theorem k_Re_init {G : mG} {d : Nat} {a0 : Nat} {M : mM} {Q : mM → Prop} (hO : mOk M)
    (h : 0 < a0 ∧ ∀ M2, M2 = mNew M 30 1640 1640 → mK M2 a0 = 12 ∧ ∀ M5, M5 = mUR M2 a0 0 (mZ M) → ∀ M7, M7 = mNew M5 34 41 41 → mK M7 a0 = 12 ∧ ∀ M10, M10 = mUR M7 a0 1 (mZ M5) → ∀ M12, M12 = mNew M10 30 1640 1640 → mK M12 a0 = 12 ∧ ∀ M15, M15 = mUR M12 a0 2 (mZ M10) → ∀ M17, M17 = mNew M15 30 40 40 → mK M17 a0 = 12 ∧ ∀ M20, M20 = mUR M17 a0 3 (mZ M15) → ∀ M22, M22 = mNew M20 30 41 41 → mK M22 a0 = 12 ∧ ∀ M25, M25 = mUR M22 a0 4 (mZ M20) → ∀ M27, M27 = mNew M25 30 41 41 → mK M27 a0 = 12 ∧ ∀ M30, M30 = mUR M27 a0 5 (mZ M25) → ∀ M32, M32 = mNew M30 10 0 2 → Cv G y_Na_init d [vr (mZ M30)] M32 (fun M34 => mOk M34 ∧ (mK M34 a0 = 12 ∧ ∀ M38, M38 = mUR M34 a0 6 (mZ M30) → h_Re_init_68 G d a0 0 M38 Q))) :
    Cv G y_Re_init (d + 1) [vr a0] M Q := by
  refine wm_open (y := y_Re_init) rfl (Nat.le_of_ble_eq_true rfl) (L := [vr a0, vd]) rfl ?_
  obtain ⟨h1, h⟩ := h
  obtain ⟨M2, e3⟩ : ∃ M2, M2 = mNew M 30 1640 1640 := ⟨_, rfl⟩
  replace h := h M2 e3
  obtain ⟨h4, h⟩ := h
  obtain ⟨M5, e6⟩ : ∃ M5, M5 = mUR M2 a0 0 (mZ M) := ⟨_, rfl⟩
  replace h := h M5 e6
  obtain ⟨M7, e8⟩ : ∃ M7, M7 = mNew M5 34 41 41 := ⟨_, rfl⟩
  replace h := h M7 e8
  obtain ⟨h9, h⟩ := h
  obtain ⟨M10, e11⟩ : ∃ M10, M10 = mUR M7 a0 1 (mZ M5) := ⟨_, rfl⟩
  replace h := h M10 e11
  obtain ⟨M12, e13⟩ : ∃ M12, M12 = mNew M10 30 1640 1640 := ⟨_, rfl⟩
  replace h := h M12 e13
  obtain ⟨h14, h⟩ := h
  obtain ⟨M15, e16⟩ : ∃ M15, M15 = mUR M12 a0 2 (mZ M10) := ⟨_, rfl⟩
  replace h := h M15 e16
  obtain ⟨M17, e18⟩ : ∃ M17, M17 = mNew M15 30 40 40 := ⟨_, rfl⟩
  replace h := h M17 e18
  obtain ⟨h19, h⟩ := h
  obtain ⟨M20, e21⟩ : ∃ M20, M20 = mUR M17 a0 3 (mZ M15) := ⟨_, rfl⟩
  replace h := h M20 e21
  obtain ⟨M22, e23⟩ : ∃ M22, M22 = mNew M20 30 41 41 := ⟨_, rfl⟩
  replace h := h M22 e23
  obtain ⟨h24, h⟩ := h
  obtain ⟨M25, e26⟩ : ∃ M25, M25 = mUR M22 a0 4 (mZ M20) := ⟨_, rfl⟩
  replace h := h M25 e26
  obtain ⟨M27, e28⟩ : ∃ M27, M27 = mNew M25 30 41 41 := ⟨_, rfl⟩
  replace h := h M27 e28
  obtain ⟨h29, h⟩ := h
  obtain ⟨M30, e31⟩ : ∃ M30, M30 = mUR M27 a0 5 (mZ M25) := ⟨_, rfl⟩
  replace h := h M30 e31
  obtain ⟨M32, e33⟩ : ∃ M32, M32 = mNew M30 10 0 2 := ⟨_, rfl⟩
  replace h := h M32 e33
  refine wm_aload_n d_Re_init_0 rfl rfl ?_
  refine wm_objInit trivial k3_75 kO_inst kO_code (Nat.le_of_ble_eq_true rfl) d_Re_init_1 h1 ?_
  refine wm_aload_n d_Re_init_4 rfl rfl ?_
  refine wm_sipush d_Re_init_5 (by decide) ?_
  have hOM2 : mOk M2 := by rw [e3]; exact mOk_New hO
  refine wm_newarrE 0 (atype := .int) (ty := .int) rfl rfl (fun _ => rfl) rfl rfl (by decide) k1_82 ⟨by decide, by decide⟩ d_Re_init_8 e3 ?_
  have hOM5 : mOk M5 := by rw [e6]; exact mOk_UR hOM2
  refine pf_Re_11 rfl rfl d_Re_init_10 h4 e6 ?_
  refine wm_aload_n d_Re_init_13 rfl rfl ?_
  refine wm_bipush d_Re_init_14 (by decide) ?_
  have hOM7 : mOk M7 := by rw [e8]; exact mOk_New hOM5
  refine wm_anewE 4 rfl (fun _ => rfl) k3_76 k3_77 ⟨by decide, by decide⟩ d_Re_init_16 e8 ?_
  have hOM10 : mOk M10 := by rw [e11]; exact mOk_UR hOM7
  refine pf_Re_17 rfl rfl d_Re_init_19 h9 e11 ?_
  refine wm_aload_n d_Re_init_22 rfl rfl ?_
  refine wm_sipush d_Re_init_23 (by decide) ?_
  have hOM12 : mOk M12 := by rw [e13]; exact mOk_New hOM10
  refine wm_newarrE 0 (atype := .int) (ty := .int) rfl rfl (fun _ => rfl) rfl rfl (by decide) k1_82 ⟨by decide, by decide⟩ d_Re_init_26 e13 ?_
  have hOM15 : mOk M15 := by rw [e16]; exact mOk_UR hOM12
  refine pf_Re_21 rfl rfl d_Re_init_28 h14 e16 ?_
  refine wm_aload_n d_Re_init_31 rfl rfl ?_
  refine wm_bipush d_Re_init_32 (by decide) ?_
  have hOM17 : mOk M17 := by rw [e18]; exact mOk_New hOM15
  refine wm_newarrE 0 (atype := .int) (ty := .int) rfl rfl (fun _ => rfl) rfl rfl (by decide) k1_82 ⟨by decide, by decide⟩ d_Re_init_34 e18 ?_
  have hOM20 : mOk M20 := by rw [e21]; exact mOk_UR hOM17
  refine pf_Re_24 rfl rfl d_Re_init_36 h19 e21 ?_
  refine wm_aload_n d_Re_init_39 rfl rfl ?_
  refine wm_bipush d_Re_init_40 (by decide) ?_
  have hOM22 : mOk M22 := by rw [e23]; exact mOk_New hOM20
  refine wm_newarrE 0 (atype := .int) (ty := .int) rfl rfl (fun _ => rfl) rfl rfl (by decide) k1_82 ⟨by decide, by decide⟩ d_Re_init_42 e23 ?_
  have hOM25 : mOk M25 := by rw [e26]; exact mOk_UR hOM22
  refine pf_Re_27 rfl rfl d_Re_init_44 h24 e26 ?_
  refine wm_aload_n d_Re_init_47 rfl rfl ?_
  refine wm_bipush d_Re_init_48 (by decide) ?_
  have hOM27 : mOk M27 := by rw [e28]; exact mOk_New hOM25
  refine wm_newarrE 0 (atype := .int) (ty := .int) rfl rfl (fun _ => rfl) rfl rfl (by decide) k1_82 ⟨by decide, by decide⟩ d_Re_init_50 e28 ?_
  have hOM30 : mOk M30 := by rw [e31]; exact mOk_UR hOM27
  refine pf_Re_30 rfl rfl d_Re_init_52 h29 e31 ?_
  refine wm_aload_n d_Re_init_55 rfl rfl ?_
  have hOM32 : mOk M32 := by rw [e33]; exact mOk_New hOM30
  refine nf_Re_15 rfl d_Re_init_56 e33 ?_
  refine wm_dup d_Re_init_59 rfl ?_
  refine cf_Re_33 rfl d_Re_init_60 (by rw [e33]; exact if_pos rfl) (Nat.le_of_ble_eq_true rfl) (Cv.mono h (fun M34 h => ?_))
  obtain ⟨hOM34, h⟩ := h
  obtain ⟨h37, h⟩ := h
  obtain ⟨M38, e39⟩ : ∃ M38, M38 = mUR M34 a0 6 (mZ M30) := ⟨_, rfl⟩
  replace h := h M38 e39
  have hOM38 : mOk M38 := by rw [e39]; exact mOk_UR hOM34
  refine pf_Re_34 rfl rfl d_Re_init_63 h37 e39 ?_
  refine wm_iconst d_Re_init_66 ?_
  refine wm_istore_n d_Re_init_67 rfl (by decide) (L' := [vr a0, vi 0]) rfl ?_
  exact h
theorem k_Re_init_68 {G : mG} {d : Nat} {a0 : Nat} {l1 : Int} {M : mM} {Q : mM → Prop} (hO : mOk M) (hi_l1 : i32 l1)
    (h : ((41 ≤ l1) → (Q M)) ∧ (¬ (41 ≤ l1) → (mK M a0 = 12 ∧ ∀ M43, M43 = mNew M 10 0 2 → Cv G y_Na_init d [vr (mZ M)] M43 (fun M45 => mOk M45 ∧ (mK M45 (mR M a0 1) = 34 ∧ ((0 : Int) ≤ l1 ∧ l1 < (mN M45 (mR M a0 1) : Int)) ∧ mK M45 (mZ M) = 10 ∧ ∀ M51, M51 = mUR M45 (mR M a0 1) (Int.toNat l1) (mZ M) → h_Re_init_68 G d a0 (l1 + 1) M51 Q))))) :
    h_Re_init_68 G d a0 l1 M Q := by
  unfold h_Re_init_68
  refine wm_iload_n d_Re_init_68 rfl rfl ?_
  refine wm_bipush d_Re_init_69 (by decide) ?_
  refine wm_icmp_ge (tgt := 93) d_Re_init_71 rfl hi_l1 ⟨by decide, by decide⟩ (fun c41 => ?_) (fun c41 => ?_)
  · replace h := h.1 c41
    refine wm_return d_Re_init_93 rfl ?_
    exact ⟨rfl, h⟩
  · replace h := h.2 c41
    obtain ⟨h42, h⟩ := h
    obtain ⟨M43, e44⟩ : ∃ M43, M43 = mNew M 10 0 2 := ⟨_, rfl⟩
    replace h := h M43 e44
    refine wm_aload_n d_Re_init_74 rfl rfl ?_
    refine gf_Re_17 rfl d_Re_init_75 h42 ?_
    refine wm_iload_n d_Re_init_78 rfl rfl ?_
    have hOM43 : mOk M43 := by rw [e44]; exact mOk_New hO
    refine nf_Re_15 rfl d_Re_init_79 e44 ?_
    refine wm_dup d_Re_init_82 rfl ?_
    refine cf_Re_33 rfl d_Re_init_83 (by rw [e44]; exact if_pos rfl) (Nat.le_of_ble_eq_true rfl) (Cv.mono h (fun M45 h => ?_))
    obtain ⟨hOM45, h⟩ := h
    obtain ⟨h48, h⟩ := h
    obtain ⟨h49, h⟩ := h
    obtain ⟨h50, h⟩ := h
    obtain ⟨M51, e52⟩ : ∃ M51, M51 = mUR M45 (mR M a0 1) (Int.toNat l1) (mZ M) := ⟨_, rfl⟩
    replace h := h M51 e52
    have hOM51 : mOk M51 := by rw [e52]; exact mOk_UR hOM45
    refine wm_aastE (t := 4) (c := 9) rfl (fun _ => rfl) rfl rfl d_Re_init_86 h48 h49 h50 e52 ?_
    refine wm_iinc d_Re_init_87 (by decide) rfl (L' := [vr a0, vi (l1 + 1)]) rfl ?_
    refine wm_goto (tgt := 68) d_Re_init_90 rfl ?_
    exact h
theorem d_Re_settle_0 : decode y_Re_settle.2.1 0 = .ok (.aload_n 0, 1) := dc9_42 (by decide +kernel)
theorem d_Re_settle_1 : decode y_Re_settle.2.1 1 = .ok (.getfield 34, 3) := dc9_180 (by decide +kernel)
theorem d_Re_settle_4 : decode y_Re_settle.2.1 4 = .ok (.iconst 1, 1) := dc9_4 (by decide +kernel)
theorem d_Re_settle_5 : decode y_Re_settle.2.1 5 = .ok (.invokevirtual 38, 3) := dc9_182 (by decide +kernel)
theorem d_Re_settle_8 : decode y_Re_settle.2.1 8 = .ok (.iconst 0, 1) := dc9_3 (by decide +kernel)
theorem d_Re_settle_9 : decode y_Re_settle.2.1 9 = .ok (.istore_n 3, 1) := dc9_62 (by decide +kernel)
theorem d_Re_settle_10 : decode y_Re_settle.2.1 10 = .ok (.iload_n 3, 1) := dc9_29 (by decide +kernel)
theorem d_Re_settle_11 : decode y_Re_settle.2.1 11 = .ok (.iload_n 1, 1) := dc9_27 (by decide +kernel)
theorem d_Re_settle_12 : decode y_Re_settle.2.1 12 = .ok (.if_icmp .gt 19, 3) := dc9_163 (by decide +kernel)
theorem d_Re_settle_31 : decode y_Re_settle.2.1 31 = .ok (.iconst 0, 1) := dc9_3 (by decide +kernel)
theorem d_Re_settle_32 : decode y_Re_settle.2.1 32 = .ok (.istore_n 3, 1) := dc9_62 (by decide +kernel)
theorem d_Re_settle_15 : decode y_Re_settle.2.1 15 = .ok (.aload_n 0, 1) := dc9_42 (by decide +kernel)
theorem d_Re_settle_16 : decode y_Re_settle.2.1 16 = .ok (.getfield 17, 3) := dc9_180 (by decide +kernel)
theorem d_Re_settle_19 : decode y_Re_settle.2.1 19 = .ok (.iload_n 3, 1) := dc9_29 (by decide +kernel)
theorem d_Re_settle_20 : decode y_Re_settle.2.1 20 = .ok (.aaload, 1) := dc9_50 (by decide +kernel)
theorem d_Re_settle_21 : decode y_Re_settle.2.1 21 = .ok (.iconst 0, 1) := dc9_3 (by decide +kernel)
theorem d_Re_settle_22 : decode y_Re_settle.2.1 22 = .ok (.invokevirtual 38, 3) := dc9_182 (by decide +kernel)
theorem d_Re_settle_25 : decode y_Re_settle.2.1 25 = .ok (.iinc 3 1, 3) := by decide +kernel
theorem d_Re_settle_28 : decode y_Re_settle.2.1 28 = .ok (.goto (-18), 3) := dc9_167 (by decide +kernel)
theorem d_Re_settle_33 : decode y_Re_settle.2.1 33 = .ok (.iload_n 3, 1) := dc9_29 (by decide +kernel)
theorem d_Re_settle_34 : decode y_Re_settle.2.1 34 = .ok (.getstatic 42, 3) := dc9_178 (by decide +kernel)
theorem d_Re_settle_37 : decode y_Re_settle.2.1 37 = .ok (.arraylength, 1) := dc9_190 (by decide +kernel)
theorem d_Re_settle_38 : decode y_Re_settle.2.1 38 = .ok (.if_icmp .ge 53, 3) := dc9_162 (by decide +kernel)
theorem d_Re_settle_41 : decode y_Re_settle.2.1 41 = .ok (.aload_n 0, 1) := dc9_42 (by decide +kernel)
theorem d_Re_settle_42 : decode y_Re_settle.2.1 42 = .ok (.getfield 34, 3) := dc9_180 (by decide +kernel)
theorem d_Re_settle_91 : decode y_Re_settle.2.1 91 = .ok (.return_, 1) := dc9_177 (by decide +kernel)
theorem d_Re_settle_45 : decode y_Re_settle.2.1 45 = .ok (.invokevirtual 45, 3) := dc9_182 (by decide +kernel)
theorem d_Re_settle_48 : decode y_Re_settle.2.1 48 = .ok (.iload_n 2, 1) := dc9_28 (by decide +kernel)
theorem d_Re_settle_49 : decode y_Re_settle.2.1 49 = .ok (.if_icmp .gt 42, 3) := dc9_163 (by decide +kernel)
theorem d_Re_settle_52 : decode y_Re_settle.2.1 52 = .ok (.aload_n 0, 1) := dc9_42 (by decide +kernel)
theorem d_Re_settle_53 : decode y_Re_settle.2.1 53 = .ok (.iload_n 1, 1) := dc9_27 (by decide +kernel)
theorem d_Re_settle_54 : decode y_Re_settle.2.1 54 = .ok (.getstatic 42, 3) := dc9_178 (by decide +kernel)
theorem d_Re_settle_57 : decode y_Re_settle.2.1 57 = .ok (.iload_n 3, 1) := dc9_29 (by decide +kernel)
theorem d_Re_settle_58 : decode y_Re_settle.2.1 58 = .ok (.iaload, 1) := dc9_46 (by decide +kernel)
theorem d_Re_settle_59 : decode y_Re_settle.2.1 59 = .ok (.invokevirtual 49, 3) := dc9_182 (by decide +kernel)
theorem d_Re_settle_62 : decode y_Re_settle.2.1 62 = .ok (.ifCond .eq 23, 3) := dc9_153 (by decide +kernel)
theorem d_Re_settle_65 : decode y_Re_settle.2.1 65 = .ok (.aload_n 0, 1) := dc9_42 (by decide +kernel)
theorem d_Re_settle_66 : decode y_Re_settle.2.1 66 = .ok (.iload_n 1, 1) := dc9_27 (by decide +kernel)
theorem d_Re_settle_67 : decode y_Re_settle.2.1 67 = .ok (.getstatic 42, 3) := dc9_178 (by decide +kernel)
theorem d_Re_settle_70 : decode y_Re_settle.2.1 70 = .ok (.iload_n 3, 1) := dc9_29 (by decide +kernel)
theorem d_Re_settle_71 : decode y_Re_settle.2.1 71 = .ok (.iaload, 1) := dc9_46 (by decide +kernel)
theorem d_Re_settle_85 : decode y_Re_settle.2.1 85 = .ok (.iinc 3 1, 3) := by decide +kernel
theorem d_Re_settle_88 : decode y_Re_settle.2.1 88 = .ok (.goto (-55), 3) := dc9_167 (by decide +kernel)
theorem d_Re_settle_72 : decode y_Re_settle.2.1 72 = .ok (.invokevirtual 53, 3) := dc9_182 (by decide +kernel)
theorem d_Re_settle_75 : decode y_Re_settle.2.1 75 = .ok (.aload_n 0, 1) := dc9_42 (by decide +kernel)
theorem d_Re_settle_76 : decode y_Re_settle.2.1 76 = .ok (.iload_n 1, 1) := dc9_27 (by decide +kernel)
theorem d_Re_settle_77 : decode y_Re_settle.2.1 77 = .ok (.getstatic 42, 3) := dc9_178 (by decide +kernel)
theorem d_Re_settle_80 : decode y_Re_settle.2.1 80 = .ok (.iload_n 3, 1) := dc9_29 (by decide +kernel)
theorem d_Re_settle_81 : decode y_Re_settle.2.1 81 = .ok (.iaload, 1) := dc9_46 (by decide +kernel)
theorem d_Re_settle_82 : decode y_Re_settle.2.1 82 = .ok (.invokevirtual 57, 3) := dc9_182 (by decide +kernel)
def h_Re_settle_10 (G : mG) (d : Nat) (a0 : Nat) (l1 : Int) (l2 : Int) (l3 : Int) (M : mM) (Q : mM → Prop) : Prop := mWm G y_Re_settle (d + 1) 10 [vr a0, vi l1, vi l2, vi l3] [] M (fun r9 M9 => r9 = none ∧ Q M9)
def h_Re_settle_33 (G : mG) (d : Nat) (a0 : Nat) (l1 : Int) (l2 : Int) (l3 : Int) (M : mM) (Q : mM → Prop) : Prop := mWm G y_Re_settle (d + 1) 33 [vr a0, vi l1, vi l2, vi l3] [] M (fun r9 M9 => r9 = none ∧ Q M9)
theorem k_Re_settle {G : mG} {d : Nat} {a0 : Nat} {l1 : Int} {l2 : Int} {M : mM} {Q : mM → Prop} (hO : mOk M) (hi_l1 : i32 l1) (hi_l2 : i32 l2)
    (h : mK M a0 = 12 ∧ mK M (mR M a0 6) = 10 ∧ Cv G y_Na_put0 d [vr (mR M a0 6), vi 1] M (fun M3 => mOk M3 ∧ (h_Re_settle_10 G d a0 l1 l2 0 M3 Q))) :
    Cv G y_Re_settle (d + 1) [vr a0, vi l1, vi l2] M Q := by
  refine wm_open (y := y_Re_settle) rfl (Nat.le_of_ble_eq_true rfl) (L := [vr a0, vi l1, vi l2, vd]) rfl ?_
  obtain ⟨h1, h⟩ := h
  obtain ⟨h2, h⟩ := h
  refine wm_aload_n d_Re_settle_0 rfl rfl ?_
  refine gf_Re_34 rfl d_Re_settle_1 h1 ?_
  refine wm_iconst d_Re_settle_4 ?_
  refine cf_Re_38 rfl d_Re_settle_5 h2 (Nat.le_of_ble_eq_true rfl) (Cv.mono h (fun M3 h => ?_))
  obtain ⟨hOM3, h⟩ := h
  refine wm_iconst d_Re_settle_8 ?_
  refine wm_istore_n d_Re_settle_9 rfl (by decide) (L' := [vr a0, vi l1, vi l2, vi 0]) rfl ?_
  exact h
theorem k_Re_settle_10 {G : mG} {d : Nat} {a0 : Nat} {l1 : Int} {l2 : Int} {l3 : Int} {M : mM} {Q : mM → Prop} (hO : mOk M) (hi_l1 : i32 l1) (hi_l2 : i32 l2) (hi_l3 : i32 l3)
    (h : ((l1 < l3) → (h_Re_settle_33 G d a0 l1 l2 0 M Q)) ∧ (¬ (l1 < l3) → (mK M a0 = 12 ∧ mK M (mR M a0 1) = 34 ∧ ((0 : Int) ≤ l3 ∧ l3 < (mN M (mR M a0 1) : Int)) ∧ mK M (mR M (mR M a0 1) (Int.toNat l3)) = 10 ∧ Cv G y_Na_put0 d [vr (mR M (mR M a0 1) (Int.toNat l3)), vi 0] M (fun M12 => mOk M12 ∧ (h_Re_settle_10 G d a0 l1 l2 (l3 + 1) M12 Q))))) :
    h_Re_settle_10 G d a0 l1 l2 l3 M Q := by
  unfold h_Re_settle_10
  refine wm_iload_n d_Re_settle_10 rfl rfl ?_
  refine wm_iload_n d_Re_settle_11 rfl rfl ?_
  refine wm_icmp_gt (tgt := 31) d_Re_settle_12 rfl hi_l3 hi_l1 (fun c7 => ?_) (fun c7 => ?_)
  · replace h := h.1 c7
    refine wm_iconst d_Re_settle_31 ?_
    refine wm_istore_n d_Re_settle_32 rfl (by decide) (L' := [vr a0, vi l1, vi l2, vi 0]) rfl ?_
    exact h
  · replace h := h.2 c7
    obtain ⟨h8, h⟩ := h
    obtain ⟨h9, h⟩ := h
    obtain ⟨h10, h⟩ := h
    obtain ⟨h11, h⟩ := h
    refine wm_aload_n d_Re_settle_15 rfl rfl ?_
    refine gf_Re_17 rfl d_Re_settle_16 h8 ?_
    refine wm_iload_n d_Re_settle_19 rfl rfl ?_
    refine wm_aald4 d_Re_settle_20 h9 h10 ?_
    refine wm_iconst d_Re_settle_21 ?_
    refine cf_Re_38 rfl d_Re_settle_22 h11 (Nat.le_of_ble_eq_true rfl) (Cv.mono h (fun M12 h => ?_))
    obtain ⟨hOM12, h⟩ := h
    refine wm_iinc d_Re_settle_25 (by decide) rfl (L' := [vr a0, vi l1, vi l2, vi (l3 + 1)]) rfl ?_
    refine wm_goto (tgt := 10) d_Re_settle_28 rfl ?_
    exact h
theorem k_Re_settle_33 {G : mG} {d : Nat} {a0 : Nat} {l1 : Int} {l2 : Int} {l3 : Int} {M : mM} {Q : mM → Prop} (hO : mOk M) (hi_l1 : i32 l1) (hi_l2 : i32 l2) (hi_l3 : i32 l3)
    (h : ((36 ≤ l3) → (Q M)) ∧ (¬ (36 ≤ l3) → (mK M a0 = 12 ∧ mK M (mR M a0 6) = 10 ∧ Ci G y_Na_bits d [vr (mR M a0 6)] M (fun x20 M19 => i32 x20 ∧ mOk M19 ∧ (((l2 < x20) → (Q M19)) ∧ (¬ (l2 < x20) → (((0 : Int) ≤ l3 ∧ l3 < 36) ∧ mK M19 a0 = 12 ∧ Ci G y_Re_eliminate d [vr a0, vi l1, vi (prL.getD (Int.toNat l3) 0)] M19 (fun x27 M26 => i32 x27 ∧ mOk M26 ∧ (((x27 = 0) → (h_Re_settle_33 G d a0 l1 l2 (l3 + 1) M26 Q)) ∧ (¬ (x27 = 0) → (((0 : Int) ≤ l3 ∧ l3 < 36) ∧ mK M26 a0 = 12 ∧ Cv G y_Re_substitute d [vr a0, vi l1, vi (prL.getD (Int.toNat l3) 0)] M26 (fun M35 => mOk M35 ∧ (((0 : Int) ≤ l3 ∧ l3 < 36) ∧ mK M35 a0 = 12 ∧ Cv G y_Re_combine d [vr a0, vi l1, vi (prL.getD (Int.toNat l3) 0)] M35 (fun M40 => mOk M40 ∧ (h_Re_settle_33 G d a0 l1 l2 (l3 + 1) M40 Q))))))))))))))) :
    h_Re_settle_33 G d a0 l1 l2 l3 M Q := by
  unfold h_Re_settle_33
  refine wm_iload_n d_Re_settle_33 rfl rfl ?_
  refine wm_prLen k8_117 d_Re_settle_34 d_Re_settle_37 ?_
  refine wm_icmp_ge (tgt := 91) d_Re_settle_38 rfl hi_l3 ⟨by decide, by decide⟩ (fun c16 => ?_) (fun c16 => ?_)
  · replace h := h.1 c16
    refine wm_return d_Re_settle_91 rfl ?_
    exact ⟨rfl, h⟩
  · replace h := h.2 c16
    obtain ⟨h17, h⟩ := h
    obtain ⟨h18, h⟩ := h
    refine wm_aload_n d_Re_settle_41 rfl rfl ?_
    refine gf_Re_34 rfl d_Re_settle_42 h17 ?_
    refine cf_Re_45 rfl d_Re_settle_45 h18 (Nat.le_of_ble_eq_true rfl) (Ci.mono h (fun x20 M19 h => ?_))
    obtain ⟨h21, hOM19, h⟩ := h
    refine wm_iload_n d_Re_settle_48 rfl rfl ?_
    refine wm_icmp_gt (tgt := 91) d_Re_settle_49 rfl h21 hi_l2 (fun c23 => ?_) (fun c23 => ?_)
    · replace h := h.1 c23
      refine wm_return d_Re_settle_91 rfl ?_
      exact ⟨rfl, h⟩
    · replace h := h.2 c23
      obtain ⟨h24, h⟩ := h
      obtain ⟨h25, h⟩ := h
      refine wm_aload_n d_Re_settle_52 rfl rfl ?_
      refine wm_iload_n d_Re_settle_53 rfl rfl ?_
      refine wm_prAt k8_117 d_Re_settle_54 (k0 := 3) rfl h24 (Or.inl ⟨_, rfl, rfl, rfl⟩) d_Re_settle_57 d_Re_settle_58 ?_
      refine cf_Re_49 rfl d_Re_settle_59 h25 (Nat.le_of_ble_eq_true rfl) (Ci.mono h (fun x27 M26 h => ?_))
      obtain ⟨h28, hOM26, h⟩ := h
      refine wm_if_eq (tgt := 85) d_Re_settle_62 rfl h28 (fun c32 => ?_) (fun c32 => ?_)
      · replace h := h.1 c32
        refine wm_iinc d_Re_settle_85 (by decide) rfl (L' := [vr a0, vi l1, vi l2, vi (l3 + 1)]) rfl ?_
        refine wm_goto (tgt := 33) d_Re_settle_88 rfl ?_
        exact h
      · replace h := h.2 c32
        obtain ⟨h33, h⟩ := h
        obtain ⟨h34, h⟩ := h
        refine wm_aload_n d_Re_settle_65 rfl rfl ?_
        refine wm_iload_n d_Re_settle_66 rfl rfl ?_
        refine wm_prAt k8_117 d_Re_settle_67 (k0 := 3) rfl h33 (Or.inl ⟨_, rfl, rfl, rfl⟩) d_Re_settle_70 d_Re_settle_71 ?_
        refine cf_Re_53 rfl d_Re_settle_72 h34 (Nat.le_of_ble_eq_true rfl) (Cv.mono h (fun M35 h => ?_))
        obtain ⟨hOM35, h⟩ := h
        obtain ⟨h38, h⟩ := h
        obtain ⟨h39, h⟩ := h
        refine wm_aload_n d_Re_settle_75 rfl rfl ?_
        refine wm_iload_n d_Re_settle_76 rfl rfl ?_
        refine wm_prAt k8_117 d_Re_settle_77 (k0 := 3) rfl h38 (Or.inl ⟨_, rfl, rfl, rfl⟩) d_Re_settle_80 d_Re_settle_81 ?_
        refine cf_Re_57 rfl d_Re_settle_82 h39 (Nat.le_of_ble_eq_true rfl) (Cv.mono h (fun M40 h => ?_))
        obtain ⟨hOM40, h⟩ := h
        refine wm_iinc d_Re_settle_85 (by decide) rfl (L' := [vr a0, vi l1, vi l2, vi (l3 + 1)]) rfl ?_
        refine wm_goto (tgt := 33) d_Re_settle_88 rfl ?_
        exact h
theorem d_Re_eliminate_0 : decode y_Re_eliminate.2.1 0 = .ok (.iconst 0, 1) := dc9_3 (by decide +kernel)
theorem d_Re_eliminate_1 : decode y_Re_eliminate.2.1 1 = .ok (.istore_n 3, 1) := dc9_62 (by decide +kernel)
theorem d_Re_eliminate_2 : decode y_Re_eliminate.2.1 2 = .ok (.iload_n 3, 1) := dc9_29 (by decide +kernel)
theorem d_Re_eliminate_3 : decode y_Re_eliminate.2.1 3 = .ok (.iload_n 1, 1) := dc9_27 (by decide +kernel)
theorem d_Re_eliminate_4 : decode y_Re_eliminate.2.1 4 = .ok (.bipush 41, 2) := dc9_16 (by decide +kernel)
theorem d_Re_eliminate_6 : decode y_Re_eliminate.2.1 6 = .ok (.imul, 1) := dc9_104 (by decide +kernel)
theorem d_Re_eliminate_7 : decode y_Re_eliminate.2.1 7 = .ok (.if_icmp .ge 41, 3) := dc9_162 (by decide +kernel)
theorem d_Re_eliminate_48 : decode y_Re_eliminate.2.1 48 = .ok (.lconst 1, 1) := dc9_10 (by decide +kernel)
theorem d_Re_eliminate_49 : decode y_Re_eliminate.2.1 49 = .ok (.lstore_n 3, 1) := dc9_66 (by decide +kernel)
theorem d_Re_eliminate_50 : decode y_Re_eliminate.2.1 50 = .ok (.iconst 0, 1) := dc9_3 (by decide +kernel)
theorem d_Re_eliminate_51 : decode y_Re_eliminate.2.1 51 = .ok (.istore 5, 2) := dc9_54 (by decide +kernel)
theorem d_Re_eliminate_10 : decode y_Re_eliminate.2.1 10 = .ok (.aload_n 0, 1) := dc9_42 (by decide +kernel)
theorem d_Re_eliminate_11 : decode y_Re_eliminate.2.1 11 = .ok (.getfield 21, 3) := dc9_180 (by decide +kernel)
theorem d_Re_eliminate_14 : decode y_Re_eliminate.2.1 14 = .ok (.iload_n 3, 1) := dc9_29 (by decide +kernel)
theorem d_Re_eliminate_15 : decode y_Re_eliminate.2.1 15 = .ok (.aload_n 0, 1) := dc9_42 (by decide +kernel)
theorem d_Re_eliminate_16 : decode y_Re_eliminate.2.1 16 = .ok (.getfield 11, 3) := dc9_180 (by decide +kernel)
theorem d_Re_eliminate_19 : decode y_Re_eliminate.2.1 19 = .ok (.iload_n 3, 1) := dc9_29 (by decide +kernel)
theorem d_Re_eliminate_20 : decode y_Re_eliminate.2.1 20 = .ok (.iaload, 1) := dc9_46 (by decide +kernel)
theorem d_Re_eliminate_21 : decode y_Re_eliminate.2.1 21 = .ok (.ifCond .ge 14, 3) := dc9_156 (by decide +kernel)
theorem d_Re_eliminate_35 : decode y_Re_eliminate.2.1 35 = .ok (.aload_n 0, 1) := dc9_42 (by decide +kernel)
theorem d_Re_eliminate_36 : decode y_Re_eliminate.2.1 36 = .ok (.getfield 11, 3) := dc9_180 (by decide +kernel)
theorem d_Re_eliminate_39 : decode y_Re_eliminate.2.1 39 = .ok (.iload_n 3, 1) := dc9_29 (by decide +kernel)
theorem d_Re_eliminate_40 : decode y_Re_eliminate.2.1 40 = .ok (.iaload, 1) := dc9_46 (by decide +kernel)
theorem d_Re_eliminate_24 : decode y_Re_eliminate.2.1 24 = .ok (.aload_n 0, 1) := dc9_42 (by decide +kernel)
theorem d_Re_eliminate_25 : decode y_Re_eliminate.2.1 25 = .ok (.getfield 11, 3) := dc9_180 (by decide +kernel)
theorem d_Re_eliminate_28 : decode y_Re_eliminate.2.1 28 = .ok (.iload_n 3, 1) := dc9_29 (by decide +kernel)
theorem d_Re_eliminate_29 : decode y_Re_eliminate.2.1 29 = .ok (.iaload, 1) := dc9_46 (by decide +kernel)
theorem d_Re_eliminate_30 : decode y_Re_eliminate.2.1 30 = .ok (.iload_n 2, 1) := dc9_28 (by decide +kernel)
theorem d_Re_eliminate_31 : decode y_Re_eliminate.2.1 31 = .ok (.iadd, 1) := dc9_96 (by decide +kernel)
theorem d_Re_eliminate_32 : decode y_Re_eliminate.2.1 32 = .ok (.goto 9, 3) := dc9_167 (by decide +kernel)
theorem d_Re_eliminate_41 : decode y_Re_eliminate.2.1 41 = .ok (.iastore, 1) := dc9_79 (by decide +kernel)
theorem d_Re_eliminate_42 : decode y_Re_eliminate.2.1 42 = .ok (.iinc 3 1, 3) := by decide +kernel
theorem d_Re_eliminate_45 : decode y_Re_eliminate.2.1 45 = .ok (.goto (-43), 3) := dc9_167 (by decide +kernel)
theorem d_Re_eliminate_53 : decode y_Re_eliminate.2.1 53 = .ok (.iload 5, 2) := dc9_21 (by decide +kernel)
theorem d_Re_eliminate_55 : decode y_Re_eliminate.2.1 55 = .ok (.iload_n 1, 1) := dc9_27 (by decide +kernel)
theorem d_Re_eliminate_56 : decode y_Re_eliminate.2.1 56 = .ok (.if_icmp .ge 127, 3) := dc9_162 (by decide +kernel)
theorem d_Re_eliminate_183 : decode y_Re_eliminate.2.1 183 = .ok (.aload_n 0, 1) := dc9_42 (by decide +kernel)
theorem d_Re_eliminate_184 : decode y_Re_eliminate.2.1 184 = .ok (.getfield 30, 3) := dc9_180 (by decide +kernel)
theorem d_Re_eliminate_187 : decode y_Re_eliminate.2.1 187 = .ok (.iload_n 1, 1) := dc9_27 (by decide +kernel)
theorem d_Re_eliminate_188 : decode y_Re_eliminate.2.1 188 = .ok (.lload_n 3, 1) := dc9_33 (by decide +kernel)
theorem d_Re_eliminate_189 : decode y_Re_eliminate.2.1 189 = .ok (.l2i, 1) := dc9_136 (by decide +kernel)
theorem d_Re_eliminate_190 : decode y_Re_eliminate.2.1 190 = .ok (.iastore, 1) := dc9_79 (by decide +kernel)
theorem d_Re_eliminate_191 : decode y_Re_eliminate.2.1 191 = .ok (.iconst 1, 1) := dc9_4 (by decide +kernel)
theorem d_Re_eliminate_192 : decode y_Re_eliminate.2.1 192 = .ok (.ireturn, 1) := dc9_172 (by decide +kernel)
theorem d_Re_eliminate_59 : decode y_Re_eliminate.2.1 59 = .ok (.iload 5, 2) := dc9_21 (by decide +kernel)
theorem d_Re_eliminate_61 : decode y_Re_eliminate.2.1 61 = .ok (.istore 6, 2) := dc9_54 (by decide +kernel)
theorem d_Re_eliminate_63 : decode y_Re_eliminate.2.1 63 = .ok (.iload 6, 2) := dc9_21 (by decide +kernel)
theorem d_Re_eliminate_65 : decode y_Re_eliminate.2.1 65 = .ok (.iload_n 1, 1) := dc9_27 (by decide +kernel)
theorem d_Re_eliminate_66 : decode y_Re_eliminate.2.1 66 = .ok (.if_icmp .ge 25, 3) := dc9_162 (by decide +kernel)
theorem d_Re_eliminate_69 : decode y_Re_eliminate.2.1 69 = .ok (.aload_n 0, 1) := dc9_42 (by decide +kernel)
theorem d_Re_eliminate_70 : decode y_Re_eliminate.2.1 70 = .ok (.getfield 21, 3) := dc9_180 (by decide +kernel)
theorem d_Re_eliminate_73 : decode y_Re_eliminate.2.1 73 = .ok (.iload 6, 2) := dc9_21 (by decide +kernel)
theorem d_Re_eliminate_75 : decode y_Re_eliminate.2.1 75 = .ok (.bipush 41, 2) := dc9_16 (by decide +kernel)
theorem d_Re_eliminate_77 : decode y_Re_eliminate.2.1 77 = .ok (.imul, 1) := dc9_104 (by decide +kernel)
theorem d_Re_eliminate_78 : decode y_Re_eliminate.2.1 78 = .ok (.iload 5, 2) := dc9_21 (by decide +kernel)
theorem d_Re_eliminate_80 : decode y_Re_eliminate.2.1 80 = .ok (.iadd, 1) := dc9_96 (by decide +kernel)
theorem d_Re_eliminate_81 : decode y_Re_eliminate.2.1 81 = .ok (.iaload, 1) := dc9_46 (by decide +kernel)
theorem d_Re_eliminate_82 : decode y_Re_eliminate.2.1 82 = .ok (.ifCond .ne 9, 3) := dc9_154 (by decide +kernel)
theorem d_Re_eliminate_85 : decode y_Re_eliminate.2.1 85 = .ok (.iinc 6 1, 3) := by decide +kernel
theorem d_Re_eliminate_88 : decode y_Re_eliminate.2.1 88 = .ok (.goto (-25), 3) := dc9_167 (by decide +kernel)
theorem d_Re_eliminate_91 : decode y_Re_eliminate.2.1 91 = .ok (.iload 6, 2) := dc9_21 (by decide +kernel)
theorem d_Re_eliminate_93 : decode y_Re_eliminate.2.1 93 = .ok (.iload_n 1, 1) := dc9_27 (by decide +kernel)
theorem d_Re_eliminate_94 : decode y_Re_eliminate.2.1 94 = .ok (.if_icmp .ne 5, 3) := dc9_160 (by decide +kernel)
theorem d_Re_eliminate_97 : decode y_Re_eliminate.2.1 97 = .ok (.iconst 0, 1) := dc9_3 (by decide +kernel)
theorem d_Re_eliminate_98 : decode y_Re_eliminate.2.1 98 = .ok (.ireturn, 1) := dc9_172 (by decide +kernel)
theorem d_Re_eliminate_99 : decode y_Re_eliminate.2.1 99 = .ok (.iload 6, 2) := dc9_21 (by decide +kernel)
theorem d_Re_eliminate_101 : decode y_Re_eliminate.2.1 101 = .ok (.iload 5, 2) := dc9_21 (by decide +kernel)
theorem d_Re_eliminate_103 : decode y_Re_eliminate.2.1 103 = .ok (.if_icmp .le 22, 3) := dc9_164 (by decide +kernel)
theorem d_Re_eliminate_106 : decode y_Re_eliminate.2.1 106 = .ok (.aload_n 0, 1) := dc9_42 (by decide +kernel)
theorem d_Re_eliminate_107 : decode y_Re_eliminate.2.1 107 = .ok (.iload 6, 2) := dc9_21 (by decide +kernel)
theorem d_Re_eliminate_109 : decode y_Re_eliminate.2.1 109 = .ok (.bipush 41, 2) := dc9_16 (by decide +kernel)
theorem d_Re_eliminate_111 : decode y_Re_eliminate.2.1 111 = .ok (.imul, 1) := dc9_104 (by decide +kernel)
theorem d_Re_eliminate_112 : decode y_Re_eliminate.2.1 112 = .ok (.iload 5, 2) := dc9_21 (by decide +kernel)
theorem d_Re_eliminate_114 : decode y_Re_eliminate.2.1 114 = .ok (.bipush 41, 2) := dc9_16 (by decide +kernel)
theorem d_Re_eliminate_116 : decode y_Re_eliminate.2.1 116 = .ok (.imul, 1) := dc9_104 (by decide +kernel)
theorem d_Re_eliminate_117 : decode y_Re_eliminate.2.1 117 = .ok (.invokevirtual 60, 3) := dc9_182 (by decide +kernel)
theorem d_Re_eliminate_120 : decode y_Re_eliminate.2.1 120 = .ok (.iload_n 2, 1) := dc9_28 (by decide +kernel)
theorem d_Re_eliminate_121 : decode y_Re_eliminate.2.1 121 = .ok (.i2l, 1) := dc9_133 (by decide +kernel)
theorem d_Re_eliminate_122 : decode y_Re_eliminate.2.1 122 = .ok (.lload_n 3, 1) := dc9_33 (by decide +kernel)
theorem d_Re_eliminate_123 : decode y_Re_eliminate.2.1 123 = .ok (.lsub, 1) := dc9_101 (by decide +kernel)
theorem d_Re_eliminate_124 : decode y_Re_eliminate.2.1 124 = .ok (.lstore_n 3, 1) := dc9_66 (by decide +kernel)
theorem d_Re_eliminate_125 : decode y_Re_eliminate.2.1 125 = .ok (.lload_n 3, 1) := dc9_33 (by decide +kernel)
theorem d_Re_eliminate_126 : decode y_Re_eliminate.2.1 126 = .ok (.aload_n 0, 1) := dc9_42 (by decide +kernel)
theorem d_Re_eliminate_127 : decode y_Re_eliminate.2.1 127 = .ok (.getfield 21, 3) := dc9_180 (by decide +kernel)
theorem d_Re_eliminate_130 : decode y_Re_eliminate.2.1 130 = .ok (.iload 5, 2) := dc9_21 (by decide +kernel)
theorem d_Re_eliminate_132 : decode y_Re_eliminate.2.1 132 = .ok (.bipush 41, 2) := dc9_16 (by decide +kernel)
theorem d_Re_eliminate_134 : decode y_Re_eliminate.2.1 134 = .ok (.imul, 1) := dc9_104 (by decide +kernel)
theorem d_Re_eliminate_135 : decode y_Re_eliminate.2.1 135 = .ok (.iload 5, 2) := dc9_21 (by decide +kernel)
theorem d_Re_eliminate_137 : decode y_Re_eliminate.2.1 137 = .ok (.iadd, 1) := dc9_96 (by decide +kernel)
theorem d_Re_eliminate_138 : decode y_Re_eliminate.2.1 138 = .ok (.iaload, 1) := dc9_46 (by decide +kernel)
theorem d_Re_eliminate_139 : decode y_Re_eliminate.2.1 139 = .ok (.i2l, 1) := dc9_133 (by decide +kernel)
theorem d_Re_eliminate_140 : decode y_Re_eliminate.2.1 140 = .ok (.lmul, 1) := dc9_105 (by decide +kernel)
theorem d_Re_eliminate_141 : decode y_Re_eliminate.2.1 141 = .ok (.iload_n 2, 1) := dc9_28 (by decide +kernel)
theorem d_Re_eliminate_142 : decode y_Re_eliminate.2.1 142 = .ok (.i2l, 1) := dc9_133 (by decide +kernel)
theorem d_Re_eliminate_143 : decode y_Re_eliminate.2.1 143 = .ok (.lrem, 1) := dc9_113 (by decide +kernel)
theorem d_Re_eliminate_144 : decode y_Re_eliminate.2.1 144 = .ok (.lstore_n 3, 1) := dc9_66 (by decide +kernel)
theorem d_Re_eliminate_145 : decode y_Re_eliminate.2.1 145 = .ok (.aload_n 0, 1) := dc9_42 (by decide +kernel)
theorem d_Re_eliminate_146 : decode y_Re_eliminate.2.1 146 = .ok (.getfield 24, 3) := dc9_180 (by decide +kernel)
theorem d_Re_eliminate_149 : decode y_Re_eliminate.2.1 149 = .ok (.iload 5, 2) := dc9_21 (by decide +kernel)
theorem d_Re_eliminate_151 : decode y_Re_eliminate.2.1 151 = .ok (.aload_n 0, 1) := dc9_42 (by decide +kernel)
theorem d_Re_eliminate_152 : decode y_Re_eliminate.2.1 152 = .ok (.getfield 21, 3) := dc9_180 (by decide +kernel)
theorem d_Re_eliminate_155 : decode y_Re_eliminate.2.1 155 = .ok (.iload 5, 2) := dc9_21 (by decide +kernel)
theorem d_Re_eliminate_157 : decode y_Re_eliminate.2.1 157 = .ok (.bipush 41, 2) := dc9_16 (by decide +kernel)
theorem d_Re_eliminate_159 : decode y_Re_eliminate.2.1 159 = .ok (.imul, 1) := dc9_104 (by decide +kernel)
theorem d_Re_eliminate_160 : decode y_Re_eliminate.2.1 160 = .ok (.iload 5, 2) := dc9_21 (by decide +kernel)
theorem d_Re_eliminate_162 : decode y_Re_eliminate.2.1 162 = .ok (.iadd, 1) := dc9_96 (by decide +kernel)
theorem d_Re_eliminate_163 : decode y_Re_eliminate.2.1 163 = .ok (.iaload, 1) := dc9_46 (by decide +kernel)
theorem d_Re_eliminate_164 : decode y_Re_eliminate.2.1 164 = .ok (.iload_n 2, 1) := dc9_28 (by decide +kernel)
theorem d_Re_eliminate_165 : decode y_Re_eliminate.2.1 165 = .ok (.invokestatic 63, 3) := dc9_184 (by decide +kernel)
theorem d_Re_eliminate_168 : decode y_Re_eliminate.2.1 168 = .ok (.iastore, 1) := dc9_79 (by decide +kernel)
theorem d_Re_eliminate_169 : decode y_Re_eliminate.2.1 169 = .ok (.aload_n 0, 1) := dc9_42 (by decide +kernel)
theorem d_Re_eliminate_170 : decode y_Re_eliminate.2.1 170 = .ok (.iload 5, 2) := dc9_21 (by decide +kernel)
theorem d_Re_eliminate_172 : decode y_Re_eliminate.2.1 172 = .ok (.iload_n 1, 1) := dc9_27 (by decide +kernel)
theorem d_Re_eliminate_173 : decode y_Re_eliminate.2.1 173 = .ok (.iload_n 2, 1) := dc9_28 (by decide +kernel)
theorem d_Re_eliminate_174 : decode y_Re_eliminate.2.1 174 = .ok (.invokevirtual 67, 3) := dc9_182 (by decide +kernel)
theorem d_Re_eliminate_177 : decode y_Re_eliminate.2.1 177 = .ok (.iinc 5 1, 3) := by decide +kernel
theorem d_Re_eliminate_180 : decode y_Re_eliminate.2.1 180 = .ok (.goto (-127), 3) := dc9_167 (by decide +kernel)
def h_Re_eliminate_2 (G : mG) (d : Nat) (a0 : Nat) (l1 : Int) (l2 : Int) (l3 : Int) (M : mM) (Q : Int → mM → Prop) : Prop := mWm G y_Re_eliminate (d + 1) 2 [vr a0, vi l1, vi l2, vi l3, vd, vd, vd] [] M (fun r9 M9 => ∃ x9, r9 = some (vi x9) ∧ Q x9 M9)
def h_Re_eliminate_53 (G : mG) (d : Nat) (a0 : Nat) (l1 : Int) (l2 : Int) (j3 : Int) (l5 : Int) (M : mM) (Q : Int → mM → Prop) : Prop := mWm G y_Re_eliminate (d + 1) 53 [vr a0, vi l1, vi l2, vl j3, vd, vi l5, vd] [] M (fun r9 M9 => ∃ x9, r9 = some (vi x9) ∧ Q x9 M9)
def h_Re_eliminate_63 (G : mG) (d : Nat) (a0 : Nat) (l1 : Int) (l2 : Int) (j3 : Int) (l5 : Int) (l6 : Int) (M : mM) (Q : Int → mM → Prop) : Prop := mWm G y_Re_eliminate (d + 1) 63 [vr a0, vi l1, vi l2, vl j3, vd, vi l5, vi l6] [] M (fun r9 M9 => ∃ x9, r9 = some (vi x9) ∧ Q x9 M9)
def h_Re_eliminate_125 (G : mG) (d : Nat) (a0 : Nat) (l1 : Int) (l2 : Int) (j3 : Int) (l5 : Int) (M : mM) (Q : Int → mM → Prop) : Prop := mWm G y_Re_eliminate (d + 1) 125 [vr a0, vi l1, vi l2, vl j3, vd, vi l5, vd] [] M (fun r9 M9 => ∃ x9, r9 = some (vi x9) ∧ Q x9 M9)
theorem k_Re_eliminate {G : mG} {d : Nat} {a0 : Nat} {l1 : Int} {l2 : Int} {M : mM} {Q : Int → mM → Prop} (hO : mOk M) (hi_l1 : i32 l1) (hi_l2 : i32 l2)
    (h : h_Re_eliminate_2 G d a0 l1 l2 0 M Q) :
    Ci G y_Re_eliminate (d + 1) [vr a0, vi l1, vi l2] M Q := by
  refine wm_open (y := y_Re_eliminate) rfl (Nat.le_of_ble_eq_true rfl) (L := [vr a0, vi l1, vi l2, vd, vd, vd, vd]) rfl ?_
  refine wm_iconst d_Re_eliminate_0 ?_
  refine wm_istore_n d_Re_eliminate_1 rfl (by decide) (L' := [vr a0, vi l1, vi l2, vi 0, vd, vd, vd]) rfl ?_
  exact h
theorem k_Re_eliminate_2 {G : mG} {d : Nat} {a0 : Nat} {l1 : Int} {l2 : Int} {l3 : Int} {M : mM} {Q : Int → mM → Prop} (hO : mOk M) (hi_l1 : i32 l1) (hi_l2 : i32 l2) (hi_l3 : i32 l3)
    (h : i32 (l1 * 41) ∧ ((l1 * 41 ≤ l3) → (h_Re_eliminate_53 G d a0 l1 l2 1 0 M Q)) ∧ (¬ (l1 * 41 ≤ l3) → (mK M a0 = 12 ∧ mK M (mR M a0 0) = 30 ∧ ((0 : Int) ≤ l3 ∧ l3 < (mN M (mR M a0 0) : Int)) ∧ (((0 ≤ mI M (mR M a0 0) (Int.toNat l3)) → ((0 : Int) ≤ l3 ∧ l3 < (mN M (mR M a0 0) : Int))) ∧ (¬ (0 ≤ mI M (mR M a0 0) (Int.toNat l3)) → ((0 : Int) ≤ l3 ∧ l3 < (mN M (mR M a0 0) : Int)))) ∧ ∀ v14 : Int, v14 = (if (0 ≤ mI M (mR M a0 0) (Int.toNat l3)) then mI M (mR M a0 0) (Int.toNat l3) else (mI M (mR M a0 0) (Int.toNat l3)) + l2) → mK M (mR M a0 2) = 30 ∧ ((0 : Int) ≤ l3 ∧ l3 < (mN M (mR M a0 2) : Int)) ∧ i32 v14 ∧ ∀ M20, M20 = mUI M (mR M a0 2) (Int.toNat l3) v14 → h_Re_eliminate_2 G d a0 l1 l2 (l3 + 1) M20 Q))) :
    h_Re_eliminate_2 G d a0 l1 l2 l3 M Q := by
  unfold h_Re_eliminate_2
  obtain ⟨h6, h⟩ := h
  refine wm_iload_n d_Re_eliminate_2 rfl rfl ?_
  refine wm_iload_n d_Re_eliminate_3 rfl rfl ?_
  refine wm_bipush d_Re_eliminate_4 (by decide) ?_
  refine wm_imul d_Re_eliminate_6 ?_
  refine wm_icmp_ge (tgt := 48) d_Re_eliminate_7 rfl hi_l3 h6 (fun c7 => ?_) (fun c7 => ?_)
  · replace h := h.1 c7
    refine wm_lconst (x := 1) d_Re_eliminate_48 rfl ?_
    refine wm_lstore_n d_Re_eliminate_49 rfl (by decide) (L' := [vr a0, vi l1, vi l2, vl 1, vd, vd, vd]) rfl ?_
    refine wm_iconst d_Re_eliminate_50 ?_
    refine wm_istore d_Re_eliminate_51 (by decide) (L' := [vr a0, vi l1, vi l2, vl 1, vd, vi 0, vd]) rfl ?_
    exact h
  · replace h := h.2 c7
    obtain ⟨h8, h⟩ := h
    obtain ⟨h9, h⟩ := h
    obtain ⟨h10, h⟩ := h
    refine wm_aload_n d_Re_eliminate_10 rfl rfl ?_
    refine gf_Re_21 rfl d_Re_eliminate_11 h8 ?_
    refine wm_iload_n d_Re_eliminate_14 rfl rfl ?_
    refine wm_aload_n d_Re_eliminate_15 rfl rfl ?_
    refine gf_Re_11 rfl d_Re_eliminate_16 h8 ?_
    refine wm_iload_n d_Re_eliminate_19 rfl rfl ?_
    refine wm_iald d_Re_eliminate_20 h9 h10 ?_
    obtain ⟨s15, h⟩ := h
    have hJ : ∀ v14 : Int, v14 = (if (0 ≤ mI M (mR M a0 0) (Int.toNat l3)) then mI M (mR M a0 0) (Int.toNat l3) else (mI M (mR M a0 0) (Int.toNat l3)) + l2) → mWm G y_Re_eliminate (d + 1) 41 [vr a0, vi l1, vi l2, vi l3, vd, vd, vd] [vi v14, vi l3, vr (mR M a0 2)] M (fun r9 M9 => ∃ x9, r9 = some (vi x9) ∧ Q x9 M9) := by
      intro v14 e16
      have h := h v14 e16
      obtain ⟨h17, h⟩ := h
      obtain ⟨h18, h⟩ := h
      obtain ⟨h19, h⟩ := h
      obtain ⟨M20, e21⟩ : ∃ M20, M20 = mUI M (mR M a0 2) (Int.toNat l3) v14 := ⟨_, rfl⟩
      replace h := h M20 e21
      have hOM20 : mOk M20 := by rw [e21]; exact mOk_UI hO h19
      refine wm_iastE d_Re_eliminate_41 h17 h18 h19 e21 ?_
      refine wm_iinc d_Re_eliminate_42 (by decide) rfl (L' := [vr a0, vi l1, vi l2, vi (l3 + 1), vd, vd, vd]) rfl ?_
      refine wm_goto (tgt := 2) d_Re_eliminate_45 rfl ?_
      exact h
    clear h
    obtain ⟨s22, s23⟩ := s15
    refine wm_if_ge (tgt := 35) d_Re_eliminate_21 rfl (hO _ _).1 (fun c11 => ?_) (fun c11 => ?_)
    · have s22 := s22 c11
      have h12 := s22
      refine wm_aload_n d_Re_eliminate_35 rfl rfl ?_
      refine gf_Re_11 rfl d_Re_eliminate_36 h8 ?_
      refine wm_iload_n d_Re_eliminate_39 rfl rfl ?_
      refine wm_iald d_Re_eliminate_40 h9 h12 ?_
      exact hJ (mI M (mR M a0 0) (Int.toNat l3)) (if_pos c11).symm
    · have s23 := s23 c11
      have h13 := s23
      refine wm_aload_n d_Re_eliminate_24 rfl rfl ?_
      refine gf_Re_11 rfl d_Re_eliminate_25 h8 ?_
      refine wm_iload_n d_Re_eliminate_28 rfl rfl ?_
      refine wm_iald d_Re_eliminate_29 h9 h13 ?_
      refine wm_iload_n d_Re_eliminate_30 rfl rfl ?_
      refine wm_iadd d_Re_eliminate_31 ?_
      refine wm_goto (tgt := 41) d_Re_eliminate_32 rfl ?_
      exact hJ ((mI M (mR M a0 0) (Int.toNat l3)) + l2) (if_neg c11).symm
theorem k_Re_eliminate_53 {G : mG} {d : Nat} {a0 : Nat} {l1 : Int} {l2 : Int} {j3 : Int} {l5 : Int} {M : mM} {Q : Int → mM → Prop} (hO : mOk M) (hi_l1 : i32 l1) (hi_l2 : i32 l2) (hi_j3 : i64 j3) (hi_l5 : i32 l5)
    (h : ((l1 ≤ l5) → (mK M a0 = 12 ∧ mK M (mR M a0 5) = 30 ∧ ((0 : Int) ≤ l1 ∧ l1 < (mN M (mR M a0 5) : Int)) ∧ i32 j3 ∧ ∀ M35, M35 = mUI M (mR M a0 5) (Int.toNat l1) j3 → Q 1 M35)) ∧ (¬ (l1 ≤ l5) → (h_Re_eliminate_63 G d a0 l1 l2 j3 l5 l5 M Q))) :
    h_Re_eliminate_53 G d a0 l1 l2 j3 l5 M Q := by
  unfold h_Re_eliminate_53
  refine wm_iload d_Re_eliminate_53 rfl ?_
  refine wm_iload_n d_Re_eliminate_55 rfl rfl ?_
  refine wm_icmp_ge (tgt := 183) d_Re_eliminate_56 rfl hi_l5 hi_l1 (fun c30 => ?_) (fun c30 => ?_)
  · replace h := h.1 c30
    obtain ⟨h31, h⟩ := h
    obtain ⟨h32, h⟩ := h
    obtain ⟨h33, h⟩ := h
    obtain ⟨h34, h⟩ := h
    obtain ⟨M35, e36⟩ : ∃ M35, M35 = mUI M (mR M a0 5) (Int.toNat l1) j3 := ⟨_, rfl⟩
    replace h := h M35 e36
    refine wm_aload_n d_Re_eliminate_183 rfl rfl ?_
    refine gf_Re_30 rfl d_Re_eliminate_184 h31 ?_
    refine wm_iload_n d_Re_eliminate_187 rfl rfl ?_
    refine wm_lload_n d_Re_eliminate_188 rfl rfl ?_
    refine wm_l2i d_Re_eliminate_189 ?_
    have hOM35 : mOk M35 := by rw [e36]; exact mOk_UI hO h34
    refine wm_iastE d_Re_eliminate_190 h32 h33 h34 e36 ?_
    refine wm_iconst d_Re_eliminate_191 ?_
    refine wm_ireturn d_Re_eliminate_192 rfl (m_nb (by decide)) ?_
    exact ⟨_, rfl, h⟩
  · replace h := h.2 c30
    refine wm_iload d_Re_eliminate_59 rfl ?_
    refine wm_istore d_Re_eliminate_61 (by decide) (L' := [vr a0, vi l1, vi l2, vl j3, vd, vi l5, vi l5]) rfl ?_
    exact h
theorem k_Re_eliminate_63 {G : mG} {d : Nat} {a0 : Nat} {l1 : Int} {l2 : Int} {j3 : Int} {l5 : Int} {l6 : Int} {M : mM} {Q : Int → mM → Prop} (hO : mOk M) (hi_l1 : i32 l1) (hi_l2 : i32 l2) (hi_j3 : i64 j3) (hi_l5 : i32 l5) (hi_l6 : i32 l6)
    (h : (¬ (l1 ≤ l6) → (mK M a0 = 12 ∧ mK M (mR M a0 2) = 30 ∧ ((0 : Int) ≤ (l6 * 41) + l5 ∧ (l6 * 41) + l5 < (mN M (mR M a0 2) : Int)))) ∧ (((l1 ≤ l6) ∨ (¬ (mI M (mR M a0 2) (Int.toNat ((l6 * 41) + l5)) = 0))) → (((l6 = l1) → (Q 0 M)) ∧ (¬ (l6 = l1) → (((l6 ≤ l5) → (h_Re_eliminate_125 G d a0 l1 l2 j3 l5 M Q)) ∧ (¬ (l6 ≤ l5) → (mK M a0 = 12 ∧ Cv G y_Re_swapRows d [vr a0, vi (l6 * 41), vi (l5 * 41)] M (fun M50 => mOk M50 ∧ (h_Re_eliminate_125 G d a0 l1 l2 (l2 - j3) l5 M50 Q)))))))) ∧ (¬ ((l1 ≤ l6) ∨ (¬ (mI M (mR M a0 2) (Int.toNat ((l6 * 41) + l5)) = 0))) → (h_Re_eliminate_63 G d a0 l1 l2 j3 l5 (l6 + 1) M Q))) :
    h_Re_eliminate_63 G d a0 l1 l2 j3 l5 l6 M Q := by
  unfold h_Re_eliminate_63
  refine wm_iload d_Re_eliminate_63 rfl ?_
  refine wm_iload_n d_Re_eliminate_65 rfl rfl ?_
  obtain ⟨s42, h⟩ := h
  have hE0 : ((l1 ≤ l6) ∨ (¬ (mI M (mR M a0 2) (Int.toNat ((l6 * 41) + l5)) = 0))) → mWm G y_Re_eliminate (d + 1) 91 [vr a0, vi l1, vi l2, vl j3, vd, vi l5, vi l6] [] M (fun r9 M9 => ∃ x9, r9 = some (vi x9) ∧ Q x9 M9) := by
    intro q43
    have h := h.1 q43
    refine wm_iload d_Re_eliminate_91 rfl ?_
    refine wm_iload_n d_Re_eliminate_93 rfl rfl ?_
    refine wm_icmp_ne (tgt := 99) d_Re_eliminate_94 rfl hi_l6 hi_l1 (fun c46 => ?_) (fun c46 => ?_)
    · replace h := h.2 c46
      refine wm_iload d_Re_eliminate_99 rfl ?_
      refine wm_iload d_Re_eliminate_101 rfl ?_
      refine wm_icmp_le (tgt := 125) d_Re_eliminate_103 rfl hi_l6 hi_l5 (fun c48 => ?_) (fun c48 => ?_)
      · replace h := h.1 c48
        refine wm_less (L' := [vr a0, vi l1, vi l2, vl j3, vd, vi l5, vd]) ⟨Or.inr rfl, Or.inr rfl, Or.inr rfl, Or.inr rfl, Or.inl rfl, Or.inr rfl, Or.inl rfl, trivial⟩ ?_
        exact h
      · replace h := h.2 c48
        obtain ⟨h49, h⟩ := h
        refine wm_aload_n d_Re_eliminate_106 rfl rfl ?_
        refine wm_iload d_Re_eliminate_107 rfl ?_
        refine wm_bipush d_Re_eliminate_109 (by decide) ?_
        refine wm_imul d_Re_eliminate_111 ?_
        refine wm_iload d_Re_eliminate_112 rfl ?_
        refine wm_bipush d_Re_eliminate_114 (by decide) ?_
        refine wm_imul d_Re_eliminate_116 ?_
        refine cf_Re_60 rfl d_Re_eliminate_117 h49 (Nat.le_of_ble_eq_true rfl) (Cv.mono h (fun M50 h => ?_))
        obtain ⟨hOM50, h⟩ := h
        refine wm_iload_n d_Re_eliminate_120 rfl rfl ?_
        refine wm_i2l d_Re_eliminate_121 hi_l2 ?_
        refine wm_lload_n d_Re_eliminate_122 rfl rfl ?_
        refine wm_lsub d_Re_eliminate_123 ?_
        refine wm_lstore_n d_Re_eliminate_124 rfl (by decide) (L' := [vr a0, vi l1, vi l2, vl (l2 - j3), vd, vi l5, vi l6]) rfl ?_
        refine wm_less (L' := [vr a0, vi l1, vi l2, vl (l2 - j3), vd, vi l5, vd]) ⟨Or.inr rfl, Or.inr rfl, Or.inr rfl, Or.inr rfl, Or.inl rfl, Or.inr rfl, Or.inl rfl, trivial⟩ ?_
        exact h
    · replace c46 := Classical.not_not.mp c46
      replace h := h.1 c46
      refine wm_iconst d_Re_eliminate_97 ?_
      refine wm_ireturn d_Re_eliminate_98 rfl (m_nb (by decide)) ?_
      exact ⟨_, rfl, h⟩
  have hE1 : ¬ ((l1 ≤ l6) ∨ (¬ (mI M (mR M a0 2) (Int.toNat ((l6 * 41) + l5)) = 0))) → mWm G y_Re_eliminate (d + 1) 85 [vr a0, vi l1, vi l2, vl j3, vd, vi l5, vi l6] [] M (fun r9 M9 => ∃ x9, r9 = some (vi x9) ∧ Q x9 M9) := by
    intro q53
    have h := h.2 q53
    refine wm_iinc d_Re_eliminate_85 (by decide) rfl (L' := [vr a0, vi l1, vi l2, vl j3, vd, vi l5, vi (l6 + 1)]) rfl ?_
    refine wm_goto (tgt := 63) d_Re_eliminate_88 rfl ?_
    exact h
  clear h
  have s54 := s42
  refine wm_icmp_ge (tgt := 91) d_Re_eliminate_66 rfl hi_l6 hi_l1 (fun c41 => ?_) (fun c41 => ?_)
  · exact hE0 (Or.inl c41)
  · have s54 := s54 c41
    obtain ⟨h37, h38, h39⟩ := s54
    refine wm_aload_n d_Re_eliminate_69 rfl rfl ?_
    refine gf_Re_21 rfl d_Re_eliminate_70 h37 ?_
    refine wm_iload d_Re_eliminate_73 rfl ?_
    refine wm_bipush d_Re_eliminate_75 (by decide) ?_
    refine wm_imul d_Re_eliminate_77 ?_
    refine wm_iload d_Re_eliminate_78 rfl ?_
    refine wm_iadd d_Re_eliminate_80 ?_
    refine wm_iald d_Re_eliminate_81 h38 h39 ?_
    refine wm_if_ne (tgt := 91) d_Re_eliminate_82 rfl (hO _ _).1 (fun c40 => ?_) (fun c40 => ?_)
    · exact hE0 (Or.inr c40)
    · replace c40 := Classical.not_not.mp c40
      exact hE1 (fun z55 => Or.elim z55 c41 (fun z56 => z56 c40))
theorem k_Re_eliminate_125 {G : mG} {d : Nat} {a0 : Nat} {l1 : Int} {l2 : Int} {j3 : Int} {l5 : Int} {M : mM} {Q : Int → mM → Prop} (hO : mOk M) (hi_l1 : i32 l1) (hi_l2 : i32 l2) (hi_j3 : i64 j3) (hi_l5 : i32 l5)
    (h : mK M a0 = 12 ∧ mK M (mR M a0 2) = 30 ∧ ((0 : Int) ≤ (l5 * 41) + l5 ∧ (l5 * 41) + l5 < (mN M (mR M a0 2) : Int)) ∧ i64 (j3 * (mI M (mR M a0 2) (Int.toNat ((l5 * 41) + l5)))) ∧ l2 ≠ 0 ∧ ((0 : Int) ≤ (l5 * 41) + l5 ∧ (l5 * 41) + l5 < (mN M (mR M a0 2) : Int)) ∧ Ci G y_Re_inverse d [vi (mI M (mR M a0 2) (Int.toNat ((l5 * 41) + l5))), vi l2] M (fun x64 M63 => i32 x64 ∧ mOk M63 ∧ (mK M63 (mR M a0 3) = 30 ∧ ((0 : Int) ≤ l5 ∧ l5 < (mN M63 (mR M a0 3) : Int)) ∧ ∀ M68, M68 = mUI M63 (mR M a0 3) (Int.toNat l5) x64 → mK M68 a0 = 12 ∧ Cv G y_Re_clearBelow d [vr a0, vi l5, vi l1, vi l2] M68 (fun M71 => mOk M71 ∧ (h_Re_eliminate_53 G d a0 l1 l2 (Int.tmod (j3 * (mI M (mR M a0 2) (Int.toNat ((l5 * 41) + l5)))) l2) (l5 + 1) M71 Q))))) :
    h_Re_eliminate_125 G d a0 l1 l2 j3 l5 M Q := by
  unfold h_Re_eliminate_125
  obtain ⟨h57, h⟩ := h
  obtain ⟨h58, h⟩ := h
  obtain ⟨h59, h⟩ := h
  obtain ⟨h60, h⟩ := h
  obtain ⟨h61, h⟩ := h
  obtain ⟨h62, h⟩ := h
  refine wm_lload_n d_Re_eliminate_125 rfl rfl ?_
  refine wm_aload_n d_Re_eliminate_126 rfl rfl ?_
  refine gf_Re_21 rfl d_Re_eliminate_127 h57 ?_
  refine wm_iload d_Re_eliminate_130 rfl ?_
  refine wm_bipush d_Re_eliminate_132 (by decide) ?_
  refine wm_imul d_Re_eliminate_134 ?_
  refine wm_iload d_Re_eliminate_135 rfl ?_
  refine wm_iadd d_Re_eliminate_137 ?_
  refine wm_iald d_Re_eliminate_138 h58 h59 ?_
  refine wm_i2l d_Re_eliminate_139 (hO _ _).1 ?_
  refine wm_lmul d_Re_eliminate_140 ?_
  refine wm_iload_n d_Re_eliminate_141 rfl rfl ?_
  refine wm_i2l d_Re_eliminate_142 hi_l2 ?_
  refine wm_lrem d_Re_eliminate_143 h60 (i64_of32 hi_l2) h61 ?_
  refine wm_lstore_n d_Re_eliminate_144 rfl (by decide) (L' := [vr a0, vi l1, vi l2, vl (Int.tmod (j3 * (mI M (mR M a0 2) (Int.toNat ((l5 * 41) + l5)))) l2), vd, vi l5, vd]) rfl ?_
  refine wm_aload_n d_Re_eliminate_145 rfl rfl ?_
  refine gf_Re_24 rfl d_Re_eliminate_146 h57 ?_
  refine wm_iload d_Re_eliminate_149 rfl ?_
  refine wm_aload_n d_Re_eliminate_151 rfl rfl ?_
  refine gf_Re_21 rfl d_Re_eliminate_152 h57 ?_
  refine wm_iload d_Re_eliminate_155 rfl ?_
  refine wm_bipush d_Re_eliminate_157 (by decide) ?_
  refine wm_imul d_Re_eliminate_159 ?_
  refine wm_iload d_Re_eliminate_160 rfl ?_
  refine wm_iadd d_Re_eliminate_162 ?_
  refine wm_iald d_Re_eliminate_163 h58 h62 ?_
  refine wm_iload_n d_Re_eliminate_164 rfl rfl ?_
  refine cf_Re_63 rfl d_Re_eliminate_165 (Nat.le_of_ble_eq_true rfl) (Ci.mono h (fun x64 M63 h => ?_))
  obtain ⟨h65, hOM63, h⟩ := h
  obtain ⟨h66, h⟩ := h
  obtain ⟨h67, h⟩ := h
  obtain ⟨M68, e69⟩ : ∃ M68, M68 = mUI M63 (mR M a0 3) (Int.toNat l5) x64 := ⟨_, rfl⟩
  replace h := h M68 e69
  obtain ⟨h70, h⟩ := h
  have hOM68 : mOk M68 := by rw [e69]; exact mOk_UI hOM63 h65
  refine wm_iastE d_Re_eliminate_168 h66 h67 h65 e69 ?_
  refine wm_aload_n d_Re_eliminate_169 rfl rfl ?_
  refine wm_iload d_Re_eliminate_170 rfl ?_
  refine wm_iload_n d_Re_eliminate_172 rfl rfl ?_
  refine wm_iload_n d_Re_eliminate_173 rfl rfl ?_
  refine cf_Re_67 rfl d_Re_eliminate_174 h70 (Nat.le_of_ble_eq_true rfl) (Cv.mono h (fun M71 h => ?_))
  obtain ⟨hOM71, h⟩ := h
  refine wm_iinc d_Re_eliminate_177 (by decide) rfl (L' := [vr a0, vi l1, vi l2, vl (Int.tmod (j3 * (mI M (mR M a0 2) (Int.toNat ((l5 * 41) + l5)))) l2), vd, vi (l5 + 1), vd]) rfl ?_
  refine wm_goto (tgt := 53) d_Re_eliminate_180 rfl ?_
  exact h
theorem d_Re_swapRows_0 : decode y_Re_swapRows.2.1 0 = .ok (.iconst 0, 1) := dc9_3 (by decide +kernel)
theorem d_Re_swapRows_1 : decode y_Re_swapRows.2.1 1 = .ok (.istore_n 3, 1) := dc9_62 (by decide +kernel)
theorem d_Re_swapRows_2 : decode y_Re_swapRows.2.1 2 = .ok (.iload_n 3, 1) := dc9_29 (by decide +kernel)
theorem d_Re_swapRows_3 : decode y_Re_swapRows.2.1 3 = .ok (.bipush 41, 2) := dc9_16 (by decide +kernel)
theorem d_Re_swapRows_5 : decode y_Re_swapRows.2.1 5 = .ok (.if_icmp .ge 45, 3) := dc9_162 (by decide +kernel)
theorem d_Re_swapRows_50 : decode y_Re_swapRows.2.1 50 = .ok (.return_, 1) := dc9_177 (by decide +kernel)
theorem d_Re_swapRows_8 : decode y_Re_swapRows.2.1 8 = .ok (.aload_n 0, 1) := dc9_42 (by decide +kernel)
theorem d_Re_swapRows_9 : decode y_Re_swapRows.2.1 9 = .ok (.getfield 21, 3) := dc9_180 (by decide +kernel)
theorem d_Re_swapRows_12 : decode y_Re_swapRows.2.1 12 = .ok (.iload_n 1, 1) := dc9_27 (by decide +kernel)
theorem d_Re_swapRows_13 : decode y_Re_swapRows.2.1 13 = .ok (.iload_n 3, 1) := dc9_29 (by decide +kernel)
theorem d_Re_swapRows_14 : decode y_Re_swapRows.2.1 14 = .ok (.iadd, 1) := dc9_96 (by decide +kernel)
theorem d_Re_swapRows_15 : decode y_Re_swapRows.2.1 15 = .ok (.iaload, 1) := dc9_46 (by decide +kernel)
theorem d_Re_swapRows_16 : decode y_Re_swapRows.2.1 16 = .ok (.istore 4, 2) := dc9_54 (by decide +kernel)
theorem d_Re_swapRows_18 : decode y_Re_swapRows.2.1 18 = .ok (.aload_n 0, 1) := dc9_42 (by decide +kernel)
theorem d_Re_swapRows_19 : decode y_Re_swapRows.2.1 19 = .ok (.getfield 21, 3) := dc9_180 (by decide +kernel)
theorem d_Re_swapRows_22 : decode y_Re_swapRows.2.1 22 = .ok (.iload_n 1, 1) := dc9_27 (by decide +kernel)
theorem d_Re_swapRows_23 : decode y_Re_swapRows.2.1 23 = .ok (.iload_n 3, 1) := dc9_29 (by decide +kernel)
theorem d_Re_swapRows_24 : decode y_Re_swapRows.2.1 24 = .ok (.iadd, 1) := dc9_96 (by decide +kernel)
theorem d_Re_swapRows_25 : decode y_Re_swapRows.2.1 25 = .ok (.aload_n 0, 1) := dc9_42 (by decide +kernel)
theorem d_Re_swapRows_26 : decode y_Re_swapRows.2.1 26 = .ok (.getfield 21, 3) := dc9_180 (by decide +kernel)
theorem d_Re_swapRows_29 : decode y_Re_swapRows.2.1 29 = .ok (.iload_n 2, 1) := dc9_28 (by decide +kernel)
theorem d_Re_swapRows_30 : decode y_Re_swapRows.2.1 30 = .ok (.iload_n 3, 1) := dc9_29 (by decide +kernel)
theorem d_Re_swapRows_31 : decode y_Re_swapRows.2.1 31 = .ok (.iadd, 1) := dc9_96 (by decide +kernel)
theorem d_Re_swapRows_32 : decode y_Re_swapRows.2.1 32 = .ok (.iaload, 1) := dc9_46 (by decide +kernel)
theorem d_Re_swapRows_33 : decode y_Re_swapRows.2.1 33 = .ok (.iastore, 1) := dc9_79 (by decide +kernel)
theorem d_Re_swapRows_34 : decode y_Re_swapRows.2.1 34 = .ok (.aload_n 0, 1) := dc9_42 (by decide +kernel)
theorem d_Re_swapRows_35 : decode y_Re_swapRows.2.1 35 = .ok (.getfield 21, 3) := dc9_180 (by decide +kernel)
theorem d_Re_swapRows_38 : decode y_Re_swapRows.2.1 38 = .ok (.iload_n 2, 1) := dc9_28 (by decide +kernel)
theorem d_Re_swapRows_39 : decode y_Re_swapRows.2.1 39 = .ok (.iload_n 3, 1) := dc9_29 (by decide +kernel)
theorem d_Re_swapRows_40 : decode y_Re_swapRows.2.1 40 = .ok (.iadd, 1) := dc9_96 (by decide +kernel)
theorem d_Re_swapRows_41 : decode y_Re_swapRows.2.1 41 = .ok (.iload 4, 2) := dc9_21 (by decide +kernel)
theorem d_Re_swapRows_43 : decode y_Re_swapRows.2.1 43 = .ok (.iastore, 1) := dc9_79 (by decide +kernel)
theorem d_Re_swapRows_44 : decode y_Re_swapRows.2.1 44 = .ok (.iinc 3 1, 3) := by decide +kernel
theorem d_Re_swapRows_47 : decode y_Re_swapRows.2.1 47 = .ok (.goto (-45), 3) := dc9_167 (by decide +kernel)
def h_Re_swapRows_2 (G : mG) (d : Nat) (a0 : Nat) (l1 : Int) (l2 : Int) (l3 : Int) (M : mM) (Q : mM → Prop) : Prop := mWm G y_Re_swapRows d 2 [vr a0, vi l1, vi l2, vi l3, vd] [] M (fun r9 M9 => r9 = none ∧ Q M9)
theorem k_Re_swapRows {G : mG} {d : Nat} {a0 : Nat} {l1 : Int} {l2 : Int} {M : mM} {Q : mM → Prop} (hO : mOk M) (hi_l1 : i32 l1) (hi_l2 : i32 l2)
    (h : h_Re_swapRows_2 G d a0 l1 l2 0 M Q) :
    Cv G y_Re_swapRows d [vr a0, vi l1, vi l2] M Q := by
  refine wm_open (y := y_Re_swapRows) rfl (Nat.le_of_ble_eq_true rfl) (L := [vr a0, vi l1, vi l2, vd, vd]) rfl ?_
  refine wm_iconst d_Re_swapRows_0 ?_
  refine wm_istore_n d_Re_swapRows_1 rfl (by decide) (L' := [vr a0, vi l1, vi l2, vi 0, vd]) rfl ?_
  exact h
theorem k_Re_swapRows_2 {G : mG} {d : Nat} {a0 : Nat} {l1 : Int} {l2 : Int} {l3 : Int} {M : mM} {Q : mM → Prop} (hO : mOk M) (hi_l1 : i32 l1) (hi_l2 : i32 l2) (hi_l3 : i32 l3)
    (h : ((41 ≤ l3) → (Q M)) ∧ (¬ (41 ≤ l3) → (mK M a0 = 12 ∧ mK M (mR M a0 2) = 30 ∧ ((0 : Int) ≤ l1 + l3 ∧ l1 + l3 < (mN M (mR M a0 2) : Int)) ∧ ((0 : Int) ≤ l2 + l3 ∧ l2 + l3 < (mN M (mR M a0 2) : Int)) ∧ ((0 : Int) ≤ l1 + l3 ∧ l1 + l3 < (mN M (mR M a0 2) : Int)) ∧ ∀ M8, M8 = mUI M (mR M a0 2) (Int.toNat (l1 + l3)) (mI M (mR M a0 2) (Int.toNat (l2 + l3))) → mK M8 (mR M8 a0 2) = 30 ∧ ((0 : Int) ≤ l2 + l3 ∧ l2 + l3 < (mN M8 (mR M8 a0 2) : Int)) ∧ ∀ M12, M12 = mUI M8 (mR M8 a0 2) (Int.toNat (l2 + l3)) (mI M (mR M a0 2) (Int.toNat (l1 + l3))) → h_Re_swapRows_2 G d a0 l1 l2 (l3 + 1) M12 Q))) :
    h_Re_swapRows_2 G d a0 l1 l2 l3 M Q := by
  unfold h_Re_swapRows_2
  refine wm_iload_n d_Re_swapRows_2 rfl rfl ?_
  refine wm_bipush d_Re_swapRows_3 (by decide) ?_
  refine wm_icmp_ge (tgt := 50) d_Re_swapRows_5 rfl hi_l3 ⟨by decide, by decide⟩ (fun c2 => ?_) (fun c2 => ?_)
  · replace h := h.1 c2
    refine wm_return d_Re_swapRows_50 rfl ?_
    exact ⟨rfl, h⟩
  · replace h := h.2 c2
    obtain ⟨h3, h⟩ := h
    obtain ⟨h4, h⟩ := h
    obtain ⟨h5, h⟩ := h
    obtain ⟨h6, h⟩ := h
    obtain ⟨h7, h⟩ := h
    obtain ⟨M8, e9⟩ : ∃ M8, M8 = mUI M (mR M a0 2) (Int.toNat (l1 + l3)) (mI M (mR M a0 2) (Int.toNat (l2 + l3))) := ⟨_, rfl⟩
    replace h := h M8 e9
    obtain ⟨h10, h⟩ := h
    obtain ⟨h11, h⟩ := h
    obtain ⟨M12, e13⟩ : ∃ M12, M12 = mUI M8 (mR M8 a0 2) (Int.toNat (l2 + l3)) (mI M (mR M a0 2) (Int.toNat (l1 + l3))) := ⟨_, rfl⟩
    replace h := h M12 e13
    refine wm_aload_n d_Re_swapRows_8 rfl rfl ?_
    refine gf_Re_21 rfl d_Re_swapRows_9 h3 ?_
    refine wm_iload_n d_Re_swapRows_12 rfl rfl ?_
    refine wm_iload_n d_Re_swapRows_13 rfl rfl ?_
    refine wm_iadd d_Re_swapRows_14 ?_
    refine wm_iald d_Re_swapRows_15 h4 h5 ?_
    refine wm_istore d_Re_swapRows_16 (by decide) (L' := [vr a0, vi l1, vi l2, vi l3, vi (mI M (mR M a0 2) (Int.toNat (l1 + l3)))]) rfl ?_
    refine wm_aload_n d_Re_swapRows_18 rfl rfl ?_
    refine gf_Re_21 rfl d_Re_swapRows_19 h3 ?_
    refine wm_iload_n d_Re_swapRows_22 rfl rfl ?_
    refine wm_iload_n d_Re_swapRows_23 rfl rfl ?_
    refine wm_iadd d_Re_swapRows_24 ?_
    refine wm_aload_n d_Re_swapRows_25 rfl rfl ?_
    refine gf_Re_21 rfl d_Re_swapRows_26 h3 ?_
    refine wm_iload_n d_Re_swapRows_29 rfl rfl ?_
    refine wm_iload_n d_Re_swapRows_30 rfl rfl ?_
    refine wm_iadd d_Re_swapRows_31 ?_
    refine wm_iald d_Re_swapRows_32 h4 h6 ?_
    have hOM8 : mOk M8 := by rw [e9]; exact mOk_UI hO (hO _ _).1
    refine wm_iastE d_Re_swapRows_33 h4 h7 (hO _ _).1 e9 ?_
    refine wm_aload_n d_Re_swapRows_34 rfl rfl ?_
    refine gf_Re_21 rfl d_Re_swapRows_35 (by rw [e9]; exact h3) ?_
    refine wm_iload_n d_Re_swapRows_38 rfl rfl ?_
    refine wm_iload_n d_Re_swapRows_39 rfl rfl ?_
    refine wm_iadd d_Re_swapRows_40 ?_
    refine wm_iload d_Re_swapRows_41 rfl ?_
    have hOM12 : mOk M12 := by rw [e13]; exact mOk_UI hOM8 (hO _ _).1
    refine wm_iastE d_Re_swapRows_43 h10 h11 (hO _ _).1 e13 ?_
    refine wm_iinc d_Re_swapRows_44 (by decide) rfl (L' := [vr a0, vi l1, vi l2, vi (l3 + 1), vi (mI M (mR M a0 2) (Int.toNat (l1 + l3)))]) rfl ?_
    refine wm_goto (tgt := 2) d_Re_swapRows_47 rfl ?_
    refine wm_less (L' := [vr a0, vi l1, vi l2, vi (l3 + 1), vd]) ⟨Or.inr rfl, Or.inr rfl, Or.inr rfl, Or.inr rfl, Or.inl rfl, trivial⟩ ?_
    exact h
theorem d_Re_clearBelow_0 : decode y_Re_clearBelow.2.1 0 = .ok (.iconst 0, 1) := dc9_3 (by decide +kernel)
theorem d_Re_clearBelow_1 : decode y_Re_clearBelow.2.1 1 = .ok (.istore 4, 2) := dc9_54 (by decide +kernel)
theorem d_Re_clearBelow_3 : decode y_Re_clearBelow.2.1 3 = .ok (.iload_n 1, 1) := dc9_27 (by decide +kernel)
theorem d_Re_clearBelow_4 : decode y_Re_clearBelow.2.1 4 = .ok (.iconst 1, 1) := dc9_4 (by decide +kernel)
theorem d_Re_clearBelow_5 : decode y_Re_clearBelow.2.1 5 = .ok (.iadd, 1) := dc9_96 (by decide +kernel)
theorem d_Re_clearBelow_6 : decode y_Re_clearBelow.2.1 6 = .ok (.istore 5, 2) := dc9_54 (by decide +kernel)
theorem d_Re_clearBelow_8 : decode y_Re_clearBelow.2.1 8 = .ok (.iload 5, 2) := dc9_21 (by decide +kernel)
theorem d_Re_clearBelow_10 : decode y_Re_clearBelow.2.1 10 = .ok (.bipush 41, 2) := dc9_16 (by decide +kernel)
theorem d_Re_clearBelow_12 : decode y_Re_clearBelow.2.1 12 = .ok (.if_icmp .ge 36, 3) := dc9_162 (by decide +kernel)
theorem d_Re_clearBelow_48 : decode y_Re_clearBelow.2.1 48 = .ok (.iload_n 1, 1) := dc9_27 (by decide +kernel)
theorem d_Re_clearBelow_49 : decode y_Re_clearBelow.2.1 49 = .ok (.iconst 1, 1) := dc9_4 (by decide +kernel)
theorem d_Re_clearBelow_50 : decode y_Re_clearBelow.2.1 50 = .ok (.iadd, 1) := dc9_96 (by decide +kernel)
theorem d_Re_clearBelow_51 : decode y_Re_clearBelow.2.1 51 = .ok (.istore 5, 2) := dc9_54 (by decide +kernel)
theorem d_Re_clearBelow_15 : decode y_Re_clearBelow.2.1 15 = .ok (.aload_n 0, 1) := dc9_42 (by decide +kernel)
theorem d_Re_clearBelow_16 : decode y_Re_clearBelow.2.1 16 = .ok (.getfield 21, 3) := dc9_180 (by decide +kernel)
theorem d_Re_clearBelow_19 : decode y_Re_clearBelow.2.1 19 = .ok (.iload_n 1, 1) := dc9_27 (by decide +kernel)
theorem d_Re_clearBelow_20 : decode y_Re_clearBelow.2.1 20 = .ok (.bipush 41, 2) := dc9_16 (by decide +kernel)
theorem d_Re_clearBelow_22 : decode y_Re_clearBelow.2.1 22 = .ok (.imul, 1) := dc9_104 (by decide +kernel)
theorem d_Re_clearBelow_23 : decode y_Re_clearBelow.2.1 23 = .ok (.iload 5, 2) := dc9_21 (by decide +kernel)
theorem d_Re_clearBelow_25 : decode y_Re_clearBelow.2.1 25 = .ok (.iadd, 1) := dc9_96 (by decide +kernel)
theorem d_Re_clearBelow_26 : decode y_Re_clearBelow.2.1 26 = .ok (.iaload, 1) := dc9_46 (by decide +kernel)
theorem d_Re_clearBelow_27 : decode y_Re_clearBelow.2.1 27 = .ok (.ifCond .eq 15, 3) := dc9_153 (by decide +kernel)
theorem d_Re_clearBelow_30 : decode y_Re_clearBelow.2.1 30 = .ok (.aload_n 0, 1) := dc9_42 (by decide +kernel)
theorem d_Re_clearBelow_31 : decode y_Re_clearBelow.2.1 31 = .ok (.getfield 27, 3) := dc9_180 (by decide +kernel)
theorem d_Re_clearBelow_34 : decode y_Re_clearBelow.2.1 34 = .ok (.iload 4, 2) := dc9_21 (by decide +kernel)
theorem d_Re_clearBelow_36 : decode y_Re_clearBelow.2.1 36 = .ok (.iinc 4 1, 3) := by decide +kernel
theorem d_Re_clearBelow_39 : decode y_Re_clearBelow.2.1 39 = .ok (.iload 5, 2) := dc9_21 (by decide +kernel)
theorem d_Re_clearBelow_41 : decode y_Re_clearBelow.2.1 41 = .ok (.iastore, 1) := dc9_79 (by decide +kernel)
theorem d_Re_clearBelow_42 : decode y_Re_clearBelow.2.1 42 = .ok (.iinc 5 1, 3) := by decide +kernel
theorem d_Re_clearBelow_45 : decode y_Re_clearBelow.2.1 45 = .ok (.goto (-37), 3) := dc9_167 (by decide +kernel)
theorem d_Re_clearBelow_53 : decode y_Re_clearBelow.2.1 53 = .ok (.iload 5, 2) := dc9_21 (by decide +kernel)
theorem d_Re_clearBelow_55 : decode y_Re_clearBelow.2.1 55 = .ok (.iload_n 2, 1) := dc9_28 (by decide +kernel)
theorem d_Re_clearBelow_56 : decode y_Re_clearBelow.2.1 56 = .ok (.if_icmp .ge 125, 3) := dc9_162 (by decide +kernel)
theorem d_Re_clearBelow_181 : decode y_Re_clearBelow.2.1 181 = .ok (.return_, 1) := dc9_177 (by decide +kernel)
theorem d_Re_clearBelow_59 : decode y_Re_clearBelow.2.1 59 = .ok (.aload_n 0, 1) := dc9_42 (by decide +kernel)
theorem d_Re_clearBelow_60 : decode y_Re_clearBelow.2.1 60 = .ok (.getfield 21, 3) := dc9_180 (by decide +kernel)
theorem d_Re_clearBelow_63 : decode y_Re_clearBelow.2.1 63 = .ok (.iload 5, 2) := dc9_21 (by decide +kernel)
theorem d_Re_clearBelow_65 : decode y_Re_clearBelow.2.1 65 = .ok (.bipush 41, 2) := dc9_16 (by decide +kernel)
theorem d_Re_clearBelow_67 : decode y_Re_clearBelow.2.1 67 = .ok (.imul, 1) := dc9_104 (by decide +kernel)
theorem d_Re_clearBelow_68 : decode y_Re_clearBelow.2.1 68 = .ok (.iload_n 1, 1) := dc9_27 (by decide +kernel)
theorem d_Re_clearBelow_69 : decode y_Re_clearBelow.2.1 69 = .ok (.iadd, 1) := dc9_96 (by decide +kernel)
theorem d_Re_clearBelow_70 : decode y_Re_clearBelow.2.1 70 = .ok (.iaload, 1) := dc9_46 (by decide +kernel)
theorem d_Re_clearBelow_71 : decode y_Re_clearBelow.2.1 71 = .ok (.i2l, 1) := dc9_133 (by decide +kernel)
theorem d_Re_clearBelow_72 : decode y_Re_clearBelow.2.1 72 = .ok (.lstore 6, 2) := dc9_55 (by decide +kernel)
theorem d_Re_clearBelow_74 : decode y_Re_clearBelow.2.1 74 = .ok (.lload 6, 2) := dc9_22 (by decide +kernel)
theorem d_Re_clearBelow_76 : decode y_Re_clearBelow.2.1 76 = .ok (.lconst 0, 1) := dc9_9 (by decide +kernel)
theorem d_Re_clearBelow_77 : decode y_Re_clearBelow.2.1 77 = .ok (.lcmp, 1) := dc9_148 (by decide +kernel)
theorem d_Re_clearBelow_78 : decode y_Re_clearBelow.2.1 78 = .ok (.ifCond .ne 6, 3) := dc9_154 (by decide +kernel)
theorem d_Re_clearBelow_81 : decode y_Re_clearBelow.2.1 81 = .ok (.goto 94, 3) := dc9_167 (by decide +kernel)
theorem d_Re_clearBelow_175 : decode y_Re_clearBelow.2.1 175 = .ok (.iinc 5 1, 3) := by decide +kernel
theorem d_Re_clearBelow_178 : decode y_Re_clearBelow.2.1 178 = .ok (.goto (-125), 3) := dc9_167 (by decide +kernel)
theorem d_Re_clearBelow_84 : decode y_Re_clearBelow.2.1 84 = .ok (.iload_n 3, 1) := dc9_29 (by decide +kernel)
theorem d_Re_clearBelow_85 : decode y_Re_clearBelow.2.1 85 = .ok (.i2l, 1) := dc9_133 (by decide +kernel)
theorem d_Re_clearBelow_86 : decode y_Re_clearBelow.2.1 86 = .ok (.lload 6, 2) := dc9_22 (by decide +kernel)
theorem d_Re_clearBelow_88 : decode y_Re_clearBelow.2.1 88 = .ok (.aload_n 0, 1) := dc9_42 (by decide +kernel)
theorem d_Re_clearBelow_89 : decode y_Re_clearBelow.2.1 89 = .ok (.getfield 24, 3) := dc9_180 (by decide +kernel)
theorem d_Re_clearBelow_92 : decode y_Re_clearBelow.2.1 92 = .ok (.iload_n 1, 1) := dc9_27 (by decide +kernel)
theorem d_Re_clearBelow_93 : decode y_Re_clearBelow.2.1 93 = .ok (.iaload, 1) := dc9_46 (by decide +kernel)
theorem d_Re_clearBelow_94 : decode y_Re_clearBelow.2.1 94 = .ok (.i2l, 1) := dc9_133 (by decide +kernel)
theorem d_Re_clearBelow_95 : decode y_Re_clearBelow.2.1 95 = .ok (.lmul, 1) := dc9_105 (by decide +kernel)
theorem d_Re_clearBelow_96 : decode y_Re_clearBelow.2.1 96 = .ok (.iload_n 3, 1) := dc9_29 (by decide +kernel)
theorem d_Re_clearBelow_97 : decode y_Re_clearBelow.2.1 97 = .ok (.i2l, 1) := dc9_133 (by decide +kernel)
theorem d_Re_clearBelow_98 : decode y_Re_clearBelow.2.1 98 = .ok (.lrem, 1) := dc9_113 (by decide +kernel)
theorem d_Re_clearBelow_99 : decode y_Re_clearBelow.2.1 99 = .ok (.lsub, 1) := dc9_101 (by decide +kernel)
theorem d_Re_clearBelow_100 : decode y_Re_clearBelow.2.1 100 = .ok (.lstore 8, 2) := dc9_55 (by decide +kernel)
theorem d_Re_clearBelow_102 : decode y_Re_clearBelow.2.1 102 = .ok (.iconst 0, 1) := dc9_3 (by decide +kernel)
theorem d_Re_clearBelow_103 : decode y_Re_clearBelow.2.1 103 = .ok (.istore 10, 2) := dc9_54 (by decide +kernel)
theorem d_Re_clearBelow_105 : decode y_Re_clearBelow.2.1 105 = .ok (.iload 10, 2) := dc9_21 (by decide +kernel)
theorem d_Re_clearBelow_107 : decode y_Re_clearBelow.2.1 107 = .ok (.iload 4, 2) := dc9_21 (by decide +kernel)
theorem d_Re_clearBelow_109 : decode y_Re_clearBelow.2.1 109 = .ok (.if_icmp .ge 66, 3) := dc9_162 (by decide +kernel)
theorem d_Re_clearBelow_112 : decode y_Re_clearBelow.2.1 112 = .ok (.aload_n 0, 1) := dc9_42 (by decide +kernel)
theorem d_Re_clearBelow_113 : decode y_Re_clearBelow.2.1 113 = .ok (.getfield 27, 3) := dc9_180 (by decide +kernel)
theorem d_Re_clearBelow_116 : decode y_Re_clearBelow.2.1 116 = .ok (.iload 10, 2) := dc9_21 (by decide +kernel)
theorem d_Re_clearBelow_118 : decode y_Re_clearBelow.2.1 118 = .ok (.iaload, 1) := dc9_46 (by decide +kernel)
theorem d_Re_clearBelow_119 : decode y_Re_clearBelow.2.1 119 = .ok (.istore 11, 2) := dc9_54 (by decide +kernel)
theorem d_Re_clearBelow_121 : decode y_Re_clearBelow.2.1 121 = .ok (.aload_n 0, 1) := dc9_42 (by decide +kernel)
theorem d_Re_clearBelow_122 : decode y_Re_clearBelow.2.1 122 = .ok (.getfield 21, 3) := dc9_180 (by decide +kernel)
theorem d_Re_clearBelow_125 : decode y_Re_clearBelow.2.1 125 = .ok (.iload 5, 2) := dc9_21 (by decide +kernel)
theorem d_Re_clearBelow_127 : decode y_Re_clearBelow.2.1 127 = .ok (.bipush 41, 2) := dc9_16 (by decide +kernel)
theorem d_Re_clearBelow_129 : decode y_Re_clearBelow.2.1 129 = .ok (.imul, 1) := dc9_104 (by decide +kernel)
theorem d_Re_clearBelow_130 : decode y_Re_clearBelow.2.1 130 = .ok (.iload 11, 2) := dc9_21 (by decide +kernel)
theorem d_Re_clearBelow_132 : decode y_Re_clearBelow.2.1 132 = .ok (.iadd, 1) := dc9_96 (by decide +kernel)
theorem d_Re_clearBelow_133 : decode y_Re_clearBelow.2.1 133 = .ok (.aload_n 0, 1) := dc9_42 (by decide +kernel)
theorem d_Re_clearBelow_134 : decode y_Re_clearBelow.2.1 134 = .ok (.getfield 21, 3) := dc9_180 (by decide +kernel)
theorem d_Re_clearBelow_137 : decode y_Re_clearBelow.2.1 137 = .ok (.iload 5, 2) := dc9_21 (by decide +kernel)
theorem d_Re_clearBelow_139 : decode y_Re_clearBelow.2.1 139 = .ok (.bipush 41, 2) := dc9_16 (by decide +kernel)
theorem d_Re_clearBelow_141 : decode y_Re_clearBelow.2.1 141 = .ok (.imul, 1) := dc9_104 (by decide +kernel)
theorem d_Re_clearBelow_142 : decode y_Re_clearBelow.2.1 142 = .ok (.iload 11, 2) := dc9_21 (by decide +kernel)
theorem d_Re_clearBelow_144 : decode y_Re_clearBelow.2.1 144 = .ok (.iadd, 1) := dc9_96 (by decide +kernel)
theorem d_Re_clearBelow_145 : decode y_Re_clearBelow.2.1 145 = .ok (.iaload, 1) := dc9_46 (by decide +kernel)
theorem d_Re_clearBelow_146 : decode y_Re_clearBelow.2.1 146 = .ok (.i2l, 1) := dc9_133 (by decide +kernel)
theorem d_Re_clearBelow_147 : decode y_Re_clearBelow.2.1 147 = .ok (.lload 8, 2) := dc9_22 (by decide +kernel)
theorem d_Re_clearBelow_149 : decode y_Re_clearBelow.2.1 149 = .ok (.aload_n 0, 1) := dc9_42 (by decide +kernel)
theorem d_Re_clearBelow_150 : decode y_Re_clearBelow.2.1 150 = .ok (.getfield 21, 3) := dc9_180 (by decide +kernel)
theorem d_Re_clearBelow_153 : decode y_Re_clearBelow.2.1 153 = .ok (.iload_n 1, 1) := dc9_27 (by decide +kernel)
theorem d_Re_clearBelow_154 : decode y_Re_clearBelow.2.1 154 = .ok (.bipush 41, 2) := dc9_16 (by decide +kernel)
theorem d_Re_clearBelow_156 : decode y_Re_clearBelow.2.1 156 = .ok (.imul, 1) := dc9_104 (by decide +kernel)
theorem d_Re_clearBelow_157 : decode y_Re_clearBelow.2.1 157 = .ok (.iload 11, 2) := dc9_21 (by decide +kernel)
theorem d_Re_clearBelow_159 : decode y_Re_clearBelow.2.1 159 = .ok (.iadd, 1) := dc9_96 (by decide +kernel)
theorem d_Re_clearBelow_160 : decode y_Re_clearBelow.2.1 160 = .ok (.iaload, 1) := dc9_46 (by decide +kernel)
theorem d_Re_clearBelow_161 : decode y_Re_clearBelow.2.1 161 = .ok (.i2l, 1) := dc9_133 (by decide +kernel)
theorem d_Re_clearBelow_162 : decode y_Re_clearBelow.2.1 162 = .ok (.lmul, 1) := dc9_105 (by decide +kernel)
theorem d_Re_clearBelow_163 : decode y_Re_clearBelow.2.1 163 = .ok (.ladd, 1) := dc9_97 (by decide +kernel)
theorem d_Re_clearBelow_164 : decode y_Re_clearBelow.2.1 164 = .ok (.iload_n 3, 1) := dc9_29 (by decide +kernel)
theorem d_Re_clearBelow_165 : decode y_Re_clearBelow.2.1 165 = .ok (.i2l, 1) := dc9_133 (by decide +kernel)
theorem d_Re_clearBelow_166 : decode y_Re_clearBelow.2.1 166 = .ok (.lrem, 1) := dc9_113 (by decide +kernel)
theorem d_Re_clearBelow_167 : decode y_Re_clearBelow.2.1 167 = .ok (.l2i, 1) := dc9_136 (by decide +kernel)
theorem d_Re_clearBelow_168 : decode y_Re_clearBelow.2.1 168 = .ok (.iastore, 1) := dc9_79 (by decide +kernel)
theorem d_Re_clearBelow_169 : decode y_Re_clearBelow.2.1 169 = .ok (.iinc 10 1, 3) := by decide +kernel
theorem d_Re_clearBelow_172 : decode y_Re_clearBelow.2.1 172 = .ok (.goto (-67), 3) := dc9_167 (by decide +kernel)
def h_Re_clearBelow_8 (G : mG) (d : Nat) (a0 : Nat) (l1 : Int) (l2 : Int) (l3 : Int) (l4 : Int) (l5 : Int) (M : mM) (Q : mM → Prop) : Prop := mWm G y_Re_clearBelow d 8 [vr a0, vi l1, vi l2, vi l3, vi l4, vi l5, vd, vd, vd, vd, vd, vd] [] M (fun r9 M9 => r9 = none ∧ Q M9)
def h_Re_clearBelow_53 (G : mG) (d : Nat) (a0 : Nat) (l1 : Int) (l2 : Int) (l3 : Int) (l4 : Int) (l5 : Int) (M : mM) (Q : mM → Prop) : Prop := mWm G y_Re_clearBelow d 53 [vr a0, vi l1, vi l2, vi l3, vi l4, vi l5, vd, vd, vd, vd, vd, vd] [] M (fun r9 M9 => r9 = none ∧ Q M9)
def h_Re_clearBelow_105 (G : mG) (d : Nat) (a0 : Nat) (l1 : Int) (l2 : Int) (l3 : Int) (l4 : Int) (l5 : Int) (j8 : Int) (l10 : Int) (M : mM) (Q : mM → Prop) : Prop := mWm G y_Re_clearBelow d 105 [vr a0, vi l1, vi l2, vi l3, vi l4, vi l5, vd, vd, vl j8, vd, vi l10, vd] [] M (fun r9 M9 => r9 = none ∧ Q M9)
theorem k_Re_clearBelow {G : mG} {d : Nat} {a0 : Nat} {l1 : Int} {l2 : Int} {l3 : Int} {M : mM} {Q : mM → Prop} (hO : mOk M) (hi_l1 : i32 l1) (hi_l2 : i32 l2) (hi_l3 : i32 l3)
    (h : h_Re_clearBelow_8 G d a0 l1 l2 l3 0 (l1 + 1) M Q) :
    Cv G y_Re_clearBelow d [vr a0, vi l1, vi l2, vi l3] M Q := by
  refine wm_open (y := y_Re_clearBelow) rfl (Nat.le_of_ble_eq_true rfl) (L := [vr a0, vi l1, vi l2, vi l3, vd, vd, vd, vd, vd, vd, vd, vd]) rfl ?_
  refine wm_iconst d_Re_clearBelow_0 ?_
  refine wm_istore d_Re_clearBelow_1 (by decide) (L' := [vr a0, vi l1, vi l2, vi l3, vi 0, vd, vd, vd, vd, vd, vd, vd]) rfl ?_
  refine wm_iload_n d_Re_clearBelow_3 rfl rfl ?_
  refine wm_iconst d_Re_clearBelow_4 ?_
  refine wm_iadd d_Re_clearBelow_5 ?_
  refine wm_istore d_Re_clearBelow_6 (by decide) (L' := [vr a0, vi l1, vi l2, vi l3, vi 0, vi (l1 + 1), vd, vd, vd, vd, vd, vd]) rfl ?_
  exact h
theorem k_Re_clearBelow_8 {G : mG} {d : Nat} {a0 : Nat} {l1 : Int} {l2 : Int} {l3 : Int} {l4 : Int} {l5 : Int} {M : mM} {Q : mM → Prop} (hO : mOk M) (hi_l1 : i32 l1) (hi_l2 : i32 l2) (hi_l3 : i32 l3) (hi_l4 : i32 l4) (hi_l5 : i32 l5)
    (h : ((41 ≤ l5) → (h_Re_clearBelow_53 G d a0 l1 l2 l3 l4 (l1 + 1) M Q)) ∧ (¬ (41 ≤ l5) → (mK M a0 = 12 ∧ mK M (mR M a0 2) = 30 ∧ ((0 : Int) ≤ (l1 * 41) + l5 ∧ (l1 * 41) + l5 < (mN M (mR M a0 2) : Int)) ∧ (¬ (mI M (mR M a0 2) (Int.toNat ((l1 * 41) + l5)) = 0) → (mK M (mR M a0 4) = 30 ∧ ((0 : Int) ≤ l4 ∧ l4 < (mN M (mR M a0 4) : Int)))) ∧ ∀ v15 : Int, v15 = (if (mI M (mR M a0 2) (Int.toNat ((l1 * 41) + l5)) = 0) then l4 else l4 + 1) → ∀ M16 : mM, M16 = (if (mI M (mR M a0 2) (Int.toNat ((l1 * 41) + l5)) = 0) then M else (mUI M (mR M a0 4) (Int.toNat l4) l5)) → mOk M16 ∧ h_Re_clearBelow_8 G d a0 l1 l2 l3 v15 (l5 + 1) M16 Q))) :
    h_Re_clearBelow_8 G d a0 l1 l2 l3 l4 l5 M Q := by
  unfold h_Re_clearBelow_8
  refine wm_iload d_Re_clearBelow_8 rfl ?_
  refine wm_bipush d_Re_clearBelow_10 (by decide) ?_
  refine wm_icmp_ge (tgt := 48) d_Re_clearBelow_12 rfl hi_l5 ⟨by decide, by decide⟩ (fun c8 => ?_) (fun c8 => ?_)
  · replace h := h.1 c8
    refine wm_iload_n d_Re_clearBelow_48 rfl rfl ?_
    refine wm_iconst d_Re_clearBelow_49 ?_
    refine wm_iadd d_Re_clearBelow_50 ?_
    refine wm_istore d_Re_clearBelow_51 (by decide) (L' := [vr a0, vi l1, vi l2, vi l3, vi l4, vi (l1 + 1), vd, vd, vd, vd, vd, vd]) rfl ?_
    exact h
  · replace h := h.2 c8
    obtain ⟨h9, h⟩ := h
    obtain ⟨h10, h⟩ := h
    obtain ⟨h11, h⟩ := h
    refine wm_aload_n d_Re_clearBelow_15 rfl rfl ?_
    refine gf_Re_21 rfl d_Re_clearBelow_16 h9 ?_
    refine wm_iload_n d_Re_clearBelow_19 rfl rfl ?_
    refine wm_bipush d_Re_clearBelow_20 (by decide) ?_
    refine wm_imul d_Re_clearBelow_22 ?_
    refine wm_iload d_Re_clearBelow_23 rfl ?_
    refine wm_iadd d_Re_clearBelow_25 ?_
    refine wm_iald d_Re_clearBelow_26 h10 h11 ?_
    obtain ⟨s17, h⟩ := h
    have hJ : ∀ v15 : Int, v15 = (if (mI M (mR M a0 2) (Int.toNat ((l1 * 41) + l5)) = 0) then l4 else l4 + 1) → ∀ M16 : mM, M16 = (if (mI M (mR M a0 2) (Int.toNat ((l1 * 41) + l5)) = 0) then M else (mUI M (mR M a0 4) (Int.toNat l4) l5)) → mWm G y_Re_clearBelow d 42 [vr a0, vi l1, vi l2, vi l3, vi v15, vi l5, vd, vd, vd, vd, vd, vd] [] M16 (fun r9 M9 => r9 = none ∧ Q M9) := by
      intro v15 e18
      intro M16 e19
      have h := h v15 e18 M16 e19
      have h20 : mK M16 = mK M := by rw [e19]; (repeat' split) <;> rfl
      obtain ⟨hOM16, h⟩ := h
      refine wm_iinc d_Re_clearBelow_42 (by decide) rfl (L' := [vr a0, vi l1, vi l2, vi l3, vi v15, vi (l5 + 1), vd, vd, vd, vd, vd, vd]) rfl ?_
      refine wm_goto (tgt := 8) d_Re_clearBelow_45 rfl ?_
      exact h
    clear h
    have s21 := s17
    refine wm_if_eq (tgt := 42) d_Re_clearBelow_27 rfl (hO _ _).1 (fun c12 => ?_) (fun c12 => ?_)
    · exact hJ l4 (if_pos c12).symm M (if_pos c12).symm
    · have s21 := s21 c12
      obtain ⟨h13, h14⟩ := s21
      refine wm_aload_n d_Re_clearBelow_30 rfl rfl ?_
      refine gf_Re_27 rfl d_Re_clearBelow_31 h9 ?_
      refine wm_iload d_Re_clearBelow_34 rfl ?_
      refine wm_iinc d_Re_clearBelow_36 (by decide) rfl (L' := [vr a0, vi l1, vi l2, vi l3, vi (l4 + 1), vi l5, vd, vd, vd, vd, vd, vd]) rfl ?_
      refine wm_iload d_Re_clearBelow_39 rfl ?_
      refine wm_iastE d_Re_clearBelow_41 h13 h14 hi_l5 rfl ?_
      exact hJ (l4 + 1) (if_neg c12).symm (mUI M (mR M a0 4) (Int.toNat l4) l5) (if_neg c12).symm
theorem k_Re_clearBelow_53 {G : mG} {d : Nat} {a0 : Nat} {l1 : Int} {l2 : Int} {l3 : Int} {l4 : Int} {l5 : Int} {M : mM} {Q : mM → Prop} (hO : mOk M) (hi_l1 : i32 l1) (hi_l2 : i32 l2) (hi_l3 : i32 l3) (hi_l4 : i32 l4) (hi_l5 : i32 l5)
    (h : ((l2 ≤ l5) → (Q M)) ∧ (¬ (l2 ≤ l5) → (mK M a0 = 12 ∧ mK M (mR M a0 2) = 30 ∧ ((0 : Int) ≤ (l5 * 41) + l1 ∧ (l5 * 41) + l1 < (mN M (mR M a0 2) : Int)) ∧ ((cmpL (mI M (mR M a0 2) (Int.toNat ((l5 * 41) + l1))) 0 = 0) → (h_Re_clearBelow_53 G d a0 l1 l2 l3 l4 (l5 + 1) M Q)) ∧ (¬ (cmpL (mI M (mR M a0 2) (Int.toNat ((l5 * 41) + l1))) 0 = 0) → (mK M (mR M a0 3) = 30 ∧ ((0 : Int) ≤ l1 ∧ l1 < (mN M (mR M a0 3) : Int)) ∧ i64 ((mI M (mR M a0 2) (Int.toNat ((l5 * 41) + l1))) * (mI M (mR M a0 3) (Int.toNat l1))) ∧ l3 ≠ 0 ∧ h_Re_clearBelow_105 G d a0 l1 l2 l3 l4 l5 (l3 - (Int.tmod ((mI M (mR M a0 2) (Int.toNat ((l5 * 41) + l1))) * (mI M (mR M a0 3) (Int.toNat l1))) l3)) 0 M Q))))) :
    h_Re_clearBelow_53 G d a0 l1 l2 l3 l4 l5 M Q := by
  unfold h_Re_clearBelow_53
  refine wm_iload d_Re_clearBelow_53 rfl ?_
  refine wm_iload_n d_Re_clearBelow_55 rfl rfl ?_
  refine wm_icmp_ge (tgt := 181) d_Re_clearBelow_56 rfl hi_l5 hi_l2 (fun c28 => ?_) (fun c28 => ?_)
  · replace h := h.1 c28
    refine wm_return d_Re_clearBelow_181 rfl ?_
    exact ⟨rfl, h⟩
  · replace h := h.2 c28
    obtain ⟨h29, h⟩ := h
    obtain ⟨h30, h⟩ := h
    obtain ⟨h31, h⟩ := h
    refine wm_aload_n d_Re_clearBelow_59 rfl rfl ?_
    refine gf_Re_21 rfl d_Re_clearBelow_60 h29 ?_
    refine wm_iload d_Re_clearBelow_63 rfl ?_
    refine wm_bipush d_Re_clearBelow_65 (by decide) ?_
    refine wm_imul d_Re_clearBelow_67 ?_
    refine wm_iload_n d_Re_clearBelow_68 rfl rfl ?_
    refine wm_iadd d_Re_clearBelow_69 ?_
    refine wm_iald d_Re_clearBelow_70 h30 h31 ?_
    refine wm_i2l d_Re_clearBelow_71 (hO _ _).1 ?_
    refine wm_lstore d_Re_clearBelow_72 (by decide) (L' := [vr a0, vi l1, vi l2, vi l3, vi l4, vi l5, vl (mI M (mR M a0 2) (Int.toNat ((l5 * 41) + l1))), vd, vd, vd, vd, vd]) rfl ?_
    refine wm_lload d_Re_clearBelow_74 rfl ?_
    refine wm_lconst (x := 0) d_Re_clearBelow_76 rfl ?_
    refine wm_lcmp d_Re_clearBelow_77 (i64_of32 (hO _ _).1) ⟨by decide, by decide⟩ ?_
    refine wm_if_ne (tgt := 84) d_Re_clearBelow_78 rfl (m_cmp32 _ _) (fun c37 => ?_) (fun c37 => ?_)
    · replace h := h.2 c37
      obtain ⟨h38, h⟩ := h
      obtain ⟨h39, h⟩ := h
      obtain ⟨h40, h⟩ := h
      obtain ⟨h41, h⟩ := h
      refine wm_iload_n d_Re_clearBelow_84 rfl rfl ?_
      refine wm_i2l d_Re_clearBelow_85 hi_l3 ?_
      refine wm_lload d_Re_clearBelow_86 rfl ?_
      refine wm_aload_n d_Re_clearBelow_88 rfl rfl ?_
      refine gf_Re_24 rfl d_Re_clearBelow_89 h29 ?_
      refine wm_iload_n d_Re_clearBelow_92 rfl rfl ?_
      refine wm_iald d_Re_clearBelow_93 h38 h39 ?_
      refine wm_i2l d_Re_clearBelow_94 (hO _ _).1 ?_
      refine wm_lmul d_Re_clearBelow_95 ?_
      refine wm_iload_n d_Re_clearBelow_96 rfl rfl ?_
      refine wm_i2l d_Re_clearBelow_97 hi_l3 ?_
      refine wm_lrem d_Re_clearBelow_98 h40 (i64_of32 hi_l3) h41 ?_
      refine wm_lsub d_Re_clearBelow_99 ?_
      refine wm_lstore d_Re_clearBelow_100 (by decide) (L' := [vr a0, vi l1, vi l2, vi l3, vi l4, vi l5, vl (mI M (mR M a0 2) (Int.toNat ((l5 * 41) + l1))), vd, vl (l3 - (Int.tmod ((mI M (mR M a0 2) (Int.toNat ((l5 * 41) + l1))) * (mI M (mR M a0 3) (Int.toNat l1))) l3)), vd, vd, vd]) rfl ?_
      refine wm_iconst d_Re_clearBelow_102 ?_
      refine wm_istore d_Re_clearBelow_103 (by decide) (L' := [vr a0, vi l1, vi l2, vi l3, vi l4, vi l5, vl (mI M (mR M a0 2) (Int.toNat ((l5 * 41) + l1))), vd, vl (l3 - (Int.tmod ((mI M (mR M a0 2) (Int.toNat ((l5 * 41) + l1))) * (mI M (mR M a0 3) (Int.toNat l1))) l3)), vd, vi 0, vd]) rfl ?_
      refine wm_less (L' := [vr a0, vi l1, vi l2, vi l3, vi l4, vi l5, vd, vd, vl (l3 - (Int.tmod ((mI M (mR M a0 2) (Int.toNat ((l5 * 41) + l1))) * (mI M (mR M a0 3) (Int.toNat l1))) l3)), vd, vi 0, vd]) ⟨Or.inr rfl, Or.inr rfl, Or.inr rfl, Or.inr rfl, Or.inr rfl, Or.inr rfl, Or.inl rfl, Or.inl rfl, Or.inr rfl, Or.inl rfl, Or.inr rfl, Or.inl rfl, trivial⟩ ?_
      exact h
    · replace c37 := Classical.not_not.mp c37
      replace h := h.1 c37
      refine wm_goto (tgt := 175) d_Re_clearBelow_81 rfl ?_
      refine wm_iinc d_Re_clearBelow_175 (by decide) rfl (L' := [vr a0, vi l1, vi l2, vi l3, vi l4, vi (l5 + 1), vl (mI M (mR M a0 2) (Int.toNat ((l5 * 41) + l1))), vd, vd, vd, vd, vd]) rfl ?_
      refine wm_goto (tgt := 53) d_Re_clearBelow_178 rfl ?_
      refine wm_less (L' := [vr a0, vi l1, vi l2, vi l3, vi l4, vi (l5 + 1), vd, vd, vd, vd, vd, vd]) ⟨Or.inr rfl, Or.inr rfl, Or.inr rfl, Or.inr rfl, Or.inr rfl, Or.inr rfl, Or.inl rfl, Or.inl rfl, Or.inl rfl, Or.inl rfl, Or.inl rfl, Or.inl rfl, trivial⟩ ?_
      exact h
theorem k_Re_clearBelow_105 {G : mG} {d : Nat} {a0 : Nat} {l1 : Int} {l2 : Int} {l3 : Int} {l4 : Int} {l5 : Int} {j8 : Int} {l10 : Int} {M : mM} {Q : mM → Prop} (hO : mOk M) (hi_l1 : i32 l1) (hi_l2 : i32 l2) (hi_l3 : i32 l3) (hi_l4 : i32 l4) (hi_l5 : i32 l5) (hi_j8 : i64 j8) (hi_l10 : i32 l10)
    (h : ((l4 ≤ l10) → (h_Re_clearBelow_53 G d a0 l1 l2 l3 l4 (l5 + 1) M Q)) ∧ (¬ (l4 ≤ l10) → (mK M a0 = 12 ∧ mK M (mR M a0 4) = 30 ∧ ((0 : Int) ≤ l10 ∧ l10 < (mN M (mR M a0 4) : Int)) ∧ mK M (mR M a0 2) = 30 ∧ ((0 : Int) ≤ (l5 * 41) + (mI M (mR M a0 4) (Int.toNat l10)) ∧ (l5 * 41) + (mI M (mR M a0 4) (Int.toNat l10)) < (mN M (mR M a0 2) : Int)) ∧ ((0 : Int) ≤ (l1 * 41) + (mI M (mR M a0 4) (Int.toNat l10)) ∧ (l1 * 41) + (mI M (mR M a0 4) (Int.toNat l10)) < (mN M (mR M a0 2) : Int)) ∧ i64 ((mI M (mR M a0 2) (Int.toNat ((l5 * 41) + (mI M (mR M a0 4) (Int.toNat l10))))) + (j8 * (mI M (mR M a0 2) (Int.toNat ((l1 * 41) + (mI M (mR M a0 4) (Int.toNat l10))))))) ∧ l3 ≠ 0 ∧ ((0 : Int) ≤ (l5 * 41) + (mI M (mR M a0 4) (Int.toNat l10)) ∧ (l5 * 41) + (mI M (mR M a0 4) (Int.toNat l10)) < (mN M (mR M a0 2) : Int)) ∧ i32 (Int.tmod ((mI M (mR M a0 2) (Int.toNat ((l5 * 41) + (mI M (mR M a0 4) (Int.toNat l10))))) + (j8 * (mI M (mR M a0 2) (Int.toNat ((l1 * 41) + (mI M (mR M a0 4) (Int.toNat l10))))))) l3) ∧ ∀ M64, M64 = mUI M (mR M a0 2) (Int.toNat ((l5 * 41) + (mI M (mR M a0 4) (Int.toNat l10)))) (Int.tmod ((mI M (mR M a0 2) (Int.toNat ((l5 * 41) + (mI M (mR M a0 4) (Int.toNat l10))))) + (j8 * (mI M (mR M a0 2) (Int.toNat ((l1 * 41) + (mI M (mR M a0 4) (Int.toNat l10))))))) l3) → h_Re_clearBelow_105 G d a0 l1 l2 l3 l4 l5 j8 (l10 + 1) M64 Q))) :
    h_Re_clearBelow_105 G d a0 l1 l2 l3 l4 l5 j8 l10 M Q := by
  unfold h_Re_clearBelow_105
  refine wm_iload d_Re_clearBelow_105 rfl ?_
  refine wm_iload d_Re_clearBelow_107 rfl ?_
  refine wm_icmp_ge (tgt := 175) d_Re_clearBelow_109 rfl hi_l10 hi_l4 (fun c53 => ?_) (fun c53 => ?_)
  · replace h := h.1 c53
    refine wm_iinc d_Re_clearBelow_175 (by decide) rfl (L' := [vr a0, vi l1, vi l2, vi l3, vi l4, vi (l5 + 1), vd, vd, vl j8, vd, vi l10, vd]) rfl ?_
    refine wm_goto (tgt := 53) d_Re_clearBelow_178 rfl ?_
    refine wm_less (L' := [vr a0, vi l1, vi l2, vi l3, vi l4, vi (l5 + 1), vd, vd, vd, vd, vd, vd]) ⟨Or.inr rfl, Or.inr rfl, Or.inr rfl, Or.inr rfl, Or.inr rfl, Or.inr rfl, Or.inl rfl, Or.inl rfl, Or.inl rfl, Or.inl rfl, Or.inl rfl, Or.inl rfl, trivial⟩ ?_
    exact h
  · replace h := h.2 c53
    obtain ⟨h54, h⟩ := h
    obtain ⟨h55, h⟩ := h
    obtain ⟨h56, h⟩ := h
    obtain ⟨h57, h⟩ := h
    obtain ⟨h58, h⟩ := h
    obtain ⟨h59, h⟩ := h
    obtain ⟨h60, h⟩ := h
    obtain ⟨h61, h⟩ := h
    obtain ⟨h62, h⟩ := h
    obtain ⟨h63, h⟩ := h
    obtain ⟨M64, e65⟩ : ∃ M64, M64 = mUI M (mR M a0 2) (Int.toNat ((l5 * 41) + (mI M (mR M a0 4) (Int.toNat l10)))) (Int.tmod ((mI M (mR M a0 2) (Int.toNat ((l5 * 41) + (mI M (mR M a0 4) (Int.toNat l10))))) + (j8 * (mI M (mR M a0 2) (Int.toNat ((l1 * 41) + (mI M (mR M a0 4) (Int.toNat l10))))))) l3) := ⟨_, rfl⟩
    replace h := h M64 e65
    refine wm_aload_n d_Re_clearBelow_112 rfl rfl ?_
    refine gf_Re_27 rfl d_Re_clearBelow_113 h54 ?_
    refine wm_iload d_Re_clearBelow_116 rfl ?_
    refine wm_iald d_Re_clearBelow_118 h55 h56 ?_
    refine wm_istore d_Re_clearBelow_119 (by decide) (L' := [vr a0, vi l1, vi l2, vi l3, vi l4, vi l5, vd, vd, vl j8, vd, vi l10, vi (mI M (mR M a0 4) (Int.toNat l10))]) rfl ?_
    refine wm_aload_n d_Re_clearBelow_121 rfl rfl ?_
    refine gf_Re_21 rfl d_Re_clearBelow_122 h54 ?_
    refine wm_iload d_Re_clearBelow_125 rfl ?_
    refine wm_bipush d_Re_clearBelow_127 (by decide) ?_
    refine wm_imul d_Re_clearBelow_129 ?_
    refine wm_iload d_Re_clearBelow_130 rfl ?_
    refine wm_iadd d_Re_clearBelow_132 ?_
    refine wm_aload_n d_Re_clearBelow_133 rfl rfl ?_
    refine gf_Re_21 rfl d_Re_clearBelow_134 h54 ?_
    refine wm_iload d_Re_clearBelow_137 rfl ?_
    refine wm_bipush d_Re_clearBelow_139 (by decide) ?_
    refine wm_imul d_Re_clearBelow_141 ?_
    refine wm_iload d_Re_clearBelow_142 rfl ?_
    refine wm_iadd d_Re_clearBelow_144 ?_
    refine wm_iald d_Re_clearBelow_145 h57 h58 ?_
    refine wm_i2l d_Re_clearBelow_146 (hO _ _).1 ?_
    refine wm_lload d_Re_clearBelow_147 rfl ?_
    refine wm_aload_n d_Re_clearBelow_149 rfl rfl ?_
    refine gf_Re_21 rfl d_Re_clearBelow_150 h54 ?_
    refine wm_iload_n d_Re_clearBelow_153 rfl rfl ?_
    refine wm_bipush d_Re_clearBelow_154 (by decide) ?_
    refine wm_imul d_Re_clearBelow_156 ?_
    refine wm_iload d_Re_clearBelow_157 rfl ?_
    refine wm_iadd d_Re_clearBelow_159 ?_
    refine wm_iald d_Re_clearBelow_160 h57 h59 ?_
    refine wm_i2l d_Re_clearBelow_161 (hO _ _).1 ?_
    refine wm_lmul d_Re_clearBelow_162 ?_
    refine wm_ladd d_Re_clearBelow_163 ?_
    refine wm_iload_n d_Re_clearBelow_164 rfl rfl ?_
    refine wm_i2l d_Re_clearBelow_165 hi_l3 ?_
    refine wm_lrem d_Re_clearBelow_166 h60 (i64_of32 hi_l3) h61 ?_
    refine wm_l2i d_Re_clearBelow_167 ?_
    have hOM64 : mOk M64 := by rw [e65]; exact mOk_UI hO h63
    refine wm_iastE d_Re_clearBelow_168 h57 h62 h63 e65 ?_
    refine wm_iinc d_Re_clearBelow_169 (by decide) rfl (L' := [vr a0, vi l1, vi l2, vi l3, vi l4, vi l5, vd, vd, vl j8, vd, vi (l10 + 1), vi (mI M (mR M a0 4) (Int.toNat l10))]) rfl ?_
    refine wm_goto (tgt := 105) d_Re_clearBelow_172 rfl ?_
    refine wm_less (L' := [vr a0, vi l1, vi l2, vi l3, vi l4, vi l5, vd, vd, vl j8, vd, vi (l10 + 1), vd]) ⟨Or.inr rfl, Or.inr rfl, Or.inr rfl, Or.inr rfl, Or.inr rfl, Or.inr rfl, Or.inl rfl, Or.inl rfl, Or.inr rfl, Or.inl rfl, Or.inr rfl, Or.inl rfl, trivial⟩ ?_
    exact h
theorem d_Re_substitute_0 : decode y_Re_substitute.2.1 0 = .ok (.iload_n 1, 1) := dc9_27 (by decide +kernel)
theorem d_Re_substitute_1 : decode y_Re_substitute.2.1 1 = .ok (.iconst 1, 1) := dc9_4 (by decide +kernel)
theorem d_Re_substitute_2 : decode y_Re_substitute.2.1 2 = .ok (.isub, 1) := dc9_100 (by decide +kernel)
theorem d_Re_substitute_3 : decode y_Re_substitute.2.1 3 = .ok (.istore_n 3, 1) := dc9_62 (by decide +kernel)
theorem d_Re_substitute_4 : decode y_Re_substitute.2.1 4 = .ok (.iload_n 3, 1) := dc9_29 (by decide +kernel)
theorem d_Re_substitute_5 : decode y_Re_substitute.2.1 5 = .ok (.ifCond .lt 104, 3) := dc9_155 (by decide +kernel)
theorem d_Re_substitute_109 : decode y_Re_substitute.2.1 109 = .ok (.iconst 0, 1) := dc9_3 (by decide +kernel)
theorem d_Re_substitute_110 : decode y_Re_substitute.2.1 110 = .ok (.istore_n 3, 1) := dc9_62 (by decide +kernel)
theorem d_Re_substitute_8 : decode y_Re_substitute.2.1 8 = .ok (.aload_n 0, 1) := dc9_42 (by decide +kernel)
theorem d_Re_substitute_9 : decode y_Re_substitute.2.1 9 = .ok (.getfield 21, 3) := dc9_180 (by decide +kernel)
theorem d_Re_substitute_12 : decode y_Re_substitute.2.1 12 = .ok (.iload_n 3, 1) := dc9_29 (by decide +kernel)
theorem d_Re_substitute_13 : decode y_Re_substitute.2.1 13 = .ok (.bipush 41, 2) := dc9_16 (by decide +kernel)
theorem d_Re_substitute_15 : decode y_Re_substitute.2.1 15 = .ok (.imul, 1) := dc9_104 (by decide +kernel)
theorem d_Re_substitute_16 : decode y_Re_substitute.2.1 16 = .ok (.bipush 40, 2) := dc9_16 (by decide +kernel)
theorem d_Re_substitute_18 : decode y_Re_substitute.2.1 18 = .ok (.iadd, 1) := dc9_96 (by decide +kernel)
theorem d_Re_substitute_19 : decode y_Re_substitute.2.1 19 = .ok (.iaload, 1) := dc9_46 (by decide +kernel)
theorem d_Re_substitute_20 : decode y_Re_substitute.2.1 20 = .ok (.i2l, 1) := dc9_133 (by decide +kernel)
theorem d_Re_substitute_21 : decode y_Re_substitute.2.1 21 = .ok (.lstore 4, 2) := dc9_55 (by decide +kernel)
theorem d_Re_substitute_23 : decode y_Re_substitute.2.1 23 = .ok (.iload_n 3, 1) := dc9_29 (by decide +kernel)
theorem d_Re_substitute_24 : decode y_Re_substitute.2.1 24 = .ok (.iconst 1, 1) := dc9_4 (by decide +kernel)
theorem d_Re_substitute_25 : decode y_Re_substitute.2.1 25 = .ok (.iadd, 1) := dc9_96 (by decide +kernel)
theorem d_Re_substitute_26 : decode y_Re_substitute.2.1 26 = .ok (.istore 6, 2) := dc9_54 (by decide +kernel)
theorem d_Re_substitute_28 : decode y_Re_substitute.2.1 28 = .ok (.iload 6, 2) := dc9_21 (by decide +kernel)
theorem d_Re_substitute_30 : decode y_Re_substitute.2.1 30 = .ok (.iload_n 1, 1) := dc9_27 (by decide +kernel)
theorem d_Re_substitute_31 : decode y_Re_substitute.2.1 31 = .ok (.if_icmp .ge 52, 3) := dc9_162 (by decide +kernel)
theorem d_Re_substitute_83 : decode y_Re_substitute.2.1 83 = .ok (.aload_n 0, 1) := dc9_42 (by decide +kernel)
theorem d_Re_substitute_84 : decode y_Re_substitute.2.1 84 = .ok (.getfield 30, 3) := dc9_180 (by decide +kernel)
theorem d_Re_substitute_87 : decode y_Re_substitute.2.1 87 = .ok (.iload_n 3, 1) := dc9_29 (by decide +kernel)
theorem d_Re_substitute_88 : decode y_Re_substitute.2.1 88 = .ok (.lload 4, 2) := dc9_22 (by decide +kernel)
theorem d_Re_substitute_90 : decode y_Re_substitute.2.1 90 = .ok (.aload_n 0, 1) := dc9_42 (by decide +kernel)
theorem d_Re_substitute_91 : decode y_Re_substitute.2.1 91 = .ok (.getfield 24, 3) := dc9_180 (by decide +kernel)
theorem d_Re_substitute_94 : decode y_Re_substitute.2.1 94 = .ok (.iload_n 3, 1) := dc9_29 (by decide +kernel)
theorem d_Re_substitute_95 : decode y_Re_substitute.2.1 95 = .ok (.iaload, 1) := dc9_46 (by decide +kernel)
theorem d_Re_substitute_96 : decode y_Re_substitute.2.1 96 = .ok (.i2l, 1) := dc9_133 (by decide +kernel)
theorem d_Re_substitute_97 : decode y_Re_substitute.2.1 97 = .ok (.lmul, 1) := dc9_105 (by decide +kernel)
theorem d_Re_substitute_98 : decode y_Re_substitute.2.1 98 = .ok (.iload_n 2, 1) := dc9_28 (by decide +kernel)
theorem d_Re_substitute_99 : decode y_Re_substitute.2.1 99 = .ok (.i2l, 1) := dc9_133 (by decide +kernel)
theorem d_Re_substitute_100 : decode y_Re_substitute.2.1 100 = .ok (.lrem, 1) := dc9_113 (by decide +kernel)
theorem d_Re_substitute_101 : decode y_Re_substitute.2.1 101 = .ok (.l2i, 1) := dc9_136 (by decide +kernel)
theorem d_Re_substitute_102 : decode y_Re_substitute.2.1 102 = .ok (.iastore, 1) := dc9_79 (by decide +kernel)
theorem d_Re_substitute_103 : decode y_Re_substitute.2.1 103 = .ok (.iinc 3 (-1), 3) := by decide +kernel
theorem d_Re_substitute_106 : decode y_Re_substitute.2.1 106 = .ok (.goto (-102), 3) := dc9_167 (by decide +kernel)
theorem d_Re_substitute_34 : decode y_Re_substitute.2.1 34 = .ok (.aload_n 0, 1) := dc9_42 (by decide +kernel)
theorem d_Re_substitute_35 : decode y_Re_substitute.2.1 35 = .ok (.getfield 21, 3) := dc9_180 (by decide +kernel)
theorem d_Re_substitute_38 : decode y_Re_substitute.2.1 38 = .ok (.iload_n 3, 1) := dc9_29 (by decide +kernel)
theorem d_Re_substitute_39 : decode y_Re_substitute.2.1 39 = .ok (.bipush 41, 2) := dc9_16 (by decide +kernel)
theorem d_Re_substitute_41 : decode y_Re_substitute.2.1 41 = .ok (.imul, 1) := dc9_104 (by decide +kernel)
theorem d_Re_substitute_42 : decode y_Re_substitute.2.1 42 = .ok (.iload 6, 2) := dc9_21 (by decide +kernel)
theorem d_Re_substitute_44 : decode y_Re_substitute.2.1 44 = .ok (.iadd, 1) := dc9_96 (by decide +kernel)
theorem d_Re_substitute_45 : decode y_Re_substitute.2.1 45 = .ok (.iaload, 1) := dc9_46 (by decide +kernel)
theorem d_Re_substitute_46 : decode y_Re_substitute.2.1 46 = .ok (.i2l, 1) := dc9_133 (by decide +kernel)
theorem d_Re_substitute_47 : decode y_Re_substitute.2.1 47 = .ok (.lstore 7, 2) := dc9_55 (by decide +kernel)
theorem d_Re_substitute_49 : decode y_Re_substitute.2.1 49 = .ok (.lload 7, 2) := dc9_22 (by decide +kernel)
theorem d_Re_substitute_51 : decode y_Re_substitute.2.1 51 = .ok (.lconst 0, 1) := dc9_9 (by decide +kernel)
theorem d_Re_substitute_52 : decode y_Re_substitute.2.1 52 = .ok (.lcmp, 1) := dc9_148 (by decide +kernel)
theorem d_Re_substitute_53 : decode y_Re_substitute.2.1 53 = .ok (.ifCond .eq 24, 3) := dc9_153 (by decide +kernel)
theorem d_Re_substitute_56 : decode y_Re_substitute.2.1 56 = .ok (.lload 4, 2) := dc9_22 (by decide +kernel)
theorem d_Re_substitute_58 : decode y_Re_substitute.2.1 58 = .ok (.lload 7, 2) := dc9_22 (by decide +kernel)
theorem d_Re_substitute_60 : decode y_Re_substitute.2.1 60 = .ok (.iload_n 2, 1) := dc9_28 (by decide +kernel)
theorem d_Re_substitute_61 : decode y_Re_substitute.2.1 61 = .ok (.aload_n 0, 1) := dc9_42 (by decide +kernel)
theorem d_Re_substitute_62 : decode y_Re_substitute.2.1 62 = .ok (.getfield 30, 3) := dc9_180 (by decide +kernel)
theorem d_Re_substitute_65 : decode y_Re_substitute.2.1 65 = .ok (.iload 6, 2) := dc9_21 (by decide +kernel)
theorem d_Re_substitute_67 : decode y_Re_substitute.2.1 67 = .ok (.iaload, 1) := dc9_46 (by decide +kernel)
theorem d_Re_substitute_68 : decode y_Re_substitute.2.1 68 = .ok (.isub, 1) := dc9_100 (by decide +kernel)
theorem d_Re_substitute_69 : decode y_Re_substitute.2.1 69 = .ok (.i2l, 1) := dc9_133 (by decide +kernel)
theorem d_Re_substitute_70 : decode y_Re_substitute.2.1 70 = .ok (.lmul, 1) := dc9_105 (by decide +kernel)
theorem d_Re_substitute_71 : decode y_Re_substitute.2.1 71 = .ok (.ladd, 1) := dc9_97 (by decide +kernel)
theorem d_Re_substitute_72 : decode y_Re_substitute.2.1 72 = .ok (.iload_n 2, 1) := dc9_28 (by decide +kernel)
theorem d_Re_substitute_73 : decode y_Re_substitute.2.1 73 = .ok (.i2l, 1) := dc9_133 (by decide +kernel)
theorem d_Re_substitute_74 : decode y_Re_substitute.2.1 74 = .ok (.lrem, 1) := dc9_113 (by decide +kernel)
theorem d_Re_substitute_75 : decode y_Re_substitute.2.1 75 = .ok (.lstore 4, 2) := dc9_55 (by decide +kernel)
theorem d_Re_substitute_77 : decode y_Re_substitute.2.1 77 = .ok (.iinc 6 1, 3) := by decide +kernel
theorem d_Re_substitute_80 : decode y_Re_substitute.2.1 80 = .ok (.goto (-52), 3) := dc9_167 (by decide +kernel)
theorem d_Re_substitute_111 : decode y_Re_substitute.2.1 111 = .ok (.iload_n 3, 1) := dc9_29 (by decide +kernel)
theorem d_Re_substitute_112 : decode y_Re_substitute.2.1 112 = .ok (.iload_n 1, 1) := dc9_27 (by decide +kernel)
theorem d_Re_substitute_113 : decode y_Re_substitute.2.1 113 = .ok (.if_icmp .ge 34, 3) := dc9_162 (by decide +kernel)
theorem d_Re_substitute_147 : decode y_Re_substitute.2.1 147 = .ok (.return_, 1) := dc9_177 (by decide +kernel)
theorem d_Re_substitute_116 : decode y_Re_substitute.2.1 116 = .ok (.aload_n 0, 1) := dc9_42 (by decide +kernel)
theorem d_Re_substitute_117 : decode y_Re_substitute.2.1 117 = .ok (.getfield 30, 3) := dc9_180 (by decide +kernel)
theorem d_Re_substitute_120 : decode y_Re_substitute.2.1 120 = .ok (.iload_n 3, 1) := dc9_29 (by decide +kernel)
theorem d_Re_substitute_121 : decode y_Re_substitute.2.1 121 = .ok (.aload_n 0, 1) := dc9_42 (by decide +kernel)
theorem d_Re_substitute_122 : decode y_Re_substitute.2.1 122 = .ok (.getfield 30, 3) := dc9_180 (by decide +kernel)
theorem d_Re_substitute_125 : decode y_Re_substitute.2.1 125 = .ok (.iload_n 3, 1) := dc9_29 (by decide +kernel)
theorem d_Re_substitute_126 : decode y_Re_substitute.2.1 126 = .ok (.iaload, 1) := dc9_46 (by decide +kernel)
theorem d_Re_substitute_127 : decode y_Re_substitute.2.1 127 = .ok (.i2l, 1) := dc9_133 (by decide +kernel)
theorem d_Re_substitute_128 : decode y_Re_substitute.2.1 128 = .ok (.aload_n 0, 1) := dc9_42 (by decide +kernel)
theorem d_Re_substitute_129 : decode y_Re_substitute.2.1 129 = .ok (.getfield 30, 3) := dc9_180 (by decide +kernel)
theorem d_Re_substitute_132 : decode y_Re_substitute.2.1 132 = .ok (.iload_n 1, 1) := dc9_27 (by decide +kernel)
theorem d_Re_substitute_133 : decode y_Re_substitute.2.1 133 = .ok (.iaload, 1) := dc9_46 (by decide +kernel)
theorem d_Re_substitute_134 : decode y_Re_substitute.2.1 134 = .ok (.i2l, 1) := dc9_133 (by decide +kernel)
theorem d_Re_substitute_135 : decode y_Re_substitute.2.1 135 = .ok (.lmul, 1) := dc9_105 (by decide +kernel)
theorem d_Re_substitute_136 : decode y_Re_substitute.2.1 136 = .ok (.iload_n 2, 1) := dc9_28 (by decide +kernel)
theorem d_Re_substitute_137 : decode y_Re_substitute.2.1 137 = .ok (.i2l, 1) := dc9_133 (by decide +kernel)
theorem d_Re_substitute_138 : decode y_Re_substitute.2.1 138 = .ok (.lrem, 1) := dc9_113 (by decide +kernel)
theorem d_Re_substitute_139 : decode y_Re_substitute.2.1 139 = .ok (.l2i, 1) := dc9_136 (by decide +kernel)
theorem d_Re_substitute_140 : decode y_Re_substitute.2.1 140 = .ok (.iastore, 1) := dc9_79 (by decide +kernel)
theorem d_Re_substitute_141 : decode y_Re_substitute.2.1 141 = .ok (.iinc 3 1, 3) := by decide +kernel
theorem d_Re_substitute_144 : decode y_Re_substitute.2.1 144 = .ok (.goto (-33), 3) := dc9_167 (by decide +kernel)
def h_Re_substitute_4 (G : mG) (d : Nat) (a0 : Nat) (l1 : Int) (l2 : Int) (l3 : Int) (M : mM) (Q : mM → Prop) : Prop := mWm G y_Re_substitute d 4 [vr a0, vi l1, vi l2, vi l3, vd, vd, vd, vd, vd] [] M (fun r9 M9 => r9 = none ∧ Q M9)
def h_Re_substitute_28 (G : mG) (d : Nat) (a0 : Nat) (l1 : Int) (l2 : Int) (l3 : Int) (j4 : Int) (l6 : Int) (M : mM) (Q : mM → Prop) : Prop := mWm G y_Re_substitute d 28 [vr a0, vi l1, vi l2, vi l3, vl j4, vd, vi l6, vd, vd] [] M (fun r9 M9 => r9 = none ∧ Q M9)
def h_Re_substitute_111 (G : mG) (d : Nat) (a0 : Nat) (l1 : Int) (l2 : Int) (l3 : Int) (M : mM) (Q : mM → Prop) : Prop := mWm G y_Re_substitute d 111 [vr a0, vi l1, vi l2, vi l3, vd, vd, vd, vd, vd] [] M (fun r9 M9 => r9 = none ∧ Q M9)
theorem k_Re_substitute {G : mG} {d : Nat} {a0 : Nat} {l1 : Int} {l2 : Int} {M : mM} {Q : mM → Prop} (hO : mOk M) (hi_l1 : i32 l1) (hi_l2 : i32 l2)
    (h : h_Re_substitute_4 G d a0 l1 l2 (l1 - 1) M Q) :
    Cv G y_Re_substitute d [vr a0, vi l1, vi l2] M Q := by
  refine wm_open (y := y_Re_substitute) rfl (Nat.le_of_ble_eq_true rfl) (L := [vr a0, vi l1, vi l2, vd, vd, vd, vd, vd, vd]) rfl ?_
  refine wm_iload_n d_Re_substitute_0 rfl rfl ?_
  refine wm_iconst d_Re_substitute_1 ?_
  refine wm_isub d_Re_substitute_2 ?_
  refine wm_istore_n d_Re_substitute_3 rfl (by decide) (L' := [vr a0, vi l1, vi l2, vi (l1 - 1), vd, vd, vd, vd, vd]) rfl ?_
  exact h
theorem k_Re_substitute_4 {G : mG} {d : Nat} {a0 : Nat} {l1 : Int} {l2 : Int} {l3 : Int} {M : mM} {Q : mM → Prop} (hO : mOk M) (hi_l1 : i32 l1) (hi_l2 : i32 l2) (hi_l3 : i32 l3)
    (h : ((l3 < 0) → (h_Re_substitute_111 G d a0 l1 l2 0 M Q)) ∧ (¬ (l3 < 0) → (mK M a0 = 12 ∧ mK M (mR M a0 2) = 30 ∧ ((0 : Int) ≤ (l3 * 41) + 40 ∧ (l3 * 41) + 40 < (mN M (mR M a0 2) : Int)) ∧ h_Re_substitute_28 G d a0 l1 l2 l3 (mI M (mR M a0 2) (Int.toNat ((l3 * 41) + 40))) (l3 + 1) M Q))) :
    h_Re_substitute_4 G d a0 l1 l2 l3 M Q := by
  unfold h_Re_substitute_4
  refine wm_iload_n d_Re_substitute_4 rfl rfl ?_
  refine wm_if_lt (tgt := 109) d_Re_substitute_5 rfl hi_l3 (fun c5 => ?_) (fun c5 => ?_)
  · replace h := h.1 c5
    refine wm_iconst d_Re_substitute_109 ?_
    refine wm_istore_n d_Re_substitute_110 rfl (by decide) (L' := [vr a0, vi l1, vi l2, vi 0, vd, vd, vd, vd, vd]) rfl ?_
    exact h
  · replace h := h.2 c5
    obtain ⟨h6, h⟩ := h
    obtain ⟨h7, h⟩ := h
    obtain ⟨h8, h⟩ := h
    refine wm_aload_n d_Re_substitute_8 rfl rfl ?_
    refine gf_Re_21 rfl d_Re_substitute_9 h6 ?_
    refine wm_iload_n d_Re_substitute_12 rfl rfl ?_
    refine wm_bipush d_Re_substitute_13 (by decide) ?_
    refine wm_imul d_Re_substitute_15 ?_
    refine wm_bipush d_Re_substitute_16 (by decide) ?_
    refine wm_iadd d_Re_substitute_18 ?_
    refine wm_iald d_Re_substitute_19 h7 h8 ?_
    refine wm_i2l d_Re_substitute_20 (hO _ _).1 ?_
    refine wm_lstore d_Re_substitute_21 (by decide) (L' := [vr a0, vi l1, vi l2, vi l3, vl (mI M (mR M a0 2) (Int.toNat ((l3 * 41) + 40))), vd, vd, vd, vd]) rfl ?_
    refine wm_iload_n d_Re_substitute_23 rfl rfl ?_
    refine wm_iconst d_Re_substitute_24 ?_
    refine wm_iadd d_Re_substitute_25 ?_
    refine wm_istore d_Re_substitute_26 (by decide) (L' := [vr a0, vi l1, vi l2, vi l3, vl (mI M (mR M a0 2) (Int.toNat ((l3 * 41) + 40))), vd, vi (l3 + 1), vd, vd]) rfl ?_
    exact h
theorem k_Re_substitute_28 {G : mG} {d : Nat} {a0 : Nat} {l1 : Int} {l2 : Int} {l3 : Int} {j4 : Int} {l6 : Int} {M : mM} {Q : mM → Prop} (hO : mOk M) (hi_l1 : i32 l1) (hi_l2 : i32 l2) (hi_l3 : i32 l3) (hi_j4 : i64 j4) (hi_l6 : i32 l6)
    (h : ((l1 ≤ l6) → (mK M a0 = 12 ∧ mK M (mR M a0 3) = 30 ∧ ((0 : Int) ≤ l3 ∧ l3 < (mN M (mR M a0 3) : Int)) ∧ i64 (j4 * (mI M (mR M a0 3) (Int.toNat l3))) ∧ l2 ≠ 0 ∧ mK M (mR M a0 5) = 30 ∧ ((0 : Int) ≤ l3 ∧ l3 < (mN M (mR M a0 5) : Int)) ∧ i32 (Int.tmod (j4 * (mI M (mR M a0 3) (Int.toNat l3))) l2) ∧ ∀ M30, M30 = mUI M (mR M a0 5) (Int.toNat l3) (Int.tmod (j4 * (mI M (mR M a0 3) (Int.toNat l3))) l2) → h_Re_substitute_4 G d a0 l1 l2 (l3 + (-1)) M30 Q)) ∧ (¬ (l1 ≤ l6) → (mK M a0 = 12 ∧ mK M (mR M a0 2) = 30 ∧ ((0 : Int) ≤ (l3 * 41) + l6 ∧ (l3 * 41) + l6 < (mN M (mR M a0 2) : Int)) ∧ (¬ (cmpL (mI M (mR M a0 2) (Int.toNat ((l3 * 41) + l6))) 0 = 0) → (mK M (mR M a0 5) = 30 ∧ ((0 : Int) ≤ l6 ∧ l6 < (mN M (mR M a0 5) : Int)) ∧ i32 (l2 - (mI M (mR M a0 5) (Int.toNat l6))) ∧ i64 (j4 + ((mI M (mR M a0 2) (Int.toNat ((l3 * 41) + l6))) * (l2 - (mI M (mR M a0 5) (Int.toNat l6))))) ∧ l2 ≠ 0)) ∧ ∀ v41 : Int, v41 = (if (cmpL (mI M (mR M a0 2) (Int.toNat ((l3 * 41) + l6))) 0 = 0) then j4 else Int.tmod (j4 + ((mI M (mR M a0 2) (Int.toNat ((l3 * 41) + l6))) * (l2 - (mI M (mR M a0 5) (Int.toNat l6))))) l2) → h_Re_substitute_28 G d a0 l1 l2 l3 v41 (l6 + 1) M Q))) :
    h_Re_substitute_28 G d a0 l1 l2 l3 j4 l6 M Q := by
  unfold h_Re_substitute_28
  refine wm_iload d_Re_substitute_28 rfl ?_
  refine wm_iload_n d_Re_substitute_30 rfl rfl ?_
  refine wm_icmp_ge (tgt := 83) d_Re_substitute_31 rfl hi_l6 hi_l1 (fun c21 => ?_) (fun c21 => ?_)
  · replace h := h.1 c21
    obtain ⟨h22, h⟩ := h
    obtain ⟨h23, h⟩ := h
    obtain ⟨h24, h⟩ := h
    obtain ⟨h25, h⟩ := h
    obtain ⟨h26, h⟩ := h
    obtain ⟨h27, h⟩ := h
    obtain ⟨h28, h⟩ := h
    obtain ⟨h29, h⟩ := h
    obtain ⟨M30, e31⟩ : ∃ M30, M30 = mUI M (mR M a0 5) (Int.toNat l3) (Int.tmod (j4 * (mI M (mR M a0 3) (Int.toNat l3))) l2) := ⟨_, rfl⟩
    replace h := h M30 e31
    refine wm_aload_n d_Re_substitute_83 rfl rfl ?_
    refine gf_Re_30 rfl d_Re_substitute_84 h22 ?_
    refine wm_iload_n d_Re_substitute_87 rfl rfl ?_
    refine wm_lload d_Re_substitute_88 rfl ?_
    refine wm_aload_n d_Re_substitute_90 rfl rfl ?_
    refine gf_Re_24 rfl d_Re_substitute_91 h22 ?_
    refine wm_iload_n d_Re_substitute_94 rfl rfl ?_
    refine wm_iald d_Re_substitute_95 h23 h24 ?_
    refine wm_i2l d_Re_substitute_96 (hO _ _).1 ?_
    refine wm_lmul d_Re_substitute_97 ?_
    refine wm_iload_n d_Re_substitute_98 rfl rfl ?_
    refine wm_i2l d_Re_substitute_99 hi_l2 ?_
    refine wm_lrem d_Re_substitute_100 h25 (i64_of32 hi_l2) h26 ?_
    refine wm_l2i d_Re_substitute_101 ?_
    have hOM30 : mOk M30 := by rw [e31]; exact mOk_UI hO h29
    refine wm_iastE d_Re_substitute_102 h27 h28 h29 e31 ?_
    refine wm_iinc d_Re_substitute_103 (by decide) rfl (L' := [vr a0, vi l1, vi l2, vi (l3 + (-1)), vl j4, vd, vi l6, vd, vd]) rfl ?_
    refine wm_goto (tgt := 4) d_Re_substitute_106 rfl ?_
    refine wm_less (L' := [vr a0, vi l1, vi l2, vi (l3 + (-1)), vd, vd, vd, vd, vd]) ⟨Or.inr rfl, Or.inr rfl, Or.inr rfl, Or.inr rfl, Or.inl rfl, Or.inl rfl, Or.inl rfl, Or.inl rfl, Or.inl rfl, trivial⟩ ?_
    exact h
  · replace h := h.2 c21
    obtain ⟨h32, h⟩ := h
    obtain ⟨h33, h⟩ := h
    obtain ⟨h34, h⟩ := h
    refine wm_aload_n d_Re_substitute_34 rfl rfl ?_
    refine gf_Re_21 rfl d_Re_substitute_35 h32 ?_
    refine wm_iload_n d_Re_substitute_38 rfl rfl ?_
    refine wm_bipush d_Re_substitute_39 (by decide) ?_
    refine wm_imul d_Re_substitute_41 ?_
    refine wm_iload d_Re_substitute_42 rfl ?_
    refine wm_iadd d_Re_substitute_44 ?_
    refine wm_iald d_Re_substitute_45 h33 h34 ?_
    refine wm_i2l d_Re_substitute_46 (hO _ _).1 ?_
    refine wm_lstore d_Re_substitute_47 (by decide) (L' := [vr a0, vi l1, vi l2, vi l3, vl j4, vd, vi l6, vl (mI M (mR M a0 2) (Int.toNat ((l3 * 41) + l6))), vd]) rfl ?_
    refine wm_lload d_Re_substitute_49 rfl ?_
    refine wm_lconst (x := 0) d_Re_substitute_51 rfl ?_
    refine wm_lcmp d_Re_substitute_52 (i64_of32 (hO _ _).1) ⟨by decide, by decide⟩ ?_
    obtain ⟨s42, h⟩ := h
    have hJ : ∀ v41 : Int, v41 = (if (cmpL (mI M (mR M a0 2) (Int.toNat ((l3 * 41) + l6))) 0 = 0) then j4 else Int.tmod (j4 + ((mI M (mR M a0 2) (Int.toNat ((l3 * 41) + l6))) * (l2 - (mI M (mR M a0 5) (Int.toNat l6))))) l2) → mWm G y_Re_substitute d 77 [vr a0, vi l1, vi l2, vi l3, vl v41, vd, vi l6, vd, vd] [] M (fun r9 M9 => r9 = none ∧ Q M9) := by
      intro v41 e43
      have h := h v41 e43
      refine wm_iinc d_Re_substitute_77 (by decide) rfl (L' := [vr a0, vi l1, vi l2, vi l3, vl v41, vd, vi (l6 + 1), vd, vd]) rfl ?_
      refine wm_goto (tgt := 28) d_Re_substitute_80 rfl ?_
      exact h
    clear h
    have s44 := s42
    refine wm_if_eq (tgt := 77) d_Re_substitute_53 rfl (m_cmp32 _ _) (fun c35 => ?_) (fun c35 => ?_)
    · refine wm_less (L' := [vr a0, vi l1, vi l2, vi l3, vl j4, vd, vi l6, vd, vd]) ⟨Or.inr rfl, Or.inr rfl, Or.inr rfl, Or.inr rfl, Or.inr rfl, Or.inl rfl, Or.inr rfl, Or.inl rfl, Or.inl rfl, trivial⟩ ?_
      exact hJ j4 (if_pos c35).symm
    · have s44 := s44 c35
      obtain ⟨h36, h37, h38, h39, h40⟩ := s44
      refine wm_lload d_Re_substitute_56 rfl ?_
      refine wm_lload d_Re_substitute_58 rfl ?_
      refine wm_iload_n d_Re_substitute_60 rfl rfl ?_
      refine wm_aload_n d_Re_substitute_61 rfl rfl ?_
      refine gf_Re_30 rfl d_Re_substitute_62 h32 ?_
      refine wm_iload d_Re_substitute_65 rfl ?_
      refine wm_iald d_Re_substitute_67 h36 h37 ?_
      refine wm_isub d_Re_substitute_68 ?_
      refine wm_i2l d_Re_substitute_69 h38 ?_
      refine wm_lmul d_Re_substitute_70 ?_
      refine wm_ladd d_Re_substitute_71 ?_
      refine wm_iload_n d_Re_substitute_72 rfl rfl ?_
      refine wm_i2l d_Re_substitute_73 hi_l2 ?_
      refine wm_lrem d_Re_substitute_74 h39 (i64_of32 hi_l2) h40 ?_
      refine wm_lstore d_Re_substitute_75 (by decide) (L' := [vr a0, vi l1, vi l2, vi l3, vl (Int.tmod (j4 + ((mI M (mR M a0 2) (Int.toNat ((l3 * 41) + l6))) * (l2 - (mI M (mR M a0 5) (Int.toNat l6))))) l2), vd, vi l6, vl (mI M (mR M a0 2) (Int.toNat ((l3 * 41) + l6))), vd]) rfl ?_
      refine wm_less (L' := [vr a0, vi l1, vi l2, vi l3, vl (Int.tmod (j4 + ((mI M (mR M a0 2) (Int.toNat ((l3 * 41) + l6))) * (l2 - (mI M (mR M a0 5) (Int.toNat l6))))) l2), vd, vi l6, vd, vd]) ⟨Or.inr rfl, Or.inr rfl, Or.inr rfl, Or.inr rfl, Or.inr rfl, Or.inl rfl, Or.inr rfl, Or.inl rfl, Or.inl rfl, trivial⟩ ?_
      exact hJ (Int.tmod (j4 + ((mI M (mR M a0 2) (Int.toNat ((l3 * 41) + l6))) * (l2 - (mI M (mR M a0 5) (Int.toNat l6))))) l2) (if_neg c35).symm
theorem k_Re_substitute_111 {G : mG} {d : Nat} {a0 : Nat} {l1 : Int} {l2 : Int} {l3 : Int} {M : mM} {Q : mM → Prop} (hO : mOk M) (hi_l1 : i32 l1) (hi_l2 : i32 l2) (hi_l3 : i32 l3)
    (h : ((l1 ≤ l3) → (Q M)) ∧ (¬ (l1 ≤ l3) → (mK M a0 = 12 ∧ mK M (mR M a0 5) = 30 ∧ ((0 : Int) ≤ l3 ∧ l3 < (mN M (mR M a0 5) : Int)) ∧ ((0 : Int) ≤ l1 ∧ l1 < (mN M (mR M a0 5) : Int)) ∧ i64 ((mI M (mR M a0 5) (Int.toNat l3)) * (mI M (mR M a0 5) (Int.toNat l1))) ∧ l2 ≠ 0 ∧ ((0 : Int) ≤ l3 ∧ l3 < (mN M (mR M a0 5) : Int)) ∧ i32 (Int.tmod ((mI M (mR M a0 5) (Int.toNat l3)) * (mI M (mR M a0 5) (Int.toNat l1))) l2) ∧ ∀ M64, M64 = mUI M (mR M a0 5) (Int.toNat l3) (Int.tmod ((mI M (mR M a0 5) (Int.toNat l3)) * (mI M (mR M a0 5) (Int.toNat l1))) l2) → h_Re_substitute_111 G d a0 l1 l2 (l3 + 1) M64 Q))) :
    h_Re_substitute_111 G d a0 l1 l2 l3 M Q := by
  unfold h_Re_substitute_111
  refine wm_iload_n d_Re_substitute_111 rfl rfl ?_
  refine wm_iload_n d_Re_substitute_112 rfl rfl ?_
  refine wm_icmp_ge (tgt := 147) d_Re_substitute_113 rfl hi_l3 hi_l1 (fun c55 => ?_) (fun c55 => ?_)
  · replace h := h.1 c55
    refine wm_return d_Re_substitute_147 rfl ?_
    exact ⟨rfl, h⟩
  · replace h := h.2 c55
    obtain ⟨h56, h⟩ := h
    obtain ⟨h57, h⟩ := h
    obtain ⟨h58, h⟩ := h
    obtain ⟨h59, h⟩ := h
    obtain ⟨h60, h⟩ := h
    obtain ⟨h61, h⟩ := h
    obtain ⟨h62, h⟩ := h
    obtain ⟨h63, h⟩ := h
    obtain ⟨M64, e65⟩ : ∃ M64, M64 = mUI M (mR M a0 5) (Int.toNat l3) (Int.tmod ((mI M (mR M a0 5) (Int.toNat l3)) * (mI M (mR M a0 5) (Int.toNat l1))) l2) := ⟨_, rfl⟩
    replace h := h M64 e65
    refine wm_aload_n d_Re_substitute_116 rfl rfl ?_
    refine gf_Re_30 rfl d_Re_substitute_117 h56 ?_
    refine wm_iload_n d_Re_substitute_120 rfl rfl ?_
    refine wm_aload_n d_Re_substitute_121 rfl rfl ?_
    refine gf_Re_30 rfl d_Re_substitute_122 h56 ?_
    refine wm_iload_n d_Re_substitute_125 rfl rfl ?_
    refine wm_iald d_Re_substitute_126 h57 h58 ?_
    refine wm_i2l d_Re_substitute_127 (hO _ _).1 ?_
    refine wm_aload_n d_Re_substitute_128 rfl rfl ?_
    refine gf_Re_30 rfl d_Re_substitute_129 h56 ?_
    refine wm_iload_n d_Re_substitute_132 rfl rfl ?_
    refine wm_iald d_Re_substitute_133 h57 h59 ?_
    refine wm_i2l d_Re_substitute_134 (hO _ _).1 ?_
    refine wm_lmul d_Re_substitute_135 ?_
    refine wm_iload_n d_Re_substitute_136 rfl rfl ?_
    refine wm_i2l d_Re_substitute_137 hi_l2 ?_
    refine wm_lrem d_Re_substitute_138 h60 (i64_of32 hi_l2) h61 ?_
    refine wm_l2i d_Re_substitute_139 ?_
    have hOM64 : mOk M64 := by rw [e65]; exact mOk_UI hO h63
    refine wm_iastE d_Re_substitute_140 h57 h62 h63 e65 ?_
    refine wm_iinc d_Re_substitute_141 (by decide) rfl (L' := [vr a0, vi l1, vi l2, vi (l3 + 1), vd, vd, vd, vd, vd]) rfl ?_
    refine wm_goto (tgt := 111) d_Re_substitute_144 rfl ?_
    exact h
theorem d_Re_combine_0 : decode y_Re_combine.2.1 0 = .ok (.aload_n 0, 1) := dc9_42 (by decide +kernel)
theorem d_Re_combine_1 : decode y_Re_combine.2.1 1 = .ok (.getfield 34, 3) := dc9_180 (by decide +kernel)
theorem d_Re_combine_4 : decode y_Re_combine.2.1 4 = .ok (.iload_n 2, 1) := dc9_28 (by decide +kernel)
theorem d_Re_combine_5 : decode y_Re_combine.2.1 5 = .ok (.invokevirtual 71, 3) := dc9_182 (by decide +kernel)
theorem d_Re_combine_8 : decode y_Re_combine.2.1 8 = .ok (.iload_n 2, 1) := dc9_28 (by decide +kernel)
theorem d_Re_combine_9 : decode y_Re_combine.2.1 9 = .ok (.invokestatic 63, 3) := dc9_184 (by decide +kernel)
theorem d_Re_combine_12 : decode y_Re_combine.2.1 12 = .ok (.i2l, 1) := dc9_133 (by decide +kernel)
theorem d_Re_combine_13 : decode y_Re_combine.2.1 13 = .ok (.lstore_n 3, 1) := dc9_66 (by decide +kernel)
theorem d_Re_combine_14 : decode y_Re_combine.2.1 14 = .ok (.iconst 0, 1) := dc9_3 (by decide +kernel)
theorem d_Re_combine_15 : decode y_Re_combine.2.1 15 = .ok (.istore 5, 2) := dc9_54 (by decide +kernel)
theorem d_Re_combine_17 : decode y_Re_combine.2.1 17 = .ok (.iload 5, 2) := dc9_21 (by decide +kernel)
theorem d_Re_combine_19 : decode y_Re_combine.2.1 19 = .ok (.iload_n 1, 1) := dc9_27 (by decide +kernel)
theorem d_Re_combine_20 : decode y_Re_combine.2.1 20 = .ok (.if_icmp .gt 60, 3) := dc9_163 (by decide +kernel)
theorem d_Re_combine_80 : decode y_Re_combine.2.1 80 = .ok (.aload_n 0, 1) := dc9_42 (by decide +kernel)
theorem d_Re_combine_81 : decode y_Re_combine.2.1 81 = .ok (.getfield 34, 3) := dc9_180 (by decide +kernel)
theorem d_Re_combine_84 : decode y_Re_combine.2.1 84 = .ok (.iload_n 2, 1) := dc9_28 (by decide +kernel)
theorem d_Re_combine_23 : decode y_Re_combine.2.1 23 = .ok (.aload_n 0, 1) := dc9_42 (by decide +kernel)
theorem d_Re_combine_24 : decode y_Re_combine.2.1 24 = .ok (.getfield 30, 3) := dc9_180 (by decide +kernel)
theorem d_Re_combine_27 : decode y_Re_combine.2.1 27 = .ok (.iload 5, 2) := dc9_21 (by decide +kernel)
theorem d_Re_combine_29 : decode y_Re_combine.2.1 29 = .ok (.iaload, 1) := dc9_46 (by decide +kernel)
theorem d_Re_combine_30 : decode y_Re_combine.2.1 30 = .ok (.i2l, 1) := dc9_133 (by decide +kernel)
theorem d_Re_combine_31 : decode y_Re_combine.2.1 31 = .ok (.iload_n 2, 1) := dc9_28 (by decide +kernel)
theorem d_Re_combine_32 : decode y_Re_combine.2.1 32 = .ok (.i2l, 1) := dc9_133 (by decide +kernel)
theorem d_Re_combine_33 : decode y_Re_combine.2.1 33 = .ok (.ladd, 1) := dc9_97 (by decide +kernel)
theorem d_Re_combine_34 : decode y_Re_combine.2.1 34 = .ok (.aload_n 0, 1) := dc9_42 (by decide +kernel)
theorem d_Re_combine_35 : decode y_Re_combine.2.1 35 = .ok (.getfield 17, 3) := dc9_180 (by decide +kernel)
theorem d_Re_combine_38 : decode y_Re_combine.2.1 38 = .ok (.iload 5, 2) := dc9_21 (by decide +kernel)
theorem d_Re_combine_40 : decode y_Re_combine.2.1 40 = .ok (.aaload, 1) := dc9_50 (by decide +kernel)
theorem d_Re_combine_41 : decode y_Re_combine.2.1 41 = .ok (.iload_n 2, 1) := dc9_28 (by decide +kernel)
theorem d_Re_combine_85 : decode y_Re_combine.2.1 85 = .ok (.invokevirtual 79, 3) := dc9_182 (by decide +kernel)
theorem d_Re_combine_88 : decode y_Re_combine.2.1 88 = .ok (.return_, 1) := dc9_177 (by decide +kernel)
theorem d_Re_combine_42 : decode y_Re_combine.2.1 42 = .ok (.invokevirtual 71, 3) := dc9_182 (by decide +kernel)
theorem d_Re_combine_45 : decode y_Re_combine.2.1 45 = .ok (.i2l, 1) := dc9_133 (by decide +kernel)
theorem d_Re_combine_46 : decode y_Re_combine.2.1 46 = .ok (.lsub, 1) := dc9_101 (by decide +kernel)
theorem d_Re_combine_47 : decode y_Re_combine.2.1 47 = .ok (.lstore 6, 2) := dc9_55 (by decide +kernel)
theorem d_Re_combine_49 : decode y_Re_combine.2.1 49 = .ok (.aload_n 0, 1) := dc9_42 (by decide +kernel)
theorem d_Re_combine_50 : decode y_Re_combine.2.1 50 = .ok (.getfield 17, 3) := dc9_180 (by decide +kernel)
theorem d_Re_combine_53 : decode y_Re_combine.2.1 53 = .ok (.iload 5, 2) := dc9_21 (by decide +kernel)
theorem d_Re_combine_55 : decode y_Re_combine.2.1 55 = .ok (.aaload, 1) := dc9_50 (by decide +kernel)
theorem d_Re_combine_56 : decode y_Re_combine.2.1 56 = .ok (.aload_n 0, 1) := dc9_42 (by decide +kernel)
theorem d_Re_combine_57 : decode y_Re_combine.2.1 57 = .ok (.getfield 34, 3) := dc9_180 (by decide +kernel)
theorem d_Re_combine_60 : decode y_Re_combine.2.1 60 = .ok (.lload 6, 2) := dc9_22 (by decide +kernel)
theorem d_Re_combine_62 : decode y_Re_combine.2.1 62 = .ok (.iload_n 2, 1) := dc9_28 (by decide +kernel)
theorem d_Re_combine_63 : decode y_Re_combine.2.1 63 = .ok (.i2l, 1) := dc9_133 (by decide +kernel)
theorem d_Re_combine_64 : decode y_Re_combine.2.1 64 = .ok (.lrem, 1) := dc9_113 (by decide +kernel)
theorem d_Re_combine_65 : decode y_Re_combine.2.1 65 = .ok (.lload_n 3, 1) := dc9_33 (by decide +kernel)
theorem d_Re_combine_66 : decode y_Re_combine.2.1 66 = .ok (.lmul, 1) := dc9_105 (by decide +kernel)
theorem d_Re_combine_67 : decode y_Re_combine.2.1 67 = .ok (.iload_n 2, 1) := dc9_28 (by decide +kernel)
theorem d_Re_combine_68 : decode y_Re_combine.2.1 68 = .ok (.i2l, 1) := dc9_133 (by decide +kernel)
theorem d_Re_combine_69 : decode y_Re_combine.2.1 69 = .ok (.lrem, 1) := dc9_113 (by decide +kernel)
theorem d_Re_combine_70 : decode y_Re_combine.2.1 70 = .ok (.l2i, 1) := dc9_136 (by decide +kernel)
theorem d_Re_combine_71 : decode y_Re_combine.2.1 71 = .ok (.invokevirtual 75, 3) := dc9_182 (by decide +kernel)
theorem d_Re_combine_74 : decode y_Re_combine.2.1 74 = .ok (.iinc 5 1, 3) := by decide +kernel
theorem d_Re_combine_77 : decode y_Re_combine.2.1 77 = .ok (.goto (-60), 3) := dc9_167 (by decide +kernel)
def h_Re_combine_17 (G : mG) (d : Nat) (a0 : Nat) (l1 : Int) (l2 : Int) (j3 : Int) (l5 : Int) (M : mM) (Q : mM → Prop) : Prop := mWm G y_Re_combine (d + 1) 17 [vr a0, vi l1, vi l2, vl j3, vd, vi l5, vd, vd] [] M (fun r9 M9 => r9 = none ∧ Q M9)
theorem k_Re_combine {G : mG} {d : Nat} {a0 : Nat} {l1 : Int} {l2 : Int} {M : mM} {Q : mM → Prop} (hO : mOk M) (hi_l1 : i32 l1) (hi_l2 : i32 l2)
    (h : mK M a0 = 12 ∧ mK M (mR M a0 6) = 10 ∧ Ci G y_Na_modulo d [vr (mR M a0 6), vi l2] M (fun x4 M3 => i32 x4 ∧ mOk M3 ∧ (Ci G y_Re_inverse d [vi x4, vi l2] M3 (fun x7 M6 => i32 x7 ∧ mOk M6 ∧ (h_Re_combine_17 G d a0 l1 l2 x7 0 M6 Q))))) :
    Cv G y_Re_combine (d + 1) [vr a0, vi l1, vi l2] M Q := by
  refine wm_open (y := y_Re_combine) rfl (Nat.le_of_ble_eq_true rfl) (L := [vr a0, vi l1, vi l2, vd, vd, vd, vd, vd]) rfl ?_
  obtain ⟨h1, h⟩ := h
  obtain ⟨h2, h⟩ := h
  refine wm_aload_n d_Re_combine_0 rfl rfl ?_
  refine gf_Re_34 rfl d_Re_combine_1 h1 ?_
  refine wm_iload_n d_Re_combine_4 rfl rfl ?_
  refine cf_Re_71 rfl d_Re_combine_5 h2 (Nat.le_of_ble_eq_true rfl) (Ci.mono h (fun x4 M3 h => ?_))
  obtain ⟨h5, hOM3, h⟩ := h
  refine wm_iload_n d_Re_combine_8 rfl rfl ?_
  refine cf_Re_63 rfl d_Re_combine_9 (Nat.le_of_ble_eq_true rfl) (Ci.mono h (fun x7 M6 h => ?_))
  obtain ⟨h8, hOM6, h⟩ := h
  refine wm_i2l d_Re_combine_12 h8 ?_
  refine wm_lstore_n d_Re_combine_13 rfl (by decide) (L' := [vr a0, vi l1, vi l2, vl x7, vd, vd, vd, vd]) rfl ?_
  refine wm_iconst d_Re_combine_14 ?_
  refine wm_istore d_Re_combine_15 (by decide) (L' := [vr a0, vi l1, vi l2, vl x7, vd, vi 0, vd, vd]) rfl ?_
  exact h
theorem k_Re_combine_17 {G : mG} {d : Nat} {a0 : Nat} {l1 : Int} {l2 : Int} {j3 : Int} {l5 : Int} {M : mM} {Q : mM → Prop} (hO : mOk M) (hi_l1 : i32 l1) (hi_l2 : i32 l2) (hi_j3 : i64 j3) (hi_l5 : i32 l5)
    (h : ((l1 < l5) → (mK M a0 = 12 ∧ mK M (mR M a0 6) = 10 ∧ Cv G y_Na_multiply d [vr (mR M a0 6), vi l2] M (fun M13 => mOk M13 ∧ (Q M13)))) ∧ (¬ (l1 < l5) → (mK M a0 = 12 ∧ mK M (mR M a0 5) = 30 ∧ ((0 : Int) ≤ l5 ∧ l5 < (mN M (mR M a0 5) : Int)) ∧ mK M (mR M a0 1) = 34 ∧ ((0 : Int) ≤ l5 ∧ l5 < (mN M (mR M a0 1) : Int)) ∧ mK M (mR M (mR M a0 1) (Int.toNat l5)) = 10 ∧ Ci G y_Na_modulo d [vr (mR M (mR M a0 1) (Int.toNat l5)), vi l2] M (fun x23 M22 => i32 x23 ∧ mOk M22 ∧ (mK M22 a0 = 12 ∧ mK M22 (mR M22 a0 1) = 34 ∧ ((0 : Int) ≤ l5 ∧ l5 < (mN M22 (mR M22 a0 1) : Int)) ∧ i64 (((mI M (mR M a0 5) (Int.toNat l5)) + l2) - x23) ∧ l2 ≠ 0 ∧ i64 ((Int.tmod (((mI M (mR M a0 5) (Int.toNat l5)) + l2) - x23) l2) * j3) ∧ l2 ≠ 0 ∧ mK M22 (mR M22 (mR M22 a0 1) (Int.toNat l5)) = 10 ∧ Cv G y_Na_add d [vr (mR M22 (mR M22 a0 1) (Int.toNat l5)), vr (mR M22 a0 6), vi (Int.tmod ((Int.tmod (((mI M (mR M a0 5) (Int.toNat l5)) + l2) - x23) l2) * j3) l2)] M22 (fun M33 => mOk M33 ∧ (h_Re_combine_17 G d a0 l1 l2 j3 (l5 + 1) M33 Q))))))) :
    h_Re_combine_17 G d a0 l1 l2 j3 l5 M Q := by
  unfold h_Re_combine_17
  refine wm_iload d_Re_combine_17 rfl ?_
  refine wm_iload_n d_Re_combine_19 rfl rfl ?_
  refine wm_icmp_gt (tgt := 80) d_Re_combine_20 rfl hi_l5 hi_l1 (fun c10 => ?_) (fun c10 => ?_)
  · replace h := h.1 c10
    obtain ⟨h11, h⟩ := h
    obtain ⟨h12, h⟩ := h
    refine wm_aload_n d_Re_combine_80 rfl rfl ?_
    refine gf_Re_34 rfl d_Re_combine_81 h11 ?_
    refine wm_iload_n d_Re_combine_84 rfl rfl ?_
    refine cf_Re_79 rfl d_Re_combine_85 h12 (Nat.le_of_ble_eq_true rfl) (Cv.mono h (fun M13 h => ?_))
    obtain ⟨hOM13, h⟩ := h
    refine wm_return d_Re_combine_88 rfl ?_
    exact ⟨rfl, h⟩
  · replace h := h.2 c10
    obtain ⟨h16, h⟩ := h
    obtain ⟨h17, h⟩ := h
    obtain ⟨h18, h⟩ := h
    obtain ⟨h19, h⟩ := h
    obtain ⟨h20, h⟩ := h
    obtain ⟨h21, h⟩ := h
    refine wm_aload_n d_Re_combine_23 rfl rfl ?_
    refine gf_Re_30 rfl d_Re_combine_24 h16 ?_
    refine wm_iload d_Re_combine_27 rfl ?_
    refine wm_iald d_Re_combine_29 h17 h18 ?_
    refine wm_i2l d_Re_combine_30 (hO _ _).1 ?_
    refine wm_iload_n d_Re_combine_31 rfl rfl ?_
    refine wm_i2l d_Re_combine_32 hi_l2 ?_
    refine wm_ladd d_Re_combine_33 ?_
    refine wm_aload_n d_Re_combine_34 rfl rfl ?_
    refine gf_Re_17 rfl d_Re_combine_35 h16 ?_
    refine wm_iload d_Re_combine_38 rfl ?_
    refine wm_aald4 d_Re_combine_40 h19 h20 ?_
    refine wm_iload_n d_Re_combine_41 rfl rfl ?_
    refine cf_Re_71 rfl d_Re_combine_42 h21 (Nat.le_of_ble_eq_true rfl) (Ci.mono h (fun x23 M22 h => ?_))
    obtain ⟨h24, hOM22, h⟩ := h
    obtain ⟨h25, h⟩ := h
    obtain ⟨h26, h⟩ := h
    obtain ⟨h27, h⟩ := h
    obtain ⟨h28, h⟩ := h
    obtain ⟨h29, h⟩ := h
    obtain ⟨h30, h⟩ := h
    obtain ⟨h31, h⟩ := h
    obtain ⟨h32, h⟩ := h
    refine wm_i2l d_Re_combine_45 h24 ?_
    refine wm_lsub d_Re_combine_46 ?_
    refine wm_lstore d_Re_combine_47 (by decide) (L' := [vr a0, vi l1, vi l2, vl j3, vd, vi l5, vl (((mI M (mR M a0 5) (Int.toNat l5)) + l2) - x23), vd]) rfl ?_
    refine wm_aload_n d_Re_combine_49 rfl rfl ?_
    refine gf_Re_17 rfl d_Re_combine_50 h25 ?_
    refine wm_iload d_Re_combine_53 rfl ?_
    refine wm_aald4 d_Re_combine_55 h26 h27 ?_
    refine wm_aload_n d_Re_combine_56 rfl rfl ?_
    refine gf_Re_34 rfl d_Re_combine_57 h25 ?_
    refine wm_lload d_Re_combine_60 rfl ?_
    refine wm_iload_n d_Re_combine_62 rfl rfl ?_
    refine wm_i2l d_Re_combine_63 hi_l2 ?_
    refine wm_lrem d_Re_combine_64 h28 (i64_of32 hi_l2) h29 ?_
    refine wm_lload_n d_Re_combine_65 rfl rfl ?_
    refine wm_lmul d_Re_combine_66 ?_
    refine wm_iload_n d_Re_combine_67 rfl rfl ?_
    refine wm_i2l d_Re_combine_68 hi_l2 ?_
    refine wm_lrem d_Re_combine_69 h30 (i64_of32 hi_l2) h31 ?_
    refine wm_l2i d_Re_combine_70 ?_
    refine cf_Re_75 rfl d_Re_combine_71 h32 (Nat.le_of_ble_eq_true rfl) (Cv.mono h (fun M33 h => ?_))
    obtain ⟨hOM33, h⟩ := h
    refine wm_iinc d_Re_combine_74 (by decide) rfl (L' := [vr a0, vi l1, vi l2, vl j3, vd, vi (l5 + 1), vl (((mI M (mR M a0 5) (Int.toNat l5)) + l2) - x23), vd]) rfl ?_
    refine wm_goto (tgt := 17) d_Re_combine_77 rfl ?_
    refine wm_less (L' := [vr a0, vi l1, vi l2, vl j3, vd, vi (l5 + 1), vd, vd]) ⟨Or.inr rfl, Or.inr rfl, Or.inr rfl, Or.inr rfl, Or.inl rfl, Or.inr rfl, Or.inl rfl, Or.inl rfl, trivial⟩ ?_
    exact h
theorem d_Re_inverse_0 : decode y_Re_inverse.2.1 0 = .ok (.iload_n 0, 1) := dc9_26 (by decide +kernel)
theorem d_Re_inverse_1 : decode y_Re_inverse.2.1 1 = .ok (.i2l, 1) := dc9_133 (by decide +kernel)
theorem d_Re_inverse_2 : decode y_Re_inverse.2.1 2 = .ok (.lstore_n 2, 1) := dc9_65 (by decide +kernel)
theorem d_Re_inverse_3 : decode y_Re_inverse.2.1 3 = .ok (.iload_n 1, 1) := dc9_27 (by decide +kernel)
theorem d_Re_inverse_4 : decode y_Re_inverse.2.1 4 = .ok (.i2l, 1) := dc9_133 (by decide +kernel)
theorem d_Re_inverse_5 : decode y_Re_inverse.2.1 5 = .ok (.lstore 4, 2) := dc9_55 (by decide +kernel)
theorem d_Re_inverse_7 : decode y_Re_inverse.2.1 7 = .ok (.lconst 1, 1) := dc9_10 (by decide +kernel)
theorem d_Re_inverse_8 : decode y_Re_inverse.2.1 8 = .ok (.lstore 6, 2) := dc9_55 (by decide +kernel)
theorem d_Re_inverse_10 : decode y_Re_inverse.2.1 10 = .ok (.lconst 0, 1) := dc9_9 (by decide +kernel)
theorem d_Re_inverse_11 : decode y_Re_inverse.2.1 11 = .ok (.lstore 8, 2) := dc9_55 (by decide +kernel)
theorem d_Re_inverse_13 : decode y_Re_inverse.2.1 13 = .ok (.iconst 0, 1) := dc9_3 (by decide +kernel)
theorem d_Re_inverse_14 : decode y_Re_inverse.2.1 14 = .ok (.istore 10, 2) := dc9_54 (by decide +kernel)
theorem d_Re_inverse_16 : decode y_Re_inverse.2.1 16 = .ok (.iload 10, 2) := dc9_21 (by decide +kernel)
theorem d_Re_inverse_18 : decode y_Re_inverse.2.1 18 = .ok (.bipush 100, 2) := dc9_16 (by decide +kernel)
theorem d_Re_inverse_20 : decode y_Re_inverse.2.1 20 = .ok (.if_icmp .ge 56, 3) := dc9_162 (by decide +kernel)
theorem d_Re_inverse_23 : decode y_Re_inverse.2.1 23 = .ok (.lload 4, 2) := dc9_22 (by decide +kernel)
theorem d_Re_inverse_25 : decode y_Re_inverse.2.1 25 = .ok (.lconst 0, 1) := dc9_9 (by decide +kernel)
theorem d_Re_inverse_26 : decode y_Re_inverse.2.1 26 = .ok (.lcmp, 1) := dc9_148 (by decide +kernel)
theorem d_Re_inverse_27 : decode y_Re_inverse.2.1 27 = .ok (.ifCond .eq 49, 3) := dc9_153 (by decide +kernel)
theorem d_Re_inverse_30 : decode y_Re_inverse.2.1 30 = .ok (.lload_n 2, 1) := dc9_32 (by decide +kernel)
theorem d_Re_inverse_31 : decode y_Re_inverse.2.1 31 = .ok (.lload 4, 2) := dc9_22 (by decide +kernel)
theorem d_Re_inverse_33 : decode y_Re_inverse.2.1 33 = .ok (.ldiv, 1) := dc9_109 (by decide +kernel)
theorem d_Re_inverse_34 : decode y_Re_inverse.2.1 34 = .ok (.lstore 11, 2) := dc9_55 (by decide +kernel)
theorem d_Re_inverse_36 : decode y_Re_inverse.2.1 36 = .ok (.lload_n 2, 1) := dc9_32 (by decide +kernel)
theorem d_Re_inverse_37 : decode y_Re_inverse.2.1 37 = .ok (.lload 11, 2) := dc9_22 (by decide +kernel)
theorem d_Re_inverse_39 : decode y_Re_inverse.2.1 39 = .ok (.lload 4, 2) := dc9_22 (by decide +kernel)
theorem d_Re_inverse_41 : decode y_Re_inverse.2.1 41 = .ok (.lmul, 1) := dc9_105 (by decide +kernel)
theorem d_Re_inverse_42 : decode y_Re_inverse.2.1 42 = .ok (.lsub, 1) := dc9_101 (by decide +kernel)
theorem d_Re_inverse_43 : decode y_Re_inverse.2.1 43 = .ok (.lstore 13, 2) := dc9_55 (by decide +kernel)
theorem d_Re_inverse_45 : decode y_Re_inverse.2.1 45 = .ok (.lload 6, 2) := dc9_22 (by decide +kernel)
theorem d_Re_inverse_47 : decode y_Re_inverse.2.1 47 = .ok (.lload 11, 2) := dc9_22 (by decide +kernel)
theorem d_Re_inverse_49 : decode y_Re_inverse.2.1 49 = .ok (.lload 8, 2) := dc9_22 (by decide +kernel)
theorem d_Re_inverse_51 : decode y_Re_inverse.2.1 51 = .ok (.lmul, 1) := dc9_105 (by decide +kernel)
theorem d_Re_inverse_52 : decode y_Re_inverse.2.1 52 = .ok (.lsub, 1) := dc9_101 (by decide +kernel)
theorem d_Re_inverse_53 : decode y_Re_inverse.2.1 53 = .ok (.lstore 15, 2) := dc9_55 (by decide +kernel)
theorem d_Re_inverse_55 : decode y_Re_inverse.2.1 55 = .ok (.lload 4, 2) := dc9_22 (by decide +kernel)
theorem d_Re_inverse_57 : decode y_Re_inverse.2.1 57 = .ok (.lstore_n 2, 1) := dc9_65 (by decide +kernel)
theorem d_Re_inverse_58 : decode y_Re_inverse.2.1 58 = .ok (.lload 13, 2) := dc9_22 (by decide +kernel)
theorem d_Re_inverse_60 : decode y_Re_inverse.2.1 60 = .ok (.lstore 4, 2) := dc9_55 (by decide +kernel)
theorem d_Re_inverse_62 : decode y_Re_inverse.2.1 62 = .ok (.lload 8, 2) := dc9_22 (by decide +kernel)
theorem d_Re_inverse_64 : decode y_Re_inverse.2.1 64 = .ok (.lstore 6, 2) := dc9_55 (by decide +kernel)
theorem d_Re_inverse_66 : decode y_Re_inverse.2.1 66 = .ok (.lload 15, 2) := dc9_22 (by decide +kernel)
theorem d_Re_inverse_68 : decode y_Re_inverse.2.1 68 = .ok (.lstore 8, 2) := dc9_55 (by decide +kernel)
theorem d_Re_inverse_70 : decode y_Re_inverse.2.1 70 = .ok (.iinc 10 1, 3) := by decide +kernel
theorem d_Re_inverse_73 : decode y_Re_inverse.2.1 73 = .ok (.goto (-57), 3) := dc9_167 (by decide +kernel)
theorem d_Re_inverse_76 : decode y_Re_inverse.2.1 76 = .ok (.lload 6, 2) := dc9_22 (by decide +kernel)
theorem d_Re_inverse_78 : decode y_Re_inverse.2.1 78 = .ok (.lconst 0, 1) := dc9_9 (by decide +kernel)
theorem d_Re_inverse_79 : decode y_Re_inverse.2.1 79 = .ok (.lcmp, 1) := dc9_148 (by decide +kernel)
theorem d_Re_inverse_80 : decode y_Re_inverse.2.1 80 = .ok (.ifCond .ge 11, 3) := dc9_156 (by decide +kernel)
theorem d_Re_inverse_91 : decode y_Re_inverse.2.1 91 = .ok (.lload 6, 2) := dc9_22 (by decide +kernel)
theorem d_Re_inverse_83 : decode y_Re_inverse.2.1 83 = .ok (.lload 6, 2) := dc9_22 (by decide +kernel)
theorem d_Re_inverse_85 : decode y_Re_inverse.2.1 85 = .ok (.iload_n 1, 1) := dc9_27 (by decide +kernel)
theorem d_Re_inverse_86 : decode y_Re_inverse.2.1 86 = .ok (.i2l, 1) := dc9_133 (by decide +kernel)
theorem d_Re_inverse_87 : decode y_Re_inverse.2.1 87 = .ok (.ladd, 1) := dc9_97 (by decide +kernel)
theorem d_Re_inverse_88 : decode y_Re_inverse.2.1 88 = .ok (.goto 5, 3) := dc9_167 (by decide +kernel)
theorem d_Re_inverse_93 : decode y_Re_inverse.2.1 93 = .ok (.l2i, 1) := dc9_136 (by decide +kernel)
theorem d_Re_inverse_94 : decode y_Re_inverse.2.1 94 = .ok (.ireturn, 1) := dc9_172 (by decide +kernel)
def h_Re_inverse_16 (G : mG) (d : Nat) (l1 : Int) (j2 : Int) (j4 : Int) (j6 : Int) (j8 : Int) (l10 : Int) (M : mM) (Q : Int → mM → Prop) : Prop := mWm G y_Re_inverse d 16 [vd, vi l1, vl j2, vd, vl j4, vd, vl j6, vd, vl j8, vd, vi l10, vd, vd, vd, vd, vd, vd] [] M (fun r9 M9 => ∃ x9, r9 = some (vi x9) ∧ Q x9 M9)
theorem k_Re_inverse {G : mG} {d : Nat} {l0 : Int} {l1 : Int} {M : mM} {Q : Int → mM → Prop} (hO : mOk M) (hi_l0 : i32 l0) (hi_l1 : i32 l1)
    (h : h_Re_inverse_16 G d l1 l0 l1 1 0 0 M Q) :
    Ci G y_Re_inverse d [vi l0, vi l1] M Q := by
  refine wm_open (y := y_Re_inverse) rfl (Nat.le_of_ble_eq_true rfl) (L := [vi l0, vi l1, vd, vd, vd, vd, vd, vd, vd, vd, vd, vd, vd, vd, vd, vd, vd]) rfl ?_
  refine wm_iload_n d_Re_inverse_0 rfl rfl ?_
  refine wm_i2l d_Re_inverse_1 hi_l0 ?_
  refine wm_lstore_n d_Re_inverse_2 rfl (by decide) (L' := [vi l0, vi l1, vl l0, vd, vd, vd, vd, vd, vd, vd, vd, vd, vd, vd, vd, vd, vd]) rfl ?_
  refine wm_iload_n d_Re_inverse_3 rfl rfl ?_
  refine wm_i2l d_Re_inverse_4 hi_l1 ?_
  refine wm_lstore d_Re_inverse_5 (by decide) (L' := [vi l0, vi l1, vl l0, vd, vl l1, vd, vd, vd, vd, vd, vd, vd, vd, vd, vd, vd, vd]) rfl ?_
  refine wm_lconst (x := 1) d_Re_inverse_7 rfl ?_
  refine wm_lstore d_Re_inverse_8 (by decide) (L' := [vi l0, vi l1, vl l0, vd, vl l1, vd, vl 1, vd, vd, vd, vd, vd, vd, vd, vd, vd, vd]) rfl ?_
  refine wm_lconst (x := 0) d_Re_inverse_10 rfl ?_
  refine wm_lstore d_Re_inverse_11 (by decide) (L' := [vi l0, vi l1, vl l0, vd, vl l1, vd, vl 1, vd, vl 0, vd, vd, vd, vd, vd, vd, vd, vd]) rfl ?_
  refine wm_iconst d_Re_inverse_13 ?_
  refine wm_istore d_Re_inverse_14 (by decide) (L' := [vi l0, vi l1, vl l0, vd, vl l1, vd, vl 1, vd, vl 0, vd, vi 0, vd, vd, vd, vd, vd, vd]) rfl ?_
  refine wm_less (L' := [vd, vi l1, vl l0, vd, vl l1, vd, vl 1, vd, vl 0, vd, vi 0, vd, vd, vd, vd, vd, vd]) ⟨Or.inl rfl, Or.inr rfl, Or.inr rfl, Or.inl rfl, Or.inr rfl, Or.inl rfl, Or.inr rfl, Or.inl rfl, Or.inr rfl, Or.inl rfl, Or.inr rfl, Or.inl rfl, Or.inl rfl, Or.inl rfl, Or.inl rfl, Or.inl rfl, Or.inl rfl, trivial⟩ ?_
  exact h
theorem k_Re_inverse_16 {G : mG} {d : Nat} {l1 : Int} {j2 : Int} {j4 : Int} {j6 : Int} {j8 : Int} {l10 : Int} {M : mM} {Q : Int → mM → Prop} (hO : mOk M) (hi_l1 : i32 l1) (hi_j2 : i64 j2) (hi_j4 : i64 j4) (hi_j6 : i64 j6) (hi_j8 : i64 j8) (hi_l10 : i32 l10)
    (h : (((100 ≤ l10) ∨ (cmpL j4 0 = 0)) → (∀ v7 : Int, v7 = (if (0 ≤ cmpL j6 0) then j6 else j6 + l1) → Q v7 M)) ∧ (¬ ((100 ≤ l10) ∨ (cmpL j4 0 = 0)) → (j4 ≠ 0 ∧ h_Re_inverse_16 G d l1 j4 (j2 - ((Int.tdiv j2 j4) * j4)) j8 (j6 - ((Int.tdiv j2 j4) * j8)) (l10 + 1) M Q))) :
    h_Re_inverse_16 G d l1 j2 j4 j6 j8 l10 M Q := by
  unfold h_Re_inverse_16
  refine wm_iload d_Re_inverse_16 rfl ?_
  refine wm_bipush d_Re_inverse_18 (by decide) ?_
  have hE0 : ((100 ≤ l10) ∨ (cmpL j4 0 = 0)) → mWm G y_Re_inverse d 76 [vd, vi l1, vl j2, vd, vl j4, vd, vl j6, vd, vl j8, vd, vi l10, vd, vd, vd, vd, vd, vd] [] M (fun r9 M9 => ∃ x9, r9 = some (vi x9) ∧ Q x9 M9) := by
    intro q5
    have h := h.1 q5
    refine wm_lload d_Re_inverse_76 rfl ?_
    refine wm_lconst (x := 0) d_Re_inverse_78 rfl ?_
    refine wm_lcmp d_Re_inverse_79 hi_j6 ⟨by decide, by decide⟩ ?_
    have hJ : ∀ v7 : Int, v7 = (if (0 ≤ cmpL j6 0) then j6 else j6 + l1) → mWm G y_Re_inverse d 93 [vd, vd, vd, vd, vd, vd, vd, vd, vd, vd, vd, vd, vd, vd, vd, vd, vd] [vl v7] M (fun r9 M9 => ∃ x9, r9 = some (vi x9) ∧ Q x9 M9) := by
      intro v7 e9
      have h := h v7 e9
      refine wm_l2i d_Re_inverse_93 ?_
      refine wm_ireturn d_Re_inverse_94 rfl rfl ?_
      exact ⟨_, rfl, h⟩
    clear h
    refine wm_if_ge (tgt := 91) d_Re_inverse_80 rfl (m_cmp32 _ _) (fun c6 => ?_) (fun c6 => ?_)
    · refine wm_lload d_Re_inverse_91 rfl ?_
      refine wm_less (L' := [vd, vd, vd, vd, vd, vd, vd, vd, vd, vd, vd, vd, vd, vd, vd, vd, vd]) ⟨Or.inl rfl, Or.inl rfl, Or.inl rfl, Or.inl rfl, Or.inl rfl, Or.inl rfl, Or.inl rfl, Or.inl rfl, Or.inl rfl, Or.inl rfl, Or.inl rfl, Or.inl rfl, Or.inl rfl, Or.inl rfl, Or.inl rfl, Or.inl rfl, Or.inl rfl, trivial⟩ ?_
      exact hJ j6 (if_pos c6).symm
    · refine wm_lload d_Re_inverse_83 rfl ?_
      refine wm_iload_n d_Re_inverse_85 rfl rfl ?_
      refine wm_i2l d_Re_inverse_86 hi_l1 ?_
      refine wm_ladd d_Re_inverse_87 ?_
      refine wm_goto (tgt := 93) d_Re_inverse_88 rfl ?_
      refine wm_less (L' := [vd, vd, vd, vd, vd, vd, vd, vd, vd, vd, vd, vd, vd, vd, vd, vd, vd]) ⟨Or.inl rfl, Or.inl rfl, Or.inl rfl, Or.inl rfl, Or.inl rfl, Or.inl rfl, Or.inl rfl, Or.inl rfl, Or.inl rfl, Or.inl rfl, Or.inl rfl, Or.inl rfl, Or.inl rfl, Or.inl rfl, Or.inl rfl, Or.inl rfl, Or.inl rfl, trivial⟩ ?_
      exact hJ (j6 + l1) (if_neg c6).symm
  have hE1 : ¬ ((100 ≤ l10) ∨ (cmpL j4 0 = 0)) → mWm G y_Re_inverse d 30 [vd, vi l1, vl j2, vd, vl j4, vd, vl j6, vd, vl j8, vd, vi l10, vd, vd, vd, vd, vd, vd] [] M (fun r9 M9 => ∃ x9, r9 = some (vi x9) ∧ Q x9 M9) := by
    intro q11
    have h := h.2 q11
    obtain ⟨h12, h⟩ := h
    refine wm_lload_n d_Re_inverse_30 rfl rfl ?_
    refine wm_lload d_Re_inverse_31 rfl ?_
    refine wm_ldiv d_Re_inverse_33 hi_j2 hi_j4 h12 ?_
    refine wm_lstore d_Re_inverse_34 (by decide) (L' := [vd, vi l1, vl j2, vd, vl j4, vd, vl j6, vd, vl j8, vd, vi l10, vl (Int.tdiv j2 j4), vd, vd, vd, vd, vd]) rfl ?_
    refine wm_lload_n d_Re_inverse_36 rfl rfl ?_
    refine wm_lload d_Re_inverse_37 rfl ?_
    refine wm_lload d_Re_inverse_39 rfl ?_
    refine wm_lmul d_Re_inverse_41 ?_
    refine wm_lsub d_Re_inverse_42 ?_
    refine wm_lstore d_Re_inverse_43 (by decide) (L' := [vd, vi l1, vl j2, vd, vl j4, vd, vl j6, vd, vl j8, vd, vi l10, vl (Int.tdiv j2 j4), vd, vl (j2 - ((Int.tdiv j2 j4) * j4)), vd, vd, vd]) rfl ?_
    refine wm_lload d_Re_inverse_45 rfl ?_
    refine wm_lload d_Re_inverse_47 rfl ?_
    refine wm_lload d_Re_inverse_49 rfl ?_
    refine wm_lmul d_Re_inverse_51 ?_
    refine wm_lsub d_Re_inverse_52 ?_
    refine wm_lstore d_Re_inverse_53 (by decide) (L' := [vd, vi l1, vl j2, vd, vl j4, vd, vl j6, vd, vl j8, vd, vi l10, vl (Int.tdiv j2 j4), vd, vl (j2 - ((Int.tdiv j2 j4) * j4)), vd, vl (j6 - ((Int.tdiv j2 j4) * j8)), vd]) rfl ?_
    refine wm_lload d_Re_inverse_55 rfl ?_
    refine wm_lstore_n d_Re_inverse_57 rfl (by decide) (L' := [vd, vi l1, vl j4, vd, vl j4, vd, vl j6, vd, vl j8, vd, vi l10, vl (Int.tdiv j2 j4), vd, vl (j2 - ((Int.tdiv j2 j4) * j4)), vd, vl (j6 - ((Int.tdiv j2 j4) * j8)), vd]) rfl ?_
    refine wm_lload d_Re_inverse_58 rfl ?_
    refine wm_lstore d_Re_inverse_60 (by decide) (L' := [vd, vi l1, vl j4, vd, vl (j2 - ((Int.tdiv j2 j4) * j4)), vd, vl j6, vd, vl j8, vd, vi l10, vl (Int.tdiv j2 j4), vd, vl (j2 - ((Int.tdiv j2 j4) * j4)), vd, vl (j6 - ((Int.tdiv j2 j4) * j8)), vd]) rfl ?_
    refine wm_lload d_Re_inverse_62 rfl ?_
    refine wm_lstore d_Re_inverse_64 (by decide) (L' := [vd, vi l1, vl j4, vd, vl (j2 - ((Int.tdiv j2 j4) * j4)), vd, vl j8, vd, vl j8, vd, vi l10, vl (Int.tdiv j2 j4), vd, vl (j2 - ((Int.tdiv j2 j4) * j4)), vd, vl (j6 - ((Int.tdiv j2 j4) * j8)), vd]) rfl ?_
    refine wm_lload d_Re_inverse_66 rfl ?_
    refine wm_lstore d_Re_inverse_68 (by decide) (L' := [vd, vi l1, vl j4, vd, vl (j2 - ((Int.tdiv j2 j4) * j4)), vd, vl j8, vd, vl (j6 - ((Int.tdiv j2 j4) * j8)), vd, vi l10, vl (Int.tdiv j2 j4), vd, vl (j2 - ((Int.tdiv j2 j4) * j4)), vd, vl (j6 - ((Int.tdiv j2 j4) * j8)), vd]) rfl ?_
    refine wm_iinc d_Re_inverse_70 (by decide) rfl (L' := [vd, vi l1, vl j4, vd, vl (j2 - ((Int.tdiv j2 j4) * j4)), vd, vl j8, vd, vl (j6 - ((Int.tdiv j2 j4) * j8)), vd, vi (l10 + 1), vl (Int.tdiv j2 j4), vd, vl (j2 - ((Int.tdiv j2 j4) * j4)), vd, vl (j6 - ((Int.tdiv j2 j4) * j8)), vd]) rfl ?_
    refine wm_goto (tgt := 16) d_Re_inverse_73 rfl ?_
    refine wm_less (L' := [vd, vi l1, vl j4, vd, vl (j2 - ((Int.tdiv j2 j4) * j4)), vd, vl j8, vd, vl (j6 - ((Int.tdiv j2 j4) * j8)), vd, vi (l10 + 1), vd, vd, vd, vd, vd, vd]) ⟨Or.inl rfl, Or.inr rfl, Or.inr rfl, Or.inl rfl, Or.inr rfl, Or.inl rfl, Or.inr rfl, Or.inl rfl, Or.inr rfl, Or.inl rfl, Or.inr rfl, Or.inl rfl, Or.inl rfl, Or.inl rfl, Or.inl rfl, Or.inl rfl, Or.inl rfl, trivial⟩ ?_
    exact h
  clear h
  refine wm_icmp_ge (tgt := 76) d_Re_inverse_20 rfl hi_l10 ⟨by decide, by decide⟩ (fun c3 => ?_) (fun c3 => ?_)
  · exact hE0 (Or.inl c3)
  · refine wm_lload d_Re_inverse_23 rfl ?_
    refine wm_lconst (x := 0) d_Re_inverse_25 rfl ?_
    refine wm_lcmp d_Re_inverse_26 hi_j4 ⟨by decide, by decide⟩ ?_
    refine wm_if_eq (tgt := 76) d_Re_inverse_27 rfl (m_cmp32 _ _) (fun c2 => ?_) (fun c2 => ?_)
    · exact hE0 (Or.inr c2)
    · exact hE1 (fun z13 => Or.elim z13 c3 c2)
theorem d_RR_init_0 : decode y_RR_init.2.1 0 = .ok (.aload_n 0, 1) := dc9_42 (by decide +kernel)
theorem d_RR_init_1 : decode y_RR_init.2.1 1 = .ok (.invokespecial 3, 3) := dc9_183 (by decide +kernel)
theorem d_RR_init_4 : decode y_RR_init.2.1 4 = .ok (.aload_n 0, 1) := dc9_42 (by decide +kernel)
theorem d_RR_init_5 : decode y_RR_init.2.1 5 = .ok (.sipush 336, 3) := dc9_17 (by decide +kernel)
theorem d_RR_init_8 : decode y_RR_init.2.1 8 = .ok (.newarray .int, 2) := by decide +kernel
theorem d_RR_init_10 : decode y_RR_init.2.1 10 = .ok (.putfield 11, 3) := dc9_181 (by decide +kernel)
theorem d_RR_init_13 : decode y_RR_init.2.1 13 = .ok (.aload_n 0, 1) := dc9_42 (by decide +kernel)
theorem d_RR_init_14 : decode y_RR_init.2.1 14 = .ok (.sipush 336, 3) := dc9_17 (by decide +kernel)
theorem d_RR_init_17 : decode y_RR_init.2.1 17 = .ok (.newarray .int, 2) := by decide +kernel
theorem d_RR_init_19 : decode y_RR_init.2.1 19 = .ok (.putfield 15, 3) := dc9_181 (by decide +kernel)
theorem d_RR_init_22 : decode y_RR_init.2.1 22 = .ok (.aload_n 0, 1) := dc9_42 (by decide +kernel)
theorem d_RR_init_23 : decode y_RR_init.2.1 23 = .ok (.sipush 336, 3) := dc9_17 (by decide +kernel)
theorem d_RR_init_26 : decode y_RR_init.2.1 26 = .ok (.newarray .int, 2) := by decide +kernel
theorem d_RR_init_28 : decode y_RR_init.2.1 28 = .ok (.putfield 18, 3) := dc9_181 (by decide +kernel)
theorem d_RR_init_31 : decode y_RR_init.2.1 31 = .ok (.aload_n 0, 1) := dc9_42 (by decide +kernel)
theorem d_RR_init_32 : decode y_RR_init.2.1 32 = .ok (.sipush 336, 3) := dc9_17 (by decide +kernel)
theorem d_RR_init_35 : decode y_RR_init.2.1 35 = .ok (.newarray .int, 2) := by decide +kernel
theorem d_RR_init_37 : decode y_RR_init.2.1 37 = .ok (.putfield 21, 3) := dc9_181 (by decide +kernel)
theorem d_RR_init_40 : decode y_RR_init.2.1 40 = .ok (.aload_n 0, 1) := dc9_42 (by decide +kernel)
theorem d_RR_init_41 : decode y_RR_init.2.1 41 = .ok (.sipush 336, 3) := dc9_17 (by decide +kernel)
theorem d_RR_init_44 : decode y_RR_init.2.1 44 = .ok (.newarray .boolean, 2) := by decide +kernel
theorem d_RR_init_46 : decode y_RR_init.2.1 46 = .ok (.putfield 24, 3) := dc9_181 (by decide +kernel)
theorem d_RR_init_49 : decode y_RR_init.2.1 49 = .ok (.aload_n 0, 1) := dc9_42 (by decide +kernel)
theorem d_RR_init_50 : decode y_RR_init.2.1 50 = .ok (.bipush 72, 2) := dc9_16 (by decide +kernel)
theorem d_RR_init_52 : decode y_RR_init.2.1 52 = .ok (.newarray .int, 2) := by decide +kernel
theorem d_RR_init_54 : decode y_RR_init.2.1 54 = .ok (.putfield 28, 3) := dc9_181 (by decide +kernel)
theorem d_RR_init_57 : decode y_RR_init.2.1 57 = .ok (.aload_n 0, 1) := dc9_42 (by decide +kernel)
theorem d_RR_init_58 : decode y_RR_init.2.1 58 = .ok (.bipush 72, 2) := dc9_16 (by decide +kernel)
theorem d_RR_init_60 : decode y_RR_init.2.1 60 = .ok (.newarray .int, 2) := by decide +kernel
theorem d_RR_init_62 : decode y_RR_init.2.1 62 = .ok (.putfield 31, 3) := dc9_181 (by decide +kernel)
theorem d_RR_init_65 : decode y_RR_init.2.1 65 = .ok (.aload_n 0, 1) := dc9_42 (by decide +kernel)
theorem d_RR_init_66 : decode y_RR_init.2.1 66 = .ok (.bipush 72, 2) := dc9_16 (by decide +kernel)
theorem d_RR_init_68 : decode y_RR_init.2.1 68 = .ok (.newarray .int, 2) := by decide +kernel
theorem d_RR_init_70 : decode y_RR_init.2.1 70 = .ok (.putfield 34, 3) := dc9_181 (by decide +kernel)
theorem d_RR_init_73 : decode y_RR_init.2.1 73 = .ok (.aload_n 0, 1) := dc9_42 (by decide +kernel)
theorem d_RR_init_74 : decode y_RR_init.2.1 74 = .ok (.bipush 72, 2) := dc9_16 (by decide +kernel)
theorem d_RR_init_76 : decode y_RR_init.2.1 76 = .ok (.newarray .boolean, 2) := by decide +kernel
theorem d_RR_init_78 : decode y_RR_init.2.1 78 = .ok (.putfield 37, 3) := dc9_181 (by decide +kernel)
theorem d_RR_init_81 : decode y_RR_init.2.1 81 = .ok (.return_, 1) := dc9_177 (by decide +kernel)
theorem k_RR_init {G : mG} {d : Nat} {a0 : Nat} {M : mM} {Q : mM → Prop} (hO : mOk M)
    (h : 0 < a0 ∧ ∀ M2, M2 = mNew M 30 336 336 → mK M2 a0 = 4 ∧ ∀ M5, M5 = mUR M2 a0 8 (mZ M) → ∀ M7, M7 = mNew M5 30 336 336 → mK M7 a0 = 4 ∧ ∀ M10, M10 = mUR M7 a0 9 (mZ M5) → ∀ M12, M12 = mNew M10 30 336 336 → mK M12 a0 = 4 ∧ ∀ M15, M15 = mUR M12 a0 10 (mZ M10) → ∀ M17, M17 = mNew M15 30 336 336 → mK M17 a0 = 4 ∧ ∀ M20, M20 = mUR M17 a0 11 (mZ M15) → ∀ M22, M22 = mNew M20 31 336 336 → mK M22 a0 = 4 ∧ ∀ M25, M25 = mUR M22 a0 13 (mZ M20) → ∀ M27, M27 = mNew M25 30 72 72 → mK M27 a0 = 4 ∧ ∀ M30, M30 = mUR M27 a0 15 (mZ M25) → ∀ M32, M32 = mNew M30 30 72 72 → mK M32 a0 = 4 ∧ ∀ M35, M35 = mUR M32 a0 16 (mZ M30) → ∀ M37, M37 = mNew M35 30 72 72 → mK M37 a0 = 4 ∧ ∀ M40, M40 = mUR M37 a0 17 (mZ M35) → ∀ M42, M42 = mNew M40 31 72 72 → mK M42 a0 = 4 ∧ ∀ M45, M45 = mUR M42 a0 18 (mZ M40) → Q M45) :
    Cv G y_RR_init (d + 1) [vr a0] M Q := by
  refine wm_open (y := y_RR_init) rfl (Nat.le_of_ble_eq_true rfl) (L := [vr a0]) rfl ?_
  obtain ⟨h1, h⟩ := h
  obtain ⟨M2, e3⟩ : ∃ M2, M2 = mNew M 30 336 336 := ⟨_, rfl⟩
  replace h := h M2 e3
  obtain ⟨h4, h⟩ := h
  obtain ⟨M5, e6⟩ : ∃ M5, M5 = mUR M2 a0 8 (mZ M) := ⟨_, rfl⟩
  replace h := h M5 e6
  obtain ⟨M7, e8⟩ : ∃ M7, M7 = mNew M5 30 336 336 := ⟨_, rfl⟩
  replace h := h M7 e8
  obtain ⟨h9, h⟩ := h
  obtain ⟨M10, e11⟩ : ∃ M10, M10 = mUR M7 a0 9 (mZ M5) := ⟨_, rfl⟩
  replace h := h M10 e11
  obtain ⟨M12, e13⟩ : ∃ M12, M12 = mNew M10 30 336 336 := ⟨_, rfl⟩
  replace h := h M12 e13
  obtain ⟨h14, h⟩ := h
  obtain ⟨M15, e16⟩ : ∃ M15, M15 = mUR M12 a0 10 (mZ M10) := ⟨_, rfl⟩
  replace h := h M15 e16
  obtain ⟨M17, e18⟩ : ∃ M17, M17 = mNew M15 30 336 336 := ⟨_, rfl⟩
  replace h := h M17 e18
  obtain ⟨h19, h⟩ := h
  obtain ⟨M20, e21⟩ : ∃ M20, M20 = mUR M17 a0 11 (mZ M15) := ⟨_, rfl⟩
  replace h := h M20 e21
  obtain ⟨M22, e23⟩ : ∃ M22, M22 = mNew M20 31 336 336 := ⟨_, rfl⟩
  replace h := h M22 e23
  obtain ⟨h24, h⟩ := h
  obtain ⟨M25, e26⟩ : ∃ M25, M25 = mUR M22 a0 13 (mZ M20) := ⟨_, rfl⟩
  replace h := h M25 e26
  obtain ⟨M27, e28⟩ : ∃ M27, M27 = mNew M25 30 72 72 := ⟨_, rfl⟩
  replace h := h M27 e28
  obtain ⟨h29, h⟩ := h
  obtain ⟨M30, e31⟩ : ∃ M30, M30 = mUR M27 a0 15 (mZ M25) := ⟨_, rfl⟩
  replace h := h M30 e31
  obtain ⟨M32, e33⟩ : ∃ M32, M32 = mNew M30 30 72 72 := ⟨_, rfl⟩
  replace h := h M32 e33
  obtain ⟨h34, h⟩ := h
  obtain ⟨M35, e36⟩ : ∃ M35, M35 = mUR M32 a0 16 (mZ M30) := ⟨_, rfl⟩
  replace h := h M35 e36
  obtain ⟨M37, e38⟩ : ∃ M37, M37 = mNew M35 30 72 72 := ⟨_, rfl⟩
  replace h := h M37 e38
  obtain ⟨h39, h⟩ := h
  obtain ⟨M40, e41⟩ : ∃ M40, M40 = mUR M37 a0 17 (mZ M35) := ⟨_, rfl⟩
  replace h := h M40 e41
  obtain ⟨M42, e43⟩ : ∃ M42, M42 = mNew M40 31 72 72 := ⟨_, rfl⟩
  replace h := h M42 e43
  obtain ⟨h44, h⟩ := h
  obtain ⟨M45, e46⟩ : ∃ M45, M45 = mUR M42 a0 18 (mZ M40) := ⟨_, rfl⟩
  replace h := h M45 e46
  refine wm_aload_n d_RR_init_0 rfl rfl ?_
  refine wm_objInit trivial k1_94 kO_inst kO_code (Nat.le_of_ble_eq_true rfl) d_RR_init_1 h1 ?_
  refine wm_aload_n d_RR_init_4 rfl rfl ?_
  refine wm_sipush d_RR_init_5 (by decide) ?_
  have hOM2 : mOk M2 := by rw [e3]; exact mOk_New hO
  refine wm_newarrE 0 (atype := .int) (ty := .int) rfl rfl (fun _ => rfl) rfl rfl (by decide) k1_82 ⟨by decide, by decide⟩ d_RR_init_8 e3 ?_
  have hOM5 : mOk M5 := by rw [e6]; exact mOk_UR hOM2
  refine pf_RR_11 rfl rfl d_RR_init_10 h4 e6 ?_
  refine wm_aload_n d_RR_init_13 rfl rfl ?_
  refine wm_sipush d_RR_init_14 (by decide) ?_
  have hOM7 : mOk M7 := by rw [e8]; exact mOk_New hOM5
  refine wm_newarrE 0 (atype := .int) (ty := .int) rfl rfl (fun _ => rfl) rfl rfl (by decide) k1_82 ⟨by decide, by decide⟩ d_RR_init_17 e8 ?_
  have hOM10 : mOk M10 := by rw [e11]; exact mOk_UR hOM7
  refine pf_RR_15 rfl rfl d_RR_init_19 h9 e11 ?_
  refine wm_aload_n d_RR_init_22 rfl rfl ?_
  refine wm_sipush d_RR_init_23 (by decide) ?_
  have hOM12 : mOk M12 := by rw [e13]; exact mOk_New hOM10
  refine wm_newarrE 0 (atype := .int) (ty := .int) rfl rfl (fun _ => rfl) rfl rfl (by decide) k1_82 ⟨by decide, by decide⟩ d_RR_init_26 e13 ?_
  have hOM15 : mOk M15 := by rw [e16]; exact mOk_UR hOM12
  refine pf_RR_18 rfl rfl d_RR_init_28 h14 e16 ?_
  refine wm_aload_n d_RR_init_31 rfl rfl ?_
  refine wm_sipush d_RR_init_32 (by decide) ?_
  have hOM17 : mOk M17 := by rw [e18]; exact mOk_New hOM15
  refine wm_newarrE 0 (atype := .int) (ty := .int) rfl rfl (fun _ => rfl) rfl rfl (by decide) k1_82 ⟨by decide, by decide⟩ d_RR_init_35 e18 ?_
  have hOM20 : mOk M20 := by rw [e21]; exact mOk_UR hOM17
  refine pf_RR_21 rfl rfl d_RR_init_37 h19 e21 ?_
  refine wm_aload_n d_RR_init_40 rfl rfl ?_
  refine wm_sipush d_RR_init_41 (by decide) ?_
  have hOM22 : mOk M22 := by rw [e23]; exact mOk_New hOM20
  refine wm_newarrE 1 (atype := .boolean) (ty := .boolean) rfl rfl (fun _ => rfl) rfl rfl (by decide) k1_162 ⟨by decide, by decide⟩ d_RR_init_44 e23 ?_
  have hOM25 : mOk M25 := by rw [e26]; exact mOk_UR hOM22
  refine pf_RR_24 rfl rfl d_RR_init_46 h24 e26 ?_
  refine wm_aload_n d_RR_init_49 rfl rfl ?_
  refine wm_bipush d_RR_init_50 (by decide) ?_
  have hOM27 : mOk M27 := by rw [e28]; exact mOk_New hOM25
  refine wm_newarrE 0 (atype := .int) (ty := .int) rfl rfl (fun _ => rfl) rfl rfl (by decide) k1_82 ⟨by decide, by decide⟩ d_RR_init_52 e28 ?_
  have hOM30 : mOk M30 := by rw [e31]; exact mOk_UR hOM27
  refine pf_RR_28 rfl rfl d_RR_init_54 h29 e31 ?_
  refine wm_aload_n d_RR_init_57 rfl rfl ?_
  refine wm_bipush d_RR_init_58 (by decide) ?_
  have hOM32 : mOk M32 := by rw [e33]; exact mOk_New hOM30
  refine wm_newarrE 0 (atype := .int) (ty := .int) rfl rfl (fun _ => rfl) rfl rfl (by decide) k1_82 ⟨by decide, by decide⟩ d_RR_init_60 e33 ?_
  have hOM35 : mOk M35 := by rw [e36]; exact mOk_UR hOM32
  refine pf_RR_31 rfl rfl d_RR_init_62 h34 e36 ?_
  refine wm_aload_n d_RR_init_65 rfl rfl ?_
  refine wm_bipush d_RR_init_66 (by decide) ?_
  have hOM37 : mOk M37 := by rw [e38]; exact mOk_New hOM35
  refine wm_newarrE 0 (atype := .int) (ty := .int) rfl rfl (fun _ => rfl) rfl rfl (by decide) k1_82 ⟨by decide, by decide⟩ d_RR_init_68 e38 ?_
  have hOM40 : mOk M40 := by rw [e41]; exact mOk_UR hOM37
  refine pf_RR_34 rfl rfl d_RR_init_70 h39 e41 ?_
  refine wm_aload_n d_RR_init_73 rfl rfl ?_
  refine wm_bipush d_RR_init_74 (by decide) ?_
  have hOM42 : mOk M42 := by rw [e43]; exact mOk_New hOM40
  refine wm_newarrE 1 (atype := .boolean) (ty := .boolean) rfl rfl (fun _ => rfl) rfl rfl (by decide) k1_162 ⟨by decide, by decide⟩ d_RR_init_76 e43 ?_
  have hOM45 : mOk M45 := by rw [e46]; exact mOk_UR hOM42
  refine pf_RR_37 rfl rfl d_RR_init_78 h44 e46 ?_
  refine wm_return d_RR_init_81 rfl ?_
  exact ⟨rfl, h⟩
theorem d_RR_begin_0 : decode y_RR_begin.2.1 0 = .ok (.aload_n 0, 1) := dc9_42 (by decide +kernel)
theorem d_RR_begin_1 : decode y_RR_begin.2.1 1 = .ok (.aload_n 1, 1) := dc9_43 (by decide +kernel)
theorem d_RR_begin_2 : decode y_RR_begin.2.1 2 = .ok (.putfield 40, 3) := dc9_181 (by decide +kernel)
theorem d_RR_begin_5 : decode y_RR_begin.2.1 5 = .ok (.aload_n 0, 1) := dc9_42 (by decide +kernel)
theorem d_RR_begin_6 : decode y_RR_begin.2.1 6 = .ok (.aload_n 2, 1) := dc9_44 (by decide +kernel)
theorem d_RR_begin_7 : decode y_RR_begin.2.1 7 = .ok (.putfield 44, 3) := dc9_181 (by decide +kernel)
theorem d_RR_begin_10 : decode y_RR_begin.2.1 10 = .ok (.aload_n 0, 1) := dc9_42 (by decide +kernel)
theorem d_RR_begin_11 : decode y_RR_begin.2.1 11 = .ok (.iconst 0, 1) := dc9_3 (by decide +kernel)
theorem d_RR_begin_12 : decode y_RR_begin.2.1 12 = .ok (.putfield 48, 3) := dc9_181 (by decide +kernel)
theorem d_RR_begin_15 : decode y_RR_begin.2.1 15 = .ok (.aload_n 0, 1) := dc9_42 (by decide +kernel)
theorem d_RR_begin_16 : decode y_RR_begin.2.1 16 = .ok (.iconst 0, 1) := dc9_3 (by decide +kernel)
theorem d_RR_begin_17 : decode y_RR_begin.2.1 17 = .ok (.putfield 52, 3) := dc9_181 (by decide +kernel)
theorem d_RR_begin_20 : decode y_RR_begin.2.1 20 = .ok (.aload_n 0, 1) := dc9_42 (by decide +kernel)
theorem d_RR_begin_21 : decode y_RR_begin.2.1 21 = .ok (.iconst (-1), 1) := dc9_2 (by decide +kernel)
theorem d_RR_begin_22 : decode y_RR_begin.2.1 22 = .ok (.putfield 55, 3) := dc9_181 (by decide +kernel)
theorem d_RR_begin_25 : decode y_RR_begin.2.1 25 = .ok (.aload_n 0, 1) := dc9_42 (by decide +kernel)
theorem d_RR_begin_26 : decode y_RR_begin.2.1 26 = .ok (.iconst 0, 1) := dc9_3 (by decide +kernel)
theorem d_RR_begin_27 : decode y_RR_begin.2.1 27 = .ok (.putfield 58, 3) := dc9_181 (by decide +kernel)
theorem d_RR_begin_30 : decode y_RR_begin.2.1 30 = .ok (.aload_n 0, 1) := dc9_42 (by decide +kernel)
theorem d_RR_begin_31 : decode y_RR_begin.2.1 31 = .ok (.iconst 0, 1) := dc9_3 (by decide +kernel)
theorem d_RR_begin_32 : decode y_RR_begin.2.1 32 = .ok (.putfield 61, 3) := dc9_181 (by decide +kernel)
theorem d_RR_begin_35 : decode y_RR_begin.2.1 35 = .ok (.return_, 1) := dc9_177 (by decide +kernel)
theorem k_RR_begin {G : mG} {d : Nat} {a0 : Nat} {a1 : Nat} {a2 : Nat} {M : mM} {Q : mM → Prop} (hO : mOk M)
    (h : mK M a0 = 4 ∧ ∀ M2, M2 = mUR M a0 0 a1 → ∀ M4, M4 = mUR M2 a0 1 a2 → ∀ M6, M6 = mUI M4 a0 2 0 → ∀ M8, M8 = mUI M6 a0 3 0 → ∀ M10, M10 = mUI M8 a0 4 (-1) → ∀ M12, M12 = mUI M10 a0 5 0 → ∀ M14, M14 = mUI M12 a0 19 0 → Q M14) :
    Cv G y_RR_begin d [vr a0, vr a1, vr a2] M Q := by
  refine wm_open (y := y_RR_begin) rfl (Nat.le_of_ble_eq_true rfl) (L := [vr a0, vr a1, vr a2]) rfl ?_
  obtain ⟨h1, h⟩ := h
  obtain ⟨M2, e3⟩ : ∃ M2, M2 = mUR M a0 0 a1 := ⟨_, rfl⟩
  replace h := h M2 e3
  obtain ⟨M4, e5⟩ : ∃ M4, M4 = mUR M2 a0 1 a2 := ⟨_, rfl⟩
  replace h := h M4 e5
  obtain ⟨M6, e7⟩ : ∃ M6, M6 = mUI M4 a0 2 0 := ⟨_, rfl⟩
  replace h := h M6 e7
  obtain ⟨M8, e9⟩ : ∃ M8, M8 = mUI M6 a0 3 0 := ⟨_, rfl⟩
  replace h := h M8 e9
  obtain ⟨M10, e11⟩ : ∃ M10, M10 = mUI M8 a0 4 (-1) := ⟨_, rfl⟩
  replace h := h M10 e11
  obtain ⟨M12, e13⟩ : ∃ M12, M12 = mUI M10 a0 5 0 := ⟨_, rfl⟩
  replace h := h M12 e13
  obtain ⟨M14, e15⟩ : ∃ M14, M14 = mUI M12 a0 19 0 := ⟨_, rfl⟩
  replace h := h M14 e15
  refine wm_aload_n d_RR_begin_0 rfl rfl ?_
  refine wm_aload_n d_RR_begin_1 rfl rfl ?_
  have hOM2 : mOk M2 := by rw [e3]; exact mOk_UR hO
  refine pf_RR_40 rfl d_RR_begin_2 h1 e3 ?_
  refine wm_aload_n d_RR_begin_5 rfl rfl ?_
  refine wm_aload_n d_RR_begin_6 rfl rfl ?_
  have hOM4 : mOk M4 := by rw [e5]; exact mOk_UR hOM2
  refine pf_RR_44 rfl d_RR_begin_7 (by rw [e3]; exact h1) e5 ?_
  refine wm_aload_n d_RR_begin_10 rfl rfl ?_
  refine wm_iconst d_RR_begin_11 ?_
  have hOM6 : mOk M6 := by rw [e7]; exact mOk_UI hOM4 ⟨by decide, by decide⟩
  refine pf_RR_48 rfl d_RR_begin_12 (by rw [e5, e3]; exact h1) ⟨by decide, by decide⟩ e7 ?_
  refine wm_aload_n d_RR_begin_15 rfl rfl ?_
  refine wm_iconst d_RR_begin_16 ?_
  have hOM8 : mOk M8 := by rw [e9]; exact mOk_UI hOM6 ⟨by decide, by decide⟩
  refine pf_RR_52 rfl d_RR_begin_17 (by rw [e7, e5, e3]; exact h1) ⟨by decide, by decide⟩ e9 ?_
  refine wm_aload_n d_RR_begin_20 rfl rfl ?_
  refine wm_iconst d_RR_begin_21 ?_
  have hOM10 : mOk M10 := by rw [e11]; exact mOk_UI hOM8 ⟨by decide, by decide⟩
  refine pf_RR_55 rfl d_RR_begin_22 (by rw [e9, e7, e5, e3]; exact h1) ⟨by decide, by decide⟩ e11 ?_
  refine wm_aload_n d_RR_begin_25 rfl rfl ?_
  refine wm_iconst d_RR_begin_26 ?_
  have hOM12 : mOk M12 := by rw [e13]; exact mOk_UI hOM10 ⟨by decide, by decide⟩
  refine pf_RR_58 rfl d_RR_begin_27 (by rw [e11, e9, e7, e5, e3]; exact h1) ⟨by decide, by decide⟩ e13 ?_
  refine wm_aload_n d_RR_begin_30 rfl rfl ?_
  refine wm_iconst d_RR_begin_31 ?_
  have hOM14 : mOk M14 := by rw [e15]; exact mOk_UI hOM12 ⟨by decide, by decide⟩
  refine pf_RR_61 rfl d_RR_begin_32 (by rw [e13, e11, e9, e7, e5, e3]; exact h1) ⟨by decide, by decide⟩ e15 ?_
  refine wm_return d_RR_begin_35 rfl ?_
  exact ⟨rfl, h⟩
theorem d_RR_here_0 : decode y_RR_here.2.1 0 = .ok (.aload_n 0, 1) := dc9_42 (by decide +kernel)
theorem d_RR_here_1 : decode y_RR_here.2.1 1 = .ok (.getfield 40, 3) := dc9_180 (by decide +kernel)
theorem d_RR_here_4 : decode y_RR_here.2.1 4 = .ok (.getfield 64, 3) := dc9_180 (by decide +kernel)
theorem d_RR_here_7 : decode y_RR_here.2.1 7 = .ok (.aload_n 0, 1) := dc9_42 (by decide +kernel)
theorem d_RR_here_8 : decode y_RR_here.2.1 8 = .ok (.getfield 48, 3) := dc9_180 (by decide +kernel)
theorem d_RR_here_11 : decode y_RR_here.2.1 11 = .ok (.iaload, 1) := dc9_46 (by decide +kernel)
theorem d_RR_here_12 : decode y_RR_here.2.1 12 = .ok (.ireturn, 1) := dc9_172 (by decide +kernel)
theorem k_RR_here {G : mG} {d : Nat} {a0 : Nat} {M : mM} {Q : Int → mM → Prop} (hO : mOk M)
    (h : mK M a0 = 4 ∧ mK M (mR M a0 0) = 2 ∧ mK M (mR M (mR M a0 0) 4) = 30 ∧ ((0 : Int) ≤ mI M a0 2 ∧ mI M a0 2 < (mN M (mR M (mR M a0 0) 4) : Int)) ∧ Q (mI M (mR M (mR M a0 0) 4) (Int.toNat (mI M a0 2))) M) :
    Ci G y_RR_here d [vr a0] M Q := by
  refine wm_open (y := y_RR_here) rfl (Nat.le_of_ble_eq_true rfl) (L := [vr a0]) rfl ?_
  obtain ⟨h1, h⟩ := h
  obtain ⟨h2, h⟩ := h
  obtain ⟨h3, h⟩ := h
  obtain ⟨h4, h⟩ := h
  refine wm_aload_n d_RR_here_0 rfl rfl ?_
  refine gf_RR_40 rfl d_RR_here_1 h1 ?_
  refine gf_RR_64 rfl d_RR_here_4 h2 ?_
  refine wm_aload_n d_RR_here_7 rfl rfl ?_
  refine gf_RR_48 rfl d_RR_here_8 h1 ?_
  refine wm_iald d_RR_here_11 h3 h4 ?_
  refine wm_ireturn d_RR_here_12 rfl rfl ?_
  exact ⟨_, rfl, h⟩
end
section
theorem d_RR_accept_0 : decode y_RR_accept.2.1 0 = .ok (.aload_n 0, 1) := dc9_42 (by decide +kernel)
theorem d_RR_accept_1 : decode y_RR_accept.2.1 1 = .ok (.getfield 40, 3) := dc9_180 (by decide +kernel)
theorem d_RR_accept_4 : decode y_RR_accept.2.1 4 = .ok (.getfield 69, 3) := dc9_180 (by decide +kernel)
theorem d_RR_accept_7 : decode y_RR_accept.2.1 7 = .ok (.aload_n 0, 1) := dc9_42 (by decide +kernel)
theorem d_RR_accept_8 : decode y_RR_accept.2.1 8 = .ok (.getfield 48, 3) := dc9_180 (by decide +kernel)
theorem d_RR_accept_11 : decode y_RR_accept.2.1 11 = .ok (.iaload, 1) := dc9_46 (by decide +kernel)
theorem d_RR_accept_12 : decode y_RR_accept.2.1 12 = .ok (.iload_n 1, 1) := dc9_27 (by decide +kernel)
theorem d_RR_accept_13 : decode y_RR_accept.2.1 13 = .ok (.if_icmp .eq 5, 3) := dc9_159 (by decide +kernel)
theorem d_RR_accept_18 : decode y_RR_accept.2.1 18 = .ok (.aload_n 0, 1) := dc9_42 (by decide +kernel)
theorem d_RR_accept_19 : decode y_RR_accept.2.1 19 = .ok (.dup, 1) := dc9_89 (by decide +kernel)
theorem d_RR_accept_20 : decode y_RR_accept.2.1 20 = .ok (.getfield 48, 3) := dc9_180 (by decide +kernel)
theorem d_RR_accept_23 : decode y_RR_accept.2.1 23 = .ok (.iconst 1, 1) := dc9_4 (by decide +kernel)
theorem d_RR_accept_24 : decode y_RR_accept.2.1 24 = .ok (.iadd, 1) := dc9_96 (by decide +kernel)
theorem d_RR_accept_25 : decode y_RR_accept.2.1 25 = .ok (.putfield 48, 3) := dc9_181 (by decide +kernel)
theorem d_RR_accept_28 : decode y_RR_accept.2.1 28 = .ok (.iconst 1, 1) := dc9_4 (by decide +kernel)
theorem d_RR_accept_29 : decode y_RR_accept.2.1 29 = .ok (.ireturn, 1) := dc9_172 (by decide +kernel)
theorem d_RR_accept_16 : decode y_RR_accept.2.1 16 = .ok (.iconst 0, 1) := dc9_3 (by decide +kernel)
theorem d_RR_accept_17 : decode y_RR_accept.2.1 17 = .ok (.ireturn, 1) := dc9_172 (by decide +kernel)
theorem k_RR_accept {G : mG} {d : Nat} {a0 : Nat} {l1 : Int} {M : mM} {Q : Int → mM → Prop} (hO : mOk M) (hi_l1 : i32 l1)
    (h : mK M a0 = 4 ∧ mK M (mR M a0 0) = 2 ∧ mK M (mR M (mR M a0 0) 3) = 30 ∧ ((0 : Int) ≤ mI M a0 2 ∧ mI M a0 2 < (mN M (mR M (mR M a0 0) 3) : Int)) ∧ ((mI M (mR M (mR M a0 0) 3) (Int.toNat (mI M a0 2)) = l1) → (i32 ((mI M a0 2) + 1) ∧ ∀ M9, M9 = mUI M a0 2 ((mI M a0 2) + 1) → Q 1 M9)) ∧ (¬ (mI M (mR M (mR M a0 0) 3) (Int.toNat (mI M a0 2)) = l1) → (Q 0 M))) :
    Ci G y_RR_accept d [vr a0, vi l1] M Q := by
  refine wm_open (y := y_RR_accept) rfl (Nat.le_of_ble_eq_true rfl) (L := [vr a0, vi l1]) rfl ?_
  obtain ⟨h1, h⟩ := h
  obtain ⟨h2, h⟩ := h
  obtain ⟨h3, h⟩ := h
  obtain ⟨h4, h⟩ := h
  refine wm_aload_n d_RR_accept_0 rfl rfl ?_
  refine gf_RR_40 rfl d_RR_accept_1 h1 ?_
  refine gf_RR_69 rfl d_RR_accept_4 h2 ?_
  refine wm_aload_n d_RR_accept_7 rfl rfl ?_
  refine gf_RR_48 rfl d_RR_accept_8 h1 ?_
  refine wm_iald d_RR_accept_11 h3 h4 ?_
  refine wm_iload_n d_RR_accept_12 rfl rfl ?_
  refine wm_icmp_eq (tgt := 18) d_RR_accept_13 rfl (hO _ _).1 hi_l1 (fun c7 => ?_) (fun c7 => ?_)
  · replace h := h.1 c7
    obtain ⟨h8, h⟩ := h
    obtain ⟨M9, e10⟩ : ∃ M9, M9 = mUI M a0 2 ((mI M a0 2) + 1) := ⟨_, rfl⟩
    replace h := h M9 e10
    refine wm_aload_n d_RR_accept_18 rfl rfl ?_
    refine wm_dup d_RR_accept_19 rfl ?_
    refine gf_RR_48 rfl d_RR_accept_20 h1 ?_
    refine wm_iconst d_RR_accept_23 ?_
    refine wm_iadd d_RR_accept_24 ?_
    have hOM9 : mOk M9 := by rw [e10]; exact mOk_UI hO h8
    refine pf_RR_48 rfl d_RR_accept_25 h1 h8 e10 ?_
    refine wm_iconst d_RR_accept_28 ?_
    refine wm_ireturn d_RR_accept_29 rfl (m_nb (by decide)) ?_
    exact ⟨_, rfl, h⟩
  · replace h := h.2 c7
    refine wm_iconst d_RR_accept_16 ?_
    refine wm_ireturn d_RR_accept_17 rfl (m_nb (by decide)) ?_
    exact ⟨_, rfl, h⟩
theorem d_RR_note_0 : decode y_RR_note.2.1 0 = .ok (.aload_n 0, 1) := dc9_42 (by decide +kernel)
theorem d_RR_note_1 : decode y_RR_note.2.1 1 = .ok (.getfield 52, 3) := dc9_180 (by decide +kernel)
theorem d_RR_note_4 : decode y_RR_note.2.1 4 = .ok (.ifCond .ne 13, 3) := dc9_154 (by decide +kernel)
theorem d_RR_note_7 : decode y_RR_note.2.1 7 = .ok (.aload_n 0, 1) := dc9_42 (by decide +kernel)
theorem d_RR_note_8 : decode y_RR_note.2.1 8 = .ok (.iload_n 1, 1) := dc9_27 (by decide +kernel)
theorem d_RR_note_9 : decode y_RR_note.2.1 9 = .ok (.putfield 52, 3) := dc9_181 (by decide +kernel)
theorem d_RR_note_12 : decode y_RR_note.2.1 12 = .ok (.aload_n 0, 1) := dc9_42 (by decide +kernel)
theorem d_RR_note_13 : decode y_RR_note.2.1 13 = .ok (.iload_n 2, 1) := dc9_28 (by decide +kernel)
theorem d_RR_note_14 : decode y_RR_note.2.1 14 = .ok (.putfield 55, 3) := dc9_181 (by decide +kernel)
theorem d_RR_note_17 : decode y_RR_note.2.1 17 = .ok (.return_, 1) := dc9_177 (by decide +kernel)
theorem k_RR_note {G : mG} {d : Nat} {a0 : Nat} {l1 : Int} {l2 : Int} {M : mM} {Q : mM → Prop} (hO : mOk M) (hi_l1 : i32 l1) (hi_l2 : i32 l2)
    (h : mK M a0 = 4 ∧ ((mI M a0 3 = 0) → (∀ M5, M5 = mUI M a0 3 l1 → ∀ M7, M7 = mUI M5 a0 4 l2 → Q M7)) ∧ (¬ (mI M a0 3 = 0) → (Q M))) :
    Cv G y_RR_note d [vr a0, vi l1, vi l2] M Q := by
  refine wm_open (y := y_RR_note) rfl (Nat.le_of_ble_eq_true rfl) (L := [vr a0, vi l1, vi l2]) rfl ?_
  obtain ⟨h1, h⟩ := h
  refine wm_aload_n d_RR_note_0 rfl rfl ?_
  refine gf_RR_52 rfl d_RR_note_1 h1 ?_
  refine wm_if_ne (tgt := 17) d_RR_note_4 rfl (hO _ _).1 (fun c4 => ?_) (fun c4 => ?_)
  · replace h := h.2 c4
    refine wm_return d_RR_note_17 rfl ?_
    exact ⟨rfl, h⟩
  · replace c4 := Classical.not_not.mp c4
    replace h := h.1 c4
    obtain ⟨M5, e6⟩ : ∃ M5, M5 = mUI M a0 3 l1 := ⟨_, rfl⟩
    replace h := h M5 e6
    obtain ⟨M7, e8⟩ : ∃ M7, M7 = mUI M5 a0 4 l2 := ⟨_, rfl⟩
    replace h := h M7 e8
    refine wm_aload_n d_RR_note_7 rfl rfl ?_
    refine wm_iload_n d_RR_note_8 rfl rfl ?_
    have hOM5 : mOk M5 := by rw [e6]; exact mOk_UI hO hi_l1
    refine pf_RR_52 rfl d_RR_note_9 h1 hi_l1 e6 ?_
    refine wm_aload_n d_RR_note_12 rfl rfl ?_
    refine wm_iload_n d_RR_note_13 rfl rfl ?_
    have hOM7 : mOk M7 := by rw [e8]; exact mOk_UI hOM5 hi_l2
    refine pf_RR_55 rfl d_RR_note_14 (by rw [e6]; exact h1) hi_l2 e8 ?_
    refine wm_return d_RR_note_17 rfl ?_
    exact ⟨rfl, h⟩
theorem d_RR_know_0 : decode y_RR_know.2.1 0 = .ok (.aload_n 0, 1) := dc9_42 (by decide +kernel)
theorem d_RR_know_1 : decode y_RR_know.2.1 1 = .ok (.getfield 61, 3) := dc9_180 (by decide +kernel)
theorem d_RR_know_4 : decode y_RR_know.2.1 4 = .ok (.aload_n 0, 1) := dc9_42 (by decide +kernel)
theorem d_RR_know_5 : decode y_RR_know.2.1 5 = .ok (.getfield 28, 3) := dc9_180 (by decide +kernel)
theorem d_RR_know_8 : decode y_RR_know.2.1 8 = .ok (.arraylength, 1) := dc9_190 (by decide +kernel)
theorem d_RR_know_9 : decode y_RR_know.2.1 9 = .ok (.if_icmp .ge 54, 3) := dc9_162 (by decide +kernel)
theorem d_RR_know_12 : decode y_RR_know.2.1 12 = .ok (.aload_n 0, 1) := dc9_42 (by decide +kernel)
theorem d_RR_know_13 : decode y_RR_know.2.1 13 = .ok (.getfield 28, 3) := dc9_180 (by decide +kernel)
theorem d_RR_know_16 : decode y_RR_know.2.1 16 = .ok (.aload_n 0, 1) := dc9_42 (by decide +kernel)
theorem d_RR_know_17 : decode y_RR_know.2.1 17 = .ok (.getfield 61, 3) := dc9_180 (by decide +kernel)
theorem d_RR_know_20 : decode y_RR_know.2.1 20 = .ok (.iload_n 1, 1) := dc9_27 (by decide +kernel)
theorem d_RR_know_21 : decode y_RR_know.2.1 21 = .ok (.iastore, 1) := dc9_79 (by decide +kernel)
theorem d_RR_know_22 : decode y_RR_know.2.1 22 = .ok (.aload_n 0, 1) := dc9_42 (by decide +kernel)
theorem d_RR_know_23 : decode y_RR_know.2.1 23 = .ok (.getfield 31, 3) := dc9_180 (by decide +kernel)
theorem d_RR_know_26 : decode y_RR_know.2.1 26 = .ok (.aload_n 0, 1) := dc9_42 (by decide +kernel)
theorem d_RR_know_27 : decode y_RR_know.2.1 27 = .ok (.getfield 61, 3) := dc9_180 (by decide +kernel)
theorem d_RR_know_30 : decode y_RR_know.2.1 30 = .ok (.iload_n 2, 1) := dc9_28 (by decide +kernel)
theorem d_RR_know_31 : decode y_RR_know.2.1 31 = .ok (.iastore, 1) := dc9_79 (by decide +kernel)
theorem d_RR_know_63 : decode y_RR_know.2.1 63 = .ok (.return_, 1) := dc9_177 (by decide +kernel)
theorem d_RR_know_32 : decode y_RR_know.2.1 32 = .ok (.aload_n 0, 1) := dc9_42 (by decide +kernel)
theorem d_RR_know_33 : decode y_RR_know.2.1 33 = .ok (.getfield 34, 3) := dc9_180 (by decide +kernel)
theorem d_RR_know_36 : decode y_RR_know.2.1 36 = .ok (.aload_n 0, 1) := dc9_42 (by decide +kernel)
theorem d_RR_know_37 : decode y_RR_know.2.1 37 = .ok (.getfield 61, 3) := dc9_180 (by decide +kernel)
theorem d_RR_know_40 : decode y_RR_know.2.1 40 = .ok (.iload_n 3, 1) := dc9_29 (by decide +kernel)
theorem d_RR_know_41 : decode y_RR_know.2.1 41 = .ok (.iastore, 1) := dc9_79 (by decide +kernel)
theorem d_RR_know_42 : decode y_RR_know.2.1 42 = .ok (.aload_n 0, 1) := dc9_42 (by decide +kernel)
theorem d_RR_know_43 : decode y_RR_know.2.1 43 = .ok (.getfield 37, 3) := dc9_180 (by decide +kernel)
theorem d_RR_know_46 : decode y_RR_know.2.1 46 = .ok (.aload_n 0, 1) := dc9_42 (by decide +kernel)
theorem d_RR_know_47 : decode y_RR_know.2.1 47 = .ok (.getfield 61, 3) := dc9_180 (by decide +kernel)
theorem d_RR_know_50 : decode y_RR_know.2.1 50 = .ok (.iload 4, 2) := dc9_21 (by decide +kernel)
theorem d_RR_know_52 : decode y_RR_know.2.1 52 = .ok (.bastore, 1) := dc9_84 (by decide +kernel)
theorem d_RR_know_53 : decode y_RR_know.2.1 53 = .ok (.aload_n 0, 1) := dc9_42 (by decide +kernel)
theorem d_RR_know_54 : decode y_RR_know.2.1 54 = .ok (.dup, 1) := dc9_89 (by decide +kernel)
theorem d_RR_know_55 : decode y_RR_know.2.1 55 = .ok (.getfield 61, 3) := dc9_180 (by decide +kernel)
theorem d_RR_know_58 : decode y_RR_know.2.1 58 = .ok (.iconst 1, 1) := dc9_4 (by decide +kernel)
theorem d_RR_know_59 : decode y_RR_know.2.1 59 = .ok (.iadd, 1) := dc9_96 (by decide +kernel)
theorem d_RR_know_60 : decode y_RR_know.2.1 60 = .ok (.putfield 61, 3) := dc9_181 (by decide +kernel)
theorem k_RR_know {G : mG} {d : Nat} {a0 : Nat} {l1 : Int} {l2 : Int} {l3 : Int} {l4 : Int} {M : mM} {Q : mM → Prop} (hO : mOk M) (hi_l1 : i32 l1) (hi_l2 : i32 l2) (hi_l3 : i32 l3) (hi_l4 : i32 l4)
    (h : mK M a0 = 4 ∧ mK M (mR M a0 15) = 30 ∧ i32 (mN M (mR M a0 15) : Int) ∧ (((mN M (mR M a0 15) : Int) ≤ mI M a0 19) → (Q M)) ∧ (¬ ((mN M (mR M a0 15) : Int) ≤ mI M a0 19) → (((0 : Int) ≤ mI M a0 19 ∧ mI M a0 19 < (mN M (mR M a0 15) : Int)) ∧ ∀ M13, M13 = mUI M (mR M a0 15) (Int.toNat (mI M a0 19)) l1 → mK M13 (mR M13 a0 16) = 30 ∧ ((0 : Int) ≤ mI M13 a0 19 ∧ mI M13 a0 19 < (mN M13 (mR M13 a0 16) : Int)) ∧ ∀ M17, M17 = mUI M13 (mR M13 a0 16) (Int.toNat (mI M13 a0 19)) l2 → mK M17 (mR M17 a0 17) = 30 ∧ ((0 : Int) ≤ mI M17 a0 19 ∧ mI M17 a0 19 < (mN M17 (mR M17 a0 17) : Int)) ∧ ∀ M21, M21 = mUI M17 (mR M17 a0 17) (Int.toNat (mI M17 a0 19)) l3 → mK M21 (mR M21 a0 18) = 31 ∧ ((0 : Int) ≤ mI M21 a0 19 ∧ mI M21 a0 19 < (mN M21 (mR M21 a0 18) : Int)) ∧ (l4 = 0 ∨ l4 = 1) ∧ ∀ M26, M26 = mUI M21 (mR M21 a0 18) (Int.toNat (mI M21 a0 19)) l4 → i32 ((mI M26 a0 19) + 1) ∧ ∀ M29, M29 = mUI M26 a0 19 ((mI M26 a0 19) + 1) → Q M29))) :
    Cv G y_RR_know d [vr a0, vi l1, vi l2, vi l3, vi l4] M Q := by
  refine wm_open (y := y_RR_know) rfl (Nat.le_of_ble_eq_true rfl) (L := [vr a0, vi l1, vi l2, vi l3, vi l4]) rfl ?_
  obtain ⟨h1, h⟩ := h
  obtain ⟨h2, h⟩ := h
  obtain ⟨h10, h⟩ := h
  refine wm_aload_n d_RR_know_0 rfl rfl ?_
  refine gf_RR_61 rfl d_RR_know_1 h1 ?_
  refine wm_aload_n d_RR_know_4 rfl rfl ?_
  refine gf_RR_28 rfl d_RR_know_5 h1 ?_
  refine wm_alen 0 rfl (fun _ => rfl) d_RR_know_8 h2 ?_
  refine wm_icmp_ge (tgt := 63) d_RR_know_9 rfl (hO _ _).1 h10 (fun c11 => ?_) (fun c11 => ?_)
  · replace h := h.1 c11
    refine wm_return d_RR_know_63 rfl ?_
    exact ⟨rfl, h⟩
  · replace h := h.2 c11
    obtain ⟨h12, h⟩ := h
    obtain ⟨M13, e14⟩ : ∃ M13, M13 = mUI M (mR M a0 15) (Int.toNat (mI M a0 19)) l1 := ⟨_, rfl⟩
    replace h := h M13 e14
    obtain ⟨h15, h⟩ := h
    obtain ⟨h16, h⟩ := h
    obtain ⟨M17, e18⟩ : ∃ M17, M17 = mUI M13 (mR M13 a0 16) (Int.toNat (mI M13 a0 19)) l2 := ⟨_, rfl⟩
    replace h := h M17 e18
    obtain ⟨h19, h⟩ := h
    obtain ⟨h20, h⟩ := h
    obtain ⟨M21, e22⟩ : ∃ M21, M21 = mUI M17 (mR M17 a0 17) (Int.toNat (mI M17 a0 19)) l3 := ⟨_, rfl⟩
    replace h := h M21 e22
    obtain ⟨h23, h⟩ := h
    obtain ⟨h24, h⟩ := h
    obtain ⟨h25, h⟩ := h
    obtain ⟨M26, e27⟩ : ∃ M26, M26 = mUI M21 (mR M21 a0 18) (Int.toNat (mI M21 a0 19)) l4 := ⟨_, rfl⟩
    replace h := h M26 e27
    obtain ⟨h28, h⟩ := h
    obtain ⟨M29, e30⟩ : ∃ M29, M29 = mUI M26 a0 19 ((mI M26 a0 19) + 1) := ⟨_, rfl⟩
    replace h := h M29 e30
    refine wm_aload_n d_RR_know_12 rfl rfl ?_
    refine gf_RR_28 rfl d_RR_know_13 h1 ?_
    refine wm_aload_n d_RR_know_16 rfl rfl ?_
    refine gf_RR_61 rfl d_RR_know_17 h1 ?_
    refine wm_iload_n d_RR_know_20 rfl rfl ?_
    have hOM13 : mOk M13 := by rw [e14]; exact mOk_UI hO hi_l1
    refine wm_iastE d_RR_know_21 h2 h12 hi_l1 e14 ?_
    refine wm_aload_n d_RR_know_22 rfl rfl ?_
    refine gf_RR_31 rfl d_RR_know_23 (by rw [e14]; exact h1) ?_
    refine wm_aload_n d_RR_know_26 rfl rfl ?_
    refine gf_RR_61 rfl d_RR_know_27 (by rw [e14]; exact h1) ?_
    refine wm_iload_n d_RR_know_30 rfl rfl ?_
    have hOM17 : mOk M17 := by rw [e18]; exact mOk_UI hOM13 hi_l2
    refine wm_iastE d_RR_know_31 h15 h16 hi_l2 e18 ?_
    refine wm_aload_n d_RR_know_32 rfl rfl ?_
    refine gf_RR_34 rfl d_RR_know_33 (by rw [e18, e14]; exact h1) ?_
    refine wm_aload_n d_RR_know_36 rfl rfl ?_
    refine gf_RR_61 rfl d_RR_know_37 (by rw [e18, e14]; exact h1) ?_
    refine wm_iload_n d_RR_know_40 rfl rfl ?_
    have hOM21 : mOk M21 := by rw [e22]; exact mOk_UI hOM17 hi_l3
    refine wm_iastE d_RR_know_41 h19 h20 hi_l3 e22 ?_
    refine wm_aload_n d_RR_know_42 rfl rfl ?_
    refine gf_RR_37 rfl d_RR_know_43 (by rw [e22, e18, e14]; exact h1) ?_
    refine wm_aload_n d_RR_know_46 rfl rfl ?_
    refine gf_RR_61 rfl d_RR_know_47 (by rw [e22, e18, e14]; exact h1) ?_
    refine wm_iload d_RR_know_50 rfl ?_
    have hOM26 : mOk M26 := by rw [e27]; exact mOk_UI hOM21 (m_b32 h25)
    refine wm_zastE d_RR_know_52 h23 h24 h25 e27 ?_
    refine wm_aload_n d_RR_know_53 rfl rfl ?_
    refine wm_dup d_RR_know_54 rfl ?_
    refine gf_RR_61 rfl d_RR_know_55 (by rw [e27, e22, e18, e14]; exact h1) ?_
    refine wm_iconst d_RR_know_58 ?_
    refine wm_iadd d_RR_know_59 ?_
    have hOM29 : mOk M29 := by rw [e30]; exact mOk_UI hOM26 h28
    refine pf_RR_61 rfl d_RR_know_60 (by rw [e27, e22, e18, e14]; exact h1) h28 e30 ?_
    refine wm_return d_RR_know_63 rfl ?_
    exact ⟨rfl, h⟩
theorem d_RR_find_0 : decode y_RR_find.2.1 0 = .ok (.aload_n 0, 1) := dc9_42 (by decide +kernel)
theorem d_RR_find_1 : decode y_RR_find.2.1 1 = .ok (.getfield 40, 3) := dc9_180 (by decide +kernel)
theorem d_RR_find_4 : decode y_RR_find.2.1 4 = .ok (.getfield 72, 3) := dc9_180 (by decide +kernel)
theorem d_RR_find_7 : decode y_RR_find.2.1 7 = .ok (.iload_n 1, 1) := dc9_27 (by decide +kernel)
theorem d_RR_find_8 : decode y_RR_find.2.1 8 = .ok (.iaload, 1) := dc9_46 (by decide +kernel)
theorem d_RR_find_9 : decode y_RR_find.2.1 9 = .ok (.istore_n 2, 1) := dc9_61 (by decide +kernel)
theorem d_RR_find_10 : decode y_RR_find.2.1 10 = .ok (.iconst 0, 1) := dc9_3 (by decide +kernel)
theorem d_RR_find_11 : decode y_RR_find.2.1 11 = .ok (.istore_n 3, 1) := dc9_62 (by decide +kernel)
theorem d_RR_find_12 : decode y_RR_find.2.1 12 = .ok (.iload_n 3, 1) := dc9_29 (by decide +kernel)
theorem d_RR_find_13 : decode y_RR_find.2.1 13 = .ok (.aload_n 0, 1) := dc9_42 (by decide +kernel)
theorem d_RR_find_14 : decode y_RR_find.2.1 14 = .ok (.getfield 61, 3) := dc9_180 (by decide +kernel)
theorem d_RR_find_17 : decode y_RR_find.2.1 17 = .ok (.if_icmp .ge 63, 3) := dc9_162 (by decide +kernel)
theorem d_RR_find_80 : decode y_RR_find.2.1 80 = .ok (.iconst (-1), 1) := dc9_2 (by decide +kernel)
theorem d_RR_find_81 : decode y_RR_find.2.1 81 = .ok (.ireturn, 1) := dc9_172 (by decide +kernel)
theorem d_RR_find_20 : decode y_RR_find.2.1 20 = .ok (.aload_n 0, 1) := dc9_42 (by decide +kernel)
theorem d_RR_find_21 : decode y_RR_find.2.1 21 = .ok (.getfield 28, 3) := dc9_180 (by decide +kernel)
theorem d_RR_find_24 : decode y_RR_find.2.1 24 = .ok (.iload_n 3, 1) := dc9_29 (by decide +kernel)
theorem d_RR_find_25 : decode y_RR_find.2.1 25 = .ok (.iaload, 1) := dc9_46 (by decide +kernel)
theorem d_RR_find_26 : decode y_RR_find.2.1 26 = .ok (.istore 4, 2) := dc9_54 (by decide +kernel)
theorem d_RR_find_28 : decode y_RR_find.2.1 28 = .ok (.aload_n 0, 1) := dc9_42 (by decide +kernel)
theorem d_RR_find_29 : decode y_RR_find.2.1 29 = .ok (.getfield 40, 3) := dc9_180 (by decide +kernel)
theorem d_RR_find_32 : decode y_RR_find.2.1 32 = .ok (.getfield 72, 3) := dc9_180 (by decide +kernel)
theorem d_RR_find_35 : decode y_RR_find.2.1 35 = .ok (.iload 4, 2) := dc9_21 (by decide +kernel)
theorem d_RR_find_37 : decode y_RR_find.2.1 37 = .ok (.iaload, 1) := dc9_46 (by decide +kernel)
theorem d_RR_find_38 : decode y_RR_find.2.1 38 = .ok (.iload_n 2, 1) := dc9_28 (by decide +kernel)
theorem d_RR_find_39 : decode y_RR_find.2.1 39 = .ok (.if_icmp .ne 35, 3) := dc9_160 (by decide +kernel)
theorem d_RR_find_42 : decode y_RR_find.2.1 42 = .ok (.aload_n 0, 1) := dc9_42 (by decide +kernel)
theorem d_RR_find_43 : decode y_RR_find.2.1 43 = .ok (.getfield 40, 3) := dc9_180 (by decide +kernel)
theorem d_RR_find_46 : decode y_RR_find.2.1 46 = .ok (.aload_n 0, 1) := dc9_42 (by decide +kernel)
theorem d_RR_find_47 : decode y_RR_find.2.1 47 = .ok (.getfield 40, 3) := dc9_180 (by decide +kernel)
theorem d_RR_find_50 : decode y_RR_find.2.1 50 = .ok (.getfield 64, 3) := dc9_180 (by decide +kernel)
theorem d_RR_find_53 : decode y_RR_find.2.1 53 = .ok (.iload 4, 2) := dc9_21 (by decide +kernel)
theorem d_RR_find_55 : decode y_RR_find.2.1 55 = .ok (.iaload, 1) := dc9_46 (by decide +kernel)
theorem d_RR_find_56 : decode y_RR_find.2.1 56 = .ok (.aload_n 0, 1) := dc9_42 (by decide +kernel)
theorem d_RR_find_57 : decode y_RR_find.2.1 57 = .ok (.getfield 40, 3) := dc9_180 (by decide +kernel)
theorem d_RR_find_60 : decode y_RR_find.2.1 60 = .ok (.getfield 64, 3) := dc9_180 (by decide +kernel)
theorem d_RR_find_63 : decode y_RR_find.2.1 63 = .ok (.iload_n 1, 1) := dc9_27 (by decide +kernel)
theorem d_RR_find_64 : decode y_RR_find.2.1 64 = .ok (.iaload, 1) := dc9_46 (by decide +kernel)
theorem d_RR_find_65 : decode y_RR_find.2.1 65 = .ok (.iload_n 2, 1) := dc9_28 (by decide +kernel)
theorem d_RR_find_66 : decode y_RR_find.2.1 66 = .ok (.invokevirtual 75, 3) := dc9_182 (by decide +kernel)
theorem d_RR_find_69 : decode y_RR_find.2.1 69 = .ok (.ifCond .eq 5, 3) := dc9_153 (by decide +kernel)
theorem d_RR_find_72 : decode y_RR_find.2.1 72 = .ok (.iload_n 3, 1) := dc9_29 (by decide +kernel)
theorem d_RR_find_73 : decode y_RR_find.2.1 73 = .ok (.ireturn, 1) := dc9_172 (by decide +kernel)
theorem d_RR_find_74 : decode y_RR_find.2.1 74 = .ok (.iinc 3 1, 3) := by decide +kernel
theorem d_RR_find_77 : decode y_RR_find.2.1 77 = .ok (.goto (-65), 3) := dc9_167 (by decide +kernel)
def h_RR_find_12 (G : mG) (d : Nat) (a0 : Nat) (l1 : Int) (l2 : Int) (l3 : Int) (M : mM) (Q : Int → mM → Prop) : Prop := mWm G y_RR_find (d + 1) 12 [vr a0, vi l1, vi l2, vi l3, vd] [] M (fun r9 M9 => ∃ x9, r9 = some (vi x9) ∧ Q x9 M9)
theorem k_RR_find {G : mG} {d : Nat} {a0 : Nat} {l1 : Int} {M : mM} {Q : Int → mM → Prop} (hO : mOk M) (hi_l1 : i32 l1)
    (h : mK M a0 = 4 ∧ mK M (mR M a0 0) = 2 ∧ mK M (mR M (mR M a0 0) 5) = 30 ∧ ((0 : Int) ≤ l1 ∧ l1 < (mN M (mR M (mR M a0 0) 5) : Int)) ∧ h_RR_find_12 G d a0 l1 (mI M (mR M (mR M a0 0) 5) (Int.toNat l1)) 0 M Q) :
    Ci G y_RR_find (d + 1) [vr a0, vi l1] M Q := by
  refine wm_open (y := y_RR_find) rfl (Nat.le_of_ble_eq_true rfl) (L := [vr a0, vi l1, vd, vd, vd]) rfl ?_
  obtain ⟨h1, h⟩ := h
  obtain ⟨h2, h⟩ := h
  obtain ⟨h3, h⟩ := h
  obtain ⟨h4, h⟩ := h
  refine wm_aload_n d_RR_find_0 rfl rfl ?_
  refine gf_RR_40 rfl d_RR_find_1 h1 ?_
  refine gf_RR_72 rfl d_RR_find_4 h2 ?_
  refine wm_iload_n d_RR_find_7 rfl rfl ?_
  refine wm_iald d_RR_find_8 h3 h4 ?_
  refine wm_istore_n d_RR_find_9 rfl (by decide) (L' := [vr a0, vi l1, vi (mI M (mR M (mR M a0 0) 5) (Int.toNat l1)), vd, vd]) rfl ?_
  refine wm_iconst d_RR_find_10 ?_
  refine wm_istore_n d_RR_find_11 rfl (by decide) (L' := [vr a0, vi l1, vi (mI M (mR M (mR M a0 0) 5) (Int.toNat l1)), vi 0, vd]) rfl ?_
  exact h
theorem k_RR_find_12 {G : mG} {d : Nat} {a0 : Nat} {l1 : Int} {l2 : Int} {l3 : Int} {M : mM} {Q : Int → mM → Prop} (hO : mOk M) (hi_l1 : i32 l1) (hi_l2 : i32 l2) (hi_l3 : i32 l3)
    (h : mK M a0 = 4 ∧ ((mI M a0 19 ≤ l3) → (Q (-1) M)) ∧ (¬ (mI M a0 19 ≤ l3) → (mK M (mR M a0 15) = 30 ∧ ((0 : Int) ≤ l3 ∧ l3 < (mN M (mR M a0 15) : Int)) ∧ mK M (mR M a0 0) = 2 ∧ mK M (mR M (mR M a0 0) 5) = 30 ∧ ((0 : Int) ≤ mI M (mR M a0 15) (Int.toNat l3) ∧ mI M (mR M a0 15) (Int.toNat l3) < (mN M (mR M (mR M a0 0) 5) : Int)) ∧ ((mI M (mR M (mR M a0 0) 5) (Int.toNat (mI M (mR M a0 15) (Int.toNat l3))) = l2) → (mK M (mR M (mR M a0 0) 4) = 30 ∧ ((0 : Int) ≤ mI M (mR M a0 15) (Int.toNat l3) ∧ mI M (mR M a0 15) (Int.toNat l3) < (mN M (mR M (mR M a0 0) 4) : Int)) ∧ ((0 : Int) ≤ l1 ∧ l1 < (mN M (mR M (mR M a0 0) 4) : Int)) ∧ Ci G y_Wo_same d [vr (mR M a0 0), vi (mI M (mR M (mR M a0 0) 4) (Int.toNat (mI M (mR M a0 15) (Int.toNat l3)))), vi (mI M (mR M (mR M a0 0) 4) (Int.toNat l1)), vi l2] M (fun x24 M23 => i32 x24 ∧ mOk M23 ∧ (((x24 = 0) → (h_RR_find_12 G d a0 l1 l2 (l3 + 1) M23 Q)) ∧ (¬ (x24 = 0) → (Q l3 M23)))))) ∧ (¬ (mI M (mR M (mR M a0 0) 5) (Int.toNat (mI M (mR M a0 15) (Int.toNat l3))) = l2) → (h_RR_find_12 G d a0 l1 l2 (l3 + 1) M Q))))) :
    h_RR_find_12 G d a0 l1 l2 l3 M Q := by
  unfold h_RR_find_12
  obtain ⟨h5, h⟩ := h
  refine wm_iload_n d_RR_find_12 rfl rfl ?_
  refine wm_aload_n d_RR_find_13 rfl rfl ?_
  refine gf_RR_61 rfl d_RR_find_14 h5 ?_
  refine wm_icmp_ge (tgt := 80) d_RR_find_17 rfl hi_l3 (hO _ _).1 (fun c12 => ?_) (fun c12 => ?_)
  · replace h := h.1 c12
    refine wm_iconst d_RR_find_80 ?_
    refine wm_ireturn d_RR_find_81 rfl rfl ?_
    exact ⟨_, rfl, h⟩
  · replace h := h.2 c12
    obtain ⟨h13, h⟩ := h
    obtain ⟨h14, h⟩ := h
    obtain ⟨h15, h⟩ := h
    obtain ⟨h16, h⟩ := h
    obtain ⟨h17, h⟩ := h
    refine wm_aload_n d_RR_find_20 rfl rfl ?_
    refine gf_RR_28 rfl d_RR_find_21 h5 ?_
    refine wm_iload_n d_RR_find_24 rfl rfl ?_
    refine wm_iald d_RR_find_25 h13 h14 ?_
    refine wm_istore d_RR_find_26 (by decide) (L' := [vr a0, vi l1, vi l2, vi l3, vi (mI M (mR M a0 15) (Int.toNat l3))]) rfl ?_
    refine wm_aload_n d_RR_find_28 rfl rfl ?_
    refine gf_RR_40 rfl d_RR_find_29 h5 ?_
    refine gf_RR_72 rfl d_RR_find_32 h15 ?_
    refine wm_iload d_RR_find_35 rfl ?_
    refine wm_iald d_RR_find_37 h16 h17 ?_
    refine wm_iload_n d_RR_find_38 rfl rfl ?_
    refine wm_icmp_ne (tgt := 74) d_RR_find_39 rfl (hO _ _).1 hi_l2 (fun c19 => ?_) (fun c19 => ?_)
    · replace h := h.2 c19
      refine wm_iinc d_RR_find_74 (by decide) rfl (L' := [vr a0, vi l1, vi l2, vi (l3 + 1), vi (mI M (mR M a0 15) (Int.toNat l3))]) rfl ?_
      refine wm_goto (tgt := 12) d_RR_find_77 rfl ?_
      refine wm_less (L' := [vr a0, vi l1, vi l2, vi (l3 + 1), vd]) ⟨Or.inr rfl, Or.inr rfl, Or.inr rfl, Or.inr rfl, Or.inl rfl, trivial⟩ ?_
      exact h
    · replace c19 := Classical.not_not.mp c19
      replace h := h.1 c19
      obtain ⟨h20, h⟩ := h
      obtain ⟨h21, h⟩ := h
      obtain ⟨h22, h⟩ := h
      refine wm_aload_n d_RR_find_42 rfl rfl ?_
      refine gf_RR_40 rfl d_RR_find_43 h5 ?_
      refine wm_aload_n d_RR_find_46 rfl rfl ?_
      refine gf_RR_40 rfl d_RR_find_47 h5 ?_
      refine gf_RR_64 rfl d_RR_find_50 h15 ?_
      refine wm_iload d_RR_find_53 rfl ?_
      refine wm_iald d_RR_find_55 h20 h21 ?_
      refine wm_aload_n d_RR_find_56 rfl rfl ?_
      refine gf_RR_40 rfl d_RR_find_57 h5 ?_
      refine gf_RR_64 rfl d_RR_find_60 h15 ?_
      refine wm_iload_n d_RR_find_63 rfl rfl ?_
      refine wm_iald d_RR_find_64 h20 h22 ?_
      refine wm_iload_n d_RR_find_65 rfl rfl ?_
      refine cf_RR_75 rfl d_RR_find_66 h15 (Nat.le_of_ble_eq_true rfl) (Ci.mono h (fun x24 M23 h => ?_))
      obtain ⟨h25, hOM23, h⟩ := h
      refine wm_if_eq (tgt := 74) d_RR_find_69 rfl h25 (fun c27 => ?_) (fun c27 => ?_)
      · replace h := h.1 c27
        refine wm_iinc d_RR_find_74 (by decide) rfl (L' := [vr a0, vi l1, vi l2, vi (l3 + 1), vi (mI M (mR M a0 15) (Int.toNat l3))]) rfl ?_
        refine wm_goto (tgt := 12) d_RR_find_77 rfl ?_
        refine wm_less (L' := [vr a0, vi l1, vi l2, vi (l3 + 1), vd]) ⟨Or.inr rfl, Or.inr rfl, Or.inr rfl, Or.inr rfl, Or.inl rfl, trivial⟩ ?_
        exact h
      · replace h := h.2 c27
        refine wm_iload_n d_RR_find_72 rfl rfl ?_
        refine wm_ireturn d_RR_find_73 rfl rfl ?_
        exact ⟨_, rfl, h⟩
theorem d_RR_varOf_0 : decode y_RR_varOf.2.1 0 = .ok (.aload_n 0, 1) := dc9_42 (by decide +kernel)
theorem d_RR_varOf_1 : decode y_RR_varOf.2.1 1 = .ok (.iload_n 1, 1) := dc9_27 (by decide +kernel)
theorem d_RR_varOf_2 : decode y_RR_varOf.2.1 2 = .ok (.invokevirtual 79, 3) := dc9_182 (by decide +kernel)
theorem d_RR_varOf_5 : decode y_RR_varOf.2.1 5 = .ok (.istore_n 2, 1) := dc9_61 (by decide +kernel)
theorem d_RR_varOf_6 : decode y_RR_varOf.2.1 6 = .ok (.iload_n 2, 1) := dc9_28 (by decide +kernel)
theorem d_RR_varOf_7 : decode y_RR_varOf.2.1 7 = .ok (.iconst (-1), 1) := dc9_2 (by decide +kernel)
theorem d_RR_varOf_8 : decode y_RR_varOf.2.1 8 = .ok (.if_icmp .eq 13, 3) := dc9_159 (by decide +kernel)
theorem d_RR_varOf_21 : decode y_RR_varOf.2.1 21 = .ok (.iconst (-1), 1) := dc9_2 (by decide +kernel)
theorem d_RR_varOf_22 : decode y_RR_varOf.2.1 22 = .ok (.goto 9, 3) := dc9_167 (by decide +kernel)
theorem d_RR_varOf_11 : decode y_RR_varOf.2.1 11 = .ok (.aload_n 0, 1) := dc9_42 (by decide +kernel)
theorem d_RR_varOf_12 : decode y_RR_varOf.2.1 12 = .ok (.getfield 31, 3) := dc9_180 (by decide +kernel)
theorem d_RR_varOf_15 : decode y_RR_varOf.2.1 15 = .ok (.iload_n 2, 1) := dc9_28 (by decide +kernel)
theorem d_RR_varOf_16 : decode y_RR_varOf.2.1 16 = .ok (.iaload, 1) := dc9_46 (by decide +kernel)
theorem d_RR_varOf_17 : decode y_RR_varOf.2.1 17 = .ok (.iconst 5, 1) := dc9_8 (by decide +kernel)
theorem d_RR_varOf_18 : decode y_RR_varOf.2.1 18 = .ok (.if_icmp .eq 7, 3) := dc9_159 (by decide +kernel)
theorem d_RR_varOf_25 : decode y_RR_varOf.2.1 25 = .ok (.aload_n 0, 1) := dc9_42 (by decide +kernel)
theorem d_RR_varOf_26 : decode y_RR_varOf.2.1 26 = .ok (.getfield 34, 3) := dc9_180 (by decide +kernel)
theorem d_RR_varOf_29 : decode y_RR_varOf.2.1 29 = .ok (.iload_n 2, 1) := dc9_28 (by decide +kernel)
theorem d_RR_varOf_30 : decode y_RR_varOf.2.1 30 = .ok (.iaload, 1) := dc9_46 (by decide +kernel)
theorem d_RR_varOf_31 : decode y_RR_varOf.2.1 31 = .ok (.ireturn, 1) := dc9_172 (by decide +kernel)
theorem k_RR_varOf {G : mG} {d : Nat} {a0 : Nat} {l1 : Int} {M : mM} {Q : Int → mM → Prop} (hO : mOk M) (hi_l1 : i32 l1)
    (h : mK M a0 = 4 ∧ Ci G y_RR_find d [vr a0, vi l1] M (fun x3 M2 => i32 x3 ∧ mOk M2 ∧ ((¬ (x3 = (-1)) → (mK M2 a0 = 4 ∧ mK M2 (mR M2 a0 16) = 30 ∧ ((0 : Int) ≤ x3 ∧ x3 < (mN M2 (mR M2 a0 16) : Int)) ∧ ((mI M2 (mR M2 a0 16) (Int.toNat x3) = 5) → (mK M2 (mR M2 a0 17) = 30 ∧ ((0 : Int) ≤ x3 ∧ x3 < (mN M2 (mR M2 a0 17) : Int)))))) ∧ ∀ v12 : Int, v12 = (if ((x3 = (-1)) ∨ (¬ (mI M2 (mR M2 a0 16) (Int.toNat x3) = 5))) then (-1) else mI M2 (mR M2 a0 17) (Int.toNat x3)) → Q v12 M2))) :
    Ci G y_RR_varOf (d + 1) [vr a0, vi l1] M Q := by
  refine wm_open (y := y_RR_varOf) rfl (Nat.le_of_ble_eq_true rfl) (L := [vr a0, vi l1, vd]) rfl ?_
  obtain ⟨h1, h⟩ := h
  refine wm_aload_n d_RR_varOf_0 rfl rfl ?_
  refine wm_iload_n d_RR_varOf_1 rfl rfl ?_
  refine cf_RR_79 rfl d_RR_varOf_2 h1 (Nat.le_of_ble_eq_true rfl) (Ci.mono h (fun x3 M2 h => ?_))
  obtain ⟨h4, hOM2, h⟩ := h
  refine wm_istore_n d_RR_varOf_5 rfl (by decide) (L' := [vr a0, vi l1, vi x3]) rfl ?_
  refine wm_iload_n d_RR_varOf_6 rfl rfl ?_
  refine wm_iconst d_RR_varOf_7 ?_
  obtain ⟨s13, h⟩ := h
  have hJ : ∀ v12 : Int, v12 = (if ((x3 = (-1)) ∨ (¬ (mI M2 (mR M2 a0 16) (Int.toNat x3) = 5))) then (-1) else mI M2 (mR M2 a0 17) (Int.toNat x3)) → mWm G y_RR_varOf (d + 1) 31 [vd, vd, vd] [vi v12] M2 (fun r9 M9 => ∃ x9, r9 = some (vi x9) ∧ Q x9 M9) := by
    intro v12 e14
    have h := h v12 e14
    refine wm_ireturn d_RR_varOf_31 rfl rfl ?_
    exact ⟨_, rfl, h⟩
  clear h
  have s15 := s13
  refine wm_icmp_eq (tgt := 21) d_RR_varOf_8 rfl h4 ⟨by decide, by decide⟩ (fun c5 => ?_) (fun c5 => ?_)
  · refine wm_iconst d_RR_varOf_21 ?_
    refine wm_goto (tgt := 31) d_RR_varOf_22 rfl ?_
    refine wm_less (L' := [vd, vd, vd]) ⟨Or.inl rfl, Or.inl rfl, Or.inl rfl, trivial⟩ ?_
    exact hJ (-1) (if_pos (Or.inl c5)).symm
  · have s15 := s15 c5
    obtain ⟨h6, h7, h8, s16⟩ := s15
    refine wm_aload_n d_RR_varOf_11 rfl rfl ?_
    refine gf_RR_31 rfl d_RR_varOf_12 h6 ?_
    refine wm_iload_n d_RR_varOf_15 rfl rfl ?_
    refine wm_iald d_RR_varOf_16 h7 h8 ?_
    refine wm_iconst d_RR_varOf_17 ?_
    refine wm_icmp_eq (tgt := 25) d_RR_varOf_18 rfl (hOM2 _ _).1 ⟨by decide, by decide⟩ (fun c9 => ?_) (fun c9 => ?_)
    · have s16 := s16 c9
      obtain ⟨h10, h11⟩ := s16
      refine wm_aload_n d_RR_varOf_25 rfl rfl ?_
      refine gf_RR_34 rfl d_RR_varOf_26 h6 ?_
      refine wm_iload_n d_RR_varOf_29 rfl rfl ?_
      refine wm_iald d_RR_varOf_30 h10 h11 ?_
      refine wm_less (L' := [vd, vd, vd]) ⟨Or.inl rfl, Or.inl rfl, Or.inl rfl, trivial⟩ ?_
      exact hJ (mI M2 (mR M2 a0 17) (Int.toNat x3)) (if_neg (fun z17 => Or.elim z17 c5 (fun z18 => z18 c9))).symm
    · refine wm_iconst d_RR_varOf_21 ?_
      refine wm_goto (tgt := 31) d_RR_varOf_22 rfl ?_
      refine wm_less (L' := [vd, vd, vd]) ⟨Or.inl rfl, Or.inl rfl, Or.inl rfl, trivial⟩ ?_
      exact hJ (-1) (if_pos (Or.inr c9)).symm
theorem d_RR_kindOf_0 : decode y_RR_kindOf.2.1 0 = .ok (.aload_n 0, 1) := dc9_42 (by decide +kernel)
theorem d_RR_kindOf_1 : decode y_RR_kindOf.2.1 1 = .ok (.iload_n 1, 1) := dc9_27 (by decide +kernel)
theorem d_RR_kindOf_2 : decode y_RR_kindOf.2.1 2 = .ok (.invokevirtual 79, 3) := dc9_182 (by decide +kernel)
theorem d_RR_kindOf_5 : decode y_RR_kindOf.2.1 5 = .ok (.istore_n 2, 1) := dc9_61 (by decide +kernel)
theorem d_RR_kindOf_6 : decode y_RR_kindOf.2.1 6 = .ok (.iload_n 2, 1) := dc9_28 (by decide +kernel)
theorem d_RR_kindOf_7 : decode y_RR_kindOf.2.1 7 = .ok (.iconst (-1), 1) := dc9_2 (by decide +kernel)
theorem d_RR_kindOf_8 : decode y_RR_kindOf.2.1 8 = .ok (.if_icmp .ne 7, 3) := dc9_160 (by decide +kernel)
theorem d_RR_kindOf_11 : decode y_RR_kindOf.2.1 11 = .ok (.iconst 0, 1) := dc9_3 (by decide +kernel)
theorem d_RR_kindOf_12 : decode y_RR_kindOf.2.1 12 = .ok (.goto 17, 3) := dc9_167 (by decide +kernel)
theorem d_RR_kindOf_15 : decode y_RR_kindOf.2.1 15 = .ok (.aload_n 0, 1) := dc9_42 (by decide +kernel)
theorem d_RR_kindOf_16 : decode y_RR_kindOf.2.1 16 = .ok (.getfield 37, 3) := dc9_180 (by decide +kernel)
theorem d_RR_kindOf_19 : decode y_RR_kindOf.2.1 19 = .ok (.iload_n 2, 1) := dc9_28 (by decide +kernel)
theorem d_RR_kindOf_20 : decode y_RR_kindOf.2.1 20 = .ok (.baload, 1) := dc9_51 (by decide +kernel)
theorem d_RR_kindOf_21 : decode y_RR_kindOf.2.1 21 = .ok (.ifCond .eq 7, 3) := dc9_153 (by decide +kernel)
theorem d_RR_kindOf_28 : decode y_RR_kindOf.2.1 28 = .ok (.iconst 1, 1) := dc9_4 (by decide +kernel)
theorem d_RR_kindOf_24 : decode y_RR_kindOf.2.1 24 = .ok (.iconst 2, 1) := dc9_5 (by decide +kernel)
theorem d_RR_kindOf_25 : decode y_RR_kindOf.2.1 25 = .ok (.goto 4, 3) := dc9_167 (by decide +kernel)
theorem d_RR_kindOf_29 : decode y_RR_kindOf.2.1 29 = .ok (.ireturn, 1) := dc9_172 (by decide +kernel)
theorem k_RR_kindOf {G : mG} {d : Nat} {a0 : Nat} {l1 : Int} {M : mM} {Q : Int → mM → Prop} (hO : mOk M) (hi_l1 : i32 l1)
    (h : mK M a0 = 4 ∧ Ci G y_RR_find d [vr a0, vi l1] M (fun x3 M2 => i32 x3 ∧ mOk M2 ∧ ((¬ (x3 = (-1)) → (mK M2 a0 = 4 ∧ mK M2 (mR M2 a0 18) = 31 ∧ ((0 : Int) ≤ x3 ∧ x3 < (mN M2 (mR M2 a0 18) : Int)))) ∧ ∀ v10 : Int, v10 = (if x3 = (-1) then 0 else (if mI M2 (mR M2 a0 18) (Int.toNat x3) = 0 then 1 else 2)) → Q v10 M2))) :
    Ci G y_RR_kindOf (d + 1) [vr a0, vi l1] M Q := by
  refine wm_open (y := y_RR_kindOf) rfl (Nat.le_of_ble_eq_true rfl) (L := [vr a0, vi l1, vd]) rfl ?_
  obtain ⟨h1, h⟩ := h
  refine wm_aload_n d_RR_kindOf_0 rfl rfl ?_
  refine wm_iload_n d_RR_kindOf_1 rfl rfl ?_
  refine cf_RR_79 rfl d_RR_kindOf_2 h1 (Nat.le_of_ble_eq_true rfl) (Ci.mono h (fun x3 M2 h => ?_))
  obtain ⟨h4, hOM2, h⟩ := h
  refine wm_istore_n d_RR_kindOf_5 rfl (by decide) (L' := [vr a0, vi l1, vi x3]) rfl ?_
  refine wm_iload_n d_RR_kindOf_6 rfl rfl ?_
  refine wm_iconst d_RR_kindOf_7 ?_
  obtain ⟨s11, h⟩ := h
  have hJ : ∀ v10 : Int, v10 = (if x3 = (-1) then 0 else (if mI M2 (mR M2 a0 18) (Int.toNat x3) = 0 then 1 else 2)) → mWm G y_RR_kindOf (d + 1) 29 [vd, vd, vd] [vi v10] M2 (fun r9 M9 => ∃ x9, r9 = some (vi x9) ∧ Q x9 M9) := by
    intro v10 e12
    have h := h v10 e12
    have h13 : i32 v10 := by rw [e12]; (repeat' split) <;> first | exact ⟨by decide, by decide⟩ | exact ⟨by decide, by decide⟩ | exact ⟨by decide, by decide⟩
    refine wm_ireturn d_RR_kindOf_29 rfl rfl ?_
    exact ⟨_, rfl, h⟩
  clear h
  have s14 := s11
  refine wm_icmp_ne (tgt := 15) d_RR_kindOf_8 rfl h4 ⟨by decide, by decide⟩ (fun c5 => ?_) (fun c5 => ?_)
  · have s14 := s14 c5
    obtain ⟨h6, h7, h8⟩ := s14
    refine wm_aload_n d_RR_kindOf_15 rfl rfl ?_
    refine gf_RR_37 rfl d_RR_kindOf_16 h6 ?_
    refine wm_iload_n d_RR_kindOf_19 rfl rfl ?_
    refine wm_zald d_RR_kindOf_20 h7 h8 ?_
    refine wm_if_eq (tgt := 28) d_RR_kindOf_21 rfl (hOM2 _ _).1 (fun c9 => ?_) (fun c9 => ?_)
    · refine wm_iconst d_RR_kindOf_28 ?_
      refine wm_less (L' := [vd, vd, vd]) ⟨Or.inl rfl, Or.inl rfl, Or.inl rfl, trivial⟩ ?_
      exact hJ 1 (by rw [if_neg c5, if_pos c9])
    · refine wm_iconst d_RR_kindOf_24 ?_
      refine wm_goto (tgt := 29) d_RR_kindOf_25 rfl ?_
      refine wm_less (L' := [vd, vd, vd]) ⟨Or.inl rfl, Or.inl rfl, Or.inl rfl, trivial⟩ ?_
      exact hJ 2 (by rw [if_neg c5, if_neg c9])
  · replace c5 := Classical.not_not.mp c5
    refine wm_iconst d_RR_kindOf_11 ?_
    refine wm_goto (tgt := 29) d_RR_kindOf_12 rfl ?_
    refine wm_less (L' := [vd, vd, vd]) ⟨Or.inl rfl, Or.inl rfl, Or.inl rfl, trivial⟩ ?_
    exact hJ 0 (by rw [if_pos c5])
theorem d_RR_isTruth_0 : decode y_RR_isTruth.2.1 0 = .ok (.aload_n 0, 1) := dc9_42 (by decide +kernel)
theorem d_RR_isTruth_1 : decode y_RR_isTruth.2.1 1 = .ok (.getfield 24, 3) := dc9_180 (by decide +kernel)
theorem d_RR_isTruth_4 : decode y_RR_isTruth.2.1 4 = .ok (.iconst 0, 1) := dc9_3 (by decide +kernel)
theorem d_RR_isTruth_5 : decode y_RR_isTruth.2.1 5 = .ok (.baload, 1) := dc9_51 (by decide +kernel)
theorem d_RR_isTruth_6 : decode y_RR_isTruth.2.1 6 = .ok (.ireturn, 1) := dc9_172 (by decide +kernel)
theorem k_RR_isTruth {G : mG} {d : Nat} {a0 : Nat} {M : mM} {Q : Int → mM → Prop} (hO : mOk M)
    (h : mK M a0 = 4 ∧ mK M (mR M a0 13) = 31 ∧ ((0 : Int) ≤ 0 ∧ 0 < (mN M (mR M a0 13) : Int)) ∧ ((mI M (mR M a0 13) 0) = 0 ∨ (mI M (mR M a0 13) 0) = 1) ∧ Q (mI M (mR M a0 13) 0) M) :
    Ci G y_RR_isTruth d [vr a0] M Q := by
  refine wm_open (y := y_RR_isTruth) rfl (Nat.le_of_ble_eq_true rfl) (L := [vr a0]) rfl ?_
  obtain ⟨h1, h⟩ := h
  obtain ⟨h2, h⟩ := h
  obtain ⟨h3, h⟩ := h
  obtain ⟨h4, h⟩ := h
  refine wm_aload_n d_RR_isTruth_0 rfl rfl ?_
  refine gf_RR_24 rfl d_RR_isTruth_1 h1 ?_
  refine wm_iconst d_RR_isTruth_4 ?_
  refine wm_zald d_RR_isTruth_5 h2 h3 ?_
  refine wm_ireturn d_RR_isTruth_6 rfl (m_nb h4) ?_
  exact ⟨_, rfl, h⟩
theorem d_RR_readRule_0 : decode y_RR_readRule.2.1 0 = .ok (.aload_n 0, 1) := dc9_42 (by decide +kernel)
theorem d_RR_readRule_1 : decode y_RR_readRule.2.1 1 = .ok (.invokevirtual 83, 3) := dc9_182 (by decide +kernel)
theorem d_RR_readRule_4 : decode y_RR_readRule.2.1 4 = .ok (.istore_n 3, 1) := dc9_62 (by decide +kernel)
theorem d_RR_readRule_5 : decode y_RR_readRule.2.1 5 = .ok (.iconst 0, 1) := dc9_3 (by decide +kernel)
theorem d_RR_readRule_6 : decode y_RR_readRule.2.1 6 = .ok (.istore 4, 2) := dc9_54 (by decide +kernel)
theorem d_RR_readRule_8 : decode y_RR_readRule.2.1 8 = .ok (.aload_n 0, 1) := dc9_42 (by decide +kernel)
theorem d_RR_readRule_9 : decode y_RR_readRule.2.1 9 = .ok (.iconst 0, 1) := dc9_3 (by decide +kernel)
theorem d_RR_readRule_10 : decode y_RR_readRule.2.1 10 = .ok (.putfield 87, 3) := dc9_181 (by decide +kernel)
theorem d_RR_readRule_13 : decode y_RR_readRule.2.1 13 = .ok (.aload_n 0, 1) := dc9_42 (by decide +kernel)
theorem d_RR_readRule_14 : decode y_RR_readRule.2.1 14 = .ok (.iconst 0, 1) := dc9_3 (by decide +kernel)
theorem d_RR_readRule_15 : decode y_RR_readRule.2.1 15 = .ok (.putfield 90, 3) := dc9_181 (by decide +kernel)
theorem d_RR_readRule_18 : decode y_RR_readRule.2.1 18 = .ok (.aload_n 0, 1) := dc9_42 (by decide +kernel)
theorem d_RR_readRule_19 : decode y_RR_readRule.2.1 19 = .ok (.iconst 1, 1) := dc9_4 (by decide +kernel)
theorem d_RR_readRule_20 : decode y_RR_readRule.2.1 20 = .ok (.putfield 93, 3) := dc9_181 (by decide +kernel)
theorem d_RR_readRule_23 : decode y_RR_readRule.2.1 23 = .ok (.aload_n 0, 1) := dc9_42 (by decide +kernel)
theorem d_RR_readRule_24 : decode y_RR_readRule.2.1 24 = .ok (.getfield 40, 3) := dc9_180 (by decide +kernel)
theorem d_RR_readRule_27 : decode y_RR_readRule.2.1 27 = .ok (.getfield 97, 3) := dc9_180 (by decide +kernel)
theorem d_RR_readRule_30 : decode y_RR_readRule.2.1 30 = .ok (.aload_n 0, 1) := dc9_42 (by decide +kernel)
theorem d_RR_readRule_31 : decode y_RR_readRule.2.1 31 = .ok (.getfield 48, 3) := dc9_180 (by decide +kernel)
theorem d_RR_readRule_34 : decode y_RR_readRule.2.1 34 = .ok (.isub, 1) := dc9_100 (by decide +kernel)
theorem d_RR_readRule_35 : decode y_RR_readRule.2.1 35 = .ok (.istore 5, 2) := dc9_54 (by decide +kernel)
theorem d_RR_readRule_37 : decode y_RR_readRule.2.1 37 = .ok (.iload 5, 2) := dc9_21 (by decide +kernel)
theorem d_RR_readRule_39 : decode y_RR_readRule.2.1 39 = .ok (.ifCond .le 82, 3) := dc9_158 (by decide +kernel)
theorem d_RR_readRule_42 : decode y_RR_readRule.2.1 42 = .ok (.iload 4, 2) := dc9_21 (by decide +kernel)
theorem d_RR_readRule_44 : decode y_RR_readRule.2.1 44 = .ok (.ifCond .ne 77, 3) := dc9_154 (by decide +kernel)
theorem d_RR_readRule_47 : decode y_RR_readRule.2.1 47 = .ok (.aload_n 0, 1) := dc9_42 (by decide +kernel)
theorem d_RR_readRule_48 : decode y_RR_readRule.2.1 48 = .ok (.getfield 93, 3) := dc9_180 (by decide +kernel)
theorem d_RR_readRule_51 : decode y_RR_readRule.2.1 51 = .ok (.ifCond .eq 10, 3) := dc9_153 (by decide +kernel)
theorem d_RR_readRule_61 : decode y_RR_readRule.2.1 61 = .ok (.aload_n 0, 1) := dc9_42 (by decide +kernel)
theorem d_RR_readRule_62 : decode y_RR_readRule.2.1 62 = .ok (.iload_n 2, 1) := dc9_28 (by decide +kernel)
theorem d_RR_readRule_54 : decode y_RR_readRule.2.1 54 = .ok (.aload_n 0, 1) := dc9_42 (by decide +kernel)
theorem d_RR_readRule_121 : decode y_RR_readRule.2.1 121 = .ok (.iload 4, 2) := dc9_21 (by decide +kernel)
theorem d_RR_readRule_123 : decode y_RR_readRule.2.1 123 = .ok (.iconst 1, 1) := dc9_4 (by decide +kernel)
theorem d_RR_readRule_124 : decode y_RR_readRule.2.1 124 = .ok (.if_icmp .ne 30, 3) := dc9_160 (by decide +kernel)
theorem d_RR_readRule_127 : decode y_RR_readRule.2.1 127 = .ok (.iload_n 1, 1) := dc9_27 (by decide +kernel)
theorem d_RR_readRule_128 : decode y_RR_readRule.2.1 128 = .ok (.ifCond .eq 26, 3) := dc9_153 (by decide +kernel)
theorem d_RR_readRule_131 : decode y_RR_readRule.2.1 131 = .ok (.aload_n 0, 1) := dc9_42 (by decide +kernel)
theorem d_RR_readRule_132 : decode y_RR_readRule.2.1 132 = .ok (.invokevirtual 110, 3) := dc9_182 (by decide +kernel)
theorem d_RR_readRule_135 : decode y_RR_readRule.2.1 135 = .ok (.iload_n 1, 1) := dc9_27 (by decide +kernel)
theorem d_RR_readRule_136 : decode y_RR_readRule.2.1 136 = .ok (.iconst 2, 1) := dc9_5 (by decide +kernel)
theorem d_RR_readRule_137 : decode y_RR_readRule.2.1 137 = .ok (.if_icmp .ne 7, 3) := dc9_160 (by decide +kernel)
theorem d_RR_readRule_140 : decode y_RR_readRule.2.1 140 = .ok (.iconst 1, 1) := dc9_4 (by decide +kernel)
theorem d_RR_readRule_141 : decode y_RR_readRule.2.1 141 = .ok (.goto 4, 3) := dc9_167 (by decide +kernel)
theorem d_RR_readRule_144 : decode y_RR_readRule.2.1 144 = .ok (.iconst 0, 1) := dc9_3 (by decide +kernel)
theorem d_RR_readRule_145 : decode y_RR_readRule.2.1 145 = .ok (.if_icmp .eq 9, 3) := dc9_159 (by decide +kernel)
theorem d_RR_readRule_148 : decode y_RR_readRule.2.1 148 = .ok (.aload_n 0, 1) := dc9_42 (by decide +kernel)
theorem d_RR_readRule_149 : decode y_RR_readRule.2.1 149 = .ok (.iconst 3, 1) := dc9_6 (by decide +kernel)
theorem d_RR_readRule_150 : decode y_RR_readRule.2.1 150 = .ok (.iload_n 3, 1) := dc9_29 (by decide +kernel)
theorem d_RR_readRule_151 : decode y_RR_readRule.2.1 151 = .ok (.invokevirtual 114, 3) := dc9_182 (by decide +kernel)
theorem d_RR_readRule_63 : decode y_RR_readRule.2.1 63 = .ok (.invokevirtual 103, 3) := dc9_182 (by decide +kernel)
theorem d_RR_readRule_66 : decode y_RR_readRule.2.1 66 = .ok (.istore 4, 2) := dc9_54 (by decide +kernel)
theorem d_RR_readRule_55 : decode y_RR_readRule.2.1 55 = .ok (.invokevirtual 100, 3) := dc9_182 (by decide +kernel)
theorem d_RR_readRule_58 : decode y_RR_readRule.2.1 58 = .ok (.goto 8, 3) := dc9_167 (by decide +kernel)
theorem d_RR_readRule_68 : decode y_RR_readRule.2.1 68 = .ok (.aload_n 0, 1) := dc9_42 (by decide +kernel)
theorem d_RR_readRule_69 : decode y_RR_readRule.2.1 69 = .ok (.getfield 93, 3) := dc9_180 (by decide +kernel)
theorem d_RR_readRule_72 : decode y_RR_readRule.2.1 72 = .ok (.ifCond .ne 43, 3) := dc9_154 (by decide +kernel)
theorem d_RR_readRule_75 : decode y_RR_readRule.2.1 75 = .ok (.aload_n 0, 1) := dc9_42 (by decide +kernel)
theorem d_RR_readRule_76 : decode y_RR_readRule.2.1 76 = .ok (.getfield 87, 3) := dc9_180 (by decide +kernel)
theorem d_RR_readRule_79 : decode y_RR_readRule.2.1 79 = .ok (.ifCond .le 36, 3) := dc9_158 (by decide +kernel)
theorem d_RR_readRule_82 : decode y_RR_readRule.2.1 82 = .ok (.aload_n 0, 1) := dc9_42 (by decide +kernel)
theorem d_RR_readRule_83 : decode y_RR_readRule.2.1 83 = .ok (.getfield 11, 3) := dc9_180 (by decide +kernel)
theorem d_RR_readRule_86 : decode y_RR_readRule.2.1 86 = .ok (.aload_n 0, 1) := dc9_42 (by decide +kernel)
theorem d_RR_readRule_87 : decode y_RR_readRule.2.1 87 = .ok (.getfield 87, 3) := dc9_180 (by decide +kernel)
theorem d_RR_readRule_90 : decode y_RR_readRule.2.1 90 = .ok (.iconst 1, 1) := dc9_4 (by decide +kernel)
theorem d_RR_readRule_91 : decode y_RR_readRule.2.1 91 = .ok (.isub, 1) := dc9_100 (by decide +kernel)
theorem d_RR_readRule_92 : decode y_RR_readRule.2.1 92 = .ok (.iaload, 1) := dc9_46 (by decide +kernel)
theorem d_RR_readRule_93 : decode y_RR_readRule.2.1 93 = .ok (.bipush 40, 2) := dc9_16 (by decide +kernel)
theorem d_RR_readRule_95 : decode y_RR_readRule.2.1 95 = .ok (.if_icmp .ne 20, 3) := dc9_160 (by decide +kernel)
theorem d_RR_readRule_98 : decode y_RR_readRule.2.1 98 = .ok (.aload_n 0, 1) := dc9_42 (by decide +kernel)
theorem d_RR_readRule_99 : decode y_RR_readRule.2.1 99 = .ok (.dup, 1) := dc9_89 (by decide +kernel)
theorem d_RR_readRule_100 : decode y_RR_readRule.2.1 100 = .ok (.getfield 87, 3) := dc9_180 (by decide +kernel)
theorem d_RR_readRule_103 : decode y_RR_readRule.2.1 103 = .ok (.iconst 1, 1) := dc9_4 (by decide +kernel)
theorem d_RR_readRule_104 : decode y_RR_readRule.2.1 104 = .ok (.isub, 1) := dc9_100 (by decide +kernel)
theorem d_RR_readRule_105 : decode y_RR_readRule.2.1 105 = .ok (.putfield 87, 3) := dc9_181 (by decide +kernel)
theorem d_RR_readRule_108 : decode y_RR_readRule.2.1 108 = .ok (.aload_n 0, 1) := dc9_42 (by decide +kernel)
theorem d_RR_readRule_115 : decode y_RR_readRule.2.1 115 = .ok (.iinc 5 (-1), 3) := by decide +kernel
theorem d_RR_readRule_118 : decode y_RR_readRule.2.1 118 = .ok (.goto (-81), 3) := dc9_167 (by decide +kernel)
theorem d_RR_readRule_109 : decode y_RR_readRule.2.1 109 = .ok (.invokevirtual 107, 3) := dc9_182 (by decide +kernel)
theorem d_RR_readRule_112 : decode y_RR_readRule.2.1 112 = .ok (.goto (-44), 3) := dc9_167 (by decide +kernel)
theorem d_RR_readRule_154 : decode y_RR_readRule.2.1 154 = .ok (.iload 4, 2) := dc9_21 (by decide +kernel)
theorem d_RR_readRule_156 : decode y_RR_readRule.2.1 156 = .ok (.iconst 1, 1) := dc9_4 (by decide +kernel)
theorem d_RR_readRule_157 : decode y_RR_readRule.2.1 157 = .ok (.if_icmp .ne 7, 3) := dc9_160 (by decide +kernel)
theorem d_RR_readRule_160 : decode y_RR_readRule.2.1 160 = .ok (.iconst 1, 1) := dc9_4 (by decide +kernel)
theorem d_RR_readRule_161 : decode y_RR_readRule.2.1 161 = .ok (.goto 4, 3) := dc9_167 (by decide +kernel)
theorem d_RR_readRule_164 : decode y_RR_readRule.2.1 164 = .ok (.iconst 0, 1) := dc9_3 (by decide +kernel)
theorem d_RR_readRule_165 : decode y_RR_readRule.2.1 165 = .ok (.ireturn, 1) := dc9_172 (by decide +kernel)
def h_RR_readRule_37 (G : mG) (d : Nat) (a0 : Nat) (l1 : Int) (l2 : Int) (l3 : Int) (l4 : Int) (l5 : Int) (M : mM) (Q : Int → mM → Prop) : Prop := mWm G y_RR_readRule (d + 1) 37 [vr a0, vi l1, vi l2, vi l3, vi l4, vi l5] [] M (fun r9 M9 => ∃ x9, r9 = some (vi x9) ∧ Q x9 M9)
def h_RR_readRule_68 (G : mG) (d : Nat) (a0 : Nat) (l1 : Int) (l2 : Int) (l3 : Int) (l4 : Int) (l5 : Int) (M : mM) (Q : Int → mM → Prop) : Prop := mWm G y_RR_readRule (d + 1) 68 [vr a0, vi l1, vi l2, vi l3, vi l4, vi l5] [] M (fun r9 M9 => ∃ x9, r9 = some (vi x9) ∧ Q x9 M9)
def h_RR_readRule_154 (G : mG) (d : Nat) (l4 : Int) (M : mM) (Q : Int → mM → Prop) : Prop := mWm G y_RR_readRule (d + 1) 154 [vd, vd, vd, vd, vi l4, vd] [] M (fun r9 M9 => ∃ x9, r9 = some (vi x9) ∧ Q x9 M9)
theorem k_RR_readRule {G : mG} {d : Nat} {a0 : Nat} {l1 : Int} {l2 : Int} {M : mM} {Q : Int → mM → Prop} (hO : mOk M) (hi_l1 : i32 l1) (hi_l2 : i32 l2)
    (h : mK M a0 = 4 ∧ Ci G y_RR_here d [vr a0] M (fun x3 M2 => i32 x3 ∧ mOk M2 ∧ (mK M2 a0 = 4 ∧ ∀ M6, M6 = mUI M2 a0 12 0 → ∀ M8, M8 = mUI M6 a0 14 0 → ∀ M10, M10 = mUI M8 a0 7 1 → mK M10 (mR M10 a0 0) = 2 ∧ h_RR_readRule_37 G d a0 l1 l2 x3 0 ((mI M10 (mR M10 a0 0) 2) - (mI M10 a0 2)) M10 Q))) :
    Ci G y_RR_readRule (d + 1) [vr a0, vi l1, vi l2] M Q := by
  refine wm_open (y := y_RR_readRule) rfl (Nat.le_of_ble_eq_true rfl) (L := [vr a0, vi l1, vi l2, vd, vd, vd]) rfl ?_
  obtain ⟨h1, h⟩ := h
  refine wm_aload_n d_RR_readRule_0 rfl rfl ?_
  refine cf_RR_83 rfl d_RR_readRule_1 h1 (Nat.le_of_ble_eq_true rfl) (Ci.mono h (fun x3 M2 h => ?_))
  obtain ⟨h4, hOM2, h⟩ := h
  obtain ⟨h5, h⟩ := h
  obtain ⟨M6, e7⟩ : ∃ M6, M6 = mUI M2 a0 12 0 := ⟨_, rfl⟩
  replace h := h M6 e7
  obtain ⟨M8, e9⟩ : ∃ M8, M8 = mUI M6 a0 14 0 := ⟨_, rfl⟩
  replace h := h M8 e9
  obtain ⟨M10, e11⟩ : ∃ M10, M10 = mUI M8 a0 7 1 := ⟨_, rfl⟩
  replace h := h M10 e11
  obtain ⟨h12, h⟩ := h
  refine wm_istore_n d_RR_readRule_4 rfl (by decide) (L' := [vr a0, vi l1, vi l2, vi x3, vd, vd]) rfl ?_
  refine wm_iconst d_RR_readRule_5 ?_
  refine wm_istore d_RR_readRule_6 (by decide) (L' := [vr a0, vi l1, vi l2, vi x3, vi 0, vd]) rfl ?_
  refine wm_aload_n d_RR_readRule_8 rfl rfl ?_
  refine wm_iconst d_RR_readRule_9 ?_
  have hOM6 : mOk M6 := by rw [e7]; exact mOk_UI hOM2 ⟨by decide, by decide⟩
  refine pf_RR_87 rfl d_RR_readRule_10 h5 ⟨by decide, by decide⟩ e7 ?_
  refine wm_aload_n d_RR_readRule_13 rfl rfl ?_
  refine wm_iconst d_RR_readRule_14 ?_
  have hOM8 : mOk M8 := by rw [e9]; exact mOk_UI hOM6 ⟨by decide, by decide⟩
  refine pf_RR_90 rfl d_RR_readRule_15 (by rw [e7]; exact h5) ⟨by decide, by decide⟩ e9 ?_
  refine wm_aload_n d_RR_readRule_18 rfl rfl ?_
  refine wm_iconst d_RR_readRule_19 ?_
  have hOM10 : mOk M10 := by rw [e11]; exact mOk_UI hOM8 (m_b32 (by decide))
  refine pf_RR_93 rfl d_RR_readRule_20 (by rw [e9, e7]; exact h5) (by decide) e11 ?_
  refine wm_aload_n d_RR_readRule_23 rfl rfl ?_
  refine gf_RR_40 rfl d_RR_readRule_24 (by rw [e11, e9, e7]; exact h5) ?_
  refine gf_RR_97 rfl d_RR_readRule_27 h12 ?_
  refine wm_aload_n d_RR_readRule_30 rfl rfl ?_
  refine gf_RR_48 rfl d_RR_readRule_31 (by rw [e11, e9, e7]; exact h5) ?_
  refine wm_isub d_RR_readRule_34 ?_
  refine wm_istore d_RR_readRule_35 (by decide) (L' := [vr a0, vi l1, vi l2, vi x3, vi 0, vi ((mI M10 (mR M10 a0 0) 2) - (mI M10 a0 2))]) rfl ?_
  exact h
theorem k_RR_readRule_37 {G : mG} {d : Nat} {a0 : Nat} {l1 : Int} {l2 : Int} {l3 : Int} {l4 : Int} {l5 : Int} {M : mM} {Q : Int → mM → Prop} (hO : mOk M) (hi_l1 : i32 l1) (hi_l2 : i32 l2) (hi_l3 : i32 l3) (hi_l4 : i32 l4) (hi_l5 : i32 l5)
    (h : (((l5 ≤ 0) ∨ (¬ (l4 = 0))) → ((((¬ (l4 = 1)) ∨ (l1 = 0)) → (h_RR_readRule_154 G d l4 M Q)) ∧ (¬ ((¬ (l4 = 1)) ∨ (l1 = 0)) → (mK M a0 = 4 ∧ Ci G y_RR_isTruth d [vr a0] M (fun x26 M25 => i32 x26 ∧ mOk M25 ∧ (∀ v29 : Int, v29 = (if (l1 = 2) then 1 else 0) → ((x26 = v29) → (h_RR_readRule_154 G d l4 M25 Q)) ∧ (¬ (x26 = v29) → (mK M25 a0 = 4 ∧ Cv G y_RR_note d [vr a0, vi 3, vi l3] M25 (fun M37 => mOk M37 ∧ (h_RR_readRule_154 G d l4 M37 Q)))))))))) ∧ (¬ ((l5 ≤ 0) ∨ (¬ (l4 = 0))) → (mK M a0 = 4 ∧ ((mI M a0 7 = 0) → (Ci G y_RR_takeOperator d [vr a0, vi l2] M (fun x49 M48 => i32 x49 ∧ mOk M48 ∧ (h_RR_readRule_68 G d a0 l1 l2 l3 x49 l5 M48 Q)))) ∧ (¬ (mI M a0 7 = 0) → (Ci G y_RR_takeOperand d [vr a0] M (fun x52 M51 => i32 x52 ∧ mOk M51 ∧ (h_RR_readRule_68 G d a0 l1 l2 l3 x52 l5 M51 Q))))))) :
    h_RR_readRule_37 G d a0 l1 l2 l3 l4 l5 M Q := by
  unfold h_RR_readRule_37
  refine wm_iload d_RR_readRule_37 rfl ?_
  have hE0 : ((l5 ≤ 0) ∨ (¬ (l4 = 0))) → mWm G y_RR_readRule (d + 1) 121 [vr a0, vi l1, vi l2, vi l3, vi l4, vi l5] [] M (fun r9 M9 => ∃ x9, r9 = some (vi x9) ∧ Q x9 M9) := by
    intro q18
    have h := h.1 q18
    refine wm_iload d_RR_readRule_121 rfl ?_
    refine wm_iconst d_RR_readRule_123 ?_
    have hE0 : ((¬ (l4 = 1)) ∨ (l1 = 0)) → mWm G y_RR_readRule (d + 1) 154 [vr a0, vi l1, vi l2, vi l3, vi l4, vi l5] [] M (fun r9 M9 => ∃ x9, r9 = some (vi x9) ∧ Q x9 M9) := by
      intro q22
      have h := h.1 q22
      refine wm_less (L' := [vd, vd, vd, vd, vi l4, vd]) ⟨Or.inl rfl, Or.inl rfl, Or.inl rfl, Or.inl rfl, Or.inr rfl, Or.inl rfl, trivial⟩ ?_
      exact h
    have hE1 : ¬ ((¬ (l4 = 1)) ∨ (l1 = 0)) → mWm G y_RR_readRule (d + 1) 131 [vr a0, vi l1, vi l2, vi l3, vi l4, vi l5] [] M (fun r9 M9 => ∃ x9, r9 = some (vi x9) ∧ Q x9 M9) := by
      intro q23
      have h := h.2 q23
      obtain ⟨h24, h⟩ := h
      refine wm_aload_n d_RR_readRule_131 rfl rfl ?_
      refine cf_RR_110 rfl d_RR_readRule_132 h24 (Nat.le_of_ble_eq_true rfl) (Ci.mono h (fun x26 M25 h => ?_))
      obtain ⟨h27, hOM25, h⟩ := h
      refine wm_iload_n d_RR_readRule_135 rfl rfl ?_
      refine wm_iconst d_RR_readRule_136 ?_
      have hJ : ∀ v29 : Int, v29 = (if (l1 = 2) then 1 else 0) → mWm G y_RR_readRule (d + 1) 145 [vr a0, vd, vd, vi l3, vi l4, vd] [vi v29, vi x26] M25 (fun r9 M9 => ∃ x9, r9 = some (vi x9) ∧ Q x9 M9) := by
        intro v29 e31
        have h := h v29 e31
        have h32 : i32 v29 := by rw [e31]; (repeat' split) <;> first | exact ⟨by decide, by decide⟩ | exact ⟨by decide, by decide⟩
        have h33 : (v29 = 0 ∨ v29 = 1) := by rw [e31]; (repeat' split) <;> decide
        refine wm_icmp_eq (tgt := 154) d_RR_readRule_145 rfl h27 h32 (fun c35 => ?_) (fun c35 => ?_)
        · replace h := h.1 c35
          refine wm_less (L' := [vd, vd, vd, vd, vi l4, vd]) ⟨Or.inl rfl, Or.inl rfl, Or.inl rfl, Or.inl rfl, Or.inr rfl, Or.inl rfl, trivial⟩ ?_
          exact h
        · replace h := h.2 c35
          obtain ⟨h36, h⟩ := h
          refine wm_aload_n d_RR_readRule_148 rfl rfl ?_
          refine wm_iconst d_RR_readRule_149 ?_
          refine wm_iload_n d_RR_readRule_150 rfl rfl ?_
          refine cf_RR_114 rfl d_RR_readRule_151 h36 (Nat.le_of_ble_eq_true rfl) (Cv.mono h (fun M37 h => ?_))
          obtain ⟨hOM37, h⟩ := h
          refine wm_less (L' := [vd, vd, vd, vd, vi l4, vd]) ⟨Or.inl rfl, Or.inl rfl, Or.inl rfl, Or.inl rfl, Or.inr rfl, Or.inl rfl, trivial⟩ ?_
          exact h
      clear h
      refine wm_icmp_ne (tgt := 144) d_RR_readRule_137 rfl hi_l1 ⟨by decide, by decide⟩ (fun c28 => ?_) (fun c28 => ?_)
      · refine wm_iconst d_RR_readRule_144 ?_
        refine wm_less (L' := [vr a0, vd, vd, vi l3, vi l4, vd]) ⟨Or.inr rfl, Or.inl rfl, Or.inl rfl, Or.inr rfl, Or.inr rfl, Or.inl rfl, trivial⟩ ?_
        exact hJ 0 (if_neg c28).symm
      · replace c28 := Classical.not_not.mp c28
        refine wm_iconst d_RR_readRule_140 ?_
        refine wm_goto (tgt := 145) d_RR_readRule_141 rfl ?_
        refine wm_less (L' := [vr a0, vd, vd, vi l3, vi l4, vd]) ⟨Or.inr rfl, Or.inl rfl, Or.inl rfl, Or.inr rfl, Or.inr rfl, Or.inl rfl, trivial⟩ ?_
        exact hJ 1 (if_pos c28).symm
    clear h
    refine wm_icmp_ne (tgt := 154) d_RR_readRule_124 rfl hi_l4 ⟨by decide, by decide⟩ (fun c20 => ?_) (fun c20 => ?_)
    · exact hE0 (Or.inl c20)
    · replace c20 := Classical.not_not.mp c20
      refine wm_iload_n d_RR_readRule_127 rfl rfl ?_
      refine wm_if_eq (tgt := 154) d_RR_readRule_128 rfl hi_l1 (fun c19 => ?_) (fun c19 => ?_)
      · exact hE0 (Or.inr c19)
      · exact hE1 (fun z41 => Or.elim z41 (fun w => w c20) c19)
  have hE1 : ¬ ((l5 ≤ 0) ∨ (¬ (l4 = 0))) → mWm G y_RR_readRule (d + 1) 47 [vr a0, vi l1, vi l2, vi l3, vi l4, vi l5] [] M (fun r9 M9 => ∃ x9, r9 = some (vi x9) ∧ Q x9 M9) := by
    intro q43
    have h := h.2 q43
    obtain ⟨h44, h⟩ := h
    refine wm_aload_n d_RR_readRule_47 rfl rfl ?_
    refine gf_RR_93 rfl d_RR_readRule_48 h44 ?_
    refine wm_if_eq (tgt := 61) d_RR_readRule_51 rfl (hO _ _).1 (fun c47 => ?_) (fun c47 => ?_)
    · replace h := h.1 c47
      refine wm_aload_n d_RR_readRule_61 rfl rfl ?_
      refine wm_iload_n d_RR_readRule_62 rfl rfl ?_
      refine cf_RR_103 rfl d_RR_readRule_63 h44 (Nat.le_of_ble_eq_true rfl) (Ci.mono h (fun x49 M48 h => ?_))
      obtain ⟨h50, hOM48, h⟩ := h
      refine wm_istore d_RR_readRule_66 (by decide) (L' := [vr a0, vi l1, vi l2, vi l3, vi x49, vi l5]) rfl ?_
      exact h
    · replace h := h.2 c47
      refine wm_aload_n d_RR_readRule_54 rfl rfl ?_
      refine cf_RR_100 rfl d_RR_readRule_55 h44 (Nat.le_of_ble_eq_true rfl) (Ci.mono h (fun x52 M51 h => ?_))
      obtain ⟨h53, hOM51, h⟩ := h
      refine wm_goto (tgt := 66) d_RR_readRule_58 rfl ?_
      refine wm_istore d_RR_readRule_66 (by decide) (L' := [vr a0, vi l1, vi l2, vi l3, vi x52, vi l5]) rfl ?_
      exact h
  clear h
  refine wm_if_le (tgt := 121) d_RR_readRule_39 rfl hi_l5 (fun c16 => ?_) (fun c16 => ?_)
  · exact hE0 (Or.inl c16)
  · refine wm_iload d_RR_readRule_42 rfl ?_
    refine wm_if_ne (tgt := 121) d_RR_readRule_44 rfl hi_l4 (fun c15 => ?_) (fun c15 => ?_)
    · exact hE0 (Or.inr c15)
    · replace c15 := Classical.not_not.mp c15
      exact hE1 (fun z54 => Or.elim z54 c16 (fun z55 => z55 c15))
theorem k_RR_readRule_68 {G : mG} {d : Nat} {a0 : Nat} {l1 : Int} {l2 : Int} {l3 : Int} {l4 : Int} {l5 : Int} {M : mM} {Q : Int → mM → Prop} (hO : mOk M) (hi_l1 : i32 l1) (hi_l2 : i32 l2) (hi_l3 : i32 l3) (hi_l4 : i32 l4) (hi_l5 : i32 l5)
    (h : mK M a0 = 4 ∧ ((mI M a0 7 = 0) → (¬ (mI M a0 12 ≤ 0) → (mK M (mR M a0 8) = 30 ∧ ((0 : Int) ≤ (mI M a0 12) - 1 ∧ (mI M a0 12) - 1 < (mN M (mR M a0 8) : Int))))) ∧ (((¬ (mI M a0 7 = 0)) ∨ ((mI M a0 12 ≤ 0) ∨ (¬ (mI M (mR M a0 8) (Int.toNat ((mI M a0 12) - 1)) = 40)))) → (h_RR_readRule_37 G d a0 l1 l2 l3 l4 (l5 + (-1)) M Q)) ∧ (¬ ((¬ (mI M a0 7 = 0)) ∨ ((mI M a0 12 ≤ 0) ∨ (¬ (mI M (mR M a0 8) (Int.toNat ((mI M a0 12) - 1)) = 40)))) → (i32 ((mI M a0 12) - 1) ∧ ∀ M66, M66 = mUI M a0 12 ((mI M a0 12) - 1) → Cv G y_RR_group d [vr a0] M66 (fun M68 => mOk M68 ∧ (h_RR_readRule_68 G d a0 l1 l2 l3 l4 l5 M68 Q))))) :
    h_RR_readRule_68 G d a0 l1 l2 l3 l4 l5 M Q := by
  unfold h_RR_readRule_68
  obtain ⟨h56, h⟩ := h
  refine wm_aload_n d_RR_readRule_68 rfl rfl ?_
  refine gf_RR_93 rfl d_RR_readRule_69 h56 ?_
  obtain ⟨s62, h⟩ := h
  have hE0 : ((¬ (mI M a0 7 = 0)) ∨ ((mI M a0 12 ≤ 0) ∨ (¬ (mI M (mR M a0 8) (Int.toNat ((mI M a0 12) - 1)) = 40)))) → mWm G y_RR_readRule (d + 1) 115 [vr a0, vi l1, vi l2, vi l3, vi l4, vi l5] [] M (fun r9 M9 => ∃ x9, r9 = some (vi x9) ∧ Q x9 M9) := by
    intro q63
    have h := h.1 q63
    refine wm_iinc d_RR_readRule_115 (by decide) rfl (L' := [vr a0, vi l1, vi l2, vi l3, vi l4, vi (l5 + (-1))]) rfl ?_
    refine wm_goto (tgt := 37) d_RR_readRule_118 rfl ?_
    exact h
  have hE1 : ¬ ((¬ (mI M a0 7 = 0)) ∨ ((mI M a0 12 ≤ 0) ∨ (¬ (mI M (mR M a0 8) (Int.toNat ((mI M a0 12) - 1)) = 40)))) → mWm G y_RR_readRule (d + 1) 98 [vr a0, vi l1, vi l2, vi l3, vi l4, vi l5] [] M (fun r9 M9 => ∃ x9, r9 = some (vi x9) ∧ Q x9 M9) := by
    intro q64
    have h := h.2 q64
    obtain ⟨h65, h⟩ := h
    obtain ⟨M66, e67⟩ : ∃ M66, M66 = mUI M a0 12 ((mI M a0 12) - 1) := ⟨_, rfl⟩
    replace h := h M66 e67
    refine wm_aload_n d_RR_readRule_98 rfl rfl ?_
    refine wm_dup d_RR_readRule_99 rfl ?_
    refine gf_RR_87 rfl d_RR_readRule_100 h56 ?_
    refine wm_iconst d_RR_readRule_103 ?_
    refine wm_isub d_RR_readRule_104 ?_
    have hOM66 : mOk M66 := by rw [e67]; exact mOk_UI hO h65
    refine pf_RR_87 rfl d_RR_readRule_105 h56 h65 e67 ?_
    refine wm_aload_n d_RR_readRule_108 rfl rfl ?_
    refine cf_RR_107 rfl d_RR_readRule_109 (by rw [e67]; exact h56) (Nat.le_of_ble_eq_true rfl) (Cv.mono h (fun M68 h => ?_))
    obtain ⟨hOM68, h⟩ := h
    refine wm_goto (tgt := 68) d_RR_readRule_112 rfl ?_
    exact h
  clear h
  have s71 := s62
  refine wm_if_ne (tgt := 115) d_RR_readRule_72 rfl (hO _ _).1 (fun c61 => ?_) (fun c61 => ?_)
  · exact hE0 (Or.inl c61)
  · replace c61 := Classical.not_not.mp c61
    have s71 := s71 c61
    have s72 := s71
    refine wm_aload_n d_RR_readRule_75 rfl rfl ?_
    refine gf_RR_87 rfl d_RR_readRule_76 h56 ?_
    refine wm_if_le (tgt := 115) d_RR_readRule_79 rfl (hO _ _).1 (fun c60 => ?_) (fun c60 => ?_)
    · exact hE0 (Or.inr (Or.inl c60))
    · have s72 := s72 c60
      obtain ⟨h57, h58⟩ := s72
      refine wm_aload_n d_RR_readRule_82 rfl rfl ?_
      refine gf_RR_11 rfl d_RR_readRule_83 h56 ?_
      refine wm_aload_n d_RR_readRule_86 rfl rfl ?_
      refine gf_RR_87 rfl d_RR_readRule_87 h56 ?_
      refine wm_iconst d_RR_readRule_90 ?_
      refine wm_isub d_RR_readRule_91 ?_
      refine wm_iald d_RR_readRule_92 h57 h58 ?_
      refine wm_bipush d_RR_readRule_93 (by decide) ?_
      refine wm_icmp_ne (tgt := 115) d_RR_readRule_95 rfl (hO _ _).1 ⟨by decide, by decide⟩ (fun c59 => ?_) (fun c59 => ?_)
      · exact hE0 (Or.inr (Or.inr c59))
      · replace c59 := Classical.not_not.mp c59
        exact hE1 (fun z73 => Or.elim z73 (fun w => w c61) (fun z74 => Or.elim z74 c60 (fun z75 => z75 c59)))
theorem k_RR_readRule_154 {G : mG} {d : Nat} {l4 : Int} {M : mM} {Q : Int → mM → Prop} (hO : mOk M) (hi_l4 : i32 l4)
    (h : ∀ v77 : Int, v77 = (if (l4 = 1) then 1 else 0) → Q v77 M) :
    h_RR_readRule_154 G d l4 M Q := by
  unfold h_RR_readRule_154
  refine wm_iload d_RR_readRule_154 rfl ?_
  refine wm_iconst d_RR_readRule_156 ?_
  have hJ : ∀ v77 : Int, v77 = (if (l4 = 1) then 1 else 0) → mWm G y_RR_readRule (d + 1) 165 [vd, vd, vd, vd, vd, vd] [vi v77] M (fun r9 M9 => ∃ x9, r9 = some (vi x9) ∧ Q x9 M9) := by
    intro v77 e79
    have h := h v77 e79
    have h80 : i32 v77 := by rw [e79]; (repeat' split) <;> first | exact ⟨by decide, by decide⟩ | exact ⟨by decide, by decide⟩
    have h81 : (v77 = 0 ∨ v77 = 1) := by rw [e79]; (repeat' split) <;> decide
    refine wm_ireturn d_RR_readRule_165 rfl (m_nb h81) ?_
    exact ⟨_, rfl, h⟩
  clear h
  refine wm_icmp_ne (tgt := 164) d_RR_readRule_157 rfl hi_l4 ⟨by decide, by decide⟩ (fun c76 => ?_) (fun c76 => ?_)
  · refine wm_iconst d_RR_readRule_164 ?_
    refine wm_less (L' := [vd, vd, vd, vd, vd, vd]) ⟨Or.inl rfl, Or.inl rfl, Or.inl rfl, Or.inl rfl, Or.inl rfl, Or.inl rfl, trivial⟩ ?_
    exact hJ 0 (if_neg c76).symm
  · replace c76 := Classical.not_not.mp c76
    refine wm_iconst d_RR_readRule_160 ?_
    refine wm_goto (tgt := 165) d_RR_readRule_161 rfl ?_
    refine wm_less (L' := [vd, vd, vd, vd, vd, vd]) ⟨Or.inl rfl, Or.inl rfl, Or.inl rfl, Or.inl rfl, Or.inl rfl, Or.inl rfl, trivial⟩ ?_
    exact hJ 1 (if_pos c76).symm
theorem d_RR_takeOperand_0 : decode y_RR_takeOperand.2.1 0 = .ok (.aload_n 0, 1) := dc9_42 (by decide +kernel)
theorem d_RR_takeOperand_1 : decode y_RR_takeOperand.2.1 1 = .ok (.getfield 40, 3) := dc9_180 (by decide +kernel)
theorem d_RR_takeOperand_4 : decode y_RR_takeOperand.2.1 4 = .ok (.getfield 69, 3) := dc9_180 (by decide +kernel)
theorem d_RR_takeOperand_7 : decode y_RR_takeOperand.2.1 7 = .ok (.aload_n 0, 1) := dc9_42 (by decide +kernel)
theorem d_RR_takeOperand_8 : decode y_RR_takeOperand.2.1 8 = .ok (.getfield 48, 3) := dc9_180 (by decide +kernel)
theorem d_RR_takeOperand_11 : decode y_RR_takeOperand.2.1 11 = .ok (.iaload, 1) := dc9_46 (by decide +kernel)
theorem d_RR_takeOperand_12 : decode y_RR_takeOperand.2.1 12 = .ok (.istore_n 1, 1) := dc9_60 (by decide +kernel)
theorem d_RR_takeOperand_13 : decode y_RR_takeOperand.2.1 13 = .ok (.aload_n 0, 1) := dc9_42 (by decide +kernel)
theorem d_RR_takeOperand_14 : decode y_RR_takeOperand.2.1 14 = .ok (.invokevirtual 83, 3) := dc9_182 (by decide +kernel)
theorem d_RR_takeOperand_17 : decode y_RR_takeOperand.2.1 17 = .ok (.istore_n 2, 1) := dc9_61 (by decide +kernel)
theorem d_RR_takeOperand_18 : decode y_RR_takeOperand.2.1 18 = .ok (.iload_n 1, 1) := dc9_27 (by decide +kernel)
theorem d_RR_takeOperand_19 : decode y_RR_takeOperand.2.1 19 = .ok (.lookupswitch 259 #[(2, 118), (3, 81), (13, 100), (14, 100), (15, 221), (16, 221), (26, 194), (32, 202), (37, 186)], 81) := by decide +kernel
theorem z_RR_takeOperand_19_s : lkS #[(2, 118), (3, 81), (13, 100), (14, 100), (15, 221), (16, 221), (26, 194), (32, 202), (37, 186)] := by unfold lkS; decide
theorem d_RR_takeOperand_137 : decode y_RR_takeOperand.2.1 137 = .ok (.aload_n 0, 1) := dc9_42 (by decide +kernel)
theorem d_RR_takeOperand_138 : decode y_RR_takeOperand.2.1 138 = .ok (.aload_n 0, 1) := dc9_42 (by decide +kernel)
theorem d_RR_takeOperand_139 : decode y_RR_takeOperand.2.1 139 = .ok (.getfield 48, 3) := dc9_180 (by decide +kernel)
theorem d_RR_takeOperand_142 : decode y_RR_takeOperand.2.1 142 = .ok (.invokevirtual 79, 3) := dc9_182 (by decide +kernel)
theorem d_RR_takeOperand_145 : decode y_RR_takeOperand.2.1 145 = .ok (.istore_n 3, 1) := dc9_62 (by decide +kernel)
theorem d_RR_takeOperand_146 : decode y_RR_takeOperand.2.1 146 = .ok (.iload_n 3, 1) := dc9_29 (by decide +kernel)
theorem d_RR_takeOperand_147 : decode y_RR_takeOperand.2.1 147 = .ok (.iconst (-1), 1) := dc9_2 (by decide +kernel)
theorem d_RR_takeOperand_148 : decode y_RR_takeOperand.2.1 148 = .ok (.if_icmp .eq 20, 3) := dc9_159 (by decide +kernel)
theorem d_RR_takeOperand_151 : decode y_RR_takeOperand.2.1 151 = .ok (.aload_n 0, 1) := dc9_42 (by decide +kernel)
theorem d_RR_takeOperand_152 : decode y_RR_takeOperand.2.1 152 = .ok (.getfield 122, 3) := dc9_180 (by decide +kernel)
theorem d_RR_takeOperand_155 : decode y_RR_takeOperand.2.1 155 = .ok (.ifCond .eq 27, 3) := dc9_153 (by decide +kernel)
theorem d_RR_takeOperand_158 : decode y_RR_takeOperand.2.1 158 = .ok (.aload_n 0, 1) := dc9_42 (by decide +kernel)
theorem d_RR_takeOperand_159 : decode y_RR_takeOperand.2.1 159 = .ok (.getfield 31, 3) := dc9_180 (by decide +kernel)
theorem d_RR_takeOperand_162 : decode y_RR_takeOperand.2.1 162 = .ok (.iload_n 3, 1) := dc9_29 (by decide +kernel)
theorem d_RR_takeOperand_163 : decode y_RR_takeOperand.2.1 163 = .ok (.iaload, 1) := dc9_46 (by decide +kernel)
theorem d_RR_takeOperand_164 : decode y_RR_takeOperand.2.1 164 = .ok (.iconst 4, 1) := dc9_7 (by decide +kernel)
theorem d_RR_takeOperand_165 : decode y_RR_takeOperand.2.1 165 = .ok (.if_icmp .eq 17, 3) := dc9_159 (by decide +kernel)
theorem d_RR_takeOperand_168 : decode y_RR_takeOperand.2.1 168 = .ok (.aload_n 0, 1) := dc9_42 (by decide +kernel)
theorem d_RR_takeOperand_169 : decode y_RR_takeOperand.2.1 169 = .ok (.iconst 2, 1) := dc9_5 (by decide +kernel)
theorem d_RR_takeOperand_170 : decode y_RR_takeOperand.2.1 170 = .ok (.iload_n 2, 1) := dc9_28 (by decide +kernel)
theorem d_RR_takeOperand_171 : decode y_RR_takeOperand.2.1 171 = .ok (.invokevirtual 114, 3) := dc9_182 (by decide +kernel)
theorem d_RR_takeOperand_174 : decode y_RR_takeOperand.2.1 174 = .ok (.aload_n 0, 1) := dc9_42 (by decide +kernel)
theorem d_RR_takeOperand_175 : decode y_RR_takeOperand.2.1 175 = .ok (.iconst 3, 1) := dc9_6 (by decide +kernel)
theorem d_RR_takeOperand_176 : decode y_RR_takeOperand.2.1 176 = .ok (.iconst 0, 1) := dc9_3 (by decide +kernel)
theorem d_RR_takeOperand_177 : decode y_RR_takeOperand.2.1 177 = .ok (.iconst 0, 1) := dc9_3 (by decide +kernel)
theorem d_RR_takeOperand_178 : decode y_RR_takeOperand.2.1 178 = .ok (.invokevirtual 118, 3) := dc9_182 (by decide +kernel)
theorem d_RR_takeOperand_181 : decode y_RR_takeOperand.2.1 181 = .ok (.ireturn, 1) := dc9_172 (by decide +kernel)
theorem d_RR_takeOperand_182 : decode y_RR_takeOperand.2.1 182 = .ok (.aload_n 0, 1) := dc9_42 (by decide +kernel)
theorem d_RR_takeOperand_183 : decode y_RR_takeOperand.2.1 183 = .ok (.aload_n 0, 1) := dc9_42 (by decide +kernel)
theorem d_RR_takeOperand_184 : decode y_RR_takeOperand.2.1 184 = .ok (.getfield 31, 3) := dc9_180 (by decide +kernel)
theorem d_RR_takeOperand_187 : decode y_RR_takeOperand.2.1 187 = .ok (.iload_n 3, 1) := dc9_29 (by decide +kernel)
theorem d_RR_takeOperand_188 : decode y_RR_takeOperand.2.1 188 = .ok (.iaload, 1) := dc9_46 (by decide +kernel)
theorem d_RR_takeOperand_189 : decode y_RR_takeOperand.2.1 189 = .ok (.aload_n 0, 1) := dc9_42 (by decide +kernel)
theorem d_RR_takeOperand_190 : decode y_RR_takeOperand.2.1 190 = .ok (.getfield 34, 3) := dc9_180 (by decide +kernel)
theorem d_RR_takeOperand_193 : decode y_RR_takeOperand.2.1 193 = .ok (.iload_n 3, 1) := dc9_29 (by decide +kernel)
theorem d_RR_takeOperand_194 : decode y_RR_takeOperand.2.1 194 = .ok (.iaload, 1) := dc9_46 (by decide +kernel)
theorem d_RR_takeOperand_195 : decode y_RR_takeOperand.2.1 195 = .ok (.aload_n 0, 1) := dc9_42 (by decide +kernel)
theorem d_RR_takeOperand_196 : decode y_RR_takeOperand.2.1 196 = .ok (.getfield 37, 3) := dc9_180 (by decide +kernel)
theorem d_RR_takeOperand_199 : decode y_RR_takeOperand.2.1 199 = .ok (.iload_n 3, 1) := dc9_29 (by decide +kernel)
theorem d_RR_takeOperand_200 : decode y_RR_takeOperand.2.1 200 = .ok (.baload, 1) := dc9_51 (by decide +kernel)
theorem d_RR_takeOperand_201 : decode y_RR_takeOperand.2.1 201 = .ok (.invokevirtual 118, 3) := dc9_182 (by decide +kernel)
theorem d_RR_takeOperand_204 : decode y_RR_takeOperand.2.1 204 = .ok (.ireturn, 1) := dc9_172 (by decide +kernel)
theorem d_RR_takeOperand_100 : decode y_RR_takeOperand.2.1 100 = .ok (.aload_n 0, 1) := dc9_42 (by decide +kernel)
theorem d_RR_takeOperand_101 : decode y_RR_takeOperand.2.1 101 = .ok (.iconst 3, 1) := dc9_6 (by decide +kernel)
theorem d_RR_takeOperand_102 : decode y_RR_takeOperand.2.1 102 = .ok (.aload_n 0, 1) := dc9_42 (by decide +kernel)
theorem d_RR_takeOperand_103 : decode y_RR_takeOperand.2.1 103 = .ok (.getfield 40, 3) := dc9_180 (by decide +kernel)
theorem d_RR_takeOperand_106 : decode y_RR_takeOperand.2.1 106 = .ok (.getfield 72, 3) := dc9_180 (by decide +kernel)
theorem d_RR_takeOperand_109 : decode y_RR_takeOperand.2.1 109 = .ok (.aload_n 0, 1) := dc9_42 (by decide +kernel)
theorem d_RR_takeOperand_110 : decode y_RR_takeOperand.2.1 110 = .ok (.getfield 48, 3) := dc9_180 (by decide +kernel)
theorem d_RR_takeOperand_113 : decode y_RR_takeOperand.2.1 113 = .ok (.iaload, 1) := dc9_46 (by decide +kernel)
theorem d_RR_takeOperand_114 : decode y_RR_takeOperand.2.1 114 = .ok (.iconst 0, 1) := dc9_3 (by decide +kernel)
theorem d_RR_takeOperand_115 : decode y_RR_takeOperand.2.1 115 = .ok (.invokevirtual 118, 3) := dc9_182 (by decide +kernel)
theorem d_RR_takeOperand_118 : decode y_RR_takeOperand.2.1 118 = .ok (.ireturn, 1) := dc9_172 (by decide +kernel)
theorem d_RR_takeOperand_119 : decode y_RR_takeOperand.2.1 119 = .ok (.aload_n 0, 1) := dc9_42 (by decide +kernel)
theorem d_RR_takeOperand_120 : decode y_RR_takeOperand.2.1 120 = .ok (.iconst 3, 1) := dc9_6 (by decide +kernel)
theorem d_RR_takeOperand_121 : decode y_RR_takeOperand.2.1 121 = .ok (.iload_n 1, 1) := dc9_27 (by decide +kernel)
theorem d_RR_takeOperand_122 : decode y_RR_takeOperand.2.1 122 = .ok (.bipush 13, 2) := dc9_16 (by decide +kernel)
theorem d_RR_takeOperand_124 : decode y_RR_takeOperand.2.1 124 = .ok (.if_icmp .ne 7, 3) := dc9_160 (by decide +kernel)
theorem d_RR_takeOperand_127 : decode y_RR_takeOperand.2.1 127 = .ok (.iconst 1, 1) := dc9_4 (by decide +kernel)
theorem d_RR_takeOperand_128 : decode y_RR_takeOperand.2.1 128 = .ok (.goto 4, 3) := dc9_167 (by decide +kernel)
theorem d_RR_takeOperand_131 : decode y_RR_takeOperand.2.1 131 = .ok (.iconst 0, 1) := dc9_3 (by decide +kernel)
theorem d_RR_takeOperand_132 : decode y_RR_takeOperand.2.1 132 = .ok (.iconst 1, 1) := dc9_4 (by decide +kernel)
theorem d_RR_takeOperand_133 : decode y_RR_takeOperand.2.1 133 = .ok (.invokevirtual 118, 3) := dc9_182 (by decide +kernel)
theorem d_RR_takeOperand_136 : decode y_RR_takeOperand.2.1 136 = .ok (.ireturn, 1) := dc9_172 (by decide +kernel)
theorem d_RR_takeOperand_240 : decode y_RR_takeOperand.2.1 240 = .ok (.aload_n 0, 1) := dc9_42 (by decide +kernel)
theorem d_RR_takeOperand_241 : decode y_RR_takeOperand.2.1 241 = .ok (.dup, 1) := dc9_89 (by decide +kernel)
theorem d_RR_takeOperand_242 : decode y_RR_takeOperand.2.1 242 = .ok (.getfield 48, 3) := dc9_180 (by decide +kernel)
theorem d_RR_takeOperand_245 : decode y_RR_takeOperand.2.1 245 = .ok (.iconst 1, 1) := dc9_4 (by decide +kernel)
theorem d_RR_takeOperand_246 : decode y_RR_takeOperand.2.1 246 = .ok (.iadd, 1) := dc9_96 (by decide +kernel)
theorem d_RR_takeOperand_247 : decode y_RR_takeOperand.2.1 247 = .ok (.putfield 48, 3) := dc9_181 (by decide +kernel)
theorem d_RR_takeOperand_250 : decode y_RR_takeOperand.2.1 250 = .ok (.aload_n 0, 1) := dc9_42 (by decide +kernel)
theorem d_RR_takeOperand_251 : decode y_RR_takeOperand.2.1 251 = .ok (.getfield 40, 3) := dc9_180 (by decide +kernel)
theorem d_RR_takeOperand_254 : decode y_RR_takeOperand.2.1 254 = .ok (.getfield 69, 3) := dc9_180 (by decide +kernel)
theorem d_RR_takeOperand_257 : decode y_RR_takeOperand.2.1 257 = .ok (.aload_n 0, 1) := dc9_42 (by decide +kernel)
theorem d_RR_takeOperand_258 : decode y_RR_takeOperand.2.1 258 = .ok (.getfield 48, 3) := dc9_180 (by decide +kernel)
theorem d_RR_takeOperand_261 : decode y_RR_takeOperand.2.1 261 = .ok (.iaload, 1) := dc9_46 (by decide +kernel)
theorem d_RR_takeOperand_262 : decode y_RR_takeOperand.2.1 262 = .ok (.bipush 37, 2) := dc9_16 (by decide +kernel)
theorem d_RR_takeOperand_264 : decode y_RR_takeOperand.2.1 264 = .ok (.if_icmp .ne 12, 3) := dc9_160 (by decide +kernel)
theorem d_RR_takeOperand_267 : decode y_RR_takeOperand.2.1 267 = .ok (.aload_n 0, 1) := dc9_42 (by decide +kernel)
theorem d_RR_takeOperand_268 : decode y_RR_takeOperand.2.1 268 = .ok (.iload_n 1, 1) := dc9_27 (by decide +kernel)
theorem d_RR_takeOperand_269 : decode y_RR_takeOperand.2.1 269 = .ok (.iload_n 2, 1) := dc9_28 (by decide +kernel)
theorem d_RR_takeOperand_276 : decode y_RR_takeOperand.2.1 276 = .ok (.iconst 2, 1) := dc9_5 (by decide +kernel)
theorem d_RR_takeOperand_270 : decode y_RR_takeOperand.2.1 270 = .ok (.invokevirtual 125, 3) := dc9_182 (by decide +kernel)
theorem d_RR_takeOperand_273 : decode y_RR_takeOperand.2.1 273 = .ok (.goto 4, 3) := dc9_167 (by decide +kernel)
theorem d_RR_takeOperand_213 : decode y_RR_takeOperand.2.1 213 = .ok (.aload_n 0, 1) := dc9_42 (by decide +kernel)
theorem d_RR_takeOperand_214 : decode y_RR_takeOperand.2.1 214 = .ok (.bipush 40, 2) := dc9_16 (by decide +kernel)
theorem d_RR_takeOperand_216 : decode y_RR_takeOperand.2.1 216 = .ok (.iload_n 2, 1) := dc9_28 (by decide +kernel)
theorem d_RR_takeOperand_217 : decode y_RR_takeOperand.2.1 217 = .ok (.invokevirtual 125, 3) := dc9_182 (by decide +kernel)
theorem d_RR_takeOperand_220 : decode y_RR_takeOperand.2.1 220 = .ok (.ireturn, 1) := dc9_172 (by decide +kernel)
theorem d_RR_takeOperand_221 : decode y_RR_takeOperand.2.1 221 = .ok (.aload_n 0, 1) := dc9_42 (by decide +kernel)
theorem d_RR_takeOperand_222 : decode y_RR_takeOperand.2.1 222 = .ok (.invokevirtual 129, 3) := dc9_182 (by decide +kernel)
theorem d_RR_takeOperand_225 : decode y_RR_takeOperand.2.1 225 = .ok (.ifCond .eq 13, 3) := dc9_153 (by decide +kernel)
theorem d_RR_takeOperand_238 : decode y_RR_takeOperand.2.1 238 = .ok (.iconst 2, 1) := dc9_5 (by decide +kernel)
theorem d_RR_takeOperand_228 : decode y_RR_takeOperand.2.1 228 = .ok (.aload_n 0, 1) := dc9_42 (by decide +kernel)
theorem d_RR_takeOperand_229 : decode y_RR_takeOperand.2.1 229 = .ok (.bipush 41, 2) := dc9_16 (by decide +kernel)
theorem d_RR_takeOperand_231 : decode y_RR_takeOperand.2.1 231 = .ok (.iload_n 2, 1) := dc9_28 (by decide +kernel)
theorem d_RR_takeOperand_232 : decode y_RR_takeOperand.2.1 232 = .ok (.invokevirtual 125, 3) := dc9_182 (by decide +kernel)
theorem d_RR_takeOperand_235 : decode y_RR_takeOperand.2.1 235 = .ok (.goto 4, 3) := dc9_167 (by decide +kernel)
theorem d_RR_takeOperand_205 : decode y_RR_takeOperand.2.1 205 = .ok (.aload_n 0, 1) := dc9_42 (by decide +kernel)
theorem d_RR_takeOperand_206 : decode y_RR_takeOperand.2.1 206 = .ok (.bipush 37, 2) := dc9_16 (by decide +kernel)
theorem d_RR_takeOperand_208 : decode y_RR_takeOperand.2.1 208 = .ok (.iload_n 2, 1) := dc9_28 (by decide +kernel)
theorem d_RR_takeOperand_209 : decode y_RR_takeOperand.2.1 209 = .ok (.invokevirtual 125, 3) := dc9_182 (by decide +kernel)
theorem d_RR_takeOperand_212 : decode y_RR_takeOperand.2.1 212 = .ok (.ireturn, 1) := dc9_172 (by decide +kernel)
theorem d_RR_takeOperand_278 : decode y_RR_takeOperand.2.1 278 = .ok (.iconst 2, 1) := dc9_5 (by decide +kernel)
theorem d_RR_takeOperand_279 : decode y_RR_takeOperand.2.1 279 = .ok (.ireturn, 1) := dc9_172 (by decide +kernel)
theorem d_RR_takeOperand_239 : decode y_RR_takeOperand.2.1 239 = .ok (.ireturn, 1) := dc9_172 (by decide +kernel)
theorem d_RR_takeOperand_277 : decode y_RR_takeOperand.2.1 277 = .ok (.ireturn, 1) := dc9_172 (by decide +kernel)
def h_RR_takeOperand_239 (G : mG) (d : Nat) (k0 : Int) (M : mM) (Q : Int → mM → Prop) : Prop := mWm G y_RR_takeOperand (d + 1) 239 [vd, vd, vd, vd] [vi k0] M (fun r9 M9 => ∃ x9, r9 = some (vi x9) ∧ Q x9 M9)
def h_RR_takeOperand_277 (G : mG) (d : Nat) (k0 : Int) (M : mM) (Q : Int → mM → Prop) : Prop := mWm G y_RR_takeOperand (d + 1) 277 [vd, vd, vd, vd] [vi k0] M (fun r9 M9 => ∃ x9, r9 = some (vi x9) ∧ Q x9 M9)
theorem k_RR_takeOperand {G : mG} {d : Nat} {a0 : Nat} {M : mM} {Q : Int → mM → Prop} (hO : mOk M)
    (h : mK M a0 = 4 ∧ mK M (mR M a0 0) = 2 ∧ mK M (mR M (mR M a0 0) 3) = 30 ∧ ((0 : Int) ≤ mI M a0 2 ∧ mI M a0 2 < (mN M (mR M (mR M a0 0) 3) : Int)) ∧ Ci G y_RR_here d [vr a0] M (fun x6 M5 => i32 x6 ∧ mOk M5 ∧ (((mI M (mR M (mR M a0 0) 3) (Int.toNat (mI M a0 2)) = 2) → (mK M5 a0 = 4 ∧ Ci G y_RR_find d [vr a0, vi (mI M5 a0 2)] M5 (fun x11 M10 => i32 x11 ∧ mOk M10 ∧ ((¬ (x11 = (-1)) → (mK M10 a0 = 4 ∧ (¬ (mI M10 a0 6 = 0) → (mK M10 (mR M10 a0 16) = 30 ∧ ((0 : Int) ≤ x11 ∧ x11 < (mN M10 (mR M10 a0 16) : Int)))))) ∧ (((x11 = (-1)) ∨ ((¬ (mI M10 a0 6 = 0)) ∧ (¬ (mI M10 (mR M10 a0 16) (Int.toNat x11) = 4)))) → (mK M10 a0 = 4 ∧ Cv G y_RR_note d [vr a0, vi 2, vi x6] M10 (fun M22 => mOk M22 ∧ (mK M22 a0 = 4 ∧ Ci G y_RR_takeValue d [vr a0, vi 3, vi 0, vi 0] M22 (fun x27 M26 => i32 x27 ∧ mOk M26 ∧ (Q x27 M26)))))) ∧ (¬ ((x11 = (-1)) ∨ ((¬ (mI M10 a0 6 = 0)) ∧ (¬ (mI M10 (mR M10 a0 16) (Int.toNat x11) = 4)))) → (mK M10 a0 = 4 ∧ mK M10 (mR M10 a0 16) = 30 ∧ ((0 : Int) ≤ x11 ∧ x11 < (mN M10 (mR M10 a0 16) : Int)) ∧ mK M10 (mR M10 a0 17) = 30 ∧ ((0 : Int) ≤ x11 ∧ x11 < (mN M10 (mR M10 a0 17) : Int)) ∧ mK M10 (mR M10 a0 18) = 31 ∧ ((0 : Int) ≤ x11 ∧ x11 < (mN M10 (mR M10 a0 18) : Int)) ∧ Ci G y_RR_takeValue d [vr a0, vi (mI M10 (mR M10 a0 16) (Int.toNat x11)), vi (mI M10 (mR M10 a0 17) (Int.toNat x11)), vi (mI M10 (mR M10 a0 18) (Int.toNat x11))] M10 (fun x38 M37 => i32 x38 ∧ mOk M37 ∧ (Q x38 M37)))))))) ∧ (¬ (mI M (mR M (mR M a0 0) 3) (Int.toNat (mI M a0 2)) = 2) → (((mI M (mR M (mR M a0 0) 3) (Int.toNat (mI M a0 2)) = 3) → (mK M5 a0 = 4 ∧ mK M5 (mR M5 a0 0) = 2 ∧ mK M5 (mR M5 (mR M5 a0 0) 5) = 30 ∧ ((0 : Int) ≤ mI M5 a0 2 ∧ mI M5 a0 2 < (mN M5 (mR M5 (mR M5 a0 0) 5) : Int)) ∧ Ci G y_RR_takeValue d [vr a0, vi 3, vi (mI M5 (mR M5 (mR M5 a0 0) 5) (Int.toNat (mI M5 a0 2))), vi 0] M5 (fun x53 M52 => i32 x53 ∧ mOk M52 ∧ (Q x53 M52)))) ∧ (¬ (mI M (mR M (mR M a0 0) 3) (Int.toNat (mI M a0 2)) = 3) → (((mI M (mR M (mR M a0 0) 3) (Int.toNat (mI M a0 2)) = 13 ∨ mI M (mR M (mR M a0 0) 3) (Int.toNat (mI M a0 2)) = 14) → (∀ v57 : Int, v57 = (if (mI M (mR M (mR M a0 0) 3) (Int.toNat (mI M a0 2)) = 13) then 1 else 0) → mK M5 a0 = 4 ∧ Ci G y_RR_takeValue d [vr a0, vi 3, vi v57, vi 1] M5 (fun x64 M63 => i32 x64 ∧ mOk M63 ∧ (Q x64 M63)))) ∧ (¬ (mI M (mR M (mR M a0 0) 3) (Int.toNat (mI M a0 2)) = 13 ∨ mI M (mR M (mR M a0 0) 3) (Int.toNat (mI M a0 2)) = 14) → (((mI M (mR M (mR M a0 0) 3) (Int.toNat (mI M a0 2)) = 15 ∨ mI M (mR M (mR M a0 0) 3) (Int.toNat (mI M a0 2)) = 16) → (mK M5 a0 = 4 ∧ i32 ((mI M5 a0 2) + 1) ∧ ∀ M70, M70 = mUI M5 a0 2 ((mI M5 a0 2) + 1) → mK M70 (mR M70 a0 0) = 2 ∧ mK M70 (mR M70 (mR M70 a0 0) 3) = 30 ∧ ((0 : Int) ≤ mI M70 a0 2 ∧ mI M70 a0 2 < (mN M70 (mR M70 (mR M70 a0 0) 3) : Int)) ∧ ((mI M70 (mR M70 (mR M70 a0 0) 3) (Int.toNat (mI M70 a0 2)) = 37) → (Ci G y_RR_takeLevel d [vr a0, vi (mI M (mR M (mR M a0 0) 3) (Int.toNat (mI M a0 2))), vi x6] M70 (fun x78 M77 => i32 x78 ∧ mOk M77 ∧ (h_RR_takeOperand_277 G d x78 M77 Q)))) ∧ (¬ (mI M70 (mR M70 (mR M70 a0 0) 3) (Int.toNat (mI M70 a0 2)) = 37) → (h_RR_takeOperand_277 G d 2 M70 Q)))) ∧ (¬ (mI M (mR M (mR M a0 0) 3) (Int.toNat (mI M a0 2)) = 15 ∨ mI M (mR M (mR M a0 0) 3) (Int.toNat (mI M a0 2)) = 16) → (((mI M (mR M (mR M a0 0) 3) (Int.toNat (mI M a0 2)) = 26) → (mK M5 a0 = 4 ∧ Ci G y_RR_takeLevel d [vr a0, vi 40, vi x6] M5 (fun x83 M82 => i32 x83 ∧ mOk M82 ∧ (Q x83 M82)))) ∧ (¬ (mI M (mR M (mR M a0 0) 3) (Int.toNat (mI M a0 2)) = 26) → (((mI M (mR M (mR M a0 0) 3) (Int.toNat (mI M a0 2)) = 32) → (mK M5 a0 = 4 ∧ Ci G y_RR_mayDeny d [vr a0] M5 (fun x88 M87 => i32 x88 ∧ mOk M87 ∧ (((x88 = 0) → (h_RR_takeOperand_239 G d 2 M87 Q)) ∧ (¬ (x88 = 0) → (mK M87 a0 = 4 ∧ Ci G y_RR_takeLevel d [vr a0, vi 41, vi x6] M87 (fun x94 M93 => i32 x94 ∧ mOk M93 ∧ (h_RR_takeOperand_239 G d x94 M93 Q)))))))) ∧ (¬ (mI M (mR M (mR M a0 0) 3) (Int.toNat (mI M a0 2)) = 32) → (((mI M (mR M (mR M a0 0) 3) (Int.toNat (mI M a0 2)) = 37) → (mK M5 a0 = 4 ∧ Ci G y_RR_takeLevel d [vr a0, vi 37, vi x6] M5 (fun x99 M98 => i32 x99 ∧ mOk M98 ∧ (Q x99 M98)))) ∧ (¬ (mI M (mR M (mR M a0 0) 3) (Int.toNat (mI M a0 2)) = 37) → (Q 2 M5))))))))))))))))) :
    Ci G y_RR_takeOperand (d + 1) [vr a0] M Q := by
  refine wm_open (y := y_RR_takeOperand) rfl (Nat.le_of_ble_eq_true rfl) (L := [vr a0, vd, vd, vd]) rfl ?_
  obtain ⟨h1, h⟩ := h
  obtain ⟨h2, h⟩ := h
  obtain ⟨h3, h⟩ := h
  obtain ⟨h4, h⟩ := h
  refine wm_aload_n d_RR_takeOperand_0 rfl rfl ?_
  refine gf_RR_40 rfl d_RR_takeOperand_1 h1 ?_
  refine gf_RR_69 rfl d_RR_takeOperand_4 h2 ?_
  refine wm_aload_n d_RR_takeOperand_7 rfl rfl ?_
  refine gf_RR_48 rfl d_RR_takeOperand_8 h1 ?_
  refine wm_iald d_RR_takeOperand_11 h3 h4 ?_
  refine wm_istore_n d_RR_takeOperand_12 rfl (by decide) (L' := [vr a0, vi (mI M (mR M (mR M a0 0) 3) (Int.toNat (mI M a0 2))), vd, vd]) rfl ?_
  refine wm_aload_n d_RR_takeOperand_13 rfl rfl ?_
  refine cf_RR_83 rfl d_RR_takeOperand_14 h1 (Nat.le_of_ble_eq_true rfl) (Ci.mono h (fun x6 M5 h => ?_))
  obtain ⟨h7, hOM5, h⟩ := h
  refine wm_istore_n d_RR_takeOperand_17 rfl (by decide) (L' := [vr a0, vi (mI M (mR M (mR M a0 0) 3) (Int.toNat (mI M a0 2))), vi x6, vd]) rfl ?_
  refine wm_iload_n d_RR_takeOperand_18 rfl rfl ?_
  by_cases c8 : mI M (mR M (mR M a0 0) 3) (Int.toNat (mI M a0 2)) = 2
  · replace h := h.1 c8
    refine wm_lookup (tgt := 137) (off := 118) d_RR_takeOperand_19 z_RR_takeOperand_19_s (hO _ _).1 (by rw [c8]; rfl) rfl ?_
    obtain ⟨h9, h⟩ := h
    refine wm_aload_n d_RR_takeOperand_137 rfl rfl ?_
    refine wm_aload_n d_RR_takeOperand_138 rfl rfl ?_
    refine gf_RR_48 rfl d_RR_takeOperand_139 h9 ?_
    refine cf_RR_79 rfl d_RR_takeOperand_142 h9 (Nat.le_of_ble_eq_true rfl) (Ci.mono h (fun x11 M10 h => ?_))
    obtain ⟨h12, hOM10, h⟩ := h
    refine wm_istore_n d_RR_takeOperand_145 rfl (by decide) (L' := [vr a0, vi (mI M (mR M (mR M a0 0) 3) (Int.toNat (mI M a0 2))), vi x6, vi x11]) rfl ?_
    refine wm_iload_n d_RR_takeOperand_146 rfl rfl ?_
    refine wm_iconst d_RR_takeOperand_147 ?_
    obtain ⟨s19, h⟩ := h
    have hE0 : ((x11 = (-1)) ∨ ((¬ (mI M10 a0 6 = 0)) ∧ (¬ (mI M10 (mR M10 a0 16) (Int.toNat x11) = 4)))) → mWm G y_RR_takeOperand (d + 1) 168 [vr a0, vi (mI M (mR M (mR M a0 0) 3) (Int.toNat (mI M a0 2))), vi x6, vi x11] [] M10 (fun r9 M9 => ∃ x9, r9 = some (vi x9) ∧ Q x9 M9) := by
      intro q20
      have h := h.1 q20
      obtain ⟨h21, h⟩ := h
      refine wm_aload_n d_RR_takeOperand_168 rfl rfl ?_
      refine wm_iconst d_RR_takeOperand_169 ?_
      refine wm_iload_n d_RR_takeOperand_170 rfl rfl ?_
      refine cf_RR_114 rfl d_RR_takeOperand_171 h21 (Nat.le_of_ble_eq_true rfl) (Cv.mono h (fun M22 h => ?_))
      obtain ⟨hOM22, h⟩ := h
      obtain ⟨h25, h⟩ := h
      refine wm_aload_n d_RR_takeOperand_174 rfl rfl ?_
      refine wm_iconst d_RR_takeOperand_175 ?_
      refine wm_iconst d_RR_takeOperand_176 ?_
      refine wm_iconst d_RR_takeOperand_177 ?_
      refine cf_RR_118 rfl d_RR_takeOperand_178 h25 (Nat.le_of_ble_eq_true rfl) (Ci.mono h (fun x27 M26 h => ?_))
      obtain ⟨h28, hOM26, h⟩ := h
      refine wm_ireturn d_RR_takeOperand_181 rfl rfl ?_
      exact ⟨_, rfl, h⟩
    have hE1 : ¬ ((x11 = (-1)) ∨ ((¬ (mI M10 a0 6 = 0)) ∧ (¬ (mI M10 (mR M10 a0 16) (Int.toNat x11) = 4)))) → mWm G y_RR_takeOperand (d + 1) 182 [vr a0, vi (mI M (mR M (mR M a0 0) 3) (Int.toNat (mI M a0 2))), vi x6, vi x11] [] M10 (fun r9 M9 => ∃ x9, r9 = some (vi x9) ∧ Q x9 M9) := by
      intro q29
      have h := h.2 q29
      obtain ⟨h30, h⟩ := h
      obtain ⟨h31, h⟩ := h
      obtain ⟨h32, h⟩ := h
      obtain ⟨h33, h⟩ := h
      obtain ⟨h34, h⟩ := h
      obtain ⟨h35, h⟩ := h
      obtain ⟨h36, h⟩ := h
      refine wm_aload_n d_RR_takeOperand_182 rfl rfl ?_
      refine wm_aload_n d_RR_takeOperand_183 rfl rfl ?_
      refine gf_RR_31 rfl d_RR_takeOperand_184 h30 ?_
      refine wm_iload_n d_RR_takeOperand_187 rfl rfl ?_
      refine wm_iald d_RR_takeOperand_188 h31 h32 ?_
      refine wm_aload_n d_RR_takeOperand_189 rfl rfl ?_
      refine gf_RR_34 rfl d_RR_takeOperand_190 h30 ?_
      refine wm_iload_n d_RR_takeOperand_193 rfl rfl ?_
      refine wm_iald d_RR_takeOperand_194 h33 h34 ?_
      refine wm_aload_n d_RR_takeOperand_195 rfl rfl ?_
      refine gf_RR_37 rfl d_RR_takeOperand_196 h30 ?_
      refine wm_iload_n d_RR_takeOperand_199 rfl rfl ?_
      refine wm_zald d_RR_takeOperand_200 h35 h36 ?_
      refine cf_RR_118 rfl d_RR_takeOperand_201 h30 (Nat.le_of_ble_eq_true rfl) (Ci.mono h (fun x38 M37 h => ?_))
      obtain ⟨h39, hOM37, h⟩ := h
      refine wm_ireturn d_RR_takeOperand_204 rfl rfl ?_
      exact ⟨_, rfl, h⟩
    clear h
    have s40 := s19
    refine wm_icmp_eq (tgt := 168) d_RR_takeOperand_148 rfl h12 ⟨by decide, by decide⟩ (fun c18 => ?_) (fun c18 => ?_)
    · exact hE0 (Or.inl c18)
    · have s40 := s40 c18
      obtain ⟨h13, s41⟩ := s40
      refine wm_aload_n d_RR_takeOperand_151 rfl rfl ?_
      refine gf_RR_122 rfl d_RR_takeOperand_152 h13 ?_
      refine wm_if_eq (tgt := 182) d_RR_takeOperand_155 rfl (hOM10 _ _).1 (fun c17 => ?_) (fun c17 => ?_)
      · exact hE1 (fun z42 => Or.elim z42 c18 (fun z43 => z43.1 c17))
      · have s41 := s41 c17
        obtain ⟨h14, h15⟩ := s41
        refine wm_aload_n d_RR_takeOperand_158 rfl rfl ?_
        refine gf_RR_31 rfl d_RR_takeOperand_159 h13 ?_
        refine wm_iload_n d_RR_takeOperand_162 rfl rfl ?_
        refine wm_iald d_RR_takeOperand_163 h14 h15 ?_
        refine wm_iconst d_RR_takeOperand_164 ?_
        refine wm_icmp_eq (tgt := 182) d_RR_takeOperand_165 rfl (hOM10 _ _).1 ⟨by decide, by decide⟩ (fun c16 => ?_) (fun c16 => ?_)
        · exact hE1 (fun z44 => Or.elim z44 c18 (fun z45 => (fun z46 => z46 c16) z45.2))
        · exact hE0 (Or.inr ⟨c17, c16⟩)
  · replace h := h.2 c8
    by_cases c47 : mI M (mR M (mR M a0 0) 3) (Int.toNat (mI M a0 2)) = 3
    · replace h := h.1 c47
      refine wm_lookup (tgt := 100) (off := 81) d_RR_takeOperand_19 z_RR_takeOperand_19_s (hO _ _).1 (by rw [c47]; rfl) rfl ?_
      obtain ⟨h48, h⟩ := h
      obtain ⟨h49, h⟩ := h
      obtain ⟨h50, h⟩ := h
      obtain ⟨h51, h⟩ := h
      refine wm_aload_n d_RR_takeOperand_100 rfl rfl ?_
      refine wm_iconst d_RR_takeOperand_101 ?_
      refine wm_aload_n d_RR_takeOperand_102 rfl rfl ?_
      refine gf_RR_40 rfl d_RR_takeOperand_103 h48 ?_
      refine gf_RR_72 rfl d_RR_takeOperand_106 h49 ?_
      refine wm_aload_n d_RR_takeOperand_109 rfl rfl ?_
      refine gf_RR_48 rfl d_RR_takeOperand_110 h48 ?_
      refine wm_iald d_RR_takeOperand_113 h50 h51 ?_
      refine wm_iconst d_RR_takeOperand_114 ?_
      refine cf_RR_118 rfl d_RR_takeOperand_115 h48 (Nat.le_of_ble_eq_true rfl) (Ci.mono h (fun x53 M52 h => ?_))
      obtain ⟨h54, hOM52, h⟩ := h
      refine wm_ireturn d_RR_takeOperand_118 rfl rfl ?_
      exact ⟨_, rfl, h⟩
    · replace h := h.2 c47
      by_cases c55 : mI M (mR M (mR M a0 0) 3) (Int.toNat (mI M a0 2)) = 13 ∨ mI M (mR M (mR M a0 0) 3) (Int.toNat (mI M a0 2)) = 14
      · replace h := h.1 c55
        refine wm_lookup (tgt := 119) (off := 100) d_RR_takeOperand_19 z_RR_takeOperand_19_s (hO _ _).1 (by rcases c55 with q9 | q9 <;> (rw [q9]; rfl)) rfl ?_
        refine wm_aload_n d_RR_takeOperand_119 rfl rfl ?_
        refine wm_iconst d_RR_takeOperand_120 ?_
        refine wm_iload_n d_RR_takeOperand_121 rfl rfl ?_
        refine wm_bipush d_RR_takeOperand_122 (by decide) ?_
        have hJ : ∀ v57 : Int, v57 = (if (mI M (mR M (mR M a0 0) 3) (Int.toNat (mI M a0 2)) = 13) then 1 else 0) → mWm G y_RR_takeOperand (d + 1) 132 [vd, vd, vd, vd] [vi v57, vi 3, vr a0] M5 (fun r9 M9 => ∃ x9, r9 = some (vi x9) ∧ Q x9 M9) := by
          intro v57 e59
          have h := h v57 e59
          have h60 : i32 v57 := by rw [e59]; (repeat' split) <;> first | exact ⟨by decide, by decide⟩ | exact ⟨by decide, by decide⟩
          have h61 : (v57 = 0 ∨ v57 = 1) := by rw [e59]; (repeat' split) <;> decide
          obtain ⟨h62, h⟩ := h
          refine wm_iconst d_RR_takeOperand_132 ?_
          refine cf_RR_118 rfl d_RR_takeOperand_133 h62 (Nat.le_of_ble_eq_true rfl) (Ci.mono h (fun x64 M63 h => ?_))
          obtain ⟨h65, hOM63, h⟩ := h
          refine wm_ireturn d_RR_takeOperand_136 rfl rfl ?_
          exact ⟨_, rfl, h⟩
        clear h
        refine wm_icmp_ne (tgt := 131) d_RR_takeOperand_124 rfl (hO _ _).1 ⟨by decide, by decide⟩ (fun c56 => ?_) (fun c56 => ?_)
        · refine wm_iconst d_RR_takeOperand_131 ?_
          refine wm_less (L' := [vd, vd, vd, vd]) ⟨Or.inl rfl, Or.inl rfl, Or.inl rfl, Or.inl rfl, trivial⟩ ?_
          exact hJ 0 (if_neg c56).symm
        · replace c56 := Classical.not_not.mp c56
          refine wm_iconst d_RR_takeOperand_127 ?_
          refine wm_goto (tgt := 132) d_RR_takeOperand_128 rfl ?_
          refine wm_less (L' := [vd, vd, vd, vd]) ⟨Or.inl rfl, Or.inl rfl, Or.inl rfl, Or.inl rfl, trivial⟩ ?_
          exact hJ 1 (if_pos c56).symm
      · replace h := h.2 c55
        by_cases c67 : mI M (mR M (mR M a0 0) 3) (Int.toNat (mI M a0 2)) = 15 ∨ mI M (mR M (mR M a0 0) 3) (Int.toNat (mI M a0 2)) = 16
        · replace h := h.1 c67
          refine wm_lookup (tgt := 240) (off := 221) d_RR_takeOperand_19 z_RR_takeOperand_19_s (hO _ _).1 (by rcases c67 with q9 | q9 <;> (rw [q9]; rfl)) rfl ?_
          obtain ⟨h68, h⟩ := h
          obtain ⟨h69, h⟩ := h
          obtain ⟨M70, e71⟩ : ∃ M70, M70 = mUI M5 a0 2 ((mI M5 a0 2) + 1) := ⟨_, rfl⟩
          replace h := h M70 e71
          obtain ⟨h72, h⟩ := h
          obtain ⟨h73, h⟩ := h
          obtain ⟨h74, h⟩ := h
          refine wm_aload_n d_RR_takeOperand_240 rfl rfl ?_
          refine wm_dup d_RR_takeOperand_241 rfl ?_
          refine gf_RR_48 rfl d_RR_takeOperand_242 h68 ?_
          refine wm_iconst d_RR_takeOperand_245 ?_
          refine wm_iadd d_RR_takeOperand_246 ?_
          have hOM70 : mOk M70 := by rw [e71]; exact mOk_UI hOM5 h69
          refine pf_RR_48 rfl d_RR_takeOperand_247 h68 h69 e71 ?_
          refine wm_aload_n d_RR_takeOperand_250 rfl rfl ?_
          refine gf_RR_40 rfl d_RR_takeOperand_251 (by rw [e71]; exact h68) ?_
          refine gf_RR_69 rfl d_RR_takeOperand_254 h72 ?_
          refine wm_aload_n d_RR_takeOperand_257 rfl rfl ?_
          refine gf_RR_48 rfl d_RR_takeOperand_258 (by rw [e71]; exact h68) ?_
          refine wm_iald d_RR_takeOperand_261 h73 h74 ?_
          refine wm_bipush d_RR_takeOperand_262 (by decide) ?_
          refine wm_icmp_ne (tgt := 276) d_RR_takeOperand_264 rfl (hOM70 _ _).1 ⟨by decide, by decide⟩ (fun c76 => ?_) (fun c76 => ?_)
          · replace h := h.2 c76
            refine wm_iconst d_RR_takeOperand_276 ?_
            refine wm_less (L' := [vd, vd, vd, vd]) ⟨Or.inl rfl, Or.inl rfl, Or.inl rfl, Or.inl rfl, trivial⟩ ?_
            exact h
          · replace c76 := Classical.not_not.mp c76
            replace h := h.1 c76
            refine wm_aload_n d_RR_takeOperand_267 rfl rfl ?_
            refine wm_iload_n d_RR_takeOperand_268 rfl rfl ?_
            refine wm_iload_n d_RR_takeOperand_269 rfl rfl ?_
            refine cf_RR_125 rfl d_RR_takeOperand_270 (by rw [e71]; exact h68) (Nat.le_of_ble_eq_true rfl) (Ci.mono h (fun x78 M77 h => ?_))
            obtain ⟨h79, hOM77, h⟩ := h
            refine wm_goto (tgt := 277) d_RR_takeOperand_273 rfl ?_
            refine wm_less (L' := [vd, vd, vd, vd]) ⟨Or.inl rfl, Or.inl rfl, Or.inl rfl, Or.inl rfl, trivial⟩ ?_
            exact h
        · replace h := h.2 c67
          by_cases c80 : mI M (mR M (mR M a0 0) 3) (Int.toNat (mI M a0 2)) = 26
          · replace h := h.1 c80
            refine wm_lookup (tgt := 213) (off := 194) d_RR_takeOperand_19 z_RR_takeOperand_19_s (hO _ _).1 (by rw [c80]; rfl) rfl ?_
            obtain ⟨h81, h⟩ := h
            refine wm_aload_n d_RR_takeOperand_213 rfl rfl ?_
            refine wm_bipush d_RR_takeOperand_214 (by decide) ?_
            refine wm_iload_n d_RR_takeOperand_216 rfl rfl ?_
            refine cf_RR_125 rfl d_RR_takeOperand_217 h81 (Nat.le_of_ble_eq_true rfl) (Ci.mono h (fun x83 M82 h => ?_))
            obtain ⟨h84, hOM82, h⟩ := h
            refine wm_ireturn d_RR_takeOperand_220 rfl rfl ?_
            exact ⟨_, rfl, h⟩
          · replace h := h.2 c80
            by_cases c85 : mI M (mR M (mR M a0 0) 3) (Int.toNat (mI M a0 2)) = 32
            · replace h := h.1 c85
              refine wm_lookup (tgt := 221) (off := 202) d_RR_takeOperand_19 z_RR_takeOperand_19_s (hO _ _).1 (by rw [c85]; rfl) rfl ?_
              obtain ⟨h86, h⟩ := h
              refine wm_aload_n d_RR_takeOperand_221 rfl rfl ?_
              refine cf_RR_129 rfl d_RR_takeOperand_222 h86 (Nat.le_of_ble_eq_true rfl) (Ci.mono h (fun x88 M87 h => ?_))
              obtain ⟨h89, hOM87, h⟩ := h
              refine wm_if_eq (tgt := 238) d_RR_takeOperand_225 rfl h89 (fun c91 => ?_) (fun c91 => ?_)
              · replace h := h.1 c91
                refine wm_iconst d_RR_takeOperand_238 ?_
                refine wm_less (L' := [vd, vd, vd, vd]) ⟨Or.inl rfl, Or.inl rfl, Or.inl rfl, Or.inl rfl, trivial⟩ ?_
                exact h
              · replace h := h.2 c91
                obtain ⟨h92, h⟩ := h
                refine wm_aload_n d_RR_takeOperand_228 rfl rfl ?_
                refine wm_bipush d_RR_takeOperand_229 (by decide) ?_
                refine wm_iload_n d_RR_takeOperand_231 rfl rfl ?_
                refine cf_RR_125 rfl d_RR_takeOperand_232 h92 (Nat.le_of_ble_eq_true rfl) (Ci.mono h (fun x94 M93 h => ?_))
                obtain ⟨h95, hOM93, h⟩ := h
                refine wm_goto (tgt := 239) d_RR_takeOperand_235 rfl ?_
                refine wm_less (L' := [vd, vd, vd, vd]) ⟨Or.inl rfl, Or.inl rfl, Or.inl rfl, Or.inl rfl, trivial⟩ ?_
                exact h
            · replace h := h.2 c85
              by_cases c96 : mI M (mR M (mR M a0 0) 3) (Int.toNat (mI M a0 2)) = 37
              · replace h := h.1 c96
                refine wm_lookup (tgt := 205) (off := 186) d_RR_takeOperand_19 z_RR_takeOperand_19_s (hO _ _).1 (by rw [c96]; rfl) rfl ?_
                obtain ⟨h97, h⟩ := h
                refine wm_aload_n d_RR_takeOperand_205 rfl rfl ?_
                refine wm_bipush d_RR_takeOperand_206 (by decide) ?_
                refine wm_iload_n d_RR_takeOperand_208 rfl rfl ?_
                refine cf_RR_125 rfl d_RR_takeOperand_209 h97 (Nat.le_of_ble_eq_true rfl) (Ci.mono h (fun x99 M98 h => ?_))
                obtain ⟨h100, hOM98, h⟩ := h
                refine wm_ireturn d_RR_takeOperand_212 rfl rfl ?_
                exact ⟨_, rfl, h⟩
              · replace h := h.2 c96
                refine wm_lookup (tgt := 278) (off := 259) d_RR_takeOperand_19 z_RR_takeOperand_19_s (hO _ _).1 (by simp [Op.lookupswitch.offset]; repeat rw [if_neg (by omega)]) rfl ?_
                refine wm_iconst d_RR_takeOperand_278 ?_
                refine wm_ireturn d_RR_takeOperand_279 rfl rfl ?_
                exact ⟨_, rfl, h⟩
theorem k_RR_takeOperand_239 {G : mG} {d : Nat} {k0 : Int} {M : mM} {Q : Int → mM → Prop} (hO : mOk M) (hi_k0 : i32 k0)
    (h : Q k0 M) :
    h_RR_takeOperand_239 G d k0 M Q := by
  unfold h_RR_takeOperand_239
  refine wm_ireturn d_RR_takeOperand_239 rfl rfl ?_
  exact ⟨_, rfl, h⟩
theorem k_RR_takeOperand_277 {G : mG} {d : Nat} {k0 : Int} {M : mM} {Q : Int → mM → Prop} (hO : mOk M) (hi_k0 : i32 k0)
    (h : Q k0 M) :
    h_RR_takeOperand_277 G d k0 M Q := by
  unfold h_RR_takeOperand_277
  refine wm_ireturn d_RR_takeOperand_277 rfl rfl ?_
  exact ⟨_, rfl, h⟩
theorem d_RR_mayDeny_0 : decode y_RR_mayDeny.2.1 0 = .ok (.aload_n 0, 1) := dc9_42 (by decide +kernel)
theorem d_RR_mayDeny_1 : decode y_RR_mayDeny.2.1 1 = .ok (.getfield 87, 3) := dc9_180 (by decide +kernel)
theorem d_RR_mayDeny_4 : decode y_RR_mayDeny.2.1 4 = .ok (.ifCond .ne 5, 3) := dc9_154 (by decide +kernel)
theorem d_RR_mayDeny_7 : decode y_RR_mayDeny.2.1 7 = .ok (.iconst 1, 1) := dc9_4 (by decide +kernel)
theorem d_RR_mayDeny_8 : decode y_RR_mayDeny.2.1 8 = .ok (.ireturn, 1) := dc9_172 (by decide +kernel)
theorem d_RR_mayDeny_9 : decode y_RR_mayDeny.2.1 9 = .ok (.aload_n 0, 1) := dc9_42 (by decide +kernel)
theorem d_RR_mayDeny_10 : decode y_RR_mayDeny.2.1 10 = .ok (.getfield 11, 3) := dc9_180 (by decide +kernel)
theorem d_RR_mayDeny_13 : decode y_RR_mayDeny.2.1 13 = .ok (.aload_n 0, 1) := dc9_42 (by decide +kernel)
theorem d_RR_mayDeny_14 : decode y_RR_mayDeny.2.1 14 = .ok (.getfield 87, 3) := dc9_180 (by decide +kernel)
theorem d_RR_mayDeny_17 : decode y_RR_mayDeny.2.1 17 = .ok (.iconst 1, 1) := dc9_4 (by decide +kernel)
theorem d_RR_mayDeny_18 : decode y_RR_mayDeny.2.1 18 = .ok (.isub, 1) := dc9_100 (by decide +kernel)
theorem d_RR_mayDeny_19 : decode y_RR_mayDeny.2.1 19 = .ok (.iaload, 1) := dc9_46 (by decide +kernel)
theorem d_RR_mayDeny_20 : decode y_RR_mayDeny.2.1 20 = .ok (.istore_n 1, 1) := dc9_60 (by decide +kernel)
theorem d_RR_mayDeny_21 : decode y_RR_mayDeny.2.1 21 = .ok (.iload_n 1, 1) := dc9_27 (by decide +kernel)
theorem d_RR_mayDeny_22 : decode y_RR_mayDeny.2.1 22 = .ok (.invokestatic 132, 3) := dc9_184 (by decide +kernel)
theorem d_RR_mayDeny_25 : decode y_RR_mayDeny.2.1 25 = .ok (.iconst 4, 1) := dc9_7 (by decide +kernel)
theorem d_RR_mayDeny_26 : decode y_RR_mayDeny.2.1 26 = .ok (.if_icmp .ge 13, 3) := dc9_162 (by decide +kernel)
theorem d_RR_mayDeny_39 : decode y_RR_mayDeny.2.1 39 = .ok (.iconst 0, 1) := dc9_3 (by decide +kernel)
theorem d_RR_mayDeny_29 : decode y_RR_mayDeny.2.1 29 = .ok (.iload_n 1, 1) := dc9_27 (by decide +kernel)
theorem d_RR_mayDeny_30 : decode y_RR_mayDeny.2.1 30 = .ok (.bipush 40, 2) := dc9_16 (by decide +kernel)
theorem d_RR_mayDeny_32 : decode y_RR_mayDeny.2.1 32 = .ok (.if_icmp .eq 7, 3) := dc9_159 (by decide +kernel)
theorem d_RR_mayDeny_35 : decode y_RR_mayDeny.2.1 35 = .ok (.iconst 1, 1) := dc9_4 (by decide +kernel)
theorem d_RR_mayDeny_36 : decode y_RR_mayDeny.2.1 36 = .ok (.goto 4, 3) := dc9_167 (by decide +kernel)
theorem d_RR_mayDeny_40 : decode y_RR_mayDeny.2.1 40 = .ok (.ireturn, 1) := dc9_172 (by decide +kernel)
theorem k_RR_mayDeny {G : mG} {d : Nat} {a0 : Nat} {M : mM} {Q : Int → mM → Prop} (hO : mOk M)
    (h : mK M a0 = 4 ∧ ((mI M a0 12 = 0) → (Q 1 M)) ∧ (¬ (mI M a0 12 = 0) → (mK M (mR M a0 8) = 30 ∧ ((0 : Int) ≤ (mI M a0 12) - 1 ∧ (mI M a0 12) - 1 < (mN M (mR M a0 8) : Int)) ∧ Ci G y_RR_level d [vi (mI M (mR M a0 8) (Int.toNat ((mI M a0 12) - 1)))] M (fun x7 M6 => i32 x7 ∧ mOk M6 ∧ (∀ v11 : Int, v11 = (if ((4 ≤ x7) ∨ (mI M (mR M a0 8) (Int.toNat ((mI M a0 12) - 1)) = 40)) then 0 else 1) → Q v11 M6))))) :
    Ci G y_RR_mayDeny (d + 1) [vr a0] M Q := by
  refine wm_open (y := y_RR_mayDeny) rfl (Nat.le_of_ble_eq_true rfl) (L := [vr a0, vd]) rfl ?_
  obtain ⟨h1, h⟩ := h
  refine wm_aload_n d_RR_mayDeny_0 rfl rfl ?_
  refine gf_RR_87 rfl d_RR_mayDeny_1 h1 ?_
  refine wm_if_ne (tgt := 9) d_RR_mayDeny_4 rfl (hO _ _).1 (fun c3 => ?_) (fun c3 => ?_)
  · replace h := h.2 c3
    obtain ⟨h4, h⟩ := h
    obtain ⟨h5, h⟩ := h
    refine wm_aload_n d_RR_mayDeny_9 rfl rfl ?_
    refine gf_RR_11 rfl d_RR_mayDeny_10 h1 ?_
    refine wm_aload_n d_RR_mayDeny_13 rfl rfl ?_
    refine gf_RR_87 rfl d_RR_mayDeny_14 h1 ?_
    refine wm_iconst d_RR_mayDeny_17 ?_
    refine wm_isub d_RR_mayDeny_18 ?_
    refine wm_iald d_RR_mayDeny_19 h4 h5 ?_
    refine wm_istore_n d_RR_mayDeny_20 rfl (by decide) (L' := [vr a0, vi (mI M (mR M a0 8) (Int.toNat ((mI M a0 12) - 1)))]) rfl ?_
    refine wm_iload_n d_RR_mayDeny_21 rfl rfl ?_
    refine cf_RR_132 rfl d_RR_mayDeny_22 (Nat.le_of_ble_eq_true rfl) (Ci.mono h (fun x7 M6 h => ?_))
    obtain ⟨h8, hOM6, h⟩ := h
    refine wm_iconst d_RR_mayDeny_25 ?_
    have hJ : ∀ v11 : Int, v11 = (if ((4 ≤ x7) ∨ (mI M (mR M a0 8) (Int.toNat ((mI M a0 12) - 1)) = 40)) then 0 else 1) → mWm G y_RR_mayDeny (d + 1) 40 [vd, vd] [vi v11] M6 (fun r9 M9 => ∃ x9, r9 = some (vi x9) ∧ Q x9 M9) := by
      intro v11 e13
      have h := h v11 e13
      have h14 : i32 v11 := by rw [e13]; (repeat' split) <;> first | exact ⟨by decide, by decide⟩ | exact ⟨by decide, by decide⟩
      have h15 : (v11 = 0 ∨ v11 = 1) := by rw [e13]; (repeat' split) <;> decide
      refine wm_ireturn d_RR_mayDeny_40 rfl (m_nb h15) ?_
      exact ⟨_, rfl, h⟩
    clear h
    refine wm_icmp_ge (tgt := 39) d_RR_mayDeny_26 rfl h8 ⟨by decide, by decide⟩ (fun c9 => ?_) (fun c9 => ?_)
    · refine wm_iconst d_RR_mayDeny_39 ?_
      refine wm_less (L' := [vd, vd]) ⟨Or.inl rfl, Or.inl rfl, trivial⟩ ?_
      exact hJ 0 (if_pos (Or.inl c9)).symm
    · refine wm_iload_n d_RR_mayDeny_29 rfl rfl ?_
      refine wm_bipush d_RR_mayDeny_30 (by decide) ?_
      refine wm_icmp_eq (tgt := 39) d_RR_mayDeny_32 rfl (hO _ _).1 ⟨by decide, by decide⟩ (fun c10 => ?_) (fun c10 => ?_)
      · refine wm_iconst d_RR_mayDeny_39 ?_
        refine wm_less (L' := [vd, vd]) ⟨Or.inl rfl, Or.inl rfl, trivial⟩ ?_
        exact hJ 0 (if_pos (Or.inr c10)).symm
      · refine wm_iconst d_RR_mayDeny_35 ?_
        refine wm_goto (tgt := 40) d_RR_mayDeny_36 rfl ?_
        refine wm_less (L' := [vd, vd]) ⟨Or.inl rfl, Or.inl rfl, trivial⟩ ?_
        exact hJ 1 (if_neg (fun z16 => Or.elim z16 c9 c10)).symm
  · replace c3 := Classical.not_not.mp c3
    replace h := h.1 c3
    refine wm_iconst d_RR_mayDeny_7 ?_
    refine wm_ireturn d_RR_mayDeny_8 rfl (m_nb (by decide)) ?_
    exact ⟨_, rfl, h⟩
theorem d_RR_takeValue_0 : decode y_RR_takeValue.2.1 0 = .ok (.aload_n 0, 1) := dc9_42 (by decide +kernel)
theorem d_RR_takeValue_1 : decode y_RR_takeValue.2.1 1 = .ok (.getfield 44, 3) := dc9_180 (by decide +kernel)
theorem d_RR_takeValue_4 : decode y_RR_takeValue.2.1 4 = .ok (.iload_n 1, 1) := dc9_27 (by decide +kernel)
theorem d_RR_takeValue_5 : decode y_RR_takeValue.2.1 5 = .ok (.iload_n 2, 1) := dc9_28 (by decide +kernel)
theorem d_RR_takeValue_6 : decode y_RR_takeValue.2.1 6 = .ok (.invokevirtual 135, 3) := dc9_182 (by decide +kernel)
theorem d_RR_takeValue_9 : decode y_RR_takeValue.2.1 9 = .ok (.pop, 1) := dc9_87 (by decide +kernel)
theorem d_RR_takeValue_10 : decode y_RR_takeValue.2.1 10 = .ok (.aload_n 0, 1) := dc9_42 (by decide +kernel)
theorem d_RR_takeValue_11 : decode y_RR_takeValue.2.1 11 = .ok (.iload_n 3, 1) := dc9_29 (by decide +kernel)
theorem d_RR_takeValue_12 : decode y_RR_takeValue.2.1 12 = .ok (.invokevirtual 140, 3) := dc9_182 (by decide +kernel)
theorem d_RR_takeValue_15 : decode y_RR_takeValue.2.1 15 = .ok (.aload_n 0, 1) := dc9_42 (by decide +kernel)
theorem d_RR_takeValue_16 : decode y_RR_takeValue.2.1 16 = .ok (.iconst 0, 1) := dc9_3 (by decide +kernel)
theorem d_RR_takeValue_17 : decode y_RR_takeValue.2.1 17 = .ok (.putfield 93, 3) := dc9_181 (by decide +kernel)
theorem d_RR_takeValue_20 : decode y_RR_takeValue.2.1 20 = .ok (.aload_n 0, 1) := dc9_42 (by decide +kernel)
theorem d_RR_takeValue_21 : decode y_RR_takeValue.2.1 21 = .ok (.dup, 1) := dc9_89 (by decide +kernel)
theorem d_RR_takeValue_22 : decode y_RR_takeValue.2.1 22 = .ok (.getfield 48, 3) := dc9_180 (by decide +kernel)
theorem d_RR_takeValue_25 : decode y_RR_takeValue.2.1 25 = .ok (.iconst 1, 1) := dc9_4 (by decide +kernel)
theorem d_RR_takeValue_26 : decode y_RR_takeValue.2.1 26 = .ok (.iadd, 1) := dc9_96 (by decide +kernel)
theorem d_RR_takeValue_27 : decode y_RR_takeValue.2.1 27 = .ok (.putfield 48, 3) := dc9_181 (by decide +kernel)
theorem d_RR_takeValue_30 : decode y_RR_takeValue.2.1 30 = .ok (.iconst 0, 1) := dc9_3 (by decide +kernel)
theorem d_RR_takeValue_31 : decode y_RR_takeValue.2.1 31 = .ok (.ireturn, 1) := dc9_172 (by decide +kernel)
theorem k_RR_takeValue {G : mG} {d : Nat} {a0 : Nat} {l1 : Int} {l2 : Int} {l3 : Int} {M : mM} {Q : Int → mM → Prop} (hO : mOk M) (hi_l1 : i32 l1) (hi_l2 : i32 l2) (hi_l3 : i32 l3)
    (h : mK M a0 = 4 ∧ mK M (mR M a0 1) = 6 ∧ Ci G y_Pr_add d [vr (mR M a0 1), vi l1, vi l2] M (fun x4 M3 => i32 x4 ∧ mOk M3 ∧ (mK M3 a0 = 4 ∧ Cv G y_RR_pushKind d [vr a0, vi l3] M3 (fun M7 => mOk M7 ∧ (mK M7 a0 = 4 ∧ ∀ M11, M11 = mUI M7 a0 7 0 → i32 ((mI M11 a0 2) + 1) ∧ ∀ M14, M14 = mUI M11 a0 2 ((mI M11 a0 2) + 1) → Q 0 M14))))) :
    Ci G y_RR_takeValue (d + 1) [vr a0, vi l1, vi l2, vi l3] M Q := by
  refine wm_open (y := y_RR_takeValue) rfl (Nat.le_of_ble_eq_true rfl) (L := [vr a0, vi l1, vi l2, vi l3]) rfl ?_
  obtain ⟨h1, h⟩ := h
  obtain ⟨h2, h⟩ := h
  refine wm_aload_n d_RR_takeValue_0 rfl rfl ?_
  refine gf_RR_44 rfl d_RR_takeValue_1 h1 ?_
  refine wm_iload_n d_RR_takeValue_4 rfl rfl ?_
  refine wm_iload_n d_RR_takeValue_5 rfl rfl ?_
  refine cf_RR_135 rfl d_RR_takeValue_6 h2 (Nat.le_of_ble_eq_true rfl) (Ci.mono h (fun x4 M3 h => ?_))
  obtain ⟨h5, hOM3, h⟩ := h
  obtain ⟨h6, h⟩ := h
  refine wm_pop d_RR_takeValue_9 rfl ?_
  refine wm_aload_n d_RR_takeValue_10 rfl rfl ?_
  refine wm_iload_n d_RR_takeValue_11 rfl rfl ?_
  refine cf_RR_140 rfl d_RR_takeValue_12 h6 (Nat.le_of_ble_eq_true rfl) (Cv.mono h (fun M7 h => ?_))
  obtain ⟨hOM7, h⟩ := h
  obtain ⟨h10, h⟩ := h
  obtain ⟨M11, e12⟩ : ∃ M11, M11 = mUI M7 a0 7 0 := ⟨_, rfl⟩
  replace h := h M11 e12
  obtain ⟨h13, h⟩ := h
  obtain ⟨M14, e15⟩ : ∃ M14, M14 = mUI M11 a0 2 ((mI M11 a0 2) + 1) := ⟨_, rfl⟩
  replace h := h M14 e15
  refine wm_aload_n d_RR_takeValue_15 rfl rfl ?_
  refine wm_iconst d_RR_takeValue_16 ?_
  have hOM11 : mOk M11 := by rw [e12]; exact mOk_UI hOM7 (m_b32 (by decide))
  refine pf_RR_93 rfl d_RR_takeValue_17 h10 (by decide) e12 ?_
  refine wm_aload_n d_RR_takeValue_20 rfl rfl ?_
  refine wm_dup d_RR_takeValue_21 rfl ?_
  refine gf_RR_48 rfl d_RR_takeValue_22 (by rw [e12]; exact h10) ?_
  refine wm_iconst d_RR_takeValue_25 ?_
  refine wm_iadd d_RR_takeValue_26 ?_
  have hOM14 : mOk M14 := by rw [e15]; exact mOk_UI hOM11 h13
  refine pf_RR_48 rfl d_RR_takeValue_27 (by rw [e12]; exact h10) h13 e15 ?_
  refine wm_iconst d_RR_takeValue_30 ?_
  refine wm_ireturn d_RR_takeValue_31 rfl rfl ?_
  exact ⟨_, rfl, h⟩
theorem d_RR_pushKind_0 : decode y_RR_pushKind.2.1 0 = .ok (.aload_n 0, 1) := dc9_42 (by decide +kernel)
theorem d_RR_pushKind_1 : decode y_RR_pushKind.2.1 1 = .ok (.getfield 90, 3) := dc9_180 (by decide +kernel)
theorem d_RR_pushKind_4 : decode y_RR_pushKind.2.1 4 = .ok (.sipush 336, 3) := dc9_17 (by decide +kernel)
theorem d_RR_pushKind_7 : decode y_RR_pushKind.2.1 7 = .ok (.if_icmp .ge 20, 3) := dc9_162 (by decide +kernel)
theorem d_RR_pushKind_10 : decode y_RR_pushKind.2.1 10 = .ok (.aload_n 0, 1) := dc9_42 (by decide +kernel)
theorem d_RR_pushKind_11 : decode y_RR_pushKind.2.1 11 = .ok (.getfield 24, 3) := dc9_180 (by decide +kernel)
theorem d_RR_pushKind_14 : decode y_RR_pushKind.2.1 14 = .ok (.aload_n 0, 1) := dc9_42 (by decide +kernel)
theorem d_RR_pushKind_15 : decode y_RR_pushKind.2.1 15 = .ok (.dup, 1) := dc9_89 (by decide +kernel)
theorem d_RR_pushKind_16 : decode y_RR_pushKind.2.1 16 = .ok (.getfield 90, 3) := dc9_180 (by decide +kernel)
theorem d_RR_pushKind_19 : decode y_RR_pushKind.2.1 19 = .ok (.dup_x1, 1) := dc9_90 (by decide +kernel)
theorem d_RR_pushKind_20 : decode y_RR_pushKind.2.1 20 = .ok (.iconst 1, 1) := dc9_4 (by decide +kernel)
theorem d_RR_pushKind_21 : decode y_RR_pushKind.2.1 21 = .ok (.iadd, 1) := dc9_96 (by decide +kernel)
theorem d_RR_pushKind_22 : decode y_RR_pushKind.2.1 22 = .ok (.putfield 90, 3) := dc9_181 (by decide +kernel)
theorem d_RR_pushKind_25 : decode y_RR_pushKind.2.1 25 = .ok (.iload_n 1, 1) := dc9_27 (by decide +kernel)
theorem d_RR_pushKind_26 : decode y_RR_pushKind.2.1 26 = .ok (.bastore, 1) := dc9_84 (by decide +kernel)
theorem d_RR_pushKind_27 : decode y_RR_pushKind.2.1 27 = .ok (.return_, 1) := dc9_177 (by decide +kernel)
theorem k_RR_pushKind {G : mG} {d : Nat} {a0 : Nat} {l1 : Int} {M : mM} {Q : mM → Prop} (hO : mOk M) (hi_l1 : i32 l1)
    (h : mK M a0 = 4 ∧ ((336 ≤ mI M a0 14) → (Q M)) ∧ (¬ (336 ≤ mI M a0 14) → (i32 ((mI M a0 14) + 1) ∧ ∀ M10, M10 = mUI M a0 14 ((mI M a0 14) + 1) → mK M10 (mR M a0 13) = 31 ∧ ((0 : Int) ≤ mI M a0 14 ∧ mI M a0 14 < (mN M10 (mR M a0 13) : Int)) ∧ (l1 = 0 ∨ l1 = 1) ∧ ∀ M15, M15 = mUI M10 (mR M a0 13) (Int.toNat (mI M a0 14)) l1 → Q M15))) :
    Cv G y_RR_pushKind d [vr a0, vi l1] M Q := by
  refine wm_open (y := y_RR_pushKind) rfl (Nat.le_of_ble_eq_true rfl) (L := [vr a0, vi l1]) rfl ?_
  obtain ⟨h1, h⟩ := h
  refine wm_aload_n d_RR_pushKind_0 rfl rfl ?_
  refine gf_RR_90 rfl d_RR_pushKind_1 h1 ?_
  refine wm_sipush d_RR_pushKind_4 (by decide) ?_
  refine wm_icmp_ge (tgt := 27) d_RR_pushKind_7 rfl (hO _ _).1 ⟨by decide, by decide⟩ (fun c8 => ?_) (fun c8 => ?_)
  · replace h := h.1 c8
    refine wm_return d_RR_pushKind_27 rfl ?_
    exact ⟨rfl, h⟩
  · replace h := h.2 c8
    obtain ⟨h9, h⟩ := h
    obtain ⟨M10, e11⟩ : ∃ M10, M10 = mUI M a0 14 ((mI M a0 14) + 1) := ⟨_, rfl⟩
    replace h := h M10 e11
    obtain ⟨h12, h⟩ := h
    obtain ⟨h13, h⟩ := h
    obtain ⟨h14, h⟩ := h
    obtain ⟨M15, e16⟩ : ∃ M15, M15 = mUI M10 (mR M a0 13) (Int.toNat (mI M a0 14)) l1 := ⟨_, rfl⟩
    replace h := h M15 e16
    refine wm_aload_n d_RR_pushKind_10 rfl rfl ?_
    refine gf_RR_24 rfl d_RR_pushKind_11 h1 ?_
    refine wm_aload_n d_RR_pushKind_14 rfl rfl ?_
    refine wm_dup d_RR_pushKind_15 rfl ?_
    refine gf_RR_90 rfl d_RR_pushKind_16 h1 ?_
    refine wm_dup_x1 d_RR_pushKind_19 rfl rfl ?_
    refine wm_iconst d_RR_pushKind_20 ?_
    refine wm_iadd d_RR_pushKind_21 ?_
    have hOM10 : mOk M10 := by rw [e11]; exact mOk_UI hO h9
    refine pf_RR_90 rfl d_RR_pushKind_22 h1 h9 e11 ?_
    refine wm_iload_n d_RR_pushKind_25 rfl rfl ?_
    have hOM15 : mOk M15 := by rw [e16]; exact mOk_UI hOM10 (m_b32 h14)
    refine wm_zastE d_RR_pushKind_26 h12 h13 h14 e16 ?_
    refine wm_return d_RR_pushKind_27 rfl ?_
    exact ⟨rfl, h⟩
theorem d_RR_popKind_0 : decode y_RR_popKind.2.1 0 = .ok (.aload_n 0, 1) := dc9_42 (by decide +kernel)
theorem d_RR_popKind_1 : decode y_RR_popKind.2.1 1 = .ok (.getfield 90, 3) := dc9_180 (by decide +kernel)
theorem d_RR_popKind_4 : decode y_RR_popKind.2.1 4 = .ok (.ifCond .le 26, 3) := dc9_158 (by decide +kernel)
theorem d_RR_popKind_30 : decode y_RR_popKind.2.1 30 = .ok (.iconst 0, 1) := dc9_3 (by decide +kernel)
theorem d_RR_popKind_7 : decode y_RR_popKind.2.1 7 = .ok (.aload_n 0, 1) := dc9_42 (by decide +kernel)
theorem d_RR_popKind_8 : decode y_RR_popKind.2.1 8 = .ok (.getfield 24, 3) := dc9_180 (by decide +kernel)
theorem d_RR_popKind_11 : decode y_RR_popKind.2.1 11 = .ok (.aload_n 0, 1) := dc9_42 (by decide +kernel)
theorem d_RR_popKind_12 : decode y_RR_popKind.2.1 12 = .ok (.dup, 1) := dc9_89 (by decide +kernel)
theorem d_RR_popKind_13 : decode y_RR_popKind.2.1 13 = .ok (.getfield 90, 3) := dc9_180 (by decide +kernel)
theorem d_RR_popKind_16 : decode y_RR_popKind.2.1 16 = .ok (.iconst 1, 1) := dc9_4 (by decide +kernel)
theorem d_RR_popKind_17 : decode y_RR_popKind.2.1 17 = .ok (.isub, 1) := dc9_100 (by decide +kernel)
theorem d_RR_popKind_18 : decode y_RR_popKind.2.1 18 = .ok (.dup_x1, 1) := dc9_90 (by decide +kernel)
theorem d_RR_popKind_19 : decode y_RR_popKind.2.1 19 = .ok (.putfield 90, 3) := dc9_181 (by decide +kernel)
theorem d_RR_popKind_22 : decode y_RR_popKind.2.1 22 = .ok (.baload, 1) := dc9_51 (by decide +kernel)
theorem d_RR_popKind_23 : decode y_RR_popKind.2.1 23 = .ok (.ifCond .eq 7, 3) := dc9_153 (by decide +kernel)
theorem d_RR_popKind_26 : decode y_RR_popKind.2.1 26 = .ok (.iconst 1, 1) := dc9_4 (by decide +kernel)
theorem d_RR_popKind_27 : decode y_RR_popKind.2.1 27 = .ok (.goto 4, 3) := dc9_167 (by decide +kernel)
theorem d_RR_popKind_31 : decode y_RR_popKind.2.1 31 = .ok (.ireturn, 1) := dc9_172 (by decide +kernel)
theorem k_RR_popKind {G : mG} {d : Nat} {a0 : Nat} {M : mM} {Q : Int → mM → Prop} (hO : mOk M)
    (h : mK M a0 = 4 ∧ (¬ (mI M a0 14 ≤ 0) → (i32 ((mI M a0 14) - 1) ∧ mK (mUI M a0 14 ((mI M a0 14) - 1)) (mR M a0 13) = 31 ∧ ((0 : Int) ≤ (mI M a0 14) - 1 ∧ (mI M a0 14) - 1 < (mN (mUI M a0 14 ((mI M a0 14) - 1)) (mR M a0 13) : Int)) ∧ i32 (mI (mUI M a0 14 ((mI M a0 14) - 1)) (mR M a0 13) (Int.toNat ((mI M a0 14) - 1))))) ∧ ∀ v8 : Int, v8 = (if ((mI M a0 14 ≤ 0) ∨ (mI (mUI M a0 14 ((mI M a0 14) - 1)) (mR M a0 13) (Int.toNat ((mI M a0 14) - 1)) = 0)) then 0 else 1) → ∀ M9 : mM, M9 = (if (mI M a0 14 ≤ 0) then M else (mUI M a0 14 ((mI M a0 14) - 1))) → mOk M9 ∧ Q v8 M9) :
    Ci G y_RR_popKind d [vr a0] M Q := by
  refine wm_open (y := y_RR_popKind) rfl (Nat.le_of_ble_eq_true rfl) (L := [vr a0]) rfl ?_
  obtain ⟨h1, h⟩ := h
  refine wm_aload_n d_RR_popKind_0 rfl rfl ?_
  refine gf_RR_90 rfl d_RR_popKind_1 h1 ?_
  obtain ⟨s10, h⟩ := h
  have hJ : ∀ v8 : Int, v8 = (if ((mI M a0 14 ≤ 0) ∨ (mI (mUI M a0 14 ((mI M a0 14) - 1)) (mR M a0 13) (Int.toNat ((mI M a0 14) - 1)) = 0)) then 0 else 1) → ∀ M9 : mM, M9 = (if (mI M a0 14 ≤ 0) then M else (mUI M a0 14 ((mI M a0 14) - 1))) → mWm G y_RR_popKind d 31 [vd] [vi v8] M9 (fun r9 M9 => ∃ x9, r9 = some (vi x9) ∧ Q x9 M9) := by
    intro v8 e11
    intro M9 e12
    have h := h v8 e11 M9 e12
    have h13 : i32 v8 := by rw [e11]; (repeat' split) <;> first | exact ⟨by decide, by decide⟩ | exact ⟨by decide, by decide⟩
    have h14 : (v8 = 0 ∨ v8 = 1) := by rw [e11]; (repeat' split) <;> decide
    have h15 : mK M9 = mK M := by rw [e12]; (repeat' split) <;> rfl
    obtain ⟨hOM9, h⟩ := h
    refine wm_ireturn d_RR_popKind_31 rfl (m_nb h14) ?_
    exact ⟨_, rfl, h⟩
  clear h
  have s16 := s10
  refine wm_if_le (tgt := 30) d_RR_popKind_4 rfl (hO _ _).1 (fun c2 => ?_) (fun c2 => ?_)
  · refine wm_iconst d_RR_popKind_30 ?_
    refine wm_less (L' := [vd]) ⟨Or.inl rfl, trivial⟩ ?_
    exact hJ 0 (if_pos (Or.inl c2)).symm M (if_pos c2).symm
  · have s16 := s16 c2
    obtain ⟨h3, h4, h5, h6⟩ := s16
    refine wm_aload_n d_RR_popKind_7 rfl rfl ?_
    refine gf_RR_24 rfl d_RR_popKind_8 h1 ?_
    refine wm_aload_n d_RR_popKind_11 rfl rfl ?_
    refine wm_dup d_RR_popKind_12 rfl ?_
    refine gf_RR_90 rfl d_RR_popKind_13 h1 ?_
    refine wm_iconst d_RR_popKind_16 ?_
    refine wm_isub d_RR_popKind_17 ?_
    refine wm_dup_x1 d_RR_popKind_18 rfl rfl ?_
    refine pf_RR_90 rfl d_RR_popKind_19 h1 h3 rfl ?_
    refine wm_zald d_RR_popKind_22 h4 h5 ?_
    refine wm_if_eq (tgt := 30) d_RR_popKind_23 rfl h6 (fun c7 => ?_) (fun c7 => ?_)
    · refine wm_iconst d_RR_popKind_30 ?_
      refine wm_less (L' := [vd]) ⟨Or.inl rfl, trivial⟩ ?_
      exact hJ 0 (if_pos (Or.inr c7)).symm (mUI M a0 14 ((mI M a0 14) - 1)) (if_neg c2).symm
    · refine wm_iconst d_RR_popKind_26 ?_
      refine wm_goto (tgt := 31) d_RR_popKind_27 rfl ?_
      refine wm_less (L' := [vd]) ⟨Or.inl rfl, trivial⟩ ?_
      exact hJ 1 (if_neg (fun z18 => Or.elim z18 c2 c7)).symm (mUI M a0 14 ((mI M a0 14) - 1)) (if_neg c2).symm
theorem d_RR_takeLevel_0 : decode y_RR_takeLevel.2.1 0 = .ok (.aload_n 0, 1) := dc9_42 (by decide +kernel)
theorem d_RR_takeLevel_1 : decode y_RR_takeLevel.2.1 1 = .ok (.getfield 58, 3) := dc9_180 (by decide +kernel)
theorem d_RR_takeLevel_4 : decode y_RR_takeLevel.2.1 4 = .ok (.bipush 40, 2) := dc9_16 (by decide +kernel)
theorem d_RR_takeLevel_6 : decode y_RR_takeLevel.2.1 6 = .ok (.if_icmp .lt 5, 3) := dc9_161 (by decide +kernel)
theorem d_RR_takeLevel_11 : decode y_RR_takeLevel.2.1 11 = .ok (.aload_n 0, 1) := dc9_42 (by decide +kernel)
theorem d_RR_takeLevel_12 : decode y_RR_takeLevel.2.1 12 = .ok (.dup, 1) := dc9_89 (by decide +kernel)
theorem d_RR_takeLevel_13 : decode y_RR_takeLevel.2.1 13 = .ok (.getfield 58, 3) := dc9_180 (by decide +kernel)
theorem d_RR_takeLevel_16 : decode y_RR_takeLevel.2.1 16 = .ok (.iconst 1, 1) := dc9_4 (by decide +kernel)
theorem d_RR_takeLevel_17 : decode y_RR_takeLevel.2.1 17 = .ok (.iadd, 1) := dc9_96 (by decide +kernel)
theorem d_RR_takeLevel_18 : decode y_RR_takeLevel.2.1 18 = .ok (.putfield 58, 3) := dc9_181 (by decide +kernel)
theorem d_RR_takeLevel_21 : decode y_RR_takeLevel.2.1 21 = .ok (.aload_n 0, 1) := dc9_42 (by decide +kernel)
theorem d_RR_takeLevel_22 : decode y_RR_takeLevel.2.1 22 = .ok (.iload_n 1, 1) := dc9_27 (by decide +kernel)
theorem d_RR_takeLevel_23 : decode y_RR_takeLevel.2.1 23 = .ok (.iload_n 2, 1) := dc9_28 (by decide +kernel)
theorem d_RR_takeLevel_24 : decode y_RR_takeLevel.2.1 24 = .ok (.iconst (-1), 1) := dc9_2 (by decide +kernel)
theorem d_RR_takeLevel_9 : decode y_RR_takeLevel.2.1 9 = .ok (.iconst 2, 1) := dc9_5 (by decide +kernel)
theorem d_RR_takeLevel_10 : decode y_RR_takeLevel.2.1 10 = .ok (.ireturn, 1) := dc9_172 (by decide +kernel)
theorem d_RR_takeLevel_25 : decode y_RR_takeLevel.2.1 25 = .ok (.invokevirtual 144, 3) := dc9_182 (by decide +kernel)
theorem d_RR_takeLevel_28 : decode y_RR_takeLevel.2.1 28 = .ok (.iconst 0, 1) := dc9_3 (by decide +kernel)
theorem d_RR_takeLevel_29 : decode y_RR_takeLevel.2.1 29 = .ok (.ireturn, 1) := dc9_172 (by decide +kernel)
theorem k_RR_takeLevel {G : mG} {d : Nat} {a0 : Nat} {l1 : Int} {l2 : Int} {M : mM} {Q : Int → mM → Prop} (hO : mOk M) (hi_l1 : i32 l1) (hi_l2 : i32 l2)
    (h : mK M a0 = 4 ∧ ((mI M a0 5 < 40) → (i32 ((mI M a0 5) + 1) ∧ ∀ M5, M5 = mUI M a0 5 ((mI M a0 5) + 1) → Cv G y_RR_push d [vr a0, vi l1, vi l2, vi (-1)] M5 (fun M7 => mOk M7 ∧ (Q 0 M7)))) ∧ (¬ (mI M a0 5 < 40) → (Q 2 M))) :
    Ci G y_RR_takeLevel (d + 1) [vr a0, vi l1, vi l2] M Q := by
  refine wm_open (y := y_RR_takeLevel) rfl (Nat.le_of_ble_eq_true rfl) (L := [vr a0, vi l1, vi l2]) rfl ?_
  obtain ⟨h1, h⟩ := h
  refine wm_aload_n d_RR_takeLevel_0 rfl rfl ?_
  refine gf_RR_58 rfl d_RR_takeLevel_1 h1 ?_
  refine wm_bipush d_RR_takeLevel_4 (by decide) ?_
  refine wm_icmp_lt (tgt := 11) d_RR_takeLevel_6 rfl (hO _ _).1 ⟨by decide, by decide⟩ (fun c3 => ?_) (fun c3 => ?_)
  · replace h := h.1 c3
    obtain ⟨h4, h⟩ := h
    obtain ⟨M5, e6⟩ : ∃ M5, M5 = mUI M a0 5 ((mI M a0 5) + 1) := ⟨_, rfl⟩
    replace h := h M5 e6
    refine wm_aload_n d_RR_takeLevel_11 rfl rfl ?_
    refine wm_dup d_RR_takeLevel_12 rfl ?_
    refine gf_RR_58 rfl d_RR_takeLevel_13 h1 ?_
    refine wm_iconst d_RR_takeLevel_16 ?_
    refine wm_iadd d_RR_takeLevel_17 ?_
    have hOM5 : mOk M5 := by rw [e6]; exact mOk_UI hO h4
    refine pf_RR_58 rfl d_RR_takeLevel_18 h1 h4 e6 ?_
    refine wm_aload_n d_RR_takeLevel_21 rfl rfl ?_
    refine wm_iload_n d_RR_takeLevel_22 rfl rfl ?_
    refine wm_iload_n d_RR_takeLevel_23 rfl rfl ?_
    refine wm_iconst d_RR_takeLevel_24 ?_
    refine cf_RR_144 rfl d_RR_takeLevel_25 (by rw [e6]; exact h1) (Nat.le_of_ble_eq_true rfl) (Cv.mono h (fun M7 h => ?_))
    obtain ⟨hOM7, h⟩ := h
    refine wm_iconst d_RR_takeLevel_28 ?_
    refine wm_ireturn d_RR_takeLevel_29 rfl rfl ?_
    exact ⟨_, rfl, h⟩
  · replace h := h.2 c3
    refine wm_iconst d_RR_takeLevel_9 ?_
    refine wm_ireturn d_RR_takeLevel_10 rfl rfl ?_
    exact ⟨_, rfl, h⟩
theorem d_RR_push_0 : decode y_RR_push.2.1 0 = .ok (.aload_n 0, 1) := dc9_42 (by decide +kernel)
theorem d_RR_push_1 : decode y_RR_push.2.1 1 = .ok (.getfield 87, 3) := dc9_180 (by decide +kernel)
theorem d_RR_push_4 : decode y_RR_push.2.1 4 = .ok (.sipush 336, 3) := dc9_17 (by decide +kernel)
theorem d_RR_push_7 : decode y_RR_push.2.1 7 = .ok (.if_icmp .ge 53, 3) := dc9_162 (by decide +kernel)
theorem d_RR_push_10 : decode y_RR_push.2.1 10 = .ok (.aload_n 0, 1) := dc9_42 (by decide +kernel)
theorem d_RR_push_11 : decode y_RR_push.2.1 11 = .ok (.getfield 11, 3) := dc9_180 (by decide +kernel)
theorem d_RR_push_14 : decode y_RR_push.2.1 14 = .ok (.aload_n 0, 1) := dc9_42 (by decide +kernel)
theorem d_RR_push_15 : decode y_RR_push.2.1 15 = .ok (.getfield 87, 3) := dc9_180 (by decide +kernel)
theorem d_RR_push_18 : decode y_RR_push.2.1 18 = .ok (.iload_n 1, 1) := dc9_27 (by decide +kernel)
theorem d_RR_push_19 : decode y_RR_push.2.1 19 = .ok (.iastore, 1) := dc9_79 (by decide +kernel)
theorem d_RR_push_20 : decode y_RR_push.2.1 20 = .ok (.aload_n 0, 1) := dc9_42 (by decide +kernel)
theorem d_RR_push_21 : decode y_RR_push.2.1 21 = .ok (.getfield 15, 3) := dc9_180 (by decide +kernel)
theorem d_RR_push_24 : decode y_RR_push.2.1 24 = .ok (.aload_n 0, 1) := dc9_42 (by decide +kernel)
theorem d_RR_push_25 : decode y_RR_push.2.1 25 = .ok (.getfield 87, 3) := dc9_180 (by decide +kernel)
theorem d_RR_push_28 : decode y_RR_push.2.1 28 = .ok (.iload_n 2, 1) := dc9_28 (by decide +kernel)
theorem d_RR_push_29 : decode y_RR_push.2.1 29 = .ok (.iastore, 1) := dc9_79 (by decide +kernel)
theorem d_RR_push_60 : decode y_RR_push.2.1 60 = .ok (.aload_n 0, 1) := dc9_42 (by decide +kernel)
theorem d_RR_push_61 : decode y_RR_push.2.1 61 = .ok (.iconst 1, 1) := dc9_4 (by decide +kernel)
theorem d_RR_push_62 : decode y_RR_push.2.1 62 = .ok (.putfield 93, 3) := dc9_181 (by decide +kernel)
theorem d_RR_push_65 : decode y_RR_push.2.1 65 = .ok (.aload_n 0, 1) := dc9_42 (by decide +kernel)
theorem d_RR_push_66 : decode y_RR_push.2.1 66 = .ok (.dup, 1) := dc9_89 (by decide +kernel)
theorem d_RR_push_67 : decode y_RR_push.2.1 67 = .ok (.getfield 48, 3) := dc9_180 (by decide +kernel)
theorem d_RR_push_70 : decode y_RR_push.2.1 70 = .ok (.iconst 1, 1) := dc9_4 (by decide +kernel)
theorem d_RR_push_71 : decode y_RR_push.2.1 71 = .ok (.iadd, 1) := dc9_96 (by decide +kernel)
theorem d_RR_push_72 : decode y_RR_push.2.1 72 = .ok (.putfield 48, 3) := dc9_181 (by decide +kernel)
theorem d_RR_push_75 : decode y_RR_push.2.1 75 = .ok (.return_, 1) := dc9_177 (by decide +kernel)
theorem d_RR_push_30 : decode y_RR_push.2.1 30 = .ok (.aload_n 0, 1) := dc9_42 (by decide +kernel)
theorem d_RR_push_31 : decode y_RR_push.2.1 31 = .ok (.getfield 18, 3) := dc9_180 (by decide +kernel)
theorem d_RR_push_34 : decode y_RR_push.2.1 34 = .ok (.aload_n 0, 1) := dc9_42 (by decide +kernel)
theorem d_RR_push_35 : decode y_RR_push.2.1 35 = .ok (.getfield 87, 3) := dc9_180 (by decide +kernel)
theorem d_RR_push_38 : decode y_RR_push.2.1 38 = .ok (.iload_n 3, 1) := dc9_29 (by decide +kernel)
theorem d_RR_push_39 : decode y_RR_push.2.1 39 = .ok (.iastore, 1) := dc9_79 (by decide +kernel)
theorem d_RR_push_40 : decode y_RR_push.2.1 40 = .ok (.aload_n 0, 1) := dc9_42 (by decide +kernel)
theorem d_RR_push_41 : decode y_RR_push.2.1 41 = .ok (.getfield 21, 3) := dc9_180 (by decide +kernel)
theorem d_RR_push_44 : decode y_RR_push.2.1 44 = .ok (.aload_n 0, 1) := dc9_42 (by decide +kernel)
theorem d_RR_push_45 : decode y_RR_push.2.1 45 = .ok (.getfield 87, 3) := dc9_180 (by decide +kernel)
theorem d_RR_push_48 : decode y_RR_push.2.1 48 = .ok (.iconst 0, 1) := dc9_3 (by decide +kernel)
theorem d_RR_push_49 : decode y_RR_push.2.1 49 = .ok (.iastore, 1) := dc9_79 (by decide +kernel)
theorem d_RR_push_50 : decode y_RR_push.2.1 50 = .ok (.aload_n 0, 1) := dc9_42 (by decide +kernel)
theorem d_RR_push_51 : decode y_RR_push.2.1 51 = .ok (.dup, 1) := dc9_89 (by decide +kernel)
theorem d_RR_push_52 : decode y_RR_push.2.1 52 = .ok (.getfield 87, 3) := dc9_180 (by decide +kernel)
theorem d_RR_push_55 : decode y_RR_push.2.1 55 = .ok (.iconst 1, 1) := dc9_4 (by decide +kernel)
theorem d_RR_push_56 : decode y_RR_push.2.1 56 = .ok (.iadd, 1) := dc9_96 (by decide +kernel)
theorem d_RR_push_57 : decode y_RR_push.2.1 57 = .ok (.putfield 87, 3) := dc9_181 (by decide +kernel)
theorem k_RR_push {G : mG} {d : Nat} {a0 : Nat} {l1 : Int} {l2 : Int} {l3 : Int} {M : mM} {Q : mM → Prop} (hO : mOk M) (hi_l1 : i32 l1) (hi_l2 : i32 l2) (hi_l3 : i32 l3)
    (h : mK M a0 = 4 ∧ ((336 ≤ mI M a0 12) → (∀ M9, M9 = mUI M a0 7 1 → i32 ((mI M9 a0 2) + 1) ∧ ∀ M12, M12 = mUI M9 a0 2 ((mI M9 a0 2) + 1) → Q M12)) ∧ (¬ (336 ≤ mI M a0 12) → (mK M (mR M a0 8) = 30 ∧ ((0 : Int) ≤ mI M a0 12 ∧ mI M a0 12 < (mN M (mR M a0 8) : Int)) ∧ ∀ M16, M16 = mUI M (mR M a0 8) (Int.toNat (mI M a0 12)) l1 → mK M16 (mR M16 a0 9) = 30 ∧ ((0 : Int) ≤ mI M16 a0 12 ∧ mI M16 a0 12 < (mN M16 (mR M16 a0 9) : Int)) ∧ ∀ M20, M20 = mUI M16 (mR M16 a0 9) (Int.toNat (mI M16 a0 12)) l2 → mK M20 (mR M20 a0 10) = 30 ∧ ((0 : Int) ≤ mI M20 a0 12 ∧ mI M20 a0 12 < (mN M20 (mR M20 a0 10) : Int)) ∧ ∀ M24, M24 = mUI M20 (mR M20 a0 10) (Int.toNat (mI M20 a0 12)) l3 → mK M24 (mR M24 a0 11) = 30 ∧ ((0 : Int) ≤ mI M24 a0 12 ∧ mI M24 a0 12 < (mN M24 (mR M24 a0 11) : Int)) ∧ ∀ M28, M28 = mUI M24 (mR M24 a0 11) (Int.toNat (mI M24 a0 12)) 0 → i32 ((mI M28 a0 12) + 1) ∧ ∀ M31, M31 = mUI M28 a0 12 ((mI M28 a0 12) + 1) → ∀ M33, M33 = mUI M31 a0 7 1 → i32 ((mI M33 a0 2) + 1) ∧ ∀ M36, M36 = mUI M33 a0 2 ((mI M33 a0 2) + 1) → Q M36))) :
    Cv G y_RR_push d [vr a0, vi l1, vi l2, vi l3] M Q := by
  refine wm_open (y := y_RR_push) rfl (Nat.le_of_ble_eq_true rfl) (L := [vr a0, vi l1, vi l2, vi l3]) rfl ?_
  obtain ⟨h1, h⟩ := h
  refine wm_aload_n d_RR_push_0 rfl rfl ?_
  refine gf_RR_87 rfl d_RR_push_1 h1 ?_
  refine wm_sipush d_RR_push_4 (by decide) ?_
  refine wm_icmp_ge (tgt := 60) d_RR_push_7 rfl (hO _ _).1 ⟨by decide, by decide⟩ (fun c8 => ?_) (fun c8 => ?_)
  · replace h := h.1 c8
    obtain ⟨M9, e10⟩ : ∃ M9, M9 = mUI M a0 7 1 := ⟨_, rfl⟩
    replace h := h M9 e10
    obtain ⟨h11, h⟩ := h
    obtain ⟨M12, e13⟩ : ∃ M12, M12 = mUI M9 a0 2 ((mI M9 a0 2) + 1) := ⟨_, rfl⟩
    replace h := h M12 e13
    refine wm_aload_n d_RR_push_60 rfl rfl ?_
    refine wm_iconst d_RR_push_61 ?_
    have hOM9 : mOk M9 := by rw [e10]; exact mOk_UI hO (m_b32 (by decide))
    refine pf_RR_93 rfl d_RR_push_62 h1 (by decide) e10 ?_
    refine wm_aload_n d_RR_push_65 rfl rfl ?_
    refine wm_dup d_RR_push_66 rfl ?_
    refine gf_RR_48 rfl d_RR_push_67 (by rw [e10]; exact h1) ?_
    refine wm_iconst d_RR_push_70 ?_
    refine wm_iadd d_RR_push_71 ?_
    have hOM12 : mOk M12 := by rw [e13]; exact mOk_UI hOM9 h11
    refine pf_RR_48 rfl d_RR_push_72 (by rw [e10]; exact h1) h11 e13 ?_
    refine wm_return d_RR_push_75 rfl ?_
    exact ⟨rfl, h⟩
  · replace h := h.2 c8
    obtain ⟨h14, h⟩ := h
    obtain ⟨h15, h⟩ := h
    obtain ⟨M16, e17⟩ : ∃ M16, M16 = mUI M (mR M a0 8) (Int.toNat (mI M a0 12)) l1 := ⟨_, rfl⟩
    replace h := h M16 e17
    obtain ⟨h18, h⟩ := h
    obtain ⟨h19, h⟩ := h
    obtain ⟨M20, e21⟩ : ∃ M20, M20 = mUI M16 (mR M16 a0 9) (Int.toNat (mI M16 a0 12)) l2 := ⟨_, rfl⟩
    replace h := h M20 e21
    obtain ⟨h22, h⟩ := h
    obtain ⟨h23, h⟩ := h
    obtain ⟨M24, e25⟩ : ∃ M24, M24 = mUI M20 (mR M20 a0 10) (Int.toNat (mI M20 a0 12)) l3 := ⟨_, rfl⟩
    replace h := h M24 e25
    obtain ⟨h26, h⟩ := h
    obtain ⟨h27, h⟩ := h
    obtain ⟨M28, e29⟩ : ∃ M28, M28 = mUI M24 (mR M24 a0 11) (Int.toNat (mI M24 a0 12)) 0 := ⟨_, rfl⟩
    replace h := h M28 e29
    obtain ⟨h30, h⟩ := h
    obtain ⟨M31, e32⟩ : ∃ M31, M31 = mUI M28 a0 12 ((mI M28 a0 12) + 1) := ⟨_, rfl⟩
    replace h := h M31 e32
    obtain ⟨M33, e34⟩ : ∃ M33, M33 = mUI M31 a0 7 1 := ⟨_, rfl⟩
    replace h := h M33 e34
    obtain ⟨h35, h⟩ := h
    obtain ⟨M36, e37⟩ : ∃ M36, M36 = mUI M33 a0 2 ((mI M33 a0 2) + 1) := ⟨_, rfl⟩
    replace h := h M36 e37
    refine wm_aload_n d_RR_push_10 rfl rfl ?_
    refine gf_RR_11 rfl d_RR_push_11 h1 ?_
    refine wm_aload_n d_RR_push_14 rfl rfl ?_
    refine gf_RR_87 rfl d_RR_push_15 h1 ?_
    refine wm_iload_n d_RR_push_18 rfl rfl ?_
    have hOM16 : mOk M16 := by rw [e17]; exact mOk_UI hO hi_l1
    refine wm_iastE d_RR_push_19 h14 h15 hi_l1 e17 ?_
    refine wm_aload_n d_RR_push_20 rfl rfl ?_
    refine gf_RR_15 rfl d_RR_push_21 (by rw [e17]; exact h1) ?_
    refine wm_aload_n d_RR_push_24 rfl rfl ?_
    refine gf_RR_87 rfl d_RR_push_25 (by rw [e17]; exact h1) ?_
    refine wm_iload_n d_RR_push_28 rfl rfl ?_
    have hOM20 : mOk M20 := by rw [e21]; exact mOk_UI hOM16 hi_l2
    refine wm_iastE d_RR_push_29 h18 h19 hi_l2 e21 ?_
    refine wm_aload_n d_RR_push_30 rfl rfl ?_
    refine gf_RR_18 rfl d_RR_push_31 (by rw [e21, e17]; exact h1) ?_
    refine wm_aload_n d_RR_push_34 rfl rfl ?_
    refine gf_RR_87 rfl d_RR_push_35 (by rw [e21, e17]; exact h1) ?_
    refine wm_iload_n d_RR_push_38 rfl rfl ?_
    have hOM24 : mOk M24 := by rw [e25]; exact mOk_UI hOM20 hi_l3
    refine wm_iastE d_RR_push_39 h22 h23 hi_l3 e25 ?_
    refine wm_aload_n d_RR_push_40 rfl rfl ?_
    refine gf_RR_21 rfl d_RR_push_41 (by rw [e25, e21, e17]; exact h1) ?_
    refine wm_aload_n d_RR_push_44 rfl rfl ?_
    refine gf_RR_87 rfl d_RR_push_45 (by rw [e25, e21, e17]; exact h1) ?_
    refine wm_iconst d_RR_push_48 ?_
    have hOM28 : mOk M28 := by rw [e29]; exact mOk_UI hOM24 ⟨by decide, by decide⟩
    refine wm_iastE d_RR_push_49 h26 h27 ⟨by decide, by decide⟩ e29 ?_
    refine wm_aload_n d_RR_push_50 rfl rfl ?_
    refine wm_dup d_RR_push_51 rfl ?_
    refine gf_RR_87 rfl d_RR_push_52 (by rw [e29, e25, e21, e17]; exact h1) ?_
    refine wm_iconst d_RR_push_55 ?_
    refine wm_iadd d_RR_push_56 ?_
    have hOM31 : mOk M31 := by rw [e32]; exact mOk_UI hOM28 h30
    refine pf_RR_87 rfl d_RR_push_57 (by rw [e29, e25, e21, e17]; exact h1) h30 e32 ?_
    refine wm_aload_n d_RR_push_60 rfl rfl ?_
    refine wm_iconst d_RR_push_61 ?_
    have hOM33 : mOk M33 := by rw [e34]; exact mOk_UI hOM31 (m_b32 (by decide))
    refine pf_RR_93 rfl d_RR_push_62 (by rw [e32, e29, e25, e21, e17]; exact h1) (by decide) e34 ?_
    refine wm_aload_n d_RR_push_65 rfl rfl ?_
    refine wm_dup d_RR_push_66 rfl ?_
    refine gf_RR_48 rfl d_RR_push_67 (by rw [e34, e32, e29, e25, e21, e17]; exact h1) ?_
    refine wm_iconst d_RR_push_70 ?_
    refine wm_iadd d_RR_push_71 ?_
    have hOM36 : mOk M36 := by rw [e37]; exact mOk_UI hOM33 h35
    refine pf_RR_48 rfl d_RR_push_72 (by rw [e34, e32, e29, e25, e21, e17]; exact h1) h35 e37 ?_
    refine wm_return d_RR_push_75 rfl ?_
    exact ⟨rfl, h⟩
theorem d_RR_level_0 : decode y_RR_level.2.1 0 = .ok (.iload_n 0, 1) := dc9_26 (by decide +kernel)
theorem d_RR_level_1 : decode y_RR_level.2.1 1 = .ok (.tableswitch 120 19 41 #[113, 113, 113, 113, 113, 113, 115, 115, 117, 117, 117, 109, 107, 120, 120, 120, 120, 120, 120, 120, 120, 120, 111], 107) := by decide +kernel
theorem d_RR_level_114 : decode y_RR_level.2.1 114 = .ok (.iconst 4, 1) := dc9_7 (by decide +kernel)
theorem d_RR_level_115 : decode y_RR_level.2.1 115 = .ok (.ireturn, 1) := dc9_172 (by decide +kernel)
theorem d_RR_level_116 : decode y_RR_level.2.1 116 = .ok (.iconst 5, 1) := dc9_8 (by decide +kernel)
theorem d_RR_level_117 : decode y_RR_level.2.1 117 = .ok (.ireturn, 1) := dc9_172 (by decide +kernel)
theorem d_RR_level_118 : decode y_RR_level.2.1 118 = .ok (.bipush 6, 2) := dc9_16 (by decide +kernel)
theorem d_RR_level_120 : decode y_RR_level.2.1 120 = .ok (.ireturn, 1) := dc9_172 (by decide +kernel)
theorem d_RR_level_110 : decode y_RR_level.2.1 110 = .ok (.iconst 2, 1) := dc9_5 (by decide +kernel)
theorem d_RR_level_111 : decode y_RR_level.2.1 111 = .ok (.ireturn, 1) := dc9_172 (by decide +kernel)
theorem d_RR_level_108 : decode y_RR_level.2.1 108 = .ok (.iconst 1, 1) := dc9_4 (by decide +kernel)
theorem d_RR_level_109 : decode y_RR_level.2.1 109 = .ok (.ireturn, 1) := dc9_172 (by decide +kernel)
theorem d_RR_level_112 : decode y_RR_level.2.1 112 = .ok (.iconst 3, 1) := dc9_6 (by decide +kernel)
theorem d_RR_level_113 : decode y_RR_level.2.1 113 = .ok (.ireturn, 1) := dc9_172 (by decide +kernel)
theorem d_RR_level_121 : decode y_RR_level.2.1 121 = .ok (.iconst 0, 1) := dc9_3 (by decide +kernel)
theorem d_RR_level_122 : decode y_RR_level.2.1 122 = .ok (.ireturn, 1) := dc9_172 (by decide +kernel)
theorem k_RR_level {G : mG} {d : Nat} {l0 : Int} {M : mM} {Q : Int → mM → Prop} (hO : mOk M) (hi_l0 : i32 l0)
    (h : ((l0 = 19 ∨ l0 = 20 ∨ l0 = 21 ∨ l0 = 22 ∨ l0 = 23 ∨ l0 = 24) → (Q 4 M)) ∧ (¬ (l0 = 19 ∨ l0 = 20 ∨ l0 = 21 ∨ l0 = 22 ∨ l0 = 23 ∨ l0 = 24) → (((l0 = 25 ∨ l0 = 26) → (Q 5 M)) ∧ (¬ (l0 = 25 ∨ l0 = 26) → (((l0 = 27 ∨ l0 = 28 ∨ l0 = 29) → (Q 6 M)) ∧ (¬ (l0 = 27 ∨ l0 = 28 ∨ l0 = 29) → (((l0 = 30) → (Q 2 M)) ∧ (¬ (l0 = 30) → (((l0 = 31) → (Q 1 M)) ∧ (¬ (l0 = 31) → (((l0 = 41) → (Q 3 M)) ∧ (¬ (l0 = 41) → (Q 0 M))))))))))))) :
    Ci G y_RR_level d [vi l0] M Q := by
  refine wm_open (y := y_RR_level) rfl (Nat.le_of_ble_eq_true rfl) (L := [vi l0]) rfl ?_
  refine wm_iload_n d_RR_level_0 rfl rfl ?_
  by_cases c3 : l0 = 19 ∨ l0 = 20 ∨ l0 = 21 ∨ l0 = 22 ∨ l0 = 23 ∨ l0 = 24
  · replace h := h.1 c3
    refine wm_tableIn (tgt := 114) (off := 113) d_RR_level_1 hi_l0 (by omega) (by omega) (by rcases c3 with q9 | q9 | q9 | q9 | q9 | q9 <;> (rw [q9]; rfl)) rfl ?_
    refine wm_iconst d_RR_level_114 ?_
    refine wm_ireturn d_RR_level_115 rfl rfl ?_
    exact ⟨_, rfl, h⟩
  · replace h := h.2 c3
    by_cases c5 : l0 = 25 ∨ l0 = 26
    · replace h := h.1 c5
      refine wm_tableIn (tgt := 116) (off := 115) d_RR_level_1 hi_l0 (by omega) (by omega) (by rcases c5 with q9 | q9 <;> (rw [q9]; rfl)) rfl ?_
      refine wm_iconst d_RR_level_116 ?_
      refine wm_ireturn d_RR_level_117 rfl rfl ?_
      exact ⟨_, rfl, h⟩
    · replace h := h.2 c5
      by_cases c7 : l0 = 27 ∨ l0 = 28 ∨ l0 = 29
      · replace h := h.1 c7
        refine wm_tableIn (tgt := 118) (off := 117) d_RR_level_1 hi_l0 (by omega) (by omega) (by rcases c7 with q9 | q9 | q9 <;> (rw [q9]; rfl)) rfl ?_
        refine wm_bipush d_RR_level_118 (by decide) ?_
        refine wm_ireturn d_RR_level_120 rfl rfl ?_
        exact ⟨_, rfl, h⟩
      · replace h := h.2 c7
        by_cases c9 : l0 = 30
        · replace h := h.1 c9
          refine wm_tableIn (tgt := 110) (off := 109) d_RR_level_1 hi_l0 (by omega) (by omega) (by rw [c9]; rfl) rfl ?_
          refine wm_iconst d_RR_level_110 ?_
          refine wm_ireturn d_RR_level_111 rfl rfl ?_
          exact ⟨_, rfl, h⟩
        · replace h := h.2 c9
          by_cases c11 : l0 = 31
          · replace h := h.1 c11
            refine wm_tableIn (tgt := 108) (off := 107) d_RR_level_1 hi_l0 (by omega) (by omega) (by rw [c11]; rfl) rfl ?_
            refine wm_iconst d_RR_level_108 ?_
            refine wm_ireturn d_RR_level_109 rfl rfl ?_
            exact ⟨_, rfl, h⟩
          · replace h := h.2 c11
            by_cases c13 : l0 = 41
            · replace h := h.1 c13
              refine wm_tableIn (tgt := 112) (off := 111) d_RR_level_1 hi_l0 (by omega) (by omega) (by rw [c13]; rfl) rfl ?_
              refine wm_iconst d_RR_level_112 ?_
              refine wm_ireturn d_RR_level_113 rfl rfl ?_
              exact ⟨_, rfl, h⟩
            · replace h := h.2 c13
              refine wm_tableD (tgt := 121) (off := 120) d_RR_level_1 hi_l0 (if q8 : 19 ≤ l0 ∧ l0 ≤ 41 then Or.inr ⟨q8.1, q8.2, by
      have q9 : l0 = 32 ∨ l0 = 33 ∨ l0 = 34 ∨ l0 = 35 ∨ l0 = 36 ∨ l0 = 37 ∨ l0 = 38 ∨ l0 = 39 ∨ l0 = 40 := by omega
      rcases q9 with q9 | q9 | q9 | q9 | q9 | q9 | q9 | q9 | q9 <;> (rw [q9]; rfl)⟩ else Or.inl (by omega)) rfl ?_
              refine wm_iconst d_RR_level_121 ?_
              refine wm_ireturn d_RR_level_122 rfl rfl ?_
              exact ⟨_, rfl, h⟩
end
