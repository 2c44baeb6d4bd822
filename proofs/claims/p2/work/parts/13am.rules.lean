section
theorem d_Ga_weighChances_0 : decode y_Ga_weighChances.2.1 0 = .ok (.aload_n 0, 1) := dc9_42 (by decide +kernel)
theorem d_Ga_weighChances_1 : decode y_Ga_weighChances.2.1 1 = .ok (.getfield 72, 3) := dc9_180 (by decide +kernel)
theorem d_Ga_weighChances_4 : decode y_Ga_weighChances.2.1 4 = .ok (.getfield 153, 3) := dc9_180 (by decide +kernel)
theorem d_Ga_weighChances_7 : decode y_Ga_weighChances.2.1 7 = .ok (.iload_n 1, 1) := dc9_27 (by decide +kernel)
theorem d_Ga_weighChances_8 : decode y_Ga_weighChances.2.1 8 = .ok (.iaload, 1) := dc9_46 (by decide +kernel)
theorem d_Ga_weighChances_9 : decode y_Ga_weighChances.2.1 9 = .ok (.istore_n 2, 1) := dc9_61 (by decide +kernel)
theorem d_Ga_weighChances_10 : decode y_Ga_weighChances.2.1 10 = .ok (.aload_n 0, 1) := dc9_42 (by decide +kernel)
theorem d_Ga_weighChances_11 : decode y_Ga_weighChances.2.1 11 = .ok (.getfield 72, 3) := dc9_180 (by decide +kernel)
theorem d_Ga_weighChances_14 : decode y_Ga_weighChances.2.1 14 = .ok (.getfield 153, 3) := dc9_180 (by decide +kernel)
theorem d_Ga_weighChances_17 : decode y_Ga_weighChances.2.1 17 = .ok (.iload_n 1, 1) := dc9_27 (by decide +kernel)
theorem d_Ga_weighChances_18 : decode y_Ga_weighChances.2.1 18 = .ok (.iconst 1, 1) := dc9_4 (by decide +kernel)
theorem d_Ga_weighChances_19 : decode y_Ga_weighChances.2.1 19 = .ok (.iadd, 1) := dc9_96 (by decide +kernel)
theorem d_Ga_weighChances_20 : decode y_Ga_weighChances.2.1 20 = .ok (.iaload, 1) := dc9_46 (by decide +kernel)
theorem d_Ga_weighChances_21 : decode y_Ga_weighChances.2.1 21 = .ok (.iload_n 2, 1) := dc9_28 (by decide +kernel)
theorem d_Ga_weighChances_22 : decode y_Ga_weighChances.2.1 22 = .ok (.isub, 1) := dc9_100 (by decide +kernel)
theorem d_Ga_weighChances_23 : decode y_Ga_weighChances.2.1 23 = .ok (.istore_n 3, 1) := dc9_62 (by decide +kernel)
theorem d_Ga_weighChances_24 : decode y_Ga_weighChances.2.1 24 = .ok (.iconst 0, 1) := dc9_3 (by decide +kernel)
theorem d_Ga_weighChances_25 : decode y_Ga_weighChances.2.1 25 = .ok (.istore 4, 2) := dc9_54 (by decide +kernel)
theorem d_Ga_weighChances_27 : decode y_Ga_weighChances.2.1 27 = .ok (.iload 4, 2) := dc9_21 (by decide +kernel)
theorem d_Ga_weighChances_29 : decode y_Ga_weighChances.2.1 29 = .ok (.iload_n 3, 1) := dc9_29 (by decide +kernel)
theorem d_Ga_weighChances_30 : decode y_Ga_weighChances.2.1 30 = .ok (.if_icmp .ge 114, 3) := dc9_162 (by decide +kernel)
theorem d_Ga_weighChances_144 : decode y_Ga_weighChances.2.1 144 = .ok (.lconst 1, 1) := dc9_10 (by decide +kernel)
theorem d_Ga_weighChances_145 : decode y_Ga_weighChances.2.1 145 = .ok (.lstore 4, 2) := dc9_55 (by decide +kernel)
theorem d_Ga_weighChances_147 : decode y_Ga_weighChances.2.1 147 = .ok (.iconst 0, 1) := dc9_3 (by decide +kernel)
theorem d_Ga_weighChances_148 : decode y_Ga_weighChances.2.1 148 = .ok (.istore 6, 2) := dc9_54 (by decide +kernel)
theorem d_Ga_weighChances_33 : decode y_Ga_weighChances.2.1 33 = .ok (.aload_n 0, 1) := dc9_42 (by decide +kernel)
theorem d_Ga_weighChances_34 : decode y_Ga_weighChances.2.1 34 = .ok (.getfield 42, 3) := dc9_180 (by decide +kernel)
theorem d_Ga_weighChances_37 : decode y_Ga_weighChances.2.1 37 = .ok (.aload_n 0, 1) := dc9_42 (by decide +kernel)
theorem d_Ga_weighChances_38 : decode y_Ga_weighChances.2.1 38 = .ok (.getfield 72, 3) := dc9_180 (by decide +kernel)
theorem d_Ga_weighChances_41 : decode y_Ga_weighChances.2.1 41 = .ok (.getfield 158, 3) := dc9_180 (by decide +kernel)
theorem d_Ga_weighChances_44 : decode y_Ga_weighChances.2.1 44 = .ok (.iload_n 2, 1) := dc9_28 (by decide +kernel)
theorem d_Ga_weighChances_45 : decode y_Ga_weighChances.2.1 45 = .ok (.iload 4, 2) := dc9_21 (by decide +kernel)
theorem d_Ga_weighChances_47 : decode y_Ga_weighChances.2.1 47 = .ok (.iadd, 1) := dc9_96 (by decide +kernel)
theorem d_Ga_weighChances_48 : decode y_Ga_weighChances.2.1 48 = .ok (.iaload, 1) := dc9_46 (by decide +kernel)
theorem d_Ga_weighChances_49 : decode y_Ga_weighChances.2.1 49 = .ok (.invokevirtual 123, 3) := dc9_182 (by decide +kernel)
theorem d_Ga_weighChances_52 : decode y_Ga_weighChances.2.1 52 = .ok (.ifCond .ne 8, 3) := dc9_154 (by decide +kernel)
theorem d_Ga_weighChances_55 : decode y_Ga_weighChances.2.1 55 = .ok (.aload_n 0, 1) := dc9_42 (by decide +kernel)
theorem d_Ga_weighChances_60 : decode y_Ga_weighChances.2.1 60 = .ok (.aload_n 0, 1) := dc9_42 (by decide +kernel)
theorem d_Ga_weighChances_61 : decode y_Ga_weighChances.2.1 61 = .ok (.getfield 49, 3) := dc9_180 (by decide +kernel)
theorem d_Ga_weighChances_64 : decode y_Ga_weighChances.2.1 64 = .ok (.iload 4, 2) := dc9_21 (by decide +kernel)
theorem d_Ga_weighChances_66 : decode y_Ga_weighChances.2.1 66 = .ok (.aload_n 0, 1) := dc9_42 (by decide +kernel)
theorem d_Ga_weighChances_67 : decode y_Ga_weighChances.2.1 67 = .ok (.getfield 42, 3) := dc9_180 (by decide +kernel)
theorem d_Ga_weighChances_70 : decode y_Ga_weighChances.2.1 70 = .ok (.getfield 129, 3) := dc9_180 (by decide +kernel)
theorem d_Ga_weighChances_73 : decode y_Ga_weighChances.2.1 73 = .ok (.iconst 0, 1) := dc9_3 (by decide +kernel)
theorem d_Ga_weighChances_74 : decode y_Ga_weighChances.2.1 74 = .ok (.iaload, 1) := dc9_46 (by decide +kernel)
theorem d_Ga_weighChances_75 : decode y_Ga_weighChances.2.1 75 = .ok (.iastore, 1) := dc9_79 (by decide +kernel)
theorem d_Ga_weighChances_76 : decode y_Ga_weighChances.2.1 76 = .ok (.aload_n 0, 1) := dc9_42 (by decide +kernel)
theorem d_Ga_weighChances_77 : decode y_Ga_weighChances.2.1 77 = .ok (.getfield 52, 3) := dc9_180 (by decide +kernel)
theorem d_Ga_weighChances_80 : decode y_Ga_weighChances.2.1 80 = .ok (.iload 4, 2) := dc9_21 (by decide +kernel)
theorem d_Ga_weighChances_82 : decode y_Ga_weighChances.2.1 82 = .ok (.aload_n 0, 1) := dc9_42 (by decide +kernel)
theorem d_Ga_weighChances_83 : decode y_Ga_weighChances.2.1 83 = .ok (.getfield 42, 3) := dc9_180 (by decide +kernel)
theorem d_Ga_weighChances_86 : decode y_Ga_weighChances.2.1 86 = .ok (.getfield 161, 3) := dc9_180 (by decide +kernel)
theorem d_Ga_weighChances_89 : decode y_Ga_weighChances.2.1 89 = .ok (.iconst 0, 1) := dc9_3 (by decide +kernel)
theorem d_Ga_weighChances_90 : decode y_Ga_weighChances.2.1 90 = .ok (.iaload, 1) := dc9_46 (by decide +kernel)
theorem d_Ga_weighChances_91 : decode y_Ga_weighChances.2.1 91 = .ok (.iastore, 1) := dc9_79 (by decide +kernel)
theorem d_Ga_weighChances_56 : decode y_Ga_weighChances.2.1 56 = .ok (.invokevirtual 126, 3) := dc9_182 (by decide +kernel)
theorem d_Ga_weighChances_59 : decode y_Ga_weighChances.2.1 59 = .ok (.ireturn, 1) := dc9_172 (by decide +kernel)
theorem d_Ga_weighChances_92 : decode y_Ga_weighChances.2.1 92 = .ok (.aload_n 0, 1) := dc9_42 (by decide +kernel)
theorem d_Ga_weighChances_93 : decode y_Ga_weighChances.2.1 93 = .ok (.getfield 49, 3) := dc9_180 (by decide +kernel)
theorem d_Ga_weighChances_96 : decode y_Ga_weighChances.2.1 96 = .ok (.iload 4, 2) := dc9_21 (by decide +kernel)
theorem d_Ga_weighChances_98 : decode y_Ga_weighChances.2.1 98 = .ok (.iaload, 1) := dc9_46 (by decide +kernel)
theorem d_Ga_weighChances_99 : decode y_Ga_weighChances.2.1 99 = .ok (.ifCond .lt 20, 3) := dc9_155 (by decide +kernel)
theorem d_Ga_weighChances_102 : decode y_Ga_weighChances.2.1 102 = .ok (.aload_n 0, 1) := dc9_42 (by decide +kernel)
theorem d_Ga_weighChances_103 : decode y_Ga_weighChances.2.1 103 = .ok (.getfield 49, 3) := dc9_180 (by decide +kernel)
theorem d_Ga_weighChances_106 : decode y_Ga_weighChances.2.1 106 = .ok (.iload 4, 2) := dc9_21 (by decide +kernel)
theorem d_Ga_weighChances_108 : decode y_Ga_weighChances.2.1 108 = .ok (.iaload, 1) := dc9_46 (by decide +kernel)
theorem d_Ga_weighChances_109 : decode y_Ga_weighChances.2.1 109 = .ok (.aload_n 0, 1) := dc9_42 (by decide +kernel)
theorem d_Ga_weighChances_110 : decode y_Ga_weighChances.2.1 110 = .ok (.getfield 52, 3) := dc9_180 (by decide +kernel)
theorem d_Ga_weighChances_113 : decode y_Ga_weighChances.2.1 113 = .ok (.iload 4, 2) := dc9_21 (by decide +kernel)
theorem d_Ga_weighChances_115 : decode y_Ga_weighChances.2.1 115 = .ok (.iaload, 1) := dc9_46 (by decide +kernel)
theorem d_Ga_weighChances_116 : decode y_Ga_weighChances.2.1 116 = .ok (.if_icmp .le 22, 3) := dc9_164 (by decide +kernel)
theorem d_Ga_weighChances_138 : decode y_Ga_weighChances.2.1 138 = .ok (.iinc 4 1, 3) := by decide +kernel
theorem d_Ga_weighChances_141 : decode y_Ga_weighChances.2.1 141 = .ok (.goto (-114), 3) := dc9_167 (by decide +kernel)
theorem d_Ga_weighChances_119 : decode y_Ga_weighChances.2.1 119 = .ok (.aload_n 0, 1) := dc9_42 (by decide +kernel)
theorem d_Ga_weighChances_120 : decode y_Ga_weighChances.2.1 120 = .ok (.bipush 11, 2) := dc9_16 (by decide +kernel)
theorem d_Ga_weighChances_122 : decode y_Ga_weighChances.2.1 122 = .ok (.aload_n 0, 1) := dc9_42 (by decide +kernel)
theorem d_Ga_weighChances_123 : decode y_Ga_weighChances.2.1 123 = .ok (.getfield 72, 3) := dc9_180 (by decide +kernel)
theorem d_Ga_weighChances_126 : decode y_Ga_weighChances.2.1 126 = .ok (.getfield 164, 3) := dc9_180 (by decide +kernel)
theorem d_Ga_weighChances_129 : decode y_Ga_weighChances.2.1 129 = .ok (.iload_n 2, 1) := dc9_28 (by decide +kernel)
theorem d_Ga_weighChances_130 : decode y_Ga_weighChances.2.1 130 = .ok (.iload 4, 2) := dc9_21 (by decide +kernel)
theorem d_Ga_weighChances_132 : decode y_Ga_weighChances.2.1 132 = .ok (.iadd, 1) := dc9_96 (by decide +kernel)
theorem d_Ga_weighChances_133 : decode y_Ga_weighChances.2.1 133 = .ok (.iaload, 1) := dc9_46 (by decide +kernel)
theorem d_Ga_weighChances_134 : decode y_Ga_weighChances.2.1 134 = .ok (.invokevirtual 148, 3) := dc9_182 (by decide +kernel)
theorem d_Ga_weighChances_137 : decode y_Ga_weighChances.2.1 137 = .ok (.ireturn, 1) := dc9_172 (by decide +kernel)
theorem d_Ga_weighChances_150 : decode y_Ga_weighChances.2.1 150 = .ok (.iload 6, 2) := dc9_21 (by decide +kernel)
theorem d_Ga_weighChances_152 : decode y_Ga_weighChances.2.1 152 = .ok (.iload_n 3, 1) := dc9_29 (by decide +kernel)
theorem d_Ga_weighChances_153 : decode y_Ga_weighChances.2.1 153 = .ok (.if_icmp .ge 61, 3) := dc9_162 (by decide +kernel)
theorem d_Ga_weighChances_214 : decode y_Ga_weighChances.2.1 214 = .ok (.aload_n 0, 1) := dc9_42 (by decide +kernel)
theorem d_Ga_weighChances_215 : decode y_Ga_weighChances.2.1 215 = .ok (.getfield 27, 3) := dc9_180 (by decide +kernel)
theorem d_Ga_weighChances_218 : decode y_Ga_weighChances.2.1 218 = .ok (.aload_n 0, 1) := dc9_42 (by decide +kernel)
theorem d_Ga_weighChances_219 : decode y_Ga_weighChances.2.1 219 = .ok (.getfield 59, 3) := dc9_180 (by decide +kernel)
theorem d_Ga_weighChances_222 : decode y_Ga_weighChances.2.1 222 = .ok (.lload 4, 2) := dc9_22 (by decide +kernel)
theorem d_Ga_weighChances_224 : decode y_Ga_weighChances.2.1 224 = .ok (.l2i, 1) := dc9_136 (by decide +kernel)
theorem d_Ga_weighChances_225 : decode y_Ga_weighChances.2.1 225 = .ok (.iastore, 1) := dc9_79 (by decide +kernel)
theorem d_Ga_weighChances_226 : decode y_Ga_weighChances.2.1 226 = .ok (.lconst 0, 1) := dc9_9 (by decide +kernel)
theorem d_Ga_weighChances_227 : decode y_Ga_weighChances.2.1 227 = .ok (.lstore 6, 2) := dc9_55 (by decide +kernel)
theorem d_Ga_weighChances_229 : decode y_Ga_weighChances.2.1 229 = .ok (.iconst 0, 1) := dc9_3 (by decide +kernel)
theorem d_Ga_weighChances_230 : decode y_Ga_weighChances.2.1 230 = .ok (.istore 8, 2) := dc9_54 (by decide +kernel)
theorem d_Ga_weighChances_156 : decode y_Ga_weighChances.2.1 156 = .ok (.lload 4, 2) := dc9_22 (by decide +kernel)
theorem d_Ga_weighChances_158 : decode y_Ga_weighChances.2.1 158 = .ok (.lload 4, 2) := dc9_22 (by decide +kernel)
theorem d_Ga_weighChances_160 : decode y_Ga_weighChances.2.1 160 = .ok (.aload_n 0, 1) := dc9_42 (by decide +kernel)
theorem d_Ga_weighChances_161 : decode y_Ga_weighChances.2.1 161 = .ok (.getfield 52, 3) := dc9_180 (by decide +kernel)
theorem d_Ga_weighChances_164 : decode y_Ga_weighChances.2.1 164 = .ok (.iload 6, 2) := dc9_21 (by decide +kernel)
theorem d_Ga_weighChances_166 : decode y_Ga_weighChances.2.1 166 = .ok (.iaload, 1) := dc9_46 (by decide +kernel)
theorem d_Ga_weighChances_167 : decode y_Ga_weighChances.2.1 167 = .ok (.i2l, 1) := dc9_133 (by decide +kernel)
theorem d_Ga_weighChances_168 : decode y_Ga_weighChances.2.1 168 = .ok (.invokestatic 167, 3) := dc9_184 (by decide +kernel)
theorem d_Ga_weighChances_171 : decode y_Ga_weighChances.2.1 171 = .ok (.ldiv, 1) := dc9_109 (by decide +kernel)
theorem d_Ga_weighChances_172 : decode y_Ga_weighChances.2.1 172 = .ok (.aload_n 0, 1) := dc9_42 (by decide +kernel)
theorem d_Ga_weighChances_173 : decode y_Ga_weighChances.2.1 173 = .ok (.getfield 52, 3) := dc9_180 (by decide +kernel)
theorem d_Ga_weighChances_176 : decode y_Ga_weighChances.2.1 176 = .ok (.iload 6, 2) := dc9_21 (by decide +kernel)
theorem d_Ga_weighChances_178 : decode y_Ga_weighChances.2.1 178 = .ok (.iaload, 1) := dc9_46 (by decide +kernel)
theorem d_Ga_weighChances_179 : decode y_Ga_weighChances.2.1 179 = .ok (.i2l, 1) := dc9_133 (by decide +kernel)
theorem d_Ga_weighChances_180 : decode y_Ga_weighChances.2.1 180 = .ok (.lmul, 1) := dc9_105 (by decide +kernel)
theorem d_Ga_weighChances_181 : decode y_Ga_weighChances.2.1 181 = .ok (.lstore 4, 2) := dc9_55 (by decide +kernel)
theorem d_Ga_weighChances_183 : decode y_Ga_weighChances.2.1 183 = .ok (.lload 4, 2) := dc9_22 (by decide +kernel)
theorem d_Ga_weighChances_185 : decode y_Ga_weighChances.2.1 185 = .ok (.ldc2_w 171, 3) := dc9_20 (by decide +kernel)
theorem d_Ga_weighChances_188 : decode y_Ga_weighChances.2.1 188 = .ok (.lcmp, 1) := dc9_148 (by decide +kernel)
theorem d_Ga_weighChances_189 : decode y_Ga_weighChances.2.1 189 = .ok (.ifCond .lt 19, 3) := dc9_155 (by decide +kernel)
theorem d_Ga_weighChances_208 : decode y_Ga_weighChances.2.1 208 = .ok (.iinc 6 1, 3) := by decide +kernel
theorem d_Ga_weighChances_211 : decode y_Ga_weighChances.2.1 211 = .ok (.goto (-61), 3) := dc9_167 (by decide +kernel)
theorem d_Ga_weighChances_192 : decode y_Ga_weighChances.2.1 192 = .ok (.aload_n 0, 1) := dc9_42 (by decide +kernel)
theorem d_Ga_weighChances_193 : decode y_Ga_weighChances.2.1 193 = .ok (.bipush 6, 2) := dc9_16 (by decide +kernel)
theorem d_Ga_weighChances_195 : decode y_Ga_weighChances.2.1 195 = .ok (.aload_n 0, 1) := dc9_42 (by decide +kernel)
theorem d_Ga_weighChances_196 : decode y_Ga_weighChances.2.1 196 = .ok (.getfield 72, 3) := dc9_180 (by decide +kernel)
theorem d_Ga_weighChances_199 : decode y_Ga_weighChances.2.1 199 = .ok (.getfield 145, 3) := dc9_180 (by decide +kernel)
theorem d_Ga_weighChances_202 : decode y_Ga_weighChances.2.1 202 = .ok (.iload_n 1, 1) := dc9_27 (by decide +kernel)
theorem d_Ga_weighChances_203 : decode y_Ga_weighChances.2.1 203 = .ok (.iaload, 1) := dc9_46 (by decide +kernel)
theorem d_Ga_weighChances_204 : decode y_Ga_weighChances.2.1 204 = .ok (.invokevirtual 148, 3) := dc9_182 (by decide +kernel)
theorem d_Ga_weighChances_207 : decode y_Ga_weighChances.2.1 207 = .ok (.ireturn, 1) := dc9_172 (by decide +kernel)
theorem d_Ga_weighChances_232 : decode y_Ga_weighChances.2.1 232 = .ok (.iload 8, 2) := dc9_21 (by decide +kernel)
theorem d_Ga_weighChances_234 : decode y_Ga_weighChances.2.1 234 = .ok (.iload_n 3, 1) := dc9_29 (by decide +kernel)
theorem d_Ga_weighChances_235 : decode y_Ga_weighChances.2.1 235 = .ok (.if_icmp .ge 34, 3) := dc9_162 (by decide +kernel)
theorem d_Ga_weighChances_269 : decode y_Ga_weighChances.2.1 269 = .ok (.lload 6, 2) := dc9_22 (by decide +kernel)
theorem d_Ga_weighChances_271 : decode y_Ga_weighChances.2.1 271 = .ok (.lload 4, 2) := dc9_22 (by decide +kernel)
theorem d_Ga_weighChances_273 : decode y_Ga_weighChances.2.1 273 = .ok (.lcmp, 1) := dc9_148 (by decide +kernel)
theorem d_Ga_weighChances_238 : decode y_Ga_weighChances.2.1 238 = .ok (.lload 6, 2) := dc9_22 (by decide +kernel)
theorem d_Ga_weighChances_240 : decode y_Ga_weighChances.2.1 240 = .ok (.lload 4, 2) := dc9_22 (by decide +kernel)
theorem d_Ga_weighChances_242 : decode y_Ga_weighChances.2.1 242 = .ok (.aload_n 0, 1) := dc9_42 (by decide +kernel)
theorem d_Ga_weighChances_243 : decode y_Ga_weighChances.2.1 243 = .ok (.getfield 52, 3) := dc9_180 (by decide +kernel)
theorem d_Ga_weighChances_246 : decode y_Ga_weighChances.2.1 246 = .ok (.iload 8, 2) := dc9_21 (by decide +kernel)
theorem d_Ga_weighChances_248 : decode y_Ga_weighChances.2.1 248 = .ok (.iaload, 1) := dc9_46 (by decide +kernel)
theorem d_Ga_weighChances_249 : decode y_Ga_weighChances.2.1 249 = .ok (.i2l, 1) := dc9_133 (by decide +kernel)
theorem d_Ga_weighChances_250 : decode y_Ga_weighChances.2.1 250 = .ok (.ldiv, 1) := dc9_109 (by decide +kernel)
theorem d_Ga_weighChances_251 : decode y_Ga_weighChances.2.1 251 = .ok (.aload_n 0, 1) := dc9_42 (by decide +kernel)
theorem d_Ga_weighChances_252 : decode y_Ga_weighChances.2.1 252 = .ok (.getfield 49, 3) := dc9_180 (by decide +kernel)
theorem d_Ga_weighChances_255 : decode y_Ga_weighChances.2.1 255 = .ok (.iload 8, 2) := dc9_21 (by decide +kernel)
theorem d_Ga_weighChances_257 : decode y_Ga_weighChances.2.1 257 = .ok (.iaload, 1) := dc9_46 (by decide +kernel)
theorem d_Ga_weighChances_258 : decode y_Ga_weighChances.2.1 258 = .ok (.i2l, 1) := dc9_133 (by decide +kernel)
theorem d_Ga_weighChances_259 : decode y_Ga_weighChances.2.1 259 = .ok (.lmul, 1) := dc9_105 (by decide +kernel)
theorem d_Ga_weighChances_260 : decode y_Ga_weighChances.2.1 260 = .ok (.ladd, 1) := dc9_97 (by decide +kernel)
theorem d_Ga_weighChances_261 : decode y_Ga_weighChances.2.1 261 = .ok (.lstore 6, 2) := dc9_55 (by decide +kernel)
theorem d_Ga_weighChances_263 : decode y_Ga_weighChances.2.1 263 = .ok (.iinc 8 1, 3) := by decide +kernel
theorem d_Ga_weighChances_266 : decode y_Ga_weighChances.2.1 266 = .ok (.goto (-34), 3) := dc9_167 (by decide +kernel)
theorem d_Ga_weighChances_274 : decode y_Ga_weighChances.2.1 274 = .ok (.ifCond .ne 7, 3) := dc9_154 (by decide +kernel)
theorem d_Ga_weighChances_277 : decode y_Ga_weighChances.2.1 277 = .ok (.iconst 0, 1) := dc9_3 (by decide +kernel)
theorem d_Ga_weighChances_278 : decode y_Ga_weighChances.2.1 278 = .ok (.goto 18, 3) := dc9_167 (by decide +kernel)
theorem d_Ga_weighChances_281 : decode y_Ga_weighChances.2.1 281 = .ok (.aload_n 0, 1) := dc9_42 (by decide +kernel)
theorem d_Ga_weighChances_282 : decode y_Ga_weighChances.2.1 282 = .ok (.bipush 11, 2) := dc9_16 (by decide +kernel)
theorem d_Ga_weighChances_284 : decode y_Ga_weighChances.2.1 284 = .ok (.aload_n 0, 1) := dc9_42 (by decide +kernel)
theorem d_Ga_weighChances_285 : decode y_Ga_weighChances.2.1 285 = .ok (.getfield 72, 3) := dc9_180 (by decide +kernel)
theorem d_Ga_weighChances_288 : decode y_Ga_weighChances.2.1 288 = .ok (.getfield 145, 3) := dc9_180 (by decide +kernel)
theorem d_Ga_weighChances_291 : decode y_Ga_weighChances.2.1 291 = .ok (.iload_n 1, 1) := dc9_27 (by decide +kernel)
theorem d_Ga_weighChances_292 : decode y_Ga_weighChances.2.1 292 = .ok (.iaload, 1) := dc9_46 (by decide +kernel)
theorem d_Ga_weighChances_293 : decode y_Ga_weighChances.2.1 293 = .ok (.invokevirtual 148, 3) := dc9_182 (by decide +kernel)
theorem d_Ga_weighChances_296 : decode y_Ga_weighChances.2.1 296 = .ok (.ireturn, 1) := dc9_172 (by decide +kernel)
def h_Ga_weighChances_27 (G : mG) (d : Nat) (a0 : Nat) (l1 : Int) (l2 : Int) (l3 : Int) (l4 : Int) (M : mM) (Q : Int → mM → Prop) : Prop := mWm G y_Ga_weighChances (d + 1) 27 [vr a0, vi l1, vi l2, vi l3, vi l4, vd, vd, vd, vd] [] M (fun r9 M9 => ∃ x9, r9 = some (vi x9) ∧ Q x9 M9)
def h_Ga_weighChances_150 (G : mG) (d : Nat) (a0 : Nat) (l1 : Int) (l3 : Int) (j4 : Int) (l6 : Int) (M : mM) (Q : Int → mM → Prop) : Prop := mWm G y_Ga_weighChances (d + 1) 150 [vr a0, vi l1, vd, vi l3, vl j4, vd, vi l6, vd, vd] [] M (fun r9 M9 => ∃ x9, r9 = some (vi x9) ∧ Q x9 M9)
def h_Ga_weighChances_232 (G : mG) (d : Nat) (a0 : Nat) (l1 : Int) (l3 : Int) (j4 : Int) (j6 : Int) (l8 : Int) (M : mM) (Q : Int → mM → Prop) : Prop := mWm G y_Ga_weighChances (d + 1) 232 [vr a0, vi l1, vd, vi l3, vl j4, vd, vl j6, vd, vi l8] [] M (fun r9 M9 => ∃ x9, r9 = some (vi x9) ∧ Q x9 M9)
def h_Ga_weighChances_296 (G : mG) (d : Nat) (k0 : Int) (M : mM) (Q : Int → mM → Prop) : Prop := mWm G y_Ga_weighChances (d + 1) 296 [vd, vd, vd, vd, vd, vd, vd, vd, vd] [vi k0] M (fun r9 M9 => ∃ x9, r9 = some (vi x9) ∧ Q x9 M9)
theorem k_Ga_weighChances {G : mG} {d : Nat} {a0 : Nat} {l1 : Int} {M : mM} {Q : Int → mM → Prop} (hO : mOk M) (hi_l1 : i32 l1)
    (h : mK M a0 = 7 ∧ mK M (mR M a0 14) = 6 ∧ mK M (mR M (mR M a0 14) 16) = 30 ∧ ((0 : Int) ≤ l1 ∧ l1 < (mN M (mR M (mR M a0 14) 16) : Int)) ∧ ((0 : Int) ≤ l1 + 1 ∧ l1 + 1 < (mN M (mR M (mR M a0 14) 16) : Int)) ∧ h_Ga_weighChances_27 G d a0 l1 (mI M (mR M (mR M a0 14) 16) (Int.toNat l1)) ((mI M (mR M (mR M a0 14) 16) (Int.toNat (l1 + 1))) - (mI M (mR M (mR M a0 14) 16) (Int.toNat l1))) 0 M Q) :
    Ci G y_Ga_weighChances (d + 1) [vr a0, vi l1] M Q := by
  refine wm_open (y := y_Ga_weighChances) rfl (Nat.le_of_ble_eq_true rfl) (L := [vr a0, vi l1, vd, vd, vd, vd, vd, vd, vd]) rfl ?_
  obtain ⟨h1, h⟩ := h
  obtain ⟨h2, h⟩ := h
  obtain ⟨h3, h⟩ := h
  obtain ⟨h4, h⟩ := h
  obtain ⟨h5, h⟩ := h
  refine wm_aload_n d_Ga_weighChances_0 rfl rfl ?_
  refine gf_Ga_72 rfl d_Ga_weighChances_1 h1 ?_
  refine gf_Ga_153 rfl d_Ga_weighChances_4 h2 ?_
  refine wm_iload_n d_Ga_weighChances_7 rfl rfl ?_
  refine wm_iald d_Ga_weighChances_8 h3 h4 ?_
  refine wm_istore_n d_Ga_weighChances_9 rfl (by decide) (L' := [vr a0, vi l1, vi (mI M (mR M (mR M a0 14) 16) (Int.toNat l1)), vd, vd, vd, vd, vd, vd]) rfl ?_
  refine wm_aload_n d_Ga_weighChances_10 rfl rfl ?_
  refine gf_Ga_72 rfl d_Ga_weighChances_11 h1 ?_
  refine gf_Ga_153 rfl d_Ga_weighChances_14 h2 ?_
  refine wm_iload_n d_Ga_weighChances_17 rfl rfl ?_
  refine wm_iconst d_Ga_weighChances_18 ?_
  refine wm_iadd d_Ga_weighChances_19 ?_
  refine wm_iald d_Ga_weighChances_20 h3 h5 ?_
  refine wm_iload_n d_Ga_weighChances_21 rfl rfl ?_
  refine wm_isub d_Ga_weighChances_22 ?_
  refine wm_istore_n d_Ga_weighChances_23 rfl (by decide) (L' := [vr a0, vi l1, vi (mI M (mR M (mR M a0 14) 16) (Int.toNat l1)), vi ((mI M (mR M (mR M a0 14) 16) (Int.toNat (l1 + 1))) - (mI M (mR M (mR M a0 14) 16) (Int.toNat l1))), vd, vd, vd, vd, vd]) rfl ?_
  refine wm_iconst d_Ga_weighChances_24 ?_
  refine wm_istore d_Ga_weighChances_25 (by decide) (L' := [vr a0, vi l1, vi (mI M (mR M (mR M a0 14) 16) (Int.toNat l1)), vi ((mI M (mR M (mR M a0 14) 16) (Int.toNat (l1 + 1))) - (mI M (mR M (mR M a0 14) 16) (Int.toNat l1))), vi 0, vd, vd, vd, vd]) rfl ?_
  exact h
theorem k_Ga_weighChances_27 {G : mG} {d : Nat} {a0 : Nat} {l1 : Int} {l2 : Int} {l3 : Int} {l4 : Int} {M : mM} {Q : Int → mM → Prop} (hO : mOk M) (hi_l1 : i32 l1) (hi_l2 : i32 l2) (hi_l3 : i32 l3) (hi_l4 : i32 l4)
    (h : ((l3 ≤ l4) → (h_Ga_weighChances_150 G d a0 l1 l3 1 0 M Q)) ∧ (¬ (l3 ≤ l4) → (mK M a0 = 7 ∧ mK M (mR M a0 14) = 6 ∧ mK M (mR M (mR M a0 14) 18) = 30 ∧ ((0 : Int) ≤ l2 + l4 ∧ l2 + l4 < (mN M (mR M (mR M a0 14) 18) : Int)) ∧ mK M (mR M a0 15) = 5 ∧ Ci G y_Ma_run d [vr (mR M a0 15), vi (mI M (mR M (mR M a0 14) 18) (Int.toNat (l2 + l4)))] M (fun x14 M13 => i32 x14 ∧ mOk M13 ∧ (((x14 = 0) → (mK M13 a0 = 7 ∧ Ci G y_Ga_machineFault d [vr a0] M13 (fun x20 M19 => i32 x20 ∧ mOk M19 ∧ (Q x20 M19)))) ∧ (¬ (x14 = 0) → (mK M13 a0 = 7 ∧ mK M13 (mR M13 a0 15) = 5 ∧ mK M13 (mR M13 (mR M13 a0 15) 6) = 30 ∧ ((0 : Int) ≤ 0 ∧ 0 < (mN M13 (mR M13 (mR M13 a0 15) 6) : Int)) ∧ mK M13 (mR M13 a0 17) = 30 ∧ ((0 : Int) ≤ l4 ∧ l4 < (mN M13 (mR M13 a0 17) : Int)) ∧ ∀ M28, M28 = mUI M13 (mR M13 a0 17) (Int.toNat l4) (mI M13 (mR M13 (mR M13 a0 15) 6) 0) → mK M28 (mR M28 a0 15) = 5 ∧ mK M28 (mR M28 (mR M28 a0 15) 7) = 30 ∧ ((0 : Int) ≤ 0 ∧ 0 < (mN M28 (mR M28 (mR M28 a0 15) 7) : Int)) ∧ mK M28 (mR M28 a0 18) = 30 ∧ ((0 : Int) ≤ l4 ∧ l4 < (mN M28 (mR M28 a0 18) : Int)) ∧ ∀ M35, M35 = mUI M28 (mR M28 a0 18) (Int.toNat l4) (mI M28 (mR M28 (mR M28 a0 15) 7) 0) → mK M35 (mR M35 a0 17) = 30 ∧ ((0 : Int) ≤ l4 ∧ l4 < (mN M35 (mR M35 a0 17) : Int)) ∧ (¬ (mI M35 (mR M35 a0 17) (Int.toNat l4) < 0) → (((0 : Int) ≤ l4 ∧ l4 < (mN M35 (mR M35 a0 17) : Int)) ∧ mK M35 (mR M35 a0 18) = 30 ∧ ((0 : Int) ≤ l4 ∧ l4 < (mN M35 (mR M35 a0 18) : Int)))) ∧ (((mI M35 (mR M35 a0 17) (Int.toNat l4) < 0) ∨ (¬ (mI M35 (mR M35 a0 17) (Int.toNat l4) ≤ mI M35 (mR M35 a0 18) (Int.toNat l4)))) → (mK M35 (mR M35 a0 14) = 6 ∧ mK M35 (mR M35 (mR M35 a0 14) 17) = 30 ∧ ((0 : Int) ≤ l2 + l4 ∧ l2 + l4 < (mN M35 (mR M35 (mR M35 a0 14) 17) : Int)) ∧ Ci G y_Ga_fault d [vr a0, vi 11, vi (mI M35 (mR M35 (mR M35 a0 14) 17) (Int.toNat (l2 + l4)))] M35 (fun x50 M49 => i32 x50 ∧ mOk M49 ∧ (Q x50 M49)))) ∧ (¬ ((mI M35 (mR M35 a0 17) (Int.toNat l4) < 0) ∨ (¬ (mI M35 (mR M35 a0 17) (Int.toNat l4) ≤ mI M35 (mR M35 a0 18) (Int.toNat l4)))) → (h_Ga_weighChances_27 G d a0 l1 l2 l3 (l4 + 1) M35 Q))))))))) :
    h_Ga_weighChances_27 G d a0 l1 l2 l3 l4 M Q := by
  unfold h_Ga_weighChances_27
  refine wm_iload d_Ga_weighChances_27 rfl ?_
  refine wm_iload_n d_Ga_weighChances_29 rfl rfl ?_
  refine wm_icmp_ge (tgt := 144) d_Ga_weighChances_30 rfl hi_l4 hi_l3 (fun c7 => ?_) (fun c7 => ?_)
  · replace h := h.1 c7
    refine wm_lconst (x := 1) d_Ga_weighChances_144 rfl ?_
    refine wm_lstore d_Ga_weighChances_145 (by decide) (L' := [vr a0, vi l1, vi l2, vi l3, vl 1, vd, vd, vd, vd]) rfl ?_
    refine wm_iconst d_Ga_weighChances_147 ?_
    refine wm_istore d_Ga_weighChances_148 (by decide) (L' := [vr a0, vi l1, vi l2, vi l3, vl 1, vd, vi 0, vd, vd]) rfl ?_
    refine wm_less (L' := [vr a0, vi l1, vd, vi l3, vl 1, vd, vi 0, vd, vd]) ⟨Or.inr rfl, Or.inr rfl, Or.inl rfl, Or.inr rfl, Or.inr rfl, Or.inl rfl, Or.inr rfl, Or.inl rfl, Or.inl rfl, trivial⟩ ?_
    exact h
  · replace h := h.2 c7
    obtain ⟨h8, h⟩ := h
    obtain ⟨h9, h⟩ := h
    obtain ⟨h10, h⟩ := h
    obtain ⟨h11, h⟩ := h
    obtain ⟨h12, h⟩ := h
    refine wm_aload_n d_Ga_weighChances_33 rfl rfl ?_
    refine gf_Ga_42 rfl d_Ga_weighChances_34 h8 ?_
    refine wm_aload_n d_Ga_weighChances_37 rfl rfl ?_
    refine gf_Ga_72 rfl d_Ga_weighChances_38 h8 ?_
    refine gf_Ga_158 rfl d_Ga_weighChances_41 h9 ?_
    refine wm_iload_n d_Ga_weighChances_44 rfl rfl ?_
    refine wm_iload d_Ga_weighChances_45 rfl ?_
    refine wm_iadd d_Ga_weighChances_47 ?_
    refine wm_iald d_Ga_weighChances_48 h10 h11 ?_
    refine cf_Ga_123 rfl d_Ga_weighChances_49 h12 (Nat.le_of_ble_eq_true rfl) (Ci.mono h (fun x14 M13 h => ?_))
    obtain ⟨h15, hOM13, h⟩ := h
    refine wm_if_ne (tgt := 60) d_Ga_weighChances_52 rfl h15 (fun c17 => ?_) (fun c17 => ?_)
    · replace h := h.2 c17
      obtain ⟨h22, h⟩ := h
      obtain ⟨h23, h⟩ := h
      obtain ⟨h24, h⟩ := h
      obtain ⟨h25, h⟩ := h
      obtain ⟨h26, h⟩ := h
      obtain ⟨h27, h⟩ := h
      obtain ⟨M28, e29⟩ : ∃ M28, M28 = mUI M13 (mR M13 a0 17) (Int.toNat l4) (mI M13 (mR M13 (mR M13 a0 15) 6) 0) := ⟨_, rfl⟩
      replace h := h M28 e29
      obtain ⟨h30, h⟩ := h
      obtain ⟨h31, h⟩ := h
      obtain ⟨h32, h⟩ := h
      obtain ⟨h33, h⟩ := h
      obtain ⟨h34, h⟩ := h
      obtain ⟨M35, e36⟩ : ∃ M35, M35 = mUI M28 (mR M28 a0 18) (Int.toNat l4) (mI M28 (mR M28 (mR M28 a0 15) 7) 0) := ⟨_, rfl⟩
      replace h := h M35 e36
      obtain ⟨h37, h⟩ := h
      obtain ⟨h38, h⟩ := h
      refine wm_aload_n d_Ga_weighChances_60 rfl rfl ?_
      refine gf_Ga_49 rfl d_Ga_weighChances_61 h22 ?_
      refine wm_iload d_Ga_weighChances_64 rfl ?_
      refine wm_aload_n d_Ga_weighChances_66 rfl rfl ?_
      refine gf_Ga_42 rfl d_Ga_weighChances_67 h22 ?_
      refine gf_Ga_129 rfl d_Ga_weighChances_70 h23 ?_
      refine wm_iconst d_Ga_weighChances_73 ?_
      refine wm_iald d_Ga_weighChances_74 h24 h25 ?_
      have hOM28 : mOk M28 := by rw [e29]; exact mOk_UI hOM13 (hOM13 _ _).1
      refine wm_iastE d_Ga_weighChances_75 h26 h27 (hOM13 _ _).1 e29 ?_
      refine wm_aload_n d_Ga_weighChances_76 rfl rfl ?_
      refine gf_Ga_52 rfl d_Ga_weighChances_77 (by rw [e29]; exact h22) ?_
      refine wm_iload d_Ga_weighChances_80 rfl ?_
      refine wm_aload_n d_Ga_weighChances_82 rfl rfl ?_
      refine gf_Ga_42 rfl d_Ga_weighChances_83 (by rw [e29]; exact h22) ?_
      refine gf_Ga_161 rfl d_Ga_weighChances_86 h30 ?_
      refine wm_iconst d_Ga_weighChances_89 ?_
      refine wm_iald d_Ga_weighChances_90 h31 h32 ?_
      have hOM35 : mOk M35 := by rw [e36]; exact mOk_UI hOM28 (hOM28 _ _).1
      refine wm_iastE d_Ga_weighChances_91 h33 h34 (hOM28 _ _).1 e36 ?_
      refine wm_aload_n d_Ga_weighChances_92 rfl rfl ?_
      refine gf_Ga_49 rfl d_Ga_weighChances_93 (by rw [e36, e29]; exact h22) ?_
      refine wm_iload d_Ga_weighChances_96 rfl ?_
      refine wm_iald d_Ga_weighChances_98 h37 h38 ?_
      obtain ⟨s44, h⟩ := h
      have hE0 : ((mI M35 (mR M35 a0 17) (Int.toNat l4) < 0) ∨ (¬ (mI M35 (mR M35 a0 17) (Int.toNat l4) ≤ mI M35 (mR M35 a0 18) (Int.toNat l4)))) → mWm G y_Ga_weighChances (d + 1) 119 [vr a0, vi l1, vi l2, vi l3, vi l4, vd, vd, vd, vd] [] M35 (fun r9 M9 => ∃ x9, r9 = some (vi x9) ∧ Q x9 M9) := by
        intro q45
        have h := h.1 q45
        obtain ⟨h46, h⟩ := h
        obtain ⟨h47, h⟩ := h
        obtain ⟨h48, h⟩ := h
        refine wm_aload_n d_Ga_weighChances_119 rfl rfl ?_
        refine wm_bipush d_Ga_weighChances_120 (by decide) ?_
        refine wm_aload_n d_Ga_weighChances_122 rfl rfl ?_
        refine gf_Ga_72 rfl d_Ga_weighChances_123 (by rw [e36, e29]; exact h22) ?_
        refine gf_Ga_164 rfl d_Ga_weighChances_126 h46 ?_
        refine wm_iload_n d_Ga_weighChances_129 rfl rfl ?_
        refine wm_iload d_Ga_weighChances_130 rfl ?_
        refine wm_iadd d_Ga_weighChances_132 ?_
        refine wm_iald d_Ga_weighChances_133 h47 h48 ?_
        refine cf_Ga_148 rfl d_Ga_weighChances_134 (by rw [e36, e29]; exact h22) (Nat.le_of_ble_eq_true rfl) (Ci.mono h (fun x50 M49 h => ?_))
        obtain ⟨h51, hOM49, h⟩ := h
        refine wm_ireturn d_Ga_weighChances_137 rfl rfl ?_
        exact ⟨_, rfl, h⟩
      have hE1 : ¬ ((mI M35 (mR M35 a0 17) (Int.toNat l4) < 0) ∨ (¬ (mI M35 (mR M35 a0 17) (Int.toNat l4) ≤ mI M35 (mR M35 a0 18) (Int.toNat l4)))) → mWm G y_Ga_weighChances (d + 1) 138 [vr a0, vi l1, vi l2, vi l3, vi l4, vd, vd, vd, vd] [] M35 (fun r9 M9 => ∃ x9, r9 = some (vi x9) ∧ Q x9 M9) := by
        intro q52
        have h := h.2 q52
        refine wm_iinc d_Ga_weighChances_138 (by decide) rfl (L' := [vr a0, vi l1, vi l2, vi l3, vi (l4 + 1), vd, vd, vd, vd]) rfl ?_
        refine wm_goto (tgt := 27) d_Ga_weighChances_141 rfl ?_
        exact h
      clear h
      have s53 := s44
      refine wm_if_lt (tgt := 119) d_Ga_weighChances_99 rfl (hOM35 _ _).1 (fun c43 => ?_) (fun c43 => ?_)
      · exact hE0 (Or.inl c43)
      · have s53 := s53 c43
        obtain ⟨h39, h40, h41⟩ := s53
        refine wm_aload_n d_Ga_weighChances_102 rfl rfl ?_
        refine gf_Ga_49 rfl d_Ga_weighChances_103 (by rw [e36, e29]; exact h22) ?_
        refine wm_iload d_Ga_weighChances_106 rfl ?_
        refine wm_iald d_Ga_weighChances_108 h37 h39 ?_
        refine wm_aload_n d_Ga_weighChances_109 rfl rfl ?_
        refine gf_Ga_52 rfl d_Ga_weighChances_110 (by rw [e36, e29]; exact h22) ?_
        refine wm_iload d_Ga_weighChances_113 rfl ?_
        refine wm_iald d_Ga_weighChances_115 h40 h41 ?_
        refine wm_icmp_le (tgt := 138) d_Ga_weighChances_116 rfl (hOM35 _ _).1 (hOM35 _ _).1 (fun c42 => ?_) (fun c42 => ?_)
        · exact hE1 (fun z54 => Or.elim z54 c43 (fun z55 => z55 c42))
        · exact hE0 (Or.inr c42)
    · replace c17 := Classical.not_not.mp c17
      replace h := h.1 c17
      obtain ⟨h18, h⟩ := h
      refine wm_aload_n d_Ga_weighChances_55 rfl rfl ?_
      refine cf_Ga_126 rfl d_Ga_weighChances_56 h18 (Nat.le_of_ble_eq_true rfl) (Ci.mono h (fun x20 M19 h => ?_))
      obtain ⟨h21, hOM19, h⟩ := h
      refine wm_ireturn d_Ga_weighChances_59 rfl rfl ?_
      exact ⟨_, rfl, h⟩
theorem k_Ga_weighChances_150 {G : mG} {d : Nat} {a0 : Nat} {l1 : Int} {l3 : Int} {j4 : Int} {l6 : Int} {M : mM} {Q : Int → mM → Prop} (hO : mOk M) (hi_l1 : i32 l1) (hi_l3 : i32 l3) (hi_j4 : i64 j4) (hi_l6 : i32 l6)
    (h : ((l3 ≤ l6) → (mK M a0 = 7 ∧ mK M (mR M a0 6) = 30 ∧ ((0 : Int) ≤ mI M a0 12 ∧ mI M a0 12 < (mN M (mR M a0 6) : Int)) ∧ i32 j4 ∧ ∀ M66, M66 = mUI M (mR M a0 6) (Int.toNat (mI M a0 12)) j4 → h_Ga_weighChances_232 G d a0 l1 l3 j4 0 0 M66 Q)) ∧ (¬ (l3 ≤ l6) → (mK M a0 = 7 ∧ mK M (mR M a0 18) = 30 ∧ ((0 : Int) ≤ l6 ∧ l6 < (mN M (mR M a0 18) : Int)) ∧ Cj G y_Ma_commonDivisor d [vl j4, vl (mI M (mR M a0 18) (Int.toNat l6))] M (fun x72 M71 => i64 x72 ∧ mOk M71 ∧ (x72 ≠ 0 ∧ mK M71 a0 = 7 ∧ mK M71 (mR M71 a0 18) = 30 ∧ ((0 : Int) ≤ l6 ∧ l6 < (mN M71 (mR M71 a0 18) : Int)) ∧ i64 ((Int.tdiv j4 x72) * (mI M71 (mR M71 a0 18) (Int.toNat l6))) ∧ ((cmpL ((Int.tdiv j4 x72) * (mI M71 (mR M71 a0 18) (Int.toNat l6))) 1000000000 < 0) → (h_Ga_weighChances_150 G d a0 l1 l3 ((Int.tdiv j4 x72) * (mI M71 (mR M71 a0 18) (Int.toNat l6))) (l6 + 1) M71 Q)) ∧ (¬ (cmpL ((Int.tdiv j4 x72) * (mI M71 (mR M71 a0 18) (Int.toNat l6))) 1000000000 < 0) → (mK M71 (mR M71 a0 14) = 6 ∧ mK M71 (mR M71 (mR M71 a0 14) 14) = 30 ∧ ((0 : Int) ≤ l1 ∧ l1 < (mN M71 (mR M71 (mR M71 a0 14) 14) : Int)) ∧ Ci G y_Ga_fault d [vr a0, vi 6, vi (mI M71 (mR M71 (mR M71 a0 14) 14) (Int.toNat l1))] M71 (fun x85 M84 => i32 x85 ∧ mOk M84 ∧ (Q x85 M84))))))))) :
    h_Ga_weighChances_150 G d a0 l1 l3 j4 l6 M Q := by
  unfold h_Ga_weighChances_150
  refine wm_iload d_Ga_weighChances_150 rfl ?_
  refine wm_iload_n d_Ga_weighChances_152 rfl rfl ?_
  refine wm_icmp_ge (tgt := 214) d_Ga_weighChances_153 rfl hi_l6 hi_l3 (fun c61 => ?_) (fun c61 => ?_)
  · replace h := h.1 c61
    obtain ⟨h62, h⟩ := h
    obtain ⟨h63, h⟩ := h
    obtain ⟨h64, h⟩ := h
    obtain ⟨h65, h⟩ := h
    obtain ⟨M66, e67⟩ : ∃ M66, M66 = mUI M (mR M a0 6) (Int.toNat (mI M a0 12)) j4 := ⟨_, rfl⟩
    replace h := h M66 e67
    refine wm_aload_n d_Ga_weighChances_214 rfl rfl ?_
    refine gf_Ga_27 rfl d_Ga_weighChances_215 h62 ?_
    refine wm_aload_n d_Ga_weighChances_218 rfl rfl ?_
    refine gf_Ga_59 rfl d_Ga_weighChances_219 h62 ?_
    refine wm_lload d_Ga_weighChances_222 rfl ?_
    refine wm_l2i d_Ga_weighChances_224 ?_
    have hOM66 : mOk M66 := by rw [e67]; exact mOk_UI hO h65
    refine wm_iastE d_Ga_weighChances_225 h63 h64 h65 e67 ?_
    refine wm_lconst (x := 0) d_Ga_weighChances_226 rfl ?_
    refine wm_lstore d_Ga_weighChances_227 (by decide) (L' := [vr a0, vi l1, vd, vi l3, vl j4, vd, vl 0, vd, vd]) rfl ?_
    refine wm_iconst d_Ga_weighChances_229 ?_
    refine wm_istore d_Ga_weighChances_230 (by decide) (L' := [vr a0, vi l1, vd, vi l3, vl j4, vd, vl 0, vd, vi 0]) rfl ?_
    exact h
  · replace h := h.2 c61
    obtain ⟨h68, h⟩ := h
    obtain ⟨h69, h⟩ := h
    obtain ⟨h70, h⟩ := h
    refine wm_lload d_Ga_weighChances_156 rfl ?_
    refine wm_lload d_Ga_weighChances_158 rfl ?_
    refine wm_aload_n d_Ga_weighChances_160 rfl rfl ?_
    refine gf_Ga_52 rfl d_Ga_weighChances_161 h68 ?_
    refine wm_iload d_Ga_weighChances_164 rfl ?_
    refine wm_iald d_Ga_weighChances_166 h69 h70 ?_
    refine wm_i2l d_Ga_weighChances_167 (hO _ _).1 ?_
    refine cf_Ga_167 rfl d_Ga_weighChances_168 (Nat.le_of_ble_eq_true rfl) (Cj.mono h (fun x72 M71 h => ?_))
    obtain ⟨h73, hOM71, h⟩ := h
    obtain ⟨h74, h⟩ := h
    obtain ⟨h75, h⟩ := h
    obtain ⟨h76, h⟩ := h
    obtain ⟨h77, h⟩ := h
    obtain ⟨h78, h⟩ := h
    refine wm_ldiv d_Ga_weighChances_171 hi_j4 h73 h74 ?_
    refine wm_aload_n d_Ga_weighChances_172 rfl rfl ?_
    refine gf_Ga_52 rfl d_Ga_weighChances_173 h75 ?_
    refine wm_iload d_Ga_weighChances_176 rfl ?_
    refine wm_iald d_Ga_weighChances_178 h76 h77 ?_
    refine wm_i2l d_Ga_weighChances_179 (hOM71 _ _).1 ?_
    refine wm_lmul d_Ga_weighChances_180 ?_
    refine wm_lstore d_Ga_weighChances_181 (by decide) (L' := [vr a0, vi l1, vd, vi l3, vl ((Int.tdiv j4 x72) * (mI M71 (mR M71 a0 18) (Int.toNat l6))), vd, vi l6, vd, vd]) rfl ?_
    refine wm_lload d_Ga_weighChances_183 rfl ?_
    refine wm_ldc2 (x := 1000000000) d_Ga_weighChances_185 k8_29 (by decide) ?_
    refine wm_lcmp d_Ga_weighChances_188 h78 ⟨by decide, by decide⟩ ?_
    refine wm_if_lt (tgt := 208) d_Ga_weighChances_189 rfl (m_cmp32 _ _) (fun c80 => ?_) (fun c80 => ?_)
    · replace h := h.1 c80
      refine wm_iinc d_Ga_weighChances_208 (by decide) rfl (L' := [vr a0, vi l1, vd, vi l3, vl ((Int.tdiv j4 x72) * (mI M71 (mR M71 a0 18) (Int.toNat l6))), vd, vi (l6 + 1), vd, vd]) rfl ?_
      refine wm_goto (tgt := 150) d_Ga_weighChances_211 rfl ?_
      exact h
    · replace h := h.2 c80
      obtain ⟨h81, h⟩ := h
      obtain ⟨h82, h⟩ := h
      obtain ⟨h83, h⟩ := h
      refine wm_aload_n d_Ga_weighChances_192 rfl rfl ?_
      refine wm_bipush d_Ga_weighChances_193 (by decide) ?_
      refine wm_aload_n d_Ga_weighChances_195 rfl rfl ?_
      refine gf_Ga_72 rfl d_Ga_weighChances_196 h75 ?_
      refine gf_Ga_145 rfl d_Ga_weighChances_199 h81 ?_
      refine wm_iload_n d_Ga_weighChances_202 rfl rfl ?_
      refine wm_iald d_Ga_weighChances_203 h82 h83 ?_
      refine cf_Ga_148 rfl d_Ga_weighChances_204 h75 (Nat.le_of_ble_eq_true rfl) (Ci.mono h (fun x85 M84 h => ?_))
      obtain ⟨h86, hOM84, h⟩ := h
      refine wm_ireturn d_Ga_weighChances_207 rfl rfl ?_
      exact ⟨_, rfl, h⟩
theorem k_Ga_weighChances_232 {G : mG} {d : Nat} {a0 : Nat} {l1 : Int} {l3 : Int} {j4 : Int} {j6 : Int} {l8 : Int} {M : mM} {Q : Int → mM → Prop} (hO : mOk M) (hi_l1 : i32 l1) (hi_l3 : i32 l3) (hi_j4 : i64 j4) (hi_j6 : i64 j6) (hi_l8 : i32 l8)
    (h : ((l3 ≤ l8) → (((cmpL j6 j4 = 0) → (h_Ga_weighChances_296 G d 0 M Q)) ∧ (¬ (cmpL j6 j4 = 0) → (mK M a0 = 7 ∧ mK M (mR M a0 14) = 6 ∧ mK M (mR M (mR M a0 14) 14) = 30 ∧ ((0 : Int) ≤ l1 ∧ l1 < (mN M (mR M (mR M a0 14) 14) : Int)) ∧ Ci G y_Ga_fault d [vr a0, vi 11, vi (mI M (mR M (mR M a0 14) 14) (Int.toNat l1))] M (fun x103 M102 => i32 x103 ∧ mOk M102 ∧ (h_Ga_weighChances_296 G d x103 M102 Q)))))) ∧ (¬ (l3 ≤ l8) → (mK M a0 = 7 ∧ mK M (mR M a0 18) = 30 ∧ ((0 : Int) ≤ l8 ∧ l8 < (mN M (mR M a0 18) : Int)) ∧ (mI M (mR M a0 18) (Int.toNat l8)) ≠ 0 ∧ mK M (mR M a0 17) = 30 ∧ ((0 : Int) ≤ l8 ∧ l8 < (mN M (mR M a0 17) : Int)) ∧ h_Ga_weighChances_232 G d a0 l1 l3 j4 (j6 + ((Int.tdiv j4 (mI M (mR M a0 18) (Int.toNat l8))) * (mI M (mR M a0 17) (Int.toNat l8)))) (l8 + 1) M Q))) :
    h_Ga_weighChances_232 G d a0 l1 l3 j4 j6 l8 M Q := by
  unfold h_Ga_weighChances_232
  refine wm_iload d_Ga_weighChances_232 rfl ?_
  refine wm_iload_n d_Ga_weighChances_234 rfl rfl ?_
  refine wm_icmp_ge (tgt := 269) d_Ga_weighChances_235 rfl hi_l8 hi_l3 (fun c95 => ?_) (fun c95 => ?_)
  · replace h := h.1 c95
    refine wm_lload d_Ga_weighChances_269 rfl ?_
    refine wm_lload d_Ga_weighChances_271 rfl ?_
    refine wm_lcmp d_Ga_weighChances_273 hi_j6 hi_j4 ?_
    refine wm_if_ne (tgt := 281) d_Ga_weighChances_274 rfl (m_cmp32 _ _) (fun c97 => ?_) (fun c97 => ?_)
    · replace h := h.2 c97
      obtain ⟨h98, h⟩ := h
      obtain ⟨h99, h⟩ := h
      obtain ⟨h100, h⟩ := h
      obtain ⟨h101, h⟩ := h
      refine wm_aload_n d_Ga_weighChances_281 rfl rfl ?_
      refine wm_bipush d_Ga_weighChances_282 (by decide) ?_
      refine wm_aload_n d_Ga_weighChances_284 rfl rfl ?_
      refine gf_Ga_72 rfl d_Ga_weighChances_285 h98 ?_
      refine gf_Ga_145 rfl d_Ga_weighChances_288 h99 ?_
      refine wm_iload_n d_Ga_weighChances_291 rfl rfl ?_
      refine wm_iald d_Ga_weighChances_292 h100 h101 ?_
      refine cf_Ga_148 rfl d_Ga_weighChances_293 h98 (Nat.le_of_ble_eq_true rfl) (Ci.mono h (fun x103 M102 h => ?_))
      obtain ⟨h104, hOM102, h⟩ := h
      refine wm_less (L' := [vd, vd, vd, vd, vd, vd, vd, vd, vd]) ⟨Or.inl rfl, Or.inl rfl, Or.inl rfl, Or.inl rfl, Or.inl rfl, Or.inl rfl, Or.inl rfl, Or.inl rfl, Or.inl rfl, trivial⟩ ?_
      exact h
    · replace c97 := Classical.not_not.mp c97
      replace h := h.1 c97
      refine wm_iconst d_Ga_weighChances_277 ?_
      refine wm_goto (tgt := 296) d_Ga_weighChances_278 rfl ?_
      refine wm_less (L' := [vd, vd, vd, vd, vd, vd, vd, vd, vd]) ⟨Or.inl rfl, Or.inl rfl, Or.inl rfl, Or.inl rfl, Or.inl rfl, Or.inl rfl, Or.inl rfl, Or.inl rfl, Or.inl rfl, trivial⟩ ?_
      exact h
  · replace h := h.2 c95
    obtain ⟨h105, h⟩ := h
    obtain ⟨h106, h⟩ := h
    obtain ⟨h107, h⟩ := h
    obtain ⟨h108, h⟩ := h
    obtain ⟨h109, h⟩ := h
    obtain ⟨h110, h⟩ := h
    refine wm_lload d_Ga_weighChances_238 rfl ?_
    refine wm_lload d_Ga_weighChances_240 rfl ?_
    refine wm_aload_n d_Ga_weighChances_242 rfl rfl ?_
    refine gf_Ga_52 rfl d_Ga_weighChances_243 h105 ?_
    refine wm_iload d_Ga_weighChances_246 rfl ?_
    refine wm_iald d_Ga_weighChances_248 h106 h107 ?_
    refine wm_i2l d_Ga_weighChances_249 (hO _ _).1 ?_
    refine wm_ldiv d_Ga_weighChances_250 hi_j4 (i64_of32 (hO _ _).1) h108 ?_
    refine wm_aload_n d_Ga_weighChances_251 rfl rfl ?_
    refine gf_Ga_49 rfl d_Ga_weighChances_252 h105 ?_
    refine wm_iload d_Ga_weighChances_255 rfl ?_
    refine wm_iald d_Ga_weighChances_257 h109 h110 ?_
    refine wm_i2l d_Ga_weighChances_258 (hO _ _).1 ?_
    refine wm_lmul d_Ga_weighChances_259 ?_
    refine wm_ladd d_Ga_weighChances_260 ?_
    refine wm_lstore d_Ga_weighChances_261 (by decide) (L' := [vr a0, vi l1, vd, vi l3, vl j4, vd, vl (j6 + ((Int.tdiv j4 (mI M (mR M a0 18) (Int.toNat l8))) * (mI M (mR M a0 17) (Int.toNat l8)))), vd, vi l8]) rfl ?_
    refine wm_iinc d_Ga_weighChances_263 (by decide) rfl (L' := [vr a0, vi l1, vd, vi l3, vl j4, vd, vl (j6 + ((Int.tdiv j4 (mI M (mR M a0 18) (Int.toNat l8))) * (mI M (mR M a0 17) (Int.toNat l8)))), vd, vi (l8 + 1)]) rfl ?_
    refine wm_goto (tgt := 232) d_Ga_weighChances_266 rfl ?_
    exact h
theorem k_Ga_weighChances_296 {G : mG} {d : Nat} {k0 : Int} {M : mM} {Q : Int → mM → Prop} (hO : mOk M) (hi_k0 : i32 k0)
    (h : Q k0 M) :
    h_Ga_weighChances_296 G d k0 M Q := by
  unfold h_Ga_weighChances_296
  refine wm_ireturn d_Ga_weighChances_296 rfl rfl ?_
  exact ⟨_, rfl, h⟩
theorem d_Ga_follow_0 : decode y_Ga_follow.2.1 0 = .ok (.aload_n 0, 1) := dc9_42 (by decide +kernel)
theorem d_Ga_follow_1 : decode y_Ga_follow.2.1 1 = .ok (.getfield 42, 3) := dc9_180 (by decide +kernel)
theorem d_Ga_follow_4 : decode y_Ga_follow.2.1 4 = .ok (.invokevirtual 173, 3) := dc9_182 (by decide +kernel)
theorem d_Ga_follow_7 : decode y_Ga_follow.2.1 7 = .ok (.aload_n 0, 1) := dc9_42 (by decide +kernel)
theorem d_Ga_follow_8 : decode y_Ga_follow.2.1 8 = .ok (.getfield 42, 3) := dc9_180 (by decide +kernel)
theorem d_Ga_follow_11 : decode y_Ga_follow.2.1 11 = .ok (.aload_n 0, 1) := dc9_42 (by decide +kernel)
theorem d_Ga_follow_12 : decode y_Ga_follow.2.1 12 = .ok (.getfield 72, 3) := dc9_180 (by decide +kernel)
theorem d_Ga_follow_15 : decode y_Ga_follow.2.1 15 = .ok (.getfield 176, 3) := dc9_180 (by decide +kernel)
theorem d_Ga_follow_18 : decode y_Ga_follow.2.1 18 = .ok (.iload_n 2, 1) := dc9_28 (by decide +kernel)
theorem d_Ga_follow_19 : decode y_Ga_follow.2.1 19 = .ok (.iaload, 1) := dc9_46 (by decide +kernel)
theorem d_Ga_follow_20 : decode y_Ga_follow.2.1 20 = .ok (.invokevirtual 123, 3) := dc9_182 (by decide +kernel)
theorem d_Ga_follow_23 : decode y_Ga_follow.2.1 23 = .ok (.ifCond .ne 8, 3) := dc9_154 (by decide +kernel)
theorem d_Ga_follow_26 : decode y_Ga_follow.2.1 26 = .ok (.aload_n 0, 1) := dc9_42 (by decide +kernel)
theorem d_Ga_follow_31 : decode y_Ga_follow.2.1 31 = .ok (.aload_n 0, 1) := dc9_42 (by decide +kernel)
theorem d_Ga_follow_27 : decode y_Ga_follow.2.1 27 = .ok (.invokevirtual 126, 3) := dc9_182 (by decide +kernel)
theorem d_Ga_follow_30 : decode y_Ga_follow.2.1 30 = .ok (.ireturn, 1) := dc9_172 (by decide +kernel)
theorem d_Ga_follow_32 : decode y_Ga_follow.2.1 32 = .ok (.invokevirtual 100, 3) := dc9_182 (by decide +kernel)
theorem d_Ga_follow_35 : decode y_Ga_follow.2.1 35 = .ok (.istore 4, 2) := dc9_54 (by decide +kernel)
theorem d_Ga_follow_37 : decode y_Ga_follow.2.1 37 = .ok (.iload 4, 2) := dc9_21 (by decide +kernel)
theorem d_Ga_follow_39 : decode y_Ga_follow.2.1 39 = .ok (.iconst (-1), 1) := dc9_2 (by decide +kernel)
theorem d_Ga_follow_40 : decode y_Ga_follow.2.1 40 = .ok (.if_icmp .ne 18, 3) := dc9_160 (by decide +kernel)
theorem d_Ga_follow_43 : decode y_Ga_follow.2.1 43 = .ok (.aload_n 0, 1) := dc9_42 (by decide +kernel)
theorem d_Ga_follow_44 : decode y_Ga_follow.2.1 44 = .ok (.iconst 5, 1) := dc9_8 (by decide +kernel)
theorem d_Ga_follow_45 : decode y_Ga_follow.2.1 45 = .ok (.aload_n 0, 1) := dc9_42 (by decide +kernel)
theorem d_Ga_follow_46 : decode y_Ga_follow.2.1 46 = .ok (.getfield 72, 3) := dc9_180 (by decide +kernel)
theorem d_Ga_follow_49 : decode y_Ga_follow.2.1 49 = .ok (.getfield 164, 3) := dc9_180 (by decide +kernel)
theorem d_Ga_follow_52 : decode y_Ga_follow.2.1 52 = .ok (.iload_n 2, 1) := dc9_28 (by decide +kernel)
theorem d_Ga_follow_53 : decode y_Ga_follow.2.1 53 = .ok (.iaload, 1) := dc9_46 (by decide +kernel)
theorem d_Ga_follow_58 : decode y_Ga_follow.2.1 58 = .ok (.aload_n 0, 1) := dc9_42 (by decide +kernel)
theorem d_Ga_follow_59 : decode y_Ga_follow.2.1 59 = .ok (.getfield 30, 3) := dc9_180 (by decide +kernel)
theorem d_Ga_follow_62 : decode y_Ga_follow.2.1 62 = .ok (.aload_n 0, 1) := dc9_42 (by decide +kernel)
theorem d_Ga_follow_63 : decode y_Ga_follow.2.1 63 = .ok (.getfield 59, 3) := dc9_180 (by decide +kernel)
theorem d_Ga_follow_66 : decode y_Ga_follow.2.1 66 = .ok (.iaload, 1) := dc9_46 (by decide +kernel)
theorem d_Ga_follow_67 : decode y_Ga_follow.2.1 67 = .ok (.istore 5, 2) := dc9_54 (by decide +kernel)
theorem d_Ga_follow_54 : decode y_Ga_follow.2.1 54 = .ok (.invokevirtual 148, 3) := dc9_182 (by decide +kernel)
theorem d_Ga_follow_57 : decode y_Ga_follow.2.1 57 = .ok (.ireturn, 1) := dc9_172 (by decide +kernel)
theorem d_Ga_follow_69 : decode y_Ga_follow.2.1 69 = .ok (.iload 5, 2) := dc9_21 (by decide +kernel)
theorem d_Ga_follow_71 : decode y_Ga_follow.2.1 71 = .ok (.aload_n 0, 1) := dc9_42 (by decide +kernel)
theorem d_Ga_follow_72 : decode y_Ga_follow.2.1 72 = .ok (.getfield 62, 3) := dc9_180 (by decide +kernel)
theorem d_Ga_follow_75 : decode y_Ga_follow.2.1 75 = .ok (.if_icmp .ge 34, 3) := dc9_162 (by decide +kernel)
theorem d_Ga_follow_109 : decode y_Ga_follow.2.1 109 = .ok (.aload_n 0, 1) := dc9_42 (by decide +kernel)
theorem d_Ga_follow_110 : decode y_Ga_follow.2.1 110 = .ok (.getfield 62, 3) := dc9_180 (by decide +kernel)
theorem d_Ga_follow_113 : decode y_Ga_follow.2.1 113 = .ok (.sipush 4096, 3) := dc9_17 (by decide +kernel)
theorem d_Ga_follow_78 : decode y_Ga_follow.2.1 78 = .ok (.aload_n 0, 1) := dc9_42 (by decide +kernel)
theorem d_Ga_follow_79 : decode y_Ga_follow.2.1 79 = .ok (.getfield 33, 3) := dc9_180 (by decide +kernel)
theorem d_Ga_follow_82 : decode y_Ga_follow.2.1 82 = .ok (.iload 5, 2) := dc9_21 (by decide +kernel)
theorem d_Ga_follow_84 : decode y_Ga_follow.2.1 84 = .ok (.iaload, 1) := dc9_46 (by decide +kernel)
theorem d_Ga_follow_85 : decode y_Ga_follow.2.1 85 = .ok (.iload 4, 2) := dc9_21 (by decide +kernel)
theorem d_Ga_follow_116 : decode y_Ga_follow.2.1 116 = .ok (.if_icmp .ne 18, 3) := dc9_160 (by decide +kernel)
theorem d_Ga_follow_119 : decode y_Ga_follow.2.1 119 = .ok (.aload_n 0, 1) := dc9_42 (by decide +kernel)
theorem d_Ga_follow_120 : decode y_Ga_follow.2.1 120 = .ok (.iconst 5, 1) := dc9_8 (by decide +kernel)
theorem d_Ga_follow_121 : decode y_Ga_follow.2.1 121 = .ok (.aload_n 0, 1) := dc9_42 (by decide +kernel)
theorem d_Ga_follow_122 : decode y_Ga_follow.2.1 122 = .ok (.getfield 72, 3) := dc9_180 (by decide +kernel)
theorem d_Ga_follow_125 : decode y_Ga_follow.2.1 125 = .ok (.getfield 145, 3) := dc9_180 (by decide +kernel)
theorem d_Ga_follow_128 : decode y_Ga_follow.2.1 128 = .ok (.iload_n 1, 1) := dc9_27 (by decide +kernel)
theorem d_Ga_follow_129 : decode y_Ga_follow.2.1 129 = .ok (.iaload, 1) := dc9_46 (by decide +kernel)
theorem d_Ga_follow_134 : decode y_Ga_follow.2.1 134 = .ok (.aload_n 0, 1) := dc9_42 (by decide +kernel)
theorem d_Ga_follow_135 : decode y_Ga_follow.2.1 135 = .ok (.getfield 33, 3) := dc9_180 (by decide +kernel)
theorem d_Ga_follow_138 : decode y_Ga_follow.2.1 138 = .ok (.aload_n 0, 1) := dc9_42 (by decide +kernel)
theorem d_Ga_follow_139 : decode y_Ga_follow.2.1 139 = .ok (.getfield 62, 3) := dc9_180 (by decide +kernel)
theorem d_Ga_follow_142 : decode y_Ga_follow.2.1 142 = .ok (.iload 4, 2) := dc9_21 (by decide +kernel)
theorem d_Ga_follow_144 : decode y_Ga_follow.2.1 144 = .ok (.iastore, 1) := dc9_79 (by decide +kernel)
theorem d_Ga_follow_145 : decode y_Ga_follow.2.1 145 = .ok (.aload_n 0, 1) := dc9_42 (by decide +kernel)
theorem d_Ga_follow_146 : decode y_Ga_follow.2.1 146 = .ok (.getfield 36, 3) := dc9_180 (by decide +kernel)
theorem d_Ga_follow_149 : decode y_Ga_follow.2.1 149 = .ok (.aload_n 0, 1) := dc9_42 (by decide +kernel)
theorem d_Ga_follow_150 : decode y_Ga_follow.2.1 150 = .ok (.getfield 62, 3) := dc9_180 (by decide +kernel)
theorem d_Ga_follow_153 : decode y_Ga_follow.2.1 153 = .ok (.iload_n 3, 1) := dc9_29 (by decide +kernel)
theorem d_Ga_follow_154 : decode y_Ga_follow.2.1 154 = .ok (.iastore, 1) := dc9_79 (by decide +kernel)
theorem d_Ga_follow_87 : decode y_Ga_follow.2.1 87 = .ok (.if_icmp .ne 16, 3) := dc9_160 (by decide +kernel)
theorem d_Ga_follow_90 : decode y_Ga_follow.2.1 90 = .ok (.aload_n 0, 1) := dc9_42 (by decide +kernel)
theorem d_Ga_follow_91 : decode y_Ga_follow.2.1 91 = .ok (.getfield 36, 3) := dc9_180 (by decide +kernel)
theorem d_Ga_follow_94 : decode y_Ga_follow.2.1 94 = .ok (.iload 5, 2) := dc9_21 (by decide +kernel)
theorem d_Ga_follow_96 : decode y_Ga_follow.2.1 96 = .ok (.dup2, 1) := dc9_92 (by decide +kernel)
theorem d_Ga_follow_97 : decode y_Ga_follow.2.1 97 = .ok (.iaload, 1) := dc9_46 (by decide +kernel)
theorem d_Ga_follow_98 : decode y_Ga_follow.2.1 98 = .ok (.iload_n 3, 1) := dc9_29 (by decide +kernel)
theorem d_Ga_follow_99 : decode y_Ga_follow.2.1 99 = .ok (.iadd, 1) := dc9_96 (by decide +kernel)
theorem d_Ga_follow_100 : decode y_Ga_follow.2.1 100 = .ok (.iastore, 1) := dc9_79 (by decide +kernel)
theorem d_Ga_follow_101 : decode y_Ga_follow.2.1 101 = .ok (.iconst 0, 1) := dc9_3 (by decide +kernel)
theorem d_Ga_follow_102 : decode y_Ga_follow.2.1 102 = .ok (.ireturn, 1) := dc9_172 (by decide +kernel)
theorem d_Ga_follow_103 : decode y_Ga_follow.2.1 103 = .ok (.iinc 5 1, 3) := by decide +kernel
theorem d_Ga_follow_106 : decode y_Ga_follow.2.1 106 = .ok (.goto (-37), 3) := dc9_167 (by decide +kernel)
theorem d_Ga_follow_130 : decode y_Ga_follow.2.1 130 = .ok (.invokevirtual 148, 3) := dc9_182 (by decide +kernel)
theorem d_Ga_follow_133 : decode y_Ga_follow.2.1 133 = .ok (.ireturn, 1) := dc9_172 (by decide +kernel)
theorem d_Ga_follow_155 : decode y_Ga_follow.2.1 155 = .ok (.aload_n 0, 1) := dc9_42 (by decide +kernel)
theorem d_Ga_follow_156 : decode y_Ga_follow.2.1 156 = .ok (.dup, 1) := dc9_89 (by decide +kernel)
theorem d_Ga_follow_157 : decode y_Ga_follow.2.1 157 = .ok (.getfield 62, 3) := dc9_180 (by decide +kernel)
theorem d_Ga_follow_160 : decode y_Ga_follow.2.1 160 = .ok (.iconst 1, 1) := dc9_4 (by decide +kernel)
theorem d_Ga_follow_161 : decode y_Ga_follow.2.1 161 = .ok (.iadd, 1) := dc9_96 (by decide +kernel)
theorem d_Ga_follow_162 : decode y_Ga_follow.2.1 162 = .ok (.putfield 62, 3) := dc9_181 (by decide +kernel)
theorem d_Ga_follow_165 : decode y_Ga_follow.2.1 165 = .ok (.iconst 0, 1) := dc9_3 (by decide +kernel)
theorem d_Ga_follow_166 : decode y_Ga_follow.2.1 166 = .ok (.ireturn, 1) := dc9_172 (by decide +kernel)
def h_Ga_follow_69 (G : mG) (d : Nat) (a0 : Nat) (l1 : Int) (l3 : Int) (l4 : Int) (l5 : Int) (M : mM) (Q : Int → mM → Prop) : Prop := mWm G y_Ga_follow (d + 1) 69 [vr a0, vi l1, vd, vi l3, vi l4, vi l5] [] M (fun r9 M9 => ∃ x9, r9 = some (vi x9) ∧ Q x9 M9)
theorem k_Ga_follow {G : mG} {d : Nat} {a0 : Nat} {l1 : Int} {l2 : Int} {l3 : Int} {M : mM} {Q : Int → mM → Prop} (hO : mOk M) (hi_l1 : i32 l1) (hi_l2 : i32 l2) (hi_l3 : i32 l3)
    (h : mK M a0 = 7 ∧ mK M (mR M a0 15) = 5 ∧ Cv G y_Ma_beginSets d [vr (mR M a0 15)] M (fun M3 => mOk M3 ∧ (mK M3 a0 = 7 ∧ mK M3 (mR M3 a0 14) = 6 ∧ mK M3 (mR M3 (mR M3 a0 14) 19) = 30 ∧ ((0 : Int) ≤ l2 ∧ l2 < (mN M3 (mR M3 (mR M3 a0 14) 19) : Int)) ∧ mK M3 (mR M3 a0 15) = 5 ∧ Ci G y_Ma_run d [vr (mR M3 a0 15), vi (mI M3 (mR M3 (mR M3 a0 14) 19) (Int.toNat l2))] M3 (fun x12 M11 => i32 x12 ∧ mOk M11 ∧ (((x12 = 0) → (mK M11 a0 = 7 ∧ Ci G y_Ga_machineFault d [vr a0] M11 (fun x18 M17 => i32 x18 ∧ mOk M17 ∧ (Q x18 M17)))) ∧ (¬ (x12 = 0) → (mK M11 a0 = 7 ∧ Ci G y_Ga_enter d [vr a0] M11 (fun x22 M21 => i32 x22 ∧ mOk M21 ∧ (((x22 = (-1)) → (mK M21 a0 = 7 ∧ mK M21 (mR M21 a0 14) = 6 ∧ mK M21 (mR M21 (mR M21 a0 14) 17) = 30 ∧ ((0 : Int) ≤ l2 ∧ l2 < (mN M21 (mR M21 (mR M21 a0 14) 17) : Int)) ∧ Ci G y_Ga_fault d [vr a0, vi 5, vi (mI M21 (mR M21 (mR M21 a0 14) 17) (Int.toNat l2))] M21 (fun x34 M33 => i32 x34 ∧ mOk M33 ∧ (Q x34 M33)))) ∧ (¬ (x22 = (-1)) → (mK M21 a0 = 7 ∧ mK M21 (mR M21 a0 7) = 30 ∧ ((0 : Int) ≤ mI M21 a0 12 ∧ mI M21 a0 12 < (mN M21 (mR M21 a0 7) : Int)) ∧ h_Ga_follow_69 G d a0 l1 l3 x22 (mI M21 (mR M21 a0 7) (Int.toNat (mI M21 a0 12))) M21 Q))))))))))) :
    Ci G y_Ga_follow (d + 1) [vr a0, vi l1, vi l2, vi l3] M Q := by
  refine wm_open (y := y_Ga_follow) rfl (Nat.le_of_ble_eq_true rfl) (L := [vr a0, vi l1, vi l2, vi l3, vd, vd]) rfl ?_
  obtain ⟨h1, h⟩ := h
  obtain ⟨h2, h⟩ := h
  refine wm_aload_n d_Ga_follow_0 rfl rfl ?_
  refine gf_Ga_42 rfl d_Ga_follow_1 h1 ?_
  refine cf_Ga_173 rfl d_Ga_follow_4 h2 (Nat.le_of_ble_eq_true rfl) (Cv.mono h (fun M3 h => ?_))
  obtain ⟨hOM3, h⟩ := h
  obtain ⟨h6, h⟩ := h
  obtain ⟨h7, h⟩ := h
  obtain ⟨h8, h⟩ := h
  obtain ⟨h9, h⟩ := h
  obtain ⟨h10, h⟩ := h
  refine wm_aload_n d_Ga_follow_7 rfl rfl ?_
  refine gf_Ga_42 rfl d_Ga_follow_8 h6 ?_
  refine wm_aload_n d_Ga_follow_11 rfl rfl ?_
  refine gf_Ga_72 rfl d_Ga_follow_12 h6 ?_
  refine gf_Ga_176 rfl d_Ga_follow_15 h7 ?_
  refine wm_iload_n d_Ga_follow_18 rfl rfl ?_
  refine wm_iald d_Ga_follow_19 h8 h9 ?_
  refine cf_Ga_123 rfl d_Ga_follow_20 h10 (Nat.le_of_ble_eq_true rfl) (Ci.mono h (fun x12 M11 h => ?_))
  obtain ⟨h13, hOM11, h⟩ := h
  refine wm_if_ne (tgt := 31) d_Ga_follow_23 rfl h13 (fun c15 => ?_) (fun c15 => ?_)
  · replace h := h.2 c15
    obtain ⟨h20, h⟩ := h
    refine wm_aload_n d_Ga_follow_31 rfl rfl ?_
    refine cf_Ga_100 rfl d_Ga_follow_32 h20 (Nat.le_of_ble_eq_true rfl) (Ci.mono h (fun x22 M21 h => ?_))
    obtain ⟨h23, hOM21, h⟩ := h
    refine wm_istore d_Ga_follow_35 (by decide) (L' := [vr a0, vi l1, vi l2, vi l3, vi x22, vd]) rfl ?_
    refine wm_iload d_Ga_follow_37 rfl ?_
    refine wm_iconst d_Ga_follow_39 ?_
    refine wm_icmp_ne (tgt := 58) d_Ga_follow_40 rfl h23 ⟨by decide, by decide⟩ (fun c28 => ?_) (fun c28 => ?_)
    · replace h := h.2 c28
      obtain ⟨h36, h⟩ := h
      obtain ⟨h37, h⟩ := h
      obtain ⟨h38, h⟩ := h
      refine wm_aload_n d_Ga_follow_58 rfl rfl ?_
      refine gf_Ga_30 rfl d_Ga_follow_59 h36 ?_
      refine wm_aload_n d_Ga_follow_62 rfl rfl ?_
      refine gf_Ga_59 rfl d_Ga_follow_63 h36 ?_
      refine wm_iald d_Ga_follow_66 h37 h38 ?_
      refine wm_istore d_Ga_follow_67 (by decide) (L' := [vr a0, vi l1, vi l2, vi l3, vi x22, vi (mI M21 (mR M21 a0 7) (Int.toNat (mI M21 a0 12)))]) rfl ?_
      refine wm_less (L' := [vr a0, vi l1, vd, vi l3, vi x22, vi (mI M21 (mR M21 a0 7) (Int.toNat (mI M21 a0 12)))]) ⟨Or.inr rfl, Or.inr rfl, Or.inl rfl, Or.inr rfl, Or.inr rfl, Or.inr rfl, trivial⟩ ?_
      exact h
    · replace c28 := Classical.not_not.mp c28
      replace h := h.1 c28
      obtain ⟨h29, h⟩ := h
      obtain ⟨h30, h⟩ := h
      obtain ⟨h31, h⟩ := h
      obtain ⟨h32, h⟩ := h
      refine wm_aload_n d_Ga_follow_43 rfl rfl ?_
      refine wm_iconst d_Ga_follow_44 ?_
      refine wm_aload_n d_Ga_follow_45 rfl rfl ?_
      refine gf_Ga_72 rfl d_Ga_follow_46 h29 ?_
      refine gf_Ga_164 rfl d_Ga_follow_49 h30 ?_
      refine wm_iload_n d_Ga_follow_52 rfl rfl ?_
      refine wm_iald d_Ga_follow_53 h31 h32 ?_
      refine cf_Ga_148 rfl d_Ga_follow_54 h29 (Nat.le_of_ble_eq_true rfl) (Ci.mono h (fun x34 M33 h => ?_))
      obtain ⟨h35, hOM33, h⟩ := h
      refine wm_ireturn d_Ga_follow_57 rfl rfl ?_
      exact ⟨_, rfl, h⟩
  · replace c15 := Classical.not_not.mp c15
    replace h := h.1 c15
    obtain ⟨h16, h⟩ := h
    refine wm_aload_n d_Ga_follow_26 rfl rfl ?_
    refine cf_Ga_126 rfl d_Ga_follow_27 h16 (Nat.le_of_ble_eq_true rfl) (Ci.mono h (fun x18 M17 h => ?_))
    obtain ⟨h19, hOM17, h⟩ := h
    refine wm_ireturn d_Ga_follow_30 rfl rfl ?_
    exact ⟨_, rfl, h⟩
theorem k_Ga_follow_69 {G : mG} {d : Nat} {a0 : Nat} {l1 : Int} {l3 : Int} {l4 : Int} {l5 : Int} {M : mM} {Q : Int → mM → Prop} (hO : mOk M) (hi_l1 : i32 l1) (hi_l3 : i32 l3) (hi_l4 : i32 l4) (hi_l5 : i32 l5)
    (h : mK M a0 = 7 ∧ ((mI M a0 13 ≤ l5) → (((mI M a0 13 = 4096) → (mK M (mR M a0 14) = 6 ∧ mK M (mR M (mR M a0 14) 14) = 30 ∧ ((0 : Int) ≤ l1 ∧ l1 < (mN M (mR M (mR M a0 14) 14) : Int)) ∧ Ci G y_Ga_fault d [vr a0, vi 5, vi (mI M (mR M (mR M a0 14) 14) (Int.toNat l1))] M (fun x62 M61 => i32 x62 ∧ mOk M61 ∧ (Q x62 M61)))) ∧ (¬ (mI M a0 13 = 4096) → (mK M (mR M a0 8) = 30 ∧ ((0 : Int) ≤ mI M a0 13 ∧ mI M a0 13 < (mN M (mR M a0 8) : Int)) ∧ ∀ M66, M66 = mUI M (mR M a0 8) (Int.toNat (mI M a0 13)) l4 → mK M66 (mR M66 a0 9) = 30 ∧ ((0 : Int) ≤ mI M66 a0 13 ∧ mI M66 a0 13 < (mN M66 (mR M66 a0 9) : Int)) ∧ ∀ M70, M70 = mUI M66 (mR M66 a0 9) (Int.toNat (mI M66 a0 13)) l3 → i32 ((mI M70 a0 13) + 1) ∧ ∀ M73, M73 = mUI M70 a0 13 ((mI M70 a0 13) + 1) → Q 0 M73)))) ∧ (¬ (mI M a0 13 ≤ l5) → (mK M (mR M a0 8) = 30 ∧ ((0 : Int) ≤ l5 ∧ l5 < (mN M (mR M a0 8) : Int)) ∧ ((mI M (mR M a0 8) (Int.toNat l5) = l4) → (mK M (mR M a0 9) = 30 ∧ ((0 : Int) ≤ l5 ∧ l5 < (mN M (mR M a0 9) : Int)) ∧ ((0 : Int) ≤ l5 ∧ l5 < (mN M (mR M a0 9) : Int)) ∧ i32 ((mI M (mR M a0 9) (Int.toNat l5)) + l3) ∧ ∀ M87, M87 = mUI M (mR M a0 9) (Int.toNat l5) ((mI M (mR M a0 9) (Int.toNat l5)) + l3) → Q 0 M87)) ∧ (¬ (mI M (mR M a0 8) (Int.toNat l5) = l4) → (h_Ga_follow_69 G d a0 l1 l3 l4 (l5 + 1) M Q))))) :
    h_Ga_follow_69 G d a0 l1 l3 l4 l5 M Q := by
  unfold h_Ga_follow_69
  obtain ⟨h39, h⟩ := h
  refine wm_iload d_Ga_follow_69 rfl ?_
  refine wm_aload_n d_Ga_follow_71 rfl rfl ?_
  refine gf_Ga_62 rfl d_Ga_follow_72 h39 ?_
  refine wm_icmp_ge (tgt := 109) d_Ga_follow_75 rfl hi_l5 (hO _ _).1 (fun c55 => ?_) (fun c55 => ?_)
  · replace h := h.1 c55
    refine wm_aload_n d_Ga_follow_109 rfl rfl ?_
    refine gf_Ga_62 rfl d_Ga_follow_110 h39 ?_
    refine wm_sipush d_Ga_follow_113 (by decide) ?_
    refine wm_icmp_ne (tgt := 134) d_Ga_follow_116 rfl (hO _ _).1 ⟨by decide, by decide⟩ (fun c57 => ?_) (fun c57 => ?_)
    · replace h := h.2 c57
      obtain ⟨h64, h⟩ := h
      obtain ⟨h65, h⟩ := h
      obtain ⟨M66, e67⟩ : ∃ M66, M66 = mUI M (mR M a0 8) (Int.toNat (mI M a0 13)) l4 := ⟨_, rfl⟩
      replace h := h M66 e67
      obtain ⟨h68, h⟩ := h
      obtain ⟨h69, h⟩ := h
      obtain ⟨M70, e71⟩ : ∃ M70, M70 = mUI M66 (mR M66 a0 9) (Int.toNat (mI M66 a0 13)) l3 := ⟨_, rfl⟩
      replace h := h M70 e71
      obtain ⟨h72, h⟩ := h
      obtain ⟨M73, e74⟩ : ∃ M73, M73 = mUI M70 a0 13 ((mI M70 a0 13) + 1) := ⟨_, rfl⟩
      replace h := h M73 e74
      refine wm_aload_n d_Ga_follow_134 rfl rfl ?_
      refine gf_Ga_33 rfl d_Ga_follow_135 h39 ?_
      refine wm_aload_n d_Ga_follow_138 rfl rfl ?_
      refine gf_Ga_62 rfl d_Ga_follow_139 h39 ?_
      refine wm_iload d_Ga_follow_142 rfl ?_
      have hOM66 : mOk M66 := by rw [e67]; exact mOk_UI hO hi_l4
      refine wm_iastE d_Ga_follow_144 h64 h65 hi_l4 e67 ?_
      refine wm_aload_n d_Ga_follow_145 rfl rfl ?_
      refine gf_Ga_36 rfl d_Ga_follow_146 (by rw [e67]; exact h39) ?_
      refine wm_aload_n d_Ga_follow_149 rfl rfl ?_
      refine gf_Ga_62 rfl d_Ga_follow_150 (by rw [e67]; exact h39) ?_
      refine wm_iload_n d_Ga_follow_153 rfl rfl ?_
      have hOM70 : mOk M70 := by rw [e71]; exact mOk_UI hOM66 hi_l3
      refine wm_iastE d_Ga_follow_154 h68 h69 hi_l3 e71 ?_
      refine wm_aload_n d_Ga_follow_155 rfl rfl ?_
      refine wm_dup d_Ga_follow_156 rfl ?_
      refine gf_Ga_62 rfl d_Ga_follow_157 (by rw [e71, e67]; exact h39) ?_
      refine wm_iconst d_Ga_follow_160 ?_
      refine wm_iadd d_Ga_follow_161 ?_
      have hOM73 : mOk M73 := by rw [e74]; exact mOk_UI hOM70 h72
      refine pf_Ga_62 rfl d_Ga_follow_162 (by rw [e71, e67]; exact h39) h72 e74 ?_
      refine wm_iconst d_Ga_follow_165 ?_
      refine wm_ireturn d_Ga_follow_166 rfl rfl ?_
      exact ⟨_, rfl, h⟩
    · replace c57 := Classical.not_not.mp c57
      replace h := h.1 c57
      obtain ⟨h58, h⟩ := h
      obtain ⟨h59, h⟩ := h
      obtain ⟨h60, h⟩ := h
      refine wm_aload_n d_Ga_follow_119 rfl rfl ?_
      refine wm_iconst d_Ga_follow_120 ?_
      refine wm_aload_n d_Ga_follow_121 rfl rfl ?_
      refine gf_Ga_72 rfl d_Ga_follow_122 h39 ?_
      refine gf_Ga_145 rfl d_Ga_follow_125 h58 ?_
      refine wm_iload_n d_Ga_follow_128 rfl rfl ?_
      refine wm_iald d_Ga_follow_129 h59 h60 ?_
      refine cf_Ga_148 rfl d_Ga_follow_130 h39 (Nat.le_of_ble_eq_true rfl) (Ci.mono h (fun x62 M61 h => ?_))
      obtain ⟨h63, hOM61, h⟩ := h
      refine wm_ireturn d_Ga_follow_133 rfl rfl ?_
      exact ⟨_, rfl, h⟩
  · replace h := h.2 c55
    obtain ⟨h75, h⟩ := h
    obtain ⟨h76, h⟩ := h
    refine wm_aload_n d_Ga_follow_78 rfl rfl ?_
    refine gf_Ga_33 rfl d_Ga_follow_79 h39 ?_
    refine wm_iload d_Ga_follow_82 rfl ?_
    refine wm_iald d_Ga_follow_84 h75 h76 ?_
    refine wm_iload d_Ga_follow_85 rfl ?_
    refine wm_icmp_ne (tgt := 103) d_Ga_follow_87 rfl (hO _ _).1 hi_l4 (fun c82 => ?_) (fun c82 => ?_)
    · replace h := h.2 c82
      refine wm_iinc d_Ga_follow_103 (by decide) rfl (L' := [vr a0, vi l1, vd, vi l3, vi l4, vi (l5 + 1)]) rfl ?_
      refine wm_goto (tgt := 69) d_Ga_follow_106 rfl ?_
      exact h
    · replace c82 := Classical.not_not.mp c82
      replace h := h.1 c82
      obtain ⟨h83, h⟩ := h
      obtain ⟨h84, h⟩ := h
      obtain ⟨h85, h⟩ := h
      obtain ⟨h86, h⟩ := h
      obtain ⟨M87, e88⟩ : ∃ M87, M87 = mUI M (mR M a0 9) (Int.toNat l5) ((mI M (mR M a0 9) (Int.toNat l5)) + l3) := ⟨_, rfl⟩
      replace h := h M87 e88
      refine wm_aload_n d_Ga_follow_90 rfl rfl ?_
      refine gf_Ga_36 rfl d_Ga_follow_91 h39 ?_
      refine wm_iload d_Ga_follow_94 rfl ?_
      refine wm_dup2 d_Ga_follow_96 rfl rfl ?_
      refine wm_iald d_Ga_follow_97 h83 h84 ?_
      refine wm_iload_n d_Ga_follow_98 rfl rfl ?_
      refine wm_iadd d_Ga_follow_99 ?_
      have hOM87 : mOk M87 := by rw [e88]; exact mOk_UI hO h86
      refine wm_iastE d_Ga_follow_100 h83 h85 h86 e88 ?_
      refine wm_iconst d_Ga_follow_101 ?_
      refine wm_ireturn d_Ga_follow_102 rfl rfl ?_
      exact ⟨_, rfl, h⟩
theorem d_Ga_enter_0 : decode y_Ga_enter.2.1 0 = .ok (.iconst 0, 1) := dc9_3 (by decide +kernel)
theorem d_Ga_enter_1 : decode y_Ga_enter.2.1 1 = .ok (.istore_n 1, 1) := dc9_60 (by decide +kernel)
theorem d_Ga_enter_2 : decode y_Ga_enter.2.1 2 = .ok (.iconst 0, 1) := dc9_3 (by decide +kernel)
theorem d_Ga_enter_3 : decode y_Ga_enter.2.1 3 = .ok (.istore_n 2, 1) := dc9_61 (by decide +kernel)
theorem d_Ga_enter_4 : decode y_Ga_enter.2.1 4 = .ok (.iload_n 2, 1) := dc9_28 (by decide +kernel)
theorem d_Ga_enter_5 : decode y_Ga_enter.2.1 5 = .ok (.aload_n 0, 1) := dc9_42 (by decide +kernel)
theorem d_Ga_enter_6 : decode y_Ga_enter.2.1 6 = .ok (.getfield 72, 3) := dc9_180 (by decide +kernel)
theorem d_Ga_enter_9 : decode y_Ga_enter.2.1 9 = .ok (.getfield 91, 3) := dc9_180 (by decide +kernel)
theorem d_Ga_enter_12 : decode y_Ga_enter.2.1 12 = .ok (.if_icmp .ge 24, 3) := dc9_162 (by decide +kernel)
theorem d_Ga_enter_36 : decode y_Ga_enter.2.1 36 = .ok (.iload_n 1, 1) := dc9_27 (by decide +kernel)
theorem d_Ga_enter_37 : decode y_Ga_enter.2.1 37 = .ok (.iload_n 1, 1) := dc9_27 (by decide +kernel)
theorem d_Ga_enter_38 : decode y_Ga_enter.2.1 38 = .ok (.bipush 15, 2) := dc9_16 (by decide +kernel)
theorem d_Ga_enter_40 : decode y_Ga_enter.2.1 40 = .ok (.iushr, 1) := dc9_124 (by decide +kernel)
theorem d_Ga_enter_41 : decode y_Ga_enter.2.1 41 = .ok (.ixor, 1) := dc9_130 (by decide +kernel)
theorem d_Ga_enter_42 : decode y_Ga_enter.2.1 42 = .ok (.istore_n 1, 1) := dc9_60 (by decide +kernel)
theorem d_Ga_enter_43 : decode y_Ga_enter.2.1 43 = .ok (.iload_n 1, 1) := dc9_27 (by decide +kernel)
theorem d_Ga_enter_44 : decode y_Ga_enter.2.1 44 = .ok (.sipush 1023, 3) := dc9_17 (by decide +kernel)
theorem d_Ga_enter_47 : decode y_Ga_enter.2.1 47 = .ok (.iand, 1) := dc9_126 (by decide +kernel)
theorem d_Ga_enter_48 : decode y_Ga_enter.2.1 48 = .ok (.istore_n 2, 1) := dc9_61 (by decide +kernel)
theorem d_Ga_enter_49 : decode y_Ga_enter.2.1 49 = .ok (.iconst 0, 1) := dc9_3 (by decide +kernel)
theorem d_Ga_enter_50 : decode y_Ga_enter.2.1 50 = .ok (.istore_n 3, 1) := dc9_62 (by decide +kernel)
theorem d_Ga_enter_15 : decode y_Ga_enter.2.1 15 = .ok (.iload_n 1, 1) := dc9_27 (by decide +kernel)
theorem d_Ga_enter_16 : decode y_Ga_enter.2.1 16 = .ok (.bipush 31, 2) := dc9_16 (by decide +kernel)
theorem d_Ga_enter_18 : decode y_Ga_enter.2.1 18 = .ok (.imul, 1) := dc9_104 (by decide +kernel)
theorem d_Ga_enter_19 : decode y_Ga_enter.2.1 19 = .ok (.aload_n 0, 1) := dc9_42 (by decide +kernel)
theorem d_Ga_enter_20 : decode y_Ga_enter.2.1 20 = .ok (.getfield 42, 3) := dc9_180 (by decide +kernel)
theorem d_Ga_enter_23 : decode y_Ga_enter.2.1 23 = .ok (.getfield 83, 3) := dc9_180 (by decide +kernel)
theorem d_Ga_enter_26 : decode y_Ga_enter.2.1 26 = .ok (.iload_n 2, 1) := dc9_28 (by decide +kernel)
theorem d_Ga_enter_27 : decode y_Ga_enter.2.1 27 = .ok (.iaload, 1) := dc9_46 (by decide +kernel)
theorem d_Ga_enter_28 : decode y_Ga_enter.2.1 28 = .ok (.iadd, 1) := dc9_96 (by decide +kernel)
theorem d_Ga_enter_29 : decode y_Ga_enter.2.1 29 = .ok (.istore_n 1, 1) := dc9_60 (by decide +kernel)
theorem d_Ga_enter_30 : decode y_Ga_enter.2.1 30 = .ok (.iinc 2 1, 3) := by decide +kernel
theorem d_Ga_enter_33 : decode y_Ga_enter.2.1 33 = .ok (.goto (-29), 3) := dc9_167 (by decide +kernel)
theorem d_Ga_enter_51 : decode y_Ga_enter.2.1 51 = .ok (.iload_n 3, 1) := dc9_29 (by decide +kernel)
theorem d_Ga_enter_52 : decode y_Ga_enter.2.1 52 = .ok (.sipush 1024, 3) := dc9_17 (by decide +kernel)
theorem d_Ga_enter_55 : decode y_Ga_enter.2.1 55 = .ok (.if_icmp .ge 47, 3) := dc9_162 (by decide +kernel)
theorem d_Ga_enter_58 : decode y_Ga_enter.2.1 58 = .ok (.aload_n 0, 1) := dc9_42 (by decide +kernel)
theorem d_Ga_enter_59 : decode y_Ga_enter.2.1 59 = .ok (.getfield 46, 3) := dc9_180 (by decide +kernel)
theorem d_Ga_enter_62 : decode y_Ga_enter.2.1 62 = .ok (.iload_n 2, 1) := dc9_28 (by decide +kernel)
theorem d_Ga_enter_63 : decode y_Ga_enter.2.1 63 = .ok (.iaload, 1) := dc9_46 (by decide +kernel)
theorem d_Ga_enter_64 : decode y_Ga_enter.2.1 64 = .ok (.iconst (-1), 1) := dc9_2 (by decide +kernel)
theorem d_Ga_enter_65 : decode y_Ga_enter.2.1 65 = .ok (.if_icmp .eq 37, 3) := dc9_159 (by decide +kernel)
theorem d_Ga_enter_68 : decode y_Ga_enter.2.1 68 = .ok (.aload_n 0, 1) := dc9_42 (by decide +kernel)
theorem d_Ga_enter_69 : decode y_Ga_enter.2.1 69 = .ok (.aload_n 0, 1) := dc9_42 (by decide +kernel)
theorem d_Ga_enter_70 : decode y_Ga_enter.2.1 70 = .ok (.getfield 46, 3) := dc9_180 (by decide +kernel)
theorem d_Ga_enter_73 : decode y_Ga_enter.2.1 73 = .ok (.iload_n 2, 1) := dc9_28 (by decide +kernel)
theorem d_Ga_enter_74 : decode y_Ga_enter.2.1 74 = .ok (.iaload, 1) := dc9_46 (by decide +kernel)
theorem d_Ga_enter_102 : decode y_Ga_enter.2.1 102 = .ok (.aload_n 0, 1) := dc9_42 (by decide +kernel)
theorem d_Ga_enter_103 : decode y_Ga_enter.2.1 103 = .ok (.getfield 55, 3) := dc9_180 (by decide +kernel)
theorem d_Ga_enter_106 : decode y_Ga_enter.2.1 106 = .ok (.sipush 512, 3) := dc9_17 (by decide +kernel)
theorem d_Ga_enter_109 : decode y_Ga_enter.2.1 109 = .ok (.if_icmp .ne 5, 3) := dc9_160 (by decide +kernel)
theorem d_Ga_enter_112 : decode y_Ga_enter.2.1 112 = .ok (.iconst (-1), 1) := dc9_2 (by decide +kernel)
theorem d_Ga_enter_113 : decode y_Ga_enter.2.1 113 = .ok (.ireturn, 1) := dc9_172 (by decide +kernel)
theorem d_Ga_enter_114 : decode y_Ga_enter.2.1 114 = .ok (.aload_n 0, 1) := dc9_42 (by decide +kernel)
theorem d_Ga_enter_115 : decode y_Ga_enter.2.1 115 = .ok (.getfield 46, 3) := dc9_180 (by decide +kernel)
theorem d_Ga_enter_118 : decode y_Ga_enter.2.1 118 = .ok (.iload_n 2, 1) := dc9_28 (by decide +kernel)
theorem d_Ga_enter_119 : decode y_Ga_enter.2.1 119 = .ok (.aload_n 0, 1) := dc9_42 (by decide +kernel)
theorem d_Ga_enter_120 : decode y_Ga_enter.2.1 120 = .ok (.getfield 55, 3) := dc9_180 (by decide +kernel)
theorem d_Ga_enter_123 : decode y_Ga_enter.2.1 123 = .ok (.iastore, 1) := dc9_79 (by decide +kernel)
theorem d_Ga_enter_124 : decode y_Ga_enter.2.1 124 = .ok (.aload_n 0, 1) := dc9_42 (by decide +kernel)
theorem d_Ga_enter_125 : decode y_Ga_enter.2.1 125 = .ok (.getfield 42, 3) := dc9_180 (by decide +kernel)
theorem d_Ga_enter_128 : decode y_Ga_enter.2.1 128 = .ok (.getfield 83, 3) := dc9_180 (by decide +kernel)
theorem d_Ga_enter_131 : decode y_Ga_enter.2.1 131 = .ok (.iconst 0, 1) := dc9_3 (by decide +kernel)
theorem d_Ga_enter_132 : decode y_Ga_enter.2.1 132 = .ok (.aload_n 0, 1) := dc9_42 (by decide +kernel)
theorem d_Ga_enter_133 : decode y_Ga_enter.2.1 133 = .ok (.getfield 9, 3) := dc9_180 (by decide +kernel)
theorem d_Ga_enter_136 : decode y_Ga_enter.2.1 136 = .ok (.aload_n 0, 1) := dc9_42 (by decide +kernel)
theorem d_Ga_enter_137 : decode y_Ga_enter.2.1 137 = .ok (.getfield 55, 3) := dc9_180 (by decide +kernel)
theorem d_Ga_enter_140 : decode y_Ga_enter.2.1 140 = .ok (.bipush 12, 2) := dc9_16 (by decide +kernel)
theorem d_Ga_enter_142 : decode y_Ga_enter.2.1 142 = .ok (.imul, 1) := dc9_104 (by decide +kernel)
theorem d_Ga_enter_143 : decode y_Ga_enter.2.1 143 = .ok (.bipush 12, 2) := dc9_16 (by decide +kernel)
theorem d_Ga_enter_145 : decode y_Ga_enter.2.1 145 = .ok (.invokestatic 94, 3) := dc9_184 (by decide +kernel)
theorem d_Ga_enter_148 : decode y_Ga_enter.2.1 148 = .ok (.aload_n 0, 1) := dc9_42 (by decide +kernel)
theorem d_Ga_enter_149 : decode y_Ga_enter.2.1 149 = .ok (.dup, 1) := dc9_89 (by decide +kernel)
theorem d_Ga_enter_150 : decode y_Ga_enter.2.1 150 = .ok (.getfield 55, 3) := dc9_180 (by decide +kernel)
theorem d_Ga_enter_153 : decode y_Ga_enter.2.1 153 = .ok (.iconst 1, 1) := dc9_4 (by decide +kernel)
theorem d_Ga_enter_154 : decode y_Ga_enter.2.1 154 = .ok (.iadd, 1) := dc9_96 (by decide +kernel)
theorem d_Ga_enter_155 : decode y_Ga_enter.2.1 155 = .ok (.putfield 55, 3) := dc9_181 (by decide +kernel)
theorem d_Ga_enter_158 : decode y_Ga_enter.2.1 158 = .ok (.aload_n 0, 1) := dc9_42 (by decide +kernel)
theorem d_Ga_enter_159 : decode y_Ga_enter.2.1 159 = .ok (.getfield 55, 3) := dc9_180 (by decide +kernel)
theorem d_Ga_enter_162 : decode y_Ga_enter.2.1 162 = .ok (.iconst 1, 1) := dc9_4 (by decide +kernel)
theorem d_Ga_enter_163 : decode y_Ga_enter.2.1 163 = .ok (.isub, 1) := dc9_100 (by decide +kernel)
theorem d_Ga_enter_164 : decode y_Ga_enter.2.1 164 = .ok (.ireturn, 1) := dc9_172 (by decide +kernel)
theorem d_Ga_enter_75 : decode y_Ga_enter.2.1 75 = .ok (.invokevirtual 179, 3) := dc9_182 (by decide +kernel)
theorem d_Ga_enter_78 : decode y_Ga_enter.2.1 78 = .ok (.ifCond .eq 10, 3) := dc9_153 (by decide +kernel)
theorem d_Ga_enter_88 : decode y_Ga_enter.2.1 88 = .ok (.iload_n 2, 1) := dc9_28 (by decide +kernel)
theorem d_Ga_enter_89 : decode y_Ga_enter.2.1 89 = .ok (.iconst 1, 1) := dc9_4 (by decide +kernel)
theorem d_Ga_enter_90 : decode y_Ga_enter.2.1 90 = .ok (.iadd, 1) := dc9_96 (by decide +kernel)
theorem d_Ga_enter_91 : decode y_Ga_enter.2.1 91 = .ok (.sipush 1023, 3) := dc9_17 (by decide +kernel)
theorem d_Ga_enter_94 : decode y_Ga_enter.2.1 94 = .ok (.iand, 1) := dc9_126 (by decide +kernel)
theorem d_Ga_enter_95 : decode y_Ga_enter.2.1 95 = .ok (.istore_n 2, 1) := dc9_61 (by decide +kernel)
theorem d_Ga_enter_96 : decode y_Ga_enter.2.1 96 = .ok (.iinc 3 1, 3) := by decide +kernel
theorem d_Ga_enter_99 : decode y_Ga_enter.2.1 99 = .ok (.goto (-48), 3) := dc9_167 (by decide +kernel)
theorem d_Ga_enter_81 : decode y_Ga_enter.2.1 81 = .ok (.aload_n 0, 1) := dc9_42 (by decide +kernel)
theorem d_Ga_enter_82 : decode y_Ga_enter.2.1 82 = .ok (.getfield 46, 3) := dc9_180 (by decide +kernel)
theorem d_Ga_enter_85 : decode y_Ga_enter.2.1 85 = .ok (.iload_n 2, 1) := dc9_28 (by decide +kernel)
theorem d_Ga_enter_86 : decode y_Ga_enter.2.1 86 = .ok (.iaload, 1) := dc9_46 (by decide +kernel)
theorem d_Ga_enter_87 : decode y_Ga_enter.2.1 87 = .ok (.ireturn, 1) := dc9_172 (by decide +kernel)
def h_Ga_enter_4 (G : mG) (d : Nat) (a0 : Nat) (l1 : Int) (l2 : Int) (M : mM) (Q : Int → mM → Prop) : Prop := mWm G y_Ga_enter (d + 1) 4 [vr a0, vi l1, vi l2, vd] [] M (fun r9 M9 => ∃ x9, r9 = some (vi x9) ∧ Q x9 M9)
def h_Ga_enter_51 (G : mG) (d : Nat) (a0 : Nat) (l2 : Int) (l3 : Int) (M : mM) (Q : Int → mM → Prop) : Prop := mWm G y_Ga_enter (d + 1) 51 [vr a0, vd, vi l2, vi l3] [] M (fun r9 M9 => ∃ x9, r9 = some (vi x9) ∧ Q x9 M9)
theorem k_Ga_enter {G : mG} {d : Nat} {a0 : Nat} {M : mM} {Q : Int → mM → Prop} (hO : mOk M)
    (h : h_Ga_enter_4 G d a0 0 0 M Q) :
    Ci G y_Ga_enter (d + 1) [vr a0] M Q := by
  refine wm_open (y := y_Ga_enter) rfl (Nat.le_of_ble_eq_true rfl) (L := [vr a0, vd, vd, vd]) rfl ?_
  refine wm_iconst d_Ga_enter_0 ?_
  refine wm_istore_n d_Ga_enter_1 rfl (by decide) (L' := [vr a0, vi 0, vd, vd]) rfl ?_
  refine wm_iconst d_Ga_enter_2 ?_
  refine wm_istore_n d_Ga_enter_3 rfl (by decide) (L' := [vr a0, vi 0, vi 0, vd]) rfl ?_
  exact h
theorem k_Ga_enter_51 {G : mG} {d : Nat} {a0 : Nat} {l2 : Int} {l3 : Int} {M : mM} {Q : Int → mM → Prop} (hO : mOk M) (hi_l2 : i32 l2) (hi_l3 : i32 l3)
    (h : (¬ (1024 ≤ l3) → (mK M a0 = 7 ∧ mK M (mR M a0 16) = 30 ∧ ((0 : Int) ≤ l2 ∧ l2 < (mN M (mR M a0 16) : Int)))) ∧ (((1024 ≤ l3) ∨ (mI M (mR M a0 16) (Int.toNat l2) = (-1))) → (mK M a0 = 7 ∧ ((mI M a0 0 = 512) → (Q (-1) M)) ∧ (¬ (mI M a0 0 = 512) → (mK M (mR M a0 16) = 30 ∧ ((0 : Int) ≤ l2 ∧ l2 < (mN M (mR M a0 16) : Int)) ∧ ∀ M23, M23 = mUI M (mR M a0 16) (Int.toNat l2) (mI M a0 0) → mK M23 (mR M23 a0 15) = 5 ∧ mK M23 (mR M23 (mR M23 a0 15) 5) = 30 ∧ mK M23 (mR M23 a0 1) = 30 ∧ ((0 : Int) ≤ 0 ∧ (0 : Int) ≤ (mI M23 a0 0) * 12 ∧ (0 : Int) ≤ 12 ∧ 0 + 12 ≤ (mN M23 (mR M23 (mR M23 a0 15) 5) : Int) ∧ ((mI M23 a0 0) * 12) + 12 ≤ (mN M23 (mR M23 a0 1) : Int)) ∧ ∀ M29, M29 = mCpy M23 (mR M23 (mR M23 a0 15) 5) (mR M23 a0 1) 0 (Int.toNat ((mI M23 a0 0) * 12)) 12 → i32 ((mI M29 a0 0) + 1) ∧ ∀ M32, M32 = mUI M29 a0 0 ((mI M29 a0 0) + 1) → Q ((mI M32 a0 0) - 1) M32)))) ∧ (¬ ((1024 ≤ l3) ∨ (mI M (mR M a0 16) (Int.toNat l2) = (-1))) → (mK M a0 = 7 ∧ mK M (mR M a0 16) = 30 ∧ ((0 : Int) ≤ l2 ∧ l2 < (mN M (mR M a0 16) : Int)) ∧ Ci G y_Ga_isNext d [vr a0, vi (mI M (mR M a0 16) (Int.toNat l2))] M (fun x39 M38 => i32 x39 ∧ mOk M38 ∧ (((x39 = 0) → (h_Ga_enter_51 G d a0 (andI (l2 + 1) 1023) (l3 + 1) M38 Q)) ∧ (¬ (x39 = 0) → (mK M38 a0 = 7 ∧ mK M38 (mR M38 a0 16) = 30 ∧ ((0 : Int) ≤ l2 ∧ l2 < (mN M38 (mR M38 a0 16) : Int)) ∧ Q (mI M38 (mR M38 a0 16) (Int.toNat l2)) M38))))))) :
    h_Ga_enter_51 G d a0 l2 l3 M Q := by
  unfold h_Ga_enter_51
  refine wm_iload_n d_Ga_enter_51 rfl rfl ?_
  refine wm_sipush d_Ga_enter_52 (by decide) ?_
  obtain ⟨s16, h⟩ := h
  have hE0 : ((1024 ≤ l3) ∨ (mI M (mR M a0 16) (Int.toNat l2) = (-1))) → mWm G y_Ga_enter (d + 1) 102 [vr a0, vd, vi l2, vi l3] [] M (fun r9 M9 => ∃ x9, r9 = some (vi x9) ∧ Q x9 M9) := by
    intro q17
    have h := h.1 q17
    obtain ⟨h18, h⟩ := h
    refine wm_aload_n d_Ga_enter_102 rfl rfl ?_
    refine gf_Ga_55 rfl d_Ga_enter_103 h18 ?_
    refine wm_sipush d_Ga_enter_106 (by decide) ?_
    refine wm_icmp_ne (tgt := 114) d_Ga_enter_109 rfl (hO _ _).1 ⟨by decide, by decide⟩ (fun c20 => ?_) (fun c20 => ?_)
    · replace h := h.2 c20
      obtain ⟨h21, h⟩ := h
      obtain ⟨h22, h⟩ := h
      obtain ⟨M23, e24⟩ : ∃ M23, M23 = mUI M (mR M a0 16) (Int.toNat l2) (mI M a0 0) := ⟨_, rfl⟩
      replace h := h M23 e24
      obtain ⟨h25, h⟩ := h
      obtain ⟨h26, h⟩ := h
      obtain ⟨h27, h⟩ := h
      obtain ⟨h28, h⟩ := h
      obtain ⟨M29, e30⟩ : ∃ M29, M29 = mCpy M23 (mR M23 (mR M23 a0 15) 5) (mR M23 a0 1) 0 (Int.toNat ((mI M23 a0 0) * 12)) 12 := ⟨_, rfl⟩
      replace h := h M29 e30
      obtain ⟨h31, h⟩ := h
      obtain ⟨M32, e33⟩ : ∃ M32, M32 = mUI M29 a0 0 ((mI M29 a0 0) + 1) := ⟨_, rfl⟩
      replace h := h M32 e33
      refine wm_aload_n d_Ga_enter_114 rfl rfl ?_
      refine gf_Ga_46 rfl d_Ga_enter_115 h18 ?_
      refine wm_iload_n d_Ga_enter_118 rfl rfl ?_
      refine wm_aload_n d_Ga_enter_119 rfl rfl ?_
      refine gf_Ga_55 rfl d_Ga_enter_120 h18 ?_
      have hOM23 : mOk M23 := by rw [e24]; exact mOk_UI hO (hO _ _).1
      refine wm_iastE d_Ga_enter_123 h21 h22 (hO _ _).1 e24 ?_
      refine wm_aload_n d_Ga_enter_124 rfl rfl ?_
      refine gf_Ga_42 rfl d_Ga_enter_125 (by rw [e24]; exact h18) ?_
      refine gf_Ga_83 rfl d_Ga_enter_128 h25 ?_
      refine wm_iconst d_Ga_enter_131 ?_
      refine wm_aload_n d_Ga_enter_132 rfl rfl ?_
      refine gf_Ga_9 rfl d_Ga_enter_133 (by rw [e24]; exact h18) ?_
      refine wm_aload_n d_Ga_enter_136 rfl rfl ?_
      refine gf_Ga_55 rfl d_Ga_enter_137 (by rw [e24]; exact h18) ?_
      refine wm_bipush d_Ga_enter_140 (by decide) ?_
      refine wm_imul d_Ga_enter_142 ?_
      refine wm_bipush d_Ga_enter_143 (by decide) ?_
      have hOM29 : mOk M29 := by rw [e30]; exact mOk_Cpy hOM23
      refine wm_copyi k7_234 (Nat.le_of_ble_eq_true rfl) h26 h27 h28 d_Ga_enter_145 e30 ?_
      refine wm_aload_n d_Ga_enter_148 rfl rfl ?_
      refine wm_dup d_Ga_enter_149 rfl ?_
      refine gf_Ga_55 rfl d_Ga_enter_150 (by rw [e30, e24]; exact h18) ?_
      refine wm_iconst d_Ga_enter_153 ?_
      refine wm_iadd d_Ga_enter_154 ?_
      have hOM32 : mOk M32 := by rw [e33]; exact mOk_UI hOM29 h31
      refine pf_Ga_55 rfl d_Ga_enter_155 (by rw [e30, e24]; exact h18) h31 e33 ?_
      refine wm_aload_n d_Ga_enter_158 rfl rfl ?_
      refine gf_Ga_55 rfl d_Ga_enter_159 (by rw [e33, e30, e24]; exact h18) ?_
      refine wm_iconst d_Ga_enter_162 ?_
      refine wm_isub d_Ga_enter_163 ?_
      refine wm_ireturn d_Ga_enter_164 rfl rfl ?_
      exact ⟨_, rfl, h⟩
    · replace c20 := Classical.not_not.mp c20
      replace h := h.1 c20
      refine wm_iconst d_Ga_enter_112 ?_
      refine wm_ireturn d_Ga_enter_113 rfl rfl ?_
      exact ⟨_, rfl, h⟩
  have hE1 : ¬ ((1024 ≤ l3) ∨ (mI M (mR M a0 16) (Int.toNat l2) = (-1))) → mWm G y_Ga_enter (d + 1) 68 [vr a0, vd, vi l2, vi l3] [] M (fun r9 M9 => ∃ x9, r9 = some (vi x9) ∧ Q x9 M9) := by
    intro q34
    have h := h.2 q34
    obtain ⟨h35, h⟩ := h
    obtain ⟨h36, h⟩ := h
    obtain ⟨h37, h⟩ := h
    refine wm_aload_n d_Ga_enter_68 rfl rfl ?_
    refine wm_aload_n d_Ga_enter_69 rfl rfl ?_
    refine gf_Ga_46 rfl d_Ga_enter_70 h35 ?_
    refine wm_iload_n d_Ga_enter_73 rfl rfl ?_
    refine wm_iald d_Ga_enter_74 h36 h37 ?_
    refine cf_Ga_179 rfl d_Ga_enter_75 h35 (Nat.le_of_ble_eq_true rfl) (Ci.mono h (fun x39 M38 h => ?_))
    obtain ⟨h40, hOM38, h⟩ := h
    refine wm_if_eq (tgt := 88) d_Ga_enter_78 rfl h40 (fun c45 => ?_) (fun c45 => ?_)
    · replace h := h.1 c45
      refine wm_iload_n d_Ga_enter_88 rfl rfl ?_
      refine wm_iconst d_Ga_enter_89 ?_
      refine wm_iadd d_Ga_enter_90 ?_
      refine wm_sipush d_Ga_enter_91 (by decide) ?_
      refine wm_iand d_Ga_enter_94 ?_
      refine wm_istore_n d_Ga_enter_95 rfl (by decide) (L' := [vr a0, vd, vi (andI (l2 + 1) 1023), vi l3]) rfl ?_
      refine wm_iinc d_Ga_enter_96 (by decide) rfl (L' := [vr a0, vd, vi (andI (l2 + 1) 1023), vi (l3 + 1)]) rfl ?_
      refine wm_goto (tgt := 51) d_Ga_enter_99 rfl ?_
      exact h
    · replace h := h.2 c45
      obtain ⟨h46, h⟩ := h
      obtain ⟨h47, h⟩ := h
      obtain ⟨h48, h⟩ := h
      refine wm_aload_n d_Ga_enter_81 rfl rfl ?_
      refine gf_Ga_46 rfl d_Ga_enter_82 h46 ?_
      refine wm_iload_n d_Ga_enter_85 rfl rfl ?_
      refine wm_iald d_Ga_enter_86 h47 h48 ?_
      refine wm_ireturn d_Ga_enter_87 rfl rfl ?_
      exact ⟨_, rfl, h⟩
  clear h
  have s49 := s16
  refine wm_icmp_ge (tgt := 102) d_Ga_enter_55 rfl hi_l3 ⟨by decide, by decide⟩ (fun c15 => ?_) (fun c15 => ?_)
  · exact hE0 (Or.inl c15)
  · have s49 := s49 c15
    obtain ⟨h11, h12, h13⟩ := s49
    refine wm_aload_n d_Ga_enter_58 rfl rfl ?_
    refine gf_Ga_46 rfl d_Ga_enter_59 h11 ?_
    refine wm_iload_n d_Ga_enter_62 rfl rfl ?_
    refine wm_iald d_Ga_enter_63 h12 h13 ?_
    refine wm_iconst d_Ga_enter_64 ?_
    refine wm_icmp_eq (tgt := 102) d_Ga_enter_65 rfl (hO _ _).1 ⟨by decide, by decide⟩ (fun c14 => ?_) (fun c14 => ?_)
    · exact hE0 (Or.inr c14)
    · exact hE1 (fun z50 => Or.elim z50 c15 c14)
theorem d_Ga_isNext_0 : decode y_Ga_isNext.2.1 0 = .ok (.iconst 0, 1) := dc9_3 (by decide +kernel)
theorem d_Ga_isNext_1 : decode y_Ga_isNext.2.1 1 = .ok (.istore_n 2, 1) := dc9_61 (by decide +kernel)
theorem d_Ga_isNext_2 : decode y_Ga_isNext.2.1 2 = .ok (.iload_n 2, 1) := dc9_28 (by decide +kernel)
theorem d_Ga_isNext_3 : decode y_Ga_isNext.2.1 3 = .ok (.aload_n 0, 1) := dc9_42 (by decide +kernel)
theorem d_Ga_isNext_4 : decode y_Ga_isNext.2.1 4 = .ok (.getfield 72, 3) := dc9_180 (by decide +kernel)
theorem d_Ga_isNext_7 : decode y_Ga_isNext.2.1 7 = .ok (.getfield 91, 3) := dc9_180 (by decide +kernel)
theorem d_Ga_isNext_10 : decode y_Ga_isNext.2.1 10 = .ok (.if_icmp .ge 34, 3) := dc9_162 (by decide +kernel)
theorem d_Ga_isNext_44 : decode y_Ga_isNext.2.1 44 = .ok (.iconst 1, 1) := dc9_4 (by decide +kernel)
theorem d_Ga_isNext_45 : decode y_Ga_isNext.2.1 45 = .ok (.ireturn, 1) := dc9_172 (by decide +kernel)
theorem d_Ga_isNext_13 : decode y_Ga_isNext.2.1 13 = .ok (.aload_n 0, 1) := dc9_42 (by decide +kernel)
theorem d_Ga_isNext_14 : decode y_Ga_isNext.2.1 14 = .ok (.getfield 9, 3) := dc9_180 (by decide +kernel)
theorem d_Ga_isNext_17 : decode y_Ga_isNext.2.1 17 = .ok (.iload_n 1, 1) := dc9_27 (by decide +kernel)
theorem d_Ga_isNext_18 : decode y_Ga_isNext.2.1 18 = .ok (.bipush 12, 2) := dc9_16 (by decide +kernel)
theorem d_Ga_isNext_20 : decode y_Ga_isNext.2.1 20 = .ok (.imul, 1) := dc9_104 (by decide +kernel)
theorem d_Ga_isNext_21 : decode y_Ga_isNext.2.1 21 = .ok (.iload_n 2, 1) := dc9_28 (by decide +kernel)
theorem d_Ga_isNext_22 : decode y_Ga_isNext.2.1 22 = .ok (.iadd, 1) := dc9_96 (by decide +kernel)
theorem d_Ga_isNext_23 : decode y_Ga_isNext.2.1 23 = .ok (.iaload, 1) := dc9_46 (by decide +kernel)
theorem d_Ga_isNext_24 : decode y_Ga_isNext.2.1 24 = .ok (.aload_n 0, 1) := dc9_42 (by decide +kernel)
theorem d_Ga_isNext_25 : decode y_Ga_isNext.2.1 25 = .ok (.getfield 42, 3) := dc9_180 (by decide +kernel)
theorem d_Ga_isNext_28 : decode y_Ga_isNext.2.1 28 = .ok (.getfield 83, 3) := dc9_180 (by decide +kernel)
theorem d_Ga_isNext_31 : decode y_Ga_isNext.2.1 31 = .ok (.iload_n 2, 1) := dc9_28 (by decide +kernel)
theorem d_Ga_isNext_32 : decode y_Ga_isNext.2.1 32 = .ok (.iaload, 1) := dc9_46 (by decide +kernel)
theorem d_Ga_isNext_33 : decode y_Ga_isNext.2.1 33 = .ok (.if_icmp .eq 5, 3) := dc9_159 (by decide +kernel)
theorem d_Ga_isNext_38 : decode y_Ga_isNext.2.1 38 = .ok (.iinc 2 1, 3) := by decide +kernel
theorem d_Ga_isNext_41 : decode y_Ga_isNext.2.1 41 = .ok (.goto (-39), 3) := dc9_167 (by decide +kernel)
theorem d_Ga_isNext_36 : decode y_Ga_isNext.2.1 36 = .ok (.iconst 0, 1) := dc9_3 (by decide +kernel)
theorem d_Ga_isNext_37 : decode y_Ga_isNext.2.1 37 = .ok (.ireturn, 1) := dc9_172 (by decide +kernel)
def h_Ga_isNext_2 (G : mG) (d : Nat) (a0 : Nat) (l1 : Int) (l2 : Int) (M : mM) (Q : Int → mM → Prop) : Prop := mWm G y_Ga_isNext d 2 [vr a0, vi l1, vi l2] [] M (fun r9 M9 => ∃ x9, r9 = some (vi x9) ∧ Q x9 M9)
theorem k_Ga_isNext {G : mG} {d : Nat} {a0 : Nat} {l1 : Int} {M : mM} {Q : Int → mM → Prop} (hO : mOk M) (hi_l1 : i32 l1)
    (h : h_Ga_isNext_2 G d a0 l1 0 M Q) :
    Ci G y_Ga_isNext d [vr a0, vi l1] M Q := by
  refine wm_open (y := y_Ga_isNext) rfl (Nat.le_of_ble_eq_true rfl) (L := [vr a0, vi l1, vd]) rfl ?_
  refine wm_iconst d_Ga_isNext_0 ?_
  refine wm_istore_n d_Ga_isNext_1 rfl (by decide) (L' := [vr a0, vi l1, vi 0]) rfl ?_
  exact h
theorem k_Ga_isNext_2 {G : mG} {d : Nat} {a0 : Nat} {l1 : Int} {l2 : Int} {M : mM} {Q : Int → mM → Prop} (hO : mOk M) (hi_l1 : i32 l1) (hi_l2 : i32 l2)
    (h : mK M a0 = 7 ∧ mK M (mR M a0 14) = 6 ∧ ((mI M (mR M a0 14) 3 ≤ l2) → (Q 1 M)) ∧ (¬ (mI M (mR M a0 14) 3 ≤ l2) → (mK M (mR M a0 1) = 30 ∧ ((0 : Int) ≤ (l1 * 12) + l2 ∧ (l1 * 12) + l2 < (mN M (mR M a0 1) : Int)) ∧ mK M (mR M a0 15) = 5 ∧ mK M (mR M (mR M a0 15) 5) = 30 ∧ ((0 : Int) ≤ l2 ∧ l2 < (mN M (mR M (mR M a0 15) 5) : Int)) ∧ ((mI M (mR M a0 1) (Int.toNat ((l1 * 12) + l2)) = mI M (mR M (mR M a0 15) 5) (Int.toNat l2)) → (h_Ga_isNext_2 G d a0 l1 (l2 + 1) M Q)) ∧ (¬ (mI M (mR M a0 1) (Int.toNat ((l1 * 12) + l2)) = mI M (mR M (mR M a0 15) 5) (Int.toNat l2)) → (Q 0 M))))) :
    h_Ga_isNext_2 G d a0 l1 l2 M Q := by
  unfold h_Ga_isNext_2
  obtain ⟨h1, h⟩ := h
  obtain ⟨h2, h⟩ := h
  refine wm_iload_n d_Ga_isNext_2 rfl rfl ?_
  refine wm_aload_n d_Ga_isNext_3 rfl rfl ?_
  refine gf_Ga_72 rfl d_Ga_isNext_4 h1 ?_
  refine gf_Ga_91 rfl d_Ga_isNext_7 h2 ?_
  refine wm_icmp_ge (tgt := 44) d_Ga_isNext_10 rfl hi_l2 (hO _ _).1 (fun c10 => ?_) (fun c10 => ?_)
  · replace h := h.1 c10
    refine wm_iconst d_Ga_isNext_44 ?_
    refine wm_ireturn d_Ga_isNext_45 rfl (m_nb (by decide)) ?_
    exact ⟨_, rfl, h⟩
  · replace h := h.2 c10
    obtain ⟨h11, h⟩ := h
    obtain ⟨h12, h⟩ := h
    obtain ⟨h13, h⟩ := h
    obtain ⟨h14, h⟩ := h
    obtain ⟨h15, h⟩ := h
    refine wm_aload_n d_Ga_isNext_13 rfl rfl ?_
    refine gf_Ga_9 rfl d_Ga_isNext_14 h1 ?_
    refine wm_iload_n d_Ga_isNext_17 rfl rfl ?_
    refine wm_bipush d_Ga_isNext_18 (by decide) ?_
    refine wm_imul d_Ga_isNext_20 ?_
    refine wm_iload_n d_Ga_isNext_21 rfl rfl ?_
    refine wm_iadd d_Ga_isNext_22 ?_
    refine wm_iald d_Ga_isNext_23 h11 h12 ?_
    refine wm_aload_n d_Ga_isNext_24 rfl rfl ?_
    refine gf_Ga_42 rfl d_Ga_isNext_25 h1 ?_
    refine gf_Ga_83 rfl d_Ga_isNext_28 h13 ?_
    refine wm_iload_n d_Ga_isNext_31 rfl rfl ?_
    refine wm_iald d_Ga_isNext_32 h14 h15 ?_
    refine wm_icmp_eq (tgt := 38) d_Ga_isNext_33 rfl (hO _ _).1 (hO _ _).1 (fun c17 => ?_) (fun c17 => ?_)
    · replace h := h.1 c17
      refine wm_iinc d_Ga_isNext_38 (by decide) rfl (L' := [vr a0, vi l1, vi (l2 + 1)]) rfl ?_
      refine wm_goto (tgt := 2) d_Ga_isNext_41 rfl ?_
      exact h
    · replace h := h.2 c17
      refine wm_iconst d_Ga_isNext_36 ?_
      refine wm_ireturn d_Ga_isNext_37 rfl (m_nb (by decide)) ?_
      exact ⟨_, rfl, h⟩
theorem d_Ma_init_0 : decode y_Ma_init.2.1 0 = .ok (.aload_n 0, 1) := dc9_42 (by decide +kernel)
theorem d_Ma_init_1 : decode y_Ma_init.2.1 1 = .ok (.invokespecial 3, 3) := dc9_183 (by decide +kernel)
theorem d_Ma_init_4 : decode y_Ma_init.2.1 4 = .ok (.aload_n 0, 1) := dc9_42 (by decide +kernel)
theorem d_Ma_init_5 : decode y_Ma_init.2.1 5 = .ok (.bipush 12, 2) := dc9_16 (by decide +kernel)
theorem d_Ma_init_7 : decode y_Ma_init.2.1 7 = .ok (.newarray .int, 2) := by decide +kernel
theorem d_Ma_init_9 : decode y_Ma_init.2.1 9 = .ok (.putfield 9, 3) := dc9_181 (by decide +kernel)
theorem d_Ma_init_12 : decode y_Ma_init.2.1 12 = .ok (.aload_n 0, 1) := dc9_42 (by decide +kernel)
theorem d_Ma_init_13 : decode y_Ma_init.2.1 13 = .ok (.bipush 12, 2) := dc9_16 (by decide +kernel)
theorem d_Ma_init_15 : decode y_Ma_init.2.1 15 = .ok (.newarray .int, 2) := by decide +kernel
theorem d_Ma_init_17 : decode y_Ma_init.2.1 17 = .ok (.putfield 15, 3) := dc9_181 (by decide +kernel)
theorem d_Ma_init_20 : decode y_Ma_init.2.1 20 = .ok (.aload_n 0, 1) := dc9_42 (by decide +kernel)
theorem d_Ma_init_21 : decode y_Ma_init.2.1 21 = .ok (.bipush 64, 2) := dc9_16 (by decide +kernel)
theorem d_Ma_init_23 : decode y_Ma_init.2.1 23 = .ok (.newarray .int, 2) := by decide +kernel
theorem d_Ma_init_25 : decode y_Ma_init.2.1 25 = .ok (.putfield 18, 3) := dc9_181 (by decide +kernel)
theorem d_Ma_init_28 : decode y_Ma_init.2.1 28 = .ok (.aload_n 0, 1) := dc9_42 (by decide +kernel)
theorem d_Ma_init_29 : decode y_Ma_init.2.1 29 = .ok (.bipush 64, 2) := dc9_16 (by decide +kernel)
theorem d_Ma_init_31 : decode y_Ma_init.2.1 31 = .ok (.newarray .int, 2) := by decide +kernel
theorem d_Ma_init_33 : decode y_Ma_init.2.1 33 = .ok (.putfield 21, 3) := dc9_181 (by decide +kernel)
theorem d_Ma_init_36 : decode y_Ma_init.2.1 36 = .ok (.aload_n 0, 1) := dc9_42 (by decide +kernel)
theorem d_Ma_init_37 : decode y_Ma_init.2.1 37 = .ok (.iconst 0, 1) := dc9_3 (by decide +kernel)
theorem d_Ma_init_38 : decode y_Ma_init.2.1 38 = .ok (.putfield 24, 3) := dc9_181 (by decide +kernel)
theorem d_Ma_init_41 : decode y_Ma_init.2.1 41 = .ok (.aload_n 0, 1) := dc9_42 (by decide +kernel)
theorem d_Ma_init_42 : decode y_Ma_init.2.1 42 = .ok (.bipush 60, 2) := dc9_16 (by decide +kernel)
theorem d_Ma_init_44 : decode y_Ma_init.2.1 44 = .ok (.newarray .int, 2) := by decide +kernel
theorem d_Ma_init_46 : decode y_Ma_init.2.1 46 = .ok (.putfield 28, 3) := dc9_181 (by decide +kernel)
theorem d_Ma_init_49 : decode y_Ma_init.2.1 49 = .ok (.aload_n 0, 1) := dc9_42 (by decide +kernel)
theorem d_Ma_init_50 : decode y_Ma_init.2.1 50 = .ok (.bipush 60, 2) := dc9_16 (by decide +kernel)
theorem d_Ma_init_52 : decode y_Ma_init.2.1 52 = .ok (.newarray .int, 2) := by decide +kernel
theorem d_Ma_init_54 : decode y_Ma_init.2.1 54 = .ok (.putfield 31, 3) := dc9_181 (by decide +kernel)
theorem d_Ma_init_57 : decode y_Ma_init.2.1 57 = .ok (.aload_n 0, 1) := dc9_42 (by decide +kernel)
theorem d_Ma_init_58 : decode y_Ma_init.2.1 58 = .ok (.bipush 60, 2) := dc9_16 (by decide +kernel)
theorem d_Ma_init_60 : decode y_Ma_init.2.1 60 = .ok (.newarray .int, 2) := by decide +kernel
theorem d_Ma_init_62 : decode y_Ma_init.2.1 62 = .ok (.putfield 34, 3) := dc9_181 (by decide +kernel)
theorem d_Ma_init_65 : decode y_Ma_init.2.1 65 = .ok (.aload_n 0, 1) := dc9_42 (by decide +kernel)
theorem d_Ma_init_66 : decode y_Ma_init.2.1 66 = .ok (.bipush 61, 2) := dc9_16 (by decide +kernel)
theorem d_Ma_init_68 : decode y_Ma_init.2.1 68 = .ok (.newarray .int, 2) := by decide +kernel
theorem d_Ma_init_70 : decode y_Ma_init.2.1 70 = .ok (.putfield 37, 3) := dc9_181 (by decide +kernel)
theorem d_Ma_init_73 : decode y_Ma_init.2.1 73 = .ok (.aload_n 0, 1) := dc9_42 (by decide +kernel)
theorem d_Ma_init_74 : decode y_Ma_init.2.1 74 = .ok (.bipush 61, 2) := dc9_16 (by decide +kernel)
theorem d_Ma_init_76 : decode y_Ma_init.2.1 76 = .ok (.newarray .int, 2) := by decide +kernel
theorem d_Ma_init_78 : decode y_Ma_init.2.1 78 = .ok (.putfield 40, 3) := dc9_181 (by decide +kernel)
theorem d_Ma_init_81 : decode y_Ma_init.2.1 81 = .ok (.return_, 1) := dc9_177 (by decide +kernel)
theorem k_Ma_init {G : mG} {d : Nat} {a0 : Nat} {M : mM} {Q : mM → Prop} (hO : mOk M)
    (h : 0 < a0 ∧ ∀ M2, M2 = mNew M 30 12 12 → mK M2 a0 = 5 ∧ ∀ M5, M5 = mUR M2 a0 3 (mZ M) → ∀ M7, M7 = mNew M5 30 12 12 → mK M7 a0 = 5 ∧ ∀ M10, M10 = mUR M7 a0 5 (mZ M5) → ∀ M12, M12 = mNew M10 30 64 64 → mK M12 a0 = 5 ∧ ∀ M15, M15 = mUR M12 a0 6 (mZ M10) → ∀ M17, M17 = mNew M15 30 64 64 → mK M17 a0 = 5 ∧ ∀ M20, M20 = mUR M17 a0 7 (mZ M15) → ∀ M22, M22 = mUI M20 a0 9 0 → ∀ M24, M24 = mNew M22 30 60 60 → mK M24 a0 = 5 ∧ ∀ M27, M27 = mUR M24 a0 10 (mZ M22) → ∀ M29, M29 = mNew M27 30 60 60 → mK M29 a0 = 5 ∧ ∀ M32, M32 = mUR M29 a0 11 (mZ M27) → ∀ M34, M34 = mNew M32 30 60 60 → mK M34 a0 = 5 ∧ ∀ M37, M37 = mUR M34 a0 12 (mZ M32) → ∀ M39, M39 = mNew M37 30 61 61 → mK M39 a0 = 5 ∧ ∀ M42, M42 = mUR M39 a0 13 (mZ M37) → ∀ M44, M44 = mNew M42 30 61 61 → mK M44 a0 = 5 ∧ ∀ M47, M47 = mUR M44 a0 14 (mZ M42) → Q M47) :
    Cv G y_Ma_init (d + 1) [vr a0] M Q := by
  refine wm_open (y := y_Ma_init) rfl (Nat.le_of_ble_eq_true rfl) (L := [vr a0]) rfl ?_
  obtain ⟨h1, h⟩ := h
  obtain ⟨M2, e3⟩ : ∃ M2, M2 = mNew M 30 12 12 := ⟨_, rfl⟩
  replace h := h M2 e3
  obtain ⟨h4, h⟩ := h
  obtain ⟨M5, e6⟩ : ∃ M5, M5 = mUR M2 a0 3 (mZ M) := ⟨_, rfl⟩
  replace h := h M5 e6
  obtain ⟨M7, e8⟩ : ∃ M7, M7 = mNew M5 30 12 12 := ⟨_, rfl⟩
  replace h := h M7 e8
  obtain ⟨h9, h⟩ := h
  obtain ⟨M10, e11⟩ : ∃ M10, M10 = mUR M7 a0 5 (mZ M5) := ⟨_, rfl⟩
  replace h := h M10 e11
  obtain ⟨M12, e13⟩ : ∃ M12, M12 = mNew M10 30 64 64 := ⟨_, rfl⟩
  replace h := h M12 e13
  obtain ⟨h14, h⟩ := h
  obtain ⟨M15, e16⟩ : ∃ M15, M15 = mUR M12 a0 6 (mZ M10) := ⟨_, rfl⟩
  replace h := h M15 e16
  obtain ⟨M17, e18⟩ : ∃ M17, M17 = mNew M15 30 64 64 := ⟨_, rfl⟩
  replace h := h M17 e18
  obtain ⟨h19, h⟩ := h
  obtain ⟨M20, e21⟩ : ∃ M20, M20 = mUR M17 a0 7 (mZ M15) := ⟨_, rfl⟩
  replace h := h M20 e21
  obtain ⟨M22, e23⟩ : ∃ M22, M22 = mUI M20 a0 9 0 := ⟨_, rfl⟩
  replace h := h M22 e23
  obtain ⟨M24, e25⟩ : ∃ M24, M24 = mNew M22 30 60 60 := ⟨_, rfl⟩
  replace h := h M24 e25
  obtain ⟨h26, h⟩ := h
  obtain ⟨M27, e28⟩ : ∃ M27, M27 = mUR M24 a0 10 (mZ M22) := ⟨_, rfl⟩
  replace h := h M27 e28
  obtain ⟨M29, e30⟩ : ∃ M29, M29 = mNew M27 30 60 60 := ⟨_, rfl⟩
  replace h := h M29 e30
  obtain ⟨h31, h⟩ := h
  obtain ⟨M32, e33⟩ : ∃ M32, M32 = mUR M29 a0 11 (mZ M27) := ⟨_, rfl⟩
  replace h := h M32 e33
  obtain ⟨M34, e35⟩ : ∃ M34, M34 = mNew M32 30 60 60 := ⟨_, rfl⟩
  replace h := h M34 e35
  obtain ⟨h36, h⟩ := h
  obtain ⟨M37, e38⟩ : ∃ M37, M37 = mUR M34 a0 12 (mZ M32) := ⟨_, rfl⟩
  replace h := h M37 e38
  obtain ⟨M39, e40⟩ : ∃ M39, M39 = mNew M37 30 61 61 := ⟨_, rfl⟩
  replace h := h M39 e40
  obtain ⟨h41, h⟩ := h
  obtain ⟨M42, e43⟩ : ∃ M42, M42 = mUR M39 a0 13 (mZ M37) := ⟨_, rfl⟩
  replace h := h M42 e43
  obtain ⟨M44, e45⟩ : ∃ M44, M44 = mNew M42 30 61 61 := ⟨_, rfl⟩
  replace h := h M44 e45
  obtain ⟨h46, h⟩ := h
  obtain ⟨M47, e48⟩ : ∃ M47, M47 = mUR M44 a0 14 (mZ M42) := ⟨_, rfl⟩
  replace h := h M47 e48
  refine wm_aload_n d_Ma_init_0 rfl rfl ?_
  refine wm_objInit trivial k1_168 kO_inst kO_code (Nat.le_of_ble_eq_true rfl) d_Ma_init_1 h1 ?_
  refine wm_aload_n d_Ma_init_4 rfl rfl ?_
  refine wm_bipush d_Ma_init_5 (by decide) ?_
  have hOM2 : mOk M2 := by rw [e3]; exact mOk_New hO
  refine wm_newarrE 0 (atype := .int) (ty := .int) rfl rfl (fun _ => rfl) rfl rfl (by decide) k1_82 ⟨by decide, by decide⟩ d_Ma_init_7 e3 ?_
  have hOM5 : mOk M5 := by rw [e6]; exact mOk_UR hOM2
  refine pf_Ma_9 rfl d_Ma_init_9 h4 e6 ?_
  refine wm_aload_n d_Ma_init_12 rfl rfl ?_
  refine wm_bipush d_Ma_init_13 (by decide) ?_
  have hOM7 : mOk M7 := by rw [e8]; exact mOk_New hOM5
  refine wm_newarrE 0 (atype := .int) (ty := .int) rfl rfl (fun _ => rfl) rfl rfl (by decide) k1_82 ⟨by decide, by decide⟩ d_Ma_init_15 e8 ?_
  have hOM10 : mOk M10 := by rw [e11]; exact mOk_UR hOM7
  refine pf_Ma_15 rfl rfl d_Ma_init_17 h9 e11 ?_
  refine wm_aload_n d_Ma_init_20 rfl rfl ?_
  refine wm_bipush d_Ma_init_21 (by decide) ?_
  have hOM12 : mOk M12 := by rw [e13]; exact mOk_New hOM10
  refine wm_newarrE 0 (atype := .int) (ty := .int) rfl rfl (fun _ => rfl) rfl rfl (by decide) k1_82 ⟨by decide, by decide⟩ d_Ma_init_23 e13 ?_
  have hOM15 : mOk M15 := by rw [e16]; exact mOk_UR hOM12
  refine pf_Ma_18 rfl d_Ma_init_25 h14 e16 ?_
  refine wm_aload_n d_Ma_init_28 rfl rfl ?_
  refine wm_bipush d_Ma_init_29 (by decide) ?_
  have hOM17 : mOk M17 := by rw [e18]; exact mOk_New hOM15
  refine wm_newarrE 0 (atype := .int) (ty := .int) rfl rfl (fun _ => rfl) rfl rfl (by decide) k1_82 ⟨by decide, by decide⟩ d_Ma_init_31 e18 ?_
  have hOM20 : mOk M20 := by rw [e21]; exact mOk_UR hOM17
  refine pf_Ma_21 rfl d_Ma_init_33 h19 e21 ?_
  refine wm_aload_n d_Ma_init_36 rfl rfl ?_
  refine wm_iconst d_Ma_init_37 ?_
  have hOM22 : mOk M22 := by rw [e23]; exact mOk_UI hOM20 ⟨by decide, by decide⟩
  refine pf_Ma_24 rfl d_Ma_init_38 (by rw [e21]; exact h19) ⟨by decide, by decide⟩ e23 ?_
  refine wm_aload_n d_Ma_init_41 rfl rfl ?_
  refine wm_bipush d_Ma_init_42 (by decide) ?_
  have hOM24 : mOk M24 := by rw [e25]; exact mOk_New hOM22
  refine wm_newarrE 0 (atype := .int) (ty := .int) rfl rfl (fun _ => rfl) rfl rfl (by decide) k1_82 ⟨by decide, by decide⟩ d_Ma_init_44 e25 ?_
  have hOM27 : mOk M27 := by rw [e28]; exact mOk_UR hOM24
  refine pf_Ma_28 rfl rfl d_Ma_init_46 h26 e28 ?_
  refine wm_aload_n d_Ma_init_49 rfl rfl ?_
  refine wm_bipush d_Ma_init_50 (by decide) ?_
  have hOM29 : mOk M29 := by rw [e30]; exact mOk_New hOM27
  refine wm_newarrE 0 (atype := .int) (ty := .int) rfl rfl (fun _ => rfl) rfl rfl (by decide) k1_82 ⟨by decide, by decide⟩ d_Ma_init_52 e30 ?_
  have hOM32 : mOk M32 := by rw [e33]; exact mOk_UR hOM29
  refine pf_Ma_31 rfl rfl d_Ma_init_54 h31 e33 ?_
  refine wm_aload_n d_Ma_init_57 rfl rfl ?_
  refine wm_bipush d_Ma_init_58 (by decide) ?_
  have hOM34 : mOk M34 := by rw [e35]; exact mOk_New hOM32
  refine wm_newarrE 0 (atype := .int) (ty := .int) rfl rfl (fun _ => rfl) rfl rfl (by decide) k1_82 ⟨by decide, by decide⟩ d_Ma_init_60 e35 ?_
  have hOM37 : mOk M37 := by rw [e38]; exact mOk_UR hOM34
  refine pf_Ma_34 rfl rfl d_Ma_init_62 h36 e38 ?_
  refine wm_aload_n d_Ma_init_65 rfl rfl ?_
  refine wm_bipush d_Ma_init_66 (by decide) ?_
  have hOM39 : mOk M39 := by rw [e40]; exact mOk_New hOM37
  refine wm_newarrE 0 (atype := .int) (ty := .int) rfl rfl (fun _ => rfl) rfl rfl (by decide) k1_82 ⟨by decide, by decide⟩ d_Ma_init_68 e40 ?_
  have hOM42 : mOk M42 := by rw [e43]; exact mOk_UR hOM39
  refine pf_Ma_37 rfl rfl d_Ma_init_70 h41 e43 ?_
  refine wm_aload_n d_Ma_init_73 rfl rfl ?_
  refine wm_bipush d_Ma_init_74 (by decide) ?_
  have hOM44 : mOk M44 := by rw [e45]; exact mOk_New hOM42
  refine wm_newarrE 0 (atype := .int) (ty := .int) rfl rfl (fun _ => rfl) rfl rfl (by decide) k1_82 ⟨by decide, by decide⟩ d_Ma_init_76 e45 ?_
  have hOM47 : mOk M47 := by rw [e48]; exact mOk_UR hOM44
  refine pf_Ma_40 rfl rfl d_Ma_init_78 h46 e48 ?_
  refine wm_return d_Ma_init_81 rfl ?_
  exact ⟨rfl, h⟩
theorem d_Ma_commonDivisor_0 : decode y_Ma_commonDivisor.2.1 0 = .ok (.lload_n 0, 1) := dc9_30 (by decide +kernel)
theorem d_Ma_commonDivisor_1 : decode y_Ma_commonDivisor.2.1 1 = .ok (.lconst 0, 1) := dc9_9 (by decide +kernel)
theorem d_Ma_commonDivisor_2 : decode y_Ma_commonDivisor.2.1 2 = .ok (.lcmp, 1) := dc9_148 (by decide +kernel)
theorem d_Ma_commonDivisor_3 : decode y_Ma_commonDivisor.2.1 3 = .ok (.ifCond .ge 8, 3) := dc9_156 (by decide +kernel)
theorem d_Ma_commonDivisor_11 : decode y_Ma_commonDivisor.2.1 11 = .ok (.lload_n 0, 1) := dc9_30 (by decide +kernel)
theorem d_Ma_commonDivisor_6 : decode y_Ma_commonDivisor.2.1 6 = .ok (.lload_n 0, 1) := dc9_30 (by decide +kernel)
theorem d_Ma_commonDivisor_7 : decode y_Ma_commonDivisor.2.1 7 = .ok (.lneg, 1) := dc9_117 (by decide +kernel)
theorem d_Ma_commonDivisor_8 : decode y_Ma_commonDivisor.2.1 8 = .ok (.goto 4, 3) := dc9_167 (by decide +kernel)
theorem d_Ma_commonDivisor_12 : decode y_Ma_commonDivisor.2.1 12 = .ok (.lstore 4, 2) := dc9_55 (by decide +kernel)
theorem d_Ma_commonDivisor_14 : decode y_Ma_commonDivisor.2.1 14 = .ok (.lload_n 2, 1) := dc9_32 (by decide +kernel)
theorem d_Ma_commonDivisor_15 : decode y_Ma_commonDivisor.2.1 15 = .ok (.lstore 6, 2) := dc9_55 (by decide +kernel)
theorem d_Ma_commonDivisor_17 : decode y_Ma_commonDivisor.2.1 17 = .ok (.iconst 0, 1) := dc9_3 (by decide +kernel)
theorem d_Ma_commonDivisor_18 : decode y_Ma_commonDivisor.2.1 18 = .ok (.istore 8, 2) := dc9_54 (by decide +kernel)
theorem d_Ma_commonDivisor_20 : decode y_Ma_commonDivisor.2.1 20 = .ok (.iload 8, 2) := dc9_21 (by decide +kernel)
theorem d_Ma_commonDivisor_22 : decode y_Ma_commonDivisor.2.1 22 = .ok (.bipush 100, 2) := dc9_16 (by decide +kernel)
theorem d_Ma_commonDivisor_24 : decode y_Ma_commonDivisor.2.1 24 = .ok (.if_icmp .ge 31, 3) := dc9_162 (by decide +kernel)
theorem d_Ma_commonDivisor_27 : decode y_Ma_commonDivisor.2.1 27 = .ok (.lload 6, 2) := dc9_22 (by decide +kernel)
theorem d_Ma_commonDivisor_29 : decode y_Ma_commonDivisor.2.1 29 = .ok (.lconst 0, 1) := dc9_9 (by decide +kernel)
theorem d_Ma_commonDivisor_30 : decode y_Ma_commonDivisor.2.1 30 = .ok (.lcmp, 1) := dc9_148 (by decide +kernel)
theorem d_Ma_commonDivisor_31 : decode y_Ma_commonDivisor.2.1 31 = .ok (.ifCond .eq 24, 3) := dc9_153 (by decide +kernel)
theorem d_Ma_commonDivisor_34 : decode y_Ma_commonDivisor.2.1 34 = .ok (.lload 4, 2) := dc9_22 (by decide +kernel)
theorem d_Ma_commonDivisor_36 : decode y_Ma_commonDivisor.2.1 36 = .ok (.lload 6, 2) := dc9_22 (by decide +kernel)
theorem d_Ma_commonDivisor_38 : decode y_Ma_commonDivisor.2.1 38 = .ok (.lrem, 1) := dc9_113 (by decide +kernel)
theorem d_Ma_commonDivisor_39 : decode y_Ma_commonDivisor.2.1 39 = .ok (.lstore 9, 2) := dc9_55 (by decide +kernel)
theorem d_Ma_commonDivisor_41 : decode y_Ma_commonDivisor.2.1 41 = .ok (.lload 6, 2) := dc9_22 (by decide +kernel)
theorem d_Ma_commonDivisor_43 : decode y_Ma_commonDivisor.2.1 43 = .ok (.lstore 4, 2) := dc9_55 (by decide +kernel)
theorem d_Ma_commonDivisor_45 : decode y_Ma_commonDivisor.2.1 45 = .ok (.lload 9, 2) := dc9_22 (by decide +kernel)
theorem d_Ma_commonDivisor_47 : decode y_Ma_commonDivisor.2.1 47 = .ok (.lstore 6, 2) := dc9_55 (by decide +kernel)
theorem d_Ma_commonDivisor_49 : decode y_Ma_commonDivisor.2.1 49 = .ok (.iinc 8 1, 3) := by decide +kernel
theorem d_Ma_commonDivisor_52 : decode y_Ma_commonDivisor.2.1 52 = .ok (.goto (-32), 3) := dc9_167 (by decide +kernel)
theorem d_Ma_commonDivisor_55 : decode y_Ma_commonDivisor.2.1 55 = .ok (.lload 4, 2) := dc9_22 (by decide +kernel)
theorem d_Ma_commonDivisor_57 : decode y_Ma_commonDivisor.2.1 57 = .ok (.lconst 0, 1) := dc9_9 (by decide +kernel)
theorem d_Ma_commonDivisor_58 : decode y_Ma_commonDivisor.2.1 58 = .ok (.lcmp, 1) := dc9_148 (by decide +kernel)
theorem d_Ma_commonDivisor_59 : decode y_Ma_commonDivisor.2.1 59 = .ok (.ifCond .ne 7, 3) := dc9_154 (by decide +kernel)
theorem d_Ma_commonDivisor_62 : decode y_Ma_commonDivisor.2.1 62 = .ok (.lconst 1, 1) := dc9_10 (by decide +kernel)
theorem d_Ma_commonDivisor_63 : decode y_Ma_commonDivisor.2.1 63 = .ok (.goto 5, 3) := dc9_167 (by decide +kernel)
theorem d_Ma_commonDivisor_66 : decode y_Ma_commonDivisor.2.1 66 = .ok (.lload 4, 2) := dc9_22 (by decide +kernel)
theorem d_Ma_commonDivisor_68 : decode y_Ma_commonDivisor.2.1 68 = .ok (.lreturn, 1) := dc9_173 (by decide +kernel)
def h_Ma_commonDivisor_20 (G : mG) (d : Nat) (j4 : Int) (j6 : Int) (l8 : Int) (M : mM) (Q : Int → mM → Prop) : Prop := mWm G y_Ma_commonDivisor d 20 [vd, vd, vd, vd, vl j4, vd, vl j6, vd, vi l8, vd, vd] [] M (fun r9 M9 => ∃ x9, r9 = some (vl x9) ∧ Q x9 M9)
theorem k_Ma_commonDivisor {G : mG} {d : Nat} {j0 : Int} {j2 : Int} {M : mM} {Q : Int → mM → Prop} (hO : mOk M) (hi_j0 : i64 j0) (hi_j2 : i64 j2)
    (h : ∀ v2 : Int, v2 = (if (0 ≤ cmpL j0 0) then j0 else -j0) → h_Ma_commonDivisor_20 G d v2 j2 0 M Q) :
    Cj G y_Ma_commonDivisor d [vl j0, vl j2] M Q := by
  refine wm_open (y := y_Ma_commonDivisor) rfl (Nat.le_of_ble_eq_true rfl) (L := [vl j0, vd, vl j2, vd, vd, vd, vd, vd, vd, vd, vd]) rfl ?_
  refine wm_lload_n d_Ma_commonDivisor_0 rfl rfl ?_
  refine wm_lconst (x := 0) d_Ma_commonDivisor_1 rfl ?_
  refine wm_lcmp d_Ma_commonDivisor_2 hi_j0 ⟨by decide, by decide⟩ ?_
  have hJ : ∀ v2 : Int, v2 = (if (0 ≤ cmpL j0 0) then j0 else -j0) → mWm G y_Ma_commonDivisor d 12 [vd, vd, vl j2, vd, vd, vd, vd, vd, vd, vd, vd] [vl v2] M (fun r9 M9 => ∃ x9, r9 = some (vl x9) ∧ Q x9 M9) := by
    intro v2 e4
    have h := h v2 e4
    refine wm_lstore d_Ma_commonDivisor_12 (by decide) (L' := [vd, vd, vl j2, vd, vl v2, vd, vd, vd, vd, vd, vd]) rfl ?_
    refine wm_lload_n d_Ma_commonDivisor_14 rfl rfl ?_
    refine wm_lstore d_Ma_commonDivisor_15 (by decide) (L' := [vd, vd, vl j2, vd, vl v2, vd, vl j2, vd, vd, vd, vd]) rfl ?_
    refine wm_iconst d_Ma_commonDivisor_17 ?_
    refine wm_istore d_Ma_commonDivisor_18 (by decide) (L' := [vd, vd, vl j2, vd, vl v2, vd, vl j2, vd, vi 0, vd, vd]) rfl ?_
    refine wm_less (L' := [vd, vd, vd, vd, vl v2, vd, vl j2, vd, vi 0, vd, vd]) ⟨Or.inl rfl, Or.inl rfl, Or.inl rfl, Or.inl rfl, Or.inr rfl, Or.inl rfl, Or.inr rfl, Or.inl rfl, Or.inr rfl, Or.inl rfl, Or.inl rfl, trivial⟩ ?_
    exact h
  clear h
  refine wm_if_ge (tgt := 11) d_Ma_commonDivisor_3 rfl (m_cmp32 _ _) (fun c1 => ?_) (fun c1 => ?_)
  · refine wm_lload_n d_Ma_commonDivisor_11 rfl rfl ?_
    refine wm_less (L' := [vd, vd, vl j2, vd, vd, vd, vd, vd, vd, vd, vd]) ⟨Or.inl rfl, Or.inl rfl, Or.inr rfl, Or.inl rfl, Or.inl rfl, Or.inl rfl, Or.inl rfl, Or.inl rfl, Or.inl rfl, Or.inl rfl, Or.inl rfl, trivial⟩ ?_
    exact hJ j0 (if_pos c1).symm
  · refine wm_lload_n d_Ma_commonDivisor_6 rfl rfl ?_
    refine wm_lneg d_Ma_commonDivisor_7 ?_
    refine wm_goto (tgt := 12) d_Ma_commonDivisor_8 rfl ?_
    refine wm_less (L' := [vd, vd, vl j2, vd, vd, vd, vd, vd, vd, vd, vd]) ⟨Or.inl rfl, Or.inl rfl, Or.inr rfl, Or.inl rfl, Or.inl rfl, Or.inl rfl, Or.inl rfl, Or.inl rfl, Or.inl rfl, Or.inl rfl, Or.inl rfl, trivial⟩ ?_
    exact hJ (-j0) (if_neg c1).symm
theorem k_Ma_commonDivisor_20 {G : mG} {d : Nat} {j4 : Int} {j6 : Int} {l8 : Int} {M : mM} {Q : Int → mM → Prop} (hO : mOk M) (hi_j4 : i64 j4) (hi_j6 : i64 j6) (hi_l8 : i32 l8)
    (h : (((100 ≤ l8) ∨ (cmpL j6 0 = 0)) → (∀ v12 : Int, v12 = (if (cmpL j4 0 = 0) then 1 else j4) → Q v12 M)) ∧ (¬ ((100 ≤ l8) ∨ (cmpL j6 0 = 0)) → (j6 ≠ 0 ∧ h_Ma_commonDivisor_20 G d j6 (Int.tmod j4 j6) (l8 + 1) M Q))) :
    h_Ma_commonDivisor_20 G d j4 j6 l8 M Q := by
  unfold h_Ma_commonDivisor_20
  refine wm_iload d_Ma_commonDivisor_20 rfl ?_
  refine wm_bipush d_Ma_commonDivisor_22 (by decide) ?_
  have hE0 : ((100 ≤ l8) ∨ (cmpL j6 0 = 0)) → mWm G y_Ma_commonDivisor d 55 [vd, vd, vd, vd, vl j4, vd, vl j6, vd, vi l8, vd, vd] [] M (fun r9 M9 => ∃ x9, r9 = some (vl x9) ∧ Q x9 M9) := by
    intro q10
    have h := h.1 q10
    refine wm_lload d_Ma_commonDivisor_55 rfl ?_
    refine wm_lconst (x := 0) d_Ma_commonDivisor_57 rfl ?_
    refine wm_lcmp d_Ma_commonDivisor_58 hi_j4 ⟨by decide, by decide⟩ ?_
    have hJ : ∀ v12 : Int, v12 = (if (cmpL j4 0 = 0) then 1 else j4) → mWm G y_Ma_commonDivisor d 68 [vd, vd, vd, vd, vd, vd, vd, vd, vd, vd, vd] [vl v12] M (fun r9 M9 => ∃ x9, r9 = some (vl x9) ∧ Q x9 M9) := by
      intro v12 e14
      have h := h v12 e14
      refine wm_lreturn d_Ma_commonDivisor_68 rfl ?_
      exact ⟨_, rfl, h⟩
    clear h
    refine wm_if_ne (tgt := 66) d_Ma_commonDivisor_59 rfl (m_cmp32 _ _) (fun c11 => ?_) (fun c11 => ?_)
    · refine wm_lload d_Ma_commonDivisor_66 rfl ?_
      refine wm_less (L' := [vd, vd, vd, vd, vd, vd, vd, vd, vd, vd, vd]) ⟨Or.inl rfl, Or.inl rfl, Or.inl rfl, Or.inl rfl, Or.inl rfl, Or.inl rfl, Or.inl rfl, Or.inl rfl, Or.inl rfl, Or.inl rfl, Or.inl rfl, trivial⟩ ?_
      exact hJ j4 (if_neg c11).symm
    · replace c11 := Classical.not_not.mp c11
      refine wm_lconst (x := 1) d_Ma_commonDivisor_62 rfl ?_
      refine wm_goto (tgt := 68) d_Ma_commonDivisor_63 rfl ?_
      refine wm_less (L' := [vd, vd, vd, vd, vd, vd, vd, vd, vd, vd, vd]) ⟨Or.inl rfl, Or.inl rfl, Or.inl rfl, Or.inl rfl, Or.inl rfl, Or.inl rfl, Or.inl rfl, Or.inl rfl, Or.inl rfl, Or.inl rfl, Or.inl rfl, trivial⟩ ?_
      exact hJ 1 (if_pos c11).symm
  have hE1 : ¬ ((100 ≤ l8) ∨ (cmpL j6 0 = 0)) → mWm G y_Ma_commonDivisor d 34 [vd, vd, vd, vd, vl j4, vd, vl j6, vd, vi l8, vd, vd] [] M (fun r9 M9 => ∃ x9, r9 = some (vl x9) ∧ Q x9 M9) := by
    intro q16
    have h := h.2 q16
    obtain ⟨h17, h⟩ := h
    refine wm_lload d_Ma_commonDivisor_34 rfl ?_
    refine wm_lload d_Ma_commonDivisor_36 rfl ?_
    refine wm_lrem d_Ma_commonDivisor_38 hi_j4 hi_j6 h17 ?_
    refine wm_lstore d_Ma_commonDivisor_39 (by decide) (L' := [vd, vd, vd, vd, vl j4, vd, vl j6, vd, vi l8, vl (Int.tmod j4 j6), vd]) rfl ?_
    refine wm_lload d_Ma_commonDivisor_41 rfl ?_
    refine wm_lstore d_Ma_commonDivisor_43 (by decide) (L' := [vd, vd, vd, vd, vl j6, vd, vl j6, vd, vi l8, vl (Int.tmod j4 j6), vd]) rfl ?_
    refine wm_lload d_Ma_commonDivisor_45 rfl ?_
    refine wm_lstore d_Ma_commonDivisor_47 (by decide) (L' := [vd, vd, vd, vd, vl j6, vd, vl (Int.tmod j4 j6), vd, vi l8, vl (Int.tmod j4 j6), vd]) rfl ?_
    refine wm_iinc d_Ma_commonDivisor_49 (by decide) rfl (L' := [vd, vd, vd, vd, vl j6, vd, vl (Int.tmod j4 j6), vd, vi (l8 + 1), vl (Int.tmod j4 j6), vd]) rfl ?_
    refine wm_goto (tgt := 20) d_Ma_commonDivisor_52 rfl ?_
    refine wm_less (L' := [vd, vd, vd, vd, vl j6, vd, vl (Int.tmod j4 j6), vd, vi (l8 + 1), vd, vd]) ⟨Or.inl rfl, Or.inl rfl, Or.inl rfl, Or.inl rfl, Or.inr rfl, Or.inl rfl, Or.inr rfl, Or.inl rfl, Or.inr rfl, Or.inl rfl, Or.inl rfl, trivial⟩ ?_
    exact h
  clear h
  refine wm_icmp_ge (tgt := 55) d_Ma_commonDivisor_24 rfl hi_l8 ⟨by decide, by decide⟩ (fun c8 => ?_) (fun c8 => ?_)
  · exact hE0 (Or.inl c8)
  · refine wm_lload d_Ma_commonDivisor_27 rfl ?_
    refine wm_lconst (x := 0) d_Ma_commonDivisor_29 rfl ?_
    refine wm_lcmp d_Ma_commonDivisor_30 hi_j6 ⟨by decide, by decide⟩ ?_
    refine wm_if_eq (tgt := 55) d_Ma_commonDivisor_31 rfl (m_cmp32 _ _) (fun c7 => ?_) (fun c7 => ?_)
    · exact hE0 (Or.inr c7)
    · exact hE1 (fun z18 => Or.elim z18 c8 c7)
theorem d_Ma_enter_0 : decode y_Ma_enter.2.1 0 = .ok (.aload_n 0, 1) := dc9_42 (by decide +kernel)
theorem d_Ma_enter_1 : decode y_Ma_enter.2.1 1 = .ok (.aload_n 1, 1) := dc9_43 (by decide +kernel)
theorem d_Ma_enter_2 : decode y_Ma_enter.2.1 2 = .ok (.putfield 9, 3) := dc9_181 (by decide +kernel)
theorem d_Ma_enter_5 : decode y_Ma_enter.2.1 5 = .ok (.aload_n 0, 1) := dc9_42 (by decide +kernel)
theorem d_Ma_enter_6 : decode y_Ma_enter.2.1 6 = .ok (.iload_n 2, 1) := dc9_28 (by decide +kernel)
theorem d_Ma_enter_7 : decode y_Ma_enter.2.1 7 = .ok (.putfield 43, 3) := dc9_181 (by decide +kernel)
theorem d_Ma_enter_10 : decode y_Ma_enter.2.1 10 = .ok (.aload_n 0, 1) := dc9_42 (by decide +kernel)
theorem d_Ma_enter_11 : decode y_Ma_enter.2.1 11 = .ok (.dup, 1) := dc9_89 (by decide +kernel)
theorem d_Ma_enter_12 : decode y_Ma_enter.2.1 12 = .ok (.getfield 24, 3) := dc9_180 (by decide +kernel)
theorem d_Ma_enter_15 : decode y_Ma_enter.2.1 15 = .ok (.iconst 1, 1) := dc9_4 (by decide +kernel)
theorem d_Ma_enter_16 : decode y_Ma_enter.2.1 16 = .ok (.iadd, 1) := dc9_96 (by decide +kernel)
theorem d_Ma_enter_17 : decode y_Ma_enter.2.1 17 = .ok (.putfield 24, 3) := dc9_181 (by decide +kernel)
theorem d_Ma_enter_20 : decode y_Ma_enter.2.1 20 = .ok (.return_, 1) := dc9_177 (by decide +kernel)
theorem k_Ma_enter {G : mG} {d : Nat} {a0 : Nat} {a1 : Nat} {l2 : Int} {M : mM} {Q : mM → Prop} (hO : mOk M) (hi_l2 : i32 l2)
    (h : mK M a0 = 5 ∧ ∀ M2, M2 = mUR M a0 3 a1 → ∀ M4, M4 = mUI M2 a0 4 l2 → i32 ((mI M4 a0 9) + 1) ∧ ∀ M7, M7 = mUI M4 a0 9 ((mI M4 a0 9) + 1) → Q M7) :
    Cv G y_Ma_enter d [vr a0, vr a1, vi l2] M Q := by
  refine wm_open (y := y_Ma_enter) rfl (Nat.le_of_ble_eq_true rfl) (L := [vr a0, vr a1, vi l2]) rfl ?_
  obtain ⟨h1, h⟩ := h
  obtain ⟨M2, e3⟩ : ∃ M2, M2 = mUR M a0 3 a1 := ⟨_, rfl⟩
  replace h := h M2 e3
  obtain ⟨M4, e5⟩ : ∃ M4, M4 = mUI M2 a0 4 l2 := ⟨_, rfl⟩
  replace h := h M4 e5
  obtain ⟨h6, h⟩ := h
  obtain ⟨M7, e8⟩ : ∃ M7, M7 = mUI M4 a0 9 ((mI M4 a0 9) + 1) := ⟨_, rfl⟩
  replace h := h M7 e8
  refine wm_aload_n d_Ma_enter_0 rfl rfl ?_
  refine wm_aload_n d_Ma_enter_1 rfl rfl ?_
  have hOM2 : mOk M2 := by rw [e3]; exact mOk_UR hO
  refine pf_Ma_9 rfl d_Ma_enter_2 h1 e3 ?_
  refine wm_aload_n d_Ma_enter_5 rfl rfl ?_
  refine wm_iload_n d_Ma_enter_6 rfl rfl ?_
  have hOM4 : mOk M4 := by rw [e5]; exact mOk_UI hOM2 hi_l2
  refine pf_Ma_43 rfl d_Ma_enter_7 (by rw [e3]; exact h1) hi_l2 e5 ?_
  refine wm_aload_n d_Ma_enter_10 rfl rfl ?_
  refine wm_dup d_Ma_enter_11 rfl ?_
  refine gf_Ma_24 rfl d_Ma_enter_12 (by rw [e5, e3]; exact h1) ?_
  refine wm_iconst d_Ma_enter_15 ?_
  refine wm_iadd d_Ma_enter_16 ?_
  have hOM7 : mOk M7 := by rw [e8]; exact mOk_UI hOM4 h6
  refine pf_Ma_24 rfl d_Ma_enter_17 (by rw [e5, e3]; exact h1) h6 e8 ?_
  refine wm_return d_Ma_enter_20 rfl ?_
  exact ⟨rfl, h⟩
theorem d_Ma_beginSets_0 : decode y_Ma_beginSets.2.1 0 = .ok (.aload_n 0, 1) := dc9_42 (by decide +kernel)
theorem d_Ma_beginSets_1 : decode y_Ma_beginSets.2.1 1 = .ok (.getfield 9, 3) := dc9_180 (by decide +kernel)
theorem d_Ma_beginSets_4 : decode y_Ma_beginSets.2.1 4 = .ok (.aload_n 0, 1) := dc9_42 (by decide +kernel)
theorem d_Ma_beginSets_5 : decode y_Ma_beginSets.2.1 5 = .ok (.getfield 43, 3) := dc9_180 (by decide +kernel)
theorem d_Ma_beginSets_8 : decode y_Ma_beginSets.2.1 8 = .ok (.aload_n 0, 1) := dc9_42 (by decide +kernel)
theorem d_Ma_beginSets_9 : decode y_Ma_beginSets.2.1 9 = .ok (.getfield 15, 3) := dc9_180 (by decide +kernel)
theorem d_Ma_beginSets_12 : decode y_Ma_beginSets.2.1 12 = .ok (.iconst 0, 1) := dc9_3 (by decide +kernel)
theorem d_Ma_beginSets_13 : decode y_Ma_beginSets.2.1 13 = .ok (.bipush 12, 2) := dc9_16 (by decide +kernel)
theorem d_Ma_beginSets_15 : decode y_Ma_beginSets.2.1 15 = .ok (.invokestatic 46, 3) := dc9_184 (by decide +kernel)
theorem d_Ma_beginSets_18 : decode y_Ma_beginSets.2.1 18 = .ok (.return_, 1) := dc9_177 (by decide +kernel)
theorem k_Ma_beginSets {G : mG} {d : Nat} {a0 : Nat} {M : mM} {Q : mM → Prop} (hO : mOk M)
    (h : mK M a0 = 5 ∧ mK M (mR M a0 3) = 30 ∧ mK M (mR M a0 5) = 30 ∧ ((0 : Int) ≤ mI M a0 4 ∧ (0 : Int) ≤ 0 ∧ (0 : Int) ≤ 12 ∧ (mI M a0 4) + 12 ≤ (mN M (mR M a0 3) : Int) ∧ 0 + 12 ≤ (mN M (mR M a0 5) : Int)) ∧ ∀ M5, M5 = mCpy M (mR M a0 3) (mR M a0 5) (Int.toNat (mI M a0 4)) 0 12 → Q M5) :
    Cv G y_Ma_beginSets (d + 1) [vr a0] M Q := by
  refine wm_open (y := y_Ma_beginSets) rfl (Nat.le_of_ble_eq_true rfl) (L := [vr a0]) rfl ?_
  obtain ⟨h1, h⟩ := h
  obtain ⟨h2, h⟩ := h
  obtain ⟨h3, h⟩ := h
  obtain ⟨h4, h⟩ := h
  obtain ⟨M5, e6⟩ : ∃ M5, M5 = mCpy M (mR M a0 3) (mR M a0 5) (Int.toNat (mI M a0 4)) 0 12 := ⟨_, rfl⟩
  replace h := h M5 e6
  refine wm_aload_n d_Ma_beginSets_0 rfl rfl ?_
  refine gf_Ma_9 rfl d_Ma_beginSets_1 h1 ?_
  refine wm_aload_n d_Ma_beginSets_4 rfl rfl ?_
  refine gf_Ma_43 rfl d_Ma_beginSets_5 h1 ?_
  refine wm_aload_n d_Ma_beginSets_8 rfl rfl ?_
  refine gf_Ma_15 rfl d_Ma_beginSets_9 h1 ?_
  refine wm_iconst d_Ma_beginSets_12 ?_
  refine wm_bipush d_Ma_beginSets_13 (by decide) ?_
  have hOM5 : mOk M5 := by rw [e6]; exact mOk_Cpy hO
  refine wm_copyi k8_38 (Nat.le_of_ble_eq_true rfl) h2 h3 h4 d_Ma_beginSets_15 e6 ?_
  refine wm_return d_Ma_beginSets_18 rfl ?_
  exact ⟨rfl, h⟩
end
section
theorem d_Ma_run_0 : decode y_Ma_run.2.1 0 = .ok (.iload_n 1, 1) := dc9_27 (by decide +kernel)
theorem d_Ma_run_1 : decode y_Ma_run.2.1 1 = .ok (.istore_n 2, 1) := dc9_61 (by decide +kernel)
theorem d_Ma_run_2 : decode y_Ma_run.2.1 2 = .ok (.aload_n 0, 1) := dc9_42 (by decide +kernel)
theorem d_Ma_run_3 : decode y_Ma_run.2.1 3 = .ok (.iconst 0, 1) := dc9_3 (by decide +kernel)
theorem d_Ma_run_4 : decode y_Ma_run.2.1 4 = .ok (.putfield 52, 3) := dc9_181 (by decide +kernel)
theorem d_Ma_run_7 : decode y_Ma_run.2.1 7 = .ok (.aload_n 0, 1) := dc9_42 (by decide +kernel)
theorem d_Ma_run_8 : decode y_Ma_run.2.1 8 = .ok (.iconst 0, 1) := dc9_3 (by decide +kernel)
theorem d_Ma_run_9 : decode y_Ma_run.2.1 9 = .ok (.putfield 55, 3) := dc9_181 (by decide +kernel)
theorem d_Ma_run_12 : decode y_Ma_run.2.1 12 = .ok (.iconst 0, 1) := dc9_3 (by decide +kernel)
theorem d_Ma_run_13 : decode y_Ma_run.2.1 13 = .ok (.istore_n 3, 1) := dc9_62 (by decide +kernel)
theorem d_Ma_run_14 : decode y_Ma_run.2.1 14 = .ok (.iload_n 3, 1) := dc9_29 (by decide +kernel)
theorem d_Ma_run_15 : decode y_Ma_run.2.1 15 = .ok (.ldc 58, 2) := dc9_18 (by decide +kernel)
theorem d_Ma_run_17 : decode y_Ma_run.2.1 17 = .ok (.if_icmp .ge 347, 3) := dc9_162 (by decide +kernel)
theorem d_Ma_run_20 : decode y_Ma_run.2.1 20 = .ok (.iload_n 2, 1) := dc9_28 (by decide +kernel)
theorem d_Ma_run_21 : decode y_Ma_run.2.1 21 = .ok (.ifCond .lt 343, 3) := dc9_155 (by decide +kernel)
theorem d_Ma_run_24 : decode y_Ma_run.2.1 24 = .ok (.iload_n 2, 1) := dc9_28 (by decide +kernel)
theorem d_Ma_run_25 : decode y_Ma_run.2.1 25 = .ok (.aload_n 0, 1) := dc9_42 (by decide +kernel)
theorem d_Ma_run_26 : decode y_Ma_run.2.1 26 = .ok (.getfield 59, 3) := dc9_180 (by decide +kernel)
theorem d_Ma_run_29 : decode y_Ma_run.2.1 29 = .ok (.getfield 63, 3) := dc9_180 (by decide +kernel)
theorem d_Ma_run_32 : decode y_Ma_run.2.1 32 = .ok (.if_icmp .ge 332, 3) := dc9_162 (by decide +kernel)
theorem d_Ma_run_35 : decode y_Ma_run.2.1 35 = .ok (.aload_n 0, 1) := dc9_42 (by decide +kernel)
theorem d_Ma_run_36 : decode y_Ma_run.2.1 36 = .ok (.getfield 59, 3) := dc9_180 (by decide +kernel)
theorem d_Ma_run_39 : decode y_Ma_run.2.1 39 = .ok (.getfield 68, 3) := dc9_180 (by decide +kernel)
theorem d_Ma_run_42 : decode y_Ma_run.2.1 42 = .ok (.iload_n 2, 1) := dc9_28 (by decide +kernel)
theorem d_Ma_run_43 : decode y_Ma_run.2.1 43 = .ok (.iaload, 1) := dc9_46 (by decide +kernel)
theorem d_Ma_run_44 : decode y_Ma_run.2.1 44 = .ok (.istore 4, 2) := dc9_54 (by decide +kernel)
theorem d_Ma_run_46 : decode y_Ma_run.2.1 46 = .ok (.aload_n 0, 1) := dc9_42 (by decide +kernel)
theorem d_Ma_run_47 : decode y_Ma_run.2.1 47 = .ok (.getfield 59, 3) := dc9_180 (by decide +kernel)
theorem d_Ma_run_50 : decode y_Ma_run.2.1 50 = .ok (.getfield 71, 3) := dc9_180 (by decide +kernel)
theorem d_Ma_run_53 : decode y_Ma_run.2.1 53 = .ok (.iload_n 2, 1) := dc9_28 (by decide +kernel)
theorem d_Ma_run_54 : decode y_Ma_run.2.1 54 = .ok (.iaload, 1) := dc9_46 (by decide +kernel)
theorem d_Ma_run_55 : decode y_Ma_run.2.1 55 = .ok (.istore 5, 2) := dc9_54 (by decide +kernel)
theorem d_Ma_run_57 : decode y_Ma_run.2.1 57 = .ok (.iinc 2 1, 3) := by decide +kernel
theorem d_Ma_run_60 : decode y_Ma_run.2.1 60 = .ok (.iload 4, 2) := dc9_21 (by decide +kernel)
theorem d_Ma_run_364 : decode y_Ma_run.2.1 364 = .ok (.aload_n 0, 1) := dc9_42 (by decide +kernel)
theorem d_Ma_run_365 : decode y_Ma_run.2.1 365 = .ok (.bipush 6, 2) := dc9_16 (by decide +kernel)
theorem d_Ma_run_367 : decode y_Ma_run.2.1 367 = .ok (.iconst 0, 1) := dc9_3 (by decide +kernel)
theorem d_Ma_run_368 : decode y_Ma_run.2.1 368 = .ok (.invokevirtual 92, 3) := dc9_182 (by decide +kernel)
theorem d_Ma_run_371 : decode y_Ma_run.2.1 371 = .ok (.ireturn, 1) := dc9_172 (by decide +kernel)
theorem d_Ma_run_62 : decode y_Ma_run.2.1 62 = .ok (.lookupswitch 283 #[(0, 266), (3, 82), (4, 92), (5, 119), (7, 139), (30, 150), (31, 150), (33, 228), (42, 260)], 82) := by decide +kernel
theorem z_Ma_run_62_s : lkS #[(0, 266), (3, 82), (4, 92), (5, 119), (7, 139), (30, 150), (31, 150), (33, 228), (42, 260)] := by unfold lkS; decide
theorem d_Ma_run_328 : decode y_Ma_run.2.1 328 = .ok (.aload_n 0, 1) := dc9_42 (by decide +kernel)
theorem d_Ma_run_329 : decode y_Ma_run.2.1 329 = .ok (.getfield 55, 3) := dc9_180 (by decide +kernel)
theorem d_Ma_run_332 : decode y_Ma_run.2.1 332 = .ok (.ifCond .ne 5, 3) := dc9_154 (by decide +kernel)
theorem d_Ma_run_335 : decode y_Ma_run.2.1 335 = .ok (.iconst 1, 1) := dc9_4 (by decide +kernel)
theorem d_Ma_run_336 : decode y_Ma_run.2.1 336 = .ok (.ireturn, 1) := dc9_172 (by decide +kernel)
theorem d_Ma_run_337 : decode y_Ma_run.2.1 337 = .ok (.aload_n 0, 1) := dc9_42 (by decide +kernel)
theorem d_Ma_run_338 : decode y_Ma_run.2.1 338 = .ok (.invokevirtual 84, 3) := dc9_182 (by decide +kernel)
theorem d_Ma_run_341 : decode y_Ma_run.2.1 341 = .ok (.istore_n 2, 1) := dc9_61 (by decide +kernel)
theorem d_Ma_run_342 : decode y_Ma_run.2.1 342 = .ok (.goto 16, 3) := dc9_167 (by decide +kernel)
theorem d_Ma_run_358 : decode y_Ma_run.2.1 358 = .ok (.iinc 3 1, 3) := by decide +kernel
theorem d_Ma_run_361 : decode y_Ma_run.2.1 361 = .ok (.goto (-347), 3) := dc9_167 (by decide +kernel)
theorem d_Ma_run_144 : decode y_Ma_run.2.1 144 = .ok (.aload_n 0, 1) := dc9_42 (by decide +kernel)
theorem d_Ma_run_145 : decode y_Ma_run.2.1 145 = .ok (.iload 5, 2) := dc9_21 (by decide +kernel)
theorem d_Ma_run_147 : decode y_Ma_run.2.1 147 = .ok (.iconst 1, 1) := dc9_4 (by decide +kernel)
theorem d_Ma_run_148 : decode y_Ma_run.2.1 148 = .ok (.invokevirtual 74, 3) := dc9_182 (by decide +kernel)
theorem d_Ma_run_151 : decode y_Ma_run.2.1 151 = .ok (.goto 207, 3) := dc9_167 (by decide +kernel)
theorem d_Ma_run_154 : decode y_Ma_run.2.1 154 = .ok (.aload_n 0, 1) := dc9_42 (by decide +kernel)
theorem d_Ma_run_155 : decode y_Ma_run.2.1 155 = .ok (.aload_n 0, 1) := dc9_42 (by decide +kernel)
theorem d_Ma_run_156 : decode y_Ma_run.2.1 156 = .ok (.getfield 59, 3) := dc9_180 (by decide +kernel)
theorem d_Ma_run_159 : decode y_Ma_run.2.1 159 = .ok (.getfield 78, 3) := dc9_180 (by decide +kernel)
theorem d_Ma_run_162 : decode y_Ma_run.2.1 162 = .ok (.iload 5, 2) := dc9_21 (by decide +kernel)
theorem d_Ma_run_164 : decode y_Ma_run.2.1 164 = .ok (.iaload, 1) := dc9_46 (by decide +kernel)
theorem d_Ma_run_165 : decode y_Ma_run.2.1 165 = .ok (.aload_n 0, 1) := dc9_42 (by decide +kernel)
theorem d_Ma_run_166 : decode y_Ma_run.2.1 166 = .ok (.getfield 59, 3) := dc9_180 (by decide +kernel)
theorem d_Ma_run_169 : decode y_Ma_run.2.1 169 = .ok (.getfield 79, 3) := dc9_180 (by decide +kernel)
theorem d_Ma_run_172 : decode y_Ma_run.2.1 172 = .ok (.iload 5, 2) := dc9_21 (by decide +kernel)
theorem d_Ma_run_174 : decode y_Ma_run.2.1 174 = .ok (.iaload, 1) := dc9_46 (by decide +kernel)
theorem d_Ma_run_175 : decode y_Ma_run.2.1 175 = .ok (.invokevirtual 74, 3) := dc9_182 (by decide +kernel)
theorem d_Ma_run_178 : decode y_Ma_run.2.1 178 = .ok (.goto 180, 3) := dc9_167 (by decide +kernel)
theorem d_Ma_run_181 : decode y_Ma_run.2.1 181 = .ok (.aload_n 0, 1) := dc9_42 (by decide +kernel)
theorem d_Ma_run_182 : decode y_Ma_run.2.1 182 = .ok (.aload_n 0, 1) := dc9_42 (by decide +kernel)
theorem d_Ma_run_183 : decode y_Ma_run.2.1 183 = .ok (.getfield 9, 3) := dc9_180 (by decide +kernel)
theorem d_Ma_run_186 : decode y_Ma_run.2.1 186 = .ok (.aload_n 0, 1) := dc9_42 (by decide +kernel)
theorem d_Ma_run_187 : decode y_Ma_run.2.1 187 = .ok (.getfield 43, 3) := dc9_180 (by decide +kernel)
theorem d_Ma_run_190 : decode y_Ma_run.2.1 190 = .ok (.iload 5, 2) := dc9_21 (by decide +kernel)
theorem d_Ma_run_192 : decode y_Ma_run.2.1 192 = .ok (.iadd, 1) := dc9_96 (by decide +kernel)
theorem d_Ma_run_193 : decode y_Ma_run.2.1 193 = .ok (.iaload, 1) := dc9_46 (by decide +kernel)
theorem d_Ma_run_194 : decode y_Ma_run.2.1 194 = .ok (.iconst 1, 1) := dc9_4 (by decide +kernel)
theorem d_Ma_run_195 : decode y_Ma_run.2.1 195 = .ok (.invokevirtual 74, 3) := dc9_182 (by decide +kernel)
theorem d_Ma_run_198 : decode y_Ma_run.2.1 198 = .ok (.goto 160, 3) := dc9_167 (by decide +kernel)
theorem d_Ma_run_201 : decode y_Ma_run.2.1 201 = .ok (.aload_n 0, 1) := dc9_42 (by decide +kernel)
theorem d_Ma_run_202 : decode y_Ma_run.2.1 202 = .ok (.iload 5, 2) := dc9_21 (by decide +kernel)
theorem d_Ma_run_204 : decode y_Ma_run.2.1 204 = .ok (.iload_n 2, 1) := dc9_28 (by decide +kernel)
theorem d_Ma_run_205 : decode y_Ma_run.2.1 205 = .ok (.invokevirtual 80, 3) := dc9_182 (by decide +kernel)
theorem d_Ma_run_208 : decode y_Ma_run.2.1 208 = .ok (.istore_n 2, 1) := dc9_61 (by decide +kernel)
theorem d_Ma_run_209 : decode y_Ma_run.2.1 209 = .ok (.goto 149, 3) := dc9_167 (by decide +kernel)
theorem d_Ma_run_212 : decode y_Ma_run.2.1 212 = .ok (.aload_n 0, 1) := dc9_42 (by decide +kernel)
theorem d_Ma_run_213 : decode y_Ma_run.2.1 213 = .ok (.getfield 18, 3) := dc9_180 (by decide +kernel)
theorem d_Ma_run_216 : decode y_Ma_run.2.1 216 = .ok (.aload_n 0, 1) := dc9_42 (by decide +kernel)
theorem d_Ma_run_217 : decode y_Ma_run.2.1 217 = .ok (.getfield 52, 3) := dc9_180 (by decide +kernel)
theorem d_Ma_run_220 : decode y_Ma_run.2.1 220 = .ok (.iconst 1, 1) := dc9_4 (by decide +kernel)
theorem d_Ma_run_221 : decode y_Ma_run.2.1 221 = .ok (.isub, 1) := dc9_100 (by decide +kernel)
theorem d_Ma_run_222 : decode y_Ma_run.2.1 222 = .ok (.iaload, 1) := dc9_46 (by decide +kernel)
theorem d_Ma_run_223 : decode y_Ma_run.2.1 223 = .ok (.ifCond .ne 7, 3) := dc9_154 (by decide +kernel)
theorem d_Ma_run_226 : decode y_Ma_run.2.1 226 = .ok (.iconst 1, 1) := dc9_4 (by decide +kernel)
theorem d_Ma_run_227 : decode y_Ma_run.2.1 227 = .ok (.goto 4, 3) := dc9_167 (by decide +kernel)
theorem d_Ma_run_230 : decode y_Ma_run.2.1 230 = .ok (.iconst 0, 1) := dc9_3 (by decide +kernel)
theorem d_Ma_run_231 : decode y_Ma_run.2.1 231 = .ok (.iload 4, 2) := dc9_21 (by decide +kernel)
theorem d_Ma_run_233 : decode y_Ma_run.2.1 233 = .ok (.bipush 30, 2) := dc9_16 (by decide +kernel)
theorem d_Ma_run_235 : decode y_Ma_run.2.1 235 = .ok (.if_icmp .ne 7, 3) := dc9_160 (by decide +kernel)
theorem d_Ma_run_238 : decode y_Ma_run.2.1 238 = .ok (.iconst 1, 1) := dc9_4 (by decide +kernel)
theorem d_Ma_run_239 : decode y_Ma_run.2.1 239 = .ok (.goto 4, 3) := dc9_167 (by decide +kernel)
theorem d_Ma_run_242 : decode y_Ma_run.2.1 242 = .ok (.iconst 0, 1) := dc9_3 (by decide +kernel)
theorem d_Ma_run_243 : decode y_Ma_run.2.1 243 = .ok (.if_icmp .ne 7, 3) := dc9_160 (by decide +kernel)
theorem d_Ma_run_246 : decode y_Ma_run.2.1 246 = .ok (.iconst 1, 1) := dc9_4 (by decide +kernel)
theorem d_Ma_run_247 : decode y_Ma_run.2.1 247 = .ok (.goto 4, 3) := dc9_167 (by decide +kernel)
theorem d_Ma_run_250 : decode y_Ma_run.2.1 250 = .ok (.iconst 0, 1) := dc9_3 (by decide +kernel)
theorem d_Ma_run_251 : decode y_Ma_run.2.1 251 = .ok (.istore 6, 2) := dc9_54 (by decide +kernel)
theorem d_Ma_run_253 : decode y_Ma_run.2.1 253 = .ok (.iload 6, 2) := dc9_21 (by decide +kernel)
theorem d_Ma_run_255 : decode y_Ma_run.2.1 255 = .ok (.ifCond .eq 8, 3) := dc9_153 (by decide +kernel)
theorem d_Ma_run_263 : decode y_Ma_run.2.1 263 = .ok (.iload_n 2, 1) := dc9_28 (by decide +kernel)
theorem d_Ma_run_258 : decode y_Ma_run.2.1 258 = .ok (.iload 5, 2) := dc9_21 (by decide +kernel)
theorem d_Ma_run_260 : decode y_Ma_run.2.1 260 = .ok (.goto 4, 3) := dc9_167 (by decide +kernel)
theorem d_Ma_run_264 : decode y_Ma_run.2.1 264 = .ok (.istore_n 2, 1) := dc9_61 (by decide +kernel)
theorem d_Ma_run_265 : decode y_Ma_run.2.1 265 = .ok (.aload_n 0, 1) := dc9_42 (by decide +kernel)
theorem d_Ma_run_266 : decode y_Ma_run.2.1 266 = .ok (.iload 6, 2) := dc9_21 (by decide +kernel)
theorem d_Ma_run_268 : decode y_Ma_run.2.1 268 = .ok (.ifCond .eq 10, 3) := dc9_153 (by decide +kernel)
theorem d_Ma_run_278 : decode y_Ma_run.2.1 278 = .ok (.aload_n 0, 1) := dc9_42 (by decide +kernel)
theorem d_Ma_run_279 : decode y_Ma_run.2.1 279 = .ok (.getfield 52, 3) := dc9_180 (by decide +kernel)
theorem d_Ma_run_282 : decode y_Ma_run.2.1 282 = .ok (.iconst 1, 1) := dc9_4 (by decide +kernel)
theorem d_Ma_run_283 : decode y_Ma_run.2.1 283 = .ok (.isub, 1) := dc9_100 (by decide +kernel)
theorem d_Ma_run_271 : decode y_Ma_run.2.1 271 = .ok (.aload_n 0, 1) := dc9_42 (by decide +kernel)
theorem d_Ma_run_272 : decode y_Ma_run.2.1 272 = .ok (.getfield 52, 3) := dc9_180 (by decide +kernel)
theorem d_Ma_run_275 : decode y_Ma_run.2.1 275 = .ok (.goto 9, 3) := dc9_167 (by decide +kernel)
theorem d_Ma_run_284 : decode y_Ma_run.2.1 284 = .ok (.putfield 52, 3) := dc9_181 (by decide +kernel)
theorem d_Ma_run_287 : decode y_Ma_run.2.1 287 = .ok (.goto 71, 3) := dc9_167 (by decide +kernel)
theorem d_Ma_run_290 : decode y_Ma_run.2.1 290 = .ok (.aload_n 0, 1) := dc9_42 (by decide +kernel)
theorem d_Ma_run_291 : decode y_Ma_run.2.1 291 = .ok (.dup, 1) := dc9_89 (by decide +kernel)
theorem d_Ma_run_292 : decode y_Ma_run.2.1 292 = .ok (.getfield 52, 3) := dc9_180 (by decide +kernel)
theorem d_Ma_run_295 : decode y_Ma_run.2.1 295 = .ok (.iconst 1, 1) := dc9_4 (by decide +kernel)
theorem d_Ma_run_296 : decode y_Ma_run.2.1 296 = .ok (.isub, 1) := dc9_100 (by decide +kernel)
theorem d_Ma_run_297 : decode y_Ma_run.2.1 297 = .ok (.putfield 52, 3) := dc9_181 (by decide +kernel)
theorem d_Ma_run_300 : decode y_Ma_run.2.1 300 = .ok (.aload_n 0, 1) := dc9_42 (by decide +kernel)
theorem d_Ma_run_301 : decode y_Ma_run.2.1 301 = .ok (.getfield 18, 3) := dc9_180 (by decide +kernel)
theorem d_Ma_run_304 : decode y_Ma_run.2.1 304 = .ok (.aload_n 0, 1) := dc9_42 (by decide +kernel)
theorem d_Ma_run_305 : decode y_Ma_run.2.1 305 = .ok (.getfield 52, 3) := dc9_180 (by decide +kernel)
theorem d_Ma_run_308 : decode y_Ma_run.2.1 308 = .ok (.iaload, 1) := dc9_46 (by decide +kernel)
theorem d_Ma_run_309 : decode y_Ma_run.2.1 309 = .ok (.ifCond .ne 8, 3) := dc9_154 (by decide +kernel)
theorem d_Ma_run_312 : decode y_Ma_run.2.1 312 = .ok (.iload 5, 2) := dc9_21 (by decide +kernel)
theorem d_Ma_run_314 : decode y_Ma_run.2.1 314 = .ok (.goto 4, 3) := dc9_167 (by decide +kernel)
theorem d_Ma_run_317 : decode y_Ma_run.2.1 317 = .ok (.iload_n 2, 1) := dc9_28 (by decide +kernel)
theorem d_Ma_run_318 : decode y_Ma_run.2.1 318 = .ok (.istore_n 2, 1) := dc9_61 (by decide +kernel)
theorem d_Ma_run_319 : decode y_Ma_run.2.1 319 = .ok (.goto 39, 3) := dc9_167 (by decide +kernel)
theorem d_Ma_run_322 : decode y_Ma_run.2.1 322 = .ok (.iload 5, 2) := dc9_21 (by decide +kernel)
theorem d_Ma_run_324 : decode y_Ma_run.2.1 324 = .ok (.istore_n 2, 1) := dc9_61 (by decide +kernel)
theorem d_Ma_run_325 : decode y_Ma_run.2.1 325 = .ok (.goto 33, 3) := dc9_167 (by decide +kernel)
theorem d_Ma_run_345 : decode y_Ma_run.2.1 345 = .ok (.aload_n 0, 1) := dc9_42 (by decide +kernel)
theorem d_Ma_run_346 : decode y_Ma_run.2.1 346 = .ok (.iload 4, 2) := dc9_21 (by decide +kernel)
theorem d_Ma_run_348 : decode y_Ma_run.2.1 348 = .ok (.iload 5, 2) := dc9_21 (by decide +kernel)
theorem d_Ma_run_350 : decode y_Ma_run.2.1 350 = .ok (.invokevirtual 88, 3) := dc9_182 (by decide +kernel)
theorem d_Ma_run_353 : decode y_Ma_run.2.1 353 = .ok (.ifCond .ne 5, 3) := dc9_154 (by decide +kernel)
theorem d_Ma_run_356 : decode y_Ma_run.2.1 356 = .ok (.iconst 0, 1) := dc9_3 (by decide +kernel)
theorem d_Ma_run_357 : decode y_Ma_run.2.1 357 = .ok (.ireturn, 1) := dc9_172 (by decide +kernel)
def h_Ma_run_14 (G : mG) (d : Nat) (a0 : Nat) (l2 : Int) (l3 : Int) (M : mM) (Q : Int → mM → Prop) : Prop := mWm G y_Ma_run (d + 1) 14 [vr a0, vd, vi l2, vi l3, vd, vd, vd] [] M (fun r9 M9 => ∃ x9, r9 = some (vi x9) ∧ Q x9 M9)
theorem k_Ma_run {G : mG} {d : Nat} {a0 : Nat} {l1 : Int} {M : mM} {Q : Int → mM → Prop} (hO : mOk M) (hi_l1 : i32 l1)
    (h : mK M a0 = 5 ∧ ∀ M2, M2 = mUI M a0 8 0 → ∀ M4, M4 = mUI M2 a0 15 0 → h_Ma_run_14 G d a0 l1 0 M4 Q) :
    Ci G y_Ma_run (d + 1) [vr a0, vi l1] M Q := by
  refine wm_open (y := y_Ma_run) rfl (Nat.le_of_ble_eq_true rfl) (L := [vr a0, vi l1, vd, vd, vd, vd, vd]) rfl ?_
  obtain ⟨h1, h⟩ := h
  obtain ⟨M2, e3⟩ : ∃ M2, M2 = mUI M a0 8 0 := ⟨_, rfl⟩
  replace h := h M2 e3
  obtain ⟨M4, e5⟩ : ∃ M4, M4 = mUI M2 a0 15 0 := ⟨_, rfl⟩
  replace h := h M4 e5
  refine wm_iload_n d_Ma_run_0 rfl rfl ?_
  refine wm_istore_n d_Ma_run_1 rfl (by decide) (L' := [vr a0, vi l1, vi l1, vd, vd, vd, vd]) rfl ?_
  refine wm_aload_n d_Ma_run_2 rfl rfl ?_
  refine wm_iconst d_Ma_run_3 ?_
  have hOM2 : mOk M2 := by rw [e3]; exact mOk_UI hO ⟨by decide, by decide⟩
  refine pf_Ma_52 rfl d_Ma_run_4 h1 ⟨by decide, by decide⟩ e3 ?_
  refine wm_aload_n d_Ma_run_7 rfl rfl ?_
  refine wm_iconst d_Ma_run_8 ?_
  have hOM4 : mOk M4 := by rw [e5]; exact mOk_UI hOM2 ⟨by decide, by decide⟩
  refine pf_Ma_55 rfl d_Ma_run_9 (by rw [e3]; exact h1) ⟨by decide, by decide⟩ e5 ?_
  refine wm_iconst d_Ma_run_12 ?_
  refine wm_istore_n d_Ma_run_13 rfl (by decide) (L' := [vr a0, vi l1, vi l1, vi 0, vd, vd, vd]) rfl ?_
  refine wm_less (L' := [vr a0, vd, vi l1, vi 0, vd, vd, vd]) ⟨Or.inr rfl, Or.inl rfl, Or.inr rfl, Or.inr rfl, Or.inl rfl, Or.inl rfl, Or.inl rfl, trivial⟩ ?_
  exact h
theorem k_Ma_run_14 {G : mG} {d : Nat} {a0 : Nat} {l2 : Int} {l3 : Int} {M : mM} {Q : Int → mM → Prop} (hO : mOk M) (hi_l2 : i32 l2) (hi_l3 : i32 l3)
    (h : (¬ (1000000 ≤ l3) → (¬ (l2 < 0) → (mK M a0 = 5 ∧ mK M (mR M a0 0) = 6))) ∧ (((1000000 ≤ l3) ∨ ((l2 < 0) ∨ (mI M (mR M a0 0) 2 ≤ l2))) → (mK M a0 = 5 ∧ Ci G y_Ma_stop d [vr a0, vi 6, vi 0] M (fun x19 M18 => i32 x19 ∧ mOk M18 ∧ ((x19 = 0 ∨ x19 = 1) ∧ Q x19 M18)))) ∧ (¬ ((1000000 ≤ l3) ∨ ((l2 < 0) ∨ (mI M (mR M a0 0) 2 ≤ l2))) → (mK M a0 = 5 ∧ mK M (mR M a0 0) = 6 ∧ mK M (mR M (mR M a0 0) 0) = 30 ∧ ((0 : Int) ≤ l2 ∧ l2 < (mN M (mR M (mR M a0 0) 0) : Int)) ∧ mK M (mR M (mR M a0 0) 1) = 30 ∧ ((0 : Int) ≤ l2 ∧ l2 < (mN M (mR M (mR M a0 0) 1) : Int)) ∧ ((mI M (mR M (mR M a0 0) 0) (Int.toNat l2) = 0) → (((mI M a0 15 = 0) → (Q 1 M)) ∧ (¬ (mI M a0 15 = 0) → (Ci G y_Ma_comeBack d [vr a0] M (fun x33 M32 => i32 x33 ∧ mOk M32 ∧ (h_Ma_run_14 G d a0 x33 (l3 + 1) M32 Q)))))) ∧ (¬ (mI M (mR M (mR M a0 0) 0) (Int.toNat l2) = 0) → (((mI M (mR M (mR M a0 0) 0) (Int.toNat l2) = 3) → (Cv G y_Ma_push d [vr a0, vi (mI M (mR M (mR M a0 0) 1) (Int.toNat l2)), vi 1] M (fun M36 => mOk M36 ∧ (h_Ma_run_14 G d a0 (l2 + 1) (l3 + 1) M36 Q)))) ∧ (¬ (mI M (mR M (mR M a0 0) 0) (Int.toNat l2) = 3) → (((mI M (mR M (mR M a0 0) 0) (Int.toNat l2) = 4) → (mK M (mR M (mR M a0 0) 8) = 30 ∧ ((0 : Int) ≤ mI M (mR M (mR M a0 0) 1) (Int.toNat l2) ∧ mI M (mR M (mR M a0 0) 1) (Int.toNat l2) < (mN M (mR M (mR M a0 0) 8) : Int)) ∧ mK M (mR M (mR M a0 0) 9) = 30 ∧ ((0 : Int) ≤ mI M (mR M (mR M a0 0) 1) (Int.toNat l2) ∧ mI M (mR M (mR M a0 0) 1) (Int.toNat l2) < (mN M (mR M (mR M a0 0) 9) : Int)) ∧ Cv G y_Ma_push d [vr a0, vi (mI M (mR M (mR M a0 0) 8) (Int.toNat (mI M (mR M (mR M a0 0) 1) (Int.toNat l2)))), vi (mI M (mR M (mR M a0 0) 9) (Int.toNat (mI M (mR M (mR M a0 0) 1) (Int.toNat l2))))] M (fun M44 => mOk M44 ∧ (h_Ma_run_14 G d a0 (l2 + 1) (l3 + 1) M44 Q)))) ∧ (¬ (mI M (mR M (mR M a0 0) 0) (Int.toNat l2) = 4) → (((mI M (mR M (mR M a0 0) 0) (Int.toNat l2) = 5) → (mK M (mR M a0 3) = 30 ∧ ((0 : Int) ≤ (mI M a0 4) + (mI M (mR M (mR M a0 0) 1) (Int.toNat l2)) ∧ (mI M a0 4) + (mI M (mR M (mR M a0 0) 1) (Int.toNat l2)) < (mN M (mR M a0 3) : Int)) ∧ Cv G y_Ma_push d [vr a0, vi (mI M (mR M a0 3) (Int.toNat ((mI M a0 4) + (mI M (mR M (mR M a0 0) 1) (Int.toNat l2))))), vi 1] M (fun M50 => mOk M50 ∧ (h_Ma_run_14 G d a0 (l2 + 1) (l3 + 1) M50 Q)))) ∧ (¬ (mI M (mR M (mR M a0 0) 0) (Int.toNat l2) = 5) → (((mI M (mR M (mR M a0 0) 0) (Int.toNat l2) = 7) → (Ci G y_Ma_meet d [vr a0, vi (mI M (mR M (mR M a0 0) 1) (Int.toNat l2)), vi (l2 + 1)] M (fun x55 M54 => i32 x55 ∧ mOk M54 ∧ (h_Ma_run_14 G d a0 x55 (l3 + 1) M54 Q)))) ∧ (¬ (mI M (mR M (mR M a0 0) 0) (Int.toNat l2) = 7) → (((mI M (mR M (mR M a0 0) 0) (Int.toNat l2) = 30 ∨ mI M (mR M (mR M a0 0) 0) (Int.toNat l2) = 31) → (mK M (mR M a0 6) = 30 ∧ ((0 : Int) ≤ (mI M a0 8) - 1 ∧ (mI M a0 8) - 1 < (mN M (mR M a0 6) : Int)) ∧ ∀ v61 : Int, v61 = (if (mI M (mR M a0 6) (Int.toNat ((mI M a0 8) - 1)) = 0) then 1 else 0) → ∀ v67 : Int, v67 = (if (mI M (mR M (mR M a0 0) 0) (Int.toNat l2) = 30) then 1 else 0) → ∀ v73 : Int, v73 = (if (v61 = v67) then 1 else 0) → ∀ v79 : Int, v79 = (if (v73 = 0) then l2 + 1 else mI M (mR M (mR M a0 0) 1) (Int.toNat l2)) → ∀ v83 : Int, v83 = (if (v73 = 0) then (mI M a0 8) - 1 else mI M a0 8) → i32 v83 ∧ ∀ M87, M87 = mUI M a0 8 v83 → h_Ma_run_14 G d a0 v79 (l3 + 1) M87 Q)) ∧ (¬ (mI M (mR M (mR M a0 0) 0) (Int.toNat l2) = 30 ∨ mI M (mR M (mR M a0 0) 0) (Int.toNat l2) = 31) → (((mI M (mR M (mR M a0 0) 0) (Int.toNat l2) = 33) → (i32 ((mI M a0 8) - 1) ∧ ∀ M96, M96 = mUI M a0 8 ((mI M a0 8) - 1) → mK M96 (mR M96 a0 6) = 30 ∧ ((0 : Int) ≤ mI M96 a0 8 ∧ mI M96 a0 8 < (mN M96 (mR M96 a0 6) : Int)) ∧ ∀ v101 : Int, v101 = (if (mI M96 (mR M96 a0 6) (Int.toNat (mI M96 a0 8)) = 0) then mI M (mR M (mR M a0 0) 1) (Int.toNat l2) else l2 + 1) → h_Ma_run_14 G d a0 v101 (l3 + 1) M96 Q)) ∧ (¬ (mI M (mR M (mR M a0 0) 0) (Int.toNat l2) = 33) → (((mI M (mR M (mR M a0 0) 0) (Int.toNat l2) = 42) → (h_Ma_run_14 G d a0 (mI M (mR M (mR M a0 0) 1) (Int.toNat l2)) (l3 + 1) M Q)) ∧ (¬ (mI M (mR M (mR M a0 0) 0) (Int.toNat l2) = 42) → (Ci G y_Ma_compute d [vr a0, vi (mI M (mR M (mR M a0 0) 0) (Int.toNat l2)), vi (mI M (mR M (mR M a0 0) 1) (Int.toNat l2))] M (fun x107 M106 => i32 x107 ∧ mOk M106 ∧ (((x107 = 0) → (Q 0 M106)) ∧ (¬ (x107 = 0) → (h_Ma_run_14 G d a0 (l2 + 1) (l3 + 1) M106 Q))))))))))))))))))))))) :
    h_Ma_run_14 G d a0 l2 l3 M Q := by
  unfold h_Ma_run_14
  refine wm_iload_n d_Ma_run_14 rfl rfl ?_
  refine wm_ldc (x := 1000000) d_Ma_run_15 k5_52 (by decide) ?_
  obtain ⟨s15, h⟩ := h
  have hE0 : ((1000000 ≤ l3) ∨ ((l2 < 0) ∨ (mI M (mR M a0 0) 2 ≤ l2))) → mWm G y_Ma_run (d + 1) 364 [vr a0, vd, vi l2, vi l3, vd, vd, vd] [] M (fun r9 M9 => ∃ x9, r9 = some (vi x9) ∧ Q x9 M9) := by
    intro q16
    have h := h.1 q16
    obtain ⟨h17, h⟩ := h
    refine wm_aload_n d_Ma_run_364 rfl rfl ?_
    refine wm_bipush d_Ma_run_365 (by decide) ?_
    refine wm_iconst d_Ma_run_367 ?_
    refine cf_Ma_92 rfl d_Ma_run_368 h17 (Nat.le_of_ble_eq_true rfl) (Ci.mono h (fun x19 M18 h => ?_))
    obtain ⟨h20, hOM18, h⟩ := h
    obtain ⟨h21, h⟩ := h
    refine wm_ireturn d_Ma_run_371 rfl (m_nb h21) ?_
    exact ⟨_, rfl, h⟩
  have hE1 : ¬ ((1000000 ≤ l3) ∨ ((l2 < 0) ∨ (mI M (mR M a0 0) 2 ≤ l2))) → mWm G y_Ma_run (d + 1) 35 [vr a0, vd, vi l2, vi l3, vd, vd, vd] [] M (fun r9 M9 => ∃ x9, r9 = some (vi x9) ∧ Q x9 M9) := by
    intro q22
    have h := h.2 q22
    obtain ⟨h23, h⟩ := h
    obtain ⟨h24, h⟩ := h
    obtain ⟨h25, h⟩ := h
    obtain ⟨h26, h⟩ := h
    obtain ⟨h27, h⟩ := h
    obtain ⟨h28, h⟩ := h
    refine wm_aload_n d_Ma_run_35 rfl rfl ?_
    refine gf_Ma_59 rfl d_Ma_run_36 h23 ?_
    refine gf_Ma_68 rfl d_Ma_run_39 h24 ?_
    refine wm_iload_n d_Ma_run_42 rfl rfl ?_
    refine wm_iald d_Ma_run_43 h25 h26 ?_
    refine wm_istore d_Ma_run_44 (by decide) (L' := [vr a0, vd, vi l2, vi l3, vi (mI M (mR M (mR M a0 0) 0) (Int.toNat l2)), vd, vd]) rfl ?_
    refine wm_aload_n d_Ma_run_46 rfl rfl ?_
    refine gf_Ma_59 rfl d_Ma_run_47 h23 ?_
    refine gf_Ma_71 rfl d_Ma_run_50 h24 ?_
    refine wm_iload_n d_Ma_run_53 rfl rfl ?_
    refine wm_iald d_Ma_run_54 h27 h28 ?_
    refine wm_istore d_Ma_run_55 (by decide) (L' := [vr a0, vd, vi l2, vi l3, vi (mI M (mR M (mR M a0 0) 0) (Int.toNat l2)), vi (mI M (mR M (mR M a0 0) 1) (Int.toNat l2)), vd]) rfl ?_
    refine wm_iinc d_Ma_run_57 (by decide) rfl (L' := [vr a0, vd, vi (l2 + 1), vi l3, vi (mI M (mR M (mR M a0 0) 0) (Int.toNat l2)), vi (mI M (mR M (mR M a0 0) 1) (Int.toNat l2)), vd]) rfl ?_
    refine wm_iload d_Ma_run_60 rfl ?_
    by_cases c29 : mI M (mR M (mR M a0 0) 0) (Int.toNat l2) = 0
    · replace h := h.1 c29
      refine wm_lookup (tgt := 328) (off := 266) d_Ma_run_62 z_Ma_run_62_s (hO _ _).1 (by rw [c29]; rfl) rfl ?_
      refine wm_aload_n d_Ma_run_328 rfl rfl ?_
      refine gf_Ma_55 rfl d_Ma_run_329 h23 ?_
      refine wm_if_ne (tgt := 337) d_Ma_run_332 rfl (hO _ _).1 (fun c31 => ?_) (fun c31 => ?_)
      · replace h := h.2 c31
        refine wm_aload_n d_Ma_run_337 rfl rfl ?_
        refine cf_Ma_84 rfl d_Ma_run_338 h23 (Nat.le_of_ble_eq_true rfl) (Ci.mono h (fun x33 M32 h => ?_))
        obtain ⟨h34, hOM32, h⟩ := h
        refine wm_istore_n d_Ma_run_341 rfl (by decide) (L' := [vr a0, vd, vi x33, vi l3, vi (mI M (mR M (mR M a0 0) 0) (Int.toNat l2)), vi (mI M (mR M (mR M a0 0) 1) (Int.toNat l2)), vd]) rfl ?_
        refine wm_goto (tgt := 358) d_Ma_run_342 rfl ?_
        refine wm_iinc d_Ma_run_358 (by decide) rfl (L' := [vr a0, vd, vi x33, vi (l3 + 1), vi (mI M (mR M (mR M a0 0) 0) (Int.toNat l2)), vi (mI M (mR M (mR M a0 0) 1) (Int.toNat l2)), vd]) rfl ?_
        refine wm_goto (tgt := 14) d_Ma_run_361 rfl ?_
        refine wm_less (L' := [vr a0, vd, vi x33, vi (l3 + 1), vd, vd, vd]) ⟨Or.inr rfl, Or.inl rfl, Or.inr rfl, Or.inr rfl, Or.inl rfl, Or.inl rfl, Or.inl rfl, trivial⟩ ?_
        exact h
      · replace c31 := Classical.not_not.mp c31
        replace h := h.1 c31
        refine wm_iconst d_Ma_run_335 ?_
        refine wm_ireturn d_Ma_run_336 rfl (m_nb (by decide)) ?_
        exact ⟨_, rfl, h⟩
    · replace h := h.2 c29
      by_cases c35 : mI M (mR M (mR M a0 0) 0) (Int.toNat l2) = 3
      · replace h := h.1 c35
        refine wm_lookup (tgt := 144) (off := 82) d_Ma_run_62 z_Ma_run_62_s (hO _ _).1 (by rw [c35]; rfl) rfl ?_
        refine wm_aload_n d_Ma_run_144 rfl rfl ?_
        refine wm_iload d_Ma_run_145 rfl ?_
        refine wm_iconst d_Ma_run_147 ?_
        refine cf_Ma_74 rfl d_Ma_run_148 h23 (Nat.le_of_ble_eq_true rfl) (Cv.mono h (fun M36 h => ?_))
        obtain ⟨hOM36, h⟩ := h
        refine wm_goto (tgt := 358) d_Ma_run_151 rfl ?_
        refine wm_iinc d_Ma_run_358 (by decide) rfl (L' := [vr a0, vd, vi (l2 + 1), vi (l3 + 1), vi (mI M (mR M (mR M a0 0) 0) (Int.toNat l2)), vi (mI M (mR M (mR M a0 0) 1) (Int.toNat l2)), vd]) rfl ?_
        refine wm_goto (tgt := 14) d_Ma_run_361 rfl ?_
        refine wm_less (L' := [vr a0, vd, vi (l2 + 1), vi (l3 + 1), vd, vd, vd]) ⟨Or.inr rfl, Or.inl rfl, Or.inr rfl, Or.inr rfl, Or.inl rfl, Or.inl rfl, Or.inl rfl, trivial⟩ ?_
        exact h
      · replace h := h.2 c35
        by_cases c39 : mI M (mR M (mR M a0 0) 0) (Int.toNat l2) = 4
        · replace h := h.1 c39
          refine wm_lookup (tgt := 154) (off := 92) d_Ma_run_62 z_Ma_run_62_s (hO _ _).1 (by rw [c39]; rfl) rfl ?_
          obtain ⟨h40, h⟩ := h
          obtain ⟨h41, h⟩ := h
          obtain ⟨h42, h⟩ := h
          obtain ⟨h43, h⟩ := h
          refine wm_aload_n d_Ma_run_154 rfl rfl ?_
          refine wm_aload_n d_Ma_run_155 rfl rfl ?_
          refine gf_Ma_59 rfl d_Ma_run_156 h23 ?_
          refine gf_Ma_78 rfl d_Ma_run_159 h24 ?_
          refine wm_iload d_Ma_run_162 rfl ?_
          refine wm_iald d_Ma_run_164 h40 h41 ?_
          refine wm_aload_n d_Ma_run_165 rfl rfl ?_
          refine gf_Ma_59 rfl d_Ma_run_166 h23 ?_
          refine gf_Ma_79 rfl d_Ma_run_169 h24 ?_
          refine wm_iload d_Ma_run_172 rfl ?_
          refine wm_iald d_Ma_run_174 h42 h43 ?_
          refine cf_Ma_74 rfl d_Ma_run_175 h23 (Nat.le_of_ble_eq_true rfl) (Cv.mono h (fun M44 h => ?_))
          obtain ⟨hOM44, h⟩ := h
          refine wm_goto (tgt := 358) d_Ma_run_178 rfl ?_
          refine wm_iinc d_Ma_run_358 (by decide) rfl (L' := [vr a0, vd, vi (l2 + 1), vi (l3 + 1), vi (mI M (mR M (mR M a0 0) 0) (Int.toNat l2)), vi (mI M (mR M (mR M a0 0) 1) (Int.toNat l2)), vd]) rfl ?_
          refine wm_goto (tgt := 14) d_Ma_run_361 rfl ?_
          refine wm_less (L' := [vr a0, vd, vi (l2 + 1), vi (l3 + 1), vd, vd, vd]) ⟨Or.inr rfl, Or.inl rfl, Or.inr rfl, Or.inr rfl, Or.inl rfl, Or.inl rfl, Or.inl rfl, trivial⟩ ?_
          exact h
        · replace h := h.2 c39
          by_cases c47 : mI M (mR M (mR M a0 0) 0) (Int.toNat l2) = 5
          · replace h := h.1 c47
            refine wm_lookup (tgt := 181) (off := 119) d_Ma_run_62 z_Ma_run_62_s (hO _ _).1 (by rw [c47]; rfl) rfl ?_
            obtain ⟨h48, h⟩ := h
            obtain ⟨h49, h⟩ := h
            refine wm_aload_n d_Ma_run_181 rfl rfl ?_
            refine wm_aload_n d_Ma_run_182 rfl rfl ?_
            refine gf_Ma_9 rfl d_Ma_run_183 h23 ?_
            refine wm_aload_n d_Ma_run_186 rfl rfl ?_
            refine gf_Ma_43 rfl d_Ma_run_187 h23 ?_
            refine wm_iload d_Ma_run_190 rfl ?_
            refine wm_iadd d_Ma_run_192 ?_
            refine wm_iald d_Ma_run_193 h48 h49 ?_
            refine wm_iconst d_Ma_run_194 ?_
            refine cf_Ma_74 rfl d_Ma_run_195 h23 (Nat.le_of_ble_eq_true rfl) (Cv.mono h (fun M50 h => ?_))
            obtain ⟨hOM50, h⟩ := h
            refine wm_goto (tgt := 358) d_Ma_run_198 rfl ?_
            refine wm_iinc d_Ma_run_358 (by decide) rfl (L' := [vr a0, vd, vi (l2 + 1), vi (l3 + 1), vi (mI M (mR M (mR M a0 0) 0) (Int.toNat l2)), vi (mI M (mR M (mR M a0 0) 1) (Int.toNat l2)), vd]) rfl ?_
            refine wm_goto (tgt := 14) d_Ma_run_361 rfl ?_
            refine wm_less (L' := [vr a0, vd, vi (l2 + 1), vi (l3 + 1), vd, vd, vd]) ⟨Or.inr rfl, Or.inl rfl, Or.inr rfl, Or.inr rfl, Or.inl rfl, Or.inl rfl, Or.inl rfl, trivial⟩ ?_
            exact h
          · replace h := h.2 c47
            by_cases c53 : mI M (mR M (mR M a0 0) 0) (Int.toNat l2) = 7
            · replace h := h.1 c53
              refine wm_lookup (tgt := 201) (off := 139) d_Ma_run_62 z_Ma_run_62_s (hO _ _).1 (by rw [c53]; rfl) rfl ?_
              refine wm_aload_n d_Ma_run_201 rfl rfl ?_
              refine wm_iload d_Ma_run_202 rfl ?_
              refine wm_iload_n d_Ma_run_204 rfl rfl ?_
              refine cf_Ma_80 rfl d_Ma_run_205 h23 (Nat.le_of_ble_eq_true rfl) (Ci.mono h (fun x55 M54 h => ?_))
              obtain ⟨h56, hOM54, h⟩ := h
              refine wm_istore_n d_Ma_run_208 rfl (by decide) (L' := [vr a0, vd, vi x55, vi l3, vi (mI M (mR M (mR M a0 0) 0) (Int.toNat l2)), vi (mI M (mR M (mR M a0 0) 1) (Int.toNat l2)), vd]) rfl ?_
              refine wm_goto (tgt := 358) d_Ma_run_209 rfl ?_
              refine wm_iinc d_Ma_run_358 (by decide) rfl (L' := [vr a0, vd, vi x55, vi (l3 + 1), vi (mI M (mR M (mR M a0 0) 0) (Int.toNat l2)), vi (mI M (mR M (mR M a0 0) 1) (Int.toNat l2)), vd]) rfl ?_
              refine wm_goto (tgt := 14) d_Ma_run_361 rfl ?_
              refine wm_less (L' := [vr a0, vd, vi x55, vi (l3 + 1), vd, vd, vd]) ⟨Or.inr rfl, Or.inl rfl, Or.inr rfl, Or.inr rfl, Or.inl rfl, Or.inl rfl, Or.inl rfl, trivial⟩ ?_
              exact h
            · replace h := h.2 c53
              by_cases c57 : mI M (mR M (mR M a0 0) 0) (Int.toNat l2) = 30 ∨ mI M (mR M (mR M a0 0) 0) (Int.toNat l2) = 31
              · replace h := h.1 c57
                refine wm_lookup (tgt := 212) (off := 150) d_Ma_run_62 z_Ma_run_62_s (hO _ _).1 (by rcases c57 with q9 | q9 <;> (rw [q9]; rfl)) rfl ?_
                obtain ⟨h58, h⟩ := h
                obtain ⟨h59, h⟩ := h
                refine wm_aload_n d_Ma_run_212 rfl rfl ?_
                refine gf_Ma_18 rfl d_Ma_run_213 h23 ?_
                refine wm_aload_n d_Ma_run_216 rfl rfl ?_
                refine gf_Ma_52 rfl d_Ma_run_217 h23 ?_
                refine wm_iconst d_Ma_run_220 ?_
                refine wm_isub d_Ma_run_221 ?_
                refine wm_iald d_Ma_run_222 h58 h59 ?_
                have hJ : ∀ v61 : Int, v61 = (if (mI M (mR M a0 6) (Int.toNat ((mI M a0 8) - 1)) = 0) then 1 else 0) → mWm G y_Ma_run (d + 1) 231 [vr a0, vd, vi (l2 + 1), vi l3, vi (mI M (mR M (mR M a0 0) 0) (Int.toNat l2)), vi (mI M (mR M (mR M a0 0) 1) (Int.toNat l2)), vd] [vi v61] M (fun r9 M9 => ∃ x9, r9 = some (vi x9) ∧ Q x9 M9) := by
                  intro v61 e63
                  have h := h v61 e63
                  have h64 : i32 v61 := by rw [e63]; (repeat' split) <;> first | exact ⟨by decide, by decide⟩ | exact ⟨by decide, by decide⟩
                  have h65 : (v61 = 0 ∨ v61 = 1) := by rw [e63]; (repeat' split) <;> decide
                  refine wm_iload d_Ma_run_231 rfl ?_
                  refine wm_bipush d_Ma_run_233 (by decide) ?_
                  have hJ : ∀ v67 : Int, v67 = (if (mI M (mR M (mR M a0 0) 0) (Int.toNat l2) = 30) then 1 else 0) → mWm G y_Ma_run (d + 1) 243 [vr a0, vd, vi (l2 + 1), vi l3, vd, vi (mI M (mR M (mR M a0 0) 1) (Int.toNat l2)), vd] [vi v67, vi v61] M (fun r9 M9 => ∃ x9, r9 = some (vi x9) ∧ Q x9 M9) := by
                    intro v67 e69
                    have h := h v67 e69
                    have h70 : i32 v67 := by rw [e69]; (repeat' split) <;> first | exact ⟨by decide, by decide⟩ | exact ⟨by decide, by decide⟩
                    have h71 : (v67 = 0 ∨ v67 = 1) := by rw [e69]; (repeat' split) <;> decide
                    have hJ : ∀ v73 : Int, v73 = (if (v61 = v67) then 1 else 0) → mWm G y_Ma_run (d + 1) 251 [vr a0, vd, vi (l2 + 1), vi l3, vd, vi (mI M (mR M (mR M a0 0) 1) (Int.toNat l2)), vd] [vi v73] M (fun r9 M9 => ∃ x9, r9 = some (vi x9) ∧ Q x9 M9) := by
                      intro v73 e75
                      have h := h v73 e75
                      have h76 : i32 v73 := by rw [e75]; (repeat' split) <;> first | exact ⟨by decide, by decide⟩ | exact ⟨by decide, by decide⟩
                      have h77 : (v73 = 0 ∨ v73 = 1) := by rw [e75]; (repeat' split) <;> decide
                      refine wm_istore d_Ma_run_251 (by decide) (L' := [vr a0, vd, vi (l2 + 1), vi l3, vd, vi (mI M (mR M (mR M a0 0) 1) (Int.toNat l2)), vi v73]) rfl ?_
                      refine wm_iload d_Ma_run_253 rfl ?_
                      have hJ : ∀ v79 : Int, v79 = (if (v73 = 0) then l2 + 1 else mI M (mR M (mR M a0 0) 1) (Int.toNat l2)) → mWm G y_Ma_run (d + 1) 264 [vr a0, vd, vd, vi l3, vd, vd, vi v73] [vi v79] M (fun r9 M9 => ∃ x9, r9 = some (vi x9) ∧ Q x9 M9) := by
                        intro v79 e81
                        have h := h v79 e81
                        refine wm_istore_n d_Ma_run_264 rfl (by decide) (L' := [vr a0, vd, vi v79, vi l3, vd, vd, vi v73]) rfl ?_
                        refine wm_aload_n d_Ma_run_265 rfl rfl ?_
                        refine wm_iload d_Ma_run_266 rfl ?_
                        have hJ : ∀ v83 : Int, v83 = (if (v73 = 0) then (mI M a0 8) - 1 else mI M a0 8) → mWm G y_Ma_run (d + 1) 284 [vr a0, vd, vi v79, vi l3, vd, vd, vd] [vi v83, vr a0] M (fun r9 M9 => ∃ x9, r9 = some (vi x9) ∧ Q x9 M9) := by
                          intro v83 e85
                          have h := h v83 e85
                          obtain ⟨h86, h⟩ := h
                          obtain ⟨M87, e88⟩ : ∃ M87, M87 = mUI M a0 8 v83 := ⟨_, rfl⟩
                          replace h := h M87 e88
                          have hOM87 : mOk M87 := by rw [e88]; exact mOk_UI hO h86
                          refine pf_Ma_52 rfl d_Ma_run_284 h23 h86 e88 ?_
                          refine wm_goto (tgt := 358) d_Ma_run_287 rfl ?_
                          refine wm_iinc d_Ma_run_358 (by decide) rfl (L' := [vr a0, vd, vi v79, vi (l3 + 1), vd, vd, vd]) rfl ?_
                          refine wm_goto (tgt := 14) d_Ma_run_361 rfl ?_
                          exact h
                        clear h
                        refine wm_if_eq (tgt := 278) d_Ma_run_268 rfl h76 (fun c82 => ?_) (fun c82 => ?_)
                        · refine wm_aload_n d_Ma_run_278 rfl rfl ?_
                          refine gf_Ma_52 rfl d_Ma_run_279 h23 ?_
                          refine wm_iconst d_Ma_run_282 ?_
                          refine wm_isub d_Ma_run_283 ?_
                          refine wm_less (L' := [vr a0, vd, vi v79, vi l3, vd, vd, vd]) ⟨Or.inr rfl, Or.inl rfl, Or.inr rfl, Or.inr rfl, Or.inl rfl, Or.inl rfl, Or.inl rfl, trivial⟩ ?_
                          exact hJ ((mI M a0 8) - 1) (if_pos c82).symm
                        · refine wm_aload_n d_Ma_run_271 rfl rfl ?_
                          refine gf_Ma_52 rfl d_Ma_run_272 h23 ?_
                          refine wm_goto (tgt := 284) d_Ma_run_275 rfl ?_
                          refine wm_less (L' := [vr a0, vd, vi v79, vi l3, vd, vd, vd]) ⟨Or.inr rfl, Or.inl rfl, Or.inr rfl, Or.inr rfl, Or.inl rfl, Or.inl rfl, Or.inl rfl, trivial⟩ ?_
                          exact hJ (mI M a0 8) (if_neg c82).symm
                      clear h
                      refine wm_if_eq (tgt := 263) d_Ma_run_255 rfl h76 (fun c78 => ?_) (fun c78 => ?_)
                      · refine wm_iload_n d_Ma_run_263 rfl rfl ?_
                        refine wm_less (L' := [vr a0, vd, vd, vi l3, vd, vd, vi v73]) ⟨Or.inr rfl, Or.inl rfl, Or.inl rfl, Or.inr rfl, Or.inl rfl, Or.inl rfl, Or.inr rfl, trivial⟩ ?_
                        exact hJ (l2 + 1) (if_pos c78).symm
                      · refine wm_iload d_Ma_run_258 rfl ?_
                        refine wm_goto (tgt := 264) d_Ma_run_260 rfl ?_
                        refine wm_less (L' := [vr a0, vd, vd, vi l3, vd, vd, vi v73]) ⟨Or.inr rfl, Or.inl rfl, Or.inl rfl, Or.inr rfl, Or.inl rfl, Or.inl rfl, Or.inr rfl, trivial⟩ ?_
                        exact hJ (mI M (mR M (mR M a0 0) 1) (Int.toNat l2)) (if_neg c78).symm
                    clear h
                    refine wm_icmp_ne (tgt := 250) d_Ma_run_243 rfl h64 h70 (fun c72 => ?_) (fun c72 => ?_)
                    · refine wm_iconst d_Ma_run_250 ?_
                      exact hJ 0 (if_neg c72).symm
                    · replace c72 := Classical.not_not.mp c72
                      refine wm_iconst d_Ma_run_246 ?_
                      refine wm_goto (tgt := 251) d_Ma_run_247 rfl ?_
                      exact hJ 1 (if_pos c72).symm
                  clear h
                  refine wm_icmp_ne (tgt := 242) d_Ma_run_235 rfl (hO _ _).1 ⟨by decide, by decide⟩ (fun c66 => ?_) (fun c66 => ?_)
                  · refine wm_iconst d_Ma_run_242 ?_
                    refine wm_less (L' := [vr a0, vd, vi (l2 + 1), vi l3, vd, vi (mI M (mR M (mR M a0 0) 1) (Int.toNat l2)), vd]) ⟨Or.inr rfl, Or.inl rfl, Or.inr rfl, Or.inr rfl, Or.inl rfl, Or.inr rfl, Or.inl rfl, trivial⟩ ?_
                    exact hJ 0 (if_neg c66).symm
                  · replace c66 := Classical.not_not.mp c66
                    refine wm_iconst d_Ma_run_238 ?_
                    refine wm_goto (tgt := 243) d_Ma_run_239 rfl ?_
                    refine wm_less (L' := [vr a0, vd, vi (l2 + 1), vi l3, vd, vi (mI M (mR M (mR M a0 0) 1) (Int.toNat l2)), vd]) ⟨Or.inr rfl, Or.inl rfl, Or.inr rfl, Or.inr rfl, Or.inl rfl, Or.inr rfl, Or.inl rfl, trivial⟩ ?_
                    exact hJ 1 (if_pos c66).symm
                clear h
                refine wm_if_ne (tgt := 230) d_Ma_run_223 rfl (hO _ _).1 (fun c60 => ?_) (fun c60 => ?_)
                · refine wm_iconst d_Ma_run_230 ?_
                  exact hJ 0 (if_neg c60).symm
                · replace c60 := Classical.not_not.mp c60
                  refine wm_iconst d_Ma_run_226 ?_
                  refine wm_goto (tgt := 231) d_Ma_run_227 rfl ?_
                  exact hJ 1 (if_pos c60).symm
              · replace h := h.2 c57
                by_cases c94 : mI M (mR M (mR M a0 0) 0) (Int.toNat l2) = 33
                · replace h := h.1 c94
                  refine wm_lookup (tgt := 290) (off := 228) d_Ma_run_62 z_Ma_run_62_s (hO _ _).1 (by rw [c94]; rfl) rfl ?_
                  obtain ⟨h95, h⟩ := h
                  obtain ⟨M96, e97⟩ : ∃ M96, M96 = mUI M a0 8 ((mI M a0 8) - 1) := ⟨_, rfl⟩
                  replace h := h M96 e97
                  obtain ⟨h98, h⟩ := h
                  obtain ⟨h99, h⟩ := h
                  refine wm_aload_n d_Ma_run_290 rfl rfl ?_
                  refine wm_dup d_Ma_run_291 rfl ?_
                  refine gf_Ma_52 rfl d_Ma_run_292 h23 ?_
                  refine wm_iconst d_Ma_run_295 ?_
                  refine wm_isub d_Ma_run_296 ?_
                  have hOM96 : mOk M96 := by rw [e97]; exact mOk_UI hO h95
                  refine pf_Ma_52 rfl d_Ma_run_297 h23 h95 e97 ?_
                  refine wm_aload_n d_Ma_run_300 rfl rfl ?_
                  refine gf_Ma_18 rfl d_Ma_run_301 (by rw [e97]; exact h23) ?_
                  refine wm_aload_n d_Ma_run_304 rfl rfl ?_
                  refine gf_Ma_52 rfl d_Ma_run_305 (by rw [e97]; exact h23) ?_
                  refine wm_iald d_Ma_run_308 h98 h99 ?_
                  have hJ : ∀ v101 : Int, v101 = (if (mI M96 (mR M96 a0 6) (Int.toNat (mI M96 a0 8)) = 0) then mI M (mR M (mR M a0 0) 1) (Int.toNat l2) else l2 + 1) → mWm G y_Ma_run (d + 1) 318 [vr a0, vd, vd, vi l3, vd, vd, vd] [vi v101] M96 (fun r9 M9 => ∃ x9, r9 = some (vi x9) ∧ Q x9 M9) := by
                    intro v101 e103
                    have h := h v101 e103
                    refine wm_istore_n d_Ma_run_318 rfl (by decide) (L' := [vr a0, vd, vi v101, vi l3, vd, vd, vd]) rfl ?_
                    refine wm_goto (tgt := 358) d_Ma_run_319 rfl ?_
                    refine wm_iinc d_Ma_run_358 (by decide) rfl (L' := [vr a0, vd, vi v101, vi (l3 + 1), vd, vd, vd]) rfl ?_
                    refine wm_goto (tgt := 14) d_Ma_run_361 rfl ?_
                    exact h
                  clear h
                  refine wm_if_ne (tgt := 317) d_Ma_run_309 rfl (hOM96 _ _).1 (fun c100 => ?_) (fun c100 => ?_)
                  · refine wm_iload_n d_Ma_run_317 rfl rfl ?_
                    refine wm_less (L' := [vr a0, vd, vd, vi l3, vd, vd, vd]) ⟨Or.inr rfl, Or.inl rfl, Or.inl rfl, Or.inr rfl, Or.inl rfl, Or.inl rfl, Or.inl rfl, trivial⟩ ?_
                    exact hJ (l2 + 1) (if_neg c100).symm
                  · replace c100 := Classical.not_not.mp c100
                    refine wm_iload d_Ma_run_312 rfl ?_
                    refine wm_goto (tgt := 318) d_Ma_run_314 rfl ?_
                    refine wm_less (L' := [vr a0, vd, vd, vi l3, vd, vd, vd]) ⟨Or.inr rfl, Or.inl rfl, Or.inl rfl, Or.inr rfl, Or.inl rfl, Or.inl rfl, Or.inl rfl, trivial⟩ ?_
                    exact hJ (mI M (mR M (mR M a0 0) 1) (Int.toNat l2)) (if_pos c100).symm
                · replace h := h.2 c94
                  by_cases c105 : mI M (mR M (mR M a0 0) 0) (Int.toNat l2) = 42
                  · replace h := h.1 c105
                    refine wm_lookup (tgt := 322) (off := 260) d_Ma_run_62 z_Ma_run_62_s (hO _ _).1 (by rw [c105]; rfl) rfl ?_
                    refine wm_iload d_Ma_run_322 rfl ?_
                    refine wm_istore_n d_Ma_run_324 rfl (by decide) (L' := [vr a0, vd, vi (mI M (mR M (mR M a0 0) 1) (Int.toNat l2)), vi l3, vi (mI M (mR M (mR M a0 0) 0) (Int.toNat l2)), vi (mI M (mR M (mR M a0 0) 1) (Int.toNat l2)), vd]) rfl ?_
                    refine wm_goto (tgt := 358) d_Ma_run_325 rfl ?_
                    refine wm_iinc d_Ma_run_358 (by decide) rfl (L' := [vr a0, vd, vi (mI M (mR M (mR M a0 0) 1) (Int.toNat l2)), vi (l3 + 1), vi (mI M (mR M (mR M a0 0) 0) (Int.toNat l2)), vi (mI M (mR M (mR M a0 0) 1) (Int.toNat l2)), vd]) rfl ?_
                    refine wm_goto (tgt := 14) d_Ma_run_361 rfl ?_
                    refine wm_less (L' := [vr a0, vd, vi (mI M (mR M (mR M a0 0) 1) (Int.toNat l2)), vi (l3 + 1), vd, vd, vd]) ⟨Or.inr rfl, Or.inl rfl, Or.inr rfl, Or.inr rfl, Or.inl rfl, Or.inl rfl, Or.inl rfl, trivial⟩ ?_
                    exact h
                  · replace h := h.2 c105
                    refine wm_lookup (tgt := 345) (off := 283) d_Ma_run_62 z_Ma_run_62_s (hO _ _).1 (by simp [Op.lookupswitch.offset]; repeat rw [if_neg (by omega)]) rfl ?_
                    refine wm_aload_n d_Ma_run_345 rfl rfl ?_
                    refine wm_iload d_Ma_run_346 rfl ?_
                    refine wm_iload d_Ma_run_348 rfl ?_
                    refine cf_Ma_88 rfl d_Ma_run_350 h23 (Nat.le_of_ble_eq_true rfl) (Ci.mono h (fun x107 M106 h => ?_))
                    obtain ⟨h108, hOM106, h⟩ := h
                    refine wm_if_ne (tgt := 358) d_Ma_run_353 rfl h108 (fun c110 => ?_) (fun c110 => ?_)
                    · replace h := h.2 c110
                      refine wm_iinc d_Ma_run_358 (by decide) rfl (L' := [vr a0, vd, vi (l2 + 1), vi (l3 + 1), vi (mI M (mR M (mR M a0 0) 0) (Int.toNat l2)), vi (mI M (mR M (mR M a0 0) 1) (Int.toNat l2)), vd]) rfl ?_
                      refine wm_goto (tgt := 14) d_Ma_run_361 rfl ?_
                      refine wm_less (L' := [vr a0, vd, vi (l2 + 1), vi (l3 + 1), vd, vd, vd]) ⟨Or.inr rfl, Or.inl rfl, Or.inr rfl, Or.inr rfl, Or.inl rfl, Or.inl rfl, Or.inl rfl, trivial⟩ ?_
                      exact h
                    · replace c110 := Classical.not_not.mp c110
                      replace h := h.1 c110
                      refine wm_iconst d_Ma_run_356 ?_
                      refine wm_ireturn d_Ma_run_357 rfl (m_nb (by decide)) ?_
                      exact ⟨_, rfl, h⟩
  clear h
  have s111 := s15
  refine wm_icmp_ge (tgt := 364) d_Ma_run_17 rfl hi_l3 ⟨by decide, by decide⟩ (fun c14 => ?_) (fun c14 => ?_)
  · exact hE0 (Or.inl c14)
  · have s111 := s111 c14
    have s112 := s111
    refine wm_iload_n d_Ma_run_20 rfl rfl ?_
    refine wm_if_lt (tgt := 364) d_Ma_run_21 rfl hi_l2 (fun c13 => ?_) (fun c13 => ?_)
    · exact hE0 (Or.inr (Or.inl c13))
    · have s112 := s112 c13
      obtain ⟨h6, h7⟩ := s112
      refine wm_iload_n d_Ma_run_24 rfl rfl ?_
      refine wm_aload_n d_Ma_run_25 rfl rfl ?_
      refine gf_Ma_59 rfl d_Ma_run_26 h6 ?_
      refine gf_Ma_63 rfl d_Ma_run_29 h7 ?_
      refine wm_icmp_ge (tgt := 364) d_Ma_run_32 rfl hi_l2 (hO _ _).1 (fun c12 => ?_) (fun c12 => ?_)
      · exact hE0 (Or.inr (Or.inr c12))
      · exact hE1 (fun z113 => Or.elim z113 c14 (fun z114 => Or.elim z114 c13 c12))
theorem d_Ma_stop_0 : decode y_Ma_stop.2.1 0 = .ok (.aload_n 0, 1) := dc9_42 (by decide +kernel)
theorem d_Ma_stop_1 : decode y_Ma_stop.2.1 1 = .ok (.iload_n 1, 1) := dc9_27 (by decide +kernel)
theorem d_Ma_stop_2 : decode y_Ma_stop.2.1 2 = .ok (.putfield 95, 3) := dc9_181 (by decide +kernel)
theorem d_Ma_stop_5 : decode y_Ma_stop.2.1 5 = .ok (.aload_n 0, 1) := dc9_42 (by decide +kernel)
theorem d_Ma_stop_6 : decode y_Ma_stop.2.1 6 = .ok (.iload_n 2, 1) := dc9_28 (by decide +kernel)
theorem d_Ma_stop_7 : decode y_Ma_stop.2.1 7 = .ok (.putfield 98, 3) := dc9_181 (by decide +kernel)
theorem d_Ma_stop_10 : decode y_Ma_stop.2.1 10 = .ok (.iconst 0, 1) := dc9_3 (by decide +kernel)
theorem d_Ma_stop_11 : decode y_Ma_stop.2.1 11 = .ok (.ireturn, 1) := dc9_172 (by decide +kernel)
theorem k_Ma_stop {G : mG} {d : Nat} {a0 : Nat} {l1 : Int} {l2 : Int} {M : mM} {Q : Int → mM → Prop} (hO : mOk M) (hi_l1 : i32 l1) (hi_l2 : i32 l2)
    (h : mK M a0 = 5 ∧ ∀ M2, M2 = mUI M a0 1 l1 → ∀ M4, M4 = mUI M2 a0 2 l2 → Q 0 M4) :
    Ci G y_Ma_stop d [vr a0, vi l1, vi l2] M Q := by
  refine wm_open (y := y_Ma_stop) rfl (Nat.le_of_ble_eq_true rfl) (L := [vr a0, vi l1, vi l2]) rfl ?_
  obtain ⟨h1, h⟩ := h
  obtain ⟨M2, e3⟩ : ∃ M2, M2 = mUI M a0 1 l1 := ⟨_, rfl⟩
  replace h := h M2 e3
  obtain ⟨M4, e5⟩ : ∃ M4, M4 = mUI M2 a0 2 l2 := ⟨_, rfl⟩
  replace h := h M4 e5
  refine wm_aload_n d_Ma_stop_0 rfl rfl ?_
  refine wm_iload_n d_Ma_stop_1 rfl rfl ?_
  have hOM2 : mOk M2 := by rw [e3]; exact mOk_UI hO hi_l1
  refine pf_Ma_95 rfl d_Ma_stop_2 h1 hi_l1 e3 ?_
  refine wm_aload_n d_Ma_stop_5 rfl rfl ?_
  refine wm_iload_n d_Ma_stop_6 rfl rfl ?_
  have hOM4 : mOk M4 := by rw [e5]; exact mOk_UI hOM2 hi_l2
  refine pf_Ma_98 rfl d_Ma_stop_7 (by rw [e3]; exact h1) hi_l2 e5 ?_
  refine wm_iconst d_Ma_stop_10 ?_
  refine wm_ireturn d_Ma_stop_11 rfl (m_nb (by decide)) ?_
  exact ⟨_, rfl, h⟩
theorem d_Ma_push_0 : decode y_Ma_push.2.1 0 = .ok (.aload_n 0, 1) := dc9_42 (by decide +kernel)
theorem d_Ma_push_1 : decode y_Ma_push.2.1 1 = .ok (.getfield 52, 3) := dc9_180 (by decide +kernel)
theorem d_Ma_push_4 : decode y_Ma_push.2.1 4 = .ok (.aload_n 0, 1) := dc9_42 (by decide +kernel)
theorem d_Ma_push_5 : decode y_Ma_push.2.1 5 = .ok (.getfield 18, 3) := dc9_180 (by decide +kernel)
theorem d_Ma_push_8 : decode y_Ma_push.2.1 8 = .ok (.arraylength, 1) := dc9_190 (by decide +kernel)
theorem d_Ma_push_9 : decode y_Ma_push.2.1 9 = .ok (.if_icmp .ne 37, 3) := dc9_160 (by decide +kernel)
theorem d_Ma_push_12 : decode y_Ma_push.2.1 12 = .ok (.aload_n 0, 1) := dc9_42 (by decide +kernel)
theorem d_Ma_push_13 : decode y_Ma_push.2.1 13 = .ok (.aload_n 0, 1) := dc9_42 (by decide +kernel)
theorem d_Ma_push_14 : decode y_Ma_push.2.1 14 = .ok (.getfield 18, 3) := dc9_180 (by decide +kernel)
theorem d_Ma_push_17 : decode y_Ma_push.2.1 17 = .ok (.iconst 2, 1) := dc9_5 (by decide +kernel)
theorem d_Ma_push_18 : decode y_Ma_push.2.1 18 = .ok (.aload_n 0, 1) := dc9_42 (by decide +kernel)
theorem d_Ma_push_19 : decode y_Ma_push.2.1 19 = .ok (.getfield 52, 3) := dc9_180 (by decide +kernel)
theorem d_Ma_push_22 : decode y_Ma_push.2.1 22 = .ok (.imul, 1) := dc9_104 (by decide +kernel)
theorem d_Ma_push_23 : decode y_Ma_push.2.1 23 = .ok (.invokestatic 101, 3) := dc9_184 (by decide +kernel)
theorem d_Ma_push_26 : decode y_Ma_push.2.1 26 = .ok (.putfield 18, 3) := dc9_181 (by decide +kernel)
theorem d_Ma_push_29 : decode y_Ma_push.2.1 29 = .ok (.aload_n 0, 1) := dc9_42 (by decide +kernel)
theorem d_Ma_push_30 : decode y_Ma_push.2.1 30 = .ok (.aload_n 0, 1) := dc9_42 (by decide +kernel)
theorem d_Ma_push_31 : decode y_Ma_push.2.1 31 = .ok (.getfield 21, 3) := dc9_180 (by decide +kernel)
theorem d_Ma_push_34 : decode y_Ma_push.2.1 34 = .ok (.iconst 2, 1) := dc9_5 (by decide +kernel)
theorem d_Ma_push_35 : decode y_Ma_push.2.1 35 = .ok (.aload_n 0, 1) := dc9_42 (by decide +kernel)
theorem d_Ma_push_36 : decode y_Ma_push.2.1 36 = .ok (.getfield 52, 3) := dc9_180 (by decide +kernel)
theorem d_Ma_push_39 : decode y_Ma_push.2.1 39 = .ok (.imul, 1) := dc9_104 (by decide +kernel)
theorem d_Ma_push_40 : decode y_Ma_push.2.1 40 = .ok (.invokestatic 101, 3) := dc9_184 (by decide +kernel)
theorem d_Ma_push_43 : decode y_Ma_push.2.1 43 = .ok (.putfield 21, 3) := dc9_181 (by decide +kernel)
theorem d_Ma_push_46 : decode y_Ma_push.2.1 46 = .ok (.aload_n 0, 1) := dc9_42 (by decide +kernel)
theorem d_Ma_push_47 : decode y_Ma_push.2.1 47 = .ok (.getfield 18, 3) := dc9_180 (by decide +kernel)
theorem d_Ma_push_50 : decode y_Ma_push.2.1 50 = .ok (.aload_n 0, 1) := dc9_42 (by decide +kernel)
theorem d_Ma_push_51 : decode y_Ma_push.2.1 51 = .ok (.getfield 52, 3) := dc9_180 (by decide +kernel)
theorem d_Ma_push_54 : decode y_Ma_push.2.1 54 = .ok (.iload_n 1, 1) := dc9_27 (by decide +kernel)
theorem d_Ma_push_55 : decode y_Ma_push.2.1 55 = .ok (.iastore, 1) := dc9_79 (by decide +kernel)
theorem d_Ma_push_56 : decode y_Ma_push.2.1 56 = .ok (.aload_n 0, 1) := dc9_42 (by decide +kernel)
theorem d_Ma_push_57 : decode y_Ma_push.2.1 57 = .ok (.getfield 21, 3) := dc9_180 (by decide +kernel)
theorem d_Ma_push_60 : decode y_Ma_push.2.1 60 = .ok (.aload_n 0, 1) := dc9_42 (by decide +kernel)
theorem d_Ma_push_61 : decode y_Ma_push.2.1 61 = .ok (.getfield 52, 3) := dc9_180 (by decide +kernel)
theorem d_Ma_push_64 : decode y_Ma_push.2.1 64 = .ok (.iload_n 2, 1) := dc9_28 (by decide +kernel)
theorem d_Ma_push_65 : decode y_Ma_push.2.1 65 = .ok (.iastore, 1) := dc9_79 (by decide +kernel)
theorem d_Ma_push_66 : decode y_Ma_push.2.1 66 = .ok (.aload_n 0, 1) := dc9_42 (by decide +kernel)
theorem d_Ma_push_67 : decode y_Ma_push.2.1 67 = .ok (.dup, 1) := dc9_89 (by decide +kernel)
theorem d_Ma_push_68 : decode y_Ma_push.2.1 68 = .ok (.getfield 52, 3) := dc9_180 (by decide +kernel)
theorem d_Ma_push_71 : decode y_Ma_push.2.1 71 = .ok (.iconst 1, 1) := dc9_4 (by decide +kernel)
theorem d_Ma_push_72 : decode y_Ma_push.2.1 72 = .ok (.iadd, 1) := dc9_96 (by decide +kernel)
theorem d_Ma_push_73 : decode y_Ma_push.2.1 73 = .ok (.putfield 52, 3) := dc9_181 (by decide +kernel)
theorem d_Ma_push_76 : decode y_Ma_push.2.1 76 = .ok (.return_, 1) := dc9_177 (by decide +kernel)
theorem k_Ma_push {G : mG} {d : Nat} {a0 : Nat} {l1 : Int} {l2 : Int} {M : mM} {Q : mM → Prop} (hO : mOk M) (hi_l1 : i32 l1) (hi_l2 : i32 l2)
    (h : mK M a0 = 5 ∧ mK M (mR M a0 6) = 30 ∧ i32 (mN M (mR M a0 6) : Int) ∧ ((mI M a0 8 = (mN M (mR M a0 6) : Int)) → (Cr G y_JA_copyOf d [vr (mR M a0 6), vi (2 * (mI M a0 8))] M (fun x10 M9 => mOk M9 ∧ (mK M9 a0 = 5 ∧ ∀ M13, M13 = mUR M9 a0 6 x10 → Cr G y_JA_copyOf d [vr (mR M13 a0 7), vi (2 * (mI M13 a0 8))] M13 (fun x16 M15 => mOk M15 ∧ (mK M15 a0 = 5 ∧ ∀ M19, M19 = mUR M15 a0 7 x16 → mK M19 (mR M19 a0 6) = 30 ∧ ((0 : Int) ≤ mI M19 a0 8 ∧ mI M19 a0 8 < (mN M19 (mR M19 a0 6) : Int)) ∧ ∀ M23, M23 = mUI M19 (mR M19 a0 6) (Int.toNat (mI M19 a0 8)) l1 → mK M23 (mR M23 a0 7) = 30 ∧ ((0 : Int) ≤ mI M23 a0 8 ∧ mI M23 a0 8 < (mN M23 (mR M23 a0 7) : Int)) ∧ ∀ M27, M27 = mUI M23 (mR M23 a0 7) (Int.toNat (mI M23 a0 8)) l2 → i32 ((mI M27 a0 8) + 1) ∧ ∀ M30, M30 = mUI M27 a0 8 ((mI M27 a0 8) + 1) → Q M30)))))) ∧ (¬ (mI M a0 8 = (mN M (mR M a0 6) : Int)) → (((0 : Int) ≤ mI M a0 8 ∧ mI M a0 8 < (mN M (mR M a0 6) : Int)) ∧ ∀ M33, M33 = mUI M (mR M a0 6) (Int.toNat (mI M a0 8)) l1 → mK M33 (mR M33 a0 7) = 30 ∧ ((0 : Int) ≤ mI M33 a0 8 ∧ mI M33 a0 8 < (mN M33 (mR M33 a0 7) : Int)) ∧ ∀ M37, M37 = mUI M33 (mR M33 a0 7) (Int.toNat (mI M33 a0 8)) l2 → i32 ((mI M37 a0 8) + 1) ∧ ∀ M40, M40 = mUI M37 a0 8 ((mI M37 a0 8) + 1) → Q M40))) :
    Cv G y_Ma_push (d + 1) [vr a0, vi l1, vi l2] M Q := by
  refine wm_open (y := y_Ma_push) rfl (Nat.le_of_ble_eq_true rfl) (L := [vr a0, vi l1, vi l2]) rfl ?_
  obtain ⟨h1, h⟩ := h
  obtain ⟨h2, h⟩ := h
  obtain ⟨h7, h⟩ := h
  refine wm_aload_n d_Ma_push_0 rfl rfl ?_
  refine gf_Ma_52 rfl d_Ma_push_1 h1 ?_
  refine wm_aload_n d_Ma_push_4 rfl rfl ?_
  refine gf_Ma_18 rfl d_Ma_push_5 h1 ?_
  refine wm_alen 0 rfl (fun _ => rfl) d_Ma_push_8 h2 ?_
  refine wm_icmp_ne (tgt := 46) d_Ma_push_9 rfl (hO _ _).1 h7 (fun c8 => ?_) (fun c8 => ?_)
  · replace h := h.2 c8
    obtain ⟨h32, h⟩ := h
    obtain ⟨M33, e34⟩ : ∃ M33, M33 = mUI M (mR M a0 6) (Int.toNat (mI M a0 8)) l1 := ⟨_, rfl⟩
    replace h := h M33 e34
    obtain ⟨h35, h⟩ := h
    obtain ⟨h36, h⟩ := h
    obtain ⟨M37, e38⟩ : ∃ M37, M37 = mUI M33 (mR M33 a0 7) (Int.toNat (mI M33 a0 8)) l2 := ⟨_, rfl⟩
    replace h := h M37 e38
    obtain ⟨h39, h⟩ := h
    obtain ⟨M40, e41⟩ : ∃ M40, M40 = mUI M37 a0 8 ((mI M37 a0 8) + 1) := ⟨_, rfl⟩
    replace h := h M40 e41
    refine wm_aload_n d_Ma_push_46 rfl rfl ?_
    refine gf_Ma_18 rfl d_Ma_push_47 h1 ?_
    refine wm_aload_n d_Ma_push_50 rfl rfl ?_
    refine gf_Ma_52 rfl d_Ma_push_51 h1 ?_
    refine wm_iload_n d_Ma_push_54 rfl rfl ?_
    have hOM33 : mOk M33 := by rw [e34]; exact mOk_UI hO hi_l1
    refine wm_iastE d_Ma_push_55 h2 h32 hi_l1 e34 ?_
    refine wm_aload_n d_Ma_push_56 rfl rfl ?_
    refine gf_Ma_21 rfl d_Ma_push_57 (by rw [e34]; exact h1) ?_
    refine wm_aload_n d_Ma_push_60 rfl rfl ?_
    refine gf_Ma_52 rfl d_Ma_push_61 (by rw [e34]; exact h1) ?_
    refine wm_iload_n d_Ma_push_64 rfl rfl ?_
    have hOM37 : mOk M37 := by rw [e38]; exact mOk_UI hOM33 hi_l2
    refine wm_iastE d_Ma_push_65 h35 h36 hi_l2 e38 ?_
    refine wm_aload_n d_Ma_push_66 rfl rfl ?_
    refine wm_dup d_Ma_push_67 rfl ?_
    refine gf_Ma_52 rfl d_Ma_push_68 (by rw [e38, e34]; exact h1) ?_
    refine wm_iconst d_Ma_push_71 ?_
    refine wm_iadd d_Ma_push_72 ?_
    have hOM40 : mOk M40 := by rw [e41]; exact mOk_UI hOM37 h39
    refine pf_Ma_52 rfl d_Ma_push_73 (by rw [e38, e34]; exact h1) h39 e41 ?_
    refine wm_return d_Ma_push_76 rfl ?_
    exact ⟨rfl, h⟩
  · replace c8 := Classical.not_not.mp c8
    replace h := h.1 c8
    refine wm_aload_n d_Ma_push_12 rfl rfl ?_
    refine wm_aload_n d_Ma_push_13 rfl rfl ?_
    refine gf_Ma_18 rfl d_Ma_push_14 h1 ?_
    refine wm_iconst d_Ma_push_17 ?_
    refine wm_aload_n d_Ma_push_18 rfl rfl ?_
    refine gf_Ma_52 rfl d_Ma_push_19 h1 ?_
    refine wm_imul d_Ma_push_22 ?_
    refine cf_Ma_101 rfl d_Ma_push_23 (Nat.le_of_ble_eq_true rfl) (Cr.mono h (fun x10 M9 h => ?_))
    obtain ⟨hOM9, h⟩ := h
    obtain ⟨h12, h⟩ := h
    obtain ⟨M13, e14⟩ : ∃ M13, M13 = mUR M9 a0 6 x10 := ⟨_, rfl⟩
    replace h := h M13 e14
    have hOM13 : mOk M13 := by rw [e14]; exact mOk_UR hOM9
    refine pf_Ma_18 rfl d_Ma_push_26 h12 e14 ?_
    refine wm_aload_n d_Ma_push_29 rfl rfl ?_
    refine wm_aload_n d_Ma_push_30 rfl rfl ?_
    refine gf_Ma_21 rfl d_Ma_push_31 (by rw [e14]; exact h12) ?_
    refine wm_iconst d_Ma_push_34 ?_
    refine wm_aload_n d_Ma_push_35 rfl rfl ?_
    refine gf_Ma_52 rfl d_Ma_push_36 (by rw [e14]; exact h12) ?_
    refine wm_imul d_Ma_push_39 ?_
    refine cf_Ma_101 rfl d_Ma_push_40 (Nat.le_of_ble_eq_true rfl) (Cr.mono h (fun x16 M15 h => ?_))
    obtain ⟨hOM15, h⟩ := h
    obtain ⟨h18, h⟩ := h
    obtain ⟨M19, e20⟩ : ∃ M19, M19 = mUR M15 a0 7 x16 := ⟨_, rfl⟩
    replace h := h M19 e20
    obtain ⟨h21, h⟩ := h
    obtain ⟨h22, h⟩ := h
    obtain ⟨M23, e24⟩ : ∃ M23, M23 = mUI M19 (mR M19 a0 6) (Int.toNat (mI M19 a0 8)) l1 := ⟨_, rfl⟩
    replace h := h M23 e24
    obtain ⟨h25, h⟩ := h
    obtain ⟨h26, h⟩ := h
    obtain ⟨M27, e28⟩ : ∃ M27, M27 = mUI M23 (mR M23 a0 7) (Int.toNat (mI M23 a0 8)) l2 := ⟨_, rfl⟩
    replace h := h M27 e28
    obtain ⟨h29, h⟩ := h
    obtain ⟨M30, e31⟩ : ∃ M30, M30 = mUI M27 a0 8 ((mI M27 a0 8) + 1) := ⟨_, rfl⟩
    replace h := h M30 e31
    have hOM19 : mOk M19 := by rw [e20]; exact mOk_UR hOM15
    refine pf_Ma_21 rfl d_Ma_push_43 h18 e20 ?_
    refine wm_aload_n d_Ma_push_46 rfl rfl ?_
    refine gf_Ma_18 rfl d_Ma_push_47 (by rw [e20]; exact h18) ?_
    refine wm_aload_n d_Ma_push_50 rfl rfl ?_
    refine gf_Ma_52 rfl d_Ma_push_51 (by rw [e20]; exact h18) ?_
    refine wm_iload_n d_Ma_push_54 rfl rfl ?_
    have hOM23 : mOk M23 := by rw [e24]; exact mOk_UI hOM19 hi_l1
    refine wm_iastE d_Ma_push_55 h21 h22 hi_l1 e24 ?_
    refine wm_aload_n d_Ma_push_56 rfl rfl ?_
    refine gf_Ma_21 rfl d_Ma_push_57 (by rw [e24, e20]; exact h18) ?_
    refine wm_aload_n d_Ma_push_60 rfl rfl ?_
    refine gf_Ma_52 rfl d_Ma_push_61 (by rw [e24, e20]; exact h18) ?_
    refine wm_iload_n d_Ma_push_64 rfl rfl ?_
    have hOM27 : mOk M27 := by rw [e28]; exact mOk_UI hOM23 hi_l2
    refine wm_iastE d_Ma_push_65 h25 h26 hi_l2 e28 ?_
    refine wm_aload_n d_Ma_push_66 rfl rfl ?_
    refine wm_dup d_Ma_push_67 rfl ?_
    refine gf_Ma_52 rfl d_Ma_push_68 (by rw [e28, e24, e20]; exact h18) ?_
    refine wm_iconst d_Ma_push_71 ?_
    refine wm_iadd d_Ma_push_72 ?_
    have hOM30 : mOk M30 := by rw [e31]; exact mOk_UI hOM27 h29
    refine pf_Ma_52 rfl d_Ma_push_73 (by rw [e28, e24, e20]; exact h18) h29 e31 ?_
    refine wm_return d_Ma_push_76 rfl ?_
    exact ⟨rfl, h⟩
theorem d_Ma_meet_0 : decode y_Ma_meet.2.1 0 = .ok (.aload_n 0, 1) := dc9_42 (by decide +kernel)
theorem d_Ma_meet_1 : decode y_Ma_meet.2.1 1 = .ok (.getfield 28, 3) := dc9_180 (by decide +kernel)
theorem d_Ma_meet_4 : decode y_Ma_meet.2.1 4 = .ok (.iload_n 1, 1) := dc9_27 (by decide +kernel)
theorem d_Ma_meet_5 : decode y_Ma_meet.2.1 5 = .ok (.iaload, 1) := dc9_46 (by decide +kernel)
theorem d_Ma_meet_6 : decode y_Ma_meet.2.1 6 = .ok (.aload_n 0, 1) := dc9_42 (by decide +kernel)
theorem d_Ma_meet_7 : decode y_Ma_meet.2.1 7 = .ok (.getfield 24, 3) := dc9_180 (by decide +kernel)
theorem d_Ma_meet_10 : decode y_Ma_meet.2.1 10 = .ok (.if_icmp .ne 21, 3) := dc9_160 (by decide +kernel)
theorem d_Ma_meet_13 : decode y_Ma_meet.2.1 13 = .ok (.aload_n 0, 1) := dc9_42 (by decide +kernel)
theorem d_Ma_meet_14 : decode y_Ma_meet.2.1 14 = .ok (.aload_n 0, 1) := dc9_42 (by decide +kernel)
theorem d_Ma_meet_15 : decode y_Ma_meet.2.1 15 = .ok (.getfield 31, 3) := dc9_180 (by decide +kernel)
theorem d_Ma_meet_18 : decode y_Ma_meet.2.1 18 = .ok (.iload_n 1, 1) := dc9_27 (by decide +kernel)
theorem d_Ma_meet_19 : decode y_Ma_meet.2.1 19 = .ok (.iaload, 1) := dc9_46 (by decide +kernel)
theorem d_Ma_meet_20 : decode y_Ma_meet.2.1 20 = .ok (.aload_n 0, 1) := dc9_42 (by decide +kernel)
theorem d_Ma_meet_21 : decode y_Ma_meet.2.1 21 = .ok (.getfield 34, 3) := dc9_180 (by decide +kernel)
theorem d_Ma_meet_24 : decode y_Ma_meet.2.1 24 = .ok (.iload_n 1, 1) := dc9_27 (by decide +kernel)
theorem d_Ma_meet_25 : decode y_Ma_meet.2.1 25 = .ok (.iaload, 1) := dc9_46 (by decide +kernel)
theorem d_Ma_meet_31 : decode y_Ma_meet.2.1 31 = .ok (.aload_n 0, 1) := dc9_42 (by decide +kernel)
theorem d_Ma_meet_32 : decode y_Ma_meet.2.1 32 = .ok (.getfield 37, 3) := dc9_180 (by decide +kernel)
theorem d_Ma_meet_35 : decode y_Ma_meet.2.1 35 = .ok (.aload_n 0, 1) := dc9_42 (by decide +kernel)
theorem d_Ma_meet_36 : decode y_Ma_meet.2.1 36 = .ok (.getfield 55, 3) := dc9_180 (by decide +kernel)
theorem d_Ma_meet_39 : decode y_Ma_meet.2.1 39 = .ok (.iload_n 1, 1) := dc9_27 (by decide +kernel)
theorem d_Ma_meet_40 : decode y_Ma_meet.2.1 40 = .ok (.iastore, 1) := dc9_79 (by decide +kernel)
theorem d_Ma_meet_41 : decode y_Ma_meet.2.1 41 = .ok (.aload_n 0, 1) := dc9_42 (by decide +kernel)
theorem d_Ma_meet_42 : decode y_Ma_meet.2.1 42 = .ok (.getfield 40, 3) := dc9_180 (by decide +kernel)
theorem d_Ma_meet_45 : decode y_Ma_meet.2.1 45 = .ok (.aload_n 0, 1) := dc9_42 (by decide +kernel)
theorem d_Ma_meet_46 : decode y_Ma_meet.2.1 46 = .ok (.getfield 55, 3) := dc9_180 (by decide +kernel)
theorem d_Ma_meet_49 : decode y_Ma_meet.2.1 49 = .ok (.iload_n 2, 1) := dc9_28 (by decide +kernel)
theorem d_Ma_meet_50 : decode y_Ma_meet.2.1 50 = .ok (.iastore, 1) := dc9_79 (by decide +kernel)
theorem d_Ma_meet_26 : decode y_Ma_meet.2.1 26 = .ok (.invokevirtual 74, 3) := dc9_182 (by decide +kernel)
theorem d_Ma_meet_29 : decode y_Ma_meet.2.1 29 = .ok (.iload_n 2, 1) := dc9_28 (by decide +kernel)
theorem d_Ma_meet_30 : decode y_Ma_meet.2.1 30 = .ok (.ireturn, 1) := dc9_172 (by decide +kernel)
theorem d_Ma_meet_51 : decode y_Ma_meet.2.1 51 = .ok (.aload_n 0, 1) := dc9_42 (by decide +kernel)
theorem d_Ma_meet_52 : decode y_Ma_meet.2.1 52 = .ok (.dup, 1) := dc9_89 (by decide +kernel)
theorem d_Ma_meet_53 : decode y_Ma_meet.2.1 53 = .ok (.getfield 55, 3) := dc9_180 (by decide +kernel)
theorem d_Ma_meet_56 : decode y_Ma_meet.2.1 56 = .ok (.iconst 1, 1) := dc9_4 (by decide +kernel)
theorem d_Ma_meet_57 : decode y_Ma_meet.2.1 57 = .ok (.iadd, 1) := dc9_96 (by decide +kernel)
theorem d_Ma_meet_58 : decode y_Ma_meet.2.1 58 = .ok (.putfield 55, 3) := dc9_181 (by decide +kernel)
theorem d_Ma_meet_61 : decode y_Ma_meet.2.1 61 = .ok (.aload_n 0, 1) := dc9_42 (by decide +kernel)
theorem d_Ma_meet_62 : decode y_Ma_meet.2.1 62 = .ok (.getfield 59, 3) := dc9_180 (by decide +kernel)
theorem d_Ma_meet_65 : decode y_Ma_meet.2.1 65 = .ok (.getfield 107, 3) := dc9_180 (by decide +kernel)
theorem d_Ma_meet_68 : decode y_Ma_meet.2.1 68 = .ok (.iload_n 1, 1) := dc9_27 (by decide +kernel)
theorem d_Ma_meet_69 : decode y_Ma_meet.2.1 69 = .ok (.iaload, 1) := dc9_46 (by decide +kernel)
theorem d_Ma_meet_70 : decode y_Ma_meet.2.1 70 = .ok (.ireturn, 1) := dc9_172 (by decide +kernel)
theorem k_Ma_meet {G : mG} {d : Nat} {a0 : Nat} {l1 : Int} {l2 : Int} {M : mM} {Q : Int → mM → Prop} (hO : mOk M) (hi_l1 : i32 l1) (hi_l2 : i32 l2)
    (h : mK M a0 = 5 ∧ mK M (mR M a0 10) = 30 ∧ ((0 : Int) ≤ l1 ∧ l1 < (mN M (mR M a0 10) : Int)) ∧ ((mI M (mR M a0 10) (Int.toNat l1) = mI M a0 9) → (mK M (mR M a0 11) = 30 ∧ ((0 : Int) ≤ l1 ∧ l1 < (mN M (mR M a0 11) : Int)) ∧ mK M (mR M a0 12) = 30 ∧ ((0 : Int) ≤ l1 ∧ l1 < (mN M (mR M a0 12) : Int)) ∧ Cv G y_Ma_push d [vr a0, vi (mI M (mR M a0 11) (Int.toNat l1)), vi (mI M (mR M a0 12) (Int.toNat l1))] M (fun M10 => mOk M10 ∧ (Q l2 M10)))) ∧ (¬ (mI M (mR M a0 10) (Int.toNat l1) = mI M a0 9) → (mK M (mR M a0 13) = 30 ∧ ((0 : Int) ≤ mI M a0 15 ∧ mI M a0 15 < (mN M (mR M a0 13) : Int)) ∧ ∀ M15, M15 = mUI M (mR M a0 13) (Int.toNat (mI M a0 15)) l1 → mK M15 (mR M15 a0 14) = 30 ∧ ((0 : Int) ≤ mI M15 a0 15 ∧ mI M15 a0 15 < (mN M15 (mR M15 a0 14) : Int)) ∧ ∀ M19, M19 = mUI M15 (mR M15 a0 14) (Int.toNat (mI M15 a0 15)) l2 → i32 ((mI M19 a0 15) + 1) ∧ ∀ M22, M22 = mUI M19 a0 15 ((mI M19 a0 15) + 1) → mK M22 (mR M22 a0 0) = 6 ∧ mK M22 (mR M22 (mR M22 a0 0) 10) = 30 ∧ ((0 : Int) ≤ l1 ∧ l1 < (mN M22 (mR M22 (mR M22 a0 0) 10) : Int)) ∧ Q (mI M22 (mR M22 (mR M22 a0 0) 10) (Int.toNat l1)) M22))) :
    Ci G y_Ma_meet (d + 1) [vr a0, vi l1, vi l2] M Q := by
  refine wm_open (y := y_Ma_meet) rfl (Nat.le_of_ble_eq_true rfl) (L := [vr a0, vi l1, vi l2]) rfl ?_
  obtain ⟨h1, h⟩ := h
  obtain ⟨h2, h⟩ := h
  obtain ⟨h3, h⟩ := h
  refine wm_aload_n d_Ma_meet_0 rfl rfl ?_
  refine gf_Ma_28 rfl d_Ma_meet_1 h1 ?_
  refine wm_iload_n d_Ma_meet_4 rfl rfl ?_
  refine wm_iald d_Ma_meet_5 h2 h3 ?_
  refine wm_aload_n d_Ma_meet_6 rfl rfl ?_
  refine gf_Ma_24 rfl d_Ma_meet_7 h1 ?_
  refine wm_icmp_ne (tgt := 31) d_Ma_meet_10 rfl (hO _ _).1 (hO _ _).1 (fun c5 => ?_) (fun c5 => ?_)
  · replace h := h.2 c5
    obtain ⟨h13, h⟩ := h
    obtain ⟨h14, h⟩ := h
    obtain ⟨M15, e16⟩ : ∃ M15, M15 = mUI M (mR M a0 13) (Int.toNat (mI M a0 15)) l1 := ⟨_, rfl⟩
    replace h := h M15 e16
    obtain ⟨h17, h⟩ := h
    obtain ⟨h18, h⟩ := h
    obtain ⟨M19, e20⟩ : ∃ M19, M19 = mUI M15 (mR M15 a0 14) (Int.toNat (mI M15 a0 15)) l2 := ⟨_, rfl⟩
    replace h := h M19 e20
    obtain ⟨h21, h⟩ := h
    obtain ⟨M22, e23⟩ : ∃ M22, M22 = mUI M19 a0 15 ((mI M19 a0 15) + 1) := ⟨_, rfl⟩
    replace h := h M22 e23
    obtain ⟨h24, h⟩ := h
    obtain ⟨h25, h⟩ := h
    obtain ⟨h26, h⟩ := h
    refine wm_aload_n d_Ma_meet_31 rfl rfl ?_
    refine gf_Ma_37 rfl d_Ma_meet_32 h1 ?_
    refine wm_aload_n d_Ma_meet_35 rfl rfl ?_
    refine gf_Ma_55 rfl d_Ma_meet_36 h1 ?_
    refine wm_iload_n d_Ma_meet_39 rfl rfl ?_
    have hOM15 : mOk M15 := by rw [e16]; exact mOk_UI hO hi_l1
    refine wm_iastE d_Ma_meet_40 h13 h14 hi_l1 e16 ?_
    refine wm_aload_n d_Ma_meet_41 rfl rfl ?_
    refine gf_Ma_40 rfl d_Ma_meet_42 (by rw [e16]; exact h1) ?_
    refine wm_aload_n d_Ma_meet_45 rfl rfl ?_
    refine gf_Ma_55 rfl d_Ma_meet_46 (by rw [e16]; exact h1) ?_
    refine wm_iload_n d_Ma_meet_49 rfl rfl ?_
    have hOM19 : mOk M19 := by rw [e20]; exact mOk_UI hOM15 hi_l2
    refine wm_iastE d_Ma_meet_50 h17 h18 hi_l2 e20 ?_
    refine wm_aload_n d_Ma_meet_51 rfl rfl ?_
    refine wm_dup d_Ma_meet_52 rfl ?_
    refine gf_Ma_55 rfl d_Ma_meet_53 (by rw [e20, e16]; exact h1) ?_
    refine wm_iconst d_Ma_meet_56 ?_
    refine wm_iadd d_Ma_meet_57 ?_
    have hOM22 : mOk M22 := by rw [e23]; exact mOk_UI hOM19 h21
    refine pf_Ma_55 rfl d_Ma_meet_58 (by rw [e20, e16]; exact h1) h21 e23 ?_
    refine wm_aload_n d_Ma_meet_61 rfl rfl ?_
    refine gf_Ma_59 rfl d_Ma_meet_62 (by rw [e23, e20, e16]; exact h1) ?_
    refine gf_Ma_107 rfl d_Ma_meet_65 h24 ?_
    refine wm_iload_n d_Ma_meet_68 rfl rfl ?_
    refine wm_iald d_Ma_meet_69 h25 h26 ?_
    refine wm_ireturn d_Ma_meet_70 rfl rfl ?_
    exact ⟨_, rfl, h⟩
  · replace c5 := Classical.not_not.mp c5
    replace h := h.1 c5
    obtain ⟨h6, h⟩ := h
    obtain ⟨h7, h⟩ := h
    obtain ⟨h8, h⟩ := h
    obtain ⟨h9, h⟩ := h
    refine wm_aload_n d_Ma_meet_13 rfl rfl ?_
    refine wm_aload_n d_Ma_meet_14 rfl rfl ?_
    refine gf_Ma_31 rfl d_Ma_meet_15 h1 ?_
    refine wm_iload_n d_Ma_meet_18 rfl rfl ?_
    refine wm_iald d_Ma_meet_19 h6 h7 ?_
    refine wm_aload_n d_Ma_meet_20 rfl rfl ?_
    refine gf_Ma_34 rfl d_Ma_meet_21 h1 ?_
    refine wm_iload_n d_Ma_meet_24 rfl rfl ?_
    refine wm_iald d_Ma_meet_25 h8 h9 ?_
    refine cf_Ma_74 rfl d_Ma_meet_26 h1 (Nat.le_of_ble_eq_true rfl) (Cv.mono h (fun M10 h => ?_))
    obtain ⟨hOM10, h⟩ := h
    refine wm_iload_n d_Ma_meet_29 rfl rfl ?_
    refine wm_ireturn d_Ma_meet_30 rfl rfl ?_
    exact ⟨_, rfl, h⟩
theorem d_Ma_comeBack_0 : decode y_Ma_comeBack.2.1 0 = .ok (.aload_n 0, 1) := dc9_42 (by decide +kernel)
theorem d_Ma_comeBack_1 : decode y_Ma_comeBack.2.1 1 = .ok (.dup, 1) := dc9_89 (by decide +kernel)
theorem d_Ma_comeBack_2 : decode y_Ma_comeBack.2.1 2 = .ok (.getfield 55, 3) := dc9_180 (by decide +kernel)
theorem d_Ma_comeBack_5 : decode y_Ma_comeBack.2.1 5 = .ok (.iconst 1, 1) := dc9_4 (by decide +kernel)
theorem d_Ma_comeBack_6 : decode y_Ma_comeBack.2.1 6 = .ok (.isub, 1) := dc9_100 (by decide +kernel)
theorem d_Ma_comeBack_7 : decode y_Ma_comeBack.2.1 7 = .ok (.putfield 55, 3) := dc9_181 (by decide +kernel)
theorem d_Ma_comeBack_10 : decode y_Ma_comeBack.2.1 10 = .ok (.aload_n 0, 1) := dc9_42 (by decide +kernel)
theorem d_Ma_comeBack_11 : decode y_Ma_comeBack.2.1 11 = .ok (.getfield 37, 3) := dc9_180 (by decide +kernel)
theorem d_Ma_comeBack_14 : decode y_Ma_comeBack.2.1 14 = .ok (.aload_n 0, 1) := dc9_42 (by decide +kernel)
theorem d_Ma_comeBack_15 : decode y_Ma_comeBack.2.1 15 = .ok (.getfield 55, 3) := dc9_180 (by decide +kernel)
theorem d_Ma_comeBack_18 : decode y_Ma_comeBack.2.1 18 = .ok (.iaload, 1) := dc9_46 (by decide +kernel)
theorem d_Ma_comeBack_19 : decode y_Ma_comeBack.2.1 19 = .ok (.istore_n 1, 1) := dc9_60 (by decide +kernel)
theorem d_Ma_comeBack_20 : decode y_Ma_comeBack.2.1 20 = .ok (.aload_n 0, 1) := dc9_42 (by decide +kernel)
theorem d_Ma_comeBack_21 : decode y_Ma_comeBack.2.1 21 = .ok (.getfield 28, 3) := dc9_180 (by decide +kernel)
theorem d_Ma_comeBack_24 : decode y_Ma_comeBack.2.1 24 = .ok (.iload_n 1, 1) := dc9_27 (by decide +kernel)
theorem d_Ma_comeBack_25 : decode y_Ma_comeBack.2.1 25 = .ok (.aload_n 0, 1) := dc9_42 (by decide +kernel)
theorem d_Ma_comeBack_26 : decode y_Ma_comeBack.2.1 26 = .ok (.getfield 24, 3) := dc9_180 (by decide +kernel)
theorem d_Ma_comeBack_29 : decode y_Ma_comeBack.2.1 29 = .ok (.iastore, 1) := dc9_79 (by decide +kernel)
theorem d_Ma_comeBack_30 : decode y_Ma_comeBack.2.1 30 = .ok (.aload_n 0, 1) := dc9_42 (by decide +kernel)
theorem d_Ma_comeBack_31 : decode y_Ma_comeBack.2.1 31 = .ok (.getfield 31, 3) := dc9_180 (by decide +kernel)
theorem d_Ma_comeBack_34 : decode y_Ma_comeBack.2.1 34 = .ok (.iload_n 1, 1) := dc9_27 (by decide +kernel)
theorem d_Ma_comeBack_35 : decode y_Ma_comeBack.2.1 35 = .ok (.aload_n 0, 1) := dc9_42 (by decide +kernel)
theorem d_Ma_comeBack_36 : decode y_Ma_comeBack.2.1 36 = .ok (.getfield 18, 3) := dc9_180 (by decide +kernel)
theorem d_Ma_comeBack_39 : decode y_Ma_comeBack.2.1 39 = .ok (.aload_n 0, 1) := dc9_42 (by decide +kernel)
theorem d_Ma_comeBack_40 : decode y_Ma_comeBack.2.1 40 = .ok (.getfield 52, 3) := dc9_180 (by decide +kernel)
theorem d_Ma_comeBack_43 : decode y_Ma_comeBack.2.1 43 = .ok (.iconst 1, 1) := dc9_4 (by decide +kernel)
theorem d_Ma_comeBack_44 : decode y_Ma_comeBack.2.1 44 = .ok (.isub, 1) := dc9_100 (by decide +kernel)
theorem d_Ma_comeBack_45 : decode y_Ma_comeBack.2.1 45 = .ok (.iaload, 1) := dc9_46 (by decide +kernel)
theorem d_Ma_comeBack_46 : decode y_Ma_comeBack.2.1 46 = .ok (.iastore, 1) := dc9_79 (by decide +kernel)
theorem d_Ma_comeBack_47 : decode y_Ma_comeBack.2.1 47 = .ok (.aload_n 0, 1) := dc9_42 (by decide +kernel)
theorem d_Ma_comeBack_48 : decode y_Ma_comeBack.2.1 48 = .ok (.getfield 34, 3) := dc9_180 (by decide +kernel)
theorem d_Ma_comeBack_51 : decode y_Ma_comeBack.2.1 51 = .ok (.iload_n 1, 1) := dc9_27 (by decide +kernel)
theorem d_Ma_comeBack_52 : decode y_Ma_comeBack.2.1 52 = .ok (.aload_n 0, 1) := dc9_42 (by decide +kernel)
theorem d_Ma_comeBack_53 : decode y_Ma_comeBack.2.1 53 = .ok (.getfield 21, 3) := dc9_180 (by decide +kernel)
theorem d_Ma_comeBack_56 : decode y_Ma_comeBack.2.1 56 = .ok (.aload_n 0, 1) := dc9_42 (by decide +kernel)
theorem d_Ma_comeBack_57 : decode y_Ma_comeBack.2.1 57 = .ok (.getfield 52, 3) := dc9_180 (by decide +kernel)
theorem d_Ma_comeBack_60 : decode y_Ma_comeBack.2.1 60 = .ok (.iconst 1, 1) := dc9_4 (by decide +kernel)
theorem d_Ma_comeBack_61 : decode y_Ma_comeBack.2.1 61 = .ok (.isub, 1) := dc9_100 (by decide +kernel)
theorem d_Ma_comeBack_62 : decode y_Ma_comeBack.2.1 62 = .ok (.iaload, 1) := dc9_46 (by decide +kernel)
theorem d_Ma_comeBack_63 : decode y_Ma_comeBack.2.1 63 = .ok (.iastore, 1) := dc9_79 (by decide +kernel)
theorem d_Ma_comeBack_64 : decode y_Ma_comeBack.2.1 64 = .ok (.aload_n 0, 1) := dc9_42 (by decide +kernel)
theorem d_Ma_comeBack_65 : decode y_Ma_comeBack.2.1 65 = .ok (.getfield 40, 3) := dc9_180 (by decide +kernel)
theorem d_Ma_comeBack_68 : decode y_Ma_comeBack.2.1 68 = .ok (.aload_n 0, 1) := dc9_42 (by decide +kernel)
theorem d_Ma_comeBack_69 : decode y_Ma_comeBack.2.1 69 = .ok (.getfield 55, 3) := dc9_180 (by decide +kernel)
theorem d_Ma_comeBack_72 : decode y_Ma_comeBack.2.1 72 = .ok (.iaload, 1) := dc9_46 (by decide +kernel)
theorem d_Ma_comeBack_73 : decode y_Ma_comeBack.2.1 73 = .ok (.ireturn, 1) := dc9_172 (by decide +kernel)
theorem k_Ma_comeBack {G : mG} {d : Nat} {a0 : Nat} {M : mM} {Q : Int → mM → Prop} (hO : mOk M)
    (h : mK M a0 = 5 ∧ i32 ((mI M a0 15) - 1) ∧ ∀ M3, M3 = mUI M a0 15 ((mI M a0 15) - 1) → mK M3 (mR M3 a0 13) = 30 ∧ ((0 : Int) ≤ mI M3 a0 15 ∧ mI M3 a0 15 < (mN M3 (mR M3 a0 13) : Int)) ∧ mK M3 (mR M3 a0 10) = 30 ∧ ((0 : Int) ≤ mI M3 (mR M3 a0 13) (Int.toNat (mI M3 a0 15)) ∧ mI M3 (mR M3 a0 13) (Int.toNat (mI M3 a0 15)) < (mN M3 (mR M3 a0 10) : Int)) ∧ ∀ M9, M9 = mUI M3 (mR M3 a0 10) (Int.toNat (mI M3 (mR M3 a0 13) (Int.toNat (mI M3 a0 15)))) (mI M3 a0 9) → mK M9 (mR M9 a0 6) = 30 ∧ ((0 : Int) ≤ (mI M9 a0 8) - 1 ∧ (mI M9 a0 8) - 1 < (mN M9 (mR M9 a0 6) : Int)) ∧ mK M9 (mR M9 a0 11) = 30 ∧ ((0 : Int) ≤ mI M3 (mR M3 a0 13) (Int.toNat (mI M3 a0 15)) ∧ mI M3 (mR M3 a0 13) (Int.toNat (mI M3 a0 15)) < (mN M9 (mR M9 a0 11) : Int)) ∧ ∀ M15, M15 = mUI M9 (mR M9 a0 11) (Int.toNat (mI M3 (mR M3 a0 13) (Int.toNat (mI M3 a0 15)))) (mI M9 (mR M9 a0 6) (Int.toNat ((mI M9 a0 8) - 1))) → mK M15 (mR M15 a0 7) = 30 ∧ ((0 : Int) ≤ (mI M15 a0 8) - 1 ∧ (mI M15 a0 8) - 1 < (mN M15 (mR M15 a0 7) : Int)) ∧ mK M15 (mR M15 a0 12) = 30 ∧ ((0 : Int) ≤ mI M3 (mR M3 a0 13) (Int.toNat (mI M3 a0 15)) ∧ mI M3 (mR M3 a0 13) (Int.toNat (mI M3 a0 15)) < (mN M15 (mR M15 a0 12) : Int)) ∧ ∀ M21, M21 = mUI M15 (mR M15 a0 12) (Int.toNat (mI M3 (mR M3 a0 13) (Int.toNat (mI M3 a0 15)))) (mI M15 (mR M15 a0 7) (Int.toNat ((mI M15 a0 8) - 1))) → mK M21 (mR M21 a0 14) = 30 ∧ ((0 : Int) ≤ mI M21 a0 15 ∧ mI M21 a0 15 < (mN M21 (mR M21 a0 14) : Int)) ∧ Q (mI M21 (mR M21 a0 14) (Int.toNat (mI M21 a0 15))) M21) :
    Ci G y_Ma_comeBack d [vr a0] M Q := by
  refine wm_open (y := y_Ma_comeBack) rfl (Nat.le_of_ble_eq_true rfl) (L := [vr a0, vd]) rfl ?_
  obtain ⟨h1, h⟩ := h
  obtain ⟨h2, h⟩ := h
  obtain ⟨M3, e4⟩ : ∃ M3, M3 = mUI M a0 15 ((mI M a0 15) - 1) := ⟨_, rfl⟩
  replace h := h M3 e4
  obtain ⟨h5, h⟩ := h
  obtain ⟨h6, h⟩ := h
  obtain ⟨h7, h⟩ := h
  obtain ⟨h8, h⟩ := h
  obtain ⟨M9, e10⟩ : ∃ M9, M9 = mUI M3 (mR M3 a0 10) (Int.toNat (mI M3 (mR M3 a0 13) (Int.toNat (mI M3 a0 15)))) (mI M3 a0 9) := ⟨_, rfl⟩
  replace h := h M9 e10
  obtain ⟨h11, h⟩ := h
  obtain ⟨h12, h⟩ := h
  obtain ⟨h13, h⟩ := h
  obtain ⟨h14, h⟩ := h
  obtain ⟨M15, e16⟩ : ∃ M15, M15 = mUI M9 (mR M9 a0 11) (Int.toNat (mI M3 (mR M3 a0 13) (Int.toNat (mI M3 a0 15)))) (mI M9 (mR M9 a0 6) (Int.toNat ((mI M9 a0 8) - 1))) := ⟨_, rfl⟩
  replace h := h M15 e16
  obtain ⟨h17, h⟩ := h
  obtain ⟨h18, h⟩ := h
  obtain ⟨h19, h⟩ := h
  obtain ⟨h20, h⟩ := h
  obtain ⟨M21, e22⟩ : ∃ M21, M21 = mUI M15 (mR M15 a0 12) (Int.toNat (mI M3 (mR M3 a0 13) (Int.toNat (mI M3 a0 15)))) (mI M15 (mR M15 a0 7) (Int.toNat ((mI M15 a0 8) - 1))) := ⟨_, rfl⟩
  replace h := h M21 e22
  obtain ⟨h23, h⟩ := h
  obtain ⟨h24, h⟩ := h
  refine wm_aload_n d_Ma_comeBack_0 rfl rfl ?_
  refine wm_dup d_Ma_comeBack_1 rfl ?_
  refine gf_Ma_55 rfl d_Ma_comeBack_2 h1 ?_
  refine wm_iconst d_Ma_comeBack_5 ?_
  refine wm_isub d_Ma_comeBack_6 ?_
  have hOM3 : mOk M3 := by rw [e4]; exact mOk_UI hO h2
  refine pf_Ma_55 rfl d_Ma_comeBack_7 h1 h2 e4 ?_
  refine wm_aload_n d_Ma_comeBack_10 rfl rfl ?_
  refine gf_Ma_37 rfl d_Ma_comeBack_11 (by rw [e4]; exact h1) ?_
  refine wm_aload_n d_Ma_comeBack_14 rfl rfl ?_
  refine gf_Ma_55 rfl d_Ma_comeBack_15 (by rw [e4]; exact h1) ?_
  refine wm_iald d_Ma_comeBack_18 h5 h6 ?_
  refine wm_istore_n d_Ma_comeBack_19 rfl (by decide) (L' := [vr a0, vi (mI M3 (mR M3 a0 13) (Int.toNat (mI M3 a0 15)))]) rfl ?_
  refine wm_aload_n d_Ma_comeBack_20 rfl rfl ?_
  refine gf_Ma_28 rfl d_Ma_comeBack_21 (by rw [e4]; exact h1) ?_
  refine wm_iload_n d_Ma_comeBack_24 rfl rfl ?_
  refine wm_aload_n d_Ma_comeBack_25 rfl rfl ?_
  refine gf_Ma_24 rfl d_Ma_comeBack_26 (by rw [e4]; exact h1) ?_
  have hOM9 : mOk M9 := by rw [e10]; exact mOk_UI hOM3 (hOM3 _ _).1
  refine wm_iastE d_Ma_comeBack_29 h7 h8 (hOM3 _ _).1 e10 ?_
  refine wm_aload_n d_Ma_comeBack_30 rfl rfl ?_
  refine gf_Ma_31 rfl d_Ma_comeBack_31 (by rw [e10, e4]; exact h1) ?_
  refine wm_iload_n d_Ma_comeBack_34 rfl rfl ?_
  refine wm_aload_n d_Ma_comeBack_35 rfl rfl ?_
  refine gf_Ma_18 rfl d_Ma_comeBack_36 (by rw [e10, e4]; exact h1) ?_
  refine wm_aload_n d_Ma_comeBack_39 rfl rfl ?_
  refine gf_Ma_52 rfl d_Ma_comeBack_40 (by rw [e10, e4]; exact h1) ?_
  refine wm_iconst d_Ma_comeBack_43 ?_
  refine wm_isub d_Ma_comeBack_44 ?_
  refine wm_iald d_Ma_comeBack_45 h11 h12 ?_
  have hOM15 : mOk M15 := by rw [e16]; exact mOk_UI hOM9 (hOM9 _ _).1
  refine wm_iastE d_Ma_comeBack_46 h13 h14 (hOM9 _ _).1 e16 ?_
  refine wm_aload_n d_Ma_comeBack_47 rfl rfl ?_
  refine gf_Ma_34 rfl d_Ma_comeBack_48 (by rw [e16, e10, e4]; exact h1) ?_
  refine wm_iload_n d_Ma_comeBack_51 rfl rfl ?_
  refine wm_aload_n d_Ma_comeBack_52 rfl rfl ?_
  refine gf_Ma_21 rfl d_Ma_comeBack_53 (by rw [e16, e10, e4]; exact h1) ?_
  refine wm_aload_n d_Ma_comeBack_56 rfl rfl ?_
  refine gf_Ma_52 rfl d_Ma_comeBack_57 (by rw [e16, e10, e4]; exact h1) ?_
  refine wm_iconst d_Ma_comeBack_60 ?_
  refine wm_isub d_Ma_comeBack_61 ?_
  refine wm_iald d_Ma_comeBack_62 h17 h18 ?_
  have hOM21 : mOk M21 := by rw [e22]; exact mOk_UI hOM15 (hOM15 _ _).1
  refine wm_iastE d_Ma_comeBack_63 h19 h20 (hOM15 _ _).1 e22 ?_
  refine wm_aload_n d_Ma_comeBack_64 rfl rfl ?_
  refine gf_Ma_40 rfl d_Ma_comeBack_65 (by rw [e22, e16, e10, e4]; exact h1) ?_
  refine wm_aload_n d_Ma_comeBack_68 rfl rfl ?_
  refine gf_Ma_55 rfl d_Ma_comeBack_69 (by rw [e22, e16, e10, e4]; exact h1) ?_
  refine wm_iald d_Ma_comeBack_72 h23 h24 ?_
  refine wm_ireturn d_Ma_comeBack_73 rfl rfl ?_
  exact ⟨_, rfl, h⟩
theorem d_Ma_compute_0 : decode y_Ma_compute.2.1 0 = .ok (.iload_n 1, 1) := dc9_27 (by decide +kernel)
theorem d_Ma_compute_1 : decode y_Ma_compute.2.1 1 = .ok (.tableswitch 95 40 43 #[31, 56, 95, 82], 31) := by decide +kernel
theorem d_Ma_compute_32 : decode y_Ma_compute.2.1 32 = .ok (.aload_n 0, 1) := dc9_42 (by decide +kernel)
theorem d_Ma_compute_33 : decode y_Ma_compute.2.1 33 = .ok (.getfield 18, 3) := dc9_180 (by decide +kernel)
theorem d_Ma_compute_36 : decode y_Ma_compute.2.1 36 = .ok (.aload_n 0, 1) := dc9_42 (by decide +kernel)
theorem d_Ma_compute_37 : decode y_Ma_compute.2.1 37 = .ok (.getfield 52, 3) := dc9_180 (by decide +kernel)
theorem d_Ma_compute_40 : decode y_Ma_compute.2.1 40 = .ok (.iconst 1, 1) := dc9_4 (by decide +kernel)
theorem d_Ma_compute_41 : decode y_Ma_compute.2.1 41 = .ok (.isub, 1) := dc9_100 (by decide +kernel)
theorem d_Ma_compute_42 : decode y_Ma_compute.2.1 42 = .ok (.aload_n 0, 1) := dc9_42 (by decide +kernel)
theorem d_Ma_compute_43 : decode y_Ma_compute.2.1 43 = .ok (.getfield 18, 3) := dc9_180 (by decide +kernel)
theorem d_Ma_compute_46 : decode y_Ma_compute.2.1 46 = .ok (.aload_n 0, 1) := dc9_42 (by decide +kernel)
theorem d_Ma_compute_47 : decode y_Ma_compute.2.1 47 = .ok (.getfield 52, 3) := dc9_180 (by decide +kernel)
theorem d_Ma_compute_50 : decode y_Ma_compute.2.1 50 = .ok (.iconst 1, 1) := dc9_4 (by decide +kernel)
theorem d_Ma_compute_51 : decode y_Ma_compute.2.1 51 = .ok (.isub, 1) := dc9_100 (by decide +kernel)
theorem d_Ma_compute_52 : decode y_Ma_compute.2.1 52 = .ok (.iaload, 1) := dc9_46 (by decide +kernel)
theorem d_Ma_compute_53 : decode y_Ma_compute.2.1 53 = .ok (.ineg, 1) := dc9_116 (by decide +kernel)
theorem d_Ma_compute_54 : decode y_Ma_compute.2.1 54 = .ok (.iastore, 1) := dc9_79 (by decide +kernel)
theorem d_Ma_compute_55 : decode y_Ma_compute.2.1 55 = .ok (.iconst 1, 1) := dc9_4 (by decide +kernel)
theorem d_Ma_compute_56 : decode y_Ma_compute.2.1 56 = .ok (.ireturn, 1) := dc9_172 (by decide +kernel)
theorem d_Ma_compute_57 : decode y_Ma_compute.2.1 57 = .ok (.aload_n 0, 1) := dc9_42 (by decide +kernel)
theorem d_Ma_compute_58 : decode y_Ma_compute.2.1 58 = .ok (.getfield 18, 3) := dc9_180 (by decide +kernel)
theorem d_Ma_compute_61 : decode y_Ma_compute.2.1 61 = .ok (.aload_n 0, 1) := dc9_42 (by decide +kernel)
theorem d_Ma_compute_62 : decode y_Ma_compute.2.1 62 = .ok (.getfield 52, 3) := dc9_180 (by decide +kernel)
theorem d_Ma_compute_65 : decode y_Ma_compute.2.1 65 = .ok (.iconst 1, 1) := dc9_4 (by decide +kernel)
theorem d_Ma_compute_66 : decode y_Ma_compute.2.1 66 = .ok (.isub, 1) := dc9_100 (by decide +kernel)
theorem d_Ma_compute_67 : decode y_Ma_compute.2.1 67 = .ok (.iconst 1, 1) := dc9_4 (by decide +kernel)
theorem d_Ma_compute_68 : decode y_Ma_compute.2.1 68 = .ok (.aload_n 0, 1) := dc9_42 (by decide +kernel)
theorem d_Ma_compute_69 : decode y_Ma_compute.2.1 69 = .ok (.getfield 18, 3) := dc9_180 (by decide +kernel)
theorem d_Ma_compute_72 : decode y_Ma_compute.2.1 72 = .ok (.aload_n 0, 1) := dc9_42 (by decide +kernel)
theorem d_Ma_compute_73 : decode y_Ma_compute.2.1 73 = .ok (.getfield 52, 3) := dc9_180 (by decide +kernel)
theorem d_Ma_compute_76 : decode y_Ma_compute.2.1 76 = .ok (.iconst 1, 1) := dc9_4 (by decide +kernel)
theorem d_Ma_compute_77 : decode y_Ma_compute.2.1 77 = .ok (.isub, 1) := dc9_100 (by decide +kernel)
theorem d_Ma_compute_78 : decode y_Ma_compute.2.1 78 = .ok (.iaload, 1) := dc9_46 (by decide +kernel)
theorem d_Ma_compute_79 : decode y_Ma_compute.2.1 79 = .ok (.isub, 1) := dc9_100 (by decide +kernel)
theorem d_Ma_compute_80 : decode y_Ma_compute.2.1 80 = .ok (.iastore, 1) := dc9_79 (by decide +kernel)
theorem d_Ma_compute_81 : decode y_Ma_compute.2.1 81 = .ok (.iconst 1, 1) := dc9_4 (by decide +kernel)
theorem d_Ma_compute_82 : decode y_Ma_compute.2.1 82 = .ok (.ireturn, 1) := dc9_172 (by decide +kernel)
theorem d_Ma_compute_83 : decode y_Ma_compute.2.1 83 = .ok (.aload_n 0, 1) := dc9_42 (by decide +kernel)
theorem d_Ma_compute_84 : decode y_Ma_compute.2.1 84 = .ok (.iload_n 2, 1) := dc9_28 (by decide +kernel)
theorem d_Ma_compute_85 : decode y_Ma_compute.2.1 85 = .ok (.bipush 16, 2) := dc9_16 (by decide +kernel)
theorem d_Ma_compute_87 : decode y_Ma_compute.2.1 87 = .ok (.idiv, 1) := dc9_108 (by decide +kernel)
theorem d_Ma_compute_88 : decode y_Ma_compute.2.1 88 = .ok (.iload_n 2, 1) := dc9_28 (by decide +kernel)
theorem d_Ma_compute_89 : decode y_Ma_compute.2.1 89 = .ok (.bipush 16, 2) := dc9_16 (by decide +kernel)
theorem d_Ma_compute_91 : decode y_Ma_compute.2.1 91 = .ok (.irem, 1) := dc9_112 (by decide +kernel)
theorem d_Ma_compute_92 : decode y_Ma_compute.2.1 92 = .ok (.invokevirtual 110, 3) := dc9_182 (by decide +kernel)
theorem d_Ma_compute_95 : decode y_Ma_compute.2.1 95 = .ok (.ireturn, 1) := dc9_172 (by decide +kernel)
theorem d_Ma_compute_96 : decode y_Ma_compute.2.1 96 = .ok (.aload_n 0, 1) := dc9_42 (by decide +kernel)
theorem d_Ma_compute_97 : decode y_Ma_compute.2.1 97 = .ok (.dup, 1) := dc9_89 (by decide +kernel)
theorem d_Ma_compute_98 : decode y_Ma_compute.2.1 98 = .ok (.getfield 52, 3) := dc9_180 (by decide +kernel)
theorem d_Ma_compute_101 : decode y_Ma_compute.2.1 101 = .ok (.iconst 1, 1) := dc9_4 (by decide +kernel)
theorem d_Ma_compute_102 : decode y_Ma_compute.2.1 102 = .ok (.isub, 1) := dc9_100 (by decide +kernel)
theorem d_Ma_compute_103 : decode y_Ma_compute.2.1 103 = .ok (.putfield 52, 3) := dc9_181 (by decide +kernel)
theorem d_Ma_compute_106 : decode y_Ma_compute.2.1 106 = .ok (.aload_n 0, 1) := dc9_42 (by decide +kernel)
theorem d_Ma_compute_107 : decode y_Ma_compute.2.1 107 = .ok (.getfield 18, 3) := dc9_180 (by decide +kernel)
theorem d_Ma_compute_110 : decode y_Ma_compute.2.1 110 = .ok (.aload_n 0, 1) := dc9_42 (by decide +kernel)
theorem d_Ma_compute_111 : decode y_Ma_compute.2.1 111 = .ok (.getfield 52, 3) := dc9_180 (by decide +kernel)
theorem d_Ma_compute_114 : decode y_Ma_compute.2.1 114 = .ok (.iconst 1, 1) := dc9_4 (by decide +kernel)
theorem d_Ma_compute_115 : decode y_Ma_compute.2.1 115 = .ok (.isub, 1) := dc9_100 (by decide +kernel)
theorem d_Ma_compute_116 : decode y_Ma_compute.2.1 116 = .ok (.iaload, 1) := dc9_46 (by decide +kernel)
theorem d_Ma_compute_117 : decode y_Ma_compute.2.1 117 = .ok (.i2l, 1) := dc9_133 (by decide +kernel)
theorem d_Ma_compute_118 : decode y_Ma_compute.2.1 118 = .ok (.lstore_n 3, 1) := dc9_66 (by decide +kernel)
theorem d_Ma_compute_119 : decode y_Ma_compute.2.1 119 = .ok (.aload_n 0, 1) := dc9_42 (by decide +kernel)
theorem d_Ma_compute_120 : decode y_Ma_compute.2.1 120 = .ok (.getfield 21, 3) := dc9_180 (by decide +kernel)
theorem d_Ma_compute_123 : decode y_Ma_compute.2.1 123 = .ok (.aload_n 0, 1) := dc9_42 (by decide +kernel)
theorem d_Ma_compute_124 : decode y_Ma_compute.2.1 124 = .ok (.getfield 52, 3) := dc9_180 (by decide +kernel)
theorem d_Ma_compute_127 : decode y_Ma_compute.2.1 127 = .ok (.iconst 1, 1) := dc9_4 (by decide +kernel)
theorem d_Ma_compute_128 : decode y_Ma_compute.2.1 128 = .ok (.isub, 1) := dc9_100 (by decide +kernel)
theorem d_Ma_compute_129 : decode y_Ma_compute.2.1 129 = .ok (.iaload, 1) := dc9_46 (by decide +kernel)
theorem d_Ma_compute_130 : decode y_Ma_compute.2.1 130 = .ok (.i2l, 1) := dc9_133 (by decide +kernel)
theorem d_Ma_compute_131 : decode y_Ma_compute.2.1 131 = .ok (.lstore 5, 2) := dc9_55 (by decide +kernel)
theorem d_Ma_compute_133 : decode y_Ma_compute.2.1 133 = .ok (.aload_n 0, 1) := dc9_42 (by decide +kernel)
theorem d_Ma_compute_134 : decode y_Ma_compute.2.1 134 = .ok (.getfield 18, 3) := dc9_180 (by decide +kernel)
theorem d_Ma_compute_137 : decode y_Ma_compute.2.1 137 = .ok (.aload_n 0, 1) := dc9_42 (by decide +kernel)
theorem d_Ma_compute_138 : decode y_Ma_compute.2.1 138 = .ok (.getfield 52, 3) := dc9_180 (by decide +kernel)
theorem d_Ma_compute_141 : decode y_Ma_compute.2.1 141 = .ok (.iaload, 1) := dc9_46 (by decide +kernel)
theorem d_Ma_compute_142 : decode y_Ma_compute.2.1 142 = .ok (.i2l, 1) := dc9_133 (by decide +kernel)
theorem d_Ma_compute_143 : decode y_Ma_compute.2.1 143 = .ok (.lstore 7, 2) := dc9_55 (by decide +kernel)
theorem d_Ma_compute_145 : decode y_Ma_compute.2.1 145 = .ok (.aload_n 0, 1) := dc9_42 (by decide +kernel)
theorem d_Ma_compute_146 : decode y_Ma_compute.2.1 146 = .ok (.getfield 21, 3) := dc9_180 (by decide +kernel)
theorem d_Ma_compute_149 : decode y_Ma_compute.2.1 149 = .ok (.aload_n 0, 1) := dc9_42 (by decide +kernel)
theorem d_Ma_compute_150 : decode y_Ma_compute.2.1 150 = .ok (.getfield 52, 3) := dc9_180 (by decide +kernel)
theorem d_Ma_compute_153 : decode y_Ma_compute.2.1 153 = .ok (.iaload, 1) := dc9_46 (by decide +kernel)
theorem d_Ma_compute_154 : decode y_Ma_compute.2.1 154 = .ok (.i2l, 1) := dc9_133 (by decide +kernel)
theorem d_Ma_compute_155 : decode y_Ma_compute.2.1 155 = .ok (.lstore 9, 2) := dc9_55 (by decide +kernel)
theorem d_Ma_compute_157 : decode y_Ma_compute.2.1 157 = .ok (.iload_n 1, 1) := dc9_27 (by decide +kernel)
theorem d_Ma_compute_158 : decode y_Ma_compute.2.1 158 = .ok (.tableswitch 199 25 29 #[34, 55, 76, 91, 147], 34) := by decide +kernel
theorem d_Ma_compute_192 : decode y_Ma_compute.2.1 192 = .ok (.aload_n 0, 1) := dc9_42 (by decide +kernel)
theorem d_Ma_compute_193 : decode y_Ma_compute.2.1 193 = .ok (.lload_n 3, 1) := dc9_33 (by decide +kernel)
theorem d_Ma_compute_194 : decode y_Ma_compute.2.1 194 = .ok (.lload 9, 2) := dc9_22 (by decide +kernel)
theorem d_Ma_compute_196 : decode y_Ma_compute.2.1 196 = .ok (.lmul, 1) := dc9_105 (by decide +kernel)
theorem d_Ma_compute_197 : decode y_Ma_compute.2.1 197 = .ok (.lload 7, 2) := dc9_22 (by decide +kernel)
theorem d_Ma_compute_199 : decode y_Ma_compute.2.1 199 = .ok (.lload 5, 2) := dc9_22 (by decide +kernel)
theorem d_Ma_compute_201 : decode y_Ma_compute.2.1 201 = .ok (.lmul, 1) := dc9_105 (by decide +kernel)
theorem d_Ma_compute_202 : decode y_Ma_compute.2.1 202 = .ok (.ladd, 1) := dc9_97 (by decide +kernel)
theorem d_Ma_compute_203 : decode y_Ma_compute.2.1 203 = .ok (.lload 5, 2) := dc9_22 (by decide +kernel)
theorem d_Ma_compute_205 : decode y_Ma_compute.2.1 205 = .ok (.lload 9, 2) := dc9_22 (by decide +kernel)
theorem d_Ma_compute_207 : decode y_Ma_compute.2.1 207 = .ok (.lmul, 1) := dc9_105 (by decide +kernel)
theorem d_Ma_compute_208 : decode y_Ma_compute.2.1 208 = .ok (.iload_n 2, 1) := dc9_28 (by decide +kernel)
theorem d_Ma_compute_209 : decode y_Ma_compute.2.1 209 = .ok (.invokevirtual 113, 3) := dc9_182 (by decide +kernel)
theorem d_Ma_compute_212 : decode y_Ma_compute.2.1 212 = .ok (.ireturn, 1) := dc9_172 (by decide +kernel)
theorem d_Ma_compute_213 : decode y_Ma_compute.2.1 213 = .ok (.aload_n 0, 1) := dc9_42 (by decide +kernel)
theorem d_Ma_compute_214 : decode y_Ma_compute.2.1 214 = .ok (.lload_n 3, 1) := dc9_33 (by decide +kernel)
theorem d_Ma_compute_215 : decode y_Ma_compute.2.1 215 = .ok (.lload 9, 2) := dc9_22 (by decide +kernel)
theorem d_Ma_compute_217 : decode y_Ma_compute.2.1 217 = .ok (.lmul, 1) := dc9_105 (by decide +kernel)
theorem d_Ma_compute_218 : decode y_Ma_compute.2.1 218 = .ok (.lload 7, 2) := dc9_22 (by decide +kernel)
theorem d_Ma_compute_220 : decode y_Ma_compute.2.1 220 = .ok (.lload 5, 2) := dc9_22 (by decide +kernel)
theorem d_Ma_compute_222 : decode y_Ma_compute.2.1 222 = .ok (.lmul, 1) := dc9_105 (by decide +kernel)
theorem d_Ma_compute_223 : decode y_Ma_compute.2.1 223 = .ok (.lsub, 1) := dc9_101 (by decide +kernel)
theorem d_Ma_compute_224 : decode y_Ma_compute.2.1 224 = .ok (.lload 5, 2) := dc9_22 (by decide +kernel)
theorem d_Ma_compute_226 : decode y_Ma_compute.2.1 226 = .ok (.lload 9, 2) := dc9_22 (by decide +kernel)
theorem d_Ma_compute_228 : decode y_Ma_compute.2.1 228 = .ok (.lmul, 1) := dc9_105 (by decide +kernel)
theorem d_Ma_compute_229 : decode y_Ma_compute.2.1 229 = .ok (.iload_n 2, 1) := dc9_28 (by decide +kernel)
theorem d_Ma_compute_230 : decode y_Ma_compute.2.1 230 = .ok (.invokevirtual 113, 3) := dc9_182 (by decide +kernel)
theorem d_Ma_compute_233 : decode y_Ma_compute.2.1 233 = .ok (.ireturn, 1) := dc9_172 (by decide +kernel)
theorem d_Ma_compute_234 : decode y_Ma_compute.2.1 234 = .ok (.aload_n 0, 1) := dc9_42 (by decide +kernel)
theorem d_Ma_compute_235 : decode y_Ma_compute.2.1 235 = .ok (.lload_n 3, 1) := dc9_33 (by decide +kernel)
theorem d_Ma_compute_236 : decode y_Ma_compute.2.1 236 = .ok (.lload 7, 2) := dc9_22 (by decide +kernel)
theorem d_Ma_compute_238 : decode y_Ma_compute.2.1 238 = .ok (.lmul, 1) := dc9_105 (by decide +kernel)
theorem d_Ma_compute_239 : decode y_Ma_compute.2.1 239 = .ok (.lload 5, 2) := dc9_22 (by decide +kernel)
theorem d_Ma_compute_241 : decode y_Ma_compute.2.1 241 = .ok (.lload 9, 2) := dc9_22 (by decide +kernel)
theorem d_Ma_compute_243 : decode y_Ma_compute.2.1 243 = .ok (.lmul, 1) := dc9_105 (by decide +kernel)
theorem d_Ma_compute_244 : decode y_Ma_compute.2.1 244 = .ok (.iload_n 2, 1) := dc9_28 (by decide +kernel)
theorem d_Ma_compute_245 : decode y_Ma_compute.2.1 245 = .ok (.invokevirtual 113, 3) := dc9_182 (by decide +kernel)
theorem d_Ma_compute_248 : decode y_Ma_compute.2.1 248 = .ok (.ireturn, 1) := dc9_172 (by decide +kernel)
theorem d_Ma_compute_249 : decode y_Ma_compute.2.1 249 = .ok (.lload 7, 2) := dc9_22 (by decide +kernel)
theorem d_Ma_compute_251 : decode y_Ma_compute.2.1 251 = .ok (.lconst 0, 1) := dc9_9 (by decide +kernel)
theorem d_Ma_compute_252 : decode y_Ma_compute.2.1 252 = .ok (.lcmp, 1) := dc9_148 (by decide +kernel)
theorem d_Ma_compute_253 : decode y_Ma_compute.2.1 253 = .ok (.ifCond .ne 11, 3) := dc9_154 (by decide +kernel)
theorem d_Ma_compute_256 : decode y_Ma_compute.2.1 256 = .ok (.aload_n 0, 1) := dc9_42 (by decide +kernel)
theorem d_Ma_compute_257 : decode y_Ma_compute.2.1 257 = .ok (.bipush 7, 2) := dc9_16 (by decide +kernel)
theorem d_Ma_compute_259 : decode y_Ma_compute.2.1 259 = .ok (.iload_n 2, 1) := dc9_28 (by decide +kernel)
theorem d_Ma_compute_264 : decode y_Ma_compute.2.1 264 = .ok (.lload 7, 2) := dc9_22 (by decide +kernel)
theorem d_Ma_compute_266 : decode y_Ma_compute.2.1 266 = .ok (.lconst 0, 1) := dc9_9 (by decide +kernel)
theorem d_Ma_compute_267 : decode y_Ma_compute.2.1 267 = .ok (.lcmp, 1) := dc9_148 (by decide +kernel)
theorem d_Ma_compute_268 : decode y_Ma_compute.2.1 268 = .ok (.ifCond .le 20, 3) := dc9_158 (by decide +kernel)
theorem d_Ma_compute_288 : decode y_Ma_compute.2.1 288 = .ok (.aload_n 0, 1) := dc9_42 (by decide +kernel)
theorem d_Ma_compute_289 : decode y_Ma_compute.2.1 289 = .ok (.lload_n 3, 1) := dc9_33 (by decide +kernel)
theorem d_Ma_compute_290 : decode y_Ma_compute.2.1 290 = .ok (.lneg, 1) := dc9_117 (by decide +kernel)
theorem d_Ma_compute_291 : decode y_Ma_compute.2.1 291 = .ok (.lload 9, 2) := dc9_22 (by decide +kernel)
theorem d_Ma_compute_293 : decode y_Ma_compute.2.1 293 = .ok (.lmul, 1) := dc9_105 (by decide +kernel)
theorem d_Ma_compute_294 : decode y_Ma_compute.2.1 294 = .ok (.lload 5, 2) := dc9_22 (by decide +kernel)
theorem d_Ma_compute_296 : decode y_Ma_compute.2.1 296 = .ok (.lneg, 1) := dc9_117 (by decide +kernel)
theorem d_Ma_compute_297 : decode y_Ma_compute.2.1 297 = .ok (.lload 7, 2) := dc9_22 (by decide +kernel)
theorem d_Ma_compute_299 : decode y_Ma_compute.2.1 299 = .ok (.lmul, 1) := dc9_105 (by decide +kernel)
theorem d_Ma_compute_300 : decode y_Ma_compute.2.1 300 = .ok (.iload_n 2, 1) := dc9_28 (by decide +kernel)
theorem d_Ma_compute_271 : decode y_Ma_compute.2.1 271 = .ok (.aload_n 0, 1) := dc9_42 (by decide +kernel)
theorem d_Ma_compute_272 : decode y_Ma_compute.2.1 272 = .ok (.lload_n 3, 1) := dc9_33 (by decide +kernel)
theorem d_Ma_compute_273 : decode y_Ma_compute.2.1 273 = .ok (.lload 9, 2) := dc9_22 (by decide +kernel)
theorem d_Ma_compute_275 : decode y_Ma_compute.2.1 275 = .ok (.lmul, 1) := dc9_105 (by decide +kernel)
theorem d_Ma_compute_276 : decode y_Ma_compute.2.1 276 = .ok (.lload 5, 2) := dc9_22 (by decide +kernel)
theorem d_Ma_compute_278 : decode y_Ma_compute.2.1 278 = .ok (.lload 7, 2) := dc9_22 (by decide +kernel)
theorem d_Ma_compute_280 : decode y_Ma_compute.2.1 280 = .ok (.lmul, 1) := dc9_105 (by decide +kernel)
theorem d_Ma_compute_281 : decode y_Ma_compute.2.1 281 = .ok (.iload_n 2, 1) := dc9_28 (by decide +kernel)
theorem d_Ma_compute_260 : decode y_Ma_compute.2.1 260 = .ok (.invokevirtual 92, 3) := dc9_182 (by decide +kernel)
theorem d_Ma_compute_263 : decode y_Ma_compute.2.1 263 = .ok (.ireturn, 1) := dc9_172 (by decide +kernel)
theorem d_Ma_compute_301 : decode y_Ma_compute.2.1 301 = .ok (.invokevirtual 113, 3) := dc9_182 (by decide +kernel)
theorem d_Ma_compute_282 : decode y_Ma_compute.2.1 282 = .ok (.invokevirtual 113, 3) := dc9_182 (by decide +kernel)
theorem d_Ma_compute_285 : decode y_Ma_compute.2.1 285 = .ok (.goto 19, 3) := dc9_167 (by decide +kernel)
theorem d_Ma_compute_305 : decode y_Ma_compute.2.1 305 = .ok (.lload 5, 2) := dc9_22 (by decide +kernel)
theorem d_Ma_compute_307 : decode y_Ma_compute.2.1 307 = .ok (.lconst 1, 1) := dc9_10 (by decide +kernel)
theorem d_Ma_compute_308 : decode y_Ma_compute.2.1 308 = .ok (.lcmp, 1) := dc9_148 (by decide +kernel)
theorem d_Ma_compute_309 : decode y_Ma_compute.2.1 309 = .ok (.ifCond .ne 10, 3) := dc9_154 (by decide +kernel)
theorem d_Ma_compute_312 : decode y_Ma_compute.2.1 312 = .ok (.lload 9, 2) := dc9_22 (by decide +kernel)
theorem d_Ma_compute_314 : decode y_Ma_compute.2.1 314 = .ok (.lconst 1, 1) := dc9_10 (by decide +kernel)
theorem d_Ma_compute_315 : decode y_Ma_compute.2.1 315 = .ok (.lcmp, 1) := dc9_148 (by decide +kernel)
theorem d_Ma_compute_316 : decode y_Ma_compute.2.1 316 = .ok (.ifCond .eq 11, 3) := dc9_153 (by decide +kernel)
theorem d_Ma_compute_327 : decode y_Ma_compute.2.1 327 = .ok (.lload 7, 2) := dc9_22 (by decide +kernel)
theorem d_Ma_compute_329 : decode y_Ma_compute.2.1 329 = .ok (.lconst 0, 1) := dc9_9 (by decide +kernel)
theorem d_Ma_compute_330 : decode y_Ma_compute.2.1 330 = .ok (.lcmp, 1) := dc9_148 (by decide +kernel)
theorem d_Ma_compute_331 : decode y_Ma_compute.2.1 331 = .ok (.ifCond .gt 13, 3) := dc9_157 (by decide +kernel)
theorem d_Ma_compute_344 : decode y_Ma_compute.2.1 344 = .ok (.aload_n 0, 1) := dc9_42 (by decide +kernel)
theorem d_Ma_compute_345 : decode y_Ma_compute.2.1 345 = .ok (.lload_n 3, 1) := dc9_33 (by decide +kernel)
theorem d_Ma_compute_346 : decode y_Ma_compute.2.1 346 = .ok (.lload 7, 2) := dc9_22 (by decide +kernel)
theorem d_Ma_compute_334 : decode y_Ma_compute.2.1 334 = .ok (.aload_n 0, 1) := dc9_42 (by decide +kernel)
theorem d_Ma_compute_335 : decode y_Ma_compute.2.1 335 = .ok (.bipush 7, 2) := dc9_16 (by decide +kernel)
theorem d_Ma_compute_337 : decode y_Ma_compute.2.1 337 = .ok (.iload_n 2, 1) := dc9_28 (by decide +kernel)
theorem d_Ma_compute_348 : decode y_Ma_compute.2.1 348 = .ok (.invokestatic 117, 3) := dc9_184 (by decide +kernel)
theorem d_Ma_compute_351 : decode y_Ma_compute.2.1 351 = .ok (.lconst 1, 1) := dc9_10 (by decide +kernel)
theorem d_Ma_compute_352 : decode y_Ma_compute.2.1 352 = .ok (.iload_n 2, 1) := dc9_28 (by decide +kernel)
theorem d_Ma_compute_353 : decode y_Ma_compute.2.1 353 = .ok (.invokevirtual 113, 3) := dc9_182 (by decide +kernel)
theorem d_Ma_compute_338 : decode y_Ma_compute.2.1 338 = .ok (.invokevirtual 92, 3) := dc9_182 (by decide +kernel)
theorem d_Ma_compute_341 : decode y_Ma_compute.2.1 341 = .ok (.goto 15, 3) := dc9_167 (by decide +kernel)
theorem d_Ma_compute_319 : decode y_Ma_compute.2.1 319 = .ok (.aload_n 0, 1) := dc9_42 (by decide +kernel)
theorem d_Ma_compute_320 : decode y_Ma_compute.2.1 320 = .ok (.bipush 8, 2) := dc9_16 (by decide +kernel)
theorem d_Ma_compute_322 : decode y_Ma_compute.2.1 322 = .ok (.iload_n 2, 1) := dc9_28 (by decide +kernel)
theorem d_Ma_compute_323 : decode y_Ma_compute.2.1 323 = .ok (.invokevirtual 92, 3) := dc9_182 (by decide +kernel)
theorem d_Ma_compute_326 : decode y_Ma_compute.2.1 326 = .ok (.ireturn, 1) := dc9_172 (by decide +kernel)
theorem d_Ma_compute_357 : decode y_Ma_compute.2.1 357 = .ok (.aload_n 0, 1) := dc9_42 (by decide +kernel)
theorem d_Ma_compute_358 : decode y_Ma_compute.2.1 358 = .ok (.iload_n 1, 1) := dc9_27 (by decide +kernel)
theorem d_Ma_compute_359 : decode y_Ma_compute.2.1 359 = .ok (.lload_n 3, 1) := dc9_33 (by decide +kernel)
theorem d_Ma_compute_360 : decode y_Ma_compute.2.1 360 = .ok (.lload 9, 2) := dc9_22 (by decide +kernel)
theorem d_Ma_compute_362 : decode y_Ma_compute.2.1 362 = .ok (.lmul, 1) := dc9_105 (by decide +kernel)
theorem d_Ma_compute_363 : decode y_Ma_compute.2.1 363 = .ok (.lload 7, 2) := dc9_22 (by decide +kernel)
theorem d_Ma_compute_365 : decode y_Ma_compute.2.1 365 = .ok (.lload 5, 2) := dc9_22 (by decide +kernel)
theorem d_Ma_compute_367 : decode y_Ma_compute.2.1 367 = .ok (.lmul, 1) := dc9_105 (by decide +kernel)
theorem d_Ma_compute_368 : decode y_Ma_compute.2.1 368 = .ok (.invokestatic 123, 3) := dc9_184 (by decide +kernel)
theorem d_Ma_compute_371 : decode y_Ma_compute.2.1 371 = .ok (.invokevirtual 129, 3) := dc9_182 (by decide +kernel)
theorem d_Ma_compute_374 : decode y_Ma_compute.2.1 374 = .ok (.ireturn, 1) := dc9_172 (by decide +kernel)
theorem d_Ma_compute_304 : decode y_Ma_compute.2.1 304 = .ok (.ireturn, 1) := dc9_172 (by decide +kernel)
theorem d_Ma_compute_356 : decode y_Ma_compute.2.1 356 = .ok (.ireturn, 1) := dc9_172 (by decide +kernel)
def h_Ma_compute_304 (G : mG) (d : Nat) (k0 : Int) (M : mM) (Q : Int → mM → Prop) : Prop := mWm G y_Ma_compute (d + 1) 304 [vd, vd, vd, vd, vd, vd, vd, vd, vd, vd, vd] [vi k0] M (fun r9 M9 => ∃ x9, r9 = some (vi x9) ∧ Q x9 M9)
def h_Ma_compute_356 (G : mG) (d : Nat) (k0 : Int) (M : mM) (Q : Int → mM → Prop) : Prop := mWm G y_Ma_compute (d + 1) 356 [vd, vd, vd, vd, vd, vd, vd, vd, vd, vd, vd] [vi k0] M (fun r9 M9 => ∃ x9, r9 = some (vi x9) ∧ Q x9 M9)
theorem k_Ma_compute_304 {G : mG} {d : Nat} {k0 : Int} {M : mM} {Q : Int → mM → Prop} (hO : mOk M) (hi_k0 : i32 k0)
    (h : (k0 = 0 ∨ k0 = 1) ∧ Q k0 M) :
    h_Ma_compute_304 G d k0 M Q := by
  unfold h_Ma_compute_304
  obtain ⟨h102, h⟩ := h
  refine wm_ireturn d_Ma_compute_304 rfl (m_nb h102) ?_
  exact ⟨_, rfl, h⟩
theorem k_Ma_compute_356 {G : mG} {d : Nat} {k0 : Int} {M : mM} {Q : Int → mM → Prop} (hO : mOk M) (hi_k0 : i32 k0)
    (h : (k0 = 0 ∨ k0 = 1) ∧ Q k0 M) :
    h_Ma_compute_356 G d k0 M Q := by
  unfold h_Ma_compute_356
  obtain ⟨h103, h⟩ := h
  refine wm_ireturn d_Ma_compute_356 rfl (m_nb h103) ?_
  exact ⟨_, rfl, h⟩
theorem d_Ma_store_0 : decode y_Ma_store.2.1 0 = .ok (.aload_n 0, 1) := dc9_42 (by decide +kernel)
theorem d_Ma_store_1 : decode y_Ma_store.2.1 1 = .ok (.dup, 1) := dc9_89 (by decide +kernel)
theorem d_Ma_store_2 : decode y_Ma_store.2.1 2 = .ok (.getfield 52, 3) := dc9_180 (by decide +kernel)
theorem d_Ma_store_5 : decode y_Ma_store.2.1 5 = .ok (.iconst 1, 1) := dc9_4 (by decide +kernel)
theorem d_Ma_store_6 : decode y_Ma_store.2.1 6 = .ok (.isub, 1) := dc9_100 (by decide +kernel)
theorem d_Ma_store_7 : decode y_Ma_store.2.1 7 = .ok (.putfield 52, 3) := dc9_181 (by decide +kernel)
theorem d_Ma_store_10 : decode y_Ma_store.2.1 10 = .ok (.aload_n 0, 1) := dc9_42 (by decide +kernel)
theorem d_Ma_store_11 : decode y_Ma_store.2.1 11 = .ok (.getfield 21, 3) := dc9_180 (by decide +kernel)
theorem d_Ma_store_14 : decode y_Ma_store.2.1 14 = .ok (.aload_n 0, 1) := dc9_42 (by decide +kernel)
theorem d_Ma_store_15 : decode y_Ma_store.2.1 15 = .ok (.getfield 52, 3) := dc9_180 (by decide +kernel)
theorem d_Ma_store_18 : decode y_Ma_store.2.1 18 = .ok (.iaload, 1) := dc9_46 (by decide +kernel)
theorem d_Ma_store_19 : decode y_Ma_store.2.1 19 = .ok (.iconst 1, 1) := dc9_4 (by decide +kernel)
theorem d_Ma_store_20 : decode y_Ma_store.2.1 20 = .ok (.if_icmp .eq 11, 3) := dc9_159 (by decide +kernel)
theorem d_Ma_store_31 : decode y_Ma_store.2.1 31 = .ok (.aload_n 0, 1) := dc9_42 (by decide +kernel)
theorem d_Ma_store_32 : decode y_Ma_store.2.1 32 = .ok (.getfield 18, 3) := dc9_180 (by decide +kernel)
theorem d_Ma_store_35 : decode y_Ma_store.2.1 35 = .ok (.aload_n 0, 1) := dc9_42 (by decide +kernel)
theorem d_Ma_store_36 : decode y_Ma_store.2.1 36 = .ok (.getfield 52, 3) := dc9_180 (by decide +kernel)
theorem d_Ma_store_39 : decode y_Ma_store.2.1 39 = .ok (.iaload, 1) := dc9_46 (by decide +kernel)
theorem d_Ma_store_40 : decode y_Ma_store.2.1 40 = .ok (.aload_n 0, 1) := dc9_42 (by decide +kernel)
theorem d_Ma_store_41 : decode y_Ma_store.2.1 41 = .ok (.getfield 59, 3) := dc9_180 (by decide +kernel)
theorem d_Ma_store_44 : decode y_Ma_store.2.1 44 = .ok (.getfield 132, 3) := dc9_180 (by decide +kernel)
theorem d_Ma_store_47 : decode y_Ma_store.2.1 47 = .ok (.iload_n 2, 1) := dc9_28 (by decide +kernel)
theorem d_Ma_store_48 : decode y_Ma_store.2.1 48 = .ok (.iaload, 1) := dc9_46 (by decide +kernel)
theorem d_Ma_store_23 : decode y_Ma_store.2.1 23 = .ok (.aload_n 0, 1) := dc9_42 (by decide +kernel)
theorem d_Ma_store_24 : decode y_Ma_store.2.1 24 = .ok (.bipush 8, 2) := dc9_16 (by decide +kernel)
theorem d_Ma_store_26 : decode y_Ma_store.2.1 26 = .ok (.iload_n 1, 1) := dc9_27 (by decide +kernel)
theorem d_Ma_store_49 : decode y_Ma_store.2.1 49 = .ok (.if_icmp .lt 24, 3) := dc9_161 (by decide +kernel)
theorem d_Ma_store_52 : decode y_Ma_store.2.1 52 = .ok (.aload_n 0, 1) := dc9_42 (by decide +kernel)
theorem d_Ma_store_53 : decode y_Ma_store.2.1 53 = .ok (.getfield 18, 3) := dc9_180 (by decide +kernel)
theorem d_Ma_store_56 : decode y_Ma_store.2.1 56 = .ok (.aload_n 0, 1) := dc9_42 (by decide +kernel)
theorem d_Ma_store_57 : decode y_Ma_store.2.1 57 = .ok (.getfield 52, 3) := dc9_180 (by decide +kernel)
theorem d_Ma_store_60 : decode y_Ma_store.2.1 60 = .ok (.iaload, 1) := dc9_46 (by decide +kernel)
theorem d_Ma_store_61 : decode y_Ma_store.2.1 61 = .ok (.aload_n 0, 1) := dc9_42 (by decide +kernel)
theorem d_Ma_store_62 : decode y_Ma_store.2.1 62 = .ok (.getfield 59, 3) := dc9_180 (by decide +kernel)
theorem d_Ma_store_65 : decode y_Ma_store.2.1 65 = .ok (.getfield 135, 3) := dc9_180 (by decide +kernel)
theorem d_Ma_store_68 : decode y_Ma_store.2.1 68 = .ok (.iload_n 2, 1) := dc9_28 (by decide +kernel)
theorem d_Ma_store_69 : decode y_Ma_store.2.1 69 = .ok (.iaload, 1) := dc9_46 (by decide +kernel)
theorem d_Ma_store_70 : decode y_Ma_store.2.1 70 = .ok (.if_icmp .le 11, 3) := dc9_164 (by decide +kernel)
theorem d_Ma_store_81 : decode y_Ma_store.2.1 81 = .ok (.aload_n 0, 1) := dc9_42 (by decide +kernel)
theorem d_Ma_store_82 : decode y_Ma_store.2.1 82 = .ok (.getfield 15, 3) := dc9_180 (by decide +kernel)
theorem d_Ma_store_85 : decode y_Ma_store.2.1 85 = .ok (.iload_n 2, 1) := dc9_28 (by decide +kernel)
theorem d_Ma_store_86 : decode y_Ma_store.2.1 86 = .ok (.aload_n 0, 1) := dc9_42 (by decide +kernel)
theorem d_Ma_store_87 : decode y_Ma_store.2.1 87 = .ok (.getfield 18, 3) := dc9_180 (by decide +kernel)
theorem d_Ma_store_90 : decode y_Ma_store.2.1 90 = .ok (.aload_n 0, 1) := dc9_42 (by decide +kernel)
theorem d_Ma_store_91 : decode y_Ma_store.2.1 91 = .ok (.getfield 52, 3) := dc9_180 (by decide +kernel)
theorem d_Ma_store_94 : decode y_Ma_store.2.1 94 = .ok (.iaload, 1) := dc9_46 (by decide +kernel)
theorem d_Ma_store_95 : decode y_Ma_store.2.1 95 = .ok (.iastore, 1) := dc9_79 (by decide +kernel)
theorem d_Ma_store_96 : decode y_Ma_store.2.1 96 = .ok (.iconst 1, 1) := dc9_4 (by decide +kernel)
theorem d_Ma_store_97 : decode y_Ma_store.2.1 97 = .ok (.ireturn, 1) := dc9_172 (by decide +kernel)
theorem d_Ma_store_73 : decode y_Ma_store.2.1 73 = .ok (.aload_n 0, 1) := dc9_42 (by decide +kernel)
theorem d_Ma_store_74 : decode y_Ma_store.2.1 74 = .ok (.bipush 12, 2) := dc9_16 (by decide +kernel)
theorem d_Ma_store_76 : decode y_Ma_store.2.1 76 = .ok (.iload_n 1, 1) := dc9_27 (by decide +kernel)
theorem d_Ma_store_77 : decode y_Ma_store.2.1 77 = .ok (.invokevirtual 92, 3) := dc9_182 (by decide +kernel)
theorem d_Ma_store_80 : decode y_Ma_store.2.1 80 = .ok (.ireturn, 1) := dc9_172 (by decide +kernel)
theorem d_Ma_store_27 : decode y_Ma_store.2.1 27 = .ok (.invokevirtual 92, 3) := dc9_182 (by decide +kernel)
theorem d_Ma_store_30 : decode y_Ma_store.2.1 30 = .ok (.ireturn, 1) := dc9_172 (by decide +kernel)
theorem k_Ma_store {G : mG} {d : Nat} {a0 : Nat} {l1 : Int} {l2 : Int} {M : mM} {Q : Int → mM → Prop} (hO : mOk M) (hi_l1 : i32 l1) (hi_l2 : i32 l2)
    (h : mK M a0 = 5 ∧ i32 ((mI M a0 8) - 1) ∧ ∀ M3, M3 = mUI M a0 8 ((mI M a0 8) - 1) → mK M3 (mR M3 a0 7) = 30 ∧ ((0 : Int) ≤ mI M3 a0 8 ∧ mI M3 a0 8 < (mN M3 (mR M3 a0 7) : Int)) ∧ ((mI M3 (mR M3 a0 7) (Int.toNat (mI M3 a0 8)) = 1) → (mK M3 (mR M3 a0 6) = 30 ∧ ((0 : Int) ≤ mI M3 a0 8 ∧ mI M3 a0 8 < (mN M3 (mR M3 a0 6) : Int)) ∧ mK M3 (mR M3 a0 0) = 6 ∧ mK M3 (mR M3 (mR M3 a0 0) 4) = 30 ∧ ((0 : Int) ≤ l2 ∧ l2 < (mN M3 (mR M3 (mR M3 a0 0) 4) : Int)) ∧ (¬ (mI M3 (mR M3 a0 6) (Int.toNat (mI M3 a0 8)) < mI M3 (mR M3 (mR M3 a0 0) 4) (Int.toNat l2)) → (((0 : Int) ≤ mI M3 a0 8 ∧ mI M3 a0 8 < (mN M3 (mR M3 a0 6) : Int)) ∧ mK M3 (mR M3 (mR M3 a0 0) 5) = 30 ∧ ((0 : Int) ≤ l2 ∧ l2 < (mN M3 (mR M3 (mR M3 a0 0) 5) : Int)))) ∧ (((mI M3 (mR M3 a0 6) (Int.toNat (mI M3 a0 8)) < mI M3 (mR M3 (mR M3 a0 0) 4) (Int.toNat l2)) ∨ (¬ (mI M3 (mR M3 a0 6) (Int.toNat (mI M3 a0 8)) ≤ mI M3 (mR M3 (mR M3 a0 0) 5) (Int.toNat l2)))) → (Ci G y_Ma_stop d [vr a0, vi 12, vi l1] M3 (fun x38 M37 => i32 x38 ∧ mOk M37 ∧ ((x38 = 0 ∨ x38 = 1) ∧ Q x38 M37)))) ∧ (¬ ((mI M3 (mR M3 a0 6) (Int.toNat (mI M3 a0 8)) < mI M3 (mR M3 (mR M3 a0 0) 4) (Int.toNat l2)) ∨ (¬ (mI M3 (mR M3 a0 6) (Int.toNat (mI M3 a0 8)) ≤ mI M3 (mR M3 (mR M3 a0 0) 5) (Int.toNat l2)))) → (((0 : Int) ≤ mI M3 a0 8 ∧ mI M3 a0 8 < (mN M3 (mR M3 a0 6) : Int)) ∧ mK M3 (mR M3 a0 5) = 30 ∧ ((0 : Int) ≤ l2 ∧ l2 < (mN M3 (mR M3 a0 5) : Int)) ∧ ∀ M45, M45 = mUI M3 (mR M3 a0 5) (Int.toNat l2) (mI M3 (mR M3 a0 6) (Int.toNat (mI M3 a0 8))) → Q 1 M45)))) ∧ (¬ (mI M3 (mR M3 a0 7) (Int.toNat (mI M3 a0 8)) = 1) → (Ci G y_Ma_stop d [vr a0, vi 8, vi l1] M3 (fun x51 M50 => i32 x51 ∧ mOk M50 ∧ ((x51 = 0 ∨ x51 = 1) ∧ Q x51 M50))))) :
    Ci G y_Ma_store (d + 1) [vr a0, vi l1, vi l2] M Q := by
  refine wm_open (y := y_Ma_store) rfl (Nat.le_of_ble_eq_true rfl) (L := [vr a0, vi l1, vi l2]) rfl ?_
  obtain ⟨h1, h⟩ := h
  obtain ⟨h2, h⟩ := h
  obtain ⟨M3, e4⟩ : ∃ M3, M3 = mUI M a0 8 ((mI M a0 8) - 1) := ⟨_, rfl⟩
  replace h := h M3 e4
  obtain ⟨h5, h⟩ := h
  obtain ⟨h6, h⟩ := h
  refine wm_aload_n d_Ma_store_0 rfl rfl ?_
  refine wm_dup d_Ma_store_1 rfl ?_
  refine gf_Ma_52 rfl d_Ma_store_2 h1 ?_
  refine wm_iconst d_Ma_store_5 ?_
  refine wm_isub d_Ma_store_6 ?_
  have hOM3 : mOk M3 := by rw [e4]; exact mOk_UI hO h2
  refine pf_Ma_52 rfl d_Ma_store_7 h1 h2 e4 ?_
  refine wm_aload_n d_Ma_store_10 rfl rfl ?_
  refine gf_Ma_21 rfl d_Ma_store_11 (by rw [e4]; exact h1) ?_
  refine wm_aload_n d_Ma_store_14 rfl rfl ?_
  refine gf_Ma_52 rfl d_Ma_store_15 (by rw [e4]; exact h1) ?_
  refine wm_iald d_Ma_store_18 h5 h6 ?_
  refine wm_iconst d_Ma_store_19 ?_
  refine wm_icmp_eq (tgt := 31) d_Ma_store_20 rfl (hOM3 _ _).1 ⟨by decide, by decide⟩ (fun c21 => ?_) (fun c21 => ?_)
  · replace h := h.1 c21
    obtain ⟨h22, h⟩ := h
    obtain ⟨h23, h⟩ := h
    obtain ⟨h24, h⟩ := h
    obtain ⟨h25, h⟩ := h
    obtain ⟨h26, h⟩ := h
    refine wm_aload_n d_Ma_store_31 rfl rfl ?_
    refine gf_Ma_18 rfl d_Ma_store_32 (by rw [e4]; exact h1) ?_
    refine wm_aload_n d_Ma_store_35 rfl rfl ?_
    refine gf_Ma_52 rfl d_Ma_store_36 (by rw [e4]; exact h1) ?_
    refine wm_iald d_Ma_store_39 h22 h23 ?_
    refine wm_aload_n d_Ma_store_40 rfl rfl ?_
    refine gf_Ma_59 rfl d_Ma_store_41 (by rw [e4]; exact h1) ?_
    refine gf_Ma_132 rfl d_Ma_store_44 h24 ?_
    refine wm_iload_n d_Ma_store_47 rfl rfl ?_
    refine wm_iald d_Ma_store_48 h25 h26 ?_
    obtain ⟨s35, h⟩ := h
    have hE0 : ((mI M3 (mR M3 a0 6) (Int.toNat (mI M3 a0 8)) < mI M3 (mR M3 (mR M3 a0 0) 4) (Int.toNat l2)) ∨ (¬ (mI M3 (mR M3 a0 6) (Int.toNat (mI M3 a0 8)) ≤ mI M3 (mR M3 (mR M3 a0 0) 5) (Int.toNat l2)))) → mWm G y_Ma_store (d + 1) 73 [vr a0, vi l1, vi l2] [] M3 (fun r9 M9 => ∃ x9, r9 = some (vi x9) ∧ Q x9 M9) := by
      intro q36
      have h := h.1 q36
      refine wm_aload_n d_Ma_store_73 rfl rfl ?_
      refine wm_bipush d_Ma_store_74 (by decide) ?_
      refine wm_iload_n d_Ma_store_76 rfl rfl ?_
      refine cf_Ma_92 rfl d_Ma_store_77 (by rw [e4]; exact h1) (Nat.le_of_ble_eq_true rfl) (Ci.mono h (fun x38 M37 h => ?_))
      obtain ⟨h39, hOM37, h⟩ := h
      obtain ⟨h40, h⟩ := h
      refine wm_ireturn d_Ma_store_80 rfl (m_nb h40) ?_
      exact ⟨_, rfl, h⟩
    have hE1 : ¬ ((mI M3 (mR M3 a0 6) (Int.toNat (mI M3 a0 8)) < mI M3 (mR M3 (mR M3 a0 0) 4) (Int.toNat l2)) ∨ (¬ (mI M3 (mR M3 a0 6) (Int.toNat (mI M3 a0 8)) ≤ mI M3 (mR M3 (mR M3 a0 0) 5) (Int.toNat l2)))) → mWm G y_Ma_store (d + 1) 81 [vr a0, vi l1, vi l2] [] M3 (fun r9 M9 => ∃ x9, r9 = some (vi x9) ∧ Q x9 M9) := by
      intro q41
      have h := h.2 q41
      obtain ⟨h42, h⟩ := h
      obtain ⟨h43, h⟩ := h
      obtain ⟨h44, h⟩ := h
      obtain ⟨M45, e46⟩ : ∃ M45, M45 = mUI M3 (mR M3 a0 5) (Int.toNat l2) (mI M3 (mR M3 a0 6) (Int.toNat (mI M3 a0 8))) := ⟨_, rfl⟩
      replace h := h M45 e46
      refine wm_aload_n d_Ma_store_81 rfl rfl ?_
      refine gf_Ma_15 rfl d_Ma_store_82 (by rw [e4]; exact h1) ?_
      refine wm_iload_n d_Ma_store_85 rfl rfl ?_
      refine wm_aload_n d_Ma_store_86 rfl rfl ?_
      refine gf_Ma_18 rfl d_Ma_store_87 (by rw [e4]; exact h1) ?_
      refine wm_aload_n d_Ma_store_90 rfl rfl ?_
      refine gf_Ma_52 rfl d_Ma_store_91 (by rw [e4]; exact h1) ?_
      refine wm_iald d_Ma_store_94 h22 h42 ?_
      have hOM45 : mOk M45 := by rw [e46]; exact mOk_UI hOM3 (hOM3 _ _).1
      refine wm_iastE d_Ma_store_95 h43 h44 (hOM3 _ _).1 e46 ?_
      refine wm_iconst d_Ma_store_96 ?_
      refine wm_ireturn d_Ma_store_97 rfl (m_nb (by decide)) ?_
      exact ⟨_, rfl, h⟩
    clear h
    have s47 := s35
    refine wm_icmp_lt (tgt := 73) d_Ma_store_49 rfl (hOM3 _ _).1 (hOM3 _ _).1 (fun c34 => ?_) (fun c34 => ?_)
    · exact hE0 (Or.inl c34)
    · have s47 := s47 c34
      obtain ⟨h27, h28, h29⟩ := s47
      refine wm_aload_n d_Ma_store_52 rfl rfl ?_
      refine gf_Ma_18 rfl d_Ma_store_53 (by rw [e4]; exact h1) ?_
      refine wm_aload_n d_Ma_store_56 rfl rfl ?_
      refine gf_Ma_52 rfl d_Ma_store_57 (by rw [e4]; exact h1) ?_
      refine wm_iald d_Ma_store_60 h22 h27 ?_
      refine wm_aload_n d_Ma_store_61 rfl rfl ?_
      refine gf_Ma_59 rfl d_Ma_store_62 (by rw [e4]; exact h1) ?_
      refine gf_Ma_135 rfl d_Ma_store_65 h24 ?_
      refine wm_iload_n d_Ma_store_68 rfl rfl ?_
      refine wm_iald d_Ma_store_69 h28 h29 ?_
      refine wm_icmp_le (tgt := 81) d_Ma_store_70 rfl (hOM3 _ _).1 (hOM3 _ _).1 (fun c33 => ?_) (fun c33 => ?_)
      · exact hE1 (fun z48 => Or.elim z48 c34 (fun z49 => z49 c33))
      · exact hE0 (Or.inr c33)
  · replace h := h.2 c21
    refine wm_aload_n d_Ma_store_23 rfl rfl ?_
    refine wm_bipush d_Ma_store_24 (by decide) ?_
    refine wm_iload_n d_Ma_store_26 rfl rfl ?_
    refine cf_Ma_92 rfl d_Ma_store_27 (by rw [e4]; exact h1) (Nat.le_of_ble_eq_true rfl) (Ci.mono h (fun x51 M50 h => ?_))
    obtain ⟨h52, hOM50, h⟩ := h
    obtain ⟨h53, h⟩ := h
    refine wm_ireturn d_Ma_store_30 rfl (m_nb h53) ?_
    exact ⟨_, rfl, h⟩
theorem d_Ma_settle_0 : decode y_Ma_settle.2.1 0 = .ok (.lload_n 1, 1) := dc9_31 (by decide +kernel)
theorem d_Ma_settle_1 : decode y_Ma_settle.2.1 1 = .ok (.lload_n 3, 1) := dc9_33 (by decide +kernel)
theorem d_Ma_settle_2 : decode y_Ma_settle.2.1 2 = .ok (.invokestatic 138, 3) := dc9_184 (by decide +kernel)
theorem d_Ma_settle_5 : decode y_Ma_settle.2.1 5 = .ok (.lstore 6, 2) := dc9_55 (by decide +kernel)
theorem d_Ma_settle_7 : decode y_Ma_settle.2.1 7 = .ok (.lload_n 1, 1) := dc9_31 (by decide +kernel)
theorem d_Ma_settle_8 : decode y_Ma_settle.2.1 8 = .ok (.lload 6, 2) := dc9_22 (by decide +kernel)
theorem d_Ma_settle_10 : decode y_Ma_settle.2.1 10 = .ok (.ldiv, 1) := dc9_109 (by decide +kernel)
theorem d_Ma_settle_11 : decode y_Ma_settle.2.1 11 = .ok (.lstore 8, 2) := dc9_55 (by decide +kernel)
theorem d_Ma_settle_13 : decode y_Ma_settle.2.1 13 = .ok (.lload_n 3, 1) := dc9_33 (by decide +kernel)
theorem d_Ma_settle_14 : decode y_Ma_settle.2.1 14 = .ok (.lload 6, 2) := dc9_22 (by decide +kernel)
theorem d_Ma_settle_16 : decode y_Ma_settle.2.1 16 = .ok (.ldiv, 1) := dc9_109 (by decide +kernel)
theorem d_Ma_settle_17 : decode y_Ma_settle.2.1 17 = .ok (.lstore 10, 2) := dc9_55 (by decide +kernel)
theorem d_Ma_settle_19 : decode y_Ma_settle.2.1 19 = .ok (.lload 8, 2) := dc9_22 (by decide +kernel)
theorem d_Ma_settle_21 : decode y_Ma_settle.2.1 21 = .ok (.ldc2_w 141, 3) := dc9_20 (by decide +kernel)
theorem d_Ma_settle_24 : decode y_Ma_settle.2.1 24 = .ok (.lcmp, 1) := dc9_148 (by decide +kernel)
theorem d_Ma_settle_25 : decode y_Ma_settle.2.1 25 = .ok (.ifCond .ge 21, 3) := dc9_156 (by decide +kernel)
theorem d_Ma_settle_28 : decode y_Ma_settle.2.1 28 = .ok (.lload 8, 2) := dc9_22 (by decide +kernel)
theorem d_Ma_settle_30 : decode y_Ma_settle.2.1 30 = .ok (.ldc2_w 143, 3) := dc9_20 (by decide +kernel)
theorem d_Ma_settle_33 : decode y_Ma_settle.2.1 33 = .ok (.lcmp, 1) := dc9_148 (by decide +kernel)
theorem d_Ma_settle_34 : decode y_Ma_settle.2.1 34 = .ok (.ifCond .le 12, 3) := dc9_158 (by decide +kernel)
theorem d_Ma_settle_37 : decode y_Ma_settle.2.1 37 = .ok (.lload 10, 2) := dc9_22 (by decide +kernel)
theorem d_Ma_settle_39 : decode y_Ma_settle.2.1 39 = .ok (.ldc2_w 141, 3) := dc9_20 (by decide +kernel)
theorem d_Ma_settle_42 : decode y_Ma_settle.2.1 42 = .ok (.lcmp, 1) := dc9_148 (by decide +kernel)
theorem d_Ma_settle_43 : decode y_Ma_settle.2.1 43 = .ok (.ifCond .lt 12, 3) := dc9_155 (by decide +kernel)
theorem d_Ma_settle_55 : decode y_Ma_settle.2.1 55 = .ok (.aload_n 0, 1) := dc9_42 (by decide +kernel)
theorem d_Ma_settle_56 : decode y_Ma_settle.2.1 56 = .ok (.getfield 18, 3) := dc9_180 (by decide +kernel)
theorem d_Ma_settle_59 : decode y_Ma_settle.2.1 59 = .ok (.aload_n 0, 1) := dc9_42 (by decide +kernel)
theorem d_Ma_settle_60 : decode y_Ma_settle.2.1 60 = .ok (.getfield 52, 3) := dc9_180 (by decide +kernel)
theorem d_Ma_settle_63 : decode y_Ma_settle.2.1 63 = .ok (.iconst 1, 1) := dc9_4 (by decide +kernel)
theorem d_Ma_settle_64 : decode y_Ma_settle.2.1 64 = .ok (.isub, 1) := dc9_100 (by decide +kernel)
theorem d_Ma_settle_65 : decode y_Ma_settle.2.1 65 = .ok (.lload 8, 2) := dc9_22 (by decide +kernel)
theorem d_Ma_settle_67 : decode y_Ma_settle.2.1 67 = .ok (.l2i, 1) := dc9_136 (by decide +kernel)
theorem d_Ma_settle_68 : decode y_Ma_settle.2.1 68 = .ok (.iastore, 1) := dc9_79 (by decide +kernel)
theorem d_Ma_settle_69 : decode y_Ma_settle.2.1 69 = .ok (.aload_n 0, 1) := dc9_42 (by decide +kernel)
theorem d_Ma_settle_70 : decode y_Ma_settle.2.1 70 = .ok (.getfield 21, 3) := dc9_180 (by decide +kernel)
theorem d_Ma_settle_73 : decode y_Ma_settle.2.1 73 = .ok (.aload_n 0, 1) := dc9_42 (by decide +kernel)
theorem d_Ma_settle_74 : decode y_Ma_settle.2.1 74 = .ok (.getfield 52, 3) := dc9_180 (by decide +kernel)
theorem d_Ma_settle_77 : decode y_Ma_settle.2.1 77 = .ok (.iconst 1, 1) := dc9_4 (by decide +kernel)
theorem d_Ma_settle_78 : decode y_Ma_settle.2.1 78 = .ok (.isub, 1) := dc9_100 (by decide +kernel)
theorem d_Ma_settle_79 : decode y_Ma_settle.2.1 79 = .ok (.lload 10, 2) := dc9_22 (by decide +kernel)
theorem d_Ma_settle_81 : decode y_Ma_settle.2.1 81 = .ok (.l2i, 1) := dc9_136 (by decide +kernel)
theorem d_Ma_settle_82 : decode y_Ma_settle.2.1 82 = .ok (.iastore, 1) := dc9_79 (by decide +kernel)
theorem d_Ma_settle_46 : decode y_Ma_settle.2.1 46 = .ok (.aload_n 0, 1) := dc9_42 (by decide +kernel)
theorem d_Ma_settle_47 : decode y_Ma_settle.2.1 47 = .ok (.bipush 6, 2) := dc9_16 (by decide +kernel)
theorem d_Ma_settle_49 : decode y_Ma_settle.2.1 49 = .ok (.iload 5, 2) := dc9_21 (by decide +kernel)
theorem d_Ma_settle_51 : decode y_Ma_settle.2.1 51 = .ok (.invokevirtual 92, 3) := dc9_182 (by decide +kernel)
theorem d_Ma_settle_54 : decode y_Ma_settle.2.1 54 = .ok (.ireturn, 1) := dc9_172 (by decide +kernel)
theorem d_Ma_settle_83 : decode y_Ma_settle.2.1 83 = .ok (.iconst 1, 1) := dc9_4 (by decide +kernel)
theorem d_Ma_settle_84 : decode y_Ma_settle.2.1 84 = .ok (.ireturn, 1) := dc9_172 (by decide +kernel)
theorem k_Ma_settle {G : mG} {d : Nat} {a0 : Nat} {j1 : Int} {j3 : Int} {l5 : Int} {M : mM} {Q : Int → mM → Prop} (hO : mOk M) (hi_j1 : i64 j1) (hi_j3 : i64 j3) (hi_l5 : i32 l5)
    (h : Cj G y_Ma_commonDivisor d [vl j1, vl j3] M (fun x2 M1 => i64 x2 ∧ mOk M1 ∧ (x2 ≠ 0 ∧ x2 ≠ 0 ∧ i64 (Int.tdiv j1 x2) ∧ (¬ (0 ≤ cmpL (Int.tdiv j1 x2) 1000000000) → (¬ (cmpL (Int.tdiv j1 x2) (-1000000000) ≤ 0) → i64 (Int.tdiv j3 x2))) ∧ (((0 ≤ cmpL (Int.tdiv j1 x2) 1000000000) ∨ ((cmpL (Int.tdiv j1 x2) (-1000000000) ≤ 0) ∨ (¬ (cmpL (Int.tdiv j3 x2) 1000000000 < 0)))) → (mK M1 a0 = 5 ∧ Ci G y_Ma_stop d [vr a0, vi 6, vi l5] M1 (fun x15 M14 => i32 x15 ∧ mOk M14 ∧ ((x15 = 0 ∨ x15 = 1) ∧ Q x15 M14)))) ∧ (¬ ((0 ≤ cmpL (Int.tdiv j1 x2) 1000000000) ∨ ((cmpL (Int.tdiv j1 x2) (-1000000000) ≤ 0) ∨ (¬ (cmpL (Int.tdiv j3 x2) 1000000000 < 0)))) → (mK M1 a0 = 5 ∧ mK M1 (mR M1 a0 6) = 30 ∧ ((0 : Int) ≤ (mI M1 a0 8) - 1 ∧ (mI M1 a0 8) - 1 < (mN M1 (mR M1 a0 6) : Int)) ∧ i32 (Int.tdiv j1 x2) ∧ ∀ M23, M23 = mUI M1 (mR M1 a0 6) (Int.toNat ((mI M1 a0 8) - 1)) (Int.tdiv j1 x2) → mK M23 (mR M23 a0 7) = 30 ∧ ((0 : Int) ≤ (mI M23 a0 8) - 1 ∧ (mI M23 a0 8) - 1 < (mN M23 (mR M23 a0 7) : Int)) ∧ i32 (Int.tdiv j3 x2) ∧ ∀ M28, M28 = mUI M23 (mR M23 a0 7) (Int.toNat ((mI M23 a0 8) - 1)) (Int.tdiv j3 x2) → Q 1 M28))))) :
    Ci G y_Ma_settle (d + 1) [vr a0, vl j1, vl j3, vi l5] M Q := by
  refine wm_open (y := y_Ma_settle) rfl (Nat.le_of_ble_eq_true rfl) (L := [vr a0, vl j1, vd, vl j3, vd, vi l5, vd, vd, vd, vd, vd, vd]) rfl ?_
  refine wm_lload_n d_Ma_settle_0 rfl rfl ?_
  refine wm_lload_n d_Ma_settle_1 rfl rfl ?_
  refine cf_Ma_138 rfl d_Ma_settle_2 (Nat.le_of_ble_eq_true rfl) (Cj.mono h (fun x2 M1 h => ?_))
  obtain ⟨h3, hOM1, h⟩ := h
  obtain ⟨h4, h⟩ := h
  obtain ⟨h5, h⟩ := h
  obtain ⟨h6, h⟩ := h
  refine wm_lstore d_Ma_settle_5 (by decide) (L' := [vr a0, vl j1, vd, vl j3, vd, vi l5, vl x2, vd, vd, vd, vd, vd]) rfl ?_
  refine wm_lload_n d_Ma_settle_7 rfl rfl ?_
  refine wm_lload d_Ma_settle_8 rfl ?_
  refine wm_ldiv d_Ma_settle_10 hi_j1 h3 h4 ?_
  refine wm_lstore d_Ma_settle_11 (by decide) (L' := [vr a0, vl j1, vd, vl j3, vd, vi l5, vl x2, vd, vl (Int.tdiv j1 x2), vd, vd, vd]) rfl ?_
  refine wm_lload_n d_Ma_settle_13 rfl rfl ?_
  refine wm_lload d_Ma_settle_14 rfl ?_
  refine wm_ldiv d_Ma_settle_16 hi_j3 h3 h5 ?_
  refine wm_lstore d_Ma_settle_17 (by decide) (L' := [vr a0, vl j1, vd, vl j3, vd, vi l5, vl x2, vd, vl (Int.tdiv j1 x2), vd, vl (Int.tdiv j3 x2), vd]) rfl ?_
  refine wm_lload d_Ma_settle_19 rfl ?_
  refine wm_ldc2 (x := 1000000000) d_Ma_settle_21 k5_96 (by decide) ?_
  refine wm_lcmp d_Ma_settle_24 h6 ⟨by decide, by decide⟩ ?_
  obtain ⟨s11, h⟩ := h
  have hE0 : ((0 ≤ cmpL (Int.tdiv j1 x2) 1000000000) ∨ ((cmpL (Int.tdiv j1 x2) (-1000000000) ≤ 0) ∨ (¬ (cmpL (Int.tdiv j3 x2) 1000000000 < 0)))) → mWm G y_Ma_settle (d + 1) 46 [vr a0, vl j1, vd, vl j3, vd, vi l5, vl x2, vd, vl (Int.tdiv j1 x2), vd, vl (Int.tdiv j3 x2), vd] [] M1 (fun r9 M9 => ∃ x9, r9 = some (vi x9) ∧ Q x9 M9) := by
    intro q12
    have h := h.1 q12
    obtain ⟨h13, h⟩ := h
    refine wm_aload_n d_Ma_settle_46 rfl rfl ?_
    refine wm_bipush d_Ma_settle_47 (by decide) ?_
    refine wm_iload d_Ma_settle_49 rfl ?_
    refine cf_Ma_92 rfl d_Ma_settle_51 h13 (Nat.le_of_ble_eq_true rfl) (Ci.mono h (fun x15 M14 h => ?_))
    obtain ⟨h16, hOM14, h⟩ := h
    obtain ⟨h17, h⟩ := h
    refine wm_ireturn d_Ma_settle_54 rfl (m_nb h17) ?_
    exact ⟨_, rfl, h⟩
  have hE1 : ¬ ((0 ≤ cmpL (Int.tdiv j1 x2) 1000000000) ∨ ((cmpL (Int.tdiv j1 x2) (-1000000000) ≤ 0) ∨ (¬ (cmpL (Int.tdiv j3 x2) 1000000000 < 0)))) → mWm G y_Ma_settle (d + 1) 55 [vr a0, vl j1, vd, vl j3, vd, vi l5, vl x2, vd, vl (Int.tdiv j1 x2), vd, vl (Int.tdiv j3 x2), vd] [] M1 (fun r9 M9 => ∃ x9, r9 = some (vi x9) ∧ Q x9 M9) := by
    intro q18
    have h := h.2 q18
    obtain ⟨h19, h⟩ := h
    obtain ⟨h20, h⟩ := h
    obtain ⟨h21, h⟩ := h
    obtain ⟨h22, h⟩ := h
    obtain ⟨M23, e24⟩ : ∃ M23, M23 = mUI M1 (mR M1 a0 6) (Int.toNat ((mI M1 a0 8) - 1)) (Int.tdiv j1 x2) := ⟨_, rfl⟩
    replace h := h M23 e24
    obtain ⟨h25, h⟩ := h
    obtain ⟨h26, h⟩ := h
    obtain ⟨h27, h⟩ := h
    obtain ⟨M28, e29⟩ : ∃ M28, M28 = mUI M23 (mR M23 a0 7) (Int.toNat ((mI M23 a0 8) - 1)) (Int.tdiv j3 x2) := ⟨_, rfl⟩
    replace h := h M28 e29
    refine wm_aload_n d_Ma_settle_55 rfl rfl ?_
    refine gf_Ma_18 rfl d_Ma_settle_56 h19 ?_
    refine wm_aload_n d_Ma_settle_59 rfl rfl ?_
    refine gf_Ma_52 rfl d_Ma_settle_60 h19 ?_
    refine wm_iconst d_Ma_settle_63 ?_
    refine wm_isub d_Ma_settle_64 ?_
    refine wm_lload d_Ma_settle_65 rfl ?_
    refine wm_l2i d_Ma_settle_67 ?_
    have hOM23 : mOk M23 := by rw [e24]; exact mOk_UI hOM1 h22
    refine wm_iastE d_Ma_settle_68 h20 h21 h22 e24 ?_
    refine wm_aload_n d_Ma_settle_69 rfl rfl ?_
    refine gf_Ma_21 rfl d_Ma_settle_70 (by rw [e24]; exact h19) ?_
    refine wm_aload_n d_Ma_settle_73 rfl rfl ?_
    refine gf_Ma_52 rfl d_Ma_settle_74 (by rw [e24]; exact h19) ?_
    refine wm_iconst d_Ma_settle_77 ?_
    refine wm_isub d_Ma_settle_78 ?_
    refine wm_lload d_Ma_settle_79 rfl ?_
    refine wm_l2i d_Ma_settle_81 ?_
    have hOM28 : mOk M28 := by rw [e29]; exact mOk_UI hOM23 h27
    refine wm_iastE d_Ma_settle_82 h25 h26 h27 e29 ?_
    refine wm_iconst d_Ma_settle_83 ?_
    refine wm_ireturn d_Ma_settle_84 rfl (m_nb (by decide)) ?_
    exact ⟨_, rfl, h⟩
  clear h
  have s30 := s11
  refine wm_if_ge (tgt := 46) d_Ma_settle_25 rfl (m_cmp32 _ _) (fun c10 => ?_) (fun c10 => ?_)
  · exact hE0 (Or.inl c10)
  · have s30 := s30 c10
    have s31 := s30
    refine wm_lload d_Ma_settle_28 rfl ?_
    refine wm_ldc2 (x := (-1000000000)) d_Ma_settle_30 k5_97 (by decide) ?_
    refine wm_lcmp d_Ma_settle_33 h6 ⟨by decide, by decide⟩ ?_
    refine wm_if_le (tgt := 46) d_Ma_settle_34 rfl (m_cmp32 _ _) (fun c9 => ?_) (fun c9 => ?_)
    · exact hE0 (Or.inr (Or.inl c9))
    · have s31 := s31 c9
      have h7 := s31
      refine wm_lload d_Ma_settle_37 rfl ?_
      refine wm_ldc2 (x := 1000000000) d_Ma_settle_39 k5_96 (by decide) ?_
      refine wm_lcmp d_Ma_settle_42 h7 ⟨by decide, by decide⟩ ?_
      refine wm_if_lt (tgt := 55) d_Ma_settle_43 rfl (m_cmp32 _ _) (fun c8 => ?_) (fun c8 => ?_)
      · exact hE1 (fun z32 => Or.elim z32 c10 (fun z33 => Or.elim z33 c9 (fun z34 => z34 c8)))
      · exact hE0 (Or.inr (Or.inr c8))
end
section
theorem d_Ma_relate_0 : decode y_Ma_relate.2.1 0 = .ok (.iload_n 1, 1) := dc9_27 (by decide +kernel)
theorem d_Ma_relate_1 : decode y_Ma_relate.2.1 1 = .ok (.bipush 15, 2) := dc9_16 (by decide +kernel)
theorem d_Ma_relate_3 : decode y_Ma_relate.2.1 3 = .ok (.if_icmp .eq 9, 3) := dc9_159 (by decide +kernel)
theorem d_Ma_relate_6 : decode y_Ma_relate.2.1 6 = .ok (.iload_n 1, 1) := dc9_27 (by decide +kernel)
theorem d_Ma_relate_7 : decode y_Ma_relate.2.1 7 = .ok (.bipush 16, 2) := dc9_16 (by decide +kernel)
theorem d_Ma_relate_9 : decode y_Ma_relate.2.1 9 = .ok (.if_icmp .ne 68, 3) := dc9_160 (by decide +kernel)
theorem d_Ma_relate_77 : decode y_Ma_relate.2.1 77 = .ok (.iload_n 1, 1) := dc9_27 (by decide +kernel)
theorem d_Ma_relate_78 : decode y_Ma_relate.2.1 78 = .ok (.tableswitch 103 19 24 #[51, 77, 103, 64, 90, 38], 38) := by decide +kernel
theorem d_Ma_relate_12 : decode y_Ma_relate.2.1 12 = .ok (.iload_n 2, 1) := dc9_28 (by decide +kernel)
theorem d_Ma_relate_13 : decode y_Ma_relate.2.1 13 = .ok (.ifCond .le 7, 3) := dc9_158 (by decide +kernel)
theorem d_Ma_relate_20 : decode y_Ma_relate.2.1 20 = .ok (.iconst 0, 1) := dc9_3 (by decide +kernel)
theorem d_Ma_relate_16 : decode y_Ma_relate.2.1 16 = .ok (.iconst 1, 1) := dc9_4 (by decide +kernel)
theorem d_Ma_relate_17 : decode y_Ma_relate.2.1 17 = .ok (.goto 4, 3) := dc9_167 (by decide +kernel)
theorem d_Ma_relate_21 : decode y_Ma_relate.2.1 21 = .ok (.iload_n 1, 1) := dc9_27 (by decide +kernel)
theorem d_Ma_relate_22 : decode y_Ma_relate.2.1 22 = .ok (.bipush 15, 2) := dc9_16 (by decide +kernel)
theorem d_Ma_relate_24 : decode y_Ma_relate.2.1 24 = .ok (.if_icmp .ne 7, 3) := dc9_160 (by decide +kernel)
theorem d_Ma_relate_27 : decode y_Ma_relate.2.1 27 = .ok (.iconst 1, 1) := dc9_4 (by decide +kernel)
theorem d_Ma_relate_28 : decode y_Ma_relate.2.1 28 = .ok (.goto 4, 3) := dc9_167 (by decide +kernel)
theorem d_Ma_relate_31 : decode y_Ma_relate.2.1 31 = .ok (.iconst 0, 1) := dc9_3 (by decide +kernel)
theorem d_Ma_relate_32 : decode y_Ma_relate.2.1 32 = .ok (.if_icmp .ne 43, 3) := dc9_160 (by decide +kernel)
theorem d_Ma_relate_35 : decode y_Ma_relate.2.1 35 = .ok (.aload_n 0, 1) := dc9_42 (by decide +kernel)
theorem d_Ma_relate_36 : decode y_Ma_relate.2.1 36 = .ok (.getfield 18, 3) := dc9_180 (by decide +kernel)
theorem d_Ma_relate_39 : decode y_Ma_relate.2.1 39 = .ok (.aload_n 0, 1) := dc9_42 (by decide +kernel)
theorem d_Ma_relate_40 : decode y_Ma_relate.2.1 40 = .ok (.getfield 52, 3) := dc9_180 (by decide +kernel)
theorem d_Ma_relate_43 : decode y_Ma_relate.2.1 43 = .ok (.iconst 1, 1) := dc9_4 (by decide +kernel)
theorem d_Ma_relate_44 : decode y_Ma_relate.2.1 44 = .ok (.isub, 1) := dc9_100 (by decide +kernel)
theorem d_Ma_relate_45 : decode y_Ma_relate.2.1 45 = .ok (.aload_n 0, 1) := dc9_42 (by decide +kernel)
theorem d_Ma_relate_46 : decode y_Ma_relate.2.1 46 = .ok (.getfield 18, 3) := dc9_180 (by decide +kernel)
theorem d_Ma_relate_49 : decode y_Ma_relate.2.1 49 = .ok (.aload_n 0, 1) := dc9_42 (by decide +kernel)
theorem d_Ma_relate_50 : decode y_Ma_relate.2.1 50 = .ok (.getfield 52, 3) := dc9_180 (by decide +kernel)
theorem d_Ma_relate_53 : decode y_Ma_relate.2.1 53 = .ok (.iaload, 1) := dc9_46 (by decide +kernel)
theorem d_Ma_relate_54 : decode y_Ma_relate.2.1 54 = .ok (.iastore, 1) := dc9_79 (by decide +kernel)
theorem d_Ma_relate_55 : decode y_Ma_relate.2.1 55 = .ok (.aload_n 0, 1) := dc9_42 (by decide +kernel)
theorem d_Ma_relate_56 : decode y_Ma_relate.2.1 56 = .ok (.getfield 21, 3) := dc9_180 (by decide +kernel)
theorem d_Ma_relate_59 : decode y_Ma_relate.2.1 59 = .ok (.aload_n 0, 1) := dc9_42 (by decide +kernel)
theorem d_Ma_relate_60 : decode y_Ma_relate.2.1 60 = .ok (.getfield 52, 3) := dc9_180 (by decide +kernel)
theorem d_Ma_relate_63 : decode y_Ma_relate.2.1 63 = .ok (.iconst 1, 1) := dc9_4 (by decide +kernel)
theorem d_Ma_relate_64 : decode y_Ma_relate.2.1 64 = .ok (.isub, 1) := dc9_100 (by decide +kernel)
theorem d_Ma_relate_65 : decode y_Ma_relate.2.1 65 = .ok (.aload_n 0, 1) := dc9_42 (by decide +kernel)
theorem d_Ma_relate_66 : decode y_Ma_relate.2.1 66 = .ok (.getfield 21, 3) := dc9_180 (by decide +kernel)
theorem d_Ma_relate_69 : decode y_Ma_relate.2.1 69 = .ok (.aload_n 0, 1) := dc9_42 (by decide +kernel)
theorem d_Ma_relate_70 : decode y_Ma_relate.2.1 70 = .ok (.getfield 52, 3) := dc9_180 (by decide +kernel)
theorem d_Ma_relate_73 : decode y_Ma_relate.2.1 73 = .ok (.iaload, 1) := dc9_46 (by decide +kernel)
theorem d_Ma_relate_74 : decode y_Ma_relate.2.1 74 = .ok (.iastore, 1) := dc9_79 (by decide +kernel)
theorem d_Ma_relate_129 : decode y_Ma_relate.2.1 129 = .ok (.iload_n 2, 1) := dc9_28 (by decide +kernel)
theorem d_Ma_relate_130 : decode y_Ma_relate.2.1 130 = .ok (.ifCond .eq 7, 3) := dc9_153 (by decide +kernel)
theorem d_Ma_relate_137 : decode y_Ma_relate.2.1 137 = .ok (.iconst 0, 1) := dc9_3 (by decide +kernel)
theorem d_Ma_relate_138 : decode y_Ma_relate.2.1 138 = .ok (.istore_n 3, 1) := dc9_62 (by decide +kernel)
theorem d_Ma_relate_139 : decode y_Ma_relate.2.1 139 = .ok (.goto 52, 3) := dc9_167 (by decide +kernel)
theorem d_Ma_relate_133 : decode y_Ma_relate.2.1 133 = .ok (.iconst 1, 1) := dc9_4 (by decide +kernel)
theorem d_Ma_relate_134 : decode y_Ma_relate.2.1 134 = .ok (.goto 4, 3) := dc9_167 (by decide +kernel)
theorem d_Ma_relate_155 : decode y_Ma_relate.2.1 155 = .ok (.iload_n 2, 1) := dc9_28 (by decide +kernel)
theorem d_Ma_relate_156 : decode y_Ma_relate.2.1 156 = .ok (.ifCond .gt 7, 3) := dc9_157 (by decide +kernel)
theorem d_Ma_relate_163 : decode y_Ma_relate.2.1 163 = .ok (.iconst 0, 1) := dc9_3 (by decide +kernel)
theorem d_Ma_relate_164 : decode y_Ma_relate.2.1 164 = .ok (.istore_n 3, 1) := dc9_62 (by decide +kernel)
theorem d_Ma_relate_165 : decode y_Ma_relate.2.1 165 = .ok (.goto 26, 3) := dc9_167 (by decide +kernel)
theorem d_Ma_relate_159 : decode y_Ma_relate.2.1 159 = .ok (.iconst 1, 1) := dc9_4 (by decide +kernel)
theorem d_Ma_relate_160 : decode y_Ma_relate.2.1 160 = .ok (.goto 4, 3) := dc9_167 (by decide +kernel)
theorem d_Ma_relate_142 : decode y_Ma_relate.2.1 142 = .ok (.iload_n 2, 1) := dc9_28 (by decide +kernel)
theorem d_Ma_relate_143 : decode y_Ma_relate.2.1 143 = .ok (.ifCond .ge 7, 3) := dc9_156 (by decide +kernel)
theorem d_Ma_relate_150 : decode y_Ma_relate.2.1 150 = .ok (.iconst 0, 1) := dc9_3 (by decide +kernel)
theorem d_Ma_relate_151 : decode y_Ma_relate.2.1 151 = .ok (.istore_n 3, 1) := dc9_62 (by decide +kernel)
theorem d_Ma_relate_152 : decode y_Ma_relate.2.1 152 = .ok (.goto 39, 3) := dc9_167 (by decide +kernel)
theorem d_Ma_relate_146 : decode y_Ma_relate.2.1 146 = .ok (.iconst 1, 1) := dc9_4 (by decide +kernel)
theorem d_Ma_relate_147 : decode y_Ma_relate.2.1 147 = .ok (.goto 4, 3) := dc9_167 (by decide +kernel)
theorem d_Ma_relate_168 : decode y_Ma_relate.2.1 168 = .ok (.iload_n 2, 1) := dc9_28 (by decide +kernel)
theorem d_Ma_relate_169 : decode y_Ma_relate.2.1 169 = .ok (.ifCond .le 7, 3) := dc9_158 (by decide +kernel)
theorem d_Ma_relate_176 : decode y_Ma_relate.2.1 176 = .ok (.iconst 0, 1) := dc9_3 (by decide +kernel)
theorem d_Ma_relate_177 : decode y_Ma_relate.2.1 177 = .ok (.istore_n 3, 1) := dc9_62 (by decide +kernel)
theorem d_Ma_relate_178 : decode y_Ma_relate.2.1 178 = .ok (.goto 13, 3) := dc9_167 (by decide +kernel)
theorem d_Ma_relate_172 : decode y_Ma_relate.2.1 172 = .ok (.iconst 1, 1) := dc9_4 (by decide +kernel)
theorem d_Ma_relate_173 : decode y_Ma_relate.2.1 173 = .ok (.goto 4, 3) := dc9_167 (by decide +kernel)
theorem d_Ma_relate_116 : decode y_Ma_relate.2.1 116 = .ok (.iload_n 2, 1) := dc9_28 (by decide +kernel)
theorem d_Ma_relate_117 : decode y_Ma_relate.2.1 117 = .ok (.ifCond .ne 7, 3) := dc9_154 (by decide +kernel)
theorem d_Ma_relate_120 : decode y_Ma_relate.2.1 120 = .ok (.iconst 1, 1) := dc9_4 (by decide +kernel)
theorem d_Ma_relate_121 : decode y_Ma_relate.2.1 121 = .ok (.goto 4, 3) := dc9_167 (by decide +kernel)
theorem d_Ma_relate_125 : decode y_Ma_relate.2.1 125 = .ok (.istore_n 3, 1) := dc9_62 (by decide +kernel)
theorem d_Ma_relate_126 : decode y_Ma_relate.2.1 126 = .ok (.goto 65, 3) := dc9_167 (by decide +kernel)
theorem d_Ma_relate_124 : decode y_Ma_relate.2.1 124 = .ok (.iconst 0, 1) := dc9_3 (by decide +kernel)
theorem d_Ma_relate_181 : decode y_Ma_relate.2.1 181 = .ok (.iload_n 2, 1) := dc9_28 (by decide +kernel)
theorem d_Ma_relate_182 : decode y_Ma_relate.2.1 182 = .ok (.ifCond .lt 7, 3) := dc9_155 (by decide +kernel)
theorem d_Ma_relate_189 : decode y_Ma_relate.2.1 189 = .ok (.iconst 0, 1) := dc9_3 (by decide +kernel)
theorem d_Ma_relate_190 : decode y_Ma_relate.2.1 190 = .ok (.istore_n 3, 1) := dc9_62 (by decide +kernel)
theorem d_Ma_relate_185 : decode y_Ma_relate.2.1 185 = .ok (.iconst 1, 1) := dc9_4 (by decide +kernel)
theorem d_Ma_relate_186 : decode y_Ma_relate.2.1 186 = .ok (.goto 4, 3) := dc9_167 (by decide +kernel)
theorem d_Ma_relate_191 : decode y_Ma_relate.2.1 191 = .ok (.aload_n 0, 1) := dc9_42 (by decide +kernel)
theorem d_Ma_relate_192 : decode y_Ma_relate.2.1 192 = .ok (.getfield 18, 3) := dc9_180 (by decide +kernel)
theorem d_Ma_relate_195 : decode y_Ma_relate.2.1 195 = .ok (.aload_n 0, 1) := dc9_42 (by decide +kernel)
theorem d_Ma_relate_196 : decode y_Ma_relate.2.1 196 = .ok (.getfield 52, 3) := dc9_180 (by decide +kernel)
theorem d_Ma_relate_199 : decode y_Ma_relate.2.1 199 = .ok (.iconst 1, 1) := dc9_4 (by decide +kernel)
theorem d_Ma_relate_200 : decode y_Ma_relate.2.1 200 = .ok (.isub, 1) := dc9_100 (by decide +kernel)
theorem d_Ma_relate_201 : decode y_Ma_relate.2.1 201 = .ok (.iload_n 3, 1) := dc9_29 (by decide +kernel)
theorem d_Ma_relate_202 : decode y_Ma_relate.2.1 202 = .ok (.ifCond .eq 7, 3) := dc9_153 (by decide +kernel)
theorem d_Ma_relate_209 : decode y_Ma_relate.2.1 209 = .ok (.iconst 0, 1) := dc9_3 (by decide +kernel)
theorem d_Ma_relate_205 : decode y_Ma_relate.2.1 205 = .ok (.iconst 1, 1) := dc9_4 (by decide +kernel)
theorem d_Ma_relate_206 : decode y_Ma_relate.2.1 206 = .ok (.goto 4, 3) := dc9_167 (by decide +kernel)
theorem d_Ma_relate_210 : decode y_Ma_relate.2.1 210 = .ok (.iastore, 1) := dc9_79 (by decide +kernel)
theorem d_Ma_relate_211 : decode y_Ma_relate.2.1 211 = .ok (.aload_n 0, 1) := dc9_42 (by decide +kernel)
theorem d_Ma_relate_212 : decode y_Ma_relate.2.1 212 = .ok (.getfield 21, 3) := dc9_180 (by decide +kernel)
theorem d_Ma_relate_215 : decode y_Ma_relate.2.1 215 = .ok (.aload_n 0, 1) := dc9_42 (by decide +kernel)
theorem d_Ma_relate_216 : decode y_Ma_relate.2.1 216 = .ok (.getfield 52, 3) := dc9_180 (by decide +kernel)
theorem d_Ma_relate_219 : decode y_Ma_relate.2.1 219 = .ok (.iconst 1, 1) := dc9_4 (by decide +kernel)
theorem d_Ma_relate_220 : decode y_Ma_relate.2.1 220 = .ok (.isub, 1) := dc9_100 (by decide +kernel)
theorem d_Ma_relate_221 : decode y_Ma_relate.2.1 221 = .ok (.iconst 1, 1) := dc9_4 (by decide +kernel)
theorem d_Ma_relate_222 : decode y_Ma_relate.2.1 222 = .ok (.iastore, 1) := dc9_79 (by decide +kernel)
theorem d_Ma_relate_223 : decode y_Ma_relate.2.1 223 = .ok (.iconst 1, 1) := dc9_4 (by decide +kernel)
theorem d_Ma_relate_224 : decode y_Ma_relate.2.1 224 = .ok (.ireturn, 1) := dc9_172 (by decide +kernel)
theorem d_Ma_relate_75 : decode y_Ma_relate.2.1 75 = .ok (.iconst 1, 1) := dc9_4 (by decide +kernel)
theorem d_Ma_relate_76 : decode y_Ma_relate.2.1 76 = .ok (.ireturn, 1) := dc9_172 (by decide +kernel)
def h_Ma_relate_75 (G : mG) (d : Nat) (M : mM) (Q : Int → mM → Prop) : Prop := mWm G y_Ma_relate d 75 [vd, vd, vd, vd] [] M (fun r9 M9 => ∃ x9, r9 = some (vi x9) ∧ Q x9 M9)
theorem k_Ma_relate {G : mG} {d : Nat} {a0 : Nat} {l1 : Int} {l2 : Int} {M : mM} {Q : Int → mM → Prop} (hO : mOk M) (hi_l1 : i32 l1) (hi_l2 : i32 l2)
    (h : (((l1 = 15) ∨ (l1 = 16)) → (∀ v7 : Int, v7 = (if (l2 ≤ 0) then 0 else 1) → ∀ v13 : Int, v13 = (if (l1 = 15) then 1 else 0) → ((v7 = v13) → (mK M a0 = 5 ∧ mK M (mR M a0 6) = 30 ∧ ((0 : Int) ≤ mI M a0 8 ∧ mI M a0 8 < (mN M (mR M a0 6) : Int)) ∧ ((0 : Int) ≤ (mI M a0 8) - 1 ∧ (mI M a0 8) - 1 < (mN M (mR M a0 6) : Int)) ∧ ∀ M24, M24 = mUI M (mR M a0 6) (Int.toNat ((mI M a0 8) - 1)) (mI M (mR M a0 6) (Int.toNat (mI M a0 8))) → mK M24 (mR M24 a0 7) = 30 ∧ ((0 : Int) ≤ mI M24 a0 8 ∧ mI M24 a0 8 < (mN M24 (mR M24 a0 7) : Int)) ∧ ((0 : Int) ≤ (mI M24 a0 8) - 1 ∧ (mI M24 a0 8) - 1 < (mN M24 (mR M24 a0 7) : Int)) ∧ ∀ M29, M29 = mUI M24 (mR M24 a0 7) (Int.toNat ((mI M24 a0 8) - 1)) (mI M24 (mR M24 a0 7) (Int.toNat (mI M24 a0 8))) → h_Ma_relate_75 G d  M29 Q)) ∧ (¬ (v7 = v13) → (h_Ma_relate_75 G d  M Q)))) ∧ (¬ ((l1 = 15) ∨ (l1 = 16)) → (∀ v50 : Int, v50 = (if (((l1 = 19) ∧ (l2 = 0)) ∨ ((¬ (l1 = 19)) ∧ (((l1 = 20) ∧ (0 < l2)) ∨ ((¬ (l1 = 20)) ∧ (((l1 = 22) ∧ (0 ≤ l2)) ∨ ((¬ (l1 = 22)) ∧ (((l1 = 23) ∧ (l2 ≤ 0)) ∨ ((¬ (l1 = 23)) ∧ (((l1 = 24) ∧ (¬ (l2 = 0))) ∨ ((¬ (l1 = 24)) ∧ (l2 < 0))))))))))) then 0 else 1) → mK M a0 = 5 ∧ ∀ v57 : Int, v57 = (if (v50 = 0) then 0 else 1) → mK M (mR M a0 6) = 30 ∧ ((0 : Int) ≤ (mI M a0 8) - 1 ∧ (mI M a0 8) - 1 < (mN M (mR M a0 6) : Int)) ∧ ∀ M64, M64 = mUI M (mR M a0 6) (Int.toNat ((mI M a0 8) - 1)) v57 → mK M64 (mR M64 a0 7) = 30 ∧ ((0 : Int) ≤ (mI M64 a0 8) - 1 ∧ (mI M64 a0 8) - 1 < (mN M64 (mR M64 a0 7) : Int)) ∧ ∀ M68, M68 = mUI M64 (mR M64 a0 7) (Int.toNat ((mI M64 a0 8) - 1)) 1 → Q 1 M68))) :
    Ci G y_Ma_relate d [vr a0, vi l1, vi l2] M Q := by
  refine wm_open (y := y_Ma_relate) rfl (Nat.le_of_ble_eq_true rfl) (L := [vr a0, vi l1, vi l2, vd]) rfl ?_
  refine wm_iload_n d_Ma_relate_0 rfl rfl ?_
  refine wm_bipush d_Ma_relate_1 (by decide) ?_
  have hE0 : ((l1 = 15) ∨ (l1 = 16)) → mWm G y_Ma_relate d 12 [vr a0, vi l1, vi l2, vd] [] M (fun r9 M9 => ∃ x9, r9 = some (vi x9) ∧ Q x9 M9) := by
    intro q5
    have h := h.1 q5
    refine wm_iload_n d_Ma_relate_12 rfl rfl ?_
    have hJ : ∀ v7 : Int, v7 = (if (l2 ≤ 0) then 0 else 1) → mWm G y_Ma_relate d 21 [vr a0, vi l1, vd, vd] [vi v7] M (fun r9 M9 => ∃ x9, r9 = some (vi x9) ∧ Q x9 M9) := by
      intro v7 e9
      have h := h v7 e9
      have h10 : i32 v7 := by rw [e9]; (repeat' split) <;> first | exact ⟨by decide, by decide⟩ | exact ⟨by decide, by decide⟩
      have h11 : (v7 = 0 ∨ v7 = 1) := by rw [e9]; (repeat' split) <;> decide
      refine wm_iload_n d_Ma_relate_21 rfl rfl ?_
      refine wm_bipush d_Ma_relate_22 (by decide) ?_
      have hJ : ∀ v13 : Int, v13 = (if (l1 = 15) then 1 else 0) → mWm G y_Ma_relate d 32 [vr a0, vd, vd, vd] [vi v13, vi v7] M (fun r9 M9 => ∃ x9, r9 = some (vi x9) ∧ Q x9 M9) := by
        intro v13 e15
        have h := h v13 e15
        have h16 : i32 v13 := by rw [e15]; (repeat' split) <;> first | exact ⟨by decide, by decide⟩ | exact ⟨by decide, by decide⟩
        have h17 : (v13 = 0 ∨ v13 = 1) := by rw [e15]; (repeat' split) <;> decide
        refine wm_icmp_ne (tgt := 75) d_Ma_relate_32 rfl h10 h16 (fun c19 => ?_) (fun c19 => ?_)
        · replace h := h.2 c19
          refine wm_less (L' := [vd, vd, vd, vd]) ⟨Or.inl rfl, Or.inl rfl, Or.inl rfl, Or.inl rfl, trivial⟩ ?_
          exact h
        · replace c19 := Classical.not_not.mp c19
          replace h := h.1 c19
          obtain ⟨h20, h⟩ := h
          obtain ⟨h21, h⟩ := h
          obtain ⟨h22, h⟩ := h
          obtain ⟨h23, h⟩ := h
          obtain ⟨M24, e25⟩ : ∃ M24, M24 = mUI M (mR M a0 6) (Int.toNat ((mI M a0 8) - 1)) (mI M (mR M a0 6) (Int.toNat (mI M a0 8))) := ⟨_, rfl⟩
          replace h := h M24 e25
          obtain ⟨h26, h⟩ := h
          obtain ⟨h27, h⟩ := h
          obtain ⟨h28, h⟩ := h
          obtain ⟨M29, e30⟩ : ∃ M29, M29 = mUI M24 (mR M24 a0 7) (Int.toNat ((mI M24 a0 8) - 1)) (mI M24 (mR M24 a0 7) (Int.toNat (mI M24 a0 8))) := ⟨_, rfl⟩
          replace h := h M29 e30
          refine wm_aload_n d_Ma_relate_35 rfl rfl ?_
          refine gf_Ma_18 rfl d_Ma_relate_36 h20 ?_
          refine wm_aload_n d_Ma_relate_39 rfl rfl ?_
          refine gf_Ma_52 rfl d_Ma_relate_40 h20 ?_
          refine wm_iconst d_Ma_relate_43 ?_
          refine wm_isub d_Ma_relate_44 ?_
          refine wm_aload_n d_Ma_relate_45 rfl rfl ?_
          refine gf_Ma_18 rfl d_Ma_relate_46 h20 ?_
          refine wm_aload_n d_Ma_relate_49 rfl rfl ?_
          refine gf_Ma_52 rfl d_Ma_relate_50 h20 ?_
          refine wm_iald d_Ma_relate_53 h21 h22 ?_
          have hOM24 : mOk M24 := by rw [e25]; exact mOk_UI hO (hO _ _).1
          refine wm_iastE d_Ma_relate_54 h21 h23 (hO _ _).1 e25 ?_
          refine wm_aload_n d_Ma_relate_55 rfl rfl ?_
          refine gf_Ma_21 rfl d_Ma_relate_56 (by rw [e25]; exact h20) ?_
          refine wm_aload_n d_Ma_relate_59 rfl rfl ?_
          refine gf_Ma_52 rfl d_Ma_relate_60 (by rw [e25]; exact h20) ?_
          refine wm_iconst d_Ma_relate_63 ?_
          refine wm_isub d_Ma_relate_64 ?_
          refine wm_aload_n d_Ma_relate_65 rfl rfl ?_
          refine gf_Ma_21 rfl d_Ma_relate_66 (by rw [e25]; exact h20) ?_
          refine wm_aload_n d_Ma_relate_69 rfl rfl ?_
          refine gf_Ma_52 rfl d_Ma_relate_70 (by rw [e25]; exact h20) ?_
          refine wm_iald d_Ma_relate_73 h26 h27 ?_
          have hOM29 : mOk M29 := by rw [e30]; exact mOk_UI hOM24 (hOM24 _ _).1
          refine wm_iastE d_Ma_relate_74 h26 h28 (hOM24 _ _).1 e30 ?_
          refine wm_less (L' := [vd, vd, vd, vd]) ⟨Or.inl rfl, Or.inl rfl, Or.inl rfl, Or.inl rfl, trivial⟩ ?_
          exact h
      clear h
      refine wm_icmp_ne (tgt := 31) d_Ma_relate_24 rfl hi_l1 ⟨by decide, by decide⟩ (fun c12 => ?_) (fun c12 => ?_)
      · refine wm_iconst d_Ma_relate_31 ?_
        refine wm_less (L' := [vr a0, vd, vd, vd]) ⟨Or.inr rfl, Or.inl rfl, Or.inl rfl, Or.inl rfl, trivial⟩ ?_
        exact hJ 0 (if_neg c12).symm
      · replace c12 := Classical.not_not.mp c12
        refine wm_iconst d_Ma_relate_27 ?_
        refine wm_goto (tgt := 32) d_Ma_relate_28 rfl ?_
        refine wm_less (L' := [vr a0, vd, vd, vd]) ⟨Or.inr rfl, Or.inl rfl, Or.inl rfl, Or.inl rfl, trivial⟩ ?_
        exact hJ 1 (if_pos c12).symm
    clear h
    refine wm_if_le (tgt := 20) d_Ma_relate_13 rfl hi_l2 (fun c6 => ?_) (fun c6 => ?_)
    · refine wm_iconst d_Ma_relate_20 ?_
      refine wm_less (L' := [vr a0, vi l1, vd, vd]) ⟨Or.inr rfl, Or.inr rfl, Or.inl rfl, Or.inl rfl, trivial⟩ ?_
      exact hJ 0 (if_pos c6).symm
    · refine wm_iconst d_Ma_relate_16 ?_
      refine wm_goto (tgt := 21) d_Ma_relate_17 rfl ?_
      refine wm_less (L' := [vr a0, vi l1, vd, vd]) ⟨Or.inr rfl, Or.inr rfl, Or.inl rfl, Or.inl rfl, trivial⟩ ?_
      exact hJ 1 (if_neg c6).symm
  have hE1 : ¬ ((l1 = 15) ∨ (l1 = 16)) → mWm G y_Ma_relate d 77 [vr a0, vi l1, vi l2, vd] [] M (fun r9 M9 => ∃ x9, r9 = some (vi x9) ∧ Q x9 M9) := by
    intro q33
    have h := h.2 q33
    refine wm_iload_n d_Ma_relate_77 rfl rfl ?_
    have hJ : ∀ v50 : Int, v50 = (if (((l1 = 19) ∧ (l2 = 0)) ∨ ((¬ (l1 = 19)) ∧ (((l1 = 20) ∧ (0 < l2)) ∨ ((¬ (l1 = 20)) ∧ (((l1 = 22) ∧ (0 ≤ l2)) ∨ ((¬ (l1 = 22)) ∧ (((l1 = 23) ∧ (l2 ≤ 0)) ∨ ((¬ (l1 = 23)) ∧ (((l1 = 24) ∧ (¬ (l2 = 0))) ∨ ((¬ (l1 = 24)) ∧ (l2 < 0))))))))))) then 0 else 1) → mWm G y_Ma_relate d 191 [vr a0, vd, vd, vi v50] [] M (fun r9 M9 => ∃ x9, r9 = some (vi x9) ∧ Q x9 M9) := by
      intro v50 e52
      have h := h v50 e52
      have h53 : i32 v50 := by rw [e52]; (repeat' split) <;> first | exact ⟨by decide, by decide⟩ | exact ⟨by decide, by decide⟩
      have h54 : (v50 = 0 ∨ v50 = 1) := by rw [e52]; (repeat' split) <;> decide
      obtain ⟨h55, h⟩ := h
      refine wm_aload_n d_Ma_relate_191 rfl rfl ?_
      refine gf_Ma_18 rfl d_Ma_relate_192 h55 ?_
      refine wm_aload_n d_Ma_relate_195 rfl rfl ?_
      refine gf_Ma_52 rfl d_Ma_relate_196 h55 ?_
      refine wm_iconst d_Ma_relate_199 ?_
      refine wm_isub d_Ma_relate_200 ?_
      refine wm_iload_n d_Ma_relate_201 rfl rfl ?_
      have hJ : ∀ v57 : Int, v57 = (if (v50 = 0) then 0 else 1) → mWm G y_Ma_relate d 210 [vr a0, vd, vd, vd] [vi v57, vi ((mI M a0 8) - 1), vr (mR M a0 6)] M (fun r9 M9 => ∃ x9, r9 = some (vi x9) ∧ Q x9 M9) := by
        intro v57 e59
        have h := h v57 e59
        have h60 : i32 v57 := by rw [e59]; (repeat' split) <;> first | exact ⟨by decide, by decide⟩ | exact ⟨by decide, by decide⟩
        have h61 : (v57 = 0 ∨ v57 = 1) := by rw [e59]; (repeat' split) <;> decide
        obtain ⟨h62, h⟩ := h
        obtain ⟨h63, h⟩ := h
        obtain ⟨M64, e65⟩ : ∃ M64, M64 = mUI M (mR M a0 6) (Int.toNat ((mI M a0 8) - 1)) v57 := ⟨_, rfl⟩
        replace h := h M64 e65
        obtain ⟨h66, h⟩ := h
        obtain ⟨h67, h⟩ := h
        obtain ⟨M68, e69⟩ : ∃ M68, M68 = mUI M64 (mR M64 a0 7) (Int.toNat ((mI M64 a0 8) - 1)) 1 := ⟨_, rfl⟩
        replace h := h M68 e69
        have hOM64 : mOk M64 := by rw [e65]; exact mOk_UI hO h60
        refine wm_iastE d_Ma_relate_210 h62 h63 h60 e65 ?_
        refine wm_aload_n d_Ma_relate_211 rfl rfl ?_
        refine gf_Ma_21 rfl d_Ma_relate_212 (by rw [e65]; exact h55) ?_
        refine wm_aload_n d_Ma_relate_215 rfl rfl ?_
        refine gf_Ma_52 rfl d_Ma_relate_216 (by rw [e65]; exact h55) ?_
        refine wm_iconst d_Ma_relate_219 ?_
        refine wm_isub d_Ma_relate_220 ?_
        refine wm_iconst d_Ma_relate_221 ?_
        have hOM68 : mOk M68 := by rw [e69]; exact mOk_UI hOM64 ⟨by decide, by decide⟩
        refine wm_iastE d_Ma_relate_222 h66 h67 ⟨by decide, by decide⟩ e69 ?_
        refine wm_iconst d_Ma_relate_223 ?_
        refine wm_ireturn d_Ma_relate_224 rfl (m_nb (by decide)) ?_
        exact ⟨_, rfl, h⟩
      clear h
      refine wm_if_eq (tgt := 209) d_Ma_relate_202 rfl h53 (fun c56 => ?_) (fun c56 => ?_)
      · refine wm_iconst d_Ma_relate_209 ?_
        refine wm_less (L' := [vr a0, vd, vd, vd]) ⟨Or.inr rfl, Or.inl rfl, Or.inl rfl, Or.inl rfl, trivial⟩ ?_
        exact hJ 0 (if_pos c56).symm
      · refine wm_iconst d_Ma_relate_205 ?_
        refine wm_goto (tgt := 210) d_Ma_relate_206 rfl ?_
        refine wm_less (L' := [vr a0, vd, vd, vd]) ⟨Or.inr rfl, Or.inl rfl, Or.inl rfl, Or.inl rfl, trivial⟩ ?_
        exact hJ 1 (if_neg c56).symm
    clear h
    by_cases c35 : l1 = 19
    · refine wm_tableIn (tgt := 129) (off := 51) d_Ma_relate_78 hi_l1 (by omega) (by omega) (by rw [c35]; rfl) rfl ?_
      refine wm_iload_n d_Ma_relate_129 rfl rfl ?_
      refine wm_if_eq (tgt := 137) d_Ma_relate_130 rfl hi_l2 (fun c36 => ?_) (fun c36 => ?_)
      · refine wm_iconst d_Ma_relate_137 ?_
        refine wm_istore_n d_Ma_relate_138 rfl (by decide) (L' := [vr a0, vi l1, vi l2, vi 0]) rfl ?_
        refine wm_goto (tgt := 191) d_Ma_relate_139 rfl ?_
        refine wm_less (L' := [vr a0, vd, vd, vi 0]) ⟨Or.inr rfl, Or.inl rfl, Or.inl rfl, Or.inr rfl, trivial⟩ ?_
        exact hJ 0 (if_pos (Or.inl ⟨c35, c36⟩)).symm
      · refine wm_iconst d_Ma_relate_133 ?_
        refine wm_goto (tgt := 138) d_Ma_relate_134 rfl ?_
        refine wm_istore_n d_Ma_relate_138 rfl (by decide) (L' := [vr a0, vi l1, vi l2, vi 1]) rfl ?_
        refine wm_goto (tgt := 191) d_Ma_relate_139 rfl ?_
        refine wm_less (L' := [vr a0, vd, vd, vi 1]) ⟨Or.inr rfl, Or.inl rfl, Or.inl rfl, Or.inr rfl, trivial⟩ ?_
        exact hJ 1 (if_neg (fun z71 => Or.elim z71 (fun w => c36 w.2) (fun w => w.1 c35))).symm
    · by_cases c38 : l1 = 20
      · refine wm_tableIn (tgt := 155) (off := 77) d_Ma_relate_78 hi_l1 (by omega) (by omega) (by rw [c38]; rfl) rfl ?_
        refine wm_iload_n d_Ma_relate_155 rfl rfl ?_
        refine wm_if_gt (tgt := 163) d_Ma_relate_156 rfl hi_l2 (fun c39 => ?_) (fun c39 => ?_)
        · refine wm_iconst d_Ma_relate_163 ?_
          refine wm_istore_n d_Ma_relate_164 rfl (by decide) (L' := [vr a0, vi l1, vi l2, vi 0]) rfl ?_
          refine wm_goto (tgt := 191) d_Ma_relate_165 rfl ?_
          refine wm_less (L' := [vr a0, vd, vd, vi 0]) ⟨Or.inr rfl, Or.inl rfl, Or.inl rfl, Or.inr rfl, trivial⟩ ?_
          exact hJ 0 (if_pos (Or.inr ⟨c35, (Or.inl ⟨c38, c39⟩)⟩)).symm
        · refine wm_iconst d_Ma_relate_159 ?_
          refine wm_goto (tgt := 164) d_Ma_relate_160 rfl ?_
          refine wm_istore_n d_Ma_relate_164 rfl (by decide) (L' := [vr a0, vi l1, vi l2, vi 1]) rfl ?_
          refine wm_goto (tgt := 191) d_Ma_relate_165 rfl ?_
          refine wm_less (L' := [vr a0, vd, vd, vi 1]) ⟨Or.inr rfl, Or.inl rfl, Or.inl rfl, Or.inr rfl, trivial⟩ ?_
          exact hJ 1 (if_neg (fun z73 => Or.elim z73 (fun w => c35 w.1) (fun w => (fun z74 => Or.elim z74 (fun w => c39 w.2) (fun w => w.1 c38)) w.2))).symm
      · by_cases c41 : l1 = 22
        · refine wm_tableIn (tgt := 142) (off := 64) d_Ma_relate_78 hi_l1 (by omega) (by omega) (by rw [c41]; rfl) rfl ?_
          refine wm_iload_n d_Ma_relate_142 rfl rfl ?_
          refine wm_if_ge (tgt := 150) d_Ma_relate_143 rfl hi_l2 (fun c42 => ?_) (fun c42 => ?_)
          · refine wm_iconst d_Ma_relate_150 ?_
            refine wm_istore_n d_Ma_relate_151 rfl (by decide) (L' := [vr a0, vi l1, vi l2, vi 0]) rfl ?_
            refine wm_goto (tgt := 191) d_Ma_relate_152 rfl ?_
            refine wm_less (L' := [vr a0, vd, vd, vi 0]) ⟨Or.inr rfl, Or.inl rfl, Or.inl rfl, Or.inr rfl, trivial⟩ ?_
            exact hJ 0 (if_pos (Or.inr ⟨c35, (Or.inr ⟨c38, (Or.inl ⟨c41, c42⟩)⟩)⟩)).symm
          · refine wm_iconst d_Ma_relate_146 ?_
            refine wm_goto (tgt := 151) d_Ma_relate_147 rfl ?_
            refine wm_istore_n d_Ma_relate_151 rfl (by decide) (L' := [vr a0, vi l1, vi l2, vi 1]) rfl ?_
            refine wm_goto (tgt := 191) d_Ma_relate_152 rfl ?_
            refine wm_less (L' := [vr a0, vd, vd, vi 1]) ⟨Or.inr rfl, Or.inl rfl, Or.inl rfl, Or.inr rfl, trivial⟩ ?_
            exact hJ 1 (if_neg (fun z76 => Or.elim z76 (fun w => c35 w.1) (fun w => (fun z77 => Or.elim z77 (fun w => c38 w.1) (fun w => (fun z78 => Or.elim z78 (fun w => c42 w.2) (fun w => w.1 c41)) w.2)) w.2))).symm
        · by_cases c44 : l1 = 23
          · refine wm_tableIn (tgt := 168) (off := 90) d_Ma_relate_78 hi_l1 (by omega) (by omega) (by rw [c44]; rfl) rfl ?_
            refine wm_iload_n d_Ma_relate_168 rfl rfl ?_
            refine wm_if_le (tgt := 176) d_Ma_relate_169 rfl hi_l2 (fun c45 => ?_) (fun c45 => ?_)
            · refine wm_iconst d_Ma_relate_176 ?_
              refine wm_istore_n d_Ma_relate_177 rfl (by decide) (L' := [vr a0, vi l1, vi l2, vi 0]) rfl ?_
              refine wm_goto (tgt := 191) d_Ma_relate_178 rfl ?_
              refine wm_less (L' := [vr a0, vd, vd, vi 0]) ⟨Or.inr rfl, Or.inl rfl, Or.inl rfl, Or.inr rfl, trivial⟩ ?_
              exact hJ 0 (if_pos (Or.inr ⟨c35, (Or.inr ⟨c38, (Or.inr ⟨c41, (Or.inl ⟨c44, c45⟩)⟩)⟩)⟩)).symm
            · refine wm_iconst d_Ma_relate_172 ?_
              refine wm_goto (tgt := 177) d_Ma_relate_173 rfl ?_
              refine wm_istore_n d_Ma_relate_177 rfl (by decide) (L' := [vr a0, vi l1, vi l2, vi 1]) rfl ?_
              refine wm_goto (tgt := 191) d_Ma_relate_178 rfl ?_
              refine wm_less (L' := [vr a0, vd, vd, vi 1]) ⟨Or.inr rfl, Or.inl rfl, Or.inl rfl, Or.inr rfl, trivial⟩ ?_
              exact hJ 1 (if_neg (fun z80 => Or.elim z80 (fun w => c35 w.1) (fun w => (fun z81 => Or.elim z81 (fun w => c38 w.1) (fun w => (fun z82 => Or.elim z82 (fun w => c41 w.1) (fun w => (fun z83 => Or.elim z83 (fun w => c45 w.2) (fun w => w.1 c44)) w.2)) w.2)) w.2))).symm
          · by_cases c47 : l1 = 24
            · refine wm_tableIn (tgt := 116) (off := 38) d_Ma_relate_78 hi_l1 (by omega) (by omega) (by rw [c47]; rfl) rfl ?_
              refine wm_iload_n d_Ma_relate_116 rfl rfl ?_
              refine wm_if_ne (tgt := 124) d_Ma_relate_117 rfl hi_l2 (fun c48 => ?_) (fun c48 => ?_)
              · refine wm_iconst d_Ma_relate_124 ?_
                refine wm_istore_n d_Ma_relate_125 rfl (by decide) (L' := [vr a0, vi l1, vi l2, vi 0]) rfl ?_
                refine wm_goto (tgt := 191) d_Ma_relate_126 rfl ?_
                refine wm_less (L' := [vr a0, vd, vd, vi 0]) ⟨Or.inr rfl, Or.inl rfl, Or.inl rfl, Or.inr rfl, trivial⟩ ?_
                exact hJ 0 (if_pos (Or.inr ⟨c35, (Or.inr ⟨c38, (Or.inr ⟨c41, (Or.inr ⟨c44, (Or.inl ⟨c47, c48⟩)⟩)⟩)⟩)⟩)).symm
              · replace c48 := Classical.not_not.mp c48
                refine wm_iconst d_Ma_relate_120 ?_
                refine wm_goto (tgt := 125) d_Ma_relate_121 rfl ?_
                refine wm_istore_n d_Ma_relate_125 rfl (by decide) (L' := [vr a0, vi l1, vi l2, vi 1]) rfl ?_
                refine wm_goto (tgt := 191) d_Ma_relate_126 rfl ?_
                refine wm_less (L' := [vr a0, vd, vd, vi 1]) ⟨Or.inr rfl, Or.inl rfl, Or.inl rfl, Or.inr rfl, trivial⟩ ?_
                exact hJ 1 (if_neg (fun z85 => Or.elim z85 (fun w => c35 w.1) (fun w => (fun z86 => Or.elim z86 (fun w => c38 w.1) (fun w => (fun z87 => Or.elim z87 (fun w => c41 w.1) (fun w => (fun z88 => Or.elim z88 (fun w => c44 w.1) (fun w => (fun z89 => Or.elim z89 (fun w => (fun z90 => z90 c48) w.2) (fun w => w.1 c47)) w.2)) w.2)) w.2)) w.2))).symm
            · refine wm_tableD (tgt := 181) (off := 103) d_Ma_relate_78 hi_l1 (if q8 : 19 ≤ l1 ∧ l1 ≤ 24 then Or.inr ⟨q8.1, q8.2, by
      have q9 : l1 = 21 := by omega
      rcases q9 with q9 <;> (rw [q9]; rfl)⟩ else Or.inl (by omega)) rfl ?_
              refine wm_iload_n d_Ma_relate_181 rfl rfl ?_
              refine wm_if_lt (tgt := 189) d_Ma_relate_182 rfl hi_l2 (fun c49 => ?_) (fun c49 => ?_)
              · refine wm_iconst d_Ma_relate_189 ?_
                refine wm_istore_n d_Ma_relate_190 rfl (by decide) (L' := [vr a0, vi l1, vi l2, vi 0]) rfl ?_
                refine wm_less (L' := [vr a0, vd, vd, vi 0]) ⟨Or.inr rfl, Or.inl rfl, Or.inl rfl, Or.inr rfl, trivial⟩ ?_
                exact hJ 0 (if_pos (Or.inr ⟨c35, (Or.inr ⟨c38, (Or.inr ⟨c41, (Or.inr ⟨c44, (Or.inr ⟨c47, c49⟩)⟩)⟩)⟩)⟩)).symm
              · refine wm_iconst d_Ma_relate_185 ?_
                refine wm_goto (tgt := 190) d_Ma_relate_186 rfl ?_
                refine wm_istore_n d_Ma_relate_190 rfl (by decide) (L' := [vr a0, vi l1, vi l2, vi 1]) rfl ?_
                refine wm_less (L' := [vr a0, vd, vd, vi 1]) ⟨Or.inr rfl, Or.inl rfl, Or.inl rfl, Or.inr rfl, trivial⟩ ?_
                exact hJ 1 (if_neg (fun z91 => Or.elim z91 (fun w => c35 w.1) (fun w => (fun z92 => Or.elim z92 (fun w => c38 w.1) (fun w => (fun z93 => Or.elim z93 (fun w => c41 w.1) (fun w => (fun z94 => Or.elim z94 (fun w => c44 w.1) (fun w => (fun z95 => Or.elim z95 (fun w => c47 w.1) (fun w => c49 w.2)) w.2)) w.2)) w.2)) w.2))).symm
  clear h
  refine wm_icmp_eq (tgt := 12) d_Ma_relate_3 rfl hi_l1 ⟨by decide, by decide⟩ (fun c3 => ?_) (fun c3 => ?_)
  · exact hE0 (Or.inl c3)
  · refine wm_iload_n d_Ma_relate_6 rfl rfl ?_
    refine wm_bipush d_Ma_relate_7 (by decide) ?_
    refine wm_icmp_ne (tgt := 77) d_Ma_relate_9 rfl hi_l1 ⟨by decide, by decide⟩ (fun c2 => ?_) (fun c2 => ?_)
    · exact hE1 (fun z97 => Or.elim z97 c3 c2)
    · replace c2 := Classical.not_not.mp c2
      exact hE0 (Or.inr c2)
theorem k_Ma_relate_75 {G : mG} {d : Nat} {M : mM} {Q : Int → mM → Prop} (hO : mOk M)
    (h : Q 1 M) :
    h_Ma_relate_75 G d  M Q := by
  unfold h_Ma_relate_75
  refine wm_iconst d_Ma_relate_75 ?_
  refine wm_ireturn d_Ma_relate_76 rfl (m_nb (by decide)) ?_
  exact ⟨_, rfl, h⟩
theorem d_Na_init_0 : decode y_Na_init.2.1 0 = .ok (.aload_n 0, 1) := dc9_42 (by decide +kernel)
theorem d_Na_init_1 : decode y_Na_init.2.1 1 = .ok (.invokespecial 3, 3) := dc9_183 (by decide +kernel)
theorem d_Na_init_4 : decode y_Na_init.2.1 4 = .ok (.aload_n 0, 1) := dc9_42 (by decide +kernel)
theorem d_Na_init_5 : decode y_Na_init.2.1 5 = .ok (.iconst 4, 1) := dc9_7 (by decide +kernel)
theorem d_Na_init_6 : decode y_Na_init.2.1 6 = .ok (.newarray .int, 2) := by decide +kernel
theorem d_Na_init_8 : decode y_Na_init.2.1 8 = .ok (.putfield 9, 3) := dc9_181 (by decide +kernel)
theorem d_Na_init_11 : decode y_Na_init.2.1 11 = .ok (.aload_n 0, 1) := dc9_42 (by decide +kernel)
theorem d_Na_init_12 : decode y_Na_init.2.1 12 = .ok (.iconst 0, 1) := dc9_3 (by decide +kernel)
theorem d_Na_init_13 : decode y_Na_init.2.1 13 = .ok (.putfield 13, 3) := dc9_181 (by decide +kernel)
theorem d_Na_init_16 : decode y_Na_init.2.1 16 = .ok (.return_, 1) := dc9_177 (by decide +kernel)
theorem k_Na_init {G : mG} {d : Nat} {a0 : Nat} {M : mM} {Q : mM → Prop} (hO : mOk M)
    (h : 0 < a0 ∧ ∀ M2, M2 = mNew M 30 4 4 → mK M2 a0 = 10 ∧ ∀ M5, M5 = mUR M2 a0 0 (mZ M) → ∀ M7, M7 = mUI M5 a0 1 0 → Q M7) :
    Cv G y_Na_init (d + 1) [vr a0] M Q := by
  refine wm_open (y := y_Na_init) rfl (Nat.le_of_ble_eq_true rfl) (L := [vr a0]) rfl ?_
  obtain ⟨h1, h⟩ := h
  obtain ⟨M2, e3⟩ : ∃ M2, M2 = mNew M 30 4 4 := ⟨_, rfl⟩
  replace h := h M2 e3
  obtain ⟨h4, h⟩ := h
  obtain ⟨M5, e6⟩ : ∃ M5, M5 = mUR M2 a0 0 (mZ M) := ⟨_, rfl⟩
  replace h := h M5 e6
  obtain ⟨M7, e8⟩ : ∃ M7, M7 = mUI M5 a0 1 0 := ⟨_, rfl⟩
  replace h := h M7 e8
  refine wm_aload_n d_Na_init_0 rfl rfl ?_
  refine wm_objInit trivial k2_238 kO_inst kO_code (Nat.le_of_ble_eq_true rfl) d_Na_init_1 h1 ?_
  refine wm_aload_n d_Na_init_4 rfl rfl ?_
  refine wm_iconst d_Na_init_5 ?_
  have hOM2 : mOk M2 := by rw [e3]; exact mOk_New hO
  refine wm_newarrE 0 (atype := .int) (ty := .int) rfl rfl (fun _ => rfl) rfl rfl (by decide) k1_82 ⟨by decide, by decide⟩ d_Na_init_6 e3 ?_
  have hOM5 : mOk M5 := by rw [e6]; exact mOk_UR hOM2
  refine pf_Na_9 rfl d_Na_init_8 h4 e6 ?_
  refine wm_aload_n d_Na_init_11 rfl rfl ?_
  refine wm_iconst d_Na_init_12 ?_
  have hOM7 : mOk M7 := by rw [e8]; exact mOk_UI hOM5 ⟨by decide, by decide⟩
  refine pf_Na_13 rfl d_Na_init_13 (by rw [e6]; exact h4) ⟨by decide, by decide⟩ e8 ?_
  refine wm_return d_Na_init_16 rfl ?_
  exact ⟨rfl, h⟩
theorem d_Na_reserve_0 : decode y_Na_reserve.2.1 0 = .ok (.iload_n 1, 1) := dc9_27 (by decide +kernel)
theorem d_Na_reserve_1 : decode y_Na_reserve.2.1 1 = .ok (.aload_n 0, 1) := dc9_42 (by decide +kernel)
theorem d_Na_reserve_2 : decode y_Na_reserve.2.1 2 = .ok (.getfield 9, 3) := dc9_180 (by decide +kernel)
theorem d_Na_reserve_5 : decode y_Na_reserve.2.1 5 = .ok (.arraylength, 1) := dc9_190 (by decide +kernel)
theorem d_Na_reserve_6 : decode y_Na_reserve.2.1 6 = .ok (.if_icmp .le 25, 3) := dc9_164 (by decide +kernel)
theorem d_Na_reserve_9 : decode y_Na_reserve.2.1 9 = .ok (.aload_n 0, 1) := dc9_42 (by decide +kernel)
theorem d_Na_reserve_10 : decode y_Na_reserve.2.1 10 = .ok (.aload_n 0, 1) := dc9_42 (by decide +kernel)
theorem d_Na_reserve_11 : decode y_Na_reserve.2.1 11 = .ok (.getfield 9, 3) := dc9_180 (by decide +kernel)
theorem d_Na_reserve_14 : decode y_Na_reserve.2.1 14 = .ok (.iload_n 1, 1) := dc9_27 (by decide +kernel)
theorem d_Na_reserve_15 : decode y_Na_reserve.2.1 15 = .ok (.iconst 2, 1) := dc9_5 (by decide +kernel)
theorem d_Na_reserve_16 : decode y_Na_reserve.2.1 16 = .ok (.aload_n 0, 1) := dc9_42 (by decide +kernel)
theorem d_Na_reserve_17 : decode y_Na_reserve.2.1 17 = .ok (.getfield 9, 3) := dc9_180 (by decide +kernel)
theorem d_Na_reserve_20 : decode y_Na_reserve.2.1 20 = .ok (.arraylength, 1) := dc9_190 (by decide +kernel)
theorem d_Na_reserve_21 : decode y_Na_reserve.2.1 21 = .ok (.imul, 1) := dc9_104 (by decide +kernel)
theorem d_Na_reserve_22 : decode y_Na_reserve.2.1 22 = .ok (.invokestatic 17, 3) := dc9_184 (by decide +kernel)
theorem d_Na_reserve_31 : decode y_Na_reserve.2.1 31 = .ok (.return_, 1) := dc9_177 (by decide +kernel)
theorem d_Na_reserve_25 : decode y_Na_reserve.2.1 25 = .ok (.invokestatic 23, 3) := dc9_184 (by decide +kernel)
theorem d_Na_reserve_28 : decode y_Na_reserve.2.1 28 = .ok (.putfield 9, 3) := dc9_181 (by decide +kernel)
theorem k_Na_reserve {G : mG} {d : Nat} {a0 : Nat} {l1 : Int} {M : mM} {Q : mM → Prop} (hO : mOk M) (hi_l1 : i32 l1)
    (h : mK M a0 = 10 ∧ mK M (mR M a0 0) = 30 ∧ i32 (mN M (mR M a0 0) : Int) ∧ ((l1 ≤ (mN M (mR M a0 0) : Int)) → (Q M)) ∧ (¬ (l1 ≤ (mN M (mR M a0 0) : Int)) → (i32 (2 * (mN M (mR M a0 0) : Int)) ∧ Cr G y_JA_copyOf d [vr (mR M a0 0), vi (if l1 < 2 * (mN M (mR M a0 0) : Int) then 2 * (mN M (mR M a0 0) : Int) else l1)] M (fun x12 M11 => mOk M11 ∧ (mK M11 a0 = 10 ∧ ∀ M15, M15 = mUR M11 a0 0 x12 → Q M15))))) :
    Cv G y_Na_reserve (d + 1) [vr a0, vi l1] M Q := by
  refine wm_open (y := y_Na_reserve) rfl (Nat.le_of_ble_eq_true rfl) (L := [vr a0, vi l1]) rfl ?_
  obtain ⟨h1, h⟩ := h
  obtain ⟨h2, h⟩ := h
  obtain ⟨h8, h⟩ := h
  refine wm_iload_n d_Na_reserve_0 rfl rfl ?_
  refine wm_aload_n d_Na_reserve_1 rfl rfl ?_
  refine gf_Na_9 rfl d_Na_reserve_2 h1 ?_
  refine wm_alen 0 rfl (fun _ => rfl) d_Na_reserve_5 h2 ?_
  refine wm_icmp_le (tgt := 31) d_Na_reserve_6 rfl hi_l1 h8 (fun c9 => ?_) (fun c9 => ?_)
  · replace h := h.1 c9
    refine wm_return d_Na_reserve_31 rfl ?_
    exact ⟨rfl, h⟩
  · replace h := h.2 c9
    obtain ⟨h10, h⟩ := h
    refine wm_aload_n d_Na_reserve_9 rfl rfl ?_
    refine wm_aload_n d_Na_reserve_10 rfl rfl ?_
    refine gf_Na_9 rfl d_Na_reserve_11 h1 ?_
    refine wm_iload_n d_Na_reserve_14 rfl rfl ?_
    refine wm_iconst d_Na_reserve_15 ?_
    refine wm_aload_n d_Na_reserve_16 rfl rfl ?_
    refine gf_Na_9 rfl d_Na_reserve_17 h1 ?_
    refine wm_alen 0 rfl (fun _ => rfl) d_Na_reserve_20 h2 ?_
    refine wm_imul d_Na_reserve_21 ?_
    refine wm_mmax k5_191 (Nat.le_of_ble_eq_true rfl) hi_l1 h10 d_Na_reserve_22 ?_
    refine cf_Na_23 rfl d_Na_reserve_25 (Nat.le_of_ble_eq_true rfl) (Cr.mono h (fun x12 M11 h => ?_))
    obtain ⟨hOM11, h⟩ := h
    obtain ⟨h14, h⟩ := h
    obtain ⟨M15, e16⟩ : ∃ M15, M15 = mUR M11 a0 0 x12 := ⟨_, rfl⟩
    replace h := h M15 e16
    have hOM15 : mOk M15 := by rw [e16]; exact mOk_UR hOM11
    refine pf_Na_9 rfl d_Na_reserve_28 h14 e16 ?_
    refine wm_return d_Na_reserve_31 rfl ?_
    exact ⟨rfl, h⟩
theorem d_Na_trim_0 : decode y_Na_trim.2.1 0 = .ok (.aload_n 0, 1) := dc9_42 (by decide +kernel)
theorem d_Na_trim_1 : decode y_Na_trim.2.1 1 = .ok (.iload_n 1, 1) := dc9_27 (by decide +kernel)
theorem d_Na_trim_2 : decode y_Na_trim.2.1 2 = .ok (.putfield 13, 3) := dc9_181 (by decide +kernel)
theorem d_Na_trim_5 : decode y_Na_trim.2.1 5 = .ok (.aload_n 0, 1) := dc9_42 (by decide +kernel)
theorem d_Na_trim_6 : decode y_Na_trim.2.1 6 = .ok (.getfield 13, 3) := dc9_180 (by decide +kernel)
theorem d_Na_trim_9 : decode y_Na_trim.2.1 9 = .ok (.ifCond .le 30, 3) := dc9_158 (by decide +kernel)
theorem d_Na_trim_12 : decode y_Na_trim.2.1 12 = .ok (.aload_n 0, 1) := dc9_42 (by decide +kernel)
theorem d_Na_trim_13 : decode y_Na_trim.2.1 13 = .ok (.getfield 9, 3) := dc9_180 (by decide +kernel)
theorem d_Na_trim_16 : decode y_Na_trim.2.1 16 = .ok (.aload_n 0, 1) := dc9_42 (by decide +kernel)
theorem d_Na_trim_17 : decode y_Na_trim.2.1 17 = .ok (.getfield 13, 3) := dc9_180 (by decide +kernel)
theorem d_Na_trim_20 : decode y_Na_trim.2.1 20 = .ok (.iconst 1, 1) := dc9_4 (by decide +kernel)
theorem d_Na_trim_21 : decode y_Na_trim.2.1 21 = .ok (.isub, 1) := dc9_100 (by decide +kernel)
theorem d_Na_trim_22 : decode y_Na_trim.2.1 22 = .ok (.iaload, 1) := dc9_46 (by decide +kernel)
theorem d_Na_trim_23 : decode y_Na_trim.2.1 23 = .ok (.ifCond .ne 16, 3) := dc9_154 (by decide +kernel)
theorem d_Na_trim_26 : decode y_Na_trim.2.1 26 = .ok (.aload_n 0, 1) := dc9_42 (by decide +kernel)
theorem d_Na_trim_27 : decode y_Na_trim.2.1 27 = .ok (.dup, 1) := dc9_89 (by decide +kernel)
theorem d_Na_trim_28 : decode y_Na_trim.2.1 28 = .ok (.getfield 13, 3) := dc9_180 (by decide +kernel)
theorem d_Na_trim_31 : decode y_Na_trim.2.1 31 = .ok (.iconst 1, 1) := dc9_4 (by decide +kernel)
theorem d_Na_trim_32 : decode y_Na_trim.2.1 32 = .ok (.isub, 1) := dc9_100 (by decide +kernel)
theorem d_Na_trim_33 : decode y_Na_trim.2.1 33 = .ok (.putfield 13, 3) := dc9_181 (by decide +kernel)
theorem d_Na_trim_36 : decode y_Na_trim.2.1 36 = .ok (.goto (-31), 3) := dc9_167 (by decide +kernel)
theorem d_Na_trim_39 : decode y_Na_trim.2.1 39 = .ok (.return_, 1) := dc9_177 (by decide +kernel)
def h_Na_trim_5 (G : mG) (d : Nat) (a0 : Nat) (M : mM) (Q : mM → Prop) : Prop := mWm G y_Na_trim d 5 [vr a0, vd] [] M (fun r9 M9 => r9 = none ∧ Q M9)
theorem k_Na_trim {G : mG} {d : Nat} {a0 : Nat} {l1 : Int} {M : mM} {Q : mM → Prop} (hO : mOk M) (hi_l1 : i32 l1)
    (h : mK M a0 = 10 ∧ ∀ M2, M2 = mUI M a0 1 l1 → h_Na_trim_5 G d a0 M2 Q) :
    Cv G y_Na_trim d [vr a0, vi l1] M Q := by
  refine wm_open (y := y_Na_trim) rfl (Nat.le_of_ble_eq_true rfl) (L := [vr a0, vi l1]) rfl ?_
  obtain ⟨h1, h⟩ := h
  obtain ⟨M2, e3⟩ : ∃ M2, M2 = mUI M a0 1 l1 := ⟨_, rfl⟩
  replace h := h M2 e3
  refine wm_aload_n d_Na_trim_0 rfl rfl ?_
  refine wm_iload_n d_Na_trim_1 rfl rfl ?_
  have hOM2 : mOk M2 := by rw [e3]; exact mOk_UI hO hi_l1
  refine pf_Na_13 rfl d_Na_trim_2 h1 hi_l1 e3 ?_
  refine wm_less (L' := [vr a0, vd]) ⟨Or.inr rfl, Or.inl rfl, trivial⟩ ?_
  exact h
theorem k_Na_trim_5 {G : mG} {d : Nat} {a0 : Nat} {M : mM} {Q : mM → Prop} (hO : mOk M)
    (h : mK M a0 = 10 ∧ (¬ (mI M a0 1 ≤ 0) → (mK M (mR M a0 0) = 30 ∧ ((0 : Int) ≤ (mI M a0 1) - 1 ∧ (mI M a0 1) - 1 < (mN M (mR M a0 0) : Int)))) ∧ (((mI M a0 1 ≤ 0) ∨ (¬ (mI M (mR M a0 0) (Int.toNat ((mI M a0 1) - 1)) = 0))) → (Q M)) ∧ (¬ ((mI M a0 1 ≤ 0) ∨ (¬ (mI M (mR M a0 0) (Int.toNat ((mI M a0 1) - 1)) = 0))) → (i32 ((mI M a0 1) - 1) ∧ ∀ M14, M14 = mUI M a0 1 ((mI M a0 1) - 1) → h_Na_trim_5 G d a0 M14 Q))) :
    h_Na_trim_5 G d a0 M Q := by
  unfold h_Na_trim_5
  obtain ⟨h4, h⟩ := h
  refine wm_aload_n d_Na_trim_5 rfl rfl ?_
  refine gf_Na_13 rfl d_Na_trim_6 h4 ?_
  obtain ⟨s10, h⟩ := h
  have hE0 : ((mI M a0 1 ≤ 0) ∨ (¬ (mI M (mR M a0 0) (Int.toNat ((mI M a0 1) - 1)) = 0))) → mWm G y_Na_trim d 39 [vr a0, vd] [] M (fun r9 M9 => r9 = none ∧ Q M9) := by
    intro q11
    have h := h.1 q11
    refine wm_return d_Na_trim_39 rfl ?_
    exact ⟨rfl, h⟩
  have hE1 : ¬ ((mI M a0 1 ≤ 0) ∨ (¬ (mI M (mR M a0 0) (Int.toNat ((mI M a0 1) - 1)) = 0))) → mWm G y_Na_trim d 26 [vr a0, vd] [] M (fun r9 M9 => r9 = none ∧ Q M9) := by
    intro q12
    have h := h.2 q12
    obtain ⟨h13, h⟩ := h
    obtain ⟨M14, e15⟩ : ∃ M14, M14 = mUI M a0 1 ((mI M a0 1) - 1) := ⟨_, rfl⟩
    replace h := h M14 e15
    refine wm_aload_n d_Na_trim_26 rfl rfl ?_
    refine wm_dup d_Na_trim_27 rfl ?_
    refine gf_Na_13 rfl d_Na_trim_28 h4 ?_
    refine wm_iconst d_Na_trim_31 ?_
    refine wm_isub d_Na_trim_32 ?_
    have hOM14 : mOk M14 := by rw [e15]; exact mOk_UI hO h13
    refine pf_Na_13 rfl d_Na_trim_33 h4 h13 e15 ?_
    refine wm_goto (tgt := 5) d_Na_trim_36 rfl ?_
    exact h
  clear h
  have s16 := s10
  refine wm_if_le (tgt := 39) d_Na_trim_9 rfl (hO _ _).1 (fun c9 => ?_) (fun c9 => ?_)
  · exact hE0 (Or.inl c9)
  · have s16 := s16 c9
    obtain ⟨h5, h6⟩ := s16
    refine wm_aload_n d_Na_trim_12 rfl rfl ?_
    refine gf_Na_9 rfl d_Na_trim_13 h4 ?_
    refine wm_aload_n d_Na_trim_16 rfl rfl ?_
    refine gf_Na_13 rfl d_Na_trim_17 h4 ?_
    refine wm_iconst d_Na_trim_20 ?_
    refine wm_isub d_Na_trim_21 ?_
    refine wm_iald d_Na_trim_22 h5 h6 ?_
    refine wm_if_ne (tgt := 39) d_Na_trim_23 rfl (hO _ _).1 (fun c8 => ?_) (fun c8 => ?_)
    · exact hE0 (Or.inr c8)
    · replace c8 := Classical.not_not.mp c8
      exact hE1 (fun z17 => Or.elim z17 c9 (fun z18 => z18 c8))
theorem d_Na_put0_0 : decode y_Na_put0.2.1 0 = .ok (.aload_n 0, 1) := dc9_42 (by decide +kernel)
theorem d_Na_put0_1 : decode y_Na_put0.2.1 1 = .ok (.getfield 9, 3) := dc9_180 (by decide +kernel)
theorem d_Na_put0_4 : decode y_Na_put0.2.1 4 = .ok (.iconst 0, 1) := dc9_3 (by decide +kernel)
theorem d_Na_put0_5 : decode y_Na_put0.2.1 5 = .ok (.iload_n 1, 1) := dc9_27 (by decide +kernel)
theorem d_Na_put0_6 : decode y_Na_put0.2.1 6 = .ok (.iastore, 1) := dc9_79 (by decide +kernel)
theorem d_Na_put0_7 : decode y_Na_put0.2.1 7 = .ok (.aload_n 0, 1) := dc9_42 (by decide +kernel)
theorem d_Na_put0_8 : decode y_Na_put0.2.1 8 = .ok (.iload_n 1, 1) := dc9_27 (by decide +kernel)
theorem d_Na_put0_9 : decode y_Na_put0.2.1 9 = .ok (.ifCond .ne 7, 3) := dc9_154 (by decide +kernel)
theorem d_Na_put0_12 : decode y_Na_put0.2.1 12 = .ok (.iconst 0, 1) := dc9_3 (by decide +kernel)
theorem d_Na_put0_13 : decode y_Na_put0.2.1 13 = .ok (.goto 4, 3) := dc9_167 (by decide +kernel)
theorem d_Na_put0_16 : decode y_Na_put0.2.1 16 = .ok (.iconst 1, 1) := dc9_4 (by decide +kernel)
theorem d_Na_put0_17 : decode y_Na_put0.2.1 17 = .ok (.putfield 13, 3) := dc9_181 (by decide +kernel)
theorem d_Na_put0_20 : decode y_Na_put0.2.1 20 = .ok (.return_, 1) := dc9_177 (by decide +kernel)
theorem k_Na_put0 {G : mG} {d : Nat} {a0 : Nat} {l1 : Int} {M : mM} {Q : mM → Prop} (hO : mOk M) (hi_l1 : i32 l1)
    (h : mK M a0 = 10 ∧ mK M (mR M a0 0) = 30 ∧ ((0 : Int) ≤ 0 ∧ 0 < (mN M (mR M a0 0) : Int)) ∧ ∀ M4, M4 = mUI M (mR M a0 0) 0 l1 → ∀ v7 : Int, v7 = (if (l1 = 0) then 0 else 1) → ∀ M12, M12 = mUI M4 a0 1 v7 → Q M12) :
    Cv G y_Na_put0 d [vr a0, vi l1] M Q := by
  refine wm_open (y := y_Na_put0) rfl (Nat.le_of_ble_eq_true rfl) (L := [vr a0, vi l1]) rfl ?_
  obtain ⟨h1, h⟩ := h
  obtain ⟨h2, h⟩ := h
  obtain ⟨h3, h⟩ := h
  obtain ⟨M4, e5⟩ : ∃ M4, M4 = mUI M (mR M a0 0) 0 l1 := ⟨_, rfl⟩
  replace h := h M4 e5
  refine wm_aload_n d_Na_put0_0 rfl rfl ?_
  refine gf_Na_9 rfl d_Na_put0_1 h1 ?_
  refine wm_iconst d_Na_put0_4 ?_
  refine wm_iload_n d_Na_put0_5 rfl rfl ?_
  have hOM4 : mOk M4 := by rw [e5]; exact mOk_UI hO hi_l1
  refine wm_iastE d_Na_put0_6 h2 h3 hi_l1 e5 ?_
  refine wm_aload_n d_Na_put0_7 rfl rfl ?_
  refine wm_iload_n d_Na_put0_8 rfl rfl ?_
  have hJ : ∀ v7 : Int, v7 = (if (l1 = 0) then 0 else 1) → mWm G y_Na_put0 d 17 [vd, vd] [vi v7, vr a0] M4 (fun r9 M9 => r9 = none ∧ Q M9) := by
    intro v7 e9
    have h := h v7 e9
    have h10 : i32 v7 := by rw [e9]; (repeat' split) <;> first | exact ⟨by decide, by decide⟩ | exact ⟨by decide, by decide⟩
    have h11 : (v7 = 0 ∨ v7 = 1) := by rw [e9]; (repeat' split) <;> decide
    obtain ⟨M12, e13⟩ : ∃ M12, M12 = mUI M4 a0 1 v7 := ⟨_, rfl⟩
    replace h := h M12 e13
    have hOM12 : mOk M12 := by rw [e13]; exact mOk_UI hOM4 h10
    refine pf_Na_13 rfl d_Na_put0_17 (by rw [e5]; exact h1) h10 e13 ?_
    refine wm_return d_Na_put0_20 rfl ?_
    exact ⟨rfl, h⟩
  clear h
  refine wm_if_ne (tgt := 16) d_Na_put0_9 rfl hi_l1 (fun c6 => ?_) (fun c6 => ?_)
  · refine wm_iconst d_Na_put0_16 ?_
    refine wm_less (L' := [vd, vd]) ⟨Or.inl rfl, Or.inl rfl, trivial⟩ ?_
    exact hJ 1 (if_neg c6).symm
  · replace c6 := Classical.not_not.mp c6
    refine wm_iconst d_Na_put0_12 ?_
    refine wm_goto (tgt := 17) d_Na_put0_13 rfl ?_
    refine wm_less (L' := [vd, vd]) ⟨Or.inl rfl, Or.inl rfl, trivial⟩ ?_
    exact hJ 0 (if_pos c6).symm
theorem d_Na_putLong_0 : decode y_Na_putLong.2.1 0 = .ok (.aload_n 0, 1) := dc9_42 (by decide +kernel)
theorem d_Na_putLong_1 : decode y_Na_putLong.2.1 1 = .ok (.getfield 9, 3) := dc9_180 (by decide +kernel)
theorem d_Na_putLong_4 : decode y_Na_putLong.2.1 4 = .ok (.iconst 0, 1) := dc9_3 (by decide +kernel)
theorem d_Na_putLong_5 : decode y_Na_putLong.2.1 5 = .ok (.lload_n 1, 1) := dc9_31 (by decide +kernel)
theorem d_Na_putLong_6 : decode y_Na_putLong.2.1 6 = .ok (.ldc2_w 29, 3) := dc9_20 (by decide +kernel)
theorem d_Na_putLong_9 : decode y_Na_putLong.2.1 9 = .ok (.land, 1) := dc9_127 (by decide +kernel)
theorem d_Na_putLong_10 : decode y_Na_putLong.2.1 10 = .ok (.l2i, 1) := dc9_136 (by decide +kernel)
theorem d_Na_putLong_11 : decode y_Na_putLong.2.1 11 = .ok (.iastore, 1) := dc9_79 (by decide +kernel)
theorem d_Na_putLong_12 : decode y_Na_putLong.2.1 12 = .ok (.aload_n 0, 1) := dc9_42 (by decide +kernel)
theorem d_Na_putLong_13 : decode y_Na_putLong.2.1 13 = .ok (.getfield 9, 3) := dc9_180 (by decide +kernel)
theorem d_Na_putLong_16 : decode y_Na_putLong.2.1 16 = .ok (.iconst 1, 1) := dc9_4 (by decide +kernel)
theorem d_Na_putLong_17 : decode y_Na_putLong.2.1 17 = .ok (.lload_n 1, 1) := dc9_31 (by decide +kernel)
theorem d_Na_putLong_18 : decode y_Na_putLong.2.1 18 = .ok (.bipush 30, 2) := dc9_16 (by decide +kernel)
theorem d_Na_putLong_20 : decode y_Na_putLong.2.1 20 = .ok (.lushr, 1) := dc9_125 (by decide +kernel)
theorem d_Na_putLong_21 : decode y_Na_putLong.2.1 21 = .ok (.l2i, 1) := dc9_136 (by decide +kernel)
theorem d_Na_putLong_22 : decode y_Na_putLong.2.1 22 = .ok (.iastore, 1) := dc9_79 (by decide +kernel)
theorem d_Na_putLong_23 : decode y_Na_putLong.2.1 23 = .ok (.aload_n 0, 1) := dc9_42 (by decide +kernel)
theorem d_Na_putLong_24 : decode y_Na_putLong.2.1 24 = .ok (.iconst 2, 1) := dc9_5 (by decide +kernel)
theorem d_Na_putLong_25 : decode y_Na_putLong.2.1 25 = .ok (.invokevirtual 31, 3) := dc9_182 (by decide +kernel)
theorem d_Na_putLong_28 : decode y_Na_putLong.2.1 28 = .ok (.return_, 1) := dc9_177 (by decide +kernel)
theorem k_Na_putLong {G : mG} {d : Nat} {a0 : Nat} {j1 : Int} {M : mM} {Q : mM → Prop} (hO : mOk M) (hi_j1 : i64 j1)
    (h : mK M a0 = 10 ∧ mK M (mR M a0 0) = 30 ∧ ((0 : Int) ≤ 0 ∧ 0 < (mN M (mR M a0 0) : Int)) ∧ i32 (andL j1 1073741823) ∧ ∀ M5, M5 = mUI M (mR M a0 0) 0 (andL j1 1073741823) → mK M5 (mR M5 a0 0) = 30 ∧ ((0 : Int) ≤ 1 ∧ 1 < (mN M5 (mR M5 a0 0) : Int)) ∧ i32 (ushrL j1 30) ∧ ∀ M10, M10 = mUI M5 (mR M5 a0 0) 1 (ushrL j1 30) → Cv G y_Na_trim d [vr a0, vi 2] M10 (fun M12 => mOk M12 ∧ (Q M12))) :
    Cv G y_Na_putLong (d + 1) [vr a0, vl j1] M Q := by
  refine wm_open (y := y_Na_putLong) rfl (Nat.le_of_ble_eq_true rfl) (L := [vr a0, vl j1, vd]) rfl ?_
  obtain ⟨h1, h⟩ := h
  obtain ⟨h2, h⟩ := h
  obtain ⟨h3, h⟩ := h
  obtain ⟨h4, h⟩ := h
  obtain ⟨M5, e6⟩ : ∃ M5, M5 = mUI M (mR M a0 0) 0 (andL j1 1073741823) := ⟨_, rfl⟩
  replace h := h M5 e6
  obtain ⟨h7, h⟩ := h
  obtain ⟨h8, h⟩ := h
  obtain ⟨h9, h⟩ := h
  obtain ⟨M10, e11⟩ : ∃ M10, M10 = mUI M5 (mR M5 a0 0) 1 (ushrL j1 30) := ⟨_, rfl⟩
  replace h := h M10 e11
  refine wm_aload_n d_Na_putLong_0 rfl rfl ?_
  refine gf_Na_9 rfl d_Na_putLong_1 h1 ?_
  refine wm_iconst d_Na_putLong_4 ?_
  refine wm_lload_n d_Na_putLong_5 rfl rfl ?_
  refine wm_ldc2 (x := 1073741823) d_Na_putLong_6 k5_202 (by decide) ?_
  refine wm_land d_Na_putLong_9 ?_
  refine wm_l2i d_Na_putLong_10 ?_
  have hOM5 : mOk M5 := by rw [e6]; exact mOk_UI hO h4
  refine wm_iastE d_Na_putLong_11 h2 h3 h4 e6 ?_
  refine wm_aload_n d_Na_putLong_12 rfl rfl ?_
  refine gf_Na_9 rfl d_Na_putLong_13 (by rw [e6]; exact h1) ?_
  refine wm_iconst d_Na_putLong_16 ?_
  refine wm_lload_n d_Na_putLong_17 rfl rfl ?_
  refine wm_bipush d_Na_putLong_18 (by decide) ?_
  refine wm_lushr d_Na_putLong_20 ?_
  refine wm_l2i d_Na_putLong_21 ?_
  have hOM10 : mOk M10 := by rw [e11]; exact mOk_UI hOM5 h9
  refine wm_iastE d_Na_putLong_22 h7 h8 h9 e11 ?_
  refine wm_aload_n d_Na_putLong_23 rfl rfl ?_
  refine wm_iconst d_Na_putLong_24 ?_
  refine cf_Na_31 rfl d_Na_putLong_25 (by rw [e11, e6]; exact h1) (Nat.le_of_ble_eq_true rfl) (Cv.mono h (fun M12 h => ?_))
  obtain ⟨hOM12, h⟩ := h
  refine wm_return d_Na_putLong_28 rfl ?_
  exact ⟨rfl, h⟩
theorem d_Na_put1_0 : decode y_Na_put1.2.1 0 = .ok (.aload_n 1, 1) := dc9_43 (by decide +kernel)
theorem d_Na_put1_1 : decode y_Na_put1.2.1 1 = .ok (.getfield 13, 3) := dc9_180 (by decide +kernel)
theorem d_Na_put1_4 : decode y_Na_put1.2.1 4 = .ok (.aload_n 0, 1) := dc9_42 (by decide +kernel)
theorem d_Na_put1_5 : decode y_Na_put1.2.1 5 = .ok (.getfield 9, 3) := dc9_180 (by decide +kernel)
theorem d_Na_put1_8 : decode y_Na_put1.2.1 8 = .ok (.arraylength, 1) := dc9_190 (by decide +kernel)
theorem d_Na_put1_9 : decode y_Na_put1.2.1 9 = .ok (.if_icmp .le 23, 3) := dc9_164 (by decide +kernel)
theorem d_Na_put1_12 : decode y_Na_put1.2.1 12 = .ok (.aload_n 0, 1) := dc9_42 (by decide +kernel)
theorem d_Na_put1_13 : decode y_Na_put1.2.1 13 = .ok (.aload_n 1, 1) := dc9_43 (by decide +kernel)
theorem d_Na_put1_14 : decode y_Na_put1.2.1 14 = .ok (.getfield 13, 3) := dc9_180 (by decide +kernel)
theorem d_Na_put1_17 : decode y_Na_put1.2.1 17 = .ok (.iconst 2, 1) := dc9_5 (by decide +kernel)
theorem d_Na_put1_18 : decode y_Na_put1.2.1 18 = .ok (.aload_n 0, 1) := dc9_42 (by decide +kernel)
theorem d_Na_put1_19 : decode y_Na_put1.2.1 19 = .ok (.getfield 9, 3) := dc9_180 (by decide +kernel)
theorem d_Na_put1_22 : decode y_Na_put1.2.1 22 = .ok (.arraylength, 1) := dc9_190 (by decide +kernel)
theorem d_Na_put1_23 : decode y_Na_put1.2.1 23 = .ok (.imul, 1) := dc9_104 (by decide +kernel)
theorem d_Na_put1_24 : decode y_Na_put1.2.1 24 = .ok (.invokestatic 17, 3) := dc9_184 (by decide +kernel)
theorem d_Na_put1_32 : decode y_Na_put1.2.1 32 = .ok (.aload_n 1, 1) := dc9_43 (by decide +kernel)
theorem d_Na_put1_33 : decode y_Na_put1.2.1 33 = .ok (.getfield 9, 3) := dc9_180 (by decide +kernel)
theorem d_Na_put1_36 : decode y_Na_put1.2.1 36 = .ok (.iconst 0, 1) := dc9_3 (by decide +kernel)
theorem d_Na_put1_37 : decode y_Na_put1.2.1 37 = .ok (.aload_n 0, 1) := dc9_42 (by decide +kernel)
theorem d_Na_put1_38 : decode y_Na_put1.2.1 38 = .ok (.getfield 9, 3) := dc9_180 (by decide +kernel)
theorem d_Na_put1_41 : decode y_Na_put1.2.1 41 = .ok (.iconst 0, 1) := dc9_3 (by decide +kernel)
theorem d_Na_put1_42 : decode y_Na_put1.2.1 42 = .ok (.aload_n 1, 1) := dc9_43 (by decide +kernel)
theorem d_Na_put1_43 : decode y_Na_put1.2.1 43 = .ok (.getfield 13, 3) := dc9_180 (by decide +kernel)
theorem d_Na_put1_46 : decode y_Na_put1.2.1 46 = .ok (.invokestatic 35, 3) := dc9_184 (by decide +kernel)
theorem d_Na_put1_49 : decode y_Na_put1.2.1 49 = .ok (.aload_n 0, 1) := dc9_42 (by decide +kernel)
theorem d_Na_put1_50 : decode y_Na_put1.2.1 50 = .ok (.aload_n 1, 1) := dc9_43 (by decide +kernel)
theorem d_Na_put1_51 : decode y_Na_put1.2.1 51 = .ok (.getfield 13, 3) := dc9_180 (by decide +kernel)
theorem d_Na_put1_54 : decode y_Na_put1.2.1 54 = .ok (.putfield 13, 3) := dc9_181 (by decide +kernel)
theorem d_Na_put1_57 : decode y_Na_put1.2.1 57 = .ok (.return_, 1) := dc9_177 (by decide +kernel)
theorem d_Na_put1_27 : decode y_Na_put1.2.1 27 = .ok (.newarray .int, 2) := by decide +kernel
theorem d_Na_put1_29 : decode y_Na_put1.2.1 29 = .ok (.putfield 9, 3) := dc9_181 (by decide +kernel)
theorem k_Na_put1 {G : mG} {d : Nat} {a0 : Nat} {a1 : Nat} {M : mM} {Q : mM → Prop} (hO : mOk M)
    (h : mK M a1 = 10 ∧ mK M a0 = 10 ∧ mK M (mR M a0 0) = 30 ∧ i32 (mN M (mR M a0 0) : Int) ∧ ((mI M a1 1 ≤ (mN M (mR M a0 0) : Int)) → (mK M (mR M a1 0) = 30 ∧ ((0 : Int) ≤ 0 ∧ (0 : Int) ≤ 0 ∧ (0 : Int) ≤ mI M a1 1 ∧ 0 + (mI M a1 1) ≤ (mN M (mR M a1 0) : Int) ∧ 0 + (mI M a1 1) ≤ (mN M (mR M a0 0) : Int)) ∧ ∀ M13, M13 = mCpy M (mR M a1 0) (mR M a0 0) 0 0 (Int.toNat (mI M a1 1)) → ∀ M15, M15 = mUI M13 a0 1 (mI M13 a1 1) → Q M15)) ∧ (¬ (mI M a1 1 ≤ (mN M (mR M a0 0) : Int)) → (i32 (2 * (mN M (mR M a0 0) : Int)) ∧ ((0 : Int) ≤ (if mI M a1 1 < 2 * (mN M (mR M a0 0) : Int) then 2 * (mN M (mR M a0 0) : Int) else mI M a1 1) ∧ (if mI M a1 1 < 2 * (mN M (mR M a0 0) : Int) then 2 * (mN M (mR M a0 0) : Int) else mI M a1 1) ≤ 16777216) ∧ ∀ M19, M19 = mNew M 30 (Int.toNat (if mI M a1 1 < 2 * (mN M (mR M a0 0) : Int) then 2 * (mN M (mR M a0 0) : Int) else mI M a1 1)) (Int.toNat (if mI M a1 1 < 2 * (mN M (mR M a0 0) : Int) then 2 * (mN M (mR M a0 0) : Int) else mI M a1 1)) → mK M19 a0 = 10 ∧ ∀ M22, M22 = mUR M19 a0 0 (mZ M) → mK M22 a1 = 10 ∧ mK M22 (mR M22 a1 0) = 30 ∧ mK M22 (mR M22 a0 0) = 30 ∧ ((0 : Int) ≤ 0 ∧ (0 : Int) ≤ 0 ∧ (0 : Int) ≤ mI M22 a1 1 ∧ 0 + (mI M22 a1 1) ≤ (mN M22 (mR M22 a1 0) : Int) ∧ 0 + (mI M22 a1 1) ≤ (mN M22 (mR M22 a0 0) : Int)) ∧ ∀ M28, M28 = mCpy M22 (mR M22 a1 0) (mR M22 a0 0) 0 0 (Int.toNat (mI M22 a1 1)) → ∀ M30, M30 = mUI M28 a0 1 (mI M28 a1 1) → Q M30))) :
    Cv G y_Na_put1 (d + 1) [vr a0, vr a1] M Q := by
  refine wm_open (y := y_Na_put1) rfl (Nat.le_of_ble_eq_true rfl) (L := [vr a0, vr a1]) rfl ?_
  obtain ⟨h1, h⟩ := h
  obtain ⟨h2, h⟩ := h
  obtain ⟨h3, h⟩ := h
  obtain ⟨h9, h⟩ := h
  refine wm_aload_n d_Na_put1_0 rfl rfl ?_
  refine gf_Na_13 rfl d_Na_put1_1 h1 ?_
  refine wm_aload_n d_Na_put1_4 rfl rfl ?_
  refine gf_Na_9 rfl d_Na_put1_5 h2 ?_
  refine wm_alen 0 rfl (fun _ => rfl) d_Na_put1_8 h3 ?_
  refine wm_icmp_le (tgt := 32) d_Na_put1_9 rfl (hO _ _).1 h9 (fun c10 => ?_) (fun c10 => ?_)
  · replace h := h.1 c10
    obtain ⟨h11, h⟩ := h
    obtain ⟨h12, h⟩ := h
    obtain ⟨M13, e14⟩ : ∃ M13, M13 = mCpy M (mR M a1 0) (mR M a0 0) 0 0 (Int.toNat (mI M a1 1)) := ⟨_, rfl⟩
    replace h := h M13 e14
    obtain ⟨M15, e16⟩ : ∃ M15, M15 = mUI M13 a0 1 (mI M13 a1 1) := ⟨_, rfl⟩
    replace h := h M15 e16
    refine wm_aload_n d_Na_put1_32 rfl rfl ?_
    refine gf_Na_9 rfl d_Na_put1_33 h1 ?_
    refine wm_iconst d_Na_put1_36 ?_
    refine wm_aload_n d_Na_put1_37 rfl rfl ?_
    refine gf_Na_9 rfl d_Na_put1_38 h2 ?_
    refine wm_iconst d_Na_put1_41 ?_
    refine wm_aload_n d_Na_put1_42 rfl rfl ?_
    refine gf_Na_13 rfl d_Na_put1_43 h1 ?_
    have hOM13 : mOk M13 := by rw [e14]; exact mOk_Cpy hO
    refine wm_copyi k5_192 (Nat.le_of_ble_eq_true rfl) h11 h3 h12 d_Na_put1_46 e14 ?_
    refine wm_aload_n d_Na_put1_49 rfl rfl ?_
    refine wm_aload_n d_Na_put1_50 rfl rfl ?_
    refine gf_Na_13 rfl d_Na_put1_51 (by rw [e14]; exact h1) ?_
    have hOM15 : mOk M15 := by rw [e16]; exact mOk_UI hOM13 (hOM13 _ _).1
    refine pf_Na_13 rfl d_Na_put1_54 (by rw [e14]; exact h2) (hOM13 _ _).1 e16 ?_
    refine wm_return d_Na_put1_57 rfl ?_
    exact ⟨rfl, h⟩
  · replace h := h.2 c10
    obtain ⟨h17, h⟩ := h
    obtain ⟨h18, h⟩ := h
    obtain ⟨M19, e20⟩ : ∃ M19, M19 = mNew M 30 (Int.toNat (if mI M a1 1 < 2 * (mN M (mR M a0 0) : Int) then 2 * (mN M (mR M a0 0) : Int) else mI M a1 1)) (Int.toNat (if mI M a1 1 < 2 * (mN M (mR M a0 0) : Int) then 2 * (mN M (mR M a0 0) : Int) else mI M a1 1)) := ⟨_, rfl⟩
    replace h := h M19 e20
    obtain ⟨h21, h⟩ := h
    obtain ⟨M22, e23⟩ : ∃ M22, M22 = mUR M19 a0 0 (mZ M) := ⟨_, rfl⟩
    replace h := h M22 e23
    obtain ⟨h24, h⟩ := h
    obtain ⟨h25, h⟩ := h
    obtain ⟨h26, h⟩ := h
    obtain ⟨h27, h⟩ := h
    obtain ⟨M28, e29⟩ : ∃ M28, M28 = mCpy M22 (mR M22 a1 0) (mR M22 a0 0) 0 0 (Int.toNat (mI M22 a1 1)) := ⟨_, rfl⟩
    replace h := h M28 e29
    obtain ⟨M30, e31⟩ : ∃ M30, M30 = mUI M28 a0 1 (mI M28 a1 1) := ⟨_, rfl⟩
    replace h := h M30 e31
    refine wm_aload_n d_Na_put1_12 rfl rfl ?_
    refine wm_aload_n d_Na_put1_13 rfl rfl ?_
    refine gf_Na_13 rfl d_Na_put1_14 h1 ?_
    refine wm_iconst d_Na_put1_17 ?_
    refine wm_aload_n d_Na_put1_18 rfl rfl ?_
    refine gf_Na_9 rfl d_Na_put1_19 h2 ?_
    refine wm_alen 0 rfl (fun _ => rfl) d_Na_put1_22 h3 ?_
    refine wm_imul d_Na_put1_23 ?_
    refine wm_mmax k5_191 (Nat.le_of_ble_eq_true rfl) (hO _ _).1 h17 d_Na_put1_24 ?_
    have hOM19 : mOk M19 := by rw [e20]; exact mOk_New hO
    refine wm_newarrE 0 (atype := .int) (ty := .int) rfl rfl (fun _ => rfl) rfl rfl (by decide) k1_82 h18 d_Na_put1_27 e20 ?_
    have hOM22 : mOk M22 := by rw [e23]; exact mOk_UR hOM19
    refine pf_Na_9 rfl d_Na_put1_29 h21 e23 ?_
    refine wm_aload_n d_Na_put1_32 rfl rfl ?_
    refine gf_Na_9 rfl d_Na_put1_33 h24 ?_
    refine wm_iconst d_Na_put1_36 ?_
    refine wm_aload_n d_Na_put1_37 rfl rfl ?_
    refine gf_Na_9 rfl d_Na_put1_38 (by rw [e23]; exact h21) ?_
    refine wm_iconst d_Na_put1_41 ?_
    refine wm_aload_n d_Na_put1_42 rfl rfl ?_
    refine gf_Na_13 rfl d_Na_put1_43 h24 ?_
    have hOM28 : mOk M28 := by rw [e29]; exact mOk_Cpy hOM22
    refine wm_copyi k5_192 (Nat.le_of_ble_eq_true rfl) h25 h26 h27 d_Na_put1_46 e29 ?_
    refine wm_aload_n d_Na_put1_49 rfl rfl ?_
    refine wm_aload_n d_Na_put1_50 rfl rfl ?_
    refine gf_Na_13 rfl d_Na_put1_51 (by rw [e29]; exact h24) ?_
    have hOM30 : mOk M30 := by rw [e31]; exact mOk_UI hOM28 (hOM28 _ _).1
    refine pf_Na_13 rfl d_Na_put1_54 (by rw [e29, e23]; exact h21) (hOM28 _ _).1 e31 ?_
    refine wm_return d_Na_put1_57 rfl ?_
    exact ⟨rfl, h⟩
theorem d_Na_isOne_0 : decode y_Na_isOne.2.1 0 = .ok (.aload_n 0, 1) := dc9_42 (by decide +kernel)
theorem d_Na_isOne_1 : decode y_Na_isOne.2.1 1 = .ok (.getfield 13, 3) := dc9_180 (by decide +kernel)
theorem d_Na_isOne_4 : decode y_Na_isOne.2.1 4 = .ok (.iconst 1, 1) := dc9_4 (by decide +kernel)
theorem d_Na_isOne_5 : decode y_Na_isOne.2.1 5 = .ok (.if_icmp .ne 17, 3) := dc9_160 (by decide +kernel)
theorem d_Na_isOne_8 : decode y_Na_isOne.2.1 8 = .ok (.aload_n 0, 1) := dc9_42 (by decide +kernel)
theorem d_Na_isOne_9 : decode y_Na_isOne.2.1 9 = .ok (.getfield 9, 3) := dc9_180 (by decide +kernel)
theorem d_Na_isOne_12 : decode y_Na_isOne.2.1 12 = .ok (.iconst 0, 1) := dc9_3 (by decide +kernel)
theorem d_Na_isOne_13 : decode y_Na_isOne.2.1 13 = .ok (.iaload, 1) := dc9_46 (by decide +kernel)
theorem d_Na_isOne_14 : decode y_Na_isOne.2.1 14 = .ok (.iconst 1, 1) := dc9_4 (by decide +kernel)
theorem d_Na_isOne_15 : decode y_Na_isOne.2.1 15 = .ok (.if_icmp .ne 7, 3) := dc9_160 (by decide +kernel)
theorem d_Na_isOne_18 : decode y_Na_isOne.2.1 18 = .ok (.iconst 1, 1) := dc9_4 (by decide +kernel)
theorem d_Na_isOne_19 : decode y_Na_isOne.2.1 19 = .ok (.goto 4, 3) := dc9_167 (by decide +kernel)
theorem d_Na_isOne_22 : decode y_Na_isOne.2.1 22 = .ok (.iconst 0, 1) := dc9_3 (by decide +kernel)
theorem d_Na_isOne_23 : decode y_Na_isOne.2.1 23 = .ok (.ireturn, 1) := dc9_172 (by decide +kernel)
theorem k_Na_isOne {G : mG} {d : Nat} {a0 : Nat} {M : mM} {Q : Int → mM → Prop} (hO : mOk M)
    (h : mK M a0 = 10 ∧ ((mI M a0 1 = 1) → (mK M (mR M a0 0) = 30 ∧ ((0 : Int) ≤ 0 ∧ 0 < (mN M (mR M a0 0) : Int)))) ∧ ∀ v6 : Int, v6 = (if ((mI M a0 1 = 1) ∧ (mI M (mR M a0 0) 0 = 1)) then 1 else 0) → Q v6 M) :
    Ci G y_Na_isOne d [vr a0] M Q := by
  refine wm_open (y := y_Na_isOne) rfl (Nat.le_of_ble_eq_true rfl) (L := [vr a0]) rfl ?_
  obtain ⟨h1, h⟩ := h
  refine wm_aload_n d_Na_isOne_0 rfl rfl ?_
  refine gf_Na_13 rfl d_Na_isOne_1 h1 ?_
  refine wm_iconst d_Na_isOne_4 ?_
  obtain ⟨s7, h⟩ := h
  have hJ : ∀ v6 : Int, v6 = (if ((mI M a0 1 = 1) ∧ (mI M (mR M a0 0) 0 = 1)) then 1 else 0) → mWm G y_Na_isOne d 23 [vd] [vi v6] M (fun r9 M9 => ∃ x9, r9 = some (vi x9) ∧ Q x9 M9) := by
    intro v6 e8
    have h := h v6 e8
    have h9 : i32 v6 := by rw [e8]; (repeat' split) <;> first | exact ⟨by decide, by decide⟩ | exact ⟨by decide, by decide⟩
    have h10 : (v6 = 0 ∨ v6 = 1) := by rw [e8]; (repeat' split) <;> decide
    refine wm_ireturn d_Na_isOne_23 rfl (m_nb h10) ?_
    exact ⟨_, rfl, h⟩
  clear h
  have s11 := s7
  refine wm_icmp_ne (tgt := 22) d_Na_isOne_5 rfl (hO _ _).1 ⟨by decide, by decide⟩ (fun c2 => ?_) (fun c2 => ?_)
  · refine wm_iconst d_Na_isOne_22 ?_
    refine wm_less (L' := [vd]) ⟨Or.inl rfl, trivial⟩ ?_
    exact hJ 0 (if_neg (fun z14 => c2 z14.1)).symm
  · replace c2 := Classical.not_not.mp c2
    have s11 := s11 c2
    obtain ⟨h3, h4⟩ := s11
    refine wm_aload_n d_Na_isOne_8 rfl rfl ?_
    refine gf_Na_9 rfl d_Na_isOne_9 h1 ?_
    refine wm_iconst d_Na_isOne_12 ?_
    refine wm_iald d_Na_isOne_13 h3 h4 ?_
    refine wm_iconst d_Na_isOne_14 ?_
    refine wm_icmp_ne (tgt := 22) d_Na_isOne_15 rfl (hO _ _).1 ⟨by decide, by decide⟩ (fun c5 => ?_) (fun c5 => ?_)
    · refine wm_iconst d_Na_isOne_22 ?_
      refine wm_less (L' := [vd]) ⟨Or.inl rfl, trivial⟩ ?_
      exact hJ 0 (if_neg (fun z12 => c5 z12.2)).symm
    · replace c5 := Classical.not_not.mp c5
      refine wm_iconst d_Na_isOne_18 ?_
      refine wm_goto (tgt := 23) d_Na_isOne_19 rfl ?_
      refine wm_less (L' := [vd]) ⟨Or.inl rfl, trivial⟩ ?_
      exact hJ 1 (if_pos ⟨c2, c5⟩).symm
theorem d_Na_bits_0 : decode y_Na_bits.2.1 0 = .ok (.aload_n 0, 1) := dc9_42 (by decide +kernel)
theorem d_Na_bits_1 : decode y_Na_bits.2.1 1 = .ok (.getfield 13, 3) := dc9_180 (by decide +kernel)
theorem d_Na_bits_4 : decode y_Na_bits.2.1 4 = .ok (.ifCond .ne 7, 3) := dc9_154 (by decide +kernel)
theorem d_Na_bits_7 : decode y_Na_bits.2.1 7 = .ok (.iconst 0, 1) := dc9_3 (by decide +kernel)
theorem d_Na_bits_8 : decode y_Na_bits.2.1 8 = .ok (.goto 27, 3) := dc9_167 (by decide +kernel)
theorem d_Na_bits_11 : decode y_Na_bits.2.1 11 = .ok (.bipush 30, 2) := dc9_16 (by decide +kernel)
theorem d_Na_bits_13 : decode y_Na_bits.2.1 13 = .ok (.aload_n 0, 1) := dc9_42 (by decide +kernel)
theorem d_Na_bits_14 : decode y_Na_bits.2.1 14 = .ok (.getfield 13, 3) := dc9_180 (by decide +kernel)
theorem d_Na_bits_17 : decode y_Na_bits.2.1 17 = .ok (.imul, 1) := dc9_104 (by decide +kernel)
theorem d_Na_bits_18 : decode y_Na_bits.2.1 18 = .ok (.aload_n 0, 1) := dc9_42 (by decide +kernel)
theorem d_Na_bits_19 : decode y_Na_bits.2.1 19 = .ok (.getfield 9, 3) := dc9_180 (by decide +kernel)
theorem d_Na_bits_22 : decode y_Na_bits.2.1 22 = .ok (.aload_n 0, 1) := dc9_42 (by decide +kernel)
theorem d_Na_bits_23 : decode y_Na_bits.2.1 23 = .ok (.getfield 13, 3) := dc9_180 (by decide +kernel)
theorem d_Na_bits_26 : decode y_Na_bits.2.1 26 = .ok (.iconst 1, 1) := dc9_4 (by decide +kernel)
theorem d_Na_bits_27 : decode y_Na_bits.2.1 27 = .ok (.isub, 1) := dc9_100 (by decide +kernel)
theorem d_Na_bits_28 : decode y_Na_bits.2.1 28 = .ok (.iaload, 1) := dc9_46 (by decide +kernel)
theorem d_Na_bits_35 : decode y_Na_bits.2.1 35 = .ok (.ireturn, 1) := dc9_172 (by decide +kernel)
theorem d_Na_bits_29 : decode y_Na_bits.2.1 29 = .ok (.invokestatic 41, 3) := dc9_184 (by decide +kernel)
theorem d_Na_bits_32 : decode y_Na_bits.2.1 32 = .ok (.isub, 1) := dc9_100 (by decide +kernel)
theorem d_Na_bits_33 : decode y_Na_bits.2.1 33 = .ok (.iconst 2, 1) := dc9_5 (by decide +kernel)
theorem d_Na_bits_34 : decode y_Na_bits.2.1 34 = .ok (.iadd, 1) := dc9_96 (by decide +kernel)
theorem k_Na_bits {G : mG} {d : Nat} {a0 : Nat} {M : mM} {Q : Int → mM → Prop} (hO : mOk M)
    (h : mK M a0 = 10 ∧ ((mI M a0 1 = 0) → (Q 0 M)) ∧ (¬ (mI M a0 1 = 0) → (mK M (mR M a0 0) = 30 ∧ ((0 : Int) ≤ (mI M a0 1) - 1 ∧ (mI M a0 1) - 1 < (mN M (mR M a0 0) : Int)) ∧ Ci G y_JI_nlz d [vi (mI M (mR M a0 0) (Int.toNat ((mI M a0 1) - 1)))] M (fun x10 M9 => i32 x10 ∧ mOk M9 ∧ (Q (((30 * (mI M a0 1)) - x10) + 2) M9))))) :
    Ci G y_Na_bits (d + 1) [vr a0] M Q := by
  refine wm_open (y := y_Na_bits) rfl (Nat.le_of_ble_eq_true rfl) (L := [vr a0]) rfl ?_
  obtain ⟨h1, h⟩ := h
  refine wm_aload_n d_Na_bits_0 rfl rfl ?_
  refine gf_Na_13 rfl d_Na_bits_1 h1 ?_
  refine wm_if_ne (tgt := 11) d_Na_bits_4 rfl (hO _ _).1 (fun c6 => ?_) (fun c6 => ?_)
  · replace h := h.2 c6
    obtain ⟨h7, h⟩ := h
    obtain ⟨h8, h⟩ := h
    refine wm_bipush d_Na_bits_11 (by decide) ?_
    refine wm_aload_n d_Na_bits_13 rfl rfl ?_
    refine gf_Na_13 rfl d_Na_bits_14 h1 ?_
    refine wm_imul d_Na_bits_17 ?_
    refine wm_aload_n d_Na_bits_18 rfl rfl ?_
    refine gf_Na_9 rfl d_Na_bits_19 h1 ?_
    refine wm_aload_n d_Na_bits_22 rfl rfl ?_
    refine gf_Na_13 rfl d_Na_bits_23 h1 ?_
    refine wm_iconst d_Na_bits_26 ?_
    refine wm_isub d_Na_bits_27 ?_
    refine wm_iald d_Na_bits_28 h7 h8 ?_
    refine cf_Na_41 rfl d_Na_bits_29 (Nat.le_of_ble_eq_true rfl) (Ci.mono h (fun x10 M9 h => ?_))
    obtain ⟨h11, hOM9, h⟩ := h
    refine wm_isub d_Na_bits_32 ?_
    refine wm_iconst d_Na_bits_33 ?_
    refine wm_iadd d_Na_bits_34 ?_
    refine wm_ireturn d_Na_bits_35 rfl rfl ?_
    exact ⟨_, rfl, h⟩
  · replace c6 := Classical.not_not.mp c6
    replace h := h.1 c6
    refine wm_iconst d_Na_bits_7 ?_
    refine wm_goto (tgt := 35) d_Na_bits_8 rfl ?_
    refine wm_ireturn d_Na_bits_35 rfl rfl ?_
    exact ⟨_, rfl, h⟩
theorem d_Na_order_0 : decode y_Na_order.2.1 0 = .ok (.aload_n 0, 1) := dc9_42 (by decide +kernel)
theorem d_Na_order_1 : decode y_Na_order.2.1 1 = .ok (.getfield 13, 3) := dc9_180 (by decide +kernel)
theorem d_Na_order_4 : decode y_Na_order.2.1 4 = .ok (.aload_n 1, 1) := dc9_43 (by decide +kernel)
theorem d_Na_order_5 : decode y_Na_order.2.1 5 = .ok (.getfield 13, 3) := dc9_180 (by decide +kernel)
theorem d_Na_order_8 : decode y_Na_order.2.1 8 = .ok (.if_icmp .eq 20, 3) := dc9_159 (by decide +kernel)
theorem d_Na_order_28 : decode y_Na_order.2.1 28 = .ok (.aload_n 0, 1) := dc9_42 (by decide +kernel)
theorem d_Na_order_29 : decode y_Na_order.2.1 29 = .ok (.getfield 13, 3) := dc9_180 (by decide +kernel)
theorem d_Na_order_32 : decode y_Na_order.2.1 32 = .ok (.iconst 1, 1) := dc9_4 (by decide +kernel)
theorem d_Na_order_33 : decode y_Na_order.2.1 33 = .ok (.isub, 1) := dc9_100 (by decide +kernel)
theorem d_Na_order_34 : decode y_Na_order.2.1 34 = .ok (.istore_n 2, 1) := dc9_61 (by decide +kernel)
theorem d_Na_order_11 : decode y_Na_order.2.1 11 = .ok (.aload_n 0, 1) := dc9_42 (by decide +kernel)
theorem d_Na_order_12 : decode y_Na_order.2.1 12 = .ok (.getfield 13, 3) := dc9_180 (by decide +kernel)
theorem d_Na_order_15 : decode y_Na_order.2.1 15 = .ok (.aload_n 1, 1) := dc9_43 (by decide +kernel)
theorem d_Na_order_16 : decode y_Na_order.2.1 16 = .ok (.getfield 13, 3) := dc9_180 (by decide +kernel)
theorem d_Na_order_19 : decode y_Na_order.2.1 19 = .ok (.if_icmp .ge 7, 3) := dc9_162 (by decide +kernel)
theorem d_Na_order_26 : decode y_Na_order.2.1 26 = .ok (.iconst 1, 1) := dc9_4 (by decide +kernel)
theorem d_Na_order_27 : decode y_Na_order.2.1 27 = .ok (.ireturn, 1) := dc9_172 (by decide +kernel)
theorem d_Na_order_22 : decode y_Na_order.2.1 22 = .ok (.iconst (-1), 1) := dc9_2 (by decide +kernel)
theorem d_Na_order_23 : decode y_Na_order.2.1 23 = .ok (.goto 4, 3) := dc9_167 (by decide +kernel)
theorem d_Na_order_35 : decode y_Na_order.2.1 35 = .ok (.iload_n 2, 1) := dc9_28 (by decide +kernel)
theorem d_Na_order_36 : decode y_Na_order.2.1 36 = .ok (.ifCond .lt 45, 3) := dc9_155 (by decide +kernel)
theorem d_Na_order_81 : decode y_Na_order.2.1 81 = .ok (.iconst 0, 1) := dc9_3 (by decide +kernel)
theorem d_Na_order_82 : decode y_Na_order.2.1 82 = .ok (.ireturn, 1) := dc9_172 (by decide +kernel)
theorem d_Na_order_39 : decode y_Na_order.2.1 39 = .ok (.aload_n 0, 1) := dc9_42 (by decide +kernel)
theorem d_Na_order_40 : decode y_Na_order.2.1 40 = .ok (.getfield 9, 3) := dc9_180 (by decide +kernel)
theorem d_Na_order_43 : decode y_Na_order.2.1 43 = .ok (.iload_n 2, 1) := dc9_28 (by decide +kernel)
theorem d_Na_order_44 : decode y_Na_order.2.1 44 = .ok (.iaload, 1) := dc9_46 (by decide +kernel)
theorem d_Na_order_45 : decode y_Na_order.2.1 45 = .ok (.aload_n 1, 1) := dc9_43 (by decide +kernel)
theorem d_Na_order_46 : decode y_Na_order.2.1 46 = .ok (.getfield 9, 3) := dc9_180 (by decide +kernel)
theorem d_Na_order_49 : decode y_Na_order.2.1 49 = .ok (.iload_n 2, 1) := dc9_28 (by decide +kernel)
theorem d_Na_order_50 : decode y_Na_order.2.1 50 = .ok (.iaload, 1) := dc9_46 (by decide +kernel)
theorem d_Na_order_51 : decode y_Na_order.2.1 51 = .ok (.if_icmp .eq 24, 3) := dc9_159 (by decide +kernel)
theorem d_Na_order_75 : decode y_Na_order.2.1 75 = .ok (.iinc 2 (-1), 3) := by decide +kernel
theorem d_Na_order_78 : decode y_Na_order.2.1 78 = .ok (.goto (-43), 3) := dc9_167 (by decide +kernel)
theorem d_Na_order_54 : decode y_Na_order.2.1 54 = .ok (.aload_n 0, 1) := dc9_42 (by decide +kernel)
theorem d_Na_order_55 : decode y_Na_order.2.1 55 = .ok (.getfield 9, 3) := dc9_180 (by decide +kernel)
theorem d_Na_order_58 : decode y_Na_order.2.1 58 = .ok (.iload_n 2, 1) := dc9_28 (by decide +kernel)
theorem d_Na_order_59 : decode y_Na_order.2.1 59 = .ok (.iaload, 1) := dc9_46 (by decide +kernel)
theorem d_Na_order_60 : decode y_Na_order.2.1 60 = .ok (.aload_n 1, 1) := dc9_43 (by decide +kernel)
theorem d_Na_order_61 : decode y_Na_order.2.1 61 = .ok (.getfield 9, 3) := dc9_180 (by decide +kernel)
theorem d_Na_order_64 : decode y_Na_order.2.1 64 = .ok (.iload_n 2, 1) := dc9_28 (by decide +kernel)
theorem d_Na_order_65 : decode y_Na_order.2.1 65 = .ok (.iaload, 1) := dc9_46 (by decide +kernel)
theorem d_Na_order_66 : decode y_Na_order.2.1 66 = .ok (.if_icmp .ge 7, 3) := dc9_162 (by decide +kernel)
theorem d_Na_order_73 : decode y_Na_order.2.1 73 = .ok (.iconst 1, 1) := dc9_4 (by decide +kernel)
theorem d_Na_order_74 : decode y_Na_order.2.1 74 = .ok (.ireturn, 1) := dc9_172 (by decide +kernel)
theorem d_Na_order_69 : decode y_Na_order.2.1 69 = .ok (.iconst (-1), 1) := dc9_2 (by decide +kernel)
theorem d_Na_order_70 : decode y_Na_order.2.1 70 = .ok (.goto 4, 3) := dc9_167 (by decide +kernel)
def h_Na_order_35 (G : mG) (d : Nat) (a0 : Nat) (a1 : Nat) (l2 : Int) (M : mM) (Q : Int → mM → Prop) : Prop := mWm G y_Na_order d 35 [vr a0, vr a1, vi l2] [] M (fun r9 M9 => ∃ x9, r9 = some (vi x9) ∧ Q x9 M9)
theorem k_Na_order {G : mG} {d : Nat} {a0 : Nat} {a1 : Nat} {M : mM} {Q : Int → mM → Prop} (hO : mOk M)
    (h : mK M a0 = 10 ∧ mK M a1 = 10 ∧ ((mI M a0 1 = mI M a1 1) → (h_Na_order_35 G d a0 a1 ((mI M a0 1) - 1) M Q)) ∧ (¬ (mI M a0 1 = mI M a1 1) → (∀ v7 : Int, v7 = (if (mI M a1 1 ≤ mI M a0 1) then 1 else (-1)) → Q v7 M))) :
    Ci G y_Na_order d [vr a0, vr a1] M Q := by
  refine wm_open (y := y_Na_order) rfl (Nat.le_of_ble_eq_true rfl) (L := [vr a0, vr a1, vd]) rfl ?_
  obtain ⟨h1, h⟩ := h
  obtain ⟨h2, h⟩ := h
  refine wm_aload_n d_Na_order_0 rfl rfl ?_
  refine gf_Na_13 rfl d_Na_order_1 h1 ?_
  refine wm_aload_n d_Na_order_4 rfl rfl ?_
  refine gf_Na_13 rfl d_Na_order_5 h2 ?_
  refine wm_icmp_eq (tgt := 28) d_Na_order_8 rfl (hO _ _).1 (hO _ _).1 (fun c5 => ?_) (fun c5 => ?_)
  · replace h := h.1 c5
    refine wm_aload_n d_Na_order_28 rfl rfl ?_
    refine gf_Na_13 rfl d_Na_order_29 h1 ?_
    refine wm_iconst d_Na_order_32 ?_
    refine wm_isub d_Na_order_33 ?_
    refine wm_istore_n d_Na_order_34 rfl (by decide) (L' := [vr a0, vr a1, vi ((mI M a0 1) - 1)]) rfl ?_
    exact h
  · replace h := h.2 c5
    refine wm_aload_n d_Na_order_11 rfl rfl ?_
    refine gf_Na_13 rfl d_Na_order_12 h1 ?_
    refine wm_aload_n d_Na_order_15 rfl rfl ?_
    refine gf_Na_13 rfl d_Na_order_16 h2 ?_
    have hJ : ∀ v7 : Int, v7 = (if (mI M a1 1 ≤ mI M a0 1) then 1 else (-1)) → mWm G y_Na_order d 27 [vd, vd, vd] [vi v7] M (fun r9 M9 => ∃ x9, r9 = some (vi x9) ∧ Q x9 M9) := by
      intro v7 e9
      have h := h v7 e9
      have h10 : i32 v7 := by rw [e9]; (repeat' split) <;> first | exact ⟨by decide, by decide⟩ | exact ⟨by decide, by decide⟩
      refine wm_ireturn d_Na_order_27 rfl rfl ?_
      exact ⟨_, rfl, h⟩
    clear h
    refine wm_icmp_ge (tgt := 26) d_Na_order_19 rfl (hO _ _).1 (hO _ _).1 (fun c6 => ?_) (fun c6 => ?_)
    · refine wm_iconst d_Na_order_26 ?_
      refine wm_less (L' := [vd, vd, vd]) ⟨Or.inl rfl, Or.inl rfl, Or.inl rfl, trivial⟩ ?_
      exact hJ 1 (if_pos c6).symm
    · refine wm_iconst d_Na_order_22 ?_
      refine wm_goto (tgt := 27) d_Na_order_23 rfl ?_
      refine wm_less (L' := [vd, vd, vd]) ⟨Or.inl rfl, Or.inl rfl, Or.inl rfl, trivial⟩ ?_
      exact hJ (-1) (if_neg c6).symm
theorem k_Na_order_35 {G : mG} {d : Nat} {a0 : Nat} {a1 : Nat} {l2 : Int} {M : mM} {Q : Int → mM → Prop} (hO : mOk M) (hi_l2 : i32 l2)
    (h : ((l2 < 0) → (Q 0 M)) ∧ (¬ (l2 < 0) → (mK M a0 = 10 ∧ mK M (mR M a0 0) = 30 ∧ ((0 : Int) ≤ l2 ∧ l2 < (mN M (mR M a0 0) : Int)) ∧ mK M a1 = 10 ∧ mK M (mR M a1 0) = 30 ∧ ((0 : Int) ≤ l2 ∧ l2 < (mN M (mR M a1 0) : Int)) ∧ ((mI M (mR M a0 0) (Int.toNat l2) = mI M (mR M a1 0) (Int.toNat l2)) → (h_Na_order_35 G d a0 a1 (l2 + (-1)) M Q)) ∧ (¬ (mI M (mR M a0 0) (Int.toNat l2) = mI M (mR M a1 0) (Int.toNat l2)) → (((0 : Int) ≤ l2 ∧ l2 < (mN M (mR M a0 0) : Int)) ∧ ((0 : Int) ≤ l2 ∧ l2 < (mN M (mR M a1 0) : Int)) ∧ ∀ v38 : Int, v38 = (if (mI M (mR M a1 0) (Int.toNat l2) ≤ mI M (mR M a0 0) (Int.toNat l2)) then 1 else (-1)) → Q v38 M))))) :
    h_Na_order_35 G d a0 a1 l2 M Q := by
  unfold h_Na_order_35
  refine wm_iload_n d_Na_order_35 rfl rfl ?_
  refine wm_if_lt (tgt := 81) d_Na_order_36 rfl hi_l2 (fun c23 => ?_) (fun c23 => ?_)
  · replace h := h.1 c23
    refine wm_iconst d_Na_order_81 ?_
    refine wm_ireturn d_Na_order_82 rfl rfl ?_
    exact ⟨_, rfl, h⟩
  · replace h := h.2 c23
    obtain ⟨h24, h⟩ := h
    obtain ⟨h25, h⟩ := h
    obtain ⟨h26, h⟩ := h
    obtain ⟨h27, h⟩ := h
    obtain ⟨h28, h⟩ := h
    obtain ⟨h29, h⟩ := h
    refine wm_aload_n d_Na_order_39 rfl rfl ?_
    refine gf_Na_9 rfl d_Na_order_40 h24 ?_
    refine wm_iload_n d_Na_order_43 rfl rfl ?_
    refine wm_iald d_Na_order_44 h25 h26 ?_
    refine wm_aload_n d_Na_order_45 rfl rfl ?_
    refine gf_Na_9 rfl d_Na_order_46 h27 ?_
    refine wm_iload_n d_Na_order_49 rfl rfl ?_
    refine wm_iald d_Na_order_50 h28 h29 ?_
    refine wm_icmp_eq (tgt := 75) d_Na_order_51 rfl (hO _ _).1 (hO _ _).1 (fun c34 => ?_) (fun c34 => ?_)
    · replace h := h.1 c34
      refine wm_iinc d_Na_order_75 (by decide) rfl (L' := [vr a0, vr a1, vi (l2 + (-1))]) rfl ?_
      refine wm_goto (tgt := 35) d_Na_order_78 rfl ?_
      exact h
    · replace h := h.2 c34
      obtain ⟨h35, h⟩ := h
      obtain ⟨h36, h⟩ := h
      refine wm_aload_n d_Na_order_54 rfl rfl ?_
      refine gf_Na_9 rfl d_Na_order_55 h24 ?_
      refine wm_iload_n d_Na_order_58 rfl rfl ?_
      refine wm_iald d_Na_order_59 h25 h35 ?_
      refine wm_aload_n d_Na_order_60 rfl rfl ?_
      refine gf_Na_9 rfl d_Na_order_61 h27 ?_
      refine wm_iload_n d_Na_order_64 rfl rfl ?_
      refine wm_iald d_Na_order_65 h28 h36 ?_
      have hJ : ∀ v38 : Int, v38 = (if (mI M (mR M a1 0) (Int.toNat l2) ≤ mI M (mR M a0 0) (Int.toNat l2)) then 1 else (-1)) → mWm G y_Na_order d 74 [vd, vd, vd] [vi v38] M (fun r9 M9 => ∃ x9, r9 = some (vi x9) ∧ Q x9 M9) := by
        intro v38 e40
        have h := h v38 e40
        have h41 : i32 v38 := by rw [e40]; (repeat' split) <;> first | exact ⟨by decide, by decide⟩ | exact ⟨by decide, by decide⟩
        refine wm_ireturn d_Na_order_74 rfl rfl ?_
        exact ⟨_, rfl, h⟩
      clear h
      refine wm_icmp_ge (tgt := 73) d_Na_order_66 rfl (hO _ _).1 (hO _ _).1 (fun c37 => ?_) (fun c37 => ?_)
      · refine wm_iconst d_Na_order_73 ?_
        refine wm_less (L' := [vd, vd, vd]) ⟨Or.inl rfl, Or.inl rfl, Or.inl rfl, trivial⟩ ?_
        exact hJ 1 (if_pos c37).symm
      · refine wm_iconst d_Na_order_69 ?_
        refine wm_goto (tgt := 74) d_Na_order_70 rfl ?_
        refine wm_less (L' := [vd, vd, vd]) ⟨Or.inl rfl, Or.inl rfl, Or.inl rfl, trivial⟩ ?_
        exact hJ (-1) (if_neg c37).symm
theorem d_Na_add_0 : decode y_Na_add.2.1 0 = .ok (.aload_n 0, 1) := dc9_42 (by decide +kernel)
theorem d_Na_add_1 : decode y_Na_add.2.1 1 = .ok (.getfield 13, 3) := dc9_180 (by decide +kernel)
theorem d_Na_add_4 : decode y_Na_add.2.1 4 = .ok (.aload_n 1, 1) := dc9_43 (by decide +kernel)
theorem d_Na_add_5 : decode y_Na_add.2.1 5 = .ok (.getfield 13, 3) := dc9_180 (by decide +kernel)
theorem d_Na_add_8 : decode y_Na_add.2.1 8 = .ok (.invokestatic 17, 3) := dc9_184 (by decide +kernel)
theorem d_Na_add_11 : decode y_Na_add.2.1 11 = .ok (.istore_n 3, 1) := dc9_62 (by decide +kernel)
theorem d_Na_add_12 : decode y_Na_add.2.1 12 = .ok (.aload_n 0, 1) := dc9_42 (by decide +kernel)
theorem d_Na_add_13 : decode y_Na_add.2.1 13 = .ok (.iload_n 3, 1) := dc9_29 (by decide +kernel)
theorem d_Na_add_14 : decode y_Na_add.2.1 14 = .ok (.iconst 1, 1) := dc9_4 (by decide +kernel)
theorem d_Na_add_15 : decode y_Na_add.2.1 15 = .ok (.iadd, 1) := dc9_96 (by decide +kernel)
theorem d_Na_add_16 : decode y_Na_add.2.1 16 = .ok (.invokevirtual 47, 3) := dc9_182 (by decide +kernel)
theorem d_Na_add_19 : decode y_Na_add.2.1 19 = .ok (.aload_n 0, 1) := dc9_42 (by decide +kernel)
theorem d_Na_add_20 : decode y_Na_add.2.1 20 = .ok (.getfield 9, 3) := dc9_180 (by decide +kernel)
theorem d_Na_add_23 : decode y_Na_add.2.1 23 = .ok (.aload_n 0, 1) := dc9_42 (by decide +kernel)
theorem d_Na_add_24 : decode y_Na_add.2.1 24 = .ok (.getfield 13, 3) := dc9_180 (by decide +kernel)
theorem d_Na_add_27 : decode y_Na_add.2.1 27 = .ok (.iload_n 3, 1) := dc9_29 (by decide +kernel)
theorem d_Na_add_28 : decode y_Na_add.2.1 28 = .ok (.iconst 1, 1) := dc9_4 (by decide +kernel)
theorem d_Na_add_29 : decode y_Na_add.2.1 29 = .ok (.iadd, 1) := dc9_96 (by decide +kernel)
theorem d_Na_add_30 : decode y_Na_add.2.1 30 = .ok (.iconst 0, 1) := dc9_3 (by decide +kernel)
theorem d_Na_add_31 : decode y_Na_add.2.1 31 = .ok (.invokestatic 50, 3) := dc9_184 (by decide +kernel)
theorem d_Na_add_34 : decode y_Na_add.2.1 34 = .ok (.lconst 0, 1) := dc9_9 (by decide +kernel)
theorem d_Na_add_35 : decode y_Na_add.2.1 35 = .ok (.lstore 4, 2) := dc9_55 (by decide +kernel)
theorem d_Na_add_37 : decode y_Na_add.2.1 37 = .ok (.iconst 0, 1) := dc9_3 (by decide +kernel)
theorem d_Na_add_38 : decode y_Na_add.2.1 38 = .ok (.istore 6, 2) := dc9_54 (by decide +kernel)
theorem d_Na_add_40 : decode y_Na_add.2.1 40 = .ok (.iload 6, 2) := dc9_21 (by decide +kernel)
theorem d_Na_add_42 : decode y_Na_add.2.1 42 = .ok (.aload_n 1, 1) := dc9_43 (by decide +kernel)
theorem d_Na_add_43 : decode y_Na_add.2.1 43 = .ok (.getfield 13, 3) := dc9_180 (by decide +kernel)
theorem d_Na_add_46 : decode y_Na_add.2.1 46 = .ok (.if_icmp .ge 55, 3) := dc9_162 (by decide +kernel)
theorem d_Na_add_101 : decode y_Na_add.2.1 101 = .ok (.aload_n 1, 1) := dc9_43 (by decide +kernel)
theorem d_Na_add_102 : decode y_Na_add.2.1 102 = .ok (.getfield 13, 3) := dc9_180 (by decide +kernel)
theorem d_Na_add_105 : decode y_Na_add.2.1 105 = .ok (.istore 6, 2) := dc9_54 (by decide +kernel)
theorem d_Na_add_49 : decode y_Na_add.2.1 49 = .ok (.lload 4, 2) := dc9_22 (by decide +kernel)
theorem d_Na_add_51 : decode y_Na_add.2.1 51 = .ok (.aload_n 0, 1) := dc9_42 (by decide +kernel)
theorem d_Na_add_52 : decode y_Na_add.2.1 52 = .ok (.getfield 9, 3) := dc9_180 (by decide +kernel)
theorem d_Na_add_55 : decode y_Na_add.2.1 55 = .ok (.iload 6, 2) := dc9_21 (by decide +kernel)
theorem d_Na_add_57 : decode y_Na_add.2.1 57 = .ok (.iaload, 1) := dc9_46 (by decide +kernel)
theorem d_Na_add_58 : decode y_Na_add.2.1 58 = .ok (.i2l, 1) := dc9_133 (by decide +kernel)
theorem d_Na_add_59 : decode y_Na_add.2.1 59 = .ok (.iload_n 2, 1) := dc9_28 (by decide +kernel)
theorem d_Na_add_60 : decode y_Na_add.2.1 60 = .ok (.i2l, 1) := dc9_133 (by decide +kernel)
theorem d_Na_add_61 : decode y_Na_add.2.1 61 = .ok (.aload_n 1, 1) := dc9_43 (by decide +kernel)
theorem d_Na_add_62 : decode y_Na_add.2.1 62 = .ok (.getfield 9, 3) := dc9_180 (by decide +kernel)
theorem d_Na_add_65 : decode y_Na_add.2.1 65 = .ok (.iload 6, 2) := dc9_21 (by decide +kernel)
theorem d_Na_add_67 : decode y_Na_add.2.1 67 = .ok (.iaload, 1) := dc9_46 (by decide +kernel)
theorem d_Na_add_68 : decode y_Na_add.2.1 68 = .ok (.i2l, 1) := dc9_133 (by decide +kernel)
theorem d_Na_add_69 : decode y_Na_add.2.1 69 = .ok (.lmul, 1) := dc9_105 (by decide +kernel)
theorem d_Na_add_70 : decode y_Na_add.2.1 70 = .ok (.ladd, 1) := dc9_97 (by decide +kernel)
theorem d_Na_add_71 : decode y_Na_add.2.1 71 = .ok (.ladd, 1) := dc9_97 (by decide +kernel)
theorem d_Na_add_72 : decode y_Na_add.2.1 72 = .ok (.lstore 4, 2) := dc9_55 (by decide +kernel)
theorem d_Na_add_74 : decode y_Na_add.2.1 74 = .ok (.aload_n 0, 1) := dc9_42 (by decide +kernel)
theorem d_Na_add_75 : decode y_Na_add.2.1 75 = .ok (.getfield 9, 3) := dc9_180 (by decide +kernel)
theorem d_Na_add_78 : decode y_Na_add.2.1 78 = .ok (.iload 6, 2) := dc9_21 (by decide +kernel)
theorem d_Na_add_80 : decode y_Na_add.2.1 80 = .ok (.lload 4, 2) := dc9_22 (by decide +kernel)
theorem d_Na_add_82 : decode y_Na_add.2.1 82 = .ok (.ldc2_w 29, 3) := dc9_20 (by decide +kernel)
theorem d_Na_add_85 : decode y_Na_add.2.1 85 = .ok (.land, 1) := dc9_127 (by decide +kernel)
theorem d_Na_add_86 : decode y_Na_add.2.1 86 = .ok (.l2i, 1) := dc9_136 (by decide +kernel)
theorem d_Na_add_87 : decode y_Na_add.2.1 87 = .ok (.iastore, 1) := dc9_79 (by decide +kernel)
theorem d_Na_add_88 : decode y_Na_add.2.1 88 = .ok (.lload 4, 2) := dc9_22 (by decide +kernel)
theorem d_Na_add_90 : decode y_Na_add.2.1 90 = .ok (.bipush 30, 2) := dc9_16 (by decide +kernel)
theorem d_Na_add_92 : decode y_Na_add.2.1 92 = .ok (.lushr, 1) := dc9_125 (by decide +kernel)
theorem d_Na_add_93 : decode y_Na_add.2.1 93 = .ok (.lstore 4, 2) := dc9_55 (by decide +kernel)
theorem d_Na_add_95 : decode y_Na_add.2.1 95 = .ok (.iinc 6 1, 3) := by decide +kernel
theorem d_Na_add_98 : decode y_Na_add.2.1 98 = .ok (.goto (-58), 3) := dc9_167 (by decide +kernel)
theorem d_Na_add_107 : decode y_Na_add.2.1 107 = .ok (.iload 6, 2) := dc9_21 (by decide +kernel)
theorem d_Na_add_109 : decode y_Na_add.2.1 109 = .ok (.iload_n 3, 1) := dc9_29 (by decide +kernel)
theorem d_Na_add_110 : decode y_Na_add.2.1 110 = .ok (.if_icmp .gt 50, 3) := dc9_163 (by decide +kernel)
theorem d_Na_add_113 : decode y_Na_add.2.1 113 = .ok (.lload 4, 2) := dc9_22 (by decide +kernel)
theorem d_Na_add_115 : decode y_Na_add.2.1 115 = .ok (.lconst 0, 1) := dc9_9 (by decide +kernel)
theorem d_Na_add_116 : decode y_Na_add.2.1 116 = .ok (.lcmp, 1) := dc9_148 (by decide +kernel)
theorem d_Na_add_117 : decode y_Na_add.2.1 117 = .ok (.ifCond .eq 43, 3) := dc9_153 (by decide +kernel)
theorem d_Na_add_120 : decode y_Na_add.2.1 120 = .ok (.lload 4, 2) := dc9_22 (by decide +kernel)
theorem d_Na_add_122 : decode y_Na_add.2.1 122 = .ok (.aload_n 0, 1) := dc9_42 (by decide +kernel)
theorem d_Na_add_123 : decode y_Na_add.2.1 123 = .ok (.getfield 9, 3) := dc9_180 (by decide +kernel)
theorem d_Na_add_126 : decode y_Na_add.2.1 126 = .ok (.iload 6, 2) := dc9_21 (by decide +kernel)
theorem d_Na_add_128 : decode y_Na_add.2.1 128 = .ok (.iaload, 1) := dc9_46 (by decide +kernel)
theorem d_Na_add_129 : decode y_Na_add.2.1 129 = .ok (.i2l, 1) := dc9_133 (by decide +kernel)
theorem d_Na_add_130 : decode y_Na_add.2.1 130 = .ok (.ladd, 1) := dc9_97 (by decide +kernel)
theorem d_Na_add_131 : decode y_Na_add.2.1 131 = .ok (.lstore 4, 2) := dc9_55 (by decide +kernel)
theorem d_Na_add_133 : decode y_Na_add.2.1 133 = .ok (.aload_n 0, 1) := dc9_42 (by decide +kernel)
theorem d_Na_add_134 : decode y_Na_add.2.1 134 = .ok (.getfield 9, 3) := dc9_180 (by decide +kernel)
theorem d_Na_add_137 : decode y_Na_add.2.1 137 = .ok (.iload 6, 2) := dc9_21 (by decide +kernel)
theorem d_Na_add_139 : decode y_Na_add.2.1 139 = .ok (.lload 4, 2) := dc9_22 (by decide +kernel)
theorem d_Na_add_141 : decode y_Na_add.2.1 141 = .ok (.ldc2_w 29, 3) := dc9_20 (by decide +kernel)
theorem d_Na_add_144 : decode y_Na_add.2.1 144 = .ok (.land, 1) := dc9_127 (by decide +kernel)
theorem d_Na_add_145 : decode y_Na_add.2.1 145 = .ok (.l2i, 1) := dc9_136 (by decide +kernel)
theorem d_Na_add_146 : decode y_Na_add.2.1 146 = .ok (.iastore, 1) := dc9_79 (by decide +kernel)
theorem d_Na_add_147 : decode y_Na_add.2.1 147 = .ok (.lload 4, 2) := dc9_22 (by decide +kernel)
theorem d_Na_add_149 : decode y_Na_add.2.1 149 = .ok (.bipush 30, 2) := dc9_16 (by decide +kernel)
theorem d_Na_add_151 : decode y_Na_add.2.1 151 = .ok (.lushr, 1) := dc9_125 (by decide +kernel)
theorem d_Na_add_152 : decode y_Na_add.2.1 152 = .ok (.lstore 4, 2) := dc9_55 (by decide +kernel)
theorem d_Na_add_154 : decode y_Na_add.2.1 154 = .ok (.iinc 6 1, 3) := by decide +kernel
theorem d_Na_add_157 : decode y_Na_add.2.1 157 = .ok (.goto (-50), 3) := dc9_167 (by decide +kernel)
theorem d_Na_add_160 : decode y_Na_add.2.1 160 = .ok (.aload_n 0, 1) := dc9_42 (by decide +kernel)
theorem d_Na_add_161 : decode y_Na_add.2.1 161 = .ok (.iload_n 3, 1) := dc9_29 (by decide +kernel)
theorem d_Na_add_162 : decode y_Na_add.2.1 162 = .ok (.iconst 1, 1) := dc9_4 (by decide +kernel)
theorem d_Na_add_163 : decode y_Na_add.2.1 163 = .ok (.iadd, 1) := dc9_96 (by decide +kernel)
theorem d_Na_add_164 : decode y_Na_add.2.1 164 = .ok (.invokevirtual 31, 3) := dc9_182 (by decide +kernel)
theorem d_Na_add_167 : decode y_Na_add.2.1 167 = .ok (.return_, 1) := dc9_177 (by decide +kernel)
def h_Na_add_40 (G : mG) (d : Nat) (a0 : Nat) (a1 : Nat) (l2 : Int) (l3 : Int) (j4 : Int) (l6 : Int) (M : mM) (Q : mM → Prop) : Prop := mWm G y_Na_add (d + 1) 40 [vr a0, vr a1, vi l2, vi l3, vl j4, vd, vi l6] [] M (fun r9 M9 => r9 = none ∧ Q M9)
def h_Na_add_107 (G : mG) (d : Nat) (a0 : Nat) (l3 : Int) (j4 : Int) (l6 : Int) (M : mM) (Q : mM → Prop) : Prop := mWm G y_Na_add (d + 1) 107 [vr a0, vd, vd, vi l3, vl j4, vd, vi l6] [] M (fun r9 M9 => r9 = none ∧ Q M9)
theorem k_Na_add {G : mG} {d : Nat} {a0 : Nat} {a1 : Nat} {l2 : Int} {M : mM} {Q : mM → Prop} (hO : mOk M) (hi_l2 : i32 l2)
    (h : mK M a0 = 10 ∧ mK M a1 = 10 ∧ Cv G y_Na_reserve d [vr a0, vi ((if mI M a0 1 < mI M a1 1 then mI M a1 1 else mI M a0 1) + 1)] M (fun M3 => mOk M3 ∧ (mK M3 a0 = 10 ∧ Cv G y_JA_fillR d [vr (mR M3 a0 0), vi (mI M3 a0 1), vi ((if mI M a0 1 < mI M a1 1 then mI M a1 1 else mI M a0 1) + 1), vi 0] M3 (fun M7 => mOk M7 ∧ (h_Na_add_40 G d a0 a1 l2 (if mI M a0 1 < mI M a1 1 then mI M a1 1 else mI M a0 1) 0 0 M7 Q))))) :
    Cv G y_Na_add (d + 1) [vr a0, vr a1, vi l2] M Q := by
  refine wm_open (y := y_Na_add) rfl (Nat.le_of_ble_eq_true rfl) (L := [vr a0, vr a1, vi l2, vd, vd, vd, vd]) rfl ?_
  obtain ⟨h1, h⟩ := h
  obtain ⟨h2, h⟩ := h
  refine wm_aload_n d_Na_add_0 rfl rfl ?_
  refine gf_Na_13 rfl d_Na_add_1 h1 ?_
  refine wm_aload_n d_Na_add_4 rfl rfl ?_
  refine gf_Na_13 rfl d_Na_add_5 h2 ?_
  refine wm_mmax k5_191 (Nat.le_of_ble_eq_true rfl) (hO _ _).1 (hO _ _).1 d_Na_add_8 ?_
  refine wm_istore_n d_Na_add_11 rfl (by decide) (L' := [vr a0, vr a1, vi l2, vi (if mI M a0 1 < mI M a1 1 then mI M a1 1 else mI M a0 1), vd, vd, vd]) rfl ?_
  refine wm_aload_n d_Na_add_12 rfl rfl ?_
  refine wm_iload_n d_Na_add_13 rfl rfl ?_
  refine wm_iconst d_Na_add_14 ?_
  refine wm_iadd d_Na_add_15 ?_
  refine cf_Na_47 rfl d_Na_add_16 h1 (Nat.le_of_ble_eq_true rfl) (Cv.mono h (fun M3 h => ?_))
  obtain ⟨hOM3, h⟩ := h
  obtain ⟨h6, h⟩ := h
  refine wm_aload_n d_Na_add_19 rfl rfl ?_
  refine gf_Na_9 rfl d_Na_add_20 h6 ?_
  refine wm_aload_n d_Na_add_23 rfl rfl ?_
  refine gf_Na_13 rfl d_Na_add_24 h6 ?_
  refine wm_iload_n d_Na_add_27 rfl rfl ?_
  refine wm_iconst d_Na_add_28 ?_
  refine wm_iadd d_Na_add_29 ?_
  refine wm_iconst d_Na_add_30 ?_
  refine cf_Na_50 rfl d_Na_add_31 (Nat.le_of_ble_eq_true rfl) (Cv.mono h (fun M7 h => ?_))
  obtain ⟨hOM7, h⟩ := h
  refine wm_lconst (x := 0) d_Na_add_34 rfl ?_
  refine wm_lstore d_Na_add_35 (by decide) (L' := [vr a0, vr a1, vi l2, vi (if mI M a0 1 < mI M a1 1 then mI M a1 1 else mI M a0 1), vl 0, vd, vd]) rfl ?_
  refine wm_iconst d_Na_add_37 ?_
  refine wm_istore d_Na_add_38 (by decide) (L' := [vr a0, vr a1, vi l2, vi (if mI M a0 1 < mI M a1 1 then mI M a1 1 else mI M a0 1), vl 0, vd, vi 0]) rfl ?_
  exact h
theorem k_Na_add_40 {G : mG} {d : Nat} {a0 : Nat} {a1 : Nat} {l2 : Int} {l3 : Int} {j4 : Int} {l6 : Int} {M : mM} {Q : mM → Prop} (hO : mOk M) (hi_l2 : i32 l2) (hi_l3 : i32 l3) (hi_j4 : i64 j4) (hi_l6 : i32 l6)
    (h : mK M a1 = 10 ∧ ((mI M a1 1 ≤ l6) → (h_Na_add_107 G d a0 l3 j4 (mI M a1 1) M Q)) ∧ (¬ (mI M a1 1 ≤ l6) → (mK M a0 = 10 ∧ mK M (mR M a0 0) = 30 ∧ ((0 : Int) ≤ l6 ∧ l6 < (mN M (mR M a0 0) : Int)) ∧ mK M (mR M a1 0) = 30 ∧ ((0 : Int) ≤ l6 ∧ l6 < (mN M (mR M a1 0) : Int)) ∧ ((0 : Int) ≤ l6 ∧ l6 < (mN M (mR M a0 0) : Int)) ∧ i32 (andL (j4 + ((mI M (mR M a0 0) (Int.toNat l6)) + (l2 * (mI M (mR M a1 0) (Int.toNat l6))))) 1073741823) ∧ ∀ M27, M27 = mUI M (mR M a0 0) (Int.toNat l6) (andL (j4 + ((mI M (mR M a0 0) (Int.toNat l6)) + (l2 * (mI M (mR M a1 0) (Int.toNat l6))))) 1073741823) → h_Na_add_40 G d a0 a1 l2 l3 (ushrL (j4 + ((mI M (mR M a0 0) (Int.toNat l6)) + (l2 * (mI M (mR M a1 0) (Int.toNat l6))))) 30) (l6 + 1) M27 Q))) :
    h_Na_add_40 G d a0 a1 l2 l3 j4 l6 M Q := by
  unfold h_Na_add_40
  obtain ⟨h10, h⟩ := h
  refine wm_iload d_Na_add_40 rfl ?_
  refine wm_aload_n d_Na_add_42 rfl rfl ?_
  refine gf_Na_13 rfl d_Na_add_43 h10 ?_
  refine wm_icmp_ge (tgt := 101) d_Na_add_46 rfl hi_l6 (hO _ _).1 (fun c19 => ?_) (fun c19 => ?_)
  · replace h := h.1 c19
    refine wm_aload_n d_Na_add_101 rfl rfl ?_
    refine gf_Na_13 rfl d_Na_add_102 h10 ?_
    refine wm_istore d_Na_add_105 (by decide) (L' := [vr a0, vr a1, vi l2, vi l3, vl j4, vd, vi (mI M a1 1)]) rfl ?_
    refine wm_less (L' := [vr a0, vd, vd, vi l3, vl j4, vd, vi (mI M a1 1)]) ⟨Or.inr rfl, Or.inl rfl, Or.inl rfl, Or.inr rfl, Or.inr rfl, Or.inl rfl, Or.inr rfl, trivial⟩ ?_
    exact h
  · replace h := h.2 c19
    obtain ⟨h20, h⟩ := h
    obtain ⟨h21, h⟩ := h
    obtain ⟨h22, h⟩ := h
    obtain ⟨h23, h⟩ := h
    obtain ⟨h24, h⟩ := h
    obtain ⟨h25, h⟩ := h
    obtain ⟨h26, h⟩ := h
    obtain ⟨M27, e28⟩ : ∃ M27, M27 = mUI M (mR M a0 0) (Int.toNat l6) (andL (j4 + ((mI M (mR M a0 0) (Int.toNat l6)) + (l2 * (mI M (mR M a1 0) (Int.toNat l6))))) 1073741823) := ⟨_, rfl⟩
    replace h := h M27 e28
    refine wm_lload d_Na_add_49 rfl ?_
    refine wm_aload_n d_Na_add_51 rfl rfl ?_
    refine gf_Na_9 rfl d_Na_add_52 h20 ?_
    refine wm_iload d_Na_add_55 rfl ?_
    refine wm_iald d_Na_add_57 h21 h22 ?_
    refine wm_i2l d_Na_add_58 (hO _ _).1 ?_
    refine wm_iload_n d_Na_add_59 rfl rfl ?_
    refine wm_i2l d_Na_add_60 hi_l2 ?_
    refine wm_aload_n d_Na_add_61 rfl rfl ?_
    refine gf_Na_9 rfl d_Na_add_62 h10 ?_
    refine wm_iload d_Na_add_65 rfl ?_
    refine wm_iald d_Na_add_67 h23 h24 ?_
    refine wm_i2l d_Na_add_68 (hO _ _).1 ?_
    refine wm_lmul d_Na_add_69 ?_
    refine wm_ladd d_Na_add_70 ?_
    refine wm_ladd d_Na_add_71 ?_
    refine wm_lstore d_Na_add_72 (by decide) (L' := [vr a0, vr a1, vi l2, vi l3, vl (j4 + ((mI M (mR M a0 0) (Int.toNat l6)) + (l2 * (mI M (mR M a1 0) (Int.toNat l6))))), vd, vi l6]) rfl ?_
    refine wm_aload_n d_Na_add_74 rfl rfl ?_
    refine gf_Na_9 rfl d_Na_add_75 h20 ?_
    refine wm_iload d_Na_add_78 rfl ?_
    refine wm_lload d_Na_add_80 rfl ?_
    refine wm_ldc2 (x := 1073741823) d_Na_add_82 k5_202 (by decide) ?_
    refine wm_land d_Na_add_85 ?_
    refine wm_l2i d_Na_add_86 ?_
    have hOM27 : mOk M27 := by rw [e28]; exact mOk_UI hO h26
    refine wm_iastE d_Na_add_87 h21 h25 h26 e28 ?_
    refine wm_lload d_Na_add_88 rfl ?_
    refine wm_bipush d_Na_add_90 (by decide) ?_
    refine wm_lushr d_Na_add_92 ?_
    refine wm_lstore d_Na_add_93 (by decide) (L' := [vr a0, vr a1, vi l2, vi l3, vl (ushrL (j4 + ((mI M (mR M a0 0) (Int.toNat l6)) + (l2 * (mI M (mR M a1 0) (Int.toNat l6))))) 30), vd, vi l6]) rfl ?_
    refine wm_iinc d_Na_add_95 (by decide) rfl (L' := [vr a0, vr a1, vi l2, vi l3, vl (ushrL (j4 + ((mI M (mR M a0 0) (Int.toNat l6)) + (l2 * (mI M (mR M a1 0) (Int.toNat l6))))) 30), vd, vi (l6 + 1)]) rfl ?_
    refine wm_goto (tgt := 40) d_Na_add_98 rfl ?_
    exact h
theorem k_Na_add_107 {G : mG} {d : Nat} {a0 : Nat} {l3 : Int} {j4 : Int} {l6 : Int} {M : mM} {Q : mM → Prop} (hO : mOk M) (hi_l3 : i32 l3) (hi_j4 : i64 j4) (hi_l6 : i32 l6)
    (h : (((l3 < l6) ∨ (cmpL j4 0 = 0)) → (mK M a0 = 10 ∧ Cv G y_Na_trim d [vr a0, vi (l3 + 1)] M (fun M39 => mOk M39 ∧ (Q M39)))) ∧ (¬ ((l3 < l6) ∨ (cmpL j4 0 = 0)) → (mK M a0 = 10 ∧ mK M (mR M a0 0) = 30 ∧ ((0 : Int) ≤ l6 ∧ l6 < (mN M (mR M a0 0) : Int)) ∧ ((0 : Int) ≤ l6 ∧ l6 < (mN M (mR M a0 0) : Int)) ∧ i32 (andL (j4 + (mI M (mR M a0 0) (Int.toNat l6))) 1073741823) ∧ ∀ M48, M48 = mUI M (mR M a0 0) (Int.toNat l6) (andL (j4 + (mI M (mR M a0 0) (Int.toNat l6))) 1073741823) → h_Na_add_107 G d a0 l3 (ushrL (j4 + (mI M (mR M a0 0) (Int.toNat l6))) 30) (l6 + 1) M48 Q))) :
    h_Na_add_107 G d a0 l3 j4 l6 M Q := by
  unfold h_Na_add_107
  refine wm_iload d_Na_add_107 rfl ?_
  refine wm_iload_n d_Na_add_109 rfl rfl ?_
  have hE0 : ((l3 < l6) ∨ (cmpL j4 0 = 0)) → mWm G y_Na_add (d + 1) 160 [vr a0, vd, vd, vi l3, vl j4, vd, vi l6] [] M (fun r9 M9 => r9 = none ∧ Q M9) := by
    intro q37
    have h := h.1 q37
    obtain ⟨h38, h⟩ := h
    refine wm_aload_n d_Na_add_160 rfl rfl ?_
    refine wm_iload_n d_Na_add_161 rfl rfl ?_
    refine wm_iconst d_Na_add_162 ?_
    refine wm_iadd d_Na_add_163 ?_
    refine cf_Na_31 rfl d_Na_add_164 h38 (Nat.le_of_ble_eq_true rfl) (Cv.mono h (fun M39 h => ?_))
    obtain ⟨hOM39, h⟩ := h
    refine wm_return d_Na_add_167 rfl ?_
    exact ⟨rfl, h⟩
  have hE1 : ¬ ((l3 < l6) ∨ (cmpL j4 0 = 0)) → mWm G y_Na_add (d + 1) 120 [vr a0, vd, vd, vi l3, vl j4, vd, vi l6] [] M (fun r9 M9 => r9 = none ∧ Q M9) := by
    intro q42
    have h := h.2 q42
    obtain ⟨h43, h⟩ := h
    obtain ⟨h44, h⟩ := h
    obtain ⟨h45, h⟩ := h
    obtain ⟨h46, h⟩ := h
    obtain ⟨h47, h⟩ := h
    obtain ⟨M48, e49⟩ : ∃ M48, M48 = mUI M (mR M a0 0) (Int.toNat l6) (andL (j4 + (mI M (mR M a0 0) (Int.toNat l6))) 1073741823) := ⟨_, rfl⟩
    replace h := h M48 e49
    refine wm_lload d_Na_add_120 rfl ?_
    refine wm_aload_n d_Na_add_122 rfl rfl ?_
    refine gf_Na_9 rfl d_Na_add_123 h43 ?_
    refine wm_iload d_Na_add_126 rfl ?_
    refine wm_iald d_Na_add_128 h44 h45 ?_
    refine wm_i2l d_Na_add_129 (hO _ _).1 ?_
    refine wm_ladd d_Na_add_130 ?_
    refine wm_lstore d_Na_add_131 (by decide) (L' := [vr a0, vd, vd, vi l3, vl (j4 + (mI M (mR M a0 0) (Int.toNat l6))), vd, vi l6]) rfl ?_
    refine wm_aload_n d_Na_add_133 rfl rfl ?_
    refine gf_Na_9 rfl d_Na_add_134 h43 ?_
    refine wm_iload d_Na_add_137 rfl ?_
    refine wm_lload d_Na_add_139 rfl ?_
    refine wm_ldc2 (x := 1073741823) d_Na_add_141 k5_202 (by decide) ?_
    refine wm_land d_Na_add_144 ?_
    refine wm_l2i d_Na_add_145 ?_
    have hOM48 : mOk M48 := by rw [e49]; exact mOk_UI hO h47
    refine wm_iastE d_Na_add_146 h44 h46 h47 e49 ?_
    refine wm_lload d_Na_add_147 rfl ?_
    refine wm_bipush d_Na_add_149 (by decide) ?_
    refine wm_lushr d_Na_add_151 ?_
    refine wm_lstore d_Na_add_152 (by decide) (L' := [vr a0, vd, vd, vi l3, vl (ushrL (j4 + (mI M (mR M a0 0) (Int.toNat l6))) 30), vd, vi l6]) rfl ?_
    refine wm_iinc d_Na_add_154 (by decide) rfl (L' := [vr a0, vd, vd, vi l3, vl (ushrL (j4 + (mI M (mR M a0 0) (Int.toNat l6))) 30), vd, vi (l6 + 1)]) rfl ?_
    refine wm_goto (tgt := 107) d_Na_add_157 rfl ?_
    exact h
  clear h
  refine wm_icmp_gt (tgt := 160) d_Na_add_110 rfl hi_l6 hi_l3 (fun c35 => ?_) (fun c35 => ?_)
  · exact hE0 (Or.inl c35)
  · refine wm_lload d_Na_add_113 rfl ?_
    refine wm_lconst (x := 0) d_Na_add_115 rfl ?_
    refine wm_lcmp d_Na_add_116 hi_j4 ⟨by decide, by decide⟩ ?_
    refine wm_if_eq (tgt := 160) d_Na_add_117 rfl (m_cmp32 _ _) (fun c34 => ?_) (fun c34 => ?_)
    · exact hE0 (Or.inr c34)
    · exact hE1 (fun z50 => Or.elim z50 c35 c34)
theorem d_Na_multiply_0 : decode y_Na_multiply.2.1 0 = .ok (.iload_n 1, 1) := dc9_27 (by decide +kernel)
theorem d_Na_multiply_1 : decode y_Na_multiply.2.1 1 = .ok (.iconst 1, 1) := dc9_4 (by decide +kernel)
theorem d_Na_multiply_2 : decode y_Na_multiply.2.1 2 = .ok (.if_icmp .ne 4, 3) := dc9_160 (by decide +kernel)
theorem d_Na_multiply_5 : decode y_Na_multiply.2.1 5 = .ok (.return_, 1) := dc9_177 (by decide +kernel)
theorem d_Na_multiply_6 : decode y_Na_multiply.2.1 6 = .ok (.aload_n 0, 1) := dc9_42 (by decide +kernel)
theorem d_Na_multiply_7 : decode y_Na_multiply.2.1 7 = .ok (.getfield 13, 3) := dc9_180 (by decide +kernel)
theorem d_Na_multiply_10 : decode y_Na_multiply.2.1 10 = .ok (.aload_n 0, 1) := dc9_42 (by decide +kernel)
theorem d_Na_multiply_11 : decode y_Na_multiply.2.1 11 = .ok (.getfield 9, 3) := dc9_180 (by decide +kernel)
theorem d_Na_multiply_14 : decode y_Na_multiply.2.1 14 = .ok (.arraylength, 1) := dc9_190 (by decide +kernel)
theorem d_Na_multiply_15 : decode y_Na_multiply.2.1 15 = .ok (.if_icmp .ne 20, 3) := dc9_160 (by decide +kernel)
theorem d_Na_multiply_18 : decode y_Na_multiply.2.1 18 = .ok (.aload_n 0, 1) := dc9_42 (by decide +kernel)
theorem d_Na_multiply_19 : decode y_Na_multiply.2.1 19 = .ok (.aload_n 0, 1) := dc9_42 (by decide +kernel)
theorem d_Na_multiply_20 : decode y_Na_multiply.2.1 20 = .ok (.getfield 9, 3) := dc9_180 (by decide +kernel)
theorem d_Na_multiply_23 : decode y_Na_multiply.2.1 23 = .ok (.iconst 2, 1) := dc9_5 (by decide +kernel)
theorem d_Na_multiply_24 : decode y_Na_multiply.2.1 24 = .ok (.aload_n 0, 1) := dc9_42 (by decide +kernel)
theorem d_Na_multiply_25 : decode y_Na_multiply.2.1 25 = .ok (.getfield 13, 3) := dc9_180 (by decide +kernel)
theorem d_Na_multiply_28 : decode y_Na_multiply.2.1 28 = .ok (.imul, 1) := dc9_104 (by decide +kernel)
theorem d_Na_multiply_29 : decode y_Na_multiply.2.1 29 = .ok (.invokestatic 23, 3) := dc9_184 (by decide +kernel)
theorem d_Na_multiply_32 : decode y_Na_multiply.2.1 32 = .ok (.putfield 9, 3) := dc9_181 (by decide +kernel)
theorem d_Na_multiply_35 : decode y_Na_multiply.2.1 35 = .ok (.lconst 0, 1) := dc9_9 (by decide +kernel)
theorem d_Na_multiply_36 : decode y_Na_multiply.2.1 36 = .ok (.lstore_n 2, 1) := dc9_65 (by decide +kernel)
theorem d_Na_multiply_37 : decode y_Na_multiply.2.1 37 = .ok (.iconst 0, 1) := dc9_3 (by decide +kernel)
theorem d_Na_multiply_38 : decode y_Na_multiply.2.1 38 = .ok (.istore 4, 2) := dc9_54 (by decide +kernel)
theorem d_Na_multiply_40 : decode y_Na_multiply.2.1 40 = .ok (.iload 4, 2) := dc9_21 (by decide +kernel)
theorem d_Na_multiply_42 : decode y_Na_multiply.2.1 42 = .ok (.aload_n 0, 1) := dc9_42 (by decide +kernel)
theorem d_Na_multiply_43 : decode y_Na_multiply.2.1 43 = .ok (.getfield 13, 3) := dc9_180 (by decide +kernel)
theorem d_Na_multiply_46 : decode y_Na_multiply.2.1 46 = .ok (.if_icmp .ge 41, 3) := dc9_162 (by decide +kernel)
theorem d_Na_multiply_87 : decode y_Na_multiply.2.1 87 = .ok (.lload_n 2, 1) := dc9_32 (by decide +kernel)
theorem d_Na_multiply_88 : decode y_Na_multiply.2.1 88 = .ok (.lconst 0, 1) := dc9_9 (by decide +kernel)
theorem d_Na_multiply_89 : decode y_Na_multiply.2.1 89 = .ok (.lcmp, 1) := dc9_148 (by decide +kernel)
theorem d_Na_multiply_49 : decode y_Na_multiply.2.1 49 = .ok (.lload_n 2, 1) := dc9_32 (by decide +kernel)
theorem d_Na_multiply_50 : decode y_Na_multiply.2.1 50 = .ok (.iload_n 1, 1) := dc9_27 (by decide +kernel)
theorem d_Na_multiply_51 : decode y_Na_multiply.2.1 51 = .ok (.i2l, 1) := dc9_133 (by decide +kernel)
theorem d_Na_multiply_52 : decode y_Na_multiply.2.1 52 = .ok (.aload_n 0, 1) := dc9_42 (by decide +kernel)
theorem d_Na_multiply_53 : decode y_Na_multiply.2.1 53 = .ok (.getfield 9, 3) := dc9_180 (by decide +kernel)
theorem d_Na_multiply_56 : decode y_Na_multiply.2.1 56 = .ok (.iload 4, 2) := dc9_21 (by decide +kernel)
theorem d_Na_multiply_58 : decode y_Na_multiply.2.1 58 = .ok (.iaload, 1) := dc9_46 (by decide +kernel)
theorem d_Na_multiply_59 : decode y_Na_multiply.2.1 59 = .ok (.i2l, 1) := dc9_133 (by decide +kernel)
theorem d_Na_multiply_60 : decode y_Na_multiply.2.1 60 = .ok (.lmul, 1) := dc9_105 (by decide +kernel)
theorem d_Na_multiply_61 : decode y_Na_multiply.2.1 61 = .ok (.ladd, 1) := dc9_97 (by decide +kernel)
theorem d_Na_multiply_62 : decode y_Na_multiply.2.1 62 = .ok (.lstore_n 2, 1) := dc9_65 (by decide +kernel)
theorem d_Na_multiply_63 : decode y_Na_multiply.2.1 63 = .ok (.aload_n 0, 1) := dc9_42 (by decide +kernel)
theorem d_Na_multiply_64 : decode y_Na_multiply.2.1 64 = .ok (.getfield 9, 3) := dc9_180 (by decide +kernel)
theorem d_Na_multiply_67 : decode y_Na_multiply.2.1 67 = .ok (.iload 4, 2) := dc9_21 (by decide +kernel)
theorem d_Na_multiply_69 : decode y_Na_multiply.2.1 69 = .ok (.lload_n 2, 1) := dc9_32 (by decide +kernel)
theorem d_Na_multiply_70 : decode y_Na_multiply.2.1 70 = .ok (.ldc2_w 29, 3) := dc9_20 (by decide +kernel)
theorem d_Na_multiply_73 : decode y_Na_multiply.2.1 73 = .ok (.land, 1) := dc9_127 (by decide +kernel)
theorem d_Na_multiply_74 : decode y_Na_multiply.2.1 74 = .ok (.l2i, 1) := dc9_136 (by decide +kernel)
theorem d_Na_multiply_75 : decode y_Na_multiply.2.1 75 = .ok (.iastore, 1) := dc9_79 (by decide +kernel)
theorem d_Na_multiply_76 : decode y_Na_multiply.2.1 76 = .ok (.lload_n 2, 1) := dc9_32 (by decide +kernel)
theorem d_Na_multiply_77 : decode y_Na_multiply.2.1 77 = .ok (.bipush 30, 2) := dc9_16 (by decide +kernel)
theorem d_Na_multiply_79 : decode y_Na_multiply.2.1 79 = .ok (.lushr, 1) := dc9_125 (by decide +kernel)
theorem d_Na_multiply_80 : decode y_Na_multiply.2.1 80 = .ok (.lstore_n 2, 1) := dc9_65 (by decide +kernel)
theorem d_Na_multiply_81 : decode y_Na_multiply.2.1 81 = .ok (.iinc 4 1, 3) := by decide +kernel
theorem d_Na_multiply_84 : decode y_Na_multiply.2.1 84 = .ok (.goto (-44), 3) := dc9_167 (by decide +kernel)
theorem d_Na_multiply_90 : decode y_Na_multiply.2.1 90 = .ok (.ifCond .eq 24, 3) := dc9_153 (by decide +kernel)
theorem d_Na_multiply_93 : decode y_Na_multiply.2.1 93 = .ok (.aload_n 0, 1) := dc9_42 (by decide +kernel)
theorem d_Na_multiply_94 : decode y_Na_multiply.2.1 94 = .ok (.getfield 9, 3) := dc9_180 (by decide +kernel)
theorem d_Na_multiply_97 : decode y_Na_multiply.2.1 97 = .ok (.aload_n 0, 1) := dc9_42 (by decide +kernel)
theorem d_Na_multiply_98 : decode y_Na_multiply.2.1 98 = .ok (.getfield 13, 3) := dc9_180 (by decide +kernel)
theorem d_Na_multiply_101 : decode y_Na_multiply.2.1 101 = .ok (.lload_n 2, 1) := dc9_32 (by decide +kernel)
theorem d_Na_multiply_102 : decode y_Na_multiply.2.1 102 = .ok (.l2i, 1) := dc9_136 (by decide +kernel)
theorem d_Na_multiply_103 : decode y_Na_multiply.2.1 103 = .ok (.iastore, 1) := dc9_79 (by decide +kernel)
theorem d_Na_multiply_104 : decode y_Na_multiply.2.1 104 = .ok (.aload_n 0, 1) := dc9_42 (by decide +kernel)
theorem d_Na_multiply_105 : decode y_Na_multiply.2.1 105 = .ok (.dup, 1) := dc9_89 (by decide +kernel)
theorem d_Na_multiply_106 : decode y_Na_multiply.2.1 106 = .ok (.getfield 13, 3) := dc9_180 (by decide +kernel)
theorem d_Na_multiply_109 : decode y_Na_multiply.2.1 109 = .ok (.iconst 1, 1) := dc9_4 (by decide +kernel)
theorem d_Na_multiply_110 : decode y_Na_multiply.2.1 110 = .ok (.iadd, 1) := dc9_96 (by decide +kernel)
theorem d_Na_multiply_111 : decode y_Na_multiply.2.1 111 = .ok (.putfield 13, 3) := dc9_181 (by decide +kernel)
theorem d_Na_multiply_114 : decode y_Na_multiply.2.1 114 = .ok (.return_, 1) := dc9_177 (by decide +kernel)
def h_Na_multiply_40 (G : mG) (d : Nat) (a0 : Nat) (l1 : Int) (j2 : Int) (l4 : Int) (M : mM) (Q : mM → Prop) : Prop := mWm G y_Na_multiply (d + 1) 40 [vr a0, vi l1, vl j2, vd, vi l4] [] M (fun r9 M9 => r9 = none ∧ Q M9)
theorem k_Na_multiply {G : mG} {d : Nat} {a0 : Nat} {l1 : Int} {M : mM} {Q : mM → Prop} (hO : mOk M) (hi_l1 : i32 l1)
    (h : ((l1 = 1) → (Q M)) ∧ (¬ (l1 = 1) → (mK M a0 = 10 ∧ mK M (mR M a0 0) = 30 ∧ i32 (mN M (mR M a0 0) : Int) ∧ ((mI M a0 1 = (mN M (mR M a0 0) : Int)) → (Cr G y_JA_copyOf d [vr (mR M a0 0), vi (2 * (mI M a0 1))] M (fun x16 M15 => mOk M15 ∧ (mK M15 a0 = 10 ∧ ∀ M19, M19 = mUR M15 a0 0 x16 → h_Na_multiply_40 G d a0 l1 0 0 M19 Q)))) ∧ (¬ (mI M a0 1 = (mN M (mR M a0 0) : Int)) → (h_Na_multiply_40 G d a0 l1 0 0 M Q))))) :
    Cv G y_Na_multiply (d + 1) [vr a0, vi l1] M Q := by
  refine wm_open (y := y_Na_multiply) rfl (Nat.le_of_ble_eq_true rfl) (L := [vr a0, vi l1, vd, vd, vd]) rfl ?_
  refine wm_iload_n d_Na_multiply_0 rfl rfl ?_
  refine wm_iconst d_Na_multiply_1 ?_
  refine wm_icmp_ne (tgt := 6) d_Na_multiply_2 rfl hi_l1 ⟨by decide, by decide⟩ (fun c6 => ?_) (fun c6 => ?_)
  · replace h := h.2 c6
    obtain ⟨h7, h⟩ := h
    obtain ⟨h8, h⟩ := h
    obtain ⟨h13, h⟩ := h
    refine wm_aload_n d_Na_multiply_6 rfl rfl ?_
    refine gf_Na_13 rfl d_Na_multiply_7 h7 ?_
    refine wm_aload_n d_Na_multiply_10 rfl rfl ?_
    refine gf_Na_9 rfl d_Na_multiply_11 h7 ?_
    refine wm_alen 0 rfl (fun _ => rfl) d_Na_multiply_14 h8 ?_
    refine wm_icmp_ne (tgt := 35) d_Na_multiply_15 rfl (hO _ _).1 h13 (fun c14 => ?_) (fun c14 => ?_)
    · replace h := h.2 c14
      refine wm_lconst (x := 0) d_Na_multiply_35 rfl ?_
      refine wm_lstore_n d_Na_multiply_36 rfl (by decide) (L' := [vr a0, vi l1, vl 0, vd, vd]) rfl ?_
      refine wm_iconst d_Na_multiply_37 ?_
      refine wm_istore d_Na_multiply_38 (by decide) (L' := [vr a0, vi l1, vl 0, vd, vi 0]) rfl ?_
      exact h
    · replace c14 := Classical.not_not.mp c14
      replace h := h.1 c14
      refine wm_aload_n d_Na_multiply_18 rfl rfl ?_
      refine wm_aload_n d_Na_multiply_19 rfl rfl ?_
      refine gf_Na_9 rfl d_Na_multiply_20 h7 ?_
      refine wm_iconst d_Na_multiply_23 ?_
      refine wm_aload_n d_Na_multiply_24 rfl rfl ?_
      refine gf_Na_13 rfl d_Na_multiply_25 h7 ?_
      refine wm_imul d_Na_multiply_28 ?_
      refine cf_Na_23 rfl d_Na_multiply_29 (Nat.le_of_ble_eq_true rfl) (Cr.mono h (fun x16 M15 h => ?_))
      obtain ⟨hOM15, h⟩ := h
      obtain ⟨h18, h⟩ := h
      obtain ⟨M19, e20⟩ : ∃ M19, M19 = mUR M15 a0 0 x16 := ⟨_, rfl⟩
      replace h := h M19 e20
      have hOM19 : mOk M19 := by rw [e20]; exact mOk_UR hOM15
      refine pf_Na_9 rfl d_Na_multiply_32 h18 e20 ?_
      refine wm_lconst (x := 0) d_Na_multiply_35 rfl ?_
      refine wm_lstore_n d_Na_multiply_36 rfl (by decide) (L' := [vr a0, vi l1, vl 0, vd, vd]) rfl ?_
      refine wm_iconst d_Na_multiply_37 ?_
      refine wm_istore d_Na_multiply_38 (by decide) (L' := [vr a0, vi l1, vl 0, vd, vi 0]) rfl ?_
      exact h
  · replace c6 := Classical.not_not.mp c6
    replace h := h.1 c6
    refine wm_return d_Na_multiply_5 rfl ?_
    exact ⟨rfl, h⟩
theorem k_Na_multiply_40 {G : mG} {d : Nat} {a0 : Nat} {l1 : Int} {j2 : Int} {l4 : Int} {M : mM} {Q : mM → Prop} (hO : mOk M) (hi_l1 : i32 l1) (hi_j2 : i64 j2) (hi_l4 : i32 l4)
    (h : mK M a0 = 10 ∧ ((mI M a0 1 ≤ l4) → (((cmpL j2 0 = 0) → (Q M)) ∧ (¬ (cmpL j2 0 = 0) → (mK M (mR M a0 0) = 30 ∧ ((0 : Int) ≤ mI M a0 1 ∧ mI M a0 1 < (mN M (mR M a0 0) : Int)) ∧ i32 j2 ∧ ∀ M39, M39 = mUI M (mR M a0 0) (Int.toNat (mI M a0 1)) j2 → i32 ((mI M39 a0 1) + 1) ∧ ∀ M42, M42 = mUI M39 a0 1 ((mI M39 a0 1) + 1) → Q M42)))) ∧ (¬ (mI M a0 1 ≤ l4) → (mK M (mR M a0 0) = 30 ∧ ((0 : Int) ≤ l4 ∧ l4 < (mN M (mR M a0 0) : Int)) ∧ ((0 : Int) ≤ l4 ∧ l4 < (mN M (mR M a0 0) : Int)) ∧ i32 (andL (j2 + (l1 * (mI M (mR M a0 0) (Int.toNat l4)))) 1073741823) ∧ ∀ M48, M48 = mUI M (mR M a0 0) (Int.toNat l4) (andL (j2 + (l1 * (mI M (mR M a0 0) (Int.toNat l4)))) 1073741823) → h_Na_multiply_40 G d a0 l1 (ushrL (j2 + (l1 * (mI M (mR M a0 0) (Int.toNat l4)))) 30) (l4 + 1) M48 Q))) :
    h_Na_multiply_40 G d a0 l1 j2 l4 M Q := by
  unfold h_Na_multiply_40
  obtain ⟨h21, h⟩ := h
  refine wm_iload d_Na_multiply_40 rfl ?_
  refine wm_aload_n d_Na_multiply_42 rfl rfl ?_
  refine gf_Na_13 rfl d_Na_multiply_43 h21 ?_
  refine wm_icmp_ge (tgt := 87) d_Na_multiply_46 rfl hi_l4 (hO _ _).1 (fun c28 => ?_) (fun c28 => ?_)
  · replace h := h.1 c28
    refine wm_lload_n d_Na_multiply_87 rfl rfl ?_
    refine wm_lconst (x := 0) d_Na_multiply_88 rfl ?_
    refine wm_lcmp d_Na_multiply_89 hi_j2 ⟨by decide, by decide⟩ ?_
    refine wm_if_eq (tgt := 114) d_Na_multiply_90 rfl (m_cmp32 _ _) (fun c35 => ?_) (fun c35 => ?_)
    · replace h := h.1 c35
      refine wm_return d_Na_multiply_114 rfl ?_
      exact ⟨rfl, h⟩
    · replace h := h.2 c35
      obtain ⟨h36, h⟩ := h
      obtain ⟨h37, h⟩ := h
      obtain ⟨h38, h⟩ := h
      obtain ⟨M39, e40⟩ : ∃ M39, M39 = mUI M (mR M a0 0) (Int.toNat (mI M a0 1)) j2 := ⟨_, rfl⟩
      replace h := h M39 e40
      obtain ⟨h41, h⟩ := h
      obtain ⟨M42, e43⟩ : ∃ M42, M42 = mUI M39 a0 1 ((mI M39 a0 1) + 1) := ⟨_, rfl⟩
      replace h := h M42 e43
      refine wm_aload_n d_Na_multiply_93 rfl rfl ?_
      refine gf_Na_9 rfl d_Na_multiply_94 h21 ?_
      refine wm_aload_n d_Na_multiply_97 rfl rfl ?_
      refine gf_Na_13 rfl d_Na_multiply_98 h21 ?_
      refine wm_lload_n d_Na_multiply_101 rfl rfl ?_
      refine wm_l2i d_Na_multiply_102 ?_
      have hOM39 : mOk M39 := by rw [e40]; exact mOk_UI hO h38
      refine wm_iastE d_Na_multiply_103 h36 h37 h38 e40 ?_
      refine wm_aload_n d_Na_multiply_104 rfl rfl ?_
      refine wm_dup d_Na_multiply_105 rfl ?_
      refine gf_Na_13 rfl d_Na_multiply_106 (by rw [e40]; exact h21) ?_
      refine wm_iconst d_Na_multiply_109 ?_
      refine wm_iadd d_Na_multiply_110 ?_
      have hOM42 : mOk M42 := by rw [e43]; exact mOk_UI hOM39 h41
      refine pf_Na_13 rfl d_Na_multiply_111 (by rw [e40]; exact h21) h41 e43 ?_
      refine wm_return d_Na_multiply_114 rfl ?_
      exact ⟨rfl, h⟩
  · replace h := h.2 c28
    obtain ⟨h44, h⟩ := h
    obtain ⟨h45, h⟩ := h
    obtain ⟨h46, h⟩ := h
    obtain ⟨h47, h⟩ := h
    obtain ⟨M48, e49⟩ : ∃ M48, M48 = mUI M (mR M a0 0) (Int.toNat l4) (andL (j2 + (l1 * (mI M (mR M a0 0) (Int.toNat l4)))) 1073741823) := ⟨_, rfl⟩
    replace h := h M48 e49
    refine wm_lload_n d_Na_multiply_49 rfl rfl ?_
    refine wm_iload_n d_Na_multiply_50 rfl rfl ?_
    refine wm_i2l d_Na_multiply_51 hi_l1 ?_
    refine wm_aload_n d_Na_multiply_52 rfl rfl ?_
    refine gf_Na_9 rfl d_Na_multiply_53 h21 ?_
    refine wm_iload d_Na_multiply_56 rfl ?_
    refine wm_iald d_Na_multiply_58 h44 h45 ?_
    refine wm_i2l d_Na_multiply_59 (hO _ _).1 ?_
    refine wm_lmul d_Na_multiply_60 ?_
    refine wm_ladd d_Na_multiply_61 ?_
    refine wm_lstore_n d_Na_multiply_62 rfl (by decide) (L' := [vr a0, vi l1, vl (j2 + (l1 * (mI M (mR M a0 0) (Int.toNat l4)))), vd, vi l4]) rfl ?_
    refine wm_aload_n d_Na_multiply_63 rfl rfl ?_
    refine gf_Na_9 rfl d_Na_multiply_64 h21 ?_
    refine wm_iload d_Na_multiply_67 rfl ?_
    refine wm_lload_n d_Na_multiply_69 rfl rfl ?_
    refine wm_ldc2 (x := 1073741823) d_Na_multiply_70 k5_202 (by decide) ?_
    refine wm_land d_Na_multiply_73 ?_
    refine wm_l2i d_Na_multiply_74 ?_
    have hOM48 : mOk M48 := by rw [e49]; exact mOk_UI hO h47
    refine wm_iastE d_Na_multiply_75 h44 h46 h47 e49 ?_
    refine wm_lload_n d_Na_multiply_76 rfl rfl ?_
    refine wm_bipush d_Na_multiply_77 (by decide) ?_
    refine wm_lushr d_Na_multiply_79 ?_
    refine wm_lstore_n d_Na_multiply_80 rfl (by decide) (L' := [vr a0, vi l1, vl (ushrL (j2 + (l1 * (mI M (mR M a0 0) (Int.toNat l4)))) 30), vd, vi l4]) rfl ?_
    refine wm_iinc d_Na_multiply_81 (by decide) rfl (L' := [vr a0, vi l1, vl (ushrL (j2 + (l1 * (mI M (mR M a0 0) (Int.toNat l4)))) 30), vd, vi (l4 + 1)]) rfl ?_
    refine wm_goto (tgt := 40) d_Na_multiply_84 rfl ?_
    exact h
theorem d_Na_putProduct_0 : decode y_Na_putProduct.2.1 0 = .ok (.aload_n 0, 1) := dc9_42 (by decide +kernel)
theorem d_Na_putProduct_1 : decode y_Na_putProduct.2.1 1 = .ok (.aload_n 1, 1) := dc9_43 (by decide +kernel)
theorem d_Na_putProduct_2 : decode y_Na_putProduct.2.1 2 = .ok (.getfield 13, 3) := dc9_180 (by decide +kernel)
theorem d_Na_putProduct_5 : decode y_Na_putProduct.2.1 5 = .ok (.aload_n 2, 1) := dc9_44 (by decide +kernel)
theorem d_Na_putProduct_6 : decode y_Na_putProduct.2.1 6 = .ok (.getfield 13, 3) := dc9_180 (by decide +kernel)
theorem d_Na_putProduct_9 : decode y_Na_putProduct.2.1 9 = .ok (.iadd, 1) := dc9_96 (by decide +kernel)
theorem d_Na_putProduct_10 : decode y_Na_putProduct.2.1 10 = .ok (.invokevirtual 47, 3) := dc9_182 (by decide +kernel)
theorem d_Na_putProduct_13 : decode y_Na_putProduct.2.1 13 = .ok (.aload_n 0, 1) := dc9_42 (by decide +kernel)
theorem d_Na_putProduct_14 : decode y_Na_putProduct.2.1 14 = .ok (.getfield 9, 3) := dc9_180 (by decide +kernel)
theorem d_Na_putProduct_17 : decode y_Na_putProduct.2.1 17 = .ok (.iconst 0, 1) := dc9_3 (by decide +kernel)
theorem d_Na_putProduct_18 : decode y_Na_putProduct.2.1 18 = .ok (.aload_n 1, 1) := dc9_43 (by decide +kernel)
theorem d_Na_putProduct_19 : decode y_Na_putProduct.2.1 19 = .ok (.getfield 13, 3) := dc9_180 (by decide +kernel)
theorem d_Na_putProduct_22 : decode y_Na_putProduct.2.1 22 = .ok (.aload_n 2, 1) := dc9_44 (by decide +kernel)
theorem d_Na_putProduct_23 : decode y_Na_putProduct.2.1 23 = .ok (.getfield 13, 3) := dc9_180 (by decide +kernel)
theorem d_Na_putProduct_26 : decode y_Na_putProduct.2.1 26 = .ok (.iadd, 1) := dc9_96 (by decide +kernel)
theorem d_Na_putProduct_27 : decode y_Na_putProduct.2.1 27 = .ok (.iconst 0, 1) := dc9_3 (by decide +kernel)
theorem d_Na_putProduct_28 : decode y_Na_putProduct.2.1 28 = .ok (.invokestatic 50, 3) := dc9_184 (by decide +kernel)
theorem d_Na_putProduct_31 : decode y_Na_putProduct.2.1 31 = .ok (.iconst 0, 1) := dc9_3 (by decide +kernel)
theorem d_Na_putProduct_32 : decode y_Na_putProduct.2.1 32 = .ok (.istore_n 3, 1) := dc9_62 (by decide +kernel)
theorem d_Na_putProduct_33 : decode y_Na_putProduct.2.1 33 = .ok (.iload_n 3, 1) := dc9_29 (by decide +kernel)
theorem d_Na_putProduct_34 : decode y_Na_putProduct.2.1 34 = .ok (.aload_n 1, 1) := dc9_43 (by decide +kernel)
theorem d_Na_putProduct_35 : decode y_Na_putProduct.2.1 35 = .ok (.getfield 13, 3) := dc9_180 (by decide +kernel)
theorem d_Na_putProduct_38 : decode y_Na_putProduct.2.1 38 = .ok (.if_icmp .ge 103, 3) := dc9_162 (by decide +kernel)
theorem d_Na_putProduct_141 : decode y_Na_putProduct.2.1 141 = .ok (.aload_n 0, 1) := dc9_42 (by decide +kernel)
theorem d_Na_putProduct_142 : decode y_Na_putProduct.2.1 142 = .ok (.aload_n 1, 1) := dc9_43 (by decide +kernel)
theorem d_Na_putProduct_143 : decode y_Na_putProduct.2.1 143 = .ok (.getfield 13, 3) := dc9_180 (by decide +kernel)
theorem d_Na_putProduct_146 : decode y_Na_putProduct.2.1 146 = .ok (.aload_n 2, 1) := dc9_44 (by decide +kernel)
theorem d_Na_putProduct_147 : decode y_Na_putProduct.2.1 147 = .ok (.getfield 13, 3) := dc9_180 (by decide +kernel)
theorem d_Na_putProduct_150 : decode y_Na_putProduct.2.1 150 = .ok (.iadd, 1) := dc9_96 (by decide +kernel)
theorem d_Na_putProduct_41 : decode y_Na_putProduct.2.1 41 = .ok (.aload_n 1, 1) := dc9_43 (by decide +kernel)
theorem d_Na_putProduct_42 : decode y_Na_putProduct.2.1 42 = .ok (.getfield 9, 3) := dc9_180 (by decide +kernel)
theorem d_Na_putProduct_45 : decode y_Na_putProduct.2.1 45 = .ok (.iload_n 3, 1) := dc9_29 (by decide +kernel)
theorem d_Na_putProduct_46 : decode y_Na_putProduct.2.1 46 = .ok (.iaload, 1) := dc9_46 (by decide +kernel)
theorem d_Na_putProduct_47 : decode y_Na_putProduct.2.1 47 = .ok (.i2l, 1) := dc9_133 (by decide +kernel)
theorem d_Na_putProduct_48 : decode y_Na_putProduct.2.1 48 = .ok (.lstore 4, 2) := dc9_55 (by decide +kernel)
theorem d_Na_putProduct_50 : decode y_Na_putProduct.2.1 50 = .ok (.lconst 0, 1) := dc9_9 (by decide +kernel)
theorem d_Na_putProduct_51 : decode y_Na_putProduct.2.1 51 = .ok (.lstore 6, 2) := dc9_55 (by decide +kernel)
theorem d_Na_putProduct_53 : decode y_Na_putProduct.2.1 53 = .ok (.iconst 0, 1) := dc9_3 (by decide +kernel)
theorem d_Na_putProduct_54 : decode y_Na_putProduct.2.1 54 = .ok (.istore 8, 2) := dc9_54 (by decide +kernel)
theorem d_Na_putProduct_151 : decode y_Na_putProduct.2.1 151 = .ok (.invokevirtual 31, 3) := dc9_182 (by decide +kernel)
theorem d_Na_putProduct_154 : decode y_Na_putProduct.2.1 154 = .ok (.return_, 1) := dc9_177 (by decide +kernel)
theorem d_Na_putProduct_56 : decode y_Na_putProduct.2.1 56 = .ok (.iload 8, 2) := dc9_21 (by decide +kernel)
theorem d_Na_putProduct_58 : decode y_Na_putProduct.2.1 58 = .ok (.aload_n 2, 1) := dc9_44 (by decide +kernel)
theorem d_Na_putProduct_59 : decode y_Na_putProduct.2.1 59 = .ok (.getfield 13, 3) := dc9_180 (by decide +kernel)
theorem d_Na_putProduct_62 : decode y_Na_putProduct.2.1 62 = .ok (.if_icmp .ge 59, 3) := dc9_162 (by decide +kernel)
theorem d_Na_putProduct_121 : decode y_Na_putProduct.2.1 121 = .ok (.aload_n 0, 1) := dc9_42 (by decide +kernel)
theorem d_Na_putProduct_122 : decode y_Na_putProduct.2.1 122 = .ok (.getfield 9, 3) := dc9_180 (by decide +kernel)
theorem d_Na_putProduct_125 : decode y_Na_putProduct.2.1 125 = .ok (.iload_n 3, 1) := dc9_29 (by decide +kernel)
theorem d_Na_putProduct_126 : decode y_Na_putProduct.2.1 126 = .ok (.aload_n 2, 1) := dc9_44 (by decide +kernel)
theorem d_Na_putProduct_127 : decode y_Na_putProduct.2.1 127 = .ok (.getfield 13, 3) := dc9_180 (by decide +kernel)
theorem d_Na_putProduct_130 : decode y_Na_putProduct.2.1 130 = .ok (.iadd, 1) := dc9_96 (by decide +kernel)
theorem d_Na_putProduct_131 : decode y_Na_putProduct.2.1 131 = .ok (.lload 6, 2) := dc9_22 (by decide +kernel)
theorem d_Na_putProduct_133 : decode y_Na_putProduct.2.1 133 = .ok (.l2i, 1) := dc9_136 (by decide +kernel)
theorem d_Na_putProduct_134 : decode y_Na_putProduct.2.1 134 = .ok (.iastore, 1) := dc9_79 (by decide +kernel)
theorem d_Na_putProduct_135 : decode y_Na_putProduct.2.1 135 = .ok (.iinc 3 1, 3) := by decide +kernel
theorem d_Na_putProduct_138 : decode y_Na_putProduct.2.1 138 = .ok (.goto (-105), 3) := dc9_167 (by decide +kernel)
theorem d_Na_putProduct_65 : decode y_Na_putProduct.2.1 65 = .ok (.lload 6, 2) := dc9_22 (by decide +kernel)
theorem d_Na_putProduct_67 : decode y_Na_putProduct.2.1 67 = .ok (.aload_n 0, 1) := dc9_42 (by decide +kernel)
theorem d_Na_putProduct_68 : decode y_Na_putProduct.2.1 68 = .ok (.getfield 9, 3) := dc9_180 (by decide +kernel)
theorem d_Na_putProduct_71 : decode y_Na_putProduct.2.1 71 = .ok (.iload_n 3, 1) := dc9_29 (by decide +kernel)
theorem d_Na_putProduct_72 : decode y_Na_putProduct.2.1 72 = .ok (.iload 8, 2) := dc9_21 (by decide +kernel)
theorem d_Na_putProduct_74 : decode y_Na_putProduct.2.1 74 = .ok (.iadd, 1) := dc9_96 (by decide +kernel)
theorem d_Na_putProduct_75 : decode y_Na_putProduct.2.1 75 = .ok (.iaload, 1) := dc9_46 (by decide +kernel)
theorem d_Na_putProduct_76 : decode y_Na_putProduct.2.1 76 = .ok (.i2l, 1) := dc9_133 (by decide +kernel)
theorem d_Na_putProduct_77 : decode y_Na_putProduct.2.1 77 = .ok (.lload 4, 2) := dc9_22 (by decide +kernel)
theorem d_Na_putProduct_79 : decode y_Na_putProduct.2.1 79 = .ok (.aload_n 2, 1) := dc9_44 (by decide +kernel)
theorem d_Na_putProduct_80 : decode y_Na_putProduct.2.1 80 = .ok (.getfield 9, 3) := dc9_180 (by decide +kernel)
theorem d_Na_putProduct_83 : decode y_Na_putProduct.2.1 83 = .ok (.iload 8, 2) := dc9_21 (by decide +kernel)
theorem d_Na_putProduct_85 : decode y_Na_putProduct.2.1 85 = .ok (.iaload, 1) := dc9_46 (by decide +kernel)
theorem d_Na_putProduct_86 : decode y_Na_putProduct.2.1 86 = .ok (.i2l, 1) := dc9_133 (by decide +kernel)
theorem d_Na_putProduct_87 : decode y_Na_putProduct.2.1 87 = .ok (.lmul, 1) := dc9_105 (by decide +kernel)
theorem d_Na_putProduct_88 : decode y_Na_putProduct.2.1 88 = .ok (.ladd, 1) := dc9_97 (by decide +kernel)
theorem d_Na_putProduct_89 : decode y_Na_putProduct.2.1 89 = .ok (.ladd, 1) := dc9_97 (by decide +kernel)
theorem d_Na_putProduct_90 : decode y_Na_putProduct.2.1 90 = .ok (.lstore 6, 2) := dc9_55 (by decide +kernel)
theorem d_Na_putProduct_92 : decode y_Na_putProduct.2.1 92 = .ok (.aload_n 0, 1) := dc9_42 (by decide +kernel)
theorem d_Na_putProduct_93 : decode y_Na_putProduct.2.1 93 = .ok (.getfield 9, 3) := dc9_180 (by decide +kernel)
theorem d_Na_putProduct_96 : decode y_Na_putProduct.2.1 96 = .ok (.iload_n 3, 1) := dc9_29 (by decide +kernel)
theorem d_Na_putProduct_97 : decode y_Na_putProduct.2.1 97 = .ok (.iload 8, 2) := dc9_21 (by decide +kernel)
theorem d_Na_putProduct_99 : decode y_Na_putProduct.2.1 99 = .ok (.iadd, 1) := dc9_96 (by decide +kernel)
theorem d_Na_putProduct_100 : decode y_Na_putProduct.2.1 100 = .ok (.lload 6, 2) := dc9_22 (by decide +kernel)
theorem d_Na_putProduct_102 : decode y_Na_putProduct.2.1 102 = .ok (.ldc2_w 29, 3) := dc9_20 (by decide +kernel)
theorem d_Na_putProduct_105 : decode y_Na_putProduct.2.1 105 = .ok (.land, 1) := dc9_127 (by decide +kernel)
theorem d_Na_putProduct_106 : decode y_Na_putProduct.2.1 106 = .ok (.l2i, 1) := dc9_136 (by decide +kernel)
theorem d_Na_putProduct_107 : decode y_Na_putProduct.2.1 107 = .ok (.iastore, 1) := dc9_79 (by decide +kernel)
theorem d_Na_putProduct_108 : decode y_Na_putProduct.2.1 108 = .ok (.lload 6, 2) := dc9_22 (by decide +kernel)
theorem d_Na_putProduct_110 : decode y_Na_putProduct.2.1 110 = .ok (.bipush 30, 2) := dc9_16 (by decide +kernel)
theorem d_Na_putProduct_112 : decode y_Na_putProduct.2.1 112 = .ok (.lushr, 1) := dc9_125 (by decide +kernel)
theorem d_Na_putProduct_113 : decode y_Na_putProduct.2.1 113 = .ok (.lstore 6, 2) := dc9_55 (by decide +kernel)
theorem d_Na_putProduct_115 : decode y_Na_putProduct.2.1 115 = .ok (.iinc 8 1, 3) := by decide +kernel
theorem d_Na_putProduct_118 : decode y_Na_putProduct.2.1 118 = .ok (.goto (-62), 3) := dc9_167 (by decide +kernel)
def h_Na_putProduct_33 (G : mG) (d : Nat) (a0 : Nat) (a1 : Nat) (a2 : Nat) (l3 : Int) (M : mM) (Q : mM → Prop) : Prop := mWm G y_Na_putProduct (d + 1) 33 [vr a0, vr a1, vr a2, vi l3, vd, vd, vd, vd, vd] [] M (fun r9 M9 => r9 = none ∧ Q M9)
def h_Na_putProduct_56 (G : mG) (d : Nat) (a0 : Nat) (a1 : Nat) (a2 : Nat) (l3 : Int) (j4 : Int) (j6 : Int) (l8 : Int) (M : mM) (Q : mM → Prop) : Prop := mWm G y_Na_putProduct (d + 1) 56 [vr a0, vr a1, vr a2, vi l3, vl j4, vd, vl j6, vd, vi l8] [] M (fun r9 M9 => r9 = none ∧ Q M9)
theorem k_Na_putProduct {G : mG} {d : Nat} {a0 : Nat} {a1 : Nat} {a2 : Nat} {M : mM} {Q : mM → Prop} (hO : mOk M)
    (h : mK M a1 = 10 ∧ mK M a2 = 10 ∧ mK M a0 = 10 ∧ Cv G y_Na_reserve d [vr a0, vi ((mI M a1 1) + (mI M a2 1))] M (fun M4 => mOk M4 ∧ (mK M4 a0 = 10 ∧ mK M4 a1 = 10 ∧ mK M4 a2 = 10 ∧ Cv G y_JA_fillR d [vr (mR M4 a0 0), vi 0, vi ((mI M4 a1 1) + (mI M4 a2 1)), vi 0] M4 (fun M10 => mOk M10 ∧ (h_Na_putProduct_33 G d a0 a1 a2 0 M10 Q))))) :
    Cv G y_Na_putProduct (d + 1) [vr a0, vr a1, vr a2] M Q := by
  refine wm_open (y := y_Na_putProduct) rfl (Nat.le_of_ble_eq_true rfl) (L := [vr a0, vr a1, vr a2, vd, vd, vd, vd, vd, vd]) rfl ?_
  obtain ⟨h1, h⟩ := h
  obtain ⟨h2, h⟩ := h
  obtain ⟨h3, h⟩ := h
  refine wm_aload_n d_Na_putProduct_0 rfl rfl ?_
  refine wm_aload_n d_Na_putProduct_1 rfl rfl ?_
  refine gf_Na_13 rfl d_Na_putProduct_2 h1 ?_
  refine wm_aload_n d_Na_putProduct_5 rfl rfl ?_
  refine gf_Na_13 rfl d_Na_putProduct_6 h2 ?_
  refine wm_iadd d_Na_putProduct_9 ?_
  refine cf_Na_47 rfl d_Na_putProduct_10 h3 (Nat.le_of_ble_eq_true rfl) (Cv.mono h (fun M4 h => ?_))
  obtain ⟨hOM4, h⟩ := h
  obtain ⟨h7, h⟩ := h
  obtain ⟨h8, h⟩ := h
  obtain ⟨h9, h⟩ := h
  refine wm_aload_n d_Na_putProduct_13 rfl rfl ?_
  refine gf_Na_9 rfl d_Na_putProduct_14 h7 ?_
  refine wm_iconst d_Na_putProduct_17 ?_
  refine wm_aload_n d_Na_putProduct_18 rfl rfl ?_
  refine gf_Na_13 rfl d_Na_putProduct_19 h8 ?_
  refine wm_aload_n d_Na_putProduct_22 rfl rfl ?_
  refine gf_Na_13 rfl d_Na_putProduct_23 h9 ?_
  refine wm_iadd d_Na_putProduct_26 ?_
  refine wm_iconst d_Na_putProduct_27 ?_
  refine cf_Na_50 rfl d_Na_putProduct_28 (Nat.le_of_ble_eq_true rfl) (Cv.mono h (fun M10 h => ?_))
  obtain ⟨hOM10, h⟩ := h
  refine wm_iconst d_Na_putProduct_31 ?_
  refine wm_istore_n d_Na_putProduct_32 rfl (by decide) (L' := [vr a0, vr a1, vr a2, vi 0, vd, vd, vd, vd, vd]) rfl ?_
  exact h
theorem k_Na_putProduct_33 {G : mG} {d : Nat} {a0 : Nat} {a1 : Nat} {a2 : Nat} {l3 : Int} {M : mM} {Q : mM → Prop} (hO : mOk M) (hi_l3 : i32 l3)
    (h : mK M a1 = 10 ∧ ((mI M a1 1 ≤ l3) → (mK M a2 = 10 ∧ mK M a0 = 10 ∧ Cv G y_Na_trim d [vr a0, vi ((mI M a1 1) + (mI M a2 1))] M (fun M20 => mOk M20 ∧ (Q M20)))) ∧ (¬ (mI M a1 1 ≤ l3) → (mK M (mR M a1 0) = 30 ∧ ((0 : Int) ≤ l3 ∧ l3 < (mN M (mR M a1 0) : Int)) ∧ h_Na_putProduct_56 G d a0 a1 a2 l3 (mI M (mR M a1 0) (Int.toNat l3)) 0 0 M Q))) :
    h_Na_putProduct_33 G d a0 a1 a2 l3 M Q := by
  unfold h_Na_putProduct_33
  obtain ⟨h13, h⟩ := h
  refine wm_iload_n d_Na_putProduct_33 rfl rfl ?_
  refine wm_aload_n d_Na_putProduct_34 rfl rfl ?_
  refine gf_Na_13 rfl d_Na_putProduct_35 h13 ?_
  refine wm_icmp_ge (tgt := 141) d_Na_putProduct_38 rfl hi_l3 (hO _ _).1 (fun c17 => ?_) (fun c17 => ?_)
  · replace h := h.1 c17
    obtain ⟨h18, h⟩ := h
    obtain ⟨h19, h⟩ := h
    refine wm_aload_n d_Na_putProduct_141 rfl rfl ?_
    refine wm_aload_n d_Na_putProduct_142 rfl rfl ?_
    refine gf_Na_13 rfl d_Na_putProduct_143 h13 ?_
    refine wm_aload_n d_Na_putProduct_146 rfl rfl ?_
    refine gf_Na_13 rfl d_Na_putProduct_147 h18 ?_
    refine wm_iadd d_Na_putProduct_150 ?_
    refine cf_Na_31 rfl d_Na_putProduct_151 h19 (Nat.le_of_ble_eq_true rfl) (Cv.mono h (fun M20 h => ?_))
    obtain ⟨hOM20, h⟩ := h
    refine wm_return d_Na_putProduct_154 rfl ?_
    exact ⟨rfl, h⟩
  · replace h := h.2 c17
    obtain ⟨h23, h⟩ := h
    obtain ⟨h24, h⟩ := h
    refine wm_aload_n d_Na_putProduct_41 rfl rfl ?_
    refine gf_Na_9 rfl d_Na_putProduct_42 h13 ?_
    refine wm_iload_n d_Na_putProduct_45 rfl rfl ?_
    refine wm_iald d_Na_putProduct_46 h23 h24 ?_
    refine wm_i2l d_Na_putProduct_47 (hO _ _).1 ?_
    refine wm_lstore d_Na_putProduct_48 (by decide) (L' := [vr a0, vr a1, vr a2, vi l3, vl (mI M (mR M a1 0) (Int.toNat l3)), vd, vd, vd, vd]) rfl ?_
    refine wm_lconst (x := 0) d_Na_putProduct_50 rfl ?_
    refine wm_lstore d_Na_putProduct_51 (by decide) (L' := [vr a0, vr a1, vr a2, vi l3, vl (mI M (mR M a1 0) (Int.toNat l3)), vd, vl 0, vd, vd]) rfl ?_
    refine wm_iconst d_Na_putProduct_53 ?_
    refine wm_istore d_Na_putProduct_54 (by decide) (L' := [vr a0, vr a1, vr a2, vi l3, vl (mI M (mR M a1 0) (Int.toNat l3)), vd, vl 0, vd, vi 0]) rfl ?_
    exact h
theorem k_Na_putProduct_56 {G : mG} {d : Nat} {a0 : Nat} {a1 : Nat} {a2 : Nat} {l3 : Int} {j4 : Int} {j6 : Int} {l8 : Int} {M : mM} {Q : mM → Prop} (hO : mOk M) (hi_l3 : i32 l3) (hi_j4 : i64 j4) (hi_j6 : i64 j6) (hi_l8 : i32 l8)
    (h : mK M a2 = 10 ∧ ((mI M a2 1 ≤ l8) → (mK M a0 = 10 ∧ mK M (mR M a0 0) = 30 ∧ ((0 : Int) ≤ l3 + (mI M a2 1) ∧ l3 + (mI M a2 1) < (mN M (mR M a0 0) : Int)) ∧ i32 j6 ∧ ∀ M43, M43 = mUI M (mR M a0 0) (Int.toNat (l3 + (mI M a2 1))) j6 → h_Na_putProduct_33 G d a0 a1 a2 (l3 + 1) M43 Q)) ∧ (¬ (mI M a2 1 ≤ l8) → (mK M a0 = 10 ∧ mK M (mR M a0 0) = 30 ∧ ((0 : Int) ≤ l3 + l8 ∧ l3 + l8 < (mN M (mR M a0 0) : Int)) ∧ mK M (mR M a2 0) = 30 ∧ ((0 : Int) ≤ l8 ∧ l8 < (mN M (mR M a2 0) : Int)) ∧ ((0 : Int) ≤ l3 + l8 ∧ l3 + l8 < (mN M (mR M a0 0) : Int)) ∧ i32 (andL (j6 + ((mI M (mR M a0 0) (Int.toNat (l3 + l8))) + (j4 * (mI M (mR M a2 0) (Int.toNat l8))))) 1073741823) ∧ ∀ M52, M52 = mUI M (mR M a0 0) (Int.toNat (l3 + l8)) (andL (j6 + ((mI M (mR M a0 0) (Int.toNat (l3 + l8))) + (j4 * (mI M (mR M a2 0) (Int.toNat l8))))) 1073741823) → h_Na_putProduct_56 G d a0 a1 a2 l3 j4 (ushrL (j6 + ((mI M (mR M a0 0) (Int.toNat (l3 + l8))) + (j4 * (mI M (mR M a2 0) (Int.toNat l8))))) 30) (l8 + 1) M52 Q))) :
    h_Na_putProduct_56 G d a0 a1 a2 l3 j4 j6 l8 M Q := by
  unfold h_Na_putProduct_56
  obtain ⟨h25, h⟩ := h
  refine wm_iload d_Na_putProduct_56 rfl ?_
  refine wm_aload_n d_Na_putProduct_58 rfl rfl ?_
  refine gf_Na_13 rfl d_Na_putProduct_59 h25 ?_
  refine wm_icmp_ge (tgt := 121) d_Na_putProduct_62 rfl hi_l8 (hO _ _).1 (fun c38 => ?_) (fun c38 => ?_)
  · replace h := h.1 c38
    obtain ⟨h39, h⟩ := h
    obtain ⟨h40, h⟩ := h
    obtain ⟨h41, h⟩ := h
    obtain ⟨h42, h⟩ := h
    obtain ⟨M43, e44⟩ : ∃ M43, M43 = mUI M (mR M a0 0) (Int.toNat (l3 + (mI M a2 1))) j6 := ⟨_, rfl⟩
    replace h := h M43 e44
    refine wm_aload_n d_Na_putProduct_121 rfl rfl ?_
    refine gf_Na_9 rfl d_Na_putProduct_122 h39 ?_
    refine wm_iload_n d_Na_putProduct_125 rfl rfl ?_
    refine wm_aload_n d_Na_putProduct_126 rfl rfl ?_
    refine gf_Na_13 rfl d_Na_putProduct_127 h25 ?_
    refine wm_iadd d_Na_putProduct_130 ?_
    refine wm_lload d_Na_putProduct_131 rfl ?_
    refine wm_l2i d_Na_putProduct_133 ?_
    have hOM43 : mOk M43 := by rw [e44]; exact mOk_UI hO h42
    refine wm_iastE d_Na_putProduct_134 h40 h41 h42 e44 ?_
    refine wm_iinc d_Na_putProduct_135 (by decide) rfl (L' := [vr a0, vr a1, vr a2, vi (l3 + 1), vl j4, vd, vl j6, vd, vi l8]) rfl ?_
    refine wm_goto (tgt := 33) d_Na_putProduct_138 rfl ?_
    refine wm_less (L' := [vr a0, vr a1, vr a2, vi (l3 + 1), vd, vd, vd, vd, vd]) ⟨Or.inr rfl, Or.inr rfl, Or.inr rfl, Or.inr rfl, Or.inl rfl, Or.inl rfl, Or.inl rfl, Or.inl rfl, Or.inl rfl, trivial⟩ ?_
    exact h
  · replace h := h.2 c38
    obtain ⟨h45, h⟩ := h
    obtain ⟨h46, h⟩ := h
    obtain ⟨h47, h⟩ := h
    obtain ⟨h48, h⟩ := h
    obtain ⟨h49, h⟩ := h
    obtain ⟨h50, h⟩ := h
    obtain ⟨h51, h⟩ := h
    obtain ⟨M52, e53⟩ : ∃ M52, M52 = mUI M (mR M a0 0) (Int.toNat (l3 + l8)) (andL (j6 + ((mI M (mR M a0 0) (Int.toNat (l3 + l8))) + (j4 * (mI M (mR M a2 0) (Int.toNat l8))))) 1073741823) := ⟨_, rfl⟩
    replace h := h M52 e53
    refine wm_lload d_Na_putProduct_65 rfl ?_
    refine wm_aload_n d_Na_putProduct_67 rfl rfl ?_
    refine gf_Na_9 rfl d_Na_putProduct_68 h45 ?_
    refine wm_iload_n d_Na_putProduct_71 rfl rfl ?_
    refine wm_iload d_Na_putProduct_72 rfl ?_
    refine wm_iadd d_Na_putProduct_74 ?_
    refine wm_iald d_Na_putProduct_75 h46 h47 ?_
    refine wm_i2l d_Na_putProduct_76 (hO _ _).1 ?_
    refine wm_lload d_Na_putProduct_77 rfl ?_
    refine wm_aload_n d_Na_putProduct_79 rfl rfl ?_
    refine gf_Na_9 rfl d_Na_putProduct_80 h25 ?_
    refine wm_iload d_Na_putProduct_83 rfl ?_
    refine wm_iald d_Na_putProduct_85 h48 h49 ?_
    refine wm_i2l d_Na_putProduct_86 (hO _ _).1 ?_
    refine wm_lmul d_Na_putProduct_87 ?_
    refine wm_ladd d_Na_putProduct_88 ?_
    refine wm_ladd d_Na_putProduct_89 ?_
    refine wm_lstore d_Na_putProduct_90 (by decide) (L' := [vr a0, vr a1, vr a2, vi l3, vl j4, vd, vl (j6 + ((mI M (mR M a0 0) (Int.toNat (l3 + l8))) + (j4 * (mI M (mR M a2 0) (Int.toNat l8))))), vd, vi l8]) rfl ?_
    refine wm_aload_n d_Na_putProduct_92 rfl rfl ?_
    refine gf_Na_9 rfl d_Na_putProduct_93 h45 ?_
    refine wm_iload_n d_Na_putProduct_96 rfl rfl ?_
    refine wm_iload d_Na_putProduct_97 rfl ?_
    refine wm_iadd d_Na_putProduct_99 ?_
    refine wm_lload d_Na_putProduct_100 rfl ?_
    refine wm_ldc2 (x := 1073741823) d_Na_putProduct_102 k5_202 (by decide) ?_
    refine wm_land d_Na_putProduct_105 ?_
    refine wm_l2i d_Na_putProduct_106 ?_
    have hOM52 : mOk M52 := by rw [e53]; exact mOk_UI hO h51
    refine wm_iastE d_Na_putProduct_107 h46 h50 h51 e53 ?_
    refine wm_lload d_Na_putProduct_108 rfl ?_
    refine wm_bipush d_Na_putProduct_110 (by decide) ?_
    refine wm_lushr d_Na_putProduct_112 ?_
    refine wm_lstore d_Na_putProduct_113 (by decide) (L' := [vr a0, vr a1, vr a2, vi l3, vl j4, vd, vl (ushrL (j6 + ((mI M (mR M a0 0) (Int.toNat (l3 + l8))) + (j4 * (mI M (mR M a2 0) (Int.toNat l8))))) 30), vd, vi l8]) rfl ?_
    refine wm_iinc d_Na_putProduct_115 (by decide) rfl (L' := [vr a0, vr a1, vr a2, vi l3, vl j4, vd, vl (ushrL (j6 + ((mI M (mR M a0 0) (Int.toNat (l3 + l8))) + (j4 * (mI M (mR M a2 0) (Int.toNat l8))))) 30), vd, vi (l8 + 1)]) rfl ?_
    refine wm_goto (tgt := 56) d_Na_putProduct_118 rfl ?_
    exact h
theorem d_Na_divideSmall_0 : decode y_Na_divideSmall.2.1 0 = .ok (.lconst 0, 1) := dc9_9 (by decide +kernel)
theorem d_Na_divideSmall_1 : decode y_Na_divideSmall.2.1 1 = .ok (.lstore_n 2, 1) := dc9_65 (by decide +kernel)
theorem d_Na_divideSmall_2 : decode y_Na_divideSmall.2.1 2 = .ok (.aload_n 0, 1) := dc9_42 (by decide +kernel)
theorem d_Na_divideSmall_3 : decode y_Na_divideSmall.2.1 3 = .ok (.getfield 13, 3) := dc9_180 (by decide +kernel)
theorem d_Na_divideSmall_6 : decode y_Na_divideSmall.2.1 6 = .ok (.iconst 1, 1) := dc9_4 (by decide +kernel)
theorem d_Na_divideSmall_7 : decode y_Na_divideSmall.2.1 7 = .ok (.isub, 1) := dc9_100 (by decide +kernel)
theorem d_Na_divideSmall_8 : decode y_Na_divideSmall.2.1 8 = .ok (.istore 4, 2) := dc9_54 (by decide +kernel)
theorem d_Na_divideSmall_10 : decode y_Na_divideSmall.2.1 10 = .ok (.iload 4, 2) := dc9_21 (by decide +kernel)
theorem d_Na_divideSmall_12 : decode y_Na_divideSmall.2.1 12 = .ok (.ifCond .lt 44, 3) := dc9_155 (by decide +kernel)
theorem d_Na_divideSmall_15 : decode y_Na_divideSmall.2.1 15 = .ok (.iload_n 1, 1) := dc9_27 (by decide +kernel)
theorem d_Na_divideSmall_16 : decode y_Na_divideSmall.2.1 16 = .ok (.ifCond .le 40, 3) := dc9_158 (by decide +kernel)
theorem d_Na_divideSmall_19 : decode y_Na_divideSmall.2.1 19 = .ok (.lload_n 2, 1) := dc9_32 (by decide +kernel)
theorem d_Na_divideSmall_20 : decode y_Na_divideSmall.2.1 20 = .ok (.bipush 30, 2) := dc9_16 (by decide +kernel)
theorem d_Na_divideSmall_22 : decode y_Na_divideSmall.2.1 22 = .ok (.lshl, 1) := dc9_121 (by decide +kernel)
theorem d_Na_divideSmall_23 : decode y_Na_divideSmall.2.1 23 = .ok (.aload_n 0, 1) := dc9_42 (by decide +kernel)
theorem d_Na_divideSmall_24 : decode y_Na_divideSmall.2.1 24 = .ok (.getfield 9, 3) := dc9_180 (by decide +kernel)
theorem d_Na_divideSmall_27 : decode y_Na_divideSmall.2.1 27 = .ok (.iload 4, 2) := dc9_21 (by decide +kernel)
theorem d_Na_divideSmall_29 : decode y_Na_divideSmall.2.1 29 = .ok (.iaload, 1) := dc9_46 (by decide +kernel)
theorem d_Na_divideSmall_30 : decode y_Na_divideSmall.2.1 30 = .ok (.i2l, 1) := dc9_133 (by decide +kernel)
theorem d_Na_divideSmall_31 : decode y_Na_divideSmall.2.1 31 = .ok (.ladd, 1) := dc9_97 (by decide +kernel)
theorem d_Na_divideSmall_32 : decode y_Na_divideSmall.2.1 32 = .ok (.lstore_n 2, 1) := dc9_65 (by decide +kernel)
theorem d_Na_divideSmall_33 : decode y_Na_divideSmall.2.1 33 = .ok (.aload_n 0, 1) := dc9_42 (by decide +kernel)
theorem d_Na_divideSmall_34 : decode y_Na_divideSmall.2.1 34 = .ok (.getfield 9, 3) := dc9_180 (by decide +kernel)
theorem d_Na_divideSmall_37 : decode y_Na_divideSmall.2.1 37 = .ok (.iload 4, 2) := dc9_21 (by decide +kernel)
theorem d_Na_divideSmall_39 : decode y_Na_divideSmall.2.1 39 = .ok (.lload_n 2, 1) := dc9_32 (by decide +kernel)
theorem d_Na_divideSmall_40 : decode y_Na_divideSmall.2.1 40 = .ok (.iload_n 1, 1) := dc9_27 (by decide +kernel)
theorem d_Na_divideSmall_41 : decode y_Na_divideSmall.2.1 41 = .ok (.i2l, 1) := dc9_133 (by decide +kernel)
theorem d_Na_divideSmall_42 : decode y_Na_divideSmall.2.1 42 = .ok (.ldiv, 1) := dc9_109 (by decide +kernel)
theorem d_Na_divideSmall_43 : decode y_Na_divideSmall.2.1 43 = .ok (.l2i, 1) := dc9_136 (by decide +kernel)
theorem d_Na_divideSmall_44 : decode y_Na_divideSmall.2.1 44 = .ok (.iastore, 1) := dc9_79 (by decide +kernel)
theorem d_Na_divideSmall_45 : decode y_Na_divideSmall.2.1 45 = .ok (.lload_n 2, 1) := dc9_32 (by decide +kernel)
theorem d_Na_divideSmall_46 : decode y_Na_divideSmall.2.1 46 = .ok (.iload_n 1, 1) := dc9_27 (by decide +kernel)
theorem d_Na_divideSmall_47 : decode y_Na_divideSmall.2.1 47 = .ok (.i2l, 1) := dc9_133 (by decide +kernel)
theorem d_Na_divideSmall_48 : decode y_Na_divideSmall.2.1 48 = .ok (.lrem, 1) := dc9_113 (by decide +kernel)
theorem d_Na_divideSmall_49 : decode y_Na_divideSmall.2.1 49 = .ok (.lstore_n 2, 1) := dc9_65 (by decide +kernel)
theorem d_Na_divideSmall_50 : decode y_Na_divideSmall.2.1 50 = .ok (.iinc 4 (-1), 3) := by decide +kernel
theorem d_Na_divideSmall_53 : decode y_Na_divideSmall.2.1 53 = .ok (.goto (-43), 3) := dc9_167 (by decide +kernel)
theorem d_Na_divideSmall_56 : decode y_Na_divideSmall.2.1 56 = .ok (.aload_n 0, 1) := dc9_42 (by decide +kernel)
theorem d_Na_divideSmall_57 : decode y_Na_divideSmall.2.1 57 = .ok (.getfield 13, 3) := dc9_180 (by decide +kernel)
theorem d_Na_divideSmall_60 : decode y_Na_divideSmall.2.1 60 = .ok (.ifCond .le 30, 3) := dc9_158 (by decide +kernel)
theorem d_Na_divideSmall_63 : decode y_Na_divideSmall.2.1 63 = .ok (.aload_n 0, 1) := dc9_42 (by decide +kernel)
theorem d_Na_divideSmall_64 : decode y_Na_divideSmall.2.1 64 = .ok (.getfield 9, 3) := dc9_180 (by decide +kernel)
theorem d_Na_divideSmall_67 : decode y_Na_divideSmall.2.1 67 = .ok (.aload_n 0, 1) := dc9_42 (by decide +kernel)
theorem d_Na_divideSmall_68 : decode y_Na_divideSmall.2.1 68 = .ok (.getfield 13, 3) := dc9_180 (by decide +kernel)
theorem d_Na_divideSmall_71 : decode y_Na_divideSmall.2.1 71 = .ok (.iconst 1, 1) := dc9_4 (by decide +kernel)
theorem d_Na_divideSmall_72 : decode y_Na_divideSmall.2.1 72 = .ok (.isub, 1) := dc9_100 (by decide +kernel)
theorem d_Na_divideSmall_73 : decode y_Na_divideSmall.2.1 73 = .ok (.iaload, 1) := dc9_46 (by decide +kernel)
theorem d_Na_divideSmall_74 : decode y_Na_divideSmall.2.1 74 = .ok (.ifCond .ne 16, 3) := dc9_154 (by decide +kernel)
theorem d_Na_divideSmall_77 : decode y_Na_divideSmall.2.1 77 = .ok (.aload_n 0, 1) := dc9_42 (by decide +kernel)
theorem d_Na_divideSmall_78 : decode y_Na_divideSmall.2.1 78 = .ok (.dup, 1) := dc9_89 (by decide +kernel)
theorem d_Na_divideSmall_79 : decode y_Na_divideSmall.2.1 79 = .ok (.getfield 13, 3) := dc9_180 (by decide +kernel)
theorem d_Na_divideSmall_82 : decode y_Na_divideSmall.2.1 82 = .ok (.iconst 1, 1) := dc9_4 (by decide +kernel)
theorem d_Na_divideSmall_83 : decode y_Na_divideSmall.2.1 83 = .ok (.isub, 1) := dc9_100 (by decide +kernel)
theorem d_Na_divideSmall_84 : decode y_Na_divideSmall.2.1 84 = .ok (.putfield 13, 3) := dc9_181 (by decide +kernel)
theorem d_Na_divideSmall_87 : decode y_Na_divideSmall.2.1 87 = .ok (.goto (-31), 3) := dc9_167 (by decide +kernel)
theorem d_Na_divideSmall_90 : decode y_Na_divideSmall.2.1 90 = .ok (.lload_n 2, 1) := dc9_32 (by decide +kernel)
theorem d_Na_divideSmall_91 : decode y_Na_divideSmall.2.1 91 = .ok (.l2i, 1) := dc9_136 (by decide +kernel)
theorem d_Na_divideSmall_92 : decode y_Na_divideSmall.2.1 92 = .ok (.ireturn, 1) := dc9_172 (by decide +kernel)
def h_Na_divideSmall_10 (G : mG) (d : Nat) (a0 : Nat) (l1 : Int) (j2 : Int) (l4 : Int) (M : mM) (Q : Int → mM → Prop) : Prop := mWm G y_Na_divideSmall d 10 [vr a0, vi l1, vl j2, vd, vi l4] [] M (fun r9 M9 => ∃ x9, r9 = some (vi x9) ∧ Q x9 M9)
def h_Na_divideSmall_56 (G : mG) (d : Nat) (a0 : Nat) (j2 : Int) (M : mM) (Q : Int → mM → Prop) : Prop := mWm G y_Na_divideSmall d 56 [vr a0, vd, vl j2, vd, vd] [] M (fun r9 M9 => ∃ x9, r9 = some (vi x9) ∧ Q x9 M9)
theorem k_Na_divideSmall {G : mG} {d : Nat} {a0 : Nat} {l1 : Int} {M : mM} {Q : Int → mM → Prop} (hO : mOk M) (hi_l1 : i32 l1)
    (h : mK M a0 = 10 ∧ h_Na_divideSmall_10 G d a0 l1 0 ((mI M a0 1) - 1) M Q) :
    Ci G y_Na_divideSmall d [vr a0, vi l1] M Q := by
  refine wm_open (y := y_Na_divideSmall) rfl (Nat.le_of_ble_eq_true rfl) (L := [vr a0, vi l1, vd, vd, vd]) rfl ?_
  obtain ⟨h1, h⟩ := h
  refine wm_lconst (x := 0) d_Na_divideSmall_0 rfl ?_
  refine wm_lstore_n d_Na_divideSmall_1 rfl (by decide) (L' := [vr a0, vi l1, vl 0, vd, vd]) rfl ?_
  refine wm_aload_n d_Na_divideSmall_2 rfl rfl ?_
  refine gf_Na_13 rfl d_Na_divideSmall_3 h1 ?_
  refine wm_iconst d_Na_divideSmall_6 ?_
  refine wm_isub d_Na_divideSmall_7 ?_
  refine wm_istore d_Na_divideSmall_8 (by decide) (L' := [vr a0, vi l1, vl 0, vd, vi ((mI M a0 1) - 1)]) rfl ?_
  exact h
theorem k_Na_divideSmall_10 {G : mG} {d : Nat} {a0 : Nat} {l1 : Int} {j2 : Int} {l4 : Int} {M : mM} {Q : Int → mM → Prop} (hO : mOk M) (hi_l1 : i32 l1) (hi_j2 : i64 j2) (hi_l4 : i32 l4)
    (h : (((l4 < 0) ∨ (l1 ≤ 0)) → (h_Na_divideSmall_56 G d a0 j2 M Q)) ∧ (¬ ((l4 < 0) ∨ (l1 ≤ 0)) → (mK M a0 = 10 ∧ mK M (mR M a0 0) = 30 ∧ ((0 : Int) ≤ l4 ∧ l4 < (mN M (mR M a0 0) : Int)) ∧ i64 ((shlL j2 30) + (mI M (mR M a0 0) (Int.toNat l4))) ∧ l1 ≠ 0 ∧ ((0 : Int) ≤ l4 ∧ l4 < (mN M (mR M a0 0) : Int)) ∧ i32 (Int.tdiv ((shlL j2 30) + (mI M (mR M a0 0) (Int.toNat l4))) l1) ∧ ∀ M22, M22 = mUI M (mR M a0 0) (Int.toNat l4) (Int.tdiv ((shlL j2 30) + (mI M (mR M a0 0) (Int.toNat l4))) l1) → l1 ≠ 0 ∧ h_Na_divideSmall_10 G d a0 l1 (Int.tmod ((shlL j2 30) + (mI M (mR M a0 0) (Int.toNat l4))) l1) (l4 + (-1)) M22 Q))) :
    h_Na_divideSmall_10 G d a0 l1 j2 l4 M Q := by
  unfold h_Na_divideSmall_10
  refine wm_iload d_Na_divideSmall_10 rfl ?_
  have hE0 : ((l4 < 0) ∨ (l1 ≤ 0)) → mWm G y_Na_divideSmall d 56 [vr a0, vi l1, vl j2, vd, vi l4] [] M (fun r9 M9 => ∃ x9, r9 = some (vi x9) ∧ Q x9 M9) := by
    intro q13
    have h := h.1 q13
    refine wm_less (L' := [vr a0, vd, vl j2, vd, vd]) ⟨Or.inr rfl, Or.inl rfl, Or.inr rfl, Or.inl rfl, Or.inl rfl, trivial⟩ ?_
    exact h
  have hE1 : ¬ ((l4 < 0) ∨ (l1 ≤ 0)) → mWm G y_Na_divideSmall d 19 [vr a0, vi l1, vl j2, vd, vi l4] [] M (fun r9 M9 => ∃ x9, r9 = some (vi x9) ∧ Q x9 M9) := by
    intro q14
    have h := h.2 q14
    obtain ⟨h15, h⟩ := h
    obtain ⟨h16, h⟩ := h
    obtain ⟨h17, h⟩ := h
    obtain ⟨h18, h⟩ := h
    obtain ⟨h19, h⟩ := h
    obtain ⟨h20, h⟩ := h
    obtain ⟨h21, h⟩ := h
    obtain ⟨M22, e23⟩ : ∃ M22, M22 = mUI M (mR M a0 0) (Int.toNat l4) (Int.tdiv ((shlL j2 30) + (mI M (mR M a0 0) (Int.toNat l4))) l1) := ⟨_, rfl⟩
    replace h := h M22 e23
    obtain ⟨h24, h⟩ := h
    refine wm_lload_n d_Na_divideSmall_19 rfl rfl ?_
    refine wm_bipush d_Na_divideSmall_20 (by decide) ?_
    refine wm_lshl d_Na_divideSmall_22 ?_
    refine wm_aload_n d_Na_divideSmall_23 rfl rfl ?_
    refine gf_Na_9 rfl d_Na_divideSmall_24 h15 ?_
    refine wm_iload d_Na_divideSmall_27 rfl ?_
    refine wm_iald d_Na_divideSmall_29 h16 h17 ?_
    refine wm_i2l d_Na_divideSmall_30 (hO _ _).1 ?_
    refine wm_ladd d_Na_divideSmall_31 ?_
    refine wm_lstore_n d_Na_divideSmall_32 rfl (by decide) (L' := [vr a0, vi l1, vl ((shlL j2 30) + (mI M (mR M a0 0) (Int.toNat l4))), vd, vi l4]) rfl ?_
    refine wm_aload_n d_Na_divideSmall_33 rfl rfl ?_
    refine gf_Na_9 rfl d_Na_divideSmall_34 h15 ?_
    refine wm_iload d_Na_divideSmall_37 rfl ?_
    refine wm_lload_n d_Na_divideSmall_39 rfl rfl ?_
    refine wm_iload_n d_Na_divideSmall_40 rfl rfl ?_
    refine wm_i2l d_Na_divideSmall_41 hi_l1 ?_
    refine wm_ldiv d_Na_divideSmall_42 h18 (i64_of32 hi_l1) h19 ?_
    refine wm_l2i d_Na_divideSmall_43 ?_
    have hOM22 : mOk M22 := by rw [e23]; exact mOk_UI hO h21
    refine wm_iastE d_Na_divideSmall_44 h16 h20 h21 e23 ?_
    refine wm_lload_n d_Na_divideSmall_45 rfl rfl ?_
    refine wm_iload_n d_Na_divideSmall_46 rfl rfl ?_
    refine wm_i2l d_Na_divideSmall_47 hi_l1 ?_
    refine wm_lrem d_Na_divideSmall_48 h18 (i64_of32 hi_l1) h24 ?_
    refine wm_lstore_n d_Na_divideSmall_49 rfl (by decide) (L' := [vr a0, vi l1, vl (Int.tmod ((shlL j2 30) + (mI M (mR M a0 0) (Int.toNat l4))) l1), vd, vi l4]) rfl ?_
    refine wm_iinc d_Na_divideSmall_50 (by decide) rfl (L' := [vr a0, vi l1, vl (Int.tmod ((shlL j2 30) + (mI M (mR M a0 0) (Int.toNat l4))) l1), vd, vi (l4 + (-1))]) rfl ?_
    refine wm_goto (tgt := 10) d_Na_divideSmall_53 rfl ?_
    exact h
  clear h
  refine wm_if_lt (tgt := 56) d_Na_divideSmall_12 rfl hi_l4 (fun c11 => ?_) (fun c11 => ?_)
  · exact hE0 (Or.inl c11)
  · refine wm_iload_n d_Na_divideSmall_15 rfl rfl ?_
    refine wm_if_le (tgt := 56) d_Na_divideSmall_16 rfl hi_l1 (fun c10 => ?_) (fun c10 => ?_)
    · exact hE0 (Or.inr c10)
    · exact hE1 (fun z25 => Or.elim z25 c11 c10)
theorem k_Na_divideSmall_56 {G : mG} {d : Nat} {a0 : Nat} {j2 : Int} {M : mM} {Q : Int → mM → Prop} (hO : mOk M) (hi_j2 : i64 j2)
    (h : mK M a0 = 10 ∧ (¬ (mI M a0 1 ≤ 0) → (mK M (mR M a0 0) = 30 ∧ ((0 : Int) ≤ (mI M a0 1) - 1 ∧ (mI M a0 1) - 1 < (mN M (mR M a0 0) : Int)))) ∧ (((mI M a0 1 ≤ 0) ∨ (¬ (mI M (mR M a0 0) (Int.toNat ((mI M a0 1) - 1)) = 0))) → (Q j2 M)) ∧ (¬ ((mI M a0 1 ≤ 0) ∨ (¬ (mI M (mR M a0 0) (Int.toNat ((mI M a0 1) - 1)) = 0))) → (i32 ((mI M a0 1) - 1) ∧ ∀ M37, M37 = mUI M a0 1 ((mI M a0 1) - 1) → h_Na_divideSmall_56 G d a0 j2 M37 Q))) :
    h_Na_divideSmall_56 G d a0 j2 M Q := by
  unfold h_Na_divideSmall_56
  obtain ⟨h27, h⟩ := h
  refine wm_aload_n d_Na_divideSmall_56 rfl rfl ?_
  refine gf_Na_13 rfl d_Na_divideSmall_57 h27 ?_
  obtain ⟨s33, h⟩ := h
  have hE0 : ((mI M a0 1 ≤ 0) ∨ (¬ (mI M (mR M a0 0) (Int.toNat ((mI M a0 1) - 1)) = 0))) → mWm G y_Na_divideSmall d 90 [vr a0, vd, vl j2, vd, vd] [] M (fun r9 M9 => ∃ x9, r9 = some (vi x9) ∧ Q x9 M9) := by
    intro q34
    have h := h.1 q34
    refine wm_lload_n d_Na_divideSmall_90 rfl rfl ?_
    refine wm_l2i d_Na_divideSmall_91 ?_
    refine wm_ireturn d_Na_divideSmall_92 rfl rfl ?_
    exact ⟨_, rfl, h⟩
  have hE1 : ¬ ((mI M a0 1 ≤ 0) ∨ (¬ (mI M (mR M a0 0) (Int.toNat ((mI M a0 1) - 1)) = 0))) → mWm G y_Na_divideSmall d 77 [vr a0, vd, vl j2, vd, vd] [] M (fun r9 M9 => ∃ x9, r9 = some (vi x9) ∧ Q x9 M9) := by
    intro q35
    have h := h.2 q35
    obtain ⟨h36, h⟩ := h
    obtain ⟨M37, e38⟩ : ∃ M37, M37 = mUI M a0 1 ((mI M a0 1) - 1) := ⟨_, rfl⟩
    replace h := h M37 e38
    refine wm_aload_n d_Na_divideSmall_77 rfl rfl ?_
    refine wm_dup d_Na_divideSmall_78 rfl ?_
    refine gf_Na_13 rfl d_Na_divideSmall_79 h27 ?_
    refine wm_iconst d_Na_divideSmall_82 ?_
    refine wm_isub d_Na_divideSmall_83 ?_
    have hOM37 : mOk M37 := by rw [e38]; exact mOk_UI hO h36
    refine pf_Na_13 rfl d_Na_divideSmall_84 h27 h36 e38 ?_
    refine wm_goto (tgt := 56) d_Na_divideSmall_87 rfl ?_
    exact h
  clear h
  have s39 := s33
  refine wm_if_le (tgt := 90) d_Na_divideSmall_60 rfl (hO _ _).1 (fun c32 => ?_) (fun c32 => ?_)
  · exact hE0 (Or.inl c32)
  · have s39 := s39 c32
    obtain ⟨h28, h29⟩ := s39
    refine wm_aload_n d_Na_divideSmall_63 rfl rfl ?_
    refine gf_Na_9 rfl d_Na_divideSmall_64 h27 ?_
    refine wm_aload_n d_Na_divideSmall_67 rfl rfl ?_
    refine gf_Na_13 rfl d_Na_divideSmall_68 h27 ?_
    refine wm_iconst d_Na_divideSmall_71 ?_
    refine wm_isub d_Na_divideSmall_72 ?_
    refine wm_iald d_Na_divideSmall_73 h28 h29 ?_
    refine wm_if_ne (tgt := 90) d_Na_divideSmall_74 rfl (hO _ _).1 (fun c31 => ?_) (fun c31 => ?_)
    · exact hE0 (Or.inr c31)
    · replace c31 := Classical.not_not.mp c31
      exact hE1 (fun z40 => Or.elim z40 c32 (fun z41 => z41 c31))
theorem d_Na_modulo_0 : decode y_Na_modulo.2.1 0 = .ok (.lconst 0, 1) := dc9_9 (by decide +kernel)
theorem d_Na_modulo_1 : decode y_Na_modulo.2.1 1 = .ok (.lstore_n 2, 1) := dc9_65 (by decide +kernel)
theorem d_Na_modulo_2 : decode y_Na_modulo.2.1 2 = .ok (.aload_n 0, 1) := dc9_42 (by decide +kernel)
theorem d_Na_modulo_3 : decode y_Na_modulo.2.1 3 = .ok (.getfield 13, 3) := dc9_180 (by decide +kernel)
theorem d_Na_modulo_6 : decode y_Na_modulo.2.1 6 = .ok (.iconst 1, 1) := dc9_4 (by decide +kernel)
theorem d_Na_modulo_7 : decode y_Na_modulo.2.1 7 = .ok (.isub, 1) := dc9_100 (by decide +kernel)
theorem d_Na_modulo_8 : decode y_Na_modulo.2.1 8 = .ok (.istore 4, 2) := dc9_54 (by decide +kernel)
theorem d_Na_modulo_10 : decode y_Na_modulo.2.1 10 = .ok (.iload 4, 2) := dc9_21 (by decide +kernel)
theorem d_Na_modulo_12 : decode y_Na_modulo.2.1 12 = .ok (.ifCond .lt 30, 3) := dc9_155 (by decide +kernel)
theorem d_Na_modulo_15 : decode y_Na_modulo.2.1 15 = .ok (.iload_n 1, 1) := dc9_27 (by decide +kernel)
theorem d_Na_modulo_16 : decode y_Na_modulo.2.1 16 = .ok (.ifCond .le 26, 3) := dc9_158 (by decide +kernel)
theorem d_Na_modulo_19 : decode y_Na_modulo.2.1 19 = .ok (.lload_n 2, 1) := dc9_32 (by decide +kernel)
theorem d_Na_modulo_20 : decode y_Na_modulo.2.1 20 = .ok (.bipush 30, 2) := dc9_16 (by decide +kernel)
theorem d_Na_modulo_22 : decode y_Na_modulo.2.1 22 = .ok (.lshl, 1) := dc9_121 (by decide +kernel)
theorem d_Na_modulo_23 : decode y_Na_modulo.2.1 23 = .ok (.aload_n 0, 1) := dc9_42 (by decide +kernel)
theorem d_Na_modulo_24 : decode y_Na_modulo.2.1 24 = .ok (.getfield 9, 3) := dc9_180 (by decide +kernel)
theorem d_Na_modulo_27 : decode y_Na_modulo.2.1 27 = .ok (.iload 4, 2) := dc9_21 (by decide +kernel)
theorem d_Na_modulo_29 : decode y_Na_modulo.2.1 29 = .ok (.iaload, 1) := dc9_46 (by decide +kernel)
theorem d_Na_modulo_30 : decode y_Na_modulo.2.1 30 = .ok (.i2l, 1) := dc9_133 (by decide +kernel)
theorem d_Na_modulo_31 : decode y_Na_modulo.2.1 31 = .ok (.ladd, 1) := dc9_97 (by decide +kernel)
theorem d_Na_modulo_32 : decode y_Na_modulo.2.1 32 = .ok (.iload_n 1, 1) := dc9_27 (by decide +kernel)
theorem d_Na_modulo_33 : decode y_Na_modulo.2.1 33 = .ok (.i2l, 1) := dc9_133 (by decide +kernel)
theorem d_Na_modulo_34 : decode y_Na_modulo.2.1 34 = .ok (.lrem, 1) := dc9_113 (by decide +kernel)
theorem d_Na_modulo_35 : decode y_Na_modulo.2.1 35 = .ok (.lstore_n 2, 1) := dc9_65 (by decide +kernel)
theorem d_Na_modulo_36 : decode y_Na_modulo.2.1 36 = .ok (.iinc 4 (-1), 3) := by decide +kernel
theorem d_Na_modulo_39 : decode y_Na_modulo.2.1 39 = .ok (.goto (-29), 3) := dc9_167 (by decide +kernel)
theorem d_Na_modulo_42 : decode y_Na_modulo.2.1 42 = .ok (.lload_n 2, 1) := dc9_32 (by decide +kernel)
theorem d_Na_modulo_43 : decode y_Na_modulo.2.1 43 = .ok (.l2i, 1) := dc9_136 (by decide +kernel)
theorem d_Na_modulo_44 : decode y_Na_modulo.2.1 44 = .ok (.ireturn, 1) := dc9_172 (by decide +kernel)
def h_Na_modulo_10 (G : mG) (d : Nat) (a0 : Nat) (l1 : Int) (j2 : Int) (l4 : Int) (M : mM) (Q : Int → mM → Prop) : Prop := mWm G y_Na_modulo d 10 [vr a0, vi l1, vl j2, vd, vi l4] [] M (fun r9 M9 => ∃ x9, r9 = some (vi x9) ∧ Q x9 M9)
theorem k_Na_modulo {G : mG} {d : Nat} {a0 : Nat} {l1 : Int} {M : mM} {Q : Int → mM → Prop} (hO : mOk M) (hi_l1 : i32 l1)
    (h : mK M a0 = 10 ∧ h_Na_modulo_10 G d a0 l1 0 ((mI M a0 1) - 1) M Q) :
    Ci G y_Na_modulo d [vr a0, vi l1] M Q := by
  refine wm_open (y := y_Na_modulo) rfl (Nat.le_of_ble_eq_true rfl) (L := [vr a0, vi l1, vd, vd, vd]) rfl ?_
  obtain ⟨h1, h⟩ := h
  refine wm_lconst (x := 0) d_Na_modulo_0 rfl ?_
  refine wm_lstore_n d_Na_modulo_1 rfl (by decide) (L' := [vr a0, vi l1, vl 0, vd, vd]) rfl ?_
  refine wm_aload_n d_Na_modulo_2 rfl rfl ?_
  refine gf_Na_13 rfl d_Na_modulo_3 h1 ?_
  refine wm_iconst d_Na_modulo_6 ?_
  refine wm_isub d_Na_modulo_7 ?_
  refine wm_istore d_Na_modulo_8 (by decide) (L' := [vr a0, vi l1, vl 0, vd, vi ((mI M a0 1) - 1)]) rfl ?_
  exact h
theorem k_Na_modulo_10 {G : mG} {d : Nat} {a0 : Nat} {l1 : Int} {j2 : Int} {l4 : Int} {M : mM} {Q : Int → mM → Prop} (hO : mOk M) (hi_l1 : i32 l1) (hi_j2 : i64 j2) (hi_l4 : i32 l4)
    (h : (((l4 < 0) ∨ (l1 ≤ 0)) → (Q j2 M)) ∧ (¬ ((l4 < 0) ∨ (l1 ≤ 0)) → (mK M a0 = 10 ∧ mK M (mR M a0 0) = 30 ∧ ((0 : Int) ≤ l4 ∧ l4 < (mN M (mR M a0 0) : Int)) ∧ i64 ((shlL j2 30) + (mI M (mR M a0 0) (Int.toNat l4))) ∧ l1 ≠ 0 ∧ h_Na_modulo_10 G d a0 l1 (Int.tmod ((shlL j2 30) + (mI M (mR M a0 0) (Int.toNat l4))) l1) (l4 + (-1)) M Q))) :
    h_Na_modulo_10 G d a0 l1 j2 l4 M Q := by
  unfold h_Na_modulo_10
  refine wm_iload d_Na_modulo_10 rfl ?_
  have hE0 : ((l4 < 0) ∨ (l1 ≤ 0)) → mWm G y_Na_modulo d 42 [vr a0, vi l1, vl j2, vd, vi l4] [] M (fun r9 M9 => ∃ x9, r9 = some (vi x9) ∧ Q x9 M9) := by
    intro q10
    have h := h.1 q10
    refine wm_lload_n d_Na_modulo_42 rfl rfl ?_
    refine wm_l2i d_Na_modulo_43 ?_
    refine wm_ireturn d_Na_modulo_44 rfl rfl ?_
    exact ⟨_, rfl, h⟩
  have hE1 : ¬ ((l4 < 0) ∨ (l1 ≤ 0)) → mWm G y_Na_modulo d 19 [vr a0, vi l1, vl j2, vd, vi l4] [] M (fun r9 M9 => ∃ x9, r9 = some (vi x9) ∧ Q x9 M9) := by
    intro q11
    have h := h.2 q11
    obtain ⟨h12, h⟩ := h
    obtain ⟨h13, h⟩ := h
    obtain ⟨h14, h⟩ := h
    obtain ⟨h15, h⟩ := h
    obtain ⟨h16, h⟩ := h
    refine wm_lload_n d_Na_modulo_19 rfl rfl ?_
    refine wm_bipush d_Na_modulo_20 (by decide) ?_
    refine wm_lshl d_Na_modulo_22 ?_
    refine wm_aload_n d_Na_modulo_23 rfl rfl ?_
    refine gf_Na_9 rfl d_Na_modulo_24 h12 ?_
    refine wm_iload d_Na_modulo_27 rfl ?_
    refine wm_iald d_Na_modulo_29 h13 h14 ?_
    refine wm_i2l d_Na_modulo_30 (hO _ _).1 ?_
    refine wm_ladd d_Na_modulo_31 ?_
    refine wm_iload_n d_Na_modulo_32 rfl rfl ?_
    refine wm_i2l d_Na_modulo_33 hi_l1 ?_
    refine wm_lrem d_Na_modulo_34 h15 (i64_of32 hi_l1) h16 ?_
    refine wm_lstore_n d_Na_modulo_35 rfl (by decide) (L' := [vr a0, vi l1, vl (Int.tmod ((shlL j2 30) + (mI M (mR M a0 0) (Int.toNat l4))) l1), vd, vi l4]) rfl ?_
    refine wm_iinc d_Na_modulo_36 (by decide) rfl (L' := [vr a0, vi l1, vl (Int.tmod ((shlL j2 30) + (mI M (mR M a0 0) (Int.toNat l4))) l1), vd, vi (l4 + (-1))]) rfl ?_
    refine wm_goto (tgt := 10) d_Na_modulo_39 rfl ?_
    exact h
  clear h
  refine wm_if_lt (tgt := 42) d_Na_modulo_12 rfl hi_l4 (fun c8 => ?_) (fun c8 => ?_)
  · exact hE0 (Or.inl c8)
  · refine wm_iload_n d_Na_modulo_15 rfl rfl ?_
    refine wm_if_le (tgt := 42) d_Na_modulo_16 rfl hi_l1 (fun c7 => ?_) (fun c7 => ?_)
    · exact hE0 (Or.inr c7)
    · exact hE1 (fun z17 => Or.elim z17 c8 c7)
end
