theorem d_TR_readSets_0 : decode y_TR_readSets.2.1 0 = .ok (.aload_n 0, 1) := dc9_42 (by decide +kernel)
theorem d_TR_readSets_1 : decode y_TR_readSets.2.1 1 = .ok (.getfield 12, 3) := dc9_180 (by decide +kernel)
theorem d_TR_readSets_4 : decode y_TR_readSets.2.1 4 = .ok (.bipush 11, 2) := dc9_16 (by decide +kernel)
theorem d_TR_readSets_6 : decode y_TR_readSets.2.1 6 = .ok (.invokevirtual 102, 3) := dc9_182 (by decide +kernel)
theorem d_TR_readSets_9 : decode y_TR_readSets.2.1 9 = .ok (.ifCond .ne 7, 3) := dc9_154 (by decide +kernel)
theorem d_TR_readSets_12 : decode y_TR_readSets.2.1 12 = .ok (.iconst 1, 1) := dc9_4 (by decide +kernel)
theorem d_TR_readSets_13 : decode y_TR_readSets.2.1 13 = .ok (.goto 4, 3) := dc9_167 (by decide +kernel)
theorem d_TR_readSets_16 : decode y_TR_readSets.2.1 16 = .ok (.iconst 0, 1) := dc9_3 (by decide +kernel)
theorem d_TR_readSets_17 : decode y_TR_readSets.2.1 17 = .ok (.istore_n 1, 1) := dc9_60 (by decide +kernel)
theorem d_TR_readSets_18 : decode y_TR_readSets.2.1 18 = .ok (.iconst 0, 1) := dc9_3 (by decide +kernel)
theorem d_TR_readSets_19 : decode y_TR_readSets.2.1 19 = .ok (.istore_n 2, 1) := dc9_61 (by decide +kernel)
theorem d_TR_readSets_20 : decode y_TR_readSets.2.1 20 = .ok (.iconst 0, 1) := dc9_3 (by decide +kernel)
theorem d_TR_readSets_21 : decode y_TR_readSets.2.1 21 = .ok (.istore_n 3, 1) := dc9_62 (by decide +kernel)
theorem d_TR_readSets_22 : decode y_TR_readSets.2.1 22 = .ok (.iload_n 3, 1) := dc9_29 (by decide +kernel)
theorem d_TR_readSets_23 : decode y_TR_readSets.2.1 23 = .ok (.aload_n 0, 1) := dc9_42 (by decide +kernel)
theorem d_TR_readSets_24 : decode y_TR_readSets.2.1 24 = .ok (.getfield 12, 3) := dc9_180 (by decide +kernel)
theorem d_TR_readSets_27 : decode y_TR_readSets.2.1 27 = .ok (.getfield 109, 3) := dc9_180 (by decide +kernel)
theorem d_TR_readSets_30 : decode y_TR_readSets.2.1 30 = .ok (.getfield 40, 3) := dc9_180 (by decide +kernel)
theorem d_TR_readSets_33 : decode y_TR_readSets.2.1 33 = .ok (.if_icmp .ge 274, 3) := dc9_162 (by decide +kernel)
theorem d_TR_readSets_36 : decode y_TR_readSets.2.1 36 = .ok (.iload_n 1, 1) := dc9_27 (by decide +kernel)
theorem d_TR_readSets_37 : decode y_TR_readSets.2.1 37 = .ok (.ifCond .eq 270, 3) := dc9_153 (by decide +kernel)
theorem d_TR_readSets_40 : decode y_TR_readSets.2.1 40 = .ok (.aload_n 0, 1) := dc9_42 (by decide +kernel)
theorem d_TR_readSets_41 : decode y_TR_readSets.2.1 41 = .ok (.getfield 12, 3) := dc9_180 (by decide +kernel)
theorem d_TR_readSets_307 : decode y_TR_readSets.2.1 307 = .ok (.aload_n 0, 1) := dc9_42 (by decide +kernel)
theorem d_TR_readSets_308 : decode y_TR_readSets.2.1 308 = .ok (.getfield 36, 3) := dc9_180 (by decide +kernel)
theorem d_TR_readSets_311 : decode y_TR_readSets.2.1 311 = .ok (.iconst 0, 1) := dc9_3 (by decide +kernel)
theorem d_TR_readSets_312 : decode y_TR_readSets.2.1 312 = .ok (.iconst 0, 1) := dc9_3 (by decide +kernel)
theorem d_TR_readSets_313 : decode y_TR_readSets.2.1 313 = .ok (.invokevirtual 121, 3) := dc9_182 (by decide +kernel)
theorem d_TR_readSets_316 : decode y_TR_readSets.2.1 316 = .ok (.pop, 1) := dc9_87 (by decide +kernel)
theorem d_TR_readSets_317 : decode y_TR_readSets.2.1 317 = .ok (.iconst 1, 1) := dc9_4 (by decide +kernel)
theorem d_TR_readSets_318 : decode y_TR_readSets.2.1 318 = .ok (.ireturn, 1) := dc9_172 (by decide +kernel)
theorem d_TR_readSets_44 : decode y_TR_readSets.2.1 44 = .ok (.invokevirtual 79, 3) := dc9_182 (by decide +kernel)
theorem d_TR_readSets_47 : decode y_TR_readSets.2.1 47 = .ok (.istore 4, 2) := dc9_54 (by decide +kernel)
theorem d_TR_readSets_49 : decode y_TR_readSets.2.1 49 = .ok (.aload_n 0, 1) := dc9_42 (by decide +kernel)
theorem d_TR_readSets_50 : decode y_TR_readSets.2.1 50 = .ok (.getfield 12, 3) := dc9_180 (by decide +kernel)
theorem d_TR_readSets_53 : decode y_TR_readSets.2.1 53 = .ok (.getfield 222, 3) := dc9_180 (by decide +kernel)
theorem d_TR_readSets_56 : decode y_TR_readSets.2.1 56 = .ok (.bipush 40, 2) := dc9_16 (by decide +kernel)
theorem d_TR_readSets_58 : decode y_TR_readSets.2.1 58 = .ok (.if_icmp .ge 15, 3) := dc9_162 (by decide +kernel)
theorem d_TR_readSets_61 : decode y_TR_readSets.2.1 61 = .ok (.aload_n 0, 1) := dc9_42 (by decide +kernel)
theorem d_TR_readSets_62 : decode y_TR_readSets.2.1 62 = .ok (.getfield 12, 3) := dc9_180 (by decide +kernel)
theorem d_TR_readSets_65 : decode y_TR_readSets.2.1 65 = .ok (.bipush 37, 2) := dc9_16 (by decide +kernel)
theorem d_TR_readSets_73 : decode y_TR_readSets.2.1 73 = .ok (.iconst 0, 1) := dc9_3 (by decide +kernel)
theorem d_TR_readSets_74 : decode y_TR_readSets.2.1 74 = .ok (.ireturn, 1) := dc9_172 (by decide +kernel)
theorem d_TR_readSets_67 : decode y_TR_readSets.2.1 67 = .ok (.invokevirtual 102, 3) := dc9_182 (by decide +kernel)
theorem d_TR_readSets_70 : decode y_TR_readSets.2.1 70 = .ok (.ifCond .ne 5, 3) := dc9_154 (by decide +kernel)
theorem d_TR_readSets_75 : decode y_TR_readSets.2.1 75 = .ok (.aload_n 0, 1) := dc9_42 (by decide +kernel)
theorem d_TR_readSets_76 : decode y_TR_readSets.2.1 76 = .ok (.getfield 12, 3) := dc9_180 (by decide +kernel)
theorem d_TR_readSets_79 : decode y_TR_readSets.2.1 79 = .ok (.getfield 59, 3) := dc9_180 (by decide +kernel)
theorem d_TR_readSets_82 : decode y_TR_readSets.2.1 82 = .ok (.istore 5, 2) := dc9_54 (by decide +kernel)
theorem d_TR_readSets_84 : decode y_TR_readSets.2.1 84 = .ok (.aload_n 0, 1) := dc9_42 (by decide +kernel)
theorem d_TR_readSets_85 : decode y_TR_readSets.2.1 85 = .ok (.getfield 12, 3) := dc9_180 (by decide +kernel)
theorem d_TR_readSets_88 : decode y_TR_readSets.2.1 88 = .ok (.iconst 2, 1) := dc9_5 (by decide +kernel)
theorem d_TR_readSets_89 : decode y_TR_readSets.2.1 89 = .ok (.invokevirtual 102, 3) := dc9_182 (by decide +kernel)
theorem d_TR_readSets_92 : decode y_TR_readSets.2.1 92 = .ok (.ifCond .ne 5, 3) := dc9_154 (by decide +kernel)
theorem d_TR_readSets_95 : decode y_TR_readSets.2.1 95 = .ok (.iconst 0, 1) := dc9_3 (by decide +kernel)
theorem d_TR_readSets_96 : decode y_TR_readSets.2.1 96 = .ok (.ireturn, 1) := dc9_172 (by decide +kernel)
theorem d_TR_readSets_97 : decode y_TR_readSets.2.1 97 = .ok (.aload_n 0, 1) := dc9_42 (by decide +kernel)
theorem d_TR_readSets_98 : decode y_TR_readSets.2.1 98 = .ok (.getfield 12, 3) := dc9_180 (by decide +kernel)
theorem d_TR_readSets_101 : decode y_TR_readSets.2.1 101 = .ok (.iload 5, 2) := dc9_21 (by decide +kernel)
theorem d_TR_readSets_103 : decode y_TR_readSets.2.1 103 = .ok (.invokevirtual 225, 3) := dc9_182 (by decide +kernel)
theorem d_TR_readSets_106 : decode y_TR_readSets.2.1 106 = .ok (.istore 6, 2) := dc9_54 (by decide +kernel)
theorem d_TR_readSets_108 : decode y_TR_readSets.2.1 108 = .ok (.iload 6, 2) := dc9_21 (by decide +kernel)
theorem d_TR_readSets_110 : decode y_TR_readSets.2.1 110 = .ok (.iconst (-1), 1) := dc9_2 (by decide +kernel)
theorem d_TR_readSets_111 : decode y_TR_readSets.2.1 111 = .ok (.if_icmp .ne 27, 3) := dc9_160 (by decide +kernel)
theorem d_TR_readSets_114 : decode y_TR_readSets.2.1 114 = .ok (.aload_n 0, 1) := dc9_42 (by decide +kernel)
theorem d_TR_readSets_115 : decode y_TR_readSets.2.1 115 = .ok (.getfield 12, 3) := dc9_180 (by decide +kernel)
theorem d_TR_readSets_118 : decode y_TR_readSets.2.1 118 = .ok (.iconst 2, 1) := dc9_5 (by decide +kernel)
theorem d_TR_readSets_119 : decode y_TR_readSets.2.1 119 = .ok (.aload_n 0, 1) := dc9_42 (by decide +kernel)
theorem d_TR_readSets_120 : decode y_TR_readSets.2.1 120 = .ok (.getfield 12, 3) := dc9_180 (by decide +kernel)
theorem d_TR_readSets_123 : decode y_TR_readSets.2.1 123 = .ok (.getfield 109, 3) := dc9_180 (by decide +kernel)
theorem d_TR_readSets_126 : decode y_TR_readSets.2.1 126 = .ok (.getfield 113, 3) := dc9_180 (by decide +kernel)
theorem d_TR_readSets_129 : decode y_TR_readSets.2.1 129 = .ok (.iload 5, 2) := dc9_21 (by decide +kernel)
theorem d_TR_readSets_131 : decode y_TR_readSets.2.1 131 = .ok (.iaload, 1) := dc9_46 (by decide +kernel)
theorem d_TR_readSets_138 : decode y_TR_readSets.2.1 138 = .ok (.iload_n 2, 1) := dc9_28 (by decide +kernel)
theorem d_TR_readSets_139 : decode y_TR_readSets.2.1 139 = .ok (.iload 6, 2) := dc9_21 (by decide +kernel)
theorem d_TR_readSets_141 : decode y_TR_readSets.2.1 141 = .ok (.ishr, 1) := dc9_122 (by decide +kernel)
theorem d_TR_readSets_142 : decode y_TR_readSets.2.1 142 = .ok (.iconst 1, 1) := dc9_4 (by decide +kernel)
theorem d_TR_readSets_143 : decode y_TR_readSets.2.1 143 = .ok (.iand, 1) := dc9_126 (by decide +kernel)
theorem d_TR_readSets_144 : decode y_TR_readSets.2.1 144 = .ok (.ifCond .eq 24, 3) := dc9_153 (by decide +kernel)
theorem d_TR_readSets_147 : decode y_TR_readSets.2.1 147 = .ok (.aload_n 0, 1) := dc9_42 (by decide +kernel)
theorem d_TR_readSets_148 : decode y_TR_readSets.2.1 148 = .ok (.getfield 12, 3) := dc9_180 (by decide +kernel)
theorem d_TR_readSets_151 : decode y_TR_readSets.2.1 151 = .ok (.iconst 4, 1) := dc9_7 (by decide +kernel)
theorem d_TR_readSets_152 : decode y_TR_readSets.2.1 152 = .ok (.aload_n 0, 1) := dc9_42 (by decide +kernel)
theorem d_TR_readSets_153 : decode y_TR_readSets.2.1 153 = .ok (.getfield 12, 3) := dc9_180 (by decide +kernel)
theorem d_TR_readSets_156 : decode y_TR_readSets.2.1 156 = .ok (.getfield 109, 3) := dc9_180 (by decide +kernel)
theorem d_TR_readSets_159 : decode y_TR_readSets.2.1 159 = .ok (.getfield 113, 3) := dc9_180 (by decide +kernel)
theorem d_TR_readSets_162 : decode y_TR_readSets.2.1 162 = .ok (.iload 5, 2) := dc9_21 (by decide +kernel)
theorem d_TR_readSets_164 : decode y_TR_readSets.2.1 164 = .ok (.iaload, 1) := dc9_46 (by decide +kernel)
theorem d_TR_readSets_132 : decode y_TR_readSets.2.1 132 = .ok (.invokevirtual 95, 3) := dc9_182 (by decide +kernel)
theorem d_TR_readSets_135 : decode y_TR_readSets.2.1 135 = .ok (.goto 33, 3) := dc9_167 (by decide +kernel)
theorem d_TR_readSets_165 : decode y_TR_readSets.2.1 165 = .ok (.invokevirtual 95, 3) := dc9_182 (by decide +kernel)
theorem d_TR_readSets_168 : decode y_TR_readSets.2.1 168 = .ok (.iload_n 2, 1) := dc9_28 (by decide +kernel)
theorem d_TR_readSets_169 : decode y_TR_readSets.2.1 169 = .ok (.iload 6, 2) := dc9_21 (by decide +kernel)
theorem d_TR_readSets_171 : decode y_TR_readSets.2.1 171 = .ok (.iconst (-1), 1) := dc9_2 (by decide +kernel)
theorem d_TR_readSets_172 : decode y_TR_readSets.2.1 172 = .ok (.if_icmp .ne 7, 3) := dc9_160 (by decide +kernel)
theorem d_TR_readSets_175 : decode y_TR_readSets.2.1 175 = .ok (.iconst 0, 1) := dc9_3 (by decide +kernel)
theorem d_TR_readSets_176 : decode y_TR_readSets.2.1 176 = .ok (.goto 7, 3) := dc9_167 (by decide +kernel)
theorem d_TR_readSets_179 : decode y_TR_readSets.2.1 179 = .ok (.iconst 1, 1) := dc9_4 (by decide +kernel)
theorem d_TR_readSets_180 : decode y_TR_readSets.2.1 180 = .ok (.iload 6, 2) := dc9_21 (by decide +kernel)
theorem d_TR_readSets_182 : decode y_TR_readSets.2.1 182 = .ok (.ishl, 1) := dc9_120 (by decide +kernel)
theorem d_TR_readSets_183 : decode y_TR_readSets.2.1 183 = .ok (.ior, 1) := dc9_128 (by decide +kernel)
theorem d_TR_readSets_184 : decode y_TR_readSets.2.1 184 = .ok (.istore_n 2, 1) := dc9_61 (by decide +kernel)
theorem d_TR_readSets_185 : decode y_TR_readSets.2.1 185 = .ok (.aload_n 0, 1) := dc9_42 (by decide +kernel)
theorem d_TR_readSets_186 : decode y_TR_readSets.2.1 186 = .ok (.getfield 12, 3) := dc9_180 (by decide +kernel)
theorem d_TR_readSets_189 : decode y_TR_readSets.2.1 189 = .ok (.dup, 1) := dc9_89 (by decide +kernel)
theorem d_TR_readSets_190 : decode y_TR_readSets.2.1 190 = .ok (.getfield 222, 3) := dc9_180 (by decide +kernel)
theorem d_TR_readSets_193 : decode y_TR_readSets.2.1 193 = .ok (.iconst 1, 1) := dc9_4 (by decide +kernel)
theorem d_TR_readSets_194 : decode y_TR_readSets.2.1 194 = .ok (.iadd, 1) := dc9_96 (by decide +kernel)
theorem d_TR_readSets_195 : decode y_TR_readSets.2.1 195 = .ok (.putfield 222, 3) := dc9_181 (by decide +kernel)
theorem d_TR_readSets_198 : decode y_TR_readSets.2.1 198 = .ok (.aload_n 0, 1) := dc9_42 (by decide +kernel)
theorem d_TR_readSets_199 : decode y_TR_readSets.2.1 199 = .ok (.getfield 12, 3) := dc9_180 (by decide +kernel)
theorem d_TR_readSets_202 : decode y_TR_readSets.2.1 202 = .ok (.bipush 39, 2) := dc9_16 (by decide +kernel)
theorem d_TR_readSets_204 : decode y_TR_readSets.2.1 204 = .ok (.invokevirtual 102, 3) := dc9_182 (by decide +kernel)
theorem d_TR_readSets_207 : decode y_TR_readSets.2.1 207 = .ok (.ifCond .eq 47, 3) := dc9_153 (by decide +kernel)
theorem d_TR_readSets_210 : decode y_TR_readSets.2.1 210 = .ok (.aload_n 0, 1) := dc9_42 (by decide +kernel)
theorem d_TR_readSets_211 : decode y_TR_readSets.2.1 211 = .ok (.getfield 12, 3) := dc9_180 (by decide +kernel)
theorem d_TR_readSets_214 : decode y_TR_readSets.2.1 214 = .ok (.bipush 24, 2) := dc9_16 (by decide +kernel)
theorem d_TR_readSets_254 : decode y_TR_readSets.2.1 254 = .ok (.iconst 0, 1) := dc9_3 (by decide +kernel)
theorem d_TR_readSets_255 : decode y_TR_readSets.2.1 255 = .ok (.ireturn, 1) := dc9_172 (by decide +kernel)
theorem d_TR_readSets_216 : decode y_TR_readSets.2.1 216 = .ok (.invokevirtual 102, 3) := dc9_182 (by decide +kernel)
theorem d_TR_readSets_219 : decode y_TR_readSets.2.1 219 = .ok (.ifCond .eq 35, 3) := dc9_153 (by decide +kernel)
theorem d_TR_readSets_222 : decode y_TR_readSets.2.1 222 = .ok (.aload_n 0, 1) := dc9_42 (by decide +kernel)
theorem d_TR_readSets_223 : decode y_TR_readSets.2.1 223 = .ok (.getfield 12, 3) := dc9_180 (by decide +kernel)
theorem d_TR_readSets_226 : decode y_TR_readSets.2.1 226 = .ok (.aload_n 0, 1) := dc9_42 (by decide +kernel)
theorem d_TR_readSets_227 : decode y_TR_readSets.2.1 227 = .ok (.getfield 12, 3) := dc9_180 (by decide +kernel)
theorem d_TR_readSets_230 : decode y_TR_readSets.2.1 230 = .ok (.iload 5, 2) := dc9_21 (by decide +kernel)
theorem d_TR_readSets_232 : decode y_TR_readSets.2.1 232 = .ok (.invokevirtual 228, 3) := dc9_182 (by decide +kernel)
theorem d_TR_readSets_235 : decode y_TR_readSets.2.1 235 = .ok (.iconst 1, 1) := dc9_4 (by decide +kernel)
theorem d_TR_readSets_236 : decode y_TR_readSets.2.1 236 = .ok (.invokevirtual 117, 3) := dc9_182 (by decide +kernel)
theorem d_TR_readSets_239 : decode y_TR_readSets.2.1 239 = .ok (.ifCond .eq 15, 3) := dc9_153 (by decide +kernel)
theorem d_TR_readSets_242 : decode y_TR_readSets.2.1 242 = .ok (.aload_n 0, 1) := dc9_42 (by decide +kernel)
theorem d_TR_readSets_243 : decode y_TR_readSets.2.1 243 = .ok (.getfield 12, 3) := dc9_180 (by decide +kernel)
theorem d_TR_readSets_246 : decode y_TR_readSets.2.1 246 = .ok (.bipush 38, 2) := dc9_16 (by decide +kernel)
theorem d_TR_readSets_248 : decode y_TR_readSets.2.1 248 = .ok (.invokevirtual 102, 3) := dc9_182 (by decide +kernel)
theorem d_TR_readSets_251 : decode y_TR_readSets.2.1 251 = .ok (.ifCond .ne 5, 3) := dc9_154 (by decide +kernel)
theorem d_TR_readSets_256 : decode y_TR_readSets.2.1 256 = .ok (.aload_n 0, 1) := dc9_42 (by decide +kernel)
theorem d_TR_readSets_257 : decode y_TR_readSets.2.1 257 = .ok (.getfield 12, 3) := dc9_180 (by decide +kernel)
theorem d_TR_readSets_260 : decode y_TR_readSets.2.1 260 = .ok (.dup, 1) := dc9_89 (by decide +kernel)
theorem d_TR_readSets_261 : decode y_TR_readSets.2.1 261 = .ok (.getfield 222, 3) := dc9_180 (by decide +kernel)
theorem d_TR_readSets_264 : decode y_TR_readSets.2.1 264 = .ok (.iconst 1, 1) := dc9_4 (by decide +kernel)
theorem d_TR_readSets_265 : decode y_TR_readSets.2.1 265 = .ok (.isub, 1) := dc9_100 (by decide +kernel)
theorem d_TR_readSets_266 : decode y_TR_readSets.2.1 266 = .ok (.putfield 222, 3) := dc9_181 (by decide +kernel)
theorem d_TR_readSets_269 : decode y_TR_readSets.2.1 269 = .ok (.aload_n 0, 1) := dc9_42 (by decide +kernel)
theorem d_TR_readSets_270 : decode y_TR_readSets.2.1 270 = .ok (.getfield 36, 3) := dc9_180 (by decide +kernel)
theorem d_TR_readSets_273 : decode y_TR_readSets.2.1 273 = .ok (.bipush 43, 2) := dc9_16 (by decide +kernel)
theorem d_TR_readSets_275 : decode y_TR_readSets.2.1 275 = .ok (.iload 4, 2) := dc9_21 (by decide +kernel)
theorem d_TR_readSets_277 : decode y_TR_readSets.2.1 277 = .ok (.bipush 16, 2) := dc9_16 (by decide +kernel)
theorem d_TR_readSets_279 : decode y_TR_readSets.2.1 279 = .ok (.imul, 1) := dc9_104 (by decide +kernel)
theorem d_TR_readSets_280 : decode y_TR_readSets.2.1 280 = .ok (.iload 6, 2) := dc9_21 (by decide +kernel)
theorem d_TR_readSets_282 : decode y_TR_readSets.2.1 282 = .ok (.iconst 0, 1) := dc9_3 (by decide +kernel)
theorem d_TR_readSets_283 : decode y_TR_readSets.2.1 283 = .ok (.invokestatic 231, 3) := dc9_184 (by decide +kernel)
theorem d_TR_readSets_286 : decode y_TR_readSets.2.1 286 = .ok (.iadd, 1) := dc9_96 (by decide +kernel)
theorem d_TR_readSets_287 : decode y_TR_readSets.2.1 287 = .ok (.invokevirtual 121, 3) := dc9_182 (by decide +kernel)
theorem d_TR_readSets_290 : decode y_TR_readSets.2.1 290 = .ok (.pop, 1) := dc9_87 (by decide +kernel)
theorem d_TR_readSets_291 : decode y_TR_readSets.2.1 291 = .ok (.aload_n 0, 1) := dc9_42 (by decide +kernel)
theorem d_TR_readSets_292 : decode y_TR_readSets.2.1 292 = .ok (.getfield 12, 3) := dc9_180 (by decide +kernel)
theorem d_TR_readSets_295 : decode y_TR_readSets.2.1 295 = .ok (.bipush 30, 2) := dc9_16 (by decide +kernel)
theorem d_TR_readSets_297 : decode y_TR_readSets.2.1 297 = .ok (.invokevirtual 102, 3) := dc9_182 (by decide +kernel)
theorem d_TR_readSets_300 : decode y_TR_readSets.2.1 300 = .ok (.istore_n 1, 1) := dc9_60 (by decide +kernel)
theorem d_TR_readSets_301 : decode y_TR_readSets.2.1 301 = .ok (.iinc 3 1, 3) := by decide +kernel
theorem d_TR_readSets_304 : decode y_TR_readSets.2.1 304 = .ok (.goto (-282), 3) := dc9_167 (by decide +kernel)
def h_TR_readSets_22 (G : mG) (d : Nat) (a0 : Nat) (l1 : Int) (l2 : Int) (l3 : Int) (M : mM) (Q : Int → mM → Prop) : Prop := mWm G y_TR_readSets (d + 1) 22 [vr a0, vi l1, vi l2, vi l3, vd, vd, vd] [] M (fun r9 M9 => ∃ x9, r9 = some (vi x9) ∧ Q x9 M9)
def h_TR_readSets_168 (G : mG) (d : Nat) (a0 : Nat) (l2 : Int) (l3 : Int) (l4 : Int) (l5 : Int) (l6 : Int) (M : mM) (Q : Int → mM → Prop) : Prop := mWm G y_TR_readSets (d + 1) 168 [vr a0, vd, vi l2, vi l3, vi l4, vi l5, vi l6] [] M (fun r9 M9 => ∃ x9, r9 = some (vi x9) ∧ Q x9 M9)
theorem k_TR_readSets {G : mG} {d : Nat} {a0 : Nat} {M : mM} {Q : Int → mM → Prop} (hO : mOk M)
    (h : mK M a0 = 3 ∧ mK M (mR M a0 0) = 4 ∧ Ci G y_RR_accept d [vr (mR M a0 0), vi 11] M (fun x4 M3 => i32 x4 ∧ mOk M3 ∧ (∀ v7 : Int, v7 = (if (x4 = 0) then 1 else 0) → h_TR_readSets_22 G d a0 v7 0 0 M3 Q))) :
    Ci G y_TR_readSets (d + 1) [vr a0] M Q := by
  refine wm_open (y := y_TR_readSets) rfl (Nat.le_of_ble_eq_true rfl) (L := [vr a0, vd, vd, vd, vd, vd, vd]) rfl ?_
  obtain ⟨h1, h⟩ := h
  obtain ⟨h2, h⟩ := h
  refine wm_aload_n d_TR_readSets_0 rfl rfl ?_
  refine gf_TR_12 rfl d_TR_readSets_1 h1 ?_
  refine wm_bipush d_TR_readSets_4 (by decide) ?_
  refine cf_TR_102 rfl d_TR_readSets_6 h2 (Nat.le_of_ble_eq_true rfl) (Ci.mono h (fun x4 M3 h => ?_))
  obtain ⟨h5, hOM3, h⟩ := h
  have hJ : ∀ v7 : Int, v7 = (if (x4 = 0) then 1 else 0) → mWm G y_TR_readSets (d + 1) 17 [vr a0, vd, vd, vd, vd, vd, vd] [vi v7] M3 (fun r9 M9 => ∃ x9, r9 = some (vi x9) ∧ Q x9 M9) := by
    intro v7 e9
    have h := h v7 e9
    have h10 : i32 v7 := by rw [e9]; (repeat' split) <;> first | exact ⟨by decide, by decide⟩ | exact ⟨by decide, by decide⟩
    have h11 : (v7 = 0 ∨ v7 = 1) := by rw [e9]; (repeat' split) <;> decide
    refine wm_istore_n d_TR_readSets_17 rfl (by decide) (L' := [vr a0, vi v7, vd, vd, vd, vd, vd]) rfl ?_
    refine wm_iconst d_TR_readSets_18 ?_
    refine wm_istore_n d_TR_readSets_19 rfl (by decide) (L' := [vr a0, vi v7, vi 0, vd, vd, vd, vd]) rfl ?_
    refine wm_iconst d_TR_readSets_20 ?_
    refine wm_istore_n d_TR_readSets_21 rfl (by decide) (L' := [vr a0, vi v7, vi 0, vi 0, vd, vd, vd]) rfl ?_
    exact h
  clear h
  refine wm_if_ne (tgt := 16) d_TR_readSets_9 rfl h5 (fun c6 => ?_) (fun c6 => ?_)
  · refine wm_iconst d_TR_readSets_16 ?_
    exact hJ 0 (if_neg c6).symm
  · replace c6 := Classical.not_not.mp c6
    refine wm_iconst d_TR_readSets_12 ?_
    refine wm_goto (tgt := 17) d_TR_readSets_13 rfl ?_
    exact hJ 1 (if_pos c6).symm
theorem k_TR_readSets_22 {G : mG} {d : Nat} {a0 : Nat} {l1 : Int} {l2 : Int} {l3 : Int} {M : mM} {Q : Int → mM → Prop} (hO : mOk M) (hi_l1 : i32 l1) (hi_l2 : i32 l2) (hi_l3 : i32 l3)
    (h : mK M a0 = 3 ∧ mK M (mR M a0 0) = 4 ∧ mK M (mR M (mR M a0 0) 0) = 2 ∧ (((mI M (mR M (mR M a0 0) 0) 2 ≤ l3) ∨ (l1 = 0)) → (mK M (mR M a0 2) = 6 ∧ Ci G y_Pr_add d [vr (mR M a0 2), vi 0, vi 0] M (fun x22 M21 => i32 x22 ∧ mOk M21 ∧ (Q 1 M21)))) ∧ (¬ ((mI M (mR M (mR M a0 0) 0) 2 ≤ l3) ∨ (l1 = 0)) → (Ci G y_RR_here d [vr (mR M a0 0)] M (fun x26 M25 => i32 x26 ∧ mOk M25 ∧ (mK M25 a0 = 3 ∧ mK M25 (mR M25 a0 0) = 4 ∧ ((40 ≤ mI M25 (mR M25 a0 0) 5) → (Q 0 M25)) ∧ (¬ (40 ≤ mI M25 (mR M25 a0 0) 5) → (Ci G y_RR_accept d [vr (mR M25 a0 0), vi 37] M25 (fun x33 M32 => i32 x33 ∧ mOk M32 ∧ (((x33 = 0) → (Q 0 M32)) ∧ (¬ (x33 = 0) → (mK M32 a0 = 3 ∧ mK M32 (mR M32 a0 0) = 4 ∧ Ci G y_RR_accept d [vr (mR M32 a0 0), vi 2] M32 (fun x40 M39 => i32 x40 ∧ mOk M39 ∧ (((x40 = 0) → (Q 0 M39)) ∧ (¬ (x40 = 0) → (mK M39 a0 = 3 ∧ mK M39 (mR M39 a0 0) = 4 ∧ Ci G y_RR_varOf d [vr (mR M39 a0 0), vi (mI M32 (mR M32 a0 0) 2)] M39 (fun x47 M46 => i32 x47 ∧ mOk M46 ∧ (((x47 = (-1)) → (mK M46 a0 = 3 ∧ mK M46 (mR M46 a0 0) = 4 ∧ mK M46 (mR M46 (mR M46 a0 0) 0) = 2 ∧ mK M46 (mR M46 (mR M46 (mR M46 a0 0) 0) 4) = 30 ∧ ((0 : Int) ≤ mI M32 (mR M32 a0 0) 2 ∧ mI M32 (mR M32 a0 0) 2 < (mN M46 (mR M46 (mR M46 (mR M46 a0 0) 0) 4) : Int)) ∧ Cv G y_RR_note d [vr (mR M46 a0 0), vi 2, vi (mI M46 (mR M46 (mR M46 (mR M46 a0 0) 0) 4) (Int.toNat (mI M32 (mR M32 a0 0) 2)))] M46 (fun M57 => mOk M57 ∧ (h_TR_readSets_168 G d a0 l2 l3 x26 (mI M32 (mR M32 a0 0) 2) x47 M57 Q)))) ∧ (¬ (x47 = (-1)) → (((andI (shrI l2 x47) 1 = 0) → (h_TR_readSets_168 G d a0 l2 l3 x26 (mI M32 (mR M32 a0 0) 2) x47 M46 Q)) ∧ (¬ (andI (shrI l2 x47) 1 = 0) → (mK M46 a0 = 3 ∧ mK M46 (mR M46 a0 0) = 4 ∧ mK M46 (mR M46 (mR M46 a0 0) 0) = 2 ∧ mK M46 (mR M46 (mR M46 (mR M46 a0 0) 0) 4) = 30 ∧ ((0 : Int) ≤ mI M32 (mR M32 a0 0) 2 ∧ mI M32 (mR M32 a0 0) 2 < (mN M46 (mR M46 (mR M46 (mR M46 a0 0) 0) 4) : Int)) ∧ Cv G y_RR_note d [vr (mR M46 a0 0), vi 4, vi (mI M46 (mR M46 (mR M46 (mR M46 a0 0) 0) 4) (Int.toNat (mI M32 (mR M32 a0 0) 2)))] M46 (fun M67 => mOk M67 ∧ (h_TR_readSets_168 G d a0 l2 l3 x26 (mI M32 (mR M32 a0 0) 2) x47 M67 Q))))))))))))))))))))))) :
    h_TR_readSets_22 G d a0 l1 l2 l3 M Q := by
  unfold h_TR_readSets_22
  obtain ⟨h13, h⟩ := h
  obtain ⟨h14, h⟩ := h
  obtain ⟨h15, h⟩ := h
  refine wm_iload_n d_TR_readSets_22 rfl rfl ?_
  refine wm_aload_n d_TR_readSets_23 rfl rfl ?_
  refine gf_TR_12 rfl d_TR_readSets_24 h13 ?_
  refine gf_TR_109 rfl d_TR_readSets_27 h14 ?_
  refine gf_TR_40 rfl d_TR_readSets_30 h15 ?_
  have hE0 : ((mI M (mR M (mR M a0 0) 0) 2 ≤ l3) ∨ (l1 = 0)) → mWm G y_TR_readSets (d + 1) 307 [vr a0, vi l1, vi l2, vi l3, vd, vd, vd] [] M (fun r9 M9 => ∃ x9, r9 = some (vi x9) ∧ Q x9 M9) := by
    intro q19
    have h := h.1 q19
    obtain ⟨h20, h⟩ := h
    refine wm_aload_n d_TR_readSets_307 rfl rfl ?_
    refine gf_TR_36 rfl d_TR_readSets_308 h13 ?_
    refine wm_iconst d_TR_readSets_311 ?_
    refine wm_iconst d_TR_readSets_312 ?_
    refine cf_TR_121 rfl d_TR_readSets_313 h20 (Nat.le_of_ble_eq_true rfl) (Ci.mono h (fun x22 M21 h => ?_))
    obtain ⟨h23, hOM21, h⟩ := h
    refine wm_pop d_TR_readSets_316 rfl ?_
    refine wm_iconst d_TR_readSets_317 ?_
    refine wm_ireturn d_TR_readSets_318 rfl (m_nb (by decide)) ?_
    exact ⟨_, rfl, h⟩
  have hE1 : ¬ ((mI M (mR M (mR M a0 0) 0) 2 ≤ l3) ∨ (l1 = 0)) → mWm G y_TR_readSets (d + 1) 40 [vr a0, vi l1, vi l2, vi l3, vd, vd, vd] [] M (fun r9 M9 => ∃ x9, r9 = some (vi x9) ∧ Q x9 M9) := by
    intro q24
    have h := h.2 q24
    refine wm_aload_n d_TR_readSets_40 rfl rfl ?_
    refine gf_TR_12 rfl d_TR_readSets_41 h13 ?_
    refine cf_TR_79 rfl d_TR_readSets_44 h14 (Nat.le_of_ble_eq_true rfl) (Ci.mono h (fun x26 M25 h => ?_))
    obtain ⟨h27, hOM25, h⟩ := h
    obtain ⟨h28, h⟩ := h
    obtain ⟨h29, h⟩ := h
    refine wm_istore d_TR_readSets_47 (by decide) (L' := [vr a0, vi l1, vi l2, vi l3, vi x26, vd, vd]) rfl ?_
    refine wm_aload_n d_TR_readSets_49 rfl rfl ?_
    refine gf_TR_12 rfl d_TR_readSets_50 h28 ?_
    refine gf_TR_222 rfl d_TR_readSets_53 h29 ?_
    refine wm_bipush d_TR_readSets_56 (by decide) ?_
    refine wm_icmp_ge (tgt := 73) d_TR_readSets_58 rfl (hOM25 _ _).1 ⟨by decide, by decide⟩ (fun c31 => ?_) (fun c31 => ?_)
    · replace h := h.1 c31
      refine wm_iconst d_TR_readSets_73 ?_
      refine wm_ireturn d_TR_readSets_74 rfl (m_nb (by decide)) ?_
      exact ⟨_, rfl, h⟩
    · replace h := h.2 c31
      refine wm_aload_n d_TR_readSets_61 rfl rfl ?_
      refine gf_TR_12 rfl d_TR_readSets_62 h28 ?_
      refine wm_bipush d_TR_readSets_65 (by decide) ?_
      refine cf_TR_102 rfl d_TR_readSets_67 h29 (Nat.le_of_ble_eq_true rfl) (Ci.mono h (fun x33 M32 h => ?_))
      obtain ⟨h34, hOM32, h⟩ := h
      refine wm_if_ne (tgt := 75) d_TR_readSets_70 rfl h34 (fun c36 => ?_) (fun c36 => ?_)
      · replace h := h.2 c36
        obtain ⟨h37, h⟩ := h
        obtain ⟨h38, h⟩ := h
        refine wm_aload_n d_TR_readSets_75 rfl rfl ?_
        refine gf_TR_12 rfl d_TR_readSets_76 h37 ?_
        refine gf_TR_59 rfl d_TR_readSets_79 h38 ?_
        refine wm_istore d_TR_readSets_82 (by decide) (L' := [vr a0, vi l1, vi l2, vi l3, vi x26, vi (mI M32 (mR M32 a0 0) 2), vd]) rfl ?_
        refine wm_aload_n d_TR_readSets_84 rfl rfl ?_
        refine gf_TR_12 rfl d_TR_readSets_85 h37 ?_
        refine wm_iconst d_TR_readSets_88 ?_
        refine cf_TR_102 rfl d_TR_readSets_89 h38 (Nat.le_of_ble_eq_true rfl) (Ci.mono h (fun x40 M39 h => ?_))
        obtain ⟨h41, hOM39, h⟩ := h
        refine wm_if_ne (tgt := 97) d_TR_readSets_92 rfl h41 (fun c43 => ?_) (fun c43 => ?_)
        · replace h := h.2 c43
          obtain ⟨h44, h⟩ := h
          obtain ⟨h45, h⟩ := h
          refine wm_aload_n d_TR_readSets_97 rfl rfl ?_
          refine gf_TR_12 rfl d_TR_readSets_98 h44 ?_
          refine wm_iload d_TR_readSets_101 rfl ?_
          refine cf_TR_225 rfl d_TR_readSets_103 h45 (Nat.le_of_ble_eq_true rfl) (Ci.mono h (fun x47 M46 h => ?_))
          obtain ⟨h48, hOM46, h⟩ := h
          refine wm_istore d_TR_readSets_106 (by decide) (L' := [vr a0, vi l1, vi l2, vi l3, vi x26, vi (mI M32 (mR M32 a0 0) 2), vi x47]) rfl ?_
          refine wm_iload d_TR_readSets_108 rfl ?_
          refine wm_iconst d_TR_readSets_110 ?_
          refine wm_icmp_ne (tgt := 138) d_TR_readSets_111 rfl h48 ⟨by decide, by decide⟩ (fun c51 => ?_) (fun c51 => ?_)
          · replace h := h.2 c51
            refine wm_iload_n d_TR_readSets_138 rfl rfl ?_
            refine wm_iload d_TR_readSets_139 rfl ?_
            refine wm_ishr d_TR_readSets_141 ?_
            refine wm_iconst d_TR_readSets_142 ?_
            refine wm_iand d_TR_readSets_143 ?_
            refine wm_if_eq (tgt := 168) d_TR_readSets_144 rfl (m_i32 _) (fun c61 => ?_) (fun c61 => ?_)
            · replace h := h.1 c61
              refine wm_less (L' := [vr a0, vd, vi l2, vi l3, vi x26, vi (mI M32 (mR M32 a0 0) 2), vi x47]) ⟨Or.inr rfl, Or.inl rfl, Or.inr rfl, Or.inr rfl, Or.inr rfl, Or.inr rfl, Or.inr rfl, trivial⟩ ?_
              exact h
            · replace h := h.2 c61
              obtain ⟨h62, h⟩ := h
              obtain ⟨h63, h⟩ := h
              obtain ⟨h64, h⟩ := h
              obtain ⟨h65, h⟩ := h
              obtain ⟨h66, h⟩ := h
              refine wm_aload_n d_TR_readSets_147 rfl rfl ?_
              refine gf_TR_12 rfl d_TR_readSets_148 h62 ?_
              refine wm_iconst d_TR_readSets_151 ?_
              refine wm_aload_n d_TR_readSets_152 rfl rfl ?_
              refine gf_TR_12 rfl d_TR_readSets_153 h62 ?_
              refine gf_TR_109 rfl d_TR_readSets_156 h63 ?_
              refine gf_TR_113 rfl d_TR_readSets_159 h64 ?_
              refine wm_iload d_TR_readSets_162 rfl ?_
              refine wm_iald d_TR_readSets_164 h65 h66 ?_
              refine cf_TR_95 rfl d_TR_readSets_165 h63 (Nat.le_of_ble_eq_true rfl) (Cv.mono h (fun M67 h => ?_))
              obtain ⟨hOM67, h⟩ := h
              refine wm_less (L' := [vr a0, vd, vi l2, vi l3, vi x26, vi (mI M32 (mR M32 a0 0) 2), vi x47]) ⟨Or.inr rfl, Or.inl rfl, Or.inr rfl, Or.inr rfl, Or.inr rfl, Or.inr rfl, Or.inr rfl, trivial⟩ ?_
              exact h
          · replace c51 := Classical.not_not.mp c51
            replace h := h.1 c51
            obtain ⟨h52, h⟩ := h
            obtain ⟨h53, h⟩ := h
            obtain ⟨h54, h⟩ := h
            obtain ⟨h55, h⟩ := h
            obtain ⟨h56, h⟩ := h
            refine wm_aload_n d_TR_readSets_114 rfl rfl ?_
            refine gf_TR_12 rfl d_TR_readSets_115 h52 ?_
            refine wm_iconst d_TR_readSets_118 ?_
            refine wm_aload_n d_TR_readSets_119 rfl rfl ?_
            refine gf_TR_12 rfl d_TR_readSets_120 h52 ?_
            refine gf_TR_109 rfl d_TR_readSets_123 h53 ?_
            refine gf_TR_113 rfl d_TR_readSets_126 h54 ?_
            refine wm_iload d_TR_readSets_129 rfl ?_
            refine wm_iald d_TR_readSets_131 h55 h56 ?_
            refine cf_TR_95 rfl d_TR_readSets_132 h53 (Nat.le_of_ble_eq_true rfl) (Cv.mono h (fun M57 h => ?_))
            obtain ⟨hOM57, h⟩ := h
            refine wm_goto (tgt := 168) d_TR_readSets_135 rfl ?_
            refine wm_less (L' := [vr a0, vd, vi l2, vi l3, vi x26, vi (mI M32 (mR M32 a0 0) 2), vi x47]) ⟨Or.inr rfl, Or.inl rfl, Or.inr rfl, Or.inr rfl, Or.inr rfl, Or.inr rfl, Or.inr rfl, trivial⟩ ?_
            exact h
        · replace c43 := Classical.not_not.mp c43
          replace h := h.1 c43
          refine wm_iconst d_TR_readSets_95 ?_
          refine wm_ireturn d_TR_readSets_96 rfl (m_nb (by decide)) ?_
          exact ⟨_, rfl, h⟩
      · replace c36 := Classical.not_not.mp c36
        replace h := h.1 c36
        refine wm_iconst d_TR_readSets_73 ?_
        refine wm_ireturn d_TR_readSets_74 rfl (m_nb (by decide)) ?_
        exact ⟨_, rfl, h⟩
  clear h
  refine wm_icmp_ge (tgt := 307) d_TR_readSets_33 rfl hi_l3 (hO _ _).1 (fun c17 => ?_) (fun c17 => ?_)
  · exact hE0 (Or.inl c17)
  · refine wm_iload_n d_TR_readSets_36 rfl rfl ?_
    refine wm_if_eq (tgt := 307) d_TR_readSets_37 rfl hi_l1 (fun c16 => ?_) (fun c16 => ?_)
    · exact hE0 (Or.inr c16)
    · exact hE1 (fun z70 => Or.elim z70 c17 c16)
theorem k_TR_readSets_168 {G : mG} {d : Nat} {a0 : Nat} {l2 : Int} {l3 : Int} {l4 : Int} {l5 : Int} {l6 : Int} {M : mM} {Q : Int → mM → Prop} (hO : mOk M) (hi_l2 : i32 l2) (hi_l3 : i32 l3) (hi_l4 : i32 l4) (hi_l5 : i32 l5) (hi_l6 : i32 l6)
    (h : ∀ v73 : Int, v73 = (if (l6 = (-1)) then 0 else shlI 1 l6) → mK M a0 = 3 ∧ mK M (mR M a0 0) = 4 ∧ i32 ((mI M (mR M a0 0) 5) + 1) ∧ ∀ M80, M80 = mUI M (mR M a0 0) 5 ((mI M (mR M a0 0) 5) + 1) → mK M80 (mR M80 a0 0) = 4 ∧ Ci G y_RR_accept d [vr (mR M80 a0 0), vi 39] M80 (fun x84 M83 => i32 x84 ∧ mOk M83 ∧ (((x84 = 0) → (Q 0 M83)) ∧ (¬ (x84 = 0) → (mK M83 a0 = 3 ∧ mK M83 (mR M83 a0 0) = 4 ∧ Ci G y_RR_accept d [vr (mR M83 a0 0), vi 24] M83 (fun x91 M90 => i32 x91 ∧ mOk M90 ∧ (((x91 = 0) → (Q 0 M90)) ∧ (¬ (x91 = 0) → (mK M90 a0 = 3 ∧ mK M90 (mR M90 a0 0) = 4 ∧ Ci G y_RR_kindOf d [vr (mR M90 a0 0), vi l5] M90 (fun x98 M97 => i32 x98 ∧ mOk M97 ∧ (mK M97 (mR M90 a0 0) = 4 ∧ Ci G y_RR_readRule d [vr (mR M90 a0 0), vi x98, vi 1] M97 (fun x102 M101 => i32 x102 ∧ mOk M101 ∧ (((x102 = 0) → (Q 0 M101)) ∧ (¬ (x102 = 0) → (mK M101 a0 = 3 ∧ mK M101 (mR M101 a0 0) = 4 ∧ Ci G y_RR_accept d [vr (mR M101 a0 0), vi 38] M101 (fun x109 M108 => i32 x109 ∧ mOk M108 ∧ (((x109 = 0) → (Q 0 M108)) ∧ (¬ (x109 = 0) → (mK M108 a0 = 3 ∧ mK M108 (mR M108 a0 0) = 4 ∧ i32 ((mI M108 (mR M108 a0 0) 5) - 1) ∧ ∀ M116, M116 = mUI M108 (mR M108 a0 0) 5 ((mI M108 (mR M108 a0 0) 5) - 1) → mK M116 (mR M116 a0 2) = 6 ∧ Ci G y_Pr_add d [vr (mR M116 a0 2), vi 43, vi ((l4 * 16) + (if l6 < 0 then 0 else l6))] M116 (fun x120 M119 => i32 x120 ∧ mOk M119 ∧ (mK M119 a0 = 3 ∧ mK M119 (mR M119 a0 0) = 4 ∧ Ci G y_RR_accept d [vr (mR M119 a0 0), vi 30] M119 (fun x125 M124 => i32 x125 ∧ mOk M124 ∧ (h_TR_readSets_22 G d a0 x125 (orI l2 v73) (l3 + 1) M124 Q))))))))))))))))))))))) :
    h_TR_readSets_168 G d a0 l2 l3 l4 l5 l6 M Q := by
  unfold h_TR_readSets_168
  refine wm_iload_n d_TR_readSets_168 rfl rfl ?_
  refine wm_iload d_TR_readSets_169 rfl ?_
  refine wm_iconst d_TR_readSets_171 ?_
  have hJ : ∀ v73 : Int, v73 = (if (l6 = (-1)) then 0 else shlI 1 l6) → mWm G y_TR_readSets (d + 1) 183 [vr a0, vd, vd, vi l3, vi l4, vi l5, vi l6] [vi v73, vi l2] M (fun r9 M9 => ∃ x9, r9 = some (vi x9) ∧ Q x9 M9) := by
    intro v73 e75
    have h := h v73 e75
    have h76 : i32 v73 := by rw [e75]; (repeat' split) <;> first | exact ⟨by decide, by decide⟩ | exact (m_i32 _)
    obtain ⟨h77, h⟩ := h
    obtain ⟨h78, h⟩ := h
    obtain ⟨h79, h⟩ := h
    obtain ⟨M80, e81⟩ : ∃ M80, M80 = mUI M (mR M a0 0) 5 ((mI M (mR M a0 0) 5) + 1) := ⟨_, rfl⟩
    replace h := h M80 e81
    obtain ⟨h82, h⟩ := h
    refine wm_ior d_TR_readSets_183 ?_
    refine wm_istore_n d_TR_readSets_184 rfl (by decide) (L' := [vr a0, vd, vi (orI l2 v73), vi l3, vi l4, vi l5, vi l6]) rfl ?_
    refine wm_aload_n d_TR_readSets_185 rfl rfl ?_
    refine gf_TR_12 rfl d_TR_readSets_186 h77 ?_
    refine wm_dup d_TR_readSets_189 rfl ?_
    refine gf_TR_222 rfl d_TR_readSets_190 h78 ?_
    refine wm_iconst d_TR_readSets_193 ?_
    refine wm_iadd d_TR_readSets_194 ?_
    have hOM80 : mOk M80 := by rw [e81]; exact mOk_UI hO h79
    refine pf_TR_222 rfl d_TR_readSets_195 h78 h79 e81 ?_
    refine wm_aload_n d_TR_readSets_198 rfl rfl ?_
    refine gf_TR_12 rfl d_TR_readSets_199 (by rw [e81]; exact h77) ?_
    refine wm_bipush d_TR_readSets_202 (by decide) ?_
    refine cf_TR_102 rfl d_TR_readSets_204 h82 (Nat.le_of_ble_eq_true rfl) (Ci.mono h (fun x84 M83 h => ?_))
    obtain ⟨h85, hOM83, h⟩ := h
    refine wm_if_eq (tgt := 254) d_TR_readSets_207 rfl h85 (fun c87 => ?_) (fun c87 => ?_)
    · replace h := h.1 c87
      refine wm_iconst d_TR_readSets_254 ?_
      refine wm_ireturn d_TR_readSets_255 rfl (m_nb (by decide)) ?_
      exact ⟨_, rfl, h⟩
    · replace h := h.2 c87
      obtain ⟨h88, h⟩ := h
      obtain ⟨h89, h⟩ := h
      refine wm_aload_n d_TR_readSets_210 rfl rfl ?_
      refine gf_TR_12 rfl d_TR_readSets_211 h88 ?_
      refine wm_bipush d_TR_readSets_214 (by decide) ?_
      refine cf_TR_102 rfl d_TR_readSets_216 h89 (Nat.le_of_ble_eq_true rfl) (Ci.mono h (fun x91 M90 h => ?_))
      obtain ⟨h92, hOM90, h⟩ := h
      refine wm_if_eq (tgt := 254) d_TR_readSets_219 rfl h92 (fun c94 => ?_) (fun c94 => ?_)
      · replace h := h.1 c94
        refine wm_iconst d_TR_readSets_254 ?_
        refine wm_ireturn d_TR_readSets_255 rfl (m_nb (by decide)) ?_
        exact ⟨_, rfl, h⟩
      · replace h := h.2 c94
        obtain ⟨h95, h⟩ := h
        obtain ⟨h96, h⟩ := h
        refine wm_aload_n d_TR_readSets_222 rfl rfl ?_
        refine gf_TR_12 rfl d_TR_readSets_223 h95 ?_
        refine wm_aload_n d_TR_readSets_226 rfl rfl ?_
        refine gf_TR_12 rfl d_TR_readSets_227 h95 ?_
        refine wm_iload d_TR_readSets_230 rfl ?_
        refine cf_TR_228 rfl d_TR_readSets_232 h96 (Nat.le_of_ble_eq_true rfl) (Ci.mono h (fun x98 M97 h => ?_))
        obtain ⟨h99, hOM97, h⟩ := h
        obtain ⟨h100, h⟩ := h
        refine wm_iconst d_TR_readSets_235 ?_
        refine cf_TR_117 rfl d_TR_readSets_236 h100 (Nat.le_of_ble_eq_true rfl) (Ci.mono h (fun x102 M101 h => ?_))
        obtain ⟨h103, hOM101, h⟩ := h
        refine wm_if_eq (tgt := 254) d_TR_readSets_239 rfl h103 (fun c105 => ?_) (fun c105 => ?_)
        · replace h := h.1 c105
          refine wm_iconst d_TR_readSets_254 ?_
          refine wm_ireturn d_TR_readSets_255 rfl (m_nb (by decide)) ?_
          exact ⟨_, rfl, h⟩
        · replace h := h.2 c105
          obtain ⟨h106, h⟩ := h
          obtain ⟨h107, h⟩ := h
          refine wm_aload_n d_TR_readSets_242 rfl rfl ?_
          refine gf_TR_12 rfl d_TR_readSets_243 h106 ?_
          refine wm_bipush d_TR_readSets_246 (by decide) ?_
          refine cf_TR_102 rfl d_TR_readSets_248 h107 (Nat.le_of_ble_eq_true rfl) (Ci.mono h (fun x109 M108 h => ?_))
          obtain ⟨h110, hOM108, h⟩ := h
          refine wm_if_ne (tgt := 256) d_TR_readSets_251 rfl h110 (fun c112 => ?_) (fun c112 => ?_)
          · replace h := h.2 c112
            obtain ⟨h113, h⟩ := h
            obtain ⟨h114, h⟩ := h
            obtain ⟨h115, h⟩ := h
            obtain ⟨M116, e117⟩ : ∃ M116, M116 = mUI M108 (mR M108 a0 0) 5 ((mI M108 (mR M108 a0 0) 5) - 1) := ⟨_, rfl⟩
            replace h := h M116 e117
            obtain ⟨h118, h⟩ := h
            refine wm_aload_n d_TR_readSets_256 rfl rfl ?_
            refine gf_TR_12 rfl d_TR_readSets_257 h113 ?_
            refine wm_dup d_TR_readSets_260 rfl ?_
            refine gf_TR_222 rfl d_TR_readSets_261 h114 ?_
            refine wm_iconst d_TR_readSets_264 ?_
            refine wm_isub d_TR_readSets_265 ?_
            have hOM116 : mOk M116 := by rw [e117]; exact mOk_UI hOM108 h115
            refine pf_TR_222 rfl d_TR_readSets_266 h114 h115 e117 ?_
            refine wm_aload_n d_TR_readSets_269 rfl rfl ?_
            refine gf_TR_36 rfl d_TR_readSets_270 (by rw [e117]; exact h113) ?_
            refine wm_bipush d_TR_readSets_273 (by decide) ?_
            refine wm_iload d_TR_readSets_275 rfl ?_
            refine wm_bipush d_TR_readSets_277 (by decide) ?_
            refine wm_imul d_TR_readSets_279 ?_
            refine wm_iload d_TR_readSets_280 rfl ?_
            refine wm_iconst d_TR_readSets_282 ?_
            refine wm_mmax k5_22 (Nat.le_of_ble_eq_true rfl) hi_l6 ⟨by decide, by decide⟩ d_TR_readSets_283 ?_
            refine wm_iadd d_TR_readSets_286 ?_
            refine cf_TR_121 rfl d_TR_readSets_287 h118 (Nat.le_of_ble_eq_true rfl) (Ci.mono h (fun x120 M119 h => ?_))
            obtain ⟨h121, hOM119, h⟩ := h
            obtain ⟨h122, h⟩ := h
            obtain ⟨h123, h⟩ := h
            refine wm_pop d_TR_readSets_290 rfl ?_
            refine wm_aload_n d_TR_readSets_291 rfl rfl ?_
            refine gf_TR_12 rfl d_TR_readSets_292 h122 ?_
            refine wm_bipush d_TR_readSets_295 (by decide) ?_
            refine cf_TR_102 rfl d_TR_readSets_297 h123 (Nat.le_of_ble_eq_true rfl) (Ci.mono h (fun x125 M124 h => ?_))
            obtain ⟨h126, hOM124, h⟩ := h
            refine wm_istore_n d_TR_readSets_300 rfl (by decide) (L' := [vr a0, vi x125, vi (orI l2 v73), vi l3, vi l4, vi l5, vi l6]) rfl ?_
            refine wm_iinc d_TR_readSets_301 (by decide) rfl (L' := [vr a0, vi x125, vi (orI l2 v73), vi (l3 + 1), vi l4, vi l5, vi l6]) rfl ?_
            refine wm_goto (tgt := 22) d_TR_readSets_304 rfl ?_
            refine wm_less (L' := [vr a0, vi x125, vi (orI l2 v73), vi (l3 + 1), vd, vd, vd]) ⟨Or.inr rfl, Or.inr rfl, Or.inr rfl, Or.inr rfl, Or.inl rfl, Or.inl rfl, Or.inl rfl, trivial⟩ ?_
            exact h
          · replace c112 := Classical.not_not.mp c112
            replace h := h.1 c112
            refine wm_iconst d_TR_readSets_254 ?_
            refine wm_ireturn d_TR_readSets_255 rfl (m_nb (by decide)) ?_
            exact ⟨_, rfl, h⟩
  clear h
  refine wm_icmp_ne (tgt := 179) d_TR_readSets_172 rfl hi_l6 ⟨by decide, by decide⟩ (fun c72 => ?_) (fun c72 => ?_)
  · refine wm_iconst d_TR_readSets_179 ?_
    refine wm_iload d_TR_readSets_180 rfl ?_
    refine wm_ishl d_TR_readSets_182 ?_
    refine wm_less (L' := [vr a0, vd, vd, vi l3, vi l4, vi l5, vi l6]) ⟨Or.inr rfl, Or.inl rfl, Or.inl rfl, Or.inr rfl, Or.inr rfl, Or.inr rfl, Or.inr rfl, trivial⟩ ?_
    exact hJ (shlI 1 l6) (if_neg c72).symm
  · replace c72 := Classical.not_not.mp c72
    refine wm_iconst d_TR_readSets_175 ?_
    refine wm_goto (tgt := 183) d_TR_readSets_176 rfl ?_
    refine wm_less (L' := [vr a0, vd, vd, vi l3, vi l4, vi l5, vi l6]) ⟨Or.inr rfl, Or.inl rfl, Or.inl rfl, Or.inr rfl, Or.inr rfl, Or.inr rfl, Or.inr rfl, trivial⟩ ?_
    exact hJ 0 (if_pos c72).symm
theorem d_Wo_init_0 : decode y_Wo_init.2.1 0 = .ok (.aload_n 0, 1) := dc9_42 (by decide +kernel)
theorem d_Wo_init_1 : decode y_Wo_init.2.1 1 = .ok (.invokespecial 3, 3) := dc9_183 (by decide +kernel)
theorem d_Wo_init_4 : decode y_Wo_init.2.1 4 = .ok (.aload_n 0, 1) := dc9_42 (by decide +kernel)
theorem d_Wo_init_5 : decode y_Wo_init.2.1 5 = .ok (.iconst 0, 1) := dc9_3 (by decide +kernel)
theorem d_Wo_init_6 : decode y_Wo_init.2.1 6 = .ok (.newarray .char, 2) := by decide +kernel
theorem d_Wo_init_8 : decode y_Wo_init.2.1 8 = .ok (.putfield 9, 3) := dc9_181 (by decide +kernel)
theorem d_Wo_init_11 : decode y_Wo_init.2.1 11 = .ok (.aload_n 0, 1) := dc9_42 (by decide +kernel)
theorem d_Wo_init_12 : decode y_Wo_init.2.1 12 = .ok (.sipush 128, 3) := dc9_17 (by decide +kernel)
theorem d_Wo_init_15 : decode y_Wo_init.2.1 15 = .ok (.newarray .int, 2) := by decide +kernel
theorem d_Wo_init_17 : decode y_Wo_init.2.1 17 = .ok (.putfield 15, 3) := dc9_181 (by decide +kernel)
theorem d_Wo_init_20 : decode y_Wo_init.2.1 20 = .ok (.aload_n 0, 1) := dc9_42 (by decide +kernel)
theorem d_Wo_init_21 : decode y_Wo_init.2.1 21 = .ok (.sipush 128, 3) := dc9_17 (by decide +kernel)
theorem d_Wo_init_24 : decode y_Wo_init.2.1 24 = .ok (.newarray .int, 2) := by decide +kernel
theorem d_Wo_init_26 : decode y_Wo_init.2.1 26 = .ok (.putfield 19, 3) := dc9_181 (by decide +kernel)
theorem d_Wo_init_29 : decode y_Wo_init.2.1 29 = .ok (.aload_n 0, 1) := dc9_42 (by decide +kernel)
theorem d_Wo_init_30 : decode y_Wo_init.2.1 30 = .ok (.sipush 128, 3) := dc9_17 (by decide +kernel)
theorem d_Wo_init_33 : decode y_Wo_init.2.1 33 = .ok (.newarray .int, 2) := by decide +kernel
theorem d_Wo_init_35 : decode y_Wo_init.2.1 35 = .ok (.putfield 22, 3) := dc9_181 (by decide +kernel)
theorem d_Wo_init_38 : decode y_Wo_init.2.1 38 = .ok (.return_, 1) := dc9_177 (by decide +kernel)
theorem k_Wo_init {G : mG} {d : Nat} {a0 : Nat} {M : mM} {Q : mM → Prop} (hO : mOk M)
    (h : 0 < a0 ∧ ∀ M2, M2 = mNew M 32 0 0 → mK M2 a0 = 2 ∧ ∀ M5, M5 = mUR M2 a0 0 (mZ M) → ∀ M7, M7 = mNew M5 30 128 128 → mK M7 a0 = 2 ∧ ∀ M10, M10 = mUR M7 a0 3 (mZ M5) → ∀ M12, M12 = mNew M10 30 128 128 → mK M12 a0 = 2 ∧ ∀ M15, M15 = mUR M12 a0 4 (mZ M10) → ∀ M17, M17 = mNew M15 30 128 128 → mK M17 a0 = 2 ∧ ∀ M20, M20 = mUR M17 a0 5 (mZ M15) → Q M20) :
    Cv G y_Wo_init (d + 1) [vr a0] M Q := by
  refine wm_open (y := y_Wo_init) rfl (Nat.le_of_ble_eq_true rfl) (L := [vr a0]) rfl ?_
  obtain ⟨h1, h⟩ := h
  obtain ⟨M2, e3⟩ : ∃ M2, M2 = mNew M 32 0 0 := ⟨_, rfl⟩
  replace h := h M2 e3
  obtain ⟨h4, h⟩ := h
  obtain ⟨M5, e6⟩ : ∃ M5, M5 = mUR M2 a0 0 (mZ M) := ⟨_, rfl⟩
  replace h := h M5 e6
  obtain ⟨M7, e8⟩ : ∃ M7, M7 = mNew M5 30 128 128 := ⟨_, rfl⟩
  replace h := h M7 e8
  obtain ⟨h9, h⟩ := h
  obtain ⟨M10, e11⟩ : ∃ M10, M10 = mUR M7 a0 3 (mZ M5) := ⟨_, rfl⟩
  replace h := h M10 e11
  obtain ⟨M12, e13⟩ : ∃ M12, M12 = mNew M10 30 128 128 := ⟨_, rfl⟩
  replace h := h M12 e13
  obtain ⟨h14, h⟩ := h
  obtain ⟨M15, e16⟩ : ∃ M15, M15 = mUR M12 a0 4 (mZ M10) := ⟨_, rfl⟩
  replace h := h M15 e16
  obtain ⟨M17, e18⟩ : ∃ M17, M17 = mNew M15 30 128 128 := ⟨_, rfl⟩
  replace h := h M17 e18
  obtain ⟨h19, h⟩ := h
  obtain ⟨M20, e21⟩ : ∃ M20, M20 = mUR M17 a0 5 (mZ M15) := ⟨_, rfl⟩
  replace h := h M20 e21
  refine wm_aload_n d_Wo_init_0 rfl rfl ?_
  refine wm_objInit trivial k1_53 kO_inst kO_code (Nat.le_of_ble_eq_true rfl) d_Wo_init_1 h1 ?_
  refine wm_aload_n d_Wo_init_4 rfl rfl ?_
  refine wm_iconst d_Wo_init_5 ?_
  have hOM2 : mOk M2 := by rw [e3]; exact mOk_New hO
  refine wm_newarrE 2 (atype := .char) (ty := .char) rfl rfl (fun _ => rfl) rfl rfl (by decide) k1_81 ⟨by decide, by decide⟩ d_Wo_init_6 e3 ?_
  have hOM5 : mOk M5 := by rw [e6]; exact mOk_UR hOM2
  refine pf_Wo_9 rfl d_Wo_init_8 h4 e6 ?_
  refine wm_aload_n d_Wo_init_11 rfl rfl ?_
  refine wm_sipush d_Wo_init_12 (by decide) ?_
  have hOM7 : mOk M7 := by rw [e8]; exact mOk_New hOM5
  refine wm_newarrE 0 (atype := .int) (ty := .int) rfl rfl (fun _ => rfl) rfl rfl (by decide) k1_82 ⟨by decide, by decide⟩ d_Wo_init_15 e8 ?_
  have hOM10 : mOk M10 := by rw [e11]; exact mOk_UR hOM7
  refine pf_Wo_15 rfl d_Wo_init_17 h9 e11 ?_
  refine wm_aload_n d_Wo_init_20 rfl rfl ?_
  refine wm_sipush d_Wo_init_21 (by decide) ?_
  have hOM12 : mOk M12 := by rw [e13]; exact mOk_New hOM10
  refine wm_newarrE 0 (atype := .int) (ty := .int) rfl rfl (fun _ => rfl) rfl rfl (by decide) k1_82 ⟨by decide, by decide⟩ d_Wo_init_24 e13 ?_
  have hOM15 : mOk M15 := by rw [e16]; exact mOk_UR hOM12
  refine pf_Wo_19 rfl d_Wo_init_26 h14 e16 ?_
  refine wm_aload_n d_Wo_init_29 rfl rfl ?_
  refine wm_sipush d_Wo_init_30 (by decide) ?_
  have hOM17 : mOk M17 := by rw [e18]; exact mOk_New hOM15
  refine wm_newarrE 0 (atype := .int) (ty := .int) rfl rfl (fun _ => rfl) rfl rfl (by decide) k1_82 ⟨by decide, by decide⟩ d_Wo_init_33 e18 ?_
  have hOM20 : mOk M20 := by rw [e21]; exact mOk_UR hOM17
  refine pf_Wo_22 rfl d_Wo_init_35 h19 e21 ?_
  refine wm_return d_Wo_init_38 rfl ?_
  exact ⟨rfl, h⟩
theorem d_Wo_split_0 : decode y_Wo_split.2.1 0 = .ok (.aload_n 0, 1) := dc9_42 (by decide +kernel)
theorem d_Wo_split_1 : decode y_Wo_split.2.1 1 = .ok (.aload_n 1, 1) := dc9_43 (by decide +kernel)
theorem d_Wo_split_2 : decode y_Wo_split.2.1 2 = .ok (.putfield 9, 3) := dc9_181 (by decide +kernel)
theorem d_Wo_split_5 : decode y_Wo_split.2.1 5 = .ok (.aload_n 0, 1) := dc9_42 (by decide +kernel)
theorem d_Wo_split_6 : decode y_Wo_split.2.1 6 = .ok (.iload_n 2, 1) := dc9_28 (by decide +kernel)
theorem d_Wo_split_7 : decode y_Wo_split.2.1 7 = .ok (.putfield 25, 3) := dc9_181 (by decide +kernel)
theorem d_Wo_split_10 : decode y_Wo_split.2.1 10 = .ok (.aload_n 0, 1) := dc9_42 (by decide +kernel)
theorem d_Wo_split_11 : decode y_Wo_split.2.1 11 = .ok (.iconst 0, 1) := dc9_3 (by decide +kernel)
theorem d_Wo_split_12 : decode y_Wo_split.2.1 12 = .ok (.putfield 29, 3) := dc9_181 (by decide +kernel)
theorem d_Wo_split_15 : decode y_Wo_split.2.1 15 = .ok (.aload_n 0, 1) := dc9_42 (by decide +kernel)
theorem d_Wo_split_16 : decode y_Wo_split.2.1 16 = .ok (.aload_n 0, 1) := dc9_42 (by decide +kernel)
theorem d_Wo_split_17 : decode y_Wo_split.2.1 17 = .ok (.getfield 25, 3) := dc9_180 (by decide +kernel)
theorem d_Wo_split_20 : decode y_Wo_split.2.1 20 = .ok (.iconst 2, 1) := dc9_5 (by decide +kernel)
theorem d_Wo_split_21 : decode y_Wo_split.2.1 21 = .ok (.iadd, 1) := dc9_96 (by decide +kernel)
theorem d_Wo_split_22 : decode y_Wo_split.2.1 22 = .ok (.invokevirtual 32, 3) := dc9_182 (by decide +kernel)
theorem d_Wo_split_25 : decode y_Wo_split.2.1 25 = .ok (.aload_n 0, 1) := dc9_42 (by decide +kernel)
theorem d_Wo_split_26 : decode y_Wo_split.2.1 26 = .ok (.iconst 0, 1) := dc9_3 (by decide +kernel)
theorem d_Wo_split_27 : decode y_Wo_split.2.1 27 = .ok (.invokevirtual 36, 3) := dc9_182 (by decide +kernel)
theorem d_Wo_split_30 : decode y_Wo_split.2.1 30 = .ok (.istore_n 3, 1) := dc9_62 (by decide +kernel)
theorem d_Wo_split_31 : decode y_Wo_split.2.1 31 = .ok (.iconst 0, 1) := dc9_3 (by decide +kernel)
theorem d_Wo_split_32 : decode y_Wo_split.2.1 32 = .ok (.istore 4, 2) := dc9_54 (by decide +kernel)
theorem d_Wo_split_34 : decode y_Wo_split.2.1 34 = .ok (.iload 4, 2) := dc9_21 (by decide +kernel)
theorem d_Wo_split_36 : decode y_Wo_split.2.1 36 = .ok (.aload_n 0, 1) := dc9_42 (by decide +kernel)
theorem d_Wo_split_37 : decode y_Wo_split.2.1 37 = .ok (.getfield 25, 3) := dc9_180 (by decide +kernel)
theorem d_Wo_split_40 : decode y_Wo_split.2.1 40 = .ok (.if_icmp .ge 27, 3) := dc9_162 (by decide +kernel)
theorem d_Wo_split_43 : decode y_Wo_split.2.1 43 = .ok (.iload_n 3, 1) := dc9_29 (by decide +kernel)
theorem d_Wo_split_44 : decode y_Wo_split.2.1 44 = .ok (.aload_n 0, 1) := dc9_42 (by decide +kernel)
theorem d_Wo_split_45 : decode y_Wo_split.2.1 45 = .ok (.getfield 25, 3) := dc9_180 (by decide +kernel)
theorem d_Wo_split_48 : decode y_Wo_split.2.1 48 = .ok (.if_icmp .ge 19, 3) := dc9_162 (by decide +kernel)
theorem d_Wo_split_51 : decode y_Wo_split.2.1 51 = .ok (.aload_n 0, 1) := dc9_42 (by decide +kernel)
theorem d_Wo_split_52 : decode y_Wo_split.2.1 52 = .ok (.aload_n 0, 1) := dc9_42 (by decide +kernel)
theorem d_Wo_split_53 : decode y_Wo_split.2.1 53 = .ok (.iload_n 3, 1) := dc9_29 (by decide +kernel)
theorem d_Wo_split_67 : decode y_Wo_split.2.1 67 = .ok (.aload_n 0, 1) := dc9_42 (by decide +kernel)
theorem d_Wo_split_68 : decode y_Wo_split.2.1 68 = .ok (.iconst 0, 1) := dc9_3 (by decide +kernel)
theorem d_Wo_split_69 : decode y_Wo_split.2.1 69 = .ok (.aload_n 0, 1) := dc9_42 (by decide +kernel)
theorem d_Wo_split_70 : decode y_Wo_split.2.1 70 = .ok (.getfield 25, 3) := dc9_180 (by decide +kernel)
theorem d_Wo_split_73 : decode y_Wo_split.2.1 73 = .ok (.iconst 0, 1) := dc9_3 (by decide +kernel)
theorem d_Wo_split_74 : decode y_Wo_split.2.1 74 = .ok (.invokevirtual 43, 3) := dc9_182 (by decide +kernel)
theorem d_Wo_split_77 : decode y_Wo_split.2.1 77 = .ok (.return_, 1) := dc9_177 (by decide +kernel)
theorem d_Wo_split_54 : decode y_Wo_split.2.1 54 = .ok (.invokevirtual 40, 3) := dc9_182 (by decide +kernel)
theorem d_Wo_split_57 : decode y_Wo_split.2.1 57 = .ok (.invokevirtual 36, 3) := dc9_182 (by decide +kernel)
theorem d_Wo_split_60 : decode y_Wo_split.2.1 60 = .ok (.istore_n 3, 1) := dc9_62 (by decide +kernel)
theorem d_Wo_split_61 : decode y_Wo_split.2.1 61 = .ok (.iinc 4 1, 3) := by decide +kernel
theorem d_Wo_split_64 : decode y_Wo_split.2.1 64 = .ok (.goto (-30), 3) := dc9_167 (by decide +kernel)
def h_Wo_split_34 (G : mG) (d : Nat) (a0 : Nat) (l3 : Int) (l4 : Int) (M : mM) (Q : mM → Prop) : Prop := mWm G y_Wo_split (d + 1) 34 [vr a0, vd, vd, vi l3, vi l4] [] M (fun r9 M9 => r9 = none ∧ Q M9)
theorem k_Wo_split {G : mG} {d : Nat} {a0 : Nat} {a1 : Nat} {l2 : Int} {M : mM} {Q : mM → Prop} (hO : mOk M) (hi_l2 : i32 l2)
    (h : mK M a0 = 2 ∧ ∀ M2, M2 = mUR M a0 0 a1 → ∀ M4, M4 = mUI M2 a0 1 l2 → ∀ M6, M6 = mUI M4 a0 2 0 → Cv G y_Wo_reserve d [vr a0, vi ((mI M6 a0 1) + 2)] M6 (fun M8 => mOk M8 ∧ (mK M8 a0 = 2 ∧ Ci G y_Wo_afterBlanks d [vr a0, vi 0] M8 (fun x13 M12 => i32 x13 ∧ mOk M12 ∧ (h_Wo_split_34 G d a0 x13 0 M12 Q))))) :
    Cv G y_Wo_split (d + 1) [vr a0, vr a1, vi l2] M Q := by
  refine wm_open (y := y_Wo_split) rfl (Nat.le_of_ble_eq_true rfl) (L := [vr a0, vr a1, vi l2, vd, vd]) rfl ?_
  obtain ⟨h1, h⟩ := h
  obtain ⟨M2, e3⟩ : ∃ M2, M2 = mUR M a0 0 a1 := ⟨_, rfl⟩
  replace h := h M2 e3
  obtain ⟨M4, e5⟩ : ∃ M4, M4 = mUI M2 a0 1 l2 := ⟨_, rfl⟩
  replace h := h M4 e5
  obtain ⟨M6, e7⟩ : ∃ M6, M6 = mUI M4 a0 2 0 := ⟨_, rfl⟩
  replace h := h M6 e7
  refine wm_aload_n d_Wo_split_0 rfl rfl ?_
  refine wm_aload_n d_Wo_split_1 rfl rfl ?_
  have hOM2 : mOk M2 := by rw [e3]; exact mOk_UR hO
  refine pf_Wo_9 rfl d_Wo_split_2 h1 e3 ?_
  refine wm_aload_n d_Wo_split_5 rfl rfl ?_
  refine wm_iload_n d_Wo_split_6 rfl rfl ?_
  have hOM4 : mOk M4 := by rw [e5]; exact mOk_UI hOM2 hi_l2
  refine pf_Wo_25 rfl d_Wo_split_7 (by rw [e3]; exact h1) hi_l2 e5 ?_
  refine wm_aload_n d_Wo_split_10 rfl rfl ?_
  refine wm_iconst d_Wo_split_11 ?_
  have hOM6 : mOk M6 := by rw [e7]; exact mOk_UI hOM4 ⟨by decide, by decide⟩
  refine pf_Wo_29 rfl d_Wo_split_12 (by rw [e5, e3]; exact h1) ⟨by decide, by decide⟩ e7 ?_
  refine wm_aload_n d_Wo_split_15 rfl rfl ?_
  refine wm_aload_n d_Wo_split_16 rfl rfl ?_
  refine gf_Wo_25 rfl d_Wo_split_17 (by rw [e7, e5, e3]; exact h1) ?_
  refine wm_iconst d_Wo_split_20 ?_
  refine wm_iadd d_Wo_split_21 ?_
  refine cf_Wo_32 rfl d_Wo_split_22 (by rw [e7, e5, e3]; exact h1) (Nat.le_of_ble_eq_true rfl) (Cv.mono h (fun M8 h => ?_))
  obtain ⟨hOM8, h⟩ := h
  obtain ⟨h11, h⟩ := h
  refine wm_aload_n d_Wo_split_25 rfl rfl ?_
  refine wm_iconst d_Wo_split_26 ?_
  refine cf_Wo_36 rfl d_Wo_split_27 h11 (Nat.le_of_ble_eq_true rfl) (Ci.mono h (fun x13 M12 h => ?_))
  obtain ⟨h14, hOM12, h⟩ := h
  refine wm_istore_n d_Wo_split_30 rfl (by decide) (L' := [vr a0, vr a1, vi l2, vi x13, vd]) rfl ?_
  refine wm_iconst d_Wo_split_31 ?_
  refine wm_istore d_Wo_split_32 (by decide) (L' := [vr a0, vr a1, vi l2, vi x13, vi 0]) rfl ?_
  refine wm_less (L' := [vr a0, vd, vd, vi x13, vi 0]) ⟨Or.inr rfl, Or.inl rfl, Or.inl rfl, Or.inr rfl, Or.inr rfl, trivial⟩ ?_
  exact h
theorem k_Wo_split_34 {G : mG} {d : Nat} {a0 : Nat} {l3 : Int} {l4 : Int} {M : mM} {Q : mM → Prop} (hO : mOk M) (hi_l3 : i32 l3) (hi_l4 : i32 l4)
    (h : mK M a0 = 2 ∧ (((mI M a0 1 ≤ l4) ∨ (mI M a0 1 ≤ l3)) → (Cv G y_Wo_add d [vr a0, vi 0, vi (mI M a0 1), vi 0] M (fun M20 => mOk M20 ∧ (Q M20)))) ∧ (¬ ((mI M a0 1 ≤ l4) ∨ (mI M a0 1 ≤ l3)) → (Ci G y_Wo_takeWord d [vr a0, vi l3] M (fun x25 M24 => i32 x25 ∧ mOk M24 ∧ (mK M24 a0 = 2 ∧ Ci G y_Wo_afterBlanks d [vr a0, vi x25] M24 (fun x29 M28 => i32 x29 ∧ mOk M28 ∧ (h_Wo_split_34 G d a0 x29 (l4 + 1) M28 Q))))))) :
    h_Wo_split_34 G d a0 l3 l4 M Q := by
  unfold h_Wo_split_34
  obtain ⟨h15, h⟩ := h
  refine wm_iload d_Wo_split_34 rfl ?_
  refine wm_aload_n d_Wo_split_36 rfl rfl ?_
  refine gf_Wo_25 rfl d_Wo_split_37 h15 ?_
  have hE0 : ((mI M a0 1 ≤ l4) ∨ (mI M a0 1 ≤ l3)) → mWm G y_Wo_split (d + 1) 67 [vr a0, vd, vd, vi l3, vi l4] [] M (fun r9 M9 => r9 = none ∧ Q M9) := by
    intro q19
    have h := h.1 q19
    refine wm_aload_n d_Wo_split_67 rfl rfl ?_
    refine wm_iconst d_Wo_split_68 ?_
    refine wm_aload_n d_Wo_split_69 rfl rfl ?_
    refine gf_Wo_25 rfl d_Wo_split_70 h15 ?_
    refine wm_iconst d_Wo_split_73 ?_
    refine cf_Wo_43 rfl d_Wo_split_74 h15 (Nat.le_of_ble_eq_true rfl) (Cv.mono h (fun M20 h => ?_))
    obtain ⟨hOM20, h⟩ := h
    refine wm_return d_Wo_split_77 rfl ?_
    exact ⟨rfl, h⟩
  have hE1 : ¬ ((mI M a0 1 ≤ l4) ∨ (mI M a0 1 ≤ l3)) → mWm G y_Wo_split (d + 1) 51 [vr a0, vd, vd, vi l3, vi l4] [] M (fun r9 M9 => r9 = none ∧ Q M9) := by
    intro q23
    have h := h.2 q23
    refine wm_aload_n d_Wo_split_51 rfl rfl ?_
    refine wm_aload_n d_Wo_split_52 rfl rfl ?_
    refine wm_iload_n d_Wo_split_53 rfl rfl ?_
    refine cf_Wo_40 rfl d_Wo_split_54 h15 (Nat.le_of_ble_eq_true rfl) (Ci.mono h (fun x25 M24 h => ?_))
    obtain ⟨h26, hOM24, h⟩ := h
    obtain ⟨h27, h⟩ := h
    refine cf_Wo_36 rfl d_Wo_split_57 h27 (Nat.le_of_ble_eq_true rfl) (Ci.mono h (fun x29 M28 h => ?_))
    obtain ⟨h30, hOM28, h⟩ := h
    refine wm_istore_n d_Wo_split_60 rfl (by decide) (L' := [vr a0, vd, vd, vi x29, vi l4]) rfl ?_
    refine wm_iinc d_Wo_split_61 (by decide) rfl (L' := [vr a0, vd, vd, vi x29, vi (l4 + 1)]) rfl ?_
    refine wm_goto (tgt := 34) d_Wo_split_64 rfl ?_
    exact h
  clear h
  refine wm_icmp_ge (tgt := 67) d_Wo_split_40 rfl hi_l4 (hO _ _).1 (fun c17 => ?_) (fun c17 => ?_)
  · exact hE0 (Or.inl c17)
  · refine wm_iload_n d_Wo_split_43 rfl rfl ?_
    refine wm_aload_n d_Wo_split_44 rfl rfl ?_
    refine gf_Wo_25 rfl d_Wo_split_45 h15 ?_
    refine wm_icmp_ge (tgt := 67) d_Wo_split_48 rfl hi_l3 (hO _ _).1 (fun c16 => ?_) (fun c16 => ?_)
    · exact hE0 (Or.inr c16)
    · exact hE1 (fun z31 => Or.elim z31 c17 c16)
theorem d_Wo_reserve_0 : decode y_Wo_reserve.2.1 0 = .ok (.aload_n 0, 1) := dc9_42 (by decide +kernel)
theorem d_Wo_reserve_1 : decode y_Wo_reserve.2.1 1 = .ok (.getfield 15, 3) := dc9_180 (by decide +kernel)
theorem d_Wo_reserve_4 : decode y_Wo_reserve.2.1 4 = .ok (.arraylength, 1) := dc9_190 (by decide +kernel)
theorem d_Wo_reserve_5 : decode y_Wo_reserve.2.1 5 = .ok (.istore_n 2, 1) := dc9_61 (by decide +kernel)
theorem d_Wo_reserve_6 : decode y_Wo_reserve.2.1 6 = .ok (.iconst 0, 1) := dc9_3 (by decide +kernel)
theorem d_Wo_reserve_7 : decode y_Wo_reserve.2.1 7 = .ok (.istore_n 3, 1) := dc9_62 (by decide +kernel)
theorem d_Wo_reserve_8 : decode y_Wo_reserve.2.1 8 = .ok (.iload_n 3, 1) := dc9_29 (by decide +kernel)
theorem d_Wo_reserve_9 : decode y_Wo_reserve.2.1 9 = .ok (.bipush 31, 2) := dc9_16 (by decide +kernel)
theorem d_Wo_reserve_11 : decode y_Wo_reserve.2.1 11 = .ok (.if_icmp .ge 18, 3) := dc9_162 (by decide +kernel)
theorem d_Wo_reserve_14 : decode y_Wo_reserve.2.1 14 = .ok (.iload_n 2, 1) := dc9_28 (by decide +kernel)
theorem d_Wo_reserve_15 : decode y_Wo_reserve.2.1 15 = .ok (.iload_n 1, 1) := dc9_27 (by decide +kernel)
theorem d_Wo_reserve_16 : decode y_Wo_reserve.2.1 16 = .ok (.if_icmp .ge 13, 3) := dc9_162 (by decide +kernel)
theorem d_Wo_reserve_19 : decode y_Wo_reserve.2.1 19 = .ok (.iload_n 2, 1) := dc9_28 (by decide +kernel)
theorem d_Wo_reserve_20 : decode y_Wo_reserve.2.1 20 = .ok (.iconst 2, 1) := dc9_5 (by decide +kernel)
theorem d_Wo_reserve_21 : decode y_Wo_reserve.2.1 21 = .ok (.imul, 1) := dc9_104 (by decide +kernel)
theorem d_Wo_reserve_22 : decode y_Wo_reserve.2.1 22 = .ok (.istore_n 2, 1) := dc9_61 (by decide +kernel)
theorem d_Wo_reserve_23 : decode y_Wo_reserve.2.1 23 = .ok (.iinc 3 1, 3) := by decide +kernel
theorem d_Wo_reserve_26 : decode y_Wo_reserve.2.1 26 = .ok (.goto (-18), 3) := dc9_167 (by decide +kernel)
theorem d_Wo_reserve_29 : decode y_Wo_reserve.2.1 29 = .ok (.iload_n 2, 1) := dc9_28 (by decide +kernel)
theorem d_Wo_reserve_30 : decode y_Wo_reserve.2.1 30 = .ok (.aload_n 0, 1) := dc9_42 (by decide +kernel)
theorem d_Wo_reserve_31 : decode y_Wo_reserve.2.1 31 = .ok (.getfield 15, 3) := dc9_180 (by decide +kernel)
theorem d_Wo_reserve_34 : decode y_Wo_reserve.2.1 34 = .ok (.arraylength, 1) := dc9_190 (by decide +kernel)
theorem d_Wo_reserve_35 : decode y_Wo_reserve.2.1 35 = .ok (.if_icmp .le 24, 3) := dc9_164 (by decide +kernel)
theorem d_Wo_reserve_38 : decode y_Wo_reserve.2.1 38 = .ok (.aload_n 0, 1) := dc9_42 (by decide +kernel)
theorem d_Wo_reserve_39 : decode y_Wo_reserve.2.1 39 = .ok (.iload_n 2, 1) := dc9_28 (by decide +kernel)
theorem d_Wo_reserve_59 : decode y_Wo_reserve.2.1 59 = .ok (.return_, 1) := dc9_177 (by decide +kernel)
theorem d_Wo_reserve_40 : decode y_Wo_reserve.2.1 40 = .ok (.newarray .int, 2) := by decide +kernel
theorem d_Wo_reserve_42 : decode y_Wo_reserve.2.1 42 = .ok (.putfield 15, 3) := dc9_181 (by decide +kernel)
theorem d_Wo_reserve_45 : decode y_Wo_reserve.2.1 45 = .ok (.aload_n 0, 1) := dc9_42 (by decide +kernel)
theorem d_Wo_reserve_46 : decode y_Wo_reserve.2.1 46 = .ok (.iload_n 2, 1) := dc9_28 (by decide +kernel)
theorem d_Wo_reserve_47 : decode y_Wo_reserve.2.1 47 = .ok (.newarray .int, 2) := by decide +kernel
theorem d_Wo_reserve_49 : decode y_Wo_reserve.2.1 49 = .ok (.putfield 19, 3) := dc9_181 (by decide +kernel)
theorem d_Wo_reserve_52 : decode y_Wo_reserve.2.1 52 = .ok (.aload_n 0, 1) := dc9_42 (by decide +kernel)
theorem d_Wo_reserve_53 : decode y_Wo_reserve.2.1 53 = .ok (.iload_n 2, 1) := dc9_28 (by decide +kernel)
theorem d_Wo_reserve_54 : decode y_Wo_reserve.2.1 54 = .ok (.newarray .int, 2) := by decide +kernel
theorem d_Wo_reserve_56 : decode y_Wo_reserve.2.1 56 = .ok (.putfield 22, 3) := dc9_181 (by decide +kernel)
def h_Wo_reserve_8 (G : mG) (d : Nat) (a0 : Nat) (l1 : Int) (l2 : Int) (l3 : Int) (M : mM) (Q : mM → Prop) : Prop := mWm G y_Wo_reserve d 8 [vr a0, vi l1, vi l2, vi l3] [] M (fun r9 M9 => r9 = none ∧ Q M9)
theorem k_Wo_reserve {G : mG} {d : Nat} {a0 : Nat} {l1 : Int} {M : mM} {Q : mM → Prop} (hO : mOk M) (hi_l1 : i32 l1)
    (h : mK M a0 = 2 ∧ mK M (mR M a0 3) = 30 ∧ h_Wo_reserve_8 G d a0 l1 (mN M (mR M a0 3) : Int) 0 M Q) :
    Cv G y_Wo_reserve d [vr a0, vi l1] M Q := by
  refine wm_open (y := y_Wo_reserve) rfl (Nat.le_of_ble_eq_true rfl) (L := [vr a0, vi l1, vd, vd]) rfl ?_
  obtain ⟨h1, h⟩ := h
  obtain ⟨h2, h⟩ := h
  refine wm_aload_n d_Wo_reserve_0 rfl rfl ?_
  refine gf_Wo_15 rfl d_Wo_reserve_1 h1 ?_
  refine wm_alen 0 rfl (fun _ => rfl) d_Wo_reserve_4 h2 ?_
  refine wm_istore_n d_Wo_reserve_5 rfl (by decide) (L' := [vr a0, vi l1, vi (mN M (mR M a0 3) : Int), vd]) rfl ?_
  refine wm_iconst d_Wo_reserve_6 ?_
  refine wm_istore_n d_Wo_reserve_7 rfl (by decide) (L' := [vr a0, vi l1, vi (mN M (mR M a0 3) : Int), vi 0]) rfl ?_
  exact h
theorem k_Wo_reserve_8 {G : mG} {d : Nat} {a0 : Nat} {l1 : Int} {l2 : Int} {l3 : Int} {M : mM} {Q : mM → Prop} (hO : mOk M) (hi_l1 : i32 l1) (hi_l2 : i32 l2) (hi_l3 : i32 l3)
    (h : (((31 ≤ l3) ∨ (l1 ≤ l2)) → (mK M a0 = 2 ∧ mK M (mR M a0 3) = 30 ∧ i32 (mN M (mR M a0 3) : Int) ∧ ((l2 ≤ (mN M (mR M a0 3) : Int)) → (Q M)) ∧ (¬ (l2 ≤ (mN M (mR M a0 3) : Int)) → (((0 : Int) ≤ l2 ∧ l2 ≤ 16777216) ∧ ∀ M16, M16 = mNew M 30 (Int.toNat l2) (Int.toNat l2) → mK M16 a0 = 2 ∧ ∀ M19, M19 = mUR M16 a0 3 (mZ M) → ((0 : Int) ≤ l2 ∧ l2 ≤ 16777216) ∧ ∀ M22, M22 = mNew M19 30 (Int.toNat l2) (Int.toNat l2) → mK M22 a0 = 2 ∧ ∀ M25, M25 = mUR M22 a0 4 (mZ M19) → ((0 : Int) ≤ l2 ∧ l2 ≤ 16777216) ∧ ∀ M28, M28 = mNew M25 30 (Int.toNat l2) (Int.toNat l2) → mK M28 a0 = 2 ∧ ∀ M31, M31 = mUR M28 a0 5 (mZ M25) → Q M31)))) ∧ (¬ ((31 ≤ l3) ∨ (l1 ≤ l2)) → (h_Wo_reserve_8 G d a0 l1 (l2 * 2) (l3 + 1) M Q))) :
    h_Wo_reserve_8 G d a0 l1 l2 l3 M Q := by
  unfold h_Wo_reserve_8
  refine wm_iload_n d_Wo_reserve_8 rfl rfl ?_
  refine wm_bipush d_Wo_reserve_9 (by decide) ?_
  have hE0 : ((31 ≤ l3) ∨ (l1 ≤ l2)) → mWm G y_Wo_reserve d 29 [vr a0, vi l1, vi l2, vi l3] [] M (fun r9 M9 => r9 = none ∧ Q M9) := by
    intro q6
    have h := h.1 q6
    obtain ⟨h7, h⟩ := h
    obtain ⟨h8, h⟩ := h
    obtain ⟨h13, h⟩ := h
    refine wm_iload_n d_Wo_reserve_29 rfl rfl ?_
    refine wm_aload_n d_Wo_reserve_30 rfl rfl ?_
    refine gf_Wo_15 rfl d_Wo_reserve_31 h7 ?_
    refine wm_alen 0 rfl (fun _ => rfl) d_Wo_reserve_34 h8 ?_
    refine wm_icmp_le (tgt := 59) d_Wo_reserve_35 rfl hi_l2 h13 (fun c14 => ?_) (fun c14 => ?_)
    · replace h := h.1 c14
      refine wm_return d_Wo_reserve_59 rfl ?_
      exact ⟨rfl, h⟩
    · replace h := h.2 c14
      obtain ⟨h15, h⟩ := h
      obtain ⟨M16, e17⟩ : ∃ M16, M16 = mNew M 30 (Int.toNat l2) (Int.toNat l2) := ⟨_, rfl⟩
      replace h := h M16 e17
      obtain ⟨h18, h⟩ := h
      obtain ⟨M19, e20⟩ : ∃ M19, M19 = mUR M16 a0 3 (mZ M) := ⟨_, rfl⟩
      replace h := h M19 e20
      obtain ⟨h21, h⟩ := h
      obtain ⟨M22, e23⟩ : ∃ M22, M22 = mNew M19 30 (Int.toNat l2) (Int.toNat l2) := ⟨_, rfl⟩
      replace h := h M22 e23
      obtain ⟨h24, h⟩ := h
      obtain ⟨M25, e26⟩ : ∃ M25, M25 = mUR M22 a0 4 (mZ M19) := ⟨_, rfl⟩
      replace h := h M25 e26
      obtain ⟨h27, h⟩ := h
      obtain ⟨M28, e29⟩ : ∃ M28, M28 = mNew M25 30 (Int.toNat l2) (Int.toNat l2) := ⟨_, rfl⟩
      replace h := h M28 e29
      obtain ⟨h30, h⟩ := h
      obtain ⟨M31, e32⟩ : ∃ M31, M31 = mUR M28 a0 5 (mZ M25) := ⟨_, rfl⟩
      replace h := h M31 e32
      refine wm_aload_n d_Wo_reserve_38 rfl rfl ?_
      refine wm_iload_n d_Wo_reserve_39 rfl rfl ?_
      have hOM16 : mOk M16 := by rw [e17]; exact mOk_New hO
      refine wm_newarrE 0 (atype := .int) (ty := .int) rfl rfl (fun _ => rfl) rfl rfl (by decide) k1_82 h15 d_Wo_reserve_40 e17 ?_
      have hOM19 : mOk M19 := by rw [e20]; exact mOk_UR hOM16
      refine pf_Wo_15 rfl d_Wo_reserve_42 h18 e20 ?_
      refine wm_aload_n d_Wo_reserve_45 rfl rfl ?_
      refine wm_iload_n d_Wo_reserve_46 rfl rfl ?_
      have hOM22 : mOk M22 := by rw [e23]; exact mOk_New hOM19
      refine wm_newarrE 0 (atype := .int) (ty := .int) rfl rfl (fun _ => rfl) rfl rfl (by decide) k1_82 h21 d_Wo_reserve_47 e23 ?_
      have hOM25 : mOk M25 := by rw [e26]; exact mOk_UR hOM22
      refine pf_Wo_19 rfl d_Wo_reserve_49 h24 e26 ?_
      refine wm_aload_n d_Wo_reserve_52 rfl rfl ?_
      refine wm_iload_n d_Wo_reserve_53 rfl rfl ?_
      have hOM28 : mOk M28 := by rw [e29]; exact mOk_New hOM25
      refine wm_newarrE 0 (atype := .int) (ty := .int) rfl rfl (fun _ => rfl) rfl rfl (by decide) k1_82 h27 d_Wo_reserve_54 e29 ?_
      have hOM31 : mOk M31 := by rw [e32]; exact mOk_UR hOM28
      refine pf_Wo_22 rfl d_Wo_reserve_56 h30 e32 ?_
      refine wm_return d_Wo_reserve_59 rfl ?_
      exact ⟨rfl, h⟩
  have hE1 : ¬ ((31 ≤ l3) ∨ (l1 ≤ l2)) → mWm G y_Wo_reserve d 19 [vr a0, vi l1, vi l2, vi l3] [] M (fun r9 M9 => r9 = none ∧ Q M9) := by
    intro q33
    have h := h.2 q33
    refine wm_iload_n d_Wo_reserve_19 rfl rfl ?_
    refine wm_iconst d_Wo_reserve_20 ?_
    refine wm_imul d_Wo_reserve_21 ?_
    refine wm_istore_n d_Wo_reserve_22 rfl (by decide) (L' := [vr a0, vi l1, vi (l2 * 2), vi l3]) rfl ?_
    refine wm_iinc d_Wo_reserve_23 (by decide) rfl (L' := [vr a0, vi l1, vi (l2 * 2), vi (l3 + 1)]) rfl ?_
    refine wm_goto (tgt := 8) d_Wo_reserve_26 rfl ?_
    exact h
  clear h
  refine wm_icmp_ge (tgt := 29) d_Wo_reserve_11 rfl hi_l3 ⟨by decide, by decide⟩ (fun c4 => ?_) (fun c4 => ?_)
  · exact hE0 (Or.inl c4)
  · refine wm_iload_n d_Wo_reserve_14 rfl rfl ?_
    refine wm_iload_n d_Wo_reserve_15 rfl rfl ?_
    refine wm_icmp_ge (tgt := 29) d_Wo_reserve_16 rfl hi_l2 hi_l1 (fun c3 => ?_) (fun c3 => ?_)
    · exact hE0 (Or.inr c3)
    · exact hE1 (fun z34 => Or.elim z34 c4 c3)
theorem d_Wo_add_0 : decode y_Wo_add.2.1 0 = .ok (.aload_n 0, 1) := dc9_42 (by decide +kernel)
theorem d_Wo_add_1 : decode y_Wo_add.2.1 1 = .ok (.getfield 15, 3) := dc9_180 (by decide +kernel)
theorem d_Wo_add_4 : decode y_Wo_add.2.1 4 = .ok (.aload_n 0, 1) := dc9_42 (by decide +kernel)
theorem d_Wo_add_5 : decode y_Wo_add.2.1 5 = .ok (.getfield 29, 3) := dc9_180 (by decide +kernel)
theorem d_Wo_add_8 : decode y_Wo_add.2.1 8 = .ok (.iload_n 1, 1) := dc9_27 (by decide +kernel)
theorem d_Wo_add_9 : decode y_Wo_add.2.1 9 = .ok (.iastore, 1) := dc9_79 (by decide +kernel)
theorem d_Wo_add_10 : decode y_Wo_add.2.1 10 = .ok (.aload_n 0, 1) := dc9_42 (by decide +kernel)
theorem d_Wo_add_11 : decode y_Wo_add.2.1 11 = .ok (.getfield 19, 3) := dc9_180 (by decide +kernel)
theorem d_Wo_add_14 : decode y_Wo_add.2.1 14 = .ok (.aload_n 0, 1) := dc9_42 (by decide +kernel)
theorem d_Wo_add_15 : decode y_Wo_add.2.1 15 = .ok (.getfield 29, 3) := dc9_180 (by decide +kernel)
theorem d_Wo_add_18 : decode y_Wo_add.2.1 18 = .ok (.iload_n 2, 1) := dc9_28 (by decide +kernel)
theorem d_Wo_add_19 : decode y_Wo_add.2.1 19 = .ok (.iastore, 1) := dc9_79 (by decide +kernel)
theorem d_Wo_add_20 : decode y_Wo_add.2.1 20 = .ok (.aload_n 0, 1) := dc9_42 (by decide +kernel)
theorem d_Wo_add_21 : decode y_Wo_add.2.1 21 = .ok (.getfield 22, 3) := dc9_180 (by decide +kernel)
theorem d_Wo_add_24 : decode y_Wo_add.2.1 24 = .ok (.aload_n 0, 1) := dc9_42 (by decide +kernel)
theorem d_Wo_add_25 : decode y_Wo_add.2.1 25 = .ok (.getfield 29, 3) := dc9_180 (by decide +kernel)
theorem d_Wo_add_28 : decode y_Wo_add.2.1 28 = .ok (.iload_n 3, 1) := dc9_29 (by decide +kernel)
theorem d_Wo_add_29 : decode y_Wo_add.2.1 29 = .ok (.iastore, 1) := dc9_79 (by decide +kernel)
theorem d_Wo_add_30 : decode y_Wo_add.2.1 30 = .ok (.aload_n 0, 1) := dc9_42 (by decide +kernel)
theorem d_Wo_add_31 : decode y_Wo_add.2.1 31 = .ok (.dup, 1) := dc9_89 (by decide +kernel)
theorem d_Wo_add_32 : decode y_Wo_add.2.1 32 = .ok (.getfield 29, 3) := dc9_180 (by decide +kernel)
theorem d_Wo_add_35 : decode y_Wo_add.2.1 35 = .ok (.iconst 1, 1) := dc9_4 (by decide +kernel)
theorem d_Wo_add_36 : decode y_Wo_add.2.1 36 = .ok (.iadd, 1) := dc9_96 (by decide +kernel)
theorem d_Wo_add_37 : decode y_Wo_add.2.1 37 = .ok (.putfield 29, 3) := dc9_181 (by decide +kernel)
theorem d_Wo_add_40 : decode y_Wo_add.2.1 40 = .ok (.return_, 1) := dc9_177 (by decide +kernel)
theorem k_Wo_add {G : mG} {d : Nat} {a0 : Nat} {l1 : Int} {l2 : Int} {l3 : Int} {M : mM} {Q : mM → Prop} (hO : mOk M) (hi_l1 : i32 l1) (hi_l2 : i32 l2) (hi_l3 : i32 l3)
    (h : mK M a0 = 2 ∧ mK M (mR M a0 3) = 30 ∧ ((0 : Int) ≤ mI M a0 2 ∧ mI M a0 2 < (mN M (mR M a0 3) : Int)) ∧ ∀ M4, M4 = mUI M (mR M a0 3) (Int.toNat (mI M a0 2)) l1 → mK M4 (mR M4 a0 4) = 30 ∧ ((0 : Int) ≤ mI M4 a0 2 ∧ mI M4 a0 2 < (mN M4 (mR M4 a0 4) : Int)) ∧ ∀ M8, M8 = mUI M4 (mR M4 a0 4) (Int.toNat (mI M4 a0 2)) l2 → mK M8 (mR M8 a0 5) = 30 ∧ ((0 : Int) ≤ mI M8 a0 2 ∧ mI M8 a0 2 < (mN M8 (mR M8 a0 5) : Int)) ∧ ∀ M12, M12 = mUI M8 (mR M8 a0 5) (Int.toNat (mI M8 a0 2)) l3 → i32 ((mI M12 a0 2) + 1) ∧ ∀ M15, M15 = mUI M12 a0 2 ((mI M12 a0 2) + 1) → Q M15) :
    Cv G y_Wo_add d [vr a0, vi l1, vi l2, vi l3] M Q := by
  refine wm_open (y := y_Wo_add) rfl (Nat.le_of_ble_eq_true rfl) (L := [vr a0, vi l1, vi l2, vi l3]) rfl ?_
  obtain ⟨h1, h⟩ := h
  obtain ⟨h2, h⟩ := h
  obtain ⟨h3, h⟩ := h
  obtain ⟨M4, e5⟩ : ∃ M4, M4 = mUI M (mR M a0 3) (Int.toNat (mI M a0 2)) l1 := ⟨_, rfl⟩
  replace h := h M4 e5
  obtain ⟨h6, h⟩ := h
  obtain ⟨h7, h⟩ := h
  obtain ⟨M8, e9⟩ : ∃ M8, M8 = mUI M4 (mR M4 a0 4) (Int.toNat (mI M4 a0 2)) l2 := ⟨_, rfl⟩
  replace h := h M8 e9
  obtain ⟨h10, h⟩ := h
  obtain ⟨h11, h⟩ := h
  obtain ⟨M12, e13⟩ : ∃ M12, M12 = mUI M8 (mR M8 a0 5) (Int.toNat (mI M8 a0 2)) l3 := ⟨_, rfl⟩
  replace h := h M12 e13
  obtain ⟨h14, h⟩ := h
  obtain ⟨M15, e16⟩ : ∃ M15, M15 = mUI M12 a0 2 ((mI M12 a0 2) + 1) := ⟨_, rfl⟩
  replace h := h M15 e16
  refine wm_aload_n d_Wo_add_0 rfl rfl ?_
  refine gf_Wo_15 rfl d_Wo_add_1 h1 ?_
  refine wm_aload_n d_Wo_add_4 rfl rfl ?_
  refine gf_Wo_29 rfl d_Wo_add_5 h1 ?_
  refine wm_iload_n d_Wo_add_8 rfl rfl ?_
  have hOM4 : mOk M4 := by rw [e5]; exact mOk_UI hO hi_l1
  refine wm_iastE d_Wo_add_9 h2 h3 hi_l1 e5 ?_
  refine wm_aload_n d_Wo_add_10 rfl rfl ?_
  refine gf_Wo_19 rfl d_Wo_add_11 (by rw [e5]; exact h1) ?_
  refine wm_aload_n d_Wo_add_14 rfl rfl ?_
  refine gf_Wo_29 rfl d_Wo_add_15 (by rw [e5]; exact h1) ?_
  refine wm_iload_n d_Wo_add_18 rfl rfl ?_
  have hOM8 : mOk M8 := by rw [e9]; exact mOk_UI hOM4 hi_l2
  refine wm_iastE d_Wo_add_19 h6 h7 hi_l2 e9 ?_
  refine wm_aload_n d_Wo_add_20 rfl rfl ?_
  refine gf_Wo_22 rfl d_Wo_add_21 (by rw [e9, e5]; exact h1) ?_
  refine wm_aload_n d_Wo_add_24 rfl rfl ?_
  refine gf_Wo_29 rfl d_Wo_add_25 (by rw [e9, e5]; exact h1) ?_
  refine wm_iload_n d_Wo_add_28 rfl rfl ?_
  have hOM12 : mOk M12 := by rw [e13]; exact mOk_UI hOM8 hi_l3
  refine wm_iastE d_Wo_add_29 h10 h11 hi_l3 e13 ?_
  refine wm_aload_n d_Wo_add_30 rfl rfl ?_
  refine wm_dup d_Wo_add_31 rfl ?_
  refine gf_Wo_29 rfl d_Wo_add_32 (by rw [e13, e9, e5]; exact h1) ?_
  refine wm_iconst d_Wo_add_35 ?_
  refine wm_iadd d_Wo_add_36 ?_
  have hOM15 : mOk M15 := by rw [e16]; exact mOk_UI hOM12 h14
  refine pf_Wo_29 rfl d_Wo_add_37 (by rw [e13, e9, e5]; exact h1) h14 e16 ?_
  refine wm_return d_Wo_add_40 rfl ?_
  exact ⟨rfl, h⟩
theorem d_Wo_afterBlanks_0 : decode y_Wo_afterBlanks.2.1 0 = .ok (.iconst 0, 1) := dc9_3 (by decide +kernel)
theorem d_Wo_afterBlanks_1 : decode y_Wo_afterBlanks.2.1 1 = .ok (.istore_n 2, 1) := dc9_61 (by decide +kernel)
theorem d_Wo_afterBlanks_2 : decode y_Wo_afterBlanks.2.1 2 = .ok (.iload_n 1, 1) := dc9_27 (by decide +kernel)
theorem d_Wo_afterBlanks_3 : decode y_Wo_afterBlanks.2.1 3 = .ok (.istore_n 3, 1) := dc9_62 (by decide +kernel)
theorem d_Wo_afterBlanks_4 : decode y_Wo_afterBlanks.2.1 4 = .ok (.iload_n 3, 1) := dc9_29 (by decide +kernel)
theorem d_Wo_afterBlanks_5 : decode y_Wo_afterBlanks.2.1 5 = .ok (.aload_n 0, 1) := dc9_42 (by decide +kernel)
theorem d_Wo_afterBlanks_6 : decode y_Wo_afterBlanks.2.1 6 = .ok (.getfield 25, 3) := dc9_180 (by decide +kernel)
theorem d_Wo_afterBlanks_9 : decode y_Wo_afterBlanks.2.1 9 = .ok (.if_icmp .ge 75, 3) := dc9_162 (by decide +kernel)
theorem d_Wo_afterBlanks_84 : decode y_Wo_afterBlanks.2.1 84 = .ok (.aload_n 0, 1) := dc9_42 (by decide +kernel)
theorem d_Wo_afterBlanks_85 : decode y_Wo_afterBlanks.2.1 85 = .ok (.getfield 25, 3) := dc9_180 (by decide +kernel)
theorem d_Wo_afterBlanks_88 : decode y_Wo_afterBlanks.2.1 88 = .ok (.ireturn, 1) := dc9_172 (by decide +kernel)
theorem d_Wo_afterBlanks_12 : decode y_Wo_afterBlanks.2.1 12 = .ok (.aload_n 0, 1) := dc9_42 (by decide +kernel)
theorem d_Wo_afterBlanks_13 : decode y_Wo_afterBlanks.2.1 13 = .ok (.getfield 9, 3) := dc9_180 (by decide +kernel)
theorem d_Wo_afterBlanks_16 : decode y_Wo_afterBlanks.2.1 16 = .ok (.iload_n 3, 1) := dc9_29 (by decide +kernel)
theorem d_Wo_afterBlanks_17 : decode y_Wo_afterBlanks.2.1 17 = .ok (.caload, 1) := dc9_52 (by decide +kernel)
theorem d_Wo_afterBlanks_18 : decode y_Wo_afterBlanks.2.1 18 = .ok (.istore 4, 2) := dc9_54 (by decide +kernel)
theorem d_Wo_afterBlanks_20 : decode y_Wo_afterBlanks.2.1 20 = .ok (.iload 4, 2) := dc9_21 (by decide +kernel)
theorem d_Wo_afterBlanks_22 : decode y_Wo_afterBlanks.2.1 22 = .ok (.bipush 35, 2) := dc9_16 (by decide +kernel)
theorem d_Wo_afterBlanks_24 : decode y_Wo_afterBlanks.2.1 24 = .ok (.if_icmp .eq 14, 3) := dc9_159 (by decide +kernel)
theorem d_Wo_afterBlanks_38 : decode y_Wo_afterBlanks.2.1 38 = .ok (.iconst 1, 1) := dc9_4 (by decide +kernel)
theorem d_Wo_afterBlanks_39 : decode y_Wo_afterBlanks.2.1 39 = .ok (.goto 4, 3) := dc9_167 (by decide +kernel)
theorem d_Wo_afterBlanks_27 : decode y_Wo_afterBlanks.2.1 27 = .ok (.iload_n 2, 1) := dc9_28 (by decide +kernel)
theorem d_Wo_afterBlanks_28 : decode y_Wo_afterBlanks.2.1 28 = .ok (.ifCond .eq 14, 3) := dc9_153 (by decide +kernel)
theorem d_Wo_afterBlanks_42 : decode y_Wo_afterBlanks.2.1 42 = .ok (.iconst 0, 1) := dc9_3 (by decide +kernel)
theorem d_Wo_afterBlanks_31 : decode y_Wo_afterBlanks.2.1 31 = .ok (.iload 4, 2) := dc9_21 (by decide +kernel)
theorem d_Wo_afterBlanks_33 : decode y_Wo_afterBlanks.2.1 33 = .ok (.bipush 10, 2) := dc9_16 (by decide +kernel)
theorem d_Wo_afterBlanks_35 : decode y_Wo_afterBlanks.2.1 35 = .ok (.if_icmp .eq 7, 3) := dc9_159 (by decide +kernel)
theorem d_Wo_afterBlanks_43 : decode y_Wo_afterBlanks.2.1 43 = .ok (.istore_n 2, 1) := dc9_61 (by decide +kernel)
theorem d_Wo_afterBlanks_44 : decode y_Wo_afterBlanks.2.1 44 = .ok (.iload_n 2, 1) := dc9_28 (by decide +kernel)
theorem d_Wo_afterBlanks_45 : decode y_Wo_afterBlanks.2.1 45 = .ok (.ifCond .ne 33, 3) := dc9_154 (by decide +kernel)
theorem d_Wo_afterBlanks_48 : decode y_Wo_afterBlanks.2.1 48 = .ok (.iload 4, 2) := dc9_21 (by decide +kernel)
theorem d_Wo_afterBlanks_50 : decode y_Wo_afterBlanks.2.1 50 = .ok (.bipush 9, 2) := dc9_16 (by decide +kernel)
theorem d_Wo_afterBlanks_52 : decode y_Wo_afterBlanks.2.1 52 = .ok (.if_icmp .eq 26, 3) := dc9_159 (by decide +kernel)
theorem d_Wo_afterBlanks_55 : decode y_Wo_afterBlanks.2.1 55 = .ok (.iload 4, 2) := dc9_21 (by decide +kernel)
theorem d_Wo_afterBlanks_57 : decode y_Wo_afterBlanks.2.1 57 = .ok (.bipush 10, 2) := dc9_16 (by decide +kernel)
theorem d_Wo_afterBlanks_59 : decode y_Wo_afterBlanks.2.1 59 = .ok (.if_icmp .eq 19, 3) := dc9_159 (by decide +kernel)
theorem d_Wo_afterBlanks_62 : decode y_Wo_afterBlanks.2.1 62 = .ok (.iload 4, 2) := dc9_21 (by decide +kernel)
theorem d_Wo_afterBlanks_64 : decode y_Wo_afterBlanks.2.1 64 = .ok (.bipush 13, 2) := dc9_16 (by decide +kernel)
theorem d_Wo_afterBlanks_66 : decode y_Wo_afterBlanks.2.1 66 = .ok (.if_icmp .eq 12, 3) := dc9_159 (by decide +kernel)
theorem d_Wo_afterBlanks_69 : decode y_Wo_afterBlanks.2.1 69 = .ok (.iload 4, 2) := dc9_21 (by decide +kernel)
theorem d_Wo_afterBlanks_71 : decode y_Wo_afterBlanks.2.1 71 = .ok (.bipush 32, 2) := dc9_16 (by decide +kernel)
theorem d_Wo_afterBlanks_73 : decode y_Wo_afterBlanks.2.1 73 = .ok (.if_icmp .eq 5, 3) := dc9_159 (by decide +kernel)
theorem d_Wo_afterBlanks_76 : decode y_Wo_afterBlanks.2.1 76 = .ok (.iload_n 3, 1) := dc9_29 (by decide +kernel)
theorem d_Wo_afterBlanks_77 : decode y_Wo_afterBlanks.2.1 77 = .ok (.ireturn, 1) := dc9_172 (by decide +kernel)
theorem d_Wo_afterBlanks_78 : decode y_Wo_afterBlanks.2.1 78 = .ok (.iinc 3 1, 3) := by decide +kernel
theorem d_Wo_afterBlanks_81 : decode y_Wo_afterBlanks.2.1 81 = .ok (.goto (-77), 3) := dc9_167 (by decide +kernel)
def h_Wo_afterBlanks_4 (G : mG) (d : Nat) (a0 : Nat) (l2 : Int) (l3 : Int) (M : mM) (Q : Int → mM → Prop) : Prop := mWm G y_Wo_afterBlanks d 4 [vr a0, vd, vi l2, vi l3, vd] [] M (fun r9 M9 => ∃ x9, r9 = some (vi x9) ∧ Q x9 M9)
theorem k_Wo_afterBlanks {G : mG} {d : Nat} {a0 : Nat} {l1 : Int} {M : mM} {Q : Int → mM → Prop} (hO : mOk M) (hi_l1 : i32 l1)
    (h : h_Wo_afterBlanks_4 G d a0 0 l1 M Q) :
    Ci G y_Wo_afterBlanks d [vr a0, vi l1] M Q := by
  refine wm_open (y := y_Wo_afterBlanks) rfl (Nat.le_of_ble_eq_true rfl) (L := [vr a0, vi l1, vd, vd, vd]) rfl ?_
  refine wm_iconst d_Wo_afterBlanks_0 ?_
  refine wm_istore_n d_Wo_afterBlanks_1 rfl (by decide) (L' := [vr a0, vi l1, vi 0, vd, vd]) rfl ?_
  refine wm_iload_n d_Wo_afterBlanks_2 rfl rfl ?_
  refine wm_istore_n d_Wo_afterBlanks_3 rfl (by decide) (L' := [vr a0, vi l1, vi 0, vi l1, vd]) rfl ?_
  refine wm_less (L' := [vr a0, vd, vi 0, vi l1, vd]) ⟨Or.inr rfl, Or.inl rfl, Or.inr rfl, Or.inr rfl, Or.inl rfl, trivial⟩ ?_
  exact h
theorem k_Wo_afterBlanks_4 {G : mG} {d : Nat} {a0 : Nat} {l2 : Int} {l3 : Int} {M : mM} {Q : Int → mM → Prop} (hO : mOk M) (hi_l2 : i32 l2) (hi_l3 : i32 l3)
    (h : mK M a0 = 2 ∧ ((mI M a0 1 ≤ l3) → (Q (mI M a0 1) M)) ∧ (¬ (mI M a0 1 ≤ l3) → (mK M (mR M a0 0) = 32 ∧ ((0 : Int) ≤ l3 ∧ l3 < (mN M (mR M a0 0) : Int)) ∧ ∀ v11 : Int, v11 = (if ((mI M (mR M a0 0) (Int.toNat l3) = 35) ∨ ((¬ (l2 = 0)) ∧ (¬ (mI M (mR M a0 0) (Int.toNat l3) = 10)))) then 1 else 0) → (((¬ (v11 = 0)) ∨ ((mI M (mR M a0 0) (Int.toNat l3) = 9) ∨ ((mI M (mR M a0 0) (Int.toNat l3) = 10) ∨ ((mI M (mR M a0 0) (Int.toNat l3) = 13) ∨ (mI M (mR M a0 0) (Int.toNat l3) = 32))))) → (h_Wo_afterBlanks_4 G d a0 v11 (l3 + 1) M Q)) ∧ (¬ ((¬ (v11 = 0)) ∨ ((mI M (mR M a0 0) (Int.toNat l3) = 9) ∨ ((mI M (mR M a0 0) (Int.toNat l3) = 10) ∨ ((mI M (mR M a0 0) (Int.toNat l3) = 13) ∨ (mI M (mR M a0 0) (Int.toNat l3) = 32))))) → (Q l3 M))))) :
    h_Wo_afterBlanks_4 G d a0 l2 l3 M Q := by
  unfold h_Wo_afterBlanks_4
  obtain ⟨h1, h⟩ := h
  refine wm_iload_n d_Wo_afterBlanks_4 rfl rfl ?_
  refine wm_aload_n d_Wo_afterBlanks_5 rfl rfl ?_
  refine gf_Wo_25 rfl d_Wo_afterBlanks_6 h1 ?_
  refine wm_icmp_ge (tgt := 84) d_Wo_afterBlanks_9 rfl hi_l3 (hO _ _).1 (fun c5 => ?_) (fun c5 => ?_)
  · replace h := h.1 c5
    refine wm_aload_n d_Wo_afterBlanks_84 rfl rfl ?_
    refine gf_Wo_25 rfl d_Wo_afterBlanks_85 h1 ?_
    refine wm_ireturn d_Wo_afterBlanks_88 rfl rfl ?_
    exact ⟨_, rfl, h⟩
  · replace h := h.2 c5
    obtain ⟨h6, h⟩ := h
    obtain ⟨h7, h⟩ := h
    refine wm_aload_n d_Wo_afterBlanks_12 rfl rfl ?_
    refine gf_Wo_9 rfl d_Wo_afterBlanks_13 h1 ?_
    refine wm_iload_n d_Wo_afterBlanks_16 rfl rfl ?_
    refine wm_cald d_Wo_afterBlanks_17 h6 h7 ?_
    refine wm_istore d_Wo_afterBlanks_18 (by decide) (L' := [vr a0, vd, vi l2, vi l3, vi (mI M (mR M a0 0) (Int.toNat l3))]) rfl ?_
    refine wm_iload d_Wo_afterBlanks_20 rfl ?_
    refine wm_bipush d_Wo_afterBlanks_22 (by decide) ?_
    have hJ : ∀ v11 : Int, v11 = (if ((mI M (mR M a0 0) (Int.toNat l3) = 35) ∨ ((¬ (l2 = 0)) ∧ (¬ (mI M (mR M a0 0) (Int.toNat l3) = 10)))) then 1 else 0) → mWm G y_Wo_afterBlanks d 43 [vr a0, vd, vd, vi l3, vi (mI M (mR M a0 0) (Int.toNat l3))] [vi v11] M (fun r9 M9 => ∃ x9, r9 = some (vi x9) ∧ Q x9 M9) := by
      intro v11 e13
      have h := h v11 e13
      have h14 : i32 v11 := by rw [e13]; (repeat' split) <;> first | exact ⟨by decide, by decide⟩ | exact ⟨by decide, by decide⟩
      have h15 : (v11 = 0 ∨ v11 = 1) := by rw [e13]; (repeat' split) <;> decide
      refine wm_istore_n d_Wo_afterBlanks_43 rfl (by decide) (L' := [vr a0, vd, vi v11, vi l3, vi (mI M (mR M a0 0) (Int.toNat l3))]) rfl ?_
      refine wm_iload_n d_Wo_afterBlanks_44 rfl rfl ?_
      have hE0 : ((¬ (v11 = 0)) ∨ ((mI M (mR M a0 0) (Int.toNat l3) = 9) ∨ ((mI M (mR M a0 0) (Int.toNat l3) = 10) ∨ ((mI M (mR M a0 0) (Int.toNat l3) = 13) ∨ (mI M (mR M a0 0) (Int.toNat l3) = 32))))) → mWm G y_Wo_afterBlanks d 78 [vr a0, vd, vi v11, vi l3, vi (mI M (mR M a0 0) (Int.toNat l3))] [] M (fun r9 M9 => ∃ x9, r9 = some (vi x9) ∧ Q x9 M9) := by
        intro q22
        have h := h.1 q22
        refine wm_iinc d_Wo_afterBlanks_78 (by decide) rfl (L' := [vr a0, vd, vi v11, vi (l3 + 1), vi (mI M (mR M a0 0) (Int.toNat l3))]) rfl ?_
        refine wm_goto (tgt := 4) d_Wo_afterBlanks_81 rfl ?_
        refine wm_less (L' := [vr a0, vd, vi v11, vi (l3 + 1), vd]) ⟨Or.inr rfl, Or.inl rfl, Or.inr rfl, Or.inr rfl, Or.inl rfl, trivial⟩ ?_
        exact h
      have hE1 : ¬ ((¬ (v11 = 0)) ∨ ((mI M (mR M a0 0) (Int.toNat l3) = 9) ∨ ((mI M (mR M a0 0) (Int.toNat l3) = 10) ∨ ((mI M (mR M a0 0) (Int.toNat l3) = 13) ∨ (mI M (mR M a0 0) (Int.toNat l3) = 32))))) → mWm G y_Wo_afterBlanks d 76 [vr a0, vd, vi v11, vi l3, vi (mI M (mR M a0 0) (Int.toNat l3))] [] M (fun r9 M9 => ∃ x9, r9 = some (vi x9) ∧ Q x9 M9) := by
        intro q23
        have h := h.2 q23
        refine wm_iload_n d_Wo_afterBlanks_76 rfl rfl ?_
        refine wm_ireturn d_Wo_afterBlanks_77 rfl rfl ?_
        exact ⟨_, rfl, h⟩
      clear h
      refine wm_if_ne (tgt := 78) d_Wo_afterBlanks_45 rfl h14 (fun c20 => ?_) (fun c20 => ?_)
      · exact hE0 (Or.inl c20)
      · replace c20 := Classical.not_not.mp c20
        refine wm_iload d_Wo_afterBlanks_48 rfl ?_
        refine wm_bipush d_Wo_afterBlanks_50 (by decide) ?_
        refine wm_icmp_eq (tgt := 78) d_Wo_afterBlanks_52 rfl (hO _ _).1 ⟨by decide, by decide⟩ (fun c19 => ?_) (fun c19 => ?_)
        · exact hE0 (Or.inr (Or.inl c19))
        · refine wm_iload d_Wo_afterBlanks_55 rfl ?_
          refine wm_bipush d_Wo_afterBlanks_57 (by decide) ?_
          refine wm_icmp_eq (tgt := 78) d_Wo_afterBlanks_59 rfl (hO _ _).1 ⟨by decide, by decide⟩ (fun c18 => ?_) (fun c18 => ?_)
          · exact hE0 (Or.inr (Or.inr (Or.inl c18)))
          · refine wm_iload d_Wo_afterBlanks_62 rfl ?_
            refine wm_bipush d_Wo_afterBlanks_64 (by decide) ?_
            refine wm_icmp_eq (tgt := 78) d_Wo_afterBlanks_66 rfl (hO _ _).1 ⟨by decide, by decide⟩ (fun c17 => ?_) (fun c17 => ?_)
            · exact hE0 (Or.inr (Or.inr (Or.inr (Or.inl c17))))
            · refine wm_iload d_Wo_afterBlanks_69 rfl ?_
              refine wm_bipush d_Wo_afterBlanks_71 (by decide) ?_
              refine wm_icmp_eq (tgt := 78) d_Wo_afterBlanks_73 rfl (hO _ _).1 ⟨by decide, by decide⟩ (fun c16 => ?_) (fun c16 => ?_)
              · exact hE0 (Or.inr (Or.inr (Or.inr (Or.inr c16))))
              · exact hE1 (fun z24 => Or.elim z24 (fun w => w c20) (fun z25 => Or.elim z25 c19 (fun z26 => Or.elim z26 c18 (fun z27 => Or.elim z27 c17 c16))))
    clear h
    refine wm_icmp_eq (tgt := 38) d_Wo_afterBlanks_24 rfl (hO _ _).1 ⟨by decide, by decide⟩ (fun c8 => ?_) (fun c8 => ?_)
    · refine wm_iconst d_Wo_afterBlanks_38 ?_
      refine wm_goto (tgt := 43) d_Wo_afterBlanks_39 rfl ?_
      refine wm_less (L' := [vr a0, vd, vd, vi l3, vi (mI M (mR M a0 0) (Int.toNat l3))]) ⟨Or.inr rfl, Or.inl rfl, Or.inl rfl, Or.inr rfl, Or.inr rfl, trivial⟩ ?_
      exact hJ 1 (if_pos (Or.inl c8)).symm
    · refine wm_iload_n d_Wo_afterBlanks_27 rfl rfl ?_
      refine wm_if_eq (tgt := 42) d_Wo_afterBlanks_28 rfl hi_l2 (fun c9 => ?_) (fun c9 => ?_)
      · refine wm_iconst d_Wo_afterBlanks_42 ?_
        refine wm_less (L' := [vr a0, vd, vd, vi l3, vi (mI M (mR M a0 0) (Int.toNat l3))]) ⟨Or.inr rfl, Or.inl rfl, Or.inl rfl, Or.inr rfl, Or.inr rfl, trivial⟩ ?_
        exact hJ 0 (if_neg (fun z29 => Or.elim z29 c8 (fun z30 => z30.1 c9))).symm
      · refine wm_iload d_Wo_afterBlanks_31 rfl ?_
        refine wm_bipush d_Wo_afterBlanks_33 (by decide) ?_
        refine wm_icmp_eq (tgt := 42) d_Wo_afterBlanks_35 rfl (hO _ _).1 ⟨by decide, by decide⟩ (fun c10 => ?_) (fun c10 => ?_)
        · refine wm_iconst d_Wo_afterBlanks_42 ?_
          refine wm_less (L' := [vr a0, vd, vd, vi l3, vi (mI M (mR M a0 0) (Int.toNat l3))]) ⟨Or.inr rfl, Or.inl rfl, Or.inl rfl, Or.inr rfl, Or.inr rfl, trivial⟩ ?_
          exact hJ 0 (if_neg (fun z31 => Or.elim z31 c8 (fun z32 => (fun z33 => z33 c10) z32.2))).symm
        · refine wm_iconst d_Wo_afterBlanks_38 ?_
          refine wm_goto (tgt := 43) d_Wo_afterBlanks_39 rfl ?_
          refine wm_less (L' := [vr a0, vd, vd, vi l3, vi (mI M (mR M a0 0) (Int.toNat l3))]) ⟨Or.inr rfl, Or.inl rfl, Or.inl rfl, Or.inr rfl, Or.inr rfl, trivial⟩ ?_
          exact hJ 1 (if_pos (Or.inr ⟨c9, c10⟩)).symm
theorem d_Wo_takeWord_0 : decode y_Wo_takeWord.2.1 0 = .ok (.aload_n 0, 1) := dc9_42 (by decide +kernel)
theorem d_Wo_takeWord_1 : decode y_Wo_takeWord.2.1 1 = .ok (.getfield 9, 3) := dc9_180 (by decide +kernel)
theorem d_Wo_takeWord_4 : decode y_Wo_takeWord.2.1 4 = .ok (.iload_n 1, 1) := dc9_27 (by decide +kernel)
theorem d_Wo_takeWord_5 : decode y_Wo_takeWord.2.1 5 = .ok (.caload, 1) := dc9_52 (by decide +kernel)
theorem d_Wo_takeWord_6 : decode y_Wo_takeWord.2.1 6 = .ok (.istore_n 2, 1) := dc9_61 (by decide +kernel)
theorem d_Wo_takeWord_7 : decode y_Wo_takeWord.2.1 7 = .ok (.iload_n 2, 1) := dc9_28 (by decide +kernel)
theorem d_Wo_takeWord_8 : decode y_Wo_takeWord.2.1 8 = .ok (.invokestatic 47, 3) := dc9_184 (by decide +kernel)
theorem d_Wo_takeWord_11 : decode y_Wo_takeWord.2.1 11 = .ok (.ifCond .eq 9, 3) := dc9_153 (by decide +kernel)
theorem d_Wo_takeWord_20 : decode y_Wo_takeWord.2.1 20 = .ok (.iload_n 2, 1) := dc9_28 (by decide +kernel)
theorem d_Wo_takeWord_14 : decode y_Wo_takeWord.2.1 14 = .ok (.aload_n 0, 1) := dc9_42 (by decide +kernel)
theorem d_Wo_takeWord_15 : decode y_Wo_takeWord.2.1 15 = .ok (.iload_n 1, 1) := dc9_27 (by decide +kernel)
theorem d_Wo_takeWord_21 : decode y_Wo_takeWord.2.1 21 = .ok (.invokestatic 54, 3) := dc9_184 (by decide +kernel)
theorem d_Wo_takeWord_24 : decode y_Wo_takeWord.2.1 24 = .ok (.ifCond .eq 9, 3) := dc9_153 (by decide +kernel)
theorem d_Wo_takeWord_33 : decode y_Wo_takeWord.2.1 33 = .ok (.iload_n 1, 1) := dc9_27 (by decide +kernel)
theorem d_Wo_takeWord_34 : decode y_Wo_takeWord.2.1 34 = .ok (.iconst 1, 1) := dc9_4 (by decide +kernel)
theorem d_Wo_takeWord_35 : decode y_Wo_takeWord.2.1 35 = .ok (.iadd, 1) := dc9_96 (by decide +kernel)
theorem d_Wo_takeWord_36 : decode y_Wo_takeWord.2.1 36 = .ok (.aload_n 0, 1) := dc9_42 (by decide +kernel)
theorem d_Wo_takeWord_37 : decode y_Wo_takeWord.2.1 37 = .ok (.getfield 25, 3) := dc9_180 (by decide +kernel)
theorem d_Wo_takeWord_27 : decode y_Wo_takeWord.2.1 27 = .ok (.aload_n 0, 1) := dc9_42 (by decide +kernel)
theorem d_Wo_takeWord_28 : decode y_Wo_takeWord.2.1 28 = .ok (.iload_n 1, 1) := dc9_27 (by decide +kernel)
theorem d_Wo_takeWord_40 : decode y_Wo_takeWord.2.1 40 = .ok (.if_icmp .ge 14, 3) := dc9_162 (by decide +kernel)
theorem d_Wo_takeWord_54 : decode y_Wo_takeWord.2.1 54 = .ok (.bipush 32, 2) := dc9_16 (by decide +kernel)
theorem d_Wo_takeWord_56 : decode y_Wo_takeWord.2.1 56 = .ok (.istore_n 3, 1) := dc9_62 (by decide +kernel)
theorem d_Wo_takeWord_57 : decode y_Wo_takeWord.2.1 57 = .ok (.iload_n 2, 1) := dc9_28 (by decide +kernel)
theorem d_Wo_takeWord_58 : decode y_Wo_takeWord.2.1 58 = .ok (.iload_n 3, 1) := dc9_29 (by decide +kernel)
theorem d_Wo_takeWord_43 : decode y_Wo_takeWord.2.1 43 = .ok (.aload_n 0, 1) := dc9_42 (by decide +kernel)
theorem d_Wo_takeWord_44 : decode y_Wo_takeWord.2.1 44 = .ok (.getfield 9, 3) := dc9_180 (by decide +kernel)
theorem d_Wo_takeWord_47 : decode y_Wo_takeWord.2.1 47 = .ok (.iload_n 1, 1) := dc9_27 (by decide +kernel)
theorem d_Wo_takeWord_48 : decode y_Wo_takeWord.2.1 48 = .ok (.iconst 1, 1) := dc9_4 (by decide +kernel)
theorem d_Wo_takeWord_49 : decode y_Wo_takeWord.2.1 49 = .ok (.iadd, 1) := dc9_96 (by decide +kernel)
theorem d_Wo_takeWord_50 : decode y_Wo_takeWord.2.1 50 = .ok (.caload, 1) := dc9_52 (by decide +kernel)
theorem d_Wo_takeWord_51 : decode y_Wo_takeWord.2.1 51 = .ok (.goto 5, 3) := dc9_167 (by decide +kernel)
theorem d_Wo_takeWord_59 : decode y_Wo_takeWord.2.1 59 = .ok (.invokestatic 60, 3) := dc9_184 (by decide +kernel)
theorem d_Wo_takeWord_62 : decode y_Wo_takeWord.2.1 62 = .ok (.istore 4, 2) := dc9_54 (by decide +kernel)
theorem d_Wo_takeWord_64 : decode y_Wo_takeWord.2.1 64 = .ok (.iload_n 1, 1) := dc9_27 (by decide +kernel)
theorem d_Wo_takeWord_65 : decode y_Wo_takeWord.2.1 65 = .ok (.iconst 2, 1) := dc9_5 (by decide +kernel)
theorem d_Wo_takeWord_66 : decode y_Wo_takeWord.2.1 66 = .ok (.iadd, 1) := dc9_96 (by decide +kernel)
theorem d_Wo_takeWord_67 : decode y_Wo_takeWord.2.1 67 = .ok (.istore 5, 2) := dc9_54 (by decide +kernel)
theorem d_Wo_takeWord_69 : decode y_Wo_takeWord.2.1 69 = .ok (.iload 4, 2) := dc9_21 (by decide +kernel)
theorem d_Wo_takeWord_71 : decode y_Wo_takeWord.2.1 71 = .ok (.iconst 1, 1) := dc9_4 (by decide +kernel)
theorem d_Wo_takeWord_72 : decode y_Wo_takeWord.2.1 72 = .ok (.if_icmp .ne 14, 3) := dc9_160 (by decide +kernel)
theorem d_Wo_takeWord_75 : decode y_Wo_takeWord.2.1 75 = .ok (.iload_n 2, 1) := dc9_28 (by decide +kernel)
theorem d_Wo_takeWord_76 : decode y_Wo_takeWord.2.1 76 = .ok (.invokestatic 64, 3) := dc9_184 (by decide +kernel)
theorem d_Wo_takeWord_79 : decode y_Wo_takeWord.2.1 79 = .ok (.istore 4, 2) := dc9_54 (by decide +kernel)
theorem d_Wo_takeWord_81 : decode y_Wo_takeWord.2.1 81 = .ok (.iload_n 1, 1) := dc9_27 (by decide +kernel)
theorem d_Wo_takeWord_82 : decode y_Wo_takeWord.2.1 82 = .ok (.iconst 1, 1) := dc9_4 (by decide +kernel)
theorem d_Wo_takeWord_83 : decode y_Wo_takeWord.2.1 83 = .ok (.iadd, 1) := dc9_96 (by decide +kernel)
theorem d_Wo_takeWord_84 : decode y_Wo_takeWord.2.1 84 = .ok (.istore 5, 2) := dc9_54 (by decide +kernel)
theorem d_Wo_takeWord_29 : decode y_Wo_takeWord.2.1 29 = .ok (.invokevirtual 57, 3) := dc9_182 (by decide +kernel)
theorem d_Wo_takeWord_32 : decode y_Wo_takeWord.2.1 32 = .ok (.ireturn, 1) := dc9_172 (by decide +kernel)
theorem d_Wo_takeWord_16 : decode y_Wo_takeWord.2.1 16 = .ok (.invokevirtual 51, 3) := dc9_182 (by decide +kernel)
theorem d_Wo_takeWord_19 : decode y_Wo_takeWord.2.1 19 = .ok (.ireturn, 1) := dc9_172 (by decide +kernel)
theorem d_Wo_takeWord_86 : decode y_Wo_takeWord.2.1 86 = .ok (.aload_n 0, 1) := dc9_42 (by decide +kernel)
theorem d_Wo_takeWord_87 : decode y_Wo_takeWord.2.1 87 = .ok (.iload 4, 2) := dc9_21 (by decide +kernel)
theorem d_Wo_takeWord_89 : decode y_Wo_takeWord.2.1 89 = .ok (.iload_n 1, 1) := dc9_27 (by decide +kernel)
theorem d_Wo_takeWord_90 : decode y_Wo_takeWord.2.1 90 = .ok (.iconst 0, 1) := dc9_3 (by decide +kernel)
theorem d_Wo_takeWord_91 : decode y_Wo_takeWord.2.1 91 = .ok (.invokevirtual 43, 3) := dc9_182 (by decide +kernel)
theorem d_Wo_takeWord_94 : decode y_Wo_takeWord.2.1 94 = .ok (.iload 4, 2) := dc9_21 (by decide +kernel)
theorem d_Wo_takeWord_96 : decode y_Wo_takeWord.2.1 96 = .ok (.iconst 1, 1) := dc9_4 (by decide +kernel)
theorem d_Wo_takeWord_97 : decode y_Wo_takeWord.2.1 97 = .ok (.if_icmp .ne 10, 3) := dc9_160 (by decide +kernel)
theorem d_Wo_takeWord_100 : decode y_Wo_takeWord.2.1 100 = .ok (.aload_n 0, 1) := dc9_42 (by decide +kernel)
theorem d_Wo_takeWord_101 : decode y_Wo_takeWord.2.1 101 = .ok (.getfield 25, 3) := dc9_180 (by decide +kernel)
theorem d_Wo_takeWord_104 : decode y_Wo_takeWord.2.1 104 = .ok (.goto 5, 3) := dc9_167 (by decide +kernel)
theorem d_Wo_takeWord_107 : decode y_Wo_takeWord.2.1 107 = .ok (.iload 5, 2) := dc9_21 (by decide +kernel)
theorem d_Wo_takeWord_109 : decode y_Wo_takeWord.2.1 109 = .ok (.ireturn, 1) := dc9_172 (by decide +kernel)
def h_Wo_takeWord_86 (G : mG) (d : Nat) (a0 : Nat) (l1 : Int) (l4 : Int) (l5 : Int) (M : mM) (Q : Int → mM → Prop) : Prop := mWm G y_Wo_takeWord (d + 1) 86 [vr a0, vi l1, vd, vd, vi l4, vi l5] [] M (fun r9 M9 => ∃ x9, r9 = some (vi x9) ∧ Q x9 M9)
theorem k_Wo_takeWord {G : mG} {d : Nat} {a0 : Nat} {l1 : Int} {M : mM} {Q : Int → mM → Prop} (hO : mOk M) (hi_l1 : i32 l1)
    (h : mK M a0 = 2 ∧ mK M (mR M a0 0) = 32 ∧ ((0 : Int) ≤ l1 ∧ l1 < (mN M (mR M a0 0) : Int)) ∧ Ci G y_Wo_isLetter d [vi (mI M (mR M a0 0) (Int.toNat l1))] M (fun x5 M4 => i32 x5 ∧ mOk M4 ∧ (((x5 = 0) → (Ci G y_Wo_isDigit d [vi (mI M (mR M a0 0) (Int.toNat l1))] M4 (fun x10 M9 => i32 x10 ∧ mOk M9 ∧ (((x10 = 0) → (mK M9 a0 = 2 ∧ i32 (l1 + 1) ∧ (¬ (mI M9 a0 1 ≤ l1 + 1) → (mK M9 (mR M9 a0 0) = 32 ∧ ((0 : Int) ≤ l1 + 1 ∧ l1 + 1 < (mN M9 (mR M9 a0 0) : Int)))) ∧ ∀ v22 : Int, v22 = (if (mI M9 a0 1 ≤ l1 + 1) then 32 else mI M9 (mR M9 a0 0) (Int.toNat (l1 + 1))) → Ci G y_Wo_longSign d [vi (mI M (mR M a0 0) (Int.toNat l1)), vi v22] M9 (fun x26 M25 => i32 x26 ∧ mOk M25 ∧ (((x26 = 1) → (Ci G y_Wo_shortSign d [vi (mI M (mR M a0 0) (Int.toNat l1))] M25 (fun x31 M30 => i32 x31 ∧ mOk M30 ∧ (h_Wo_takeWord_86 G d a0 l1 x31 (l1 + 1) M30 Q)))) ∧ (¬ (x26 = 1) → (h_Wo_takeWord_86 G d a0 l1 x26 (l1 + 2) M25 Q)))))) ∧ (¬ (x10 = 0) → (mK M9 a0 = 2 ∧ Ci G y_Wo_takeNumber d [vr a0, vi l1] M9 (fun x37 M36 => i32 x37 ∧ mOk M36 ∧ (Q x37 M36)))))))) ∧ (¬ (x5 = 0) → (mK M4 a0 = 2 ∧ Ci G y_Wo_takeName d [vr a0, vi l1] M4 (fun x41 M40 => i32 x41 ∧ mOk M40 ∧ (Q x41 M40))))))) :
    Ci G y_Wo_takeWord (d + 1) [vr a0, vi l1] M Q := by
  refine wm_open (y := y_Wo_takeWord) rfl (Nat.le_of_ble_eq_true rfl) (L := [vr a0, vi l1, vd, vd, vd, vd]) rfl ?_
  obtain ⟨h1, h⟩ := h
  obtain ⟨h2, h⟩ := h
  obtain ⟨h3, h⟩ := h
  refine wm_aload_n d_Wo_takeWord_0 rfl rfl ?_
  refine gf_Wo_9 rfl d_Wo_takeWord_1 h1 ?_
  refine wm_iload_n d_Wo_takeWord_4 rfl rfl ?_
  refine wm_cald d_Wo_takeWord_5 h2 h3 ?_
  refine wm_istore_n d_Wo_takeWord_6 rfl (by decide) (L' := [vr a0, vi l1, vi (mI M (mR M a0 0) (Int.toNat l1)), vd, vd, vd]) rfl ?_
  refine wm_iload_n d_Wo_takeWord_7 rfl rfl ?_
  refine cf_Wo_47 rfl d_Wo_takeWord_8 (Nat.le_of_ble_eq_true rfl) (Ci.mono h (fun x5 M4 h => ?_))
  obtain ⟨h6, hOM4, h⟩ := h
  refine wm_if_eq (tgt := 20) d_Wo_takeWord_11 rfl h6 (fun c8 => ?_) (fun c8 => ?_)
  · replace h := h.1 c8
    refine wm_iload_n d_Wo_takeWord_20 rfl rfl ?_
    refine cf_Wo_54 rfl d_Wo_takeWord_21 (Nat.le_of_ble_eq_true rfl) (Ci.mono h (fun x10 M9 h => ?_))
    obtain ⟨h11, hOM9, h⟩ := h
    refine wm_if_eq (tgt := 33) d_Wo_takeWord_24 rfl h11 (fun c16 => ?_) (fun c16 => ?_)
    · replace h := h.1 c16
      obtain ⟨h17, h⟩ := h
      obtain ⟨h18, h⟩ := h
      refine wm_iload_n d_Wo_takeWord_33 rfl rfl ?_
      refine wm_iconst d_Wo_takeWord_34 ?_
      refine wm_iadd d_Wo_takeWord_35 ?_
      refine wm_aload_n d_Wo_takeWord_36 rfl rfl ?_
      refine gf_Wo_25 rfl d_Wo_takeWord_37 h17 ?_
      obtain ⟨s23, h⟩ := h
      have hJ : ∀ v22 : Int, v22 = (if (mI M9 a0 1 ≤ l1 + 1) then 32 else mI M9 (mR M9 a0 0) (Int.toNat (l1 + 1))) → mWm G y_Wo_takeWord (d + 1) 56 [vr a0, vi l1, vi (mI M (mR M a0 0) (Int.toNat l1)), vd, vd, vd] [vi v22] M9 (fun r9 M9 => ∃ x9, r9 = some (vi x9) ∧ Q x9 M9) := by
        intro v22 e24
        have h := h v22 e24
        refine wm_istore_n d_Wo_takeWord_56 rfl (by decide) (L' := [vr a0, vi l1, vi (mI M (mR M a0 0) (Int.toNat l1)), vi v22, vd, vd]) rfl ?_
        refine wm_iload_n d_Wo_takeWord_57 rfl rfl ?_
        refine wm_iload_n d_Wo_takeWord_58 rfl rfl ?_
        refine cf_Wo_60 rfl d_Wo_takeWord_59 (Nat.le_of_ble_eq_true rfl) (Ci.mono h (fun x26 M25 h => ?_))
        obtain ⟨h27, hOM25, h⟩ := h
        refine wm_istore d_Wo_takeWord_62 (by decide) (L' := [vr a0, vi l1, vi (mI M (mR M a0 0) (Int.toNat l1)), vi v22, vi x26, vd]) rfl ?_
        refine wm_iload_n d_Wo_takeWord_64 rfl rfl ?_
        refine wm_iconst d_Wo_takeWord_65 ?_
        refine wm_iadd d_Wo_takeWord_66 ?_
        refine wm_istore d_Wo_takeWord_67 (by decide) (L' := [vr a0, vi l1, vi (mI M (mR M a0 0) (Int.toNat l1)), vi v22, vi x26, vi (l1 + 2)]) rfl ?_
        refine wm_iload d_Wo_takeWord_69 rfl ?_
        refine wm_iconst d_Wo_takeWord_71 ?_
        refine wm_icmp_ne (tgt := 86) d_Wo_takeWord_72 rfl h27 ⟨by decide, by decide⟩ (fun c29 => ?_) (fun c29 => ?_)
        · replace h := h.2 c29
          refine wm_less (L' := [vr a0, vi l1, vd, vd, vi x26, vi (l1 + 2)]) ⟨Or.inr rfl, Or.inr rfl, Or.inl rfl, Or.inl rfl, Or.inr rfl, Or.inr rfl, trivial⟩ ?_
          exact h
        · replace c29 := Classical.not_not.mp c29
          replace h := h.1 c29
          refine wm_iload_n d_Wo_takeWord_75 rfl rfl ?_
          refine cf_Wo_64 rfl d_Wo_takeWord_76 (Nat.le_of_ble_eq_true rfl) (Ci.mono h (fun x31 M30 h => ?_))
          obtain ⟨h32, hOM30, h⟩ := h
          refine wm_istore d_Wo_takeWord_79 (by decide) (L' := [vr a0, vi l1, vi (mI M (mR M a0 0) (Int.toNat l1)), vi v22, vi x31, vi (l1 + 2)]) rfl ?_
          refine wm_iload_n d_Wo_takeWord_81 rfl rfl ?_
          refine wm_iconst d_Wo_takeWord_82 ?_
          refine wm_iadd d_Wo_takeWord_83 ?_
          refine wm_istore d_Wo_takeWord_84 (by decide) (L' := [vr a0, vi l1, vi (mI M (mR M a0 0) (Int.toNat l1)), vi v22, vi x31, vi (l1 + 1)]) rfl ?_
          refine wm_less (L' := [vr a0, vi l1, vd, vd, vi x31, vi (l1 + 1)]) ⟨Or.inr rfl, Or.inr rfl, Or.inl rfl, Or.inl rfl, Or.inr rfl, Or.inr rfl, trivial⟩ ?_
          exact h
      clear h
      have s33 := s23
      refine wm_icmp_ge (tgt := 54) d_Wo_takeWord_40 rfl h18 (hOM9 _ _).1 (fun c19 => ?_) (fun c19 => ?_)
      · refine wm_bipush d_Wo_takeWord_54 (by decide) ?_
        exact hJ 32 (if_pos c19).symm
      · have s33 := s33 c19
        obtain ⟨h20, h21⟩ := s33
        refine wm_aload_n d_Wo_takeWord_43 rfl rfl ?_
        refine gf_Wo_9 rfl d_Wo_takeWord_44 h17 ?_
        refine wm_iload_n d_Wo_takeWord_47 rfl rfl ?_
        refine wm_iconst d_Wo_takeWord_48 ?_
        refine wm_iadd d_Wo_takeWord_49 ?_
        refine wm_cald d_Wo_takeWord_50 h20 h21 ?_
        refine wm_goto (tgt := 56) d_Wo_takeWord_51 rfl ?_
        exact hJ (mI M9 (mR M9 a0 0) (Int.toNat (l1 + 1))) (if_neg c19).symm
    · replace h := h.2 c16
      obtain ⟨h35, h⟩ := h
      refine wm_aload_n d_Wo_takeWord_27 rfl rfl ?_
      refine wm_iload_n d_Wo_takeWord_28 rfl rfl ?_
      refine cf_Wo_57 rfl d_Wo_takeWord_29 h35 (Nat.le_of_ble_eq_true rfl) (Ci.mono h (fun x37 M36 h => ?_))
      obtain ⟨h38, hOM36, h⟩ := h
      refine wm_ireturn d_Wo_takeWord_32 rfl rfl ?_
      exact ⟨_, rfl, h⟩
  · replace h := h.2 c8
    obtain ⟨h39, h⟩ := h
    refine wm_aload_n d_Wo_takeWord_14 rfl rfl ?_
    refine wm_iload_n d_Wo_takeWord_15 rfl rfl ?_
    refine cf_Wo_51 rfl d_Wo_takeWord_16 h39 (Nat.le_of_ble_eq_true rfl) (Ci.mono h (fun x41 M40 h => ?_))
    obtain ⟨h42, hOM40, h⟩ := h
    refine wm_ireturn d_Wo_takeWord_19 rfl rfl ?_
    exact ⟨_, rfl, h⟩
theorem k_Wo_takeWord_86 {G : mG} {d : Nat} {a0 : Nat} {l1 : Int} {l4 : Int} {l5 : Int} {M : mM} {Q : Int → mM → Prop} (hO : mOk M) (hi_l1 : i32 l1) (hi_l4 : i32 l4) (hi_l5 : i32 l5)
    (h : mK M a0 = 2 ∧ Cv G y_Wo_add d [vr a0, vi l4, vi l1, vi 0] M (fun M44 => mOk M44 ∧ (((l4 = 1) → mK M44 a0 = 2) ∧ ∀ v49 : Int, v49 = (if (l4 = 1) then mI M44 a0 1 else l5) → Q v49 M44))) :
    h_Wo_takeWord_86 G d a0 l1 l4 l5 M Q := by
  unfold h_Wo_takeWord_86
  obtain ⟨h43, h⟩ := h
  refine wm_aload_n d_Wo_takeWord_86 rfl rfl ?_
  refine wm_iload d_Wo_takeWord_87 rfl ?_
  refine wm_iload_n d_Wo_takeWord_89 rfl rfl ?_
  refine wm_iconst d_Wo_takeWord_90 ?_
  refine cf_Wo_43 rfl d_Wo_takeWord_91 h43 (Nat.le_of_ble_eq_true rfl) (Cv.mono h (fun M44 h => ?_))
  obtain ⟨hOM44, h⟩ := h
  refine wm_iload d_Wo_takeWord_94 rfl ?_
  refine wm_iconst d_Wo_takeWord_96 ?_
  obtain ⟨s50, h⟩ := h
  have hJ : ∀ v49 : Int, v49 = (if (l4 = 1) then mI M44 a0 1 else l5) → mWm G y_Wo_takeWord (d + 1) 109 [vd, vd, vd, vd, vd, vd] [vi v49] M44 (fun r9 M9 => ∃ x9, r9 = some (vi x9) ∧ Q x9 M9) := by
    intro v49 e51
    have h := h v49 e51
    refine wm_ireturn d_Wo_takeWord_109 rfl rfl ?_
    exact ⟨_, rfl, h⟩
  clear h
  have s52 := s50
  refine wm_icmp_ne (tgt := 107) d_Wo_takeWord_97 rfl hi_l4 ⟨by decide, by decide⟩ (fun c47 => ?_) (fun c47 => ?_)
  · refine wm_iload d_Wo_takeWord_107 rfl ?_
    refine wm_less (L' := [vd, vd, vd, vd, vd, vd]) ⟨Or.inl rfl, Or.inl rfl, Or.inl rfl, Or.inl rfl, Or.inl rfl, Or.inl rfl, trivial⟩ ?_
    exact hJ l5 (if_neg c47).symm
  · replace c47 := Classical.not_not.mp c47
    have s52 := s52 c47
    have h48 := s52
    refine wm_aload_n d_Wo_takeWord_100 rfl rfl ?_
    refine gf_Wo_25 rfl d_Wo_takeWord_101 h48 ?_
    refine wm_goto (tgt := 109) d_Wo_takeWord_104 rfl ?_
    refine wm_less (L' := [vd, vd, vd, vd, vd, vd]) ⟨Or.inl rfl, Or.inl rfl, Or.inl rfl, Or.inl rfl, Or.inl rfl, Or.inl rfl, trivial⟩ ?_
    exact hJ (mI M44 a0 1) (if_pos c47).symm
theorem d_Wo_takeName_0 : decode y_Wo_takeName.2.1 0 = .ok (.iload_n 1, 1) := dc9_27 (by decide +kernel)
theorem d_Wo_takeName_1 : decode y_Wo_takeName.2.1 1 = .ok (.iconst 1, 1) := dc9_4 (by decide +kernel)
theorem d_Wo_takeName_2 : decode y_Wo_takeName.2.1 2 = .ok (.iadd, 1) := dc9_96 (by decide +kernel)
theorem d_Wo_takeName_3 : decode y_Wo_takeName.2.1 3 = .ok (.istore_n 2, 1) := dc9_61 (by decide +kernel)
theorem d_Wo_takeName_4 : decode y_Wo_takeName.2.1 4 = .ok (.iload_n 2, 1) := dc9_28 (by decide +kernel)
theorem d_Wo_takeName_5 : decode y_Wo_takeName.2.1 5 = .ok (.aload_n 0, 1) := dc9_42 (by decide +kernel)
theorem d_Wo_takeName_6 : decode y_Wo_takeName.2.1 6 = .ok (.getfield 25, 3) := dc9_180 (by decide +kernel)
theorem d_Wo_takeName_9 : decode y_Wo_takeName.2.1 9 = .ok (.if_icmp .ge 44, 3) := dc9_162 (by decide +kernel)
theorem d_Wo_takeName_12 : decode y_Wo_takeName.2.1 12 = .ok (.aload_n 0, 1) := dc9_42 (by decide +kernel)
theorem d_Wo_takeName_13 : decode y_Wo_takeName.2.1 13 = .ok (.getfield 9, 3) := dc9_180 (by decide +kernel)
theorem d_Wo_takeName_16 : decode y_Wo_takeName.2.1 16 = .ok (.iload_n 2, 1) := dc9_28 (by decide +kernel)
theorem d_Wo_takeName_17 : decode y_Wo_takeName.2.1 17 = .ok (.caload, 1) := dc9_52 (by decide +kernel)
theorem d_Wo_takeName_53 : decode y_Wo_takeName.2.1 53 = .ok (.iload_n 2, 1) := dc9_28 (by decide +kernel)
theorem d_Wo_takeName_54 : decode y_Wo_takeName.2.1 54 = .ok (.iload_n 1, 1) := dc9_27 (by decide +kernel)
theorem d_Wo_takeName_55 : decode y_Wo_takeName.2.1 55 = .ok (.isub, 1) := dc9_100 (by decide +kernel)
theorem d_Wo_takeName_56 : decode y_Wo_takeName.2.1 56 = .ok (.bipush 40, 2) := dc9_16 (by decide +kernel)
theorem d_Wo_takeName_58 : decode y_Wo_takeName.2.1 58 = .ok (.if_icmp .gt 7, 3) := dc9_163 (by decide +kernel)
theorem d_Wo_takeName_65 : decode y_Wo_takeName.2.1 65 = .ok (.iconst 0, 1) := dc9_3 (by decide +kernel)
theorem d_Wo_takeName_61 : decode y_Wo_takeName.2.1 61 = .ok (.iconst 1, 1) := dc9_4 (by decide +kernel)
theorem d_Wo_takeName_62 : decode y_Wo_takeName.2.1 62 = .ok (.goto 4, 3) := dc9_167 (by decide +kernel)
theorem d_Wo_takeName_66 : decode y_Wo_takeName.2.1 66 = .ok (.istore_n 3, 1) := dc9_62 (by decide +kernel)
theorem d_Wo_takeName_67 : decode y_Wo_takeName.2.1 67 = .ok (.aload_n 0, 1) := dc9_42 (by decide +kernel)
theorem d_Wo_takeName_68 : decode y_Wo_takeName.2.1 68 = .ok (.iload_n 3, 1) := dc9_29 (by decide +kernel)
theorem d_Wo_takeName_69 : decode y_Wo_takeName.2.1 69 = .ok (.ifCond .eq 14, 3) := dc9_153 (by decide +kernel)
theorem d_Wo_takeName_83 : decode y_Wo_takeName.2.1 83 = .ok (.iconst 1, 1) := dc9_4 (by decide +kernel)
theorem d_Wo_takeName_72 : decode y_Wo_takeName.2.1 72 = .ok (.aload_n 0, 1) := dc9_42 (by decide +kernel)
theorem d_Wo_takeName_73 : decode y_Wo_takeName.2.1 73 = .ok (.iload_n 1, 1) := dc9_27 (by decide +kernel)
theorem d_Wo_takeName_74 : decode y_Wo_takeName.2.1 74 = .ok (.iload_n 2, 1) := dc9_28 (by decide +kernel)
theorem d_Wo_takeName_75 : decode y_Wo_takeName.2.1 75 = .ok (.iload_n 1, 1) := dc9_27 (by decide +kernel)
theorem d_Wo_takeName_76 : decode y_Wo_takeName.2.1 76 = .ok (.isub, 1) := dc9_100 (by decide +kernel)
theorem d_Wo_takeName_77 : decode y_Wo_takeName.2.1 77 = .ok (.invokevirtual 68, 3) := dc9_182 (by decide +kernel)
theorem d_Wo_takeName_80 : decode y_Wo_takeName.2.1 80 = .ok (.goto 4, 3) := dc9_167 (by decide +kernel)
theorem d_Wo_takeName_18 : decode y_Wo_takeName.2.1 18 = .ok (.invokestatic 47, 3) := dc9_184 (by decide +kernel)
theorem d_Wo_takeName_21 : decode y_Wo_takeName.2.1 21 = .ok (.ifCond .ne 26, 3) := dc9_154 (by decide +kernel)
theorem d_Wo_takeName_24 : decode y_Wo_takeName.2.1 24 = .ok (.aload_n 0, 1) := dc9_42 (by decide +kernel)
theorem d_Wo_takeName_25 : decode y_Wo_takeName.2.1 25 = .ok (.getfield 9, 3) := dc9_180 (by decide +kernel)
theorem d_Wo_takeName_28 : decode y_Wo_takeName.2.1 28 = .ok (.iload_n 2, 1) := dc9_28 (by decide +kernel)
theorem d_Wo_takeName_29 : decode y_Wo_takeName.2.1 29 = .ok (.caload, 1) := dc9_52 (by decide +kernel)
theorem d_Wo_takeName_30 : decode y_Wo_takeName.2.1 30 = .ok (.invokestatic 54, 3) := dc9_184 (by decide +kernel)
theorem d_Wo_takeName_33 : decode y_Wo_takeName.2.1 33 = .ok (.ifCond .ne 14, 3) := dc9_154 (by decide +kernel)
theorem d_Wo_takeName_36 : decode y_Wo_takeName.2.1 36 = .ok (.aload_n 0, 1) := dc9_42 (by decide +kernel)
theorem d_Wo_takeName_37 : decode y_Wo_takeName.2.1 37 = .ok (.getfield 9, 3) := dc9_180 (by decide +kernel)
theorem d_Wo_takeName_40 : decode y_Wo_takeName.2.1 40 = .ok (.iload_n 2, 1) := dc9_28 (by decide +kernel)
theorem d_Wo_takeName_41 : decode y_Wo_takeName.2.1 41 = .ok (.caload, 1) := dc9_52 (by decide +kernel)
theorem d_Wo_takeName_42 : decode y_Wo_takeName.2.1 42 = .ok (.bipush 95, 2) := dc9_16 (by decide +kernel)
theorem d_Wo_takeName_44 : decode y_Wo_takeName.2.1 44 = .ok (.if_icmp .ne 9, 3) := dc9_160 (by decide +kernel)
theorem d_Wo_takeName_47 : decode y_Wo_takeName.2.1 47 = .ok (.iinc 2 1, 3) := by decide +kernel
theorem d_Wo_takeName_50 : decode y_Wo_takeName.2.1 50 = .ok (.goto (-46), 3) := dc9_167 (by decide +kernel)
theorem d_Wo_takeName_84 : decode y_Wo_takeName.2.1 84 = .ok (.iload_n 1, 1) := dc9_27 (by decide +kernel)
theorem d_Wo_takeName_85 : decode y_Wo_takeName.2.1 85 = .ok (.iload_n 2, 1) := dc9_28 (by decide +kernel)
theorem d_Wo_takeName_86 : decode y_Wo_takeName.2.1 86 = .ok (.iload_n 1, 1) := dc9_27 (by decide +kernel)
theorem d_Wo_takeName_87 : decode y_Wo_takeName.2.1 87 = .ok (.isub, 1) := dc9_100 (by decide +kernel)
theorem d_Wo_takeName_88 : decode y_Wo_takeName.2.1 88 = .ok (.invokevirtual 43, 3) := dc9_182 (by decide +kernel)
theorem d_Wo_takeName_91 : decode y_Wo_takeName.2.1 91 = .ok (.iload_n 3, 1) := dc9_29 (by decide +kernel)
theorem d_Wo_takeName_92 : decode y_Wo_takeName.2.1 92 = .ok (.ifCond .eq 7, 3) := dc9_153 (by decide +kernel)
theorem d_Wo_takeName_99 : decode y_Wo_takeName.2.1 99 = .ok (.aload_n 0, 1) := dc9_42 (by decide +kernel)
theorem d_Wo_takeName_100 : decode y_Wo_takeName.2.1 100 = .ok (.getfield 25, 3) := dc9_180 (by decide +kernel)
theorem d_Wo_takeName_95 : decode y_Wo_takeName.2.1 95 = .ok (.iload_n 2, 1) := dc9_28 (by decide +kernel)
theorem d_Wo_takeName_96 : decode y_Wo_takeName.2.1 96 = .ok (.goto 7, 3) := dc9_167 (by decide +kernel)
theorem d_Wo_takeName_103 : decode y_Wo_takeName.2.1 103 = .ok (.ireturn, 1) := dc9_172 (by decide +kernel)
def h_Wo_takeName_4 (G : mG) (d : Nat) (a0 : Nat) (l1 : Int) (l2 : Int) (M : mM) (Q : Int → mM → Prop) : Prop := mWm G y_Wo_takeName (d + 1) 4 [vr a0, vi l1, vi l2, vd] [] M (fun r9 M9 => ∃ x9, r9 = some (vi x9) ∧ Q x9 M9)
def h_Wo_takeName_84 (G : mG) (d : Nat) (a0 : Nat) (l1 : Int) (l2 : Int) (l3 : Int) (k0 : Nat) (k1 : Int) (M : mM) (Q : Int → mM → Prop) : Prop := mWm G y_Wo_takeName (d + 1) 84 [vr a0, vi l1, vi l2, vi l3] [vi k1, vr k0] M (fun r9 M9 => ∃ x9, r9 = some (vi x9) ∧ Q x9 M9)
theorem k_Wo_takeName {G : mG} {d : Nat} {a0 : Nat} {l1 : Int} {M : mM} {Q : Int → mM → Prop} (hO : mOk M) (hi_l1 : i32 l1)
    (h : h_Wo_takeName_4 G d a0 l1 (l1 + 1) M Q) :
    Ci G y_Wo_takeName (d + 1) [vr a0, vi l1] M Q := by
  refine wm_open (y := y_Wo_takeName) rfl (Nat.le_of_ble_eq_true rfl) (L := [vr a0, vi l1, vd, vd]) rfl ?_
  refine wm_iload_n d_Wo_takeName_0 rfl rfl ?_
  refine wm_iconst d_Wo_takeName_1 ?_
  refine wm_iadd d_Wo_takeName_2 ?_
  refine wm_istore_n d_Wo_takeName_3 rfl (by decide) (L' := [vr a0, vi l1, vi (l1 + 1), vd]) rfl ?_
  exact h
theorem k_Wo_takeName_4 {G : mG} {d : Nat} {a0 : Nat} {l1 : Int} {l2 : Int} {M : mM} {Q : Int → mM → Prop} (hO : mOk M) (hi_l1 : i32 l1) (hi_l2 : i32 l2)
    (h : mK M a0 = 2 ∧ ((mI M a0 1 ≤ l2) → (i32 (l2 - l1) ∧ ∀ v6 : Int, v6 = (if (40 < l2 - l1) then 0 else 1) → ((v6 = 0) → (h_Wo_takeName_84 G d a0 l1 l2 v6 a0 1 M Q)) ∧ (¬ (v6 = 0) → (Ci G y_Wo_nameSort d [vr a0, vi l1, vi (l2 - l1)] M (fun x14 M13 => i32 x14 ∧ mOk M13 ∧ (h_Wo_takeName_84 G d a0 l1 l2 v6 a0 x14 M13 Q)))))) ∧ (¬ (mI M a0 1 ≤ l2) → (mK M (mR M a0 0) = 32 ∧ ((0 : Int) ≤ l2 ∧ l2 < (mN M (mR M a0 0) : Int)) ∧ Ci G y_Wo_isLetter d [vi (mI M (mR M a0 0) (Int.toNat l2))] M (fun x20 M19 => i32 x20 ∧ mOk M19 ∧ (((x20 = 0) → (mK M19 a0 = 2 ∧ mK M19 (mR M19 a0 0) = 32 ∧ ((0 : Int) ≤ l2 ∧ l2 < (mN M19 (mR M19 a0 0) : Int)) ∧ Ci G y_Wo_isDigit d [vi (mI M19 (mR M19 a0 0) (Int.toNat l2))] M19 (fun x28 M27 => i32 x28 ∧ mOk M27 ∧ (((x28 = 0) → (mK M27 a0 = 2 ∧ mK M27 (mR M27 a0 0) = 32 ∧ ((0 : Int) ≤ l2 ∧ l2 < (mN M27 (mR M27 a0 0) : Int)))) ∧ (((¬ (x28 = 0)) ∨ (mI M27 (mR M27 a0 0) (Int.toNat l2) = 95)) → (h_Wo_takeName_4 G d a0 l1 (l2 + 1) M27 Q)) ∧ (¬ ((¬ (x28 = 0)) ∨ (mI M27 (mR M27 a0 0) (Int.toNat l2) = 95)) → (i32 (l2 - l1) ∧ ∀ v40 : Int, v40 = (if (40 < l2 - l1) then 0 else 1) → ((v40 = 0) → (h_Wo_takeName_84 G d a0 l1 l2 v40 a0 1 M27 Q)) ∧ (¬ (v40 = 0) → (mK M27 a0 = 2 ∧ Ci G y_Wo_nameSort d [vr a0, vi l1, vi (l2 - l1)] M27 (fun x49 M48 => i32 x49 ∧ mOk M48 ∧ (h_Wo_takeName_84 G d a0 l1 l2 v40 a0 x49 M48 Q)))))))))) ∧ (¬ (x20 = 0) → (h_Wo_takeName_4 G d a0 l1 (l2 + 1) M19 Q))))))) :
    h_Wo_takeName_4 G d a0 l1 l2 M Q := by
  unfold h_Wo_takeName_4
  obtain ⟨h1, h⟩ := h
  refine wm_iload_n d_Wo_takeName_4 rfl rfl ?_
  refine wm_aload_n d_Wo_takeName_5 rfl rfl ?_
  refine gf_Wo_25 rfl d_Wo_takeName_6 h1 ?_
  refine wm_icmp_ge (tgt := 53) d_Wo_takeName_9 rfl hi_l2 (hO _ _).1 (fun c3 => ?_) (fun c3 => ?_)
  · replace h := h.1 c3
    obtain ⟨h4, h⟩ := h
    refine wm_iload_n d_Wo_takeName_53 rfl rfl ?_
    refine wm_iload_n d_Wo_takeName_54 rfl rfl ?_
    refine wm_isub d_Wo_takeName_55 ?_
    refine wm_bipush d_Wo_takeName_56 (by decide) ?_
    have hJ : ∀ v6 : Int, v6 = (if (40 < l2 - l1) then 0 else 1) → mWm G y_Wo_takeName (d + 1) 66 [vr a0, vi l1, vi l2, vd] [vi v6] M (fun r9 M9 => ∃ x9, r9 = some (vi x9) ∧ Q x9 M9) := by
      intro v6 e8
      have h := h v6 e8
      have h9 : i32 v6 := by rw [e8]; (repeat' split) <;> first | exact ⟨by decide, by decide⟩ | exact ⟨by decide, by decide⟩
      have h10 : (v6 = 0 ∨ v6 = 1) := by rw [e8]; (repeat' split) <;> decide
      refine wm_istore_n d_Wo_takeName_66 rfl (by decide) (L' := [vr a0, vi l1, vi l2, vi v6]) rfl ?_
      refine wm_aload_n d_Wo_takeName_67 rfl rfl ?_
      refine wm_iload_n d_Wo_takeName_68 rfl rfl ?_
      refine wm_if_eq (tgt := 83) d_Wo_takeName_69 rfl h9 (fun c12 => ?_) (fun c12 => ?_)
      · replace h := h.1 c12
        refine wm_iconst d_Wo_takeName_83 ?_
        exact h
      · replace h := h.2 c12
        refine wm_aload_n d_Wo_takeName_72 rfl rfl ?_
        refine wm_iload_n d_Wo_takeName_73 rfl rfl ?_
        refine wm_iload_n d_Wo_takeName_74 rfl rfl ?_
        refine wm_iload_n d_Wo_takeName_75 rfl rfl ?_
        refine wm_isub d_Wo_takeName_76 ?_
        refine cf_Wo_68 rfl d_Wo_takeName_77 h1 (Nat.le_of_ble_eq_true rfl) (Ci.mono h (fun x14 M13 h => ?_))
        obtain ⟨h15, hOM13, h⟩ := h
        refine wm_goto (tgt := 84) d_Wo_takeName_80 rfl ?_
        exact h
    clear h
    refine wm_icmp_gt (tgt := 65) d_Wo_takeName_58 rfl h4 ⟨by decide, by decide⟩ (fun c5 => ?_) (fun c5 => ?_)
    · refine wm_iconst d_Wo_takeName_65 ?_
      exact hJ 0 (if_pos c5).symm
    · refine wm_iconst d_Wo_takeName_61 ?_
      refine wm_goto (tgt := 66) d_Wo_takeName_62 rfl ?_
      exact hJ 1 (if_neg c5).symm
  · replace h := h.2 c3
    obtain ⟨h17, h⟩ := h
    obtain ⟨h18, h⟩ := h
    refine wm_aload_n d_Wo_takeName_12 rfl rfl ?_
    refine gf_Wo_9 rfl d_Wo_takeName_13 h1 ?_
    refine wm_iload_n d_Wo_takeName_16 rfl rfl ?_
    refine wm_cald d_Wo_takeName_17 h17 h18 ?_
    refine cf_Wo_47 rfl d_Wo_takeName_18 (Nat.le_of_ble_eq_true rfl) (Ci.mono h (fun x20 M19 h => ?_))
    obtain ⟨h21, hOM19, h⟩ := h
    refine wm_if_ne (tgt := 47) d_Wo_takeName_21 rfl h21 (fun c23 => ?_) (fun c23 => ?_)
    · replace h := h.2 c23
      refine wm_iinc d_Wo_takeName_47 (by decide) rfl (L' := [vr a0, vi l1, vi (l2 + 1), vd]) rfl ?_
      refine wm_goto (tgt := 4) d_Wo_takeName_50 rfl ?_
      exact h
    · replace c23 := Classical.not_not.mp c23
      replace h := h.1 c23
      obtain ⟨h24, h⟩ := h
      obtain ⟨h25, h⟩ := h
      obtain ⟨h26, h⟩ := h
      refine wm_aload_n d_Wo_takeName_24 rfl rfl ?_
      refine gf_Wo_9 rfl d_Wo_takeName_25 h24 ?_
      refine wm_iload_n d_Wo_takeName_28 rfl rfl ?_
      refine wm_cald d_Wo_takeName_29 h25 h26 ?_
      refine cf_Wo_54 rfl d_Wo_takeName_30 (Nat.le_of_ble_eq_true rfl) (Ci.mono h (fun x28 M27 h => ?_))
      obtain ⟨h29, hOM27, h⟩ := h
      obtain ⟨s35, h⟩ := h
      have hE0 : ((¬ (x28 = 0)) ∨ (mI M27 (mR M27 a0 0) (Int.toNat l2) = 95)) → mWm G y_Wo_takeName (d + 1) 47 [vr a0, vi l1, vi l2, vd] [] M27 (fun r9 M9 => ∃ x9, r9 = some (vi x9) ∧ Q x9 M9) := by
        intro q36
        have h := h.1 q36
        refine wm_iinc d_Wo_takeName_47 (by decide) rfl (L' := [vr a0, vi l1, vi (l2 + 1), vd]) rfl ?_
        refine wm_goto (tgt := 4) d_Wo_takeName_50 rfl ?_
        exact h
      have hE1 : ¬ ((¬ (x28 = 0)) ∨ (mI M27 (mR M27 a0 0) (Int.toNat l2) = 95)) → mWm G y_Wo_takeName (d + 1) 53 [vr a0, vi l1, vi l2, vd] [] M27 (fun r9 M9 => ∃ x9, r9 = some (vi x9) ∧ Q x9 M9) := by
        intro q37
        have h := h.2 q37
        obtain ⟨h38, h⟩ := h
        refine wm_iload_n d_Wo_takeName_53 rfl rfl ?_
        refine wm_iload_n d_Wo_takeName_54 rfl rfl ?_
        refine wm_isub d_Wo_takeName_55 ?_
        refine wm_bipush d_Wo_takeName_56 (by decide) ?_
        have hJ : ∀ v40 : Int, v40 = (if (40 < l2 - l1) then 0 else 1) → mWm G y_Wo_takeName (d + 1) 66 [vr a0, vi l1, vi l2, vd] [vi v40] M27 (fun r9 M9 => ∃ x9, r9 = some (vi x9) ∧ Q x9 M9) := by
          intro v40 e42
          have h := h v40 e42
          have h43 : i32 v40 := by rw [e42]; (repeat' split) <;> first | exact ⟨by decide, by decide⟩ | exact ⟨by decide, by decide⟩
          have h44 : (v40 = 0 ∨ v40 = 1) := by rw [e42]; (repeat' split) <;> decide
          refine wm_istore_n d_Wo_takeName_66 rfl (by decide) (L' := [vr a0, vi l1, vi l2, vi v40]) rfl ?_
          refine wm_aload_n d_Wo_takeName_67 rfl rfl ?_
          refine wm_iload_n d_Wo_takeName_68 rfl rfl ?_
          refine wm_if_eq (tgt := 83) d_Wo_takeName_69 rfl h43 (fun c46 => ?_) (fun c46 => ?_)
          · replace h := h.1 c46
            refine wm_iconst d_Wo_takeName_83 ?_
            exact h
          · replace h := h.2 c46
            obtain ⟨h47, h⟩ := h
            refine wm_aload_n d_Wo_takeName_72 rfl rfl ?_
            refine wm_iload_n d_Wo_takeName_73 rfl rfl ?_
            refine wm_iload_n d_Wo_takeName_74 rfl rfl ?_
            refine wm_iload_n d_Wo_takeName_75 rfl rfl ?_
            refine wm_isub d_Wo_takeName_76 ?_
            refine cf_Wo_68 rfl d_Wo_takeName_77 h47 (Nat.le_of_ble_eq_true rfl) (Ci.mono h (fun x49 M48 h => ?_))
            obtain ⟨h50, hOM48, h⟩ := h
            refine wm_goto (tgt := 84) d_Wo_takeName_80 rfl ?_
            exact h
        clear h
        refine wm_icmp_gt (tgt := 65) d_Wo_takeName_58 rfl h38 ⟨by decide, by decide⟩ (fun c39 => ?_) (fun c39 => ?_)
        · refine wm_iconst d_Wo_takeName_65 ?_
          exact hJ 0 (if_pos c39).symm
        · refine wm_iconst d_Wo_takeName_61 ?_
          refine wm_goto (tgt := 66) d_Wo_takeName_62 rfl ?_
          exact hJ 1 (if_neg c39).symm
      clear h
      have s52 := s35
      refine wm_if_ne (tgt := 47) d_Wo_takeName_33 rfl h29 (fun c34 => ?_) (fun c34 => ?_)
      · exact hE0 (Or.inl c34)
      · replace c34 := Classical.not_not.mp c34
        have s52 := s52 c34
        obtain ⟨h30, h31, h32⟩ := s52
        refine wm_aload_n d_Wo_takeName_36 rfl rfl ?_
        refine gf_Wo_9 rfl d_Wo_takeName_37 h30 ?_
        refine wm_iload_n d_Wo_takeName_40 rfl rfl ?_
        refine wm_cald d_Wo_takeName_41 h31 h32 ?_
        refine wm_bipush d_Wo_takeName_42 (by decide) ?_
        refine wm_icmp_ne (tgt := 53) d_Wo_takeName_44 rfl (hOM27 _ _).1 ⟨by decide, by decide⟩ (fun c33 => ?_) (fun c33 => ?_)
        · exact hE1 (fun z53 => Or.elim z53 (fun w => w c34) c33)
        · replace c33 := Classical.not_not.mp c33
          exact hE0 (Or.inr c33)
theorem k_Wo_takeName_84 {G : mG} {d : Nat} {a0 : Nat} {l1 : Int} {l2 : Int} {l3 : Int} {k0 : Nat} {k1 : Int} {M : mM} {Q : Int → mM → Prop} (hO : mOk M) (hi_l1 : i32 l1) (hi_l2 : i32 l2) (hi_l3 : i32 l3) (hi_k1 : i32 k1)
    (h : mK M k0 = 2 ∧ Cv G y_Wo_add d [vr k0, vi k1, vi l1, vi (l2 - l1)] M (fun M56 => mOk M56 ∧ (((l3 = 0) → mK M56 a0 = 2) ∧ ∀ v61 : Int, v61 = (if (l3 = 0) then mI M56 a0 1 else l2) → Q v61 M56))) :
    h_Wo_takeName_84 G d a0 l1 l2 l3 k0 k1 M Q := by
  unfold h_Wo_takeName_84
  obtain ⟨h55, h⟩ := h
  refine wm_iload_n d_Wo_takeName_84 rfl rfl ?_
  refine wm_iload_n d_Wo_takeName_85 rfl rfl ?_
  refine wm_iload_n d_Wo_takeName_86 rfl rfl ?_
  refine wm_isub d_Wo_takeName_87 ?_
  refine cf_Wo_43 rfl d_Wo_takeName_88 h55 (Nat.le_of_ble_eq_true rfl) (Cv.mono h (fun M56 h => ?_))
  obtain ⟨hOM56, h⟩ := h
  refine wm_iload_n d_Wo_takeName_91 rfl rfl ?_
  obtain ⟨s62, h⟩ := h
  have hJ : ∀ v61 : Int, v61 = (if (l3 = 0) then mI M56 a0 1 else l2) → mWm G y_Wo_takeName (d + 1) 103 [vd, vd, vd, vd] [vi v61] M56 (fun r9 M9 => ∃ x9, r9 = some (vi x9) ∧ Q x9 M9) := by
    intro v61 e63
    have h := h v61 e63
    refine wm_ireturn d_Wo_takeName_103 rfl rfl ?_
    exact ⟨_, rfl, h⟩
  clear h
  have s64 := s62
  refine wm_if_eq (tgt := 99) d_Wo_takeName_92 rfl hi_l3 (fun c59 => ?_) (fun c59 => ?_)
  · have s64 := s64 c59
    have h60 := s64
    refine wm_aload_n d_Wo_takeName_99 rfl rfl ?_
    refine gf_Wo_25 rfl d_Wo_takeName_100 h60 ?_
    refine wm_less (L' := [vd, vd, vd, vd]) ⟨Or.inl rfl, Or.inl rfl, Or.inl rfl, Or.inl rfl, trivial⟩ ?_
    exact hJ (mI M56 a0 1) (if_pos c59).symm
  · refine wm_iload_n d_Wo_takeName_95 rfl rfl ?_
    refine wm_goto (tgt := 103) d_Wo_takeName_96 rfl ?_
    refine wm_less (L' := [vd, vd, vd, vd]) ⟨Or.inl rfl, Or.inl rfl, Or.inl rfl, Or.inl rfl, trivial⟩ ?_
    exact hJ l2 (if_neg c59).symm
theorem d_Wo_takeNumber_0 : decode y_Wo_takeNumber.2.1 0 = .ok (.iconst 0, 1) := dc9_3 (by decide +kernel)
theorem d_Wo_takeNumber_1 : decode y_Wo_takeNumber.2.1 1 = .ok (.istore_n 2, 1) := dc9_61 (by decide +kernel)
theorem d_Wo_takeNumber_2 : decode y_Wo_takeNumber.2.1 2 = .ok (.iload_n 1, 1) := dc9_27 (by decide +kernel)
theorem d_Wo_takeNumber_3 : decode y_Wo_takeNumber.2.1 3 = .ok (.istore_n 3, 1) := dc9_62 (by decide +kernel)
theorem d_Wo_takeNumber_4 : decode y_Wo_takeNumber.2.1 4 = .ok (.iload_n 3, 1) := dc9_29 (by decide +kernel)
theorem d_Wo_takeNumber_5 : decode y_Wo_takeNumber.2.1 5 = .ok (.aload_n 0, 1) := dc9_42 (by decide +kernel)
theorem d_Wo_takeNumber_6 : decode y_Wo_takeNumber.2.1 6 = .ok (.getfield 25, 3) := dc9_180 (by decide +kernel)
theorem d_Wo_takeNumber_9 : decode y_Wo_takeNumber.2.1 9 = .ok (.if_icmp .ge 48, 3) := dc9_162 (by decide +kernel)
theorem d_Wo_takeNumber_12 : decode y_Wo_takeNumber.2.1 12 = .ok (.aload_n 0, 1) := dc9_42 (by decide +kernel)
theorem d_Wo_takeNumber_13 : decode y_Wo_takeNumber.2.1 13 = .ok (.getfield 9, 3) := dc9_180 (by decide +kernel)
theorem d_Wo_takeNumber_16 : decode y_Wo_takeNumber.2.1 16 = .ok (.iload_n 3, 1) := dc9_29 (by decide +kernel)
theorem d_Wo_takeNumber_17 : decode y_Wo_takeNumber.2.1 17 = .ok (.caload, 1) := dc9_52 (by decide +kernel)
theorem d_Wo_takeNumber_57 : decode y_Wo_takeNumber.2.1 57 = .ok (.iload_n 3, 1) := dc9_29 (by decide +kernel)
theorem d_Wo_takeNumber_58 : decode y_Wo_takeNumber.2.1 58 = .ok (.iload_n 1, 1) := dc9_27 (by decide +kernel)
theorem d_Wo_takeNumber_59 : decode y_Wo_takeNumber.2.1 59 = .ok (.isub, 1) := dc9_100 (by decide +kernel)
theorem d_Wo_takeNumber_60 : decode y_Wo_takeNumber.2.1 60 = .ok (.bipush 9, 2) := dc9_16 (by decide +kernel)
theorem d_Wo_takeNumber_62 : decode y_Wo_takeNumber.2.1 62 = .ok (.if_icmp .gt 7, 3) := dc9_163 (by decide +kernel)
theorem d_Wo_takeNumber_69 : decode y_Wo_takeNumber.2.1 69 = .ok (.iconst 0, 1) := dc9_3 (by decide +kernel)
theorem d_Wo_takeNumber_65 : decode y_Wo_takeNumber.2.1 65 = .ok (.iconst 1, 1) := dc9_4 (by decide +kernel)
theorem d_Wo_takeNumber_66 : decode y_Wo_takeNumber.2.1 66 = .ok (.goto 4, 3) := dc9_167 (by decide +kernel)
theorem d_Wo_takeNumber_70 : decode y_Wo_takeNumber.2.1 70 = .ok (.istore 4, 2) := dc9_54 (by decide +kernel)
theorem d_Wo_takeNumber_72 : decode y_Wo_takeNumber.2.1 72 = .ok (.aload_n 0, 1) := dc9_42 (by decide +kernel)
theorem d_Wo_takeNumber_73 : decode y_Wo_takeNumber.2.1 73 = .ok (.iload 4, 2) := dc9_21 (by decide +kernel)
theorem d_Wo_takeNumber_75 : decode y_Wo_takeNumber.2.1 75 = .ok (.ifCond .eq 7, 3) := dc9_153 (by decide +kernel)
theorem d_Wo_takeNumber_82 : decode y_Wo_takeNumber.2.1 82 = .ok (.iconst 1, 1) := dc9_4 (by decide +kernel)
theorem d_Wo_takeNumber_78 : decode y_Wo_takeNumber.2.1 78 = .ok (.iconst 3, 1) := dc9_6 (by decide +kernel)
theorem d_Wo_takeNumber_79 : decode y_Wo_takeNumber.2.1 79 = .ok (.goto 4, 3) := dc9_167 (by decide +kernel)
theorem d_Wo_takeNumber_83 : decode y_Wo_takeNumber.2.1 83 = .ok (.iload_n 1, 1) := dc9_27 (by decide +kernel)
theorem d_Wo_takeNumber_84 : decode y_Wo_takeNumber.2.1 84 = .ok (.iload_n 2, 1) := dc9_28 (by decide +kernel)
theorem d_Wo_takeNumber_85 : decode y_Wo_takeNumber.2.1 85 = .ok (.invokevirtual 43, 3) := dc9_182 (by decide +kernel)
theorem d_Wo_takeNumber_88 : decode y_Wo_takeNumber.2.1 88 = .ok (.iload 4, 2) := dc9_21 (by decide +kernel)
theorem d_Wo_takeNumber_90 : decode y_Wo_takeNumber.2.1 90 = .ok (.ifCond .eq 7, 3) := dc9_153 (by decide +kernel)
theorem d_Wo_takeNumber_97 : decode y_Wo_takeNumber.2.1 97 = .ok (.aload_n 0, 1) := dc9_42 (by decide +kernel)
theorem d_Wo_takeNumber_98 : decode y_Wo_takeNumber.2.1 98 = .ok (.getfield 25, 3) := dc9_180 (by decide +kernel)
theorem d_Wo_takeNumber_93 : decode y_Wo_takeNumber.2.1 93 = .ok (.iload_n 3, 1) := dc9_29 (by decide +kernel)
theorem d_Wo_takeNumber_94 : decode y_Wo_takeNumber.2.1 94 = .ok (.goto 7, 3) := dc9_167 (by decide +kernel)
theorem d_Wo_takeNumber_101 : decode y_Wo_takeNumber.2.1 101 = .ok (.ireturn, 1) := dc9_172 (by decide +kernel)
theorem d_Wo_takeNumber_18 : decode y_Wo_takeNumber.2.1 18 = .ok (.invokestatic 54, 3) := dc9_184 (by decide +kernel)
theorem d_Wo_takeNumber_21 : decode y_Wo_takeNumber.2.1 21 = .ok (.ifCond .eq 36, 3) := dc9_153 (by decide +kernel)
theorem d_Wo_takeNumber_24 : decode y_Wo_takeNumber.2.1 24 = .ok (.iload_n 3, 1) := dc9_29 (by decide +kernel)
theorem d_Wo_takeNumber_25 : decode y_Wo_takeNumber.2.1 25 = .ok (.iload_n 1, 1) := dc9_27 (by decide +kernel)
theorem d_Wo_takeNumber_26 : decode y_Wo_takeNumber.2.1 26 = .ok (.isub, 1) := dc9_100 (by decide +kernel)
theorem d_Wo_takeNumber_27 : decode y_Wo_takeNumber.2.1 27 = .ok (.bipush 9, 2) := dc9_16 (by decide +kernel)
theorem d_Wo_takeNumber_29 : decode y_Wo_takeNumber.2.1 29 = .ok (.if_icmp .ge 20, 3) := dc9_162 (by decide +kernel)
theorem d_Wo_takeNumber_49 : decode y_Wo_takeNumber.2.1 49 = .ok (.iconst 0, 1) := dc9_3 (by decide +kernel)
theorem d_Wo_takeNumber_50 : decode y_Wo_takeNumber.2.1 50 = .ok (.istore_n 2, 1) := dc9_61 (by decide +kernel)
theorem d_Wo_takeNumber_51 : decode y_Wo_takeNumber.2.1 51 = .ok (.iinc 3 1, 3) := by decide +kernel
theorem d_Wo_takeNumber_54 : decode y_Wo_takeNumber.2.1 54 = .ok (.goto (-50), 3) := dc9_167 (by decide +kernel)
theorem d_Wo_takeNumber_32 : decode y_Wo_takeNumber.2.1 32 = .ok (.bipush 10, 2) := dc9_16 (by decide +kernel)
theorem d_Wo_takeNumber_34 : decode y_Wo_takeNumber.2.1 34 = .ok (.iload_n 2, 1) := dc9_28 (by decide +kernel)
theorem d_Wo_takeNumber_35 : decode y_Wo_takeNumber.2.1 35 = .ok (.imul, 1) := dc9_104 (by decide +kernel)
theorem d_Wo_takeNumber_36 : decode y_Wo_takeNumber.2.1 36 = .ok (.aload_n 0, 1) := dc9_42 (by decide +kernel)
theorem d_Wo_takeNumber_37 : decode y_Wo_takeNumber.2.1 37 = .ok (.getfield 9, 3) := dc9_180 (by decide +kernel)
theorem d_Wo_takeNumber_40 : decode y_Wo_takeNumber.2.1 40 = .ok (.iload_n 3, 1) := dc9_29 (by decide +kernel)
theorem d_Wo_takeNumber_41 : decode y_Wo_takeNumber.2.1 41 = .ok (.caload, 1) := dc9_52 (by decide +kernel)
theorem d_Wo_takeNumber_42 : decode y_Wo_takeNumber.2.1 42 = .ok (.bipush 48, 2) := dc9_16 (by decide +kernel)
theorem d_Wo_takeNumber_44 : decode y_Wo_takeNumber.2.1 44 = .ok (.isub, 1) := dc9_100 (by decide +kernel)
theorem d_Wo_takeNumber_45 : decode y_Wo_takeNumber.2.1 45 = .ok (.iadd, 1) := dc9_96 (by decide +kernel)
theorem d_Wo_takeNumber_46 : decode y_Wo_takeNumber.2.1 46 = .ok (.goto 4, 3) := dc9_167 (by decide +kernel)
def h_Wo_takeNumber_4 (G : mG) (d : Nat) (a0 : Nat) (l1 : Int) (l2 : Int) (l3 : Int) (M : mM) (Q : Int → mM → Prop) : Prop := mWm G y_Wo_takeNumber (d + 1) 4 [vr a0, vi l1, vi l2, vi l3, vd] [] M (fun r9 M9 => ∃ x9, r9 = some (vi x9) ∧ Q x9 M9)
theorem k_Wo_takeNumber {G : mG} {d : Nat} {a0 : Nat} {l1 : Int} {M : mM} {Q : Int → mM → Prop} (hO : mOk M) (hi_l1 : i32 l1)
    (h : h_Wo_takeNumber_4 G d a0 l1 0 l1 M Q) :
    Ci G y_Wo_takeNumber (d + 1) [vr a0, vi l1] M Q := by
  refine wm_open (y := y_Wo_takeNumber) rfl (Nat.le_of_ble_eq_true rfl) (L := [vr a0, vi l1, vd, vd, vd]) rfl ?_
  refine wm_iconst d_Wo_takeNumber_0 ?_
  refine wm_istore_n d_Wo_takeNumber_1 rfl (by decide) (L' := [vr a0, vi l1, vi 0, vd, vd]) rfl ?_
  refine wm_iload_n d_Wo_takeNumber_2 rfl rfl ?_
  refine wm_istore_n d_Wo_takeNumber_3 rfl (by decide) (L' := [vr a0, vi l1, vi 0, vi l1, vd]) rfl ?_
  exact h
theorem k_Wo_takeNumber_4 {G : mG} {d : Nat} {a0 : Nat} {l1 : Int} {l2 : Int} {l3 : Int} {M : mM} {Q : Int → mM → Prop} (hO : mOk M) (hi_l1 : i32 l1) (hi_l2 : i32 l2) (hi_l3 : i32 l3)
    (h : mK M a0 = 2 ∧ ((mI M a0 1 ≤ l3) → (i32 (l3 - l1) ∧ ∀ v6 : Int, v6 = (if (9 < l3 - l1) then 0 else 1) → ∀ v12 : Int, v12 = (if (v6 = 0) then 1 else 3) → Cv G y_Wo_add d [vr a0, vi v12, vi l1, vi l2] M (fun M16 => mOk M16 ∧ (((v6 = 0) → mK M16 a0 = 2) ∧ ∀ v21 : Int, v21 = (if (v6 = 0) then mI M16 a0 1 else l3) → Q v21 M16)))) ∧ (¬ (mI M a0 1 ≤ l3) → (mK M (mR M a0 0) = 32 ∧ ((0 : Int) ≤ l3 ∧ l3 < (mN M (mR M a0 0) : Int)) ∧ Ci G y_Wo_isDigit d [vi (mI M (mR M a0 0) (Int.toNat l3))] M (fun x31 M30 => i32 x31 ∧ mOk M30 ∧ (((x31 = 0) → (i32 (l3 - l1) ∧ ∀ v42 : Int, v42 = (if (9 < l3 - l1) then 0 else 1) → ∀ v48 : Int, v48 = (if (v42 = 0) then 1 else 3) → mK M30 a0 = 2 ∧ Cv G y_Wo_add d [vr a0, vi v48, vi l1, vi l2] M30 (fun M53 => mOk M53 ∧ (((v42 = 0) → mK M53 a0 = 2) ∧ ∀ v58 : Int, v58 = (if (v42 = 0) then mI M53 a0 1 else l3) → Q v58 M53)))) ∧ (¬ (x31 = 0) → (i32 (l3 - l1) ∧ (¬ (9 ≤ l3 - l1) → (mK M30 a0 = 2 ∧ mK M30 (mR M30 a0 0) = 32 ∧ ((0 : Int) ≤ l3 ∧ l3 < (mN M30 (mR M30 a0 0) : Int)))) ∧ ∀ v70 : Int, v70 = (if (9 ≤ l3 - l1) then 0 else (10 * l2) + ((mI M30 (mR M30 a0 0) (Int.toNat l3)) - 48)) → h_Wo_takeNumber_4 G d a0 l1 v70 (l3 + 1) M30 Q))))))) :
    h_Wo_takeNumber_4 G d a0 l1 l2 l3 M Q := by
  unfold h_Wo_takeNumber_4
  obtain ⟨h1, h⟩ := h
  refine wm_iload_n d_Wo_takeNumber_4 rfl rfl ?_
  refine wm_aload_n d_Wo_takeNumber_5 rfl rfl ?_
  refine gf_Wo_25 rfl d_Wo_takeNumber_6 h1 ?_
  refine wm_icmp_ge (tgt := 57) d_Wo_takeNumber_9 rfl hi_l3 (hO _ _).1 (fun c3 => ?_) (fun c3 => ?_)
  · replace h := h.1 c3
    obtain ⟨h4, h⟩ := h
    refine wm_iload_n d_Wo_takeNumber_57 rfl rfl ?_
    refine wm_iload_n d_Wo_takeNumber_58 rfl rfl ?_
    refine wm_isub d_Wo_takeNumber_59 ?_
    refine wm_bipush d_Wo_takeNumber_60 (by decide) ?_
    have hJ : ∀ v6 : Int, v6 = (if (9 < l3 - l1) then 0 else 1) → mWm G y_Wo_takeNumber (d + 1) 70 [vr a0, vi l1, vi l2, vi l3, vd] [vi v6] M (fun r9 M9 => ∃ x9, r9 = some (vi x9) ∧ Q x9 M9) := by
      intro v6 e8
      have h := h v6 e8
      have h9 : i32 v6 := by rw [e8]; (repeat' split) <;> first | exact ⟨by decide, by decide⟩ | exact ⟨by decide, by decide⟩
      have h10 : (v6 = 0 ∨ v6 = 1) := by rw [e8]; (repeat' split) <;> decide
      refine wm_istore d_Wo_takeNumber_70 (by decide) (L' := [vr a0, vi l1, vi l2, vi l3, vi v6]) rfl ?_
      refine wm_aload_n d_Wo_takeNumber_72 rfl rfl ?_
      refine wm_iload d_Wo_takeNumber_73 rfl ?_
      have hJ : ∀ v12 : Int, v12 = (if (v6 = 0) then 1 else 3) → mWm G y_Wo_takeNumber (d + 1) 83 [vr a0, vi l1, vi l2, vi l3, vi v6] [vi v12, vr a0] M (fun r9 M9 => ∃ x9, r9 = some (vi x9) ∧ Q x9 M9) := by
        intro v12 e14
        have h := h v12 e14
        have h15 : i32 v12 := by rw [e14]; (repeat' split) <;> first | exact ⟨by decide, by decide⟩ | exact ⟨by decide, by decide⟩
        refine wm_iload_n d_Wo_takeNumber_83 rfl rfl ?_
        refine wm_iload_n d_Wo_takeNumber_84 rfl rfl ?_
        refine cf_Wo_43 rfl d_Wo_takeNumber_85 h1 (Nat.le_of_ble_eq_true rfl) (Cv.mono h (fun M16 h => ?_))
        obtain ⟨hOM16, h⟩ := h
        refine wm_iload d_Wo_takeNumber_88 rfl ?_
        obtain ⟨s22, h⟩ := h
        have hJ : ∀ v21 : Int, v21 = (if (v6 = 0) then mI M16 a0 1 else l3) → mWm G y_Wo_takeNumber (d + 1) 101 [vd, vd, vd, vd, vd] [vi v21] M16 (fun r9 M9 => ∃ x9, r9 = some (vi x9) ∧ Q x9 M9) := by
          intro v21 e23
          have h := h v21 e23
          refine wm_ireturn d_Wo_takeNumber_101 rfl rfl ?_
          exact ⟨_, rfl, h⟩
        clear h
        have s24 := s22
        refine wm_if_eq (tgt := 97) d_Wo_takeNumber_90 rfl h9 (fun c19 => ?_) (fun c19 => ?_)
        · have s24 := s24 c19
          have h20 := s24
          refine wm_aload_n d_Wo_takeNumber_97 rfl rfl ?_
          refine gf_Wo_25 rfl d_Wo_takeNumber_98 h20 ?_
          refine wm_less (L' := [vd, vd, vd, vd, vd]) ⟨Or.inl rfl, Or.inl rfl, Or.inl rfl, Or.inl rfl, Or.inl rfl, trivial⟩ ?_
          exact hJ (mI M16 a0 1) (if_pos c19).symm
        · refine wm_iload_n d_Wo_takeNumber_93 rfl rfl ?_
          refine wm_goto (tgt := 101) d_Wo_takeNumber_94 rfl ?_
          refine wm_less (L' := [vd, vd, vd, vd, vd]) ⟨Or.inl rfl, Or.inl rfl, Or.inl rfl, Or.inl rfl, Or.inl rfl, trivial⟩ ?_
          exact hJ l3 (if_neg c19).symm
      clear h
      refine wm_if_eq (tgt := 82) d_Wo_takeNumber_75 rfl h9 (fun c11 => ?_) (fun c11 => ?_)
      · refine wm_iconst d_Wo_takeNumber_82 ?_
        exact hJ 1 (if_pos c11).symm
      · refine wm_iconst d_Wo_takeNumber_78 ?_
        refine wm_goto (tgt := 83) d_Wo_takeNumber_79 rfl ?_
        exact hJ 3 (if_neg c11).symm
    clear h
    refine wm_icmp_gt (tgt := 69) d_Wo_takeNumber_62 rfl h4 ⟨by decide, by decide⟩ (fun c5 => ?_) (fun c5 => ?_)
    · refine wm_iconst d_Wo_takeNumber_69 ?_
      exact hJ 0 (if_pos c5).symm
    · refine wm_iconst d_Wo_takeNumber_65 ?_
      refine wm_goto (tgt := 70) d_Wo_takeNumber_66 rfl ?_
      exact hJ 1 (if_neg c5).symm
  · replace h := h.2 c3
    obtain ⟨h28, h⟩ := h
    obtain ⟨h29, h⟩ := h
    refine wm_aload_n d_Wo_takeNumber_12 rfl rfl ?_
    refine gf_Wo_9 rfl d_Wo_takeNumber_13 h1 ?_
    refine wm_iload_n d_Wo_takeNumber_16 rfl rfl ?_
    refine wm_cald d_Wo_takeNumber_17 h28 h29 ?_
    refine cf_Wo_54 rfl d_Wo_takeNumber_18 (Nat.le_of_ble_eq_true rfl) (Ci.mono h (fun x31 M30 h => ?_))
    obtain ⟨h32, hOM30, h⟩ := h
    refine wm_if_eq (tgt := 57) d_Wo_takeNumber_21 rfl h32 (fun c39 => ?_) (fun c39 => ?_)
    · replace h := h.1 c39
      obtain ⟨h40, h⟩ := h
      refine wm_iload_n d_Wo_takeNumber_57 rfl rfl ?_
      refine wm_iload_n d_Wo_takeNumber_58 rfl rfl ?_
      refine wm_isub d_Wo_takeNumber_59 ?_
      refine wm_bipush d_Wo_takeNumber_60 (by decide) ?_
      have hJ : ∀ v42 : Int, v42 = (if (9 < l3 - l1) then 0 else 1) → mWm G y_Wo_takeNumber (d + 1) 70 [vr a0, vi l1, vi l2, vi l3, vd] [vi v42] M30 (fun r9 M9 => ∃ x9, r9 = some (vi x9) ∧ Q x9 M9) := by
        intro v42 e44
        have h := h v42 e44
        have h45 : i32 v42 := by rw [e44]; (repeat' split) <;> first | exact ⟨by decide, by decide⟩ | exact ⟨by decide, by decide⟩
        have h46 : (v42 = 0 ∨ v42 = 1) := by rw [e44]; (repeat' split) <;> decide
        refine wm_istore d_Wo_takeNumber_70 (by decide) (L' := [vr a0, vi l1, vi l2, vi l3, vi v42]) rfl ?_
        refine wm_aload_n d_Wo_takeNumber_72 rfl rfl ?_
        refine wm_iload d_Wo_takeNumber_73 rfl ?_
        have hJ : ∀ v48 : Int, v48 = (if (v42 = 0) then 1 else 3) → mWm G y_Wo_takeNumber (d + 1) 83 [vr a0, vi l1, vi l2, vi l3, vi v42] [vi v48, vr a0] M30 (fun r9 M9 => ∃ x9, r9 = some (vi x9) ∧ Q x9 M9) := by
          intro v48 e50
          have h := h v48 e50
          have h51 : i32 v48 := by rw [e50]; (repeat' split) <;> first | exact ⟨by decide, by decide⟩ | exact ⟨by decide, by decide⟩
          obtain ⟨h52, h⟩ := h
          refine wm_iload_n d_Wo_takeNumber_83 rfl rfl ?_
          refine wm_iload_n d_Wo_takeNumber_84 rfl rfl ?_
          refine cf_Wo_43 rfl d_Wo_takeNumber_85 h52 (Nat.le_of_ble_eq_true rfl) (Cv.mono h (fun M53 h => ?_))
          obtain ⟨hOM53, h⟩ := h
          refine wm_iload d_Wo_takeNumber_88 rfl ?_
          obtain ⟨s59, h⟩ := h
          have hJ : ∀ v58 : Int, v58 = (if (v42 = 0) then mI M53 a0 1 else l3) → mWm G y_Wo_takeNumber (d + 1) 101 [vd, vd, vd, vd, vd] [vi v58] M53 (fun r9 M9 => ∃ x9, r9 = some (vi x9) ∧ Q x9 M9) := by
            intro v58 e60
            have h := h v58 e60
            refine wm_ireturn d_Wo_takeNumber_101 rfl rfl ?_
            exact ⟨_, rfl, h⟩
          clear h
          have s61 := s59
          refine wm_if_eq (tgt := 97) d_Wo_takeNumber_90 rfl h45 (fun c56 => ?_) (fun c56 => ?_)
          · have s61 := s61 c56
            have h57 := s61
            refine wm_aload_n d_Wo_takeNumber_97 rfl rfl ?_
            refine gf_Wo_25 rfl d_Wo_takeNumber_98 h57 ?_
            refine wm_less (L' := [vd, vd, vd, vd, vd]) ⟨Or.inl rfl, Or.inl rfl, Or.inl rfl, Or.inl rfl, Or.inl rfl, trivial⟩ ?_
            exact hJ (mI M53 a0 1) (if_pos c56).symm
          · refine wm_iload_n d_Wo_takeNumber_93 rfl rfl ?_
            refine wm_goto (tgt := 101) d_Wo_takeNumber_94 rfl ?_
            refine wm_less (L' := [vd, vd, vd, vd, vd]) ⟨Or.inl rfl, Or.inl rfl, Or.inl rfl, Or.inl rfl, Or.inl rfl, trivial⟩ ?_
            exact hJ l3 (if_neg c56).symm
        clear h
        refine wm_if_eq (tgt := 82) d_Wo_takeNumber_75 rfl h45 (fun c47 => ?_) (fun c47 => ?_)
        · refine wm_iconst d_Wo_takeNumber_82 ?_
          exact hJ 1 (if_pos c47).symm
        · refine wm_iconst d_Wo_takeNumber_78 ?_
          refine wm_goto (tgt := 83) d_Wo_takeNumber_79 rfl ?_
          exact hJ 3 (if_neg c47).symm
      clear h
      refine wm_icmp_gt (tgt := 69) d_Wo_takeNumber_62 rfl h40 ⟨by decide, by decide⟩ (fun c41 => ?_) (fun c41 => ?_)
      · refine wm_iconst d_Wo_takeNumber_69 ?_
        exact hJ 0 (if_pos c41).symm
      · refine wm_iconst d_Wo_takeNumber_65 ?_
        refine wm_goto (tgt := 70) d_Wo_takeNumber_66 rfl ?_
        exact hJ 1 (if_neg c41).symm
    · replace h := h.2 c39
      obtain ⟨h65, h⟩ := h
      refine wm_iload_n d_Wo_takeNumber_24 rfl rfl ?_
      refine wm_iload_n d_Wo_takeNumber_25 rfl rfl ?_
      refine wm_isub d_Wo_takeNumber_26 ?_
      refine wm_bipush d_Wo_takeNumber_27 (by decide) ?_
      obtain ⟨s71, h⟩ := h
      have hJ : ∀ v70 : Int, v70 = (if (9 ≤ l3 - l1) then 0 else (10 * l2) + ((mI M30 (mR M30 a0 0) (Int.toNat l3)) - 48)) → mWm G y_Wo_takeNumber (d + 1) 50 [vr a0, vi l1, vd, vi l3, vd] [vi v70] M30 (fun r9 M9 => ∃ x9, r9 = some (vi x9) ∧ Q x9 M9) := by
        intro v70 e72
        have h := h v70 e72
        refine wm_istore_n d_Wo_takeNumber_50 rfl (by decide) (L' := [vr a0, vi l1, vi v70, vi l3, vd]) rfl ?_
        refine wm_iinc d_Wo_takeNumber_51 (by decide) rfl (L' := [vr a0, vi l1, vi v70, vi (l3 + 1), vd]) rfl ?_
        refine wm_goto (tgt := 4) d_Wo_takeNumber_54 rfl ?_
        exact h
      clear h
      have s73 := s71
      refine wm_icmp_ge (tgt := 49) d_Wo_takeNumber_29 rfl h65 ⟨by decide, by decide⟩ (fun c66 => ?_) (fun c66 => ?_)
      · refine wm_iconst d_Wo_takeNumber_49 ?_
        refine wm_less (L' := [vr a0, vi l1, vd, vi l3, vd]) ⟨Or.inr rfl, Or.inr rfl, Or.inl rfl, Or.inr rfl, Or.inl rfl, trivial⟩ ?_
        exact hJ 0 (if_pos c66).symm
      · have s73 := s73 c66
        obtain ⟨h67, h68, h69⟩ := s73
        refine wm_bipush d_Wo_takeNumber_32 (by decide) ?_
        refine wm_iload_n d_Wo_takeNumber_34 rfl rfl ?_
        refine wm_imul d_Wo_takeNumber_35 ?_
        refine wm_aload_n d_Wo_takeNumber_36 rfl rfl ?_
        refine gf_Wo_9 rfl d_Wo_takeNumber_37 h67 ?_
        refine wm_iload_n d_Wo_takeNumber_40 rfl rfl ?_
        refine wm_cald d_Wo_takeNumber_41 h68 h69 ?_
        refine wm_bipush d_Wo_takeNumber_42 (by decide) ?_
        refine wm_isub d_Wo_takeNumber_44 ?_
        refine wm_iadd d_Wo_takeNumber_45 ?_
        refine wm_goto (tgt := 50) d_Wo_takeNumber_46 rfl ?_
        refine wm_less (L' := [vr a0, vi l1, vd, vi l3, vd]) ⟨Or.inr rfl, Or.inr rfl, Or.inl rfl, Or.inr rfl, Or.inl rfl, trivial⟩ ?_
        exact hJ ((10 * l2) + ((mI M30 (mR M30 a0 0) (Int.toNat l3)) - 48)) (if_neg c66).symm
theorem d_Wo_isLetter_0 : decode y_Wo_isLetter.2.1 0 = .ok (.iload_n 0, 1) := dc9_26 (by decide +kernel)
theorem d_Wo_isLetter_1 : decode y_Wo_isLetter.2.1 1 = .ok (.bipush 97, 2) := dc9_16 (by decide +kernel)
theorem d_Wo_isLetter_3 : decode y_Wo_isLetter.2.1 3 = .ok (.if_icmp .lt 9, 3) := dc9_161 (by decide +kernel)
theorem d_Wo_isLetter_12 : decode y_Wo_isLetter.2.1 12 = .ok (.iload_n 0, 1) := dc9_26 (by decide +kernel)
theorem d_Wo_isLetter_13 : decode y_Wo_isLetter.2.1 13 = .ok (.bipush 65, 2) := dc9_16 (by decide +kernel)
theorem d_Wo_isLetter_15 : decode y_Wo_isLetter.2.1 15 = .ok (.if_icmp .lt 13, 3) := dc9_161 (by decide +kernel)
theorem d_Wo_isLetter_28 : decode y_Wo_isLetter.2.1 28 = .ok (.iconst 0, 1) := dc9_3 (by decide +kernel)
theorem d_Wo_isLetter_18 : decode y_Wo_isLetter.2.1 18 = .ok (.iload_n 0, 1) := dc9_26 (by decide +kernel)
theorem d_Wo_isLetter_19 : decode y_Wo_isLetter.2.1 19 = .ok (.bipush 90, 2) := dc9_16 (by decide +kernel)
theorem d_Wo_isLetter_21 : decode y_Wo_isLetter.2.1 21 = .ok (.if_icmp .gt 7, 3) := dc9_163 (by decide +kernel)
theorem d_Wo_isLetter_24 : decode y_Wo_isLetter.2.1 24 = .ok (.iconst 1, 1) := dc9_4 (by decide +kernel)
theorem d_Wo_isLetter_25 : decode y_Wo_isLetter.2.1 25 = .ok (.goto 4, 3) := dc9_167 (by decide +kernel)
theorem d_Wo_isLetter_6 : decode y_Wo_isLetter.2.1 6 = .ok (.iload_n 0, 1) := dc9_26 (by decide +kernel)
theorem d_Wo_isLetter_7 : decode y_Wo_isLetter.2.1 7 = .ok (.bipush 122, 2) := dc9_16 (by decide +kernel)
theorem d_Wo_isLetter_9 : decode y_Wo_isLetter.2.1 9 = .ok (.if_icmp .le 15, 3) := dc9_164 (by decide +kernel)
theorem d_Wo_isLetter_29 : decode y_Wo_isLetter.2.1 29 = .ok (.ireturn, 1) := dc9_172 (by decide +kernel)
theorem k_Wo_isLetter {G : mG} {d : Nat} {l0 : Int} {M : mM} {Q : Int → mM → Prop} (hO : mOk M) (hi_l0 : i32 l0)
    (h : ∀ v7 : Int, v7 = (if (((l0 < 97) ∧ ((l0 < 65) ∨ (90 < l0))) ∨ ((¬ (l0 < 97)) ∧ ((¬ (l0 ≤ 122)) ∧ ((l0 < 65) ∨ (90 < l0))))) then 0 else 1) → Q v7 M) :
    Ci G y_Wo_isLetter d [vi l0] M Q := by
  refine wm_open (y := y_Wo_isLetter) rfl (Nat.le_of_ble_eq_true rfl) (L := [vi l0]) rfl ?_
  refine wm_iload_n d_Wo_isLetter_0 rfl rfl ?_
  refine wm_bipush d_Wo_isLetter_1 (by decide) ?_
  have hJ : ∀ v7 : Int, v7 = (if (((l0 < 97) ∧ ((l0 < 65) ∨ (90 < l0))) ∨ ((¬ (l0 < 97)) ∧ ((¬ (l0 ≤ 122)) ∧ ((l0 < 65) ∨ (90 < l0))))) then 0 else 1) → mWm G y_Wo_isLetter d 29 [vd] [vi v7] M (fun r9 M9 => ∃ x9, r9 = some (vi x9) ∧ Q x9 M9) := by
    intro v7 e9
    have h := h v7 e9
    have h10 : i32 v7 := by rw [e9]; (repeat' split) <;> first | exact ⟨by decide, by decide⟩ | exact ⟨by decide, by decide⟩
    have h11 : (v7 = 0 ∨ v7 = 1) := by rw [e9]; (repeat' split) <;> decide
    refine wm_ireturn d_Wo_isLetter_29 rfl (m_nb h11) ?_
    exact ⟨_, rfl, h⟩
  clear h
  refine wm_icmp_lt (tgt := 12) d_Wo_isLetter_3 rfl hi_l0 ⟨by decide, by decide⟩ (fun c1 => ?_) (fun c1 => ?_)
  · refine wm_iload_n d_Wo_isLetter_12 rfl rfl ?_
    refine wm_bipush d_Wo_isLetter_13 (by decide) ?_
    refine wm_icmp_lt (tgt := 28) d_Wo_isLetter_15 rfl hi_l0 ⟨by decide, by decide⟩ (fun c2 => ?_) (fun c2 => ?_)
    · refine wm_iconst d_Wo_isLetter_28 ?_
      refine wm_less (L' := [vd]) ⟨Or.inl rfl, trivial⟩ ?_
      exact hJ 0 (if_pos (Or.inl ⟨c1, (Or.inl c2)⟩)).symm
    · refine wm_iload_n d_Wo_isLetter_18 rfl rfl ?_
      refine wm_bipush d_Wo_isLetter_19 (by decide) ?_
      refine wm_icmp_gt (tgt := 28) d_Wo_isLetter_21 rfl hi_l0 ⟨by decide, by decide⟩ (fun c3 => ?_) (fun c3 => ?_)
      · refine wm_iconst d_Wo_isLetter_28 ?_
        refine wm_less (L' := [vd]) ⟨Or.inl rfl, trivial⟩ ?_
        exact hJ 0 (if_pos (Or.inl ⟨c1, (Or.inr c3)⟩)).symm
      · refine wm_iconst d_Wo_isLetter_24 ?_
        refine wm_goto (tgt := 29) d_Wo_isLetter_25 rfl ?_
        refine wm_less (L' := [vd]) ⟨Or.inl rfl, trivial⟩ ?_
        exact hJ 1 (if_neg (fun z12 => Or.elim z12 (fun w => (fun z13 => Or.elim z13 c2 c3) w.2) (fun w => w.1 c1))).symm
  · refine wm_iload_n d_Wo_isLetter_6 rfl rfl ?_
    refine wm_bipush d_Wo_isLetter_7 (by decide) ?_
    refine wm_icmp_le (tgt := 24) d_Wo_isLetter_9 rfl hi_l0 ⟨by decide, by decide⟩ (fun c4 => ?_) (fun c4 => ?_)
    · refine wm_iconst d_Wo_isLetter_24 ?_
      refine wm_goto (tgt := 29) d_Wo_isLetter_25 rfl ?_
      refine wm_less (L' := [vd]) ⟨Or.inl rfl, trivial⟩ ?_
      exact hJ 1 (if_neg (fun z15 => Or.elim z15 (fun w => c1 w.1) (fun w => (fun z16 => z16.1 c4) w.2))).symm
    · refine wm_iload_n d_Wo_isLetter_12 rfl rfl ?_
      refine wm_bipush d_Wo_isLetter_13 (by decide) ?_
      refine wm_icmp_lt (tgt := 28) d_Wo_isLetter_15 rfl hi_l0 ⟨by decide, by decide⟩ (fun c5 => ?_) (fun c5 => ?_)
      · refine wm_iconst d_Wo_isLetter_28 ?_
        refine wm_less (L' := [vd]) ⟨Or.inl rfl, trivial⟩ ?_
        exact hJ 0 (if_pos (Or.inr ⟨c1, ⟨c4, (Or.inl c5)⟩⟩)).symm
      · refine wm_iload_n d_Wo_isLetter_18 rfl rfl ?_
        refine wm_bipush d_Wo_isLetter_19 (by decide) ?_
        refine wm_icmp_gt (tgt := 28) d_Wo_isLetter_21 rfl hi_l0 ⟨by decide, by decide⟩ (fun c6 => ?_) (fun c6 => ?_)
        · refine wm_iconst d_Wo_isLetter_28 ?_
          refine wm_less (L' := [vd]) ⟨Or.inl rfl, trivial⟩ ?_
          exact hJ 0 (if_pos (Or.inr ⟨c1, ⟨c4, (Or.inr c6)⟩⟩)).symm
        · refine wm_iconst d_Wo_isLetter_24 ?_
          refine wm_goto (tgt := 29) d_Wo_isLetter_25 rfl ?_
          refine wm_less (L' := [vd]) ⟨Or.inl rfl, trivial⟩ ?_
          exact hJ 1 (if_neg (fun z17 => Or.elim z17 (fun w => c1 w.1) (fun w => (fun z18 => (fun z19 => Or.elim z19 c5 c6) z18.2) w.2))).symm
theorem d_Wo_isDigit_0 : decode y_Wo_isDigit.2.1 0 = .ok (.iload_n 0, 1) := dc9_26 (by decide +kernel)
theorem d_Wo_isDigit_1 : decode y_Wo_isDigit.2.1 1 = .ok (.bipush 48, 2) := dc9_16 (by decide +kernel)
theorem d_Wo_isDigit_3 : decode y_Wo_isDigit.2.1 3 = .ok (.if_icmp .lt 13, 3) := dc9_161 (by decide +kernel)
theorem d_Wo_isDigit_16 : decode y_Wo_isDigit.2.1 16 = .ok (.iconst 0, 1) := dc9_3 (by decide +kernel)
theorem d_Wo_isDigit_6 : decode y_Wo_isDigit.2.1 6 = .ok (.iload_n 0, 1) := dc9_26 (by decide +kernel)
theorem d_Wo_isDigit_7 : decode y_Wo_isDigit.2.1 7 = .ok (.bipush 57, 2) := dc9_16 (by decide +kernel)
theorem d_Wo_isDigit_9 : decode y_Wo_isDigit.2.1 9 = .ok (.if_icmp .gt 7, 3) := dc9_163 (by decide +kernel)
theorem d_Wo_isDigit_12 : decode y_Wo_isDigit.2.1 12 = .ok (.iconst 1, 1) := dc9_4 (by decide +kernel)
theorem d_Wo_isDigit_13 : decode y_Wo_isDigit.2.1 13 = .ok (.goto 4, 3) := dc9_167 (by decide +kernel)
theorem d_Wo_isDigit_17 : decode y_Wo_isDigit.2.1 17 = .ok (.ireturn, 1) := dc9_172 (by decide +kernel)
theorem k_Wo_isDigit {G : mG} {d : Nat} {l0 : Int} {M : mM} {Q : Int → mM → Prop} (hO : mOk M) (hi_l0 : i32 l0)
    (h : ∀ v3 : Int, v3 = (if ((l0 < 48) ∨ (57 < l0)) then 0 else 1) → Q v3 M) :
    Ci G y_Wo_isDigit d [vi l0] M Q := by
  refine wm_open (y := y_Wo_isDigit) rfl (Nat.le_of_ble_eq_true rfl) (L := [vi l0]) rfl ?_
  refine wm_iload_n d_Wo_isDigit_0 rfl rfl ?_
  refine wm_bipush d_Wo_isDigit_1 (by decide) ?_
  have hJ : ∀ v3 : Int, v3 = (if ((l0 < 48) ∨ (57 < l0)) then 0 else 1) → mWm G y_Wo_isDigit d 17 [vd] [vi v3] M (fun r9 M9 => ∃ x9, r9 = some (vi x9) ∧ Q x9 M9) := by
    intro v3 e5
    have h := h v3 e5
    have h6 : i32 v3 := by rw [e5]; (repeat' split) <;> first | exact ⟨by decide, by decide⟩ | exact ⟨by decide, by decide⟩
    have h7 : (v3 = 0 ∨ v3 = 1) := by rw [e5]; (repeat' split) <;> decide
    refine wm_ireturn d_Wo_isDigit_17 rfl (m_nb h7) ?_
    exact ⟨_, rfl, h⟩
  clear h
  refine wm_icmp_lt (tgt := 16) d_Wo_isDigit_3 rfl hi_l0 ⟨by decide, by decide⟩ (fun c1 => ?_) (fun c1 => ?_)
  · refine wm_iconst d_Wo_isDigit_16 ?_
    refine wm_less (L' := [vd]) ⟨Or.inl rfl, trivial⟩ ?_
    exact hJ 0 (if_pos (Or.inl c1)).symm
  · refine wm_iload_n d_Wo_isDigit_6 rfl rfl ?_
    refine wm_bipush d_Wo_isDigit_7 (by decide) ?_
    refine wm_icmp_gt (tgt := 16) d_Wo_isDigit_9 rfl hi_l0 ⟨by decide, by decide⟩ (fun c2 => ?_) (fun c2 => ?_)
    · refine wm_iconst d_Wo_isDigit_16 ?_
      refine wm_less (L' := [vd]) ⟨Or.inl rfl, trivial⟩ ?_
      exact hJ 0 (if_pos (Or.inr c2)).symm
    · refine wm_iconst d_Wo_isDigit_12 ?_
      refine wm_goto (tgt := 17) d_Wo_isDigit_13 rfl ?_
      refine wm_less (L' := [vd]) ⟨Or.inl rfl, trivial⟩ ?_
      exact hJ 1 (if_neg (fun z8 => Or.elim z8 c1 c2)).symm
theorem d_Wo_longSign_0 : decode y_Wo_longSign.2.1 0 = .ok (.iload_n 0, 1) := dc9_26 (by decide +kernel)
theorem d_Wo_longSign_1 : decode y_Wo_longSign.2.1 1 = .ok (.bipush 46, 2) := dc9_16 (by decide +kernel)
theorem d_Wo_longSign_3 : decode y_Wo_longSign.2.1 3 = .ok (.if_icmp .ne 12, 3) := dc9_160 (by decide +kernel)
theorem d_Wo_longSign_6 : decode y_Wo_longSign.2.1 6 = .ok (.iload_n 1, 1) := dc9_27 (by decide +kernel)
theorem d_Wo_longSign_7 : decode y_Wo_longSign.2.1 7 = .ok (.bipush 46, 2) := dc9_16 (by decide +kernel)
theorem d_Wo_longSign_9 : decode y_Wo_longSign.2.1 9 = .ok (.if_icmp .ne 6, 3) := dc9_160 (by decide +kernel)
theorem d_Wo_longSign_12 : decode y_Wo_longSign.2.1 12 = .ok (.bipush 17, 2) := dc9_16 (by decide +kernel)
theorem d_Wo_longSign_14 : decode y_Wo_longSign.2.1 14 = .ok (.ireturn, 1) := dc9_172 (by decide +kernel)
theorem d_Wo_longSign_15 : decode y_Wo_longSign.2.1 15 = .ok (.iload_n 0, 1) := dc9_26 (by decide +kernel)
theorem d_Wo_longSign_16 : decode y_Wo_longSign.2.1 16 = .ok (.bipush 45, 2) := dc9_16 (by decide +kernel)
theorem d_Wo_longSign_18 : decode y_Wo_longSign.2.1 18 = .ok (.if_icmp .ne 12, 3) := dc9_160 (by decide +kernel)
theorem d_Wo_longSign_21 : decode y_Wo_longSign.2.1 21 = .ok (.iload_n 1, 1) := dc9_27 (by decide +kernel)
theorem d_Wo_longSign_22 : decode y_Wo_longSign.2.1 22 = .ok (.bipush 62, 2) := dc9_16 (by decide +kernel)
theorem d_Wo_longSign_24 : decode y_Wo_longSign.2.1 24 = .ok (.if_icmp .ne 6, 3) := dc9_160 (by decide +kernel)
theorem d_Wo_longSign_27 : decode y_Wo_longSign.2.1 27 = .ok (.bipush 18, 2) := dc9_16 (by decide +kernel)
theorem d_Wo_longSign_29 : decode y_Wo_longSign.2.1 29 = .ok (.ireturn, 1) := dc9_172 (by decide +kernel)
theorem d_Wo_longSign_30 : decode y_Wo_longSign.2.1 30 = .ok (.iload_n 1, 1) := dc9_27 (by decide +kernel)
theorem d_Wo_longSign_31 : decode y_Wo_longSign.2.1 31 = .ok (.bipush 61, 2) := dc9_16 (by decide +kernel)
theorem d_Wo_longSign_33 : decode y_Wo_longSign.2.1 33 = .ok (.if_icmp .eq 5, 3) := dc9_159 (by decide +kernel)
theorem d_Wo_longSign_38 : decode y_Wo_longSign.2.1 38 = .ok (.iload_n 0, 1) := dc9_26 (by decide +kernel)
theorem d_Wo_longSign_39 : decode y_Wo_longSign.2.1 39 = .ok (.bipush 33, 2) := dc9_16 (by decide +kernel)
theorem d_Wo_longSign_36 : decode y_Wo_longSign.2.1 36 = .ok (.iconst 1, 1) := dc9_4 (by decide +kernel)
theorem d_Wo_longSign_37 : decode y_Wo_longSign.2.1 37 = .ok (.ireturn, 1) := dc9_172 (by decide +kernel)
theorem d_Wo_longSign_41 : decode y_Wo_longSign.2.1 41 = .ok (.if_icmp .ne 8, 3) := dc9_160 (by decide +kernel)
theorem d_Wo_longSign_44 : decode y_Wo_longSign.2.1 44 = .ok (.bipush 19, 2) := dc9_16 (by decide +kernel)
theorem d_Wo_longSign_46 : decode y_Wo_longSign.2.1 46 = .ok (.goto 26, 3) := dc9_167 (by decide +kernel)
theorem d_Wo_longSign_72 : decode y_Wo_longSign.2.1 72 = .ok (.ireturn, 1) := dc9_172 (by decide +kernel)
theorem d_Wo_longSign_49 : decode y_Wo_longSign.2.1 49 = .ok (.iload_n 0, 1) := dc9_26 (by decide +kernel)
theorem d_Wo_longSign_50 : decode y_Wo_longSign.2.1 50 = .ok (.bipush 60, 2) := dc9_16 (by decide +kernel)
theorem d_Wo_longSign_52 : decode y_Wo_longSign.2.1 52 = .ok (.if_icmp .ne 8, 3) := dc9_160 (by decide +kernel)
theorem d_Wo_longSign_55 : decode y_Wo_longSign.2.1 55 = .ok (.bipush 20, 2) := dc9_16 (by decide +kernel)
theorem d_Wo_longSign_57 : decode y_Wo_longSign.2.1 57 = .ok (.goto 15, 3) := dc9_167 (by decide +kernel)
theorem d_Wo_longSign_60 : decode y_Wo_longSign.2.1 60 = .ok (.iload_n 0, 1) := dc9_26 (by decide +kernel)
theorem d_Wo_longSign_61 : decode y_Wo_longSign.2.1 61 = .ok (.bipush 62, 2) := dc9_16 (by decide +kernel)
theorem d_Wo_longSign_63 : decode y_Wo_longSign.2.1 63 = .ok (.if_icmp .ne 8, 3) := dc9_160 (by decide +kernel)
theorem d_Wo_longSign_66 : decode y_Wo_longSign.2.1 66 = .ok (.bipush 21, 2) := dc9_16 (by decide +kernel)
theorem d_Wo_longSign_68 : decode y_Wo_longSign.2.1 68 = .ok (.goto 4, 3) := dc9_167 (by decide +kernel)
theorem d_Wo_longSign_71 : decode y_Wo_longSign.2.1 71 = .ok (.iconst 1, 1) := dc9_4 (by decide +kernel)
theorem k_Wo_longSign {G : mG} {d : Nat} {l0 : Int} {l1 : Int} {M : mM} {Q : Int → mM → Prop} (hO : mOk M) (hi_l0 : i32 l0) (hi_l1 : i32 l1)
    (h : (((l0 = 46) ∧ (l1 = 46)) → (Q 17 M)) ∧ (¬ ((l0 = 46) ∧ (l1 = 46)) → ((((l0 = 45) ∧ (l1 = 62)) → (Q 18 M)) ∧ (¬ ((l0 = 45) ∧ (l1 = 62)) → (((l1 = 61) → (∀ v19 : Int, v19 = (if l0 = 33 then 19 else (if l0 = 60 then 20 else (if l0 = 62 then 21 else 1))) → Q v19 M)) ∧ (¬ (l1 = 61) → (Q 1 M))))))) :
    Ci G y_Wo_longSign d [vi l0, vi l1] M Q := by
  refine wm_open (y := y_Wo_longSign) rfl (Nat.le_of_ble_eq_true rfl) (L := [vi l0, vi l1]) rfl ?_
  refine wm_iload_n d_Wo_longSign_0 rfl rfl ?_
  refine wm_bipush d_Wo_longSign_1 (by decide) ?_
  have hE0 : ((l0 = 46) ∧ (l1 = 46)) → mWm G y_Wo_longSign d 12 [vi l0, vi l1] [] M (fun r9 M9 => ∃ x9, r9 = some (vi x9) ∧ Q x9 M9) := by
    intro q4
    have h := h.1 q4
    refine wm_bipush d_Wo_longSign_12 (by decide) ?_
    refine wm_ireturn d_Wo_longSign_14 rfl rfl ?_
    exact ⟨_, rfl, h⟩
  have hE1 : ¬ ((l0 = 46) ∧ (l1 = 46)) → mWm G y_Wo_longSign d 15 [vi l0, vi l1] [] M (fun r9 M9 => ∃ x9, r9 = some (vi x9) ∧ Q x9 M9) := by
    intro q5
    have h := h.2 q5
    refine wm_iload_n d_Wo_longSign_15 rfl rfl ?_
    refine wm_bipush d_Wo_longSign_16 (by decide) ?_
    have hE0 : ((l0 = 45) ∧ (l1 = 62)) → mWm G y_Wo_longSign d 27 [vi l0, vi l1] [] M (fun r9 M9 => ∃ x9, r9 = some (vi x9) ∧ Q x9 M9) := by
      intro q9
      have h := h.1 q9
      refine wm_bipush d_Wo_longSign_27 (by decide) ?_
      refine wm_ireturn d_Wo_longSign_29 rfl rfl ?_
      exact ⟨_, rfl, h⟩
    have hE1 : ¬ ((l0 = 45) ∧ (l1 = 62)) → mWm G y_Wo_longSign d 30 [vi l0, vi l1] [] M (fun r9 M9 => ∃ x9, r9 = some (vi x9) ∧ Q x9 M9) := by
      intro q10
      have h := h.2 q10
      refine wm_iload_n d_Wo_longSign_30 rfl rfl ?_
      refine wm_bipush d_Wo_longSign_31 (by decide) ?_
      refine wm_icmp_eq (tgt := 38) d_Wo_longSign_33 rfl hi_l1 ⟨by decide, by decide⟩ (fun c15 => ?_) (fun c15 => ?_)
      · replace h := h.1 c15
        refine wm_iload_n d_Wo_longSign_38 rfl rfl ?_
        refine wm_bipush d_Wo_longSign_39 (by decide) ?_
        have hJ : ∀ v19 : Int, v19 = (if l0 = 33 then 19 else (if l0 = 60 then 20 else (if l0 = 62 then 21 else 1))) → mWm G y_Wo_longSign d 72 [vd, vd] [vi v19] M (fun r9 M9 => ∃ x9, r9 = some (vi x9) ∧ Q x9 M9) := by
          intro v19 e21
          have h := h v19 e21
          have h22 : i32 v19 := by rw [e21]; (repeat' split) <;> first | exact ⟨by decide, by decide⟩ | exact ⟨by decide, by decide⟩ | exact ⟨by decide, by decide⟩ | exact ⟨by decide, by decide⟩
          refine wm_ireturn d_Wo_longSign_72 rfl rfl ?_
          exact ⟨_, rfl, h⟩
        clear h
        refine wm_icmp_ne (tgt := 49) d_Wo_longSign_41 rfl hi_l0 ⟨by decide, by decide⟩ (fun c16 => ?_) (fun c16 => ?_)
        · refine wm_iload_n d_Wo_longSign_49 rfl rfl ?_
          refine wm_bipush d_Wo_longSign_50 (by decide) ?_
          refine wm_icmp_ne (tgt := 60) d_Wo_longSign_52 rfl hi_l0 ⟨by decide, by decide⟩ (fun c17 => ?_) (fun c17 => ?_)
          · refine wm_iload_n d_Wo_longSign_60 rfl rfl ?_
            refine wm_bipush d_Wo_longSign_61 (by decide) ?_
            refine wm_icmp_ne (tgt := 71) d_Wo_longSign_63 rfl hi_l0 ⟨by decide, by decide⟩ (fun c18 => ?_) (fun c18 => ?_)
            · refine wm_iconst d_Wo_longSign_71 ?_
              refine wm_less (L' := [vd, vd]) ⟨Or.inl rfl, Or.inl rfl, trivial⟩ ?_
              exact hJ 1 (by rw [if_neg c16, if_neg c17, if_neg c18])
            · replace c18 := Classical.not_not.mp c18
              refine wm_bipush d_Wo_longSign_66 (by decide) ?_
              refine wm_goto (tgt := 72) d_Wo_longSign_68 rfl ?_
              refine wm_less (L' := [vd, vd]) ⟨Or.inl rfl, Or.inl rfl, trivial⟩ ?_
              exact hJ 21 (by rw [if_neg c16, if_neg c17, if_pos c18])
          · replace c17 := Classical.not_not.mp c17
            refine wm_bipush d_Wo_longSign_55 (by decide) ?_
            refine wm_goto (tgt := 72) d_Wo_longSign_57 rfl ?_
            refine wm_less (L' := [vd, vd]) ⟨Or.inl rfl, Or.inl rfl, trivial⟩ ?_
            exact hJ 20 (by rw [if_neg c16, if_pos c17])
        · replace c16 := Classical.not_not.mp c16
          refine wm_bipush d_Wo_longSign_44 (by decide) ?_
          refine wm_goto (tgt := 72) d_Wo_longSign_46 rfl ?_
          refine wm_less (L' := [vd, vd]) ⟨Or.inl rfl, Or.inl rfl, trivial⟩ ?_
          exact hJ 19 (by rw [if_pos c16])
      · replace h := h.2 c15
        refine wm_iconst d_Wo_longSign_36 ?_
        refine wm_ireturn d_Wo_longSign_37 rfl rfl ?_
        exact ⟨_, rfl, h⟩
    clear h
    refine wm_icmp_ne (tgt := 30) d_Wo_longSign_18 rfl hi_l0 ⟨by decide, by decide⟩ (fun c7 => ?_) (fun c7 => ?_)
    · exact hE1 (fun z25 => c7 z25.1)
    · replace c7 := Classical.not_not.mp c7
      refine wm_iload_n d_Wo_longSign_21 rfl rfl ?_
      refine wm_bipush d_Wo_longSign_22 (by decide) ?_
      refine wm_icmp_ne (tgt := 30) d_Wo_longSign_24 rfl hi_l1 ⟨by decide, by decide⟩ (fun c6 => ?_) (fun c6 => ?_)
      · exact hE1 (fun z23 => c6 z23.2)
      · replace c6 := Classical.not_not.mp c6
        exact hE0 ⟨c7, c6⟩
  clear h
  refine wm_icmp_ne (tgt := 15) d_Wo_longSign_3 rfl hi_l0 ⟨by decide, by decide⟩ (fun c2 => ?_) (fun c2 => ?_)
  · exact hE1 (fun z28 => c2 z28.1)
  · replace c2 := Classical.not_not.mp c2
    refine wm_iload_n d_Wo_longSign_6 rfl rfl ?_
    refine wm_bipush d_Wo_longSign_7 (by decide) ?_
    refine wm_icmp_ne (tgt := 15) d_Wo_longSign_9 rfl hi_l1 ⟨by decide, by decide⟩ (fun c1 => ?_) (fun c1 => ?_)
    · exact hE1 (fun z26 => c1 z26.2)
    · replace c1 := Classical.not_not.mp c1
      exact hE0 ⟨c2, c1⟩
