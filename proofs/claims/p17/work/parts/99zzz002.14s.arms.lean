/-! The law: its arms. -/
def y_La_law : mY := (({ cls := "ChanceArenaLaw", name := "law", desc := "([I)Z" } : Jvm.MethodName), code, 7, (Option.some Jvm.ClassFile.FieldType.boolean))
theorem d_La_law_0 : decode y_La_law.2.1 0 = .ok (.new 8, 3) := dc9_187 (by decide +kernel)
theorem d_La_law_3 : decode y_La_law.2.1 3 = .ok (.dup, 1) := dc9_89 (by decide +kernel)
theorem d_La_law_4 : decode y_La_law.2.1 4 = .ok (.invokespecial 43, 3) := dc9_183 (by decide +kernel)
theorem d_La_law_7 : decode y_La_law.2.1 7 = .ok (.astore_n 1, 1) := dc9_76 (by decide +kernel)
theorem d_La_law_8 : decode y_La_law.2.1 8 = .ok (.new 44, 3) := dc9_187 (by decide +kernel)
theorem d_La_law_11 : decode y_La_law.2.1 11 = .ok (.dup, 1) := dc9_89 (by decide +kernel)
theorem d_La_law_12 : decode y_La_law.2.1 12 = .ok (.invokespecial 46, 3) := dc9_183 (by decide +kernel)
theorem d_La_law_15 : decode y_La_law.2.1 15 = .ok (.astore_n 2, 1) := dc9_77 (by decide +kernel)
theorem d_La_law_16 : decode y_La_law.2.1 16 = .ok (.iconst 1, 1) := dc9_4 (by decide +kernel)
theorem d_La_law_17 : decode y_La_law.2.1 17 = .ok (.newarray .long, 2) := by decide +kernel
theorem d_La_law_19 : decode y_La_law.2.1 19 = .ok (.astore_n 3, 1) := dc9_78 (by decide +kernel)
theorem d_La_law_20 : decode y_La_law.2.1 20 = .ok (.iconst 0, 1) := dc9_3 (by decide +kernel)
theorem d_La_law_21 : decode y_La_law.2.1 21 = .ok (.istore 4, 2) := dc9_54 (by decide +kernel)
theorem d_La_law_23 : decode y_La_law.2.1 23 = .ok (.iload 4, 2) := dc9_21 (by decide +kernel)
theorem d_La_law_25 : decode y_La_law.2.1 25 = .ok (.aload_n 0, 1) := dc9_42 (by decide +kernel)
theorem d_La_law_26 : decode y_La_law.2.1 26 = .ok (.arraylength, 1) := dc9_190 (by decide +kernel)
theorem d_La_law_27 : decode y_La_law.2.1 27 = .ok (.bipush 6, 2) := dc9_16 (by decide +kernel)
theorem d_La_law_29 : decode y_La_law.2.1 29 = .ok (.isub, 1) := dc9_100 (by decide +kernel)
theorem d_La_law_30 : decode y_La_law.2.1 30 = .ok (.if_icmp .gt 969, 3) := dc9_163 (by decide +kernel)
theorem d_La_law_33 : decode y_La_law.2.1 33 = .ok (.aload_n 0, 1) := dc9_42 (by decide +kernel)
theorem d_La_law_34 : decode y_La_law.2.1 34 = .ok (.iload 4, 2) := dc9_21 (by decide +kernel)
theorem d_La_law_36 : decode y_La_law.2.1 36 = .ok (.iaload, 1) := dc9_46 (by decide +kernel)
theorem d_La_law_37 : decode y_La_law.2.1 37 = .ok (.bipush 31, 2) := dc9_16 (by decide +kernel)
theorem d_La_law_39 : decode y_La_law.2.1 39 = .ok (.iand, 1) := dc9_126 (by decide +kernel)
theorem d_La_law_40 : decode y_La_law.2.1 40 = .ok (.tableswitch 953 0 26 #[124, 197, 225, 238, 251, 276, 292, 305, 318, 358, 383, 408, 445, 482, 543, 559, 615, 652, 665, 693, 730, 755, 816, 853, 878, 903, 940], 124) := by decide +kernel
theorem d_La_law_164 : decode y_La_law.2.1 164 = .ok (.aload_n 1, 1) := dc9_43 (by decide +kernel)
theorem d_La_law_165 : decode y_La_law.2.1 165 = .ok (.aload_n 0, 1) := dc9_42 (by decide +kernel)
theorem d_La_law_166 : decode y_La_law.2.1 166 = .ok (.iload 4, 2) := dc9_21 (by decide +kernel)
theorem d_La_law_168 : decode y_La_law.2.1 168 = .ok (.iconst 1, 1) := dc9_4 (by decide +kernel)
theorem d_La_law_169 : decode y_La_law.2.1 169 = .ok (.iadd, 1) := dc9_96 (by decide +kernel)
theorem d_La_law_170 : decode y_La_law.2.1 170 = .ok (.iaload, 1) := dc9_46 (by decide +kernel)
theorem d_La_law_171 : decode y_La_law.2.1 171 = .ok (.aload_n 0, 1) := dc9_42 (by decide +kernel)
theorem d_La_law_172 : decode y_La_law.2.1 172 = .ok (.iload 4, 2) := dc9_21 (by decide +kernel)
theorem d_La_law_174 : decode y_La_law.2.1 174 = .ok (.iconst 2, 1) := dc9_5 (by decide +kernel)
theorem d_La_law_175 : decode y_La_law.2.1 175 = .ok (.iadd, 1) := dc9_96 (by decide +kernel)
theorem d_La_law_176 : decode y_La_law.2.1 176 = .ok (.iaload, 1) := dc9_46 (by decide +kernel)
theorem d_La_law_177 : decode y_La_law.2.1 177 = .ok (.aload_n 0, 1) := dc9_42 (by decide +kernel)
theorem d_La_law_178 : decode y_La_law.2.1 178 = .ok (.iload 4, 2) := dc9_21 (by decide +kernel)
theorem d_La_law_180 : decode y_La_law.2.1 180 = .ok (.iconst 3, 1) := dc9_6 (by decide +kernel)
theorem d_La_law_181 : decode y_La_law.2.1 181 = .ok (.iadd, 1) := dc9_96 (by decide +kernel)
theorem d_La_law_182 : decode y_La_law.2.1 182 = .ok (.iaload, 1) := dc9_46 (by decide +kernel)
theorem d_La_law_183 : decode y_La_law.2.1 183 = .ok (.aload_n 0, 1) := dc9_42 (by decide +kernel)
theorem d_La_law_184 : decode y_La_law.2.1 184 = .ok (.iload 4, 2) := dc9_21 (by decide +kernel)
theorem d_La_law_186 : decode y_La_law.2.1 186 = .ok (.iconst 4, 1) := dc9_7 (by decide +kernel)
theorem d_La_law_187 : decode y_La_law.2.1 187 = .ok (.iadd, 1) := dc9_96 (by decide +kernel)
theorem d_La_law_188 : decode y_La_law.2.1 188 = .ok (.iaload, 1) := dc9_46 (by decide +kernel)
theorem d_La_law_189 : decode y_La_law.2.1 189 = .ok (.aload_n 0, 1) := dc9_42 (by decide +kernel)
theorem d_La_law_190 : decode y_La_law.2.1 190 = .ok (.iload 4, 2) := dc9_21 (by decide +kernel)
theorem d_La_law_192 : decode y_La_law.2.1 192 = .ok (.iconst 5, 1) := dc9_8 (by decide +kernel)
theorem d_La_law_193 : decode y_La_law.2.1 193 = .ok (.iadd, 1) := dc9_96 (by decide +kernel)
theorem d_La_law_194 : decode y_La_law.2.1 194 = .ok (.iaload, 1) := dc9_46 (by decide +kernel)
theorem d_La_law_195 : decode y_La_law.2.1 195 = .ok (.invokevirtual 47, 3) := dc9_182 (by decide +kernel)
theorem d_La_law_198 : decode y_La_law.2.1 198 = .ok (.pop, 1) := dc9_87 (by decide +kernel)
theorem d_La_law_199 : decode y_La_law.2.1 199 = .ok (.aload_n 2, 1) := dc9_44 (by decide +kernel)
theorem d_La_law_200 : decode y_La_law.2.1 200 = .ok (.aload_n 0, 1) := dc9_42 (by decide +kernel)
theorem d_La_law_201 : decode y_La_law.2.1 201 = .ok (.iload 4, 2) := dc9_21 (by decide +kernel)
theorem d_La_law_203 : decode y_La_law.2.1 203 = .ok (.iconst 1, 1) := dc9_4 (by decide +kernel)
theorem d_La_law_204 : decode y_La_law.2.1 204 = .ok (.iadd, 1) := dc9_96 (by decide +kernel)
theorem d_La_law_205 : decode y_La_law.2.1 205 = .ok (.iaload, 1) := dc9_46 (by decide +kernel)
theorem d_La_law_206 : decode y_La_law.2.1 206 = .ok (.aload_n 0, 1) := dc9_42 (by decide +kernel)
theorem d_La_law_207 : decode y_La_law.2.1 207 = .ok (.iload 4, 2) := dc9_21 (by decide +kernel)
theorem d_La_law_209 : decode y_La_law.2.1 209 = .ok (.iconst 2, 1) := dc9_5 (by decide +kernel)
theorem d_La_law_210 : decode y_La_law.2.1 210 = .ok (.iadd, 1) := dc9_96 (by decide +kernel)
theorem d_La_law_211 : decode y_La_law.2.1 211 = .ok (.iaload, 1) := dc9_46 (by decide +kernel)
theorem d_La_law_212 : decode y_La_law.2.1 212 = .ok (.aload_n 0, 1) := dc9_42 (by decide +kernel)
theorem d_La_law_213 : decode y_La_law.2.1 213 = .ok (.iload 4, 2) := dc9_21 (by decide +kernel)
theorem d_La_law_215 : decode y_La_law.2.1 215 = .ok (.iconst 3, 1) := dc9_6 (by decide +kernel)
theorem d_La_law_216 : decode y_La_law.2.1 216 = .ok (.iadd, 1) := dc9_96 (by decide +kernel)
theorem d_La_law_217 : decode y_La_law.2.1 217 = .ok (.iaload, 1) := dc9_46 (by decide +kernel)
theorem d_La_law_218 : decode y_La_law.2.1 218 = .ok (.aload_n 0, 1) := dc9_42 (by decide +kernel)
theorem d_La_law_219 : decode y_La_law.2.1 219 = .ok (.iload 4, 2) := dc9_21 (by decide +kernel)
theorem d_La_law_221 : decode y_La_law.2.1 221 = .ok (.iconst 4, 1) := dc9_7 (by decide +kernel)
theorem d_La_law_222 : decode y_La_law.2.1 222 = .ok (.iadd, 1) := dc9_96 (by decide +kernel)
theorem d_La_law_223 : decode y_La_law.2.1 223 = .ok (.iaload, 1) := dc9_46 (by decide +kernel)
theorem d_La_law_224 : decode y_La_law.2.1 224 = .ok (.aload_n 0, 1) := dc9_42 (by decide +kernel)
theorem d_La_law_225 : decode y_La_law.2.1 225 = .ok (.iload 4, 2) := dc9_21 (by decide +kernel)
theorem d_La_law_227 : decode y_La_law.2.1 227 = .ok (.iconst 5, 1) := dc9_8 (by decide +kernel)
theorem d_La_law_228 : decode y_La_law.2.1 228 = .ok (.iadd, 1) := dc9_96 (by decide +kernel)
theorem d_La_law_229 : decode y_La_law.2.1 229 = .ok (.iaload, 1) := dc9_46 (by decide +kernel)
theorem d_La_law_230 : decode y_La_law.2.1 230 = .ok (.invokevirtual 51, 3) := dc9_182 (by decide +kernel)
theorem d_La_law_233 : decode y_La_law.2.1 233 = .ok (.pop, 1) := dc9_87 (by decide +kernel)
theorem d_La_law_234 : decode y_La_law.2.1 234 = .ok (.goto (759), 3) := by decide +kernel
theorem d_La_law_237 : decode y_La_law.2.1 237 = .ok (.aload_n 1, 1) := dc9_43 (by decide +kernel)
theorem d_La_law_238 : decode y_La_law.2.1 238 = .ok (.aload_n 0, 1) := dc9_42 (by decide +kernel)
theorem d_La_law_239 : decode y_La_law.2.1 239 = .ok (.iload 4, 2) := dc9_21 (by decide +kernel)
theorem d_La_law_241 : decode y_La_law.2.1 241 = .ok (.iconst 1, 1) := dc9_4 (by decide +kernel)
theorem d_La_law_242 : decode y_La_law.2.1 242 = .ok (.iadd, 1) := dc9_96 (by decide +kernel)
theorem d_La_law_243 : decode y_La_law.2.1 243 = .ok (.iaload, 1) := dc9_46 (by decide +kernel)
theorem d_La_law_244 : decode y_La_law.2.1 244 = .ok (.aload_n 3, 1) := dc9_45 (by decide +kernel)
theorem d_La_law_245 : decode y_La_law.2.1 245 = .ok (.invokestatic 52, 3) := dc9_184 (by decide +kernel)
theorem d_La_law_248 : decode y_La_law.2.1 248 = .ok (.istore 5, 2) := dc9_54 (by decide +kernel)
theorem d_La_law_250 : decode y_La_law.2.1 250 = .ok (.aload_n 2, 1) := dc9_44 (by decide +kernel)
theorem d_La_law_251 : decode y_La_law.2.1 251 = .ok (.aload_n 0, 1) := dc9_42 (by decide +kernel)
theorem d_La_law_252 : decode y_La_law.2.1 252 = .ok (.iload 4, 2) := dc9_21 (by decide +kernel)
theorem d_La_law_254 : decode y_La_law.2.1 254 = .ok (.iconst 1, 1) := dc9_4 (by decide +kernel)
theorem d_La_law_255 : decode y_La_law.2.1 255 = .ok (.iadd, 1) := dc9_96 (by decide +kernel)
theorem d_La_law_256 : decode y_La_law.2.1 256 = .ok (.iaload, 1) := dc9_46 (by decide +kernel)
theorem d_La_law_257 : decode y_La_law.2.1 257 = .ok (.invokevirtual 57, 3) := dc9_182 (by decide +kernel)
theorem d_La_law_260 : decode y_La_law.2.1 260 = .ok (.istore 6, 2) := dc9_54 (by decide +kernel)
theorem d_La_law_262 : decode y_La_law.2.1 262 = .ok (.goto (731), 3) := by decide +kernel
theorem d_La_law_265 : decode y_La_law.2.1 265 = .ok (.aload_n 1, 1) := dc9_43 (by decide +kernel)
theorem d_La_law_266 : decode y_La_law.2.1 266 = .ok (.invokevirtual 58, 3) := dc9_182 (by decide +kernel)
theorem d_La_law_269 : decode y_La_law.2.1 269 = .ok (.pop, 1) := dc9_87 (by decide +kernel)
theorem d_La_law_270 : decode y_La_law.2.1 270 = .ok (.aload_n 2, 1) := dc9_44 (by decide +kernel)
theorem d_La_law_271 : decode y_La_law.2.1 271 = .ok (.invokevirtual 61, 3) := dc9_182 (by decide +kernel)
theorem d_La_law_274 : decode y_La_law.2.1 274 = .ok (.pop, 1) := dc9_87 (by decide +kernel)
theorem d_La_law_275 : decode y_La_law.2.1 275 = .ok (.goto (718), 3) := by decide +kernel
theorem d_La_law_278 : decode y_La_law.2.1 278 = .ok (.aload_n 1, 1) := dc9_43 (by decide +kernel)
theorem d_La_law_279 : decode y_La_law.2.1 279 = .ok (.invokevirtual 62, 3) := dc9_182 (by decide +kernel)
theorem d_La_law_282 : decode y_La_law.2.1 282 = .ok (.pop, 1) := dc9_87 (by decide +kernel)
theorem d_La_law_283 : decode y_La_law.2.1 283 = .ok (.aload_n 2, 1) := dc9_44 (by decide +kernel)
theorem d_La_law_284 : decode y_La_law.2.1 284 = .ok (.invokevirtual 65, 3) := dc9_182 (by decide +kernel)
theorem d_La_law_287 : decode y_La_law.2.1 287 = .ok (.pop, 1) := dc9_87 (by decide +kernel)
theorem d_La_law_288 : decode y_La_law.2.1 288 = .ok (.goto (705), 3) := by decide +kernel
theorem d_La_law_291 : decode y_La_law.2.1 291 = .ok (.aload_n 1, 1) := dc9_43 (by decide +kernel)
theorem d_La_law_292 : decode y_La_law.2.1 292 = .ok (.aload_n 0, 1) := dc9_42 (by decide +kernel)
theorem d_La_law_293 : decode y_La_law.2.1 293 = .ok (.iload 4, 2) := dc9_21 (by decide +kernel)
theorem d_La_law_295 : decode y_La_law.2.1 295 = .ok (.iconst 1, 1) := dc9_4 (by decide +kernel)
theorem d_La_law_296 : decode y_La_law.2.1 296 = .ok (.iadd, 1) := dc9_96 (by decide +kernel)
theorem d_La_law_297 : decode y_La_law.2.1 297 = .ok (.iaload, 1) := dc9_46 (by decide +kernel)
theorem d_La_law_298 : decode y_La_law.2.1 298 = .ok (.invokevirtual 66, 3) := dc9_182 (by decide +kernel)
theorem d_La_law_301 : decode y_La_law.2.1 301 = .ok (.pop, 1) := dc9_87 (by decide +kernel)
theorem d_La_law_302 : decode y_La_law.2.1 302 = .ok (.aload_n 2, 1) := dc9_44 (by decide +kernel)
theorem d_La_law_303 : decode y_La_law.2.1 303 = .ok (.aload_n 0, 1) := dc9_42 (by decide +kernel)
theorem d_La_law_304 : decode y_La_law.2.1 304 = .ok (.iload 4, 2) := dc9_21 (by decide +kernel)
theorem d_La_law_306 : decode y_La_law.2.1 306 = .ok (.iconst 1, 1) := dc9_4 (by decide +kernel)
theorem d_La_law_307 : decode y_La_law.2.1 307 = .ok (.iadd, 1) := dc9_96 (by decide +kernel)
theorem d_La_law_308 : decode y_La_law.2.1 308 = .ok (.iaload, 1) := dc9_46 (by decide +kernel)
theorem d_La_law_309 : decode y_La_law.2.1 309 = .ok (.invokevirtual 69, 3) := dc9_182 (by decide +kernel)
theorem d_La_law_312 : decode y_La_law.2.1 312 = .ok (.pop, 1) := dc9_87 (by decide +kernel)
theorem d_La_law_313 : decode y_La_law.2.1 313 = .ok (.goto (680), 3) := by decide +kernel
theorem d_La_law_316 : decode y_La_law.2.1 316 = .ok (.aload_n 1, 1) := dc9_43 (by decide +kernel)
theorem d_La_law_317 : decode y_La_law.2.1 317 = .ok (.aload_n 3, 1) := dc9_45 (by decide +kernel)
theorem d_La_law_318 : decode y_La_law.2.1 318 = .ok (.invokestatic 70, 3) := dc9_184 (by decide +kernel)
theorem d_La_law_321 : decode y_La_law.2.1 321 = .ok (.istore 5, 2) := dc9_54 (by decide +kernel)
theorem d_La_law_323 : decode y_La_law.2.1 323 = .ok (.aload_n 2, 1) := dc9_44 (by decide +kernel)
theorem d_La_law_324 : decode y_La_law.2.1 324 = .ok (.invokevirtual 73, 3) := dc9_182 (by decide +kernel)
theorem d_La_law_327 : decode y_La_law.2.1 327 = .ok (.istore 6, 2) := dc9_54 (by decide +kernel)
theorem d_La_law_329 : decode y_La_law.2.1 329 = .ok (.goto (664), 3) := by decide +kernel
theorem d_La_law_332 : decode y_La_law.2.1 332 = .ok (.aload_n 1, 1) := dc9_43 (by decide +kernel)
theorem d_La_law_333 : decode y_La_law.2.1 333 = .ok (.invokevirtual 74, 3) := dc9_182 (by decide +kernel)
theorem d_La_law_336 : decode y_La_law.2.1 336 = .ok (.pop, 1) := dc9_87 (by decide +kernel)
theorem d_La_law_337 : decode y_La_law.2.1 337 = .ok (.aload_n 2, 1) := dc9_44 (by decide +kernel)
theorem d_La_law_338 : decode y_La_law.2.1 338 = .ok (.invokevirtual 77, 3) := dc9_182 (by decide +kernel)
theorem d_La_law_341 : decode y_La_law.2.1 341 = .ok (.pop, 1) := dc9_87 (by decide +kernel)
theorem d_La_law_342 : decode y_La_law.2.1 342 = .ok (.goto (651), 3) := by decide +kernel
theorem d_La_law_345 : decode y_La_law.2.1 345 = .ok (.aload_n 1, 1) := dc9_43 (by decide +kernel)
theorem d_La_law_346 : decode y_La_law.2.1 346 = .ok (.invokevirtual 78, 3) := dc9_182 (by decide +kernel)
theorem d_La_law_349 : decode y_La_law.2.1 349 = .ok (.pop, 1) := dc9_87 (by decide +kernel)
theorem d_La_law_350 : decode y_La_law.2.1 350 = .ok (.aload_n 2, 1) := dc9_44 (by decide +kernel)
theorem d_La_law_351 : decode y_La_law.2.1 351 = .ok (.invokevirtual 81, 3) := dc9_182 (by decide +kernel)
theorem d_La_law_354 : decode y_La_law.2.1 354 = .ok (.pop, 1) := dc9_87 (by decide +kernel)
theorem d_La_law_355 : decode y_La_law.2.1 355 = .ok (.goto (638), 3) := by decide +kernel
theorem d_La_law_358 : decode y_La_law.2.1 358 = .ok (.aload_n 1, 1) := dc9_43 (by decide +kernel)
theorem d_La_law_359 : decode y_La_law.2.1 359 = .ok (.aload_n 0, 1) := dc9_42 (by decide +kernel)
theorem d_La_law_360 : decode y_La_law.2.1 360 = .ok (.iload 4, 2) := dc9_21 (by decide +kernel)
theorem d_La_law_362 : decode y_La_law.2.1 362 = .ok (.iconst 1, 1) := dc9_4 (by decide +kernel)
theorem d_La_law_363 : decode y_La_law.2.1 363 = .ok (.iadd, 1) := dc9_96 (by decide +kernel)
theorem d_La_law_364 : decode y_La_law.2.1 364 = .ok (.iaload, 1) := dc9_46 (by decide +kernel)
theorem d_La_law_365 : decode y_La_law.2.1 365 = .ok (.aload_n 0, 1) := dc9_42 (by decide +kernel)
theorem d_La_law_366 : decode y_La_law.2.1 366 = .ok (.iload 4, 2) := dc9_21 (by decide +kernel)
theorem d_La_law_368 : decode y_La_law.2.1 368 = .ok (.iconst 2, 1) := dc9_5 (by decide +kernel)
theorem d_La_law_369 : decode y_La_law.2.1 369 = .ok (.iadd, 1) := dc9_96 (by decide +kernel)
theorem d_La_law_370 : decode y_La_law.2.1 370 = .ok (.iaload, 1) := dc9_46 (by decide +kernel)
theorem d_La_law_371 : decode y_La_law.2.1 371 = .ok (.aload_n 3, 1) := dc9_45 (by decide +kernel)
theorem d_La_law_372 : decode y_La_law.2.1 372 = .ok (.invokestatic 82, 3) := dc9_184 (by decide +kernel)
theorem d_La_law_375 : decode y_La_law.2.1 375 = .ok (.istore 5, 2) := dc9_54 (by decide +kernel)
theorem d_La_law_377 : decode y_La_law.2.1 377 = .ok (.aload_n 2, 1) := dc9_44 (by decide +kernel)
theorem d_La_law_378 : decode y_La_law.2.1 378 = .ok (.aload_n 0, 1) := dc9_42 (by decide +kernel)
theorem d_La_law_379 : decode y_La_law.2.1 379 = .ok (.iload 4, 2) := dc9_21 (by decide +kernel)
theorem d_La_law_381 : decode y_La_law.2.1 381 = .ok (.iconst 1, 1) := dc9_4 (by decide +kernel)
theorem d_La_law_382 : decode y_La_law.2.1 382 = .ok (.iadd, 1) := dc9_96 (by decide +kernel)
theorem d_La_law_383 : decode y_La_law.2.1 383 = .ok (.iaload, 1) := dc9_46 (by decide +kernel)
theorem d_La_law_384 : decode y_La_law.2.1 384 = .ok (.aload_n 0, 1) := dc9_42 (by decide +kernel)
theorem d_La_law_385 : decode y_La_law.2.1 385 = .ok (.iload 4, 2) := dc9_21 (by decide +kernel)
theorem d_La_law_387 : decode y_La_law.2.1 387 = .ok (.iconst 2, 1) := dc9_5 (by decide +kernel)
theorem d_La_law_388 : decode y_La_law.2.1 388 = .ok (.iadd, 1) := dc9_96 (by decide +kernel)
theorem d_La_law_389 : decode y_La_law.2.1 389 = .ok (.iaload, 1) := dc9_46 (by decide +kernel)
theorem d_La_law_390 : decode y_La_law.2.1 390 = .ok (.invokevirtual 85, 3) := dc9_182 (by decide +kernel)
theorem d_La_law_393 : decode y_La_law.2.1 393 = .ok (.istore 6, 2) := dc9_54 (by decide +kernel)
theorem d_La_law_395 : decode y_La_law.2.1 395 = .ok (.goto (598), 3) := by decide +kernel
theorem d_La_law_398 : decode y_La_law.2.1 398 = .ok (.aload_n 1, 1) := dc9_43 (by decide +kernel)
theorem d_La_law_399 : decode y_La_law.2.1 399 = .ok (.aload_n 0, 1) := dc9_42 (by decide +kernel)
theorem d_La_law_400 : decode y_La_law.2.1 400 = .ok (.iload 4, 2) := dc9_21 (by decide +kernel)
theorem d_La_law_402 : decode y_La_law.2.1 402 = .ok (.iconst 1, 1) := dc9_4 (by decide +kernel)
theorem d_La_law_403 : decode y_La_law.2.1 403 = .ok (.iadd, 1) := dc9_96 (by decide +kernel)
theorem d_La_law_404 : decode y_La_law.2.1 404 = .ok (.iaload, 1) := dc9_46 (by decide +kernel)
theorem d_La_law_405 : decode y_La_law.2.1 405 = .ok (.invokevirtual 86, 3) := dc9_182 (by decide +kernel)
theorem d_La_law_408 : decode y_La_law.2.1 408 = .ok (.pop, 1) := dc9_87 (by decide +kernel)
theorem d_La_law_409 : decode y_La_law.2.1 409 = .ok (.aload_n 2, 1) := dc9_44 (by decide +kernel)
theorem d_La_law_410 : decode y_La_law.2.1 410 = .ok (.aload_n 0, 1) := dc9_42 (by decide +kernel)
theorem d_La_law_411 : decode y_La_law.2.1 411 = .ok (.iload 4, 2) := dc9_21 (by decide +kernel)
theorem d_La_law_413 : decode y_La_law.2.1 413 = .ok (.iconst 1, 1) := dc9_4 (by decide +kernel)
theorem d_La_law_414 : decode y_La_law.2.1 414 = .ok (.iadd, 1) := dc9_96 (by decide +kernel)
theorem d_La_law_415 : decode y_La_law.2.1 415 = .ok (.iaload, 1) := dc9_46 (by decide +kernel)
theorem d_La_law_416 : decode y_La_law.2.1 416 = .ok (.invokevirtual 89, 3) := dc9_182 (by decide +kernel)
theorem d_La_law_419 : decode y_La_law.2.1 419 = .ok (.pop, 1) := dc9_87 (by decide +kernel)
theorem d_La_law_420 : decode y_La_law.2.1 420 = .ok (.goto (573), 3) := by decide +kernel
theorem d_La_law_423 : decode y_La_law.2.1 423 = .ok (.aload_n 1, 1) := dc9_43 (by decide +kernel)
theorem d_La_law_424 : decode y_La_law.2.1 424 = .ok (.aload_n 0, 1) := dc9_42 (by decide +kernel)
theorem d_La_law_425 : decode y_La_law.2.1 425 = .ok (.iload 4, 2) := dc9_21 (by decide +kernel)
theorem d_La_law_427 : decode y_La_law.2.1 427 = .ok (.iconst 1, 1) := dc9_4 (by decide +kernel)
theorem d_La_law_428 : decode y_La_law.2.1 428 = .ok (.iadd, 1) := dc9_96 (by decide +kernel)
theorem d_La_law_429 : decode y_La_law.2.1 429 = .ok (.iaload, 1) := dc9_46 (by decide +kernel)
theorem d_La_law_430 : decode y_La_law.2.1 430 = .ok (.invokevirtual 90, 3) := dc9_182 (by decide +kernel)
theorem d_La_law_433 : decode y_La_law.2.1 433 = .ok (.pop, 1) := dc9_87 (by decide +kernel)
theorem d_La_law_434 : decode y_La_law.2.1 434 = .ok (.aload_n 2, 1) := dc9_44 (by decide +kernel)
theorem d_La_law_435 : decode y_La_law.2.1 435 = .ok (.aload_n 0, 1) := dc9_42 (by decide +kernel)
theorem d_La_law_436 : decode y_La_law.2.1 436 = .ok (.iload 4, 2) := dc9_21 (by decide +kernel)
theorem d_La_law_438 : decode y_La_law.2.1 438 = .ok (.iconst 1, 1) := dc9_4 (by decide +kernel)
theorem d_La_law_439 : decode y_La_law.2.1 439 = .ok (.iadd, 1) := dc9_96 (by decide +kernel)
theorem d_La_law_440 : decode y_La_law.2.1 440 = .ok (.iaload, 1) := dc9_46 (by decide +kernel)
theorem d_La_law_441 : decode y_La_law.2.1 441 = .ok (.invokevirtual 93, 3) := dc9_182 (by decide +kernel)
theorem d_La_law_444 : decode y_La_law.2.1 444 = .ok (.pop, 1) := dc9_87 (by decide +kernel)
theorem d_La_law_445 : decode y_La_law.2.1 445 = .ok (.goto (548), 3) := by decide +kernel
theorem d_La_law_448 : decode y_La_law.2.1 448 = .ok (.aload_n 1, 1) := dc9_43 (by decide +kernel)
theorem d_La_law_449 : decode y_La_law.2.1 449 = .ok (.aload_n 0, 1) := dc9_42 (by decide +kernel)
theorem d_La_law_450 : decode y_La_law.2.1 450 = .ok (.iload 4, 2) := dc9_21 (by decide +kernel)
theorem d_La_law_452 : decode y_La_law.2.1 452 = .ok (.iconst 1, 1) := dc9_4 (by decide +kernel)
theorem d_La_law_453 : decode y_La_law.2.1 453 = .ok (.iadd, 1) := dc9_96 (by decide +kernel)
theorem d_La_law_454 : decode y_La_law.2.1 454 = .ok (.iaload, 1) := dc9_46 (by decide +kernel)
theorem d_La_law_455 : decode y_La_law.2.1 455 = .ok (.aload_n 0, 1) := dc9_42 (by decide +kernel)
theorem d_La_law_456 : decode y_La_law.2.1 456 = .ok (.iload 4, 2) := dc9_21 (by decide +kernel)
theorem d_La_law_458 : decode y_La_law.2.1 458 = .ok (.iconst 2, 1) := dc9_5 (by decide +kernel)
theorem d_La_law_459 : decode y_La_law.2.1 459 = .ok (.iadd, 1) := dc9_96 (by decide +kernel)
theorem d_La_law_460 : decode y_La_law.2.1 460 = .ok (.iaload, 1) := dc9_46 (by decide +kernel)
theorem d_La_law_461 : decode y_La_law.2.1 461 = .ok (.invokevirtual 94, 3) := dc9_182 (by decide +kernel)
theorem d_La_law_464 : decode y_La_law.2.1 464 = .ok (.pop, 1) := dc9_87 (by decide +kernel)
theorem d_La_law_465 : decode y_La_law.2.1 465 = .ok (.aload_n 2, 1) := dc9_44 (by decide +kernel)
theorem d_La_law_466 : decode y_La_law.2.1 466 = .ok (.aload_n 0, 1) := dc9_42 (by decide +kernel)
theorem d_La_law_467 : decode y_La_law.2.1 467 = .ok (.iload 4, 2) := dc9_21 (by decide +kernel)
theorem d_La_law_469 : decode y_La_law.2.1 469 = .ok (.iconst 1, 1) := dc9_4 (by decide +kernel)
theorem d_La_law_470 : decode y_La_law.2.1 470 = .ok (.iadd, 1) := dc9_96 (by decide +kernel)
theorem d_La_law_471 : decode y_La_law.2.1 471 = .ok (.iaload, 1) := dc9_46 (by decide +kernel)
theorem d_La_law_472 : decode y_La_law.2.1 472 = .ok (.aload_n 0, 1) := dc9_42 (by decide +kernel)
theorem d_La_law_473 : decode y_La_law.2.1 473 = .ok (.iload 4, 2) := dc9_21 (by decide +kernel)
theorem d_La_law_475 : decode y_La_law.2.1 475 = .ok (.iconst 2, 1) := dc9_5 (by decide +kernel)
theorem d_La_law_476 : decode y_La_law.2.1 476 = .ok (.iadd, 1) := dc9_96 (by decide +kernel)
theorem d_La_law_477 : decode y_La_law.2.1 477 = .ok (.iaload, 1) := dc9_46 (by decide +kernel)
theorem d_La_law_478 : decode y_La_law.2.1 478 = .ok (.invokevirtual 97, 3) := dc9_182 (by decide +kernel)
theorem d_La_law_481 : decode y_La_law.2.1 481 = .ok (.pop, 1) := dc9_87 (by decide +kernel)
theorem d_La_law_482 : decode y_La_law.2.1 482 = .ok (.goto (511), 3) := by decide +kernel
theorem d_La_law_485 : decode y_La_law.2.1 485 = .ok (.aload_n 1, 1) := dc9_43 (by decide +kernel)
theorem d_La_law_486 : decode y_La_law.2.1 486 = .ok (.aload_n 0, 1) := dc9_42 (by decide +kernel)
theorem d_La_law_487 : decode y_La_law.2.1 487 = .ok (.iload 4, 2) := dc9_21 (by decide +kernel)
theorem d_La_law_489 : decode y_La_law.2.1 489 = .ok (.iconst 1, 1) := dc9_4 (by decide +kernel)
theorem d_La_law_490 : decode y_La_law.2.1 490 = .ok (.iadd, 1) := dc9_96 (by decide +kernel)
theorem d_La_law_491 : decode y_La_law.2.1 491 = .ok (.iaload, 1) := dc9_46 (by decide +kernel)
theorem d_La_law_492 : decode y_La_law.2.1 492 = .ok (.aload_n 0, 1) := dc9_42 (by decide +kernel)
theorem d_La_law_493 : decode y_La_law.2.1 493 = .ok (.iload 4, 2) := dc9_21 (by decide +kernel)
theorem d_La_law_495 : decode y_La_law.2.1 495 = .ok (.iconst 2, 1) := dc9_5 (by decide +kernel)
theorem d_La_law_496 : decode y_La_law.2.1 496 = .ok (.iadd, 1) := dc9_96 (by decide +kernel)
theorem d_La_law_497 : decode y_La_law.2.1 497 = .ok (.iaload, 1) := dc9_46 (by decide +kernel)
theorem d_La_law_498 : decode y_La_law.2.1 498 = .ok (.invokevirtual 98, 3) := dc9_182 (by decide +kernel)
theorem d_La_law_501 : decode y_La_law.2.1 501 = .ok (.pop, 1) := dc9_87 (by decide +kernel)
theorem d_La_law_502 : decode y_La_law.2.1 502 = .ok (.aload_n 2, 1) := dc9_44 (by decide +kernel)
theorem d_La_law_503 : decode y_La_law.2.1 503 = .ok (.aload_n 0, 1) := dc9_42 (by decide +kernel)
theorem d_La_law_504 : decode y_La_law.2.1 504 = .ok (.iload 4, 2) := dc9_21 (by decide +kernel)
theorem d_La_law_506 : decode y_La_law.2.1 506 = .ok (.iconst 1, 1) := dc9_4 (by decide +kernel)
theorem d_La_law_507 : decode y_La_law.2.1 507 = .ok (.iadd, 1) := dc9_96 (by decide +kernel)
theorem d_La_law_508 : decode y_La_law.2.1 508 = .ok (.iaload, 1) := dc9_46 (by decide +kernel)
theorem d_La_law_509 : decode y_La_law.2.1 509 = .ok (.aload_n 0, 1) := dc9_42 (by decide +kernel)
theorem d_La_law_510 : decode y_La_law.2.1 510 = .ok (.iload 4, 2) := dc9_21 (by decide +kernel)
theorem d_La_law_512 : decode y_La_law.2.1 512 = .ok (.iconst 2, 1) := dc9_5 (by decide +kernel)
theorem d_La_law_513 : decode y_La_law.2.1 513 = .ok (.iadd, 1) := dc9_96 (by decide +kernel)
theorem d_La_law_514 : decode y_La_law.2.1 514 = .ok (.iaload, 1) := dc9_46 (by decide +kernel)
theorem d_La_law_515 : decode y_La_law.2.1 515 = .ok (.invokevirtual 101, 3) := dc9_182 (by decide +kernel)
theorem d_La_law_518 : decode y_La_law.2.1 518 = .ok (.pop, 1) := dc9_87 (by decide +kernel)
theorem d_La_law_519 : decode y_La_law.2.1 519 = .ok (.goto (474), 3) := by decide +kernel
theorem d_La_law_522 : decode y_La_law.2.1 522 = .ok (.aload_n 1, 1) := dc9_43 (by decide +kernel)
theorem d_La_law_523 : decode y_La_law.2.1 523 = .ok (.aload_n 0, 1) := dc9_42 (by decide +kernel)
theorem d_La_law_524 : decode y_La_law.2.1 524 = .ok (.iload 4, 2) := dc9_21 (by decide +kernel)
theorem d_La_law_526 : decode y_La_law.2.1 526 = .ok (.iconst 1, 1) := dc9_4 (by decide +kernel)
theorem d_La_law_527 : decode y_La_law.2.1 527 = .ok (.iadd, 1) := dc9_96 (by decide +kernel)
theorem d_La_law_528 : decode y_La_law.2.1 528 = .ok (.iaload, 1) := dc9_46 (by decide +kernel)
theorem d_La_law_529 : decode y_La_law.2.1 529 = .ok (.aload_n 0, 1) := dc9_42 (by decide +kernel)
theorem d_La_law_530 : decode y_La_law.2.1 530 = .ok (.iload 4, 2) := dc9_21 (by decide +kernel)
theorem d_La_law_532 : decode y_La_law.2.1 532 = .ok (.iconst 2, 1) := dc9_5 (by decide +kernel)
theorem d_La_law_533 : decode y_La_law.2.1 533 = .ok (.iadd, 1) := dc9_96 (by decide +kernel)
theorem d_La_law_534 : decode y_La_law.2.1 534 = .ok (.iaload, 1) := dc9_46 (by decide +kernel)
theorem d_La_law_535 : decode y_La_law.2.1 535 = .ok (.aload_n 0, 1) := dc9_42 (by decide +kernel)
theorem d_La_law_536 : decode y_La_law.2.1 536 = .ok (.iload 4, 2) := dc9_21 (by decide +kernel)
theorem d_La_law_538 : decode y_La_law.2.1 538 = .ok (.iconst 3, 1) := dc9_6 (by decide +kernel)
theorem d_La_law_539 : decode y_La_law.2.1 539 = .ok (.iadd, 1) := dc9_96 (by decide +kernel)
theorem d_La_law_540 : decode y_La_law.2.1 540 = .ok (.iaload, 1) := dc9_46 (by decide +kernel)
theorem d_La_law_541 : decode y_La_law.2.1 541 = .ok (.aload_n 0, 1) := dc9_42 (by decide +kernel)
theorem d_La_law_542 : decode y_La_law.2.1 542 = .ok (.iload 4, 2) := dc9_21 (by decide +kernel)
theorem d_La_law_544 : decode y_La_law.2.1 544 = .ok (.iconst 4, 1) := dc9_7 (by decide +kernel)
theorem d_La_law_545 : decode y_La_law.2.1 545 = .ok (.iadd, 1) := dc9_96 (by decide +kernel)
theorem d_La_law_546 : decode y_La_law.2.1 546 = .ok (.iaload, 1) := dc9_46 (by decide +kernel)
theorem d_La_law_547 : decode y_La_law.2.1 547 = .ok (.invokevirtual 102, 3) := dc9_182 (by decide +kernel)
theorem d_La_law_550 : decode y_La_law.2.1 550 = .ok (.pop, 1) := dc9_87 (by decide +kernel)
theorem d_La_law_551 : decode y_La_law.2.1 551 = .ok (.aload_n 2, 1) := dc9_44 (by decide +kernel)
theorem d_La_law_552 : decode y_La_law.2.1 552 = .ok (.aload_n 0, 1) := dc9_42 (by decide +kernel)
theorem d_La_law_553 : decode y_La_law.2.1 553 = .ok (.iload 4, 2) := dc9_21 (by decide +kernel)
theorem d_La_law_555 : decode y_La_law.2.1 555 = .ok (.iconst 1, 1) := dc9_4 (by decide +kernel)
theorem d_La_law_556 : decode y_La_law.2.1 556 = .ok (.iadd, 1) := dc9_96 (by decide +kernel)
theorem d_La_law_557 : decode y_La_law.2.1 557 = .ok (.iaload, 1) := dc9_46 (by decide +kernel)
theorem d_La_law_558 : decode y_La_law.2.1 558 = .ok (.aload_n 0, 1) := dc9_42 (by decide +kernel)
theorem d_La_law_559 : decode y_La_law.2.1 559 = .ok (.iload 4, 2) := dc9_21 (by decide +kernel)
theorem d_La_law_561 : decode y_La_law.2.1 561 = .ok (.iconst 2, 1) := dc9_5 (by decide +kernel)
theorem d_La_law_562 : decode y_La_law.2.1 562 = .ok (.iadd, 1) := dc9_96 (by decide +kernel)
theorem d_La_law_563 : decode y_La_law.2.1 563 = .ok (.iaload, 1) := dc9_46 (by decide +kernel)
theorem d_La_law_564 : decode y_La_law.2.1 564 = .ok (.aload_n 0, 1) := dc9_42 (by decide +kernel)
theorem d_La_law_565 : decode y_La_law.2.1 565 = .ok (.iload 4, 2) := dc9_21 (by decide +kernel)
theorem d_La_law_567 : decode y_La_law.2.1 567 = .ok (.iconst 3, 1) := dc9_6 (by decide +kernel)
theorem d_La_law_568 : decode y_La_law.2.1 568 = .ok (.iadd, 1) := dc9_96 (by decide +kernel)
theorem d_La_law_569 : decode y_La_law.2.1 569 = .ok (.iaload, 1) := dc9_46 (by decide +kernel)
theorem d_La_law_570 : decode y_La_law.2.1 570 = .ok (.aload_n 0, 1) := dc9_42 (by decide +kernel)
theorem d_La_law_571 : decode y_La_law.2.1 571 = .ok (.iload 4, 2) := dc9_21 (by decide +kernel)
theorem d_La_law_573 : decode y_La_law.2.1 573 = .ok (.iconst 4, 1) := dc9_7 (by decide +kernel)
theorem d_La_law_574 : decode y_La_law.2.1 574 = .ok (.iadd, 1) := dc9_96 (by decide +kernel)
theorem d_La_law_575 : decode y_La_law.2.1 575 = .ok (.iaload, 1) := dc9_46 (by decide +kernel)
theorem d_La_law_576 : decode y_La_law.2.1 576 = .ok (.invokevirtual 106, 3) := dc9_182 (by decide +kernel)
theorem d_La_law_579 : decode y_La_law.2.1 579 = .ok (.pop, 1) := dc9_87 (by decide +kernel)
theorem d_La_law_580 : decode y_La_law.2.1 580 = .ok (.goto (413), 3) := by decide +kernel
theorem d_La_law_583 : decode y_La_law.2.1 583 = .ok (.aload_n 1, 1) := dc9_43 (by decide +kernel)
theorem d_La_law_584 : decode y_La_law.2.1 584 = .ok (.aload_n 3, 1) := dc9_45 (by decide +kernel)
theorem d_La_law_585 : decode y_La_law.2.1 585 = .ok (.invokestatic 107, 3) := dc9_184 (by decide +kernel)
theorem d_La_law_588 : decode y_La_law.2.1 588 = .ok (.istore 5, 2) := dc9_54 (by decide +kernel)
theorem d_La_law_590 : decode y_La_law.2.1 590 = .ok (.aload_n 2, 1) := dc9_44 (by decide +kernel)
theorem d_La_law_591 : decode y_La_law.2.1 591 = .ok (.invokevirtual 109, 3) := dc9_182 (by decide +kernel)
theorem d_La_law_594 : decode y_La_law.2.1 594 = .ok (.istore 6, 2) := dc9_54 (by decide +kernel)
theorem d_La_law_596 : decode y_La_law.2.1 596 = .ok (.goto (397), 3) := by decide +kernel
theorem d_La_law_599 : decode y_La_law.2.1 599 = .ok (.aload_n 1, 1) := dc9_43 (by decide +kernel)
theorem d_La_law_600 : decode y_La_law.2.1 600 = .ok (.aload_n 0, 1) := dc9_42 (by decide +kernel)
theorem d_La_law_601 : decode y_La_law.2.1 601 = .ok (.iload 4, 2) := dc9_21 (by decide +kernel)
theorem d_La_law_603 : decode y_La_law.2.1 603 = .ok (.iconst 1, 1) := dc9_4 (by decide +kernel)
theorem d_La_law_604 : decode y_La_law.2.1 604 = .ok (.iadd, 1) := dc9_96 (by decide +kernel)
theorem d_La_law_605 : decode y_La_law.2.1 605 = .ok (.iaload, 1) := dc9_46 (by decide +kernel)
theorem d_La_law_606 : decode y_La_law.2.1 606 = .ok (.aload_n 3, 1) := dc9_45 (by decide +kernel)
theorem d_La_law_607 : decode y_La_law.2.1 607 = .ok (.invokestatic 110, 3) := dc9_184 (by decide +kernel)
theorem d_La_law_610 : decode y_La_law.2.1 610 = .ok (.istore 5, 2) := dc9_54 (by decide +kernel)
theorem d_La_law_612 : decode y_La_law.2.1 612 = .ok (.aload_n 2, 1) := dc9_44 (by decide +kernel)
theorem d_La_law_613 : decode y_La_law.2.1 613 = .ok (.aload_n 0, 1) := dc9_42 (by decide +kernel)
theorem d_La_law_614 : decode y_La_law.2.1 614 = .ok (.iload 4, 2) := dc9_21 (by decide +kernel)
theorem d_La_law_616 : decode y_La_law.2.1 616 = .ok (.iconst 1, 1) := dc9_4 (by decide +kernel)
theorem d_La_law_617 : decode y_La_law.2.1 617 = .ok (.iadd, 1) := dc9_96 (by decide +kernel)
theorem d_La_law_618 : decode y_La_law.2.1 618 = .ok (.iaload, 1) := dc9_46 (by decide +kernel)
theorem d_La_law_619 : decode y_La_law.2.1 619 = .ok (.invokevirtual 112, 3) := dc9_182 (by decide +kernel)
theorem d_La_law_622 : decode y_La_law.2.1 622 = .ok (.istore 6, 2) := dc9_54 (by decide +kernel)
theorem d_La_law_624 : decode y_La_law.2.1 624 = .ok (.aload_n 2, 1) := dc9_44 (by decide +kernel)
theorem d_La_law_625 : decode y_La_law.2.1 625 = .ok (.invokevirtual 113, 3) := dc9_182 (by decide +kernel)
theorem d_La_law_628 : decode y_La_law.2.1 628 = .ok (.iload 5, 2) := dc9_21 (by decide +kernel)
theorem d_La_law_630 : decode y_La_law.2.1 630 = .ok (.if_icmp .eq 5, 3) := dc9_159 (by decide +kernel)
theorem d_La_law_635 : decode y_La_law.2.1 635 = .ok (.iload 5, 2) := dc9_21 (by decide +kernel)
theorem d_La_law_637 : decode y_La_law.2.1 637 = .ok (.ifCond .ne 15, 3) := dc9_154 (by decide +kernel)
theorem d_La_law_640 : decode y_La_law.2.1 640 = .ok (.aload_n 3, 1) := dc9_45 (by decide +kernel)
theorem d_La_law_641 : decode y_La_law.2.1 641 = .ok (.iconst 0, 1) := dc9_3 (by decide +kernel)
theorem d_La_law_642 : decode y_La_law.2.1 642 = .ok (.laload, 1) := dc9_47 (by decide +kernel)
theorem d_La_law_643 : decode y_La_law.2.1 643 = .ok (.iload 6, 2) := dc9_21 (by decide +kernel)
theorem d_La_law_645 : decode y_La_law.2.1 645 = .ok (.i2l, 1) := dc9_133 (by decide +kernel)
theorem d_La_law_646 : decode y_La_law.2.1 646 = .ok (.lcmp, 1) := dc9_148 (by decide +kernel)
theorem d_La_law_647 : decode y_La_law.2.1 647 = .ok (.ifCond .eq 5, 3) := dc9_153 (by decide +kernel)
theorem d_La_law_652 : decode y_La_law.2.1 652 = .ok (.goto (341), 3) := by decide +kernel
theorem d_La_law_655 : decode y_La_law.2.1 655 = .ok (.aload_n 1, 1) := dc9_43 (by decide +kernel)
theorem d_La_law_656 : decode y_La_law.2.1 656 = .ok (.aload_n 0, 1) := dc9_42 (by decide +kernel)
theorem d_La_law_657 : decode y_La_law.2.1 657 = .ok (.iload 4, 2) := dc9_21 (by decide +kernel)
theorem d_La_law_659 : decode y_La_law.2.1 659 = .ok (.iconst 1, 1) := dc9_4 (by decide +kernel)
theorem d_La_law_660 : decode y_La_law.2.1 660 = .ok (.iadd, 1) := dc9_96 (by decide +kernel)
theorem d_La_law_661 : decode y_La_law.2.1 661 = .ok (.iaload, 1) := dc9_46 (by decide +kernel)
theorem d_La_law_662 : decode y_La_law.2.1 662 = .ok (.aload_n 0, 1) := dc9_42 (by decide +kernel)
theorem d_La_law_663 : decode y_La_law.2.1 663 = .ok (.iload 4, 2) := dc9_21 (by decide +kernel)
theorem d_La_law_665 : decode y_La_law.2.1 665 = .ok (.iconst 2, 1) := dc9_5 (by decide +kernel)
theorem d_La_law_666 : decode y_La_law.2.1 666 = .ok (.iadd, 1) := dc9_96 (by decide +kernel)
theorem d_La_law_667 : decode y_La_law.2.1 667 = .ok (.iaload, 1) := dc9_46 (by decide +kernel)
theorem d_La_law_668 : decode y_La_law.2.1 668 = .ok (.invokestatic 116, 3) := dc9_184 (by decide +kernel)
theorem d_La_law_671 : decode y_La_law.2.1 671 = .ok (.istore 5, 2) := dc9_54 (by decide +kernel)
theorem d_La_law_673 : decode y_La_law.2.1 673 = .ok (.aload_n 2, 1) := dc9_44 (by decide +kernel)
theorem d_La_law_674 : decode y_La_law.2.1 674 = .ok (.aload_n 0, 1) := dc9_42 (by decide +kernel)
theorem d_La_law_675 : decode y_La_law.2.1 675 = .ok (.iload 4, 2) := dc9_21 (by decide +kernel)
theorem d_La_law_677 : decode y_La_law.2.1 677 = .ok (.iconst 1, 1) := dc9_4 (by decide +kernel)
theorem d_La_law_678 : decode y_La_law.2.1 678 = .ok (.iadd, 1) := dc9_96 (by decide +kernel)
theorem d_La_law_679 : decode y_La_law.2.1 679 = .ok (.iaload, 1) := dc9_46 (by decide +kernel)
theorem d_La_law_680 : decode y_La_law.2.1 680 = .ok (.aload_n 0, 1) := dc9_42 (by decide +kernel)
theorem d_La_law_681 : decode y_La_law.2.1 681 = .ok (.iload 4, 2) := dc9_21 (by decide +kernel)
theorem d_La_law_683 : decode y_La_law.2.1 683 = .ok (.iconst 2, 1) := dc9_5 (by decide +kernel)
theorem d_La_law_684 : decode y_La_law.2.1 684 = .ok (.iadd, 1) := dc9_96 (by decide +kernel)
theorem d_La_law_685 : decode y_La_law.2.1 685 = .ok (.iaload, 1) := dc9_46 (by decide +kernel)
theorem d_La_law_686 : decode y_La_law.2.1 686 = .ok (.invokevirtual 119, 3) := dc9_182 (by decide +kernel)
theorem d_La_law_689 : decode y_La_law.2.1 689 = .ok (.goto (304), 3) := by decide +kernel
theorem d_La_law_692 : decode y_La_law.2.1 692 = .ok (.aload_n 1, 1) := dc9_43 (by decide +kernel)
theorem d_La_law_693 : decode y_La_law.2.1 693 = .ok (.invokestatic 120, 3) := dc9_184 (by decide +kernel)
theorem d_La_law_696 : decode y_La_law.2.1 696 = .ok (.istore 5, 2) := dc9_54 (by decide +kernel)
theorem d_La_law_698 : decode y_La_law.2.1 698 = .ok (.aload_n 2, 1) := dc9_44 (by decide +kernel)
theorem d_La_law_699 : decode y_La_law.2.1 699 = .ok (.invokevirtual 123, 3) := dc9_182 (by decide +kernel)
theorem d_La_law_702 : decode y_La_law.2.1 702 = .ok (.goto (291), 3) := by decide +kernel
theorem d_La_law_705 : decode y_La_law.2.1 705 = .ok (.aload_n 1, 1) := dc9_43 (by decide +kernel)
theorem d_La_law_706 : decode y_La_law.2.1 706 = .ok (.aload_n 0, 1) := dc9_42 (by decide +kernel)
theorem d_La_law_707 : decode y_La_law.2.1 707 = .ok (.iload 4, 2) := dc9_21 (by decide +kernel)
theorem d_La_law_709 : decode y_La_law.2.1 709 = .ok (.iconst 1, 1) := dc9_4 (by decide +kernel)
theorem d_La_law_710 : decode y_La_law.2.1 710 = .ok (.iadd, 1) := dc9_96 (by decide +kernel)
theorem d_La_law_711 : decode y_La_law.2.1 711 = .ok (.iaload, 1) := dc9_46 (by decide +kernel)
theorem d_La_law_712 : decode y_La_law.2.1 712 = .ok (.aload_n 3, 1) := dc9_45 (by decide +kernel)
theorem d_La_law_713 : decode y_La_law.2.1 713 = .ok (.invokestatic 124, 3) := dc9_184 (by decide +kernel)
theorem d_La_law_716 : decode y_La_law.2.1 716 = .ok (.istore 5, 2) := dc9_54 (by decide +kernel)
theorem d_La_law_718 : decode y_La_law.2.1 718 = .ok (.aload_n 2, 1) := dc9_44 (by decide +kernel)
theorem d_La_law_719 : decode y_La_law.2.1 719 = .ok (.aload_n 0, 1) := dc9_42 (by decide +kernel)
theorem d_La_law_720 : decode y_La_law.2.1 720 = .ok (.iload 4, 2) := dc9_21 (by decide +kernel)
theorem d_La_law_722 : decode y_La_law.2.1 722 = .ok (.iconst 1, 1) := dc9_4 (by decide +kernel)
theorem d_La_law_723 : decode y_La_law.2.1 723 = .ok (.iadd, 1) := dc9_96 (by decide +kernel)
theorem d_La_law_724 : decode y_La_law.2.1 724 = .ok (.iaload, 1) := dc9_46 (by decide +kernel)
theorem d_La_law_725 : decode y_La_law.2.1 725 = .ok (.invokevirtual 126, 3) := dc9_182 (by decide +kernel)
theorem d_La_law_728 : decode y_La_law.2.1 728 = .ok (.istore 6, 2) := dc9_54 (by decide +kernel)
theorem d_La_law_730 : decode y_La_law.2.1 730 = .ok (.goto (263), 3) := by decide +kernel
theorem d_La_law_733 : decode y_La_law.2.1 733 = .ok (.aload_n 1, 1) := dc9_43 (by decide +kernel)
theorem d_La_law_734 : decode y_La_law.2.1 734 = .ok (.aload_n 0, 1) := dc9_42 (by decide +kernel)
theorem d_La_law_735 : decode y_La_law.2.1 735 = .ok (.iload 4, 2) := dc9_21 (by decide +kernel)
theorem d_La_law_737 : decode y_La_law.2.1 737 = .ok (.iconst 1, 1) := dc9_4 (by decide +kernel)
theorem d_La_law_738 : decode y_La_law.2.1 738 = .ok (.iadd, 1) := dc9_96 (by decide +kernel)
theorem d_La_law_739 : decode y_La_law.2.1 739 = .ok (.iaload, 1) := dc9_46 (by decide +kernel)
theorem d_La_law_740 : decode y_La_law.2.1 740 = .ok (.aload_n 0, 1) := dc9_42 (by decide +kernel)
theorem d_La_law_741 : decode y_La_law.2.1 741 = .ok (.iload 4, 2) := dc9_21 (by decide +kernel)
theorem d_La_law_743 : decode y_La_law.2.1 743 = .ok (.iconst 2, 1) := dc9_5 (by decide +kernel)
theorem d_La_law_744 : decode y_La_law.2.1 744 = .ok (.iadd, 1) := dc9_96 (by decide +kernel)
theorem d_La_law_745 : decode y_La_law.2.1 745 = .ok (.iaload, 1) := dc9_46 (by decide +kernel)
theorem d_La_law_746 : decode y_La_law.2.1 746 = .ok (.invokevirtual 127, 3) := dc9_182 (by decide +kernel)
theorem d_La_law_749 : decode y_La_law.2.1 749 = .ok (.pop, 1) := dc9_87 (by decide +kernel)
theorem d_La_law_750 : decode y_La_law.2.1 750 = .ok (.aload_n 2, 1) := dc9_44 (by decide +kernel)
theorem d_La_law_751 : decode y_La_law.2.1 751 = .ok (.aload_n 0, 1) := dc9_42 (by decide +kernel)
theorem d_La_law_752 : decode y_La_law.2.1 752 = .ok (.iload 4, 2) := dc9_21 (by decide +kernel)
theorem d_La_law_754 : decode y_La_law.2.1 754 = .ok (.iconst 1, 1) := dc9_4 (by decide +kernel)
theorem d_La_law_755 : decode y_La_law.2.1 755 = .ok (.iadd, 1) := dc9_96 (by decide +kernel)
theorem d_La_law_756 : decode y_La_law.2.1 756 = .ok (.iaload, 1) := dc9_46 (by decide +kernel)
theorem d_La_law_757 : decode y_La_law.2.1 757 = .ok (.aload_n 0, 1) := dc9_42 (by decide +kernel)
theorem d_La_law_758 : decode y_La_law.2.1 758 = .ok (.iload 4, 2) := dc9_21 (by decide +kernel)
theorem d_La_law_760 : decode y_La_law.2.1 760 = .ok (.iconst 2, 1) := dc9_5 (by decide +kernel)
theorem d_La_law_761 : decode y_La_law.2.1 761 = .ok (.iadd, 1) := dc9_96 (by decide +kernel)
theorem d_La_law_762 : decode y_La_law.2.1 762 = .ok (.iaload, 1) := dc9_46 (by decide +kernel)
theorem d_La_law_763 : decode y_La_law.2.1 763 = .ok (.invokevirtual 130, 3) := dc9_182 (by decide +kernel)
theorem d_La_law_766 : decode y_La_law.2.1 766 = .ok (.pop, 1) := dc9_87 (by decide +kernel)
theorem d_La_law_767 : decode y_La_law.2.1 767 = .ok (.goto (226), 3) := by decide +kernel
theorem d_La_law_770 : decode y_La_law.2.1 770 = .ok (.aload_n 1, 1) := dc9_43 (by decide +kernel)
theorem d_La_law_771 : decode y_La_law.2.1 771 = .ok (.aload_n 0, 1) := dc9_42 (by decide +kernel)
theorem d_La_law_772 : decode y_La_law.2.1 772 = .ok (.iload 4, 2) := dc9_21 (by decide +kernel)
theorem d_La_law_774 : decode y_La_law.2.1 774 = .ok (.iconst 1, 1) := dc9_4 (by decide +kernel)
theorem d_La_law_775 : decode y_La_law.2.1 775 = .ok (.iadd, 1) := dc9_96 (by decide +kernel)
theorem d_La_law_776 : decode y_La_law.2.1 776 = .ok (.iaload, 1) := dc9_46 (by decide +kernel)
theorem d_La_law_777 : decode y_La_law.2.1 777 = .ok (.invokevirtual 131, 3) := dc9_182 (by decide +kernel)
theorem d_La_law_780 : decode y_La_law.2.1 780 = .ok (.pop, 1) := dc9_87 (by decide +kernel)
theorem d_La_law_781 : decode y_La_law.2.1 781 = .ok (.aload_n 2, 1) := dc9_44 (by decide +kernel)
theorem d_La_law_782 : decode y_La_law.2.1 782 = .ok (.aload_n 0, 1) := dc9_42 (by decide +kernel)
theorem d_La_law_783 : decode y_La_law.2.1 783 = .ok (.iload 4, 2) := dc9_21 (by decide +kernel)
theorem d_La_law_785 : decode y_La_law.2.1 785 = .ok (.iconst 1, 1) := dc9_4 (by decide +kernel)
theorem d_La_law_786 : decode y_La_law.2.1 786 = .ok (.iadd, 1) := dc9_96 (by decide +kernel)
theorem d_La_law_787 : decode y_La_law.2.1 787 = .ok (.iaload, 1) := dc9_46 (by decide +kernel)
theorem d_La_law_788 : decode y_La_law.2.1 788 = .ok (.invokevirtual 134, 3) := dc9_182 (by decide +kernel)
theorem d_La_law_791 : decode y_La_law.2.1 791 = .ok (.pop, 1) := dc9_87 (by decide +kernel)
theorem d_La_law_792 : decode y_La_law.2.1 792 = .ok (.goto (201), 3) := by decide +kernel
theorem d_La_law_795 : decode y_La_law.2.1 795 = .ok (.aload_n 1, 1) := dc9_43 (by decide +kernel)
theorem d_La_law_796 : decode y_La_law.2.1 796 = .ok (.aload_n 0, 1) := dc9_42 (by decide +kernel)
theorem d_La_law_797 : decode y_La_law.2.1 797 = .ok (.iload 4, 2) := dc9_21 (by decide +kernel)
theorem d_La_law_799 : decode y_La_law.2.1 799 = .ok (.iconst 1, 1) := dc9_4 (by decide +kernel)
theorem d_La_law_800 : decode y_La_law.2.1 800 = .ok (.iadd, 1) := dc9_96 (by decide +kernel)
theorem d_La_law_801 : decode y_La_law.2.1 801 = .ok (.iaload, 1) := dc9_46 (by decide +kernel)
theorem d_La_law_802 : decode y_La_law.2.1 802 = .ok (.aload_n 0, 1) := dc9_42 (by decide +kernel)
theorem d_La_law_803 : decode y_La_law.2.1 803 = .ok (.iload 4, 2) := dc9_21 (by decide +kernel)
theorem d_La_law_805 : decode y_La_law.2.1 805 = .ok (.iconst 2, 1) := dc9_5 (by decide +kernel)
theorem d_La_law_806 : decode y_La_law.2.1 806 = .ok (.iadd, 1) := dc9_96 (by decide +kernel)
theorem d_La_law_807 : decode y_La_law.2.1 807 = .ok (.iaload, 1) := dc9_46 (by decide +kernel)
theorem d_La_law_808 : decode y_La_law.2.1 808 = .ok (.aload_n 0, 1) := dc9_42 (by decide +kernel)
theorem d_La_law_809 : decode y_La_law.2.1 809 = .ok (.iload 4, 2) := dc9_21 (by decide +kernel)
theorem d_La_law_811 : decode y_La_law.2.1 811 = .ok (.iconst 3, 1) := dc9_6 (by decide +kernel)
theorem d_La_law_812 : decode y_La_law.2.1 812 = .ok (.iadd, 1) := dc9_96 (by decide +kernel)
theorem d_La_law_813 : decode y_La_law.2.1 813 = .ok (.iaload, 1) := dc9_46 (by decide +kernel)
theorem d_La_law_814 : decode y_La_law.2.1 814 = .ok (.aload_n 0, 1) := dc9_42 (by decide +kernel)
theorem d_La_law_815 : decode y_La_law.2.1 815 = .ok (.iload 4, 2) := dc9_21 (by decide +kernel)
theorem d_La_law_817 : decode y_La_law.2.1 817 = .ok (.iconst 4, 1) := dc9_7 (by decide +kernel)
theorem d_La_law_818 : decode y_La_law.2.1 818 = .ok (.iadd, 1) := dc9_96 (by decide +kernel)
theorem d_La_law_819 : decode y_La_law.2.1 819 = .ok (.iaload, 1) := dc9_46 (by decide +kernel)
theorem d_La_law_820 : decode y_La_law.2.1 820 = .ok (.invokevirtual 135, 3) := dc9_182 (by decide +kernel)
theorem d_La_law_823 : decode y_La_law.2.1 823 = .ok (.pop, 1) := dc9_87 (by decide +kernel)
theorem d_La_law_824 : decode y_La_law.2.1 824 = .ok (.aload_n 2, 1) := dc9_44 (by decide +kernel)
theorem d_La_law_825 : decode y_La_law.2.1 825 = .ok (.aload_n 0, 1) := dc9_42 (by decide +kernel)
theorem d_La_law_826 : decode y_La_law.2.1 826 = .ok (.iload 4, 2) := dc9_21 (by decide +kernel)
theorem d_La_law_828 : decode y_La_law.2.1 828 = .ok (.iconst 1, 1) := dc9_4 (by decide +kernel)
theorem d_La_law_829 : decode y_La_law.2.1 829 = .ok (.iadd, 1) := dc9_96 (by decide +kernel)
theorem d_La_law_830 : decode y_La_law.2.1 830 = .ok (.iaload, 1) := dc9_46 (by decide +kernel)
theorem d_La_law_831 : decode y_La_law.2.1 831 = .ok (.aload_n 0, 1) := dc9_42 (by decide +kernel)
theorem d_La_law_832 : decode y_La_law.2.1 832 = .ok (.iload 4, 2) := dc9_21 (by decide +kernel)
theorem d_La_law_834 : decode y_La_law.2.1 834 = .ok (.iconst 2, 1) := dc9_5 (by decide +kernel)
theorem d_La_law_835 : decode y_La_law.2.1 835 = .ok (.iadd, 1) := dc9_96 (by decide +kernel)
theorem d_La_law_836 : decode y_La_law.2.1 836 = .ok (.iaload, 1) := dc9_46 (by decide +kernel)
theorem d_La_law_837 : decode y_La_law.2.1 837 = .ok (.aload_n 0, 1) := dc9_42 (by decide +kernel)
theorem d_La_law_838 : decode y_La_law.2.1 838 = .ok (.iload 4, 2) := dc9_21 (by decide +kernel)
theorem d_La_law_840 : decode y_La_law.2.1 840 = .ok (.iconst 3, 1) := dc9_6 (by decide +kernel)
theorem d_La_law_841 : decode y_La_law.2.1 841 = .ok (.iadd, 1) := dc9_96 (by decide +kernel)
theorem d_La_law_842 : decode y_La_law.2.1 842 = .ok (.iaload, 1) := dc9_46 (by decide +kernel)
theorem d_La_law_843 : decode y_La_law.2.1 843 = .ok (.aload_n 0, 1) := dc9_42 (by decide +kernel)
theorem d_La_law_844 : decode y_La_law.2.1 844 = .ok (.iload 4, 2) := dc9_21 (by decide +kernel)
theorem d_La_law_846 : decode y_La_law.2.1 846 = .ok (.iconst 4, 1) := dc9_7 (by decide +kernel)
theorem d_La_law_847 : decode y_La_law.2.1 847 = .ok (.iadd, 1) := dc9_96 (by decide +kernel)
theorem d_La_law_848 : decode y_La_law.2.1 848 = .ok (.iaload, 1) := dc9_46 (by decide +kernel)
theorem d_La_law_849 : decode y_La_law.2.1 849 = .ok (.invokevirtual 138, 3) := dc9_182 (by decide +kernel)
theorem d_La_law_852 : decode y_La_law.2.1 852 = .ok (.pop, 1) := dc9_87 (by decide +kernel)
theorem d_La_law_853 : decode y_La_law.2.1 853 = .ok (.goto (140), 3) := by decide +kernel
theorem d_La_law_856 : decode y_La_law.2.1 856 = .ok (.aload_n 1, 1) := dc9_43 (by decide +kernel)
theorem d_La_law_857 : decode y_La_law.2.1 857 = .ok (.aload_n 0, 1) := dc9_42 (by decide +kernel)
theorem d_La_law_858 : decode y_La_law.2.1 858 = .ok (.iload 4, 2) := dc9_21 (by decide +kernel)
theorem d_La_law_860 : decode y_La_law.2.1 860 = .ok (.iconst 1, 1) := dc9_4 (by decide +kernel)
theorem d_La_law_861 : decode y_La_law.2.1 861 = .ok (.iadd, 1) := dc9_96 (by decide +kernel)
theorem d_La_law_862 : decode y_La_law.2.1 862 = .ok (.iaload, 1) := dc9_46 (by decide +kernel)
theorem d_La_law_863 : decode y_La_law.2.1 863 = .ok (.aload_n 0, 1) := dc9_42 (by decide +kernel)
theorem d_La_law_864 : decode y_La_law.2.1 864 = .ok (.iload 4, 2) := dc9_21 (by decide +kernel)
theorem d_La_law_866 : decode y_La_law.2.1 866 = .ok (.iconst 2, 1) := dc9_5 (by decide +kernel)
theorem d_La_law_867 : decode y_La_law.2.1 867 = .ok (.iadd, 1) := dc9_96 (by decide +kernel)
theorem d_La_law_868 : decode y_La_law.2.1 868 = .ok (.iaload, 1) := dc9_46 (by decide +kernel)
theorem d_La_law_869 : decode y_La_law.2.1 869 = .ok (.invokevirtual 139, 3) := dc9_182 (by decide +kernel)
theorem d_La_law_872 : decode y_La_law.2.1 872 = .ok (.pop, 1) := dc9_87 (by decide +kernel)
theorem d_La_law_873 : decode y_La_law.2.1 873 = .ok (.aload_n 2, 1) := dc9_44 (by decide +kernel)
theorem d_La_law_874 : decode y_La_law.2.1 874 = .ok (.aload_n 0, 1) := dc9_42 (by decide +kernel)
theorem d_La_law_875 : decode y_La_law.2.1 875 = .ok (.iload 4, 2) := dc9_21 (by decide +kernel)
theorem d_La_law_877 : decode y_La_law.2.1 877 = .ok (.iconst 1, 1) := dc9_4 (by decide +kernel)
theorem d_La_law_878 : decode y_La_law.2.1 878 = .ok (.iadd, 1) := dc9_96 (by decide +kernel)
theorem d_La_law_879 : decode y_La_law.2.1 879 = .ok (.iaload, 1) := dc9_46 (by decide +kernel)
theorem d_La_law_880 : decode y_La_law.2.1 880 = .ok (.aload_n 0, 1) := dc9_42 (by decide +kernel)
theorem d_La_law_881 : decode y_La_law.2.1 881 = .ok (.iload 4, 2) := dc9_21 (by decide +kernel)
theorem d_La_law_883 : decode y_La_law.2.1 883 = .ok (.iconst 2, 1) := dc9_5 (by decide +kernel)
theorem d_La_law_884 : decode y_La_law.2.1 884 = .ok (.iadd, 1) := dc9_96 (by decide +kernel)
theorem d_La_law_885 : decode y_La_law.2.1 885 = .ok (.iaload, 1) := dc9_46 (by decide +kernel)
theorem d_La_law_886 : decode y_La_law.2.1 886 = .ok (.invokevirtual 142, 3) := dc9_182 (by decide +kernel)
theorem d_La_law_889 : decode y_La_law.2.1 889 = .ok (.pop, 1) := dc9_87 (by decide +kernel)
theorem d_La_law_890 : decode y_La_law.2.1 890 = .ok (.goto (103), 3) := by decide +kernel
theorem d_La_law_893 : decode y_La_law.2.1 893 = .ok (.aload_n 1, 1) := dc9_43 (by decide +kernel)
theorem d_La_law_894 : decode y_La_law.2.1 894 = .ok (.aload_n 0, 1) := dc9_42 (by decide +kernel)
theorem d_La_law_895 : decode y_La_law.2.1 895 = .ok (.iload 4, 2) := dc9_21 (by decide +kernel)
theorem d_La_law_897 : decode y_La_law.2.1 897 = .ok (.iconst 1, 1) := dc9_4 (by decide +kernel)
theorem d_La_law_898 : decode y_La_law.2.1 898 = .ok (.iadd, 1) := dc9_96 (by decide +kernel)
theorem d_La_law_899 : decode y_La_law.2.1 899 = .ok (.iaload, 1) := dc9_46 (by decide +kernel)
theorem d_La_law_900 : decode y_La_law.2.1 900 = .ok (.invokevirtual 143, 3) := dc9_182 (by decide +kernel)
theorem d_La_law_903 : decode y_La_law.2.1 903 = .ok (.pop, 1) := dc9_87 (by decide +kernel)
theorem d_La_law_904 : decode y_La_law.2.1 904 = .ok (.aload_n 2, 1) := dc9_44 (by decide +kernel)
theorem d_La_law_905 : decode y_La_law.2.1 905 = .ok (.aload_n 0, 1) := dc9_42 (by decide +kernel)
theorem d_La_law_906 : decode y_La_law.2.1 906 = .ok (.iload 4, 2) := dc9_21 (by decide +kernel)
theorem d_La_law_908 : decode y_La_law.2.1 908 = .ok (.iconst 1, 1) := dc9_4 (by decide +kernel)
theorem d_La_law_909 : decode y_La_law.2.1 909 = .ok (.iadd, 1) := dc9_96 (by decide +kernel)
theorem d_La_law_910 : decode y_La_law.2.1 910 = .ok (.iaload, 1) := dc9_46 (by decide +kernel)
theorem d_La_law_911 : decode y_La_law.2.1 911 = .ok (.invokevirtual 146, 3) := dc9_182 (by decide +kernel)
theorem d_La_law_914 : decode y_La_law.2.1 914 = .ok (.pop, 1) := dc9_87 (by decide +kernel)
theorem d_La_law_915 : decode y_La_law.2.1 915 = .ok (.goto (78), 3) := by decide +kernel
theorem d_La_law_918 : decode y_La_law.2.1 918 = .ok (.aload_n 1, 1) := dc9_43 (by decide +kernel)
theorem d_La_law_919 : decode y_La_law.2.1 919 = .ok (.aload_n 0, 1) := dc9_42 (by decide +kernel)
theorem d_La_law_920 : decode y_La_law.2.1 920 = .ok (.iload 4, 2) := dc9_21 (by decide +kernel)
theorem d_La_law_922 : decode y_La_law.2.1 922 = .ok (.iconst 1, 1) := dc9_4 (by decide +kernel)
theorem d_La_law_923 : decode y_La_law.2.1 923 = .ok (.iadd, 1) := dc9_96 (by decide +kernel)
theorem d_La_law_924 : decode y_La_law.2.1 924 = .ok (.iaload, 1) := dc9_46 (by decide +kernel)
theorem d_La_law_925 : decode y_La_law.2.1 925 = .ok (.invokevirtual 147, 3) := dc9_182 (by decide +kernel)
theorem d_La_law_928 : decode y_La_law.2.1 928 = .ok (.pop, 1) := dc9_87 (by decide +kernel)
theorem d_La_law_929 : decode y_La_law.2.1 929 = .ok (.aload_n 2, 1) := dc9_44 (by decide +kernel)
theorem d_La_law_930 : decode y_La_law.2.1 930 = .ok (.aload_n 0, 1) := dc9_42 (by decide +kernel)
theorem d_La_law_931 : decode y_La_law.2.1 931 = .ok (.iload 4, 2) := dc9_21 (by decide +kernel)
theorem d_La_law_933 : decode y_La_law.2.1 933 = .ok (.iconst 1, 1) := dc9_4 (by decide +kernel)
theorem d_La_law_934 : decode y_La_law.2.1 934 = .ok (.iadd, 1) := dc9_96 (by decide +kernel)
theorem d_La_law_935 : decode y_La_law.2.1 935 = .ok (.iaload, 1) := dc9_46 (by decide +kernel)
theorem d_La_law_936 : decode y_La_law.2.1 936 = .ok (.invokevirtual 150, 3) := dc9_182 (by decide +kernel)
theorem d_La_law_939 : decode y_La_law.2.1 939 = .ok (.pop, 1) := dc9_87 (by decide +kernel)
theorem d_La_law_940 : decode y_La_law.2.1 940 = .ok (.goto (53), 3) := by decide +kernel
theorem d_La_law_943 : decode y_La_law.2.1 943 = .ok (.aload_n 1, 1) := dc9_43 (by decide +kernel)
theorem d_La_law_944 : decode y_La_law.2.1 944 = .ok (.aload_n 0, 1) := dc9_42 (by decide +kernel)
theorem d_La_law_945 : decode y_La_law.2.1 945 = .ok (.iload 4, 2) := dc9_21 (by decide +kernel)
theorem d_La_law_947 : decode y_La_law.2.1 947 = .ok (.iconst 1, 1) := dc9_4 (by decide +kernel)
theorem d_La_law_948 : decode y_La_law.2.1 948 = .ok (.iadd, 1) := dc9_96 (by decide +kernel)
theorem d_La_law_949 : decode y_La_law.2.1 949 = .ok (.iaload, 1) := dc9_46 (by decide +kernel)
theorem d_La_law_950 : decode y_La_law.2.1 950 = .ok (.aload_n 0, 1) := dc9_42 (by decide +kernel)
theorem d_La_law_951 : decode y_La_law.2.1 951 = .ok (.iload 4, 2) := dc9_21 (by decide +kernel)
theorem d_La_law_953 : decode y_La_law.2.1 953 = .ok (.iconst 2, 1) := dc9_5 (by decide +kernel)
theorem d_La_law_954 : decode y_La_law.2.1 954 = .ok (.iadd, 1) := dc9_96 (by decide +kernel)
theorem d_La_law_955 : decode y_La_law.2.1 955 = .ok (.iaload, 1) := dc9_46 (by decide +kernel)
theorem d_La_law_956 : decode y_La_law.2.1 956 = .ok (.invokevirtual 151, 3) := dc9_182 (by decide +kernel)
theorem d_La_law_959 : decode y_La_law.2.1 959 = .ok (.pop, 1) := dc9_87 (by decide +kernel)
theorem d_La_law_960 : decode y_La_law.2.1 960 = .ok (.aload_n 2, 1) := dc9_44 (by decide +kernel)
theorem d_La_law_961 : decode y_La_law.2.1 961 = .ok (.aload_n 0, 1) := dc9_42 (by decide +kernel)
theorem d_La_law_962 : decode y_La_law.2.1 962 = .ok (.iload 4, 2) := dc9_21 (by decide +kernel)
theorem d_La_law_964 : decode y_La_law.2.1 964 = .ok (.iconst 1, 1) := dc9_4 (by decide +kernel)
theorem d_La_law_965 : decode y_La_law.2.1 965 = .ok (.iadd, 1) := dc9_96 (by decide +kernel)
theorem d_La_law_966 : decode y_La_law.2.1 966 = .ok (.iaload, 1) := dc9_46 (by decide +kernel)
theorem d_La_law_967 : decode y_La_law.2.1 967 = .ok (.aload_n 0, 1) := dc9_42 (by decide +kernel)
theorem d_La_law_968 : decode y_La_law.2.1 968 = .ok (.iload 4, 2) := dc9_21 (by decide +kernel)
theorem d_La_law_970 : decode y_La_law.2.1 970 = .ok (.iconst 2, 1) := dc9_5 (by decide +kernel)
theorem d_La_law_971 : decode y_La_law.2.1 971 = .ok (.iadd, 1) := dc9_96 (by decide +kernel)
theorem d_La_law_972 : decode y_La_law.2.1 972 = .ok (.iaload, 1) := dc9_46 (by decide +kernel)
theorem d_La_law_973 : decode y_La_law.2.1 973 = .ok (.invokevirtual 154, 3) := dc9_182 (by decide +kernel)
theorem d_La_law_976 : decode y_La_law.2.1 976 = .ok (.pop, 1) := dc9_87 (by decide +kernel)
theorem d_La_law_977 : decode y_La_law.2.1 977 = .ok (.goto (16), 3) := by decide +kernel
theorem d_La_law_980 : decode y_La_law.2.1 980 = .ok (.aload_n 1, 1) := dc9_43 (by decide +kernel)
theorem d_La_law_981 : decode y_La_law.2.1 981 = .ok (.invokevirtual 155, 3) := dc9_182 (by decide +kernel)
theorem d_La_law_984 : decode y_La_law.2.1 984 = .ok (.pop, 1) := dc9_87 (by decide +kernel)
theorem d_La_law_985 : decode y_La_law.2.1 985 = .ok (.aload_n 2, 1) := dc9_44 (by decide +kernel)
theorem d_La_law_986 : decode y_La_law.2.1 986 = .ok (.invokevirtual 158, 3) := dc9_182 (by decide +kernel)
theorem d_La_law_989 : decode y_La_law.2.1 989 = .ok (.pop, 1) := dc9_87 (by decide +kernel)
theorem d_La_law_990 : decode y_La_law.2.1 990 = .ok (.goto (3), 3) := by decide +kernel
theorem d_La_law_993 : decode y_La_law.2.1 993 = .ok (.iinc 4 6, 3) := by decide +kernel
theorem d_La_law_996 : decode y_La_law.2.1 996 = .ok (.goto (-973), 3) := dc9_167 (by decide +kernel)
theorem d_La_law_999 : decode y_La_law.2.1 999 = .ok (.iconst 1, 1) := dc9_4 (by decide +kernel)
theorem d_La_law_1000 : decode y_La_law.2.1 1000 = .ok (.ireturn, 1) := dc9_172 (by decide +kernel)
/-- the script: N ints xs at b -/
def Scr (b N : Nat) (xs : Int → Int) (M : mM) : Prop := mK M b = 40 ∧ mN M b = N ∧ ∀ j : Int, 0 ≤ j → j < N → mI M b j.toNat = xs j
abbrev LL (b t a o : Nat) (i : Int) : List mV := [vo b, vr t, vr a, vr o, vi i, vd, vd]
/-- behind an arm -/
def LPx (G : mG) (d b t a o : Nat) (i : Int) (Q : Option mV → mM → Prop) (M : mM) : Prop := mWm G y_La_law (d + 1) 993 (LL b t a o i) [] M Q
theorem ka_4_5 : (Jvm.Cond.methodLink "ChanceArenaLaw" (47 : Nat) ({ cls := "ChanceArena", name := "feed", desc := "(IIIII)I" } : Jvm.MethodName)) ∈ lw_R := zR (zk_4 _ (List.mem_of_getElem? (i := 5) rfl)) rfl
theorem ka_4_6 : (Jvm.Cond.instanceMethod ({ cls := "ChanceArena", name := "feed", desc := "(IIIII)I" } : Jvm.MethodName)) ∈ lw_R := zR (zk_4 _ (List.mem_of_getElem? (i := 6) rfl)) rfl
theorem ka_4_7 : (Jvm.Cond.selects "ChanceArena" ({ cls := "ChanceArena", name := "feed", desc := "(IIIII)I" } : Jvm.MethodName) ({ cls := "ChanceArena", name := "feed", desc := "(IIIII)I" } : Jvm.MethodName)) ∈ lw_R := zR (zk_4 _ (List.mem_of_getElem? (i := 7) rfl)) rfl
theorem ka_4_8 : yC y_CA_feed ∈ lw_R := zR (zk_4 _ (List.mem_of_getElem? (i := 8) rfl)) rfl
theorem ka_10_233 : (Jvm.Cond.methodLink "ChanceArenaLaw" (51 : Nat) ({ cls := "ChanceArenaModel", name := "feed", desc := "(IIIII)I" } : Jvm.MethodName)) ∈ lw_R := zR (zk_10 _ (List.mem_of_getElem? (i := 233) rfl)) rfl
theorem ka_10_234 : (Jvm.Cond.instanceMethod ({ cls := "ChanceArenaModel", name := "feed", desc := "(IIIII)I" } : Jvm.MethodName)) ∈ lw_R := zR (zk_10 _ (List.mem_of_getElem? (i := 234) rfl)) rfl
theorem ka_10_235 : (Jvm.Cond.selects "ChanceArenaModel" ({ cls := "ChanceArenaModel", name := "feed", desc := "(IIIII)I" } : Jvm.MethodName) ({ cls := "ChanceArenaModel", name := "feed", desc := "(IIIII)I" } : Jvm.MethodName)) ∈ lw_R := zR (zk_10 _ (List.mem_of_getElem? (i := 235) rfl)) rfl
theorem ka_10_236 : yC y_MM_feed ∈ lw_R := zR (zk_10 _ (List.mem_of_getElem? (i := 236) rfl)) rfl
theorem ka_7_184 : (Jvm.Cond.methodLink "ChanceArenaLaw" (52 : Nat) ({ cls := "ChanceArenaLaw", name := "end", desc := "(LChanceArena;I[J)I" } : Jvm.MethodName)) ∈ lw_R := zR (zk_7 _ (List.mem_of_getElem? (i := 184) rfl)) rfl
theorem ka_1_0 : (Jvm.Cond.initialized "ChanceArenaLaw") ∈ lw_R := zR (zk_1 _ (List.mem_of_getElem? (i := 0) rfl)) rfl
theorem ka_7_185 : (Jvm.Cond.static ({ cls := "ChanceArenaLaw", name := "end", desc := "(LChanceArena;I[J)I" } : Jvm.MethodName)) ∈ lw_R := zR (zk_7 _ (List.mem_of_getElem? (i := 185) rfl)) rfl
theorem ka_7_186 : yW y_La_end hs_end ∈ lw_R := zR (zk_7 _ (List.mem_of_getElem? (i := 186) rfl)) rfl
theorem ka_11_5 : (Jvm.Cond.methodLink "ChanceArenaLaw" (57 : Nat) ({ cls := "ChanceArenaModel", name := "end", desc := "(I)I" } : Jvm.MethodName)) ∈ lw_R := zR (zk_11 _ (List.mem_of_getElem? (i := 5) rfl)) rfl
theorem ka_11_6 : (Jvm.Cond.instanceMethod ({ cls := "ChanceArenaModel", name := "end", desc := "(I)I" } : Jvm.MethodName)) ∈ lw_R := zR (zk_11 _ (List.mem_of_getElem? (i := 6) rfl)) rfl
theorem ka_11_7 : (Jvm.Cond.selects "ChanceArenaModel" ({ cls := "ChanceArenaModel", name := "end", desc := "(I)I" } : Jvm.MethodName) ({ cls := "ChanceArenaModel", name := "end", desc := "(I)I" } : Jvm.MethodName)) ∈ lw_R := zR (zk_11 _ (List.mem_of_getElem? (i := 7) rfl)) rfl
theorem ka_11_8 : yC y_MM_end ∈ lw_R := zR (zk_11 _ (List.mem_of_getElem? (i := 8) rfl)) rfl
theorem ka_4_20 : (Jvm.Cond.methodLink "ChanceArenaLaw" (58 : Nat) ({ cls := "ChanceArena", name := "compile", desc := "()I" } : Jvm.MethodName)) ∈ lw_R := zR (zk_4 _ (List.mem_of_getElem? (i := 20) rfl)) rfl
theorem ka_4_21 : (Jvm.Cond.instanceMethod ({ cls := "ChanceArena", name := "compile", desc := "()I" } : Jvm.MethodName)) ∈ lw_R := zR (zk_4 _ (List.mem_of_getElem? (i := 21) rfl)) rfl
theorem ka_4_22 : (Jvm.Cond.selects "ChanceArena" ({ cls := "ChanceArena", name := "compile", desc := "()I" } : Jvm.MethodName) ({ cls := "ChanceArena", name := "compile", desc := "()I" } : Jvm.MethodName)) ∈ lw_R := zR (zk_4 _ (List.mem_of_getElem? (i := 22) rfl)) rfl
theorem ka_4_23 : yC y_CA_compile ∈ lw_R := zR (zk_4 _ (List.mem_of_getElem? (i := 23) rfl)) rfl
theorem ka_11_9 : (Jvm.Cond.methodLink "ChanceArenaLaw" (61 : Nat) ({ cls := "ChanceArenaModel", name := "compile", desc := "()I" } : Jvm.MethodName)) ∈ lw_R := zR (zk_11 _ (List.mem_of_getElem? (i := 9) rfl)) rfl
theorem ka_11_10 : (Jvm.Cond.instanceMethod ({ cls := "ChanceArenaModel", name := "compile", desc := "()I" } : Jvm.MethodName)) ∈ lw_R := zR (zk_11 _ (List.mem_of_getElem? (i := 10) rfl)) rfl
theorem ka_11_11 : (Jvm.Cond.selects "ChanceArenaModel" ({ cls := "ChanceArenaModel", name := "compile", desc := "()I" } : Jvm.MethodName) ({ cls := "ChanceArenaModel", name := "compile", desc := "()I" } : Jvm.MethodName)) ∈ lw_R := zR (zk_11 _ (List.mem_of_getElem? (i := 11) rfl)) rfl
theorem ka_11_12 : yC y_MM_compile ∈ lw_R := zR (zk_11 _ (List.mem_of_getElem? (i := 12) rfl)) rfl
theorem ka_5_129 : (Jvm.Cond.methodLink "ChanceArenaLaw" (62 : Nat) ({ cls := "ChanceArena", name := "place", desc := "()I" } : Jvm.MethodName)) ∈ lw_R := zR (zk_5 _ (List.mem_of_getElem? (i := 129) rfl)) rfl
theorem ka_5_130 : (Jvm.Cond.instanceMethod ({ cls := "ChanceArena", name := "place", desc := "()I" } : Jvm.MethodName)) ∈ lw_R := zR (zk_5 _ (List.mem_of_getElem? (i := 130) rfl)) rfl
theorem ka_5_131 : (Jvm.Cond.selects "ChanceArena" ({ cls := "ChanceArena", name := "place", desc := "()I" } : Jvm.MethodName) ({ cls := "ChanceArena", name := "place", desc := "()I" } : Jvm.MethodName)) ∈ lw_R := zR (zk_5 _ (List.mem_of_getElem? (i := 131) rfl)) rfl
theorem ka_5_132 : yC y_CA_place ∈ lw_R := zR (zk_5 _ (List.mem_of_getElem? (i := 132) rfl)) rfl
theorem ka_12_77 : (Jvm.Cond.methodLink "ChanceArenaLaw" (65 : Nat) ({ cls := "ChanceArenaModel", name := "place", desc := "()I" } : Jvm.MethodName)) ∈ lw_R := zR (zk_12 _ (List.mem_of_getElem? (i := 77) rfl)) rfl
theorem ka_12_78 : (Jvm.Cond.instanceMethod ({ cls := "ChanceArenaModel", name := "place", desc := "()I" } : Jvm.MethodName)) ∈ lw_R := zR (zk_12 _ (List.mem_of_getElem? (i := 78) rfl)) rfl
theorem ka_12_79 : (Jvm.Cond.selects "ChanceArenaModel" ({ cls := "ChanceArenaModel", name := "place", desc := "()I" } : Jvm.MethodName) ({ cls := "ChanceArenaModel", name := "place", desc := "()I" } : Jvm.MethodName)) ∈ lw_R := zR (zk_12 _ (List.mem_of_getElem? (i := 79) rfl)) rfl
theorem ka_12_80 : yC y_MM_place1 ∈ lw_R := zR (zk_12 _ (List.mem_of_getElem? (i := 80) rfl)) rfl
theorem ka_5_133 : (Jvm.Cond.methodLink "ChanceArenaLaw" (66 : Nat) ({ cls := "ChanceArena", name := "items", desc := "(I)I" } : Jvm.MethodName)) ∈ lw_R := zR (zk_5 _ (List.mem_of_getElem? (i := 133) rfl)) rfl
theorem ka_5_134 : (Jvm.Cond.instanceMethod ({ cls := "ChanceArena", name := "items", desc := "(I)I" } : Jvm.MethodName)) ∈ lw_R := zR (zk_5 _ (List.mem_of_getElem? (i := 134) rfl)) rfl
theorem ka_5_135 : (Jvm.Cond.selects "ChanceArena" ({ cls := "ChanceArena", name := "items", desc := "(I)I" } : Jvm.MethodName) ({ cls := "ChanceArena", name := "items", desc := "(I)I" } : Jvm.MethodName)) ∈ lw_R := zR (zk_5 _ (List.mem_of_getElem? (i := 135) rfl)) rfl
theorem ka_5_136 : yC y_CA_items ∈ lw_R := zR (zk_5 _ (List.mem_of_getElem? (i := 136) rfl)) rfl
theorem ka_12_81 : (Jvm.Cond.methodLink "ChanceArenaLaw" (69 : Nat) ({ cls := "ChanceArenaModel", name := "items", desc := "(I)I" } : Jvm.MethodName)) ∈ lw_R := zR (zk_12 _ (List.mem_of_getElem? (i := 81) rfl)) rfl
theorem ka_12_82 : (Jvm.Cond.instanceMethod ({ cls := "ChanceArenaModel", name := "items", desc := "(I)I" } : Jvm.MethodName)) ∈ lw_R := zR (zk_12 _ (List.mem_of_getElem? (i := 82) rfl)) rfl
theorem ka_12_83 : (Jvm.Cond.selects "ChanceArenaModel" ({ cls := "ChanceArenaModel", name := "items", desc := "(I)I" } : Jvm.MethodName) ({ cls := "ChanceArenaModel", name := "items", desc := "(I)I" } : Jvm.MethodName)) ∈ lw_R := zR (zk_12 _ (List.mem_of_getElem? (i := 83) rfl)) rfl
theorem ka_12_84 : yC y_MM_items1 ∈ lw_R := zR (zk_12 _ (List.mem_of_getElem? (i := 84) rfl)) rfl
theorem ka_7_203 : (Jvm.Cond.methodLink "ChanceArenaLaw" (70 : Nat) ({ cls := "ChanceArenaLaw", name := "explore", desc := "(LChanceArena;[J)I" } : Jvm.MethodName)) ∈ lw_R := zR (zk_7 _ (List.mem_of_getElem? (i := 203) rfl)) rfl
theorem ka_7_204 : (Jvm.Cond.static ({ cls := "ChanceArenaLaw", name := "explore", desc := "(LChanceArena;[J)I" } : Jvm.MethodName)) ∈ lw_R := zR (zk_7 _ (List.mem_of_getElem? (i := 204) rfl)) rfl
theorem ka_7_205 : yW y_La_explore hs_explore ∈ lw_R := zR (zk_7 _ (List.mem_of_getElem? (i := 205) rfl)) rfl
theorem ka_12_85 : (Jvm.Cond.methodLink "ChanceArenaLaw" (73 : Nat) ({ cls := "ChanceArenaModel", name := "explore", desc := "()I" } : Jvm.MethodName)) ∈ lw_R := zR (zk_12 _ (List.mem_of_getElem? (i := 85) rfl)) rfl
theorem ka_12_86 : (Jvm.Cond.instanceMethod ({ cls := "ChanceArenaModel", name := "explore", desc := "()I" } : Jvm.MethodName)) ∈ lw_R := zR (zk_12 _ (List.mem_of_getElem? (i := 86) rfl)) rfl
theorem ka_12_87 : (Jvm.Cond.selects "ChanceArenaModel" ({ cls := "ChanceArenaModel", name := "explore", desc := "()I" } : Jvm.MethodName) ({ cls := "ChanceArenaModel", name := "explore", desc := "()I" } : Jvm.MethodName)) ∈ lw_R := zR (zk_12 _ (List.mem_of_getElem? (i := 87) rfl)) rfl
theorem ka_12_88 : yC y_MM_explore ∈ lw_R := zR (zk_12 _ (List.mem_of_getElem? (i := 88) rfl)) rfl
theorem ka_5_137 : (Jvm.Cond.methodLink "ChanceArenaLaw" (74 : Nat) ({ cls := "ChanceArena", name := "state", desc := "()I" } : Jvm.MethodName)) ∈ lw_R := zR (zk_5 _ (List.mem_of_getElem? (i := 137) rfl)) rfl
theorem ka_5_138 : (Jvm.Cond.instanceMethod ({ cls := "ChanceArena", name := "state", desc := "()I" } : Jvm.MethodName)) ∈ lw_R := zR (zk_5 _ (List.mem_of_getElem? (i := 138) rfl)) rfl
theorem ka_5_139 : (Jvm.Cond.selects "ChanceArena" ({ cls := "ChanceArena", name := "state", desc := "()I" } : Jvm.MethodName) ({ cls := "ChanceArena", name := "state", desc := "()I" } : Jvm.MethodName)) ∈ lw_R := zR (zk_5 _ (List.mem_of_getElem? (i := 139) rfl)) rfl
theorem ka_5_140 : yC y_CA_state ∈ lw_R := zR (zk_5 _ (List.mem_of_getElem? (i := 140) rfl)) rfl
theorem ka_12_141 : (Jvm.Cond.methodLink "ChanceArenaLaw" (77 : Nat) ({ cls := "ChanceArenaModel", name := "state", desc := "()I" } : Jvm.MethodName)) ∈ lw_R := zR (zk_12 _ (List.mem_of_getElem? (i := 141) rfl)) rfl
theorem ka_12_142 : (Jvm.Cond.instanceMethod ({ cls := "ChanceArenaModel", name := "state", desc := "()I" } : Jvm.MethodName)) ∈ lw_R := zR (zk_12 _ (List.mem_of_getElem? (i := 142) rfl)) rfl
theorem ka_12_143 : (Jvm.Cond.selects "ChanceArenaModel" ({ cls := "ChanceArenaModel", name := "state", desc := "()I" } : Jvm.MethodName) ({ cls := "ChanceArenaModel", name := "state", desc := "()I" } : Jvm.MethodName)) ∈ lw_R := zR (zk_12 _ (List.mem_of_getElem? (i := 143) rfl)) rfl
theorem ka_12_144 : yC y_MM_state1 ∈ lw_R := zR (zk_12 _ (List.mem_of_getElem? (i := 144) rfl)) rfl
theorem ka_5_141 : (Jvm.Cond.methodLink "ChanceArenaLaw" (78 : Nat) ({ cls := "ChanceArena", name := "states", desc := "()I" } : Jvm.MethodName)) ∈ lw_R := zR (zk_5 _ (List.mem_of_getElem? (i := 141) rfl)) rfl
theorem ka_5_142 : (Jvm.Cond.instanceMethod ({ cls := "ChanceArena", name := "states", desc := "()I" } : Jvm.MethodName)) ∈ lw_R := zR (zk_5 _ (List.mem_of_getElem? (i := 142) rfl)) rfl
theorem ka_5_143 : (Jvm.Cond.selects "ChanceArena" ({ cls := "ChanceArena", name := "states", desc := "()I" } : Jvm.MethodName) ({ cls := "ChanceArena", name := "states", desc := "()I" } : Jvm.MethodName)) ∈ lw_R := zR (zk_5 _ (List.mem_of_getElem? (i := 143) rfl)) rfl
theorem ka_5_144 : yC y_CA_states ∈ lw_R := zR (zk_5 _ (List.mem_of_getElem? (i := 144) rfl)) rfl
theorem ka_12_145 : (Jvm.Cond.methodLink "ChanceArenaLaw" (81 : Nat) ({ cls := "ChanceArenaModel", name := "states", desc := "()I" } : Jvm.MethodName)) ∈ lw_R := zR (zk_12 _ (List.mem_of_getElem? (i := 145) rfl)) rfl
theorem ka_12_146 : (Jvm.Cond.instanceMethod ({ cls := "ChanceArenaModel", name := "states", desc := "()I" } : Jvm.MethodName)) ∈ lw_R := zR (zk_12 _ (List.mem_of_getElem? (i := 146) rfl)) rfl
theorem ka_12_147 : (Jvm.Cond.selects "ChanceArenaModel" ({ cls := "ChanceArenaModel", name := "states", desc := "()I" } : Jvm.MethodName) ({ cls := "ChanceArenaModel", name := "states", desc := "()I" } : Jvm.MethodName)) ∈ lw_R := zR (zk_12 _ (List.mem_of_getElem? (i := 147) rfl)) rfl
theorem ka_12_148 : yC y_MM_states ∈ lw_R := zR (zk_12 _ (List.mem_of_getElem? (i := 148) rfl)) rfl
theorem ka_8_39 : (Jvm.Cond.methodLink "ChanceArenaLaw" (82 : Nat) ({ cls := "ChanceArenaLaw", name := "variable", desc := "(LChanceArena;II[J)I" } : Jvm.MethodName)) ∈ lw_R := zR (zk_8 _ (List.mem_of_getElem? (i := 39) rfl)) rfl
theorem ka_8_40 : (Jvm.Cond.static ({ cls := "ChanceArenaLaw", name := "variable", desc := "(LChanceArena;II[J)I" } : Jvm.MethodName)) ∈ lw_R := zR (zk_8 _ (List.mem_of_getElem? (i := 40) rfl)) rfl
theorem ka_8_41 : yW y_La_variable hs_variable ∈ lw_R := zR (zk_8 _ (List.mem_of_getElem? (i := 41) rfl)) rfl
theorem ka_12_149 : (Jvm.Cond.methodLink "ChanceArenaLaw" (85 : Nat) ({ cls := "ChanceArenaModel", name := "variable", desc := "(II)I" } : Jvm.MethodName)) ∈ lw_R := zR (zk_12 _ (List.mem_of_getElem? (i := 149) rfl)) rfl
theorem ka_12_150 : (Jvm.Cond.instanceMethod ({ cls := "ChanceArenaModel", name := "variable", desc := "(II)I" } : Jvm.MethodName)) ∈ lw_R := zR (zk_12 _ (List.mem_of_getElem? (i := 150) rfl)) rfl
theorem ka_12_151 : (Jvm.Cond.selects "ChanceArenaModel" ({ cls := "ChanceArenaModel", name := "variable", desc := "(II)I" } : Jvm.MethodName) ({ cls := "ChanceArenaModel", name := "variable", desc := "(II)I" } : Jvm.MethodName)) ∈ lw_R := zR (zk_12 _ (List.mem_of_getElem? (i := 151) rfl)) rfl
theorem ka_12_152 : yC y_MM_variable ∈ lw_R := zR (zk_12 _ (List.mem_of_getElem? (i := 152) rfl)) rfl
theorem ka_5_145 : (Jvm.Cond.methodLink "ChanceArenaLaw" (86 : Nat) ({ cls := "ChanceArena", name := "kind", desc := "(I)I" } : Jvm.MethodName)) ∈ lw_R := zR (zk_5 _ (List.mem_of_getElem? (i := 145) rfl)) rfl
theorem ka_5_146 : (Jvm.Cond.instanceMethod ({ cls := "ChanceArena", name := "kind", desc := "(I)I" } : Jvm.MethodName)) ∈ lw_R := zR (zk_5 _ (List.mem_of_getElem? (i := 146) rfl)) rfl
theorem ka_5_147 : (Jvm.Cond.selects "ChanceArena" ({ cls := "ChanceArena", name := "kind", desc := "(I)I" } : Jvm.MethodName) ({ cls := "ChanceArena", name := "kind", desc := "(I)I" } : Jvm.MethodName)) ∈ lw_R := zR (zk_5 _ (List.mem_of_getElem? (i := 147) rfl)) rfl
theorem ka_5_148 : yC y_CA_kind ∈ lw_R := zR (zk_5 _ (List.mem_of_getElem? (i := 148) rfl)) rfl
theorem ka_12_153 : (Jvm.Cond.methodLink "ChanceArenaLaw" (89 : Nat) ({ cls := "ChanceArenaModel", name := "kind", desc := "(I)I" } : Jvm.MethodName)) ∈ lw_R := zR (zk_12 _ (List.mem_of_getElem? (i := 153) rfl)) rfl
theorem ka_12_154 : (Jvm.Cond.instanceMethod ({ cls := "ChanceArenaModel", name := "kind", desc := "(I)I" } : Jvm.MethodName)) ∈ lw_R := zR (zk_12 _ (List.mem_of_getElem? (i := 154) rfl)) rfl
theorem ka_12_155 : (Jvm.Cond.selects "ChanceArenaModel" ({ cls := "ChanceArenaModel", name := "kind", desc := "(I)I" } : Jvm.MethodName) ({ cls := "ChanceArenaModel", name := "kind", desc := "(I)I" } : Jvm.MethodName)) ∈ lw_R := zR (zk_12 _ (List.mem_of_getElem? (i := 155) rfl)) rfl
theorem ka_12_156 : yC y_MM_kind ∈ lw_R := zR (zk_12 _ (List.mem_of_getElem? (i := 156) rfl)) rfl
theorem ka_5_153 : (Jvm.Cond.methodLink "ChanceArenaLaw" (90 : Nat) ({ cls := "ChanceArena", name := "commands", desc := "(I)I" } : Jvm.MethodName)) ∈ lw_R := zR (zk_5 _ (List.mem_of_getElem? (i := 153) rfl)) rfl
theorem ka_5_154 : (Jvm.Cond.instanceMethod ({ cls := "ChanceArena", name := "commands", desc := "(I)I" } : Jvm.MethodName)) ∈ lw_R := zR (zk_5 _ (List.mem_of_getElem? (i := 154) rfl)) rfl
theorem ka_5_155 : (Jvm.Cond.selects "ChanceArena" ({ cls := "ChanceArena", name := "commands", desc := "(I)I" } : Jvm.MethodName) ({ cls := "ChanceArena", name := "commands", desc := "(I)I" } : Jvm.MethodName)) ∈ lw_R := zR (zk_5 _ (List.mem_of_getElem? (i := 155) rfl)) rfl
theorem ka_5_156 : yC y_CA_commands ∈ lw_R := zR (zk_5 _ (List.mem_of_getElem? (i := 156) rfl)) rfl
theorem ka_12_161 : (Jvm.Cond.methodLink "ChanceArenaLaw" (93 : Nat) ({ cls := "ChanceArenaModel", name := "commands", desc := "(I)I" } : Jvm.MethodName)) ∈ lw_R := zR (zk_12 _ (List.mem_of_getElem? (i := 161) rfl)) rfl
theorem ka_12_162 : (Jvm.Cond.instanceMethod ({ cls := "ChanceArenaModel", name := "commands", desc := "(I)I" } : Jvm.MethodName)) ∈ lw_R := zR (zk_12 _ (List.mem_of_getElem? (i := 162) rfl)) rfl
theorem ka_12_163 : (Jvm.Cond.selects "ChanceArenaModel" ({ cls := "ChanceArenaModel", name := "commands", desc := "(I)I" } : Jvm.MethodName) ({ cls := "ChanceArenaModel", name := "commands", desc := "(I)I" } : Jvm.MethodName)) ∈ lw_R := zR (zk_12 _ (List.mem_of_getElem? (i := 163) rfl)) rfl
theorem ka_12_164 : yC y_MM_commands ∈ lw_R := zR (zk_12 _ (List.mem_of_getElem? (i := 164) rfl)) rfl
theorem ka_5_157 : (Jvm.Cond.methodLink "ChanceArenaLaw" (94 : Nat) ({ cls := "ChanceArena", name := "command", desc := "(II)I" } : Jvm.MethodName)) ∈ lw_R := zR (zk_5 _ (List.mem_of_getElem? (i := 157) rfl)) rfl
theorem ka_5_158 : (Jvm.Cond.instanceMethod ({ cls := "ChanceArena", name := "command", desc := "(II)I" } : Jvm.MethodName)) ∈ lw_R := zR (zk_5 _ (List.mem_of_getElem? (i := 158) rfl)) rfl
theorem ka_5_159 : (Jvm.Cond.selects "ChanceArena" ({ cls := "ChanceArena", name := "command", desc := "(II)I" } : Jvm.MethodName) ({ cls := "ChanceArena", name := "command", desc := "(II)I" } : Jvm.MethodName)) ∈ lw_R := zR (zk_5 _ (List.mem_of_getElem? (i := 159) rfl)) rfl
theorem ka_5_160 : yC y_CA_command ∈ lw_R := zR (zk_5 _ (List.mem_of_getElem? (i := 160) rfl)) rfl
theorem ka_12_165 : (Jvm.Cond.methodLink "ChanceArenaLaw" (97 : Nat) ({ cls := "ChanceArenaModel", name := "command", desc := "(II)I" } : Jvm.MethodName)) ∈ lw_R := zR (zk_12 _ (List.mem_of_getElem? (i := 165) rfl)) rfl
theorem ka_12_166 : (Jvm.Cond.instanceMethod ({ cls := "ChanceArenaModel", name := "command", desc := "(II)I" } : Jvm.MethodName)) ∈ lw_R := zR (zk_12 _ (List.mem_of_getElem? (i := 166) rfl)) rfl
theorem ka_12_167 : (Jvm.Cond.selects "ChanceArenaModel" ({ cls := "ChanceArenaModel", name := "command", desc := "(II)I" } : Jvm.MethodName) ({ cls := "ChanceArenaModel", name := "command", desc := "(II)I" } : Jvm.MethodName)) ∈ lw_R := zR (zk_12 _ (List.mem_of_getElem? (i := 167) rfl)) rfl
theorem ka_12_168 : yC y_MM_command ∈ lw_R := zR (zk_12 _ (List.mem_of_getElem? (i := 168) rfl)) rfl
theorem ka_5_166 : (Jvm.Cond.methodLink "ChanceArenaLaw" (98 : Nat) ({ cls := "ChanceArena", name := "branches", desc := "(II)I" } : Jvm.MethodName)) ∈ lw_R := zR (zk_5 _ (List.mem_of_getElem? (i := 166) rfl)) rfl
theorem ka_5_167 : (Jvm.Cond.instanceMethod ({ cls := "ChanceArena", name := "branches", desc := "(II)I" } : Jvm.MethodName)) ∈ lw_R := zR (zk_5 _ (List.mem_of_getElem? (i := 167) rfl)) rfl
theorem ka_5_168 : (Jvm.Cond.selects "ChanceArena" ({ cls := "ChanceArena", name := "branches", desc := "(II)I" } : Jvm.MethodName) ({ cls := "ChanceArena", name := "branches", desc := "(II)I" } : Jvm.MethodName)) ∈ lw_R := zR (zk_5 _ (List.mem_of_getElem? (i := 168) rfl)) rfl
theorem ka_5_169 : yC y_CA_branches ∈ lw_R := zR (zk_5 _ (List.mem_of_getElem? (i := 169) rfl)) rfl
theorem ka_12_173 : (Jvm.Cond.methodLink "ChanceArenaLaw" (101 : Nat) ({ cls := "ChanceArenaModel", name := "branches", desc := "(II)I" } : Jvm.MethodName)) ∈ lw_R := zR (zk_12 _ (List.mem_of_getElem? (i := 173) rfl)) rfl
theorem ka_12_174 : (Jvm.Cond.instanceMethod ({ cls := "ChanceArenaModel", name := "branches", desc := "(II)I" } : Jvm.MethodName)) ∈ lw_R := zR (zk_12 _ (List.mem_of_getElem? (i := 174) rfl)) rfl
theorem ka_12_175 : (Jvm.Cond.selects "ChanceArenaModel" ({ cls := "ChanceArenaModel", name := "branches", desc := "(II)I" } : Jvm.MethodName) ({ cls := "ChanceArenaModel", name := "branches", desc := "(II)I" } : Jvm.MethodName)) ∈ lw_R := zR (zk_12 _ (List.mem_of_getElem? (i := 175) rfl)) rfl
theorem ka_12_176 : yC y_MM_branches ∈ lw_R := zR (zk_12 _ (List.mem_of_getElem? (i := 176) rfl)) rfl
theorem ka_5_170 : (Jvm.Cond.methodLink "ChanceArenaLaw" (102 : Nat) ({ cls := "ChanceArena", name := "branch", desc := "(IIII)I" } : Jvm.MethodName)) ∈ lw_R := zR (zk_5 _ (List.mem_of_getElem? (i := 170) rfl)) rfl
theorem ka_5_171 : (Jvm.Cond.instanceMethod ({ cls := "ChanceArena", name := "branch", desc := "(IIII)I" } : Jvm.MethodName)) ∈ lw_R := zR (zk_5 _ (List.mem_of_getElem? (i := 171) rfl)) rfl
theorem ka_5_172 : (Jvm.Cond.selects "ChanceArena" ({ cls := "ChanceArena", name := "branch", desc := "(IIII)I" } : Jvm.MethodName) ({ cls := "ChanceArena", name := "branch", desc := "(IIII)I" } : Jvm.MethodName)) ∈ lw_R := zR (zk_5 _ (List.mem_of_getElem? (i := 172) rfl)) rfl
theorem ka_5_173 : yC y_CA_branch ∈ lw_R := zR (zk_5 _ (List.mem_of_getElem? (i := 173) rfl)) rfl
theorem ka_12_177 : (Jvm.Cond.methodLink "ChanceArenaLaw" (106 : Nat) ({ cls := "ChanceArenaModel", name := "branch", desc := "(IIII)I" } : Jvm.MethodName)) ∈ lw_R := zR (zk_12 _ (List.mem_of_getElem? (i := 177) rfl)) rfl
theorem ka_12_178 : (Jvm.Cond.instanceMethod ({ cls := "ChanceArenaModel", name := "branch", desc := "(IIII)I" } : Jvm.MethodName)) ∈ lw_R := zR (zk_12 _ (List.mem_of_getElem? (i := 178) rfl)) rfl
theorem ka_12_179 : (Jvm.Cond.selects "ChanceArenaModel" ({ cls := "ChanceArenaModel", name := "branch", desc := "(IIII)I" } : Jvm.MethodName) ({ cls := "ChanceArenaModel", name := "branch", desc := "(IIII)I" } : Jvm.MethodName)) ∈ lw_R := zR (zk_12 _ (List.mem_of_getElem? (i := 179) rfl)) rfl
theorem ka_12_180 : yC y_MM_branch1 ∈ lw_R := zR (zk_12 _ (List.mem_of_getElem? (i := 180) rfl)) rfl
theorem ka_8_62 : (Jvm.Cond.methodLink "ChanceArenaLaw" (107 : Nat) ({ cls := "ChanceArenaLaw", name := "solve", desc := "(LChanceArena;[J)I" } : Jvm.MethodName)) ∈ lw_R := zR (zk_8 _ (List.mem_of_getElem? (i := 62) rfl)) rfl
theorem ka_8_63 : (Jvm.Cond.static ({ cls := "ChanceArenaLaw", name := "solve", desc := "(LChanceArena;[J)I" } : Jvm.MethodName)) ∈ lw_R := zR (zk_8 _ (List.mem_of_getElem? (i := 63) rfl)) rfl
theorem ka_8_64 : yW y_La_solve hs_solve ∈ lw_R := zR (zk_8 _ (List.mem_of_getElem? (i := 64) rfl)) rfl
theorem ka_12_181 : (Jvm.Cond.methodLink "ChanceArenaLaw" (109 : Nat) ({ cls := "ChanceArenaModel", name := "solve", desc := "()I" } : Jvm.MethodName)) ∈ lw_R := zR (zk_12 _ (List.mem_of_getElem? (i := 181) rfl)) rfl
theorem ka_12_182 : (Jvm.Cond.instanceMethod ({ cls := "ChanceArenaModel", name := "solve", desc := "()I" } : Jvm.MethodName)) ∈ lw_R := zR (zk_12 _ (List.mem_of_getElem? (i := 182) rfl)) rfl
theorem ka_12_183 : (Jvm.Cond.selects "ChanceArenaModel" ({ cls := "ChanceArenaModel", name := "solve", desc := "()I" } : Jvm.MethodName) ({ cls := "ChanceArenaModel", name := "solve", desc := "()I" } : Jvm.MethodName)) ∈ lw_R := zR (zk_12 _ (List.mem_of_getElem? (i := 183) rfl)) rfl
theorem ka_12_184 : yC y_MM_solve ∈ lw_R := zR (zk_12 _ (List.mem_of_getElem? (i := 184) rfl)) rfl
theorem ka_8_192 : (Jvm.Cond.methodLink "ChanceArenaLaw" (110 : Nat) ({ cls := "ChanceArenaLaw", name := "within", desc := "(LChanceArena;I[J)I" } : Jvm.MethodName)) ∈ lw_R := zR (zk_8 _ (List.mem_of_getElem? (i := 192) rfl)) rfl
theorem ka_8_193 : (Jvm.Cond.static ({ cls := "ChanceArenaLaw", name := "within", desc := "(LChanceArena;I[J)I" } : Jvm.MethodName)) ∈ lw_R := zR (zk_8 _ (List.mem_of_getElem? (i := 193) rfl)) rfl
theorem ka_8_194 : yW y_La_within hs_within ∈ lw_R := zR (zk_8 _ (List.mem_of_getElem? (i := 194) rfl)) rfl
theorem ka_13_146 : (Jvm.Cond.methodLink "ChanceArenaLaw" (112 : Nat) ({ cls := "ChanceArenaModel", name := "within", desc := "(I)I" } : Jvm.MethodName)) ∈ lw_R := zR (zk_13 _ (List.mem_of_getElem? (i := 146) rfl)) rfl
theorem ka_13_147 : (Jvm.Cond.instanceMethod ({ cls := "ChanceArenaModel", name := "within", desc := "(I)I" } : Jvm.MethodName)) ∈ lw_R := zR (zk_13 _ (List.mem_of_getElem? (i := 147) rfl)) rfl
theorem ka_13_148 : (Jvm.Cond.selects "ChanceArenaModel" ({ cls := "ChanceArenaModel", name := "within", desc := "(I)I" } : Jvm.MethodName) ({ cls := "ChanceArenaModel", name := "within", desc := "(I)I" } : Jvm.MethodName)) ∈ lw_R := zR (zk_13 _ (List.mem_of_getElem? (i := 148) rfl)) rfl
theorem ka_13_149 : yC y_MM_within ∈ lw_R := zR (zk_13 _ (List.mem_of_getElem? (i := 149) rfl)) rfl
theorem ka_10_229 : (Jvm.Cond.methodLink "ChanceArenaLaw" (113 : Nat) ({ cls := "ChanceArenaModel", name := "thrown", desc := "()I" } : Jvm.MethodName)) ∈ lw_R := zR (zk_10 _ (List.mem_of_getElem? (i := 229) rfl)) rfl
theorem ka_10_230 : (Jvm.Cond.instanceMethod ({ cls := "ChanceArenaModel", name := "thrown", desc := "()I" } : Jvm.MethodName)) ∈ lw_R := zR (zk_10 _ (List.mem_of_getElem? (i := 230) rfl)) rfl
theorem ka_10_231 : (Jvm.Cond.selects "ChanceArenaModel" ({ cls := "ChanceArenaModel", name := "thrown", desc := "()I" } : Jvm.MethodName) ({ cls := "ChanceArenaModel", name := "thrown", desc := "()I" } : Jvm.MethodName)) ∈ lw_R := zR (zk_10 _ (List.mem_of_getElem? (i := 231) rfl)) rfl
theorem ka_10_232 : yC y_MM_thrown ∈ lw_R := zR (zk_10 _ (List.mem_of_getElem? (i := 232) rfl)) rfl
theorem ka_8_212 : (Jvm.Cond.methodLink "ChanceArenaLaw" (116 : Nat) ({ cls := "ChanceArenaLaw", name := "choose", desc := "(LChanceArena;II)I" } : Jvm.MethodName)) ∈ lw_R := zR (zk_8 _ (List.mem_of_getElem? (i := 212) rfl)) rfl
theorem ka_8_213 : (Jvm.Cond.static ({ cls := "ChanceArenaLaw", name := "choose", desc := "(LChanceArena;II)I" } : Jvm.MethodName)) ∈ lw_R := zR (zk_8 _ (List.mem_of_getElem? (i := 213) rfl)) rfl
theorem ka_8_214 : yW y_La_choose hs_choose ∈ lw_R := zR (zk_8 _ (List.mem_of_getElem? (i := 214) rfl)) rfl
theorem ka_13_159 : (Jvm.Cond.methodLink "ChanceArenaLaw" (119 : Nat) ({ cls := "ChanceArenaModel", name := "choose", desc := "(II)V" } : Jvm.MethodName)) ∈ lw_R := zR (zk_13 _ (List.mem_of_getElem? (i := 159) rfl)) rfl
theorem ka_13_160 : (Jvm.Cond.instanceMethod ({ cls := "ChanceArenaModel", name := "choose", desc := "(II)V" } : Jvm.MethodName)) ∈ lw_R := zR (zk_13 _ (List.mem_of_getElem? (i := 160) rfl)) rfl
theorem ka_13_161 : (Jvm.Cond.selects "ChanceArenaModel" ({ cls := "ChanceArenaModel", name := "choose", desc := "(II)V" } : Jvm.MethodName) ({ cls := "ChanceArenaModel", name := "choose", desc := "(II)V" } : Jvm.MethodName)) ∈ lw_R := zR (zk_13 _ (List.mem_of_getElem? (i := 161) rfl)) rfl
theorem ka_13_162 : yC y_MM_choose1 ∈ lw_R := zR (zk_13 _ (List.mem_of_getElem? (i := 162) rfl)) rfl
theorem ka_8_219 : (Jvm.Cond.methodLink "ChanceArenaLaw" (120 : Nat) ({ cls := "ChanceArenaLaw", name := "adopt", desc := "(LChanceArena;)I" } : Jvm.MethodName)) ∈ lw_R := zR (zk_8 _ (List.mem_of_getElem? (i := 219) rfl)) rfl
theorem ka_8_220 : (Jvm.Cond.static ({ cls := "ChanceArenaLaw", name := "adopt", desc := "(LChanceArena;)I" } : Jvm.MethodName)) ∈ lw_R := zR (zk_8 _ (List.mem_of_getElem? (i := 220) rfl)) rfl
theorem ka_8_221 : yW y_La_adopt hs_adopt ∈ lw_R := zR (zk_8 _ (List.mem_of_getElem? (i := 221) rfl)) rfl
theorem ka_13_167 : (Jvm.Cond.methodLink "ChanceArenaLaw" (123 : Nat) ({ cls := "ChanceArenaModel", name := "adopt", desc := "()V" } : Jvm.MethodName)) ∈ lw_R := zR (zk_13 _ (List.mem_of_getElem? (i := 167) rfl)) rfl
theorem ka_13_168 : (Jvm.Cond.instanceMethod ({ cls := "ChanceArenaModel", name := "adopt", desc := "()V" } : Jvm.MethodName)) ∈ lw_R := zR (zk_13 _ (List.mem_of_getElem? (i := 168) rfl)) rfl
theorem ka_13_169 : (Jvm.Cond.selects "ChanceArenaModel" ({ cls := "ChanceArenaModel", name := "adopt", desc := "()V" } : Jvm.MethodName) ({ cls := "ChanceArenaModel", name := "adopt", desc := "()V" } : Jvm.MethodName)) ∈ lw_R := zR (zk_13 _ (List.mem_of_getElem? (i := 169) rfl)) rfl
theorem ka_13_170 : yC y_MM_adopt ∈ lw_R := zR (zk_13 _ (List.mem_of_getElem? (i := 170) rfl)) rfl
theorem ka_8_227 : (Jvm.Cond.methodLink "ChanceArenaLaw" (124 : Nat) ({ cls := "ChanceArenaLaw", name := "judge", desc := "(LChanceArena;I[J)I" } : Jvm.MethodName)) ∈ lw_R := zR (zk_8 _ (List.mem_of_getElem? (i := 227) rfl)) rfl
theorem ka_8_228 : (Jvm.Cond.static ({ cls := "ChanceArenaLaw", name := "judge", desc := "(LChanceArena;I[J)I" } : Jvm.MethodName)) ∈ lw_R := zR (zk_8 _ (List.mem_of_getElem? (i := 228) rfl)) rfl
theorem ka_8_229 : yW y_La_judge hs_judge ∈ lw_R := zR (zk_8 _ (List.mem_of_getElem? (i := 229) rfl)) rfl
theorem ka_13_179 : (Jvm.Cond.methodLink "ChanceArenaLaw" (126 : Nat) ({ cls := "ChanceArenaModel", name := "judge", desc := "(I)I" } : Jvm.MethodName)) ∈ lw_R := zR (zk_13 _ (List.mem_of_getElem? (i := 179) rfl)) rfl
theorem ka_13_180 : (Jvm.Cond.instanceMethod ({ cls := "ChanceArenaModel", name := "judge", desc := "(I)I" } : Jvm.MethodName)) ∈ lw_R := zR (zk_13 _ (List.mem_of_getElem? (i := 180) rfl)) rfl
theorem ka_13_181 : (Jvm.Cond.selects "ChanceArenaModel" ({ cls := "ChanceArenaModel", name := "judge", desc := "(I)I" } : Jvm.MethodName) ({ cls := "ChanceArenaModel", name := "judge", desc := "(I)I" } : Jvm.MethodName)) ∈ lw_R := zR (zk_13 _ (List.mem_of_getElem? (i := 181) rfl)) rfl
theorem ka_13_182 : yC y_MM_judge ∈ lw_R := zR (zk_13 _ (List.mem_of_getElem? (i := 182) rfl)) rfl
theorem ka_5_175 : (Jvm.Cond.methodLink "ChanceArenaLaw" (127 : Nat) ({ cls := "ChanceArena", name := "print", desc := "(II)I" } : Jvm.MethodName)) ∈ lw_R := zR (zk_5 _ (List.mem_of_getElem? (i := 175) rfl)) rfl
theorem ka_5_176 : (Jvm.Cond.instanceMethod ({ cls := "ChanceArena", name := "print", desc := "(II)I" } : Jvm.MethodName)) ∈ lw_R := zR (zk_5 _ (List.mem_of_getElem? (i := 176) rfl)) rfl
theorem ka_5_177 : (Jvm.Cond.selects "ChanceArena" ({ cls := "ChanceArena", name := "print", desc := "(II)I" } : Jvm.MethodName) ({ cls := "ChanceArena", name := "print", desc := "(II)I" } : Jvm.MethodName)) ∈ lw_R := zR (zk_5 _ (List.mem_of_getElem? (i := 177) rfl)) rfl
theorem ka_5_178 : yC y_CA_print ∈ lw_R := zR (zk_5 _ (List.mem_of_getElem? (i := 178) rfl)) rfl
theorem ka_13_187 : (Jvm.Cond.methodLink "ChanceArenaLaw" (130 : Nat) ({ cls := "ChanceArenaModel", name := "print", desc := "(II)I" } : Jvm.MethodName)) ∈ lw_R := zR (zk_13 _ (List.mem_of_getElem? (i := 187) rfl)) rfl
theorem ka_13_188 : (Jvm.Cond.instanceMethod ({ cls := "ChanceArenaModel", name := "print", desc := "(II)I" } : Jvm.MethodName)) ∈ lw_R := zR (zk_13 _ (List.mem_of_getElem? (i := 188) rfl)) rfl
theorem ka_13_189 : (Jvm.Cond.selects "ChanceArenaModel" ({ cls := "ChanceArenaModel", name := "print", desc := "(II)I" } : Jvm.MethodName) ({ cls := "ChanceArenaModel", name := "print", desc := "(II)I" } : Jvm.MethodName)) ∈ lw_R := zR (zk_13 _ (List.mem_of_getElem? (i := 189) rfl)) rfl
theorem ka_13_190 : yC y_MM_print ∈ lw_R := zR (zk_13 _ (List.mem_of_getElem? (i := 190) rfl)) rfl
theorem ka_7_104 : (Jvm.Cond.methodLink "ChanceArenaLaw" (131 : Nat) ({ cls := "ChanceArena", name := "character", desc := "(I)I" } : Jvm.MethodName)) ∈ lw_R := zR (zk_7 _ (List.mem_of_getElem? (i := 104) rfl)) rfl
theorem ka_7_105 : (Jvm.Cond.instanceMethod ({ cls := "ChanceArena", name := "character", desc := "(I)I" } : Jvm.MethodName)) ∈ lw_R := zR (zk_7 _ (List.mem_of_getElem? (i := 105) rfl)) rfl
theorem ka_7_106 : (Jvm.Cond.selects "ChanceArena" ({ cls := "ChanceArena", name := "character", desc := "(I)I" } : Jvm.MethodName) ({ cls := "ChanceArena", name := "character", desc := "(I)I" } : Jvm.MethodName)) ∈ lw_R := zR (zk_7 _ (List.mem_of_getElem? (i := 106) rfl)) rfl
theorem ka_7_107 : yC y_CA_character ∈ lw_R := zR (zk_7 _ (List.mem_of_getElem? (i := 107) rfl)) rfl
theorem ka_13_212 : (Jvm.Cond.methodLink "ChanceArenaLaw" (134 : Nat) ({ cls := "ChanceArenaModel", name := "character", desc := "(I)I" } : Jvm.MethodName)) ∈ lw_R := zR (zk_13 _ (List.mem_of_getElem? (i := 212) rfl)) rfl
theorem ka_13_213 : (Jvm.Cond.instanceMethod ({ cls := "ChanceArenaModel", name := "character", desc := "(I)I" } : Jvm.MethodName)) ∈ lw_R := zR (zk_13 _ (List.mem_of_getElem? (i := 213) rfl)) rfl
theorem ka_13_214 : (Jvm.Cond.selects "ChanceArenaModel" ({ cls := "ChanceArenaModel", name := "character", desc := "(I)I" } : Jvm.MethodName) ({ cls := "ChanceArenaModel", name := "character", desc := "(I)I" } : Jvm.MethodName)) ∈ lw_R := zR (zk_13 _ (List.mem_of_getElem? (i := 214) rfl)) rfl
theorem ka_13_215 : yC y_MM_character ∈ lw_R := zR (zk_13 _ (List.mem_of_getElem? (i := 215) rfl)) rfl
theorem ka_7_108 : (Jvm.Cond.methodLink "ChanceArenaLaw" (135 : Nat) ({ cls := "ChanceArena", name := "compare", desc := "(IIII)I" } : Jvm.MethodName)) ∈ lw_R := zR (zk_7 _ (List.mem_of_getElem? (i := 108) rfl)) rfl
theorem ka_7_109 : (Jvm.Cond.instanceMethod ({ cls := "ChanceArena", name := "compare", desc := "(IIII)I" } : Jvm.MethodName)) ∈ lw_R := zR (zk_7 _ (List.mem_of_getElem? (i := 109) rfl)) rfl
theorem ka_7_110 : (Jvm.Cond.selects "ChanceArena" ({ cls := "ChanceArena", name := "compare", desc := "(IIII)I" } : Jvm.MethodName) ({ cls := "ChanceArena", name := "compare", desc := "(IIII)I" } : Jvm.MethodName)) ∈ lw_R := zR (zk_7 _ (List.mem_of_getElem? (i := 110) rfl)) rfl
theorem ka_7_111 : yC y_CA_compare ∈ lw_R := zR (zk_7 _ (List.mem_of_getElem? (i := 111) rfl)) rfl
theorem ka_13_216 : (Jvm.Cond.methodLink "ChanceArenaLaw" (138 : Nat) ({ cls := "ChanceArenaModel", name := "compare", desc := "(IIII)I" } : Jvm.MethodName)) ∈ lw_R := zR (zk_13 _ (List.mem_of_getElem? (i := 216) rfl)) rfl
theorem ka_13_217 : (Jvm.Cond.instanceMethod ({ cls := "ChanceArenaModel", name := "compare", desc := "(IIII)I" } : Jvm.MethodName)) ∈ lw_R := zR (zk_13 _ (List.mem_of_getElem? (i := 217) rfl)) rfl
theorem ka_13_218 : (Jvm.Cond.selects "ChanceArenaModel" ({ cls := "ChanceArenaModel", name := "compare", desc := "(IIII)I" } : Jvm.MethodName) ({ cls := "ChanceArenaModel", name := "compare", desc := "(IIII)I" } : Jvm.MethodName)) ∈ lw_R := zR (zk_13 _ (List.mem_of_getElem? (i := 218) rfl)) rfl
theorem ka_13_219 : yC y_MM_compare ∈ lw_R := zR (zk_13 _ (List.mem_of_getElem? (i := 219) rfl)) rfl
theorem ka_7_120 : (Jvm.Cond.methodLink "ChanceArenaLaw" (139 : Nat) ({ cls := "ChanceArena", name := "billionths", desc := "(II)I" } : Jvm.MethodName)) ∈ lw_R := zR (zk_7 _ (List.mem_of_getElem? (i := 120) rfl)) rfl
theorem ka_7_121 : (Jvm.Cond.instanceMethod ({ cls := "ChanceArena", name := "billionths", desc := "(II)I" } : Jvm.MethodName)) ∈ lw_R := zR (zk_7 _ (List.mem_of_getElem? (i := 121) rfl)) rfl
theorem ka_7_122 : (Jvm.Cond.selects "ChanceArena" ({ cls := "ChanceArena", name := "billionths", desc := "(II)I" } : Jvm.MethodName) ({ cls := "ChanceArena", name := "billionths", desc := "(II)I" } : Jvm.MethodName)) ∈ lw_R := zR (zk_7 _ (List.mem_of_getElem? (i := 122) rfl)) rfl
theorem ka_7_123 : yC y_CA_billionths ∈ lw_R := zR (zk_7 _ (List.mem_of_getElem? (i := 123) rfl)) rfl
theorem ka_13_224 : (Jvm.Cond.methodLink "ChanceArenaLaw" (142 : Nat) ({ cls := "ChanceArenaModel", name := "billionths", desc := "(II)I" } : Jvm.MethodName)) ∈ lw_R := zR (zk_13 _ (List.mem_of_getElem? (i := 224) rfl)) rfl
theorem ka_13_225 : (Jvm.Cond.instanceMethod ({ cls := "ChanceArenaModel", name := "billionths", desc := "(II)I" } : Jvm.MethodName)) ∈ lw_R := zR (zk_13 _ (List.mem_of_getElem? (i := 225) rfl)) rfl
theorem ka_13_226 : (Jvm.Cond.selects "ChanceArenaModel" ({ cls := "ChanceArenaModel", name := "billionths", desc := "(II)I" } : Jvm.MethodName) ({ cls := "ChanceArenaModel", name := "billionths", desc := "(II)I" } : Jvm.MethodName)) ∈ lw_R := zR (zk_13 _ (List.mem_of_getElem? (i := 226) rfl)) rfl
theorem ka_13_227 : yC y_MM_billionths ∈ lw_R := zR (zk_13 _ (List.mem_of_getElem? (i := 227) rfl)) rfl
theorem ka_7_129 : (Jvm.Cond.methodLink "ChanceArenaLaw" (143 : Nat) ({ cls := "ChanceArena", name := "choice", desc := "(I)I" } : Jvm.MethodName)) ∈ lw_R := zR (zk_7 _ (List.mem_of_getElem? (i := 129) rfl)) rfl
theorem ka_7_130 : (Jvm.Cond.instanceMethod ({ cls := "ChanceArena", name := "choice", desc := "(I)I" } : Jvm.MethodName)) ∈ lw_R := zR (zk_7 _ (List.mem_of_getElem? (i := 130) rfl)) rfl
theorem ka_7_131 : (Jvm.Cond.selects "ChanceArena" ({ cls := "ChanceArena", name := "choice", desc := "(I)I" } : Jvm.MethodName) ({ cls := "ChanceArena", name := "choice", desc := "(I)I" } : Jvm.MethodName)) ∈ lw_R := zR (zk_7 _ (List.mem_of_getElem? (i := 131) rfl)) rfl
theorem ka_7_132 : yC y_CA_choice ∈ lw_R := zR (zk_7 _ (List.mem_of_getElem? (i := 132) rfl)) rfl
theorem ka_13_238 : (Jvm.Cond.methodLink "ChanceArenaLaw" (146 : Nat) ({ cls := "ChanceArenaModel", name := "choice", desc := "(I)I" } : Jvm.MethodName)) ∈ lw_R := zR (zk_13 _ (List.mem_of_getElem? (i := 238) rfl)) rfl
theorem ka_13_239 : (Jvm.Cond.instanceMethod ({ cls := "ChanceArenaModel", name := "choice", desc := "(I)I" } : Jvm.MethodName)) ∈ lw_R := zR (zk_13 _ (List.mem_of_getElem? (i := 239) rfl)) rfl
theorem ka_14_0 : (Jvm.Cond.selects "ChanceArenaModel" ({ cls := "ChanceArenaModel", name := "choice", desc := "(I)I" } : Jvm.MethodName) ({ cls := "ChanceArenaModel", name := "choice", desc := "(I)I" } : Jvm.MethodName)) ∈ lw_R := zR (zk_14 _ (List.mem_of_getElem? (i := 0) rfl)) rfl
theorem ka_14_1 : yC y_MM_choice ∈ lw_R := zR (zk_14 _ (List.mem_of_getElem? (i := 1) rfl)) rfl
theorem ka_7_133 : (Jvm.Cond.methodLink "ChanceArenaLaw" (147 : Nat) ({ cls := "ChanceArena", name := "rank", desc := "(I)I" } : Jvm.MethodName)) ∈ lw_R := zR (zk_7 _ (List.mem_of_getElem? (i := 133) rfl)) rfl
theorem ka_7_134 : (Jvm.Cond.instanceMethod ({ cls := "ChanceArena", name := "rank", desc := "(I)I" } : Jvm.MethodName)) ∈ lw_R := zR (zk_7 _ (List.mem_of_getElem? (i := 134) rfl)) rfl
theorem ka_7_135 : (Jvm.Cond.selects "ChanceArena" ({ cls := "ChanceArena", name := "rank", desc := "(I)I" } : Jvm.MethodName) ({ cls := "ChanceArena", name := "rank", desc := "(I)I" } : Jvm.MethodName)) ∈ lw_R := zR (zk_7 _ (List.mem_of_getElem? (i := 135) rfl)) rfl
theorem ka_7_136 : yC y_CA_rank ∈ lw_R := zR (zk_7 _ (List.mem_of_getElem? (i := 136) rfl)) rfl
theorem ka_14_6 : (Jvm.Cond.methodLink "ChanceArenaLaw" (150 : Nat) ({ cls := "ChanceArenaModel", name := "rank", desc := "(I)I" } : Jvm.MethodName)) ∈ lw_R := zR (zk_14 _ (List.mem_of_getElem? (i := 6) rfl)) rfl
theorem ka_14_7 : (Jvm.Cond.instanceMethod ({ cls := "ChanceArenaModel", name := "rank", desc := "(I)I" } : Jvm.MethodName)) ∈ lw_R := zR (zk_14 _ (List.mem_of_getElem? (i := 7) rfl)) rfl
theorem ka_14_8 : (Jvm.Cond.selects "ChanceArenaModel" ({ cls := "ChanceArenaModel", name := "rank", desc := "(I)I" } : Jvm.MethodName) ({ cls := "ChanceArenaModel", name := "rank", desc := "(I)I" } : Jvm.MethodName)) ∈ lw_R := zR (zk_14 _ (List.mem_of_getElem? (i := 8) rfl)) rfl
theorem ka_14_9 : yC y_MM_rank ∈ lw_R := zR (zk_14 _ (List.mem_of_getElem? (i := 9) rfl)) rfl
theorem ka_7_137 : (Jvm.Cond.methodLink "ChanceArenaLaw" (151 : Nat) ({ cls := "ChanceArena", name := "next", desc := "(II)I" } : Jvm.MethodName)) ∈ lw_R := zR (zk_7 _ (List.mem_of_getElem? (i := 137) rfl)) rfl
theorem ka_7_138 : (Jvm.Cond.instanceMethod ({ cls := "ChanceArena", name := "next", desc := "(II)I" } : Jvm.MethodName)) ∈ lw_R := zR (zk_7 _ (List.mem_of_getElem? (i := 138) rfl)) rfl
theorem ka_7_139 : (Jvm.Cond.selects "ChanceArena" ({ cls := "ChanceArena", name := "next", desc := "(II)I" } : Jvm.MethodName) ({ cls := "ChanceArena", name := "next", desc := "(II)I" } : Jvm.MethodName)) ∈ lw_R := zR (zk_7 _ (List.mem_of_getElem? (i := 139) rfl)) rfl
theorem ka_7_140 : yC y_CA_next ∈ lw_R := zR (zk_7 _ (List.mem_of_getElem? (i := 140) rfl)) rfl
theorem ka_14_14 : (Jvm.Cond.methodLink "ChanceArenaLaw" (154 : Nat) ({ cls := "ChanceArenaModel", name := "next", desc := "(II)I" } : Jvm.MethodName)) ∈ lw_R := zR (zk_14 _ (List.mem_of_getElem? (i := 14) rfl)) rfl
theorem ka_14_15 : (Jvm.Cond.instanceMethod ({ cls := "ChanceArenaModel", name := "next", desc := "(II)I" } : Jvm.MethodName)) ∈ lw_R := zR (zk_14 _ (List.mem_of_getElem? (i := 15) rfl)) rfl
theorem ka_14_16 : (Jvm.Cond.selects "ChanceArenaModel" ({ cls := "ChanceArenaModel", name := "next", desc := "(II)I" } : Jvm.MethodName) ({ cls := "ChanceArenaModel", name := "next", desc := "(II)I" } : Jvm.MethodName)) ∈ lw_R := zR (zk_14 _ (List.mem_of_getElem? (i := 16) rfl)) rfl
theorem ka_14_17 : yC y_MM_next ∈ lw_R := zR (zk_14 _ (List.mem_of_getElem? (i := 17) rfl)) rfl
theorem ka_7_145 : (Jvm.Cond.methodLink "ChanceArenaLaw" (155 : Nat) ({ cls := "ChanceArena", name := "check", desc := "()I" } : Jvm.MethodName)) ∈ lw_R := zR (zk_7 _ (List.mem_of_getElem? (i := 145) rfl)) rfl
theorem ka_7_146 : (Jvm.Cond.instanceMethod ({ cls := "ChanceArena", name := "check", desc := "()I" } : Jvm.MethodName)) ∈ lw_R := zR (zk_7 _ (List.mem_of_getElem? (i := 146) rfl)) rfl
theorem ka_7_147 : (Jvm.Cond.selects "ChanceArena" ({ cls := "ChanceArena", name := "check", desc := "()I" } : Jvm.MethodName) ({ cls := "ChanceArena", name := "check", desc := "()I" } : Jvm.MethodName)) ∈ lw_R := zR (zk_7 _ (List.mem_of_getElem? (i := 147) rfl)) rfl
theorem ka_7_148 : yC y_CA_check ∈ lw_R := zR (zk_7 _ (List.mem_of_getElem? (i := 148) rfl)) rfl
theorem ka_14_23 : (Jvm.Cond.methodLink "ChanceArenaLaw" (158 : Nat) ({ cls := "ChanceArenaModel", name := "check", desc := "()I" } : Jvm.MethodName)) ∈ lw_R := zR (zk_14 _ (List.mem_of_getElem? (i := 23) rfl)) rfl
theorem ka_14_24 : (Jvm.Cond.instanceMethod ({ cls := "ChanceArenaModel", name := "check", desc := "()I" } : Jvm.MethodName)) ∈ lw_R := zR (zk_14 _ (List.mem_of_getElem? (i := 24) rfl)) rfl
theorem ka_14_25 : (Jvm.Cond.selects "ChanceArenaModel" ({ cls := "ChanceArenaModel", name := "check", desc := "()I" } : Jvm.MethodName) ({ cls := "ChanceArenaModel", name := "check", desc := "()I" } : Jvm.MethodName)) ∈ lw_R := zR (zk_14 _ (List.mem_of_getElem? (i := 25) rfl)) rfl
theorem ka_14_26 : yC y_MM_check ∈ lw_R := zR (zk_14 _ (List.mem_of_getElem? (i := 26) rfl)) rfl
section ARM
variable {G : mG} {d b t a o N : Nat} {i : Int} {xs : Int → Int} {M : mM} {Q : Option mV → mM → Prop}
theorem ar_0 (hs : Scr b N xs M) (hi : 0 ≤ i ∧ i + 6 ≤ N) (kt : mK M t = 1) (h : Ci G y_CA_feed d [vr t, vi (xs (i + 1)), vi (xs (i + 2)), vi (xs (i + 3)), vi (xs (i + 4)), vi (xs (i + 5))] M (fun _ M1 => Scr b N xs M1 ∧ mK M1 a = 14 ∧ Ci G y_MM_feed d [vr a, vi (xs (i + 1)), vi (xs (i + 2)), vi (xs (i + 3)), vi (xs (i + 4)), vi (xs (i + 5))] M1 (fun _ M2 => LPx G d b t a o i Q M2))) : mWm G y_La_law (d + 1) 164 (LL b t a o i) [] M Q := by
  refine wm_aload_n d_La_law_164 rfl rfl ?_
  refine wm_aldO_n d_La_law_165 rfl rfl ?_
  refine wm_iload d_La_law_166 rfl ?_
  refine wm_iconst d_La_law_168 ?_
  refine wm_iadd d_La_law_169 ?_
  refine wm_ialdV d_La_law_170 hs.1 ⟨by omega, by rw [hs.2.1]; omega⟩ ?_
  rw [hs.2.2 (i + 1) (by omega) (by omega)]
  refine wm_aldO_n d_La_law_171 rfl rfl ?_
  refine wm_iload d_La_law_172 rfl ?_
  refine wm_iconst d_La_law_174 ?_
  refine wm_iadd d_La_law_175 ?_
  refine wm_ialdV d_La_law_176 hs.1 ⟨by omega, by rw [hs.2.1]; omega⟩ ?_
  rw [hs.2.2 (i + 2) (by omega) (by omega)]
  refine wm_aldO_n d_La_law_177 rfl rfl ?_
  refine wm_iload d_La_law_178 rfl ?_
  refine wm_iconst d_La_law_180 ?_
  refine wm_iadd d_La_law_181 ?_
  refine wm_ialdV d_La_law_182 hs.1 ⟨by omega, by rw [hs.2.1]; omega⟩ ?_
  rw [hs.2.2 (i + 3) (by omega) (by omega)]
  refine wm_aldO_n d_La_law_183 rfl rfl ?_
  refine wm_iload d_La_law_184 rfl ?_
  refine wm_iconst d_La_law_186 ?_
  refine wm_iadd d_La_law_187 ?_
  refine wm_ialdV d_La_law_188 hs.1 ⟨by omega, by rw [hs.2.1]; omega⟩ ?_
  rw [hs.2.2 (i + 4) (by omega) (by omega)]
  refine wm_aldO_n d_La_law_189 rfl rfl ?_
  refine wm_iload d_La_law_190 rfl ?_
  refine wm_iconst d_La_law_192 ?_
  refine wm_iadd d_La_law_193 ?_
  refine wm_ialdV d_La_law_194 hs.1 ⟨by omega, by rw [hs.2.1]; omega⟩ ?_
  rw [hs.2.2 (i + 5) (by omega) (by omega)]
  refine wm_callV (y2 := y_CA_feed) (c := 0) (n := 5) (As := [vi (xs (i + 1)), vi (xs (i + 2)), vi (xs (i + 3)), vi (xs (i + 4)), vi (xs (i + 5))]) (st := []) rfl rfl rfl ka_4_5 ka_4_6 ka_4_7 k1_1 ka_4_8 ⟨by decide, by decide, by decide +kernel⟩ (by decide) rfl rfl (Nat.le_of_ble_eq_true rfl) d_La_law_195 kt ?_
  refine mCm.mono h (fun r9 M1 q9 => ?_)
  obtain ⟨r1, rfl, q9⟩ := q9
  obtain ⟨hs1, ka, h2⟩ := q9
  refine wm_pop d_La_law_198 rfl ?_
  refine wm_aload_n d_La_law_199 rfl rfl ?_
  refine wm_aldO_n d_La_law_200 rfl rfl ?_
  refine wm_iload d_La_law_201 rfl ?_
  refine wm_iconst d_La_law_203 ?_
  refine wm_iadd d_La_law_204 ?_
  refine wm_ialdV d_La_law_205 hs1.1 ⟨by omega, by rw [hs1.2.1]; omega⟩ ?_
  rw [hs1.2.2 (i + 1) (by omega) (by omega)]
  refine wm_aldO_n d_La_law_206 rfl rfl ?_
  refine wm_iload d_La_law_207 rfl ?_
  refine wm_iconst d_La_law_209 ?_
  refine wm_iadd d_La_law_210 ?_
  refine wm_ialdV d_La_law_211 hs1.1 ⟨by omega, by rw [hs1.2.1]; omega⟩ ?_
  rw [hs1.2.2 (i + 2) (by omega) (by omega)]
  refine wm_aldO_n d_La_law_212 rfl rfl ?_
  refine wm_iload d_La_law_213 rfl ?_
  refine wm_iconst d_La_law_215 ?_
  refine wm_iadd d_La_law_216 ?_
  refine wm_ialdV d_La_law_217 hs1.1 ⟨by omega, by rw [hs1.2.1]; omega⟩ ?_
  rw [hs1.2.2 (i + 3) (by omega) (by omega)]
  refine wm_aldO_n d_La_law_218 rfl rfl ?_
  refine wm_iload d_La_law_219 rfl ?_
  refine wm_iconst d_La_law_221 ?_
  refine wm_iadd d_La_law_222 ?_
  refine wm_ialdV d_La_law_223 hs1.1 ⟨by omega, by rw [hs1.2.1]; omega⟩ ?_
  rw [hs1.2.2 (i + 4) (by omega) (by omega)]
  refine wm_aldO_n d_La_law_224 rfl rfl ?_
  refine wm_iload d_La_law_225 rfl ?_
  refine wm_iconst d_La_law_227 ?_
  refine wm_iadd d_La_law_228 ?_
  refine wm_ialdV d_La_law_229 hs1.1 ⟨by omega, by rw [hs1.2.1]; omega⟩ ?_
  rw [hs1.2.2 (i + 5) (by omega) (by omega)]
  refine wm_callV (y2 := y_MM_feed) (c := 13) (n := 5) (As := [vi (xs (i + 1)), vi (xs (i + 2)), vi (xs (i + 3)), vi (xs (i + 4)), vi (xs (i + 5))]) (st := []) rfl rfl rfl ka_10_233 ka_10_234 ka_10_235 k1_14 ka_10_236 ⟨by decide, by decide, by decide +kernel⟩ (by decide) rfl rfl (Nat.le_of_ble_eq_true rfl) d_La_law_230 ka ?_
  refine mCm.mono h2 (fun r9 M2 q9 => ?_)
  obtain ⟨r2, rfl, q9⟩ := q9
  refine wm_pop d_La_law_233 rfl ?_
  refine wm_goto (tgt := 993) d_La_law_234 rfl ?_
  exact q9

theorem ar_1 (hs : Scr b N xs M) (hi : 0 ≤ i ∧ i + 6 ≤ N) (h : CiW G y_La_end hs_end d [vr t, vi (xs (i + 1)), vr o] M (fun _ M1 => Scr b N xs M1 ∧ mK M1 a = 14 ∧ Ci G y_MM_end d [vr a, vi (xs (i + 1))] M1 (fun _ M2 => LPx G d b t a o i Q M2))) : mWm G y_La_law (d + 1) 237 (LL b t a o i) [] M Q := by
  refine wm_aload_n d_La_law_237 rfl rfl ?_
  refine wm_aldO_n d_La_law_238 rfl rfl ?_
  refine wm_iload d_La_law_239 rfl ?_
  refine wm_iconst d_La_law_241 ?_
  refine wm_iadd d_La_law_242 ?_
  refine wm_ialdV d_La_law_243 hs.1 ⟨by omega, by rw [hs.2.1]; omega⟩ ?_
  rw [hs.2.2 (i + 1) (by omega) (by omega)]
  refine wm_aload_n d_La_law_244 rfl rfl ?_
  refine wm_callSW (y2 := y_La_end) (hs := hs_end) (n := 3) (As := [vr t, vi (xs (i + 1)), vr o]) (st := []) ka_7_184 ka_7_185 ka_1_0 ka_7_186 ⟨by decide, by decide, by decide +kernel⟩ (by decide) rfl rfl (Nat.le_of_ble_eq_true rfl) d_La_law_245 ?_
  obtain ⟨r9, M1, c9, r1, e9, q9⟩ := h
  refine ⟨r9, M1, c9, r1, e9, ?_⟩
  obtain ⟨hs1, ka, h2⟩ := q9
  refine wm_istore (L' := [vo b, vr t, vr a, vr o, vi i, vi r1, vd]) d_La_law_248 (by decide) rfl ?_
  refine wm_aload_n d_La_law_250 rfl rfl ?_
  refine wm_aldO_n d_La_law_251 rfl rfl ?_
  refine wm_iload d_La_law_252 rfl ?_
  refine wm_iconst d_La_law_254 ?_
  refine wm_iadd d_La_law_255 ?_
  refine wm_ialdV d_La_law_256 hs1.1 ⟨by omega, by rw [hs1.2.1]; omega⟩ ?_
  rw [hs1.2.2 (i + 1) (by omega) (by omega)]
  refine wm_callV (y2 := y_MM_end) (c := 13) (n := 1) (As := [vi (xs (i + 1))]) (st := []) rfl rfl rfl ka_11_5 ka_11_6 ka_11_7 k1_14 ka_11_8 ⟨by decide, by decide, by decide +kernel⟩ (by decide) rfl rfl (Nat.le_of_ble_eq_true rfl) d_La_law_257 ka ?_
  refine mCm.mono h2 (fun r9 M2 q9 => ?_)
  obtain ⟨r2, rfl, q9⟩ := q9
  refine wm_istore (L' := [vo b, vr t, vr a, vr o, vi i, vi r1, vi r2]) d_La_law_260 (by decide) rfl ?_
  refine wm_goto (tgt := 993) d_La_law_262 rfl ?_
  refine wm_less (L' := LL b t a o i) ⟨Or.inr rfl, Or.inr rfl, Or.inr rfl, Or.inr rfl, Or.inr rfl, Or.inl rfl, Or.inl rfl, trivial⟩ ?_
  exact q9

theorem ar_2 (hs : Scr b N xs M) (hi : 0 ≤ i ∧ i + 6 ≤ N) (kt : mK M t = 1) (h : Ci G y_CA_compile d [vr t] M (fun _ M1 => Scr b N xs M1 ∧ mK M1 a = 14 ∧ Ci G y_MM_compile d [vr a] M1 (fun _ M2 => LPx G d b t a o i Q M2))) : mWm G y_La_law (d + 1) 265 (LL b t a o i) [] M Q := by
  refine wm_aload_n d_La_law_265 rfl rfl ?_
  refine wm_callV (y2 := y_CA_compile) (c := 0) (n := 0) (As := []) (st := []) rfl rfl rfl ka_4_20 ka_4_21 ka_4_22 k1_1 ka_4_23 ⟨by decide, by decide, by decide +kernel⟩ (by decide) rfl rfl (Nat.le_of_ble_eq_true rfl) d_La_law_266 kt ?_
  refine mCm.mono h (fun r9 M1 q9 => ?_)
  obtain ⟨r1, rfl, q9⟩ := q9
  obtain ⟨hs1, ka, h2⟩ := q9
  refine wm_pop d_La_law_269 rfl ?_
  refine wm_aload_n d_La_law_270 rfl rfl ?_
  refine wm_callV (y2 := y_MM_compile) (c := 13) (n := 0) (As := []) (st := []) rfl rfl rfl ka_11_9 ka_11_10 ka_11_11 k1_14 ka_11_12 ⟨by decide, by decide, by decide +kernel⟩ (by decide) rfl rfl (Nat.le_of_ble_eq_true rfl) d_La_law_271 ka ?_
  refine mCm.mono h2 (fun r9 M2 q9 => ?_)
  obtain ⟨r2, rfl, q9⟩ := q9
  refine wm_pop d_La_law_274 rfl ?_
  refine wm_goto (tgt := 993) d_La_law_275 rfl ?_
  exact q9

theorem ar_3 (hs : Scr b N xs M) (hi : 0 ≤ i ∧ i + 6 ≤ N) (kt : mK M t = 1) (h : Ci G y_CA_place d [vr t] M (fun _ M1 => Scr b N xs M1 ∧ mK M1 a = 14 ∧ Ci G y_MM_place1 d [vr a] M1 (fun _ M2 => LPx G d b t a o i Q M2))) : mWm G y_La_law (d + 1) 278 (LL b t a o i) [] M Q := by
  refine wm_aload_n d_La_law_278 rfl rfl ?_
  refine wm_callV (y2 := y_CA_place) (c := 0) (n := 0) (As := []) (st := []) rfl rfl rfl ka_5_129 ka_5_130 ka_5_131 k1_1 ka_5_132 ⟨by decide, by decide, by decide +kernel⟩ (by decide) rfl rfl (Nat.le_of_ble_eq_true rfl) d_La_law_279 kt ?_
  refine mCm.mono h (fun r9 M1 q9 => ?_)
  obtain ⟨r1, rfl, q9⟩ := q9
  obtain ⟨hs1, ka, h2⟩ := q9
  refine wm_pop d_La_law_282 rfl ?_
  refine wm_aload_n d_La_law_283 rfl rfl ?_
  refine wm_callV (y2 := y_MM_place1) (c := 13) (n := 0) (As := []) (st := []) rfl rfl rfl ka_12_77 ka_12_78 ka_12_79 k1_14 ka_12_80 ⟨by decide, by decide, by decide +kernel⟩ (by decide) rfl rfl (Nat.le_of_ble_eq_true rfl) d_La_law_284 ka ?_
  refine mCm.mono h2 (fun r9 M2 q9 => ?_)
  obtain ⟨r2, rfl, q9⟩ := q9
  refine wm_pop d_La_law_287 rfl ?_
  refine wm_goto (tgt := 993) d_La_law_288 rfl ?_
  exact q9

theorem ar_4 (hs : Scr b N xs M) (hi : 0 ≤ i ∧ i + 6 ≤ N) (kt : mK M t = 1) (h : Ci G y_CA_items d [vr t, vi (xs (i + 1))] M (fun _ M1 => Scr b N xs M1 ∧ mK M1 a = 14 ∧ Ci G y_MM_items1 d [vr a, vi (xs (i + 1))] M1 (fun _ M2 => LPx G d b t a o i Q M2))) : mWm G y_La_law (d + 1) 291 (LL b t a o i) [] M Q := by
  refine wm_aload_n d_La_law_291 rfl rfl ?_
  refine wm_aldO_n d_La_law_292 rfl rfl ?_
  refine wm_iload d_La_law_293 rfl ?_
  refine wm_iconst d_La_law_295 ?_
  refine wm_iadd d_La_law_296 ?_
  refine wm_ialdV d_La_law_297 hs.1 ⟨by omega, by rw [hs.2.1]; omega⟩ ?_
  rw [hs.2.2 (i + 1) (by omega) (by omega)]
  refine wm_callV (y2 := y_CA_items) (c := 0) (n := 1) (As := [vi (xs (i + 1))]) (st := []) rfl rfl rfl ka_5_133 ka_5_134 ka_5_135 k1_1 ka_5_136 ⟨by decide, by decide, by decide +kernel⟩ (by decide) rfl rfl (Nat.le_of_ble_eq_true rfl) d_La_law_298 kt ?_
  refine mCm.mono h (fun r9 M1 q9 => ?_)
  obtain ⟨r1, rfl, q9⟩ := q9
  obtain ⟨hs1, ka, h2⟩ := q9
  refine wm_pop d_La_law_301 rfl ?_
  refine wm_aload_n d_La_law_302 rfl rfl ?_
  refine wm_aldO_n d_La_law_303 rfl rfl ?_
  refine wm_iload d_La_law_304 rfl ?_
  refine wm_iconst d_La_law_306 ?_
  refine wm_iadd d_La_law_307 ?_
  refine wm_ialdV d_La_law_308 hs1.1 ⟨by omega, by rw [hs1.2.1]; omega⟩ ?_
  rw [hs1.2.2 (i + 1) (by omega) (by omega)]
  refine wm_callV (y2 := y_MM_items1) (c := 13) (n := 1) (As := [vi (xs (i + 1))]) (st := []) rfl rfl rfl ka_12_81 ka_12_82 ka_12_83 k1_14 ka_12_84 ⟨by decide, by decide, by decide +kernel⟩ (by decide) rfl rfl (Nat.le_of_ble_eq_true rfl) d_La_law_309 ka ?_
  refine mCm.mono h2 (fun r9 M2 q9 => ?_)
  obtain ⟨r2, rfl, q9⟩ := q9
  refine wm_pop d_La_law_312 rfl ?_
  refine wm_goto (tgt := 993) d_La_law_313 rfl ?_
  exact q9

theorem ar_5 (hs : Scr b N xs M) (hi : 0 ≤ i ∧ i + 6 ≤ N) (h : CiW G y_La_explore hs_explore d [vr t, vr o] M (fun _ M1 => Scr b N xs M1 ∧ mK M1 a = 14 ∧ Ci G y_MM_explore d [vr a] M1 (fun _ M2 => LPx G d b t a o i Q M2))) : mWm G y_La_law (d + 1) 316 (LL b t a o i) [] M Q := by
  refine wm_aload_n d_La_law_316 rfl rfl ?_
  refine wm_aload_n d_La_law_317 rfl rfl ?_
  refine wm_callSW (y2 := y_La_explore) (hs := hs_explore) (n := 2) (As := [vr t, vr o]) (st := []) ka_7_203 ka_7_204 ka_1_0 ka_7_205 ⟨by decide, by decide, by decide +kernel⟩ (by decide) rfl rfl (Nat.le_of_ble_eq_true rfl) d_La_law_318 ?_
  obtain ⟨r9, M1, c9, r1, e9, q9⟩ := h
  refine ⟨r9, M1, c9, r1, e9, ?_⟩
  obtain ⟨hs1, ka, h2⟩ := q9
  refine wm_istore (L' := [vo b, vr t, vr a, vr o, vi i, vi r1, vd]) d_La_law_321 (by decide) rfl ?_
  refine wm_aload_n d_La_law_323 rfl rfl ?_
  refine wm_callV (y2 := y_MM_explore) (c := 13) (n := 0) (As := []) (st := []) rfl rfl rfl ka_12_85 ka_12_86 ka_12_87 k1_14 ka_12_88 ⟨by decide, by decide, by decide +kernel⟩ (by decide) rfl rfl (Nat.le_of_ble_eq_true rfl) d_La_law_324 ka ?_
  refine mCm.mono h2 (fun r9 M2 q9 => ?_)
  obtain ⟨r2, rfl, q9⟩ := q9
  refine wm_istore (L' := [vo b, vr t, vr a, vr o, vi i, vi r1, vi r2]) d_La_law_327 (by decide) rfl ?_
  refine wm_goto (tgt := 993) d_La_law_329 rfl ?_
  refine wm_less (L' := LL b t a o i) ⟨Or.inr rfl, Or.inr rfl, Or.inr rfl, Or.inr rfl, Or.inr rfl, Or.inl rfl, Or.inl rfl, trivial⟩ ?_
  exact q9

theorem ar_6 (hs : Scr b N xs M) (hi : 0 ≤ i ∧ i + 6 ≤ N) (kt : mK M t = 1) (h : Ci G y_CA_state d [vr t] M (fun _ M1 => Scr b N xs M1 ∧ mK M1 a = 14 ∧ Ci G y_MM_state1 d [vr a] M1 (fun _ M2 => LPx G d b t a o i Q M2))) : mWm G y_La_law (d + 1) 332 (LL b t a o i) [] M Q := by
  refine wm_aload_n d_La_law_332 rfl rfl ?_
  refine wm_callV (y2 := y_CA_state) (c := 0) (n := 0) (As := []) (st := []) rfl rfl rfl ka_5_137 ka_5_138 ka_5_139 k1_1 ka_5_140 ⟨by decide, by decide, by decide +kernel⟩ (by decide) rfl rfl (Nat.le_of_ble_eq_true rfl) d_La_law_333 kt ?_
  refine mCm.mono h (fun r9 M1 q9 => ?_)
  obtain ⟨r1, rfl, q9⟩ := q9
  obtain ⟨hs1, ka, h2⟩ := q9
  refine wm_pop d_La_law_336 rfl ?_
  refine wm_aload_n d_La_law_337 rfl rfl ?_
  refine wm_callV (y2 := y_MM_state1) (c := 13) (n := 0) (As := []) (st := []) rfl rfl rfl ka_12_141 ka_12_142 ka_12_143 k1_14 ka_12_144 ⟨by decide, by decide, by decide +kernel⟩ (by decide) rfl rfl (Nat.le_of_ble_eq_true rfl) d_La_law_338 ka ?_
  refine mCm.mono h2 (fun r9 M2 q9 => ?_)
  obtain ⟨r2, rfl, q9⟩ := q9
  refine wm_pop d_La_law_341 rfl ?_
  refine wm_goto (tgt := 993) d_La_law_342 rfl ?_
  exact q9

theorem ar_7 (hs : Scr b N xs M) (hi : 0 ≤ i ∧ i + 6 ≤ N) (kt : mK M t = 1) (h : Ci G y_CA_states d [vr t] M (fun _ M1 => Scr b N xs M1 ∧ mK M1 a = 14 ∧ Ci G y_MM_states d [vr a] M1 (fun _ M2 => LPx G d b t a o i Q M2))) : mWm G y_La_law (d + 1) 345 (LL b t a o i) [] M Q := by
  refine wm_aload_n d_La_law_345 rfl rfl ?_
  refine wm_callV (y2 := y_CA_states) (c := 0) (n := 0) (As := []) (st := []) rfl rfl rfl ka_5_141 ka_5_142 ka_5_143 k1_1 ka_5_144 ⟨by decide, by decide, by decide +kernel⟩ (by decide) rfl rfl (Nat.le_of_ble_eq_true rfl) d_La_law_346 kt ?_
  refine mCm.mono h (fun r9 M1 q9 => ?_)
  obtain ⟨r1, rfl, q9⟩ := q9
  obtain ⟨hs1, ka, h2⟩ := q9
  refine wm_pop d_La_law_349 rfl ?_
  refine wm_aload_n d_La_law_350 rfl rfl ?_
  refine wm_callV (y2 := y_MM_states) (c := 13) (n := 0) (As := []) (st := []) rfl rfl rfl ka_12_145 ka_12_146 ka_12_147 k1_14 ka_12_148 ⟨by decide, by decide, by decide +kernel⟩ (by decide) rfl rfl (Nat.le_of_ble_eq_true rfl) d_La_law_351 ka ?_
  refine mCm.mono h2 (fun r9 M2 q9 => ?_)
  obtain ⟨r2, rfl, q9⟩ := q9
  refine wm_pop d_La_law_354 rfl ?_
  refine wm_goto (tgt := 993) d_La_law_355 rfl ?_
  exact q9

theorem ar_8 (hs : Scr b N xs M) (hi : 0 ≤ i ∧ i + 6 ≤ N) (h : CiW G y_La_variable hs_variable d [vr t, vi (xs (i + 1)), vi (xs (i + 2)), vr o] M (fun _ M1 => Scr b N xs M1 ∧ mK M1 a = 14 ∧ Ci G y_MM_variable d [vr a, vi (xs (i + 1)), vi (xs (i + 2))] M1 (fun _ M2 => LPx G d b t a o i Q M2))) : mWm G y_La_law (d + 1) 358 (LL b t a o i) [] M Q := by
  refine wm_aload_n d_La_law_358 rfl rfl ?_
  refine wm_aldO_n d_La_law_359 rfl rfl ?_
  refine wm_iload d_La_law_360 rfl ?_
  refine wm_iconst d_La_law_362 ?_
  refine wm_iadd d_La_law_363 ?_
  refine wm_ialdV d_La_law_364 hs.1 ⟨by omega, by rw [hs.2.1]; omega⟩ ?_
  rw [hs.2.2 (i + 1) (by omega) (by omega)]
  refine wm_aldO_n d_La_law_365 rfl rfl ?_
  refine wm_iload d_La_law_366 rfl ?_
  refine wm_iconst d_La_law_368 ?_
  refine wm_iadd d_La_law_369 ?_
  refine wm_ialdV d_La_law_370 hs.1 ⟨by omega, by rw [hs.2.1]; omega⟩ ?_
  rw [hs.2.2 (i + 2) (by omega) (by omega)]
  refine wm_aload_n d_La_law_371 rfl rfl ?_
  refine wm_callSW (y2 := y_La_variable) (hs := hs_variable) (n := 4) (As := [vr t, vi (xs (i + 1)), vi (xs (i + 2)), vr o]) (st := []) ka_8_39 ka_8_40 ka_1_0 ka_8_41 ⟨by decide, by decide, by decide +kernel⟩ (by decide) rfl rfl (Nat.le_of_ble_eq_true rfl) d_La_law_372 ?_
  obtain ⟨r9, M1, c9, r1, e9, q9⟩ := h
  refine ⟨r9, M1, c9, r1, e9, ?_⟩
  obtain ⟨hs1, ka, h2⟩ := q9
  refine wm_istore (L' := [vo b, vr t, vr a, vr o, vi i, vi r1, vd]) d_La_law_375 (by decide) rfl ?_
  refine wm_aload_n d_La_law_377 rfl rfl ?_
  refine wm_aldO_n d_La_law_378 rfl rfl ?_
  refine wm_iload d_La_law_379 rfl ?_
  refine wm_iconst d_La_law_381 ?_
  refine wm_iadd d_La_law_382 ?_
  refine wm_ialdV d_La_law_383 hs1.1 ⟨by omega, by rw [hs1.2.1]; omega⟩ ?_
  rw [hs1.2.2 (i + 1) (by omega) (by omega)]
  refine wm_aldO_n d_La_law_384 rfl rfl ?_
  refine wm_iload d_La_law_385 rfl ?_
  refine wm_iconst d_La_law_387 ?_
  refine wm_iadd d_La_law_388 ?_
  refine wm_ialdV d_La_law_389 hs1.1 ⟨by omega, by rw [hs1.2.1]; omega⟩ ?_
  rw [hs1.2.2 (i + 2) (by omega) (by omega)]
  refine wm_callV (y2 := y_MM_variable) (c := 13) (n := 2) (As := [vi (xs (i + 1)), vi (xs (i + 2))]) (st := []) rfl rfl rfl ka_12_149 ka_12_150 ka_12_151 k1_14 ka_12_152 ⟨by decide, by decide, by decide +kernel⟩ (by decide) rfl rfl (Nat.le_of_ble_eq_true rfl) d_La_law_390 ka ?_
  refine mCm.mono h2 (fun r9 M2 q9 => ?_)
  obtain ⟨r2, rfl, q9⟩ := q9
  refine wm_istore (L' := [vo b, vr t, vr a, vr o, vi i, vi r1, vi r2]) d_La_law_393 (by decide) rfl ?_
  refine wm_goto (tgt := 993) d_La_law_395 rfl ?_
  refine wm_less (L' := LL b t a o i) ⟨Or.inr rfl, Or.inr rfl, Or.inr rfl, Or.inr rfl, Or.inr rfl, Or.inl rfl, Or.inl rfl, trivial⟩ ?_
  exact q9

theorem ar_9 (hs : Scr b N xs M) (hi : 0 ≤ i ∧ i + 6 ≤ N) (kt : mK M t = 1) (h : Ci G y_CA_kind d [vr t, vi (xs (i + 1))] M (fun _ M1 => Scr b N xs M1 ∧ mK M1 a = 14 ∧ Ci G y_MM_kind d [vr a, vi (xs (i + 1))] M1 (fun _ M2 => LPx G d b t a o i Q M2))) : mWm G y_La_law (d + 1) 398 (LL b t a o i) [] M Q := by
  refine wm_aload_n d_La_law_398 rfl rfl ?_
  refine wm_aldO_n d_La_law_399 rfl rfl ?_
  refine wm_iload d_La_law_400 rfl ?_
  refine wm_iconst d_La_law_402 ?_
  refine wm_iadd d_La_law_403 ?_
  refine wm_ialdV d_La_law_404 hs.1 ⟨by omega, by rw [hs.2.1]; omega⟩ ?_
  rw [hs.2.2 (i + 1) (by omega) (by omega)]
  refine wm_callV (y2 := y_CA_kind) (c := 0) (n := 1) (As := [vi (xs (i + 1))]) (st := []) rfl rfl rfl ka_5_145 ka_5_146 ka_5_147 k1_1 ka_5_148 ⟨by decide, by decide, by decide +kernel⟩ (by decide) rfl rfl (Nat.le_of_ble_eq_true rfl) d_La_law_405 kt ?_
  refine mCm.mono h (fun r9 M1 q9 => ?_)
  obtain ⟨r1, rfl, q9⟩ := q9
  obtain ⟨hs1, ka, h2⟩ := q9
  refine wm_pop d_La_law_408 rfl ?_
  refine wm_aload_n d_La_law_409 rfl rfl ?_
  refine wm_aldO_n d_La_law_410 rfl rfl ?_
  refine wm_iload d_La_law_411 rfl ?_
  refine wm_iconst d_La_law_413 ?_
  refine wm_iadd d_La_law_414 ?_
  refine wm_ialdV d_La_law_415 hs1.1 ⟨by omega, by rw [hs1.2.1]; omega⟩ ?_
  rw [hs1.2.2 (i + 1) (by omega) (by omega)]
  refine wm_callV (y2 := y_MM_kind) (c := 13) (n := 1) (As := [vi (xs (i + 1))]) (st := []) rfl rfl rfl ka_12_153 ka_12_154 ka_12_155 k1_14 ka_12_156 ⟨by decide, by decide, by decide +kernel⟩ (by decide) rfl rfl (Nat.le_of_ble_eq_true rfl) d_La_law_416 ka ?_
  refine mCm.mono h2 (fun r9 M2 q9 => ?_)
  obtain ⟨r2, rfl, q9⟩ := q9
  refine wm_pop d_La_law_419 rfl ?_
  refine wm_goto (tgt := 993) d_La_law_420 rfl ?_
  exact q9

theorem ar_10 (hs : Scr b N xs M) (hi : 0 ≤ i ∧ i + 6 ≤ N) (kt : mK M t = 1) (h : Ci G y_CA_commands d [vr t, vi (xs (i + 1))] M (fun _ M1 => Scr b N xs M1 ∧ mK M1 a = 14 ∧ Ci G y_MM_commands d [vr a, vi (xs (i + 1))] M1 (fun _ M2 => LPx G d b t a o i Q M2))) : mWm G y_La_law (d + 1) 423 (LL b t a o i) [] M Q := by
  refine wm_aload_n d_La_law_423 rfl rfl ?_
  refine wm_aldO_n d_La_law_424 rfl rfl ?_
  refine wm_iload d_La_law_425 rfl ?_
  refine wm_iconst d_La_law_427 ?_
  refine wm_iadd d_La_law_428 ?_
  refine wm_ialdV d_La_law_429 hs.1 ⟨by omega, by rw [hs.2.1]; omega⟩ ?_
  rw [hs.2.2 (i + 1) (by omega) (by omega)]
  refine wm_callV (y2 := y_CA_commands) (c := 0) (n := 1) (As := [vi (xs (i + 1))]) (st := []) rfl rfl rfl ka_5_153 ka_5_154 ka_5_155 k1_1 ka_5_156 ⟨by decide, by decide, by decide +kernel⟩ (by decide) rfl rfl (Nat.le_of_ble_eq_true rfl) d_La_law_430 kt ?_
  refine mCm.mono h (fun r9 M1 q9 => ?_)
  obtain ⟨r1, rfl, q9⟩ := q9
  obtain ⟨hs1, ka, h2⟩ := q9
  refine wm_pop d_La_law_433 rfl ?_
  refine wm_aload_n d_La_law_434 rfl rfl ?_
  refine wm_aldO_n d_La_law_435 rfl rfl ?_
  refine wm_iload d_La_law_436 rfl ?_
  refine wm_iconst d_La_law_438 ?_
  refine wm_iadd d_La_law_439 ?_
  refine wm_ialdV d_La_law_440 hs1.1 ⟨by omega, by rw [hs1.2.1]; omega⟩ ?_
  rw [hs1.2.2 (i + 1) (by omega) (by omega)]
  refine wm_callV (y2 := y_MM_commands) (c := 13) (n := 1) (As := [vi (xs (i + 1))]) (st := []) rfl rfl rfl ka_12_161 ka_12_162 ka_12_163 k1_14 ka_12_164 ⟨by decide, by decide, by decide +kernel⟩ (by decide) rfl rfl (Nat.le_of_ble_eq_true rfl) d_La_law_441 ka ?_
  refine mCm.mono h2 (fun r9 M2 q9 => ?_)
  obtain ⟨r2, rfl, q9⟩ := q9
  refine wm_pop d_La_law_444 rfl ?_
  refine wm_goto (tgt := 993) d_La_law_445 rfl ?_
  exact q9

theorem ar_11 (hs : Scr b N xs M) (hi : 0 ≤ i ∧ i + 6 ≤ N) (kt : mK M t = 1) (h : Ci G y_CA_command d [vr t, vi (xs (i + 1)), vi (xs (i + 2))] M (fun _ M1 => Scr b N xs M1 ∧ mK M1 a = 14 ∧ Ci G y_MM_command d [vr a, vi (xs (i + 1)), vi (xs (i + 2))] M1 (fun _ M2 => LPx G d b t a o i Q M2))) : mWm G y_La_law (d + 1) 448 (LL b t a o i) [] M Q := by
  refine wm_aload_n d_La_law_448 rfl rfl ?_
  refine wm_aldO_n d_La_law_449 rfl rfl ?_
  refine wm_iload d_La_law_450 rfl ?_
  refine wm_iconst d_La_law_452 ?_
  refine wm_iadd d_La_law_453 ?_
  refine wm_ialdV d_La_law_454 hs.1 ⟨by omega, by rw [hs.2.1]; omega⟩ ?_
  rw [hs.2.2 (i + 1) (by omega) (by omega)]
  refine wm_aldO_n d_La_law_455 rfl rfl ?_
  refine wm_iload d_La_law_456 rfl ?_
  refine wm_iconst d_La_law_458 ?_
  refine wm_iadd d_La_law_459 ?_
  refine wm_ialdV d_La_law_460 hs.1 ⟨by omega, by rw [hs.2.1]; omega⟩ ?_
  rw [hs.2.2 (i + 2) (by omega) (by omega)]
  refine wm_callV (y2 := y_CA_command) (c := 0) (n := 2) (As := [vi (xs (i + 1)), vi (xs (i + 2))]) (st := []) rfl rfl rfl ka_5_157 ka_5_158 ka_5_159 k1_1 ka_5_160 ⟨by decide, by decide, by decide +kernel⟩ (by decide) rfl rfl (Nat.le_of_ble_eq_true rfl) d_La_law_461 kt ?_
  refine mCm.mono h (fun r9 M1 q9 => ?_)
  obtain ⟨r1, rfl, q9⟩ := q9
  obtain ⟨hs1, ka, h2⟩ := q9
  refine wm_pop d_La_law_464 rfl ?_
  refine wm_aload_n d_La_law_465 rfl rfl ?_
  refine wm_aldO_n d_La_law_466 rfl rfl ?_
  refine wm_iload d_La_law_467 rfl ?_
  refine wm_iconst d_La_law_469 ?_
  refine wm_iadd d_La_law_470 ?_
  refine wm_ialdV d_La_law_471 hs1.1 ⟨by omega, by rw [hs1.2.1]; omega⟩ ?_
  rw [hs1.2.2 (i + 1) (by omega) (by omega)]
  refine wm_aldO_n d_La_law_472 rfl rfl ?_
  refine wm_iload d_La_law_473 rfl ?_
  refine wm_iconst d_La_law_475 ?_
  refine wm_iadd d_La_law_476 ?_
  refine wm_ialdV d_La_law_477 hs1.1 ⟨by omega, by rw [hs1.2.1]; omega⟩ ?_
  rw [hs1.2.2 (i + 2) (by omega) (by omega)]
  refine wm_callV (y2 := y_MM_command) (c := 13) (n := 2) (As := [vi (xs (i + 1)), vi (xs (i + 2))]) (st := []) rfl rfl rfl ka_12_165 ka_12_166 ka_12_167 k1_14 ka_12_168 ⟨by decide, by decide, by decide +kernel⟩ (by decide) rfl rfl (Nat.le_of_ble_eq_true rfl) d_La_law_478 ka ?_
  refine mCm.mono h2 (fun r9 M2 q9 => ?_)
  obtain ⟨r2, rfl, q9⟩ := q9
  refine wm_pop d_La_law_481 rfl ?_
  refine wm_goto (tgt := 993) d_La_law_482 rfl ?_
  exact q9

theorem ar_12 (hs : Scr b N xs M) (hi : 0 ≤ i ∧ i + 6 ≤ N) (kt : mK M t = 1) (h : Ci G y_CA_branches d [vr t, vi (xs (i + 1)), vi (xs (i + 2))] M (fun _ M1 => Scr b N xs M1 ∧ mK M1 a = 14 ∧ Ci G y_MM_branches d [vr a, vi (xs (i + 1)), vi (xs (i + 2))] M1 (fun _ M2 => LPx G d b t a o i Q M2))) : mWm G y_La_law (d + 1) 485 (LL b t a o i) [] M Q := by
  refine wm_aload_n d_La_law_485 rfl rfl ?_
  refine wm_aldO_n d_La_law_486 rfl rfl ?_
  refine wm_iload d_La_law_487 rfl ?_
  refine wm_iconst d_La_law_489 ?_
  refine wm_iadd d_La_law_490 ?_
  refine wm_ialdV d_La_law_491 hs.1 ⟨by omega, by rw [hs.2.1]; omega⟩ ?_
  rw [hs.2.2 (i + 1) (by omega) (by omega)]
  refine wm_aldO_n d_La_law_492 rfl rfl ?_
  refine wm_iload d_La_law_493 rfl ?_
  refine wm_iconst d_La_law_495 ?_
  refine wm_iadd d_La_law_496 ?_
  refine wm_ialdV d_La_law_497 hs.1 ⟨by omega, by rw [hs.2.1]; omega⟩ ?_
  rw [hs.2.2 (i + 2) (by omega) (by omega)]
  refine wm_callV (y2 := y_CA_branches) (c := 0) (n := 2) (As := [vi (xs (i + 1)), vi (xs (i + 2))]) (st := []) rfl rfl rfl ka_5_166 ka_5_167 ka_5_168 k1_1 ka_5_169 ⟨by decide, by decide, by decide +kernel⟩ (by decide) rfl rfl (Nat.le_of_ble_eq_true rfl) d_La_law_498 kt ?_
  refine mCm.mono h (fun r9 M1 q9 => ?_)
  obtain ⟨r1, rfl, q9⟩ := q9
  obtain ⟨hs1, ka, h2⟩ := q9
  refine wm_pop d_La_law_501 rfl ?_
  refine wm_aload_n d_La_law_502 rfl rfl ?_
  refine wm_aldO_n d_La_law_503 rfl rfl ?_
  refine wm_iload d_La_law_504 rfl ?_
  refine wm_iconst d_La_law_506 ?_
  refine wm_iadd d_La_law_507 ?_
  refine wm_ialdV d_La_law_508 hs1.1 ⟨by omega, by rw [hs1.2.1]; omega⟩ ?_
  rw [hs1.2.2 (i + 1) (by omega) (by omega)]
  refine wm_aldO_n d_La_law_509 rfl rfl ?_
  refine wm_iload d_La_law_510 rfl ?_
  refine wm_iconst d_La_law_512 ?_
  refine wm_iadd d_La_law_513 ?_
  refine wm_ialdV d_La_law_514 hs1.1 ⟨by omega, by rw [hs1.2.1]; omega⟩ ?_
  rw [hs1.2.2 (i + 2) (by omega) (by omega)]
  refine wm_callV (y2 := y_MM_branches) (c := 13) (n := 2) (As := [vi (xs (i + 1)), vi (xs (i + 2))]) (st := []) rfl rfl rfl ka_12_173 ka_12_174 ka_12_175 k1_14 ka_12_176 ⟨by decide, by decide, by decide +kernel⟩ (by decide) rfl rfl (Nat.le_of_ble_eq_true rfl) d_La_law_515 ka ?_
  refine mCm.mono h2 (fun r9 M2 q9 => ?_)
  obtain ⟨r2, rfl, q9⟩ := q9
  refine wm_pop d_La_law_518 rfl ?_
  refine wm_goto (tgt := 993) d_La_law_519 rfl ?_
  exact q9

theorem ar_13 (hs : Scr b N xs M) (hi : 0 ≤ i ∧ i + 6 ≤ N) (kt : mK M t = 1) (h : Ci G y_CA_branch d [vr t, vi (xs (i + 1)), vi (xs (i + 2)), vi (xs (i + 3)), vi (xs (i + 4))] M (fun _ M1 => Scr b N xs M1 ∧ mK M1 a = 14 ∧ Ci G y_MM_branch1 d [vr a, vi (xs (i + 1)), vi (xs (i + 2)), vi (xs (i + 3)), vi (xs (i + 4))] M1 (fun _ M2 => LPx G d b t a o i Q M2))) : mWm G y_La_law (d + 1) 522 (LL b t a o i) [] M Q := by
  refine wm_aload_n d_La_law_522 rfl rfl ?_
  refine wm_aldO_n d_La_law_523 rfl rfl ?_
  refine wm_iload d_La_law_524 rfl ?_
  refine wm_iconst d_La_law_526 ?_
  refine wm_iadd d_La_law_527 ?_
  refine wm_ialdV d_La_law_528 hs.1 ⟨by omega, by rw [hs.2.1]; omega⟩ ?_
  rw [hs.2.2 (i + 1) (by omega) (by omega)]
  refine wm_aldO_n d_La_law_529 rfl rfl ?_
  refine wm_iload d_La_law_530 rfl ?_
  refine wm_iconst d_La_law_532 ?_
  refine wm_iadd d_La_law_533 ?_
  refine wm_ialdV d_La_law_534 hs.1 ⟨by omega, by rw [hs.2.1]; omega⟩ ?_
  rw [hs.2.2 (i + 2) (by omega) (by omega)]
  refine wm_aldO_n d_La_law_535 rfl rfl ?_
  refine wm_iload d_La_law_536 rfl ?_
  refine wm_iconst d_La_law_538 ?_
  refine wm_iadd d_La_law_539 ?_
  refine wm_ialdV d_La_law_540 hs.1 ⟨by omega, by rw [hs.2.1]; omega⟩ ?_
  rw [hs.2.2 (i + 3) (by omega) (by omega)]
  refine wm_aldO_n d_La_law_541 rfl rfl ?_
  refine wm_iload d_La_law_542 rfl ?_
  refine wm_iconst d_La_law_544 ?_
  refine wm_iadd d_La_law_545 ?_
  refine wm_ialdV d_La_law_546 hs.1 ⟨by omega, by rw [hs.2.1]; omega⟩ ?_
  rw [hs.2.2 (i + 4) (by omega) (by omega)]
  refine wm_callV (y2 := y_CA_branch) (c := 0) (n := 4) (As := [vi (xs (i + 1)), vi (xs (i + 2)), vi (xs (i + 3)), vi (xs (i + 4))]) (st := []) rfl rfl rfl ka_5_170 ka_5_171 ka_5_172 k1_1 ka_5_173 ⟨by decide, by decide, by decide +kernel⟩ (by decide) rfl rfl (Nat.le_of_ble_eq_true rfl) d_La_law_547 kt ?_
  refine mCm.mono h (fun r9 M1 q9 => ?_)
  obtain ⟨r1, rfl, q9⟩ := q9
  obtain ⟨hs1, ka, h2⟩ := q9
  refine wm_pop d_La_law_550 rfl ?_
  refine wm_aload_n d_La_law_551 rfl rfl ?_
  refine wm_aldO_n d_La_law_552 rfl rfl ?_
  refine wm_iload d_La_law_553 rfl ?_
  refine wm_iconst d_La_law_555 ?_
  refine wm_iadd d_La_law_556 ?_
  refine wm_ialdV d_La_law_557 hs1.1 ⟨by omega, by rw [hs1.2.1]; omega⟩ ?_
  rw [hs1.2.2 (i + 1) (by omega) (by omega)]
  refine wm_aldO_n d_La_law_558 rfl rfl ?_
  refine wm_iload d_La_law_559 rfl ?_
  refine wm_iconst d_La_law_561 ?_
  refine wm_iadd d_La_law_562 ?_
  refine wm_ialdV d_La_law_563 hs1.1 ⟨by omega, by rw [hs1.2.1]; omega⟩ ?_
  rw [hs1.2.2 (i + 2) (by omega) (by omega)]
  refine wm_aldO_n d_La_law_564 rfl rfl ?_
  refine wm_iload d_La_law_565 rfl ?_
  refine wm_iconst d_La_law_567 ?_
  refine wm_iadd d_La_law_568 ?_
  refine wm_ialdV d_La_law_569 hs1.1 ⟨by omega, by rw [hs1.2.1]; omega⟩ ?_
  rw [hs1.2.2 (i + 3) (by omega) (by omega)]
  refine wm_aldO_n d_La_law_570 rfl rfl ?_
  refine wm_iload d_La_law_571 rfl ?_
  refine wm_iconst d_La_law_573 ?_
  refine wm_iadd d_La_law_574 ?_
  refine wm_ialdV d_La_law_575 hs1.1 ⟨by omega, by rw [hs1.2.1]; omega⟩ ?_
  rw [hs1.2.2 (i + 4) (by omega) (by omega)]
  refine wm_callV (y2 := y_MM_branch1) (c := 13) (n := 4) (As := [vi (xs (i + 1)), vi (xs (i + 2)), vi (xs (i + 3)), vi (xs (i + 4))]) (st := []) rfl rfl rfl ka_12_177 ka_12_178 ka_12_179 k1_14 ka_12_180 ⟨by decide, by decide, by decide +kernel⟩ (by decide) rfl rfl (Nat.le_of_ble_eq_true rfl) d_La_law_576 ka ?_
  refine mCm.mono h2 (fun r9 M2 q9 => ?_)
  obtain ⟨r2, rfl, q9⟩ := q9
  refine wm_pop d_La_law_579 rfl ?_
  refine wm_goto (tgt := 993) d_La_law_580 rfl ?_
  exact q9

theorem ar_14 (hs : Scr b N xs M) (hi : 0 ≤ i ∧ i + 6 ≤ N) (h : CiW G y_La_solve hs_solve d [vr t, vr o] M (fun _ M1 => Scr b N xs M1 ∧ mK M1 a = 14 ∧ Ci G y_MM_solve d [vr a] M1 (fun _ M2 => LPx G d b t a o i Q M2))) : mWm G y_La_law (d + 1) 583 (LL b t a o i) [] M Q := by
  refine wm_aload_n d_La_law_583 rfl rfl ?_
  refine wm_aload_n d_La_law_584 rfl rfl ?_
  refine wm_callSW (y2 := y_La_solve) (hs := hs_solve) (n := 2) (As := [vr t, vr o]) (st := []) ka_8_62 ka_8_63 ka_1_0 ka_8_64 ⟨by decide, by decide, by decide +kernel⟩ (by decide) rfl rfl (Nat.le_of_ble_eq_true rfl) d_La_law_585 ?_
  obtain ⟨r9, M1, c9, r1, e9, q9⟩ := h
  refine ⟨r9, M1, c9, r1, e9, ?_⟩
  obtain ⟨hs1, ka, h2⟩ := q9
  refine wm_istore (L' := [vo b, vr t, vr a, vr o, vi i, vi r1, vd]) d_La_law_588 (by decide) rfl ?_
  refine wm_aload_n d_La_law_590 rfl rfl ?_
  refine wm_callV (y2 := y_MM_solve) (c := 13) (n := 0) (As := []) (st := []) rfl rfl rfl ka_12_181 ka_12_182 ka_12_183 k1_14 ka_12_184 ⟨by decide, by decide, by decide +kernel⟩ (by decide) rfl rfl (Nat.le_of_ble_eq_true rfl) d_La_law_591 ka ?_
  refine mCm.mono h2 (fun r9 M2 q9 => ?_)
  obtain ⟨r2, rfl, q9⟩ := q9
  refine wm_istore (L' := [vo b, vr t, vr a, vr o, vi i, vi r1, vi r2]) d_La_law_594 (by decide) rfl ?_
  refine wm_goto (tgt := 993) d_La_law_596 rfl ?_
  refine wm_less (L' := LL b t a o i) ⟨Or.inr rfl, Or.inr rfl, Or.inr rfl, Or.inr rfl, Or.inr rfl, Or.inl rfl, Or.inl rfl, trivial⟩ ?_
  exact q9

theorem ar_15 (hs : Scr b N xs M) (hi : 0 ≤ i ∧ i + 6 ≤ N) (h : CiW G y_La_within hs_within d [vr t, vi (xs (i + 1)), vr o] M (fun r1 M1 => Scr b N xs M1 ∧ mK M1 a = 14 ∧ Ci G y_MM_within d [vr a, vi (xs (i + 1))] M1 (fun r2 M2 => mK M2 a = 14 ∧ Ci G y_MM_thrown d [vr a] M2 (fun r3 M3 => (i32 r1 ∧ i32 r3 ∧ r3 = r1) ∧ (r1 = 0 → (mK M3 o = 33 ∧ 0 < mN M3 o) ∧ i32 r2 ∧ mL M3 o 0 = r2) ∧ LPx G d b t a o i Q M3)))) : mWm G y_La_law (d + 1) 599 (LL b t a o i) [] M Q := by
  refine wm_aload_n d_La_law_599 rfl rfl ?_
  refine wm_aldO_n d_La_law_600 rfl rfl ?_
  refine wm_iload d_La_law_601 rfl ?_
  refine wm_iconst d_La_law_603 ?_
  refine wm_iadd d_La_law_604 ?_
  refine wm_ialdV d_La_law_605 hs.1 ⟨by omega, by rw [hs.2.1]; omega⟩ ?_
  rw [hs.2.2 (i + 1) (by omega) (by omega)]
  refine wm_aload_n d_La_law_606 rfl rfl ?_
  refine wm_callSW (y2 := y_La_within) (hs := hs_within) (n := 3) (As := [vr t, vi (xs (i + 1)), vr o]) (st := []) ka_8_192 ka_8_193 ka_1_0 ka_8_194 ⟨by decide, by decide, by decide +kernel⟩ (by decide) rfl rfl (Nat.le_of_ble_eq_true rfl) d_La_law_607 ?_
  obtain ⟨r9, M1, c9, r1, e9, q9⟩ := h
  refine ⟨r9, M1, c9, r1, e9, ?_⟩
  obtain ⟨hs1, ka, h2⟩ := q9
  refine wm_istore (L' := [vo b, vr t, vr a, vr o, vi i, vi r1, vd]) d_La_law_610 (by decide) rfl ?_
  refine wm_aload_n d_La_law_612 rfl rfl ?_
  refine wm_aldO_n d_La_law_613 rfl rfl ?_
  refine wm_iload d_La_law_614 rfl ?_
  refine wm_iconst d_La_law_616 ?_
  refine wm_iadd d_La_law_617 ?_
  refine wm_ialdV d_La_law_618 hs1.1 ⟨by omega, by rw [hs1.2.1]; omega⟩ ?_
  rw [hs1.2.2 (i + 1) (by omega) (by omega)]
  refine wm_callV (y2 := y_MM_within) (c := 13) (n := 1) (As := [vi (xs (i + 1))]) (st := []) rfl rfl rfl ka_13_146 ka_13_147 ka_13_148 k1_14 ka_13_149 ⟨by decide, by decide, by decide +kernel⟩ (by decide) rfl rfl (Nat.le_of_ble_eq_true rfl) d_La_law_619 ka ?_
  refine mCm.mono h2 (fun r9 M2 q9 => ?_)
  obtain ⟨r2, rfl, q9⟩ := q9
  obtain ⟨ka, h3⟩ := q9
  refine wm_istore (L' := [vo b, vr t, vr a, vr o, vi i, vi r1, vi r2]) d_La_law_622 (by decide) rfl ?_
  refine wm_aload_n d_La_law_624 rfl rfl ?_
  refine wm_callV (y2 := y_MM_thrown) (c := 13) (n := 0) (As := []) (st := []) rfl rfl rfl ka_10_229 ka_10_230 ka_10_231 k1_14 ka_10_232 ⟨by decide, by decide, by decide +kernel⟩ (by decide) rfl rfl (Nat.le_of_ble_eq_true rfl) d_La_law_625 ka ?_
  refine mCm.mono h3 (fun r9 M3 q9 => ?_)
  obtain ⟨r3, rfl, ⟨ir1, ir3, e3⟩, hc, hp⟩ := q9
  refine wm_iload d_La_law_628 rfl ?_
  have fin : mWm G y_La_law (d + 1) 652 [vo b, vr t, vr a, vr o, vi i, vi r1, vi r2] [] M3 Q := by
    refine wm_goto (tgt := 993) d_La_law_652 rfl ?_
    refine wm_less (L' := LL b t a o i) ⟨Or.inr rfl, Or.inr rfl, Or.inr rfl, Or.inr rfl, Or.inr rfl, Or.inl rfl, Or.inl rfl, trivial⟩ ?_
    exact hp
  refine wm_icmp_eq (tgt := 635) d_La_law_630 rfl ir3 ir1 (fun _ => ?_) (fun c => absurd e3 c)
  refine wm_iload d_La_law_635 rfl ?_
  refine wm_if_ne (tgt := 652) d_La_law_637 rfl ir1 (fun _ => fin) (fun c => ?_)
  obtain ⟨⟨k3, n3⟩, ir2, eL⟩ := hc (Decidable.not_not.mp c)
  refine wm_aload_n d_La_law_640 rfl rfl ?_
  refine wm_iconst d_La_law_641 ?_
  refine wm_lald d_La_law_642 k3 ⟨by decide, by omega⟩ ?_
  refine wm_iload d_La_law_643 rfl ?_
  refine wm_i2l d_La_law_645 ir2 ?_
  have e0 : mL M3 o (Int.toNat 0) = r2 := eL
  rw [e0]
  refine wm_lcmp d_La_law_646 ⟨by have := ir2.1; omega, by have := ir2.2; omega⟩ ⟨by have := ir2.1; omega, by have := ir2.2; omega⟩ ?_
  have ec : cmpL r2 r2 = 0 := by unfold cmpL; rw [if_neg (by omega), if_pos rfl]
  rw [ec]
  exact wm_if_eq (tgt := 652) d_La_law_647 rfl ⟨by decide, by decide⟩ (fun _ => fin) (fun c => absurd rfl c)

theorem ar_16 (hs : Scr b N xs M) (hi : 0 ≤ i ∧ i + 6 ≤ N) (h : CiW G y_La_choose hs_choose d [vr t, vi (xs (i + 1)), vi (xs (i + 2))] M (fun _ M1 => Scr b N xs M1 ∧ mK M1 a = 14 ∧ Cv G y_MM_choose1 d [vr a, vi (xs (i + 1)), vi (xs (i + 2))] M1 (fun M2 => LPx G d b t a o i Q M2))) : mWm G y_La_law (d + 1) 655 (LL b t a o i) [] M Q := by
  refine wm_aload_n d_La_law_655 rfl rfl ?_
  refine wm_aldO_n d_La_law_656 rfl rfl ?_
  refine wm_iload d_La_law_657 rfl ?_
  refine wm_iconst d_La_law_659 ?_
  refine wm_iadd d_La_law_660 ?_
  refine wm_ialdV d_La_law_661 hs.1 ⟨by omega, by rw [hs.2.1]; omega⟩ ?_
  rw [hs.2.2 (i + 1) (by omega) (by omega)]
  refine wm_aldO_n d_La_law_662 rfl rfl ?_
  refine wm_iload d_La_law_663 rfl ?_
  refine wm_iconst d_La_law_665 ?_
  refine wm_iadd d_La_law_666 ?_
  refine wm_ialdV d_La_law_667 hs.1 ⟨by omega, by rw [hs.2.1]; omega⟩ ?_
  rw [hs.2.2 (i + 2) (by omega) (by omega)]
  refine wm_callSW (y2 := y_La_choose) (hs := hs_choose) (n := 3) (As := [vr t, vi (xs (i + 1)), vi (xs (i + 2))]) (st := []) ka_8_212 ka_8_213 ka_1_0 ka_8_214 ⟨by decide, by decide, by decide +kernel⟩ (by decide) rfl rfl (Nat.le_of_ble_eq_true rfl) d_La_law_668 ?_
  obtain ⟨r9, M1, c9, r1, e9, q9⟩ := h
  refine ⟨r9, M1, c9, r1, e9, ?_⟩
  obtain ⟨hs1, ka, h2⟩ := q9
  refine wm_istore (L' := [vo b, vr t, vr a, vr o, vi i, vi r1, vd]) d_La_law_671 (by decide) rfl ?_
  refine wm_aload_n d_La_law_673 rfl rfl ?_
  refine wm_aldO_n d_La_law_674 rfl rfl ?_
  refine wm_iload d_La_law_675 rfl ?_
  refine wm_iconst d_La_law_677 ?_
  refine wm_iadd d_La_law_678 ?_
  refine wm_ialdV d_La_law_679 hs1.1 ⟨by omega, by rw [hs1.2.1]; omega⟩ ?_
  rw [hs1.2.2 (i + 1) (by omega) (by omega)]
  refine wm_aldO_n d_La_law_680 rfl rfl ?_
  refine wm_iload d_La_law_681 rfl ?_
  refine wm_iconst d_La_law_683 ?_
  refine wm_iadd d_La_law_684 ?_
  refine wm_ialdV d_La_law_685 hs1.1 ⟨by omega, by rw [hs1.2.1]; omega⟩ ?_
  rw [hs1.2.2 (i + 2) (by omega) (by omega)]
  refine wm_callV (y2 := y_MM_choose1) (c := 13) (n := 2) (As := [vi (xs (i + 1)), vi (xs (i + 2))]) (st := []) rfl rfl rfl ka_13_159 ka_13_160 ka_13_161 k1_14 ka_13_162 ⟨by decide, by decide, by decide +kernel⟩ (by decide) rfl rfl (Nat.le_of_ble_eq_true rfl) d_La_law_686 ka ?_
  refine mCm.mono h2 (fun r9 M2 q9 => ?_)
  obtain ⟨rfl, q9⟩ := q9
  refine wm_goto (tgt := 993) d_La_law_689 rfl ?_
  refine wm_less (L' := LL b t a o i) ⟨Or.inr rfl, Or.inr rfl, Or.inr rfl, Or.inr rfl, Or.inr rfl, Or.inl rfl, Or.inl rfl, trivial⟩ ?_
  exact q9

theorem ar_17 (hs : Scr b N xs M) (hi : 0 ≤ i ∧ i + 6 ≤ N) (h : CiW G y_La_adopt hs_adopt d [vr t] M (fun _ M1 => Scr b N xs M1 ∧ mK M1 a = 14 ∧ Cv G y_MM_adopt d [vr a] M1 (fun M2 => LPx G d b t a o i Q M2))) : mWm G y_La_law (d + 1) 692 (LL b t a o i) [] M Q := by
  refine wm_aload_n d_La_law_692 rfl rfl ?_
  refine wm_callSW (y2 := y_La_adopt) (hs := hs_adopt) (n := 1) (As := [vr t]) (st := []) ka_8_219 ka_8_220 ka_1_0 ka_8_221 ⟨by decide, by decide, by decide +kernel⟩ (by decide) rfl rfl (Nat.le_of_ble_eq_true rfl) d_La_law_693 ?_
  obtain ⟨r9, M1, c9, r1, e9, q9⟩ := h
  refine ⟨r9, M1, c9, r1, e9, ?_⟩
  obtain ⟨hs1, ka, h2⟩ := q9
  refine wm_istore (L' := [vo b, vr t, vr a, vr o, vi i, vi r1, vd]) d_La_law_696 (by decide) rfl ?_
  refine wm_aload_n d_La_law_698 rfl rfl ?_
  refine wm_callV (y2 := y_MM_adopt) (c := 13) (n := 0) (As := []) (st := []) rfl rfl rfl ka_13_167 ka_13_168 ka_13_169 k1_14 ka_13_170 ⟨by decide, by decide, by decide +kernel⟩ (by decide) rfl rfl (Nat.le_of_ble_eq_true rfl) d_La_law_699 ka ?_
  refine mCm.mono h2 (fun r9 M2 q9 => ?_)
  obtain ⟨rfl, q9⟩ := q9
  refine wm_goto (tgt := 993) d_La_law_702 rfl ?_
  refine wm_less (L' := LL b t a o i) ⟨Or.inr rfl, Or.inr rfl, Or.inr rfl, Or.inr rfl, Or.inr rfl, Or.inl rfl, Or.inl rfl, trivial⟩ ?_
  exact q9

theorem ar_18 (hs : Scr b N xs M) (hi : 0 ≤ i ∧ i + 6 ≤ N) (h : CiW G y_La_judge hs_judge d [vr t, vi (xs (i + 1)), vr o] M (fun _ M1 => Scr b N xs M1 ∧ mK M1 a = 14 ∧ Ci G y_MM_judge d [vr a, vi (xs (i + 1))] M1 (fun _ M2 => LPx G d b t a o i Q M2))) : mWm G y_La_law (d + 1) 705 (LL b t a o i) [] M Q := by
  refine wm_aload_n d_La_law_705 rfl rfl ?_
  refine wm_aldO_n d_La_law_706 rfl rfl ?_
  refine wm_iload d_La_law_707 rfl ?_
  refine wm_iconst d_La_law_709 ?_
  refine wm_iadd d_La_law_710 ?_
  refine wm_ialdV d_La_law_711 hs.1 ⟨by omega, by rw [hs.2.1]; omega⟩ ?_
  rw [hs.2.2 (i + 1) (by omega) (by omega)]
  refine wm_aload_n d_La_law_712 rfl rfl ?_
  refine wm_callSW (y2 := y_La_judge) (hs := hs_judge) (n := 3) (As := [vr t, vi (xs (i + 1)), vr o]) (st := []) ka_8_227 ka_8_228 ka_1_0 ka_8_229 ⟨by decide, by decide, by decide +kernel⟩ (by decide) rfl rfl (Nat.le_of_ble_eq_true rfl) d_La_law_713 ?_
  obtain ⟨r9, M1, c9, r1, e9, q9⟩ := h
  refine ⟨r9, M1, c9, r1, e9, ?_⟩
  obtain ⟨hs1, ka, h2⟩ := q9
  refine wm_istore (L' := [vo b, vr t, vr a, vr o, vi i, vi r1, vd]) d_La_law_716 (by decide) rfl ?_
  refine wm_aload_n d_La_law_718 rfl rfl ?_
  refine wm_aldO_n d_La_law_719 rfl rfl ?_
  refine wm_iload d_La_law_720 rfl ?_
  refine wm_iconst d_La_law_722 ?_
  refine wm_iadd d_La_law_723 ?_
  refine wm_ialdV d_La_law_724 hs1.1 ⟨by omega, by rw [hs1.2.1]; omega⟩ ?_
  rw [hs1.2.2 (i + 1) (by omega) (by omega)]
  refine wm_callV (y2 := y_MM_judge) (c := 13) (n := 1) (As := [vi (xs (i + 1))]) (st := []) rfl rfl rfl ka_13_179 ka_13_180 ka_13_181 k1_14 ka_13_182 ⟨by decide, by decide, by decide +kernel⟩ (by decide) rfl rfl (Nat.le_of_ble_eq_true rfl) d_La_law_725 ka ?_
  refine mCm.mono h2 (fun r9 M2 q9 => ?_)
  obtain ⟨r2, rfl, q9⟩ := q9
  refine wm_istore (L' := [vo b, vr t, vr a, vr o, vi i, vi r1, vi r2]) d_La_law_728 (by decide) rfl ?_
  refine wm_goto (tgt := 993) d_La_law_730 rfl ?_
  refine wm_less (L' := LL b t a o i) ⟨Or.inr rfl, Or.inr rfl, Or.inr rfl, Or.inr rfl, Or.inr rfl, Or.inl rfl, Or.inl rfl, trivial⟩ ?_
  exact q9

theorem ar_19 (hs : Scr b N xs M) (hi : 0 ≤ i ∧ i + 6 ≤ N) (kt : mK M t = 1) (h : Ci G y_CA_print d [vr t, vi (xs (i + 1)), vi (xs (i + 2))] M (fun _ M1 => Scr b N xs M1 ∧ mK M1 a = 14 ∧ Ci G y_MM_print d [vr a, vi (xs (i + 1)), vi (xs (i + 2))] M1 (fun _ M2 => LPx G d b t a o i Q M2))) : mWm G y_La_law (d + 1) 733 (LL b t a o i) [] M Q := by
  refine wm_aload_n d_La_law_733 rfl rfl ?_
  refine wm_aldO_n d_La_law_734 rfl rfl ?_
  refine wm_iload d_La_law_735 rfl ?_
  refine wm_iconst d_La_law_737 ?_
  refine wm_iadd d_La_law_738 ?_
  refine wm_ialdV d_La_law_739 hs.1 ⟨by omega, by rw [hs.2.1]; omega⟩ ?_
  rw [hs.2.2 (i + 1) (by omega) (by omega)]
  refine wm_aldO_n d_La_law_740 rfl rfl ?_
  refine wm_iload d_La_law_741 rfl ?_
  refine wm_iconst d_La_law_743 ?_
  refine wm_iadd d_La_law_744 ?_
  refine wm_ialdV d_La_law_745 hs.1 ⟨by omega, by rw [hs.2.1]; omega⟩ ?_
  rw [hs.2.2 (i + 2) (by omega) (by omega)]
  refine wm_callV (y2 := y_CA_print) (c := 0) (n := 2) (As := [vi (xs (i + 1)), vi (xs (i + 2))]) (st := []) rfl rfl rfl ka_5_175 ka_5_176 ka_5_177 k1_1 ka_5_178 ⟨by decide, by decide, by decide +kernel⟩ (by decide) rfl rfl (Nat.le_of_ble_eq_true rfl) d_La_law_746 kt ?_
  refine mCm.mono h (fun r9 M1 q9 => ?_)
  obtain ⟨r1, rfl, q9⟩ := q9
  obtain ⟨hs1, ka, h2⟩ := q9
  refine wm_pop d_La_law_749 rfl ?_
  refine wm_aload_n d_La_law_750 rfl rfl ?_
  refine wm_aldO_n d_La_law_751 rfl rfl ?_
  refine wm_iload d_La_law_752 rfl ?_
  refine wm_iconst d_La_law_754 ?_
  refine wm_iadd d_La_law_755 ?_
  refine wm_ialdV d_La_law_756 hs1.1 ⟨by omega, by rw [hs1.2.1]; omega⟩ ?_
  rw [hs1.2.2 (i + 1) (by omega) (by omega)]
  refine wm_aldO_n d_La_law_757 rfl rfl ?_
  refine wm_iload d_La_law_758 rfl ?_
  refine wm_iconst d_La_law_760 ?_
  refine wm_iadd d_La_law_761 ?_
  refine wm_ialdV d_La_law_762 hs1.1 ⟨by omega, by rw [hs1.2.1]; omega⟩ ?_
  rw [hs1.2.2 (i + 2) (by omega) (by omega)]
  refine wm_callV (y2 := y_MM_print) (c := 13) (n := 2) (As := [vi (xs (i + 1)), vi (xs (i + 2))]) (st := []) rfl rfl rfl ka_13_187 ka_13_188 ka_13_189 k1_14 ka_13_190 ⟨by decide, by decide, by decide +kernel⟩ (by decide) rfl rfl (Nat.le_of_ble_eq_true rfl) d_La_law_763 ka ?_
  refine mCm.mono h2 (fun r9 M2 q9 => ?_)
  obtain ⟨r2, rfl, q9⟩ := q9
  refine wm_pop d_La_law_766 rfl ?_
  refine wm_goto (tgt := 993) d_La_law_767 rfl ?_
  exact q9

theorem ar_20 (hs : Scr b N xs M) (hi : 0 ≤ i ∧ i + 6 ≤ N) (kt : mK M t = 1) (h : Ci G y_CA_character d [vr t, vi (xs (i + 1))] M (fun _ M1 => Scr b N xs M1 ∧ mK M1 a = 14 ∧ Ci G y_MM_character d [vr a, vi (xs (i + 1))] M1 (fun _ M2 => LPx G d b t a o i Q M2))) : mWm G y_La_law (d + 1) 770 (LL b t a o i) [] M Q := by
  refine wm_aload_n d_La_law_770 rfl rfl ?_
  refine wm_aldO_n d_La_law_771 rfl rfl ?_
  refine wm_iload d_La_law_772 rfl ?_
  refine wm_iconst d_La_law_774 ?_
  refine wm_iadd d_La_law_775 ?_
  refine wm_ialdV d_La_law_776 hs.1 ⟨by omega, by rw [hs.2.1]; omega⟩ ?_
  rw [hs.2.2 (i + 1) (by omega) (by omega)]
  refine wm_callV (y2 := y_CA_character) (c := 0) (n := 1) (As := [vi (xs (i + 1))]) (st := []) rfl rfl rfl ka_7_104 ka_7_105 ka_7_106 k1_1 ka_7_107 ⟨by decide, by decide, by decide +kernel⟩ (by decide) rfl rfl (Nat.le_of_ble_eq_true rfl) d_La_law_777 kt ?_
  refine mCm.mono h (fun r9 M1 q9 => ?_)
  obtain ⟨r1, rfl, q9⟩ := q9
  obtain ⟨hs1, ka, h2⟩ := q9
  refine wm_pop d_La_law_780 rfl ?_
  refine wm_aload_n d_La_law_781 rfl rfl ?_
  refine wm_aldO_n d_La_law_782 rfl rfl ?_
  refine wm_iload d_La_law_783 rfl ?_
  refine wm_iconst d_La_law_785 ?_
  refine wm_iadd d_La_law_786 ?_
  refine wm_ialdV d_La_law_787 hs1.1 ⟨by omega, by rw [hs1.2.1]; omega⟩ ?_
  rw [hs1.2.2 (i + 1) (by omega) (by omega)]
  refine wm_callV (y2 := y_MM_character) (c := 13) (n := 1) (As := [vi (xs (i + 1))]) (st := []) rfl rfl rfl ka_13_212 ka_13_213 ka_13_214 k1_14 ka_13_215 ⟨by decide, by decide, by decide +kernel⟩ (by decide) rfl rfl (Nat.le_of_ble_eq_true rfl) d_La_law_788 ka ?_
  refine mCm.mono h2 (fun r9 M2 q9 => ?_)
  obtain ⟨r2, rfl, q9⟩ := q9
  refine wm_pop d_La_law_791 rfl ?_
  refine wm_goto (tgt := 993) d_La_law_792 rfl ?_
  exact q9

theorem ar_21 (hs : Scr b N xs M) (hi : 0 ≤ i ∧ i + 6 ≤ N) (kt : mK M t = 1) (h : Ci G y_CA_compare d [vr t, vi (xs (i + 1)), vi (xs (i + 2)), vi (xs (i + 3)), vi (xs (i + 4))] M (fun _ M1 => Scr b N xs M1 ∧ mK M1 a = 14 ∧ Ci G y_MM_compare d [vr a, vi (xs (i + 1)), vi (xs (i + 2)), vi (xs (i + 3)), vi (xs (i + 4))] M1 (fun _ M2 => LPx G d b t a o i Q M2))) : mWm G y_La_law (d + 1) 795 (LL b t a o i) [] M Q := by
  refine wm_aload_n d_La_law_795 rfl rfl ?_
  refine wm_aldO_n d_La_law_796 rfl rfl ?_
  refine wm_iload d_La_law_797 rfl ?_
  refine wm_iconst d_La_law_799 ?_
  refine wm_iadd d_La_law_800 ?_
  refine wm_ialdV d_La_law_801 hs.1 ⟨by omega, by rw [hs.2.1]; omega⟩ ?_
  rw [hs.2.2 (i + 1) (by omega) (by omega)]
  refine wm_aldO_n d_La_law_802 rfl rfl ?_
  refine wm_iload d_La_law_803 rfl ?_
  refine wm_iconst d_La_law_805 ?_
  refine wm_iadd d_La_law_806 ?_
  refine wm_ialdV d_La_law_807 hs.1 ⟨by omega, by rw [hs.2.1]; omega⟩ ?_
  rw [hs.2.2 (i + 2) (by omega) (by omega)]
  refine wm_aldO_n d_La_law_808 rfl rfl ?_
  refine wm_iload d_La_law_809 rfl ?_
  refine wm_iconst d_La_law_811 ?_
  refine wm_iadd d_La_law_812 ?_
  refine wm_ialdV d_La_law_813 hs.1 ⟨by omega, by rw [hs.2.1]; omega⟩ ?_
  rw [hs.2.2 (i + 3) (by omega) (by omega)]
  refine wm_aldO_n d_La_law_814 rfl rfl ?_
  refine wm_iload d_La_law_815 rfl ?_
  refine wm_iconst d_La_law_817 ?_
  refine wm_iadd d_La_law_818 ?_
  refine wm_ialdV d_La_law_819 hs.1 ⟨by omega, by rw [hs.2.1]; omega⟩ ?_
  rw [hs.2.2 (i + 4) (by omega) (by omega)]
  refine wm_callV (y2 := y_CA_compare) (c := 0) (n := 4) (As := [vi (xs (i + 1)), vi (xs (i + 2)), vi (xs (i + 3)), vi (xs (i + 4))]) (st := []) rfl rfl rfl ka_7_108 ka_7_109 ka_7_110 k1_1 ka_7_111 ⟨by decide, by decide, by decide +kernel⟩ (by decide) rfl rfl (Nat.le_of_ble_eq_true rfl) d_La_law_820 kt ?_
  refine mCm.mono h (fun r9 M1 q9 => ?_)
  obtain ⟨r1, rfl, q9⟩ := q9
  obtain ⟨hs1, ka, h2⟩ := q9
  refine wm_pop d_La_law_823 rfl ?_
  refine wm_aload_n d_La_law_824 rfl rfl ?_
  refine wm_aldO_n d_La_law_825 rfl rfl ?_
  refine wm_iload d_La_law_826 rfl ?_
  refine wm_iconst d_La_law_828 ?_
  refine wm_iadd d_La_law_829 ?_
  refine wm_ialdV d_La_law_830 hs1.1 ⟨by omega, by rw [hs1.2.1]; omega⟩ ?_
  rw [hs1.2.2 (i + 1) (by omega) (by omega)]
  refine wm_aldO_n d_La_law_831 rfl rfl ?_
  refine wm_iload d_La_law_832 rfl ?_
  refine wm_iconst d_La_law_834 ?_
  refine wm_iadd d_La_law_835 ?_
  refine wm_ialdV d_La_law_836 hs1.1 ⟨by omega, by rw [hs1.2.1]; omega⟩ ?_
  rw [hs1.2.2 (i + 2) (by omega) (by omega)]
  refine wm_aldO_n d_La_law_837 rfl rfl ?_
  refine wm_iload d_La_law_838 rfl ?_
  refine wm_iconst d_La_law_840 ?_
  refine wm_iadd d_La_law_841 ?_
  refine wm_ialdV d_La_law_842 hs1.1 ⟨by omega, by rw [hs1.2.1]; omega⟩ ?_
  rw [hs1.2.2 (i + 3) (by omega) (by omega)]
  refine wm_aldO_n d_La_law_843 rfl rfl ?_
  refine wm_iload d_La_law_844 rfl ?_
  refine wm_iconst d_La_law_846 ?_
  refine wm_iadd d_La_law_847 ?_
  refine wm_ialdV d_La_law_848 hs1.1 ⟨by omega, by rw [hs1.2.1]; omega⟩ ?_
  rw [hs1.2.2 (i + 4) (by omega) (by omega)]
  refine wm_callV (y2 := y_MM_compare) (c := 13) (n := 4) (As := [vi (xs (i + 1)), vi (xs (i + 2)), vi (xs (i + 3)), vi (xs (i + 4))]) (st := []) rfl rfl rfl ka_13_216 ka_13_217 ka_13_218 k1_14 ka_13_219 ⟨by decide, by decide, by decide +kernel⟩ (by decide) rfl rfl (Nat.le_of_ble_eq_true rfl) d_La_law_849 ka ?_
  refine mCm.mono h2 (fun r9 M2 q9 => ?_)
  obtain ⟨r2, rfl, q9⟩ := q9
  refine wm_pop d_La_law_852 rfl ?_
  refine wm_goto (tgt := 993) d_La_law_853 rfl ?_
  exact q9

theorem ar_22 (hs : Scr b N xs M) (hi : 0 ≤ i ∧ i + 6 ≤ N) (kt : mK M t = 1) (h : Ci G y_CA_billionths d [vr t, vi (xs (i + 1)), vi (xs (i + 2))] M (fun _ M1 => Scr b N xs M1 ∧ mK M1 a = 14 ∧ Ci G y_MM_billionths d [vr a, vi (xs (i + 1)), vi (xs (i + 2))] M1 (fun _ M2 => LPx G d b t a o i Q M2))) : mWm G y_La_law (d + 1) 856 (LL b t a o i) [] M Q := by
  refine wm_aload_n d_La_law_856 rfl rfl ?_
  refine wm_aldO_n d_La_law_857 rfl rfl ?_
  refine wm_iload d_La_law_858 rfl ?_
  refine wm_iconst d_La_law_860 ?_
  refine wm_iadd d_La_law_861 ?_
  refine wm_ialdV d_La_law_862 hs.1 ⟨by omega, by rw [hs.2.1]; omega⟩ ?_
  rw [hs.2.2 (i + 1) (by omega) (by omega)]
  refine wm_aldO_n d_La_law_863 rfl rfl ?_
  refine wm_iload d_La_law_864 rfl ?_
  refine wm_iconst d_La_law_866 ?_
  refine wm_iadd d_La_law_867 ?_
  refine wm_ialdV d_La_law_868 hs.1 ⟨by omega, by rw [hs.2.1]; omega⟩ ?_
  rw [hs.2.2 (i + 2) (by omega) (by omega)]
  refine wm_callV (y2 := y_CA_billionths) (c := 0) (n := 2) (As := [vi (xs (i + 1)), vi (xs (i + 2))]) (st := []) rfl rfl rfl ka_7_120 ka_7_121 ka_7_122 k1_1 ka_7_123 ⟨by decide, by decide, by decide +kernel⟩ (by decide) rfl rfl (Nat.le_of_ble_eq_true rfl) d_La_law_869 kt ?_
  refine mCm.mono h (fun r9 M1 q9 => ?_)
  obtain ⟨r1, rfl, q9⟩ := q9
  obtain ⟨hs1, ka, h2⟩ := q9
  refine wm_pop d_La_law_872 rfl ?_
  refine wm_aload_n d_La_law_873 rfl rfl ?_
  refine wm_aldO_n d_La_law_874 rfl rfl ?_
  refine wm_iload d_La_law_875 rfl ?_
  refine wm_iconst d_La_law_877 ?_
  refine wm_iadd d_La_law_878 ?_
  refine wm_ialdV d_La_law_879 hs1.1 ⟨by omega, by rw [hs1.2.1]; omega⟩ ?_
  rw [hs1.2.2 (i + 1) (by omega) (by omega)]
  refine wm_aldO_n d_La_law_880 rfl rfl ?_
  refine wm_iload d_La_law_881 rfl ?_
  refine wm_iconst d_La_law_883 ?_
  refine wm_iadd d_La_law_884 ?_
  refine wm_ialdV d_La_law_885 hs1.1 ⟨by omega, by rw [hs1.2.1]; omega⟩ ?_
  rw [hs1.2.2 (i + 2) (by omega) (by omega)]
  refine wm_callV (y2 := y_MM_billionths) (c := 13) (n := 2) (As := [vi (xs (i + 1)), vi (xs (i + 2))]) (st := []) rfl rfl rfl ka_13_224 ka_13_225 ka_13_226 k1_14 ka_13_227 ⟨by decide, by decide, by decide +kernel⟩ (by decide) rfl rfl (Nat.le_of_ble_eq_true rfl) d_La_law_886 ka ?_
  refine mCm.mono h2 (fun r9 M2 q9 => ?_)
  obtain ⟨r2, rfl, q9⟩ := q9
  refine wm_pop d_La_law_889 rfl ?_
  refine wm_goto (tgt := 993) d_La_law_890 rfl ?_
  exact q9

theorem ar_23 (hs : Scr b N xs M) (hi : 0 ≤ i ∧ i + 6 ≤ N) (kt : mK M t = 1) (h : Ci G y_CA_choice d [vr t, vi (xs (i + 1))] M (fun _ M1 => Scr b N xs M1 ∧ mK M1 a = 14 ∧ Ci G y_MM_choice d [vr a, vi (xs (i + 1))] M1 (fun _ M2 => LPx G d b t a o i Q M2))) : mWm G y_La_law (d + 1) 893 (LL b t a o i) [] M Q := by
  refine wm_aload_n d_La_law_893 rfl rfl ?_
  refine wm_aldO_n d_La_law_894 rfl rfl ?_
  refine wm_iload d_La_law_895 rfl ?_
  refine wm_iconst d_La_law_897 ?_
  refine wm_iadd d_La_law_898 ?_
  refine wm_ialdV d_La_law_899 hs.1 ⟨by omega, by rw [hs.2.1]; omega⟩ ?_
  rw [hs.2.2 (i + 1) (by omega) (by omega)]
  refine wm_callV (y2 := y_CA_choice) (c := 0) (n := 1) (As := [vi (xs (i + 1))]) (st := []) rfl rfl rfl ka_7_129 ka_7_130 ka_7_131 k1_1 ka_7_132 ⟨by decide, by decide, by decide +kernel⟩ (by decide) rfl rfl (Nat.le_of_ble_eq_true rfl) d_La_law_900 kt ?_
  refine mCm.mono h (fun r9 M1 q9 => ?_)
  obtain ⟨r1, rfl, q9⟩ := q9
  obtain ⟨hs1, ka, h2⟩ := q9
  refine wm_pop d_La_law_903 rfl ?_
  refine wm_aload_n d_La_law_904 rfl rfl ?_
  refine wm_aldO_n d_La_law_905 rfl rfl ?_
  refine wm_iload d_La_law_906 rfl ?_
  refine wm_iconst d_La_law_908 ?_
  refine wm_iadd d_La_law_909 ?_
  refine wm_ialdV d_La_law_910 hs1.1 ⟨by omega, by rw [hs1.2.1]; omega⟩ ?_
  rw [hs1.2.2 (i + 1) (by omega) (by omega)]
  refine wm_callV (y2 := y_MM_choice) (c := 13) (n := 1) (As := [vi (xs (i + 1))]) (st := []) rfl rfl rfl ka_13_238 ka_13_239 ka_14_0 k1_14 ka_14_1 ⟨by decide, by decide, by decide +kernel⟩ (by decide) rfl rfl (Nat.le_of_ble_eq_true rfl) d_La_law_911 ka ?_
  refine mCm.mono h2 (fun r9 M2 q9 => ?_)
  obtain ⟨r2, rfl, q9⟩ := q9
  refine wm_pop d_La_law_914 rfl ?_
  refine wm_goto (tgt := 993) d_La_law_915 rfl ?_
  exact q9

theorem ar_24 (hs : Scr b N xs M) (hi : 0 ≤ i ∧ i + 6 ≤ N) (kt : mK M t = 1) (h : Ci G y_CA_rank d [vr t, vi (xs (i + 1))] M (fun _ M1 => Scr b N xs M1 ∧ mK M1 a = 14 ∧ Ci G y_MM_rank d [vr a, vi (xs (i + 1))] M1 (fun _ M2 => LPx G d b t a o i Q M2))) : mWm G y_La_law (d + 1) 918 (LL b t a o i) [] M Q := by
  refine wm_aload_n d_La_law_918 rfl rfl ?_
  refine wm_aldO_n d_La_law_919 rfl rfl ?_
  refine wm_iload d_La_law_920 rfl ?_
  refine wm_iconst d_La_law_922 ?_
  refine wm_iadd d_La_law_923 ?_
  refine wm_ialdV d_La_law_924 hs.1 ⟨by omega, by rw [hs.2.1]; omega⟩ ?_
  rw [hs.2.2 (i + 1) (by omega) (by omega)]
  refine wm_callV (y2 := y_CA_rank) (c := 0) (n := 1) (As := [vi (xs (i + 1))]) (st := []) rfl rfl rfl ka_7_133 ka_7_134 ka_7_135 k1_1 ka_7_136 ⟨by decide, by decide, by decide +kernel⟩ (by decide) rfl rfl (Nat.le_of_ble_eq_true rfl) d_La_law_925 kt ?_
  refine mCm.mono h (fun r9 M1 q9 => ?_)
  obtain ⟨r1, rfl, q9⟩ := q9
  obtain ⟨hs1, ka, h2⟩ := q9
  refine wm_pop d_La_law_928 rfl ?_
  refine wm_aload_n d_La_law_929 rfl rfl ?_
  refine wm_aldO_n d_La_law_930 rfl rfl ?_
  refine wm_iload d_La_law_931 rfl ?_
  refine wm_iconst d_La_law_933 ?_
  refine wm_iadd d_La_law_934 ?_
  refine wm_ialdV d_La_law_935 hs1.1 ⟨by omega, by rw [hs1.2.1]; omega⟩ ?_
  rw [hs1.2.2 (i + 1) (by omega) (by omega)]
  refine wm_callV (y2 := y_MM_rank) (c := 13) (n := 1) (As := [vi (xs (i + 1))]) (st := []) rfl rfl rfl ka_14_6 ka_14_7 ka_14_8 k1_14 ka_14_9 ⟨by decide, by decide, by decide +kernel⟩ (by decide) rfl rfl (Nat.le_of_ble_eq_true rfl) d_La_law_936 ka ?_
  refine mCm.mono h2 (fun r9 M2 q9 => ?_)
  obtain ⟨r2, rfl, q9⟩ := q9
  refine wm_pop d_La_law_939 rfl ?_
  refine wm_goto (tgt := 993) d_La_law_940 rfl ?_
  exact q9

theorem ar_25 (hs : Scr b N xs M) (hi : 0 ≤ i ∧ i + 6 ≤ N) (kt : mK M t = 1) (h : Ci G y_CA_next d [vr t, vi (xs (i + 1)), vi (xs (i + 2))] M (fun _ M1 => Scr b N xs M1 ∧ mK M1 a = 14 ∧ Ci G y_MM_next d [vr a, vi (xs (i + 1)), vi (xs (i + 2))] M1 (fun _ M2 => LPx G d b t a o i Q M2))) : mWm G y_La_law (d + 1) 943 (LL b t a o i) [] M Q := by
  refine wm_aload_n d_La_law_943 rfl rfl ?_
  refine wm_aldO_n d_La_law_944 rfl rfl ?_
  refine wm_iload d_La_law_945 rfl ?_
  refine wm_iconst d_La_law_947 ?_
  refine wm_iadd d_La_law_948 ?_
  refine wm_ialdV d_La_law_949 hs.1 ⟨by omega, by rw [hs.2.1]; omega⟩ ?_
  rw [hs.2.2 (i + 1) (by omega) (by omega)]
  refine wm_aldO_n d_La_law_950 rfl rfl ?_
  refine wm_iload d_La_law_951 rfl ?_
  refine wm_iconst d_La_law_953 ?_
  refine wm_iadd d_La_law_954 ?_
  refine wm_ialdV d_La_law_955 hs.1 ⟨by omega, by rw [hs.2.1]; omega⟩ ?_
  rw [hs.2.2 (i + 2) (by omega) (by omega)]
  refine wm_callV (y2 := y_CA_next) (c := 0) (n := 2) (As := [vi (xs (i + 1)), vi (xs (i + 2))]) (st := []) rfl rfl rfl ka_7_137 ka_7_138 ka_7_139 k1_1 ka_7_140 ⟨by decide, by decide, by decide +kernel⟩ (by decide) rfl rfl (Nat.le_of_ble_eq_true rfl) d_La_law_956 kt ?_
  refine mCm.mono h (fun r9 M1 q9 => ?_)
  obtain ⟨r1, rfl, q9⟩ := q9
  obtain ⟨hs1, ka, h2⟩ := q9
  refine wm_pop d_La_law_959 rfl ?_
  refine wm_aload_n d_La_law_960 rfl rfl ?_
  refine wm_aldO_n d_La_law_961 rfl rfl ?_
  refine wm_iload d_La_law_962 rfl ?_
  refine wm_iconst d_La_law_964 ?_
  refine wm_iadd d_La_law_965 ?_
  refine wm_ialdV d_La_law_966 hs1.1 ⟨by omega, by rw [hs1.2.1]; omega⟩ ?_
  rw [hs1.2.2 (i + 1) (by omega) (by omega)]
  refine wm_aldO_n d_La_law_967 rfl rfl ?_
  refine wm_iload d_La_law_968 rfl ?_
  refine wm_iconst d_La_law_970 ?_
  refine wm_iadd d_La_law_971 ?_
  refine wm_ialdV d_La_law_972 hs1.1 ⟨by omega, by rw [hs1.2.1]; omega⟩ ?_
  rw [hs1.2.2 (i + 2) (by omega) (by omega)]
  refine wm_callV (y2 := y_MM_next) (c := 13) (n := 2) (As := [vi (xs (i + 1)), vi (xs (i + 2))]) (st := []) rfl rfl rfl ka_14_14 ka_14_15 ka_14_16 k1_14 ka_14_17 ⟨by decide, by decide, by decide +kernel⟩ (by decide) rfl rfl (Nat.le_of_ble_eq_true rfl) d_La_law_973 ka ?_
  refine mCm.mono h2 (fun r9 M2 q9 => ?_)
  obtain ⟨r2, rfl, q9⟩ := q9
  refine wm_pop d_La_law_976 rfl ?_
  refine wm_goto (tgt := 993) d_La_law_977 rfl ?_
  exact q9

theorem ar_26 (hs : Scr b N xs M) (hi : 0 ≤ i ∧ i + 6 ≤ N) (kt : mK M t = 1) (h : Ci G y_CA_check d [vr t] M (fun _ M1 => Scr b N xs M1 ∧ mK M1 a = 14 ∧ Ci G y_MM_check d [vr a] M1 (fun _ M2 => LPx G d b t a o i Q M2))) : mWm G y_La_law (d + 1) 980 (LL b t a o i) [] M Q := by
  refine wm_aload_n d_La_law_980 rfl rfl ?_
  refine wm_callV (y2 := y_CA_check) (c := 0) (n := 0) (As := []) (st := []) rfl rfl rfl ka_7_145 ka_7_146 ka_7_147 k1_1 ka_7_148 ⟨by decide, by decide, by decide +kernel⟩ (by decide) rfl rfl (Nat.le_of_ble_eq_true rfl) d_La_law_981 kt ?_
  refine mCm.mono h (fun r9 M1 q9 => ?_)
  obtain ⟨r1, rfl, q9⟩ := q9
  obtain ⟨hs1, ka, h2⟩ := q9
  refine wm_pop d_La_law_984 rfl ?_
  refine wm_aload_n d_La_law_985 rfl rfl ?_
  refine wm_callV (y2 := y_MM_check) (c := 13) (n := 0) (As := []) (st := []) rfl rfl rfl ka_14_23 ka_14_24 ka_14_25 k1_14 ka_14_26 ⟨by decide, by decide, by decide +kernel⟩ (by decide) rfl rfl (Nat.le_of_ble_eq_true rfl) d_La_law_986 ka ?_
  refine mCm.mono h2 (fun r9 M2 q9 => ?_)
  obtain ⟨r2, rfl, q9⟩ := q9
  refine wm_pop d_La_law_989 rfl ?_
  refine wm_goto (tgt := 993) d_La_law_990 rfl ?_
  exact q9

def lawT : List Nat := [164, 237, 265, 278, 291, 316, 332, 345, 358, 398, 423, 448, 485, 522, 583, 599, 655, 692, 705, 733, 770, 795, 856, 893, 918, 943, 980]
theorem i32_and {x z : Int} : i32 (andI x z) := ⟨Int32.minValue_le_toInt _, by have := Int32.toInt_lt (Int32.ofInt x &&& Int32.ofInt z); unfold andI; omega⟩
theorem la_in (v : Int) (hv : i32 v) (hd : mWm G y_La_law (d + 1) 993 (LL b t a o i) [] M Q) (h : ∀ k tg : Nat, lawT[k]? = some tg → mWm G y_La_law (d + 1) tg (LL b t a o i) [] M Q) : mWm G y_La_law (d + 1) 40 (LL b t a o i) [vi v] M Q := by
  by_cases c : v < 0 ∨ 26 < v
  · exact wm_tableOut (tgt := 993) d_La_law_40 hv c rfl hd
  · have w : v = 0 ∨ v = 1 ∨ v = 2 ∨ v = 3 ∨ v = 4 ∨ v = 5 ∨ v = 6 ∨ v = 7 ∨ v = 8 ∨ v = 9 ∨ v = 10 ∨ v = 11 ∨ v = 12 ∨ v = 13 ∨ v = 14 ∨ v = 15 ∨ v = 16 ∨ v = 17 ∨ v = 18 ∨ v = 19 ∨ v = 20 ∨ v = 21 ∨ v = 22 ∨ v = 23 ∨ v = 24 ∨ v = 25 ∨ v = 26 := by omega
    rcases w with e | e | e | e | e | e | e | e | e | e | e | e | e | e | e | e | e | e | e | e | e | e | e | e | e | e | e
    · subst e; exact wm_tableIn (off := 124) (tgt := 164) d_La_law_40 hv (by decide) (by decide) rfl rfl (h 0 164 rfl)
    · subst e; exact wm_tableIn (off := 197) (tgt := 237) d_La_law_40 hv (by decide) (by decide) rfl rfl (h 1 237 rfl)
    · subst e; exact wm_tableIn (off := 225) (tgt := 265) d_La_law_40 hv (by decide) (by decide) rfl rfl (h 2 265 rfl)
    · subst e; exact wm_tableIn (off := 238) (tgt := 278) d_La_law_40 hv (by decide) (by decide) rfl rfl (h 3 278 rfl)
    · subst e; exact wm_tableIn (off := 251) (tgt := 291) d_La_law_40 hv (by decide) (by decide) rfl rfl (h 4 291 rfl)
    · subst e; exact wm_tableIn (off := 276) (tgt := 316) d_La_law_40 hv (by decide) (by decide) rfl rfl (h 5 316 rfl)
    · subst e; exact wm_tableIn (off := 292) (tgt := 332) d_La_law_40 hv (by decide) (by decide) rfl rfl (h 6 332 rfl)
    · subst e; exact wm_tableIn (off := 305) (tgt := 345) d_La_law_40 hv (by decide) (by decide) rfl rfl (h 7 345 rfl)
    · subst e; exact wm_tableIn (off := 318) (tgt := 358) d_La_law_40 hv (by decide) (by decide) rfl rfl (h 8 358 rfl)
    · subst e; exact wm_tableIn (off := 358) (tgt := 398) d_La_law_40 hv (by decide) (by decide) rfl rfl (h 9 398 rfl)
    · subst e; exact wm_tableIn (off := 383) (tgt := 423) d_La_law_40 hv (by decide) (by decide) rfl rfl (h 10 423 rfl)
    · subst e; exact wm_tableIn (off := 408) (tgt := 448) d_La_law_40 hv (by decide) (by decide) rfl rfl (h 11 448 rfl)
    · subst e; exact wm_tableIn (off := 445) (tgt := 485) d_La_law_40 hv (by decide) (by decide) rfl rfl (h 12 485 rfl)
    · subst e; exact wm_tableIn (off := 482) (tgt := 522) d_La_law_40 hv (by decide) (by decide) rfl rfl (h 13 522 rfl)
    · subst e; exact wm_tableIn (off := 543) (tgt := 583) d_La_law_40 hv (by decide) (by decide) rfl rfl (h 14 583 rfl)
    · subst e; exact wm_tableIn (off := 559) (tgt := 599) d_La_law_40 hv (by decide) (by decide) rfl rfl (h 15 599 rfl)
    · subst e; exact wm_tableIn (off := 615) (tgt := 655) d_La_law_40 hv (by decide) (by decide) rfl rfl (h 16 655 rfl)
    · subst e; exact wm_tableIn (off := 652) (tgt := 692) d_La_law_40 hv (by decide) (by decide) rfl rfl (h 17 692 rfl)
    · subst e; exact wm_tableIn (off := 665) (tgt := 705) d_La_law_40 hv (by decide) (by decide) rfl rfl (h 18 705 rfl)
    · subst e; exact wm_tableIn (off := 693) (tgt := 733) d_La_law_40 hv (by decide) (by decide) rfl rfl (h 19 733 rfl)
    · subst e; exact wm_tableIn (off := 730) (tgt := 770) d_La_law_40 hv (by decide) (by decide) rfl rfl (h 20 770 rfl)
    · subst e; exact wm_tableIn (off := 755) (tgt := 795) d_La_law_40 hv (by decide) (by decide) rfl rfl (h 21 795 rfl)
    · subst e; exact wm_tableIn (off := 816) (tgt := 856) d_La_law_40 hv (by decide) (by decide) rfl rfl (h 22 856 rfl)
    · subst e; exact wm_tableIn (off := 853) (tgt := 893) d_La_law_40 hv (by decide) (by decide) rfl rfl (h 23 893 rfl)
    · subst e; exact wm_tableIn (off := 878) (tgt := 918) d_La_law_40 hv (by decide) (by decide) rfl rfl (h 24 918 rfl)
    · subst e; exact wm_tableIn (off := 903) (tgt := 943) d_La_law_40 hv (by decide) (by decide) rfl rfl (h 25 943 rfl)
    · subst e; exact wm_tableIn (off := 940) (tgt := 980) d_La_law_40 hv (by decide) (by decide) rfl rfl (h 26 980 rfl)
/-- one turn of the loop, with a call left -/
theorem la_turn (hs : Scr b N xs M) (hN : N < 2147483648) (hi : 0 ≤ i ∧ i + 6 ≤ N) (hd : mWm G y_La_law (d + 1) 993 (LL b t a o i) [] M Q) (h : ∀ k tg : Nat, lawT[k]? = some tg → mWm G y_La_law (d + 1) tg (LL b t a o i) [] M Q) : mWm G y_La_law (d + 1) 23 (LL b t a o i) [] M Q := by
  refine wm_iload d_La_law_23 rfl ?_
  refine wm_aldO_n d_La_law_25 rfl rfl ?_
  refine wm_alenV d_La_law_26 hs.1 ?_
  refine wm_bipush d_La_law_27 (by decide) ?_
  refine wm_isub d_La_law_29 ?_
  rw [hs.2.1]
  refine wm_icmp_gt (tgt := 999) d_La_law_30 rfl ⟨by omega, by omega⟩ ⟨by omega, by omega⟩ (fun c => absurd c (by omega)) (fun _ => ?_)
  refine wm_aldO_n d_La_law_33 rfl rfl ?_
  refine wm_iload d_La_law_34 rfl ?_
  refine wm_ialdV d_La_law_36 hs.1 ⟨by omega, by rw [hs.2.1]; omega⟩ ?_
  refine wm_bipush d_La_law_37 (by decide) ?_
  refine wm_iand d_La_law_39 ?_
  exact la_in _ i32_and hd h
/-- no call is left -/
theorem la_out (hs : Scr b N xs M) (hN : N < 2147483648) (hi : 0 ≤ i ∧ i < 2147483648 ∧ N < i + 6) (hq : Q (some (vi 1)) M) : mWm G y_La_law (d + 1) 23 (LL b t a o i) [] M Q := by
  refine wm_iload d_La_law_23 rfl ?_
  refine wm_aldO_n d_La_law_25 rfl rfl ?_
  refine wm_alenV d_La_law_26 hs.1 ?_
  refine wm_bipush d_La_law_27 (by decide) ?_
  refine wm_isub d_La_law_29 ?_
  rw [hs.2.1]
  refine wm_icmp_gt (tgt := 999) d_La_law_30 rfl ⟨by omega, by omega⟩ ⟨by omega, by omega⟩ (fun _ => ?_) (fun c => absurd (by omega) c)
  refine wm_iconst d_La_law_999 ?_
  exact wm_ireturn d_La_law_1000 rfl rfl hq
/-- behind an arm -/
theorem la_next (h : mWm G y_La_law (d + 1) 23 (LL b t a o (i + 6)) [] M Q) : LPx G d b t a o i Q M := by
  refine wm_iinc (L' := LL b t a o (i + 6)) d_La_law_993 (by decide) rfl rfl ?_
  exact wm_goto (tgt := 23) d_La_law_996 rfl h
end ARM
