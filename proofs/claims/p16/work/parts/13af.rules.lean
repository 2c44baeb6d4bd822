theorem d_MM_lookAt_0 : decode y_MM_lookAt.2.1 0 = .ok (.aload_n 0, 1) := by decide +kernel
theorem d_MM_lookAt_1 : decode y_MM_lookAt.2.1 1 = .ok (.getfield 38, 3) := by decide +kernel
theorem d_MM_lookAt_4 : decode y_MM_lookAt.2.1 4 = .ok (.getfield 273, 3) := by decide +kernel
theorem d_MM_lookAt_7 : decode y_MM_lookAt.2.1 7 = .ok (.iload_n 1, 1) := by decide +kernel
theorem d_MM_lookAt_8 : decode y_MM_lookAt.2.1 8 = .ok (.invokevirtual 155, 3) := by decide +kernel
theorem d_MM_lookAt_11 : decode y_MM_lookAt.2.1 11 = .ok (.istore_n 3, 1) := by decide +kernel
theorem d_MM_lookAt_12 : decode y_MM_lookAt.2.1 12 = .ok (.aload_n 0, 1) := by decide +kernel
theorem d_MM_lookAt_13 : decode y_MM_lookAt.2.1 13 = .ok (.getfield 38, 3) := by decide +kernel
theorem d_MM_lookAt_16 : decode y_MM_lookAt.2.1 16 = .ok (.getfield 276, 3) := by decide +kernel
theorem d_MM_lookAt_19 : decode y_MM_lookAt.2.1 19 = .ok (.iload_n 1, 1) := by decide +kernel
theorem d_MM_lookAt_20 : decode y_MM_lookAt.2.1 20 = .ok (.invokevirtual 155, 3) := by decide +kernel
theorem d_MM_lookAt_23 : decode y_MM_lookAt.2.1 23 = .ok (.istore 4, 2) := by decide +kernel
theorem d_MM_lookAt_25 : decode y_MM_lookAt.2.1 25 = .ok (.aload_n 0, 1) := by decide +kernel
theorem d_MM_lookAt_26 : decode y_MM_lookAt.2.1 26 = .ok (.iload_n 1, 1) := by decide +kernel
theorem d_MM_lookAt_27 : decode y_MM_lookAt.2.1 27 = .ok (.invokevirtual 344, 3) := by decide +kernel
theorem d_MM_lookAt_30 : decode y_MM_lookAt.2.1 30 = .ok (.istore 5, 2) := by decide +kernel
theorem d_MM_lookAt_32 : decode y_MM_lookAt.2.1 32 = .ok (.aload_n 0, 1) := by decide +kernel
theorem d_MM_lookAt_33 : decode y_MM_lookAt.2.1 33 = .ok (.getfield 57, 3) := by decide +kernel
theorem d_MM_lookAt_36 : decode y_MM_lookAt.2.1 36 = .ok (.getfield 145, 3) := by decide +kernel
theorem d_MM_lookAt_39 : decode y_MM_lookAt.2.1 39 = .ok (.iload 5, 2) := by decide +kernel
theorem d_MM_lookAt_41 : decode y_MM_lookAt.2.1 41 = .ok (.isub, 1) := by decide +kernel
theorem d_MM_lookAt_42 : decode y_MM_lookAt.2.1 42 = .ok (.istore 6, 2) := by decide +kernel
theorem d_MM_lookAt_44 : decode y_MM_lookAt.2.1 44 = .ok (.iconst 0, 1) := by decide +kernel
theorem d_MM_lookAt_45 : decode y_MM_lookAt.2.1 45 = .ok (.istore 7, 2) := by decide +kernel
theorem d_MM_lookAt_47 : decode y_MM_lookAt.2.1 47 = .ok (.iload 6, 2) := by decide +kernel
theorem d_MM_lookAt_49 : decode y_MM_lookAt.2.1 49 = .ok (.istore 8, 2) := by decide +kernel
theorem d_MM_lookAt_51 : decode y_MM_lookAt.2.1 51 = .ok (.iload 8, 2) := by decide +kernel
theorem d_MM_lookAt_53 : decode y_MM_lookAt.2.1 53 = .ok (.aload_n 0, 1) := by decide +kernel
theorem d_MM_lookAt_54 : decode y_MM_lookAt.2.1 54 = .ok (.getfield 57, 3) := by decide +kernel
theorem d_MM_lookAt_57 : decode y_MM_lookAt.2.1 57 = .ok (.getfield 145, 3) := by decide +kernel
theorem d_MM_lookAt_60 : decode y_MM_lookAt.2.1 60 = .ok (.if_icmp .ge 23, 3) := by decide +kernel
theorem d_MM_lookAt_83 : decode y_MM_lookAt.2.1 83 = .ok (.iconst 1, 1) := by decide +kernel
theorem d_MM_lookAt_84 : decode y_MM_lookAt.2.1 84 = .ok (.istore 8, 2) := by decide +kernel
theorem d_MM_lookAt_86 : decode y_MM_lookAt.2.1 86 = .ok (.iconst 0, 1) := by decide +kernel
theorem d_MM_lookAt_87 : decode y_MM_lookAt.2.1 87 = .ok (.istore 9, 2) := by decide +kernel
theorem d_MM_lookAt_89 : decode y_MM_lookAt.2.1 89 = .ok (.iload_n 3, 1) := by decide +kernel
theorem d_MM_lookAt_63 : decode y_MM_lookAt.2.1 63 = .ok (.iload 7, 2) := by decide +kernel
theorem d_MM_lookAt_65 : decode y_MM_lookAt.2.1 65 = .ok (.aload_n 0, 1) := by decide +kernel
theorem d_MM_lookAt_66 : decode y_MM_lookAt.2.1 66 = .ok (.getfield 57, 3) := by decide +kernel
theorem d_MM_lookAt_69 : decode y_MM_lookAt.2.1 69 = .ok (.iload 8, 2) := by decide +kernel
theorem d_MM_lookAt_90 : decode y_MM_lookAt.2.1 90 = .ok (.tableswitch 258 1 32 #[151, 142, 258, 258, 258, 258, 258, 258, 258, 258, 258, 145, 145, 258, 258, 258, 258, 182, 258, 258, 258, 258, 182, 258, 258, 258, 258, 258, 162, 162, 162, 201], 142) := by decide +kernel
theorem d_MM_lookAt_241 : decode y_MM_lookAt.2.1 241 = .ok (.aload_n 0, 1) := by decide +kernel
theorem d_MM_lookAt_242 : decode y_MM_lookAt.2.1 242 = .ok (.iload_n 1, 1) := by decide +kernel
theorem d_MM_lookAt_243 : decode y_MM_lookAt.2.1 243 = .ok (.iload_n 2, 1) := by decide +kernel
theorem d_MM_lookAt_244 : decode y_MM_lookAt.2.1 244 = .ok (.invokevirtual 347, 3) := by decide +kernel
theorem d_MM_lookAt_247 : decode y_MM_lookAt.2.1 247 = .ok (.istore 9, 2) := by decide +kernel
theorem d_MM_lookAt_249 : decode y_MM_lookAt.2.1 249 = .ok (.goto 125, 3) := by decide +kernel
theorem d_MM_lookAt_374 : decode y_MM_lookAt.2.1 374 = .ok (.iload 8, 2) := by decide +kernel
theorem d_MM_lookAt_376 : decode y_MM_lookAt.2.1 376 = .ok (.ifCond .ne 10, 3) := by decide +kernel
theorem d_MM_lookAt_379 : decode y_MM_lookAt.2.1 379 = .ok (.aload_n 0, 1) := by decide +kernel
theorem d_MM_lookAt_380 : decode y_MM_lookAt.2.1 380 = .ok (.iconst 3, 1) := by decide +kernel
theorem d_MM_lookAt_381 : decode y_MM_lookAt.2.1 381 = .ok (.iload 4, 2) := by decide +kernel
theorem d_MM_lookAt_383 : decode y_MM_lookAt.2.1 383 = .ok (.invokevirtual 351, 3) := by decide +kernel
theorem d_MM_lookAt_232 : decode y_MM_lookAt.2.1 232 = .ok (.goto 142, 3) := by decide +kernel
theorem d_MM_lookAt_235 : decode y_MM_lookAt.2.1 235 = .ok (.iconst 1, 1) := by decide +kernel
theorem d_MM_lookAt_236 : decode y_MM_lookAt.2.1 236 = .ok (.istore 9, 2) := by decide +kernel
theorem d_MM_lookAt_238 : decode y_MM_lookAt.2.1 238 = .ok (.goto 136, 3) := by decide +kernel
theorem d_MM_lookAt_272 : decode y_MM_lookAt.2.1 272 = .ok (.iload 7, 2) := by decide +kernel
theorem d_MM_lookAt_274 : decode y_MM_lookAt.2.1 274 = .ok (.iconst 1, 1) := by decide +kernel
theorem d_MM_lookAt_275 : decode y_MM_lookAt.2.1 275 = .ok (.if_icmp .eq 7, 3) := by decide +kernel
theorem d_MM_lookAt_282 : decode y_MM_lookAt.2.1 282 = .ok (.iconst 0, 1) := by decide +kernel
theorem d_MM_lookAt_278 : decode y_MM_lookAt.2.1 278 = .ok (.iconst 1, 1) := by decide +kernel
theorem d_MM_lookAt_279 : decode y_MM_lookAt.2.1 279 = .ok (.goto 4, 3) := by decide +kernel
theorem d_MM_lookAt_283 : decode y_MM_lookAt.2.1 283 = .ok (.istore 8, 2) := by decide +kernel
theorem d_MM_lookAt_285 : decode y_MM_lookAt.2.1 285 = .ok (.iconst 1, 1) := by decide +kernel
theorem d_MM_lookAt_286 : decode y_MM_lookAt.2.1 286 = .ok (.istore 9, 2) := by decide +kernel
theorem d_MM_lookAt_288 : decode y_MM_lookAt.2.1 288 = .ok (.goto 86, 3) := by decide +kernel
theorem d_MM_lookAt_252 : decode y_MM_lookAt.2.1 252 = .ok (.iload 7, 2) := by decide +kernel
theorem d_MM_lookAt_254 : decode y_MM_lookAt.2.1 254 = .ok (.iload 5, 2) := by decide +kernel
theorem d_MM_lookAt_256 : decode y_MM_lookAt.2.1 256 = .ok (.if_icmp .ne 7, 3) := by decide +kernel
theorem d_MM_lookAt_259 : decode y_MM_lookAt.2.1 259 = .ok (.iconst 1, 1) := by decide +kernel
theorem d_MM_lookAt_260 : decode y_MM_lookAt.2.1 260 = .ok (.goto 4, 3) := by decide +kernel
theorem d_MM_lookAt_263 : decode y_MM_lookAt.2.1 263 = .ok (.iconst 0, 1) := by decide +kernel
theorem d_MM_lookAt_264 : decode y_MM_lookAt.2.1 264 = .ok (.istore 8, 2) := by decide +kernel
theorem d_MM_lookAt_266 : decode y_MM_lookAt.2.1 266 = .ok (.iconst 1, 1) := by decide +kernel
theorem d_MM_lookAt_267 : decode y_MM_lookAt.2.1 267 = .ok (.istore 9, 2) := by decide +kernel
theorem d_MM_lookAt_269 : decode y_MM_lookAt.2.1 269 = .ok (.goto 105, 3) := by decide +kernel
theorem d_MM_lookAt_291 : decode y_MM_lookAt.2.1 291 = .ok (.aload_n 0, 1) := by decide +kernel
theorem d_MM_lookAt_292 : decode y_MM_lookAt.2.1 292 = .ok (.getfield 57, 3) := by decide +kernel
theorem d_MM_lookAt_295 : decode y_MM_lookAt.2.1 295 = .ok (.iload 6, 2) := by decide +kernel
theorem d_MM_lookAt_297 : decode y_MM_lookAt.2.1 297 = .ok (.invokevirtual 155, 3) := by decide +kernel
theorem d_MM_lookAt_300 : decode y_MM_lookAt.2.1 300 = .ok (.iconst 1, 1) := by decide +kernel
theorem d_MM_lookAt_301 : decode y_MM_lookAt.2.1 301 = .ok (.if_icmp .ne 32, 3) := by decide +kernel
theorem d_MM_lookAt_304 : decode y_MM_lookAt.2.1 304 = .ok (.aload_n 0, 1) := by decide +kernel
theorem d_MM_lookAt_305 : decode y_MM_lookAt.2.1 305 = .ok (.getfield 57, 3) := by decide +kernel
theorem d_MM_lookAt_308 : decode y_MM_lookAt.2.1 308 = .ok (.iload 6, 2) := by decide +kernel
theorem d_MM_lookAt_310 : decode y_MM_lookAt.2.1 310 = .ok (.iconst 1, 1) := by decide +kernel
theorem d_MM_lookAt_311 : decode y_MM_lookAt.2.1 311 = .ok (.iadd, 1) := by decide +kernel
theorem d_MM_lookAt_312 : decode y_MM_lookAt.2.1 312 = .ok (.invokevirtual 155, 3) := by decide +kernel
theorem d_MM_lookAt_315 : decode y_MM_lookAt.2.1 315 = .ok (.aload_n 0, 1) := by decide +kernel
theorem d_MM_lookAt_316 : decode y_MM_lookAt.2.1 316 = .ok (.getfield 57, 3) := by decide +kernel
theorem d_MM_lookAt_319 : decode y_MM_lookAt.2.1 319 = .ok (.iload 6, 2) := by decide +kernel
theorem d_MM_lookAt_321 : decode y_MM_lookAt.2.1 321 = .ok (.iconst 2, 1) := by decide +kernel
theorem d_MM_lookAt_322 : decode y_MM_lookAt.2.1 322 = .ok (.iadd, 1) := by decide +kernel
theorem d_MM_lookAt_323 : decode y_MM_lookAt.2.1 323 = .ok (.invokevirtual 155, 3) := by decide +kernel
theorem d_MM_lookAt_326 : decode y_MM_lookAt.2.1 326 = .ok (.if_icmp .ne 7, 3) := by decide +kernel
theorem d_MM_lookAt_329 : decode y_MM_lookAt.2.1 329 = .ok (.iconst 1, 1) := by decide +kernel
theorem d_MM_lookAt_330 : decode y_MM_lookAt.2.1 330 = .ok (.goto 4, 3) := by decide +kernel
theorem d_MM_lookAt_333 : decode y_MM_lookAt.2.1 333 = .ok (.iconst 0, 1) := by decide +kernel
theorem d_MM_lookAt_348 : decode y_MM_lookAt.2.1 348 = .ok (.iload 7, 2) := by decide +kernel
theorem d_MM_lookAt_350 : decode y_MM_lookAt.2.1 350 = .ok (.ifCond .ne 7, 3) := by decide +kernel
theorem d_MM_lookAt_353 : decode y_MM_lookAt.2.1 353 = .ok (.iconst 1, 1) := by decide +kernel
theorem d_MM_lookAt_354 : decode y_MM_lookAt.2.1 354 = .ok (.goto 4, 3) := by decide +kernel
theorem d_MM_lookAt_357 : decode y_MM_lookAt.2.1 357 = .ok (.iconst 0, 1) := by decide +kernel
theorem d_MM_lookAt_358 : decode y_MM_lookAt.2.1 358 = .ok (.istore 8, 2) := by decide +kernel
theorem d_MM_lookAt_360 : decode y_MM_lookAt.2.1 360 = .ok (.iload_n 3, 1) := by decide +kernel
theorem d_MM_lookAt_361 : decode y_MM_lookAt.2.1 361 = .ok (.invokestatic 261, 3) := by decide +kernel
theorem d_MM_lookAt_364 : decode y_MM_lookAt.2.1 364 = .ok (.ifCond .eq 7, 3) := by decide +kernel
theorem d_MM_lookAt_371 : decode y_MM_lookAt.2.1 371 = .ok (.iconst 0, 1) := by decide +kernel
theorem d_MM_lookAt_367 : decode y_MM_lookAt.2.1 367 = .ok (.iconst 1, 1) := by decide +kernel
theorem d_MM_lookAt_368 : decode y_MM_lookAt.2.1 368 = .ok (.goto 4, 3) := by decide +kernel
theorem d_MM_lookAt_372 : decode y_MM_lookAt.2.1 372 = .ok (.istore 9, 2) := by decide +kernel
theorem d_MM_lookAt_71 : decode y_MM_lookAt.2.1 71 = .ok (.invokevirtual 155, 3) := by decide +kernel
theorem d_MM_lookAt_74 : decode y_MM_lookAt.2.1 74 = .ok (.iadd, 1) := by decide +kernel
theorem d_MM_lookAt_75 : decode y_MM_lookAt.2.1 75 = .ok (.istore 7, 2) := by decide +kernel
theorem d_MM_lookAt_77 : decode y_MM_lookAt.2.1 77 = .ok (.iinc 8 1, 3) := by decide +kernel
theorem d_MM_lookAt_80 : decode y_MM_lookAt.2.1 80 = .ok (.goto (-29), 3) := by decide +kernel
theorem d_MM_lookAt_334 : decode y_MM_lookAt.2.1 334 = .ok (.istore 8, 2) := by decide +kernel
theorem d_MM_lookAt_336 : decode y_MM_lookAt.2.1 336 = .ok (.aload_n 0, 1) := by decide +kernel
theorem d_MM_lookAt_337 : decode y_MM_lookAt.2.1 337 = .ok (.getfield 57, 3) := by decide +kernel
theorem d_MM_lookAt_340 : decode y_MM_lookAt.2.1 340 = .ok (.invokevirtual 341, 3) := by decide +kernel
theorem d_MM_lookAt_343 : decode y_MM_lookAt.2.1 343 = .ok (.istore 9, 2) := by decide +kernel
theorem d_MM_lookAt_345 : decode y_MM_lookAt.2.1 345 = .ok (.goto 29, 3) := by decide +kernel
theorem d_MM_lookAt_386 : decode y_MM_lookAt.2.1 386 = .ok (.aload_n 0, 1) := by decide +kernel
theorem d_MM_lookAt_387 : decode y_MM_lookAt.2.1 387 = .ok (.getfield 57, 3) := by decide +kernel
theorem d_MM_lookAt_390 : decode y_MM_lookAt.2.1 390 = .ok (.iload 6, 2) := by decide +kernel
theorem d_MM_lookAt_392 : decode y_MM_lookAt.2.1 392 = .ok (.putfield 145, 3) := by decide +kernel
theorem d_MM_lookAt_395 : decode y_MM_lookAt.2.1 395 = .ok (.aload_n 0, 1) := by decide +kernel
theorem d_MM_lookAt_396 : decode y_MM_lookAt.2.1 396 = .ok (.getfield 57, 3) := by decide +kernel
theorem d_MM_lookAt_399 : decode y_MM_lookAt.2.1 399 = .ok (.iload 9, 2) := by decide +kernel
theorem d_MM_lookAt_401 : decode y_MM_lookAt.2.1 401 = .ok (.invokevirtual 152, 3) := by decide +kernel
theorem d_MM_lookAt_404 : decode y_MM_lookAt.2.1 404 = .ok (.return_, 1) := by decide +kernel
def h_MM_lookAt_51 (G : mG) (d : Nat) (a0 : Nat) (l1 : Int) (l2 : Int) (l3 : Int) (l4 : Int) (l5 : Int) (l6 : Int) (l7 : Int) (l8 : Int) (M : mM) (Q : mM → Prop) : Prop := mWm G y_MM_lookAt (d + 1) 51 [vr a0, vi l1, vi l2, vi l3, vi l4, vi l5, vi l6, vi l7, vi l8, vd] [] M (fun r9 M9 => r9 = none ∧ Q M9)
def h_MM_lookAt_334 (G : mG) (d : Nat) (a0 : Nat) (l4 : Int) (l6 : Int) (k0 : Int) (M : mM) (Q : mM → Prop) : Prop := mWm G y_MM_lookAt (d + 1) 334 [vr a0, vd, vd, vd, vi l4, vd, vi l6, vd, vd, vd] [vi k0] M (fun r9 M9 => r9 = none ∧ Q M9)
def h_MM_lookAt_386 (G : mG) (d : Nat) (a0 : Nat) (l6 : Int) (l9 : Int) (M : mM) (Q : mM → Prop) : Prop := mWm G y_MM_lookAt (d + 1) 386 [vr a0, vd, vd, vd, vd, vd, vi l6, vd, vd, vi l9] [] M (fun r9 M9 => r9 = none ∧ Q M9)
theorem k_MM_lookAt {G : mG} {d : Nat} {a0 : Nat} {l1 : Int} {l2 : Int} {M : mM} {Q : mM → Prop} (hO : mOk M) (hi_l1 : i32 l1) (hi_l2 : i32 l2)
    (h : mK M a0 = 14 ∧ mK M (mR M a0 10) = 16 ∧ mK M (mR M (mR M a0 10) 0) = 15 ∧ Ci G y_MN_at d [vr (mR M (mR M a0 10) 0), vi l1] M (fun x5 M4 => i32 x5 ∧ mOk M4 ∧ (mK M4 a0 = 14 ∧ mK M4 (mR M4 a0 10) = 16 ∧ mK M4 (mR M4 (mR M4 a0 10) 1) = 15 ∧ Ci G y_MN_at d [vr (mR M4 (mR M4 a0 10) 1), vi l1] M4 (fun x11 M10 => i32 x11 ∧ mOk M10 ∧ (mK M10 a0 = 14 ∧ Ci G y_MM_parts d [vr a0, vi l1] M10 (fun x15 M14 => i32 x15 ∧ mOk M14 ∧ (mK M14 a0 = 14 ∧ mK M14 (mR M14 a0 19) = 15 ∧ h_MM_lookAt_51 G d a0 l1 l2 x5 x11 x15 ((mI M14 (mR M14 a0 19) 1) - x15) 0 ((mI M14 (mR M14 a0 19) 1) - x15) M14 Q))))))) :
    Cv G y_MM_lookAt (d + 1) [vr a0, vi l1, vi l2] M Q := by
  refine wm_open (y := y_MM_lookAt) rfl (Nat.le_of_ble_eq_true rfl) (L := [vr a0, vi l1, vi l2, vd, vd, vd, vd, vd, vd, vd]) rfl ?_
  obtain ⟨h1, h⟩ := h
  obtain ⟨h2, h⟩ := h
  obtain ⟨h3, h⟩ := h
  refine wm_aload_n d_MM_lookAt_0 rfl rfl ?_
  refine gf_MM_38 rfl d_MM_lookAt_1 h1 ?_
  refine gf_MM_273 rfl d_MM_lookAt_4 h2 ?_
  refine wm_iload_n d_MM_lookAt_7 rfl rfl ?_
  refine cf_MM_155 rfl d_MM_lookAt_8 h3 (Nat.le_of_ble_eq_true rfl) (Ci.mono h (fun x5 M4 h => ?_))
  obtain ⟨h6, hOM4, h⟩ := h
  obtain ⟨h7, h⟩ := h
  obtain ⟨h8, h⟩ := h
  obtain ⟨h9, h⟩ := h
  refine wm_istore_n d_MM_lookAt_11 rfl (by decide) (L' := [vr a0, vi l1, vi l2, vi x5, vd, vd, vd, vd, vd, vd]) rfl ?_
  refine wm_aload_n d_MM_lookAt_12 rfl rfl ?_
  refine gf_MM_38 rfl d_MM_lookAt_13 h7 ?_
  refine gf_MM_276 rfl d_MM_lookAt_16 h8 ?_
  refine wm_iload_n d_MM_lookAt_19 rfl rfl ?_
  refine cf_MM_155 rfl d_MM_lookAt_20 h9 (Nat.le_of_ble_eq_true rfl) (Ci.mono h (fun x11 M10 h => ?_))
  obtain ⟨h12, hOM10, h⟩ := h
  obtain ⟨h13, h⟩ := h
  refine wm_istore d_MM_lookAt_23 (by decide) (L' := [vr a0, vi l1, vi l2, vi x5, vi x11, vd, vd, vd, vd, vd]) rfl ?_
  refine wm_aload_n d_MM_lookAt_25 rfl rfl ?_
  refine wm_iload_n d_MM_lookAt_26 rfl rfl ?_
  refine cf_MM_344 rfl d_MM_lookAt_27 h13 (Nat.le_of_ble_eq_true rfl) (Ci.mono h (fun x15 M14 h => ?_))
  obtain ⟨h16, hOM14, h⟩ := h
  obtain ⟨h17, h⟩ := h
  obtain ⟨h18, h⟩ := h
  refine wm_istore d_MM_lookAt_30 (by decide) (L' := [vr a0, vi l1, vi l2, vi x5, vi x11, vi x15, vd, vd, vd, vd]) rfl ?_
  refine wm_aload_n d_MM_lookAt_32 rfl rfl ?_
  refine gf_MM_57 rfl d_MM_lookAt_33 h17 ?_
  refine gf_MM_145 rfl d_MM_lookAt_36 h18 ?_
  refine wm_iload d_MM_lookAt_39 rfl ?_
  refine wm_isub d_MM_lookAt_41 ?_
  refine wm_istore d_MM_lookAt_42 (by decide) (L' := [vr a0, vi l1, vi l2, vi x5, vi x11, vi x15, vi ((mI M14 (mR M14 a0 19) 1) - x15), vd, vd, vd]) rfl ?_
  refine wm_iconst d_MM_lookAt_44 ?_
  refine wm_istore d_MM_lookAt_45 (by decide) (L' := [vr a0, vi l1, vi l2, vi x5, vi x11, vi x15, vi ((mI M14 (mR M14 a0 19) 1) - x15), vi 0, vd, vd]) rfl ?_
  refine wm_iload d_MM_lookAt_47 rfl ?_
  refine wm_istore d_MM_lookAt_49 (by decide) (L' := [vr a0, vi l1, vi l2, vi x5, vi x11, vi x15, vi ((mI M14 (mR M14 a0 19) 1) - x15), vi 0, vi ((mI M14 (mR M14 a0 19) 1) - x15), vd]) rfl ?_
  exact h
theorem k_MM_lookAt_51 {G : mG} {d : Nat} {a0 : Nat} {l1 : Int} {l2 : Int} {l3 : Int} {l4 : Int} {l5 : Int} {l6 : Int} {l7 : Int} {l8 : Int} {M : mM} {Q : mM → Prop} (hO : mOk M) (hi_l1 : i32 l1) (hi_l2 : i32 l2) (hi_l3 : i32 l3) (hi_l4 : i32 l4) (hi_l5 : i32 l5) (hi_l6 : i32 l6) (hi_l7 : i32 l7) (hi_l8 : i32 l8)
    (h : mK M a0 = 14 ∧ mK M (mR M a0 19) = 15 ∧ ((mI M (mR M a0 19) 1 ≤ l8) → (((l3 = 1) → (Ci G y_MM_lookUp d [vr a0, vi l1, vi l2] M (fun x27 M26 => i32 x27 ∧ mOk M26 ∧ ((((1 : Int) = 0) → (mK M26 a0 = 14 ∧ Cv G y_MM_stop d [vr a0, vi 3, vi l4] M26 (fun M32 => mOk M32 ∧ (h_MM_lookAt_386 G d a0 l6 x27 M32 Q)))) ∧ (¬ ((1 : Int) = 0) → (h_MM_lookAt_386 G d a0 l6 x27 M26 Q)))))) ∧ (¬ (l3 = 1) → (((l3 = 2) → ((((1 : Int) = 0) → (Cv G y_MM_stop d [vr a0, vi 3, vi l4] M (fun M39 => mOk M39 ∧ (h_MM_lookAt_386 G d a0 l6 0 M39 Q)))) ∧ (¬ ((1 : Int) = 0) → (h_MM_lookAt_386 G d a0 l6 0 M Q)))) ∧ (¬ (l3 = 2) → (((l3 = 12 ∨ l3 = 13) → ((((1 : Int) = 0) → (Cv G y_MM_stop d [vr a0, vi 3, vi l4] M (fun M46 => mOk M46 ∧ (h_MM_lookAt_386 G d a0 l6 1 M46 Q)))) ∧ (¬ ((1 : Int) = 0) → (h_MM_lookAt_386 G d a0 l6 1 M Q)))) ∧ (¬ (l3 = 12 ∨ l3 = 13) → (((l3 = 18 ∨ l3 = 23) → (∀ v52 : Int, v52 = (if (l7 = 1) then 0 else 1) → ((v52 = 0) → (Cv G y_MM_stop d [vr a0, vi 3, vi l4] M (fun M59 => mOk M59 ∧ (h_MM_lookAt_386 G d a0 l6 1 M59 Q)))) ∧ (¬ (v52 = 0) → (h_MM_lookAt_386 G d a0 l6 1 M Q)))) ∧ (¬ (l3 = 18 ∨ l3 = 23) → (((l3 = 29 ∨ l3 = 30 ∨ l3 = 31) → (∀ v66 : Int, v66 = (if (l7 = l5) then 1 else 0) → ((v66 = 0) → (Cv G y_MM_stop d [vr a0, vi 3, vi l4] M (fun M73 => mOk M73 ∧ (h_MM_lookAt_386 G d a0 l6 1 M73 Q)))) ∧ (¬ (v66 = 0) → (h_MM_lookAt_386 G d a0 l6 1 M Q)))) ∧ (¬ (l3 = 29 ∨ l3 = 30 ∨ l3 = 31) → (((l3 = 32) → (Ci G y_MN_at d [vr (mR M a0 19), vi l6] M (fun x80 M79 => i32 x80 ∧ mOk M79 ∧ (((x80 = 1) → (mK M79 a0 = 14 ∧ mK M79 (mR M79 a0 19) = 15 ∧ Ci G y_MN_at d [vr (mR M79 a0 19), vi (l6 + 1)] M79 (fun x87 M86 => i32 x87 ∧ mOk M86 ∧ (mK M86 a0 = 14 ∧ mK M86 (mR M86 a0 19) = 15 ∧ Ci G y_MN_at d [vr (mR M86 a0 19), vi (l6 + 2)] M86 (fun x92 M91 => i32 x92 ∧ mOk M91 ∧ (((x87 = x92) → (h_MM_lookAt_334 G d a0 l4 l6 1 M91 Q)) ∧ (¬ (x87 = x92) → (h_MM_lookAt_334 G d a0 l4 l6 0 M91 Q)))))))) ∧ (¬ (x80 = 1) → (h_MM_lookAt_334 G d a0 l4 l6 0 M79 Q)))))) ∧ (¬ (l3 = 32) → (∀ v97 : Int, v97 = (if (l7 = 0) then 1 else 0) → Ci G y_MM_isComparison d [vi l3] M (fun x103 M102 => i32 x103 ∧ mOk M102 ∧ (∀ v106 : Int, v106 = (if (x103 = 0) then 0 else 1) → ((v97 = 0) → (mK M102 a0 = 14 ∧ Cv G y_MM_stop d [vr a0, vi 3, vi l4] M102 (fun M114 => mOk M114 ∧ (h_MM_lookAt_386 G d a0 l6 v106 M114 Q)))) ∧ (¬ (v97 = 0) → (h_MM_lookAt_386 G d a0 l6 v106 M102 Q)))))))))))))))))) ∧ (¬ (mI M (mR M a0 19) 1 ≤ l8) → (Ci G y_MN_at d [vr (mR M a0 19), vi l8] M (fun x120 M119 => i32 x120 ∧ mOk M119 ∧ (h_MM_lookAt_51 G d a0 l1 l2 l3 l4 l5 l6 (l7 + x120) (l8 + 1) M119 Q))))) :
    h_MM_lookAt_51 G d a0 l1 l2 l3 l4 l5 l6 l7 l8 M Q := by
  unfold h_MM_lookAt_51
  obtain ⟨h19, h⟩ := h
  obtain ⟨h20, h⟩ := h
  refine wm_iload d_MM_lookAt_51 rfl ?_
  refine wm_aload_n d_MM_lookAt_53 rfl rfl ?_
  refine gf_MM_57 rfl d_MM_lookAt_54 h19 ?_
  refine gf_MM_145 rfl d_MM_lookAt_57 h20 ?_
  refine wm_icmp_ge (tgt := 83) d_MM_lookAt_60 rfl hi_l8 (hO _ _).1 (fun c22 => ?_) (fun c22 => ?_)
  · replace h := h.1 c22
    refine wm_iconst d_MM_lookAt_83 ?_
    refine wm_istore d_MM_lookAt_84 (by decide) (L' := [vr a0, vi l1, vi l2, vi l3, vi l4, vi l5, vi l6, vi l7, vi 1, vd]) rfl ?_
    refine wm_iconst d_MM_lookAt_86 ?_
    refine wm_istore d_MM_lookAt_87 (by decide) (L' := [vr a0, vi l1, vi l2, vi l3, vi l4, vi l5, vi l6, vi l7, vi 1, vi 0]) rfl ?_
    refine wm_iload_n d_MM_lookAt_89 rfl rfl ?_
    by_cases c25 : l3 = 1
    · replace h := h.1 c25
      refine wm_tableIn (tgt := 241) (off := 151) d_MM_lookAt_90 hi_l3 (by omega) (by omega) (by rw [c25]; rfl) rfl ?_
      refine wm_aload_n d_MM_lookAt_241 rfl rfl ?_
      refine wm_iload_n d_MM_lookAt_242 rfl rfl ?_
      refine wm_iload_n d_MM_lookAt_243 rfl rfl ?_
      refine cf_MM_347 rfl d_MM_lookAt_244 h19 (Nat.le_of_ble_eq_true rfl) (Ci.mono h (fun x27 M26 h => ?_))
      obtain ⟨h28, hOM26, h⟩ := h
      refine wm_istore d_MM_lookAt_247 (by decide) (L' := [vr a0, vi l1, vi l2, vi l3, vi l4, vi l5, vi l6, vi l7, vi 1, vi x27]) rfl ?_
      refine wm_goto (tgt := 374) d_MM_lookAt_249 rfl ?_
      refine wm_iload d_MM_lookAt_374 rfl ?_
      refine wm_if_ne (tgt := 386) d_MM_lookAt_376 rfl ⟨by decide, by decide⟩ (fun c30 => ?_) (fun c30 => ?_)
      · replace h := h.2 c30
        refine wm_less (L' := [vr a0, vd, vd, vd, vd, vd, vi l6, vd, vd, vi x27]) ⟨Or.inr rfl, Or.inl rfl, Or.inl rfl, Or.inl rfl, Or.inl rfl, Or.inl rfl, Or.inr rfl, Or.inl rfl, Or.inl rfl, Or.inr rfl, trivial⟩ ?_
        exact h
      · replace c30 := Classical.not_not.mp c30
        replace h := h.1 c30
        obtain ⟨h31, h⟩ := h
        refine wm_aload_n d_MM_lookAt_379 rfl rfl ?_
        refine wm_iconst d_MM_lookAt_380 ?_
        refine wm_iload d_MM_lookAt_381 rfl ?_
        refine cf_MM_351 rfl d_MM_lookAt_383 h31 (Nat.le_of_ble_eq_true rfl) (Cv.mono h (fun M32 h => ?_))
        obtain ⟨hOM32, h⟩ := h
        refine wm_less (L' := [vr a0, vd, vd, vd, vd, vd, vi l6, vd, vd, vi x27]) ⟨Or.inr rfl, Or.inl rfl, Or.inl rfl, Or.inl rfl, Or.inl rfl, Or.inl rfl, Or.inr rfl, Or.inl rfl, Or.inl rfl, Or.inr rfl, trivial⟩ ?_
        exact h
    · replace h := h.2 c25
      by_cases c36 : l3 = 2
      · replace h := h.1 c36
        refine wm_tableIn (tgt := 232) (off := 142) d_MM_lookAt_90 hi_l3 (by omega) (by omega) (by rw [c36]; rfl) rfl ?_
        refine wm_goto (tgt := 374) d_MM_lookAt_232 rfl ?_
        refine wm_iload d_MM_lookAt_374 rfl ?_
        refine wm_if_ne (tgt := 386) d_MM_lookAt_376 rfl ⟨by decide, by decide⟩ (fun c38 => ?_) (fun c38 => ?_)
        · replace h := h.2 c38
          refine wm_less (L' := [vr a0, vd, vd, vd, vd, vd, vi l6, vd, vd, vi 0]) ⟨Or.inr rfl, Or.inl rfl, Or.inl rfl, Or.inl rfl, Or.inl rfl, Or.inl rfl, Or.inr rfl, Or.inl rfl, Or.inl rfl, Or.inr rfl, trivial⟩ ?_
          exact h
        · replace c38 := Classical.not_not.mp c38
          replace h := h.1 c38
          refine wm_aload_n d_MM_lookAt_379 rfl rfl ?_
          refine wm_iconst d_MM_lookAt_380 ?_
          refine wm_iload d_MM_lookAt_381 rfl ?_
          refine cf_MM_351 rfl d_MM_lookAt_383 h19 (Nat.le_of_ble_eq_true rfl) (Cv.mono h (fun M39 h => ?_))
          obtain ⟨hOM39, h⟩ := h
          refine wm_less (L' := [vr a0, vd, vd, vd, vd, vd, vi l6, vd, vd, vi 0]) ⟨Or.inr rfl, Or.inl rfl, Or.inl rfl, Or.inl rfl, Or.inl rfl, Or.inl rfl, Or.inr rfl, Or.inl rfl, Or.inl rfl, Or.inr rfl, trivial⟩ ?_
          exact h
      · replace h := h.2 c36
        by_cases c43 : l3 = 12 ∨ l3 = 13
        · replace h := h.1 c43
          refine wm_tableIn (tgt := 235) (off := 145) d_MM_lookAt_90 hi_l3 (by omega) (by omega) (by rcases c43 with q9 | q9 <;> (rw [q9]; rfl)) rfl ?_
          refine wm_iconst d_MM_lookAt_235 ?_
          refine wm_istore d_MM_lookAt_236 (by decide) (L' := [vr a0, vi l1, vi l2, vi l3, vi l4, vi l5, vi l6, vi l7, vi 1, vi 1]) rfl ?_
          refine wm_goto (tgt := 374) d_MM_lookAt_238 rfl ?_
          refine wm_iload d_MM_lookAt_374 rfl ?_
          refine wm_if_ne (tgt := 386) d_MM_lookAt_376 rfl ⟨by decide, by decide⟩ (fun c45 => ?_) (fun c45 => ?_)
          · replace h := h.2 c45
            refine wm_less (L' := [vr a0, vd, vd, vd, vd, vd, vi l6, vd, vd, vi 1]) ⟨Or.inr rfl, Or.inl rfl, Or.inl rfl, Or.inl rfl, Or.inl rfl, Or.inl rfl, Or.inr rfl, Or.inl rfl, Or.inl rfl, Or.inr rfl, trivial⟩ ?_
            exact h
          · replace c45 := Classical.not_not.mp c45
            replace h := h.1 c45
            refine wm_aload_n d_MM_lookAt_379 rfl rfl ?_
            refine wm_iconst d_MM_lookAt_380 ?_
            refine wm_iload d_MM_lookAt_381 rfl ?_
            refine cf_MM_351 rfl d_MM_lookAt_383 h19 (Nat.le_of_ble_eq_true rfl) (Cv.mono h (fun M46 h => ?_))
            obtain ⟨hOM46, h⟩ := h
            refine wm_less (L' := [vr a0, vd, vd, vd, vd, vd, vi l6, vd, vd, vi 1]) ⟨Or.inr rfl, Or.inl rfl, Or.inl rfl, Or.inl rfl, Or.inl rfl, Or.inl rfl, Or.inr rfl, Or.inl rfl, Or.inl rfl, Or.inr rfl, trivial⟩ ?_
            exact h
        · replace h := h.2 c43
          by_cases c50 : l3 = 18 ∨ l3 = 23
          · replace h := h.1 c50
            refine wm_tableIn (tgt := 272) (off := 182) d_MM_lookAt_90 hi_l3 (by omega) (by omega) (by rcases c50 with q9 | q9 <;> (rw [q9]; rfl)) rfl ?_
            refine wm_iload d_MM_lookAt_272 rfl ?_
            refine wm_iconst d_MM_lookAt_274 ?_
            have hJ : ∀ v52 : Int, v52 = (if (l7 = 1) then 0 else 1) → mWm G y_MM_lookAt (d + 1) 283 [vr a0, vd, vd, vd, vi l4, vd, vi l6, vd, vd, vd] [vi v52] M (fun r9 M9 => r9 = none ∧ Q M9) := by
              intro v52 e54
              have h := h v52 e54
              have h55 : i32 v52 := by rw [e54]; (repeat' split) <;> first | exact ⟨by decide, by decide⟩ | exact ⟨by decide, by decide⟩
              have h56 : (v52 = 0 ∨ v52 = 1) := by rw [e54]; (repeat' split) <;> decide
              refine wm_istore d_MM_lookAt_283 (by decide) (L' := [vr a0, vd, vd, vd, vi l4, vd, vi l6, vd, vi v52, vd]) rfl ?_
              refine wm_iconst d_MM_lookAt_285 ?_
              refine wm_istore d_MM_lookAt_286 (by decide) (L' := [vr a0, vd, vd, vd, vi l4, vd, vi l6, vd, vi v52, vi 1]) rfl ?_
              refine wm_goto (tgt := 374) d_MM_lookAt_288 rfl ?_
              refine wm_iload d_MM_lookAt_374 rfl ?_
              refine wm_if_ne (tgt := 386) d_MM_lookAt_376 rfl h55 (fun c58 => ?_) (fun c58 => ?_)
              · replace h := h.2 c58
                refine wm_less (L' := [vr a0, vd, vd, vd, vd, vd, vi l6, vd, vd, vi 1]) ⟨Or.inr rfl, Or.inl rfl, Or.inl rfl, Or.inl rfl, Or.inl rfl, Or.inl rfl, Or.inr rfl, Or.inl rfl, Or.inl rfl, Or.inr rfl, trivial⟩ ?_
                exact h
              · replace c58 := Classical.not_not.mp c58
                replace h := h.1 c58
                refine wm_aload_n d_MM_lookAt_379 rfl rfl ?_
                refine wm_iconst d_MM_lookAt_380 ?_
                refine wm_iload d_MM_lookAt_381 rfl ?_
                refine cf_MM_351 rfl d_MM_lookAt_383 h19 (Nat.le_of_ble_eq_true rfl) (Cv.mono h (fun M59 h => ?_))
                obtain ⟨hOM59, h⟩ := h
                refine wm_less (L' := [vr a0, vd, vd, vd, vd, vd, vi l6, vd, vd, vi 1]) ⟨Or.inr rfl, Or.inl rfl, Or.inl rfl, Or.inl rfl, Or.inl rfl, Or.inl rfl, Or.inr rfl, Or.inl rfl, Or.inl rfl, Or.inr rfl, trivial⟩ ?_
                exact h
            clear h
            refine wm_icmp_eq (tgt := 282) d_MM_lookAt_275 rfl hi_l7 ⟨by decide, by decide⟩ (fun c51 => ?_) (fun c51 => ?_)
            · refine wm_iconst d_MM_lookAt_282 ?_
              refine wm_less (L' := [vr a0, vd, vd, vd, vi l4, vd, vi l6, vd, vd, vd]) ⟨Or.inr rfl, Or.inl rfl, Or.inl rfl, Or.inl rfl, Or.inr rfl, Or.inl rfl, Or.inr rfl, Or.inl rfl, Or.inl rfl, Or.inl rfl, trivial⟩ ?_
              exact hJ 0 (if_pos c51).symm
            · refine wm_iconst d_MM_lookAt_278 ?_
              refine wm_goto (tgt := 283) d_MM_lookAt_279 rfl ?_
              refine wm_less (L' := [vr a0, vd, vd, vd, vi l4, vd, vi l6, vd, vd, vd]) ⟨Or.inr rfl, Or.inl rfl, Or.inl rfl, Or.inl rfl, Or.inr rfl, Or.inl rfl, Or.inr rfl, Or.inl rfl, Or.inl rfl, Or.inl rfl, trivial⟩ ?_
              exact hJ 1 (if_neg c51).symm
          · replace h := h.2 c50
            by_cases c64 : l3 = 29 ∨ l3 = 30 ∨ l3 = 31
            · replace h := h.1 c64
              refine wm_tableIn (tgt := 252) (off := 162) d_MM_lookAt_90 hi_l3 (by omega) (by omega) (by rcases c64 with q9 | q9 | q9 <;> (rw [q9]; rfl)) rfl ?_
              refine wm_iload d_MM_lookAt_252 rfl ?_
              refine wm_iload d_MM_lookAt_254 rfl ?_
              have hJ : ∀ v66 : Int, v66 = (if (l7 = l5) then 1 else 0) → mWm G y_MM_lookAt (d + 1) 264 [vr a0, vd, vd, vd, vi l4, vd, vi l6, vd, vd, vd] [vi v66] M (fun r9 M9 => r9 = none ∧ Q M9) := by
                intro v66 e68
                have h := h v66 e68
                have h69 : i32 v66 := by rw [e68]; (repeat' split) <;> first | exact ⟨by decide, by decide⟩ | exact ⟨by decide, by decide⟩
                have h70 : (v66 = 0 ∨ v66 = 1) := by rw [e68]; (repeat' split) <;> decide
                refine wm_istore d_MM_lookAt_264 (by decide) (L' := [vr a0, vd, vd, vd, vi l4, vd, vi l6, vd, vi v66, vd]) rfl ?_
                refine wm_iconst d_MM_lookAt_266 ?_
                refine wm_istore d_MM_lookAt_267 (by decide) (L' := [vr a0, vd, vd, vd, vi l4, vd, vi l6, vd, vi v66, vi 1]) rfl ?_
                refine wm_goto (tgt := 374) d_MM_lookAt_269 rfl ?_
                refine wm_iload d_MM_lookAt_374 rfl ?_
                refine wm_if_ne (tgt := 386) d_MM_lookAt_376 rfl h69 (fun c72 => ?_) (fun c72 => ?_)
                · replace h := h.2 c72
                  refine wm_less (L' := [vr a0, vd, vd, vd, vd, vd, vi l6, vd, vd, vi 1]) ⟨Or.inr rfl, Or.inl rfl, Or.inl rfl, Or.inl rfl, Or.inl rfl, Or.inl rfl, Or.inr rfl, Or.inl rfl, Or.inl rfl, Or.inr rfl, trivial⟩ ?_
                  exact h
                · replace c72 := Classical.not_not.mp c72
                  replace h := h.1 c72
                  refine wm_aload_n d_MM_lookAt_379 rfl rfl ?_
                  refine wm_iconst d_MM_lookAt_380 ?_
                  refine wm_iload d_MM_lookAt_381 rfl ?_
                  refine cf_MM_351 rfl d_MM_lookAt_383 h19 (Nat.le_of_ble_eq_true rfl) (Cv.mono h (fun M73 h => ?_))
                  obtain ⟨hOM73, h⟩ := h
                  refine wm_less (L' := [vr a0, vd, vd, vd, vd, vd, vi l6, vd, vd, vi 1]) ⟨Or.inr rfl, Or.inl rfl, Or.inl rfl, Or.inl rfl, Or.inl rfl, Or.inl rfl, Or.inr rfl, Or.inl rfl, Or.inl rfl, Or.inr rfl, trivial⟩ ?_
                  exact h
              clear h
              refine wm_icmp_ne (tgt := 263) d_MM_lookAt_256 rfl hi_l7 hi_l5 (fun c65 => ?_) (fun c65 => ?_)
              · refine wm_iconst d_MM_lookAt_263 ?_
                refine wm_less (L' := [vr a0, vd, vd, vd, vi l4, vd, vi l6, vd, vd, vd]) ⟨Or.inr rfl, Or.inl rfl, Or.inl rfl, Or.inl rfl, Or.inr rfl, Or.inl rfl, Or.inr rfl, Or.inl rfl, Or.inl rfl, Or.inl rfl, trivial⟩ ?_
                exact hJ 0 (if_neg c65).symm
              · replace c65 := Classical.not_not.mp c65
                refine wm_iconst d_MM_lookAt_259 ?_
                refine wm_goto (tgt := 264) d_MM_lookAt_260 rfl ?_
                refine wm_less (L' := [vr a0, vd, vd, vd, vi l4, vd, vi l6, vd, vd, vd]) ⟨Or.inr rfl, Or.inl rfl, Or.inl rfl, Or.inl rfl, Or.inr rfl, Or.inl rfl, Or.inr rfl, Or.inl rfl, Or.inl rfl, Or.inl rfl, trivial⟩ ?_
                exact hJ 1 (if_pos c65).symm
            · replace h := h.2 c64
              by_cases c78 : l3 = 32
              · replace h := h.1 c78
                refine wm_tableIn (tgt := 291) (off := 201) d_MM_lookAt_90 hi_l3 (by omega) (by omega) (by rw [c78]; rfl) rfl ?_
                refine wm_aload_n d_MM_lookAt_291 rfl rfl ?_
                refine gf_MM_57 rfl d_MM_lookAt_292 h19 ?_
                refine wm_iload d_MM_lookAt_295 rfl ?_
                refine cf_MM_155 rfl d_MM_lookAt_297 h20 (Nat.le_of_ble_eq_true rfl) (Ci.mono h (fun x80 M79 h => ?_))
                obtain ⟨h81, hOM79, h⟩ := h
                refine wm_iconst d_MM_lookAt_300 ?_
                refine wm_icmp_ne (tgt := 333) d_MM_lookAt_301 rfl h81 ⟨by decide, by decide⟩ (fun c83 => ?_) (fun c83 => ?_)
                · replace h := h.2 c83
                  refine wm_iconst d_MM_lookAt_333 ?_
                  refine wm_less (L' := [vr a0, vd, vd, vd, vi l4, vd, vi l6, vd, vd, vd]) ⟨Or.inr rfl, Or.inl rfl, Or.inl rfl, Or.inl rfl, Or.inr rfl, Or.inl rfl, Or.inr rfl, Or.inl rfl, Or.inl rfl, Or.inl rfl, trivial⟩ ?_
                  exact h
                · replace c83 := Classical.not_not.mp c83
                  replace h := h.1 c83
                  obtain ⟨h84, h⟩ := h
                  obtain ⟨h85, h⟩ := h
                  refine wm_aload_n d_MM_lookAt_304 rfl rfl ?_
                  refine gf_MM_57 rfl d_MM_lookAt_305 h84 ?_
                  refine wm_iload d_MM_lookAt_308 rfl ?_
                  refine wm_iconst d_MM_lookAt_310 ?_
                  refine wm_iadd d_MM_lookAt_311 ?_
                  refine cf_MM_155 rfl d_MM_lookAt_312 h85 (Nat.le_of_ble_eq_true rfl) (Ci.mono h (fun x87 M86 h => ?_))
                  obtain ⟨h88, hOM86, h⟩ := h
                  obtain ⟨h89, h⟩ := h
                  obtain ⟨h90, h⟩ := h
                  refine wm_aload_n d_MM_lookAt_315 rfl rfl ?_
                  refine gf_MM_57 rfl d_MM_lookAt_316 h89 ?_
                  refine wm_iload d_MM_lookAt_319 rfl ?_
                  refine wm_iconst d_MM_lookAt_321 ?_
                  refine wm_iadd d_MM_lookAt_322 ?_
                  refine cf_MM_155 rfl d_MM_lookAt_323 h90 (Nat.le_of_ble_eq_true rfl) (Ci.mono h (fun x92 M91 h => ?_))
                  obtain ⟨h93, hOM91, h⟩ := h
                  refine wm_icmp_ne (tgt := 333) d_MM_lookAt_326 rfl h88 h93 (fun c95 => ?_) (fun c95 => ?_)
                  · replace h := h.2 c95
                    refine wm_iconst d_MM_lookAt_333 ?_
                    refine wm_less (L' := [vr a0, vd, vd, vd, vi l4, vd, vi l6, vd, vd, vd]) ⟨Or.inr rfl, Or.inl rfl, Or.inl rfl, Or.inl rfl, Or.inr rfl, Or.inl rfl, Or.inr rfl, Or.inl rfl, Or.inl rfl, Or.inl rfl, trivial⟩ ?_
                    exact h
                  · replace c95 := Classical.not_not.mp c95
                    replace h := h.1 c95
                    refine wm_iconst d_MM_lookAt_329 ?_
                    refine wm_goto (tgt := 334) d_MM_lookAt_330 rfl ?_
                    refine wm_less (L' := [vr a0, vd, vd, vd, vi l4, vd, vi l6, vd, vd, vd]) ⟨Or.inr rfl, Or.inl rfl, Or.inl rfl, Or.inl rfl, Or.inr rfl, Or.inl rfl, Or.inr rfl, Or.inl rfl, Or.inl rfl, Or.inl rfl, trivial⟩ ?_
                    exact h
              · replace h := h.2 c78
                refine wm_tableD (tgt := 348) (off := 258) d_MM_lookAt_90 hi_l3 (if q8 : 1 ≤ l3 ∧ l3 ≤ 32 then Or.inr ⟨q8.1, q8.2, by
      have q9 : l3 = 3 ∨ l3 = 4 ∨ l3 = 5 ∨ l3 = 6 ∨ l3 = 7 ∨ l3 = 8 ∨ l3 = 9 ∨ l3 = 10 ∨ l3 = 11 ∨ l3 = 14 ∨ l3 = 15 ∨ l3 = 16 ∨ l3 = 17 ∨ l3 = 19 ∨ l3 = 20 ∨ l3 = 21 ∨ l3 = 22 ∨ l3 = 24 ∨ l3 = 25 ∨ l3 = 26 ∨ l3 = 27 ∨ l3 = 28 := by omega
      rcases q9 with q9 | q9 | q9 | q9 | q9 | q9 | q9 | q9 | q9 | q9 | q9 | q9 | q9 | q9 | q9 | q9 | q9 | q9 | q9 | q9 | q9 | q9 <;> (rw [q9]; rfl)⟩ else Or.inl (by omega)) rfl ?_
                refine wm_iload d_MM_lookAt_348 rfl ?_
                have hJ : ∀ v97 : Int, v97 = (if (l7 = 0) then 1 else 0) → mWm G y_MM_lookAt (d + 1) 358 [vr a0, vd, vd, vi l3, vi l4, vd, vi l6, vd, vd, vd] [vi v97] M (fun r9 M9 => r9 = none ∧ Q M9) := by
                  intro v97 e99
                  have h := h v97 e99
                  have h100 : i32 v97 := by rw [e99]; (repeat' split) <;> first | exact ⟨by decide, by decide⟩ | exact ⟨by decide, by decide⟩
                  have h101 : (v97 = 0 ∨ v97 = 1) := by rw [e99]; (repeat' split) <;> decide
                  refine wm_istore d_MM_lookAt_358 (by decide) (L' := [vr a0, vd, vd, vi l3, vi l4, vd, vi l6, vd, vi v97, vd]) rfl ?_
                  refine wm_iload_n d_MM_lookAt_360 rfl rfl ?_
                  refine cf_MM_261 rfl d_MM_lookAt_361 (Nat.le_of_ble_eq_true rfl) (Ci.mono h (fun x103 M102 h => ?_))
                  obtain ⟨h104, hOM102, h⟩ := h
                  have hJ : ∀ v106 : Int, v106 = (if (x103 = 0) then 0 else 1) → mWm G y_MM_lookAt (d + 1) 372 [vr a0, vd, vd, vd, vi l4, vd, vi l6, vd, vi v97, vd] [vi v106] M102 (fun r9 M9 => r9 = none ∧ Q M9) := by
                    intro v106 e108
                    have h := h v106 e108
                    have h109 : i32 v106 := by rw [e108]; (repeat' split) <;> first | exact ⟨by decide, by decide⟩ | exact ⟨by decide, by decide⟩
                    have h110 : (v106 = 0 ∨ v106 = 1) := by rw [e108]; (repeat' split) <;> decide
                    refine wm_istore d_MM_lookAt_372 (by decide) (L' := [vr a0, vd, vd, vd, vi l4, vd, vi l6, vd, vi v97, vi v106]) rfl ?_
                    refine wm_iload d_MM_lookAt_374 rfl ?_
                    refine wm_if_ne (tgt := 386) d_MM_lookAt_376 rfl h100 (fun c112 => ?_) (fun c112 => ?_)
                    · replace h := h.2 c112
                      refine wm_less (L' := [vr a0, vd, vd, vd, vd, vd, vi l6, vd, vd, vi v106]) ⟨Or.inr rfl, Or.inl rfl, Or.inl rfl, Or.inl rfl, Or.inl rfl, Or.inl rfl, Or.inr rfl, Or.inl rfl, Or.inl rfl, Or.inr rfl, trivial⟩ ?_
                      exact h
                    · replace c112 := Classical.not_not.mp c112
                      replace h := h.1 c112
                      obtain ⟨h113, h⟩ := h
                      refine wm_aload_n d_MM_lookAt_379 rfl rfl ?_
                      refine wm_iconst d_MM_lookAt_380 ?_
                      refine wm_iload d_MM_lookAt_381 rfl ?_
                      refine cf_MM_351 rfl d_MM_lookAt_383 h113 (Nat.le_of_ble_eq_true rfl) (Cv.mono h (fun M114 h => ?_))
                      obtain ⟨hOM114, h⟩ := h
                      refine wm_less (L' := [vr a0, vd, vd, vd, vd, vd, vi l6, vd, vd, vi v106]) ⟨Or.inr rfl, Or.inl rfl, Or.inl rfl, Or.inl rfl, Or.inl rfl, Or.inl rfl, Or.inr rfl, Or.inl rfl, Or.inl rfl, Or.inr rfl, trivial⟩ ?_
                      exact h
                  clear h
                  refine wm_if_eq (tgt := 371) d_MM_lookAt_364 rfl h104 (fun c105 => ?_) (fun c105 => ?_)
                  · refine wm_iconst d_MM_lookAt_371 ?_
                    refine wm_less (L' := [vr a0, vd, vd, vd, vi l4, vd, vi l6, vd, vi v97, vd]) ⟨Or.inr rfl, Or.inl rfl, Or.inl rfl, Or.inl rfl, Or.inr rfl, Or.inl rfl, Or.inr rfl, Or.inl rfl, Or.inr rfl, Or.inl rfl, trivial⟩ ?_
                    exact hJ 0 (if_pos c105).symm
                  · refine wm_iconst d_MM_lookAt_367 ?_
                    refine wm_goto (tgt := 372) d_MM_lookAt_368 rfl ?_
                    refine wm_less (L' := [vr a0, vd, vd, vd, vi l4, vd, vi l6, vd, vi v97, vd]) ⟨Or.inr rfl, Or.inl rfl, Or.inl rfl, Or.inl rfl, Or.inr rfl, Or.inl rfl, Or.inr rfl, Or.inl rfl, Or.inr rfl, Or.inl rfl, trivial⟩ ?_
                    exact hJ 1 (if_neg c105).symm
                clear h
                refine wm_if_ne (tgt := 357) d_MM_lookAt_350 rfl hi_l7 (fun c96 => ?_) (fun c96 => ?_)
                · refine wm_iconst d_MM_lookAt_357 ?_
                  refine wm_less (L' := [vr a0, vd, vd, vi l3, vi l4, vd, vi l6, vd, vd, vd]) ⟨Or.inr rfl, Or.inl rfl, Or.inl rfl, Or.inr rfl, Or.inr rfl, Or.inl rfl, Or.inr rfl, Or.inl rfl, Or.inl rfl, Or.inl rfl, trivial⟩ ?_
                  exact hJ 0 (if_neg c96).symm
                · replace c96 := Classical.not_not.mp c96
                  refine wm_iconst d_MM_lookAt_353 ?_
                  refine wm_goto (tgt := 358) d_MM_lookAt_354 rfl ?_
                  refine wm_less (L' := [vr a0, vd, vd, vi l3, vi l4, vd, vi l6, vd, vd, vd]) ⟨Or.inr rfl, Or.inl rfl, Or.inl rfl, Or.inr rfl, Or.inr rfl, Or.inl rfl, Or.inr rfl, Or.inl rfl, Or.inl rfl, Or.inl rfl, trivial⟩ ?_
                  exact hJ 1 (if_pos c96).symm
  · replace h := h.2 c22
    refine wm_iload d_MM_lookAt_63 rfl ?_
    refine wm_aload_n d_MM_lookAt_65 rfl rfl ?_
    refine gf_MM_57 rfl d_MM_lookAt_66 h19 ?_
    refine wm_iload d_MM_lookAt_69 rfl ?_
    refine cf_MM_155 rfl d_MM_lookAt_71 h20 (Nat.le_of_ble_eq_true rfl) (Ci.mono h (fun x120 M119 h => ?_))
    obtain ⟨h121, hOM119, h⟩ := h
    refine wm_iadd d_MM_lookAt_74 ?_
    refine wm_istore d_MM_lookAt_75 (by decide) (L' := [vr a0, vi l1, vi l2, vi l3, vi l4, vi l5, vi l6, vi (l7 + x120), vi l8, vd]) rfl ?_
    refine wm_iinc d_MM_lookAt_77 (by decide) rfl (L' := [vr a0, vi l1, vi l2, vi l3, vi l4, vi l5, vi l6, vi (l7 + x120), vi (l8 + 1), vd]) rfl ?_
    refine wm_goto (tgt := 51) d_MM_lookAt_80 rfl ?_
    exact h
theorem k_MM_lookAt_334 {G : mG} {d : Nat} {a0 : Nat} {l4 : Int} {l6 : Int} {k0 : Int} {M : mM} {Q : mM → Prop} (hO : mOk M) (hi_l4 : i32 l4) (hi_l6 : i32 l6) (hi_k0 : i32 k0)
    (h : mK M a0 = 14 ∧ mK M (mR M a0 19) = 15 ∧ Ci G y_MN_last d [vr (mR M a0 19)] M (fun x125 M124 => i32 x125 ∧ mOk M124 ∧ (((k0 = 0) → (mK M124 a0 = 14 ∧ Cv G y_MM_stop d [vr a0, vi 3, vi l4] M124 (fun M130 => mOk M130 ∧ (h_MM_lookAt_386 G d a0 l6 x125 M130 Q)))) ∧ (¬ (k0 = 0) → (h_MM_lookAt_386 G d a0 l6 x125 M124 Q))))) :
    h_MM_lookAt_334 G d a0 l4 l6 k0 M Q := by
  unfold h_MM_lookAt_334
  obtain ⟨h122, h⟩ := h
  obtain ⟨h123, h⟩ := h
  refine wm_istore d_MM_lookAt_334 (by decide) (L' := [vr a0, vd, vd, vd, vi l4, vd, vi l6, vd, vi k0, vd]) rfl ?_
  refine wm_aload_n d_MM_lookAt_336 rfl rfl ?_
  refine gf_MM_57 rfl d_MM_lookAt_337 h122 ?_
  refine cf_MM_341 rfl d_MM_lookAt_340 h123 (Nat.le_of_ble_eq_true rfl) (Ci.mono h (fun x125 M124 h => ?_))
  obtain ⟨h126, hOM124, h⟩ := h
  refine wm_istore d_MM_lookAt_343 (by decide) (L' := [vr a0, vd, vd, vd, vi l4, vd, vi l6, vd, vi k0, vi x125]) rfl ?_
  refine wm_goto (tgt := 374) d_MM_lookAt_345 rfl ?_
  refine wm_iload d_MM_lookAt_374 rfl ?_
  refine wm_if_ne (tgt := 386) d_MM_lookAt_376 rfl hi_k0 (fun c128 => ?_) (fun c128 => ?_)
  · replace h := h.2 c128
    refine wm_less (L' := [vr a0, vd, vd, vd, vd, vd, vi l6, vd, vd, vi x125]) ⟨Or.inr rfl, Or.inl rfl, Or.inl rfl, Or.inl rfl, Or.inl rfl, Or.inl rfl, Or.inr rfl, Or.inl rfl, Or.inl rfl, Or.inr rfl, trivial⟩ ?_
    exact h
  · replace c128 := Classical.not_not.mp c128
    replace h := h.1 c128
    obtain ⟨h129, h⟩ := h
    refine wm_aload_n d_MM_lookAt_379 rfl rfl ?_
    refine wm_iconst d_MM_lookAt_380 ?_
    refine wm_iload d_MM_lookAt_381 rfl ?_
    refine cf_MM_351 rfl d_MM_lookAt_383 h129 (Nat.le_of_ble_eq_true rfl) (Cv.mono h (fun M130 h => ?_))
    obtain ⟨hOM130, h⟩ := h
    refine wm_less (L' := [vr a0, vd, vd, vd, vd, vd, vi l6, vd, vd, vi x125]) ⟨Or.inr rfl, Or.inl rfl, Or.inl rfl, Or.inl rfl, Or.inl rfl, Or.inl rfl, Or.inr rfl, Or.inl rfl, Or.inl rfl, Or.inr rfl, trivial⟩ ?_
    exact h
theorem k_MM_lookAt_386 {G : mG} {d : Nat} {a0 : Nat} {l6 : Int} {l9 : Int} {M : mM} {Q : mM → Prop} (hO : mOk M) (hi_l6 : i32 l6) (hi_l9 : i32 l9)
    (h : mK M a0 = 14 ∧ mK M (mR M a0 19) = 15 ∧ ∀ M135, M135 = mUI M (mR M a0 19) 1 l6 → mK M135 (mR M135 a0 19) = 15 ∧ Cv G y_MN_add d [vr (mR M135 a0 19), vi l9] M135 (fun M138 => mOk M138 ∧ (Q M138))) :
    h_MM_lookAt_386 G d a0 l6 l9 M Q := by
  unfold h_MM_lookAt_386
  obtain ⟨h133, h⟩ := h
  obtain ⟨h134, h⟩ := h
  obtain ⟨M135, e136⟩ : ∃ M135, M135 = mUI M (mR M a0 19) 1 l6 := ⟨_, rfl⟩
  replace h := h M135 e136
  obtain ⟨h137, h⟩ := h
  refine wm_aload_n d_MM_lookAt_386 rfl rfl ?_
  refine gf_MM_57 rfl d_MM_lookAt_387 h133 ?_
  refine wm_iload d_MM_lookAt_390 rfl ?_
  have hOM135 : mOk M135 := by rw [e136]; exact mOk_UI hO hi_l6
  refine pf_MM_145 rfl d_MM_lookAt_392 h134 hi_l6 e136 ?_
  refine wm_aload_n d_MM_lookAt_395 rfl rfl ?_
  refine gf_MM_57 rfl d_MM_lookAt_396 (by rw [e136]; exact h133) ?_
  refine wm_iload d_MM_lookAt_399 rfl ?_
  refine cf_MM_152 rfl d_MM_lookAt_401 h137 (Nat.le_of_ble_eq_true rfl) (Cv.mono h (fun M138 h => ?_))
  obtain ⟨hOM138, h⟩ := h
  refine wm_return d_MM_lookAt_404 rfl ?_
  exact ⟨rfl, h⟩
theorem d_MM_lookUp_0 : decode y_MM_lookUp.2.1 0 = .ok (.aload_n 0, 1) := by decide +kernel
theorem d_MM_lookUp_1 : decode y_MM_lookUp.2.1 1 = .ok (.aload_n 0, 1) := by decide +kernel
theorem d_MM_lookUp_2 : decode y_MM_lookUp.2.1 2 = .ok (.getfield 38, 3) := by decide +kernel
theorem d_MM_lookUp_5 : decode y_MM_lookUp.2.1 5 = .ok (.getfield 284, 3) := by decide +kernel
theorem d_MM_lookUp_8 : decode y_MM_lookUp.2.1 8 = .ok (.iload_n 1, 1) := by decide +kernel
theorem d_MM_lookUp_9 : decode y_MM_lookUp.2.1 9 = .ok (.invokevirtual 155, 3) := by decide +kernel
theorem d_MM_lookUp_12 : decode y_MM_lookUp.2.1 12 = .ok (.invokevirtual 354, 3) := by decide +kernel
theorem d_MM_lookUp_15 : decode y_MM_lookUp.2.1 15 = .ok (.istore_n 3, 1) := by decide +kernel
theorem d_MM_lookUp_16 : decode y_MM_lookUp.2.1 16 = .ok (.iload_n 3, 1) := by decide +kernel
theorem d_MM_lookUp_17 : decode y_MM_lookUp.2.1 17 = .ok (.ifCond .lt 19, 3) := by decide +kernel
theorem d_MM_lookUp_20 : decode y_MM_lookUp.2.1 20 = .ok (.iload_n 2, 1) := by decide +kernel
theorem d_MM_lookUp_21 : decode y_MM_lookUp.2.1 21 = .ok (.ifCond .eq 33, 3) := by decide +kernel
theorem d_MM_lookUp_24 : decode y_MM_lookUp.2.1 24 = .ok (.aload_n 0, 1) := by decide +kernel
theorem d_MM_lookUp_25 : decode y_MM_lookUp.2.1 25 = .ok (.getfield 48, 3) := by decide +kernel
theorem d_MM_lookUp_28 : decode y_MM_lookUp.2.1 28 = .ok (.iload_n 3, 1) := by decide +kernel
theorem d_MM_lookUp_36 : decode y_MM_lookUp.2.1 36 = .ok (.aload_n 0, 1) := by decide +kernel
theorem d_MM_lookUp_37 : decode y_MM_lookUp.2.1 37 = .ok (.iconst 2, 1) := by decide +kernel
theorem d_MM_lookUp_38 : decode y_MM_lookUp.2.1 38 = .ok (.aload_n 0, 1) := by decide +kernel
theorem d_MM_lookUp_39 : decode y_MM_lookUp.2.1 39 = .ok (.getfield 38, 3) := by decide +kernel
theorem d_MM_lookUp_42 : decode y_MM_lookUp.2.1 42 = .ok (.getfield 276, 3) := by decide +kernel
theorem d_MM_lookUp_45 : decode y_MM_lookUp.2.1 45 = .ok (.iload_n 1, 1) := by decide +kernel
theorem d_MM_lookUp_46 : decode y_MM_lookUp.2.1 46 = .ok (.invokevirtual 155, 3) := by decide +kernel
theorem d_MM_lookUp_49 : decode y_MM_lookUp.2.1 49 = .ok (.invokevirtual 351, 3) := by decide +kernel
theorem d_MM_lookUp_52 : decode y_MM_lookUp.2.1 52 = .ok (.iconst 0, 1) := by decide +kernel
theorem d_MM_lookUp_53 : decode y_MM_lookUp.2.1 53 = .ok (.ireturn, 1) := by decide +kernel
theorem d_MM_lookUp_54 : decode y_MM_lookUp.2.1 54 = .ok (.aload_n 0, 1) := by decide +kernel
theorem d_MM_lookUp_55 : decode y_MM_lookUp.2.1 55 = .ok (.getfield 51, 3) := by decide +kernel
theorem d_MM_lookUp_58 : decode y_MM_lookUp.2.1 58 = .ok (.iload_n 3, 1) := by decide +kernel
theorem d_MM_lookUp_59 : decode y_MM_lookUp.2.1 59 = .ok (.invokevirtual 155, 3) := by decide +kernel
theorem d_MM_lookUp_62 : decode y_MM_lookUp.2.1 62 = .ok (.istore 4, 2) := by decide +kernel
theorem d_MM_lookUp_64 : decode y_MM_lookUp.2.1 64 = .ok (.aload_n 0, 1) := by decide +kernel
theorem d_MM_lookUp_65 : decode y_MM_lookUp.2.1 65 = .ok (.getfield 38, 3) := by decide +kernel
theorem d_MM_lookUp_68 : decode y_MM_lookUp.2.1 68 = .ok (.getfield 284, 3) := by decide +kernel
theorem d_MM_lookUp_71 : decode y_MM_lookUp.2.1 71 = .ok (.getfield 293, 3) := by decide +kernel
theorem d_MM_lookUp_74 : decode y_MM_lookUp.2.1 74 = .ok (.iload_n 1, 1) := by decide +kernel
theorem d_MM_lookUp_75 : decode y_MM_lookUp.2.1 75 = .ok (.aload_n 0, 1) := by decide +kernel
theorem d_MM_lookUp_76 : decode y_MM_lookUp.2.1 76 = .ok (.getfield 48, 3) := by decide +kernel
theorem d_MM_lookUp_79 : decode y_MM_lookUp.2.1 79 = .ok (.iload_n 3, 1) := by decide +kernel
theorem d_MM_lookUp_80 : decode y_MM_lookUp.2.1 80 = .ok (.invokevirtual 155, 3) := by decide +kernel
theorem d_MM_lookUp_83 : decode y_MM_lookUp.2.1 83 = .ok (.iconst 3, 1) := by decide +kernel
theorem d_MM_lookUp_84 : decode y_MM_lookUp.2.1 84 = .ok (.if_icmp .ne 11, 3) := by decide +kernel
theorem d_MM_lookUp_87 : decode y_MM_lookUp.2.1 87 = .ok (.bipush 100, 2) := by decide +kernel
theorem d_MM_lookUp_89 : decode y_MM_lookUp.2.1 89 = .ok (.iload 4, 2) := by decide +kernel
theorem d_MM_lookUp_91 : decode y_MM_lookUp.2.1 91 = .ok (.iadd, 1) := by decide +kernel
theorem d_MM_lookUp_92 : decode y_MM_lookUp.2.1 92 = .ok (.goto 5, 3) := by decide +kernel
theorem d_MM_lookUp_95 : decode y_MM_lookUp.2.1 95 = .ok (.iload 4, 2) := by decide +kernel
theorem d_MM_lookUp_97 : decode y_MM_lookUp.2.1 97 = .ok (.iastore, 1) := by decide +kernel
theorem d_MM_lookUp_98 : decode y_MM_lookUp.2.1 98 = .ok (.aload_n 0, 1) := by decide +kernel
theorem d_MM_lookUp_99 : decode y_MM_lookUp.2.1 99 = .ok (.getfield 48, 3) := by decide +kernel
theorem d_MM_lookUp_102 : decode y_MM_lookUp.2.1 102 = .ok (.iload_n 3, 1) := by decide +kernel
theorem d_MM_lookUp_103 : decode y_MM_lookUp.2.1 103 = .ok (.invokevirtual 155, 3) := by decide +kernel
theorem d_MM_lookUp_106 : decode y_MM_lookUp.2.1 106 = .ok (.iconst 3, 1) := by decide +kernel
theorem d_MM_lookUp_107 : decode y_MM_lookUp.2.1 107 = .ok (.if_icmp .ne 16, 3) := by decide +kernel
theorem d_MM_lookUp_110 : decode y_MM_lookUp.2.1 110 = .ok (.aload_n 0, 1) := by decide +kernel
theorem d_MM_lookUp_111 : decode y_MM_lookUp.2.1 111 = .ok (.getfield 38, 3) := by decide +kernel
theorem d_MM_lookUp_114 : decode y_MM_lookUp.2.1 114 = .ok (.getfield 357, 3) := by decide +kernel
theorem d_MM_lookUp_117 : decode y_MM_lookUp.2.1 117 = .ok (.iload 4, 2) := by decide +kernel
theorem d_MM_lookUp_119 : decode y_MM_lookUp.2.1 119 = .ok (.baload, 1) := by decide +kernel
theorem d_MM_lookUp_120 : decode y_MM_lookUp.2.1 120 = .ok (.goto 13, 3) := by decide +kernel
theorem d_MM_lookUp_123 : decode y_MM_lookUp.2.1 123 = .ok (.aload_n 0, 1) := by decide +kernel
theorem d_MM_lookUp_124 : decode y_MM_lookUp.2.1 124 = .ok (.getfield 38, 3) := by decide +kernel
theorem d_MM_lookUp_127 : decode y_MM_lookUp.2.1 127 = .ok (.getfield 360, 3) := by decide +kernel
theorem d_MM_lookUp_130 : decode y_MM_lookUp.2.1 130 = .ok (.iload 4, 2) := by decide +kernel
theorem d_MM_lookUp_132 : decode y_MM_lookUp.2.1 132 = .ok (.baload, 1) := by decide +kernel
theorem d_MM_lookUp_133 : decode y_MM_lookUp.2.1 133 = .ok (.istore 5, 2) := by decide +kernel
theorem d_MM_lookUp_135 : decode y_MM_lookUp.2.1 135 = .ok (.iload 5, 2) := by decide +kernel
theorem d_MM_lookUp_137 : decode y_MM_lookUp.2.1 137 = .ok (.ifCond .eq 7, 3) := by decide +kernel
theorem d_MM_lookUp_144 : decode y_MM_lookUp.2.1 144 = .ok (.iconst 0, 1) := by decide +kernel
theorem d_MM_lookUp_140 : decode y_MM_lookUp.2.1 140 = .ok (.iconst 1, 1) := by decide +kernel
theorem d_MM_lookUp_141 : decode y_MM_lookUp.2.1 141 = .ok (.goto 4, 3) := by decide +kernel
theorem d_MM_lookUp_145 : decode y_MM_lookUp.2.1 145 = .ok (.ireturn, 1) := by decide +kernel
theorem d_MM_lookUp_29 : decode y_MM_lookUp.2.1 29 = .ok (.invokevirtual 155, 3) := by decide +kernel
theorem d_MM_lookUp_32 : decode y_MM_lookUp.2.1 32 = .ok (.iconst 1, 1) := by decide +kernel
theorem d_MM_lookUp_33 : decode y_MM_lookUp.2.1 33 = .ok (.if_icmp .eq 21, 3) := by decide +kernel
theorem k_MM_lookUp {G : mG} {d : Nat} {a0 : Nat} {l1 : Int} {l2 : Int} {M : mM} {Q : Int → mM → Prop} (hO : mOk M) (hi_l1 : i32 l1) (hi_l2 : i32 l2)
    (h : mK M a0 = 14 ∧ mK M (mR M a0 10) = 16 ∧ mK M (mR M (mR M a0 10) 3) = 15 ∧ Ci G y_MN_at d [vr (mR M (mR M a0 10) 3), vi l1] M (fun x5 M4 => i32 x5 ∧ mOk M4 ∧ (mK M4 a0 = 14 ∧ Ci G y_MM_find d [vr a0, vi x5] M4 (fun x9 M8 => i32 x9 ∧ mOk M8 ∧ (((x9 < 0) → (mK M8 a0 = 14 ∧ mK M8 (mR M8 a0 10) = 16 ∧ mK M8 (mR M8 (mR M8 a0 10) 1) = 15 ∧ Ci G y_MN_at d [vr (mR M8 (mR M8 a0 10) 1), vi l1] M8 (fun x18 M17 => i32 x18 ∧ mOk M17 ∧ (mK M17 a0 = 14 ∧ Cv G y_MM_stop d [vr a0, vi 2, vi x18] M17 (fun M21 => mOk M21 ∧ (Q 0 M21)))))) ∧ (¬ (x9 < 0) → (((l2 = 0) → (mK M8 a0 = 14 ∧ mK M8 (mR M8 a0 15) = 15 ∧ Ci G y_MN_at d [vr (mR M8 a0 15), vi x9] M8 (fun x29 M28 => i32 x29 ∧ mOk M28 ∧ (mK M28 a0 = 14 ∧ mK M28 (mR M28 a0 10) = 16 ∧ mK M28 (mR M28 (mR M28 a0 10) 3) = 15 ∧ mK M28 (mR M28 a0 14) = 15 ∧ Ci G y_MN_at d [vr (mR M28 a0 14), vi x9] M28 (fun x36 M35 => i32 x36 ∧ mOk M35 ∧ (∀ v39 : Int, v39 = (if (x36 = 3) then 100 + x29 else x29) → mK M35 (mR M28 (mR M28 (mR M28 a0 10) 3) 0) = 30 ∧ ((0 : Int) ≤ l1 ∧ l1 < (mN M35 (mR M28 (mR M28 (mR M28 a0 10) 3) 0) : Int)) ∧ i32 v39 ∧ ∀ M45, M45 = mUI M35 (mR M28 (mR M28 (mR M28 a0 10) 3) 0) (Int.toNat l1) v39 → mK M45 a0 = 14 ∧ mK M45 (mR M45 a0 14) = 15 ∧ Ci G y_MN_at d [vr (mR M45 a0 14), vi x9] M45 (fun x50 M49 => i32 x50 ∧ mOk M49 ∧ ((((x50 = 3) → (mK M49 a0 = 14 ∧ mK M49 (mR M49 a0 10) = 16 ∧ mK M49 (mR M49 (mR M49 a0 10) 13) = 31 ∧ ((0 : Int) ≤ x29 ∧ x29 < (mN M49 (mR M49 (mR M49 a0 10) 13) : Int)))) ∧ (¬ (x50 = 3) → (mK M49 a0 = 14 ∧ mK M49 (mR M49 a0 10) = 16 ∧ mK M49 (mR M49 (mR M49 a0 10) 8) = 31 ∧ ((0 : Int) ≤ x29 ∧ x29 < (mN M49 (mR M49 (mR M49 a0 10) 8) : Int))))) ∧ ∀ v61 : Int, v61 = (if (x50 = 3) then mI M49 (mR M49 (mR M49 a0 10) 13) (Int.toNat x29) else mI M49 (mR M49 (mR M49 a0 10) 8) (Int.toNat x29)) → i32 v61 ∧ ∀ v66 : Int, v66 = (if (v61 = 0) then 0 else 1) → Q v66 M49)))))))) ∧ (¬ (l2 = 0) → (mK M8 a0 = 14 ∧ mK M8 (mR M8 a0 14) = 15 ∧ Ci G y_MN_at d [vr (mR M8 a0 14), vi x9] M8 (fun x79 M78 => i32 x79 ∧ mOk M78 ∧ (((x79 = 1) → (mK M78 a0 = 14 ∧ mK M78 (mR M78 a0 15) = 15 ∧ Ci G y_MN_at d [vr (mR M78 a0 15), vi x9] M78 (fun x86 M85 => i32 x86 ∧ mOk M85 ∧ (mK M85 a0 = 14 ∧ mK M85 (mR M85 a0 10) = 16 ∧ mK M85 (mR M85 (mR M85 a0 10) 3) = 15 ∧ mK M85 (mR M85 a0 14) = 15 ∧ Ci G y_MN_at d [vr (mR M85 a0 14), vi x9] M85 (fun x93 M92 => i32 x93 ∧ mOk M92 ∧ (∀ v96 : Int, v96 = (if (x93 = 3) then 100 + x86 else x86) → mK M92 (mR M85 (mR M85 (mR M85 a0 10) 3) 0) = 30 ∧ ((0 : Int) ≤ l1 ∧ l1 < (mN M92 (mR M85 (mR M85 (mR M85 a0 10) 3) 0) : Int)) ∧ i32 v96 ∧ ∀ M102, M102 = mUI M92 (mR M85 (mR M85 (mR M85 a0 10) 3) 0) (Int.toNat l1) v96 → mK M102 a0 = 14 ∧ mK M102 (mR M102 a0 14) = 15 ∧ Ci G y_MN_at d [vr (mR M102 a0 14), vi x9] M102 (fun x107 M106 => i32 x107 ∧ mOk M106 ∧ ((((x107 = 3) → (mK M106 a0 = 14 ∧ mK M106 (mR M106 a0 10) = 16 ∧ mK M106 (mR M106 (mR M106 a0 10) 13) = 31 ∧ ((0 : Int) ≤ x86 ∧ x86 < (mN M106 (mR M106 (mR M106 a0 10) 13) : Int)))) ∧ (¬ (x107 = 3) → (mK M106 a0 = 14 ∧ mK M106 (mR M106 a0 10) = 16 ∧ mK M106 (mR M106 (mR M106 a0 10) 8) = 31 ∧ ((0 : Int) ≤ x86 ∧ x86 < (mN M106 (mR M106 (mR M106 a0 10) 8) : Int))))) ∧ ∀ v118 : Int, v118 = (if (x107 = 3) then mI M106 (mR M106 (mR M106 a0 10) 13) (Int.toNat x86) else mI M106 (mR M106 (mR M106 a0 10) 8) (Int.toNat x86)) → i32 v118 ∧ ∀ v123 : Int, v123 = (if (v118 = 0) then 0 else 1) → Q v123 M106)))))))) ∧ (¬ (x79 = 1) → (mK M78 a0 = 14 ∧ mK M78 (mR M78 a0 10) = 16 ∧ mK M78 (mR M78 (mR M78 a0 10) 1) = 15 ∧ Ci G y_MN_at d [vr (mR M78 (mR M78 a0 10) 1), vi l1] M78 (fun x137 M136 => i32 x137 ∧ mOk M136 ∧ (mK M136 a0 = 14 ∧ Cv G y_MM_stop d [vr a0, vi 2, vi x137] M136 (fun M140 => mOk M140 ∧ (Q 0 M140))))))))))))))))) :
    Ci G y_MM_lookUp (d + 1) [vr a0, vi l1, vi l2] M Q := by
  refine wm_open (y := y_MM_lookUp) rfl (Nat.le_of_ble_eq_true rfl) (L := [vr a0, vi l1, vi l2, vd, vd, vd]) rfl ?_
  obtain ⟨h1, h⟩ := h
  obtain ⟨h2, h⟩ := h
  obtain ⟨h3, h⟩ := h
  refine wm_aload_n d_MM_lookUp_0 rfl rfl ?_
  refine wm_aload_n d_MM_lookUp_1 rfl rfl ?_
  refine gf_MM_38 rfl d_MM_lookUp_2 h1 ?_
  refine gf_MM_284 rfl d_MM_lookUp_5 h2 ?_
  refine wm_iload_n d_MM_lookUp_8 rfl rfl ?_
  refine cf_MM_155 rfl d_MM_lookUp_9 h3 (Nat.le_of_ble_eq_true rfl) (Ci.mono h (fun x5 M4 h => ?_))
  obtain ⟨h6, hOM4, h⟩ := h
  obtain ⟨h7, h⟩ := h
  refine cf_MM_354 rfl d_MM_lookUp_12 h7 (Nat.le_of_ble_eq_true rfl) (Ci.mono h (fun x9 M8 h => ?_))
  obtain ⟨h10, hOM8, h⟩ := h
  refine wm_istore_n d_MM_lookUp_15 rfl (by decide) (L' := [vr a0, vi l1, vi l2, vi x9, vd, vd]) rfl ?_
  refine wm_iload_n d_MM_lookUp_16 rfl rfl ?_
  refine wm_if_lt (tgt := 36) d_MM_lookUp_17 rfl h10 (fun c13 => ?_) (fun c13 => ?_)
  · replace h := h.1 c13
    obtain ⟨h14, h⟩ := h
    obtain ⟨h15, h⟩ := h
    obtain ⟨h16, h⟩ := h
    refine wm_aload_n d_MM_lookUp_36 rfl rfl ?_
    refine wm_iconst d_MM_lookUp_37 ?_
    refine wm_aload_n d_MM_lookUp_38 rfl rfl ?_
    refine gf_MM_38 rfl d_MM_lookUp_39 h14 ?_
    refine gf_MM_276 rfl d_MM_lookUp_42 h15 ?_
    refine wm_iload_n d_MM_lookUp_45 rfl rfl ?_
    refine cf_MM_155 rfl d_MM_lookUp_46 h16 (Nat.le_of_ble_eq_true rfl) (Ci.mono h (fun x18 M17 h => ?_))
    obtain ⟨h19, hOM17, h⟩ := h
    obtain ⟨h20, h⟩ := h
    refine cf_MM_351 rfl d_MM_lookUp_49 h20 (Nat.le_of_ble_eq_true rfl) (Cv.mono h (fun M21 h => ?_))
    obtain ⟨hOM21, h⟩ := h
    refine wm_iconst d_MM_lookUp_52 ?_
    refine wm_ireturn d_MM_lookUp_53 rfl rfl ?_
    exact ⟨_, rfl, h⟩
  · replace h := h.2 c13
    refine wm_iload_n d_MM_lookUp_20 rfl rfl ?_
    refine wm_if_eq (tgt := 54) d_MM_lookUp_21 rfl hi_l2 (fun c25 => ?_) (fun c25 => ?_)
    · replace h := h.1 c25
      obtain ⟨h26, h⟩ := h
      obtain ⟨h27, h⟩ := h
      refine wm_aload_n d_MM_lookUp_54 rfl rfl ?_
      refine gf_MM_51 rfl d_MM_lookUp_55 h26 ?_
      refine wm_iload_n d_MM_lookUp_58 rfl rfl ?_
      refine cf_MM_155 rfl d_MM_lookUp_59 h27 (Nat.le_of_ble_eq_true rfl) (Ci.mono h (fun x29 M28 h => ?_))
      obtain ⟨h30, hOM28, h⟩ := h
      obtain ⟨h31, h⟩ := h
      obtain ⟨h32, h⟩ := h
      obtain ⟨h33, h⟩ := h
      obtain ⟨h34, h⟩ := h
      refine wm_istore d_MM_lookUp_62 (by decide) (L' := [vr a0, vi l1, vi l2, vi x9, vi x29, vd]) rfl ?_
      refine wm_aload_n d_MM_lookUp_64 rfl rfl ?_
      refine gf_MM_38 rfl d_MM_lookUp_65 h31 ?_
      refine gf_MM_284 rfl d_MM_lookUp_68 h32 ?_
      refine gf_MM_293 rfl d_MM_lookUp_71 h33 ?_
      refine wm_iload_n d_MM_lookUp_74 rfl rfl ?_
      refine wm_aload_n d_MM_lookUp_75 rfl rfl ?_
      refine gf_MM_48 rfl d_MM_lookUp_76 h31 ?_
      refine wm_iload_n d_MM_lookUp_79 rfl rfl ?_
      refine cf_MM_155 rfl d_MM_lookUp_80 h34 (Nat.le_of_ble_eq_true rfl) (Ci.mono h (fun x36 M35 h => ?_))
      obtain ⟨h37, hOM35, h⟩ := h
      refine wm_iconst d_MM_lookUp_83 ?_
      have hJ : ∀ v39 : Int, v39 = (if (x36 = 3) then 100 + x29 else x29) → mWm G y_MM_lookUp (d + 1) 97 [vr a0, vd, vd, vi x9, vi x29, vd] [vi v39, vi l1, vr (mR M28 (mR M28 (mR M28 a0 10) 3) 0)] M35 (fun r9 M9 => ∃ x9, r9 = some (vi x9) ∧ Q x9 M9) := by
        intro v39 e41
        have h := h v39 e41
        obtain ⟨h42, h⟩ := h
        obtain ⟨h43, h⟩ := h
        obtain ⟨h44, h⟩ := h
        obtain ⟨M45, e46⟩ : ∃ M45, M45 = mUI M35 (mR M28 (mR M28 (mR M28 a0 10) 3) 0) (Int.toNat l1) v39 := ⟨_, rfl⟩
        replace h := h M45 e46
        obtain ⟨h47, h⟩ := h
        obtain ⟨h48, h⟩ := h
        have hOM45 : mOk M45 := by rw [e46]; exact mOk_UI hOM35 h44
        refine wm_iastE d_MM_lookUp_97 h42 h43 h44 e46 ?_
        refine wm_aload_n d_MM_lookUp_98 rfl rfl ?_
        refine gf_MM_48 rfl d_MM_lookUp_99 h47 ?_
        refine wm_iload_n d_MM_lookUp_102 rfl rfl ?_
        refine cf_MM_155 rfl d_MM_lookUp_103 h48 (Nat.le_of_ble_eq_true rfl) (Ci.mono h (fun x50 M49 h => ?_))
        obtain ⟨h51, hOM49, h⟩ := h
        refine wm_iconst d_MM_lookUp_106 ?_
        obtain ⟨s62, h⟩ := h
        have hJ : ∀ v61 : Int, v61 = (if (x50 = 3) then mI M49 (mR M49 (mR M49 a0 10) 13) (Int.toNat x29) else mI M49 (mR M49 (mR M49 a0 10) 8) (Int.toNat x29)) → mWm G y_MM_lookUp (d + 1) 133 [vd, vd, vd, vd, vd, vd] [vi v61] M49 (fun r9 M9 => ∃ x9, r9 = some (vi x9) ∧ Q x9 M9) := by
          intro v61 e63
          have h := h v61 e63
          obtain ⟨h64, h⟩ := h
          refine wm_istore d_MM_lookUp_133 (by decide) (L' := [vd, vd, vd, vd, vd, vi v61]) rfl ?_
          refine wm_iload d_MM_lookUp_135 rfl ?_
          have hJ : ∀ v66 : Int, v66 = (if (v61 = 0) then 0 else 1) → mWm G y_MM_lookUp (d + 1) 145 [vd, vd, vd, vd, vd, vd] [vi v66] M49 (fun r9 M9 => ∃ x9, r9 = some (vi x9) ∧ Q x9 M9) := by
            intro v66 e68
            have h := h v66 e68
            have h69 : i32 v66 := by rw [e68]; (repeat' split) <;> first | exact ⟨by decide, by decide⟩ | exact ⟨by decide, by decide⟩
            have h70 : (v66 = 0 ∨ v66 = 1) := by rw [e68]; (repeat' split) <;> decide
            refine wm_ireturn d_MM_lookUp_145 rfl rfl ?_
            exact ⟨_, rfl, h⟩
          clear h
          refine wm_if_eq (tgt := 144) d_MM_lookUp_137 rfl h64 (fun c65 => ?_) (fun c65 => ?_)
          · refine wm_iconst d_MM_lookUp_144 ?_
            refine wm_less (L' := [vd, vd, vd, vd, vd, vd]) ⟨Or.inl rfl, Or.inl rfl, Or.inl rfl, Or.inl rfl, Or.inl rfl, Or.inl rfl, trivial⟩ ?_
            exact hJ 0 (if_pos c65).symm
          · refine wm_iconst d_MM_lookUp_140 ?_
            refine wm_goto (tgt := 145) d_MM_lookUp_141 rfl ?_
            refine wm_less (L' := [vd, vd, vd, vd, vd, vd]) ⟨Or.inl rfl, Or.inl rfl, Or.inl rfl, Or.inl rfl, Or.inl rfl, Or.inl rfl, trivial⟩ ?_
            exact hJ 1 (if_neg c65).symm
        clear h
        obtain ⟨s72, s73⟩ := s62
        refine wm_icmp_ne (tgt := 123) d_MM_lookUp_107 rfl h51 ⟨by decide, by decide⟩ (fun c52 => ?_) (fun c52 => ?_)
        · have s73 := s73 c52
          obtain ⟨h57, h58, h59, h60⟩ := s73
          refine wm_aload_n d_MM_lookUp_123 rfl rfl ?_
          refine gf_MM_38 rfl d_MM_lookUp_124 h57 ?_
          refine gf_MM_360 rfl d_MM_lookUp_127 h58 ?_
          refine wm_iload d_MM_lookUp_130 rfl ?_
          refine wm_zald d_MM_lookUp_132 h59 h60 ?_
          refine wm_less (L' := [vd, vd, vd, vd, vd, vd]) ⟨Or.inl rfl, Or.inl rfl, Or.inl rfl, Or.inl rfl, Or.inl rfl, Or.inl rfl, trivial⟩ ?_
          exact hJ (mI M49 (mR M49 (mR M49 a0 10) 8) (Int.toNat x29)) (if_neg c52).symm
        · replace c52 := Classical.not_not.mp c52
          have s72 := s72 c52
          obtain ⟨h53, h54, h55, h56⟩ := s72
          refine wm_aload_n d_MM_lookUp_110 rfl rfl ?_
          refine gf_MM_38 rfl d_MM_lookUp_111 h53 ?_
          refine gf_MM_357 rfl d_MM_lookUp_114 h54 ?_
          refine wm_iload d_MM_lookUp_117 rfl ?_
          refine wm_zald d_MM_lookUp_119 h55 h56 ?_
          refine wm_goto (tgt := 133) d_MM_lookUp_120 rfl ?_
          refine wm_less (L' := [vd, vd, vd, vd, vd, vd]) ⟨Or.inl rfl, Or.inl rfl, Or.inl rfl, Or.inl rfl, Or.inl rfl, Or.inl rfl, trivial⟩ ?_
          exact hJ (mI M49 (mR M49 (mR M49 a0 10) 13) (Int.toNat x29)) (if_pos c52).symm
      clear h
      refine wm_icmp_ne (tgt := 95) d_MM_lookUp_84 rfl h37 ⟨by decide, by decide⟩ (fun c38 => ?_) (fun c38 => ?_)
      · refine wm_iload d_MM_lookUp_95 rfl ?_
        refine wm_less (L' := [vr a0, vd, vd, vi x9, vi x29, vd]) ⟨Or.inr rfl, Or.inl rfl, Or.inl rfl, Or.inr rfl, Or.inr rfl, Or.inl rfl, trivial⟩ ?_
        exact hJ x29 (if_neg c38).symm
      · replace c38 := Classical.not_not.mp c38
        refine wm_bipush d_MM_lookUp_87 (by decide) ?_
        refine wm_iload d_MM_lookUp_89 rfl ?_
        refine wm_iadd d_MM_lookUp_91 ?_
        refine wm_goto (tgt := 97) d_MM_lookUp_92 rfl ?_
        refine wm_less (L' := [vr a0, vd, vd, vi x9, vi x29, vd]) ⟨Or.inr rfl, Or.inl rfl, Or.inl rfl, Or.inr rfl, Or.inr rfl, Or.inl rfl, trivial⟩ ?_
        exact hJ (100 + x29) (if_pos c38).symm
    · replace h := h.2 c25
      obtain ⟨h76, h⟩ := h
      obtain ⟨h77, h⟩ := h
      refine wm_aload_n d_MM_lookUp_24 rfl rfl ?_
      refine gf_MM_48 rfl d_MM_lookUp_25 h76 ?_
      refine wm_iload_n d_MM_lookUp_28 rfl rfl ?_
      refine cf_MM_155 rfl d_MM_lookUp_29 h77 (Nat.le_of_ble_eq_true rfl) (Ci.mono h (fun x79 M78 h => ?_))
      obtain ⟨h80, hOM78, h⟩ := h
      refine wm_iconst d_MM_lookUp_32 ?_
      refine wm_icmp_eq (tgt := 54) d_MM_lookUp_33 rfl h80 ⟨by decide, by decide⟩ (fun c82 => ?_) (fun c82 => ?_)
      · replace h := h.1 c82
        obtain ⟨h83, h⟩ := h
        obtain ⟨h84, h⟩ := h
        refine wm_aload_n d_MM_lookUp_54 rfl rfl ?_
        refine gf_MM_51 rfl d_MM_lookUp_55 h83 ?_
        refine wm_iload_n d_MM_lookUp_58 rfl rfl ?_
        refine cf_MM_155 rfl d_MM_lookUp_59 h84 (Nat.le_of_ble_eq_true rfl) (Ci.mono h (fun x86 M85 h => ?_))
        obtain ⟨h87, hOM85, h⟩ := h
        obtain ⟨h88, h⟩ := h
        obtain ⟨h89, h⟩ := h
        obtain ⟨h90, h⟩ := h
        obtain ⟨h91, h⟩ := h
        refine wm_istore d_MM_lookUp_62 (by decide) (L' := [vr a0, vi l1, vi l2, vi x9, vi x86, vd]) rfl ?_
        refine wm_aload_n d_MM_lookUp_64 rfl rfl ?_
        refine gf_MM_38 rfl d_MM_lookUp_65 h88 ?_
        refine gf_MM_284 rfl d_MM_lookUp_68 h89 ?_
        refine gf_MM_293 rfl d_MM_lookUp_71 h90 ?_
        refine wm_iload_n d_MM_lookUp_74 rfl rfl ?_
        refine wm_aload_n d_MM_lookUp_75 rfl rfl ?_
        refine gf_MM_48 rfl d_MM_lookUp_76 h88 ?_
        refine wm_iload_n d_MM_lookUp_79 rfl rfl ?_
        refine cf_MM_155 rfl d_MM_lookUp_80 h91 (Nat.le_of_ble_eq_true rfl) (Ci.mono h (fun x93 M92 h => ?_))
        obtain ⟨h94, hOM92, h⟩ := h
        refine wm_iconst d_MM_lookUp_83 ?_
        have hJ : ∀ v96 : Int, v96 = (if (x93 = 3) then 100 + x86 else x86) → mWm G y_MM_lookUp (d + 1) 97 [vr a0, vd, vd, vi x9, vi x86, vd] [vi v96, vi l1, vr (mR M85 (mR M85 (mR M85 a0 10) 3) 0)] M92 (fun r9 M9 => ∃ x9, r9 = some (vi x9) ∧ Q x9 M9) := by
          intro v96 e98
          have h := h v96 e98
          obtain ⟨h99, h⟩ := h
          obtain ⟨h100, h⟩ := h
          obtain ⟨h101, h⟩ := h
          obtain ⟨M102, e103⟩ : ∃ M102, M102 = mUI M92 (mR M85 (mR M85 (mR M85 a0 10) 3) 0) (Int.toNat l1) v96 := ⟨_, rfl⟩
          replace h := h M102 e103
          obtain ⟨h104, h⟩ := h
          obtain ⟨h105, h⟩ := h
          have hOM102 : mOk M102 := by rw [e103]; exact mOk_UI hOM92 h101
          refine wm_iastE d_MM_lookUp_97 h99 h100 h101 e103 ?_
          refine wm_aload_n d_MM_lookUp_98 rfl rfl ?_
          refine gf_MM_48 rfl d_MM_lookUp_99 h104 ?_
          refine wm_iload_n d_MM_lookUp_102 rfl rfl ?_
          refine cf_MM_155 rfl d_MM_lookUp_103 h105 (Nat.le_of_ble_eq_true rfl) (Ci.mono h (fun x107 M106 h => ?_))
          obtain ⟨h108, hOM106, h⟩ := h
          refine wm_iconst d_MM_lookUp_106 ?_
          obtain ⟨s119, h⟩ := h
          have hJ : ∀ v118 : Int, v118 = (if (x107 = 3) then mI M106 (mR M106 (mR M106 a0 10) 13) (Int.toNat x86) else mI M106 (mR M106 (mR M106 a0 10) 8) (Int.toNat x86)) → mWm G y_MM_lookUp (d + 1) 133 [vd, vd, vd, vd, vd, vd] [vi v118] M106 (fun r9 M9 => ∃ x9, r9 = some (vi x9) ∧ Q x9 M9) := by
            intro v118 e120
            have h := h v118 e120
            obtain ⟨h121, h⟩ := h
            refine wm_istore d_MM_lookUp_133 (by decide) (L' := [vd, vd, vd, vd, vd, vi v118]) rfl ?_
            refine wm_iload d_MM_lookUp_135 rfl ?_
            have hJ : ∀ v123 : Int, v123 = (if (v118 = 0) then 0 else 1) → mWm G y_MM_lookUp (d + 1) 145 [vd, vd, vd, vd, vd, vd] [vi v123] M106 (fun r9 M9 => ∃ x9, r9 = some (vi x9) ∧ Q x9 M9) := by
              intro v123 e125
              have h := h v123 e125
              have h126 : i32 v123 := by rw [e125]; (repeat' split) <;> first | exact ⟨by decide, by decide⟩ | exact ⟨by decide, by decide⟩
              have h127 : (v123 = 0 ∨ v123 = 1) := by rw [e125]; (repeat' split) <;> decide
              refine wm_ireturn d_MM_lookUp_145 rfl rfl ?_
              exact ⟨_, rfl, h⟩
            clear h
            refine wm_if_eq (tgt := 144) d_MM_lookUp_137 rfl h121 (fun c122 => ?_) (fun c122 => ?_)
            · refine wm_iconst d_MM_lookUp_144 ?_
              refine wm_less (L' := [vd, vd, vd, vd, vd, vd]) ⟨Or.inl rfl, Or.inl rfl, Or.inl rfl, Or.inl rfl, Or.inl rfl, Or.inl rfl, trivial⟩ ?_
              exact hJ 0 (if_pos c122).symm
            · refine wm_iconst d_MM_lookUp_140 ?_
              refine wm_goto (tgt := 145) d_MM_lookUp_141 rfl ?_
              refine wm_less (L' := [vd, vd, vd, vd, vd, vd]) ⟨Or.inl rfl, Or.inl rfl, Or.inl rfl, Or.inl rfl, Or.inl rfl, Or.inl rfl, trivial⟩ ?_
              exact hJ 1 (if_neg c122).symm
          clear h
          obtain ⟨s129, s130⟩ := s119
          refine wm_icmp_ne (tgt := 123) d_MM_lookUp_107 rfl h108 ⟨by decide, by decide⟩ (fun c109 => ?_) (fun c109 => ?_)
          · have s130 := s130 c109
            obtain ⟨h114, h115, h116, h117⟩ := s130
            refine wm_aload_n d_MM_lookUp_123 rfl rfl ?_
            refine gf_MM_38 rfl d_MM_lookUp_124 h114 ?_
            refine gf_MM_360 rfl d_MM_lookUp_127 h115 ?_
            refine wm_iload d_MM_lookUp_130 rfl ?_
            refine wm_zald d_MM_lookUp_132 h116 h117 ?_
            refine wm_less (L' := [vd, vd, vd, vd, vd, vd]) ⟨Or.inl rfl, Or.inl rfl, Or.inl rfl, Or.inl rfl, Or.inl rfl, Or.inl rfl, trivial⟩ ?_
            exact hJ (mI M106 (mR M106 (mR M106 a0 10) 8) (Int.toNat x86)) (if_neg c109).symm
          · replace c109 := Classical.not_not.mp c109
            have s129 := s129 c109
            obtain ⟨h110, h111, h112, h113⟩ := s129
            refine wm_aload_n d_MM_lookUp_110 rfl rfl ?_
            refine gf_MM_38 rfl d_MM_lookUp_111 h110 ?_
            refine gf_MM_357 rfl d_MM_lookUp_114 h111 ?_
            refine wm_iload d_MM_lookUp_117 rfl ?_
            refine wm_zald d_MM_lookUp_119 h112 h113 ?_
            refine wm_goto (tgt := 133) d_MM_lookUp_120 rfl ?_
            refine wm_less (L' := [vd, vd, vd, vd, vd, vd]) ⟨Or.inl rfl, Or.inl rfl, Or.inl rfl, Or.inl rfl, Or.inl rfl, Or.inl rfl, trivial⟩ ?_
            exact hJ (mI M106 (mR M106 (mR M106 a0 10) 13) (Int.toNat x86)) (if_pos c109).symm
        clear h
        refine wm_icmp_ne (tgt := 95) d_MM_lookUp_84 rfl h94 ⟨by decide, by decide⟩ (fun c95 => ?_) (fun c95 => ?_)
        · refine wm_iload d_MM_lookUp_95 rfl ?_
          refine wm_less (L' := [vr a0, vd, vd, vi x9, vi x86, vd]) ⟨Or.inr rfl, Or.inl rfl, Or.inl rfl, Or.inr rfl, Or.inr rfl, Or.inl rfl, trivial⟩ ?_
          exact hJ x86 (if_neg c95).symm
        · replace c95 := Classical.not_not.mp c95
          refine wm_bipush d_MM_lookUp_87 (by decide) ?_
          refine wm_iload d_MM_lookUp_89 rfl ?_
          refine wm_iadd d_MM_lookUp_91 ?_
          refine wm_goto (tgt := 97) d_MM_lookUp_92 rfl ?_
          refine wm_less (L' := [vr a0, vd, vd, vi x9, vi x86, vd]) ⟨Or.inr rfl, Or.inl rfl, Or.inl rfl, Or.inr rfl, Or.inr rfl, Or.inl rfl, trivial⟩ ?_
          exact hJ (100 + x86) (if_pos c95).symm
      · replace h := h.2 c82
        obtain ⟨h133, h⟩ := h
        obtain ⟨h134, h⟩ := h
        obtain ⟨h135, h⟩ := h
        refine wm_aload_n d_MM_lookUp_36 rfl rfl ?_
        refine wm_iconst d_MM_lookUp_37 ?_
        refine wm_aload_n d_MM_lookUp_38 rfl rfl ?_
        refine gf_MM_38 rfl d_MM_lookUp_39 h133 ?_
        refine gf_MM_276 rfl d_MM_lookUp_42 h134 ?_
        refine wm_iload_n d_MM_lookUp_45 rfl rfl ?_
        refine cf_MM_155 rfl d_MM_lookUp_46 h135 (Nat.le_of_ble_eq_true rfl) (Ci.mono h (fun x137 M136 h => ?_))
        obtain ⟨h138, hOM136, h⟩ := h
        obtain ⟨h139, h⟩ := h
        refine cf_MM_351 rfl d_MM_lookUp_49 h139 (Nat.le_of_ble_eq_true rfl) (Cv.mono h (fun M140 h => ?_))
        obtain ⟨hOM140, h⟩ := h
        refine wm_iconst d_MM_lookUp_52 ?_
        refine wm_ireturn d_MM_lookUp_53 rfl rfl ?_
        exact ⟨_, rfl, h⟩
theorem d_MM_rule1_0 : decode y_MM_rule1.2.1 0 = .ok (.aload_n 0, 1) := by decide +kernel
theorem d_MM_rule1_1 : decode y_MM_rule1.2.1 1 = .ok (.iload_n 1, 1) := by decide +kernel
theorem d_MM_rule1_2 : decode y_MM_rule1.2.1 2 = .ok (.iload_n 2, 1) := by decide +kernel
theorem d_MM_rule1_3 : decode y_MM_rule1.2.1 3 = .ok (.invokevirtual 363, 3) := by decide +kernel
theorem d_MM_rule1_6 : decode y_MM_rule1.2.1 6 = .ok (.istore 5, 2) := by decide +kernel
theorem d_MM_rule1_8 : decode y_MM_rule1.2.1 8 = .ok (.aload_n 0, 1) := by decide +kernel
theorem d_MM_rule1_9 : decode y_MM_rule1.2.1 9 = .ok (.iload 5, 2) := by decide +kernel
theorem d_MM_rule1_11 : decode y_MM_rule1.2.1 11 = .ok (.iload 4, 2) := by decide +kernel
theorem d_MM_rule1_13 : decode y_MM_rule1.2.1 13 = .ok (.invokevirtual 366, 3) := by decide +kernel
theorem d_MM_rule1_16 : decode y_MM_rule1.2.1 16 = .ok (.istore 6, 2) := by decide +kernel
theorem d_MM_rule1_18 : decode y_MM_rule1.2.1 18 = .ok (.aload_n 0, 1) := by decide +kernel
theorem d_MM_rule1_19 : decode y_MM_rule1.2.1 19 = .ok (.getfield 267, 3) := by decide +kernel
theorem d_MM_rule1_22 : decode y_MM_rule1.2.1 22 = .ok (.ifCond .ne 19, 3) := by decide +kernel
theorem d_MM_rule1_25 : decode y_MM_rule1.2.1 25 = .ok (.iload 6, 2) := by decide +kernel
theorem d_MM_rule1_27 : decode y_MM_rule1.2.1 27 = .ok (.iload_n 3, 1) := by decide +kernel
theorem d_MM_rule1_28 : decode y_MM_rule1.2.1 28 = .ok (.if_icmp .eq 13, 3) := by decide +kernel
theorem d_MM_rule1_31 : decode y_MM_rule1.2.1 31 = .ok (.aload_n 0, 1) := by decide +kernel
theorem d_MM_rule1_32 : decode y_MM_rule1.2.1 32 = .ok (.iconst 3, 1) := by decide +kernel
theorem d_MM_rule1_33 : decode y_MM_rule1.2.1 33 = .ok (.aload_n 0, 1) := by decide +kernel
theorem d_MM_rule1_34 : decode y_MM_rule1.2.1 34 = .ok (.iload_n 1, 1) := by decide +kernel
theorem d_MM_rule1_41 : decode y_MM_rule1.2.1 41 = .ok (.iload 5, 2) := by decide +kernel
theorem d_MM_rule1_43 : decode y_MM_rule1.2.1 43 = .ok (.ireturn, 1) := by decide +kernel
theorem d_MM_rule1_35 : decode y_MM_rule1.2.1 35 = .ok (.invokevirtual 279, 3) := by decide +kernel
theorem d_MM_rule1_38 : decode y_MM_rule1.2.1 38 = .ok (.invokevirtual 351, 3) := by decide +kernel
theorem k_MM_rule1 {G : mG} {d : Nat} {a0 : Nat} {l1 : Int} {l2 : Int} {l3 : Int} {l4 : Int} {M : mM} {Q : Int → mM → Prop} (hO : mOk M) (hi_l1 : i32 l1) (hi_l2 : i32 l2) (hi_l3 : i32 l3) (hi_l4 : i32 l4)
    (h : mK M a0 = 14 ∧ Ci G y_MM_tree d [vr a0, vi l1, vi l2] M (fun x3 M2 => i32 x3 ∧ mOk M2 ∧ (mK M2 a0 = 14 ∧ Ci G y_MM_look d [vr a0, vi x3, vi l4] M2 (fun x7 M6 => i32 x7 ∧ mOk M6 ∧ (mK M6 a0 = 14 ∧ (((¬ (mI M6 a0 16 = 0)) ∨ (x7 = l3)) → (Q x3 M6)) ∧ (¬ ((¬ (mI M6 a0 16 = 0)) ∨ (x7 = l3)) → (Ci G y_MM_place0 d [vr a0, vi l1] M6 (fun x18 M17 => i32 x18 ∧ mOk M17 ∧ (mK M17 a0 = 14 ∧ Cv G y_MM_stop d [vr a0, vi 3, vi x18] M17 (fun M21 => mOk M21 ∧ (Q x3 M21))))))))))) :
    Ci G y_MM_rule1 (d + 1) [vr a0, vi l1, vi l2, vi l3, vi l4] M Q := by
  refine wm_open (y := y_MM_rule1) rfl (Nat.le_of_ble_eq_true rfl) (L := [vr a0, vi l1, vi l2, vi l3, vi l4, vd, vd]) rfl ?_
  obtain ⟨h1, h⟩ := h
  refine wm_aload_n d_MM_rule1_0 rfl rfl ?_
  refine wm_iload_n d_MM_rule1_1 rfl rfl ?_
  refine wm_iload_n d_MM_rule1_2 rfl rfl ?_
  refine cf_MM_363 rfl d_MM_rule1_3 h1 (Nat.le_of_ble_eq_true rfl) (Ci.mono h (fun x3 M2 h => ?_))
  obtain ⟨h4, hOM2, h⟩ := h
  obtain ⟨h5, h⟩ := h
  refine wm_istore d_MM_rule1_6 (by decide) (L' := [vr a0, vi l1, vi l2, vi l3, vi l4, vi x3, vd]) rfl ?_
  refine wm_aload_n d_MM_rule1_8 rfl rfl ?_
  refine wm_iload d_MM_rule1_9 rfl ?_
  refine wm_iload d_MM_rule1_11 rfl ?_
  refine cf_MM_366 rfl d_MM_rule1_13 h5 (Nat.le_of_ble_eq_true rfl) (Ci.mono h (fun x7 M6 h => ?_))
  obtain ⟨h8, hOM6, h⟩ := h
  obtain ⟨h9, h⟩ := h
  refine wm_istore d_MM_rule1_16 (by decide) (L' := [vr a0, vi l1, vi l2, vi l3, vi l4, vi x3, vi x7]) rfl ?_
  refine wm_aload_n d_MM_rule1_18 rfl rfl ?_
  refine gf_MM_267 rfl d_MM_rule1_19 h9 ?_
  have hE0 : ((¬ (mI M6 a0 16 = 0)) ∨ (x7 = l3)) → mWm G y_MM_rule1 (d + 1) 41 [vr a0, vi l1, vi l2, vi l3, vi l4, vi x3, vi x7] [] M6 (fun r9 M9 => ∃ x9, r9 = some (vi x9) ∧ Q x9 M9) := by
    intro q15
    have h := h.1 q15
    refine wm_iload d_MM_rule1_41 rfl ?_
    refine wm_ireturn d_MM_rule1_43 rfl rfl ?_
    exact ⟨_, rfl, h⟩
  have hE1 : ¬ ((¬ (mI M6 a0 16 = 0)) ∨ (x7 = l3)) → mWm G y_MM_rule1 (d + 1) 31 [vr a0, vi l1, vi l2, vi l3, vi l4, vi x3, vi x7] [] M6 (fun r9 M9 => ∃ x9, r9 = some (vi x9) ∧ Q x9 M9) := by
    intro q16
    have h := h.2 q16
    refine wm_aload_n d_MM_rule1_31 rfl rfl ?_
    refine wm_iconst d_MM_rule1_32 ?_
    refine wm_aload_n d_MM_rule1_33 rfl rfl ?_
    refine wm_iload_n d_MM_rule1_34 rfl rfl ?_
    refine cf_MM_279 rfl d_MM_rule1_35 h9 (Nat.le_of_ble_eq_true rfl) (Ci.mono h (fun x18 M17 h => ?_))
    obtain ⟨h19, hOM17, h⟩ := h
    obtain ⟨h20, h⟩ := h
    refine cf_MM_351 rfl d_MM_rule1_38 h20 (Nat.le_of_ble_eq_true rfl) (Cv.mono h (fun M21 h => ?_))
    obtain ⟨hOM21, h⟩ := h
    refine wm_iload d_MM_rule1_41 rfl ?_
    refine wm_ireturn d_MM_rule1_43 rfl rfl ?_
    exact ⟨_, rfl, h⟩
  clear h
  refine wm_if_ne (tgt := 41) d_MM_rule1_22 rfl (hOM6 _ _).1 (fun c13 => ?_) (fun c13 => ?_)
  · exact hE0 (Or.inl c13)
  · replace c13 := Classical.not_not.mp c13
    refine wm_iload d_MM_rule1_25 rfl ?_
    refine wm_iload_n d_MM_rule1_27 rfl rfl ?_
    refine wm_icmp_eq (tgt := 41) d_MM_rule1_28 rfl h8 hi_l3 (fun c12 => ?_) (fun c12 => ?_)
    · exact hE0 (Or.inr c12)
    · exact hE1 (fun z24 => Or.elim z24 (fun w => w c13) c12)
theorem d_MM_push_0 : decode y_MM_push.2.1 0 = .ok (.aload_n 0, 1) := by decide +kernel
theorem d_MM_push_1 : decode y_MM_push.2.1 1 = .ok (.getfield 63, 3) := by decide +kernel
theorem d_MM_push_4 : decode y_MM_push.2.1 4 = .ok (.aload_n 0, 1) := by decide +kernel
theorem d_MM_push_5 : decode y_MM_push.2.1 5 = .ok (.getfield 370, 3) := by decide +kernel
theorem d_MM_push_8 : decode y_MM_push.2.1 8 = .ok (.lload_n 1, 1) := by decide +kernel
theorem d_MM_push_9 : decode y_MM_push.2.1 9 = .ok (.lastore, 1) := by decide +kernel
theorem d_MM_push_10 : decode y_MM_push.2.1 10 = .ok (.aload_n 0, 1) := by decide +kernel
theorem d_MM_push_11 : decode y_MM_push.2.1 11 = .ok (.getfield 67, 3) := by decide +kernel
theorem d_MM_push_14 : decode y_MM_push.2.1 14 = .ok (.aload_n 0, 1) := by decide +kernel
theorem d_MM_push_15 : decode y_MM_push.2.1 15 = .ok (.getfield 370, 3) := by decide +kernel
theorem d_MM_push_18 : decode y_MM_push.2.1 18 = .ok (.lload_n 3, 1) := by decide +kernel
theorem d_MM_push_19 : decode y_MM_push.2.1 19 = .ok (.lastore, 1) := by decide +kernel
theorem d_MM_push_20 : decode y_MM_push.2.1 20 = .ok (.aload_n 0, 1) := by decide +kernel
theorem d_MM_push_21 : decode y_MM_push.2.1 21 = .ok (.aload_n 0, 1) := by decide +kernel
theorem d_MM_push_22 : decode y_MM_push.2.1 22 = .ok (.getfield 370, 3) := by decide +kernel
theorem d_MM_push_25 : decode y_MM_push.2.1 25 = .ok (.iconst 1, 1) := by decide +kernel
theorem d_MM_push_26 : decode y_MM_push.2.1 26 = .ok (.iadd, 1) := by decide +kernel
theorem d_MM_push_27 : decode y_MM_push.2.1 27 = .ok (.putfield 370, 3) := by decide +kernel
theorem d_MM_push_30 : decode y_MM_push.2.1 30 = .ok (.return_, 1) := by decide +kernel
theorem k_MM_push {G : mG} {d : Nat} {a0 : Nat} {j1 : Int} {j3 : Int} {M : mM} {Q : mM → Prop} (hO : mOk M) (hi_j1 : i64 j1) (hi_j3 : i64 j3)
    (h : mK M a0 = 14 ∧ mK M (mR M a0 21) = 33 ∧ ((0 : Int) ≤ mI M a0 23 ∧ mI M a0 23 < (mN M (mR M a0 21) : Int)) ∧ ∀ M4, M4 = mUL M (mR M a0 21) (Int.toNat (mI M a0 23)) j1 → mK M4 (mR M4 a0 22) = 33 ∧ ((0 : Int) ≤ mI M4 a0 23 ∧ mI M4 a0 23 < (mN M4 (mR M4 a0 22) : Int)) ∧ ∀ M8, M8 = mUL M4 (mR M4 a0 22) (Int.toNat (mI M4 a0 23)) j3 → i32 ((mI M8 a0 23) + 1) ∧ ∀ M11, M11 = mUI M8 a0 23 ((mI M8 a0 23) + 1) → Q M11) :
    Cv G y_MM_push d [vr a0, vl j1, vl j3] M Q := by
  refine wm_open (y := y_MM_push) rfl (Nat.le_of_ble_eq_true rfl) (L := [vr a0, vl j1, vd, vl j3, vd]) rfl ?_
  obtain ⟨h1, h⟩ := h
  obtain ⟨h2, h⟩ := h
  obtain ⟨h3, h⟩ := h
  obtain ⟨M4, e5⟩ : ∃ M4, M4 = mUL M (mR M a0 21) (Int.toNat (mI M a0 23)) j1 := ⟨_, rfl⟩
  replace h := h M4 e5
  obtain ⟨h6, h⟩ := h
  obtain ⟨h7, h⟩ := h
  obtain ⟨M8, e9⟩ : ∃ M8, M8 = mUL M4 (mR M4 a0 22) (Int.toNat (mI M4 a0 23)) j3 := ⟨_, rfl⟩
  replace h := h M8 e9
  obtain ⟨h10, h⟩ := h
  obtain ⟨M11, e12⟩ : ∃ M11, M11 = mUI M8 a0 23 ((mI M8 a0 23) + 1) := ⟨_, rfl⟩
  replace h := h M11 e12
  refine wm_aload_n d_MM_push_0 rfl rfl ?_
  refine gf_MM_63 rfl d_MM_push_1 h1 ?_
  refine wm_aload_n d_MM_push_4 rfl rfl ?_
  refine gf_MM_370 rfl d_MM_push_5 h1 ?_
  refine wm_lload_n d_MM_push_8 rfl rfl ?_
  have hOM4 : mOk M4 := by rw [e5]; exact mOk_UL hO hi_j1
  refine wm_lastE d_MM_push_9 h2 h3 hi_j1 e5 ?_
  refine wm_aload_n d_MM_push_10 rfl rfl ?_
  refine gf_MM_67 rfl d_MM_push_11 (by rw [e5]; exact h1) ?_
  refine wm_aload_n d_MM_push_14 rfl rfl ?_
  refine gf_MM_370 rfl d_MM_push_15 (by rw [e5]; exact h1) ?_
  refine wm_lload_n d_MM_push_18 rfl rfl ?_
  have hOM8 : mOk M8 := by rw [e9]; exact mOk_UL hOM4 hi_j3
  refine wm_lastE d_MM_push_19 h6 h7 hi_j3 e9 ?_
  refine wm_aload_n d_MM_push_20 rfl rfl ?_
  refine wm_aload_n d_MM_push_21 rfl rfl ?_
  refine gf_MM_370 rfl d_MM_push_22 (by rw [e9, e5]; exact h1) ?_
  refine wm_iconst d_MM_push_25 ?_
  refine wm_iadd d_MM_push_26 ?_
  have hOM11 : mOk M11 := by rw [e12]; exact mOk_UI hOM8 h10
  refine pf_MM_370 rfl d_MM_push_27 (by rw [e9, e5]; exact h1) h10 e12 ?_
  refine wm_return d_MM_push_30 rfl ?_
  exact ⟨rfl, h⟩
theorem d_MM_pushTruth_0 : decode y_MM_pushTruth.2.1 0 = .ok (.aload_n 0, 1) := by decide +kernel
theorem d_MM_pushTruth_1 : decode y_MM_pushTruth.2.1 1 = .ok (.iload_n 1, 1) := by decide +kernel
theorem d_MM_pushTruth_2 : decode y_MM_pushTruth.2.1 2 = .ok (.ifCond .eq 7, 3) := by decide +kernel
theorem d_MM_pushTruth_9 : decode y_MM_pushTruth.2.1 9 = .ok (.lconst 0, 1) := by decide +kernel
theorem d_MM_pushTruth_5 : decode y_MM_pushTruth.2.1 5 = .ok (.lconst 1, 1) := by decide +kernel
theorem d_MM_pushTruth_6 : decode y_MM_pushTruth.2.1 6 = .ok (.goto 4, 3) := by decide +kernel
theorem d_MM_pushTruth_10 : decode y_MM_pushTruth.2.1 10 = .ok (.lconst 0, 1) := by decide +kernel
theorem d_MM_pushTruth_11 : decode y_MM_pushTruth.2.1 11 = .ok (.invokevirtual 373, 3) := by decide +kernel
theorem d_MM_pushTruth_14 : decode y_MM_pushTruth.2.1 14 = .ok (.return_, 1) := by decide +kernel
theorem k_MM_pushTruth {G : mG} {d : Nat} {a0 : Nat} {l1 : Int} {M : mM} {Q : mM → Prop} (hO : mOk M) (hi_l1 : i32 l1)
    (h : ∀ v2 : Int, v2 = (if (l1 = 0) then 0 else 1) → mK M a0 = 14 ∧ Cv G y_MM_push d [vr a0, vl v2, vl 0] M (fun M7 => mOk M7 ∧ (Q M7))) :
    Cv G y_MM_pushTruth (d + 1) [vr a0, vi l1] M Q := by
  refine wm_open (y := y_MM_pushTruth) rfl (Nat.le_of_ble_eq_true rfl) (L := [vr a0, vi l1]) rfl ?_
  refine wm_aload_n d_MM_pushTruth_0 rfl rfl ?_
  refine wm_iload_n d_MM_pushTruth_1 rfl rfl ?_
  have hJ : ∀ v2 : Int, v2 = (if (l1 = 0) then 0 else 1) → mWm G y_MM_pushTruth (d + 1) 10 [vd, vd] [vl v2, vr a0] M (fun r9 M9 => r9 = none ∧ Q M9) := by
    intro v2 e4
    have h := h v2 e4
    have h5 : (v2 = 0 ∨ v2 = 1) := by rw [e4]; (repeat' split) <;> decide
    obtain ⟨h6, h⟩ := h
    refine wm_lconst (x := 0) d_MM_pushTruth_10 rfl ?_
    refine cf_MM_373 rfl d_MM_pushTruth_11 h6 (Nat.le_of_ble_eq_true rfl) (Cv.mono h (fun M7 h => ?_))
    obtain ⟨hOM7, h⟩ := h
    refine wm_return d_MM_pushTruth_14 rfl ?_
    exact ⟨rfl, h⟩
  clear h
  refine wm_if_eq (tgt := 9) d_MM_pushTruth_2 rfl hi_l1 (fun c1 => ?_) (fun c1 => ?_)
  · refine wm_lconst (x := 0) d_MM_pushTruth_9 rfl ?_
    refine wm_less (L' := [vd, vd]) ⟨Or.inl rfl, Or.inl rfl, trivial⟩ ?_
    exact hJ 0 (if_pos c1).symm
  · refine wm_lconst (x := 1) d_MM_pushTruth_5 rfl ?_
    refine wm_goto (tgt := 10) d_MM_pushTruth_6 rfl ?_
    refine wm_less (L' := [vd, vd]) ⟨Or.inl rfl, Or.inl rfl, trivial⟩ ?_
    exact hJ 1 (if_neg c1).symm
theorem d_MM_divisor_0 : decode y_MM_divisor.2.1 0 = .ok (.lload_n 0, 1) := by decide +kernel
theorem d_MM_divisor_1 : decode y_MM_divisor.2.1 1 = .ok (.lconst 0, 1) := by decide +kernel
theorem d_MM_divisor_2 : decode y_MM_divisor.2.1 2 = .ok (.lcmp, 1) := by decide +kernel
theorem d_MM_divisor_3 : decode y_MM_divisor.2.1 3 = .ok (.ifCond .ge 8, 3) := by decide +kernel
theorem d_MM_divisor_11 : decode y_MM_divisor.2.1 11 = .ok (.lload_n 0, 1) := by decide +kernel
theorem d_MM_divisor_6 : decode y_MM_divisor.2.1 6 = .ok (.lload_n 0, 1) := by decide +kernel
theorem d_MM_divisor_7 : decode y_MM_divisor.2.1 7 = .ok (.lneg, 1) := by decide +kernel
theorem d_MM_divisor_8 : decode y_MM_divisor.2.1 8 = .ok (.goto 4, 3) := by decide +kernel
theorem d_MM_divisor_12 : decode y_MM_divisor.2.1 12 = .ok (.lstore 4, 2) := by decide +kernel
theorem d_MM_divisor_14 : decode y_MM_divisor.2.1 14 = .ok (.lload_n 2, 1) := by decide +kernel
theorem d_MM_divisor_15 : decode y_MM_divisor.2.1 15 = .ok (.lstore 6, 2) := by decide +kernel
theorem d_MM_divisor_17 : decode y_MM_divisor.2.1 17 = .ok (.lload 6, 2) := by decide +kernel
theorem d_MM_divisor_19 : decode y_MM_divisor.2.1 19 = .ok (.lconst 0, 1) := by decide +kernel
theorem d_MM_divisor_20 : decode y_MM_divisor.2.1 20 = .ok (.lcmp, 1) := by decide +kernel
theorem d_MM_divisor_21 : decode y_MM_divisor.2.1 21 = .ok (.ifCond .le 21, 3) := by decide +kernel
theorem d_MM_divisor_42 : decode y_MM_divisor.2.1 42 = .ok (.lload 4, 2) := by decide +kernel
theorem d_MM_divisor_44 : decode y_MM_divisor.2.1 44 = .ok (.lreturn, 1) := by decide +kernel
theorem d_MM_divisor_24 : decode y_MM_divisor.2.1 24 = .ok (.lload 4, 2) := by decide +kernel
theorem d_MM_divisor_26 : decode y_MM_divisor.2.1 26 = .ok (.lload 6, 2) := by decide +kernel
theorem d_MM_divisor_28 : decode y_MM_divisor.2.1 28 = .ok (.lrem, 1) := by decide +kernel
theorem d_MM_divisor_29 : decode y_MM_divisor.2.1 29 = .ok (.lstore 8, 2) := by decide +kernel
theorem d_MM_divisor_31 : decode y_MM_divisor.2.1 31 = .ok (.lload 6, 2) := by decide +kernel
theorem d_MM_divisor_33 : decode y_MM_divisor.2.1 33 = .ok (.lstore 4, 2) := by decide +kernel
theorem d_MM_divisor_35 : decode y_MM_divisor.2.1 35 = .ok (.lload 8, 2) := by decide +kernel
theorem d_MM_divisor_37 : decode y_MM_divisor.2.1 37 = .ok (.lstore 6, 2) := by decide +kernel
theorem d_MM_divisor_39 : decode y_MM_divisor.2.1 39 = .ok (.goto (-22), 3) := by decide +kernel
def h_MM_divisor_17 (G : mG) (d : Nat) (j4 : Int) (j6 : Int) (M : mM) (Q : Int → mM → Prop) : Prop := mWm G y_MM_divisor d 17 [vd, vd, vd, vd, vl j4, vd, vl j6, vd, vd, vd] [] M (fun r9 M9 => ∃ x9, r9 = some (vl x9) ∧ Q x9 M9)
theorem k_MM_divisor {G : mG} {d : Nat} {j0 : Int} {j2 : Int} {M : mM} {Q : Int → mM → Prop} (hO : mOk M) (hi_j0 : i64 j0) (hi_j2 : i64 j2)
    (h : ∀ v2 : Int, v2 = (if (0 ≤ cmpL j0 0) then j0 else -j0) → h_MM_divisor_17 G d v2 j2 M Q) :
    Cj G y_MM_divisor d [vl j0, vl j2] M Q := by
  refine wm_open (y := y_MM_divisor) rfl (Nat.le_of_ble_eq_true rfl) (L := [vl j0, vd, vl j2, vd, vd, vd, vd, vd, vd, vd]) rfl ?_
  refine wm_lload_n d_MM_divisor_0 rfl rfl ?_
  refine wm_lconst (x := 0) d_MM_divisor_1 rfl ?_
  refine wm_lcmp d_MM_divisor_2 hi_j0 ⟨by decide, by decide⟩ ?_
  have hJ : ∀ v2 : Int, v2 = (if (0 ≤ cmpL j0 0) then j0 else -j0) → mWm G y_MM_divisor d 12 [vd, vd, vl j2, vd, vd, vd, vd, vd, vd, vd] [vl v2] M (fun r9 M9 => ∃ x9, r9 = some (vl x9) ∧ Q x9 M9) := by
    intro v2 e4
    have h := h v2 e4
    refine wm_lstore d_MM_divisor_12 (by decide) (L' := [vd, vd, vl j2, vd, vl v2, vd, vd, vd, vd, vd]) rfl ?_
    refine wm_lload_n d_MM_divisor_14 rfl rfl ?_
    refine wm_lstore d_MM_divisor_15 (by decide) (L' := [vd, vd, vl j2, vd, vl v2, vd, vl j2, vd, vd, vd]) rfl ?_
    refine wm_less (L' := [vd, vd, vd, vd, vl v2, vd, vl j2, vd, vd, vd]) ⟨Or.inl rfl, Or.inl rfl, Or.inl rfl, Or.inl rfl, Or.inr rfl, Or.inl rfl, Or.inr rfl, Or.inl rfl, Or.inl rfl, Or.inl rfl, trivial⟩ ?_
    exact h
  clear h
  refine wm_if_ge (tgt := 11) d_MM_divisor_3 rfl (m_cmp32 _ _) (fun c1 => ?_) (fun c1 => ?_)
  · refine wm_lload_n d_MM_divisor_11 rfl rfl ?_
    refine wm_less (L' := [vd, vd, vl j2, vd, vd, vd, vd, vd, vd, vd]) ⟨Or.inl rfl, Or.inl rfl, Or.inr rfl, Or.inl rfl, Or.inl rfl, Or.inl rfl, Or.inl rfl, Or.inl rfl, Or.inl rfl, Or.inl rfl, trivial⟩ ?_
    exact hJ j0 (if_pos c1).symm
  · refine wm_lload_n d_MM_divisor_6 rfl rfl ?_
    refine wm_lneg d_MM_divisor_7 ?_
    refine wm_goto (tgt := 12) d_MM_divisor_8 rfl ?_
    refine wm_less (L' := [vd, vd, vl j2, vd, vd, vd, vd, vd, vd, vd]) ⟨Or.inl rfl, Or.inl rfl, Or.inr rfl, Or.inl rfl, Or.inl rfl, Or.inl rfl, Or.inl rfl, Or.inl rfl, Or.inl rfl, Or.inl rfl, trivial⟩ ?_
    exact hJ (-j0) (if_neg c1).symm
theorem k_MM_divisor_17 {G : mG} {d : Nat} {j4 : Int} {j6 : Int} {M : mM} {Q : Int → mM → Prop} (hO : mOk M) (hi_j4 : i64 j4) (hi_j6 : i64 j6)
    (h : ((cmpL j6 0 ≤ 0) → (Q j4 M)) ∧ (¬ (cmpL j6 0 ≤ 0) → (j6 ≠ 0 ∧ h_MM_divisor_17 G d j6 (Int.tmod j4 j6) M Q))) :
    h_MM_divisor_17 G d j4 j6 M Q := by
  unfold h_MM_divisor_17
  refine wm_lload d_MM_divisor_17 rfl ?_
  refine wm_lconst (x := 0) d_MM_divisor_19 rfl ?_
  refine wm_lcmp d_MM_divisor_20 hi_j6 ⟨by decide, by decide⟩ ?_
  refine wm_if_le (tgt := 42) d_MM_divisor_21 rfl (m_cmp32 _ _) (fun c8 => ?_) (fun c8 => ?_)
  · replace h := h.1 c8
    refine wm_lload d_MM_divisor_42 rfl ?_
    refine wm_lreturn d_MM_divisor_44 rfl ?_
    exact ⟨_, rfl, h⟩
  · replace h := h.2 c8
    obtain ⟨h9, h⟩ := h
    refine wm_lload d_MM_divisor_24 rfl ?_
    refine wm_lload d_MM_divisor_26 rfl ?_
    refine wm_lrem d_MM_divisor_28 hi_j4 hi_j6 h9 ?_
    refine wm_lstore d_MM_divisor_29 (by decide) (L' := [vd, vd, vd, vd, vl j4, vd, vl j6, vd, vl (Int.tmod j4 j6), vd]) rfl ?_
    refine wm_lload d_MM_divisor_31 rfl ?_
    refine wm_lstore d_MM_divisor_33 (by decide) (L' := [vd, vd, vd, vd, vl j6, vd, vl j6, vd, vl (Int.tmod j4 j6), vd]) rfl ?_
    refine wm_lload d_MM_divisor_35 rfl ?_
    refine wm_lstore d_MM_divisor_37 (by decide) (L' := [vd, vd, vd, vd, vl j6, vd, vl (Int.tmod j4 j6), vd, vl (Int.tmod j4 j6), vd]) rfl ?_
    refine wm_goto (tgt := 17) d_MM_divisor_39 rfl ?_
    refine wm_less (L' := [vd, vd, vd, vd, vl j6, vd, vl (Int.tmod j4 j6), vd, vd, vd]) ⟨Or.inl rfl, Or.inl rfl, Or.inl rfl, Or.inl rfl, Or.inr rfl, Or.inl rfl, Or.inr rfl, Or.inl rfl, Or.inl rfl, Or.inl rfl, trivial⟩ ?_
    exact h
theorem d_MM_pushFraction_0 : decode y_MM_pushFraction.2.1 0 = .ok (.lload_n 1, 1) := by decide +kernel
theorem d_MM_pushFraction_1 : decode y_MM_pushFraction.2.1 1 = .ok (.lload_n 3, 1) := by decide +kernel
theorem d_MM_pushFraction_2 : decode y_MM_pushFraction.2.1 2 = .ok (.invokestatic 377, 3) := by decide +kernel
theorem d_MM_pushFraction_5 : decode y_MM_pushFraction.2.1 5 = .ok (.lstore 6, 2) := by decide +kernel
theorem d_MM_pushFraction_7 : decode y_MM_pushFraction.2.1 7 = .ok (.lload_n 1, 1) := by decide +kernel
theorem d_MM_pushFraction_8 : decode y_MM_pushFraction.2.1 8 = .ok (.lload 6, 2) := by decide +kernel
theorem d_MM_pushFraction_10 : decode y_MM_pushFraction.2.1 10 = .ok (.ldiv, 1) := by decide +kernel
theorem d_MM_pushFraction_11 : decode y_MM_pushFraction.2.1 11 = .ok (.lstore 8, 2) := by decide +kernel
theorem d_MM_pushFraction_13 : decode y_MM_pushFraction.2.1 13 = .ok (.lload_n 3, 1) := by decide +kernel
theorem d_MM_pushFraction_14 : decode y_MM_pushFraction.2.1 14 = .ok (.lload 6, 2) := by decide +kernel
theorem d_MM_pushFraction_16 : decode y_MM_pushFraction.2.1 16 = .ok (.ldiv, 1) := by decide +kernel
theorem d_MM_pushFraction_17 : decode y_MM_pushFraction.2.1 17 = .ok (.lstore 10, 2) := by decide +kernel
theorem d_MM_pushFraction_19 : decode y_MM_pushFraction.2.1 19 = .ok (.lload 8, 2) := by decide +kernel
theorem d_MM_pushFraction_21 : decode y_MM_pushFraction.2.1 21 = .ok (.ldc2_w 381, 3) := by decide +kernel
theorem d_MM_pushFraction_24 : decode y_MM_pushFraction.2.1 24 = .ok (.lcmp, 1) := by decide +kernel
theorem d_MM_pushFraction_25 : decode y_MM_pushFraction.2.1 25 = .ok (.ifCond .ge 21, 3) := by decide +kernel
theorem d_MM_pushFraction_46 : decode y_MM_pushFraction.2.1 46 = .ok (.aload_n 0, 1) := by decide +kernel
theorem d_MM_pushFraction_47 : decode y_MM_pushFraction.2.1 47 = .ok (.bipush 6, 2) := by decide +kernel
theorem d_MM_pushFraction_49 : decode y_MM_pushFraction.2.1 49 = .ok (.iload 5, 2) := by decide +kernel
theorem d_MM_pushFraction_28 : decode y_MM_pushFraction.2.1 28 = .ok (.lload 8, 2) := by decide +kernel
theorem d_MM_pushFraction_30 : decode y_MM_pushFraction.2.1 30 = .ok (.ldc2_w 383, 3) := by decide +kernel
theorem d_MM_pushFraction_33 : decode y_MM_pushFraction.2.1 33 = .ok (.lcmp, 1) := by decide +kernel
theorem d_MM_pushFraction_34 : decode y_MM_pushFraction.2.1 34 = .ok (.ifCond .le 12, 3) := by decide +kernel
theorem d_MM_pushFraction_37 : decode y_MM_pushFraction.2.1 37 = .ok (.lload 10, 2) := by decide +kernel
theorem d_MM_pushFraction_39 : decode y_MM_pushFraction.2.1 39 = .ok (.ldc2_w 381, 3) := by decide +kernel
theorem d_MM_pushFraction_42 : decode y_MM_pushFraction.2.1 42 = .ok (.lcmp, 1) := by decide +kernel
theorem d_MM_pushFraction_43 : decode y_MM_pushFraction.2.1 43 = .ok (.ifCond .lt 11, 3) := by decide +kernel
theorem d_MM_pushFraction_51 : decode y_MM_pushFraction.2.1 51 = .ok (.invokevirtual 351, 3) := by decide +kernel
theorem d_MM_pushFraction_54 : decode y_MM_pushFraction.2.1 54 = .ok (.aload_n 0, 1) := by decide +kernel
theorem d_MM_pushFraction_55 : decode y_MM_pushFraction.2.1 55 = .ok (.lload 8, 2) := by decide +kernel
theorem d_MM_pushFraction_57 : decode y_MM_pushFraction.2.1 57 = .ok (.lload 10, 2) := by decide +kernel
theorem d_MM_pushFraction_59 : decode y_MM_pushFraction.2.1 59 = .ok (.invokevirtual 373, 3) := by decide +kernel
theorem d_MM_pushFraction_62 : decode y_MM_pushFraction.2.1 62 = .ok (.return_, 1) := by decide +kernel
theorem k_MM_pushFraction {G : mG} {d : Nat} {a0 : Nat} {j1 : Int} {j3 : Int} {l5 : Int} {M : mM} {Q : mM → Prop} (hO : mOk M) (hi_j1 : i64 j1) (hi_j3 : i64 j3) (hi_l5 : i32 l5)
    (h : Cj G y_MM_divisor d [vl j1, vl j3] M (fun x2 M1 => i64 x2 ∧ mOk M1 ∧ (x2 ≠ 0 ∧ x2 ≠ 0 ∧ i64 (Int.tdiv j1 x2) ∧ (¬ (0 ≤ cmpL (Int.tdiv j1 x2) 1000000000) → (¬ (cmpL (Int.tdiv j1 x2) (-1000000000) ≤ 0) → i64 (Int.tdiv j3 x2))) ∧ (((0 ≤ cmpL (Int.tdiv j1 x2) 1000000000) ∨ ((cmpL (Int.tdiv j1 x2) (-1000000000) ≤ 0) ∨ (¬ (cmpL (Int.tdiv j3 x2) 1000000000 < 0)))) → (mK M1 a0 = 14 ∧ Cv G y_MM_stop d [vr a0, vi 6, vi l5] M1 (fun M15 => mOk M15 ∧ (mK M15 a0 = 14 ∧ Cv G y_MM_push d [vr a0, vl (Int.tdiv j1 x2), vl (Int.tdiv j3 x2)] M15 (fun M19 => mOk M19 ∧ (Q M19)))))) ∧ (¬ ((0 ≤ cmpL (Int.tdiv j1 x2) 1000000000) ∨ ((cmpL (Int.tdiv j1 x2) (-1000000000) ≤ 0) ∨ (¬ (cmpL (Int.tdiv j3 x2) 1000000000 < 0)))) → (mK M1 a0 = 14 ∧ Cv G y_MM_push d [vr a0, vl (Int.tdiv j1 x2), vl (Int.tdiv j3 x2)] M1 (fun M24 => mOk M24 ∧ (Q M24))))))) :
    Cv G y_MM_pushFraction (d + 1) [vr a0, vl j1, vl j3, vi l5] M Q := by
  refine wm_open (y := y_MM_pushFraction) rfl (Nat.le_of_ble_eq_true rfl) (L := [vr a0, vl j1, vd, vl j3, vd, vi l5, vd, vd, vd, vd, vd, vd]) rfl ?_
  refine wm_lload_n d_MM_pushFraction_0 rfl rfl ?_
  refine wm_lload_n d_MM_pushFraction_1 rfl rfl ?_
  refine cf_MM_377 rfl d_MM_pushFraction_2 (Nat.le_of_ble_eq_true rfl) (Cj.mono h (fun x2 M1 h => ?_))
  obtain ⟨h3, hOM1, h⟩ := h
  obtain ⟨h4, h⟩ := h
  obtain ⟨h5, h⟩ := h
  obtain ⟨h6, h⟩ := h
  refine wm_lstore d_MM_pushFraction_5 (by decide) (L' := [vr a0, vl j1, vd, vl j3, vd, vi l5, vl x2, vd, vd, vd, vd, vd]) rfl ?_
  refine wm_lload_n d_MM_pushFraction_7 rfl rfl ?_
  refine wm_lload d_MM_pushFraction_8 rfl ?_
  refine wm_ldiv d_MM_pushFraction_10 hi_j1 h3 h4 ?_
  refine wm_lstore d_MM_pushFraction_11 (by decide) (L' := [vr a0, vl j1, vd, vl j3, vd, vi l5, vl x2, vd, vl (Int.tdiv j1 x2), vd, vd, vd]) rfl ?_
  refine wm_lload_n d_MM_pushFraction_13 rfl rfl ?_
  refine wm_lload d_MM_pushFraction_14 rfl ?_
  refine wm_ldiv d_MM_pushFraction_16 hi_j3 h3 h5 ?_
  refine wm_lstore d_MM_pushFraction_17 (by decide) (L' := [vr a0, vl j1, vd, vl j3, vd, vi l5, vl x2, vd, vl (Int.tdiv j1 x2), vd, vl (Int.tdiv j3 x2), vd]) rfl ?_
  refine wm_lload d_MM_pushFraction_19 rfl ?_
  refine wm_ldc2 (x := 1000000000) d_MM_pushFraction_21 k12_27 (by decide) ?_
  refine wm_lcmp d_MM_pushFraction_24 h6 ⟨by decide, by decide⟩ ?_
  obtain ⟨s12, h⟩ := h
  have hE0 : ((0 ≤ cmpL (Int.tdiv j1 x2) 1000000000) ∨ ((cmpL (Int.tdiv j1 x2) (-1000000000) ≤ 0) ∨ (¬ (cmpL (Int.tdiv j3 x2) 1000000000 < 0)))) → mWm G y_MM_pushFraction (d + 1) 46 [vr a0, vl j1, vd, vl j3, vd, vi l5, vl x2, vd, vl (Int.tdiv j1 x2), vd, vl (Int.tdiv j3 x2), vd] [] M1 (fun r9 M9 => r9 = none ∧ Q M9) := by
    intro q13
    have h := h.1 q13
    obtain ⟨h14, h⟩ := h
    refine wm_aload_n d_MM_pushFraction_46 rfl rfl ?_
    refine wm_bipush d_MM_pushFraction_47 (by decide) ?_
    refine wm_iload d_MM_pushFraction_49 rfl ?_
    refine cf_MM_351 rfl d_MM_pushFraction_51 h14 (Nat.le_of_ble_eq_true rfl) (Cv.mono h (fun M15 h => ?_))
    obtain ⟨hOM15, h⟩ := h
    obtain ⟨h18, h⟩ := h
    refine wm_aload_n d_MM_pushFraction_54 rfl rfl ?_
    refine wm_lload d_MM_pushFraction_55 rfl ?_
    refine wm_lload d_MM_pushFraction_57 rfl ?_
    refine cf_MM_373 rfl d_MM_pushFraction_59 h18 (Nat.le_of_ble_eq_true rfl) (Cv.mono h (fun M19 h => ?_))
    obtain ⟨hOM19, h⟩ := h
    refine wm_return d_MM_pushFraction_62 rfl ?_
    exact ⟨rfl, h⟩
  have hE1 : ¬ ((0 ≤ cmpL (Int.tdiv j1 x2) 1000000000) ∨ ((cmpL (Int.tdiv j1 x2) (-1000000000) ≤ 0) ∨ (¬ (cmpL (Int.tdiv j3 x2) 1000000000 < 0)))) → mWm G y_MM_pushFraction (d + 1) 54 [vr a0, vl j1, vd, vl j3, vd, vi l5, vl x2, vd, vl (Int.tdiv j1 x2), vd, vl (Int.tdiv j3 x2), vd] [] M1 (fun r9 M9 => r9 = none ∧ Q M9) := by
    intro q22
    have h := h.2 q22
    obtain ⟨h23, h⟩ := h
    refine wm_aload_n d_MM_pushFraction_54 rfl rfl ?_
    refine wm_lload d_MM_pushFraction_55 rfl ?_
    refine wm_lload d_MM_pushFraction_57 rfl ?_
    refine cf_MM_373 rfl d_MM_pushFraction_59 h23 (Nat.le_of_ble_eq_true rfl) (Cv.mono h (fun M24 h => ?_))
    obtain ⟨hOM24, h⟩ := h
    refine wm_return d_MM_pushFraction_62 rfl ?_
    exact ⟨rfl, h⟩
  clear h
  have s27 := s12
  refine wm_if_ge (tgt := 46) d_MM_pushFraction_25 rfl (m_cmp32 _ _) (fun c11 => ?_) (fun c11 => ?_)
  · exact hE0 (Or.inl c11)
  · have s27 := s27 c11
    have s28 := s27
    refine wm_lload d_MM_pushFraction_28 rfl ?_
    refine wm_ldc2 (x := (-1000000000)) d_MM_pushFraction_30 k12_28 (by decide) ?_
    refine wm_lcmp d_MM_pushFraction_33 h6 ⟨by decide, by decide⟩ ?_
    refine wm_if_le (tgt := 46) d_MM_pushFraction_34 rfl (m_cmp32 _ _) (fun c10 => ?_) (fun c10 => ?_)
    · exact hE0 (Or.inr (Or.inl c10))
    · have s28 := s28 c10
      have h8 := s28
      refine wm_lload d_MM_pushFraction_37 rfl ?_
      refine wm_ldc2 (x := 1000000000) d_MM_pushFraction_39 k12_27 (by decide) ?_
      refine wm_lcmp d_MM_pushFraction_42 h8 ⟨by decide, by decide⟩ ?_
      refine wm_if_lt (tgt := 54) d_MM_pushFraction_43 rfl (m_cmp32 _ _) (fun c9 => ?_) (fun c9 => ?_)
      · exact hE1 (fun z29 => Or.elim z29 c11 (fun z30 => Or.elim z30 c10 (fun z31 => z31 c9)))
      · exact hE0 (Or.inr (Or.inr c9))
theorem d_MM_todo_0 : decode y_MM_todo.2.1 0 = .ok (.aload_n 0, 1) := by decide +kernel
theorem d_MM_todo_1 : decode y_MM_todo.2.1 1 = .ok (.getfield 70, 3) := by decide +kernel
theorem d_MM_todo_4 : decode y_MM_todo.2.1 4 = .ok (.iload_n 1, 1) := by decide +kernel
theorem d_MM_todo_5 : decode y_MM_todo.2.1 5 = .ok (.invokevirtual 152, 3) := by decide +kernel
theorem d_MM_todo_8 : decode y_MM_todo.2.1 8 = .ok (.aload_n 0, 1) := by decide +kernel
theorem d_MM_todo_9 : decode y_MM_todo.2.1 9 = .ok (.getfield 70, 3) := by decide +kernel
theorem d_MM_todo_12 : decode y_MM_todo.2.1 12 = .ok (.iload_n 2, 1) := by decide +kernel
theorem d_MM_todo_13 : decode y_MM_todo.2.1 13 = .ok (.invokevirtual 152, 3) := by decide +kernel
theorem d_MM_todo_16 : decode y_MM_todo.2.1 16 = .ok (.return_, 1) := by decide +kernel
theorem k_MM_todo {G : mG} {d : Nat} {a0 : Nat} {l1 : Int} {l2 : Int} {M : mM} {Q : mM → Prop} (hO : mOk M) (hi_l1 : i32 l1) (hi_l2 : i32 l2)
    (h : mK M a0 = 14 ∧ mK M (mR M a0 24) = 15 ∧ Cv G y_MN_add d [vr (mR M a0 24), vi l1] M (fun M3 => mOk M3 ∧ (mK M3 a0 = 14 ∧ mK M3 (mR M3 a0 24) = 15 ∧ Cv G y_MN_add d [vr (mR M3 a0 24), vi l2] M3 (fun M8 => mOk M8 ∧ (Q M8))))) :
    Cv G y_MM_todo (d + 1) [vr a0, vi l1, vi l2] M Q := by
  refine wm_open (y := y_MM_todo) rfl (Nat.le_of_ble_eq_true rfl) (L := [vr a0, vi l1, vi l2]) rfl ?_
  obtain ⟨h1, h⟩ := h
  obtain ⟨h2, h⟩ := h
  refine wm_aload_n d_MM_todo_0 rfl rfl ?_
  refine gf_MM_70 rfl d_MM_todo_1 h1 ?_
  refine wm_iload_n d_MM_todo_4 rfl rfl ?_
  refine cf_MM_152 rfl d_MM_todo_5 h2 (Nat.le_of_ble_eq_true rfl) (Cv.mono h (fun M3 h => ?_))
  obtain ⟨hOM3, h⟩ := h
  obtain ⟨h6, h⟩ := h
  obtain ⟨h7, h⟩ := h
  refine wm_aload_n d_MM_todo_8 rfl rfl ?_
  refine gf_MM_70 rfl d_MM_todo_9 h6 ?_
  refine wm_iload_n d_MM_todo_12 rfl rfl ?_
  refine cf_MM_152 rfl d_MM_todo_13 h7 (Nat.le_of_ble_eq_true rfl) (Cv.mono h (fun M8 h => ?_))
  obtain ⟨hOM8, h⟩ := h
  refine wm_return d_MM_todo_16 rfl ?_
  exact ⟨rfl, h⟩
theorem d_MM_workOut_0 : decode y_MM_workOut.2.1 0 = .ok (.aload_n 0, 1) := by decide +kernel
theorem d_MM_workOut_1 : decode y_MM_workOut.2.1 1 = .ok (.iconst 0, 1) := by decide +kernel
theorem d_MM_workOut_2 : decode y_MM_workOut.2.1 2 = .ok (.putfield 370, 3) := by decide +kernel
theorem d_MM_workOut_5 : decode y_MM_workOut.2.1 5 = .ok (.aload_n 0, 1) := by decide +kernel
theorem d_MM_workOut_6 : decode y_MM_workOut.2.1 6 = .ok (.getfield 70, 3) := by decide +kernel
theorem d_MM_workOut_9 : decode y_MM_workOut.2.1 9 = .ok (.iconst 0, 1) := by decide +kernel
theorem d_MM_workOut_10 : decode y_MM_workOut.2.1 10 = .ok (.putfield 145, 3) := by decide +kernel
theorem d_MM_workOut_13 : decode y_MM_workOut.2.1 13 = .ok (.aload_n 0, 1) := by decide +kernel
theorem d_MM_workOut_14 : decode y_MM_workOut.2.1 14 = .ok (.iconst 0, 1) := by decide +kernel
theorem d_MM_workOut_15 : decode y_MM_workOut.2.1 15 = .ok (.iload_n 2, 1) := by decide +kernel
theorem d_MM_workOut_16 : decode y_MM_workOut.2.1 16 = .ok (.invokevirtual 385, 3) := by decide +kernel
theorem d_MM_workOut_19 : decode y_MM_workOut.2.1 19 = .ok (.aload_n 0, 1) := by decide +kernel
theorem d_MM_workOut_20 : decode y_MM_workOut.2.1 20 = .ok (.getfield 70, 3) := by decide +kernel
theorem d_MM_workOut_23 : decode y_MM_workOut.2.1 23 = .ok (.getfield 145, 3) := by decide +kernel
theorem d_MM_workOut_26 : decode y_MM_workOut.2.1 26 = .ok (.ifCond .le 115, 3) := by decide +kernel
theorem d_MM_workOut_29 : decode y_MM_workOut.2.1 29 = .ok (.aload_n 0, 1) := by decide +kernel
theorem d_MM_workOut_30 : decode y_MM_workOut.2.1 30 = .ok (.getfield 267, 3) := by decide +kernel
theorem d_MM_workOut_33 : decode y_MM_workOut.2.1 33 = .ok (.ifCond .ne 108, 3) := by decide +kernel
theorem d_MM_workOut_36 : decode y_MM_workOut.2.1 36 = .ok (.aload_n 0, 1) := by decide +kernel
theorem d_MM_workOut_37 : decode y_MM_workOut.2.1 37 = .ok (.getfield 70, 3) := by decide +kernel
theorem d_MM_workOut_141 : decode y_MM_workOut.2.1 141 = .ok (.return_, 1) := by decide +kernel
theorem d_MM_workOut_40 : decode y_MM_workOut.2.1 40 = .ok (.invokevirtual 232, 3) := by decide +kernel
theorem d_MM_workOut_43 : decode y_MM_workOut.2.1 43 = .ok (.istore_n 3, 1) := by decide +kernel
theorem d_MM_workOut_44 : decode y_MM_workOut.2.1 44 = .ok (.aload_n 0, 1) := by decide +kernel
theorem d_MM_workOut_45 : decode y_MM_workOut.2.1 45 = .ok (.getfield 70, 3) := by decide +kernel
theorem d_MM_workOut_48 : decode y_MM_workOut.2.1 48 = .ok (.invokevirtual 232, 3) := by decide +kernel
theorem d_MM_workOut_51 : decode y_MM_workOut.2.1 51 = .ok (.istore 4, 2) := by decide +kernel
theorem d_MM_workOut_53 : decode y_MM_workOut.2.1 53 = .ok (.iload 4, 2) := by decide +kernel
theorem d_MM_workOut_55 : decode y_MM_workOut.2.1 55 = .ok (.ifCond .ne 12, 3) := by decide +kernel
theorem d_MM_workOut_58 : decode y_MM_workOut.2.1 58 = .ok (.aload_n 0, 1) := by decide +kernel
theorem d_MM_workOut_59 : decode y_MM_workOut.2.1 59 = .ok (.aload_n 1, 1) := by decide +kernel
theorem d_MM_workOut_60 : decode y_MM_workOut.2.1 60 = .ok (.iload_n 3, 1) := by decide +kernel
theorem d_MM_workOut_67 : decode y_MM_workOut.2.1 67 = .ok (.iload 4, 2) := by decide +kernel
theorem d_MM_workOut_69 : decode y_MM_workOut.2.1 69 = .ok (.iconst 1, 1) := by decide +kernel
theorem d_MM_workOut_70 : decode y_MM_workOut.2.1 70 = .ok (.if_icmp .ne 12, 3) := by decide +kernel
theorem d_MM_workOut_73 : decode y_MM_workOut.2.1 73 = .ok (.aload_n 0, 1) := by decide +kernel
theorem d_MM_workOut_74 : decode y_MM_workOut.2.1 74 = .ok (.aload_n 1, 1) := by decide +kernel
theorem d_MM_workOut_75 : decode y_MM_workOut.2.1 75 = .ok (.iload_n 3, 1) := by decide +kernel
theorem d_MM_workOut_82 : decode y_MM_workOut.2.1 82 = .ok (.iload 4, 2) := by decide +kernel
theorem d_MM_workOut_84 : decode y_MM_workOut.2.1 84 = .ok (.iconst 2, 1) := by decide +kernel
theorem d_MM_workOut_85 : decode y_MM_workOut.2.1 85 = .ok (.if_icmp .ne 12, 3) := by decide +kernel
theorem d_MM_workOut_88 : decode y_MM_workOut.2.1 88 = .ok (.aload_n 0, 1) := by decide +kernel
theorem d_MM_workOut_89 : decode y_MM_workOut.2.1 89 = .ok (.aload_n 1, 1) := by decide +kernel
theorem d_MM_workOut_90 : decode y_MM_workOut.2.1 90 = .ok (.iload_n 3, 1) := by decide +kernel
theorem d_MM_workOut_97 : decode y_MM_workOut.2.1 97 = .ok (.aload_n 0, 1) := by decide +kernel
theorem d_MM_workOut_98 : decode y_MM_workOut.2.1 98 = .ok (.getfield 77, 3) := by decide +kernel
theorem d_MM_workOut_101 : decode y_MM_workOut.2.1 101 = .ok (.iload_n 3, 1) := by decide +kernel
theorem d_MM_workOut_102 : decode y_MM_workOut.2.1 102 = .ok (.iconst 1, 1) := by decide +kernel
theorem d_MM_workOut_103 : decode y_MM_workOut.2.1 103 = .ok (.bastore, 1) := by decide +kernel
theorem d_MM_workOut_104 : decode y_MM_workOut.2.1 104 = .ok (.aload_n 0, 1) := by decide +kernel
theorem d_MM_workOut_105 : decode y_MM_workOut.2.1 105 = .ok (.getfield 81, 3) := by decide +kernel
theorem d_MM_workOut_108 : decode y_MM_workOut.2.1 108 = .ok (.iload_n 3, 1) := by decide +kernel
theorem d_MM_workOut_109 : decode y_MM_workOut.2.1 109 = .ok (.aload_n 0, 1) := by decide +kernel
theorem d_MM_workOut_110 : decode y_MM_workOut.2.1 110 = .ok (.getfield 63, 3) := by decide +kernel
theorem d_MM_workOut_113 : decode y_MM_workOut.2.1 113 = .ok (.aload_n 0, 1) := by decide +kernel
theorem d_MM_workOut_114 : decode y_MM_workOut.2.1 114 = .ok (.getfield 370, 3) := by decide +kernel
theorem d_MM_workOut_117 : decode y_MM_workOut.2.1 117 = .ok (.iconst 1, 1) := by decide +kernel
theorem d_MM_workOut_118 : decode y_MM_workOut.2.1 118 = .ok (.isub, 1) := by decide +kernel
theorem d_MM_workOut_119 : decode y_MM_workOut.2.1 119 = .ok (.laload, 1) := by decide +kernel
theorem d_MM_workOut_120 : decode y_MM_workOut.2.1 120 = .ok (.lastore, 1) := by decide +kernel
theorem d_MM_workOut_61 : decode y_MM_workOut.2.1 61 = .ok (.invokevirtual 387, 3) := by decide +kernel
theorem d_MM_workOut_64 : decode y_MM_workOut.2.1 64 = .ok (.goto 74, 3) := by decide +kernel
theorem d_MM_workOut_76 : decode y_MM_workOut.2.1 76 = .ok (.invokevirtual 391, 3) := by decide +kernel
theorem d_MM_workOut_79 : decode y_MM_workOut.2.1 79 = .ok (.goto 59, 3) := by decide +kernel
theorem d_MM_workOut_91 : decode y_MM_workOut.2.1 91 = .ok (.invokevirtual 394, 3) := by decide +kernel
theorem d_MM_workOut_94 : decode y_MM_workOut.2.1 94 = .ok (.goto 44, 3) := by decide +kernel
theorem d_MM_workOut_121 : decode y_MM_workOut.2.1 121 = .ok (.aload_n 0, 1) := by decide +kernel
theorem d_MM_workOut_122 : decode y_MM_workOut.2.1 122 = .ok (.getfield 84, 3) := by decide +kernel
theorem d_MM_workOut_125 : decode y_MM_workOut.2.1 125 = .ok (.iload_n 3, 1) := by decide +kernel
theorem d_MM_workOut_126 : decode y_MM_workOut.2.1 126 = .ok (.aload_n 0, 1) := by decide +kernel
theorem d_MM_workOut_127 : decode y_MM_workOut.2.1 127 = .ok (.getfield 67, 3) := by decide +kernel
theorem d_MM_workOut_130 : decode y_MM_workOut.2.1 130 = .ok (.aload_n 0, 1) := by decide +kernel
theorem d_MM_workOut_131 : decode y_MM_workOut.2.1 131 = .ok (.getfield 370, 3) := by decide +kernel
theorem d_MM_workOut_134 : decode y_MM_workOut.2.1 134 = .ok (.iconst 1, 1) := by decide +kernel
theorem d_MM_workOut_135 : decode y_MM_workOut.2.1 135 = .ok (.isub, 1) := by decide +kernel
theorem d_MM_workOut_136 : decode y_MM_workOut.2.1 136 = .ok (.laload, 1) := by decide +kernel
theorem d_MM_workOut_137 : decode y_MM_workOut.2.1 137 = .ok (.lastore, 1) := by decide +kernel
theorem d_MM_workOut_138 : decode y_MM_workOut.2.1 138 = .ok (.goto (-119), 3) := by decide +kernel
def h_MM_workOut_19 (G : mG) (d : Nat) (a0 : Nat) (a1 : Nat) (M : mM) (Q : mM → Prop) : Prop := mWm G y_MM_workOut (d + 1) 19 [vr a0, vr a1, vd, vd, vd] [] M (fun r9 M9 => r9 = none ∧ Q M9)
def h_MM_workOut_138 (G : mG) (d : Nat) (a0 : Nat) (a1 : Nat) (M : mM) (Q : mM → Prop) : Prop := mWm G y_MM_workOut (d + 1) 138 [vr a0, vr a1, vd, vd, vd] [] M (fun r9 M9 => r9 = none ∧ Q M9)
theorem k_MM_workOut {G : mG} {d : Nat} {a0 : Nat} {a1 : Nat} {l2 : Int} {M : mM} {Q : mM → Prop} (hO : mOk M) (hi_l2 : i32 l2)
    (h : mK M a0 = 14 ∧ ∀ M2, M2 = mUI M a0 23 0 → mK M2 (mR M2 a0 24) = 15 ∧ ∀ M5, M5 = mUI M2 (mR M2 a0 24) 1 0 → Cv G y_MM_todo d [vr a0, vi 0, vi l2] M5 (fun M7 => mOk M7 ∧ (h_MM_workOut_19 G d a0 a1 M7 Q))) :
    Cv G y_MM_workOut (d + 1) [vr a0, vr a1, vi l2] M Q := by
  refine wm_open (y := y_MM_workOut) rfl (Nat.le_of_ble_eq_true rfl) (L := [vr a0, vr a1, vi l2, vd, vd]) rfl ?_
  obtain ⟨h1, h⟩ := h
  obtain ⟨M2, e3⟩ : ∃ M2, M2 = mUI M a0 23 0 := ⟨_, rfl⟩
  replace h := h M2 e3
  obtain ⟨h4, h⟩ := h
  obtain ⟨M5, e6⟩ : ∃ M5, M5 = mUI M2 (mR M2 a0 24) 1 0 := ⟨_, rfl⟩
  replace h := h M5 e6
  refine wm_aload_n d_MM_workOut_0 rfl rfl ?_
  refine wm_iconst d_MM_workOut_1 ?_
  have hOM2 : mOk M2 := by rw [e3]; exact mOk_UI hO ⟨by decide, by decide⟩
  refine pf_MM_370 rfl d_MM_workOut_2 h1 ⟨by decide, by decide⟩ e3 ?_
  refine wm_aload_n d_MM_workOut_5 rfl rfl ?_
  refine gf_MM_70 rfl d_MM_workOut_6 (by rw [e3]; exact h1) ?_
  refine wm_iconst d_MM_workOut_9 ?_
  have hOM5 : mOk M5 := by rw [e6]; exact mOk_UI hOM2 ⟨by decide, by decide⟩
  refine pf_MM_145 rfl d_MM_workOut_10 h4 ⟨by decide, by decide⟩ e6 ?_
  refine wm_aload_n d_MM_workOut_13 rfl rfl ?_
  refine wm_iconst d_MM_workOut_14 ?_
  refine wm_iload_n d_MM_workOut_15 rfl rfl ?_
  refine cf_MM_385 rfl d_MM_workOut_16 (by rw [e6, e3]; exact h1) (Nat.le_of_ble_eq_true rfl) (Cv.mono h (fun M7 h => ?_))
  obtain ⟨hOM7, h⟩ := h
  refine wm_less (L' := [vr a0, vr a1, vd, vd, vd]) ⟨Or.inr rfl, Or.inr rfl, Or.inl rfl, Or.inl rfl, Or.inl rfl, trivial⟩ ?_
  exact h
theorem k_MM_workOut_19 {G : mG} {d : Nat} {a0 : Nat} {a1 : Nat} {M : mM} {Q : mM → Prop} (hO : mOk M)
    (h : mK M a0 = 14 ∧ mK M (mR M a0 24) = 15 ∧ (((mI M (mR M a0 24) 1 ≤ 0) ∨ (¬ (mI M a0 16 = 0))) → (Q M)) ∧ (¬ ((mI M (mR M a0 24) 1 ≤ 0) ∨ (¬ (mI M a0 16 = 0))) → (Ci G y_MN_take d [vr (mR M a0 24)] M (fun x18 M17 => i32 x18 ∧ mOk M17 ∧ (mK M17 a0 = 14 ∧ mK M17 (mR M17 a0 24) = 15 ∧ Ci G y_MN_take d [vr (mR M17 a0 24)] M17 (fun x23 M22 => i32 x23 ∧ mOk M22 ∧ (((x23 = 0) → (mK M22 a0 = 14 ∧ Cv G y_MM_begin d [vr a0, vr a1, vi x18] M22 (fun M30 => mOk M30 ∧ (h_MM_workOut_138 G d a0 a1 M30 Q)))) ∧ (¬ (x23 = 0) → (((x23 = 1) → (mK M22 a0 = 14 ∧ Cv G y_MM_finish d [vr a0, vr a1, vi x18] M22 (fun M37 => mOk M37 ∧ (h_MM_workOut_138 G d a0 a1 M37 Q)))) ∧ (¬ (x23 = 1) → (((x23 = 2) → (mK M22 a0 = 14 ∧ Cv G y_MM_choose0 d [vr a0, vr a1, vi x18] M22 (fun M43 => mOk M43 ∧ (h_MM_workOut_138 G d a0 a1 M43 Q)))) ∧ (¬ (x23 = 2) → (mK M22 a0 = 14 ∧ mK M22 (mR M22 a0 26) = 31 ∧ ((0 : Int) ≤ x18 ∧ x18 < (mN M22 (mR M22 a0 26) : Int)) ∧ ∀ M49, M49 = mUI M22 (mR M22 a0 26) (Int.toNat x18) 1 → mK M49 (mR M49 a0 21) = 33 ∧ ((0 : Int) ≤ (mI M49 a0 23) - 1 ∧ (mI M49 a0 23) - 1 < (mN M49 (mR M49 a0 21) : Int)) ∧ mK M49 (mR M49 a0 27) = 33 ∧ ((0 : Int) ≤ x18 ∧ x18 < (mN M49 (mR M49 a0 27) : Int)) ∧ ∀ M55, M55 = mUL M49 (mR M49 a0 27) (Int.toNat x18) (mL M49 (mR M49 a0 21) (Int.toNat ((mI M49 a0 23) - 1))) → mK M55 (mR M55 a0 22) = 33 ∧ ((0 : Int) ≤ (mI M55 a0 23) - 1 ∧ (mI M55 a0 23) - 1 < (mN M55 (mR M55 a0 22) : Int)) ∧ mK M55 (mR M55 a0 28) = 33 ∧ ((0 : Int) ≤ x18 ∧ x18 < (mN M55 (mR M55 a0 28) : Int)) ∧ ∀ M61, M61 = mUL M55 (mR M55 a0 28) (Int.toNat x18) (mL M55 (mR M55 a0 22) (Int.toNat ((mI M55 a0 23) - 1))) → h_MM_workOut_138 G d a0 a1 M61 Q))))))))))))) :
    h_MM_workOut_19 G d a0 a1 M Q := by
  unfold h_MM_workOut_19
  obtain ⟨h10, h⟩ := h
  obtain ⟨h11, h⟩ := h
  refine wm_aload_n d_MM_workOut_19 rfl rfl ?_
  refine gf_MM_70 rfl d_MM_workOut_20 h10 ?_
  refine gf_MM_145 rfl d_MM_workOut_23 h11 ?_
  have hE0 : ((mI M (mR M a0 24) 1 ≤ 0) ∨ (¬ (mI M a0 16 = 0))) → mWm G y_MM_workOut (d + 1) 141 [vr a0, vr a1, vd, vd, vd] [] M (fun r9 M9 => r9 = none ∧ Q M9) := by
    intro q15
    have h := h.1 q15
    refine wm_return d_MM_workOut_141 rfl ?_
    exact ⟨rfl, h⟩
  have hE1 : ¬ ((mI M (mR M a0 24) 1 ≤ 0) ∨ (¬ (mI M a0 16 = 0))) → mWm G y_MM_workOut (d + 1) 36 [vr a0, vr a1, vd, vd, vd] [] M (fun r9 M9 => r9 = none ∧ Q M9) := by
    intro q16
    have h := h.2 q16
    refine wm_aload_n d_MM_workOut_36 rfl rfl ?_
    refine gf_MM_70 rfl d_MM_workOut_37 h10 ?_
    refine cf_MM_232 rfl d_MM_workOut_40 h11 (Nat.le_of_ble_eq_true rfl) (Ci.mono h (fun x18 M17 h => ?_))
    obtain ⟨h19, hOM17, h⟩ := h
    obtain ⟨h20, h⟩ := h
    obtain ⟨h21, h⟩ := h
    refine wm_istore_n d_MM_workOut_43 rfl (by decide) (L' := [vr a0, vr a1, vd, vi x18, vd]) rfl ?_
    refine wm_aload_n d_MM_workOut_44 rfl rfl ?_
    refine gf_MM_70 rfl d_MM_workOut_45 h20 ?_
    refine cf_MM_232 rfl d_MM_workOut_48 h21 (Nat.le_of_ble_eq_true rfl) (Ci.mono h (fun x23 M22 h => ?_))
    obtain ⟨h24, hOM22, h⟩ := h
    refine wm_istore d_MM_workOut_51 (by decide) (L' := [vr a0, vr a1, vd, vi x18, vi x23]) rfl ?_
    refine wm_iload d_MM_workOut_53 rfl ?_
    refine wm_if_ne (tgt := 67) d_MM_workOut_55 rfl h24 (fun c28 => ?_) (fun c28 => ?_)
    · replace h := h.2 c28
      refine wm_iload d_MM_workOut_67 rfl ?_
      refine wm_iconst d_MM_workOut_69 ?_
      refine wm_icmp_ne (tgt := 82) d_MM_workOut_70 rfl h24 ⟨by decide, by decide⟩ (fun c35 => ?_) (fun c35 => ?_)
      · replace h := h.2 c35
        refine wm_iload d_MM_workOut_82 rfl ?_
        refine wm_iconst d_MM_workOut_84 ?_
        refine wm_icmp_ne (tgt := 97) d_MM_workOut_85 rfl h24 ⟨by decide, by decide⟩ (fun c41 => ?_) (fun c41 => ?_)
        · replace h := h.2 c41
          obtain ⟨h46, h⟩ := h
          obtain ⟨h47, h⟩ := h
          obtain ⟨h48, h⟩ := h
          obtain ⟨M49, e50⟩ : ∃ M49, M49 = mUI M22 (mR M22 a0 26) (Int.toNat x18) 1 := ⟨_, rfl⟩
          replace h := h M49 e50
          obtain ⟨h51, h⟩ := h
          obtain ⟨h52, h⟩ := h
          obtain ⟨h53, h⟩ := h
          obtain ⟨h54, h⟩ := h
          obtain ⟨M55, e56⟩ : ∃ M55, M55 = mUL M49 (mR M49 a0 27) (Int.toNat x18) (mL M49 (mR M49 a0 21) (Int.toNat ((mI M49 a0 23) - 1))) := ⟨_, rfl⟩
          replace h := h M55 e56
          obtain ⟨h57, h⟩ := h
          obtain ⟨h58, h⟩ := h
          obtain ⟨h59, h⟩ := h
          obtain ⟨h60, h⟩ := h
          obtain ⟨M61, e62⟩ : ∃ M61, M61 = mUL M55 (mR M55 a0 28) (Int.toNat x18) (mL M55 (mR M55 a0 22) (Int.toNat ((mI M55 a0 23) - 1))) := ⟨_, rfl⟩
          replace h := h M61 e62
          refine wm_aload_n d_MM_workOut_97 rfl rfl ?_
          refine gf_MM_77 rfl d_MM_workOut_98 h46 ?_
          refine wm_iload_n d_MM_workOut_101 rfl rfl ?_
          refine wm_iconst d_MM_workOut_102 ?_
          have hOM49 : mOk M49 := by rw [e50]; exact mOk_UI hOM22 (m_b32 (by decide))
          refine wm_zastE d_MM_workOut_103 h47 h48 (by decide) e50 ?_
          refine wm_aload_n d_MM_workOut_104 rfl rfl ?_
          refine gf_MM_81 rfl d_MM_workOut_105 (by rw [e50]; exact h46) ?_
          refine wm_iload_n d_MM_workOut_108 rfl rfl ?_
          refine wm_aload_n d_MM_workOut_109 rfl rfl ?_
          refine gf_MM_63 rfl d_MM_workOut_110 (by rw [e50]; exact h46) ?_
          refine wm_aload_n d_MM_workOut_113 rfl rfl ?_
          refine gf_MM_370 rfl d_MM_workOut_114 (by rw [e50]; exact h46) ?_
          refine wm_iconst d_MM_workOut_117 ?_
          refine wm_isub d_MM_workOut_118 ?_
          refine wm_lald d_MM_workOut_119 h51 h52 ?_
          have hOM55 : mOk M55 := by rw [e56]; exact mOk_UL hOM49 (hOM49 _ _).2
          refine wm_lastE d_MM_workOut_120 h53 h54 (hOM49 _ _).2 e56 ?_
          refine wm_aload_n d_MM_workOut_121 rfl rfl ?_
          refine gf_MM_84 rfl d_MM_workOut_122 (by rw [e56, e50]; exact h46) ?_
          refine wm_iload_n d_MM_workOut_125 rfl rfl ?_
          refine wm_aload_n d_MM_workOut_126 rfl rfl ?_
          refine gf_MM_67 rfl d_MM_workOut_127 (by rw [e56, e50]; exact h46) ?_
          refine wm_aload_n d_MM_workOut_130 rfl rfl ?_
          refine gf_MM_370 rfl d_MM_workOut_131 (by rw [e56, e50]; exact h46) ?_
          refine wm_iconst d_MM_workOut_134 ?_
          refine wm_isub d_MM_workOut_135 ?_
          refine wm_lald d_MM_workOut_136 h57 h58 ?_
          have hOM61 : mOk M61 := by rw [e62]; exact mOk_UL hOM55 (hOM55 _ _).2
          refine wm_lastE d_MM_workOut_137 h59 h60 (hOM55 _ _).2 e62 ?_
          refine wm_less (L' := [vr a0, vr a1, vd, vd, vd]) ⟨Or.inr rfl, Or.inr rfl, Or.inl rfl, Or.inl rfl, Or.inl rfl, trivial⟩ ?_
          exact h
        · replace c41 := Classical.not_not.mp c41
          replace h := h.1 c41
          obtain ⟨h42, h⟩ := h
          refine wm_aload_n d_MM_workOut_88 rfl rfl ?_
          refine wm_aload_n d_MM_workOut_89 rfl rfl ?_
          refine wm_iload_n d_MM_workOut_90 rfl rfl ?_
          refine cf_MM_394 rfl d_MM_workOut_91 h42 (Nat.le_of_ble_eq_true rfl) (Cv.mono h (fun M43 h => ?_))
          obtain ⟨hOM43, h⟩ := h
          refine wm_goto (tgt := 138) d_MM_workOut_94 rfl ?_
          refine wm_less (L' := [vr a0, vr a1, vd, vd, vd]) ⟨Or.inr rfl, Or.inr rfl, Or.inl rfl, Or.inl rfl, Or.inl rfl, trivial⟩ ?_
          exact h
      · replace c35 := Classical.not_not.mp c35
        replace h := h.1 c35
        obtain ⟨h36, h⟩ := h
        refine wm_aload_n d_MM_workOut_73 rfl rfl ?_
        refine wm_aload_n d_MM_workOut_74 rfl rfl ?_
        refine wm_iload_n d_MM_workOut_75 rfl rfl ?_
        refine cf_MM_391 rfl d_MM_workOut_76 h36 (Nat.le_of_ble_eq_true rfl) (Cv.mono h (fun M37 h => ?_))
        obtain ⟨hOM37, h⟩ := h
        refine wm_goto (tgt := 138) d_MM_workOut_79 rfl ?_
        refine wm_less (L' := [vr a0, vr a1, vd, vd, vd]) ⟨Or.inr rfl, Or.inr rfl, Or.inl rfl, Or.inl rfl, Or.inl rfl, trivial⟩ ?_
        exact h
    · replace c28 := Classical.not_not.mp c28
      replace h := h.1 c28
      obtain ⟨h29, h⟩ := h
      refine wm_aload_n d_MM_workOut_58 rfl rfl ?_
      refine wm_aload_n d_MM_workOut_59 rfl rfl ?_
      refine wm_iload_n d_MM_workOut_60 rfl rfl ?_
      refine cf_MM_387 rfl d_MM_workOut_61 h29 (Nat.le_of_ble_eq_true rfl) (Cv.mono h (fun M30 h => ?_))
      obtain ⟨hOM30, h⟩ := h
      refine wm_goto (tgt := 138) d_MM_workOut_64 rfl ?_
      refine wm_less (L' := [vr a0, vr a1, vd, vd, vd]) ⟨Or.inr rfl, Or.inr rfl, Or.inl rfl, Or.inl rfl, Or.inl rfl, trivial⟩ ?_
      exact h
  clear h
  refine wm_if_le (tgt := 141) d_MM_workOut_26 rfl (hO _ _).1 (fun c13 => ?_) (fun c13 => ?_)
  · exact hE0 (Or.inl c13)
  · refine wm_aload_n d_MM_workOut_29 rfl rfl ?_
    refine gf_MM_267 rfl d_MM_workOut_30 h10 ?_
    refine wm_if_ne (tgt := 141) d_MM_workOut_33 rfl (hO _ _).1 (fun c12 => ?_) (fun c12 => ?_)
    · exact hE0 (Or.inr c12)
    · replace c12 := Classical.not_not.mp c12
      exact hE1 (fun z63 => Or.elim z63 c13 (fun z64 => z64 c12))
theorem k_MM_workOut_138 {G : mG} {d : Nat} {a0 : Nat} {a1 : Nat} {M : mM} {Q : mM → Prop} (hO : mOk M)
    (h : h_MM_workOut_19 G d a0 a1 M Q) :
    h_MM_workOut_138 G d a0 a1 M Q := by
  unfold h_MM_workOut_138
  refine wm_goto (tgt := 19) d_MM_workOut_138 rfl ?_
  exact h
theorem d_MM_begin_0 : decode y_MM_begin.2.1 0 = .ok (.aload_n 1, 1) := by decide +kernel
theorem d_MM_begin_1 : decode y_MM_begin.2.1 1 = .ok (.getfield 273, 3) := by decide +kernel
theorem d_MM_begin_4 : decode y_MM_begin.2.1 4 = .ok (.iload_n 2, 1) := by decide +kernel
theorem d_MM_begin_5 : decode y_MM_begin.2.1 5 = .ok (.invokevirtual 155, 3) := by decide +kernel
theorem d_MM_begin_8 : decode y_MM_begin.2.1 8 = .ok (.istore_n 3, 1) := by decide +kernel
theorem d_MM_begin_9 : decode y_MM_begin.2.1 9 = .ok (.aload_n 1, 1) := by decide +kernel
theorem d_MM_begin_10 : decode y_MM_begin.2.1 10 = .ok (.getfield 287, 3) := by decide +kernel
theorem d_MM_begin_13 : decode y_MM_begin.2.1 13 = .ok (.iload_n 2, 1) := by decide +kernel
theorem d_MM_begin_14 : decode y_MM_begin.2.1 14 = .ok (.invokevirtual 155, 3) := by decide +kernel
theorem d_MM_begin_17 : decode y_MM_begin.2.1 17 = .ok (.istore 4, 2) := by decide +kernel
theorem d_MM_begin_19 : decode y_MM_begin.2.1 19 = .ok (.iload_n 3, 1) := by decide +kernel
theorem d_MM_begin_20 : decode y_MM_begin.2.1 20 = .ok (.lookupswitch 127 #[(1, 99), (2, 68), (12, 83), (13, 83), (29, 113), (30, 113), (32, 113)], 68) := by decide +kernel
theorem z_MM_begin_20_s : lkS #[(1, 99), (2, 68), (12, 83), (13, 83), (29, 113), (30, 113), (32, 113)] := by unfold lkS; decide
theorem d_MM_begin_119 : decode y_MM_begin.2.1 119 = .ok (.aload_n 0, 1) := by decide +kernel
theorem d_MM_begin_120 : decode y_MM_begin.2.1 120 = .ok (.aload_n 1, 1) := by decide +kernel
theorem d_MM_begin_121 : decode y_MM_begin.2.1 121 = .ok (.aload_n 1, 1) := by decide +kernel
theorem d_MM_begin_122 : decode y_MM_begin.2.1 122 = .ok (.getfield 284, 3) := by decide +kernel
theorem d_MM_begin_125 : decode y_MM_begin.2.1 125 = .ok (.iload_n 2, 1) := by decide +kernel
theorem d_MM_begin_126 : decode y_MM_begin.2.1 126 = .ok (.invokevirtual 155, 3) := by decide +kernel
theorem d_MM_begin_129 : decode y_MM_begin.2.1 129 = .ok (.invokevirtual 401, 3) := by decide +kernel
theorem d_MM_begin_132 : decode y_MM_begin.2.1 132 = .ok (.return_, 1) := by decide +kernel
theorem d_MM_begin_88 : decode y_MM_begin.2.1 88 = .ok (.aload_n 0, 1) := by decide +kernel
theorem d_MM_begin_89 : decode y_MM_begin.2.1 89 = .ok (.aload_n 1, 1) := by decide +kernel
theorem d_MM_begin_90 : decode y_MM_begin.2.1 90 = .ok (.getfield 284, 3) := by decide +kernel
theorem d_MM_begin_93 : decode y_MM_begin.2.1 93 = .ok (.iload_n 2, 1) := by decide +kernel
theorem d_MM_begin_94 : decode y_MM_begin.2.1 94 = .ok (.invokevirtual 155, 3) := by decide +kernel
theorem d_MM_begin_97 : decode y_MM_begin.2.1 97 = .ok (.i2l, 1) := by decide +kernel
theorem d_MM_begin_98 : decode y_MM_begin.2.1 98 = .ok (.lconst 1, 1) := by decide +kernel
theorem d_MM_begin_99 : decode y_MM_begin.2.1 99 = .ok (.invokevirtual 373, 3) := by decide +kernel
theorem d_MM_begin_102 : decode y_MM_begin.2.1 102 = .ok (.return_, 1) := by decide +kernel
theorem d_MM_begin_103 : decode y_MM_begin.2.1 103 = .ok (.aload_n 0, 1) := by decide +kernel
theorem d_MM_begin_104 : decode y_MM_begin.2.1 104 = .ok (.iload_n 3, 1) := by decide +kernel
theorem d_MM_begin_105 : decode y_MM_begin.2.1 105 = .ok (.bipush 12, 2) := by decide +kernel
theorem d_MM_begin_107 : decode y_MM_begin.2.1 107 = .ok (.if_icmp .ne 7, 3) := by decide +kernel
theorem d_MM_begin_110 : decode y_MM_begin.2.1 110 = .ok (.iconst 1, 1) := by decide +kernel
theorem d_MM_begin_111 : decode y_MM_begin.2.1 111 = .ok (.goto 4, 3) := by decide +kernel
theorem d_MM_begin_114 : decode y_MM_begin.2.1 114 = .ok (.iconst 0, 1) := by decide +kernel
theorem d_MM_begin_115 : decode y_MM_begin.2.1 115 = .ok (.invokevirtual 397, 3) := by decide +kernel
theorem d_MM_begin_118 : decode y_MM_begin.2.1 118 = .ok (.return_, 1) := by decide +kernel
theorem d_MM_begin_133 : decode y_MM_begin.2.1 133 = .ok (.aload_n 0, 1) := by decide +kernel
theorem d_MM_begin_134 : decode y_MM_begin.2.1 134 = .ok (.iconst 2, 1) := by decide +kernel
theorem d_MM_begin_135 : decode y_MM_begin.2.1 135 = .ok (.iload_n 2, 1) := by decide +kernel
theorem d_MM_begin_136 : decode y_MM_begin.2.1 136 = .ok (.invokevirtual 385, 3) := by decide +kernel
theorem d_MM_begin_139 : decode y_MM_begin.2.1 139 = .ok (.aload_n 0, 1) := by decide +kernel
theorem d_MM_begin_140 : decode y_MM_begin.2.1 140 = .ok (.iconst 0, 1) := by decide +kernel
theorem d_MM_begin_141 : decode y_MM_begin.2.1 141 = .ok (.iload 4, 2) := by decide +kernel
theorem d_MM_begin_143 : decode y_MM_begin.2.1 143 = .ok (.invokevirtual 385, 3) := by decide +kernel
theorem d_MM_begin_146 : decode y_MM_begin.2.1 146 = .ok (.return_, 1) := by decide +kernel
theorem d_MM_begin_147 : decode y_MM_begin.2.1 147 = .ok (.aload_n 0, 1) := by decide +kernel
theorem d_MM_begin_148 : decode y_MM_begin.2.1 148 = .ok (.iconst 1, 1) := by decide +kernel
theorem d_MM_begin_149 : decode y_MM_begin.2.1 149 = .ok (.iload_n 2, 1) := by decide +kernel
theorem d_MM_begin_150 : decode y_MM_begin.2.1 150 = .ok (.invokevirtual 385, 3) := by decide +kernel
theorem d_MM_begin_153 : decode y_MM_begin.2.1 153 = .ok (.aload_n 0, 1) := by decide +kernel
theorem d_MM_begin_154 : decode y_MM_begin.2.1 154 = .ok (.getfield 70, 3) := by decide +kernel
theorem d_MM_begin_157 : decode y_MM_begin.2.1 157 = .ok (.getfield 145, 3) := by decide +kernel
theorem d_MM_begin_160 : decode y_MM_begin.2.1 160 = .ok (.istore 5, 2) := by decide +kernel
theorem d_MM_begin_162 : decode y_MM_begin.2.1 162 = .ok (.iload 4, 2) := by decide +kernel
theorem d_MM_begin_164 : decode y_MM_begin.2.1 164 = .ok (.istore 6, 2) := by decide +kernel
theorem d_MM_begin_166 : decode y_MM_begin.2.1 166 = .ok (.iload 6, 2) := by decide +kernel
theorem d_MM_begin_168 : decode y_MM_begin.2.1 168 = .ok (.ifCond .lt 24, 3) := by decide +kernel
theorem d_MM_begin_192 : decode y_MM_begin.2.1 192 = .ok (.aload_n 0, 1) := by decide +kernel
theorem d_MM_begin_193 : decode y_MM_begin.2.1 193 = .ok (.iload 5, 2) := by decide +kernel
theorem d_MM_begin_171 : decode y_MM_begin.2.1 171 = .ok (.aload_n 0, 1) := by decide +kernel
theorem d_MM_begin_172 : decode y_MM_begin.2.1 172 = .ok (.iconst 0, 1) := by decide +kernel
theorem d_MM_begin_173 : decode y_MM_begin.2.1 173 = .ok (.iload 6, 2) := by decide +kernel
theorem d_MM_begin_195 : decode y_MM_begin.2.1 195 = .ok (.invokevirtual 404, 3) := by decide +kernel
theorem d_MM_begin_198 : decode y_MM_begin.2.1 198 = .ok (.return_, 1) := by decide +kernel
theorem d_MM_begin_175 : decode y_MM_begin.2.1 175 = .ok (.invokevirtual 385, 3) := by decide +kernel
theorem d_MM_begin_178 : decode y_MM_begin.2.1 178 = .ok (.aload_n 1, 1) := by decide +kernel
theorem d_MM_begin_179 : decode y_MM_begin.2.1 179 = .ok (.getfield 290, 3) := by decide +kernel
theorem d_MM_begin_182 : decode y_MM_begin.2.1 182 = .ok (.iload 6, 2) := by decide +kernel
theorem d_MM_begin_184 : decode y_MM_begin.2.1 184 = .ok (.invokevirtual 155, 3) := by decide +kernel
theorem d_MM_begin_187 : decode y_MM_begin.2.1 187 = .ok (.istore 6, 2) := by decide +kernel
theorem d_MM_begin_189 : decode y_MM_begin.2.1 189 = .ok (.goto (-23), 3) := by decide +kernel
def h_MM_begin_166 (G : mG) (d : Nat) (a0 : Nat) (a1 : Nat) (l5 : Int) (l6 : Int) (M : mM) (Q : mM → Prop) : Prop := mWm G y_MM_begin (d + 1) 166 [vr a0, vr a1, vd, vd, vd, vi l5, vi l6] [] M (fun r9 M9 => r9 = none ∧ Q M9)
theorem k_MM_begin {G : mG} {d : Nat} {a0 : Nat} {a1 : Nat} {l2 : Int} {M : mM} {Q : mM → Prop} (hO : mOk M) (hi_l2 : i32 l2)
    (h : mK M a1 = 16 ∧ mK M (mR M a1 0) = 15 ∧ Ci G y_MN_at d [vr (mR M a1 0), vi l2] M (fun x4 M3 => i32 x4 ∧ mOk M3 ∧ (mK M3 a1 = 16 ∧ mK M3 (mR M3 a1 4) = 15 ∧ Ci G y_MN_at d [vr (mR M3 a1 4), vi l2] M3 (fun x9 M8 => i32 x9 ∧ mOk M8 ∧ (((x4 = 1) → (mK M8 a1 = 16 ∧ mK M8 (mR M8 a1 3) = 15 ∧ Ci G y_MN_at d [vr (mR M8 a1 3), vi l2] M8 (fun x15 M14 => i32 x15 ∧ mOk M14 ∧ (mK M14 a0 = 14 ∧ Cv G y_MM_name d [vr a0, vr a1, vi x15] M14 (fun M18 => mOk M18 ∧ (Q M18)))))) ∧ (¬ (x4 = 1) → (((x4 = 2) → (mK M8 a1 = 16 ∧ mK M8 (mR M8 a1 3) = 15 ∧ Ci G y_MN_at d [vr (mR M8 a1 3), vi l2] M8 (fun x25 M24 => i32 x25 ∧ mOk M24 ∧ (mK M24 a0 = 14 ∧ Cv G y_MM_push d [vr a0, vl x25, vl 1] M24 (fun M28 => mOk M28 ∧ (Q M28)))))) ∧ (¬ (x4 = 2) → (((x4 = 12 ∨ x4 = 13) → (∀ v33 : Int, v33 = (if (x4 = 12) then 1 else 0) → mK M8 a0 = 14 ∧ Cv G y_MM_pushTruth d [vr a0, vi v33] M8 (fun M39 => mOk M39 ∧ (Q M39)))) ∧ (¬ (x4 = 12 ∨ x4 = 13) → (((x4 = 29 ∨ x4 = 30 ∨ x4 = 32) → (mK M8 a0 = 14 ∧ Cv G y_MM_todo d [vr a0, vi 2, vi l2] M8 (fun M45 => mOk M45 ∧ (mK M45 a0 = 14 ∧ Cv G y_MM_todo d [vr a0, vi 0, vi x9] M45 (fun M49 => mOk M49 ∧ (Q M49)))))) ∧ (¬ (x4 = 29 ∨ x4 = 30 ∨ x4 = 32) → (mK M8 a0 = 14 ∧ Cv G y_MM_todo d [vr a0, vi 1, vi l2] M8 (fun M53 => mOk M53 ∧ (mK M53 a0 = 14 ∧ mK M53 (mR M53 a0 24) = 15 ∧ h_MM_begin_166 G d a0 a1 (mI M53 (mR M53 a0 24) 1) x9 M53 Q))))))))))))))) :
    Cv G y_MM_begin (d + 1) [vr a0, vr a1, vi l2] M Q := by
  refine wm_open (y := y_MM_begin) rfl (Nat.le_of_ble_eq_true rfl) (L := [vr a0, vr a1, vi l2, vd, vd, vd, vd]) rfl ?_
  obtain ⟨h1, h⟩ := h
  obtain ⟨h2, h⟩ := h
  refine wm_aload_n d_MM_begin_0 rfl rfl ?_
  refine gf_MM_273 rfl d_MM_begin_1 h1 ?_
  refine wm_iload_n d_MM_begin_4 rfl rfl ?_
  refine cf_MM_155 rfl d_MM_begin_5 h2 (Nat.le_of_ble_eq_true rfl) (Ci.mono h (fun x4 M3 h => ?_))
  obtain ⟨h5, hOM3, h⟩ := h
  obtain ⟨h6, h⟩ := h
  obtain ⟨h7, h⟩ := h
  refine wm_istore_n d_MM_begin_8 rfl (by decide) (L' := [vr a0, vr a1, vi l2, vi x4, vd, vd, vd]) rfl ?_
  refine wm_aload_n d_MM_begin_9 rfl rfl ?_
  refine gf_MM_287 rfl d_MM_begin_10 h6 ?_
  refine wm_iload_n d_MM_begin_13 rfl rfl ?_
  refine cf_MM_155 rfl d_MM_begin_14 h7 (Nat.le_of_ble_eq_true rfl) (Ci.mono h (fun x9 M8 h => ?_))
  obtain ⟨h10, hOM8, h⟩ := h
  refine wm_istore d_MM_begin_17 (by decide) (L' := [vr a0, vr a1, vi l2, vi x4, vi x9, vd, vd]) rfl ?_
  refine wm_iload_n d_MM_begin_19 rfl rfl ?_
  by_cases c11 : x4 = 1
  · replace h := h.1 c11
    refine wm_lookup (tgt := 119) (off := 99) d_MM_begin_20 z_MM_begin_20_s h5 (by rw [c11]; rfl) rfl ?_
    obtain ⟨h12, h⟩ := h
    obtain ⟨h13, h⟩ := h
    refine wm_aload_n d_MM_begin_119 rfl rfl ?_
    refine wm_aload_n d_MM_begin_120 rfl rfl ?_
    refine wm_aload_n d_MM_begin_121 rfl rfl ?_
    refine gf_MM_284 rfl d_MM_begin_122 h12 ?_
    refine wm_iload_n d_MM_begin_125 rfl rfl ?_
    refine cf_MM_155 rfl d_MM_begin_126 h13 (Nat.le_of_ble_eq_true rfl) (Ci.mono h (fun x15 M14 h => ?_))
    obtain ⟨h16, hOM14, h⟩ := h
    obtain ⟨h17, h⟩ := h
    refine cf_MM_401 rfl d_MM_begin_129 h17 (Nat.le_of_ble_eq_true rfl) (Cv.mono h (fun M18 h => ?_))
    obtain ⟨hOM18, h⟩ := h
    refine wm_return d_MM_begin_132 rfl ?_
    exact ⟨rfl, h⟩
  · replace h := h.2 c11
    by_cases c21 : x4 = 2
    · replace h := h.1 c21
      refine wm_lookup (tgt := 88) (off := 68) d_MM_begin_20 z_MM_begin_20_s h5 (by rw [c21]; rfl) rfl ?_
      obtain ⟨h22, h⟩ := h
      obtain ⟨h23, h⟩ := h
      refine wm_aload_n d_MM_begin_88 rfl rfl ?_
      refine wm_aload_n d_MM_begin_89 rfl rfl ?_
      refine gf_MM_284 rfl d_MM_begin_90 h22 ?_
      refine wm_iload_n d_MM_begin_93 rfl rfl ?_
      refine cf_MM_155 rfl d_MM_begin_94 h23 (Nat.le_of_ble_eq_true rfl) (Ci.mono h (fun x25 M24 h => ?_))
      obtain ⟨h26, hOM24, h⟩ := h
      obtain ⟨h27, h⟩ := h
      refine wm_i2l d_MM_begin_97 h26 ?_
      refine wm_lconst (x := 1) d_MM_begin_98 rfl ?_
      refine cf_MM_373 rfl d_MM_begin_99 h27 (Nat.le_of_ble_eq_true rfl) (Cv.mono h (fun M28 h => ?_))
      obtain ⟨hOM28, h⟩ := h
      refine wm_return d_MM_begin_102 rfl ?_
      exact ⟨rfl, h⟩
    · replace h := h.2 c21
      by_cases c31 : x4 = 12 ∨ x4 = 13
      · replace h := h.1 c31
        refine wm_lookup (tgt := 103) (off := 83) d_MM_begin_20 z_MM_begin_20_s h5 (by rcases c31 with q9 | q9 <;> (rw [q9]; rfl)) rfl ?_
        refine wm_aload_n d_MM_begin_103 rfl rfl ?_
        refine wm_iload_n d_MM_begin_104 rfl rfl ?_
        refine wm_bipush d_MM_begin_105 (by decide) ?_
        have hJ : ∀ v33 : Int, v33 = (if (x4 = 12) then 1 else 0) → mWm G y_MM_begin (d + 1) 115 [vd, vd, vd, vd, vd, vd, vd] [vi v33, vr a0] M8 (fun r9 M9 => r9 = none ∧ Q M9) := by
          intro v33 e35
          have h := h v33 e35
          have h36 : i32 v33 := by rw [e35]; (repeat' split) <;> first | exact ⟨by decide, by decide⟩ | exact ⟨by decide, by decide⟩
          have h37 : (v33 = 0 ∨ v33 = 1) := by rw [e35]; (repeat' split) <;> decide
          obtain ⟨h38, h⟩ := h
          refine cf_MM_397 rfl d_MM_begin_115 h38 (Nat.le_of_ble_eq_true rfl) (Cv.mono h (fun M39 h => ?_))
          obtain ⟨hOM39, h⟩ := h
          refine wm_return d_MM_begin_118 rfl ?_
          exact ⟨rfl, h⟩
        clear h
        refine wm_icmp_ne (tgt := 114) d_MM_begin_107 rfl h5 ⟨by decide, by decide⟩ (fun c32 => ?_) (fun c32 => ?_)
        · refine wm_iconst d_MM_begin_114 ?_
          refine wm_less (L' := [vd, vd, vd, vd, vd, vd, vd]) ⟨Or.inl rfl, Or.inl rfl, Or.inl rfl, Or.inl rfl, Or.inl rfl, Or.inl rfl, Or.inl rfl, trivial⟩ ?_
          exact hJ 0 (if_neg c32).symm
        · replace c32 := Classical.not_not.mp c32
          refine wm_iconst d_MM_begin_110 ?_
          refine wm_goto (tgt := 115) d_MM_begin_111 rfl ?_
          refine wm_less (L' := [vd, vd, vd, vd, vd, vd, vd]) ⟨Or.inl rfl, Or.inl rfl, Or.inl rfl, Or.inl rfl, Or.inl rfl, Or.inl rfl, Or.inl rfl, trivial⟩ ?_
          exact hJ 1 (if_pos c32).symm
      · replace h := h.2 c31
        by_cases c43 : x4 = 29 ∨ x4 = 30 ∨ x4 = 32
        · replace h := h.1 c43
          refine wm_lookup (tgt := 133) (off := 113) d_MM_begin_20 z_MM_begin_20_s h5 (by rcases c43 with q9 | q9 | q9 <;> (rw [q9]; rfl)) rfl ?_
          obtain ⟨h44, h⟩ := h
          refine wm_aload_n d_MM_begin_133 rfl rfl ?_
          refine wm_iconst d_MM_begin_134 ?_
          refine wm_iload_n d_MM_begin_135 rfl rfl ?_
          refine cf_MM_385 rfl d_MM_begin_136 h44 (Nat.le_of_ble_eq_true rfl) (Cv.mono h (fun M45 h => ?_))
          obtain ⟨hOM45, h⟩ := h
          obtain ⟨h48, h⟩ := h
          refine wm_aload_n d_MM_begin_139 rfl rfl ?_
          refine wm_iconst d_MM_begin_140 ?_
          refine wm_iload d_MM_begin_141 rfl ?_
          refine cf_MM_385 rfl d_MM_begin_143 h48 (Nat.le_of_ble_eq_true rfl) (Cv.mono h (fun M49 h => ?_))
          obtain ⟨hOM49, h⟩ := h
          refine wm_return d_MM_begin_146 rfl ?_
          exact ⟨rfl, h⟩
        · replace h := h.2 c43
          refine wm_lookup (tgt := 147) (off := 127) d_MM_begin_20 z_MM_begin_20_s h5 (by simp [Op.lookupswitch.offset]; repeat rw [if_neg (by omega)]) rfl ?_
          obtain ⟨h52, h⟩ := h
          refine wm_aload_n d_MM_begin_147 rfl rfl ?_
          refine wm_iconst d_MM_begin_148 ?_
          refine wm_iload_n d_MM_begin_149 rfl rfl ?_
          refine cf_MM_385 rfl d_MM_begin_150 h52 (Nat.le_of_ble_eq_true rfl) (Cv.mono h (fun M53 h => ?_))
          obtain ⟨hOM53, h⟩ := h
          obtain ⟨h56, h⟩ := h
          obtain ⟨h57, h⟩ := h
          refine wm_aload_n d_MM_begin_153 rfl rfl ?_
          refine gf_MM_70 rfl d_MM_begin_154 h56 ?_
          refine gf_MM_145 rfl d_MM_begin_157 h57 ?_
          refine wm_istore d_MM_begin_160 (by decide) (L' := [vr a0, vr a1, vi l2, vi x4, vi x9, vi (mI M53 (mR M53 a0 24) 1), vd]) rfl ?_
          refine wm_iload d_MM_begin_162 rfl ?_
          refine wm_istore d_MM_begin_164 (by decide) (L' := [vr a0, vr a1, vi l2, vi x4, vi x9, vi (mI M53 (mR M53 a0 24) 1), vi x9]) rfl ?_
          refine wm_less (L' := [vr a0, vr a1, vd, vd, vd, vi (mI M53 (mR M53 a0 24) 1), vi x9]) ⟨Or.inr rfl, Or.inr rfl, Or.inl rfl, Or.inl rfl, Or.inl rfl, Or.inr rfl, Or.inr rfl, trivial⟩ ?_
          exact h
theorem k_MM_begin_166 {G : mG} {d : Nat} {a0 : Nat} {a1 : Nat} {l5 : Int} {l6 : Int} {M : mM} {Q : mM → Prop} (hO : mOk M) (hi_l5 : i32 l5) (hi_l6 : i32 l6)
    (h : ((l6 < 0) → (mK M a0 = 14 ∧ Cv G y_MM_turnTodo d [vr a0, vi l5] M (fun M61 => mOk M61 ∧ (Q M61)))) ∧ (¬ (l6 < 0) → (mK M a0 = 14 ∧ Cv G y_MM_todo d [vr a0, vi 0, vi l6] M (fun M65 => mOk M65 ∧ (mK M65 a1 = 16 ∧ mK M65 (mR M65 a1 5) = 15 ∧ Ci G y_MN_at d [vr (mR M65 a1 5), vi l6] M65 (fun x71 M70 => i32 x71 ∧ mOk M70 ∧ (h_MM_begin_166 G d a0 a1 l5 x71 M70 Q))))))) :
    h_MM_begin_166 G d a0 a1 l5 l6 M Q := by
  unfold h_MM_begin_166
  refine wm_iload d_MM_begin_166 rfl ?_
  refine wm_if_lt (tgt := 192) d_MM_begin_168 rfl hi_l6 (fun c59 => ?_) (fun c59 => ?_)
  · replace h := h.1 c59
    obtain ⟨h60, h⟩ := h
    refine wm_aload_n d_MM_begin_192 rfl rfl ?_
    refine wm_iload d_MM_begin_193 rfl ?_
    refine cf_MM_404 rfl d_MM_begin_195 h60 (Nat.le_of_ble_eq_true rfl) (Cv.mono h (fun M61 h => ?_))
    obtain ⟨hOM61, h⟩ := h
    refine wm_return d_MM_begin_198 rfl ?_
    exact ⟨rfl, h⟩
  · replace h := h.2 c59
    obtain ⟨h64, h⟩ := h
    refine wm_aload_n d_MM_begin_171 rfl rfl ?_
    refine wm_iconst d_MM_begin_172 ?_
    refine wm_iload d_MM_begin_173 rfl ?_
    refine cf_MM_385 rfl d_MM_begin_175 h64 (Nat.le_of_ble_eq_true rfl) (Cv.mono h (fun M65 h => ?_))
    obtain ⟨hOM65, h⟩ := h
    obtain ⟨h68, h⟩ := h
    obtain ⟨h69, h⟩ := h
    refine wm_aload_n d_MM_begin_178 rfl rfl ?_
    refine gf_MM_290 rfl d_MM_begin_179 h68 ?_
    refine wm_iload d_MM_begin_182 rfl ?_
    refine cf_MM_155 rfl d_MM_begin_184 h69 (Nat.le_of_ble_eq_true rfl) (Ci.mono h (fun x71 M70 h => ?_))
    obtain ⟨h72, hOM70, h⟩ := h
    refine wm_istore d_MM_begin_187 (by decide) (L' := [vr a0, vr a1, vd, vd, vd, vi l5, vi x71]) rfl ?_
    refine wm_goto (tgt := 166) d_MM_begin_189 rfl ?_
    exact h
theorem d_MM_turnTodo_0 : decode y_MM_turnTodo.2.1 0 = .ok (.iload_n 1, 1) := by decide +kernel
theorem d_MM_turnTodo_1 : decode y_MM_turnTodo.2.1 1 = .ok (.istore_n 2, 1) := by decide +kernel
theorem d_MM_turnTodo_2 : decode y_MM_turnTodo.2.1 2 = .ok (.aload_n 0, 1) := by decide +kernel
theorem d_MM_turnTodo_3 : decode y_MM_turnTodo.2.1 3 = .ok (.getfield 70, 3) := by decide +kernel
theorem d_MM_turnTodo_6 : decode y_MM_turnTodo.2.1 6 = .ok (.getfield 145, 3) := by decide +kernel
theorem d_MM_turnTodo_9 : decode y_MM_turnTodo.2.1 9 = .ok (.iconst 2, 1) := by decide +kernel
theorem d_MM_turnTodo_10 : decode y_MM_turnTodo.2.1 10 = .ok (.isub, 1) := by decide +kernel
theorem d_MM_turnTodo_11 : decode y_MM_turnTodo.2.1 11 = .ok (.istore_n 3, 1) := by decide +kernel
theorem d_MM_turnTodo_12 : decode y_MM_turnTodo.2.1 12 = .ok (.iload_n 2, 1) := by decide +kernel
theorem d_MM_turnTodo_13 : decode y_MM_turnTodo.2.1 13 = .ok (.iload_n 3, 1) := by decide +kernel
theorem d_MM_turnTodo_14 : decode y_MM_turnTodo.2.1 14 = .ok (.if_icmp .ge 60, 3) := by decide +kernel
theorem d_MM_turnTodo_74 : decode y_MM_turnTodo.2.1 74 = .ok (.return_, 1) := by decide +kernel
theorem d_MM_turnTodo_17 : decode y_MM_turnTodo.2.1 17 = .ok (.aload_n 0, 1) := by decide +kernel
theorem d_MM_turnTodo_18 : decode y_MM_turnTodo.2.1 18 = .ok (.getfield 70, 3) := by decide +kernel
theorem d_MM_turnTodo_21 : decode y_MM_turnTodo.2.1 21 = .ok (.iload_n 2, 1) := by decide +kernel
theorem d_MM_turnTodo_22 : decode y_MM_turnTodo.2.1 22 = .ok (.iconst 1, 1) := by decide +kernel
theorem d_MM_turnTodo_23 : decode y_MM_turnTodo.2.1 23 = .ok (.iadd, 1) := by decide +kernel
theorem d_MM_turnTodo_24 : decode y_MM_turnTodo.2.1 24 = .ok (.invokevirtual 155, 3) := by decide +kernel
theorem d_MM_turnTodo_27 : decode y_MM_turnTodo.2.1 27 = .ok (.istore 4, 2) := by decide +kernel
theorem d_MM_turnTodo_29 : decode y_MM_turnTodo.2.1 29 = .ok (.aload_n 0, 1) := by decide +kernel
theorem d_MM_turnTodo_30 : decode y_MM_turnTodo.2.1 30 = .ok (.getfield 70, 3) := by decide +kernel
theorem d_MM_turnTodo_33 : decode y_MM_turnTodo.2.1 33 = .ok (.getfield 293, 3) := by decide +kernel
theorem d_MM_turnTodo_36 : decode y_MM_turnTodo.2.1 36 = .ok (.iload_n 2, 1) := by decide +kernel
theorem d_MM_turnTodo_37 : decode y_MM_turnTodo.2.1 37 = .ok (.iconst 1, 1) := by decide +kernel
theorem d_MM_turnTodo_38 : decode y_MM_turnTodo.2.1 38 = .ok (.iadd, 1) := by decide +kernel
theorem d_MM_turnTodo_39 : decode y_MM_turnTodo.2.1 39 = .ok (.aload_n 0, 1) := by decide +kernel
theorem d_MM_turnTodo_40 : decode y_MM_turnTodo.2.1 40 = .ok (.getfield 70, 3) := by decide +kernel
theorem d_MM_turnTodo_43 : decode y_MM_turnTodo.2.1 43 = .ok (.iload_n 3, 1) := by decide +kernel
theorem d_MM_turnTodo_44 : decode y_MM_turnTodo.2.1 44 = .ok (.iconst 1, 1) := by decide +kernel
theorem d_MM_turnTodo_45 : decode y_MM_turnTodo.2.1 45 = .ok (.iadd, 1) := by decide +kernel
theorem d_MM_turnTodo_46 : decode y_MM_turnTodo.2.1 46 = .ok (.invokevirtual 155, 3) := by decide +kernel
theorem d_MM_turnTodo_49 : decode y_MM_turnTodo.2.1 49 = .ok (.iastore, 1) := by decide +kernel
theorem d_MM_turnTodo_50 : decode y_MM_turnTodo.2.1 50 = .ok (.aload_n 0, 1) := by decide +kernel
theorem d_MM_turnTodo_51 : decode y_MM_turnTodo.2.1 51 = .ok (.getfield 70, 3) := by decide +kernel
theorem d_MM_turnTodo_54 : decode y_MM_turnTodo.2.1 54 = .ok (.getfield 293, 3) := by decide +kernel
theorem d_MM_turnTodo_57 : decode y_MM_turnTodo.2.1 57 = .ok (.iload_n 3, 1) := by decide +kernel
theorem d_MM_turnTodo_58 : decode y_MM_turnTodo.2.1 58 = .ok (.iconst 1, 1) := by decide +kernel
theorem d_MM_turnTodo_59 : decode y_MM_turnTodo.2.1 59 = .ok (.iadd, 1) := by decide +kernel
theorem d_MM_turnTodo_60 : decode y_MM_turnTodo.2.1 60 = .ok (.iload 4, 2) := by decide +kernel
theorem d_MM_turnTodo_62 : decode y_MM_turnTodo.2.1 62 = .ok (.iastore, 1) := by decide +kernel
theorem d_MM_turnTodo_63 : decode y_MM_turnTodo.2.1 63 = .ok (.iload_n 2, 1) := by decide +kernel
theorem d_MM_turnTodo_64 : decode y_MM_turnTodo.2.1 64 = .ok (.iconst 2, 1) := by decide +kernel
theorem d_MM_turnTodo_65 : decode y_MM_turnTodo.2.1 65 = .ok (.iadd, 1) := by decide +kernel
theorem d_MM_turnTodo_66 : decode y_MM_turnTodo.2.1 66 = .ok (.istore_n 2, 1) := by decide +kernel
theorem d_MM_turnTodo_67 : decode y_MM_turnTodo.2.1 67 = .ok (.iload_n 3, 1) := by decide +kernel
theorem d_MM_turnTodo_68 : decode y_MM_turnTodo.2.1 68 = .ok (.iconst 2, 1) := by decide +kernel
theorem d_MM_turnTodo_69 : decode y_MM_turnTodo.2.1 69 = .ok (.isub, 1) := by decide +kernel
theorem d_MM_turnTodo_70 : decode y_MM_turnTodo.2.1 70 = .ok (.istore_n 3, 1) := by decide +kernel
theorem d_MM_turnTodo_71 : decode y_MM_turnTodo.2.1 71 = .ok (.goto (-59), 3) := by decide +kernel
def h_MM_turnTodo_12 (G : mG) (d : Nat) (a0 : Nat) (l2 : Int) (l3 : Int) (M : mM) (Q : mM → Prop) : Prop := mWm G y_MM_turnTodo (d + 1) 12 [vr a0, vd, vi l2, vi l3, vd] [] M (fun r9 M9 => r9 = none ∧ Q M9)
theorem k_MM_turnTodo {G : mG} {d : Nat} {a0 : Nat} {l1 : Int} {M : mM} {Q : mM → Prop} (hO : mOk M) (hi_l1 : i32 l1)
    (h : mK M a0 = 14 ∧ mK M (mR M a0 24) = 15 ∧ h_MM_turnTodo_12 G d a0 l1 ((mI M (mR M a0 24) 1) - 2) M Q) :
    Cv G y_MM_turnTodo (d + 1) [vr a0, vi l1] M Q := by
  refine wm_open (y := y_MM_turnTodo) rfl (Nat.le_of_ble_eq_true rfl) (L := [vr a0, vi l1, vd, vd, vd]) rfl ?_
  obtain ⟨h1, h⟩ := h
  obtain ⟨h2, h⟩ := h
  refine wm_iload_n d_MM_turnTodo_0 rfl rfl ?_
  refine wm_istore_n d_MM_turnTodo_1 rfl (by decide) (L' := [vr a0, vi l1, vi l1, vd, vd]) rfl ?_
  refine wm_aload_n d_MM_turnTodo_2 rfl rfl ?_
  refine gf_MM_70 rfl d_MM_turnTodo_3 h1 ?_
  refine gf_MM_145 rfl d_MM_turnTodo_6 h2 ?_
  refine wm_iconst d_MM_turnTodo_9 ?_
  refine wm_isub d_MM_turnTodo_10 ?_
  refine wm_istore_n d_MM_turnTodo_11 rfl (by decide) (L' := [vr a0, vi l1, vi l1, vi ((mI M (mR M a0 24) 1) - 2), vd]) rfl ?_
  refine wm_less (L' := [vr a0, vd, vi l1, vi ((mI M (mR M a0 24) 1) - 2), vd]) ⟨Or.inr rfl, Or.inl rfl, Or.inr rfl, Or.inr rfl, Or.inl rfl, trivial⟩ ?_
  exact h
theorem k_MM_turnTodo_12 {G : mG} {d : Nat} {a0 : Nat} {l2 : Int} {l3 : Int} {M : mM} {Q : mM → Prop} (hO : mOk M) (hi_l2 : i32 l2) (hi_l3 : i32 l3)
    (h : ((l3 ≤ l2) → (Q M)) ∧ (¬ (l3 ≤ l2) → (mK M a0 = 14 ∧ mK M (mR M a0 24) = 15 ∧ Ci G y_MN_at d [vr (mR M a0 24), vi (l2 + 1)] M (fun x8 M7 => i32 x8 ∧ mOk M7 ∧ (mK M7 a0 = 14 ∧ mK M7 (mR M7 a0 24) = 15 ∧ Ci G y_MN_at d [vr (mR M7 a0 24), vi (l3 + 1)] M7 (fun x13 M12 => i32 x13 ∧ mOk M12 ∧ (mK M12 (mR M7 (mR M7 a0 24) 0) = 30 ∧ ((0 : Int) ≤ l2 + 1 ∧ l2 + 1 < (mN M12 (mR M7 (mR M7 a0 24) 0) : Int)) ∧ ∀ M17, M17 = mUI M12 (mR M7 (mR M7 a0 24) 0) (Int.toNat (l2 + 1)) x13 → mK M17 a0 = 14 ∧ mK M17 (mR M17 a0 24) = 15 ∧ mK M17 (mR M17 (mR M17 a0 24) 0) = 30 ∧ ((0 : Int) ≤ l3 + 1 ∧ l3 + 1 < (mN M17 (mR M17 (mR M17 a0 24) 0) : Int)) ∧ ∀ M23, M23 = mUI M17 (mR M17 (mR M17 a0 24) 0) (Int.toNat (l3 + 1)) x8 → h_MM_turnTodo_12 G d a0 (l2 + 2) (l3 - 2) M23 Q))))))) :
    h_MM_turnTodo_12 G d a0 l2 l3 M Q := by
  unfold h_MM_turnTodo_12
  refine wm_iload_n d_MM_turnTodo_12 rfl rfl ?_
  refine wm_iload_n d_MM_turnTodo_13 rfl rfl ?_
  refine wm_icmp_ge (tgt := 74) d_MM_turnTodo_14 rfl hi_l2 hi_l3 (fun c4 => ?_) (fun c4 => ?_)
  · replace h := h.1 c4
    refine wm_return d_MM_turnTodo_74 rfl ?_
    exact ⟨rfl, h⟩
  · replace h := h.2 c4
    obtain ⟨h5, h⟩ := h
    obtain ⟨h6, h⟩ := h
    refine wm_aload_n d_MM_turnTodo_17 rfl rfl ?_
    refine gf_MM_70 rfl d_MM_turnTodo_18 h5 ?_
    refine wm_iload_n d_MM_turnTodo_21 rfl rfl ?_
    refine wm_iconst d_MM_turnTodo_22 ?_
    refine wm_iadd d_MM_turnTodo_23 ?_
    refine cf_MM_155 rfl d_MM_turnTodo_24 h6 (Nat.le_of_ble_eq_true rfl) (Ci.mono h (fun x8 M7 h => ?_))
    obtain ⟨h9, hOM7, h⟩ := h
    obtain ⟨h10, h⟩ := h
    obtain ⟨h11, h⟩ := h
    refine wm_istore d_MM_turnTodo_27 (by decide) (L' := [vr a0, vd, vi l2, vi l3, vi x8]) rfl ?_
    refine wm_aload_n d_MM_turnTodo_29 rfl rfl ?_
    refine gf_MM_70 rfl d_MM_turnTodo_30 h10 ?_
    refine gf_MM_293 rfl d_MM_turnTodo_33 h11 ?_
    refine wm_iload_n d_MM_turnTodo_36 rfl rfl ?_
    refine wm_iconst d_MM_turnTodo_37 ?_
    refine wm_iadd d_MM_turnTodo_38 ?_
    refine wm_aload_n d_MM_turnTodo_39 rfl rfl ?_
    refine gf_MM_70 rfl d_MM_turnTodo_40 h10 ?_
    refine wm_iload_n d_MM_turnTodo_43 rfl rfl ?_
    refine wm_iconst d_MM_turnTodo_44 ?_
    refine wm_iadd d_MM_turnTodo_45 ?_
    refine cf_MM_155 rfl d_MM_turnTodo_46 h11 (Nat.le_of_ble_eq_true rfl) (Ci.mono h (fun x13 M12 h => ?_))
    obtain ⟨h14, hOM12, h⟩ := h
    obtain ⟨h15, h⟩ := h
    obtain ⟨h16, h⟩ := h
    obtain ⟨M17, e18⟩ : ∃ M17, M17 = mUI M12 (mR M7 (mR M7 a0 24) 0) (Int.toNat (l2 + 1)) x13 := ⟨_, rfl⟩
    replace h := h M17 e18
    obtain ⟨h19, h⟩ := h
    obtain ⟨h20, h⟩ := h
    obtain ⟨h21, h⟩ := h
    obtain ⟨h22, h⟩ := h
    obtain ⟨M23, e24⟩ : ∃ M23, M23 = mUI M17 (mR M17 (mR M17 a0 24) 0) (Int.toNat (l3 + 1)) x8 := ⟨_, rfl⟩
    replace h := h M23 e24
    have hOM17 : mOk M17 := by rw [e18]; exact mOk_UI hOM12 h14
    refine wm_iastE d_MM_turnTodo_49 h15 h16 h14 e18 ?_
    refine wm_aload_n d_MM_turnTodo_50 rfl rfl ?_
    refine gf_MM_70 rfl d_MM_turnTodo_51 h19 ?_
    refine gf_MM_293 rfl d_MM_turnTodo_54 h20 ?_
    refine wm_iload_n d_MM_turnTodo_57 rfl rfl ?_
    refine wm_iconst d_MM_turnTodo_58 ?_
    refine wm_iadd d_MM_turnTodo_59 ?_
    refine wm_iload d_MM_turnTodo_60 rfl ?_
    have hOM23 : mOk M23 := by rw [e24]; exact mOk_UI hOM17 h9
    refine wm_iastE d_MM_turnTodo_62 h21 h22 h9 e24 ?_
    refine wm_iload_n d_MM_turnTodo_63 rfl rfl ?_
    refine wm_iconst d_MM_turnTodo_64 ?_
    refine wm_iadd d_MM_turnTodo_65 ?_
    refine wm_istore_n d_MM_turnTodo_66 rfl (by decide) (L' := [vr a0, vd, vi (l2 + 2), vi l3, vi x8]) rfl ?_
    refine wm_iload_n d_MM_turnTodo_67 rfl rfl ?_
    refine wm_iconst d_MM_turnTodo_68 ?_
    refine wm_isub d_MM_turnTodo_69 ?_
    refine wm_istore_n d_MM_turnTodo_70 rfl (by decide) (L' := [vr a0, vd, vi (l2 + 2), vi (l3 - 2), vi x8]) rfl ?_
    refine wm_goto (tgt := 12) d_MM_turnTodo_71 rfl ?_
    refine wm_less (L' := [vr a0, vd, vi (l2 + 2), vi (l3 - 2), vd]) ⟨Or.inr rfl, Or.inl rfl, Or.inr rfl, Or.inr rfl, Or.inl rfl, trivial⟩ ?_
    exact h
