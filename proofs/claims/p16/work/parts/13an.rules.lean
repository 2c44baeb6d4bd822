theorem d_Ma_run_0 : decode y_Ma_run.2.1 0 = .ok (.iload_n 1, 1) := by decide +kernel
theorem d_Ma_run_1 : decode y_Ma_run.2.1 1 = .ok (.istore_n 2, 1) := by decide +kernel
theorem d_Ma_run_2 : decode y_Ma_run.2.1 2 = .ok (.aload_n 0, 1) := by decide +kernel
theorem d_Ma_run_3 : decode y_Ma_run.2.1 3 = .ok (.iconst 0, 1) := by decide +kernel
theorem d_Ma_run_4 : decode y_Ma_run.2.1 4 = .ok (.putfield 52, 3) := by decide +kernel
theorem d_Ma_run_7 : decode y_Ma_run.2.1 7 = .ok (.aload_n 0, 1) := by decide +kernel
theorem d_Ma_run_8 : decode y_Ma_run.2.1 8 = .ok (.iconst 0, 1) := by decide +kernel
theorem d_Ma_run_9 : decode y_Ma_run.2.1 9 = .ok (.putfield 55, 3) := by decide +kernel
theorem d_Ma_run_12 : decode y_Ma_run.2.1 12 = .ok (.iconst 0, 1) := by decide +kernel
theorem d_Ma_run_13 : decode y_Ma_run.2.1 13 = .ok (.istore_n 3, 1) := by decide +kernel
theorem d_Ma_run_14 : decode y_Ma_run.2.1 14 = .ok (.iload_n 3, 1) := by decide +kernel
theorem d_Ma_run_15 : decode y_Ma_run.2.1 15 = .ok (.ldc 58, 2) := by decide +kernel
theorem d_Ma_run_17 : decode y_Ma_run.2.1 17 = .ok (.if_icmp .ge 347, 3) := by decide +kernel
theorem d_Ma_run_20 : decode y_Ma_run.2.1 20 = .ok (.iload_n 2, 1) := by decide +kernel
theorem d_Ma_run_21 : decode y_Ma_run.2.1 21 = .ok (.ifCond .lt 343, 3) := by decide +kernel
theorem d_Ma_run_24 : decode y_Ma_run.2.1 24 = .ok (.iload_n 2, 1) := by decide +kernel
theorem d_Ma_run_25 : decode y_Ma_run.2.1 25 = .ok (.aload_n 0, 1) := by decide +kernel
theorem d_Ma_run_26 : decode y_Ma_run.2.1 26 = .ok (.getfield 59, 3) := by decide +kernel
theorem d_Ma_run_29 : decode y_Ma_run.2.1 29 = .ok (.getfield 63, 3) := by decide +kernel
theorem d_Ma_run_32 : decode y_Ma_run.2.1 32 = .ok (.if_icmp .ge 332, 3) := by decide +kernel
theorem d_Ma_run_35 : decode y_Ma_run.2.1 35 = .ok (.aload_n 0, 1) := by decide +kernel
theorem d_Ma_run_36 : decode y_Ma_run.2.1 36 = .ok (.getfield 59, 3) := by decide +kernel
theorem d_Ma_run_39 : decode y_Ma_run.2.1 39 = .ok (.getfield 68, 3) := by decide +kernel
theorem d_Ma_run_42 : decode y_Ma_run.2.1 42 = .ok (.iload_n 2, 1) := by decide +kernel
theorem d_Ma_run_43 : decode y_Ma_run.2.1 43 = .ok (.iaload, 1) := by decide +kernel
theorem d_Ma_run_44 : decode y_Ma_run.2.1 44 = .ok (.istore 4, 2) := by decide +kernel
theorem d_Ma_run_46 : decode y_Ma_run.2.1 46 = .ok (.aload_n 0, 1) := by decide +kernel
theorem d_Ma_run_47 : decode y_Ma_run.2.1 47 = .ok (.getfield 59, 3) := by decide +kernel
theorem d_Ma_run_50 : decode y_Ma_run.2.1 50 = .ok (.getfield 71, 3) := by decide +kernel
theorem d_Ma_run_53 : decode y_Ma_run.2.1 53 = .ok (.iload_n 2, 1) := by decide +kernel
theorem d_Ma_run_54 : decode y_Ma_run.2.1 54 = .ok (.iaload, 1) := by decide +kernel
theorem d_Ma_run_55 : decode y_Ma_run.2.1 55 = .ok (.istore 5, 2) := by decide +kernel
theorem d_Ma_run_57 : decode y_Ma_run.2.1 57 = .ok (.iinc 2 1, 3) := by decide +kernel
theorem d_Ma_run_60 : decode y_Ma_run.2.1 60 = .ok (.iload 4, 2) := by decide +kernel
theorem d_Ma_run_364 : decode y_Ma_run.2.1 364 = .ok (.aload_n 0, 1) := by decide +kernel
theorem d_Ma_run_365 : decode y_Ma_run.2.1 365 = .ok (.bipush 6, 2) := by decide +kernel
theorem d_Ma_run_367 : decode y_Ma_run.2.1 367 = .ok (.iconst 0, 1) := by decide +kernel
theorem d_Ma_run_368 : decode y_Ma_run.2.1 368 = .ok (.invokevirtual 92, 3) := by decide +kernel
theorem d_Ma_run_371 : decode y_Ma_run.2.1 371 = .ok (.ireturn, 1) := by decide +kernel
theorem d_Ma_run_62 : decode y_Ma_run.2.1 62 = .ok (.lookupswitch 283 #[(0, 266), (3, 82), (4, 92), (5, 119), (7, 139), (30, 150), (31, 150), (33, 228), (42, 260)], 82) := by decide +kernel
theorem z_Ma_run_62_s : lkS #[(0, 266), (3, 82), (4, 92), (5, 119), (7, 139), (30, 150), (31, 150), (33, 228), (42, 260)] := by unfold lkS; decide
theorem d_Ma_run_328 : decode y_Ma_run.2.1 328 = .ok (.aload_n 0, 1) := by decide +kernel
theorem d_Ma_run_329 : decode y_Ma_run.2.1 329 = .ok (.getfield 55, 3) := by decide +kernel
theorem d_Ma_run_332 : decode y_Ma_run.2.1 332 = .ok (.ifCond .ne 5, 3) := by decide +kernel
theorem d_Ma_run_335 : decode y_Ma_run.2.1 335 = .ok (.iconst 1, 1) := by decide +kernel
theorem d_Ma_run_336 : decode y_Ma_run.2.1 336 = .ok (.ireturn, 1) := by decide +kernel
theorem d_Ma_run_337 : decode y_Ma_run.2.1 337 = .ok (.aload_n 0, 1) := by decide +kernel
theorem d_Ma_run_338 : decode y_Ma_run.2.1 338 = .ok (.invokevirtual 84, 3) := by decide +kernel
theorem d_Ma_run_341 : decode y_Ma_run.2.1 341 = .ok (.istore_n 2, 1) := by decide +kernel
theorem d_Ma_run_342 : decode y_Ma_run.2.1 342 = .ok (.goto 16, 3) := by decide +kernel
theorem d_Ma_run_358 : decode y_Ma_run.2.1 358 = .ok (.iinc 3 1, 3) := by decide +kernel
theorem d_Ma_run_361 : decode y_Ma_run.2.1 361 = .ok (.goto (-347), 3) := by decide +kernel
theorem d_Ma_run_144 : decode y_Ma_run.2.1 144 = .ok (.aload_n 0, 1) := by decide +kernel
theorem d_Ma_run_145 : decode y_Ma_run.2.1 145 = .ok (.iload 5, 2) := by decide +kernel
theorem d_Ma_run_147 : decode y_Ma_run.2.1 147 = .ok (.iconst 1, 1) := by decide +kernel
theorem d_Ma_run_148 : decode y_Ma_run.2.1 148 = .ok (.invokevirtual 74, 3) := by decide +kernel
theorem d_Ma_run_151 : decode y_Ma_run.2.1 151 = .ok (.goto 207, 3) := by decide +kernel
theorem d_Ma_run_154 : decode y_Ma_run.2.1 154 = .ok (.aload_n 0, 1) := by decide +kernel
theorem d_Ma_run_155 : decode y_Ma_run.2.1 155 = .ok (.aload_n 0, 1) := by decide +kernel
theorem d_Ma_run_156 : decode y_Ma_run.2.1 156 = .ok (.getfield 59, 3) := by decide +kernel
theorem d_Ma_run_159 : decode y_Ma_run.2.1 159 = .ok (.getfield 78, 3) := by decide +kernel
theorem d_Ma_run_162 : decode y_Ma_run.2.1 162 = .ok (.iload 5, 2) := by decide +kernel
theorem d_Ma_run_164 : decode y_Ma_run.2.1 164 = .ok (.iaload, 1) := by decide +kernel
theorem d_Ma_run_165 : decode y_Ma_run.2.1 165 = .ok (.aload_n 0, 1) := by decide +kernel
theorem d_Ma_run_166 : decode y_Ma_run.2.1 166 = .ok (.getfield 59, 3) := by decide +kernel
theorem d_Ma_run_169 : decode y_Ma_run.2.1 169 = .ok (.getfield 79, 3) := by decide +kernel
theorem d_Ma_run_172 : decode y_Ma_run.2.1 172 = .ok (.iload 5, 2) := by decide +kernel
theorem d_Ma_run_174 : decode y_Ma_run.2.1 174 = .ok (.iaload, 1) := by decide +kernel
theorem d_Ma_run_175 : decode y_Ma_run.2.1 175 = .ok (.invokevirtual 74, 3) := by decide +kernel
theorem d_Ma_run_178 : decode y_Ma_run.2.1 178 = .ok (.goto 180, 3) := by decide +kernel
theorem d_Ma_run_181 : decode y_Ma_run.2.1 181 = .ok (.aload_n 0, 1) := by decide +kernel
theorem d_Ma_run_182 : decode y_Ma_run.2.1 182 = .ok (.aload_n 0, 1) := by decide +kernel
theorem d_Ma_run_183 : decode y_Ma_run.2.1 183 = .ok (.getfield 9, 3) := by decide +kernel
theorem d_Ma_run_186 : decode y_Ma_run.2.1 186 = .ok (.aload_n 0, 1) := by decide +kernel
theorem d_Ma_run_187 : decode y_Ma_run.2.1 187 = .ok (.getfield 43, 3) := by decide +kernel
theorem d_Ma_run_190 : decode y_Ma_run.2.1 190 = .ok (.iload 5, 2) := by decide +kernel
theorem d_Ma_run_192 : decode y_Ma_run.2.1 192 = .ok (.iadd, 1) := by decide +kernel
theorem d_Ma_run_193 : decode y_Ma_run.2.1 193 = .ok (.iaload, 1) := by decide +kernel
theorem d_Ma_run_194 : decode y_Ma_run.2.1 194 = .ok (.iconst 1, 1) := by decide +kernel
theorem d_Ma_run_195 : decode y_Ma_run.2.1 195 = .ok (.invokevirtual 74, 3) := by decide +kernel
theorem d_Ma_run_198 : decode y_Ma_run.2.1 198 = .ok (.goto 160, 3) := by decide +kernel
theorem d_Ma_run_201 : decode y_Ma_run.2.1 201 = .ok (.aload_n 0, 1) := by decide +kernel
theorem d_Ma_run_202 : decode y_Ma_run.2.1 202 = .ok (.iload 5, 2) := by decide +kernel
theorem d_Ma_run_204 : decode y_Ma_run.2.1 204 = .ok (.iload_n 2, 1) := by decide +kernel
theorem d_Ma_run_205 : decode y_Ma_run.2.1 205 = .ok (.invokevirtual 80, 3) := by decide +kernel
theorem d_Ma_run_208 : decode y_Ma_run.2.1 208 = .ok (.istore_n 2, 1) := by decide +kernel
theorem d_Ma_run_209 : decode y_Ma_run.2.1 209 = .ok (.goto 149, 3) := by decide +kernel
theorem d_Ma_run_212 : decode y_Ma_run.2.1 212 = .ok (.aload_n 0, 1) := by decide +kernel
theorem d_Ma_run_213 : decode y_Ma_run.2.1 213 = .ok (.getfield 18, 3) := by decide +kernel
theorem d_Ma_run_216 : decode y_Ma_run.2.1 216 = .ok (.aload_n 0, 1) := by decide +kernel
theorem d_Ma_run_217 : decode y_Ma_run.2.1 217 = .ok (.getfield 52, 3) := by decide +kernel
theorem d_Ma_run_220 : decode y_Ma_run.2.1 220 = .ok (.iconst 1, 1) := by decide +kernel
theorem d_Ma_run_221 : decode y_Ma_run.2.1 221 = .ok (.isub, 1) := by decide +kernel
theorem d_Ma_run_222 : decode y_Ma_run.2.1 222 = .ok (.iaload, 1) := by decide +kernel
theorem d_Ma_run_223 : decode y_Ma_run.2.1 223 = .ok (.ifCond .ne 7, 3) := by decide +kernel
theorem d_Ma_run_226 : decode y_Ma_run.2.1 226 = .ok (.iconst 1, 1) := by decide +kernel
theorem d_Ma_run_227 : decode y_Ma_run.2.1 227 = .ok (.goto 4, 3) := by decide +kernel
theorem d_Ma_run_230 : decode y_Ma_run.2.1 230 = .ok (.iconst 0, 1) := by decide +kernel
theorem d_Ma_run_231 : decode y_Ma_run.2.1 231 = .ok (.iload 4, 2) := by decide +kernel
theorem d_Ma_run_233 : decode y_Ma_run.2.1 233 = .ok (.bipush 30, 2) := by decide +kernel
theorem d_Ma_run_235 : decode y_Ma_run.2.1 235 = .ok (.if_icmp .ne 7, 3) := by decide +kernel
theorem d_Ma_run_238 : decode y_Ma_run.2.1 238 = .ok (.iconst 1, 1) := by decide +kernel
theorem d_Ma_run_239 : decode y_Ma_run.2.1 239 = .ok (.goto 4, 3) := by decide +kernel
theorem d_Ma_run_242 : decode y_Ma_run.2.1 242 = .ok (.iconst 0, 1) := by decide +kernel
theorem d_Ma_run_243 : decode y_Ma_run.2.1 243 = .ok (.if_icmp .ne 7, 3) := by decide +kernel
theorem d_Ma_run_246 : decode y_Ma_run.2.1 246 = .ok (.iconst 1, 1) := by decide +kernel
theorem d_Ma_run_247 : decode y_Ma_run.2.1 247 = .ok (.goto 4, 3) := by decide +kernel
theorem d_Ma_run_250 : decode y_Ma_run.2.1 250 = .ok (.iconst 0, 1) := by decide +kernel
theorem d_Ma_run_251 : decode y_Ma_run.2.1 251 = .ok (.istore 6, 2) := by decide +kernel
theorem d_Ma_run_253 : decode y_Ma_run.2.1 253 = .ok (.iload 6, 2) := by decide +kernel
theorem d_Ma_run_255 : decode y_Ma_run.2.1 255 = .ok (.ifCond .eq 8, 3) := by decide +kernel
theorem d_Ma_run_263 : decode y_Ma_run.2.1 263 = .ok (.iload_n 2, 1) := by decide +kernel
theorem d_Ma_run_258 : decode y_Ma_run.2.1 258 = .ok (.iload 5, 2) := by decide +kernel
theorem d_Ma_run_260 : decode y_Ma_run.2.1 260 = .ok (.goto 4, 3) := by decide +kernel
theorem d_Ma_run_264 : decode y_Ma_run.2.1 264 = .ok (.istore_n 2, 1) := by decide +kernel
theorem d_Ma_run_265 : decode y_Ma_run.2.1 265 = .ok (.aload_n 0, 1) := by decide +kernel
theorem d_Ma_run_266 : decode y_Ma_run.2.1 266 = .ok (.iload 6, 2) := by decide +kernel
theorem d_Ma_run_268 : decode y_Ma_run.2.1 268 = .ok (.ifCond .eq 10, 3) := by decide +kernel
theorem d_Ma_run_278 : decode y_Ma_run.2.1 278 = .ok (.aload_n 0, 1) := by decide +kernel
theorem d_Ma_run_279 : decode y_Ma_run.2.1 279 = .ok (.getfield 52, 3) := by decide +kernel
theorem d_Ma_run_282 : decode y_Ma_run.2.1 282 = .ok (.iconst 1, 1) := by decide +kernel
theorem d_Ma_run_283 : decode y_Ma_run.2.1 283 = .ok (.isub, 1) := by decide +kernel
theorem d_Ma_run_271 : decode y_Ma_run.2.1 271 = .ok (.aload_n 0, 1) := by decide +kernel
theorem d_Ma_run_272 : decode y_Ma_run.2.1 272 = .ok (.getfield 52, 3) := by decide +kernel
theorem d_Ma_run_275 : decode y_Ma_run.2.1 275 = .ok (.goto 9, 3) := by decide +kernel
theorem d_Ma_run_284 : decode y_Ma_run.2.1 284 = .ok (.putfield 52, 3) := by decide +kernel
theorem d_Ma_run_287 : decode y_Ma_run.2.1 287 = .ok (.goto 71, 3) := by decide +kernel
theorem d_Ma_run_290 : decode y_Ma_run.2.1 290 = .ok (.aload_n 0, 1) := by decide +kernel
theorem d_Ma_run_291 : decode y_Ma_run.2.1 291 = .ok (.dup, 1) := by decide +kernel
theorem d_Ma_run_292 : decode y_Ma_run.2.1 292 = .ok (.getfield 52, 3) := by decide +kernel
theorem d_Ma_run_295 : decode y_Ma_run.2.1 295 = .ok (.iconst 1, 1) := by decide +kernel
theorem d_Ma_run_296 : decode y_Ma_run.2.1 296 = .ok (.isub, 1) := by decide +kernel
theorem d_Ma_run_297 : decode y_Ma_run.2.1 297 = .ok (.putfield 52, 3) := by decide +kernel
theorem d_Ma_run_300 : decode y_Ma_run.2.1 300 = .ok (.aload_n 0, 1) := by decide +kernel
theorem d_Ma_run_301 : decode y_Ma_run.2.1 301 = .ok (.getfield 18, 3) := by decide +kernel
theorem d_Ma_run_304 : decode y_Ma_run.2.1 304 = .ok (.aload_n 0, 1) := by decide +kernel
theorem d_Ma_run_305 : decode y_Ma_run.2.1 305 = .ok (.getfield 52, 3) := by decide +kernel
theorem d_Ma_run_308 : decode y_Ma_run.2.1 308 = .ok (.iaload, 1) := by decide +kernel
theorem d_Ma_run_309 : decode y_Ma_run.2.1 309 = .ok (.ifCond .ne 8, 3) := by decide +kernel
theorem d_Ma_run_312 : decode y_Ma_run.2.1 312 = .ok (.iload 5, 2) := by decide +kernel
theorem d_Ma_run_314 : decode y_Ma_run.2.1 314 = .ok (.goto 4, 3) := by decide +kernel
theorem d_Ma_run_317 : decode y_Ma_run.2.1 317 = .ok (.iload_n 2, 1) := by decide +kernel
theorem d_Ma_run_318 : decode y_Ma_run.2.1 318 = .ok (.istore_n 2, 1) := by decide +kernel
theorem d_Ma_run_319 : decode y_Ma_run.2.1 319 = .ok (.goto 39, 3) := by decide +kernel
theorem d_Ma_run_322 : decode y_Ma_run.2.1 322 = .ok (.iload 5, 2) := by decide +kernel
theorem d_Ma_run_324 : decode y_Ma_run.2.1 324 = .ok (.istore_n 2, 1) := by decide +kernel
theorem d_Ma_run_325 : decode y_Ma_run.2.1 325 = .ok (.goto 33, 3) := by decide +kernel
theorem d_Ma_run_345 : decode y_Ma_run.2.1 345 = .ok (.aload_n 0, 1) := by decide +kernel
theorem d_Ma_run_346 : decode y_Ma_run.2.1 346 = .ok (.iload 4, 2) := by decide +kernel
theorem d_Ma_run_348 : decode y_Ma_run.2.1 348 = .ok (.iload 5, 2) := by decide +kernel
theorem d_Ma_run_350 : decode y_Ma_run.2.1 350 = .ok (.invokevirtual 88, 3) := by decide +kernel
theorem d_Ma_run_353 : decode y_Ma_run.2.1 353 = .ok (.ifCond .ne 5, 3) := by decide +kernel
theorem d_Ma_run_356 : decode y_Ma_run.2.1 356 = .ok (.iconst 0, 1) := by decide +kernel
theorem d_Ma_run_357 : decode y_Ma_run.2.1 357 = .ok (.ireturn, 1) := by decide +kernel
def h_Ma_run_14 (G : mG) (d : Nat) (a0 : Nat) (l2 : Int) (l3 : Int) (M : mM) (Q : Int → mM → Prop) : Prop := mWm G y_Ma_run (d + 1) 14 [vr a0, vd, vi l2, vi l3, vd, vd, vd] [] M (fun r9 M9 => ∃ x9, r9 = some (vi x9) ∧ Q x9 M9)
theorem k_Ma_run {G : mG} {d : Nat} {a0 : Nat} {l1 : Int} {M : mM} {Q : Int → mM → Prop} (hO : mOk M) (hi_l1 : i32 l1)
    (h : mK M a0 = 5 ∧ ∀ M2, M2 = mUI M a0 8 0 → ∀ M4, M4 = mUI M2 a0 15 0 → h_Ma_run_14 G d a0 l1 0 M4 Q) :
    Ci G y_Ma_run (d + 1) [vr a0, vi l1] M Q := by
  refine wm_open (y := y_Ma_run) rfl (Nat.le_of_ble_eq_true rfl) (L := [vr a0, vi l1, vd, vd, vd, vd, vd]) rfl ?_
  obtain ⟨h1, h⟩ := h
  obtain ⟨M2, e3⟩ : ∃ M2, M2 = mUI M a0 8 0 := ⟨_, rfl⟩
  replace h := h M2 e3
  obtain ⟨M4, e5⟩ : ∃ M4, M4 = mUI M2 a0 15 0 := ⟨_, rfl⟩
  replace h := h M4 e5
  refine wm_iload_n d_Ma_run_0 rfl rfl ?_
  refine wm_istore_n d_Ma_run_1 rfl (by decide) (L' := [vr a0, vi l1, vi l1, vd, vd, vd, vd]) rfl ?_
  refine wm_aload_n d_Ma_run_2 rfl rfl ?_
  refine wm_iconst d_Ma_run_3 ?_
  have hOM2 : mOk M2 := by rw [e3]; exact mOk_UI hO ⟨by decide, by decide⟩
  refine pf_Ma_52 rfl d_Ma_run_4 h1 ⟨by decide, by decide⟩ e3 ?_
  refine wm_aload_n d_Ma_run_7 rfl rfl ?_
  refine wm_iconst d_Ma_run_8 ?_
  have hOM4 : mOk M4 := by rw [e5]; exact mOk_UI hOM2 ⟨by decide, by decide⟩
  refine pf_Ma_55 rfl d_Ma_run_9 (by rw [e3]; exact h1) ⟨by decide, by decide⟩ e5 ?_
  refine wm_iconst d_Ma_run_12 ?_
  refine wm_istore_n d_Ma_run_13 rfl (by decide) (L' := [vr a0, vi l1, vi l1, vi 0, vd, vd, vd]) rfl ?_
  refine wm_less (L' := [vr a0, vd, vi l1, vi 0, vd, vd, vd]) ⟨Or.inr rfl, Or.inl rfl, Or.inr rfl, Or.inr rfl, Or.inl rfl, Or.inl rfl, Or.inl rfl, trivial⟩ ?_
  exact h
theorem k_Ma_run_14 {G : mG} {d : Nat} {a0 : Nat} {l2 : Int} {l3 : Int} {M : mM} {Q : Int → mM → Prop} (hO : mOk M) (hi_l2 : i32 l2) (hi_l3 : i32 l3)
    (h : (¬ (1000000 ≤ l3) → (¬ (l2 < 0) → (mK M a0 = 5 ∧ mK M (mR M a0 0) = 6))) ∧ (((1000000 ≤ l3) ∨ ((l2 < 0) ∨ (mI M (mR M a0 0) 2 ≤ l2))) → (mK M a0 = 5 ∧ Ci G y_Ma_stop d [vr a0, vi 6, vi 0] M (fun x19 M18 => i32 x19 ∧ mOk M18 ∧ ((x19 = 0 ∨ x19 = 1) ∧ Q x19 M18)))) ∧ (¬ ((1000000 ≤ l3) ∨ ((l2 < 0) ∨ (mI M (mR M a0 0) 2 ≤ l2))) → (mK M a0 = 5 ∧ mK M (mR M a0 0) = 6 ∧ mK M (mR M (mR M a0 0) 0) = 30 ∧ ((0 : Int) ≤ l2 ∧ l2 < (mN M (mR M (mR M a0 0) 0) : Int)) ∧ mK M (mR M (mR M a0 0) 1) = 30 ∧ ((0 : Int) ≤ l2 ∧ l2 < (mN M (mR M (mR M a0 0) 1) : Int)) ∧ ((mI M (mR M (mR M a0 0) 0) (Int.toNat l2) = 0) → (((mI M a0 15 = 0) → (Q 1 M)) ∧ (¬ (mI M a0 15 = 0) → (Ci G y_Ma_comeBack d [vr a0] M (fun x33 M32 => i32 x33 ∧ mOk M32 ∧ (h_Ma_run_14 G d a0 x33 (l3 + 1) M32 Q)))))) ∧ (¬ (mI M (mR M (mR M a0 0) 0) (Int.toNat l2) = 0) → (((mI M (mR M (mR M a0 0) 0) (Int.toNat l2) = 3) → (Cv G y_Ma_push d [vr a0, vi (mI M (mR M (mR M a0 0) 1) (Int.toNat l2)), vi 1] M (fun M36 => mOk M36 ∧ (h_Ma_run_14 G d a0 (l2 + 1) (l3 + 1) M36 Q)))) ∧ (¬ (mI M (mR M (mR M a0 0) 0) (Int.toNat l2) = 3) → (((mI M (mR M (mR M a0 0) 0) (Int.toNat l2) = 4) → (mK M (mR M (mR M a0 0) 8) = 30 ∧ ((0 : Int) ≤ mI M (mR M (mR M a0 0) 1) (Int.toNat l2) ∧ mI M (mR M (mR M a0 0) 1) (Int.toNat l2) < (mN M (mR M (mR M a0 0) 8) : Int)) ∧ mK M (mR M (mR M a0 0) 9) = 30 ∧ ((0 : Int) ≤ mI M (mR M (mR M a0 0) 1) (Int.toNat l2) ∧ mI M (mR M (mR M a0 0) 1) (Int.toNat l2) < (mN M (mR M (mR M a0 0) 9) : Int)) ∧ Cv G y_Ma_push d [vr a0, vi (mI M (mR M (mR M a0 0) 8) (Int.toNat (mI M (mR M (mR M a0 0) 1) (Int.toNat l2)))), vi (mI M (mR M (mR M a0 0) 9) (Int.toNat (mI M (mR M (mR M a0 0) 1) (Int.toNat l2))))] M (fun M44 => mOk M44 ∧ (h_Ma_run_14 G d a0 (l2 + 1) (l3 + 1) M44 Q)))) ∧ (¬ (mI M (mR M (mR M a0 0) 0) (Int.toNat l2) = 4) → (((mI M (mR M (mR M a0 0) 0) (Int.toNat l2) = 5) → (mK M (mR M a0 3) = 30 ∧ ((0 : Int) ≤ (mI M a0 4) + (mI M (mR M (mR M a0 0) 1) (Int.toNat l2)) ∧ (mI M a0 4) + (mI M (mR M (mR M a0 0) 1) (Int.toNat l2)) < (mN M (mR M a0 3) : Int)) ∧ Cv G y_Ma_push d [vr a0, vi (mI M (mR M a0 3) (Int.toNat ((mI M a0 4) + (mI M (mR M (mR M a0 0) 1) (Int.toNat l2))))), vi 1] M (fun M50 => mOk M50 ∧ (h_Ma_run_14 G d a0 (l2 + 1) (l3 + 1) M50 Q)))) ∧ (¬ (mI M (mR M (mR M a0 0) 0) (Int.toNat l2) = 5) → (((mI M (mR M (mR M a0 0) 0) (Int.toNat l2) = 7) → (Ci G y_Ma_meet d [vr a0, vi (mI M (mR M (mR M a0 0) 1) (Int.toNat l2)), vi (l2 + 1)] M (fun x55 M54 => i32 x55 ∧ mOk M54 ∧ (h_Ma_run_14 G d a0 x55 (l3 + 1) M54 Q)))) ∧ (¬ (mI M (mR M (mR M a0 0) 0) (Int.toNat l2) = 7) → (((mI M (mR M (mR M a0 0) 0) (Int.toNat l2) = 30 ∨ mI M (mR M (mR M a0 0) 0) (Int.toNat l2) = 31) → (mK M (mR M a0 6) = 30 ∧ ((0 : Int) ≤ (mI M a0 8) - 1 ∧ (mI M a0 8) - 1 < (mN M (mR M a0 6) : Int)) ∧ ∀ v61 : Int, v61 = (if (mI M (mR M a0 6) (Int.toNat ((mI M a0 8) - 1)) = 0) then 1 else 0) → ∀ v67 : Int, v67 = (if (mI M (mR M (mR M a0 0) 0) (Int.toNat l2) = 30) then 1 else 0) → ∀ v73 : Int, v73 = (if (v61 = v67) then 1 else 0) → ∀ v79 : Int, v79 = (if (v73 = 0) then l2 + 1 else mI M (mR M (mR M a0 0) 1) (Int.toNat l2)) → ∀ v83 : Int, v83 = (if (v73 = 0) then (mI M a0 8) - 1 else mI M a0 8) → i32 v83 ∧ ∀ M87, M87 = mUI M a0 8 v83 → h_Ma_run_14 G d a0 v79 (l3 + 1) M87 Q)) ∧ (¬ (mI M (mR M (mR M a0 0) 0) (Int.toNat l2) = 30 ∨ mI M (mR M (mR M a0 0) 0) (Int.toNat l2) = 31) → (((mI M (mR M (mR M a0 0) 0) (Int.toNat l2) = 33) → (i32 ((mI M a0 8) - 1) ∧ ∀ M96, M96 = mUI M a0 8 ((mI M a0 8) - 1) → mK M96 (mR M96 a0 6) = 30 ∧ ((0 : Int) ≤ mI M96 a0 8 ∧ mI M96 a0 8 < (mN M96 (mR M96 a0 6) : Int)) ∧ ∀ v101 : Int, v101 = (if (mI M96 (mR M96 a0 6) (Int.toNat (mI M96 a0 8)) = 0) then mI M (mR M (mR M a0 0) 1) (Int.toNat l2) else l2 + 1) → h_Ma_run_14 G d a0 v101 (l3 + 1) M96 Q)) ∧ (¬ (mI M (mR M (mR M a0 0) 0) (Int.toNat l2) = 33) → (((mI M (mR M (mR M a0 0) 0) (Int.toNat l2) = 42) → (h_Ma_run_14 G d a0 (mI M (mR M (mR M a0 0) 1) (Int.toNat l2)) (l3 + 1) M Q)) ∧ (¬ (mI M (mR M (mR M a0 0) 0) (Int.toNat l2) = 42) → (Ci G y_Ma_compute d [vr a0, vi (mI M (mR M (mR M a0 0) 0) (Int.toNat l2)), vi (mI M (mR M (mR M a0 0) 1) (Int.toNat l2))] M (fun x107 M106 => i32 x107 ∧ mOk M106 ∧ (((x107 = 0) → (Q 0 M106)) ∧ (¬ (x107 = 0) → (h_Ma_run_14 G d a0 (l2 + 1) (l3 + 1) M106 Q))))))))))))))))))))))) :
    h_Ma_run_14 G d a0 l2 l3 M Q := by
  unfold h_Ma_run_14
  refine wm_iload_n d_Ma_run_14 rfl rfl ?_
  refine wm_ldc (x := 1000000) d_Ma_run_15 k5_52 (by decide) ?_
  obtain ⟨s15, h⟩ := h
  have hE0 : ((1000000 ≤ l3) ∨ ((l2 < 0) ∨ (mI M (mR M a0 0) 2 ≤ l2))) → mWm G y_Ma_run (d + 1) 364 [vr a0, vd, vi l2, vi l3, vd, vd, vd] [] M (fun r9 M9 => ∃ x9, r9 = some (vi x9) ∧ Q x9 M9) := by
    intro q16
    have h := h.1 q16
    obtain ⟨h17, h⟩ := h
    refine wm_aload_n d_Ma_run_364 rfl rfl ?_
    refine wm_bipush d_Ma_run_365 (by decide) ?_
    refine wm_iconst d_Ma_run_367 ?_
    refine cf_Ma_92 rfl d_Ma_run_368 h17 (Nat.le_of_ble_eq_true rfl) (Ci.mono h (fun x19 M18 h => ?_))
    obtain ⟨h20, hOM18, h⟩ := h
    obtain ⟨h21, h⟩ := h
    refine wm_ireturn d_Ma_run_371 rfl (m_nb h21) ?_
    exact ⟨_, rfl, h⟩
  have hE1 : ¬ ((1000000 ≤ l3) ∨ ((l2 < 0) ∨ (mI M (mR M a0 0) 2 ≤ l2))) → mWm G y_Ma_run (d + 1) 35 [vr a0, vd, vi l2, vi l3, vd, vd, vd] [] M (fun r9 M9 => ∃ x9, r9 = some (vi x9) ∧ Q x9 M9) := by
    intro q22
    have h := h.2 q22
    obtain ⟨h23, h⟩ := h
    obtain ⟨h24, h⟩ := h
    obtain ⟨h25, h⟩ := h
    obtain ⟨h26, h⟩ := h
    obtain ⟨h27, h⟩ := h
    obtain ⟨h28, h⟩ := h
    refine wm_aload_n d_Ma_run_35 rfl rfl ?_
    refine gf_Ma_59 rfl d_Ma_run_36 h23 ?_
    refine gf_Ma_68 rfl d_Ma_run_39 h24 ?_
    refine wm_iload_n d_Ma_run_42 rfl rfl ?_
    refine wm_iald d_Ma_run_43 h25 h26 ?_
    refine wm_istore d_Ma_run_44 (by decide) (L' := [vr a0, vd, vi l2, vi l3, vi (mI M (mR M (mR M a0 0) 0) (Int.toNat l2)), vd, vd]) rfl ?_
    refine wm_aload_n d_Ma_run_46 rfl rfl ?_
    refine gf_Ma_59 rfl d_Ma_run_47 h23 ?_
    refine gf_Ma_71 rfl d_Ma_run_50 h24 ?_
    refine wm_iload_n d_Ma_run_53 rfl rfl ?_
    refine wm_iald d_Ma_run_54 h27 h28 ?_
    refine wm_istore d_Ma_run_55 (by decide) (L' := [vr a0, vd, vi l2, vi l3, vi (mI M (mR M (mR M a0 0) 0) (Int.toNat l2)), vi (mI M (mR M (mR M a0 0) 1) (Int.toNat l2)), vd]) rfl ?_
    refine wm_iinc d_Ma_run_57 (by decide) rfl (L' := [vr a0, vd, vi (l2 + 1), vi l3, vi (mI M (mR M (mR M a0 0) 0) (Int.toNat l2)), vi (mI M (mR M (mR M a0 0) 1) (Int.toNat l2)), vd]) rfl ?_
    refine wm_iload d_Ma_run_60 rfl ?_
    by_cases c29 : mI M (mR M (mR M a0 0) 0) (Int.toNat l2) = 0
    · replace h := h.1 c29
      refine wm_lookup (tgt := 328) (off := 266) d_Ma_run_62 z_Ma_run_62_s (hO _ _).1 (by rw [c29]; rfl) rfl ?_
      refine wm_aload_n d_Ma_run_328 rfl rfl ?_
      refine gf_Ma_55 rfl d_Ma_run_329 h23 ?_
      refine wm_if_ne (tgt := 337) d_Ma_run_332 rfl (hO _ _).1 (fun c31 => ?_) (fun c31 => ?_)
      · replace h := h.2 c31
        refine wm_aload_n d_Ma_run_337 rfl rfl ?_
        refine cf_Ma_84 rfl d_Ma_run_338 h23 (Nat.le_of_ble_eq_true rfl) (Ci.mono h (fun x33 M32 h => ?_))
        obtain ⟨h34, hOM32, h⟩ := h
        refine wm_istore_n d_Ma_run_341 rfl (by decide) (L' := [vr a0, vd, vi x33, vi l3, vi (mI M (mR M (mR M a0 0) 0) (Int.toNat l2)), vi (mI M (mR M (mR M a0 0) 1) (Int.toNat l2)), vd]) rfl ?_
        refine wm_goto (tgt := 358) d_Ma_run_342 rfl ?_
        refine wm_iinc d_Ma_run_358 (by decide) rfl (L' := [vr a0, vd, vi x33, vi (l3 + 1), vi (mI M (mR M (mR M a0 0) 0) (Int.toNat l2)), vi (mI M (mR M (mR M a0 0) 1) (Int.toNat l2)), vd]) rfl ?_
        refine wm_goto (tgt := 14) d_Ma_run_361 rfl ?_
        refine wm_less (L' := [vr a0, vd, vi x33, vi (l3 + 1), vd, vd, vd]) ⟨Or.inr rfl, Or.inl rfl, Or.inr rfl, Or.inr rfl, Or.inl rfl, Or.inl rfl, Or.inl rfl, trivial⟩ ?_
        exact h
      · replace c31 := Classical.not_not.mp c31
        replace h := h.1 c31
        refine wm_iconst d_Ma_run_335 ?_
        refine wm_ireturn d_Ma_run_336 rfl (m_nb (by decide)) ?_
        exact ⟨_, rfl, h⟩
    · replace h := h.2 c29
      by_cases c35 : mI M (mR M (mR M a0 0) 0) (Int.toNat l2) = 3
      · replace h := h.1 c35
        refine wm_lookup (tgt := 144) (off := 82) d_Ma_run_62 z_Ma_run_62_s (hO _ _).1 (by rw [c35]; rfl) rfl ?_
        refine wm_aload_n d_Ma_run_144 rfl rfl ?_
        refine wm_iload d_Ma_run_145 rfl ?_
        refine wm_iconst d_Ma_run_147 ?_
        refine cf_Ma_74 rfl d_Ma_run_148 h23 (Nat.le_of_ble_eq_true rfl) (Cv.mono h (fun M36 h => ?_))
        obtain ⟨hOM36, h⟩ := h
        refine wm_goto (tgt := 358) d_Ma_run_151 rfl ?_
        refine wm_iinc d_Ma_run_358 (by decide) rfl (L' := [vr a0, vd, vi (l2 + 1), vi (l3 + 1), vi (mI M (mR M (mR M a0 0) 0) (Int.toNat l2)), vi (mI M (mR M (mR M a0 0) 1) (Int.toNat l2)), vd]) rfl ?_
        refine wm_goto (tgt := 14) d_Ma_run_361 rfl ?_
        refine wm_less (L' := [vr a0, vd, vi (l2 + 1), vi (l3 + 1), vd, vd, vd]) ⟨Or.inr rfl, Or.inl rfl, Or.inr rfl, Or.inr rfl, Or.inl rfl, Or.inl rfl, Or.inl rfl, trivial⟩ ?_
        exact h
      · replace h := h.2 c35
        by_cases c39 : mI M (mR M (mR M a0 0) 0) (Int.toNat l2) = 4
        · replace h := h.1 c39
          refine wm_lookup (tgt := 154) (off := 92) d_Ma_run_62 z_Ma_run_62_s (hO _ _).1 (by rw [c39]; rfl) rfl ?_
          obtain ⟨h40, h⟩ := h
          obtain ⟨h41, h⟩ := h
          obtain ⟨h42, h⟩ := h
          obtain ⟨h43, h⟩ := h
          refine wm_aload_n d_Ma_run_154 rfl rfl ?_
          refine wm_aload_n d_Ma_run_155 rfl rfl ?_
          refine gf_Ma_59 rfl d_Ma_run_156 h23 ?_
          refine gf_Ma_78 rfl d_Ma_run_159 h24 ?_
          refine wm_iload d_Ma_run_162 rfl ?_
          refine wm_iald d_Ma_run_164 h40 h41 ?_
          refine wm_aload_n d_Ma_run_165 rfl rfl ?_
          refine gf_Ma_59 rfl d_Ma_run_166 h23 ?_
          refine gf_Ma_79 rfl d_Ma_run_169 h24 ?_
          refine wm_iload d_Ma_run_172 rfl ?_
          refine wm_iald d_Ma_run_174 h42 h43 ?_
          refine cf_Ma_74 rfl d_Ma_run_175 h23 (Nat.le_of_ble_eq_true rfl) (Cv.mono h (fun M44 h => ?_))
          obtain ⟨hOM44, h⟩ := h
          refine wm_goto (tgt := 358) d_Ma_run_178 rfl ?_
          refine wm_iinc d_Ma_run_358 (by decide) rfl (L' := [vr a0, vd, vi (l2 + 1), vi (l3 + 1), vi (mI M (mR M (mR M a0 0) 0) (Int.toNat l2)), vi (mI M (mR M (mR M a0 0) 1) (Int.toNat l2)), vd]) rfl ?_
          refine wm_goto (tgt := 14) d_Ma_run_361 rfl ?_
          refine wm_less (L' := [vr a0, vd, vi (l2 + 1), vi (l3 + 1), vd, vd, vd]) ⟨Or.inr rfl, Or.inl rfl, Or.inr rfl, Or.inr rfl, Or.inl rfl, Or.inl rfl, Or.inl rfl, trivial⟩ ?_
          exact h
        · replace h := h.2 c39
          by_cases c47 : mI M (mR M (mR M a0 0) 0) (Int.toNat l2) = 5
          · replace h := h.1 c47
            refine wm_lookup (tgt := 181) (off := 119) d_Ma_run_62 z_Ma_run_62_s (hO _ _).1 (by rw [c47]; rfl) rfl ?_
            obtain ⟨h48, h⟩ := h
            obtain ⟨h49, h⟩ := h
            refine wm_aload_n d_Ma_run_181 rfl rfl ?_
            refine wm_aload_n d_Ma_run_182 rfl rfl ?_
            refine gf_Ma_9 rfl d_Ma_run_183 h23 ?_
            refine wm_aload_n d_Ma_run_186 rfl rfl ?_
            refine gf_Ma_43 rfl d_Ma_run_187 h23 ?_
            refine wm_iload d_Ma_run_190 rfl ?_
            refine wm_iadd d_Ma_run_192 ?_
            refine wm_iald d_Ma_run_193 h48 h49 ?_
            refine wm_iconst d_Ma_run_194 ?_
            refine cf_Ma_74 rfl d_Ma_run_195 h23 (Nat.le_of_ble_eq_true rfl) (Cv.mono h (fun M50 h => ?_))
            obtain ⟨hOM50, h⟩ := h
            refine wm_goto (tgt := 358) d_Ma_run_198 rfl ?_
            refine wm_iinc d_Ma_run_358 (by decide) rfl (L' := [vr a0, vd, vi (l2 + 1), vi (l3 + 1), vi (mI M (mR M (mR M a0 0) 0) (Int.toNat l2)), vi (mI M (mR M (mR M a0 0) 1) (Int.toNat l2)), vd]) rfl ?_
            refine wm_goto (tgt := 14) d_Ma_run_361 rfl ?_
            refine wm_less (L' := [vr a0, vd, vi (l2 + 1), vi (l3 + 1), vd, vd, vd]) ⟨Or.inr rfl, Or.inl rfl, Or.inr rfl, Or.inr rfl, Or.inl rfl, Or.inl rfl, Or.inl rfl, trivial⟩ ?_
            exact h
          · replace h := h.2 c47
            by_cases c53 : mI M (mR M (mR M a0 0) 0) (Int.toNat l2) = 7
            · replace h := h.1 c53
              refine wm_lookup (tgt := 201) (off := 139) d_Ma_run_62 z_Ma_run_62_s (hO _ _).1 (by rw [c53]; rfl) rfl ?_
              refine wm_aload_n d_Ma_run_201 rfl rfl ?_
              refine wm_iload d_Ma_run_202 rfl ?_
              refine wm_iload_n d_Ma_run_204 rfl rfl ?_
              refine cf_Ma_80 rfl d_Ma_run_205 h23 (Nat.le_of_ble_eq_true rfl) (Ci.mono h (fun x55 M54 h => ?_))
              obtain ⟨h56, hOM54, h⟩ := h
              refine wm_istore_n d_Ma_run_208 rfl (by decide) (L' := [vr a0, vd, vi x55, vi l3, vi (mI M (mR M (mR M a0 0) 0) (Int.toNat l2)), vi (mI M (mR M (mR M a0 0) 1) (Int.toNat l2)), vd]) rfl ?_
              refine wm_goto (tgt := 358) d_Ma_run_209 rfl ?_
              refine wm_iinc d_Ma_run_358 (by decide) rfl (L' := [vr a0, vd, vi x55, vi (l3 + 1), vi (mI M (mR M (mR M a0 0) 0) (Int.toNat l2)), vi (mI M (mR M (mR M a0 0) 1) (Int.toNat l2)), vd]) rfl ?_
              refine wm_goto (tgt := 14) d_Ma_run_361 rfl ?_
              refine wm_less (L' := [vr a0, vd, vi x55, vi (l3 + 1), vd, vd, vd]) ⟨Or.inr rfl, Or.inl rfl, Or.inr rfl, Or.inr rfl, Or.inl rfl, Or.inl rfl, Or.inl rfl, trivial⟩ ?_
              exact h
            · replace h := h.2 c53
              by_cases c57 : mI M (mR M (mR M a0 0) 0) (Int.toNat l2) = 30 ∨ mI M (mR M (mR M a0 0) 0) (Int.toNat l2) = 31
              · replace h := h.1 c57
                refine wm_lookup (tgt := 212) (off := 150) d_Ma_run_62 z_Ma_run_62_s (hO _ _).1 (by rcases c57 with q9 | q9 <;> (rw [q9]; rfl)) rfl ?_
                obtain ⟨h58, h⟩ := h
                obtain ⟨h59, h⟩ := h
                refine wm_aload_n d_Ma_run_212 rfl rfl ?_
                refine gf_Ma_18 rfl d_Ma_run_213 h23 ?_
                refine wm_aload_n d_Ma_run_216 rfl rfl ?_
                refine gf_Ma_52 rfl d_Ma_run_217 h23 ?_
                refine wm_iconst d_Ma_run_220 ?_
                refine wm_isub d_Ma_run_221 ?_
                refine wm_iald d_Ma_run_222 h58 h59 ?_
                have hJ : ∀ v61 : Int, v61 = (if (mI M (mR M a0 6) (Int.toNat ((mI M a0 8) - 1)) = 0) then 1 else 0) → mWm G y_Ma_run (d + 1) 231 [vr a0, vd, vi (l2 + 1), vi l3, vi (mI M (mR M (mR M a0 0) 0) (Int.toNat l2)), vi (mI M (mR M (mR M a0 0) 1) (Int.toNat l2)), vd] [vi v61] M (fun r9 M9 => ∃ x9, r9 = some (vi x9) ∧ Q x9 M9) := by
                  intro v61 e63
                  have h := h v61 e63
                  have h64 : i32 v61 := by rw [e63]; (repeat' split) <;> first | exact ⟨by decide, by decide⟩ | exact ⟨by decide, by decide⟩
                  have h65 : (v61 = 0 ∨ v61 = 1) := by rw [e63]; (repeat' split) <;> decide
                  refine wm_iload d_Ma_run_231 rfl ?_
                  refine wm_bipush d_Ma_run_233 (by decide) ?_
                  have hJ : ∀ v67 : Int, v67 = (if (mI M (mR M (mR M a0 0) 0) (Int.toNat l2) = 30) then 1 else 0) → mWm G y_Ma_run (d + 1) 243 [vr a0, vd, vi (l2 + 1), vi l3, vd, vi (mI M (mR M (mR M a0 0) 1) (Int.toNat l2)), vd] [vi v67, vi v61] M (fun r9 M9 => ∃ x9, r9 = some (vi x9) ∧ Q x9 M9) := by
                    intro v67 e69
                    have h := h v67 e69
                    have h70 : i32 v67 := by rw [e69]; (repeat' split) <;> first | exact ⟨by decide, by decide⟩ | exact ⟨by decide, by decide⟩
                    have h71 : (v67 = 0 ∨ v67 = 1) := by rw [e69]; (repeat' split) <;> decide
                    have hJ : ∀ v73 : Int, v73 = (if (v61 = v67) then 1 else 0) → mWm G y_Ma_run (d + 1) 251 [vr a0, vd, vi (l2 + 1), vi l3, vd, vi (mI M (mR M (mR M a0 0) 1) (Int.toNat l2)), vd] [vi v73] M (fun r9 M9 => ∃ x9, r9 = some (vi x9) ∧ Q x9 M9) := by
                      intro v73 e75
                      have h := h v73 e75
                      have h76 : i32 v73 := by rw [e75]; (repeat' split) <;> first | exact ⟨by decide, by decide⟩ | exact ⟨by decide, by decide⟩
                      have h77 : (v73 = 0 ∨ v73 = 1) := by rw [e75]; (repeat' split) <;> decide
                      refine wm_istore d_Ma_run_251 (by decide) (L' := [vr a0, vd, vi (l2 + 1), vi l3, vd, vi (mI M (mR M (mR M a0 0) 1) (Int.toNat l2)), vi v73]) rfl ?_
                      refine wm_iload d_Ma_run_253 rfl ?_
                      have hJ : ∀ v79 : Int, v79 = (if (v73 = 0) then l2 + 1 else mI M (mR M (mR M a0 0) 1) (Int.toNat l2)) → mWm G y_Ma_run (d + 1) 264 [vr a0, vd, vd, vi l3, vd, vd, vi v73] [vi v79] M (fun r9 M9 => ∃ x9, r9 = some (vi x9) ∧ Q x9 M9) := by
                        intro v79 e81
                        have h := h v79 e81
                        refine wm_istore_n d_Ma_run_264 rfl (by decide) (L' := [vr a0, vd, vi v79, vi l3, vd, vd, vi v73]) rfl ?_
                        refine wm_aload_n d_Ma_run_265 rfl rfl ?_
                        refine wm_iload d_Ma_run_266 rfl ?_
                        have hJ : ∀ v83 : Int, v83 = (if (v73 = 0) then (mI M a0 8) - 1 else mI M a0 8) → mWm G y_Ma_run (d + 1) 284 [vr a0, vd, vi v79, vi l3, vd, vd, vd] [vi v83, vr a0] M (fun r9 M9 => ∃ x9, r9 = some (vi x9) ∧ Q x9 M9) := by
                          intro v83 e85
                          have h := h v83 e85
                          obtain ⟨h86, h⟩ := h
                          obtain ⟨M87, e88⟩ : ∃ M87, M87 = mUI M a0 8 v83 := ⟨_, rfl⟩
                          replace h := h M87 e88
                          have hOM87 : mOk M87 := by rw [e88]; exact mOk_UI hO h86
                          refine pf_Ma_52 rfl d_Ma_run_284 h23 h86 e88 ?_
                          refine wm_goto (tgt := 358) d_Ma_run_287 rfl ?_
                          refine wm_iinc d_Ma_run_358 (by decide) rfl (L' := [vr a0, vd, vi v79, vi (l3 + 1), vd, vd, vd]) rfl ?_
                          refine wm_goto (tgt := 14) d_Ma_run_361 rfl ?_
                          exact h
                        clear h
                        refine wm_if_eq (tgt := 278) d_Ma_run_268 rfl h76 (fun c82 => ?_) (fun c82 => ?_)
                        · refine wm_aload_n d_Ma_run_278 rfl rfl ?_
                          refine gf_Ma_52 rfl d_Ma_run_279 h23 ?_
                          refine wm_iconst d_Ma_run_282 ?_
                          refine wm_isub d_Ma_run_283 ?_
                          refine wm_less (L' := [vr a0, vd, vi v79, vi l3, vd, vd, vd]) ⟨Or.inr rfl, Or.inl rfl, Or.inr rfl, Or.inr rfl, Or.inl rfl, Or.inl rfl, Or.inl rfl, trivial⟩ ?_
                          exact hJ ((mI M a0 8) - 1) (if_pos c82).symm
                        · refine wm_aload_n d_Ma_run_271 rfl rfl ?_
                          refine gf_Ma_52 rfl d_Ma_run_272 h23 ?_
                          refine wm_goto (tgt := 284) d_Ma_run_275 rfl ?_
                          refine wm_less (L' := [vr a0, vd, vi v79, vi l3, vd, vd, vd]) ⟨Or.inr rfl, Or.inl rfl, Or.inr rfl, Or.inr rfl, Or.inl rfl, Or.inl rfl, Or.inl rfl, trivial⟩ ?_
                          exact hJ (mI M a0 8) (if_neg c82).symm
                      clear h
                      refine wm_if_eq (tgt := 263) d_Ma_run_255 rfl h76 (fun c78 => ?_) (fun c78 => ?_)
                      · refine wm_iload_n d_Ma_run_263 rfl rfl ?_
                        refine wm_less (L' := [vr a0, vd, vd, vi l3, vd, vd, vi v73]) ⟨Or.inr rfl, Or.inl rfl, Or.inl rfl, Or.inr rfl, Or.inl rfl, Or.inl rfl, Or.inr rfl, trivial⟩ ?_
                        exact hJ (l2 + 1) (if_pos c78).symm
                      · refine wm_iload d_Ma_run_258 rfl ?_
                        refine wm_goto (tgt := 264) d_Ma_run_260 rfl ?_
                        refine wm_less (L' := [vr a0, vd, vd, vi l3, vd, vd, vi v73]) ⟨Or.inr rfl, Or.inl rfl, Or.inl rfl, Or.inr rfl, Or.inl rfl, Or.inl rfl, Or.inr rfl, trivial⟩ ?_
                        exact hJ (mI M (mR M (mR M a0 0) 1) (Int.toNat l2)) (if_neg c78).symm
                    clear h
                    refine wm_icmp_ne (tgt := 250) d_Ma_run_243 rfl h64 h70 (fun c72 => ?_) (fun c72 => ?_)
                    · refine wm_iconst d_Ma_run_250 ?_
                      exact hJ 0 (if_neg c72).symm
                    · replace c72 := Classical.not_not.mp c72
                      refine wm_iconst d_Ma_run_246 ?_
                      refine wm_goto (tgt := 251) d_Ma_run_247 rfl ?_
                      exact hJ 1 (if_pos c72).symm
                  clear h
                  refine wm_icmp_ne (tgt := 242) d_Ma_run_235 rfl (hO _ _).1 ⟨by decide, by decide⟩ (fun c66 => ?_) (fun c66 => ?_)
                  · refine wm_iconst d_Ma_run_242 ?_
                    refine wm_less (L' := [vr a0, vd, vi (l2 + 1), vi l3, vd, vi (mI M (mR M (mR M a0 0) 1) (Int.toNat l2)), vd]) ⟨Or.inr rfl, Or.inl rfl, Or.inr rfl, Or.inr rfl, Or.inl rfl, Or.inr rfl, Or.inl rfl, trivial⟩ ?_
                    exact hJ 0 (if_neg c66).symm
                  · replace c66 := Classical.not_not.mp c66
                    refine wm_iconst d_Ma_run_238 ?_
                    refine wm_goto (tgt := 243) d_Ma_run_239 rfl ?_
                    refine wm_less (L' := [vr a0, vd, vi (l2 + 1), vi l3, vd, vi (mI M (mR M (mR M a0 0) 1) (Int.toNat l2)), vd]) ⟨Or.inr rfl, Or.inl rfl, Or.inr rfl, Or.inr rfl, Or.inl rfl, Or.inr rfl, Or.inl rfl, trivial⟩ ?_
                    exact hJ 1 (if_pos c66).symm
                clear h
                refine wm_if_ne (tgt := 230) d_Ma_run_223 rfl (hO _ _).1 (fun c60 => ?_) (fun c60 => ?_)
                · refine wm_iconst d_Ma_run_230 ?_
                  exact hJ 0 (if_neg c60).symm
                · replace c60 := Classical.not_not.mp c60
                  refine wm_iconst d_Ma_run_226 ?_
                  refine wm_goto (tgt := 231) d_Ma_run_227 rfl ?_
                  exact hJ 1 (if_pos c60).symm
              · replace h := h.2 c57
                by_cases c94 : mI M (mR M (mR M a0 0) 0) (Int.toNat l2) = 33
                · replace h := h.1 c94
                  refine wm_lookup (tgt := 290) (off := 228) d_Ma_run_62 z_Ma_run_62_s (hO _ _).1 (by rw [c94]; rfl) rfl ?_
                  obtain ⟨h95, h⟩ := h
                  obtain ⟨M96, e97⟩ : ∃ M96, M96 = mUI M a0 8 ((mI M a0 8) - 1) := ⟨_, rfl⟩
                  replace h := h M96 e97
                  obtain ⟨h98, h⟩ := h
                  obtain ⟨h99, h⟩ := h
                  refine wm_aload_n d_Ma_run_290 rfl rfl ?_
                  refine wm_dup d_Ma_run_291 rfl ?_
                  refine gf_Ma_52 rfl d_Ma_run_292 h23 ?_
                  refine wm_iconst d_Ma_run_295 ?_
                  refine wm_isub d_Ma_run_296 ?_
                  have hOM96 : mOk M96 := by rw [e97]; exact mOk_UI hO h95
                  refine pf_Ma_52 rfl d_Ma_run_297 h23 h95 e97 ?_
                  refine wm_aload_n d_Ma_run_300 rfl rfl ?_
                  refine gf_Ma_18 rfl d_Ma_run_301 (by rw [e97]; exact h23) ?_
                  refine wm_aload_n d_Ma_run_304 rfl rfl ?_
                  refine gf_Ma_52 rfl d_Ma_run_305 (by rw [e97]; exact h23) ?_
                  refine wm_iald d_Ma_run_308 h98 h99 ?_
                  have hJ : ∀ v101 : Int, v101 = (if (mI M96 (mR M96 a0 6) (Int.toNat (mI M96 a0 8)) = 0) then mI M (mR M (mR M a0 0) 1) (Int.toNat l2) else l2 + 1) → mWm G y_Ma_run (d + 1) 318 [vr a0, vd, vd, vi l3, vd, vd, vd] [vi v101] M96 (fun r9 M9 => ∃ x9, r9 = some (vi x9) ∧ Q x9 M9) := by
                    intro v101 e103
                    have h := h v101 e103
                    refine wm_istore_n d_Ma_run_318 rfl (by decide) (L' := [vr a0, vd, vi v101, vi l3, vd, vd, vd]) rfl ?_
                    refine wm_goto (tgt := 358) d_Ma_run_319 rfl ?_
                    refine wm_iinc d_Ma_run_358 (by decide) rfl (L' := [vr a0, vd, vi v101, vi (l3 + 1), vd, vd, vd]) rfl ?_
                    refine wm_goto (tgt := 14) d_Ma_run_361 rfl ?_
                    exact h
                  clear h
                  refine wm_if_ne (tgt := 317) d_Ma_run_309 rfl (hOM96 _ _).1 (fun c100 => ?_) (fun c100 => ?_)
                  · refine wm_iload_n d_Ma_run_317 rfl rfl ?_
                    refine wm_less (L' := [vr a0, vd, vd, vi l3, vd, vd, vd]) ⟨Or.inr rfl, Or.inl rfl, Or.inl rfl, Or.inr rfl, Or.inl rfl, Or.inl rfl, Or.inl rfl, trivial⟩ ?_
                    exact hJ (l2 + 1) (if_neg c100).symm
                  · replace c100 := Classical.not_not.mp c100
                    refine wm_iload d_Ma_run_312 rfl ?_
                    refine wm_goto (tgt := 318) d_Ma_run_314 rfl ?_
                    refine wm_less (L' := [vr a0, vd, vd, vi l3, vd, vd, vd]) ⟨Or.inr rfl, Or.inl rfl, Or.inl rfl, Or.inr rfl, Or.inl rfl, Or.inl rfl, Or.inl rfl, trivial⟩ ?_
                    exact hJ (mI M (mR M (mR M a0 0) 1) (Int.toNat l2)) (if_pos c100).symm
                · replace h := h.2 c94
                  by_cases c105 : mI M (mR M (mR M a0 0) 0) (Int.toNat l2) = 42
                  · replace h := h.1 c105
                    refine wm_lookup (tgt := 322) (off := 260) d_Ma_run_62 z_Ma_run_62_s (hO _ _).1 (by rw [c105]; rfl) rfl ?_
                    refine wm_iload d_Ma_run_322 rfl ?_
                    refine wm_istore_n d_Ma_run_324 rfl (by decide) (L' := [vr a0, vd, vi (mI M (mR M (mR M a0 0) 1) (Int.toNat l2)), vi l3, vi (mI M (mR M (mR M a0 0) 0) (Int.toNat l2)), vi (mI M (mR M (mR M a0 0) 1) (Int.toNat l2)), vd]) rfl ?_
                    refine wm_goto (tgt := 358) d_Ma_run_325 rfl ?_
                    refine wm_iinc d_Ma_run_358 (by decide) rfl (L' := [vr a0, vd, vi (mI M (mR M (mR M a0 0) 1) (Int.toNat l2)), vi (l3 + 1), vi (mI M (mR M (mR M a0 0) 0) (Int.toNat l2)), vi (mI M (mR M (mR M a0 0) 1) (Int.toNat l2)), vd]) rfl ?_
                    refine wm_goto (tgt := 14) d_Ma_run_361 rfl ?_
                    refine wm_less (L' := [vr a0, vd, vi (mI M (mR M (mR M a0 0) 1) (Int.toNat l2)), vi (l3 + 1), vd, vd, vd]) ⟨Or.inr rfl, Or.inl rfl, Or.inr rfl, Or.inr rfl, Or.inl rfl, Or.inl rfl, Or.inl rfl, trivial⟩ ?_
                    exact h
                  · replace h := h.2 c105
                    refine wm_lookup (tgt := 345) (off := 283) d_Ma_run_62 z_Ma_run_62_s (hO _ _).1 (by simp [Op.lookupswitch.offset]; repeat rw [if_neg (by omega)]) rfl ?_
                    refine wm_aload_n d_Ma_run_345 rfl rfl ?_
                    refine wm_iload d_Ma_run_346 rfl ?_
                    refine wm_iload d_Ma_run_348 rfl ?_
                    refine cf_Ma_88 rfl d_Ma_run_350 h23 (Nat.le_of_ble_eq_true rfl) (Ci.mono h (fun x107 M106 h => ?_))
                    obtain ⟨h108, hOM106, h⟩ := h
                    refine wm_if_ne (tgt := 358) d_Ma_run_353 rfl h108 (fun c110 => ?_) (fun c110 => ?_)
                    · replace h := h.2 c110
                      refine wm_iinc d_Ma_run_358 (by decide) rfl (L' := [vr a0, vd, vi (l2 + 1), vi (l3 + 1), vi (mI M (mR M (mR M a0 0) 0) (Int.toNat l2)), vi (mI M (mR M (mR M a0 0) 1) (Int.toNat l2)), vd]) rfl ?_
                      refine wm_goto (tgt := 14) d_Ma_run_361 rfl ?_
                      refine wm_less (L' := [vr a0, vd, vi (l2 + 1), vi (l3 + 1), vd, vd, vd]) ⟨Or.inr rfl, Or.inl rfl, Or.inr rfl, Or.inr rfl, Or.inl rfl, Or.inl rfl, Or.inl rfl, trivial⟩ ?_
                      exact h
                    · replace c110 := Classical.not_not.mp c110
                      replace h := h.1 c110
                      refine wm_iconst d_Ma_run_356 ?_
                      refine wm_ireturn d_Ma_run_357 rfl (m_nb (by decide)) ?_
                      exact ⟨_, rfl, h⟩
  clear h
  have s111 := s15
  refine wm_icmp_ge (tgt := 364) d_Ma_run_17 rfl hi_l3 ⟨by decide, by decide⟩ (fun c14 => ?_) (fun c14 => ?_)
  · exact hE0 (Or.inl c14)
  · have s111 := s111 c14
    have s112 := s111
    refine wm_iload_n d_Ma_run_20 rfl rfl ?_
    refine wm_if_lt (tgt := 364) d_Ma_run_21 rfl hi_l2 (fun c13 => ?_) (fun c13 => ?_)
    · exact hE0 (Or.inr (Or.inl c13))
    · have s112 := s112 c13
      obtain ⟨h6, h7⟩ := s112
      refine wm_iload_n d_Ma_run_24 rfl rfl ?_
      refine wm_aload_n d_Ma_run_25 rfl rfl ?_
      refine gf_Ma_59 rfl d_Ma_run_26 h6 ?_
      refine gf_Ma_63 rfl d_Ma_run_29 h7 ?_
      refine wm_icmp_ge (tgt := 364) d_Ma_run_32 rfl hi_l2 (hO _ _).1 (fun c12 => ?_) (fun c12 => ?_)
      · exact hE0 (Or.inr (Or.inr c12))
      · exact hE1 (fun z113 => Or.elim z113 c14 (fun z114 => Or.elim z114 c13 c12))
theorem d_Ma_stop_0 : decode y_Ma_stop.2.1 0 = .ok (.aload_n 0, 1) := by decide +kernel
theorem d_Ma_stop_1 : decode y_Ma_stop.2.1 1 = .ok (.iload_n 1, 1) := by decide +kernel
theorem d_Ma_stop_2 : decode y_Ma_stop.2.1 2 = .ok (.putfield 95, 3) := by decide +kernel
theorem d_Ma_stop_5 : decode y_Ma_stop.2.1 5 = .ok (.aload_n 0, 1) := by decide +kernel
theorem d_Ma_stop_6 : decode y_Ma_stop.2.1 6 = .ok (.iload_n 2, 1) := by decide +kernel
theorem d_Ma_stop_7 : decode y_Ma_stop.2.1 7 = .ok (.putfield 98, 3) := by decide +kernel
theorem d_Ma_stop_10 : decode y_Ma_stop.2.1 10 = .ok (.iconst 0, 1) := by decide +kernel
theorem d_Ma_stop_11 : decode y_Ma_stop.2.1 11 = .ok (.ireturn, 1) := by decide +kernel
theorem k_Ma_stop {G : mG} {d : Nat} {a0 : Nat} {l1 : Int} {l2 : Int} {M : mM} {Q : Int → mM → Prop} (hO : mOk M) (hi_l1 : i32 l1) (hi_l2 : i32 l2)
    (h : mK M a0 = 5 ∧ ∀ M2, M2 = mUI M a0 1 l1 → ∀ M4, M4 = mUI M2 a0 2 l2 → Q 0 M4) :
    Ci G y_Ma_stop d [vr a0, vi l1, vi l2] M Q := by
  refine wm_open (y := y_Ma_stop) rfl (Nat.le_of_ble_eq_true rfl) (L := [vr a0, vi l1, vi l2]) rfl ?_
  obtain ⟨h1, h⟩ := h
  obtain ⟨M2, e3⟩ : ∃ M2, M2 = mUI M a0 1 l1 := ⟨_, rfl⟩
  replace h := h M2 e3
  obtain ⟨M4, e5⟩ : ∃ M4, M4 = mUI M2 a0 2 l2 := ⟨_, rfl⟩
  replace h := h M4 e5
  refine wm_aload_n d_Ma_stop_0 rfl rfl ?_
  refine wm_iload_n d_Ma_stop_1 rfl rfl ?_
  have hOM2 : mOk M2 := by rw [e3]; exact mOk_UI hO hi_l1
  refine pf_Ma_95 rfl d_Ma_stop_2 h1 hi_l1 e3 ?_
  refine wm_aload_n d_Ma_stop_5 rfl rfl ?_
  refine wm_iload_n d_Ma_stop_6 rfl rfl ?_
  have hOM4 : mOk M4 := by rw [e5]; exact mOk_UI hOM2 hi_l2
  refine pf_Ma_98 rfl d_Ma_stop_7 (by rw [e3]; exact h1) hi_l2 e5 ?_
  refine wm_iconst d_Ma_stop_10 ?_
  refine wm_ireturn d_Ma_stop_11 rfl (m_nb (by decide)) ?_
  exact ⟨_, rfl, h⟩
theorem d_Ma_push_0 : decode y_Ma_push.2.1 0 = .ok (.aload_n 0, 1) := by decide +kernel
theorem d_Ma_push_1 : decode y_Ma_push.2.1 1 = .ok (.getfield 52, 3) := by decide +kernel
theorem d_Ma_push_4 : decode y_Ma_push.2.1 4 = .ok (.aload_n 0, 1) := by decide +kernel
theorem d_Ma_push_5 : decode y_Ma_push.2.1 5 = .ok (.getfield 18, 3) := by decide +kernel
theorem d_Ma_push_8 : decode y_Ma_push.2.1 8 = .ok (.arraylength, 1) := by decide +kernel
theorem d_Ma_push_9 : decode y_Ma_push.2.1 9 = .ok (.if_icmp .ne 37, 3) := by decide +kernel
theorem d_Ma_push_12 : decode y_Ma_push.2.1 12 = .ok (.aload_n 0, 1) := by decide +kernel
theorem d_Ma_push_13 : decode y_Ma_push.2.1 13 = .ok (.aload_n 0, 1) := by decide +kernel
theorem d_Ma_push_14 : decode y_Ma_push.2.1 14 = .ok (.getfield 18, 3) := by decide +kernel
theorem d_Ma_push_17 : decode y_Ma_push.2.1 17 = .ok (.iconst 2, 1) := by decide +kernel
theorem d_Ma_push_18 : decode y_Ma_push.2.1 18 = .ok (.aload_n 0, 1) := by decide +kernel
theorem d_Ma_push_19 : decode y_Ma_push.2.1 19 = .ok (.getfield 52, 3) := by decide +kernel
theorem d_Ma_push_22 : decode y_Ma_push.2.1 22 = .ok (.imul, 1) := by decide +kernel
theorem d_Ma_push_23 : decode y_Ma_push.2.1 23 = .ok (.invokestatic 101, 3) := by decide +kernel
theorem d_Ma_push_26 : decode y_Ma_push.2.1 26 = .ok (.putfield 18, 3) := by decide +kernel
theorem d_Ma_push_29 : decode y_Ma_push.2.1 29 = .ok (.aload_n 0, 1) := by decide +kernel
theorem d_Ma_push_30 : decode y_Ma_push.2.1 30 = .ok (.aload_n 0, 1) := by decide +kernel
theorem d_Ma_push_31 : decode y_Ma_push.2.1 31 = .ok (.getfield 21, 3) := by decide +kernel
theorem d_Ma_push_34 : decode y_Ma_push.2.1 34 = .ok (.iconst 2, 1) := by decide +kernel
theorem d_Ma_push_35 : decode y_Ma_push.2.1 35 = .ok (.aload_n 0, 1) := by decide +kernel
theorem d_Ma_push_36 : decode y_Ma_push.2.1 36 = .ok (.getfield 52, 3) := by decide +kernel
theorem d_Ma_push_39 : decode y_Ma_push.2.1 39 = .ok (.imul, 1) := by decide +kernel
theorem d_Ma_push_40 : decode y_Ma_push.2.1 40 = .ok (.invokestatic 101, 3) := by decide +kernel
theorem d_Ma_push_43 : decode y_Ma_push.2.1 43 = .ok (.putfield 21, 3) := by decide +kernel
theorem d_Ma_push_46 : decode y_Ma_push.2.1 46 = .ok (.aload_n 0, 1) := by decide +kernel
theorem d_Ma_push_47 : decode y_Ma_push.2.1 47 = .ok (.getfield 18, 3) := by decide +kernel
theorem d_Ma_push_50 : decode y_Ma_push.2.1 50 = .ok (.aload_n 0, 1) := by decide +kernel
theorem d_Ma_push_51 : decode y_Ma_push.2.1 51 = .ok (.getfield 52, 3) := by decide +kernel
theorem d_Ma_push_54 : decode y_Ma_push.2.1 54 = .ok (.iload_n 1, 1) := by decide +kernel
theorem d_Ma_push_55 : decode y_Ma_push.2.1 55 = .ok (.iastore, 1) := by decide +kernel
theorem d_Ma_push_56 : decode y_Ma_push.2.1 56 = .ok (.aload_n 0, 1) := by decide +kernel
theorem d_Ma_push_57 : decode y_Ma_push.2.1 57 = .ok (.getfield 21, 3) := by decide +kernel
theorem d_Ma_push_60 : decode y_Ma_push.2.1 60 = .ok (.aload_n 0, 1) := by decide +kernel
theorem d_Ma_push_61 : decode y_Ma_push.2.1 61 = .ok (.getfield 52, 3) := by decide +kernel
theorem d_Ma_push_64 : decode y_Ma_push.2.1 64 = .ok (.iload_n 2, 1) := by decide +kernel
theorem d_Ma_push_65 : decode y_Ma_push.2.1 65 = .ok (.iastore, 1) := by decide +kernel
theorem d_Ma_push_66 : decode y_Ma_push.2.1 66 = .ok (.aload_n 0, 1) := by decide +kernel
theorem d_Ma_push_67 : decode y_Ma_push.2.1 67 = .ok (.dup, 1) := by decide +kernel
theorem d_Ma_push_68 : decode y_Ma_push.2.1 68 = .ok (.getfield 52, 3) := by decide +kernel
theorem d_Ma_push_71 : decode y_Ma_push.2.1 71 = .ok (.iconst 1, 1) := by decide +kernel
theorem d_Ma_push_72 : decode y_Ma_push.2.1 72 = .ok (.iadd, 1) := by decide +kernel
theorem d_Ma_push_73 : decode y_Ma_push.2.1 73 = .ok (.putfield 52, 3) := by decide +kernel
theorem d_Ma_push_76 : decode y_Ma_push.2.1 76 = .ok (.return_, 1) := by decide +kernel
theorem k_Ma_push {G : mG} {d : Nat} {a0 : Nat} {l1 : Int} {l2 : Int} {M : mM} {Q : mM → Prop} (hO : mOk M) (hi_l1 : i32 l1) (hi_l2 : i32 l2)
    (h : mK M a0 = 5 ∧ mK M (mR M a0 6) = 30 ∧ i32 (mN M (mR M a0 6) : Int) ∧ ((mI M a0 8 = (mN M (mR M a0 6) : Int)) → (Cr G y_JA_copyOf d [vr (mR M a0 6), vi (2 * (mI M a0 8))] M (fun x10 M9 => mOk M9 ∧ (mK M9 a0 = 5 ∧ ∀ M13, M13 = mUR M9 a0 6 x10 → Cr G y_JA_copyOf d [vr (mR M13 a0 7), vi (2 * (mI M13 a0 8))] M13 (fun x16 M15 => mOk M15 ∧ (mK M15 a0 = 5 ∧ ∀ M19, M19 = mUR M15 a0 7 x16 → mK M19 (mR M19 a0 6) = 30 ∧ ((0 : Int) ≤ mI M19 a0 8 ∧ mI M19 a0 8 < (mN M19 (mR M19 a0 6) : Int)) ∧ ∀ M23, M23 = mUI M19 (mR M19 a0 6) (Int.toNat (mI M19 a0 8)) l1 → mK M23 (mR M23 a0 7) = 30 ∧ ((0 : Int) ≤ mI M23 a0 8 ∧ mI M23 a0 8 < (mN M23 (mR M23 a0 7) : Int)) ∧ ∀ M27, M27 = mUI M23 (mR M23 a0 7) (Int.toNat (mI M23 a0 8)) l2 → i32 ((mI M27 a0 8) + 1) ∧ ∀ M30, M30 = mUI M27 a0 8 ((mI M27 a0 8) + 1) → Q M30)))))) ∧ (¬ (mI M a0 8 = (mN M (mR M a0 6) : Int)) → (((0 : Int) ≤ mI M a0 8 ∧ mI M a0 8 < (mN M (mR M a0 6) : Int)) ∧ ∀ M33, M33 = mUI M (mR M a0 6) (Int.toNat (mI M a0 8)) l1 → mK M33 (mR M33 a0 7) = 30 ∧ ((0 : Int) ≤ mI M33 a0 8 ∧ mI M33 a0 8 < (mN M33 (mR M33 a0 7) : Int)) ∧ ∀ M37, M37 = mUI M33 (mR M33 a0 7) (Int.toNat (mI M33 a0 8)) l2 → i32 ((mI M37 a0 8) + 1) ∧ ∀ M40, M40 = mUI M37 a0 8 ((mI M37 a0 8) + 1) → Q M40))) :
    Cv G y_Ma_push (d + 1) [vr a0, vi l1, vi l2] M Q := by
  refine wm_open (y := y_Ma_push) rfl (Nat.le_of_ble_eq_true rfl) (L := [vr a0, vi l1, vi l2]) rfl ?_
  obtain ⟨h1, h⟩ := h
  obtain ⟨h2, h⟩ := h
  obtain ⟨h7, h⟩ := h
  refine wm_aload_n d_Ma_push_0 rfl rfl ?_
  refine gf_Ma_52 rfl d_Ma_push_1 h1 ?_
  refine wm_aload_n d_Ma_push_4 rfl rfl ?_
  refine gf_Ma_18 rfl d_Ma_push_5 h1 ?_
  refine wm_alen 0 rfl (fun _ => rfl) d_Ma_push_8 h2 ?_
  refine wm_icmp_ne (tgt := 46) d_Ma_push_9 rfl (hO _ _).1 h7 (fun c8 => ?_) (fun c8 => ?_)
  · replace h := h.2 c8
    obtain ⟨h32, h⟩ := h
    obtain ⟨M33, e34⟩ : ∃ M33, M33 = mUI M (mR M a0 6) (Int.toNat (mI M a0 8)) l1 := ⟨_, rfl⟩
    replace h := h M33 e34
    obtain ⟨h35, h⟩ := h
    obtain ⟨h36, h⟩ := h
    obtain ⟨M37, e38⟩ : ∃ M37, M37 = mUI M33 (mR M33 a0 7) (Int.toNat (mI M33 a0 8)) l2 := ⟨_, rfl⟩
    replace h := h M37 e38
    obtain ⟨h39, h⟩ := h
    obtain ⟨M40, e41⟩ : ∃ M40, M40 = mUI M37 a0 8 ((mI M37 a0 8) + 1) := ⟨_, rfl⟩
    replace h := h M40 e41
    refine wm_aload_n d_Ma_push_46 rfl rfl ?_
    refine gf_Ma_18 rfl d_Ma_push_47 h1 ?_
    refine wm_aload_n d_Ma_push_50 rfl rfl ?_
    refine gf_Ma_52 rfl d_Ma_push_51 h1 ?_
    refine wm_iload_n d_Ma_push_54 rfl rfl ?_
    have hOM33 : mOk M33 := by rw [e34]; exact mOk_UI hO hi_l1
    refine wm_iastE d_Ma_push_55 h2 h32 hi_l1 e34 ?_
    refine wm_aload_n d_Ma_push_56 rfl rfl ?_
    refine gf_Ma_21 rfl d_Ma_push_57 (by rw [e34]; exact h1) ?_
    refine wm_aload_n d_Ma_push_60 rfl rfl ?_
    refine gf_Ma_52 rfl d_Ma_push_61 (by rw [e34]; exact h1) ?_
    refine wm_iload_n d_Ma_push_64 rfl rfl ?_
    have hOM37 : mOk M37 := by rw [e38]; exact mOk_UI hOM33 hi_l2
    refine wm_iastE d_Ma_push_65 h35 h36 hi_l2 e38 ?_
    refine wm_aload_n d_Ma_push_66 rfl rfl ?_
    refine wm_dup d_Ma_push_67 rfl ?_
    refine gf_Ma_52 rfl d_Ma_push_68 (by rw [e38, e34]; exact h1) ?_
    refine wm_iconst d_Ma_push_71 ?_
    refine wm_iadd d_Ma_push_72 ?_
    have hOM40 : mOk M40 := by rw [e41]; exact mOk_UI hOM37 h39
    refine pf_Ma_52 rfl d_Ma_push_73 (by rw [e38, e34]; exact h1) h39 e41 ?_
    refine wm_return d_Ma_push_76 rfl ?_
    exact ⟨rfl, h⟩
  · replace c8 := Classical.not_not.mp c8
    replace h := h.1 c8
    refine wm_aload_n d_Ma_push_12 rfl rfl ?_
    refine wm_aload_n d_Ma_push_13 rfl rfl ?_
    refine gf_Ma_18 rfl d_Ma_push_14 h1 ?_
    refine wm_iconst d_Ma_push_17 ?_
    refine wm_aload_n d_Ma_push_18 rfl rfl ?_
    refine gf_Ma_52 rfl d_Ma_push_19 h1 ?_
    refine wm_imul d_Ma_push_22 ?_
    refine cf_Ma_101 rfl d_Ma_push_23 (Nat.le_of_ble_eq_true rfl) (Cr.mono h (fun x10 M9 h => ?_))
    obtain ⟨hOM9, h⟩ := h
    obtain ⟨h12, h⟩ := h
    obtain ⟨M13, e14⟩ : ∃ M13, M13 = mUR M9 a0 6 x10 := ⟨_, rfl⟩
    replace h := h M13 e14
    have hOM13 : mOk M13 := by rw [e14]; exact mOk_UR hOM9
    refine pf_Ma_18 rfl d_Ma_push_26 h12 e14 ?_
    refine wm_aload_n d_Ma_push_29 rfl rfl ?_
    refine wm_aload_n d_Ma_push_30 rfl rfl ?_
    refine gf_Ma_21 rfl d_Ma_push_31 (by rw [e14]; exact h12) ?_
    refine wm_iconst d_Ma_push_34 ?_
    refine wm_aload_n d_Ma_push_35 rfl rfl ?_
    refine gf_Ma_52 rfl d_Ma_push_36 (by rw [e14]; exact h12) ?_
    refine wm_imul d_Ma_push_39 ?_
    refine cf_Ma_101 rfl d_Ma_push_40 (Nat.le_of_ble_eq_true rfl) (Cr.mono h (fun x16 M15 h => ?_))
    obtain ⟨hOM15, h⟩ := h
    obtain ⟨h18, h⟩ := h
    obtain ⟨M19, e20⟩ : ∃ M19, M19 = mUR M15 a0 7 x16 := ⟨_, rfl⟩
    replace h := h M19 e20
    obtain ⟨h21, h⟩ := h
    obtain ⟨h22, h⟩ := h
    obtain ⟨M23, e24⟩ : ∃ M23, M23 = mUI M19 (mR M19 a0 6) (Int.toNat (mI M19 a0 8)) l1 := ⟨_, rfl⟩
    replace h := h M23 e24
    obtain ⟨h25, h⟩ := h
    obtain ⟨h26, h⟩ := h
    obtain ⟨M27, e28⟩ : ∃ M27, M27 = mUI M23 (mR M23 a0 7) (Int.toNat (mI M23 a0 8)) l2 := ⟨_, rfl⟩
    replace h := h M27 e28
    obtain ⟨h29, h⟩ := h
    obtain ⟨M30, e31⟩ : ∃ M30, M30 = mUI M27 a0 8 ((mI M27 a0 8) + 1) := ⟨_, rfl⟩
    replace h := h M30 e31
    have hOM19 : mOk M19 := by rw [e20]; exact mOk_UR hOM15
    refine pf_Ma_21 rfl d_Ma_push_43 h18 e20 ?_
    refine wm_aload_n d_Ma_push_46 rfl rfl ?_
    refine gf_Ma_18 rfl d_Ma_push_47 (by rw [e20]; exact h18) ?_
    refine wm_aload_n d_Ma_push_50 rfl rfl ?_
    refine gf_Ma_52 rfl d_Ma_push_51 (by rw [e20]; exact h18) ?_
    refine wm_iload_n d_Ma_push_54 rfl rfl ?_
    have hOM23 : mOk M23 := by rw [e24]; exact mOk_UI hOM19 hi_l1
    refine wm_iastE d_Ma_push_55 h21 h22 hi_l1 e24 ?_
    refine wm_aload_n d_Ma_push_56 rfl rfl ?_
    refine gf_Ma_21 rfl d_Ma_push_57 (by rw [e24, e20]; exact h18) ?_
    refine wm_aload_n d_Ma_push_60 rfl rfl ?_
    refine gf_Ma_52 rfl d_Ma_push_61 (by rw [e24, e20]; exact h18) ?_
    refine wm_iload_n d_Ma_push_64 rfl rfl ?_
    have hOM27 : mOk M27 := by rw [e28]; exact mOk_UI hOM23 hi_l2
    refine wm_iastE d_Ma_push_65 h25 h26 hi_l2 e28 ?_
    refine wm_aload_n d_Ma_push_66 rfl rfl ?_
    refine wm_dup d_Ma_push_67 rfl ?_
    refine gf_Ma_52 rfl d_Ma_push_68 (by rw [e28, e24, e20]; exact h18) ?_
    refine wm_iconst d_Ma_push_71 ?_
    refine wm_iadd d_Ma_push_72 ?_
    have hOM30 : mOk M30 := by rw [e31]; exact mOk_UI hOM27 h29
    refine pf_Ma_52 rfl d_Ma_push_73 (by rw [e28, e24, e20]; exact h18) h29 e31 ?_
    refine wm_return d_Ma_push_76 rfl ?_
    exact ⟨rfl, h⟩
theorem d_Ma_meet_0 : decode y_Ma_meet.2.1 0 = .ok (.aload_n 0, 1) := by decide +kernel
theorem d_Ma_meet_1 : decode y_Ma_meet.2.1 1 = .ok (.getfield 28, 3) := by decide +kernel
theorem d_Ma_meet_4 : decode y_Ma_meet.2.1 4 = .ok (.iload_n 1, 1) := by decide +kernel
theorem d_Ma_meet_5 : decode y_Ma_meet.2.1 5 = .ok (.iaload, 1) := by decide +kernel
theorem d_Ma_meet_6 : decode y_Ma_meet.2.1 6 = .ok (.aload_n 0, 1) := by decide +kernel
theorem d_Ma_meet_7 : decode y_Ma_meet.2.1 7 = .ok (.getfield 24, 3) := by decide +kernel
theorem d_Ma_meet_10 : decode y_Ma_meet.2.1 10 = .ok (.if_icmp .ne 21, 3) := by decide +kernel
theorem d_Ma_meet_13 : decode y_Ma_meet.2.1 13 = .ok (.aload_n 0, 1) := by decide +kernel
theorem d_Ma_meet_14 : decode y_Ma_meet.2.1 14 = .ok (.aload_n 0, 1) := by decide +kernel
theorem d_Ma_meet_15 : decode y_Ma_meet.2.1 15 = .ok (.getfield 31, 3) := by decide +kernel
theorem d_Ma_meet_18 : decode y_Ma_meet.2.1 18 = .ok (.iload_n 1, 1) := by decide +kernel
theorem d_Ma_meet_19 : decode y_Ma_meet.2.1 19 = .ok (.iaload, 1) := by decide +kernel
theorem d_Ma_meet_20 : decode y_Ma_meet.2.1 20 = .ok (.aload_n 0, 1) := by decide +kernel
theorem d_Ma_meet_21 : decode y_Ma_meet.2.1 21 = .ok (.getfield 34, 3) := by decide +kernel
theorem d_Ma_meet_24 : decode y_Ma_meet.2.1 24 = .ok (.iload_n 1, 1) := by decide +kernel
theorem d_Ma_meet_25 : decode y_Ma_meet.2.1 25 = .ok (.iaload, 1) := by decide +kernel
theorem d_Ma_meet_31 : decode y_Ma_meet.2.1 31 = .ok (.aload_n 0, 1) := by decide +kernel
theorem d_Ma_meet_32 : decode y_Ma_meet.2.1 32 = .ok (.getfield 37, 3) := by decide +kernel
theorem d_Ma_meet_35 : decode y_Ma_meet.2.1 35 = .ok (.aload_n 0, 1) := by decide +kernel
theorem d_Ma_meet_36 : decode y_Ma_meet.2.1 36 = .ok (.getfield 55, 3) := by decide +kernel
theorem d_Ma_meet_39 : decode y_Ma_meet.2.1 39 = .ok (.iload_n 1, 1) := by decide +kernel
theorem d_Ma_meet_40 : decode y_Ma_meet.2.1 40 = .ok (.iastore, 1) := by decide +kernel
theorem d_Ma_meet_41 : decode y_Ma_meet.2.1 41 = .ok (.aload_n 0, 1) := by decide +kernel
theorem d_Ma_meet_42 : decode y_Ma_meet.2.1 42 = .ok (.getfield 40, 3) := by decide +kernel
theorem d_Ma_meet_45 : decode y_Ma_meet.2.1 45 = .ok (.aload_n 0, 1) := by decide +kernel
theorem d_Ma_meet_46 : decode y_Ma_meet.2.1 46 = .ok (.getfield 55, 3) := by decide +kernel
theorem d_Ma_meet_49 : decode y_Ma_meet.2.1 49 = .ok (.iload_n 2, 1) := by decide +kernel
theorem d_Ma_meet_50 : decode y_Ma_meet.2.1 50 = .ok (.iastore, 1) := by decide +kernel
theorem d_Ma_meet_26 : decode y_Ma_meet.2.1 26 = .ok (.invokevirtual 74, 3) := by decide +kernel
theorem d_Ma_meet_29 : decode y_Ma_meet.2.1 29 = .ok (.iload_n 2, 1) := by decide +kernel
theorem d_Ma_meet_30 : decode y_Ma_meet.2.1 30 = .ok (.ireturn, 1) := by decide +kernel
theorem d_Ma_meet_51 : decode y_Ma_meet.2.1 51 = .ok (.aload_n 0, 1) := by decide +kernel
theorem d_Ma_meet_52 : decode y_Ma_meet.2.1 52 = .ok (.dup, 1) := by decide +kernel
theorem d_Ma_meet_53 : decode y_Ma_meet.2.1 53 = .ok (.getfield 55, 3) := by decide +kernel
theorem d_Ma_meet_56 : decode y_Ma_meet.2.1 56 = .ok (.iconst 1, 1) := by decide +kernel
theorem d_Ma_meet_57 : decode y_Ma_meet.2.1 57 = .ok (.iadd, 1) := by decide +kernel
theorem d_Ma_meet_58 : decode y_Ma_meet.2.1 58 = .ok (.putfield 55, 3) := by decide +kernel
theorem d_Ma_meet_61 : decode y_Ma_meet.2.1 61 = .ok (.aload_n 0, 1) := by decide +kernel
theorem d_Ma_meet_62 : decode y_Ma_meet.2.1 62 = .ok (.getfield 59, 3) := by decide +kernel
theorem d_Ma_meet_65 : decode y_Ma_meet.2.1 65 = .ok (.getfield 107, 3) := by decide +kernel
theorem d_Ma_meet_68 : decode y_Ma_meet.2.1 68 = .ok (.iload_n 1, 1) := by decide +kernel
theorem d_Ma_meet_69 : decode y_Ma_meet.2.1 69 = .ok (.iaload, 1) := by decide +kernel
theorem d_Ma_meet_70 : decode y_Ma_meet.2.1 70 = .ok (.ireturn, 1) := by decide +kernel
theorem k_Ma_meet {G : mG} {d : Nat} {a0 : Nat} {l1 : Int} {l2 : Int} {M : mM} {Q : Int → mM → Prop} (hO : mOk M) (hi_l1 : i32 l1) (hi_l2 : i32 l2)
    (h : mK M a0 = 5 ∧ mK M (mR M a0 10) = 30 ∧ ((0 : Int) ≤ l1 ∧ l1 < (mN M (mR M a0 10) : Int)) ∧ ((mI M (mR M a0 10) (Int.toNat l1) = mI M a0 9) → (mK M (mR M a0 11) = 30 ∧ ((0 : Int) ≤ l1 ∧ l1 < (mN M (mR M a0 11) : Int)) ∧ mK M (mR M a0 12) = 30 ∧ ((0 : Int) ≤ l1 ∧ l1 < (mN M (mR M a0 12) : Int)) ∧ Cv G y_Ma_push d [vr a0, vi (mI M (mR M a0 11) (Int.toNat l1)), vi (mI M (mR M a0 12) (Int.toNat l1))] M (fun M10 => mOk M10 ∧ (Q l2 M10)))) ∧ (¬ (mI M (mR M a0 10) (Int.toNat l1) = mI M a0 9) → (mK M (mR M a0 13) = 30 ∧ ((0 : Int) ≤ mI M a0 15 ∧ mI M a0 15 < (mN M (mR M a0 13) : Int)) ∧ ∀ M15, M15 = mUI M (mR M a0 13) (Int.toNat (mI M a0 15)) l1 → mK M15 (mR M15 a0 14) = 30 ∧ ((0 : Int) ≤ mI M15 a0 15 ∧ mI M15 a0 15 < (mN M15 (mR M15 a0 14) : Int)) ∧ ∀ M19, M19 = mUI M15 (mR M15 a0 14) (Int.toNat (mI M15 a0 15)) l2 → i32 ((mI M19 a0 15) + 1) ∧ ∀ M22, M22 = mUI M19 a0 15 ((mI M19 a0 15) + 1) → mK M22 (mR M22 a0 0) = 6 ∧ mK M22 (mR M22 (mR M22 a0 0) 10) = 30 ∧ ((0 : Int) ≤ l1 ∧ l1 < (mN M22 (mR M22 (mR M22 a0 0) 10) : Int)) ∧ Q (mI M22 (mR M22 (mR M22 a0 0) 10) (Int.toNat l1)) M22))) :
    Ci G y_Ma_meet (d + 1) [vr a0, vi l1, vi l2] M Q := by
  refine wm_open (y := y_Ma_meet) rfl (Nat.le_of_ble_eq_true rfl) (L := [vr a0, vi l1, vi l2]) rfl ?_
  obtain ⟨h1, h⟩ := h
  obtain ⟨h2, h⟩ := h
  obtain ⟨h3, h⟩ := h
  refine wm_aload_n d_Ma_meet_0 rfl rfl ?_
  refine gf_Ma_28 rfl d_Ma_meet_1 h1 ?_
  refine wm_iload_n d_Ma_meet_4 rfl rfl ?_
  refine wm_iald d_Ma_meet_5 h2 h3 ?_
  refine wm_aload_n d_Ma_meet_6 rfl rfl ?_
  refine gf_Ma_24 rfl d_Ma_meet_7 h1 ?_
  refine wm_icmp_ne (tgt := 31) d_Ma_meet_10 rfl (hO _ _).1 (hO _ _).1 (fun c5 => ?_) (fun c5 => ?_)
  · replace h := h.2 c5
    obtain ⟨h13, h⟩ := h
    obtain ⟨h14, h⟩ := h
    obtain ⟨M15, e16⟩ : ∃ M15, M15 = mUI M (mR M a0 13) (Int.toNat (mI M a0 15)) l1 := ⟨_, rfl⟩
    replace h := h M15 e16
    obtain ⟨h17, h⟩ := h
    obtain ⟨h18, h⟩ := h
    obtain ⟨M19, e20⟩ : ∃ M19, M19 = mUI M15 (mR M15 a0 14) (Int.toNat (mI M15 a0 15)) l2 := ⟨_, rfl⟩
    replace h := h M19 e20
    obtain ⟨h21, h⟩ := h
    obtain ⟨M22, e23⟩ : ∃ M22, M22 = mUI M19 a0 15 ((mI M19 a0 15) + 1) := ⟨_, rfl⟩
    replace h := h M22 e23
    obtain ⟨h24, h⟩ := h
    obtain ⟨h25, h⟩ := h
    obtain ⟨h26, h⟩ := h
    refine wm_aload_n d_Ma_meet_31 rfl rfl ?_
    refine gf_Ma_37 rfl d_Ma_meet_32 h1 ?_
    refine wm_aload_n d_Ma_meet_35 rfl rfl ?_
    refine gf_Ma_55 rfl d_Ma_meet_36 h1 ?_
    refine wm_iload_n d_Ma_meet_39 rfl rfl ?_
    have hOM15 : mOk M15 := by rw [e16]; exact mOk_UI hO hi_l1
    refine wm_iastE d_Ma_meet_40 h13 h14 hi_l1 e16 ?_
    refine wm_aload_n d_Ma_meet_41 rfl rfl ?_
    refine gf_Ma_40 rfl d_Ma_meet_42 (by rw [e16]; exact h1) ?_
    refine wm_aload_n d_Ma_meet_45 rfl rfl ?_
    refine gf_Ma_55 rfl d_Ma_meet_46 (by rw [e16]; exact h1) ?_
    refine wm_iload_n d_Ma_meet_49 rfl rfl ?_
    have hOM19 : mOk M19 := by rw [e20]; exact mOk_UI hOM15 hi_l2
    refine wm_iastE d_Ma_meet_50 h17 h18 hi_l2 e20 ?_
    refine wm_aload_n d_Ma_meet_51 rfl rfl ?_
    refine wm_dup d_Ma_meet_52 rfl ?_
    refine gf_Ma_55 rfl d_Ma_meet_53 (by rw [e20, e16]; exact h1) ?_
    refine wm_iconst d_Ma_meet_56 ?_
    refine wm_iadd d_Ma_meet_57 ?_
    have hOM22 : mOk M22 := by rw [e23]; exact mOk_UI hOM19 h21
    refine pf_Ma_55 rfl d_Ma_meet_58 (by rw [e20, e16]; exact h1) h21 e23 ?_
    refine wm_aload_n d_Ma_meet_61 rfl rfl ?_
    refine gf_Ma_59 rfl d_Ma_meet_62 (by rw [e23, e20, e16]; exact h1) ?_
    refine gf_Ma_107 rfl d_Ma_meet_65 h24 ?_
    refine wm_iload_n d_Ma_meet_68 rfl rfl ?_
    refine wm_iald d_Ma_meet_69 h25 h26 ?_
    refine wm_ireturn d_Ma_meet_70 rfl rfl ?_
    exact ⟨_, rfl, h⟩
  · replace c5 := Classical.not_not.mp c5
    replace h := h.1 c5
    obtain ⟨h6, h⟩ := h
    obtain ⟨h7, h⟩ := h
    obtain ⟨h8, h⟩ := h
    obtain ⟨h9, h⟩ := h
    refine wm_aload_n d_Ma_meet_13 rfl rfl ?_
    refine wm_aload_n d_Ma_meet_14 rfl rfl ?_
    refine gf_Ma_31 rfl d_Ma_meet_15 h1 ?_
    refine wm_iload_n d_Ma_meet_18 rfl rfl ?_
    refine wm_iald d_Ma_meet_19 h6 h7 ?_
    refine wm_aload_n d_Ma_meet_20 rfl rfl ?_
    refine gf_Ma_34 rfl d_Ma_meet_21 h1 ?_
    refine wm_iload_n d_Ma_meet_24 rfl rfl ?_
    refine wm_iald d_Ma_meet_25 h8 h9 ?_
    refine cf_Ma_74 rfl d_Ma_meet_26 h1 (Nat.le_of_ble_eq_true rfl) (Cv.mono h (fun M10 h => ?_))
    obtain ⟨hOM10, h⟩ := h
    refine wm_iload_n d_Ma_meet_29 rfl rfl ?_
    refine wm_ireturn d_Ma_meet_30 rfl rfl ?_
    exact ⟨_, rfl, h⟩
theorem d_Ma_comeBack_0 : decode y_Ma_comeBack.2.1 0 = .ok (.aload_n 0, 1) := by decide +kernel
theorem d_Ma_comeBack_1 : decode y_Ma_comeBack.2.1 1 = .ok (.dup, 1) := by decide +kernel
theorem d_Ma_comeBack_2 : decode y_Ma_comeBack.2.1 2 = .ok (.getfield 55, 3) := by decide +kernel
theorem d_Ma_comeBack_5 : decode y_Ma_comeBack.2.1 5 = .ok (.iconst 1, 1) := by decide +kernel
theorem d_Ma_comeBack_6 : decode y_Ma_comeBack.2.1 6 = .ok (.isub, 1) := by decide +kernel
theorem d_Ma_comeBack_7 : decode y_Ma_comeBack.2.1 7 = .ok (.putfield 55, 3) := by decide +kernel
theorem d_Ma_comeBack_10 : decode y_Ma_comeBack.2.1 10 = .ok (.aload_n 0, 1) := by decide +kernel
theorem d_Ma_comeBack_11 : decode y_Ma_comeBack.2.1 11 = .ok (.getfield 37, 3) := by decide +kernel
theorem d_Ma_comeBack_14 : decode y_Ma_comeBack.2.1 14 = .ok (.aload_n 0, 1) := by decide +kernel
theorem d_Ma_comeBack_15 : decode y_Ma_comeBack.2.1 15 = .ok (.getfield 55, 3) := by decide +kernel
theorem d_Ma_comeBack_18 : decode y_Ma_comeBack.2.1 18 = .ok (.iaload, 1) := by decide +kernel
theorem d_Ma_comeBack_19 : decode y_Ma_comeBack.2.1 19 = .ok (.istore_n 1, 1) := by decide +kernel
theorem d_Ma_comeBack_20 : decode y_Ma_comeBack.2.1 20 = .ok (.aload_n 0, 1) := by decide +kernel
theorem d_Ma_comeBack_21 : decode y_Ma_comeBack.2.1 21 = .ok (.getfield 28, 3) := by decide +kernel
theorem d_Ma_comeBack_24 : decode y_Ma_comeBack.2.1 24 = .ok (.iload_n 1, 1) := by decide +kernel
theorem d_Ma_comeBack_25 : decode y_Ma_comeBack.2.1 25 = .ok (.aload_n 0, 1) := by decide +kernel
theorem d_Ma_comeBack_26 : decode y_Ma_comeBack.2.1 26 = .ok (.getfield 24, 3) := by decide +kernel
theorem d_Ma_comeBack_29 : decode y_Ma_comeBack.2.1 29 = .ok (.iastore, 1) := by decide +kernel
theorem d_Ma_comeBack_30 : decode y_Ma_comeBack.2.1 30 = .ok (.aload_n 0, 1) := by decide +kernel
theorem d_Ma_comeBack_31 : decode y_Ma_comeBack.2.1 31 = .ok (.getfield 31, 3) := by decide +kernel
theorem d_Ma_comeBack_34 : decode y_Ma_comeBack.2.1 34 = .ok (.iload_n 1, 1) := by decide +kernel
theorem d_Ma_comeBack_35 : decode y_Ma_comeBack.2.1 35 = .ok (.aload_n 0, 1) := by decide +kernel
theorem d_Ma_comeBack_36 : decode y_Ma_comeBack.2.1 36 = .ok (.getfield 18, 3) := by decide +kernel
theorem d_Ma_comeBack_39 : decode y_Ma_comeBack.2.1 39 = .ok (.aload_n 0, 1) := by decide +kernel
theorem d_Ma_comeBack_40 : decode y_Ma_comeBack.2.1 40 = .ok (.getfield 52, 3) := by decide +kernel
theorem d_Ma_comeBack_43 : decode y_Ma_comeBack.2.1 43 = .ok (.iconst 1, 1) := by decide +kernel
theorem d_Ma_comeBack_44 : decode y_Ma_comeBack.2.1 44 = .ok (.isub, 1) := by decide +kernel
theorem d_Ma_comeBack_45 : decode y_Ma_comeBack.2.1 45 = .ok (.iaload, 1) := by decide +kernel
theorem d_Ma_comeBack_46 : decode y_Ma_comeBack.2.1 46 = .ok (.iastore, 1) := by decide +kernel
theorem d_Ma_comeBack_47 : decode y_Ma_comeBack.2.1 47 = .ok (.aload_n 0, 1) := by decide +kernel
theorem d_Ma_comeBack_48 : decode y_Ma_comeBack.2.1 48 = .ok (.getfield 34, 3) := by decide +kernel
theorem d_Ma_comeBack_51 : decode y_Ma_comeBack.2.1 51 = .ok (.iload_n 1, 1) := by decide +kernel
theorem d_Ma_comeBack_52 : decode y_Ma_comeBack.2.1 52 = .ok (.aload_n 0, 1) := by decide +kernel
theorem d_Ma_comeBack_53 : decode y_Ma_comeBack.2.1 53 = .ok (.getfield 21, 3) := by decide +kernel
theorem d_Ma_comeBack_56 : decode y_Ma_comeBack.2.1 56 = .ok (.aload_n 0, 1) := by decide +kernel
theorem d_Ma_comeBack_57 : decode y_Ma_comeBack.2.1 57 = .ok (.getfield 52, 3) := by decide +kernel
theorem d_Ma_comeBack_60 : decode y_Ma_comeBack.2.1 60 = .ok (.iconst 1, 1) := by decide +kernel
theorem d_Ma_comeBack_61 : decode y_Ma_comeBack.2.1 61 = .ok (.isub, 1) := by decide +kernel
theorem d_Ma_comeBack_62 : decode y_Ma_comeBack.2.1 62 = .ok (.iaload, 1) := by decide +kernel
theorem d_Ma_comeBack_63 : decode y_Ma_comeBack.2.1 63 = .ok (.iastore, 1) := by decide +kernel
theorem d_Ma_comeBack_64 : decode y_Ma_comeBack.2.1 64 = .ok (.aload_n 0, 1) := by decide +kernel
theorem d_Ma_comeBack_65 : decode y_Ma_comeBack.2.1 65 = .ok (.getfield 40, 3) := by decide +kernel
theorem d_Ma_comeBack_68 : decode y_Ma_comeBack.2.1 68 = .ok (.aload_n 0, 1) := by decide +kernel
theorem d_Ma_comeBack_69 : decode y_Ma_comeBack.2.1 69 = .ok (.getfield 55, 3) := by decide +kernel
theorem d_Ma_comeBack_72 : decode y_Ma_comeBack.2.1 72 = .ok (.iaload, 1) := by decide +kernel
theorem d_Ma_comeBack_73 : decode y_Ma_comeBack.2.1 73 = .ok (.ireturn, 1) := by decide +kernel
theorem k_Ma_comeBack {G : mG} {d : Nat} {a0 : Nat} {M : mM} {Q : Int → mM → Prop} (hO : mOk M)
    (h : mK M a0 = 5 ∧ i32 ((mI M a0 15) - 1) ∧ ∀ M3, M3 = mUI M a0 15 ((mI M a0 15) - 1) → mK M3 (mR M3 a0 13) = 30 ∧ ((0 : Int) ≤ mI M3 a0 15 ∧ mI M3 a0 15 < (mN M3 (mR M3 a0 13) : Int)) ∧ mK M3 (mR M3 a0 10) = 30 ∧ ((0 : Int) ≤ mI M3 (mR M3 a0 13) (Int.toNat (mI M3 a0 15)) ∧ mI M3 (mR M3 a0 13) (Int.toNat (mI M3 a0 15)) < (mN M3 (mR M3 a0 10) : Int)) ∧ ∀ M9, M9 = mUI M3 (mR M3 a0 10) (Int.toNat (mI M3 (mR M3 a0 13) (Int.toNat (mI M3 a0 15)))) (mI M3 a0 9) → mK M9 (mR M9 a0 6) = 30 ∧ ((0 : Int) ≤ (mI M9 a0 8) - 1 ∧ (mI M9 a0 8) - 1 < (mN M9 (mR M9 a0 6) : Int)) ∧ mK M9 (mR M9 a0 11) = 30 ∧ ((0 : Int) ≤ mI M3 (mR M3 a0 13) (Int.toNat (mI M3 a0 15)) ∧ mI M3 (mR M3 a0 13) (Int.toNat (mI M3 a0 15)) < (mN M9 (mR M9 a0 11) : Int)) ∧ ∀ M15, M15 = mUI M9 (mR M9 a0 11) (Int.toNat (mI M3 (mR M3 a0 13) (Int.toNat (mI M3 a0 15)))) (mI M9 (mR M9 a0 6) (Int.toNat ((mI M9 a0 8) - 1))) → mK M15 (mR M15 a0 7) = 30 ∧ ((0 : Int) ≤ (mI M15 a0 8) - 1 ∧ (mI M15 a0 8) - 1 < (mN M15 (mR M15 a0 7) : Int)) ∧ mK M15 (mR M15 a0 12) = 30 ∧ ((0 : Int) ≤ mI M3 (mR M3 a0 13) (Int.toNat (mI M3 a0 15)) ∧ mI M3 (mR M3 a0 13) (Int.toNat (mI M3 a0 15)) < (mN M15 (mR M15 a0 12) : Int)) ∧ ∀ M21, M21 = mUI M15 (mR M15 a0 12) (Int.toNat (mI M3 (mR M3 a0 13) (Int.toNat (mI M3 a0 15)))) (mI M15 (mR M15 a0 7) (Int.toNat ((mI M15 a0 8) - 1))) → mK M21 (mR M21 a0 14) = 30 ∧ ((0 : Int) ≤ mI M21 a0 15 ∧ mI M21 a0 15 < (mN M21 (mR M21 a0 14) : Int)) ∧ Q (mI M21 (mR M21 a0 14) (Int.toNat (mI M21 a0 15))) M21) :
    Ci G y_Ma_comeBack d [vr a0] M Q := by
  refine wm_open (y := y_Ma_comeBack) rfl (Nat.le_of_ble_eq_true rfl) (L := [vr a0, vd]) rfl ?_
  obtain ⟨h1, h⟩ := h
  obtain ⟨h2, h⟩ := h
  obtain ⟨M3, e4⟩ : ∃ M3, M3 = mUI M a0 15 ((mI M a0 15) - 1) := ⟨_, rfl⟩
  replace h := h M3 e4
  obtain ⟨h5, h⟩ := h
  obtain ⟨h6, h⟩ := h
  obtain ⟨h7, h⟩ := h
  obtain ⟨h8, h⟩ := h
  obtain ⟨M9, e10⟩ : ∃ M9, M9 = mUI M3 (mR M3 a0 10) (Int.toNat (mI M3 (mR M3 a0 13) (Int.toNat (mI M3 a0 15)))) (mI M3 a0 9) := ⟨_, rfl⟩
  replace h := h M9 e10
  obtain ⟨h11, h⟩ := h
  obtain ⟨h12, h⟩ := h
  obtain ⟨h13, h⟩ := h
  obtain ⟨h14, h⟩ := h
  obtain ⟨M15, e16⟩ : ∃ M15, M15 = mUI M9 (mR M9 a0 11) (Int.toNat (mI M3 (mR M3 a0 13) (Int.toNat (mI M3 a0 15)))) (mI M9 (mR M9 a0 6) (Int.toNat ((mI M9 a0 8) - 1))) := ⟨_, rfl⟩
  replace h := h M15 e16
  obtain ⟨h17, h⟩ := h
  obtain ⟨h18, h⟩ := h
  obtain ⟨h19, h⟩ := h
  obtain ⟨h20, h⟩ := h
  obtain ⟨M21, e22⟩ : ∃ M21, M21 = mUI M15 (mR M15 a0 12) (Int.toNat (mI M3 (mR M3 a0 13) (Int.toNat (mI M3 a0 15)))) (mI M15 (mR M15 a0 7) (Int.toNat ((mI M15 a0 8) - 1))) := ⟨_, rfl⟩
  replace h := h M21 e22
  obtain ⟨h23, h⟩ := h
  obtain ⟨h24, h⟩ := h
  refine wm_aload_n d_Ma_comeBack_0 rfl rfl ?_
  refine wm_dup d_Ma_comeBack_1 rfl ?_
  refine gf_Ma_55 rfl d_Ma_comeBack_2 h1 ?_
  refine wm_iconst d_Ma_comeBack_5 ?_
  refine wm_isub d_Ma_comeBack_6 ?_
  have hOM3 : mOk M3 := by rw [e4]; exact mOk_UI hO h2
  refine pf_Ma_55 rfl d_Ma_comeBack_7 h1 h2 e4 ?_
  refine wm_aload_n d_Ma_comeBack_10 rfl rfl ?_
  refine gf_Ma_37 rfl d_Ma_comeBack_11 (by rw [e4]; exact h1) ?_
  refine wm_aload_n d_Ma_comeBack_14 rfl rfl ?_
  refine gf_Ma_55 rfl d_Ma_comeBack_15 (by rw [e4]; exact h1) ?_
  refine wm_iald d_Ma_comeBack_18 h5 h6 ?_
  refine wm_istore_n d_Ma_comeBack_19 rfl (by decide) (L' := [vr a0, vi (mI M3 (mR M3 a0 13) (Int.toNat (mI M3 a0 15)))]) rfl ?_
  refine wm_aload_n d_Ma_comeBack_20 rfl rfl ?_
  refine gf_Ma_28 rfl d_Ma_comeBack_21 (by rw [e4]; exact h1) ?_
  refine wm_iload_n d_Ma_comeBack_24 rfl rfl ?_
  refine wm_aload_n d_Ma_comeBack_25 rfl rfl ?_
  refine gf_Ma_24 rfl d_Ma_comeBack_26 (by rw [e4]; exact h1) ?_
  have hOM9 : mOk M9 := by rw [e10]; exact mOk_UI hOM3 (hOM3 _ _).1
  refine wm_iastE d_Ma_comeBack_29 h7 h8 (hOM3 _ _).1 e10 ?_
  refine wm_aload_n d_Ma_comeBack_30 rfl rfl ?_
  refine gf_Ma_31 rfl d_Ma_comeBack_31 (by rw [e10, e4]; exact h1) ?_
  refine wm_iload_n d_Ma_comeBack_34 rfl rfl ?_
  refine wm_aload_n d_Ma_comeBack_35 rfl rfl ?_
  refine gf_Ma_18 rfl d_Ma_comeBack_36 (by rw [e10, e4]; exact h1) ?_
  refine wm_aload_n d_Ma_comeBack_39 rfl rfl ?_
  refine gf_Ma_52 rfl d_Ma_comeBack_40 (by rw [e10, e4]; exact h1) ?_
  refine wm_iconst d_Ma_comeBack_43 ?_
  refine wm_isub d_Ma_comeBack_44 ?_
  refine wm_iald d_Ma_comeBack_45 h11 h12 ?_
  have hOM15 : mOk M15 := by rw [e16]; exact mOk_UI hOM9 (hOM9 _ _).1
  refine wm_iastE d_Ma_comeBack_46 h13 h14 (hOM9 _ _).1 e16 ?_
  refine wm_aload_n d_Ma_comeBack_47 rfl rfl ?_
  refine gf_Ma_34 rfl d_Ma_comeBack_48 (by rw [e16, e10, e4]; exact h1) ?_
  refine wm_iload_n d_Ma_comeBack_51 rfl rfl ?_
  refine wm_aload_n d_Ma_comeBack_52 rfl rfl ?_
  refine gf_Ma_21 rfl d_Ma_comeBack_53 (by rw [e16, e10, e4]; exact h1) ?_
  refine wm_aload_n d_Ma_comeBack_56 rfl rfl ?_
  refine gf_Ma_52 rfl d_Ma_comeBack_57 (by rw [e16, e10, e4]; exact h1) ?_
  refine wm_iconst d_Ma_comeBack_60 ?_
  refine wm_isub d_Ma_comeBack_61 ?_
  refine wm_iald d_Ma_comeBack_62 h17 h18 ?_
  have hOM21 : mOk M21 := by rw [e22]; exact mOk_UI hOM15 (hOM15 _ _).1
  refine wm_iastE d_Ma_comeBack_63 h19 h20 (hOM15 _ _).1 e22 ?_
  refine wm_aload_n d_Ma_comeBack_64 rfl rfl ?_
  refine gf_Ma_40 rfl d_Ma_comeBack_65 (by rw [e22, e16, e10, e4]; exact h1) ?_
  refine wm_aload_n d_Ma_comeBack_68 rfl rfl ?_
  refine gf_Ma_55 rfl d_Ma_comeBack_69 (by rw [e22, e16, e10, e4]; exact h1) ?_
  refine wm_iald d_Ma_comeBack_72 h23 h24 ?_
  refine wm_ireturn d_Ma_comeBack_73 rfl rfl ?_
  exact ⟨_, rfl, h⟩
theorem d_Ma_compute_0 : decode y_Ma_compute.2.1 0 = .ok (.iload_n 1, 1) := by decide +kernel
theorem d_Ma_compute_1 : decode y_Ma_compute.2.1 1 = .ok (.tableswitch 95 40 43 #[31, 56, 95, 82], 31) := by decide +kernel
theorem d_Ma_compute_32 : decode y_Ma_compute.2.1 32 = .ok (.aload_n 0, 1) := by decide +kernel
theorem d_Ma_compute_33 : decode y_Ma_compute.2.1 33 = .ok (.getfield 18, 3) := by decide +kernel
theorem d_Ma_compute_36 : decode y_Ma_compute.2.1 36 = .ok (.aload_n 0, 1) := by decide +kernel
theorem d_Ma_compute_37 : decode y_Ma_compute.2.1 37 = .ok (.getfield 52, 3) := by decide +kernel
theorem d_Ma_compute_40 : decode y_Ma_compute.2.1 40 = .ok (.iconst 1, 1) := by decide +kernel
theorem d_Ma_compute_41 : decode y_Ma_compute.2.1 41 = .ok (.isub, 1) := by decide +kernel
theorem d_Ma_compute_42 : decode y_Ma_compute.2.1 42 = .ok (.aload_n 0, 1) := by decide +kernel
theorem d_Ma_compute_43 : decode y_Ma_compute.2.1 43 = .ok (.getfield 18, 3) := by decide +kernel
theorem d_Ma_compute_46 : decode y_Ma_compute.2.1 46 = .ok (.aload_n 0, 1) := by decide +kernel
theorem d_Ma_compute_47 : decode y_Ma_compute.2.1 47 = .ok (.getfield 52, 3) := by decide +kernel
theorem d_Ma_compute_50 : decode y_Ma_compute.2.1 50 = .ok (.iconst 1, 1) := by decide +kernel
theorem d_Ma_compute_51 : decode y_Ma_compute.2.1 51 = .ok (.isub, 1) := by decide +kernel
theorem d_Ma_compute_52 : decode y_Ma_compute.2.1 52 = .ok (.iaload, 1) := by decide +kernel
theorem d_Ma_compute_53 : decode y_Ma_compute.2.1 53 = .ok (.ineg, 1) := by decide +kernel
theorem d_Ma_compute_54 : decode y_Ma_compute.2.1 54 = .ok (.iastore, 1) := by decide +kernel
theorem d_Ma_compute_55 : decode y_Ma_compute.2.1 55 = .ok (.iconst 1, 1) := by decide +kernel
theorem d_Ma_compute_56 : decode y_Ma_compute.2.1 56 = .ok (.ireturn, 1) := by decide +kernel
theorem d_Ma_compute_57 : decode y_Ma_compute.2.1 57 = .ok (.aload_n 0, 1) := by decide +kernel
theorem d_Ma_compute_58 : decode y_Ma_compute.2.1 58 = .ok (.getfield 18, 3) := by decide +kernel
theorem d_Ma_compute_61 : decode y_Ma_compute.2.1 61 = .ok (.aload_n 0, 1) := by decide +kernel
theorem d_Ma_compute_62 : decode y_Ma_compute.2.1 62 = .ok (.getfield 52, 3) := by decide +kernel
theorem d_Ma_compute_65 : decode y_Ma_compute.2.1 65 = .ok (.iconst 1, 1) := by decide +kernel
theorem d_Ma_compute_66 : decode y_Ma_compute.2.1 66 = .ok (.isub, 1) := by decide +kernel
theorem d_Ma_compute_67 : decode y_Ma_compute.2.1 67 = .ok (.iconst 1, 1) := by decide +kernel
theorem d_Ma_compute_68 : decode y_Ma_compute.2.1 68 = .ok (.aload_n 0, 1) := by decide +kernel
theorem d_Ma_compute_69 : decode y_Ma_compute.2.1 69 = .ok (.getfield 18, 3) := by decide +kernel
theorem d_Ma_compute_72 : decode y_Ma_compute.2.1 72 = .ok (.aload_n 0, 1) := by decide +kernel
theorem d_Ma_compute_73 : decode y_Ma_compute.2.1 73 = .ok (.getfield 52, 3) := by decide +kernel
theorem d_Ma_compute_76 : decode y_Ma_compute.2.1 76 = .ok (.iconst 1, 1) := by decide +kernel
theorem d_Ma_compute_77 : decode y_Ma_compute.2.1 77 = .ok (.isub, 1) := by decide +kernel
theorem d_Ma_compute_78 : decode y_Ma_compute.2.1 78 = .ok (.iaload, 1) := by decide +kernel
theorem d_Ma_compute_79 : decode y_Ma_compute.2.1 79 = .ok (.isub, 1) := by decide +kernel
theorem d_Ma_compute_80 : decode y_Ma_compute.2.1 80 = .ok (.iastore, 1) := by decide +kernel
theorem d_Ma_compute_81 : decode y_Ma_compute.2.1 81 = .ok (.iconst 1, 1) := by decide +kernel
theorem d_Ma_compute_82 : decode y_Ma_compute.2.1 82 = .ok (.ireturn, 1) := by decide +kernel
theorem d_Ma_compute_83 : decode y_Ma_compute.2.1 83 = .ok (.aload_n 0, 1) := by decide +kernel
theorem d_Ma_compute_84 : decode y_Ma_compute.2.1 84 = .ok (.iload_n 2, 1) := by decide +kernel
theorem d_Ma_compute_85 : decode y_Ma_compute.2.1 85 = .ok (.bipush 16, 2) := by decide +kernel
theorem d_Ma_compute_87 : decode y_Ma_compute.2.1 87 = .ok (.idiv, 1) := by decide +kernel
theorem d_Ma_compute_88 : decode y_Ma_compute.2.1 88 = .ok (.iload_n 2, 1) := by decide +kernel
theorem d_Ma_compute_89 : decode y_Ma_compute.2.1 89 = .ok (.bipush 16, 2) := by decide +kernel
theorem d_Ma_compute_91 : decode y_Ma_compute.2.1 91 = .ok (.irem, 1) := by decide +kernel
theorem d_Ma_compute_92 : decode y_Ma_compute.2.1 92 = .ok (.invokevirtual 110, 3) := by decide +kernel
theorem d_Ma_compute_95 : decode y_Ma_compute.2.1 95 = .ok (.ireturn, 1) := by decide +kernel
theorem d_Ma_compute_96 : decode y_Ma_compute.2.1 96 = .ok (.aload_n 0, 1) := by decide +kernel
theorem d_Ma_compute_97 : decode y_Ma_compute.2.1 97 = .ok (.dup, 1) := by decide +kernel
theorem d_Ma_compute_98 : decode y_Ma_compute.2.1 98 = .ok (.getfield 52, 3) := by decide +kernel
theorem d_Ma_compute_101 : decode y_Ma_compute.2.1 101 = .ok (.iconst 1, 1) := by decide +kernel
theorem d_Ma_compute_102 : decode y_Ma_compute.2.1 102 = .ok (.isub, 1) := by decide +kernel
theorem d_Ma_compute_103 : decode y_Ma_compute.2.1 103 = .ok (.putfield 52, 3) := by decide +kernel
theorem d_Ma_compute_106 : decode y_Ma_compute.2.1 106 = .ok (.aload_n 0, 1) := by decide +kernel
theorem d_Ma_compute_107 : decode y_Ma_compute.2.1 107 = .ok (.getfield 18, 3) := by decide +kernel
theorem d_Ma_compute_110 : decode y_Ma_compute.2.1 110 = .ok (.aload_n 0, 1) := by decide +kernel
theorem d_Ma_compute_111 : decode y_Ma_compute.2.1 111 = .ok (.getfield 52, 3) := by decide +kernel
theorem d_Ma_compute_114 : decode y_Ma_compute.2.1 114 = .ok (.iconst 1, 1) := by decide +kernel
theorem d_Ma_compute_115 : decode y_Ma_compute.2.1 115 = .ok (.isub, 1) := by decide +kernel
theorem d_Ma_compute_116 : decode y_Ma_compute.2.1 116 = .ok (.iaload, 1) := by decide +kernel
theorem d_Ma_compute_117 : decode y_Ma_compute.2.1 117 = .ok (.i2l, 1) := by decide +kernel
theorem d_Ma_compute_118 : decode y_Ma_compute.2.1 118 = .ok (.lstore_n 3, 1) := by decide +kernel
theorem d_Ma_compute_119 : decode y_Ma_compute.2.1 119 = .ok (.aload_n 0, 1) := by decide +kernel
theorem d_Ma_compute_120 : decode y_Ma_compute.2.1 120 = .ok (.getfield 21, 3) := by decide +kernel
theorem d_Ma_compute_123 : decode y_Ma_compute.2.1 123 = .ok (.aload_n 0, 1) := by decide +kernel
theorem d_Ma_compute_124 : decode y_Ma_compute.2.1 124 = .ok (.getfield 52, 3) := by decide +kernel
theorem d_Ma_compute_127 : decode y_Ma_compute.2.1 127 = .ok (.iconst 1, 1) := by decide +kernel
theorem d_Ma_compute_128 : decode y_Ma_compute.2.1 128 = .ok (.isub, 1) := by decide +kernel
theorem d_Ma_compute_129 : decode y_Ma_compute.2.1 129 = .ok (.iaload, 1) := by decide +kernel
theorem d_Ma_compute_130 : decode y_Ma_compute.2.1 130 = .ok (.i2l, 1) := by decide +kernel
theorem d_Ma_compute_131 : decode y_Ma_compute.2.1 131 = .ok (.lstore 5, 2) := by decide +kernel
theorem d_Ma_compute_133 : decode y_Ma_compute.2.1 133 = .ok (.aload_n 0, 1) := by decide +kernel
theorem d_Ma_compute_134 : decode y_Ma_compute.2.1 134 = .ok (.getfield 18, 3) := by decide +kernel
theorem d_Ma_compute_137 : decode y_Ma_compute.2.1 137 = .ok (.aload_n 0, 1) := by decide +kernel
theorem d_Ma_compute_138 : decode y_Ma_compute.2.1 138 = .ok (.getfield 52, 3) := by decide +kernel
theorem d_Ma_compute_141 : decode y_Ma_compute.2.1 141 = .ok (.iaload, 1) := by decide +kernel
theorem d_Ma_compute_142 : decode y_Ma_compute.2.1 142 = .ok (.i2l, 1) := by decide +kernel
theorem d_Ma_compute_143 : decode y_Ma_compute.2.1 143 = .ok (.lstore 7, 2) := by decide +kernel
theorem d_Ma_compute_145 : decode y_Ma_compute.2.1 145 = .ok (.aload_n 0, 1) := by decide +kernel
theorem d_Ma_compute_146 : decode y_Ma_compute.2.1 146 = .ok (.getfield 21, 3) := by decide +kernel
theorem d_Ma_compute_149 : decode y_Ma_compute.2.1 149 = .ok (.aload_n 0, 1) := by decide +kernel
theorem d_Ma_compute_150 : decode y_Ma_compute.2.1 150 = .ok (.getfield 52, 3) := by decide +kernel
theorem d_Ma_compute_153 : decode y_Ma_compute.2.1 153 = .ok (.iaload, 1) := by decide +kernel
theorem d_Ma_compute_154 : decode y_Ma_compute.2.1 154 = .ok (.i2l, 1) := by decide +kernel
theorem d_Ma_compute_155 : decode y_Ma_compute.2.1 155 = .ok (.lstore 9, 2) := by decide +kernel
theorem d_Ma_compute_157 : decode y_Ma_compute.2.1 157 = .ok (.iload_n 1, 1) := by decide +kernel
theorem d_Ma_compute_158 : decode y_Ma_compute.2.1 158 = .ok (.tableswitch 199 25 29 #[34, 55, 76, 91, 147], 34) := by decide +kernel
theorem d_Ma_compute_192 : decode y_Ma_compute.2.1 192 = .ok (.aload_n 0, 1) := by decide +kernel
theorem d_Ma_compute_193 : decode y_Ma_compute.2.1 193 = .ok (.lload_n 3, 1) := by decide +kernel
theorem d_Ma_compute_194 : decode y_Ma_compute.2.1 194 = .ok (.lload 9, 2) := by decide +kernel
theorem d_Ma_compute_196 : decode y_Ma_compute.2.1 196 = .ok (.lmul, 1) := by decide +kernel
theorem d_Ma_compute_197 : decode y_Ma_compute.2.1 197 = .ok (.lload 7, 2) := by decide +kernel
theorem d_Ma_compute_199 : decode y_Ma_compute.2.1 199 = .ok (.lload 5, 2) := by decide +kernel
theorem d_Ma_compute_201 : decode y_Ma_compute.2.1 201 = .ok (.lmul, 1) := by decide +kernel
theorem d_Ma_compute_202 : decode y_Ma_compute.2.1 202 = .ok (.ladd, 1) := by decide +kernel
theorem d_Ma_compute_203 : decode y_Ma_compute.2.1 203 = .ok (.lload 5, 2) := by decide +kernel
theorem d_Ma_compute_205 : decode y_Ma_compute.2.1 205 = .ok (.lload 9, 2) := by decide +kernel
theorem d_Ma_compute_207 : decode y_Ma_compute.2.1 207 = .ok (.lmul, 1) := by decide +kernel
theorem d_Ma_compute_208 : decode y_Ma_compute.2.1 208 = .ok (.iload_n 2, 1) := by decide +kernel
theorem d_Ma_compute_209 : decode y_Ma_compute.2.1 209 = .ok (.invokevirtual 113, 3) := by decide +kernel
theorem d_Ma_compute_212 : decode y_Ma_compute.2.1 212 = .ok (.ireturn, 1) := by decide +kernel
theorem d_Ma_compute_213 : decode y_Ma_compute.2.1 213 = .ok (.aload_n 0, 1) := by decide +kernel
theorem d_Ma_compute_214 : decode y_Ma_compute.2.1 214 = .ok (.lload_n 3, 1) := by decide +kernel
theorem d_Ma_compute_215 : decode y_Ma_compute.2.1 215 = .ok (.lload 9, 2) := by decide +kernel
theorem d_Ma_compute_217 : decode y_Ma_compute.2.1 217 = .ok (.lmul, 1) := by decide +kernel
theorem d_Ma_compute_218 : decode y_Ma_compute.2.1 218 = .ok (.lload 7, 2) := by decide +kernel
theorem d_Ma_compute_220 : decode y_Ma_compute.2.1 220 = .ok (.lload 5, 2) := by decide +kernel
theorem d_Ma_compute_222 : decode y_Ma_compute.2.1 222 = .ok (.lmul, 1) := by decide +kernel
theorem d_Ma_compute_223 : decode y_Ma_compute.2.1 223 = .ok (.lsub, 1) := by decide +kernel
theorem d_Ma_compute_224 : decode y_Ma_compute.2.1 224 = .ok (.lload 5, 2) := by decide +kernel
theorem d_Ma_compute_226 : decode y_Ma_compute.2.1 226 = .ok (.lload 9, 2) := by decide +kernel
theorem d_Ma_compute_228 : decode y_Ma_compute.2.1 228 = .ok (.lmul, 1) := by decide +kernel
theorem d_Ma_compute_229 : decode y_Ma_compute.2.1 229 = .ok (.iload_n 2, 1) := by decide +kernel
theorem d_Ma_compute_230 : decode y_Ma_compute.2.1 230 = .ok (.invokevirtual 113, 3) := by decide +kernel
theorem d_Ma_compute_233 : decode y_Ma_compute.2.1 233 = .ok (.ireturn, 1) := by decide +kernel
theorem d_Ma_compute_234 : decode y_Ma_compute.2.1 234 = .ok (.aload_n 0, 1) := by decide +kernel
theorem d_Ma_compute_235 : decode y_Ma_compute.2.1 235 = .ok (.lload_n 3, 1) := by decide +kernel
theorem d_Ma_compute_236 : decode y_Ma_compute.2.1 236 = .ok (.lload 7, 2) := by decide +kernel
theorem d_Ma_compute_238 : decode y_Ma_compute.2.1 238 = .ok (.lmul, 1) := by decide +kernel
theorem d_Ma_compute_239 : decode y_Ma_compute.2.1 239 = .ok (.lload 5, 2) := by decide +kernel
theorem d_Ma_compute_241 : decode y_Ma_compute.2.1 241 = .ok (.lload 9, 2) := by decide +kernel
theorem d_Ma_compute_243 : decode y_Ma_compute.2.1 243 = .ok (.lmul, 1) := by decide +kernel
theorem d_Ma_compute_244 : decode y_Ma_compute.2.1 244 = .ok (.iload_n 2, 1) := by decide +kernel
theorem d_Ma_compute_245 : decode y_Ma_compute.2.1 245 = .ok (.invokevirtual 113, 3) := by decide +kernel
theorem d_Ma_compute_248 : decode y_Ma_compute.2.1 248 = .ok (.ireturn, 1) := by decide +kernel
theorem d_Ma_compute_249 : decode y_Ma_compute.2.1 249 = .ok (.lload 7, 2) := by decide +kernel
theorem d_Ma_compute_251 : decode y_Ma_compute.2.1 251 = .ok (.lconst 0, 1) := by decide +kernel
theorem d_Ma_compute_252 : decode y_Ma_compute.2.1 252 = .ok (.lcmp, 1) := by decide +kernel
theorem d_Ma_compute_253 : decode y_Ma_compute.2.1 253 = .ok (.ifCond .ne 11, 3) := by decide +kernel
theorem d_Ma_compute_256 : decode y_Ma_compute.2.1 256 = .ok (.aload_n 0, 1) := by decide +kernel
theorem d_Ma_compute_257 : decode y_Ma_compute.2.1 257 = .ok (.bipush 7, 2) := by decide +kernel
theorem d_Ma_compute_259 : decode y_Ma_compute.2.1 259 = .ok (.iload_n 2, 1) := by decide +kernel
theorem d_Ma_compute_264 : decode y_Ma_compute.2.1 264 = .ok (.lload 7, 2) := by decide +kernel
theorem d_Ma_compute_266 : decode y_Ma_compute.2.1 266 = .ok (.lconst 0, 1) := by decide +kernel
theorem d_Ma_compute_267 : decode y_Ma_compute.2.1 267 = .ok (.lcmp, 1) := by decide +kernel
theorem d_Ma_compute_268 : decode y_Ma_compute.2.1 268 = .ok (.ifCond .le 20, 3) := by decide +kernel
theorem d_Ma_compute_288 : decode y_Ma_compute.2.1 288 = .ok (.aload_n 0, 1) := by decide +kernel
theorem d_Ma_compute_289 : decode y_Ma_compute.2.1 289 = .ok (.lload_n 3, 1) := by decide +kernel
theorem d_Ma_compute_290 : decode y_Ma_compute.2.1 290 = .ok (.lneg, 1) := by decide +kernel
theorem d_Ma_compute_291 : decode y_Ma_compute.2.1 291 = .ok (.lload 9, 2) := by decide +kernel
theorem d_Ma_compute_293 : decode y_Ma_compute.2.1 293 = .ok (.lmul, 1) := by decide +kernel
theorem d_Ma_compute_294 : decode y_Ma_compute.2.1 294 = .ok (.lload 5, 2) := by decide +kernel
theorem d_Ma_compute_296 : decode y_Ma_compute.2.1 296 = .ok (.lneg, 1) := by decide +kernel
theorem d_Ma_compute_297 : decode y_Ma_compute.2.1 297 = .ok (.lload 7, 2) := by decide +kernel
theorem d_Ma_compute_299 : decode y_Ma_compute.2.1 299 = .ok (.lmul, 1) := by decide +kernel
theorem d_Ma_compute_300 : decode y_Ma_compute.2.1 300 = .ok (.iload_n 2, 1) := by decide +kernel
theorem d_Ma_compute_271 : decode y_Ma_compute.2.1 271 = .ok (.aload_n 0, 1) := by decide +kernel
theorem d_Ma_compute_272 : decode y_Ma_compute.2.1 272 = .ok (.lload_n 3, 1) := by decide +kernel
theorem d_Ma_compute_273 : decode y_Ma_compute.2.1 273 = .ok (.lload 9, 2) := by decide +kernel
theorem d_Ma_compute_275 : decode y_Ma_compute.2.1 275 = .ok (.lmul, 1) := by decide +kernel
theorem d_Ma_compute_276 : decode y_Ma_compute.2.1 276 = .ok (.lload 5, 2) := by decide +kernel
theorem d_Ma_compute_278 : decode y_Ma_compute.2.1 278 = .ok (.lload 7, 2) := by decide +kernel
theorem d_Ma_compute_280 : decode y_Ma_compute.2.1 280 = .ok (.lmul, 1) := by decide +kernel
theorem d_Ma_compute_281 : decode y_Ma_compute.2.1 281 = .ok (.iload_n 2, 1) := by decide +kernel
theorem d_Ma_compute_260 : decode y_Ma_compute.2.1 260 = .ok (.invokevirtual 92, 3) := by decide +kernel
theorem d_Ma_compute_263 : decode y_Ma_compute.2.1 263 = .ok (.ireturn, 1) := by decide +kernel
theorem d_Ma_compute_301 : decode y_Ma_compute.2.1 301 = .ok (.invokevirtual 113, 3) := by decide +kernel
theorem d_Ma_compute_282 : decode y_Ma_compute.2.1 282 = .ok (.invokevirtual 113, 3) := by decide +kernel
theorem d_Ma_compute_285 : decode y_Ma_compute.2.1 285 = .ok (.goto 19, 3) := by decide +kernel
theorem d_Ma_compute_305 : decode y_Ma_compute.2.1 305 = .ok (.lload 5, 2) := by decide +kernel
theorem d_Ma_compute_307 : decode y_Ma_compute.2.1 307 = .ok (.lconst 1, 1) := by decide +kernel
theorem d_Ma_compute_308 : decode y_Ma_compute.2.1 308 = .ok (.lcmp, 1) := by decide +kernel
theorem d_Ma_compute_309 : decode y_Ma_compute.2.1 309 = .ok (.ifCond .ne 10, 3) := by decide +kernel
theorem d_Ma_compute_312 : decode y_Ma_compute.2.1 312 = .ok (.lload 9, 2) := by decide +kernel
theorem d_Ma_compute_314 : decode y_Ma_compute.2.1 314 = .ok (.lconst 1, 1) := by decide +kernel
theorem d_Ma_compute_315 : decode y_Ma_compute.2.1 315 = .ok (.lcmp, 1) := by decide +kernel
theorem d_Ma_compute_316 : decode y_Ma_compute.2.1 316 = .ok (.ifCond .eq 11, 3) := by decide +kernel
theorem d_Ma_compute_327 : decode y_Ma_compute.2.1 327 = .ok (.lload 7, 2) := by decide +kernel
theorem d_Ma_compute_329 : decode y_Ma_compute.2.1 329 = .ok (.lconst 0, 1) := by decide +kernel
theorem d_Ma_compute_330 : decode y_Ma_compute.2.1 330 = .ok (.lcmp, 1) := by decide +kernel
theorem d_Ma_compute_331 : decode y_Ma_compute.2.1 331 = .ok (.ifCond .gt 13, 3) := by decide +kernel
theorem d_Ma_compute_344 : decode y_Ma_compute.2.1 344 = .ok (.aload_n 0, 1) := by decide +kernel
theorem d_Ma_compute_345 : decode y_Ma_compute.2.1 345 = .ok (.lload_n 3, 1) := by decide +kernel
theorem d_Ma_compute_346 : decode y_Ma_compute.2.1 346 = .ok (.lload 7, 2) := by decide +kernel
theorem d_Ma_compute_334 : decode y_Ma_compute.2.1 334 = .ok (.aload_n 0, 1) := by decide +kernel
theorem d_Ma_compute_335 : decode y_Ma_compute.2.1 335 = .ok (.bipush 7, 2) := by decide +kernel
theorem d_Ma_compute_337 : decode y_Ma_compute.2.1 337 = .ok (.iload_n 2, 1) := by decide +kernel
theorem d_Ma_compute_348 : decode y_Ma_compute.2.1 348 = .ok (.invokestatic 117, 3) := by decide +kernel
theorem d_Ma_compute_351 : decode y_Ma_compute.2.1 351 = .ok (.lconst 1, 1) := by decide +kernel
theorem d_Ma_compute_352 : decode y_Ma_compute.2.1 352 = .ok (.iload_n 2, 1) := by decide +kernel
theorem d_Ma_compute_353 : decode y_Ma_compute.2.1 353 = .ok (.invokevirtual 113, 3) := by decide +kernel
theorem d_Ma_compute_338 : decode y_Ma_compute.2.1 338 = .ok (.invokevirtual 92, 3) := by decide +kernel
theorem d_Ma_compute_341 : decode y_Ma_compute.2.1 341 = .ok (.goto 15, 3) := by decide +kernel
theorem d_Ma_compute_319 : decode y_Ma_compute.2.1 319 = .ok (.aload_n 0, 1) := by decide +kernel
theorem d_Ma_compute_320 : decode y_Ma_compute.2.1 320 = .ok (.bipush 8, 2) := by decide +kernel
theorem d_Ma_compute_322 : decode y_Ma_compute.2.1 322 = .ok (.iload_n 2, 1) := by decide +kernel
theorem d_Ma_compute_323 : decode y_Ma_compute.2.1 323 = .ok (.invokevirtual 92, 3) := by decide +kernel
theorem d_Ma_compute_326 : decode y_Ma_compute.2.1 326 = .ok (.ireturn, 1) := by decide +kernel
theorem d_Ma_compute_357 : decode y_Ma_compute.2.1 357 = .ok (.aload_n 0, 1) := by decide +kernel
theorem d_Ma_compute_358 : decode y_Ma_compute.2.1 358 = .ok (.iload_n 1, 1) := by decide +kernel
theorem d_Ma_compute_359 : decode y_Ma_compute.2.1 359 = .ok (.lload_n 3, 1) := by decide +kernel
theorem d_Ma_compute_360 : decode y_Ma_compute.2.1 360 = .ok (.lload 9, 2) := by decide +kernel
theorem d_Ma_compute_362 : decode y_Ma_compute.2.1 362 = .ok (.lmul, 1) := by decide +kernel
theorem d_Ma_compute_363 : decode y_Ma_compute.2.1 363 = .ok (.lload 7, 2) := by decide +kernel
theorem d_Ma_compute_365 : decode y_Ma_compute.2.1 365 = .ok (.lload 5, 2) := by decide +kernel
theorem d_Ma_compute_367 : decode y_Ma_compute.2.1 367 = .ok (.lmul, 1) := by decide +kernel
theorem d_Ma_compute_368 : decode y_Ma_compute.2.1 368 = .ok (.invokestatic 123, 3) := by decide +kernel
theorem d_Ma_compute_371 : decode y_Ma_compute.2.1 371 = .ok (.invokevirtual 129, 3) := by decide +kernel
theorem d_Ma_compute_374 : decode y_Ma_compute.2.1 374 = .ok (.ireturn, 1) := by decide +kernel
theorem d_Ma_compute_304 : decode y_Ma_compute.2.1 304 = .ok (.ireturn, 1) := by decide +kernel
theorem d_Ma_compute_356 : decode y_Ma_compute.2.1 356 = .ok (.ireturn, 1) := by decide +kernel
def h_Ma_compute_304 (G : mG) (d : Nat) (k0 : Int) (M : mM) (Q : Int → mM → Prop) : Prop := mWm G y_Ma_compute (d + 1) 304 [vd, vd, vd, vd, vd, vd, vd, vd, vd, vd, vd] [vi k0] M (fun r9 M9 => ∃ x9, r9 = some (vi x9) ∧ Q x9 M9)
def h_Ma_compute_356 (G : mG) (d : Nat) (k0 : Int) (M : mM) (Q : Int → mM → Prop) : Prop := mWm G y_Ma_compute (d + 1) 356 [vd, vd, vd, vd, vd, vd, vd, vd, vd, vd, vd] [vi k0] M (fun r9 M9 => ∃ x9, r9 = some (vi x9) ∧ Q x9 M9)
theorem k_Ma_compute {G : mG} {d : Nat} {a0 : Nat} {l1 : Int} {l2 : Int} {M : mM} {Q : Int → mM → Prop} (hO : mOk M) (hi_l1 : i32 l1) (hi_l2 : i32 l2)
    (h : ((l1 = 40) → (mK M a0 = 5 ∧ mK M (mR M a0 6) = 30 ∧ ((0 : Int) ≤ (mI M a0 8) - 1 ∧ (mI M a0 8) - 1 < (mN M (mR M a0 6) : Int)) ∧ ((0 : Int) ≤ (mI M a0 8) - 1 ∧ (mI M a0 8) - 1 < (mN M (mR M a0 6) : Int)) ∧ i32 (-(mI M (mR M a0 6) (Int.toNat ((mI M a0 8) - 1)))) ∧ ∀ M9, M9 = mUI M (mR M a0 6) (Int.toNat ((mI M a0 8) - 1)) (-(mI M (mR M a0 6) (Int.toNat ((mI M a0 8) - 1)))) → Q 1 M9)) ∧ (¬ (l1 = 40) → (((l1 = 41) → (mK M a0 = 5 ∧ mK M (mR M a0 6) = 30 ∧ ((0 : Int) ≤ (mI M a0 8) - 1 ∧ (mI M a0 8) - 1 < (mN M (mR M a0 6) : Int)) ∧ ((0 : Int) ≤ (mI M a0 8) - 1 ∧ (mI M a0 8) - 1 < (mN M (mR M a0 6) : Int)) ∧ i32 (1 - (mI M (mR M a0 6) (Int.toNat ((mI M a0 8) - 1)))) ∧ ∀ M18, M18 = mUI M (mR M a0 6) (Int.toNat ((mI M a0 8) - 1)) (1 - (mI M (mR M a0 6) (Int.toNat ((mI M a0 8) - 1)))) → Q 1 M18)) ∧ (¬ (l1 = 41) → (((l1 = 43) → (mK M a0 = 5 ∧ Ci G y_Ma_store d [vr a0, vi (Int.tdiv l2 16), vi (Int.tmod l2 16)] M (fun x24 M23 => i32 x24 ∧ mOk M23 ∧ ((x24 = 0 ∨ x24 = 1) ∧ Q x24 M23)))) ∧ (¬ (l1 = 43) → (mK M a0 = 5 ∧ i32 ((mI M a0 8) - 1) ∧ ∀ M29, M29 = mUI M a0 8 ((mI M a0 8) - 1) → mK M29 (mR M29 a0 6) = 30 ∧ ((0 : Int) ≤ (mI M29 a0 8) - 1 ∧ (mI M29 a0 8) - 1 < (mN M29 (mR M29 a0 6) : Int)) ∧ mK M29 (mR M29 a0 7) = 30 ∧ ((0 : Int) ≤ (mI M29 a0 8) - 1 ∧ (mI M29 a0 8) - 1 < (mN M29 (mR M29 a0 7) : Int)) ∧ ((0 : Int) ≤ mI M29 a0 8 ∧ mI M29 a0 8 < (mN M29 (mR M29 a0 6) : Int)) ∧ ((0 : Int) ≤ mI M29 a0 8 ∧ mI M29 a0 8 < (mN M29 (mR M29 a0 7) : Int)) ∧ ((l1 = 25) → (Ci G y_Ma_settle d [vr a0, vl (((mI M29 (mR M29 a0 6) (Int.toNat ((mI M29 a0 8) - 1))) * (mI M29 (mR M29 a0 7) (Int.toNat (mI M29 a0 8)))) + ((mI M29 (mR M29 a0 6) (Int.toNat (mI M29 a0 8))) * (mI M29 (mR M29 a0 7) (Int.toNat ((mI M29 a0 8) - 1))))), vl ((mI M29 (mR M29 a0 7) (Int.toNat ((mI M29 a0 8) - 1))) * (mI M29 (mR M29 a0 7) (Int.toNat (mI M29 a0 8)))), vi l2] M29 (fun x39 M38 => i32 x39 ∧ mOk M38 ∧ ((x39 = 0 ∨ x39 = 1) ∧ Q x39 M38)))) ∧ (¬ (l1 = 25) → (((l1 = 26) → (Ci G y_Ma_settle d [vr a0, vl (((mI M29 (mR M29 a0 6) (Int.toNat ((mI M29 a0 8) - 1))) * (mI M29 (mR M29 a0 7) (Int.toNat (mI M29 a0 8)))) - ((mI M29 (mR M29 a0 6) (Int.toNat (mI M29 a0 8))) * (mI M29 (mR M29 a0 7) (Int.toNat ((mI M29 a0 8) - 1))))), vl ((mI M29 (mR M29 a0 7) (Int.toNat ((mI M29 a0 8) - 1))) * (mI M29 (mR M29 a0 7) (Int.toNat (mI M29 a0 8)))), vi l2] M29 (fun x44 M43 => i32 x44 ∧ mOk M43 ∧ ((x44 = 0 ∨ x44 = 1) ∧ Q x44 M43)))) ∧ (¬ (l1 = 26) → (((l1 = 27) → (Ci G y_Ma_settle d [vr a0, vl ((mI M29 (mR M29 a0 6) (Int.toNat ((mI M29 a0 8) - 1))) * (mI M29 (mR M29 a0 6) (Int.toNat (mI M29 a0 8)))), vl ((mI M29 (mR M29 a0 7) (Int.toNat ((mI M29 a0 8) - 1))) * (mI M29 (mR M29 a0 7) (Int.toNat (mI M29 a0 8)))), vi l2] M29 (fun x49 M48 => i32 x49 ∧ mOk M48 ∧ ((x49 = 0 ∨ x49 = 1) ∧ Q x49 M48)))) ∧ (¬ (l1 = 27) → (((l1 = 28) → (((cmpL (mI M29 (mR M29 a0 6) (Int.toNat (mI M29 a0 8))) 0 = 0) → (Ci G y_Ma_stop d [vr a0, vi 7, vi l2] M29 (fun x57 M56 => i32 x57 ∧ mOk M56 ∧ ((x57 = 0 ∨ x57 = 1) ∧ Q x57 M56)))) ∧ (¬ (cmpL (mI M29 (mR M29 a0 6) (Int.toNat (mI M29 a0 8))) 0 = 0) → (((cmpL (mI M29 (mR M29 a0 6) (Int.toNat (mI M29 a0 8))) 0 ≤ 0) → (Ci G y_Ma_settle d [vr a0, vl ((-(mI M29 (mR M29 a0 6) (Int.toNat ((mI M29 a0 8) - 1)))) * (mI M29 (mR M29 a0 7) (Int.toNat (mI M29 a0 8)))), vl ((-(mI M29 (mR M29 a0 7) (Int.toNat ((mI M29 a0 8) - 1)))) * (mI M29 (mR M29 a0 6) (Int.toNat (mI M29 a0 8)))), vi l2] M29 (fun x63 M62 => i32 x63 ∧ mOk M62 ∧ (h_Ma_compute_304 G d x63 M62 Q)))) ∧ (¬ (cmpL (mI M29 (mR M29 a0 6) (Int.toNat (mI M29 a0 8))) 0 ≤ 0) → (Ci G y_Ma_settle d [vr a0, vl ((mI M29 (mR M29 a0 6) (Int.toNat ((mI M29 a0 8) - 1))) * (mI M29 (mR M29 a0 7) (Int.toNat (mI M29 a0 8)))), vl ((mI M29 (mR M29 a0 7) (Int.toNat ((mI M29 a0 8) - 1))) * (mI M29 (mR M29 a0 6) (Int.toNat (mI M29 a0 8)))), vi l2] M29 (fun x66 M65 => i32 x66 ∧ mOk M65 ∧ (h_Ma_compute_304 G d x66 M65 Q)))))))) ∧ (¬ (l1 = 28) → (((l1 = 29) → ((((cmpL (mI M29 (mR M29 a0 7) (Int.toNat ((mI M29 a0 8) - 1))) 1 = 0) ∧ (cmpL (mI M29 (mR M29 a0 7) (Int.toNat (mI M29 a0 8))) 1 = 0)) → (((0 < cmpL (mI M29 (mR M29 a0 6) (Int.toNat (mI M29 a0 8))) 0) → (Cj G y_JM_floorMod d [vl (mI M29 (mR M29 a0 6) (Int.toNat ((mI M29 a0 8) - 1))), vl (mI M29 (mR M29 a0 6) (Int.toNat (mI M29 a0 8)))] M29 (fun x77 M76 => i64 x77 ∧ mOk M76 ∧ (mK M76 a0 = 5 ∧ Ci G y_Ma_settle d [vr a0, vl x77, vl 1, vi l2] M76 (fun x81 M80 => i32 x81 ∧ mOk M80 ∧ (h_Ma_compute_356 G d x81 M80 Q)))))) ∧ (¬ (0 < cmpL (mI M29 (mR M29 a0 6) (Int.toNat (mI M29 a0 8))) 0) → (Ci G y_Ma_stop d [vr a0, vi 7, vi l2] M29 (fun x84 M83 => i32 x84 ∧ mOk M83 ∧ (h_Ma_compute_356 G d x84 M83 Q)))))) ∧ (¬ ((cmpL (mI M29 (mR M29 a0 7) (Int.toNat ((mI M29 a0 8) - 1))) 1 = 0) ∧ (cmpL (mI M29 (mR M29 a0 7) (Int.toNat (mI M29 a0 8))) 1 = 0)) → (Ci G y_Ma_stop d [vr a0, vi 8, vi l2] M29 (fun x88 M87 => i32 x88 ∧ mOk M87 ∧ ((x88 = 0 ∨ x88 = 1) ∧ Q x88 M87)))))) ∧ (¬ (l1 = 29) → (Ci G y_JL_compare d [vl ((mI M29 (mR M29 a0 6) (Int.toNat ((mI M29 a0 8) - 1))) * (mI M29 (mR M29 a0 7) (Int.toNat (mI M29 a0 8)))), vl ((mI M29 (mR M29 a0 6) (Int.toNat (mI M29 a0 8))) * (mI M29 (mR M29 a0 7) (Int.toNat ((mI M29 a0 8) - 1))))] M29 (fun x95 M94 => i32 x95 ∧ mOk M94 ∧ (mK M94 a0 = 5 ∧ Ci G y_Ma_relate d [vr a0, vi l1, vi x95] M94 (fun x99 M98 => i32 x99 ∧ mOk M98 ∧ ((x99 = 0 ∨ x99 = 1) ∧ Q x99 M98))))))))))))))))))))) :
    Ci G y_Ma_compute (d + 1) [vr a0, vi l1, vi l2] M Q := by
  refine wm_open (y := y_Ma_compute) rfl (Nat.le_of_ble_eq_true rfl) (L := [vr a0, vi l1, vi l2, vd, vd, vd, vd, vd, vd, vd, vd]) rfl ?_
  refine wm_iload_n d_Ma_compute_0 rfl rfl ?_
  by_cases c3 : l1 = 40
  · replace h := h.1 c3
    refine wm_tableIn (tgt := 32) (off := 31) d_Ma_compute_1 hi_l1 (by omega) (by omega) (by rw [c3]; rfl) rfl ?_
    obtain ⟨h4, h⟩ := h
    obtain ⟨h5, h⟩ := h
    obtain ⟨h6, h⟩ := h
    obtain ⟨h7, h⟩ := h
    obtain ⟨h8, h⟩ := h
    obtain ⟨M9, e10⟩ : ∃ M9, M9 = mUI M (mR M a0 6) (Int.toNat ((mI M a0 8) - 1)) (-(mI M (mR M a0 6) (Int.toNat ((mI M a0 8) - 1)))) := ⟨_, rfl⟩
    replace h := h M9 e10
    refine wm_aload_n d_Ma_compute_32 rfl rfl ?_
    refine gf_Ma_18 rfl d_Ma_compute_33 h4 ?_
    refine wm_aload_n d_Ma_compute_36 rfl rfl ?_
    refine gf_Ma_52 rfl d_Ma_compute_37 h4 ?_
    refine wm_iconst d_Ma_compute_40 ?_
    refine wm_isub d_Ma_compute_41 ?_
    refine wm_aload_n d_Ma_compute_42 rfl rfl ?_
    refine gf_Ma_18 rfl d_Ma_compute_43 h4 ?_
    refine wm_aload_n d_Ma_compute_46 rfl rfl ?_
    refine gf_Ma_52 rfl d_Ma_compute_47 h4 ?_
    refine wm_iconst d_Ma_compute_50 ?_
    refine wm_isub d_Ma_compute_51 ?_
    refine wm_iald d_Ma_compute_52 h5 h6 ?_
    refine wm_ineg d_Ma_compute_53 ?_
    have hOM9 : mOk M9 := by rw [e10]; exact mOk_UI hO h8
    refine wm_iastE d_Ma_compute_54 h5 h7 h8 e10 ?_
    refine wm_iconst d_Ma_compute_55 ?_
    refine wm_ireturn d_Ma_compute_56 rfl (m_nb (by decide)) ?_
    exact ⟨_, rfl, h⟩
  · replace h := h.2 c3
    by_cases c12 : l1 = 41
    · replace h := h.1 c12
      refine wm_tableIn (tgt := 57) (off := 56) d_Ma_compute_1 hi_l1 (by omega) (by omega) (by rw [c12]; rfl) rfl ?_
      obtain ⟨h13, h⟩ := h
      obtain ⟨h14, h⟩ := h
      obtain ⟨h15, h⟩ := h
      obtain ⟨h16, h⟩ := h
      obtain ⟨h17, h⟩ := h
      obtain ⟨M18, e19⟩ : ∃ M18, M18 = mUI M (mR M a0 6) (Int.toNat ((mI M a0 8) - 1)) (1 - (mI M (mR M a0 6) (Int.toNat ((mI M a0 8) - 1)))) := ⟨_, rfl⟩
      replace h := h M18 e19
      refine wm_aload_n d_Ma_compute_57 rfl rfl ?_
      refine gf_Ma_18 rfl d_Ma_compute_58 h13 ?_
      refine wm_aload_n d_Ma_compute_61 rfl rfl ?_
      refine gf_Ma_52 rfl d_Ma_compute_62 h13 ?_
      refine wm_iconst d_Ma_compute_65 ?_
      refine wm_isub d_Ma_compute_66 ?_
      refine wm_iconst d_Ma_compute_67 ?_
      refine wm_aload_n d_Ma_compute_68 rfl rfl ?_
      refine gf_Ma_18 rfl d_Ma_compute_69 h13 ?_
      refine wm_aload_n d_Ma_compute_72 rfl rfl ?_
      refine gf_Ma_52 rfl d_Ma_compute_73 h13 ?_
      refine wm_iconst d_Ma_compute_76 ?_
      refine wm_isub d_Ma_compute_77 ?_
      refine wm_iald d_Ma_compute_78 h14 h15 ?_
      refine wm_isub d_Ma_compute_79 ?_
      have hOM18 : mOk M18 := by rw [e19]; exact mOk_UI hO h17
      refine wm_iastE d_Ma_compute_80 h14 h16 h17 e19 ?_
      refine wm_iconst d_Ma_compute_81 ?_
      refine wm_ireturn d_Ma_compute_82 rfl (m_nb (by decide)) ?_
      exact ⟨_, rfl, h⟩
    · replace h := h.2 c12
      by_cases c21 : l1 = 43
      · replace h := h.1 c21
        refine wm_tableIn (tgt := 83) (off := 82) d_Ma_compute_1 hi_l1 (by omega) (by omega) (by rw [c21]; rfl) rfl ?_
        obtain ⟨h22, h⟩ := h
        refine wm_aload_n d_Ma_compute_83 rfl rfl ?_
        refine wm_iload_n d_Ma_compute_84 rfl rfl ?_
        refine wm_bipush d_Ma_compute_85 (by decide) ?_
        refine wm_idiv d_Ma_compute_87 hi_l2 ⟨by decide, by decide⟩ (by decide) ?_
        refine wm_iload_n d_Ma_compute_88 rfl rfl ?_
        refine wm_bipush d_Ma_compute_89 (by decide) ?_
        refine wm_irem d_Ma_compute_91 hi_l2 ⟨by decide, by decide⟩ (by decide) ?_
        refine cf_Ma_110 rfl d_Ma_compute_92 h22 (Nat.le_of_ble_eq_true rfl) (Ci.mono h (fun x24 M23 h => ?_))
        obtain ⟨h25, hOM23, h⟩ := h
        obtain ⟨h26, h⟩ := h
        refine wm_ireturn d_Ma_compute_95 rfl (m_nb h26) ?_
        exact ⟨_, rfl, h⟩
      · replace h := h.2 c21
        refine wm_tableD (tgt := 96) (off := 95) d_Ma_compute_1 hi_l1 (if q8 : 40 ≤ l1 ∧ l1 ≤ 43 then Or.inr ⟨q8.1, q8.2, by
      have q9 : l1 = 42 := by omega
      rcases q9 with q9 <;> (rw [q9]; rfl)⟩ else Or.inl (by omega)) rfl ?_
        obtain ⟨h27, h⟩ := h
        obtain ⟨h28, h⟩ := h
        obtain ⟨M29, e30⟩ : ∃ M29, M29 = mUI M a0 8 ((mI M a0 8) - 1) := ⟨_, rfl⟩
        replace h := h M29 e30
        obtain ⟨h31, h⟩ := h
        obtain ⟨h32, h⟩ := h
        obtain ⟨h33, h⟩ := h
        obtain ⟨h34, h⟩ := h
        obtain ⟨h35, h⟩ := h
        obtain ⟨h36, h⟩ := h
        refine wm_aload_n d_Ma_compute_96 rfl rfl ?_
        refine wm_dup d_Ma_compute_97 rfl ?_
        refine gf_Ma_52 rfl d_Ma_compute_98 h27 ?_
        refine wm_iconst d_Ma_compute_101 ?_
        refine wm_isub d_Ma_compute_102 ?_
        have hOM29 : mOk M29 := by rw [e30]; exact mOk_UI hO h28
        refine pf_Ma_52 rfl d_Ma_compute_103 h27 h28 e30 ?_
        refine wm_aload_n d_Ma_compute_106 rfl rfl ?_
        refine gf_Ma_18 rfl d_Ma_compute_107 (by rw [e30]; exact h27) ?_
        refine wm_aload_n d_Ma_compute_110 rfl rfl ?_
        refine gf_Ma_52 rfl d_Ma_compute_111 (by rw [e30]; exact h27) ?_
        refine wm_iconst d_Ma_compute_114 ?_
        refine wm_isub d_Ma_compute_115 ?_
        refine wm_iald d_Ma_compute_116 h31 h32 ?_
        refine wm_i2l d_Ma_compute_117 (hOM29 _ _).1 ?_
        refine wm_lstore_n d_Ma_compute_118 rfl (by decide) (L' := [vr a0, vi l1, vi l2, vl (mI M29 (mR M29 a0 6) (Int.toNat ((mI M29 a0 8) - 1))), vd, vd, vd, vd, vd, vd, vd]) rfl ?_
        refine wm_aload_n d_Ma_compute_119 rfl rfl ?_
        refine gf_Ma_21 rfl d_Ma_compute_120 (by rw [e30]; exact h27) ?_
        refine wm_aload_n d_Ma_compute_123 rfl rfl ?_
        refine gf_Ma_52 rfl d_Ma_compute_124 (by rw [e30]; exact h27) ?_
        refine wm_iconst d_Ma_compute_127 ?_
        refine wm_isub d_Ma_compute_128 ?_
        refine wm_iald d_Ma_compute_129 h33 h34 ?_
        refine wm_i2l d_Ma_compute_130 (hOM29 _ _).1 ?_
        refine wm_lstore d_Ma_compute_131 (by decide) (L' := [vr a0, vi l1, vi l2, vl (mI M29 (mR M29 a0 6) (Int.toNat ((mI M29 a0 8) - 1))), vd, vl (mI M29 (mR M29 a0 7) (Int.toNat ((mI M29 a0 8) - 1))), vd, vd, vd, vd, vd]) rfl ?_
        refine wm_aload_n d_Ma_compute_133 rfl rfl ?_
        refine gf_Ma_18 rfl d_Ma_compute_134 (by rw [e30]; exact h27) ?_
        refine wm_aload_n d_Ma_compute_137 rfl rfl ?_
        refine gf_Ma_52 rfl d_Ma_compute_138 (by rw [e30]; exact h27) ?_
        refine wm_iald d_Ma_compute_141 h31 h35 ?_
        refine wm_i2l d_Ma_compute_142 (hOM29 _ _).1 ?_
        refine wm_lstore d_Ma_compute_143 (by decide) (L' := [vr a0, vi l1, vi l2, vl (mI M29 (mR M29 a0 6) (Int.toNat ((mI M29 a0 8) - 1))), vd, vl (mI M29 (mR M29 a0 7) (Int.toNat ((mI M29 a0 8) - 1))), vd, vl (mI M29 (mR M29 a0 6) (Int.toNat (mI M29 a0 8))), vd, vd, vd]) rfl ?_
        refine wm_aload_n d_Ma_compute_145 rfl rfl ?_
        refine gf_Ma_21 rfl d_Ma_compute_146 (by rw [e30]; exact h27) ?_
        refine wm_aload_n d_Ma_compute_149 rfl rfl ?_
        refine gf_Ma_52 rfl d_Ma_compute_150 (by rw [e30]; exact h27) ?_
        refine wm_iald d_Ma_compute_153 h33 h36 ?_
        refine wm_i2l d_Ma_compute_154 (hOM29 _ _).1 ?_
        refine wm_lstore d_Ma_compute_155 (by decide) (L' := [vr a0, vi l1, vi l2, vl (mI M29 (mR M29 a0 6) (Int.toNat ((mI M29 a0 8) - 1))), vd, vl (mI M29 (mR M29 a0 7) (Int.toNat ((mI M29 a0 8) - 1))), vd, vl (mI M29 (mR M29 a0 6) (Int.toNat (mI M29 a0 8))), vd, vl (mI M29 (mR M29 a0 7) (Int.toNat (mI M29 a0 8))), vd]) rfl ?_
        refine wm_iload_n d_Ma_compute_157 rfl rfl ?_
        by_cases c37 : l1 = 25
        · replace h := h.1 c37
          refine wm_tableIn (tgt := 192) (off := 34) d_Ma_compute_158 hi_l1 (by omega) (by omega) (by rw [c37]; rfl) rfl ?_
          refine wm_aload_n d_Ma_compute_192 rfl rfl ?_
          refine wm_lload_n d_Ma_compute_193 rfl rfl ?_
          refine wm_lload d_Ma_compute_194 rfl ?_
          refine wm_lmul d_Ma_compute_196 ?_
          refine wm_lload d_Ma_compute_197 rfl ?_
          refine wm_lload d_Ma_compute_199 rfl ?_
          refine wm_lmul d_Ma_compute_201 ?_
          refine wm_ladd d_Ma_compute_202 ?_
          refine wm_lload d_Ma_compute_203 rfl ?_
          refine wm_lload d_Ma_compute_205 rfl ?_
          refine wm_lmul d_Ma_compute_207 ?_
          refine wm_iload_n d_Ma_compute_208 rfl rfl ?_
          refine cf_Ma_113 rfl d_Ma_compute_209 (by rw [e30]; exact h27) (Nat.le_of_ble_eq_true rfl) (Ci.mono h (fun x39 M38 h => ?_))
          obtain ⟨h40, hOM38, h⟩ := h
          obtain ⟨h41, h⟩ := h
          refine wm_ireturn d_Ma_compute_212 rfl (m_nb h41) ?_
          exact ⟨_, rfl, h⟩
        · replace h := h.2 c37
          by_cases c42 : l1 = 26
          · replace h := h.1 c42
            refine wm_tableIn (tgt := 213) (off := 55) d_Ma_compute_158 hi_l1 (by omega) (by omega) (by rw [c42]; rfl) rfl ?_
            refine wm_aload_n d_Ma_compute_213 rfl rfl ?_
            refine wm_lload_n d_Ma_compute_214 rfl rfl ?_
            refine wm_lload d_Ma_compute_215 rfl ?_
            refine wm_lmul d_Ma_compute_217 ?_
            refine wm_lload d_Ma_compute_218 rfl ?_
            refine wm_lload d_Ma_compute_220 rfl ?_
            refine wm_lmul d_Ma_compute_222 ?_
            refine wm_lsub d_Ma_compute_223 ?_
            refine wm_lload d_Ma_compute_224 rfl ?_
            refine wm_lload d_Ma_compute_226 rfl ?_
            refine wm_lmul d_Ma_compute_228 ?_
            refine wm_iload_n d_Ma_compute_229 rfl rfl ?_
            refine cf_Ma_113 rfl d_Ma_compute_230 (by rw [e30]; exact h27) (Nat.le_of_ble_eq_true rfl) (Ci.mono h (fun x44 M43 h => ?_))
            obtain ⟨h45, hOM43, h⟩ := h
            obtain ⟨h46, h⟩ := h
            refine wm_ireturn d_Ma_compute_233 rfl (m_nb h46) ?_
            exact ⟨_, rfl, h⟩
          · replace h := h.2 c42
            by_cases c47 : l1 = 27
            · replace h := h.1 c47
              refine wm_tableIn (tgt := 234) (off := 76) d_Ma_compute_158 hi_l1 (by omega) (by omega) (by rw [c47]; rfl) rfl ?_
              refine wm_aload_n d_Ma_compute_234 rfl rfl ?_
              refine wm_lload_n d_Ma_compute_235 rfl rfl ?_
              refine wm_lload d_Ma_compute_236 rfl ?_
              refine wm_lmul d_Ma_compute_238 ?_
              refine wm_lload d_Ma_compute_239 rfl ?_
              refine wm_lload d_Ma_compute_241 rfl ?_
              refine wm_lmul d_Ma_compute_243 ?_
              refine wm_iload_n d_Ma_compute_244 rfl rfl ?_
              refine cf_Ma_113 rfl d_Ma_compute_245 (by rw [e30]; exact h27) (Nat.le_of_ble_eq_true rfl) (Ci.mono h (fun x49 M48 h => ?_))
              obtain ⟨h50, hOM48, h⟩ := h
              obtain ⟨h51, h⟩ := h
              refine wm_ireturn d_Ma_compute_248 rfl (m_nb h51) ?_
              exact ⟨_, rfl, h⟩
            · replace h := h.2 c47
              by_cases c52 : l1 = 28
              · replace h := h.1 c52
                refine wm_tableIn (tgt := 249) (off := 91) d_Ma_compute_158 hi_l1 (by omega) (by omega) (by rw [c52]; rfl) rfl ?_
                refine wm_lload d_Ma_compute_249 rfl ?_
                refine wm_lconst (x := 0) d_Ma_compute_251 rfl ?_
                refine wm_lcmp d_Ma_compute_252 (i64_of32 (hOM29 _ _).1) ⟨by decide, by decide⟩ ?_
                refine wm_if_ne (tgt := 264) d_Ma_compute_253 rfl (m_cmp32 _ _) (fun c55 => ?_) (fun c55 => ?_)
                · replace h := h.2 c55
                  refine wm_lload d_Ma_compute_264 rfl ?_
                  refine wm_lconst (x := 0) d_Ma_compute_266 rfl ?_
                  refine wm_lcmp d_Ma_compute_267 (i64_of32 (hOM29 _ _).1) ⟨by decide, by decide⟩ ?_
                  refine wm_if_le (tgt := 288) d_Ma_compute_268 rfl (m_cmp32 _ _) (fun c61 => ?_) (fun c61 => ?_)
                  · replace h := h.1 c61
                    refine wm_aload_n d_Ma_compute_288 rfl rfl ?_
                    refine wm_lload_n d_Ma_compute_289 rfl rfl ?_
                    refine wm_lneg d_Ma_compute_290 ?_
                    refine wm_lload d_Ma_compute_291 rfl ?_
                    refine wm_lmul d_Ma_compute_293 ?_
                    refine wm_lload d_Ma_compute_294 rfl ?_
                    refine wm_lneg d_Ma_compute_296 ?_
                    refine wm_lload d_Ma_compute_297 rfl ?_
                    refine wm_lmul d_Ma_compute_299 ?_
                    refine wm_iload_n d_Ma_compute_300 rfl rfl ?_
                    refine cf_Ma_113 rfl d_Ma_compute_301 (by rw [e30]; exact h27) (Nat.le_of_ble_eq_true rfl) (Ci.mono h (fun x63 M62 h => ?_))
                    obtain ⟨h64, hOM62, h⟩ := h
                    refine wm_less (L' := [vd, vd, vd, vd, vd, vd, vd, vd, vd, vd, vd]) ⟨Or.inl rfl, Or.inl rfl, Or.inl rfl, Or.inl rfl, Or.inl rfl, Or.inl rfl, Or.inl rfl, Or.inl rfl, Or.inl rfl, Or.inl rfl, Or.inl rfl, trivial⟩ ?_
                    exact h
                  · replace h := h.2 c61
                    refine wm_aload_n d_Ma_compute_271 rfl rfl ?_
                    refine wm_lload_n d_Ma_compute_272 rfl rfl ?_
                    refine wm_lload d_Ma_compute_273 rfl ?_
                    refine wm_lmul d_Ma_compute_275 ?_
                    refine wm_lload d_Ma_compute_276 rfl ?_
                    refine wm_lload d_Ma_compute_278 rfl ?_
                    refine wm_lmul d_Ma_compute_280 ?_
                    refine wm_iload_n d_Ma_compute_281 rfl rfl ?_
                    refine cf_Ma_113 rfl d_Ma_compute_282 (by rw [e30]; exact h27) (Nat.le_of_ble_eq_true rfl) (Ci.mono h (fun x66 M65 h => ?_))
                    obtain ⟨h67, hOM65, h⟩ := h
                    refine wm_goto (tgt := 304) d_Ma_compute_285 rfl ?_
                    refine wm_less (L' := [vd, vd, vd, vd, vd, vd, vd, vd, vd, vd, vd]) ⟨Or.inl rfl, Or.inl rfl, Or.inl rfl, Or.inl rfl, Or.inl rfl, Or.inl rfl, Or.inl rfl, Or.inl rfl, Or.inl rfl, Or.inl rfl, Or.inl rfl, trivial⟩ ?_
                    exact h
                · replace c55 := Classical.not_not.mp c55
                  replace h := h.1 c55
                  refine wm_aload_n d_Ma_compute_256 rfl rfl ?_
                  refine wm_bipush d_Ma_compute_257 (by decide) ?_
                  refine wm_iload_n d_Ma_compute_259 rfl rfl ?_
                  refine cf_Ma_92 rfl d_Ma_compute_260 (by rw [e30]; exact h27) (Nat.le_of_ble_eq_true rfl) (Ci.mono h (fun x57 M56 h => ?_))
                  obtain ⟨h58, hOM56, h⟩ := h
                  obtain ⟨h59, h⟩ := h
                  refine wm_ireturn d_Ma_compute_263 rfl (m_nb h59) ?_
                  exact ⟨_, rfl, h⟩
              · replace h := h.2 c52
                by_cases c68 : l1 = 29
                · replace h := h.1 c68
                  refine wm_tableIn (tgt := 305) (off := 147) d_Ma_compute_158 hi_l1 (by omega) (by omega) (by rw [c68]; rfl) rfl ?_
                  refine wm_lload d_Ma_compute_305 rfl ?_
                  refine wm_lconst (x := 1) d_Ma_compute_307 rfl ?_
                  refine wm_lcmp d_Ma_compute_308 (i64_of32 (hOM29 _ _).1) ⟨by decide, by decide⟩ ?_
                  have hE0 : ((cmpL (mI M29 (mR M29 a0 7) (Int.toNat ((mI M29 a0 8) - 1))) 1 = 0) ∧ (cmpL (mI M29 (mR M29 a0 7) (Int.toNat (mI M29 a0 8))) 1 = 0)) → mWm G y_Ma_compute (d + 1) 327 [vr a0, vi l1, vi l2, vl (mI M29 (mR M29 a0 6) (Int.toNat ((mI M29 a0 8) - 1))), vd, vl (mI M29 (mR M29 a0 7) (Int.toNat ((mI M29 a0 8) - 1))), vd, vl (mI M29 (mR M29 a0 6) (Int.toNat (mI M29 a0 8))), vd, vl (mI M29 (mR M29 a0 7) (Int.toNat (mI M29 a0 8))), vd] [] M29 (fun r9 M9 => ∃ x9, r9 = some (vi x9) ∧ Q x9 M9) := by
                    intro q73
                    have h := h.1 q73
                    refine wm_lload d_Ma_compute_327 rfl ?_
                    refine wm_lconst (x := 0) d_Ma_compute_329 rfl ?_
                    refine wm_lcmp d_Ma_compute_330 (i64_of32 (hOM29 _ _).1) ⟨by decide, by decide⟩ ?_
                    refine wm_if_gt (tgt := 344) d_Ma_compute_331 rfl (m_cmp32 _ _) (fun c75 => ?_) (fun c75 => ?_)
                    · replace h := h.1 c75
                      refine wm_aload_n d_Ma_compute_344 rfl rfl ?_
                      refine wm_lload_n d_Ma_compute_345 rfl rfl ?_
                      refine wm_lload d_Ma_compute_346 rfl ?_
                      refine cf_Ma_117 rfl d_Ma_compute_348 (Nat.le_of_ble_eq_true rfl) (Cj.mono h (fun x77 M76 h => ?_))
                      obtain ⟨h78, hOM76, h⟩ := h
                      obtain ⟨h79, h⟩ := h
                      refine wm_lconst (x := 1) d_Ma_compute_351 rfl ?_
                      refine wm_iload_n d_Ma_compute_352 rfl rfl ?_
                      refine cf_Ma_113 rfl d_Ma_compute_353 h79 (Nat.le_of_ble_eq_true rfl) (Ci.mono h (fun x81 M80 h => ?_))
                      obtain ⟨h82, hOM80, h⟩ := h
                      refine wm_less (L' := [vd, vd, vd, vd, vd, vd, vd, vd, vd, vd, vd]) ⟨Or.inl rfl, Or.inl rfl, Or.inl rfl, Or.inl rfl, Or.inl rfl, Or.inl rfl, Or.inl rfl, Or.inl rfl, Or.inl rfl, Or.inl rfl, Or.inl rfl, trivial⟩ ?_
                      exact h
                    · replace h := h.2 c75
                      refine wm_aload_n d_Ma_compute_334 rfl rfl ?_
                      refine wm_bipush d_Ma_compute_335 (by decide) ?_
                      refine wm_iload_n d_Ma_compute_337 rfl rfl ?_
                      refine cf_Ma_92 rfl d_Ma_compute_338 (by rw [e30]; exact h27) (Nat.le_of_ble_eq_true rfl) (Ci.mono h (fun x84 M83 h => ?_))
                      obtain ⟨h85, hOM83, h⟩ := h
                      refine wm_goto (tgt := 356) d_Ma_compute_341 rfl ?_
                      refine wm_less (L' := [vd, vd, vd, vd, vd, vd, vd, vd, vd, vd, vd]) ⟨Or.inl rfl, Or.inl rfl, Or.inl rfl, Or.inl rfl, Or.inl rfl, Or.inl rfl, Or.inl rfl, Or.inl rfl, Or.inl rfl, Or.inl rfl, Or.inl rfl, trivial⟩ ?_
                      exact h
                  have hE1 : ¬ ((cmpL (mI M29 (mR M29 a0 7) (Int.toNat ((mI M29 a0 8) - 1))) 1 = 0) ∧ (cmpL (mI M29 (mR M29 a0 7) (Int.toNat (mI M29 a0 8))) 1 = 0)) → mWm G y_Ma_compute (d + 1) 319 [vr a0, vi l1, vi l2, vl (mI M29 (mR M29 a0 6) (Int.toNat ((mI M29 a0 8) - 1))), vd, vl (mI M29 (mR M29 a0 7) (Int.toNat ((mI M29 a0 8) - 1))), vd, vl (mI M29 (mR M29 a0 6) (Int.toNat (mI M29 a0 8))), vd, vl (mI M29 (mR M29 a0 7) (Int.toNat (mI M29 a0 8))), vd] [] M29 (fun r9 M9 => ∃ x9, r9 = some (vi x9) ∧ Q x9 M9) := by
                    intro q86
                    have h := h.2 q86
                    refine wm_aload_n d_Ma_compute_319 rfl rfl ?_
                    refine wm_bipush d_Ma_compute_320 (by decide) ?_
                    refine wm_iload_n d_Ma_compute_322 rfl rfl ?_
                    refine cf_Ma_92 rfl d_Ma_compute_323 (by rw [e30]; exact h27) (Nat.le_of_ble_eq_true rfl) (Ci.mono h (fun x88 M87 h => ?_))
                    obtain ⟨h89, hOM87, h⟩ := h
                    obtain ⟨h90, h⟩ := h
                    refine wm_ireturn d_Ma_compute_326 rfl (m_nb h90) ?_
                    exact ⟨_, rfl, h⟩
                  clear h
                  refine wm_if_ne (tgt := 319) d_Ma_compute_309 rfl (m_cmp32 _ _) (fun c71 => ?_) (fun c71 => ?_)
                  · exact hE1 (fun z93 => c71 z93.1)
                  · replace c71 := Classical.not_not.mp c71
                    refine wm_lload d_Ma_compute_312 rfl ?_
                    refine wm_lconst (x := 1) d_Ma_compute_314 rfl ?_
                    refine wm_lcmp d_Ma_compute_315 (i64_of32 (hOM29 _ _).1) ⟨by decide, by decide⟩ ?_
                    refine wm_if_eq (tgt := 327) d_Ma_compute_316 rfl (m_cmp32 _ _) (fun c70 => ?_) (fun c70 => ?_)
                    · exact hE0 ⟨c71, c70⟩
                    · exact hE1 (fun z91 => c70 z91.2)
                · replace h := h.2 c68
                  refine wm_tableOut (tgt := 357) d_Ma_compute_158 hi_l1 (by omega) rfl ?_
                  refine wm_aload_n d_Ma_compute_357 rfl rfl ?_
                  refine wm_iload_n d_Ma_compute_358 rfl rfl ?_
                  refine wm_lload_n d_Ma_compute_359 rfl rfl ?_
                  refine wm_lload d_Ma_compute_360 rfl ?_
                  refine wm_lmul d_Ma_compute_362 ?_
                  refine wm_lload d_Ma_compute_363 rfl ?_
                  refine wm_lload d_Ma_compute_365 rfl ?_
                  refine wm_lmul d_Ma_compute_367 ?_
                  refine cf_Ma_123 rfl d_Ma_compute_368 (Nat.le_of_ble_eq_true rfl) (Ci.mono h (fun x95 M94 h => ?_))
                  obtain ⟨h96, hOM94, h⟩ := h
                  obtain ⟨h97, h⟩ := h
                  refine cf_Ma_129 rfl d_Ma_compute_371 h97 (Nat.le_of_ble_eq_true rfl) (Ci.mono h (fun x99 M98 h => ?_))
                  obtain ⟨h100, hOM98, h⟩ := h
                  obtain ⟨h101, h⟩ := h
                  refine wm_ireturn d_Ma_compute_374 rfl (m_nb h101) ?_
                  exact ⟨_, rfl, h⟩
theorem k_Ma_compute_304 {G : mG} {d : Nat} {k0 : Int} {M : mM} {Q : Int → mM → Prop} (hO : mOk M) (hi_k0 : i32 k0)
    (h : (k0 = 0 ∨ k0 = 1) ∧ Q k0 M) :
    h_Ma_compute_304 G d k0 M Q := by
  unfold h_Ma_compute_304
  obtain ⟨h102, h⟩ := h
  refine wm_ireturn d_Ma_compute_304 rfl (m_nb h102) ?_
  exact ⟨_, rfl, h⟩
theorem k_Ma_compute_356 {G : mG} {d : Nat} {k0 : Int} {M : mM} {Q : Int → mM → Prop} (hO : mOk M) (hi_k0 : i32 k0)
    (h : (k0 = 0 ∨ k0 = 1) ∧ Q k0 M) :
    h_Ma_compute_356 G d k0 M Q := by
  unfold h_Ma_compute_356
  obtain ⟨h103, h⟩ := h
  refine wm_ireturn d_Ma_compute_356 rfl (m_nb h103) ?_
  exact ⟨_, rfl, h⟩
theorem d_Ma_store_0 : decode y_Ma_store.2.1 0 = .ok (.aload_n 0, 1) := by decide +kernel
theorem d_Ma_store_1 : decode y_Ma_store.2.1 1 = .ok (.dup, 1) := by decide +kernel
theorem d_Ma_store_2 : decode y_Ma_store.2.1 2 = .ok (.getfield 52, 3) := by decide +kernel
theorem d_Ma_store_5 : decode y_Ma_store.2.1 5 = .ok (.iconst 1, 1) := by decide +kernel
theorem d_Ma_store_6 : decode y_Ma_store.2.1 6 = .ok (.isub, 1) := by decide +kernel
theorem d_Ma_store_7 : decode y_Ma_store.2.1 7 = .ok (.putfield 52, 3) := by decide +kernel
theorem d_Ma_store_10 : decode y_Ma_store.2.1 10 = .ok (.aload_n 0, 1) := by decide +kernel
theorem d_Ma_store_11 : decode y_Ma_store.2.1 11 = .ok (.getfield 21, 3) := by decide +kernel
theorem d_Ma_store_14 : decode y_Ma_store.2.1 14 = .ok (.aload_n 0, 1) := by decide +kernel
theorem d_Ma_store_15 : decode y_Ma_store.2.1 15 = .ok (.getfield 52, 3) := by decide +kernel
theorem d_Ma_store_18 : decode y_Ma_store.2.1 18 = .ok (.iaload, 1) := by decide +kernel
theorem d_Ma_store_19 : decode y_Ma_store.2.1 19 = .ok (.iconst 1, 1) := by decide +kernel
theorem d_Ma_store_20 : decode y_Ma_store.2.1 20 = .ok (.if_icmp .eq 11, 3) := by decide +kernel
theorem d_Ma_store_31 : decode y_Ma_store.2.1 31 = .ok (.aload_n 0, 1) := by decide +kernel
theorem d_Ma_store_32 : decode y_Ma_store.2.1 32 = .ok (.getfield 18, 3) := by decide +kernel
theorem d_Ma_store_35 : decode y_Ma_store.2.1 35 = .ok (.aload_n 0, 1) := by decide +kernel
theorem d_Ma_store_36 : decode y_Ma_store.2.1 36 = .ok (.getfield 52, 3) := by decide +kernel
theorem d_Ma_store_39 : decode y_Ma_store.2.1 39 = .ok (.iaload, 1) := by decide +kernel
theorem d_Ma_store_40 : decode y_Ma_store.2.1 40 = .ok (.aload_n 0, 1) := by decide +kernel
theorem d_Ma_store_41 : decode y_Ma_store.2.1 41 = .ok (.getfield 59, 3) := by decide +kernel
theorem d_Ma_store_44 : decode y_Ma_store.2.1 44 = .ok (.getfield 132, 3) := by decide +kernel
theorem d_Ma_store_47 : decode y_Ma_store.2.1 47 = .ok (.iload_n 2, 1) := by decide +kernel
theorem d_Ma_store_48 : decode y_Ma_store.2.1 48 = .ok (.iaload, 1) := by decide +kernel
theorem d_Ma_store_23 : decode y_Ma_store.2.1 23 = .ok (.aload_n 0, 1) := by decide +kernel
theorem d_Ma_store_24 : decode y_Ma_store.2.1 24 = .ok (.bipush 8, 2) := by decide +kernel
theorem d_Ma_store_26 : decode y_Ma_store.2.1 26 = .ok (.iload_n 1, 1) := by decide +kernel
theorem d_Ma_store_49 : decode y_Ma_store.2.1 49 = .ok (.if_icmp .lt 24, 3) := by decide +kernel
theorem d_Ma_store_52 : decode y_Ma_store.2.1 52 = .ok (.aload_n 0, 1) := by decide +kernel
theorem d_Ma_store_53 : decode y_Ma_store.2.1 53 = .ok (.getfield 18, 3) := by decide +kernel
theorem d_Ma_store_56 : decode y_Ma_store.2.1 56 = .ok (.aload_n 0, 1) := by decide +kernel
theorem d_Ma_store_57 : decode y_Ma_store.2.1 57 = .ok (.getfield 52, 3) := by decide +kernel
theorem d_Ma_store_60 : decode y_Ma_store.2.1 60 = .ok (.iaload, 1) := by decide +kernel
theorem d_Ma_store_61 : decode y_Ma_store.2.1 61 = .ok (.aload_n 0, 1) := by decide +kernel
theorem d_Ma_store_62 : decode y_Ma_store.2.1 62 = .ok (.getfield 59, 3) := by decide +kernel
theorem d_Ma_store_65 : decode y_Ma_store.2.1 65 = .ok (.getfield 135, 3) := by decide +kernel
theorem d_Ma_store_68 : decode y_Ma_store.2.1 68 = .ok (.iload_n 2, 1) := by decide +kernel
theorem d_Ma_store_69 : decode y_Ma_store.2.1 69 = .ok (.iaload, 1) := by decide +kernel
theorem d_Ma_store_70 : decode y_Ma_store.2.1 70 = .ok (.if_icmp .le 11, 3) := by decide +kernel
theorem d_Ma_store_81 : decode y_Ma_store.2.1 81 = .ok (.aload_n 0, 1) := by decide +kernel
theorem d_Ma_store_82 : decode y_Ma_store.2.1 82 = .ok (.getfield 15, 3) := by decide +kernel
theorem d_Ma_store_85 : decode y_Ma_store.2.1 85 = .ok (.iload_n 2, 1) := by decide +kernel
theorem d_Ma_store_86 : decode y_Ma_store.2.1 86 = .ok (.aload_n 0, 1) := by decide +kernel
theorem d_Ma_store_87 : decode y_Ma_store.2.1 87 = .ok (.getfield 18, 3) := by decide +kernel
theorem d_Ma_store_90 : decode y_Ma_store.2.1 90 = .ok (.aload_n 0, 1) := by decide +kernel
theorem d_Ma_store_91 : decode y_Ma_store.2.1 91 = .ok (.getfield 52, 3) := by decide +kernel
theorem d_Ma_store_94 : decode y_Ma_store.2.1 94 = .ok (.iaload, 1) := by decide +kernel
theorem d_Ma_store_95 : decode y_Ma_store.2.1 95 = .ok (.iastore, 1) := by decide +kernel
theorem d_Ma_store_96 : decode y_Ma_store.2.1 96 = .ok (.iconst 1, 1) := by decide +kernel
theorem d_Ma_store_97 : decode y_Ma_store.2.1 97 = .ok (.ireturn, 1) := by decide +kernel
theorem d_Ma_store_73 : decode y_Ma_store.2.1 73 = .ok (.aload_n 0, 1) := by decide +kernel
theorem d_Ma_store_74 : decode y_Ma_store.2.1 74 = .ok (.bipush 12, 2) := by decide +kernel
theorem d_Ma_store_76 : decode y_Ma_store.2.1 76 = .ok (.iload_n 1, 1) := by decide +kernel
theorem d_Ma_store_77 : decode y_Ma_store.2.1 77 = .ok (.invokevirtual 92, 3) := by decide +kernel
theorem d_Ma_store_80 : decode y_Ma_store.2.1 80 = .ok (.ireturn, 1) := by decide +kernel
theorem d_Ma_store_27 : decode y_Ma_store.2.1 27 = .ok (.invokevirtual 92, 3) := by decide +kernel
theorem d_Ma_store_30 : decode y_Ma_store.2.1 30 = .ok (.ireturn, 1) := by decide +kernel
theorem k_Ma_store {G : mG} {d : Nat} {a0 : Nat} {l1 : Int} {l2 : Int} {M : mM} {Q : Int → mM → Prop} (hO : mOk M) (hi_l1 : i32 l1) (hi_l2 : i32 l2)
    (h : mK M a0 = 5 ∧ i32 ((mI M a0 8) - 1) ∧ ∀ M3, M3 = mUI M a0 8 ((mI M a0 8) - 1) → mK M3 (mR M3 a0 7) = 30 ∧ ((0 : Int) ≤ mI M3 a0 8 ∧ mI M3 a0 8 < (mN M3 (mR M3 a0 7) : Int)) ∧ ((mI M3 (mR M3 a0 7) (Int.toNat (mI M3 a0 8)) = 1) → (mK M3 (mR M3 a0 6) = 30 ∧ ((0 : Int) ≤ mI M3 a0 8 ∧ mI M3 a0 8 < (mN M3 (mR M3 a0 6) : Int)) ∧ mK M3 (mR M3 a0 0) = 6 ∧ mK M3 (mR M3 (mR M3 a0 0) 4) = 30 ∧ ((0 : Int) ≤ l2 ∧ l2 < (mN M3 (mR M3 (mR M3 a0 0) 4) : Int)) ∧ (¬ (mI M3 (mR M3 a0 6) (Int.toNat (mI M3 a0 8)) < mI M3 (mR M3 (mR M3 a0 0) 4) (Int.toNat l2)) → (((0 : Int) ≤ mI M3 a0 8 ∧ mI M3 a0 8 < (mN M3 (mR M3 a0 6) : Int)) ∧ mK M3 (mR M3 (mR M3 a0 0) 5) = 30 ∧ ((0 : Int) ≤ l2 ∧ l2 < (mN M3 (mR M3 (mR M3 a0 0) 5) : Int)))) ∧ (((mI M3 (mR M3 a0 6) (Int.toNat (mI M3 a0 8)) < mI M3 (mR M3 (mR M3 a0 0) 4) (Int.toNat l2)) ∨ (¬ (mI M3 (mR M3 a0 6) (Int.toNat (mI M3 a0 8)) ≤ mI M3 (mR M3 (mR M3 a0 0) 5) (Int.toNat l2)))) → (Ci G y_Ma_stop d [vr a0, vi 12, vi l1] M3 (fun x38 M37 => i32 x38 ∧ mOk M37 ∧ ((x38 = 0 ∨ x38 = 1) ∧ Q x38 M37)))) ∧ (¬ ((mI M3 (mR M3 a0 6) (Int.toNat (mI M3 a0 8)) < mI M3 (mR M3 (mR M3 a0 0) 4) (Int.toNat l2)) ∨ (¬ (mI M3 (mR M3 a0 6) (Int.toNat (mI M3 a0 8)) ≤ mI M3 (mR M3 (mR M3 a0 0) 5) (Int.toNat l2)))) → (((0 : Int) ≤ mI M3 a0 8 ∧ mI M3 a0 8 < (mN M3 (mR M3 a0 6) : Int)) ∧ mK M3 (mR M3 a0 5) = 30 ∧ ((0 : Int) ≤ l2 ∧ l2 < (mN M3 (mR M3 a0 5) : Int)) ∧ ∀ M45, M45 = mUI M3 (mR M3 a0 5) (Int.toNat l2) (mI M3 (mR M3 a0 6) (Int.toNat (mI M3 a0 8))) → Q 1 M45)))) ∧ (¬ (mI M3 (mR M3 a0 7) (Int.toNat (mI M3 a0 8)) = 1) → (Ci G y_Ma_stop d [vr a0, vi 8, vi l1] M3 (fun x51 M50 => i32 x51 ∧ mOk M50 ∧ ((x51 = 0 ∨ x51 = 1) ∧ Q x51 M50))))) :
    Ci G y_Ma_store (d + 1) [vr a0, vi l1, vi l2] M Q := by
  refine wm_open (y := y_Ma_store) rfl (Nat.le_of_ble_eq_true rfl) (L := [vr a0, vi l1, vi l2]) rfl ?_
  obtain ⟨h1, h⟩ := h
  obtain ⟨h2, h⟩ := h
  obtain ⟨M3, e4⟩ : ∃ M3, M3 = mUI M a0 8 ((mI M a0 8) - 1) := ⟨_, rfl⟩
  replace h := h M3 e4
  obtain ⟨h5, h⟩ := h
  obtain ⟨h6, h⟩ := h
  refine wm_aload_n d_Ma_store_0 rfl rfl ?_
  refine wm_dup d_Ma_store_1 rfl ?_
  refine gf_Ma_52 rfl d_Ma_store_2 h1 ?_
  refine wm_iconst d_Ma_store_5 ?_
  refine wm_isub d_Ma_store_6 ?_
  have hOM3 : mOk M3 := by rw [e4]; exact mOk_UI hO h2
  refine pf_Ma_52 rfl d_Ma_store_7 h1 h2 e4 ?_
  refine wm_aload_n d_Ma_store_10 rfl rfl ?_
  refine gf_Ma_21 rfl d_Ma_store_11 (by rw [e4]; exact h1) ?_
  refine wm_aload_n d_Ma_store_14 rfl rfl ?_
  refine gf_Ma_52 rfl d_Ma_store_15 (by rw [e4]; exact h1) ?_
  refine wm_iald d_Ma_store_18 h5 h6 ?_
  refine wm_iconst d_Ma_store_19 ?_
  refine wm_icmp_eq (tgt := 31) d_Ma_store_20 rfl (hOM3 _ _).1 ⟨by decide, by decide⟩ (fun c21 => ?_) (fun c21 => ?_)
  · replace h := h.1 c21
    obtain ⟨h22, h⟩ := h
    obtain ⟨h23, h⟩ := h
    obtain ⟨h24, h⟩ := h
    obtain ⟨h25, h⟩ := h
    obtain ⟨h26, h⟩ := h
    refine wm_aload_n d_Ma_store_31 rfl rfl ?_
    refine gf_Ma_18 rfl d_Ma_store_32 (by rw [e4]; exact h1) ?_
    refine wm_aload_n d_Ma_store_35 rfl rfl ?_
    refine gf_Ma_52 rfl d_Ma_store_36 (by rw [e4]; exact h1) ?_
    refine wm_iald d_Ma_store_39 h22 h23 ?_
    refine wm_aload_n d_Ma_store_40 rfl rfl ?_
    refine gf_Ma_59 rfl d_Ma_store_41 (by rw [e4]; exact h1) ?_
    refine gf_Ma_132 rfl d_Ma_store_44 h24 ?_
    refine wm_iload_n d_Ma_store_47 rfl rfl ?_
    refine wm_iald d_Ma_store_48 h25 h26 ?_
    obtain ⟨s35, h⟩ := h
    have hE0 : ((mI M3 (mR M3 a0 6) (Int.toNat (mI M3 a0 8)) < mI M3 (mR M3 (mR M3 a0 0) 4) (Int.toNat l2)) ∨ (¬ (mI M3 (mR M3 a0 6) (Int.toNat (mI M3 a0 8)) ≤ mI M3 (mR M3 (mR M3 a0 0) 5) (Int.toNat l2)))) → mWm G y_Ma_store (d + 1) 73 [vr a0, vi l1, vi l2] [] M3 (fun r9 M9 => ∃ x9, r9 = some (vi x9) ∧ Q x9 M9) := by
      intro q36
      have h := h.1 q36
      refine wm_aload_n d_Ma_store_73 rfl rfl ?_
      refine wm_bipush d_Ma_store_74 (by decide) ?_
      refine wm_iload_n d_Ma_store_76 rfl rfl ?_
      refine cf_Ma_92 rfl d_Ma_store_77 (by rw [e4]; exact h1) (Nat.le_of_ble_eq_true rfl) (Ci.mono h (fun x38 M37 h => ?_))
      obtain ⟨h39, hOM37, h⟩ := h
      obtain ⟨h40, h⟩ := h
      refine wm_ireturn d_Ma_store_80 rfl (m_nb h40) ?_
      exact ⟨_, rfl, h⟩
    have hE1 : ¬ ((mI M3 (mR M3 a0 6) (Int.toNat (mI M3 a0 8)) < mI M3 (mR M3 (mR M3 a0 0) 4) (Int.toNat l2)) ∨ (¬ (mI M3 (mR M3 a0 6) (Int.toNat (mI M3 a0 8)) ≤ mI M3 (mR M3 (mR M3 a0 0) 5) (Int.toNat l2)))) → mWm G y_Ma_store (d + 1) 81 [vr a0, vi l1, vi l2] [] M3 (fun r9 M9 => ∃ x9, r9 = some (vi x9) ∧ Q x9 M9) := by
      intro q41
      have h := h.2 q41
      obtain ⟨h42, h⟩ := h
      obtain ⟨h43, h⟩ := h
      obtain ⟨h44, h⟩ := h
      obtain ⟨M45, e46⟩ : ∃ M45, M45 = mUI M3 (mR M3 a0 5) (Int.toNat l2) (mI M3 (mR M3 a0 6) (Int.toNat (mI M3 a0 8))) := ⟨_, rfl⟩
      replace h := h M45 e46
      refine wm_aload_n d_Ma_store_81 rfl rfl ?_
      refine gf_Ma_15 rfl d_Ma_store_82 (by rw [e4]; exact h1) ?_
      refine wm_iload_n d_Ma_store_85 rfl rfl ?_
      refine wm_aload_n d_Ma_store_86 rfl rfl ?_
      refine gf_Ma_18 rfl d_Ma_store_87 (by rw [e4]; exact h1) ?_
      refine wm_aload_n d_Ma_store_90 rfl rfl ?_
      refine gf_Ma_52 rfl d_Ma_store_91 (by rw [e4]; exact h1) ?_
      refine wm_iald d_Ma_store_94 h22 h42 ?_
      have hOM45 : mOk M45 := by rw [e46]; exact mOk_UI hOM3 (hOM3 _ _).1
      refine wm_iastE d_Ma_store_95 h43 h44 (hOM3 _ _).1 e46 ?_
      refine wm_iconst d_Ma_store_96 ?_
      refine wm_ireturn d_Ma_store_97 rfl (m_nb (by decide)) ?_
      exact ⟨_, rfl, h⟩
    clear h
    have s47 := s35
    refine wm_icmp_lt (tgt := 73) d_Ma_store_49 rfl (hOM3 _ _).1 (hOM3 _ _).1 (fun c34 => ?_) (fun c34 => ?_)
    · exact hE0 (Or.inl c34)
    · have s47 := s47 c34
      obtain ⟨h27, h28, h29⟩ := s47
      refine wm_aload_n d_Ma_store_52 rfl rfl ?_
      refine gf_Ma_18 rfl d_Ma_store_53 (by rw [e4]; exact h1) ?_
      refine wm_aload_n d_Ma_store_56 rfl rfl ?_
      refine gf_Ma_52 rfl d_Ma_store_57 (by rw [e4]; exact h1) ?_
      refine wm_iald d_Ma_store_60 h22 h27 ?_
      refine wm_aload_n d_Ma_store_61 rfl rfl ?_
      refine gf_Ma_59 rfl d_Ma_store_62 (by rw [e4]; exact h1) ?_
      refine gf_Ma_135 rfl d_Ma_store_65 h24 ?_
      refine wm_iload_n d_Ma_store_68 rfl rfl ?_
      refine wm_iald d_Ma_store_69 h28 h29 ?_
      refine wm_icmp_le (tgt := 81) d_Ma_store_70 rfl (hOM3 _ _).1 (hOM3 _ _).1 (fun c33 => ?_) (fun c33 => ?_)
      · exact hE1 (fun z48 => Or.elim z48 c34 (fun z49 => z49 c33))
      · exact hE0 (Or.inr c33)
  · replace h := h.2 c21
    refine wm_aload_n d_Ma_store_23 rfl rfl ?_
    refine wm_bipush d_Ma_store_24 (by decide) ?_
    refine wm_iload_n d_Ma_store_26 rfl rfl ?_
    refine cf_Ma_92 rfl d_Ma_store_27 (by rw [e4]; exact h1) (Nat.le_of_ble_eq_true rfl) (Ci.mono h (fun x51 M50 h => ?_))
    obtain ⟨h52, hOM50, h⟩ := h
    obtain ⟨h53, h⟩ := h
    refine wm_ireturn d_Ma_store_30 rfl (m_nb h53) ?_
    exact ⟨_, rfl, h⟩
theorem d_Ma_settle_0 : decode y_Ma_settle.2.1 0 = .ok (.lload_n 1, 1) := by decide +kernel
theorem d_Ma_settle_1 : decode y_Ma_settle.2.1 1 = .ok (.lload_n 3, 1) := by decide +kernel
theorem d_Ma_settle_2 : decode y_Ma_settle.2.1 2 = .ok (.invokestatic 138, 3) := by decide +kernel
theorem d_Ma_settle_5 : decode y_Ma_settle.2.1 5 = .ok (.lstore 6, 2) := by decide +kernel
theorem d_Ma_settle_7 : decode y_Ma_settle.2.1 7 = .ok (.lload_n 1, 1) := by decide +kernel
theorem d_Ma_settle_8 : decode y_Ma_settle.2.1 8 = .ok (.lload 6, 2) := by decide +kernel
theorem d_Ma_settle_10 : decode y_Ma_settle.2.1 10 = .ok (.ldiv, 1) := by decide +kernel
theorem d_Ma_settle_11 : decode y_Ma_settle.2.1 11 = .ok (.lstore 8, 2) := by decide +kernel
theorem d_Ma_settle_13 : decode y_Ma_settle.2.1 13 = .ok (.lload_n 3, 1) := by decide +kernel
theorem d_Ma_settle_14 : decode y_Ma_settle.2.1 14 = .ok (.lload 6, 2) := by decide +kernel
theorem d_Ma_settle_16 : decode y_Ma_settle.2.1 16 = .ok (.ldiv, 1) := by decide +kernel
theorem d_Ma_settle_17 : decode y_Ma_settle.2.1 17 = .ok (.lstore 10, 2) := by decide +kernel
theorem d_Ma_settle_19 : decode y_Ma_settle.2.1 19 = .ok (.lload 8, 2) := by decide +kernel
theorem d_Ma_settle_21 : decode y_Ma_settle.2.1 21 = .ok (.ldc2_w 141, 3) := by decide +kernel
theorem d_Ma_settle_24 : decode y_Ma_settle.2.1 24 = .ok (.lcmp, 1) := by decide +kernel
theorem d_Ma_settle_25 : decode y_Ma_settle.2.1 25 = .ok (.ifCond .ge 21, 3) := by decide +kernel
theorem d_Ma_settle_28 : decode y_Ma_settle.2.1 28 = .ok (.lload 8, 2) := by decide +kernel
theorem d_Ma_settle_30 : decode y_Ma_settle.2.1 30 = .ok (.ldc2_w 143, 3) := by decide +kernel
theorem d_Ma_settle_33 : decode y_Ma_settle.2.1 33 = .ok (.lcmp, 1) := by decide +kernel
theorem d_Ma_settle_34 : decode y_Ma_settle.2.1 34 = .ok (.ifCond .le 12, 3) := by decide +kernel
theorem d_Ma_settle_37 : decode y_Ma_settle.2.1 37 = .ok (.lload 10, 2) := by decide +kernel
theorem d_Ma_settle_39 : decode y_Ma_settle.2.1 39 = .ok (.ldc2_w 141, 3) := by decide +kernel
theorem d_Ma_settle_42 : decode y_Ma_settle.2.1 42 = .ok (.lcmp, 1) := by decide +kernel
theorem d_Ma_settle_43 : decode y_Ma_settle.2.1 43 = .ok (.ifCond .lt 12, 3) := by decide +kernel
theorem d_Ma_settle_55 : decode y_Ma_settle.2.1 55 = .ok (.aload_n 0, 1) := by decide +kernel
theorem d_Ma_settle_56 : decode y_Ma_settle.2.1 56 = .ok (.getfield 18, 3) := by decide +kernel
theorem d_Ma_settle_59 : decode y_Ma_settle.2.1 59 = .ok (.aload_n 0, 1) := by decide +kernel
theorem d_Ma_settle_60 : decode y_Ma_settle.2.1 60 = .ok (.getfield 52, 3) := by decide +kernel
theorem d_Ma_settle_63 : decode y_Ma_settle.2.1 63 = .ok (.iconst 1, 1) := by decide +kernel
theorem d_Ma_settle_64 : decode y_Ma_settle.2.1 64 = .ok (.isub, 1) := by decide +kernel
theorem d_Ma_settle_65 : decode y_Ma_settle.2.1 65 = .ok (.lload 8, 2) := by decide +kernel
theorem d_Ma_settle_67 : decode y_Ma_settle.2.1 67 = .ok (.l2i, 1) := by decide +kernel
theorem d_Ma_settle_68 : decode y_Ma_settle.2.1 68 = .ok (.iastore, 1) := by decide +kernel
theorem d_Ma_settle_69 : decode y_Ma_settle.2.1 69 = .ok (.aload_n 0, 1) := by decide +kernel
theorem d_Ma_settle_70 : decode y_Ma_settle.2.1 70 = .ok (.getfield 21, 3) := by decide +kernel
theorem d_Ma_settle_73 : decode y_Ma_settle.2.1 73 = .ok (.aload_n 0, 1) := by decide +kernel
theorem d_Ma_settle_74 : decode y_Ma_settle.2.1 74 = .ok (.getfield 52, 3) := by decide +kernel
theorem d_Ma_settle_77 : decode y_Ma_settle.2.1 77 = .ok (.iconst 1, 1) := by decide +kernel
theorem d_Ma_settle_78 : decode y_Ma_settle.2.1 78 = .ok (.isub, 1) := by decide +kernel
theorem d_Ma_settle_79 : decode y_Ma_settle.2.1 79 = .ok (.lload 10, 2) := by decide +kernel
theorem d_Ma_settle_81 : decode y_Ma_settle.2.1 81 = .ok (.l2i, 1) := by decide +kernel
theorem d_Ma_settle_82 : decode y_Ma_settle.2.1 82 = .ok (.iastore, 1) := by decide +kernel
theorem d_Ma_settle_46 : decode y_Ma_settle.2.1 46 = .ok (.aload_n 0, 1) := by decide +kernel
theorem d_Ma_settle_47 : decode y_Ma_settle.2.1 47 = .ok (.bipush 6, 2) := by decide +kernel
theorem d_Ma_settle_49 : decode y_Ma_settle.2.1 49 = .ok (.iload 5, 2) := by decide +kernel
theorem d_Ma_settle_51 : decode y_Ma_settle.2.1 51 = .ok (.invokevirtual 92, 3) := by decide +kernel
theorem d_Ma_settle_54 : decode y_Ma_settle.2.1 54 = .ok (.ireturn, 1) := by decide +kernel
theorem d_Ma_settle_83 : decode y_Ma_settle.2.1 83 = .ok (.iconst 1, 1) := by decide +kernel
theorem d_Ma_settle_84 : decode y_Ma_settle.2.1 84 = .ok (.ireturn, 1) := by decide +kernel
theorem k_Ma_settle {G : mG} {d : Nat} {a0 : Nat} {j1 : Int} {j3 : Int} {l5 : Int} {M : mM} {Q : Int → mM → Prop} (hO : mOk M) (hi_j1 : i64 j1) (hi_j3 : i64 j3) (hi_l5 : i32 l5)
    (h : Cj G y_Ma_commonDivisor d [vl j1, vl j3] M (fun x2 M1 => i64 x2 ∧ mOk M1 ∧ (x2 ≠ 0 ∧ x2 ≠ 0 ∧ i64 (Int.tdiv j1 x2) ∧ (¬ (0 ≤ cmpL (Int.tdiv j1 x2) 1000000000) → (¬ (cmpL (Int.tdiv j1 x2) (-1000000000) ≤ 0) → i64 (Int.tdiv j3 x2))) ∧ (((0 ≤ cmpL (Int.tdiv j1 x2) 1000000000) ∨ ((cmpL (Int.tdiv j1 x2) (-1000000000) ≤ 0) ∨ (¬ (cmpL (Int.tdiv j3 x2) 1000000000 < 0)))) → (mK M1 a0 = 5 ∧ Ci G y_Ma_stop d [vr a0, vi 6, vi l5] M1 (fun x15 M14 => i32 x15 ∧ mOk M14 ∧ ((x15 = 0 ∨ x15 = 1) ∧ Q x15 M14)))) ∧ (¬ ((0 ≤ cmpL (Int.tdiv j1 x2) 1000000000) ∨ ((cmpL (Int.tdiv j1 x2) (-1000000000) ≤ 0) ∨ (¬ (cmpL (Int.tdiv j3 x2) 1000000000 < 0)))) → (mK M1 a0 = 5 ∧ mK M1 (mR M1 a0 6) = 30 ∧ ((0 : Int) ≤ (mI M1 a0 8) - 1 ∧ (mI M1 a0 8) - 1 < (mN M1 (mR M1 a0 6) : Int)) ∧ i32 (Int.tdiv j1 x2) ∧ ∀ M23, M23 = mUI M1 (mR M1 a0 6) (Int.toNat ((mI M1 a0 8) - 1)) (Int.tdiv j1 x2) → mK M23 (mR M23 a0 7) = 30 ∧ ((0 : Int) ≤ (mI M23 a0 8) - 1 ∧ (mI M23 a0 8) - 1 < (mN M23 (mR M23 a0 7) : Int)) ∧ i32 (Int.tdiv j3 x2) ∧ ∀ M28, M28 = mUI M23 (mR M23 a0 7) (Int.toNat ((mI M23 a0 8) - 1)) (Int.tdiv j3 x2) → Q 1 M28))))) :
    Ci G y_Ma_settle (d + 1) [vr a0, vl j1, vl j3, vi l5] M Q := by
  refine wm_open (y := y_Ma_settle) rfl (Nat.le_of_ble_eq_true rfl) (L := [vr a0, vl j1, vd, vl j3, vd, vi l5, vd, vd, vd, vd, vd, vd]) rfl ?_
  refine wm_lload_n d_Ma_settle_0 rfl rfl ?_
  refine wm_lload_n d_Ma_settle_1 rfl rfl ?_
  refine cf_Ma_138 rfl d_Ma_settle_2 (Nat.le_of_ble_eq_true rfl) (Cj.mono h (fun x2 M1 h => ?_))
  obtain ⟨h3, hOM1, h⟩ := h
  obtain ⟨h4, h⟩ := h
  obtain ⟨h5, h⟩ := h
  obtain ⟨h6, h⟩ := h
  refine wm_lstore d_Ma_settle_5 (by decide) (L' := [vr a0, vl j1, vd, vl j3, vd, vi l5, vl x2, vd, vd, vd, vd, vd]) rfl ?_
  refine wm_lload_n d_Ma_settle_7 rfl rfl ?_
  refine wm_lload d_Ma_settle_8 rfl ?_
  refine wm_ldiv d_Ma_settle_10 hi_j1 h3 h4 ?_
  refine wm_lstore d_Ma_settle_11 (by decide) (L' := [vr a0, vl j1, vd, vl j3, vd, vi l5, vl x2, vd, vl (Int.tdiv j1 x2), vd, vd, vd]) rfl ?_
  refine wm_lload_n d_Ma_settle_13 rfl rfl ?_
  refine wm_lload d_Ma_settle_14 rfl ?_
  refine wm_ldiv d_Ma_settle_16 hi_j3 h3 h5 ?_
  refine wm_lstore d_Ma_settle_17 (by decide) (L' := [vr a0, vl j1, vd, vl j3, vd, vi l5, vl x2, vd, vl (Int.tdiv j1 x2), vd, vl (Int.tdiv j3 x2), vd]) rfl ?_
  refine wm_lload d_Ma_settle_19 rfl ?_
  refine wm_ldc2 (x := 1000000000) d_Ma_settle_21 k5_96 (by decide) ?_
  refine wm_lcmp d_Ma_settle_24 h6 ⟨by decide, by decide⟩ ?_
  obtain ⟨s11, h⟩ := h
  have hE0 : ((0 ≤ cmpL (Int.tdiv j1 x2) 1000000000) ∨ ((cmpL (Int.tdiv j1 x2) (-1000000000) ≤ 0) ∨ (¬ (cmpL (Int.tdiv j3 x2) 1000000000 < 0)))) → mWm G y_Ma_settle (d + 1) 46 [vr a0, vl j1, vd, vl j3, vd, vi l5, vl x2, vd, vl (Int.tdiv j1 x2), vd, vl (Int.tdiv j3 x2), vd] [] M1 (fun r9 M9 => ∃ x9, r9 = some (vi x9) ∧ Q x9 M9) := by
    intro q12
    have h := h.1 q12
    obtain ⟨h13, h⟩ := h
    refine wm_aload_n d_Ma_settle_46 rfl rfl ?_
    refine wm_bipush d_Ma_settle_47 (by decide) ?_
    refine wm_iload d_Ma_settle_49 rfl ?_
    refine cf_Ma_92 rfl d_Ma_settle_51 h13 (Nat.le_of_ble_eq_true rfl) (Ci.mono h (fun x15 M14 h => ?_))
    obtain ⟨h16, hOM14, h⟩ := h
    obtain ⟨h17, h⟩ := h
    refine wm_ireturn d_Ma_settle_54 rfl (m_nb h17) ?_
    exact ⟨_, rfl, h⟩
  have hE1 : ¬ ((0 ≤ cmpL (Int.tdiv j1 x2) 1000000000) ∨ ((cmpL (Int.tdiv j1 x2) (-1000000000) ≤ 0) ∨ (¬ (cmpL (Int.tdiv j3 x2) 1000000000 < 0)))) → mWm G y_Ma_settle (d + 1) 55 [vr a0, vl j1, vd, vl j3, vd, vi l5, vl x2, vd, vl (Int.tdiv j1 x2), vd, vl (Int.tdiv j3 x2), vd] [] M1 (fun r9 M9 => ∃ x9, r9 = some (vi x9) ∧ Q x9 M9) := by
    intro q18
    have h := h.2 q18
    obtain ⟨h19, h⟩ := h
    obtain ⟨h20, h⟩ := h
    obtain ⟨h21, h⟩ := h
    obtain ⟨h22, h⟩ := h
    obtain ⟨M23, e24⟩ : ∃ M23, M23 = mUI M1 (mR M1 a0 6) (Int.toNat ((mI M1 a0 8) - 1)) (Int.tdiv j1 x2) := ⟨_, rfl⟩
    replace h := h M23 e24
    obtain ⟨h25, h⟩ := h
    obtain ⟨h26, h⟩ := h
    obtain ⟨h27, h⟩ := h
    obtain ⟨M28, e29⟩ : ∃ M28, M28 = mUI M23 (mR M23 a0 7) (Int.toNat ((mI M23 a0 8) - 1)) (Int.tdiv j3 x2) := ⟨_, rfl⟩
    replace h := h M28 e29
    refine wm_aload_n d_Ma_settle_55 rfl rfl ?_
    refine gf_Ma_18 rfl d_Ma_settle_56 h19 ?_
    refine wm_aload_n d_Ma_settle_59 rfl rfl ?_
    refine gf_Ma_52 rfl d_Ma_settle_60 h19 ?_
    refine wm_iconst d_Ma_settle_63 ?_
    refine wm_isub d_Ma_settle_64 ?_
    refine wm_lload d_Ma_settle_65 rfl ?_
    refine wm_l2i d_Ma_settle_67 ?_
    have hOM23 : mOk M23 := by rw [e24]; exact mOk_UI hOM1 h22
    refine wm_iastE d_Ma_settle_68 h20 h21 h22 e24 ?_
    refine wm_aload_n d_Ma_settle_69 rfl rfl ?_
    refine gf_Ma_21 rfl d_Ma_settle_70 (by rw [e24]; exact h19) ?_
    refine wm_aload_n d_Ma_settle_73 rfl rfl ?_
    refine gf_Ma_52 rfl d_Ma_settle_74 (by rw [e24]; exact h19) ?_
    refine wm_iconst d_Ma_settle_77 ?_
    refine wm_isub d_Ma_settle_78 ?_
    refine wm_lload d_Ma_settle_79 rfl ?_
    refine wm_l2i d_Ma_settle_81 ?_
    have hOM28 : mOk M28 := by rw [e29]; exact mOk_UI hOM23 h27
    refine wm_iastE d_Ma_settle_82 h25 h26 h27 e29 ?_
    refine wm_iconst d_Ma_settle_83 ?_
    refine wm_ireturn d_Ma_settle_84 rfl (m_nb (by decide)) ?_
    exact ⟨_, rfl, h⟩
  clear h
  have s30 := s11
  refine wm_if_ge (tgt := 46) d_Ma_settle_25 rfl (m_cmp32 _ _) (fun c10 => ?_) (fun c10 => ?_)
  · exact hE0 (Or.inl c10)
  · have s30 := s30 c10
    have s31 := s30
    refine wm_lload d_Ma_settle_28 rfl ?_
    refine wm_ldc2 (x := (-1000000000)) d_Ma_settle_30 k5_97 (by decide) ?_
    refine wm_lcmp d_Ma_settle_33 h6 ⟨by decide, by decide⟩ ?_
    refine wm_if_le (tgt := 46) d_Ma_settle_34 rfl (m_cmp32 _ _) (fun c9 => ?_) (fun c9 => ?_)
    · exact hE0 (Or.inr (Or.inl c9))
    · have s31 := s31 c9
      have h7 := s31
      refine wm_lload d_Ma_settle_37 rfl ?_
      refine wm_ldc2 (x := 1000000000) d_Ma_settle_39 k5_96 (by decide) ?_
      refine wm_lcmp d_Ma_settle_42 h7 ⟨by decide, by decide⟩ ?_
      refine wm_if_lt (tgt := 55) d_Ma_settle_43 rfl (m_cmp32 _ _) (fun c8 => ?_) (fun c8 => ?_)
      · exact hE1 (fun z32 => Or.elim z32 c10 (fun z33 => Or.elim z33 c9 (fun z34 => z34 c8)))
      · exact hE0 (Or.inr (Or.inr c8))
