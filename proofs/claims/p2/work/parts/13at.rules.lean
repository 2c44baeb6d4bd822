theorem d_RR_group_0 : decode y_RR_group.2.1 0 = .ok (.aload_n 0, 1) := by decide +kernel
theorem d_RR_group_1 : decode y_RR_group.2.1 1 = .ok (.getfield 11, 3) := by decide +kernel
theorem d_RR_group_4 : decode y_RR_group.2.1 4 = .ok (.aload_n 0, 1) := by decide +kernel
theorem d_RR_group_5 : decode y_RR_group.2.1 5 = .ok (.getfield 87, 3) := by decide +kernel
theorem d_RR_group_8 : decode y_RR_group.2.1 8 = .ok (.iaload, 1) := by decide +kernel
theorem d_RR_group_9 : decode y_RR_group.2.1 9 = .ok (.istore_n 1, 1) := by decide +kernel
theorem d_RR_group_10 : decode y_RR_group.2.1 10 = .ok (.aload_n 0, 1) := by decide +kernel
theorem d_RR_group_11 : decode y_RR_group.2.1 11 = .ok (.invokevirtual 162, 3) := by decide +kernel
theorem d_RR_group_14 : decode y_RR_group.2.1 14 = .ok (.istore_n 2, 1) := by decide +kernel
theorem d_RR_group_15 : decode y_RR_group.2.1 15 = .ok (.iload_n 1, 1) := by decide +kernel
theorem d_RR_group_16 : decode y_RR_group.2.1 16 = .ok (.invokestatic 132, 3) := by decide +kernel
theorem d_RR_group_19 : decode y_RR_group.2.1 19 = .ok (.iconst 4, 1) := by decide +kernel
theorem d_RR_group_20 : decode y_RR_group.2.1 20 = .ok (.if_icmp .gt 7, 3) := by decide +kernel
theorem d_RR_group_27 : decode y_RR_group.2.1 27 = .ok (.iconst 0, 1) := by decide +kernel
theorem d_RR_group_23 : decode y_RR_group.2.1 23 = .ok (.iconst 1, 1) := by decide +kernel
theorem d_RR_group_24 : decode y_RR_group.2.1 24 = .ok (.goto 4, 3) := by decide +kernel
theorem d_RR_group_28 : decode y_RR_group.2.1 28 = .ok (.istore_n 3, 1) := by decide +kernel
theorem d_RR_group_29 : decode y_RR_group.2.1 29 = .ok (.iload_n 1, 1) := by decide +kernel
theorem d_RR_group_30 : decode y_RR_group.2.1 30 = .ok (.tableswitch 204 19 42 #[186, 204, 204, 204, 204, 186, 204, 204, 204, 204, 204, 165, 165, 204, 204, 204, 204, 204, 204, 204, 204, 110, 126, 132], 110) := by decide +kernel
theorem d_RR_group_216 : decode y_RR_group.2.1 216 = .ok (.aload_n 0, 1) := by decide +kernel
theorem d_RR_group_217 : decode y_RR_group.2.1 217 = .ok (.invokevirtual 162, 3) := by decide +kernel
theorem d_RR_group_220 : decode y_RR_group.2.1 220 = .ok (.iload_n 2, 1) := by decide +kernel
theorem d_RR_group_221 : decode y_RR_group.2.1 221 = .ok (.if_icmp .ne 7, 3) := by decide +kernel
theorem d_RR_group_224 : decode y_RR_group.2.1 224 = .ok (.iconst 1, 1) := by decide +kernel
theorem d_RR_group_225 : decode y_RR_group.2.1 225 = .ok (.goto 4, 3) := by decide +kernel
theorem d_RR_group_228 : decode y_RR_group.2.1 228 = .ok (.iconst 0, 1) := by decide +kernel
theorem d_RR_group_229 : decode y_RR_group.2.1 229 = .ok (.istore 4, 2) := by decide +kernel
theorem d_RR_group_231 : decode y_RR_group.2.1 231 = .ok (.goto 21, 3) := by decide +kernel
theorem d_RR_group_195 : decode y_RR_group.2.1 195 = .ok (.aload_n 0, 1) := by decide +kernel
theorem d_RR_group_196 : decode y_RR_group.2.1 196 = .ok (.invokevirtual 162, 3) := by decide +kernel
theorem d_RR_group_199 : decode y_RR_group.2.1 199 = .ok (.ifCond .eq 11, 3) := by decide +kernel
theorem d_RR_group_210 : decode y_RR_group.2.1 210 = .ok (.iconst 0, 1) := by decide +kernel
theorem d_RR_group_202 : decode y_RR_group.2.1 202 = .ok (.iload_n 2, 1) := by decide +kernel
theorem d_RR_group_203 : decode y_RR_group.2.1 203 = .ok (.ifCond .eq 7, 3) := by decide +kernel
theorem d_RR_group_206 : decode y_RR_group.2.1 206 = .ok (.iconst 1, 1) := by decide +kernel
theorem d_RR_group_207 : decode y_RR_group.2.1 207 = .ok (.goto 4, 3) := by decide +kernel
theorem d_RR_group_211 : decode y_RR_group.2.1 211 = .ok (.istore 4, 2) := by decide +kernel
theorem d_RR_group_213 : decode y_RR_group.2.1 213 = .ok (.goto 39, 3) := by decide +kernel
theorem d_RR_group_140 : decode y_RR_group.2.1 140 = .ok (.iload_n 2, 1) := by decide +kernel
theorem d_RR_group_141 : decode y_RR_group.2.1 141 = .ok (.ifCond .ne 7, 3) := by decide +kernel
theorem d_RR_group_144 : decode y_RR_group.2.1 144 = .ok (.iconst 1, 1) := by decide +kernel
theorem d_RR_group_145 : decode y_RR_group.2.1 145 = .ok (.goto 4, 3) := by decide +kernel
theorem d_RR_group_148 : decode y_RR_group.2.1 148 = .ok (.iconst 0, 1) := by decide +kernel
theorem d_RR_group_149 : decode y_RR_group.2.1 149 = .ok (.istore 4, 2) := by decide +kernel
theorem d_RR_group_151 : decode y_RR_group.2.1 151 = .ok (.iconst 0, 1) := by decide +kernel
theorem d_RR_group_152 : decode y_RR_group.2.1 152 = .ok (.istore_n 3, 1) := by decide +kernel
theorem d_RR_group_153 : decode y_RR_group.2.1 153 = .ok (.goto 99, 3) := by decide +kernel
theorem d_RR_group_156 : decode y_RR_group.2.1 156 = .ok (.iload_n 2, 1) := by decide +kernel
theorem d_RR_group_157 : decode y_RR_group.2.1 157 = .ok (.istore 4, 2) := by decide +kernel
theorem d_RR_group_159 : decode y_RR_group.2.1 159 = .ok (.goto 93, 3) := by decide +kernel
theorem d_RR_group_162 : decode y_RR_group.2.1 162 = .ok (.aload_n 0, 1) := by decide +kernel
theorem d_RR_group_163 : decode y_RR_group.2.1 163 = .ok (.getfield 21, 3) := by decide +kernel
theorem d_RR_group_166 : decode y_RR_group.2.1 166 = .ok (.aload_n 0, 1) := by decide +kernel
theorem d_RR_group_167 : decode y_RR_group.2.1 167 = .ok (.getfield 87, 3) := by decide +kernel
theorem d_RR_group_170 : decode y_RR_group.2.1 170 = .ok (.iaload, 1) := by decide +kernel
theorem d_RR_group_171 : decode y_RR_group.2.1 171 = .ok (.iload_n 2, 1) := by decide +kernel
theorem d_RR_group_172 : decode y_RR_group.2.1 172 = .ok (.ifCond .eq 7, 3) := by decide +kernel
theorem d_RR_group_179 : decode y_RR_group.2.1 179 = .ok (.iconst 0, 1) := by decide +kernel
theorem d_RR_group_175 : decode y_RR_group.2.1 175 = .ok (.iconst 4, 1) := by decide +kernel
theorem d_RR_group_176 : decode y_RR_group.2.1 176 = .ok (.goto 4, 3) := by decide +kernel
theorem d_RR_group_180 : decode y_RR_group.2.1 180 = .ok (.if_icmp .ne 7, 3) := by decide +kernel
theorem d_RR_group_183 : decode y_RR_group.2.1 183 = .ok (.iconst 1, 1) := by decide +kernel
theorem d_RR_group_184 : decode y_RR_group.2.1 184 = .ok (.goto 4, 3) := by decide +kernel
theorem d_RR_group_187 : decode y_RR_group.2.1 187 = .ok (.iconst 0, 1) := by decide +kernel
theorem d_RR_group_188 : decode y_RR_group.2.1 188 = .ok (.istore 4, 2) := by decide +kernel
theorem d_RR_group_190 : decode y_RR_group.2.1 190 = .ok (.iload_n 2, 1) := by decide +kernel
theorem d_RR_group_191 : decode y_RR_group.2.1 191 = .ok (.istore_n 3, 1) := by decide +kernel
theorem d_RR_group_192 : decode y_RR_group.2.1 192 = .ok (.goto 60, 3) := by decide +kernel
theorem d_RR_group_234 : decode y_RR_group.2.1 234 = .ok (.aload_n 0, 1) := by decide +kernel
theorem d_RR_group_235 : decode y_RR_group.2.1 235 = .ok (.invokevirtual 162, 3) := by decide +kernel
theorem d_RR_group_238 : decode y_RR_group.2.1 238 = .ok (.ifCond .ne 11, 3) := by decide +kernel
theorem d_RR_group_241 : decode y_RR_group.2.1 241 = .ok (.iload_n 2, 1) := by decide +kernel
theorem d_RR_group_242 : decode y_RR_group.2.1 242 = .ok (.ifCond .ne 7, 3) := by decide +kernel
theorem d_RR_group_245 : decode y_RR_group.2.1 245 = .ok (.iconst 1, 1) := by decide +kernel
theorem d_RR_group_246 : decode y_RR_group.2.1 246 = .ok (.goto 4, 3) := by decide +kernel
theorem d_RR_group_249 : decode y_RR_group.2.1 249 = .ok (.iconst 0, 1) := by decide +kernel
theorem d_RR_group_250 : decode y_RR_group.2.1 250 = .ok (.istore 4, 2) := by decide +kernel
theorem d_RR_group_252 : decode y_RR_group.2.1 252 = .ok (.iload 4, 2) := by decide +kernel
theorem d_RR_group_254 : decode y_RR_group.2.1 254 = .ok (.ifCond .ne 17, 3) := by decide +kernel
theorem d_RR_group_257 : decode y_RR_group.2.1 257 = .ok (.aload_n 0, 1) := by decide +kernel
theorem d_RR_group_258 : decode y_RR_group.2.1 258 = .ok (.iconst 3, 1) := by decide +kernel
theorem d_RR_group_259 : decode y_RR_group.2.1 259 = .ok (.aload_n 0, 1) := by decide +kernel
theorem d_RR_group_260 : decode y_RR_group.2.1 260 = .ok (.getfield 15, 3) := by decide +kernel
theorem d_RR_group_263 : decode y_RR_group.2.1 263 = .ok (.aload_n 0, 1) := by decide +kernel
theorem d_RR_group_264 : decode y_RR_group.2.1 264 = .ok (.getfield 87, 3) := by decide +kernel
theorem d_RR_group_267 : decode y_RR_group.2.1 267 = .ok (.iaload, 1) := by decide +kernel
theorem d_RR_group_268 : decode y_RR_group.2.1 268 = .ok (.invokevirtual 114, 3) := by decide +kernel
theorem d_RR_group_271 : decode y_RR_group.2.1 271 = .ok (.aload_n 0, 1) := by decide +kernel
theorem d_RR_group_272 : decode y_RR_group.2.1 272 = .ok (.iload_n 3, 1) := by decide +kernel
theorem d_RR_group_273 : decode y_RR_group.2.1 273 = .ok (.invokevirtual 140, 3) := by decide +kernel
theorem d_RR_group_276 : decode y_RR_group.2.1 276 = .ok (.iload_n 1, 1) := by decide +kernel
theorem d_RR_group_277 : decode y_RR_group.2.1 277 = .ok (.bipush 40, 2) := by decide +kernel
theorem d_RR_group_279 : decode y_RR_group.2.1 279 = .ok (.if_icmp .eq 15, 3) := by decide +kernel
theorem d_RR_group_294 : decode y_RR_group.2.1 294 = .ok (.aload_n 0, 1) := by decide +kernel
theorem d_RR_group_295 : decode y_RR_group.2.1 295 = .ok (.dup, 1) := by decide +kernel
theorem d_RR_group_296 : decode y_RR_group.2.1 296 = .ok (.getfield 58, 3) := by decide +kernel
theorem d_RR_group_299 : decode y_RR_group.2.1 299 = .ok (.iconst 1, 1) := by decide +kernel
theorem d_RR_group_300 : decode y_RR_group.2.1 300 = .ok (.isub, 1) := by decide +kernel
theorem d_RR_group_301 : decode y_RR_group.2.1 301 = .ok (.putfield 58, 3) := by decide +kernel
theorem d_RR_group_282 : decode y_RR_group.2.1 282 = .ok (.iload_n 1, 1) := by decide +kernel
theorem d_RR_group_283 : decode y_RR_group.2.1 283 = .ok (.bipush 41, 2) := by decide +kernel
theorem d_RR_group_285 : decode y_RR_group.2.1 285 = .ok (.if_icmp .eq 9, 3) := by decide +kernel
theorem d_RR_group_288 : decode y_RR_group.2.1 288 = .ok (.iload_n 1, 1) := by decide +kernel
theorem d_RR_group_289 : decode y_RR_group.2.1 289 = .ok (.bipush 42, 2) := by decide +kernel
theorem d_RR_group_291 : decode y_RR_group.2.1 291 = .ok (.if_icmp .ne 13, 3) := by decide +kernel
theorem d_RR_group_304 : decode y_RR_group.2.1 304 = .ok (.aload_n 0, 1) := by decide +kernel
theorem d_RR_group_305 : decode y_RR_group.2.1 305 = .ok (.getfield 18, 3) := by decide +kernel
theorem d_RR_group_308 : decode y_RR_group.2.1 308 = .ok (.aload_n 0, 1) := by decide +kernel
theorem d_RR_group_309 : decode y_RR_group.2.1 309 = .ok (.getfield 87, 3) := by decide +kernel
theorem d_RR_group_312 : decode y_RR_group.2.1 312 = .ok (.iaload, 1) := by decide +kernel
theorem d_RR_group_313 : decode y_RR_group.2.1 313 = .ok (.iconst (-1), 1) := by decide +kernel
theorem d_RR_group_314 : decode y_RR_group.2.1 314 = .ok (.if_icmp .eq 30, 3) := by decide +kernel
theorem d_RR_group_344 : decode y_RR_group.2.1 344 = .ok (.aload_n 0, 1) := by decide +kernel
theorem d_RR_group_345 : decode y_RR_group.2.1 345 = .ok (.getfield 44, 3) := by decide +kernel
theorem d_RR_group_348 : decode y_RR_group.2.1 348 = .ok (.iload_n 1, 1) := by decide +kernel
theorem d_RR_group_349 : decode y_RR_group.2.1 349 = .ok (.aload_n 0, 1) := by decide +kernel
theorem d_RR_group_350 : decode y_RR_group.2.1 350 = .ok (.getfield 15, 3) := by decide +kernel
theorem d_RR_group_353 : decode y_RR_group.2.1 353 = .ok (.aload_n 0, 1) := by decide +kernel
theorem d_RR_group_354 : decode y_RR_group.2.1 354 = .ok (.getfield 87, 3) := by decide +kernel
theorem d_RR_group_357 : decode y_RR_group.2.1 357 = .ok (.iaload, 1) := by decide +kernel
theorem d_RR_group_317 : decode y_RR_group.2.1 317 = .ok (.aload_n 0, 1) := by decide +kernel
theorem d_RR_group_318 : decode y_RR_group.2.1 318 = .ok (.getfield 44, 3) := by decide +kernel
theorem d_RR_group_321 : decode y_RR_group.2.1 321 = .ok (.getfield 165, 3) := by decide +kernel
theorem d_RR_group_324 : decode y_RR_group.2.1 324 = .ok (.aload_n 0, 1) := by decide +kernel
theorem d_RR_group_325 : decode y_RR_group.2.1 325 = .ok (.getfield 18, 3) := by decide +kernel
theorem d_RR_group_328 : decode y_RR_group.2.1 328 = .ok (.aload_n 0, 1) := by decide +kernel
theorem d_RR_group_329 : decode y_RR_group.2.1 329 = .ok (.getfield 87, 3) := by decide +kernel
theorem d_RR_group_332 : decode y_RR_group.2.1 332 = .ok (.iaload, 1) := by decide +kernel
theorem d_RR_group_333 : decode y_RR_group.2.1 333 = .ok (.aload_n 0, 1) := by decide +kernel
theorem d_RR_group_334 : decode y_RR_group.2.1 334 = .ok (.getfield 44, 3) := by decide +kernel
theorem d_RR_group_337 : decode y_RR_group.2.1 337 = .ok (.getfield 168, 3) := by decide +kernel
theorem d_RR_group_340 : decode y_RR_group.2.1 340 = .ok (.iastore, 1) := by decide +kernel
theorem d_RR_group_341 : decode y_RR_group.2.1 341 = .ok (.goto 21, 3) := by decide +kernel
theorem d_RR_group_358 : decode y_RR_group.2.1 358 = .ok (.invokevirtual 135, 3) := by decide +kernel
theorem d_RR_group_361 : decode y_RR_group.2.1 361 = .ok (.pop, 1) := by decide +kernel
theorem d_RR_group_362 : decode y_RR_group.2.1 362 = .ok (.return_, 1) := by decide +kernel
def h_RR_group_252 (G : mG) (d : Nat) (a0 : Nat) (l1 : Int) (l3 : Int) (l4 : Int) (M : mM) (Q : mM → Prop) : Prop := mWm G y_RR_group (d + 1) 252 [vr a0, vi l1, vd, vi l3, vi l4] [] M (fun r9 M9 => r9 = none ∧ Q M9)
def h_RR_group_271 (G : mG) (d : Nat) (a0 : Nat) (l1 : Int) (l3 : Int) (M : mM) (Q : mM → Prop) : Prop := mWm G y_RR_group (d + 1) 271 [vr a0, vi l1, vd, vi l3, vd] [] M (fun r9 M9 => r9 = none ∧ Q M9)
def h_RR_group_362 (G : mG) (d : Nat) (M : mM) (Q : mM → Prop) : Prop := mWm G y_RR_group (d + 1) 362 [vd, vd, vd, vd, vd] [] M (fun r9 M9 => r9 = none ∧ Q M9)
theorem k_RR_group {G : mG} {d : Nat} {a0 : Nat} {M : mM} {Q : mM → Prop} (hO : mOk M)
    (h : mK M a0 = 4 ∧ mK M (mR M a0 8) = 30 ∧ ((0 : Int) ≤ mI M a0 12 ∧ mI M a0 12 < (mN M (mR M a0 8) : Int)) ∧ Ci G y_RR_popKind d [vr a0] M (fun x5 M4 => i32 x5 ∧ mOk M4 ∧ (Ci G y_RR_level d [vi (mI M (mR M a0 8) (Int.toNat (mI M a0 12)))] M4 (fun x8 M7 => i32 x8 ∧ mOk M7 ∧ (∀ v11 : Int, v11 = (if (4 < x8) then 0 else 1) → ((mI M (mR M a0 8) (Int.toNat (mI M a0 12)) = 19 ∨ mI M (mR M a0 8) (Int.toNat (mI M a0 12)) = 24) → (mK M7 a0 = 4 ∧ Ci G y_RR_popKind d [vr a0] M7 (fun x21 M20 => i32 x21 ∧ mOk M20 ∧ (∀ v24 : Int, v24 = (if (x21 = x5) then 1 else 0) → h_RR_group_252 G d a0 (mI M (mR M a0 8) (Int.toNat (mI M a0 12))) v11 v24 M20 Q)))) ∧ (¬ (mI M (mR M a0 8) (Int.toNat (mI M a0 12)) = 19 ∨ mI M (mR M a0 8) (Int.toNat (mI M a0 12)) = 24) → (((mI M (mR M a0 8) (Int.toNat (mI M a0 12)) = 30 ∨ mI M (mR M a0 8) (Int.toNat (mI M a0 12)) = 31) → (mK M7 a0 = 4 ∧ Ci G y_RR_popKind d [vr a0] M7 (fun x34 M33 => i32 x34 ∧ mOk M33 ∧ (∀ v38 : Int, v38 = (if ((x34 = 0) ∨ (x5 = 0)) then 0 else 1) → h_RR_group_252 G d a0 (mI M (mR M a0 8) (Int.toNat (mI M a0 12))) v11 v38 M33 Q)))) ∧ (¬ (mI M (mR M a0 8) (Int.toNat (mI M a0 12)) = 30 ∨ mI M (mR M a0 8) (Int.toNat (mI M a0 12)) = 31) → (((mI M (mR M a0 8) (Int.toNat (mI M a0 12)) = 40) → (∀ v48 : Int, v48 = (if (x5 = 0) then 1 else 0) → h_RR_group_252 G d a0 (mI M (mR M a0 8) (Int.toNat (mI M a0 12))) 0 v48 M7 Q)) ∧ (¬ (mI M (mR M a0 8) (Int.toNat (mI M a0 12)) = 40) → (((mI M (mR M a0 8) (Int.toNat (mI M a0 12)) = 41) → (h_RR_group_252 G d a0 (mI M (mR M a0 8) (Int.toNat (mI M a0 12))) v11 x5 M7 Q)) ∧ (¬ (mI M (mR M a0 8) (Int.toNat (mI M a0 12)) = 41) → (((mI M (mR M a0 8) (Int.toNat (mI M a0 12)) = 42) → (mK M7 a0 = 4 ∧ mK M7 (mR M7 a0 11) = 30 ∧ ((0 : Int) ≤ mI M7 a0 12 ∧ mI M7 a0 12 < (mN M7 (mR M7 a0 11) : Int)) ∧ ∀ v62 : Int, v62 = (if (x5 = 0) then 0 else 4) → ∀ v67 : Int, v67 = (if (mI M7 (mR M7 a0 11) (Int.toNat (mI M7 a0 12)) = v62) then 1 else 0) → h_RR_group_252 G d a0 (mI M (mR M a0 8) (Int.toNat (mI M a0 12))) x5 v67 M7 Q)) ∧ (¬ (mI M (mR M a0 8) (Int.toNat (mI M a0 12)) = 42) → (mK M7 a0 = 4 ∧ Ci G y_RR_popKind d [vr a0] M7 (fun x76 M75 => i32 x76 ∧ mOk M75 ∧ (∀ v80 : Int, v80 = (if ((x76 = 0) ∧ (x5 = 0)) then 1 else 0) → h_RR_group_252 G d a0 (mI M (mR M a0 8) (Int.toNat (mI M a0 12))) v11 v80 M75 Q))))))))))))))))) :
    Cv G y_RR_group (d + 1) [vr a0] M Q := by
  refine wm_open (y := y_RR_group) rfl (Nat.le_of_ble_eq_true rfl) (L := [vr a0, vd, vd, vd, vd]) rfl ?_
  obtain ⟨h1, h⟩ := h
  obtain ⟨h2, h⟩ := h
  obtain ⟨h3, h⟩ := h
  refine wm_aload_n d_RR_group_0 rfl rfl ?_
  refine gf_RR_11 rfl d_RR_group_1 h1 ?_
  refine wm_aload_n d_RR_group_4 rfl rfl ?_
  refine gf_RR_87 rfl d_RR_group_5 h1 ?_
  refine wm_iald d_RR_group_8 h2 h3 ?_
  refine wm_istore_n d_RR_group_9 rfl (by decide) (L' := [vr a0, vi (mI M (mR M a0 8) (Int.toNat (mI M a0 12))), vd, vd, vd]) rfl ?_
  refine wm_aload_n d_RR_group_10 rfl rfl ?_
  refine cf_RR_162 rfl d_RR_group_11 h1 (Nat.le_of_ble_eq_true rfl) (Ci.mono h (fun x5 M4 h => ?_))
  obtain ⟨h6, hOM4, h⟩ := h
  refine wm_istore_n d_RR_group_14 rfl (by decide) (L' := [vr a0, vi (mI M (mR M a0 8) (Int.toNat (mI M a0 12))), vi x5, vd, vd]) rfl ?_
  refine wm_iload_n d_RR_group_15 rfl rfl ?_
  refine cf_RR_132 rfl d_RR_group_16 (Nat.le_of_ble_eq_true rfl) (Ci.mono h (fun x8 M7 h => ?_))
  obtain ⟨h9, hOM7, h⟩ := h
  refine wm_iconst d_RR_group_19 ?_
  have hJ : ∀ v11 : Int, v11 = (if (4 < x8) then 0 else 1) → mWm G y_RR_group (d + 1) 28 [vr a0, vi (mI M (mR M a0 8) (Int.toNat (mI M a0 12))), vi x5, vd, vd] [vi v11] M7 (fun r9 M9 => r9 = none ∧ Q M9) := by
    intro v11 e13
    have h := h v11 e13
    have h14 : i32 v11 := by rw [e13]; (repeat' split) <;> first | exact ⟨by decide, by decide⟩ | exact ⟨by decide, by decide⟩
    have h15 : (v11 = 0 ∨ v11 = 1) := by rw [e13]; (repeat' split) <;> decide
    refine wm_istore_n d_RR_group_28 rfl (by decide) (L' := [vr a0, vi (mI M (mR M a0 8) (Int.toNat (mI M a0 12))), vi x5, vi v11, vd]) rfl ?_
    refine wm_iload_n d_RR_group_29 rfl rfl ?_
    by_cases c18 : mI M (mR M a0 8) (Int.toNat (mI M a0 12)) = 19 ∨ mI M (mR M a0 8) (Int.toNat (mI M a0 12)) = 24
    · replace h := h.1 c18
      refine wm_tableIn (tgt := 216) (off := 186) d_RR_group_30 (hO _ _).1 (by omega) (by omega) (by rcases c18 with q9 | q9 <;> (rw [q9]; rfl)) rfl ?_
      obtain ⟨h19, h⟩ := h
      refine wm_aload_n d_RR_group_216 rfl rfl ?_
      refine cf_RR_162 rfl d_RR_group_217 h19 (Nat.le_of_ble_eq_true rfl) (Ci.mono h (fun x21 M20 h => ?_))
      obtain ⟨h22, hOM20, h⟩ := h
      refine wm_iload_n d_RR_group_220 rfl rfl ?_
      have hJ : ∀ v24 : Int, v24 = (if (x21 = x5) then 1 else 0) → mWm G y_RR_group (d + 1) 229 [vr a0, vi (mI M (mR M a0 8) (Int.toNat (mI M a0 12))), vd, vi v11, vd] [vi v24] M20 (fun r9 M9 => r9 = none ∧ Q M9) := by
        intro v24 e26
        have h := h v24 e26
        have h27 : i32 v24 := by rw [e26]; (repeat' split) <;> first | exact ⟨by decide, by decide⟩ | exact ⟨by decide, by decide⟩
        have h28 : (v24 = 0 ∨ v24 = 1) := by rw [e26]; (repeat' split) <;> decide
        refine wm_istore d_RR_group_229 (by decide) (L' := [vr a0, vi (mI M (mR M a0 8) (Int.toNat (mI M a0 12))), vd, vi v11, vi v24]) rfl ?_
        refine wm_goto (tgt := 252) d_RR_group_231 rfl ?_
        exact h
      clear h
      refine wm_icmp_ne (tgt := 228) d_RR_group_221 rfl h22 h6 (fun c23 => ?_) (fun c23 => ?_)
      · refine wm_iconst d_RR_group_228 ?_
        refine wm_less (L' := [vr a0, vi (mI M (mR M a0 8) (Int.toNat (mI M a0 12))), vd, vi v11, vd]) ⟨Or.inr rfl, Or.inr rfl, Or.inl rfl, Or.inr rfl, Or.inl rfl, trivial⟩ ?_
        exact hJ 0 (if_neg c23).symm
      · replace c23 := Classical.not_not.mp c23
        refine wm_iconst d_RR_group_224 ?_
        refine wm_goto (tgt := 229) d_RR_group_225 rfl ?_
        refine wm_less (L' := [vr a0, vi (mI M (mR M a0 8) (Int.toNat (mI M a0 12))), vd, vi v11, vd]) ⟨Or.inr rfl, Or.inr rfl, Or.inl rfl, Or.inr rfl, Or.inl rfl, trivial⟩ ?_
        exact hJ 1 (if_pos c23).symm
    · replace h := h.2 c18
      by_cases c31 : mI M (mR M a0 8) (Int.toNat (mI M a0 12)) = 30 ∨ mI M (mR M a0 8) (Int.toNat (mI M a0 12)) = 31
      · replace h := h.1 c31
        refine wm_tableIn (tgt := 195) (off := 165) d_RR_group_30 (hO _ _).1 (by omega) (by omega) (by rcases c31 with q9 | q9 <;> (rw [q9]; rfl)) rfl ?_
        obtain ⟨h32, h⟩ := h
        refine wm_aload_n d_RR_group_195 rfl rfl ?_
        refine cf_RR_162 rfl d_RR_group_196 h32 (Nat.le_of_ble_eq_true rfl) (Ci.mono h (fun x34 M33 h => ?_))
        obtain ⟨h35, hOM33, h⟩ := h
        have hJ : ∀ v38 : Int, v38 = (if ((x34 = 0) ∨ (x5 = 0)) then 0 else 1) → mWm G y_RR_group (d + 1) 211 [vr a0, vi (mI M (mR M a0 8) (Int.toNat (mI M a0 12))), vd, vi v11, vd] [vi v38] M33 (fun r9 M9 => r9 = none ∧ Q M9) := by
          intro v38 e40
          have h := h v38 e40
          have h41 : i32 v38 := by rw [e40]; (repeat' split) <;> first | exact ⟨by decide, by decide⟩ | exact ⟨by decide, by decide⟩
          have h42 : (v38 = 0 ∨ v38 = 1) := by rw [e40]; (repeat' split) <;> decide
          refine wm_istore d_RR_group_211 (by decide) (L' := [vr a0, vi (mI M (mR M a0 8) (Int.toNat (mI M a0 12))), vd, vi v11, vi v38]) rfl ?_
          refine wm_goto (tgt := 252) d_RR_group_213 rfl ?_
          exact h
        clear h
        refine wm_if_eq (tgt := 210) d_RR_group_199 rfl h35 (fun c36 => ?_) (fun c36 => ?_)
        · refine wm_iconst d_RR_group_210 ?_
          refine wm_less (L' := [vr a0, vi (mI M (mR M a0 8) (Int.toNat (mI M a0 12))), vd, vi v11, vd]) ⟨Or.inr rfl, Or.inr rfl, Or.inl rfl, Or.inr rfl, Or.inl rfl, trivial⟩ ?_
          exact hJ 0 (if_pos (Or.inl c36)).symm
        · refine wm_iload_n d_RR_group_202 rfl rfl ?_
          refine wm_if_eq (tgt := 210) d_RR_group_203 rfl h6 (fun c37 => ?_) (fun c37 => ?_)
          · refine wm_iconst d_RR_group_210 ?_
            refine wm_less (L' := [vr a0, vi (mI M (mR M a0 8) (Int.toNat (mI M a0 12))), vd, vi v11, vd]) ⟨Or.inr rfl, Or.inr rfl, Or.inl rfl, Or.inr rfl, Or.inl rfl, trivial⟩ ?_
            exact hJ 0 (if_pos (Or.inr c37)).symm
          · refine wm_iconst d_RR_group_206 ?_
            refine wm_goto (tgt := 211) d_RR_group_207 rfl ?_
            refine wm_less (L' := [vr a0, vi (mI M (mR M a0 8) (Int.toNat (mI M a0 12))), vd, vi v11, vd]) ⟨Or.inr rfl, Or.inr rfl, Or.inl rfl, Or.inr rfl, Or.inl rfl, trivial⟩ ?_
            exact hJ 1 (if_neg (fun z43 => Or.elim z43 c36 c37)).symm
      · replace h := h.2 c31
        by_cases c46 : mI M (mR M a0 8) (Int.toNat (mI M a0 12)) = 40
        · replace h := h.1 c46
          refine wm_tableIn (tgt := 140) (off := 110) d_RR_group_30 (hO _ _).1 (by omega) (by omega) (by rw [c46]; rfl) rfl ?_
          refine wm_iload_n d_RR_group_140 rfl rfl ?_
          have hJ : ∀ v48 : Int, v48 = (if (x5 = 0) then 1 else 0) → mWm G y_RR_group (d + 1) 149 [vr a0, vi (mI M (mR M a0 8) (Int.toNat (mI M a0 12))), vd, vd, vd] [vi v48] M7 (fun r9 M9 => r9 = none ∧ Q M9) := by
            intro v48 e50
            have h := h v48 e50
            have h51 : i32 v48 := by rw [e50]; (repeat' split) <;> first | exact ⟨by decide, by decide⟩ | exact ⟨by decide, by decide⟩
            have h52 : (v48 = 0 ∨ v48 = 1) := by rw [e50]; (repeat' split) <;> decide
            refine wm_istore d_RR_group_149 (by decide) (L' := [vr a0, vi (mI M (mR M a0 8) (Int.toNat (mI M a0 12))), vd, vd, vi v48]) rfl ?_
            refine wm_iconst d_RR_group_151 ?_
            refine wm_istore_n d_RR_group_152 rfl (by decide) (L' := [vr a0, vi (mI M (mR M a0 8) (Int.toNat (mI M a0 12))), vd, vi 0, vi v48]) rfl ?_
            refine wm_goto (tgt := 252) d_RR_group_153 rfl ?_
            exact h
          clear h
          refine wm_if_ne (tgt := 148) d_RR_group_141 rfl h6 (fun c47 => ?_) (fun c47 => ?_)
          · refine wm_iconst d_RR_group_148 ?_
            refine wm_less (L' := [vr a0, vi (mI M (mR M a0 8) (Int.toNat (mI M a0 12))), vd, vd, vd]) ⟨Or.inr rfl, Or.inr rfl, Or.inl rfl, Or.inl rfl, Or.inl rfl, trivial⟩ ?_
            exact hJ 0 (if_neg c47).symm
          · replace c47 := Classical.not_not.mp c47
            refine wm_iconst d_RR_group_144 ?_
            refine wm_goto (tgt := 149) d_RR_group_145 rfl ?_
            refine wm_less (L' := [vr a0, vi (mI M (mR M a0 8) (Int.toNat (mI M a0 12))), vd, vd, vd]) ⟨Or.inr rfl, Or.inr rfl, Or.inl rfl, Or.inl rfl, Or.inl rfl, trivial⟩ ?_
            exact hJ 1 (if_pos c47).symm
        · replace h := h.2 c46
          by_cases c55 : mI M (mR M a0 8) (Int.toNat (mI M a0 12)) = 41
          · replace h := h.1 c55
            refine wm_tableIn (tgt := 156) (off := 126) d_RR_group_30 (hO _ _).1 (by omega) (by omega) (by rw [c55]; rfl) rfl ?_
            refine wm_iload_n d_RR_group_156 rfl rfl ?_
            refine wm_istore d_RR_group_157 (by decide) (L' := [vr a0, vi (mI M (mR M a0 8) (Int.toNat (mI M a0 12))), vi x5, vi v11, vi x5]) rfl ?_
            refine wm_goto (tgt := 252) d_RR_group_159 rfl ?_
            refine wm_less (L' := [vr a0, vi (mI M (mR M a0 8) (Int.toNat (mI M a0 12))), vd, vi v11, vi x5]) ⟨Or.inr rfl, Or.inr rfl, Or.inl rfl, Or.inr rfl, Or.inr rfl, trivial⟩ ?_
            exact h
          · replace h := h.2 c55
            by_cases c57 : mI M (mR M a0 8) (Int.toNat (mI M a0 12)) = 42
            · replace h := h.1 c57
              refine wm_tableIn (tgt := 162) (off := 132) d_RR_group_30 (hO _ _).1 (by omega) (by omega) (by rw [c57]; rfl) rfl ?_
              obtain ⟨h58, h⟩ := h
              obtain ⟨h59, h⟩ := h
              obtain ⟨h60, h⟩ := h
              refine wm_aload_n d_RR_group_162 rfl rfl ?_
              refine gf_RR_21 rfl d_RR_group_163 h58 ?_
              refine wm_aload_n d_RR_group_166 rfl rfl ?_
              refine gf_RR_87 rfl d_RR_group_167 h58 ?_
              refine wm_iald d_RR_group_170 h59 h60 ?_
              refine wm_iload_n d_RR_group_171 rfl rfl ?_
              have hJ : ∀ v62 : Int, v62 = (if (x5 = 0) then 0 else 4) → mWm G y_RR_group (d + 1) 180 [vr a0, vi (mI M (mR M a0 8) (Int.toNat (mI M a0 12))), vi x5, vd, vd] [vi v62, vi (mI M7 (mR M7 a0 11) (Int.toNat (mI M7 a0 12)))] M7 (fun r9 M9 => r9 = none ∧ Q M9) := by
                intro v62 e64
                have h := h v62 e64
                have h65 : i32 v62 := by rw [e64]; (repeat' split) <;> first | exact ⟨by decide, by decide⟩ | exact ⟨by decide, by decide⟩
                have hJ : ∀ v67 : Int, v67 = (if (mI M7 (mR M7 a0 11) (Int.toNat (mI M7 a0 12)) = v62) then 1 else 0) → mWm G y_RR_group (d + 1) 188 [vr a0, vi (mI M (mR M a0 8) (Int.toNat (mI M a0 12))), vi x5, vd, vd] [vi v67] M7 (fun r9 M9 => r9 = none ∧ Q M9) := by
                  intro v67 e69
                  have h := h v67 e69
                  have h70 : i32 v67 := by rw [e69]; (repeat' split) <;> first | exact ⟨by decide, by decide⟩ | exact ⟨by decide, by decide⟩
                  have h71 : (v67 = 0 ∨ v67 = 1) := by rw [e69]; (repeat' split) <;> decide
                  refine wm_istore d_RR_group_188 (by decide) (L' := [vr a0, vi (mI M (mR M a0 8) (Int.toNat (mI M a0 12))), vi x5, vd, vi v67]) rfl ?_
                  refine wm_iload_n d_RR_group_190 rfl rfl ?_
                  refine wm_istore_n d_RR_group_191 rfl (by decide) (L' := [vr a0, vi (mI M (mR M a0 8) (Int.toNat (mI M a0 12))), vi x5, vi x5, vi v67]) rfl ?_
                  refine wm_goto (tgt := 252) d_RR_group_192 rfl ?_
                  refine wm_less (L' := [vr a0, vi (mI M (mR M a0 8) (Int.toNat (mI M a0 12))), vd, vi x5, vi v67]) ⟨Or.inr rfl, Or.inr rfl, Or.inl rfl, Or.inr rfl, Or.inr rfl, trivial⟩ ?_
                  exact h
                clear h
                refine wm_icmp_ne (tgt := 187) d_RR_group_180 rfl (hOM7 _ _).1 h65 (fun c66 => ?_) (fun c66 => ?_)
                · refine wm_iconst d_RR_group_187 ?_
                  exact hJ 0 (if_neg c66).symm
                · replace c66 := Classical.not_not.mp c66
                  refine wm_iconst d_RR_group_183 ?_
                  refine wm_goto (tgt := 188) d_RR_group_184 rfl ?_
                  exact hJ 1 (if_pos c66).symm
              clear h
              refine wm_if_eq (tgt := 179) d_RR_group_172 rfl h6 (fun c61 => ?_) (fun c61 => ?_)
              · refine wm_iconst d_RR_group_179 ?_
                refine wm_less (L' := [vr a0, vi (mI M (mR M a0 8) (Int.toNat (mI M a0 12))), vi x5, vd, vd]) ⟨Or.inr rfl, Or.inr rfl, Or.inr rfl, Or.inl rfl, Or.inl rfl, trivial⟩ ?_
                exact hJ 0 (if_pos c61).symm
              · refine wm_iconst d_RR_group_175 ?_
                refine wm_goto (tgt := 180) d_RR_group_176 rfl ?_
                refine wm_less (L' := [vr a0, vi (mI M (mR M a0 8) (Int.toNat (mI M a0 12))), vi x5, vd, vd]) ⟨Or.inr rfl, Or.inr rfl, Or.inr rfl, Or.inl rfl, Or.inl rfl, trivial⟩ ?_
                exact hJ 4 (if_neg c61).symm
            · replace h := h.2 c57
              refine wm_tableD (tgt := 234) (off := 204) d_RR_group_30 (hO _ _).1 (by first | (left; omega) | (right; exact ⟨by omega, by omega, by (have q9 : mI M (mR M a0 8) (Int.toNat (mI M a0 12)) = 20 ∨ mI M (mR M a0 8) (Int.toNat (mI M a0 12)) = 21 ∨ mI M (mR M a0 8) (Int.toNat (mI M a0 12)) = 22 ∨ mI M (mR M a0 8) (Int.toNat (mI M a0 12)) = 23 ∨ mI M (mR M a0 8) (Int.toNat (mI M a0 12)) = 25 ∨ mI M (mR M a0 8) (Int.toNat (mI M a0 12)) = 26 ∨ mI M (mR M a0 8) (Int.toNat (mI M a0 12)) = 27 ∨ mI M (mR M a0 8) (Int.toNat (mI M a0 12)) = 28 ∨ mI M (mR M a0 8) (Int.toNat (mI M a0 12)) = 29 ∨ mI M (mR M a0 8) (Int.toNat (mI M a0 12)) = 32 ∨ mI M (mR M a0 8) (Int.toNat (mI M a0 12)) = 33 ∨ mI M (mR M a0 8) (Int.toNat (mI M a0 12)) = 34 ∨ mI M (mR M a0 8) (Int.toNat (mI M a0 12)) = 35 ∨ mI M (mR M a0 8) (Int.toNat (mI M a0 12)) = 36 ∨ mI M (mR M a0 8) (Int.toNat (mI M a0 12)) = 37 ∨ mI M (mR M a0 8) (Int.toNat (mI M a0 12)) = 38 ∨ mI M (mR M a0 8) (Int.toNat (mI M a0 12)) = 39 := by omega); rcases q9 with q9 | q9 | q9 | q9 | q9 | q9 | q9 | q9 | q9 | q9 | q9 | q9 | q9 | q9 | q9 | q9 | q9 <;> (rw [q9]; rfl)⟩)) rfl ?_
              obtain ⟨h74, h⟩ := h
              refine wm_aload_n d_RR_group_234 rfl rfl ?_
              refine cf_RR_162 rfl d_RR_group_235 h74 (Nat.le_of_ble_eq_true rfl) (Ci.mono h (fun x76 M75 h => ?_))
              obtain ⟨h77, hOM75, h⟩ := h
              have hJ : ∀ v80 : Int, v80 = (if ((x76 = 0) ∧ (x5 = 0)) then 1 else 0) → mWm G y_RR_group (d + 1) 250 [vr a0, vi (mI M (mR M a0 8) (Int.toNat (mI M a0 12))), vd, vi v11, vd] [vi v80] M75 (fun r9 M9 => r9 = none ∧ Q M9) := by
                intro v80 e82
                have h := h v80 e82
                have h83 : i32 v80 := by rw [e82]; (repeat' split) <;> first | exact ⟨by decide, by decide⟩ | exact ⟨by decide, by decide⟩
                have h84 : (v80 = 0 ∨ v80 = 1) := by rw [e82]; (repeat' split) <;> decide
                refine wm_istore d_RR_group_250 (by decide) (L' := [vr a0, vi (mI M (mR M a0 8) (Int.toNat (mI M a0 12))), vd, vi v11, vi v80]) rfl ?_
                exact h
              clear h
              refine wm_if_ne (tgt := 249) d_RR_group_238 rfl h77 (fun c78 => ?_) (fun c78 => ?_)
              · refine wm_iconst d_RR_group_249 ?_
                refine wm_less (L' := [vr a0, vi (mI M (mR M a0 8) (Int.toNat (mI M a0 12))), vd, vi v11, vd]) ⟨Or.inr rfl, Or.inr rfl, Or.inl rfl, Or.inr rfl, Or.inl rfl, trivial⟩ ?_
                exact hJ 0 (if_neg (fun z87 => c78 z87.1)).symm
              · replace c78 := Classical.not_not.mp c78
                refine wm_iload_n d_RR_group_241 rfl rfl ?_
                refine wm_if_ne (tgt := 249) d_RR_group_242 rfl h6 (fun c79 => ?_) (fun c79 => ?_)
                · refine wm_iconst d_RR_group_249 ?_
                  refine wm_less (L' := [vr a0, vi (mI M (mR M a0 8) (Int.toNat (mI M a0 12))), vd, vi v11, vd]) ⟨Or.inr rfl, Or.inr rfl, Or.inl rfl, Or.inr rfl, Or.inl rfl, trivial⟩ ?_
                  exact hJ 0 (if_neg (fun z85 => c79 z85.2)).symm
                · replace c79 := Classical.not_not.mp c79
                  refine wm_iconst d_RR_group_245 ?_
                  refine wm_goto (tgt := 250) d_RR_group_246 rfl ?_
                  refine wm_less (L' := [vr a0, vi (mI M (mR M a0 8) (Int.toNat (mI M a0 12))), vd, vi v11, vd]) ⟨Or.inr rfl, Or.inr rfl, Or.inl rfl, Or.inr rfl, Or.inl rfl, trivial⟩ ?_
                  exact hJ 1 (if_pos ⟨c78, c79⟩).symm
  clear h
  refine wm_icmp_gt (tgt := 27) d_RR_group_20 rfl h9 ⟨by decide, by decide⟩ (fun c10 => ?_) (fun c10 => ?_)
  · refine wm_iconst d_RR_group_27 ?_
    exact hJ 0 (if_pos c10).symm
  · refine wm_iconst d_RR_group_23 ?_
    refine wm_goto (tgt := 28) d_RR_group_24 rfl ?_
    exact hJ 1 (if_neg c10).symm
theorem k_RR_group_252 {G : mG} {d : Nat} {a0 : Nat} {l1 : Int} {l3 : Int} {l4 : Int} {M : mM} {Q : mM → Prop} (hO : mOk M) (hi_l1 : i32 l1) (hi_l3 : i32 l3) (hi_l4 : i32 l4)
    (h : ((l4 = 0) → (mK M a0 = 4 ∧ mK M (mR M a0 9) = 30 ∧ ((0 : Int) ≤ mI M a0 12 ∧ mI M a0 12 < (mN M (mR M a0 9) : Int)) ∧ Cv G y_RR_note d [vr a0, vi 3, vi (mI M (mR M a0 9) (Int.toNat (mI M a0 12)))] M (fun M94 => mOk M94 ∧ (h_RR_group_271 G d a0 l1 l3 M94 Q)))) ∧ (¬ (l4 = 0) → (h_RR_group_271 G d a0 l1 l3 M Q))) :
    h_RR_group_252 G d a0 l1 l3 l4 M Q := by
  unfold h_RR_group_252
  refine wm_iload d_RR_group_252 rfl ?_
  refine wm_if_ne (tgt := 271) d_RR_group_254 rfl hi_l4 (fun c90 => ?_) (fun c90 => ?_)
  · replace h := h.2 c90
    refine wm_less (L' := [vr a0, vi l1, vd, vi l3, vd]) ⟨Or.inr rfl, Or.inr rfl, Or.inl rfl, Or.inr rfl, Or.inl rfl, trivial⟩ ?_
    exact h
  · replace c90 := Classical.not_not.mp c90
    replace h := h.1 c90
    obtain ⟨h91, h⟩ := h
    obtain ⟨h92, h⟩ := h
    obtain ⟨h93, h⟩ := h
    refine wm_aload_n d_RR_group_257 rfl rfl ?_
    refine wm_iconst d_RR_group_258 ?_
    refine wm_aload_n d_RR_group_259 rfl rfl ?_
    refine gf_RR_15 rfl d_RR_group_260 h91 ?_
    refine wm_aload_n d_RR_group_263 rfl rfl ?_
    refine gf_RR_87 rfl d_RR_group_264 h91 ?_
    refine wm_iald d_RR_group_267 h92 h93 ?_
    refine cf_RR_114 rfl d_RR_group_268 h91 (Nat.le_of_ble_eq_true rfl) (Cv.mono h (fun M94 h => ?_))
    obtain ⟨hOM94, h⟩ := h
    refine wm_less (L' := [vr a0, vi l1, vd, vi l3, vd]) ⟨Or.inr rfl, Or.inr rfl, Or.inl rfl, Or.inr rfl, Or.inl rfl, trivial⟩ ?_
    exact h
theorem k_RR_group_271 {G : mG} {d : Nat} {a0 : Nat} {l1 : Int} {l3 : Int} {M : mM} {Q : mM → Prop} (hO : mOk M) (hi_l1 : i32 l1) (hi_l3 : i32 l3)
    (h : mK M a0 = 4 ∧ Cv G y_RR_pushKind d [vr a0, vi l3] M (fun M98 => mOk M98 ∧ ((((l1 = 40) → (mK M98 a0 = 4 ∧ i32 ((mI M98 a0 5) - 1))) ∧ (¬ (l1 = 40) → (((l1 = 41) → (mK M98 a0 = 4 ∧ i32 ((mI M98 a0 5) - 1))) ∧ (¬ (l1 = 41) → ((l1 = 42) → (mK M98 a0 = 4 ∧ i32 ((mI M98 a0 5) - 1))))))) ∧ ∀ M110 : mM, M110 = (if ((l1 = 40) ∨ ((l1 = 41) ∨ (l1 = 42))) then (mUI M98 a0 5 ((mI M98 a0 5) - 1)) else M98) → mOk M110 ∧ mK M110 a0 = 4 ∧ mK M110 (mR M110 a0 10) = 30 ∧ ((0 : Int) ≤ mI M110 a0 12 ∧ mI M110 a0 12 < (mN M110 (mR M110 a0 10) : Int)) ∧ ((mI M110 (mR M110 a0 10) (Int.toNat (mI M110 a0 12)) = (-1)) → (mK M110 (mR M110 a0 9) = 30 ∧ ((0 : Int) ≤ mI M110 a0 12 ∧ mI M110 a0 12 < (mN M110 (mR M110 a0 9) : Int)) ∧ mK M110 (mR M110 a0 1) = 6 ∧ Ci G y_Pr_add d [vr (mR M110 a0 1), vi l1, vi (mI M110 (mR M110 a0 9) (Int.toNat (mI M110 a0 12)))] M110 (fun x127 M126 => i32 x127 ∧ mOk M126 ∧ (h_RR_group_362 G d  M126 Q)))) ∧ (¬ (mI M110 (mR M110 a0 10) (Int.toNat (mI M110 a0 12)) = (-1)) → (mK M110 (mR M110 a0 1) = 6 ∧ ((0 : Int) ≤ mI M110 a0 12 ∧ mI M110 a0 12 < (mN M110 (mR M110 a0 10) : Int)) ∧ mK M110 (mR M110 (mR M110 a0 1) 1) = 30 ∧ ((0 : Int) ≤ mI M110 (mR M110 a0 10) (Int.toNat (mI M110 a0 12)) ∧ mI M110 (mR M110 a0 10) (Int.toNat (mI M110 a0 12)) < (mN M110 (mR M110 (mR M110 a0 1) 1) : Int)) ∧ ∀ M133, M133 = mUI M110 (mR M110 (mR M110 a0 1) 1) (Int.toNat (mI M110 (mR M110 a0 10) (Int.toNat (mI M110 a0 12)))) (mI M110 (mR M110 a0 1) 2) → h_RR_group_362 G d  M133 Q))))) :
    h_RR_group_271 G d a0 l1 l3 M Q := by
  unfold h_RR_group_271
  obtain ⟨h97, h⟩ := h
  refine wm_aload_n d_RR_group_271 rfl rfl ?_
  refine wm_iload_n d_RR_group_272 rfl rfl ?_
  refine cf_RR_140 rfl d_RR_group_273 h97 (Nat.le_of_ble_eq_true rfl) (Cv.mono h (fun M98 h => ?_))
  obtain ⟨hOM98, h⟩ := h
  refine wm_iload_n d_RR_group_276 rfl rfl ?_
  refine wm_bipush d_RR_group_277 (by decide) ?_
  obtain ⟨s111, h⟩ := h
  have hJ : ∀ M110 : mM, M110 = (if ((l1 = 40) ∨ ((l1 = 41) ∨ (l1 = 42))) then (mUI M98 a0 5 ((mI M98 a0 5) - 1)) else M98) → mWm G y_RR_group (d + 1) 304 [vr a0, vi l1, vd, vd, vd] [] M110 (fun r9 M9 => r9 = none ∧ Q M9) := by
    intro M110 e112
    have h := h M110 e112
    have h113 : mK M110 = mK M98 := by rw [e112]; (repeat' split) <;> rfl
    obtain ⟨hOM110, h⟩ := h
    obtain ⟨h114, h⟩ := h
    obtain ⟨h115, h⟩ := h
    obtain ⟨h116, h⟩ := h
    refine wm_aload_n d_RR_group_304 rfl rfl ?_
    refine gf_RR_18 rfl d_RR_group_305 h114 ?_
    refine wm_aload_n d_RR_group_308 rfl rfl ?_
    refine gf_RR_87 rfl d_RR_group_309 h114 ?_
    refine wm_iald d_RR_group_312 h115 h116 ?_
    refine wm_iconst d_RR_group_313 ?_
    refine wm_icmp_eq (tgt := 344) d_RR_group_314 rfl (hOM110 _ _).1 ⟨by decide, by decide⟩ (fun c122 => ?_) (fun c122 => ?_)
    · replace h := h.1 c122
      obtain ⟨h123, h⟩ := h
      obtain ⟨h124, h⟩ := h
      obtain ⟨h125, h⟩ := h
      refine wm_aload_n d_RR_group_344 rfl rfl ?_
      refine gf_RR_44 rfl d_RR_group_345 h114 ?_
      refine wm_iload_n d_RR_group_348 rfl rfl ?_
      refine wm_aload_n d_RR_group_349 rfl rfl ?_
      refine gf_RR_15 rfl d_RR_group_350 h114 ?_
      refine wm_aload_n d_RR_group_353 rfl rfl ?_
      refine gf_RR_87 rfl d_RR_group_354 h114 ?_
      refine wm_iald d_RR_group_357 h123 h124 ?_
      refine cf_RR_135 rfl d_RR_group_358 h125 (Nat.le_of_ble_eq_true rfl) (Ci.mono h (fun x127 M126 h => ?_))
      obtain ⟨h128, hOM126, h⟩ := h
      refine wm_pop d_RR_group_361 rfl ?_
      refine wm_less (L' := [vd, vd, vd, vd, vd]) ⟨Or.inl rfl, Or.inl rfl, Or.inl rfl, Or.inl rfl, Or.inl rfl, trivial⟩ ?_
      exact h
    · replace h := h.2 c122
      obtain ⟨h129, h⟩ := h
      obtain ⟨h130, h⟩ := h
      obtain ⟨h131, h⟩ := h
      obtain ⟨h132, h⟩ := h
      obtain ⟨M133, e134⟩ : ∃ M133, M133 = mUI M110 (mR M110 (mR M110 a0 1) 1) (Int.toNat (mI M110 (mR M110 a0 10) (Int.toNat (mI M110 a0 12)))) (mI M110 (mR M110 a0 1) 2) := ⟨_, rfl⟩
      replace h := h M133 e134
      refine wm_aload_n d_RR_group_317 rfl rfl ?_
      refine gf_RR_44 rfl d_RR_group_318 h114 ?_
      refine gf_RR_165 rfl d_RR_group_321 h129 ?_
      refine wm_aload_n d_RR_group_324 rfl rfl ?_
      refine gf_RR_18 rfl d_RR_group_325 h114 ?_
      refine wm_aload_n d_RR_group_328 rfl rfl ?_
      refine gf_RR_87 rfl d_RR_group_329 h114 ?_
      refine wm_iald d_RR_group_332 h115 h130 ?_
      refine wm_aload_n d_RR_group_333 rfl rfl ?_
      refine gf_RR_44 rfl d_RR_group_334 h114 ?_
      refine gf_RR_168 rfl d_RR_group_337 h129 ?_
      have hOM133 : mOk M133 := by rw [e134]; exact mOk_UI hOM110 (hOM110 _ _).1
      refine wm_iastE d_RR_group_340 h131 h132 (hOM110 _ _).1 e134 ?_
      refine wm_goto (tgt := 362) d_RR_group_341 rfl ?_
      refine wm_less (L' := [vd, vd, vd, vd, vd]) ⟨Or.inl rfl, Or.inl rfl, Or.inl rfl, Or.inl rfl, Or.inl rfl, trivial⟩ ?_
      exact h
  clear h
  obtain ⟨s135, s136⟩ := s111
  refine wm_icmp_eq (tgt := 294) d_RR_group_279 rfl hi_l1 ⟨by decide, by decide⟩ (fun c101 => ?_) (fun c101 => ?_)
  · have s135 := s135 c101
    obtain ⟨h102, h103⟩ := s135
    refine wm_aload_n d_RR_group_294 rfl rfl ?_
    refine wm_dup d_RR_group_295 rfl ?_
    refine gf_RR_58 rfl d_RR_group_296 h102 ?_
    refine wm_iconst d_RR_group_299 ?_
    refine wm_isub d_RR_group_300 ?_
    refine pf_RR_58 rfl d_RR_group_301 h102 h103 rfl ?_
    refine wm_less (L' := [vr a0, vi l1, vd, vd, vd]) ⟨Or.inr rfl, Or.inr rfl, Or.inl rfl, Or.inl rfl, Or.inl rfl, trivial⟩ ?_
    exact hJ (mUI M98 a0 5 ((mI M98 a0 5) - 1)) (if_pos (Or.inl c101)).symm
  · have s136 := s136 c101
    obtain ⟨s137, s138⟩ := s136
    refine wm_iload_n d_RR_group_282 rfl rfl ?_
    refine wm_bipush d_RR_group_283 (by decide) ?_
    refine wm_icmp_eq (tgt := 294) d_RR_group_285 rfl hi_l1 ⟨by decide, by decide⟩ (fun c104 => ?_) (fun c104 => ?_)
    · have s137 := s137 c104
      obtain ⟨h105, h106⟩ := s137
      refine wm_aload_n d_RR_group_294 rfl rfl ?_
      refine wm_dup d_RR_group_295 rfl ?_
      refine gf_RR_58 rfl d_RR_group_296 h105 ?_
      refine wm_iconst d_RR_group_299 ?_
      refine wm_isub d_RR_group_300 ?_
      refine pf_RR_58 rfl d_RR_group_301 h105 h106 rfl ?_
      refine wm_less (L' := [vr a0, vi l1, vd, vd, vd]) ⟨Or.inr rfl, Or.inr rfl, Or.inl rfl, Or.inl rfl, Or.inl rfl, trivial⟩ ?_
      exact hJ (mUI M98 a0 5 ((mI M98 a0 5) - 1)) (if_pos (Or.inr (Or.inl c104))).symm
    · have s138 := s138 c104
      have s139 := s138
      refine wm_iload_n d_RR_group_288 rfl rfl ?_
      refine wm_bipush d_RR_group_289 (by decide) ?_
      refine wm_icmp_ne (tgt := 304) d_RR_group_291 rfl hi_l1 ⟨by decide, by decide⟩ (fun c107 => ?_) (fun c107 => ?_)
      · refine wm_less (L' := [vr a0, vi l1, vd, vd, vd]) ⟨Or.inr rfl, Or.inr rfl, Or.inl rfl, Or.inl rfl, Or.inl rfl, trivial⟩ ?_
        exact hJ M98 (if_neg (fun z140 => Or.elim z140 c101 (fun z141 => Or.elim z141 c104 c107))).symm
      · replace c107 := Classical.not_not.mp c107
        have s139 := s139 c107
        obtain ⟨h108, h109⟩ := s139
        refine wm_aload_n d_RR_group_294 rfl rfl ?_
        refine wm_dup d_RR_group_295 rfl ?_
        refine gf_RR_58 rfl d_RR_group_296 h108 ?_
        refine wm_iconst d_RR_group_299 ?_
        refine wm_isub d_RR_group_300 ?_
        refine pf_RR_58 rfl d_RR_group_301 h108 h109 rfl ?_
        refine wm_less (L' := [vr a0, vi l1, vd, vd, vd]) ⟨Or.inr rfl, Or.inr rfl, Or.inl rfl, Or.inl rfl, Or.inl rfl, trivial⟩ ?_
        exact hJ (mUI M98 a0 5 ((mI M98 a0 5) - 1)) (if_pos (Or.inr (Or.inr c107))).symm
theorem k_RR_group_362 {G : mG} {d : Nat} {M : mM} {Q : mM → Prop} (hO : mOk M)
    (h : Q M) :
    h_RR_group_362 G d  M Q := by
  unfold h_RR_group_362
  refine wm_return d_RR_group_362 rfl ?_
  exact ⟨rfl, h⟩
theorem d_Sc_init_0 : decode y_Sc_init.2.1 0 = .ok (.aload_n 0, 1) := by decide +kernel
theorem d_Sc_init_1 : decode y_Sc_init.2.1 1 = .ok (.invokespecial 3, 3) := by decide +kernel
theorem d_Sc_init_4 : decode y_Sc_init.2.1 4 = .ok (.aload_n 0, 1) := by decide +kernel
theorem d_Sc_init_5 : decode y_Sc_init.2.1 5 = .ok (.new 9, 3) := by decide +kernel
theorem d_Sc_init_8 : decode y_Sc_init.2.1 8 = .ok (.dup, 1) := by decide +kernel
theorem d_Sc_init_9 : decode y_Sc_init.2.1 9 = .ok (.invokespecial 11, 3) := by decide +kernel
theorem d_Sc_init_12 : decode y_Sc_init.2.1 12 = .ok (.putfield 12, 3) := by decide +kernel
theorem d_Sc_init_15 : decode y_Sc_init.2.1 15 = .ok (.aload_n 0, 1) := by decide +kernel
theorem d_Sc_init_16 : decode y_Sc_init.2.1 16 = .ok (.new 9, 3) := by decide +kernel
theorem d_Sc_init_19 : decode y_Sc_init.2.1 19 = .ok (.dup, 1) := by decide +kernel
theorem d_Sc_init_20 : decode y_Sc_init.2.1 20 = .ok (.invokespecial 11, 3) := by decide +kernel
theorem d_Sc_init_23 : decode y_Sc_init.2.1 23 = .ok (.putfield 18, 3) := by decide +kernel
theorem d_Sc_init_26 : decode y_Sc_init.2.1 26 = .ok (.aload_n 0, 1) := by decide +kernel
theorem d_Sc_init_27 : decode y_Sc_init.2.1 27 = .ok (.new 9, 3) := by decide +kernel
theorem d_Sc_init_30 : decode y_Sc_init.2.1 30 = .ok (.dup, 1) := by decide +kernel
theorem d_Sc_init_31 : decode y_Sc_init.2.1 31 = .ok (.invokespecial 11, 3) := by decide +kernel
theorem d_Sc_init_34 : decode y_Sc_init.2.1 34 = .ok (.putfield 21, 3) := by decide +kernel
theorem d_Sc_init_37 : decode y_Sc_init.2.1 37 = .ok (.aload_n 0, 1) := by decide +kernel
theorem d_Sc_init_38 : decode y_Sc_init.2.1 38 = .ok (.new 9, 3) := by decide +kernel
theorem d_Sc_init_41 : decode y_Sc_init.2.1 41 = .ok (.dup, 1) := by decide +kernel
theorem d_Sc_init_42 : decode y_Sc_init.2.1 42 = .ok (.invokespecial 11, 3) := by decide +kernel
theorem d_Sc_init_45 : decode y_Sc_init.2.1 45 = .ok (.putfield 24, 3) := by decide +kernel
theorem d_Sc_init_48 : decode y_Sc_init.2.1 48 = .ok (.aload_n 0, 1) := by decide +kernel
theorem d_Sc_init_49 : decode y_Sc_init.2.1 49 = .ok (.new 9, 3) := by decide +kernel
theorem d_Sc_init_52 : decode y_Sc_init.2.1 52 = .ok (.dup, 1) := by decide +kernel
theorem d_Sc_init_53 : decode y_Sc_init.2.1 53 = .ok (.invokespecial 11, 3) := by decide +kernel
theorem d_Sc_init_56 : decode y_Sc_init.2.1 56 = .ok (.putfield 27, 3) := by decide +kernel
theorem d_Sc_init_59 : decode y_Sc_init.2.1 59 = .ok (.aload_n 0, 1) := by decide +kernel
theorem d_Sc_init_60 : decode y_Sc_init.2.1 60 = .ok (.new 9, 3) := by decide +kernel
theorem d_Sc_init_63 : decode y_Sc_init.2.1 63 = .ok (.dup, 1) := by decide +kernel
theorem d_Sc_init_64 : decode y_Sc_init.2.1 64 = .ok (.invokespecial 11, 3) := by decide +kernel
theorem d_Sc_init_67 : decode y_Sc_init.2.1 67 = .ok (.putfield 30, 3) := by decide +kernel
theorem d_Sc_init_70 : decode y_Sc_init.2.1 70 = .ok (.aload_n 0, 1) := by decide +kernel
theorem d_Sc_init_71 : decode y_Sc_init.2.1 71 = .ok (.iconst 4, 1) := by decide +kernel
theorem d_Sc_init_72 : decode y_Sc_init.2.1 72 = .ok (.newarray .long, 2) := by decide +kernel
theorem d_Sc_init_74 : decode y_Sc_init.2.1 74 = .ok (.putfield 33, 3) := by decide +kernel
theorem d_Sc_init_77 : decode y_Sc_init.2.1 77 = .ok (.aload_n 0, 1) := by decide +kernel
theorem d_Sc_init_78 : decode y_Sc_init.2.1 78 = .ok (.new 9, 3) := by decide +kernel
theorem d_Sc_init_81 : decode y_Sc_init.2.1 81 = .ok (.dup, 1) := by decide +kernel
theorem d_Sc_init_82 : decode y_Sc_init.2.1 82 = .ok (.invokespecial 11, 3) := by decide +kernel
theorem d_Sc_init_85 : decode y_Sc_init.2.1 85 = .ok (.putfield 37, 3) := by decide +kernel
theorem d_Sc_init_88 : decode y_Sc_init.2.1 88 = .ok (.aload_n 0, 1) := by decide +kernel
theorem d_Sc_init_89 : decode y_Sc_init.2.1 89 = .ok (.new 9, 3) := by decide +kernel
theorem d_Sc_init_92 : decode y_Sc_init.2.1 92 = .ok (.dup, 1) := by decide +kernel
theorem d_Sc_init_93 : decode y_Sc_init.2.1 93 = .ok (.invokespecial 11, 3) := by decide +kernel
theorem d_Sc_init_96 : decode y_Sc_init.2.1 96 = .ok (.putfield 40, 3) := by decide +kernel
theorem d_Sc_init_99 : decode y_Sc_init.2.1 99 = .ok (.aload_n 0, 1) := by decide +kernel
theorem d_Sc_init_100 : decode y_Sc_init.2.1 100 = .ok (.new 43, 3) := by decide +kernel
theorem d_Sc_init_103 : decode y_Sc_init.2.1 103 = .ok (.dup, 1) := by decide +kernel
theorem d_Sc_init_104 : decode y_Sc_init.2.1 104 = .ok (.invokespecial 45, 3) := by decide +kernel
theorem d_Sc_init_107 : decode y_Sc_init.2.1 107 = .ok (.putfield 46, 3) := by decide +kernel
theorem d_Sc_init_110 : decode y_Sc_init.2.1 110 = .ok (.aload_n 0, 1) := by decide +kernel
theorem d_Sc_init_111 : decode y_Sc_init.2.1 111 = .ok (.new 43, 3) := by decide +kernel
theorem d_Sc_init_114 : decode y_Sc_init.2.1 114 = .ok (.dup, 1) := by decide +kernel
theorem d_Sc_init_115 : decode y_Sc_init.2.1 115 = .ok (.invokespecial 45, 3) := by decide +kernel
theorem d_Sc_init_118 : decode y_Sc_init.2.1 118 = .ok (.putfield 50, 3) := by decide +kernel
theorem d_Sc_init_121 : decode y_Sc_init.2.1 121 = .ok (.return_, 1) := by decide +kernel
theorem k_Sc_init {G : mG} {d : Nat} {a0 : Nat} {M : mM} {Q : mM → Prop} (hO : mOk M)
    (h : 0 < a0 ∧ ∀ M2, M2 = mNew M 10 0 2 → Cv G y_Na_init d [vr (mZ M)] M2 (fun M4 => mOk M4 ∧ (mK M4 a0 = 9 ∧ ∀ M8, M8 = mUR M4 a0 0 (mZ M) → ∀ M10, M10 = mNew M8 10 0 2 → Cv G y_Na_init d [vr (mZ M8)] M10 (fun M12 => mOk M12 ∧ (mK M12 a0 = 9 ∧ ∀ M16, M16 = mUR M12 a0 1 (mZ M8) → ∀ M18, M18 = mNew M16 10 0 2 → Cv G y_Na_init d [vr (mZ M16)] M18 (fun M20 => mOk M20 ∧ (mK M20 a0 = 9 ∧ ∀ M24, M24 = mUR M20 a0 2 (mZ M16) → ∀ M26, M26 = mNew M24 10 0 2 → Cv G y_Na_init d [vr (mZ M24)] M26 (fun M28 => mOk M28 ∧ (mK M28 a0 = 9 ∧ ∀ M32, M32 = mUR M28 a0 3 (mZ M24) → ∀ M34, M34 = mNew M32 10 0 2 → Cv G y_Na_init d [vr (mZ M32)] M34 (fun M36 => mOk M36 ∧ (mK M36 a0 = 9 ∧ ∀ M40, M40 = mUR M36 a0 4 (mZ M32) → ∀ M42, M42 = mNew M40 10 0 2 → Cv G y_Na_init d [vr (mZ M40)] M42 (fun M44 => mOk M44 ∧ (mK M44 a0 = 9 ∧ ∀ M48, M48 = mUR M44 a0 5 (mZ M40) → ∀ M50, M50 = mNew M48 33 4 4 → mK M50 a0 = 9 ∧ ∀ M53, M53 = mUR M50 a0 6 (mZ M48) → ∀ M55, M55 = mNew M53 10 0 2 → Cv G y_Na_init d [vr (mZ M53)] M55 (fun M57 => mOk M57 ∧ (mK M57 a0 = 9 ∧ ∀ M61, M61 = mUR M57 a0 7 (mZ M53) → ∀ M63, M63 = mNew M61 10 0 2 → Cv G y_Na_init d [vr (mZ M61)] M63 (fun M65 => mOk M65 ∧ (mK M65 a0 = 9 ∧ ∀ M69, M69 = mUR M65 a0 8 (mZ M61) → ∀ M71, M71 = mNew M69 11 0 3 → Cv G y_Fr_init d [vr (mZ M69)] M71 (fun M73 => mOk M73 ∧ (mK M73 a0 = 9 ∧ ∀ M77, M77 = mUR M73 a0 9 (mZ M69) → ∀ M79, M79 = mNew M77 11 0 3 → Cv G y_Fr_init d [vr (mZ M77)] M79 (fun M81 => mOk M81 ∧ (mK M81 a0 = 9 ∧ ∀ M85, M85 = mUR M81 a0 10 (mZ M77) → Q M85))))))))))))))))))))) :
    Cv G y_Sc_init (d + 1) [vr a0] M Q := by
  refine wm_open (y := y_Sc_init) rfl (Nat.le_of_ble_eq_true rfl) (L := [vr a0]) rfl ?_
  obtain ⟨h1, h⟩ := h
  obtain ⟨M2, e3⟩ : ∃ M2, M2 = mNew M 10 0 2 := ⟨_, rfl⟩
  replace h := h M2 e3
  refine wm_aload_n d_Sc_init_0 rfl rfl ?_
  refine wm_objInit trivial k2_232 kO_inst kO_code (Nat.le_of_ble_eq_true rfl) d_Sc_init_1 h1 ?_
  refine wm_aload_n d_Sc_init_4 rfl rfl ?_
  have hOM2 : mOk M2 := by rw [e3]; exact mOk_New hO
  refine nf_Sc_9 rfl d_Sc_init_5 e3 ?_
  refine wm_dup d_Sc_init_8 rfl ?_
  refine cf_Sc_11 rfl d_Sc_init_9 (by rw [e3]; exact if_pos rfl) (Nat.le_of_ble_eq_true rfl) (Cv.mono h (fun M4 h => ?_))
  obtain ⟨hOM4, h⟩ := h
  obtain ⟨h7, h⟩ := h
  obtain ⟨M8, e9⟩ : ∃ M8, M8 = mUR M4 a0 0 (mZ M) := ⟨_, rfl⟩
  replace h := h M8 e9
  obtain ⟨M10, e11⟩ : ∃ M10, M10 = mNew M8 10 0 2 := ⟨_, rfl⟩
  replace h := h M10 e11
  have hOM8 : mOk M8 := by rw [e9]; exact mOk_UR hOM4
  refine pf_Sc_12 rfl rfl d_Sc_init_12 h7 e9 ?_
  refine wm_aload_n d_Sc_init_15 rfl rfl ?_
  have hOM10 : mOk M10 := by rw [e11]; exact mOk_New hOM8
  refine nf_Sc_9 rfl d_Sc_init_16 e11 ?_
  refine wm_dup d_Sc_init_19 rfl ?_
  refine cf_Sc_11 rfl d_Sc_init_20 (by rw [e11]; exact if_pos rfl) (Nat.le_of_ble_eq_true rfl) (Cv.mono h (fun M12 h => ?_))
  obtain ⟨hOM12, h⟩ := h
  obtain ⟨h15, h⟩ := h
  obtain ⟨M16, e17⟩ : ∃ M16, M16 = mUR M12 a0 1 (mZ M8) := ⟨_, rfl⟩
  replace h := h M16 e17
  obtain ⟨M18, e19⟩ : ∃ M18, M18 = mNew M16 10 0 2 := ⟨_, rfl⟩
  replace h := h M18 e19
  have hOM16 : mOk M16 := by rw [e17]; exact mOk_UR hOM12
  refine pf_Sc_18 rfl rfl d_Sc_init_23 h15 e17 ?_
  refine wm_aload_n d_Sc_init_26 rfl rfl ?_
  have hOM18 : mOk M18 := by rw [e19]; exact mOk_New hOM16
  refine nf_Sc_9 rfl d_Sc_init_27 e19 ?_
  refine wm_dup d_Sc_init_30 rfl ?_
  refine cf_Sc_11 rfl d_Sc_init_31 (by rw [e19]; exact if_pos rfl) (Nat.le_of_ble_eq_true rfl) (Cv.mono h (fun M20 h => ?_))
  obtain ⟨hOM20, h⟩ := h
  obtain ⟨h23, h⟩ := h
  obtain ⟨M24, e25⟩ : ∃ M24, M24 = mUR M20 a0 2 (mZ M16) := ⟨_, rfl⟩
  replace h := h M24 e25
  obtain ⟨M26, e27⟩ : ∃ M26, M26 = mNew M24 10 0 2 := ⟨_, rfl⟩
  replace h := h M26 e27
  have hOM24 : mOk M24 := by rw [e25]; exact mOk_UR hOM20
  refine pf_Sc_21 rfl rfl d_Sc_init_34 h23 e25 ?_
  refine wm_aload_n d_Sc_init_37 rfl rfl ?_
  have hOM26 : mOk M26 := by rw [e27]; exact mOk_New hOM24
  refine nf_Sc_9 rfl d_Sc_init_38 e27 ?_
  refine wm_dup d_Sc_init_41 rfl ?_
  refine cf_Sc_11 rfl d_Sc_init_42 (by rw [e27]; exact if_pos rfl) (Nat.le_of_ble_eq_true rfl) (Cv.mono h (fun M28 h => ?_))
  obtain ⟨hOM28, h⟩ := h
  obtain ⟨h31, h⟩ := h
  obtain ⟨M32, e33⟩ : ∃ M32, M32 = mUR M28 a0 3 (mZ M24) := ⟨_, rfl⟩
  replace h := h M32 e33
  obtain ⟨M34, e35⟩ : ∃ M34, M34 = mNew M32 10 0 2 := ⟨_, rfl⟩
  replace h := h M34 e35
  have hOM32 : mOk M32 := by rw [e33]; exact mOk_UR hOM28
  refine pf_Sc_24 rfl rfl d_Sc_init_45 h31 e33 ?_
  refine wm_aload_n d_Sc_init_48 rfl rfl ?_
  have hOM34 : mOk M34 := by rw [e35]; exact mOk_New hOM32
  refine nf_Sc_9 rfl d_Sc_init_49 e35 ?_
  refine wm_dup d_Sc_init_52 rfl ?_
  refine cf_Sc_11 rfl d_Sc_init_53 (by rw [e35]; exact if_pos rfl) (Nat.le_of_ble_eq_true rfl) (Cv.mono h (fun M36 h => ?_))
  obtain ⟨hOM36, h⟩ := h
  obtain ⟨h39, h⟩ := h
  obtain ⟨M40, e41⟩ : ∃ M40, M40 = mUR M36 a0 4 (mZ M32) := ⟨_, rfl⟩
  replace h := h M40 e41
  obtain ⟨M42, e43⟩ : ∃ M42, M42 = mNew M40 10 0 2 := ⟨_, rfl⟩
  replace h := h M42 e43
  have hOM40 : mOk M40 := by rw [e41]; exact mOk_UR hOM36
  refine pf_Sc_27 rfl rfl d_Sc_init_56 h39 e41 ?_
  refine wm_aload_n d_Sc_init_59 rfl rfl ?_
  have hOM42 : mOk M42 := by rw [e43]; exact mOk_New hOM40
  refine nf_Sc_9 rfl d_Sc_init_60 e43 ?_
  refine wm_dup d_Sc_init_63 rfl ?_
  refine cf_Sc_11 rfl d_Sc_init_64 (by rw [e43]; exact if_pos rfl) (Nat.le_of_ble_eq_true rfl) (Cv.mono h (fun M44 h => ?_))
  obtain ⟨hOM44, h⟩ := h
  obtain ⟨h47, h⟩ := h
  obtain ⟨M48, e49⟩ : ∃ M48, M48 = mUR M44 a0 5 (mZ M40) := ⟨_, rfl⟩
  replace h := h M48 e49
  obtain ⟨M50, e51⟩ : ∃ M50, M50 = mNew M48 33 4 4 := ⟨_, rfl⟩
  replace h := h M50 e51
  obtain ⟨h52, h⟩ := h
  obtain ⟨M53, e54⟩ : ∃ M53, M53 = mUR M50 a0 6 (mZ M48) := ⟨_, rfl⟩
  replace h := h M53 e54
  obtain ⟨M55, e56⟩ : ∃ M55, M55 = mNew M53 10 0 2 := ⟨_, rfl⟩
  replace h := h M55 e56
  have hOM48 : mOk M48 := by rw [e49]; exact mOk_UR hOM44
  refine pf_Sc_30 rfl rfl d_Sc_init_67 h47 e49 ?_
  refine wm_aload_n d_Sc_init_70 rfl rfl ?_
  refine wm_iconst d_Sc_init_71 ?_
  have hOM50 : mOk M50 := by rw [e51]; exact mOk_New hOM48
  refine wm_newarrE 3 (atype := .long) (ty := .long) rfl rfl (fun _ => rfl) rfl rfl (by decide) k3_35 ⟨by decide, by decide⟩ d_Sc_init_72 e51 ?_
  have hOM53 : mOk M53 := by rw [e54]; exact mOk_UR hOM50
  refine pf_Sc_33 rfl rfl d_Sc_init_74 h52 e54 ?_
  refine wm_aload_n d_Sc_init_77 rfl rfl ?_
  have hOM55 : mOk M55 := by rw [e56]; exact mOk_New hOM53
  refine nf_Sc_9 rfl d_Sc_init_78 e56 ?_
  refine wm_dup d_Sc_init_81 rfl ?_
  refine cf_Sc_11 rfl d_Sc_init_82 (by rw [e56]; exact if_pos rfl) (Nat.le_of_ble_eq_true rfl) (Cv.mono h (fun M57 h => ?_))
  obtain ⟨hOM57, h⟩ := h
  obtain ⟨h60, h⟩ := h
  obtain ⟨M61, e62⟩ : ∃ M61, M61 = mUR M57 a0 7 (mZ M53) := ⟨_, rfl⟩
  replace h := h M61 e62
  obtain ⟨M63, e64⟩ : ∃ M63, M63 = mNew M61 10 0 2 := ⟨_, rfl⟩
  replace h := h M63 e64
  have hOM61 : mOk M61 := by rw [e62]; exact mOk_UR hOM57
  refine pf_Sc_37 rfl rfl d_Sc_init_85 h60 e62 ?_
  refine wm_aload_n d_Sc_init_88 rfl rfl ?_
  have hOM63 : mOk M63 := by rw [e64]; exact mOk_New hOM61
  refine nf_Sc_9 rfl d_Sc_init_89 e64 ?_
  refine wm_dup d_Sc_init_92 rfl ?_
  refine cf_Sc_11 rfl d_Sc_init_93 (by rw [e64]; exact if_pos rfl) (Nat.le_of_ble_eq_true rfl) (Cv.mono h (fun M65 h => ?_))
  obtain ⟨hOM65, h⟩ := h
  obtain ⟨h68, h⟩ := h
  obtain ⟨M69, e70⟩ : ∃ M69, M69 = mUR M65 a0 8 (mZ M61) := ⟨_, rfl⟩
  replace h := h M69 e70
  obtain ⟨M71, e72⟩ : ∃ M71, M71 = mNew M69 11 0 3 := ⟨_, rfl⟩
  replace h := h M71 e72
  have hOM69 : mOk M69 := by rw [e70]; exact mOk_UR hOM65
  refine pf_Sc_40 rfl rfl d_Sc_init_96 h68 e70 ?_
  refine wm_aload_n d_Sc_init_99 rfl rfl ?_
  have hOM71 : mOk M71 := by rw [e72]; exact mOk_New hOM69
  refine nf_Sc_43 rfl d_Sc_init_100 e72 ?_
  refine wm_dup d_Sc_init_103 rfl ?_
  refine cf_Sc_45 rfl d_Sc_init_104 (by rw [e72]; exact if_pos rfl) (Nat.le_of_ble_eq_true rfl) (Cv.mono h (fun M73 h => ?_))
  obtain ⟨hOM73, h⟩ := h
  obtain ⟨h76, h⟩ := h
  obtain ⟨M77, e78⟩ : ∃ M77, M77 = mUR M73 a0 9 (mZ M69) := ⟨_, rfl⟩
  replace h := h M77 e78
  obtain ⟨M79, e80⟩ : ∃ M79, M79 = mNew M77 11 0 3 := ⟨_, rfl⟩
  replace h := h M79 e80
  have hOM77 : mOk M77 := by rw [e78]; exact mOk_UR hOM73
  refine pf_Sc_46 rfl d_Sc_init_107 h76 e78 ?_
  refine wm_aload_n d_Sc_init_110 rfl rfl ?_
  have hOM79 : mOk M79 := by rw [e80]; exact mOk_New hOM77
  refine nf_Sc_43 rfl d_Sc_init_111 e80 ?_
  refine wm_dup d_Sc_init_114 rfl ?_
  refine cf_Sc_45 rfl d_Sc_init_115 (by rw [e80]; exact if_pos rfl) (Nat.le_of_ble_eq_true rfl) (Cv.mono h (fun M81 h => ?_))
  obtain ⟨hOM81, h⟩ := h
  obtain ⟨h84, h⟩ := h
  obtain ⟨M85, e86⟩ : ∃ M85, M85 = mUR M81 a0 10 (mZ M77) := ⟨_, rfl⟩
  replace h := h M85 e86
  have hOM85 : mOk M85 := by rw [e86]; exact mOk_UR hOM81
  refine pf_Sc_50 rfl d_Sc_init_118 h84 e86 ?_
  refine wm_return d_Sc_init_121 rfl ?_
  exact ⟨rfl, h⟩
theorem d_Sc_wholePart_0 : decode y_Sc_wholePart.2.1 0 = .ok (.aload_n 1, 1) := by decide +kernel
theorem d_Sc_wholePart_1 : decode y_Sc_wholePart.2.1 1 = .ok (.aload_n 2, 1) := by decide +kernel
theorem d_Sc_wholePart_2 : decode y_Sc_wholePart.2.1 2 = .ok (.aload_n 0, 1) := by decide +kernel
theorem d_Sc_wholePart_3 : decode y_Sc_wholePart.2.1 3 = .ok (.getfield 21, 3) := by decide +kernel
theorem d_Sc_wholePart_6 : decode y_Sc_wholePart.2.1 6 = .ok (.aload_n 0, 1) := by decide +kernel
theorem d_Sc_wholePart_7 : decode y_Sc_wholePart.2.1 7 = .ok (.getfield 24, 3) := by decide +kernel
theorem d_Sc_wholePart_10 : decode y_Sc_wholePart.2.1 10 = .ok (.invokevirtual 53, 3) := by decide +kernel
theorem d_Sc_wholePart_13 : decode y_Sc_wholePart.2.1 13 = .ok (.aload_n 0, 1) := by decide +kernel
theorem d_Sc_wholePart_14 : decode y_Sc_wholePart.2.1 14 = .ok (.getfield 21, 3) := by decide +kernel
theorem d_Sc_wholePart_17 : decode y_Sc_wholePart.2.1 17 = .ok (.getfield 57, 3) := by decide +kernel
theorem d_Sc_wholePart_20 : decode y_Sc_wholePart.2.1 20 = .ok (.ifCond .ne 7, 3) := by decide +kernel
theorem d_Sc_wholePart_23 : decode y_Sc_wholePart.2.1 23 = .ok (.iconst 0, 1) := by decide +kernel
theorem d_Sc_wholePart_24 : decode y_Sc_wholePart.2.1 24 = .ok (.goto 12, 3) := by decide +kernel
theorem d_Sc_wholePart_27 : decode y_Sc_wholePart.2.1 27 = .ok (.aload_n 0, 1) := by decide +kernel
theorem d_Sc_wholePart_28 : decode y_Sc_wholePart.2.1 28 = .ok (.getfield 21, 3) := by decide +kernel
theorem d_Sc_wholePart_31 : decode y_Sc_wholePart.2.1 31 = .ok (.getfield 61, 3) := by decide +kernel
theorem d_Sc_wholePart_34 : decode y_Sc_wholePart.2.1 34 = .ok (.iconst 0, 1) := by decide +kernel
theorem d_Sc_wholePart_35 : decode y_Sc_wholePart.2.1 35 = .ok (.iaload, 1) := by decide +kernel
theorem d_Sc_wholePart_36 : decode y_Sc_wholePart.2.1 36 = .ok (.ireturn, 1) := by decide +kernel
theorem k_Sc_wholePart {G : mG} {d : Nat} {a0 : Nat} {a1 : Nat} {a2 : Nat} {M : mM} {Q : Int → mM → Prop} (hO : mOk M)
    (h : mK M a0 = 9 ∧ mK M a1 = 10 ∧ Cv G y_Na_divide d [vr a1, vr a2, vr (mR M a0 2), vr (mR M a0 3)] M (fun M3 => mOk M3 ∧ (mK M3 a0 = 9 ∧ mK M3 (mR M3 a0 2) = 10 ∧ (¬ (mI M3 (mR M3 a0 2) 1 = 0) → (mK M3 (mR M3 (mR M3 a0 2) 0) = 30 ∧ ((0 : Int) ≤ 0 ∧ 0 < (mN M3 (mR M3 (mR M3 a0 2) 0) : Int)))) ∧ ∀ v11 : Int, v11 = (if (mI M3 (mR M3 a0 2) 1 = 0) then 0 else mI M3 (mR M3 (mR M3 a0 2) 0) 0) → Q v11 M3))) :
    Ci G y_Sc_wholePart (d + 1) [vr a0, vr a1, vr a2] M Q := by
  refine wm_open (y := y_Sc_wholePart) rfl (Nat.le_of_ble_eq_true rfl) (L := [vr a0, vr a1, vr a2]) rfl ?_
  obtain ⟨h1, h⟩ := h
  obtain ⟨h2, h⟩ := h
  refine wm_aload_n d_Sc_wholePart_0 rfl rfl ?_
  refine wm_aload_n d_Sc_wholePart_1 rfl rfl ?_
  refine wm_aload_n d_Sc_wholePart_2 rfl rfl ?_
  refine gf_Sc_21 rfl d_Sc_wholePart_3 h1 ?_
  refine wm_aload_n d_Sc_wholePart_6 rfl rfl ?_
  refine gf_Sc_24 rfl d_Sc_wholePart_7 h1 ?_
  refine cf_Sc_53 rfl d_Sc_wholePart_10 h2 (Nat.le_of_ble_eq_true rfl) (Cv.mono h (fun M3 h => ?_))
  obtain ⟨hOM3, h⟩ := h
  obtain ⟨h6, h⟩ := h
  obtain ⟨h7, h⟩ := h
  refine wm_aload_n d_Sc_wholePart_13 rfl rfl ?_
  refine gf_Sc_21 rfl d_Sc_wholePart_14 h6 ?_
  refine gf_Sc_57 rfl d_Sc_wholePart_17 h7 ?_
  obtain ⟨s12, h⟩ := h
  have hJ : ∀ v11 : Int, v11 = (if (mI M3 (mR M3 a0 2) 1 = 0) then 0 else mI M3 (mR M3 (mR M3 a0 2) 0) 0) → mWm G y_Sc_wholePart (d + 1) 36 [vd, vd, vd] [vi v11] M3 (fun r9 M9 => ∃ x9, r9 = some (vi x9) ∧ Q x9 M9) := by
    intro v11 e13
    have h := h v11 e13
    refine wm_ireturn d_Sc_wholePart_36 rfl rfl ?_
    exact ⟨_, rfl, h⟩
  clear h
  have s14 := s12
  refine wm_if_ne (tgt := 27) d_Sc_wholePart_20 rfl (hOM3 _ _).1 (fun c8 => ?_) (fun c8 => ?_)
  · have s14 := s14 c8
    obtain ⟨h9, h10⟩ := s14
    refine wm_aload_n d_Sc_wholePart_27 rfl rfl ?_
    refine gf_Sc_21 rfl d_Sc_wholePart_28 h6 ?_
    refine gf_Sc_61 rfl d_Sc_wholePart_31 h7 ?_
    refine wm_iconst d_Sc_wholePart_34 ?_
    refine wm_iald d_Sc_wholePart_35 h9 h10 ?_
    refine wm_less (L' := [vd, vd, vd]) ⟨Or.inl rfl, Or.inl rfl, Or.inl rfl, trivial⟩ ?_
    exact hJ (mI M3 (mR M3 (mR M3 a0 2) 0) 0) (if_neg c8).symm
  · replace c8 := Classical.not_not.mp c8
    refine wm_iconst d_Sc_wholePart_23 ?_
    refine wm_goto (tgt := 36) d_Sc_wholePart_24 rfl ?_
    refine wm_less (L' := [vd, vd, vd]) ⟨Or.inl rfl, Or.inl rfl, Or.inl rfl, trivial⟩ ?_
    exact hJ 0 (if_pos c8).symm
theorem d_Sc_commonDivisor_0 : decode y_Sc_commonDivisor.2.1 0 = .ok (.aload_n 0, 1) := by decide +kernel
theorem d_Sc_commonDivisor_1 : decode y_Sc_commonDivisor.2.1 1 = .ok (.getfield 12, 3) := by decide +kernel
theorem d_Sc_commonDivisor_4 : decode y_Sc_commonDivisor.2.1 4 = .ok (.astore_n 3, 1) := by decide +kernel
theorem d_Sc_commonDivisor_5 : decode y_Sc_commonDivisor.2.1 5 = .ok (.aload_n 0, 1) := by decide +kernel
theorem d_Sc_commonDivisor_6 : decode y_Sc_commonDivisor.2.1 6 = .ok (.getfield 18, 3) := by decide +kernel
theorem d_Sc_commonDivisor_9 : decode y_Sc_commonDivisor.2.1 9 = .ok (.astore 4, 2) := by decide +kernel
theorem d_Sc_commonDivisor_11 : decode y_Sc_commonDivisor.2.1 11 = .ok (.aload_n 1, 1) := by decide +kernel
theorem d_Sc_commonDivisor_12 : decode y_Sc_commonDivisor.2.1 12 = .ok (.aload_n 2, 1) := by decide +kernel
theorem d_Sc_commonDivisor_13 : decode y_Sc_commonDivisor.2.1 13 = .ok (.invokestatic 65, 3) := by decide +kernel
theorem d_Sc_commonDivisor_16 : decode y_Sc_commonDivisor.2.1 16 = .ok (.ifCond .lt 7, 3) := by decide +kernel
theorem d_Sc_commonDivisor_23 : decode y_Sc_commonDivisor.2.1 23 = .ok (.iconst 0, 1) := by decide +kernel
theorem d_Sc_commonDivisor_19 : decode y_Sc_commonDivisor.2.1 19 = .ok (.iconst 1, 1) := by decide +kernel
theorem d_Sc_commonDivisor_20 : decode y_Sc_commonDivisor.2.1 20 = .ok (.goto 4, 3) := by decide +kernel
theorem d_Sc_commonDivisor_24 : decode y_Sc_commonDivisor.2.1 24 = .ok (.istore 5, 2) := by decide +kernel
theorem d_Sc_commonDivisor_26 : decode y_Sc_commonDivisor.2.1 26 = .ok (.aload_n 3, 1) := by decide +kernel
theorem d_Sc_commonDivisor_27 : decode y_Sc_commonDivisor.2.1 27 = .ok (.iload 5, 2) := by decide +kernel
theorem d_Sc_commonDivisor_29 : decode y_Sc_commonDivisor.2.1 29 = .ok (.ifCond .eq 7, 3) := by decide +kernel
theorem d_Sc_commonDivisor_36 : decode y_Sc_commonDivisor.2.1 36 = .ok (.aload_n 2, 1) := by decide +kernel
theorem d_Sc_commonDivisor_32 : decode y_Sc_commonDivisor.2.1 32 = .ok (.aload_n 1, 1) := by decide +kernel
theorem d_Sc_commonDivisor_33 : decode y_Sc_commonDivisor.2.1 33 = .ok (.goto 4, 3) := by decide +kernel
theorem d_Sc_commonDivisor_37 : decode y_Sc_commonDivisor.2.1 37 = .ok (.invokevirtual 69, 3) := by decide +kernel
theorem d_Sc_commonDivisor_40 : decode y_Sc_commonDivisor.2.1 40 = .ok (.aload 4, 2) := by decide +kernel
theorem d_Sc_commonDivisor_42 : decode y_Sc_commonDivisor.2.1 42 = .ok (.iload 5, 2) := by decide +kernel
theorem d_Sc_commonDivisor_44 : decode y_Sc_commonDivisor.2.1 44 = .ok (.ifCond .eq 7, 3) := by decide +kernel
theorem d_Sc_commonDivisor_51 : decode y_Sc_commonDivisor.2.1 51 = .ok (.aload_n 1, 1) := by decide +kernel
theorem d_Sc_commonDivisor_47 : decode y_Sc_commonDivisor.2.1 47 = .ok (.aload_n 2, 1) := by decide +kernel
theorem d_Sc_commonDivisor_48 : decode y_Sc_commonDivisor.2.1 48 = .ok (.goto 4, 3) := by decide +kernel
theorem d_Sc_commonDivisor_52 : decode y_Sc_commonDivisor.2.1 52 = .ok (.invokevirtual 69, 3) := by decide +kernel
theorem d_Sc_commonDivisor_55 : decode y_Sc_commonDivisor.2.1 55 = .ok (.iconst 0, 1) := by decide +kernel
theorem d_Sc_commonDivisor_56 : decode y_Sc_commonDivisor.2.1 56 = .ok (.istore 6, 2) := by decide +kernel
theorem d_Sc_commonDivisor_58 : decode y_Sc_commonDivisor.2.1 58 = .ok (.iload 6, 2) := by decide +kernel
theorem d_Sc_commonDivisor_60 : decode y_Sc_commonDivisor.2.1 60 = .ok (.ldc 73, 2) := by decide +kernel
theorem d_Sc_commonDivisor_62 : decode y_Sc_commonDivisor.2.1 62 = .ok (.if_icmp .ge 111, 3) := by decide +kernel
theorem d_Sc_commonDivisor_65 : decode y_Sc_commonDivisor.2.1 65 = .ok (.aload 4, 2) := by decide +kernel
theorem d_Sc_commonDivisor_67 : decode y_Sc_commonDivisor.2.1 67 = .ok (.getfield 57, 3) := by decide +kernel
theorem d_Sc_commonDivisor_70 : decode y_Sc_commonDivisor.2.1 70 = .ok (.ifCond .le 103, 3) := by decide +kernel
theorem d_Sc_commonDivisor_73 : decode y_Sc_commonDivisor.2.1 73 = .ok (.aload_n 3, 1) := by decide +kernel
theorem d_Sc_commonDivisor_74 : decode y_Sc_commonDivisor.2.1 74 = .ok (.getfield 57, 3) := by decide +kernel
theorem d_Sc_commonDivisor_77 : decode y_Sc_commonDivisor.2.1 77 = .ok (.iconst 3, 1) := by decide +kernel
theorem d_Sc_commonDivisor_78 : decode y_Sc_commonDivisor.2.1 78 = .ok (.if_icmp .ge 23, 3) := by decide +kernel
theorem d_Sc_commonDivisor_101 : decode y_Sc_commonDivisor.2.1 101 = .ok (.aload_n 3, 1) := by decide +kernel
theorem d_Sc_commonDivisor_81 : decode y_Sc_commonDivisor.2.1 81 = .ok (.aload_n 3, 1) := by decide +kernel
theorem d_Sc_commonDivisor_82 : decode y_Sc_commonDivisor.2.1 82 = .ok (.aload_n 3, 1) := by decide +kernel
theorem d_Sc_commonDivisor_83 : decode y_Sc_commonDivisor.2.1 83 = .ok (.iconst 0, 1) := by decide +kernel
theorem d_Sc_commonDivisor_173 : decode y_Sc_commonDivisor.2.1 173 = .ok (.aload_n 3, 1) := by decide +kernel
theorem d_Sc_commonDivisor_174 : decode y_Sc_commonDivisor.2.1 174 = .ok (.areturn, 1) := by decide +kernel
theorem d_Sc_commonDivisor_102 : decode y_Sc_commonDivisor.2.1 102 = .ok (.invokevirtual 88, 3) := by decide +kernel
theorem d_Sc_commonDivisor_105 : decode y_Sc_commonDivisor.2.1 105 = .ok (.bipush 60, 2) := by decide +kernel
theorem d_Sc_commonDivisor_107 : decode y_Sc_commonDivisor.2.1 107 = .ok (.isub, 1) := by decide +kernel
theorem d_Sc_commonDivisor_108 : decode y_Sc_commonDivisor.2.1 108 = .ok (.istore 7, 2) := by decide +kernel
theorem d_Sc_commonDivisor_110 : decode y_Sc_commonDivisor.2.1 110 = .ok (.aload_n 0, 1) := by decide +kernel
theorem d_Sc_commonDivisor_111 : decode y_Sc_commonDivisor.2.1 111 = .ok (.aload_n 3, 1) := by decide +kernel
theorem d_Sc_commonDivisor_112 : decode y_Sc_commonDivisor.2.1 112 = .ok (.iload 7, 2) := by decide +kernel
theorem d_Sc_commonDivisor_114 : decode y_Sc_commonDivisor.2.1 114 = .ok (.invokevirtual 74, 3) := by decide +kernel
theorem d_Sc_commonDivisor_117 : decode y_Sc_commonDivisor.2.1 117 = .ok (.aload 4, 2) := by decide +kernel
theorem d_Sc_commonDivisor_119 : decode y_Sc_commonDivisor.2.1 119 = .ok (.iload 7, 2) := by decide +kernel
theorem d_Sc_commonDivisor_121 : decode y_Sc_commonDivisor.2.1 121 = .ok (.invokevirtual 74, 3) := by decide +kernel
theorem d_Sc_commonDivisor_124 : decode y_Sc_commonDivisor.2.1 124 = .ok (.invokevirtual 92, 3) := by decide +kernel
theorem d_Sc_commonDivisor_127 : decode y_Sc_commonDivisor.2.1 127 = .ok (.ifCond .eq 16, 3) := by decide +kernel
theorem d_Sc_commonDivisor_143 : decode y_Sc_commonDivisor.2.1 143 = .ok (.aload_n 3, 1) := by decide +kernel
theorem d_Sc_commonDivisor_144 : decode y_Sc_commonDivisor.2.1 144 = .ok (.aload 4, 2) := by decide +kernel
theorem d_Sc_commonDivisor_146 : decode y_Sc_commonDivisor.2.1 146 = .ok (.aload_n 0, 1) := by decide +kernel
theorem d_Sc_commonDivisor_147 : decode y_Sc_commonDivisor.2.1 147 = .ok (.getfield 21, 3) := by decide +kernel
theorem d_Sc_commonDivisor_150 : decode y_Sc_commonDivisor.2.1 150 = .ok (.aload_n 0, 1) := by decide +kernel
theorem d_Sc_commonDivisor_151 : decode y_Sc_commonDivisor.2.1 151 = .ok (.getfield 24, 3) := by decide +kernel
theorem d_Sc_commonDivisor_130 : decode y_Sc_commonDivisor.2.1 130 = .ok (.aload_n 3, 1) := by decide +kernel
theorem d_Sc_commonDivisor_131 : decode y_Sc_commonDivisor.2.1 131 = .ok (.aload 4, 2) := by decide +kernel
theorem d_Sc_commonDivisor_133 : decode y_Sc_commonDivisor.2.1 133 = .ok (.aload_n 0, 1) := by decide +kernel
theorem d_Sc_commonDivisor_134 : decode y_Sc_commonDivisor.2.1 134 = .ok (.getfield 33, 3) := by decide +kernel
theorem d_Sc_commonDivisor_154 : decode y_Sc_commonDivisor.2.1 154 = .ok (.invokevirtual 53, 3) := by decide +kernel
theorem d_Sc_commonDivisor_157 : decode y_Sc_commonDivisor.2.1 157 = .ok (.aload_n 3, 1) := by decide +kernel
theorem d_Sc_commonDivisor_158 : decode y_Sc_commonDivisor.2.1 158 = .ok (.astore 8, 2) := by decide +kernel
theorem d_Sc_commonDivisor_160 : decode y_Sc_commonDivisor.2.1 160 = .ok (.aload 4, 2) := by decide +kernel
theorem d_Sc_commonDivisor_162 : decode y_Sc_commonDivisor.2.1 162 = .ok (.astore_n 3, 1) := by decide +kernel
theorem d_Sc_commonDivisor_163 : decode y_Sc_commonDivisor.2.1 163 = .ok (.aload 8, 2) := by decide +kernel
theorem d_Sc_commonDivisor_165 : decode y_Sc_commonDivisor.2.1 165 = .ok (.astore 4, 2) := by decide +kernel
theorem d_Sc_commonDivisor_167 : decode y_Sc_commonDivisor.2.1 167 = .ok (.iinc 6 1, 3) := by decide +kernel
theorem d_Sc_commonDivisor_170 : decode y_Sc_commonDivisor.2.1 170 = .ok (.goto (-112), 3) := by decide +kernel
theorem d_Sc_commonDivisor_137 : decode y_Sc_commonDivisor.2.1 137 = .ok (.invokestatic 96, 3) := by decide +kernel
theorem d_Sc_commonDivisor_140 : decode y_Sc_commonDivisor.2.1 140 = .ok (.goto 27, 3) := by decide +kernel
theorem d_Sc_commonDivisor_84 : decode y_Sc_commonDivisor.2.1 84 = .ok (.invokevirtual 74, 3) := by decide +kernel
theorem d_Sc_commonDivisor_87 : decode y_Sc_commonDivisor.2.1 87 = .ok (.aload 4, 2) := by decide +kernel
theorem d_Sc_commonDivisor_89 : decode y_Sc_commonDivisor.2.1 89 = .ok (.iconst 0, 1) := by decide +kernel
theorem d_Sc_commonDivisor_90 : decode y_Sc_commonDivisor.2.1 90 = .ok (.invokevirtual 74, 3) := by decide +kernel
theorem d_Sc_commonDivisor_93 : decode y_Sc_commonDivisor.2.1 93 = .ok (.invokestatic 78, 3) := by decide +kernel
theorem d_Sc_commonDivisor_96 : decode y_Sc_commonDivisor.2.1 96 = .ok (.invokevirtual 84, 3) := by decide +kernel
theorem d_Sc_commonDivisor_99 : decode y_Sc_commonDivisor.2.1 99 = .ok (.aload_n 3, 1) := by decide +kernel
theorem d_Sc_commonDivisor_100 : decode y_Sc_commonDivisor.2.1 100 = .ok (.areturn, 1) := by decide +kernel
def h_Sc_commonDivisor_58 (G : mG) (d : Nat) (a0 : Nat) (a3 : Nat) (a4 : Nat) (l6 : Int) (M : mM) (Q : Nat → mM → Prop) : Prop := mWm G y_Sc_commonDivisor (d + 1) 58 [vr a0, vd, vd, vr a3, vr a4, vd, vi l6, vd, vd] [] M (fun r9 M9 => ∃ x9, r9 = some (vr x9) ∧ Q x9 M9)
theorem k_Sc_commonDivisor {G : mG} {d : Nat} {a0 : Nat} {a1 : Nat} {a2 : Nat} {M : mM} {Q : Nat → mM → Prop} (hO : mOk M)
    (h : mK M a0 = 9 ∧ Ci G y_Na_order d [vr a1, vr a2] M (fun x3 M2 => i32 x3 ∧ mOk M2 ∧ (∀ v6 : Int, v6 = (if (x3 < 0) then 0 else 1) → ∀ v12 : Nat, v12 = (if (v6 = 0) then a2 else a1) → mK M2 (mR M a0 0) = 10 ∧ Cv G y_Na_put1 d [vr (mR M a0 0), vr v12] M2 (fun M16 => mOk M16 ∧ (∀ v20 : Nat, v20 = (if (v6 = 0) then a1 else a2) → mK M16 (mR M a0 1) = 10 ∧ Cv G y_Na_put1 d [vr (mR M a0 1), vr v20] M16 (fun M24 => mOk M24 ∧ (h_Sc_commonDivisor_58 G d a0 (mR M a0 0) (mR M a0 1) 0 M24 Q))))))) :
    Cr G y_Sc_commonDivisor (d + 1) [vr a0, vr a1, vr a2] M Q := by
  refine wm_open (y := y_Sc_commonDivisor) rfl (Nat.le_of_ble_eq_true rfl) (L := [vr a0, vr a1, vr a2, vd, vd, vd, vd, vd, vd]) rfl ?_
  obtain ⟨h1, h⟩ := h
  refine wm_aload_n d_Sc_commonDivisor_0 rfl rfl ?_
  refine gf_Sc_12 rfl d_Sc_commonDivisor_1 h1 ?_
  refine wm_astore_n d_Sc_commonDivisor_4 rfl (by decide) (L' := [vr a0, vr a1, vr a2, vr (mR M a0 0), vd, vd, vd, vd, vd]) rfl ?_
  refine wm_aload_n d_Sc_commonDivisor_5 rfl rfl ?_
  refine gf_Sc_18 rfl d_Sc_commonDivisor_6 h1 ?_
  refine wm_astore d_Sc_commonDivisor_9 (by decide) (L' := [vr a0, vr a1, vr a2, vr (mR M a0 0), vr (mR M a0 1), vd, vd, vd, vd]) rfl ?_
  refine wm_aload_n d_Sc_commonDivisor_11 rfl rfl ?_
  refine wm_aload_n d_Sc_commonDivisor_12 rfl rfl ?_
  refine cf_Sc_65 rfl d_Sc_commonDivisor_13 (Nat.le_of_ble_eq_true rfl) (Ci.mono h (fun x3 M2 h => ?_))
  obtain ⟨h4, hOM2, h⟩ := h
  have hJ : ∀ v6 : Int, v6 = (if (x3 < 0) then 0 else 1) → mWm G y_Sc_commonDivisor (d + 1) 24 [vr a0, vr a1, vr a2, vr (mR M a0 0), vr (mR M a0 1), vd, vd, vd, vd] [vi v6] M2 (fun r9 M9 => ∃ x9, r9 = some (vr x9) ∧ Q x9 M9) := by
    intro v6 e8
    have h := h v6 e8
    have h9 : i32 v6 := by rw [e8]; (repeat' split) <;> first | exact ⟨by decide, by decide⟩ | exact ⟨by decide, by decide⟩
    have h10 : (v6 = 0 ∨ v6 = 1) := by rw [e8]; (repeat' split) <;> decide
    refine wm_istore d_Sc_commonDivisor_24 (by decide) (L' := [vr a0, vr a1, vr a2, vr (mR M a0 0), vr (mR M a0 1), vi v6, vd, vd, vd]) rfl ?_
    refine wm_aload_n d_Sc_commonDivisor_26 rfl rfl ?_
    refine wm_iload d_Sc_commonDivisor_27 rfl ?_
    have hJ : ∀ v12 : Nat, v12 = (if (v6 = 0) then a2 else a1) → mWm G y_Sc_commonDivisor (d + 1) 37 [vr a0, vr a1, vr a2, vr (mR M a0 0), vr (mR M a0 1), vi v6, vd, vd, vd] [vr v12, vr (mR M a0 0)] M2 (fun r9 M9 => ∃ x9, r9 = some (vr x9) ∧ Q x9 M9) := by
      intro v12 e14
      have h := h v12 e14
      obtain ⟨h15, h⟩ := h
      refine cf_Sc_69 rfl d_Sc_commonDivisor_37 h15 (Nat.le_of_ble_eq_true rfl) (Cv.mono h (fun M16 h => ?_))
      obtain ⟨hOM16, h⟩ := h
      refine wm_aload d_Sc_commonDivisor_40 rfl ?_
      refine wm_iload d_Sc_commonDivisor_42 rfl ?_
      have hJ : ∀ v20 : Nat, v20 = (if (v6 = 0) then a1 else a2) → mWm G y_Sc_commonDivisor (d + 1) 52 [vr a0, vd, vd, vr (mR M a0 0), vr (mR M a0 1), vd, vd, vd, vd] [vr v20, vr (mR M a0 1)] M16 (fun r9 M9 => ∃ x9, r9 = some (vr x9) ∧ Q x9 M9) := by
        intro v20 e22
        have h := h v20 e22
        obtain ⟨h23, h⟩ := h
        refine cf_Sc_69 rfl d_Sc_commonDivisor_52 h23 (Nat.le_of_ble_eq_true rfl) (Cv.mono h (fun M24 h => ?_))
        obtain ⟨hOM24, h⟩ := h
        refine wm_iconst d_Sc_commonDivisor_55 ?_
        refine wm_istore d_Sc_commonDivisor_56 (by decide) (L' := [vr a0, vd, vd, vr (mR M a0 0), vr (mR M a0 1), vd, vi 0, vd, vd]) rfl ?_
        exact h
      clear h
      refine wm_if_eq (tgt := 51) d_Sc_commonDivisor_44 rfl h9 (fun c19 => ?_) (fun c19 => ?_)
      · refine wm_aload_n d_Sc_commonDivisor_51 rfl rfl ?_
        refine wm_less (L' := [vr a0, vd, vd, vr (mR M a0 0), vr (mR M a0 1), vd, vd, vd, vd]) ⟨Or.inr rfl, Or.inl rfl, Or.inl rfl, Or.inr rfl, Or.inr rfl, Or.inl rfl, Or.inl rfl, Or.inl rfl, Or.inl rfl, trivial⟩ ?_
        exact hJ a1 (if_pos c19).symm
      · refine wm_aload_n d_Sc_commonDivisor_47 rfl rfl ?_
        refine wm_goto (tgt := 52) d_Sc_commonDivisor_48 rfl ?_
        refine wm_less (L' := [vr a0, vd, vd, vr (mR M a0 0), vr (mR M a0 1), vd, vd, vd, vd]) ⟨Or.inr rfl, Or.inl rfl, Or.inl rfl, Or.inr rfl, Or.inr rfl, Or.inl rfl, Or.inl rfl, Or.inl rfl, Or.inl rfl, trivial⟩ ?_
        exact hJ a2 (if_neg c19).symm
    clear h
    refine wm_if_eq (tgt := 36) d_Sc_commonDivisor_29 rfl h9 (fun c11 => ?_) (fun c11 => ?_)
    · refine wm_aload_n d_Sc_commonDivisor_36 rfl rfl ?_
      exact hJ a2 (if_pos c11).symm
    · refine wm_aload_n d_Sc_commonDivisor_32 rfl rfl ?_
      refine wm_goto (tgt := 37) d_Sc_commonDivisor_33 rfl ?_
      exact hJ a1 (if_neg c11).symm
  clear h
  refine wm_if_lt (tgt := 23) d_Sc_commonDivisor_16 rfl h4 (fun c5 => ?_) (fun c5 => ?_)
  · refine wm_iconst d_Sc_commonDivisor_23 ?_
    exact hJ 0 (if_pos c5).symm
  · refine wm_iconst d_Sc_commonDivisor_19 ?_
    refine wm_goto (tgt := 24) d_Sc_commonDivisor_20 rfl ?_
    exact hJ 1 (if_neg c5).symm
theorem k_Sc_commonDivisor_58 {G : mG} {d : Nat} {a0 : Nat} {a3 : Nat} {a4 : Nat} {l6 : Int} {M : mM} {Q : Nat → mM → Prop} (hO : mOk M) (hi_l6 : i32 l6)
    (h : (¬ (1000000 ≤ l6) → mK M a4 = 10) ∧ (((1000000 ≤ l6) ∨ (mI M a4 1 ≤ 0)) → (Q a3 M)) ∧ (¬ ((1000000 ≤ l6) ∨ (mI M a4 1 ≤ 0)) → (mK M a3 = 10 ∧ ((3 ≤ mI M a3 1) → (Ci G y_Na_bits d [vr a3] M (fun x42 M41 => i32 x42 ∧ mOk M41 ∧ (mK M41 a3 = 10 ∧ Cj G y_Na_bitsFrom d [vr a3, vi (x42 - 60)] M41 (fun x46 M45 => i64 x46 ∧ mOk M45 ∧ (mK M45 a4 = 10 ∧ Cj G y_Na_bitsFrom d [vr a4, vi (x42 - 60)] M45 (fun x50 M49 => i64 x50 ∧ mOk M49 ∧ (mK M49 a0 = 9 ∧ Ci G y_Sc_findFactors d [vr a0, vl x46, vl x50] M49 (fun x54 M53 => i32 x54 ∧ mOk M53 ∧ (((x54 = 0) → (mK M53 a0 = 9 ∧ mK M53 a3 = 10 ∧ Cv G y_Na_divide d [vr a3, vr a4, vr (mR M53 a0 2), vr (mR M53 a0 3)] M53 (fun M62 => mOk M62 ∧ (h_Sc_commonDivisor_58 G d a0 a4 a3 (l6 + 1) M62 Q)))) ∧ (¬ (x54 = 0) → (mK M53 a0 = 9 ∧ Cv G y_Na_combine d [vr a3, vr a4, vr (mR M53 a0 6)] M53 (fun M66 => mOk M66 ∧ (h_Sc_commonDivisor_58 G d a0 a3 a4 (l6 + 1) M66 Q)))))))))))))) ∧ (¬ (3 ≤ mI M a3 1) → (Cj G y_Na_bitsFrom d [vr a3, vi 0] M (fun x70 M69 => i64 x70 ∧ mOk M69 ∧ (mK M69 a4 = 10 ∧ Cj G y_Na_bitsFrom d [vr a4, vi 0] M69 (fun x74 M73 => i64 x74 ∧ mOk M73 ∧ (Cj G y_Ma_commonDivisor d [vl x70, vl x74] M73 (fun x77 M76 => i64 x77 ∧ mOk M76 ∧ (mK M76 a3 = 10 ∧ Cv G y_Na_putLong d [vr a3, vl x77] M76 (fun M80 => mOk M80 ∧ (Q a3 M80))))))))))))) :
    h_Sc_commonDivisor_58 G d a0 a3 a4 l6 M Q := by
  unfold h_Sc_commonDivisor_58
  refine wm_iload d_Sc_commonDivisor_58 rfl ?_
  refine wm_ldc (x := 1000000) d_Sc_commonDivisor_60 k5_203 (by decide) ?_
  obtain ⟨s35, h⟩ := h
  have hE0 : ((1000000 ≤ l6) ∨ (mI M a4 1 ≤ 0)) → mWm G y_Sc_commonDivisor (d + 1) 173 [vr a0, vd, vd, vr a3, vr a4, vd, vi l6, vd, vd] [] M (fun r9 M9 => ∃ x9, r9 = some (vr x9) ∧ Q x9 M9) := by
    intro q36
    have h := h.1 q36
    refine wm_aload_n d_Sc_commonDivisor_173 rfl rfl ?_
    refine wm_areturn d_Sc_commonDivisor_174 rfl (Or.inl ⟨_, rfl⟩) ?_
    exact ⟨_, rfl, h⟩
  have hE1 : ¬ ((1000000 ≤ l6) ∨ (mI M a4 1 ≤ 0)) → mWm G y_Sc_commonDivisor (d + 1) 73 [vr a0, vd, vd, vr a3, vr a4, vd, vi l6, vd, vd] [] M (fun r9 M9 => ∃ x9, r9 = some (vr x9) ∧ Q x9 M9) := by
    intro q37
    have h := h.2 q37
    obtain ⟨h38, h⟩ := h
    refine wm_aload_n d_Sc_commonDivisor_73 rfl rfl ?_
    refine gf_Sc_57 rfl d_Sc_commonDivisor_74 h38 ?_
    refine wm_iconst d_Sc_commonDivisor_77 ?_
    refine wm_icmp_ge (tgt := 101) d_Sc_commonDivisor_78 rfl (hO _ _).1 ⟨by decide, by decide⟩ (fun c40 => ?_) (fun c40 => ?_)
    · replace h := h.1 c40
      refine wm_aload_n d_Sc_commonDivisor_101 rfl rfl ?_
      refine cf_Sc_88 rfl d_Sc_commonDivisor_102 h38 (Nat.le_of_ble_eq_true rfl) (Ci.mono h (fun x42 M41 h => ?_))
      obtain ⟨h43, hOM41, h⟩ := h
      obtain ⟨h44, h⟩ := h
      refine wm_bipush d_Sc_commonDivisor_105 (by decide) ?_
      refine wm_isub d_Sc_commonDivisor_107 ?_
      refine wm_istore d_Sc_commonDivisor_108 (by decide) (L' := [vr a0, vd, vd, vr a3, vr a4, vd, vi l6, vi (x42 - 60), vd]) rfl ?_
      refine wm_aload_n d_Sc_commonDivisor_110 rfl rfl ?_
      refine wm_aload_n d_Sc_commonDivisor_111 rfl rfl ?_
      refine wm_iload d_Sc_commonDivisor_112 rfl ?_
      refine cf_Sc_74 rfl d_Sc_commonDivisor_114 h44 (Nat.le_of_ble_eq_true rfl) (Cj.mono h (fun x46 M45 h => ?_))
      obtain ⟨h47, hOM45, h⟩ := h
      obtain ⟨h48, h⟩ := h
      refine wm_aload d_Sc_commonDivisor_117 rfl ?_
      refine wm_iload d_Sc_commonDivisor_119 rfl ?_
      refine cf_Sc_74 rfl d_Sc_commonDivisor_121 h48 (Nat.le_of_ble_eq_true rfl) (Cj.mono h (fun x50 M49 h => ?_))
      obtain ⟨h51, hOM49, h⟩ := h
      obtain ⟨h52, h⟩ := h
      refine cf_Sc_92 rfl d_Sc_commonDivisor_124 h52 (Nat.le_of_ble_eq_true rfl) (Ci.mono h (fun x54 M53 h => ?_))
      obtain ⟨h55, hOM53, h⟩ := h
      refine wm_if_eq (tgt := 143) d_Sc_commonDivisor_127 rfl h55 (fun c59 => ?_) (fun c59 => ?_)
      · replace h := h.1 c59
        obtain ⟨h60, h⟩ := h
        obtain ⟨h61, h⟩ := h
        refine wm_aload_n d_Sc_commonDivisor_143 rfl rfl ?_
        refine wm_aload d_Sc_commonDivisor_144 rfl ?_
        refine wm_aload_n d_Sc_commonDivisor_146 rfl rfl ?_
        refine gf_Sc_21 rfl d_Sc_commonDivisor_147 h60 ?_
        refine wm_aload_n d_Sc_commonDivisor_150 rfl rfl ?_
        refine gf_Sc_24 rfl d_Sc_commonDivisor_151 h60 ?_
        refine cf_Sc_53 rfl d_Sc_commonDivisor_154 h61 (Nat.le_of_ble_eq_true rfl) (Cv.mono h (fun M62 h => ?_))
        obtain ⟨hOM62, h⟩ := h
        refine wm_aload_n d_Sc_commonDivisor_157 rfl rfl ?_
        refine wm_astore d_Sc_commonDivisor_158 (by decide) (L' := [vr a0, vd, vd, vr a3, vr a4, vd, vi l6, vi (x42 - 60), vr a3]) rfl ?_
        refine wm_aload d_Sc_commonDivisor_160 rfl ?_
        refine wm_astore_n d_Sc_commonDivisor_162 rfl (by decide) (L' := [vr a0, vd, vd, vr a4, vr a4, vd, vi l6, vi (x42 - 60), vr a3]) rfl ?_
        refine wm_aload d_Sc_commonDivisor_163 rfl ?_
        refine wm_astore d_Sc_commonDivisor_165 (by decide) (L' := [vr a0, vd, vd, vr a4, vr a3, vd, vi l6, vi (x42 - 60), vr a3]) rfl ?_
        refine wm_iinc d_Sc_commonDivisor_167 (by decide) rfl (L' := [vr a0, vd, vd, vr a4, vr a3, vd, vi (l6 + 1), vi (x42 - 60), vr a3]) rfl ?_
        refine wm_goto (tgt := 58) d_Sc_commonDivisor_170 rfl ?_
        refine wm_less (L' := [vr a0, vd, vd, vr a4, vr a3, vd, vi (l6 + 1), vd, vd]) ⟨Or.inr rfl, Or.inl rfl, Or.inl rfl, Or.inr rfl, Or.inr rfl, Or.inl rfl, Or.inr rfl, Or.inl rfl, Or.inl rfl, trivial⟩ ?_
        exact h
      · replace h := h.2 c59
        obtain ⟨h65, h⟩ := h
        refine wm_aload_n d_Sc_commonDivisor_130 rfl rfl ?_
        refine wm_aload d_Sc_commonDivisor_131 rfl ?_
        refine wm_aload_n d_Sc_commonDivisor_133 rfl rfl ?_
        refine gf_Sc_33 rfl d_Sc_commonDivisor_134 h65 ?_
        refine cf_Sc_96 rfl d_Sc_commonDivisor_137 (Nat.le_of_ble_eq_true rfl) (Cv.mono h (fun M66 h => ?_))
        obtain ⟨hOM66, h⟩ := h
        refine wm_goto (tgt := 167) d_Sc_commonDivisor_140 rfl ?_
        refine wm_iinc d_Sc_commonDivisor_167 (by decide) rfl (L' := [vr a0, vd, vd, vr a3, vr a4, vd, vi (l6 + 1), vi (x42 - 60), vd]) rfl ?_
        refine wm_goto (tgt := 58) d_Sc_commonDivisor_170 rfl ?_
        refine wm_less (L' := [vr a0, vd, vd, vr a3, vr a4, vd, vi (l6 + 1), vd, vd]) ⟨Or.inr rfl, Or.inl rfl, Or.inl rfl, Or.inr rfl, Or.inr rfl, Or.inl rfl, Or.inr rfl, Or.inl rfl, Or.inl rfl, trivial⟩ ?_
        exact h
    · replace h := h.2 c40
      refine wm_aload_n d_Sc_commonDivisor_81 rfl rfl ?_
      refine wm_aload_n d_Sc_commonDivisor_82 rfl rfl ?_
      refine wm_iconst d_Sc_commonDivisor_83 ?_
      refine cf_Sc_74 rfl d_Sc_commonDivisor_84 h38 (Nat.le_of_ble_eq_true rfl) (Cj.mono h (fun x70 M69 h => ?_))
      obtain ⟨h71, hOM69, h⟩ := h
      obtain ⟨h72, h⟩ := h
      refine wm_aload d_Sc_commonDivisor_87 rfl ?_
      refine wm_iconst d_Sc_commonDivisor_89 ?_
      refine cf_Sc_74 rfl d_Sc_commonDivisor_90 h72 (Nat.le_of_ble_eq_true rfl) (Cj.mono h (fun x74 M73 h => ?_))
      obtain ⟨h75, hOM73, h⟩ := h
      refine cf_Sc_78 rfl d_Sc_commonDivisor_93 (Nat.le_of_ble_eq_true rfl) (Cj.mono h (fun x77 M76 h => ?_))
      obtain ⟨h78, hOM76, h⟩ := h
      obtain ⟨h79, h⟩ := h
      refine cf_Sc_84 rfl d_Sc_commonDivisor_96 h79 (Nat.le_of_ble_eq_true rfl) (Cv.mono h (fun M80 h => ?_))
      obtain ⟨hOM80, h⟩ := h
      refine wm_aload_n d_Sc_commonDivisor_99 rfl rfl ?_
      refine wm_areturn d_Sc_commonDivisor_100 rfl (Or.inl ⟨_, rfl⟩) ?_
      exact ⟨_, rfl, h⟩
  clear h
  have s83 := s35
  refine wm_icmp_ge (tgt := 173) d_Sc_commonDivisor_62 rfl hi_l6 ⟨by decide, by decide⟩ (fun c34 => ?_) (fun c34 => ?_)
  · exact hE0 (Or.inl c34)
  · have s83 := s83 c34
    have h30 := s83
    refine wm_aload d_Sc_commonDivisor_65 rfl ?_
    refine gf_Sc_57 rfl d_Sc_commonDivisor_67 h30 ?_
    refine wm_if_le (tgt := 173) d_Sc_commonDivisor_70 rfl (hO _ _).1 (fun c33 => ?_) (fun c33 => ?_)
    · exact hE0 (Or.inr c33)
    · exact hE1 (fun z84 => Or.elim z84 c34 c33)
theorem d_Sc_findFactors_0 : decode y_Sc_findFactors.2.1 0 = .ok (.lload_n 1, 1) := by decide +kernel
theorem d_Sc_findFactors_1 : decode y_Sc_findFactors.2.1 1 = .ok (.lstore 5, 2) := by decide +kernel
theorem d_Sc_findFactors_3 : decode y_Sc_findFactors.2.1 3 = .ok (.lload_n 3, 1) := by decide +kernel
theorem d_Sc_findFactors_4 : decode y_Sc_findFactors.2.1 4 = .ok (.lstore 7, 2) := by decide +kernel
theorem d_Sc_findFactors_6 : decode y_Sc_findFactors.2.1 6 = .ok (.lconst 1, 1) := by decide +kernel
theorem d_Sc_findFactors_7 : decode y_Sc_findFactors.2.1 7 = .ok (.lstore 9, 2) := by decide +kernel
theorem d_Sc_findFactors_9 : decode y_Sc_findFactors.2.1 9 = .ok (.lconst 0, 1) := by decide +kernel
theorem d_Sc_findFactors_10 : decode y_Sc_findFactors.2.1 10 = .ok (.lstore 11, 2) := by decide +kernel
theorem d_Sc_findFactors_12 : decode y_Sc_findFactors.2.1 12 = .ok (.lconst 0, 1) := by decide +kernel
theorem d_Sc_findFactors_13 : decode y_Sc_findFactors.2.1 13 = .ok (.lstore 13, 2) := by decide +kernel
theorem d_Sc_findFactors_15 : decode y_Sc_findFactors.2.1 15 = .ok (.lconst 1, 1) := by decide +kernel
theorem d_Sc_findFactors_16 : decode y_Sc_findFactors.2.1 16 = .ok (.lstore 15, 2) := by decide +kernel
theorem d_Sc_findFactors_18 : decode y_Sc_findFactors.2.1 18 = .ok (.iconst 0, 1) := by decide +kernel
theorem d_Sc_findFactors_19 : decode y_Sc_findFactors.2.1 19 = .ok (.istore 17, 2) := by decide +kernel
theorem d_Sc_findFactors_21 : decode y_Sc_findFactors.2.1 21 = .ok (.iload 17, 2) := by decide +kernel
theorem d_Sc_findFactors_23 : decode y_Sc_findFactors.2.1 23 = .ok (.bipush 100, 2) := by decide +kernel
theorem d_Sc_findFactors_25 : decode y_Sc_findFactors.2.1 25 = .ok (.if_icmp .ge 152, 3) := by decide +kernel
theorem d_Sc_findFactors_28 : decode y_Sc_findFactors.2.1 28 = .ok (.lload 7, 2) := by decide +kernel
theorem d_Sc_findFactors_30 : decode y_Sc_findFactors.2.1 30 = .ok (.lload 13, 2) := by decide +kernel
theorem d_Sc_findFactors_32 : decode y_Sc_findFactors.2.1 32 = .ok (.ladd, 1) := by decide +kernel
theorem d_Sc_findFactors_33 : decode y_Sc_findFactors.2.1 33 = .ok (.lconst 0, 1) := by decide +kernel
theorem d_Sc_findFactors_34 : decode y_Sc_findFactors.2.1 34 = .ok (.lcmp, 1) := by decide +kernel
theorem d_Sc_findFactors_35 : decode y_Sc_findFactors.2.1 35 = .ok (.ifCond .eq 142, 3) := by decide +kernel
theorem d_Sc_findFactors_38 : decode y_Sc_findFactors.2.1 38 = .ok (.lload 7, 2) := by decide +kernel
theorem d_Sc_findFactors_40 : decode y_Sc_findFactors.2.1 40 = .ok (.lload 15, 2) := by decide +kernel
theorem d_Sc_findFactors_42 : decode y_Sc_findFactors.2.1 42 = .ok (.ladd, 1) := by decide +kernel
theorem d_Sc_findFactors_43 : decode y_Sc_findFactors.2.1 43 = .ok (.lconst 0, 1) := by decide +kernel
theorem d_Sc_findFactors_44 : decode y_Sc_findFactors.2.1 44 = .ok (.lcmp, 1) := by decide +kernel
theorem d_Sc_findFactors_45 : decode y_Sc_findFactors.2.1 45 = .ok (.ifCond .eq 132, 3) := by decide +kernel
theorem d_Sc_findFactors_48 : decode y_Sc_findFactors.2.1 48 = .ok (.lload 5, 2) := by decide +kernel
theorem d_Sc_findFactors_50 : decode y_Sc_findFactors.2.1 50 = .ok (.lload 9, 2) := by decide +kernel
theorem d_Sc_findFactors_52 : decode y_Sc_findFactors.2.1 52 = .ok (.ladd, 1) := by decide +kernel
theorem d_Sc_findFactors_53 : decode y_Sc_findFactors.2.1 53 = .ok (.lload 7, 2) := by decide +kernel
theorem d_Sc_findFactors_55 : decode y_Sc_findFactors.2.1 55 = .ok (.lload 13, 2) := by decide +kernel
theorem d_Sc_findFactors_57 : decode y_Sc_findFactors.2.1 57 = .ok (.ladd, 1) := by decide +kernel
theorem d_Sc_findFactors_58 : decode y_Sc_findFactors.2.1 58 = .ok (.ldiv, 1) := by decide +kernel
theorem d_Sc_findFactors_59 : decode y_Sc_findFactors.2.1 59 = .ok (.lstore 18, 2) := by decide +kernel
theorem d_Sc_findFactors_61 : decode y_Sc_findFactors.2.1 61 = .ok (.lload 18, 2) := by decide +kernel
theorem d_Sc_findFactors_63 : decode y_Sc_findFactors.2.1 63 = .ok (.lload 5, 2) := by decide +kernel
theorem d_Sc_findFactors_65 : decode y_Sc_findFactors.2.1 65 = .ok (.lload 11, 2) := by decide +kernel
theorem d_Sc_findFactors_67 : decode y_Sc_findFactors.2.1 67 = .ok (.ladd, 1) := by decide +kernel
theorem d_Sc_findFactors_68 : decode y_Sc_findFactors.2.1 68 = .ok (.lload 7, 2) := by decide +kernel
theorem d_Sc_findFactors_70 : decode y_Sc_findFactors.2.1 70 = .ok (.lload 15, 2) := by decide +kernel
theorem d_Sc_findFactors_72 : decode y_Sc_findFactors.2.1 72 = .ok (.ladd, 1) := by decide +kernel
theorem d_Sc_findFactors_73 : decode y_Sc_findFactors.2.1 73 = .ok (.ldiv, 1) := by decide +kernel
theorem d_Sc_findFactors_74 : decode y_Sc_findFactors.2.1 74 = .ok (.lcmp, 1) := by decide +kernel
theorem d_Sc_findFactors_177 : decode y_Sc_findFactors.2.1 177 = .ok (.aload_n 0, 1) := by decide +kernel
theorem d_Sc_findFactors_178 : decode y_Sc_findFactors.2.1 178 = .ok (.getfield 33, 3) := by decide +kernel
theorem d_Sc_findFactors_181 : decode y_Sc_findFactors.2.1 181 = .ok (.iconst 0, 1) := by decide +kernel
theorem d_Sc_findFactors_182 : decode y_Sc_findFactors.2.1 182 = .ok (.lload 9, 2) := by decide +kernel
theorem d_Sc_findFactors_184 : decode y_Sc_findFactors.2.1 184 = .ok (.lastore, 1) := by decide +kernel
theorem d_Sc_findFactors_185 : decode y_Sc_findFactors.2.1 185 = .ok (.aload_n 0, 1) := by decide +kernel
theorem d_Sc_findFactors_186 : decode y_Sc_findFactors.2.1 186 = .ok (.getfield 33, 3) := by decide +kernel
theorem d_Sc_findFactors_189 : decode y_Sc_findFactors.2.1 189 = .ok (.iconst 1, 1) := by decide +kernel
theorem d_Sc_findFactors_190 : decode y_Sc_findFactors.2.1 190 = .ok (.lload 11, 2) := by decide +kernel
theorem d_Sc_findFactors_192 : decode y_Sc_findFactors.2.1 192 = .ok (.lastore, 1) := by decide +kernel
theorem d_Sc_findFactors_193 : decode y_Sc_findFactors.2.1 193 = .ok (.aload_n 0, 1) := by decide +kernel
theorem d_Sc_findFactors_194 : decode y_Sc_findFactors.2.1 194 = .ok (.getfield 33, 3) := by decide +kernel
theorem d_Sc_findFactors_197 : decode y_Sc_findFactors.2.1 197 = .ok (.iconst 2, 1) := by decide +kernel
theorem d_Sc_findFactors_198 : decode y_Sc_findFactors.2.1 198 = .ok (.lload 13, 2) := by decide +kernel
theorem d_Sc_findFactors_200 : decode y_Sc_findFactors.2.1 200 = .ok (.lastore, 1) := by decide +kernel
theorem d_Sc_findFactors_201 : decode y_Sc_findFactors.2.1 201 = .ok (.aload_n 0, 1) := by decide +kernel
theorem d_Sc_findFactors_202 : decode y_Sc_findFactors.2.1 202 = .ok (.getfield 33, 3) := by decide +kernel
theorem d_Sc_findFactors_205 : decode y_Sc_findFactors.2.1 205 = .ok (.iconst 3, 1) := by decide +kernel
theorem d_Sc_findFactors_206 : decode y_Sc_findFactors.2.1 206 = .ok (.lload 15, 2) := by decide +kernel
theorem d_Sc_findFactors_208 : decode y_Sc_findFactors.2.1 208 = .ok (.lastore, 1) := by decide +kernel
theorem d_Sc_findFactors_209 : decode y_Sc_findFactors.2.1 209 = .ok (.lload 11, 2) := by decide +kernel
theorem d_Sc_findFactors_211 : decode y_Sc_findFactors.2.1 211 = .ok (.lconst 0, 1) := by decide +kernel
theorem d_Sc_findFactors_212 : decode y_Sc_findFactors.2.1 212 = .ok (.lcmp, 1) := by decide +kernel
theorem d_Sc_findFactors_213 : decode y_Sc_findFactors.2.1 213 = .ok (.ifCond .eq 7, 3) := by decide +kernel
theorem d_Sc_findFactors_220 : decode y_Sc_findFactors.2.1 220 = .ok (.iconst 0, 1) := by decide +kernel
theorem d_Sc_findFactors_216 : decode y_Sc_findFactors.2.1 216 = .ok (.iconst 1, 1) := by decide +kernel
theorem d_Sc_findFactors_217 : decode y_Sc_findFactors.2.1 217 = .ok (.goto 4, 3) := by decide +kernel
theorem d_Sc_findFactors_221 : decode y_Sc_findFactors.2.1 221 = .ok (.ireturn, 1) := by decide +kernel
theorem d_Sc_findFactors_75 : decode y_Sc_findFactors.2.1 75 = .ok (.ifCond .ne 102, 3) := by decide +kernel
theorem d_Sc_findFactors_78 : decode y_Sc_findFactors.2.1 78 = .ok (.lload 18, 2) := by decide +kernel
theorem d_Sc_findFactors_80 : decode y_Sc_findFactors.2.1 80 = .ok (.ldc2_w 100, 3) := by decide +kernel
theorem d_Sc_findFactors_83 : decode y_Sc_findFactors.2.1 83 = .ok (.lcmp, 1) := by decide +kernel
theorem d_Sc_findFactors_84 : decode y_Sc_findFactors.2.1 84 = .ok (.ifCond .le 6, 3) := by decide +kernel
theorem d_Sc_findFactors_90 : decode y_Sc_findFactors.2.1 90 = .ok (.lload 9, 2) := by decide +kernel
theorem d_Sc_findFactors_92 : decode y_Sc_findFactors.2.1 92 = .ok (.lload 18, 2) := by decide +kernel
theorem d_Sc_findFactors_94 : decode y_Sc_findFactors.2.1 94 = .ok (.lload 13, 2) := by decide +kernel
theorem d_Sc_findFactors_96 : decode y_Sc_findFactors.2.1 96 = .ok (.lmul, 1) := by decide +kernel
theorem d_Sc_findFactors_97 : decode y_Sc_findFactors.2.1 97 = .ok (.lsub, 1) := by decide +kernel
theorem d_Sc_findFactors_98 : decode y_Sc_findFactors.2.1 98 = .ok (.lstore 20, 2) := by decide +kernel
theorem d_Sc_findFactors_100 : decode y_Sc_findFactors.2.1 100 = .ok (.lload 11, 2) := by decide +kernel
theorem d_Sc_findFactors_102 : decode y_Sc_findFactors.2.1 102 = .ok (.lload 18, 2) := by decide +kernel
theorem d_Sc_findFactors_104 : decode y_Sc_findFactors.2.1 104 = .ok (.lload 15, 2) := by decide +kernel
theorem d_Sc_findFactors_106 : decode y_Sc_findFactors.2.1 106 = .ok (.lmul, 1) := by decide +kernel
theorem d_Sc_findFactors_107 : decode y_Sc_findFactors.2.1 107 = .ok (.lsub, 1) := by decide +kernel
theorem d_Sc_findFactors_108 : decode y_Sc_findFactors.2.1 108 = .ok (.lstore 22, 2) := by decide +kernel
theorem d_Sc_findFactors_110 : decode y_Sc_findFactors.2.1 110 = .ok (.lload 20, 2) := by decide +kernel
theorem d_Sc_findFactors_112 : decode y_Sc_findFactors.2.1 112 = .ok (.invokestatic 102, 3) := by decide +kernel
theorem d_Sc_findFactors_115 : decode y_Sc_findFactors.2.1 115 = .ok (.ldc2_w 100, 3) := by decide +kernel
theorem d_Sc_findFactors_118 : decode y_Sc_findFactors.2.1 118 = .ok (.lcmp, 1) := by decide +kernel
theorem d_Sc_findFactors_87 : decode y_Sc_findFactors.2.1 87 = .ok (.goto 90, 3) := by decide +kernel
theorem d_Sc_findFactors_119 : decode y_Sc_findFactors.2.1 119 = .ok (.ifCond .gt 58, 3) := by decide +kernel
theorem d_Sc_findFactors_122 : decode y_Sc_findFactors.2.1 122 = .ok (.lload 22, 2) := by decide +kernel
theorem d_Sc_findFactors_124 : decode y_Sc_findFactors.2.1 124 = .ok (.invokestatic 102, 3) := by decide +kernel
theorem d_Sc_findFactors_127 : decode y_Sc_findFactors.2.1 127 = .ok (.ldc2_w 100, 3) := by decide +kernel
theorem d_Sc_findFactors_130 : decode y_Sc_findFactors.2.1 130 = .ok (.lcmp, 1) := by decide +kernel
theorem d_Sc_findFactors_131 : decode y_Sc_findFactors.2.1 131 = .ok (.ifCond .le 6, 3) := by decide +kernel
theorem d_Sc_findFactors_137 : decode y_Sc_findFactors.2.1 137 = .ok (.lload 5, 2) := by decide +kernel
theorem d_Sc_findFactors_139 : decode y_Sc_findFactors.2.1 139 = .ok (.lload 18, 2) := by decide +kernel
theorem d_Sc_findFactors_141 : decode y_Sc_findFactors.2.1 141 = .ok (.lload 7, 2) := by decide +kernel
theorem d_Sc_findFactors_143 : decode y_Sc_findFactors.2.1 143 = .ok (.lmul, 1) := by decide +kernel
theorem d_Sc_findFactors_144 : decode y_Sc_findFactors.2.1 144 = .ok (.lsub, 1) := by decide +kernel
theorem d_Sc_findFactors_145 : decode y_Sc_findFactors.2.1 145 = .ok (.lstore 24, 2) := by decide +kernel
theorem d_Sc_findFactors_147 : decode y_Sc_findFactors.2.1 147 = .ok (.lload 13, 2) := by decide +kernel
theorem d_Sc_findFactors_149 : decode y_Sc_findFactors.2.1 149 = .ok (.lstore 9, 2) := by decide +kernel
theorem d_Sc_findFactors_151 : decode y_Sc_findFactors.2.1 151 = .ok (.lload 15, 2) := by decide +kernel
theorem d_Sc_findFactors_153 : decode y_Sc_findFactors.2.1 153 = .ok (.lstore 11, 2) := by decide +kernel
theorem d_Sc_findFactors_155 : decode y_Sc_findFactors.2.1 155 = .ok (.lload 7, 2) := by decide +kernel
theorem d_Sc_findFactors_157 : decode y_Sc_findFactors.2.1 157 = .ok (.lstore 5, 2) := by decide +kernel
theorem d_Sc_findFactors_159 : decode y_Sc_findFactors.2.1 159 = .ok (.lload 20, 2) := by decide +kernel
theorem d_Sc_findFactors_161 : decode y_Sc_findFactors.2.1 161 = .ok (.lstore 13, 2) := by decide +kernel
theorem d_Sc_findFactors_163 : decode y_Sc_findFactors.2.1 163 = .ok (.lload 22, 2) := by decide +kernel
theorem d_Sc_findFactors_165 : decode y_Sc_findFactors.2.1 165 = .ok (.lstore 15, 2) := by decide +kernel
theorem d_Sc_findFactors_167 : decode y_Sc_findFactors.2.1 167 = .ok (.lload 24, 2) := by decide +kernel
theorem d_Sc_findFactors_169 : decode y_Sc_findFactors.2.1 169 = .ok (.lstore 7, 2) := by decide +kernel
theorem d_Sc_findFactors_171 : decode y_Sc_findFactors.2.1 171 = .ok (.iinc 17 1, 3) := by decide +kernel
theorem d_Sc_findFactors_174 : decode y_Sc_findFactors.2.1 174 = .ok (.goto (-153), 3) := by decide +kernel
theorem d_Sc_findFactors_134 : decode y_Sc_findFactors.2.1 134 = .ok (.goto 43, 3) := by decide +kernel
def h_Sc_findFactors_21 (G : mG) (d : Nat) (a0 : Nat) (j5 : Int) (j7 : Int) (j9 : Int) (j11 : Int) (j13 : Int) (j15 : Int) (l17 : Int) (M : mM) (Q : Int → mM → Prop) : Prop := mWm G y_Sc_findFactors (d + 1) 21 [vr a0, vd, vd, vd, vd, vl j5, vd, vl j7, vd, vl j9, vd, vl j11, vd, vl j13, vd, vl j15, vd, vi l17, vd, vd, vd, vd, vd, vd, vd, vd] [] M (fun r9 M9 => ∃ x9, r9 = some (vi x9) ∧ Q x9 M9)
theorem k_Sc_findFactors {G : mG} {d : Nat} {a0 : Nat} {j1 : Int} {j3 : Int} {M : mM} {Q : Int → mM → Prop} (hO : mOk M) (hi_j1 : i64 j1) (hi_j3 : i64 j3)
    (h : h_Sc_findFactors_21 G d a0 j1 j3 1 0 0 1 0 M Q) :
    Ci G y_Sc_findFactors (d + 1) [vr a0, vl j1, vl j3] M Q := by
  refine wm_open (y := y_Sc_findFactors) rfl (Nat.le_of_ble_eq_true rfl) (L := [vr a0, vl j1, vd, vl j3, vd, vd, vd, vd, vd, vd, vd, vd, vd, vd, vd, vd, vd, vd, vd, vd, vd, vd, vd, vd, vd, vd]) rfl ?_
  refine wm_lload_n d_Sc_findFactors_0 rfl rfl ?_
  refine wm_lstore d_Sc_findFactors_1 (by decide) (L' := [vr a0, vl j1, vd, vl j3, vd, vl j1, vd, vd, vd, vd, vd, vd, vd, vd, vd, vd, vd, vd, vd, vd, vd, vd, vd, vd, vd, vd]) rfl ?_
  refine wm_lload_n d_Sc_findFactors_3 rfl rfl ?_
  refine wm_lstore d_Sc_findFactors_4 (by decide) (L' := [vr a0, vl j1, vd, vl j3, vd, vl j1, vd, vl j3, vd, vd, vd, vd, vd, vd, vd, vd, vd, vd, vd, vd, vd, vd, vd, vd, vd, vd]) rfl ?_
  refine wm_lconst (x := 1) d_Sc_findFactors_6 rfl ?_
  refine wm_lstore d_Sc_findFactors_7 (by decide) (L' := [vr a0, vl j1, vd, vl j3, vd, vl j1, vd, vl j3, vd, vl 1, vd, vd, vd, vd, vd, vd, vd, vd, vd, vd, vd, vd, vd, vd, vd, vd]) rfl ?_
  refine wm_lconst (x := 0) d_Sc_findFactors_9 rfl ?_
  refine wm_lstore d_Sc_findFactors_10 (by decide) (L' := [vr a0, vl j1, vd, vl j3, vd, vl j1, vd, vl j3, vd, vl 1, vd, vl 0, vd, vd, vd, vd, vd, vd, vd, vd, vd, vd, vd, vd, vd, vd]) rfl ?_
  refine wm_lconst (x := 0) d_Sc_findFactors_12 rfl ?_
  refine wm_lstore d_Sc_findFactors_13 (by decide) (L' := [vr a0, vl j1, vd, vl j3, vd, vl j1, vd, vl j3, vd, vl 1, vd, vl 0, vd, vl 0, vd, vd, vd, vd, vd, vd, vd, vd, vd, vd, vd, vd]) rfl ?_
  refine wm_lconst (x := 1) d_Sc_findFactors_15 rfl ?_
  refine wm_lstore d_Sc_findFactors_16 (by decide) (L' := [vr a0, vl j1, vd, vl j3, vd, vl j1, vd, vl j3, vd, vl 1, vd, vl 0, vd, vl 0, vd, vl 1, vd, vd, vd, vd, vd, vd, vd, vd, vd, vd]) rfl ?_
  refine wm_iconst d_Sc_findFactors_18 ?_
  refine wm_istore d_Sc_findFactors_19 (by decide) (L' := [vr a0, vl j1, vd, vl j3, vd, vl j1, vd, vl j3, vd, vl 1, vd, vl 0, vd, vl 0, vd, vl 1, vd, vi 0, vd, vd, vd, vd, vd, vd, vd, vd]) rfl ?_
  refine wm_less (L' := [vr a0, vd, vd, vd, vd, vl j1, vd, vl j3, vd, vl 1, vd, vl 0, vd, vl 0, vd, vl 1, vd, vi 0, vd, vd, vd, vd, vd, vd, vd, vd]) ⟨Or.inr rfl, Or.inl rfl, Or.inl rfl, Or.inl rfl, Or.inl rfl, Or.inr rfl, Or.inl rfl, Or.inr rfl, Or.inl rfl, Or.inr rfl, Or.inl rfl, Or.inr rfl, Or.inl rfl, Or.inr rfl, Or.inl rfl, Or.inr rfl, Or.inl rfl, Or.inr rfl, Or.inl rfl, Or.inl rfl, Or.inl rfl, Or.inl rfl, Or.inl rfl, Or.inl rfl, Or.inl rfl, Or.inl rfl, trivial⟩ ?_
  exact h
theorem k_Sc_findFactors_21 {G : mG} {d : Nat} {a0 : Nat} {j5 : Int} {j7 : Int} {j9 : Int} {j11 : Int} {j13 : Int} {j15 : Int} {l17 : Int} {M : mM} {Q : Int → mM → Prop} (hO : mOk M) (hi_j5 : i64 j5) (hi_j7 : i64 j7) (hi_j9 : i64 j9) (hi_j11 : i64 j11) (hi_j13 : i64 j13) (hi_j15 : i64 j15) (hi_l17 : i32 l17)
    (h : (¬ (100 ≤ l17) → (i64 (j7 + j13) ∧ (¬ (cmpL (j7 + j13) 0 = 0) → i64 (j7 + j15)))) ∧ (((100 ≤ l17) ∨ ((cmpL (j7 + j13) 0 = 0) ∨ (cmpL (j7 + j15) 0 = 0))) → (mK M a0 = 9 ∧ mK M (mR M a0 6) = 33 ∧ ((0 : Int) ≤ 0 ∧ 0 < (mN M (mR M a0 6) : Int)) ∧ ∀ M17, M17 = mUL M (mR M a0 6) 0 j9 → mK M17 (mR M17 a0 6) = 33 ∧ ((0 : Int) ≤ 1 ∧ 1 < (mN M17 (mR M17 a0 6) : Int)) ∧ ∀ M21, M21 = mUL M17 (mR M17 a0 6) 1 j11 → mK M21 (mR M21 a0 6) = 33 ∧ ((0 : Int) ≤ 2 ∧ 2 < (mN M21 (mR M21 a0 6) : Int)) ∧ ∀ M25, M25 = mUL M21 (mR M21 a0 6) 2 j13 → mK M25 (mR M25 a0 6) = 33 ∧ ((0 : Int) ≤ 3 ∧ 3 < (mN M25 (mR M25 a0 6) : Int)) ∧ ∀ M29, M29 = mUL M25 (mR M25 a0 6) 3 j15 → ∀ v32 : Int, v32 = (if (cmpL j11 0 = 0) then 0 else 1) → Q v32 M29)) ∧ (¬ ((100 ≤ l17) ∨ ((cmpL (j7 + j13) 0 = 0) ∨ (cmpL (j7 + j15) 0 = 0))) → (i64 (j5 + j9) ∧ i64 (j7 + j13) ∧ (j7 + j13) ≠ 0 ∧ i64 (j5 + j11) ∧ i64 (j7 + j15) ∧ (j7 + j15) ≠ 0 ∧ i64 (Int.tdiv (j5 + j9) (j7 + j13)) ∧ i64 (Int.tdiv (j5 + j11) (j7 + j15)) ∧ ((cmpL (Int.tdiv (j5 + j9) (j7 + j13)) (Int.tdiv (j5 + j11) (j7 + j15)) = 0) → (((cmpL (Int.tdiv (j5 + j9) (j7 + j13)) 1073741823 ≤ 0) → (i64 (j9 - ((Int.tdiv (j5 + j9) (j7 + j13)) * j13)) ∧ i64 (if 0 < j9 - ((Int.tdiv (j5 + j9) (j7 + j13)) * j13) then j9 - ((Int.tdiv (j5 + j9) (j7 + j13)) * j13) else -(j9 - ((Int.tdiv (j5 + j9) (j7 + j13)) * j13))) ∧ ((0 < cmpL (if 0 < j9 - ((Int.tdiv (j5 + j9) (j7 + j13)) * j13) then j9 - ((Int.tdiv (j5 + j9) (j7 + j13)) * j13) else -(j9 - ((Int.tdiv (j5 + j9) (j7 + j13)) * j13))) 1073741823) → (mK M a0 = 9 ∧ mK M (mR M a0 6) = 33 ∧ ((0 : Int) ≤ 0 ∧ 0 < (mN M (mR M a0 6) : Int)) ∧ ∀ M93, M93 = mUL M (mR M a0 6) 0 j9 → mK M93 (mR M93 a0 6) = 33 ∧ ((0 : Int) ≤ 1 ∧ 1 < (mN M93 (mR M93 a0 6) : Int)) ∧ ∀ M97, M97 = mUL M93 (mR M93 a0 6) 1 j11 → mK M97 (mR M97 a0 6) = 33 ∧ ((0 : Int) ≤ 2 ∧ 2 < (mN M97 (mR M97 a0 6) : Int)) ∧ ∀ M101, M101 = mUL M97 (mR M97 a0 6) 2 j13 → mK M101 (mR M101 a0 6) = 33 ∧ ((0 : Int) ≤ 3 ∧ 3 < (mN M101 (mR M101 a0 6) : Int)) ∧ ∀ M105, M105 = mUL M101 (mR M101 a0 6) 3 j15 → ∀ v108 : Int, v108 = (if (cmpL j11 0 = 0) then 0 else 1) → Q v108 M105)) ∧ (¬ (0 < cmpL (if 0 < j9 - ((Int.tdiv (j5 + j9) (j7 + j13)) * j13) then j9 - ((Int.tdiv (j5 + j9) (j7 + j13)) * j13) else -(j9 - ((Int.tdiv (j5 + j9) (j7 + j13)) * j13))) 1073741823) → (i64 (j11 - ((Int.tdiv (j5 + j9) (j7 + j13)) * j15)) ∧ i64 (if 0 < j11 - ((Int.tdiv (j5 + j9) (j7 + j13)) * j15) then j11 - ((Int.tdiv (j5 + j9) (j7 + j13)) * j15) else -(j11 - ((Int.tdiv (j5 + j9) (j7 + j13)) * j15))) ∧ ((cmpL (if 0 < j11 - ((Int.tdiv (j5 + j9) (j7 + j13)) * j15) then j11 - ((Int.tdiv (j5 + j9) (j7 + j13)) * j15) else -(j11 - ((Int.tdiv (j5 + j9) (j7 + j13)) * j15))) 1073741823 ≤ 0) → (h_Sc_findFactors_21 G d a0 j7 (j5 - ((Int.tdiv (j5 + j9) (j7 + j13)) * j7)) j13 j15 (j9 - ((Int.tdiv (j5 + j9) (j7 + j13)) * j13)) (j11 - ((Int.tdiv (j5 + j9) (j7 + j13)) * j15)) (l17 + 1) M Q)) ∧ (¬ (cmpL (if 0 < j11 - ((Int.tdiv (j5 + j9) (j7 + j13)) * j15) then j11 - ((Int.tdiv (j5 + j9) (j7 + j13)) * j15) else -(j11 - ((Int.tdiv (j5 + j9) (j7 + j13)) * j15))) 1073741823 ≤ 0) → (mK M a0 = 9 ∧ mK M (mR M a0 6) = 33 ∧ ((0 : Int) ≤ 0 ∧ 0 < (mN M (mR M a0 6) : Int)) ∧ ∀ M130, M130 = mUL M (mR M a0 6) 0 j9 → mK M130 (mR M130 a0 6) = 33 ∧ ((0 : Int) ≤ 1 ∧ 1 < (mN M130 (mR M130 a0 6) : Int)) ∧ ∀ M134, M134 = mUL M130 (mR M130 a0 6) 1 j11 → mK M134 (mR M134 a0 6) = 33 ∧ ((0 : Int) ≤ 2 ∧ 2 < (mN M134 (mR M134 a0 6) : Int)) ∧ ∀ M138, M138 = mUL M134 (mR M134 a0 6) 2 j13 → mK M138 (mR M138 a0 6) = 33 ∧ ((0 : Int) ≤ 3 ∧ 3 < (mN M138 (mR M138 a0 6) : Int)) ∧ ∀ M142, M142 = mUL M138 (mR M138 a0 6) 3 j15 → ∀ v145 : Int, v145 = (if (cmpL j11 0 = 0) then 0 else 1) → Q v145 M142)))))) ∧ (¬ (cmpL (Int.tdiv (j5 + j9) (j7 + j13)) 1073741823 ≤ 0) → (mK M a0 = 9 ∧ mK M (mR M a0 6) = 33 ∧ ((0 : Int) ≤ 0 ∧ 0 < (mN M (mR M a0 6) : Int)) ∧ ∀ M154, M154 = mUL M (mR M a0 6) 0 j9 → mK M154 (mR M154 a0 6) = 33 ∧ ((0 : Int) ≤ 1 ∧ 1 < (mN M154 (mR M154 a0 6) : Int)) ∧ ∀ M158, M158 = mUL M154 (mR M154 a0 6) 1 j11 → mK M158 (mR M158 a0 6) = 33 ∧ ((0 : Int) ≤ 2 ∧ 2 < (mN M158 (mR M158 a0 6) : Int)) ∧ ∀ M162, M162 = mUL M158 (mR M158 a0 6) 2 j13 → mK M162 (mR M162 a0 6) = 33 ∧ ((0 : Int) ≤ 3 ∧ 3 < (mN M162 (mR M162 a0 6) : Int)) ∧ ∀ M166, M166 = mUL M162 (mR M162 a0 6) 3 j15 → ∀ v169 : Int, v169 = (if (cmpL j11 0 = 0) then 0 else 1) → Q v169 M166)))) ∧ (¬ (cmpL (Int.tdiv (j5 + j9) (j7 + j13)) (Int.tdiv (j5 + j11) (j7 + j15)) = 0) → (mK M a0 = 9 ∧ mK M (mR M a0 6) = 33 ∧ ((0 : Int) ≤ 0 ∧ 0 < (mN M (mR M a0 6) : Int)) ∧ ∀ M178, M178 = mUL M (mR M a0 6) 0 j9 → mK M178 (mR M178 a0 6) = 33 ∧ ((0 : Int) ≤ 1 ∧ 1 < (mN M178 (mR M178 a0 6) : Int)) ∧ ∀ M182, M182 = mUL M178 (mR M178 a0 6) 1 j11 → mK M182 (mR M182 a0 6) = 33 ∧ ((0 : Int) ≤ 2 ∧ 2 < (mN M182 (mR M182 a0 6) : Int)) ∧ ∀ M186, M186 = mUL M182 (mR M182 a0 6) 2 j13 → mK M186 (mR M186 a0 6) = 33 ∧ ((0 : Int) ≤ 3 ∧ 3 < (mN M186 (mR M186 a0 6) : Int)) ∧ ∀ M190, M190 = mUL M186 (mR M186 a0 6) 3 j15 → ∀ v193 : Int, v193 = (if (cmpL j11 0 = 0) then 0 else 1) → Q v193 M190))))) :
    h_Sc_findFactors_21 G d a0 j5 j7 j9 j11 j13 j15 l17 M Q := by
  unfold h_Sc_findFactors_21
  refine wm_iload d_Sc_findFactors_21 rfl ?_
  refine wm_bipush d_Sc_findFactors_23 (by decide) ?_
  obtain ⟨s12, h⟩ := h
  have hE0 : ((100 ≤ l17) ∨ ((cmpL (j7 + j13) 0 = 0) ∨ (cmpL (j7 + j15) 0 = 0))) → mWm G y_Sc_findFactors (d + 1) 177 [vr a0, vd, vd, vd, vd, vl j5, vd, vl j7, vd, vl j9, vd, vl j11, vd, vl j13, vd, vl j15, vd, vi l17, vd, vd, vd, vd, vd, vd, vd, vd] [] M (fun r9 M9 => ∃ x9, r9 = some (vi x9) ∧ Q x9 M9) := by
    intro q13
    have h := h.1 q13
    obtain ⟨h14, h⟩ := h
    obtain ⟨h15, h⟩ := h
    obtain ⟨h16, h⟩ := h
    obtain ⟨M17, e18⟩ : ∃ M17, M17 = mUL M (mR M a0 6) 0 j9 := ⟨_, rfl⟩
    replace h := h M17 e18
    obtain ⟨h19, h⟩ := h
    obtain ⟨h20, h⟩ := h
    obtain ⟨M21, e22⟩ : ∃ M21, M21 = mUL M17 (mR M17 a0 6) 1 j11 := ⟨_, rfl⟩
    replace h := h M21 e22
    obtain ⟨h23, h⟩ := h
    obtain ⟨h24, h⟩ := h
    obtain ⟨M25, e26⟩ : ∃ M25, M25 = mUL M21 (mR M21 a0 6) 2 j13 := ⟨_, rfl⟩
    replace h := h M25 e26
    obtain ⟨h27, h⟩ := h
    obtain ⟨h28, h⟩ := h
    obtain ⟨M29, e30⟩ : ∃ M29, M29 = mUL M25 (mR M25 a0 6) 3 j15 := ⟨_, rfl⟩
    replace h := h M29 e30
    refine wm_aload_n d_Sc_findFactors_177 rfl rfl ?_
    refine gf_Sc_33 rfl d_Sc_findFactors_178 h14 ?_
    refine wm_iconst d_Sc_findFactors_181 ?_
    refine wm_lload d_Sc_findFactors_182 rfl ?_
    have hOM17 : mOk M17 := by rw [e18]; exact mOk_UL hO hi_j9
    refine wm_lastE d_Sc_findFactors_184 h15 h16 hi_j9 e18 ?_
    refine wm_aload_n d_Sc_findFactors_185 rfl rfl ?_
    refine gf_Sc_33 rfl d_Sc_findFactors_186 (by rw [e18]; exact h14) ?_
    refine wm_iconst d_Sc_findFactors_189 ?_
    refine wm_lload d_Sc_findFactors_190 rfl ?_
    have hOM21 : mOk M21 := by rw [e22]; exact mOk_UL hOM17 hi_j11
    refine wm_lastE d_Sc_findFactors_192 h19 h20 hi_j11 e22 ?_
    refine wm_aload_n d_Sc_findFactors_193 rfl rfl ?_
    refine gf_Sc_33 rfl d_Sc_findFactors_194 (by rw [e22, e18]; exact h14) ?_
    refine wm_iconst d_Sc_findFactors_197 ?_
    refine wm_lload d_Sc_findFactors_198 rfl ?_
    have hOM25 : mOk M25 := by rw [e26]; exact mOk_UL hOM21 hi_j13
    refine wm_lastE d_Sc_findFactors_200 h23 h24 hi_j13 e26 ?_
    refine wm_aload_n d_Sc_findFactors_201 rfl rfl ?_
    refine gf_Sc_33 rfl d_Sc_findFactors_202 (by rw [e26, e22, e18]; exact h14) ?_
    refine wm_iconst d_Sc_findFactors_205 ?_
    refine wm_lload d_Sc_findFactors_206 rfl ?_
    have hOM29 : mOk M29 := by rw [e30]; exact mOk_UL hOM25 hi_j15
    refine wm_lastE d_Sc_findFactors_208 h27 h28 hi_j15 e30 ?_
    refine wm_lload d_Sc_findFactors_209 rfl ?_
    refine wm_lconst (x := 0) d_Sc_findFactors_211 rfl ?_
    refine wm_lcmp d_Sc_findFactors_212 hi_j11 ⟨by decide, by decide⟩ ?_
    have hJ : ∀ v32 : Int, v32 = (if (cmpL j11 0 = 0) then 0 else 1) → mWm G y_Sc_findFactors (d + 1) 221 [vd, vd, vd, vd, vd, vd, vd, vd, vd, vd, vd, vd, vd, vd, vd, vd, vd, vd, vd, vd, vd, vd, vd, vd, vd, vd] [vi v32] M29 (fun r9 M9 => ∃ x9, r9 = some (vi x9) ∧ Q x9 M9) := by
      intro v32 e34
      have h := h v32 e34
      have h35 : i32 v32 := by rw [e34]; (repeat' split) <;> first | exact ⟨by decide, by decide⟩ | exact ⟨by decide, by decide⟩
      have h36 : (v32 = 0 ∨ v32 = 1) := by rw [e34]; (repeat' split) <;> decide
      refine wm_ireturn d_Sc_findFactors_221 rfl (m_nb h36) ?_
      exact ⟨_, rfl, h⟩
    clear h
    refine wm_if_eq (tgt := 220) d_Sc_findFactors_213 rfl (m_cmp32 _ _) (fun c31 => ?_) (fun c31 => ?_)
    · refine wm_iconst d_Sc_findFactors_220 ?_
      refine wm_less (L' := [vd, vd, vd, vd, vd, vd, vd, vd, vd, vd, vd, vd, vd, vd, vd, vd, vd, vd, vd, vd, vd, vd, vd, vd, vd, vd]) ⟨Or.inl rfl, Or.inl rfl, Or.inl rfl, Or.inl rfl, Or.inl rfl, Or.inl rfl, Or.inl rfl, Or.inl rfl, Or.inl rfl, Or.inl rfl, Or.inl rfl, Or.inl rfl, Or.inl rfl, Or.inl rfl, Or.inl rfl, Or.inl rfl, Or.inl rfl, Or.inl rfl, Or.inl rfl, Or.inl rfl, Or.inl rfl, Or.inl rfl, Or.inl rfl, Or.inl rfl, Or.inl rfl, Or.inl rfl, trivial⟩ ?_
      exact hJ 0 (if_pos c31).symm
    · refine wm_iconst d_Sc_findFactors_216 ?_
      refine wm_goto (tgt := 221) d_Sc_findFactors_217 rfl ?_
      refine wm_less (L' := [vd, vd, vd, vd, vd, vd, vd, vd, vd, vd, vd, vd, vd, vd, vd, vd, vd, vd, vd, vd, vd, vd, vd, vd, vd, vd]) ⟨Or.inl rfl, Or.inl rfl, Or.inl rfl, Or.inl rfl, Or.inl rfl, Or.inl rfl, Or.inl rfl, Or.inl rfl, Or.inl rfl, Or.inl rfl, Or.inl rfl, Or.inl rfl, Or.inl rfl, Or.inl rfl, Or.inl rfl, Or.inl rfl, Or.inl rfl, Or.inl rfl, Or.inl rfl, Or.inl rfl, Or.inl rfl, Or.inl rfl, Or.inl rfl, Or.inl rfl, Or.inl rfl, Or.inl rfl, trivial⟩ ?_
      exact hJ 1 (if_neg c31).symm
  have hE1 : ¬ ((100 ≤ l17) ∨ ((cmpL (j7 + j13) 0 = 0) ∨ (cmpL (j7 + j15) 0 = 0))) → mWm G y_Sc_findFactors (d + 1) 48 [vr a0, vd, vd, vd, vd, vl j5, vd, vl j7, vd, vl j9, vd, vl j11, vd, vl j13, vd, vl j15, vd, vi l17, vd, vd, vd, vd, vd, vd, vd, vd] [] M (fun r9 M9 => ∃ x9, r9 = some (vi x9) ∧ Q x9 M9) := by
    intro q38
    have h := h.2 q38
    obtain ⟨h39, h⟩ := h
    obtain ⟨h40, h⟩ := h
    obtain ⟨h41, h⟩ := h
    obtain ⟨h42, h⟩ := h
    obtain ⟨h43, h⟩ := h
    obtain ⟨h44, h⟩ := h
    obtain ⟨h45, h⟩ := h
    obtain ⟨h46, h⟩ := h
    refine wm_lload d_Sc_findFactors_48 rfl ?_
    refine wm_lload d_Sc_findFactors_50 rfl ?_
    refine wm_ladd d_Sc_findFactors_52 ?_
    refine wm_lload d_Sc_findFactors_53 rfl ?_
    refine wm_lload d_Sc_findFactors_55 rfl ?_
    refine wm_ladd d_Sc_findFactors_57 ?_
    refine wm_ldiv d_Sc_findFactors_58 h39 h40 h41 ?_
    refine wm_lstore d_Sc_findFactors_59 (by decide) (L' := [vr a0, vd, vd, vd, vd, vl j5, vd, vl j7, vd, vl j9, vd, vl j11, vd, vl j13, vd, vl j15, vd, vi l17, vl (Int.tdiv (j5 + j9) (j7 + j13)), vd, vd, vd, vd, vd, vd, vd]) rfl ?_
    refine wm_lload d_Sc_findFactors_61 rfl ?_
    refine wm_lload d_Sc_findFactors_63 rfl ?_
    refine wm_lload d_Sc_findFactors_65 rfl ?_
    refine wm_ladd d_Sc_findFactors_67 ?_
    refine wm_lload d_Sc_findFactors_68 rfl ?_
    refine wm_lload d_Sc_findFactors_70 rfl ?_
    refine wm_ladd d_Sc_findFactors_72 ?_
    refine wm_ldiv d_Sc_findFactors_73 h42 h43 h44 ?_
    refine wm_lcmp d_Sc_findFactors_74 h45 h46 ?_
    refine wm_if_ne (tgt := 177) d_Sc_findFactors_75 rfl (m_cmp32 _ _) (fun c60 => ?_) (fun c60 => ?_)
    · replace h := h.2 c60
      obtain ⟨h175, h⟩ := h
      obtain ⟨h176, h⟩ := h
      obtain ⟨h177, h⟩ := h
      obtain ⟨M178, e179⟩ : ∃ M178, M178 = mUL M (mR M a0 6) 0 j9 := ⟨_, rfl⟩
      replace h := h M178 e179
      obtain ⟨h180, h⟩ := h
      obtain ⟨h181, h⟩ := h
      obtain ⟨M182, e183⟩ : ∃ M182, M182 = mUL M178 (mR M178 a0 6) 1 j11 := ⟨_, rfl⟩
      replace h := h M182 e183
      obtain ⟨h184, h⟩ := h
      obtain ⟨h185, h⟩ := h
      obtain ⟨M186, e187⟩ : ∃ M186, M186 = mUL M182 (mR M182 a0 6) 2 j13 := ⟨_, rfl⟩
      replace h := h M186 e187
      obtain ⟨h188, h⟩ := h
      obtain ⟨h189, h⟩ := h
      obtain ⟨M190, e191⟩ : ∃ M190, M190 = mUL M186 (mR M186 a0 6) 3 j15 := ⟨_, rfl⟩
      replace h := h M190 e191
      refine wm_aload_n d_Sc_findFactors_177 rfl rfl ?_
      refine gf_Sc_33 rfl d_Sc_findFactors_178 h175 ?_
      refine wm_iconst d_Sc_findFactors_181 ?_
      refine wm_lload d_Sc_findFactors_182 rfl ?_
      have hOM178 : mOk M178 := by rw [e179]; exact mOk_UL hO hi_j9
      refine wm_lastE d_Sc_findFactors_184 h176 h177 hi_j9 e179 ?_
      refine wm_aload_n d_Sc_findFactors_185 rfl rfl ?_
      refine gf_Sc_33 rfl d_Sc_findFactors_186 (by rw [e179]; exact h175) ?_
      refine wm_iconst d_Sc_findFactors_189 ?_
      refine wm_lload d_Sc_findFactors_190 rfl ?_
      have hOM182 : mOk M182 := by rw [e183]; exact mOk_UL hOM178 hi_j11
      refine wm_lastE d_Sc_findFactors_192 h180 h181 hi_j11 e183 ?_
      refine wm_aload_n d_Sc_findFactors_193 rfl rfl ?_
      refine gf_Sc_33 rfl d_Sc_findFactors_194 (by rw [e183, e179]; exact h175) ?_
      refine wm_iconst d_Sc_findFactors_197 ?_
      refine wm_lload d_Sc_findFactors_198 rfl ?_
      have hOM186 : mOk M186 := by rw [e187]; exact mOk_UL hOM182 hi_j13
      refine wm_lastE d_Sc_findFactors_200 h184 h185 hi_j13 e187 ?_
      refine wm_aload_n d_Sc_findFactors_201 rfl rfl ?_
      refine gf_Sc_33 rfl d_Sc_findFactors_202 (by rw [e187, e183, e179]; exact h175) ?_
      refine wm_iconst d_Sc_findFactors_205 ?_
      refine wm_lload d_Sc_findFactors_206 rfl ?_
      have hOM190 : mOk M190 := by rw [e191]; exact mOk_UL hOM186 hi_j15
      refine wm_lastE d_Sc_findFactors_208 h188 h189 hi_j15 e191 ?_
      refine wm_lload d_Sc_findFactors_209 rfl ?_
      refine wm_lconst (x := 0) d_Sc_findFactors_211 rfl ?_
      refine wm_lcmp d_Sc_findFactors_212 hi_j11 ⟨by decide, by decide⟩ ?_
      have hJ : ∀ v193 : Int, v193 = (if (cmpL j11 0 = 0) then 0 else 1) → mWm G y_Sc_findFactors (d + 1) 221 [vd, vd, vd, vd, vd, vd, vd, vd, vd, vd, vd, vd, vd, vd, vd, vd, vd, vd, vd, vd, vd, vd, vd, vd, vd, vd] [vi v193] M190 (fun r9 M9 => ∃ x9, r9 = some (vi x9) ∧ Q x9 M9) := by
        intro v193 e195
        have h := h v193 e195
        have h196 : i32 v193 := by rw [e195]; (repeat' split) <;> first | exact ⟨by decide, by decide⟩ | exact ⟨by decide, by decide⟩
        have h197 : (v193 = 0 ∨ v193 = 1) := by rw [e195]; (repeat' split) <;> decide
        refine wm_ireturn d_Sc_findFactors_221 rfl (m_nb h197) ?_
        exact ⟨_, rfl, h⟩
      clear h
      refine wm_if_eq (tgt := 220) d_Sc_findFactors_213 rfl (m_cmp32 _ _) (fun c192 => ?_) (fun c192 => ?_)
      · refine wm_iconst d_Sc_findFactors_220 ?_
        refine wm_less (L' := [vd, vd, vd, vd, vd, vd, vd, vd, vd, vd, vd, vd, vd, vd, vd, vd, vd, vd, vd, vd, vd, vd, vd, vd, vd, vd]) ⟨Or.inl rfl, Or.inl rfl, Or.inl rfl, Or.inl rfl, Or.inl rfl, Or.inl rfl, Or.inl rfl, Or.inl rfl, Or.inl rfl, Or.inl rfl, Or.inl rfl, Or.inl rfl, Or.inl rfl, Or.inl rfl, Or.inl rfl, Or.inl rfl, Or.inl rfl, Or.inl rfl, Or.inl rfl, Or.inl rfl, Or.inl rfl, Or.inl rfl, Or.inl rfl, Or.inl rfl, Or.inl rfl, Or.inl rfl, trivial⟩ ?_
        exact hJ 0 (if_pos c192).symm
      · refine wm_iconst d_Sc_findFactors_216 ?_
        refine wm_goto (tgt := 221) d_Sc_findFactors_217 rfl ?_
        refine wm_less (L' := [vd, vd, vd, vd, vd, vd, vd, vd, vd, vd, vd, vd, vd, vd, vd, vd, vd, vd, vd, vd, vd, vd, vd, vd, vd, vd]) ⟨Or.inl rfl, Or.inl rfl, Or.inl rfl, Or.inl rfl, Or.inl rfl, Or.inl rfl, Or.inl rfl, Or.inl rfl, Or.inl rfl, Or.inl rfl, Or.inl rfl, Or.inl rfl, Or.inl rfl, Or.inl rfl, Or.inl rfl, Or.inl rfl, Or.inl rfl, Or.inl rfl, Or.inl rfl, Or.inl rfl, Or.inl rfl, Or.inl rfl, Or.inl rfl, Or.inl rfl, Or.inl rfl, Or.inl rfl, trivial⟩ ?_
        exact hJ 1 (if_neg c192).symm
    · replace c60 := Classical.not_not.mp c60
      replace h := h.1 c60
      refine wm_lload d_Sc_findFactors_78 rfl ?_
      refine wm_ldc2 (x := 1073741823) d_Sc_findFactors_80 k5_229 (by decide) ?_
      refine wm_lcmp d_Sc_findFactors_83 h45 ⟨by decide, by decide⟩ ?_
      refine wm_if_le (tgt := 90) d_Sc_findFactors_84 rfl (m_cmp32 _ _) (fun c73 => ?_) (fun c73 => ?_)
      · replace h := h.1 c73
        obtain ⟨h74, h⟩ := h
        obtain ⟨h75, h⟩ := h
        refine wm_lload d_Sc_findFactors_90 rfl ?_
        refine wm_lload d_Sc_findFactors_92 rfl ?_
        refine wm_lload d_Sc_findFactors_94 rfl ?_
        refine wm_lmul d_Sc_findFactors_96 ?_
        refine wm_lsub d_Sc_findFactors_97 ?_
        refine wm_lstore d_Sc_findFactors_98 (by decide) (L' := [vr a0, vd, vd, vd, vd, vl j5, vd, vl j7, vd, vl j9, vd, vl j11, vd, vl j13, vd, vl j15, vd, vi l17, vl (Int.tdiv (j5 + j9) (j7 + j13)), vd, vl (j9 - ((Int.tdiv (j5 + j9) (j7 + j13)) * j13)), vd, vd, vd, vd, vd]) rfl ?_
        refine wm_lload d_Sc_findFactors_100 rfl ?_
        refine wm_lload d_Sc_findFactors_102 rfl ?_
        refine wm_lload d_Sc_findFactors_104 rfl ?_
        refine wm_lmul d_Sc_findFactors_106 ?_
        refine wm_lsub d_Sc_findFactors_107 ?_
        refine wm_lstore d_Sc_findFactors_108 (by decide) (L' := [vr a0, vd, vd, vd, vd, vl j5, vd, vl j7, vd, vl j9, vd, vl j11, vd, vl j13, vd, vl j15, vd, vi l17, vl (Int.tdiv (j5 + j9) (j7 + j13)), vd, vl (j9 - ((Int.tdiv (j5 + j9) (j7 + j13)) * j13)), vd, vl (j11 - ((Int.tdiv (j5 + j9) (j7 + j13)) * j15)), vd, vd, vd]) rfl ?_
        refine wm_lload d_Sc_findFactors_110 rfl ?_
        refine wm_mabsl k5_230 (Nat.le_of_ble_eq_true rfl) h74 d_Sc_findFactors_112 ?_
        refine wm_ldc2 (x := 1073741823) d_Sc_findFactors_115 k5_229 (by decide) ?_
        refine wm_lcmp d_Sc_findFactors_118 h75 ⟨by decide, by decide⟩ ?_
        refine wm_if_gt (tgt := 177) d_Sc_findFactors_119 rfl (m_cmp32 _ _) (fun c89 => ?_) (fun c89 => ?_)
        · replace h := h.1 c89
          obtain ⟨h90, h⟩ := h
          obtain ⟨h91, h⟩ := h
          obtain ⟨h92, h⟩ := h
          obtain ⟨M93, e94⟩ : ∃ M93, M93 = mUL M (mR M a0 6) 0 j9 := ⟨_, rfl⟩
          replace h := h M93 e94
          obtain ⟨h95, h⟩ := h
          obtain ⟨h96, h⟩ := h
          obtain ⟨M97, e98⟩ : ∃ M97, M97 = mUL M93 (mR M93 a0 6) 1 j11 := ⟨_, rfl⟩
          replace h := h M97 e98
          obtain ⟨h99, h⟩ := h
          obtain ⟨h100, h⟩ := h
          obtain ⟨M101, e102⟩ : ∃ M101, M101 = mUL M97 (mR M97 a0 6) 2 j13 := ⟨_, rfl⟩
          replace h := h M101 e102
          obtain ⟨h103, h⟩ := h
          obtain ⟨h104, h⟩ := h
          obtain ⟨M105, e106⟩ : ∃ M105, M105 = mUL M101 (mR M101 a0 6) 3 j15 := ⟨_, rfl⟩
          replace h := h M105 e106
          refine wm_aload_n d_Sc_findFactors_177 rfl rfl ?_
          refine gf_Sc_33 rfl d_Sc_findFactors_178 h90 ?_
          refine wm_iconst d_Sc_findFactors_181 ?_
          refine wm_lload d_Sc_findFactors_182 rfl ?_
          have hOM93 : mOk M93 := by rw [e94]; exact mOk_UL hO hi_j9
          refine wm_lastE d_Sc_findFactors_184 h91 h92 hi_j9 e94 ?_
          refine wm_aload_n d_Sc_findFactors_185 rfl rfl ?_
          refine gf_Sc_33 rfl d_Sc_findFactors_186 (by rw [e94]; exact h90) ?_
          refine wm_iconst d_Sc_findFactors_189 ?_
          refine wm_lload d_Sc_findFactors_190 rfl ?_
          have hOM97 : mOk M97 := by rw [e98]; exact mOk_UL hOM93 hi_j11
          refine wm_lastE d_Sc_findFactors_192 h95 h96 hi_j11 e98 ?_
          refine wm_aload_n d_Sc_findFactors_193 rfl rfl ?_
          refine gf_Sc_33 rfl d_Sc_findFactors_194 (by rw [e98, e94]; exact h90) ?_
          refine wm_iconst d_Sc_findFactors_197 ?_
          refine wm_lload d_Sc_findFactors_198 rfl ?_
          have hOM101 : mOk M101 := by rw [e102]; exact mOk_UL hOM97 hi_j13
          refine wm_lastE d_Sc_findFactors_200 h99 h100 hi_j13 e102 ?_
          refine wm_aload_n d_Sc_findFactors_201 rfl rfl ?_
          refine gf_Sc_33 rfl d_Sc_findFactors_202 (by rw [e102, e98, e94]; exact h90) ?_
          refine wm_iconst d_Sc_findFactors_205 ?_
          refine wm_lload d_Sc_findFactors_206 rfl ?_
          have hOM105 : mOk M105 := by rw [e106]; exact mOk_UL hOM101 hi_j15
          refine wm_lastE d_Sc_findFactors_208 h103 h104 hi_j15 e106 ?_
          refine wm_lload d_Sc_findFactors_209 rfl ?_
          refine wm_lconst (x := 0) d_Sc_findFactors_211 rfl ?_
          refine wm_lcmp d_Sc_findFactors_212 hi_j11 ⟨by decide, by decide⟩ ?_
          have hJ : ∀ v108 : Int, v108 = (if (cmpL j11 0 = 0) then 0 else 1) → mWm G y_Sc_findFactors (d + 1) 221 [vd, vd, vd, vd, vd, vd, vd, vd, vd, vd, vd, vd, vd, vd, vd, vd, vd, vd, vd, vd, vd, vd, vd, vd, vd, vd] [vi v108] M105 (fun r9 M9 => ∃ x9, r9 = some (vi x9) ∧ Q x9 M9) := by
            intro v108 e110
            have h := h v108 e110
            have h111 : i32 v108 := by rw [e110]; (repeat' split) <;> first | exact ⟨by decide, by decide⟩ | exact ⟨by decide, by decide⟩
            have h112 : (v108 = 0 ∨ v108 = 1) := by rw [e110]; (repeat' split) <;> decide
            refine wm_ireturn d_Sc_findFactors_221 rfl (m_nb h112) ?_
            exact ⟨_, rfl, h⟩
          clear h
          refine wm_if_eq (tgt := 220) d_Sc_findFactors_213 rfl (m_cmp32 _ _) (fun c107 => ?_) (fun c107 => ?_)
          · refine wm_iconst d_Sc_findFactors_220 ?_
            refine wm_less (L' := [vd, vd, vd, vd, vd, vd, vd, vd, vd, vd, vd, vd, vd, vd, vd, vd, vd, vd, vd, vd, vd, vd, vd, vd, vd, vd]) ⟨Or.inl rfl, Or.inl rfl, Or.inl rfl, Or.inl rfl, Or.inl rfl, Or.inl rfl, Or.inl rfl, Or.inl rfl, Or.inl rfl, Or.inl rfl, Or.inl rfl, Or.inl rfl, Or.inl rfl, Or.inl rfl, Or.inl rfl, Or.inl rfl, Or.inl rfl, Or.inl rfl, Or.inl rfl, Or.inl rfl, Or.inl rfl, Or.inl rfl, Or.inl rfl, Or.inl rfl, Or.inl rfl, Or.inl rfl, trivial⟩ ?_
            exact hJ 0 (if_pos c107).symm
          · refine wm_iconst d_Sc_findFactors_216 ?_
            refine wm_goto (tgt := 221) d_Sc_findFactors_217 rfl ?_
            refine wm_less (L' := [vd, vd, vd, vd, vd, vd, vd, vd, vd, vd, vd, vd, vd, vd, vd, vd, vd, vd, vd, vd, vd, vd, vd, vd, vd, vd]) ⟨Or.inl rfl, Or.inl rfl, Or.inl rfl, Or.inl rfl, Or.inl rfl, Or.inl rfl, Or.inl rfl, Or.inl rfl, Or.inl rfl, Or.inl rfl, Or.inl rfl, Or.inl rfl, Or.inl rfl, Or.inl rfl, Or.inl rfl, Or.inl rfl, Or.inl rfl, Or.inl rfl, Or.inl rfl, Or.inl rfl, Or.inl rfl, Or.inl rfl, Or.inl rfl, Or.inl rfl, Or.inl rfl, Or.inl rfl, trivial⟩ ?_
            exact hJ 1 (if_neg c107).symm
        · replace h := h.2 c89
          obtain ⟨h114, h⟩ := h
          obtain ⟨h115, h⟩ := h
          refine wm_lload d_Sc_findFactors_122 rfl ?_
          refine wm_mabsl k5_230 (Nat.le_of_ble_eq_true rfl) h114 d_Sc_findFactors_124 ?_
          refine wm_ldc2 (x := 1073741823) d_Sc_findFactors_127 k5_229 (by decide) ?_
          refine wm_lcmp d_Sc_findFactors_130 h115 ⟨by decide, by decide⟩ ?_
          refine wm_if_le (tgt := 137) d_Sc_findFactors_131 rfl (m_cmp32 _ _) (fun c126 => ?_) (fun c126 => ?_)
          · replace h := h.1 c126
            refine wm_lload d_Sc_findFactors_137 rfl ?_
            refine wm_lload d_Sc_findFactors_139 rfl ?_
            refine wm_lload d_Sc_findFactors_141 rfl ?_
            refine wm_lmul d_Sc_findFactors_143 ?_
            refine wm_lsub d_Sc_findFactors_144 ?_
            refine wm_lstore d_Sc_findFactors_145 (by decide) (L' := [vr a0, vd, vd, vd, vd, vl j5, vd, vl j7, vd, vl j9, vd, vl j11, vd, vl j13, vd, vl j15, vd, vi l17, vl (Int.tdiv (j5 + j9) (j7 + j13)), vd, vl (j9 - ((Int.tdiv (j5 + j9) (j7 + j13)) * j13)), vd, vl (j11 - ((Int.tdiv (j5 + j9) (j7 + j13)) * j15)), vd, vl (j5 - ((Int.tdiv (j5 + j9) (j7 + j13)) * j7)), vd]) rfl ?_
            refine wm_lload d_Sc_findFactors_147 rfl ?_
            refine wm_lstore d_Sc_findFactors_149 (by decide) (L' := [vr a0, vd, vd, vd, vd, vl j5, vd, vl j7, vd, vl j13, vd, vl j11, vd, vl j13, vd, vl j15, vd, vi l17, vl (Int.tdiv (j5 + j9) (j7 + j13)), vd, vl (j9 - ((Int.tdiv (j5 + j9) (j7 + j13)) * j13)), vd, vl (j11 - ((Int.tdiv (j5 + j9) (j7 + j13)) * j15)), vd, vl (j5 - ((Int.tdiv (j5 + j9) (j7 + j13)) * j7)), vd]) rfl ?_
            refine wm_lload d_Sc_findFactors_151 rfl ?_
            refine wm_lstore d_Sc_findFactors_153 (by decide) (L' := [vr a0, vd, vd, vd, vd, vl j5, vd, vl j7, vd, vl j13, vd, vl j15, vd, vl j13, vd, vl j15, vd, vi l17, vl (Int.tdiv (j5 + j9) (j7 + j13)), vd, vl (j9 - ((Int.tdiv (j5 + j9) (j7 + j13)) * j13)), vd, vl (j11 - ((Int.tdiv (j5 + j9) (j7 + j13)) * j15)), vd, vl (j5 - ((Int.tdiv (j5 + j9) (j7 + j13)) * j7)), vd]) rfl ?_
            refine wm_lload d_Sc_findFactors_155 rfl ?_
            refine wm_lstore d_Sc_findFactors_157 (by decide) (L' := [vr a0, vd, vd, vd, vd, vl j7, vd, vl j7, vd, vl j13, vd, vl j15, vd, vl j13, vd, vl j15, vd, vi l17, vl (Int.tdiv (j5 + j9) (j7 + j13)), vd, vl (j9 - ((Int.tdiv (j5 + j9) (j7 + j13)) * j13)), vd, vl (j11 - ((Int.tdiv (j5 + j9) (j7 + j13)) * j15)), vd, vl (j5 - ((Int.tdiv (j5 + j9) (j7 + j13)) * j7)), vd]) rfl ?_
            refine wm_lload d_Sc_findFactors_159 rfl ?_
            refine wm_lstore d_Sc_findFactors_161 (by decide) (L' := [vr a0, vd, vd, vd, vd, vl j7, vd, vl j7, vd, vl j13, vd, vl j15, vd, vl (j9 - ((Int.tdiv (j5 + j9) (j7 + j13)) * j13)), vd, vl j15, vd, vi l17, vl (Int.tdiv (j5 + j9) (j7 + j13)), vd, vl (j9 - ((Int.tdiv (j5 + j9) (j7 + j13)) * j13)), vd, vl (j11 - ((Int.tdiv (j5 + j9) (j7 + j13)) * j15)), vd, vl (j5 - ((Int.tdiv (j5 + j9) (j7 + j13)) * j7)), vd]) rfl ?_
            refine wm_lload d_Sc_findFactors_163 rfl ?_
            refine wm_lstore d_Sc_findFactors_165 (by decide) (L' := [vr a0, vd, vd, vd, vd, vl j7, vd, vl j7, vd, vl j13, vd, vl j15, vd, vl (j9 - ((Int.tdiv (j5 + j9) (j7 + j13)) * j13)), vd, vl (j11 - ((Int.tdiv (j5 + j9) (j7 + j13)) * j15)), vd, vi l17, vl (Int.tdiv (j5 + j9) (j7 + j13)), vd, vl (j9 - ((Int.tdiv (j5 + j9) (j7 + j13)) * j13)), vd, vl (j11 - ((Int.tdiv (j5 + j9) (j7 + j13)) * j15)), vd, vl (j5 - ((Int.tdiv (j5 + j9) (j7 + j13)) * j7)), vd]) rfl ?_
            refine wm_lload d_Sc_findFactors_167 rfl ?_
            refine wm_lstore d_Sc_findFactors_169 (by decide) (L' := [vr a0, vd, vd, vd, vd, vl j7, vd, vl (j5 - ((Int.tdiv (j5 + j9) (j7 + j13)) * j7)), vd, vl j13, vd, vl j15, vd, vl (j9 - ((Int.tdiv (j5 + j9) (j7 + j13)) * j13)), vd, vl (j11 - ((Int.tdiv (j5 + j9) (j7 + j13)) * j15)), vd, vi l17, vl (Int.tdiv (j5 + j9) (j7 + j13)), vd, vl (j9 - ((Int.tdiv (j5 + j9) (j7 + j13)) * j13)), vd, vl (j11 - ((Int.tdiv (j5 + j9) (j7 + j13)) * j15)), vd, vl (j5 - ((Int.tdiv (j5 + j9) (j7 + j13)) * j7)), vd]) rfl ?_
            refine wm_iinc d_Sc_findFactors_171 (by decide) rfl (L' := [vr a0, vd, vd, vd, vd, vl j7, vd, vl (j5 - ((Int.tdiv (j5 + j9) (j7 + j13)) * j7)), vd, vl j13, vd, vl j15, vd, vl (j9 - ((Int.tdiv (j5 + j9) (j7 + j13)) * j13)), vd, vl (j11 - ((Int.tdiv (j5 + j9) (j7 + j13)) * j15)), vd, vi (l17 + 1), vl (Int.tdiv (j5 + j9) (j7 + j13)), vd, vl (j9 - ((Int.tdiv (j5 + j9) (j7 + j13)) * j13)), vd, vl (j11 - ((Int.tdiv (j5 + j9) (j7 + j13)) * j15)), vd, vl (j5 - ((Int.tdiv (j5 + j9) (j7 + j13)) * j7)), vd]) rfl ?_
            refine wm_goto (tgt := 21) d_Sc_findFactors_174 rfl ?_
            refine wm_less (L' := [vr a0, vd, vd, vd, vd, vl j7, vd, vl (j5 - ((Int.tdiv (j5 + j9) (j7 + j13)) * j7)), vd, vl j13, vd, vl j15, vd, vl (j9 - ((Int.tdiv (j5 + j9) (j7 + j13)) * j13)), vd, vl (j11 - ((Int.tdiv (j5 + j9) (j7 + j13)) * j15)), vd, vi (l17 + 1), vd, vd, vd, vd, vd, vd, vd, vd]) ⟨Or.inr rfl, Or.inl rfl, Or.inl rfl, Or.inl rfl, Or.inl rfl, Or.inr rfl, Or.inl rfl, Or.inr rfl, Or.inl rfl, Or.inr rfl, Or.inl rfl, Or.inr rfl, Or.inl rfl, Or.inr rfl, Or.inl rfl, Or.inr rfl, Or.inl rfl, Or.inr rfl, Or.inl rfl, Or.inl rfl, Or.inl rfl, Or.inl rfl, Or.inl rfl, Or.inl rfl, Or.inl rfl, Or.inl rfl, trivial⟩ ?_
            exact h
          · replace h := h.2 c126
            obtain ⟨h127, h⟩ := h
            obtain ⟨h128, h⟩ := h
            obtain ⟨h129, h⟩ := h
            obtain ⟨M130, e131⟩ : ∃ M130, M130 = mUL M (mR M a0 6) 0 j9 := ⟨_, rfl⟩
            replace h := h M130 e131
            obtain ⟨h132, h⟩ := h
            obtain ⟨h133, h⟩ := h
            obtain ⟨M134, e135⟩ : ∃ M134, M134 = mUL M130 (mR M130 a0 6) 1 j11 := ⟨_, rfl⟩
            replace h := h M134 e135
            obtain ⟨h136, h⟩ := h
            obtain ⟨h137, h⟩ := h
            obtain ⟨M138, e139⟩ : ∃ M138, M138 = mUL M134 (mR M134 a0 6) 2 j13 := ⟨_, rfl⟩
            replace h := h M138 e139
            obtain ⟨h140, h⟩ := h
            obtain ⟨h141, h⟩ := h
            obtain ⟨M142, e143⟩ : ∃ M142, M142 = mUL M138 (mR M138 a0 6) 3 j15 := ⟨_, rfl⟩
            replace h := h M142 e143
            refine wm_goto (tgt := 177) d_Sc_findFactors_134 rfl ?_
            refine wm_aload_n d_Sc_findFactors_177 rfl rfl ?_
            refine gf_Sc_33 rfl d_Sc_findFactors_178 h127 ?_
            refine wm_iconst d_Sc_findFactors_181 ?_
            refine wm_lload d_Sc_findFactors_182 rfl ?_
            have hOM130 : mOk M130 := by rw [e131]; exact mOk_UL hO hi_j9
            refine wm_lastE d_Sc_findFactors_184 h128 h129 hi_j9 e131 ?_
            refine wm_aload_n d_Sc_findFactors_185 rfl rfl ?_
            refine gf_Sc_33 rfl d_Sc_findFactors_186 (by rw [e131]; exact h127) ?_
            refine wm_iconst d_Sc_findFactors_189 ?_
            refine wm_lload d_Sc_findFactors_190 rfl ?_
            have hOM134 : mOk M134 := by rw [e135]; exact mOk_UL hOM130 hi_j11
            refine wm_lastE d_Sc_findFactors_192 h132 h133 hi_j11 e135 ?_
            refine wm_aload_n d_Sc_findFactors_193 rfl rfl ?_
            refine gf_Sc_33 rfl d_Sc_findFactors_194 (by rw [e135, e131]; exact h127) ?_
            refine wm_iconst d_Sc_findFactors_197 ?_
            refine wm_lload d_Sc_findFactors_198 rfl ?_
            have hOM138 : mOk M138 := by rw [e139]; exact mOk_UL hOM134 hi_j13
            refine wm_lastE d_Sc_findFactors_200 h136 h137 hi_j13 e139 ?_
            refine wm_aload_n d_Sc_findFactors_201 rfl rfl ?_
            refine gf_Sc_33 rfl d_Sc_findFactors_202 (by rw [e139, e135, e131]; exact h127) ?_
            refine wm_iconst d_Sc_findFactors_205 ?_
            refine wm_lload d_Sc_findFactors_206 rfl ?_
            have hOM142 : mOk M142 := by rw [e143]; exact mOk_UL hOM138 hi_j15
            refine wm_lastE d_Sc_findFactors_208 h140 h141 hi_j15 e143 ?_
            refine wm_lload d_Sc_findFactors_209 rfl ?_
            refine wm_lconst (x := 0) d_Sc_findFactors_211 rfl ?_
            refine wm_lcmp d_Sc_findFactors_212 hi_j11 ⟨by decide, by decide⟩ ?_
            have hJ : ∀ v145 : Int, v145 = (if (cmpL j11 0 = 0) then 0 else 1) → mWm G y_Sc_findFactors (d + 1) 221 [vd, vd, vd, vd, vd, vd, vd, vd, vd, vd, vd, vd, vd, vd, vd, vd, vd, vd, vd, vd, vd, vd, vd, vd, vd, vd] [vi v145] M142 (fun r9 M9 => ∃ x9, r9 = some (vi x9) ∧ Q x9 M9) := by
              intro v145 e147
              have h := h v145 e147
              have h148 : i32 v145 := by rw [e147]; (repeat' split) <;> first | exact ⟨by decide, by decide⟩ | exact ⟨by decide, by decide⟩
              have h149 : (v145 = 0 ∨ v145 = 1) := by rw [e147]; (repeat' split) <;> decide
              refine wm_ireturn d_Sc_findFactors_221 rfl (m_nb h149) ?_
              exact ⟨_, rfl, h⟩
            clear h
            refine wm_if_eq (tgt := 220) d_Sc_findFactors_213 rfl (m_cmp32 _ _) (fun c144 => ?_) (fun c144 => ?_)
            · refine wm_iconst d_Sc_findFactors_220 ?_
              refine wm_less (L' := [vd, vd, vd, vd, vd, vd, vd, vd, vd, vd, vd, vd, vd, vd, vd, vd, vd, vd, vd, vd, vd, vd, vd, vd, vd, vd]) ⟨Or.inl rfl, Or.inl rfl, Or.inl rfl, Or.inl rfl, Or.inl rfl, Or.inl rfl, Or.inl rfl, Or.inl rfl, Or.inl rfl, Or.inl rfl, Or.inl rfl, Or.inl rfl, Or.inl rfl, Or.inl rfl, Or.inl rfl, Or.inl rfl, Or.inl rfl, Or.inl rfl, Or.inl rfl, Or.inl rfl, Or.inl rfl, Or.inl rfl, Or.inl rfl, Or.inl rfl, Or.inl rfl, Or.inl rfl, trivial⟩ ?_
              exact hJ 0 (if_pos c144).symm
            · refine wm_iconst d_Sc_findFactors_216 ?_
              refine wm_goto (tgt := 221) d_Sc_findFactors_217 rfl ?_
              refine wm_less (L' := [vd, vd, vd, vd, vd, vd, vd, vd, vd, vd, vd, vd, vd, vd, vd, vd, vd, vd, vd, vd, vd, vd, vd, vd, vd, vd]) ⟨Or.inl rfl, Or.inl rfl, Or.inl rfl, Or.inl rfl, Or.inl rfl, Or.inl rfl, Or.inl rfl, Or.inl rfl, Or.inl rfl, Or.inl rfl, Or.inl rfl, Or.inl rfl, Or.inl rfl, Or.inl rfl, Or.inl rfl, Or.inl rfl, Or.inl rfl, Or.inl rfl, Or.inl rfl, Or.inl rfl, Or.inl rfl, Or.inl rfl, Or.inl rfl, Or.inl rfl, Or.inl rfl, Or.inl rfl, trivial⟩ ?_
              exact hJ 1 (if_neg c144).symm
      · replace h := h.2 c73
        obtain ⟨h151, h⟩ := h
        obtain ⟨h152, h⟩ := h
        obtain ⟨h153, h⟩ := h
        obtain ⟨M154, e155⟩ : ∃ M154, M154 = mUL M (mR M a0 6) 0 j9 := ⟨_, rfl⟩
        replace h := h M154 e155
        obtain ⟨h156, h⟩ := h
        obtain ⟨h157, h⟩ := h
        obtain ⟨M158, e159⟩ : ∃ M158, M158 = mUL M154 (mR M154 a0 6) 1 j11 := ⟨_, rfl⟩
        replace h := h M158 e159
        obtain ⟨h160, h⟩ := h
        obtain ⟨h161, h⟩ := h
        obtain ⟨M162, e163⟩ : ∃ M162, M162 = mUL M158 (mR M158 a0 6) 2 j13 := ⟨_, rfl⟩
        replace h := h M162 e163
        obtain ⟨h164, h⟩ := h
        obtain ⟨h165, h⟩ := h
        obtain ⟨M166, e167⟩ : ∃ M166, M166 = mUL M162 (mR M162 a0 6) 3 j15 := ⟨_, rfl⟩
        replace h := h M166 e167
        refine wm_goto (tgt := 177) d_Sc_findFactors_87 rfl ?_
        refine wm_aload_n d_Sc_findFactors_177 rfl rfl ?_
        refine gf_Sc_33 rfl d_Sc_findFactors_178 h151 ?_
        refine wm_iconst d_Sc_findFactors_181 ?_
        refine wm_lload d_Sc_findFactors_182 rfl ?_
        have hOM154 : mOk M154 := by rw [e155]; exact mOk_UL hO hi_j9
        refine wm_lastE d_Sc_findFactors_184 h152 h153 hi_j9 e155 ?_
        refine wm_aload_n d_Sc_findFactors_185 rfl rfl ?_
        refine gf_Sc_33 rfl d_Sc_findFactors_186 (by rw [e155]; exact h151) ?_
        refine wm_iconst d_Sc_findFactors_189 ?_
        refine wm_lload d_Sc_findFactors_190 rfl ?_
        have hOM158 : mOk M158 := by rw [e159]; exact mOk_UL hOM154 hi_j11
        refine wm_lastE d_Sc_findFactors_192 h156 h157 hi_j11 e159 ?_
        refine wm_aload_n d_Sc_findFactors_193 rfl rfl ?_
        refine gf_Sc_33 rfl d_Sc_findFactors_194 (by rw [e159, e155]; exact h151) ?_
        refine wm_iconst d_Sc_findFactors_197 ?_
        refine wm_lload d_Sc_findFactors_198 rfl ?_
        have hOM162 : mOk M162 := by rw [e163]; exact mOk_UL hOM158 hi_j13
        refine wm_lastE d_Sc_findFactors_200 h160 h161 hi_j13 e163 ?_
        refine wm_aload_n d_Sc_findFactors_201 rfl rfl ?_
        refine gf_Sc_33 rfl d_Sc_findFactors_202 (by rw [e163, e159, e155]; exact h151) ?_
        refine wm_iconst d_Sc_findFactors_205 ?_
        refine wm_lload d_Sc_findFactors_206 rfl ?_
        have hOM166 : mOk M166 := by rw [e167]; exact mOk_UL hOM162 hi_j15
        refine wm_lastE d_Sc_findFactors_208 h164 h165 hi_j15 e167 ?_
        refine wm_lload d_Sc_findFactors_209 rfl ?_
        refine wm_lconst (x := 0) d_Sc_findFactors_211 rfl ?_
        refine wm_lcmp d_Sc_findFactors_212 hi_j11 ⟨by decide, by decide⟩ ?_
        have hJ : ∀ v169 : Int, v169 = (if (cmpL j11 0 = 0) then 0 else 1) → mWm G y_Sc_findFactors (d + 1) 221 [vd, vd, vd, vd, vd, vd, vd, vd, vd, vd, vd, vd, vd, vd, vd, vd, vd, vd, vd, vd, vd, vd, vd, vd, vd, vd] [vi v169] M166 (fun r9 M9 => ∃ x9, r9 = some (vi x9) ∧ Q x9 M9) := by
          intro v169 e171
          have h := h v169 e171
          have h172 : i32 v169 := by rw [e171]; (repeat' split) <;> first | exact ⟨by decide, by decide⟩ | exact ⟨by decide, by decide⟩
          have h173 : (v169 = 0 ∨ v169 = 1) := by rw [e171]; (repeat' split) <;> decide
          refine wm_ireturn d_Sc_findFactors_221 rfl (m_nb h173) ?_
          exact ⟨_, rfl, h⟩
        clear h
        refine wm_if_eq (tgt := 220) d_Sc_findFactors_213 rfl (m_cmp32 _ _) (fun c168 => ?_) (fun c168 => ?_)
        · refine wm_iconst d_Sc_findFactors_220 ?_
          refine wm_less (L' := [vd, vd, vd, vd, vd, vd, vd, vd, vd, vd, vd, vd, vd, vd, vd, vd, vd, vd, vd, vd, vd, vd, vd, vd, vd, vd]) ⟨Or.inl rfl, Or.inl rfl, Or.inl rfl, Or.inl rfl, Or.inl rfl, Or.inl rfl, Or.inl rfl, Or.inl rfl, Or.inl rfl, Or.inl rfl, Or.inl rfl, Or.inl rfl, Or.inl rfl, Or.inl rfl, Or.inl rfl, Or.inl rfl, Or.inl rfl, Or.inl rfl, Or.inl rfl, Or.inl rfl, Or.inl rfl, Or.inl rfl, Or.inl rfl, Or.inl rfl, Or.inl rfl, Or.inl rfl, trivial⟩ ?_
          exact hJ 0 (if_pos c168).symm
        · refine wm_iconst d_Sc_findFactors_216 ?_
          refine wm_goto (tgt := 221) d_Sc_findFactors_217 rfl ?_
          refine wm_less (L' := [vd, vd, vd, vd, vd, vd, vd, vd, vd, vd, vd, vd, vd, vd, vd, vd, vd, vd, vd, vd, vd, vd, vd, vd, vd, vd]) ⟨Or.inl rfl, Or.inl rfl, Or.inl rfl, Or.inl rfl, Or.inl rfl, Or.inl rfl, Or.inl rfl, Or.inl rfl, Or.inl rfl, Or.inl rfl, Or.inl rfl, Or.inl rfl, Or.inl rfl, Or.inl rfl, Or.inl rfl, Or.inl rfl, Or.inl rfl, Or.inl rfl, Or.inl rfl, Or.inl rfl, Or.inl rfl, Or.inl rfl, Or.inl rfl, Or.inl rfl, Or.inl rfl, Or.inl rfl, trivial⟩ ?_
          exact hJ 1 (if_neg c168).symm
  clear h
  have s199 := s12
  refine wm_icmp_ge (tgt := 177) d_Sc_findFactors_25 rfl hi_l17 ⟨by decide, by decide⟩ (fun c11 => ?_) (fun c11 => ?_)
  · exact hE0 (Or.inl c11)
  · have s199 := s199 c11
    obtain ⟨h1, s200⟩ := s199
    refine wm_lload d_Sc_findFactors_28 rfl ?_
    refine wm_lload d_Sc_findFactors_30 rfl ?_
    refine wm_ladd d_Sc_findFactors_32 ?_
    refine wm_lconst (x := 0) d_Sc_findFactors_33 rfl ?_
    refine wm_lcmp d_Sc_findFactors_34 h1 ⟨by decide, by decide⟩ ?_
    refine wm_if_eq (tgt := 177) d_Sc_findFactors_35 rfl (m_cmp32 _ _) (fun c10 => ?_) (fun c10 => ?_)
    · exact hE0 (Or.inr (Or.inl c10))
    · have s200 := s200 c10
      have h2 := s200
      refine wm_lload d_Sc_findFactors_38 rfl ?_
      refine wm_lload d_Sc_findFactors_40 rfl ?_
      refine wm_ladd d_Sc_findFactors_42 ?_
      refine wm_lconst (x := 0) d_Sc_findFactors_43 rfl ?_
      refine wm_lcmp d_Sc_findFactors_44 h2 ⟨by decide, by decide⟩ ?_
      refine wm_if_eq (tgt := 177) d_Sc_findFactors_45 rfl (m_cmp32 _ _) (fun c9 => ?_) (fun c9 => ?_)
      · exact hE0 (Or.inr (Or.inr c9))
      · exact hE1 (fun z201 => Or.elim z201 c11 (fun z202 => Or.elim z202 c10 c9))
theorem d_Sc_reduce_0 : decode y_Sc_reduce.2.1 0 = .ok (.aload_n 1, 1) := by decide +kernel
theorem d_Sc_reduce_1 : decode y_Sc_reduce.2.1 1 = .ok (.getfield 108, 3) := by decide +kernel
theorem d_Sc_reduce_4 : decode y_Sc_reduce.2.1 4 = .ok (.aload_n 1, 1) := by decide +kernel
theorem d_Sc_reduce_5 : decode y_Sc_reduce.2.1 5 = .ok (.getfield 111, 3) := by decide +kernel
theorem d_Sc_reduce_8 : decode y_Sc_reduce.2.1 8 = .ok (.invokevirtual 114, 3) := by decide +kernel
theorem d_Sc_reduce_11 : decode y_Sc_reduce.2.1 11 = .ok (.aload_n 1, 1) := by decide +kernel
theorem d_Sc_reduce_12 : decode y_Sc_reduce.2.1 12 = .ok (.iconst 1, 1) := by decide +kernel
theorem d_Sc_reduce_13 : decode y_Sc_reduce.2.1 13 = .ok (.putfield 111, 3) := by decide +kernel
theorem d_Sc_reduce_16 : decode y_Sc_reduce.2.1 16 = .ok (.aload_n 1, 1) := by decide +kernel
theorem d_Sc_reduce_17 : decode y_Sc_reduce.2.1 17 = .ok (.getfield 118, 3) := by decide +kernel
theorem d_Sc_reduce_20 : decode y_Sc_reduce.2.1 20 = .ok (.getfield 57, 3) := by decide +kernel
theorem d_Sc_reduce_23 : decode y_Sc_reduce.2.1 23 = .ok (.ifCond .ne 12, 3) := by decide +kernel
theorem d_Sc_reduce_26 : decode y_Sc_reduce.2.1 26 = .ok (.aload_n 1, 1) := by decide +kernel
theorem d_Sc_reduce_27 : decode y_Sc_reduce.2.1 27 = .ok (.getfield 108, 3) := by decide +kernel
theorem d_Sc_reduce_30 : decode y_Sc_reduce.2.1 30 = .ok (.iconst 1, 1) := by decide +kernel
theorem d_Sc_reduce_35 : decode y_Sc_reduce.2.1 35 = .ok (.aload_n 0, 1) := by decide +kernel
theorem d_Sc_reduce_36 : decode y_Sc_reduce.2.1 36 = .ok (.aload_n 1, 1) := by decide +kernel
theorem d_Sc_reduce_37 : decode y_Sc_reduce.2.1 37 = .ok (.getfield 118, 3) := by decide +kernel
theorem d_Sc_reduce_40 : decode y_Sc_reduce.2.1 40 = .ok (.aload_n 1, 1) := by decide +kernel
theorem d_Sc_reduce_41 : decode y_Sc_reduce.2.1 41 = .ok (.getfield 108, 3) := by decide +kernel
theorem d_Sc_reduce_31 : decode y_Sc_reduce.2.1 31 = .ok (.invokevirtual 121, 3) := by decide +kernel
theorem d_Sc_reduce_34 : decode y_Sc_reduce.2.1 34 = .ok (.return_, 1) := by decide +kernel
theorem d_Sc_reduce_44 : decode y_Sc_reduce.2.1 44 = .ok (.invokevirtual 123, 3) := by decide +kernel
theorem d_Sc_reduce_47 : decode y_Sc_reduce.2.1 47 = .ok (.astore_n 2, 1) := by decide +kernel
theorem d_Sc_reduce_48 : decode y_Sc_reduce.2.1 48 = .ok (.aload_n 2, 1) := by decide +kernel
theorem d_Sc_reduce_49 : decode y_Sc_reduce.2.1 49 = .ok (.invokevirtual 126, 3) := by decide +kernel
theorem d_Sc_reduce_52 : decode y_Sc_reduce.2.1 52 = .ok (.ifCond .ne 57, 3) := by decide +kernel
theorem d_Sc_reduce_55 : decode y_Sc_reduce.2.1 55 = .ok (.aload_n 1, 1) := by decide +kernel
theorem d_Sc_reduce_56 : decode y_Sc_reduce.2.1 56 = .ok (.getfield 118, 3) := by decide +kernel
theorem d_Sc_reduce_59 : decode y_Sc_reduce.2.1 59 = .ok (.aload_n 2, 1) := by decide +kernel
theorem d_Sc_reduce_60 : decode y_Sc_reduce.2.1 60 = .ok (.aload_n 0, 1) := by decide +kernel
theorem d_Sc_reduce_61 : decode y_Sc_reduce.2.1 61 = .ok (.getfield 21, 3) := by decide +kernel
theorem d_Sc_reduce_64 : decode y_Sc_reduce.2.1 64 = .ok (.aload_n 0, 1) := by decide +kernel
theorem d_Sc_reduce_65 : decode y_Sc_reduce.2.1 65 = .ok (.getfield 24, 3) := by decide +kernel
theorem d_Sc_reduce_68 : decode y_Sc_reduce.2.1 68 = .ok (.invokevirtual 53, 3) := by decide +kernel
theorem d_Sc_reduce_71 : decode y_Sc_reduce.2.1 71 = .ok (.aload_n 1, 1) := by decide +kernel
theorem d_Sc_reduce_72 : decode y_Sc_reduce.2.1 72 = .ok (.getfield 118, 3) := by decide +kernel
theorem d_Sc_reduce_75 : decode y_Sc_reduce.2.1 75 = .ok (.aload_n 0, 1) := by decide +kernel
theorem d_Sc_reduce_76 : decode y_Sc_reduce.2.1 76 = .ok (.getfield 21, 3) := by decide +kernel
theorem d_Sc_reduce_79 : decode y_Sc_reduce.2.1 79 = .ok (.invokevirtual 69, 3) := by decide +kernel
theorem d_Sc_reduce_82 : decode y_Sc_reduce.2.1 82 = .ok (.aload_n 1, 1) := by decide +kernel
theorem d_Sc_reduce_83 : decode y_Sc_reduce.2.1 83 = .ok (.getfield 108, 3) := by decide +kernel
theorem d_Sc_reduce_86 : decode y_Sc_reduce.2.1 86 = .ok (.aload_n 2, 1) := by decide +kernel
theorem d_Sc_reduce_87 : decode y_Sc_reduce.2.1 87 = .ok (.aload_n 0, 1) := by decide +kernel
theorem d_Sc_reduce_88 : decode y_Sc_reduce.2.1 88 = .ok (.getfield 21, 3) := by decide +kernel
theorem d_Sc_reduce_91 : decode y_Sc_reduce.2.1 91 = .ok (.aload_n 0, 1) := by decide +kernel
theorem d_Sc_reduce_92 : decode y_Sc_reduce.2.1 92 = .ok (.getfield 24, 3) := by decide +kernel
theorem d_Sc_reduce_95 : decode y_Sc_reduce.2.1 95 = .ok (.invokevirtual 53, 3) := by decide +kernel
theorem d_Sc_reduce_98 : decode y_Sc_reduce.2.1 98 = .ok (.aload_n 1, 1) := by decide +kernel
theorem d_Sc_reduce_99 : decode y_Sc_reduce.2.1 99 = .ok (.getfield 108, 3) := by decide +kernel
theorem d_Sc_reduce_102 : decode y_Sc_reduce.2.1 102 = .ok (.aload_n 0, 1) := by decide +kernel
theorem d_Sc_reduce_103 : decode y_Sc_reduce.2.1 103 = .ok (.getfield 21, 3) := by decide +kernel
theorem d_Sc_reduce_106 : decode y_Sc_reduce.2.1 106 = .ok (.invokevirtual 69, 3) := by decide +kernel
theorem d_Sc_reduce_109 : decode y_Sc_reduce.2.1 109 = .ok (.return_, 1) := by decide +kernel
theorem k_Sc_reduce {G : mG} {d : Nat} {a0 : Nat} {a1 : Nat} {M : mM} {Q : mM → Prop} (hO : mOk M)
    (h : mK M a1 = 11 ∧ mK M (mR M a1 1) = 10 ∧ Cv G y_Na_multiply d [vr (mR M a1 1), vi (mI M a1 2)] M (fun M3 => mOk M3 ∧ (mK M3 a1 = 11 ∧ ∀ M7, M7 = mUI M3 a1 2 1 → mK M7 (mR M7 a1 0) = 10 ∧ ((mI M7 (mR M7 a1 0) 1 = 0) → (mK M7 (mR M7 a1 1) = 10 ∧ Cv G y_Na_put0 d [vr (mR M7 a1 1), vi 1] M7 (fun M13 => mOk M13 ∧ (Q M13)))) ∧ (¬ (mI M7 (mR M7 a1 0) 1 = 0) → (mK M7 a0 = 9 ∧ Cr G y_Sc_commonDivisor d [vr a0, vr (mR M7 a1 0), vr (mR M7 a1 1)] M7 (fun x18 M17 => mOk M17 ∧ (mK M17 x18 = 10 ∧ Ci G y_Na_isOne d [vr x18] M17 (fun x22 M21 => i32 x22 ∧ mOk M21 ∧ (((x22 = 0) → (mK M21 a1 = 11 ∧ mK M21 a0 = 9 ∧ mK M21 (mR M21 a1 0) = 10 ∧ Cv G y_Na_divide d [vr (mR M21 a1 0), vr x18, vr (mR M21 a0 2), vr (mR M21 a0 3)] M21 (fun M32 => mOk M32 ∧ (mK M32 a1 = 11 ∧ mK M32 a0 = 9 ∧ mK M32 (mR M32 a1 0) = 10 ∧ Cv G y_Na_put1 d [vr (mR M32 a1 0), vr (mR M32 a0 2)] M32 (fun M38 => mOk M38 ∧ (mK M38 a1 = 11 ∧ mK M38 a0 = 9 ∧ mK M38 (mR M38 a1 1) = 10 ∧ Cv G y_Na_divide d [vr (mR M38 a1 1), vr x18, vr (mR M38 a0 2), vr (mR M38 a0 3)] M38 (fun M44 => mOk M44 ∧ (mK M44 a1 = 11 ∧ mK M44 a0 = 9 ∧ mK M44 (mR M44 a1 1) = 10 ∧ Cv G y_Na_put1 d [vr (mR M44 a1 1), vr (mR M44 a0 2)] M44 (fun M50 => mOk M50 ∧ (Q M50)))))))))) ∧ (¬ (x22 = 0) → (Q M21))))))))))) :
    Cv G y_Sc_reduce (d + 1) [vr a0, vr a1] M Q := by
  refine wm_open (y := y_Sc_reduce) rfl (Nat.le_of_ble_eq_true rfl) (L := [vr a0, vr a1, vd]) rfl ?_
  obtain ⟨h1, h⟩ := h
  obtain ⟨h2, h⟩ := h
  refine wm_aload_n d_Sc_reduce_0 rfl rfl ?_
  refine gf_Sc_108 rfl d_Sc_reduce_1 h1 ?_
  refine wm_aload_n d_Sc_reduce_4 rfl rfl ?_
  refine gf_Sc_111 rfl d_Sc_reduce_5 h1 ?_
  refine cf_Sc_114 rfl d_Sc_reduce_8 h2 (Nat.le_of_ble_eq_true rfl) (Cv.mono h (fun M3 h => ?_))
  obtain ⟨hOM3, h⟩ := h
  obtain ⟨h6, h⟩ := h
  obtain ⟨M7, e8⟩ : ∃ M7, M7 = mUI M3 a1 2 1 := ⟨_, rfl⟩
  replace h := h M7 e8
  obtain ⟨h9, h⟩ := h
  refine wm_aload_n d_Sc_reduce_11 rfl rfl ?_
  refine wm_iconst d_Sc_reduce_12 ?_
  have hOM7 : mOk M7 := by rw [e8]; exact mOk_UI hOM3 ⟨by decide, by decide⟩
  refine pf_Sc_111 rfl d_Sc_reduce_13 h6 ⟨by decide, by decide⟩ e8 ?_
  refine wm_aload_n d_Sc_reduce_16 rfl rfl ?_
  refine gf_Sc_118 rfl d_Sc_reduce_17 (by rw [e8]; exact h6) ?_
  refine gf_Sc_57 rfl d_Sc_reduce_20 h9 ?_
  refine wm_if_ne (tgt := 35) d_Sc_reduce_23 rfl (hOM7 _ _).1 (fun c11 => ?_) (fun c11 => ?_)
  · replace h := h.2 c11
    obtain ⟨h16, h⟩ := h
    refine wm_aload_n d_Sc_reduce_35 rfl rfl ?_
    refine wm_aload_n d_Sc_reduce_36 rfl rfl ?_
    refine gf_Sc_118 rfl d_Sc_reduce_37 (by rw [e8]; exact h6) ?_
    refine wm_aload_n d_Sc_reduce_40 rfl rfl ?_
    refine gf_Sc_108 rfl d_Sc_reduce_41 (by rw [e8]; exact h6) ?_
    refine cf_Sc_123 rfl d_Sc_reduce_44 h16 (Nat.le_of_ble_eq_true rfl) (Cr.mono h (fun x18 M17 h => ?_))
    obtain ⟨hOM17, h⟩ := h
    obtain ⟨h20, h⟩ := h
    refine wm_astore_n d_Sc_reduce_47 rfl (by decide) (L' := [vr a0, vr a1, vr x18]) rfl ?_
    refine wm_aload_n d_Sc_reduce_48 rfl rfl ?_
    refine cf_Sc_126 rfl d_Sc_reduce_49 h20 (Nat.le_of_ble_eq_true rfl) (Ci.mono h (fun x22 M21 h => ?_))
    obtain ⟨h23, hOM21, h⟩ := h
    refine wm_if_ne (tgt := 109) d_Sc_reduce_52 rfl h23 (fun c28 => ?_) (fun c28 => ?_)
    · replace h := h.2 c28
      refine wm_return d_Sc_reduce_109 rfl ?_
      exact ⟨rfl, h⟩
    · replace c28 := Classical.not_not.mp c28
      replace h := h.1 c28
      obtain ⟨h29, h⟩ := h
      obtain ⟨h30, h⟩ := h
      obtain ⟨h31, h⟩ := h
      refine wm_aload_n d_Sc_reduce_55 rfl rfl ?_
      refine gf_Sc_118 rfl d_Sc_reduce_56 h29 ?_
      refine wm_aload_n d_Sc_reduce_59 rfl rfl ?_
      refine wm_aload_n d_Sc_reduce_60 rfl rfl ?_
      refine gf_Sc_21 rfl d_Sc_reduce_61 h30 ?_
      refine wm_aload_n d_Sc_reduce_64 rfl rfl ?_
      refine gf_Sc_24 rfl d_Sc_reduce_65 h30 ?_
      refine cf_Sc_53 rfl d_Sc_reduce_68 h31 (Nat.le_of_ble_eq_true rfl) (Cv.mono h (fun M32 h => ?_))
      obtain ⟨hOM32, h⟩ := h
      obtain ⟨h35, h⟩ := h
      obtain ⟨h36, h⟩ := h
      obtain ⟨h37, h⟩ := h
      refine wm_aload_n d_Sc_reduce_71 rfl rfl ?_
      refine gf_Sc_118 rfl d_Sc_reduce_72 h35 ?_
      refine wm_aload_n d_Sc_reduce_75 rfl rfl ?_
      refine gf_Sc_21 rfl d_Sc_reduce_76 h36 ?_
      refine cf_Sc_69 rfl d_Sc_reduce_79 h37 (Nat.le_of_ble_eq_true rfl) (Cv.mono h (fun M38 h => ?_))
      obtain ⟨hOM38, h⟩ := h
      obtain ⟨h41, h⟩ := h
      obtain ⟨h42, h⟩ := h
      obtain ⟨h43, h⟩ := h
      refine wm_aload_n d_Sc_reduce_82 rfl rfl ?_
      refine gf_Sc_108 rfl d_Sc_reduce_83 h41 ?_
      refine wm_aload_n d_Sc_reduce_86 rfl rfl ?_
      refine wm_aload_n d_Sc_reduce_87 rfl rfl ?_
      refine gf_Sc_21 rfl d_Sc_reduce_88 h42 ?_
      refine wm_aload_n d_Sc_reduce_91 rfl rfl ?_
      refine gf_Sc_24 rfl d_Sc_reduce_92 h42 ?_
      refine cf_Sc_53 rfl d_Sc_reduce_95 h43 (Nat.le_of_ble_eq_true rfl) (Cv.mono h (fun M44 h => ?_))
      obtain ⟨hOM44, h⟩ := h
      obtain ⟨h47, h⟩ := h
      obtain ⟨h48, h⟩ := h
      obtain ⟨h49, h⟩ := h
      refine wm_aload_n d_Sc_reduce_98 rfl rfl ?_
      refine gf_Sc_108 rfl d_Sc_reduce_99 h47 ?_
      refine wm_aload_n d_Sc_reduce_102 rfl rfl ?_
      refine gf_Sc_21 rfl d_Sc_reduce_103 h48 ?_
      refine cf_Sc_69 rfl d_Sc_reduce_106 h49 (Nat.le_of_ble_eq_true rfl) (Cv.mono h (fun M50 h => ?_))
      obtain ⟨hOM50, h⟩ := h
      refine wm_return d_Sc_reduce_109 rfl ?_
      exact ⟨rfl, h⟩
  · replace c11 := Classical.not_not.mp c11
    replace h := h.1 c11
    obtain ⟨h12, h⟩ := h
    refine wm_aload_n d_Sc_reduce_26 rfl rfl ?_
    refine gf_Sc_108 rfl d_Sc_reduce_27 (by rw [e8]; exact h6) ?_
    refine wm_iconst d_Sc_reduce_30 ?_
    refine cf_Sc_121 rfl d_Sc_reduce_31 h12 (Nat.le_of_ble_eq_true rfl) (Cv.mono h (fun M13 h => ?_))
    obtain ⟨hOM13, h⟩ := h
    refine wm_return d_Sc_reduce_34 rfl ?_
    exact ⟨rfl, h⟩
