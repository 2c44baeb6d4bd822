theorem d_MS_init_284 : decode prog_19_method_1_code 284 = .ok (.iload_n 2, 1) := dc9_28 (by decide +kernel)
theorem d_MS_init_285 : decode prog_19_method_1_code 285 = .ok (.iconst 3, 1) := dc9_6 (by decide +kernel)
theorem d_MS_init_286 : decode prog_19_method_1_code 286 = .ok (.if_icmp .ge 28, 3) := dc9_162 (by decide +kernel)
theorem d_MS_init_289 : decode prog_19_method_1_code 289 = .ok (.aload_n 0, 1) := dc9_42 (by decide +kernel)
theorem d_MS_init_290 : decode prog_19_method_1_code 290 = .ok (.getfield 40, 3) := dc9_180 (by decide +kernel)
theorem d_MS_init_293 : decode prog_19_method_1_code 293 = .ok (.iconst 3, 1) := dc9_6 (by decide +kernel)
theorem d_MS_init_294 : decode prog_19_method_1_code 294 = .ok (.iload_n 1, 1) := dc9_27 (by decide +kernel)
theorem d_MS_init_295 : decode prog_19_method_1_code 295 = .ok (.imul, 1) := dc9_104 (by decide +kernel)
theorem d_MS_init_296 : decode prog_19_method_1_code 296 = .ok (.iload_n 2, 1) := dc9_28 (by decide +kernel)
theorem d_MS_init_297 : decode prog_19_method_1_code 297 = .ok (.iadd, 1) := dc9_96 (by decide +kernel)
theorem d_MS_init_298 : decode prog_19_method_1_code 298 = .ok (.new 38, 3) := dc9_187 (by decide +kernel)
theorem d_MS_init_301 : decode prog_19_method_1_code 301 = .ok (.dup, 1) := dc9_89 (by decide +kernel)
theorem d_MS_init_302 : decode prog_19_method_1_code 302 = .ok (.bipush 56, 2) := dc9_16 (by decide +kernel)
theorem d_MS_init_304 : decode prog_19_method_1_code 304 = .ok (.invokespecial 81, 3) := dc9_183 (by decide +kernel)
theorem d_MS_init_307 : decode prog_19_method_1_code 307 = .ok (.aastore, 1) := dc9_83 (by decide +kernel)
theorem d_MS_init_308 : decode prog_19_method_1_code 308 = .ok (.iinc 2 1, 3) := by decide +kernel
theorem d_MS_init_311 : decode prog_19_method_1_code 311 = .ok (.goto (-27), 3) := dc9_167 (by decide +kernel)
theorem d_MS_init_275 : decode prog_19_method_1_code 275 = .ok (.iload_n 1, 1) := dc9_27 (by decide +kernel)
theorem d_MS_init_276 : decode prog_19_method_1_code 276 = .ok (.sipush 512, 3) := dc9_17 (by decide +kernel)
theorem d_MS_init_279 : decode prog_19_method_1_code 279 = .ok (.if_icmp .ge 71, 3) := dc9_162 (by decide +kernel)
theorem d_MS_init_282 : decode prog_19_method_1_code 282 = .ok (.iconst 0, 1) := dc9_3 (by decide +kernel)
theorem d_MS_init_283 : decode prog_19_method_1_code 283 = .ok (.istore_n 2, 1) := dc9_61 (by decide +kernel)
theorem d_MS_init_314 : decode prog_19_method_1_code 314 = .ok (.aload_n 0, 1) := dc9_42 (by decide +kernel)
theorem d_MS_init_315 : decode prog_19_method_1_code 315 = .ok (.getfield 48, 3) := dc9_180 (by decide +kernel)
theorem d_MS_init_318 : decode prog_19_method_1_code 318 = .ok (.iload_n 1, 1) := dc9_27 (by decide +kernel)
theorem d_MS_init_319 : decode prog_19_method_1_code 319 = .ok (.new 38, 3) := dc9_187 (by decide +kernel)
theorem d_MS_init_322 : decode prog_19_method_1_code 322 = .ok (.dup, 1) := dc9_89 (by decide +kernel)
theorem d_MS_init_323 : decode prog_19_method_1_code 323 = .ok (.bipush 56, 2) := dc9_16 (by decide +kernel)
theorem d_MS_init_325 : decode prog_19_method_1_code 325 = .ok (.invokespecial 81, 3) := dc9_183 (by decide +kernel)
theorem d_MS_init_328 : decode prog_19_method_1_code 328 = .ok (.aastore, 1) := dc9_83 (by decide +kernel)
theorem d_MS_init_329 : decode prog_19_method_1_code 329 = .ok (.aload_n 0, 1) := dc9_42 (by decide +kernel)
theorem d_MS_init_330 : decode prog_19_method_1_code 330 = .ok (.getfield 69, 3) := dc9_180 (by decide +kernel)
theorem d_MS_init_333 : decode prog_19_method_1_code 333 = .ok (.iload_n 1, 1) := dc9_27 (by decide +kernel)
theorem d_MS_init_334 : decode prog_19_method_1_code 334 = .ok (.new 38, 3) := dc9_187 (by decide +kernel)
theorem d_MS_init_337 : decode prog_19_method_1_code 337 = .ok (.dup, 1) := dc9_89 (by decide +kernel)
theorem d_MS_init_338 : decode prog_19_method_1_code 338 = .ok (.bipush 56, 2) := dc9_16 (by decide +kernel)
theorem d_MS_init_340 : decode prog_19_method_1_code 340 = .ok (.invokespecial 81, 3) := dc9_183 (by decide +kernel)
theorem d_MS_init_343 : decode prog_19_method_1_code 343 = .ok (.aastore, 1) := dc9_83 (by decide +kernel)
theorem d_MS_init_344 : decode prog_19_method_1_code 344 = .ok (.iinc 1 1, 3) := by decide +kernel
theorem d_MS_init_347 : decode prog_19_method_1_code 347 = .ok (.goto (-72), 3) := dc9_167 (by decide +kernel)
theorem d_MS_init_352 : decode prog_19_method_1_code 352 = .ok (.iload_n 1, 1) := dc9_27 (by decide +kernel)
theorem d_MS_init_353 : decode prog_19_method_1_code 353 = .ok (.sipush 1640, 3) := dc9_17 (by decide +kernel)
theorem d_MS_init_356 : decode prog_19_method_1_code 356 = .ok (.if_icmp .ge 24, 3) := dc9_162 (by decide +kernel)
theorem d_MS_init_359 : decode prog_19_method_1_code 359 = .ok (.aload_n 0, 1) := dc9_42 (by decide +kernel)
theorem d_MS_init_360 : decode prog_19_method_1_code 360 = .ok (.getfield 78, 3) := dc9_180 (by decide +kernel)
theorem d_MS_init_363 : decode prog_19_method_1_code 363 = .ok (.iload_n 1, 1) := dc9_27 (by decide +kernel)
theorem d_MS_init_364 : decode prog_19_method_1_code 364 = .ok (.new 38, 3) := dc9_187 (by decide +kernel)
theorem d_MS_init_367 : decode prog_19_method_1_code 367 = .ok (.dup, 1) := dc9_89 (by decide +kernel)
theorem d_MS_init_368 : decode prog_19_method_1_code 368 = .ok (.bipush 56, 2) := dc9_16 (by decide +kernel)
theorem d_MS_init_370 : decode prog_19_method_1_code 370 = .ok (.invokespecial 81, 3) := dc9_183 (by decide +kernel)
theorem d_MS_init_373 : decode prog_19_method_1_code 373 = .ok (.aastore, 1) := dc9_83 (by decide +kernel)
theorem d_MS_init_374 : decode prog_19_method_1_code 374 = .ok (.iinc 1 1, 3) := by decide +kernel
theorem d_MS_init_377 : decode prog_19_method_1_code 377 = .ok (.goto (-25), 3) := dc9_167 (by decide +kernel)
def gF (r : Nat → U_MF) (m : Nat) : Nat → Option Nat := fun j => if j < m then some (r (5 * (j / 3) + j % 3)).1 else none
theorem gF_keep {r : Nat → U_MF} {m n : Nat} {v : U_MF} (h : ∀ j, j < m → 5 * (j / 3) + j % 3 ≠ n) : gF (va_up r n v) m = gF r m := by
  funext j
  simp only [va_up, gF]
  by_cases h2 : j < m
  · rw [if_pos h2, if_pos h2, if_neg (h j h2)]
  · rw [if_neg h2, if_neg h2]
def gN (r : Nat → U_MF) (m : Nat) : Nat → Option Nat := fun j => if j < m then some (r (5 * j + 3)).1 else none
theorem gN_keep {r : Nat → U_MF} {m n : Nat} {v : U_MF} (h : ∀ j, j < m → 5 * j + 3 ≠ n) : gN (va_up r n v) m = gN r m := by
  funext j
  simp only [va_up, gN]
  by_cases h2 : j < m
  · rw [if_pos h2, if_pos h2, if_neg (h j h2)]
  · rw [if_neg h2, if_neg h2]
def gV (r : Nat → U_MF) (m : Nat) : Nat → Option Nat := fun j => if j < m then some (r (5 * j + 4)).1 else none
theorem gV_keep {r : Nat → U_MF} {m n : Nat} {v : U_MF} (h : ∀ j, j < m → 5 * j + 4 ≠ n) : gV (va_up r n v) m = gV r m := by
  funext j
  simp only [va_up, gV]
  by_cases h2 : j < m
  · rw [if_pos h2, if_pos h2, if_neg (h j h2)]
  · rw [if_neg h2, if_neg h2]
def gC (r : Nat → U_MF) (m : Nat) : Nat → Option Nat := fun j => if j < m then some (r (2560 + j)).1 else none
theorem gC_keep {r : Nat → U_MF} {m n : Nat} {v : U_MF} (h : ∀ j, j < m → 2560 + j ≠ n) : gC (va_up r n v) m = gC r m := by
  funext j
  simp only [va_up, gC]
  by_cases h2 : j < m
  · rw [if_pos h2, if_pos h2, if_neg (h j h2)]
  · rw [if_neg h2, if_neg h2]
theorem gF_up {r : Nat → U_MF} {k w : Nat} {v : U_MF} (hw : w < 3) : va_up (gF r (3 * k + w)) (3 * k + w) (some v.1) = gF (va_up r (5 * k + w) v) (3 * k + w + 1) := by
  funext j
  simp only [va_up, gF]
  by_cases h : j = 3 * k + w
  · subst h; rw [if_pos rfl, if_pos (by omega), if_pos (by omega)]
  · rw [if_neg h]
    by_cases h2 : j < 3 * k + w
    · rw [if_pos h2, if_pos (by omega), if_neg (by omega)]
    · rw [if_neg h2, if_neg (by omega)]
theorem gN_up {r : Nat → U_MF} {k : Nat} {v : U_MF} : va_up (gN r (k)) (k) (some v.1) = gN (va_up r (5 * k + 3) v) (k + 1) := by
  funext j
  simp only [va_up, gN]
  by_cases h : j = k
  · subst h; rw [if_pos rfl, if_pos (by omega), if_pos (by omega)]
  · rw [if_neg h]
    by_cases h2 : j < k
    · rw [if_pos h2, if_pos (by omega), if_neg (by omega)]
    · rw [if_neg h2, if_neg (by omega)]
theorem gV_up {r : Nat → U_MF} {k : Nat} {v : U_MF} : va_up (gV r (k)) (k) (some v.1) = gV (va_up r (5 * k + 4) v) (k + 1) := by
  funext j
  simp only [va_up, gV]
  by_cases h : j = k
  · subst h; rw [if_pos rfl, if_pos (by omega), if_pos (by omega)]
  · rw [if_neg h]
    by_cases h2 : j < k
    · rw [if_pos h2, if_pos (by omega), if_neg (by omega)]
    · rw [if_neg h2, if_neg (by omega)]
theorem gC_up {r : Nat → U_MF} {k : Nat} {v : U_MF} : va_up (gC r (k)) (k) (some v.1) = gC (va_up r (2560 + k) v) (k + 1) := by
  funext j
  simp only [va_up, gC]
  by_cases h : j = k
  · subst h; rw [if_pos rfl, if_pos (by omega), if_pos (by omega)]
  · rw [if_neg h]
    by_cases h2 : j < k
    · rw [if_pos h2, if_pos (by omega), if_neg (by omega)]
    · rw [if_neg h2, if_neg (by omega)]
abbrev msX (tA : Nat → ClassId) (h0 ac av an af : Nat) (fs : List Value) (c v n f : Nat → Option Nat) : va_W := [(h0, .inr (16, fs)), (ac, rA tA 1640 c), (av, rA tA 512 v), (an, rA tA 512 n), (af, rA tA 1536 f)]
set_option maxHeartbeats 4000000 in
set_option maxRecDepth 100000 in
theorem MS_inner {p : Program} {l : Launch} {e : Env} {s : State} {m : MethodId} {below : List Frame} {meth : Method} {c : Code} {D : va_G} {tA : Nat → ClassId} {A : Nat → Prop} {h0 ac av an af : Nat} {fs : List Value} {T0 : va_W} {Q : State → Prop} (hx : p.tables.exec = Jvm.exec) (hb : c.code = prog_19_method_1_code) (hml : c.maxLocals = 3) (hh : zH s) (hg : ∀ w ∈ lw_R, w.before #[Value.ref h0] s = true) (hown : s.vm.findClass "ChanceArenaModel$Solver" = some m.cls) (hK : va_K D vwCl (zT tA) s) (hA : ∀ q, s.heap.size ≤ q → A q) (hff : fs[11]? = some (.ref af)) {k : Nat} (hk : k < 512)
    (kend : ∀ (r : Nat → U_MF) (H : Heap) (locs : List Loc) (ls : Array Slot), va_P D vwCl (msX tA h0 ac av an af fs (gC r (0)) (gV r (k)) (gN r (k)) (gF r (3 * k + 3)) ++ (T0 ++ f_pool tA r (5 * k + 3))) H → va_D A (msX tA h0 ac av an af fs (gC r (0)) (gV r (k)) (gN r (k)) (gF r (3 * k + 3)) ++ (T0 ++ f_pool tA r (5 * k + 3))) → va_S A s.heap H locs → lv_has ls 3 [(2, .int (nI 3)), (1, .int (nI k)), (0, .ref h0)] → W p l e { frames := 4, cells := 21067, slots := 543437, locals := 81 } s m #[Value.ref h0] below meth c H locs (67 + 5 * (5 * k + 3)) (43637 + 119 * (5 * k + 3)) Q (F0 m 314 ls [])) :
    ∀ (t w : Nat), w + t = 3 → ∀ (r : Nat → U_MF) (H : Heap) (locs : List Loc) (ls : Array Slot), va_P D vwCl (msX tA h0 ac av an af fs (gC r (0)) (gV r (k)) (gN r (k)) (gF r (3 * k + w)) ++ (T0 ++ f_pool tA r (5 * k + w))) H → va_D A (msX tA h0 ac av an af fs (gC r (0)) (gV r (k)) (gN r (k)) (gF r (3 * k + w)) ++ (T0 ++ f_pool tA r (5 * k + w))) → va_S A s.heap H locs → lv_has ls 3 [(2, .int (nI w)), (1, .int (nI k)), (0, .ref h0)] → W p l e { frames := 4, cells := 21067, slots := 543437, locals := 81 } s m #[Value.ref h0] below meth c H locs (67 + 5 * (5 * k + w)) (43637 + 119 * (5 * k + w)) Q (F0 m 284 ls []) := by
  intro t
  induction t with
  | zero =>
    intro w hw r H locs ls hP hD hS hl
    have hw : w = 3 := hw
    subst hw
    refine lv_iload_n hx hb d_MS_init_284 rfl (lv_at hl 0 rfl) ?_
    refine lv_iconst (v := 3) hx hb d_MS_init_285 (by decide) ?_
    refine lv_icmp_ge (tgt := 314) hx hb d_MS_init_286 (by decide) (fun c9 => ?_) (fun c9 => absurd (by decide) c9)
    exact kend r H locs ls hP hD hS hl
  | succ t ih =>
    intro w hw r H locs ls hP hD hS hl
    refine lv_iload_n hx hb d_MS_init_284 rfl (lv_at hl 0 rfl) ?_
    refine lv_iconst (v := 3) hx hb d_MS_init_285 (by decide) ?_
    refine lv_icmp_ge (tgt := 314) hx hb d_MS_init_286 (by decide) (fun c9 => absurd c9 (nI_ge (a := w) (b := 3) (by omega) (by decide))) (fun c9 => ?_)
    refine lv_aload_n hx hb d_MS_init_289 rfl (lv_at hl 2 rfl) ?_
    refine va_get (D := D) (ci := 16) (v := .ref af) (C := R_MS) (T := T_MS) (N := 32) hx hb hg i_MS hown hK hP 0 rfl rfl 11 (by decide) (hg _ k9_235) (fun _ h9 => h9) hff d_MS_init_290 ?_
    refine lv_iconst (v := 3) hx hb d_MS_init_293 (by decide) ?_
    refine lv_iload_n hx hb d_MS_init_294 rfl (lv_at hl 1 rfl) ?_
    refine lv_imul hx hb d_MS_init_295 ?_
    refine lv_iload_n hx hb d_MS_init_296 rfl (lv_at hl 0 rfl) ?_
    refine lv_iadd hx hb d_MS_init_297 ?_
    rw [show (3 : Int32) * nI k + nI w = nI (3 * k + w) from by rw [show (3 : Int32) = nI 3 from rfl, pk_mul, nI_add]]
    refine MS_make (X := msX tA h0 ac av an af fs (gC r 0) (gV r k) (gN r k) (gF r (3 * k + w))) (T0 := T0) (r := r) (n := 5 * k + w) (i := 3 * k + w) (q0 := 4) (N := 1536) hx hb hml hl.1 hh hg hown hK hA hP hD hS rfl (by omega) (by decide) d_MS_init_298 d_MS_init_301 d_MS_init_302 d_MS_init_304 d_MS_init_307 (by decide) (by decide) (by show _ ≤ 21067; omega) (by show _ ≤ 543437; omega) (fun v H1 locs1 hP1 hD1 hS1 => ?_)
    clear hP hD hS
    replace hP1 : va_P D vwCl (msX tA h0 ac av an af fs (gC r 0) (gV r k) (gN r k) (va_up (gF r (3 * k + w)) (3 * k + w) (some v.1)) ++ (T0 ++ f_pool tA (va_up r (5 * k + w) v) (5 * k + w + 1))) _ := hP1
    replace hD1 : va_D A (msX tA h0 ac av an af fs (gC r 0) (gV r k) (gN r k) (va_up (gF r (3 * k + w)) (3 * k + w) (some v.1)) ++ (T0 ++ f_pool tA (va_up r (5 * k + w) v) (5 * k + w + 1))) := hD1
    rw [gF_up (by omega), ← gC_keep (m := 0) (n := 5 * k + w) (v := v) (by omega), ← gV_keep (m := k) (n := 5 * k + w) (v := v) (by omega), ← gN_keep (m := k) (n := 5 * k + w) (v := v) (by omega)] at hP1 hD1
    refine lv_iinc (v := nI (w + 1)) (lv' := [(2, .int (nI (w + 1))), (1, .int (nI k)), (0, .ref h0)]) hx hb d_MS_init_308 hl (k := 0) rfl (show nI w + Int32.ofInt 1 = _ from nI_1 w) (by decide) rfl (fun ls hl => ?_)
    refine lv_goto (tgt := 284) hx hb d_MS_init_311 (by decide) ?_
    exact ih (w + 1) (by omega) _ _ _ ls hP1 hD1 hS1 hl
set_option maxHeartbeats 4000000 in
set_option maxRecDepth 100000 in
theorem MS_outer {p : Program} {l : Launch} {e : Env} {s : State} {m : MethodId} {below : List Frame} {meth : Method} {c : Code} {D : va_G} {tA : Nat → ClassId} {A : Nat → Prop} {h0 ac av an af : Nat} {fs : List Value} {T0 : va_W} {Q : State → Prop} (hx : p.tables.exec = Jvm.exec) (hb : c.code = prog_19_method_1_code) (hml : c.maxLocals = 3) (hh : zH s) (hg : ∀ w ∈ lw_R, w.before #[Value.ref h0] s = true) (hown : s.vm.findClass "ChanceArenaModel$Solver" = some m.cls) (hK : va_K D vwCl (zT tA) s) (hA : ∀ q, s.heap.size ≤ q → A q) (hff : fs[11]? = some (.ref af)) (hfn : fs[13]? = some (.ref an)) (hfv : fs[21]? = some (.ref av))
    (kend : ∀ (r : Nat → U_MF) (H : Heap) (locs : List Loc) (ls : Array Slot), va_P D vwCl (msX tA h0 ac av an af fs (gC r (0)) (gV r (512)) (gN r (512)) (gF r (3 * 512)) ++ (T0 ++ f_pool tA r (5 * 512))) H → va_D A (msX tA h0 ac av an af fs (gC r (0)) (gV r (512)) (gN r (512)) (gF r (3 * 512)) ++ (T0 ++ f_pool tA r (5 * 512))) → va_S A s.heap H locs → lv_has ls 3 [(1, .int (nI 512)), (0, .ref h0)] → W p l e { frames := 4, cells := 21067, slots := 543437, locals := 81 } s m #[Value.ref h0] below meth c H locs (67 + 5 * (5 * 512)) (43637 + 119 * (5 * 512)) Q (F0 m 350 ls [])) :
    ∀ (t k : Nat), k + t = 512 → ∀ (r : Nat → U_MF) (H : Heap) (locs : List Loc) (ls : Array Slot), va_P D vwCl (msX tA h0 ac av an af fs (gC r (0)) (gV r (k)) (gN r (k)) (gF r (3 * k)) ++ (T0 ++ f_pool tA r (5 * k))) H → va_D A (msX tA h0 ac av an af fs (gC r (0)) (gV r (k)) (gN r (k)) (gF r (3 * k)) ++ (T0 ++ f_pool tA r (5 * k))) → va_S A s.heap H locs → lv_has ls 3 [(1, .int (nI k)), (0, .ref h0)] → W p l e { frames := 4, cells := 21067, slots := 543437, locals := 81 } s m #[Value.ref h0] below meth c H locs (67 + 5 * (5 * k)) (43637 + 119 * (5 * k)) Q (F0 m 275 ls []) := by
  intro t
  induction t with
  | zero =>
    intro k hk r H locs ls hP hD hS hl
    have hk : k = 512 := hk
    subst hk
    refine lv_iload_n hx hb d_MS_init_275 rfl (lv_at hl 0 rfl) ?_
    refine lv_sipush (v := 512) hx hb d_MS_init_276 (by decide) ?_
    refine lv_icmp_ge (tgt := 350) hx hb d_MS_init_279 (by decide) (fun c9 => ?_) (fun c9 => absurd (by decide) c9)
    exact kend r H locs ls hP hD hS hl
  | succ t ih =>
    intro k hk r0 H locs ls hP hD hS hl
    refine lv_iload_n hx hb d_MS_init_275 rfl (lv_at hl 0 rfl) ?_
    refine lv_sipush (v := 512) hx hb d_MS_init_276 (by decide) ?_
    refine lv_icmp_ge (tgt := 350) hx hb d_MS_init_279 (by decide) (fun c9 => absurd c9 (nI_ge (a := k) (b := 512) (by omega) (by decide))) (fun c9 => ?_)
    refine lv_iconst (v := 0) hx hb d_MS_init_282 (by decide) ?_
    refine lv_istore_n (lv' := [(2, .int (nI 0)), (1, .int (nI k)), (0, .ref h0)]) hx hb d_MS_init_283 rfl hl (by decide) rfl (fun ls hl => ?_)
    refine MS_inner hx hb hml hh hg hown hK hA hff (show k < 512 by omega) ?_ 3 0 rfl r0 _ _ ls hP hD hS hl
    clear hP hD hS hl
    intro r H locs ls hP hD hS hl
    refine lv_aload_n hx hb d_MS_init_314 rfl (lv_at hl 2 rfl) ?_
    refine va_get (D := D) (ci := 16) (v := .ref an) (C := R_MS) (T := T_MS) (N := 32) hx hb hg i_MS hown hK hP 0 rfl rfl 13 (by decide) (hg _ k9_237) (fun _ h9 => h9) hfn d_MS_init_315 ?_
    refine lv_iload_n hx hb d_MS_init_318 rfl (lv_at hl 1 rfl) ?_
    refine MS_make (X := msX tA h0 ac av an af fs (gC r 0) (gV r k) (gN r k) (gF r (3 * k + 3))) (T0 := T0) (r := r) (n := 5 * k + 3) (i := k) (q0 := 3) (N := 512) hx hb hml hl.1 hh hg hown hK hA hP hD hS rfl (by omega) (by decide) d_MS_init_319 d_MS_init_322 d_MS_init_323 d_MS_init_325 d_MS_init_328 (by decide) (by decide) (by show _ ≤ 21067; omega) (by show _ ≤ 543437; omega) (fun v H1 locs1 hP1 hD1 hS1 => ?_)
    clear hP hD hS
    replace hP1 : va_P D vwCl (msX tA h0 ac av an af fs (gC r 0) (gV r k) (va_up (gN r k) k (some v.1)) (gF r (3 * k + 3)) ++ (T0 ++ f_pool tA (va_up r (5 * k + 3) v) (5 * k + 3 + 1))) _ := hP1
    replace hD1 : va_D A (msX tA h0 ac av an af fs (gC r 0) (gV r k) (va_up (gN r k) k (some v.1)) (gF r (3 * k + 3)) ++ (T0 ++ f_pool tA (va_up r (5 * k + 3) v) (5 * k + 3 + 1))) := hD1
    rw [gN_up, ← gC_keep (m := 0) (n := 5 * k + 3) (v := v) (by omega), ← gV_keep (m := k) (n := 5 * k + 3) (v := v) (by omega), ← gF_keep (m := 3 * k + 3) (n := 5 * k + 3) (v := v) (by omega)] at hP1 hD1
    generalize va_up r (5 * k + 3) v = r2 at hP1 hD1
    refine lv_aload_n hx hb d_MS_init_329 rfl (lv_at hl 2 rfl) ?_
    refine va_get (D := D) (ci := 16) (v := .ref av) (C := R_MS) (T := T_MS) (N := 32) hx hb hg i_MS hown hK hP1 0 rfl rfl 21 (by decide) (hg _ k10_5) (fun _ h9 => h9) hfv d_MS_init_330 ?_
    refine lv_iload_n hx hb d_MS_init_333 rfl (lv_at hl 1 rfl) ?_
    refine MS_make (X := msX tA h0 ac av an af fs (gC r2 0) (gV r2 k) (gN r2 (k + 1)) (gF r2 (3 * k + 3))) (T0 := T0) (r := r2) (n := 5 * k + 3 + 1) (i := k) (q0 := 2) (N := 512) hx hb hml hl.1 hh hg hown hK hA hP1 hD1 hS1 rfl (by omega) (by decide) d_MS_init_334 d_MS_init_337 d_MS_init_338 d_MS_init_340 d_MS_init_343 (by decide) (by decide) (by show _ ≤ 21067; omega) (by show _ ≤ 543437; omega) (fun v H2 locs2 hP2 hD2 hS2 => ?_)
    clear hP1 hD1 hS1
    replace hP2 : va_P D vwCl (msX tA h0 ac av an af fs (gC r2 0) (va_up (gV r2 k) k (some v.1)) (gN r2 (k + 1)) (gF r2 (3 * k + 3)) ++ (T0 ++ f_pool tA (va_up r2 (5 * k + 4) v) (5 * k + 4 + 1))) _ := hP2
    replace hD2 : va_D A (msX tA h0 ac av an af fs (gC r2 0) (va_up (gV r2 k) k (some v.1)) (gN r2 (k + 1)) (gF r2 (3 * k + 3)) ++ (T0 ++ f_pool tA (va_up r2 (5 * k + 4) v) (5 * k + 4 + 1))) := hD2
    rw [gV_up, ← gC_keep (m := 0) (n := 5 * k + 4) (v := v) (by omega), ← gN_keep (m := k + 1) (n := 5 * k + 4) (v := v) (by omega), ← gF_keep (m := 3 * k + 3) (n := 5 * k + 4) (v := v) (by omega)] at hP2 hD2
    refine lv_iinc (v := nI (k + 1)) (lv' := [(1, .int (nI (k + 1))), (2, .int (nI 3)), (0, .ref h0)]) hx hb d_MS_init_344 hl (k := 1) rfl (show nI k + Int32.ofInt 1 = _ from nI_1 k) (by decide) rfl (fun ls hl => ?_)
    refine lv_goto (tgt := 275) hx hb d_MS_init_347 (by decide) ?_
    refine W.cs (cells' := 67 + 5 * (5 * (k + 1))) (slots' := 43637 + 119 * (5 * (k + 1))) (by omega) (by omega) ?_
    exact ih (k + 1) (by omega) _ _ _ ls hP2 hD2 hS2 (lv_sub hl [0, 2] rfl)
set_option maxHeartbeats 4000000 in
set_option maxRecDepth 100000 in
theorem MS_cells {p : Program} {l : Launch} {e : Env} {s : State} {m : MethodId} {below : List Frame} {meth : Method} {c : Code} {D : va_G} {tA : Nat → ClassId} {A : Nat → Prop} {h0 ac av an af : Nat} {fs : List Value} {T0 : va_W} {Q : State → Prop} (hx : p.tables.exec = Jvm.exec) (hb : c.code = prog_19_method_1_code) (hml : c.maxLocals = 3) (hh : zH s) (hg : ∀ w ∈ lw_R, w.before #[Value.ref h0] s = true) (hown : s.vm.findClass "ChanceArenaModel$Solver" = some m.cls) (hK : va_K D vwCl (zT tA) s) (hA : ∀ q, s.heap.size ≤ q → A q) (hfc : fs[25]? = some (.ref ac))
    (kend : ∀ (r : Nat → U_MF) (H : Heap) (locs : List Loc) (ls : Array Slot), va_P D vwCl (msX tA h0 ac av an af fs (gC r (1640)) (gV r (512)) (gN r (512)) (gF r (1536)) ++ (T0 ++ f_pool tA r (2560 + 1640))) H → va_D A (msX tA h0 ac av an af fs (gC r (1640)) (gV r (512)) (gN r (512)) (gF r (1536)) ++ (T0 ++ f_pool tA r (2560 + 1640))) → va_S A s.heap H locs → lv_has ls 3 [(1, .int (nI 1640)), (0, .ref h0)] → W p l e { frames := 4, cells := 21067, slots := 543437, locals := 81 } s m #[Value.ref h0] below meth c H locs (67 + 5 * (2560 + 1640)) (43637 + 119 * (2560 + 1640)) Q (F0 m 380 ls [])) :
    ∀ (t k : Nat), k + t = 1640 → ∀ (r : Nat → U_MF) (H : Heap) (locs : List Loc) (ls : Array Slot), va_P D vwCl (msX tA h0 ac av an af fs (gC r (k)) (gV r (512)) (gN r (512)) (gF r (1536)) ++ (T0 ++ f_pool tA r (2560 + k))) H → va_D A (msX tA h0 ac av an af fs (gC r (k)) (gV r (512)) (gN r (512)) (gF r (1536)) ++ (T0 ++ f_pool tA r (2560 + k))) → va_S A s.heap H locs → lv_has ls 3 [(1, .int (nI k)), (0, .ref h0)] → W p l e { frames := 4, cells := 21067, slots := 543437, locals := 81 } s m #[Value.ref h0] below meth c H locs (67 + 5 * (2560 + k)) (43637 + 119 * (2560 + k)) Q (F0 m 352 ls []) := by
  intro t
  induction t with
  | zero =>
    intro k hk r H locs ls hP hD hS hl
    have hk : k = 1640 := hk
    subst hk
    refine lv_iload_n hx hb d_MS_init_352 rfl (lv_at hl 0 rfl) ?_
    refine lv_sipush (v := 1640) hx hb d_MS_init_353 (by decide) ?_
    refine lv_icmp_ge (tgt := 380) hx hb d_MS_init_356 (by decide) (fun c9 => ?_) (fun c9 => absurd (by decide) c9)
    exact kend r H locs ls hP hD hS hl
  | succ t ih =>
    intro k hk r H locs ls hP hD hS hl
    refine lv_iload_n hx hb d_MS_init_352 rfl (lv_at hl 0 rfl) ?_
    refine lv_sipush (v := 1640) hx hb d_MS_init_353 (by decide) ?_
    refine lv_icmp_ge (tgt := 380) hx hb d_MS_init_356 (by decide) (fun c9 => absurd c9 (nI_ge (a := k) (b := 1640) (by omega) (by decide))) (fun c9 => ?_)
    refine lv_aload_n hx hb d_MS_init_359 rfl (lv_at hl 1 rfl) ?_
    refine va_get (D := D) (ci := 16) (v := .ref ac) (C := R_MS) (T := T_MS) (N := 32) hx hb hg i_MS hown hK hP 0 rfl rfl 25 (by decide) (hg _ k10_9) (fun _ h9 => h9) hfc d_MS_init_360 ?_
    refine lv_iload_n hx hb d_MS_init_363 rfl (lv_at hl 0 rfl) ?_
    refine MS_make (X := msX tA h0 ac av an af fs (gC r k) (gV r 512) (gN r 512) (gF r 1536)) (T0 := T0) (r := r) (n := 2560 + k) (i := k) (q0 := 1) (N := 1640) hx hb hml hl.1 hh hg hown hK hA hP hD hS rfl (by omega) (by decide) d_MS_init_364 d_MS_init_367 d_MS_init_368 d_MS_init_370 d_MS_init_373 (by decide) (by decide) (by show _ ≤ 21067; omega) (by show _ ≤ 543437; omega) (fun v H1 locs1 hP1 hD1 hS1 => ?_)
    clear hP hD hS
    replace hP1 : va_P D vwCl (msX tA h0 ac av an af fs (va_up (gC r k) k (some v.1)) (gV r 512) (gN r 512) (gF r 1536) ++ (T0 ++ f_pool tA (va_up r (2560 + k) v) (2560 + k + 1))) _ := hP1
    replace hD1 : va_D A (msX tA h0 ac av an af fs (va_up (gC r k) k (some v.1)) (gV r 512) (gN r 512) (gF r 1536) ++ (T0 ++ f_pool tA (va_up r (2560 + k) v) (2560 + k + 1))) := hD1
    rw [gC_up, ← gV_keep (m := 512) (n := 2560 + k) (v := v) (by omega), ← gN_keep (m := 512) (n := 2560 + k) (v := v) (by omega), ← gF_keep (m := 1536) (n := 2560 + k) (v := v) (by omega)] at hP1 hD1
    refine lv_iinc (v := nI (k + 1)) (lv' := [(1, .int (nI (k + 1))), (0, .ref h0)]) hx hb d_MS_init_374 hl (k := 0) rfl (show nI k + Int32.ofInt 1 = _ from nI_1 k) (by decide) rfl (fun ls hl => ?_)
    refine lv_goto (tgt := 352) hx hb d_MS_init_377 (by decide) ?_
    exact ih (k + 1) (by omega) _ _ _ ls hP1 hD1 hS1 hl
