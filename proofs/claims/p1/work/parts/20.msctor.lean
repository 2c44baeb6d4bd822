theorem d_MS_init_273 : decode prog_19_method_1_code 273 = .ok (.iconst 0, 1) := dc9_3 (by decide +kernel)
theorem d_MS_init_274 : decode prog_19_method_1_code 274 = .ok (.istore_n 1, 1) := dc9_60 (by decide +kernel)
theorem d_MS_init_350 : decode prog_19_method_1_code 350 = .ok (.iconst 0, 1) := dc9_3 (by decide +kernel)
theorem d_MS_init_351 : decode prog_19_method_1_code 351 = .ok (.istore_n 1, 1) := dc9_60 (by decide +kernel)
theorem d_MS_init_380 : decode prog_19_method_1_code 380 = .ok (.return_, 1) := dc9_177 (by decide +kernel)
theorem gC_0 {r : Nat → U_MF} : gC r 0 = fun _ => none := by
  funext j
  simp [gC]
theorem gV_0 {r : Nat → U_MF} : gV r 0 = fun _ => none := by
  funext j
  simp [gV]
theorem gN_0 {r : Nat → U_MF} : gN r 0 = fun _ => none := by
  funext j
  simp [gN]
theorem gF_0 {r : Nat → U_MF} : gF r 0 = fun _ => none := by
  funext j
  simp [gF]
abbrev S_MS : Type := (Nat × S_MU) × Nat × Nat × Nat × Nat × Nat × Nat × Nat × Nat × Nat × Nat × Nat × Nat × Nat × Nat × Nat × Nat × Nat × Nat × Nat × Nat × (Nat × (Nat × Nat × Nat × Nat)) × (Nat × (Nat × Nat × Nat × Nat)) × (Nat × (Nat × Nat × Nat × Nat)) × (Nat × (Nat × Nat × Nat × Nat)) × (Nat × (Nat × Nat × Nat × Nat)) × Nat × (Nat → U_MF)
def w_MS (tA : Nat → ClassId) (h0 : Nat) (u : S_MS) : va_W := match u with
  | ((q5, u5), q19, q28, q37, q46, q55, q64, q73, q82, q90, q99, q109, q118, q127, q136, q145, q154, q163, q172, q181, q190, (q197, u197), (q210, u210), (q223, u223), (q237, u237), (q251, u251), q268, r) => msX tA h0 q190 q163 q99 q82 [.ref q5, .int 0, .int 0, .int 0, .ref q19, .ref q28, .ref q37, .ref q46, .ref q55, .ref q64, .ref q73, .ref q82, .ref q90, .ref q99, .ref q109, .ref q118, .ref q127, .int 0, .ref q136, .ref q145, .ref q154, .ref q163, .ref q172, .ref q181, .int 0, .ref q190, .ref q197, .ref q210, .ref q223, .ref q237, .ref q251, .ref q268] (gC r 1640) (gV r 512) (gN r 512) (gF r 1536) ++ (([] ++ w_MU tA q5 u5 ++ [(q19, .inl (tA 0, 513, .inl (fun _ => 0)))] ++ [(q28, .inl (tA 0, 514, .inl (fun _ => 0)))] ++ [(q37, .inl (tA 0, 4200, .inl (fun _ => 0)))] ++ [(q46, .inl (tA 0, 4201, .inl (fun _ => 0)))] ++ [(q55, .inl (tA 0, 4096, .inl (fun _ => 0)))] ++ [(q64, .inl (tA 0, 4096, .inl (fun _ => 0)))] ++ [(q73, .inl (tA 0, 4096, .inl (fun _ => 0)))] ++ [(q90, .inl (tA 1, 3, .inl (fun _ => 0)))] ++ [(q109, .inl (tA 0, 512, .inl (fun _ => 0)))] ++ [(q118, .inl (tA 0, 512, .inl (fun _ => 0)))] ++ [(q127, .inl (tA 0, 512, .inl (fun _ => 0)))] ++ [(q136, .inl (tA 0, 512, .inl (fun _ => 0)))] ++ [(q145, .inl (tA 1, 512, .inl (fun _ => 0)))] ++ [(q154, .inl (tA 1, 512, .inl (fun _ => 0)))] ++ [(q172, .inl (tA 0, 40, .inl (fun _ => 0)))] ++ [(q181, .inl (tA 0, 512, .inl (fun _ => 0)))] ++ w_MF tA q197 8 u197 ++ w_MF tA q210 56 u210 ++ w_MF tA q223 900 u223 ++ w_MF tA q237 900 u237 ++ w_MF tA q251 900 u251 ++ [(q268, .inl (tA 0, 400, .inl (fun _ => 0)))]) ++ f_pool tA r 4200)
theorem f_MS : ∀ j, j < 32 → defaultValue (t_MS j) = vp_V [.null, .int 0, .int 0, .int 0, .null, .null, .null, .null, .null, .null, .null, .null, .null, .null, .null, .null, .null, .int 0, .null, .null, .null, .null, .null, .null, .int 0, .null, .null, .null, .null, .null, .null, .null] j := by decide +kernel
set_option maxHeartbeats 4000000 in
set_option maxRecDepth 100000 in
theorem c_MS_init (l : Launch) (D : va_G) (tA : Nat → ClassId) (h0 sz : Nat) : zMv l ({ cls := "ChanceArenaModel$Solver", name := "<init>", desc := "()V" } : Jvm.MethodName) (zW (Jvm.Cond.code ({ cls := "ChanceArenaModel$Solver", name := "<init>", desc := "()V" } : Jvm.MethodName) prog_19_method_1_code (3 : Nat) (Option.none : Option Jvm.ClassFile.FieldType))) { frames := 4, cells := 21067, slots := 543437, locals := 81 } [.ref h0] D tA [(h0, .inr (16, [.null, .int 0, .int 0, .int 0, .null, .null, .null, .null, .null, .null, .null, .null, .null, .null, .null, .null, .null, .int 0, .null, .null, .null, .null, .null, .null, .int 0, .null, .null, .null, .null, .null, .null, .null]))] sz (fun _ : S_MS => True) (w_MS tA h0) 21067 543437 := by
  refine zOpen (fun A => va_Qv _ (zPost D A (w_MS tA h0)) A) (lv := [(0, .ref h0)]) (by decide) rfl (Nat.le_of_ble_eq_true rfl) rfl ?_
  intro p e s m below meth c A ls hx hb hr hml hh hg hown hlocks hnm hK hA hP hD0 hAw hS hl
  have hD := zD hD0 hAw
  refine lv_aload_n hx hb d_MS_init_0 rfl (lv_at hl 0 rfl) ?_
  refine W.objInit hx hb hown (hg _ k9_150) (hg _ k1_46) (hg _ k1_47) rfl (by rw [hml]; exact hl.1) rfl d_MS_init_1 (Nat.le_of_ble_eq_true rfl) (Nat.le_of_ble_eq_true rfl) ?_
  refine lv_aload_n hx hb d_MS_init_4 rfl (lv_at hl 0 rfl) ?_
  refine va_new (ci := 17) (fs := [.null, .null, .null, .null, .null, .null, .null]) (C := R_MU) (T := T_MU) (N := 7) hx hb hg i_MU t_MU o_MU hown (hg _ k9_151) (hg _ k9_152) (hg _ k1_18) hK hP hD hS hA rfl f_MU (Nat.le_of_ble_eq_true rfl) (Nat.le_of_ble_eq_true rfl) d_MS_init_5 (fun q5 H1 hP1 hD1 hS1 => ?_)
  clear hP hD hS
  refine lv_dup hx hb d_MS_init_8 rfl ?_
  refine zInit hP1 hD1 hS1 hA (va_runIN (As := []) (rest := [.ref q5, .ref h0]) ⟨hx, hb, hml, hown, hg⟩ (c_MU_init l D tA q5 H1.size) ⟨va_cnB 0 hg (zGood k9_155 rfl) rfl rfl rfl (va_Nw.of rfl (hg _ k9_153)) (hg _ k1_18) (by decide +kernel) ⟨(Nat.le_of_ble_eq_true rfl), (Nat.le_of_ble_eq_true rfl)⟩, rfl, hg _ k9_154⟩ (zPreI hh hK hP1 hD1) rfl rfl hl.1 rfl (lv_room (Nat.le_of_ble_eq_true rfl)) d_MS_init_9 ⟨(Nat.le_of_ble_eq_true rfl), (Nat.le_of_ble_eq_true rfl)⟩) (fun u5 H2 locs2 _ hP2 hD2 hS2 => ?_)
  clear hP1 hD1 hS1
  refine zCons (fun T9 e9 hP3 hD3 => ?_) hP2 hD2
  clear hP2 hD2
  refine va_putF (D := D) (ci := 16) (v := .ref q5) (ty := .object "ChanceArenaModel$Sums") (C := R_MS) (T := T_MS) (N := 32) hx hb hg i_MS t_MS o_MS n_MS hown hK hP3 hD3 hS2 0 rfl rfl 0 (by decide) (hg _ k9_224) (fun _ h9 => h9) rfl hnm rfl (by decide +kernel) rfl rfl (Nat.le_of_ble_eq_true rfl) d_MS_init_12 (fun H4 locs4 hP4 hD4 hS4 => ?_)
  clear hP3 hD3 hS2
  replace hP4 : va_P D vwCl ((h0, .inr (16, [.ref q5, .int 0, .int 0, .int 0, .null, .null, .null, .null, .null, .null, .null, .null, .null, .null, .null, .null, .null, .int 0, .null, .null, .null, .null, .null, .null, .int 0, .null, .null, .null, .null, .null, .null, .null])) :: T9) _ := hP4
  replace hD4 : va_D A ((h0, .inr (16, [.ref q5, .int 0, .int 0, .int 0, .null, .null, .null, .null, .null, .null, .null, .null, .null, .null, .null, .null, .null, .int 0, .null, .null, .null, .null, .null, .null, .int 0, .null, .null, .null, .null, .null, .null, .null])) :: T9) := hD4
  refine lv_aload_n hx hb d_MS_init_15 rfl (lv_at hl 0 rfl) ?_
  refine lv_sipush (v := 513) hx hb d_MS_init_16 (by decide) ?_
  refine zNewa (atype := .int) (ty := .int) (a0 := (513, .inl (fun _ => 0))) (N' := 513) hx hb rfl (hg _ k1_82) hK hP4 hD4 hS4 hA 0 rfl (fun _ h => by cases h) (fun _ => rfl) (by decide) (by decide) (by decide) (Nat.le_of_ble_eq_true rfl) (Nat.le_of_ble_eq_true rfl) d_MS_init_19 (fun q19 H5 hP5 hD5 hS5 => ?_)
  clear hP4 hD4 hS4
  refine zCons (fun T19 e19 hP6 hD6 => ?_) hP5 hD5
  clear hP5 hD5
  refine va_putF (D := D) (ci := 16) (v := .ref q19) (ty := .array .int) (C := R_MS) (T := T_MS) (N := 32) hx hb hg i_MS t_MS o_MS n_MS hown hK hP6 hD6 hS5 0 rfl rfl 4 (by decide) (hg _ k9_228) (fun _ h9 => h9) rfl hnm rfl (by decide +kernel) rfl rfl (Nat.le_of_ble_eq_true rfl) d_MS_init_21 (fun H7 locs7 hP7 hD7 hS7 => ?_)
  clear hP6 hD6 hS5
  replace hP7 : va_P D vwCl ((h0, .inr (16, [.ref q5, .int 0, .int 0, .int 0, .ref q19, .null, .null, .null, .null, .null, .null, .null, .null, .null, .null, .null, .null, .int 0, .null, .null, .null, .null, .null, .null, .int 0, .null, .null, .null, .null, .null, .null, .null])) :: T19) _ := hP7
  replace hD7 : va_D A ((h0, .inr (16, [.ref q5, .int 0, .int 0, .int 0, .ref q19, .null, .null, .null, .null, .null, .null, .null, .null, .null, .null, .null, .null, .int 0, .null, .null, .null, .null, .null, .null, .int 0, .null, .null, .null, .null, .null, .null, .null])) :: T19) := hD7
  refine lv_aload_n hx hb d_MS_init_24 rfl (lv_at hl 0 rfl) ?_
  refine lv_sipush (v := 514) hx hb d_MS_init_25 (by decide) ?_
  refine zNewa (atype := .int) (ty := .int) (a0 := (514, .inl (fun _ => 0))) (N' := 514) hx hb rfl (hg _ k1_82) hK hP7 hD7 hS7 hA 0 rfl (fun _ h => by cases h) (fun _ => rfl) (by decide) (by decide) (by decide) (Nat.le_of_ble_eq_true rfl) (Nat.le_of_ble_eq_true rfl) d_MS_init_28 (fun q28 H8 hP8 hD8 hS8 => ?_)
  clear hP7 hD7 hS7
  refine zCons (fun T28 e28 hP9 hD9 => ?_) hP8 hD8
  clear hP8 hD8
  refine va_putF (D := D) (ci := 16) (v := .ref q28) (ty := .array .int) (C := R_MS) (T := T_MS) (N := 32) hx hb hg i_MS t_MS o_MS n_MS hown hK hP9 hD9 hS8 0 rfl rfl 5 (by decide) (hg _ k9_229) (fun _ h9 => h9) rfl hnm rfl (by decide +kernel) rfl rfl (Nat.le_of_ble_eq_true rfl) d_MS_init_30 (fun H10 locs10 hP10 hD10 hS10 => ?_)
  clear hP9 hD9 hS8
  replace hP10 : va_P D vwCl ((h0, .inr (16, [.ref q5, .int 0, .int 0, .int 0, .ref q19, .ref q28, .null, .null, .null, .null, .null, .null, .null, .null, .null, .null, .null, .int 0, .null, .null, .null, .null, .null, .null, .int 0, .null, .null, .null, .null, .null, .null, .null])) :: T28) _ := hP10
  replace hD10 : va_D A ((h0, .inr (16, [.ref q5, .int 0, .int 0, .int 0, .ref q19, .ref q28, .null, .null, .null, .null, .null, .null, .null, .null, .null, .null, .null, .int 0, .null, .null, .null, .null, .null, .null, .int 0, .null, .null, .null, .null, .null, .null, .null])) :: T28) := hD10
  refine lv_aload_n hx hb d_MS_init_33 rfl (lv_at hl 0 rfl) ?_
  refine lv_sipush (v := 4200) hx hb d_MS_init_34 (by decide) ?_
  refine zNewa (atype := .int) (ty := .int) (a0 := (4200, .inl (fun _ => 0))) (N' := 4200) hx hb rfl (hg _ k1_82) hK hP10 hD10 hS10 hA 0 rfl (fun _ h => by cases h) (fun _ => rfl) (by decide) (by decide) (by decide) (Nat.le_of_ble_eq_true rfl) (Nat.le_of_ble_eq_true rfl) d_MS_init_37 (fun q37 H11 hP11 hD11 hS11 => ?_)
  clear hP10 hD10 hS10
  refine zCons (fun T37 e37 hP12 hD12 => ?_) hP11 hD11
  clear hP11 hD11
  refine va_putF (D := D) (ci := 16) (v := .ref q37) (ty := .array .int) (C := R_MS) (T := T_MS) (N := 32) hx hb hg i_MS t_MS o_MS n_MS hown hK hP12 hD12 hS11 0 rfl rfl 6 (by decide) (hg _ k9_230) (fun _ h9 => h9) rfl hnm rfl (by decide +kernel) rfl rfl (Nat.le_of_ble_eq_true rfl) d_MS_init_39 (fun H13 locs13 hP13 hD13 hS13 => ?_)
  clear hP12 hD12 hS11
  replace hP13 : va_P D vwCl ((h0, .inr (16, [.ref q5, .int 0, .int 0, .int 0, .ref q19, .ref q28, .ref q37, .null, .null, .null, .null, .null, .null, .null, .null, .null, .null, .int 0, .null, .null, .null, .null, .null, .null, .int 0, .null, .null, .null, .null, .null, .null, .null])) :: T37) _ := hP13
  replace hD13 : va_D A ((h0, .inr (16, [.ref q5, .int 0, .int 0, .int 0, .ref q19, .ref q28, .ref q37, .null, .null, .null, .null, .null, .null, .null, .null, .null, .null, .int 0, .null, .null, .null, .null, .null, .null, .int 0, .null, .null, .null, .null, .null, .null, .null])) :: T37) := hD13
  refine lv_aload_n hx hb d_MS_init_42 rfl (lv_at hl 0 rfl) ?_
  refine lv_sipush (v := 4201) hx hb d_MS_init_43 (by decide) ?_
  refine zNewa (atype := .int) (ty := .int) (a0 := (4201, .inl (fun _ => 0))) (N' := 4201) hx hb rfl (hg _ k1_82) hK hP13 hD13 hS13 hA 0 rfl (fun _ h => by cases h) (fun _ => rfl) (by decide) (by decide) (by decide) (Nat.le_of_ble_eq_true rfl) (Nat.le_of_ble_eq_true rfl) d_MS_init_46 (fun q46 H14 hP14 hD14 hS14 => ?_)
  clear hP13 hD13 hS13
  refine zCons (fun T46 e46 hP15 hD15 => ?_) hP14 hD14
  clear hP14 hD14
  refine va_putF (D := D) (ci := 16) (v := .ref q46) (ty := .array .int) (C := R_MS) (T := T_MS) (N := 32) hx hb hg i_MS t_MS o_MS n_MS hown hK hP15 hD15 hS14 0 rfl rfl 7 (by decide) (hg _ k9_231) (fun _ h9 => h9) rfl hnm rfl (by decide +kernel) rfl rfl (Nat.le_of_ble_eq_true rfl) d_MS_init_48 (fun H16 locs16 hP16 hD16 hS16 => ?_)
  clear hP15 hD15 hS14
  replace hP16 : va_P D vwCl ((h0, .inr (16, [.ref q5, .int 0, .int 0, .int 0, .ref q19, .ref q28, .ref q37, .ref q46, .null, .null, .null, .null, .null, .null, .null, .null, .null, .int 0, .null, .null, .null, .null, .null, .null, .int 0, .null, .null, .null, .null, .null, .null, .null])) :: T46) _ := hP16
  replace hD16 : va_D A ((h0, .inr (16, [.ref q5, .int 0, .int 0, .int 0, .ref q19, .ref q28, .ref q37, .ref q46, .null, .null, .null, .null, .null, .null, .null, .null, .null, .int 0, .null, .null, .null, .null, .null, .null, .int 0, .null, .null, .null, .null, .null, .null, .null])) :: T46) := hD16
  refine lv_aload_n hx hb d_MS_init_51 rfl (lv_at hl 0 rfl) ?_
  refine lv_sipush (v := 4096) hx hb d_MS_init_52 (by decide) ?_
  refine zNewa (atype := .int) (ty := .int) (a0 := (4096, .inl (fun _ => 0))) (N' := 4096) hx hb rfl (hg _ k1_82) hK hP16 hD16 hS16 hA 0 rfl (fun _ h => by cases h) (fun _ => rfl) (by decide) (by decide) (by decide) (Nat.le_of_ble_eq_true rfl) (Nat.le_of_ble_eq_true rfl) d_MS_init_55 (fun q55 H17 hP17 hD17 hS17 => ?_)
  clear hP16 hD16 hS16
  refine zCons (fun T55 e55 hP18 hD18 => ?_) hP17 hD17
  clear hP17 hD17
  refine va_putF (D := D) (ci := 16) (v := .ref q55) (ty := .array .int) (C := R_MS) (T := T_MS) (N := 32) hx hb hg i_MS t_MS o_MS n_MS hown hK hP18 hD18 hS17 0 rfl rfl 8 (by decide) (hg _ k9_232) (fun _ h9 => h9) rfl hnm rfl (by decide +kernel) rfl rfl (Nat.le_of_ble_eq_true rfl) d_MS_init_57 (fun H19 locs19 hP19 hD19 hS19 => ?_)
  clear hP18 hD18 hS17
  replace hP19 : va_P D vwCl ((h0, .inr (16, [.ref q5, .int 0, .int 0, .int 0, .ref q19, .ref q28, .ref q37, .ref q46, .ref q55, .null, .null, .null, .null, .null, .null, .null, .null, .int 0, .null, .null, .null, .null, .null, .null, .int 0, .null, .null, .null, .null, .null, .null, .null])) :: T55) _ := hP19
  replace hD19 : va_D A ((h0, .inr (16, [.ref q5, .int 0, .int 0, .int 0, .ref q19, .ref q28, .ref q37, .ref q46, .ref q55, .null, .null, .null, .null, .null, .null, .null, .null, .int 0, .null, .null, .null, .null, .null, .null, .int 0, .null, .null, .null, .null, .null, .null, .null])) :: T55) := hD19
  refine lv_aload_n hx hb d_MS_init_60 rfl (lv_at hl 0 rfl) ?_
  refine lv_sipush (v := 4096) hx hb d_MS_init_61 (by decide) ?_
  refine zNewa (atype := .int) (ty := .int) (a0 := (4096, .inl (fun _ => 0))) (N' := 4096) hx hb rfl (hg _ k1_82) hK hP19 hD19 hS19 hA 0 rfl (fun _ h => by cases h) (fun _ => rfl) (by decide) (by decide) (by decide) (Nat.le_of_ble_eq_true rfl) (Nat.le_of_ble_eq_true rfl) d_MS_init_64 (fun q64 H20 hP20 hD20 hS20 => ?_)
  clear hP19 hD19 hS19
  refine zCons (fun T64 e64 hP21 hD21 => ?_) hP20 hD20
  clear hP20 hD20
  refine va_putF (D := D) (ci := 16) (v := .ref q64) (ty := .array .int) (C := R_MS) (T := T_MS) (N := 32) hx hb hg i_MS t_MS o_MS n_MS hown hK hP21 hD21 hS20 0 rfl rfl 9 (by decide) (hg _ k9_233) (fun _ h9 => h9) rfl hnm rfl (by decide +kernel) rfl rfl (Nat.le_of_ble_eq_true rfl) d_MS_init_66 (fun H22 locs22 hP22 hD22 hS22 => ?_)
  clear hP21 hD21 hS20
  replace hP22 : va_P D vwCl ((h0, .inr (16, [.ref q5, .int 0, .int 0, .int 0, .ref q19, .ref q28, .ref q37, .ref q46, .ref q55, .ref q64, .null, .null, .null, .null, .null, .null, .null, .int 0, .null, .null, .null, .null, .null, .null, .int 0, .null, .null, .null, .null, .null, .null, .null])) :: T64) _ := hP22
  replace hD22 : va_D A ((h0, .inr (16, [.ref q5, .int 0, .int 0, .int 0, .ref q19, .ref q28, .ref q37, .ref q46, .ref q55, .ref q64, .null, .null, .null, .null, .null, .null, .null, .int 0, .null, .null, .null, .null, .null, .null, .int 0, .null, .null, .null, .null, .null, .null, .null])) :: T64) := hD22
  refine lv_aload_n hx hb d_MS_init_69 rfl (lv_at hl 0 rfl) ?_
  refine lv_sipush (v := 4096) hx hb d_MS_init_70 (by decide) ?_
  refine zNewa (atype := .int) (ty := .int) (a0 := (4096, .inl (fun _ => 0))) (N' := 4096) hx hb rfl (hg _ k1_82) hK hP22 hD22 hS22 hA 0 rfl (fun _ h => by cases h) (fun _ => rfl) (by decide) (by decide) (by decide) (Nat.le_of_ble_eq_true rfl) (Nat.le_of_ble_eq_true rfl) d_MS_init_73 (fun q73 H23 hP23 hD23 hS23 => ?_)
  clear hP22 hD22 hS22
  refine zCons (fun T73 e73 hP24 hD24 => ?_) hP23 hD23
  clear hP23 hD23
  refine va_putF (D := D) (ci := 16) (v := .ref q73) (ty := .array .int) (C := R_MS) (T := T_MS) (N := 32) hx hb hg i_MS t_MS o_MS n_MS hown hK hP24 hD24 hS23 0 rfl rfl 10 (by decide) (hg _ k9_234) (fun _ h9 => h9) rfl hnm rfl (by decide +kernel) rfl rfl (Nat.le_of_ble_eq_true rfl) d_MS_init_75 (fun H25 locs25 hP25 hD25 hS25 => ?_)
  clear hP24 hD24 hS23
  replace hP25 : va_P D vwCl ((h0, .inr (16, [.ref q5, .int 0, .int 0, .int 0, .ref q19, .ref q28, .ref q37, .ref q46, .ref q55, .ref q64, .ref q73, .null, .null, .null, .null, .null, .null, .int 0, .null, .null, .null, .null, .null, .null, .int 0, .null, .null, .null, .null, .null, .null, .null])) :: T73) _ := hP25
  replace hD25 : va_D A ((h0, .inr (16, [.ref q5, .int 0, .int 0, .int 0, .ref q19, .ref q28, .ref q37, .ref q46, .ref q55, .ref q64, .ref q73, .null, .null, .null, .null, .null, .null, .int 0, .null, .null, .null, .null, .null, .null, .int 0, .null, .null, .null, .null, .null, .null, .null])) :: T73) := hD25
  refine lv_aload_n hx hb d_MS_init_78 rfl (lv_at hl 0 rfl) ?_
  refine lv_sipush (v := 1536) hx hb d_MS_init_79 (by decide) ?_
  refine zNewq (N' := 1536) hx hb hown (hg _ k9_221) (hg _ k9_222) hK hP25 hD25 hS25 hA 6 rfl (by decide) (by decide) (by decide) (Nat.le_of_ble_eq_true rfl) (Nat.le_of_ble_eq_true rfl) d_MS_init_82 (fun q82 H26 hP26 hD26 hS26 => ?_)
  clear hP25 hD25 hS25
  refine zPull (fun hP27 hD27 => ?_) hP26 hD26
  clear hP26 hD26
  refine va_putF (D := D) (ci := 16) (v := .ref q82) (ty := .array (.object "ChanceArenaModel$Fraction")) (C := R_MS) (T := T_MS) (N := 32) hx hb hg i_MS t_MS o_MS n_MS hown hK hP27 hD27 hS26 0 rfl rfl 11 (by decide) (hg _ k9_235) (fun _ h9 => h9) rfl hnm rfl (by decide +kernel) rfl rfl (Nat.le_of_ble_eq_true rfl) d_MS_init_85 (fun H28 locs28 hP28 hD28 hS28 => ?_)
  clear hP27 hD27 hS26
  replace hP28 : va_P D vwCl ((h0, .inr (16, [.ref q5, .int 0, .int 0, .int 0, .ref q19, .ref q28, .ref q37, .ref q46, .ref q55, .ref q64, .ref q73, .ref q82, .null, .null, .null, .null, .null, .int 0, .null, .null, .null, .null, .null, .null, .int 0, .null, .null, .null, .null, .null, .null, .null])) :: (q82, .inl (tA 6, 1536, .inr (.inr (.inr (.inr (fun _ => none)))))) :: T73) _ := hP28
  replace hD28 : va_D A ((h0, .inr (16, [.ref q5, .int 0, .int 0, .int 0, .ref q19, .ref q28, .ref q37, .ref q46, .ref q55, .ref q64, .ref q73, .ref q82, .null, .null, .null, .null, .null, .int 0, .null, .null, .null, .null, .null, .null, .int 0, .null, .null, .null, .null, .null, .null, .null])) :: (q82, .inl (tA 6, 1536, .inr (.inr (.inr (.inr (fun _ => none)))))) :: T73) := hD28
  refine lv_aload_n hx hb d_MS_init_88 rfl (lv_at hl 0 rfl) ?_
  refine lv_iconst (v := 3) hx hb d_MS_init_89 (by decide) ?_
  refine zNewa (atype := .boolean) (ty := .boolean) (a0 := (3, .inl (fun _ => 0))) (N' := 3) hx hb rfl (hg _ k1_162) hK hP28 hD28 hS28 hA 1 rfl (fun _ h => by cases h) (fun _ => rfl) (by decide) (by decide) (by decide) (Nat.le_of_ble_eq_true rfl) (Nat.le_of_ble_eq_true rfl) d_MS_init_90 (fun q90 H29 hP29 hD29 hS29 => ?_)
  clear hP28 hD28 hS28
  refine zCons1 (fun T90 e90 hP30 hD30 => ?_) hP29 hD29
  clear hP29 hD29
  refine va_putF (D := D) (ci := 16) (v := .ref q90) (ty := .array .boolean) (C := R_MS) (T := T_MS) (N := 32) hx hb hg i_MS t_MS o_MS n_MS hown hK hP30 hD30 hS29 0 rfl rfl 12 (by decide) (hg _ k9_236) (fun _ h9 => h9) rfl hnm rfl (by decide +kernel) rfl rfl (Nat.le_of_ble_eq_true rfl) d_MS_init_92 (fun H31 locs31 hP31 hD31 hS31 => ?_)
  clear hP30 hD30 hS29
  replace hP31 : va_P D vwCl ((h0, .inr (16, [.ref q5, .int 0, .int 0, .int 0, .ref q19, .ref q28, .ref q37, .ref q46, .ref q55, .ref q64, .ref q73, .ref q82, .ref q90, .null, .null, .null, .null, .int 0, .null, .null, .null, .null, .null, .null, .int 0, .null, .null, .null, .null, .null, .null, .null])) :: (q82, .inl (tA 6, 1536, .inr (.inr (.inr (.inr (fun _ => none)))))) :: T90) _ := hP31
  replace hD31 : va_D A ((h0, .inr (16, [.ref q5, .int 0, .int 0, .int 0, .ref q19, .ref q28, .ref q37, .ref q46, .ref q55, .ref q64, .ref q73, .ref q82, .ref q90, .null, .null, .null, .null, .int 0, .null, .null, .null, .null, .null, .null, .int 0, .null, .null, .null, .null, .null, .null, .null])) :: (q82, .inl (tA 6, 1536, .inr (.inr (.inr (.inr (fun _ => none)))))) :: T90) := hD31
  refine lv_aload_n hx hb d_MS_init_95 rfl (lv_at hl 0 rfl) ?_
  refine lv_sipush (v := 512) hx hb d_MS_init_96 (by decide) ?_
  refine zNewq (N' := 512) hx hb hown (hg _ k9_221) (hg _ k9_222) hK hP31 hD31 hS31 hA 6 rfl (by decide) (by decide) (by decide) (Nat.le_of_ble_eq_true rfl) (Nat.le_of_ble_eq_true rfl) d_MS_init_99 (fun q99 H32 hP32 hD32 hS32 => ?_)
  clear hP31 hD31 hS31
  refine zPull (fun hP33 hD33 => ?_) hP32 hD32
  clear hP32 hD32
  refine va_putF (D := D) (ci := 16) (v := .ref q99) (ty := .array (.object "ChanceArenaModel$Fraction")) (C := R_MS) (T := T_MS) (N := 32) hx hb hg i_MS t_MS o_MS n_MS hown hK hP33 hD33 hS32 0 rfl rfl 13 (by decide) (hg _ k9_237) (fun _ h9 => h9) rfl hnm rfl (by decide +kernel) rfl rfl (Nat.le_of_ble_eq_true rfl) d_MS_init_102 (fun H34 locs34 hP34 hD34 hS34 => ?_)
  clear hP33 hD33 hS32
  replace hP34 : va_P D vwCl ((h0, .inr (16, [.ref q5, .int 0, .int 0, .int 0, .ref q19, .ref q28, .ref q37, .ref q46, .ref q55, .ref q64, .ref q73, .ref q82, .ref q90, .ref q99, .null, .null, .null, .int 0, .null, .null, .null, .null, .null, .null, .int 0, .null, .null, .null, .null, .null, .null, .null])) :: (q99, .inl (tA 6, 512, .inr (.inr (.inr (.inr (fun _ => none)))))) :: (q82, .inl (tA 6, 1536, .inr (.inr (.inr (.inr (fun _ => none)))))) :: T90) _ := hP34
  replace hD34 : va_D A ((h0, .inr (16, [.ref q5, .int 0, .int 0, .int 0, .ref q19, .ref q28, .ref q37, .ref q46, .ref q55, .ref q64, .ref q73, .ref q82, .ref q90, .ref q99, .null, .null, .null, .int 0, .null, .null, .null, .null, .null, .null, .int 0, .null, .null, .null, .null, .null, .null, .null])) :: (q99, .inl (tA 6, 512, .inr (.inr (.inr (.inr (fun _ => none)))))) :: (q82, .inl (tA 6, 1536, .inr (.inr (.inr (.inr (fun _ => none)))))) :: T90) := hD34
  refine lv_aload_n hx hb d_MS_init_105 rfl (lv_at hl 0 rfl) ?_
  refine lv_sipush (v := 512) hx hb d_MS_init_106 (by decide) ?_
  refine zNewa (atype := .int) (ty := .int) (a0 := (512, .inl (fun _ => 0))) (N' := 512) hx hb rfl (hg _ k1_82) hK hP34 hD34 hS34 hA 0 rfl (fun _ h => by cases h) (fun _ => rfl) (by decide) (by decide) (by decide) (Nat.le_of_ble_eq_true rfl) (Nat.le_of_ble_eq_true rfl) d_MS_init_109 (fun q109 H35 hP35 hD35 hS35 => ?_)
  clear hP34 hD34 hS34
  refine zCons2 (fun T109 e109 hP36 hD36 => ?_) hP35 hD35
  clear hP35 hD35
  refine va_putF (D := D) (ci := 16) (v := .ref q109) (ty := .array .int) (C := R_MS) (T := T_MS) (N := 32) hx hb hg i_MS t_MS o_MS n_MS hown hK hP36 hD36 hS35 0 rfl rfl 14 (by decide) (hg _ k9_238) (fun _ h9 => h9) rfl hnm rfl (by decide +kernel) rfl rfl (Nat.le_of_ble_eq_true rfl) d_MS_init_111 (fun H37 locs37 hP37 hD37 hS37 => ?_)
  clear hP36 hD36 hS35
  replace hP37 : va_P D vwCl ((h0, .inr (16, [.ref q5, .int 0, .int 0, .int 0, .ref q19, .ref q28, .ref q37, .ref q46, .ref q55, .ref q64, .ref q73, .ref q82, .ref q90, .ref q99, .ref q109, .null, .null, .int 0, .null, .null, .null, .null, .null, .null, .int 0, .null, .null, .null, .null, .null, .null, .null])) :: (q99, .inl (tA 6, 512, .inr (.inr (.inr (.inr (fun _ => none)))))) :: (q82, .inl (tA 6, 1536, .inr (.inr (.inr (.inr (fun _ => none)))))) :: T109) _ := hP37
  replace hD37 : va_D A ((h0, .inr (16, [.ref q5, .int 0, .int 0, .int 0, .ref q19, .ref q28, .ref q37, .ref q46, .ref q55, .ref q64, .ref q73, .ref q82, .ref q90, .ref q99, .ref q109, .null, .null, .int 0, .null, .null, .null, .null, .null, .null, .int 0, .null, .null, .null, .null, .null, .null, .null])) :: (q99, .inl (tA 6, 512, .inr (.inr (.inr (.inr (fun _ => none)))))) :: (q82, .inl (tA 6, 1536, .inr (.inr (.inr (.inr (fun _ => none)))))) :: T109) := hD37
  refine lv_aload_n hx hb d_MS_init_114 rfl (lv_at hl 0 rfl) ?_
  refine lv_sipush (v := 512) hx hb d_MS_init_115 (by decide) ?_
  refine zNewa (atype := .int) (ty := .int) (a0 := (512, .inl (fun _ => 0))) (N' := 512) hx hb rfl (hg _ k1_82) hK hP37 hD37 hS37 hA 0 rfl (fun _ h => by cases h) (fun _ => rfl) (by decide) (by decide) (by decide) (Nat.le_of_ble_eq_true rfl) (Nat.le_of_ble_eq_true rfl) d_MS_init_118 (fun q118 H38 hP38 hD38 hS38 => ?_)
  clear hP37 hD37 hS37
  refine zCons2 (fun T118 e118 hP39 hD39 => ?_) hP38 hD38
  clear hP38 hD38
  refine va_putF (D := D) (ci := 16) (v := .ref q118) (ty := .array .int) (C := R_MS) (T := T_MS) (N := 32) hx hb hg i_MS t_MS o_MS n_MS hown hK hP39 hD39 hS38 0 rfl rfl 15 (by decide) (hg _ k9_239) (fun _ h9 => h9) rfl hnm rfl (by decide +kernel) rfl rfl (Nat.le_of_ble_eq_true rfl) d_MS_init_120 (fun H40 locs40 hP40 hD40 hS40 => ?_)
  clear hP39 hD39 hS38
  replace hP40 : va_P D vwCl ((h0, .inr (16, [.ref q5, .int 0, .int 0, .int 0, .ref q19, .ref q28, .ref q37, .ref q46, .ref q55, .ref q64, .ref q73, .ref q82, .ref q90, .ref q99, .ref q109, .ref q118, .null, .int 0, .null, .null, .null, .null, .null, .null, .int 0, .null, .null, .null, .null, .null, .null, .null])) :: (q99, .inl (tA 6, 512, .inr (.inr (.inr (.inr (fun _ => none)))))) :: (q82, .inl (tA 6, 1536, .inr (.inr (.inr (.inr (fun _ => none)))))) :: T118) _ := hP40
  replace hD40 : va_D A ((h0, .inr (16, [.ref q5, .int 0, .int 0, .int 0, .ref q19, .ref q28, .ref q37, .ref q46, .ref q55, .ref q64, .ref q73, .ref q82, .ref q90, .ref q99, .ref q109, .ref q118, .null, .int 0, .null, .null, .null, .null, .null, .null, .int 0, .null, .null, .null, .null, .null, .null, .null])) :: (q99, .inl (tA 6, 512, .inr (.inr (.inr (.inr (fun _ => none)))))) :: (q82, .inl (tA 6, 1536, .inr (.inr (.inr (.inr (fun _ => none)))))) :: T118) := hD40
  refine lv_aload_n hx hb d_MS_init_123 rfl (lv_at hl 0 rfl) ?_
  refine lv_sipush (v := 512) hx hb d_MS_init_124 (by decide) ?_
  refine zNewa (atype := .int) (ty := .int) (a0 := (512, .inl (fun _ => 0))) (N' := 512) hx hb rfl (hg _ k1_82) hK hP40 hD40 hS40 hA 0 rfl (fun _ h => by cases h) (fun _ => rfl) (by decide) (by decide) (by decide) (Nat.le_of_ble_eq_true rfl) (Nat.le_of_ble_eq_true rfl) d_MS_init_127 (fun q127 H41 hP41 hD41 hS41 => ?_)
  clear hP40 hD40 hS40
  refine zCons2 (fun T127 e127 hP42 hD42 => ?_) hP41 hD41
  clear hP41 hD41
  refine va_putF (D := D) (ci := 16) (v := .ref q127) (ty := .array .int) (C := R_MS) (T := T_MS) (N := 32) hx hb hg i_MS t_MS o_MS n_MS hown hK hP42 hD42 hS41 0 rfl rfl 16 (by decide) (hg _ k10_0) (fun _ h9 => h9) rfl hnm rfl (by decide +kernel) rfl rfl (Nat.le_of_ble_eq_true rfl) d_MS_init_129 (fun H43 locs43 hP43 hD43 hS43 => ?_)
  clear hP42 hD42 hS41
  replace hP43 : va_P D vwCl ((h0, .inr (16, [.ref q5, .int 0, .int 0, .int 0, .ref q19, .ref q28, .ref q37, .ref q46, .ref q55, .ref q64, .ref q73, .ref q82, .ref q90, .ref q99, .ref q109, .ref q118, .ref q127, .int 0, .null, .null, .null, .null, .null, .null, .int 0, .null, .null, .null, .null, .null, .null, .null])) :: (q99, .inl (tA 6, 512, .inr (.inr (.inr (.inr (fun _ => none)))))) :: (q82, .inl (tA 6, 1536, .inr (.inr (.inr (.inr (fun _ => none)))))) :: T127) _ := hP43
  replace hD43 : va_D A ((h0, .inr (16, [.ref q5, .int 0, .int 0, .int 0, .ref q19, .ref q28, .ref q37, .ref q46, .ref q55, .ref q64, .ref q73, .ref q82, .ref q90, .ref q99, .ref q109, .ref q118, .ref q127, .int 0, .null, .null, .null, .null, .null, .null, .int 0, .null, .null, .null, .null, .null, .null, .null])) :: (q99, .inl (tA 6, 512, .inr (.inr (.inr (.inr (fun _ => none)))))) :: (q82, .inl (tA 6, 1536, .inr (.inr (.inr (.inr (fun _ => none)))))) :: T127) := hD43
  refine lv_aload_n hx hb d_MS_init_132 rfl (lv_at hl 0 rfl) ?_
  refine lv_sipush (v := 512) hx hb d_MS_init_133 (by decide) ?_
  refine zNewa (atype := .int) (ty := .int) (a0 := (512, .inl (fun _ => 0))) (N' := 512) hx hb rfl (hg _ k1_82) hK hP43 hD43 hS43 hA 0 rfl (fun _ h => by cases h) (fun _ => rfl) (by decide) (by decide) (by decide) (Nat.le_of_ble_eq_true rfl) (Nat.le_of_ble_eq_true rfl) d_MS_init_136 (fun q136 H44 hP44 hD44 hS44 => ?_)
  clear hP43 hD43 hS43
  refine zCons2 (fun T136 e136 hP45 hD45 => ?_) hP44 hD44
  clear hP44 hD44
  refine va_putF (D := D) (ci := 16) (v := .ref q136) (ty := .array .int) (C := R_MS) (T := T_MS) (N := 32) hx hb hg i_MS t_MS o_MS n_MS hown hK hP45 hD45 hS44 0 rfl rfl 18 (by decide) (hg _ k10_2) (fun _ h9 => h9) rfl hnm rfl (by decide +kernel) rfl rfl (Nat.le_of_ble_eq_true rfl) d_MS_init_138 (fun H46 locs46 hP46 hD46 hS46 => ?_)
  clear hP45 hD45 hS44
  replace hP46 : va_P D vwCl ((h0, .inr (16, [.ref q5, .int 0, .int 0, .int 0, .ref q19, .ref q28, .ref q37, .ref q46, .ref q55, .ref q64, .ref q73, .ref q82, .ref q90, .ref q99, .ref q109, .ref q118, .ref q127, .int 0, .ref q136, .null, .null, .null, .null, .null, .int 0, .null, .null, .null, .null, .null, .null, .null])) :: (q99, .inl (tA 6, 512, .inr (.inr (.inr (.inr (fun _ => none)))))) :: (q82, .inl (tA 6, 1536, .inr (.inr (.inr (.inr (fun _ => none)))))) :: T136) _ := hP46
  replace hD46 : va_D A ((h0, .inr (16, [.ref q5, .int 0, .int 0, .int 0, .ref q19, .ref q28, .ref q37, .ref q46, .ref q55, .ref q64, .ref q73, .ref q82, .ref q90, .ref q99, .ref q109, .ref q118, .ref q127, .int 0, .ref q136, .null, .null, .null, .null, .null, .int 0, .null, .null, .null, .null, .null, .null, .null])) :: (q99, .inl (tA 6, 512, .inr (.inr (.inr (.inr (fun _ => none)))))) :: (q82, .inl (tA 6, 1536, .inr (.inr (.inr (.inr (fun _ => none)))))) :: T136) := hD46
  refine lv_aload_n hx hb d_MS_init_141 rfl (lv_at hl 0 rfl) ?_
  refine lv_sipush (v := 512) hx hb d_MS_init_142 (by decide) ?_
  refine zNewa (atype := .boolean) (ty := .boolean) (a0 := (512, .inl (fun _ => 0))) (N' := 512) hx hb rfl (hg _ k1_162) hK hP46 hD46 hS46 hA 1 rfl (fun _ h => by cases h) (fun _ => rfl) (by decide) (by decide) (by decide) (Nat.le_of_ble_eq_true rfl) (Nat.le_of_ble_eq_true rfl) d_MS_init_145 (fun q145 H47 hP47 hD47 hS47 => ?_)
  clear hP46 hD46 hS46
  refine zCons2 (fun T145 e145 hP48 hD48 => ?_) hP47 hD47
  clear hP47 hD47
  refine va_putF (D := D) (ci := 16) (v := .ref q145) (ty := .array .boolean) (C := R_MS) (T := T_MS) (N := 32) hx hb hg i_MS t_MS o_MS n_MS hown hK hP48 hD48 hS47 0 rfl rfl 19 (by decide) (hg _ k10_3) (fun _ h9 => h9) rfl hnm rfl (by decide +kernel) rfl rfl (Nat.le_of_ble_eq_true rfl) d_MS_init_147 (fun H49 locs49 hP49 hD49 hS49 => ?_)
  clear hP48 hD48 hS47
  replace hP49 : va_P D vwCl ((h0, .inr (16, [.ref q5, .int 0, .int 0, .int 0, .ref q19, .ref q28, .ref q37, .ref q46, .ref q55, .ref q64, .ref q73, .ref q82, .ref q90, .ref q99, .ref q109, .ref q118, .ref q127, .int 0, .ref q136, .ref q145, .null, .null, .null, .null, .int 0, .null, .null, .null, .null, .null, .null, .null])) :: (q99, .inl (tA 6, 512, .inr (.inr (.inr (.inr (fun _ => none)))))) :: (q82, .inl (tA 6, 1536, .inr (.inr (.inr (.inr (fun _ => none)))))) :: T145) _ := hP49
  replace hD49 : va_D A ((h0, .inr (16, [.ref q5, .int 0, .int 0, .int 0, .ref q19, .ref q28, .ref q37, .ref q46, .ref q55, .ref q64, .ref q73, .ref q82, .ref q90, .ref q99, .ref q109, .ref q118, .ref q127, .int 0, .ref q136, .ref q145, .null, .null, .null, .null, .int 0, .null, .null, .null, .null, .null, .null, .null])) :: (q99, .inl (tA 6, 512, .inr (.inr (.inr (.inr (fun _ => none)))))) :: (q82, .inl (tA 6, 1536, .inr (.inr (.inr (.inr (fun _ => none)))))) :: T145) := hD49
  refine lv_aload_n hx hb d_MS_init_150 rfl (lv_at hl 0 rfl) ?_
  refine lv_sipush (v := 512) hx hb d_MS_init_151 (by decide) ?_
  refine zNewa (atype := .boolean) (ty := .boolean) (a0 := (512, .inl (fun _ => 0))) (N' := 512) hx hb rfl (hg _ k1_162) hK hP49 hD49 hS49 hA 1 rfl (fun _ h => by cases h) (fun _ => rfl) (by decide) (by decide) (by decide) (Nat.le_of_ble_eq_true rfl) (Nat.le_of_ble_eq_true rfl) d_MS_init_154 (fun q154 H50 hP50 hD50 hS50 => ?_)
  clear hP49 hD49 hS49
  refine zCons2 (fun T154 e154 hP51 hD51 => ?_) hP50 hD50
  clear hP50 hD50
  refine va_putF (D := D) (ci := 16) (v := .ref q154) (ty := .array .boolean) (C := R_MS) (T := T_MS) (N := 32) hx hb hg i_MS t_MS o_MS n_MS hown hK hP51 hD51 hS50 0 rfl rfl 20 (by decide) (hg _ k10_4) (fun _ h9 => h9) rfl hnm rfl (by decide +kernel) rfl rfl (Nat.le_of_ble_eq_true rfl) d_MS_init_156 (fun H52 locs52 hP52 hD52 hS52 => ?_)
  clear hP51 hD51 hS50
  replace hP52 : va_P D vwCl ((h0, .inr (16, [.ref q5, .int 0, .int 0, .int 0, .ref q19, .ref q28, .ref q37, .ref q46, .ref q55, .ref q64, .ref q73, .ref q82, .ref q90, .ref q99, .ref q109, .ref q118, .ref q127, .int 0, .ref q136, .ref q145, .ref q154, .null, .null, .null, .int 0, .null, .null, .null, .null, .null, .null, .null])) :: (q99, .inl (tA 6, 512, .inr (.inr (.inr (.inr (fun _ => none)))))) :: (q82, .inl (tA 6, 1536, .inr (.inr (.inr (.inr (fun _ => none)))))) :: T154) _ := hP52
  replace hD52 : va_D A ((h0, .inr (16, [.ref q5, .int 0, .int 0, .int 0, .ref q19, .ref q28, .ref q37, .ref q46, .ref q55, .ref q64, .ref q73, .ref q82, .ref q90, .ref q99, .ref q109, .ref q118, .ref q127, .int 0, .ref q136, .ref q145, .ref q154, .null, .null, .null, .int 0, .null, .null, .null, .null, .null, .null, .null])) :: (q99, .inl (tA 6, 512, .inr (.inr (.inr (.inr (fun _ => none)))))) :: (q82, .inl (tA 6, 1536, .inr (.inr (.inr (.inr (fun _ => none)))))) :: T154) := hD52
  refine lv_aload_n hx hb d_MS_init_159 rfl (lv_at hl 0 rfl) ?_
  refine lv_sipush (v := 512) hx hb d_MS_init_160 (by decide) ?_
  refine zNewq (N' := 512) hx hb hown (hg _ k9_221) (hg _ k9_222) hK hP52 hD52 hS52 hA 6 rfl (by decide) (by decide) (by decide) (Nat.le_of_ble_eq_true rfl) (Nat.le_of_ble_eq_true rfl) d_MS_init_163 (fun q163 H53 hP53 hD53 hS53 => ?_)
  clear hP52 hD52 hS52
  refine zPull (fun hP54 hD54 => ?_) hP53 hD53
  clear hP53 hD53
  refine va_putF (D := D) (ci := 16) (v := .ref q163) (ty := .array (.object "ChanceArenaModel$Fraction")) (C := R_MS) (T := T_MS) (N := 32) hx hb hg i_MS t_MS o_MS n_MS hown hK hP54 hD54 hS53 0 rfl rfl 21 (by decide) (hg _ k10_5) (fun _ h9 => h9) rfl hnm rfl (by decide +kernel) rfl rfl (Nat.le_of_ble_eq_true rfl) d_MS_init_166 (fun H55 locs55 hP55 hD55 hS55 => ?_)
  clear hP54 hD54 hS53
  replace hP55 : va_P D vwCl ((h0, .inr (16, [.ref q5, .int 0, .int 0, .int 0, .ref q19, .ref q28, .ref q37, .ref q46, .ref q55, .ref q64, .ref q73, .ref q82, .ref q90, .ref q99, .ref q109, .ref q118, .ref q127, .int 0, .ref q136, .ref q145, .ref q154, .ref q163, .null, .null, .int 0, .null, .null, .null, .null, .null, .null, .null])) :: (q163, .inl (tA 6, 512, .inr (.inr (.inr (.inr (fun _ => none)))))) :: (q99, .inl (tA 6, 512, .inr (.inr (.inr (.inr (fun _ => none)))))) :: (q82, .inl (tA 6, 1536, .inr (.inr (.inr (.inr (fun _ => none)))))) :: T154) _ := hP55
  replace hD55 : va_D A ((h0, .inr (16, [.ref q5, .int 0, .int 0, .int 0, .ref q19, .ref q28, .ref q37, .ref q46, .ref q55, .ref q64, .ref q73, .ref q82, .ref q90, .ref q99, .ref q109, .ref q118, .ref q127, .int 0, .ref q136, .ref q145, .ref q154, .ref q163, .null, .null, .int 0, .null, .null, .null, .null, .null, .null, .null])) :: (q163, .inl (tA 6, 512, .inr (.inr (.inr (.inr (fun _ => none)))))) :: (q99, .inl (tA 6, 512, .inr (.inr (.inr (.inr (fun _ => none)))))) :: (q82, .inl (tA 6, 1536, .inr (.inr (.inr (.inr (fun _ => none)))))) :: T154) := hD55
  refine lv_aload_n hx hb d_MS_init_169 rfl (lv_at hl 0 rfl) ?_
  refine lv_bipush (v := 40) hx hb d_MS_init_170 (by decide) ?_
  refine zNewa (atype := .int) (ty := .int) (a0 := (40, .inl (fun _ => 0))) (N' := 40) hx hb rfl (hg _ k1_82) hK hP55 hD55 hS55 hA 0 rfl (fun _ h => by cases h) (fun _ => rfl) (by decide) (by decide) (by decide) (Nat.le_of_ble_eq_true rfl) (Nat.le_of_ble_eq_true rfl) d_MS_init_172 (fun q172 H56 hP56 hD56 hS56 => ?_)
  clear hP55 hD55 hS55
  refine zCons3 (fun T172 e172 hP57 hD57 => ?_) hP56 hD56
  clear hP56 hD56
  refine va_putF (D := D) (ci := 16) (v := .ref q172) (ty := .array .int) (C := R_MS) (T := T_MS) (N := 32) hx hb hg i_MS t_MS o_MS n_MS hown hK hP57 hD57 hS56 0 rfl rfl 22 (by decide) (hg _ k10_6) (fun _ h9 => h9) rfl hnm rfl (by decide +kernel) rfl rfl (Nat.le_of_ble_eq_true rfl) d_MS_init_174 (fun H58 locs58 hP58 hD58 hS58 => ?_)
  clear hP57 hD57 hS56
  replace hP58 : va_P D vwCl ((h0, .inr (16, [.ref q5, .int 0, .int 0, .int 0, .ref q19, .ref q28, .ref q37, .ref q46, .ref q55, .ref q64, .ref q73, .ref q82, .ref q90, .ref q99, .ref q109, .ref q118, .ref q127, .int 0, .ref q136, .ref q145, .ref q154, .ref q163, .ref q172, .null, .int 0, .null, .null, .null, .null, .null, .null, .null])) :: (q163, .inl (tA 6, 512, .inr (.inr (.inr (.inr (fun _ => none)))))) :: (q99, .inl (tA 6, 512, .inr (.inr (.inr (.inr (fun _ => none)))))) :: (q82, .inl (tA 6, 1536, .inr (.inr (.inr (.inr (fun _ => none)))))) :: T172) _ := hP58
  replace hD58 : va_D A ((h0, .inr (16, [.ref q5, .int 0, .int 0, .int 0, .ref q19, .ref q28, .ref q37, .ref q46, .ref q55, .ref q64, .ref q73, .ref q82, .ref q90, .ref q99, .ref q109, .ref q118, .ref q127, .int 0, .ref q136, .ref q145, .ref q154, .ref q163, .ref q172, .null, .int 0, .null, .null, .null, .null, .null, .null, .null])) :: (q163, .inl (tA 6, 512, .inr (.inr (.inr (.inr (fun _ => none)))))) :: (q99, .inl (tA 6, 512, .inr (.inr (.inr (.inr (fun _ => none)))))) :: (q82, .inl (tA 6, 1536, .inr (.inr (.inr (.inr (fun _ => none)))))) :: T172) := hD58
  refine lv_aload_n hx hb d_MS_init_177 rfl (lv_at hl 0 rfl) ?_
  refine lv_sipush (v := 512) hx hb d_MS_init_178 (by decide) ?_
  refine zNewa (atype := .int) (ty := .int) (a0 := (512, .inl (fun _ => 0))) (N' := 512) hx hb rfl (hg _ k1_82) hK hP58 hD58 hS58 hA 0 rfl (fun _ h => by cases h) (fun _ => rfl) (by decide) (by decide) (by decide) (Nat.le_of_ble_eq_true rfl) (Nat.le_of_ble_eq_true rfl) d_MS_init_181 (fun q181 H59 hP59 hD59 hS59 => ?_)
  clear hP58 hD58 hS58
  refine zCons3 (fun T181 e181 hP60 hD60 => ?_) hP59 hD59
  clear hP59 hD59
  refine va_putF (D := D) (ci := 16) (v := .ref q181) (ty := .array .int) (C := R_MS) (T := T_MS) (N := 32) hx hb hg i_MS t_MS o_MS n_MS hown hK hP60 hD60 hS59 0 rfl rfl 23 (by decide) (hg _ k10_7) (fun _ h9 => h9) rfl hnm rfl (by decide +kernel) rfl rfl (Nat.le_of_ble_eq_true rfl) d_MS_init_183 (fun H61 locs61 hP61 hD61 hS61 => ?_)
  clear hP60 hD60 hS59
  replace hP61 : va_P D vwCl ((h0, .inr (16, [.ref q5, .int 0, .int 0, .int 0, .ref q19, .ref q28, .ref q37, .ref q46, .ref q55, .ref q64, .ref q73, .ref q82, .ref q90, .ref q99, .ref q109, .ref q118, .ref q127, .int 0, .ref q136, .ref q145, .ref q154, .ref q163, .ref q172, .ref q181, .int 0, .null, .null, .null, .null, .null, .null, .null])) :: (q163, .inl (tA 6, 512, .inr (.inr (.inr (.inr (fun _ => none)))))) :: (q99, .inl (tA 6, 512, .inr (.inr (.inr (.inr (fun _ => none)))))) :: (q82, .inl (tA 6, 1536, .inr (.inr (.inr (.inr (fun _ => none)))))) :: T181) _ := hP61
  replace hD61 : va_D A ((h0, .inr (16, [.ref q5, .int 0, .int 0, .int 0, .ref q19, .ref q28, .ref q37, .ref q46, .ref q55, .ref q64, .ref q73, .ref q82, .ref q90, .ref q99, .ref q109, .ref q118, .ref q127, .int 0, .ref q136, .ref q145, .ref q154, .ref q163, .ref q172, .ref q181, .int 0, .null, .null, .null, .null, .null, .null, .null])) :: (q163, .inl (tA 6, 512, .inr (.inr (.inr (.inr (fun _ => none)))))) :: (q99, .inl (tA 6, 512, .inr (.inr (.inr (.inr (fun _ => none)))))) :: (q82, .inl (tA 6, 1536, .inr (.inr (.inr (.inr (fun _ => none)))))) :: T181) := hD61
  refine lv_aload_n hx hb d_MS_init_186 rfl (lv_at hl 0 rfl) ?_
  refine lv_sipush (v := 1640) hx hb d_MS_init_187 (by decide) ?_
  refine zNewq (N' := 1640) hx hb hown (hg _ k9_221) (hg _ k9_222) hK hP61 hD61 hS61 hA 6 rfl (by decide) (by decide) (by decide) (Nat.le_of_ble_eq_true rfl) (Nat.le_of_ble_eq_true rfl) d_MS_init_190 (fun q190 H62 hP62 hD62 hS62 => ?_)
  clear hP61 hD61 hS61
  refine zPull (fun hP63 hD63 => ?_) hP62 hD62
  clear hP62 hD62
  refine va_putF (D := D) (ci := 16) (v := .ref q190) (ty := .array (.object "ChanceArenaModel$Fraction")) (C := R_MS) (T := T_MS) (N := 32) hx hb hg i_MS t_MS o_MS n_MS hown hK hP63 hD63 hS62 0 rfl rfl 25 (by decide) (hg _ k10_9) (fun _ h9 => h9) rfl hnm rfl (by decide +kernel) rfl rfl (Nat.le_of_ble_eq_true rfl) d_MS_init_193 (fun H64 locs64 hP64 hD64 hS64 => ?_)
  clear hP63 hD63 hS62
  replace hP64 : va_P D vwCl ((h0, .inr (16, [.ref q5, .int 0, .int 0, .int 0, .ref q19, .ref q28, .ref q37, .ref q46, .ref q55, .ref q64, .ref q73, .ref q82, .ref q90, .ref q99, .ref q109, .ref q118, .ref q127, .int 0, .ref q136, .ref q145, .ref q154, .ref q163, .ref q172, .ref q181, .int 0, .ref q190, .null, .null, .null, .null, .null, .null])) :: (q190, .inl (tA 6, 1640, .inr (.inr (.inr (.inr (fun _ => none)))))) :: (q163, .inl (tA 6, 512, .inr (.inr (.inr (.inr (fun _ => none)))))) :: (q99, .inl (tA 6, 512, .inr (.inr (.inr (.inr (fun _ => none)))))) :: (q82, .inl (tA 6, 1536, .inr (.inr (.inr (.inr (fun _ => none)))))) :: T181) _ := hP64
  replace hD64 : va_D A ((h0, .inr (16, [.ref q5, .int 0, .int 0, .int 0, .ref q19, .ref q28, .ref q37, .ref q46, .ref q55, .ref q64, .ref q73, .ref q82, .ref q90, .ref q99, .ref q109, .ref q118, .ref q127, .int 0, .ref q136, .ref q145, .ref q154, .ref q163, .ref q172, .ref q181, .int 0, .ref q190, .null, .null, .null, .null, .null, .null])) :: (q190, .inl (tA 6, 1640, .inr (.inr (.inr (.inr (fun _ => none)))))) :: (q163, .inl (tA 6, 512, .inr (.inr (.inr (.inr (fun _ => none)))))) :: (q99, .inl (tA 6, 512, .inr (.inr (.inr (.inr (fun _ => none)))))) :: (q82, .inl (tA 6, 1536, .inr (.inr (.inr (.inr (fun _ => none)))))) :: T181) := hD64
  refine lv_aload_n hx hb d_MS_init_196 rfl (lv_at hl 0 rfl) ?_
  refine va_new (ci := 18) (fs := [.null, .null, .int 0]) (C := R_MF) (T := T_MF) (N := 3) hx hb hg i_MF t_MF o_MF hown (hg _ k9_221) (hg _ k9_158) (hg _ k1_19) hK hP64 hD64 hS64 hA rfl f_MF (Nat.le_of_ble_eq_true rfl) (Nat.le_of_ble_eq_true rfl) d_MS_init_197 (fun q197 H65 hP65 hD65 hS65 => ?_)
  clear hP64 hD64 hS64
  refine lv_dup hx hb d_MS_init_200 rfl ?_
  refine lv_bipush (v := 8) hx hb d_MS_init_201 (by decide) ?_
  refine zInit hP65 hD65 hS65 hA (va_runI (As := [.int (nI 8)]) (rest := [.ref q197, .ref h0]) ⟨hx, hb, hml, hown, hg⟩ (c_MF_init l D tA q197 H65.size 8 (by decide) (by decide)) (cwI 1 hg (zGood k9_161 rfl) rfl rfl rfl (hg _ k1_19) (hg _ k9_223) (hg _ k9_160) rfl (by decide +kernel) ⟨(Nat.le_of_ble_eq_true rfl), (Nat.le_of_ble_eq_true rfl)⟩) (zPreI hh hK hP65 hD65) rfl rfl hl.1 rfl (lv_room (Nat.le_of_ble_eq_true rfl)) d_MS_init_203 ⟨(Nat.le_of_ble_eq_true rfl), (Nat.le_of_ble_eq_true rfl)⟩) (fun u197 H66 locs66 _ hP66 hD66 hS66 => ?_)
  clear hP65 hD65 hS65
  refine zCons4 (fun T203 e203 hP67 hD67 => ?_) hP66 hD66
  clear hP66 hD66
  refine va_putF (D := D) (ci := 16) (v := .ref q197) (ty := .object "ChanceArenaModel$Fraction") (C := R_MS) (T := T_MS) (N := 32) hx hb hg i_MS t_MS o_MS n_MS hown hK hP67 hD67 hS66 0 rfl rfl 26 (by decide) (hg _ k10_10) (fun _ h9 => h9) rfl hnm rfl (by decide +kernel) rfl rfl (Nat.le_of_ble_eq_true rfl) d_MS_init_206 (fun H68 locs68 hP68 hD68 hS68 => ?_)
  clear hP67 hD67 hS66
  replace hP68 : va_P D vwCl ((h0, .inr (16, [.ref q5, .int 0, .int 0, .int 0, .ref q19, .ref q28, .ref q37, .ref q46, .ref q55, .ref q64, .ref q73, .ref q82, .ref q90, .ref q99, .ref q109, .ref q118, .ref q127, .int 0, .ref q136, .ref q145, .ref q154, .ref q163, .ref q172, .ref q181, .int 0, .ref q190, .ref q197, .null, .null, .null, .null, .null])) :: (q190, .inl (tA 6, 1640, .inr (.inr (.inr (.inr (fun _ => none)))))) :: (q163, .inl (tA 6, 512, .inr (.inr (.inr (.inr (fun _ => none)))))) :: (q99, .inl (tA 6, 512, .inr (.inr (.inr (.inr (fun _ => none)))))) :: (q82, .inl (tA 6, 1536, .inr (.inr (.inr (.inr (fun _ => none)))))) :: T203) _ := hP68
  replace hD68 : va_D A ((h0, .inr (16, [.ref q5, .int 0, .int 0, .int 0, .ref q19, .ref q28, .ref q37, .ref q46, .ref q55, .ref q64, .ref q73, .ref q82, .ref q90, .ref q99, .ref q109, .ref q118, .ref q127, .int 0, .ref q136, .ref q145, .ref q154, .ref q163, .ref q172, .ref q181, .int 0, .ref q190, .ref q197, .null, .null, .null, .null, .null])) :: (q190, .inl (tA 6, 1640, .inr (.inr (.inr (.inr (fun _ => none)))))) :: (q163, .inl (tA 6, 512, .inr (.inr (.inr (.inr (fun _ => none)))))) :: (q99, .inl (tA 6, 512, .inr (.inr (.inr (.inr (fun _ => none)))))) :: (q82, .inl (tA 6, 1536, .inr (.inr (.inr (.inr (fun _ => none)))))) :: T203) := hD68
  refine lv_aload_n hx hb d_MS_init_209 rfl (lv_at hl 0 rfl) ?_
  refine va_new (ci := 18) (fs := [.null, .null, .int 0]) (C := R_MF) (T := T_MF) (N := 3) hx hb hg i_MF t_MF o_MF hown (hg _ k9_221) (hg _ k9_158) (hg _ k1_19) hK hP68 hD68 hS68 hA rfl f_MF (Nat.le_of_ble_eq_true rfl) (Nat.le_of_ble_eq_true rfl) d_MS_init_210 (fun q210 H69 hP69 hD69 hS69 => ?_)
  clear hP68 hD68 hS68
  refine lv_dup hx hb d_MS_init_213 rfl ?_
  refine lv_bipush (v := 56) hx hb d_MS_init_214 (by decide) ?_
  refine zInit hP69 hD69 hS69 hA (va_runI (As := [.int (nI 56)]) (rest := [.ref q210, .ref h0]) ⟨hx, hb, hml, hown, hg⟩ (c_MF_init l D tA q210 H69.size 56 (by decide) (by decide)) (cwI 1 hg (zGood k9_161 rfl) rfl rfl rfl (hg _ k1_19) (hg _ k9_223) (hg _ k9_160) rfl (by decide +kernel) ⟨(Nat.le_of_ble_eq_true rfl), (Nat.le_of_ble_eq_true rfl)⟩) (zPreI hh hK hP69 hD69) rfl rfl hl.1 rfl (lv_room (Nat.le_of_ble_eq_true rfl)) d_MS_init_216 ⟨(Nat.le_of_ble_eq_true rfl), (Nat.le_of_ble_eq_true rfl)⟩) (fun u210 H70 locs70 _ hP70 hD70 hS70 => ?_)
  clear hP69 hD69 hS69
  refine zCons4 (fun T216 e216 hP71 hD71 => ?_) hP70 hD70
  clear hP70 hD70
  refine va_putF (D := D) (ci := 16) (v := .ref q210) (ty := .object "ChanceArenaModel$Fraction") (C := R_MS) (T := T_MS) (N := 32) hx hb hg i_MS t_MS o_MS n_MS hown hK hP71 hD71 hS70 0 rfl rfl 27 (by decide) (hg _ k10_11) (fun _ h9 => h9) rfl hnm rfl (by decide +kernel) rfl rfl (Nat.le_of_ble_eq_true rfl) d_MS_init_219 (fun H72 locs72 hP72 hD72 hS72 => ?_)
  clear hP71 hD71 hS70
  replace hP72 : va_P D vwCl ((h0, .inr (16, [.ref q5, .int 0, .int 0, .int 0, .ref q19, .ref q28, .ref q37, .ref q46, .ref q55, .ref q64, .ref q73, .ref q82, .ref q90, .ref q99, .ref q109, .ref q118, .ref q127, .int 0, .ref q136, .ref q145, .ref q154, .ref q163, .ref q172, .ref q181, .int 0, .ref q190, .ref q197, .ref q210, .null, .null, .null, .null])) :: (q190, .inl (tA 6, 1640, .inr (.inr (.inr (.inr (fun _ => none)))))) :: (q163, .inl (tA 6, 512, .inr (.inr (.inr (.inr (fun _ => none)))))) :: (q99, .inl (tA 6, 512, .inr (.inr (.inr (.inr (fun _ => none)))))) :: (q82, .inl (tA 6, 1536, .inr (.inr (.inr (.inr (fun _ => none)))))) :: T216) _ := hP72
  replace hD72 : va_D A ((h0, .inr (16, [.ref q5, .int 0, .int 0, .int 0, .ref q19, .ref q28, .ref q37, .ref q46, .ref q55, .ref q64, .ref q73, .ref q82, .ref q90, .ref q99, .ref q109, .ref q118, .ref q127, .int 0, .ref q136, .ref q145, .ref q154, .ref q163, .ref q172, .ref q181, .int 0, .ref q190, .ref q197, .ref q210, .null, .null, .null, .null])) :: (q190, .inl (tA 6, 1640, .inr (.inr (.inr (.inr (fun _ => none)))))) :: (q163, .inl (tA 6, 512, .inr (.inr (.inr (.inr (fun _ => none)))))) :: (q99, .inl (tA 6, 512, .inr (.inr (.inr (.inr (fun _ => none)))))) :: (q82, .inl (tA 6, 1536, .inr (.inr (.inr (.inr (fun _ => none)))))) :: T216) := hD72
  refine lv_aload_n hx hb d_MS_init_222 rfl (lv_at hl 0 rfl) ?_
  refine va_new (ci := 18) (fs := [.null, .null, .int 0]) (C := R_MF) (T := T_MF) (N := 3) hx hb hg i_MF t_MF o_MF hown (hg _ k9_221) (hg _ k9_158) (hg _ k1_19) hK hP72 hD72 hS72 hA rfl f_MF (Nat.le_of_ble_eq_true rfl) (Nat.le_of_ble_eq_true rfl) d_MS_init_223 (fun q223 H73 hP73 hD73 hS73 => ?_)
  clear hP72 hD72 hS72
  refine lv_dup hx hb d_MS_init_226 rfl ?_
  refine lv_sipush (v := 900) hx hb d_MS_init_227 (by decide) ?_
  refine zInit hP73 hD73 hS73 hA (va_runI (As := [.int (nI 900)]) (rest := [.ref q223, .ref h0]) ⟨hx, hb, hml, hown, hg⟩ (c_MF_init l D tA q223 H73.size 900 (by decide) (by decide)) (cwI 1 hg (zGood k9_161 rfl) rfl rfl rfl (hg _ k1_19) (hg _ k9_223) (hg _ k9_160) rfl (by decide +kernel) ⟨(Nat.le_of_ble_eq_true rfl), (Nat.le_of_ble_eq_true rfl)⟩) (zPreI hh hK hP73 hD73) rfl rfl hl.1 rfl (lv_room (Nat.le_of_ble_eq_true rfl)) d_MS_init_230 ⟨(Nat.le_of_ble_eq_true rfl), (Nat.le_of_ble_eq_true rfl)⟩) (fun u223 H74 locs74 _ hP74 hD74 hS74 => ?_)
  clear hP73 hD73 hS73
  refine zCons4 (fun T230 e230 hP75 hD75 => ?_) hP74 hD74
  clear hP74 hD74
  refine va_putF (D := D) (ci := 16) (v := .ref q223) (ty := .object "ChanceArenaModel$Fraction") (C := R_MS) (T := T_MS) (N := 32) hx hb hg i_MS t_MS o_MS n_MS hown hK hP75 hD75 hS74 0 rfl rfl 28 (by decide) (hg _ k10_12) (fun _ h9 => h9) rfl hnm rfl (by decide +kernel) rfl rfl (Nat.le_of_ble_eq_true rfl) d_MS_init_233 (fun H76 locs76 hP76 hD76 hS76 => ?_)
  clear hP75 hD75 hS74
  replace hP76 : va_P D vwCl ((h0, .inr (16, [.ref q5, .int 0, .int 0, .int 0, .ref q19, .ref q28, .ref q37, .ref q46, .ref q55, .ref q64, .ref q73, .ref q82, .ref q90, .ref q99, .ref q109, .ref q118, .ref q127, .int 0, .ref q136, .ref q145, .ref q154, .ref q163, .ref q172, .ref q181, .int 0, .ref q190, .ref q197, .ref q210, .ref q223, .null, .null, .null])) :: (q190, .inl (tA 6, 1640, .inr (.inr (.inr (.inr (fun _ => none)))))) :: (q163, .inl (tA 6, 512, .inr (.inr (.inr (.inr (fun _ => none)))))) :: (q99, .inl (tA 6, 512, .inr (.inr (.inr (.inr (fun _ => none)))))) :: (q82, .inl (tA 6, 1536, .inr (.inr (.inr (.inr (fun _ => none)))))) :: T230) _ := hP76
  replace hD76 : va_D A ((h0, .inr (16, [.ref q5, .int 0, .int 0, .int 0, .ref q19, .ref q28, .ref q37, .ref q46, .ref q55, .ref q64, .ref q73, .ref q82, .ref q90, .ref q99, .ref q109, .ref q118, .ref q127, .int 0, .ref q136, .ref q145, .ref q154, .ref q163, .ref q172, .ref q181, .int 0, .ref q190, .ref q197, .ref q210, .ref q223, .null, .null, .null])) :: (q190, .inl (tA 6, 1640, .inr (.inr (.inr (.inr (fun _ => none)))))) :: (q163, .inl (tA 6, 512, .inr (.inr (.inr (.inr (fun _ => none)))))) :: (q99, .inl (tA 6, 512, .inr (.inr (.inr (.inr (fun _ => none)))))) :: (q82, .inl (tA 6, 1536, .inr (.inr (.inr (.inr (fun _ => none)))))) :: T230) := hD76
  refine lv_aload_n hx hb d_MS_init_236 rfl (lv_at hl 0 rfl) ?_
  refine va_new (ci := 18) (fs := [.null, .null, .int 0]) (C := R_MF) (T := T_MF) (N := 3) hx hb hg i_MF t_MF o_MF hown (hg _ k9_221) (hg _ k9_158) (hg _ k1_19) hK hP76 hD76 hS76 hA rfl f_MF (Nat.le_of_ble_eq_true rfl) (Nat.le_of_ble_eq_true rfl) d_MS_init_237 (fun q237 H77 hP77 hD77 hS77 => ?_)
  clear hP76 hD76 hS76
  refine lv_dup hx hb d_MS_init_240 rfl ?_
  refine lv_sipush (v := 900) hx hb d_MS_init_241 (by decide) ?_
  refine zInit hP77 hD77 hS77 hA (va_runI (As := [.int (nI 900)]) (rest := [.ref q237, .ref h0]) ⟨hx, hb, hml, hown, hg⟩ (c_MF_init l D tA q237 H77.size 900 (by decide) (by decide)) (cwI 1 hg (zGood k9_161 rfl) rfl rfl rfl (hg _ k1_19) (hg _ k9_223) (hg _ k9_160) rfl (by decide +kernel) ⟨(Nat.le_of_ble_eq_true rfl), (Nat.le_of_ble_eq_true rfl)⟩) (zPreI hh hK hP77 hD77) rfl rfl hl.1 rfl (lv_room (Nat.le_of_ble_eq_true rfl)) d_MS_init_244 ⟨(Nat.le_of_ble_eq_true rfl), (Nat.le_of_ble_eq_true rfl)⟩) (fun u237 H78 locs78 _ hP78 hD78 hS78 => ?_)
  clear hP77 hD77 hS77
  refine zCons4 (fun T244 e244 hP79 hD79 => ?_) hP78 hD78
  clear hP78 hD78
  refine va_putF (D := D) (ci := 16) (v := .ref q237) (ty := .object "ChanceArenaModel$Fraction") (C := R_MS) (T := T_MS) (N := 32) hx hb hg i_MS t_MS o_MS n_MS hown hK hP79 hD79 hS78 0 rfl rfl 29 (by decide) (hg _ k10_13) (fun _ h9 => h9) rfl hnm rfl (by decide +kernel) rfl rfl (Nat.le_of_ble_eq_true rfl) d_MS_init_247 (fun H80 locs80 hP80 hD80 hS80 => ?_)
  clear hP79 hD79 hS78
  replace hP80 : va_P D vwCl ((h0, .inr (16, [.ref q5, .int 0, .int 0, .int 0, .ref q19, .ref q28, .ref q37, .ref q46, .ref q55, .ref q64, .ref q73, .ref q82, .ref q90, .ref q99, .ref q109, .ref q118, .ref q127, .int 0, .ref q136, .ref q145, .ref q154, .ref q163, .ref q172, .ref q181, .int 0, .ref q190, .ref q197, .ref q210, .ref q223, .ref q237, .null, .null])) :: (q190, .inl (tA 6, 1640, .inr (.inr (.inr (.inr (fun _ => none)))))) :: (q163, .inl (tA 6, 512, .inr (.inr (.inr (.inr (fun _ => none)))))) :: (q99, .inl (tA 6, 512, .inr (.inr (.inr (.inr (fun _ => none)))))) :: (q82, .inl (tA 6, 1536, .inr (.inr (.inr (.inr (fun _ => none)))))) :: T244) _ := hP80
  replace hD80 : va_D A ((h0, .inr (16, [.ref q5, .int 0, .int 0, .int 0, .ref q19, .ref q28, .ref q37, .ref q46, .ref q55, .ref q64, .ref q73, .ref q82, .ref q90, .ref q99, .ref q109, .ref q118, .ref q127, .int 0, .ref q136, .ref q145, .ref q154, .ref q163, .ref q172, .ref q181, .int 0, .ref q190, .ref q197, .ref q210, .ref q223, .ref q237, .null, .null])) :: (q190, .inl (tA 6, 1640, .inr (.inr (.inr (.inr (fun _ => none)))))) :: (q163, .inl (tA 6, 512, .inr (.inr (.inr (.inr (fun _ => none)))))) :: (q99, .inl (tA 6, 512, .inr (.inr (.inr (.inr (fun _ => none)))))) :: (q82, .inl (tA 6, 1536, .inr (.inr (.inr (.inr (fun _ => none)))))) :: T244) := hD80
  refine lv_aload_n hx hb d_MS_init_250 rfl (lv_at hl 0 rfl) ?_
  refine va_new (ci := 18) (fs := [.null, .null, .int 0]) (C := R_MF) (T := T_MF) (N := 3) hx hb hg i_MF t_MF o_MF hown (hg _ k9_221) (hg _ k9_158) (hg _ k1_19) hK hP80 hD80 hS80 hA rfl f_MF (Nat.le_of_ble_eq_true rfl) (Nat.le_of_ble_eq_true rfl) d_MS_init_251 (fun q251 H81 hP81 hD81 hS81 => ?_)
  clear hP80 hD80 hS80
  refine lv_dup hx hb d_MS_init_254 rfl ?_
  refine lv_sipush (v := 900) hx hb d_MS_init_255 (by decide) ?_
  refine zInit hP81 hD81 hS81 hA (va_runI (As := [.int (nI 900)]) (rest := [.ref q251, .ref h0]) ⟨hx, hb, hml, hown, hg⟩ (c_MF_init l D tA q251 H81.size 900 (by decide) (by decide)) (cwI 1 hg (zGood k9_161 rfl) rfl rfl rfl (hg _ k1_19) (hg _ k9_223) (hg _ k9_160) rfl (by decide +kernel) ⟨(Nat.le_of_ble_eq_true rfl), (Nat.le_of_ble_eq_true rfl)⟩) (zPreI hh hK hP81 hD81) rfl rfl hl.1 rfl (lv_room (Nat.le_of_ble_eq_true rfl)) d_MS_init_258 ⟨(Nat.le_of_ble_eq_true rfl), (Nat.le_of_ble_eq_true rfl)⟩) (fun u251 H82 locs82 _ hP82 hD82 hS82 => ?_)
  clear hP81 hD81 hS81
  refine zCons4 (fun T258 e258 hP83 hD83 => ?_) hP82 hD82
  clear hP82 hD82
  refine va_putF (D := D) (ci := 16) (v := .ref q251) (ty := .object "ChanceArenaModel$Fraction") (C := R_MS) (T := T_MS) (N := 32) hx hb hg i_MS t_MS o_MS n_MS hown hK hP83 hD83 hS82 0 rfl rfl 30 (by decide) (hg _ k10_14) (fun _ h9 => h9) rfl hnm rfl (by decide +kernel) rfl rfl (Nat.le_of_ble_eq_true rfl) d_MS_init_261 (fun H84 locs84 hP84 hD84 hS84 => ?_)
  clear hP83 hD83 hS82
  replace hP84 : va_P D vwCl ((h0, .inr (16, [.ref q5, .int 0, .int 0, .int 0, .ref q19, .ref q28, .ref q37, .ref q46, .ref q55, .ref q64, .ref q73, .ref q82, .ref q90, .ref q99, .ref q109, .ref q118, .ref q127, .int 0, .ref q136, .ref q145, .ref q154, .ref q163, .ref q172, .ref q181, .int 0, .ref q190, .ref q197, .ref q210, .ref q223, .ref q237, .ref q251, .null])) :: (q190, .inl (tA 6, 1640, .inr (.inr (.inr (.inr (fun _ => none)))))) :: (q163, .inl (tA 6, 512, .inr (.inr (.inr (.inr (fun _ => none)))))) :: (q99, .inl (tA 6, 512, .inr (.inr (.inr (.inr (fun _ => none)))))) :: (q82, .inl (tA 6, 1536, .inr (.inr (.inr (.inr (fun _ => none)))))) :: T258) _ := hP84
  replace hD84 : va_D A ((h0, .inr (16, [.ref q5, .int 0, .int 0, .int 0, .ref q19, .ref q28, .ref q37, .ref q46, .ref q55, .ref q64, .ref q73, .ref q82, .ref q90, .ref q99, .ref q109, .ref q118, .ref q127, .int 0, .ref q136, .ref q145, .ref q154, .ref q163, .ref q172, .ref q181, .int 0, .ref q190, .ref q197, .ref q210, .ref q223, .ref q237, .ref q251, .null])) :: (q190, .inl (tA 6, 1640, .inr (.inr (.inr (.inr (fun _ => none)))))) :: (q163, .inl (tA 6, 512, .inr (.inr (.inr (.inr (fun _ => none)))))) :: (q99, .inl (tA 6, 512, .inr (.inr (.inr (.inr (fun _ => none)))))) :: (q82, .inl (tA 6, 1536, .inr (.inr (.inr (.inr (fun _ => none)))))) :: T258) := hD84
  refine lv_aload_n hx hb d_MS_init_264 rfl (lv_at hl 0 rfl) ?_
  refine lv_sipush (v := 400) hx hb d_MS_init_265 (by decide) ?_
  refine zNewa (atype := .int) (ty := .int) (a0 := (400, .inl (fun _ => 0))) (N' := 400) hx hb rfl (hg _ k1_82) hK hP84 hD84 hS84 hA 0 rfl (fun _ h => by cases h) (fun _ => rfl) (by decide) (by decide) (by decide) (Nat.le_of_ble_eq_true rfl) (Nat.le_of_ble_eq_true rfl) d_MS_init_268 (fun q268 H85 hP85 hD85 hS85 => ?_)
  clear hP84 hD84 hS84
  refine zCons4 (fun T268 e268 hP86 hD86 => ?_) hP85 hD85
  clear hP85 hD85
  refine va_putF (D := D) (ci := 16) (v := .ref q268) (ty := .array .int) (C := R_MS) (T := T_MS) (N := 32) hx hb hg i_MS t_MS o_MS n_MS hown hK hP86 hD86 hS85 0 rfl rfl 31 (by decide) (hg _ k10_15) (fun _ h9 => h9) rfl hnm rfl (by decide +kernel) rfl rfl (Nat.le_of_ble_eq_true rfl) d_MS_init_270 (fun H87 locs87 hP87 hD87 hS87 => ?_)
  clear hP86 hD86 hS85
  replace hP87 : va_P D vwCl ((h0, .inr (16, [.ref q5, .int 0, .int 0, .int 0, .ref q19, .ref q28, .ref q37, .ref q46, .ref q55, .ref q64, .ref q73, .ref q82, .ref q90, .ref q99, .ref q109, .ref q118, .ref q127, .int 0, .ref q136, .ref q145, .ref q154, .ref q163, .ref q172, .ref q181, .int 0, .ref q190, .ref q197, .ref q210, .ref q223, .ref q237, .ref q251, .ref q268])) :: (q190, .inl (tA 6, 1640, .inr (.inr (.inr (.inr (fun _ => none)))))) :: (q163, .inl (tA 6, 512, .inr (.inr (.inr (.inr (fun _ => none)))))) :: (q99, .inl (tA 6, 512, .inr (.inr (.inr (.inr (fun _ => none)))))) :: (q82, .inl (tA 6, 1536, .inr (.inr (.inr (.inr (fun _ => none)))))) :: T268) _ := hP87
  replace hD87 : va_D A ((h0, .inr (16, [.ref q5, .int 0, .int 0, .int 0, .ref q19, .ref q28, .ref q37, .ref q46, .ref q55, .ref q64, .ref q73, .ref q82, .ref q90, .ref q99, .ref q109, .ref q118, .ref q127, .int 0, .ref q136, .ref q145, .ref q154, .ref q163, .ref q172, .ref q181, .int 0, .ref q190, .ref q197, .ref q210, .ref q223, .ref q237, .ref q251, .ref q268])) :: (q190, .inl (tA 6, 1640, .inr (.inr (.inr (.inr (fun _ => none)))))) :: (q163, .inl (tA 6, 512, .inr (.inr (.inr (.inr (fun _ => none)))))) :: (q99, .inl (tA 6, 512, .inr (.inr (.inr (.inr (fun _ => none)))))) :: (q82, .inl (tA 6, 1536, .inr (.inr (.inr (.inr (fun _ => none)))))) :: T268) := hD87
  refine lv_iconst (v := 0) hx hb d_MS_init_273 (by decide) ?_
  refine lv_istore_n (lv' := [(1, .int (nI 0)), (0, .ref h0)]) hx hb d_MS_init_274 rfl hl (by decide) rfl (fun ls hl => ?_)
  refine W.cs (cells' := 67 + 5 * (5 * 0)) (slots' := 43637 + 119 * (5 * 0)) rfl rfl ?_
  refine MS_outer (ac := q190) (av := q163) (an := q99) (af := q82) (fs := [.ref q5, .int 0, .int 0, .int 0, .ref q19, .ref q28, .ref q37, .ref q46, .ref q55, .ref q64, .ref q73, .ref q82, .ref q90, .ref q99, .ref q109, .ref q118, .ref q127, .int 0, .ref q136, .ref q145, .ref q154, .ref q163, .ref q172, .ref q181, .int 0, .ref q190, .ref q197, .ref q210, .ref q223, .ref q237, .ref q251, .ref q268]) (T0 := T268) hx hb hml hh hg hown hK hA rfl rfl rfl ?_ 512 0 rfl (fun _ => (0, 0, 0, 0, 0)) _ _ ls ?_ ?_ hS87 hl
  · intro r H2 locs2 ls2 hP2 hD2 hS2 hl2
    refine lv_iconst (v := 0) hx hb d_MS_init_350 (by decide) ?_
    refine lv_istore_n (lv' := [(1, .int (nI 0)), (0, .ref h0)]) hx hb d_MS_init_351 rfl hl2 (by decide) rfl (fun ls3 hl3 => ?_)
    refine W.cs (cells' := 67 + 5 * (2560 + 0)) (slots' := 43637 + 119 * (2560 + 0)) rfl rfl ?_
    refine MS_cells hx hb hml hh hg hown hK hA rfl ?_ 1640 0 rfl r _ _ ls3 hP2 hD2 hS2 hl3
    intro r5 H5 locs5 ls5 hP5 hD5 hS5 hl5
    refine W.cs (cells' := 21067) (slots' := 543437) rfl rfl ?_
    exact zVret hx hb hr hlocks hP5 hD5 hS5 ((q5, u5), q19, q28, q37, q46, q55, q64, q73, q82, q90, q99, q109, q118, q127, q136, q145, q154, q163, q172, q181, q190, (q197, u197), (q210, u210), (q223, u223), (q237, u237), (q251, u251), q268, r5) trivial (by rw [e268, e258, e244, e230, e216, e203, e181, e172, e154, e145, e136, e127, e118, e109, e90, e73, e64, e55, e46, e37, e28, e19, e9]; rfl) d_MS_init_380
  · simp only [Nat.mul_zero, gC_0, gV_0, gN_0, gF_0, f_pool, List.append_nil]
    exact hP87
  · simp only [Nat.mul_zero, gC_0, gV_0, gN_0, gF_0, f_pool, List.append_nil]
    exact hD87
