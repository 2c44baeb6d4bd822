theorem k1_19 : (Jvm.Cond.initialized "ChanceArenaModel$Fraction") ∈ lw_R := zR (zk_1 _ (List.mem_of_getElem? (i := 19) (by decide +kernel))) rfl
theorem k9_155 : (Jvm.Cond.code ({ cls := "ChanceArenaModel$Sums", name := "<init>", desc := "()V" } : Jvm.MethodName) prog_20_method_1_code (1 : Nat) (Option.none : Option Jvm.ClassFile.FieldType)) ∈ lw_R := zR (zk_9 _ (List.mem_of_getElem? (i := 155) (by decide +kernel))) rfl
theorem k9_156 : (Jvm.Cond.methodLink "ChanceArenaModel$Sums" (1 : Nat) ({ cls := "java/lang/Object", name := "<init>", desc := "()V" } : Jvm.MethodName)) ∈ lw_R := zR (zk_9 _ (List.mem_of_getElem? (i := 156) (by decide +kernel))) rfl
theorem k9_157 : (Jvm.Cond.classLink "ChanceArenaModel$Sums" (7 : Nat) "ChanceArenaModel$Fraction") ∈ lw_R := zR (zk_9 _ (List.mem_of_getElem? (i := 157) (by decide +kernel))) rfl
theorem k9_158 : (Jvm.Cond.instantiable "ChanceArenaModel$Fraction" (3 : Nat)) ∈ lw_R := zR (zk_9 _ (List.mem_of_getElem? (i := 158) (by decide +kernel))) rfl
theorem k9_159 : (Jvm.Cond.methodLink "ChanceArenaModel$Sums" (11 : Nat) ({ cls := "ChanceArenaModel$Fraction", name := "<init>", desc := "(I)V" } : Jvm.MethodName)) ∈ lw_R := zR (zk_9 _ (List.mem_of_getElem? (i := 159) (by decide +kernel))) rfl
theorem k9_160 : (Jvm.Cond.instanceMethod ({ cls := "ChanceArenaModel$Fraction", name := "<init>", desc := "(I)V" } : Jvm.MethodName)) ∈ lw_R := zR (zk_9 _ (List.mem_of_getElem? (i := 160) (by decide +kernel))) rfl
theorem k9_196 : (Jvm.Cond.classLink "ChanceArenaModel$Sums" (21 : Nat) "ChanceArenaModel$Whole") ∈ lw_R := zR (zk_9 _ (List.mem_of_getElem? (i := 196) (by decide +kernel))) rfl
theorem k9_197 : (Jvm.Cond.methodLink "ChanceArenaModel$Sums" (23 : Nat) ({ cls := "ChanceArenaModel$Whole", name := "<init>", desc := "(I)V" } : Jvm.MethodName)) ∈ lw_R := zR (zk_9 _ (List.mem_of_getElem? (i := 197) (by decide +kernel))) rfl
theorem k9_198 : (Jvm.Cond.fieldLink "ChanceArenaModel$Sums" (14 : Nat) "ChanceArenaModel$Sums" "made" "LChanceArenaModel$Fraction;") ∈ lw_R := zR (zk_9 _ (List.mem_of_getElem? (i := 198) (by decide +kernel))) rfl
theorem k9_200 : (Jvm.Cond.fieldLink "ChanceArenaModel$Sums" (18 : Nat) "ChanceArenaModel$Sums" "sum" "LChanceArenaModel$Fraction;") ∈ lw_R := zR (zk_9 _ (List.mem_of_getElem? (i := 200) (by decide +kernel))) rfl
theorem k9_201 : (Jvm.Cond.fieldLink "ChanceArenaModel$Sums" (24 : Nat) "ChanceArenaModel$Sums" "x" "LChanceArenaModel$Whole;") ∈ lw_R := zR (zk_9 _ (List.mem_of_getElem? (i := 201) (by decide +kernel))) rfl
theorem k9_202 : (Jvm.Cond.fieldLink "ChanceArenaModel$Sums" (28 : Nat) "ChanceArenaModel$Sums" "y" "LChanceArenaModel$Whole;") ∈ lw_R := zR (zk_9 _ (List.mem_of_getElem? (i := 202) (by decide +kernel))) rfl
theorem k9_203 : (Jvm.Cond.fieldLink "ChanceArenaModel$Sums" (31 : Nat) "ChanceArenaModel$Sums" "z" "LChanceArenaModel$Whole;") ∈ lw_R := zR (zk_9 _ (List.mem_of_getElem? (i := 203) (by decide +kernel))) rfl
theorem k9_204 : (Jvm.Cond.fieldLink "ChanceArenaModel$Sums" (34 : Nat) "ChanceArenaModel$Sums" "quotient" "LChanceArenaModel$Whole;") ∈ lw_R := zR (zk_9 _ (List.mem_of_getElem? (i := 204) (by decide +kernel))) rfl
theorem k9_205 : (Jvm.Cond.fieldLink "ChanceArenaModel$Sums" (37 : Nat) "ChanceArenaModel$Sums" "rest" "LChanceArenaModel$Whole;") ∈ lw_R := zR (zk_9 _ (List.mem_of_getElem? (i := 205) (by decide +kernel))) rfl
theorem d_MU_init_0 : decode prog_20_method_1_code 0 = .ok (.aload_n 0, 1) := dc9_42 (by decide +kernel)
theorem d_MU_init_1 : decode prog_20_method_1_code 1 = .ok (.invokespecial 1, 3) := dc9_183 (by decide +kernel)
theorem d_MU_init_4 : decode prog_20_method_1_code 4 = .ok (.aload_n 0, 1) := dc9_42 (by decide +kernel)
theorem d_MU_init_5 : decode prog_20_method_1_code 5 = .ok (.new 7, 3) := dc9_187 (by decide +kernel)
theorem d_MU_init_8 : decode prog_20_method_1_code 8 = .ok (.dup, 1) := dc9_89 (by decide +kernel)
theorem d_MU_init_9 : decode prog_20_method_1_code 9 = .ok (.sipush 900, 3) := dc9_17 (by decide +kernel)
theorem d_MU_init_12 : decode prog_20_method_1_code 12 = .ok (.invokespecial 11, 3) := dc9_183 (by decide +kernel)
theorem d_MU_init_15 : decode prog_20_method_1_code 15 = .ok (.putfield 14, 3) := dc9_181 (by decide +kernel)
theorem d_MU_init_18 : decode prog_20_method_1_code 18 = .ok (.aload_n 0, 1) := dc9_42 (by decide +kernel)
theorem d_MU_init_19 : decode prog_20_method_1_code 19 = .ok (.new 7, 3) := dc9_187 (by decide +kernel)
theorem d_MU_init_22 : decode prog_20_method_1_code 22 = .ok (.dup, 1) := dc9_89 (by decide +kernel)
theorem d_MU_init_23 : decode prog_20_method_1_code 23 = .ok (.sipush 900, 3) := dc9_17 (by decide +kernel)
theorem d_MU_init_26 : decode prog_20_method_1_code 26 = .ok (.invokespecial 11, 3) := dc9_183 (by decide +kernel)
theorem d_MU_init_29 : decode prog_20_method_1_code 29 = .ok (.putfield 18, 3) := dc9_181 (by decide +kernel)
theorem d_MU_init_32 : decode prog_20_method_1_code 32 = .ok (.aload_n 0, 1) := dc9_42 (by decide +kernel)
theorem d_MU_init_33 : decode prog_20_method_1_code 33 = .ok (.new 21, 3) := dc9_187 (by decide +kernel)
theorem d_MU_init_36 : decode prog_20_method_1_code 36 = .ok (.dup, 1) := dc9_89 (by decide +kernel)
theorem d_MU_init_37 : decode prog_20_method_1_code 37 = .ok (.sipush 900, 3) := dc9_17 (by decide +kernel)
theorem d_MU_init_40 : decode prog_20_method_1_code 40 = .ok (.invokespecial 23, 3) := dc9_183 (by decide +kernel)
theorem d_MU_init_43 : decode prog_20_method_1_code 43 = .ok (.putfield 24, 3) := dc9_181 (by decide +kernel)
theorem d_MU_init_46 : decode prog_20_method_1_code 46 = .ok (.aload_n 0, 1) := dc9_42 (by decide +kernel)
theorem d_MU_init_47 : decode prog_20_method_1_code 47 = .ok (.new 21, 3) := dc9_187 (by decide +kernel)
theorem d_MU_init_50 : decode prog_20_method_1_code 50 = .ok (.dup, 1) := dc9_89 (by decide +kernel)
theorem d_MU_init_51 : decode prog_20_method_1_code 51 = .ok (.sipush 900, 3) := dc9_17 (by decide +kernel)
theorem d_MU_init_54 : decode prog_20_method_1_code 54 = .ok (.invokespecial 23, 3) := dc9_183 (by decide +kernel)
theorem d_MU_init_57 : decode prog_20_method_1_code 57 = .ok (.putfield 28, 3) := dc9_181 (by decide +kernel)
theorem d_MU_init_60 : decode prog_20_method_1_code 60 = .ok (.aload_n 0, 1) := dc9_42 (by decide +kernel)
theorem d_MU_init_61 : decode prog_20_method_1_code 61 = .ok (.new 21, 3) := dc9_187 (by decide +kernel)
theorem d_MU_init_64 : decode prog_20_method_1_code 64 = .ok (.dup, 1) := dc9_89 (by decide +kernel)
theorem d_MU_init_65 : decode prog_20_method_1_code 65 = .ok (.sipush 900, 3) := dc9_17 (by decide +kernel)
theorem d_MU_init_68 : decode prog_20_method_1_code 68 = .ok (.invokespecial 23, 3) := dc9_183 (by decide +kernel)
theorem d_MU_init_71 : decode prog_20_method_1_code 71 = .ok (.putfield 31, 3) := dc9_181 (by decide +kernel)
theorem d_MU_init_74 : decode prog_20_method_1_code 74 = .ok (.aload_n 0, 1) := dc9_42 (by decide +kernel)
theorem d_MU_init_75 : decode prog_20_method_1_code 75 = .ok (.new 21, 3) := dc9_187 (by decide +kernel)
theorem d_MU_init_78 : decode prog_20_method_1_code 78 = .ok (.dup, 1) := dc9_89 (by decide +kernel)
theorem d_MU_init_79 : decode prog_20_method_1_code 79 = .ok (.sipush 900, 3) := dc9_17 (by decide +kernel)
theorem d_MU_init_82 : decode prog_20_method_1_code 82 = .ok (.invokespecial 23, 3) := dc9_183 (by decide +kernel)
theorem d_MU_init_85 : decode prog_20_method_1_code 85 = .ok (.putfield 34, 3) := dc9_181 (by decide +kernel)
theorem d_MU_init_88 : decode prog_20_method_1_code 88 = .ok (.aload_n 0, 1) := dc9_42 (by decide +kernel)
theorem d_MU_init_89 : decode prog_20_method_1_code 89 = .ok (.new 21, 3) := dc9_187 (by decide +kernel)
theorem d_MU_init_92 : decode prog_20_method_1_code 92 = .ok (.dup, 1) := dc9_89 (by decide +kernel)
theorem d_MU_init_93 : decode prog_20_method_1_code 93 = .ok (.sipush 900, 3) := dc9_17 (by decide +kernel)
theorem d_MU_init_96 : decode prog_20_method_1_code 96 = .ok (.invokespecial 23, 3) := dc9_183 (by decide +kernel)
theorem d_MU_init_99 : decode prog_20_method_1_code 99 = .ok (.putfield 37, 3) := dc9_181 (by decide +kernel)
theorem d_MU_init_102 : decode prog_20_method_1_code 102 = .ok (.return_, 1) := dc9_177 (by decide +kernel)
abbrev S_MU : Type := (Nat × (Nat × Nat × Nat × Nat)) × (Nat × (Nat × Nat × Nat × Nat)) × (Nat × Nat) × (Nat × Nat) × (Nat × Nat) × (Nat × Nat) × (Nat × Nat)
def w_MU (tA : Nat → ClassId) (h0 : Nat) (u : S_MU) : va_W := match u with
  | ((q5, u5), (q19, u19), (q33, u33), (q47, u47), (q61, u61), (q75, u75), (q89, u89)) => (h0, .inr (17, [.ref q5, .ref q19, .ref q33, .ref q47, .ref q61, .ref q75, .ref q89])) :: ([] ++ w_MF tA q5 900 u5 ++ w_MF tA q19 900 u19 ++ w_MW tA q33 900 u33 0 (fun _ => 0) ++ w_MW tA q47 900 u47 0 (fun _ => 0) ++ w_MW tA q61 900 u61 0 (fun _ => 0) ++ w_MW tA q75 900 u75 0 (fun _ => 0) ++ w_MW tA q89 900 u89 0 (fun _ => 0))
theorem f_MU : ∀ j, j < 7 → defaultValue (t_MU j) = vp_V [.null, .null, .null, .null, .null, .null, .null] j := by decide +kernel
set_option maxHeartbeats 4000000 in
set_option maxRecDepth 100000 in
theorem c_MU_init (l : Launch) (D : va_G) (tA : Nat → ClassId) (h0 sz : Nat) : zMv l ({ cls := "ChanceArenaModel$Sums", name := "<init>", desc := "()V" } : Jvm.MethodName) (zW (Jvm.Cond.code ({ cls := "ChanceArenaModel$Sums", name := "<init>", desc := "()V" } : Jvm.MethodName) prog_20_method_1_code (1 : Nat) (Option.none : Option Jvm.ClassFile.FieldType))) { frames := 3, cells := 20, slots := 8124, locals := 61 } [.ref h0] D tA [(h0, .inr (17, [.null, .null, .null, .null, .null, .null, .null]))] sz (fun _ : S_MU => True) (w_MU tA h0) 20 8124 := by
  refine zOpen (fun A => va_Qv _ (zPost D A (w_MU tA h0)) A) (lv := [(0, .ref h0)]) (by decide) rfl (Nat.le_of_ble_eq_true rfl) rfl ?_
  intro p e s m below meth c A ls hx hb hr hml hh hg hown hlocks hnm hK hA hP hD0 hAw hS hl
  have hD := zD hD0 hAw
  refine lv_aload_n hx hb d_MU_init_0 rfl (lv_at hl 0 rfl) ?_
  refine W.objInit hx hb hown (hg _ k9_156) (hg _ k1_46) (hg _ k1_47) rfl (by rw [hml]; exact hl.1) rfl d_MU_init_1 (Nat.le_of_ble_eq_true rfl) (Nat.le_of_ble_eq_true rfl) ?_
  refine lv_aload_n hx hb d_MU_init_4 rfl (lv_at hl 0 rfl) ?_
  refine va_new (ci := 18) (fs := [.null, .null, .int 0]) (C := R_MF) (T := T_MF) (N := 3) hx hb hg i_MF t_MF o_MF hown (hg _ k9_157) (hg _ k9_158) (hg _ k1_19) hK hP hD hS hA rfl f_MF (Nat.le_of_ble_eq_true rfl) (Nat.le_of_ble_eq_true rfl) d_MU_init_5 (fun q5 H1 hP1 hD1 hS1 => ?_)
  clear hP hD hS
  refine lv_dup hx hb d_MU_init_8 rfl ?_
  refine lv_sipush (v := 900) hx hb d_MU_init_9 (by decide) ?_
  refine zInit hP1 hD1 hS1 hA (va_runI (As := [.int (nI 900)]) (rest := [.ref q5, .ref h0]) ⟨hx, hb, hml, hown, hg⟩ (c_MF_init l D tA q5 H1.size 900 (by decide) (by decide)) (cwI 1 hg (zGood k9_161 rfl) rfl rfl rfl (hg _ k1_19) (hg _ k9_159) (hg _ k9_160) rfl (by decide +kernel) ⟨(Nat.le_of_ble_eq_true rfl), (Nat.le_of_ble_eq_true rfl)⟩) (zPreI hh hK hP1 hD1) rfl rfl hl.1 rfl (lv_room (Nat.le_of_ble_eq_true rfl)) d_MU_init_12 ⟨(Nat.le_of_ble_eq_true rfl), (Nat.le_of_ble_eq_true rfl)⟩) (fun u5 H2 locs2 _ hP2 hD2 hS2 => ?_)
  clear hP1 hD1 hS1
  refine zCons (fun T12 e12 hP3 hD3 => ?_) hP2 hD2
  clear hP2 hD2
  refine va_putF (D := D) (ci := 17) (v := .ref q5) (ty := .object "ChanceArenaModel$Fraction") (C := R_MU) (T := T_MU) (N := 7) hx hb hg i_MU t_MU o_MU n_MU hown hK hP3 hD3 hS2 0 rfl rfl 0 (by decide) (hg _ k9_198) (fun _ h9 => h9) rfl hnm rfl (by decide +kernel) rfl rfl (Nat.le_of_ble_eq_true rfl) d_MU_init_15 (fun H4 locs4 hP4 hD4 hS4 => ?_)
  clear hP3 hD3 hS2
  replace hP4 : va_P D vwCl ((h0, .inr (17, [.ref q5, .null, .null, .null, .null, .null, .null])) :: T12) _ := hP4
  replace hD4 : va_D A ((h0, .inr (17, [.ref q5, .null, .null, .null, .null, .null, .null])) :: T12) := hD4
  refine lv_aload_n hx hb d_MU_init_18 rfl (lv_at hl 0 rfl) ?_
  refine va_new (ci := 18) (fs := [.null, .null, .int 0]) (C := R_MF) (T := T_MF) (N := 3) hx hb hg i_MF t_MF o_MF hown (hg _ k9_157) (hg _ k9_158) (hg _ k1_19) hK hP4 hD4 hS4 hA rfl f_MF (Nat.le_of_ble_eq_true rfl) (Nat.le_of_ble_eq_true rfl) d_MU_init_19 (fun q19 H5 hP5 hD5 hS5 => ?_)
  clear hP4 hD4 hS4
  refine lv_dup hx hb d_MU_init_22 rfl ?_
  refine lv_sipush (v := 900) hx hb d_MU_init_23 (by decide) ?_
  refine zInit hP5 hD5 hS5 hA (va_runI (As := [.int (nI 900)]) (rest := [.ref q19, .ref h0]) ⟨hx, hb, hml, hown, hg⟩ (c_MF_init l D tA q19 H5.size 900 (by decide) (by decide)) (cwI 1 hg (zGood k9_161 rfl) rfl rfl rfl (hg _ k1_19) (hg _ k9_159) (hg _ k9_160) rfl (by decide +kernel) ⟨(Nat.le_of_ble_eq_true rfl), (Nat.le_of_ble_eq_true rfl)⟩) (zPreI hh hK hP5 hD5) rfl rfl hl.1 rfl (lv_room (Nat.le_of_ble_eq_true rfl)) d_MU_init_26 ⟨(Nat.le_of_ble_eq_true rfl), (Nat.le_of_ble_eq_true rfl)⟩) (fun u19 H6 locs6 _ hP6 hD6 hS6 => ?_)
  clear hP5 hD5 hS5
  refine zCons (fun T26 e26 hP7 hD7 => ?_) hP6 hD6
  clear hP6 hD6
  refine va_putF (D := D) (ci := 17) (v := .ref q19) (ty := .object "ChanceArenaModel$Fraction") (C := R_MU) (T := T_MU) (N := 7) hx hb hg i_MU t_MU o_MU n_MU hown hK hP7 hD7 hS6 0 rfl rfl 1 (by decide) (hg _ k9_200) (fun _ h9 => h9) rfl hnm rfl (by decide +kernel) rfl rfl (Nat.le_of_ble_eq_true rfl) d_MU_init_29 (fun H8 locs8 hP8 hD8 hS8 => ?_)
  clear hP7 hD7 hS6
  replace hP8 : va_P D vwCl ((h0, .inr (17, [.ref q5, .ref q19, .null, .null, .null, .null, .null])) :: T26) _ := hP8
  replace hD8 : va_D A ((h0, .inr (17, [.ref q5, .ref q19, .null, .null, .null, .null, .null])) :: T26) := hD8
  refine lv_aload_n hx hb d_MU_init_32 rfl (lv_at hl 0 rfl) ?_
  refine va_new (ci := 19) (fs := [.null, .int 0]) (C := R_MW) (T := T_MW) (N := 2) hx hb hg i_MW t_MW o_MW hown (hg _ k9_196) (hg _ k9_164) (hg _ k1_20) hK hP8 hD8 hS8 hA rfl f_MW (Nat.le_of_ble_eq_true rfl) (Nat.le_of_ble_eq_true rfl) d_MU_init_33 (fun q33 H9 hP9 hD9 hS9 => ?_)
  clear hP8 hD8 hS8
  refine lv_dup hx hb d_MU_init_36 rfl ?_
  refine lv_sipush (v := 900) hx hb d_MU_init_37 (by decide) ?_
  refine zInit hP9 hD9 hS9 hA (va_runI (As := [.int (nI 900)]) (rest := [.ref q33, .ref h0]) ⟨hx, hb, hml, hown, hg⟩ (c_MW_init l D tA q33 H9.size 900 (by decide)) (cwI 1 hg (zGood k9_167 rfl) rfl rfl rfl (hg _ k1_20) (hg _ k9_197) (hg _ k9_166) rfl (by decide +kernel) ⟨(Nat.le_of_ble_eq_true rfl), (Nat.le_of_ble_eq_true rfl)⟩) (zPreI hh hK hP9 hD9) rfl rfl hl.1 rfl (lv_room (Nat.le_of_ble_eq_true rfl)) d_MU_init_40 ⟨(Nat.le_of_ble_eq_true rfl), (Nat.le_of_ble_eq_true rfl)⟩) (fun u33 H10 locs10 _ hP10 hD10 hS10 => ?_)
  clear hP9 hD9 hS9
  refine zCons (fun T40 e40 hP11 hD11 => ?_) hP10 hD10
  clear hP10 hD10
  refine va_putF (D := D) (ci := 17) (v := .ref q33) (ty := .object "ChanceArenaModel$Whole") (C := R_MU) (T := T_MU) (N := 7) hx hb hg i_MU t_MU o_MU n_MU hown hK hP11 hD11 hS10 0 rfl rfl 2 (by decide) (hg _ k9_201) (fun _ h9 => h9) rfl hnm rfl (by decide +kernel) rfl rfl (Nat.le_of_ble_eq_true rfl) d_MU_init_43 (fun H12 locs12 hP12 hD12 hS12 => ?_)
  clear hP11 hD11 hS10
  replace hP12 : va_P D vwCl ((h0, .inr (17, [.ref q5, .ref q19, .ref q33, .null, .null, .null, .null])) :: T40) _ := hP12
  replace hD12 : va_D A ((h0, .inr (17, [.ref q5, .ref q19, .ref q33, .null, .null, .null, .null])) :: T40) := hD12
  refine lv_aload_n hx hb d_MU_init_46 rfl (lv_at hl 0 rfl) ?_
  refine va_new (ci := 19) (fs := [.null, .int 0]) (C := R_MW) (T := T_MW) (N := 2) hx hb hg i_MW t_MW o_MW hown (hg _ k9_196) (hg _ k9_164) (hg _ k1_20) hK hP12 hD12 hS12 hA rfl f_MW (Nat.le_of_ble_eq_true rfl) (Nat.le_of_ble_eq_true rfl) d_MU_init_47 (fun q47 H13 hP13 hD13 hS13 => ?_)
  clear hP12 hD12 hS12
  refine lv_dup hx hb d_MU_init_50 rfl ?_
  refine lv_sipush (v := 900) hx hb d_MU_init_51 (by decide) ?_
  refine zInit hP13 hD13 hS13 hA (va_runI (As := [.int (nI 900)]) (rest := [.ref q47, .ref h0]) ⟨hx, hb, hml, hown, hg⟩ (c_MW_init l D tA q47 H13.size 900 (by decide)) (cwI 1 hg (zGood k9_167 rfl) rfl rfl rfl (hg _ k1_20) (hg _ k9_197) (hg _ k9_166) rfl (by decide +kernel) ⟨(Nat.le_of_ble_eq_true rfl), (Nat.le_of_ble_eq_true rfl)⟩) (zPreI hh hK hP13 hD13) rfl rfl hl.1 rfl (lv_room (Nat.le_of_ble_eq_true rfl)) d_MU_init_54 ⟨(Nat.le_of_ble_eq_true rfl), (Nat.le_of_ble_eq_true rfl)⟩) (fun u47 H14 locs14 _ hP14 hD14 hS14 => ?_)
  clear hP13 hD13 hS13
  refine zCons (fun T54 e54 hP15 hD15 => ?_) hP14 hD14
  clear hP14 hD14
  refine va_putF (D := D) (ci := 17) (v := .ref q47) (ty := .object "ChanceArenaModel$Whole") (C := R_MU) (T := T_MU) (N := 7) hx hb hg i_MU t_MU o_MU n_MU hown hK hP15 hD15 hS14 0 rfl rfl 3 (by decide) (hg _ k9_202) (fun _ h9 => h9) rfl hnm rfl (by decide +kernel) rfl rfl (Nat.le_of_ble_eq_true rfl) d_MU_init_57 (fun H16 locs16 hP16 hD16 hS16 => ?_)
  clear hP15 hD15 hS14
  replace hP16 : va_P D vwCl ((h0, .inr (17, [.ref q5, .ref q19, .ref q33, .ref q47, .null, .null, .null])) :: T54) _ := hP16
  replace hD16 : va_D A ((h0, .inr (17, [.ref q5, .ref q19, .ref q33, .ref q47, .null, .null, .null])) :: T54) := hD16
  refine lv_aload_n hx hb d_MU_init_60 rfl (lv_at hl 0 rfl) ?_
  refine va_new (ci := 19) (fs := [.null, .int 0]) (C := R_MW) (T := T_MW) (N := 2) hx hb hg i_MW t_MW o_MW hown (hg _ k9_196) (hg _ k9_164) (hg _ k1_20) hK hP16 hD16 hS16 hA rfl f_MW (Nat.le_of_ble_eq_true rfl) (Nat.le_of_ble_eq_true rfl) d_MU_init_61 (fun q61 H17 hP17 hD17 hS17 => ?_)
  clear hP16 hD16 hS16
  refine lv_dup hx hb d_MU_init_64 rfl ?_
  refine lv_sipush (v := 900) hx hb d_MU_init_65 (by decide) ?_
  refine zInit hP17 hD17 hS17 hA (va_runI (As := [.int (nI 900)]) (rest := [.ref q61, .ref h0]) ⟨hx, hb, hml, hown, hg⟩ (c_MW_init l D tA q61 H17.size 900 (by decide)) (cwI 1 hg (zGood k9_167 rfl) rfl rfl rfl (hg _ k1_20) (hg _ k9_197) (hg _ k9_166) rfl (by decide +kernel) ⟨(Nat.le_of_ble_eq_true rfl), (Nat.le_of_ble_eq_true rfl)⟩) (zPreI hh hK hP17 hD17) rfl rfl hl.1 rfl (lv_room (Nat.le_of_ble_eq_true rfl)) d_MU_init_68 ⟨(Nat.le_of_ble_eq_true rfl), (Nat.le_of_ble_eq_true rfl)⟩) (fun u61 H18 locs18 _ hP18 hD18 hS18 => ?_)
  clear hP17 hD17 hS17
  refine zCons (fun T68 e68 hP19 hD19 => ?_) hP18 hD18
  clear hP18 hD18
  refine va_putF (D := D) (ci := 17) (v := .ref q61) (ty := .object "ChanceArenaModel$Whole") (C := R_MU) (T := T_MU) (N := 7) hx hb hg i_MU t_MU o_MU n_MU hown hK hP19 hD19 hS18 0 rfl rfl 4 (by decide) (hg _ k9_203) (fun _ h9 => h9) rfl hnm rfl (by decide +kernel) rfl rfl (Nat.le_of_ble_eq_true rfl) d_MU_init_71 (fun H20 locs20 hP20 hD20 hS20 => ?_)
  clear hP19 hD19 hS18
  replace hP20 : va_P D vwCl ((h0, .inr (17, [.ref q5, .ref q19, .ref q33, .ref q47, .ref q61, .null, .null])) :: T68) _ := hP20
  replace hD20 : va_D A ((h0, .inr (17, [.ref q5, .ref q19, .ref q33, .ref q47, .ref q61, .null, .null])) :: T68) := hD20
  refine lv_aload_n hx hb d_MU_init_74 rfl (lv_at hl 0 rfl) ?_
  refine va_new (ci := 19) (fs := [.null, .int 0]) (C := R_MW) (T := T_MW) (N := 2) hx hb hg i_MW t_MW o_MW hown (hg _ k9_196) (hg _ k9_164) (hg _ k1_20) hK hP20 hD20 hS20 hA rfl f_MW (Nat.le_of_ble_eq_true rfl) (Nat.le_of_ble_eq_true rfl) d_MU_init_75 (fun q75 H21 hP21 hD21 hS21 => ?_)
  clear hP20 hD20 hS20
  refine lv_dup hx hb d_MU_init_78 rfl ?_
  refine lv_sipush (v := 900) hx hb d_MU_init_79 (by decide) ?_
  refine zInit hP21 hD21 hS21 hA (va_runI (As := [.int (nI 900)]) (rest := [.ref q75, .ref h0]) ⟨hx, hb, hml, hown, hg⟩ (c_MW_init l D tA q75 H21.size 900 (by decide)) (cwI 1 hg (zGood k9_167 rfl) rfl rfl rfl (hg _ k1_20) (hg _ k9_197) (hg _ k9_166) rfl (by decide +kernel) ⟨(Nat.le_of_ble_eq_true rfl), (Nat.le_of_ble_eq_true rfl)⟩) (zPreI hh hK hP21 hD21) rfl rfl hl.1 rfl (lv_room (Nat.le_of_ble_eq_true rfl)) d_MU_init_82 ⟨(Nat.le_of_ble_eq_true rfl), (Nat.le_of_ble_eq_true rfl)⟩) (fun u75 H22 locs22 _ hP22 hD22 hS22 => ?_)
  clear hP21 hD21 hS21
  refine zCons (fun T82 e82 hP23 hD23 => ?_) hP22 hD22
  clear hP22 hD22
  refine va_putF (D := D) (ci := 17) (v := .ref q75) (ty := .object "ChanceArenaModel$Whole") (C := R_MU) (T := T_MU) (N := 7) hx hb hg i_MU t_MU o_MU n_MU hown hK hP23 hD23 hS22 0 rfl rfl 5 (by decide) (hg _ k9_204) (fun _ h9 => h9) rfl hnm rfl (by decide +kernel) rfl rfl (Nat.le_of_ble_eq_true rfl) d_MU_init_85 (fun H24 locs24 hP24 hD24 hS24 => ?_)
  clear hP23 hD23 hS22
  replace hP24 : va_P D vwCl ((h0, .inr (17, [.ref q5, .ref q19, .ref q33, .ref q47, .ref q61, .ref q75, .null])) :: T82) _ := hP24
  replace hD24 : va_D A ((h0, .inr (17, [.ref q5, .ref q19, .ref q33, .ref q47, .ref q61, .ref q75, .null])) :: T82) := hD24
  refine lv_aload_n hx hb d_MU_init_88 rfl (lv_at hl 0 rfl) ?_
  refine va_new (ci := 19) (fs := [.null, .int 0]) (C := R_MW) (T := T_MW) (N := 2) hx hb hg i_MW t_MW o_MW hown (hg _ k9_196) (hg _ k9_164) (hg _ k1_20) hK hP24 hD24 hS24 hA rfl f_MW (Nat.le_of_ble_eq_true rfl) (Nat.le_of_ble_eq_true rfl) d_MU_init_89 (fun q89 H25 hP25 hD25 hS25 => ?_)
  clear hP24 hD24 hS24
  refine lv_dup hx hb d_MU_init_92 rfl ?_
  refine lv_sipush (v := 900) hx hb d_MU_init_93 (by decide) ?_
  refine zInit hP25 hD25 hS25 hA (va_runI (As := [.int (nI 900)]) (rest := [.ref q89, .ref h0]) ⟨hx, hb, hml, hown, hg⟩ (c_MW_init l D tA q89 H25.size 900 (by decide)) (cwI 1 hg (zGood k9_167 rfl) rfl rfl rfl (hg _ k1_20) (hg _ k9_197) (hg _ k9_166) rfl (by decide +kernel) ⟨(Nat.le_of_ble_eq_true rfl), (Nat.le_of_ble_eq_true rfl)⟩) (zPreI hh hK hP25 hD25) rfl rfl hl.1 rfl (lv_room (Nat.le_of_ble_eq_true rfl)) d_MU_init_96 ⟨(Nat.le_of_ble_eq_true rfl), (Nat.le_of_ble_eq_true rfl)⟩) (fun u89 H26 locs26 _ hP26 hD26 hS26 => ?_)
  clear hP25 hD25 hS25
  refine zCons (fun T96 e96 hP27 hD27 => ?_) hP26 hD26
  clear hP26 hD26
  refine va_putF (D := D) (ci := 17) (v := .ref q89) (ty := .object "ChanceArenaModel$Whole") (C := R_MU) (T := T_MU) (N := 7) hx hb hg i_MU t_MU o_MU n_MU hown hK hP27 hD27 hS26 0 rfl rfl 6 (by decide) (hg _ k9_205) (fun _ h9 => h9) rfl hnm rfl (by decide +kernel) rfl rfl (Nat.le_of_ble_eq_true rfl) d_MU_init_99 (fun H28 locs28 hP28 hD28 hS28 => ?_)
  clear hP27 hD27 hS26
  replace hP28 : va_P D vwCl ((h0, .inr (17, [.ref q5, .ref q19, .ref q33, .ref q47, .ref q61, .ref q75, .ref q89])) :: T96) _ := hP28
  replace hD28 : va_D A ((h0, .inr (17, [.ref q5, .ref q19, .ref q33, .ref q47, .ref q61, .ref q75, .ref q89])) :: T96) := hD28
  refine W.cs (cells' := 20) (slots' := 8124) rfl rfl ?_
  exact zVret hx hb hr hlocks hP28 hD28 hS28 ((q5, u5), (q19, u19), (q33, u33), (q47, u47), (q61, u61), (q75, u75), (q89, u89)) trivial (by rw [e96, e82, e68, e54, e40, e26, e12]; rfl) d_MU_init_102
