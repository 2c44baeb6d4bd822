theorem k1_93 : (Jvm.Cond.code ({ cls := "ChanceArena$RuleReader", name := "<init>", desc := "()V" } : Jvm.MethodName) prog_9_method_1_code (1 : Nat) (Option.none : Option Jvm.ClassFile.FieldType)) ∈ lw_R := zR (zk_1 _ (List.mem_of_getElem? (i := 93) (by decide +kernel))) rfl
theorem k1_94 : (Jvm.Cond.methodLink "ChanceArena$RuleReader" (3 : Nat) ({ cls := "java/lang/Object", name := "<init>", desc := "()V" } : Jvm.MethodName)) ∈ lw_R := zR (zk_1 _ (List.mem_of_getElem? (i := 94) (by decide +kernel))) rfl
theorem k1_109 : (Jvm.Cond.fieldLink "ChanceArena$RuleReader" (11 : Nat) "ChanceArena$RuleReader" "open" "[I") ∈ lw_R := zR (zk_1 _ (List.mem_of_getElem? (i := 109) (by decide +kernel))) rfl
theorem k1_110 : (Jvm.Cond.fieldLink "ChanceArena$RuleReader" (15 : Nat) "ChanceArena$RuleReader" "openPlace" "[I") ∈ lw_R := zR (zk_1 _ (List.mem_of_getElem? (i := 110) (by decide +kernel))) rfl
theorem k1_111 : (Jvm.Cond.fieldLink "ChanceArena$RuleReader" (18 : Nat) "ChanceArena$RuleReader" "openOrder" "[I") ∈ lw_R := zR (zk_1 _ (List.mem_of_getElem? (i := 111) (by decide +kernel))) rfl
theorem k1_112 : (Jvm.Cond.fieldLink "ChanceArena$RuleReader" (21 : Nat) "ChanceArena$RuleReader" "openMarks" "[I") ∈ lw_R := zR (zk_1 _ (List.mem_of_getElem? (i := 112) (by decide +kernel))) rfl
theorem k1_114 : (Jvm.Cond.fieldLink "ChanceArena$RuleReader" (24 : Nat) "ChanceArena$RuleReader" "truths" "[Z") ∈ lw_R := zR (zk_1 _ (List.mem_of_getElem? (i := 114) (by decide +kernel))) rfl
theorem k1_116 : (Jvm.Cond.fieldLink "ChanceArena$RuleReader" (28 : Nat) "ChanceArena$RuleReader" "nameWord" "[I") ∈ lw_R := zR (zk_1 _ (List.mem_of_getElem? (i := 116) (by decide +kernel))) rfl
theorem k1_117 : (Jvm.Cond.fieldLink "ChanceArena$RuleReader" (31 : Nat) "ChanceArena$RuleReader" "nameSort" "[I") ∈ lw_R := zR (zk_1 _ (List.mem_of_getElem? (i := 117) (by decide +kernel))) rfl
theorem k1_118 : (Jvm.Cond.fieldLink "ChanceArena$RuleReader" (34 : Nat) "ChanceArena$RuleReader" "nameIndex" "[I") ∈ lw_R := zR (zk_1 _ (List.mem_of_getElem? (i := 118) (by decide +kernel))) rfl
theorem k1_119 : (Jvm.Cond.fieldLink "ChanceArena$RuleReader" (37 : Nat) "ChanceArena$RuleReader" "nameTruth" "[Z") ∈ lw_R := zR (zk_1 _ (List.mem_of_getElem? (i := 119) (by decide +kernel))) rfl
theorem k1_162 : (Jvm.Cond.arrayClass Jvm.ClassFile.FieldType.boolean) ∈ lw_R := zR (zk_1 _ (List.mem_of_getElem? (i := 162) (by decide +kernel))) rfl
theorem k1_167 : (Jvm.Cond.code ({ cls := "ChanceArena$Machine", name := "<init>", desc := "()V" } : Jvm.MethodName) prog_5_method_1_code (1 : Nat) (Option.none : Option Jvm.ClassFile.FieldType)) ∈ lw_R := zR (zk_1 _ (List.mem_of_getElem? (i := 167) (by decide +kernel))) rfl
theorem k1_168 : (Jvm.Cond.methodLink "ChanceArena$Machine" (3 : Nat) ({ cls := "java/lang/Object", name := "<init>", desc := "()V" } : Jvm.MethodName)) ∈ lw_R := zR (zk_1 _ (List.mem_of_getElem? (i := 168) (by decide +kernel))) rfl
theorem k1_178 : (Jvm.Cond.fieldLink "ChanceArena$Machine" (9 : Nat) "ChanceArena$Machine" "numbers" "[I") ∈ lw_R := zR (zk_1 _ (List.mem_of_getElem? (i := 178) (by decide +kernel))) rfl
theorem k1_180 : (Jvm.Cond.fieldLink "ChanceArena$Machine" (15 : Nat) "ChanceArena$Machine" "next" "[I") ∈ lw_R := zR (zk_1 _ (List.mem_of_getElem? (i := 180) (by decide +kernel))) rfl
theorem k1_182 : (Jvm.Cond.fieldLink "ChanceArena$Machine" (18 : Nat) "ChanceArena$Machine" "above" "[I") ∈ lw_R := zR (zk_1 _ (List.mem_of_getElem? (i := 182) (by decide +kernel))) rfl
theorem k1_185 : (Jvm.Cond.fieldLink "ChanceArena$Machine" (21 : Nat) "ChanceArena$Machine" "below" "[I") ∈ lw_R := zR (zk_1 _ (List.mem_of_getElem? (i := 185) (by decide +kernel))) rfl
theorem k1_189 : (Jvm.Cond.fieldLink "ChanceArena$Machine" (24 : Nat) "ChanceArena$Machine" "stamp" "I") ∈ lw_R := zR (zk_1 _ (List.mem_of_getElem? (i := 189) (by decide +kernel))) rfl
theorem k1_190 : (Jvm.Cond.fieldLink "ChanceArena$Machine" (28 : Nat) "ChanceArena$Machine" "stamps" "[I") ∈ lw_R := zR (zk_1 _ (List.mem_of_getElem? (i := 190) (by decide +kernel))) rfl
theorem k1_191 : (Jvm.Cond.fieldLink "ChanceArena$Machine" (31 : Nat) "ChanceArena$Machine" "metAbove" "[I") ∈ lw_R := zR (zk_1 _ (List.mem_of_getElem? (i := 191) (by decide +kernel))) rfl
theorem k1_192 : (Jvm.Cond.fieldLink "ChanceArena$Machine" (34 : Nat) "ChanceArena$Machine" "metBelow" "[I") ∈ lw_R := zR (zk_1 _ (List.mem_of_getElem? (i := 192) (by decide +kernel))) rfl
theorem k1_193 : (Jvm.Cond.fieldLink "ChanceArena$Machine" (37 : Nat) "ChanceArena$Machine" "called" "[I") ∈ lw_R := zR (zk_1 _ (List.mem_of_getElem? (i := 193) (by decide +kernel))) rfl
theorem k1_194 : (Jvm.Cond.fieldLink "ChanceArena$Machine" (40 : Nat) "ChanceArena$Machine" "back" "[I") ∈ lw_R := zR (zk_1 _ (List.mem_of_getElem? (i := 194) (by decide +kernel))) rfl
theorem d_Ma_init_0 : decode prog_5_method_1_code 0 = .ok (.aload_n 0, 1) := dc9_42 (by decide +kernel)
theorem d_Ma_init_1 : decode prog_5_method_1_code 1 = .ok (.invokespecial 3, 3) := dc9_183 (by decide +kernel)
theorem d_Ma_init_4 : decode prog_5_method_1_code 4 = .ok (.aload_n 0, 1) := dc9_42 (by decide +kernel)
theorem d_Ma_init_5 : decode prog_5_method_1_code 5 = .ok (.bipush 12, 2) := dc9_16 (by decide +kernel)
theorem d_Ma_init_7 : decode prog_5_method_1_code 7 = .ok (.newarray .int, 2) := by decide +kernel
theorem d_Ma_init_9 : decode prog_5_method_1_code 9 = .ok (.putfield 9, 3) := dc9_181 (by decide +kernel)
theorem d_Ma_init_12 : decode prog_5_method_1_code 12 = .ok (.aload_n 0, 1) := dc9_42 (by decide +kernel)
theorem d_Ma_init_13 : decode prog_5_method_1_code 13 = .ok (.bipush 12, 2) := dc9_16 (by decide +kernel)
theorem d_Ma_init_15 : decode prog_5_method_1_code 15 = .ok (.newarray .int, 2) := by decide +kernel
theorem d_Ma_init_17 : decode prog_5_method_1_code 17 = .ok (.putfield 15, 3) := dc9_181 (by decide +kernel)
theorem d_Ma_init_20 : decode prog_5_method_1_code 20 = .ok (.aload_n 0, 1) := dc9_42 (by decide +kernel)
theorem d_Ma_init_21 : decode prog_5_method_1_code 21 = .ok (.bipush 64, 2) := dc9_16 (by decide +kernel)
theorem d_Ma_init_23 : decode prog_5_method_1_code 23 = .ok (.newarray .int, 2) := by decide +kernel
theorem d_Ma_init_25 : decode prog_5_method_1_code 25 = .ok (.putfield 18, 3) := dc9_181 (by decide +kernel)
theorem d_Ma_init_28 : decode prog_5_method_1_code 28 = .ok (.aload_n 0, 1) := dc9_42 (by decide +kernel)
theorem d_Ma_init_29 : decode prog_5_method_1_code 29 = .ok (.bipush 64, 2) := dc9_16 (by decide +kernel)
theorem d_Ma_init_31 : decode prog_5_method_1_code 31 = .ok (.newarray .int, 2) := by decide +kernel
theorem d_Ma_init_33 : decode prog_5_method_1_code 33 = .ok (.putfield 21, 3) := dc9_181 (by decide +kernel)
theorem d_Ma_init_36 : decode prog_5_method_1_code 36 = .ok (.aload_n 0, 1) := dc9_42 (by decide +kernel)
theorem d_Ma_init_37 : decode prog_5_method_1_code 37 = .ok (.iconst 0, 1) := dc9_3 (by decide +kernel)
theorem d_Ma_init_38 : decode prog_5_method_1_code 38 = .ok (.putfield 24, 3) := dc9_181 (by decide +kernel)
theorem d_Ma_init_41 : decode prog_5_method_1_code 41 = .ok (.aload_n 0, 1) := dc9_42 (by decide +kernel)
theorem d_Ma_init_42 : decode prog_5_method_1_code 42 = .ok (.bipush 60, 2) := dc9_16 (by decide +kernel)
theorem d_Ma_init_44 : decode prog_5_method_1_code 44 = .ok (.newarray .int, 2) := by decide +kernel
theorem d_Ma_init_46 : decode prog_5_method_1_code 46 = .ok (.putfield 28, 3) := dc9_181 (by decide +kernel)
theorem d_Ma_init_49 : decode prog_5_method_1_code 49 = .ok (.aload_n 0, 1) := dc9_42 (by decide +kernel)
theorem d_Ma_init_50 : decode prog_5_method_1_code 50 = .ok (.bipush 60, 2) := dc9_16 (by decide +kernel)
theorem d_Ma_init_52 : decode prog_5_method_1_code 52 = .ok (.newarray .int, 2) := by decide +kernel
theorem d_Ma_init_54 : decode prog_5_method_1_code 54 = .ok (.putfield 31, 3) := dc9_181 (by decide +kernel)
theorem d_Ma_init_57 : decode prog_5_method_1_code 57 = .ok (.aload_n 0, 1) := dc9_42 (by decide +kernel)
theorem d_Ma_init_58 : decode prog_5_method_1_code 58 = .ok (.bipush 60, 2) := dc9_16 (by decide +kernel)
theorem d_Ma_init_60 : decode prog_5_method_1_code 60 = .ok (.newarray .int, 2) := by decide +kernel
theorem d_Ma_init_62 : decode prog_5_method_1_code 62 = .ok (.putfield 34, 3) := dc9_181 (by decide +kernel)
theorem d_Ma_init_65 : decode prog_5_method_1_code 65 = .ok (.aload_n 0, 1) := dc9_42 (by decide +kernel)
theorem d_Ma_init_66 : decode prog_5_method_1_code 66 = .ok (.bipush 61, 2) := dc9_16 (by decide +kernel)
theorem d_Ma_init_68 : decode prog_5_method_1_code 68 = .ok (.newarray .int, 2) := by decide +kernel
theorem d_Ma_init_70 : decode prog_5_method_1_code 70 = .ok (.putfield 37, 3) := dc9_181 (by decide +kernel)
theorem d_Ma_init_73 : decode prog_5_method_1_code 73 = .ok (.aload_n 0, 1) := dc9_42 (by decide +kernel)
theorem d_Ma_init_74 : decode prog_5_method_1_code 74 = .ok (.bipush 61, 2) := dc9_16 (by decide +kernel)
theorem d_Ma_init_76 : decode prog_5_method_1_code 76 = .ok (.newarray .int, 2) := by decide +kernel
theorem d_Ma_init_78 : decode prog_5_method_1_code 78 = .ok (.putfield 40, 3) := dc9_181 (by decide +kernel)
theorem d_Ma_init_81 : decode prog_5_method_1_code 81 = .ok (.return_, 1) := dc9_177 (by decide +kernel)
theorem d_RR_init_0 : decode prog_9_method_1_code 0 = .ok (.aload_n 0, 1) := dc9_42 (by decide +kernel)
theorem d_RR_init_1 : decode prog_9_method_1_code 1 = .ok (.invokespecial 3, 3) := dc9_183 (by decide +kernel)
theorem d_RR_init_4 : decode prog_9_method_1_code 4 = .ok (.aload_n 0, 1) := dc9_42 (by decide +kernel)
theorem d_RR_init_5 : decode prog_9_method_1_code 5 = .ok (.sipush 336, 3) := dc9_17 (by decide +kernel)
theorem d_RR_init_8 : decode prog_9_method_1_code 8 = .ok (.newarray .int, 2) := by decide +kernel
theorem d_RR_init_10 : decode prog_9_method_1_code 10 = .ok (.putfield 11, 3) := dc9_181 (by decide +kernel)
theorem d_RR_init_13 : decode prog_9_method_1_code 13 = .ok (.aload_n 0, 1) := dc9_42 (by decide +kernel)
theorem d_RR_init_14 : decode prog_9_method_1_code 14 = .ok (.sipush 336, 3) := dc9_17 (by decide +kernel)
theorem d_RR_init_17 : decode prog_9_method_1_code 17 = .ok (.newarray .int, 2) := by decide +kernel
theorem d_RR_init_19 : decode prog_9_method_1_code 19 = .ok (.putfield 15, 3) := dc9_181 (by decide +kernel)
theorem d_RR_init_22 : decode prog_9_method_1_code 22 = .ok (.aload_n 0, 1) := dc9_42 (by decide +kernel)
theorem d_RR_init_23 : decode prog_9_method_1_code 23 = .ok (.sipush 336, 3) := dc9_17 (by decide +kernel)
theorem d_RR_init_26 : decode prog_9_method_1_code 26 = .ok (.newarray .int, 2) := by decide +kernel
theorem d_RR_init_28 : decode prog_9_method_1_code 28 = .ok (.putfield 18, 3) := dc9_181 (by decide +kernel)
theorem d_RR_init_31 : decode prog_9_method_1_code 31 = .ok (.aload_n 0, 1) := dc9_42 (by decide +kernel)
theorem d_RR_init_32 : decode prog_9_method_1_code 32 = .ok (.sipush 336, 3) := dc9_17 (by decide +kernel)
theorem d_RR_init_35 : decode prog_9_method_1_code 35 = .ok (.newarray .int, 2) := by decide +kernel
theorem d_RR_init_37 : decode prog_9_method_1_code 37 = .ok (.putfield 21, 3) := dc9_181 (by decide +kernel)
theorem d_RR_init_40 : decode prog_9_method_1_code 40 = .ok (.aload_n 0, 1) := dc9_42 (by decide +kernel)
theorem d_RR_init_41 : decode prog_9_method_1_code 41 = .ok (.sipush 336, 3) := dc9_17 (by decide +kernel)
theorem d_RR_init_44 : decode prog_9_method_1_code 44 = .ok (.newarray .boolean, 2) := by decide +kernel
theorem d_RR_init_46 : decode prog_9_method_1_code 46 = .ok (.putfield 24, 3) := dc9_181 (by decide +kernel)
theorem d_RR_init_49 : decode prog_9_method_1_code 49 = .ok (.aload_n 0, 1) := dc9_42 (by decide +kernel)
theorem d_RR_init_50 : decode prog_9_method_1_code 50 = .ok (.bipush 72, 2) := dc9_16 (by decide +kernel)
theorem d_RR_init_52 : decode prog_9_method_1_code 52 = .ok (.newarray .int, 2) := by decide +kernel
theorem d_RR_init_54 : decode prog_9_method_1_code 54 = .ok (.putfield 28, 3) := dc9_181 (by decide +kernel)
theorem d_RR_init_57 : decode prog_9_method_1_code 57 = .ok (.aload_n 0, 1) := dc9_42 (by decide +kernel)
theorem d_RR_init_58 : decode prog_9_method_1_code 58 = .ok (.bipush 72, 2) := dc9_16 (by decide +kernel)
theorem d_RR_init_60 : decode prog_9_method_1_code 60 = .ok (.newarray .int, 2) := by decide +kernel
theorem d_RR_init_62 : decode prog_9_method_1_code 62 = .ok (.putfield 31, 3) := dc9_181 (by decide +kernel)
theorem d_RR_init_65 : decode prog_9_method_1_code 65 = .ok (.aload_n 0, 1) := dc9_42 (by decide +kernel)
theorem d_RR_init_66 : decode prog_9_method_1_code 66 = .ok (.bipush 72, 2) := dc9_16 (by decide +kernel)
theorem d_RR_init_68 : decode prog_9_method_1_code 68 = .ok (.newarray .int, 2) := by decide +kernel
theorem d_RR_init_70 : decode prog_9_method_1_code 70 = .ok (.putfield 34, 3) := dc9_181 (by decide +kernel)
theorem d_RR_init_73 : decode prog_9_method_1_code 73 = .ok (.aload_n 0, 1) := dc9_42 (by decide +kernel)
theorem d_RR_init_74 : decode prog_9_method_1_code 74 = .ok (.bipush 72, 2) := dc9_16 (by decide +kernel)
theorem d_RR_init_76 : decode prog_9_method_1_code 76 = .ok (.newarray .boolean, 2) := by decide +kernel
theorem d_RR_init_78 : decode prog_9_method_1_code 78 = .ok (.putfield 37, 3) := dc9_181 (by decide +kernel)
theorem d_RR_init_81 : decode prog_9_method_1_code 81 = .ok (.return_, 1) := dc9_177 (by decide +kernel)
abbrev S_Ma : Type := Nat × Nat × Nat × Nat × Nat × Nat × Nat × Nat × Nat
def w_Ma (tA : Nat → ClassId) (h0 : Nat) (u : S_Ma) : va_W := match u with
  | (q7, q15, q23, q31, q44, q52, q60, q68, q76) => (h0, .inr (4, [.null, .int 0, .int 0, .ref q7, .int 0, .ref q15, .ref q23, .ref q31, .int 0, .int 0, .ref q44, .ref q52, .ref q60, .ref q68, .ref q76, .int 0])) :: ([] ++ [(q7, .inl (tA 0, 12, .inl (fun _ => 0)))] ++ [(q15, .inl (tA 0, 12, .inl (fun _ => 0)))] ++ [(q23, .inl (tA 0, 64, .inl (fun _ => 0)))] ++ [(q31, .inl (tA 0, 64, .inl (fun _ => 0)))] ++ [(q44, .inl (tA 0, 60, .inl (fun _ => 0)))] ++ [(q52, .inl (tA 0, 60, .inl (fun _ => 0)))] ++ [(q60, .inl (tA 0, 60, .inl (fun _ => 0)))] ++ [(q68, .inl (tA 0, 61, .inl (fun _ => 0)))] ++ [(q76, .inl (tA 0, 61, .inl (fun _ => 0)))])
theorem f_Ma : ∀ j, j < 16 → defaultValue (t_Ma j) = vp_V [.null, .int 0, .int 0, .null, .int 0, .null, .null, .null, .int 0, .int 0, .null, .null, .null, .null, .null, .int 0] j := by decide +kernel
set_option maxHeartbeats 4000000 in
set_option maxRecDepth 100000 in
theorem c_Ma_init (l : Launch) (D : va_G) (tA : Nat → ClassId) (h0 sz : Nat) : zMv l ({ cls := "ChanceArena$Machine", name := "<init>", desc := "()V" } : Jvm.MethodName) (zW (Jvm.Cond.code ({ cls := "ChanceArena$Machine", name := "<init>", desc := "()V" } : Jvm.MethodName) prog_5_method_1_code (1 : Nat) (Option.none : Option Jvm.ClassFile.FieldType))) { frames := 1, cells := 9, slots := 454, locals := 12 } [.ref h0] D tA [(h0, .inr (4, [.null, .int 0, .int 0, .null, .int 0, .null, .null, .null, .int 0, .int 0, .null, .null, .null, .null, .null, .int 0]))] sz (fun _ : S_Ma => True) (w_Ma tA h0) 9 454 := by
  refine zOpen (fun A => va_Qv _ (zPost D A (w_Ma tA h0)) A) (lv := [(0, .ref h0)]) (by decide) rfl (Nat.le_of_ble_eq_true rfl) rfl ?_
  intro p e s m below meth c A ls hx hb hr hml hh hg hown hlocks hnm hK hA hP hD0 hAw hS hl
  have hD := zD hD0 hAw
  refine lv_aload_n hx hb d_Ma_init_0 rfl (lv_at hl 0 rfl) ?_
  refine W.objInit hx hb hown (hg _ k1_168) (hg _ k1_46) (hg _ k1_47) rfl (by rw [hml]; exact hl.1) rfl d_Ma_init_1 (Nat.le_of_ble_eq_true rfl) (Nat.le_of_ble_eq_true rfl) ?_
  refine lv_aload_n hx hb d_Ma_init_4 rfl (lv_at hl 0 rfl) ?_
  refine lv_bipush (v := 12) hx hb d_Ma_init_5 (by decide) ?_
  refine zNewa (atype := .int) (ty := .int) (a0 := (12, .inl (fun _ => 0))) (N' := 12) hx hb rfl (hg _ k1_82) hK hP hD hS hA 0 rfl (fun _ h => by cases h) (fun _ => rfl) (by decide) (by decide) (by decide) (Nat.le_of_ble_eq_true rfl) (Nat.le_of_ble_eq_true rfl) d_Ma_init_7 (fun q7 H1 hP1 hD1 hS1 => ?_)
  clear hP hD hS
  refine zCons (fun T7 e7 hP2 hD2 => ?_) hP1 hD1
  clear hP1 hD1
  refine va_put (D := D) (ci := 4) (v := .ref q7) (ty := .array .int) (C := R_Ma) (T := T_Ma) (N := 16) hx hb hg i_Ma t_Ma o_Ma n_Ma hown hK hP2 hD2 hS1 0 rfl rfl 3 (by decide) (hg _ k1_178) (fun _ h9 => h9) rfl (by decide +kernel) rfl rfl (Nat.le_of_ble_eq_true rfl) d_Ma_init_9 (fun H3 locs3 hP3 hD3 hS3 => ?_)
  clear hP2 hD2 hS1
  replace hP3 : va_P D vwCl ((h0, .inr (4, [.null, .int 0, .int 0, .ref q7, .int 0, .null, .null, .null, .int 0, .int 0, .null, .null, .null, .null, .null, .int 0])) :: T7) _ := hP3
  replace hD3 : va_D A ((h0, .inr (4, [.null, .int 0, .int 0, .ref q7, .int 0, .null, .null, .null, .int 0, .int 0, .null, .null, .null, .null, .null, .int 0])) :: T7) := hD3
  refine lv_aload_n hx hb d_Ma_init_12 rfl (lv_at hl 0 rfl) ?_
  refine lv_bipush (v := 12) hx hb d_Ma_init_13 (by decide) ?_
  refine zNewa (atype := .int) (ty := .int) (a0 := (12, .inl (fun _ => 0))) (N' := 12) hx hb rfl (hg _ k1_82) hK hP3 hD3 hS3 hA 0 rfl (fun _ h => by cases h) (fun _ => rfl) (by decide) (by decide) (by decide) (Nat.le_of_ble_eq_true rfl) (Nat.le_of_ble_eq_true rfl) d_Ma_init_15 (fun q15 H4 hP4 hD4 hS4 => ?_)
  clear hP3 hD3 hS3
  refine zCons (fun T15 e15 hP5 hD5 => ?_) hP4 hD4
  clear hP4 hD4
  refine va_putF (D := D) (ci := 4) (v := .ref q15) (ty := .array .int) (C := R_Ma) (T := T_Ma) (N := 16) hx hb hg i_Ma t_Ma o_Ma n_Ma hown hK hP5 hD5 hS4 0 rfl rfl 5 (by decide) (hg _ k1_180) (fun _ h9 => h9) rfl hnm rfl (by decide +kernel) rfl rfl (Nat.le_of_ble_eq_true rfl) d_Ma_init_17 (fun H6 locs6 hP6 hD6 hS6 => ?_)
  clear hP5 hD5 hS4
  replace hP6 : va_P D vwCl ((h0, .inr (4, [.null, .int 0, .int 0, .ref q7, .int 0, .ref q15, .null, .null, .int 0, .int 0, .null, .null, .null, .null, .null, .int 0])) :: T15) _ := hP6
  replace hD6 : va_D A ((h0, .inr (4, [.null, .int 0, .int 0, .ref q7, .int 0, .ref q15, .null, .null, .int 0, .int 0, .null, .null, .null, .null, .null, .int 0])) :: T15) := hD6
  refine lv_aload_n hx hb d_Ma_init_20 rfl (lv_at hl 0 rfl) ?_
  refine lv_bipush (v := 64) hx hb d_Ma_init_21 (by decide) ?_
  refine zNewa (atype := .int) (ty := .int) (a0 := (64, .inl (fun _ => 0))) (N' := 64) hx hb rfl (hg _ k1_82) hK hP6 hD6 hS6 hA 0 rfl (fun _ h => by cases h) (fun _ => rfl) (by decide) (by decide) (by decide) (Nat.le_of_ble_eq_true rfl) (Nat.le_of_ble_eq_true rfl) d_Ma_init_23 (fun q23 H7 hP7 hD7 hS7 => ?_)
  clear hP6 hD6 hS6
  refine zCons (fun T23 e23 hP8 hD8 => ?_) hP7 hD7
  clear hP7 hD7
  refine va_put (D := D) (ci := 4) (v := .ref q23) (ty := .array .int) (C := R_Ma) (T := T_Ma) (N := 16) hx hb hg i_Ma t_Ma o_Ma n_Ma hown hK hP8 hD8 hS7 0 rfl rfl 6 (by decide) (hg _ k1_182) (fun _ h9 => h9) rfl (by decide +kernel) rfl rfl (Nat.le_of_ble_eq_true rfl) d_Ma_init_25 (fun H9 locs9 hP9 hD9 hS9 => ?_)
  clear hP8 hD8 hS7
  replace hP9 : va_P D vwCl ((h0, .inr (4, [.null, .int 0, .int 0, .ref q7, .int 0, .ref q15, .ref q23, .null, .int 0, .int 0, .null, .null, .null, .null, .null, .int 0])) :: T23) _ := hP9
  replace hD9 : va_D A ((h0, .inr (4, [.null, .int 0, .int 0, .ref q7, .int 0, .ref q15, .ref q23, .null, .int 0, .int 0, .null, .null, .null, .null, .null, .int 0])) :: T23) := hD9
  refine lv_aload_n hx hb d_Ma_init_28 rfl (lv_at hl 0 rfl) ?_
  refine lv_bipush (v := 64) hx hb d_Ma_init_29 (by decide) ?_
  refine zNewa (atype := .int) (ty := .int) (a0 := (64, .inl (fun _ => 0))) (N' := 64) hx hb rfl (hg _ k1_82) hK hP9 hD9 hS9 hA 0 rfl (fun _ h => by cases h) (fun _ => rfl) (by decide) (by decide) (by decide) (Nat.le_of_ble_eq_true rfl) (Nat.le_of_ble_eq_true rfl) d_Ma_init_31 (fun q31 H10 hP10 hD10 hS10 => ?_)
  clear hP9 hD9 hS9
  refine zCons (fun T31 e31 hP11 hD11 => ?_) hP10 hD10
  clear hP10 hD10
  refine va_put (D := D) (ci := 4) (v := .ref q31) (ty := .array .int) (C := R_Ma) (T := T_Ma) (N := 16) hx hb hg i_Ma t_Ma o_Ma n_Ma hown hK hP11 hD11 hS10 0 rfl rfl 7 (by decide) (hg _ k1_185) (fun _ h9 => h9) rfl (by decide +kernel) rfl rfl (Nat.le_of_ble_eq_true rfl) d_Ma_init_33 (fun H12 locs12 hP12 hD12 hS12 => ?_)
  clear hP11 hD11 hS10
  replace hP12 : va_P D vwCl ((h0, .inr (4, [.null, .int 0, .int 0, .ref q7, .int 0, .ref q15, .ref q23, .ref q31, .int 0, .int 0, .null, .null, .null, .null, .null, .int 0])) :: T31) _ := hP12
  replace hD12 : va_D A ((h0, .inr (4, [.null, .int 0, .int 0, .ref q7, .int 0, .ref q15, .ref q23, .ref q31, .int 0, .int 0, .null, .null, .null, .null, .null, .int 0])) :: T31) := hD12
  refine lv_aload_n hx hb d_Ma_init_36 rfl (lv_at hl 0 rfl) ?_
  refine lv_iconst (v := 0) hx hb d_Ma_init_37 (by decide) ?_
  refine va_put (D := D) (ci := 4) (v := .int 0) (ty := .int) (C := R_Ma) (T := T_Ma) (N := 16) hx hb hg i_Ma t_Ma o_Ma n_Ma hown hK hP12 hD12 hS12 0 rfl rfl 9 (by decide) (hg _ k1_189) (fun _ h9 => h9) rfl (by decide +kernel) rfl rfl (Nat.le_of_ble_eq_true rfl) d_Ma_init_38 (fun H13 locs13 hP13 hD13 hS13 => ?_)
  clear hP12 hD12 hS12
  replace hP13 : va_P D vwCl ((h0, .inr (4, [.null, .int 0, .int 0, .ref q7, .int 0, .ref q15, .ref q23, .ref q31, .int 0, .int 0, .null, .null, .null, .null, .null, .int 0])) :: T31) _ := hP13
  replace hD13 : va_D A ((h0, .inr (4, [.null, .int 0, .int 0, .ref q7, .int 0, .ref q15, .ref q23, .ref q31, .int 0, .int 0, .null, .null, .null, .null, .null, .int 0])) :: T31) := hD13
  refine lv_aload_n hx hb d_Ma_init_41 rfl (lv_at hl 0 rfl) ?_
  refine lv_bipush (v := 60) hx hb d_Ma_init_42 (by decide) ?_
  refine zNewa (atype := .int) (ty := .int) (a0 := (60, .inl (fun _ => 0))) (N' := 60) hx hb rfl (hg _ k1_82) hK hP13 hD13 hS13 hA 0 rfl (fun _ h => by cases h) (fun _ => rfl) (by decide) (by decide) (by decide) (Nat.le_of_ble_eq_true rfl) (Nat.le_of_ble_eq_true rfl) d_Ma_init_44 (fun q44 H14 hP14 hD14 hS14 => ?_)
  clear hP13 hD13 hS13
  refine zCons (fun T44 e44 hP15 hD15 => ?_) hP14 hD14
  clear hP14 hD14
  refine va_putF (D := D) (ci := 4) (v := .ref q44) (ty := .array .int) (C := R_Ma) (T := T_Ma) (N := 16) hx hb hg i_Ma t_Ma o_Ma n_Ma hown hK hP15 hD15 hS14 0 rfl rfl 10 (by decide) (hg _ k1_190) (fun _ h9 => h9) rfl hnm rfl (by decide +kernel) rfl rfl (Nat.le_of_ble_eq_true rfl) d_Ma_init_46 (fun H16 locs16 hP16 hD16 hS16 => ?_)
  clear hP15 hD15 hS14
  replace hP16 : va_P D vwCl ((h0, .inr (4, [.null, .int 0, .int 0, .ref q7, .int 0, .ref q15, .ref q23, .ref q31, .int 0, .int 0, .ref q44, .null, .null, .null, .null, .int 0])) :: T44) _ := hP16
  replace hD16 : va_D A ((h0, .inr (4, [.null, .int 0, .int 0, .ref q7, .int 0, .ref q15, .ref q23, .ref q31, .int 0, .int 0, .ref q44, .null, .null, .null, .null, .int 0])) :: T44) := hD16
  refine lv_aload_n hx hb d_Ma_init_49 rfl (lv_at hl 0 rfl) ?_
  refine lv_bipush (v := 60) hx hb d_Ma_init_50 (by decide) ?_
  refine zNewa (atype := .int) (ty := .int) (a0 := (60, .inl (fun _ => 0))) (N' := 60) hx hb rfl (hg _ k1_82) hK hP16 hD16 hS16 hA 0 rfl (fun _ h => by cases h) (fun _ => rfl) (by decide) (by decide) (by decide) (Nat.le_of_ble_eq_true rfl) (Nat.le_of_ble_eq_true rfl) d_Ma_init_52 (fun q52 H17 hP17 hD17 hS17 => ?_)
  clear hP16 hD16 hS16
  refine zCons (fun T52 e52 hP18 hD18 => ?_) hP17 hD17
  clear hP17 hD17
  refine va_putF (D := D) (ci := 4) (v := .ref q52) (ty := .array .int) (C := R_Ma) (T := T_Ma) (N := 16) hx hb hg i_Ma t_Ma o_Ma n_Ma hown hK hP18 hD18 hS17 0 rfl rfl 11 (by decide) (hg _ k1_191) (fun _ h9 => h9) rfl hnm rfl (by decide +kernel) rfl rfl (Nat.le_of_ble_eq_true rfl) d_Ma_init_54 (fun H19 locs19 hP19 hD19 hS19 => ?_)
  clear hP18 hD18 hS17
  replace hP19 : va_P D vwCl ((h0, .inr (4, [.null, .int 0, .int 0, .ref q7, .int 0, .ref q15, .ref q23, .ref q31, .int 0, .int 0, .ref q44, .ref q52, .null, .null, .null, .int 0])) :: T52) _ := hP19
  replace hD19 : va_D A ((h0, .inr (4, [.null, .int 0, .int 0, .ref q7, .int 0, .ref q15, .ref q23, .ref q31, .int 0, .int 0, .ref q44, .ref q52, .null, .null, .null, .int 0])) :: T52) := hD19
  refine lv_aload_n hx hb d_Ma_init_57 rfl (lv_at hl 0 rfl) ?_
  refine lv_bipush (v := 60) hx hb d_Ma_init_58 (by decide) ?_
  refine zNewa (atype := .int) (ty := .int) (a0 := (60, .inl (fun _ => 0))) (N' := 60) hx hb rfl (hg _ k1_82) hK hP19 hD19 hS19 hA 0 rfl (fun _ h => by cases h) (fun _ => rfl) (by decide) (by decide) (by decide) (Nat.le_of_ble_eq_true rfl) (Nat.le_of_ble_eq_true rfl) d_Ma_init_60 (fun q60 H20 hP20 hD20 hS20 => ?_)
  clear hP19 hD19 hS19
  refine zCons (fun T60 e60 hP21 hD21 => ?_) hP20 hD20
  clear hP20 hD20
  refine va_putF (D := D) (ci := 4) (v := .ref q60) (ty := .array .int) (C := R_Ma) (T := T_Ma) (N := 16) hx hb hg i_Ma t_Ma o_Ma n_Ma hown hK hP21 hD21 hS20 0 rfl rfl 12 (by decide) (hg _ k1_192) (fun _ h9 => h9) rfl hnm rfl (by decide +kernel) rfl rfl (Nat.le_of_ble_eq_true rfl) d_Ma_init_62 (fun H22 locs22 hP22 hD22 hS22 => ?_)
  clear hP21 hD21 hS20
  replace hP22 : va_P D vwCl ((h0, .inr (4, [.null, .int 0, .int 0, .ref q7, .int 0, .ref q15, .ref q23, .ref q31, .int 0, .int 0, .ref q44, .ref q52, .ref q60, .null, .null, .int 0])) :: T60) _ := hP22
  replace hD22 : va_D A ((h0, .inr (4, [.null, .int 0, .int 0, .ref q7, .int 0, .ref q15, .ref q23, .ref q31, .int 0, .int 0, .ref q44, .ref q52, .ref q60, .null, .null, .int 0])) :: T60) := hD22
  refine lv_aload_n hx hb d_Ma_init_65 rfl (lv_at hl 0 rfl) ?_
  refine lv_bipush (v := 61) hx hb d_Ma_init_66 (by decide) ?_
  refine zNewa (atype := .int) (ty := .int) (a0 := (61, .inl (fun _ => 0))) (N' := 61) hx hb rfl (hg _ k1_82) hK hP22 hD22 hS22 hA 0 rfl (fun _ h => by cases h) (fun _ => rfl) (by decide) (by decide) (by decide) (Nat.le_of_ble_eq_true rfl) (Nat.le_of_ble_eq_true rfl) d_Ma_init_68 (fun q68 H23 hP23 hD23 hS23 => ?_)
  clear hP22 hD22 hS22
  refine zCons (fun T68 e68 hP24 hD24 => ?_) hP23 hD23
  clear hP23 hD23
  refine va_putF (D := D) (ci := 4) (v := .ref q68) (ty := .array .int) (C := R_Ma) (T := T_Ma) (N := 16) hx hb hg i_Ma t_Ma o_Ma n_Ma hown hK hP24 hD24 hS23 0 rfl rfl 13 (by decide) (hg _ k1_193) (fun _ h9 => h9) rfl hnm rfl (by decide +kernel) rfl rfl (Nat.le_of_ble_eq_true rfl) d_Ma_init_70 (fun H25 locs25 hP25 hD25 hS25 => ?_)
  clear hP24 hD24 hS23
  replace hP25 : va_P D vwCl ((h0, .inr (4, [.null, .int 0, .int 0, .ref q7, .int 0, .ref q15, .ref q23, .ref q31, .int 0, .int 0, .ref q44, .ref q52, .ref q60, .ref q68, .null, .int 0])) :: T68) _ := hP25
  replace hD25 : va_D A ((h0, .inr (4, [.null, .int 0, .int 0, .ref q7, .int 0, .ref q15, .ref q23, .ref q31, .int 0, .int 0, .ref q44, .ref q52, .ref q60, .ref q68, .null, .int 0])) :: T68) := hD25
  refine lv_aload_n hx hb d_Ma_init_73 rfl (lv_at hl 0 rfl) ?_
  refine lv_bipush (v := 61) hx hb d_Ma_init_74 (by decide) ?_
  refine zNewa (atype := .int) (ty := .int) (a0 := (61, .inl (fun _ => 0))) (N' := 61) hx hb rfl (hg _ k1_82) hK hP25 hD25 hS25 hA 0 rfl (fun _ h => by cases h) (fun _ => rfl) (by decide) (by decide) (by decide) (Nat.le_of_ble_eq_true rfl) (Nat.le_of_ble_eq_true rfl) d_Ma_init_76 (fun q76 H26 hP26 hD26 hS26 => ?_)
  clear hP25 hD25 hS25
  refine zCons (fun T76 e76 hP27 hD27 => ?_) hP26 hD26
  clear hP26 hD26
  refine va_putF (D := D) (ci := 4) (v := .ref q76) (ty := .array .int) (C := R_Ma) (T := T_Ma) (N := 16) hx hb hg i_Ma t_Ma o_Ma n_Ma hown hK hP27 hD27 hS26 0 rfl rfl 14 (by decide) (hg _ k1_194) (fun _ h9 => h9) rfl hnm rfl (by decide +kernel) rfl rfl (Nat.le_of_ble_eq_true rfl) d_Ma_init_78 (fun H28 locs28 hP28 hD28 hS28 => ?_)
  clear hP27 hD27 hS26
  replace hP28 : va_P D vwCl ((h0, .inr (4, [.null, .int 0, .int 0, .ref q7, .int 0, .ref q15, .ref q23, .ref q31, .int 0, .int 0, .ref q44, .ref q52, .ref q60, .ref q68, .ref q76, .int 0])) :: T76) _ := hP28
  replace hD28 : va_D A ((h0, .inr (4, [.null, .int 0, .int 0, .ref q7, .int 0, .ref q15, .ref q23, .ref q31, .int 0, .int 0, .ref q44, .ref q52, .ref q60, .ref q68, .ref q76, .int 0])) :: T76) := hD28
  refine W.cs (cells' := 9) (slots' := 454) rfl rfl ?_
  exact zVret hx hb hr hlocks hP28 hD28 hS28 (q7, q15, q23, q31, q44, q52, q60, q68, q76) trivial (by rw [e76, e68, e60, e52, e44, e31, e23, e15, e7]; rfl) d_Ma_init_81
abbrev S_RR : Type := Nat × Nat × Nat × Nat × Nat × Nat × Nat × Nat × Nat
def w_RR (tA : Nat → ClassId) (h0 : Nat) (u : S_RR) : va_W := match u with
  | (q8, q17, q26, q35, q44, q52, q60, q68, q76) => (h0, .inr (3, [.null, .null, .int 0, .int 0, .int 0, .int 0, .int 0, .int 0, .ref q8, .ref q17, .ref q26, .ref q35, .int 0, .ref q44, .int 0, .ref q52, .ref q60, .ref q68, .ref q76, .int 0])) :: ([] ++ [(q8, .inl (tA 0, 336, .inl (fun _ => 0)))] ++ [(q17, .inl (tA 0, 336, .inl (fun _ => 0)))] ++ [(q26, .inl (tA 0, 336, .inl (fun _ => 0)))] ++ [(q35, .inl (tA 0, 336, .inl (fun _ => 0)))] ++ [(q44, .inl (tA 1, 336, .inl (fun _ => 0)))] ++ [(q52, .inl (tA 0, 72, .inl (fun _ => 0)))] ++ [(q60, .inl (tA 0, 72, .inl (fun _ => 0)))] ++ [(q68, .inl (tA 0, 72, .inl (fun _ => 0)))] ++ [(q76, .inl (tA 1, 72, .inl (fun _ => 0)))])
theorem f_RR : ∀ j, j < 20 → defaultValue (t_RR j) = vp_V [.null, .null, .int 0, .int 0, .int 0, .int 0, .int 0, .int 0, .null, .null, .null, .null, .int 0, .null, .int 0, .null, .null, .null, .null, .int 0] j := by decide +kernel
set_option maxHeartbeats 4000000 in
set_option maxRecDepth 100000 in
theorem c_RR_init (l : Launch) (D : va_G) (tA : Nat → ClassId) (h0 sz : Nat) : zMv l ({ cls := "ChanceArena$RuleReader", name := "<init>", desc := "()V" } : Jvm.MethodName) (zW (Jvm.Cond.code ({ cls := "ChanceArena$RuleReader", name := "<init>", desc := "()V" } : Jvm.MethodName) prog_9_method_1_code (1 : Nat) (Option.none : Option Jvm.ClassFile.FieldType))) { frames := 1, cells := 9, slots := 1968, locals := 12 } [.ref h0] D tA [(h0, .inr (3, [.null, .null, .int 0, .int 0, .int 0, .int 0, .int 0, .int 0, .null, .null, .null, .null, .int 0, .null, .int 0, .null, .null, .null, .null, .int 0]))] sz (fun _ : S_RR => True) (w_RR tA h0) 9 1968 := by
  refine zOpen (fun A => va_Qv _ (zPost D A (w_RR tA h0)) A) (lv := [(0, .ref h0)]) (by decide) rfl (Nat.le_of_ble_eq_true rfl) rfl ?_
  intro p e s m below meth c A ls hx hb hr hml hh hg hown hlocks hnm hK hA hP hD0 hAw hS hl
  have hD := zD hD0 hAw
  refine lv_aload_n hx hb d_RR_init_0 rfl (lv_at hl 0 rfl) ?_
  refine W.objInit hx hb hown (hg _ k1_94) (hg _ k1_46) (hg _ k1_47) rfl (by rw [hml]; exact hl.1) rfl d_RR_init_1 (Nat.le_of_ble_eq_true rfl) (Nat.le_of_ble_eq_true rfl) ?_
  refine lv_aload_n hx hb d_RR_init_4 rfl (lv_at hl 0 rfl) ?_
  refine lv_sipush (v := 336) hx hb d_RR_init_5 (by decide) ?_
  refine zNewa (atype := .int) (ty := .int) (a0 := (336, .inl (fun _ => 0))) (N' := 336) hx hb rfl (hg _ k1_82) hK hP hD hS hA 0 rfl (fun _ h => by cases h) (fun _ => rfl) (by decide) (by decide) (by decide) (Nat.le_of_ble_eq_true rfl) (Nat.le_of_ble_eq_true rfl) d_RR_init_8 (fun q8 H1 hP1 hD1 hS1 => ?_)
  clear hP hD hS
  refine zCons (fun T8 e8 hP2 hD2 => ?_) hP1 hD1
  clear hP1 hD1
  refine va_putF (D := D) (ci := 3) (v := .ref q8) (ty := .array .int) (C := R_RR) (T := T_RR) (N := 20) hx hb hg i_RR t_RR o_RR n_RR hown hK hP2 hD2 hS1 0 rfl rfl 8 (by decide) (hg _ k1_109) (fun _ h9 => h9) rfl hnm rfl (by decide +kernel) rfl rfl (Nat.le_of_ble_eq_true rfl) d_RR_init_10 (fun H3 locs3 hP3 hD3 hS3 => ?_)
  clear hP2 hD2 hS1
  replace hP3 : va_P D vwCl ((h0, .inr (3, [.null, .null, .int 0, .int 0, .int 0, .int 0, .int 0, .int 0, .ref q8, .null, .null, .null, .int 0, .null, .int 0, .null, .null, .null, .null, .int 0])) :: T8) _ := hP3
  replace hD3 : va_D A ((h0, .inr (3, [.null, .null, .int 0, .int 0, .int 0, .int 0, .int 0, .int 0, .ref q8, .null, .null, .null, .int 0, .null, .int 0, .null, .null, .null, .null, .int 0])) :: T8) := hD3
  refine lv_aload_n hx hb d_RR_init_13 rfl (lv_at hl 0 rfl) ?_
  refine lv_sipush (v := 336) hx hb d_RR_init_14 (by decide) ?_
  refine zNewa (atype := .int) (ty := .int) (a0 := (336, .inl (fun _ => 0))) (N' := 336) hx hb rfl (hg _ k1_82) hK hP3 hD3 hS3 hA 0 rfl (fun _ h => by cases h) (fun _ => rfl) (by decide) (by decide) (by decide) (Nat.le_of_ble_eq_true rfl) (Nat.le_of_ble_eq_true rfl) d_RR_init_17 (fun q17 H4 hP4 hD4 hS4 => ?_)
  clear hP3 hD3 hS3
  refine zCons (fun T17 e17 hP5 hD5 => ?_) hP4 hD4
  clear hP4 hD4
  refine va_putF (D := D) (ci := 3) (v := .ref q17) (ty := .array .int) (C := R_RR) (T := T_RR) (N := 20) hx hb hg i_RR t_RR o_RR n_RR hown hK hP5 hD5 hS4 0 rfl rfl 9 (by decide) (hg _ k1_110) (fun _ h9 => h9) rfl hnm rfl (by decide +kernel) rfl rfl (Nat.le_of_ble_eq_true rfl) d_RR_init_19 (fun H6 locs6 hP6 hD6 hS6 => ?_)
  clear hP5 hD5 hS4
  replace hP6 : va_P D vwCl ((h0, .inr (3, [.null, .null, .int 0, .int 0, .int 0, .int 0, .int 0, .int 0, .ref q8, .ref q17, .null, .null, .int 0, .null, .int 0, .null, .null, .null, .null, .int 0])) :: T17) _ := hP6
  replace hD6 : va_D A ((h0, .inr (3, [.null, .null, .int 0, .int 0, .int 0, .int 0, .int 0, .int 0, .ref q8, .ref q17, .null, .null, .int 0, .null, .int 0, .null, .null, .null, .null, .int 0])) :: T17) := hD6
  refine lv_aload_n hx hb d_RR_init_22 rfl (lv_at hl 0 rfl) ?_
  refine lv_sipush (v := 336) hx hb d_RR_init_23 (by decide) ?_
  refine zNewa (atype := .int) (ty := .int) (a0 := (336, .inl (fun _ => 0))) (N' := 336) hx hb rfl (hg _ k1_82) hK hP6 hD6 hS6 hA 0 rfl (fun _ h => by cases h) (fun _ => rfl) (by decide) (by decide) (by decide) (Nat.le_of_ble_eq_true rfl) (Nat.le_of_ble_eq_true rfl) d_RR_init_26 (fun q26 H7 hP7 hD7 hS7 => ?_)
  clear hP6 hD6 hS6
  refine zCons (fun T26 e26 hP8 hD8 => ?_) hP7 hD7
  clear hP7 hD7
  refine va_putF (D := D) (ci := 3) (v := .ref q26) (ty := .array .int) (C := R_RR) (T := T_RR) (N := 20) hx hb hg i_RR t_RR o_RR n_RR hown hK hP8 hD8 hS7 0 rfl rfl 10 (by decide) (hg _ k1_111) (fun _ h9 => h9) rfl hnm rfl (by decide +kernel) rfl rfl (Nat.le_of_ble_eq_true rfl) d_RR_init_28 (fun H9 locs9 hP9 hD9 hS9 => ?_)
  clear hP8 hD8 hS7
  replace hP9 : va_P D vwCl ((h0, .inr (3, [.null, .null, .int 0, .int 0, .int 0, .int 0, .int 0, .int 0, .ref q8, .ref q17, .ref q26, .null, .int 0, .null, .int 0, .null, .null, .null, .null, .int 0])) :: T26) _ := hP9
  replace hD9 : va_D A ((h0, .inr (3, [.null, .null, .int 0, .int 0, .int 0, .int 0, .int 0, .int 0, .ref q8, .ref q17, .ref q26, .null, .int 0, .null, .int 0, .null, .null, .null, .null, .int 0])) :: T26) := hD9
  refine lv_aload_n hx hb d_RR_init_31 rfl (lv_at hl 0 rfl) ?_
  refine lv_sipush (v := 336) hx hb d_RR_init_32 (by decide) ?_
  refine zNewa (atype := .int) (ty := .int) (a0 := (336, .inl (fun _ => 0))) (N' := 336) hx hb rfl (hg _ k1_82) hK hP9 hD9 hS9 hA 0 rfl (fun _ h => by cases h) (fun _ => rfl) (by decide) (by decide) (by decide) (Nat.le_of_ble_eq_true rfl) (Nat.le_of_ble_eq_true rfl) d_RR_init_35 (fun q35 H10 hP10 hD10 hS10 => ?_)
  clear hP9 hD9 hS9
  refine zCons (fun T35 e35 hP11 hD11 => ?_) hP10 hD10
  clear hP10 hD10
  refine va_putF (D := D) (ci := 3) (v := .ref q35) (ty := .array .int) (C := R_RR) (T := T_RR) (N := 20) hx hb hg i_RR t_RR o_RR n_RR hown hK hP11 hD11 hS10 0 rfl rfl 11 (by decide) (hg _ k1_112) (fun _ h9 => h9) rfl hnm rfl (by decide +kernel) rfl rfl (Nat.le_of_ble_eq_true rfl) d_RR_init_37 (fun H12 locs12 hP12 hD12 hS12 => ?_)
  clear hP11 hD11 hS10
  replace hP12 : va_P D vwCl ((h0, .inr (3, [.null, .null, .int 0, .int 0, .int 0, .int 0, .int 0, .int 0, .ref q8, .ref q17, .ref q26, .ref q35, .int 0, .null, .int 0, .null, .null, .null, .null, .int 0])) :: T35) _ := hP12
  replace hD12 : va_D A ((h0, .inr (3, [.null, .null, .int 0, .int 0, .int 0, .int 0, .int 0, .int 0, .ref q8, .ref q17, .ref q26, .ref q35, .int 0, .null, .int 0, .null, .null, .null, .null, .int 0])) :: T35) := hD12
  refine lv_aload_n hx hb d_RR_init_40 rfl (lv_at hl 0 rfl) ?_
  refine lv_sipush (v := 336) hx hb d_RR_init_41 (by decide) ?_
  refine zNewa (atype := .boolean) (ty := .boolean) (a0 := (336, .inl (fun _ => 0))) (N' := 336) hx hb rfl (hg _ k1_162) hK hP12 hD12 hS12 hA 1 rfl (fun _ h => by cases h) (fun _ => rfl) (by decide) (by decide) (by decide) (Nat.le_of_ble_eq_true rfl) (Nat.le_of_ble_eq_true rfl) d_RR_init_44 (fun q44 H13 hP13 hD13 hS13 => ?_)
  clear hP12 hD12 hS12
  refine zCons (fun T44 e44 hP14 hD14 => ?_) hP13 hD13
  clear hP13 hD13
  refine va_putF (D := D) (ci := 3) (v := .ref q44) (ty := .array .boolean) (C := R_RR) (T := T_RR) (N := 20) hx hb hg i_RR t_RR o_RR n_RR hown hK hP14 hD14 hS13 0 rfl rfl 13 (by decide) (hg _ k1_114) (fun _ h9 => h9) rfl hnm rfl (by decide +kernel) rfl rfl (Nat.le_of_ble_eq_true rfl) d_RR_init_46 (fun H15 locs15 hP15 hD15 hS15 => ?_)
  clear hP14 hD14 hS13
  replace hP15 : va_P D vwCl ((h0, .inr (3, [.null, .null, .int 0, .int 0, .int 0, .int 0, .int 0, .int 0, .ref q8, .ref q17, .ref q26, .ref q35, .int 0, .ref q44, .int 0, .null, .null, .null, .null, .int 0])) :: T44) _ := hP15
  replace hD15 : va_D A ((h0, .inr (3, [.null, .null, .int 0, .int 0, .int 0, .int 0, .int 0, .int 0, .ref q8, .ref q17, .ref q26, .ref q35, .int 0, .ref q44, .int 0, .null, .null, .null, .null, .int 0])) :: T44) := hD15
  refine lv_aload_n hx hb d_RR_init_49 rfl (lv_at hl 0 rfl) ?_
  refine lv_bipush (v := 72) hx hb d_RR_init_50 (by decide) ?_
  refine zNewa (atype := .int) (ty := .int) (a0 := (72, .inl (fun _ => 0))) (N' := 72) hx hb rfl (hg _ k1_82) hK hP15 hD15 hS15 hA 0 rfl (fun _ h => by cases h) (fun _ => rfl) (by decide) (by decide) (by decide) (Nat.le_of_ble_eq_true rfl) (Nat.le_of_ble_eq_true rfl) d_RR_init_52 (fun q52 H16 hP16 hD16 hS16 => ?_)
  clear hP15 hD15 hS15
  refine zCons (fun T52 e52 hP17 hD17 => ?_) hP16 hD16
  clear hP16 hD16
  refine va_putF (D := D) (ci := 3) (v := .ref q52) (ty := .array .int) (C := R_RR) (T := T_RR) (N := 20) hx hb hg i_RR t_RR o_RR n_RR hown hK hP17 hD17 hS16 0 rfl rfl 15 (by decide) (hg _ k1_116) (fun _ h9 => h9) rfl hnm rfl (by decide +kernel) rfl rfl (Nat.le_of_ble_eq_true rfl) d_RR_init_54 (fun H18 locs18 hP18 hD18 hS18 => ?_)
  clear hP17 hD17 hS16
  replace hP18 : va_P D vwCl ((h0, .inr (3, [.null, .null, .int 0, .int 0, .int 0, .int 0, .int 0, .int 0, .ref q8, .ref q17, .ref q26, .ref q35, .int 0, .ref q44, .int 0, .ref q52, .null, .null, .null, .int 0])) :: T52) _ := hP18
  replace hD18 : va_D A ((h0, .inr (3, [.null, .null, .int 0, .int 0, .int 0, .int 0, .int 0, .int 0, .ref q8, .ref q17, .ref q26, .ref q35, .int 0, .ref q44, .int 0, .ref q52, .null, .null, .null, .int 0])) :: T52) := hD18
  refine lv_aload_n hx hb d_RR_init_57 rfl (lv_at hl 0 rfl) ?_
  refine lv_bipush (v := 72) hx hb d_RR_init_58 (by decide) ?_
  refine zNewa (atype := .int) (ty := .int) (a0 := (72, .inl (fun _ => 0))) (N' := 72) hx hb rfl (hg _ k1_82) hK hP18 hD18 hS18 hA 0 rfl (fun _ h => by cases h) (fun _ => rfl) (by decide) (by decide) (by decide) (Nat.le_of_ble_eq_true rfl) (Nat.le_of_ble_eq_true rfl) d_RR_init_60 (fun q60 H19 hP19 hD19 hS19 => ?_)
  clear hP18 hD18 hS18
  refine zCons (fun T60 e60 hP20 hD20 => ?_) hP19 hD19
  clear hP19 hD19
  refine va_putF (D := D) (ci := 3) (v := .ref q60) (ty := .array .int) (C := R_RR) (T := T_RR) (N := 20) hx hb hg i_RR t_RR o_RR n_RR hown hK hP20 hD20 hS19 0 rfl rfl 16 (by decide) (hg _ k1_117) (fun _ h9 => h9) rfl hnm rfl (by decide +kernel) rfl rfl (Nat.le_of_ble_eq_true rfl) d_RR_init_62 (fun H21 locs21 hP21 hD21 hS21 => ?_)
  clear hP20 hD20 hS19
  replace hP21 : va_P D vwCl ((h0, .inr (3, [.null, .null, .int 0, .int 0, .int 0, .int 0, .int 0, .int 0, .ref q8, .ref q17, .ref q26, .ref q35, .int 0, .ref q44, .int 0, .ref q52, .ref q60, .null, .null, .int 0])) :: T60) _ := hP21
  replace hD21 : va_D A ((h0, .inr (3, [.null, .null, .int 0, .int 0, .int 0, .int 0, .int 0, .int 0, .ref q8, .ref q17, .ref q26, .ref q35, .int 0, .ref q44, .int 0, .ref q52, .ref q60, .null, .null, .int 0])) :: T60) := hD21
  refine lv_aload_n hx hb d_RR_init_65 rfl (lv_at hl 0 rfl) ?_
  refine lv_bipush (v := 72) hx hb d_RR_init_66 (by decide) ?_
  refine zNewa (atype := .int) (ty := .int) (a0 := (72, .inl (fun _ => 0))) (N' := 72) hx hb rfl (hg _ k1_82) hK hP21 hD21 hS21 hA 0 rfl (fun _ h => by cases h) (fun _ => rfl) (by decide) (by decide) (by decide) (Nat.le_of_ble_eq_true rfl) (Nat.le_of_ble_eq_true rfl) d_RR_init_68 (fun q68 H22 hP22 hD22 hS22 => ?_)
  clear hP21 hD21 hS21
  refine zCons (fun T68 e68 hP23 hD23 => ?_) hP22 hD22
  clear hP22 hD22
  refine va_putF (D := D) (ci := 3) (v := .ref q68) (ty := .array .int) (C := R_RR) (T := T_RR) (N := 20) hx hb hg i_RR t_RR o_RR n_RR hown hK hP23 hD23 hS22 0 rfl rfl 17 (by decide) (hg _ k1_118) (fun _ h9 => h9) rfl hnm rfl (by decide +kernel) rfl rfl (Nat.le_of_ble_eq_true rfl) d_RR_init_70 (fun H24 locs24 hP24 hD24 hS24 => ?_)
  clear hP23 hD23 hS22
  replace hP24 : va_P D vwCl ((h0, .inr (3, [.null, .null, .int 0, .int 0, .int 0, .int 0, .int 0, .int 0, .ref q8, .ref q17, .ref q26, .ref q35, .int 0, .ref q44, .int 0, .ref q52, .ref q60, .ref q68, .null, .int 0])) :: T68) _ := hP24
  replace hD24 : va_D A ((h0, .inr (3, [.null, .null, .int 0, .int 0, .int 0, .int 0, .int 0, .int 0, .ref q8, .ref q17, .ref q26, .ref q35, .int 0, .ref q44, .int 0, .ref q52, .ref q60, .ref q68, .null, .int 0])) :: T68) := hD24
  refine lv_aload_n hx hb d_RR_init_73 rfl (lv_at hl 0 rfl) ?_
  refine lv_bipush (v := 72) hx hb d_RR_init_74 (by decide) ?_
  refine zNewa (atype := .boolean) (ty := .boolean) (a0 := (72, .inl (fun _ => 0))) (N' := 72) hx hb rfl (hg _ k1_162) hK hP24 hD24 hS24 hA 1 rfl (fun _ h => by cases h) (fun _ => rfl) (by decide) (by decide) (by decide) (Nat.le_of_ble_eq_true rfl) (Nat.le_of_ble_eq_true rfl) d_RR_init_76 (fun q76 H25 hP25 hD25 hS25 => ?_)
  clear hP24 hD24 hS24
  refine zCons (fun T76 e76 hP26 hD26 => ?_) hP25 hD25
  clear hP25 hD25
  refine va_putF (D := D) (ci := 3) (v := .ref q76) (ty := .array .boolean) (C := R_RR) (T := T_RR) (N := 20) hx hb hg i_RR t_RR o_RR n_RR hown hK hP26 hD26 hS25 0 rfl rfl 18 (by decide) (hg _ k1_119) (fun _ h9 => h9) rfl hnm rfl (by decide +kernel) rfl rfl (Nat.le_of_ble_eq_true rfl) d_RR_init_78 (fun H27 locs27 hP27 hD27 hS27 => ?_)
  clear hP26 hD26 hS25
  replace hP27 : va_P D vwCl ((h0, .inr (3, [.null, .null, .int 0, .int 0, .int 0, .int 0, .int 0, .int 0, .ref q8, .ref q17, .ref q26, .ref q35, .int 0, .ref q44, .int 0, .ref q52, .ref q60, .ref q68, .ref q76, .int 0])) :: T76) _ := hP27
  replace hD27 : va_D A ((h0, .inr (3, [.null, .null, .int 0, .int 0, .int 0, .int 0, .int 0, .int 0, .ref q8, .ref q17, .ref q26, .ref q35, .int 0, .ref q44, .int 0, .ref q52, .ref q60, .ref q68, .ref q76, .int 0])) :: T76) := hD27
  refine W.cs (cells' := 9) (slots' := 1968) rfl rfl ?_
  exact zVret hx hb hr hlocks hP27 hD27 hS27 (q8, q17, q26, q35, q44, q52, q60, q68, q76) trivial (by rw [e76, e68, e60, e52, e44, e35, e26, e17, e8]; rfl) d_RR_init_81
