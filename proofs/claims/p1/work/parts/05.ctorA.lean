theorem k1_10 : (Jvm.Cond.initialized "ChanceArena$Natural") ∈ lw_R := zR (zk_1 _ (List.mem_of_getElem? (i := 10) (by decide +kernel))) rfl
theorem k1_46 : (Jvm.Cond.instanceMethod ({ cls := "java/lang/Object", name := "<init>", desc := "()V" } : Jvm.MethodName)) ∈ lw_R := zR (zk_1 _ (List.mem_of_getElem? (i := 46) (by decide +kernel))) rfl
theorem k1_47 : (Jvm.Cond.code ({ cls := "java/lang/Object", name := "<init>", desc := "()V" } : Jvm.MethodName) object_method_1_code (1 : Nat) (Option.none : Option Jvm.ClassFile.FieldType)) ∈ lw_R := zR (zk_1 _ (List.mem_of_getElem? (i := 47) (by decide +kernel))) rfl
theorem k1_52 : (Jvm.Cond.code ({ cls := "ChanceArena$Words", name := "<init>", desc := "()V" } : Jvm.MethodName) prog_13_method_1_code (1 : Nat) (Option.none : Option Jvm.ClassFile.FieldType)) ∈ lw_R := zR (zk_1 _ (List.mem_of_getElem? (i := 52) (by decide +kernel))) rfl
theorem k1_53 : (Jvm.Cond.methodLink "ChanceArena$Words" (3 : Nat) ({ cls := "java/lang/Object", name := "<init>", desc := "()V" } : Jvm.MethodName)) ∈ lw_R := zR (zk_1 _ (List.mem_of_getElem? (i := 53) (by decide +kernel))) rfl
theorem k1_54 : (Jvm.Cond.fieldLink "ChanceArena$Words" (9 : Nat) "ChanceArena$Words" "tape" "[C") ∈ lw_R := zR (zk_1 _ (List.mem_of_getElem? (i := 54) (by decide +kernel))) rfl
theorem k1_60 : (Jvm.Cond.fieldLink "ChanceArena$Words" (15 : Nat) "ChanceArena$Words" "sorts" "[I") ∈ lw_R := zR (zk_1 _ (List.mem_of_getElem? (i := 60) (by decide +kernel))) rfl
theorem k1_63 : (Jvm.Cond.fieldLink "ChanceArena$Words" (19 : Nat) "ChanceArena$Words" "starts" "[I") ∈ lw_R := zR (zk_1 _ (List.mem_of_getElem? (i := 63) (by decide +kernel))) rfl
theorem k1_66 : (Jvm.Cond.fieldLink "ChanceArena$Words" (22 : Nat) "ChanceArena$Words" "amounts" "[I") ∈ lw_R := zR (zk_1 _ (List.mem_of_getElem? (i := 66) (by decide +kernel))) rfl
theorem k1_81 : (Jvm.Cond.arrayClass Jvm.ClassFile.FieldType.char) ∈ lw_R := zR (zk_1 _ (List.mem_of_getElem? (i := 81) (by decide +kernel))) rfl
theorem k1_82 : (Jvm.Cond.arrayClass Jvm.ClassFile.FieldType.int) ∈ lw_R := zR (zk_1 _ (List.mem_of_getElem? (i := 82) (by decide +kernel))) rfl
theorem k2_21 : (Jvm.Cond.code ({ cls := "ChanceArena$Program", name := "<init>", desc := "()V" } : Jvm.MethodName) prog_7_method_1_code (1 : Nat) (Option.none : Option Jvm.ClassFile.FieldType)) ∈ lw_R := zR (zk_2 _ (List.mem_of_getElem? (i := 21) (by decide +kernel))) rfl
theorem k2_22 : (Jvm.Cond.methodLink "ChanceArena$Program" (3 : Nat) ({ cls := "java/lang/Object", name := "<init>", desc := "()V" } : Jvm.MethodName)) ∈ lw_R := zR (zk_2 _ (List.mem_of_getElem? (i := 22) (by decide +kernel))) rfl
theorem k2_23 : (Jvm.Cond.fieldLink "ChanceArena$Program" (9 : Nat) "ChanceArena$Program" "orders" "[I") ∈ lw_R := zR (zk_2 _ (List.mem_of_getElem? (i := 23) (by decide +kernel))) rfl
theorem k2_25 : (Jvm.Cond.fieldLink "ChanceArena$Program" (15 : Nat) "ChanceArena$Program" "operands" "[I") ∈ lw_R := zR (zk_2 _ (List.mem_of_getElem? (i := 25) (by decide +kernel))) rfl
theorem k2_36 : (Jvm.Cond.fieldLink "ChanceArena$Program" (18 : Nat) "ChanceArena$Program" "low" "[I") ∈ lw_R := zR (zk_2 _ (List.mem_of_getElem? (i := 36) (by decide +kernel))) rfl
theorem k2_39 : (Jvm.Cond.fieldLink "ChanceArena$Program" (21 : Nat) "ChanceArena$Program" "high" "[I") ∈ lw_R := zR (zk_2 _ (List.mem_of_getElem? (i := 39) (by decide +kernel))) rfl
theorem k2_42 : (Jvm.Cond.fieldLink "ChanceArena$Program" (24 : Nat) "ChanceArena$Program" "init" "[I") ∈ lw_R := zR (zk_2 _ (List.mem_of_getElem? (i := 42) (by decide +kernel))) rfl
theorem k2_48 : (Jvm.Cond.fieldLink "ChanceArena$Program" (27 : Nat) "ChanceArena$Program" "above" "[I") ∈ lw_R := zR (zk_2 _ (List.mem_of_getElem? (i := 48) (by decide +kernel))) rfl
theorem k2_51 : (Jvm.Cond.fieldLink "ChanceArena$Program" (30 : Nat) "ChanceArena$Program" "below" "[I") ∈ lw_R := zR (zk_2 _ (List.mem_of_getElem? (i := 51) (by decide +kernel))) rfl
theorem k2_54 : (Jvm.Cond.fieldLink "ChanceArena$Program" (33 : Nat) "ChanceArena$Program" "formula" "[I") ∈ lw_R := zR (zk_2 _ (List.mem_of_getElem? (i := 54) (by decide +kernel))) rfl
theorem k2_64 : (Jvm.Cond.fieldLink "ChanceArena$Program" (36 : Nat) "ChanceArena$Program" "player" "[I") ∈ lw_R := zR (zk_2 _ (List.mem_of_getElem? (i := 64) (by decide +kernel))) rfl
theorem k2_67 : (Jvm.Cond.fieldLink "ChanceArena$Program" (39 : Nat) "ChanceArena$Program" "commandPlace" "[I") ∈ lw_R := zR (zk_2 _ (List.mem_of_getElem? (i := 67) (by decide +kernel))) rfl
theorem k2_70 : (Jvm.Cond.fieldLink "ChanceArena$Program" (42 : Nat) "ChanceArena$Program" "guard" "[I") ∈ lw_R := zR (zk_2 _ (List.mem_of_getElem? (i := 70) (by decide +kernel))) rfl
theorem k2_73 : (Jvm.Cond.fieldLink "ChanceArena$Program" (45 : Nat) "ChanceArena$Program" "firstBranch" "[I") ∈ lw_R := zR (zk_2 _ (List.mem_of_getElem? (i := 73) (by decide +kernel))) rfl
theorem k2_76 : (Jvm.Cond.fieldLink "ChanceArena$Program" (48 : Nat) "ChanceArena$Program" "branchPlace" "[I") ∈ lw_R := zR (zk_2 _ (List.mem_of_getElem? (i := 76) (by decide +kernel))) rfl
theorem k2_79 : (Jvm.Cond.fieldLink "ChanceArena$Program" (51 : Nat) "ChanceArena$Program" "chance" "[I") ∈ lw_R := zR (zk_2 _ (List.mem_of_getElem? (i := 79) (by decide +kernel))) rfl
theorem k2_82 : (Jvm.Cond.fieldLink "ChanceArena$Program" (54 : Nat) "ChanceArena$Program" "sets" "[I") ∈ lw_R := zR (zk_2 _ (List.mem_of_getElem? (i := 82) (by decide +kernel))) rfl
theorem k2_234 : (Jvm.Cond.instantiable "ChanceArena$Natural" (2 : Nat)) ∈ lw_R := zR (zk_2 _ (List.mem_of_getElem? (i := 234) (by decide +kernel))) rfl
theorem k2_236 : (Jvm.Cond.instanceMethod ({ cls := "ChanceArena$Natural", name := "<init>", desc := "()V" } : Jvm.MethodName)) ∈ lw_R := zR (zk_2 _ (List.mem_of_getElem? (i := 236) (by decide +kernel))) rfl
theorem k2_237 : (Jvm.Cond.code ({ cls := "ChanceArena$Natural", name := "<init>", desc := "()V" } : Jvm.MethodName) prog_6_method_1_code (1 : Nat) (Option.none : Option Jvm.ClassFile.FieldType)) ∈ lw_R := zR (zk_2 _ (List.mem_of_getElem? (i := 237) (by decide +kernel))) rfl
theorem k2_238 : (Jvm.Cond.methodLink "ChanceArena$Natural" (3 : Nat) ({ cls := "java/lang/Object", name := "<init>", desc := "()V" } : Jvm.MethodName)) ∈ lw_R := zR (zk_2 _ (List.mem_of_getElem? (i := 238) (by decide +kernel))) rfl
theorem k2_239 : (Jvm.Cond.fieldLink "ChanceArena$Natural" (9 : Nat) "ChanceArena$Natural" "limbs" "[I") ∈ lw_R := zR (zk_2 _ (List.mem_of_getElem? (i := 239) (by decide +kernel))) rfl
theorem k3_1 : (Jvm.Cond.fieldLink "ChanceArena$Natural" (13 : Nat) "ChanceArena$Natural" "size" "I") ∈ lw_R := zR (zk_3 _ (List.mem_of_getElem? (i := 1) (by decide +kernel))) rfl
theorem k3_14 : (Jvm.Cond.code ({ cls := "ChanceArena$Fraction", name := "<init>", desc := "()V" } : Jvm.MethodName) prog_2_method_1_code (1 : Nat) (Option.none : Option Jvm.ClassFile.FieldType)) ∈ lw_R := zR (zk_3 _ (List.mem_of_getElem? (i := 14) (by decide +kernel))) rfl
theorem k3_15 : (Jvm.Cond.methodLink "ChanceArena$Fraction" (1 : Nat) ({ cls := "java/lang/Object", name := "<init>", desc := "()V" } : Jvm.MethodName)) ∈ lw_R := zR (zk_3 _ (List.mem_of_getElem? (i := 15) (by decide +kernel))) rfl
theorem k3_16 : (Jvm.Cond.classLink "ChanceArena$Fraction" (7 : Nat) "ChanceArena$Natural") ∈ lw_R := zR (zk_3 _ (List.mem_of_getElem? (i := 16) (by decide +kernel))) rfl
theorem k3_17 : (Jvm.Cond.methodLinkNest "ChanceArena$Fraction" (9 : Nat) ({ cls := "ChanceArena$Natural", name := "<init>", desc := "()V" } : Jvm.MethodName) "ChanceArena") ∈ lw_R := zR (zk_3 _ (List.mem_of_getElem? (i := 17) (by decide +kernel))) rfl
theorem k3_18 : (Jvm.Cond.fieldLink "ChanceArena$Fraction" (10 : Nat) "ChanceArena$Fraction" "above" "LChanceArena$Natural;") ∈ lw_R := zR (zk_3 _ (List.mem_of_getElem? (i := 18) (by decide +kernel))) rfl
theorem k3_22 : (Jvm.Cond.fieldLink "ChanceArena$Fraction" (16 : Nat) "ChanceArena$Fraction" "below" "LChanceArena$Natural;") ∈ lw_R := zR (zk_3 _ (List.mem_of_getElem? (i := 22) (by decide +kernel))) rfl
theorem k3_26 : (Jvm.Cond.fieldLink "ChanceArena$Fraction" (19 : Nat) "ChanceArena$Fraction" "times" "I") ∈ lw_R := zR (zk_3 _ (List.mem_of_getElem? (i := 26) (by decide +kernel))) rfl
theorem k3_167 : (Jvm.Cond.code ({ cls := "ChanceArena$Fractions", name := "<init>", desc := "()V" } : Jvm.MethodName) prog_3_method_1_code (1 : Nat) (Option.none : Option Jvm.ClassFile.FieldType)) ∈ lw_R := zR (zk_3 _ (List.mem_of_getElem? (i := 167) (by decide +kernel))) rfl
theorem k3_168 : (Jvm.Cond.methodLink "ChanceArena$Fractions" (3 : Nat) ({ cls := "java/lang/Object", name := "<init>", desc := "()V" } : Jvm.MethodName)) ∈ lw_R := zR (zk_3 _ (List.mem_of_getElem? (i := 168) (by decide +kernel))) rfl
theorem k3_169 : (Jvm.Cond.classLink "ChanceArena$Fractions" (9 : Nat) "ChanceArena$Fraction") ∈ lw_R := zR (zk_3 _ (List.mem_of_getElem? (i := 169) (by decide +kernel))) rfl
theorem k3_170 : (Jvm.Cond.arrayOver (Jvm.ClassFile.FieldType.object "ChanceArena$Fraction")) ∈ lw_R := zR (zk_3 _ (List.mem_of_getElem? (i := 170) (by decide +kernel))) rfl
theorem k3_171 : (Jvm.Cond.fieldLink "ChanceArena$Fractions" (11 : Nat) "ChanceArena$Fractions" "rows" "[LChanceArena$Fraction;") ∈ lw_R := zR (zk_3 _ (List.mem_of_getElem? (i := 171) (by decide +kernel))) rfl
theorem k3_175 : (Jvm.Cond.fieldLink "ChanceArena$Fractions" (17 : Nat) "ChanceArena$Fractions" "known" "Z") ∈ lw_R := zR (zk_3 _ (List.mem_of_getElem? (i := 175) (by decide +kernel))) rfl
theorem d_Na_init_0 : decode prog_6_method_1_code 0 = .ok (.aload_n 0, 1) := dc9_42 (by decide +kernel)
theorem d_Na_init_1 : decode prog_6_method_1_code 1 = .ok (.invokespecial 3, 3) := dc9_183 (by decide +kernel)
theorem d_Na_init_4 : decode prog_6_method_1_code 4 = .ok (.aload_n 0, 1) := dc9_42 (by decide +kernel)
theorem d_Na_init_5 : decode prog_6_method_1_code 5 = .ok (.iconst 4, 1) := dc9_7 (by decide +kernel)
theorem d_Na_init_6 : decode prog_6_method_1_code 6 = .ok (.newarray .int, 2) := by decide +kernel
theorem d_Na_init_8 : decode prog_6_method_1_code 8 = .ok (.putfield 9, 3) := dc9_181 (by decide +kernel)
theorem d_Na_init_11 : decode prog_6_method_1_code 11 = .ok (.aload_n 0, 1) := dc9_42 (by decide +kernel)
theorem d_Na_init_12 : decode prog_6_method_1_code 12 = .ok (.iconst 0, 1) := dc9_3 (by decide +kernel)
theorem d_Na_init_13 : decode prog_6_method_1_code 13 = .ok (.putfield 13, 3) := dc9_181 (by decide +kernel)
theorem d_Na_init_16 : decode prog_6_method_1_code 16 = .ok (.return_, 1) := dc9_177 (by decide +kernel)
theorem d_Fr_init_0 : decode prog_2_method_1_code 0 = .ok (.aload_n 0, 1) := dc9_42 (by decide +kernel)
theorem d_Fr_init_1 : decode prog_2_method_1_code 1 = .ok (.invokespecial 1, 3) := dc9_183 (by decide +kernel)
theorem d_Fr_init_4 : decode prog_2_method_1_code 4 = .ok (.aload_n 0, 1) := dc9_42 (by decide +kernel)
theorem d_Fr_init_5 : decode prog_2_method_1_code 5 = .ok (.new 7, 3) := dc9_187 (by decide +kernel)
theorem d_Fr_init_8 : decode prog_2_method_1_code 8 = .ok (.dup, 1) := dc9_89 (by decide +kernel)
theorem d_Fr_init_9 : decode prog_2_method_1_code 9 = .ok (.invokespecial 9, 3) := dc9_183 (by decide +kernel)
theorem d_Fr_init_12 : decode prog_2_method_1_code 12 = .ok (.putfield 10, 3) := dc9_181 (by decide +kernel)
theorem d_Fr_init_15 : decode prog_2_method_1_code 15 = .ok (.aload_n 0, 1) := dc9_42 (by decide +kernel)
theorem d_Fr_init_16 : decode prog_2_method_1_code 16 = .ok (.new 7, 3) := dc9_187 (by decide +kernel)
theorem d_Fr_init_19 : decode prog_2_method_1_code 19 = .ok (.dup, 1) := dc9_89 (by decide +kernel)
theorem d_Fr_init_20 : decode prog_2_method_1_code 20 = .ok (.invokespecial 9, 3) := dc9_183 (by decide +kernel)
theorem d_Fr_init_23 : decode prog_2_method_1_code 23 = .ok (.putfield 16, 3) := dc9_181 (by decide +kernel)
theorem d_Fr_init_26 : decode prog_2_method_1_code 26 = .ok (.aload_n 0, 1) := dc9_42 (by decide +kernel)
theorem d_Fr_init_27 : decode prog_2_method_1_code 27 = .ok (.iconst 1, 1) := dc9_4 (by decide +kernel)
theorem d_Fr_init_28 : decode prog_2_method_1_code 28 = .ok (.putfield 19, 3) := dc9_181 (by decide +kernel)
theorem d_Fr_init_31 : decode prog_2_method_1_code 31 = .ok (.return_, 1) := dc9_177 (by decide +kernel)
theorem d_Fs_init_0 : decode prog_3_method_1_code 0 = .ok (.aload_n 0, 1) := dc9_42 (by decide +kernel)
theorem d_Fs_init_1 : decode prog_3_method_1_code 1 = .ok (.invokespecial 3, 3) := dc9_183 (by decide +kernel)
theorem d_Fs_init_4 : decode prog_3_method_1_code 4 = .ok (.aload_n 0, 1) := dc9_42 (by decide +kernel)
theorem d_Fs_init_5 : decode prog_3_method_1_code 5 = .ok (.iconst 0, 1) := dc9_3 (by decide +kernel)
theorem d_Fs_init_6 : decode prog_3_method_1_code 6 = .ok (.anewarray 9, 3) := dc9_189 (by decide +kernel)
theorem d_Fs_init_9 : decode prog_3_method_1_code 9 = .ok (.putfield 11, 3) := dc9_181 (by decide +kernel)
theorem d_Fs_init_12 : decode prog_3_method_1_code 12 = .ok (.aload_n 0, 1) := dc9_42 (by decide +kernel)
theorem d_Fs_init_13 : decode prog_3_method_1_code 13 = .ok (.iconst 0, 1) := dc9_3 (by decide +kernel)
theorem d_Fs_init_14 : decode prog_3_method_1_code 14 = .ok (.putfield 17, 3) := dc9_181 (by decide +kernel)
theorem d_Fs_init_17 : decode prog_3_method_1_code 17 = .ok (.return_, 1) := dc9_177 (by decide +kernel)
theorem d_Wo_init_0 : decode prog_13_method_1_code 0 = .ok (.aload_n 0, 1) := dc9_42 (by decide +kernel)
theorem d_Wo_init_1 : decode prog_13_method_1_code 1 = .ok (.invokespecial 3, 3) := dc9_183 (by decide +kernel)
theorem d_Wo_init_4 : decode prog_13_method_1_code 4 = .ok (.aload_n 0, 1) := dc9_42 (by decide +kernel)
theorem d_Wo_init_5 : decode prog_13_method_1_code 5 = .ok (.iconst 0, 1) := dc9_3 (by decide +kernel)
theorem d_Wo_init_6 : decode prog_13_method_1_code 6 = .ok (.newarray .char, 2) := by decide +kernel
theorem d_Wo_init_8 : decode prog_13_method_1_code 8 = .ok (.putfield 9, 3) := dc9_181 (by decide +kernel)
theorem d_Wo_init_11 : decode prog_13_method_1_code 11 = .ok (.aload_n 0, 1) := dc9_42 (by decide +kernel)
theorem d_Wo_init_12 : decode prog_13_method_1_code 12 = .ok (.sipush 128, 3) := dc9_17 (by decide +kernel)
theorem d_Wo_init_15 : decode prog_13_method_1_code 15 = .ok (.newarray .int, 2) := by decide +kernel
theorem d_Wo_init_17 : decode prog_13_method_1_code 17 = .ok (.putfield 15, 3) := dc9_181 (by decide +kernel)
theorem d_Wo_init_20 : decode prog_13_method_1_code 20 = .ok (.aload_n 0, 1) := dc9_42 (by decide +kernel)
theorem d_Wo_init_21 : decode prog_13_method_1_code 21 = .ok (.sipush 128, 3) := dc9_17 (by decide +kernel)
theorem d_Wo_init_24 : decode prog_13_method_1_code 24 = .ok (.newarray .int, 2) := by decide +kernel
theorem d_Wo_init_26 : decode prog_13_method_1_code 26 = .ok (.putfield 19, 3) := dc9_181 (by decide +kernel)
theorem d_Wo_init_29 : decode prog_13_method_1_code 29 = .ok (.aload_n 0, 1) := dc9_42 (by decide +kernel)
theorem d_Wo_init_30 : decode prog_13_method_1_code 30 = .ok (.sipush 128, 3) := dc9_17 (by decide +kernel)
theorem d_Wo_init_33 : decode prog_13_method_1_code 33 = .ok (.newarray .int, 2) := by decide +kernel
theorem d_Wo_init_35 : decode prog_13_method_1_code 35 = .ok (.putfield 22, 3) := dc9_181 (by decide +kernel)
theorem d_Wo_init_38 : decode prog_13_method_1_code 38 = .ok (.return_, 1) := dc9_177 (by decide +kernel)
theorem d_Pr_init_0 : decode prog_7_method_1_code 0 = .ok (.aload_n 0, 1) := dc9_42 (by decide +kernel)
theorem d_Pr_init_1 : decode prog_7_method_1_code 1 = .ok (.invokespecial 3, 3) := dc9_183 (by decide +kernel)
theorem d_Pr_init_4 : decode prog_7_method_1_code 4 = .ok (.aload_n 0, 1) := dc9_42 (by decide +kernel)
theorem d_Pr_init_5 : decode prog_7_method_1_code 5 = .ok (.sipush 128, 3) := dc9_17 (by decide +kernel)
theorem d_Pr_init_8 : decode prog_7_method_1_code 8 = .ok (.newarray .int, 2) := by decide +kernel
theorem d_Pr_init_10 : decode prog_7_method_1_code 10 = .ok (.putfield 9, 3) := dc9_181 (by decide +kernel)
theorem d_Pr_init_13 : decode prog_7_method_1_code 13 = .ok (.aload_n 0, 1) := dc9_42 (by decide +kernel)
theorem d_Pr_init_14 : decode prog_7_method_1_code 14 = .ok (.sipush 128, 3) := dc9_17 (by decide +kernel)
theorem d_Pr_init_17 : decode prog_7_method_1_code 17 = .ok (.newarray .int, 2) := by decide +kernel
theorem d_Pr_init_19 : decode prog_7_method_1_code 19 = .ok (.putfield 15, 3) := dc9_181 (by decide +kernel)
theorem d_Pr_init_22 : decode prog_7_method_1_code 22 = .ok (.aload_n 0, 1) := dc9_42 (by decide +kernel)
theorem d_Pr_init_23 : decode prog_7_method_1_code 23 = .ok (.bipush 12, 2) := dc9_16 (by decide +kernel)
theorem d_Pr_init_25 : decode prog_7_method_1_code 25 = .ok (.newarray .int, 2) := by decide +kernel
theorem d_Pr_init_27 : decode prog_7_method_1_code 27 = .ok (.putfield 18, 3) := dc9_181 (by decide +kernel)
theorem d_Pr_init_30 : decode prog_7_method_1_code 30 = .ok (.aload_n 0, 1) := dc9_42 (by decide +kernel)
theorem d_Pr_init_31 : decode prog_7_method_1_code 31 = .ok (.bipush 12, 2) := dc9_16 (by decide +kernel)
theorem d_Pr_init_33 : decode prog_7_method_1_code 33 = .ok (.newarray .int, 2) := by decide +kernel
theorem d_Pr_init_35 : decode prog_7_method_1_code 35 = .ok (.putfield 21, 3) := dc9_181 (by decide +kernel)
theorem d_Pr_init_38 : decode prog_7_method_1_code 38 = .ok (.aload_n 0, 1) := dc9_42 (by decide +kernel)
theorem d_Pr_init_39 : decode prog_7_method_1_code 39 = .ok (.bipush 12, 2) := dc9_16 (by decide +kernel)
theorem d_Pr_init_41 : decode prog_7_method_1_code 41 = .ok (.newarray .int, 2) := by decide +kernel
theorem d_Pr_init_43 : decode prog_7_method_1_code 43 = .ok (.putfield 24, 3) := dc9_181 (by decide +kernel)
theorem d_Pr_init_46 : decode prog_7_method_1_code 46 = .ok (.aload_n 0, 1) := dc9_42 (by decide +kernel)
theorem d_Pr_init_47 : decode prog_7_method_1_code 47 = .ok (.bipush 60, 2) := dc9_16 (by decide +kernel)
theorem d_Pr_init_49 : decode prog_7_method_1_code 49 = .ok (.newarray .int, 2) := by decide +kernel
theorem d_Pr_init_51 : decode prog_7_method_1_code 51 = .ok (.putfield 27, 3) := dc9_181 (by decide +kernel)
theorem d_Pr_init_54 : decode prog_7_method_1_code 54 = .ok (.aload_n 0, 1) := dc9_42 (by decide +kernel)
theorem d_Pr_init_55 : decode prog_7_method_1_code 55 = .ok (.bipush 60, 2) := dc9_16 (by decide +kernel)
theorem d_Pr_init_57 : decode prog_7_method_1_code 57 = .ok (.newarray .int, 2) := by decide +kernel
theorem d_Pr_init_59 : decode prog_7_method_1_code 59 = .ok (.putfield 30, 3) := dc9_181 (by decide +kernel)
theorem d_Pr_init_62 : decode prog_7_method_1_code 62 = .ok (.aload_n 0, 1) := dc9_42 (by decide +kernel)
theorem d_Pr_init_63 : decode prog_7_method_1_code 63 = .ok (.bipush 60, 2) := dc9_16 (by decide +kernel)
theorem d_Pr_init_65 : decode prog_7_method_1_code 65 = .ok (.newarray .int, 2) := by decide +kernel
theorem d_Pr_init_67 : decode prog_7_method_1_code 67 = .ok (.putfield 33, 3) := dc9_181 (by decide +kernel)
theorem d_Pr_init_70 : decode prog_7_method_1_code 70 = .ok (.aload_n 0, 1) := dc9_42 (by decide +kernel)
theorem d_Pr_init_71 : decode prog_7_method_1_code 71 = .ok (.bipush 60, 2) := dc9_16 (by decide +kernel)
theorem d_Pr_init_73 : decode prog_7_method_1_code 73 = .ok (.newarray .int, 2) := by decide +kernel
theorem d_Pr_init_75 : decode prog_7_method_1_code 75 = .ok (.putfield 36, 3) := dc9_181 (by decide +kernel)
theorem d_Pr_init_78 : decode prog_7_method_1_code 78 = .ok (.aload_n 0, 1) := dc9_42 (by decide +kernel)
theorem d_Pr_init_79 : decode prog_7_method_1_code 79 = .ok (.bipush 60, 2) := dc9_16 (by decide +kernel)
theorem d_Pr_init_81 : decode prog_7_method_1_code 81 = .ok (.newarray .int, 2) := by decide +kernel
theorem d_Pr_init_83 : decode prog_7_method_1_code 83 = .ok (.putfield 39, 3) := dc9_181 (by decide +kernel)
theorem d_Pr_init_86 : decode prog_7_method_1_code 86 = .ok (.aload_n 0, 1) := dc9_42 (by decide +kernel)
theorem d_Pr_init_87 : decode prog_7_method_1_code 87 = .ok (.bipush 60, 2) := dc9_16 (by decide +kernel)
theorem d_Pr_init_89 : decode prog_7_method_1_code 89 = .ok (.newarray .int, 2) := by decide +kernel
theorem d_Pr_init_91 : decode prog_7_method_1_code 91 = .ok (.putfield 42, 3) := dc9_181 (by decide +kernel)
theorem d_Pr_init_94 : decode prog_7_method_1_code 94 = .ok (.aload_n 0, 1) := dc9_42 (by decide +kernel)
theorem d_Pr_init_95 : decode prog_7_method_1_code 95 = .ok (.bipush 61, 2) := dc9_16 (by decide +kernel)
theorem d_Pr_init_97 : decode prog_7_method_1_code 97 = .ok (.newarray .int, 2) := by decide +kernel
theorem d_Pr_init_99 : decode prog_7_method_1_code 99 = .ok (.putfield 45, 3) := dc9_181 (by decide +kernel)
theorem d_Pr_init_102 : decode prog_7_method_1_code 102 = .ok (.aload_n 0, 1) := dc9_42 (by decide +kernel)
theorem d_Pr_init_103 : decode prog_7_method_1_code 103 = .ok (.sipush 480, 3) := dc9_17 (by decide +kernel)
theorem d_Pr_init_106 : decode prog_7_method_1_code 106 = .ok (.newarray .int, 2) := by decide +kernel
theorem d_Pr_init_108 : decode prog_7_method_1_code 108 = .ok (.putfield 48, 3) := dc9_181 (by decide +kernel)
theorem d_Pr_init_111 : decode prog_7_method_1_code 111 = .ok (.aload_n 0, 1) := dc9_42 (by decide +kernel)
theorem d_Pr_init_112 : decode prog_7_method_1_code 112 = .ok (.sipush 480, 3) := dc9_17 (by decide +kernel)
theorem d_Pr_init_115 : decode prog_7_method_1_code 115 = .ok (.newarray .int, 2) := by decide +kernel
theorem d_Pr_init_117 : decode prog_7_method_1_code 117 = .ok (.putfield 51, 3) := dc9_181 (by decide +kernel)
theorem d_Pr_init_120 : decode prog_7_method_1_code 120 = .ok (.aload_n 0, 1) := dc9_42 (by decide +kernel)
theorem d_Pr_init_121 : decode prog_7_method_1_code 121 = .ok (.sipush 480, 3) := dc9_17 (by decide +kernel)
theorem d_Pr_init_124 : decode prog_7_method_1_code 124 = .ok (.newarray .int, 2) := by decide +kernel
theorem d_Pr_init_126 : decode prog_7_method_1_code 126 = .ok (.putfield 54, 3) := dc9_181 (by decide +kernel)
theorem d_Pr_init_129 : decode prog_7_method_1_code 129 = .ok (.return_, 1) := dc9_177 (by decide +kernel)
abbrev S_Na : Type := Nat
def w_Na (tA : Nat → ClassId) (h0 : Nat) (u : S_Na) : va_W := match u with
  | q6 => (h0, .inr (9, [.ref q6, .int 0])) :: ([] ++ [(q6, .inl (tA 0, 4, .inl (fun _ => 0)))])
theorem f_Na : ∀ j, j < 2 → defaultValue (t_Na j) = vp_V [.null, .int 0] j := by decide +kernel
set_option maxHeartbeats 4000000 in
set_option maxRecDepth 100000 in
theorem c_Na_init (l : Launch) (D : va_G) (tA : Nat → ClassId) (h0 sz : Nat) : zMv l ({ cls := "ChanceArena$Natural", name := "<init>", desc := "()V" } : Jvm.MethodName) (zW (Jvm.Cond.code ({ cls := "ChanceArena$Natural", name := "<init>", desc := "()V" } : Jvm.MethodName) prog_6_method_1_code (1 : Nat) (Option.none : Option Jvm.ClassFile.FieldType))) { frames := 1, cells := 1, slots := 4, locals := 12 } [.ref h0] D tA [(h0, .inr (9, [.null, .int 0]))] sz (fun _ : S_Na => True) (w_Na tA h0) 1 4 := by
  refine zOpen (fun A => va_Qv _ (zPost D A (w_Na tA h0)) A) (lv := [(0, .ref h0)]) (by decide) rfl (Nat.le_of_ble_eq_true rfl) rfl ?_
  intro p e s m below meth c A ls hx hb hr hml hh hg hown hlocks hnm hK hA hP hD0 hAw hS hl
  have hD := zD hD0 hAw
  refine lv_aload_n hx hb d_Na_init_0 rfl (lv_at hl 0 rfl) ?_
  refine W.objInit hx hb hown (hg _ k2_238) (hg _ k1_46) (hg _ k1_47) rfl (by rw [hml]; exact hl.1) rfl d_Na_init_1 (Nat.le_of_ble_eq_true rfl) (Nat.le_of_ble_eq_true rfl) ?_
  refine lv_aload_n hx hb d_Na_init_4 rfl (lv_at hl 0 rfl) ?_
  refine lv_iconst (v := 4) hx hb d_Na_init_5 (by decide) ?_
  refine zNewa (atype := .int) (ty := .int) (a0 := (4, .inl (fun _ => 0))) (N' := 4) hx hb rfl (hg _ k1_82) hK hP hD hS hA 0 rfl (fun _ h => by cases h) (fun _ => rfl) (by decide) (by decide) (by decide) (Nat.le_of_ble_eq_true rfl) (Nat.le_of_ble_eq_true rfl) d_Na_init_6 (fun q6 H1 hP1 hD1 hS1 => ?_)
  clear hP hD hS
  refine zCons (fun T6 e6 hP2 hD2 => ?_) hP1 hD1
  clear hP1 hD1
  refine va_put (D := D) (ci := 9) (v := .ref q6) (ty := .array .int) (C := R_Na) (T := T_Na) (N := 2) hx hb hg i_Na t_Na o_Na n_Na hown hK hP2 hD2 hS1 0 rfl rfl 0 (by decide) (hg _ k2_239) (fun _ h9 => h9) rfl (by decide +kernel) rfl rfl (Nat.le_of_ble_eq_true rfl) d_Na_init_8 (fun H3 locs3 hP3 hD3 hS3 => ?_)
  clear hP2 hD2 hS1
  replace hP3 : va_P D vwCl ((h0, .inr (9, [.ref q6, .int 0])) :: T6) _ := hP3
  replace hD3 : va_D A ((h0, .inr (9, [.ref q6, .int 0])) :: T6) := hD3
  refine lv_aload_n hx hb d_Na_init_11 rfl (lv_at hl 0 rfl) ?_
  refine lv_iconst (v := 0) hx hb d_Na_init_12 (by decide) ?_
  refine va_put (D := D) (ci := 9) (v := .int 0) (ty := .int) (C := R_Na) (T := T_Na) (N := 2) hx hb hg i_Na t_Na o_Na n_Na hown hK hP3 hD3 hS3 0 rfl rfl 1 (by decide) (hg _ k3_1) (fun _ h9 => h9) rfl (by decide +kernel) rfl rfl (Nat.le_of_ble_eq_true rfl) d_Na_init_13 (fun H4 locs4 hP4 hD4 hS4 => ?_)
  clear hP3 hD3 hS3
  replace hP4 : va_P D vwCl ((h0, .inr (9, [.ref q6, .int 0])) :: T6) _ := hP4
  replace hD4 : va_D A ((h0, .inr (9, [.ref q6, .int 0])) :: T6) := hD4
  refine W.cs (cells' := 1) (slots' := 4) rfl rfl ?_
  exact zVret hx hb hr hlocks hP4 hD4 hS4 (q6) trivial (by rw [e6]; rfl) d_Na_init_16
abbrev S_Fr : Type := (Nat × S_Na) × (Nat × S_Na)
def w_Fr (tA : Nat → ClassId) (h0 : Nat) (u : S_Fr) : va_W := match u with
  | ((q5, u5), (q16, u16)) => (h0, .inr (10, [.ref q5, .ref q16, .int 1])) :: ([] ++ w_Na tA q5 u5 ++ w_Na tA q16 u16)
theorem f_Fr : ∀ j, j < 3 → defaultValue (t_Fr j) = vp_V [.null, .null, .int 0] j := by decide +kernel
set_option maxHeartbeats 4000000 in
set_option maxRecDepth 100000 in
theorem c_Fr_init (l : Launch) (D : va_G) (tA : Nat → ClassId) (h0 sz : Nat) : zMv l ({ cls := "ChanceArena$Fraction", name := "<init>", desc := "()V" } : Jvm.MethodName) (zW (Jvm.Cond.code ({ cls := "ChanceArena$Fraction", name := "<init>", desc := "()V" } : Jvm.MethodName) prog_2_method_1_code (1 : Nat) (Option.none : Option Jvm.ClassFile.FieldType))) { frames := 2, cells := 4, slots := 12, locals := 32 } [.ref h0] D tA [(h0, .inr (10, [.null, .null, .int 0]))] sz (fun _ : S_Fr => True) (w_Fr tA h0) 4 12 := by
  refine zOpen (fun A => va_Qv _ (zPost D A (w_Fr tA h0)) A) (lv := [(0, .ref h0)]) (by decide) rfl (Nat.le_of_ble_eq_true rfl) rfl ?_
  intro p e s m below meth c A ls hx hb hr hml hh hg hown hlocks hnm hK hA hP hD0 hAw hS hl
  have hD := zD hD0 hAw
  refine lv_aload_n hx hb d_Fr_init_0 rfl (lv_at hl 0 rfl) ?_
  refine W.objInit hx hb hown (hg _ k3_15) (hg _ k1_46) (hg _ k1_47) rfl (by rw [hml]; exact hl.1) rfl d_Fr_init_1 (Nat.le_of_ble_eq_true rfl) (Nat.le_of_ble_eq_true rfl) ?_
  refine lv_aload_n hx hb d_Fr_init_4 rfl (lv_at hl 0 rfl) ?_
  refine va_new (ci := 9) (fs := [.null, .int 0]) (C := R_Na) (T := T_Na) (N := 2) hx hb hg i_Na t_Na o_Na hown (hg _ k3_16) (hg _ k2_234) (hg _ k1_10) hK hP hD hS hA rfl f_Na (Nat.le_of_ble_eq_true rfl) (Nat.le_of_ble_eq_true rfl) d_Fr_init_5 (fun q5 H1 hP1 hD1 hS1 => ?_)
  clear hP hD hS
  refine lv_dup hx hb d_Fr_init_8 rfl ?_
  refine zInit hP1 hD1 hS1 hA (va_runIN (As := []) (rest := [.ref q5, .ref h0]) ⟨hx, hb, hml, hown, hg⟩ (c_Na_init l D tA q5 H1.size) ⟨va_cnB 0 hg (zGood k2_237 rfl) rfl rfl rfl (va_Nw.of rfl (hg _ k3_17)) (hg _ k1_10) (by decide +kernel) ⟨(Nat.le_of_ble_eq_true rfl), (Nat.le_of_ble_eq_true rfl)⟩, rfl, hg _ k2_236⟩ (zPreI hh hK hP1 hD1) rfl rfl hl.1 rfl (lv_room (Nat.le_of_ble_eq_true rfl)) d_Fr_init_9 ⟨(Nat.le_of_ble_eq_true rfl), (Nat.le_of_ble_eq_true rfl)⟩) (fun u5 H2 locs2 _ hP2 hD2 hS2 => ?_)
  clear hP1 hD1 hS1
  refine zCons (fun T9 e9 hP3 hD3 => ?_) hP2 hD2
  clear hP2 hD2
  refine va_putF (D := D) (ci := 10) (v := .ref q5) (ty := .object "ChanceArena$Natural") (C := R_Fr) (T := T_Fr) (N := 3) hx hb hg i_Fr t_Fr o_Fr n_Fr hown hK hP3 hD3 hS2 0 rfl rfl 0 (by decide) (hg _ k3_18) (fun _ h9 => h9) rfl hnm rfl (by decide +kernel) rfl rfl (Nat.le_of_ble_eq_true rfl) d_Fr_init_12 (fun H4 locs4 hP4 hD4 hS4 => ?_)
  clear hP3 hD3 hS2
  replace hP4 : va_P D vwCl ((h0, .inr (10, [.ref q5, .null, .int 0])) :: T9) _ := hP4
  replace hD4 : va_D A ((h0, .inr (10, [.ref q5, .null, .int 0])) :: T9) := hD4
  refine lv_aload_n hx hb d_Fr_init_15 rfl (lv_at hl 0 rfl) ?_
  refine va_new (ci := 9) (fs := [.null, .int 0]) (C := R_Na) (T := T_Na) (N := 2) hx hb hg i_Na t_Na o_Na hown (hg _ k3_16) (hg _ k2_234) (hg _ k1_10) hK hP4 hD4 hS4 hA rfl f_Na (Nat.le_of_ble_eq_true rfl) (Nat.le_of_ble_eq_true rfl) d_Fr_init_16 (fun q16 H5 hP5 hD5 hS5 => ?_)
  clear hP4 hD4 hS4
  refine lv_dup hx hb d_Fr_init_19 rfl ?_
  refine zInit hP5 hD5 hS5 hA (va_runIN (As := []) (rest := [.ref q16, .ref h0]) ⟨hx, hb, hml, hown, hg⟩ (c_Na_init l D tA q16 H5.size) ⟨va_cnB 0 hg (zGood k2_237 rfl) rfl rfl rfl (va_Nw.of rfl (hg _ k3_17)) (hg _ k1_10) (by decide +kernel) ⟨(Nat.le_of_ble_eq_true rfl), (Nat.le_of_ble_eq_true rfl)⟩, rfl, hg _ k2_236⟩ (zPreI hh hK hP5 hD5) rfl rfl hl.1 rfl (lv_room (Nat.le_of_ble_eq_true rfl)) d_Fr_init_20 ⟨(Nat.le_of_ble_eq_true rfl), (Nat.le_of_ble_eq_true rfl)⟩) (fun u16 H6 locs6 _ hP6 hD6 hS6 => ?_)
  clear hP5 hD5 hS5
  refine zCons (fun T20 e20 hP7 hD7 => ?_) hP6 hD6
  clear hP6 hD6
  refine va_putF (D := D) (ci := 10) (v := .ref q16) (ty := .object "ChanceArena$Natural") (C := R_Fr) (T := T_Fr) (N := 3) hx hb hg i_Fr t_Fr o_Fr n_Fr hown hK hP7 hD7 hS6 0 rfl rfl 1 (by decide) (hg _ k3_22) (fun _ h9 => h9) rfl hnm rfl (by decide +kernel) rfl rfl (Nat.le_of_ble_eq_true rfl) d_Fr_init_23 (fun H8 locs8 hP8 hD8 hS8 => ?_)
  clear hP7 hD7 hS6
  replace hP8 : va_P D vwCl ((h0, .inr (10, [.ref q5, .ref q16, .int 0])) :: T20) _ := hP8
  replace hD8 : va_D A ((h0, .inr (10, [.ref q5, .ref q16, .int 0])) :: T20) := hD8
  refine lv_aload_n hx hb d_Fr_init_26 rfl (lv_at hl 0 rfl) ?_
  refine lv_iconst (v := 1) hx hb d_Fr_init_27 (by decide) ?_
  refine va_put (D := D) (ci := 10) (v := .int 1) (ty := .int) (C := R_Fr) (T := T_Fr) (N := 3) hx hb hg i_Fr t_Fr o_Fr n_Fr hown hK hP8 hD8 hS8 0 rfl rfl 2 (by decide) (hg _ k3_26) (fun _ h9 => h9) rfl (by decide +kernel) rfl rfl (Nat.le_of_ble_eq_true rfl) d_Fr_init_28 (fun H9 locs9 hP9 hD9 hS9 => ?_)
  clear hP8 hD8 hS8
  replace hP9 : va_P D vwCl ((h0, .inr (10, [.ref q5, .ref q16, .int 1])) :: T20) _ := hP9
  replace hD9 : va_D A ((h0, .inr (10, [.ref q5, .ref q16, .int 1])) :: T20) := hD9
  refine W.cs (cells' := 4) (slots' := 12) rfl rfl ?_
  exact zVret hx hb hr hlocks hP9 hD9 hS9 ((q5, u5), (q16, u16)) trivial (by rw [e20, e9]; rfl) d_Fr_init_31
abbrev S_Fs : Type := Nat
def w_Fs (tA : Nat → ClassId) (h0 : Nat) (u : S_Fs) : va_W := match u with
  | q6 => (h0, .inr (12, [.ref q6, .int 0])) :: ([] ++ [(q6, .inl (tA 5, 0, .inr (.inr (.inr (.inr (fun _ => none))))))])
theorem f_Fs : ∀ j, j < 2 → defaultValue (t_Fs j) = vp_V [.null, .int 0] j := by decide +kernel
set_option maxHeartbeats 4000000 in
set_option maxRecDepth 100000 in
theorem c_Fs_init (l : Launch) (D : va_G) (tA : Nat → ClassId) (h0 sz : Nat) : zMv l ({ cls := "ChanceArena$Fractions", name := "<init>", desc := "()V" } : Jvm.MethodName) (zW (Jvm.Cond.code ({ cls := "ChanceArena$Fractions", name := "<init>", desc := "()V" } : Jvm.MethodName) prog_3_method_1_code (1 : Nat) (Option.none : Option Jvm.ClassFile.FieldType))) { frames := 1, cells := 1, slots := 0, locals := 12 } [.ref h0] D tA [(h0, .inr (12, [.null, .int 0]))] sz (fun _ : S_Fs => True) (w_Fs tA h0) 1 0 := by
  refine zOpen (fun A => va_Qv _ (zPost D A (w_Fs tA h0)) A) (lv := [(0, .ref h0)]) (by decide) rfl (Nat.le_of_ble_eq_true rfl) rfl ?_
  intro p e s m below meth c A ls hx hb hr hml hh hg hown hlocks hnm hK hA hP hD0 hAw hS hl
  have hD := zD hD0 hAw
  refine lv_aload_n hx hb d_Fs_init_0 rfl (lv_at hl 0 rfl) ?_
  refine W.objInit hx hb hown (hg _ k3_168) (hg _ k1_46) (hg _ k1_47) rfl (by rw [hml]; exact hl.1) rfl d_Fs_init_1 (Nat.le_of_ble_eq_true rfl) (Nat.le_of_ble_eq_true rfl) ?_
  refine lv_aload_n hx hb d_Fs_init_4 rfl (lv_at hl 0 rfl) ?_
  refine lv_iconst (v := 0) hx hb d_Fs_init_5 (by decide) ?_
  refine zNewq (N' := 0) hx hb hown (hg _ k3_169) (hg _ k3_170) hK hP hD hS hA 5 rfl (by decide) (by decide) (by decide) (Nat.le_of_ble_eq_true rfl) (Nat.le_of_ble_eq_true rfl) d_Fs_init_6 (fun q6 H1 hP1 hD1 hS1 => ?_)
  clear hP hD hS
  refine zCons (fun T6 e6 hP2 hD2 => ?_) hP1 hD1
  clear hP1 hD1
  refine va_put (D := D) (ci := 12) (v := .ref q6) (ty := .array (.object "ChanceArena$Fraction")) (C := R_Fs) (T := T_Fs) (N := 2) hx hb hg i_Fs t_Fs o_Fs n_Fs hown hK hP2 hD2 hS1 0 rfl rfl 0 (by decide) (hg _ k3_171) (fun _ h9 => h9) rfl (by decide +kernel) rfl rfl (Nat.le_of_ble_eq_true rfl) d_Fs_init_9 (fun H3 locs3 hP3 hD3 hS3 => ?_)
  clear hP2 hD2 hS1
  replace hP3 : va_P D vwCl ((h0, .inr (12, [.ref q6, .int 0])) :: T6) _ := hP3
  replace hD3 : va_D A ((h0, .inr (12, [.ref q6, .int 0])) :: T6) := hD3
  refine lv_aload_n hx hb d_Fs_init_12 rfl (lv_at hl 0 rfl) ?_
  refine lv_iconst (v := 0) hx hb d_Fs_init_13 (by decide) ?_
  refine va_put (D := D) (ci := 12) (v := .int 0) (ty := .boolean) (C := R_Fs) (T := T_Fs) (N := 2) hx hb hg i_Fs t_Fs o_Fs n_Fs hown hK hP3 hD3 hS3 0 rfl rfl 1 (by decide) (hg _ k3_175) (fun _ h9 => h9) rfl (by decide +kernel) rfl rfl (Nat.le_of_ble_eq_true rfl) d_Fs_init_14 (fun H4 locs4 hP4 hD4 hS4 => ?_)
  clear hP3 hD3 hS3
  replace hP4 : va_P D vwCl ((h0, .inr (12, [.ref q6, .int 0])) :: T6) _ := hP4
  replace hD4 : va_D A ((h0, .inr (12, [.ref q6, .int 0])) :: T6) := hD4
  refine W.cs (cells' := 1) (slots' := 0) rfl rfl ?_
  exact zVret hx hb hr hlocks hP4 hD4 hS4 (q6) trivial (by rw [e6]; rfl) d_Fs_init_17
abbrev S_Wo : Type := Nat × Nat × Nat × Nat
def w_Wo (tA : Nat → ClassId) (h0 : Nat) (u : S_Wo) : va_W := match u with
  | (q6, q15, q24, q33) => (h0, .inr (1, [.ref q6, .int 0, .int 0, .ref q15, .ref q24, .ref q33])) :: ([] ++ [(q6, .inl (tA 2, 0, .inl (fun _ => 0)))] ++ [(q15, .inl (tA 0, 128, .inl (fun _ => 0)))] ++ [(q24, .inl (tA 0, 128, .inl (fun _ => 0)))] ++ [(q33, .inl (tA 0, 128, .inl (fun _ => 0)))])
theorem f_Wo : ∀ j, j < 6 → defaultValue (t_Wo j) = vp_V [.null, .int 0, .int 0, .null, .null, .null] j := by decide +kernel
set_option maxHeartbeats 4000000 in
set_option maxRecDepth 100000 in
theorem c_Wo_init (l : Launch) (D : va_G) (tA : Nat → ClassId) (h0 sz : Nat) : zMv l ({ cls := "ChanceArena$Words", name := "<init>", desc := "()V" } : Jvm.MethodName) (zW (Jvm.Cond.code ({ cls := "ChanceArena$Words", name := "<init>", desc := "()V" } : Jvm.MethodName) prog_13_method_1_code (1 : Nat) (Option.none : Option Jvm.ClassFile.FieldType))) { frames := 1, cells := 4, slots := 384, locals := 12 } [.ref h0] D tA [(h0, .inr (1, [.null, .int 0, .int 0, .null, .null, .null]))] sz (fun _ : S_Wo => True) (w_Wo tA h0) 4 384 := by
  refine zOpen (fun A => va_Qv _ (zPost D A (w_Wo tA h0)) A) (lv := [(0, .ref h0)]) (by decide) rfl (Nat.le_of_ble_eq_true rfl) rfl ?_
  intro p e s m below meth c A ls hx hb hr hml hh hg hown hlocks hnm hK hA hP hD0 hAw hS hl
  have hD := zD hD0 hAw
  refine lv_aload_n hx hb d_Wo_init_0 rfl (lv_at hl 0 rfl) ?_
  refine W.objInit hx hb hown (hg _ k1_53) (hg _ k1_46) (hg _ k1_47) rfl (by rw [hml]; exact hl.1) rfl d_Wo_init_1 (Nat.le_of_ble_eq_true rfl) (Nat.le_of_ble_eq_true rfl) ?_
  refine lv_aload_n hx hb d_Wo_init_4 rfl (lv_at hl 0 rfl) ?_
  refine lv_iconst (v := 0) hx hb d_Wo_init_5 (by decide) ?_
  refine zNewa (atype := .char) (ty := .char) (a0 := (0, .inl (fun _ => 0))) (N' := 0) hx hb rfl (hg _ k1_81) hK hP hD hS hA 2 rfl (fun _ h => by cases h) (fun _ => rfl) (by decide) (by decide) (by decide) (Nat.le_of_ble_eq_true rfl) (Nat.le_of_ble_eq_true rfl) d_Wo_init_6 (fun q6 H1 hP1 hD1 hS1 => ?_)
  clear hP hD hS
  refine zCons (fun T6 e6 hP2 hD2 => ?_) hP1 hD1
  clear hP1 hD1
  refine va_put (D := D) (ci := 1) (v := .ref q6) (ty := .array .char) (C := R_Wo) (T := T_Wo) (N := 6) hx hb hg i_Wo t_Wo o_Wo n_Wo hown hK hP2 hD2 hS1 0 rfl rfl 0 (by decide) (hg _ k1_54) (fun _ h9 => h9) rfl (by decide +kernel) rfl rfl (Nat.le_of_ble_eq_true rfl) d_Wo_init_8 (fun H3 locs3 hP3 hD3 hS3 => ?_)
  clear hP2 hD2 hS1
  replace hP3 : va_P D vwCl ((h0, .inr (1, [.ref q6, .int 0, .int 0, .null, .null, .null])) :: T6) _ := hP3
  replace hD3 : va_D A ((h0, .inr (1, [.ref q6, .int 0, .int 0, .null, .null, .null])) :: T6) := hD3
  refine lv_aload_n hx hb d_Wo_init_11 rfl (lv_at hl 0 rfl) ?_
  refine lv_sipush (v := 128) hx hb d_Wo_init_12 (by decide) ?_
  refine zNewa (atype := .int) (ty := .int) (a0 := (128, .inl (fun _ => 0))) (N' := 128) hx hb rfl (hg _ k1_82) hK hP3 hD3 hS3 hA 0 rfl (fun _ h => by cases h) (fun _ => rfl) (by decide) (by decide) (by decide) (Nat.le_of_ble_eq_true rfl) (Nat.le_of_ble_eq_true rfl) d_Wo_init_15 (fun q15 H4 hP4 hD4 hS4 => ?_)
  clear hP3 hD3 hS3
  refine zCons (fun T15 e15 hP5 hD5 => ?_) hP4 hD4
  clear hP4 hD4
  refine va_put (D := D) (ci := 1) (v := .ref q15) (ty := .array .int) (C := R_Wo) (T := T_Wo) (N := 6) hx hb hg i_Wo t_Wo o_Wo n_Wo hown hK hP5 hD5 hS4 0 rfl rfl 3 (by decide) (hg _ k1_60) (fun _ h9 => h9) rfl (by decide +kernel) rfl rfl (Nat.le_of_ble_eq_true rfl) d_Wo_init_17 (fun H6 locs6 hP6 hD6 hS6 => ?_)
  clear hP5 hD5 hS4
  replace hP6 : va_P D vwCl ((h0, .inr (1, [.ref q6, .int 0, .int 0, .ref q15, .null, .null])) :: T15) _ := hP6
  replace hD6 : va_D A ((h0, .inr (1, [.ref q6, .int 0, .int 0, .ref q15, .null, .null])) :: T15) := hD6
  refine lv_aload_n hx hb d_Wo_init_20 rfl (lv_at hl 0 rfl) ?_
  refine lv_sipush (v := 128) hx hb d_Wo_init_21 (by decide) ?_
  refine zNewa (atype := .int) (ty := .int) (a0 := (128, .inl (fun _ => 0))) (N' := 128) hx hb rfl (hg _ k1_82) hK hP6 hD6 hS6 hA 0 rfl (fun _ h => by cases h) (fun _ => rfl) (by decide) (by decide) (by decide) (Nat.le_of_ble_eq_true rfl) (Nat.le_of_ble_eq_true rfl) d_Wo_init_24 (fun q24 H7 hP7 hD7 hS7 => ?_)
  clear hP6 hD6 hS6
  refine zCons (fun T24 e24 hP8 hD8 => ?_) hP7 hD7
  clear hP7 hD7
  refine va_put (D := D) (ci := 1) (v := .ref q24) (ty := .array .int) (C := R_Wo) (T := T_Wo) (N := 6) hx hb hg i_Wo t_Wo o_Wo n_Wo hown hK hP8 hD8 hS7 0 rfl rfl 4 (by decide) (hg _ k1_63) (fun _ h9 => h9) rfl (by decide +kernel) rfl rfl (Nat.le_of_ble_eq_true rfl) d_Wo_init_26 (fun H9 locs9 hP9 hD9 hS9 => ?_)
  clear hP8 hD8 hS7
  replace hP9 : va_P D vwCl ((h0, .inr (1, [.ref q6, .int 0, .int 0, .ref q15, .ref q24, .null])) :: T24) _ := hP9
  replace hD9 : va_D A ((h0, .inr (1, [.ref q6, .int 0, .int 0, .ref q15, .ref q24, .null])) :: T24) := hD9
  refine lv_aload_n hx hb d_Wo_init_29 rfl (lv_at hl 0 rfl) ?_
  refine lv_sipush (v := 128) hx hb d_Wo_init_30 (by decide) ?_
  refine zNewa (atype := .int) (ty := .int) (a0 := (128, .inl (fun _ => 0))) (N' := 128) hx hb rfl (hg _ k1_82) hK hP9 hD9 hS9 hA 0 rfl (fun _ h => by cases h) (fun _ => rfl) (by decide) (by decide) (by decide) (Nat.le_of_ble_eq_true rfl) (Nat.le_of_ble_eq_true rfl) d_Wo_init_33 (fun q33 H10 hP10 hD10 hS10 => ?_)
  clear hP9 hD9 hS9
  refine zCons (fun T33 e33 hP11 hD11 => ?_) hP10 hD10
  clear hP10 hD10
  refine va_put (D := D) (ci := 1) (v := .ref q33) (ty := .array .int) (C := R_Wo) (T := T_Wo) (N := 6) hx hb hg i_Wo t_Wo o_Wo n_Wo hown hK hP11 hD11 hS10 0 rfl rfl 5 (by decide) (hg _ k1_66) (fun _ h9 => h9) rfl (by decide +kernel) rfl rfl (Nat.le_of_ble_eq_true rfl) d_Wo_init_35 (fun H12 locs12 hP12 hD12 hS12 => ?_)
  clear hP11 hD11 hS10
  replace hP12 : va_P D vwCl ((h0, .inr (1, [.ref q6, .int 0, .int 0, .ref q15, .ref q24, .ref q33])) :: T33) _ := hP12
  replace hD12 : va_D A ((h0, .inr (1, [.ref q6, .int 0, .int 0, .ref q15, .ref q24, .ref q33])) :: T33) := hD12
  refine W.cs (cells' := 4) (slots' := 384) rfl rfl ?_
  exact zVret hx hb hr hlocks hP12 hD12 hS12 (q6, q15, q24, q33) trivial (by rw [e33, e24, e15, e6]; rfl) d_Wo_init_38
abbrev S_Pr : Type := Nat × Nat × Nat × Nat × Nat × Nat × Nat × Nat × Nat × Nat × Nat × Nat × Nat × Nat × Nat
def w_Pr (tA : Nat → ClassId) (h0 : Nat) (u : S_Pr) : va_W := match u with
  | (q8, q17, q25, q33, q41, q49, q57, q65, q73, q81, q89, q97, q106, q115, q124) => (h0, .inr (5, [.ref q8, .ref q17, .int 0, .int 0, .ref q25, .ref q33, .ref q41, .int 0, .ref q49, .ref q57, .ref q65, .int 0, .int 0, .ref q73, .ref q81, .ref q89, .ref q97, .ref q106, .ref q115, .ref q124])) :: ([] ++ [(q8, .inl (tA 0, 128, .inl (fun _ => 0)))] ++ [(q17, .inl (tA 0, 128, .inl (fun _ => 0)))] ++ [(q25, .inl (tA 0, 12, .inl (fun _ => 0)))] ++ [(q33, .inl (tA 0, 12, .inl (fun _ => 0)))] ++ [(q41, .inl (tA 0, 12, .inl (fun _ => 0)))] ++ [(q49, .inl (tA 0, 60, .inl (fun _ => 0)))] ++ [(q57, .inl (tA 0, 60, .inl (fun _ => 0)))] ++ [(q65, .inl (tA 0, 60, .inl (fun _ => 0)))] ++ [(q73, .inl (tA 0, 60, .inl (fun _ => 0)))] ++ [(q81, .inl (tA 0, 60, .inl (fun _ => 0)))] ++ [(q89, .inl (tA 0, 60, .inl (fun _ => 0)))] ++ [(q97, .inl (tA 0, 61, .inl (fun _ => 0)))] ++ [(q106, .inl (tA 0, 480, .inl (fun _ => 0)))] ++ [(q115, .inl (tA 0, 480, .inl (fun _ => 0)))] ++ [(q124, .inl (tA 0, 480, .inl (fun _ => 0)))])
theorem f_Pr : ∀ j, j < 20 → defaultValue (t_Pr j) = vp_V [.null, .null, .int 0, .int 0, .null, .null, .null, .int 0, .null, .null, .null, .int 0, .int 0, .null, .null, .null, .null, .null, .null, .null] j := by decide +kernel
set_option maxHeartbeats 4000000 in
set_option maxRecDepth 100000 in
theorem c_Pr_init (l : Launch) (D : va_G) (tA : Nat → ClassId) (h0 sz : Nat) : zMv l ({ cls := "ChanceArena$Program", name := "<init>", desc := "()V" } : Jvm.MethodName) (zW (Jvm.Cond.code ({ cls := "ChanceArena$Program", name := "<init>", desc := "()V" } : Jvm.MethodName) prog_7_method_1_code (1 : Nat) (Option.none : Option Jvm.ClassFile.FieldType))) { frames := 1, cells := 15, slots := 2153, locals := 12 } [.ref h0] D tA [(h0, .inr (5, [.null, .null, .int 0, .int 0, .null, .null, .null, .int 0, .null, .null, .null, .int 0, .int 0, .null, .null, .null, .null, .null, .null, .null]))] sz (fun _ : S_Pr => True) (w_Pr tA h0) 15 2153 := by
  refine zOpen (fun A => va_Qv _ (zPost D A (w_Pr tA h0)) A) (lv := [(0, .ref h0)]) (by decide) rfl (Nat.le_of_ble_eq_true rfl) rfl ?_
  intro p e s m below meth c A ls hx hb hr hml hh hg hown hlocks hnm hK hA hP hD0 hAw hS hl
  have hD := zD hD0 hAw
  refine lv_aload_n hx hb d_Pr_init_0 rfl (lv_at hl 0 rfl) ?_
  refine W.objInit hx hb hown (hg _ k2_22) (hg _ k1_46) (hg _ k1_47) rfl (by rw [hml]; exact hl.1) rfl d_Pr_init_1 (Nat.le_of_ble_eq_true rfl) (Nat.le_of_ble_eq_true rfl) ?_
  refine lv_aload_n hx hb d_Pr_init_4 rfl (lv_at hl 0 rfl) ?_
  refine lv_sipush (v := 128) hx hb d_Pr_init_5 (by decide) ?_
  refine zNewa (atype := .int) (ty := .int) (a0 := (128, .inl (fun _ => 0))) (N' := 128) hx hb rfl (hg _ k1_82) hK hP hD hS hA 0 rfl (fun _ h => by cases h) (fun _ => rfl) (by decide) (by decide) (by decide) (Nat.le_of_ble_eq_true rfl) (Nat.le_of_ble_eq_true rfl) d_Pr_init_8 (fun q8 H1 hP1 hD1 hS1 => ?_)
  clear hP hD hS
  refine zCons (fun T8 e8 hP2 hD2 => ?_) hP1 hD1
  clear hP1 hD1
  refine va_put (D := D) (ci := 5) (v := .ref q8) (ty := .array .int) (C := R_Pr) (T := T_Pr) (N := 20) hx hb hg i_Pr t_Pr o_Pr n_Pr hown hK hP2 hD2 hS1 0 rfl rfl 0 (by decide) (hg _ k2_23) (fun _ h9 => h9) rfl (by decide +kernel) rfl rfl (Nat.le_of_ble_eq_true rfl) d_Pr_init_10 (fun H3 locs3 hP3 hD3 hS3 => ?_)
  clear hP2 hD2 hS1
  replace hP3 : va_P D vwCl ((h0, .inr (5, [.ref q8, .null, .int 0, .int 0, .null, .null, .null, .int 0, .null, .null, .null, .int 0, .int 0, .null, .null, .null, .null, .null, .null, .null])) :: T8) _ := hP3
  replace hD3 : va_D A ((h0, .inr (5, [.ref q8, .null, .int 0, .int 0, .null, .null, .null, .int 0, .null, .null, .null, .int 0, .int 0, .null, .null, .null, .null, .null, .null, .null])) :: T8) := hD3
  refine lv_aload_n hx hb d_Pr_init_13 rfl (lv_at hl 0 rfl) ?_
  refine lv_sipush (v := 128) hx hb d_Pr_init_14 (by decide) ?_
  refine zNewa (atype := .int) (ty := .int) (a0 := (128, .inl (fun _ => 0))) (N' := 128) hx hb rfl (hg _ k1_82) hK hP3 hD3 hS3 hA 0 rfl (fun _ h => by cases h) (fun _ => rfl) (by decide) (by decide) (by decide) (Nat.le_of_ble_eq_true rfl) (Nat.le_of_ble_eq_true rfl) d_Pr_init_17 (fun q17 H4 hP4 hD4 hS4 => ?_)
  clear hP3 hD3 hS3
  refine zCons (fun T17 e17 hP5 hD5 => ?_) hP4 hD4
  clear hP4 hD4
  refine va_put (D := D) (ci := 5) (v := .ref q17) (ty := .array .int) (C := R_Pr) (T := T_Pr) (N := 20) hx hb hg i_Pr t_Pr o_Pr n_Pr hown hK hP5 hD5 hS4 0 rfl rfl 1 (by decide) (hg _ k2_25) (fun _ h9 => h9) rfl (by decide +kernel) rfl rfl (Nat.le_of_ble_eq_true rfl) d_Pr_init_19 (fun H6 locs6 hP6 hD6 hS6 => ?_)
  clear hP5 hD5 hS4
  replace hP6 : va_P D vwCl ((h0, .inr (5, [.ref q8, .ref q17, .int 0, .int 0, .null, .null, .null, .int 0, .null, .null, .null, .int 0, .int 0, .null, .null, .null, .null, .null, .null, .null])) :: T17) _ := hP6
  replace hD6 : va_D A ((h0, .inr (5, [.ref q8, .ref q17, .int 0, .int 0, .null, .null, .null, .int 0, .null, .null, .null, .int 0, .int 0, .null, .null, .null, .null, .null, .null, .null])) :: T17) := hD6
  refine lv_aload_n hx hb d_Pr_init_22 rfl (lv_at hl 0 rfl) ?_
  refine lv_bipush (v := 12) hx hb d_Pr_init_23 (by decide) ?_
  refine zNewa (atype := .int) (ty := .int) (a0 := (12, .inl (fun _ => 0))) (N' := 12) hx hb rfl (hg _ k1_82) hK hP6 hD6 hS6 hA 0 rfl (fun _ h => by cases h) (fun _ => rfl) (by decide) (by decide) (by decide) (Nat.le_of_ble_eq_true rfl) (Nat.le_of_ble_eq_true rfl) d_Pr_init_25 (fun q25 H7 hP7 hD7 hS7 => ?_)
  clear hP6 hD6 hS6
  refine zCons (fun T25 e25 hP8 hD8 => ?_) hP7 hD7
  clear hP7 hD7
  refine va_putF (D := D) (ci := 5) (v := .ref q25) (ty := .array .int) (C := R_Pr) (T := T_Pr) (N := 20) hx hb hg i_Pr t_Pr o_Pr n_Pr hown hK hP8 hD8 hS7 0 rfl rfl 4 (by decide) (hg _ k2_36) (fun _ h9 => h9) rfl hnm rfl (by decide +kernel) rfl rfl (Nat.le_of_ble_eq_true rfl) d_Pr_init_27 (fun H9 locs9 hP9 hD9 hS9 => ?_)
  clear hP8 hD8 hS7
  replace hP9 : va_P D vwCl ((h0, .inr (5, [.ref q8, .ref q17, .int 0, .int 0, .ref q25, .null, .null, .int 0, .null, .null, .null, .int 0, .int 0, .null, .null, .null, .null, .null, .null, .null])) :: T25) _ := hP9
  replace hD9 : va_D A ((h0, .inr (5, [.ref q8, .ref q17, .int 0, .int 0, .ref q25, .null, .null, .int 0, .null, .null, .null, .int 0, .int 0, .null, .null, .null, .null, .null, .null, .null])) :: T25) := hD9
  refine lv_aload_n hx hb d_Pr_init_30 rfl (lv_at hl 0 rfl) ?_
  refine lv_bipush (v := 12) hx hb d_Pr_init_31 (by decide) ?_
  refine zNewa (atype := .int) (ty := .int) (a0 := (12, .inl (fun _ => 0))) (N' := 12) hx hb rfl (hg _ k1_82) hK hP9 hD9 hS9 hA 0 rfl (fun _ h => by cases h) (fun _ => rfl) (by decide) (by decide) (by decide) (Nat.le_of_ble_eq_true rfl) (Nat.le_of_ble_eq_true rfl) d_Pr_init_33 (fun q33 H10 hP10 hD10 hS10 => ?_)
  clear hP9 hD9 hS9
  refine zCons (fun T33 e33 hP11 hD11 => ?_) hP10 hD10
  clear hP10 hD10
  refine va_putF (D := D) (ci := 5) (v := .ref q33) (ty := .array .int) (C := R_Pr) (T := T_Pr) (N := 20) hx hb hg i_Pr t_Pr o_Pr n_Pr hown hK hP11 hD11 hS10 0 rfl rfl 5 (by decide) (hg _ k2_39) (fun _ h9 => h9) rfl hnm rfl (by decide +kernel) rfl rfl (Nat.le_of_ble_eq_true rfl) d_Pr_init_35 (fun H12 locs12 hP12 hD12 hS12 => ?_)
  clear hP11 hD11 hS10
  replace hP12 : va_P D vwCl ((h0, .inr (5, [.ref q8, .ref q17, .int 0, .int 0, .ref q25, .ref q33, .null, .int 0, .null, .null, .null, .int 0, .int 0, .null, .null, .null, .null, .null, .null, .null])) :: T33) _ := hP12
  replace hD12 : va_D A ((h0, .inr (5, [.ref q8, .ref q17, .int 0, .int 0, .ref q25, .ref q33, .null, .int 0, .null, .null, .null, .int 0, .int 0, .null, .null, .null, .null, .null, .null, .null])) :: T33) := hD12
  refine lv_aload_n hx hb d_Pr_init_38 rfl (lv_at hl 0 rfl) ?_
  refine lv_bipush (v := 12) hx hb d_Pr_init_39 (by decide) ?_
  refine zNewa (atype := .int) (ty := .int) (a0 := (12, .inl (fun _ => 0))) (N' := 12) hx hb rfl (hg _ k1_82) hK hP12 hD12 hS12 hA 0 rfl (fun _ h => by cases h) (fun _ => rfl) (by decide) (by decide) (by decide) (Nat.le_of_ble_eq_true rfl) (Nat.le_of_ble_eq_true rfl) d_Pr_init_41 (fun q41 H13 hP13 hD13 hS13 => ?_)
  clear hP12 hD12 hS12
  refine zCons (fun T41 e41 hP14 hD14 => ?_) hP13 hD13
  clear hP13 hD13
  refine va_putF (D := D) (ci := 5) (v := .ref q41) (ty := .array .int) (C := R_Pr) (T := T_Pr) (N := 20) hx hb hg i_Pr t_Pr o_Pr n_Pr hown hK hP14 hD14 hS13 0 rfl rfl 6 (by decide) (hg _ k2_42) (fun _ h9 => h9) rfl hnm rfl (by decide +kernel) rfl rfl (Nat.le_of_ble_eq_true rfl) d_Pr_init_43 (fun H15 locs15 hP15 hD15 hS15 => ?_)
  clear hP14 hD14 hS13
  replace hP15 : va_P D vwCl ((h0, .inr (5, [.ref q8, .ref q17, .int 0, .int 0, .ref q25, .ref q33, .ref q41, .int 0, .null, .null, .null, .int 0, .int 0, .null, .null, .null, .null, .null, .null, .null])) :: T41) _ := hP15
  replace hD15 : va_D A ((h0, .inr (5, [.ref q8, .ref q17, .int 0, .int 0, .ref q25, .ref q33, .ref q41, .int 0, .null, .null, .null, .int 0, .int 0, .null, .null, .null, .null, .null, .null, .null])) :: T41) := hD15
  refine lv_aload_n hx hb d_Pr_init_46 rfl (lv_at hl 0 rfl) ?_
  refine lv_bipush (v := 60) hx hb d_Pr_init_47 (by decide) ?_
  refine zNewa (atype := .int) (ty := .int) (a0 := (60, .inl (fun _ => 0))) (N' := 60) hx hb rfl (hg _ k1_82) hK hP15 hD15 hS15 hA 0 rfl (fun _ h => by cases h) (fun _ => rfl) (by decide) (by decide) (by decide) (Nat.le_of_ble_eq_true rfl) (Nat.le_of_ble_eq_true rfl) d_Pr_init_49 (fun q49 H16 hP16 hD16 hS16 => ?_)
  clear hP15 hD15 hS15
  refine zCons (fun T49 e49 hP17 hD17 => ?_) hP16 hD16
  clear hP16 hD16
  refine va_putF (D := D) (ci := 5) (v := .ref q49) (ty := .array .int) (C := R_Pr) (T := T_Pr) (N := 20) hx hb hg i_Pr t_Pr o_Pr n_Pr hown hK hP17 hD17 hS16 0 rfl rfl 8 (by decide) (hg _ k2_48) (fun _ h9 => h9) rfl hnm rfl (by decide +kernel) rfl rfl (Nat.le_of_ble_eq_true rfl) d_Pr_init_51 (fun H18 locs18 hP18 hD18 hS18 => ?_)
  clear hP17 hD17 hS16
  replace hP18 : va_P D vwCl ((h0, .inr (5, [.ref q8, .ref q17, .int 0, .int 0, .ref q25, .ref q33, .ref q41, .int 0, .ref q49, .null, .null, .int 0, .int 0, .null, .null, .null, .null, .null, .null, .null])) :: T49) _ := hP18
  replace hD18 : va_D A ((h0, .inr (5, [.ref q8, .ref q17, .int 0, .int 0, .ref q25, .ref q33, .ref q41, .int 0, .ref q49, .null, .null, .int 0, .int 0, .null, .null, .null, .null, .null, .null, .null])) :: T49) := hD18
  refine lv_aload_n hx hb d_Pr_init_54 rfl (lv_at hl 0 rfl) ?_
  refine lv_bipush (v := 60) hx hb d_Pr_init_55 (by decide) ?_
  refine zNewa (atype := .int) (ty := .int) (a0 := (60, .inl (fun _ => 0))) (N' := 60) hx hb rfl (hg _ k1_82) hK hP18 hD18 hS18 hA 0 rfl (fun _ h => by cases h) (fun _ => rfl) (by decide) (by decide) (by decide) (Nat.le_of_ble_eq_true rfl) (Nat.le_of_ble_eq_true rfl) d_Pr_init_57 (fun q57 H19 hP19 hD19 hS19 => ?_)
  clear hP18 hD18 hS18
  refine zCons (fun T57 e57 hP20 hD20 => ?_) hP19 hD19
  clear hP19 hD19
  refine va_putF (D := D) (ci := 5) (v := .ref q57) (ty := .array .int) (C := R_Pr) (T := T_Pr) (N := 20) hx hb hg i_Pr t_Pr o_Pr n_Pr hown hK hP20 hD20 hS19 0 rfl rfl 9 (by decide) (hg _ k2_51) (fun _ h9 => h9) rfl hnm rfl (by decide +kernel) rfl rfl (Nat.le_of_ble_eq_true rfl) d_Pr_init_59 (fun H21 locs21 hP21 hD21 hS21 => ?_)
  clear hP20 hD20 hS19
  replace hP21 : va_P D vwCl ((h0, .inr (5, [.ref q8, .ref q17, .int 0, .int 0, .ref q25, .ref q33, .ref q41, .int 0, .ref q49, .ref q57, .null, .int 0, .int 0, .null, .null, .null, .null, .null, .null, .null])) :: T57) _ := hP21
  replace hD21 : va_D A ((h0, .inr (5, [.ref q8, .ref q17, .int 0, .int 0, .ref q25, .ref q33, .ref q41, .int 0, .ref q49, .ref q57, .null, .int 0, .int 0, .null, .null, .null, .null, .null, .null, .null])) :: T57) := hD21
  refine lv_aload_n hx hb d_Pr_init_62 rfl (lv_at hl 0 rfl) ?_
  refine lv_bipush (v := 60) hx hb d_Pr_init_63 (by decide) ?_
  refine zNewa (atype := .int) (ty := .int) (a0 := (60, .inl (fun _ => 0))) (N' := 60) hx hb rfl (hg _ k1_82) hK hP21 hD21 hS21 hA 0 rfl (fun _ h => by cases h) (fun _ => rfl) (by decide) (by decide) (by decide) (Nat.le_of_ble_eq_true rfl) (Nat.le_of_ble_eq_true rfl) d_Pr_init_65 (fun q65 H22 hP22 hD22 hS22 => ?_)
  clear hP21 hD21 hS21
  refine zCons (fun T65 e65 hP23 hD23 => ?_) hP22 hD22
  clear hP22 hD22
  refine va_putF (D := D) (ci := 5) (v := .ref q65) (ty := .array .int) (C := R_Pr) (T := T_Pr) (N := 20) hx hb hg i_Pr t_Pr o_Pr n_Pr hown hK hP23 hD23 hS22 0 rfl rfl 10 (by decide) (hg _ k2_54) (fun _ h9 => h9) rfl hnm rfl (by decide +kernel) rfl rfl (Nat.le_of_ble_eq_true rfl) d_Pr_init_67 (fun H24 locs24 hP24 hD24 hS24 => ?_)
  clear hP23 hD23 hS22
  replace hP24 : va_P D vwCl ((h0, .inr (5, [.ref q8, .ref q17, .int 0, .int 0, .ref q25, .ref q33, .ref q41, .int 0, .ref q49, .ref q57, .ref q65, .int 0, .int 0, .null, .null, .null, .null, .null, .null, .null])) :: T65) _ := hP24
  replace hD24 : va_D A ((h0, .inr (5, [.ref q8, .ref q17, .int 0, .int 0, .ref q25, .ref q33, .ref q41, .int 0, .ref q49, .ref q57, .ref q65, .int 0, .int 0, .null, .null, .null, .null, .null, .null, .null])) :: T65) := hD24
  refine lv_aload_n hx hb d_Pr_init_70 rfl (lv_at hl 0 rfl) ?_
  refine lv_bipush (v := 60) hx hb d_Pr_init_71 (by decide) ?_
  refine zNewa (atype := .int) (ty := .int) (a0 := (60, .inl (fun _ => 0))) (N' := 60) hx hb rfl (hg _ k1_82) hK hP24 hD24 hS24 hA 0 rfl (fun _ h => by cases h) (fun _ => rfl) (by decide) (by decide) (by decide) (Nat.le_of_ble_eq_true rfl) (Nat.le_of_ble_eq_true rfl) d_Pr_init_73 (fun q73 H25 hP25 hD25 hS25 => ?_)
  clear hP24 hD24 hS24
  refine zCons (fun T73 e73 hP26 hD26 => ?_) hP25 hD25
  clear hP25 hD25
  refine va_putF (D := D) (ci := 5) (v := .ref q73) (ty := .array .int) (C := R_Pr) (T := T_Pr) (N := 20) hx hb hg i_Pr t_Pr o_Pr n_Pr hown hK hP26 hD26 hS25 0 rfl rfl 13 (by decide) (hg _ k2_64) (fun _ h9 => h9) rfl hnm rfl (by decide +kernel) rfl rfl (Nat.le_of_ble_eq_true rfl) d_Pr_init_75 (fun H27 locs27 hP27 hD27 hS27 => ?_)
  clear hP26 hD26 hS25
  replace hP27 : va_P D vwCl ((h0, .inr (5, [.ref q8, .ref q17, .int 0, .int 0, .ref q25, .ref q33, .ref q41, .int 0, .ref q49, .ref q57, .ref q65, .int 0, .int 0, .ref q73, .null, .null, .null, .null, .null, .null])) :: T73) _ := hP27
  replace hD27 : va_D A ((h0, .inr (5, [.ref q8, .ref q17, .int 0, .int 0, .ref q25, .ref q33, .ref q41, .int 0, .ref q49, .ref q57, .ref q65, .int 0, .int 0, .ref q73, .null, .null, .null, .null, .null, .null])) :: T73) := hD27
  refine lv_aload_n hx hb d_Pr_init_78 rfl (lv_at hl 0 rfl) ?_
  refine lv_bipush (v := 60) hx hb d_Pr_init_79 (by decide) ?_
  refine zNewa (atype := .int) (ty := .int) (a0 := (60, .inl (fun _ => 0))) (N' := 60) hx hb rfl (hg _ k1_82) hK hP27 hD27 hS27 hA 0 rfl (fun _ h => by cases h) (fun _ => rfl) (by decide) (by decide) (by decide) (Nat.le_of_ble_eq_true rfl) (Nat.le_of_ble_eq_true rfl) d_Pr_init_81 (fun q81 H28 hP28 hD28 hS28 => ?_)
  clear hP27 hD27 hS27
  refine zCons (fun T81 e81 hP29 hD29 => ?_) hP28 hD28
  clear hP28 hD28
  refine va_putF (D := D) (ci := 5) (v := .ref q81) (ty := .array .int) (C := R_Pr) (T := T_Pr) (N := 20) hx hb hg i_Pr t_Pr o_Pr n_Pr hown hK hP29 hD29 hS28 0 rfl rfl 14 (by decide) (hg _ k2_67) (fun _ h9 => h9) rfl hnm rfl (by decide +kernel) rfl rfl (Nat.le_of_ble_eq_true rfl) d_Pr_init_83 (fun H30 locs30 hP30 hD30 hS30 => ?_)
  clear hP29 hD29 hS28
  replace hP30 : va_P D vwCl ((h0, .inr (5, [.ref q8, .ref q17, .int 0, .int 0, .ref q25, .ref q33, .ref q41, .int 0, .ref q49, .ref q57, .ref q65, .int 0, .int 0, .ref q73, .ref q81, .null, .null, .null, .null, .null])) :: T81) _ := hP30
  replace hD30 : va_D A ((h0, .inr (5, [.ref q8, .ref q17, .int 0, .int 0, .ref q25, .ref q33, .ref q41, .int 0, .ref q49, .ref q57, .ref q65, .int 0, .int 0, .ref q73, .ref q81, .null, .null, .null, .null, .null])) :: T81) := hD30
  refine lv_aload_n hx hb d_Pr_init_86 rfl (lv_at hl 0 rfl) ?_
  refine lv_bipush (v := 60) hx hb d_Pr_init_87 (by decide) ?_
  refine zNewa (atype := .int) (ty := .int) (a0 := (60, .inl (fun _ => 0))) (N' := 60) hx hb rfl (hg _ k1_82) hK hP30 hD30 hS30 hA 0 rfl (fun _ h => by cases h) (fun _ => rfl) (by decide) (by decide) (by decide) (Nat.le_of_ble_eq_true rfl) (Nat.le_of_ble_eq_true rfl) d_Pr_init_89 (fun q89 H31 hP31 hD31 hS31 => ?_)
  clear hP30 hD30 hS30
  refine zCons (fun T89 e89 hP32 hD32 => ?_) hP31 hD31
  clear hP31 hD31
  refine va_putF (D := D) (ci := 5) (v := .ref q89) (ty := .array .int) (C := R_Pr) (T := T_Pr) (N := 20) hx hb hg i_Pr t_Pr o_Pr n_Pr hown hK hP32 hD32 hS31 0 rfl rfl 15 (by decide) (hg _ k2_70) (fun _ h9 => h9) rfl hnm rfl (by decide +kernel) rfl rfl (Nat.le_of_ble_eq_true rfl) d_Pr_init_91 (fun H33 locs33 hP33 hD33 hS33 => ?_)
  clear hP32 hD32 hS31
  replace hP33 : va_P D vwCl ((h0, .inr (5, [.ref q8, .ref q17, .int 0, .int 0, .ref q25, .ref q33, .ref q41, .int 0, .ref q49, .ref q57, .ref q65, .int 0, .int 0, .ref q73, .ref q81, .ref q89, .null, .null, .null, .null])) :: T89) _ := hP33
  replace hD33 : va_D A ((h0, .inr (5, [.ref q8, .ref q17, .int 0, .int 0, .ref q25, .ref q33, .ref q41, .int 0, .ref q49, .ref q57, .ref q65, .int 0, .int 0, .ref q73, .ref q81, .ref q89, .null, .null, .null, .null])) :: T89) := hD33
  refine lv_aload_n hx hb d_Pr_init_94 rfl (lv_at hl 0 rfl) ?_
  refine lv_bipush (v := 61) hx hb d_Pr_init_95 (by decide) ?_
  refine zNewa (atype := .int) (ty := .int) (a0 := (61, .inl (fun _ => 0))) (N' := 61) hx hb rfl (hg _ k1_82) hK hP33 hD33 hS33 hA 0 rfl (fun _ h => by cases h) (fun _ => rfl) (by decide) (by decide) (by decide) (Nat.le_of_ble_eq_true rfl) (Nat.le_of_ble_eq_true rfl) d_Pr_init_97 (fun q97 H34 hP34 hD34 hS34 => ?_)
  clear hP33 hD33 hS33
  refine zCons (fun T97 e97 hP35 hD35 => ?_) hP34 hD34
  clear hP34 hD34
  refine va_putF (D := D) (ci := 5) (v := .ref q97) (ty := .array .int) (C := R_Pr) (T := T_Pr) (N := 20) hx hb hg i_Pr t_Pr o_Pr n_Pr hown hK hP35 hD35 hS34 0 rfl rfl 16 (by decide) (hg _ k2_73) (fun _ h9 => h9) rfl hnm rfl (by decide +kernel) rfl rfl (Nat.le_of_ble_eq_true rfl) d_Pr_init_99 (fun H36 locs36 hP36 hD36 hS36 => ?_)
  clear hP35 hD35 hS34
  replace hP36 : va_P D vwCl ((h0, .inr (5, [.ref q8, .ref q17, .int 0, .int 0, .ref q25, .ref q33, .ref q41, .int 0, .ref q49, .ref q57, .ref q65, .int 0, .int 0, .ref q73, .ref q81, .ref q89, .ref q97, .null, .null, .null])) :: T97) _ := hP36
  replace hD36 : va_D A ((h0, .inr (5, [.ref q8, .ref q17, .int 0, .int 0, .ref q25, .ref q33, .ref q41, .int 0, .ref q49, .ref q57, .ref q65, .int 0, .int 0, .ref q73, .ref q81, .ref q89, .ref q97, .null, .null, .null])) :: T97) := hD36
  refine lv_aload_n hx hb d_Pr_init_102 rfl (lv_at hl 0 rfl) ?_
  refine lv_sipush (v := 480) hx hb d_Pr_init_103 (by decide) ?_
  refine zNewa (atype := .int) (ty := .int) (a0 := (480, .inl (fun _ => 0))) (N' := 480) hx hb rfl (hg _ k1_82) hK hP36 hD36 hS36 hA 0 rfl (fun _ h => by cases h) (fun _ => rfl) (by decide) (by decide) (by decide) (Nat.le_of_ble_eq_true rfl) (Nat.le_of_ble_eq_true rfl) d_Pr_init_106 (fun q106 H37 hP37 hD37 hS37 => ?_)
  clear hP36 hD36 hS36
  refine zCons (fun T106 e106 hP38 hD38 => ?_) hP37 hD37
  clear hP37 hD37
  refine va_putF (D := D) (ci := 5) (v := .ref q106) (ty := .array .int) (C := R_Pr) (T := T_Pr) (N := 20) hx hb hg i_Pr t_Pr o_Pr n_Pr hown hK hP38 hD38 hS37 0 rfl rfl 17 (by decide) (hg _ k2_76) (fun _ h9 => h9) rfl hnm rfl (by decide +kernel) rfl rfl (Nat.le_of_ble_eq_true rfl) d_Pr_init_108 (fun H39 locs39 hP39 hD39 hS39 => ?_)
  clear hP38 hD38 hS37
  replace hP39 : va_P D vwCl ((h0, .inr (5, [.ref q8, .ref q17, .int 0, .int 0, .ref q25, .ref q33, .ref q41, .int 0, .ref q49, .ref q57, .ref q65, .int 0, .int 0, .ref q73, .ref q81, .ref q89, .ref q97, .ref q106, .null, .null])) :: T106) _ := hP39
  replace hD39 : va_D A ((h0, .inr (5, [.ref q8, .ref q17, .int 0, .int 0, .ref q25, .ref q33, .ref q41, .int 0, .ref q49, .ref q57, .ref q65, .int 0, .int 0, .ref q73, .ref q81, .ref q89, .ref q97, .ref q106, .null, .null])) :: T106) := hD39
  refine lv_aload_n hx hb d_Pr_init_111 rfl (lv_at hl 0 rfl) ?_
  refine lv_sipush (v := 480) hx hb d_Pr_init_112 (by decide) ?_
  refine zNewa (atype := .int) (ty := .int) (a0 := (480, .inl (fun _ => 0))) (N' := 480) hx hb rfl (hg _ k1_82) hK hP39 hD39 hS39 hA 0 rfl (fun _ h => by cases h) (fun _ => rfl) (by decide) (by decide) (by decide) (Nat.le_of_ble_eq_true rfl) (Nat.le_of_ble_eq_true rfl) d_Pr_init_115 (fun q115 H40 hP40 hD40 hS40 => ?_)
  clear hP39 hD39 hS39
  refine zCons (fun T115 e115 hP41 hD41 => ?_) hP40 hD40
  clear hP40 hD40
  refine va_putF (D := D) (ci := 5) (v := .ref q115) (ty := .array .int) (C := R_Pr) (T := T_Pr) (N := 20) hx hb hg i_Pr t_Pr o_Pr n_Pr hown hK hP41 hD41 hS40 0 rfl rfl 18 (by decide) (hg _ k2_79) (fun _ h9 => h9) rfl hnm rfl (by decide +kernel) rfl rfl (Nat.le_of_ble_eq_true rfl) d_Pr_init_117 (fun H42 locs42 hP42 hD42 hS42 => ?_)
  clear hP41 hD41 hS40
  replace hP42 : va_P D vwCl ((h0, .inr (5, [.ref q8, .ref q17, .int 0, .int 0, .ref q25, .ref q33, .ref q41, .int 0, .ref q49, .ref q57, .ref q65, .int 0, .int 0, .ref q73, .ref q81, .ref q89, .ref q97, .ref q106, .ref q115, .null])) :: T115) _ := hP42
  replace hD42 : va_D A ((h0, .inr (5, [.ref q8, .ref q17, .int 0, .int 0, .ref q25, .ref q33, .ref q41, .int 0, .ref q49, .ref q57, .ref q65, .int 0, .int 0, .ref q73, .ref q81, .ref q89, .ref q97, .ref q106, .ref q115, .null])) :: T115) := hD42
  refine lv_aload_n hx hb d_Pr_init_120 rfl (lv_at hl 0 rfl) ?_
  refine lv_sipush (v := 480) hx hb d_Pr_init_121 (by decide) ?_
  refine zNewa (atype := .int) (ty := .int) (a0 := (480, .inl (fun _ => 0))) (N' := 480) hx hb rfl (hg _ k1_82) hK hP42 hD42 hS42 hA 0 rfl (fun _ h => by cases h) (fun _ => rfl) (by decide) (by decide) (by decide) (Nat.le_of_ble_eq_true rfl) (Nat.le_of_ble_eq_true rfl) d_Pr_init_124 (fun q124 H43 hP43 hD43 hS43 => ?_)
  clear hP42 hD42 hS42
  refine zCons (fun T124 e124 hP44 hD44 => ?_) hP43 hD43
  clear hP43 hD43
  refine va_putF (D := D) (ci := 5) (v := .ref q124) (ty := .array .int) (C := R_Pr) (T := T_Pr) (N := 20) hx hb hg i_Pr t_Pr o_Pr n_Pr hown hK hP44 hD44 hS43 0 rfl rfl 19 (by decide) (hg _ k2_82) (fun _ h9 => h9) rfl hnm rfl (by decide +kernel) rfl rfl (Nat.le_of_ble_eq_true rfl) d_Pr_init_126 (fun H45 locs45 hP45 hD45 hS45 => ?_)
  clear hP44 hD44 hS43
  replace hP45 : va_P D vwCl ((h0, .inr (5, [.ref q8, .ref q17, .int 0, .int 0, .ref q25, .ref q33, .ref q41, .int 0, .ref q49, .ref q57, .ref q65, .int 0, .int 0, .ref q73, .ref q81, .ref q89, .ref q97, .ref q106, .ref q115, .ref q124])) :: T124) _ := hP45
  replace hD45 : va_D A ((h0, .inr (5, [.ref q8, .ref q17, .int 0, .int 0, .ref q25, .ref q33, .ref q41, .int 0, .ref q49, .ref q57, .ref q65, .int 0, .int 0, .ref q73, .ref q81, .ref q89, .ref q97, .ref q106, .ref q115, .ref q124])) :: T124) := hD45
  refine W.cs (cells' := 15) (slots' := 2153) rfl rfl ?_
  exact zVret hx hb hr hlocks hP45 hD45 hS45 (q8, q17, q25, q33, q41, q49, q57, q65, q73, q81, q89, q97, q106, q115, q124) trivial (by rw [e124, e115, e106, e97, e89, e81, e73, e65, e57, e49, e41, e33, e25, e17, e8]; rfl) d_Pr_init_129
