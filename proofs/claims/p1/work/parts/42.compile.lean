theorem k1_55 : (Jvm.Cond.fieldLink "ChanceArena$Words" (25 : Nat) "ChanceArena$Words" "length" "I") ∈ lw_R := zR (zk_1 _ (List.mem_of_getElem? (i := 55) (by decide +kernel))) rfl
theorem k1_56 : (Jvm.Cond.fieldLink "ChanceArena$TextReader" (92 : Nat) "ChanceArena$Words" "length" "I") ∈ lw_R := zR (zk_1 _ (List.mem_of_getElem? (i := 56) (by decide +kernel))) rfl
theorem k1_57 : (Jvm.Cond.fieldLink "ChanceArena$Words" (29 : Nat) "ChanceArena$Words" "count" "I") ∈ lw_R := zR (zk_1 _ (List.mem_of_getElem? (i := 57) (by decide +kernel))) rfl
theorem k1_58 : (Jvm.Cond.fieldLink "ChanceArena$TextReader" (40 : Nat) "ChanceArena$Words" "count" "I") ∈ lw_R := zR (zk_1 _ (List.mem_of_getElem? (i := 58) (by decide +kernel))) rfl
theorem k1_61 : (Jvm.Cond.fieldLink "ChanceArena$TextReader" (56 : Nat) "ChanceArena$Words" "sorts" "[I") ∈ lw_R := zR (zk_1 _ (List.mem_of_getElem? (i := 61) (by decide +kernel))) rfl
theorem k1_95 : (Jvm.Cond.fieldLink "ChanceArena$RuleReader" (40 : Nat) "ChanceArena$RuleReader" "words" "LChanceArena$Words;") ∈ lw_R := zR (zk_1 _ (List.mem_of_getElem? (i := 95) (by decide +kernel))) rfl
theorem k1_97 : (Jvm.Cond.fieldLink "ChanceArena$RuleReader" (44 : Nat) "ChanceArena$RuleReader" "text" "LChanceArena$Program;") ∈ lw_R := zR (zk_1 _ (List.mem_of_getElem? (i := 97) (by decide +kernel))) rfl
theorem k1_98 : (Jvm.Cond.fieldLink "ChanceArena$RuleReader" (48 : Nat) "ChanceArena$RuleReader" "at" "I") ∈ lw_R := zR (zk_1 _ (List.mem_of_getElem? (i := 98) (by decide +kernel))) rfl
theorem k1_99 : (Jvm.Cond.fieldLink "ChanceArena$TextReader" (59 : Nat) "ChanceArena$RuleReader" "at" "I") ∈ lw_R := zR (zk_1 _ (List.mem_of_getElem? (i := 99) (by decide +kernel))) rfl
theorem k1_100 : (Jvm.Cond.fieldLink "ChanceArena$RuleReader" (52 : Nat) "ChanceArena$RuleReader" "fault" "I") ∈ lw_R := zR (zk_1 _ (List.mem_of_getElem? (i := 100) (by decide +kernel))) rfl
theorem k1_101 : (Jvm.Cond.fieldLink "ChanceArena$TextReader" (76 : Nat) "ChanceArena$RuleReader" "fault" "I") ∈ lw_R := zR (zk_1 _ (List.mem_of_getElem? (i := 101) (by decide +kernel))) rfl
theorem k1_102 : (Jvm.Cond.fieldLink "ChanceArena$TextReader" (32 : Nat) "ChanceArena$RuleReader" "place" "I") ∈ lw_R := zR (zk_1 _ (List.mem_of_getElem? (i := 102) (by decide +kernel))) rfl
theorem k1_103 : (Jvm.Cond.fieldLink "ChanceArena$RuleReader" (55 : Nat) "ChanceArena$RuleReader" "place" "I") ∈ lw_R := zR (zk_1 _ (List.mem_of_getElem? (i := 103) (by decide +kernel))) rfl
theorem k1_104 : (Jvm.Cond.fieldLink "ChanceArena$RuleReader" (58 : Nat) "ChanceArena$RuleReader" "depth" "I") ∈ lw_R := zR (zk_1 _ (List.mem_of_getElem? (i := 104) (by decide +kernel))) rfl
theorem k1_120 : (Jvm.Cond.fieldLink "ChanceArena$RuleReader" (61 : Nat) "ChanceArena$RuleReader" "nameCount" "I") ∈ lw_R := zR (zk_1 _ (List.mem_of_getElem? (i := 120) (by decide +kernel))) rfl
theorem k1_169 : (Jvm.Cond.fieldLink "ChanceArena$TextReader" (51 : Nat) "ChanceArena$Machine" "text" "LChanceArena$Program;") ∈ lw_R := zR (zk_1 _ (List.mem_of_getElem? (i := 169) (by decide +kernel))) rfl
theorem k1_231 : (Jvm.Cond.fieldLink "ChanceArena$TextReader" (36 : Nat) "ChanceArena$TextReader" "text" "LChanceArena$Program;") ∈ lw_R := zR (zk_1 _ (List.mem_of_getElem? (i := 231) (by decide +kernel))) rfl
theorem k2_28 : (Jvm.Cond.fieldLink "ChanceArena$Program" (57 : Nat) "ChanceArena$Program" "length" "I") ∈ lw_R := zR (zk_2 _ (List.mem_of_getElem? (i := 28) (by decide +kernel))) rfl
theorem k2_32 : (Jvm.Cond.fieldLink "ChanceArena$Program" (61 : Nat) "ChanceArena$Program" "vars" "I") ∈ lw_R := zR (zk_2 _ (List.mem_of_getElem? (i := 32) (by decide +kernel))) rfl
theorem k2_45 : (Jvm.Cond.fieldLink "ChanceArena$Program" (64 : Nat) "ChanceArena$Program" "names" "I") ∈ lw_R := zR (zk_2 _ (List.mem_of_getElem? (i := 45) (by decide +kernel))) rfl
theorem k2_57 : (Jvm.Cond.fieldLink "ChanceArena$Program" (70 : Nat) "ChanceArena$Program" "target" "I") ∈ lw_R := zR (zk_2 _ (List.mem_of_getElem? (i := 57) (by decide +kernel))) rfl
theorem k2_58 : (Jvm.Cond.fieldLink "ChanceArena$TextReader" (89 : Nat) "ChanceArena$Program" "target" "I") ∈ lw_R := zR (zk_2 _ (List.mem_of_getElem? (i := 58) (by decide +kernel))) rfl
theorem k2_60 : (Jvm.Cond.fieldLink "ChanceArena$Program" (67 : Nat) "ChanceArena$Program" "commands" "I") ∈ lw_R := zR (zk_2 _ (List.mem_of_getElem? (i := 60) (by decide +kernel))) rfl
theorem k4_23 : (Jvm.Cond.code ({ cls := "ChanceArena", name := "compile", desc := "()I" } : Jvm.MethodName) prog_1_method_6_code (3 : Nat) (Option.some Jvm.ClassFile.FieldType.int)) ∈ lw_R := zR (zk_4 _ (List.mem_of_getElem? (i := 23) (by decide +kernel))) rfl
theorem k4_24 : (Jvm.Cond.methodLink "ChanceArena" (120 : Nat) ({ cls := "ChanceArena$Words", name := "split", desc := "([CI)V" } : Jvm.MethodName)) ∈ lw_R := zR (zk_4 _ (List.mem_of_getElem? (i := 24) (by decide +kernel))) rfl
theorem k4_25 : (Jvm.Cond.instanceMethod ({ cls := "ChanceArena$Words", name := "split", desc := "([CI)V" } : Jvm.MethodName)) ∈ lw_R := zR (zk_4 _ (List.mem_of_getElem? (i := 25) (by decide +kernel))) rfl
theorem k4_26 : (Jvm.Cond.selects "ChanceArena$Words" ({ cls := "ChanceArena$Words", name := "split", desc := "([CI)V" } : Jvm.MethodName) ({ cls := "ChanceArena$Words", name := "split", desc := "([CI)V" } : Jvm.MethodName)) ∈ lw_R := zR (zk_4 _ (List.mem_of_getElem? (i := 26) (by decide +kernel))) rfl
theorem k4_27 : (Jvm.Cond.code ({ cls := "ChanceArena$Words", name := "split", desc := "([CI)V" } : Jvm.MethodName) prog_13_method_2_code (5 : Nat) (Option.none : Option Jvm.ClassFile.FieldType)) ∈ lw_R := zR (zk_4 _ (List.mem_of_getElem? (i := 27) (by decide +kernel))) rfl
theorem k4_28 : (Jvm.Cond.methodLink "ChanceArena$Words" (32 : Nat) ({ cls := "ChanceArena$Words", name := "reserve", desc := "(I)V" } : Jvm.MethodName)) ∈ lw_R := zR (zk_4 _ (List.mem_of_getElem? (i := 28) (by decide +kernel))) rfl
theorem k4_30 : (Jvm.Cond.instanceMethod ({ cls := "ChanceArena$Words", name := "reserve", desc := "(I)V" } : Jvm.MethodName)) ∈ lw_R := zR (zk_4 _ (List.mem_of_getElem? (i := 30) (by decide +kernel))) rfl
theorem k4_31 : (Jvm.Cond.code ({ cls := "ChanceArena$Words", name := "reserve", desc := "(I)V" } : Jvm.MethodName) prog_13_method_3_code (4 : Nat) (Option.none : Option Jvm.ClassFile.FieldType)) ∈ lw_R := zR (zk_4 _ (List.mem_of_getElem? (i := 31) (by decide +kernel))) rfl
theorem k4_32 : (Jvm.Cond.methodLink "ChanceArena$Words" (36 : Nat) ({ cls := "ChanceArena$Words", name := "afterBlanks", desc := "(I)I" } : Jvm.MethodName)) ∈ lw_R := zR (zk_4 _ (List.mem_of_getElem? (i := 32) (by decide +kernel))) rfl
theorem k4_34 : (Jvm.Cond.instanceMethod ({ cls := "ChanceArena$Words", name := "afterBlanks", desc := "(I)I" } : Jvm.MethodName)) ∈ lw_R := zR (zk_4 _ (List.mem_of_getElem? (i := 34) (by decide +kernel))) rfl
theorem k4_35 : (Jvm.Cond.code ({ cls := "ChanceArena$Words", name := "afterBlanks", desc := "(I)I" } : Jvm.MethodName) prog_13_method_5_code (5 : Nat) (Option.some Jvm.ClassFile.FieldType.int)) ∈ lw_R := zR (zk_4 _ (List.mem_of_getElem? (i := 35) (by decide +kernel))) rfl
theorem k4_119 : (Jvm.Cond.methodLink "ChanceArena$Words" (43 : Nat) ({ cls := "ChanceArena$Words", name := "add", desc := "(III)V" } : Jvm.MethodName)) ∈ lw_R := zR (zk_4 _ (List.mem_of_getElem? (i := 119) (by decide +kernel))) rfl
theorem k4_121 : (Jvm.Cond.instanceMethod ({ cls := "ChanceArena$Words", name := "add", desc := "(III)V" } : Jvm.MethodName)) ∈ lw_R := zR (zk_4 _ (List.mem_of_getElem? (i := 121) (by decide +kernel))) rfl
theorem k4_122 : (Jvm.Cond.code ({ cls := "ChanceArena$Words", name := "add", desc := "(III)V" } : Jvm.MethodName) prog_13_method_4_code (4 : Nat) (Option.none : Option Jvm.ClassFile.FieldType)) ∈ lw_R := zR (zk_4 _ (List.mem_of_getElem? (i := 122) (by decide +kernel))) rfl
theorem k4_133 : (Jvm.Cond.methodLink "ChanceArena" (124 : Nat) ({ cls := "ChanceArena$TextReader", name := "translate", desc := "(LChanceArena$Words;LChanceArena$Program;)I" } : Jvm.MethodName)) ∈ lw_R := zR (zk_4 _ (List.mem_of_getElem? (i := 133) (by decide +kernel))) rfl
theorem k4_134 : (Jvm.Cond.instanceMethod ({ cls := "ChanceArena$TextReader", name := "translate", desc := "(LChanceArena$Words;LChanceArena$Program;)I" } : Jvm.MethodName)) ∈ lw_R := zR (zk_4 _ (List.mem_of_getElem? (i := 134) (by decide +kernel))) rfl
theorem k4_135 : (Jvm.Cond.selects "ChanceArena$TextReader" ({ cls := "ChanceArena$TextReader", name := "translate", desc := "(LChanceArena$Words;LChanceArena$Program;)I" } : Jvm.MethodName) ({ cls := "ChanceArena$TextReader", name := "translate", desc := "(LChanceArena$Words;LChanceArena$Program;)I" } : Jvm.MethodName)) ∈ lw_R := zR (zk_4 _ (List.mem_of_getElem? (i := 135) (by decide +kernel))) rfl
theorem k4_136 : (Jvm.Cond.code ({ cls := "ChanceArena$TextReader", name := "translate", desc := "(LChanceArena$Words;LChanceArena$Program;)I" } : Jvm.MethodName) prog_12_method_3_code (6 : Nat) (Option.some Jvm.ClassFile.FieldType.int)) ∈ lw_R := zR (zk_4 _ (List.mem_of_getElem? (i := 136) (by decide +kernel))) rfl
theorem k4_137 : (Jvm.Cond.methodLink "ChanceArena$TextReader" (45 : Nat) ({ cls := "ChanceArena$Program", name := "clear", desc := "(I)V" } : Jvm.MethodName)) ∈ lw_R := zR (zk_4 _ (List.mem_of_getElem? (i := 137) (by decide +kernel))) rfl
theorem k4_138 : (Jvm.Cond.instanceMethod ({ cls := "ChanceArena$Program", name := "clear", desc := "(I)V" } : Jvm.MethodName)) ∈ lw_R := zR (zk_4 _ (List.mem_of_getElem? (i := 138) (by decide +kernel))) rfl
theorem k4_139 : (Jvm.Cond.selects "ChanceArena$Program" ({ cls := "ChanceArena$Program", name := "clear", desc := "(I)V" } : Jvm.MethodName) ({ cls := "ChanceArena$Program", name := "clear", desc := "(I)V" } : Jvm.MethodName)) ∈ lw_R := zR (zk_4 _ (List.mem_of_getElem? (i := 139) (by decide +kernel))) rfl
theorem k4_140 : (Jvm.Cond.code ({ cls := "ChanceArena$Program", name := "clear", desc := "(I)V" } : Jvm.MethodName) prog_7_method_2_code (4 : Nat) (Option.none : Option Jvm.ClassFile.FieldType)) ∈ lw_R := zR (zk_4 _ (List.mem_of_getElem? (i := 140) (by decide +kernel))) rfl
theorem k4_141 : (Jvm.Cond.methodLink "ChanceArena$TextReader" (52 : Nat) ({ cls := "ChanceArena$RuleReader", name := "begin", desc := "(LChanceArena$Words;LChanceArena$Program;)V" } : Jvm.MethodName)) ∈ lw_R := zR (zk_4 _ (List.mem_of_getElem? (i := 141) (by decide +kernel))) rfl
theorem k4_142 : (Jvm.Cond.instanceMethod ({ cls := "ChanceArena$RuleReader", name := "begin", desc := "(LChanceArena$Words;LChanceArena$Program;)V" } : Jvm.MethodName)) ∈ lw_R := zR (zk_4 _ (List.mem_of_getElem? (i := 142) (by decide +kernel))) rfl
theorem k4_143 : (Jvm.Cond.selects "ChanceArena$RuleReader" ({ cls := "ChanceArena$RuleReader", name := "begin", desc := "(LChanceArena$Words;LChanceArena$Program;)V" } : Jvm.MethodName) ({ cls := "ChanceArena$RuleReader", name := "begin", desc := "(LChanceArena$Words;LChanceArena$Program;)V" } : Jvm.MethodName)) ∈ lw_R := zR (zk_4 _ (List.mem_of_getElem? (i := 143) (by decide +kernel))) rfl
theorem k4_144 : (Jvm.Cond.code ({ cls := "ChanceArena$RuleReader", name := "begin", desc := "(LChanceArena$Words;LChanceArena$Program;)V" } : Jvm.MethodName) prog_9_method_2_code (3 : Nat) (Option.none : Option Jvm.ClassFile.FieldType)) ∈ lw_R := zR (zk_4 _ (List.mem_of_getElem? (i := 144) (by decide +kernel))) rfl
theorem k4_157 : (Jvm.Cond.methodLink "ChanceArena$TextReader" (95 : Nat) ({ cls := "ChanceArena$RuleReader", name := "note", desc := "(II)V" } : Jvm.MethodName)) ∈ lw_R := zR (zk_4 _ (List.mem_of_getElem? (i := 157) (by decide +kernel))) rfl
theorem k4_158 : (Jvm.Cond.instanceMethod ({ cls := "ChanceArena$RuleReader", name := "note", desc := "(II)V" } : Jvm.MethodName)) ∈ lw_R := zR (zk_4 _ (List.mem_of_getElem? (i := 158) (by decide +kernel))) rfl
theorem k4_159 : (Jvm.Cond.selects "ChanceArena$RuleReader" ({ cls := "ChanceArena$RuleReader", name := "note", desc := "(II)V" } : Jvm.MethodName) ({ cls := "ChanceArena$RuleReader", name := "note", desc := "(II)V" } : Jvm.MethodName)) ∈ lw_R := zR (zk_4 _ (List.mem_of_getElem? (i := 159) (by decide +kernel))) rfl
theorem k4_160 : (Jvm.Cond.code ({ cls := "ChanceArena$RuleReader", name := "note", desc := "(II)V" } : Jvm.MethodName) prog_9_method_5_code (3 : Nat) (Option.none : Option Jvm.ClassFile.FieldType)) ∈ lw_R := zR (zk_4 _ (List.mem_of_getElem? (i := 160) (by decide +kernel))) rfl
theorem k5_116 : (Jvm.Cond.methodLink "ChanceArena" (128 : Nat) ({ cls := "ChanceArena$TextReader", name := "faultPlace", desc := "()I" } : Jvm.MethodName)) ∈ lw_R := zR (zk_5 _ (List.mem_of_getElem? (i := 116) (by decide +kernel))) rfl
theorem k5_117 : (Jvm.Cond.instanceMethod ({ cls := "ChanceArena$TextReader", name := "faultPlace", desc := "()I" } : Jvm.MethodName)) ∈ lw_R := zR (zk_5 _ (List.mem_of_getElem? (i := 117) (by decide +kernel))) rfl
theorem k5_118 : (Jvm.Cond.selects "ChanceArena$TextReader" ({ cls := "ChanceArena$TextReader", name := "faultPlace", desc := "()I" } : Jvm.MethodName) ({ cls := "ChanceArena$TextReader", name := "faultPlace", desc := "()I" } : Jvm.MethodName)) ∈ lw_R := zR (zk_5 _ (List.mem_of_getElem? (i := 118) (by decide +kernel))) rfl
theorem k5_119 : (Jvm.Cond.code ({ cls := "ChanceArena$TextReader", name := "faultPlace", desc := "()I" } : Jvm.MethodName) prog_12_method_2_code (1 : Nat) (Option.some Jvm.ClassFile.FieldType.int)) ∈ lw_R := zR (zk_5 _ (List.mem_of_getElem? (i := 119) (by decide +kernel))) rfl
theorem d_Wo_reserve_0 : decode prog_13_method_3_code 0 = .ok (.aload_n 0, 1) := dc9_42 (by decide +kernel)
theorem d_Wo_reserve_1 : decode prog_13_method_3_code 1 = .ok (.getfield 15, 3) := dc9_180 (by decide +kernel)
theorem d_Wo_reserve_4 : decode prog_13_method_3_code 4 = .ok (.arraylength, 1) := dc9_190 (by decide +kernel)
theorem d_Wo_reserve_5 : decode prog_13_method_3_code 5 = .ok (.istore_n 2, 1) := dc9_61 (by decide +kernel)
theorem d_Wo_reserve_6 : decode prog_13_method_3_code 6 = .ok (.iconst 0, 1) := dc9_3 (by decide +kernel)
theorem d_Wo_reserve_7 : decode prog_13_method_3_code 7 = .ok (.istore_n 3, 1) := dc9_62 (by decide +kernel)
theorem d_Wo_reserve_8 : decode prog_13_method_3_code 8 = .ok (.iload_n 3, 1) := dc9_29 (by decide +kernel)
theorem d_Wo_reserve_9 : decode prog_13_method_3_code 9 = .ok (.bipush 31, 2) := dc9_16 (by decide +kernel)
theorem d_Wo_reserve_11 : decode prog_13_method_3_code 11 = .ok (.if_icmp .ge 18, 3) := dc9_162 (by decide +kernel)
theorem d_Wo_reserve_14 : decode prog_13_method_3_code 14 = .ok (.iload_n 2, 1) := dc9_28 (by decide +kernel)
theorem d_Wo_reserve_15 : decode prog_13_method_3_code 15 = .ok (.iload_n 1, 1) := dc9_27 (by decide +kernel)
theorem d_Wo_reserve_16 : decode prog_13_method_3_code 16 = .ok (.if_icmp .ge 13, 3) := dc9_162 (by decide +kernel)
theorem d_Wo_reserve_29 : decode prog_13_method_3_code 29 = .ok (.iload_n 2, 1) := dc9_28 (by decide +kernel)
theorem d_Wo_reserve_30 : decode prog_13_method_3_code 30 = .ok (.aload_n 0, 1) := dc9_42 (by decide +kernel)
theorem d_Wo_reserve_31 : decode prog_13_method_3_code 31 = .ok (.getfield 15, 3) := dc9_180 (by decide +kernel)
theorem d_Wo_reserve_34 : decode prog_13_method_3_code 34 = .ok (.arraylength, 1) := dc9_190 (by decide +kernel)
theorem d_Wo_reserve_35 : decode prog_13_method_3_code 35 = .ok (.if_icmp .le 24, 3) := dc9_164 (by decide +kernel)
theorem d_Wo_reserve_59 : decode prog_13_method_3_code 59 = .ok (.return_, 1) := dc9_177 (by decide +kernel)
theorem d_Wo_afterBlanks_0 : decode prog_13_method_5_code 0 = .ok (.iconst 0, 1) := dc9_3 (by decide +kernel)
theorem d_Wo_afterBlanks_1 : decode prog_13_method_5_code 1 = .ok (.istore_n 2, 1) := dc9_61 (by decide +kernel)
theorem d_Wo_afterBlanks_2 : decode prog_13_method_5_code 2 = .ok (.iload_n 1, 1) := dc9_27 (by decide +kernel)
theorem d_Wo_afterBlanks_3 : decode prog_13_method_5_code 3 = .ok (.istore_n 3, 1) := dc9_62 (by decide +kernel)
theorem d_Wo_afterBlanks_4 : decode prog_13_method_5_code 4 = .ok (.iload_n 3, 1) := dc9_29 (by decide +kernel)
theorem d_Wo_afterBlanks_5 : decode prog_13_method_5_code 5 = .ok (.aload_n 0, 1) := dc9_42 (by decide +kernel)
theorem d_Wo_afterBlanks_6 : decode prog_13_method_5_code 6 = .ok (.getfield 25, 3) := dc9_180 (by decide +kernel)
theorem d_Wo_afterBlanks_9 : decode prog_13_method_5_code 9 = .ok (.if_icmp .ge 75, 3) := dc9_162 (by decide +kernel)
theorem d_Wo_afterBlanks_84 : decode prog_13_method_5_code 84 = .ok (.aload_n 0, 1) := dc9_42 (by decide +kernel)
theorem d_Wo_afterBlanks_85 : decode prog_13_method_5_code 85 = .ok (.getfield 25, 3) := dc9_180 (by decide +kernel)
theorem d_Wo_afterBlanks_88 : decode prog_13_method_5_code 88 = .ok (.ireturn, 1) := dc9_172 (by decide +kernel)
theorem d_Wo_add_0 : decode prog_13_method_4_code 0 = .ok (.aload_n 0, 1) := dc9_42 (by decide +kernel)
theorem d_Wo_add_1 : decode prog_13_method_4_code 1 = .ok (.getfield 15, 3) := dc9_180 (by decide +kernel)
theorem d_Wo_add_4 : decode prog_13_method_4_code 4 = .ok (.aload_n 0, 1) := dc9_42 (by decide +kernel)
theorem d_Wo_add_5 : decode prog_13_method_4_code 5 = .ok (.getfield 29, 3) := dc9_180 (by decide +kernel)
theorem d_Wo_add_8 : decode prog_13_method_4_code 8 = .ok (.iload_n 1, 1) := dc9_27 (by decide +kernel)
theorem d_Wo_add_9 : decode prog_13_method_4_code 9 = .ok (.iastore, 1) := dc9_79 (by decide +kernel)
theorem d_Wo_add_10 : decode prog_13_method_4_code 10 = .ok (.aload_n 0, 1) := dc9_42 (by decide +kernel)
theorem d_Wo_add_11 : decode prog_13_method_4_code 11 = .ok (.getfield 19, 3) := dc9_180 (by decide +kernel)
theorem d_Wo_add_14 : decode prog_13_method_4_code 14 = .ok (.aload_n 0, 1) := dc9_42 (by decide +kernel)
theorem d_Wo_add_15 : decode prog_13_method_4_code 15 = .ok (.getfield 29, 3) := dc9_180 (by decide +kernel)
theorem d_Wo_add_18 : decode prog_13_method_4_code 18 = .ok (.iload_n 2, 1) := dc9_28 (by decide +kernel)
theorem d_Wo_add_19 : decode prog_13_method_4_code 19 = .ok (.iastore, 1) := dc9_79 (by decide +kernel)
theorem d_Wo_add_20 : decode prog_13_method_4_code 20 = .ok (.aload_n 0, 1) := dc9_42 (by decide +kernel)
theorem d_Wo_add_21 : decode prog_13_method_4_code 21 = .ok (.getfield 22, 3) := dc9_180 (by decide +kernel)
theorem d_Wo_add_24 : decode prog_13_method_4_code 24 = .ok (.aload_n 0, 1) := dc9_42 (by decide +kernel)
theorem d_Wo_add_25 : decode prog_13_method_4_code 25 = .ok (.getfield 29, 3) := dc9_180 (by decide +kernel)
theorem d_Wo_add_28 : decode prog_13_method_4_code 28 = .ok (.iload_n 3, 1) := dc9_29 (by decide +kernel)
theorem d_Wo_add_29 : decode prog_13_method_4_code 29 = .ok (.iastore, 1) := dc9_79 (by decide +kernel)
theorem d_Wo_add_30 : decode prog_13_method_4_code 30 = .ok (.aload_n 0, 1) := dc9_42 (by decide +kernel)
theorem d_Wo_add_31 : decode prog_13_method_4_code 31 = .ok (.dup, 1) := dc9_89 (by decide +kernel)
theorem d_Wo_add_32 : decode prog_13_method_4_code 32 = .ok (.getfield 29, 3) := dc9_180 (by decide +kernel)
theorem d_Wo_add_35 : decode prog_13_method_4_code 35 = .ok (.iconst 1, 1) := dc9_4 (by decide +kernel)
theorem d_Wo_add_36 : decode prog_13_method_4_code 36 = .ok (.iadd, 1) := dc9_96 (by decide +kernel)
theorem d_Wo_add_37 : decode prog_13_method_4_code 37 = .ok (.putfield 29, 3) := dc9_181 (by decide +kernel)
theorem d_Wo_add_40 : decode prog_13_method_4_code 40 = .ok (.return_, 1) := dc9_177 (by decide +kernel)
theorem d_Wo_split_0 : decode prog_13_method_2_code 0 = .ok (.aload_n 0, 1) := dc9_42 (by decide +kernel)
theorem d_Wo_split_1 : decode prog_13_method_2_code 1 = .ok (.aload_n 1, 1) := dc9_43 (by decide +kernel)
theorem d_Wo_split_2 : decode prog_13_method_2_code 2 = .ok (.putfield 9, 3) := dc9_181 (by decide +kernel)
theorem d_Wo_split_5 : decode prog_13_method_2_code 5 = .ok (.aload_n 0, 1) := dc9_42 (by decide +kernel)
theorem d_Wo_split_6 : decode prog_13_method_2_code 6 = .ok (.iload_n 2, 1) := dc9_28 (by decide +kernel)
theorem d_Wo_split_7 : decode prog_13_method_2_code 7 = .ok (.putfield 25, 3) := dc9_181 (by decide +kernel)
theorem d_Wo_split_10 : decode prog_13_method_2_code 10 = .ok (.aload_n 0, 1) := dc9_42 (by decide +kernel)
theorem d_Wo_split_11 : decode prog_13_method_2_code 11 = .ok (.iconst 0, 1) := dc9_3 (by decide +kernel)
theorem d_Wo_split_12 : decode prog_13_method_2_code 12 = .ok (.putfield 29, 3) := dc9_181 (by decide +kernel)
theorem d_Wo_split_15 : decode prog_13_method_2_code 15 = .ok (.aload_n 0, 1) := dc9_42 (by decide +kernel)
theorem d_Wo_split_16 : decode prog_13_method_2_code 16 = .ok (.aload_n 0, 1) := dc9_42 (by decide +kernel)
theorem d_Wo_split_17 : decode prog_13_method_2_code 17 = .ok (.getfield 25, 3) := dc9_180 (by decide +kernel)
theorem d_Wo_split_20 : decode prog_13_method_2_code 20 = .ok (.iconst 2, 1) := dc9_5 (by decide +kernel)
theorem d_Wo_split_21 : decode prog_13_method_2_code 21 = .ok (.iadd, 1) := dc9_96 (by decide +kernel)
theorem d_Wo_split_22 : decode prog_13_method_2_code 22 = .ok (.invokevirtual 32, 3) := dc9_182 (by decide +kernel)
theorem ks_Wo_reserve : Cond.selects "ChanceArena$Words" ({ cls := "ChanceArena$Words", name := "reserve", desc := "(I)V" } : Jvm.MethodName) ({ cls := "ChanceArena$Words", name := "reserve", desc := "(I)V" } : Jvm.MethodName) ∈ lw_R := zR (List.mem_append_left _ (List.mem_of_getElem? (i := 2) (by decide +kernel))) rfl
theorem d_Wo_split_25 : decode prog_13_method_2_code 25 = .ok (.aload_n 0, 1) := dc9_42 (by decide +kernel)
theorem d_Wo_split_26 : decode prog_13_method_2_code 26 = .ok (.iconst 0, 1) := dc9_3 (by decide +kernel)
theorem d_Wo_split_27 : decode prog_13_method_2_code 27 = .ok (.invokevirtual 36, 3) := dc9_182 (by decide +kernel)
theorem ks_Wo_afterBlanks : Cond.selects "ChanceArena$Words" ({ cls := "ChanceArena$Words", name := "afterBlanks", desc := "(I)I" } : Jvm.MethodName) ({ cls := "ChanceArena$Words", name := "afterBlanks", desc := "(I)I" } : Jvm.MethodName) ∈ lw_R := zR (List.mem_append_left _ (List.mem_of_getElem? (i := 3) (by decide +kernel))) rfl
theorem d_Wo_split_30 : decode prog_13_method_2_code 30 = .ok (.istore_n 3, 1) := dc9_62 (by decide +kernel)
theorem d_Wo_split_31 : decode prog_13_method_2_code 31 = .ok (.iconst 0, 1) := dc9_3 (by decide +kernel)
theorem d_Wo_split_32 : decode prog_13_method_2_code 32 = .ok (.istore 4, 2) := dc9_54 (by decide +kernel)
theorem d_Wo_split_34 : decode prog_13_method_2_code 34 = .ok (.iload 4, 2) := dc9_21 (by decide +kernel)
theorem d_Wo_split_36 : decode prog_13_method_2_code 36 = .ok (.aload_n 0, 1) := dc9_42 (by decide +kernel)
theorem d_Wo_split_37 : decode prog_13_method_2_code 37 = .ok (.getfield 25, 3) := dc9_180 (by decide +kernel)
theorem d_Wo_split_40 : decode prog_13_method_2_code 40 = .ok (.if_icmp .ge 27, 3) := dc9_162 (by decide +kernel)
theorem d_Wo_split_67 : decode prog_13_method_2_code 67 = .ok (.aload_n 0, 1) := dc9_42 (by decide +kernel)
theorem d_Wo_split_68 : decode prog_13_method_2_code 68 = .ok (.iconst 0, 1) := dc9_3 (by decide +kernel)
theorem d_Wo_split_69 : decode prog_13_method_2_code 69 = .ok (.aload_n 0, 1) := dc9_42 (by decide +kernel)
theorem d_Wo_split_70 : decode prog_13_method_2_code 70 = .ok (.getfield 25, 3) := dc9_180 (by decide +kernel)
theorem d_Wo_split_73 : decode prog_13_method_2_code 73 = .ok (.iconst 0, 1) := dc9_3 (by decide +kernel)
theorem d_Wo_split_74 : decode prog_13_method_2_code 74 = .ok (.invokevirtual 43, 3) := dc9_182 (by decide +kernel)
theorem ks_Wo_add : Cond.selects "ChanceArena$Words" ({ cls := "ChanceArena$Words", name := "add", desc := "(III)V" } : Jvm.MethodName) ({ cls := "ChanceArena$Words", name := "add", desc := "(III)V" } : Jvm.MethodName) ∈ lw_R := zR (List.mem_append_left _ (List.mem_of_getElem? (i := 8) (by decide +kernel))) rfl
theorem d_Wo_split_77 : decode prog_13_method_2_code 77 = .ok (.return_, 1) := dc9_177 (by decide +kernel)
theorem d_Pr_clear_0 : decode prog_7_method_2_code 0 = .ok (.aload_n 0, 1) := dc9_42 (by decide +kernel)
theorem d_Pr_clear_1 : decode prog_7_method_2_code 1 = .ok (.iconst 0, 1) := dc9_3 (by decide +kernel)
theorem d_Pr_clear_2 : decode prog_7_method_2_code 2 = .ok (.putfield 57, 3) := dc9_181 (by decide +kernel)
theorem d_Pr_clear_5 : decode prog_7_method_2_code 5 = .ok (.aload_n 0, 1) := dc9_42 (by decide +kernel)
theorem d_Pr_clear_6 : decode prog_7_method_2_code 6 = .ok (.iconst 0, 1) := dc9_3 (by decide +kernel)
theorem d_Pr_clear_7 : decode prog_7_method_2_code 7 = .ok (.putfield 61, 3) := dc9_181 (by decide +kernel)
theorem d_Pr_clear_10 : decode prog_7_method_2_code 10 = .ok (.aload_n 0, 1) := dc9_42 (by decide +kernel)
theorem d_Pr_clear_11 : decode prog_7_method_2_code 11 = .ok (.iconst 0, 1) := dc9_3 (by decide +kernel)
theorem d_Pr_clear_12 : decode prog_7_method_2_code 12 = .ok (.putfield 64, 3) := dc9_181 (by decide +kernel)
theorem d_Pr_clear_15 : decode prog_7_method_2_code 15 = .ok (.aload_n 0, 1) := dc9_42 (by decide +kernel)
theorem d_Pr_clear_16 : decode prog_7_method_2_code 16 = .ok (.iconst 0, 1) := dc9_3 (by decide +kernel)
theorem d_Pr_clear_17 : decode prog_7_method_2_code 17 = .ok (.putfield 67, 3) := dc9_181 (by decide +kernel)
theorem d_Pr_clear_20 : decode prog_7_method_2_code 20 = .ok (.aload_n 0, 1) := dc9_42 (by decide +kernel)
theorem d_Pr_clear_21 : decode prog_7_method_2_code 21 = .ok (.iconst (-1), 1) := dc9_2 (by decide +kernel)
theorem d_Pr_clear_22 : decode prog_7_method_2_code 22 = .ok (.putfield 70, 3) := dc9_181 (by decide +kernel)
theorem d_Pr_clear_25 : decode prog_7_method_2_code 25 = .ok (.aload_n 0, 1) := dc9_42 (by decide +kernel)
theorem d_Pr_clear_26 : decode prog_7_method_2_code 26 = .ok (.getfield 45, 3) := dc9_180 (by decide +kernel)
theorem d_Pr_clear_29 : decode prog_7_method_2_code 29 = .ok (.iconst 0, 1) := dc9_3 (by decide +kernel)
theorem d_Pr_clear_30 : decode prog_7_method_2_code 30 = .ok (.iconst 0, 1) := dc9_3 (by decide +kernel)
theorem d_Pr_clear_31 : decode prog_7_method_2_code 31 = .ok (.iastore, 1) := dc9_79 (by decide +kernel)
theorem d_Pr_clear_32 : decode prog_7_method_2_code 32 = .ok (.aload_n 0, 1) := dc9_42 (by decide +kernel)
theorem d_Pr_clear_33 : decode prog_7_method_2_code 33 = .ok (.getfield 9, 3) := dc9_180 (by decide +kernel)
theorem d_Pr_clear_36 : decode prog_7_method_2_code 36 = .ok (.arraylength, 1) := dc9_190 (by decide +kernel)
theorem d_Pr_clear_37 : decode prog_7_method_2_code 37 = .ok (.istore_n 2, 1) := dc9_61 (by decide +kernel)
theorem d_Pr_clear_38 : decode prog_7_method_2_code 38 = .ok (.iconst 0, 1) := dc9_3 (by decide +kernel)
theorem d_Pr_clear_39 : decode prog_7_method_2_code 39 = .ok (.istore_n 3, 1) := dc9_62 (by decide +kernel)
theorem d_Pr_clear_40 : decode prog_7_method_2_code 40 = .ok (.iload_n 3, 1) := dc9_29 (by decide +kernel)
theorem d_Pr_clear_41 : decode prog_7_method_2_code 41 = .ok (.bipush 31, 2) := dc9_16 (by decide +kernel)
theorem d_Pr_clear_43 : decode prog_7_method_2_code 43 = .ok (.if_icmp .ge 18, 3) := dc9_162 (by decide +kernel)
theorem d_Pr_clear_46 : decode prog_7_method_2_code 46 = .ok (.iload_n 2, 1) := dc9_28 (by decide +kernel)
theorem d_Pr_clear_47 : decode prog_7_method_2_code 47 = .ok (.iload_n 1, 1) := dc9_27 (by decide +kernel)
theorem d_Pr_clear_48 : decode prog_7_method_2_code 48 = .ok (.if_icmp .ge 13, 3) := dc9_162 (by decide +kernel)
theorem d_Pr_clear_61 : decode prog_7_method_2_code 61 = .ok (.iload_n 2, 1) := dc9_28 (by decide +kernel)
theorem d_Pr_clear_62 : decode prog_7_method_2_code 62 = .ok (.aload_n 0, 1) := dc9_42 (by decide +kernel)
theorem d_Pr_clear_63 : decode prog_7_method_2_code 63 = .ok (.getfield 9, 3) := dc9_180 (by decide +kernel)
theorem d_Pr_clear_66 : decode prog_7_method_2_code 66 = .ok (.arraylength, 1) := dc9_190 (by decide +kernel)
theorem d_Pr_clear_67 : decode prog_7_method_2_code 67 = .ok (.if_icmp .le 17, 3) := dc9_164 (by decide +kernel)
theorem d_Pr_clear_84 : decode prog_7_method_2_code 84 = .ok (.return_, 1) := dc9_177 (by decide +kernel)
theorem d_RR_begin_0 : decode prog_9_method_2_code 0 = .ok (.aload_n 0, 1) := dc9_42 (by decide +kernel)
theorem d_RR_begin_1 : decode prog_9_method_2_code 1 = .ok (.aload_n 1, 1) := dc9_43 (by decide +kernel)
theorem d_RR_begin_2 : decode prog_9_method_2_code 2 = .ok (.putfield 40, 3) := dc9_181 (by decide +kernel)
theorem d_RR_begin_5 : decode prog_9_method_2_code 5 = .ok (.aload_n 0, 1) := dc9_42 (by decide +kernel)
theorem d_RR_begin_6 : decode prog_9_method_2_code 6 = .ok (.aload_n 2, 1) := dc9_44 (by decide +kernel)
theorem d_RR_begin_7 : decode prog_9_method_2_code 7 = .ok (.putfield 44, 3) := dc9_181 (by decide +kernel)
theorem d_RR_begin_10 : decode prog_9_method_2_code 10 = .ok (.aload_n 0, 1) := dc9_42 (by decide +kernel)
theorem d_RR_begin_11 : decode prog_9_method_2_code 11 = .ok (.iconst 0, 1) := dc9_3 (by decide +kernel)
theorem d_RR_begin_12 : decode prog_9_method_2_code 12 = .ok (.putfield 48, 3) := dc9_181 (by decide +kernel)
theorem d_RR_begin_15 : decode prog_9_method_2_code 15 = .ok (.aload_n 0, 1) := dc9_42 (by decide +kernel)
theorem d_RR_begin_16 : decode prog_9_method_2_code 16 = .ok (.iconst 0, 1) := dc9_3 (by decide +kernel)
theorem d_RR_begin_17 : decode prog_9_method_2_code 17 = .ok (.putfield 52, 3) := dc9_181 (by decide +kernel)
theorem d_RR_begin_20 : decode prog_9_method_2_code 20 = .ok (.aload_n 0, 1) := dc9_42 (by decide +kernel)
theorem d_RR_begin_21 : decode prog_9_method_2_code 21 = .ok (.iconst (-1), 1) := dc9_2 (by decide +kernel)
theorem d_RR_begin_22 : decode prog_9_method_2_code 22 = .ok (.putfield 55, 3) := dc9_181 (by decide +kernel)
theorem d_RR_begin_25 : decode prog_9_method_2_code 25 = .ok (.aload_n 0, 1) := dc9_42 (by decide +kernel)
theorem d_RR_begin_26 : decode prog_9_method_2_code 26 = .ok (.iconst 0, 1) := dc9_3 (by decide +kernel)
theorem d_RR_begin_27 : decode prog_9_method_2_code 27 = .ok (.putfield 58, 3) := dc9_181 (by decide +kernel)
theorem d_RR_begin_30 : decode prog_9_method_2_code 30 = .ok (.aload_n 0, 1) := dc9_42 (by decide +kernel)
theorem d_RR_begin_31 : decode prog_9_method_2_code 31 = .ok (.iconst 0, 1) := dc9_3 (by decide +kernel)
theorem d_RR_begin_32 : decode prog_9_method_2_code 32 = .ok (.putfield 61, 3) := dc9_181 (by decide +kernel)
theorem d_RR_begin_35 : decode prog_9_method_2_code 35 = .ok (.return_, 1) := dc9_177 (by decide +kernel)
theorem d_RR_note_0 : decode prog_9_method_5_code 0 = .ok (.aload_n 0, 1) := dc9_42 (by decide +kernel)
theorem d_RR_note_1 : decode prog_9_method_5_code 1 = .ok (.getfield 52, 3) := dc9_180 (by decide +kernel)
theorem d_RR_note_4 : decode prog_9_method_5_code 4 = .ok (.ifCond .ne 13, 3) := dc9_154 (by decide +kernel)
theorem d_RR_note_7 : decode prog_9_method_5_code 7 = .ok (.aload_n 0, 1) := dc9_42 (by decide +kernel)
theorem d_RR_note_8 : decode prog_9_method_5_code 8 = .ok (.iload_n 1, 1) := dc9_27 (by decide +kernel)
theorem d_RR_note_9 : decode prog_9_method_5_code 9 = .ok (.putfield 52, 3) := dc9_181 (by decide +kernel)
theorem d_RR_note_12 : decode prog_9_method_5_code 12 = .ok (.aload_n 0, 1) := dc9_42 (by decide +kernel)
theorem d_RR_note_13 : decode prog_9_method_5_code 13 = .ok (.iload_n 2, 1) := dc9_28 (by decide +kernel)
theorem d_RR_note_14 : decode prog_9_method_5_code 14 = .ok (.putfield 55, 3) := dc9_181 (by decide +kernel)
theorem d_RR_note_17 : decode prog_9_method_5_code 17 = .ok (.return_, 1) := dc9_177 (by decide +kernel)
theorem d_TR_translate_0 : decode prog_12_method_3_code 0 = .ok (.aload_n 0, 1) := dc9_42 (by decide +kernel)
theorem d_TR_translate_1 : decode prog_12_method_3_code 1 = .ok (.aload_n 2, 1) := dc9_44 (by decide +kernel)
theorem d_TR_translate_2 : decode prog_12_method_3_code 2 = .ok (.putfield 36, 3) := dc9_181 (by decide +kernel)
theorem d_TR_translate_5 : decode prog_12_method_3_code 5 = .ok (.aload_n 0, 1) := dc9_42 (by decide +kernel)
theorem d_TR_translate_6 : decode prog_12_method_3_code 6 = .ok (.getfield 36, 3) := dc9_180 (by decide +kernel)
theorem d_TR_translate_9 : decode prog_12_method_3_code 9 = .ok (.aload_n 1, 1) := dc9_43 (by decide +kernel)
theorem d_TR_translate_10 : decode prog_12_method_3_code 10 = .ok (.getfield 40, 3) := dc9_180 (by decide +kernel)
theorem d_TR_translate_13 : decode prog_12_method_3_code 13 = .ok (.invokevirtual 45, 3) := dc9_182 (by decide +kernel)
theorem d_TR_translate_16 : decode prog_12_method_3_code 16 = .ok (.aload_n 0, 1) := dc9_42 (by decide +kernel)
theorem d_TR_translate_17 : decode prog_12_method_3_code 17 = .ok (.getfield 21, 3) := dc9_180 (by decide +kernel)
theorem d_TR_translate_20 : decode prog_12_method_3_code 20 = .ok (.aload_n 0, 1) := dc9_42 (by decide +kernel)
theorem d_TR_translate_21 : decode prog_12_method_3_code 21 = .ok (.getfield 36, 3) := dc9_180 (by decide +kernel)
theorem d_TR_translate_24 : decode prog_12_method_3_code 24 = .ok (.putfield 51, 3) := dc9_181 (by decide +kernel)
theorem d_TR_translate_27 : decode prog_12_method_3_code 27 = .ok (.aload_n 0, 1) := dc9_42 (by decide +kernel)
theorem d_TR_translate_28 : decode prog_12_method_3_code 28 = .ok (.getfield 12, 3) := dc9_180 (by decide +kernel)
theorem d_TR_translate_31 : decode prog_12_method_3_code 31 = .ok (.aload_n 1, 1) := dc9_43 (by decide +kernel)
theorem d_TR_translate_32 : decode prog_12_method_3_code 32 = .ok (.aload_n 0, 1) := dc9_42 (by decide +kernel)
theorem d_TR_translate_33 : decode prog_12_method_3_code 33 = .ok (.getfield 36, 3) := dc9_180 (by decide +kernel)
theorem d_TR_translate_36 : decode prog_12_method_3_code 36 = .ok (.invokevirtual 52, 3) := dc9_182 (by decide +kernel)
theorem d_TR_translate_39 : decode prog_12_method_3_code 39 = .ok (.iconst 0, 1) := dc9_3 (by decide +kernel)
theorem d_TR_translate_40 : decode prog_12_method_3_code 40 = .ok (.istore_n 3, 1) := dc9_62 (by decide +kernel)
theorem d_TR_translate_41 : decode prog_12_method_3_code 41 = .ok (.iload_n 3, 1) := dc9_29 (by decide +kernel)
theorem d_TR_translate_42 : decode prog_12_method_3_code 42 = .ok (.aload_n 1, 1) := dc9_43 (by decide +kernel)
theorem d_TR_translate_43 : decode prog_12_method_3_code 43 = .ok (.getfield 40, 3) := dc9_180 (by decide +kernel)
theorem d_TR_translate_46 : decode prog_12_method_3_code 46 = .ok (.if_icmp .ge 178, 3) := dc9_162 (by decide +kernel)
theorem d_TR_translate_49 : decode prog_12_method_3_code 49 = .ok (.aload_n 1, 1) := dc9_43 (by decide +kernel)
theorem d_TR_translate_50 : decode prog_12_method_3_code 50 = .ok (.getfield 56, 3) := dc9_180 (by decide +kernel)
theorem d_TR_translate_53 : decode prog_12_method_3_code 53 = .ok (.aload_n 0, 1) := dc9_42 (by decide +kernel)
theorem d_TR_translate_54 : decode prog_12_method_3_code 54 = .ok (.getfield 12, 3) := dc9_180 (by decide +kernel)
theorem d_TR_translate_57 : decode prog_12_method_3_code 57 = .ok (.getfield 59, 3) := dc9_180 (by decide +kernel)
theorem d_TR_translate_60 : decode prog_12_method_3_code 60 = .ok (.iaload, 1) := dc9_46 (by decide +kernel)
theorem d_TR_translate_61 : decode prog_12_method_3_code 61 = .ok (.ifCond .eq 163, 3) := dc9_153 (by decide +kernel)
theorem d_TR_translate_224 : decode prog_12_method_3_code 224 = .ok (.aload_n 0, 1) := dc9_42 (by decide +kernel)
theorem d_TR_translate_225 : decode prog_12_method_3_code 225 = .ok (.getfield 36, 3) := dc9_180 (by decide +kernel)
theorem d_TR_translate_228 : decode prog_12_method_3_code 228 = .ok (.getfield 89, 3) := dc9_180 (by decide +kernel)
theorem d_TR_translate_231 : decode prog_12_method_3_code 231 = .ok (.iconst (-1), 1) := dc9_2 (by decide +kernel)
theorem d_TR_translate_232 : decode prog_12_method_3_code 232 = .ok (.if_icmp .ne 16, 3) := dc9_160 (by decide +kernel)
theorem d_TR_translate_235 : decode prog_12_method_3_code 235 = .ok (.aload_n 0, 1) := dc9_42 (by decide +kernel)
theorem d_TR_translate_236 : decode prog_12_method_3_code 236 = .ok (.getfield 12, 3) := dc9_180 (by decide +kernel)
theorem d_TR_translate_239 : decode prog_12_method_3_code 239 = .ok (.bipush 10, 2) := dc9_16 (by decide +kernel)
theorem d_TR_translate_241 : decode prog_12_method_3_code 241 = .ok (.aload_n 1, 1) := dc9_43 (by decide +kernel)
theorem d_TR_translate_242 : decode prog_12_method_3_code 242 = .ok (.getfield 92, 3) := dc9_180 (by decide +kernel)
theorem d_TR_translate_245 : decode prog_12_method_3_code 245 = .ok (.invokevirtual 95, 3) := dc9_182 (by decide +kernel)
theorem d_TR_translate_248 : decode prog_12_method_3_code 248 = .ok (.aload_n 0, 1) := dc9_42 (by decide +kernel)
theorem d_TR_translate_249 : decode prog_12_method_3_code 249 = .ok (.getfield 12, 3) := dc9_180 (by decide +kernel)
theorem d_TR_translate_252 : decode prog_12_method_3_code 252 = .ok (.getfield 76, 3) := dc9_180 (by decide +kernel)
theorem d_TR_translate_255 : decode prog_12_method_3_code 255 = .ok (.ireturn, 1) := dc9_172 (by decide +kernel)
theorem d_TR_faultPlace_0 : decode prog_12_method_2_code 0 = .ok (.aload_n 0, 1) := dc9_42 (by decide +kernel)
theorem d_TR_faultPlace_1 : decode prog_12_method_2_code 1 = .ok (.getfield 12, 3) := dc9_180 (by decide +kernel)
theorem d_TR_faultPlace_4 : decode prog_12_method_2_code 4 = .ok (.getfield 32, 3) := dc9_180 (by decide +kernel)
theorem d_TR_faultPlace_7 : decode prog_12_method_2_code 7 = .ok (.ireturn, 1) := dc9_172 (by decide +kernel)
theorem d_CA_compile_0 : decode prog_1_method_6_code 0 = .ok (.aload_n 0, 1) := dc9_42 (by decide +kernel)
theorem d_CA_compile_1 : decode prog_1_method_6_code 1 = .ok (.getfield 20, 3) := dc9_180 (by decide +kernel)
theorem d_CA_compile_4 : decode prog_1_method_6_code 4 = .ok (.aload_n 0, 1) := dc9_42 (by decide +kernel)
theorem d_CA_compile_5 : decode prog_1_method_6_code 5 = .ok (.getfield 7, 3) := dc9_180 (by decide +kernel)
theorem d_CA_compile_8 : decode prog_1_method_6_code 8 = .ok (.aload_n 0, 1) := dc9_42 (by decide +kernel)
theorem d_CA_compile_9 : decode prog_1_method_6_code 9 = .ok (.getfield 13, 3) := dc9_180 (by decide +kernel)
theorem d_CA_compile_12 : decode prog_1_method_6_code 12 = .ok (.invokevirtual 120, 3) := dc9_182 (by decide +kernel)
theorem d_CA_compile_15 : decode prog_1_method_6_code 15 = .ok (.aload_n 0, 1) := dc9_42 (by decide +kernel)
theorem d_CA_compile_16 : decode prog_1_method_6_code 16 = .ok (.iconst 0, 1) := dc9_3 (by decide +kernel)
theorem d_CA_compile_17 : decode prog_1_method_6_code 17 = .ok (.putfield 13, 3) := dc9_181 (by decide +kernel)
theorem d_CA_compile_20 : decode prog_1_method_6_code 20 = .ok (.aload_n 0, 1) := dc9_42 (by decide +kernel)
theorem d_CA_compile_21 : decode prog_1_method_6_code 21 = .ok (.getfield 27, 3) := dc9_180 (by decide +kernel)
theorem d_CA_compile_24 : decode prog_1_method_6_code 24 = .ok (.aload_n 0, 1) := dc9_42 (by decide +kernel)
theorem d_CA_compile_25 : decode prog_1_method_6_code 25 = .ok (.getfield 20, 3) := dc9_180 (by decide +kernel)
theorem d_CA_compile_28 : decode prog_1_method_6_code 28 = .ok (.aload_n 0, 1) := dc9_42 (by decide +kernel)
theorem d_CA_compile_29 : decode prog_1_method_6_code 29 = .ok (.getfield 38, 3) := dc9_180 (by decide +kernel)
theorem d_CA_compile_32 : decode prog_1_method_6_code 32 = .ok (.invokevirtual 124, 3) := dc9_182 (by decide +kernel)
theorem d_CA_compile_35 : decode prog_1_method_6_code 35 = .ok (.istore_n 1, 1) := dc9_60 (by decide +kernel)
theorem d_CA_compile_36 : decode prog_1_method_6_code 36 = .ok (.aload_n 0, 1) := dc9_42 (by decide +kernel)
theorem d_CA_compile_37 : decode prog_1_method_6_code 37 = .ok (.iload_n 1, 1) := dc9_27 (by decide +kernel)
theorem d_CA_compile_38 : decode prog_1_method_6_code 38 = .ok (.ifCond .ne 7, 3) := dc9_154 (by decide +kernel)
theorem d_CA_compile_45 : decode prog_1_method_6_code 45 = .ok (.aload_n 0, 1) := dc9_42 (by decide +kernel)
theorem d_CA_compile_46 : decode prog_1_method_6_code 46 = .ok (.getfield 27, 3) := dc9_180 (by decide +kernel)
theorem d_CA_compile_49 : decode prog_1_method_6_code 49 = .ok (.invokevirtual 128, 3) := dc9_182 (by decide +kernel)
theorem d_CA_compile_52 : decode prog_1_method_6_code 52 = .ok (.putfield 45, 3) := dc9_181 (by decide +kernel)
theorem d_CA_compile_55 : decode prog_1_method_6_code 55 = .ok (.iload_n 1, 1) := dc9_27 (by decide +kernel)
theorem d_CA_compile_56 : decode prog_1_method_6_code 56 = .ok (.ifCond .ne 37, 3) := dc9_154 (by decide +kernel)
theorem d_CA_compile_93 : decode prog_1_method_6_code 93 = .ok (.iload_n 1, 1) := dc9_27 (by decide +kernel)
theorem d_CA_compile_94 : decode prog_1_method_6_code 94 = .ok (.ireturn, 1) := dc9_172 (by decide +kernel)
set_option maxHeartbeats 4000000 in
set_option maxRecDepth 100000 in
theorem c_Wo_reserve_0 (l : Launch) (D : va_G) (tA : Nat → ClassId) (sz : Nat) (w0 : Nat) (t1 : Nat) (sa : Nat) (sb : Nat) (sc : Nat) (fa : Nat → Int32) : zMv l ({ cls := "ChanceArena$Words", name := "reserve", desc := "(I)V" } : Jvm.MethodName) (zW (Jvm.Cond.code ({ cls := "ChanceArena$Words", name := "reserve", desc := "(I)V" } : Jvm.MethodName) prog_13_method_3_code (4 : Nat) (Option.none : Option Jvm.ClassFile.FieldType))) { frames := 0, cells := 0, slots := 0, locals := 0 } [.ref w0, .int 2] D tA [(w0, .inr (1, [.ref t1, .int 0, .int 0, .ref sa, .ref sb, .ref sc])), (sa, .inl (tA 0, 128, .inl (fa)))] sz (fun _ : Unit => True) (fun _ => [(w0, .inr (1, [.ref t1, .int 0, .int 0, .ref sa, .ref sb, .ref sc])), (sa, .inl (tA 0, 128, .inl (fa)))]) 0 0 := by
  refine zOpen (fun A => va_Qv (fun _ : Unit => True) (zPost D A (fun _ => [(w0, .inr (1, [.ref t1, .int 0, .int 0, .ref sa, .ref sb, .ref sc])), (sa, .inl (tA 0, 128, .inl (fa)))])) A) (lv := [(0, .ref w0), (1, .int 2)]) (by decide) rfl (Nat.le_of_ble_eq_true rfl) rfl ?_
  intro p e s m below meth c A ls hx hb hr hml hh hg hown hlocks hnm hK hA hP hD0 hAw hS hl
  have hD := zD hD0 hAw
  refine lv_aload_n hx hb d_Wo_reserve_0 rfl (lv_at hl 0 rfl) ?_
  refine va_get (D := D) (ci := 1) (v := .ref sa) (C := R_Wo) (T := T_Wo) (N := 6) hx hb hg i_Wo hown hK hP 0 rfl rfl 3 (by decide) (hg _ k1_60) (fun _ h9 => h9) rfl d_Wo_reserve_1 ?_
  refine va_alen (v := 128) hx hb hK hP 1 0 rfl rfl rfl d_Wo_reserve_4 ?_
  refine lv_istore_n (lv' := [(2, .int 128), (0, .ref w0), (1, .int 2)]) hx hb d_Wo_reserve_5 rfl hl (by decide) rfl (fun ls hl => ?_)
  refine lv_iconst (v := 0) hx hb d_Wo_reserve_6 (by decide) ?_
  refine lv_istore_n (lv' := [(3, .int 0), (2, .int 128), (0, .ref w0), (1, .int 2)]) hx hb d_Wo_reserve_7 rfl hl (by decide) rfl (fun ls hl => ?_)
  refine lv_iload_n hx hb d_Wo_reserve_8 rfl (lv_at hl 0 rfl) ?_
  refine lv_bipush (v := 31) hx hb d_Wo_reserve_9 (by decide) ?_
  refine lv_icmp_ge (tgt := 29) hx hb d_Wo_reserve_11 (by decide) (fun c9 => absurd c9 (by decide)) (fun _ => ?_)
  refine lv_iload_n hx hb d_Wo_reserve_14 rfl (lv_at hl 1 rfl) ?_
  refine lv_iload_n hx hb d_Wo_reserve_15 rfl (lv_at hl 3 rfl) ?_
  refine lv_icmp_ge (tgt := 29) hx hb d_Wo_reserve_16 (by decide) (fun _ => ?_) (fun c9 => absurd (by decide) c9)
  refine lv_iload_n hx hb d_Wo_reserve_29 rfl (lv_at hl 1 rfl) ?_
  refine lv_aload_n hx hb d_Wo_reserve_30 rfl (lv_at hl 2 rfl) ?_
  refine va_get (D := D) (ci := 1) (v := .ref sa) (C := R_Wo) (T := T_Wo) (N := 6) hx hb hg i_Wo hown hK hP 0 rfl rfl 3 (by decide) (hg _ k1_60) (fun _ h9 => h9) rfl d_Wo_reserve_31 ?_
  refine va_alen (v := 128) hx hb hK hP 1 0 rfl rfl rfl d_Wo_reserve_34 ?_
  refine lv_icmp_le (tgt := 59) hx hb d_Wo_reserve_35 (by decide) (fun _ => ?_) (fun c9 => absurd (by decide) c9)
  exact zVret (post := fun _ : Unit => True) (W1 := fun _ => [(w0, .inr (1, [.ref t1, .int 0, .int 0, .ref sa, .ref sb, .ref sc])), (sa, .inl (tA 0, 128, .inl (fa)))]) hx hb hr hlocks hP hD hS () trivial rfl d_Wo_reserve_59
set_option maxHeartbeats 4000000 in
set_option maxRecDepth 100000 in
theorem c_Wo_afterBlanks_0 (l : Launch) (D : va_G) (tA : Nat → ClassId) (sz : Nat) (w0 : Nat) (t1 : Nat) (sa : Nat) (sb : Nat) (sc : Nat) : zMi l ({ cls := "ChanceArena$Words", name := "afterBlanks", desc := "(I)I" } : Jvm.MethodName) (zW (Jvm.Cond.code ({ cls := "ChanceArena$Words", name := "afterBlanks", desc := "(I)I" } : Jvm.MethodName) prog_13_method_5_code (5 : Nat) (Option.some Jvm.ClassFile.FieldType.int))) { frames := 0, cells := 0, slots := 0, locals := 0 } [.ref w0, .int 0] D tA [(w0, .inr (1, [.ref t1, .int 0, .int 0, .ref sa, .ref sb, .ref sc]))] sz (fun r (_ : Unit) => r = 0) (fun _ => [(w0, .inr (1, [.ref t1, .int 0, .int 0, .ref sa, .ref sb, .ref sc]))]) 0 0 := by
  refine zOpen (fun A => va_Qi (fun r (_ : Unit) => r = 0) (zPost D A (fun _ => [(w0, .inr (1, [.ref t1, .int 0, .int 0, .ref sa, .ref sb, .ref sc]))])) A) (lv := [(0, .ref w0), (1, .int 0)]) (by decide) rfl (Nat.le_of_ble_eq_true rfl) rfl ?_
  intro p e s m below meth c A ls hx hb hr hml hh hg hown hlocks hnm hK hA hP hD0 hAw hS hl
  have hD := zD hD0 hAw
  refine lv_iconst (v := 0) hx hb d_Wo_afterBlanks_0 (by decide) ?_
  refine lv_istore_n (lv' := [(2, .int 0), (0, .ref w0), (1, .int 0)]) hx hb d_Wo_afterBlanks_1 rfl hl (by decide) rfl (fun ls hl => ?_)
  refine lv_iload_n hx hb d_Wo_afterBlanks_2 rfl (lv_at hl 2 rfl) ?_
  refine lv_istore_n (lv' := [(3, .int 0), (2, .int 0), (0, .ref w0), (1, .int 0)]) hx hb d_Wo_afterBlanks_3 rfl hl (by decide) rfl (fun ls hl => ?_)
  refine lv_iload_n hx hb d_Wo_afterBlanks_4 rfl (lv_at hl 0 rfl) ?_
  refine lv_aload_n hx hb d_Wo_afterBlanks_5 rfl (lv_at hl 2 rfl) ?_
  refine va_get (D := D) (ci := 1) (v := .int 0) (C := R_Wo) (T := T_Wo) (N := 6) hx hb hg i_Wo hown hK hP 0 rfl rfl 1 (by decide) (hg _ k1_55) (fun _ h9 => h9) rfl d_Wo_afterBlanks_6 ?_
  refine lv_icmp_ge (tgt := 84) hx hb d_Wo_afterBlanks_9 (by decide) (fun _ => ?_) (fun c9 => absurd (by decide) c9)
  refine lv_aload_n hx hb d_Wo_afterBlanks_84 rfl (lv_at hl 2 rfl) ?_
  refine va_get (D := D) (ci := 1) (v := .int 0) (C := R_Wo) (T := T_Wo) (N := 6) hx hb hg i_Wo hown hK hP 0 rfl rfl 1 (by decide) (hg _ k1_55) (fun _ h9 => h9) rfl d_Wo_afterBlanks_85 ?_
  exact zZret (post := fun r (_ : Unit) => r = 0) (W1 := fun _ => [(w0, .inr (1, [.ref t1, .int 0, .int 0, .ref sa, .ref sb, .ref sc]))]) (v := 0) hx hb hr rfl hlocks hP hD hS () rfl rfl d_Wo_afterBlanks_88
set_option maxHeartbeats 4000000 in
set_option maxRecDepth 100000 in
theorem c_Wo_add_0 (l : Launch) (D : va_G) (tA : Nat → ClassId) (sz : Nat) (w0 : Nat) (t1 : Nat) (sa : Nat) (sb : Nat) (sc : Nat) (fa : Nat → Int32) (fb : Nat → Int32) (fc : Nat → Int32) : zMv l ({ cls := "ChanceArena$Words", name := "add", desc := "(III)V" } : Jvm.MethodName) (zW (Jvm.Cond.code ({ cls := "ChanceArena$Words", name := "add", desc := "(III)V" } : Jvm.MethodName) prog_13_method_4_code (4 : Nat) (Option.none : Option Jvm.ClassFile.FieldType))) { frames := 0, cells := 0, slots := 0, locals := 0 } [.ref w0, .int 0, .int 0, .int 0] D tA [(w0, .inr (1, [.ref t1, .int 0, .int 0, .ref sa, .ref sb, .ref sc])), (sa, .inl (tA 0, 128, .inl (fa))), (sb, .inl (tA 0, 128, .inl (fb))), (sc, .inl (tA 0, 128, .inl (fc)))] sz (fun _ : Unit => True) (fun _ => [(w0, .inr (1, [.ref t1, .int 0, .int 1, .ref sa, .ref sb, .ref sc])), (sa, .inl (tA 0, 128, .inl (upd (fa) 0 (0)))), (sb, .inl (tA 0, 128, .inl (upd (fb) 0 (0)))), (sc, .inl (tA 0, 128, .inl (upd (fc) 0 (0))))]) 0 0 := by
  refine zOpen (fun A => va_Qv (fun _ : Unit => True) (zPost D A (fun _ => [(w0, .inr (1, [.ref t1, .int 0, .int 1, .ref sa, .ref sb, .ref sc])), (sa, .inl (tA 0, 128, .inl (upd (fa) 0 (0)))), (sb, .inl (tA 0, 128, .inl (upd (fb) 0 (0)))), (sc, .inl (tA 0, 128, .inl (upd (fc) 0 (0))))])) A) (lv := [(0, .ref w0), (1, .int 0), (2, .int 0), (3, .int 0)]) (by decide) rfl (Nat.le_of_ble_eq_true rfl) rfl ?_
  intro p e s m below meth c A ls hx hb hr hml hh hg hown hlocks hnm hK hA hP hD0 hAw hS hl
  have hD := zD hD0 hAw
  refine lv_aload_n hx hb d_Wo_add_0 rfl (lv_at hl 0 rfl) ?_
  refine va_get (D := D) (ci := 1) (v := .ref sa) (C := R_Wo) (T := T_Wo) (N := 6) hx hb hg i_Wo hown hK hP 0 rfl rfl 3 (by decide) (hg _ k1_60) (fun _ h9 => h9) rfl d_Wo_add_1 ?_
  refine lv_aload_n hx hb d_Wo_add_4 rfl (lv_at hl 0 rfl) ?_
  refine va_get (D := D) (ci := 1) (v := .int 0) (C := R_Wo) (T := T_Wo) (N := 6) hx hb hg i_Wo hown hK hP 0 rfl rfl 2 (by decide) (hg _ k1_57) (fun _ h9 => h9) rfl d_Wo_add_5 ?_
  refine lv_iload_n hx hb d_Wo_add_8 rfl (lv_at hl 1 rfl) ?_
  refine va_iast hx hb hK hP hD hS 1 0 rfl rfl (vp_in_iff.mpr (by decide)) d_Wo_add_9 (fun H1 locs1 hP1 hD1 hS1 => ?_)
  clear hP hD hS
  replace hP1 : va_P D vwCl [(w0, .inr (1, [.ref t1, .int 0, .int 0, .ref sa, .ref sb, .ref sc])), (sa, .inl (tA 0, 128, .inl (upd (fa) 0 (0)))), (sb, .inl (tA 0, 128, .inl (fb))), (sc, .inl (tA 0, 128, .inl (fc)))] _ := hP1
  replace hD1 : va_D A [(w0, .inr (1, [.ref t1, .int 0, .int 0, .ref sa, .ref sb, .ref sc])), (sa, .inl (tA 0, 128, .inl (upd (fa) 0 (0)))), (sb, .inl (tA 0, 128, .inl (fb))), (sc, .inl (tA 0, 128, .inl (fc)))] := hD1
  refine lv_aload_n hx hb d_Wo_add_10 rfl (lv_at hl 0 rfl) ?_
  refine va_get (D := D) (ci := 1) (v := .ref sb) (C := R_Wo) (T := T_Wo) (N := 6) hx hb hg i_Wo hown hK hP1 0 rfl rfl 4 (by decide) (hg _ k1_63) (fun _ h9 => h9) rfl d_Wo_add_11 ?_
  refine lv_aload_n hx hb d_Wo_add_14 rfl (lv_at hl 0 rfl) ?_
  refine va_get (D := D) (ci := 1) (v := .int 0) (C := R_Wo) (T := T_Wo) (N := 6) hx hb hg i_Wo hown hK hP1 0 rfl rfl 2 (by decide) (hg _ k1_57) (fun _ h9 => h9) rfl d_Wo_add_15 ?_
  refine lv_iload_n hx hb d_Wo_add_18 rfl (lv_at hl 2 rfl) ?_
  refine va_iast hx hb hK hP1 hD1 hS1 2 0 rfl rfl (vp_in_iff.mpr (by decide)) d_Wo_add_19 (fun H2 locs2 hP2 hD2 hS2 => ?_)
  clear hP1 hD1 hS1
  replace hP2 : va_P D vwCl [(w0, .inr (1, [.ref t1, .int 0, .int 0, .ref sa, .ref sb, .ref sc])), (sa, .inl (tA 0, 128, .inl (upd (fa) 0 (0)))), (sb, .inl (tA 0, 128, .inl (upd (fb) 0 (0)))), (sc, .inl (tA 0, 128, .inl (fc)))] _ := hP2
  replace hD2 : va_D A [(w0, .inr (1, [.ref t1, .int 0, .int 0, .ref sa, .ref sb, .ref sc])), (sa, .inl (tA 0, 128, .inl (upd (fa) 0 (0)))), (sb, .inl (tA 0, 128, .inl (upd (fb) 0 (0)))), (sc, .inl (tA 0, 128, .inl (fc)))] := hD2
  refine lv_aload_n hx hb d_Wo_add_20 rfl (lv_at hl 0 rfl) ?_
  refine va_get (D := D) (ci := 1) (v := .ref sc) (C := R_Wo) (T := T_Wo) (N := 6) hx hb hg i_Wo hown hK hP2 0 rfl rfl 5 (by decide) (hg _ k1_66) (fun _ h9 => h9) rfl d_Wo_add_21 ?_
  refine lv_aload_n hx hb d_Wo_add_24 rfl (lv_at hl 0 rfl) ?_
  refine va_get (D := D) (ci := 1) (v := .int 0) (C := R_Wo) (T := T_Wo) (N := 6) hx hb hg i_Wo hown hK hP2 0 rfl rfl 2 (by decide) (hg _ k1_57) (fun _ h9 => h9) rfl d_Wo_add_25 ?_
  refine lv_iload_n hx hb d_Wo_add_28 rfl (lv_at hl 3 rfl) ?_
  refine va_iast hx hb hK hP2 hD2 hS2 3 0 rfl rfl (vp_in_iff.mpr (by decide)) d_Wo_add_29 (fun H3 locs3 hP3 hD3 hS3 => ?_)
  clear hP2 hD2 hS2
  replace hP3 : va_P D vwCl [(w0, .inr (1, [.ref t1, .int 0, .int 0, .ref sa, .ref sb, .ref sc])), (sa, .inl (tA 0, 128, .inl (upd (fa) 0 (0)))), (sb, .inl (tA 0, 128, .inl (upd (fb) 0 (0)))), (sc, .inl (tA 0, 128, .inl (upd (fc) 0 (0))))] _ := hP3
  replace hD3 : va_D A [(w0, .inr (1, [.ref t1, .int 0, .int 0, .ref sa, .ref sb, .ref sc])), (sa, .inl (tA 0, 128, .inl (upd (fa) 0 (0)))), (sb, .inl (tA 0, 128, .inl (upd (fb) 0 (0)))), (sc, .inl (tA 0, 128, .inl (upd (fc) 0 (0))))] := hD3
  refine lv_aload_n hx hb d_Wo_add_30 rfl (lv_at hl 0 rfl) ?_
  refine lv_dup hx hb d_Wo_add_31 rfl ?_
  refine va_get (D := D) (ci := 1) (v := .int 0) (C := R_Wo) (T := T_Wo) (N := 6) hx hb hg i_Wo hown hK hP3 0 rfl rfl 2 (by decide) (hg _ k1_57) (fun _ h9 => h9) rfl d_Wo_add_32 ?_
  refine lv_iconst (v := 1) hx hb d_Wo_add_35 (by decide) ?_
  refine lv_iadd hx hb d_Wo_add_36 ?_
  rw [show (0 : Int32) + 1 = 1 from by decide]
  refine va_put (D := D) (ci := 1) (v := .int 1) (ty := .int) (C := R_Wo) (T := T_Wo) (N := 6) hx hb hg i_Wo t_Wo o_Wo n_Wo hown hK hP3 hD3 hS3 0 rfl rfl 2 (by decide) (hg _ k1_57) (fun _ h9 => h9) rfl (by decide +kernel) rfl rfl (Nat.le_of_ble_eq_true rfl) d_Wo_add_37 (fun H4 locs4 hP4 hD4 hS4 => ?_)
  clear hP3 hD3 hS3
  replace hP4 : va_P D vwCl [(w0, .inr (1, [.ref t1, .int 0, .int 1, .ref sa, .ref sb, .ref sc])), (sa, .inl (tA 0, 128, .inl (upd (fa) 0 (0)))), (sb, .inl (tA 0, 128, .inl (upd (fb) 0 (0)))), (sc, .inl (tA 0, 128, .inl (upd (fc) 0 (0))))] _ := hP4
  replace hD4 : va_D A [(w0, .inr (1, [.ref t1, .int 0, .int 1, .ref sa, .ref sb, .ref sc])), (sa, .inl (tA 0, 128, .inl (upd (fa) 0 (0)))), (sb, .inl (tA 0, 128, .inl (upd (fb) 0 (0)))), (sc, .inl (tA 0, 128, .inl (upd (fc) 0 (0))))] := hD4
  exact zVret (post := fun _ : Unit => True) (W1 := fun _ => [(w0, .inr (1, [.ref t1, .int 0, .int 1, .ref sa, .ref sb, .ref sc])), (sa, .inl (tA 0, 128, .inl (upd (fa) 0 (0)))), (sb, .inl (tA 0, 128, .inl (upd (fb) 0 (0)))), (sc, .inl (tA 0, 128, .inl (upd (fc) 0 (0))))]) hx hb hr hlocks hP4 hD4 hS4 () trivial rfl d_Wo_add_40
set_option maxHeartbeats 4000000 in
set_option maxRecDepth 100000 in
theorem c_Wo_split_0 (l : Launch) (D : va_G) (tA : Nat → ClassId) (sz : Nat) (w0 : Nat) (t1 : Nat) (sa : Nat) (sb : Nat) (sc : Nat) (t2 : Nat) (fa : Nat → Int32) (fb : Nat → Int32) (fc : Nat → Int32) : zMv l ({ cls := "ChanceArena$Words", name := "split", desc := "([CI)V" } : Jvm.MethodName) (zW (Jvm.Cond.code ({ cls := "ChanceArena$Words", name := "split", desc := "([CI)V" } : Jvm.MethodName) prog_13_method_2_code (5 : Nat) (Option.none : Option Jvm.ClassFile.FieldType))) { frames := 1, cells := 0, slots := 0, locals := 24 } [.ref w0, .ref t1, .int 0] D tA [(w0, .inr (1, [.ref t2, .int 0, .int 0, .ref sa, .ref sb, .ref sc])), (sa, .inl (tA 0, 128, .inl (fa))), (sb, .inl (tA 0, 128, .inl (fb))), (sc, .inl (tA 0, 128, .inl (fc)))] sz (fun _ : Unit => True) (fun _ => [(w0, .inr (1, [.ref t1, .int 0, .int 1, .ref sa, .ref sb, .ref sc])), (sa, .inl (tA 0, 128, .inl (upd (fa) 0 (0)))), (sb, .inl (tA 0, 128, .inl (upd (fb) 0 (0)))), (sc, .inl (tA 0, 128, .inl (upd (fc) 0 (0))))]) 0 0 := by
  refine zOpen (fun A => va_Qv (fun _ : Unit => True) (zPost D A (fun _ => [(w0, .inr (1, [.ref t1, .int 0, .int 1, .ref sa, .ref sb, .ref sc])), (sa, .inl (tA 0, 128, .inl (upd (fa) 0 (0)))), (sb, .inl (tA 0, 128, .inl (upd (fb) 0 (0)))), (sc, .inl (tA 0, 128, .inl (upd (fc) 0 (0))))])) A) (lv := [(0, .ref w0), (1, .ref t1), (2, .int 0)]) (by decide) rfl (Nat.le_of_ble_eq_true rfl) rfl ?_
  intro p e s m below meth c A ls hx hb hr hml hh hg hown hlocks hnm hK hA hP hD0 hAw hS hl
  have hD := zD hD0 hAw
  refine lv_aload_n hx hb d_Wo_split_0 rfl (lv_at hl 0 rfl) ?_
  refine lv_aload_n hx hb d_Wo_split_1 rfl (lv_at hl 1 rfl) ?_
  refine va_put (D := D) (ci := 1) (v := .ref t1) (ty := .array .char) (C := R_Wo) (T := T_Wo) (N := 6) hx hb hg i_Wo t_Wo o_Wo n_Wo hown hK hP hD hS 0 rfl rfl 0 (by decide) (hg _ k1_54) (fun _ h9 => h9) rfl (by decide +kernel) rfl rfl (Nat.le_of_ble_eq_true rfl) d_Wo_split_2 (fun H1 locs1 hP1 hD1 hS1 => ?_)
  clear hP hD hS
  replace hP1 : va_P D vwCl [(w0, .inr (1, [.ref t1, .int 0, .int 0, .ref sa, .ref sb, .ref sc])), (sa, .inl (tA 0, 128, .inl (fa))), (sb, .inl (tA 0, 128, .inl (fb))), (sc, .inl (tA 0, 128, .inl (fc)))] _ := hP1
  replace hD1 : va_D A [(w0, .inr (1, [.ref t1, .int 0, .int 0, .ref sa, .ref sb, .ref sc])), (sa, .inl (tA 0, 128, .inl (fa))), (sb, .inl (tA 0, 128, .inl (fb))), (sc, .inl (tA 0, 128, .inl (fc)))] := hD1
  refine lv_aload_n hx hb d_Wo_split_5 rfl (lv_at hl 0 rfl) ?_
  refine lv_iload_n hx hb d_Wo_split_6 rfl (lv_at hl 2 rfl) ?_
  refine va_put (D := D) (ci := 1) (v := .int 0) (ty := .int) (C := R_Wo) (T := T_Wo) (N := 6) hx hb hg i_Wo t_Wo o_Wo n_Wo hown hK hP1 hD1 hS1 0 rfl rfl 1 (by decide) (hg _ k1_55) (fun _ h9 => h9) rfl (by decide +kernel) rfl rfl (Nat.le_of_ble_eq_true rfl) d_Wo_split_7 (fun H2 locs2 hP2 hD2 hS2 => ?_)
  clear hP1 hD1 hS1
  replace hP2 : va_P D vwCl [(w0, .inr (1, [.ref t1, .int 0, .int 0, .ref sa, .ref sb, .ref sc])), (sa, .inl (tA 0, 128, .inl (fa))), (sb, .inl (tA 0, 128, .inl (fb))), (sc, .inl (tA 0, 128, .inl (fc)))] _ := hP2
  replace hD2 : va_D A [(w0, .inr (1, [.ref t1, .int 0, .int 0, .ref sa, .ref sb, .ref sc])), (sa, .inl (tA 0, 128, .inl (fa))), (sb, .inl (tA 0, 128, .inl (fb))), (sc, .inl (tA 0, 128, .inl (fc)))] := hD2
  refine lv_aload_n hx hb d_Wo_split_10 rfl (lv_at hl 0 rfl) ?_
  refine lv_iconst (v := 0) hx hb d_Wo_split_11 (by decide) ?_
  refine va_put (D := D) (ci := 1) (v := .int 0) (ty := .int) (C := R_Wo) (T := T_Wo) (N := 6) hx hb hg i_Wo t_Wo o_Wo n_Wo hown hK hP2 hD2 hS2 0 rfl rfl 2 (by decide) (hg _ k1_57) (fun _ h9 => h9) rfl (by decide +kernel) rfl rfl (Nat.le_of_ble_eq_true rfl) d_Wo_split_12 (fun H3 locs3 hP3 hD3 hS3 => ?_)
  clear hP2 hD2 hS2
  replace hP3 : va_P D vwCl [(w0, .inr (1, [.ref t1, .int 0, .int 0, .ref sa, .ref sb, .ref sc])), (sa, .inl (tA 0, 128, .inl (fa))), (sb, .inl (tA 0, 128, .inl (fb))), (sc, .inl (tA 0, 128, .inl (fc)))] _ := hP3
  replace hD3 : va_D A [(w0, .inr (1, [.ref t1, .int 0, .int 0, .ref sa, .ref sb, .ref sc])), (sa, .inl (tA 0, 128, .inl (fa))), (sb, .inl (tA 0, 128, .inl (fb))), (sc, .inl (tA 0, 128, .inl (fc)))] := hD3
  refine lv_aload_n hx hb d_Wo_split_15 rfl (lv_at hl 0 rfl) ?_
  refine lv_aload_n hx hb d_Wo_split_16 rfl (lv_at hl 0 rfl) ?_
  refine va_get (D := D) (ci := 1) (v := .int 0) (C := R_Wo) (T := T_Wo) (N := 6) hx hb hg i_Wo hown hK hP3 0 rfl rfl 1 (by decide) (hg _ k1_55) (fun _ h9 => h9) rfl d_Wo_split_17 ?_
  refine lv_iconst (v := 2) hx hb d_Wo_split_20 (by decide) ?_
  refine lv_iadd hx hb d_Wo_split_21 ?_
  rw [show (0 : Int32) + 2 = 2 from by decide]
  refine zCallv (wc := [(w0, .inr (1, [.ref t1, .int 0, .int 0, .ref sa, .ref sb, .ref sc])), (sa, .inl (tA 0, 128, .inl (fa)))]) (wr := [(sb, .inl (tA 0, 128, .inl (fb))), (sc, .inl (tA 0, 128, .inl (fc)))]) hP3 hD3 hS3 hA [0, 1] [2, 3] rfl rfl (by decide) (by decide) (va_runV (As := [.int 2]) (rest := []) ⟨hx, hb, hml, hown, hg⟩ (c_Wo_reserve_0 l D tA _ w0 t1 sa sb sc fa) (zV 1 hg k4_28 k4_30 ks_Wo_reserve k1_2 k4_31 rfl rfl (by decide +kernel) ⟨(Nat.le_of_ble_eq_true rfl), (Nat.le_of_ble_eq_true rfl)⟩) (zPreV hh hK hP3 hD3 [0, 1] (by decide) rfl (ci := 1) rfl 0 rfl) rfl rfl hl.1 rfl (lv_room (Nat.le_of_ble_eq_true rfl)) d_Wo_split_22 ⟨(Nat.le_of_ble_eq_true rfl), (Nat.le_of_ble_eq_true rfl)⟩) (fun _ H4 locs4 _ hP4 hD4 hS4 => ?_)
  clear hP3 hD3 hS3
  replace hP4 : va_P D vwCl [(sb, .inl (tA 0, 128, .inl (fb))), (sc, .inl (tA 0, 128, .inl (fc))), (w0, .inr (1, [.ref t1, .int 0, .int 0, .ref sa, .ref sb, .ref sc])), (sa, .inl (tA 0, 128, .inl (fa)))] _ := hP4
  replace hD4 : va_D A [(sb, .inl (tA 0, 128, .inl (fb))), (sc, .inl (tA 0, 128, .inl (fc))), (w0, .inr (1, [.ref t1, .int 0, .int 0, .ref sa, .ref sb, .ref sc])), (sa, .inl (tA 0, 128, .inl (fa)))] := hD4
  refine lv_aload_n hx hb d_Wo_split_25 rfl (lv_at hl 0 rfl) ?_
  refine lv_iconst (v := 0) hx hb d_Wo_split_26 (by decide) ?_
  refine zCalli (wc := [(w0, .inr (1, [.ref t1, .int 0, .int 0, .ref sa, .ref sb, .ref sc]))]) (wr := [(sb, .inl (tA 0, 128, .inl (fb))), (sc, .inl (tA 0, 128, .inl (fc))), (sa, .inl (tA 0, 128, .inl (fa)))]) hP4 hD4 hS4 hA [2] [0, 1, 3] rfl rfl (by decide) (by decide) (va_runV (As := [.int 0]) (rest := []) ⟨hx, hb, hml, hown, hg⟩ (c_Wo_afterBlanks_0 l D tA _ w0 t1 sa sb sc) (zV 1 hg k4_32 k4_34 ks_Wo_afterBlanks k1_2 k4_35 rfl rfl (by decide +kernel) ⟨(Nat.le_of_ble_eq_true rfl), (Nat.le_of_ble_eq_true rfl)⟩) (zPreV hh hK hP4 hD4 [2] (by decide) rfl (ci := 1) rfl 0 rfl) rfl rfl hl.1 rfl (lv_room (Nat.le_of_ble_eq_true rfl)) d_Wo_split_27 ⟨(Nat.le_of_ble_eq_true rfl), (Nat.le_of_ble_eq_true rfl)⟩) (fun r9 _ H5 locs5 e9 hP5 hD5 hS5 => ?_)
  clear hP4 hD4 hS4
  replace e9 : r9 = 0 := e9
  subst e9
  replace hP5 : va_P D vwCl [(sb, .inl (tA 0, 128, .inl (fb))), (sc, .inl (tA 0, 128, .inl (fc))), (sa, .inl (tA 0, 128, .inl (fa))), (w0, .inr (1, [.ref t1, .int 0, .int 0, .ref sa, .ref sb, .ref sc]))] _ := hP5
  replace hD5 : va_D A [(sb, .inl (tA 0, 128, .inl (fb))), (sc, .inl (tA 0, 128, .inl (fc))), (sa, .inl (tA 0, 128, .inl (fa))), (w0, .inr (1, [.ref t1, .int 0, .int 0, .ref sa, .ref sb, .ref sc]))] := hD5
  refine lv_istore_n (lv' := [(3, .int 0), (0, .ref w0), (1, .ref t1), (2, .int 0)]) hx hb d_Wo_split_30 rfl hl (by decide) rfl (fun ls hl => ?_)
  refine lv_iconst (v := 0) hx hb d_Wo_split_31 (by decide) ?_
  refine lv_istore (lv' := [(4, .int 0), (3, .int 0), (0, .ref w0), (1, .ref t1), (2, .int 0)]) hx hb d_Wo_split_32 hl (by decide) rfl (fun ls hl => ?_)
  refine lv_iload hx hb d_Wo_split_34 (lv_at hl 0 rfl) ?_
  refine lv_aload_n hx hb d_Wo_split_36 rfl (lv_at hl 2 rfl) ?_
  refine va_get (D := D) (ci := 1) (v := .int 0) (C := R_Wo) (T := T_Wo) (N := 6) hx hb hg i_Wo hown hK hP5 3 rfl rfl 1 (by decide) (hg _ k1_55) (fun _ h9 => h9) rfl d_Wo_split_37 ?_
  refine lv_icmp_ge (tgt := 67) hx hb d_Wo_split_40 (by decide) (fun _ => ?_) (fun c9 => absurd (by decide) c9)
  refine lv_aload_n hx hb d_Wo_split_67 rfl (lv_at hl 2 rfl) ?_
  refine lv_iconst (v := 0) hx hb d_Wo_split_68 (by decide) ?_
  refine lv_aload_n hx hb d_Wo_split_69 rfl (lv_at hl 2 rfl) ?_
  refine va_get (D := D) (ci := 1) (v := .int 0) (C := R_Wo) (T := T_Wo) (N := 6) hx hb hg i_Wo hown hK hP5 3 rfl rfl 1 (by decide) (hg _ k1_55) (fun _ h9 => h9) rfl d_Wo_split_70 ?_
  refine lv_iconst (v := 0) hx hb d_Wo_split_73 (by decide) ?_
  refine zCallv (wc := [(w0, .inr (1, [.ref t1, .int 0, .int 0, .ref sa, .ref sb, .ref sc])), (sa, .inl (tA 0, 128, .inl (fa))), (sb, .inl (tA 0, 128, .inl (fb))), (sc, .inl (tA 0, 128, .inl (fc)))]) (wr := []) hP5 hD5 hS5 hA [3, 2, 0, 1] [] rfl rfl (by decide) (by decide) (va_runV (As := [.int 0, .int 0, .int 0]) (rest := []) ⟨hx, hb, hml, hown, hg⟩ (c_Wo_add_0 l D tA _ w0 t1 sa sb sc fa fb fc) (zV 3 hg k4_119 k4_121 ks_Wo_add k1_2 k4_122 rfl rfl (by decide +kernel) ⟨(Nat.le_of_ble_eq_true rfl), (Nat.le_of_ble_eq_true rfl)⟩) (zPreV hh hK hP5 hD5 [3, 2, 0, 1] (by decide) rfl (ci := 1) rfl 0 rfl) rfl rfl hl.1 rfl (lv_room (Nat.le_of_ble_eq_true rfl)) d_Wo_split_74 ⟨(Nat.le_of_ble_eq_true rfl), (Nat.le_of_ble_eq_true rfl)⟩) (fun _ H6 locs6 _ hP6 hD6 hS6 => ?_)
  clear hP5 hD5 hS5
  replace hP6 : va_P D vwCl [(w0, .inr (1, [.ref t1, .int 0, .int 1, .ref sa, .ref sb, .ref sc])), (sa, .inl (tA 0, 128, .inl (upd (fa) 0 (0)))), (sb, .inl (tA 0, 128, .inl (upd (fb) 0 (0)))), (sc, .inl (tA 0, 128, .inl (upd (fc) 0 (0))))] _ := hP6
  replace hD6 : va_D A [(w0, .inr (1, [.ref t1, .int 0, .int 1, .ref sa, .ref sb, .ref sc])), (sa, .inl (tA 0, 128, .inl (upd (fa) 0 (0)))), (sb, .inl (tA 0, 128, .inl (upd (fb) 0 (0)))), (sc, .inl (tA 0, 128, .inl (upd (fc) 0 (0))))] := hD6
  exact zVret (post := fun _ : Unit => True) (W1 := fun _ => [(w0, .inr (1, [.ref t1, .int 0, .int 1, .ref sa, .ref sb, .ref sc])), (sa, .inl (tA 0, 128, .inl (upd (fa) 0 (0)))), (sb, .inl (tA 0, 128, .inl (upd (fb) 0 (0)))), (sc, .inl (tA 0, 128, .inl (upd (fc) 0 (0))))]) hx hb hr hlocks hP6 hD6 hS6 () trivial rfl d_Wo_split_77
set_option maxHeartbeats 4000000 in
set_option maxRecDepth 100000 in
theorem c_Pr_clear_1 (l : Launch) (D : va_G) (tA : Nat → ClassId) (sz : Nat) (p0 : Nat) (pb : Nat) (po : Nat) (ps : List Value) (gb : Nat → Int32) (go : Nat → Int32) (hp0_length : ps[2]? = some (.int 0)) (hp0_vars : ps[3]? = some (.int 0)) (hp0_names : ps[7]? = some (.int 0)) (hp0_commands : ps[12]? = some (.int 0)) (hp0_target : ps[11]? = some (.int 0)) (hp0_firstBranch : ps[16]? = some (.ref pb)) (hp0_orders : ps[0]? = some (.ref po)) : zMv l ({ cls := "ChanceArena$Program", name := "clear", desc := "(I)V" } : Jvm.MethodName) (zW (Jvm.Cond.code ({ cls := "ChanceArena$Program", name := "clear", desc := "(I)V" } : Jvm.MethodName) prog_7_method_2_code (4 : Nat) (Option.none : Option Jvm.ClassFile.FieldType))) { frames := 0, cells := 0, slots := 0, locals := 0 } [.ref p0, .int 1] D tA [(p0, .inr (5, ps)), (pb, .inl (tA 0, 61, .inl (gb))), (po, .inl (tA 0, 128, .inl (go)))] sz (fun _ : Unit => True) (fun _ => [(p0, .inr (5, (((((ps.set 2 (.int 0)).set 3 (.int 0)).set 7 (.int 0)).set 12 (.int 0)).set 11 (.int (-1))))), (pb, .inl (tA 0, 61, .inl (upd (gb) 0 (0)))), (po, .inl (tA 0, 128, .inl (go)))]) 0 0 := by
  refine zOpen (fun A => va_Qv (fun _ : Unit => True) (zPost D A (fun _ => [(p0, .inr (5, (((((ps.set 2 (.int 0)).set 3 (.int 0)).set 7 (.int 0)).set 12 (.int 0)).set 11 (.int (-1))))), (pb, .inl (tA 0, 61, .inl (upd (gb) 0 (0)))), (po, .inl (tA 0, 128, .inl (go)))])) A) (lv := [(0, .ref p0), (1, .int 1)]) (by decide) rfl (Nat.le_of_ble_eq_true rfl) rfl ?_
  intro p e s m below meth c A ls hx hb hr hml hh hg hown hlocks hnm hK hA hP hD0 hAw hS hl
  have hD := zD hD0 hAw
  refine lv_aload_n hx hb d_Pr_clear_0 rfl (lv_at hl 0 rfl) ?_
  refine lv_iconst (v := 0) hx hb d_Pr_clear_1 (by decide) ?_
  refine va_put (D := D) (ci := 5) (v := .int 0) (ty := .int) (C := R_Pr) (T := T_Pr) (N := 20) hx hb hg i_Pr t_Pr o_Pr n_Pr hown hK hP hD hS 0 rfl rfl 2 (by decide) (hg _ k2_28) (fun _ h9 => h9) rfl (by decide +kernel) rfl rfl (zLen hp0_length) d_Pr_clear_2 (fun H1 locs1 hP1 hD1 hS1 => ?_)
  clear hP hD hS
  replace hP1 : va_P D vwCl [(p0, .inr (5, (ps.set 2 (.int 0)))), (pb, .inl (tA 0, 61, .inl (gb))), (po, .inl (tA 0, 128, .inl (go)))] _ := hP1
  replace hD1 : va_D A [(p0, .inr (5, (ps.set 2 (.int 0)))), (pb, .inl (tA 0, 61, .inl (gb))), (po, .inl (tA 0, 128, .inl (go)))] := hD1
  refine lv_aload_n hx hb d_Pr_clear_5 rfl (lv_at hl 0 rfl) ?_
  refine lv_iconst (v := 0) hx hb d_Pr_clear_6 (by decide) ?_
  refine va_put (D := D) (ci := 5) (v := .int 0) (ty := .int) (C := R_Pr) (T := T_Pr) (N := 20) hx hb hg i_Pr t_Pr o_Pr n_Pr hown hK hP1 hD1 hS1 0 rfl rfl 3 (by decide) (hg _ k2_32) (fun _ h9 => h9) rfl (by decide +kernel) rfl rfl (zLen (zSetN (by decide) hp0_vars)) d_Pr_clear_7 (fun H2 locs2 hP2 hD2 hS2 => ?_)
  clear hP1 hD1 hS1
  replace hP2 : va_P D vwCl [(p0, .inr (5, ((ps.set 2 (.int 0)).set 3 (.int 0)))), (pb, .inl (tA 0, 61, .inl (gb))), (po, .inl (tA 0, 128, .inl (go)))] _ := hP2
  replace hD2 : va_D A [(p0, .inr (5, ((ps.set 2 (.int 0)).set 3 (.int 0)))), (pb, .inl (tA 0, 61, .inl (gb))), (po, .inl (tA 0, 128, .inl (go)))] := hD2
  refine lv_aload_n hx hb d_Pr_clear_10 rfl (lv_at hl 0 rfl) ?_
  refine lv_iconst (v := 0) hx hb d_Pr_clear_11 (by decide) ?_
  refine va_put (D := D) (ci := 5) (v := .int 0) (ty := .int) (C := R_Pr) (T := T_Pr) (N := 20) hx hb hg i_Pr t_Pr o_Pr n_Pr hown hK hP2 hD2 hS2 0 rfl rfl 7 (by decide) (hg _ k2_45) (fun _ h9 => h9) rfl (by decide +kernel) rfl rfl (zLen (zSetN (by decide) (zSetN (by decide) hp0_names))) d_Pr_clear_12 (fun H3 locs3 hP3 hD3 hS3 => ?_)
  clear hP2 hD2 hS2
  replace hP3 : va_P D vwCl [(p0, .inr (5, (((ps.set 2 (.int 0)).set 3 (.int 0)).set 7 (.int 0)))), (pb, .inl (tA 0, 61, .inl (gb))), (po, .inl (tA 0, 128, .inl (go)))] _ := hP3
  replace hD3 : va_D A [(p0, .inr (5, (((ps.set 2 (.int 0)).set 3 (.int 0)).set 7 (.int 0)))), (pb, .inl (tA 0, 61, .inl (gb))), (po, .inl (tA 0, 128, .inl (go)))] := hD3
  refine lv_aload_n hx hb d_Pr_clear_15 rfl (lv_at hl 0 rfl) ?_
  refine lv_iconst (v := 0) hx hb d_Pr_clear_16 (by decide) ?_
  refine va_put (D := D) (ci := 5) (v := .int 0) (ty := .int) (C := R_Pr) (T := T_Pr) (N := 20) hx hb hg i_Pr t_Pr o_Pr n_Pr hown hK hP3 hD3 hS3 0 rfl rfl 12 (by decide) (hg _ k2_60) (fun _ h9 => h9) rfl (by decide +kernel) rfl rfl (zLen (zSetN (by decide) (zSetN (by decide) (zSetN (by decide) hp0_commands)))) d_Pr_clear_17 (fun H4 locs4 hP4 hD4 hS4 => ?_)
  clear hP3 hD3 hS3
  replace hP4 : va_P D vwCl [(p0, .inr (5, ((((ps.set 2 (.int 0)).set 3 (.int 0)).set 7 (.int 0)).set 12 (.int 0)))), (pb, .inl (tA 0, 61, .inl (gb))), (po, .inl (tA 0, 128, .inl (go)))] _ := hP4
  replace hD4 : va_D A [(p0, .inr (5, ((((ps.set 2 (.int 0)).set 3 (.int 0)).set 7 (.int 0)).set 12 (.int 0)))), (pb, .inl (tA 0, 61, .inl (gb))), (po, .inl (tA 0, 128, .inl (go)))] := hD4
  refine lv_aload_n hx hb d_Pr_clear_20 rfl (lv_at hl 0 rfl) ?_
  refine lv_iconst (v := (-1)) hx hb d_Pr_clear_21 (by decide) ?_
  refine va_put (D := D) (ci := 5) (v := .int (-1)) (ty := .int) (C := R_Pr) (T := T_Pr) (N := 20) hx hb hg i_Pr t_Pr o_Pr n_Pr hown hK hP4 hD4 hS4 0 rfl rfl 11 (by decide) (hg _ k2_57) (fun _ h9 => h9) rfl (by decide +kernel) rfl rfl (zLen (zSetN (by decide) (zSetN (by decide) (zSetN (by decide) (zSetN (by decide) hp0_target))))) d_Pr_clear_22 (fun H5 locs5 hP5 hD5 hS5 => ?_)
  clear hP4 hD4 hS4
  replace hP5 : va_P D vwCl [(p0, .inr (5, (((((ps.set 2 (.int 0)).set 3 (.int 0)).set 7 (.int 0)).set 12 (.int 0)).set 11 (.int (-1))))), (pb, .inl (tA 0, 61, .inl (gb))), (po, .inl (tA 0, 128, .inl (go)))] _ := hP5
  replace hD5 : va_D A [(p0, .inr (5, (((((ps.set 2 (.int 0)).set 3 (.int 0)).set 7 (.int 0)).set 12 (.int 0)).set 11 (.int (-1))))), (pb, .inl (tA 0, 61, .inl (gb))), (po, .inl (tA 0, 128, .inl (go)))] := hD5
  refine lv_aload_n hx hb d_Pr_clear_25 rfl (lv_at hl 0 rfl) ?_
  refine va_get (D := D) (ci := 5) (v := .ref pb) (C := R_Pr) (T := T_Pr) (N := 20) hx hb hg i_Pr hown hK hP5 0 rfl rfl 16 (by decide) (hg _ k2_73) (fun _ h9 => h9) (zSetN (by decide) (zSetN (by decide) (zSetN (by decide) (zSetN (by decide) (zSetN (by decide) hp0_firstBranch))))) d_Pr_clear_26 ?_
  refine lv_iconst (v := 0) hx hb d_Pr_clear_29 (by decide) ?_
  refine lv_iconst (v := 0) hx hb d_Pr_clear_30 (by decide) ?_
  refine va_iast hx hb hK hP5 hD5 hS5 1 0 rfl rfl (vp_in_iff.mpr (by decide)) d_Pr_clear_31 (fun H6 locs6 hP6 hD6 hS6 => ?_)
  clear hP5 hD5 hS5
  replace hP6 : va_P D vwCl [(p0, .inr (5, (((((ps.set 2 (.int 0)).set 3 (.int 0)).set 7 (.int 0)).set 12 (.int 0)).set 11 (.int (-1))))), (pb, .inl (tA 0, 61, .inl (upd (gb) 0 (0)))), (po, .inl (tA 0, 128, .inl (go)))] _ := hP6
  replace hD6 : va_D A [(p0, .inr (5, (((((ps.set 2 (.int 0)).set 3 (.int 0)).set 7 (.int 0)).set 12 (.int 0)).set 11 (.int (-1))))), (pb, .inl (tA 0, 61, .inl (upd (gb) 0 (0)))), (po, .inl (tA 0, 128, .inl (go)))] := hD6
  refine lv_aload_n hx hb d_Pr_clear_32 rfl (lv_at hl 0 rfl) ?_
  refine va_get (D := D) (ci := 5) (v := .ref po) (C := R_Pr) (T := T_Pr) (N := 20) hx hb hg i_Pr hown hK hP6 0 rfl rfl 0 (by decide) (hg _ k2_23) (fun _ h9 => h9) (zSetN (by decide) (zSetN (by decide) (zSetN (by decide) (zSetN (by decide) (zSetN (by decide) hp0_orders))))) d_Pr_clear_33 ?_
  refine va_alen (v := 128) hx hb hK hP6 2 0 rfl rfl rfl d_Pr_clear_36 ?_
  refine lv_istore_n (lv' := [(2, .int 128), (0, .ref p0), (1, .int 1)]) hx hb d_Pr_clear_37 rfl hl (by decide) rfl (fun ls hl => ?_)
  refine lv_iconst (v := 0) hx hb d_Pr_clear_38 (by decide) ?_
  refine lv_istore_n (lv' := [(3, .int 0), (2, .int 128), (0, .ref p0), (1, .int 1)]) hx hb d_Pr_clear_39 rfl hl (by decide) rfl (fun ls hl => ?_)
  refine lv_iload_n hx hb d_Pr_clear_40 rfl (lv_at hl 0 rfl) ?_
  refine lv_bipush (v := 31) hx hb d_Pr_clear_41 (by decide) ?_
  refine lv_icmp_ge (tgt := 61) hx hb d_Pr_clear_43 (by decide) (fun c9 => absurd c9 (by decide)) (fun _ => ?_)
  refine lv_iload_n hx hb d_Pr_clear_46 rfl (lv_at hl 1 rfl) ?_
  refine lv_iload_n hx hb d_Pr_clear_47 rfl (lv_at hl 3 rfl) ?_
  refine lv_icmp_ge (tgt := 61) hx hb d_Pr_clear_48 (by decide) (fun _ => ?_) (fun c9 => absurd (by decide) c9)
  refine lv_iload_n hx hb d_Pr_clear_61 rfl (lv_at hl 1 rfl) ?_
  refine lv_aload_n hx hb d_Pr_clear_62 rfl (lv_at hl 2 rfl) ?_
  refine va_get (D := D) (ci := 5) (v := .ref po) (C := R_Pr) (T := T_Pr) (N := 20) hx hb hg i_Pr hown hK hP6 0 rfl rfl 0 (by decide) (hg _ k2_23) (fun _ h9 => h9) (zSetN (by decide) (zSetN (by decide) (zSetN (by decide) (zSetN (by decide) (zSetN (by decide) hp0_orders))))) d_Pr_clear_63 ?_
  refine va_alen (v := 128) hx hb hK hP6 2 0 rfl rfl rfl d_Pr_clear_66 ?_
  refine lv_icmp_le (tgt := 84) hx hb d_Pr_clear_67 (by decide) (fun _ => ?_) (fun c9 => absurd (by decide) c9)
  exact zVret (post := fun _ : Unit => True) (W1 := fun _ => [(p0, .inr (5, (((((ps.set 2 (.int 0)).set 3 (.int 0)).set 7 (.int 0)).set 12 (.int 0)).set 11 (.int (-1))))), (pb, .inl (tA 0, 61, .inl (upd (gb) 0 (0)))), (po, .inl (tA 0, 128, .inl (go)))]) hx hb hr hlocks hP6 hD6 hS6 () trivial rfl d_Pr_clear_84
set_option maxHeartbeats 4000000 in
set_option maxRecDepth 100000 in
theorem c_RR_begin_0 (l : Launch) (D : va_G) (tA : Nat → ClassId) (sz : Nat) (r0 : Nat) (w0 : Nat) (p0 : Nat) (rs : List Value) (hr0_words : rs[0]? = some (.null)) (hr0_text : rs[1]? = some (.null)) (hr0_at : rs[2]? = some (.int 0)) (hr0_fault : rs[3]? = some (.int 0)) (hr0_place : rs[4]? = some (.int 0)) (hr0_depth : rs[5]? = some (.int 0)) (hr0_nameCount : rs[19]? = some (.int 0)) : zMv l ({ cls := "ChanceArena$RuleReader", name := "begin", desc := "(LChanceArena$Words;LChanceArena$Program;)V" } : Jvm.MethodName) (zW (Jvm.Cond.code ({ cls := "ChanceArena$RuleReader", name := "begin", desc := "(LChanceArena$Words;LChanceArena$Program;)V" } : Jvm.MethodName) prog_9_method_2_code (3 : Nat) (Option.none : Option Jvm.ClassFile.FieldType))) { frames := 0, cells := 0, slots := 0, locals := 0 } [.ref r0, .ref w0, .ref p0] D tA [(r0, .inr (3, rs))] sz (fun _ : Unit => True) (fun _ => [(r0, .inr (3, (((((((rs.set 0 (.ref w0)).set 1 (.ref p0)).set 2 (.int 0)).set 3 (.int 0)).set 4 (.int (-1))).set 5 (.int 0)).set 19 (.int 0))))]) 0 0 := by
  refine zOpen (fun A => va_Qv (fun _ : Unit => True) (zPost D A (fun _ => [(r0, .inr (3, (((((((rs.set 0 (.ref w0)).set 1 (.ref p0)).set 2 (.int 0)).set 3 (.int 0)).set 4 (.int (-1))).set 5 (.int 0)).set 19 (.int 0))))])) A) (lv := [(0, .ref r0), (1, .ref w0), (2, .ref p0)]) (by decide) rfl (Nat.le_of_ble_eq_true rfl) rfl ?_
  intro p e s m below meth c A ls hx hb hr hml hh hg hown hlocks hnm hK hA hP hD0 hAw hS hl
  have hD := zD hD0 hAw
  refine lv_aload_n hx hb d_RR_begin_0 rfl (lv_at hl 0 rfl) ?_
  refine lv_aload_n hx hb d_RR_begin_1 rfl (lv_at hl 1 rfl) ?_
  refine va_put (D := D) (ci := 3) (v := .ref w0) (ty := .object "ChanceArena$Words") (C := R_RR) (T := T_RR) (N := 20) hx hb hg i_RR t_RR o_RR n_RR hown hK hP hD hS 0 rfl rfl 0 (by decide) (hg _ k1_95) (fun _ h9 => h9) rfl (by decide +kernel) rfl rfl (zLen hr0_words) d_RR_begin_2 (fun H1 locs1 hP1 hD1 hS1 => ?_)
  clear hP hD hS
  replace hP1 : va_P D vwCl [(r0, .inr (3, (rs.set 0 (.ref w0))))] _ := hP1
  replace hD1 : va_D A [(r0, .inr (3, (rs.set 0 (.ref w0))))] := hD1
  refine lv_aload_n hx hb d_RR_begin_5 rfl (lv_at hl 0 rfl) ?_
  refine lv_aload_n hx hb d_RR_begin_6 rfl (lv_at hl 2 rfl) ?_
  refine va_put (D := D) (ci := 3) (v := .ref p0) (ty := .object "ChanceArena$Program") (C := R_RR) (T := T_RR) (N := 20) hx hb hg i_RR t_RR o_RR n_RR hown hK hP1 hD1 hS1 0 rfl rfl 1 (by decide) (hg _ k1_97) (fun _ h9 => h9) rfl (by decide +kernel) rfl rfl (zLen (zSetN (by decide) hr0_text)) d_RR_begin_7 (fun H2 locs2 hP2 hD2 hS2 => ?_)
  clear hP1 hD1 hS1
  replace hP2 : va_P D vwCl [(r0, .inr (3, ((rs.set 0 (.ref w0)).set 1 (.ref p0))))] _ := hP2
  replace hD2 : va_D A [(r0, .inr (3, ((rs.set 0 (.ref w0)).set 1 (.ref p0))))] := hD2
  refine lv_aload_n hx hb d_RR_begin_10 rfl (lv_at hl 0 rfl) ?_
  refine lv_iconst (v := 0) hx hb d_RR_begin_11 (by decide) ?_
  refine va_put (D := D) (ci := 3) (v := .int 0) (ty := .int) (C := R_RR) (T := T_RR) (N := 20) hx hb hg i_RR t_RR o_RR n_RR hown hK hP2 hD2 hS2 0 rfl rfl 2 (by decide) (hg _ k1_98) (fun _ h9 => h9) rfl (by decide +kernel) rfl rfl (zLen (zSetN (by decide) (zSetN (by decide) hr0_at))) d_RR_begin_12 (fun H3 locs3 hP3 hD3 hS3 => ?_)
  clear hP2 hD2 hS2
  replace hP3 : va_P D vwCl [(r0, .inr (3, (((rs.set 0 (.ref w0)).set 1 (.ref p0)).set 2 (.int 0))))] _ := hP3
  replace hD3 : va_D A [(r0, .inr (3, (((rs.set 0 (.ref w0)).set 1 (.ref p0)).set 2 (.int 0))))] := hD3
  refine lv_aload_n hx hb d_RR_begin_15 rfl (lv_at hl 0 rfl) ?_
  refine lv_iconst (v := 0) hx hb d_RR_begin_16 (by decide) ?_
  refine va_put (D := D) (ci := 3) (v := .int 0) (ty := .int) (C := R_RR) (T := T_RR) (N := 20) hx hb hg i_RR t_RR o_RR n_RR hown hK hP3 hD3 hS3 0 rfl rfl 3 (by decide) (hg _ k1_100) (fun _ h9 => h9) rfl (by decide +kernel) rfl rfl (zLen (zSetN (by decide) (zSetN (by decide) (zSetN (by decide) hr0_fault)))) d_RR_begin_17 (fun H4 locs4 hP4 hD4 hS4 => ?_)
  clear hP3 hD3 hS3
  replace hP4 : va_P D vwCl [(r0, .inr (3, ((((rs.set 0 (.ref w0)).set 1 (.ref p0)).set 2 (.int 0)).set 3 (.int 0))))] _ := hP4
  replace hD4 : va_D A [(r0, .inr (3, ((((rs.set 0 (.ref w0)).set 1 (.ref p0)).set 2 (.int 0)).set 3 (.int 0))))] := hD4
  refine lv_aload_n hx hb d_RR_begin_20 rfl (lv_at hl 0 rfl) ?_
  refine lv_iconst (v := (-1)) hx hb d_RR_begin_21 (by decide) ?_
  refine va_put (D := D) (ci := 3) (v := .int (-1)) (ty := .int) (C := R_RR) (T := T_RR) (N := 20) hx hb hg i_RR t_RR o_RR n_RR hown hK hP4 hD4 hS4 0 rfl rfl 4 (by decide) (hg _ k1_103) (fun _ h9 => h9) rfl (by decide +kernel) rfl rfl (zLen (zSetN (by decide) (zSetN (by decide) (zSetN (by decide) (zSetN (by decide) hr0_place))))) d_RR_begin_22 (fun H5 locs5 hP5 hD5 hS5 => ?_)
  clear hP4 hD4 hS4
  replace hP5 : va_P D vwCl [(r0, .inr (3, (((((rs.set 0 (.ref w0)).set 1 (.ref p0)).set 2 (.int 0)).set 3 (.int 0)).set 4 (.int (-1)))))] _ := hP5
  replace hD5 : va_D A [(r0, .inr (3, (((((rs.set 0 (.ref w0)).set 1 (.ref p0)).set 2 (.int 0)).set 3 (.int 0)).set 4 (.int (-1)))))] := hD5
  refine lv_aload_n hx hb d_RR_begin_25 rfl (lv_at hl 0 rfl) ?_
  refine lv_iconst (v := 0) hx hb d_RR_begin_26 (by decide) ?_
  refine va_put (D := D) (ci := 3) (v := .int 0) (ty := .int) (C := R_RR) (T := T_RR) (N := 20) hx hb hg i_RR t_RR o_RR n_RR hown hK hP5 hD5 hS5 0 rfl rfl 5 (by decide) (hg _ k1_104) (fun _ h9 => h9) rfl (by decide +kernel) rfl rfl (zLen (zSetN (by decide) (zSetN (by decide) (zSetN (by decide) (zSetN (by decide) (zSetN (by decide) hr0_depth)))))) d_RR_begin_27 (fun H6 locs6 hP6 hD6 hS6 => ?_)
  clear hP5 hD5 hS5
  replace hP6 : va_P D vwCl [(r0, .inr (3, ((((((rs.set 0 (.ref w0)).set 1 (.ref p0)).set 2 (.int 0)).set 3 (.int 0)).set 4 (.int (-1))).set 5 (.int 0))))] _ := hP6
  replace hD6 : va_D A [(r0, .inr (3, ((((((rs.set 0 (.ref w0)).set 1 (.ref p0)).set 2 (.int 0)).set 3 (.int 0)).set 4 (.int (-1))).set 5 (.int 0))))] := hD6
  refine lv_aload_n hx hb d_RR_begin_30 rfl (lv_at hl 0 rfl) ?_
  refine lv_iconst (v := 0) hx hb d_RR_begin_31 (by decide) ?_
  refine va_put (D := D) (ci := 3) (v := .int 0) (ty := .int) (C := R_RR) (T := T_RR) (N := 20) hx hb hg i_RR t_RR o_RR n_RR hown hK hP6 hD6 hS6 0 rfl rfl 19 (by decide) (hg _ k1_120) (fun _ h9 => h9) rfl (by decide +kernel) rfl rfl (zLen (zSetN (by decide) (zSetN (by decide) (zSetN (by decide) (zSetN (by decide) (zSetN (by decide) (zSetN (by decide) hr0_nameCount))))))) d_RR_begin_32 (fun H7 locs7 hP7 hD7 hS7 => ?_)
  clear hP6 hD6 hS6
  replace hP7 : va_P D vwCl [(r0, .inr (3, (((((((rs.set 0 (.ref w0)).set 1 (.ref p0)).set 2 (.int 0)).set 3 (.int 0)).set 4 (.int (-1))).set 5 (.int 0)).set 19 (.int 0))))] _ := hP7
  replace hD7 : va_D A [(r0, .inr (3, (((((((rs.set 0 (.ref w0)).set 1 (.ref p0)).set 2 (.int 0)).set 3 (.int 0)).set 4 (.int (-1))).set 5 (.int 0)).set 19 (.int 0))))] := hD7
  exact zVret (post := fun _ : Unit => True) (W1 := fun _ => [(r0, .inr (3, (((((((rs.set 0 (.ref w0)).set 1 (.ref p0)).set 2 (.int 0)).set 3 (.int 0)).set 4 (.int (-1))).set 5 (.int 0)).set 19 (.int 0))))]) hx hb hr hlocks hP7 hD7 hS7 () trivial rfl d_RR_begin_35
set_option maxHeartbeats 4000000 in
set_option maxRecDepth 100000 in
theorem c_RR_note_0 (l : Launch) (D : va_G) (tA : Nat → ClassId) (sz : Nat) (r0 : Nat) (rs : List Value) (hr0_fault : rs[3]? = some (.int 0)) (hr0_place : rs[4]? = some (.int (-1))) : zMv l ({ cls := "ChanceArena$RuleReader", name := "note", desc := "(II)V" } : Jvm.MethodName) (zW (Jvm.Cond.code ({ cls := "ChanceArena$RuleReader", name := "note", desc := "(II)V" } : Jvm.MethodName) prog_9_method_5_code (3 : Nat) (Option.none : Option Jvm.ClassFile.FieldType))) { frames := 0, cells := 0, slots := 0, locals := 0 } [.ref r0, .int 10, .int 0] D tA [(r0, .inr (3, rs))] sz (fun _ : Unit => True) (fun _ => [(r0, .inr (3, ((rs.set 3 (.int 10)).set 4 (.int 0))))]) 0 0 := by
  refine zOpen (fun A => va_Qv (fun _ : Unit => True) (zPost D A (fun _ => [(r0, .inr (3, ((rs.set 3 (.int 10)).set 4 (.int 0))))])) A) (lv := [(0, .ref r0), (1, .int 10), (2, .int 0)]) (by decide) rfl (Nat.le_of_ble_eq_true rfl) rfl ?_
  intro p e s m below meth c A ls hx hb hr hml hh hg hown hlocks hnm hK hA hP hD0 hAw hS hl
  have hD := zD hD0 hAw
  refine lv_aload_n hx hb d_RR_note_0 rfl (lv_at hl 0 rfl) ?_
  refine va_get (D := D) (ci := 3) (v := .int 0) (C := R_RR) (T := T_RR) (N := 20) hx hb hg i_RR hown hK hP 0 rfl rfl 3 (by decide) (hg _ k1_100) (fun _ h9 => h9) hr0_fault d_RR_note_1 ?_
  refine lv_if_ne (tgt := 17) hx hb d_RR_note_4 (by decide) (fun c9 => absurd rfl c9) (fun _ => ?_)
  refine lv_aload_n hx hb d_RR_note_7 rfl (lv_at hl 0 rfl) ?_
  refine lv_iload_n hx hb d_RR_note_8 rfl (lv_at hl 1 rfl) ?_
  refine va_put (D := D) (ci := 3) (v := .int 10) (ty := .int) (C := R_RR) (T := T_RR) (N := 20) hx hb hg i_RR t_RR o_RR n_RR hown hK hP hD hS 0 rfl rfl 3 (by decide) (hg _ k1_100) (fun _ h9 => h9) rfl (by decide +kernel) rfl rfl (zLen hr0_fault) d_RR_note_9 (fun H1 locs1 hP1 hD1 hS1 => ?_)
  clear hP hD hS
  replace hP1 : va_P D vwCl [(r0, .inr (3, (rs.set 3 (.int 10))))] _ := hP1
  replace hD1 : va_D A [(r0, .inr (3, (rs.set 3 (.int 10))))] := hD1
  refine lv_aload_n hx hb d_RR_note_12 rfl (lv_at hl 0 rfl) ?_
  refine lv_iload_n hx hb d_RR_note_13 rfl (lv_at hl 2 rfl) ?_
  refine va_put (D := D) (ci := 3) (v := .int 0) (ty := .int) (C := R_RR) (T := T_RR) (N := 20) hx hb hg i_RR t_RR o_RR n_RR hown hK hP1 hD1 hS1 0 rfl rfl 4 (by decide) (hg _ k1_103) (fun _ h9 => h9) rfl (by decide +kernel) rfl rfl (zLen (zSetN (by decide) hr0_place)) d_RR_note_14 (fun H2 locs2 hP2 hD2 hS2 => ?_)
  clear hP1 hD1 hS1
  replace hP2 : va_P D vwCl [(r0, .inr (3, ((rs.set 3 (.int 10)).set 4 (.int 0))))] _ := hP2
  replace hD2 : va_D A [(r0, .inr (3, ((rs.set 3 (.int 10)).set 4 (.int 0))))] := hD2
  exact zVret (post := fun _ : Unit => True) (W1 := fun _ => [(r0, .inr (3, ((rs.set 3 (.int 10)).set 4 (.int 0))))]) hx hb hr hlocks hP2 hD2 hS2 () trivial rfl d_RR_note_17
set_option maxHeartbeats 4000000 in
set_option maxRecDepth 100000 in
theorem c_TR_translate_0 (l : Launch) (D : va_G) (tA : Nat → ClassId) (sz : Nat) (x0 : Nat) (w0 : Nat) (p0 : Nat) (m0 : Nat) (r0 : Nat) (t1 : Nat) (sa : Nat) (sb : Nat) (sc : Nat) (pb : Nat) (po : Nat) (ts : List Value) (ps : List Value) (ms : List Value) (rs : List Value) (fa : Nat → Int32) (gb : Nat → Int32) (go : Nat → Int32) (hx0_text : ts[2]? = some (.null)) (hx0_machine : ts[1]? = some (.ref m0)) (hx0_rules : ts[0]? = some (.ref r0)) (hp0_length : ps[2]? = some (.int 0)) (hp0_vars : ps[3]? = some (.int 0)) (hp0_names : ps[7]? = some (.int 0)) (hp0_commands : ps[12]? = some (.int 0)) (hp0_target : ps[11]? = some (.int 0)) (hp0_firstBranch : ps[16]? = some (.ref pb)) (hp0_orders : ps[0]? = some (.ref po)) (hm0_text : ms[0]? = some (.null)) (hr0_words : rs[0]? = some (.null)) (hr0_text : rs[1]? = some (.null)) (hr0_at : rs[2]? = some (.int 0)) (hr0_fault : rs[3]? = some (.int 0)) (hr0_place : rs[4]? = some (.int 0)) (hr0_depth : rs[5]? = some (.int 0)) (hr0_nameCount : rs[19]? = some (.int 0)) : zMi l ({ cls := "ChanceArena$TextReader", name := "translate", desc := "(LChanceArena$Words;LChanceArena$Program;)I" } : Jvm.MethodName) (zW (Jvm.Cond.code ({ cls := "ChanceArena$TextReader", name := "translate", desc := "(LChanceArena$Words;LChanceArena$Program;)I" } : Jvm.MethodName) prog_12_method_3_code (6 : Nat) (Option.some Jvm.ClassFile.FieldType.int))) { frames := 1, cells := 0, slots := 0, locals := 23 } [.ref x0, .ref w0, .ref p0] D tA [(x0, .inr (2, ts)), (w0, .inr (1, [.ref t1, .int 0, .int 1, .ref sa, .ref sb, .ref sc])), (sa, .inl (tA 0, 128, .inl (upd (fa) 0 (0)))), (p0, .inr (5, ps)), (pb, .inl (tA 0, 61, .inl (gb))), (po, .inl (tA 0, 128, .inl (go))), (m0, .inr (4, ms)), (r0, .inr (3, rs))] sz (fun r (_ : Unit) => r = 10) (fun _ => [(x0, .inr (2, (ts.set 2 (.ref p0)))), (w0, .inr (1, [.ref t1, .int 0, .int 1, .ref sa, .ref sb, .ref sc])), (sa, .inl (tA 0, 128, .inl (upd (fa) 0 (0)))), (m0, .inr (4, (ms.set 0 (.ref p0)))), (p0, .inr (5, (((((ps.set 2 (.int 0)).set 3 (.int 0)).set 7 (.int 0)).set 12 (.int 0)).set 11 (.int (-1))))), (pb, .inl (tA 0, 61, .inl (upd (gb) 0 (0)))), (po, .inl (tA 0, 128, .inl (go))), (r0, .inr (3, (((((((((rs.set 0 (.ref w0)).set 1 (.ref p0)).set 2 (.int 0)).set 3 (.int 0)).set 4 (.int (-1))).set 5 (.int 0)).set 19 (.int 0)).set 3 (.int 10)).set 4 (.int 0))))]) 0 0 := by
  refine zOpen (fun A => va_Qi (fun r (_ : Unit) => r = 10) (zPost D A (fun _ => [(x0, .inr (2, (ts.set 2 (.ref p0)))), (w0, .inr (1, [.ref t1, .int 0, .int 1, .ref sa, .ref sb, .ref sc])), (sa, .inl (tA 0, 128, .inl (upd (fa) 0 (0)))), (m0, .inr (4, (ms.set 0 (.ref p0)))), (p0, .inr (5, (((((ps.set 2 (.int 0)).set 3 (.int 0)).set 7 (.int 0)).set 12 (.int 0)).set 11 (.int (-1))))), (pb, .inl (tA 0, 61, .inl (upd (gb) 0 (0)))), (po, .inl (tA 0, 128, .inl (go))), (r0, .inr (3, (((((((((rs.set 0 (.ref w0)).set 1 (.ref p0)).set 2 (.int 0)).set 3 (.int 0)).set 4 (.int (-1))).set 5 (.int 0)).set 19 (.int 0)).set 3 (.int 10)).set 4 (.int 0))))])) A) (lv := [(0, .ref x0), (1, .ref w0), (2, .ref p0)]) (by decide) rfl (Nat.le_of_ble_eq_true rfl) rfl ?_
  intro p e s m below meth c A ls hx hb hr hml hh hg hown hlocks hnm hK hA hP hD0 hAw hS hl
  have hD := zD hD0 hAw
  refine lv_aload_n hx hb d_TR_translate_0 rfl (lv_at hl 0 rfl) ?_
  refine lv_aload_n hx hb d_TR_translate_1 rfl (lv_at hl 2 rfl) ?_
  refine va_put (D := D) (ci := 2) (v := .ref p0) (ty := .object "ChanceArena$Program") (C := R_TR) (T := T_TR) (N := 9) hx hb hg i_TR t_TR o_TR n_TR hown hK hP hD hS 0 rfl rfl 2 (by decide) (hg _ k1_231) (fun _ h9 => h9) rfl (by decide +kernel) rfl rfl (zLen hx0_text) d_TR_translate_2 (fun H1 locs1 hP1 hD1 hS1 => ?_)
  clear hP hD hS
  replace hP1 : va_P D vwCl [(x0, .inr (2, (ts.set 2 (.ref p0)))), (w0, .inr (1, [.ref t1, .int 0, .int 1, .ref sa, .ref sb, .ref sc])), (sa, .inl (tA 0, 128, .inl (upd (fa) 0 (0)))), (p0, .inr (5, ps)), (pb, .inl (tA 0, 61, .inl (gb))), (po, .inl (tA 0, 128, .inl (go))), (m0, .inr (4, ms)), (r0, .inr (3, rs))] _ := hP1
  replace hD1 : va_D A [(x0, .inr (2, (ts.set 2 (.ref p0)))), (w0, .inr (1, [.ref t1, .int 0, .int 1, .ref sa, .ref sb, .ref sc])), (sa, .inl (tA 0, 128, .inl (upd (fa) 0 (0)))), (p0, .inr (5, ps)), (pb, .inl (tA 0, 61, .inl (gb))), (po, .inl (tA 0, 128, .inl (go))), (m0, .inr (4, ms)), (r0, .inr (3, rs))] := hD1
  refine lv_aload_n hx hb d_TR_translate_5 rfl (lv_at hl 0 rfl) ?_
  refine va_get (D := D) (ci := 2) (v := .ref p0) (C := R_TR) (T := T_TR) (N := 9) hx hb hg i_TR hown hK hP1 0 rfl rfl 2 (by decide) (hg _ k1_231) (fun _ h9 => h9) (zSetS hx0_text) d_TR_translate_6 ?_
  refine lv_aload_n hx hb d_TR_translate_9 rfl (lv_at hl 1 rfl) ?_
  refine va_get (D := D) (ci := 1) (v := .int 1) (C := R_Wo) (T := T_Wo) (N := 6) hx hb hg i_Wo hown hK hP1 1 rfl rfl 2 (by decide) (hg _ k1_58) (fun _ h9 => h9) rfl d_TR_translate_10 ?_
  refine zCallv (wc := [(p0, .inr (5, ps)), (pb, .inl (tA 0, 61, .inl (gb))), (po, .inl (tA 0, 128, .inl (go)))]) (wr := [(x0, .inr (2, (ts.set 2 (.ref p0)))), (w0, .inr (1, [.ref t1, .int 0, .int 1, .ref sa, .ref sb, .ref sc])), (sa, .inl (tA 0, 128, .inl (upd (fa) 0 (0)))), (m0, .inr (4, ms)), (r0, .inr (3, rs))]) hP1 hD1 hS1 hA [3, 4, 5] [0, 1, 2, 6, 7] rfl rfl (by decide) (by decide) (va_runV (As := [.int 1]) (rest := []) ⟨hx, hb, hml, hown, hg⟩ (c_Pr_clear_1 l D tA _ p0 pb po ps gb go hp0_length hp0_vars hp0_names hp0_commands hp0_target hp0_firstBranch hp0_orders) (zV 1 hg k4_137 k4_138 k4_139 k1_6 k4_140 rfl rfl (by decide +kernel) ⟨(Nat.le_of_ble_eq_true rfl), (Nat.le_of_ble_eq_true rfl)⟩) (zPreV hh hK hP1 hD1 [3, 4, 5] (by decide) rfl (ci := 5) rfl 0 rfl) rfl rfl hl.1 rfl (lv_room (Nat.le_of_ble_eq_true rfl)) d_TR_translate_13 ⟨(Nat.le_of_ble_eq_true rfl), (Nat.le_of_ble_eq_true rfl)⟩) (fun _ H2 locs2 _ hP2 hD2 hS2 => ?_)
  clear hP1 hD1 hS1
  replace hP2 : va_P D vwCl [(x0, .inr (2, (ts.set 2 (.ref p0)))), (w0, .inr (1, [.ref t1, .int 0, .int 1, .ref sa, .ref sb, .ref sc])), (sa, .inl (tA 0, 128, .inl (upd (fa) 0 (0)))), (m0, .inr (4, ms)), (r0, .inr (3, rs)), (p0, .inr (5, (((((ps.set 2 (.int 0)).set 3 (.int 0)).set 7 (.int 0)).set 12 (.int 0)).set 11 (.int (-1))))), (pb, .inl (tA 0, 61, .inl (upd (gb) 0 (0)))), (po, .inl (tA 0, 128, .inl (go)))] _ := hP2
  replace hD2 : va_D A [(x0, .inr (2, (ts.set 2 (.ref p0)))), (w0, .inr (1, [.ref t1, .int 0, .int 1, .ref sa, .ref sb, .ref sc])), (sa, .inl (tA 0, 128, .inl (upd (fa) 0 (0)))), (m0, .inr (4, ms)), (r0, .inr (3, rs)), (p0, .inr (5, (((((ps.set 2 (.int 0)).set 3 (.int 0)).set 7 (.int 0)).set 12 (.int 0)).set 11 (.int (-1))))), (pb, .inl (tA 0, 61, .inl (upd (gb) 0 (0)))), (po, .inl (tA 0, 128, .inl (go)))] := hD2
  refine lv_aload_n hx hb d_TR_translate_16 rfl (lv_at hl 0 rfl) ?_
  refine va_get (D := D) (ci := 2) (v := .ref m0) (C := R_TR) (T := T_TR) (N := 9) hx hb hg i_TR hown hK hP2 0 rfl rfl 1 (by decide) (hg _ k1_230) (fun _ h9 => h9) (zSetN (by decide) hx0_machine) d_TR_translate_17 ?_
  refine lv_aload_n hx hb d_TR_translate_20 rfl (lv_at hl 0 rfl) ?_
  refine va_get (D := D) (ci := 2) (v := .ref p0) (C := R_TR) (T := T_TR) (N := 9) hx hb hg i_TR hown hK hP2 0 rfl rfl 2 (by decide) (hg _ k1_231) (fun _ h9 => h9) (zSetS hx0_text) d_TR_translate_21 ?_
  refine va_put (D := D) (ci := 4) (v := .ref p0) (ty := .object "ChanceArena$Program") (C := R_Ma) (T := T_Ma) (N := 16) hx hb hg i_Ma t_Ma o_Ma n_Ma hown hK hP2 hD2 hS2 3 rfl rfl 0 (by decide) (hg _ k1_169) (fun _ h9 => h9) rfl (by decide +kernel) rfl rfl (zLen hm0_text) d_TR_translate_24 (fun H3 locs3 hP3 hD3 hS3 => ?_)
  clear hP2 hD2 hS2
  replace hP3 : va_P D vwCl [(x0, .inr (2, (ts.set 2 (.ref p0)))), (w0, .inr (1, [.ref t1, .int 0, .int 1, .ref sa, .ref sb, .ref sc])), (sa, .inl (tA 0, 128, .inl (upd (fa) 0 (0)))), (m0, .inr (4, (ms.set 0 (.ref p0)))), (r0, .inr (3, rs)), (p0, .inr (5, (((((ps.set 2 (.int 0)).set 3 (.int 0)).set 7 (.int 0)).set 12 (.int 0)).set 11 (.int (-1))))), (pb, .inl (tA 0, 61, .inl (upd (gb) 0 (0)))), (po, .inl (tA 0, 128, .inl (go)))] _ := hP3
  replace hD3 : va_D A [(x0, .inr (2, (ts.set 2 (.ref p0)))), (w0, .inr (1, [.ref t1, .int 0, .int 1, .ref sa, .ref sb, .ref sc])), (sa, .inl (tA 0, 128, .inl (upd (fa) 0 (0)))), (m0, .inr (4, (ms.set 0 (.ref p0)))), (r0, .inr (3, rs)), (p0, .inr (5, (((((ps.set 2 (.int 0)).set 3 (.int 0)).set 7 (.int 0)).set 12 (.int 0)).set 11 (.int (-1))))), (pb, .inl (tA 0, 61, .inl (upd (gb) 0 (0)))), (po, .inl (tA 0, 128, .inl (go)))] := hD3
  refine lv_aload_n hx hb d_TR_translate_27 rfl (lv_at hl 0 rfl) ?_
  refine va_get (D := D) (ci := 2) (v := .ref r0) (C := R_TR) (T := T_TR) (N := 9) hx hb hg i_TR hown hK hP3 0 rfl rfl 0 (by decide) (hg _ k1_229) (fun _ h9 => h9) (zSetN (by decide) hx0_rules) d_TR_translate_28 ?_
  refine lv_aload_n hx hb d_TR_translate_31 rfl (lv_at hl 1 rfl) ?_
  refine lv_aload_n hx hb d_TR_translate_32 rfl (lv_at hl 0 rfl) ?_
  refine va_get (D := D) (ci := 2) (v := .ref p0) (C := R_TR) (T := T_TR) (N := 9) hx hb hg i_TR hown hK hP3 0 rfl rfl 2 (by decide) (hg _ k1_231) (fun _ h9 => h9) (zSetS hx0_text) d_TR_translate_33 ?_
  refine zCallv (wc := [(r0, .inr (3, rs))]) (wr := [(x0, .inr (2, (ts.set 2 (.ref p0)))), (w0, .inr (1, [.ref t1, .int 0, .int 1, .ref sa, .ref sb, .ref sc])), (sa, .inl (tA 0, 128, .inl (upd (fa) 0 (0)))), (m0, .inr (4, (ms.set 0 (.ref p0)))), (p0, .inr (5, (((((ps.set 2 (.int 0)).set 3 (.int 0)).set 7 (.int 0)).set 12 (.int 0)).set 11 (.int (-1))))), (pb, .inl (tA 0, 61, .inl (upd (gb) 0 (0)))), (po, .inl (tA 0, 128, .inl (go)))]) hP3 hD3 hS3 hA [4] [0, 1, 2, 3, 5, 6, 7] rfl rfl (by decide) (by decide) (va_runV (As := [.ref w0, .ref p0]) (rest := []) ⟨hx, hb, hml, hown, hg⟩ (c_RR_begin_0 l D tA _ r0 w0 p0 rs hr0_words hr0_text hr0_at hr0_fault hr0_place hr0_depth hr0_nameCount) (zV 2 hg k4_141 k4_142 k4_143 k1_4 k4_144 rfl rfl (by decide +kernel) ⟨(Nat.le_of_ble_eq_true rfl), (Nat.le_of_ble_eq_true rfl)⟩) (zPreV hh hK hP3 hD3 [4] (by decide) rfl (ci := 3) rfl 0 rfl) rfl rfl hl.1 rfl (lv_room (Nat.le_of_ble_eq_true rfl)) d_TR_translate_36 ⟨(Nat.le_of_ble_eq_true rfl), (Nat.le_of_ble_eq_true rfl)⟩) (fun _ H4 locs4 _ hP4 hD4 hS4 => ?_)
  clear hP3 hD3 hS3
  replace hP4 : va_P D vwCl [(x0, .inr (2, (ts.set 2 (.ref p0)))), (w0, .inr (1, [.ref t1, .int 0, .int 1, .ref sa, .ref sb, .ref sc])), (sa, .inl (tA 0, 128, .inl (upd (fa) 0 (0)))), (m0, .inr (4, (ms.set 0 (.ref p0)))), (p0, .inr (5, (((((ps.set 2 (.int 0)).set 3 (.int 0)).set 7 (.int 0)).set 12 (.int 0)).set 11 (.int (-1))))), (pb, .inl (tA 0, 61, .inl (upd (gb) 0 (0)))), (po, .inl (tA 0, 128, .inl (go))), (r0, .inr (3, (((((((rs.set 0 (.ref w0)).set 1 (.ref p0)).set 2 (.int 0)).set 3 (.int 0)).set 4 (.int (-1))).set 5 (.int 0)).set 19 (.int 0))))] _ := hP4
  replace hD4 : va_D A [(x0, .inr (2, (ts.set 2 (.ref p0)))), (w0, .inr (1, [.ref t1, .int 0, .int 1, .ref sa, .ref sb, .ref sc])), (sa, .inl (tA 0, 128, .inl (upd (fa) 0 (0)))), (m0, .inr (4, (ms.set 0 (.ref p0)))), (p0, .inr (5, (((((ps.set 2 (.int 0)).set 3 (.int 0)).set 7 (.int 0)).set 12 (.int 0)).set 11 (.int (-1))))), (pb, .inl (tA 0, 61, .inl (upd (gb) 0 (0)))), (po, .inl (tA 0, 128, .inl (go))), (r0, .inr (3, (((((((rs.set 0 (.ref w0)).set 1 (.ref p0)).set 2 (.int 0)).set 3 (.int 0)).set 4 (.int (-1))).set 5 (.int 0)).set 19 (.int 0))))] := hD4
  refine lv_iconst (v := 0) hx hb d_TR_translate_39 (by decide) ?_
  refine lv_istore_n (lv' := [(3, .int 0), (0, .ref x0), (1, .ref w0), (2, .ref p0)]) hx hb d_TR_translate_40 rfl hl (by decide) rfl (fun ls hl => ?_)
  refine lv_iload_n hx hb d_TR_translate_41 rfl (lv_at hl 0 rfl) ?_
  refine lv_aload_n hx hb d_TR_translate_42 rfl (lv_at hl 2 rfl) ?_
  refine va_get (D := D) (ci := 1) (v := .int 1) (C := R_Wo) (T := T_Wo) (N := 6) hx hb hg i_Wo hown hK hP4 1 rfl rfl 2 (by decide) (hg _ k1_58) (fun _ h9 => h9) rfl d_TR_translate_43 ?_
  refine lv_icmp_ge (tgt := 224) hx hb d_TR_translate_46 (by decide) (fun c9 => absurd c9 (by decide)) (fun _ => ?_)
  refine lv_aload_n hx hb d_TR_translate_49 rfl (lv_at hl 2 rfl) ?_
  refine va_get (D := D) (ci := 1) (v := .ref sa) (C := R_Wo) (T := T_Wo) (N := 6) hx hb hg i_Wo hown hK hP4 1 rfl rfl 3 (by decide) (hg _ k1_61) (fun _ h9 => h9) rfl d_TR_translate_50 ?_
  refine lv_aload_n hx hb d_TR_translate_53 rfl (lv_at hl 1 rfl) ?_
  refine va_get (D := D) (ci := 2) (v := .ref r0) (C := R_TR) (T := T_TR) (N := 9) hx hb hg i_TR hown hK hP4 0 rfl rfl 0 (by decide) (hg _ k1_229) (fun _ h9 => h9) (zSetN (by decide) hx0_rules) d_TR_translate_54 ?_
  refine va_get (D := D) (ci := 3) (v := .int 0) (C := R_RR) (T := T_RR) (N := 20) hx hb hg i_RR hown hK hP4 7 rfl rfl 2 (by decide) (hg _ k1_99) (fun _ h9 => h9) (zSetN (by decide) (zSetN (by decide) (zSetN (by decide) (zSetN (by decide) (zSetS (zSetN (by decide) (zSetN (by decide) hr0_at))))))) d_TR_translate_57 ?_
  refine va_iald hx hb hK hP4 2 0 rfl rfl (vp_in_iff.mpr (by decide)) d_TR_translate_60 ?_
  refine W.eq (g2 := F0 m 61 ls [.int 0]) rfl ?_
  refine lv_if_eq (tgt := 224) hx hb d_TR_translate_61 (by decide) (fun _ => ?_) (fun c9 => absurd (by decide) c9)
  refine lv_aload_n hx hb d_TR_translate_224 rfl (lv_at hl 1 rfl) ?_
  refine va_get (D := D) (ci := 2) (v := .ref p0) (C := R_TR) (T := T_TR) (N := 9) hx hb hg i_TR hown hK hP4 0 rfl rfl 2 (by decide) (hg _ k1_231) (fun _ h9 => h9) (zSetS hx0_text) d_TR_translate_225 ?_
  refine va_get (D := D) (ci := 5) (v := .int (-1)) (C := R_Pr) (T := T_Pr) (N := 20) hx hb hg i_Pr hown hK hP4 4 rfl rfl 11 (by decide) (hg _ k2_58) (fun _ h9 => h9) (zSetS (zSetN (by decide) (zSetN (by decide) (zSetN (by decide) (zSetN (by decide) hp0_target))))) d_TR_translate_228 ?_
  refine lv_iconst (v := (-1)) hx hb d_TR_translate_231 (by decide) ?_
  refine lv_icmp_ne (tgt := 248) hx hb d_TR_translate_232 (by decide) (fun c9 => absurd rfl c9) (fun _ => ?_)
  refine lv_aload_n hx hb d_TR_translate_235 rfl (lv_at hl 1 rfl) ?_
  refine va_get (D := D) (ci := 2) (v := .ref r0) (C := R_TR) (T := T_TR) (N := 9) hx hb hg i_TR hown hK hP4 0 rfl rfl 0 (by decide) (hg _ k1_229) (fun _ h9 => h9) (zSetN (by decide) hx0_rules) d_TR_translate_236 ?_
  refine lv_bipush (v := 10) hx hb d_TR_translate_239 (by decide) ?_
  refine lv_aload_n hx hb d_TR_translate_241 rfl (lv_at hl 2 rfl) ?_
  refine va_get (D := D) (ci := 1) (v := .int 0) (C := R_Wo) (T := T_Wo) (N := 6) hx hb hg i_Wo hown hK hP4 1 rfl rfl 1 (by decide) (hg _ k1_56) (fun _ h9 => h9) rfl d_TR_translate_242 ?_
  refine zCallv (wc := [(r0, .inr (3, (((((((rs.set 0 (.ref w0)).set 1 (.ref p0)).set 2 (.int 0)).set 3 (.int 0)).set 4 (.int (-1))).set 5 (.int 0)).set 19 (.int 0))))]) (wr := [(x0, .inr (2, (ts.set 2 (.ref p0)))), (w0, .inr (1, [.ref t1, .int 0, .int 1, .ref sa, .ref sb, .ref sc])), (sa, .inl (tA 0, 128, .inl (upd (fa) 0 (0)))), (m0, .inr (4, (ms.set 0 (.ref p0)))), (p0, .inr (5, (((((ps.set 2 (.int 0)).set 3 (.int 0)).set 7 (.int 0)).set 12 (.int 0)).set 11 (.int (-1))))), (pb, .inl (tA 0, 61, .inl (upd (gb) 0 (0)))), (po, .inl (tA 0, 128, .inl (go)))]) hP4 hD4 hS4 hA [7] [0, 1, 2, 3, 4, 5, 6] rfl rfl (by decide) (by decide) (va_runV (As := [.int 10, .int 0]) (rest := []) ⟨hx, hb, hml, hown, hg⟩ (c_RR_note_0 l D tA _ r0 (((((((rs.set 0 (.ref w0)).set 1 (.ref p0)).set 2 (.int 0)).set 3 (.int 0)).set 4 (.int (-1))).set 5 (.int 0)).set 19 (.int 0)) (zSetN (by decide) (zSetN (by decide) (zSetN (by decide) (zSetS (zSetN (by decide) (zSetN (by decide) (zSetN (by decide) hr0_fault))))))) (zSetN (by decide) (zSetN (by decide) (zSetS (zSetN (by decide) (zSetN (by decide) (zSetN (by decide) (zSetN (by decide) hr0_place)))))))) (zV 2 hg k4_157 k4_158 k4_159 k1_4 k4_160 rfl rfl (by decide +kernel) ⟨(Nat.le_of_ble_eq_true rfl), (Nat.le_of_ble_eq_true rfl)⟩) (zPreV hh hK hP4 hD4 [7] (by decide) rfl (ci := 3) rfl 0 rfl) rfl rfl hl.1 rfl (lv_room (Nat.le_of_ble_eq_true rfl)) d_TR_translate_245 ⟨(Nat.le_of_ble_eq_true rfl), (Nat.le_of_ble_eq_true rfl)⟩) (fun _ H5 locs5 _ hP5 hD5 hS5 => ?_)
  clear hP4 hD4 hS4
  replace hP5 : va_P D vwCl [(x0, .inr (2, (ts.set 2 (.ref p0)))), (w0, .inr (1, [.ref t1, .int 0, .int 1, .ref sa, .ref sb, .ref sc])), (sa, .inl (tA 0, 128, .inl (upd (fa) 0 (0)))), (m0, .inr (4, (ms.set 0 (.ref p0)))), (p0, .inr (5, (((((ps.set 2 (.int 0)).set 3 (.int 0)).set 7 (.int 0)).set 12 (.int 0)).set 11 (.int (-1))))), (pb, .inl (tA 0, 61, .inl (upd (gb) 0 (0)))), (po, .inl (tA 0, 128, .inl (go))), (r0, .inr (3, (((((((((rs.set 0 (.ref w0)).set 1 (.ref p0)).set 2 (.int 0)).set 3 (.int 0)).set 4 (.int (-1))).set 5 (.int 0)).set 19 (.int 0)).set 3 (.int 10)).set 4 (.int 0))))] _ := hP5
  replace hD5 : va_D A [(x0, .inr (2, (ts.set 2 (.ref p0)))), (w0, .inr (1, [.ref t1, .int 0, .int 1, .ref sa, .ref sb, .ref sc])), (sa, .inl (tA 0, 128, .inl (upd (fa) 0 (0)))), (m0, .inr (4, (ms.set 0 (.ref p0)))), (p0, .inr (5, (((((ps.set 2 (.int 0)).set 3 (.int 0)).set 7 (.int 0)).set 12 (.int 0)).set 11 (.int (-1))))), (pb, .inl (tA 0, 61, .inl (upd (gb) 0 (0)))), (po, .inl (tA 0, 128, .inl (go))), (r0, .inr (3, (((((((((rs.set 0 (.ref w0)).set 1 (.ref p0)).set 2 (.int 0)).set 3 (.int 0)).set 4 (.int (-1))).set 5 (.int 0)).set 19 (.int 0)).set 3 (.int 10)).set 4 (.int 0))))] := hD5
  refine lv_aload_n hx hb d_TR_translate_248 rfl (lv_at hl 1 rfl) ?_
  refine va_get (D := D) (ci := 2) (v := .ref r0) (C := R_TR) (T := T_TR) (N := 9) hx hb hg i_TR hown hK hP5 0 rfl rfl 0 (by decide) (hg _ k1_229) (fun _ h9 => h9) (zSetN (by decide) hx0_rules) d_TR_translate_249 ?_
  refine va_get (D := D) (ci := 3) (v := .int 10) (C := R_RR) (T := T_RR) (N := 20) hx hb hg i_RR hown hK hP5 7 rfl rfl 3 (by decide) (hg _ k1_101) (fun _ h9 => h9) (zSetN (by decide) (zSetS (zSetN (by decide) (zSetN (by decide) (zSetN (by decide) (zSetS (zSetN (by decide) (zSetN (by decide) (zSetN (by decide) hr0_fault))))))))) d_TR_translate_252 ?_
  exact zZret (post := fun r (_ : Unit) => r = 10) (W1 := fun _ => [(x0, .inr (2, (ts.set 2 (.ref p0)))), (w0, .inr (1, [.ref t1, .int 0, .int 1, .ref sa, .ref sb, .ref sc])), (sa, .inl (tA 0, 128, .inl (upd (fa) 0 (0)))), (m0, .inr (4, (ms.set 0 (.ref p0)))), (p0, .inr (5, (((((ps.set 2 (.int 0)).set 3 (.int 0)).set 7 (.int 0)).set 12 (.int 0)).set 11 (.int (-1))))), (pb, .inl (tA 0, 61, .inl (upd (gb) 0 (0)))), (po, .inl (tA 0, 128, .inl (go))), (r0, .inr (3, (((((((((rs.set 0 (.ref w0)).set 1 (.ref p0)).set 2 (.int 0)).set 3 (.int 0)).set 4 (.int (-1))).set 5 (.int 0)).set 19 (.int 0)).set 3 (.int 10)).set 4 (.int 0))))]) (v := 10) hx hb hr rfl hlocks hP5 hD5 hS5 () rfl rfl d_TR_translate_255
set_option maxHeartbeats 4000000 in
set_option maxRecDepth 100000 in
theorem c_TR_faultPlace_0 (l : Launch) (D : va_G) (tA : Nat → ClassId) (sz : Nat) (x0 : Nat) (r0 : Nat) (ts : List Value) (rs : List Value) (hx0_rules : ts[0]? = some (.ref r0)) (hr0_place : rs[4]? = some (.int 0)) : zMi l ({ cls := "ChanceArena$TextReader", name := "faultPlace", desc := "()I" } : Jvm.MethodName) (zW (Jvm.Cond.code ({ cls := "ChanceArena$TextReader", name := "faultPlace", desc := "()I" } : Jvm.MethodName) prog_12_method_2_code (1 : Nat) (Option.some Jvm.ClassFile.FieldType.int))) { frames := 0, cells := 0, slots := 0, locals := 0 } [.ref x0] D tA [(x0, .inr (2, ts)), (r0, .inr (3, rs))] sz (fun r (_ : Unit) => r = 0) (fun _ => [(x0, .inr (2, ts)), (r0, .inr (3, rs))]) 0 0 := by
  refine zOpen (fun A => va_Qi (fun r (_ : Unit) => r = 0) (zPost D A (fun _ => [(x0, .inr (2, ts)), (r0, .inr (3, rs))])) A) (lv := [(0, .ref x0)]) (by decide) rfl (Nat.le_of_ble_eq_true rfl) rfl ?_
  intro p e s m below meth c A ls hx hb hr hml hh hg hown hlocks hnm hK hA hP hD0 hAw hS hl
  have hD := zD hD0 hAw
  refine lv_aload_n hx hb d_TR_faultPlace_0 rfl (lv_at hl 0 rfl) ?_
  refine va_get (D := D) (ci := 2) (v := .ref r0) (C := R_TR) (T := T_TR) (N := 9) hx hb hg i_TR hown hK hP 0 rfl rfl 0 (by decide) (hg _ k1_229) (fun _ h9 => h9) hx0_rules d_TR_faultPlace_1 ?_
  refine va_get (D := D) (ci := 3) (v := .int 0) (C := R_RR) (T := T_RR) (N := 20) hx hb hg i_RR hown hK hP 1 rfl rfl 4 (by decide) (hg _ k1_102) (fun _ h9 => h9) hr0_place d_TR_faultPlace_4 ?_
  exact zZret (post := fun r (_ : Unit) => r = 0) (W1 := fun _ => [(x0, .inr (2, ts)), (r0, .inr (3, rs))]) (v := 0) hx hb hr rfl hlocks hP hD hS () rfl rfl d_TR_faultPlace_7
set_option maxHeartbeats 4000000 in
set_option maxRecDepth 100000 in
theorem c_CA_compile_0 (l : Launch) (D : va_G) (tA : Nat → ClassId) (sz : Nat) (h0 : Nat) (w0 : Nat) (t1 : Nat) (t2 : Nat) (x0 : Nat) (p0 : Nat) (sa : Nat) (sb : Nat) (sc : Nat) (m0 : Nat) (r0 : Nat) (pb : Nat) (po : Nat) (fs : List Value) (ts : List Value) (ps : List Value) (ms : List Value) (rs : List Value) (fa : Nat → Int32) (fb : Nat → Int32) (fc : Nat → Int32) (gb : Nat → Int32) (go : Nat → Int32) (hh0_words : fs[2]? = some (.ref w0)) (hh0_tape : fs[0]? = some (.ref t1)) (hh0_tapeLength : fs[1]? = some (.int 0)) (hh0_reader : fs[3]? = some (.ref x0)) (hh0_spare : fs[5]? = some (.ref p0)) (hh0_faultPlace : fs[7]? = some (.int (-1))) (hx0_text : ts[2]? = some (.null)) (hx0_machine : ts[1]? = some (.ref m0)) (hx0_rules : ts[0]? = some (.ref r0)) (hp0_length : ps[2]? = some (.int 0)) (hp0_vars : ps[3]? = some (.int 0)) (hp0_names : ps[7]? = some (.int 0)) (hp0_commands : ps[12]? = some (.int 0)) (hp0_target : ps[11]? = some (.int 0)) (hp0_firstBranch : ps[16]? = some (.ref pb)) (hp0_orders : ps[0]? = some (.ref po)) (hm0_text : ms[0]? = some (.null)) (hr0_words : rs[0]? = some (.null)) (hr0_text : rs[1]? = some (.null)) (hr0_at : rs[2]? = some (.int 0)) (hr0_fault : rs[3]? = some (.int 0)) (hr0_place : rs[4]? = some (.int 0)) (hr0_depth : rs[5]? = some (.int 0)) (hr0_nameCount : rs[19]? = some (.int 0)) : zMi l ({ cls := "ChanceArena", name := "compile", desc := "()I" } : Jvm.MethodName) (zW (Jvm.Cond.code ({ cls := "ChanceArena", name := "compile", desc := "()I" } : Jvm.MethodName) prog_1_method_6_code (3 : Nat) (Option.some Jvm.ClassFile.FieldType.int))) { frames := 2, cells := 0, slots := 0, locals := 48 } [.ref h0] D tA [(h0, .inr (0, fs)), (w0, .inr (1, [.ref t2, .int 0, .int 0, .ref sa, .ref sb, .ref sc])), (sa, .inl (tA 0, 128, .inl (fa))), (sb, .inl (tA 0, 128, .inl (fb))), (sc, .inl (tA 0, 128, .inl (fc))), (x0, .inr (2, ts)), (p0, .inr (5, ps)), (pb, .inl (tA 0, 61, .inl (gb))), (po, .inl (tA 0, 128, .inl (go))), (m0, .inr (4, ms)), (r0, .inr (3, rs))] sz (fun r (_ : Unit) => r = 10) (fun _ => [(h0, .inr (0, ((fs.set 1 (.int 0)).set 7 (.int 0)))), (sb, .inl (tA 0, 128, .inl (upd (fb) 0 (0)))), (sc, .inl (tA 0, 128, .inl (upd (fc) 0 (0)))), (w0, .inr (1, [.ref t1, .int 0, .int 1, .ref sa, .ref sb, .ref sc])), (sa, .inl (tA 0, 128, .inl (upd (fa) 0 (0)))), (m0, .inr (4, (ms.set 0 (.ref p0)))), (p0, .inr (5, (((((ps.set 2 (.int 0)).set 3 (.int 0)).set 7 (.int 0)).set 12 (.int 0)).set 11 (.int (-1))))), (pb, .inl (tA 0, 61, .inl (upd (gb) 0 (0)))), (po, .inl (tA 0, 128, .inl (go))), (x0, .inr (2, (ts.set 2 (.ref p0)))), (r0, .inr (3, (((((((((rs.set 0 (.ref w0)).set 1 (.ref p0)).set 2 (.int 0)).set 3 (.int 0)).set 4 (.int (-1))).set 5 (.int 0)).set 19 (.int 0)).set 3 (.int 10)).set 4 (.int 0))))]) 0 0 := by
  refine zOpen (fun A => va_Qi (fun r (_ : Unit) => r = 10) (zPost D A (fun _ => [(h0, .inr (0, ((fs.set 1 (.int 0)).set 7 (.int 0)))), (sb, .inl (tA 0, 128, .inl (upd (fb) 0 (0)))), (sc, .inl (tA 0, 128, .inl (upd (fc) 0 (0)))), (w0, .inr (1, [.ref t1, .int 0, .int 1, .ref sa, .ref sb, .ref sc])), (sa, .inl (tA 0, 128, .inl (upd (fa) 0 (0)))), (m0, .inr (4, (ms.set 0 (.ref p0)))), (p0, .inr (5, (((((ps.set 2 (.int 0)).set 3 (.int 0)).set 7 (.int 0)).set 12 (.int 0)).set 11 (.int (-1))))), (pb, .inl (tA 0, 61, .inl (upd (gb) 0 (0)))), (po, .inl (tA 0, 128, .inl (go))), (x0, .inr (2, (ts.set 2 (.ref p0)))), (r0, .inr (3, (((((((((rs.set 0 (.ref w0)).set 1 (.ref p0)).set 2 (.int 0)).set 3 (.int 0)).set 4 (.int (-1))).set 5 (.int 0)).set 19 (.int 0)).set 3 (.int 10)).set 4 (.int 0))))])) A) (lv := [(0, .ref h0)]) (by decide) rfl (Nat.le_of_ble_eq_true rfl) rfl ?_
  intro p e s m below meth c A ls hx hb hr hml hh hg hown hlocks hnm hK hA hP hD0 hAw hS hl
  have hD := zD hD0 hAw
  refine lv_aload_n hx hb d_CA_compile_0 rfl (lv_at hl 0 rfl) ?_
  refine va_get (D := D) (ci := 0) (v := .ref w0) (C := R_CA) (T := T_CA) (N := 19) hx hb hg i_CA hown hK hP 0 rfl rfl 2 (by decide) (hg _ k3_189) (fun _ h9 => h9) hh0_words d_CA_compile_1 ?_
  refine lv_aload_n hx hb d_CA_compile_4 rfl (lv_at hl 0 rfl) ?_
  refine va_get (D := D) (ci := 0) (v := .ref t1) (C := R_CA) (T := T_CA) (N := 19) hx hb hg i_CA hown hK hP 0 rfl rfl 0 (by decide) (hg _ k3_187) (fun _ h9 => h9) hh0_tape d_CA_compile_5 ?_
  refine lv_aload_n hx hb d_CA_compile_8 rfl (lv_at hl 0 rfl) ?_
  refine va_get (D := D) (ci := 0) (v := .int 0) (C := R_CA) (T := T_CA) (N := 19) hx hb hg i_CA hown hK hP 0 rfl rfl 1 (by decide) (hg _ k3_188) (fun _ h9 => h9) hh0_tapeLength d_CA_compile_9 ?_
  refine zCallv (wc := [(w0, .inr (1, [.ref t2, .int 0, .int 0, .ref sa, .ref sb, .ref sc])), (sa, .inl (tA 0, 128, .inl (fa))), (sb, .inl (tA 0, 128, .inl (fb))), (sc, .inl (tA 0, 128, .inl (fc)))]) (wr := [(h0, .inr (0, fs)), (x0, .inr (2, ts)), (p0, .inr (5, ps)), (pb, .inl (tA 0, 61, .inl (gb))), (po, .inl (tA 0, 128, .inl (go))), (m0, .inr (4, ms)), (r0, .inr (3, rs))]) hP hD hS hA [1, 2, 3, 4] [0, 5, 6, 7, 8, 9, 10] rfl rfl (by decide) (by decide) (va_runV (As := [.ref t1, .int 0]) (rest := []) ⟨hx, hb, hml, hown, hg⟩ (c_Wo_split_0 l D tA _ w0 t1 sa sb sc t2 fa fb fc) (zV 2 hg k4_24 k4_25 k4_26 k1_2 k4_27 rfl rfl (by decide +kernel) ⟨(Nat.le_of_ble_eq_true rfl), (Nat.le_of_ble_eq_true rfl)⟩) (zPreV hh hK hP hD [1, 2, 3, 4] (by decide) rfl (ci := 1) rfl 0 rfl) rfl rfl hl.1 rfl (lv_room (Nat.le_of_ble_eq_true rfl)) d_CA_compile_12 ⟨(Nat.le_of_ble_eq_true rfl), (Nat.le_of_ble_eq_true rfl)⟩) (fun _ H1 locs1 _ hP1 hD1 hS1 => ?_)
  clear hP hD hS
  replace hP1 : va_P D vwCl [(h0, .inr (0, fs)), (x0, .inr (2, ts)), (p0, .inr (5, ps)), (pb, .inl (tA 0, 61, .inl (gb))), (po, .inl (tA 0, 128, .inl (go))), (m0, .inr (4, ms)), (r0, .inr (3, rs)), (w0, .inr (1, [.ref t1, .int 0, .int 1, .ref sa, .ref sb, .ref sc])), (sa, .inl (tA 0, 128, .inl (upd (fa) 0 (0)))), (sb, .inl (tA 0, 128, .inl (upd (fb) 0 (0)))), (sc, .inl (tA 0, 128, .inl (upd (fc) 0 (0))))] _ := hP1
  replace hD1 : va_D A [(h0, .inr (0, fs)), (x0, .inr (2, ts)), (p0, .inr (5, ps)), (pb, .inl (tA 0, 61, .inl (gb))), (po, .inl (tA 0, 128, .inl (go))), (m0, .inr (4, ms)), (r0, .inr (3, rs)), (w0, .inr (1, [.ref t1, .int 0, .int 1, .ref sa, .ref sb, .ref sc])), (sa, .inl (tA 0, 128, .inl (upd (fa) 0 (0)))), (sb, .inl (tA 0, 128, .inl (upd (fb) 0 (0)))), (sc, .inl (tA 0, 128, .inl (upd (fc) 0 (0))))] := hD1
  refine lv_aload_n hx hb d_CA_compile_15 rfl (lv_at hl 0 rfl) ?_
  refine lv_iconst (v := 0) hx hb d_CA_compile_16 (by decide) ?_
  refine va_put (D := D) (ci := 0) (v := .int 0) (ty := .int) (C := R_CA) (T := T_CA) (N := 19) hx hb hg i_CA t_CA o_CA n_CA hown hK hP1 hD1 hS1 0 rfl rfl 1 (by decide) (hg _ k3_188) (fun _ h9 => h9) rfl (by decide +kernel) rfl rfl (zLen hh0_tapeLength) d_CA_compile_17 (fun H2 locs2 hP2 hD2 hS2 => ?_)
  clear hP1 hD1 hS1
  replace hP2 : va_P D vwCl [(h0, .inr (0, (fs.set 1 (.int 0)))), (x0, .inr (2, ts)), (p0, .inr (5, ps)), (pb, .inl (tA 0, 61, .inl (gb))), (po, .inl (tA 0, 128, .inl (go))), (m0, .inr (4, ms)), (r0, .inr (3, rs)), (w0, .inr (1, [.ref t1, .int 0, .int 1, .ref sa, .ref sb, .ref sc])), (sa, .inl (tA 0, 128, .inl (upd (fa) 0 (0)))), (sb, .inl (tA 0, 128, .inl (upd (fb) 0 (0)))), (sc, .inl (tA 0, 128, .inl (upd (fc) 0 (0))))] _ := hP2
  replace hD2 : va_D A [(h0, .inr (0, (fs.set 1 (.int 0)))), (x0, .inr (2, ts)), (p0, .inr (5, ps)), (pb, .inl (tA 0, 61, .inl (gb))), (po, .inl (tA 0, 128, .inl (go))), (m0, .inr (4, ms)), (r0, .inr (3, rs)), (w0, .inr (1, [.ref t1, .int 0, .int 1, .ref sa, .ref sb, .ref sc])), (sa, .inl (tA 0, 128, .inl (upd (fa) 0 (0)))), (sb, .inl (tA 0, 128, .inl (upd (fb) 0 (0)))), (sc, .inl (tA 0, 128, .inl (upd (fc) 0 (0))))] := hD2
  refine lv_aload_n hx hb d_CA_compile_20 rfl (lv_at hl 0 rfl) ?_
  refine va_get (D := D) (ci := 0) (v := .ref x0) (C := R_CA) (T := T_CA) (N := 19) hx hb hg i_CA hown hK hP2 0 rfl rfl 3 (by decide) (hg _ k3_190) (fun _ h9 => h9) (zSetN (by decide) hh0_reader) d_CA_compile_21 ?_
  refine lv_aload_n hx hb d_CA_compile_24 rfl (lv_at hl 0 rfl) ?_
  refine va_get (D := D) (ci := 0) (v := .ref w0) (C := R_CA) (T := T_CA) (N := 19) hx hb hg i_CA hown hK hP2 0 rfl rfl 2 (by decide) (hg _ k3_189) (fun _ h9 => h9) (zSetN (by decide) hh0_words) d_CA_compile_25 ?_
  refine lv_aload_n hx hb d_CA_compile_28 rfl (lv_at hl 0 rfl) ?_
  refine va_get (D := D) (ci := 0) (v := .ref p0) (C := R_CA) (T := T_CA) (N := 19) hx hb hg i_CA hown hK hP2 0 rfl rfl 5 (by decide) (hg _ k3_192) (fun _ h9 => h9) (zSetN (by decide) hh0_spare) d_CA_compile_29 ?_
  refine zCalli (wc := [(x0, .inr (2, ts)), (w0, .inr (1, [.ref t1, .int 0, .int 1, .ref sa, .ref sb, .ref sc])), (sa, .inl (tA 0, 128, .inl (upd (fa) 0 (0)))), (p0, .inr (5, ps)), (pb, .inl (tA 0, 61, .inl (gb))), (po, .inl (tA 0, 128, .inl (go))), (m0, .inr (4, ms)), (r0, .inr (3, rs))]) (wr := [(h0, .inr (0, (fs.set 1 (.int 0)))), (sb, .inl (tA 0, 128, .inl (upd (fb) 0 (0)))), (sc, .inl (tA 0, 128, .inl (upd (fc) 0 (0))))]) hP2 hD2 hS2 hA [1, 7, 8, 2, 3, 4, 5, 6] [0, 9, 10] rfl rfl (by decide) (by decide) (va_runV (As := [.ref w0, .ref p0]) (rest := []) ⟨hx, hb, hml, hown, hg⟩ (c_TR_translate_0 l D tA _ x0 w0 p0 m0 r0 t1 sa sb sc pb po ts ps ms rs fa gb go hx0_text hx0_machine hx0_rules hp0_length hp0_vars hp0_names hp0_commands hp0_target hp0_firstBranch hp0_orders hm0_text hr0_words hr0_text hr0_at hr0_fault hr0_place hr0_depth hr0_nameCount) (zV 2 hg k4_133 k4_134 k4_135 k1_3 k4_136 rfl rfl (by decide +kernel) ⟨(Nat.le_of_ble_eq_true rfl), (Nat.le_of_ble_eq_true rfl)⟩) (zPreV hh hK hP2 hD2 [1, 7, 8, 2, 3, 4, 5, 6] (by decide) rfl (ci := 2) rfl 0 rfl) rfl rfl hl.1 rfl (lv_room (Nat.le_of_ble_eq_true rfl)) d_CA_compile_32 ⟨(Nat.le_of_ble_eq_true rfl), (Nat.le_of_ble_eq_true rfl)⟩) (fun r9 _ H3 locs3 e9 hP3 hD3 hS3 => ?_)
  clear hP2 hD2 hS2
  replace e9 : r9 = 10 := e9
  subst e9
  replace hP3 : va_P D vwCl [(h0, .inr (0, (fs.set 1 (.int 0)))), (sb, .inl (tA 0, 128, .inl (upd (fb) 0 (0)))), (sc, .inl (tA 0, 128, .inl (upd (fc) 0 (0)))), (x0, .inr (2, (ts.set 2 (.ref p0)))), (w0, .inr (1, [.ref t1, .int 0, .int 1, .ref sa, .ref sb, .ref sc])), (sa, .inl (tA 0, 128, .inl (upd (fa) 0 (0)))), (m0, .inr (4, (ms.set 0 (.ref p0)))), (p0, .inr (5, (((((ps.set 2 (.int 0)).set 3 (.int 0)).set 7 (.int 0)).set 12 (.int 0)).set 11 (.int (-1))))), (pb, .inl (tA 0, 61, .inl (upd (gb) 0 (0)))), (po, .inl (tA 0, 128, .inl (go))), (r0, .inr (3, (((((((((rs.set 0 (.ref w0)).set 1 (.ref p0)).set 2 (.int 0)).set 3 (.int 0)).set 4 (.int (-1))).set 5 (.int 0)).set 19 (.int 0)).set 3 (.int 10)).set 4 (.int 0))))] _ := hP3
  replace hD3 : va_D A [(h0, .inr (0, (fs.set 1 (.int 0)))), (sb, .inl (tA 0, 128, .inl (upd (fb) 0 (0)))), (sc, .inl (tA 0, 128, .inl (upd (fc) 0 (0)))), (x0, .inr (2, (ts.set 2 (.ref p0)))), (w0, .inr (1, [.ref t1, .int 0, .int 1, .ref sa, .ref sb, .ref sc])), (sa, .inl (tA 0, 128, .inl (upd (fa) 0 (0)))), (m0, .inr (4, (ms.set 0 (.ref p0)))), (p0, .inr (5, (((((ps.set 2 (.int 0)).set 3 (.int 0)).set 7 (.int 0)).set 12 (.int 0)).set 11 (.int (-1))))), (pb, .inl (tA 0, 61, .inl (upd (gb) 0 (0)))), (po, .inl (tA 0, 128, .inl (go))), (r0, .inr (3, (((((((((rs.set 0 (.ref w0)).set 1 (.ref p0)).set 2 (.int 0)).set 3 (.int 0)).set 4 (.int (-1))).set 5 (.int 0)).set 19 (.int 0)).set 3 (.int 10)).set 4 (.int 0))))] := hD3
  refine lv_istore_n (lv' := [(1, .int 10), (0, .ref h0)]) hx hb d_CA_compile_35 rfl hl (by decide) rfl (fun ls hl => ?_)
  refine lv_aload_n hx hb d_CA_compile_36 rfl (lv_at hl 1 rfl) ?_
  refine lv_iload_n hx hb d_CA_compile_37 rfl (lv_at hl 0 rfl) ?_
  refine lv_if_ne (tgt := 45) hx hb d_CA_compile_38 (by decide) (fun _ => ?_) (fun c9 => absurd c9 (by decide))
  refine lv_aload_n hx hb d_CA_compile_45 rfl (lv_at hl 1 rfl) ?_
  refine va_get (D := D) (ci := 0) (v := .ref x0) (C := R_CA) (T := T_CA) (N := 19) hx hb hg i_CA hown hK hP3 0 rfl rfl 3 (by decide) (hg _ k3_190) (fun _ h9 => h9) (zSetN (by decide) hh0_reader) d_CA_compile_46 ?_
  refine zCalli (wc := [(x0, .inr (2, (ts.set 2 (.ref p0)))), (r0, .inr (3, (((((((((rs.set 0 (.ref w0)).set 1 (.ref p0)).set 2 (.int 0)).set 3 (.int 0)).set 4 (.int (-1))).set 5 (.int 0)).set 19 (.int 0)).set 3 (.int 10)).set 4 (.int 0))))]) (wr := [(h0, .inr (0, (fs.set 1 (.int 0)))), (sb, .inl (tA 0, 128, .inl (upd (fb) 0 (0)))), (sc, .inl (tA 0, 128, .inl (upd (fc) 0 (0)))), (w0, .inr (1, [.ref t1, .int 0, .int 1, .ref sa, .ref sb, .ref sc])), (sa, .inl (tA 0, 128, .inl (upd (fa) 0 (0)))), (m0, .inr (4, (ms.set 0 (.ref p0)))), (p0, .inr (5, (((((ps.set 2 (.int 0)).set 3 (.int 0)).set 7 (.int 0)).set 12 (.int 0)).set 11 (.int (-1))))), (pb, .inl (tA 0, 61, .inl (upd (gb) 0 (0)))), (po, .inl (tA 0, 128, .inl (go)))]) hP3 hD3 hS3 hA [3, 10] [0, 1, 2, 4, 5, 6, 7, 8, 9] rfl rfl (by decide) (by decide) (va_runV (As := []) (rest := [.ref h0]) ⟨hx, hb, hml, hown, hg⟩ (c_TR_faultPlace_0 l D tA _ x0 r0 (ts.set 2 (.ref p0)) (((((((((rs.set 0 (.ref w0)).set 1 (.ref p0)).set 2 (.int 0)).set 3 (.int 0)).set 4 (.int (-1))).set 5 (.int 0)).set 19 (.int 0)).set 3 (.int 10)).set 4 (.int 0)) (zSetN (by decide) hx0_rules) (zSetS (zSetN (by decide) (zSetN (by decide) (zSetN (by decide) (zSetS (zSetN (by decide) (zSetN (by decide) (zSetN (by decide) (zSetN (by decide) hr0_place)))))))))) (zV 0 hg k5_116 k5_117 k5_118 k1_3 k5_119 rfl rfl (by decide +kernel) ⟨(Nat.le_of_ble_eq_true rfl), (Nat.le_of_ble_eq_true rfl)⟩) (zPreV hh hK hP3 hD3 [3, 10] (by decide) rfl (ci := 2) rfl 0 rfl) rfl rfl hl.1 rfl (lv_room (Nat.le_of_ble_eq_true rfl)) d_CA_compile_49 ⟨(Nat.le_of_ble_eq_true rfl), (Nat.le_of_ble_eq_true rfl)⟩) (fun r9 _ H4 locs4 e9 hP4 hD4 hS4 => ?_)
  clear hP3 hD3 hS3
  replace e9 : r9 = 0 := e9
  subst e9
  replace hP4 : va_P D vwCl [(h0, .inr (0, (fs.set 1 (.int 0)))), (sb, .inl (tA 0, 128, .inl (upd (fb) 0 (0)))), (sc, .inl (tA 0, 128, .inl (upd (fc) 0 (0)))), (w0, .inr (1, [.ref t1, .int 0, .int 1, .ref sa, .ref sb, .ref sc])), (sa, .inl (tA 0, 128, .inl (upd (fa) 0 (0)))), (m0, .inr (4, (ms.set 0 (.ref p0)))), (p0, .inr (5, (((((ps.set 2 (.int 0)).set 3 (.int 0)).set 7 (.int 0)).set 12 (.int 0)).set 11 (.int (-1))))), (pb, .inl (tA 0, 61, .inl (upd (gb) 0 (0)))), (po, .inl (tA 0, 128, .inl (go))), (x0, .inr (2, (ts.set 2 (.ref p0)))), (r0, .inr (3, (((((((((rs.set 0 (.ref w0)).set 1 (.ref p0)).set 2 (.int 0)).set 3 (.int 0)).set 4 (.int (-1))).set 5 (.int 0)).set 19 (.int 0)).set 3 (.int 10)).set 4 (.int 0))))] _ := hP4
  replace hD4 : va_D A [(h0, .inr (0, (fs.set 1 (.int 0)))), (sb, .inl (tA 0, 128, .inl (upd (fb) 0 (0)))), (sc, .inl (tA 0, 128, .inl (upd (fc) 0 (0)))), (w0, .inr (1, [.ref t1, .int 0, .int 1, .ref sa, .ref sb, .ref sc])), (sa, .inl (tA 0, 128, .inl (upd (fa) 0 (0)))), (m0, .inr (4, (ms.set 0 (.ref p0)))), (p0, .inr (5, (((((ps.set 2 (.int 0)).set 3 (.int 0)).set 7 (.int 0)).set 12 (.int 0)).set 11 (.int (-1))))), (pb, .inl (tA 0, 61, .inl (upd (gb) 0 (0)))), (po, .inl (tA 0, 128, .inl (go))), (x0, .inr (2, (ts.set 2 (.ref p0)))), (r0, .inr (3, (((((((((rs.set 0 (.ref w0)).set 1 (.ref p0)).set 2 (.int 0)).set 3 (.int 0)).set 4 (.int (-1))).set 5 (.int 0)).set 19 (.int 0)).set 3 (.int 10)).set 4 (.int 0))))] := hD4
  refine va_put (D := D) (ci := 0) (v := .int 0) (ty := .int) (C := R_CA) (T := T_CA) (N := 19) hx hb hg i_CA t_CA o_CA n_CA hown hK hP4 hD4 hS4 0 rfl rfl 7 (by decide) (hg _ k3_194) (fun _ h9 => h9) rfl (by decide +kernel) rfl rfl (zLen (zSetN (by decide) hh0_faultPlace)) d_CA_compile_52 (fun H5 locs5 hP5 hD5 hS5 => ?_)
  clear hP4 hD4 hS4
  replace hP5 : va_P D vwCl [(h0, .inr (0, ((fs.set 1 (.int 0)).set 7 (.int 0)))), (sb, .inl (tA 0, 128, .inl (upd (fb) 0 (0)))), (sc, .inl (tA 0, 128, .inl (upd (fc) 0 (0)))), (w0, .inr (1, [.ref t1, .int 0, .int 1, .ref sa, .ref sb, .ref sc])), (sa, .inl (tA 0, 128, .inl (upd (fa) 0 (0)))), (m0, .inr (4, (ms.set 0 (.ref p0)))), (p0, .inr (5, (((((ps.set 2 (.int 0)).set 3 (.int 0)).set 7 (.int 0)).set 12 (.int 0)).set 11 (.int (-1))))), (pb, .inl (tA 0, 61, .inl (upd (gb) 0 (0)))), (po, .inl (tA 0, 128, .inl (go))), (x0, .inr (2, (ts.set 2 (.ref p0)))), (r0, .inr (3, (((((((((rs.set 0 (.ref w0)).set 1 (.ref p0)).set 2 (.int 0)).set 3 (.int 0)).set 4 (.int (-1))).set 5 (.int 0)).set 19 (.int 0)).set 3 (.int 10)).set 4 (.int 0))))] _ := hP5
  replace hD5 : va_D A [(h0, .inr (0, ((fs.set 1 (.int 0)).set 7 (.int 0)))), (sb, .inl (tA 0, 128, .inl (upd (fb) 0 (0)))), (sc, .inl (tA 0, 128, .inl (upd (fc) 0 (0)))), (w0, .inr (1, [.ref t1, .int 0, .int 1, .ref sa, .ref sb, .ref sc])), (sa, .inl (tA 0, 128, .inl (upd (fa) 0 (0)))), (m0, .inr (4, (ms.set 0 (.ref p0)))), (p0, .inr (5, (((((ps.set 2 (.int 0)).set 3 (.int 0)).set 7 (.int 0)).set 12 (.int 0)).set 11 (.int (-1))))), (pb, .inl (tA 0, 61, .inl (upd (gb) 0 (0)))), (po, .inl (tA 0, 128, .inl (go))), (x0, .inr (2, (ts.set 2 (.ref p0)))), (r0, .inr (3, (((((((((rs.set 0 (.ref w0)).set 1 (.ref p0)).set 2 (.int 0)).set 3 (.int 0)).set 4 (.int (-1))).set 5 (.int 0)).set 19 (.int 0)).set 3 (.int 10)).set 4 (.int 0))))] := hD5
  refine lv_iload_n hx hb d_CA_compile_55 rfl (lv_at hl 0 rfl) ?_
  refine lv_if_ne (tgt := 93) hx hb d_CA_compile_56 (by decide) (fun _ => ?_) (fun c9 => absurd c9 (by decide))
  refine lv_iload_n hx hb d_CA_compile_93 rfl (lv_at hl 0 rfl) ?_
  exact zZret (post := fun r (_ : Unit) => r = 10) (W1 := fun _ => [(h0, .inr (0, ((fs.set 1 (.int 0)).set 7 (.int 0)))), (sb, .inl (tA 0, 128, .inl (upd (fb) 0 (0)))), (sc, .inl (tA 0, 128, .inl (upd (fc) 0 (0)))), (w0, .inr (1, [.ref t1, .int 0, .int 1, .ref sa, .ref sb, .ref sc])), (sa, .inl (tA 0, 128, .inl (upd (fa) 0 (0)))), (m0, .inr (4, (ms.set 0 (.ref p0)))), (p0, .inr (5, (((((ps.set 2 (.int 0)).set 3 (.int 0)).set 7 (.int 0)).set 12 (.int 0)).set 11 (.int (-1))))), (pb, .inl (tA 0, 61, .inl (upd (gb) 0 (0)))), (po, .inl (tA 0, 128, .inl (go))), (x0, .inr (2, (ts.set 2 (.ref p0)))), (r0, .inr (3, (((((((((rs.set 0 (.ref w0)).set 1 (.ref p0)).set 2 (.int 0)).set 3 (.int 0)).set 4 (.int (-1))).set 5 (.int 0)).set 19 (.int 0)).set 3 (.int 10)).set 4 (.int 0))))]) (v := 10) hx hb hr rfl hlocks hP5 hD5 hS5 () rfl rfl d_CA_compile_94
