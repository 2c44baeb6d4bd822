theorem k1_15 : (Jvm.Cond.initialized "ChanceArenaModel$Numbers") ∈ lw_R := zR (zk_1 _ (List.mem_of_getElem? (i := 15) (by decide +kernel))) rfl
theorem k9_1 : (Jvm.Cond.instantiable "ChanceArenaModel$Numbers" (2 : Nat)) ∈ lw_R := zR (zk_9 _ (List.mem_of_getElem? (i := 1) (by decide +kernel))) rfl
theorem k9_3 : (Jvm.Cond.instanceMethod ({ cls := "ChanceArenaModel$Numbers", name := "<init>", desc := "()V" } : Jvm.MethodName)) ∈ lw_R := zR (zk_9 _ (List.mem_of_getElem? (i := 3) (by decide +kernel))) rfl
theorem k9_4 : (Jvm.Cond.code ({ cls := "ChanceArenaModel$Numbers", name := "<init>", desc := "()V" } : Jvm.MethodName) prog_18_method_1_code (1 : Nat) (Option.none : Option Jvm.ClassFile.FieldType)) ∈ lw_R := zR (zk_9 _ (List.mem_of_getElem? (i := 4) (by decide +kernel))) rfl
theorem k9_5 : (Jvm.Cond.methodLink "ChanceArenaModel$Numbers" (1 : Nat) ({ cls := "java/lang/Object", name := "<init>", desc := "()V" } : Jvm.MethodName)) ∈ lw_R := zR (zk_9 _ (List.mem_of_getElem? (i := 5) (by decide +kernel))) rfl
theorem k9_6 : (Jvm.Cond.fieldLink "ChanceArenaModel$Numbers" (7 : Nat) "ChanceArenaModel$Numbers" "all" "[I") ∈ lw_R := zR (zk_9 _ (List.mem_of_getElem? (i := 6) (by decide +kernel))) rfl
theorem k9_20 : (Jvm.Cond.code ({ cls := "ChanceArenaModel$Game", name := "<init>", desc := "()V" } : Jvm.MethodName) prog_17_method_1_code (1 : Nat) (Option.none : Option Jvm.ClassFile.FieldType)) ∈ lw_R := zR (zk_9 _ (List.mem_of_getElem? (i := 20) (by decide +kernel))) rfl
theorem k9_21 : (Jvm.Cond.methodLink "ChanceArenaModel$Game" (3 : Nat) ({ cls := "java/lang/Object", name := "<init>", desc := "()V" } : Jvm.MethodName)) ∈ lw_R := zR (zk_9 _ (List.mem_of_getElem? (i := 21) (by decide +kernel))) rfl
theorem k9_22 : (Jvm.Cond.classLink "ChanceArenaModel$Game" (9 : Nat) "ChanceArenaModel$Numbers") ∈ lw_R := zR (zk_9 _ (List.mem_of_getElem? (i := 22) (by decide +kernel))) rfl
theorem k9_23 : (Jvm.Cond.methodLinkNest "ChanceArenaModel$Game" (11 : Nat) ({ cls := "ChanceArenaModel$Numbers", name := "<init>", desc := "()V" } : Jvm.MethodName) "ChanceArenaModel") ∈ lw_R := zR (zk_9 _ (List.mem_of_getElem? (i := 23) (by decide +kernel))) rfl
theorem k9_24 : (Jvm.Cond.fieldLink "ChanceArenaModel$Game" (12 : Nat) "ChanceArenaModel$Game" "sort" "LChanceArenaModel$Numbers;") ∈ lw_R := zR (zk_9 _ (List.mem_of_getElem? (i := 24) (by decide +kernel))) rfl
theorem k9_26 : (Jvm.Cond.fieldLink "ChanceArenaModel$Game" (18 : Nat) "ChanceArenaModel$Game" "place" "LChanceArenaModel$Numbers;") ∈ lw_R := zR (zk_9 _ (List.mem_of_getElem? (i := 26) (by decide +kernel))) rfl
theorem k9_28 : (Jvm.Cond.fieldLink "ChanceArenaModel$Game" (21 : Nat) "ChanceArenaModel$Game" "from" "LChanceArenaModel$Numbers;") ∈ lw_R := zR (zk_9 _ (List.mem_of_getElem? (i := 28) (by decide +kernel))) rfl
theorem k9_30 : (Jvm.Cond.fieldLink "ChanceArenaModel$Game" (24 : Nat) "ChanceArenaModel$Game" "value" "LChanceArenaModel$Numbers;") ∈ lw_R := zR (zk_9 _ (List.mem_of_getElem? (i := 30) (by decide +kernel))) rfl
theorem k9_32 : (Jvm.Cond.fieldLink "ChanceArenaModel$Game" (27 : Nat) "ChanceArenaModel$Game" "firstPart" "LChanceArenaModel$Numbers;") ∈ lw_R := zR (zk_9 _ (List.mem_of_getElem? (i := 32) (by decide +kernel))) rfl
theorem k9_34 : (Jvm.Cond.fieldLink "ChanceArenaModel$Game" (30 : Nat) "ChanceArenaModel$Game" "nextPart" "LChanceArenaModel$Numbers;") ∈ lw_R := zR (zk_9 _ (List.mem_of_getElem? (i := 34) (by decide +kernel))) rfl
theorem k9_38 : (Jvm.Cond.fieldLink "ChanceArenaModel$Game" (33 : Nat) "ChanceArenaModel$Game" "isFormula" "[Z") ∈ lw_R := zR (zk_9 _ (List.mem_of_getElem? (i := 38) (by decide +kernel))) rfl
theorem k9_40 : (Jvm.Cond.fieldLink "ChanceArenaModel$Game" (37 : Nat) "ChanceArenaModel$Game" "isTruth" "[Z") ∈ lw_R := zR (zk_9 _ (List.mem_of_getElem? (i := 40) (by decide +kernel))) rfl
theorem k9_42 : (Jvm.Cond.fieldLink "ChanceArenaModel$Game" (40 : Nat) "ChanceArenaModel$Game" "rootOf" "[I") ∈ lw_R := zR (zk_9 _ (List.mem_of_getElem? (i := 42) (by decide +kernel))) rfl
theorem k9_44 : (Jvm.Cond.fieldLink "ChanceArenaModel$Game" (44 : Nat) "ChanceArenaModel$Game" "above" "[J") ∈ lw_R := zR (zk_9 _ (List.mem_of_getElem? (i := 44) (by decide +kernel))) rfl
theorem k9_46 : (Jvm.Cond.fieldLink "ChanceArenaModel$Game" (48 : Nat) "ChanceArenaModel$Game" "below" "[J") ∈ lw_R := zR (zk_9 _ (List.mem_of_getElem? (i := 46) (by decide +kernel))) rfl
theorem k9_50 : (Jvm.Cond.fieldLink "ChanceArenaModel$Game" (51 : Nat) "ChanceArenaModel$Game" "isBool" "[Z") ∈ lw_R := zR (zk_9 _ (List.mem_of_getElem? (i := 50) (by decide +kernel))) rfl
theorem k9_52 : (Jvm.Cond.fieldLink "ChanceArenaModel$Game" (54 : Nat) "ChanceArenaModel$Game" "least" "[I") ∈ lw_R := zR (zk_9 _ (List.mem_of_getElem? (i := 52) (by decide +kernel))) rfl
theorem k9_54 : (Jvm.Cond.fieldLink "ChanceArenaModel$Game" (57 : Nat) "ChanceArenaModel$Game" "greatest" "[I") ∈ lw_R := zR (zk_9 _ (List.mem_of_getElem? (i := 54) (by decide +kernel))) rfl
theorem k9_56 : (Jvm.Cond.fieldLink "ChanceArenaModel$Game" (60 : Nat) "ChanceArenaModel$Game" "begin" "[I") ∈ lw_R := zR (zk_9 _ (List.mem_of_getElem? (i := 56) (by decide +kernel))) rfl
theorem k9_62 : (Jvm.Cond.fieldLink "ChanceArenaModel$Game" (63 : Nat) "ChanceArenaModel$Game" "isMin" "[Z") ∈ lw_R := zR (zk_9 _ (List.mem_of_getElem? (i := 62) (by decide +kernel))) rfl
theorem k9_64 : (Jvm.Cond.fieldLink "ChanceArenaModel$Game" (66 : Nat) "ChanceArenaModel$Game" "commandPlace" "[I") ∈ lw_R := zR (zk_9 _ (List.mem_of_getElem? (i := 64) (by decide +kernel))) rfl
theorem k9_66 : (Jvm.Cond.fieldLink "ChanceArenaModel$Game" (69 : Nat) "ChanceArenaModel$Game" "guard" "[I") ∈ lw_R := zR (zk_9 _ (List.mem_of_getElem? (i := 66) (by decide +kernel))) rfl
theorem k9_68 : (Jvm.Cond.fieldLink "ChanceArenaModel$Game" (72 : Nat) "ChanceArenaModel$Game" "branches" "[I") ∈ lw_R := zR (zk_9 _ (List.mem_of_getElem? (i := 68) (by decide +kernel))) rfl
theorem k9_70 : (Jvm.Cond.fieldLink "ChanceArenaModel$Game" (75 : Nat) "ChanceArenaModel$Game" "chance" "[I") ∈ lw_R := zR (zk_9 _ (List.mem_of_getElem? (i := 70) (by decide +kernel))) rfl
theorem k9_72 : (Jvm.Cond.fieldLink "ChanceArenaModel$Game" (78 : Nat) "ChanceArenaModel$Game" "branchPlace" "[I") ∈ lw_R := zR (zk_9 _ (List.mem_of_getElem? (i := 72) (by decide +kernel))) rfl
theorem k9_74 : (Jvm.Cond.fieldLink "ChanceArenaModel$Game" (81 : Nat) "ChanceArenaModel$Game" "firstSet" "[I") ∈ lw_R := zR (zk_9 _ (List.mem_of_getElem? (i := 74) (by decide +kernel))) rfl
theorem k9_76 : (Jvm.Cond.fieldLink "ChanceArenaModel$Game" (84 : Nat) "ChanceArenaModel$Game" "manySets" "[I") ∈ lw_R := zR (zk_9 _ (List.mem_of_getElem? (i := 76) (by decide +kernel))) rfl
theorem k9_78 : (Jvm.Cond.fieldLink "ChanceArenaModel$Game" (87 : Nat) "ChanceArenaModel$Game" "setVar" "LChanceArenaModel$Numbers;") ∈ lw_R := zR (zk_9 _ (List.mem_of_getElem? (i := 78) (by decide +kernel))) rfl
theorem k9_80 : (Jvm.Cond.fieldLink "ChanceArenaModel$Game" (90 : Nat) "ChanceArenaModel$Game" "setPlace" "LChanceArenaModel$Numbers;") ∈ lw_R := zR (zk_9 _ (List.mem_of_getElem? (i := 80) (by decide +kernel))) rfl
theorem k9_82 : (Jvm.Cond.fieldLink "ChanceArenaModel$Game" (93 : Nat) "ChanceArenaModel$Game" "setRule" "LChanceArenaModel$Numbers;") ∈ lw_R := zR (zk_9 _ (List.mem_of_getElem? (i := 82) (by decide +kernel))) rfl
theorem d_MN_init_0 : decode prog_18_method_1_code 0 = .ok (.aload_n 0, 1) := dc9_42 (by decide +kernel)
theorem d_MN_init_1 : decode prog_18_method_1_code 1 = .ok (.invokespecial 1, 3) := dc9_183 (by decide +kernel)
theorem d_MN_init_4 : decode prog_18_method_1_code 4 = .ok (.aload_n 0, 1) := dc9_42 (by decide +kernel)
theorem d_MN_init_5 : decode prog_18_method_1_code 5 = .ok (.bipush 16, 2) := dc9_16 (by decide +kernel)
theorem d_MN_init_7 : decode prog_18_method_1_code 7 = .ok (.newarray .int, 2) := by decide +kernel
theorem d_MN_init_9 : decode prog_18_method_1_code 9 = .ok (.putfield 7, 3) := dc9_181 (by decide +kernel)
theorem d_MN_init_12 : decode prog_18_method_1_code 12 = .ok (.return_, 1) := dc9_177 (by decide +kernel)
theorem d_MG_init_0 : decode prog_17_method_1_code 0 = .ok (.aload_n 0, 1) := dc9_42 (by decide +kernel)
theorem d_MG_init_1 : decode prog_17_method_1_code 1 = .ok (.invokespecial 3, 3) := dc9_183 (by decide +kernel)
theorem d_MG_init_4 : decode prog_17_method_1_code 4 = .ok (.aload_n 0, 1) := dc9_42 (by decide +kernel)
theorem d_MG_init_5 : decode prog_17_method_1_code 5 = .ok (.new 9, 3) := dc9_187 (by decide +kernel)
theorem d_MG_init_8 : decode prog_17_method_1_code 8 = .ok (.dup, 1) := dc9_89 (by decide +kernel)
theorem d_MG_init_9 : decode prog_17_method_1_code 9 = .ok (.invokespecial 11, 3) := dc9_183 (by decide +kernel)
theorem d_MG_init_12 : decode prog_17_method_1_code 12 = .ok (.putfield 12, 3) := dc9_181 (by decide +kernel)
theorem d_MG_init_15 : decode prog_17_method_1_code 15 = .ok (.aload_n 0, 1) := dc9_42 (by decide +kernel)
theorem d_MG_init_16 : decode prog_17_method_1_code 16 = .ok (.new 9, 3) := dc9_187 (by decide +kernel)
theorem d_MG_init_19 : decode prog_17_method_1_code 19 = .ok (.dup, 1) := dc9_89 (by decide +kernel)
theorem d_MG_init_20 : decode prog_17_method_1_code 20 = .ok (.invokespecial 11, 3) := dc9_183 (by decide +kernel)
theorem d_MG_init_23 : decode prog_17_method_1_code 23 = .ok (.putfield 18, 3) := dc9_181 (by decide +kernel)
theorem d_MG_init_26 : decode prog_17_method_1_code 26 = .ok (.aload_n 0, 1) := dc9_42 (by decide +kernel)
theorem d_MG_init_27 : decode prog_17_method_1_code 27 = .ok (.new 9, 3) := dc9_187 (by decide +kernel)
theorem d_MG_init_30 : decode prog_17_method_1_code 30 = .ok (.dup, 1) := dc9_89 (by decide +kernel)
theorem d_MG_init_31 : decode prog_17_method_1_code 31 = .ok (.invokespecial 11, 3) := dc9_183 (by decide +kernel)
theorem d_MG_init_34 : decode prog_17_method_1_code 34 = .ok (.putfield 21, 3) := dc9_181 (by decide +kernel)
theorem d_MG_init_37 : decode prog_17_method_1_code 37 = .ok (.aload_n 0, 1) := dc9_42 (by decide +kernel)
theorem d_MG_init_38 : decode prog_17_method_1_code 38 = .ok (.new 9, 3) := dc9_187 (by decide +kernel)
theorem d_MG_init_41 : decode prog_17_method_1_code 41 = .ok (.dup, 1) := dc9_89 (by decide +kernel)
theorem d_MG_init_42 : decode prog_17_method_1_code 42 = .ok (.invokespecial 11, 3) := dc9_183 (by decide +kernel)
theorem d_MG_init_45 : decode prog_17_method_1_code 45 = .ok (.putfield 24, 3) := dc9_181 (by decide +kernel)
theorem d_MG_init_48 : decode prog_17_method_1_code 48 = .ok (.aload_n 0, 1) := dc9_42 (by decide +kernel)
theorem d_MG_init_49 : decode prog_17_method_1_code 49 = .ok (.new 9, 3) := dc9_187 (by decide +kernel)
theorem d_MG_init_52 : decode prog_17_method_1_code 52 = .ok (.dup, 1) := dc9_89 (by decide +kernel)
theorem d_MG_init_53 : decode prog_17_method_1_code 53 = .ok (.invokespecial 11, 3) := dc9_183 (by decide +kernel)
theorem d_MG_init_56 : decode prog_17_method_1_code 56 = .ok (.putfield 27, 3) := dc9_181 (by decide +kernel)
theorem d_MG_init_59 : decode prog_17_method_1_code 59 = .ok (.aload_n 0, 1) := dc9_42 (by decide +kernel)
theorem d_MG_init_60 : decode prog_17_method_1_code 60 = .ok (.new 9, 3) := dc9_187 (by decide +kernel)
theorem d_MG_init_63 : decode prog_17_method_1_code 63 = .ok (.dup, 1) := dc9_89 (by decide +kernel)
theorem d_MG_init_64 : decode prog_17_method_1_code 64 = .ok (.invokespecial 11, 3) := dc9_183 (by decide +kernel)
theorem d_MG_init_67 : decode prog_17_method_1_code 67 = .ok (.putfield 30, 3) := dc9_181 (by decide +kernel)
theorem d_MG_init_70 : decode prog_17_method_1_code 70 = .ok (.aload_n 0, 1) := dc9_42 (by decide +kernel)
theorem d_MG_init_71 : decode prog_17_method_1_code 71 = .ok (.bipush 60, 2) := dc9_16 (by decide +kernel)
theorem d_MG_init_73 : decode prog_17_method_1_code 73 = .ok (.newarray .boolean, 2) := by decide +kernel
theorem d_MG_init_75 : decode prog_17_method_1_code 75 = .ok (.putfield 33, 3) := dc9_181 (by decide +kernel)
theorem d_MG_init_78 : decode prog_17_method_1_code 78 = .ok (.aload_n 0, 1) := dc9_42 (by decide +kernel)
theorem d_MG_init_79 : decode prog_17_method_1_code 79 = .ok (.bipush 60, 2) := dc9_16 (by decide +kernel)
theorem d_MG_init_81 : decode prog_17_method_1_code 81 = .ok (.newarray .boolean, 2) := by decide +kernel
theorem d_MG_init_83 : decode prog_17_method_1_code 83 = .ok (.putfield 37, 3) := dc9_181 (by decide +kernel)
theorem d_MG_init_86 : decode prog_17_method_1_code 86 = .ok (.aload_n 0, 1) := dc9_42 (by decide +kernel)
theorem d_MG_init_87 : decode prog_17_method_1_code 87 = .ok (.bipush 60, 2) := dc9_16 (by decide +kernel)
theorem d_MG_init_89 : decode prog_17_method_1_code 89 = .ok (.newarray .int, 2) := by decide +kernel
theorem d_MG_init_91 : decode prog_17_method_1_code 91 = .ok (.putfield 40, 3) := dc9_181 (by decide +kernel)
theorem d_MG_init_94 : decode prog_17_method_1_code 94 = .ok (.aload_n 0, 1) := dc9_42 (by decide +kernel)
theorem d_MG_init_95 : decode prog_17_method_1_code 95 = .ok (.bipush 60, 2) := dc9_16 (by decide +kernel)
theorem d_MG_init_97 : decode prog_17_method_1_code 97 = .ok (.newarray .long, 2) := by decide +kernel
theorem d_MG_init_99 : decode prog_17_method_1_code 99 = .ok (.putfield 44, 3) := dc9_181 (by decide +kernel)
theorem d_MG_init_102 : decode prog_17_method_1_code 102 = .ok (.aload_n 0, 1) := dc9_42 (by decide +kernel)
theorem d_MG_init_103 : decode prog_17_method_1_code 103 = .ok (.bipush 60, 2) := dc9_16 (by decide +kernel)
theorem d_MG_init_105 : decode prog_17_method_1_code 105 = .ok (.newarray .long, 2) := by decide +kernel
theorem d_MG_init_107 : decode prog_17_method_1_code 107 = .ok (.putfield 48, 3) := dc9_181 (by decide +kernel)
theorem d_MG_init_110 : decode prog_17_method_1_code 110 = .ok (.aload_n 0, 1) := dc9_42 (by decide +kernel)
theorem d_MG_init_111 : decode prog_17_method_1_code 111 = .ok (.bipush 12, 2) := dc9_16 (by decide +kernel)
theorem d_MG_init_113 : decode prog_17_method_1_code 113 = .ok (.newarray .boolean, 2) := by decide +kernel
theorem d_MG_init_115 : decode prog_17_method_1_code 115 = .ok (.putfield 51, 3) := dc9_181 (by decide +kernel)
theorem d_MG_init_118 : decode prog_17_method_1_code 118 = .ok (.aload_n 0, 1) := dc9_42 (by decide +kernel)
theorem d_MG_init_119 : decode prog_17_method_1_code 119 = .ok (.bipush 12, 2) := dc9_16 (by decide +kernel)
theorem d_MG_init_121 : decode prog_17_method_1_code 121 = .ok (.newarray .int, 2) := by decide +kernel
theorem d_MG_init_123 : decode prog_17_method_1_code 123 = .ok (.putfield 54, 3) := dc9_181 (by decide +kernel)
theorem d_MG_init_126 : decode prog_17_method_1_code 126 = .ok (.aload_n 0, 1) := dc9_42 (by decide +kernel)
theorem d_MG_init_127 : decode prog_17_method_1_code 127 = .ok (.bipush 12, 2) := dc9_16 (by decide +kernel)
theorem d_MG_init_129 : decode prog_17_method_1_code 129 = .ok (.newarray .int, 2) := by decide +kernel
theorem d_MG_init_131 : decode prog_17_method_1_code 131 = .ok (.putfield 57, 3) := dc9_181 (by decide +kernel)
theorem d_MG_init_134 : decode prog_17_method_1_code 134 = .ok (.aload_n 0, 1) := dc9_42 (by decide +kernel)
theorem d_MG_init_135 : decode prog_17_method_1_code 135 = .ok (.bipush 12, 2) := dc9_16 (by decide +kernel)
theorem d_MG_init_137 : decode prog_17_method_1_code 137 = .ok (.newarray .int, 2) := by decide +kernel
theorem d_MG_init_139 : decode prog_17_method_1_code 139 = .ok (.putfield 60, 3) := dc9_181 (by decide +kernel)
theorem d_MG_init_142 : decode prog_17_method_1_code 142 = .ok (.aload_n 0, 1) := dc9_42 (by decide +kernel)
theorem d_MG_init_143 : decode prog_17_method_1_code 143 = .ok (.bipush 60, 2) := dc9_16 (by decide +kernel)
theorem d_MG_init_145 : decode prog_17_method_1_code 145 = .ok (.newarray .boolean, 2) := by decide +kernel
theorem d_MG_init_147 : decode prog_17_method_1_code 147 = .ok (.putfield 63, 3) := dc9_181 (by decide +kernel)
theorem d_MG_init_150 : decode prog_17_method_1_code 150 = .ok (.aload_n 0, 1) := dc9_42 (by decide +kernel)
theorem d_MG_init_151 : decode prog_17_method_1_code 151 = .ok (.bipush 60, 2) := dc9_16 (by decide +kernel)
theorem d_MG_init_153 : decode prog_17_method_1_code 153 = .ok (.newarray .int, 2) := by decide +kernel
theorem d_MG_init_155 : decode prog_17_method_1_code 155 = .ok (.putfield 66, 3) := dc9_181 (by decide +kernel)
theorem d_MG_init_158 : decode prog_17_method_1_code 158 = .ok (.aload_n 0, 1) := dc9_42 (by decide +kernel)
theorem d_MG_init_159 : decode prog_17_method_1_code 159 = .ok (.bipush 60, 2) := dc9_16 (by decide +kernel)
theorem d_MG_init_161 : decode prog_17_method_1_code 161 = .ok (.newarray .int, 2) := by decide +kernel
theorem d_MG_init_163 : decode prog_17_method_1_code 163 = .ok (.putfield 69, 3) := dc9_181 (by decide +kernel)
theorem d_MG_init_166 : decode prog_17_method_1_code 166 = .ok (.aload_n 0, 1) := dc9_42 (by decide +kernel)
theorem d_MG_init_167 : decode prog_17_method_1_code 167 = .ok (.bipush 60, 2) := dc9_16 (by decide +kernel)
theorem d_MG_init_169 : decode prog_17_method_1_code 169 = .ok (.newarray .int, 2) := by decide +kernel
theorem d_MG_init_171 : decode prog_17_method_1_code 171 = .ok (.putfield 72, 3) := dc9_181 (by decide +kernel)
theorem d_MG_init_174 : decode prog_17_method_1_code 174 = .ok (.aload_n 0, 1) := dc9_42 (by decide +kernel)
theorem d_MG_init_175 : decode prog_17_method_1_code 175 = .ok (.sipush 480, 3) := dc9_17 (by decide +kernel)
theorem d_MG_init_178 : decode prog_17_method_1_code 178 = .ok (.newarray .int, 2) := by decide +kernel
theorem d_MG_init_180 : decode prog_17_method_1_code 180 = .ok (.putfield 75, 3) := dc9_181 (by decide +kernel)
theorem d_MG_init_183 : decode prog_17_method_1_code 183 = .ok (.aload_n 0, 1) := dc9_42 (by decide +kernel)
theorem d_MG_init_184 : decode prog_17_method_1_code 184 = .ok (.sipush 480, 3) := dc9_17 (by decide +kernel)
theorem d_MG_init_187 : decode prog_17_method_1_code 187 = .ok (.newarray .int, 2) := by decide +kernel
theorem d_MG_init_189 : decode prog_17_method_1_code 189 = .ok (.putfield 78, 3) := dc9_181 (by decide +kernel)
theorem d_MG_init_192 : decode prog_17_method_1_code 192 = .ok (.aload_n 0, 1) := dc9_42 (by decide +kernel)
theorem d_MG_init_193 : decode prog_17_method_1_code 193 = .ok (.sipush 480, 3) := dc9_17 (by decide +kernel)
theorem d_MG_init_196 : decode prog_17_method_1_code 196 = .ok (.newarray .int, 2) := by decide +kernel
theorem d_MG_init_198 : decode prog_17_method_1_code 198 = .ok (.putfield 81, 3) := dc9_181 (by decide +kernel)
theorem d_MG_init_201 : decode prog_17_method_1_code 201 = .ok (.aload_n 0, 1) := dc9_42 (by decide +kernel)
theorem d_MG_init_202 : decode prog_17_method_1_code 202 = .ok (.sipush 480, 3) := dc9_17 (by decide +kernel)
theorem d_MG_init_205 : decode prog_17_method_1_code 205 = .ok (.newarray .int, 2) := by decide +kernel
theorem d_MG_init_207 : decode prog_17_method_1_code 207 = .ok (.putfield 84, 3) := dc9_181 (by decide +kernel)
theorem d_MG_init_210 : decode prog_17_method_1_code 210 = .ok (.aload_n 0, 1) := dc9_42 (by decide +kernel)
theorem d_MG_init_211 : decode prog_17_method_1_code 211 = .ok (.new 9, 3) := dc9_187 (by decide +kernel)
theorem d_MG_init_214 : decode prog_17_method_1_code 214 = .ok (.dup, 1) := dc9_89 (by decide +kernel)
theorem d_MG_init_215 : decode prog_17_method_1_code 215 = .ok (.invokespecial 11, 3) := dc9_183 (by decide +kernel)
theorem d_MG_init_218 : decode prog_17_method_1_code 218 = .ok (.putfield 87, 3) := dc9_181 (by decide +kernel)
theorem d_MG_init_221 : decode prog_17_method_1_code 221 = .ok (.aload_n 0, 1) := dc9_42 (by decide +kernel)
theorem d_MG_init_222 : decode prog_17_method_1_code 222 = .ok (.new 9, 3) := dc9_187 (by decide +kernel)
theorem d_MG_init_225 : decode prog_17_method_1_code 225 = .ok (.dup, 1) := dc9_89 (by decide +kernel)
theorem d_MG_init_226 : decode prog_17_method_1_code 226 = .ok (.invokespecial 11, 3) := dc9_183 (by decide +kernel)
theorem d_MG_init_229 : decode prog_17_method_1_code 229 = .ok (.putfield 90, 3) := dc9_181 (by decide +kernel)
theorem d_MG_init_232 : decode prog_17_method_1_code 232 = .ok (.aload_n 0, 1) := dc9_42 (by decide +kernel)
theorem d_MG_init_233 : decode prog_17_method_1_code 233 = .ok (.new 9, 3) := dc9_187 (by decide +kernel)
theorem d_MG_init_236 : decode prog_17_method_1_code 236 = .ok (.dup, 1) := dc9_89 (by decide +kernel)
theorem d_MG_init_237 : decode prog_17_method_1_code 237 = .ok (.invokespecial 11, 3) := dc9_183 (by decide +kernel)
theorem d_MG_init_240 : decode prog_17_method_1_code 240 = .ok (.putfield 93, 3) := dc9_181 (by decide +kernel)
theorem d_MG_init_243 : decode prog_17_method_1_code 243 = .ok (.return_, 1) := dc9_177 (by decide +kernel)
abbrev S_MN : Type := Nat
def w_MN (tA : Nat → ClassId) (h0 : Nat) (u : S_MN) : va_W := match u with
  | q7 => (h0, .inr (14, [.ref q7, .int 0])) :: ([] ++ [(q7, .inl (tA 0, 16, .inl (fun _ => 0)))])
theorem f_MN : ∀ j, j < 2 → defaultValue (t_MN j) = vp_V [.null, .int 0] j := by decide +kernel
set_option maxHeartbeats 4000000 in
set_option maxRecDepth 100000 in
theorem c_MN_init (l : Launch) (D : va_G) (tA : Nat → ClassId) (h0 sz : Nat) : zMv l ({ cls := "ChanceArenaModel$Numbers", name := "<init>", desc := "()V" } : Jvm.MethodName) (zW (Jvm.Cond.code ({ cls := "ChanceArenaModel$Numbers", name := "<init>", desc := "()V" } : Jvm.MethodName) prog_18_method_1_code (1 : Nat) (Option.none : Option Jvm.ClassFile.FieldType))) { frames := 1, cells := 1, slots := 16, locals := 12 } [.ref h0] D tA [(h0, .inr (14, [.null, .int 0]))] sz (fun _ : S_MN => True) (w_MN tA h0) 1 16 := by
  refine zOpen (fun A => va_Qv _ (zPost D A (w_MN tA h0)) A) (lv := [(0, .ref h0)]) (by decide) rfl (Nat.le_of_ble_eq_true rfl) rfl ?_
  intro p e s m below meth c A ls hx hb hr hml hh hg hown hlocks hnm hK hA hP hD0 hAw hS hl
  have hD := zD hD0 hAw
  refine lv_aload_n hx hb d_MN_init_0 rfl (lv_at hl 0 rfl) ?_
  refine W.objInit hx hb hown (hg _ k9_5) (hg _ k1_46) (hg _ k1_47) rfl (by rw [hml]; exact hl.1) rfl d_MN_init_1 (Nat.le_of_ble_eq_true rfl) (Nat.le_of_ble_eq_true rfl) ?_
  refine lv_aload_n hx hb d_MN_init_4 rfl (lv_at hl 0 rfl) ?_
  refine lv_bipush (v := 16) hx hb d_MN_init_5 (by decide) ?_
  refine zNewa (atype := .int) (ty := .int) (a0 := (16, .inl (fun _ => 0))) (N' := 16) hx hb rfl (hg _ k1_82) hK hP hD hS hA 0 rfl (fun _ h => by cases h) (fun _ => rfl) (by decide) (by decide) (by decide) (Nat.le_of_ble_eq_true rfl) (Nat.le_of_ble_eq_true rfl) d_MN_init_7 (fun q7 H1 hP1 hD1 hS1 => ?_)
  clear hP hD hS
  refine zCons (fun T7 e7 hP2 hD2 => ?_) hP1 hD1
  clear hP1 hD1
  refine va_put (D := D) (ci := 14) (v := .ref q7) (ty := .array .int) (C := R_MN) (T := T_MN) (N := 2) hx hb hg i_MN t_MN o_MN n_MN hown hK hP2 hD2 hS1 0 rfl rfl 0 (by decide) (hg _ k9_6) (fun _ h9 => h9) rfl (by decide +kernel) rfl rfl (Nat.le_of_ble_eq_true rfl) d_MN_init_9 (fun H3 locs3 hP3 hD3 hS3 => ?_)
  clear hP2 hD2 hS1
  replace hP3 : va_P D vwCl ((h0, .inr (14, [.ref q7, .int 0])) :: T7) _ := hP3
  replace hD3 : va_D A ((h0, .inr (14, [.ref q7, .int 0])) :: T7) := hD3
  refine W.cs (cells' := 1) (slots' := 16) rfl rfl ?_
  exact zVret hx hb hr hlocks hP3 hD3 hS3 (q7) trivial (by rw [e7]; rfl) d_MN_init_12
abbrev S_MG : Type := (Nat × S_MN) × (Nat × S_MN) × (Nat × S_MN) × (Nat × S_MN) × (Nat × S_MN) × (Nat × S_MN) × Nat × Nat × Nat × Nat × Nat × Nat × Nat × Nat × Nat × Nat × Nat × Nat × Nat × Nat × Nat × Nat × Nat × (Nat × S_MN) × (Nat × S_MN) × (Nat × S_MN)
def w_MG (tA : Nat → ClassId) (h0 : Nat) (u : S_MG) : va_W := match u with
  | ((q5, u5), (q16, u16), (q27, u27), (q38, u38), (q49, u49), (q60, u60), q73, q81, q89, q97, q105, q113, q121, q129, q137, q145, q153, q161, q169, q178, q187, q196, q205, (q211, u211), (q222, u222), (q233, u233)) => (h0, .inr (15, [.ref q5, .ref q16, .ref q27, .ref q38, .ref q49, .ref q60, .int 0, .ref q73, .ref q81, .ref q89, .ref q97, .ref q105, .int 0, .ref q113, .ref q121, .ref q129, .ref q137, .int 0, .int 0, .ref q145, .ref q153, .ref q161, .ref q169, .ref q178, .ref q187, .ref q196, .ref q205, .ref q211, .ref q222, .ref q233])) :: ([] ++ w_MN tA q5 u5 ++ w_MN tA q16 u16 ++ w_MN tA q27 u27 ++ w_MN tA q38 u38 ++ w_MN tA q49 u49 ++ w_MN tA q60 u60 ++ [(q73, .inl (tA 1, 60, .inl (fun _ => 0)))] ++ [(q81, .inl (tA 1, 60, .inl (fun _ => 0)))] ++ [(q89, .inl (tA 0, 60, .inl (fun _ => 0)))] ++ [(q97, .inl (tA 3, 60, .inr (.inl (fun _ => 0))))] ++ [(q105, .inl (tA 3, 60, .inr (.inl (fun _ => 0))))] ++ [(q113, .inl (tA 1, 12, .inl (fun _ => 0)))] ++ [(q121, .inl (tA 0, 12, .inl (fun _ => 0)))] ++ [(q129, .inl (tA 0, 12, .inl (fun _ => 0)))] ++ [(q137, .inl (tA 0, 12, .inl (fun _ => 0)))] ++ [(q145, .inl (tA 1, 60, .inl (fun _ => 0)))] ++ [(q153, .inl (tA 0, 60, .inl (fun _ => 0)))] ++ [(q161, .inl (tA 0, 60, .inl (fun _ => 0)))] ++ [(q169, .inl (tA 0, 60, .inl (fun _ => 0)))] ++ [(q178, .inl (tA 0, 480, .inl (fun _ => 0)))] ++ [(q187, .inl (tA 0, 480, .inl (fun _ => 0)))] ++ [(q196, .inl (tA 0, 480, .inl (fun _ => 0)))] ++ [(q205, .inl (tA 0, 480, .inl (fun _ => 0)))] ++ w_MN tA q211 u211 ++ w_MN tA q222 u222 ++ w_MN tA q233 u233)
theorem f_MG : ∀ j, j < 30 → defaultValue (t_MG j) = vp_V [.null, .null, .null, .null, .null, .null, .int 0, .null, .null, .null, .null, .null, .int 0, .null, .null, .null, .null, .int 0, .int 0, .null, .null, .null, .null, .null, .null, .null, .null, .null, .null, .null] j := by decide +kernel
set_option maxHeartbeats 4000000 in
set_option maxRecDepth 100000 in
theorem c_MG_init (l : Launch) (D : va_G) (tA : Nat → ClassId) (h0 sz : Nat) : zMv l ({ cls := "ChanceArenaModel$Game", name := "<init>", desc := "()V" } : Jvm.MethodName) (zW (Jvm.Cond.code ({ cls := "ChanceArenaModel$Game", name := "<init>", desc := "()V" } : Jvm.MethodName) prog_17_method_1_code (1 : Nat) (Option.none : Option Jvm.ClassFile.FieldType))) { frames := 2, cells := 35, slots := 2670, locals := 32 } [.ref h0] D tA [(h0, .inr (15, [.null, .null, .null, .null, .null, .null, .int 0, .null, .null, .null, .null, .null, .int 0, .null, .null, .null, .null, .int 0, .int 0, .null, .null, .null, .null, .null, .null, .null, .null, .null, .null, .null]))] sz (fun _ : S_MG => True) (w_MG tA h0) 35 2670 := by
  refine zOpen (fun A => va_Qv _ (zPost D A (w_MG tA h0)) A) (lv := [(0, .ref h0)]) (by decide) rfl (Nat.le_of_ble_eq_true rfl) rfl ?_
  intro p e s m below meth c A ls hx hb hr hml hh hg hown hlocks hnm hK hA hP hD0 hAw hS hl
  have hD := zD hD0 hAw
  refine lv_aload_n hx hb d_MG_init_0 rfl (lv_at hl 0 rfl) ?_
  refine W.objInit hx hb hown (hg _ k9_21) (hg _ k1_46) (hg _ k1_47) rfl (by rw [hml]; exact hl.1) rfl d_MG_init_1 (Nat.le_of_ble_eq_true rfl) (Nat.le_of_ble_eq_true rfl) ?_
  refine lv_aload_n hx hb d_MG_init_4 rfl (lv_at hl 0 rfl) ?_
  refine va_new (ci := 14) (fs := [.null, .int 0]) (C := R_MN) (T := T_MN) (N := 2) hx hb hg i_MN t_MN o_MN hown (hg _ k9_22) (hg _ k9_1) (hg _ k1_15) hK hP hD hS hA rfl f_MN (Nat.le_of_ble_eq_true rfl) (Nat.le_of_ble_eq_true rfl) d_MG_init_5 (fun q5 H1 hP1 hD1 hS1 => ?_)
  clear hP hD hS
  refine lv_dup hx hb d_MG_init_8 rfl ?_
  refine zInit hP1 hD1 hS1 hA (va_runIN (As := []) (rest := [.ref q5, .ref h0]) ⟨hx, hb, hml, hown, hg⟩ (c_MN_init l D tA q5 H1.size) ⟨va_cnB 0 hg (zGood k9_4 rfl) rfl rfl rfl (va_Nw.of rfl (hg _ k9_23)) (hg _ k1_15) (by decide +kernel) ⟨(Nat.le_of_ble_eq_true rfl), (Nat.le_of_ble_eq_true rfl)⟩, rfl, hg _ k9_3⟩ (zPreI hh hK hP1 hD1) rfl rfl hl.1 rfl (lv_room (Nat.le_of_ble_eq_true rfl)) d_MG_init_9 ⟨(Nat.le_of_ble_eq_true rfl), (Nat.le_of_ble_eq_true rfl)⟩) (fun u5 H2 locs2 _ hP2 hD2 hS2 => ?_)
  clear hP1 hD1 hS1
  refine zCons (fun T9 e9 hP3 hD3 => ?_) hP2 hD2
  clear hP2 hD2
  refine va_putF (D := D) (ci := 15) (v := .ref q5) (ty := .object "ChanceArenaModel$Numbers") (C := R_MG) (T := T_MG) (N := 30) hx hb hg i_MG t_MG o_MG n_MG hown hK hP3 hD3 hS2 0 rfl rfl 0 (by decide) (hg _ k9_24) (fun _ h9 => h9) rfl hnm rfl (by decide +kernel) rfl rfl (Nat.le_of_ble_eq_true rfl) d_MG_init_12 (fun H4 locs4 hP4 hD4 hS4 => ?_)
  clear hP3 hD3 hS2
  replace hP4 : va_P D vwCl ((h0, .inr (15, [.ref q5, .null, .null, .null, .null, .null, .int 0, .null, .null, .null, .null, .null, .int 0, .null, .null, .null, .null, .int 0, .int 0, .null, .null, .null, .null, .null, .null, .null, .null, .null, .null, .null])) :: T9) _ := hP4
  replace hD4 : va_D A ((h0, .inr (15, [.ref q5, .null, .null, .null, .null, .null, .int 0, .null, .null, .null, .null, .null, .int 0, .null, .null, .null, .null, .int 0, .int 0, .null, .null, .null, .null, .null, .null, .null, .null, .null, .null, .null])) :: T9) := hD4
  refine lv_aload_n hx hb d_MG_init_15 rfl (lv_at hl 0 rfl) ?_
  refine va_new (ci := 14) (fs := [.null, .int 0]) (C := R_MN) (T := T_MN) (N := 2) hx hb hg i_MN t_MN o_MN hown (hg _ k9_22) (hg _ k9_1) (hg _ k1_15) hK hP4 hD4 hS4 hA rfl f_MN (Nat.le_of_ble_eq_true rfl) (Nat.le_of_ble_eq_true rfl) d_MG_init_16 (fun q16 H5 hP5 hD5 hS5 => ?_)
  clear hP4 hD4 hS4
  refine lv_dup hx hb d_MG_init_19 rfl ?_
  refine zInit hP5 hD5 hS5 hA (va_runIN (As := []) (rest := [.ref q16, .ref h0]) ⟨hx, hb, hml, hown, hg⟩ (c_MN_init l D tA q16 H5.size) ⟨va_cnB 0 hg (zGood k9_4 rfl) rfl rfl rfl (va_Nw.of rfl (hg _ k9_23)) (hg _ k1_15) (by decide +kernel) ⟨(Nat.le_of_ble_eq_true rfl), (Nat.le_of_ble_eq_true rfl)⟩, rfl, hg _ k9_3⟩ (zPreI hh hK hP5 hD5) rfl rfl hl.1 rfl (lv_room (Nat.le_of_ble_eq_true rfl)) d_MG_init_20 ⟨(Nat.le_of_ble_eq_true rfl), (Nat.le_of_ble_eq_true rfl)⟩) (fun u16 H6 locs6 _ hP6 hD6 hS6 => ?_)
  clear hP5 hD5 hS5
  refine zCons (fun T20 e20 hP7 hD7 => ?_) hP6 hD6
  clear hP6 hD6
  refine va_putF (D := D) (ci := 15) (v := .ref q16) (ty := .object "ChanceArenaModel$Numbers") (C := R_MG) (T := T_MG) (N := 30) hx hb hg i_MG t_MG o_MG n_MG hown hK hP7 hD7 hS6 0 rfl rfl 1 (by decide) (hg _ k9_26) (fun _ h9 => h9) rfl hnm rfl (by decide +kernel) rfl rfl (Nat.le_of_ble_eq_true rfl) d_MG_init_23 (fun H8 locs8 hP8 hD8 hS8 => ?_)
  clear hP7 hD7 hS6
  replace hP8 : va_P D vwCl ((h0, .inr (15, [.ref q5, .ref q16, .null, .null, .null, .null, .int 0, .null, .null, .null, .null, .null, .int 0, .null, .null, .null, .null, .int 0, .int 0, .null, .null, .null, .null, .null, .null, .null, .null, .null, .null, .null])) :: T20) _ := hP8
  replace hD8 : va_D A ((h0, .inr (15, [.ref q5, .ref q16, .null, .null, .null, .null, .int 0, .null, .null, .null, .null, .null, .int 0, .null, .null, .null, .null, .int 0, .int 0, .null, .null, .null, .null, .null, .null, .null, .null, .null, .null, .null])) :: T20) := hD8
  refine lv_aload_n hx hb d_MG_init_26 rfl (lv_at hl 0 rfl) ?_
  refine va_new (ci := 14) (fs := [.null, .int 0]) (C := R_MN) (T := T_MN) (N := 2) hx hb hg i_MN t_MN o_MN hown (hg _ k9_22) (hg _ k9_1) (hg _ k1_15) hK hP8 hD8 hS8 hA rfl f_MN (Nat.le_of_ble_eq_true rfl) (Nat.le_of_ble_eq_true rfl) d_MG_init_27 (fun q27 H9 hP9 hD9 hS9 => ?_)
  clear hP8 hD8 hS8
  refine lv_dup hx hb d_MG_init_30 rfl ?_
  refine zInit hP9 hD9 hS9 hA (va_runIN (As := []) (rest := [.ref q27, .ref h0]) ⟨hx, hb, hml, hown, hg⟩ (c_MN_init l D tA q27 H9.size) ⟨va_cnB 0 hg (zGood k9_4 rfl) rfl rfl rfl (va_Nw.of rfl (hg _ k9_23)) (hg _ k1_15) (by decide +kernel) ⟨(Nat.le_of_ble_eq_true rfl), (Nat.le_of_ble_eq_true rfl)⟩, rfl, hg _ k9_3⟩ (zPreI hh hK hP9 hD9) rfl rfl hl.1 rfl (lv_room (Nat.le_of_ble_eq_true rfl)) d_MG_init_31 ⟨(Nat.le_of_ble_eq_true rfl), (Nat.le_of_ble_eq_true rfl)⟩) (fun u27 H10 locs10 _ hP10 hD10 hS10 => ?_)
  clear hP9 hD9 hS9
  refine zCons (fun T31 e31 hP11 hD11 => ?_) hP10 hD10
  clear hP10 hD10
  refine va_putF (D := D) (ci := 15) (v := .ref q27) (ty := .object "ChanceArenaModel$Numbers") (C := R_MG) (T := T_MG) (N := 30) hx hb hg i_MG t_MG o_MG n_MG hown hK hP11 hD11 hS10 0 rfl rfl 2 (by decide) (hg _ k9_28) (fun _ h9 => h9) rfl hnm rfl (by decide +kernel) rfl rfl (Nat.le_of_ble_eq_true rfl) d_MG_init_34 (fun H12 locs12 hP12 hD12 hS12 => ?_)
  clear hP11 hD11 hS10
  replace hP12 : va_P D vwCl ((h0, .inr (15, [.ref q5, .ref q16, .ref q27, .null, .null, .null, .int 0, .null, .null, .null, .null, .null, .int 0, .null, .null, .null, .null, .int 0, .int 0, .null, .null, .null, .null, .null, .null, .null, .null, .null, .null, .null])) :: T31) _ := hP12
  replace hD12 : va_D A ((h0, .inr (15, [.ref q5, .ref q16, .ref q27, .null, .null, .null, .int 0, .null, .null, .null, .null, .null, .int 0, .null, .null, .null, .null, .int 0, .int 0, .null, .null, .null, .null, .null, .null, .null, .null, .null, .null, .null])) :: T31) := hD12
  refine lv_aload_n hx hb d_MG_init_37 rfl (lv_at hl 0 rfl) ?_
  refine va_new (ci := 14) (fs := [.null, .int 0]) (C := R_MN) (T := T_MN) (N := 2) hx hb hg i_MN t_MN o_MN hown (hg _ k9_22) (hg _ k9_1) (hg _ k1_15) hK hP12 hD12 hS12 hA rfl f_MN (Nat.le_of_ble_eq_true rfl) (Nat.le_of_ble_eq_true rfl) d_MG_init_38 (fun q38 H13 hP13 hD13 hS13 => ?_)
  clear hP12 hD12 hS12
  refine lv_dup hx hb d_MG_init_41 rfl ?_
  refine zInit hP13 hD13 hS13 hA (va_runIN (As := []) (rest := [.ref q38, .ref h0]) ⟨hx, hb, hml, hown, hg⟩ (c_MN_init l D tA q38 H13.size) ⟨va_cnB 0 hg (zGood k9_4 rfl) rfl rfl rfl (va_Nw.of rfl (hg _ k9_23)) (hg _ k1_15) (by decide +kernel) ⟨(Nat.le_of_ble_eq_true rfl), (Nat.le_of_ble_eq_true rfl)⟩, rfl, hg _ k9_3⟩ (zPreI hh hK hP13 hD13) rfl rfl hl.1 rfl (lv_room (Nat.le_of_ble_eq_true rfl)) d_MG_init_42 ⟨(Nat.le_of_ble_eq_true rfl), (Nat.le_of_ble_eq_true rfl)⟩) (fun u38 H14 locs14 _ hP14 hD14 hS14 => ?_)
  clear hP13 hD13 hS13
  refine zCons (fun T42 e42 hP15 hD15 => ?_) hP14 hD14
  clear hP14 hD14
  refine va_putF (D := D) (ci := 15) (v := .ref q38) (ty := .object "ChanceArenaModel$Numbers") (C := R_MG) (T := T_MG) (N := 30) hx hb hg i_MG t_MG o_MG n_MG hown hK hP15 hD15 hS14 0 rfl rfl 3 (by decide) (hg _ k9_30) (fun _ h9 => h9) rfl hnm rfl (by decide +kernel) rfl rfl (Nat.le_of_ble_eq_true rfl) d_MG_init_45 (fun H16 locs16 hP16 hD16 hS16 => ?_)
  clear hP15 hD15 hS14
  replace hP16 : va_P D vwCl ((h0, .inr (15, [.ref q5, .ref q16, .ref q27, .ref q38, .null, .null, .int 0, .null, .null, .null, .null, .null, .int 0, .null, .null, .null, .null, .int 0, .int 0, .null, .null, .null, .null, .null, .null, .null, .null, .null, .null, .null])) :: T42) _ := hP16
  replace hD16 : va_D A ((h0, .inr (15, [.ref q5, .ref q16, .ref q27, .ref q38, .null, .null, .int 0, .null, .null, .null, .null, .null, .int 0, .null, .null, .null, .null, .int 0, .int 0, .null, .null, .null, .null, .null, .null, .null, .null, .null, .null, .null])) :: T42) := hD16
  refine lv_aload_n hx hb d_MG_init_48 rfl (lv_at hl 0 rfl) ?_
  refine va_new (ci := 14) (fs := [.null, .int 0]) (C := R_MN) (T := T_MN) (N := 2) hx hb hg i_MN t_MN o_MN hown (hg _ k9_22) (hg _ k9_1) (hg _ k1_15) hK hP16 hD16 hS16 hA rfl f_MN (Nat.le_of_ble_eq_true rfl) (Nat.le_of_ble_eq_true rfl) d_MG_init_49 (fun q49 H17 hP17 hD17 hS17 => ?_)
  clear hP16 hD16 hS16
  refine lv_dup hx hb d_MG_init_52 rfl ?_
  refine zInit hP17 hD17 hS17 hA (va_runIN (As := []) (rest := [.ref q49, .ref h0]) ⟨hx, hb, hml, hown, hg⟩ (c_MN_init l D tA q49 H17.size) ⟨va_cnB 0 hg (zGood k9_4 rfl) rfl rfl rfl (va_Nw.of rfl (hg _ k9_23)) (hg _ k1_15) (by decide +kernel) ⟨(Nat.le_of_ble_eq_true rfl), (Nat.le_of_ble_eq_true rfl)⟩, rfl, hg _ k9_3⟩ (zPreI hh hK hP17 hD17) rfl rfl hl.1 rfl (lv_room (Nat.le_of_ble_eq_true rfl)) d_MG_init_53 ⟨(Nat.le_of_ble_eq_true rfl), (Nat.le_of_ble_eq_true rfl)⟩) (fun u49 H18 locs18 _ hP18 hD18 hS18 => ?_)
  clear hP17 hD17 hS17
  refine zCons (fun T53 e53 hP19 hD19 => ?_) hP18 hD18
  clear hP18 hD18
  refine va_putF (D := D) (ci := 15) (v := .ref q49) (ty := .object "ChanceArenaModel$Numbers") (C := R_MG) (T := T_MG) (N := 30) hx hb hg i_MG t_MG o_MG n_MG hown hK hP19 hD19 hS18 0 rfl rfl 4 (by decide) (hg _ k9_32) (fun _ h9 => h9) rfl hnm rfl (by decide +kernel) rfl rfl (Nat.le_of_ble_eq_true rfl) d_MG_init_56 (fun H20 locs20 hP20 hD20 hS20 => ?_)
  clear hP19 hD19 hS18
  replace hP20 : va_P D vwCl ((h0, .inr (15, [.ref q5, .ref q16, .ref q27, .ref q38, .ref q49, .null, .int 0, .null, .null, .null, .null, .null, .int 0, .null, .null, .null, .null, .int 0, .int 0, .null, .null, .null, .null, .null, .null, .null, .null, .null, .null, .null])) :: T53) _ := hP20
  replace hD20 : va_D A ((h0, .inr (15, [.ref q5, .ref q16, .ref q27, .ref q38, .ref q49, .null, .int 0, .null, .null, .null, .null, .null, .int 0, .null, .null, .null, .null, .int 0, .int 0, .null, .null, .null, .null, .null, .null, .null, .null, .null, .null, .null])) :: T53) := hD20
  refine lv_aload_n hx hb d_MG_init_59 rfl (lv_at hl 0 rfl) ?_
  refine va_new (ci := 14) (fs := [.null, .int 0]) (C := R_MN) (T := T_MN) (N := 2) hx hb hg i_MN t_MN o_MN hown (hg _ k9_22) (hg _ k9_1) (hg _ k1_15) hK hP20 hD20 hS20 hA rfl f_MN (Nat.le_of_ble_eq_true rfl) (Nat.le_of_ble_eq_true rfl) d_MG_init_60 (fun q60 H21 hP21 hD21 hS21 => ?_)
  clear hP20 hD20 hS20
  refine lv_dup hx hb d_MG_init_63 rfl ?_
  refine zInit hP21 hD21 hS21 hA (va_runIN (As := []) (rest := [.ref q60, .ref h0]) ⟨hx, hb, hml, hown, hg⟩ (c_MN_init l D tA q60 H21.size) ⟨va_cnB 0 hg (zGood k9_4 rfl) rfl rfl rfl (va_Nw.of rfl (hg _ k9_23)) (hg _ k1_15) (by decide +kernel) ⟨(Nat.le_of_ble_eq_true rfl), (Nat.le_of_ble_eq_true rfl)⟩, rfl, hg _ k9_3⟩ (zPreI hh hK hP21 hD21) rfl rfl hl.1 rfl (lv_room (Nat.le_of_ble_eq_true rfl)) d_MG_init_64 ⟨(Nat.le_of_ble_eq_true rfl), (Nat.le_of_ble_eq_true rfl)⟩) (fun u60 H22 locs22 _ hP22 hD22 hS22 => ?_)
  clear hP21 hD21 hS21
  refine zCons (fun T64 e64 hP23 hD23 => ?_) hP22 hD22
  clear hP22 hD22
  refine va_putF (D := D) (ci := 15) (v := .ref q60) (ty := .object "ChanceArenaModel$Numbers") (C := R_MG) (T := T_MG) (N := 30) hx hb hg i_MG t_MG o_MG n_MG hown hK hP23 hD23 hS22 0 rfl rfl 5 (by decide) (hg _ k9_34) (fun _ h9 => h9) rfl hnm rfl (by decide +kernel) rfl rfl (Nat.le_of_ble_eq_true rfl) d_MG_init_67 (fun H24 locs24 hP24 hD24 hS24 => ?_)
  clear hP23 hD23 hS22
  replace hP24 : va_P D vwCl ((h0, .inr (15, [.ref q5, .ref q16, .ref q27, .ref q38, .ref q49, .ref q60, .int 0, .null, .null, .null, .null, .null, .int 0, .null, .null, .null, .null, .int 0, .int 0, .null, .null, .null, .null, .null, .null, .null, .null, .null, .null, .null])) :: T64) _ := hP24
  replace hD24 : va_D A ((h0, .inr (15, [.ref q5, .ref q16, .ref q27, .ref q38, .ref q49, .ref q60, .int 0, .null, .null, .null, .null, .null, .int 0, .null, .null, .null, .null, .int 0, .int 0, .null, .null, .null, .null, .null, .null, .null, .null, .null, .null, .null])) :: T64) := hD24
  refine lv_aload_n hx hb d_MG_init_70 rfl (lv_at hl 0 rfl) ?_
  refine lv_bipush (v := 60) hx hb d_MG_init_71 (by decide) ?_
  refine zNewa (atype := .boolean) (ty := .boolean) (a0 := (60, .inl (fun _ => 0))) (N' := 60) hx hb rfl (hg _ k1_162) hK hP24 hD24 hS24 hA 1 rfl (fun _ h => by cases h) (fun _ => rfl) (by decide) (by decide) (by decide) (Nat.le_of_ble_eq_true rfl) (Nat.le_of_ble_eq_true rfl) d_MG_init_73 (fun q73 H25 hP25 hD25 hS25 => ?_)
  clear hP24 hD24 hS24
  refine zCons (fun T73 e73 hP26 hD26 => ?_) hP25 hD25
  clear hP25 hD25
  refine va_putF (D := D) (ci := 15) (v := .ref q73) (ty := .array .boolean) (C := R_MG) (T := T_MG) (N := 30) hx hb hg i_MG t_MG o_MG n_MG hown hK hP26 hD26 hS25 0 rfl rfl 7 (by decide) (hg _ k9_38) (fun _ h9 => h9) rfl hnm rfl (by decide +kernel) rfl rfl (Nat.le_of_ble_eq_true rfl) d_MG_init_75 (fun H27 locs27 hP27 hD27 hS27 => ?_)
  clear hP26 hD26 hS25
  replace hP27 : va_P D vwCl ((h0, .inr (15, [.ref q5, .ref q16, .ref q27, .ref q38, .ref q49, .ref q60, .int 0, .ref q73, .null, .null, .null, .null, .int 0, .null, .null, .null, .null, .int 0, .int 0, .null, .null, .null, .null, .null, .null, .null, .null, .null, .null, .null])) :: T73) _ := hP27
  replace hD27 : va_D A ((h0, .inr (15, [.ref q5, .ref q16, .ref q27, .ref q38, .ref q49, .ref q60, .int 0, .ref q73, .null, .null, .null, .null, .int 0, .null, .null, .null, .null, .int 0, .int 0, .null, .null, .null, .null, .null, .null, .null, .null, .null, .null, .null])) :: T73) := hD27
  refine lv_aload_n hx hb d_MG_init_78 rfl (lv_at hl 0 rfl) ?_
  refine lv_bipush (v := 60) hx hb d_MG_init_79 (by decide) ?_
  refine zNewa (atype := .boolean) (ty := .boolean) (a0 := (60, .inl (fun _ => 0))) (N' := 60) hx hb rfl (hg _ k1_162) hK hP27 hD27 hS27 hA 1 rfl (fun _ h => by cases h) (fun _ => rfl) (by decide) (by decide) (by decide) (Nat.le_of_ble_eq_true rfl) (Nat.le_of_ble_eq_true rfl) d_MG_init_81 (fun q81 H28 hP28 hD28 hS28 => ?_)
  clear hP27 hD27 hS27
  refine zCons (fun T81 e81 hP29 hD29 => ?_) hP28 hD28
  clear hP28 hD28
  refine va_putF (D := D) (ci := 15) (v := .ref q81) (ty := .array .boolean) (C := R_MG) (T := T_MG) (N := 30) hx hb hg i_MG t_MG o_MG n_MG hown hK hP29 hD29 hS28 0 rfl rfl 8 (by decide) (hg _ k9_40) (fun _ h9 => h9) rfl hnm rfl (by decide +kernel) rfl rfl (Nat.le_of_ble_eq_true rfl) d_MG_init_83 (fun H30 locs30 hP30 hD30 hS30 => ?_)
  clear hP29 hD29 hS28
  replace hP30 : va_P D vwCl ((h0, .inr (15, [.ref q5, .ref q16, .ref q27, .ref q38, .ref q49, .ref q60, .int 0, .ref q73, .ref q81, .null, .null, .null, .int 0, .null, .null, .null, .null, .int 0, .int 0, .null, .null, .null, .null, .null, .null, .null, .null, .null, .null, .null])) :: T81) _ := hP30
  replace hD30 : va_D A ((h0, .inr (15, [.ref q5, .ref q16, .ref q27, .ref q38, .ref q49, .ref q60, .int 0, .ref q73, .ref q81, .null, .null, .null, .int 0, .null, .null, .null, .null, .int 0, .int 0, .null, .null, .null, .null, .null, .null, .null, .null, .null, .null, .null])) :: T81) := hD30
  refine lv_aload_n hx hb d_MG_init_86 rfl (lv_at hl 0 rfl) ?_
  refine lv_bipush (v := 60) hx hb d_MG_init_87 (by decide) ?_
  refine zNewa (atype := .int) (ty := .int) (a0 := (60, .inl (fun _ => 0))) (N' := 60) hx hb rfl (hg _ k1_82) hK hP30 hD30 hS30 hA 0 rfl (fun _ h => by cases h) (fun _ => rfl) (by decide) (by decide) (by decide) (Nat.le_of_ble_eq_true rfl) (Nat.le_of_ble_eq_true rfl) d_MG_init_89 (fun q89 H31 hP31 hD31 hS31 => ?_)
  clear hP30 hD30 hS30
  refine zCons (fun T89 e89 hP32 hD32 => ?_) hP31 hD31
  clear hP31 hD31
  refine va_putF (D := D) (ci := 15) (v := .ref q89) (ty := .array .int) (C := R_MG) (T := T_MG) (N := 30) hx hb hg i_MG t_MG o_MG n_MG hown hK hP32 hD32 hS31 0 rfl rfl 9 (by decide) (hg _ k9_42) (fun _ h9 => h9) rfl hnm rfl (by decide +kernel) rfl rfl (Nat.le_of_ble_eq_true rfl) d_MG_init_91 (fun H33 locs33 hP33 hD33 hS33 => ?_)
  clear hP32 hD32 hS31
  replace hP33 : va_P D vwCl ((h0, .inr (15, [.ref q5, .ref q16, .ref q27, .ref q38, .ref q49, .ref q60, .int 0, .ref q73, .ref q81, .ref q89, .null, .null, .int 0, .null, .null, .null, .null, .int 0, .int 0, .null, .null, .null, .null, .null, .null, .null, .null, .null, .null, .null])) :: T89) _ := hP33
  replace hD33 : va_D A ((h0, .inr (15, [.ref q5, .ref q16, .ref q27, .ref q38, .ref q49, .ref q60, .int 0, .ref q73, .ref q81, .ref q89, .null, .null, .int 0, .null, .null, .null, .null, .int 0, .int 0, .null, .null, .null, .null, .null, .null, .null, .null, .null, .null, .null])) :: T89) := hD33
  refine lv_aload_n hx hb d_MG_init_94 rfl (lv_at hl 0 rfl) ?_
  refine lv_bipush (v := 60) hx hb d_MG_init_95 (by decide) ?_
  refine zNewa (atype := .long) (ty := .long) (a0 := (60, .inr (.inl (fun _ => 0)))) (N' := 60) hx hb rfl (hg _ k3_35) hK hP33 hD33 hS33 hA 3 rfl (fun _ h => by cases h) (fun _ => rfl) (by decide) (by decide) (by decide) (Nat.le_of_ble_eq_true rfl) (Nat.le_of_ble_eq_true rfl) d_MG_init_97 (fun q97 H34 hP34 hD34 hS34 => ?_)
  clear hP33 hD33 hS33
  refine zCons (fun T97 e97 hP35 hD35 => ?_) hP34 hD34
  clear hP34 hD34
  refine va_putF (D := D) (ci := 15) (v := .ref q97) (ty := .array .long) (C := R_MG) (T := T_MG) (N := 30) hx hb hg i_MG t_MG o_MG n_MG hown hK hP35 hD35 hS34 0 rfl rfl 10 (by decide) (hg _ k9_44) (fun _ h9 => h9) rfl hnm rfl (by decide +kernel) rfl rfl (Nat.le_of_ble_eq_true rfl) d_MG_init_99 (fun H36 locs36 hP36 hD36 hS36 => ?_)
  clear hP35 hD35 hS34
  replace hP36 : va_P D vwCl ((h0, .inr (15, [.ref q5, .ref q16, .ref q27, .ref q38, .ref q49, .ref q60, .int 0, .ref q73, .ref q81, .ref q89, .ref q97, .null, .int 0, .null, .null, .null, .null, .int 0, .int 0, .null, .null, .null, .null, .null, .null, .null, .null, .null, .null, .null])) :: T97) _ := hP36
  replace hD36 : va_D A ((h0, .inr (15, [.ref q5, .ref q16, .ref q27, .ref q38, .ref q49, .ref q60, .int 0, .ref q73, .ref q81, .ref q89, .ref q97, .null, .int 0, .null, .null, .null, .null, .int 0, .int 0, .null, .null, .null, .null, .null, .null, .null, .null, .null, .null, .null])) :: T97) := hD36
  refine lv_aload_n hx hb d_MG_init_102 rfl (lv_at hl 0 rfl) ?_
  refine lv_bipush (v := 60) hx hb d_MG_init_103 (by decide) ?_
  refine zNewa (atype := .long) (ty := .long) (a0 := (60, .inr (.inl (fun _ => 0)))) (N' := 60) hx hb rfl (hg _ k3_35) hK hP36 hD36 hS36 hA 3 rfl (fun _ h => by cases h) (fun _ => rfl) (by decide) (by decide) (by decide) (Nat.le_of_ble_eq_true rfl) (Nat.le_of_ble_eq_true rfl) d_MG_init_105 (fun q105 H37 hP37 hD37 hS37 => ?_)
  clear hP36 hD36 hS36
  refine zCons (fun T105 e105 hP38 hD38 => ?_) hP37 hD37
  clear hP37 hD37
  refine va_putF (D := D) (ci := 15) (v := .ref q105) (ty := .array .long) (C := R_MG) (T := T_MG) (N := 30) hx hb hg i_MG t_MG o_MG n_MG hown hK hP38 hD38 hS37 0 rfl rfl 11 (by decide) (hg _ k9_46) (fun _ h9 => h9) rfl hnm rfl (by decide +kernel) rfl rfl (Nat.le_of_ble_eq_true rfl) d_MG_init_107 (fun H39 locs39 hP39 hD39 hS39 => ?_)
  clear hP38 hD38 hS37
  replace hP39 : va_P D vwCl ((h0, .inr (15, [.ref q5, .ref q16, .ref q27, .ref q38, .ref q49, .ref q60, .int 0, .ref q73, .ref q81, .ref q89, .ref q97, .ref q105, .int 0, .null, .null, .null, .null, .int 0, .int 0, .null, .null, .null, .null, .null, .null, .null, .null, .null, .null, .null])) :: T105) _ := hP39
  replace hD39 : va_D A ((h0, .inr (15, [.ref q5, .ref q16, .ref q27, .ref q38, .ref q49, .ref q60, .int 0, .ref q73, .ref q81, .ref q89, .ref q97, .ref q105, .int 0, .null, .null, .null, .null, .int 0, .int 0, .null, .null, .null, .null, .null, .null, .null, .null, .null, .null, .null])) :: T105) := hD39
  refine lv_aload_n hx hb d_MG_init_110 rfl (lv_at hl 0 rfl) ?_
  refine lv_bipush (v := 12) hx hb d_MG_init_111 (by decide) ?_
  refine zNewa (atype := .boolean) (ty := .boolean) (a0 := (12, .inl (fun _ => 0))) (N' := 12) hx hb rfl (hg _ k1_162) hK hP39 hD39 hS39 hA 1 rfl (fun _ h => by cases h) (fun _ => rfl) (by decide) (by decide) (by decide) (Nat.le_of_ble_eq_true rfl) (Nat.le_of_ble_eq_true rfl) d_MG_init_113 (fun q113 H40 hP40 hD40 hS40 => ?_)
  clear hP39 hD39 hS39
  refine zCons (fun T113 e113 hP41 hD41 => ?_) hP40 hD40
  clear hP40 hD40
  refine va_putF (D := D) (ci := 15) (v := .ref q113) (ty := .array .boolean) (C := R_MG) (T := T_MG) (N := 30) hx hb hg i_MG t_MG o_MG n_MG hown hK hP41 hD41 hS40 0 rfl rfl 13 (by decide) (hg _ k9_50) (fun _ h9 => h9) rfl hnm rfl (by decide +kernel) rfl rfl (Nat.le_of_ble_eq_true rfl) d_MG_init_115 (fun H42 locs42 hP42 hD42 hS42 => ?_)
  clear hP41 hD41 hS40
  replace hP42 : va_P D vwCl ((h0, .inr (15, [.ref q5, .ref q16, .ref q27, .ref q38, .ref q49, .ref q60, .int 0, .ref q73, .ref q81, .ref q89, .ref q97, .ref q105, .int 0, .ref q113, .null, .null, .null, .int 0, .int 0, .null, .null, .null, .null, .null, .null, .null, .null, .null, .null, .null])) :: T113) _ := hP42
  replace hD42 : va_D A ((h0, .inr (15, [.ref q5, .ref q16, .ref q27, .ref q38, .ref q49, .ref q60, .int 0, .ref q73, .ref q81, .ref q89, .ref q97, .ref q105, .int 0, .ref q113, .null, .null, .null, .int 0, .int 0, .null, .null, .null, .null, .null, .null, .null, .null, .null, .null, .null])) :: T113) := hD42
  refine lv_aload_n hx hb d_MG_init_118 rfl (lv_at hl 0 rfl) ?_
  refine lv_bipush (v := 12) hx hb d_MG_init_119 (by decide) ?_
  refine zNewa (atype := .int) (ty := .int) (a0 := (12, .inl (fun _ => 0))) (N' := 12) hx hb rfl (hg _ k1_82) hK hP42 hD42 hS42 hA 0 rfl (fun _ h => by cases h) (fun _ => rfl) (by decide) (by decide) (by decide) (Nat.le_of_ble_eq_true rfl) (Nat.le_of_ble_eq_true rfl) d_MG_init_121 (fun q121 H43 hP43 hD43 hS43 => ?_)
  clear hP42 hD42 hS42
  refine zCons (fun T121 e121 hP44 hD44 => ?_) hP43 hD43
  clear hP43 hD43
  refine va_putF (D := D) (ci := 15) (v := .ref q121) (ty := .array .int) (C := R_MG) (T := T_MG) (N := 30) hx hb hg i_MG t_MG o_MG n_MG hown hK hP44 hD44 hS43 0 rfl rfl 14 (by decide) (hg _ k9_52) (fun _ h9 => h9) rfl hnm rfl (by decide +kernel) rfl rfl (Nat.le_of_ble_eq_true rfl) d_MG_init_123 (fun H45 locs45 hP45 hD45 hS45 => ?_)
  clear hP44 hD44 hS43
  replace hP45 : va_P D vwCl ((h0, .inr (15, [.ref q5, .ref q16, .ref q27, .ref q38, .ref q49, .ref q60, .int 0, .ref q73, .ref q81, .ref q89, .ref q97, .ref q105, .int 0, .ref q113, .ref q121, .null, .null, .int 0, .int 0, .null, .null, .null, .null, .null, .null, .null, .null, .null, .null, .null])) :: T121) _ := hP45
  replace hD45 : va_D A ((h0, .inr (15, [.ref q5, .ref q16, .ref q27, .ref q38, .ref q49, .ref q60, .int 0, .ref q73, .ref q81, .ref q89, .ref q97, .ref q105, .int 0, .ref q113, .ref q121, .null, .null, .int 0, .int 0, .null, .null, .null, .null, .null, .null, .null, .null, .null, .null, .null])) :: T121) := hD45
  refine lv_aload_n hx hb d_MG_init_126 rfl (lv_at hl 0 rfl) ?_
  refine lv_bipush (v := 12) hx hb d_MG_init_127 (by decide) ?_
  refine zNewa (atype := .int) (ty := .int) (a0 := (12, .inl (fun _ => 0))) (N' := 12) hx hb rfl (hg _ k1_82) hK hP45 hD45 hS45 hA 0 rfl (fun _ h => by cases h) (fun _ => rfl) (by decide) (by decide) (by decide) (Nat.le_of_ble_eq_true rfl) (Nat.le_of_ble_eq_true rfl) d_MG_init_129 (fun q129 H46 hP46 hD46 hS46 => ?_)
  clear hP45 hD45 hS45
  refine zCons (fun T129 e129 hP47 hD47 => ?_) hP46 hD46
  clear hP46 hD46
  refine va_putF (D := D) (ci := 15) (v := .ref q129) (ty := .array .int) (C := R_MG) (T := T_MG) (N := 30) hx hb hg i_MG t_MG o_MG n_MG hown hK hP47 hD47 hS46 0 rfl rfl 15 (by decide) (hg _ k9_54) (fun _ h9 => h9) rfl hnm rfl (by decide +kernel) rfl rfl (Nat.le_of_ble_eq_true rfl) d_MG_init_131 (fun H48 locs48 hP48 hD48 hS48 => ?_)
  clear hP47 hD47 hS46
  replace hP48 : va_P D vwCl ((h0, .inr (15, [.ref q5, .ref q16, .ref q27, .ref q38, .ref q49, .ref q60, .int 0, .ref q73, .ref q81, .ref q89, .ref q97, .ref q105, .int 0, .ref q113, .ref q121, .ref q129, .null, .int 0, .int 0, .null, .null, .null, .null, .null, .null, .null, .null, .null, .null, .null])) :: T129) _ := hP48
  replace hD48 : va_D A ((h0, .inr (15, [.ref q5, .ref q16, .ref q27, .ref q38, .ref q49, .ref q60, .int 0, .ref q73, .ref q81, .ref q89, .ref q97, .ref q105, .int 0, .ref q113, .ref q121, .ref q129, .null, .int 0, .int 0, .null, .null, .null, .null, .null, .null, .null, .null, .null, .null, .null])) :: T129) := hD48
  refine lv_aload_n hx hb d_MG_init_134 rfl (lv_at hl 0 rfl) ?_
  refine lv_bipush (v := 12) hx hb d_MG_init_135 (by decide) ?_
  refine zNewa (atype := .int) (ty := .int) (a0 := (12, .inl (fun _ => 0))) (N' := 12) hx hb rfl (hg _ k1_82) hK hP48 hD48 hS48 hA 0 rfl (fun _ h => by cases h) (fun _ => rfl) (by decide) (by decide) (by decide) (Nat.le_of_ble_eq_true rfl) (Nat.le_of_ble_eq_true rfl) d_MG_init_137 (fun q137 H49 hP49 hD49 hS49 => ?_)
  clear hP48 hD48 hS48
  refine zCons (fun T137 e137 hP50 hD50 => ?_) hP49 hD49
  clear hP49 hD49
  refine va_putF (D := D) (ci := 15) (v := .ref q137) (ty := .array .int) (C := R_MG) (T := T_MG) (N := 30) hx hb hg i_MG t_MG o_MG n_MG hown hK hP50 hD50 hS49 0 rfl rfl 16 (by decide) (hg _ k9_56) (fun _ h9 => h9) rfl hnm rfl (by decide +kernel) rfl rfl (Nat.le_of_ble_eq_true rfl) d_MG_init_139 (fun H51 locs51 hP51 hD51 hS51 => ?_)
  clear hP50 hD50 hS49
  replace hP51 : va_P D vwCl ((h0, .inr (15, [.ref q5, .ref q16, .ref q27, .ref q38, .ref q49, .ref q60, .int 0, .ref q73, .ref q81, .ref q89, .ref q97, .ref q105, .int 0, .ref q113, .ref q121, .ref q129, .ref q137, .int 0, .int 0, .null, .null, .null, .null, .null, .null, .null, .null, .null, .null, .null])) :: T137) _ := hP51
  replace hD51 : va_D A ((h0, .inr (15, [.ref q5, .ref q16, .ref q27, .ref q38, .ref q49, .ref q60, .int 0, .ref q73, .ref q81, .ref q89, .ref q97, .ref q105, .int 0, .ref q113, .ref q121, .ref q129, .ref q137, .int 0, .int 0, .null, .null, .null, .null, .null, .null, .null, .null, .null, .null, .null])) :: T137) := hD51
  refine lv_aload_n hx hb d_MG_init_142 rfl (lv_at hl 0 rfl) ?_
  refine lv_bipush (v := 60) hx hb d_MG_init_143 (by decide) ?_
  refine zNewa (atype := .boolean) (ty := .boolean) (a0 := (60, .inl (fun _ => 0))) (N' := 60) hx hb rfl (hg _ k1_162) hK hP51 hD51 hS51 hA 1 rfl (fun _ h => by cases h) (fun _ => rfl) (by decide) (by decide) (by decide) (Nat.le_of_ble_eq_true rfl) (Nat.le_of_ble_eq_true rfl) d_MG_init_145 (fun q145 H52 hP52 hD52 hS52 => ?_)
  clear hP51 hD51 hS51
  refine zCons (fun T145 e145 hP53 hD53 => ?_) hP52 hD52
  clear hP52 hD52
  refine va_putF (D := D) (ci := 15) (v := .ref q145) (ty := .array .boolean) (C := R_MG) (T := T_MG) (N := 30) hx hb hg i_MG t_MG o_MG n_MG hown hK hP53 hD53 hS52 0 rfl rfl 19 (by decide) (hg _ k9_62) (fun _ h9 => h9) rfl hnm rfl (by decide +kernel) rfl rfl (Nat.le_of_ble_eq_true rfl) d_MG_init_147 (fun H54 locs54 hP54 hD54 hS54 => ?_)
  clear hP53 hD53 hS52
  replace hP54 : va_P D vwCl ((h0, .inr (15, [.ref q5, .ref q16, .ref q27, .ref q38, .ref q49, .ref q60, .int 0, .ref q73, .ref q81, .ref q89, .ref q97, .ref q105, .int 0, .ref q113, .ref q121, .ref q129, .ref q137, .int 0, .int 0, .ref q145, .null, .null, .null, .null, .null, .null, .null, .null, .null, .null])) :: T145) _ := hP54
  replace hD54 : va_D A ((h0, .inr (15, [.ref q5, .ref q16, .ref q27, .ref q38, .ref q49, .ref q60, .int 0, .ref q73, .ref q81, .ref q89, .ref q97, .ref q105, .int 0, .ref q113, .ref q121, .ref q129, .ref q137, .int 0, .int 0, .ref q145, .null, .null, .null, .null, .null, .null, .null, .null, .null, .null])) :: T145) := hD54
  refine lv_aload_n hx hb d_MG_init_150 rfl (lv_at hl 0 rfl) ?_
  refine lv_bipush (v := 60) hx hb d_MG_init_151 (by decide) ?_
  refine zNewa (atype := .int) (ty := .int) (a0 := (60, .inl (fun _ => 0))) (N' := 60) hx hb rfl (hg _ k1_82) hK hP54 hD54 hS54 hA 0 rfl (fun _ h => by cases h) (fun _ => rfl) (by decide) (by decide) (by decide) (Nat.le_of_ble_eq_true rfl) (Nat.le_of_ble_eq_true rfl) d_MG_init_153 (fun q153 H55 hP55 hD55 hS55 => ?_)
  clear hP54 hD54 hS54
  refine zCons (fun T153 e153 hP56 hD56 => ?_) hP55 hD55
  clear hP55 hD55
  refine va_putF (D := D) (ci := 15) (v := .ref q153) (ty := .array .int) (C := R_MG) (T := T_MG) (N := 30) hx hb hg i_MG t_MG o_MG n_MG hown hK hP56 hD56 hS55 0 rfl rfl 20 (by decide) (hg _ k9_64) (fun _ h9 => h9) rfl hnm rfl (by decide +kernel) rfl rfl (Nat.le_of_ble_eq_true rfl) d_MG_init_155 (fun H57 locs57 hP57 hD57 hS57 => ?_)
  clear hP56 hD56 hS55
  replace hP57 : va_P D vwCl ((h0, .inr (15, [.ref q5, .ref q16, .ref q27, .ref q38, .ref q49, .ref q60, .int 0, .ref q73, .ref q81, .ref q89, .ref q97, .ref q105, .int 0, .ref q113, .ref q121, .ref q129, .ref q137, .int 0, .int 0, .ref q145, .ref q153, .null, .null, .null, .null, .null, .null, .null, .null, .null])) :: T153) _ := hP57
  replace hD57 : va_D A ((h0, .inr (15, [.ref q5, .ref q16, .ref q27, .ref q38, .ref q49, .ref q60, .int 0, .ref q73, .ref q81, .ref q89, .ref q97, .ref q105, .int 0, .ref q113, .ref q121, .ref q129, .ref q137, .int 0, .int 0, .ref q145, .ref q153, .null, .null, .null, .null, .null, .null, .null, .null, .null])) :: T153) := hD57
  refine lv_aload_n hx hb d_MG_init_158 rfl (lv_at hl 0 rfl) ?_
  refine lv_bipush (v := 60) hx hb d_MG_init_159 (by decide) ?_
  refine zNewa (atype := .int) (ty := .int) (a0 := (60, .inl (fun _ => 0))) (N' := 60) hx hb rfl (hg _ k1_82) hK hP57 hD57 hS57 hA 0 rfl (fun _ h => by cases h) (fun _ => rfl) (by decide) (by decide) (by decide) (Nat.le_of_ble_eq_true rfl) (Nat.le_of_ble_eq_true rfl) d_MG_init_161 (fun q161 H58 hP58 hD58 hS58 => ?_)
  clear hP57 hD57 hS57
  refine zCons (fun T161 e161 hP59 hD59 => ?_) hP58 hD58
  clear hP58 hD58
  refine va_putF (D := D) (ci := 15) (v := .ref q161) (ty := .array .int) (C := R_MG) (T := T_MG) (N := 30) hx hb hg i_MG t_MG o_MG n_MG hown hK hP59 hD59 hS58 0 rfl rfl 21 (by decide) (hg _ k9_66) (fun _ h9 => h9) rfl hnm rfl (by decide +kernel) rfl rfl (Nat.le_of_ble_eq_true rfl) d_MG_init_163 (fun H60 locs60 hP60 hD60 hS60 => ?_)
  clear hP59 hD59 hS58
  replace hP60 : va_P D vwCl ((h0, .inr (15, [.ref q5, .ref q16, .ref q27, .ref q38, .ref q49, .ref q60, .int 0, .ref q73, .ref q81, .ref q89, .ref q97, .ref q105, .int 0, .ref q113, .ref q121, .ref q129, .ref q137, .int 0, .int 0, .ref q145, .ref q153, .ref q161, .null, .null, .null, .null, .null, .null, .null, .null])) :: T161) _ := hP60
  replace hD60 : va_D A ((h0, .inr (15, [.ref q5, .ref q16, .ref q27, .ref q38, .ref q49, .ref q60, .int 0, .ref q73, .ref q81, .ref q89, .ref q97, .ref q105, .int 0, .ref q113, .ref q121, .ref q129, .ref q137, .int 0, .int 0, .ref q145, .ref q153, .ref q161, .null, .null, .null, .null, .null, .null, .null, .null])) :: T161) := hD60
  refine lv_aload_n hx hb d_MG_init_166 rfl (lv_at hl 0 rfl) ?_
  refine lv_bipush (v := 60) hx hb d_MG_init_167 (by decide) ?_
  refine zNewa (atype := .int) (ty := .int) (a0 := (60, .inl (fun _ => 0))) (N' := 60) hx hb rfl (hg _ k1_82) hK hP60 hD60 hS60 hA 0 rfl (fun _ h => by cases h) (fun _ => rfl) (by decide) (by decide) (by decide) (Nat.le_of_ble_eq_true rfl) (Nat.le_of_ble_eq_true rfl) d_MG_init_169 (fun q169 H61 hP61 hD61 hS61 => ?_)
  clear hP60 hD60 hS60
  refine zCons (fun T169 e169 hP62 hD62 => ?_) hP61 hD61
  clear hP61 hD61
  refine va_putF (D := D) (ci := 15) (v := .ref q169) (ty := .array .int) (C := R_MG) (T := T_MG) (N := 30) hx hb hg i_MG t_MG o_MG n_MG hown hK hP62 hD62 hS61 0 rfl rfl 22 (by decide) (hg _ k9_68) (fun _ h9 => h9) rfl hnm rfl (by decide +kernel) rfl rfl (Nat.le_of_ble_eq_true rfl) d_MG_init_171 (fun H63 locs63 hP63 hD63 hS63 => ?_)
  clear hP62 hD62 hS61
  replace hP63 : va_P D vwCl ((h0, .inr (15, [.ref q5, .ref q16, .ref q27, .ref q38, .ref q49, .ref q60, .int 0, .ref q73, .ref q81, .ref q89, .ref q97, .ref q105, .int 0, .ref q113, .ref q121, .ref q129, .ref q137, .int 0, .int 0, .ref q145, .ref q153, .ref q161, .ref q169, .null, .null, .null, .null, .null, .null, .null])) :: T169) _ := hP63
  replace hD63 : va_D A ((h0, .inr (15, [.ref q5, .ref q16, .ref q27, .ref q38, .ref q49, .ref q60, .int 0, .ref q73, .ref q81, .ref q89, .ref q97, .ref q105, .int 0, .ref q113, .ref q121, .ref q129, .ref q137, .int 0, .int 0, .ref q145, .ref q153, .ref q161, .ref q169, .null, .null, .null, .null, .null, .null, .null])) :: T169) := hD63
  refine lv_aload_n hx hb d_MG_init_174 rfl (lv_at hl 0 rfl) ?_
  refine lv_sipush (v := 480) hx hb d_MG_init_175 (by decide) ?_
  refine zNewa (atype := .int) (ty := .int) (a0 := (480, .inl (fun _ => 0))) (N' := 480) hx hb rfl (hg _ k1_82) hK hP63 hD63 hS63 hA 0 rfl (fun _ h => by cases h) (fun _ => rfl) (by decide) (by decide) (by decide) (Nat.le_of_ble_eq_true rfl) (Nat.le_of_ble_eq_true rfl) d_MG_init_178 (fun q178 H64 hP64 hD64 hS64 => ?_)
  clear hP63 hD63 hS63
  refine zCons (fun T178 e178 hP65 hD65 => ?_) hP64 hD64
  clear hP64 hD64
  refine va_putF (D := D) (ci := 15) (v := .ref q178) (ty := .array .int) (C := R_MG) (T := T_MG) (N := 30) hx hb hg i_MG t_MG o_MG n_MG hown hK hP65 hD65 hS64 0 rfl rfl 23 (by decide) (hg _ k9_70) (fun _ h9 => h9) rfl hnm rfl (by decide +kernel) rfl rfl (Nat.le_of_ble_eq_true rfl) d_MG_init_180 (fun H66 locs66 hP66 hD66 hS66 => ?_)
  clear hP65 hD65 hS64
  replace hP66 : va_P D vwCl ((h0, .inr (15, [.ref q5, .ref q16, .ref q27, .ref q38, .ref q49, .ref q60, .int 0, .ref q73, .ref q81, .ref q89, .ref q97, .ref q105, .int 0, .ref q113, .ref q121, .ref q129, .ref q137, .int 0, .int 0, .ref q145, .ref q153, .ref q161, .ref q169, .ref q178, .null, .null, .null, .null, .null, .null])) :: T178) _ := hP66
  replace hD66 : va_D A ((h0, .inr (15, [.ref q5, .ref q16, .ref q27, .ref q38, .ref q49, .ref q60, .int 0, .ref q73, .ref q81, .ref q89, .ref q97, .ref q105, .int 0, .ref q113, .ref q121, .ref q129, .ref q137, .int 0, .int 0, .ref q145, .ref q153, .ref q161, .ref q169, .ref q178, .null, .null, .null, .null, .null, .null])) :: T178) := hD66
  refine lv_aload_n hx hb d_MG_init_183 rfl (lv_at hl 0 rfl) ?_
  refine lv_sipush (v := 480) hx hb d_MG_init_184 (by decide) ?_
  refine zNewa (atype := .int) (ty := .int) (a0 := (480, .inl (fun _ => 0))) (N' := 480) hx hb rfl (hg _ k1_82) hK hP66 hD66 hS66 hA 0 rfl (fun _ h => by cases h) (fun _ => rfl) (by decide) (by decide) (by decide) (Nat.le_of_ble_eq_true rfl) (Nat.le_of_ble_eq_true rfl) d_MG_init_187 (fun q187 H67 hP67 hD67 hS67 => ?_)
  clear hP66 hD66 hS66
  refine zCons (fun T187 e187 hP68 hD68 => ?_) hP67 hD67
  clear hP67 hD67
  refine va_putF (D := D) (ci := 15) (v := .ref q187) (ty := .array .int) (C := R_MG) (T := T_MG) (N := 30) hx hb hg i_MG t_MG o_MG n_MG hown hK hP68 hD68 hS67 0 rfl rfl 24 (by decide) (hg _ k9_72) (fun _ h9 => h9) rfl hnm rfl (by decide +kernel) rfl rfl (Nat.le_of_ble_eq_true rfl) d_MG_init_189 (fun H69 locs69 hP69 hD69 hS69 => ?_)
  clear hP68 hD68 hS67
  replace hP69 : va_P D vwCl ((h0, .inr (15, [.ref q5, .ref q16, .ref q27, .ref q38, .ref q49, .ref q60, .int 0, .ref q73, .ref q81, .ref q89, .ref q97, .ref q105, .int 0, .ref q113, .ref q121, .ref q129, .ref q137, .int 0, .int 0, .ref q145, .ref q153, .ref q161, .ref q169, .ref q178, .ref q187, .null, .null, .null, .null, .null])) :: T187) _ := hP69
  replace hD69 : va_D A ((h0, .inr (15, [.ref q5, .ref q16, .ref q27, .ref q38, .ref q49, .ref q60, .int 0, .ref q73, .ref q81, .ref q89, .ref q97, .ref q105, .int 0, .ref q113, .ref q121, .ref q129, .ref q137, .int 0, .int 0, .ref q145, .ref q153, .ref q161, .ref q169, .ref q178, .ref q187, .null, .null, .null, .null, .null])) :: T187) := hD69
  refine lv_aload_n hx hb d_MG_init_192 rfl (lv_at hl 0 rfl) ?_
  refine lv_sipush (v := 480) hx hb d_MG_init_193 (by decide) ?_
  refine zNewa (atype := .int) (ty := .int) (a0 := (480, .inl (fun _ => 0))) (N' := 480) hx hb rfl (hg _ k1_82) hK hP69 hD69 hS69 hA 0 rfl (fun _ h => by cases h) (fun _ => rfl) (by decide) (by decide) (by decide) (Nat.le_of_ble_eq_true rfl) (Nat.le_of_ble_eq_true rfl) d_MG_init_196 (fun q196 H70 hP70 hD70 hS70 => ?_)
  clear hP69 hD69 hS69
  refine zCons (fun T196 e196 hP71 hD71 => ?_) hP70 hD70
  clear hP70 hD70
  refine va_putF (D := D) (ci := 15) (v := .ref q196) (ty := .array .int) (C := R_MG) (T := T_MG) (N := 30) hx hb hg i_MG t_MG o_MG n_MG hown hK hP71 hD71 hS70 0 rfl rfl 25 (by decide) (hg _ k9_74) (fun _ h9 => h9) rfl hnm rfl (by decide +kernel) rfl rfl (Nat.le_of_ble_eq_true rfl) d_MG_init_198 (fun H72 locs72 hP72 hD72 hS72 => ?_)
  clear hP71 hD71 hS70
  replace hP72 : va_P D vwCl ((h0, .inr (15, [.ref q5, .ref q16, .ref q27, .ref q38, .ref q49, .ref q60, .int 0, .ref q73, .ref q81, .ref q89, .ref q97, .ref q105, .int 0, .ref q113, .ref q121, .ref q129, .ref q137, .int 0, .int 0, .ref q145, .ref q153, .ref q161, .ref q169, .ref q178, .ref q187, .ref q196, .null, .null, .null, .null])) :: T196) _ := hP72
  replace hD72 : va_D A ((h0, .inr (15, [.ref q5, .ref q16, .ref q27, .ref q38, .ref q49, .ref q60, .int 0, .ref q73, .ref q81, .ref q89, .ref q97, .ref q105, .int 0, .ref q113, .ref q121, .ref q129, .ref q137, .int 0, .int 0, .ref q145, .ref q153, .ref q161, .ref q169, .ref q178, .ref q187, .ref q196, .null, .null, .null, .null])) :: T196) := hD72
  refine lv_aload_n hx hb d_MG_init_201 rfl (lv_at hl 0 rfl) ?_
  refine lv_sipush (v := 480) hx hb d_MG_init_202 (by decide) ?_
  refine zNewa (atype := .int) (ty := .int) (a0 := (480, .inl (fun _ => 0))) (N' := 480) hx hb rfl (hg _ k1_82) hK hP72 hD72 hS72 hA 0 rfl (fun _ h => by cases h) (fun _ => rfl) (by decide) (by decide) (by decide) (Nat.le_of_ble_eq_true rfl) (Nat.le_of_ble_eq_true rfl) d_MG_init_205 (fun q205 H73 hP73 hD73 hS73 => ?_)
  clear hP72 hD72 hS72
  refine zCons (fun T205 e205 hP74 hD74 => ?_) hP73 hD73
  clear hP73 hD73
  refine va_putF (D := D) (ci := 15) (v := .ref q205) (ty := .array .int) (C := R_MG) (T := T_MG) (N := 30) hx hb hg i_MG t_MG o_MG n_MG hown hK hP74 hD74 hS73 0 rfl rfl 26 (by decide) (hg _ k9_76) (fun _ h9 => h9) rfl hnm rfl (by decide +kernel) rfl rfl (Nat.le_of_ble_eq_true rfl) d_MG_init_207 (fun H75 locs75 hP75 hD75 hS75 => ?_)
  clear hP74 hD74 hS73
  replace hP75 : va_P D vwCl ((h0, .inr (15, [.ref q5, .ref q16, .ref q27, .ref q38, .ref q49, .ref q60, .int 0, .ref q73, .ref q81, .ref q89, .ref q97, .ref q105, .int 0, .ref q113, .ref q121, .ref q129, .ref q137, .int 0, .int 0, .ref q145, .ref q153, .ref q161, .ref q169, .ref q178, .ref q187, .ref q196, .ref q205, .null, .null, .null])) :: T205) _ := hP75
  replace hD75 : va_D A ((h0, .inr (15, [.ref q5, .ref q16, .ref q27, .ref q38, .ref q49, .ref q60, .int 0, .ref q73, .ref q81, .ref q89, .ref q97, .ref q105, .int 0, .ref q113, .ref q121, .ref q129, .ref q137, .int 0, .int 0, .ref q145, .ref q153, .ref q161, .ref q169, .ref q178, .ref q187, .ref q196, .ref q205, .null, .null, .null])) :: T205) := hD75
  refine lv_aload_n hx hb d_MG_init_210 rfl (lv_at hl 0 rfl) ?_
  refine va_new (ci := 14) (fs := [.null, .int 0]) (C := R_MN) (T := T_MN) (N := 2) hx hb hg i_MN t_MN o_MN hown (hg _ k9_22) (hg _ k9_1) (hg _ k1_15) hK hP75 hD75 hS75 hA rfl f_MN (Nat.le_of_ble_eq_true rfl) (Nat.le_of_ble_eq_true rfl) d_MG_init_211 (fun q211 H76 hP76 hD76 hS76 => ?_)
  clear hP75 hD75 hS75
  refine lv_dup hx hb d_MG_init_214 rfl ?_
  refine zInit hP76 hD76 hS76 hA (va_runIN (As := []) (rest := [.ref q211, .ref h0]) ⟨hx, hb, hml, hown, hg⟩ (c_MN_init l D tA q211 H76.size) ⟨va_cnB 0 hg (zGood k9_4 rfl) rfl rfl rfl (va_Nw.of rfl (hg _ k9_23)) (hg _ k1_15) (by decide +kernel) ⟨(Nat.le_of_ble_eq_true rfl), (Nat.le_of_ble_eq_true rfl)⟩, rfl, hg _ k9_3⟩ (zPreI hh hK hP76 hD76) rfl rfl hl.1 rfl (lv_room (Nat.le_of_ble_eq_true rfl)) d_MG_init_215 ⟨(Nat.le_of_ble_eq_true rfl), (Nat.le_of_ble_eq_true rfl)⟩) (fun u211 H77 locs77 _ hP77 hD77 hS77 => ?_)
  clear hP76 hD76 hS76
  refine zCons (fun T215 e215 hP78 hD78 => ?_) hP77 hD77
  clear hP77 hD77
  refine va_putF (D := D) (ci := 15) (v := .ref q211) (ty := .object "ChanceArenaModel$Numbers") (C := R_MG) (T := T_MG) (N := 30) hx hb hg i_MG t_MG o_MG n_MG hown hK hP78 hD78 hS77 0 rfl rfl 27 (by decide) (hg _ k9_78) (fun _ h9 => h9) rfl hnm rfl (by decide +kernel) rfl rfl (Nat.le_of_ble_eq_true rfl) d_MG_init_218 (fun H79 locs79 hP79 hD79 hS79 => ?_)
  clear hP78 hD78 hS77
  replace hP79 : va_P D vwCl ((h0, .inr (15, [.ref q5, .ref q16, .ref q27, .ref q38, .ref q49, .ref q60, .int 0, .ref q73, .ref q81, .ref q89, .ref q97, .ref q105, .int 0, .ref q113, .ref q121, .ref q129, .ref q137, .int 0, .int 0, .ref q145, .ref q153, .ref q161, .ref q169, .ref q178, .ref q187, .ref q196, .ref q205, .ref q211, .null, .null])) :: T215) _ := hP79
  replace hD79 : va_D A ((h0, .inr (15, [.ref q5, .ref q16, .ref q27, .ref q38, .ref q49, .ref q60, .int 0, .ref q73, .ref q81, .ref q89, .ref q97, .ref q105, .int 0, .ref q113, .ref q121, .ref q129, .ref q137, .int 0, .int 0, .ref q145, .ref q153, .ref q161, .ref q169, .ref q178, .ref q187, .ref q196, .ref q205, .ref q211, .null, .null])) :: T215) := hD79
  refine lv_aload_n hx hb d_MG_init_221 rfl (lv_at hl 0 rfl) ?_
  refine va_new (ci := 14) (fs := [.null, .int 0]) (C := R_MN) (T := T_MN) (N := 2) hx hb hg i_MN t_MN o_MN hown (hg _ k9_22) (hg _ k9_1) (hg _ k1_15) hK hP79 hD79 hS79 hA rfl f_MN (Nat.le_of_ble_eq_true rfl) (Nat.le_of_ble_eq_true rfl) d_MG_init_222 (fun q222 H80 hP80 hD80 hS80 => ?_)
  clear hP79 hD79 hS79
  refine lv_dup hx hb d_MG_init_225 rfl ?_
  refine zInit hP80 hD80 hS80 hA (va_runIN (As := []) (rest := [.ref q222, .ref h0]) ⟨hx, hb, hml, hown, hg⟩ (c_MN_init l D tA q222 H80.size) ⟨va_cnB 0 hg (zGood k9_4 rfl) rfl rfl rfl (va_Nw.of rfl (hg _ k9_23)) (hg _ k1_15) (by decide +kernel) ⟨(Nat.le_of_ble_eq_true rfl), (Nat.le_of_ble_eq_true rfl)⟩, rfl, hg _ k9_3⟩ (zPreI hh hK hP80 hD80) rfl rfl hl.1 rfl (lv_room (Nat.le_of_ble_eq_true rfl)) d_MG_init_226 ⟨(Nat.le_of_ble_eq_true rfl), (Nat.le_of_ble_eq_true rfl)⟩) (fun u222 H81 locs81 _ hP81 hD81 hS81 => ?_)
  clear hP80 hD80 hS80
  refine zCons (fun T226 e226 hP82 hD82 => ?_) hP81 hD81
  clear hP81 hD81
  refine va_putF (D := D) (ci := 15) (v := .ref q222) (ty := .object "ChanceArenaModel$Numbers") (C := R_MG) (T := T_MG) (N := 30) hx hb hg i_MG t_MG o_MG n_MG hown hK hP82 hD82 hS81 0 rfl rfl 28 (by decide) (hg _ k9_80) (fun _ h9 => h9) rfl hnm rfl (by decide +kernel) rfl rfl (Nat.le_of_ble_eq_true rfl) d_MG_init_229 (fun H83 locs83 hP83 hD83 hS83 => ?_)
  clear hP82 hD82 hS81
  replace hP83 : va_P D vwCl ((h0, .inr (15, [.ref q5, .ref q16, .ref q27, .ref q38, .ref q49, .ref q60, .int 0, .ref q73, .ref q81, .ref q89, .ref q97, .ref q105, .int 0, .ref q113, .ref q121, .ref q129, .ref q137, .int 0, .int 0, .ref q145, .ref q153, .ref q161, .ref q169, .ref q178, .ref q187, .ref q196, .ref q205, .ref q211, .ref q222, .null])) :: T226) _ := hP83
  replace hD83 : va_D A ((h0, .inr (15, [.ref q5, .ref q16, .ref q27, .ref q38, .ref q49, .ref q60, .int 0, .ref q73, .ref q81, .ref q89, .ref q97, .ref q105, .int 0, .ref q113, .ref q121, .ref q129, .ref q137, .int 0, .int 0, .ref q145, .ref q153, .ref q161, .ref q169, .ref q178, .ref q187, .ref q196, .ref q205, .ref q211, .ref q222, .null])) :: T226) := hD83
  refine lv_aload_n hx hb d_MG_init_232 rfl (lv_at hl 0 rfl) ?_
  refine va_new (ci := 14) (fs := [.null, .int 0]) (C := R_MN) (T := T_MN) (N := 2) hx hb hg i_MN t_MN o_MN hown (hg _ k9_22) (hg _ k9_1) (hg _ k1_15) hK hP83 hD83 hS83 hA rfl f_MN (Nat.le_of_ble_eq_true rfl) (Nat.le_of_ble_eq_true rfl) d_MG_init_233 (fun q233 H84 hP84 hD84 hS84 => ?_)
  clear hP83 hD83 hS83
  refine lv_dup hx hb d_MG_init_236 rfl ?_
  refine zInit hP84 hD84 hS84 hA (va_runIN (As := []) (rest := [.ref q233, .ref h0]) ⟨hx, hb, hml, hown, hg⟩ (c_MN_init l D tA q233 H84.size) ⟨va_cnB 0 hg (zGood k9_4 rfl) rfl rfl rfl (va_Nw.of rfl (hg _ k9_23)) (hg _ k1_15) (by decide +kernel) ⟨(Nat.le_of_ble_eq_true rfl), (Nat.le_of_ble_eq_true rfl)⟩, rfl, hg _ k9_3⟩ (zPreI hh hK hP84 hD84) rfl rfl hl.1 rfl (lv_room (Nat.le_of_ble_eq_true rfl)) d_MG_init_237 ⟨(Nat.le_of_ble_eq_true rfl), (Nat.le_of_ble_eq_true rfl)⟩) (fun u233 H85 locs85 _ hP85 hD85 hS85 => ?_)
  clear hP84 hD84 hS84
  refine zCons (fun T237 e237 hP86 hD86 => ?_) hP85 hD85
  clear hP85 hD85
  refine va_putF (D := D) (ci := 15) (v := .ref q233) (ty := .object "ChanceArenaModel$Numbers") (C := R_MG) (T := T_MG) (N := 30) hx hb hg i_MG t_MG o_MG n_MG hown hK hP86 hD86 hS85 0 rfl rfl 29 (by decide) (hg _ k9_82) (fun _ h9 => h9) rfl hnm rfl (by decide +kernel) rfl rfl (Nat.le_of_ble_eq_true rfl) d_MG_init_240 (fun H87 locs87 hP87 hD87 hS87 => ?_)
  clear hP86 hD86 hS85
  replace hP87 : va_P D vwCl ((h0, .inr (15, [.ref q5, .ref q16, .ref q27, .ref q38, .ref q49, .ref q60, .int 0, .ref q73, .ref q81, .ref q89, .ref q97, .ref q105, .int 0, .ref q113, .ref q121, .ref q129, .ref q137, .int 0, .int 0, .ref q145, .ref q153, .ref q161, .ref q169, .ref q178, .ref q187, .ref q196, .ref q205, .ref q211, .ref q222, .ref q233])) :: T237) _ := hP87
  replace hD87 : va_D A ((h0, .inr (15, [.ref q5, .ref q16, .ref q27, .ref q38, .ref q49, .ref q60, .int 0, .ref q73, .ref q81, .ref q89, .ref q97, .ref q105, .int 0, .ref q113, .ref q121, .ref q129, .ref q137, .int 0, .int 0, .ref q145, .ref q153, .ref q161, .ref q169, .ref q178, .ref q187, .ref q196, .ref q205, .ref q211, .ref q222, .ref q233])) :: T237) := hD87
  refine W.cs (cells' := 35) (slots' := 2670) rfl rfl ?_
  exact zVret hx hb hr hlocks hP87 hD87 hS87 ((q5, u5), (q16, u16), (q27, u27), (q38, u38), (q49, u49), (q60, u60), q73, q81, q89, q97, q105, q113, q121, q129, q137, q145, q153, q161, q169, q178, q187, q196, q205, (q211, u211), (q222, u222), (q233, u233)) trivial (by rw [e237, e226, e215, e205, e196, e187, e178, e169, e161, e153, e145, e137, e129, e121, e113, e105, e97, e89, e81, e73, e64, e53, e42, e31, e20, e9]; rfl) d_MG_init_243
