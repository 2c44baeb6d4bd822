theorem k1_16 : (Jvm.Cond.initialized "ChanceArenaModel$Game") ∈ lw_R := zR (zk_1 _ (List.mem_of_getElem? (i := 16) (by decide +kernel))) rfl
theorem k1_17 : (Jvm.Cond.initialized "ChanceArenaModel$Solver") ∈ lw_R := zR (zk_1 _ (List.mem_of_getElem? (i := 17) (by decide +kernel))) rfl
theorem k8_238 : (Jvm.Cond.code ({ cls := "ChanceArenaModel", name := "<init>", desc := "()V" } : Jvm.MethodName) prog_15_method_1_code (1 : Nat) (Option.none : Option Jvm.ClassFile.FieldType)) ∈ lw_R := zR (zk_8 _ (List.mem_of_getElem? (i := 238) (by decide +kernel))) rfl
theorem k8_239 : (Jvm.Cond.methodLink "ChanceArenaModel" (1 : Nat) ({ cls := "java/lang/Object", name := "<init>", desc := "()V" } : Jvm.MethodName)) ∈ lw_R := zR (zk_8 _ (List.mem_of_getElem? (i := 239) (by decide +kernel))) rfl
theorem k9_0 : (Jvm.Cond.classLink "ChanceArenaModel" (7 : Nat) "ChanceArenaModel$Numbers") ∈ lw_R := zR (zk_9 _ (List.mem_of_getElem? (i := 0) (by decide +kernel))) rfl
theorem k9_2 : (Jvm.Cond.methodLinkNest "ChanceArenaModel" (9 : Nat) ({ cls := "ChanceArenaModel$Numbers", name := "<init>", desc := "()V" } : Jvm.MethodName) "ChanceArenaModel") ∈ lw_R := zR (zk_9 _ (List.mem_of_getElem? (i := 2) (by decide +kernel))) rfl
theorem k9_16 : (Jvm.Cond.classLink "ChanceArenaModel" (31 : Nat) "ChanceArenaModel$Game") ∈ lw_R := zR (zk_9 _ (List.mem_of_getElem? (i := 16) (by decide +kernel))) rfl
theorem k9_17 : (Jvm.Cond.instantiable "ChanceArenaModel$Game" (30 : Nat)) ∈ lw_R := zR (zk_9 _ (List.mem_of_getElem? (i := 17) (by decide +kernel))) rfl
theorem k9_18 : (Jvm.Cond.methodLinkNest "ChanceArenaModel" (33 : Nat) ({ cls := "ChanceArenaModel$Game", name := "<init>", desc := "()V" } : Jvm.MethodName) "ChanceArenaModel") ∈ lw_R := zR (zk_9 _ (List.mem_of_getElem? (i := 18) (by decide +kernel))) rfl
theorem k9_19 : (Jvm.Cond.instanceMethod ({ cls := "ChanceArenaModel$Game", name := "<init>", desc := "()V" } : Jvm.MethodName)) ∈ lw_R := zR (zk_9 _ (List.mem_of_getElem? (i := 19) (by decide +kernel))) rfl
theorem k9_145 : (Jvm.Cond.classLink "ChanceArenaModel" (114 : Nat) "ChanceArenaModel$Solver") ∈ lw_R := zR (zk_9 _ (List.mem_of_getElem? (i := 145) (by decide +kernel))) rfl
theorem k9_146 : (Jvm.Cond.instantiable "ChanceArenaModel$Solver" (32 : Nat)) ∈ lw_R := zR (zk_9 _ (List.mem_of_getElem? (i := 146) (by decide +kernel))) rfl
theorem k9_147 : (Jvm.Cond.methodLink "ChanceArenaModel" (116 : Nat) ({ cls := "ChanceArenaModel$Solver", name := "<init>", desc := "()V" } : Jvm.MethodName)) ∈ lw_R := zR (zk_9 _ (List.mem_of_getElem? (i := 147) (by decide +kernel))) rfl
theorem k9_148 : (Jvm.Cond.instanceMethod ({ cls := "ChanceArenaModel$Solver", name := "<init>", desc := "()V" } : Jvm.MethodName)) ∈ lw_R := zR (zk_9 _ (List.mem_of_getElem? (i := 148) (by decide +kernel))) rfl
theorem k10_82 : (Jvm.Cond.fieldLink "ChanceArenaModel" (10 : Nat) "ChanceArenaModel" "tape" "LChanceArenaModel$Numbers;") ∈ lw_R := zR (zk_10 _ (List.mem_of_getElem? (i := 82) (by decide +kernel))) rfl
theorem k10_83 : (Jvm.Cond.fieldLink "ChanceArenaModel" (16 : Nat) "ChanceArenaModel" "text" "LChanceArenaModel$Numbers;") ∈ lw_R := zR (zk_10 _ (List.mem_of_getElem? (i := 83) (by decide +kernel))) rfl
theorem k10_84 : (Jvm.Cond.fieldLink "ChanceArenaModel" (19 : Nat) "ChanceArenaModel" "kinds" "LChanceArenaModel$Numbers;") ∈ lw_R := zR (zk_10 _ (List.mem_of_getElem? (i := 84) (by decide +kernel))) rfl
theorem k10_85 : (Jvm.Cond.fieldLink "ChanceArenaModel" (22 : Nat) "ChanceArenaModel" "places" "LChanceArenaModel$Numbers;") ∈ lw_R := zR (zk_10 _ (List.mem_of_getElem? (i := 85) (by decide +kernel))) rfl
theorem k10_86 : (Jvm.Cond.fieldLink "ChanceArenaModel" (25 : Nat) "ChanceArenaModel" "ends" "LChanceArenaModel$Numbers;") ∈ lw_R := zR (zk_10 _ (List.mem_of_getElem? (i := 86) (by decide +kernel))) rfl
theorem k10_87 : (Jvm.Cond.fieldLink "ChanceArenaModel" (28 : Nat) "ChanceArenaModel" "wanted" "LChanceArenaModel$Numbers;") ∈ lw_R := zR (zk_10 _ (List.mem_of_getElem? (i := 87) (by decide +kernel))) rfl
theorem k10_90 : (Jvm.Cond.fieldLink "ChanceArenaModel" (34 : Nat) "ChanceArenaModel" "game" "LChanceArenaModel$Game;") ∈ lw_R := zR (zk_10 _ (List.mem_of_getElem? (i := 90) (by decide +kernel))) rfl
theorem k10_91 : (Jvm.Cond.fieldLink "ChanceArenaModel" (38 : Nat) "ChanceArenaModel" "draft" "LChanceArenaModel$Game;") ∈ lw_R := zR (zk_10 _ (List.mem_of_getElem? (i := 91) (by decide +kernel))) rfl
theorem k10_93 : (Jvm.Cond.fieldLink "ChanceArenaModel" (41 : Nat) "ChanceArenaModel" "wrong" "I") ∈ lw_R := zR (zk_10 _ (List.mem_of_getElem? (i := 93) (by decide +kernel))) rfl
theorem k10_94 : (Jvm.Cond.fieldLink "ChanceArenaModel" (45 : Nat) "ChanceArenaModel" "nameWord" "LChanceArenaModel$Numbers;") ∈ lw_R := zR (zk_10 _ (List.mem_of_getElem? (i := 94) (by decide +kernel))) rfl
theorem k10_95 : (Jvm.Cond.fieldLink "ChanceArenaModel" (48 : Nat) "ChanceArenaModel" "nameSort" "LChanceArenaModel$Numbers;") ∈ lw_R := zR (zk_10 _ (List.mem_of_getElem? (i := 95) (by decide +kernel))) rfl
theorem k10_96 : (Jvm.Cond.fieldLink "ChanceArenaModel" (51 : Nat) "ChanceArenaModel" "nameIndex" "LChanceArenaModel$Numbers;") ∈ lw_R := zR (zk_10 _ (List.mem_of_getElem? (i := 96) (by decide +kernel))) rfl
theorem k10_99 : (Jvm.Cond.fieldLink "ChanceArenaModel" (54 : Nat) "ChanceArenaModel" "jobs" "LChanceArenaModel$Numbers;") ∈ lw_R := zR (zk_10 _ (List.mem_of_getElem? (i := 99) (by decide +kernel))) rfl
theorem k10_100 : (Jvm.Cond.fieldLink "ChanceArenaModel" (57 : Nat) "ChanceArenaModel" "truths" "LChanceArenaModel$Numbers;") ∈ lw_R := zR (zk_10 _ (List.mem_of_getElem? (i := 100) (by decide +kernel))) rfl
theorem k10_101 : (Jvm.Cond.fieldLink "ChanceArenaModel" (60 : Nat) "ChanceArenaModel" "looks" "LChanceArenaModel$Numbers;") ∈ lw_R := zR (zk_10 _ (List.mem_of_getElem? (i := 101) (by decide +kernel))) rfl
theorem k10_102 : (Jvm.Cond.fieldLink "ChanceArenaModel" (63 : Nat) "ChanceArenaModel" "above" "[J") ∈ lw_R := zR (zk_10 _ (List.mem_of_getElem? (i := 102) (by decide +kernel))) rfl
theorem k10_103 : (Jvm.Cond.fieldLink "ChanceArenaModel" (67 : Nat) "ChanceArenaModel" "below" "[J") ∈ lw_R := zR (zk_10 _ (List.mem_of_getElem? (i := 103) (by decide +kernel))) rfl
theorem k10_105 : (Jvm.Cond.fieldLink "ChanceArenaModel" (70 : Nat) "ChanceArenaModel" "todo" "LChanceArenaModel$Numbers;") ∈ lw_R := zR (zk_10 _ (List.mem_of_getElem? (i := 105) (by decide +kernel))) rfl
theorem k10_106 : (Jvm.Cond.fieldLink "ChanceArenaModel" (73 : Nat) "ChanceArenaModel" "now" "[I") ∈ lw_R := zR (zk_10 _ (List.mem_of_getElem? (i := 106) (by decide +kernel))) rfl
theorem k10_107 : (Jvm.Cond.fieldLink "ChanceArenaModel" (77 : Nat) "ChanceArenaModel" "met" "[Z") ∈ lw_R := zR (zk_10 _ (List.mem_of_getElem? (i := 107) (by decide +kernel))) rfl
theorem k10_108 : (Jvm.Cond.fieldLink "ChanceArenaModel" (81 : Nat) "ChanceArenaModel" "metAbove" "[J") ∈ lw_R := zR (zk_10 _ (List.mem_of_getElem? (i := 108) (by decide +kernel))) rfl
theorem k10_109 : (Jvm.Cond.fieldLink "ChanceArenaModel" (84 : Nat) "ChanceArenaModel" "metBelow" "[J") ∈ lw_R := zR (zk_10 _ (List.mem_of_getElem? (i := 109) (by decide +kernel))) rfl
theorem k10_111 : (Jvm.Cond.fieldLink "ChanceArenaModel" (87 : Nat) "ChanceArenaModel" "faultState" "I") ∈ lw_R := zR (zk_10 _ (List.mem_of_getElem? (i := 111) (by decide +kernel))) rfl
theorem k10_112 : (Jvm.Cond.fieldLink "ChanceArenaModel" (90 : Nat) "ChanceArenaModel" "vars" "[I") ∈ lw_R := zR (zk_10 _ (List.mem_of_getElem? (i := 112) (by decide +kernel))) rfl
theorem k10_113 : (Jvm.Cond.fieldLink "ChanceArenaModel" (93 : Nat) "ChanceArenaModel" "kindOf" "[I") ∈ lw_R := zR (zk_10 _ (List.mem_of_getElem? (i := 113) (by decide +kernel))) rfl
theorem k10_114 : (Jvm.Cond.fieldLink "ChanceArenaModel" (96 : Nat) "ChanceArenaModel" "firstCommand" "[I") ∈ lw_R := zR (zk_10 _ (List.mem_of_getElem? (i := 114) (by decide +kernel))) rfl
theorem k10_115 : (Jvm.Cond.fieldLink "ChanceArenaModel" (99 : Nat) "ChanceArenaModel" "manyCommands" "[I") ∈ lw_R := zR (zk_10 _ (List.mem_of_getElem? (i := 115) (by decide +kernel))) rfl
theorem k10_116 : (Jvm.Cond.fieldLink "ChanceArenaModel" (102 : Nat) "ChanceArenaModel" "commandOf" "LChanceArenaModel$Numbers;") ∈ lw_R := zR (zk_10 _ (List.mem_of_getElem? (i := 116) (by decide +kernel))) rfl
theorem k10_117 : (Jvm.Cond.fieldLink "ChanceArenaModel" (105 : Nat) "ChanceArenaModel" "firstBranch" "LChanceArenaModel$Numbers;") ∈ lw_R := zR (zk_10 _ (List.mem_of_getElem? (i := 117) (by decide +kernel))) rfl
theorem k10_118 : (Jvm.Cond.fieldLink "ChanceArenaModel" (108 : Nat) "ChanceArenaModel" "manyBranches" "LChanceArenaModel$Numbers;") ∈ lw_R := zR (zk_10 _ (List.mem_of_getElem? (i := 118) (by decide +kernel))) rfl
theorem k10_119 : (Jvm.Cond.fieldLink "ChanceArenaModel" (111 : Nat) "ChanceArenaModel" "multipleOf" "LChanceArenaModel$Numbers;") ∈ lw_R := zR (zk_10 _ (List.mem_of_getElem? (i := 119) (by decide +kernel))) rfl
theorem k10_120 : (Jvm.Cond.fieldLink "ChanceArenaModel" (117 : Nat) "ChanceArenaModel" "solver" "LChanceArenaModel$Solver;") ∈ lw_R := zR (zk_10 _ (List.mem_of_getElem? (i := 120) (by decide +kernel))) rfl
theorem k10_122 : (Jvm.Cond.fieldLink "ChanceArenaModel" (121 : Nat) "ChanceArenaModel" "wayTo" "[I") ∈ lw_R := zR (zk_10 _ (List.mem_of_getElem? (i := 122) (by decide +kernel))) rfl
theorem k10_123 : (Jvm.Cond.fieldLink "ChanceArenaModel" (124 : Nat) "ChanceArenaModel" "wayAbove" "[J") ∈ lw_R := zR (zk_10 _ (List.mem_of_getElem? (i := 123) (by decide +kernel))) rfl
theorem k10_124 : (Jvm.Cond.fieldLink "ChanceArenaModel" (127 : Nat) "ChanceArenaModel" "wayBelow" "[J") ∈ lw_R := zR (zk_10 _ (List.mem_of_getElem? (i := 124) (by decide +kernel))) rfl
theorem k10_125 : (Jvm.Cond.fieldLink "ChanceArenaModel" (130 : Nat) "ChanceArenaModel" "next" "[I") ∈ lw_R := zR (zk_10 _ (List.mem_of_getElem? (i := 125) (by decide +kernel))) rfl
theorem k10_126 : (Jvm.Cond.fieldLink "ChanceArenaModel" (133 : Nat) "ChanceArenaModel" "chanceAbove" "[J") ∈ lw_R := zR (zk_10 _ (List.mem_of_getElem? (i := 126) (by decide +kernel))) rfl
theorem k10_127 : (Jvm.Cond.fieldLink "ChanceArenaModel" (136 : Nat) "ChanceArenaModel" "chanceBelow" "[J") ∈ lw_R := zR (zk_10 _ (List.mem_of_getElem? (i := 127) (by decide +kernel))) rfl
theorem k10_128 : (Jvm.Cond.fieldLink "ChanceArenaModel" (139 : Nat) "ChanceArenaModel" "printed" "[I") ∈ lw_R := zR (zk_10 _ (List.mem_of_getElem? (i := 128) (by decide +kernel))) rfl
theorem d_MM_init_0 : decode prog_15_method_1_code 0 = .ok (.aload_n 0, 1) := dc9_42 (by decide +kernel)
theorem d_MM_init_1 : decode prog_15_method_1_code 1 = .ok (.invokespecial 1, 3) := dc9_183 (by decide +kernel)
theorem d_MM_init_4 : decode prog_15_method_1_code 4 = .ok (.aload_n 0, 1) := dc9_42 (by decide +kernel)
theorem d_MM_init_5 : decode prog_15_method_1_code 5 = .ok (.new 7, 3) := dc9_187 (by decide +kernel)
theorem d_MM_init_8 : decode prog_15_method_1_code 8 = .ok (.dup, 1) := dc9_89 (by decide +kernel)
theorem d_MM_init_9 : decode prog_15_method_1_code 9 = .ok (.invokespecial 9, 3) := dc9_183 (by decide +kernel)
theorem d_MM_init_12 : decode prog_15_method_1_code 12 = .ok (.putfield 10, 3) := dc9_181 (by decide +kernel)
theorem d_MM_init_15 : decode prog_15_method_1_code 15 = .ok (.aload_n 0, 1) := dc9_42 (by decide +kernel)
theorem d_MM_init_16 : decode prog_15_method_1_code 16 = .ok (.new 7, 3) := dc9_187 (by decide +kernel)
theorem d_MM_init_19 : decode prog_15_method_1_code 19 = .ok (.dup, 1) := dc9_89 (by decide +kernel)
theorem d_MM_init_20 : decode prog_15_method_1_code 20 = .ok (.invokespecial 9, 3) := dc9_183 (by decide +kernel)
theorem d_MM_init_23 : decode prog_15_method_1_code 23 = .ok (.putfield 16, 3) := dc9_181 (by decide +kernel)
theorem d_MM_init_26 : decode prog_15_method_1_code 26 = .ok (.aload_n 0, 1) := dc9_42 (by decide +kernel)
theorem d_MM_init_27 : decode prog_15_method_1_code 27 = .ok (.new 7, 3) := dc9_187 (by decide +kernel)
theorem d_MM_init_30 : decode prog_15_method_1_code 30 = .ok (.dup, 1) := dc9_89 (by decide +kernel)
theorem d_MM_init_31 : decode prog_15_method_1_code 31 = .ok (.invokespecial 9, 3) := dc9_183 (by decide +kernel)
theorem d_MM_init_34 : decode prog_15_method_1_code 34 = .ok (.putfield 19, 3) := dc9_181 (by decide +kernel)
theorem d_MM_init_37 : decode prog_15_method_1_code 37 = .ok (.aload_n 0, 1) := dc9_42 (by decide +kernel)
theorem d_MM_init_38 : decode prog_15_method_1_code 38 = .ok (.new 7, 3) := dc9_187 (by decide +kernel)
theorem d_MM_init_41 : decode prog_15_method_1_code 41 = .ok (.dup, 1) := dc9_89 (by decide +kernel)
theorem d_MM_init_42 : decode prog_15_method_1_code 42 = .ok (.invokespecial 9, 3) := dc9_183 (by decide +kernel)
theorem d_MM_init_45 : decode prog_15_method_1_code 45 = .ok (.putfield 22, 3) := dc9_181 (by decide +kernel)
theorem d_MM_init_48 : decode prog_15_method_1_code 48 = .ok (.aload_n 0, 1) := dc9_42 (by decide +kernel)
theorem d_MM_init_49 : decode prog_15_method_1_code 49 = .ok (.new 7, 3) := dc9_187 (by decide +kernel)
theorem d_MM_init_52 : decode prog_15_method_1_code 52 = .ok (.dup, 1) := dc9_89 (by decide +kernel)
theorem d_MM_init_53 : decode prog_15_method_1_code 53 = .ok (.invokespecial 9, 3) := dc9_183 (by decide +kernel)
theorem d_MM_init_56 : decode prog_15_method_1_code 56 = .ok (.putfield 25, 3) := dc9_181 (by decide +kernel)
theorem d_MM_init_59 : decode prog_15_method_1_code 59 = .ok (.aload_n 0, 1) := dc9_42 (by decide +kernel)
theorem d_MM_init_60 : decode prog_15_method_1_code 60 = .ok (.new 7, 3) := dc9_187 (by decide +kernel)
theorem d_MM_init_63 : decode prog_15_method_1_code 63 = .ok (.dup, 1) := dc9_89 (by decide +kernel)
theorem d_MM_init_64 : decode prog_15_method_1_code 64 = .ok (.invokespecial 9, 3) := dc9_183 (by decide +kernel)
theorem d_MM_init_67 : decode prog_15_method_1_code 67 = .ok (.putfield 28, 3) := dc9_181 (by decide +kernel)
theorem d_MM_init_70 : decode prog_15_method_1_code 70 = .ok (.aload_n 0, 1) := dc9_42 (by decide +kernel)
theorem d_MM_init_71 : decode prog_15_method_1_code 71 = .ok (.new 31, 3) := dc9_187 (by decide +kernel)
theorem d_MM_init_74 : decode prog_15_method_1_code 74 = .ok (.dup, 1) := dc9_89 (by decide +kernel)
theorem d_MM_init_75 : decode prog_15_method_1_code 75 = .ok (.invokespecial 33, 3) := dc9_183 (by decide +kernel)
theorem d_MM_init_78 : decode prog_15_method_1_code 78 = .ok (.putfield 34, 3) := dc9_181 (by decide +kernel)
theorem d_MM_init_81 : decode prog_15_method_1_code 81 = .ok (.aload_n 0, 1) := dc9_42 (by decide +kernel)
theorem d_MM_init_82 : decode prog_15_method_1_code 82 = .ok (.new 31, 3) := dc9_187 (by decide +kernel)
theorem d_MM_init_85 : decode prog_15_method_1_code 85 = .ok (.dup, 1) := dc9_89 (by decide +kernel)
theorem d_MM_init_86 : decode prog_15_method_1_code 86 = .ok (.invokespecial 33, 3) := dc9_183 (by decide +kernel)
theorem d_MM_init_89 : decode prog_15_method_1_code 89 = .ok (.putfield 38, 3) := dc9_181 (by decide +kernel)
theorem d_MM_init_92 : decode prog_15_method_1_code 92 = .ok (.aload_n 0, 1) := dc9_42 (by decide +kernel)
theorem d_MM_init_93 : decode prog_15_method_1_code 93 = .ok (.iconst (-1), 1) := dc9_2 (by decide +kernel)
theorem d_MM_init_94 : decode prog_15_method_1_code 94 = .ok (.putfield 41, 3) := dc9_181 (by decide +kernel)
theorem d_MM_init_97 : decode prog_15_method_1_code 97 = .ok (.aload_n 0, 1) := dc9_42 (by decide +kernel)
theorem d_MM_init_98 : decode prog_15_method_1_code 98 = .ok (.new 7, 3) := dc9_187 (by decide +kernel)
theorem d_MM_init_101 : decode prog_15_method_1_code 101 = .ok (.dup, 1) := dc9_89 (by decide +kernel)
theorem d_MM_init_102 : decode prog_15_method_1_code 102 = .ok (.invokespecial 9, 3) := dc9_183 (by decide +kernel)
theorem d_MM_init_105 : decode prog_15_method_1_code 105 = .ok (.putfield 45, 3) := dc9_181 (by decide +kernel)
theorem d_MM_init_108 : decode prog_15_method_1_code 108 = .ok (.aload_n 0, 1) := dc9_42 (by decide +kernel)
theorem d_MM_init_109 : decode prog_15_method_1_code 109 = .ok (.new 7, 3) := dc9_187 (by decide +kernel)
theorem d_MM_init_112 : decode prog_15_method_1_code 112 = .ok (.dup, 1) := dc9_89 (by decide +kernel)
theorem d_MM_init_113 : decode prog_15_method_1_code 113 = .ok (.invokespecial 9, 3) := dc9_183 (by decide +kernel)
theorem d_MM_init_116 : decode prog_15_method_1_code 116 = .ok (.putfield 48, 3) := dc9_181 (by decide +kernel)
theorem d_MM_init_119 : decode prog_15_method_1_code 119 = .ok (.aload_n 0, 1) := dc9_42 (by decide +kernel)
theorem d_MM_init_120 : decode prog_15_method_1_code 120 = .ok (.new 7, 3) := dc9_187 (by decide +kernel)
theorem d_MM_init_123 : decode prog_15_method_1_code 123 = .ok (.dup, 1) := dc9_89 (by decide +kernel)
theorem d_MM_init_124 : decode prog_15_method_1_code 124 = .ok (.invokespecial 9, 3) := dc9_183 (by decide +kernel)
theorem d_MM_init_127 : decode prog_15_method_1_code 127 = .ok (.putfield 51, 3) := dc9_181 (by decide +kernel)
theorem d_MM_init_130 : decode prog_15_method_1_code 130 = .ok (.aload_n 0, 1) := dc9_42 (by decide +kernel)
theorem d_MM_init_131 : decode prog_15_method_1_code 131 = .ok (.new 7, 3) := dc9_187 (by decide +kernel)
theorem d_MM_init_134 : decode prog_15_method_1_code 134 = .ok (.dup, 1) := dc9_89 (by decide +kernel)
theorem d_MM_init_135 : decode prog_15_method_1_code 135 = .ok (.invokespecial 9, 3) := dc9_183 (by decide +kernel)
theorem d_MM_init_138 : decode prog_15_method_1_code 138 = .ok (.putfield 54, 3) := dc9_181 (by decide +kernel)
theorem d_MM_init_141 : decode prog_15_method_1_code 141 = .ok (.aload_n 0, 1) := dc9_42 (by decide +kernel)
theorem d_MM_init_142 : decode prog_15_method_1_code 142 = .ok (.new 7, 3) := dc9_187 (by decide +kernel)
theorem d_MM_init_145 : decode prog_15_method_1_code 145 = .ok (.dup, 1) := dc9_89 (by decide +kernel)
theorem d_MM_init_146 : decode prog_15_method_1_code 146 = .ok (.invokespecial 9, 3) := dc9_183 (by decide +kernel)
theorem d_MM_init_149 : decode prog_15_method_1_code 149 = .ok (.putfield 57, 3) := dc9_181 (by decide +kernel)
theorem d_MM_init_152 : decode prog_15_method_1_code 152 = .ok (.aload_n 0, 1) := dc9_42 (by decide +kernel)
theorem d_MM_init_153 : decode prog_15_method_1_code 153 = .ok (.new 7, 3) := dc9_187 (by decide +kernel)
theorem d_MM_init_156 : decode prog_15_method_1_code 156 = .ok (.dup, 1) := dc9_89 (by decide +kernel)
theorem d_MM_init_157 : decode prog_15_method_1_code 157 = .ok (.invokespecial 9, 3) := dc9_183 (by decide +kernel)
theorem d_MM_init_160 : decode prog_15_method_1_code 160 = .ok (.putfield 60, 3) := dc9_181 (by decide +kernel)
theorem d_MM_init_163 : decode prog_15_method_1_code 163 = .ok (.aload_n 0, 1) := dc9_42 (by decide +kernel)
theorem d_MM_init_164 : decode prog_15_method_1_code 164 = .ok (.sipush 16400, 3) := dc9_17 (by decide +kernel)
theorem d_MM_init_167 : decode prog_15_method_1_code 167 = .ok (.newarray .long, 2) := by decide +kernel
theorem d_MM_init_169 : decode prog_15_method_1_code 169 = .ok (.putfield 63, 3) := dc9_181 (by decide +kernel)
theorem d_MM_init_172 : decode prog_15_method_1_code 172 = .ok (.aload_n 0, 1) := dc9_42 (by decide +kernel)
theorem d_MM_init_173 : decode prog_15_method_1_code 173 = .ok (.sipush 16400, 3) := dc9_17 (by decide +kernel)
theorem d_MM_init_176 : decode prog_15_method_1_code 176 = .ok (.newarray .long, 2) := by decide +kernel
theorem d_MM_init_178 : decode prog_15_method_1_code 178 = .ok (.putfield 67, 3) := dc9_181 (by decide +kernel)
theorem d_MM_init_181 : decode prog_15_method_1_code 181 = .ok (.aload_n 0, 1) := dc9_42 (by decide +kernel)
theorem d_MM_init_182 : decode prog_15_method_1_code 182 = .ok (.new 7, 3) := dc9_187 (by decide +kernel)
theorem d_MM_init_185 : decode prog_15_method_1_code 185 = .ok (.dup, 1) := dc9_89 (by decide +kernel)
theorem d_MM_init_186 : decode prog_15_method_1_code 186 = .ok (.invokespecial 9, 3) := dc9_183 (by decide +kernel)
theorem d_MM_init_189 : decode prog_15_method_1_code 189 = .ok (.putfield 70, 3) := dc9_181 (by decide +kernel)
theorem d_MM_init_192 : decode prog_15_method_1_code 192 = .ok (.aload_n 0, 1) := dc9_42 (by decide +kernel)
theorem d_MM_init_193 : decode prog_15_method_1_code 193 = .ok (.bipush 12, 2) := dc9_16 (by decide +kernel)
theorem d_MM_init_195 : decode prog_15_method_1_code 195 = .ok (.newarray .int, 2) := by decide +kernel
theorem d_MM_init_197 : decode prog_15_method_1_code 197 = .ok (.putfield 73, 3) := dc9_181 (by decide +kernel)
theorem d_MM_init_200 : decode prog_15_method_1_code 200 = .ok (.aload_n 0, 1) := dc9_42 (by decide +kernel)
theorem d_MM_init_201 : decode prog_15_method_1_code 201 = .ok (.bipush 60, 2) := dc9_16 (by decide +kernel)
theorem d_MM_init_203 : decode prog_15_method_1_code 203 = .ok (.newarray .boolean, 2) := by decide +kernel
theorem d_MM_init_205 : decode prog_15_method_1_code 205 = .ok (.putfield 77, 3) := dc9_181 (by decide +kernel)
theorem d_MM_init_208 : decode prog_15_method_1_code 208 = .ok (.aload_n 0, 1) := dc9_42 (by decide +kernel)
theorem d_MM_init_209 : decode prog_15_method_1_code 209 = .ok (.bipush 60, 2) := dc9_16 (by decide +kernel)
theorem d_MM_init_211 : decode prog_15_method_1_code 211 = .ok (.newarray .long, 2) := by decide +kernel
theorem d_MM_init_213 : decode prog_15_method_1_code 213 = .ok (.putfield 81, 3) := dc9_181 (by decide +kernel)
theorem d_MM_init_216 : decode prog_15_method_1_code 216 = .ok (.aload_n 0, 1) := dc9_42 (by decide +kernel)
theorem d_MM_init_217 : decode prog_15_method_1_code 217 = .ok (.bipush 60, 2) := dc9_16 (by decide +kernel)
theorem d_MM_init_219 : decode prog_15_method_1_code 219 = .ok (.newarray .long, 2) := by decide +kernel
theorem d_MM_init_221 : decode prog_15_method_1_code 221 = .ok (.putfield 84, 3) := dc9_181 (by decide +kernel)
theorem d_MM_init_224 : decode prog_15_method_1_code 224 = .ok (.aload_n 0, 1) := dc9_42 (by decide +kernel)
theorem d_MM_init_225 : decode prog_15_method_1_code 225 = .ok (.iconst (-1), 1) := dc9_2 (by decide +kernel)
theorem d_MM_init_226 : decode prog_15_method_1_code 226 = .ok (.putfield 87, 3) := dc9_181 (by decide +kernel)
theorem d_MM_init_229 : decode prog_15_method_1_code 229 = .ok (.aload_n 0, 1) := dc9_42 (by decide +kernel)
theorem d_MM_init_230 : decode prog_15_method_1_code 230 = .ok (.sipush 6144, 3) := dc9_17 (by decide +kernel)
theorem d_MM_init_233 : decode prog_15_method_1_code 233 = .ok (.newarray .int, 2) := by decide +kernel
theorem d_MM_init_235 : decode prog_15_method_1_code 235 = .ok (.putfield 90, 3) := dc9_181 (by decide +kernel)
theorem d_MM_init_238 : decode prog_15_method_1_code 238 = .ok (.aload_n 0, 1) := dc9_42 (by decide +kernel)
theorem d_MM_init_239 : decode prog_15_method_1_code 239 = .ok (.sipush 512, 3) := dc9_17 (by decide +kernel)
theorem d_MM_init_242 : decode prog_15_method_1_code 242 = .ok (.newarray .int, 2) := by decide +kernel
theorem d_MM_init_244 : decode prog_15_method_1_code 244 = .ok (.putfield 93, 3) := dc9_181 (by decide +kernel)
theorem d_MM_init_247 : decode prog_15_method_1_code 247 = .ok (.aload_n 0, 1) := dc9_42 (by decide +kernel)
theorem d_MM_init_248 : decode prog_15_method_1_code 248 = .ok (.sipush 512, 3) := dc9_17 (by decide +kernel)
theorem d_MM_init_251 : decode prog_15_method_1_code 251 = .ok (.newarray .int, 2) := by decide +kernel
theorem d_MM_init_253 : decode prog_15_method_1_code 253 = .ok (.putfield 96, 3) := dc9_181 (by decide +kernel)
theorem d_MM_init_256 : decode prog_15_method_1_code 256 = .ok (.aload_n 0, 1) := dc9_42 (by decide +kernel)
theorem d_MM_init_257 : decode prog_15_method_1_code 257 = .ok (.sipush 512, 3) := dc9_17 (by decide +kernel)
theorem d_MM_init_260 : decode prog_15_method_1_code 260 = .ok (.newarray .int, 2) := by decide +kernel
theorem d_MM_init_262 : decode prog_15_method_1_code 262 = .ok (.putfield 99, 3) := dc9_181 (by decide +kernel)
theorem d_MM_init_265 : decode prog_15_method_1_code 265 = .ok (.aload_n 0, 1) := dc9_42 (by decide +kernel)
theorem d_MM_init_266 : decode prog_15_method_1_code 266 = .ok (.new 7, 3) := dc9_187 (by decide +kernel)
theorem d_MM_init_269 : decode prog_15_method_1_code 269 = .ok (.dup, 1) := dc9_89 (by decide +kernel)
theorem d_MM_init_270 : decode prog_15_method_1_code 270 = .ok (.invokespecial 9, 3) := dc9_183 (by decide +kernel)
theorem d_MM_init_273 : decode prog_15_method_1_code 273 = .ok (.putfield 102, 3) := dc9_181 (by decide +kernel)
theorem d_MM_init_276 : decode prog_15_method_1_code 276 = .ok (.aload_n 0, 1) := dc9_42 (by decide +kernel)
theorem d_MM_init_277 : decode prog_15_method_1_code 277 = .ok (.new 7, 3) := dc9_187 (by decide +kernel)
theorem d_MM_init_280 : decode prog_15_method_1_code 280 = .ok (.dup, 1) := dc9_89 (by decide +kernel)
theorem d_MM_init_281 : decode prog_15_method_1_code 281 = .ok (.invokespecial 9, 3) := dc9_183 (by decide +kernel)
theorem d_MM_init_284 : decode prog_15_method_1_code 284 = .ok (.putfield 105, 3) := dc9_181 (by decide +kernel)
theorem d_MM_init_287 : decode prog_15_method_1_code 287 = .ok (.aload_n 0, 1) := dc9_42 (by decide +kernel)
theorem d_MM_init_288 : decode prog_15_method_1_code 288 = .ok (.new 7, 3) := dc9_187 (by decide +kernel)
theorem d_MM_init_291 : decode prog_15_method_1_code 291 = .ok (.dup, 1) := dc9_89 (by decide +kernel)
theorem d_MM_init_292 : decode prog_15_method_1_code 292 = .ok (.invokespecial 9, 3) := dc9_183 (by decide +kernel)
theorem d_MM_init_295 : decode prog_15_method_1_code 295 = .ok (.putfield 108, 3) := dc9_181 (by decide +kernel)
theorem d_MM_init_298 : decode prog_15_method_1_code 298 = .ok (.aload_n 0, 1) := dc9_42 (by decide +kernel)
theorem d_MM_init_299 : decode prog_15_method_1_code 299 = .ok (.new 7, 3) := dc9_187 (by decide +kernel)
theorem d_MM_init_302 : decode prog_15_method_1_code 302 = .ok (.dup, 1) := dc9_89 (by decide +kernel)
theorem d_MM_init_303 : decode prog_15_method_1_code 303 = .ok (.invokespecial 9, 3) := dc9_183 (by decide +kernel)
theorem d_MM_init_306 : decode prog_15_method_1_code 306 = .ok (.putfield 111, 3) := dc9_181 (by decide +kernel)
theorem d_MM_init_309 : decode prog_15_method_1_code 309 = .ok (.aload_n 0, 1) := dc9_42 (by decide +kernel)
theorem d_MM_init_310 : decode prog_15_method_1_code 310 = .ok (.new 114, 3) := dc9_187 (by decide +kernel)
theorem d_MM_init_313 : decode prog_15_method_1_code 313 = .ok (.dup, 1) := dc9_89 (by decide +kernel)
theorem d_MM_init_314 : decode prog_15_method_1_code 314 = .ok (.invokespecial 116, 3) := dc9_183 (by decide +kernel)
theorem d_MM_init_317 : decode prog_15_method_1_code 317 = .ok (.putfield 117, 3) := dc9_181 (by decide +kernel)
theorem d_MM_init_320 : decode prog_15_method_1_code 320 = .ok (.aload_n 0, 1) := dc9_42 (by decide +kernel)
theorem d_MM_init_321 : decode prog_15_method_1_code 321 = .ok (.sipush 4096, 3) := dc9_17 (by decide +kernel)
theorem d_MM_init_324 : decode prog_15_method_1_code 324 = .ok (.newarray .int, 2) := by decide +kernel
theorem d_MM_init_326 : decode prog_15_method_1_code 326 = .ok (.putfield 121, 3) := dc9_181 (by decide +kernel)
theorem d_MM_init_329 : decode prog_15_method_1_code 329 = .ok (.aload_n 0, 1) := dc9_42 (by decide +kernel)
theorem d_MM_init_330 : decode prog_15_method_1_code 330 = .ok (.sipush 4096, 3) := dc9_17 (by decide +kernel)
theorem d_MM_init_333 : decode prog_15_method_1_code 333 = .ok (.newarray .long, 2) := by decide +kernel
theorem d_MM_init_335 : decode prog_15_method_1_code 335 = .ok (.putfield 124, 3) := dc9_181 (by decide +kernel)
theorem d_MM_init_338 : decode prog_15_method_1_code 338 = .ok (.aload_n 0, 1) := dc9_42 (by decide +kernel)
theorem d_MM_init_339 : decode prog_15_method_1_code 339 = .ok (.sipush 4096, 3) := dc9_17 (by decide +kernel)
theorem d_MM_init_342 : decode prog_15_method_1_code 342 = .ok (.newarray .long, 2) := by decide +kernel
theorem d_MM_init_344 : decode prog_15_method_1_code 344 = .ok (.putfield 127, 3) := dc9_181 (by decide +kernel)
theorem d_MM_init_347 : decode prog_15_method_1_code 347 = .ok (.aload_n 0, 1) := dc9_42 (by decide +kernel)
theorem d_MM_init_348 : decode prog_15_method_1_code 348 = .ok (.bipush 12, 2) := dc9_16 (by decide +kernel)
theorem d_MM_init_350 : decode prog_15_method_1_code 350 = .ok (.newarray .int, 2) := by decide +kernel
theorem d_MM_init_352 : decode prog_15_method_1_code 352 = .ok (.putfield 130, 3) := dc9_181 (by decide +kernel)
theorem d_MM_init_355 : decode prog_15_method_1_code 355 = .ok (.aload_n 0, 1) := dc9_42 (by decide +kernel)
theorem d_MM_init_356 : decode prog_15_method_1_code 356 = .ok (.bipush 8, 2) := dc9_16 (by decide +kernel)
theorem d_MM_init_358 : decode prog_15_method_1_code 358 = .ok (.newarray .long, 2) := by decide +kernel
theorem d_MM_init_360 : decode prog_15_method_1_code 360 = .ok (.putfield 133, 3) := dc9_181 (by decide +kernel)
theorem d_MM_init_363 : decode prog_15_method_1_code 363 = .ok (.aload_n 0, 1) := dc9_42 (by decide +kernel)
theorem d_MM_init_364 : decode prog_15_method_1_code 364 = .ok (.bipush 8, 2) := dc9_16 (by decide +kernel)
theorem d_MM_init_366 : decode prog_15_method_1_code 366 = .ok (.newarray .long, 2) := by decide +kernel
theorem d_MM_init_368 : decode prog_15_method_1_code 368 = .ok (.putfield 136, 3) := dc9_181 (by decide +kernel)
theorem d_MM_init_371 : decode prog_15_method_1_code 371 = .ok (.aload_n 0, 1) := dc9_42 (by decide +kernel)
theorem d_MM_init_372 : decode prog_15_method_1_code 372 = .ok (.sipush 900, 3) := dc9_17 (by decide +kernel)
theorem d_MM_init_375 : decode prog_15_method_1_code 375 = .ok (.newarray .int, 2) := by decide +kernel
theorem d_MM_init_377 : decode prog_15_method_1_code 377 = .ok (.putfield 139, 3) := dc9_181 (by decide +kernel)
theorem d_MM_init_380 : decode prog_15_method_1_code 380 = .ok (.return_, 1) := dc9_177 (by decide +kernel)
abbrev S_MM : Type := (Nat × S_MN) × (Nat × S_MN) × (Nat × S_MN) × (Nat × S_MN) × (Nat × S_MN) × (Nat × S_MN) × (Nat × S_MG) × (Nat × S_MG) × (Nat × S_MN) × (Nat × S_MN) × (Nat × S_MN) × (Nat × S_MN) × (Nat × S_MN) × (Nat × S_MN) × Nat × Nat × (Nat × S_MN) × Nat × Nat × Nat × Nat × Nat × Nat × Nat × Nat × (Nat × S_MN) × (Nat × S_MN) × (Nat × S_MN) × (Nat × S_MN) × (Nat × S_MS) × Nat × Nat × Nat × Nat × Nat × Nat × Nat
def w_MM (tA : Nat → ClassId) (h0 : Nat) (u : S_MM) : va_W := match u with
  | ((q5, u5), (q16, u16), (q27, u27), (q38, u38), (q49, u49), (q60, u60), (q71, u71), (q82, u82), (q98, u98), (q109, u109), (q120, u120), (q131, u131), (q142, u142), (q153, u153), q167, q176, (q182, u182), q195, q203, q211, q219, q233, q242, q251, q260, (q266, u266), (q277, u277), (q288, u288), (q299, u299), (q310, u310), q324, q333, q342, q350, q358, q366, q375) => (h0, .inr (13, [.int 0, .ref q5, .ref q16, .ref q27, .ref q38, .ref q49, .ref q60, .int 0, .int 0, .ref q71, .ref q82, .int 0, .int (-1), .ref q98, .ref q109, .ref q120, .int 0, .int 0, .ref q131, .ref q142, .ref q153, .ref q167, .ref q176, .int 0, .ref q182, .ref q195, .ref q203, .ref q211, .ref q219, .int 0, .int (-1), .ref q233, .ref q242, .ref q251, .ref q260, .ref q266, .ref q277, .ref q288, .ref q299, .ref q310, .int 0, .ref q324, .ref q333, .ref q342, .ref q350, .ref q358, .ref q366, .ref q375, .int 0])) :: ([] ++ w_MN tA q5 u5 ++ w_MN tA q16 u16 ++ w_MN tA q27 u27 ++ w_MN tA q38 u38 ++ w_MN tA q49 u49 ++ w_MN tA q60 u60 ++ w_MG tA q71 u71 ++ w_MG tA q82 u82 ++ w_MN tA q98 u98 ++ w_MN tA q109 u109 ++ w_MN tA q120 u120 ++ w_MN tA q131 u131 ++ w_MN tA q142 u142 ++ w_MN tA q153 u153 ++ [(q167, .inl (tA 3, 16400, .inr (.inl (fun _ => 0))))] ++ [(q176, .inl (tA 3, 16400, .inr (.inl (fun _ => 0))))] ++ w_MN tA q182 u182 ++ [(q195, .inl (tA 0, 12, .inl (fun _ => 0)))] ++ [(q203, .inl (tA 1, 60, .inl (fun _ => 0)))] ++ [(q211, .inl (tA 3, 60, .inr (.inl (fun _ => 0))))] ++ [(q219, .inl (tA 3, 60, .inr (.inl (fun _ => 0))))] ++ [(q233, .inl (tA 0, 6144, .inl (fun _ => 0)))] ++ [(q242, .inl (tA 0, 512, .inl (fun _ => 0)))] ++ [(q251, .inl (tA 0, 512, .inl (fun _ => 0)))] ++ [(q260, .inl (tA 0, 512, .inl (fun _ => 0)))] ++ w_MN tA q266 u266 ++ w_MN tA q277 u277 ++ w_MN tA q288 u288 ++ w_MN tA q299 u299 ++ w_MS tA q310 u310 ++ [(q324, .inl (tA 0, 4096, .inl (fun _ => 0)))] ++ [(q333, .inl (tA 3, 4096, .inr (.inl (fun _ => 0))))] ++ [(q342, .inl (tA 3, 4096, .inr (.inl (fun _ => 0))))] ++ [(q350, .inl (tA 0, 12, .inl (fun _ => 0)))] ++ [(q358, .inl (tA 3, 8, .inr (.inl (fun _ => 0))))] ++ [(q366, .inl (tA 3, 8, .inr (.inl (fun _ => 0))))] ++ [(q375, .inl (tA 0, 900, .inl (fun _ => 0)))])
theorem f_MM : ∀ j, j < 49 → defaultValue (t_MM j) = vp_V [.int 0, .null, .null, .null, .null, .null, .null, .int 0, .int 0, .null, .null, .int 0, .int 0, .null, .null, .null, .int 0, .int 0, .null, .null, .null, .null, .null, .int 0, .null, .null, .null, .null, .null, .int 0, .int 0, .null, .null, .null, .null, .null, .null, .null, .null, .null, .int 0, .null, .null, .null, .null, .null, .null, .null, .int 0] j := by decide +kernel
set_option maxHeartbeats 4000000 in
set_option maxRecDepth 100000 in
theorem c_MM_init (l : Launch) (D : va_G) (tA : Nat → ClassId) (h0 sz : Nat) : zMv l ({ cls := "ChanceArenaModel", name := "<init>", desc := "()V" } : Jvm.MethodName) (zW (Jvm.Cond.code ({ cls := "ChanceArenaModel", name := "<init>", desc := "()V" } : Jvm.MethodName) prog_15_method_1_code (1 : Nat) (Option.none : Option Jvm.ClassFile.FieldType))) { frames := 5, cells := 21191, slots := 603063, locals := 103 } [.ref h0] D tA [(h0, .inr (13, [.int 0, .null, .null, .null, .null, .null, .null, .int 0, .int 0, .null, .null, .int 0, .int 0, .null, .null, .null, .int 0, .int 0, .null, .null, .null, .null, .null, .int 0, .null, .null, .null, .null, .null, .int 0, .int 0, .null, .null, .null, .null, .null, .null, .null, .null, .null, .int 0, .null, .null, .null, .null, .null, .null, .null, .int 0]))] sz (fun _ : S_MM => True) (w_MM tA h0) 21191 603063 := by
  refine zOpen (fun A => va_Qv _ (zPost D A (w_MM tA h0)) A) (lv := [(0, .ref h0)]) (by decide) rfl (Nat.le_of_ble_eq_true rfl) rfl ?_
  intro p e s m below meth c A ls hx hb hr hml hh hg hown hlocks hnm hK hA hP hD0 hAw hS hl
  have hD := zD hD0 hAw
  refine lv_aload_n hx hb d_MM_init_0 rfl (lv_at hl 0 rfl) ?_
  refine W.objInit hx hb hown (hg _ k8_239) (hg _ k1_46) (hg _ k1_47) rfl (by rw [hml]; exact hl.1) rfl d_MM_init_1 (Nat.le_of_ble_eq_true rfl) (Nat.le_of_ble_eq_true rfl) ?_
  refine lv_aload_n hx hb d_MM_init_4 rfl (lv_at hl 0 rfl) ?_
  refine va_new (ci := 14) (fs := [.null, .int 0]) (C := R_MN) (T := T_MN) (N := 2) hx hb hg i_MN t_MN o_MN hown (hg _ k9_0) (hg _ k9_1) (hg _ k1_15) hK hP hD hS hA rfl f_MN (Nat.le_of_ble_eq_true rfl) (Nat.le_of_ble_eq_true rfl) d_MM_init_5 (fun q5 H1 hP1 hD1 hS1 => ?_)
  clear hP hD hS
  refine lv_dup hx hb d_MM_init_8 rfl ?_
  refine zInit hP1 hD1 hS1 hA (va_runIN (As := []) (rest := [.ref q5, .ref h0]) ⟨hx, hb, hml, hown, hg⟩ (c_MN_init l D tA q5 H1.size) ⟨va_cnB 0 hg (zGood k9_4 rfl) rfl rfl rfl (va_Nw.of rfl (hg _ k9_2)) (hg _ k1_15) (by decide +kernel) ⟨(Nat.le_of_ble_eq_true rfl), (Nat.le_of_ble_eq_true rfl)⟩, rfl, hg _ k9_3⟩ (zPreI hh hK hP1 hD1) rfl rfl hl.1 rfl (lv_room (Nat.le_of_ble_eq_true rfl)) d_MM_init_9 ⟨(Nat.le_of_ble_eq_true rfl), (Nat.le_of_ble_eq_true rfl)⟩) (fun u5 H2 locs2 _ hP2 hD2 hS2 => ?_)
  clear hP1 hD1 hS1
  refine zCons (fun T9 e9 hP3 hD3 => ?_) hP2 hD2
  clear hP2 hD2
  refine va_put (D := D) (ci := 13) (v := .ref q5) (ty := .object "ChanceArenaModel$Numbers") (C := R_MM) (T := T_MM) (N := 49) hx hb hg i_MM t_MM o_MM n_MM hown hK hP3 hD3 hS2 0 rfl rfl 1 (by decide) (hg _ k10_82) (fun _ h9 => h9) rfl (by decide +kernel) rfl rfl (Nat.le_of_ble_eq_true rfl) d_MM_init_12 (fun H4 locs4 hP4 hD4 hS4 => ?_)
  clear hP3 hD3 hS2
  replace hP4 : va_P D vwCl ((h0, .inr (13, [.int 0, .ref q5, .null, .null, .null, .null, .null, .int 0, .int 0, .null, .null, .int 0, .int 0, .null, .null, .null, .int 0, .int 0, .null, .null, .null, .null, .null, .int 0, .null, .null, .null, .null, .null, .int 0, .int 0, .null, .null, .null, .null, .null, .null, .null, .null, .null, .int 0, .null, .null, .null, .null, .null, .null, .null, .int 0])) :: T9) _ := hP4
  replace hD4 : va_D A ((h0, .inr (13, [.int 0, .ref q5, .null, .null, .null, .null, .null, .int 0, .int 0, .null, .null, .int 0, .int 0, .null, .null, .null, .int 0, .int 0, .null, .null, .null, .null, .null, .int 0, .null, .null, .null, .null, .null, .int 0, .int 0, .null, .null, .null, .null, .null, .null, .null, .null, .null, .int 0, .null, .null, .null, .null, .null, .null, .null, .int 0])) :: T9) := hD4
  refine lv_aload_n hx hb d_MM_init_15 rfl (lv_at hl 0 rfl) ?_
  refine va_new (ci := 14) (fs := [.null, .int 0]) (C := R_MN) (T := T_MN) (N := 2) hx hb hg i_MN t_MN o_MN hown (hg _ k9_0) (hg _ k9_1) (hg _ k1_15) hK hP4 hD4 hS4 hA rfl f_MN (Nat.le_of_ble_eq_true rfl) (Nat.le_of_ble_eq_true rfl) d_MM_init_16 (fun q16 H5 hP5 hD5 hS5 => ?_)
  clear hP4 hD4 hS4
  refine lv_dup hx hb d_MM_init_19 rfl ?_
  refine zInit hP5 hD5 hS5 hA (va_runIN (As := []) (rest := [.ref q16, .ref h0]) ⟨hx, hb, hml, hown, hg⟩ (c_MN_init l D tA q16 H5.size) ⟨va_cnB 0 hg (zGood k9_4 rfl) rfl rfl rfl (va_Nw.of rfl (hg _ k9_2)) (hg _ k1_15) (by decide +kernel) ⟨(Nat.le_of_ble_eq_true rfl), (Nat.le_of_ble_eq_true rfl)⟩, rfl, hg _ k9_3⟩ (zPreI hh hK hP5 hD5) rfl rfl hl.1 rfl (lv_room (Nat.le_of_ble_eq_true rfl)) d_MM_init_20 ⟨(Nat.le_of_ble_eq_true rfl), (Nat.le_of_ble_eq_true rfl)⟩) (fun u16 H6 locs6 _ hP6 hD6 hS6 => ?_)
  clear hP5 hD5 hS5
  refine zCons (fun T20 e20 hP7 hD7 => ?_) hP6 hD6
  clear hP6 hD6
  refine va_put (D := D) (ci := 13) (v := .ref q16) (ty := .object "ChanceArenaModel$Numbers") (C := R_MM) (T := T_MM) (N := 49) hx hb hg i_MM t_MM o_MM n_MM hown hK hP7 hD7 hS6 0 rfl rfl 2 (by decide) (hg _ k10_83) (fun _ h9 => h9) rfl (by decide +kernel) rfl rfl (Nat.le_of_ble_eq_true rfl) d_MM_init_23 (fun H8 locs8 hP8 hD8 hS8 => ?_)
  clear hP7 hD7 hS6
  replace hP8 : va_P D vwCl ((h0, .inr (13, [.int 0, .ref q5, .ref q16, .null, .null, .null, .null, .int 0, .int 0, .null, .null, .int 0, .int 0, .null, .null, .null, .int 0, .int 0, .null, .null, .null, .null, .null, .int 0, .null, .null, .null, .null, .null, .int 0, .int 0, .null, .null, .null, .null, .null, .null, .null, .null, .null, .int 0, .null, .null, .null, .null, .null, .null, .null, .int 0])) :: T20) _ := hP8
  replace hD8 : va_D A ((h0, .inr (13, [.int 0, .ref q5, .ref q16, .null, .null, .null, .null, .int 0, .int 0, .null, .null, .int 0, .int 0, .null, .null, .null, .int 0, .int 0, .null, .null, .null, .null, .null, .int 0, .null, .null, .null, .null, .null, .int 0, .int 0, .null, .null, .null, .null, .null, .null, .null, .null, .null, .int 0, .null, .null, .null, .null, .null, .null, .null, .int 0])) :: T20) := hD8
  refine lv_aload_n hx hb d_MM_init_26 rfl (lv_at hl 0 rfl) ?_
  refine va_new (ci := 14) (fs := [.null, .int 0]) (C := R_MN) (T := T_MN) (N := 2) hx hb hg i_MN t_MN o_MN hown (hg _ k9_0) (hg _ k9_1) (hg _ k1_15) hK hP8 hD8 hS8 hA rfl f_MN (Nat.le_of_ble_eq_true rfl) (Nat.le_of_ble_eq_true rfl) d_MM_init_27 (fun q27 H9 hP9 hD9 hS9 => ?_)
  clear hP8 hD8 hS8
  refine lv_dup hx hb d_MM_init_30 rfl ?_
  refine zInit hP9 hD9 hS9 hA (va_runIN (As := []) (rest := [.ref q27, .ref h0]) ⟨hx, hb, hml, hown, hg⟩ (c_MN_init l D tA q27 H9.size) ⟨va_cnB 0 hg (zGood k9_4 rfl) rfl rfl rfl (va_Nw.of rfl (hg _ k9_2)) (hg _ k1_15) (by decide +kernel) ⟨(Nat.le_of_ble_eq_true rfl), (Nat.le_of_ble_eq_true rfl)⟩, rfl, hg _ k9_3⟩ (zPreI hh hK hP9 hD9) rfl rfl hl.1 rfl (lv_room (Nat.le_of_ble_eq_true rfl)) d_MM_init_31 ⟨(Nat.le_of_ble_eq_true rfl), (Nat.le_of_ble_eq_true rfl)⟩) (fun u27 H10 locs10 _ hP10 hD10 hS10 => ?_)
  clear hP9 hD9 hS9
  refine zCons (fun T31 e31 hP11 hD11 => ?_) hP10 hD10
  clear hP10 hD10
  refine va_putF (D := D) (ci := 13) (v := .ref q27) (ty := .object "ChanceArenaModel$Numbers") (C := R_MM) (T := T_MM) (N := 49) hx hb hg i_MM t_MM o_MM n_MM hown hK hP11 hD11 hS10 0 rfl rfl 3 (by decide) (hg _ k10_84) (fun _ h9 => h9) rfl hnm rfl (by decide +kernel) rfl rfl (Nat.le_of_ble_eq_true rfl) d_MM_init_34 (fun H12 locs12 hP12 hD12 hS12 => ?_)
  clear hP11 hD11 hS10
  replace hP12 : va_P D vwCl ((h0, .inr (13, [.int 0, .ref q5, .ref q16, .ref q27, .null, .null, .null, .int 0, .int 0, .null, .null, .int 0, .int 0, .null, .null, .null, .int 0, .int 0, .null, .null, .null, .null, .null, .int 0, .null, .null, .null, .null, .null, .int 0, .int 0, .null, .null, .null, .null, .null, .null, .null, .null, .null, .int 0, .null, .null, .null, .null, .null, .null, .null, .int 0])) :: T31) _ := hP12
  replace hD12 : va_D A ((h0, .inr (13, [.int 0, .ref q5, .ref q16, .ref q27, .null, .null, .null, .int 0, .int 0, .null, .null, .int 0, .int 0, .null, .null, .null, .int 0, .int 0, .null, .null, .null, .null, .null, .int 0, .null, .null, .null, .null, .null, .int 0, .int 0, .null, .null, .null, .null, .null, .null, .null, .null, .null, .int 0, .null, .null, .null, .null, .null, .null, .null, .int 0])) :: T31) := hD12
  refine lv_aload_n hx hb d_MM_init_37 rfl (lv_at hl 0 rfl) ?_
  refine va_new (ci := 14) (fs := [.null, .int 0]) (C := R_MN) (T := T_MN) (N := 2) hx hb hg i_MN t_MN o_MN hown (hg _ k9_0) (hg _ k9_1) (hg _ k1_15) hK hP12 hD12 hS12 hA rfl f_MN (Nat.le_of_ble_eq_true rfl) (Nat.le_of_ble_eq_true rfl) d_MM_init_38 (fun q38 H13 hP13 hD13 hS13 => ?_)
  clear hP12 hD12 hS12
  refine lv_dup hx hb d_MM_init_41 rfl ?_
  refine zInit hP13 hD13 hS13 hA (va_runIN (As := []) (rest := [.ref q38, .ref h0]) ⟨hx, hb, hml, hown, hg⟩ (c_MN_init l D tA q38 H13.size) ⟨va_cnB 0 hg (zGood k9_4 rfl) rfl rfl rfl (va_Nw.of rfl (hg _ k9_2)) (hg _ k1_15) (by decide +kernel) ⟨(Nat.le_of_ble_eq_true rfl), (Nat.le_of_ble_eq_true rfl)⟩, rfl, hg _ k9_3⟩ (zPreI hh hK hP13 hD13) rfl rfl hl.1 rfl (lv_room (Nat.le_of_ble_eq_true rfl)) d_MM_init_42 ⟨(Nat.le_of_ble_eq_true rfl), (Nat.le_of_ble_eq_true rfl)⟩) (fun u38 H14 locs14 _ hP14 hD14 hS14 => ?_)
  clear hP13 hD13 hS13
  refine zCons (fun T42 e42 hP15 hD15 => ?_) hP14 hD14
  clear hP14 hD14
  refine va_putF (D := D) (ci := 13) (v := .ref q38) (ty := .object "ChanceArenaModel$Numbers") (C := R_MM) (T := T_MM) (N := 49) hx hb hg i_MM t_MM o_MM n_MM hown hK hP15 hD15 hS14 0 rfl rfl 4 (by decide) (hg _ k10_85) (fun _ h9 => h9) rfl hnm rfl (by decide +kernel) rfl rfl (Nat.le_of_ble_eq_true rfl) d_MM_init_45 (fun H16 locs16 hP16 hD16 hS16 => ?_)
  clear hP15 hD15 hS14
  replace hP16 : va_P D vwCl ((h0, .inr (13, [.int 0, .ref q5, .ref q16, .ref q27, .ref q38, .null, .null, .int 0, .int 0, .null, .null, .int 0, .int 0, .null, .null, .null, .int 0, .int 0, .null, .null, .null, .null, .null, .int 0, .null, .null, .null, .null, .null, .int 0, .int 0, .null, .null, .null, .null, .null, .null, .null, .null, .null, .int 0, .null, .null, .null, .null, .null, .null, .null, .int 0])) :: T42) _ := hP16
  replace hD16 : va_D A ((h0, .inr (13, [.int 0, .ref q5, .ref q16, .ref q27, .ref q38, .null, .null, .int 0, .int 0, .null, .null, .int 0, .int 0, .null, .null, .null, .int 0, .int 0, .null, .null, .null, .null, .null, .int 0, .null, .null, .null, .null, .null, .int 0, .int 0, .null, .null, .null, .null, .null, .null, .null, .null, .null, .int 0, .null, .null, .null, .null, .null, .null, .null, .int 0])) :: T42) := hD16
  refine lv_aload_n hx hb d_MM_init_48 rfl (lv_at hl 0 rfl) ?_
  refine va_new (ci := 14) (fs := [.null, .int 0]) (C := R_MN) (T := T_MN) (N := 2) hx hb hg i_MN t_MN o_MN hown (hg _ k9_0) (hg _ k9_1) (hg _ k1_15) hK hP16 hD16 hS16 hA rfl f_MN (Nat.le_of_ble_eq_true rfl) (Nat.le_of_ble_eq_true rfl) d_MM_init_49 (fun q49 H17 hP17 hD17 hS17 => ?_)
  clear hP16 hD16 hS16
  refine lv_dup hx hb d_MM_init_52 rfl ?_
  refine zInit hP17 hD17 hS17 hA (va_runIN (As := []) (rest := [.ref q49, .ref h0]) ⟨hx, hb, hml, hown, hg⟩ (c_MN_init l D tA q49 H17.size) ⟨va_cnB 0 hg (zGood k9_4 rfl) rfl rfl rfl (va_Nw.of rfl (hg _ k9_2)) (hg _ k1_15) (by decide +kernel) ⟨(Nat.le_of_ble_eq_true rfl), (Nat.le_of_ble_eq_true rfl)⟩, rfl, hg _ k9_3⟩ (zPreI hh hK hP17 hD17) rfl rfl hl.1 rfl (lv_room (Nat.le_of_ble_eq_true rfl)) d_MM_init_53 ⟨(Nat.le_of_ble_eq_true rfl), (Nat.le_of_ble_eq_true rfl)⟩) (fun u49 H18 locs18 _ hP18 hD18 hS18 => ?_)
  clear hP17 hD17 hS17
  refine zCons (fun T53 e53 hP19 hD19 => ?_) hP18 hD18
  clear hP18 hD18
  refine va_putF (D := D) (ci := 13) (v := .ref q49) (ty := .object "ChanceArenaModel$Numbers") (C := R_MM) (T := T_MM) (N := 49) hx hb hg i_MM t_MM o_MM n_MM hown hK hP19 hD19 hS18 0 rfl rfl 5 (by decide) (hg _ k10_86) (fun _ h9 => h9) rfl hnm rfl (by decide +kernel) rfl rfl (Nat.le_of_ble_eq_true rfl) d_MM_init_56 (fun H20 locs20 hP20 hD20 hS20 => ?_)
  clear hP19 hD19 hS18
  replace hP20 : va_P D vwCl ((h0, .inr (13, [.int 0, .ref q5, .ref q16, .ref q27, .ref q38, .ref q49, .null, .int 0, .int 0, .null, .null, .int 0, .int 0, .null, .null, .null, .int 0, .int 0, .null, .null, .null, .null, .null, .int 0, .null, .null, .null, .null, .null, .int 0, .int 0, .null, .null, .null, .null, .null, .null, .null, .null, .null, .int 0, .null, .null, .null, .null, .null, .null, .null, .int 0])) :: T53) _ := hP20
  replace hD20 : va_D A ((h0, .inr (13, [.int 0, .ref q5, .ref q16, .ref q27, .ref q38, .ref q49, .null, .int 0, .int 0, .null, .null, .int 0, .int 0, .null, .null, .null, .int 0, .int 0, .null, .null, .null, .null, .null, .int 0, .null, .null, .null, .null, .null, .int 0, .int 0, .null, .null, .null, .null, .null, .null, .null, .null, .null, .int 0, .null, .null, .null, .null, .null, .null, .null, .int 0])) :: T53) := hD20
  refine lv_aload_n hx hb d_MM_init_59 rfl (lv_at hl 0 rfl) ?_
  refine va_new (ci := 14) (fs := [.null, .int 0]) (C := R_MN) (T := T_MN) (N := 2) hx hb hg i_MN t_MN o_MN hown (hg _ k9_0) (hg _ k9_1) (hg _ k1_15) hK hP20 hD20 hS20 hA rfl f_MN (Nat.le_of_ble_eq_true rfl) (Nat.le_of_ble_eq_true rfl) d_MM_init_60 (fun q60 H21 hP21 hD21 hS21 => ?_)
  clear hP20 hD20 hS20
  refine lv_dup hx hb d_MM_init_63 rfl ?_
  refine zInit hP21 hD21 hS21 hA (va_runIN (As := []) (rest := [.ref q60, .ref h0]) ⟨hx, hb, hml, hown, hg⟩ (c_MN_init l D tA q60 H21.size) ⟨va_cnB 0 hg (zGood k9_4 rfl) rfl rfl rfl (va_Nw.of rfl (hg _ k9_2)) (hg _ k1_15) (by decide +kernel) ⟨(Nat.le_of_ble_eq_true rfl), (Nat.le_of_ble_eq_true rfl)⟩, rfl, hg _ k9_3⟩ (zPreI hh hK hP21 hD21) rfl rfl hl.1 rfl (lv_room (Nat.le_of_ble_eq_true rfl)) d_MM_init_64 ⟨(Nat.le_of_ble_eq_true rfl), (Nat.le_of_ble_eq_true rfl)⟩) (fun u60 H22 locs22 _ hP22 hD22 hS22 => ?_)
  clear hP21 hD21 hS21
  refine zCons (fun T64 e64 hP23 hD23 => ?_) hP22 hD22
  clear hP22 hD22
  refine va_putF (D := D) (ci := 13) (v := .ref q60) (ty := .object "ChanceArenaModel$Numbers") (C := R_MM) (T := T_MM) (N := 49) hx hb hg i_MM t_MM o_MM n_MM hown hK hP23 hD23 hS22 0 rfl rfl 6 (by decide) (hg _ k10_87) (fun _ h9 => h9) rfl hnm rfl (by decide +kernel) rfl rfl (Nat.le_of_ble_eq_true rfl) d_MM_init_67 (fun H24 locs24 hP24 hD24 hS24 => ?_)
  clear hP23 hD23 hS22
  replace hP24 : va_P D vwCl ((h0, .inr (13, [.int 0, .ref q5, .ref q16, .ref q27, .ref q38, .ref q49, .ref q60, .int 0, .int 0, .null, .null, .int 0, .int 0, .null, .null, .null, .int 0, .int 0, .null, .null, .null, .null, .null, .int 0, .null, .null, .null, .null, .null, .int 0, .int 0, .null, .null, .null, .null, .null, .null, .null, .null, .null, .int 0, .null, .null, .null, .null, .null, .null, .null, .int 0])) :: T64) _ := hP24
  replace hD24 : va_D A ((h0, .inr (13, [.int 0, .ref q5, .ref q16, .ref q27, .ref q38, .ref q49, .ref q60, .int 0, .int 0, .null, .null, .int 0, .int 0, .null, .null, .null, .int 0, .int 0, .null, .null, .null, .null, .null, .int 0, .null, .null, .null, .null, .null, .int 0, .int 0, .null, .null, .null, .null, .null, .null, .null, .null, .null, .int 0, .null, .null, .null, .null, .null, .null, .null, .int 0])) :: T64) := hD24
  refine lv_aload_n hx hb d_MM_init_70 rfl (lv_at hl 0 rfl) ?_
  refine va_new (ci := 15) (fs := [.null, .null, .null, .null, .null, .null, .int 0, .null, .null, .null, .null, .null, .int 0, .null, .null, .null, .null, .int 0, .int 0, .null, .null, .null, .null, .null, .null, .null, .null, .null, .null, .null]) (C := R_MG) (T := T_MG) (N := 30) hx hb hg i_MG t_MG o_MG hown (hg _ k9_16) (hg _ k9_17) (hg _ k1_16) hK hP24 hD24 hS24 hA rfl f_MG (Nat.le_of_ble_eq_true rfl) (Nat.le_of_ble_eq_true rfl) d_MM_init_71 (fun q71 H25 hP25 hD25 hS25 => ?_)
  clear hP24 hD24 hS24
  refine lv_dup hx hb d_MM_init_74 rfl ?_
  refine zInit hP25 hD25 hS25 hA (va_runIN (As := []) (rest := [.ref q71, .ref h0]) ⟨hx, hb, hml, hown, hg⟩ (c_MG_init l D tA q71 H25.size) ⟨va_cnB 0 hg (zGood k9_20 rfl) rfl rfl rfl (va_Nw.of rfl (hg _ k9_18)) (hg _ k1_16) (by decide +kernel) ⟨(Nat.le_of_ble_eq_true rfl), (Nat.le_of_ble_eq_true rfl)⟩, rfl, hg _ k9_19⟩ (zPreI hh hK hP25 hD25) rfl rfl hl.1 rfl (lv_room (Nat.le_of_ble_eq_true rfl)) d_MM_init_75 ⟨(Nat.le_of_ble_eq_true rfl), (Nat.le_of_ble_eq_true rfl)⟩) (fun u71 H26 locs26 _ hP26 hD26 hS26 => ?_)
  clear hP25 hD25 hS25
  refine zCons (fun T75 e75 hP27 hD27 => ?_) hP26 hD26
  clear hP26 hD26
  refine va_put (D := D) (ci := 13) (v := .ref q71) (ty := .object "ChanceArenaModel$Game") (C := R_MM) (T := T_MM) (N := 49) hx hb hg i_MM t_MM o_MM n_MM hown hK hP27 hD27 hS26 0 rfl rfl 9 (by decide) (hg _ k10_90) (fun _ h9 => h9) rfl (by decide +kernel) rfl rfl (Nat.le_of_ble_eq_true rfl) d_MM_init_78 (fun H28 locs28 hP28 hD28 hS28 => ?_)
  clear hP27 hD27 hS26
  replace hP28 : va_P D vwCl ((h0, .inr (13, [.int 0, .ref q5, .ref q16, .ref q27, .ref q38, .ref q49, .ref q60, .int 0, .int 0, .ref q71, .null, .int 0, .int 0, .null, .null, .null, .int 0, .int 0, .null, .null, .null, .null, .null, .int 0, .null, .null, .null, .null, .null, .int 0, .int 0, .null, .null, .null, .null, .null, .null, .null, .null, .null, .int 0, .null, .null, .null, .null, .null, .null, .null, .int 0])) :: T75) _ := hP28
  replace hD28 : va_D A ((h0, .inr (13, [.int 0, .ref q5, .ref q16, .ref q27, .ref q38, .ref q49, .ref q60, .int 0, .int 0, .ref q71, .null, .int 0, .int 0, .null, .null, .null, .int 0, .int 0, .null, .null, .null, .null, .null, .int 0, .null, .null, .null, .null, .null, .int 0, .int 0, .null, .null, .null, .null, .null, .null, .null, .null, .null, .int 0, .null, .null, .null, .null, .null, .null, .null, .int 0])) :: T75) := hD28
  refine lv_aload_n hx hb d_MM_init_81 rfl (lv_at hl 0 rfl) ?_
  refine va_new (ci := 15) (fs := [.null, .null, .null, .null, .null, .null, .int 0, .null, .null, .null, .null, .null, .int 0, .null, .null, .null, .null, .int 0, .int 0, .null, .null, .null, .null, .null, .null, .null, .null, .null, .null, .null]) (C := R_MG) (T := T_MG) (N := 30) hx hb hg i_MG t_MG o_MG hown (hg _ k9_16) (hg _ k9_17) (hg _ k1_16) hK hP28 hD28 hS28 hA rfl f_MG (Nat.le_of_ble_eq_true rfl) (Nat.le_of_ble_eq_true rfl) d_MM_init_82 (fun q82 H29 hP29 hD29 hS29 => ?_)
  clear hP28 hD28 hS28
  refine lv_dup hx hb d_MM_init_85 rfl ?_
  refine zInit hP29 hD29 hS29 hA (va_runIN (As := []) (rest := [.ref q82, .ref h0]) ⟨hx, hb, hml, hown, hg⟩ (c_MG_init l D tA q82 H29.size) ⟨va_cnB 0 hg (zGood k9_20 rfl) rfl rfl rfl (va_Nw.of rfl (hg _ k9_18)) (hg _ k1_16) (by decide +kernel) ⟨(Nat.le_of_ble_eq_true rfl), (Nat.le_of_ble_eq_true rfl)⟩, rfl, hg _ k9_19⟩ (zPreI hh hK hP29 hD29) rfl rfl hl.1 rfl (lv_room (Nat.le_of_ble_eq_true rfl)) d_MM_init_86 ⟨(Nat.le_of_ble_eq_true rfl), (Nat.le_of_ble_eq_true rfl)⟩) (fun u82 H30 locs30 _ hP30 hD30 hS30 => ?_)
  clear hP29 hD29 hS29
  refine zCons (fun T86 e86 hP31 hD31 => ?_) hP30 hD30
  clear hP30 hD30
  refine va_put (D := D) (ci := 13) (v := .ref q82) (ty := .object "ChanceArenaModel$Game") (C := R_MM) (T := T_MM) (N := 49) hx hb hg i_MM t_MM o_MM n_MM hown hK hP31 hD31 hS30 0 rfl rfl 10 (by decide) (hg _ k10_91) (fun _ h9 => h9) rfl (by decide +kernel) rfl rfl (Nat.le_of_ble_eq_true rfl) d_MM_init_89 (fun H32 locs32 hP32 hD32 hS32 => ?_)
  clear hP31 hD31 hS30
  replace hP32 : va_P D vwCl ((h0, .inr (13, [.int 0, .ref q5, .ref q16, .ref q27, .ref q38, .ref q49, .ref q60, .int 0, .int 0, .ref q71, .ref q82, .int 0, .int 0, .null, .null, .null, .int 0, .int 0, .null, .null, .null, .null, .null, .int 0, .null, .null, .null, .null, .null, .int 0, .int 0, .null, .null, .null, .null, .null, .null, .null, .null, .null, .int 0, .null, .null, .null, .null, .null, .null, .null, .int 0])) :: T86) _ := hP32
  replace hD32 : va_D A ((h0, .inr (13, [.int 0, .ref q5, .ref q16, .ref q27, .ref q38, .ref q49, .ref q60, .int 0, .int 0, .ref q71, .ref q82, .int 0, .int 0, .null, .null, .null, .int 0, .int 0, .null, .null, .null, .null, .null, .int 0, .null, .null, .null, .null, .null, .int 0, .int 0, .null, .null, .null, .null, .null, .null, .null, .null, .null, .int 0, .null, .null, .null, .null, .null, .null, .null, .int 0])) :: T86) := hD32
  refine lv_aload_n hx hb d_MM_init_92 rfl (lv_at hl 0 rfl) ?_
  refine lv_iconst (v := -1) hx hb d_MM_init_93 (by decide) ?_
  refine va_put (D := D) (ci := 13) (v := .int (-1)) (ty := .int) (C := R_MM) (T := T_MM) (N := 49) hx hb hg i_MM t_MM o_MM n_MM hown hK hP32 hD32 hS32 0 rfl rfl 12 (by decide) (hg _ k10_93) (fun _ h9 => h9) rfl (by decide +kernel) rfl rfl (Nat.le_of_ble_eq_true rfl) d_MM_init_94 (fun H33 locs33 hP33 hD33 hS33 => ?_)
  clear hP32 hD32 hS32
  replace hP33 : va_P D vwCl ((h0, .inr (13, [.int 0, .ref q5, .ref q16, .ref q27, .ref q38, .ref q49, .ref q60, .int 0, .int 0, .ref q71, .ref q82, .int 0, .int (-1), .null, .null, .null, .int 0, .int 0, .null, .null, .null, .null, .null, .int 0, .null, .null, .null, .null, .null, .int 0, .int 0, .null, .null, .null, .null, .null, .null, .null, .null, .null, .int 0, .null, .null, .null, .null, .null, .null, .null, .int 0])) :: T86) _ := hP33
  replace hD33 : va_D A ((h0, .inr (13, [.int 0, .ref q5, .ref q16, .ref q27, .ref q38, .ref q49, .ref q60, .int 0, .int 0, .ref q71, .ref q82, .int 0, .int (-1), .null, .null, .null, .int 0, .int 0, .null, .null, .null, .null, .null, .int 0, .null, .null, .null, .null, .null, .int 0, .int 0, .null, .null, .null, .null, .null, .null, .null, .null, .null, .int 0, .null, .null, .null, .null, .null, .null, .null, .int 0])) :: T86) := hD33
  refine lv_aload_n hx hb d_MM_init_97 rfl (lv_at hl 0 rfl) ?_
  refine va_new (ci := 14) (fs := [.null, .int 0]) (C := R_MN) (T := T_MN) (N := 2) hx hb hg i_MN t_MN o_MN hown (hg _ k9_0) (hg _ k9_1) (hg _ k1_15) hK hP33 hD33 hS33 hA rfl f_MN (Nat.le_of_ble_eq_true rfl) (Nat.le_of_ble_eq_true rfl) d_MM_init_98 (fun q98 H34 hP34 hD34 hS34 => ?_)
  clear hP33 hD33 hS33
  refine lv_dup hx hb d_MM_init_101 rfl ?_
  refine zInit hP34 hD34 hS34 hA (va_runIN (As := []) (rest := [.ref q98, .ref h0]) ⟨hx, hb, hml, hown, hg⟩ (c_MN_init l D tA q98 H34.size) ⟨va_cnB 0 hg (zGood k9_4 rfl) rfl rfl rfl (va_Nw.of rfl (hg _ k9_2)) (hg _ k1_15) (by decide +kernel) ⟨(Nat.le_of_ble_eq_true rfl), (Nat.le_of_ble_eq_true rfl)⟩, rfl, hg _ k9_3⟩ (zPreI hh hK hP34 hD34) rfl rfl hl.1 rfl (lv_room (Nat.le_of_ble_eq_true rfl)) d_MM_init_102 ⟨(Nat.le_of_ble_eq_true rfl), (Nat.le_of_ble_eq_true rfl)⟩) (fun u98 H35 locs35 _ hP35 hD35 hS35 => ?_)
  clear hP34 hD34 hS34
  refine zCons (fun T102 e102 hP36 hD36 => ?_) hP35 hD35
  clear hP35 hD35
  refine va_putF (D := D) (ci := 13) (v := .ref q98) (ty := .object "ChanceArenaModel$Numbers") (C := R_MM) (T := T_MM) (N := 49) hx hb hg i_MM t_MM o_MM n_MM hown hK hP36 hD36 hS35 0 rfl rfl 13 (by decide) (hg _ k10_94) (fun _ h9 => h9) rfl hnm rfl (by decide +kernel) rfl rfl (Nat.le_of_ble_eq_true rfl) d_MM_init_105 (fun H37 locs37 hP37 hD37 hS37 => ?_)
  clear hP36 hD36 hS35
  replace hP37 : va_P D vwCl ((h0, .inr (13, [.int 0, .ref q5, .ref q16, .ref q27, .ref q38, .ref q49, .ref q60, .int 0, .int 0, .ref q71, .ref q82, .int 0, .int (-1), .ref q98, .null, .null, .int 0, .int 0, .null, .null, .null, .null, .null, .int 0, .null, .null, .null, .null, .null, .int 0, .int 0, .null, .null, .null, .null, .null, .null, .null, .null, .null, .int 0, .null, .null, .null, .null, .null, .null, .null, .int 0])) :: T102) _ := hP37
  replace hD37 : va_D A ((h0, .inr (13, [.int 0, .ref q5, .ref q16, .ref q27, .ref q38, .ref q49, .ref q60, .int 0, .int 0, .ref q71, .ref q82, .int 0, .int (-1), .ref q98, .null, .null, .int 0, .int 0, .null, .null, .null, .null, .null, .int 0, .null, .null, .null, .null, .null, .int 0, .int 0, .null, .null, .null, .null, .null, .null, .null, .null, .null, .int 0, .null, .null, .null, .null, .null, .null, .null, .int 0])) :: T102) := hD37
  refine lv_aload_n hx hb d_MM_init_108 rfl (lv_at hl 0 rfl) ?_
  refine va_new (ci := 14) (fs := [.null, .int 0]) (C := R_MN) (T := T_MN) (N := 2) hx hb hg i_MN t_MN o_MN hown (hg _ k9_0) (hg _ k9_1) (hg _ k1_15) hK hP37 hD37 hS37 hA rfl f_MN (Nat.le_of_ble_eq_true rfl) (Nat.le_of_ble_eq_true rfl) d_MM_init_109 (fun q109 H38 hP38 hD38 hS38 => ?_)
  clear hP37 hD37 hS37
  refine lv_dup hx hb d_MM_init_112 rfl ?_
  refine zInit hP38 hD38 hS38 hA (va_runIN (As := []) (rest := [.ref q109, .ref h0]) ⟨hx, hb, hml, hown, hg⟩ (c_MN_init l D tA q109 H38.size) ⟨va_cnB 0 hg (zGood k9_4 rfl) rfl rfl rfl (va_Nw.of rfl (hg _ k9_2)) (hg _ k1_15) (by decide +kernel) ⟨(Nat.le_of_ble_eq_true rfl), (Nat.le_of_ble_eq_true rfl)⟩, rfl, hg _ k9_3⟩ (zPreI hh hK hP38 hD38) rfl rfl hl.1 rfl (lv_room (Nat.le_of_ble_eq_true rfl)) d_MM_init_113 ⟨(Nat.le_of_ble_eq_true rfl), (Nat.le_of_ble_eq_true rfl)⟩) (fun u109 H39 locs39 _ hP39 hD39 hS39 => ?_)
  clear hP38 hD38 hS38
  refine zCons (fun T113 e113 hP40 hD40 => ?_) hP39 hD39
  clear hP39 hD39
  refine va_putF (D := D) (ci := 13) (v := .ref q109) (ty := .object "ChanceArenaModel$Numbers") (C := R_MM) (T := T_MM) (N := 49) hx hb hg i_MM t_MM o_MM n_MM hown hK hP40 hD40 hS39 0 rfl rfl 14 (by decide) (hg _ k10_95) (fun _ h9 => h9) rfl hnm rfl (by decide +kernel) rfl rfl (Nat.le_of_ble_eq_true rfl) d_MM_init_116 (fun H41 locs41 hP41 hD41 hS41 => ?_)
  clear hP40 hD40 hS39
  replace hP41 : va_P D vwCl ((h0, .inr (13, [.int 0, .ref q5, .ref q16, .ref q27, .ref q38, .ref q49, .ref q60, .int 0, .int 0, .ref q71, .ref q82, .int 0, .int (-1), .ref q98, .ref q109, .null, .int 0, .int 0, .null, .null, .null, .null, .null, .int 0, .null, .null, .null, .null, .null, .int 0, .int 0, .null, .null, .null, .null, .null, .null, .null, .null, .null, .int 0, .null, .null, .null, .null, .null, .null, .null, .int 0])) :: T113) _ := hP41
  replace hD41 : va_D A ((h0, .inr (13, [.int 0, .ref q5, .ref q16, .ref q27, .ref q38, .ref q49, .ref q60, .int 0, .int 0, .ref q71, .ref q82, .int 0, .int (-1), .ref q98, .ref q109, .null, .int 0, .int 0, .null, .null, .null, .null, .null, .int 0, .null, .null, .null, .null, .null, .int 0, .int 0, .null, .null, .null, .null, .null, .null, .null, .null, .null, .int 0, .null, .null, .null, .null, .null, .null, .null, .int 0])) :: T113) := hD41
  refine lv_aload_n hx hb d_MM_init_119 rfl (lv_at hl 0 rfl) ?_
  refine va_new (ci := 14) (fs := [.null, .int 0]) (C := R_MN) (T := T_MN) (N := 2) hx hb hg i_MN t_MN o_MN hown (hg _ k9_0) (hg _ k9_1) (hg _ k1_15) hK hP41 hD41 hS41 hA rfl f_MN (Nat.le_of_ble_eq_true rfl) (Nat.le_of_ble_eq_true rfl) d_MM_init_120 (fun q120 H42 hP42 hD42 hS42 => ?_)
  clear hP41 hD41 hS41
  refine lv_dup hx hb d_MM_init_123 rfl ?_
  refine zInit hP42 hD42 hS42 hA (va_runIN (As := []) (rest := [.ref q120, .ref h0]) ⟨hx, hb, hml, hown, hg⟩ (c_MN_init l D tA q120 H42.size) ⟨va_cnB 0 hg (zGood k9_4 rfl) rfl rfl rfl (va_Nw.of rfl (hg _ k9_2)) (hg _ k1_15) (by decide +kernel) ⟨(Nat.le_of_ble_eq_true rfl), (Nat.le_of_ble_eq_true rfl)⟩, rfl, hg _ k9_3⟩ (zPreI hh hK hP42 hD42) rfl rfl hl.1 rfl (lv_room (Nat.le_of_ble_eq_true rfl)) d_MM_init_124 ⟨(Nat.le_of_ble_eq_true rfl), (Nat.le_of_ble_eq_true rfl)⟩) (fun u120 H43 locs43 _ hP43 hD43 hS43 => ?_)
  clear hP42 hD42 hS42
  refine zCons (fun T124 e124 hP44 hD44 => ?_) hP43 hD43
  clear hP43 hD43
  refine va_putF (D := D) (ci := 13) (v := .ref q120) (ty := .object "ChanceArenaModel$Numbers") (C := R_MM) (T := T_MM) (N := 49) hx hb hg i_MM t_MM o_MM n_MM hown hK hP44 hD44 hS43 0 rfl rfl 15 (by decide) (hg _ k10_96) (fun _ h9 => h9) rfl hnm rfl (by decide +kernel) rfl rfl (Nat.le_of_ble_eq_true rfl) d_MM_init_127 (fun H45 locs45 hP45 hD45 hS45 => ?_)
  clear hP44 hD44 hS43
  replace hP45 : va_P D vwCl ((h0, .inr (13, [.int 0, .ref q5, .ref q16, .ref q27, .ref q38, .ref q49, .ref q60, .int 0, .int 0, .ref q71, .ref q82, .int 0, .int (-1), .ref q98, .ref q109, .ref q120, .int 0, .int 0, .null, .null, .null, .null, .null, .int 0, .null, .null, .null, .null, .null, .int 0, .int 0, .null, .null, .null, .null, .null, .null, .null, .null, .null, .int 0, .null, .null, .null, .null, .null, .null, .null, .int 0])) :: T124) _ := hP45
  replace hD45 : va_D A ((h0, .inr (13, [.int 0, .ref q5, .ref q16, .ref q27, .ref q38, .ref q49, .ref q60, .int 0, .int 0, .ref q71, .ref q82, .int 0, .int (-1), .ref q98, .ref q109, .ref q120, .int 0, .int 0, .null, .null, .null, .null, .null, .int 0, .null, .null, .null, .null, .null, .int 0, .int 0, .null, .null, .null, .null, .null, .null, .null, .null, .null, .int 0, .null, .null, .null, .null, .null, .null, .null, .int 0])) :: T124) := hD45
  refine lv_aload_n hx hb d_MM_init_130 rfl (lv_at hl 0 rfl) ?_
  refine va_new (ci := 14) (fs := [.null, .int 0]) (C := R_MN) (T := T_MN) (N := 2) hx hb hg i_MN t_MN o_MN hown (hg _ k9_0) (hg _ k9_1) (hg _ k1_15) hK hP45 hD45 hS45 hA rfl f_MN (Nat.le_of_ble_eq_true rfl) (Nat.le_of_ble_eq_true rfl) d_MM_init_131 (fun q131 H46 hP46 hD46 hS46 => ?_)
  clear hP45 hD45 hS45
  refine lv_dup hx hb d_MM_init_134 rfl ?_
  refine zInit hP46 hD46 hS46 hA (va_runIN (As := []) (rest := [.ref q131, .ref h0]) ⟨hx, hb, hml, hown, hg⟩ (c_MN_init l D tA q131 H46.size) ⟨va_cnB 0 hg (zGood k9_4 rfl) rfl rfl rfl (va_Nw.of rfl (hg _ k9_2)) (hg _ k1_15) (by decide +kernel) ⟨(Nat.le_of_ble_eq_true rfl), (Nat.le_of_ble_eq_true rfl)⟩, rfl, hg _ k9_3⟩ (zPreI hh hK hP46 hD46) rfl rfl hl.1 rfl (lv_room (Nat.le_of_ble_eq_true rfl)) d_MM_init_135 ⟨(Nat.le_of_ble_eq_true rfl), (Nat.le_of_ble_eq_true rfl)⟩) (fun u131 H47 locs47 _ hP47 hD47 hS47 => ?_)
  clear hP46 hD46 hS46
  refine zCons (fun T135 e135 hP48 hD48 => ?_) hP47 hD47
  clear hP47 hD47
  refine va_putF (D := D) (ci := 13) (v := .ref q131) (ty := .object "ChanceArenaModel$Numbers") (C := R_MM) (T := T_MM) (N := 49) hx hb hg i_MM t_MM o_MM n_MM hown hK hP48 hD48 hS47 0 rfl rfl 18 (by decide) (hg _ k10_99) (fun _ h9 => h9) rfl hnm rfl (by decide +kernel) rfl rfl (Nat.le_of_ble_eq_true rfl) d_MM_init_138 (fun H49 locs49 hP49 hD49 hS49 => ?_)
  clear hP48 hD48 hS47
  replace hP49 : va_P D vwCl ((h0, .inr (13, [.int 0, .ref q5, .ref q16, .ref q27, .ref q38, .ref q49, .ref q60, .int 0, .int 0, .ref q71, .ref q82, .int 0, .int (-1), .ref q98, .ref q109, .ref q120, .int 0, .int 0, .ref q131, .null, .null, .null, .null, .int 0, .null, .null, .null, .null, .null, .int 0, .int 0, .null, .null, .null, .null, .null, .null, .null, .null, .null, .int 0, .null, .null, .null, .null, .null, .null, .null, .int 0])) :: T135) _ := hP49
  replace hD49 : va_D A ((h0, .inr (13, [.int 0, .ref q5, .ref q16, .ref q27, .ref q38, .ref q49, .ref q60, .int 0, .int 0, .ref q71, .ref q82, .int 0, .int (-1), .ref q98, .ref q109, .ref q120, .int 0, .int 0, .ref q131, .null, .null, .null, .null, .int 0, .null, .null, .null, .null, .null, .int 0, .int 0, .null, .null, .null, .null, .null, .null, .null, .null, .null, .int 0, .null, .null, .null, .null, .null, .null, .null, .int 0])) :: T135) := hD49
  refine lv_aload_n hx hb d_MM_init_141 rfl (lv_at hl 0 rfl) ?_
  refine va_new (ci := 14) (fs := [.null, .int 0]) (C := R_MN) (T := T_MN) (N := 2) hx hb hg i_MN t_MN o_MN hown (hg _ k9_0) (hg _ k9_1) (hg _ k1_15) hK hP49 hD49 hS49 hA rfl f_MN (Nat.le_of_ble_eq_true rfl) (Nat.le_of_ble_eq_true rfl) d_MM_init_142 (fun q142 H50 hP50 hD50 hS50 => ?_)
  clear hP49 hD49 hS49
  refine lv_dup hx hb d_MM_init_145 rfl ?_
  refine zInit hP50 hD50 hS50 hA (va_runIN (As := []) (rest := [.ref q142, .ref h0]) ⟨hx, hb, hml, hown, hg⟩ (c_MN_init l D tA q142 H50.size) ⟨va_cnB 0 hg (zGood k9_4 rfl) rfl rfl rfl (va_Nw.of rfl (hg _ k9_2)) (hg _ k1_15) (by decide +kernel) ⟨(Nat.le_of_ble_eq_true rfl), (Nat.le_of_ble_eq_true rfl)⟩, rfl, hg _ k9_3⟩ (zPreI hh hK hP50 hD50) rfl rfl hl.1 rfl (lv_room (Nat.le_of_ble_eq_true rfl)) d_MM_init_146 ⟨(Nat.le_of_ble_eq_true rfl), (Nat.le_of_ble_eq_true rfl)⟩) (fun u142 H51 locs51 _ hP51 hD51 hS51 => ?_)
  clear hP50 hD50 hS50
  refine zCons (fun T146 e146 hP52 hD52 => ?_) hP51 hD51
  clear hP51 hD51
  refine va_putF (D := D) (ci := 13) (v := .ref q142) (ty := .object "ChanceArenaModel$Numbers") (C := R_MM) (T := T_MM) (N := 49) hx hb hg i_MM t_MM o_MM n_MM hown hK hP52 hD52 hS51 0 rfl rfl 19 (by decide) (hg _ k10_100) (fun _ h9 => h9) rfl hnm rfl (by decide +kernel) rfl rfl (Nat.le_of_ble_eq_true rfl) d_MM_init_149 (fun H53 locs53 hP53 hD53 hS53 => ?_)
  clear hP52 hD52 hS51
  replace hP53 : va_P D vwCl ((h0, .inr (13, [.int 0, .ref q5, .ref q16, .ref q27, .ref q38, .ref q49, .ref q60, .int 0, .int 0, .ref q71, .ref q82, .int 0, .int (-1), .ref q98, .ref q109, .ref q120, .int 0, .int 0, .ref q131, .ref q142, .null, .null, .null, .int 0, .null, .null, .null, .null, .null, .int 0, .int 0, .null, .null, .null, .null, .null, .null, .null, .null, .null, .int 0, .null, .null, .null, .null, .null, .null, .null, .int 0])) :: T146) _ := hP53
  replace hD53 : va_D A ((h0, .inr (13, [.int 0, .ref q5, .ref q16, .ref q27, .ref q38, .ref q49, .ref q60, .int 0, .int 0, .ref q71, .ref q82, .int 0, .int (-1), .ref q98, .ref q109, .ref q120, .int 0, .int 0, .ref q131, .ref q142, .null, .null, .null, .int 0, .null, .null, .null, .null, .null, .int 0, .int 0, .null, .null, .null, .null, .null, .null, .null, .null, .null, .int 0, .null, .null, .null, .null, .null, .null, .null, .int 0])) :: T146) := hD53
  refine lv_aload_n hx hb d_MM_init_152 rfl (lv_at hl 0 rfl) ?_
  refine va_new (ci := 14) (fs := [.null, .int 0]) (C := R_MN) (T := T_MN) (N := 2) hx hb hg i_MN t_MN o_MN hown (hg _ k9_0) (hg _ k9_1) (hg _ k1_15) hK hP53 hD53 hS53 hA rfl f_MN (Nat.le_of_ble_eq_true rfl) (Nat.le_of_ble_eq_true rfl) d_MM_init_153 (fun q153 H54 hP54 hD54 hS54 => ?_)
  clear hP53 hD53 hS53
  refine lv_dup hx hb d_MM_init_156 rfl ?_
  refine zInit hP54 hD54 hS54 hA (va_runIN (As := []) (rest := [.ref q153, .ref h0]) ⟨hx, hb, hml, hown, hg⟩ (c_MN_init l D tA q153 H54.size) ⟨va_cnB 0 hg (zGood k9_4 rfl) rfl rfl rfl (va_Nw.of rfl (hg _ k9_2)) (hg _ k1_15) (by decide +kernel) ⟨(Nat.le_of_ble_eq_true rfl), (Nat.le_of_ble_eq_true rfl)⟩, rfl, hg _ k9_3⟩ (zPreI hh hK hP54 hD54) rfl rfl hl.1 rfl (lv_room (Nat.le_of_ble_eq_true rfl)) d_MM_init_157 ⟨(Nat.le_of_ble_eq_true rfl), (Nat.le_of_ble_eq_true rfl)⟩) (fun u153 H55 locs55 _ hP55 hD55 hS55 => ?_)
  clear hP54 hD54 hS54
  refine zCons (fun T157 e157 hP56 hD56 => ?_) hP55 hD55
  clear hP55 hD55
  refine va_putF (D := D) (ci := 13) (v := .ref q153) (ty := .object "ChanceArenaModel$Numbers") (C := R_MM) (T := T_MM) (N := 49) hx hb hg i_MM t_MM o_MM n_MM hown hK hP56 hD56 hS55 0 rfl rfl 20 (by decide) (hg _ k10_101) (fun _ h9 => h9) rfl hnm rfl (by decide +kernel) rfl rfl (Nat.le_of_ble_eq_true rfl) d_MM_init_160 (fun H57 locs57 hP57 hD57 hS57 => ?_)
  clear hP56 hD56 hS55
  replace hP57 : va_P D vwCl ((h0, .inr (13, [.int 0, .ref q5, .ref q16, .ref q27, .ref q38, .ref q49, .ref q60, .int 0, .int 0, .ref q71, .ref q82, .int 0, .int (-1), .ref q98, .ref q109, .ref q120, .int 0, .int 0, .ref q131, .ref q142, .ref q153, .null, .null, .int 0, .null, .null, .null, .null, .null, .int 0, .int 0, .null, .null, .null, .null, .null, .null, .null, .null, .null, .int 0, .null, .null, .null, .null, .null, .null, .null, .int 0])) :: T157) _ := hP57
  replace hD57 : va_D A ((h0, .inr (13, [.int 0, .ref q5, .ref q16, .ref q27, .ref q38, .ref q49, .ref q60, .int 0, .int 0, .ref q71, .ref q82, .int 0, .int (-1), .ref q98, .ref q109, .ref q120, .int 0, .int 0, .ref q131, .ref q142, .ref q153, .null, .null, .int 0, .null, .null, .null, .null, .null, .int 0, .int 0, .null, .null, .null, .null, .null, .null, .null, .null, .null, .int 0, .null, .null, .null, .null, .null, .null, .null, .int 0])) :: T157) := hD57
  refine lv_aload_n hx hb d_MM_init_163 rfl (lv_at hl 0 rfl) ?_
  refine lv_sipush (v := 16400) hx hb d_MM_init_164 (by decide) ?_
  refine zNewa (atype := .long) (ty := .long) (a0 := (16400, .inr (.inl (fun _ => 0)))) (N' := 16400) hx hb rfl (hg _ k3_35) hK hP57 hD57 hS57 hA 3 rfl (fun _ h => by cases h) (fun _ => rfl) (by decide) (by decide) (by decide) (Nat.le_of_ble_eq_true rfl) (Nat.le_of_ble_eq_true rfl) d_MM_init_167 (fun q167 H58 hP58 hD58 hS58 => ?_)
  clear hP57 hD57 hS57
  refine zCons (fun T167 e167 hP59 hD59 => ?_) hP58 hD58
  clear hP58 hD58
  refine va_putF (D := D) (ci := 13) (v := .ref q167) (ty := .array .long) (C := R_MM) (T := T_MM) (N := 49) hx hb hg i_MM t_MM o_MM n_MM hown hK hP59 hD59 hS58 0 rfl rfl 21 (by decide) (hg _ k10_102) (fun _ h9 => h9) rfl hnm rfl (by decide +kernel) rfl rfl (Nat.le_of_ble_eq_true rfl) d_MM_init_169 (fun H60 locs60 hP60 hD60 hS60 => ?_)
  clear hP59 hD59 hS58
  replace hP60 : va_P D vwCl ((h0, .inr (13, [.int 0, .ref q5, .ref q16, .ref q27, .ref q38, .ref q49, .ref q60, .int 0, .int 0, .ref q71, .ref q82, .int 0, .int (-1), .ref q98, .ref q109, .ref q120, .int 0, .int 0, .ref q131, .ref q142, .ref q153, .ref q167, .null, .int 0, .null, .null, .null, .null, .null, .int 0, .int 0, .null, .null, .null, .null, .null, .null, .null, .null, .null, .int 0, .null, .null, .null, .null, .null, .null, .null, .int 0])) :: T167) _ := hP60
  replace hD60 : va_D A ((h0, .inr (13, [.int 0, .ref q5, .ref q16, .ref q27, .ref q38, .ref q49, .ref q60, .int 0, .int 0, .ref q71, .ref q82, .int 0, .int (-1), .ref q98, .ref q109, .ref q120, .int 0, .int 0, .ref q131, .ref q142, .ref q153, .ref q167, .null, .int 0, .null, .null, .null, .null, .null, .int 0, .int 0, .null, .null, .null, .null, .null, .null, .null, .null, .null, .int 0, .null, .null, .null, .null, .null, .null, .null, .int 0])) :: T167) := hD60
  refine lv_aload_n hx hb d_MM_init_172 rfl (lv_at hl 0 rfl) ?_
  refine lv_sipush (v := 16400) hx hb d_MM_init_173 (by decide) ?_
  refine zNewa (atype := .long) (ty := .long) (a0 := (16400, .inr (.inl (fun _ => 0)))) (N' := 16400) hx hb rfl (hg _ k3_35) hK hP60 hD60 hS60 hA 3 rfl (fun _ h => by cases h) (fun _ => rfl) (by decide) (by decide) (by decide) (Nat.le_of_ble_eq_true rfl) (Nat.le_of_ble_eq_true rfl) d_MM_init_176 (fun q176 H61 hP61 hD61 hS61 => ?_)
  clear hP60 hD60 hS60
  refine zCons (fun T176 e176 hP62 hD62 => ?_) hP61 hD61
  clear hP61 hD61
  refine va_putF (D := D) (ci := 13) (v := .ref q176) (ty := .array .long) (C := R_MM) (T := T_MM) (N := 49) hx hb hg i_MM t_MM o_MM n_MM hown hK hP62 hD62 hS61 0 rfl rfl 22 (by decide) (hg _ k10_103) (fun _ h9 => h9) rfl hnm rfl (by decide +kernel) rfl rfl (Nat.le_of_ble_eq_true rfl) d_MM_init_178 (fun H63 locs63 hP63 hD63 hS63 => ?_)
  clear hP62 hD62 hS61
  replace hP63 : va_P D vwCl ((h0, .inr (13, [.int 0, .ref q5, .ref q16, .ref q27, .ref q38, .ref q49, .ref q60, .int 0, .int 0, .ref q71, .ref q82, .int 0, .int (-1), .ref q98, .ref q109, .ref q120, .int 0, .int 0, .ref q131, .ref q142, .ref q153, .ref q167, .ref q176, .int 0, .null, .null, .null, .null, .null, .int 0, .int 0, .null, .null, .null, .null, .null, .null, .null, .null, .null, .int 0, .null, .null, .null, .null, .null, .null, .null, .int 0])) :: T176) _ := hP63
  replace hD63 : va_D A ((h0, .inr (13, [.int 0, .ref q5, .ref q16, .ref q27, .ref q38, .ref q49, .ref q60, .int 0, .int 0, .ref q71, .ref q82, .int 0, .int (-1), .ref q98, .ref q109, .ref q120, .int 0, .int 0, .ref q131, .ref q142, .ref q153, .ref q167, .ref q176, .int 0, .null, .null, .null, .null, .null, .int 0, .int 0, .null, .null, .null, .null, .null, .null, .null, .null, .null, .int 0, .null, .null, .null, .null, .null, .null, .null, .int 0])) :: T176) := hD63
  refine lv_aload_n hx hb d_MM_init_181 rfl (lv_at hl 0 rfl) ?_
  refine va_new (ci := 14) (fs := [.null, .int 0]) (C := R_MN) (T := T_MN) (N := 2) hx hb hg i_MN t_MN o_MN hown (hg _ k9_0) (hg _ k9_1) (hg _ k1_15) hK hP63 hD63 hS63 hA rfl f_MN (Nat.le_of_ble_eq_true rfl) (Nat.le_of_ble_eq_true rfl) d_MM_init_182 (fun q182 H64 hP64 hD64 hS64 => ?_)
  clear hP63 hD63 hS63
  refine lv_dup hx hb d_MM_init_185 rfl ?_
  refine zInit hP64 hD64 hS64 hA (va_runIN (As := []) (rest := [.ref q182, .ref h0]) ⟨hx, hb, hml, hown, hg⟩ (c_MN_init l D tA q182 H64.size) ⟨va_cnB 0 hg (zGood k9_4 rfl) rfl rfl rfl (va_Nw.of rfl (hg _ k9_2)) (hg _ k1_15) (by decide +kernel) ⟨(Nat.le_of_ble_eq_true rfl), (Nat.le_of_ble_eq_true rfl)⟩, rfl, hg _ k9_3⟩ (zPreI hh hK hP64 hD64) rfl rfl hl.1 rfl (lv_room (Nat.le_of_ble_eq_true rfl)) d_MM_init_186 ⟨(Nat.le_of_ble_eq_true rfl), (Nat.le_of_ble_eq_true rfl)⟩) (fun u182 H65 locs65 _ hP65 hD65 hS65 => ?_)
  clear hP64 hD64 hS64
  refine zCons (fun T186 e186 hP66 hD66 => ?_) hP65 hD65
  clear hP65 hD65
  refine va_putF (D := D) (ci := 13) (v := .ref q182) (ty := .object "ChanceArenaModel$Numbers") (C := R_MM) (T := T_MM) (N := 49) hx hb hg i_MM t_MM o_MM n_MM hown hK hP66 hD66 hS65 0 rfl rfl 24 (by decide) (hg _ k10_105) (fun _ h9 => h9) rfl hnm rfl (by decide +kernel) rfl rfl (Nat.le_of_ble_eq_true rfl) d_MM_init_189 (fun H67 locs67 hP67 hD67 hS67 => ?_)
  clear hP66 hD66 hS65
  replace hP67 : va_P D vwCl ((h0, .inr (13, [.int 0, .ref q5, .ref q16, .ref q27, .ref q38, .ref q49, .ref q60, .int 0, .int 0, .ref q71, .ref q82, .int 0, .int (-1), .ref q98, .ref q109, .ref q120, .int 0, .int 0, .ref q131, .ref q142, .ref q153, .ref q167, .ref q176, .int 0, .ref q182, .null, .null, .null, .null, .int 0, .int 0, .null, .null, .null, .null, .null, .null, .null, .null, .null, .int 0, .null, .null, .null, .null, .null, .null, .null, .int 0])) :: T186) _ := hP67
  replace hD67 : va_D A ((h0, .inr (13, [.int 0, .ref q5, .ref q16, .ref q27, .ref q38, .ref q49, .ref q60, .int 0, .int 0, .ref q71, .ref q82, .int 0, .int (-1), .ref q98, .ref q109, .ref q120, .int 0, .int 0, .ref q131, .ref q142, .ref q153, .ref q167, .ref q176, .int 0, .ref q182, .null, .null, .null, .null, .int 0, .int 0, .null, .null, .null, .null, .null, .null, .null, .null, .null, .int 0, .null, .null, .null, .null, .null, .null, .null, .int 0])) :: T186) := hD67
  refine lv_aload_n hx hb d_MM_init_192 rfl (lv_at hl 0 rfl) ?_
  refine lv_bipush (v := 12) hx hb d_MM_init_193 (by decide) ?_
  refine zNewa (atype := .int) (ty := .int) (a0 := (12, .inl (fun _ => 0))) (N' := 12) hx hb rfl (hg _ k1_82) hK hP67 hD67 hS67 hA 0 rfl (fun _ h => by cases h) (fun _ => rfl) (by decide) (by decide) (by decide) (Nat.le_of_ble_eq_true rfl) (Nat.le_of_ble_eq_true rfl) d_MM_init_195 (fun q195 H68 hP68 hD68 hS68 => ?_)
  clear hP67 hD67 hS67
  refine zCons (fun T195 e195 hP69 hD69 => ?_) hP68 hD68
  clear hP68 hD68
  refine va_putF (D := D) (ci := 13) (v := .ref q195) (ty := .array .int) (C := R_MM) (T := T_MM) (N := 49) hx hb hg i_MM t_MM o_MM n_MM hown hK hP69 hD69 hS68 0 rfl rfl 25 (by decide) (hg _ k10_106) (fun _ h9 => h9) rfl hnm rfl (by decide +kernel) rfl rfl (Nat.le_of_ble_eq_true rfl) d_MM_init_197 (fun H70 locs70 hP70 hD70 hS70 => ?_)
  clear hP69 hD69 hS68
  replace hP70 : va_P D vwCl ((h0, .inr (13, [.int 0, .ref q5, .ref q16, .ref q27, .ref q38, .ref q49, .ref q60, .int 0, .int 0, .ref q71, .ref q82, .int 0, .int (-1), .ref q98, .ref q109, .ref q120, .int 0, .int 0, .ref q131, .ref q142, .ref q153, .ref q167, .ref q176, .int 0, .ref q182, .ref q195, .null, .null, .null, .int 0, .int 0, .null, .null, .null, .null, .null, .null, .null, .null, .null, .int 0, .null, .null, .null, .null, .null, .null, .null, .int 0])) :: T195) _ := hP70
  replace hD70 : va_D A ((h0, .inr (13, [.int 0, .ref q5, .ref q16, .ref q27, .ref q38, .ref q49, .ref q60, .int 0, .int 0, .ref q71, .ref q82, .int 0, .int (-1), .ref q98, .ref q109, .ref q120, .int 0, .int 0, .ref q131, .ref q142, .ref q153, .ref q167, .ref q176, .int 0, .ref q182, .ref q195, .null, .null, .null, .int 0, .int 0, .null, .null, .null, .null, .null, .null, .null, .null, .null, .int 0, .null, .null, .null, .null, .null, .null, .null, .int 0])) :: T195) := hD70
  refine lv_aload_n hx hb d_MM_init_200 rfl (lv_at hl 0 rfl) ?_
  refine lv_bipush (v := 60) hx hb d_MM_init_201 (by decide) ?_
  refine zNewa (atype := .boolean) (ty := .boolean) (a0 := (60, .inl (fun _ => 0))) (N' := 60) hx hb rfl (hg _ k1_162) hK hP70 hD70 hS70 hA 1 rfl (fun _ h => by cases h) (fun _ => rfl) (by decide) (by decide) (by decide) (Nat.le_of_ble_eq_true rfl) (Nat.le_of_ble_eq_true rfl) d_MM_init_203 (fun q203 H71 hP71 hD71 hS71 => ?_)
  clear hP70 hD70 hS70
  refine zCons (fun T203 e203 hP72 hD72 => ?_) hP71 hD71
  clear hP71 hD71
  refine va_putF (D := D) (ci := 13) (v := .ref q203) (ty := .array .boolean) (C := R_MM) (T := T_MM) (N := 49) hx hb hg i_MM t_MM o_MM n_MM hown hK hP72 hD72 hS71 0 rfl rfl 26 (by decide) (hg _ k10_107) (fun _ h9 => h9) rfl hnm rfl (by decide +kernel) rfl rfl (Nat.le_of_ble_eq_true rfl) d_MM_init_205 (fun H73 locs73 hP73 hD73 hS73 => ?_)
  clear hP72 hD72 hS71
  replace hP73 : va_P D vwCl ((h0, .inr (13, [.int 0, .ref q5, .ref q16, .ref q27, .ref q38, .ref q49, .ref q60, .int 0, .int 0, .ref q71, .ref q82, .int 0, .int (-1), .ref q98, .ref q109, .ref q120, .int 0, .int 0, .ref q131, .ref q142, .ref q153, .ref q167, .ref q176, .int 0, .ref q182, .ref q195, .ref q203, .null, .null, .int 0, .int 0, .null, .null, .null, .null, .null, .null, .null, .null, .null, .int 0, .null, .null, .null, .null, .null, .null, .null, .int 0])) :: T203) _ := hP73
  replace hD73 : va_D A ((h0, .inr (13, [.int 0, .ref q5, .ref q16, .ref q27, .ref q38, .ref q49, .ref q60, .int 0, .int 0, .ref q71, .ref q82, .int 0, .int (-1), .ref q98, .ref q109, .ref q120, .int 0, .int 0, .ref q131, .ref q142, .ref q153, .ref q167, .ref q176, .int 0, .ref q182, .ref q195, .ref q203, .null, .null, .int 0, .int 0, .null, .null, .null, .null, .null, .null, .null, .null, .null, .int 0, .null, .null, .null, .null, .null, .null, .null, .int 0])) :: T203) := hD73
  refine lv_aload_n hx hb d_MM_init_208 rfl (lv_at hl 0 rfl) ?_
  refine lv_bipush (v := 60) hx hb d_MM_init_209 (by decide) ?_
  refine zNewa (atype := .long) (ty := .long) (a0 := (60, .inr (.inl (fun _ => 0)))) (N' := 60) hx hb rfl (hg _ k3_35) hK hP73 hD73 hS73 hA 3 rfl (fun _ h => by cases h) (fun _ => rfl) (by decide) (by decide) (by decide) (Nat.le_of_ble_eq_true rfl) (Nat.le_of_ble_eq_true rfl) d_MM_init_211 (fun q211 H74 hP74 hD74 hS74 => ?_)
  clear hP73 hD73 hS73
  refine zCons (fun T211 e211 hP75 hD75 => ?_) hP74 hD74
  clear hP74 hD74
  refine va_putF (D := D) (ci := 13) (v := .ref q211) (ty := .array .long) (C := R_MM) (T := T_MM) (N := 49) hx hb hg i_MM t_MM o_MM n_MM hown hK hP75 hD75 hS74 0 rfl rfl 27 (by decide) (hg _ k10_108) (fun _ h9 => h9) rfl hnm rfl (by decide +kernel) rfl rfl (Nat.le_of_ble_eq_true rfl) d_MM_init_213 (fun H76 locs76 hP76 hD76 hS76 => ?_)
  clear hP75 hD75 hS74
  replace hP76 : va_P D vwCl ((h0, .inr (13, [.int 0, .ref q5, .ref q16, .ref q27, .ref q38, .ref q49, .ref q60, .int 0, .int 0, .ref q71, .ref q82, .int 0, .int (-1), .ref q98, .ref q109, .ref q120, .int 0, .int 0, .ref q131, .ref q142, .ref q153, .ref q167, .ref q176, .int 0, .ref q182, .ref q195, .ref q203, .ref q211, .null, .int 0, .int 0, .null, .null, .null, .null, .null, .null, .null, .null, .null, .int 0, .null, .null, .null, .null, .null, .null, .null, .int 0])) :: T211) _ := hP76
  replace hD76 : va_D A ((h0, .inr (13, [.int 0, .ref q5, .ref q16, .ref q27, .ref q38, .ref q49, .ref q60, .int 0, .int 0, .ref q71, .ref q82, .int 0, .int (-1), .ref q98, .ref q109, .ref q120, .int 0, .int 0, .ref q131, .ref q142, .ref q153, .ref q167, .ref q176, .int 0, .ref q182, .ref q195, .ref q203, .ref q211, .null, .int 0, .int 0, .null, .null, .null, .null, .null, .null, .null, .null, .null, .int 0, .null, .null, .null, .null, .null, .null, .null, .int 0])) :: T211) := hD76
  refine lv_aload_n hx hb d_MM_init_216 rfl (lv_at hl 0 rfl) ?_
  refine lv_bipush (v := 60) hx hb d_MM_init_217 (by decide) ?_
  refine zNewa (atype := .long) (ty := .long) (a0 := (60, .inr (.inl (fun _ => 0)))) (N' := 60) hx hb rfl (hg _ k3_35) hK hP76 hD76 hS76 hA 3 rfl (fun _ h => by cases h) (fun _ => rfl) (by decide) (by decide) (by decide) (Nat.le_of_ble_eq_true rfl) (Nat.le_of_ble_eq_true rfl) d_MM_init_219 (fun q219 H77 hP77 hD77 hS77 => ?_)
  clear hP76 hD76 hS76
  refine zCons (fun T219 e219 hP78 hD78 => ?_) hP77 hD77
  clear hP77 hD77
  refine va_putF (D := D) (ci := 13) (v := .ref q219) (ty := .array .long) (C := R_MM) (T := T_MM) (N := 49) hx hb hg i_MM t_MM o_MM n_MM hown hK hP78 hD78 hS77 0 rfl rfl 28 (by decide) (hg _ k10_109) (fun _ h9 => h9) rfl hnm rfl (by decide +kernel) rfl rfl (Nat.le_of_ble_eq_true rfl) d_MM_init_221 (fun H79 locs79 hP79 hD79 hS79 => ?_)
  clear hP78 hD78 hS77
  replace hP79 : va_P D vwCl ((h0, .inr (13, [.int 0, .ref q5, .ref q16, .ref q27, .ref q38, .ref q49, .ref q60, .int 0, .int 0, .ref q71, .ref q82, .int 0, .int (-1), .ref q98, .ref q109, .ref q120, .int 0, .int 0, .ref q131, .ref q142, .ref q153, .ref q167, .ref q176, .int 0, .ref q182, .ref q195, .ref q203, .ref q211, .ref q219, .int 0, .int 0, .null, .null, .null, .null, .null, .null, .null, .null, .null, .int 0, .null, .null, .null, .null, .null, .null, .null, .int 0])) :: T219) _ := hP79
  replace hD79 : va_D A ((h0, .inr (13, [.int 0, .ref q5, .ref q16, .ref q27, .ref q38, .ref q49, .ref q60, .int 0, .int 0, .ref q71, .ref q82, .int 0, .int (-1), .ref q98, .ref q109, .ref q120, .int 0, .int 0, .ref q131, .ref q142, .ref q153, .ref q167, .ref q176, .int 0, .ref q182, .ref q195, .ref q203, .ref q211, .ref q219, .int 0, .int 0, .null, .null, .null, .null, .null, .null, .null, .null, .null, .int 0, .null, .null, .null, .null, .null, .null, .null, .int 0])) :: T219) := hD79
  refine lv_aload_n hx hb d_MM_init_224 rfl (lv_at hl 0 rfl) ?_
  refine lv_iconst (v := -1) hx hb d_MM_init_225 (by decide) ?_
  refine va_put (D := D) (ci := 13) (v := .int (-1)) (ty := .int) (C := R_MM) (T := T_MM) (N := 49) hx hb hg i_MM t_MM o_MM n_MM hown hK hP79 hD79 hS79 0 rfl rfl 30 (by decide) (hg _ k10_111) (fun _ h9 => h9) rfl (by decide +kernel) rfl rfl (Nat.le_of_ble_eq_true rfl) d_MM_init_226 (fun H80 locs80 hP80 hD80 hS80 => ?_)
  clear hP79 hD79 hS79
  replace hP80 : va_P D vwCl ((h0, .inr (13, [.int 0, .ref q5, .ref q16, .ref q27, .ref q38, .ref q49, .ref q60, .int 0, .int 0, .ref q71, .ref q82, .int 0, .int (-1), .ref q98, .ref q109, .ref q120, .int 0, .int 0, .ref q131, .ref q142, .ref q153, .ref q167, .ref q176, .int 0, .ref q182, .ref q195, .ref q203, .ref q211, .ref q219, .int 0, .int (-1), .null, .null, .null, .null, .null, .null, .null, .null, .null, .int 0, .null, .null, .null, .null, .null, .null, .null, .int 0])) :: T219) _ := hP80
  replace hD80 : va_D A ((h0, .inr (13, [.int 0, .ref q5, .ref q16, .ref q27, .ref q38, .ref q49, .ref q60, .int 0, .int 0, .ref q71, .ref q82, .int 0, .int (-1), .ref q98, .ref q109, .ref q120, .int 0, .int 0, .ref q131, .ref q142, .ref q153, .ref q167, .ref q176, .int 0, .ref q182, .ref q195, .ref q203, .ref q211, .ref q219, .int 0, .int (-1), .null, .null, .null, .null, .null, .null, .null, .null, .null, .int 0, .null, .null, .null, .null, .null, .null, .null, .int 0])) :: T219) := hD80
  refine lv_aload_n hx hb d_MM_init_229 rfl (lv_at hl 0 rfl) ?_
  refine lv_sipush (v := 6144) hx hb d_MM_init_230 (by decide) ?_
  refine zNewa (atype := .int) (ty := .int) (a0 := (6144, .inl (fun _ => 0))) (N' := 6144) hx hb rfl (hg _ k1_82) hK hP80 hD80 hS80 hA 0 rfl (fun _ h => by cases h) (fun _ => rfl) (by decide) (by decide) (by decide) (Nat.le_of_ble_eq_true rfl) (Nat.le_of_ble_eq_true rfl) d_MM_init_233 (fun q233 H81 hP81 hD81 hS81 => ?_)
  clear hP80 hD80 hS80
  refine zCons (fun T233 e233 hP82 hD82 => ?_) hP81 hD81
  clear hP81 hD81
  refine va_putF (D := D) (ci := 13) (v := .ref q233) (ty := .array .int) (C := R_MM) (T := T_MM) (N := 49) hx hb hg i_MM t_MM o_MM n_MM hown hK hP82 hD82 hS81 0 rfl rfl 31 (by decide) (hg _ k10_112) (fun _ h9 => h9) rfl hnm rfl (by decide +kernel) rfl rfl (Nat.le_of_ble_eq_true rfl) d_MM_init_235 (fun H83 locs83 hP83 hD83 hS83 => ?_)
  clear hP82 hD82 hS81
  replace hP83 : va_P D vwCl ((h0, .inr (13, [.int 0, .ref q5, .ref q16, .ref q27, .ref q38, .ref q49, .ref q60, .int 0, .int 0, .ref q71, .ref q82, .int 0, .int (-1), .ref q98, .ref q109, .ref q120, .int 0, .int 0, .ref q131, .ref q142, .ref q153, .ref q167, .ref q176, .int 0, .ref q182, .ref q195, .ref q203, .ref q211, .ref q219, .int 0, .int (-1), .ref q233, .null, .null, .null, .null, .null, .null, .null, .null, .int 0, .null, .null, .null, .null, .null, .null, .null, .int 0])) :: T233) _ := hP83
  replace hD83 : va_D A ((h0, .inr (13, [.int 0, .ref q5, .ref q16, .ref q27, .ref q38, .ref q49, .ref q60, .int 0, .int 0, .ref q71, .ref q82, .int 0, .int (-1), .ref q98, .ref q109, .ref q120, .int 0, .int 0, .ref q131, .ref q142, .ref q153, .ref q167, .ref q176, .int 0, .ref q182, .ref q195, .ref q203, .ref q211, .ref q219, .int 0, .int (-1), .ref q233, .null, .null, .null, .null, .null, .null, .null, .null, .int 0, .null, .null, .null, .null, .null, .null, .null, .int 0])) :: T233) := hD83
  refine lv_aload_n hx hb d_MM_init_238 rfl (lv_at hl 0 rfl) ?_
  refine lv_sipush (v := 512) hx hb d_MM_init_239 (by decide) ?_
  refine zNewa (atype := .int) (ty := .int) (a0 := (512, .inl (fun _ => 0))) (N' := 512) hx hb rfl (hg _ k1_82) hK hP83 hD83 hS83 hA 0 rfl (fun _ h => by cases h) (fun _ => rfl) (by decide) (by decide) (by decide) (Nat.le_of_ble_eq_true rfl) (Nat.le_of_ble_eq_true rfl) d_MM_init_242 (fun q242 H84 hP84 hD84 hS84 => ?_)
  clear hP83 hD83 hS83
  refine zCons (fun T242 e242 hP85 hD85 => ?_) hP84 hD84
  clear hP84 hD84
  refine va_putF (D := D) (ci := 13) (v := .ref q242) (ty := .array .int) (C := R_MM) (T := T_MM) (N := 49) hx hb hg i_MM t_MM o_MM n_MM hown hK hP85 hD85 hS84 0 rfl rfl 32 (by decide) (hg _ k10_113) (fun _ h9 => h9) rfl hnm rfl (by decide +kernel) rfl rfl (Nat.le_of_ble_eq_true rfl) d_MM_init_244 (fun H86 locs86 hP86 hD86 hS86 => ?_)
  clear hP85 hD85 hS84
  replace hP86 : va_P D vwCl ((h0, .inr (13, [.int 0, .ref q5, .ref q16, .ref q27, .ref q38, .ref q49, .ref q60, .int 0, .int 0, .ref q71, .ref q82, .int 0, .int (-1), .ref q98, .ref q109, .ref q120, .int 0, .int 0, .ref q131, .ref q142, .ref q153, .ref q167, .ref q176, .int 0, .ref q182, .ref q195, .ref q203, .ref q211, .ref q219, .int 0, .int (-1), .ref q233, .ref q242, .null, .null, .null, .null, .null, .null, .null, .int 0, .null, .null, .null, .null, .null, .null, .null, .int 0])) :: T242) _ := hP86
  replace hD86 : va_D A ((h0, .inr (13, [.int 0, .ref q5, .ref q16, .ref q27, .ref q38, .ref q49, .ref q60, .int 0, .int 0, .ref q71, .ref q82, .int 0, .int (-1), .ref q98, .ref q109, .ref q120, .int 0, .int 0, .ref q131, .ref q142, .ref q153, .ref q167, .ref q176, .int 0, .ref q182, .ref q195, .ref q203, .ref q211, .ref q219, .int 0, .int (-1), .ref q233, .ref q242, .null, .null, .null, .null, .null, .null, .null, .int 0, .null, .null, .null, .null, .null, .null, .null, .int 0])) :: T242) := hD86
  refine lv_aload_n hx hb d_MM_init_247 rfl (lv_at hl 0 rfl) ?_
  refine lv_sipush (v := 512) hx hb d_MM_init_248 (by decide) ?_
  refine zNewa (atype := .int) (ty := .int) (a0 := (512, .inl (fun _ => 0))) (N' := 512) hx hb rfl (hg _ k1_82) hK hP86 hD86 hS86 hA 0 rfl (fun _ h => by cases h) (fun _ => rfl) (by decide) (by decide) (by decide) (Nat.le_of_ble_eq_true rfl) (Nat.le_of_ble_eq_true rfl) d_MM_init_251 (fun q251 H87 hP87 hD87 hS87 => ?_)
  clear hP86 hD86 hS86
  refine zCons (fun T251 e251 hP88 hD88 => ?_) hP87 hD87
  clear hP87 hD87
  refine va_putF (D := D) (ci := 13) (v := .ref q251) (ty := .array .int) (C := R_MM) (T := T_MM) (N := 49) hx hb hg i_MM t_MM o_MM n_MM hown hK hP88 hD88 hS87 0 rfl rfl 33 (by decide) (hg _ k10_114) (fun _ h9 => h9) rfl hnm rfl (by decide +kernel) rfl rfl (Nat.le_of_ble_eq_true rfl) d_MM_init_253 (fun H89 locs89 hP89 hD89 hS89 => ?_)
  clear hP88 hD88 hS87
  replace hP89 : va_P D vwCl ((h0, .inr (13, [.int 0, .ref q5, .ref q16, .ref q27, .ref q38, .ref q49, .ref q60, .int 0, .int 0, .ref q71, .ref q82, .int 0, .int (-1), .ref q98, .ref q109, .ref q120, .int 0, .int 0, .ref q131, .ref q142, .ref q153, .ref q167, .ref q176, .int 0, .ref q182, .ref q195, .ref q203, .ref q211, .ref q219, .int 0, .int (-1), .ref q233, .ref q242, .ref q251, .null, .null, .null, .null, .null, .null, .int 0, .null, .null, .null, .null, .null, .null, .null, .int 0])) :: T251) _ := hP89
  replace hD89 : va_D A ((h0, .inr (13, [.int 0, .ref q5, .ref q16, .ref q27, .ref q38, .ref q49, .ref q60, .int 0, .int 0, .ref q71, .ref q82, .int 0, .int (-1), .ref q98, .ref q109, .ref q120, .int 0, .int 0, .ref q131, .ref q142, .ref q153, .ref q167, .ref q176, .int 0, .ref q182, .ref q195, .ref q203, .ref q211, .ref q219, .int 0, .int (-1), .ref q233, .ref q242, .ref q251, .null, .null, .null, .null, .null, .null, .int 0, .null, .null, .null, .null, .null, .null, .null, .int 0])) :: T251) := hD89
  refine lv_aload_n hx hb d_MM_init_256 rfl (lv_at hl 0 rfl) ?_
  refine lv_sipush (v := 512) hx hb d_MM_init_257 (by decide) ?_
  refine zNewa (atype := .int) (ty := .int) (a0 := (512, .inl (fun _ => 0))) (N' := 512) hx hb rfl (hg _ k1_82) hK hP89 hD89 hS89 hA 0 rfl (fun _ h => by cases h) (fun _ => rfl) (by decide) (by decide) (by decide) (Nat.le_of_ble_eq_true rfl) (Nat.le_of_ble_eq_true rfl) d_MM_init_260 (fun q260 H90 hP90 hD90 hS90 => ?_)
  clear hP89 hD89 hS89
  refine zCons (fun T260 e260 hP91 hD91 => ?_) hP90 hD90
  clear hP90 hD90
  refine va_putF (D := D) (ci := 13) (v := .ref q260) (ty := .array .int) (C := R_MM) (T := T_MM) (N := 49) hx hb hg i_MM t_MM o_MM n_MM hown hK hP91 hD91 hS90 0 rfl rfl 34 (by decide) (hg _ k10_115) (fun _ h9 => h9) rfl hnm rfl (by decide +kernel) rfl rfl (Nat.le_of_ble_eq_true rfl) d_MM_init_262 (fun H92 locs92 hP92 hD92 hS92 => ?_)
  clear hP91 hD91 hS90
  replace hP92 : va_P D vwCl ((h0, .inr (13, [.int 0, .ref q5, .ref q16, .ref q27, .ref q38, .ref q49, .ref q60, .int 0, .int 0, .ref q71, .ref q82, .int 0, .int (-1), .ref q98, .ref q109, .ref q120, .int 0, .int 0, .ref q131, .ref q142, .ref q153, .ref q167, .ref q176, .int 0, .ref q182, .ref q195, .ref q203, .ref q211, .ref q219, .int 0, .int (-1), .ref q233, .ref q242, .ref q251, .ref q260, .null, .null, .null, .null, .null, .int 0, .null, .null, .null, .null, .null, .null, .null, .int 0])) :: T260) _ := hP92
  replace hD92 : va_D A ((h0, .inr (13, [.int 0, .ref q5, .ref q16, .ref q27, .ref q38, .ref q49, .ref q60, .int 0, .int 0, .ref q71, .ref q82, .int 0, .int (-1), .ref q98, .ref q109, .ref q120, .int 0, .int 0, .ref q131, .ref q142, .ref q153, .ref q167, .ref q176, .int 0, .ref q182, .ref q195, .ref q203, .ref q211, .ref q219, .int 0, .int (-1), .ref q233, .ref q242, .ref q251, .ref q260, .null, .null, .null, .null, .null, .int 0, .null, .null, .null, .null, .null, .null, .null, .int 0])) :: T260) := hD92
  refine lv_aload_n hx hb d_MM_init_265 rfl (lv_at hl 0 rfl) ?_
  refine va_new (ci := 14) (fs := [.null, .int 0]) (C := R_MN) (T := T_MN) (N := 2) hx hb hg i_MN t_MN o_MN hown (hg _ k9_0) (hg _ k9_1) (hg _ k1_15) hK hP92 hD92 hS92 hA rfl f_MN (Nat.le_of_ble_eq_true rfl) (Nat.le_of_ble_eq_true rfl) d_MM_init_266 (fun q266 H93 hP93 hD93 hS93 => ?_)
  clear hP92 hD92 hS92
  refine lv_dup hx hb d_MM_init_269 rfl ?_
  refine zInit hP93 hD93 hS93 hA (va_runIN (As := []) (rest := [.ref q266, .ref h0]) ⟨hx, hb, hml, hown, hg⟩ (c_MN_init l D tA q266 H93.size) ⟨va_cnB 0 hg (zGood k9_4 rfl) rfl rfl rfl (va_Nw.of rfl (hg _ k9_2)) (hg _ k1_15) (by decide +kernel) ⟨(Nat.le_of_ble_eq_true rfl), (Nat.le_of_ble_eq_true rfl)⟩, rfl, hg _ k9_3⟩ (zPreI hh hK hP93 hD93) rfl rfl hl.1 rfl (lv_room (Nat.le_of_ble_eq_true rfl)) d_MM_init_270 ⟨(Nat.le_of_ble_eq_true rfl), (Nat.le_of_ble_eq_true rfl)⟩) (fun u266 H94 locs94 _ hP94 hD94 hS94 => ?_)
  clear hP93 hD93 hS93
  refine zCons (fun T270 e270 hP95 hD95 => ?_) hP94 hD94
  clear hP94 hD94
  refine va_putF (D := D) (ci := 13) (v := .ref q266) (ty := .object "ChanceArenaModel$Numbers") (C := R_MM) (T := T_MM) (N := 49) hx hb hg i_MM t_MM o_MM n_MM hown hK hP95 hD95 hS94 0 rfl rfl 35 (by decide) (hg _ k10_116) (fun _ h9 => h9) rfl hnm rfl (by decide +kernel) rfl rfl (Nat.le_of_ble_eq_true rfl) d_MM_init_273 (fun H96 locs96 hP96 hD96 hS96 => ?_)
  clear hP95 hD95 hS94
  replace hP96 : va_P D vwCl ((h0, .inr (13, [.int 0, .ref q5, .ref q16, .ref q27, .ref q38, .ref q49, .ref q60, .int 0, .int 0, .ref q71, .ref q82, .int 0, .int (-1), .ref q98, .ref q109, .ref q120, .int 0, .int 0, .ref q131, .ref q142, .ref q153, .ref q167, .ref q176, .int 0, .ref q182, .ref q195, .ref q203, .ref q211, .ref q219, .int 0, .int (-1), .ref q233, .ref q242, .ref q251, .ref q260, .ref q266, .null, .null, .null, .null, .int 0, .null, .null, .null, .null, .null, .null, .null, .int 0])) :: T270) _ := hP96
  replace hD96 : va_D A ((h0, .inr (13, [.int 0, .ref q5, .ref q16, .ref q27, .ref q38, .ref q49, .ref q60, .int 0, .int 0, .ref q71, .ref q82, .int 0, .int (-1), .ref q98, .ref q109, .ref q120, .int 0, .int 0, .ref q131, .ref q142, .ref q153, .ref q167, .ref q176, .int 0, .ref q182, .ref q195, .ref q203, .ref q211, .ref q219, .int 0, .int (-1), .ref q233, .ref q242, .ref q251, .ref q260, .ref q266, .null, .null, .null, .null, .int 0, .null, .null, .null, .null, .null, .null, .null, .int 0])) :: T270) := hD96
  refine lv_aload_n hx hb d_MM_init_276 rfl (lv_at hl 0 rfl) ?_
  refine va_new (ci := 14) (fs := [.null, .int 0]) (C := R_MN) (T := T_MN) (N := 2) hx hb hg i_MN t_MN o_MN hown (hg _ k9_0) (hg _ k9_1) (hg _ k1_15) hK hP96 hD96 hS96 hA rfl f_MN (Nat.le_of_ble_eq_true rfl) (Nat.le_of_ble_eq_true rfl) d_MM_init_277 (fun q277 H97 hP97 hD97 hS97 => ?_)
  clear hP96 hD96 hS96
  refine lv_dup hx hb d_MM_init_280 rfl ?_
  refine zInit hP97 hD97 hS97 hA (va_runIN (As := []) (rest := [.ref q277, .ref h0]) ⟨hx, hb, hml, hown, hg⟩ (c_MN_init l D tA q277 H97.size) ⟨va_cnB 0 hg (zGood k9_4 rfl) rfl rfl rfl (va_Nw.of rfl (hg _ k9_2)) (hg _ k1_15) (by decide +kernel) ⟨(Nat.le_of_ble_eq_true rfl), (Nat.le_of_ble_eq_true rfl)⟩, rfl, hg _ k9_3⟩ (zPreI hh hK hP97 hD97) rfl rfl hl.1 rfl (lv_room (Nat.le_of_ble_eq_true rfl)) d_MM_init_281 ⟨(Nat.le_of_ble_eq_true rfl), (Nat.le_of_ble_eq_true rfl)⟩) (fun u277 H98 locs98 _ hP98 hD98 hS98 => ?_)
  clear hP97 hD97 hS97
  refine zCons (fun T281 e281 hP99 hD99 => ?_) hP98 hD98
  clear hP98 hD98
  refine va_putF (D := D) (ci := 13) (v := .ref q277) (ty := .object "ChanceArenaModel$Numbers") (C := R_MM) (T := T_MM) (N := 49) hx hb hg i_MM t_MM o_MM n_MM hown hK hP99 hD99 hS98 0 rfl rfl 36 (by decide) (hg _ k10_117) (fun _ h9 => h9) rfl hnm rfl (by decide +kernel) rfl rfl (Nat.le_of_ble_eq_true rfl) d_MM_init_284 (fun H100 locs100 hP100 hD100 hS100 => ?_)
  clear hP99 hD99 hS98
  replace hP100 : va_P D vwCl ((h0, .inr (13, [.int 0, .ref q5, .ref q16, .ref q27, .ref q38, .ref q49, .ref q60, .int 0, .int 0, .ref q71, .ref q82, .int 0, .int (-1), .ref q98, .ref q109, .ref q120, .int 0, .int 0, .ref q131, .ref q142, .ref q153, .ref q167, .ref q176, .int 0, .ref q182, .ref q195, .ref q203, .ref q211, .ref q219, .int 0, .int (-1), .ref q233, .ref q242, .ref q251, .ref q260, .ref q266, .ref q277, .null, .null, .null, .int 0, .null, .null, .null, .null, .null, .null, .null, .int 0])) :: T281) _ := hP100
  replace hD100 : va_D A ((h0, .inr (13, [.int 0, .ref q5, .ref q16, .ref q27, .ref q38, .ref q49, .ref q60, .int 0, .int 0, .ref q71, .ref q82, .int 0, .int (-1), .ref q98, .ref q109, .ref q120, .int 0, .int 0, .ref q131, .ref q142, .ref q153, .ref q167, .ref q176, .int 0, .ref q182, .ref q195, .ref q203, .ref q211, .ref q219, .int 0, .int (-1), .ref q233, .ref q242, .ref q251, .ref q260, .ref q266, .ref q277, .null, .null, .null, .int 0, .null, .null, .null, .null, .null, .null, .null, .int 0])) :: T281) := hD100
  refine lv_aload_n hx hb d_MM_init_287 rfl (lv_at hl 0 rfl) ?_
  refine va_new (ci := 14) (fs := [.null, .int 0]) (C := R_MN) (T := T_MN) (N := 2) hx hb hg i_MN t_MN o_MN hown (hg _ k9_0) (hg _ k9_1) (hg _ k1_15) hK hP100 hD100 hS100 hA rfl f_MN (Nat.le_of_ble_eq_true rfl) (Nat.le_of_ble_eq_true rfl) d_MM_init_288 (fun q288 H101 hP101 hD101 hS101 => ?_)
  clear hP100 hD100 hS100
  refine lv_dup hx hb d_MM_init_291 rfl ?_
  refine zInit hP101 hD101 hS101 hA (va_runIN (As := []) (rest := [.ref q288, .ref h0]) ⟨hx, hb, hml, hown, hg⟩ (c_MN_init l D tA q288 H101.size) ⟨va_cnB 0 hg (zGood k9_4 rfl) rfl rfl rfl (va_Nw.of rfl (hg _ k9_2)) (hg _ k1_15) (by decide +kernel) ⟨(Nat.le_of_ble_eq_true rfl), (Nat.le_of_ble_eq_true rfl)⟩, rfl, hg _ k9_3⟩ (zPreI hh hK hP101 hD101) rfl rfl hl.1 rfl (lv_room (Nat.le_of_ble_eq_true rfl)) d_MM_init_292 ⟨(Nat.le_of_ble_eq_true rfl), (Nat.le_of_ble_eq_true rfl)⟩) (fun u288 H102 locs102 _ hP102 hD102 hS102 => ?_)
  clear hP101 hD101 hS101
  refine zCons (fun T292 e292 hP103 hD103 => ?_) hP102 hD102
  clear hP102 hD102
  refine va_putF (D := D) (ci := 13) (v := .ref q288) (ty := .object "ChanceArenaModel$Numbers") (C := R_MM) (T := T_MM) (N := 49) hx hb hg i_MM t_MM o_MM n_MM hown hK hP103 hD103 hS102 0 rfl rfl 37 (by decide) (hg _ k10_118) (fun _ h9 => h9) rfl hnm rfl (by decide +kernel) rfl rfl (Nat.le_of_ble_eq_true rfl) d_MM_init_295 (fun H104 locs104 hP104 hD104 hS104 => ?_)
  clear hP103 hD103 hS102
  replace hP104 : va_P D vwCl ((h0, .inr (13, [.int 0, .ref q5, .ref q16, .ref q27, .ref q38, .ref q49, .ref q60, .int 0, .int 0, .ref q71, .ref q82, .int 0, .int (-1), .ref q98, .ref q109, .ref q120, .int 0, .int 0, .ref q131, .ref q142, .ref q153, .ref q167, .ref q176, .int 0, .ref q182, .ref q195, .ref q203, .ref q211, .ref q219, .int 0, .int (-1), .ref q233, .ref q242, .ref q251, .ref q260, .ref q266, .ref q277, .ref q288, .null, .null, .int 0, .null, .null, .null, .null, .null, .null, .null, .int 0])) :: T292) _ := hP104
  replace hD104 : va_D A ((h0, .inr (13, [.int 0, .ref q5, .ref q16, .ref q27, .ref q38, .ref q49, .ref q60, .int 0, .int 0, .ref q71, .ref q82, .int 0, .int (-1), .ref q98, .ref q109, .ref q120, .int 0, .int 0, .ref q131, .ref q142, .ref q153, .ref q167, .ref q176, .int 0, .ref q182, .ref q195, .ref q203, .ref q211, .ref q219, .int 0, .int (-1), .ref q233, .ref q242, .ref q251, .ref q260, .ref q266, .ref q277, .ref q288, .null, .null, .int 0, .null, .null, .null, .null, .null, .null, .null, .int 0])) :: T292) := hD104
  refine lv_aload_n hx hb d_MM_init_298 rfl (lv_at hl 0 rfl) ?_
  refine va_new (ci := 14) (fs := [.null, .int 0]) (C := R_MN) (T := T_MN) (N := 2) hx hb hg i_MN t_MN o_MN hown (hg _ k9_0) (hg _ k9_1) (hg _ k1_15) hK hP104 hD104 hS104 hA rfl f_MN (Nat.le_of_ble_eq_true rfl) (Nat.le_of_ble_eq_true rfl) d_MM_init_299 (fun q299 H105 hP105 hD105 hS105 => ?_)
  clear hP104 hD104 hS104
  refine lv_dup hx hb d_MM_init_302 rfl ?_
  refine zInit hP105 hD105 hS105 hA (va_runIN (As := []) (rest := [.ref q299, .ref h0]) ⟨hx, hb, hml, hown, hg⟩ (c_MN_init l D tA q299 H105.size) ⟨va_cnB 0 hg (zGood k9_4 rfl) rfl rfl rfl (va_Nw.of rfl (hg _ k9_2)) (hg _ k1_15) (by decide +kernel) ⟨(Nat.le_of_ble_eq_true rfl), (Nat.le_of_ble_eq_true rfl)⟩, rfl, hg _ k9_3⟩ (zPreI hh hK hP105 hD105) rfl rfl hl.1 rfl (lv_room (Nat.le_of_ble_eq_true rfl)) d_MM_init_303 ⟨(Nat.le_of_ble_eq_true rfl), (Nat.le_of_ble_eq_true rfl)⟩) (fun u299 H106 locs106 _ hP106 hD106 hS106 => ?_)
  clear hP105 hD105 hS105
  refine zCons (fun T303 e303 hP107 hD107 => ?_) hP106 hD106
  clear hP106 hD106
  refine va_putF (D := D) (ci := 13) (v := .ref q299) (ty := .object "ChanceArenaModel$Numbers") (C := R_MM) (T := T_MM) (N := 49) hx hb hg i_MM t_MM o_MM n_MM hown hK hP107 hD107 hS106 0 rfl rfl 38 (by decide) (hg _ k10_119) (fun _ h9 => h9) rfl hnm rfl (by decide +kernel) rfl rfl (Nat.le_of_ble_eq_true rfl) d_MM_init_306 (fun H108 locs108 hP108 hD108 hS108 => ?_)
  clear hP107 hD107 hS106
  replace hP108 : va_P D vwCl ((h0, .inr (13, [.int 0, .ref q5, .ref q16, .ref q27, .ref q38, .ref q49, .ref q60, .int 0, .int 0, .ref q71, .ref q82, .int 0, .int (-1), .ref q98, .ref q109, .ref q120, .int 0, .int 0, .ref q131, .ref q142, .ref q153, .ref q167, .ref q176, .int 0, .ref q182, .ref q195, .ref q203, .ref q211, .ref q219, .int 0, .int (-1), .ref q233, .ref q242, .ref q251, .ref q260, .ref q266, .ref q277, .ref q288, .ref q299, .null, .int 0, .null, .null, .null, .null, .null, .null, .null, .int 0])) :: T303) _ := hP108
  replace hD108 : va_D A ((h0, .inr (13, [.int 0, .ref q5, .ref q16, .ref q27, .ref q38, .ref q49, .ref q60, .int 0, .int 0, .ref q71, .ref q82, .int 0, .int (-1), .ref q98, .ref q109, .ref q120, .int 0, .int 0, .ref q131, .ref q142, .ref q153, .ref q167, .ref q176, .int 0, .ref q182, .ref q195, .ref q203, .ref q211, .ref q219, .int 0, .int (-1), .ref q233, .ref q242, .ref q251, .ref q260, .ref q266, .ref q277, .ref q288, .ref q299, .null, .int 0, .null, .null, .null, .null, .null, .null, .null, .int 0])) :: T303) := hD108
  refine lv_aload_n hx hb d_MM_init_309 rfl (lv_at hl 0 rfl) ?_
  refine va_new (ci := 16) (fs := [.null, .int 0, .int 0, .int 0, .null, .null, .null, .null, .null, .null, .null, .null, .null, .null, .null, .null, .null, .int 0, .null, .null, .null, .null, .null, .null, .int 0, .null, .null, .null, .null, .null, .null, .null]) (C := R_MS) (T := T_MS) (N := 32) hx hb hg i_MS t_MS o_MS hown (hg _ k9_145) (hg _ k9_146) (hg _ k1_17) hK hP108 hD108 hS108 hA rfl f_MS (Nat.le_of_ble_eq_true rfl) (Nat.le_of_ble_eq_true rfl) d_MM_init_310 (fun q310 H109 hP109 hD109 hS109 => ?_)
  clear hP108 hD108 hS108
  refine lv_dup hx hb d_MM_init_313 rfl ?_
  refine zInit hP109 hD109 hS109 hA (va_runI (As := []) (rest := [.ref q310, .ref h0]) ⟨hx, hb, hml, hown, hg⟩ (c_MS_init l D tA q310 H109.size) (cwI 0 hg (zGood k9_149 rfl) rfl rfl rfl (hg _ k1_17) (hg _ k9_147) (hg _ k9_148) rfl (by decide +kernel) ⟨(Nat.le_of_ble_eq_true rfl), (Nat.le_of_ble_eq_true rfl)⟩) (zPreI hh hK hP109 hD109) rfl rfl hl.1 rfl (lv_room (Nat.le_of_ble_eq_true rfl)) d_MM_init_314 ⟨(Nat.le_of_ble_eq_true rfl), (Nat.le_of_ble_eq_true rfl)⟩) (fun u310 H110 locs110 _ hP110 hD110 hS110 => ?_)
  clear hP109 hD109 hS109
  refine zCons (fun T314 e314 hP111 hD111 => ?_) hP110 hD110
  clear hP110 hD110
  refine va_putF (D := D) (ci := 13) (v := .ref q310) (ty := .object "ChanceArenaModel$Solver") (C := R_MM) (T := T_MM) (N := 49) hx hb hg i_MM t_MM o_MM n_MM hown hK hP111 hD111 hS110 0 rfl rfl 39 (by decide) (hg _ k10_120) (fun _ h9 => h9) rfl hnm rfl (by decide +kernel) rfl rfl (Nat.le_of_ble_eq_true rfl) d_MM_init_317 (fun H112 locs112 hP112 hD112 hS112 => ?_)
  clear hP111 hD111 hS110
  replace hP112 : va_P D vwCl ((h0, .inr (13, [.int 0, .ref q5, .ref q16, .ref q27, .ref q38, .ref q49, .ref q60, .int 0, .int 0, .ref q71, .ref q82, .int 0, .int (-1), .ref q98, .ref q109, .ref q120, .int 0, .int 0, .ref q131, .ref q142, .ref q153, .ref q167, .ref q176, .int 0, .ref q182, .ref q195, .ref q203, .ref q211, .ref q219, .int 0, .int (-1), .ref q233, .ref q242, .ref q251, .ref q260, .ref q266, .ref q277, .ref q288, .ref q299, .ref q310, .int 0, .null, .null, .null, .null, .null, .null, .null, .int 0])) :: T314) _ := hP112
  replace hD112 : va_D A ((h0, .inr (13, [.int 0, .ref q5, .ref q16, .ref q27, .ref q38, .ref q49, .ref q60, .int 0, .int 0, .ref q71, .ref q82, .int 0, .int (-1), .ref q98, .ref q109, .ref q120, .int 0, .int 0, .ref q131, .ref q142, .ref q153, .ref q167, .ref q176, .int 0, .ref q182, .ref q195, .ref q203, .ref q211, .ref q219, .int 0, .int (-1), .ref q233, .ref q242, .ref q251, .ref q260, .ref q266, .ref q277, .ref q288, .ref q299, .ref q310, .int 0, .null, .null, .null, .null, .null, .null, .null, .int 0])) :: T314) := hD112
  refine lv_aload_n hx hb d_MM_init_320 rfl (lv_at hl 0 rfl) ?_
  refine lv_sipush (v := 4096) hx hb d_MM_init_321 (by decide) ?_
  refine zNewa (atype := .int) (ty := .int) (a0 := (4096, .inl (fun _ => 0))) (N' := 4096) hx hb rfl (hg _ k1_82) hK hP112 hD112 hS112 hA 0 rfl (fun _ h => by cases h) (fun _ => rfl) (by decide) (by decide) (by decide) (Nat.le_of_ble_eq_true rfl) (Nat.le_of_ble_eq_true rfl) d_MM_init_324 (fun q324 H113 hP113 hD113 hS113 => ?_)
  clear hP112 hD112 hS112
  refine zCons (fun T324 e324 hP114 hD114 => ?_) hP113 hD113
  clear hP113 hD113
  refine va_putF (D := D) (ci := 13) (v := .ref q324) (ty := .array .int) (C := R_MM) (T := T_MM) (N := 49) hx hb hg i_MM t_MM o_MM n_MM hown hK hP114 hD114 hS113 0 rfl rfl 41 (by decide) (hg _ k10_122) (fun _ h9 => h9) rfl hnm rfl (by decide +kernel) rfl rfl (Nat.le_of_ble_eq_true rfl) d_MM_init_326 (fun H115 locs115 hP115 hD115 hS115 => ?_)
  clear hP114 hD114 hS113
  replace hP115 : va_P D vwCl ((h0, .inr (13, [.int 0, .ref q5, .ref q16, .ref q27, .ref q38, .ref q49, .ref q60, .int 0, .int 0, .ref q71, .ref q82, .int 0, .int (-1), .ref q98, .ref q109, .ref q120, .int 0, .int 0, .ref q131, .ref q142, .ref q153, .ref q167, .ref q176, .int 0, .ref q182, .ref q195, .ref q203, .ref q211, .ref q219, .int 0, .int (-1), .ref q233, .ref q242, .ref q251, .ref q260, .ref q266, .ref q277, .ref q288, .ref q299, .ref q310, .int 0, .ref q324, .null, .null, .null, .null, .null, .null, .int 0])) :: T324) _ := hP115
  replace hD115 : va_D A ((h0, .inr (13, [.int 0, .ref q5, .ref q16, .ref q27, .ref q38, .ref q49, .ref q60, .int 0, .int 0, .ref q71, .ref q82, .int 0, .int (-1), .ref q98, .ref q109, .ref q120, .int 0, .int 0, .ref q131, .ref q142, .ref q153, .ref q167, .ref q176, .int 0, .ref q182, .ref q195, .ref q203, .ref q211, .ref q219, .int 0, .int (-1), .ref q233, .ref q242, .ref q251, .ref q260, .ref q266, .ref q277, .ref q288, .ref q299, .ref q310, .int 0, .ref q324, .null, .null, .null, .null, .null, .null, .int 0])) :: T324) := hD115
  refine lv_aload_n hx hb d_MM_init_329 rfl (lv_at hl 0 rfl) ?_
  refine lv_sipush (v := 4096) hx hb d_MM_init_330 (by decide) ?_
  refine zNewa (atype := .long) (ty := .long) (a0 := (4096, .inr (.inl (fun _ => 0)))) (N' := 4096) hx hb rfl (hg _ k3_35) hK hP115 hD115 hS115 hA 3 rfl (fun _ h => by cases h) (fun _ => rfl) (by decide) (by decide) (by decide) (Nat.le_of_ble_eq_true rfl) (Nat.le_of_ble_eq_true rfl) d_MM_init_333 (fun q333 H116 hP116 hD116 hS116 => ?_)
  clear hP115 hD115 hS115
  refine zCons (fun T333 e333 hP117 hD117 => ?_) hP116 hD116
  clear hP116 hD116
  refine va_putF (D := D) (ci := 13) (v := .ref q333) (ty := .array .long) (C := R_MM) (T := T_MM) (N := 49) hx hb hg i_MM t_MM o_MM n_MM hown hK hP117 hD117 hS116 0 rfl rfl 42 (by decide) (hg _ k10_123) (fun _ h9 => h9) rfl hnm rfl (by decide +kernel) rfl rfl (Nat.le_of_ble_eq_true rfl) d_MM_init_335 (fun H118 locs118 hP118 hD118 hS118 => ?_)
  clear hP117 hD117 hS116
  replace hP118 : va_P D vwCl ((h0, .inr (13, [.int 0, .ref q5, .ref q16, .ref q27, .ref q38, .ref q49, .ref q60, .int 0, .int 0, .ref q71, .ref q82, .int 0, .int (-1), .ref q98, .ref q109, .ref q120, .int 0, .int 0, .ref q131, .ref q142, .ref q153, .ref q167, .ref q176, .int 0, .ref q182, .ref q195, .ref q203, .ref q211, .ref q219, .int 0, .int (-1), .ref q233, .ref q242, .ref q251, .ref q260, .ref q266, .ref q277, .ref q288, .ref q299, .ref q310, .int 0, .ref q324, .ref q333, .null, .null, .null, .null, .null, .int 0])) :: T333) _ := hP118
  replace hD118 : va_D A ((h0, .inr (13, [.int 0, .ref q5, .ref q16, .ref q27, .ref q38, .ref q49, .ref q60, .int 0, .int 0, .ref q71, .ref q82, .int 0, .int (-1), .ref q98, .ref q109, .ref q120, .int 0, .int 0, .ref q131, .ref q142, .ref q153, .ref q167, .ref q176, .int 0, .ref q182, .ref q195, .ref q203, .ref q211, .ref q219, .int 0, .int (-1), .ref q233, .ref q242, .ref q251, .ref q260, .ref q266, .ref q277, .ref q288, .ref q299, .ref q310, .int 0, .ref q324, .ref q333, .null, .null, .null, .null, .null, .int 0])) :: T333) := hD118
  refine lv_aload_n hx hb d_MM_init_338 rfl (lv_at hl 0 rfl) ?_
  refine lv_sipush (v := 4096) hx hb d_MM_init_339 (by decide) ?_
  refine zNewa (atype := .long) (ty := .long) (a0 := (4096, .inr (.inl (fun _ => 0)))) (N' := 4096) hx hb rfl (hg _ k3_35) hK hP118 hD118 hS118 hA 3 rfl (fun _ h => by cases h) (fun _ => rfl) (by decide) (by decide) (by decide) (Nat.le_of_ble_eq_true rfl) (Nat.le_of_ble_eq_true rfl) d_MM_init_342 (fun q342 H119 hP119 hD119 hS119 => ?_)
  clear hP118 hD118 hS118
  refine zCons (fun T342 e342 hP120 hD120 => ?_) hP119 hD119
  clear hP119 hD119
  refine va_putF (D := D) (ci := 13) (v := .ref q342) (ty := .array .long) (C := R_MM) (T := T_MM) (N := 49) hx hb hg i_MM t_MM o_MM n_MM hown hK hP120 hD120 hS119 0 rfl rfl 43 (by decide) (hg _ k10_124) (fun _ h9 => h9) rfl hnm rfl (by decide +kernel) rfl rfl (Nat.le_of_ble_eq_true rfl) d_MM_init_344 (fun H121 locs121 hP121 hD121 hS121 => ?_)
  clear hP120 hD120 hS119
  replace hP121 : va_P D vwCl ((h0, .inr (13, [.int 0, .ref q5, .ref q16, .ref q27, .ref q38, .ref q49, .ref q60, .int 0, .int 0, .ref q71, .ref q82, .int 0, .int (-1), .ref q98, .ref q109, .ref q120, .int 0, .int 0, .ref q131, .ref q142, .ref q153, .ref q167, .ref q176, .int 0, .ref q182, .ref q195, .ref q203, .ref q211, .ref q219, .int 0, .int (-1), .ref q233, .ref q242, .ref q251, .ref q260, .ref q266, .ref q277, .ref q288, .ref q299, .ref q310, .int 0, .ref q324, .ref q333, .ref q342, .null, .null, .null, .null, .int 0])) :: T342) _ := hP121
  replace hD121 : va_D A ((h0, .inr (13, [.int 0, .ref q5, .ref q16, .ref q27, .ref q38, .ref q49, .ref q60, .int 0, .int 0, .ref q71, .ref q82, .int 0, .int (-1), .ref q98, .ref q109, .ref q120, .int 0, .int 0, .ref q131, .ref q142, .ref q153, .ref q167, .ref q176, .int 0, .ref q182, .ref q195, .ref q203, .ref q211, .ref q219, .int 0, .int (-1), .ref q233, .ref q242, .ref q251, .ref q260, .ref q266, .ref q277, .ref q288, .ref q299, .ref q310, .int 0, .ref q324, .ref q333, .ref q342, .null, .null, .null, .null, .int 0])) :: T342) := hD121
  refine lv_aload_n hx hb d_MM_init_347 rfl (lv_at hl 0 rfl) ?_
  refine lv_bipush (v := 12) hx hb d_MM_init_348 (by decide) ?_
  refine zNewa (atype := .int) (ty := .int) (a0 := (12, .inl (fun _ => 0))) (N' := 12) hx hb rfl (hg _ k1_82) hK hP121 hD121 hS121 hA 0 rfl (fun _ h => by cases h) (fun _ => rfl) (by decide) (by decide) (by decide) (Nat.le_of_ble_eq_true rfl) (Nat.le_of_ble_eq_true rfl) d_MM_init_350 (fun q350 H122 hP122 hD122 hS122 => ?_)
  clear hP121 hD121 hS121
  refine zCons (fun T350 e350 hP123 hD123 => ?_) hP122 hD122
  clear hP122 hD122
  refine va_putF (D := D) (ci := 13) (v := .ref q350) (ty := .array .int) (C := R_MM) (T := T_MM) (N := 49) hx hb hg i_MM t_MM o_MM n_MM hown hK hP123 hD123 hS122 0 rfl rfl 44 (by decide) (hg _ k10_125) (fun _ h9 => h9) rfl hnm rfl (by decide +kernel) rfl rfl (Nat.le_of_ble_eq_true rfl) d_MM_init_352 (fun H124 locs124 hP124 hD124 hS124 => ?_)
  clear hP123 hD123 hS122
  replace hP124 : va_P D vwCl ((h0, .inr (13, [.int 0, .ref q5, .ref q16, .ref q27, .ref q38, .ref q49, .ref q60, .int 0, .int 0, .ref q71, .ref q82, .int 0, .int (-1), .ref q98, .ref q109, .ref q120, .int 0, .int 0, .ref q131, .ref q142, .ref q153, .ref q167, .ref q176, .int 0, .ref q182, .ref q195, .ref q203, .ref q211, .ref q219, .int 0, .int (-1), .ref q233, .ref q242, .ref q251, .ref q260, .ref q266, .ref q277, .ref q288, .ref q299, .ref q310, .int 0, .ref q324, .ref q333, .ref q342, .ref q350, .null, .null, .null, .int 0])) :: T350) _ := hP124
  replace hD124 : va_D A ((h0, .inr (13, [.int 0, .ref q5, .ref q16, .ref q27, .ref q38, .ref q49, .ref q60, .int 0, .int 0, .ref q71, .ref q82, .int 0, .int (-1), .ref q98, .ref q109, .ref q120, .int 0, .int 0, .ref q131, .ref q142, .ref q153, .ref q167, .ref q176, .int 0, .ref q182, .ref q195, .ref q203, .ref q211, .ref q219, .int 0, .int (-1), .ref q233, .ref q242, .ref q251, .ref q260, .ref q266, .ref q277, .ref q288, .ref q299, .ref q310, .int 0, .ref q324, .ref q333, .ref q342, .ref q350, .null, .null, .null, .int 0])) :: T350) := hD124
  refine lv_aload_n hx hb d_MM_init_355 rfl (lv_at hl 0 rfl) ?_
  refine lv_bipush (v := 8) hx hb d_MM_init_356 (by decide) ?_
  refine zNewa (atype := .long) (ty := .long) (a0 := (8, .inr (.inl (fun _ => 0)))) (N' := 8) hx hb rfl (hg _ k3_35) hK hP124 hD124 hS124 hA 3 rfl (fun _ h => by cases h) (fun _ => rfl) (by decide) (by decide) (by decide) (Nat.le_of_ble_eq_true rfl) (Nat.le_of_ble_eq_true rfl) d_MM_init_358 (fun q358 H125 hP125 hD125 hS125 => ?_)
  clear hP124 hD124 hS124
  refine zCons (fun T358 e358 hP126 hD126 => ?_) hP125 hD125
  clear hP125 hD125
  refine va_putF (D := D) (ci := 13) (v := .ref q358) (ty := .array .long) (C := R_MM) (T := T_MM) (N := 49) hx hb hg i_MM t_MM o_MM n_MM hown hK hP126 hD126 hS125 0 rfl rfl 45 (by decide) (hg _ k10_126) (fun _ h9 => h9) rfl hnm rfl (by decide +kernel) rfl rfl (Nat.le_of_ble_eq_true rfl) d_MM_init_360 (fun H127 locs127 hP127 hD127 hS127 => ?_)
  clear hP126 hD126 hS125
  replace hP127 : va_P D vwCl ((h0, .inr (13, [.int 0, .ref q5, .ref q16, .ref q27, .ref q38, .ref q49, .ref q60, .int 0, .int 0, .ref q71, .ref q82, .int 0, .int (-1), .ref q98, .ref q109, .ref q120, .int 0, .int 0, .ref q131, .ref q142, .ref q153, .ref q167, .ref q176, .int 0, .ref q182, .ref q195, .ref q203, .ref q211, .ref q219, .int 0, .int (-1), .ref q233, .ref q242, .ref q251, .ref q260, .ref q266, .ref q277, .ref q288, .ref q299, .ref q310, .int 0, .ref q324, .ref q333, .ref q342, .ref q350, .ref q358, .null, .null, .int 0])) :: T358) _ := hP127
  replace hD127 : va_D A ((h0, .inr (13, [.int 0, .ref q5, .ref q16, .ref q27, .ref q38, .ref q49, .ref q60, .int 0, .int 0, .ref q71, .ref q82, .int 0, .int (-1), .ref q98, .ref q109, .ref q120, .int 0, .int 0, .ref q131, .ref q142, .ref q153, .ref q167, .ref q176, .int 0, .ref q182, .ref q195, .ref q203, .ref q211, .ref q219, .int 0, .int (-1), .ref q233, .ref q242, .ref q251, .ref q260, .ref q266, .ref q277, .ref q288, .ref q299, .ref q310, .int 0, .ref q324, .ref q333, .ref q342, .ref q350, .ref q358, .null, .null, .int 0])) :: T358) := hD127
  refine lv_aload_n hx hb d_MM_init_363 rfl (lv_at hl 0 rfl) ?_
  refine lv_bipush (v := 8) hx hb d_MM_init_364 (by decide) ?_
  refine zNewa (atype := .long) (ty := .long) (a0 := (8, .inr (.inl (fun _ => 0)))) (N' := 8) hx hb rfl (hg _ k3_35) hK hP127 hD127 hS127 hA 3 rfl (fun _ h => by cases h) (fun _ => rfl) (by decide) (by decide) (by decide) (Nat.le_of_ble_eq_true rfl) (Nat.le_of_ble_eq_true rfl) d_MM_init_366 (fun q366 H128 hP128 hD128 hS128 => ?_)
  clear hP127 hD127 hS127
  refine zCons (fun T366 e366 hP129 hD129 => ?_) hP128 hD128
  clear hP128 hD128
  refine va_putF (D := D) (ci := 13) (v := .ref q366) (ty := .array .long) (C := R_MM) (T := T_MM) (N := 49) hx hb hg i_MM t_MM o_MM n_MM hown hK hP129 hD129 hS128 0 rfl rfl 46 (by decide) (hg _ k10_127) (fun _ h9 => h9) rfl hnm rfl (by decide +kernel) rfl rfl (Nat.le_of_ble_eq_true rfl) d_MM_init_368 (fun H130 locs130 hP130 hD130 hS130 => ?_)
  clear hP129 hD129 hS128
  replace hP130 : va_P D vwCl ((h0, .inr (13, [.int 0, .ref q5, .ref q16, .ref q27, .ref q38, .ref q49, .ref q60, .int 0, .int 0, .ref q71, .ref q82, .int 0, .int (-1), .ref q98, .ref q109, .ref q120, .int 0, .int 0, .ref q131, .ref q142, .ref q153, .ref q167, .ref q176, .int 0, .ref q182, .ref q195, .ref q203, .ref q211, .ref q219, .int 0, .int (-1), .ref q233, .ref q242, .ref q251, .ref q260, .ref q266, .ref q277, .ref q288, .ref q299, .ref q310, .int 0, .ref q324, .ref q333, .ref q342, .ref q350, .ref q358, .ref q366, .null, .int 0])) :: T366) _ := hP130
  replace hD130 : va_D A ((h0, .inr (13, [.int 0, .ref q5, .ref q16, .ref q27, .ref q38, .ref q49, .ref q60, .int 0, .int 0, .ref q71, .ref q82, .int 0, .int (-1), .ref q98, .ref q109, .ref q120, .int 0, .int 0, .ref q131, .ref q142, .ref q153, .ref q167, .ref q176, .int 0, .ref q182, .ref q195, .ref q203, .ref q211, .ref q219, .int 0, .int (-1), .ref q233, .ref q242, .ref q251, .ref q260, .ref q266, .ref q277, .ref q288, .ref q299, .ref q310, .int 0, .ref q324, .ref q333, .ref q342, .ref q350, .ref q358, .ref q366, .null, .int 0])) :: T366) := hD130
  refine lv_aload_n hx hb d_MM_init_371 rfl (lv_at hl 0 rfl) ?_
  refine lv_sipush (v := 900) hx hb d_MM_init_372 (by decide) ?_
  refine zNewa (atype := .int) (ty := .int) (a0 := (900, .inl (fun _ => 0))) (N' := 900) hx hb rfl (hg _ k1_82) hK hP130 hD130 hS130 hA 0 rfl (fun _ h => by cases h) (fun _ => rfl) (by decide) (by decide) (by decide) (Nat.le_of_ble_eq_true rfl) (Nat.le_of_ble_eq_true rfl) d_MM_init_375 (fun q375 H131 hP131 hD131 hS131 => ?_)
  clear hP130 hD130 hS130
  refine zCons (fun T375 e375 hP132 hD132 => ?_) hP131 hD131
  clear hP131 hD131
  refine va_putF (D := D) (ci := 13) (v := .ref q375) (ty := .array .int) (C := R_MM) (T := T_MM) (N := 49) hx hb hg i_MM t_MM o_MM n_MM hown hK hP132 hD132 hS131 0 rfl rfl 47 (by decide) (hg _ k10_128) (fun _ h9 => h9) rfl hnm rfl (by decide +kernel) rfl rfl (Nat.le_of_ble_eq_true rfl) d_MM_init_377 (fun H133 locs133 hP133 hD133 hS133 => ?_)
  clear hP132 hD132 hS131
  replace hP133 : va_P D vwCl ((h0, .inr (13, [.int 0, .ref q5, .ref q16, .ref q27, .ref q38, .ref q49, .ref q60, .int 0, .int 0, .ref q71, .ref q82, .int 0, .int (-1), .ref q98, .ref q109, .ref q120, .int 0, .int 0, .ref q131, .ref q142, .ref q153, .ref q167, .ref q176, .int 0, .ref q182, .ref q195, .ref q203, .ref q211, .ref q219, .int 0, .int (-1), .ref q233, .ref q242, .ref q251, .ref q260, .ref q266, .ref q277, .ref q288, .ref q299, .ref q310, .int 0, .ref q324, .ref q333, .ref q342, .ref q350, .ref q358, .ref q366, .ref q375, .int 0])) :: T375) _ := hP133
  replace hD133 : va_D A ((h0, .inr (13, [.int 0, .ref q5, .ref q16, .ref q27, .ref q38, .ref q49, .ref q60, .int 0, .int 0, .ref q71, .ref q82, .int 0, .int (-1), .ref q98, .ref q109, .ref q120, .int 0, .int 0, .ref q131, .ref q142, .ref q153, .ref q167, .ref q176, .int 0, .ref q182, .ref q195, .ref q203, .ref q211, .ref q219, .int 0, .int (-1), .ref q233, .ref q242, .ref q251, .ref q260, .ref q266, .ref q277, .ref q288, .ref q299, .ref q310, .int 0, .ref q324, .ref q333, .ref q342, .ref q350, .ref q358, .ref q366, .ref q375, .int 0])) :: T375) := hD133
  refine W.cs (cells' := 21191) (slots' := 603063) rfl rfl ?_
  exact zVret hx hb hr hlocks hP133 hD133 hS133 ((q5, u5), (q16, u16), (q27, u27), (q38, u38), (q49, u49), (q60, u60), (q71, u71), (q82, u82), (q98, u98), (q109, u109), (q120, u120), (q131, u131), (q142, u142), (q153, u153), q167, q176, (q182, u182), q195, q203, q211, q219, q233, q242, q251, q260, (q266, u266), (q277, u277), (q288, u288), (q299, u299), (q310, u310), q324, q333, q342, q350, q358, q366, q375) trivial (by rw [e375, e366, e358, e350, e342, e333, e324, e314, e303, e292, e281, e270, e260, e251, e242, e233, e219, e211, e203, e195, e186, e176, e167, e157, e146, e135, e124, e113, e102, e86, e75, e64, e53, e42, e31, e20, e9]; rfl) d_MM_init_380
