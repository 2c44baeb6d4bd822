theorem k1_18 : (Jvm.Cond.initialized "ChanceArenaModel$Sums") ∈ lw_R := zR (zk_1 _ (List.mem_of_getElem? (i := 18) (by decide +kernel))) rfl
theorem k9_149 : (Jvm.Cond.code ({ cls := "ChanceArenaModel$Solver", name := "<init>", desc := "()V" } : Jvm.MethodName) prog_19_method_1_code (3 : Nat) (Option.none : Option Jvm.ClassFile.FieldType)) ∈ lw_R := zR (zk_9 _ (List.mem_of_getElem? (i := 149) (by decide +kernel))) rfl
theorem k9_150 : (Jvm.Cond.methodLink "ChanceArenaModel$Solver" (1 : Nat) ({ cls := "java/lang/Object", name := "<init>", desc := "()V" } : Jvm.MethodName)) ∈ lw_R := zR (zk_9 _ (List.mem_of_getElem? (i := 150) (by decide +kernel))) rfl
theorem k9_151 : (Jvm.Cond.classLink "ChanceArenaModel$Solver" (7 : Nat) "ChanceArenaModel$Sums") ∈ lw_R := zR (zk_9 _ (List.mem_of_getElem? (i := 151) (by decide +kernel))) rfl
theorem k9_152 : (Jvm.Cond.instantiable "ChanceArenaModel$Sums" (7 : Nat)) ∈ lw_R := zR (zk_9 _ (List.mem_of_getElem? (i := 152) (by decide +kernel))) rfl
theorem k9_153 : (Jvm.Cond.methodLinkNest "ChanceArenaModel$Solver" (9 : Nat) ({ cls := "ChanceArenaModel$Sums", name := "<init>", desc := "()V" } : Jvm.MethodName) "ChanceArenaModel") ∈ lw_R := zR (zk_9 _ (List.mem_of_getElem? (i := 153) (by decide +kernel))) rfl
theorem k9_154 : (Jvm.Cond.instanceMethod ({ cls := "ChanceArenaModel$Sums", name := "<init>", desc := "()V" } : Jvm.MethodName)) ∈ lw_R := zR (zk_9 _ (List.mem_of_getElem? (i := 154) (by decide +kernel))) rfl
theorem k9_221 : (Jvm.Cond.classLink "ChanceArenaModel$Solver" (38 : Nat) "ChanceArenaModel$Fraction") ∈ lw_R := zR (zk_9 _ (List.mem_of_getElem? (i := 221) (by decide +kernel))) rfl
theorem k9_222 : (Jvm.Cond.arrayOver (Jvm.ClassFile.FieldType.object "ChanceArenaModel$Fraction")) ∈ lw_R := zR (zk_9 _ (List.mem_of_getElem? (i := 222) (by decide +kernel))) rfl
theorem k9_223 : (Jvm.Cond.methodLink "ChanceArenaModel$Solver" (81 : Nat) ({ cls := "ChanceArenaModel$Fraction", name := "<init>", desc := "(I)V" } : Jvm.MethodName)) ∈ lw_R := zR (zk_9 _ (List.mem_of_getElem? (i := 223) (by decide +kernel))) rfl
theorem k9_224 : (Jvm.Cond.fieldLink "ChanceArenaModel$Solver" (10 : Nat) "ChanceArenaModel$Solver" "sums" "LChanceArenaModel$Sums;") ∈ lw_R := zR (zk_9 _ (List.mem_of_getElem? (i := 224) (by decide +kernel))) rfl
theorem k9_228 : (Jvm.Cond.fieldLink "ChanceArenaModel$Solver" (16 : Nat) "ChanceArenaModel$Solver" "kinds" "[I") ∈ lw_R := zR (zk_9 _ (List.mem_of_getElem? (i := 228) (by decide +kernel))) rfl
theorem k9_229 : (Jvm.Cond.fieldLink "ChanceArenaModel$Solver" (20 : Nat) "ChanceArenaModel$Solver" "firstCommands" "[I") ∈ lw_R := zR (zk_9 _ (List.mem_of_getElem? (i := 229) (by decide +kernel))) rfl
theorem k9_230 : (Jvm.Cond.fieldLink "ChanceArenaModel$Solver" (23 : Nat) "ChanceArenaModel$Solver" "multiples" "[I") ∈ lw_R := zR (zk_9 _ (List.mem_of_getElem? (i := 230) (by decide +kernel))) rfl
theorem k9_231 : (Jvm.Cond.fieldLink "ChanceArenaModel$Solver" (26 : Nat) "ChanceArenaModel$Solver" "firstBranches" "[I") ∈ lw_R := zR (zk_9 _ (List.mem_of_getElem? (i := 231) (by decide +kernel))) rfl
theorem k9_232 : (Jvm.Cond.fieldLink "ChanceArenaModel$Solver" (29 : Nat) "ChanceArenaModel$Solver" "targets" "[I") ∈ lw_R := zR (zk_9 _ (List.mem_of_getElem? (i := 232) (by decide +kernel))) rfl
theorem k9_233 : (Jvm.Cond.fieldLink "ChanceArenaModel$Solver" (32 : Nat) "ChanceArenaModel$Solver" "ups" "[I") ∈ lw_R := zR (zk_9 _ (List.mem_of_getElem? (i := 233) (by decide +kernel))) rfl
theorem k9_234 : (Jvm.Cond.fieldLink "ChanceArenaModel$Solver" (35 : Nat) "ChanceArenaModel$Solver" "downs" "[I") ∈ lw_R := zR (zk_9 _ (List.mem_of_getElem? (i := 234) (by decide +kernel))) rfl
theorem k9_235 : (Jvm.Cond.fieldLink "ChanceArenaModel$Solver" (40 : Nat) "ChanceArenaModel$Solver" "fractions" "[LChanceArenaModel$Fraction;") ∈ lw_R := zR (zk_9 _ (List.mem_of_getElem? (i := 235) (by decide +kernel))) rfl
theorem k9_236 : (Jvm.Cond.fieldLink "ChanceArenaModel$Solver" (44 : Nat) "ChanceArenaModel$Solver" "has" "[Z") ∈ lw_R := zR (zk_9 _ (List.mem_of_getElem? (i := 236) (by decide +kernel))) rfl
theorem k9_237 : (Jvm.Cond.fieldLink "ChanceArenaModel$Solver" (48 : Nat) "ChanceArenaModel$Solver" "next" "[LChanceArenaModel$Fraction;") ∈ lw_R := zR (zk_9 _ (List.mem_of_getElem? (i := 237) (by decide +kernel))) rfl
theorem k9_238 : (Jvm.Cond.fieldLink "ChanceArenaModel$Solver" (51 : Nat) "ChanceArenaModel$Solver" "told" "[I") ∈ lw_R := zR (zk_9 _ (List.mem_of_getElem? (i := 238) (by decide +kernel))) rfl
theorem k9_239 : (Jvm.Cond.fieldLink "ChanceArenaModel$Solver" (54 : Nat) "ChanceArenaModel$Solver" "choices" "[I") ∈ lw_R := zR (zk_9 _ (List.mem_of_getElem? (i := 239) (by decide +kernel))) rfl
theorem k10_0 : (Jvm.Cond.fieldLink "ChanceArenaModel$Solver" (57 : Nat) "ChanceArenaModel$Solver" "ranks" "[I") ∈ lw_R := zR (zk_10 _ (List.mem_of_getElem? (i := 0) (by decide +kernel))) rfl
theorem k10_2 : (Jvm.Cond.fieldLink "ChanceArenaModel$Solver" (60 : Nat) "ChanceArenaModel$Solver" "plays" "[I") ∈ lw_R := zR (zk_10 _ (List.mem_of_getElem? (i := 2) (by decide +kernel))) rfl
theorem k10_3 : (Jvm.Cond.fieldLink "ChanceArenaModel$Solver" (63 : Nat) "ChanceArenaModel$Solver" "inside" "[Z") ∈ lw_R := zR (zk_10 _ (List.mem_of_getElem? (i := 3) (by decide +kernel))) rfl
theorem k10_4 : (Jvm.Cond.fieldLink "ChanceArenaModel$Solver" (66 : Nat) "ChanceArenaModel$Solver" "fixed" "[Z") ∈ lw_R := zR (zk_10 _ (List.mem_of_getElem? (i := 4) (by decide +kernel))) rfl
theorem k10_5 : (Jvm.Cond.fieldLink "ChanceArenaModel$Solver" (69 : Nat) "ChanceArenaModel$Solver" "values" "[LChanceArenaModel$Fraction;") ∈ lw_R := zR (zk_10 _ (List.mem_of_getElem? (i := 5) (by decide +kernel))) rfl
theorem k10_6 : (Jvm.Cond.fieldLink "ChanceArenaModel$Solver" (72 : Nat) "ChanceArenaModel$Solver" "unknown" "[I") ∈ lw_R := zR (zk_10 _ (List.mem_of_getElem? (i := 6) (by decide +kernel))) rfl
theorem k10_7 : (Jvm.Cond.fieldLink "ChanceArenaModel$Solver" (75 : Nat) "ChanceArenaModel$Solver" "rowOf" "[I") ∈ lw_R := zR (zk_10 _ (List.mem_of_getElem? (i := 7) (by decide +kernel))) rfl
theorem k10_9 : (Jvm.Cond.fieldLink "ChanceArenaModel$Solver" (78 : Nat) "ChanceArenaModel$Solver" "cells" "[LChanceArenaModel$Fraction;") ∈ lw_R := zR (zk_10 _ (List.mem_of_getElem? (i := 9) (by decide +kernel))) rfl
theorem k10_10 : (Jvm.Cond.fieldLink "ChanceArenaModel$Solver" (84 : Nat) "ChanceArenaModel$Solver" "chance" "LChanceArenaModel$Fraction;") ∈ lw_R := zR (zk_10 _ (List.mem_of_getElem? (i := 10) (by decide +kernel))) rfl
theorem k10_11 : (Jvm.Cond.fieldLink "ChanceArenaModel$Solver" (88 : Nat) "ChanceArenaModel$Solver" "factor" "LChanceArenaModel$Fraction;") ∈ lw_R := zR (zk_10 _ (List.mem_of_getElem? (i := 11) (by decide +kernel))) rfl
theorem k10_12 : (Jvm.Cond.fieldLink "ChanceArenaModel$Solver" (91 : Nat) "ChanceArenaModel$Solver" "worth" "LChanceArenaModel$Fraction;") ∈ lw_R := zR (zk_10 _ (List.mem_of_getElem? (i := 12) (by decide +kernel))) rfl
theorem k10_13 : (Jvm.Cond.fieldLink "ChanceArenaModel$Solver" (94 : Nat) "ChanceArenaModel$Solver" "other" "LChanceArenaModel$Fraction;") ∈ lw_R := zR (zk_10 _ (List.mem_of_getElem? (i := 13) (by decide +kernel))) rfl
theorem k10_14 : (Jvm.Cond.fieldLink "ChanceArenaModel$Solver" (97 : Nat) "ChanceArenaModel$Solver" "best" "LChanceArenaModel$Fraction;") ∈ lw_R := zR (zk_10 _ (List.mem_of_getElem? (i := 14) (by decide +kernel))) rfl
theorem k10_15 : (Jvm.Cond.fieldLink "ChanceArenaModel$Solver" (100 : Nat) "ChanceArenaModel$Solver" "digits" "[I") ∈ lw_R := zR (zk_10 _ (List.mem_of_getElem? (i := 15) (by decide +kernel))) rfl
theorem d_MS_init_0 : decode prog_19_method_1_code 0 = .ok (.aload_n 0, 1) := dc9_42 (by decide +kernel)
theorem d_MS_init_1 : decode prog_19_method_1_code 1 = .ok (.invokespecial 1, 3) := dc9_183 (by decide +kernel)
theorem d_MS_init_4 : decode prog_19_method_1_code 4 = .ok (.aload_n 0, 1) := dc9_42 (by decide +kernel)
theorem d_MS_init_5 : decode prog_19_method_1_code 5 = .ok (.new 7, 3) := dc9_187 (by decide +kernel)
theorem d_MS_init_8 : decode prog_19_method_1_code 8 = .ok (.dup, 1) := dc9_89 (by decide +kernel)
theorem d_MS_init_9 : decode prog_19_method_1_code 9 = .ok (.invokespecial 9, 3) := dc9_183 (by decide +kernel)
theorem d_MS_init_12 : decode prog_19_method_1_code 12 = .ok (.putfield 10, 3) := dc9_181 (by decide +kernel)
theorem d_MS_init_15 : decode prog_19_method_1_code 15 = .ok (.aload_n 0, 1) := dc9_42 (by decide +kernel)
theorem d_MS_init_16 : decode prog_19_method_1_code 16 = .ok (.sipush 513, 3) := dc9_17 (by decide +kernel)
theorem d_MS_init_19 : decode prog_19_method_1_code 19 = .ok (.newarray .int, 2) := by decide +kernel
theorem d_MS_init_21 : decode prog_19_method_1_code 21 = .ok (.putfield 16, 3) := dc9_181 (by decide +kernel)
theorem d_MS_init_24 : decode prog_19_method_1_code 24 = .ok (.aload_n 0, 1) := dc9_42 (by decide +kernel)
theorem d_MS_init_25 : decode prog_19_method_1_code 25 = .ok (.sipush 514, 3) := dc9_17 (by decide +kernel)
theorem d_MS_init_28 : decode prog_19_method_1_code 28 = .ok (.newarray .int, 2) := by decide +kernel
theorem d_MS_init_30 : decode prog_19_method_1_code 30 = .ok (.putfield 20, 3) := dc9_181 (by decide +kernel)
theorem d_MS_init_33 : decode prog_19_method_1_code 33 = .ok (.aload_n 0, 1) := dc9_42 (by decide +kernel)
theorem d_MS_init_34 : decode prog_19_method_1_code 34 = .ok (.sipush 4200, 3) := dc9_17 (by decide +kernel)
theorem d_MS_init_37 : decode prog_19_method_1_code 37 = .ok (.newarray .int, 2) := by decide +kernel
theorem d_MS_init_39 : decode prog_19_method_1_code 39 = .ok (.putfield 23, 3) := dc9_181 (by decide +kernel)
theorem d_MS_init_42 : decode prog_19_method_1_code 42 = .ok (.aload_n 0, 1) := dc9_42 (by decide +kernel)
theorem d_MS_init_43 : decode prog_19_method_1_code 43 = .ok (.sipush 4201, 3) := dc9_17 (by decide +kernel)
theorem d_MS_init_46 : decode prog_19_method_1_code 46 = .ok (.newarray .int, 2) := by decide +kernel
theorem d_MS_init_48 : decode prog_19_method_1_code 48 = .ok (.putfield 26, 3) := dc9_181 (by decide +kernel)
theorem d_MS_init_51 : decode prog_19_method_1_code 51 = .ok (.aload_n 0, 1) := dc9_42 (by decide +kernel)
theorem d_MS_init_52 : decode prog_19_method_1_code 52 = .ok (.sipush 4096, 3) := dc9_17 (by decide +kernel)
theorem d_MS_init_55 : decode prog_19_method_1_code 55 = .ok (.newarray .int, 2) := by decide +kernel
theorem d_MS_init_57 : decode prog_19_method_1_code 57 = .ok (.putfield 29, 3) := dc9_181 (by decide +kernel)
theorem d_MS_init_60 : decode prog_19_method_1_code 60 = .ok (.aload_n 0, 1) := dc9_42 (by decide +kernel)
theorem d_MS_init_61 : decode prog_19_method_1_code 61 = .ok (.sipush 4096, 3) := dc9_17 (by decide +kernel)
theorem d_MS_init_64 : decode prog_19_method_1_code 64 = .ok (.newarray .int, 2) := by decide +kernel
theorem d_MS_init_66 : decode prog_19_method_1_code 66 = .ok (.putfield 32, 3) := dc9_181 (by decide +kernel)
theorem d_MS_init_69 : decode prog_19_method_1_code 69 = .ok (.aload_n 0, 1) := dc9_42 (by decide +kernel)
theorem d_MS_init_70 : decode prog_19_method_1_code 70 = .ok (.sipush 4096, 3) := dc9_17 (by decide +kernel)
theorem d_MS_init_73 : decode prog_19_method_1_code 73 = .ok (.newarray .int, 2) := by decide +kernel
theorem d_MS_init_75 : decode prog_19_method_1_code 75 = .ok (.putfield 35, 3) := dc9_181 (by decide +kernel)
theorem d_MS_init_78 : decode prog_19_method_1_code 78 = .ok (.aload_n 0, 1) := dc9_42 (by decide +kernel)
theorem d_MS_init_79 : decode prog_19_method_1_code 79 = .ok (.sipush 1536, 3) := dc9_17 (by decide +kernel)
theorem d_MS_init_82 : decode prog_19_method_1_code 82 = .ok (.anewarray 38, 3) := dc9_189 (by decide +kernel)
theorem d_MS_init_85 : decode prog_19_method_1_code 85 = .ok (.putfield 40, 3) := dc9_181 (by decide +kernel)
theorem d_MS_init_88 : decode prog_19_method_1_code 88 = .ok (.aload_n 0, 1) := dc9_42 (by decide +kernel)
theorem d_MS_init_89 : decode prog_19_method_1_code 89 = .ok (.iconst 3, 1) := dc9_6 (by decide +kernel)
theorem d_MS_init_90 : decode prog_19_method_1_code 90 = .ok (.newarray .boolean, 2) := by decide +kernel
theorem d_MS_init_92 : decode prog_19_method_1_code 92 = .ok (.putfield 44, 3) := dc9_181 (by decide +kernel)
theorem d_MS_init_95 : decode prog_19_method_1_code 95 = .ok (.aload_n 0, 1) := dc9_42 (by decide +kernel)
theorem d_MS_init_96 : decode prog_19_method_1_code 96 = .ok (.sipush 512, 3) := dc9_17 (by decide +kernel)
theorem d_MS_init_99 : decode prog_19_method_1_code 99 = .ok (.anewarray 38, 3) := dc9_189 (by decide +kernel)
theorem d_MS_init_102 : decode prog_19_method_1_code 102 = .ok (.putfield 48, 3) := dc9_181 (by decide +kernel)
theorem d_MS_init_105 : decode prog_19_method_1_code 105 = .ok (.aload_n 0, 1) := dc9_42 (by decide +kernel)
theorem d_MS_init_106 : decode prog_19_method_1_code 106 = .ok (.sipush 512, 3) := dc9_17 (by decide +kernel)
theorem d_MS_init_109 : decode prog_19_method_1_code 109 = .ok (.newarray .int, 2) := by decide +kernel
theorem d_MS_init_111 : decode prog_19_method_1_code 111 = .ok (.putfield 51, 3) := dc9_181 (by decide +kernel)
theorem d_MS_init_114 : decode prog_19_method_1_code 114 = .ok (.aload_n 0, 1) := dc9_42 (by decide +kernel)
theorem d_MS_init_115 : decode prog_19_method_1_code 115 = .ok (.sipush 512, 3) := dc9_17 (by decide +kernel)
theorem d_MS_init_118 : decode prog_19_method_1_code 118 = .ok (.newarray .int, 2) := by decide +kernel
theorem d_MS_init_120 : decode prog_19_method_1_code 120 = .ok (.putfield 54, 3) := dc9_181 (by decide +kernel)
theorem d_MS_init_123 : decode prog_19_method_1_code 123 = .ok (.aload_n 0, 1) := dc9_42 (by decide +kernel)
theorem d_MS_init_124 : decode prog_19_method_1_code 124 = .ok (.sipush 512, 3) := dc9_17 (by decide +kernel)
theorem d_MS_init_127 : decode prog_19_method_1_code 127 = .ok (.newarray .int, 2) := by decide +kernel
theorem d_MS_init_129 : decode prog_19_method_1_code 129 = .ok (.putfield 57, 3) := dc9_181 (by decide +kernel)
theorem d_MS_init_132 : decode prog_19_method_1_code 132 = .ok (.aload_n 0, 1) := dc9_42 (by decide +kernel)
theorem d_MS_init_133 : decode prog_19_method_1_code 133 = .ok (.sipush 512, 3) := dc9_17 (by decide +kernel)
theorem d_MS_init_136 : decode prog_19_method_1_code 136 = .ok (.newarray .int, 2) := by decide +kernel
theorem d_MS_init_138 : decode prog_19_method_1_code 138 = .ok (.putfield 60, 3) := dc9_181 (by decide +kernel)
theorem d_MS_init_141 : decode prog_19_method_1_code 141 = .ok (.aload_n 0, 1) := dc9_42 (by decide +kernel)
theorem d_MS_init_142 : decode prog_19_method_1_code 142 = .ok (.sipush 512, 3) := dc9_17 (by decide +kernel)
theorem d_MS_init_145 : decode prog_19_method_1_code 145 = .ok (.newarray .boolean, 2) := by decide +kernel
theorem d_MS_init_147 : decode prog_19_method_1_code 147 = .ok (.putfield 63, 3) := dc9_181 (by decide +kernel)
theorem d_MS_init_150 : decode prog_19_method_1_code 150 = .ok (.aload_n 0, 1) := dc9_42 (by decide +kernel)
theorem d_MS_init_151 : decode prog_19_method_1_code 151 = .ok (.sipush 512, 3) := dc9_17 (by decide +kernel)
theorem d_MS_init_154 : decode prog_19_method_1_code 154 = .ok (.newarray .boolean, 2) := by decide +kernel
theorem d_MS_init_156 : decode prog_19_method_1_code 156 = .ok (.putfield 66, 3) := dc9_181 (by decide +kernel)
theorem d_MS_init_159 : decode prog_19_method_1_code 159 = .ok (.aload_n 0, 1) := dc9_42 (by decide +kernel)
theorem d_MS_init_160 : decode prog_19_method_1_code 160 = .ok (.sipush 512, 3) := dc9_17 (by decide +kernel)
theorem d_MS_init_163 : decode prog_19_method_1_code 163 = .ok (.anewarray 38, 3) := dc9_189 (by decide +kernel)
theorem d_MS_init_166 : decode prog_19_method_1_code 166 = .ok (.putfield 69, 3) := dc9_181 (by decide +kernel)
theorem d_MS_init_169 : decode prog_19_method_1_code 169 = .ok (.aload_n 0, 1) := dc9_42 (by decide +kernel)
theorem d_MS_init_170 : decode prog_19_method_1_code 170 = .ok (.bipush 40, 2) := dc9_16 (by decide +kernel)
theorem d_MS_init_172 : decode prog_19_method_1_code 172 = .ok (.newarray .int, 2) := by decide +kernel
theorem d_MS_init_174 : decode prog_19_method_1_code 174 = .ok (.putfield 72, 3) := dc9_181 (by decide +kernel)
theorem d_MS_init_177 : decode prog_19_method_1_code 177 = .ok (.aload_n 0, 1) := dc9_42 (by decide +kernel)
theorem d_MS_init_178 : decode prog_19_method_1_code 178 = .ok (.sipush 512, 3) := dc9_17 (by decide +kernel)
theorem d_MS_init_181 : decode prog_19_method_1_code 181 = .ok (.newarray .int, 2) := by decide +kernel
theorem d_MS_init_183 : decode prog_19_method_1_code 183 = .ok (.putfield 75, 3) := dc9_181 (by decide +kernel)
theorem d_MS_init_186 : decode prog_19_method_1_code 186 = .ok (.aload_n 0, 1) := dc9_42 (by decide +kernel)
theorem d_MS_init_187 : decode prog_19_method_1_code 187 = .ok (.sipush 1640, 3) := dc9_17 (by decide +kernel)
theorem d_MS_init_190 : decode prog_19_method_1_code 190 = .ok (.anewarray 38, 3) := dc9_189 (by decide +kernel)
theorem d_MS_init_193 : decode prog_19_method_1_code 193 = .ok (.putfield 78, 3) := dc9_181 (by decide +kernel)
theorem d_MS_init_196 : decode prog_19_method_1_code 196 = .ok (.aload_n 0, 1) := dc9_42 (by decide +kernel)
theorem d_MS_init_197 : decode prog_19_method_1_code 197 = .ok (.new 38, 3) := dc9_187 (by decide +kernel)
theorem d_MS_init_200 : decode prog_19_method_1_code 200 = .ok (.dup, 1) := dc9_89 (by decide +kernel)
theorem d_MS_init_201 : decode prog_19_method_1_code 201 = .ok (.bipush 8, 2) := dc9_16 (by decide +kernel)
theorem d_MS_init_203 : decode prog_19_method_1_code 203 = .ok (.invokespecial 81, 3) := dc9_183 (by decide +kernel)
theorem d_MS_init_206 : decode prog_19_method_1_code 206 = .ok (.putfield 84, 3) := dc9_181 (by decide +kernel)
theorem d_MS_init_209 : decode prog_19_method_1_code 209 = .ok (.aload_n 0, 1) := dc9_42 (by decide +kernel)
theorem d_MS_init_210 : decode prog_19_method_1_code 210 = .ok (.new 38, 3) := dc9_187 (by decide +kernel)
theorem d_MS_init_213 : decode prog_19_method_1_code 213 = .ok (.dup, 1) := dc9_89 (by decide +kernel)
theorem d_MS_init_214 : decode prog_19_method_1_code 214 = .ok (.bipush 56, 2) := dc9_16 (by decide +kernel)
theorem d_MS_init_216 : decode prog_19_method_1_code 216 = .ok (.invokespecial 81, 3) := dc9_183 (by decide +kernel)
theorem d_MS_init_219 : decode prog_19_method_1_code 219 = .ok (.putfield 88, 3) := dc9_181 (by decide +kernel)
theorem d_MS_init_222 : decode prog_19_method_1_code 222 = .ok (.aload_n 0, 1) := dc9_42 (by decide +kernel)
theorem d_MS_init_223 : decode prog_19_method_1_code 223 = .ok (.new 38, 3) := dc9_187 (by decide +kernel)
theorem d_MS_init_226 : decode prog_19_method_1_code 226 = .ok (.dup, 1) := dc9_89 (by decide +kernel)
theorem d_MS_init_227 : decode prog_19_method_1_code 227 = .ok (.sipush 900, 3) := dc9_17 (by decide +kernel)
theorem d_MS_init_230 : decode prog_19_method_1_code 230 = .ok (.invokespecial 81, 3) := dc9_183 (by decide +kernel)
theorem d_MS_init_233 : decode prog_19_method_1_code 233 = .ok (.putfield 91, 3) := dc9_181 (by decide +kernel)
theorem d_MS_init_236 : decode prog_19_method_1_code 236 = .ok (.aload_n 0, 1) := dc9_42 (by decide +kernel)
theorem d_MS_init_237 : decode prog_19_method_1_code 237 = .ok (.new 38, 3) := dc9_187 (by decide +kernel)
theorem d_MS_init_240 : decode prog_19_method_1_code 240 = .ok (.dup, 1) := dc9_89 (by decide +kernel)
theorem d_MS_init_241 : decode prog_19_method_1_code 241 = .ok (.sipush 900, 3) := dc9_17 (by decide +kernel)
theorem d_MS_init_244 : decode prog_19_method_1_code 244 = .ok (.invokespecial 81, 3) := dc9_183 (by decide +kernel)
theorem d_MS_init_247 : decode prog_19_method_1_code 247 = .ok (.putfield 94, 3) := dc9_181 (by decide +kernel)
theorem d_MS_init_250 : decode prog_19_method_1_code 250 = .ok (.aload_n 0, 1) := dc9_42 (by decide +kernel)
theorem d_MS_init_251 : decode prog_19_method_1_code 251 = .ok (.new 38, 3) := dc9_187 (by decide +kernel)
theorem d_MS_init_254 : decode prog_19_method_1_code 254 = .ok (.dup, 1) := dc9_89 (by decide +kernel)
theorem d_MS_init_255 : decode prog_19_method_1_code 255 = .ok (.sipush 900, 3) := dc9_17 (by decide +kernel)
theorem d_MS_init_258 : decode prog_19_method_1_code 258 = .ok (.invokespecial 81, 3) := dc9_183 (by decide +kernel)
theorem d_MS_init_261 : decode prog_19_method_1_code 261 = .ok (.putfield 97, 3) := dc9_181 (by decide +kernel)
theorem d_MS_init_264 : decode prog_19_method_1_code 264 = .ok (.aload_n 0, 1) := dc9_42 (by decide +kernel)
theorem d_MS_init_265 : decode prog_19_method_1_code 265 = .ok (.sipush 400, 3) := dc9_17 (by decide +kernel)
theorem d_MS_init_268 : decode prog_19_method_1_code 268 = .ok (.newarray .int, 2) := by decide +kernel
theorem d_MS_init_270 : decode prog_19_method_1_code 270 = .ok (.putfield 100, 3) := dc9_181 (by decide +kernel)
abbrev U_MF : Type := Nat × (Nat × Nat × Nat × Nat)
/-- fractions of 56 parts in a row -/
def f_pool (tA : Nat → ClassId) (r : Nat → U_MF) : Nat → va_W
  | 0 => []
  | k + 1 => f_pool tA r k ++ w_MF tA (r k).1 56 (r k).2
theorem f_pool_le {tA : Nat → ClassId} {r : Nat → U_MF} {j : Nat} {v : U_MF} : ∀ k, k ≤ j → f_pool tA (va_up r j v) k = f_pool tA r k
  | 0, _ => rfl
  | k + 1, h => by
    show f_pool tA (va_up r j v) k ++ w_MF tA (va_up r j v k).1 56 (va_up r j v k).2 = f_pool tA r k ++ w_MF tA (r k).1 56 (r k).2
    have e9 : va_up r j v k = r k := by unfold va_up; rw [if_neg (by omega)]
    rw [f_pool_le k (by omega), e9]
theorem f_pool_up {tA : Nat → ClassId} {r : Nat → U_MF} {k : Nat} {v : U_MF} : f_pool tA (va_up r k v) (k + 1) = f_pool tA r k ++ w_MF tA v.1 56 v.2 := by
  show f_pool tA (va_up r k v) k ++ w_MF tA (va_up r k v k).1 56 (va_up r k v k).2 = _
  have e9 : va_up r k v k = v := by unfold va_up; rw [if_pos rfl]
  rw [f_pool_le k (Nat.le_refl k), e9]
abbrev rA (tA : Nat → ClassId) (N : Nat) (g : Nat → Option Nat) : va_E := .inl (tA 6, N, .inr (.inr (.inr (.inr g))))
set_option maxHeartbeats 4000000 in
set_option maxRecDepth 100000 in
/-- new Fraction(56) into an array: the pool grows -/
theorem MS_make {p : Program} {l : Launch} {e : Env} {R : Room} {s : State} {m : MethodId} {args : Array Value} {below : List Frame} {meth : Method} {c : Code} {H : Heap} {locs : List Loc} {cells slots : Nat} {Q : State → Prop} {D : va_G} {tA : Nat → ClassId} {A : Nat → Prop} {X T0 : va_W} {r : Nat → U_MF} {n q0 a N i pc nL : Nat} {g : Nat → Option Nat} {ls : Array Slot} {cc : ByteArray} (hx : p.tables.exec = Jvm.exec) (hb : c.code = cc) (hml : c.maxLocals = nL) (hls : ls.size = nL) (hh : zH s) (hg : ∀ w ∈ lw_R, w.before args s = true) (hown : s.vm.findClass "ChanceArenaModel$Solver" = some m.cls) (hK : va_K D vwCl (zT tA) s) (hA : ∀ q, s.heap.size ≤ q → A q) (hP : va_P D vwCl (X ++ (T0 ++ f_pool tA r n)) H) (hD : va_D A (X ++ (T0 ++ f_pool tA r n))) (hS : va_S A s.heap H locs)
    (hq : X[q0]? = some (a, rA tA N g)) (hi : i < N) (hN : N < 2 ^ 31) (d0 : decode cc pc = .ok (.new 38, 3)) (d3 : decode cc (pc + 3) = .ok (.dup, 1)) (d4 : decode cc (pc + 4) = .ok (.bipush 56, 2)) (d6 : decode cc (pc + 6) = .ok (.invokespecial 81, 3)) (d9 : decode cc (pc + 9) = .ok (.aastore, 1)) (hRf : 3 ≤ R.frames) (hRl : 61 ≤ R.locals) (hc : cells + 5 ≤ R.cells) (hs : slots + 119 ≤ R.slots)
    (kk : ∀ (v : U_MF) (H1 : Heap) (locs1 : List Loc), va_P D vwCl (X.set q0 (a, rA tA N (va_up g i (some v.1))) ++ (T0 ++ f_pool tA (va_up r n v) (n + 1))) H1 → va_D A (X.set q0 (a, rA tA N (va_up g i (some v.1))) ++ (T0 ++ f_pool tA (va_up r n v) (n + 1))) → va_S A s.heap H1 locs1 → W p l e R s m args below meth c H1 locs1 (cells + 5) (slots + 119) Q (F0 m (pc + 10) ls [])) : W p l e R s m args below meth c H locs cells slots Q (F0 m pc ls [.int (nI i), .ref a]) := by
  refine va_new (ci := 18) (fs := [.null, .null, .int 0]) (C := R_MF) (T := T_MF) (N := 3) hx hb hg i_MF t_MF o_MF hown (hg _ k9_221) (hg _ k9_158) (hg _ k1_19) hK hP hD hS hA rfl f_MF (by omega) (by omega) d0 (fun q H1 hP1 hD1 hS1 => ?_)
  clear hP hD hS
  refine lv_dup hx hb d3 rfl ?_
  refine lv_bipush (v := nI 56) hx hb d4 (by decide) ?_
  refine zInit hP1 hD1 hS1 hA (va_runI (As := [.int (nI 56)]) (rest := [.ref q, .int (nI i), .ref a]) ⟨hx, hb, hml, hown, hg⟩ (c_MF_init l D tA q H1.size 56 (by decide) (by decide)) (cwI 1 hg (zGood k9_161 rfl) rfl rfl rfl (hg _ k1_19) (hg _ k9_223) (hg _ k9_160) rfl (by decide +kernel) ⟨hRf, hRl⟩) (zPreI hh hK hP1 hD1) rfl rfl hls rfl (lv_room (Nat.le_of_ble_eq_true rfl)) d6 ⟨by omega, by omega⟩) (fun u H2 locs2 _ hP2 hD2 hS2 => ?_)
  clear hP1 hD1 hS1
  have hlt : q0 < X.length := (List.getElem?_eq_some_iff.mp hq).1
  refine va_astq hx hb hK hP2 hD2 hS2 q0 6 _ 18 (by rw [List.append_assoc, List.getElem?_append_left hlt]; exact hq) rfl zAt rfl (vp_in_nI hi hN) d9 (fun H3 locs3 hP3 hD3 hS3 => ?_)
  clear hP2 hD2 hS2
  rw [nI_clamp (by omega), List.append_assoc, List.append_assoc, ← f_pool_up (v := (q, u)), List.set_append_left _ _ hlt] at hP3 hD3
  refine W.cs (cells' := cells + 5) (slots' := slots + 119) (by omega) (by omega) ?_
  exact kk (q, u) _ _ hP3 hD3 hS3
