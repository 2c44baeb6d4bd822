theorem k1_2 : (Jvm.Cond.initialized "ChanceArena$Words") ∈ lw_R := zR (zk_1 _ (List.mem_of_getElem? (i := 2) (by decide +kernel))) rfl
theorem k1_3 : (Jvm.Cond.initialized "ChanceArena$TextReader") ∈ lw_R := zR (zk_1 _ (List.mem_of_getElem? (i := 3) (by decide +kernel))) rfl
theorem k1_6 : (Jvm.Cond.initialized "ChanceArena$Program") ∈ lw_R := zR (zk_1 _ (List.mem_of_getElem? (i := 6) (by decide +kernel))) rfl
theorem k1_7 : (Jvm.Cond.initialized "ChanceArena$Game") ∈ lw_R := zR (zk_1 _ (List.mem_of_getElem? (i := 7) (by decide +kernel))) rfl
theorem k1_8 : (Jvm.Cond.initialized "ChanceArena$Solver") ∈ lw_R := zR (zk_1 _ (List.mem_of_getElem? (i := 8) (by decide +kernel))) rfl
theorem k1_13 : (Jvm.Cond.initialized "ChanceArena$Fractions") ∈ lw_R := zR (zk_1 _ (List.mem_of_getElem? (i := 13) (by decide +kernel))) rfl
theorem k1_44 : (Jvm.Cond.code ({ cls := "ChanceArena", name := "<init>", desc := "()V" } : Jvm.MethodName) prog_1_method_1_code (1 : Nat) (Option.none : Option Jvm.ClassFile.FieldType)) ∈ lw_R := zR (zk_1 _ (List.mem_of_getElem? (i := 44) (by decide +kernel))) rfl
theorem k1_45 : (Jvm.Cond.methodLink "ChanceArena" (1 : Nat) ({ cls := "java/lang/Object", name := "<init>", desc := "()V" } : Jvm.MethodName)) ∈ lw_R := zR (zk_1 _ (List.mem_of_getElem? (i := 45) (by decide +kernel))) rfl
theorem k1_48 : (Jvm.Cond.classLink "ChanceArena" (17 : Nat) "ChanceArena$Words") ∈ lw_R := zR (zk_1 _ (List.mem_of_getElem? (i := 48) (by decide +kernel))) rfl
theorem k1_49 : (Jvm.Cond.instantiable "ChanceArena$Words" (6 : Nat)) ∈ lw_R := zR (zk_1 _ (List.mem_of_getElem? (i := 49) (by decide +kernel))) rfl
theorem k1_50 : (Jvm.Cond.methodLinkNest "ChanceArena" (19 : Nat) ({ cls := "ChanceArena$Words", name := "<init>", desc := "()V" } : Jvm.MethodName) "ChanceArena") ∈ lw_R := zR (zk_1 _ (List.mem_of_getElem? (i := 50) (by decide +kernel))) rfl
theorem k1_51 : (Jvm.Cond.instanceMethod ({ cls := "ChanceArena$Words", name := "<init>", desc := "()V" } : Jvm.MethodName)) ∈ lw_R := zR (zk_1 _ (List.mem_of_getElem? (i := 51) (by decide +kernel))) rfl
theorem k1_83 : (Jvm.Cond.classLink "ChanceArena" (24 : Nat) "ChanceArena$TextReader") ∈ lw_R := zR (zk_1 _ (List.mem_of_getElem? (i := 83) (by decide +kernel))) rfl
theorem k1_84 : (Jvm.Cond.instantiable "ChanceArena$TextReader" (9 : Nat)) ∈ lw_R := zR (zk_1 _ (List.mem_of_getElem? (i := 84) (by decide +kernel))) rfl
theorem k1_85 : (Jvm.Cond.methodLinkNest "ChanceArena" (26 : Nat) ({ cls := "ChanceArena$TextReader", name := "<init>", desc := "()V" } : Jvm.MethodName) "ChanceArena") ∈ lw_R := zR (zk_1 _ (List.mem_of_getElem? (i := 85) (by decide +kernel))) rfl
theorem k1_86 : (Jvm.Cond.instanceMethod ({ cls := "ChanceArena$TextReader", name := "<init>", desc := "()V" } : Jvm.MethodName)) ∈ lw_R := zR (zk_1 _ (List.mem_of_getElem? (i := 86) (by decide +kernel))) rfl
theorem k2_17 : (Jvm.Cond.classLink "ChanceArena" (31 : Nat) "ChanceArena$Program") ∈ lw_R := zR (zk_2 _ (List.mem_of_getElem? (i := 17) (by decide +kernel))) rfl
theorem k2_18 : (Jvm.Cond.instantiable "ChanceArena$Program" (20 : Nat)) ∈ lw_R := zR (zk_2 _ (List.mem_of_getElem? (i := 18) (by decide +kernel))) rfl
theorem k2_19 : (Jvm.Cond.methodLinkNest "ChanceArena" (33 : Nat) ({ cls := "ChanceArena$Program", name := "<init>", desc := "()V" } : Jvm.MethodName) "ChanceArena") ∈ lw_R := zR (zk_2 _ (List.mem_of_getElem? (i := 19) (by decide +kernel))) rfl
theorem k2_20 : (Jvm.Cond.instanceMethod ({ cls := "ChanceArena$Program", name := "<init>", desc := "()V" } : Jvm.MethodName)) ∈ lw_R := zR (zk_2 _ (List.mem_of_getElem? (i := 20) (by decide +kernel))) rfl
theorem k2_126 : (Jvm.Cond.classLink "ChanceArena" (51 : Nat) "ChanceArena$Game") ∈ lw_R := zR (zk_2 _ (List.mem_of_getElem? (i := 126) (by decide +kernel))) rfl
theorem k2_127 : (Jvm.Cond.instantiable "ChanceArena$Game" (19 : Nat)) ∈ lw_R := zR (zk_2 _ (List.mem_of_getElem? (i := 127) (by decide +kernel))) rfl
theorem k2_128 : (Jvm.Cond.methodLinkNest "ChanceArena" (53 : Nat) ({ cls := "ChanceArena$Game", name := "<init>", desc := "()V" } : Jvm.MethodName) "ChanceArena") ∈ lw_R := zR (zk_2 _ (List.mem_of_getElem? (i := 128) (by decide +kernel))) rfl
theorem k2_129 : (Jvm.Cond.instanceMethod ({ cls := "ChanceArena$Game", name := "<init>", desc := "()V" } : Jvm.MethodName)) ∈ lw_R := zR (zk_2 _ (List.mem_of_getElem? (i := 129) (by decide +kernel))) rfl
theorem k2_221 : (Jvm.Cond.classLink "ChanceArena" (58 : Nat) "ChanceArena$Solver") ∈ lw_R := zR (zk_2 _ (List.mem_of_getElem? (i := 221) (by decide +kernel))) rfl
theorem k2_222 : (Jvm.Cond.instantiable "ChanceArena$Solver" (18 : Nat)) ∈ lw_R := zR (zk_2 _ (List.mem_of_getElem? (i := 222) (by decide +kernel))) rfl
theorem k2_223 : (Jvm.Cond.methodLink "ChanceArena" (60 : Nat) ({ cls := "ChanceArena$Solver", name := "<init>", desc := "(LChanceArena$Game;)V" } : Jvm.MethodName)) ∈ lw_R := zR (zk_2 _ (List.mem_of_getElem? (i := 223) (by decide +kernel))) rfl
theorem k2_224 : (Jvm.Cond.instanceMethod ({ cls := "ChanceArena$Solver", name := "<init>", desc := "(LChanceArena$Game;)V" } : Jvm.MethodName)) ∈ lw_R := zR (zk_2 _ (List.mem_of_getElem? (i := 224) (by decide +kernel))) rfl
theorem k3_163 : (Jvm.Cond.classLink "ChanceArena" (67 : Nat) "ChanceArena$Fractions") ∈ lw_R := zR (zk_3 _ (List.mem_of_getElem? (i := 163) (by decide +kernel))) rfl
theorem k3_164 : (Jvm.Cond.instantiable "ChanceArena$Fractions" (2 : Nat)) ∈ lw_R := zR (zk_3 _ (List.mem_of_getElem? (i := 164) (by decide +kernel))) rfl
theorem k3_165 : (Jvm.Cond.methodLinkNest "ChanceArena" (69 : Nat) ({ cls := "ChanceArena$Fractions", name := "<init>", desc := "()V" } : Jvm.MethodName) "ChanceArena") ∈ lw_R := zR (zk_3 _ (List.mem_of_getElem? (i := 165) (by decide +kernel))) rfl
theorem k3_166 : (Jvm.Cond.instanceMethod ({ cls := "ChanceArena$Fractions", name := "<init>", desc := "()V" } : Jvm.MethodName)) ∈ lw_R := zR (zk_3 _ (List.mem_of_getElem? (i := 166) (by decide +kernel))) rfl
theorem k3_183 : (Jvm.Cond.classLink "ChanceArena" (83 : Nat) "ChanceArena$Natural") ∈ lw_R := zR (zk_3 _ (List.mem_of_getElem? (i := 183) (by decide +kernel))) rfl
theorem k3_184 : (Jvm.Cond.methodLinkNest "ChanceArena" (85 : Nat) ({ cls := "ChanceArena$Natural", name := "<init>", desc := "()V" } : Jvm.MethodName) "ChanceArena") ∈ lw_R := zR (zk_3 _ (List.mem_of_getElem? (i := 184) (by decide +kernel))) rfl
theorem k3_185 : (Jvm.Cond.classLink "ChanceArena" (90 : Nat) "ChanceArena$Fraction") ∈ lw_R := zR (zk_3 _ (List.mem_of_getElem? (i := 185) (by decide +kernel))) rfl
theorem k3_186 : (Jvm.Cond.methodLinkNest "ChanceArena" (92 : Nat) ({ cls := "ChanceArena$Fraction", name := "<init>", desc := "()V" } : Jvm.MethodName) "ChanceArena") ∈ lw_R := zR (zk_3 _ (List.mem_of_getElem? (i := 186) (by decide +kernel))) rfl
theorem k3_187 : (Jvm.Cond.fieldLink "ChanceArena" (7 : Nat) "ChanceArena" "tape" "[C") ∈ lw_R := zR (zk_3 _ (List.mem_of_getElem? (i := 187) (by decide +kernel))) rfl
theorem k3_188 : (Jvm.Cond.fieldLink "ChanceArena" (13 : Nat) "ChanceArena" "tapeLength" "I") ∈ lw_R := zR (zk_3 _ (List.mem_of_getElem? (i := 188) (by decide +kernel))) rfl
theorem k3_189 : (Jvm.Cond.fieldLink "ChanceArena" (20 : Nat) "ChanceArena" "words" "LChanceArena$Words;") ∈ lw_R := zR (zk_3 _ (List.mem_of_getElem? (i := 189) (by decide +kernel))) rfl
theorem k3_190 : (Jvm.Cond.fieldLink "ChanceArena" (27 : Nat) "ChanceArena" "reader" "LChanceArena$TextReader;") ∈ lw_R := zR (zk_3 _ (List.mem_of_getElem? (i := 190) (by decide +kernel))) rfl
theorem k3_191 : (Jvm.Cond.fieldLink "ChanceArena" (34 : Nat) "ChanceArena" "text" "LChanceArena$Program;") ∈ lw_R := zR (zk_3 _ (List.mem_of_getElem? (i := 191) (by decide +kernel))) rfl
theorem k3_192 : (Jvm.Cond.fieldLink "ChanceArena" (38 : Nat) "ChanceArena" "spare" "LChanceArena$Program;") ∈ lw_R := zR (zk_3 _ (List.mem_of_getElem? (i := 192) (by decide +kernel))) rfl
theorem k3_193 : (Jvm.Cond.fieldLink "ChanceArena" (41 : Nat) "ChanceArena" "hasText" "Z") ∈ lw_R := zR (zk_3 _ (List.mem_of_getElem? (i := 193) (by decide +kernel))) rfl
theorem k3_194 : (Jvm.Cond.fieldLink "ChanceArena" (45 : Nat) "ChanceArena" "faultPlace" "I") ∈ lw_R := zR (zk_3 _ (List.mem_of_getElem? (i := 194) (by decide +kernel))) rfl
theorem k3_195 : (Jvm.Cond.fieldLink "ChanceArena" (48 : Nat) "ChanceArena" "faultState" "I") ∈ lw_R := zR (zk_3 _ (List.mem_of_getElem? (i := 195) (by decide +kernel))) rfl
theorem k3_196 : (Jvm.Cond.fieldLink "ChanceArena" (54 : Nat) "ChanceArena" "game" "LChanceArena$Game;") ∈ lw_R := zR (zk_3 _ (List.mem_of_getElem? (i := 196) (by decide +kernel))) rfl
theorem k3_197 : (Jvm.Cond.fieldLink "ChanceArena" (63 : Nat) "ChanceArena" "solver" "LChanceArena$Solver;") ∈ lw_R := zR (zk_3 _ (List.mem_of_getElem? (i := 197) (by decide +kernel))) rfl
theorem k3_198 : (Jvm.Cond.fieldLink "ChanceArena" (70 : Nat) "ChanceArena" "values" "LChanceArena$Fractions;") ∈ lw_R := zR (zk_3 _ (List.mem_of_getElem? (i := 198) (by decide +kernel))) rfl
theorem k3_199 : (Jvm.Cond.fieldLink "ChanceArena" (74 : Nat) "ChanceArena" "withins" "LChanceArena$Fractions;") ∈ lw_R := zR (zk_3 _ (List.mem_of_getElem? (i := 199) (by decide +kernel))) rfl
theorem k3_200 : (Jvm.Cond.fieldLink "ChanceArena" (77 : Nat) "ChanceArena" "earlier" "LChanceArena$Fractions;") ∈ lw_R := zR (zk_3 _ (List.mem_of_getElem? (i := 200) (by decide +kernel))) rfl
theorem k3_201 : (Jvm.Cond.fieldLink "ChanceArena" (80 : Nat) "ChanceArena" "judged" "LChanceArena$Fractions;") ∈ lw_R := zR (zk_3 _ (List.mem_of_getElem? (i := 201) (by decide +kernel))) rfl
theorem k3_202 : (Jvm.Cond.fieldLink "ChanceArena" (86 : Nat) "ChanceArena" "number" "LChanceArena$Natural;") ∈ lw_R := zR (zk_3 _ (List.mem_of_getElem? (i := 202) (by decide +kernel))) rfl
theorem k3_203 : (Jvm.Cond.fieldLink "ChanceArena" (93 : Nat) "ChanceArena" "shown" "LChanceArena$Fraction;") ∈ lw_R := zR (zk_3 _ (List.mem_of_getElem? (i := 203) (by decide +kernel))) rfl
theorem k3_204 : (Jvm.Cond.fieldLink "ChanceArena" (97 : Nat) "ChanceArena" "printed" "[C") ∈ lw_R := zR (zk_3 _ (List.mem_of_getElem? (i := 204) (by decide +kernel))) rfl
theorem k3_205 : (Jvm.Cond.fieldLink "ChanceArena" (100 : Nat) "ChanceArena" "printedLength" "I") ∈ lw_R := zR (zk_3 _ (List.mem_of_getElem? (i := 205) (by decide +kernel))) rfl
theorem d_CA_init_0 : decode prog_1_method_1_code 0 = .ok (.aload_n 0, 1) := dc9_42 (by decide +kernel)
theorem d_CA_init_1 : decode prog_1_method_1_code 1 = .ok (.invokespecial 1, 3) := dc9_183 (by decide +kernel)
theorem d_CA_init_4 : decode prog_1_method_1_code 4 = .ok (.aload_n 0, 1) := dc9_42 (by decide +kernel)
theorem d_CA_init_5 : decode prog_1_method_1_code 5 = .ok (.sipush 256, 3) := dc9_17 (by decide +kernel)
theorem d_CA_init_8 : decode prog_1_method_1_code 8 = .ok (.newarray .char, 2) := by decide +kernel
theorem d_CA_init_10 : decode prog_1_method_1_code 10 = .ok (.putfield 7, 3) := dc9_181 (by decide +kernel)
theorem d_CA_init_13 : decode prog_1_method_1_code 13 = .ok (.aload_n 0, 1) := dc9_42 (by decide +kernel)
theorem d_CA_init_14 : decode prog_1_method_1_code 14 = .ok (.iconst 0, 1) := dc9_3 (by decide +kernel)
theorem d_CA_init_15 : decode prog_1_method_1_code 15 = .ok (.putfield 13, 3) := dc9_181 (by decide +kernel)
theorem d_CA_init_18 : decode prog_1_method_1_code 18 = .ok (.aload_n 0, 1) := dc9_42 (by decide +kernel)
theorem d_CA_init_19 : decode prog_1_method_1_code 19 = .ok (.new 17, 3) := dc9_187 (by decide +kernel)
theorem d_CA_init_22 : decode prog_1_method_1_code 22 = .ok (.dup, 1) := dc9_89 (by decide +kernel)
theorem d_CA_init_23 : decode prog_1_method_1_code 23 = .ok (.invokespecial 19, 3) := dc9_183 (by decide +kernel)
theorem d_CA_init_26 : decode prog_1_method_1_code 26 = .ok (.putfield 20, 3) := dc9_181 (by decide +kernel)
theorem d_CA_init_29 : decode prog_1_method_1_code 29 = .ok (.aload_n 0, 1) := dc9_42 (by decide +kernel)
theorem d_CA_init_30 : decode prog_1_method_1_code 30 = .ok (.new 24, 3) := dc9_187 (by decide +kernel)
theorem d_CA_init_33 : decode prog_1_method_1_code 33 = .ok (.dup, 1) := dc9_89 (by decide +kernel)
theorem d_CA_init_34 : decode prog_1_method_1_code 34 = .ok (.invokespecial 26, 3) := dc9_183 (by decide +kernel)
theorem d_CA_init_37 : decode prog_1_method_1_code 37 = .ok (.putfield 27, 3) := dc9_181 (by decide +kernel)
theorem d_CA_init_40 : decode prog_1_method_1_code 40 = .ok (.aload_n 0, 1) := dc9_42 (by decide +kernel)
theorem d_CA_init_41 : decode prog_1_method_1_code 41 = .ok (.new 31, 3) := dc9_187 (by decide +kernel)
theorem d_CA_init_44 : decode prog_1_method_1_code 44 = .ok (.dup, 1) := dc9_89 (by decide +kernel)
theorem d_CA_init_45 : decode prog_1_method_1_code 45 = .ok (.invokespecial 33, 3) := dc9_183 (by decide +kernel)
theorem d_CA_init_48 : decode prog_1_method_1_code 48 = .ok (.putfield 34, 3) := dc9_181 (by decide +kernel)
theorem d_CA_init_51 : decode prog_1_method_1_code 51 = .ok (.aload_n 0, 1) := dc9_42 (by decide +kernel)
theorem d_CA_init_52 : decode prog_1_method_1_code 52 = .ok (.new 31, 3) := dc9_187 (by decide +kernel)
theorem d_CA_init_55 : decode prog_1_method_1_code 55 = .ok (.dup, 1) := dc9_89 (by decide +kernel)
theorem d_CA_init_56 : decode prog_1_method_1_code 56 = .ok (.invokespecial 33, 3) := dc9_183 (by decide +kernel)
theorem d_CA_init_59 : decode prog_1_method_1_code 59 = .ok (.putfield 38, 3) := dc9_181 (by decide +kernel)
theorem d_CA_init_62 : decode prog_1_method_1_code 62 = .ok (.aload_n 0, 1) := dc9_42 (by decide +kernel)
theorem d_CA_init_63 : decode prog_1_method_1_code 63 = .ok (.iconst 0, 1) := dc9_3 (by decide +kernel)
theorem d_CA_init_64 : decode prog_1_method_1_code 64 = .ok (.putfield 41, 3) := dc9_181 (by decide +kernel)
theorem d_CA_init_67 : decode prog_1_method_1_code 67 = .ok (.aload_n 0, 1) := dc9_42 (by decide +kernel)
theorem d_CA_init_68 : decode prog_1_method_1_code 68 = .ok (.iconst (-1), 1) := dc9_2 (by decide +kernel)
theorem d_CA_init_69 : decode prog_1_method_1_code 69 = .ok (.putfield 45, 3) := dc9_181 (by decide +kernel)
theorem d_CA_init_72 : decode prog_1_method_1_code 72 = .ok (.aload_n 0, 1) := dc9_42 (by decide +kernel)
theorem d_CA_init_73 : decode prog_1_method_1_code 73 = .ok (.iconst (-1), 1) := dc9_2 (by decide +kernel)
theorem d_CA_init_74 : decode prog_1_method_1_code 74 = .ok (.putfield 48, 3) := dc9_181 (by decide +kernel)
theorem d_CA_init_77 : decode prog_1_method_1_code 77 = .ok (.aload_n 0, 1) := dc9_42 (by decide +kernel)
theorem d_CA_init_78 : decode prog_1_method_1_code 78 = .ok (.new 51, 3) := dc9_187 (by decide +kernel)
theorem d_CA_init_81 : decode prog_1_method_1_code 81 = .ok (.dup, 1) := dc9_89 (by decide +kernel)
theorem d_CA_init_82 : decode prog_1_method_1_code 82 = .ok (.invokespecial 53, 3) := dc9_183 (by decide +kernel)
theorem d_CA_init_85 : decode prog_1_method_1_code 85 = .ok (.putfield 54, 3) := dc9_181 (by decide +kernel)
theorem d_CA_init_88 : decode prog_1_method_1_code 88 = .ok (.aload_n 0, 1) := dc9_42 (by decide +kernel)
theorem d_CA_init_89 : decode prog_1_method_1_code 89 = .ok (.new 58, 3) := dc9_187 (by decide +kernel)
theorem d_CA_init_92 : decode prog_1_method_1_code 92 = .ok (.dup, 1) := dc9_89 (by decide +kernel)
theorem d_CA_init_93 : decode prog_1_method_1_code 93 = .ok (.aload_n 0, 1) := dc9_42 (by decide +kernel)
theorem d_CA_init_94 : decode prog_1_method_1_code 94 = .ok (.getfield 54, 3) := dc9_180 (by decide +kernel)
theorem d_CA_init_97 : decode prog_1_method_1_code 97 = .ok (.invokespecial 60, 3) := dc9_183 (by decide +kernel)
theorem d_CA_init_100 : decode prog_1_method_1_code 100 = .ok (.putfield 63, 3) := dc9_181 (by decide +kernel)
theorem d_CA_init_103 : decode prog_1_method_1_code 103 = .ok (.aload_n 0, 1) := dc9_42 (by decide +kernel)
theorem d_CA_init_104 : decode prog_1_method_1_code 104 = .ok (.new 67, 3) := dc9_187 (by decide +kernel)
theorem d_CA_init_107 : decode prog_1_method_1_code 107 = .ok (.dup, 1) := dc9_89 (by decide +kernel)
theorem d_CA_init_108 : decode prog_1_method_1_code 108 = .ok (.invokespecial 69, 3) := dc9_183 (by decide +kernel)
theorem d_CA_init_111 : decode prog_1_method_1_code 111 = .ok (.putfield 70, 3) := dc9_181 (by decide +kernel)
theorem d_CA_init_114 : decode prog_1_method_1_code 114 = .ok (.aload_n 0, 1) := dc9_42 (by decide +kernel)
theorem d_CA_init_115 : decode prog_1_method_1_code 115 = .ok (.new 67, 3) := dc9_187 (by decide +kernel)
theorem d_CA_init_118 : decode prog_1_method_1_code 118 = .ok (.dup, 1) := dc9_89 (by decide +kernel)
theorem d_CA_init_119 : decode prog_1_method_1_code 119 = .ok (.invokespecial 69, 3) := dc9_183 (by decide +kernel)
theorem d_CA_init_122 : decode prog_1_method_1_code 122 = .ok (.putfield 74, 3) := dc9_181 (by decide +kernel)
theorem d_CA_init_125 : decode prog_1_method_1_code 125 = .ok (.aload_n 0, 1) := dc9_42 (by decide +kernel)
theorem d_CA_init_126 : decode prog_1_method_1_code 126 = .ok (.new 67, 3) := dc9_187 (by decide +kernel)
theorem d_CA_init_129 : decode prog_1_method_1_code 129 = .ok (.dup, 1) := dc9_89 (by decide +kernel)
theorem d_CA_init_130 : decode prog_1_method_1_code 130 = .ok (.invokespecial 69, 3) := dc9_183 (by decide +kernel)
theorem d_CA_init_133 : decode prog_1_method_1_code 133 = .ok (.putfield 77, 3) := dc9_181 (by decide +kernel)
theorem d_CA_init_136 : decode prog_1_method_1_code 136 = .ok (.aload_n 0, 1) := dc9_42 (by decide +kernel)
theorem d_CA_init_137 : decode prog_1_method_1_code 137 = .ok (.new 67, 3) := dc9_187 (by decide +kernel)
theorem d_CA_init_140 : decode prog_1_method_1_code 140 = .ok (.dup, 1) := dc9_89 (by decide +kernel)
theorem d_CA_init_141 : decode prog_1_method_1_code 141 = .ok (.invokespecial 69, 3) := dc9_183 (by decide +kernel)
theorem d_CA_init_144 : decode prog_1_method_1_code 144 = .ok (.putfield 80, 3) := dc9_181 (by decide +kernel)
theorem d_CA_init_147 : decode prog_1_method_1_code 147 = .ok (.aload_n 0, 1) := dc9_42 (by decide +kernel)
theorem d_CA_init_148 : decode prog_1_method_1_code 148 = .ok (.new 83, 3) := dc9_187 (by decide +kernel)
theorem d_CA_init_151 : decode prog_1_method_1_code 151 = .ok (.dup, 1) := dc9_89 (by decide +kernel)
theorem d_CA_init_152 : decode prog_1_method_1_code 152 = .ok (.invokespecial 85, 3) := dc9_183 (by decide +kernel)
theorem d_CA_init_155 : decode prog_1_method_1_code 155 = .ok (.putfield 86, 3) := dc9_181 (by decide +kernel)
theorem d_CA_init_158 : decode prog_1_method_1_code 158 = .ok (.aload_n 0, 1) := dc9_42 (by decide +kernel)
theorem d_CA_init_159 : decode prog_1_method_1_code 159 = .ok (.new 90, 3) := dc9_187 (by decide +kernel)
theorem d_CA_init_162 : decode prog_1_method_1_code 162 = .ok (.dup, 1) := dc9_89 (by decide +kernel)
theorem d_CA_init_163 : decode prog_1_method_1_code 163 = .ok (.invokespecial 92, 3) := dc9_183 (by decide +kernel)
theorem d_CA_init_166 : decode prog_1_method_1_code 166 = .ok (.putfield 93, 3) := dc9_181 (by decide +kernel)
theorem d_CA_init_169 : decode prog_1_method_1_code 169 = .ok (.aload_n 0, 1) := dc9_42 (by decide +kernel)
theorem d_CA_init_170 : decode prog_1_method_1_code 170 = .ok (.sipush 400, 3) := dc9_17 (by decide +kernel)
theorem d_CA_init_173 : decode prog_1_method_1_code 173 = .ok (.newarray .char, 2) := by decide +kernel
theorem d_CA_init_175 : decode prog_1_method_1_code 175 = .ok (.putfield 97, 3) := dc9_181 (by decide +kernel)
theorem d_CA_init_178 : decode prog_1_method_1_code 178 = .ok (.aload_n 0, 1) := dc9_42 (by decide +kernel)
theorem d_CA_init_179 : decode prog_1_method_1_code 179 = .ok (.iconst 0, 1) := dc9_3 (by decide +kernel)
theorem d_CA_init_180 : decode prog_1_method_1_code 180 = .ok (.putfield 100, 3) := dc9_181 (by decide +kernel)
theorem d_CA_init_183 : decode prog_1_method_1_code 183 = .ok (.return_, 1) := dc9_177 (by decide +kernel)
abbrev S_CA : Type := Nat × (Nat × S_Wo) × (Nat × S_TR) × (Nat × S_Pr) × (Nat × S_Pr) × (Nat × S_Ga) × (Nat × S_So) × (Nat × S_Fs) × (Nat × S_Fs) × (Nat × S_Fs) × (Nat × S_Fs) × (Nat × S_Na) × (Nat × S_Fr) × Nat
def w_CA (tA : Nat → ClassId) (h0 : Nat) (u : S_CA) : va_W := match u with
  | (q8, (q19, u19), (q30, u30), (q41, u41), (q52, u52), (q78, u78), (q89, u89), (q104, u104), (q115, u115), (q126, u126), (q137, u137), (q148, u148), (q159, u159), q173) => (h0, .inr (0, [.ref q8, .int 0, .ref q19, .ref q30, .ref q41, .ref q52, .int 0, .int (-1), .int (-1), .ref q78, .ref q89, .ref q104, .ref q115, .ref q126, .ref q137, .ref q148, .ref q159, .ref q173, .int 0])) :: ([] ++ [(q8, .inl (tA 2, 256, .inl (fun _ => 0)))] ++ w_Wo tA q19 u19 ++ w_TR tA q30 u30 ++ w_Pr tA q41 u41 ++ w_Pr tA q52 u52 ++ w_Ga tA q78 u78 ++ w_So tA q89 q78 u89 ++ w_Fs tA q104 u104 ++ w_Fs tA q115 u115 ++ w_Fs tA q126 u126 ++ w_Fs tA q137 u137 ++ w_Na tA q148 u148 ++ w_Fr tA q159 u159 ++ [(q173, .inl (tA 2, 400, .inl (fun _ => 0)))])
theorem f_CA : ∀ j, j < 19 → defaultValue (t_CA j) = vp_V [.null, .int 0, .null, .null, .null, .null, .int 0, .int 0, .int 0, .null, .null, .null, .null, .null, .null, .null, .null, .null, .int 0] j := by decide +kernel
set_option maxHeartbeats 4000000 in
set_option maxRecDepth 100000 in
theorem c_CA_init (l : Launch) (D : va_G) (tA : Nat → ClassId) (h0 sz : Nat) : zMv l ({ cls := "ChanceArena", name := "<init>", desc := "()V" } : Jvm.MethodName) (zW (Jvm.Cond.code ({ cls := "ChanceArena", name := "<init>", desc := "()V" } : Jvm.MethodName) prog_1_method_1_code (1 : Nat) (Option.none : Option Jvm.ClassFile.FieldType))) { frames := 5, cells := 235, slots := 48665, locals := 93 } [.ref h0] D tA [(h0, .inr (0, [.null, .int 0, .null, .null, .null, .null, .int 0, .int 0, .int 0, .null, .null, .null, .null, .null, .null, .null, .null, .null, .int 0]))] sz (fun _ : S_CA => True) (w_CA tA h0) 235 48665 := by
  refine zOpen (fun A => va_Qv _ (zPost D A (w_CA tA h0)) A) (lv := [(0, .ref h0)]) (by decide) rfl (Nat.le_of_ble_eq_true rfl) rfl ?_
  intro p e s m below meth c A ls hx hb hr hml hh hg hown hlocks hnm hK hA hP hD0 hAw hS hl
  have hD := zD hD0 hAw
  refine lv_aload_n hx hb d_CA_init_0 rfl (lv_at hl 0 rfl) ?_
  refine W.objInit hx hb hown (hg _ k1_45) (hg _ k1_46) (hg _ k1_47) rfl (by rw [hml]; exact hl.1) rfl d_CA_init_1 (Nat.le_of_ble_eq_true rfl) (Nat.le_of_ble_eq_true rfl) ?_
  refine lv_aload_n hx hb d_CA_init_4 rfl (lv_at hl 0 rfl) ?_
  refine lv_sipush (v := 256) hx hb d_CA_init_5 (by decide) ?_
  refine zNewa (atype := .char) (ty := .char) (a0 := (256, .inl (fun _ => 0))) (N' := 256) hx hb rfl (hg _ k1_81) hK hP hD hS hA 2 rfl (fun _ h => by cases h) (fun _ => rfl) (by decide) (by decide) (by decide) (Nat.le_of_ble_eq_true rfl) (Nat.le_of_ble_eq_true rfl) d_CA_init_8 (fun q8 H1 hP1 hD1 hS1 => ?_)
  clear hP hD hS
  refine zCons (fun T8 e8 hP2 hD2 => ?_) hP1 hD1
  clear hP1 hD1
  refine va_put (D := D) (ci := 0) (v := .ref q8) (ty := .array .char) (C := R_CA) (T := T_CA) (N := 19) hx hb hg i_CA t_CA o_CA n_CA hown hK hP2 hD2 hS1 0 rfl rfl 0 (by decide) (hg _ k3_187) (fun _ h9 => h9) rfl (by decide +kernel) rfl rfl (Nat.le_of_ble_eq_true rfl) d_CA_init_10 (fun H3 locs3 hP3 hD3 hS3 => ?_)
  clear hP2 hD2 hS1
  replace hP3 : va_P D vwCl ((h0, .inr (0, [.ref q8, .int 0, .null, .null, .null, .null, .int 0, .int 0, .int 0, .null, .null, .null, .null, .null, .null, .null, .null, .null, .int 0])) :: T8) _ := hP3
  replace hD3 : va_D A ((h0, .inr (0, [.ref q8, .int 0, .null, .null, .null, .null, .int 0, .int 0, .int 0, .null, .null, .null, .null, .null, .null, .null, .null, .null, .int 0])) :: T8) := hD3
  refine lv_aload_n hx hb d_CA_init_13 rfl (lv_at hl 0 rfl) ?_
  refine lv_iconst (v := 0) hx hb d_CA_init_14 (by decide) ?_
  refine va_put (D := D) (ci := 0) (v := .int 0) (ty := .int) (C := R_CA) (T := T_CA) (N := 19) hx hb hg i_CA t_CA o_CA n_CA hown hK hP3 hD3 hS3 0 rfl rfl 1 (by decide) (hg _ k3_188) (fun _ h9 => h9) rfl (by decide +kernel) rfl rfl (Nat.le_of_ble_eq_true rfl) d_CA_init_15 (fun H4 locs4 hP4 hD4 hS4 => ?_)
  clear hP3 hD3 hS3
  replace hP4 : va_P D vwCl ((h0, .inr (0, [.ref q8, .int 0, .null, .null, .null, .null, .int 0, .int 0, .int 0, .null, .null, .null, .null, .null, .null, .null, .null, .null, .int 0])) :: T8) _ := hP4
  replace hD4 : va_D A ((h0, .inr (0, [.ref q8, .int 0, .null, .null, .null, .null, .int 0, .int 0, .int 0, .null, .null, .null, .null, .null, .null, .null, .null, .null, .int 0])) :: T8) := hD4
  refine lv_aload_n hx hb d_CA_init_18 rfl (lv_at hl 0 rfl) ?_
  refine va_new (ci := 1) (fs := [.null, .int 0, .int 0, .null, .null, .null]) (C := R_Wo) (T := T_Wo) (N := 6) hx hb hg i_Wo t_Wo o_Wo hown (hg _ k1_48) (hg _ k1_49) (hg _ k1_2) hK hP4 hD4 hS4 hA rfl f_Wo (Nat.le_of_ble_eq_true rfl) (Nat.le_of_ble_eq_true rfl) d_CA_init_19 (fun q19 H5 hP5 hD5 hS5 => ?_)
  clear hP4 hD4 hS4
  refine lv_dup hx hb d_CA_init_22 rfl ?_
  refine zInit hP5 hD5 hS5 hA (va_runIN (As := []) (rest := [.ref q19, .ref h0]) ⟨hx, hb, hml, hown, hg⟩ (c_Wo_init l D tA q19 H5.size) ⟨va_cnB 0 hg (zGood k1_52 rfl) rfl rfl rfl (va_Nw.of rfl (hg _ k1_50)) (hg _ k1_2) (by decide +kernel) ⟨(Nat.le_of_ble_eq_true rfl), (Nat.le_of_ble_eq_true rfl)⟩, rfl, hg _ k1_51⟩ (zPreI hh hK hP5 hD5) rfl rfl hl.1 rfl (lv_room (Nat.le_of_ble_eq_true rfl)) d_CA_init_23 ⟨(Nat.le_of_ble_eq_true rfl), (Nat.le_of_ble_eq_true rfl)⟩) (fun u19 H6 locs6 _ hP6 hD6 hS6 => ?_)
  clear hP5 hD5 hS5
  refine zCons (fun T23 e23 hP7 hD7 => ?_) hP6 hD6
  clear hP6 hD6
  refine va_putF (D := D) (ci := 0) (v := .ref q19) (ty := .object "ChanceArena$Words") (C := R_CA) (T := T_CA) (N := 19) hx hb hg i_CA t_CA o_CA n_CA hown hK hP7 hD7 hS6 0 rfl rfl 2 (by decide) (hg _ k3_189) (fun _ h9 => h9) rfl hnm rfl (by decide +kernel) rfl rfl (Nat.le_of_ble_eq_true rfl) d_CA_init_26 (fun H8 locs8 hP8 hD8 hS8 => ?_)
  clear hP7 hD7 hS6
  replace hP8 : va_P D vwCl ((h0, .inr (0, [.ref q8, .int 0, .ref q19, .null, .null, .null, .int 0, .int 0, .int 0, .null, .null, .null, .null, .null, .null, .null, .null, .null, .int 0])) :: T23) _ := hP8
  replace hD8 : va_D A ((h0, .inr (0, [.ref q8, .int 0, .ref q19, .null, .null, .null, .int 0, .int 0, .int 0, .null, .null, .null, .null, .null, .null, .null, .null, .null, .int 0])) :: T23) := hD8
  refine lv_aload_n hx hb d_CA_init_29 rfl (lv_at hl 0 rfl) ?_
  refine va_new (ci := 2) (fs := [.null, .null, .null, .int 0, .int 0, .null, .null, .int 0, .int 0]) (C := R_TR) (T := T_TR) (N := 9) hx hb hg i_TR t_TR o_TR hown (hg _ k1_83) (hg _ k1_84) (hg _ k1_3) hK hP8 hD8 hS8 hA rfl f_TR (Nat.le_of_ble_eq_true rfl) (Nat.le_of_ble_eq_true rfl) d_CA_init_30 (fun q30 H9 hP9 hD9 hS9 => ?_)
  clear hP8 hD8 hS8
  refine lv_dup hx hb d_CA_init_33 rfl ?_
  refine zInit hP9 hD9 hS9 hA (va_runIN (As := []) (rest := [.ref q30, .ref h0]) ⟨hx, hb, hml, hown, hg⟩ (c_TR_init l D tA q30 H9.size) ⟨va_cnB 0 hg (zGood k1_87 rfl) rfl rfl rfl (va_Nw.of rfl (hg _ k1_85)) (hg _ k1_3) (by decide +kernel) ⟨(Nat.le_of_ble_eq_true rfl), (Nat.le_of_ble_eq_true rfl)⟩, rfl, hg _ k1_86⟩ (zPreI hh hK hP9 hD9) rfl rfl hl.1 rfl (lv_room (Nat.le_of_ble_eq_true rfl)) d_CA_init_34 ⟨(Nat.le_of_ble_eq_true rfl), (Nat.le_of_ble_eq_true rfl)⟩) (fun u30 H10 locs10 _ hP10 hD10 hS10 => ?_)
  clear hP9 hD9 hS9
  refine zCons (fun T34 e34 hP11 hD11 => ?_) hP10 hD10
  clear hP10 hD10
  refine va_putF (D := D) (ci := 0) (v := .ref q30) (ty := .object "ChanceArena$TextReader") (C := R_CA) (T := T_CA) (N := 19) hx hb hg i_CA t_CA o_CA n_CA hown hK hP11 hD11 hS10 0 rfl rfl 3 (by decide) (hg _ k3_190) (fun _ h9 => h9) rfl hnm rfl (by decide +kernel) rfl rfl (Nat.le_of_ble_eq_true rfl) d_CA_init_37 (fun H12 locs12 hP12 hD12 hS12 => ?_)
  clear hP11 hD11 hS10
  replace hP12 : va_P D vwCl ((h0, .inr (0, [.ref q8, .int 0, .ref q19, .ref q30, .null, .null, .int 0, .int 0, .int 0, .null, .null, .null, .null, .null, .null, .null, .null, .null, .int 0])) :: T34) _ := hP12
  replace hD12 : va_D A ((h0, .inr (0, [.ref q8, .int 0, .ref q19, .ref q30, .null, .null, .int 0, .int 0, .int 0, .null, .null, .null, .null, .null, .null, .null, .null, .null, .int 0])) :: T34) := hD12
  refine lv_aload_n hx hb d_CA_init_40 rfl (lv_at hl 0 rfl) ?_
  refine va_new (ci := 5) (fs := [.null, .null, .int 0, .int 0, .null, .null, .null, .int 0, .null, .null, .null, .int 0, .int 0, .null, .null, .null, .null, .null, .null, .null]) (C := R_Pr) (T := T_Pr) (N := 20) hx hb hg i_Pr t_Pr o_Pr hown (hg _ k2_17) (hg _ k2_18) (hg _ k1_6) hK hP12 hD12 hS12 hA rfl f_Pr (Nat.le_of_ble_eq_true rfl) (Nat.le_of_ble_eq_true rfl) d_CA_init_41 (fun q41 H13 hP13 hD13 hS13 => ?_)
  clear hP12 hD12 hS12
  refine lv_dup hx hb d_CA_init_44 rfl ?_
  refine zInit hP13 hD13 hS13 hA (va_runIN (As := []) (rest := [.ref q41, .ref h0]) ⟨hx, hb, hml, hown, hg⟩ (c_Pr_init l D tA q41 H13.size) ⟨va_cnB 0 hg (zGood k2_21 rfl) rfl rfl rfl (va_Nw.of rfl (hg _ k2_19)) (hg _ k1_6) (by decide +kernel) ⟨(Nat.le_of_ble_eq_true rfl), (Nat.le_of_ble_eq_true rfl)⟩, rfl, hg _ k2_20⟩ (zPreI hh hK hP13 hD13) rfl rfl hl.1 rfl (lv_room (Nat.le_of_ble_eq_true rfl)) d_CA_init_45 ⟨(Nat.le_of_ble_eq_true rfl), (Nat.le_of_ble_eq_true rfl)⟩) (fun u41 H14 locs14 _ hP14 hD14 hS14 => ?_)
  clear hP13 hD13 hS13
  refine zCons (fun T45 e45 hP15 hD15 => ?_) hP14 hD14
  clear hP14 hD14
  refine va_put (D := D) (ci := 0) (v := .ref q41) (ty := .object "ChanceArena$Program") (C := R_CA) (T := T_CA) (N := 19) hx hb hg i_CA t_CA o_CA n_CA hown hK hP15 hD15 hS14 0 rfl rfl 4 (by decide) (hg _ k3_191) (fun _ h9 => h9) rfl (by decide +kernel) rfl rfl (Nat.le_of_ble_eq_true rfl) d_CA_init_48 (fun H16 locs16 hP16 hD16 hS16 => ?_)
  clear hP15 hD15 hS14
  replace hP16 : va_P D vwCl ((h0, .inr (0, [.ref q8, .int 0, .ref q19, .ref q30, .ref q41, .null, .int 0, .int 0, .int 0, .null, .null, .null, .null, .null, .null, .null, .null, .null, .int 0])) :: T45) _ := hP16
  replace hD16 : va_D A ((h0, .inr (0, [.ref q8, .int 0, .ref q19, .ref q30, .ref q41, .null, .int 0, .int 0, .int 0, .null, .null, .null, .null, .null, .null, .null, .null, .null, .int 0])) :: T45) := hD16
  refine lv_aload_n hx hb d_CA_init_51 rfl (lv_at hl 0 rfl) ?_
  refine va_new (ci := 5) (fs := [.null, .null, .int 0, .int 0, .null, .null, .null, .int 0, .null, .null, .null, .int 0, .int 0, .null, .null, .null, .null, .null, .null, .null]) (C := R_Pr) (T := T_Pr) (N := 20) hx hb hg i_Pr t_Pr o_Pr hown (hg _ k2_17) (hg _ k2_18) (hg _ k1_6) hK hP16 hD16 hS16 hA rfl f_Pr (Nat.le_of_ble_eq_true rfl) (Nat.le_of_ble_eq_true rfl) d_CA_init_52 (fun q52 H17 hP17 hD17 hS17 => ?_)
  clear hP16 hD16 hS16
  refine lv_dup hx hb d_CA_init_55 rfl ?_
  refine zInit hP17 hD17 hS17 hA (va_runIN (As := []) (rest := [.ref q52, .ref h0]) ⟨hx, hb, hml, hown, hg⟩ (c_Pr_init l D tA q52 H17.size) ⟨va_cnB 0 hg (zGood k2_21 rfl) rfl rfl rfl (va_Nw.of rfl (hg _ k2_19)) (hg _ k1_6) (by decide +kernel) ⟨(Nat.le_of_ble_eq_true rfl), (Nat.le_of_ble_eq_true rfl)⟩, rfl, hg _ k2_20⟩ (zPreI hh hK hP17 hD17) rfl rfl hl.1 rfl (lv_room (Nat.le_of_ble_eq_true rfl)) d_CA_init_56 ⟨(Nat.le_of_ble_eq_true rfl), (Nat.le_of_ble_eq_true rfl)⟩) (fun u52 H18 locs18 _ hP18 hD18 hS18 => ?_)
  clear hP17 hD17 hS17
  refine zCons (fun T56 e56 hP19 hD19 => ?_) hP18 hD18
  clear hP18 hD18
  refine va_put (D := D) (ci := 0) (v := .ref q52) (ty := .object "ChanceArena$Program") (C := R_CA) (T := T_CA) (N := 19) hx hb hg i_CA t_CA o_CA n_CA hown hK hP19 hD19 hS18 0 rfl rfl 5 (by decide) (hg _ k3_192) (fun _ h9 => h9) rfl (by decide +kernel) rfl rfl (Nat.le_of_ble_eq_true rfl) d_CA_init_59 (fun H20 locs20 hP20 hD20 hS20 => ?_)
  clear hP19 hD19 hS18
  replace hP20 : va_P D vwCl ((h0, .inr (0, [.ref q8, .int 0, .ref q19, .ref q30, .ref q41, .ref q52, .int 0, .int 0, .int 0, .null, .null, .null, .null, .null, .null, .null, .null, .null, .int 0])) :: T56) _ := hP20
  replace hD20 : va_D A ((h0, .inr (0, [.ref q8, .int 0, .ref q19, .ref q30, .ref q41, .ref q52, .int 0, .int 0, .int 0, .null, .null, .null, .null, .null, .null, .null, .null, .null, .int 0])) :: T56) := hD20
  refine lv_aload_n hx hb d_CA_init_62 rfl (lv_at hl 0 rfl) ?_
  refine lv_iconst (v := 0) hx hb d_CA_init_63 (by decide) ?_
  refine va_put (D := D) (ci := 0) (v := .int 0) (ty := .boolean) (C := R_CA) (T := T_CA) (N := 19) hx hb hg i_CA t_CA o_CA n_CA hown hK hP20 hD20 hS20 0 rfl rfl 6 (by decide) (hg _ k3_193) (fun _ h9 => h9) rfl (by decide +kernel) rfl rfl (Nat.le_of_ble_eq_true rfl) d_CA_init_64 (fun H21 locs21 hP21 hD21 hS21 => ?_)
  clear hP20 hD20 hS20
  replace hP21 : va_P D vwCl ((h0, .inr (0, [.ref q8, .int 0, .ref q19, .ref q30, .ref q41, .ref q52, .int 0, .int 0, .int 0, .null, .null, .null, .null, .null, .null, .null, .null, .null, .int 0])) :: T56) _ := hP21
  replace hD21 : va_D A ((h0, .inr (0, [.ref q8, .int 0, .ref q19, .ref q30, .ref q41, .ref q52, .int 0, .int 0, .int 0, .null, .null, .null, .null, .null, .null, .null, .null, .null, .int 0])) :: T56) := hD21
  refine lv_aload_n hx hb d_CA_init_67 rfl (lv_at hl 0 rfl) ?_
  refine lv_iconst (v := -1) hx hb d_CA_init_68 (by decide) ?_
  refine va_put (D := D) (ci := 0) (v := .int (-1)) (ty := .int) (C := R_CA) (T := T_CA) (N := 19) hx hb hg i_CA t_CA o_CA n_CA hown hK hP21 hD21 hS21 0 rfl rfl 7 (by decide) (hg _ k3_194) (fun _ h9 => h9) rfl (by decide +kernel) rfl rfl (Nat.le_of_ble_eq_true rfl) d_CA_init_69 (fun H22 locs22 hP22 hD22 hS22 => ?_)
  clear hP21 hD21 hS21
  replace hP22 : va_P D vwCl ((h0, .inr (0, [.ref q8, .int 0, .ref q19, .ref q30, .ref q41, .ref q52, .int 0, .int (-1), .int 0, .null, .null, .null, .null, .null, .null, .null, .null, .null, .int 0])) :: T56) _ := hP22
  replace hD22 : va_D A ((h0, .inr (0, [.ref q8, .int 0, .ref q19, .ref q30, .ref q41, .ref q52, .int 0, .int (-1), .int 0, .null, .null, .null, .null, .null, .null, .null, .null, .null, .int 0])) :: T56) := hD22
  refine lv_aload_n hx hb d_CA_init_72 rfl (lv_at hl 0 rfl) ?_
  refine lv_iconst (v := -1) hx hb d_CA_init_73 (by decide) ?_
  refine va_put (D := D) (ci := 0) (v := .int (-1)) (ty := .int) (C := R_CA) (T := T_CA) (N := 19) hx hb hg i_CA t_CA o_CA n_CA hown hK hP22 hD22 hS22 0 rfl rfl 8 (by decide) (hg _ k3_195) (fun _ h9 => h9) rfl (by decide +kernel) rfl rfl (Nat.le_of_ble_eq_true rfl) d_CA_init_74 (fun H23 locs23 hP23 hD23 hS23 => ?_)
  clear hP22 hD22 hS22
  replace hP23 : va_P D vwCl ((h0, .inr (0, [.ref q8, .int 0, .ref q19, .ref q30, .ref q41, .ref q52, .int 0, .int (-1), .int (-1), .null, .null, .null, .null, .null, .null, .null, .null, .null, .int 0])) :: T56) _ := hP23
  replace hD23 : va_D A ((h0, .inr (0, [.ref q8, .int 0, .ref q19, .ref q30, .ref q41, .ref q52, .int 0, .int (-1), .int (-1), .null, .null, .null, .null, .null, .null, .null, .null, .null, .int 0])) :: T56) := hD23
  refine lv_aload_n hx hb d_CA_init_77 rfl (lv_at hl 0 rfl) ?_
  refine va_new (ci := 6) (fs := [.int 0, .null, .null, .null, .null, .null, .null, .null, .null, .null, .int 0, .int 0, .int 0, .int 0, .null, .null, .null, .null, .null]) (C := R_Ga) (T := T_Ga) (N := 19) hx hb hg i_Ga t_Ga o_Ga hown (hg _ k2_126) (hg _ k2_127) (hg _ k1_7) hK hP23 hD23 hS23 hA rfl f_Ga (Nat.le_of_ble_eq_true rfl) (Nat.le_of_ble_eq_true rfl) d_CA_init_78 (fun q78 H24 hP24 hD24 hS24 => ?_)
  clear hP23 hD23 hS23
  refine lv_dup hx hb d_CA_init_81 rfl ?_
  refine zInit hP24 hD24 hS24 hA (va_runIN (As := []) (rest := [.ref q78, .ref h0]) ⟨hx, hb, hml, hown, hg⟩ (c_Ga_init l D tA q78 H24.size) ⟨va_cnB 0 hg (zGood k2_130 rfl) rfl rfl rfl (va_Nw.of rfl (hg _ k2_128)) (hg _ k1_7) (by decide +kernel) ⟨(Nat.le_of_ble_eq_true rfl), (Nat.le_of_ble_eq_true rfl)⟩, rfl, hg _ k2_129⟩ (zPreI hh hK hP24 hD24) rfl rfl hl.1 rfl (lv_room (Nat.le_of_ble_eq_true rfl)) d_CA_init_82 ⟨(Nat.le_of_ble_eq_true rfl), (Nat.le_of_ble_eq_true rfl)⟩) (fun u78 H25 locs25 _ hP25 hD25 hS25 => ?_)
  clear hP24 hD24 hS24
  refine zCons (fun T82 e82 hP26 hD26 => ?_) hP25 hD25
  clear hP25 hD25
  refine va_putF (D := D) (ci := 0) (v := .ref q78) (ty := .object "ChanceArena$Game") (C := R_CA) (T := T_CA) (N := 19) hx hb hg i_CA t_CA o_CA n_CA hown hK hP26 hD26 hS25 0 rfl rfl 9 (by decide) (hg _ k3_196) (fun _ h9 => h9) rfl hnm rfl (by decide +kernel) rfl rfl (Nat.le_of_ble_eq_true rfl) d_CA_init_85 (fun H27 locs27 hP27 hD27 hS27 => ?_)
  clear hP26 hD26 hS25
  replace hP27 : va_P D vwCl ((h0, .inr (0, [.ref q8, .int 0, .ref q19, .ref q30, .ref q41, .ref q52, .int 0, .int (-1), .int (-1), .ref q78, .null, .null, .null, .null, .null, .null, .null, .null, .int 0])) :: T82) _ := hP27
  replace hD27 : va_D A ((h0, .inr (0, [.ref q8, .int 0, .ref q19, .ref q30, .ref q41, .ref q52, .int 0, .int (-1), .int (-1), .ref q78, .null, .null, .null, .null, .null, .null, .null, .null, .int 0])) :: T82) := hD27
  refine lv_aload_n hx hb d_CA_init_88 rfl (lv_at hl 0 rfl) ?_
  refine va_new (ci := 7) (fs := [.null, .null, .null, .null, .null, .null, .null, .null, .null, .null, .int 0, .null, .int 0, .int 0, .long 0, .null, .null, .null]) (C := R_So) (T := T_So) (N := 18) hx hb hg i_So t_So o_So hown (hg _ k2_221) (hg _ k2_222) (hg _ k1_8) hK hP27 hD27 hS27 hA rfl f_So (Nat.le_of_ble_eq_true rfl) (Nat.le_of_ble_eq_true rfl) d_CA_init_89 (fun q89 H28 hP28 hD28 hS28 => ?_)
  clear hP27 hD27 hS27
  refine lv_dup hx hb d_CA_init_92 rfl ?_
  refine lv_aload_n hx hb d_CA_init_93 rfl (lv_at hl 0 rfl) ?_
  refine va_get (D := D) (ci := 0) (v := .ref q78) (C := R_CA) (T := T_CA) (N := 19) hx hb hg i_CA hown hK hP28 0 rfl rfl 9 (by decide) (hg _ k3_196) (fun _ h9 => h9) rfl d_CA_init_94 ?_
  refine zInit hP28 hD28 hS28 hA (va_runI (As := [.ref q78]) (rest := [.ref q89, .ref h0]) ⟨hx, hb, hml, hown, hg⟩ (c_So_init l D tA q89 q78 H28.size) (cwI 1 hg (zGood k2_225 rfl) rfl rfl rfl (hg _ k1_8) (hg _ k2_223) (hg _ k2_224) rfl (by decide +kernel) ⟨(Nat.le_of_ble_eq_true rfl), (Nat.le_of_ble_eq_true rfl)⟩) (zPreI hh hK hP28 hD28) rfl rfl hl.1 rfl (lv_room (Nat.le_of_ble_eq_true rfl)) d_CA_init_97 ⟨(Nat.le_of_ble_eq_true rfl), (Nat.le_of_ble_eq_true rfl)⟩) (fun u89 H29 locs29 _ hP29 hD29 hS29 => ?_)
  clear hP28 hD28 hS28
  refine zCons (fun T97 e97 hP30 hD30 => ?_) hP29 hD29
  clear hP29 hD29
  refine va_putF (D := D) (ci := 0) (v := .ref q89) (ty := .object "ChanceArena$Solver") (C := R_CA) (T := T_CA) (N := 19) hx hb hg i_CA t_CA o_CA n_CA hown hK hP30 hD30 hS29 0 rfl rfl 10 (by decide) (hg _ k3_197) (fun _ h9 => h9) rfl hnm rfl (by decide +kernel) rfl rfl (Nat.le_of_ble_eq_true rfl) d_CA_init_100 (fun H31 locs31 hP31 hD31 hS31 => ?_)
  clear hP30 hD30 hS29
  replace hP31 : va_P D vwCl ((h0, .inr (0, [.ref q8, .int 0, .ref q19, .ref q30, .ref q41, .ref q52, .int 0, .int (-1), .int (-1), .ref q78, .ref q89, .null, .null, .null, .null, .null, .null, .null, .int 0])) :: T97) _ := hP31
  replace hD31 : va_D A ((h0, .inr (0, [.ref q8, .int 0, .ref q19, .ref q30, .ref q41, .ref q52, .int 0, .int (-1), .int (-1), .ref q78, .ref q89, .null, .null, .null, .null, .null, .null, .null, .int 0])) :: T97) := hD31
  refine lv_aload_n hx hb d_CA_init_103 rfl (lv_at hl 0 rfl) ?_
  refine va_new (ci := 12) (fs := [.null, .int 0]) (C := R_Fs) (T := T_Fs) (N := 2) hx hb hg i_Fs t_Fs o_Fs hown (hg _ k3_163) (hg _ k3_164) (hg _ k1_13) hK hP31 hD31 hS31 hA rfl f_Fs (Nat.le_of_ble_eq_true rfl) (Nat.le_of_ble_eq_true rfl) d_CA_init_104 (fun q104 H32 hP32 hD32 hS32 => ?_)
  clear hP31 hD31 hS31
  refine lv_dup hx hb d_CA_init_107 rfl ?_
  refine zInit hP32 hD32 hS32 hA (va_runIN (As := []) (rest := [.ref q104, .ref h0]) ⟨hx, hb, hml, hown, hg⟩ (c_Fs_init l D tA q104 H32.size) ⟨va_cnB 0 hg (zGood k3_167 rfl) rfl rfl rfl (va_Nw.of rfl (hg _ k3_165)) (hg _ k1_13) (by decide +kernel) ⟨(Nat.le_of_ble_eq_true rfl), (Nat.le_of_ble_eq_true rfl)⟩, rfl, hg _ k3_166⟩ (zPreI hh hK hP32 hD32) rfl rfl hl.1 rfl (lv_room (Nat.le_of_ble_eq_true rfl)) d_CA_init_108 ⟨(Nat.le_of_ble_eq_true rfl), (Nat.le_of_ble_eq_true rfl)⟩) (fun u104 H33 locs33 _ hP33 hD33 hS33 => ?_)
  clear hP32 hD32 hS32
  refine zCons (fun T108 e108 hP34 hD34 => ?_) hP33 hD33
  clear hP33 hD33
  refine va_putF (D := D) (ci := 0) (v := .ref q104) (ty := .object "ChanceArena$Fractions") (C := R_CA) (T := T_CA) (N := 19) hx hb hg i_CA t_CA o_CA n_CA hown hK hP34 hD34 hS33 0 rfl rfl 11 (by decide) (hg _ k3_198) (fun _ h9 => h9) rfl hnm rfl (by decide +kernel) rfl rfl (Nat.le_of_ble_eq_true rfl) d_CA_init_111 (fun H35 locs35 hP35 hD35 hS35 => ?_)
  clear hP34 hD34 hS33
  replace hP35 : va_P D vwCl ((h0, .inr (0, [.ref q8, .int 0, .ref q19, .ref q30, .ref q41, .ref q52, .int 0, .int (-1), .int (-1), .ref q78, .ref q89, .ref q104, .null, .null, .null, .null, .null, .null, .int 0])) :: T108) _ := hP35
  replace hD35 : va_D A ((h0, .inr (0, [.ref q8, .int 0, .ref q19, .ref q30, .ref q41, .ref q52, .int 0, .int (-1), .int (-1), .ref q78, .ref q89, .ref q104, .null, .null, .null, .null, .null, .null, .int 0])) :: T108) := hD35
  refine lv_aload_n hx hb d_CA_init_114 rfl (lv_at hl 0 rfl) ?_
  refine va_new (ci := 12) (fs := [.null, .int 0]) (C := R_Fs) (T := T_Fs) (N := 2) hx hb hg i_Fs t_Fs o_Fs hown (hg _ k3_163) (hg _ k3_164) (hg _ k1_13) hK hP35 hD35 hS35 hA rfl f_Fs (Nat.le_of_ble_eq_true rfl) (Nat.le_of_ble_eq_true rfl) d_CA_init_115 (fun q115 H36 hP36 hD36 hS36 => ?_)
  clear hP35 hD35 hS35
  refine lv_dup hx hb d_CA_init_118 rfl ?_
  refine zInit hP36 hD36 hS36 hA (va_runIN (As := []) (rest := [.ref q115, .ref h0]) ⟨hx, hb, hml, hown, hg⟩ (c_Fs_init l D tA q115 H36.size) ⟨va_cnB 0 hg (zGood k3_167 rfl) rfl rfl rfl (va_Nw.of rfl (hg _ k3_165)) (hg _ k1_13) (by decide +kernel) ⟨(Nat.le_of_ble_eq_true rfl), (Nat.le_of_ble_eq_true rfl)⟩, rfl, hg _ k3_166⟩ (zPreI hh hK hP36 hD36) rfl rfl hl.1 rfl (lv_room (Nat.le_of_ble_eq_true rfl)) d_CA_init_119 ⟨(Nat.le_of_ble_eq_true rfl), (Nat.le_of_ble_eq_true rfl)⟩) (fun u115 H37 locs37 _ hP37 hD37 hS37 => ?_)
  clear hP36 hD36 hS36
  refine zCons (fun T119 e119 hP38 hD38 => ?_) hP37 hD37
  clear hP37 hD37
  refine va_put (D := D) (ci := 0) (v := .ref q115) (ty := .object "ChanceArena$Fractions") (C := R_CA) (T := T_CA) (N := 19) hx hb hg i_CA t_CA o_CA n_CA hown hK hP38 hD38 hS37 0 rfl rfl 12 (by decide) (hg _ k3_199) (fun _ h9 => h9) rfl (by decide +kernel) rfl rfl (Nat.le_of_ble_eq_true rfl) d_CA_init_122 (fun H39 locs39 hP39 hD39 hS39 => ?_)
  clear hP38 hD38 hS37
  replace hP39 : va_P D vwCl ((h0, .inr (0, [.ref q8, .int 0, .ref q19, .ref q30, .ref q41, .ref q52, .int 0, .int (-1), .int (-1), .ref q78, .ref q89, .ref q104, .ref q115, .null, .null, .null, .null, .null, .int 0])) :: T119) _ := hP39
  replace hD39 : va_D A ((h0, .inr (0, [.ref q8, .int 0, .ref q19, .ref q30, .ref q41, .ref q52, .int 0, .int (-1), .int (-1), .ref q78, .ref q89, .ref q104, .ref q115, .null, .null, .null, .null, .null, .int 0])) :: T119) := hD39
  refine lv_aload_n hx hb d_CA_init_125 rfl (lv_at hl 0 rfl) ?_
  refine va_new (ci := 12) (fs := [.null, .int 0]) (C := R_Fs) (T := T_Fs) (N := 2) hx hb hg i_Fs t_Fs o_Fs hown (hg _ k3_163) (hg _ k3_164) (hg _ k1_13) hK hP39 hD39 hS39 hA rfl f_Fs (Nat.le_of_ble_eq_true rfl) (Nat.le_of_ble_eq_true rfl) d_CA_init_126 (fun q126 H40 hP40 hD40 hS40 => ?_)
  clear hP39 hD39 hS39
  refine lv_dup hx hb d_CA_init_129 rfl ?_
  refine zInit hP40 hD40 hS40 hA (va_runIN (As := []) (rest := [.ref q126, .ref h0]) ⟨hx, hb, hml, hown, hg⟩ (c_Fs_init l D tA q126 H40.size) ⟨va_cnB 0 hg (zGood k3_167 rfl) rfl rfl rfl (va_Nw.of rfl (hg _ k3_165)) (hg _ k1_13) (by decide +kernel) ⟨(Nat.le_of_ble_eq_true rfl), (Nat.le_of_ble_eq_true rfl)⟩, rfl, hg _ k3_166⟩ (zPreI hh hK hP40 hD40) rfl rfl hl.1 rfl (lv_room (Nat.le_of_ble_eq_true rfl)) d_CA_init_130 ⟨(Nat.le_of_ble_eq_true rfl), (Nat.le_of_ble_eq_true rfl)⟩) (fun u126 H41 locs41 _ hP41 hD41 hS41 => ?_)
  clear hP40 hD40 hS40
  refine zCons (fun T130 e130 hP42 hD42 => ?_) hP41 hD41
  clear hP41 hD41
  refine va_put (D := D) (ci := 0) (v := .ref q126) (ty := .object "ChanceArena$Fractions") (C := R_CA) (T := T_CA) (N := 19) hx hb hg i_CA t_CA o_CA n_CA hown hK hP42 hD42 hS41 0 rfl rfl 13 (by decide) (hg _ k3_200) (fun _ h9 => h9) rfl (by decide +kernel) rfl rfl (Nat.le_of_ble_eq_true rfl) d_CA_init_133 (fun H43 locs43 hP43 hD43 hS43 => ?_)
  clear hP42 hD42 hS41
  replace hP43 : va_P D vwCl ((h0, .inr (0, [.ref q8, .int 0, .ref q19, .ref q30, .ref q41, .ref q52, .int 0, .int (-1), .int (-1), .ref q78, .ref q89, .ref q104, .ref q115, .ref q126, .null, .null, .null, .null, .int 0])) :: T130) _ := hP43
  replace hD43 : va_D A ((h0, .inr (0, [.ref q8, .int 0, .ref q19, .ref q30, .ref q41, .ref q52, .int 0, .int (-1), .int (-1), .ref q78, .ref q89, .ref q104, .ref q115, .ref q126, .null, .null, .null, .null, .int 0])) :: T130) := hD43
  refine lv_aload_n hx hb d_CA_init_136 rfl (lv_at hl 0 rfl) ?_
  refine va_new (ci := 12) (fs := [.null, .int 0]) (C := R_Fs) (T := T_Fs) (N := 2) hx hb hg i_Fs t_Fs o_Fs hown (hg _ k3_163) (hg _ k3_164) (hg _ k1_13) hK hP43 hD43 hS43 hA rfl f_Fs (Nat.le_of_ble_eq_true rfl) (Nat.le_of_ble_eq_true rfl) d_CA_init_137 (fun q137 H44 hP44 hD44 hS44 => ?_)
  clear hP43 hD43 hS43
  refine lv_dup hx hb d_CA_init_140 rfl ?_
  refine zInit hP44 hD44 hS44 hA (va_runIN (As := []) (rest := [.ref q137, .ref h0]) ⟨hx, hb, hml, hown, hg⟩ (c_Fs_init l D tA q137 H44.size) ⟨va_cnB 0 hg (zGood k3_167 rfl) rfl rfl rfl (va_Nw.of rfl (hg _ k3_165)) (hg _ k1_13) (by decide +kernel) ⟨(Nat.le_of_ble_eq_true rfl), (Nat.le_of_ble_eq_true rfl)⟩, rfl, hg _ k3_166⟩ (zPreI hh hK hP44 hD44) rfl rfl hl.1 rfl (lv_room (Nat.le_of_ble_eq_true rfl)) d_CA_init_141 ⟨(Nat.le_of_ble_eq_true rfl), (Nat.le_of_ble_eq_true rfl)⟩) (fun u137 H45 locs45 _ hP45 hD45 hS45 => ?_)
  clear hP44 hD44 hS44
  refine zCons (fun T141 e141 hP46 hD46 => ?_) hP45 hD45
  clear hP45 hD45
  refine va_putF (D := D) (ci := 0) (v := .ref q137) (ty := .object "ChanceArena$Fractions") (C := R_CA) (T := T_CA) (N := 19) hx hb hg i_CA t_CA o_CA n_CA hown hK hP46 hD46 hS45 0 rfl rfl 14 (by decide) (hg _ k3_201) (fun _ h9 => h9) rfl hnm rfl (by decide +kernel) rfl rfl (Nat.le_of_ble_eq_true rfl) d_CA_init_144 (fun H47 locs47 hP47 hD47 hS47 => ?_)
  clear hP46 hD46 hS45
  replace hP47 : va_P D vwCl ((h0, .inr (0, [.ref q8, .int 0, .ref q19, .ref q30, .ref q41, .ref q52, .int 0, .int (-1), .int (-1), .ref q78, .ref q89, .ref q104, .ref q115, .ref q126, .ref q137, .null, .null, .null, .int 0])) :: T141) _ := hP47
  replace hD47 : va_D A ((h0, .inr (0, [.ref q8, .int 0, .ref q19, .ref q30, .ref q41, .ref q52, .int 0, .int (-1), .int (-1), .ref q78, .ref q89, .ref q104, .ref q115, .ref q126, .ref q137, .null, .null, .null, .int 0])) :: T141) := hD47
  refine lv_aload_n hx hb d_CA_init_147 rfl (lv_at hl 0 rfl) ?_
  refine va_new (ci := 9) (fs := [.null, .int 0]) (C := R_Na) (T := T_Na) (N := 2) hx hb hg i_Na t_Na o_Na hown (hg _ k3_183) (hg _ k2_234) (hg _ k1_10) hK hP47 hD47 hS47 hA rfl f_Na (Nat.le_of_ble_eq_true rfl) (Nat.le_of_ble_eq_true rfl) d_CA_init_148 (fun q148 H48 hP48 hD48 hS48 => ?_)
  clear hP47 hD47 hS47
  refine lv_dup hx hb d_CA_init_151 rfl ?_
  refine zInit hP48 hD48 hS48 hA (va_runIN (As := []) (rest := [.ref q148, .ref h0]) ⟨hx, hb, hml, hown, hg⟩ (c_Na_init l D tA q148 H48.size) ⟨va_cnB 0 hg (zGood k2_237 rfl) rfl rfl rfl (va_Nw.of rfl (hg _ k3_184)) (hg _ k1_10) (by decide +kernel) ⟨(Nat.le_of_ble_eq_true rfl), (Nat.le_of_ble_eq_true rfl)⟩, rfl, hg _ k2_236⟩ (zPreI hh hK hP48 hD48) rfl rfl hl.1 rfl (lv_room (Nat.le_of_ble_eq_true rfl)) d_CA_init_152 ⟨(Nat.le_of_ble_eq_true rfl), (Nat.le_of_ble_eq_true rfl)⟩) (fun u148 H49 locs49 _ hP49 hD49 hS49 => ?_)
  clear hP48 hD48 hS48
  refine zCons (fun T152 e152 hP50 hD50 => ?_) hP49 hD49
  clear hP49 hD49
  refine va_putF (D := D) (ci := 0) (v := .ref q148) (ty := .object "ChanceArena$Natural") (C := R_CA) (T := T_CA) (N := 19) hx hb hg i_CA t_CA o_CA n_CA hown hK hP50 hD50 hS49 0 rfl rfl 15 (by decide) (hg _ k3_202) (fun _ h9 => h9) rfl hnm rfl (by decide +kernel) rfl rfl (Nat.le_of_ble_eq_true rfl) d_CA_init_155 (fun H51 locs51 hP51 hD51 hS51 => ?_)
  clear hP50 hD50 hS49
  replace hP51 : va_P D vwCl ((h0, .inr (0, [.ref q8, .int 0, .ref q19, .ref q30, .ref q41, .ref q52, .int 0, .int (-1), .int (-1), .ref q78, .ref q89, .ref q104, .ref q115, .ref q126, .ref q137, .ref q148, .null, .null, .int 0])) :: T152) _ := hP51
  replace hD51 : va_D A ((h0, .inr (0, [.ref q8, .int 0, .ref q19, .ref q30, .ref q41, .ref q52, .int 0, .int (-1), .int (-1), .ref q78, .ref q89, .ref q104, .ref q115, .ref q126, .ref q137, .ref q148, .null, .null, .int 0])) :: T152) := hD51
  refine lv_aload_n hx hb d_CA_init_158 rfl (lv_at hl 0 rfl) ?_
  refine va_new (ci := 10) (fs := [.null, .null, .int 0]) (C := R_Fr) (T := T_Fr) (N := 3) hx hb hg i_Fr t_Fr o_Fr hown (hg _ k3_185) (hg _ k3_11) (hg _ k1_11) hK hP51 hD51 hS51 hA rfl f_Fr (Nat.le_of_ble_eq_true rfl) (Nat.le_of_ble_eq_true rfl) d_CA_init_159 (fun q159 H52 hP52 hD52 hS52 => ?_)
  clear hP51 hD51 hS51
  refine lv_dup hx hb d_CA_init_162 rfl ?_
  refine zInit hP52 hD52 hS52 hA (va_runIN (As := []) (rest := [.ref q159, .ref h0]) ⟨hx, hb, hml, hown, hg⟩ (c_Fr_init l D tA q159 H52.size) ⟨va_cnB 0 hg (zGood k3_14 rfl) rfl rfl rfl (va_Nw.of rfl (hg _ k3_186)) (hg _ k1_11) (by decide +kernel) ⟨(Nat.le_of_ble_eq_true rfl), (Nat.le_of_ble_eq_true rfl)⟩, rfl, hg _ k3_13⟩ (zPreI hh hK hP52 hD52) rfl rfl hl.1 rfl (lv_room (Nat.le_of_ble_eq_true rfl)) d_CA_init_163 ⟨(Nat.le_of_ble_eq_true rfl), (Nat.le_of_ble_eq_true rfl)⟩) (fun u159 H53 locs53 _ hP53 hD53 hS53 => ?_)
  clear hP52 hD52 hS52
  refine zCons (fun T163 e163 hP54 hD54 => ?_) hP53 hD53
  clear hP53 hD53
  refine va_putF (D := D) (ci := 0) (v := .ref q159) (ty := .object "ChanceArena$Fraction") (C := R_CA) (T := T_CA) (N := 19) hx hb hg i_CA t_CA o_CA n_CA hown hK hP54 hD54 hS53 0 rfl rfl 16 (by decide) (hg _ k3_203) (fun _ h9 => h9) rfl hnm rfl (by decide +kernel) rfl rfl (Nat.le_of_ble_eq_true rfl) d_CA_init_166 (fun H55 locs55 hP55 hD55 hS55 => ?_)
  clear hP54 hD54 hS53
  replace hP55 : va_P D vwCl ((h0, .inr (0, [.ref q8, .int 0, .ref q19, .ref q30, .ref q41, .ref q52, .int 0, .int (-1), .int (-1), .ref q78, .ref q89, .ref q104, .ref q115, .ref q126, .ref q137, .ref q148, .ref q159, .null, .int 0])) :: T163) _ := hP55
  replace hD55 : va_D A ((h0, .inr (0, [.ref q8, .int 0, .ref q19, .ref q30, .ref q41, .ref q52, .int 0, .int (-1), .int (-1), .ref q78, .ref q89, .ref q104, .ref q115, .ref q126, .ref q137, .ref q148, .ref q159, .null, .int 0])) :: T163) := hD55
  refine lv_aload_n hx hb d_CA_init_169 rfl (lv_at hl 0 rfl) ?_
  refine lv_sipush (v := 400) hx hb d_CA_init_170 (by decide) ?_
  refine zNewa (atype := .char) (ty := .char) (a0 := (400, .inl (fun _ => 0))) (N' := 400) hx hb rfl (hg _ k1_81) hK hP55 hD55 hS55 hA 2 rfl (fun _ h => by cases h) (fun _ => rfl) (by decide) (by decide) (by decide) (Nat.le_of_ble_eq_true rfl) (Nat.le_of_ble_eq_true rfl) d_CA_init_173 (fun q173 H56 hP56 hD56 hS56 => ?_)
  clear hP55 hD55 hS55
  refine zCons (fun T173 e173 hP57 hD57 => ?_) hP56 hD56
  clear hP56 hD56
  refine va_putF (D := D) (ci := 0) (v := .ref q173) (ty := .array .char) (C := R_CA) (T := T_CA) (N := 19) hx hb hg i_CA t_CA o_CA n_CA hown hK hP57 hD57 hS56 0 rfl rfl 17 (by decide) (hg _ k3_204) (fun _ h9 => h9) rfl hnm rfl (by decide +kernel) rfl rfl (Nat.le_of_ble_eq_true rfl) d_CA_init_175 (fun H58 locs58 hP58 hD58 hS58 => ?_)
  clear hP57 hD57 hS56
  replace hP58 : va_P D vwCl ((h0, .inr (0, [.ref q8, .int 0, .ref q19, .ref q30, .ref q41, .ref q52, .int 0, .int (-1), .int (-1), .ref q78, .ref q89, .ref q104, .ref q115, .ref q126, .ref q137, .ref q148, .ref q159, .ref q173, .int 0])) :: T173) _ := hP58
  replace hD58 : va_D A ((h0, .inr (0, [.ref q8, .int 0, .ref q19, .ref q30, .ref q41, .ref q52, .int 0, .int (-1), .int (-1), .ref q78, .ref q89, .ref q104, .ref q115, .ref q126, .ref q137, .ref q148, .ref q159, .ref q173, .int 0])) :: T173) := hD58
  refine lv_aload_n hx hb d_CA_init_178 rfl (lv_at hl 0 rfl) ?_
  refine lv_iconst (v := 0) hx hb d_CA_init_179 (by decide) ?_
  refine va_put (D := D) (ci := 0) (v := .int 0) (ty := .int) (C := R_CA) (T := T_CA) (N := 19) hx hb hg i_CA t_CA o_CA n_CA hown hK hP58 hD58 hS58 0 rfl rfl 18 (by decide) (hg _ k3_205) (fun _ h9 => h9) rfl (by decide +kernel) rfl rfl (Nat.le_of_ble_eq_true rfl) d_CA_init_180 (fun H59 locs59 hP59 hD59 hS59 => ?_)
  clear hP58 hD58 hS58
  replace hP59 : va_P D vwCl ((h0, .inr (0, [.ref q8, .int 0, .ref q19, .ref q30, .ref q41, .ref q52, .int 0, .int (-1), .int (-1), .ref q78, .ref q89, .ref q104, .ref q115, .ref q126, .ref q137, .ref q148, .ref q159, .ref q173, .int 0])) :: T173) _ := hP59
  replace hD59 : va_D A ((h0, .inr (0, [.ref q8, .int 0, .ref q19, .ref q30, .ref q41, .ref q52, .int 0, .int (-1), .int (-1), .ref q78, .ref q89, .ref q104, .ref q115, .ref q126, .ref q137, .ref q148, .ref q159, .ref q173, .int 0])) :: T173) := hD59
  refine W.cs (cells' := 235) (slots' := 48665) rfl rfl ?_
  exact zVret hx hb hr hlocks hP59 hD59 hS59 (q8, (q19, u19), (q30, u30), (q41, u41), (q52, u52), (q78, u78), (q89, u89), (q104, u104), (q115, u115), (q126, u126), (q137, u137), (q148, u148), (q159, u159), q173) trivial (by rw [e173, e163, e152, e141, e130, e119, e108, e97, e82, e56, e45, e34, e23, e8]; rfl) d_CA_init_183
