theorem k1_1 : (Jvm.Cond.initialized "ChanceArena") ∈ lw_R := zR (zk_1 _ (List.mem_of_getElem? (i := 1) rfl)) rfl
theorem k1_2 : (Jvm.Cond.initialized "ChanceArena$Words") ∈ lw_R := zR (zk_1 _ (List.mem_of_getElem? (i := 2) rfl)) rfl
theorem k1_3 : (Jvm.Cond.initialized "ChanceArena$TextReader") ∈ lw_R := zR (zk_1 _ (List.mem_of_getElem? (i := 3) rfl)) rfl
theorem k1_4 : (Jvm.Cond.initialized "ChanceArena$RuleReader") ∈ lw_R := zR (zk_1 _ (List.mem_of_getElem? (i := 4) rfl)) rfl
theorem k1_5 : (Jvm.Cond.initialized "ChanceArena$Machine") ∈ lw_R := zR (zk_1 _ (List.mem_of_getElem? (i := 5) rfl)) rfl
theorem k1_6 : (Jvm.Cond.initialized "ChanceArena$Program") ∈ lw_R := zR (zk_1 _ (List.mem_of_getElem? (i := 6) rfl)) rfl
theorem k1_7 : (Jvm.Cond.initialized "ChanceArena$Game") ∈ lw_R := zR (zk_1 _ (List.mem_of_getElem? (i := 7) rfl)) rfl
theorem k1_8 : (Jvm.Cond.initialized "ChanceArena$Solver") ∈ lw_R := zR (zk_1 _ (List.mem_of_getElem? (i := 8) rfl)) rfl
theorem k1_9 : (Jvm.Cond.initialized "ChanceArena$Scales") ∈ lw_R := zR (zk_1 _ (List.mem_of_getElem? (i := 9) rfl)) rfl
theorem k1_10 : (Jvm.Cond.initialized "ChanceArena$Natural") ∈ lw_R := zR (zk_1 _ (List.mem_of_getElem? (i := 10) rfl)) rfl
theorem k1_11 : (Jvm.Cond.initialized "ChanceArena$Fraction") ∈ lw_R := zR (zk_1 _ (List.mem_of_getElem? (i := 11) rfl)) rfl
theorem k1_12 : (Jvm.Cond.initialized "ChanceArena$Residues") ∈ lw_R := zR (zk_1 _ (List.mem_of_getElem? (i := 12) rfl)) rfl
theorem k1_13 : (Jvm.Cond.initialized "ChanceArena$Fractions") ∈ lw_R := zR (zk_1 _ (List.mem_of_getElem? (i := 13) rfl)) rfl
theorem k1_14 : (Jvm.Cond.initialized "ChanceArenaModel") ∈ lw_R := zR (zk_1 _ (List.mem_of_getElem? (i := 14) rfl)) rfl
theorem k1_15 : (Jvm.Cond.initialized "ChanceArenaModel$Numbers") ∈ lw_R := zR (zk_1 _ (List.mem_of_getElem? (i := 15) rfl)) rfl
theorem k1_16 : (Jvm.Cond.initialized "ChanceArenaModel$Game") ∈ lw_R := zR (zk_1 _ (List.mem_of_getElem? (i := 16) rfl)) rfl
theorem k1_17 : (Jvm.Cond.initialized "ChanceArenaModel$Solver") ∈ lw_R := zR (zk_1 _ (List.mem_of_getElem? (i := 17) rfl)) rfl
theorem k1_18 : (Jvm.Cond.initialized "ChanceArenaModel$Sums") ∈ lw_R := zR (zk_1 _ (List.mem_of_getElem? (i := 18) rfl)) rfl
theorem k1_19 : (Jvm.Cond.initialized "ChanceArenaModel$Fraction") ∈ lw_R := zR (zk_1 _ (List.mem_of_getElem? (i := 19) rfl)) rfl
theorem k1_20 : (Jvm.Cond.initialized "ChanceArenaModel$Whole") ∈ lw_R := zR (zk_1 _ (List.mem_of_getElem? (i := 20) rfl)) rfl
theorem k1_21 : (Jvm.Cond.initialized "java/lang/System") ∈ lw_R := zR (zk_1 _ (List.mem_of_getElem? (i := 21) rfl)) rfl
theorem k1_30 : (Jvm.Cond.initialized "java/lang/Math") ∈ lw_R := zR (zk_1 _ (List.mem_of_getElem? (i := 30) rfl)) rfl
theorem k1_31 : (Jvm.Cond.initialized "java/util/Arrays") ∈ lw_R := zR (zk_1 _ (List.mem_of_getElem? (i := 31) rfl)) rfl
theorem k1_32 : (Jvm.Cond.initialized "java/lang/Long") ∈ lw_R := zR (zk_1 _ (List.mem_of_getElem? (i := 32) rfl)) rfl
theorem k1_35 : (Jvm.Cond.initialized "java/lang/Integer") ∈ lw_R := zR (zk_1 _ (List.mem_of_getElem? (i := 35) rfl)) rfl
theorem k1_45 : (Jvm.Cond.methodLink "ChanceArena" (1 : Nat) ({ cls := "java/lang/Object", name := "<init>", desc := "()V" } : Jvm.MethodName)) ∈ lw_R := zR (zk_1 _ (List.mem_of_getElem? (i := 45) rfl)) rfl
theorem k1_46 : (Jvm.Cond.instanceMethod ({ cls := "java/lang/Object", name := "<init>", desc := "()V" } : Jvm.MethodName)) ∈ lw_R := zR (zk_1 _ (List.mem_of_getElem? (i := 46) rfl)) rfl
theorem k1_47 : (Jvm.Cond.code ({ cls := "java/lang/Object", name := "<init>", desc := "()V" } : Jvm.MethodName) object_method_1_code (1 : Nat) (Option.none : Option Jvm.ClassFile.FieldType)) ∈ lw_R := zR (zk_1 _ (List.mem_of_getElem? (i := 47) rfl)) rfl
theorem k1_48 : (Jvm.Cond.classLink "ChanceArena" (17 : Nat) "ChanceArena$Words") ∈ lw_R := zR (zk_1 _ (List.mem_of_getElem? (i := 48) rfl)) rfl
theorem k1_49 : (Jvm.Cond.instantiable "ChanceArena$Words" (6 : Nat)) ∈ lw_R := zR (zk_1 _ (List.mem_of_getElem? (i := 49) rfl)) rfl
theorem k1_50 : (Jvm.Cond.methodLinkNest "ChanceArena" (19 : Nat) ({ cls := "ChanceArena$Words", name := "<init>", desc := "()V" } : Jvm.MethodName) "ChanceArena") ∈ lw_R := zR (zk_1 _ (List.mem_of_getElem? (i := 50) rfl)) rfl
theorem k1_51 : (Jvm.Cond.instanceMethod ({ cls := "ChanceArena$Words", name := "<init>", desc := "()V" } : Jvm.MethodName)) ∈ lw_R := zR (zk_1 _ (List.mem_of_getElem? (i := 51) rfl)) rfl
theorem k1_52 : (Jvm.Cond.code ({ cls := "ChanceArena$Words", name := "<init>", desc := "()V" } : Jvm.MethodName) prog_13_method_1_code (1 : Nat) (Option.none : Option Jvm.ClassFile.FieldType)) ∈ lw_R := zR (zk_1 _ (List.mem_of_getElem? (i := 52) rfl)) rfl
theorem k1_53 : (Jvm.Cond.methodLink "ChanceArena$Words" (3 : Nat) ({ cls := "java/lang/Object", name := "<init>", desc := "()V" } : Jvm.MethodName)) ∈ lw_R := zR (zk_1 _ (List.mem_of_getElem? (i := 53) rfl)) rfl
theorem k1_54 : (Jvm.Cond.fieldLink "ChanceArena$Words" (9 : Nat) "ChanceArena$Words" "tape" "[C") ∈ lw_R := zR (zk_1 _ (List.mem_of_getElem? (i := 54) rfl)) rfl
theorem k1_55 : (Jvm.Cond.fieldLink "ChanceArena$Words" (25 : Nat) "ChanceArena$Words" "length" "I") ∈ lw_R := zR (zk_1 _ (List.mem_of_getElem? (i := 55) rfl)) rfl
theorem k1_56 : (Jvm.Cond.fieldLink "ChanceArena$TextReader" (92 : Nat) "ChanceArena$Words" "length" "I") ∈ lw_R := zR (zk_1 _ (List.mem_of_getElem? (i := 56) rfl)) rfl
theorem k1_57 : (Jvm.Cond.fieldLink "ChanceArena$Words" (29 : Nat) "ChanceArena$Words" "count" "I") ∈ lw_R := zR (zk_1 _ (List.mem_of_getElem? (i := 57) rfl)) rfl
theorem k1_58 : (Jvm.Cond.fieldLink "ChanceArena$TextReader" (40 : Nat) "ChanceArena$Words" "count" "I") ∈ lw_R := zR (zk_1 _ (List.mem_of_getElem? (i := 58) rfl)) rfl
theorem k1_59 : (Jvm.Cond.fieldLink "ChanceArena$RuleReader" (97 : Nat) "ChanceArena$Words" "count" "I") ∈ lw_R := zR (zk_1 _ (List.mem_of_getElem? (i := 59) rfl)) rfl
theorem k1_60 : (Jvm.Cond.fieldLink "ChanceArena$Words" (15 : Nat) "ChanceArena$Words" "sorts" "[I") ∈ lw_R := zR (zk_1 _ (List.mem_of_getElem? (i := 60) rfl)) rfl
theorem k1_61 : (Jvm.Cond.fieldLink "ChanceArena$TextReader" (56 : Nat) "ChanceArena$Words" "sorts" "[I") ∈ lw_R := zR (zk_1 _ (List.mem_of_getElem? (i := 61) rfl)) rfl
theorem k1_62 : (Jvm.Cond.fieldLink "ChanceArena$RuleReader" (69 : Nat) "ChanceArena$Words" "sorts" "[I") ∈ lw_R := zR (zk_1 _ (List.mem_of_getElem? (i := 62) rfl)) rfl
theorem k1_63 : (Jvm.Cond.fieldLink "ChanceArena$Words" (19 : Nat) "ChanceArena$Words" "starts" "[I") ∈ lw_R := zR (zk_1 _ (List.mem_of_getElem? (i := 63) rfl)) rfl
theorem k1_64 : (Jvm.Cond.fieldLink "ChanceArena$RuleReader" (64 : Nat) "ChanceArena$Words" "starts" "[I") ∈ lw_R := zR (zk_1 _ (List.mem_of_getElem? (i := 64) rfl)) rfl
theorem k1_65 : (Jvm.Cond.fieldLink "ChanceArena$TextReader" (113 : Nat) "ChanceArena$Words" "starts" "[I") ∈ lw_R := zR (zk_1 _ (List.mem_of_getElem? (i := 65) rfl)) rfl
theorem k1_66 : (Jvm.Cond.fieldLink "ChanceArena$Words" (22 : Nat) "ChanceArena$Words" "amounts" "[I") ∈ lw_R := zR (zk_1 _ (List.mem_of_getElem? (i := 66) rfl)) rfl
theorem k1_67 : (Jvm.Cond.fieldLink "ChanceArena$RuleReader" (72 : Nat) "ChanceArena$Words" "amounts" "[I") ∈ lw_R := zR (zk_1 _ (List.mem_of_getElem? (i := 67) rfl)) rfl
theorem k1_81 : (Jvm.Cond.arrayClass Jvm.ClassFile.FieldType.char) ∈ lw_R := zR (zk_1 _ (List.mem_of_getElem? (i := 81) rfl)) rfl
theorem k1_82 : (Jvm.Cond.arrayClass Jvm.ClassFile.FieldType.int) ∈ lw_R := zR (zk_1 _ (List.mem_of_getElem? (i := 82) rfl)) rfl
theorem k1_83 : (Jvm.Cond.classLink "ChanceArena" (24 : Nat) "ChanceArena$TextReader") ∈ lw_R := zR (zk_1 _ (List.mem_of_getElem? (i := 83) rfl)) rfl
theorem k1_84 : (Jvm.Cond.instantiable "ChanceArena$TextReader" (9 : Nat)) ∈ lw_R := zR (zk_1 _ (List.mem_of_getElem? (i := 84) rfl)) rfl
theorem k1_85 : (Jvm.Cond.methodLinkNest "ChanceArena" (26 : Nat) ({ cls := "ChanceArena$TextReader", name := "<init>", desc := "()V" } : Jvm.MethodName) "ChanceArena") ∈ lw_R := zR (zk_1 _ (List.mem_of_getElem? (i := 85) rfl)) rfl
theorem k1_86 : (Jvm.Cond.instanceMethod ({ cls := "ChanceArena$TextReader", name := "<init>", desc := "()V" } : Jvm.MethodName)) ∈ lw_R := zR (zk_1 _ (List.mem_of_getElem? (i := 86) rfl)) rfl
theorem k1_87 : (Jvm.Cond.code ({ cls := "ChanceArena$TextReader", name := "<init>", desc := "()V" } : Jvm.MethodName) prog_12_method_1_code (1 : Nat) (Option.none : Option Jvm.ClassFile.FieldType)) ∈ lw_R := zR (zk_1 _ (List.mem_of_getElem? (i := 87) rfl)) rfl
theorem k1_88 : (Jvm.Cond.methodLink "ChanceArena$TextReader" (3 : Nat) ({ cls := "java/lang/Object", name := "<init>", desc := "()V" } : Jvm.MethodName)) ∈ lw_R := zR (zk_1 _ (List.mem_of_getElem? (i := 88) rfl)) rfl
theorem k1_89 : (Jvm.Cond.classLink "ChanceArena$TextReader" (9 : Nat) "ChanceArena$RuleReader") ∈ lw_R := zR (zk_1 _ (List.mem_of_getElem? (i := 89) rfl)) rfl
theorem k1_90 : (Jvm.Cond.instantiable "ChanceArena$RuleReader" (20 : Nat)) ∈ lw_R := zR (zk_1 _ (List.mem_of_getElem? (i := 90) rfl)) rfl
theorem k1_91 : (Jvm.Cond.methodLinkNest "ChanceArena$TextReader" (11 : Nat) ({ cls := "ChanceArena$RuleReader", name := "<init>", desc := "()V" } : Jvm.MethodName) "ChanceArena") ∈ lw_R := zR (zk_1 _ (List.mem_of_getElem? (i := 91) rfl)) rfl
theorem k1_92 : (Jvm.Cond.instanceMethod ({ cls := "ChanceArena$RuleReader", name := "<init>", desc := "()V" } : Jvm.MethodName)) ∈ lw_R := zR (zk_1 _ (List.mem_of_getElem? (i := 92) rfl)) rfl
theorem k1_93 : (Jvm.Cond.code ({ cls := "ChanceArena$RuleReader", name := "<init>", desc := "()V" } : Jvm.MethodName) prog_9_method_1_code (1 : Nat) (Option.none : Option Jvm.ClassFile.FieldType)) ∈ lw_R := zR (zk_1 _ (List.mem_of_getElem? (i := 93) rfl)) rfl
theorem k1_94 : (Jvm.Cond.methodLink "ChanceArena$RuleReader" (3 : Nat) ({ cls := "java/lang/Object", name := "<init>", desc := "()V" } : Jvm.MethodName)) ∈ lw_R := zR (zk_1 _ (List.mem_of_getElem? (i := 94) rfl)) rfl
theorem k1_95 : (Jvm.Cond.fieldLink "ChanceArena$RuleReader" (40 : Nat) "ChanceArena$RuleReader" "words" "LChanceArena$Words;") ∈ lw_R := zR (zk_1 _ (List.mem_of_getElem? (i := 95) rfl)) rfl
theorem k1_96 : (Jvm.Cond.fieldLink "ChanceArena$TextReader" (109 : Nat) "ChanceArena$RuleReader" "words" "LChanceArena$Words;") ∈ lw_R := zR (zk_1 _ (List.mem_of_getElem? (i := 96) rfl)) rfl
theorem k1_97 : (Jvm.Cond.fieldLink "ChanceArena$RuleReader" (44 : Nat) "ChanceArena$RuleReader" "text" "LChanceArena$Program;") ∈ lw_R := zR (zk_1 _ (List.mem_of_getElem? (i := 97) rfl)) rfl
theorem k1_98 : (Jvm.Cond.fieldLink "ChanceArena$RuleReader" (48 : Nat) "ChanceArena$RuleReader" "at" "I") ∈ lw_R := zR (zk_1 _ (List.mem_of_getElem? (i := 98) rfl)) rfl
theorem k1_99 : (Jvm.Cond.fieldLink "ChanceArena$TextReader" (59 : Nat) "ChanceArena$RuleReader" "at" "I") ∈ lw_R := zR (zk_1 _ (List.mem_of_getElem? (i := 99) rfl)) rfl
theorem k1_100 : (Jvm.Cond.fieldLink "ChanceArena$RuleReader" (52 : Nat) "ChanceArena$RuleReader" "fault" "I") ∈ lw_R := zR (zk_1 _ (List.mem_of_getElem? (i := 100) rfl)) rfl
theorem k1_101 : (Jvm.Cond.fieldLink "ChanceArena$TextReader" (76 : Nat) "ChanceArena$RuleReader" "fault" "I") ∈ lw_R := zR (zk_1 _ (List.mem_of_getElem? (i := 101) rfl)) rfl
theorem k1_102 : (Jvm.Cond.fieldLink "ChanceArena$TextReader" (32 : Nat) "ChanceArena$RuleReader" "place" "I") ∈ lw_R := zR (zk_1 _ (List.mem_of_getElem? (i := 102) rfl)) rfl
theorem k1_103 : (Jvm.Cond.fieldLink "ChanceArena$RuleReader" (55 : Nat) "ChanceArena$RuleReader" "place" "I") ∈ lw_R := zR (zk_1 _ (List.mem_of_getElem? (i := 103) rfl)) rfl
theorem k1_104 : (Jvm.Cond.fieldLink "ChanceArena$RuleReader" (58 : Nat) "ChanceArena$RuleReader" "depth" "I") ∈ lw_R := zR (zk_1 _ (List.mem_of_getElem? (i := 104) rfl)) rfl
theorem k1_105 : (Jvm.Cond.fieldLink "ChanceArena$TextReader" (222 : Nat) "ChanceArena$RuleReader" "depth" "I") ∈ lw_R := zR (zk_1 _ (List.mem_of_getElem? (i := 105) rfl)) rfl
theorem k1_106 : (Jvm.Cond.fieldLink "ChanceArena$TextReader" (125 : Nat) "ChanceArena$RuleReader" "constsOnly" "Z") ∈ lw_R := zR (zk_1 _ (List.mem_of_getElem? (i := 106) rfl)) rfl
theorem k1_107 : (Jvm.Cond.fieldLink "ChanceArena$RuleReader" (122 : Nat) "ChanceArena$RuleReader" "constsOnly" "Z") ∈ lw_R := zR (zk_1 _ (List.mem_of_getElem? (i := 107) rfl)) rfl
theorem k1_108 : (Jvm.Cond.fieldLink "ChanceArena$RuleReader" (93 : Nat) "ChanceArena$RuleReader" "operandWanted" "Z") ∈ lw_R := zR (zk_1 _ (List.mem_of_getElem? (i := 108) rfl)) rfl
theorem k1_109 : (Jvm.Cond.fieldLink "ChanceArena$RuleReader" (11 : Nat) "ChanceArena$RuleReader" "open" "[I") ∈ lw_R := zR (zk_1 _ (List.mem_of_getElem? (i := 109) rfl)) rfl
theorem k1_110 : (Jvm.Cond.fieldLink "ChanceArena$RuleReader" (15 : Nat) "ChanceArena$RuleReader" "openPlace" "[I") ∈ lw_R := zR (zk_1 _ (List.mem_of_getElem? (i := 110) rfl)) rfl
theorem k1_111 : (Jvm.Cond.fieldLink "ChanceArena$RuleReader" (18 : Nat) "ChanceArena$RuleReader" "openOrder" "[I") ∈ lw_R := zR (zk_1 _ (List.mem_of_getElem? (i := 111) rfl)) rfl
theorem k1_112 : (Jvm.Cond.fieldLink "ChanceArena$RuleReader" (21 : Nat) "ChanceArena$RuleReader" "openMarks" "[I") ∈ lw_R := zR (zk_1 _ (List.mem_of_getElem? (i := 112) rfl)) rfl
theorem k1_113 : (Jvm.Cond.fieldLink "ChanceArena$RuleReader" (87 : Nat) "ChanceArena$RuleReader" "opened" "I") ∈ lw_R := zR (zk_1 _ (List.mem_of_getElem? (i := 113) rfl)) rfl
theorem k1_114 : (Jvm.Cond.fieldLink "ChanceArena$RuleReader" (24 : Nat) "ChanceArena$RuleReader" "truths" "[Z") ∈ lw_R := zR (zk_1 _ (List.mem_of_getElem? (i := 114) rfl)) rfl
theorem k1_115 : (Jvm.Cond.fieldLink "ChanceArena$RuleReader" (90 : Nat) "ChanceArena$RuleReader" "operandCount" "I") ∈ lw_R := zR (zk_1 _ (List.mem_of_getElem? (i := 115) rfl)) rfl
theorem k1_116 : (Jvm.Cond.fieldLink "ChanceArena$RuleReader" (28 : Nat) "ChanceArena$RuleReader" "nameWord" "[I") ∈ lw_R := zR (zk_1 _ (List.mem_of_getElem? (i := 116) rfl)) rfl
theorem k1_117 : (Jvm.Cond.fieldLink "ChanceArena$RuleReader" (31 : Nat) "ChanceArena$RuleReader" "nameSort" "[I") ∈ lw_R := zR (zk_1 _ (List.mem_of_getElem? (i := 117) rfl)) rfl
theorem k1_118 : (Jvm.Cond.fieldLink "ChanceArena$RuleReader" (34 : Nat) "ChanceArena$RuleReader" "nameIndex" "[I") ∈ lw_R := zR (zk_1 _ (List.mem_of_getElem? (i := 118) rfl)) rfl
theorem k1_119 : (Jvm.Cond.fieldLink "ChanceArena$RuleReader" (37 : Nat) "ChanceArena$RuleReader" "nameTruth" "[Z") ∈ lw_R := zR (zk_1 _ (List.mem_of_getElem? (i := 119) rfl)) rfl
theorem k1_120 : (Jvm.Cond.fieldLink "ChanceArena$RuleReader" (61 : Nat) "ChanceArena$RuleReader" "nameCount" "I") ∈ lw_R := zR (zk_1 _ (List.mem_of_getElem? (i := 120) rfl)) rfl
theorem k1_162 : (Jvm.Cond.arrayClass Jvm.ClassFile.FieldType.boolean) ∈ lw_R := zR (zk_1 _ (List.mem_of_getElem? (i := 162) rfl)) rfl
theorem k1_163 : (Jvm.Cond.classLink "ChanceArena$TextReader" (18 : Nat) "ChanceArena$Machine") ∈ lw_R := zR (zk_1 _ (List.mem_of_getElem? (i := 163) rfl)) rfl
theorem k1_164 : (Jvm.Cond.instantiable "ChanceArena$Machine" (16 : Nat)) ∈ lw_R := zR (zk_1 _ (List.mem_of_getElem? (i := 164) rfl)) rfl
theorem k1_165 : (Jvm.Cond.methodLinkNest "ChanceArena$TextReader" (20 : Nat) ({ cls := "ChanceArena$Machine", name := "<init>", desc := "()V" } : Jvm.MethodName) "ChanceArena") ∈ lw_R := zR (zk_1 _ (List.mem_of_getElem? (i := 165) rfl)) rfl
theorem k1_166 : (Jvm.Cond.instanceMethod ({ cls := "ChanceArena$Machine", name := "<init>", desc := "()V" } : Jvm.MethodName)) ∈ lw_R := zR (zk_1 _ (List.mem_of_getElem? (i := 166) rfl)) rfl
theorem k1_167 : (Jvm.Cond.code ({ cls := "ChanceArena$Machine", name := "<init>", desc := "()V" } : Jvm.MethodName) prog_5_method_1_code (1 : Nat) (Option.none : Option Jvm.ClassFile.FieldType)) ∈ lw_R := zR (zk_1 _ (List.mem_of_getElem? (i := 167) rfl)) rfl
theorem k1_168 : (Jvm.Cond.methodLink "ChanceArena$Machine" (3 : Nat) ({ cls := "java/lang/Object", name := "<init>", desc := "()V" } : Jvm.MethodName)) ∈ lw_R := zR (zk_1 _ (List.mem_of_getElem? (i := 168) rfl)) rfl
theorem k1_169 : (Jvm.Cond.fieldLink "ChanceArena$TextReader" (51 : Nat) "ChanceArena$Machine" "text" "LChanceArena$Program;") ∈ lw_R := zR (zk_1 _ (List.mem_of_getElem? (i := 169) rfl)) rfl
theorem k1_170 : (Jvm.Cond.fieldLink "ChanceArena$Machine" (59 : Nat) "ChanceArena$Machine" "text" "LChanceArena$Program;") ∈ lw_R := zR (zk_1 _ (List.mem_of_getElem? (i := 170) rfl)) rfl
theorem k1_171 : (Jvm.Cond.fieldLink "ChanceArena$Game" (76 : Nat) "ChanceArena$Machine" "text" "LChanceArena$Program;") ∈ lw_R := zR (zk_1 _ (List.mem_of_getElem? (i := 171) rfl)) rfl
theorem k1_172 : (Jvm.Cond.fieldLink "ChanceArena$Machine" (95 : Nat) "ChanceArena$Machine" "fault" "I") ∈ lw_R := zR (zk_1 _ (List.mem_of_getElem? (i := 172) rfl)) rfl
theorem k1_173 : (Jvm.Cond.fieldLink "ChanceArena$Game" (136 : Nat) "ChanceArena$Machine" "fault" "I") ∈ lw_R := zR (zk_1 _ (List.mem_of_getElem? (i := 173) rfl)) rfl
theorem k1_174 : (Jvm.Cond.fieldLink "ChanceArena$TextReader" (167 : Nat) "ChanceArena$Machine" "fault" "I") ∈ lw_R := zR (zk_1 _ (List.mem_of_getElem? (i := 174) rfl)) rfl
theorem k1_175 : (Jvm.Cond.fieldLink "ChanceArena$Machine" (98 : Nat) "ChanceArena$Machine" "place" "I") ∈ lw_R := zR (zk_1 _ (List.mem_of_getElem? (i := 175) rfl)) rfl
theorem k1_176 : (Jvm.Cond.fieldLink "ChanceArena$Game" (132 : Nat) "ChanceArena$Machine" "place" "I") ∈ lw_R := zR (zk_1 _ (List.mem_of_getElem? (i := 176) rfl)) rfl
theorem k1_177 : (Jvm.Cond.fieldLink "ChanceArena$TextReader" (168 : Nat) "ChanceArena$Machine" "place" "I") ∈ lw_R := zR (zk_1 _ (List.mem_of_getElem? (i := 177) rfl)) rfl
theorem k1_178 : (Jvm.Cond.fieldLink "ChanceArena$Machine" (9 : Nat) "ChanceArena$Machine" "numbers" "[I") ∈ lw_R := zR (zk_1 _ (List.mem_of_getElem? (i := 178) rfl)) rfl
theorem k1_179 : (Jvm.Cond.fieldLink "ChanceArena$Machine" (43 : Nat) "ChanceArena$Machine" "base" "I") ∈ lw_R := zR (zk_1 _ (List.mem_of_getElem? (i := 179) rfl)) rfl
theorem k1_180 : (Jvm.Cond.fieldLink "ChanceArena$Machine" (15 : Nat) "ChanceArena$Machine" "next" "[I") ∈ lw_R := zR (zk_1 _ (List.mem_of_getElem? (i := 180) rfl)) rfl
theorem k1_181 : (Jvm.Cond.fieldLink "ChanceArena$Game" (83 : Nat) "ChanceArena$Machine" "next" "[I") ∈ lw_R := zR (zk_1 _ (List.mem_of_getElem? (i := 181) rfl)) rfl
theorem k1_182 : (Jvm.Cond.fieldLink "ChanceArena$Machine" (18 : Nat) "ChanceArena$Machine" "above" "[I") ∈ lw_R := zR (zk_1 _ (List.mem_of_getElem? (i := 182) rfl)) rfl
theorem k1_183 : (Jvm.Cond.fieldLink "ChanceArena$Game" (129 : Nat) "ChanceArena$Machine" "above" "[I") ∈ lw_R := zR (zk_1 _ (List.mem_of_getElem? (i := 183) rfl)) rfl
theorem k1_184 : (Jvm.Cond.fieldLink "ChanceArena$TextReader" (155 : Nat) "ChanceArena$Machine" "above" "[I") ∈ lw_R := zR (zk_1 _ (List.mem_of_getElem? (i := 184) rfl)) rfl
theorem k1_185 : (Jvm.Cond.fieldLink "ChanceArena$Machine" (21 : Nat) "ChanceArena$Machine" "below" "[I") ∈ lw_R := zR (zk_1 _ (List.mem_of_getElem? (i := 185) rfl)) rfl
theorem k1_186 : (Jvm.Cond.fieldLink "ChanceArena$TextReader" (159 : Nat) "ChanceArena$Machine" "below" "[I") ∈ lw_R := zR (zk_1 _ (List.mem_of_getElem? (i := 186) rfl)) rfl
theorem k1_187 : (Jvm.Cond.fieldLink "ChanceArena$Game" (161 : Nat) "ChanceArena$Machine" "below" "[I") ∈ lw_R := zR (zk_1 _ (List.mem_of_getElem? (i := 187) rfl)) rfl
theorem k1_188 : (Jvm.Cond.fieldLink "ChanceArena$Machine" (52 : Nat) "ChanceArena$Machine" "top" "I") ∈ lw_R := zR (zk_1 _ (List.mem_of_getElem? (i := 188) rfl)) rfl
theorem k1_189 : (Jvm.Cond.fieldLink "ChanceArena$Machine" (24 : Nat) "ChanceArena$Machine" "stamp" "I") ∈ lw_R := zR (zk_1 _ (List.mem_of_getElem? (i := 189) rfl)) rfl
theorem k1_190 : (Jvm.Cond.fieldLink "ChanceArena$Machine" (28 : Nat) "ChanceArena$Machine" "stamps" "[I") ∈ lw_R := zR (zk_1 _ (List.mem_of_getElem? (i := 190) rfl)) rfl
theorem k1_191 : (Jvm.Cond.fieldLink "ChanceArena$Machine" (31 : Nat) "ChanceArena$Machine" "metAbove" "[I") ∈ lw_R := zR (zk_1 _ (List.mem_of_getElem? (i := 191) rfl)) rfl
theorem k1_192 : (Jvm.Cond.fieldLink "ChanceArena$Machine" (34 : Nat) "ChanceArena$Machine" "metBelow" "[I") ∈ lw_R := zR (zk_1 _ (List.mem_of_getElem? (i := 192) rfl)) rfl
theorem k1_193 : (Jvm.Cond.fieldLink "ChanceArena$Machine" (37 : Nat) "ChanceArena$Machine" "called" "[I") ∈ lw_R := zR (zk_1 _ (List.mem_of_getElem? (i := 193) rfl)) rfl
theorem k1_194 : (Jvm.Cond.fieldLink "ChanceArena$Machine" (40 : Nat) "ChanceArena$Machine" "back" "[I") ∈ lw_R := zR (zk_1 _ (List.mem_of_getElem? (i := 194) rfl)) rfl
theorem k1_195 : (Jvm.Cond.fieldLink "ChanceArena$Machine" (55 : Nat) "ChanceArena$Machine" "calls" "I") ∈ lw_R := zR (zk_1 _ (List.mem_of_getElem? (i := 195) rfl)) rfl
theorem k1_229 : (Jvm.Cond.fieldLink "ChanceArena$TextReader" (12 : Nat) "ChanceArena$TextReader" "rules" "LChanceArena$RuleReader;") ∈ lw_R := zR (zk_1 _ (List.mem_of_getElem? (i := 229) rfl)) rfl
theorem k1_230 : (Jvm.Cond.fieldLink "ChanceArena$TextReader" (21 : Nat) "ChanceArena$TextReader" "machine" "LChanceArena$Machine;") ∈ lw_R := zR (zk_1 _ (List.mem_of_getElem? (i := 230) rfl)) rfl
theorem k1_231 : (Jvm.Cond.fieldLink "ChanceArena$TextReader" (36 : Nat) "ChanceArena$TextReader" "text" "LChanceArena$Program;") ∈ lw_R := zR (zk_1 _ (List.mem_of_getElem? (i := 231) rfl)) rfl
theorem k1_232 : (Jvm.Cond.fieldLink "ChanceArena$TextReader" (99 : Nat) "ChanceArena$TextReader" "nameWord" "I") ∈ lw_R := zR (zk_1 _ (List.mem_of_getElem? (i := 232) rfl)) rfl
theorem k1_233 : (Jvm.Cond.fieldLink "ChanceArena$TextReader" (169 : Nat) "ChanceArena$TextReader" "itemStart" "I") ∈ lw_R := zR (zk_1 _ (List.mem_of_getElem? (i := 233) rfl)) rfl
theorem k1_234 : (Jvm.Cond.fieldLink "ChanceArena$TextReader" (25 : Nat) "ChanceArena$TextReader" "ruleStart" "[I") ∈ lw_R := zR (zk_1 _ (List.mem_of_getElem? (i := 234) rfl)) rfl
theorem k1_235 : (Jvm.Cond.fieldLink "ChanceArena$TextReader" (29 : Nat) "ChanceArena$TextReader" "rulePlace" "[I") ∈ lw_R := zR (zk_1 _ (List.mem_of_getElem? (i := 235) rfl)) rfl
theorem k1_236 : (Jvm.Cond.fieldLink "ChanceArena$TextReader" (175 : Nat) "ChanceArena$TextReader" "inited" "Z") ∈ lw_R := zR (zk_1 _ (List.mem_of_getElem? (i := 236) rfl)) rfl
theorem k1_237 : (Jvm.Cond.fieldLink "ChanceArena$TextReader" (143 : Nat) "ChanceArena$TextReader" "truth" "Z") ∈ lw_R := zR (zk_1 _ (List.mem_of_getElem? (i := 237) rfl)) rfl
theorem k2_17 : (Jvm.Cond.classLink "ChanceArena" (31 : Nat) "ChanceArena$Program") ∈ lw_R := zR (zk_2 _ (List.mem_of_getElem? (i := 17) rfl)) rfl
theorem k2_18 : (Jvm.Cond.instantiable "ChanceArena$Program" (20 : Nat)) ∈ lw_R := zR (zk_2 _ (List.mem_of_getElem? (i := 18) rfl)) rfl
theorem k2_19 : (Jvm.Cond.methodLinkNest "ChanceArena" (33 : Nat) ({ cls := "ChanceArena$Program", name := "<init>", desc := "()V" } : Jvm.MethodName) "ChanceArena") ∈ lw_R := zR (zk_2 _ (List.mem_of_getElem? (i := 19) rfl)) rfl
theorem k2_20 : (Jvm.Cond.instanceMethod ({ cls := "ChanceArena$Program", name := "<init>", desc := "()V" } : Jvm.MethodName)) ∈ lw_R := zR (zk_2 _ (List.mem_of_getElem? (i := 20) rfl)) rfl
theorem k2_21 : (Jvm.Cond.code ({ cls := "ChanceArena$Program", name := "<init>", desc := "()V" } : Jvm.MethodName) prog_7_method_1_code (1 : Nat) (Option.none : Option Jvm.ClassFile.FieldType)) ∈ lw_R := zR (zk_2 _ (List.mem_of_getElem? (i := 21) rfl)) rfl
theorem k2_22 : (Jvm.Cond.methodLink "ChanceArena$Program" (3 : Nat) ({ cls := "java/lang/Object", name := "<init>", desc := "()V" } : Jvm.MethodName)) ∈ lw_R := zR (zk_2 _ (List.mem_of_getElem? (i := 22) rfl)) rfl
theorem k2_23 : (Jvm.Cond.fieldLink "ChanceArena$Program" (9 : Nat) "ChanceArena$Program" "orders" "[I") ∈ lw_R := zR (zk_2 _ (List.mem_of_getElem? (i := 23) rfl)) rfl
theorem k2_24 : (Jvm.Cond.fieldLink "ChanceArena$Machine" (68 : Nat) "ChanceArena$Program" "orders" "[I") ∈ lw_R := zR (zk_2 _ (List.mem_of_getElem? (i := 24) rfl)) rfl
theorem k2_25 : (Jvm.Cond.fieldLink "ChanceArena$Program" (15 : Nat) "ChanceArena$Program" "operands" "[I") ∈ lw_R := zR (zk_2 _ (List.mem_of_getElem? (i := 25) rfl)) rfl
theorem k2_26 : (Jvm.Cond.fieldLink "ChanceArena$Machine" (71 : Nat) "ChanceArena$Program" "operands" "[I") ∈ lw_R := zR (zk_2 _ (List.mem_of_getElem? (i := 26) rfl)) rfl
theorem k2_27 : (Jvm.Cond.fieldLink "ChanceArena$RuleReader" (165 : Nat) "ChanceArena$Program" "operands" "[I") ∈ lw_R := zR (zk_2 _ (List.mem_of_getElem? (i := 27) rfl)) rfl
theorem k2_28 : (Jvm.Cond.fieldLink "ChanceArena$Program" (57 : Nat) "ChanceArena$Program" "length" "I") ∈ lw_R := zR (zk_2 _ (List.mem_of_getElem? (i := 28) rfl)) rfl
theorem k2_29 : (Jvm.Cond.fieldLink "ChanceArena$TextReader" (116 : Nat) "ChanceArena$Program" "length" "I") ∈ lw_R := zR (zk_2 _ (List.mem_of_getElem? (i := 29) rfl)) rfl
theorem k2_30 : (Jvm.Cond.fieldLink "ChanceArena$Machine" (63 : Nat) "ChanceArena$Program" "length" "I") ∈ lw_R := zR (zk_2 _ (List.mem_of_getElem? (i := 30) rfl)) rfl
theorem k2_31 : (Jvm.Cond.fieldLink "ChanceArena$RuleReader" (168 : Nat) "ChanceArena$Program" "length" "I") ∈ lw_R := zR (zk_2 _ (List.mem_of_getElem? (i := 31) rfl)) rfl
theorem k2_32 : (Jvm.Cond.fieldLink "ChanceArena$Program" (61 : Nat) "ChanceArena$Program" "vars" "I") ∈ lw_R := zR (zk_2 _ (List.mem_of_getElem? (i := 32) rfl)) rfl
theorem k2_33 : (Jvm.Cond.fieldLink "ChanceArena$Game" (91 : Nat) "ChanceArena$Program" "vars" "I") ∈ lw_R := zR (zk_2 _ (List.mem_of_getElem? (i := 33) rfl)) rfl
theorem k2_34 : (Jvm.Cond.fieldLink "ChanceArena$TextReader" (172 : Nat) "ChanceArena$Program" "vars" "I") ∈ lw_R := zR (zk_2 _ (List.mem_of_getElem? (i := 34) rfl)) rfl
theorem k2_35 : (Jvm.Cond.fieldLink "ChanceArena" (140 : Nat) "ChanceArena$Program" "vars" "I") ∈ lw_R := zR (zk_2 _ (List.mem_of_getElem? (i := 35) rfl)) rfl
theorem k2_36 : (Jvm.Cond.fieldLink "ChanceArena$Program" (18 : Nat) "ChanceArena$Program" "low" "[I") ∈ lw_R := zR (zk_2 _ (List.mem_of_getElem? (i := 36) rfl)) rfl
theorem k2_37 : (Jvm.Cond.fieldLink "ChanceArena$TextReader" (178 : Nat) "ChanceArena$Program" "low" "[I") ∈ lw_R := zR (zk_2 _ (List.mem_of_getElem? (i := 37) rfl)) rfl
theorem k2_38 : (Jvm.Cond.fieldLink "ChanceArena$Machine" (132 : Nat) "ChanceArena$Program" "low" "[I") ∈ lw_R := zR (zk_2 _ (List.mem_of_getElem? (i := 38) rfl)) rfl
theorem k2_39 : (Jvm.Cond.fieldLink "ChanceArena$Program" (21 : Nat) "ChanceArena$Program" "high" "[I") ∈ lw_R := zR (zk_2 _ (List.mem_of_getElem? (i := 39) rfl)) rfl
theorem k2_40 : (Jvm.Cond.fieldLink "ChanceArena$TextReader" (181 : Nat) "ChanceArena$Program" "high" "[I") ∈ lw_R := zR (zk_2 _ (List.mem_of_getElem? (i := 40) rfl)) rfl
theorem k2_41 : (Jvm.Cond.fieldLink "ChanceArena$Machine" (135 : Nat) "ChanceArena$Program" "high" "[I") ∈ lw_R := zR (zk_2 _ (List.mem_of_getElem? (i := 41) rfl)) rfl
theorem k2_42 : (Jvm.Cond.fieldLink "ChanceArena$Program" (24 : Nat) "ChanceArena$Program" "init" "[I") ∈ lw_R := zR (zk_2 _ (List.mem_of_getElem? (i := 42) rfl)) rfl
theorem k2_43 : (Jvm.Cond.fieldLink "ChanceArena$Game" (86 : Nat) "ChanceArena$Program" "init" "[I") ∈ lw_R := zR (zk_2 _ (List.mem_of_getElem? (i := 43) rfl)) rfl
theorem k2_44 : (Jvm.Cond.fieldLink "ChanceArena$TextReader" (184 : Nat) "ChanceArena$Program" "init" "[I") ∈ lw_R := zR (zk_2 _ (List.mem_of_getElem? (i := 44) rfl)) rfl
theorem k2_45 : (Jvm.Cond.fieldLink "ChanceArena$Program" (64 : Nat) "ChanceArena$Program" "names" "I") ∈ lw_R := zR (zk_2 _ (List.mem_of_getElem? (i := 45) rfl)) rfl
theorem k2_46 : (Jvm.Cond.fieldLink "ChanceArena$TextReader" (129 : Nat) "ChanceArena$Program" "names" "I") ∈ lw_R := zR (zk_2 _ (List.mem_of_getElem? (i := 46) rfl)) rfl
theorem k2_47 : (Jvm.Cond.fieldLink "ChanceArena" (143 : Nat) "ChanceArena$Program" "names" "I") ∈ lw_R := zR (zk_2 _ (List.mem_of_getElem? (i := 47) rfl)) rfl
theorem k2_48 : (Jvm.Cond.fieldLink "ChanceArena$Program" (27 : Nat) "ChanceArena$Program" "above" "[I") ∈ lw_R := zR (zk_2 _ (List.mem_of_getElem? (i := 48) rfl)) rfl
theorem k2_49 : (Jvm.Cond.fieldLink "ChanceArena$Machine" (78 : Nat) "ChanceArena$Program" "above" "[I") ∈ lw_R := zR (zk_2 _ (List.mem_of_getElem? (i := 49) rfl)) rfl
theorem k2_50 : (Jvm.Cond.fieldLink "ChanceArena$TextReader" (152 : Nat) "ChanceArena$Program" "above" "[I") ∈ lw_R := zR (zk_2 _ (List.mem_of_getElem? (i := 50) rfl)) rfl
theorem k2_51 : (Jvm.Cond.fieldLink "ChanceArena$Program" (30 : Nat) "ChanceArena$Program" "below" "[I") ∈ lw_R := zR (zk_2 _ (List.mem_of_getElem? (i := 51) rfl)) rfl
theorem k2_52 : (Jvm.Cond.fieldLink "ChanceArena$Machine" (79 : Nat) "ChanceArena$Program" "below" "[I") ∈ lw_R := zR (zk_2 _ (List.mem_of_getElem? (i := 52) rfl)) rfl
theorem k2_53 : (Jvm.Cond.fieldLink "ChanceArena$TextReader" (156 : Nat) "ChanceArena$Program" "below" "[I") ∈ lw_R := zR (zk_2 _ (List.mem_of_getElem? (i := 53) rfl)) rfl
theorem k2_54 : (Jvm.Cond.fieldLink "ChanceArena$Program" (33 : Nat) "ChanceArena$Program" "formula" "[I") ∈ lw_R := zR (zk_2 _ (List.mem_of_getElem? (i := 54) rfl)) rfl
theorem k2_55 : (Jvm.Cond.fieldLink "ChanceArena$TextReader" (149 : Nat) "ChanceArena$Program" "formula" "[I") ∈ lw_R := zR (zk_2 _ (List.mem_of_getElem? (i := 55) rfl)) rfl
theorem k2_56 : (Jvm.Cond.fieldLink "ChanceArena$Machine" (107 : Nat) "ChanceArena$Program" "formula" "[I") ∈ lw_R := zR (zk_2 _ (List.mem_of_getElem? (i := 56) rfl)) rfl
theorem k2_57 : (Jvm.Cond.fieldLink "ChanceArena$Program" (70 : Nat) "ChanceArena$Program" "target" "I") ∈ lw_R := zR (zk_2 _ (List.mem_of_getElem? (i := 57) rfl)) rfl
theorem k2_58 : (Jvm.Cond.fieldLink "ChanceArena$TextReader" (89 : Nat) "ChanceArena$Program" "target" "I") ∈ lw_R := zR (zk_2 _ (List.mem_of_getElem? (i := 58) rfl)) rfl
theorem k2_59 : (Jvm.Cond.fieldLink "ChanceArena$Game" (120 : Nat) "ChanceArena$Program" "target" "I") ∈ lw_R := zR (zk_2 _ (List.mem_of_getElem? (i := 59) rfl)) rfl
theorem k2_60 : (Jvm.Cond.fieldLink "ChanceArena$Program" (67 : Nat) "ChanceArena$Program" "commands" "I") ∈ lw_R := zR (zk_2 _ (List.mem_of_getElem? (i := 60) rfl)) rfl
theorem k2_61 : (Jvm.Cond.fieldLink "ChanceArena$Game" (108 : Nat) "ChanceArena$Program" "commands" "I") ∈ lw_R := zR (zk_2 _ (List.mem_of_getElem? (i := 61) rfl)) rfl
theorem k2_62 : (Jvm.Cond.fieldLink "ChanceArena" (146 : Nat) "ChanceArena$Program" "commands" "I") ∈ lw_R := zR (zk_2 _ (List.mem_of_getElem? (i := 62) rfl)) rfl
theorem k2_63 : (Jvm.Cond.fieldLink "ChanceArena$TextReader" (187 : Nat) "ChanceArena$Program" "commands" "I") ∈ lw_R := zR (zk_2 _ (List.mem_of_getElem? (i := 63) rfl)) rfl
theorem k2_64 : (Jvm.Cond.fieldLink "ChanceArena$Program" (36 : Nat) "ChanceArena$Program" "player" "[I") ∈ lw_R := zR (zk_2 _ (List.mem_of_getElem? (i := 64) rfl)) rfl
theorem k2_65 : (Jvm.Cond.fieldLink "ChanceArena$Game" (142 : Nat) "ChanceArena$Program" "player" "[I") ∈ lw_R := zR (zk_2 _ (List.mem_of_getElem? (i := 65) rfl)) rfl
theorem k2_66 : (Jvm.Cond.fieldLink "ChanceArena$TextReader" (195 : Nat) "ChanceArena$Program" "player" "[I") ∈ lw_R := zR (zk_2 _ (List.mem_of_getElem? (i := 66) rfl)) rfl
theorem k2_67 : (Jvm.Cond.fieldLink "ChanceArena$Program" (39 : Nat) "ChanceArena$Program" "commandPlace" "[I") ∈ lw_R := zR (zk_2 _ (List.mem_of_getElem? (i := 67) rfl)) rfl
theorem k2_68 : (Jvm.Cond.fieldLink "ChanceArena$Game" (145 : Nat) "ChanceArena$Program" "commandPlace" "[I") ∈ lw_R := zR (zk_2 _ (List.mem_of_getElem? (i := 68) rfl)) rfl
theorem k2_69 : (Jvm.Cond.fieldLink "ChanceArena$TextReader" (198 : Nat) "ChanceArena$Program" "commandPlace" "[I") ∈ lw_R := zR (zk_2 _ (List.mem_of_getElem? (i := 69) rfl)) rfl
theorem k2_70 : (Jvm.Cond.fieldLink "ChanceArena$Program" (42 : Nat) "ChanceArena$Program" "guard" "[I") ∈ lw_R := zR (zk_2 _ (List.mem_of_getElem? (i := 70) rfl)) rfl
theorem k2_71 : (Jvm.Cond.fieldLink "ChanceArena$Game" (139 : Nat) "ChanceArena$Program" "guard" "[I") ∈ lw_R := zR (zk_2 _ (List.mem_of_getElem? (i := 71) rfl)) rfl
theorem k2_72 : (Jvm.Cond.fieldLink "ChanceArena$TextReader" (201 : Nat) "ChanceArena$Program" "guard" "[I") ∈ lw_R := zR (zk_2 _ (List.mem_of_getElem? (i := 72) rfl)) rfl
theorem k2_73 : (Jvm.Cond.fieldLink "ChanceArena$Program" (45 : Nat) "ChanceArena$Program" "firstBranch" "[I") ∈ lw_R := zR (zk_2 _ (List.mem_of_getElem? (i := 73) rfl)) rfl
theorem k2_74 : (Jvm.Cond.fieldLink "ChanceArena$Game" (153 : Nat) "ChanceArena$Program" "firstBranch" "[I") ∈ lw_R := zR (zk_2 _ (List.mem_of_getElem? (i := 74) rfl)) rfl
theorem k2_75 : (Jvm.Cond.fieldLink "ChanceArena$TextReader" (204 : Nat) "ChanceArena$Program" "firstBranch" "[I") ∈ lw_R := zR (zk_2 _ (List.mem_of_getElem? (i := 75) rfl)) rfl
theorem k2_76 : (Jvm.Cond.fieldLink "ChanceArena$Program" (48 : Nat) "ChanceArena$Program" "branchPlace" "[I") ∈ lw_R := zR (zk_2 _ (List.mem_of_getElem? (i := 76) rfl)) rfl
theorem k2_77 : (Jvm.Cond.fieldLink "ChanceArena$Game" (164 : Nat) "ChanceArena$Program" "branchPlace" "[I") ∈ lw_R := zR (zk_2 _ (List.mem_of_getElem? (i := 77) rfl)) rfl
theorem k2_78 : (Jvm.Cond.fieldLink "ChanceArena$TextReader" (213 : Nat) "ChanceArena$Program" "branchPlace" "[I") ∈ lw_R := zR (zk_2 _ (List.mem_of_getElem? (i := 78) rfl)) rfl
theorem k2_79 : (Jvm.Cond.fieldLink "ChanceArena$Program" (51 : Nat) "ChanceArena$Program" "chance" "[I") ∈ lw_R := zR (zk_2 _ (List.mem_of_getElem? (i := 79) rfl)) rfl
theorem k2_80 : (Jvm.Cond.fieldLink "ChanceArena$Game" (158 : Nat) "ChanceArena$Program" "chance" "[I") ∈ lw_R := zR (zk_2 _ (List.mem_of_getElem? (i := 80) rfl)) rfl
theorem k2_81 : (Jvm.Cond.fieldLink "ChanceArena$TextReader" (216 : Nat) "ChanceArena$Program" "chance" "[I") ∈ lw_R := zR (zk_2 _ (List.mem_of_getElem? (i := 81) rfl)) rfl
theorem k2_82 : (Jvm.Cond.fieldLink "ChanceArena$Program" (54 : Nat) "ChanceArena$Program" "sets" "[I") ∈ lw_R := zR (zk_2 _ (List.mem_of_getElem? (i := 82) rfl)) rfl
theorem k2_83 : (Jvm.Cond.fieldLink "ChanceArena$Game" (176 : Nat) "ChanceArena$Program" "sets" "[I") ∈ lw_R := zR (zk_2 _ (List.mem_of_getElem? (i := 83) rfl)) rfl
theorem k2_84 : (Jvm.Cond.fieldLink "ChanceArena$TextReader" (219 : Nat) "ChanceArena$Program" "sets" "[I") ∈ lw_R := zR (zk_2 _ (List.mem_of_getElem? (i := 84) rfl)) rfl
theorem k2_126 : (Jvm.Cond.classLink "ChanceArena" (51 : Nat) "ChanceArena$Game") ∈ lw_R := zR (zk_2 _ (List.mem_of_getElem? (i := 126) rfl)) rfl
theorem k2_127 : (Jvm.Cond.instantiable "ChanceArena$Game" (19 : Nat)) ∈ lw_R := zR (zk_2 _ (List.mem_of_getElem? (i := 127) rfl)) rfl
theorem k2_128 : (Jvm.Cond.methodLinkNest "ChanceArena" (53 : Nat) ({ cls := "ChanceArena$Game", name := "<init>", desc := "()V" } : Jvm.MethodName) "ChanceArena") ∈ lw_R := zR (zk_2 _ (List.mem_of_getElem? (i := 128) rfl)) rfl
theorem k2_129 : (Jvm.Cond.instanceMethod ({ cls := "ChanceArena$Game", name := "<init>", desc := "()V" } : Jvm.MethodName)) ∈ lw_R := zR (zk_2 _ (List.mem_of_getElem? (i := 129) rfl)) rfl
theorem k2_130 : (Jvm.Cond.code ({ cls := "ChanceArena$Game", name := "<init>", desc := "()V" } : Jvm.MethodName) prog_4_method_1_code (1 : Nat) (Option.none : Option Jvm.ClassFile.FieldType)) ∈ lw_R := zR (zk_2 _ (List.mem_of_getElem? (i := 130) rfl)) rfl
theorem k2_131 : (Jvm.Cond.methodLink "ChanceArena$Game" (3 : Nat) ({ cls := "java/lang/Object", name := "<init>", desc := "()V" } : Jvm.MethodName)) ∈ lw_R := zR (zk_2 _ (List.mem_of_getElem? (i := 131) rfl)) rfl
theorem k2_132 : (Jvm.Cond.classLink "ChanceArena$Game" (39 : Nat) "ChanceArena$Machine") ∈ lw_R := zR (zk_2 _ (List.mem_of_getElem? (i := 132) rfl)) rfl
theorem k2_133 : (Jvm.Cond.methodLinkNest "ChanceArena$Game" (41 : Nat) ({ cls := "ChanceArena$Machine", name := "<init>", desc := "()V" } : Jvm.MethodName) "ChanceArena") ∈ lw_R := zR (zk_2 _ (List.mem_of_getElem? (i := 133) rfl)) rfl
theorem k2_134 : (Jvm.Cond.fieldLink "ChanceArena$Game" (55 : Nat) "ChanceArena$Game" "count" "I") ∈ lw_R := zR (zk_2 _ (List.mem_of_getElem? (i := 134) rfl)) rfl
theorem k2_135 : (Jvm.Cond.fieldLink "ChanceArena$Fractions" (31 : Nat) "ChanceArena$Game" "count" "I") ∈ lw_R := zR (zk_2 _ (List.mem_of_getElem? (i := 135) rfl)) rfl
theorem k2_136 : (Jvm.Cond.fieldLink "ChanceArena$Solver" (107 : Nat) "ChanceArena$Game" "count" "I") ∈ lw_R := zR (zk_2 _ (List.mem_of_getElem? (i := 136) rfl)) rfl
theorem k2_137 : (Jvm.Cond.fieldLink "ChanceArena$Scales" (166 : Nat) "ChanceArena$Game" "count" "I") ∈ lw_R := zR (zk_2 _ (List.mem_of_getElem? (i := 137) rfl)) rfl
theorem k2_138 : (Jvm.Cond.fieldLink "ChanceArena" (160 : Nat) "ChanceArena$Game" "count" "I") ∈ lw_R := zR (zk_2 _ (List.mem_of_getElem? (i := 138) rfl)) rfl
theorem k2_139 : (Jvm.Cond.fieldLink "ChanceArena$Game" (9 : Nat) "ChanceArena$Game" "numbers" "[I") ∈ lw_R := zR (zk_2 _ (List.mem_of_getElem? (i := 139) rfl)) rfl
theorem k2_140 : (Jvm.Cond.fieldLink "ChanceArena" (170 : Nat) "ChanceArena$Game" "numbers" "[I") ∈ lw_R := zR (zk_2 _ (List.mem_of_getElem? (i := 140) rfl)) rfl
theorem k2_141 : (Jvm.Cond.fieldLink "ChanceArena$Game" (15 : Nat) "ChanceArena$Game" "sorts" "[I") ∈ lw_R := zR (zk_2 _ (List.mem_of_getElem? (i := 141) rfl)) rfl
theorem k2_142 : (Jvm.Cond.fieldLink "ChanceArena$Solver" (113 : Nat) "ChanceArena$Game" "sorts" "[I") ∈ lw_R := zR (zk_2 _ (List.mem_of_getElem? (i := 142) rfl)) rfl
theorem k2_143 : (Jvm.Cond.fieldLink "ChanceArena$Fractions" (41 : Nat) "ChanceArena$Game" "sorts" "[I") ∈ lw_R := zR (zk_2 _ (List.mem_of_getElem? (i := 143) rfl)) rfl
theorem k2_144 : (Jvm.Cond.fieldLink "ChanceArena$Scales" (178 : Nat) "ChanceArena$Game" "sorts" "[I") ∈ lw_R := zR (zk_2 _ (List.mem_of_getElem? (i := 144) rfl)) rfl
theorem k2_145 : (Jvm.Cond.fieldLink "ChanceArena" (174 : Nat) "ChanceArena$Game" "sorts" "[I") ∈ lw_R := zR (zk_2 _ (List.mem_of_getElem? (i := 145) rfl)) rfl
theorem k2_146 : (Jvm.Cond.fieldLink "ChanceArena$Game" (18 : Nat) "ChanceArena$Game" "told" "[I") ∈ lw_R := zR (zk_2 _ (List.mem_of_getElem? (i := 146) rfl)) rfl
theorem k2_147 : (Jvm.Cond.fieldLink "ChanceArena$Solver" (119 : Nat) "ChanceArena$Game" "told" "[I") ∈ lw_R := zR (zk_2 _ (List.mem_of_getElem? (i := 147) rfl)) rfl
theorem k2_148 : (Jvm.Cond.fieldLink "ChanceArena" (226 : Nat) "ChanceArena$Game" "told" "[I") ∈ lw_R := zR (zk_2 _ (List.mem_of_getElem? (i := 148) rfl)) rfl
theorem k2_149 : (Jvm.Cond.fieldLink "ChanceArena$Game" (21 : Nat) "ChanceArena$Game" "firstCommand" "[I") ∈ lw_R := zR (zk_2 _ (List.mem_of_getElem? (i := 149) rfl)) rfl
theorem k2_150 : (Jvm.Cond.fieldLink "ChanceArena$Solver" (116 : Nat) "ChanceArena$Game" "firstCommand" "[I") ∈ lw_R := zR (zk_2 _ (List.mem_of_getElem? (i := 150) rfl)) rfl
theorem k2_151 : (Jvm.Cond.fieldLink "ChanceArena$Scales" (172 : Nat) "ChanceArena$Game" "firstCommand" "[I") ∈ lw_R := zR (zk_2 _ (List.mem_of_getElem? (i := 151) rfl)) rfl
theorem k2_152 : (Jvm.Cond.fieldLink "ChanceArena" (177 : Nat) "ChanceArena$Game" "firstCommand" "[I") ∈ lw_R := zR (zk_2 _ (List.mem_of_getElem? (i := 152) rfl)) rfl
theorem k2_153 : (Jvm.Cond.fieldLink "ChanceArena$Game" (24 : Nat) "ChanceArena$Game" "textCommand" "[I") ∈ lw_R := zR (zk_2 _ (List.mem_of_getElem? (i := 153) rfl)) rfl
theorem k2_154 : (Jvm.Cond.fieldLink "ChanceArena" (184 : Nat) "ChanceArena$Game" "textCommand" "[I") ∈ lw_R := zR (zk_2 _ (List.mem_of_getElem? (i := 154) rfl)) rfl
theorem k2_155 : (Jvm.Cond.fieldLink "ChanceArena$Game" (27 : Nat) "ChanceArena$Game" "multiple" "[I") ∈ lw_R := zR (zk_2 _ (List.mem_of_getElem? (i := 155) rfl)) rfl
theorem k2_156 : (Jvm.Cond.fieldLink "ChanceArena$Scales" (135 : Nat) "ChanceArena$Game" "multiple" "[I") ∈ lw_R := zR (zk_2 _ (List.mem_of_getElem? (i := 156) rfl)) rfl
theorem k2_157 : (Jvm.Cond.fieldLink "ChanceArena$Solver" (145 : Nat) "ChanceArena$Game" "multiple" "[I") ∈ lw_R := zR (zk_2 _ (List.mem_of_getElem? (i := 157) rfl)) rfl
theorem k2_158 : (Jvm.Cond.fieldLink "ChanceArena" (193 : Nat) "ChanceArena$Game" "multiple" "[I") ∈ lw_R := zR (zk_2 _ (List.mem_of_getElem? (i := 158) rfl)) rfl
theorem k2_159 : (Jvm.Cond.fieldLink "ChanceArena$Game" (30 : Nat) "ChanceArena$Game" "firstBranch" "[I") ∈ lw_R := zR (zk_2 _ (List.mem_of_getElem? (i := 159) rfl)) rfl
theorem k2_160 : (Jvm.Cond.fieldLink "ChanceArena$Solver" (139 : Nat) "ChanceArena$Game" "firstBranch" "[I") ∈ lw_R := zR (zk_2 _ (List.mem_of_getElem? (i := 160) rfl)) rfl
theorem k2_161 : (Jvm.Cond.fieldLink "ChanceArena$Scales" (140 : Nat) "ChanceArena$Game" "firstBranch" "[I") ∈ lw_R := zR (zk_2 _ (List.mem_of_getElem? (i := 161) rfl)) rfl
theorem k2_162 : (Jvm.Cond.fieldLink "ChanceArena" (187 : Nat) "ChanceArena$Game" "firstBranch" "[I") ∈ lw_R := zR (zk_2 _ (List.mem_of_getElem? (i := 162) rfl)) rfl
theorem k2_163 : (Jvm.Cond.fieldLink "ChanceArena$Game" (33 : Nat) "ChanceArena$Game" "goal" "[I") ∈ lw_R := zR (zk_2 _ (List.mem_of_getElem? (i := 163) rfl)) rfl
theorem k2_164 : (Jvm.Cond.fieldLink "ChanceArena$Solver" (142 : Nat) "ChanceArena$Game" "goal" "[I") ∈ lw_R := zR (zk_2 _ (List.mem_of_getElem? (i := 164) rfl)) rfl
theorem k2_165 : (Jvm.Cond.fieldLink "ChanceArena$Scales" (149 : Nat) "ChanceArena$Game" "goal" "[I") ∈ lw_R := zR (zk_2 _ (List.mem_of_getElem? (i := 165) rfl)) rfl
theorem k2_166 : (Jvm.Cond.fieldLink "ChanceArena" (202 : Nat) "ChanceArena$Game" "goal" "[I") ∈ lw_R := zR (zk_2 _ (List.mem_of_getElem? (i := 166) rfl)) rfl
theorem k2_167 : (Jvm.Cond.fieldLink "ChanceArena$Game" (36 : Nat) "ChanceArena$Game" "weight" "[I") ∈ lw_R := zR (zk_2 _ (List.mem_of_getElem? (i := 167) rfl)) rfl
theorem k2_168 : (Jvm.Cond.fieldLink "ChanceArena$Scales" (152 : Nat) "ChanceArena$Game" "weight" "[I") ∈ lw_R := zR (zk_2 _ (List.mem_of_getElem? (i := 168) rfl)) rfl
theorem k2_169 : (Jvm.Cond.fieldLink "ChanceArena$Solver" (162 : Nat) "ChanceArena$Game" "weight" "[I") ∈ lw_R := zR (zk_2 _ (List.mem_of_getElem? (i := 169) rfl)) rfl
theorem k2_170 : (Jvm.Cond.fieldLink "ChanceArena" (190 : Nat) "ChanceArena$Game" "weight" "[I") ∈ lw_R := zR (zk_2 _ (List.mem_of_getElem? (i := 170) rfl)) rfl
theorem k2_171 : (Jvm.Cond.fieldLink "ChanceArena$Game" (135 : Nat) "ChanceArena$Game" "place" "I") ∈ lw_R := zR (zk_2 _ (List.mem_of_getElem? (i := 171) rfl)) rfl
theorem k2_172 : (Jvm.Cond.fieldLink "ChanceArena" (156 : Nat) "ChanceArena$Game" "place" "I") ∈ lw_R := zR (zk_2 _ (List.mem_of_getElem? (i := 172) rfl)) rfl
theorem k2_173 : (Jvm.Cond.fieldLink "ChanceArena$Game" (115 : Nat) "ChanceArena$Game" "faultState" "I") ∈ lw_R := zR (zk_2 _ (List.mem_of_getElem? (i := 173) rfl)) rfl
theorem k2_174 : (Jvm.Cond.fieldLink "ChanceArena" (159 : Nat) "ChanceArena$Game" "faultState" "I") ∈ lw_R := zR (zk_2 _ (List.mem_of_getElem? (i := 174) rfl)) rfl
theorem k2_175 : (Jvm.Cond.fieldLink "ChanceArena$Game" (59 : Nat) "ChanceArena$Game" "commandCount" "I") ∈ lw_R := zR (zk_2 _ (List.mem_of_getElem? (i := 175) rfl)) rfl
theorem k2_176 : (Jvm.Cond.fieldLink "ChanceArena$Game" (62 : Nat) "ChanceArena$Game" "branchCount" "I") ∈ lw_R := zR (zk_2 _ (List.mem_of_getElem? (i := 176) rfl)) rfl
theorem k2_177 : (Jvm.Cond.fieldLink "ChanceArena$Game" (72 : Nat) "ChanceArena$Game" "text" "LChanceArena$Program;") ∈ lw_R := zR (zk_2 _ (List.mem_of_getElem? (i := 177) rfl)) rfl
theorem k2_178 : (Jvm.Cond.fieldLink "ChanceArena$Game" (42 : Nat) "ChanceArena$Game" "machine" "LChanceArena$Machine;") ∈ lw_R := zR (zk_2 _ (List.mem_of_getElem? (i := 178) rfl)) rfl
theorem k2_179 : (Jvm.Cond.fieldLink "ChanceArena$Game" (46 : Nat) "ChanceArena$Game" "slots" "[I") ∈ lw_R := zR (zk_2 _ (List.mem_of_getElem? (i := 179) rfl)) rfl
theorem k2_180 : (Jvm.Cond.fieldLink "ChanceArena$Game" (49 : Nat) "ChanceArena$Game" "chanceAbove" "[I") ∈ lw_R := zR (zk_2 _ (List.mem_of_getElem? (i := 180) rfl)) rfl
theorem k2_181 : (Jvm.Cond.fieldLink "ChanceArena$Game" (52 : Nat) "ChanceArena$Game" "chanceBelow" "[I") ∈ lw_R := zR (zk_2 _ (List.mem_of_getElem? (i := 181) rfl)) rfl
theorem k2_221 : (Jvm.Cond.classLink "ChanceArena" (58 : Nat) "ChanceArena$Solver") ∈ lw_R := zR (zk_2 _ (List.mem_of_getElem? (i := 221) rfl)) rfl
theorem k2_222 : (Jvm.Cond.instantiable "ChanceArena$Solver" (18 : Nat)) ∈ lw_R := zR (zk_2 _ (List.mem_of_getElem? (i := 222) rfl)) rfl
theorem k2_223 : (Jvm.Cond.methodLink "ChanceArena" (60 : Nat) ({ cls := "ChanceArena$Solver", name := "<init>", desc := "(LChanceArena$Game;)V" } : Jvm.MethodName)) ∈ lw_R := zR (zk_2 _ (List.mem_of_getElem? (i := 223) rfl)) rfl
theorem k2_224 : (Jvm.Cond.instanceMethod ({ cls := "ChanceArena$Solver", name := "<init>", desc := "(LChanceArena$Game;)V" } : Jvm.MethodName)) ∈ lw_R := zR (zk_2 _ (List.mem_of_getElem? (i := 224) rfl)) rfl
theorem k2_225 : (Jvm.Cond.code ({ cls := "ChanceArena$Solver", name := "<init>", desc := "(LChanceArena$Game;)V" } : Jvm.MethodName) prog_11_method_1_code (2 : Nat) (Option.none : Option Jvm.ClassFile.FieldType)) ∈ lw_R := zR (zk_2 _ (List.mem_of_getElem? (i := 225) rfl)) rfl
theorem k2_226 : (Jvm.Cond.methodLink "ChanceArena$Solver" (3 : Nat) ({ cls := "java/lang/Object", name := "<init>", desc := "()V" } : Jvm.MethodName)) ∈ lw_R := zR (zk_2 _ (List.mem_of_getElem? (i := 226) rfl)) rfl
theorem k2_227 : (Jvm.Cond.classLink "ChanceArena$Solver" (9 : Nat) "ChanceArena$Scales") ∈ lw_R := zR (zk_2 _ (List.mem_of_getElem? (i := 227) rfl)) rfl
theorem k2_228 : (Jvm.Cond.instantiable "ChanceArena$Scales" (11 : Nat)) ∈ lw_R := zR (zk_2 _ (List.mem_of_getElem? (i := 228) rfl)) rfl
theorem k2_229 : (Jvm.Cond.methodLinkNest "ChanceArena$Solver" (11 : Nat) ({ cls := "ChanceArena$Scales", name := "<init>", desc := "()V" } : Jvm.MethodName) "ChanceArena") ∈ lw_R := zR (zk_2 _ (List.mem_of_getElem? (i := 229) rfl)) rfl
theorem k2_230 : (Jvm.Cond.instanceMethod ({ cls := "ChanceArena$Scales", name := "<init>", desc := "()V" } : Jvm.MethodName)) ∈ lw_R := zR (zk_2 _ (List.mem_of_getElem? (i := 230) rfl)) rfl
theorem k2_231 : (Jvm.Cond.code ({ cls := "ChanceArena$Scales", name := "<init>", desc := "()V" } : Jvm.MethodName) prog_10_method_1_code (1 : Nat) (Option.none : Option Jvm.ClassFile.FieldType)) ∈ lw_R := zR (zk_2 _ (List.mem_of_getElem? (i := 231) rfl)) rfl
theorem k2_232 : (Jvm.Cond.methodLink "ChanceArena$Scales" (3 : Nat) ({ cls := "java/lang/Object", name := "<init>", desc := "()V" } : Jvm.MethodName)) ∈ lw_R := zR (zk_2 _ (List.mem_of_getElem? (i := 232) rfl)) rfl
theorem k2_233 : (Jvm.Cond.classLink "ChanceArena$Scales" (9 : Nat) "ChanceArena$Natural") ∈ lw_R := zR (zk_2 _ (List.mem_of_getElem? (i := 233) rfl)) rfl
theorem k2_234 : (Jvm.Cond.instantiable "ChanceArena$Natural" (2 : Nat)) ∈ lw_R := zR (zk_2 _ (List.mem_of_getElem? (i := 234) rfl)) rfl
theorem k2_235 : (Jvm.Cond.methodLinkNest "ChanceArena$Scales" (11 : Nat) ({ cls := "ChanceArena$Natural", name := "<init>", desc := "()V" } : Jvm.MethodName) "ChanceArena") ∈ lw_R := zR (zk_2 _ (List.mem_of_getElem? (i := 235) rfl)) rfl
theorem k2_236 : (Jvm.Cond.instanceMethod ({ cls := "ChanceArena$Natural", name := "<init>", desc := "()V" } : Jvm.MethodName)) ∈ lw_R := zR (zk_2 _ (List.mem_of_getElem? (i := 236) rfl)) rfl
theorem k2_237 : (Jvm.Cond.code ({ cls := "ChanceArena$Natural", name := "<init>", desc := "()V" } : Jvm.MethodName) prog_6_method_1_code (1 : Nat) (Option.none : Option Jvm.ClassFile.FieldType)) ∈ lw_R := zR (zk_2 _ (List.mem_of_getElem? (i := 237) rfl)) rfl
theorem k2_238 : (Jvm.Cond.methodLink "ChanceArena$Natural" (3 : Nat) ({ cls := "java/lang/Object", name := "<init>", desc := "()V" } : Jvm.MethodName)) ∈ lw_R := zR (zk_2 _ (List.mem_of_getElem? (i := 238) rfl)) rfl
theorem k2_239 : (Jvm.Cond.fieldLink "ChanceArena$Natural" (9 : Nat) "ChanceArena$Natural" "limbs" "[I") ∈ lw_R := zR (zk_2 _ (List.mem_of_getElem? (i := 239) rfl)) rfl
theorem k3_0 : (Jvm.Cond.fieldLink "ChanceArena$Scales" (61 : Nat) "ChanceArena$Natural" "limbs" "[I") ∈ lw_R := zR (zk_3 _ (List.mem_of_getElem? (i := 0) rfl)) rfl
theorem k3_1 : (Jvm.Cond.fieldLink "ChanceArena$Natural" (13 : Nat) "ChanceArena$Natural" "size" "I") ∈ lw_R := zR (zk_3 _ (List.mem_of_getElem? (i := 1) rfl)) rfl
theorem k3_2 : (Jvm.Cond.fieldLink "ChanceArena$Scales" (57 : Nat) "ChanceArena$Natural" "size" "I") ∈ lw_R := zR (zk_3 _ (List.mem_of_getElem? (i := 2) rfl)) rfl
theorem k3_3 : (Jvm.Cond.fieldLink "ChanceArena$Solver" (245 : Nat) "ChanceArena$Natural" "size" "I") ∈ lw_R := zR (zk_3 _ (List.mem_of_getElem? (i := 3) rfl)) rfl
theorem k3_4 : (Jvm.Cond.fieldLink "ChanceArena" (268 : Nat) "ChanceArena$Natural" "size" "I") ∈ lw_R := zR (zk_3 _ (List.mem_of_getElem? (i := 4) rfl)) rfl
theorem k3_10 : (Jvm.Cond.classLink "ChanceArena$Scales" (43 : Nat) "ChanceArena$Fraction") ∈ lw_R := zR (zk_3 _ (List.mem_of_getElem? (i := 10) rfl)) rfl
theorem k3_11 : (Jvm.Cond.instantiable "ChanceArena$Fraction" (3 : Nat)) ∈ lw_R := zR (zk_3 _ (List.mem_of_getElem? (i := 11) rfl)) rfl
theorem k3_12 : (Jvm.Cond.methodLinkNest "ChanceArena$Scales" (45 : Nat) ({ cls := "ChanceArena$Fraction", name := "<init>", desc := "()V" } : Jvm.MethodName) "ChanceArena") ∈ lw_R := zR (zk_3 _ (List.mem_of_getElem? (i := 12) rfl)) rfl
theorem k3_13 : (Jvm.Cond.instanceMethod ({ cls := "ChanceArena$Fraction", name := "<init>", desc := "()V" } : Jvm.MethodName)) ∈ lw_R := zR (zk_3 _ (List.mem_of_getElem? (i := 13) rfl)) rfl
theorem k3_14 : (Jvm.Cond.code ({ cls := "ChanceArena$Fraction", name := "<init>", desc := "()V" } : Jvm.MethodName) prog_2_method_1_code (1 : Nat) (Option.none : Option Jvm.ClassFile.FieldType)) ∈ lw_R := zR (zk_3 _ (List.mem_of_getElem? (i := 14) rfl)) rfl
theorem k3_15 : (Jvm.Cond.methodLink "ChanceArena$Fraction" (1 : Nat) ({ cls := "java/lang/Object", name := "<init>", desc := "()V" } : Jvm.MethodName)) ∈ lw_R := zR (zk_3 _ (List.mem_of_getElem? (i := 15) rfl)) rfl
theorem k3_16 : (Jvm.Cond.classLink "ChanceArena$Fraction" (7 : Nat) "ChanceArena$Natural") ∈ lw_R := zR (zk_3 _ (List.mem_of_getElem? (i := 16) rfl)) rfl
theorem k3_17 : (Jvm.Cond.methodLinkNest "ChanceArena$Fraction" (9 : Nat) ({ cls := "ChanceArena$Natural", name := "<init>", desc := "()V" } : Jvm.MethodName) "ChanceArena") ∈ lw_R := zR (zk_3 _ (List.mem_of_getElem? (i := 17) rfl)) rfl
theorem k3_18 : (Jvm.Cond.fieldLink "ChanceArena$Fraction" (10 : Nat) "ChanceArena$Fraction" "above" "LChanceArena$Natural;") ∈ lw_R := zR (zk_3 _ (List.mem_of_getElem? (i := 18) rfl)) rfl
theorem k3_19 : (Jvm.Cond.fieldLink "ChanceArena$Scales" (118 : Nat) "ChanceArena$Fraction" "above" "LChanceArena$Natural;") ∈ lw_R := zR (zk_3 _ (List.mem_of_getElem? (i := 19) rfl)) rfl
theorem k3_20 : (Jvm.Cond.fieldLink "ChanceArena$Solver" (173 : Nat) "ChanceArena$Fraction" "above" "LChanceArena$Natural;") ∈ lw_R := zR (zk_3 _ (List.mem_of_getElem? (i := 20) rfl)) rfl
theorem k3_21 : (Jvm.Cond.fieldLink "ChanceArena" (248 : Nat) "ChanceArena$Fraction" "above" "LChanceArena$Natural;") ∈ lw_R := zR (zk_3 _ (List.mem_of_getElem? (i := 21) rfl)) rfl
theorem k3_22 : (Jvm.Cond.fieldLink "ChanceArena$Fraction" (16 : Nat) "ChanceArena$Fraction" "below" "LChanceArena$Natural;") ∈ lw_R := zR (zk_3 _ (List.mem_of_getElem? (i := 22) rfl)) rfl
theorem k3_23 : (Jvm.Cond.fieldLink "ChanceArena$Scales" (108 : Nat) "ChanceArena$Fraction" "below" "LChanceArena$Natural;") ∈ lw_R := zR (zk_3 _ (List.mem_of_getElem? (i := 23) rfl)) rfl
theorem k3_24 : (Jvm.Cond.fieldLink "ChanceArena$Solver" (187 : Nat) "ChanceArena$Fraction" "below" "LChanceArena$Natural;") ∈ lw_R := zR (zk_3 _ (List.mem_of_getElem? (i := 24) rfl)) rfl
theorem k3_25 : (Jvm.Cond.fieldLink "ChanceArena" (255 : Nat) "ChanceArena$Fraction" "below" "LChanceArena$Natural;") ∈ lw_R := zR (zk_3 _ (List.mem_of_getElem? (i := 25) rfl)) rfl
theorem k3_26 : (Jvm.Cond.fieldLink "ChanceArena$Fraction" (19 : Nat) "ChanceArena$Fraction" "times" "I") ∈ lw_R := zR (zk_3 _ (List.mem_of_getElem? (i := 26) rfl)) rfl
theorem k3_27 : (Jvm.Cond.fieldLink "ChanceArena$Scales" (111 : Nat) "ChanceArena$Fraction" "times" "I") ∈ lw_R := zR (zk_3 _ (List.mem_of_getElem? (i := 27) rfl)) rfl
theorem k3_35 : (Jvm.Cond.arrayClass Jvm.ClassFile.FieldType.long) ∈ lw_R := zR (zk_3 _ (List.mem_of_getElem? (i := 35) rfl)) rfl
theorem k3_36 : (Jvm.Cond.fieldLink "ChanceArena$Scales" (12 : Nat) "ChanceArena$Scales" "left" "LChanceArena$Natural;") ∈ lw_R := zR (zk_3 _ (List.mem_of_getElem? (i := 36) rfl)) rfl
theorem k3_37 : (Jvm.Cond.fieldLink "ChanceArena$Scales" (18 : Nat) "ChanceArena$Scales" "right" "LChanceArena$Natural;") ∈ lw_R := zR (zk_3 _ (List.mem_of_getElem? (i := 37) rfl)) rfl
theorem k3_38 : (Jvm.Cond.fieldLink "ChanceArena$Scales" (21 : Nat) "ChanceArena$Scales" "quotient" "LChanceArena$Natural;") ∈ lw_R := zR (zk_3 _ (List.mem_of_getElem? (i := 38) rfl)) rfl
theorem k3_39 : (Jvm.Cond.fieldLink "ChanceArena$Scales" (24 : Nat) "ChanceArena$Scales" "scaled" "LChanceArena$Natural;") ∈ lw_R := zR (zk_3 _ (List.mem_of_getElem? (i := 39) rfl)) rfl
theorem k3_40 : (Jvm.Cond.fieldLink "ChanceArena$Scales" (27 : Nat) "ChanceArena$Scales" "part" "LChanceArena$Natural;") ∈ lw_R := zR (zk_3 _ (List.mem_of_getElem? (i := 40) rfl)) rfl
theorem k3_41 : (Jvm.Cond.fieldLink "ChanceArena$Scales" (30 : Nat) "ChanceArena$Scales" "product" "LChanceArena$Natural;") ∈ lw_R := zR (zk_3 _ (List.mem_of_getElem? (i := 41) rfl)) rfl
theorem k3_42 : (Jvm.Cond.fieldLink "ChanceArena$Scales" (33 : Nat) "ChanceArena$Scales" "factors" "[J") ∈ lw_R := zR (zk_3 _ (List.mem_of_getElem? (i := 42) rfl)) rfl
theorem k3_43 : (Jvm.Cond.fieldLink "ChanceArena$Scales" (37 : Nat) "ChanceArena$Scales" "sumPart" "LChanceArena$Natural;") ∈ lw_R := zR (zk_3 _ (List.mem_of_getElem? (i := 43) rfl)) rfl
theorem k3_44 : (Jvm.Cond.fieldLink "ChanceArena$Scales" (40 : Nat) "ChanceArena$Scales" "termPart" "LChanceArena$Natural;") ∈ lw_R := zR (zk_3 _ (List.mem_of_getElem? (i := 44) rfl)) rfl
theorem k3_45 : (Jvm.Cond.fieldLink "ChanceArena$Scales" (46 : Nat) "ChanceArena$Scales" "best" "LChanceArena$Fraction;") ∈ lw_R := zR (zk_3 _ (List.mem_of_getElem? (i := 45) rfl)) rfl
theorem k3_46 : (Jvm.Cond.fieldLink "ChanceArena$Scales" (50 : Nat) "ChanceArena$Scales" "trial" "LChanceArena$Fraction;") ∈ lw_R := zR (zk_3 _ (List.mem_of_getElem? (i := 46) rfl)) rfl
theorem k3_70 : (Jvm.Cond.classLink "ChanceArena$Solver" (25 : Nat) "ChanceArena$Residues") ∈ lw_R := zR (zk_3 _ (List.mem_of_getElem? (i := 70) rfl)) rfl
theorem k3_71 : (Jvm.Cond.instantiable "ChanceArena$Residues" (7 : Nat)) ∈ lw_R := zR (zk_3 _ (List.mem_of_getElem? (i := 71) rfl)) rfl
theorem k3_72 : (Jvm.Cond.methodLink "ChanceArena$Solver" (27 : Nat) ({ cls := "ChanceArena$Residues", name := "<init>", desc := "()V" } : Jvm.MethodName)) ∈ lw_R := zR (zk_3 _ (List.mem_of_getElem? (i := 72) rfl)) rfl
theorem k3_73 : (Jvm.Cond.instanceMethod ({ cls := "ChanceArena$Residues", name := "<init>", desc := "()V" } : Jvm.MethodName)) ∈ lw_R := zR (zk_3 _ (List.mem_of_getElem? (i := 73) rfl)) rfl
theorem k3_74 : (Jvm.Cond.code ({ cls := "ChanceArena$Residues", name := "<init>", desc := "()V" } : Jvm.MethodName) prog_8_method_1_code (2 : Nat) (Option.none : Option Jvm.ClassFile.FieldType)) ∈ lw_R := zR (zk_3 _ (List.mem_of_getElem? (i := 74) rfl)) rfl
theorem k3_75 : (Jvm.Cond.methodLink "ChanceArena$Residues" (3 : Nat) ({ cls := "java/lang/Object", name := "<init>", desc := "()V" } : Jvm.MethodName)) ∈ lw_R := zR (zk_3 _ (List.mem_of_getElem? (i := 75) rfl)) rfl
theorem k3_76 : (Jvm.Cond.classLink "ChanceArena$Residues" (15 : Nat) "ChanceArena$Natural") ∈ lw_R := zR (zk_3 _ (List.mem_of_getElem? (i := 76) rfl)) rfl
theorem k3_77 : (Jvm.Cond.arrayOver (Jvm.ClassFile.FieldType.object "ChanceArena$Natural")) ∈ lw_R := zR (zk_3 _ (List.mem_of_getElem? (i := 77) rfl)) rfl
theorem k3_78 : (Jvm.Cond.methodLinkNest "ChanceArena$Residues" (33 : Nat) ({ cls := "ChanceArena$Natural", name := "<init>", desc := "()V" } : Jvm.MethodName) "ChanceArena") ∈ lw_R := zR (zk_3 _ (List.mem_of_getElem? (i := 78) rfl)) rfl
theorem k3_79 : (Jvm.Cond.fieldLink "ChanceArena$Residues" (11 : Nat) "ChanceArena$Residues" "entries" "[I") ∈ lw_R := zR (zk_3 _ (List.mem_of_getElem? (i := 79) rfl)) rfl
theorem k3_80 : (Jvm.Cond.fieldLink "ChanceArena$Solver" (159 : Nat) "ChanceArena$Residues" "entries" "[I") ∈ lw_R := zR (zk_3 _ (List.mem_of_getElem? (i := 80) rfl)) rfl
theorem k3_81 : (Jvm.Cond.fieldLink "ChanceArena$Residues" (17 : Nat) "ChanceArena$Residues" "results" "[LChanceArena$Natural;") ∈ lw_R := zR (zk_3 _ (List.mem_of_getElem? (i := 81) rfl)) rfl
theorem k3_82 : (Jvm.Cond.fieldLink "ChanceArena$Solver" (177 : Nat) "ChanceArena$Residues" "results" "[LChanceArena$Natural;") ∈ lw_R := zR (zk_3 _ (List.mem_of_getElem? (i := 82) rfl)) rfl
theorem k3_83 : (Jvm.Cond.fieldLink "ChanceArena$Residues" (21 : Nat) "ChanceArena$Residues" "work" "[I") ∈ lw_R := zR (zk_3 _ (List.mem_of_getElem? (i := 83) rfl)) rfl
theorem k3_84 : (Jvm.Cond.fieldLink "ChanceArena$Residues" (24 : Nat) "ChanceArena$Residues" "inverses" "[I") ∈ lw_R := zR (zk_3 _ (List.mem_of_getElem? (i := 84) rfl)) rfl
theorem k3_85 : (Jvm.Cond.fieldLink "ChanceArena$Residues" (27 : Nat) "ChanceArena$Residues" "columns" "[I") ∈ lw_R := zR (zk_3 _ (List.mem_of_getElem? (i := 85) rfl)) rfl
theorem k3_86 : (Jvm.Cond.fieldLink "ChanceArena$Residues" (30 : Nat) "ChanceArena$Residues" "residues" "[I") ∈ lw_R := zR (zk_3 _ (List.mem_of_getElem? (i := 86) rfl)) rfl
theorem k3_87 : (Jvm.Cond.fieldLink "ChanceArena$Residues" (34 : Nat) "ChanceArena$Residues" "modulus" "LChanceArena$Natural;") ∈ lw_R := zR (zk_3 _ (List.mem_of_getElem? (i := 87) rfl)) rfl
theorem k3_103 : (Jvm.Cond.classLink "ChanceArena$Solver" (57 : Nat) "ChanceArena$Fraction") ∈ lw_R := zR (zk_3 _ (List.mem_of_getElem? (i := 103) rfl)) rfl
theorem k3_104 : (Jvm.Cond.methodLinkNest "ChanceArena$Solver" (59 : Nat) ({ cls := "ChanceArena$Fraction", name := "<init>", desc := "()V" } : Jvm.MethodName) "ChanceArena") ∈ lw_R := zR (zk_3 _ (List.mem_of_getElem? (i := 104) rfl)) rfl
theorem k3_105 : (Jvm.Cond.fieldLink "ChanceArena$Solver" (12 : Nat) "ChanceArena$Solver" "scales" "LChanceArena$Scales;") ∈ lw_R := zR (zk_3 _ (List.mem_of_getElem? (i := 105) rfl)) rfl
theorem k3_106 : (Jvm.Cond.fieldLink "ChanceArena" (216 : Nat) "ChanceArena$Solver" "scales" "LChanceArena$Scales;") ∈ lw_R := zR (zk_3 _ (List.mem_of_getElem? (i := 106) rfl)) rfl
theorem k3_107 : (Jvm.Cond.fieldLink "ChanceArena$Solver" (18 : Nat) "ChanceArena$Solver" "ranks" "[I") ∈ lw_R := zR (zk_3 _ (List.mem_of_getElem? (i := 107) rfl)) rfl
theorem k3_108 : (Jvm.Cond.fieldLink "ChanceArena" (287 : Nat) "ChanceArena$Solver" "ranks" "[I") ∈ lw_R := zR (zk_3 _ (List.mem_of_getElem? (i := 108) rfl)) rfl
theorem k3_109 : (Jvm.Cond.fieldLink "ChanceArena$Solver" (22 : Nat) "ChanceArena$Solver" "choices" "[I") ∈ lw_R := zR (zk_3 _ (List.mem_of_getElem? (i := 109) rfl)) rfl
theorem k3_110 : (Jvm.Cond.fieldLink "ChanceArena" (229 : Nat) "ChanceArena$Solver" "choices" "[I") ∈ lw_R := zR (zk_3 _ (List.mem_of_getElem? (i := 110) rfl)) rfl
theorem k3_111 : (Jvm.Cond.fieldLink "ChanceArena$Solver" (64 : Nat) "ChanceArena$Solver" "game" "LChanceArena$Game;") ∈ lw_R := zR (zk_3 _ (List.mem_of_getElem? (i := 111) rfl)) rfl
theorem k3_112 : (Jvm.Cond.fieldLink "ChanceArena$Solver" (28 : Nat) "ChanceArena$Solver" "system" "LChanceArena$Residues;") ∈ lw_R := zR (zk_3 _ (List.mem_of_getElem? (i := 112) rfl)) rfl
theorem k3_113 : (Jvm.Cond.fieldLink "ChanceArena$Solver" (32 : Nat) "ChanceArena$Solver" "low" "[I") ∈ lw_R := zR (zk_3 _ (List.mem_of_getElem? (i := 113) rfl)) rfl
theorem k3_114 : (Jvm.Cond.fieldLink "ChanceArena$Solver" (35 : Nat) "ChanceArena$Solver" "high" "[I") ∈ lw_R := zR (zk_3 _ (List.mem_of_getElem? (i := 114) rfl)) rfl
theorem k3_115 : (Jvm.Cond.fieldLink "ChanceArena$Solver" (38 : Nat) "ChanceArena$Solver" "slot" "[I") ∈ lw_R := zR (zk_3 _ (List.mem_of_getElem? (i := 115) rfl)) rfl
theorem k3_116 : (Jvm.Cond.fieldLink "ChanceArena$Solver" (41 : Nat) "ChanceArena$Solver" "unknown" "[I") ∈ lw_R := zR (zk_3 _ (List.mem_of_getElem? (i := 116) rfl)) rfl
theorem k3_117 : (Jvm.Cond.fieldLink "ChanceArena$Solver" (44 : Nat) "ChanceArena$Solver" "chosen" "[I") ∈ lw_R := zR (zk_3 _ (List.mem_of_getElem? (i := 117) rfl)) rfl
theorem k3_118 : (Jvm.Cond.fieldLink "ChanceArena$Solver" (122 : Nat) "ChanceArena$Solver" "unknowns" "I") ∈ lw_R := zR (zk_3 _ (List.mem_of_getElem? (i := 118) rfl)) rfl
theorem k3_119 : (Jvm.Cond.fieldLink "ChanceArena$Solver" (47 : Nat) "ChanceArena$Solver" "others" "[I") ∈ lw_R := zR (zk_3 _ (List.mem_of_getElem? (i := 119) rfl)) rfl
theorem k3_120 : (Jvm.Cond.fieldLink "ChanceArena$Solver" (198 : Nat) "ChanceArena$Solver" "otherCount" "I") ∈ lw_R := zR (zk_3 _ (List.mem_of_getElem? (i := 120) rfl)) rfl
theorem k3_121 : (Jvm.Cond.fieldLink "ChanceArena$Solver" (208 : Nat) "ChanceArena$Solver" "minOthers" "I") ∈ lw_R := zR (zk_3 _ (List.mem_of_getElem? (i := 121) rfl)) rfl
theorem k3_122 : (Jvm.Cond.fieldLink "ChanceArena$Solver" (201 : Nat) "ChanceArena$Solver" "drawn" "J") ∈ lw_R := zR (zk_3 _ (List.mem_of_getElem? (i := 122) rfl)) rfl
theorem k3_123 : (Jvm.Cond.fieldLink "ChanceArena$Solver" (50 : Nat) "ChanceArena$Solver" "attains" "[Z") ∈ lw_R := zR (zk_3 _ (List.mem_of_getElem? (i := 123) rfl)) rfl
theorem k3_124 : (Jvm.Cond.fieldLink "ChanceArena$Solver" (54 : Nat) "ChanceArena$Solver" "probe" "[I") ∈ lw_R := zR (zk_3 _ (List.mem_of_getElem? (i := 124) rfl)) rfl
theorem k3_125 : (Jvm.Cond.fieldLink "ChanceArena$Solver" (60 : Nat) "ChanceArena$Solver" "worth" "LChanceArena$Fraction;") ∈ lw_R := zR (zk_3 _ (List.mem_of_getElem? (i := 125) rfl)) rfl
theorem k3_163 : (Jvm.Cond.classLink "ChanceArena" (67 : Nat) "ChanceArena$Fractions") ∈ lw_R := zR (zk_3 _ (List.mem_of_getElem? (i := 163) rfl)) rfl
theorem k3_164 : (Jvm.Cond.instantiable "ChanceArena$Fractions" (2 : Nat)) ∈ lw_R := zR (zk_3 _ (List.mem_of_getElem? (i := 164) rfl)) rfl
theorem k3_165 : (Jvm.Cond.methodLinkNest "ChanceArena" (69 : Nat) ({ cls := "ChanceArena$Fractions", name := "<init>", desc := "()V" } : Jvm.MethodName) "ChanceArena") ∈ lw_R := zR (zk_3 _ (List.mem_of_getElem? (i := 165) rfl)) rfl
theorem k3_166 : (Jvm.Cond.instanceMethod ({ cls := "ChanceArena$Fractions", name := "<init>", desc := "()V" } : Jvm.MethodName)) ∈ lw_R := zR (zk_3 _ (List.mem_of_getElem? (i := 166) rfl)) rfl
theorem k3_167 : (Jvm.Cond.code ({ cls := "ChanceArena$Fractions", name := "<init>", desc := "()V" } : Jvm.MethodName) prog_3_method_1_code (1 : Nat) (Option.none : Option Jvm.ClassFile.FieldType)) ∈ lw_R := zR (zk_3 _ (List.mem_of_getElem? (i := 167) rfl)) rfl
theorem k3_168 : (Jvm.Cond.methodLink "ChanceArena$Fractions" (3 : Nat) ({ cls := "java/lang/Object", name := "<init>", desc := "()V" } : Jvm.MethodName)) ∈ lw_R := zR (zk_3 _ (List.mem_of_getElem? (i := 168) rfl)) rfl
theorem k3_169 : (Jvm.Cond.classLink "ChanceArena$Fractions" (9 : Nat) "ChanceArena$Fraction") ∈ lw_R := zR (zk_3 _ (List.mem_of_getElem? (i := 169) rfl)) rfl
theorem k3_170 : (Jvm.Cond.arrayOver (Jvm.ClassFile.FieldType.object "ChanceArena$Fraction")) ∈ lw_R := zR (zk_3 _ (List.mem_of_getElem? (i := 170) rfl)) rfl
theorem k3_171 : (Jvm.Cond.fieldLink "ChanceArena$Fractions" (11 : Nat) "ChanceArena$Fractions" "rows" "[LChanceArena$Fraction;") ∈ lw_R := zR (zk_3 _ (List.mem_of_getElem? (i := 171) rfl)) rfl
theorem k3_172 : (Jvm.Cond.fieldLink "ChanceArena$Scales" (143 : Nat) "ChanceArena$Fractions" "rows" "[LChanceArena$Fraction;") ∈ lw_R := zR (zk_3 _ (List.mem_of_getElem? (i := 172) rfl)) rfl
theorem k3_173 : (Jvm.Cond.fieldLink "ChanceArena$Solver" (169 : Nat) "ChanceArena$Fractions" "rows" "[LChanceArena$Fraction;") ∈ lw_R := zR (zk_3 _ (List.mem_of_getElem? (i := 173) rfl)) rfl
theorem k3_174 : (Jvm.Cond.fieldLink "ChanceArena" (262 : Nat) "ChanceArena$Fractions" "rows" "[LChanceArena$Fraction;") ∈ lw_R := zR (zk_3 _ (List.mem_of_getElem? (i := 174) rfl)) rfl
theorem k3_175 : (Jvm.Cond.fieldLink "ChanceArena$Fractions" (17 : Nat) "ChanceArena$Fractions" "known" "Z") ∈ lw_R := zR (zk_3 _ (List.mem_of_getElem? (i := 175) rfl)) rfl
theorem k3_176 : (Jvm.Cond.fieldLink "ChanceArena$Solver" (68 : Nat) "ChanceArena$Fractions" "known" "Z") ∈ lw_R := zR (zk_3 _ (List.mem_of_getElem? (i := 176) rfl)) rfl
theorem k3_177 : (Jvm.Cond.fieldLink "ChanceArena" (137 : Nat) "ChanceArena$Fractions" "known" "Z") ∈ lw_R := zR (zk_3 _ (List.mem_of_getElem? (i := 177) rfl)) rfl
theorem k3_183 : (Jvm.Cond.classLink "ChanceArena" (83 : Nat) "ChanceArena$Natural") ∈ lw_R := zR (zk_3 _ (List.mem_of_getElem? (i := 183) rfl)) rfl
theorem k3_184 : (Jvm.Cond.methodLinkNest "ChanceArena" (85 : Nat) ({ cls := "ChanceArena$Natural", name := "<init>", desc := "()V" } : Jvm.MethodName) "ChanceArena") ∈ lw_R := zR (zk_3 _ (List.mem_of_getElem? (i := 184) rfl)) rfl
theorem k3_185 : (Jvm.Cond.classLink "ChanceArena" (90 : Nat) "ChanceArena$Fraction") ∈ lw_R := zR (zk_3 _ (List.mem_of_getElem? (i := 185) rfl)) rfl
theorem k3_186 : (Jvm.Cond.methodLinkNest "ChanceArena" (92 : Nat) ({ cls := "ChanceArena$Fraction", name := "<init>", desc := "()V" } : Jvm.MethodName) "ChanceArena") ∈ lw_R := zR (zk_3 _ (List.mem_of_getElem? (i := 186) rfl)) rfl
theorem k3_187 : (Jvm.Cond.fieldLink "ChanceArena" (7 : Nat) "ChanceArena" "tape" "[C") ∈ lw_R := zR (zk_3 _ (List.mem_of_getElem? (i := 187) rfl)) rfl
theorem k3_188 : (Jvm.Cond.fieldLink "ChanceArena" (13 : Nat) "ChanceArena" "tapeLength" "I") ∈ lw_R := zR (zk_3 _ (List.mem_of_getElem? (i := 188) rfl)) rfl
theorem k3_189 : (Jvm.Cond.fieldLink "ChanceArena" (20 : Nat) "ChanceArena" "words" "LChanceArena$Words;") ∈ lw_R := zR (zk_3 _ (List.mem_of_getElem? (i := 189) rfl)) rfl
theorem k3_190 : (Jvm.Cond.fieldLink "ChanceArena" (27 : Nat) "ChanceArena" "reader" "LChanceArena$TextReader;") ∈ lw_R := zR (zk_3 _ (List.mem_of_getElem? (i := 190) rfl)) rfl
theorem k3_191 : (Jvm.Cond.fieldLink "ChanceArena" (34 : Nat) "ChanceArena" "text" "LChanceArena$Program;") ∈ lw_R := zR (zk_3 _ (List.mem_of_getElem? (i := 191) rfl)) rfl
theorem k3_192 : (Jvm.Cond.fieldLink "ChanceArena" (38 : Nat) "ChanceArena" "spare" "LChanceArena$Program;") ∈ lw_R := zR (zk_3 _ (List.mem_of_getElem? (i := 192) rfl)) rfl
theorem k3_193 : (Jvm.Cond.fieldLink "ChanceArena" (41 : Nat) "ChanceArena" "hasText" "Z") ∈ lw_R := zR (zk_3 _ (List.mem_of_getElem? (i := 193) rfl)) rfl
theorem k3_194 : (Jvm.Cond.fieldLink "ChanceArena" (45 : Nat) "ChanceArena" "faultPlace" "I") ∈ lw_R := zR (zk_3 _ (List.mem_of_getElem? (i := 194) rfl)) rfl
theorem k3_195 : (Jvm.Cond.fieldLink "ChanceArena" (48 : Nat) "ChanceArena" "faultState" "I") ∈ lw_R := zR (zk_3 _ (List.mem_of_getElem? (i := 195) rfl)) rfl
theorem k3_196 : (Jvm.Cond.fieldLink "ChanceArena" (54 : Nat) "ChanceArena" "game" "LChanceArena$Game;") ∈ lw_R := zR (zk_3 _ (List.mem_of_getElem? (i := 196) rfl)) rfl
theorem k3_197 : (Jvm.Cond.fieldLink "ChanceArena" (63 : Nat) "ChanceArena" "solver" "LChanceArena$Solver;") ∈ lw_R := zR (zk_3 _ (List.mem_of_getElem? (i := 197) rfl)) rfl
theorem k3_198 : (Jvm.Cond.fieldLink "ChanceArena" (70 : Nat) "ChanceArena" "values" "LChanceArena$Fractions;") ∈ lw_R := zR (zk_3 _ (List.mem_of_getElem? (i := 198) rfl)) rfl
theorem k3_199 : (Jvm.Cond.fieldLink "ChanceArena" (74 : Nat) "ChanceArena" "withins" "LChanceArena$Fractions;") ∈ lw_R := zR (zk_3 _ (List.mem_of_getElem? (i := 199) rfl)) rfl
theorem k3_200 : (Jvm.Cond.fieldLink "ChanceArena" (77 : Nat) "ChanceArena" "earlier" "LChanceArena$Fractions;") ∈ lw_R := zR (zk_3 _ (List.mem_of_getElem? (i := 200) rfl)) rfl
theorem k3_201 : (Jvm.Cond.fieldLink "ChanceArena" (80 : Nat) "ChanceArena" "judged" "LChanceArena$Fractions;") ∈ lw_R := zR (zk_3 _ (List.mem_of_getElem? (i := 201) rfl)) rfl
theorem k3_202 : (Jvm.Cond.fieldLink "ChanceArena" (86 : Nat) "ChanceArena" "number" "LChanceArena$Natural;") ∈ lw_R := zR (zk_3 _ (List.mem_of_getElem? (i := 202) rfl)) rfl
theorem k3_203 : (Jvm.Cond.fieldLink "ChanceArena" (93 : Nat) "ChanceArena" "shown" "LChanceArena$Fraction;") ∈ lw_R := zR (zk_3 _ (List.mem_of_getElem? (i := 203) rfl)) rfl
theorem k3_204 : (Jvm.Cond.fieldLink "ChanceArena" (97 : Nat) "ChanceArena" "printed" "[C") ∈ lw_R := zR (zk_3 _ (List.mem_of_getElem? (i := 204) rfl)) rfl
theorem k3_205 : (Jvm.Cond.fieldLink "ChanceArena" (100 : Nat) "ChanceArena" "printedLength" "I") ∈ lw_R := zR (zk_3 _ (List.mem_of_getElem? (i := 205) rfl)) rfl
theorem k4_9 : (Jvm.Cond.methodLink "ChanceArena" (103 : Nat) ({ cls := "ChanceArena", name := "growTape", desc := "()[C" } : Jvm.MethodName)) ∈ lw_R := zR (zk_4 _ (List.mem_of_getElem? (i := 9) rfl)) rfl
theorem k4_11 : (Jvm.Cond.instanceMethod ({ cls := "ChanceArena", name := "growTape", desc := "()[C" } : Jvm.MethodName)) ∈ lw_R := zR (zk_4 _ (List.mem_of_getElem? (i := 11) rfl)) rfl
theorem k4_12 : (Jvm.Cond.code ({ cls := "ChanceArena", name := "growTape", desc := "()[C" } : Jvm.MethodName) prog_1_method_3_code (2 : Nat) (Option.some (Jvm.ClassFile.FieldType.array Jvm.ClassFile.FieldType.char))) ∈ lw_R := zR (zk_4 _ (List.mem_of_getElem? (i := 12) rfl)) rfl
theorem k4_13 : (Jvm.Cond.methodLink "ChanceArena" (111 : Nat) ({ cls := "java/lang/System", name := "arraycopy", desc := "(Ljava/lang/Object;ILjava/lang/Object;II)V" } : Jvm.MethodName)) ∈ lw_R := zR (zk_4 _ (List.mem_of_getElem? (i := 13) rfl)) rfl
theorem k4_14 : (Jvm.Cond.static ({ cls := "java/lang/System", name := "arraycopy", desc := "(Ljava/lang/Object;ILjava/lang/Object;II)V" } : Jvm.MethodName)) ∈ lw_R := zR (zk_4 _ (List.mem_of_getElem? (i := 14) rfl)) rfl
theorem k4_15 : (Jvm.Cond.native ({ cls := "java/lang/System", name := "arraycopy", desc := "(Ljava/lang/Object;ILjava/lang/Object;II)V" } : Jvm.MethodName)) ∈ lw_R := zR (zk_4 _ (List.mem_of_getElem? (i := 15) rfl)) rfl
theorem k4_16 : (Jvm.Cond.methodLink "ChanceArena" (107 : Nat) ({ cls := "ChanceArena", name := "putFour", desc := "(I)V" } : Jvm.MethodName)) ∈ lw_R := zR (zk_4 _ (List.mem_of_getElem? (i := 16) rfl)) rfl
theorem k4_18 : (Jvm.Cond.instanceMethod ({ cls := "ChanceArena", name := "putFour", desc := "(I)V" } : Jvm.MethodName)) ∈ lw_R := zR (zk_4 _ (List.mem_of_getElem? (i := 18) rfl)) rfl
theorem k4_19 : (Jvm.Cond.code ({ cls := "ChanceArena", name := "putFour", desc := "(I)V" } : Jvm.MethodName) prog_1_method_4_code (3 : Nat) (Option.none : Option Jvm.ClassFile.FieldType)) ∈ lw_R := zR (zk_4 _ (List.mem_of_getElem? (i := 19) rfl)) rfl
theorem k4_24 : (Jvm.Cond.methodLink "ChanceArena" (120 : Nat) ({ cls := "ChanceArena$Words", name := "split", desc := "([CI)V" } : Jvm.MethodName)) ∈ lw_R := zR (zk_4 _ (List.mem_of_getElem? (i := 24) rfl)) rfl
theorem k4_25 : (Jvm.Cond.instanceMethod ({ cls := "ChanceArena$Words", name := "split", desc := "([CI)V" } : Jvm.MethodName)) ∈ lw_R := zR (zk_4 _ (List.mem_of_getElem? (i := 25) rfl)) rfl
theorem k4_26 : (Jvm.Cond.selects "ChanceArena$Words" ({ cls := "ChanceArena$Words", name := "split", desc := "([CI)V" } : Jvm.MethodName) ({ cls := "ChanceArena$Words", name := "split", desc := "([CI)V" } : Jvm.MethodName)) ∈ lw_R := zR (zk_4 _ (List.mem_of_getElem? (i := 26) rfl)) rfl
