section
theorem k13_114 : (Jvm.Cond.code ({ cls := "ChanceArenaModel$Solver", name := "within", desc := "(I)I" } : Jvm.MethodName) prog_19_method_32_code (4 : Nat) (Option.some Jvm.ClassFile.FieldType.int)) ∈ lw_R := zR (zk_13 _ (List.mem_of_getElem? (i := 118) rfl)) rfl
theorem k13_115 : (Jvm.Cond.methodLink "ChanceArenaModel$Solver" (244 : Nat) ({ cls := "ChanceArenaModel$Solver", name := "move", desc := "(I)Z" } : Jvm.MethodName)) ∈ lw_R := zR (zk_13 _ (List.mem_of_getElem? (i := 119) rfl)) rfl
theorem k13_117 : (Jvm.Cond.instanceMethod ({ cls := "ChanceArenaModel$Solver", name := "move", desc := "(I)Z" } : Jvm.MethodName)) ∈ lw_R := zR (zk_13 _ (List.mem_of_getElem? (i := 121) rfl)) rfl
theorem k13_118 : (Jvm.Cond.code ({ cls := "ChanceArenaModel$Solver", name := "move", desc := "(I)Z" } : Jvm.MethodName) prog_19_method_31_code (4 : Nat) (Option.some Jvm.ClassFile.FieldType.boolean)) ∈ lw_R := zR (zk_13 _ (List.mem_of_getElem? (i := 122) rfl)) rfl
theorem k13_119 : (Jvm.Cond.methodLink "ChanceArenaModel$Solver" (236 : Nat) ({ cls := "ChanceArenaModel$Whole", name := "places", desc := "()I" } : Jvm.MethodName)) ∈ lw_R := zR (zk_13 _ (List.mem_of_getElem? (i := 123) rfl)) rfl
theorem k13_124 : (Jvm.Cond.methodLink "ChanceArenaModel" (590 : Nat) ({ cls := "ChanceArenaModel$Solver", name := "tell", desc := "(II)V" } : Jvm.MethodName)) ∈ lw_R := zR (zk_13 _ (List.mem_of_getElem? (i := 128) rfl)) rfl
theorem k13_125 : (Jvm.Cond.instanceMethod ({ cls := "ChanceArenaModel$Solver", name := "tell", desc := "(II)V" } : Jvm.MethodName)) ∈ lw_R := zR (zk_13 _ (List.mem_of_getElem? (i := 129) rfl)) rfl
theorem k13_126 : (Jvm.Cond.selects "ChanceArenaModel$Solver" ({ cls := "ChanceArenaModel$Solver", name := "tell", desc := "(II)V" } : Jvm.MethodName) ({ cls := "ChanceArenaModel$Solver", name := "tell", desc := "(II)V" } : Jvm.MethodName)) ∈ lw_R := zR (zk_13 _ (List.mem_of_getElem? (i := 130) rfl)) rfl
theorem k13_127 : (Jvm.Cond.code ({ cls := "ChanceArenaModel$Solver", name := "tell", desc := "(II)V" } : Jvm.MethodName) prog_19_method_39_code (3 : Nat) (Option.none : Option Jvm.ClassFile.FieldType)) ∈ lw_R := zR (zk_13 _ (List.mem_of_getElem? (i := 131) rfl)) rfl
theorem k13_132 : (Jvm.Cond.methodLink "ChanceArenaModel" (593 : Nat) ({ cls := "ChanceArenaModel$Solver", name := "hasValues", desc := "()Z" } : Jvm.MethodName)) ∈ lw_R := zR (zk_13 _ (List.mem_of_getElem? (i := 136) rfl)) rfl
theorem k13_133 : (Jvm.Cond.instanceMethod ({ cls := "ChanceArenaModel$Solver", name := "hasValues", desc := "()Z" } : Jvm.MethodName)) ∈ lw_R := zR (zk_13 _ (List.mem_of_getElem? (i := 137) rfl)) rfl
theorem k13_134 : (Jvm.Cond.selects "ChanceArenaModel$Solver" ({ cls := "ChanceArenaModel$Solver", name := "hasValues", desc := "()Z" } : Jvm.MethodName) ({ cls := "ChanceArenaModel$Solver", name := "hasValues", desc := "()Z" } : Jvm.MethodName)) ∈ lw_R := zR (zk_13 _ (List.mem_of_getElem? (i := 138) rfl)) rfl
theorem k13_135 : (Jvm.Cond.code ({ cls := "ChanceArenaModel$Solver", name := "hasValues", desc := "()Z" } : Jvm.MethodName) prog_19_method_41_code (1 : Nat) (Option.some Jvm.ClassFile.FieldType.boolean)) ∈ lw_R := zR (zk_13 _ (List.mem_of_getElem? (i := 139) rfl)) rfl
theorem k13_136 : (Jvm.Cond.methodLink "ChanceArenaModel" (596 : Nat) ({ cls := "ChanceArenaModel$Solver", name := "adopt", desc := "()V" } : Jvm.MethodName)) ∈ lw_R := zR (zk_13 _ (List.mem_of_getElem? (i := 140) rfl)) rfl
theorem k13_137 : (Jvm.Cond.instanceMethod ({ cls := "ChanceArenaModel$Solver", name := "adopt", desc := "()V" } : Jvm.MethodName)) ∈ lw_R := zR (zk_13 _ (List.mem_of_getElem? (i := 141) rfl)) rfl
theorem k13_138 : (Jvm.Cond.selects "ChanceArenaModel$Solver" ({ cls := "ChanceArenaModel$Solver", name := "adopt", desc := "()V" } : Jvm.MethodName) ({ cls := "ChanceArenaModel$Solver", name := "adopt", desc := "()V" } : Jvm.MethodName)) ∈ lw_R := zR (zk_13 _ (List.mem_of_getElem? (i := 142) rfl)) rfl
theorem k13_139 : (Jvm.Cond.code ({ cls := "ChanceArenaModel$Solver", name := "adopt", desc := "()V" } : Jvm.MethodName) prog_19_method_40_code (2 : Nat) (Option.none : Option Jvm.ClassFile.FieldType)) ∈ lw_R := zR (zk_13 _ (List.mem_of_getElem? (i := 143) rfl)) rfl
theorem k13_144 : (Jvm.Cond.methodLink "ChanceArenaModel" (599 : Nat) ({ cls := "ChanceArenaModel$Solver", name := "judge", desc := "(I)I" } : Jvm.MethodName)) ∈ lw_R := zR (zk_13 _ (List.mem_of_getElem? (i := 148) rfl)) rfl
theorem k13_145 : (Jvm.Cond.instanceMethod ({ cls := "ChanceArenaModel$Solver", name := "judge", desc := "(I)I" } : Jvm.MethodName)) ∈ lw_R := zR (zk_13 _ (List.mem_of_getElem? (i := 149) rfl)) rfl
theorem k13_146 : (Jvm.Cond.selects "ChanceArenaModel$Solver" ({ cls := "ChanceArenaModel$Solver", name := "judge", desc := "(I)I" } : Jvm.MethodName) ({ cls := "ChanceArenaModel$Solver", name := "judge", desc := "(I)I" } : Jvm.MethodName)) ∈ lw_R := zR (zk_13 _ (List.mem_of_getElem? (i := 150) rfl)) rfl
theorem k13_147 : (Jvm.Cond.code ({ cls := "ChanceArenaModel$Solver", name := "judge", desc := "(I)I" } : Jvm.MethodName) prog_19_method_24_code (2 : Nat) (Option.some Jvm.ClassFile.FieldType.int)) ∈ lw_R := zR (zk_13 _ (List.mem_of_getElem? (i := 151) rfl)) rfl
theorem k13_152 : (Jvm.Cond.methodLink "ChanceArenaModel" (602 : Nat) ({ cls := "ChanceArenaModel$Solver", name := "isThere", desc := "(II)Z" } : Jvm.MethodName)) ∈ lw_R := zR (zk_13 _ (List.mem_of_getElem? (i := 156) rfl)) rfl
theorem k13_153 : (Jvm.Cond.instanceMethod ({ cls := "ChanceArenaModel$Solver", name := "isThere", desc := "(II)Z" } : Jvm.MethodName)) ∈ lw_R := zR (zk_13 _ (List.mem_of_getElem? (i := 157) rfl)) rfl
theorem k13_154 : (Jvm.Cond.selects "ChanceArenaModel$Solver" ({ cls := "ChanceArenaModel$Solver", name := "isThere", desc := "(II)Z" } : Jvm.MethodName) ({ cls := "ChanceArenaModel$Solver", name := "isThere", desc := "(II)Z" } : Jvm.MethodName)) ∈ lw_R := zR (zk_13 _ (List.mem_of_getElem? (i := 158) rfl)) rfl
theorem k13_155 : (Jvm.Cond.code ({ cls := "ChanceArenaModel$Solver", name := "isThere", desc := "(II)Z" } : Jvm.MethodName) prog_19_method_33_code (3 : Nat) (Option.some Jvm.ClassFile.FieldType.boolean)) ∈ lw_R := zR (zk_13 _ (List.mem_of_getElem? (i := 159) rfl)) rfl
theorem k13_156 : (Jvm.Cond.methodLink "ChanceArenaModel" (605 : Nat) ({ cls := "ChanceArenaModel$Solver", name := "print", desc := "(II[I)I" } : Jvm.MethodName)) ∈ lw_R := zR (zk_13 _ (List.mem_of_getElem? (i := 160) rfl)) rfl
theorem k13_157 : (Jvm.Cond.instanceMethod ({ cls := "ChanceArenaModel$Solver", name := "print", desc := "(II[I)I" } : Jvm.MethodName)) ∈ lw_R := zR (zk_13 _ (List.mem_of_getElem? (i := 161) rfl)) rfl
theorem k13_158 : (Jvm.Cond.selects "ChanceArenaModel$Solver" ({ cls := "ChanceArenaModel$Solver", name := "print", desc := "(II[I)I" } : Jvm.MethodName) ({ cls := "ChanceArenaModel$Solver", name := "print", desc := "(II[I)I" } : Jvm.MethodName)) ∈ lw_R := zR (zk_13 _ (List.mem_of_getElem? (i := 162) rfl)) rfl
theorem k13_159 : (Jvm.Cond.code ({ cls := "ChanceArenaModel$Solver", name := "print", desc := "(II[I)I" } : Jvm.MethodName) prog_19_method_37_code (6 : Nat) (Option.some Jvm.ClassFile.FieldType.int)) ∈ lw_R := zR (zk_13 _ (List.mem_of_getElem? (i := 163) rfl)) rfl
theorem k13_160 : (Jvm.Cond.methodLink "ChanceArenaModel$Solver" (254 : Nat) ({ cls := "ChanceArenaModel$Solver", name := "say", desc := "(LChanceArenaModel$Whole;[II)I" } : Jvm.MethodName)) ∈ lw_R := zR (zk_13 _ (List.mem_of_getElem? (i := 164) rfl)) rfl
theorem k13_162 : (Jvm.Cond.instanceMethod ({ cls := "ChanceArenaModel$Solver", name := "say", desc := "(LChanceArenaModel$Whole;[II)I" } : Jvm.MethodName)) ∈ lw_R := zR (zk_13 _ (List.mem_of_getElem? (i := 166) rfl)) rfl
theorem k13_163 : (Jvm.Cond.code ({ cls := "ChanceArenaModel$Solver", name := "say", desc := "(LChanceArenaModel$Whole;[II)I" } : Jvm.MethodName) prog_19_method_36_code (6 : Nat) (Option.some Jvm.ClassFile.FieldType.int)) ∈ lw_R := zR (zk_13 _ (List.mem_of_getElem? (i := 167) rfl)) rfl
theorem k13_164 : (Jvm.Cond.methodLink "ChanceArenaModel$Solver" (251 : Nat) ({ cls := "ChanceArenaModel$Sums", name := "digits", desc := "(LChanceArenaModel$Whole;[I)I" } : Jvm.MethodName)) ∈ lw_R := zR (zk_13 _ (List.mem_of_getElem? (i := 168) rfl)) rfl
theorem k13_165 : (Jvm.Cond.instanceMethod ({ cls := "ChanceArenaModel$Sums", name := "digits", desc := "(LChanceArenaModel$Whole;[I)I" } : Jvm.MethodName)) ∈ lw_R := zR (zk_13 _ (List.mem_of_getElem? (i := 169) rfl)) rfl
theorem k13_166 : (Jvm.Cond.selects "ChanceArenaModel$Sums" ({ cls := "ChanceArenaModel$Sums", name := "digits", desc := "(LChanceArenaModel$Whole;[I)I" } : Jvm.MethodName) ({ cls := "ChanceArenaModel$Sums", name := "digits", desc := "(LChanceArenaModel$Whole;[I)I" } : Jvm.MethodName)) ∈ lw_R := zR (zk_13 _ (List.mem_of_getElem? (i := 170) rfl)) rfl
theorem k13_167 : (Jvm.Cond.code ({ cls := "ChanceArenaModel$Sums", name := "digits", desc := "(LChanceArenaModel$Whole;[I)I" } : Jvm.MethodName) prog_20_method_11_code (4 : Nat) (Option.some Jvm.ClassFile.FieldType.int)) ∈ lw_R := zR (zk_13 _ (List.mem_of_getElem? (i := 171) rfl)) rfl
theorem k13_168 : (Jvm.Cond.methodLink "ChanceArenaModel$Sums" (114 : Nat) ({ cls := "ChanceArenaModel$Whole", name := "tenth", desc := "()I" } : Jvm.MethodName)) ∈ lw_R := zR (zk_13 _ (List.mem_of_getElem? (i := 172) rfl)) rfl
theorem k13_169 : (Jvm.Cond.instanceMethod ({ cls := "ChanceArenaModel$Whole", name := "tenth", desc := "()I" } : Jvm.MethodName)) ∈ lw_R := zR (zk_13 _ (List.mem_of_getElem? (i := 173) rfl)) rfl
theorem k13_170 : (Jvm.Cond.selects "ChanceArenaModel$Whole" ({ cls := "ChanceArenaModel$Whole", name := "tenth", desc := "()I" } : Jvm.MethodName) ({ cls := "ChanceArenaModel$Whole", name := "tenth", desc := "()I" } : Jvm.MethodName)) ∈ lw_R := zR (zk_13 _ (List.mem_of_getElem? (i := 174) rfl)) rfl
theorem k13_171 : (Jvm.Cond.code ({ cls := "ChanceArenaModel$Whole", name := "tenth", desc := "()I" } : Jvm.MethodName) prog_21_method_18_code (4 : Nat) (Option.some Jvm.ClassFile.FieldType.int)) ∈ lw_R := zR (zk_13 _ (List.mem_of_getElem? (i := 175) rfl)) rfl
theorem k13_172 : (Jvm.Cond.methodLink "ChanceArenaModel$Solver" (258 : Nat) ({ cls := "ChanceArenaModel$Whole", name := "isOne", desc := "()Z" } : Jvm.MethodName)) ∈ lw_R := zR (zk_13 _ (List.mem_of_getElem? (i := 176) rfl)) rfl
theorem k13_181 : (Jvm.Cond.methodLink "ChanceArenaModel" (612 : Nat) ({ cls := "ChanceArenaModel$Solver", name := "compare", desc := "(IIII)I" } : Jvm.MethodName)) ∈ lw_R := zR (zk_13 _ (List.mem_of_getElem? (i := 185) rfl)) rfl
theorem k13_182 : (Jvm.Cond.instanceMethod ({ cls := "ChanceArenaModel$Solver", name := "compare", desc := "(IIII)I" } : Jvm.MethodName)) ∈ lw_R := zR (zk_13 _ (List.mem_of_getElem? (i := 186) rfl)) rfl
theorem k13_183 : (Jvm.Cond.selects "ChanceArenaModel$Solver" ({ cls := "ChanceArenaModel$Solver", name := "compare", desc := "(IIII)I" } : Jvm.MethodName) ({ cls := "ChanceArenaModel$Solver", name := "compare", desc := "(IIII)I" } : Jvm.MethodName)) ∈ lw_R := zR (zk_13 _ (List.mem_of_getElem? (i := 187) rfl)) rfl
theorem k13_184 : (Jvm.Cond.code ({ cls := "ChanceArenaModel$Solver", name := "compare", desc := "(IIII)I" } : Jvm.MethodName) prog_19_method_34_code (5 : Nat) (Option.some Jvm.ClassFile.FieldType.int)) ∈ lw_R := zR (zk_13 _ (List.mem_of_getElem? (i := 188) rfl)) rfl
theorem k13_189 : (Jvm.Cond.methodLink "ChanceArenaModel" (616 : Nat) ({ cls := "ChanceArenaModel$Solver", name := "billionths", desc := "(II)I" } : Jvm.MethodName)) ∈ lw_R := zR (zk_13 _ (List.mem_of_getElem? (i := 193) rfl)) rfl
theorem k13_190 : (Jvm.Cond.instanceMethod ({ cls := "ChanceArenaModel$Solver", name := "billionths", desc := "(II)I" } : Jvm.MethodName)) ∈ lw_R := zR (zk_13 _ (List.mem_of_getElem? (i := 194) rfl)) rfl
theorem k13_191 : (Jvm.Cond.selects "ChanceArenaModel$Solver" ({ cls := "ChanceArenaModel$Solver", name := "billionths", desc := "(II)I" } : Jvm.MethodName) ({ cls := "ChanceArenaModel$Solver", name := "billionths", desc := "(II)I" } : Jvm.MethodName)) ∈ lw_R := zR (zk_13 _ (List.mem_of_getElem? (i := 195) rfl)) rfl
theorem k13_192 : (Jvm.Cond.code ({ cls := "ChanceArenaModel$Solver", name := "billionths", desc := "(II)I" } : Jvm.MethodName) prog_19_method_35_code (3 : Nat) (Option.some Jvm.ClassFile.FieldType.int)) ∈ lw_R := zR (zk_13 _ (List.mem_of_getElem? (i := 196) rfl)) rfl
theorem k13_193 : (Jvm.Cond.methodLink "ChanceArenaModel$Solver" (247 : Nat) ({ cls := "ChanceArenaModel$Sums", name := "billionths", desc := "(LChanceArenaModel$Fraction;)I" } : Jvm.MethodName)) ∈ lw_R := zR (zk_13 _ (List.mem_of_getElem? (i := 197) rfl)) rfl
theorem k13_194 : (Jvm.Cond.instanceMethod ({ cls := "ChanceArenaModel$Sums", name := "billionths", desc := "(LChanceArenaModel$Fraction;)I" } : Jvm.MethodName)) ∈ lw_R := zR (zk_13 _ (List.mem_of_getElem? (i := 198) rfl)) rfl
theorem k13_195 : (Jvm.Cond.selects "ChanceArenaModel$Sums" ({ cls := "ChanceArenaModel$Sums", name := "billionths", desc := "(LChanceArenaModel$Fraction;)I" } : Jvm.MethodName) ({ cls := "ChanceArenaModel$Sums", name := "billionths", desc := "(LChanceArenaModel$Fraction;)I" } : Jvm.MethodName)) ∈ lw_R := zR (zk_13 _ (List.mem_of_getElem? (i := 199) rfl)) rfl
theorem k13_196 : (Jvm.Cond.code ({ cls := "ChanceArenaModel$Sums", name := "billionths", desc := "(LChanceArenaModel$Fraction;)I" } : Jvm.MethodName) prog_20_method_10_code (5 : Nat) (Option.some Jvm.ClassFile.FieldType.int)) ∈ lw_R := zR (zk_13 _ (List.mem_of_getElem? (i := 200) rfl)) rfl
theorem k13_197 : (Jvm.Cond.constantLong "ChanceArenaModel$Sums" (110 : Nat) (1000000000 : Int64)) ∈ lw_R := zR (zk_13 _ (List.mem_of_getElem? (i := 201) rfl)) rfl
theorem k13_198 : (Jvm.Cond.constantLong "ChanceArenaModel$Sums" (112 : Nat) (2 : Int64)) ∈ lw_R := zR (zk_13 _ (List.mem_of_getElem? (i := 202) rfl)) rfl
theorem k13_203 : (Jvm.Cond.methodLink "ChanceArenaModel" (619 : Nat) ({ cls := "ChanceArenaModel$Solver", name := "choiceOf", desc := "(I)I" } : Jvm.MethodName)) ∈ lw_R := zR (zk_13 _ (List.mem_of_getElem? (i := 207) rfl)) rfl
theorem k13_204 : (Jvm.Cond.instanceMethod ({ cls := "ChanceArenaModel$Solver", name := "choiceOf", desc := "(I)I" } : Jvm.MethodName)) ∈ lw_R := zR (zk_13 _ (List.mem_of_getElem? (i := 208) rfl)) rfl
theorem k13_205 : (Jvm.Cond.selects "ChanceArenaModel$Solver" ({ cls := "ChanceArenaModel$Solver", name := "choiceOf", desc := "(I)I" } : Jvm.MethodName) ({ cls := "ChanceArenaModel$Solver", name := "choiceOf", desc := "(I)I" } : Jvm.MethodName)) ∈ lw_R := zR (zk_13 _ (List.mem_of_getElem? (i := 209) rfl)) rfl
theorem k13_206 : (Jvm.Cond.code ({ cls := "ChanceArenaModel$Solver", name := "choiceOf", desc := "(I)I" } : Jvm.MethodName) prog_19_method_42_code (2 : Nat) (Option.some Jvm.ClassFile.FieldType.int)) ∈ lw_R := zR (zk_13 _ (List.mem_of_getElem? (i := 210) rfl)) rfl
theorem k13_211 : (Jvm.Cond.methodLink "ChanceArenaModel" (622 : Nat) ({ cls := "ChanceArenaModel$Solver", name := "rankOf", desc := "(I)I" } : Jvm.MethodName)) ∈ lw_R := zR (zk_13 _ (List.mem_of_getElem? (i := 215) rfl)) rfl
theorem k13_212 : (Jvm.Cond.instanceMethod ({ cls := "ChanceArenaModel$Solver", name := "rankOf", desc := "(I)I" } : Jvm.MethodName)) ∈ lw_R := zR (zk_13 _ (List.mem_of_getElem? (i := 216) rfl)) rfl
theorem k13_213 : (Jvm.Cond.selects "ChanceArenaModel$Solver" ({ cls := "ChanceArenaModel$Solver", name := "rankOf", desc := "(I)I" } : Jvm.MethodName) ({ cls := "ChanceArenaModel$Solver", name := "rankOf", desc := "(I)I" } : Jvm.MethodName)) ∈ lw_R := zR (zk_13 _ (List.mem_of_getElem? (i := 217) rfl)) rfl
theorem k13_214 : (Jvm.Cond.code ({ cls := "ChanceArenaModel$Solver", name := "rankOf", desc := "(I)I" } : Jvm.MethodName) prog_19_method_43_code (2 : Nat) (Option.some Jvm.ClassFile.FieldType.int)) ∈ lw_R := zR (zk_13 _ (List.mem_of_getElem? (i := 218) rfl)) rfl
theorem k13_219 : (Jvm.Cond.methodLink "ChanceArenaModel" (625 : Nat) ({ cls := "ChanceArenaModel$Solver", name := "nextOf", desc := "(II)I" } : Jvm.MethodName)) ∈ lw_R := zR (zk_13 _ (List.mem_of_getElem? (i := 223) rfl)) rfl
theorem k13_220 : (Jvm.Cond.instanceMethod ({ cls := "ChanceArenaModel$Solver", name := "nextOf", desc := "(II)I" } : Jvm.MethodName)) ∈ lw_R := zR (zk_13 _ (List.mem_of_getElem? (i := 224) rfl)) rfl
theorem k13_221 : (Jvm.Cond.selects "ChanceArenaModel$Solver" ({ cls := "ChanceArenaModel$Solver", name := "nextOf", desc := "(II)I" } : Jvm.MethodName) ({ cls := "ChanceArenaModel$Solver", name := "nextOf", desc := "(II)I" } : Jvm.MethodName)) ∈ lw_R := zR (zk_13 _ (List.mem_of_getElem? (i := 225) rfl)) rfl
theorem k13_222 : (Jvm.Cond.code ({ cls := "ChanceArenaModel$Solver", name := "nextOf", desc := "(II)I" } : Jvm.MethodName) prog_19_method_44_code (9 : Nat) (Option.some Jvm.ClassFile.FieldType.int)) ∈ lw_R := zR (zk_13 _ (List.mem_of_getElem? (i := 226) rfl)) rfl
theorem k13_223 : (Jvm.Cond.constantLong "ChanceArenaModel$Solver" (261 : Nat) (2147483648 : Int64)) ∈ lw_R := zR (zk_13 _ (List.mem_of_getElem? (i := 227) rfl)) rfl
end
section
theorem kJ_math : (Jvm.Cond.initialized "java/lang/Math") ∈ lw_R := k1_30
theorem kJ_max_s : (Jvm.Cond.static ({ cls := "java/lang/Math", name := "max", desc := "(II)I" } : Jvm.MethodName)) ∈ lw_R := k4_208
theorem kJ_max_c : (Jvm.Cond.code ({ cls := "java/lang/Math", name := "max", desc := "(II)I" } : Jvm.MethodName) prog_31_method_65_code (2 : Nat) (Option.some Jvm.ClassFile.FieldType.int)) ∈ lw_R := k4_209
theorem kJ_min_s : (Jvm.Cond.static ({ cls := "java/lang/Math", name := "min", desc := "(II)I" } : Jvm.MethodName)) ∈ lw_R := k5_4
theorem kJ_min_c : (Jvm.Cond.code ({ cls := "java/lang/Math", name := "min", desc := "(II)I" } : Jvm.MethodName) prog_31_method_69_code (2 : Nat) (Option.some Jvm.ClassFile.FieldType.int)) ∈ lw_R := k5_5
theorem kJ_minl_s : (Jvm.Cond.static ({ cls := "java/lang/Math", name := "min", desc := "(JJ)J" } : Jvm.MethodName)) ∈ lw_R := k7_78
theorem kJ_minl_c : (Jvm.Cond.code ({ cls := "java/lang/Math", name := "min", desc := "(JJ)J" } : Jvm.MethodName) prog_31_method_70_code (4 : Nat) (Option.some Jvm.ClassFile.FieldType.long)) ∈ lw_R := k7_79
theorem kJ_absl_s : (Jvm.Cond.static ({ cls := "java/lang/Math", name := "abs", desc := "(J)J" } : Jvm.MethodName)) ∈ lw_R := k5_231
theorem kJ_absl_c : (Jvm.Cond.code ({ cls := "java/lang/Math", name := "abs", desc := "(J)J" } : Jvm.MethodName) prog_31_method_61_code (2 : Nat) (Option.some Jvm.ClassFile.FieldType.long)) ∈ lw_R := k5_232
theorem kJ_ac_n : (Jvm.Cond.native ({ cls := "java/lang/System", name := "arraycopy", desc := "(Ljava/lang/Object;ILjava/lang/Object;II)V" } : Jvm.MethodName)) ∈ lw_R := k4_3
theorem kJ_ac_s : (Jvm.Cond.static ({ cls := "java/lang/System", name := "arraycopy", desc := "(Ljava/lang/Object;ILjava/lang/Object;II)V" } : Jvm.MethodName)) ∈ lw_R := k4_2
theorem kJ_sys : (Jvm.Cond.initialized "java/lang/System") ∈ lw_R := k1_21
theorem kO_inst : (Jvm.Cond.instanceMethod ({ cls := "java/lang/Object", name := "<init>", desc := "()V" } : Jvm.MethodName)) ∈ lw_R := k1_46
theorem kO_code : (Jvm.Cond.code ({ cls := "java/lang/Object", name := "<init>", desc := "()V" } : Jvm.MethodName) object_method_1_code (1 : Nat) (Option.none : Option Jvm.ClassFile.FieldType)) ∈ lw_R := k1_47
theorem ks_CA_forget : Cond.selects "ChanceArena" ({ cls := "ChanceArena", name := "forget", desc := "()V" } : Jvm.MethodName) ({ cls := "ChanceArena", name := "forget", desc := "()V" } : Jvm.MethodName) ∈ lw_R := zR (List.mem_append_left _ (List.mem_of_getElem? (i := 41) rfl)) rfl
theorem ks_CA_fractionOf : Cond.selects "ChanceArena" ({ cls := "ChanceArena", name := "fractionOf", desc := "(II)LChanceArena$Fraction;" } : Jvm.MethodName) ({ cls := "ChanceArena", name := "fractionOf", desc := "(II)LChanceArena$Fraction;" } : Jvm.MethodName) ∈ lw_R := zR (List.mem_append_left _ (List.mem_of_getElem? (i := 42) rfl)) rfl
theorem ks_CA_growTape : Cond.selects "ChanceArena" ({ cls := "ChanceArena", name := "growTape", desc := "()[C" } : Jvm.MethodName) ({ cls := "ChanceArena", name := "growTape", desc := "()[C" } : Jvm.MethodName) ∈ lw_R := zR (List.mem_append_left _ (List.mem_of_getElem? (i := 0) rfl)) rfl
theorem ks_CA_printNumber : Cond.selects "ChanceArena" ({ cls := "ChanceArena", name := "printNumber", desc := "(LChanceArena$Natural;)V" } : Jvm.MethodName) ({ cls := "ChanceArena", name := "printNumber", desc := "(LChanceArena$Natural;)V" } : Jvm.MethodName) ∈ lw_R := zR (List.mem_append_left _ (List.mem_of_getElem? (i := 48) rfl)) rfl
theorem ks_CA_putFour : Cond.selects "ChanceArena" ({ cls := "ChanceArena", name := "putFour", desc := "(I)V" } : Jvm.MethodName) ({ cls := "ChanceArena", name := "putFour", desc := "(I)V" } : Jvm.MethodName) ∈ lw_R := zR (List.mem_append_left _ (List.mem_of_getElem? (i := 1) rfl)) rfl
theorem ks_Ga_enter : Cond.selects "ChanceArena$Game" ({ cls := "ChanceArena$Game", name := "enter", desc := "()I" } : Jvm.MethodName) ({ cls := "ChanceArena$Game", name := "enter", desc := "()I" } : Jvm.MethodName) ∈ lw_R := zR (List.mem_append_left _ (List.mem_of_getElem? (i := 53) rfl)) rfl
theorem ks_Ga_fault : Cond.selects "ChanceArena$Game" ({ cls := "ChanceArena$Game", name := "fault", desc := "(II)I" } : Jvm.MethodName) ({ cls := "ChanceArena$Game", name := "fault", desc := "(II)I" } : Jvm.MethodName) ∈ lw_R := zR (List.mem_append_left _ (List.mem_of_getElem? (i := 58) rfl)) rfl
theorem ks_Ga_follow : Cond.selects "ChanceArena$Game" ({ cls := "ChanceArena$Game", name := "follow", desc := "(III)I" } : Jvm.MethodName) ({ cls := "ChanceArena$Game", name := "follow", desc := "(III)I" } : Jvm.MethodName) ∈ lw_R := zR (List.mem_append_left _ (List.mem_of_getElem? (i := 60) rfl)) rfl
theorem ks_Ga_isNext : Cond.selects "ChanceArena$Game" ({ cls := "ChanceArena$Game", name := "isNext", desc := "(I)Z" } : Jvm.MethodName) ({ cls := "ChanceArena$Game", name := "isNext", desc := "(I)Z" } : Jvm.MethodName) ∈ lw_R := zR (List.mem_append_left _ (List.mem_of_getElem? (i := 54) rfl)) rfl
theorem ks_Ga_lookAt : Cond.selects "ChanceArena$Game" ({ cls := "ChanceArena$Game", name := "lookAt", desc := "(I)I" } : Jvm.MethodName) ({ cls := "ChanceArena$Game", name := "lookAt", desc := "(I)I" } : Jvm.MethodName) ∈ lw_R := zR (List.mem_append_left _ (List.mem_of_getElem? (i := 55) rfl)) rfl
theorem ks_Ga_machineFault : Cond.selects "ChanceArena$Game" ({ cls := "ChanceArena$Game", name := "machineFault", desc := "()I" } : Jvm.MethodName) ({ cls := "ChanceArena$Game", name := "machineFault", desc := "()I" } : Jvm.MethodName) ∈ lw_R := zR (List.mem_append_left _ (List.mem_of_getElem? (i := 56) rfl)) rfl
theorem ks_Ga_tryCommand : Cond.selects "ChanceArena$Game" ({ cls := "ChanceArena$Game", name := "tryCommand", desc := "(II)I" } : Jvm.MethodName) ({ cls := "ChanceArena$Game", name := "tryCommand", desc := "(II)I" } : Jvm.MethodName) ∈ lw_R := zR (List.mem_append_left _ (List.mem_of_getElem? (i := 57) rfl)) rfl
theorem ks_Ga_weighChances : Cond.selects "ChanceArena$Game" ({ cls := "ChanceArena$Game", name := "weighChances", desc := "(I)I" } : Jvm.MethodName) ({ cls := "ChanceArena$Game", name := "weighChances", desc := "(I)I" } : Jvm.MethodName) ∈ lw_R := zR (List.mem_append_left _ (List.mem_of_getElem? (i := 59) rfl)) rfl
theorem ks_MM_add : Cond.selects "ChanceArenaModel" ({ cls := "ChanceArenaModel", name := "add", desc := "(IJJ)V" } : Jvm.MethodName) ({ cls := "ChanceArenaModel", name := "add", desc := "(IJJ)V" } : Jvm.MethodName) ∈ lw_R := zR (List.mem_append_left _ (List.mem_of_getElem? (i := 146) rfl)) rfl
theorem ks_MM_add4 : Cond.selects "ChanceArenaModel" ({ cls := "ChanceArenaModel", name := "add4", desc := "(I)V" } : Jvm.MethodName) ({ cls := "ChanceArenaModel", name := "add4", desc := "(I)V" } : Jvm.MethodName) ∈ lw_R := zR (List.mem_append_left _ (List.mem_of_getElem? (i := 74) rfl)) rfl
theorem ks_MM_again : Cond.selects "ChanceArenaModel" ({ cls := "ChanceArenaModel", name := "again", desc := "(ZII)I" } : Jvm.MethodName) ({ cls := "ChanceArenaModel", name := "again", desc := "(ZII)I" } : Jvm.MethodName) ∈ lw_R := zR (List.mem_append_left _ (List.mem_of_getElem? (i := 86) rfl)) rfl
theorem ks_MM_anItem : Cond.selects "ChanceArenaModel" ({ cls := "ChanceArenaModel", name := "anItem", desc := "(I)I" } : Jvm.MethodName) ({ cls := "ChanceArenaModel", name := "anItem", desc := "(I)I" } : Jvm.MethodName) ∈ lw_R := zR (List.mem_append_left _ (List.mem_of_getElem? (i := 84) rfl)) rfl
theorem ks_MM_ask : Cond.selects "ChanceArenaModel" ({ cls := "ChanceArenaModel", name := "ask", desc := "()I" } : Jvm.MethodName) ({ cls := "ChanceArenaModel", name := "ask", desc := "()I" } : Jvm.MethodName) ∈ lw_R := zR (List.mem_append_left _ (List.mem_of_getElem? (i := 90) rfl)) rfl
theorem ks_MM_begin : Cond.selects "ChanceArenaModel" ({ cls := "ChanceArenaModel", name := "begin", desc := "(LChanceArenaModel$Game;I)V" } : Jvm.MethodName) ({ cls := "ChanceArenaModel", name := "begin", desc := "(LChanceArenaModel$Game;I)V" } : Jvm.MethodName) ∈ lw_R := zR (List.mem_append_left _ (List.mem_of_getElem? (i := 118) rfl)) rfl
theorem ks_MM_begins : Cond.selects "ChanceArenaModel" ({ cls := "ChanceArenaModel", name := "begins", desc := "(III)V" } : Jvm.MethodName) ({ cls := "ChanceArenaModel", name := "begins", desc := "(III)V" } : Jvm.MethodName) ∈ lw_R := zR (List.mem_append_left _ (List.mem_of_getElem? (i := 133) rfl)) rfl
theorem ks_MM_best : Cond.selects "ChanceArenaModel" ({ cls := "ChanceArenaModel", name := "best", desc := "(ZII)V" } : Jvm.MethodName) ({ cls := "ChanceArenaModel", name := "best", desc := "(ZII)V" } : Jvm.MethodName) ∈ lw_R := zR (List.mem_append_left _ (List.mem_of_getElem? (i := 124) rfl)) rfl
theorem ks_MM_branch0 : Cond.selects "ChanceArenaModel" ({ cls := "ChanceArenaModel", name := "branch", desc := "(III)I" } : Jvm.MethodName) ({ cls := "ChanceArenaModel", name := "branch", desc := "(III)I" } : Jvm.MethodName) ∈ lw_R := zR (List.mem_append_left _ (List.mem_of_getElem? (i := 135) rfl)) rfl
theorem ks_MM_chances : Cond.selects "ChanceArenaModel" ({ cls := "ChanceArenaModel", name := "chances", desc := "(II)J" } : Jvm.MethodName) ({ cls := "ChanceArenaModel", name := "chances", desc := "(II)J" } : Jvm.MethodName) ∈ lw_R := zR (List.mem_append_left _ (List.mem_of_getElem? (i := 142) rfl)) rfl
theorem ks_MM_choose0 : Cond.selects "ChanceArenaModel" ({ cls := "ChanceArenaModel", name := "choose", desc := "(LChanceArenaModel$Game;I)V" } : Jvm.MethodName) ({ cls := "ChanceArenaModel", name := "choose", desc := "(LChanceArenaModel$Game;I)V" } : Jvm.MethodName) ∈ lw_R := zR (List.mem_append_left _ (List.mem_of_getElem? (i := 127) rfl)) rfl
theorem ks_MM_closeOf : Cond.selects "ChanceArenaModel" ({ cls := "ChanceArenaModel", name := "closeOf", desc := "(I)I" } : Jvm.MethodName) ({ cls := "ChanceArenaModel", name := "closeOf", desc := "(I)I" } : Jvm.MethodName) ∈ lw_R := zR (List.mem_append_left _ (List.mem_of_getElem? (i := 137) rfl)) rfl
theorem ks_MM_colonOf : Cond.selects "ChanceArenaModel" ({ cls := "ChanceArenaModel", name := "colonOf", desc := "(II)I" } : Jvm.MethodName) ({ cls := "ChanceArenaModel", name := "colonOf", desc := "(II)I" } : Jvm.MethodName) ∈ lw_R := zR (List.mem_append_left _ (List.mem_of_getElem? (i := 108) rfl)) rfl
theorem ks_MM_commandItem : Cond.selects "ChanceArenaModel" ({ cls := "ChanceArenaModel", name := "commandItem", desc := "(II)V" } : Jvm.MethodName) ({ cls := "ChanceArenaModel", name := "commandItem", desc := "(II)V" } : Jvm.MethodName) ∈ lw_R := zR (List.mem_append_left _ (List.mem_of_getElem? (i := 134) rfl)) rfl
theorem ks_MM_cut : Cond.selects "ChanceArenaModel" ({ cls := "ChanceArenaModel", name := "cut", desc := "()V" } : Jvm.MethodName) ({ cls := "ChanceArenaModel", name := "cut", desc := "()V" } : Jvm.MethodName) ∈ lw_R := zR (List.mem_append_left _ (List.mem_of_getElem? (i := 75) rfl)) rfl
theorem ks_MM_enabled : Cond.selects "ChanceArenaModel" ({ cls := "ChanceArenaModel", name := "enabled", desc := "(II)V" } : Jvm.MethodName) ({ cls := "ChanceArenaModel", name := "enabled", desc := "(II)V" } : Jvm.MethodName) ∈ lw_R := zR (List.mem_append_left _ (List.mem_of_getElem? (i := 141) rfl)) rfl
theorem ks_MM_enter : Cond.selects "ChanceArenaModel" ({ cls := "ChanceArenaModel", name := "enter", desc := "(I)V" } : Jvm.MethodName) ({ cls := "ChanceArenaModel", name := "enter", desc := "(I)V" } : Jvm.MethodName) ∈ lw_R := zR (List.mem_append_left _ (List.mem_of_getElem? (i := 139) rfl)) rfl
theorem ks_MM_find : Cond.selects "ChanceArenaModel" ({ cls := "ChanceArenaModel", name := "find", desc := "(I)I" } : Jvm.MethodName) ({ cls := "ChanceArenaModel", name := "find", desc := "(I)I" } : Jvm.MethodName) ∈ lw_R := zR (List.mem_append_left _ (List.mem_of_getElem? (i := 98) rfl)) rfl
theorem ks_MM_finish : Cond.selects "ChanceArenaModel" ({ cls := "ChanceArenaModel", name := "finish", desc := "(LChanceArenaModel$Game;I)V" } : Jvm.MethodName) ({ cls := "ChanceArenaModel", name := "finish", desc := "(LChanceArenaModel$Game;I)V" } : Jvm.MethodName) ∈ lw_R := zR (List.mem_append_left _ (List.mem_of_getElem? (i := 123) rfl)) rfl
theorem ks_MM_initOf : Cond.selects "ChanceArenaModel" ({ cls := "ChanceArenaModel", name := "initOf", desc := "(II)I" } : Jvm.MethodName) ({ cls := "ChanceArenaModel", name := "initOf", desc := "(II)I" } : Jvm.MethodName) ∈ lw_R := zR (List.mem_append_left _ (List.mem_of_getElem? (i := 130) rfl)) rfl
theorem ks_MM_isCommand : Cond.selects "ChanceArenaModel" ({ cls := "ChanceArenaModel", name := "isCommand", desc := "(II)Z" } : Jvm.MethodName) ({ cls := "ChanceArenaModel", name := "isCommand", desc := "(II)Z" } : Jvm.MethodName) ∈ lw_R := zR (List.mem_append_left _ (List.mem_of_getElem? (i := 149) rfl)) rfl
theorem ks_MM_isOperand : Cond.selects "ChanceArenaModel" ({ cls := "ChanceArenaModel", name := "isOperand", desc := "(I)Z" } : Jvm.MethodName) ({ cls := "ChanceArenaModel", name := "isOperand", desc := "(I)Z" } : Jvm.MethodName) ∈ lw_R := zR (List.mem_append_left _ (List.mem_of_getElem? (i := 105) rfl)) rfl
theorem ks_MM_isState : Cond.selects "ChanceArenaModel" ({ cls := "ChanceArenaModel", name := "isState", desc := "(I)Z" } : Jvm.MethodName) ({ cls := "ChanceArenaModel", name := "isState", desc := "(I)Z" } : Jvm.MethodName) ∈ lw_R := zR (List.mem_append_left _ (List.mem_of_getElem? (i := 148) rfl)) rfl
theorem ks_MM_item : Cond.selects "ChanceArenaModel" ({ cls := "ChanceArenaModel", name := "item", desc := "(II)I" } : Jvm.MethodName) ({ cls := "ChanceArenaModel", name := "item", desc := "(II)I" } : Jvm.MethodName) ∈ lw_R := zR (List.mem_append_left _ (List.mem_of_getElem? (i := 83) rfl)) rfl
theorem ks_MM_items0 : Cond.selects "ChanceArenaModel" ({ cls := "ChanceArenaModel", name := "items", desc := "()V" } : Jvm.MethodName) ({ cls := "ChanceArenaModel", name := "items", desc := "()V" } : Jvm.MethodName) ∈ lw_R := zR (List.mem_append_left _ (List.mem_of_getElem? (i := 93) rfl)) rfl
theorem ks_MM_job : Cond.selects "ChanceArenaModel" ({ cls := "ChanceArenaModel", name := "job", desc := "(III)V" } : Jvm.MethodName) ({ cls := "ChanceArenaModel", name := "job", desc := "(III)V" } : Jvm.MethodName) ∈ lw_R := zR (List.mem_append_left _ (List.mem_of_getElem? (i := 101) rfl)) rfl
theorem ks_MM_join : Cond.selects "ChanceArenaModel" ({ cls := "ChanceArenaModel", name := "join", desc := "(II)V" } : Jvm.MethodName) ({ cls := "ChanceArenaModel", name := "join", desc := "(II)V" } : Jvm.MethodName) ∈ lw_R := zR (List.mem_append_left _ (List.mem_of_getElem? (i := 107) rfl)) rfl
theorem ks_MM_know : Cond.selects "ChanceArenaModel" ({ cls := "ChanceArenaModel", name := "know", desc := "(III)V" } : Jvm.MethodName) ({ cls := "ChanceArenaModel", name := "know", desc := "(III)V" } : Jvm.MethodName) ∈ lw_R := zR (List.mem_append_left _ (List.mem_of_getElem? (i := 128) rfl)) rfl
theorem ks_MM_letter : Cond.selects "ChanceArenaModel" ({ cls := "ChanceArenaModel", name := "letter", desc := "(I)I" } : Jvm.MethodName) ({ cls := "ChanceArenaModel", name := "letter", desc := "(I)I" } : Jvm.MethodName) ∈ lw_R := zR (List.mem_append_left _ (List.mem_of_getElem? (i := 77) rfl)) rfl
theorem ks_MM_level : Cond.selects "ChanceArenaModel" ({ cls := "ChanceArenaModel", name := "level", desc := "()Z" } : Jvm.MethodName) ({ cls := "ChanceArenaModel", name := "level", desc := "()Z" } : Jvm.MethodName) ∈ lw_R := zR (List.mem_append_left _ (List.mem_of_getElem? (i := 88) rfl)) rfl
theorem ks_MM_list : Cond.selects "ChanceArenaModel" ({ cls := "ChanceArenaModel", name := "list", desc := "(III)V" } : Jvm.MethodName) ({ cls := "ChanceArenaModel", name := "list", desc := "(III)V" } : Jvm.MethodName) ∈ lw_R := zR (List.mem_append_left _ (List.mem_of_getElem? (i := 110) rfl)) rfl
theorem ks_MM_look : Cond.selects "ChanceArenaModel" ({ cls := "ChanceArenaModel", name := "look", desc := "(IZ)Z" } : Jvm.MethodName) ({ cls := "ChanceArenaModel", name := "look", desc := "(IZ)Z" } : Jvm.MethodName) ∈ lw_R := zR (List.mem_append_left _ (List.mem_of_getElem? (i := 111) rfl)) rfl
theorem ks_MM_lookAt : Cond.selects "ChanceArenaModel" ({ cls := "ChanceArenaModel", name := "lookAt", desc := "(IZ)V" } : Jvm.MethodName) ({ cls := "ChanceArenaModel", name := "lookAt", desc := "(IZ)V" } : Jvm.MethodName) ∈ lw_R := zR (List.mem_append_left _ (List.mem_of_getElem? (i := 112) rfl)) rfl
theorem ks_MM_lookUp : Cond.selects "ChanceArenaModel" ({ cls := "ChanceArenaModel", name := "lookUp", desc := "(IZ)I" } : Jvm.MethodName) ({ cls := "ChanceArenaModel", name := "lookUp", desc := "(IZ)I" } : Jvm.MethodName) ∈ lw_R := zR (List.mem_append_left _ (List.mem_of_getElem? (i := 114) rfl)) rfl
theorem ks_MM_looseness : Cond.selects "ChanceArenaModel" ({ cls := "ChanceArenaModel", name := "looseness", desc := "(II)I" } : Jvm.MethodName) ({ cls := "ChanceArenaModel", name := "looseness", desc := "(II)I" } : Jvm.MethodName) ∈ lw_R := zR (List.mem_append_left _ (List.mem_of_getElem? (i := 104) rfl)) rfl
theorem ks_MM_loosest : Cond.selects "ChanceArenaModel" ({ cls := "ChanceArenaModel", name := "loosest", desc := "(II)I" } : Jvm.MethodName) ({ cls := "ChanceArenaModel", name := "loosest", desc := "(II)I" } : Jvm.MethodName) ∈ lw_R := zR (List.mem_append_left _ (List.mem_of_getElem? (i := 103) rfl)) rfl
theorem ks_MM_name : Cond.selects "ChanceArenaModel" ({ cls := "ChanceArenaModel", name := "name", desc := "(LChanceArenaModel$Game;I)V" } : Jvm.MethodName) ({ cls := "ChanceArenaModel", name := "name", desc := "(LChanceArenaModel$Game;I)V" } : Jvm.MethodName) ∈ lw_R := zR (List.mem_append_left _ (List.mem_of_getElem? (i := 121) rfl)) rfl
theorem ks_MM_node : Cond.selects "ChanceArenaModel" ({ cls := "ChanceArenaModel", name := "node", desc := "(III)I" } : Jvm.MethodName) ({ cls := "ChanceArenaModel", name := "node", desc := "(III)I" } : Jvm.MethodName) ∈ lw_R := zR (List.mem_append_left _ (List.mem_of_getElem? (i := 106) rfl)) rfl
theorem ks_MM_numberOf : Cond.selects "ChanceArenaModel" ({ cls := "ChanceArenaModel", name := "numberOf", desc := "(I)I" } : Jvm.MethodName) ({ cls := "ChanceArenaModel", name := "numberOf", desc := "(I)I" } : Jvm.MethodName) ∈ lw_R := zR (List.mem_append_left _ (List.mem_of_getElem? (i := 109) rfl)) rfl
theorem ks_MM_part : Cond.selects "ChanceArenaModel" ({ cls := "ChanceArenaModel", name := "part", desc := "(III)V" } : Jvm.MethodName) ({ cls := "ChanceArenaModel", name := "part", desc := "(III)V" } : Jvm.MethodName) ∈ lw_R := zR (List.mem_append_left _ (List.mem_of_getElem? (i := 102) rfl)) rfl
theorem ks_MM_parts : Cond.selects "ChanceArenaModel" ({ cls := "ChanceArenaModel", name := "parts", desc := "(I)I" } : Jvm.MethodName) ({ cls := "ChanceArenaModel", name := "parts", desc := "(I)I" } : Jvm.MethodName) ∈ lw_R := zR (List.mem_append_left _ (List.mem_of_getElem? (i := 113) rfl)) rfl
theorem ks_MM_place0 : Cond.selects "ChanceArenaModel" ({ cls := "ChanceArenaModel", name := "place", desc := "(I)I" } : Jvm.MethodName) ({ cls := "ChanceArenaModel", name := "place", desc := "(I)I" } : Jvm.MethodName) ∈ lw_R := zR (List.mem_append_left _ (List.mem_of_getElem? (i := 92) rfl)) rfl
theorem ks_MM_push : Cond.selects "ChanceArenaModel" ({ cls := "ChanceArenaModel", name := "push", desc := "(JJ)V" } : Jvm.MethodName) ({ cls := "ChanceArenaModel", name := "push", desc := "(JJ)V" } : Jvm.MethodName) ∈ lw_R := zR (List.mem_append_left _ (List.mem_of_getElem? (i := 119) rfl)) rfl
theorem ks_MM_pushFraction : Cond.selects "ChanceArenaModel" ({ cls := "ChanceArenaModel", name := "pushFraction", desc := "(JJI)V" } : Jvm.MethodName) ({ cls := "ChanceArenaModel", name := "pushFraction", desc := "(JJI)V" } : Jvm.MethodName) ∈ lw_R := zR (List.mem_append_left _ (List.mem_of_getElem? (i := 126) rfl)) rfl
theorem ks_MM_pushTruth : Cond.selects "ChanceArenaModel" ({ cls := "ChanceArenaModel", name := "pushTruth", desc := "(Z)V" } : Jvm.MethodName) ({ cls := "ChanceArenaModel", name := "pushTruth", desc := "(Z)V" } : Jvm.MethodName) ∈ lw_R := zR (List.mem_append_left _ (List.mem_of_getElem? (i := 120) rfl)) rfl
theorem ks_MM_reach : Cond.selects "ChanceArenaModel" ({ cls := "ChanceArenaModel", name := "reach", desc := "(I)V" } : Jvm.MethodName) ({ cls := "ChanceArenaModel", name := "reach", desc := "(I)V" } : Jvm.MethodName) ∈ lw_R := zR (List.mem_append_left _ (List.mem_of_getElem? (i := 140) rfl)) rfl
theorem ks_MM_readText : Cond.selects "ChanceArenaModel" ({ cls := "ChanceArenaModel", name := "readText", desc := "()Z" } : Jvm.MethodName) ({ cls := "ChanceArenaModel", name := "readText", desc := "()Z" } : Jvm.MethodName) ∈ lw_R := zR (List.mem_append_left _ (List.mem_of_getElem? (i := 82) rfl)) rfl
theorem ks_MM_reckon : Cond.selects "ChanceArenaModel" ({ cls := "ChanceArenaModel", name := "reckon", desc := "(IJJJJI)V" } : Jvm.MethodName) ({ cls := "ChanceArenaModel", name := "reckon", desc := "(IJJJJI)V" } : Jvm.MethodName) ∈ lw_R := zR (List.mem_append_left _ (List.mem_of_getElem? (i := 125) rfl)) rfl
theorem ks_MM_rule0 : Cond.selects "ChanceArenaModel" ({ cls := "ChanceArenaModel", name := "rule", desc := "(II)I" } : Jvm.MethodName) ({ cls := "ChanceArenaModel", name := "rule", desc := "(II)I" } : Jvm.MethodName) ∈ lw_R := zR (List.mem_append_left _ (List.mem_of_getElem? (i := 89) rfl)) rfl
theorem ks_MM_rule1 : Cond.selects "ChanceArenaModel" ({ cls := "ChanceArenaModel", name := "rule", desc := "(IIZZ)I" } : Jvm.MethodName) ({ cls := "ChanceArenaModel", name := "rule", desc := "(IIZZ)I" } : Jvm.MethodName) ∈ lw_R := zR (List.mem_append_left _ (List.mem_of_getElem? (i := 131) rfl)) rfl
theorem ks_MM_ruleItem : Cond.selects "ChanceArenaModel" ({ cls := "ChanceArenaModel", name := "ruleItem", desc := "(II)V" } : Jvm.MethodName) ({ cls := "ChanceArenaModel", name := "ruleItem", desc := "(II)V" } : Jvm.MethodName) ∈ lw_R := zR (List.mem_append_left _ (List.mem_of_getElem? (i := 96) rfl)) rfl
theorem ks_MM_sameWord : Cond.selects "ChanceArenaModel" ({ cls := "ChanceArenaModel", name := "sameWord", desc := "(II)Z" } : Jvm.MethodName) ({ cls := "ChanceArenaModel", name := "sameWord", desc := "(II)Z" } : Jvm.MethodName) ∈ lw_R := zR (List.mem_append_left _ (List.mem_of_getElem? (i := 99) rfl)) rfl
theorem ks_MM_set0 : Cond.selects "ChanceArenaModel" ({ cls := "ChanceArenaModel", name := "set", desc := "(I)I" } : Jvm.MethodName) ({ cls := "ChanceArenaModel", name := "set", desc := "(I)I" } : Jvm.MethodName) ∈ lw_R := zR (List.mem_append_left _ (List.mem_of_getElem? (i := 87) rfl)) rfl
theorem ks_MM_set1 : Cond.selects "ChanceArenaModel" ({ cls := "ChanceArenaModel", name := "set", desc := "(III)V" } : Jvm.MethodName) ({ cls := "ChanceArenaModel", name := "set", desc := "(III)V" } : Jvm.MethodName) ∈ lw_R := zR (List.mem_append_left _ (List.mem_of_getElem? (i := 144) rfl)) rfl
theorem ks_MM_setItem : Cond.selects "ChanceArenaModel" ({ cls := "ChanceArenaModel", name := "setItem", desc := "(II)I" } : Jvm.MethodName) ({ cls := "ChanceArenaModel", name := "setItem", desc := "(II)I" } : Jvm.MethodName) ∈ lw_R := zR (List.mem_append_left _ (List.mem_of_getElem? (i := 136) rfl)) rfl
theorem ks_MM_sign : Cond.selects "ChanceArenaModel" ({ cls := "ChanceArenaModel", name := "sign", desc := "(I)I" } : Jvm.MethodName) ({ cls := "ChanceArenaModel", name := "sign", desc := "(I)I" } : Jvm.MethodName) ∈ lw_R := zR (List.mem_append_left _ (List.mem_of_getElem? (i := 91) rfl)) rfl
theorem ks_MM_signKind : Cond.selects "ChanceArenaModel" ({ cls := "ChanceArenaModel", name := "signKind", desc := "(I)I" } : Jvm.MethodName) ({ cls := "ChanceArenaModel", name := "signKind", desc := "(I)I" } : Jvm.MethodName) ∈ lw_R := zR (List.mem_append_left _ (List.mem_of_getElem? (i := 80) rfl)) rfl
theorem ks_MM_skip : Cond.selects "ChanceArenaModel" ({ cls := "ChanceArenaModel", name := "skip", desc := "(I)I" } : Jvm.MethodName) ({ cls := "ChanceArenaModel", name := "skip", desc := "(I)I" } : Jvm.MethodName) ∈ lw_R := zR (List.mem_append_left _ (List.mem_of_getElem? (i := 76) rfl)) rfl
theorem ks_MM_state0 : Cond.selects "ChanceArenaModel" ({ cls := "ChanceArenaModel", name := "state", desc := "(I)V" } : Jvm.MethodName) ({ cls := "ChanceArenaModel", name := "state", desc := "(I)V" } : Jvm.MethodName) ∈ lw_R := zR (List.mem_append_left _ (List.mem_of_getElem? (i := 138) rfl)) rfl
theorem ks_MM_stateOf : Cond.selects "ChanceArenaModel" ({ cls := "ChanceArenaModel", name := "stateOf", desc := "()I" } : Jvm.MethodName) ({ cls := "ChanceArenaModel", name := "stateOf", desc := "()I" } : Jvm.MethodName) ∈ lw_R := zR (List.mem_append_left _ (List.mem_of_getElem? (i := 145) rfl)) rfl
theorem ks_MM_stop : Cond.selects "ChanceArenaModel" ({ cls := "ChanceArenaModel", name := "stop", desc := "(II)V" } : Jvm.MethodName) ({ cls := "ChanceArenaModel", name := "stop", desc := "(II)V" } : Jvm.MethodName) ∈ lw_R := zR (List.mem_append_left _ (List.mem_of_getElem? (i := 97) rfl)) rfl
theorem ks_MM_tellState : Cond.selects "ChanceArenaModel" ({ cls := "ChanceArenaModel", name := "tellState", desc := "(I)V" } : Jvm.MethodName) ({ cls := "ChanceArenaModel", name := "tellState", desc := "(I)V" } : Jvm.MethodName) ∈ lw_R := zR (List.mem_append_left _ (List.mem_of_getElem? (i := 147) rfl)) rfl
theorem ks_MM_todo : Cond.selects "ChanceArenaModel" ({ cls := "ChanceArenaModel", name := "todo", desc := "(II)V" } : Jvm.MethodName) ({ cls := "ChanceArenaModel", name := "todo", desc := "(II)V" } : Jvm.MethodName) ∈ lw_R := zR (List.mem_append_left _ (List.mem_of_getElem? (i := 117) rfl)) rfl
theorem ks_MM_tree : Cond.selects "ChanceArenaModel" ({ cls := "ChanceArenaModel", name := "tree", desc := "(II)I" } : Jvm.MethodName) ({ cls := "ChanceArenaModel", name := "tree", desc := "(II)I" } : Jvm.MethodName) ∈ lw_R := zR (List.mem_append_left _ (List.mem_of_getElem? (i := 100) rfl)) rfl
theorem ks_MM_turn : Cond.selects "ChanceArenaModel" ({ cls := "ChanceArenaModel", name := "turn", desc := "(I)V" } : Jvm.MethodName) ({ cls := "ChanceArenaModel", name := "turn", desc := "(I)V" } : Jvm.MethodName) ∈ lw_R := zR (List.mem_append_left _ (List.mem_of_getElem? (i := 115) rfl)) rfl
theorem ks_MM_turnTodo : Cond.selects "ChanceArenaModel" ({ cls := "ChanceArenaModel", name := "turnTodo", desc := "(I)V" } : Jvm.MethodName) ({ cls := "ChanceArenaModel", name := "turnTodo", desc := "(I)V" } : Jvm.MethodName) ∈ lw_R := zR (List.mem_append_left _ (List.mem_of_getElem? (i := 122) rfl)) rfl
theorem ks_MM_until : Cond.selects "ChanceArenaModel" ({ cls := "ChanceArenaModel", name := "until", desc := "(II)I" } : Jvm.MethodName) ({ cls := "ChanceArenaModel", name := "until", desc := "(II)I" } : Jvm.MethodName) ∈ lw_R := zR (List.mem_append_left _ (List.mem_of_getElem? (i := 95) rfl)) rfl
theorem ks_MM_varItem : Cond.selects "ChanceArenaModel" ({ cls := "ChanceArenaModel", name := "varItem", desc := "(II)V" } : Jvm.MethodName) ({ cls := "ChanceArenaModel", name := "varItem", desc := "(II)V" } : Jvm.MethodName) ∈ lw_R := zR (List.mem_append_left _ (List.mem_of_getElem? (i := 129) rfl)) rfl
theorem ks_MM_want : Cond.selects "ChanceArenaModel" ({ cls := "ChanceArenaModel", name := "want", desc := "(III)V" } : Jvm.MethodName) ({ cls := "ChanceArenaModel", name := "want", desc := "(III)V" } : Jvm.MethodName) ∈ lw_R := zR (List.mem_append_left _ (List.mem_of_getElem? (i := 85) rfl)) rfl
theorem ks_MM_way : Cond.selects "ChanceArenaModel" ({ cls := "ChanceArenaModel", name := "way", desc := "(III)V" } : Jvm.MethodName) ({ cls := "ChanceArenaModel", name := "way", desc := "(III)V" } : Jvm.MethodName) ∈ lw_R := zR (List.mem_append_left _ (List.mem_of_getElem? (i := 143) rfl)) rfl
theorem ks_MM_wholeOf : Cond.selects "ChanceArenaModel" ({ cls := "ChanceArenaModel", name := "wholeOf", desc := "(II)I" } : Jvm.MethodName) ({ cls := "ChanceArenaModel", name := "wholeOf", desc := "(II)I" } : Jvm.MethodName) ∈ lw_R := zR (List.mem_append_left _ (List.mem_of_getElem? (i := 132) rfl)) rfl
theorem ks_MM_word0 : Cond.selects "ChanceArenaModel" ({ cls := "ChanceArenaModel", name := "word", desc := "(III)V" } : Jvm.MethodName) ({ cls := "ChanceArenaModel", name := "word", desc := "(III)V" } : Jvm.MethodName) ∈ lw_R := zR (List.mem_append_left _ (List.mem_of_getElem? (i := 81) rfl)) rfl
theorem ks_MM_word1 : Cond.selects "ChanceArenaModel" ({ cls := "ChanceArenaModel", name := "word", desc := "(I)I" } : Jvm.MethodName) ({ cls := "ChanceArenaModel", name := "word", desc := "(I)I" } : Jvm.MethodName) ∈ lw_R := zR (List.mem_append_left _ (List.mem_of_getElem? (i := 94) rfl)) rfl
theorem ks_MM_wordKind : Cond.selects "ChanceArenaModel" ({ cls := "ChanceArenaModel", name := "wordKind", desc := "(II)I" } : Jvm.MethodName) ({ cls := "ChanceArenaModel", name := "wordKind", desc := "(II)I" } : Jvm.MethodName) ∈ lw_R := zR (List.mem_append_left _ (List.mem_of_getElem? (i := 78) rfl)) rfl
theorem ks_MM_workOut : Cond.selects "ChanceArenaModel" ({ cls := "ChanceArenaModel", name := "workOut", desc := "(LChanceArenaModel$Game;I)V" } : Jvm.MethodName) ({ cls := "ChanceArenaModel", name := "workOut", desc := "(LChanceArenaModel$Game;I)V" } : Jvm.MethodName) ∈ lw_R := zR (List.mem_append_left _ (List.mem_of_getElem? (i := 116) rfl)) rfl
theorem ks_MS_answer : Cond.selects "ChanceArenaModel$Solver" ({ cls := "ChanceArenaModel$Solver", name := "answer", desc := "()V" } : Jvm.MethodName) ({ cls := "ChanceArenaModel$Solver", name := "answer", desc := "()V" } : Jvm.MethodName) ∈ lw_R := zR (List.mem_append_left _ (List.mem_of_getElem? (i := 158) rfl)) rfl
theorem ks_MS_attains : Cond.selects "ChanceArenaModel$Solver" ({ cls := "ChanceArenaModel$Solver", name := "attains", desc := "(II)Z" } : Jvm.MethodName) ({ cls := "ChanceArenaModel$Solver", name := "attains", desc := "(II)Z" } : Jvm.MethodName) ∈ lw_R := zR (List.mem_append_left _ (List.mem_of_getElem? (i := 174) rfl)) rfl
theorem ks_MS_cell : Cond.selects "ChanceArenaModel$Solver" ({ cls := "ChanceArenaModel$Solver", name := "cell", desc := "(II)LChanceArenaModel$Fraction;" } : Jvm.MethodName) ({ cls := "ChanceArenaModel$Solver", name := "cell", desc := "(II)LChanceArenaModel$Fraction;" } : Jvm.MethodName) ∈ lw_R := zR (List.mem_append_left _ (List.mem_of_getElem? (i := 161) rfl)) rfl
theorem ks_MS_choose : Cond.selects "ChanceArenaModel$Solver" ({ cls := "ChanceArenaModel$Solver", name := "choose", desc := "(I)I" } : Jvm.MethodName) ({ cls := "ChanceArenaModel$Solver", name := "choose", desc := "(I)I" } : Jvm.MethodName) ∈ lw_R := zR (List.mem_append_left _ (List.mem_of_getElem? (i := 176) rfl)) rfl
theorem ks_MS_clearColumn : Cond.selects "ChanceArenaModel$Solver" ({ cls := "ChanceArenaModel$Solver", name := "clearColumn", desc := "(II)V" } : Jvm.MethodName) ({ cls := "ChanceArenaModel$Solver", name := "clearColumn", desc := "(II)V" } : Jvm.MethodName) ∈ lw_R := zR (List.mem_append_left _ (List.mem_of_getElem? (i := 168) rfl)) rfl
theorem ks_MS_comes : Cond.selects "ChanceArenaModel$Solver" ({ cls := "ChanceArenaModel$Solver", name := "comes", desc := "(IZ)Z" } : Jvm.MethodName) ({ cls := "ChanceArenaModel$Solver", name := "comes", desc := "(IZ)Z" } : Jvm.MethodName) ∈ lw_R := zR (List.mem_append_left _ (List.mem_of_getElem? (i := 153) rfl)) rfl
theorem ks_MS_firstThatMay : Cond.selects "ChanceArenaModel$Solver" ({ cls := "ChanceArenaModel$Solver", name := "firstThatMay", desc := "(I)I" } : Jvm.MethodName) ({ cls := "ChanceArenaModel$Solver", name := "firstThatMay", desc := "(I)I" } : Jvm.MethodName) ∈ lw_R := zR (List.mem_append_left _ (List.mem_of_getElem? (i := 157) rfl)) rfl
theorem ks_MS_getsRank : Cond.selects "ChanceArenaModel$Solver" ({ cls := "ChanceArenaModel$Solver", name := "getsRank", desc := "(II)Z" } : Jvm.MethodName) ({ cls := "ChanceArenaModel$Solver", name := "getsRank", desc := "(II)Z" } : Jvm.MethodName) ∈ lw_R := zR (List.mem_append_left _ (List.mem_of_getElem? (i := 173) rfl)) rfl
theorem ks_MS_grow : Cond.selects "ChanceArenaModel$Solver" ({ cls := "ChanceArenaModel$Solver", name := "grow", desc := "(Z)V" } : Jvm.MethodName) ({ cls := "ChanceArenaModel$Solver", name := "grow", desc := "(Z)V" } : Jvm.MethodName) ∈ lw_R := zR (List.mem_append_left _ (List.mem_of_getElem? (i := 152) rfl)) rfl
theorem ks_MS_improve : Cond.selects "ChanceArenaModel$Solver" ({ cls := "ChanceArenaModel$Solver", name := "improve", desc := "(II)Z" } : Jvm.MethodName) ({ cls := "ChanceArenaModel$Solver", name := "improve", desc := "(II)Z" } : Jvm.MethodName) ∈ lw_R := zR (List.mem_append_left _ (List.mem_of_getElem? (i := 169) rfl)) rfl
theorem ks_MS_isUnknown : Cond.selects "ChanceArenaModel$Solver" ({ cls := "ChanceArenaModel$Solver", name := "isUnknown", desc := "(I)Z" } : Jvm.MethodName) ({ cls := "ChanceArenaModel$Solver", name := "isUnknown", desc := "(I)Z" } : Jvm.MethodName) ∈ lw_R := zR (List.mem_append_left _ (List.mem_of_getElem? (i := 172) rfl)) rfl
theorem ks_MS_leadsBelow : Cond.selects "ChanceArenaModel$Solver" ({ cls := "ChanceArenaModel$Solver", name := "leadsBelow", desc := "(III)Z" } : Jvm.MethodName) ({ cls := "ChanceArenaModel$Solver", name := "leadsBelow", desc := "(III)Z" } : Jvm.MethodName) ∈ lw_R := zR (List.mem_append_left _ (List.mem_of_getElem? (i := 175) rfl)) rfl
theorem ks_MS_leadsIn : Cond.selects "ChanceArenaModel$Solver" ({ cls := "ChanceArenaModel$Solver", name := "leadsIn", desc := "(II)Z" } : Jvm.MethodName) ({ cls := "ChanceArenaModel$Solver", name := "leadsIn", desc := "(II)Z" } : Jvm.MethodName) ∈ lw_R := zR (List.mem_append_left _ (List.mem_of_getElem? (i := 156) rfl)) rfl
theorem ks_MS_look : Cond.selects "ChanceArenaModel$Solver" ({ cls := "ChanceArenaModel$Solver", name := "look", desc := "()I" } : Jvm.MethodName) ({ cls := "ChanceArenaModel$Solver", name := "look", desc := "()I" } : Jvm.MethodName) ∈ lw_R := zR (List.mem_append_left _ (List.mem_of_getElem? (i := 151) rfl)) rfl
theorem ks_MS_many : Cond.selects "ChanceArenaModel$Solver" ({ cls := "ChanceArenaModel$Solver", name := "many", desc := "(I)I" } : Jvm.MethodName) ({ cls := "ChanceArenaModel$Solver", name := "many", desc := "(I)I" } : Jvm.MethodName) ∈ lw_R := zR (List.mem_append_left _ (List.mem_of_getElem? (i := 154) rfl)) rfl
theorem ks_MS_may : Cond.selects "ChanceArenaModel$Solver" ({ cls := "ChanceArenaModel$Solver", name := "may", desc := "(II)Z" } : Jvm.MethodName) ({ cls := "ChanceArenaModel$Solver", name := "may", desc := "(II)Z" } : Jvm.MethodName) ∈ lw_R := zR (List.mem_append_left _ (List.mem_of_getElem? (i := 155) rfl)) rfl
theorem ks_MS_move : Cond.selects "ChanceArenaModel$Solver" ({ cls := "ChanceArenaModel$Solver", name := "move", desc := "(I)Z" } : Jvm.MethodName) ({ cls := "ChanceArenaModel$Solver", name := "move", desc := "(I)Z" } : Jvm.MethodName) ∈ lw_R := zR (List.mem_append_left _ (List.mem_of_getElem? (i := 177) rfl)) rfl
theorem ks_MS_rank : Cond.selects "ChanceArenaModel$Solver" ({ cls := "ChanceArenaModel$Solver", name := "rank", desc := "()V" } : Jvm.MethodName) ({ cls := "ChanceArenaModel$Solver", name := "rank", desc := "()V" } : Jvm.MethodName) ∈ lw_R := zR (List.mem_append_left _ (List.mem_of_getElem? (i := 171) rfl)) rfl
theorem ks_MS_say : Cond.selects "ChanceArenaModel$Solver" ({ cls := "ChanceArenaModel$Solver", name := "say", desc := "(LChanceArenaModel$Whole;[II)I" } : Jvm.MethodName) ({ cls := "ChanceArenaModel$Solver", name := "say", desc := "(LChanceArenaModel$Whole;[II)I" } : Jvm.MethodName) ∈ lw_R := zR (List.mem_append_left _ (List.mem_of_getElem? (i := 178) rfl)) rfl
theorem ks_MS_settle : Cond.selects "ChanceArenaModel$Solver" ({ cls := "ChanceArenaModel$Solver", name := "settle", desc := "()V" } : Jvm.MethodName) ({ cls := "ChanceArenaModel$Solver", name := "settle", desc := "()V" } : Jvm.MethodName) ∈ lw_R := zR (List.mem_append_left _ (List.mem_of_getElem? (i := 159) rfl)) rfl
theorem ks_MS_solveRows : Cond.selects "ChanceArenaModel$Solver" ({ cls := "ChanceArenaModel$Solver", name := "solveRows", desc := "()V" } : Jvm.MethodName) ({ cls := "ChanceArenaModel$Solver", name := "solveRows", desc := "()V" } : Jvm.MethodName) ∈ lw_R := zR (List.mem_append_left _ (List.mem_of_getElem? (i := 167) rfl)) rfl
theorem ks_MS_work : Cond.selects "ChanceArenaModel$Solver" ({ cls := "ChanceArenaModel$Solver", name := "work", desc := "(II)I" } : Jvm.MethodName) ({ cls := "ChanceArenaModel$Solver", name := "work", desc := "(II)I" } : Jvm.MethodName) ∈ lw_R := zR (List.mem_append_left _ (List.mem_of_getElem? (i := 150) rfl)) rfl
theorem ks_MS_worthOf : Cond.selects "ChanceArenaModel$Solver" ({ cls := "ChanceArenaModel$Solver", name := "worthOf", desc := "(II[LChanceArenaModel$Fraction;II)V" } : Jvm.MethodName) ({ cls := "ChanceArenaModel$Solver", name := "worthOf", desc := "(II[LChanceArenaModel$Fraction;II)V" } : Jvm.MethodName) ∈ lw_R := zR (List.mem_append_left _ (List.mem_of_getElem? (i := 170) rfl)) rfl
theorem ks_MS_writeRows : Cond.selects "ChanceArenaModel$Solver" ({ cls := "ChanceArenaModel$Solver", name := "writeRows", desc := "()V" } : Jvm.MethodName) ({ cls := "ChanceArenaModel$Solver", name := "writeRows", desc := "()V" } : Jvm.MethodName) ∈ lw_R := zR (List.mem_append_left _ (List.mem_of_getElem? (i := 160) rfl)) rfl
theorem ks_MU_common : Cond.selects "ChanceArenaModel$Sums" ({ cls := "ChanceArenaModel$Sums", name := "common", desc := "()V" } : Jvm.MethodName) ({ cls := "ChanceArenaModel$Sums", name := "common", desc := "()V" } : Jvm.MethodName) ∈ lw_R := zR (List.mem_append_left _ (List.mem_of_getElem? (i := 165) rfl)) rfl
theorem ks_MU_divide0 : Cond.selects "ChanceArenaModel$Sums" ({ cls := "ChanceArenaModel$Sums", name := "divide", desc := "(LChanceArenaModel$Whole;LChanceArenaModel$Whole;)V" } : Jvm.MethodName) ({ cls := "ChanceArenaModel$Sums", name := "divide", desc := "(LChanceArenaModel$Whole;LChanceArenaModel$Whole;)V" } : Jvm.MethodName) ∈ lw_R := zR (List.mem_append_left _ (List.mem_of_getElem? (i := 166) rfl)) rfl
theorem ks_MU_settle : Cond.selects "ChanceArenaModel$Sums" ({ cls := "ChanceArenaModel$Sums", name := "settle", desc := "()V" } : Jvm.MethodName) ({ cls := "ChanceArenaModel$Sums", name := "settle", desc := "()V" } : Jvm.MethodName) ∈ lw_R := zR (List.mem_append_left _ (List.mem_of_getElem? (i := 164) rfl)) rfl
theorem ks_MW_at : Cond.selects "ChanceArenaModel$Whole" ({ cls := "ChanceArenaModel$Whole", name := "at", desc := "(I)I" } : Jvm.MethodName) ({ cls := "ChanceArenaModel$Whole", name := "at", desc := "(I)I" } : Jvm.MethodName) ∈ lw_R := zR (List.mem_append_left _ (List.mem_of_getElem? (i := 163) rfl)) rfl
theorem ks_MW_trim : Cond.selects "ChanceArenaModel$Whole" ({ cls := "ChanceArenaModel$Whole", name := "trim", desc := "()V" } : Jvm.MethodName) ({ cls := "ChanceArenaModel$Whole", name := "trim", desc := "()V" } : Jvm.MethodName) ∈ lw_R := zR (List.mem_append_left _ (List.mem_of_getElem? (i := 162) rfl)) rfl
theorem ks_Ma_comeBack : Cond.selects "ChanceArena$Machine" ({ cls := "ChanceArena$Machine", name := "comeBack", desc := "()I" } : Jvm.MethodName) ({ cls := "ChanceArena$Machine", name := "comeBack", desc := "()I" } : Jvm.MethodName) ∈ lw_R := zR (List.mem_append_left _ (List.mem_of_getElem? (i := 34) rfl)) rfl
theorem ks_Ma_compute : Cond.selects "ChanceArena$Machine" ({ cls := "ChanceArena$Machine", name := "compute", desc := "(II)Z" } : Jvm.MethodName) ({ cls := "ChanceArena$Machine", name := "compute", desc := "(II)Z" } : Jvm.MethodName) ∈ lw_R := zR (List.mem_append_left _ (List.mem_of_getElem? (i := 35) rfl)) rfl
theorem ks_Ma_meet : Cond.selects "ChanceArena$Machine" ({ cls := "ChanceArena$Machine", name := "meet", desc := "(II)I" } : Jvm.MethodName) ({ cls := "ChanceArena$Machine", name := "meet", desc := "(II)I" } : Jvm.MethodName) ∈ lw_R := zR (List.mem_append_left _ (List.mem_of_getElem? (i := 33) rfl)) rfl
theorem ks_Ma_push : Cond.selects "ChanceArena$Machine" ({ cls := "ChanceArena$Machine", name := "push", desc := "(II)V" } : Jvm.MethodName) ({ cls := "ChanceArena$Machine", name := "push", desc := "(II)V" } : Jvm.MethodName) ∈ lw_R := zR (List.mem_append_left _ (List.mem_of_getElem? (i := 32) rfl)) rfl
theorem ks_Ma_relate : Cond.selects "ChanceArena$Machine" ({ cls := "ChanceArena$Machine", name := "relate", desc := "(II)Z" } : Jvm.MethodName) ({ cls := "ChanceArena$Machine", name := "relate", desc := "(II)Z" } : Jvm.MethodName) ∈ lw_R := zR (List.mem_append_left _ (List.mem_of_getElem? (i := 39) rfl)) rfl
theorem ks_Ma_settle : Cond.selects "ChanceArena$Machine" ({ cls := "ChanceArena$Machine", name := "settle", desc := "(JJI)Z" } : Jvm.MethodName) ({ cls := "ChanceArena$Machine", name := "settle", desc := "(JJI)Z" } : Jvm.MethodName) ∈ lw_R := zR (List.mem_append_left _ (List.mem_of_getElem? (i := 38) rfl)) rfl
theorem ks_Ma_stop : Cond.selects "ChanceArena$Machine" ({ cls := "ChanceArena$Machine", name := "stop", desc := "(II)Z" } : Jvm.MethodName) ({ cls := "ChanceArena$Machine", name := "stop", desc := "(II)Z" } : Jvm.MethodName) ∈ lw_R := zR (List.mem_append_left _ (List.mem_of_getElem? (i := 37) rfl)) rfl
theorem ks_Ma_store : Cond.selects "ChanceArena$Machine" ({ cls := "ChanceArena$Machine", name := "store", desc := "(II)Z" } : Jvm.MethodName) ({ cls := "ChanceArena$Machine", name := "store", desc := "(II)Z" } : Jvm.MethodName) ∈ lw_R := zR (List.mem_append_left _ (List.mem_of_getElem? (i := 36) rfl)) rfl
theorem ks_Na_takeMultiple : Cond.selects "ChanceArena$Natural" ({ cls := "ChanceArena$Natural", name := "takeMultiple", desc := "(LChanceArena$Natural;I)I" } : Jvm.MethodName) ({ cls := "ChanceArena$Natural", name := "takeMultiple", desc := "(LChanceArena$Natural;I)I" } : Jvm.MethodName) ∈ lw_R := zR (List.mem_append_left _ (List.mem_of_getElem? (i := 47) rfl)) rfl
theorem ks_Na_trim : Cond.selects "ChanceArena$Natural" ({ cls := "ChanceArena$Natural", name := "trim", desc := "(I)V" } : Jvm.MethodName) ({ cls := "ChanceArena$Natural", name := "trim", desc := "(I)V" } : Jvm.MethodName) ∈ lw_R := zR (List.mem_append_left _ (List.mem_of_getElem? (i := 44) rfl)) rfl
theorem ks_RR_closeInner : Cond.selects "ChanceArena$RuleReader" ({ cls := "ChanceArena$RuleReader", name := "closeInner", desc := "(II)I" } : Jvm.MethodName) ({ cls := "ChanceArena$RuleReader", name := "closeInner", desc := "(II)I" } : Jvm.MethodName) ∈ lw_R := zR (List.mem_append_left _ (List.mem_of_getElem? (i := 24) rfl)) rfl
theorem ks_RR_group : Cond.selects "ChanceArena$RuleReader" ({ cls := "ChanceArena$RuleReader", name := "group", desc := "()V" } : Jvm.MethodName) ({ cls := "ChanceArena$RuleReader", name := "group", desc := "()V" } : Jvm.MethodName) ∈ lw_R := zR (List.mem_append_left _ (List.mem_of_getElem? (i := 20) rfl)) rfl
theorem ks_RR_mayDeny : Cond.selects "ChanceArena$RuleReader" ({ cls := "ChanceArena$RuleReader", name := "mayDeny", desc := "()Z" } : Jvm.MethodName) ({ cls := "ChanceArena$RuleReader", name := "mayDeny", desc := "()Z" } : Jvm.MethodName) ∈ lw_R := zR (List.mem_append_left _ (List.mem_of_getElem? (i := 18) rfl)) rfl
theorem ks_RR_popKind : Cond.selects "ChanceArena$RuleReader" ({ cls := "ChanceArena$RuleReader", name := "popKind", desc := "()Z" } : Jvm.MethodName) ({ cls := "ChanceArena$RuleReader", name := "popKind", desc := "()Z" } : Jvm.MethodName) ∈ lw_R := zR (List.mem_append_left _ (List.mem_of_getElem? (i := 21) rfl)) rfl
theorem ks_RR_push : Cond.selects "ChanceArena$RuleReader" ({ cls := "ChanceArena$RuleReader", name := "push", desc := "(III)V" } : Jvm.MethodName) ({ cls := "ChanceArena$RuleReader", name := "push", desc := "(III)V" } : Jvm.MethodName) ∈ lw_R := zR (List.mem_append_left _ (List.mem_of_getElem? (i := 17) rfl)) rfl
theorem ks_RR_pushKind : Cond.selects "ChanceArena$RuleReader" ({ cls := "ChanceArena$RuleReader", name := "pushKind", desc := "(Z)V" } : Jvm.MethodName) ({ cls := "ChanceArena$RuleReader", name := "pushKind", desc := "(Z)V" } : Jvm.MethodName) ∈ lw_R := zR (List.mem_append_left _ (List.mem_of_getElem? (i := 15) rfl)) rfl
theorem ks_RR_takeAsk : Cond.selects "ChanceArena$RuleReader" ({ cls := "ChanceArena$RuleReader", name := "takeAsk", desc := "()I" } : Jvm.MethodName) ({ cls := "ChanceArena$RuleReader", name := "takeAsk", desc := "()I" } : Jvm.MethodName) ∈ lw_R := zR (List.mem_append_left _ (List.mem_of_getElem? (i := 23) rfl)) rfl
theorem ks_RR_takeLevel : Cond.selects "ChanceArena$RuleReader" ({ cls := "ChanceArena$RuleReader", name := "takeLevel", desc := "(II)I" } : Jvm.MethodName) ({ cls := "ChanceArena$RuleReader", name := "takeLevel", desc := "(II)I" } : Jvm.MethodName) ∈ lw_R := zR (List.mem_append_left _ (List.mem_of_getElem? (i := 16) rfl)) rfl
theorem ks_RR_takeOperand : Cond.selects "ChanceArena$RuleReader" ({ cls := "ChanceArena$RuleReader", name := "takeOperand", desc := "()I" } : Jvm.MethodName) ({ cls := "ChanceArena$RuleReader", name := "takeOperand", desc := "()I" } : Jvm.MethodName) ∈ lw_R := zR (List.mem_append_left _ (List.mem_of_getElem? (i := 13) rfl)) rfl
theorem ks_RR_takeOperator : Cond.selects "ChanceArena$RuleReader" ({ cls := "ChanceArena$RuleReader", name := "takeOperator", desc := "(Z)I" } : Jvm.MethodName) ({ cls := "ChanceArena$RuleReader", name := "takeOperator", desc := "(Z)I" } : Jvm.MethodName) ∈ lw_R := zR (List.mem_append_left _ (List.mem_of_getElem? (i := 19) rfl)) rfl
theorem ks_RR_takeSign : Cond.selects "ChanceArena$RuleReader" ({ cls := "ChanceArena$RuleReader", name := "takeSign", desc := "(II)I" } : Jvm.MethodName) ({ cls := "ChanceArena$RuleReader", name := "takeSign", desc := "(II)I" } : Jvm.MethodName) ∈ lw_R := zR (List.mem_append_left _ (List.mem_of_getElem? (i := 22) rfl)) rfl
theorem ks_RR_takeValue : Cond.selects "ChanceArena$RuleReader" ({ cls := "ChanceArena$RuleReader", name := "takeValue", desc := "(IIZ)I" } : Jvm.MethodName) ({ cls := "ChanceArena$RuleReader", name := "takeValue", desc := "(IIZ)I" } : Jvm.MethodName) ∈ lw_R := zR (List.mem_append_left _ (List.mem_of_getElem? (i := 14) rfl)) rfl
theorem ks_Re_clearBelow : Cond.selects "ChanceArena$Residues" ({ cls := "ChanceArena$Residues", name := "clearBelow", desc := "(III)V" } : Jvm.MethodName) ({ cls := "ChanceArena$Residues", name := "clearBelow", desc := "(III)V" } : Jvm.MethodName) ∈ lw_R := zR (List.mem_append_left _ (List.mem_of_getElem? (i := 69) rfl)) rfl
theorem ks_Re_combine : Cond.selects "ChanceArena$Residues" ({ cls := "ChanceArena$Residues", name := "combine", desc := "(II)V" } : Jvm.MethodName) ({ cls := "ChanceArena$Residues", name := "combine", desc := "(II)V" } : Jvm.MethodName) ∈ lw_R := zR (List.mem_append_left _ (List.mem_of_getElem? (i := 71) rfl)) rfl
theorem ks_Re_eliminate : Cond.selects "ChanceArena$Residues" ({ cls := "ChanceArena$Residues", name := "eliminate", desc := "(II)Z" } : Jvm.MethodName) ({ cls := "ChanceArena$Residues", name := "eliminate", desc := "(II)Z" } : Jvm.MethodName) ∈ lw_R := zR (List.mem_append_left _ (List.mem_of_getElem? (i := 67) rfl)) rfl
theorem ks_Re_substitute : Cond.selects "ChanceArena$Residues" ({ cls := "ChanceArena$Residues", name := "substitute", desc := "(II)V" } : Jvm.MethodName) ({ cls := "ChanceArena$Residues", name := "substitute", desc := "(II)V" } : Jvm.MethodName) ∈ lw_R := zR (List.mem_append_left _ (List.mem_of_getElem? (i := 70) rfl)) rfl
theorem ks_Re_swapRows : Cond.selects "ChanceArena$Residues" ({ cls := "ChanceArena$Residues", name := "swapRows", desc := "(II)V" } : Jvm.MethodName) ({ cls := "ChanceArena$Residues", name := "swapRows", desc := "(II)V" } : Jvm.MethodName) ∈ lw_R := zR (List.mem_append_left _ (List.mem_of_getElem? (i := 68) rfl)) rfl
theorem ks_Sc_commonDivisor : Cond.selects "ChanceArena$Scales" ({ cls := "ChanceArena$Scales", name := "commonDivisor", desc := "(LChanceArena$Natural;LChanceArena$Natural;)LChanceArena$Natural;" } : Jvm.MethodName) ({ cls := "ChanceArena$Scales", name := "commonDivisor", desc := "(LChanceArena$Natural;LChanceArena$Natural;)LChanceArena$Natural;" } : Jvm.MethodName) ∈ lw_R := zR (List.mem_append_left _ (List.mem_of_getElem? (i := 43) rfl)) rfl
theorem ks_Sc_findFactors : Cond.selects "ChanceArena$Scales" ({ cls := "ChanceArena$Scales", name := "findFactors", desc := "(JJ)Z" } : Jvm.MethodName) ({ cls := "ChanceArena$Scales", name := "findFactors", desc := "(JJ)Z" } : Jvm.MethodName) ∈ lw_R := zR (List.mem_append_left _ (List.mem_of_getElem? (i := 45) rfl)) rfl
theorem ks_Sc_fits : Cond.selects "ChanceArena$Scales" ({ cls := "ChanceArena$Scales", name := "fits", desc := "(LChanceArena$Fraction;)Z" } : Jvm.MethodName) ({ cls := "ChanceArena$Scales", name := "fits", desc := "(LChanceArena$Fraction;)Z" } : Jvm.MethodName) ∈ lw_R := zR (List.mem_append_left _ (List.mem_of_getElem? (i := 73) rfl)) rfl
theorem ks_So_attain : Cond.selects "ChanceArena$Solver" ({ cls := "ChanceArena$Solver", name := "attain", desc := "(LChanceArena$Fractions;)Z" } : Jvm.MethodName) ({ cls := "ChanceArena$Solver", name := "attain", desc := "(LChanceArena$Fractions;)Z" } : Jvm.MethodName) ∈ lw_R := zR (List.mem_append_left _ (List.mem_of_getElem? (i := 49) rfl)) rfl
theorem ks_So_comesOn : Cond.selects "ChanceArena$Solver" ({ cls := "ChanceArena$Solver", name := "comesOn", desc := "(I)Z" } : Jvm.MethodName) ({ cls := "ChanceArena$Solver", name := "comesOn", desc := "(I)Z" } : Jvm.MethodName) ∈ lw_R := zR (List.mem_append_left _ (List.mem_of_getElem? (i := 64) rfl)) rfl
theorem ks_So_earns : Cond.selects "ChanceArena$Solver" ({ cls := "ChanceArena$Solver", name := "earns", desc := "(II[I)Z" } : Jvm.MethodName) ({ cls := "ChanceArena$Solver", name := "earns", desc := "(II[I)Z" } : Jvm.MethodName) ∈ lw_R := zR (List.mem_append_left _ (List.mem_of_getElem? (i := 51) rfl)) rfl
theorem ks_So_evaluate : Cond.selects "ChanceArena$Solver" ({ cls := "ChanceArena$Solver", name := "evaluate", desc := "(LChanceArena$Fractions;)V" } : Jvm.MethodName) ({ cls := "ChanceArena$Solver", name := "evaluate", desc := "(LChanceArena$Fractions;)V" } : Jvm.MethodName) ∈ lw_R := zR (List.mem_append_left _ (List.mem_of_getElem? (i := 66) rfl)) rfl
theorem ks_So_fillRanks : Cond.selects "ChanceArena$Solver" ({ cls := "ChanceArena$Solver", name := "fillRanks", desc := "(LChanceArena$Fractions;[I)V" } : Jvm.MethodName) ({ cls := "ChanceArena$Solver", name := "fillRanks", desc := "(LChanceArena$Fractions;[I)V" } : Jvm.MethodName) ∈ lw_R := zR (List.mem_append_left _ (List.mem_of_getElem? (i := 50) rfl)) rfl
theorem ks_So_findUnknown : Cond.selects "ChanceArena$Solver" ({ cls := "ChanceArena$Solver", name := "findUnknown", desc := "()Z" } : Jvm.MethodName) ({ cls := "ChanceArena$Solver", name := "findUnknown", desc := "()Z" } : Jvm.MethodName) ∈ lw_R := zR (List.mem_append_left _ (List.mem_of_getElem? (i := 62) rfl)) rfl
theorem ks_So_improve : Cond.selects "ChanceArena$Solver" ({ cls := "ChanceArena$Solver", name := "improve", desc := "(ILChanceArena$Fractions;)Z" } : Jvm.MethodName) ({ cls := "ChanceArena$Solver", name := "improve", desc := "(ILChanceArena$Fractions;)Z" } : Jvm.MethodName) ∈ lw_R := zR (List.mem_append_left _ (List.mem_of_getElem? (i := 72) rfl)) rfl
theorem ks_So_leadsBelow : Cond.selects "ChanceArena$Solver" ({ cls := "ChanceArena$Solver", name := "leadsBelow", desc := "(II[I)Z" } : Jvm.MethodName) ({ cls := "ChanceArena$Solver", name := "leadsBelow", desc := "(II[I)Z" } : Jvm.MethodName) ∈ lw_R := zR (List.mem_append_left _ (List.mem_of_getElem? (i := 52) rfl)) rfl
theorem ks_So_leaveCommands : Cond.selects "ChanceArena$Solver" ({ cls := "ChanceArena$Solver", name := "leaveCommands", desc := "(I)V" } : Jvm.MethodName) ({ cls := "ChanceArena$Solver", name := "leaveCommands", desc := "(I)V" } : Jvm.MethodName) ∈ lw_R := zR (List.mem_append_left _ (List.mem_of_getElem? (i := 61) rfl)) rfl
theorem ks_So_wayFrom : Cond.selects "ChanceArena$Solver" ({ cls := "ChanceArena$Solver", name := "wayFrom", desc := "(I)I" } : Jvm.MethodName) ({ cls := "ChanceArena$Solver", name := "wayFrom", desc := "(I)I" } : Jvm.MethodName) ∈ lw_R := zR (List.mem_append_left _ (List.mem_of_getElem? (i := 63) rfl)) rfl
theorem ks_So_weights : Cond.selects "ChanceArena$Solver" ({ cls := "ChanceArena$Solver", name := "weights", desc := "()I" } : Jvm.MethodName) ({ cls := "ChanceArena$Solver", name := "weights", desc := "()I" } : Jvm.MethodName) ∈ lw_R := zR (List.mem_append_left _ (List.mem_of_getElem? (i := 65) rfl)) rfl
theorem ks_TR_readChance : Cond.selects "ChanceArena$TextReader" ({ cls := "ChanceArena$TextReader", name := "readChance", desc := "(I)Z" } : Jvm.MethodName) ({ cls := "ChanceArena$TextReader", name := "readChance", desc := "(I)Z" } : Jvm.MethodName) ∈ lw_R := zR (List.mem_append_left _ (List.mem_of_getElem? (i := 27) rfl)) rfl
theorem ks_TR_readCommand : Cond.selects "ChanceArena$TextReader" ({ cls := "ChanceArena$TextReader", name := "readCommand", desc := "(I)Z" } : Jvm.MethodName) ({ cls := "ChanceArena$TextReader", name := "readCommand", desc := "(I)Z" } : Jvm.MethodName) ∈ lw_R := zR (List.mem_append_left _ (List.mem_of_getElem? (i := 26) rfl)) rfl
theorem ks_TR_readItemRule : Cond.selects "ChanceArena$TextReader" ({ cls := "ChanceArena$TextReader", name := "readItemRule", desc := "(II)Z" } : Jvm.MethodName) ({ cls := "ChanceArena$TextReader", name := "readItemRule", desc := "(II)Z" } : Jvm.MethodName) ∈ lw_R := zR (List.mem_append_left _ (List.mem_of_getElem? (i := 12) rfl)) rfl
theorem ks_TR_readName : Cond.selects "ChanceArena$TextReader" ({ cls := "ChanceArena$TextReader", name := "readName", desc := "(Z)Z" } : Jvm.MethodName) ({ cls := "ChanceArena$TextReader", name := "readName", desc := "(Z)Z" } : Jvm.MethodName) ∈ lw_R := zR (List.mem_append_left _ (List.mem_of_getElem? (i := 11) rfl)) rfl
theorem ks_TR_readNamed : Cond.selects "ChanceArena$TextReader" ({ cls := "ChanceArena$TextReader", name := "readNamed", desc := "(I)Z" } : Jvm.MethodName) ({ cls := "ChanceArena$TextReader", name := "readNamed", desc := "(I)Z" } : Jvm.MethodName) ∈ lw_R := zR (List.mem_append_left _ (List.mem_of_getElem? (i := 29) rfl)) rfl
theorem ks_TR_readSets : Cond.selects "ChanceArena$TextReader" ({ cls := "ChanceArena$TextReader", name := "readSets", desc := "()Z" } : Jvm.MethodName) ({ cls := "ChanceArena$TextReader", name := "readSets", desc := "()Z" } : Jvm.MethodName) ∈ lw_R := zR (List.mem_append_left _ (List.mem_of_getElem? (i := 28) rfl)) rfl
theorem ks_TR_readTarget : Cond.selects "ChanceArena$TextReader" ({ cls := "ChanceArena$TextReader", name := "readTarget", desc := "()Z" } : Jvm.MethodName) ({ cls := "ChanceArena$TextReader", name := "readTarget", desc := "()Z" } : Jvm.MethodName) ∈ lw_R := zR (List.mem_append_left _ (List.mem_of_getElem? (i := 25) rfl)) rfl
theorem ks_TR_readVar : Cond.selects "ChanceArena$TextReader" ({ cls := "ChanceArena$TextReader", name := "readVar", desc := "()Z" } : Jvm.MethodName) ({ cls := "ChanceArena$TextReader", name := "readVar", desc := "()Z" } : Jvm.MethodName) ∈ lw_R := zR (List.mem_append_left _ (List.mem_of_getElem? (i := 10) rfl)) rfl
theorem ks_TR_settleNamed : Cond.selects "ChanceArena$TextReader" ({ cls := "ChanceArena$TextReader", name := "settleNamed", desc := "(I)V" } : Jvm.MethodName) ({ cls := "ChanceArena$TextReader", name := "settleNamed", desc := "(I)V" } : Jvm.MethodName) ∈ lw_R := zR (List.mem_append_left _ (List.mem_of_getElem? (i := 40) rfl)) rfl
theorem ks_TR_settleVar : Cond.selects "ChanceArena$TextReader" ({ cls := "ChanceArena$TextReader", name := "settleVar", desc := "()V" } : Jvm.MethodName) ({ cls := "ChanceArena$TextReader", name := "settleVar", desc := "()V" } : Jvm.MethodName) ∈ lw_R := zR (List.mem_append_left _ (List.mem_of_getElem? (i := 30) rfl)) rfl
theorem ks_TR_worksOut : Cond.selects "ChanceArena$TextReader" ({ cls := "ChanceArena$TextReader", name := "worksOut", desc := "(IZ)Z" } : Jvm.MethodName) ({ cls := "ChanceArena$TextReader", name := "worksOut", desc := "(IZ)Z" } : Jvm.MethodName) ∈ lw_R := zR (List.mem_append_left _ (List.mem_of_getElem? (i := 31) rfl)) rfl
theorem ks_Wo_add : Cond.selects "ChanceArena$Words" ({ cls := "ChanceArena$Words", name := "add", desc := "(III)V" } : Jvm.MethodName) ({ cls := "ChanceArena$Words", name := "add", desc := "(III)V" } : Jvm.MethodName) ∈ lw_R := zR (List.mem_append_left _ (List.mem_of_getElem? (i := 8) rfl)) rfl
theorem ks_Wo_afterBlanks : Cond.selects "ChanceArena$Words" ({ cls := "ChanceArena$Words", name := "afterBlanks", desc := "(I)I" } : Jvm.MethodName) ({ cls := "ChanceArena$Words", name := "afterBlanks", desc := "(I)I" } : Jvm.MethodName) ∈ lw_R := zR (List.mem_append_left _ (List.mem_of_getElem? (i := 3) rfl)) rfl
theorem ks_Wo_nameSort : Cond.selects "ChanceArena$Words" ({ cls := "ChanceArena$Words", name := "nameSort", desc := "(II)I" } : Jvm.MethodName) ({ cls := "ChanceArena$Words", name := "nameSort", desc := "(II)I" } : Jvm.MethodName) ∈ lw_R := zR (List.mem_append_left _ (List.mem_of_getElem? (i := 6) rfl)) rfl
theorem ks_Wo_reserve : Cond.selects "ChanceArena$Words" ({ cls := "ChanceArena$Words", name := "reserve", desc := "(I)V" } : Jvm.MethodName) ({ cls := "ChanceArena$Words", name := "reserve", desc := "(I)V" } : Jvm.MethodName) ∈ lw_R := zR (List.mem_append_left _ (List.mem_of_getElem? (i := 2) rfl)) rfl
theorem ks_Wo_takeName : Cond.selects "ChanceArena$Words" ({ cls := "ChanceArena$Words", name := "takeName", desc := "(I)I" } : Jvm.MethodName) ({ cls := "ChanceArena$Words", name := "takeName", desc := "(I)I" } : Jvm.MethodName) ∈ lw_R := zR (List.mem_append_left _ (List.mem_of_getElem? (i := 5) rfl)) rfl
theorem ks_Wo_takeNumber : Cond.selects "ChanceArena$Words" ({ cls := "ChanceArena$Words", name := "takeNumber", desc := "(I)I" } : Jvm.MethodName) ({ cls := "ChanceArena$Words", name := "takeNumber", desc := "(I)I" } : Jvm.MethodName) ∈ lw_R := zR (List.mem_append_left _ (List.mem_of_getElem? (i := 9) rfl)) rfl
theorem ks_Wo_takeWord : Cond.selects "ChanceArena$Words" ({ cls := "ChanceArena$Words", name := "takeWord", desc := "(I)I" } : Jvm.MethodName) ({ cls := "ChanceArena$Words", name := "takeWord", desc := "(I)I" } : Jvm.MethodName) ∈ lw_R := zR (List.mem_append_left _ (List.mem_of_getElem? (i := 4) rfl)) rfl
end
section
/-! THE FLAT MACHINE'S RULES: rows of the library, switches, small rows for numbers. -/
theorem m_i32 (z : Int32) : i32 z.toInt := ⟨Int32.le_toInt z, Int32.toInt_lt z⟩
theorem m_i64 (z : Int64) : i64 z.toInt := ⟨Int64.le_toInt z, Int64.toInt_lt z⟩
theorem m_cmp32 (x z : Int) : i32 (cmpL x z) := by
  unfold cmpL i32
  split
  · omega
  · split <;> omega
theorem i64_of32 {x : Int} (h : i32 x) : i64 x := by unfold i32 at h; unfold i64; omega
theorem m_b32 {x : Int} (h : x = 0 ∨ x = 1) : i32 x := by unfold i32; omega
theorem m_nb {x : Int} (h : x = 0 ∨ x = 1) : narrow .boolean (.int (Int32.ofInt x)) = .int (Int32.ofInt x) := by rcases h with q | q <;> subst q <;> rfl
theorem m_ite32 {c : Prop} [Decidable c] {x z : Int} (hx : i32 x) (hz : i32 z) : i32 (if c then x else z) := by split <;> assumption
theorem m_tmod32 {x z : Int} (hx : i32 x) (_ : i32 z) : i32 (Int.tmod x z) := by
  have h1 := Int.natAbs_tmod x z
  have h2 := Nat.mod_le x.natAbs z.natAbs
  unfold i32 at *
  rcases Int.le_total 0 x with q | q
  · have := Int.tmod_nonneg z q
    omega
  · have : Int.tmod x z ≤ 0 := by
      have := Int.tmod_nonneg z (show 0 ≤ -x by omega)
      rw [Int.neg_tmod] at this
      omega
    omega
theorem m_tmod64 {x z : Int} (hx : i64 x) (_ : i64 z) : i64 (Int.tmod x z) := by
  have h1 := Int.natAbs_tmod x z
  have h2 := Nat.mod_le x.natAbs z.natAbs
  unfold i64 at *
  rcases Int.le_total 0 x with q | q
  · have := Int.tmod_nonneg z q
    omega
  · have : Int.tmod x z ≤ 0 := by
      have := Int.tmod_nonneg z (show 0 ≤ -x by omega)
      rw [Int.neg_tmod] at this
      omega
    omega
theorem m_tdivB {x z : Int} (hz : 0 < z) : (x.tdiv z).natAbs ≤ x.natAbs := by
  rw [Int.natAbs_tdiv]
  exact Nat.div_le_self _ _
theorem m_tdiv32 {x z : Int} (hx : i32 x) (hz : 0 < z) : i32 (Int.tdiv x z) := by
  have h1 := m_tdivB (x := x) hz
  unfold i32 at *
  rcases Int.le_total 0 x with q | q
  · have := Int.tdiv_nonneg q (Int.le_of_lt hz)
    omega
  · have : Int.tdiv x z ≤ 0 := by
      have := Int.tdiv_nonneg (show 0 ≤ -x by omega) (Int.le_of_lt hz)
      rw [Int.neg_tdiv] at this
      omega
    omega
/-- a stretch of one array into another -/
def mCpy (M : mM) (a0 a sp dp n : Nat) : mM := (mK M, mN M, fun b j => if b = a ∧ dp ≤ j ∧ j < dp + n then mI M a0 (sp + (j - dp)) else mI M b j, mL M, mR M, mZ M, mS M)
theorem mOk_Cpy {M : mM} {a0 a sp dp n : Nat} (h : mOk M) : mOk (mCpy M a0 a sp dp n) := by
  intro b j
  refine ⟨?_, (h b j).2⟩
  show i32 (if _ then _ else _)
  split
  · exact (h _ _).1
  · exact (h _ _).1
def xorL (x z : Int) : Int := (Int64.ofInt x ^^^ Int64.ofInt z).toInt
def nfw : Nat := nativeFrameWords "java/lang/System" "arraycopy" 5
theorem nfw_le : nfw + 11 ≤ 48 := by decide
section JRules
variable {G : mG} {y : mY} {d pc : Nat} {L st : List mV} {M M1 : mM} {Q : Option mV → mM → Prop}
theorem wm_iastE {a : Nat} {i x : Int} (hd : decode y.2.1 pc = .ok (.iastore, 1)) (hK : mK M a = 30) (hi : 0 ≤ i ∧ i < mN M a) (hx3 : i32 x) (e : M1 = mUI M a i.toNat x) (h : mWm G y d (pc + 1) L st M1 Q) : mWm G y d pc L (vi x :: vi i :: vr a :: st) M Q := by subst e; exact wm_iast hd hK hi hx3 h
theorem wm_zastE {a : Nat} {i x : Int} (hd : decode y.2.1 pc = .ok (.bastore, 1)) (hK : mK M a = 31) (hi : 0 ≤ i ∧ i < mN M a) (hx3 : x = 0 ∨ x = 1) (e : M1 = mUI M a i.toNat x) (h : mWm G y d (pc + 1) L st M1 Q) : mWm G y d pc L (vi x :: vi i :: vr a :: st) M Q := by subst e; exact wm_zast hd hK hi hx3 h
theorem wm_castE {a : Nat} {i x : Int} (hd : decode y.2.1 pc = .ok (.castore, 1)) (hK : mK M a = 32) (hi : 0 ≤ i ∧ i < mN M a) (hx3 : 0 ≤ x ∧ x < 65536) (e : M1 = mUI M a i.toNat x) (h : mWm G y d (pc + 1) L st M1 Q) : mWm G y d pc L (vi x :: vi i :: vr a :: st) M Q := by subst e; exact wm_cast hd hK hi hx3 h
theorem wm_lastE {a : Nat} {i x : Int} (hd : decode y.2.1 pc = .ok (.lastore, 1)) (hK : mK M a = 33) (hi : 0 ≤ i ∧ i < mN M a) (hx3 : i64 x) (e : M1 = mUL M a i.toNat x) (h : mWm G y d (pc + 1) L st M1 Q) : mWm G y d pc L (vl x :: vi i :: vr a :: st) M Q := by subst e; exact wm_last hd hK hi hx3 h
theorem wm_aastE {t c a v : Nat} {i : Int} {r : vw_C} (hty : arTy[t]? = some (.object r.1)) (hz : ∀ tA, (zT tA)[t]? = some (tA t, .object r.1)) (hcl : vwCl[c]? = some r) {t9 : Nat → FieldType} (hvt : vwTy[c]? = some t9) (hd : decode y.2.1 pc = .ok (.aastore, 1)) (hK : mK M a = 30 + t) (hi : 0 ≤ i ∧ i < mN M a) (hKv : mK M v = c + 1) (e : M1 = mUR M a i.toNat v) (h : mWm G y d (pc + 1) L st M1 Q) : mWm G y d pc L (vr v :: vi i :: vr a :: st) M Q := by subst e; exact wm_aast hty hz hcl hvt hd hK hi hKv h
theorem wm_newarrE (t : Nat) {atype : ArrayType} {ty : FieldType} (hat : newarray.typeOf atype = ty) (hty : arTy[t]? = some ty) (hz : ∀ tA, (zT tA)[t]? = some (tA t, ty)) (hpr : ty.isReference = false) (hdf : defaultValue ty = dV ty) (hcb : componentBytes ty ≤ 8) (hw : Cond.arrayClass ty ∈ lw_R) {n : Int} (hn : 0 ≤ n ∧ n ≤ 16777216) (hd : decode y.2.1 pc = .ok (.newarray atype, 2)) (e : M1 = mNew M (30 + t) n.toNat n.toNat) (h : mWm G y d (pc + 2) L (vr (mZ M) :: st) M1 Q) : mWm G y d pc L (vi n :: st) M Q := by
  subst e
  exact wm_newarr t hat hty hz (fun C q => by rw [q] at hpr; cases hpr) hdf hcb hw hn hd h
theorem wm_anewE (t : Nat) {C : String} {idx : Nat} (hty : arTy[t]? = some (.object C)) (hz : ∀ tA, (zT tA)[t]? = some (tA t, .object C)) (hw1 : Cond.classLink y.1.cls idx C ∈ lw_R) (hw2 : Cond.arrayOver (.object C) ∈ lw_R) {n : Int} (hn : 0 ≤ n ∧ n ≤ 16777216) (hd : decode y.2.1 pc = .ok (.anewarray idx, 3)) (e : M1 = mNew M (30 + t) n.toNat n.toNat) (h : mWm G y d (pc + 3) L (vr (mZ M) :: st) M1 Q) : mWm G y d pc L (vi n :: st) M Q := by subst e; exact wm_anew t hty hz hw1 hw2 hn hd h
theorem wm_lookup {x dflt : Int} {ps : Array (Int × Int)} {len : Nat} {off : Int} {tgt : Nat} (hd : decode y.2.1 pc = .ok (.lookupswitch dflt ps, len)) (hp : (ps.toList.zip (ps.toList.drop 1)).all (fun (a, next) => a.1 < next.1) = true) (hx : i32 x) (ho : Op.lookupswitch.offset ps.toList dflt x = off) (ht : (pc : Int) + off = (tgt : Int)) (h : mWm G y d tgt L st M Q) : mWm G y d pc L (vi x :: st) M Q :=
  wm_st (fun p e R s m args below meth c H locs cells slots ls Qf hA hR hL k => lv_lookup hA.1 hA.2.1 hd hp (by rw [i32_toInt hx]; exact ho) ht k) h
theorem wm_tableIn {x dflt lo hi : Int} {offs : Array Int} {len : Nat} {off : Int} {tgt : Nat} (hd : decode y.2.1 pc = .ok (.tableswitch dflt lo hi offs, len)) (hx : i32 x) (h1 : lo ≤ x) (h2 : x ≤ hi) (ho : offs[(x - lo).toNat]? = some off) (ht : (pc : Int) + off = (tgt : Int)) (h : mWm G y d tgt L st M Q) : mWm G y d pc L (vi x :: st) M Q :=
  wm_st (fun p e R s m args below meth c H locs cells slots ls Qf hA hR hL k => lv_tableIn hA.1 hA.2.1 hd (by rw [i32_toInt hx]; omega) (by rw [i32_toInt hx]; omega) (by rw [i32_toInt hx]; exact ho) ht k) h
theorem wm_tableOut {x dflt lo hi : Int} {offs : Array Int} {len : Nat} {tgt : Nat} (hd : decode y.2.1 pc = .ok (.tableswitch dflt lo hi offs, len)) (hx : i32 x) (h1 : x < lo ∨ hi < x) (ht : (pc : Int) + dflt = (tgt : Int)) (h : mWm G y d tgt L st M Q) : mWm G y d pc L (vi x :: st) M Q :=
  wm_st (fun p e R s m args below meth c H locs cells slots ls Qf hA hR hL k => lv_tableOut hA.1 hA.2.1 hd (by rw [i32_toInt hx]; exact h1) ht k) h
theorem wm_tableD {x dflt lo hi : Int} {offs : Array Int} {len : Nat} {off : Int} {tgt : Nat} (hd : decode y.2.1 pc = .ok (.tableswitch dflt lo hi offs, len)) (hx : i32 x) (h1 : (x < lo ∨ hi < x) ∨ (lo ≤ x ∧ x ≤ hi ∧ offs[(x - lo).toNat]? = some dflt)) (ht : (pc : Int) + dflt = (tgt : Int)) (h : mWm G y d tgt L st M Q) : mWm G y d pc L (vi x :: st) M Q := by
  rcases h1 with h1 | ⟨h1, h2, h3⟩
  · exact wm_tableOut hd hx h1 ht h
  · exact wm_tableIn hd hx h1 h2 h3 ht h
/-- a step that changes the stack alone, with the room -/
theorem wm_st2 {pc' : Nat} {st' : List mV} (hs : ∀ (p : Program) (e : Env) (R : Room) (s : State) (m : MethodId) (args : Array Value) (below : List Frame) (meth : Method) (c : Code) (H : Heap) (locs : List Loc) (cells slots : Nat) (ls : Array Slot) (Qf : State → Prop), mAt G y d p R s m args meth c → mRep G M H → mLs ls y.2.2.1 L → cells ≤ R.cells → slots ≤ R.slots → W p (gL G) e R s m args below meth c H locs cells slots Qf (F0 m pc' ls (st'.map mcv)) → W p (gL G) e R s m args below meth c H locs cells slots Qf (F0 m pc ls (st.map mcv))) (h : mWm G y d pc' L st' M Q) : mWm G y d pc L st M Q := by
  obtain ⟨r, M', ⟨h1, h2⟩, h3⟩ := h
  exact ⟨r, M', ⟨h1, fun p e R s m args below meth c H locs cells slots ls hA hR hl hc hs' hL => hs p e R s m args below meth c H locs cells slots ls _ hA hR hL (by omega) (by omega) (h2 p e R s m args below meth c H locs cells slots ls hA hR hl hc hs' hL)⟩, h3⟩
theorem wm_mmax {idx : Nat} {x z : Int} (hw : Cond.methodLink y.1.cls idx Lib.Math.max.name ∈ lw_R) (hs : (st.map mcat).sum ≤ 8) (hx : i32 x) (hz : i32 z) (hd : decode y.2.1 pc = .ok (.invokestatic idx, 3)) (h : mWm G y (d + 1) (pc + 3) L (vi (if x < z then z else x) :: st) M Q) : mWm G y (d + 1) pc L (vi z :: vi x :: st) M Q :=
  wm_st2 (fun p e R s m args below meth c H locs cells slots ls Qf hA hR hL hc hs9 k => by
    obtain ⟨hx9, hb, hml, -, -, -, hown, hKK, hts, hh, hal, hfr, hlo⟩ := hA
    have k' : W p (gL G) e R s m args below meth c H locs cells slots Qf (F0 m (pc + 3) ls (.int (if Int32.ofInt x < Int32.ofInt z then Int32.ofInt z else Int32.ofInt x) :: st.map mcv)) := by
      rw [show (if Int32.ofInt x < Int32.ofInt z then Int32.ofInt z else Int32.ofInt x) = Int32.ofInt (if x < z then z else x) by
        by_cases q : x < z
        · rw [if_pos q, if_pos ((i32_lt hx hz).mpr q)]
        · rw [if_neg q, if_neg (fun w => q ((i32_lt hx hz).mp w))]]
      exact k
    exact va_mmax hx9 hb (hml.trans hL.1.symm) hown (hts _ hw) (hts _ kJ_max_s) (hts _ kJ_math) (hts _ kJ_max_c) (by omega) (by rw [m_cats]; omega) hc hs9 hd k') h
theorem wm_mmin {idx : Nat} {x z : Int} (hw : Cond.methodLink y.1.cls idx Lib.Math.min.name ∈ lw_R) (hs : (st.map mcat).sum ≤ 8) (hx : i32 x) (hz : i32 z) (hd : decode y.2.1 pc = .ok (.invokestatic idx, 3)) (h : mWm G y (d + 1) (pc + 3) L (vi (if z < x then z else x) :: st) M Q) : mWm G y (d + 1) pc L (vi z :: vi x :: st) M Q :=
  wm_st2 (fun p e R s m args below meth c H locs cells slots ls Qf hA hR hL hc hs9 k => by
    obtain ⟨hx9, hb, hml, -, -, -, hown, hKK, hts, hh, hal, hfr, hlo⟩ := hA
    have k' : W p (gL G) e R s m args below meth c H locs cells slots Qf (F0 m (pc + 3) ls (.int (if Int32.ofInt z < Int32.ofInt x then Int32.ofInt z else Int32.ofInt x) :: st.map mcv)) := by
      rw [show (if Int32.ofInt z < Int32.ofInt x then Int32.ofInt z else Int32.ofInt x) = Int32.ofInt (if z < x then z else x) by
        by_cases q : z < x
        · rw [if_pos q, if_pos ((i32_lt hz hx).mpr q)]
        · rw [if_neg q, if_neg (fun w => q ((i32_lt hz hx).mp w))]]
      exact k
    exact va_mmin hx9 hb (hml.trans hL.1.symm) hown (hts _ hw) (hts _ kJ_min_s) (hts _ kJ_math) (hts _ kJ_min_c) (by omega) (by rw [m_cats]; omega) hc hs9 hd k') h
theorem wm_mminl {idx : Nat} {x z : Int} (hw : Cond.methodLink y.1.cls idx Lib.MathLoose.min_long.x ∈ lw_R) (hs : (st.map mcat).sum ≤ 8) (hx : i64 x) (hz : i64 z) (hd : decode y.2.1 pc = .ok (.invokestatic idx, 3)) (h : mWm G y (d + 1) (pc + 3) L (vl (if z < x then z else x) :: st) M Q) : mWm G y (d + 1) pc L (vl z :: vl x :: st) M Q :=
  wm_st2 (fun p e R s m args below meth c H locs cells slots ls Qf hA hR hL hc hs9 k => by
    obtain ⟨hx9, hb, hml, -, -, -, hown, hKK, hts, hh, hal, hfr, hlo⟩ := hA
    have k' : W p (gL G) e R s m args below meth c H locs cells slots Qf (F0 m (pc + 3) ls (.long (if Int64.ofInt z < Int64.ofInt x then Int64.ofInt z else Int64.ofInt x) :: st.map mcv)) := by
      rw [show (if Int64.ofInt z < Int64.ofInt x then Int64.ofInt z else Int64.ofInt x) = Int64.ofInt (if z < x then z else x) by
        by_cases q : z < x
        · rw [if_pos q, if_pos ((i64_lt hz hx).mpr q)]
        · rw [if_neg q, if_neg (fun w => q ((i64_lt hz hx).mp w))]]
      exact k
    exact va_mmin_long hx9 hb (hml.trans hL.1.symm) hown (hts _ hw) (hts _ kJ_minl_s) (hts _ kJ_math) (hts _ kJ_minl_c) (by omega) (by rw [m_cats]; omega) hc hs9 hd k') h
theorem wm_mabsl {idx : Nat} {x : Int} (hw : Cond.methodLink y.1.cls idx Lib.MathLoose.abs_long.x ∈ lw_R) (hs : (st.map mcat).sum ≤ 8) (hx : i64 x) (hd : decode y.2.1 pc = .ok (.invokestatic idx, 3)) (h : mWm G y (d + 1) (pc + 3) L (vl (if 0 < x then x else -x) :: st) M Q) : mWm G y (d + 1) pc L (vl x :: st) M Q :=
  wm_st2 (fun p e R s m args below meth c H locs cells slots ls Qf hA hR hL hc hs9 k => by
    obtain ⟨hx9, hb, hml, -, -, -, hown, hKK, hts, hh, hal, hfr, hlo⟩ := hA
    have k' : W p (gL G) e R s m args below meth c H locs cells slots Qf (F0 m (pc + 3) ls (.long (if 0 < Int64.ofInt x then Int64.ofInt x else -Int64.ofInt x) :: st.map mcv)) := by
      have e0 : (0 : Int64) < Int64.ofInt x ↔ 0 < x := i64_lt (x := 0) ⟨by decide, by decide⟩ hx
      rw [show (if 0 < Int64.ofInt x then Int64.ofInt x else -Int64.ofInt x) = Int64.ofInt (if 0 < x then x else -x) by
        by_cases q : 0 < x
        · rw [if_pos q, if_pos (e0.mpr q)]
        · rw [if_neg q, if_neg (fun w => q (e0.mp w)), Int64.ofInt_neg]]
      exact k
    exact va_mabs_long hx9 hb (hml.trans hL.1.symm) hown (hts _ hw) (hts _ kJ_absl_s) (hts _ kJ_math) (hts _ kJ_absl_c) (by omega) (by rw [m_cats]; omega) hc hs9 hd k') h
/-- the class's primes -/
theorem wm_prLen {idx : Nat} (hw : Cond.fieldLink y.1.cls idx "ChanceArena$Residues" "PRIMES" "[I" ∈ lw_R) (hd : decode y.2.1 pc = .ok (.getstatic idx, 3)) (hd2 : decode y.2.1 (pc + 3) = .ok (.arraylength, 1)) (h : mWm G y d (pc + 4) L (vi 36 :: st) M Q) : mWm G y d pc L st M Q :=
  wm_st (fun p e R s m args below meth co H locs cells slots ls Qf hA hR hL kk => by
    obtain ⟨hx, hb, hml, -, -, -, hown, hKK, hts, hh, hal, -⟩ := hA
    obtain ⟨t, hZ, hT⟩ := hR.2.1.2
    have hq : ∀ a : Nat, a < (gS G).heap.size → ¬ mOwn G a → H[a]? = (gS G).heap[a]? := fun a _ ha => hR.2.2.2.2.1 a (Nat.not_le.mp ha)
    obtain ⟨cf, kf, fi, f, a, cell, h1, h2, h3, h4, h5, h6, h7, h8⟩ := (hZ.moved hal.1).kept hq
    obtain ⟨cell2, g1, g2, g3, g4, g5, g6, g7⟩ := (hT.moved hal.1).kept hq
    refine W.gets hx hb hown (hts _ hw) h1 h2 h3 h4 h5 (fun e => by rw [e] at h6; cases h6) h7 rfl hd ?_
    exact W.alen (n := 36) hx hb g1 g2 g5 rfl rfl hd2 kk) h
theorem wm_prAt {idx : Nat} {i : Int} (hw : Cond.fieldLink y.1.cls idx "ChanceArena$Residues" "PRIMES" "[I" ∈ lw_R) (hd : decode y.2.1 pc = .ok (.getstatic idx, 3)) {k0 : Nat} (hv : L[k0]? = some (vi i)) (hi : 0 ≤ i ∧ i < 36) {ins : Instr} {ln : Nat} (hins : (∃ k9 : Fin 4, (k9 : Nat) = k0 ∧ ins = .iload_n k9 ∧ ln = 1) ∨ (ins = .iload k0 ∧ ln = 2)) (hd2 : decode y.2.1 (pc + 3) = .ok (ins, ln)) (hd3 : decode y.2.1 (pc + 3 + ln) = .ok (.iaload, 1)) (h : mWm G y d (pc + 3 + ln + 1) L (vi (prL.getD i.toNat 0) :: st) M Q) : mWm G y d pc L st M Q :=
  wm_st (fun p e R s m args below meth co H locs cells slots ls Qf hA hR hL kk => by
    obtain ⟨hx, hb, hml, -, -, -, hown, hKK, hts, hh, hal, -⟩ := hA
    obtain ⟨t, hZ, hT⟩ := hR.2.1.2
    have hi3 : i32 i := ⟨by omega, by omega⟩
    have hq : ∀ a : Nat, a < (gS G).heap.size → ¬ mOwn G a → H[a]? = (gS G).heap[a]? := fun a _ ha => hR.2.2.2.2.1 a (Nat.not_le.mp ha)
    obtain ⟨cf, kf, fi, f, a, cell, h1, h2, h3, h4, h5, h6, h7, h8⟩ := (hZ.moved hal.1).kept hq
    obtain ⟨cell2, g1, g2, g3, g4, g5, g6, g7⟩ := (hT.moved hal.1).kept hq
    refine W.gets hx hb hown (hts _ hw) h1 h2 h3 h4 h5 (fun e => by rw [e] at h6; cases h6) h7 rfl hd ?_
    have k2 : W p (gL G) e R s m args below meth co H locs cells slots Qf (F0 m (pc + 3 + ln) ls (.int (Int32.ofInt i) :: .ref t :: st.map mcv)) := W.iald (v := mcv (vi (prL.getD i.toNat 0))) hx hb g1 g2 g3 (by rw [i32_lt0 hi3, i32_clamp hi3]; omega) (by rw [i32_clamp hi3]; exact g6 _ (by omega)) rfl rfl hd3 kk
    rcases hins with ⟨k9, e1, e2, e3⟩ | ⟨e2, e3⟩
    · subst e2; subst e3
      exact lv_iload_n hx hb hd2 e1 (hL.at hv rfl) k2
    · subst e2; subst e3
      exact lv_iload hx hb hd2 (hL.at hv rfl) k2) h
theorem wm_lxor {x z : Int} (hd : decode y.2.1 pc = .ok (.lxor, 1)) (h : mWm G y d (pc + 1) L (vl (xorL x z) :: st) M Q) : mWm G y d pc L (vl z :: vl x :: st) M Q :=
  wm_st (fun p e R s m args below meth c H locs cells slots ls Qf hA hR hL k => by
    have k' : W p (gL G) e R s m args below meth c H locs cells slots Qf (F0 m (pc + 1) ls (.long (Int64.ofInt (xorL x z)) :: st.map mcv)) := k
    rw [show Int64.ofInt (xorL x z) = _ from Int64.ofInt_toInt _] at k'
    exact lv_lxor hA.1 hA.2.1 hd k') h
/-- System.arraycopy, ints or chars -/
theorem wm_copy {idx t a0 a : Nat} {ty : FieldType} {sp dp n : Int} (hty : arTy[t]? = some ty) (hz : ∀ tA, (zT tA)[t]? = some (tA t, ty)) (hfv : ∀ (M : mM) (b j : Nat), fV ty M b j = .int (Int32.ofInt (mI M b j))) (hprim : refKind ty = false) (hw : Cond.methodLink y.1.cls idx arraycopyName ∈ lw_R) (hs : (st.map mcat).sum ≤ 8) (hK0 : mK M a0 = 30 + t) (hK : mK M a = 30 + t) (hb9 : 0 ≤ sp ∧ 0 ≤ dp ∧ 0 ≤ n ∧ sp + n ≤ mN M a0 ∧ dp + n ≤ mN M a) (hfit : ∀ i : Nat, (i : Int) < n → fits ty (.int (Int32.ofInt (mI M a0 (sp.toNat + i)))) = true) (hd : decode y.2.1 pc = .ok (.invokestatic idx, 3)) (e9 : M1 = mCpy M a0 a sp.toNat dp.toNat n.toNat) (h : mWm G y (d + 1) (pc + 3) L st M1 Q) : mWm G y (d + 1) pc L (vi n :: vi dp :: vr a :: vi sp :: vr a0 :: st) M Q := by
  subst e9
  refine wm_wr (M1 := mCpy M a0 a sp.toNat dp.toNat n.toNat) rfl rfl (fun p e R s m args below meth co H locs cells slots ls Qf hA hR hlo hL kk => ?_) h
  obtain ⟨g1, g2, g3⟩ := (hR.2.2.2.2.2.2 a).2.1 t _ hK hty
  obtain ⟨u1, u2, u3⟩ := (hR.2.2.2.2.2.2 a0).2.1 t _ hK0 hty
  obtain ⟨hx, hb, hml, -, -, -, hown, hKK, hts, hh, hal, hfr, hlc⟩ := hA
  have hfe : ∀ b : Nat, (fun j => fV ty M b j) = fun j => Value.int (Int32.ofInt (mI M b j)) := fun b => funext (fun j => hfv M b j)
  rw [hfe] at g3 u3
  show W p (gL G) e R s m args below meth co H locs cells slots Qf (F0 m pc ls (.int (Int32.ofInt n) :: .int (Int32.ofInt dp) :: mcv (vr a) :: .int (Int32.ofInt sp) :: mcv (vr a0) :: st.map mcv))
  rw [hR.own g1, hR.own u1]
  have hsp : i32 sp := ⟨by omega, by omega⟩
  have hdp : i32 dp := ⟨by omega, by omega⟩
  have hn : i32 n := ⟨by omega, by omega⟩
  intro T hT X
  obtain ⟨-, k0, hk0, cm0, hkk0⟩ := (hKK.2 t _ (hz _)).1 (mN M a0) (fun j => Value.int (Int32.ofInt (mI M a0 j)))
  obtain ⟨-, k1, hk1, cm1, hkk1⟩ := (hKK.2 t _ (hz _)).1 (mN M a) (fun j => Value.int (Int32.ofInt (mI M a j)))
  have hl : a < H.size := (Array.getElem?_eq_some_iff.mp g3).1
  obtain ⟨vm', X', step⟩ := X.arraycopy hx hown (hts _ hw) (hts _ kJ_ac_n) (hts _ kJ_ac_s) (hts _ kJ_sys) (src := a0) (dst := a) (cs := arrV (gA G t) (mN M a0) (fun j => Value.int (Int32.ofInt (mI M a0 j)))) (cd := arrV (gA G t) (mN M a) (fun j => Value.int (Int32.ofInt (mI M a j)))) (srcPos := Int32.ofInt sp) (destPos := Int32.ofInt dp) (n := Int32.ofInt n) (by rw [hT]; exact u3) (by rw [hT]; exact g3)
    (fun _ h => by cases h) (fun _ h => by cases h) (fun h => by cases h) (fun h => by cases h) hk0 hk1 hkk0 hkk1 (by simp [hprim]) (by rw [i32_lt0 hsp]; omega) (by rw [i32_lt0 hdp]; omega) (by rw [i32_lt0 hn]; omega)
    (by rw [i32_toInt hsp, i32_toInt hn, arrV_size]; omega)
    (by rw [i32_toInt hdp, i32_toInt hn, arrV_size]; omega)
    (fun vm₁ _ i hi => by
      rw [i32_clamp hn] at hi
      have e : (arrV (gA G t) (mN M a0) (fun j => Value.int (Int32.ofInt (mI M a0 j)))).slots.getD ((Int32.ofInt sp).toNatClampNeg + i) .null = .int (Int32.ofInt (mI M a0 (sp.toNat + i))) := by
        rw [i32_clamp hsp, Array.getD_eq_getD_getElem?, arrV_read _ _ (by omega)]
        rfl
      refine ⟨?_, ?_⟩
      · rw [e]
        exact hfit i (by omega)
      · rw [e]
        exact trivial)
    (g := F0 m pc ls (.int (Int32.ofInt n) :: .int (Int32.ofInt dp) :: .ref a :: .int (Int32.ofInt sp) :: .ref a0 :: st.map mcv)) rfl (by rw [hml]; exact hL.1) (rest := st.map mcv) rfl (by rw [hb]; exact hd) (by omega) (by show 2 * 0 + _ + _ ≤ _; rw [m_cats, show nativeFrameWords "java/lang/System" "arraycopy" 5 = nfw from rfl]; have := nfw_le; omega)
  have e1 := va_copied (fun z => Value.int z) (gA G t) (gA G t) (n0 := mN M a0) (n1 := mN M a) (sp := (Int32.ofInt sp).toNatClampNeg) (dp := (Int32.ofInt dp).toNatClampNeg) (n := (Int32.ofInt n).toNatClampNeg) (fun j => Int32.ofInt (mI M a0 j)) (fun j => Int32.ofInt (mI M a j)) (by rw [i32_clamp hsp, i32_clamp hn]; omega)
  have e1' : copied (arrV (gA G t) (mN M a0) (fun j => Value.int (Int32.ofInt (mI M a0 j)))) (arrV (gA G t) (mN M a) (fun j => Value.int (Int32.ofInt (mI M a j)))) (Int32.ofInt sp) (Int32.ofInt dp) (Int32.ofInt n) = arrV (gA G t) (mN M a) (fun j => fV ty (mCpy M a0 a sp.toNat dp.toNat n.toNat) a j) := by
    refine e1.trans ?_
    congr 1
    funext j
    rw [hfv, i32_clamp hsp, i32_clamp hdp, i32_clamp hn]
    show Value.int (va_cpy _ _ _ _ _ j) = Value.int (Int32.ofInt (if _ then _ else _))
    unfold va_cpy
    by_cases q : dp.toNat ≤ j ∧ j < dp.toNat + n.toNat
    · rw [if_pos q, if_pos ⟨rfl, q⟩]
    · rw [if_neg q, if_neg (fun w => q w.2)]
  rw [e1'] at X' step
  have hheap : ((T.setVm vm').setCell a (arrV (gA G t) (mN M a) (fun j => fV ty (mCpy M a0 a sp.toNat dp.toNat n.toNat) a j))).heap = H.setIfInBounds a (arrV (gA G t) (mN M a) (fun j => fV ty (mCpy M a0 a sp.toNat dp.toNat n.toNat) a j)) := by rw [← hT]; rfl
  have oq : ∀ q : Nat, q ≠ a → (H.setIfInBounds a (arrV (gA G t) (mN M a) (fun j => fV ty (mCpy M a0 a sp.toNat dp.toNat n.toNat) a j)))[q]? = H[q]? := fun q hq => by simp [Array.getElem?_setIfInBounds, Ne.symm hq]
  have hRep : mRep G (mCpy M a0 a sp.toNat dp.toNat n.toNat) (H.setIfInBounds a (arrV (gA G t) (mN M a) (fun j => fV ty (mCpy M a0 a sp.toNat dp.toNat n.toNat) a j))) := by
    obtain ⟨r1, r2, r3, r4, r5, r6, r7⟩ := hR
    have hR : mRep G M H := ⟨r1, r2, r3, r4, r5, r6, r7⟩
    have hlt := arTy_lt hty
    refine ⟨by simp; exact r1, r2, r3, mOk_Cpy r4, fun q hq => by rw [oq q (by omega)]; exact r5 q hq, r6, fun b => ?_⟩
    by_cases hba : b = a
    · subst hba
      refine ⟨fun c' r' t' q1 q2 q3 => ?_, fun t' ty' q1 q2 => ?_, fun q1 => ?_⟩
      · have := vwCl_lt q2
        have q1 : mK M b = c' + 1 := q1
        omega
      · have et : t' = t := by have q1 : mK M b = 30 + t' := q1; omega
        subst et
        have ey : ty' = ty := Option.some.inj (q2.symm.trans hty)
        subst ey
        exact ⟨g1, g2, by simp [Array.getElem?_setIfInBounds, hl]; rfl⟩
      · have q1 : mK M b = 40 := q1
        omega
    · refine hR.keep (oq b hba) rfl rfl (fun ty9 j => ?_)
      unfold fV
      split <;> try rfl
      show mcv (vi (if _ then _ else _)) = _
      rw [if_neg (fun w => hba w.1)]
  obtain ⟨t2, a1, b1⟩ := kk _ _ hRep (fun q hq => by
      rcases List.mem_append.mp hq with h | h
      · exact hlo q h
      · obtain ⟨z, -, hz⟩ := List.mem_map.mp h
        rw [← hz]
        exact g1) _ hheap X'
  exact ⟨t2, step t2 a1, b1⟩
theorem wm_copyi {idx a0 a : Nat} {sp dp n : Int} (hw : Cond.methodLink y.1.cls idx arraycopyName ∈ lw_R) (hs : (st.map mcat).sum ≤ 8) (hK0 : mK M a0 = 30) (hK : mK M a = 30) (hb9 : 0 ≤ sp ∧ 0 ≤ dp ∧ 0 ≤ n ∧ sp + n ≤ mN M a0 ∧ dp + n ≤ mN M a) (hd : decode y.2.1 pc = .ok (.invokestatic idx, 3)) (e9 : M1 = mCpy M a0 a sp.toNat dp.toNat n.toNat) (h : mWm G y (d + 1) (pc + 3) L st M1 Q) : mWm G y (d + 1) pc L (vi n :: vi dp :: vr a :: vi sp :: vr a0 :: st) M Q := wm_copy (t := 0) (ty := .int) rfl (fun _ => rfl) (fun _ _ _ => rfl) rfl hw hs hK0 hK hb9 (fun _ _ => rfl) hd e9 h
theorem wm_copyc {idx a0 a : Nat} {sp dp n : Int} (hw : Cond.methodLink y.1.cls idx arraycopyName ∈ lw_R) (hs : (st.map mcat).sum ≤ 8) (hK0 : mK M a0 = 32) (hK : mK M a = 32) (hb9 : 0 ≤ sp ∧ 0 ≤ dp ∧ 0 ≤ n ∧ sp + n ≤ mN M a0 ∧ dp + n ≤ mN M a) (hfit : ∀ i : Nat, (i : Int) < n → 0 ≤ mI M a0 (sp.toNat + i) ∧ mI M a0 (sp.toNat + i) < 65536) (hd : decode y.2.1 pc = .ok (.invokestatic idx, 3)) (e9 : M1 = mCpy M a0 a sp.toNat dp.toNat n.toNat) (h : mWm G y (d + 1) (pc + 3) L st M1 Q) : mWm G y (d + 1) pc L (vi n :: vi dp :: vr a :: vi sp :: vr a0 :: st) M Q := wm_copy (t := 2) (ty := .char) rfl (fun _ => rfl) (fun _ _ _ => rfl) rfl hw hs hK0 hK hb9 (fun i hi => by
    obtain ⟨h1, h2⟩ := hfit i hi
    have e : Int32.ofInt (mI M a0 (sp.toNat + i)) = nI (mI M a0 (sp.toNat + i)).toNat := by
      rw [← Int32.toInt_inj, i32_toInt ⟨by omega, by omega⟩, nI_toInt (by omega)]
      omega
    rw [e]
    exact (pk_charN (by omega)).2) hd e9 h
end JRules
/-- the keys of a switch rise -/
def lkS (ps : Array (Int × Int)) : Prop := (ps.toList.zip (ps.toList.drop 1)).all (fun (a, next) => a.1 < next.1) = true
end
