section
/-! The names that are words of the language: nameSort and wordKind. -/
theorem kt_spL : (Jvm.Cond.methodLink "ChanceArena$Words" (74 : Nat) ({ cls := "ChanceArena$Words", name := "spells", desc := "(ILjava/lang/String;)Z" } : Jvm.MethodName)) ∈ lw_R := zR (zk_4 _ (List.mem_of_getElem? (i := 55) rfl)) rfl
theorem kt_spI : (Jvm.Cond.instanceMethod ({ cls := "ChanceArena$Words", name := "spells", desc := "(ILjava/lang/String;)Z" } : Jvm.MethodName)) ∈ lw_R := zR (zk_4 _ (List.mem_of_getElem? (i := 57) rfl)) rfl
theorem kt_spC : (Jvm.Cond.code ({ cls := "ChanceArena$Words", name := "spells", desc := "(ILjava/lang/String;)Z" } : Jvm.MethodName) prog_13_method_14_code (4 : Nat) (Option.some Jvm.ClassFile.FieldType.boolean)) ∈ lw_R := zR (zk_4 _ (List.mem_of_getElem? (i := 58) rfl)) rfl
theorem kt_isL : (Jvm.Cond.methodLink "ChanceArenaModel" (178 : Nat) ({ cls := "ChanceArenaModel", name := "is", desc := "(IILjava/lang/String;)Z" } : Jvm.MethodName)) ∈ lw_R := zR (zk_11 _ (List.mem_of_getElem? (i := 43) rfl)) rfl
theorem kt_isI : (Jvm.Cond.instanceMethod ({ cls := "ChanceArenaModel", name := "is", desc := "(IILjava/lang/String;)Z" } : Jvm.MethodName)) ∈ lw_R := zR (zk_11 _ (List.mem_of_getElem? (i := 45) rfl)) rfl
theorem kt_isC : (Jvm.Cond.code ({ cls := "ChanceArenaModel", name := "is", desc := "(IILjava/lang/String;)Z" } : Jvm.MethodName) prog_15_method_11_code (6 : Nat) (Option.some Jvm.ClassFile.FieldType.boolean)) ∈ lw_R := zR (zk_11 _ (List.mem_of_getElem? (i := 46) rfl)) rfl
theorem ks_Wo_spells : Cond.selects "ChanceArena$Words" y_Wo_spells.1 y_Wo_spells.1 ∈ lw_R := zR (List.mem_append_left _ (List.mem_of_getElem? (i := 7) rfl)) rfl
theorem ks_MM_is : Cond.selects "ChanceArenaModel" y_MM_is.1 y_MM_is.1 ∈ lw_R := zR (List.mem_append_left _ (List.mem_of_getElem? (i := 84) rfl)) rfl
theorem d_Wo_spells_0 : decode y_Wo_spells.2.1 0 = .ok (.iconst 0, 1) := dc9_3 (by decide +kernel)
theorem d_Wo_spells_1 : decode y_Wo_spells.2.1 1 = .ok (.istore_n 3, 1) := dc9_62 (by decide +kernel)
theorem d_Wo_spells_2 : decode y_Wo_spells.2.1 2 = .ok (.iload_n 3, 1) := dc9_29 (by decide +kernel)
theorem d_Wo_spells_3 : decode y_Wo_spells.2.1 3 = .ok (.aload_n 2, 1) := dc9_44 (by decide +kernel)
theorem d_Wo_spells_4 : decode y_Wo_spells.2.1 4 = .ok (.invokevirtual 102, 3) := dc9_182 (by decide +kernel)
theorem d_Wo_spells_7 : decode y_Wo_spells.2.1 7 = .ok (.if_icmp .ge 27, 3) := dc9_162 (by decide +kernel)
theorem d_Wo_spells_10 : decode y_Wo_spells.2.1 10 = .ok (.aload_n 0, 1) := dc9_42 (by decide +kernel)
theorem d_Wo_spells_11 : decode y_Wo_spells.2.1 11 = .ok (.getfield 9, 3) := dc9_180 (by decide +kernel)
theorem d_Wo_spells_14 : decode y_Wo_spells.2.1 14 = .ok (.iload_n 1, 1) := dc9_27 (by decide +kernel)
theorem d_Wo_spells_15 : decode y_Wo_spells.2.1 15 = .ok (.iload_n 3, 1) := dc9_29 (by decide +kernel)
theorem d_Wo_spells_16 : decode y_Wo_spells.2.1 16 = .ok (.iadd, 1) := dc9_96 (by decide +kernel)
theorem d_Wo_spells_17 : decode y_Wo_spells.2.1 17 = .ok (.caload, 1) := dc9_52 (by decide +kernel)
theorem d_Wo_spells_18 : decode y_Wo_spells.2.1 18 = .ok (.aload_n 2, 1) := dc9_44 (by decide +kernel)
theorem d_Wo_spells_19 : decode y_Wo_spells.2.1 19 = .ok (.iload_n 3, 1) := dc9_29 (by decide +kernel)
theorem d_Wo_spells_20 : decode y_Wo_spells.2.1 20 = .ok (.invokevirtual 107, 3) := dc9_182 (by decide +kernel)
theorem d_Wo_spells_23 : decode y_Wo_spells.2.1 23 = .ok (.if_icmp .eq 5, 3) := dc9_159 (by decide +kernel)
theorem d_Wo_spells_26 : decode y_Wo_spells.2.1 26 = .ok (.iconst 0, 1) := dc9_3 (by decide +kernel)
theorem d_Wo_spells_27 : decode y_Wo_spells.2.1 27 = .ok (.ireturn, 1) := dc9_172 (by decide +kernel)
theorem d_Wo_spells_28 : decode y_Wo_spells.2.1 28 = .ok (.iinc 3 1, 3) := by decide +kernel
theorem d_Wo_spells_31 : decode y_Wo_spells.2.1 31 = .ok (.goto (-29), 3) := dc9_167 (by decide +kernel)
theorem d_Wo_spells_34 : decode y_Wo_spells.2.1 34 = .ok (.iconst 1, 1) := dc9_4 (by decide +kernel)
theorem d_Wo_spells_35 : decode y_Wo_spells.2.1 35 = .ok (.ireturn, 1) := dc9_172 (by decide +kernel)
theorem d_Wo_nameSort_0 : decode y_Wo_nameSort.2.1 0 = .ok (.iload_n 2, 1) := dc9_28 (by decide +kernel)
theorem d_Wo_nameSort_1 : decode y_Wo_nameSort.2.1 1 = .ok (.tableswitch 238 3 7 #[35, 81, 158, 204, 221], 35) := by decide +kernel
theorem d_Wo_nameSort_36 : decode y_Wo_nameSort.2.1 36 = .ok (.aload_n 0, 1) := dc9_42 (by decide +kernel)
theorem d_Wo_nameSort_37 : decode y_Wo_nameSort.2.1 37 = .ok (.iload_n 1, 1) := dc9_27 (by decide +kernel)
theorem d_Wo_nameSort_38 : decode y_Wo_nameSort.2.1 38 = .ok (.ldc 72, 2) := dc9_18 (by decide +kernel)
theorem d_Wo_nameSort_40 : decode y_Wo_nameSort.2.1 40 = .ok (.invokevirtual 74, 3) := dc9_182 (by decide +kernel)
theorem d_Wo_nameSort_43 : decode y_Wo_nameSort.2.1 43 = .ok (.ifCond .eq 7, 3) := dc9_153 (by decide +kernel)
theorem d_Wo_nameSort_46 : decode y_Wo_nameSort.2.1 46 = .ok (.iconst 5, 1) := dc9_8 (by decide +kernel)
theorem d_Wo_nameSort_47 : decode y_Wo_nameSort.2.1 47 = .ok (.goto 34, 3) := dc9_167 (by decide +kernel)
theorem d_Wo_nameSort_50 : decode y_Wo_nameSort.2.1 50 = .ok (.aload_n 0, 1) := dc9_42 (by decide +kernel)
theorem d_Wo_nameSort_51 : decode y_Wo_nameSort.2.1 51 = .ok (.iload_n 1, 1) := dc9_27 (by decide +kernel)
theorem d_Wo_nameSort_52 : decode y_Wo_nameSort.2.1 52 = .ok (.ldc 78, 2) := dc9_18 (by decide +kernel)
theorem d_Wo_nameSort_54 : decode y_Wo_nameSort.2.1 54 = .ok (.invokevirtual 74, 3) := dc9_182 (by decide +kernel)
theorem d_Wo_nameSort_57 : decode y_Wo_nameSort.2.1 57 = .ok (.ifCond .eq 8, 3) := dc9_153 (by decide +kernel)
theorem d_Wo_nameSort_60 : decode y_Wo_nameSort.2.1 60 = .ok (.bipush 8, 2) := dc9_16 (by decide +kernel)
theorem d_Wo_nameSort_62 : decode y_Wo_nameSort.2.1 62 = .ok (.goto 19, 3) := dc9_167 (by decide +kernel)
theorem d_Wo_nameSort_65 : decode y_Wo_nameSort.2.1 65 = .ok (.aload_n 0, 1) := dc9_42 (by decide +kernel)
theorem d_Wo_nameSort_66 : decode y_Wo_nameSort.2.1 66 = .ok (.iload_n 1, 1) := dc9_27 (by decide +kernel)
theorem d_Wo_nameSort_67 : decode y_Wo_nameSort.2.1 67 = .ok (.ldc 80, 2) := dc9_18 (by decide +kernel)
theorem d_Wo_nameSort_69 : decode y_Wo_nameSort.2.1 69 = .ok (.invokevirtual 74, 3) := dc9_182 (by decide +kernel)
theorem d_Wo_nameSort_72 : decode y_Wo_nameSort.2.1 72 = .ok (.ifCond .eq 8, 3) := dc9_153 (by decide +kernel)
theorem d_Wo_nameSort_75 : decode y_Wo_nameSort.2.1 75 = .ok (.bipush 9, 2) := dc9_16 (by decide +kernel)
theorem d_Wo_nameSort_77 : decode y_Wo_nameSort.2.1 77 = .ok (.goto 4, 3) := dc9_167 (by decide +kernel)
theorem d_Wo_nameSort_80 : decode y_Wo_nameSort.2.1 80 = .ok (.iconst 2, 1) := dc9_5 (by decide +kernel)
theorem d_Wo_nameSort_81 : decode y_Wo_nameSort.2.1 81 = .ok (.ireturn, 1) := dc9_172 (by decide +kernel)
theorem d_Wo_nameSort_82 : decode y_Wo_nameSort.2.1 82 = .ok (.aload_n 0, 1) := dc9_42 (by decide +kernel)
theorem d_Wo_nameSort_83 : decode y_Wo_nameSort.2.1 83 = .ok (.iload_n 1, 1) := dc9_27 (by decide +kernel)
theorem d_Wo_nameSort_84 : decode y_Wo_nameSort.2.1 84 = .ok (.ldc 82, 2) := dc9_18 (by decide +kernel)
theorem d_Wo_nameSort_86 : decode y_Wo_nameSort.2.1 86 = .ok (.invokevirtual 74, 3) := dc9_182 (by decide +kernel)
theorem d_Wo_nameSort_89 : decode y_Wo_nameSort.2.1 89 = .ok (.ifCond .eq 8, 3) := dc9_153 (by decide +kernel)
theorem d_Wo_nameSort_92 : decode y_Wo_nameSort.2.1 92 = .ok (.bipush 13, 2) := dc9_16 (by decide +kernel)
theorem d_Wo_nameSort_94 : decode y_Wo_nameSort.2.1 94 = .ok (.goto 64, 3) := dc9_167 (by decide +kernel)
theorem d_Wo_nameSort_97 : decode y_Wo_nameSort.2.1 97 = .ok (.aload_n 0, 1) := dc9_42 (by decide +kernel)
theorem d_Wo_nameSort_98 : decode y_Wo_nameSort.2.1 98 = .ok (.iload_n 1, 1) := dc9_27 (by decide +kernel)
theorem d_Wo_nameSort_99 : decode y_Wo_nameSort.2.1 99 = .ok (.ldc 84, 2) := dc9_18 (by decide +kernel)
theorem d_Wo_nameSort_101 : decode y_Wo_nameSort.2.1 101 = .ok (.invokevirtual 74, 3) := dc9_182 (by decide +kernel)
theorem d_Wo_nameSort_104 : decode y_Wo_nameSort.2.1 104 = .ok (.ifCond .eq 8, 3) := dc9_153 (by decide +kernel)
theorem d_Wo_nameSort_107 : decode y_Wo_nameSort.2.1 107 = .ok (.bipush 11, 2) := dc9_16 (by decide +kernel)
theorem d_Wo_nameSort_109 : decode y_Wo_nameSort.2.1 109 = .ok (.goto 49, 3) := dc9_167 (by decide +kernel)
theorem d_Wo_nameSort_112 : decode y_Wo_nameSort.2.1 112 = .ok (.aload_n 0, 1) := dc9_42 (by decide +kernel)
theorem d_Wo_nameSort_113 : decode y_Wo_nameSort.2.1 113 = .ok (.iload_n 1, 1) := dc9_27 (by decide +kernel)
theorem d_Wo_nameSort_114 : decode y_Wo_nameSort.2.1 114 = .ok (.ldc 86, 2) := dc9_18 (by decide +kernel)
theorem d_Wo_nameSort_116 : decode y_Wo_nameSort.2.1 116 = .ok (.invokevirtual 74, 3) := dc9_182 (by decide +kernel)
theorem d_Wo_nameSort_119 : decode y_Wo_nameSort.2.1 119 = .ok (.ifCond .eq 8, 3) := dc9_153 (by decide +kernel)
theorem d_Wo_nameSort_122 : decode y_Wo_nameSort.2.1 122 = .ok (.bipush 6, 2) := dc9_16 (by decide +kernel)
theorem d_Wo_nameSort_124 : decode y_Wo_nameSort.2.1 124 = .ok (.goto 34, 3) := dc9_167 (by decide +kernel)
theorem d_Wo_nameSort_127 : decode y_Wo_nameSort.2.1 127 = .ok (.aload_n 0, 1) := dc9_42 (by decide +kernel)
theorem d_Wo_nameSort_128 : decode y_Wo_nameSort.2.1 128 = .ok (.iload_n 1, 1) := dc9_27 (by decide +kernel)
theorem d_Wo_nameSort_129 : decode y_Wo_nameSort.2.1 129 = .ok (.ldc 88, 2) := dc9_18 (by decide +kernel)
theorem d_Wo_nameSort_131 : decode y_Wo_nameSort.2.1 131 = .ok (.invokevirtual 74, 3) := dc9_182 (by decide +kernel)
theorem d_Wo_nameSort_134 : decode y_Wo_nameSort.2.1 134 = .ok (.ifCond .eq 8, 3) := dc9_153 (by decide +kernel)
theorem d_Wo_nameSort_137 : decode y_Wo_nameSort.2.1 137 = .ok (.bipush 10, 2) := dc9_16 (by decide +kernel)
theorem d_Wo_nameSort_139 : decode y_Wo_nameSort.2.1 139 = .ok (.goto 19, 3) := dc9_167 (by decide +kernel)
theorem d_Wo_nameSort_142 : decode y_Wo_nameSort.2.1 142 = .ok (.aload_n 0, 1) := dc9_42 (by decide +kernel)
theorem d_Wo_nameSort_143 : decode y_Wo_nameSort.2.1 143 = .ok (.iload_n 1, 1) := dc9_27 (by decide +kernel)
theorem d_Wo_nameSort_144 : decode y_Wo_nameSort.2.1 144 = .ok (.ldc 90, 2) := dc9_18 (by decide +kernel)
theorem d_Wo_nameSort_146 : decode y_Wo_nameSort.2.1 146 = .ok (.invokevirtual 74, 3) := dc9_182 (by decide +kernel)
theorem d_Wo_nameSort_149 : decode y_Wo_nameSort.2.1 149 = .ok (.ifCond .eq 8, 3) := dc9_153 (by decide +kernel)
theorem d_Wo_nameSort_152 : decode y_Wo_nameSort.2.1 152 = .ok (.bipush 16, 2) := dc9_16 (by decide +kernel)
theorem d_Wo_nameSort_154 : decode y_Wo_nameSort.2.1 154 = .ok (.goto 4, 3) := dc9_167 (by decide +kernel)
theorem d_Wo_nameSort_157 : decode y_Wo_nameSort.2.1 157 = .ok (.iconst 2, 1) := dc9_5 (by decide +kernel)
theorem d_Wo_nameSort_158 : decode y_Wo_nameSort.2.1 158 = .ok (.ireturn, 1) := dc9_172 (by decide +kernel)
theorem d_Wo_nameSort_159 : decode y_Wo_nameSort.2.1 159 = .ok (.aload_n 0, 1) := dc9_42 (by decide +kernel)
theorem d_Wo_nameSort_160 : decode y_Wo_nameSort.2.1 160 = .ok (.iload_n 1, 1) := dc9_27 (by decide +kernel)
theorem d_Wo_nameSort_161 : decode y_Wo_nameSort.2.1 161 = .ok (.ldc 92, 2) := dc9_18 (by decide +kernel)
theorem d_Wo_nameSort_163 : decode y_Wo_nameSort.2.1 163 = .ok (.invokevirtual 74, 3) := dc9_182 (by decide +kernel)
theorem d_Wo_nameSort_166 : decode y_Wo_nameSort.2.1 166 = .ok (.ifCond .eq 7, 3) := dc9_153 (by decide +kernel)
theorem d_Wo_nameSort_169 : decode y_Wo_nameSort.2.1 169 = .ok (.iconst 4, 1) := dc9_7 (by decide +kernel)
theorem d_Wo_nameSort_170 : decode y_Wo_nameSort.2.1 170 = .ok (.goto 34, 3) := dc9_167 (by decide +kernel)
theorem d_Wo_nameSort_173 : decode y_Wo_nameSort.2.1 173 = .ok (.aload_n 0, 1) := dc9_42 (by decide +kernel)
theorem d_Wo_nameSort_174 : decode y_Wo_nameSort.2.1 174 = .ok (.iload_n 1, 1) := dc9_27 (by decide +kernel)
theorem d_Wo_nameSort_175 : decode y_Wo_nameSort.2.1 175 = .ok (.ldc 94, 2) := dc9_18 (by decide +kernel)
theorem d_Wo_nameSort_177 : decode y_Wo_nameSort.2.1 177 = .ok (.invokevirtual 74, 3) := dc9_182 (by decide +kernel)
theorem d_Wo_nameSort_180 : decode y_Wo_nameSort.2.1 180 = .ok (.ifCond .eq 8, 3) := dc9_153 (by decide +kernel)
theorem d_Wo_nameSort_183 : decode y_Wo_nameSort.2.1 183 = .ok (.bipush 14, 2) := dc9_16 (by decide +kernel)
theorem d_Wo_nameSort_185 : decode y_Wo_nameSort.2.1 185 = .ok (.goto 19, 3) := dc9_167 (by decide +kernel)
theorem d_Wo_nameSort_188 : decode y_Wo_nameSort.2.1 188 = .ok (.aload_n 0, 1) := dc9_42 (by decide +kernel)
theorem d_Wo_nameSort_189 : decode y_Wo_nameSort.2.1 189 = .ok (.iload_n 1, 1) := dc9_27 (by decide +kernel)
theorem d_Wo_nameSort_190 : decode y_Wo_nameSort.2.1 190 = .ok (.ldc 96, 2) := dc9_18 (by decide +kernel)
theorem d_Wo_nameSort_192 : decode y_Wo_nameSort.2.1 192 = .ok (.invokevirtual 74, 3) := dc9_182 (by decide +kernel)
theorem d_Wo_nameSort_195 : decode y_Wo_nameSort.2.1 195 = .ok (.ifCond .eq 8, 3) := dc9_153 (by decide +kernel)
theorem d_Wo_nameSort_198 : decode y_Wo_nameSort.2.1 198 = .ok (.bipush 15, 2) := dc9_16 (by decide +kernel)
theorem d_Wo_nameSort_200 : decode y_Wo_nameSort.2.1 200 = .ok (.goto 4, 3) := dc9_167 (by decide +kernel)
theorem d_Wo_nameSort_203 : decode y_Wo_nameSort.2.1 203 = .ok (.iconst 2, 1) := dc9_5 (by decide +kernel)
theorem d_Wo_nameSort_204 : decode y_Wo_nameSort.2.1 204 = .ok (.ireturn, 1) := dc9_172 (by decide +kernel)
theorem d_Wo_nameSort_205 : decode y_Wo_nameSort.2.1 205 = .ok (.aload_n 0, 1) := dc9_42 (by decide +kernel)
theorem d_Wo_nameSort_206 : decode y_Wo_nameSort.2.1 206 = .ok (.iload_n 1, 1) := dc9_27 (by decide +kernel)
theorem d_Wo_nameSort_207 : decode y_Wo_nameSort.2.1 207 = .ok (.ldc 98, 2) := dc9_18 (by decide +kernel)
theorem d_Wo_nameSort_209 : decode y_Wo_nameSort.2.1 209 = .ok (.invokevirtual 74, 3) := dc9_182 (by decide +kernel)
theorem d_Wo_nameSort_212 : decode y_Wo_nameSort.2.1 212 = .ok (.ifCond .eq 8, 3) := dc9_153 (by decide +kernel)
theorem d_Wo_nameSort_215 : decode y_Wo_nameSort.2.1 215 = .ok (.bipush 12, 2) := dc9_16 (by decide +kernel)
theorem d_Wo_nameSort_217 : decode y_Wo_nameSort.2.1 217 = .ok (.goto 4, 3) := dc9_167 (by decide +kernel)
theorem d_Wo_nameSort_220 : decode y_Wo_nameSort.2.1 220 = .ok (.iconst 2, 1) := dc9_5 (by decide +kernel)
theorem d_Wo_nameSort_221 : decode y_Wo_nameSort.2.1 221 = .ok (.ireturn, 1) := dc9_172 (by decide +kernel)
theorem d_Wo_nameSort_222 : decode y_Wo_nameSort.2.1 222 = .ok (.aload_n 0, 1) := dc9_42 (by decide +kernel)
theorem d_Wo_nameSort_223 : decode y_Wo_nameSort.2.1 223 = .ok (.iload_n 1, 1) := dc9_27 (by decide +kernel)
theorem d_Wo_nameSort_224 : decode y_Wo_nameSort.2.1 224 = .ok (.ldc 100, 2) := dc9_18 (by decide +kernel)
theorem d_Wo_nameSort_226 : decode y_Wo_nameSort.2.1 226 = .ok (.invokevirtual 74, 3) := dc9_182 (by decide +kernel)
theorem d_Wo_nameSort_229 : decode y_Wo_nameSort.2.1 229 = .ok (.ifCond .eq 8, 3) := dc9_153 (by decide +kernel)
theorem d_Wo_nameSort_232 : decode y_Wo_nameSort.2.1 232 = .ok (.bipush 7, 2) := dc9_16 (by decide +kernel)
theorem d_Wo_nameSort_234 : decode y_Wo_nameSort.2.1 234 = .ok (.goto 4, 3) := dc9_167 (by decide +kernel)
theorem d_Wo_nameSort_237 : decode y_Wo_nameSort.2.1 237 = .ok (.iconst 2, 1) := dc9_5 (by decide +kernel)
theorem d_Wo_nameSort_238 : decode y_Wo_nameSort.2.1 238 = .ok (.ireturn, 1) := dc9_172 (by decide +kernel)
theorem d_Wo_nameSort_239 : decode y_Wo_nameSort.2.1 239 = .ok (.iconst 2, 1) := dc9_5 (by decide +kernel)
theorem d_Wo_nameSort_240 : decode y_Wo_nameSort.2.1 240 = .ok (.ireturn, 1) := dc9_172 (by decide +kernel)
theorem d_MM_is_0 : decode y_MM_is.2.1 0 = .ok (.iload_n 2, 1) := dc9_28 (by decide +kernel)
theorem d_MM_is_1 : decode y_MM_is.2.1 1 = .ok (.iload_n 1, 1) := dc9_27 (by decide +kernel)
theorem d_MM_is_2 : decode y_MM_is.2.1 2 = .ok (.isub, 1) := dc9_100 (by decide +kernel)
theorem d_MM_is_3 : decode y_MM_is.2.1 3 = .ok (.aload_n 3, 1) := dc9_45 (by decide +kernel)
theorem d_MM_is_4 : decode y_MM_is.2.1 4 = .ok (.invokevirtual 166, 3) := dc9_182 (by decide +kernel)
theorem d_MM_is_7 : decode y_MM_is.2.1 7 = .ok (.if_icmp .ne 7, 3) := dc9_160 (by decide +kernel)
theorem d_MM_is_10 : decode y_MM_is.2.1 10 = .ok (.iconst 1, 1) := dc9_4 (by decide +kernel)
theorem d_MM_is_11 : decode y_MM_is.2.1 11 = .ok (.goto 4, 3) := dc9_167 (by decide +kernel)
theorem d_MM_is_14 : decode y_MM_is.2.1 14 = .ok (.iconst 0, 1) := dc9_3 (by decide +kernel)
theorem d_MM_is_15 : decode y_MM_is.2.1 15 = .ok (.istore 4, 2) := dc9_54 (by decide +kernel)
theorem d_MM_is_17 : decode y_MM_is.2.1 17 = .ok (.iconst 0, 1) := dc9_3 (by decide +kernel)
theorem d_MM_is_18 : decode y_MM_is.2.1 18 = .ok (.istore 5, 2) := dc9_54 (by decide +kernel)
theorem d_MM_is_20 : decode y_MM_is.2.1 20 = .ok (.iload 4, 2) := dc9_21 (by decide +kernel)
theorem d_MM_is_22 : decode y_MM_is.2.1 22 = .ok (.ifCond .eq 42, 3) := dc9_153 (by decide +kernel)
theorem d_MM_is_25 : decode y_MM_is.2.1 25 = .ok (.iload 5, 2) := dc9_21 (by decide +kernel)
theorem d_MM_is_27 : decode y_MM_is.2.1 27 = .ok (.aload_n 3, 1) := dc9_45 (by decide +kernel)
theorem d_MM_is_28 : decode y_MM_is.2.1 28 = .ok (.invokevirtual 166, 3) := dc9_182 (by decide +kernel)
theorem d_MM_is_31 : decode y_MM_is.2.1 31 = .ok (.if_icmp .ge 33, 3) := dc9_162 (by decide +kernel)
theorem d_MM_is_34 : decode y_MM_is.2.1 34 = .ok (.aload_n 0, 1) := dc9_42 (by decide +kernel)
theorem d_MM_is_35 : decode y_MM_is.2.1 35 = .ok (.iload_n 1, 1) := dc9_27 (by decide +kernel)
theorem d_MM_is_36 : decode y_MM_is.2.1 36 = .ok (.iload 5, 2) := dc9_21 (by decide +kernel)
theorem d_MM_is_38 : decode y_MM_is.2.1 38 = .ok (.iadd, 1) := dc9_96 (by decide +kernel)
theorem d_MM_is_39 : decode y_MM_is.2.1 39 = .ok (.invokevirtual 159, 3) := dc9_182 (by decide +kernel)
theorem d_MM_is_42 : decode y_MM_is.2.1 42 = .ok (.aload_n 3, 1) := dc9_45 (by decide +kernel)
theorem d_MM_is_43 : decode y_MM_is.2.1 43 = .ok (.iload 5, 2) := dc9_21 (by decide +kernel)
theorem d_MM_is_45 : decode y_MM_is.2.1 45 = .ok (.invokevirtual 172, 3) := dc9_182 (by decide +kernel)
theorem d_MM_is_48 : decode y_MM_is.2.1 48 = .ok (.if_icmp .ne 7, 3) := dc9_160 (by decide +kernel)
theorem d_MM_is_51 : decode y_MM_is.2.1 51 = .ok (.iconst 1, 1) := dc9_4 (by decide +kernel)
theorem d_MM_is_52 : decode y_MM_is.2.1 52 = .ok (.goto 4, 3) := dc9_167 (by decide +kernel)
theorem d_MM_is_55 : decode y_MM_is.2.1 55 = .ok (.iconst 0, 1) := dc9_3 (by decide +kernel)
theorem d_MM_is_56 : decode y_MM_is.2.1 56 = .ok (.istore 4, 2) := dc9_54 (by decide +kernel)
theorem d_MM_is_58 : decode y_MM_is.2.1 58 = .ok (.iinc 5 1, 3) := by decide +kernel
theorem d_MM_is_61 : decode y_MM_is.2.1 61 = .ok (.goto (-41), 3) := dc9_167 (by decide +kernel)
theorem d_MM_is_64 : decode y_MM_is.2.1 64 = .ok (.iload 4, 2) := dc9_21 (by decide +kernel)
theorem d_MM_is_66 : decode y_MM_is.2.1 66 = .ok (.ireturn, 1) := dc9_172 (by decide +kernel)
theorem d_MM_wordKind_0 : decode y_MM_wordKind.2.1 0 = .ok (.aload_n 0, 1) := dc9_42 (by decide +kernel)
theorem d_MM_wordKind_1 : decode y_MM_wordKind.2.1 1 = .ok (.iload_n 1, 1) := dc9_27 (by decide +kernel)
theorem d_MM_wordKind_2 : decode y_MM_wordKind.2.1 2 = .ok (.invokevirtual 159, 3) := dc9_182 (by decide +kernel)
theorem d_MM_wordKind_5 : decode y_MM_wordKind.2.1 5 = .ok (.tableswitch 322 98 118 #[133, 99, 322, 322, 150, 322, 322, 234, 322, 322, 304, 184, 322, 322, 322, 322, 322, 252, 270, 322, 116], 99) := by decide +kernel
theorem d_MM_wordKind_104 : decode y_MM_wordKind.2.1 104 = .ok (.aload_n 0, 1) := dc9_42 (by decide +kernel)
theorem d_MM_wordKind_105 : decode y_MM_wordKind.2.1 105 = .ok (.iload_n 1, 1) := dc9_27 (by decide +kernel)
theorem d_MM_wordKind_106 : decode y_MM_wordKind.2.1 106 = .ok (.iload_n 2, 1) := dc9_28 (by decide +kernel)
theorem d_MM_wordKind_107 : decode y_MM_wordKind.2.1 107 = .ok (.ldc 176, 2) := dc9_18 (by decide +kernel)
theorem d_MM_wordKind_109 : decode y_MM_wordKind.2.1 109 = .ok (.invokevirtual 178, 3) := dc9_182 (by decide +kernel)
theorem d_MM_wordKind_112 : decode y_MM_wordKind.2.1 112 = .ok (.ifCond .eq 7, 3) := dc9_153 (by decide +kernel)
theorem d_MM_wordKind_115 : decode y_MM_wordKind.2.1 115 = .ok (.iconst 3, 1) := dc9_6 (by decide +kernel)
theorem d_MM_wordKind_116 : decode y_MM_wordKind.2.1 116 = .ok (.goto 4, 3) := dc9_167 (by decide +kernel)
theorem d_MM_wordKind_119 : decode y_MM_wordKind.2.1 119 = .ok (.iconst 1, 1) := dc9_4 (by decide +kernel)
theorem d_MM_wordKind_120 : decode y_MM_wordKind.2.1 120 = .ok (.ireturn, 1) := dc9_172 (by decide +kernel)
theorem d_MM_wordKind_121 : decode y_MM_wordKind.2.1 121 = .ok (.aload_n 0, 1) := dc9_42 (by decide +kernel)
theorem d_MM_wordKind_122 : decode y_MM_wordKind.2.1 122 = .ok (.iload_n 1, 1) := dc9_27 (by decide +kernel)
theorem d_MM_wordKind_123 : decode y_MM_wordKind.2.1 123 = .ok (.iload_n 2, 1) := dc9_28 (by decide +kernel)
theorem d_MM_wordKind_124 : decode y_MM_wordKind.2.1 124 = .ok (.ldc 182, 2) := dc9_18 (by decide +kernel)
theorem d_MM_wordKind_126 : decode y_MM_wordKind.2.1 126 = .ok (.invokevirtual 178, 3) := dc9_182 (by decide +kernel)
theorem d_MM_wordKind_129 : decode y_MM_wordKind.2.1 129 = .ok (.ifCond .eq 7, 3) := dc9_153 (by decide +kernel)
theorem d_MM_wordKind_132 : decode y_MM_wordKind.2.1 132 = .ok (.iconst 4, 1) := dc9_7 (by decide +kernel)
theorem d_MM_wordKind_133 : decode y_MM_wordKind.2.1 133 = .ok (.goto 4, 3) := dc9_167 (by decide +kernel)
theorem d_MM_wordKind_136 : decode y_MM_wordKind.2.1 136 = .ok (.iconst 1, 1) := dc9_4 (by decide +kernel)
theorem d_MM_wordKind_137 : decode y_MM_wordKind.2.1 137 = .ok (.ireturn, 1) := dc9_172 (by decide +kernel)
theorem d_MM_wordKind_138 : decode y_MM_wordKind.2.1 138 = .ok (.aload_n 0, 1) := dc9_42 (by decide +kernel)
theorem d_MM_wordKind_139 : decode y_MM_wordKind.2.1 139 = .ok (.iload_n 1, 1) := dc9_27 (by decide +kernel)
theorem d_MM_wordKind_140 : decode y_MM_wordKind.2.1 140 = .ok (.iload_n 2, 1) := dc9_28 (by decide +kernel)
theorem d_MM_wordKind_141 : decode y_MM_wordKind.2.1 141 = .ok (.ldc 184, 2) := dc9_18 (by decide +kernel)
theorem d_MM_wordKind_143 : decode y_MM_wordKind.2.1 143 = .ok (.invokevirtual 178, 3) := dc9_182 (by decide +kernel)
theorem d_MM_wordKind_146 : decode y_MM_wordKind.2.1 146 = .ok (.ifCond .eq 7, 3) := dc9_153 (by decide +kernel)
theorem d_MM_wordKind_149 : decode y_MM_wordKind.2.1 149 = .ok (.iconst 5, 1) := dc9_8 (by decide +kernel)
theorem d_MM_wordKind_150 : decode y_MM_wordKind.2.1 150 = .ok (.goto 4, 3) := dc9_167 (by decide +kernel)
theorem d_MM_wordKind_153 : decode y_MM_wordKind.2.1 153 = .ok (.iconst 1, 1) := dc9_4 (by decide +kernel)
theorem d_MM_wordKind_154 : decode y_MM_wordKind.2.1 154 = .ok (.ireturn, 1) := dc9_172 (by decide +kernel)
theorem d_MM_wordKind_155 : decode y_MM_wordKind.2.1 155 = .ok (.aload_n 0, 1) := dc9_42 (by decide +kernel)
theorem d_MM_wordKind_156 : decode y_MM_wordKind.2.1 156 = .ok (.iload_n 1, 1) := dc9_27 (by decide +kernel)
theorem d_MM_wordKind_157 : decode y_MM_wordKind.2.1 157 = .ok (.iload_n 2, 1) := dc9_28 (by decide +kernel)
theorem d_MM_wordKind_158 : decode y_MM_wordKind.2.1 158 = .ok (.ldc 186, 2) := dc9_18 (by decide +kernel)
theorem d_MM_wordKind_160 : decode y_MM_wordKind.2.1 160 = .ok (.invokevirtual 178, 3) := dc9_182 (by decide +kernel)
theorem d_MM_wordKind_163 : decode y_MM_wordKind.2.1 163 = .ok (.ifCond .eq 8, 3) := dc9_153 (by decide +kernel)
theorem d_MM_wordKind_166 : decode y_MM_wordKind.2.1 166 = .ok (.bipush 6, 2) := dc9_16 (by decide +kernel)
theorem d_MM_wordKind_168 : decode y_MM_wordKind.2.1 168 = .ok (.goto 20, 3) := dc9_167 (by decide +kernel)
theorem d_MM_wordKind_171 : decode y_MM_wordKind.2.1 171 = .ok (.aload_n 0, 1) := dc9_42 (by decide +kernel)
theorem d_MM_wordKind_172 : decode y_MM_wordKind.2.1 172 = .ok (.iload_n 1, 1) := dc9_27 (by decide +kernel)
theorem d_MM_wordKind_173 : decode y_MM_wordKind.2.1 173 = .ok (.iload_n 2, 1) := dc9_28 (by decide +kernel)
theorem d_MM_wordKind_174 : decode y_MM_wordKind.2.1 174 = .ok (.ldc 188, 2) := dc9_18 (by decide +kernel)
theorem d_MM_wordKind_176 : decode y_MM_wordKind.2.1 176 = .ok (.invokevirtual 178, 3) := dc9_182 (by decide +kernel)
theorem d_MM_wordKind_179 : decode y_MM_wordKind.2.1 179 = .ok (.ifCond .eq 8, 3) := dc9_153 (by decide +kernel)
theorem d_MM_wordKind_182 : decode y_MM_wordKind.2.1 182 = .ok (.bipush 13, 2) := dc9_16 (by decide +kernel)
theorem d_MM_wordKind_184 : decode y_MM_wordKind.2.1 184 = .ok (.goto 4, 3) := dc9_167 (by decide +kernel)
theorem d_MM_wordKind_187 : decode y_MM_wordKind.2.1 187 = .ok (.iconst 1, 1) := dc9_4 (by decide +kernel)
theorem d_MM_wordKind_188 : decode y_MM_wordKind.2.1 188 = .ok (.ireturn, 1) := dc9_172 (by decide +kernel)
theorem d_MM_wordKind_189 : decode y_MM_wordKind.2.1 189 = .ok (.aload_n 0, 1) := dc9_42 (by decide +kernel)
theorem d_MM_wordKind_190 : decode y_MM_wordKind.2.1 190 = .ok (.iload_n 1, 1) := dc9_27 (by decide +kernel)
theorem d_MM_wordKind_191 : decode y_MM_wordKind.2.1 191 = .ok (.iload_n 2, 1) := dc9_28 (by decide +kernel)
theorem d_MM_wordKind_192 : decode y_MM_wordKind.2.1 192 = .ok (.ldc 190, 2) := dc9_18 (by decide +kernel)
theorem d_MM_wordKind_194 : decode y_MM_wordKind.2.1 194 = .ok (.invokevirtual 178, 3) := dc9_182 (by decide +kernel)
theorem d_MM_wordKind_197 : decode y_MM_wordKind.2.1 197 = .ok (.ifCond .eq 8, 3) := dc9_153 (by decide +kernel)
theorem d_MM_wordKind_200 : decode y_MM_wordKind.2.1 200 = .ok (.bipush 7, 2) := dc9_16 (by decide +kernel)
theorem d_MM_wordKind_202 : decode y_MM_wordKind.2.1 202 = .ok (.goto 36, 3) := dc9_167 (by decide +kernel)
theorem d_MM_wordKind_205 : decode y_MM_wordKind.2.1 205 = .ok (.aload_n 0, 1) := dc9_42 (by decide +kernel)
theorem d_MM_wordKind_206 : decode y_MM_wordKind.2.1 206 = .ok (.iload_n 1, 1) := dc9_27 (by decide +kernel)
theorem d_MM_wordKind_207 : decode y_MM_wordKind.2.1 207 = .ok (.iload_n 2, 1) := dc9_28 (by decide +kernel)
theorem d_MM_wordKind_208 : decode y_MM_wordKind.2.1 208 = .ok (.ldc 192, 2) := dc9_18 (by decide +kernel)
theorem d_MM_wordKind_210 : decode y_MM_wordKind.2.1 210 = .ok (.invokevirtual 178, 3) := dc9_182 (by decide +kernel)
theorem d_MM_wordKind_213 : decode y_MM_wordKind.2.1 213 = .ok (.ifCond .eq 8, 3) := dc9_153 (by decide +kernel)
theorem d_MM_wordKind_216 : decode y_MM_wordKind.2.1 216 = .ok (.bipush 8, 2) := dc9_16 (by decide +kernel)
theorem d_MM_wordKind_218 : decode y_MM_wordKind.2.1 218 = .ok (.goto 20, 3) := dc9_167 (by decide +kernel)
theorem d_MM_wordKind_221 : decode y_MM_wordKind.2.1 221 = .ok (.aload_n 0, 1) := dc9_42 (by decide +kernel)
theorem d_MM_wordKind_222 : decode y_MM_wordKind.2.1 222 = .ok (.iload_n 1, 1) := dc9_27 (by decide +kernel)
theorem d_MM_wordKind_223 : decode y_MM_wordKind.2.1 223 = .ok (.iload_n 2, 1) := dc9_28 (by decide +kernel)
theorem d_MM_wordKind_224 : decode y_MM_wordKind.2.1 224 = .ok (.ldc 194, 2) := dc9_18 (by decide +kernel)
theorem d_MM_wordKind_226 : decode y_MM_wordKind.2.1 226 = .ok (.invokevirtual 178, 3) := dc9_182 (by decide +kernel)
theorem d_MM_wordKind_229 : decode y_MM_wordKind.2.1 229 = .ok (.ifCond .eq 8, 3) := dc9_153 (by decide +kernel)
theorem d_MM_wordKind_232 : decode y_MM_wordKind.2.1 232 = .ok (.bipush 15, 2) := dc9_16 (by decide +kernel)
theorem d_MM_wordKind_234 : decode y_MM_wordKind.2.1 234 = .ok (.goto 4, 3) := dc9_167 (by decide +kernel)
theorem d_MM_wordKind_237 : decode y_MM_wordKind.2.1 237 = .ok (.iconst 1, 1) := dc9_4 (by decide +kernel)
theorem d_MM_wordKind_238 : decode y_MM_wordKind.2.1 238 = .ok (.ireturn, 1) := dc9_172 (by decide +kernel)
theorem d_MM_wordKind_239 : decode y_MM_wordKind.2.1 239 = .ok (.aload_n 0, 1) := dc9_42 (by decide +kernel)
theorem d_MM_wordKind_240 : decode y_MM_wordKind.2.1 240 = .ok (.iload_n 1, 1) := dc9_27 (by decide +kernel)
theorem d_MM_wordKind_241 : decode y_MM_wordKind.2.1 241 = .ok (.iload_n 2, 1) := dc9_28 (by decide +kernel)
theorem d_MM_wordKind_242 : decode y_MM_wordKind.2.1 242 = .ok (.ldc 196, 2) := dc9_18 (by decide +kernel)
theorem d_MM_wordKind_244 : decode y_MM_wordKind.2.1 244 = .ok (.invokevirtual 178, 3) := dc9_182 (by decide +kernel)
theorem d_MM_wordKind_247 : decode y_MM_wordKind.2.1 247 = .ok (.ifCond .eq 8, 3) := dc9_153 (by decide +kernel)
theorem d_MM_wordKind_250 : decode y_MM_wordKind.2.1 250 = .ok (.bipush 9, 2) := dc9_16 (by decide +kernel)
theorem d_MM_wordKind_252 : decode y_MM_wordKind.2.1 252 = .ok (.goto 4, 3) := dc9_167 (by decide +kernel)
theorem d_MM_wordKind_255 : decode y_MM_wordKind.2.1 255 = .ok (.iconst 1, 1) := dc9_4 (by decide +kernel)
theorem d_MM_wordKind_256 : decode y_MM_wordKind.2.1 256 = .ok (.ireturn, 1) := dc9_172 (by decide +kernel)
theorem d_MM_wordKind_257 : decode y_MM_wordKind.2.1 257 = .ok (.aload_n 0, 1) := dc9_42 (by decide +kernel)
theorem d_MM_wordKind_258 : decode y_MM_wordKind.2.1 258 = .ok (.iload_n 1, 1) := dc9_27 (by decide +kernel)
theorem d_MM_wordKind_259 : decode y_MM_wordKind.2.1 259 = .ok (.iload_n 2, 1) := dc9_28 (by decide +kernel)
theorem d_MM_wordKind_260 : decode y_MM_wordKind.2.1 260 = .ok (.ldc 198, 2) := dc9_18 (by decide +kernel)
theorem d_MM_wordKind_262 : decode y_MM_wordKind.2.1 262 = .ok (.invokevirtual 178, 3) := dc9_182 (by decide +kernel)
theorem d_MM_wordKind_265 : decode y_MM_wordKind.2.1 265 = .ok (.ifCond .eq 8, 3) := dc9_153 (by decide +kernel)
theorem d_MM_wordKind_268 : decode y_MM_wordKind.2.1 268 = .ok (.bipush 10, 2) := dc9_16 (by decide +kernel)
theorem d_MM_wordKind_270 : decode y_MM_wordKind.2.1 270 = .ok (.goto 4, 3) := dc9_167 (by decide +kernel)
theorem d_MM_wordKind_273 : decode y_MM_wordKind.2.1 273 = .ok (.iconst 1, 1) := dc9_4 (by decide +kernel)
theorem d_MM_wordKind_274 : decode y_MM_wordKind.2.1 274 = .ok (.ireturn, 1) := dc9_172 (by decide +kernel)
theorem d_MM_wordKind_275 : decode y_MM_wordKind.2.1 275 = .ok (.aload_n 0, 1) := dc9_42 (by decide +kernel)
theorem d_MM_wordKind_276 : decode y_MM_wordKind.2.1 276 = .ok (.iload_n 1, 1) := dc9_27 (by decide +kernel)
theorem d_MM_wordKind_277 : decode y_MM_wordKind.2.1 277 = .ok (.iload_n 2, 1) := dc9_28 (by decide +kernel)
theorem d_MM_wordKind_278 : decode y_MM_wordKind.2.1 278 = .ok (.ldc 200, 2) := dc9_18 (by decide +kernel)
theorem d_MM_wordKind_280 : decode y_MM_wordKind.2.1 280 = .ok (.invokevirtual 178, 3) := dc9_182 (by decide +kernel)
theorem d_MM_wordKind_283 : decode y_MM_wordKind.2.1 283 = .ok (.ifCond .eq 8, 3) := dc9_153 (by decide +kernel)
theorem d_MM_wordKind_286 : decode y_MM_wordKind.2.1 286 = .ok (.bipush 11, 2) := dc9_16 (by decide +kernel)
theorem d_MM_wordKind_288 : decode y_MM_wordKind.2.1 288 = .ok (.goto 20, 3) := dc9_167 (by decide +kernel)
theorem d_MM_wordKind_291 : decode y_MM_wordKind.2.1 291 = .ok (.aload_n 0, 1) := dc9_42 (by decide +kernel)
theorem d_MM_wordKind_292 : decode y_MM_wordKind.2.1 292 = .ok (.iload_n 1, 1) := dc9_27 (by decide +kernel)
theorem d_MM_wordKind_293 : decode y_MM_wordKind.2.1 293 = .ok (.iload_n 2, 1) := dc9_28 (by decide +kernel)
theorem d_MM_wordKind_294 : decode y_MM_wordKind.2.1 294 = .ok (.ldc 202, 2) := dc9_18 (by decide +kernel)
theorem d_MM_wordKind_296 : decode y_MM_wordKind.2.1 296 = .ok (.invokevirtual 178, 3) := dc9_182 (by decide +kernel)
theorem d_MM_wordKind_299 : decode y_MM_wordKind.2.1 299 = .ok (.ifCond .eq 8, 3) := dc9_153 (by decide +kernel)
theorem d_MM_wordKind_302 : decode y_MM_wordKind.2.1 302 = .ok (.bipush 12, 2) := dc9_16 (by decide +kernel)
theorem d_MM_wordKind_304 : decode y_MM_wordKind.2.1 304 = .ok (.goto 4, 3) := dc9_167 (by decide +kernel)
theorem d_MM_wordKind_307 : decode y_MM_wordKind.2.1 307 = .ok (.iconst 1, 1) := dc9_4 (by decide +kernel)
theorem d_MM_wordKind_308 : decode y_MM_wordKind.2.1 308 = .ok (.ireturn, 1) := dc9_172 (by decide +kernel)
theorem d_MM_wordKind_309 : decode y_MM_wordKind.2.1 309 = .ok (.aload_n 0, 1) := dc9_42 (by decide +kernel)
theorem d_MM_wordKind_310 : decode y_MM_wordKind.2.1 310 = .ok (.iload_n 1, 1) := dc9_27 (by decide +kernel)
theorem d_MM_wordKind_311 : decode y_MM_wordKind.2.1 311 = .ok (.iload_n 2, 1) := dc9_28 (by decide +kernel)
theorem d_MM_wordKind_312 : decode y_MM_wordKind.2.1 312 = .ok (.ldc 204, 2) := dc9_18 (by decide +kernel)
theorem d_MM_wordKind_314 : decode y_MM_wordKind.2.1 314 = .ok (.invokevirtual 178, 3) := dc9_182 (by decide +kernel)
theorem d_MM_wordKind_317 : decode y_MM_wordKind.2.1 317 = .ok (.ifCond .eq 8, 3) := dc9_153 (by decide +kernel)
theorem d_MM_wordKind_320 : decode y_MM_wordKind.2.1 320 = .ok (.bipush 14, 2) := dc9_16 (by decide +kernel)
theorem d_MM_wordKind_322 : decode y_MM_wordKind.2.1 322 = .ok (.goto 4, 3) := dc9_167 (by decide +kernel)
theorem d_MM_wordKind_325 : decode y_MM_wordKind.2.1 325 = .ok (.iconst 1, 1) := dc9_4 (by decide +kernel)
theorem d_MM_wordKind_326 : decode y_MM_wordKind.2.1 326 = .ok (.ireturn, 1) := dc9_172 (by decide +kernel)
theorem d_MM_wordKind_327 : decode y_MM_wordKind.2.1 327 = .ok (.iconst 1, 1) := dc9_4 (by decide +kernel)
theorem d_MM_wordKind_328 : decode y_MM_wordKind.2.1 328 = .ok (.ireturn, 1) := dc9_172 (by decide +kernel)
section NAM
variable {G : mG} {d pc t n w T A B D N C p a : Nat} {f : Nat → Int} {M : mM} {Q : Option mV → mM → Prop}
theorem s_Wo_spells (hJ : JD G) (hs : Str G t n f) (hO : mOk M) (h : WA M w T A B D N C) (hp : p + n ≤ N) : Ci G y_Wo_spells (d + 4) [vr w, vi p, vo t] M (fun r M' => M' = M ∧ (r = 0 ∨ r = 1) ∧ (r = 1 ↔ ∀ j, j < n → mI M T (p + j) = f j)) := by
  obtain ⟨A0, hv, hT⟩ := hs.2.2
  have hn := hT.2.1
  obtain ⟨k2, ⟨r0, -⟩, ⟨kT, nT⟩, -, -, -, hN, -⟩ := h
  have step : ∀ i : Nat, i ≤ n → (∀ j, j < i → mI M T (p + j) = f j) → (i < n → mI M T (p + i) = f i → mWm G y_Wo_spells (d + 4) 2 [vr w, vi p, vo t, vi ((i + 1 : Nat) : Int)] [] M (fun r M' => ∃ x, r = some (vi x) ∧ M' = M ∧ (x = 0 ∨ x = 1) ∧ (x = 1 ↔ ∀ j, j < n → mI M T (p + j) = f j))) → mWm G y_Wo_spells (d + 4) 2 [vr w, vi p, vo t, vi (i : Int)] [] M (fun r M' => ∃ x, r = some (vi x) ∧ M' = M ∧ (x = 0 ∨ x = 1) ∧ (x = 1 ↔ ∀ j, j < n → mI M T (p + j) = f j)) := by
    intro i hi hj0 ih
    refine wm_iload_n d_Wo_spells_2 rfl rfl ?_
    refine wm_aldO_n d_Wo_spells_3 rfl rfl ?_
    refine wm_strLen (d := d + 2) hJ hs kt_lenW (Nat.le_of_ble_eq_true rfl) d_Wo_spells_4 ?_
    refine wm_icmp_ge (tgt := 34) d_Wo_spells_7 rfl ⟨by omega, by omega⟩ ⟨by omega, by omega⟩ (fun c0 => ?_) (fun c => ?_)
    · refine wm_iconst d_Wo_spells_34 ?_
      refine wm_ireturn d_Wo_spells_35 rfl rfl ?_
      exact ⟨_, rfl, rfl, Or.inr rfl, fun _ j hj => hj0 j (by omega), fun _ => rfl⟩
    · have hin : i < n := by omega
      refine wm_aload_n d_Wo_spells_10 rfl rfl ?_
      refine gf_Wo_9 rfl d_Wo_spells_11 k2 ?_
      rw [r0]
      refine wm_iload_n d_Wo_spells_14 rfl rfl ?_
      refine wm_iload_n d_Wo_spells_15 rfl rfl ?_
      refine wm_iadd d_Wo_spells_16 ?_
      refine wm_cald d_Wo_spells_17 kT ⟨by omega, by omega⟩ ?_
      refine wm_aldO_n d_Wo_spells_18 rfl rfl ?_
      refine wm_iload_n d_Wo_spells_19 rfl rfl ?_
      refine wm_strAt (d := d) hJ hs hin kt_chaW (Nat.le_of_ble_eq_true rfl) d_Wo_spells_20 ?_
      have hf := hT.2.2 i hin
      refine wm_icmp_eq (tgt := 28) d_Wo_spells_23 rfl (hO _ _).1 ⟨by omega, by omega⟩ (fun ce => ?_) (fun cn => ?_)
      · refine wm_iinc d_Wo_spells_28 (by decide) rfl (L' := [vr w, vi p, vo t, vi ((i : Int) + 1)]) rfl ?_
        refine wm_goto (tgt := 2) d_Wo_spells_31 rfl ?_
        have ih := ih hin (by rw [show p + i = ((p : Int) + (i : Int)).toNat by first | rfl | omega]; exact ce)
        rw [show ((i + 1 : Nat) : Int) = (i : Int) + 1 by first | rfl | omega] at ih
        exact ih
      · refine wm_iconst d_Wo_spells_26 ?_
        refine wm_ireturn d_Wo_spells_27 rfl rfl ?_
        exact ⟨_, rfl, rfl, Or.inl rfl, fun e => absurd e (by decide), fun e => absurd (e i hin) (by rw [show p + i = ((p : Int) + (i : Int)).toNat by first | rfl | omega]; exact cn)⟩
  have all : ∀ q i : Nat, n = i + q → (∀ j, j < i → mI M T (p + j) = f j) → mWm G y_Wo_spells (d + 4) 2 [vr w, vi p, vo t, vi (i : Int)] [] M (fun r M' => ∃ x, r = some (vi x) ∧ M' = M ∧ (x = 0 ∨ x = 1) ∧ (x = 1 ↔ ∀ j, j < n → mI M T (p + j) = f j)) := by
    intro q
    induction q with
    | zero => exact fun i e hj => step i (by omega) hj (fun c => by omega)
    | succ q ih => exact fun i e hj => step i (by omega) hj (fun _ ce => ih (i + 1) (by omega) (fun j hj1 => by
        by_cases cj : j < i
        · exact hj j cj
        · rw [show j = i by first | rfl | omega]; exact ce))
  refine wm_open (y := y_Wo_spells) rfl (Nat.le_of_ble_eq_true rfl) (L := [vr w, vi p, vo t, vd]) rfl ?_
  refine wm_iconst d_Wo_spells_0 ?_
  refine wm_istore_n d_Wo_spells_1 rfl (by decide) (L' := [vr w, vi p, vo t, vi 0]) rfl ?_
  exact all n 0 (by omega) (fun j hj => absurd hj (by omega))
theorem ns_test {tx : String} {l : List Int} {k tgt : Nat} {off : Int} (hJ : JD G) (hl : Lit G "ChanceArena$Words" k tx l) (hO : mOk M) (h : WA M w T A B D N C) (hp : p + l.length ≤ N) (hnl : n = l.length) (h0 : decode y_Wo_nameSort.2.1 pc = .ok (.aload_n 0, 1)) (h1 : decode y_Wo_nameSort.2.1 (pc + 1) = .ok (.iload_n 1, 1)) (h2 : decode y_Wo_nameSort.2.1 (pc + 2) = .ok (.ldc k, 2)) (h3 : decode y_Wo_nameSort.2.1 (pc + 4) = .ok (.invokevirtual 74, 3)) (h4 : decode y_Wo_nameSort.2.1 (pc + 7) = .ok (.ifCond .eq off, 3)) (ht : ((pc + 7 : Nat) : Int) + off = (tgt : Int)) (kt : wlq (mI M T) p (p + n) ≠ l → mWm G y_Wo_nameSort (d + 5) tgt [vr w, vi p, vi n] [] M Q) (kf : wlq (mI M T) p (p + n) = l → mWm G y_Wo_nameSort (d + 5) (pc + 10) [vr w, vi p, vi n] [] M Q) : mWm G y_Wo_nameSort (d + 5) pc [vr w, vi p, vi n] [] M Q := by
  obtain ⟨t, hr, hs⟩ := hl
  refine wm_aload_n h0 rfl rfl ?_
  refine wm_iload_n h1 rfl rfl ?_
  refine wm_ldcS rfl hr h2 ?_
  refine wm_callV (y2 := y_Wo_spells) (c := 1) (n := 2) (As := [vi p, vo t]) rfl rfl rfl kt_spL kt_spI ks_Wo_spells k1_2 kt_spC ⟨by decide, by decide, by decide +kernel⟩ (by decide) rfl rfl (Nat.le_of_ble_eq_true rfl) h3 h.1 ?_
  refine mCm.mono (s_Wo_spells (d := d) hJ hs hO h hp) (fun r M' q => ?_)
  obtain ⟨x, rfl, rfl, hx, hi⟩ := q
  have hw : x = 1 ↔ wlq (mI M' T) p (p + n) = l := by
    rw [hi, wlq_eq]
    exact ⟨fun u => ⟨by omega, u⟩, fun u => u.2⟩
  exact wm_if_eq h4 ht (by rcases hx with e | e <;> subst e <;> exact ⟨by decide, by decide⟩) (fun c => kt (fun u => absurd (hw.mpr u) (by omega))) (fun c => kf (hw.mp (by omega)))
theorem s_Wo_nameSort (hJ : JD G) (hL : ∀ q, q ∈ litBW → Lit G "ChanceArena$Words" q.1 q.2.1 q.2.2) (hO : mOk M) (h : WA M w T A B D N C) (hp : p + n ≤ N) (hn : n ≤ 40) : Ci G y_Wo_nameSort (d + 5) [vr w, vi p, vi n] M (fun r M' => M' = M ∧ (2 ≤ r ∧ r ≤ 16 ∧ r ≠ 3) ∧ r = kwq (wlq (mI M T) p (p + n)) + 1) := by
  have hlen : (wlq (mI M T) p (p + n)).length = n := by rw [wlq_len]; omega
  refine wm_open (y := y_Wo_nameSort) rfl (Nat.le_of_ble_eq_true rfl) (L := [vr w, vi p, vi n]) rfl ?_
  refine (?_ : ∀ Q9 : Option mV → mM → Prop, (∀ x : Int, 2 ≤ x → x ≤ 16 → x ≠ 3 → x = kwq (wlq (mI M T) p (p + n)) + 1 → Q9 (some (vi x)) M) → mWm G y_Wo_nameSort (d + 5) 0 [vr w, vi p, vi n] [] M Q9) _ (fun x a b c e => ⟨x, rfl, rfl, ⟨a, b, c⟩, e⟩)
  intro Q9 hend
  have B46 : kwq (wlq (mI M T) p (p + n)) = 4 → mWm G y_Wo_nameSort (d + 5) 46 [vr w, vi p, vi n] [] M Q9 := fun ek => by
    refine wm_iconst d_Wo_nameSort_46 ?_
    refine wm_goto (tgt := 81) d_Wo_nameSort_47 rfl ?_
    refine wm_ireturn d_Wo_nameSort_81 rfl rfl ?_
    exact hend _ (by decide) (by decide) (by decide) (Eq.trans (by decide) (congrArg (· + 1) ek.symm))
  have B60 : kwq (wlq (mI M T) p (p + n)) = 7 → mWm G y_Wo_nameSort (d + 5) 60 [vr w, vi p, vi n] [] M Q9 := fun ek => by
    refine wm_bipush d_Wo_nameSort_60 (by decide) ?_
    refine wm_goto (tgt := 81) d_Wo_nameSort_62 rfl ?_
    refine wm_ireturn d_Wo_nameSort_81 rfl rfl ?_
    exact hend _ (by decide) (by decide) (by decide) (Eq.trans (by decide) (congrArg (· + 1) ek.symm))
  have B75 : kwq (wlq (mI M T) p (p + n)) = 8 → mWm G y_Wo_nameSort (d + 5) 75 [vr w, vi p, vi n] [] M Q9 := fun ek => by
    refine wm_bipush d_Wo_nameSort_75 (by decide) ?_
    refine wm_goto (tgt := 81) d_Wo_nameSort_77 rfl ?_
    refine wm_ireturn d_Wo_nameSort_81 rfl rfl ?_
    exact hend _ (by decide) (by decide) (by decide) (Eq.trans (by decide) (congrArg (· + 1) ek.symm))
  have B80 : kwq (wlq (mI M T) p (p + n)) = 1 → mWm G y_Wo_nameSort (d + 5) 80 [vr w, vi p, vi n] [] M Q9 := fun ek => by
    refine wm_iconst d_Wo_nameSort_80 ?_
    refine wm_ireturn d_Wo_nameSort_81 rfl rfl ?_
    exact hend _ (by decide) (by decide) (by decide) (Eq.trans (by decide) (congrArg (· + 1) ek.symm))
  have B92 : kwq (wlq (mI M T) p (p + n)) = 12 → mWm G y_Wo_nameSort (d + 5) 92 [vr w, vi p, vi n] [] M Q9 := fun ek => by
    refine wm_bipush d_Wo_nameSort_92 (by decide) ?_
    refine wm_goto (tgt := 158) d_Wo_nameSort_94 rfl ?_
    refine wm_ireturn d_Wo_nameSort_158 rfl rfl ?_
    exact hend _ (by decide) (by decide) (by decide) (Eq.trans (by decide) (congrArg (· + 1) ek.symm))
  have B107 : kwq (wlq (mI M T) p (p + n)) = 10 → mWm G y_Wo_nameSort (d + 5) 107 [vr w, vi p, vi n] [] M Q9 := fun ek => by
    refine wm_bipush d_Wo_nameSort_107 (by decide) ?_
    refine wm_goto (tgt := 158) d_Wo_nameSort_109 rfl ?_
    refine wm_ireturn d_Wo_nameSort_158 rfl rfl ?_
    exact hend _ (by decide) (by decide) (by decide) (Eq.trans (by decide) (congrArg (· + 1) ek.symm))
  have B122 : kwq (wlq (mI M T) p (p + n)) = 5 → mWm G y_Wo_nameSort (d + 5) 122 [vr w, vi p, vi n] [] M Q9 := fun ek => by
    refine wm_bipush d_Wo_nameSort_122 (by decide) ?_
    refine wm_goto (tgt := 158) d_Wo_nameSort_124 rfl ?_
    refine wm_ireturn d_Wo_nameSort_158 rfl rfl ?_
    exact hend _ (by decide) (by decide) (by decide) (Eq.trans (by decide) (congrArg (· + 1) ek.symm))
  have B137 : kwq (wlq (mI M T) p (p + n)) = 9 → mWm G y_Wo_nameSort (d + 5) 137 [vr w, vi p, vi n] [] M Q9 := fun ek => by
    refine wm_bipush d_Wo_nameSort_137 (by decide) ?_
    refine wm_goto (tgt := 158) d_Wo_nameSort_139 rfl ?_
    refine wm_ireturn d_Wo_nameSort_158 rfl rfl ?_
    exact hend _ (by decide) (by decide) (by decide) (Eq.trans (by decide) (congrArg (· + 1) ek.symm))
  have B152 : kwq (wlq (mI M T) p (p + n)) = 15 → mWm G y_Wo_nameSort (d + 5) 152 [vr w, vi p, vi n] [] M Q9 := fun ek => by
    refine wm_bipush d_Wo_nameSort_152 (by decide) ?_
    refine wm_goto (tgt := 158) d_Wo_nameSort_154 rfl ?_
    refine wm_ireturn d_Wo_nameSort_158 rfl rfl ?_
    exact hend _ (by decide) (by decide) (by decide) (Eq.trans (by decide) (congrArg (· + 1) ek.symm))
  have B157 : kwq (wlq (mI M T) p (p + n)) = 1 → mWm G y_Wo_nameSort (d + 5) 157 [vr w, vi p, vi n] [] M Q9 := fun ek => by
    refine wm_iconst d_Wo_nameSort_157 ?_
    refine wm_ireturn d_Wo_nameSort_158 rfl rfl ?_
    exact hend _ (by decide) (by decide) (by decide) (Eq.trans (by decide) (congrArg (· + 1) ek.symm))
  have B169 : kwq (wlq (mI M T) p (p + n)) = 3 → mWm G y_Wo_nameSort (d + 5) 169 [vr w, vi p, vi n] [] M Q9 := fun ek => by
    refine wm_iconst d_Wo_nameSort_169 ?_
    refine wm_goto (tgt := 204) d_Wo_nameSort_170 rfl ?_
    refine wm_ireturn d_Wo_nameSort_204 rfl rfl ?_
    exact hend _ (by decide) (by decide) (by decide) (Eq.trans (by decide) (congrArg (· + 1) ek.symm))
  have B183 : kwq (wlq (mI M T) p (p + n)) = 13 → mWm G y_Wo_nameSort (d + 5) 183 [vr w, vi p, vi n] [] M Q9 := fun ek => by
    refine wm_bipush d_Wo_nameSort_183 (by decide) ?_
    refine wm_goto (tgt := 204) d_Wo_nameSort_185 rfl ?_
    refine wm_ireturn d_Wo_nameSort_204 rfl rfl ?_
    exact hend _ (by decide) (by decide) (by decide) (Eq.trans (by decide) (congrArg (· + 1) ek.symm))
  have B198 : kwq (wlq (mI M T) p (p + n)) = 14 → mWm G y_Wo_nameSort (d + 5) 198 [vr w, vi p, vi n] [] M Q9 := fun ek => by
    refine wm_bipush d_Wo_nameSort_198 (by decide) ?_
    refine wm_goto (tgt := 204) d_Wo_nameSort_200 rfl ?_
    refine wm_ireturn d_Wo_nameSort_204 rfl rfl ?_
    exact hend _ (by decide) (by decide) (by decide) (Eq.trans (by decide) (congrArg (· + 1) ek.symm))
  have B203 : kwq (wlq (mI M T) p (p + n)) = 1 → mWm G y_Wo_nameSort (d + 5) 203 [vr w, vi p, vi n] [] M Q9 := fun ek => by
    refine wm_iconst d_Wo_nameSort_203 ?_
    refine wm_ireturn d_Wo_nameSort_204 rfl rfl ?_
    exact hend _ (by decide) (by decide) (by decide) (Eq.trans (by decide) (congrArg (· + 1) ek.symm))
  have B215 : kwq (wlq (mI M T) p (p + n)) = 11 → mWm G y_Wo_nameSort (d + 5) 215 [vr w, vi p, vi n] [] M Q9 := fun ek => by
    refine wm_bipush d_Wo_nameSort_215 (by decide) ?_
    refine wm_goto (tgt := 221) d_Wo_nameSort_217 rfl ?_
    refine wm_ireturn d_Wo_nameSort_221 rfl rfl ?_
    exact hend _ (by decide) (by decide) (by decide) (Eq.trans (by decide) (congrArg (· + 1) ek.symm))
  have B220 : kwq (wlq (mI M T) p (p + n)) = 1 → mWm G y_Wo_nameSort (d + 5) 220 [vr w, vi p, vi n] [] M Q9 := fun ek => by
    refine wm_iconst d_Wo_nameSort_220 ?_
    refine wm_ireturn d_Wo_nameSort_221 rfl rfl ?_
    exact hend _ (by decide) (by decide) (by decide) (Eq.trans (by decide) (congrArg (· + 1) ek.symm))
  have B232 : kwq (wlq (mI M T) p (p + n)) = 6 → mWm G y_Wo_nameSort (d + 5) 232 [vr w, vi p, vi n] [] M Q9 := fun ek => by
    refine wm_bipush d_Wo_nameSort_232 (by decide) ?_
    refine wm_goto (tgt := 238) d_Wo_nameSort_234 rfl ?_
    refine wm_ireturn d_Wo_nameSort_238 rfl rfl ?_
    exact hend _ (by decide) (by decide) (by decide) (Eq.trans (by decide) (congrArg (· + 1) ek.symm))
  have B237 : kwq (wlq (mI M T) p (p + n)) = 1 → mWm G y_Wo_nameSort (d + 5) 237 [vr w, vi p, vi n] [] M Q9 := fun ek => by
    refine wm_iconst d_Wo_nameSort_237 ?_
    refine wm_ireturn d_Wo_nameSort_238 rfl rfl ?_
    exact hend _ (by decide) (by decide) (by decide) (Eq.trans (by decide) (congrArg (· + 1) ek.symm))
  have B239 : kwq (wlq (mI M T) p (p + n)) = 1 → mWm G y_Wo_nameSort (d + 5) 239 [vr w, vi p, vi n] [] M Q9 := fun ek => by
    refine wm_iconst d_Wo_nameSort_239 ?_
    refine wm_ireturn d_Wo_nameSort_240 rfl rfl ?_
    exact hend _ (by decide) (by decide) (by decide) (Eq.trans (by decide) (congrArg (· + 1) ek.symm))
  have B222 : n = 7 → mWm G y_Wo_nameSort (d + 5) 222 [vr w, vi p, vi n] [] M Q9 := fun e => ns_test (tgt := 237) hJ (hL (100, "formula", [102, 111, 114, 109, 117, 108, 97]) (List.mem_of_getElem? (i := 12) rfl)) hO h (by show p + 7 ≤ N; omega) e d_Wo_nameSort_222 d_Wo_nameSort_223 d_Wo_nameSort_224 d_Wo_nameSort_226 d_Wo_nameSort_229 rfl (fun c => B237 (kw_none (wl_len hlen (by rw [e]; decide)) (wl_len hlen (by rw [e]; decide)) (wl_len hlen (by rw [e]; decide)) (wl_len hlen (by rw [e]; decide)) (wl_len hlen (by rw [e]; decide)) (wl_len hlen (by rw [e]; decide)) (wl_len hlen (by rw [e]; decide)) (wl_len hlen (by rw [e]; decide)) (wl_len hlen (by rw [e]; decide)) (wl_len hlen (by rw [e]; decide)) (wl_len hlen (by rw [e]; decide)) (wl_len hlen (by rw [e]; decide)) c)) (fun c => B232 (by rw [c]; decide))
  have B205 : n = 6 → mWm G y_Wo_nameSort (d + 5) 205 [vr w, vi p, vi n] [] M Q9 := fun e => ns_test (tgt := 220) hJ (hL (98, "target", [116, 97, 114, 103, 101, 116]) (List.mem_of_getElem? (i := 11) rfl)) hO h (by show p + 6 ≤ N; omega) e d_Wo_nameSort_205 d_Wo_nameSort_206 d_Wo_nameSort_207 d_Wo_nameSort_209 d_Wo_nameSort_212 rfl (fun c => B220 (kw_none (wl_len hlen (by rw [e]; decide)) (wl_len hlen (by rw [e]; decide)) (wl_len hlen (by rw [e]; decide)) (wl_len hlen (by rw [e]; decide)) (wl_len hlen (by rw [e]; decide)) (wl_len hlen (by rw [e]; decide)) (wl_len hlen (by rw [e]; decide)) (wl_len hlen (by rw [e]; decide)) (wl_len hlen (by rw [e]; decide)) (wl_len hlen (by rw [e]; decide)) (wl_len hlen (by rw [e]; decide)) c (wl_len hlen (by rw [e]; decide)))) (fun c => B215 (by rw [c]; decide))
  have B188 : n = 5 → wlq (mI M T) p (p + n) ≠ [99, 111, 110, 115, 116] → wlq (mI M T) p (p + n) ≠ [102, 97, 108, 115, 101] → mWm G y_Wo_nameSort (d + 5) 188 [vr w, vi p, vi n] [] M Q9 := fun e v8 v9 => ns_test (tgt := 203) hJ (hL (96, "least", [108, 101, 97, 115, 116]) (List.mem_of_getElem? (i := 10) rfl)) hO h (by show p + 5 ≤ N; omega) e d_Wo_nameSort_188 d_Wo_nameSort_189 d_Wo_nameSort_190 d_Wo_nameSort_192 d_Wo_nameSort_195 rfl (fun c => B203 (kw_none (wl_len hlen (by rw [e]; decide)) (wl_len hlen (by rw [e]; decide)) (wl_len hlen (by rw [e]; decide)) (wl_len hlen (by rw [e]; decide)) (wl_len hlen (by rw [e]; decide)) (wl_len hlen (by rw [e]; decide)) (wl_len hlen (by rw [e]; decide)) (wl_len hlen (by rw [e]; decide)) v8 v9 c (wl_len hlen (by rw [e]; decide)) (wl_len hlen (by rw [e]; decide)))) (fun c => B198 (by rw [c]; decide))
  have B173 : n = 5 → wlq (mI M T) p (p + n) ≠ [99, 111, 110, 115, 116] → mWm G y_Wo_nameSort (d + 5) 173 [vr w, vi p, vi n] [] M Q9 := fun e v8 => ns_test (tgt := 188) hJ (hL (94, "false", [102, 97, 108, 115, 101]) (List.mem_of_getElem? (i := 9) rfl)) hO h (by show p + 5 ≤ N; omega) e d_Wo_nameSort_173 d_Wo_nameSort_174 d_Wo_nameSort_175 d_Wo_nameSort_177 d_Wo_nameSort_180 rfl (fun c => B188 e v8 c) (fun c => B183 (by rw [c]; decide))
  have B159 : n = 5 → mWm G y_Wo_nameSort (d + 5) 159 [vr w, vi p, vi n] [] M Q9 := fun e => ns_test (tgt := 173) hJ (hL (92, "const", [99, 111, 110, 115, 116]) (List.mem_of_getElem? (i := 8) rfl)) hO h (by show p + 5 ≤ N; omega) e d_Wo_nameSort_159 d_Wo_nameSort_160 d_Wo_nameSort_161 d_Wo_nameSort_163 d_Wo_nameSort_166 rfl (fun c => B173 e c) (fun c => B169 (by rw [c]; decide))
  have B142 : n = 4 → wlq (mI M T) p (p + n) ≠ [116, 114, 117, 101] → wlq (mI M T) p (p + n) ≠ [115, 116, 97, 121] → wlq (mI M T) p (p + n) ≠ [98, 111, 111, 108] → wlq (mI M T) p (p + n) ≠ [105, 110, 105, 116] → mWm G y_Wo_nameSort (d + 5) 142 [vr w, vi p, vi n] [] M Q9 := fun e v3 v4 v5 v6 => ns_test (tgt := 157) hJ (hL (90, "most", [109, 111, 115, 116]) (List.mem_of_getElem? (i := 7) rfl)) hO h (by show p + 4 ≤ N; omega) e d_Wo_nameSort_142 d_Wo_nameSort_143 d_Wo_nameSort_144 d_Wo_nameSort_146 d_Wo_nameSort_149 rfl (fun c => B157 (kw_none (wl_len hlen (by rw [e]; decide)) (wl_len hlen (by rw [e]; decide)) (wl_len hlen (by rw [e]; decide)) v3 v4 v5 v6 c (wl_len hlen (by rw [e]; decide)) (wl_len hlen (by rw [e]; decide)) (wl_len hlen (by rw [e]; decide)) (wl_len hlen (by rw [e]; decide)) (wl_len hlen (by rw [e]; decide)))) (fun c => B152 (by rw [c]; decide))
  have B127 : n = 4 → wlq (mI M T) p (p + n) ≠ [116, 114, 117, 101] → wlq (mI M T) p (p + n) ≠ [115, 116, 97, 121] → wlq (mI M T) p (p + n) ≠ [98, 111, 111, 108] → mWm G y_Wo_nameSort (d + 5) 127 [vr w, vi p, vi n] [] M Q9 := fun e v3 v4 v5 => ns_test (tgt := 142) hJ (hL (88, "init", [105, 110, 105, 116]) (List.mem_of_getElem? (i := 6) rfl)) hO h (by show p + 4 ≤ N; omega) e d_Wo_nameSort_127 d_Wo_nameSort_128 d_Wo_nameSort_129 d_Wo_nameSort_131 d_Wo_nameSort_134 rfl (fun c => B142 e v3 v4 v5 c) (fun c => B137 (by rw [c]; decide))
  have B112 : n = 4 → wlq (mI M T) p (p + n) ≠ [116, 114, 117, 101] → wlq (mI M T) p (p + n) ≠ [115, 116, 97, 121] → mWm G y_Wo_nameSort (d + 5) 112 [vr w, vi p, vi n] [] M Q9 := fun e v3 v4 => ns_test (tgt := 127) hJ (hL (86, "bool", [98, 111, 111, 108]) (List.mem_of_getElem? (i := 5) rfl)) hO h (by show p + 4 ≤ N; omega) e d_Wo_nameSort_112 d_Wo_nameSort_113 d_Wo_nameSort_114 d_Wo_nameSort_116 d_Wo_nameSort_119 rfl (fun c => B127 e v3 v4 c) (fun c => B122 (by rw [c]; decide))
  have B97 : n = 4 → wlq (mI M T) p (p + n) ≠ [116, 114, 117, 101] → mWm G y_Wo_nameSort (d + 5) 97 [vr w, vi p, vi n] [] M Q9 := fun e v3 => ns_test (tgt := 112) hJ (hL (84, "stay", [115, 116, 97, 121]) (List.mem_of_getElem? (i := 4) rfl)) hO h (by show p + 4 ≤ N; omega) e d_Wo_nameSort_97 d_Wo_nameSort_98 d_Wo_nameSort_99 d_Wo_nameSort_101 d_Wo_nameSort_104 rfl (fun c => B112 e v3 c) (fun c => B107 (by rw [c]; decide))
  have B82 : n = 4 → mWm G y_Wo_nameSort (d + 5) 82 [vr w, vi p, vi n] [] M Q9 := fun e => ns_test (tgt := 97) hJ (hL (82, "true", [116, 114, 117, 101]) (List.mem_of_getElem? (i := 3) rfl)) hO h (by show p + 4 ≤ N; omega) e d_Wo_nameSort_82 d_Wo_nameSort_83 d_Wo_nameSort_84 d_Wo_nameSort_86 d_Wo_nameSort_89 rfl (fun c => B97 e c) (fun c => B92 (by rw [c]; decide))
  have B65 : n = 3 → wlq (mI M T) p (p + n) ≠ [118, 97, 114] → wlq (mI M T) p (p + n) ≠ [109, 97, 120] → mWm G y_Wo_nameSort (d + 5) 65 [vr w, vi p, vi n] [] M Q9 := fun e v0 v1 => ns_test (tgt := 80) hJ (hL (80, "min", [109, 105, 110]) (List.mem_of_getElem? (i := 2) rfl)) hO h (by show p + 3 ≤ N; omega) e d_Wo_nameSort_65 d_Wo_nameSort_66 d_Wo_nameSort_67 d_Wo_nameSort_69 d_Wo_nameSort_72 rfl (fun c => B80 (kw_none v0 v1 c (wl_len hlen (by rw [e]; decide)) (wl_len hlen (by rw [e]; decide)) (wl_len hlen (by rw [e]; decide)) (wl_len hlen (by rw [e]; decide)) (wl_len hlen (by rw [e]; decide)) (wl_len hlen (by rw [e]; decide)) (wl_len hlen (by rw [e]; decide)) (wl_len hlen (by rw [e]; decide)) (wl_len hlen (by rw [e]; decide)) (wl_len hlen (by rw [e]; decide)))) (fun c => B75 (by rw [c]; decide))
  have B50 : n = 3 → wlq (mI M T) p (p + n) ≠ [118, 97, 114] → mWm G y_Wo_nameSort (d + 5) 50 [vr w, vi p, vi n] [] M Q9 := fun e v0 => ns_test (tgt := 65) hJ (hL (78, "max", [109, 97, 120]) (List.mem_of_getElem? (i := 1) rfl)) hO h (by show p + 3 ≤ N; omega) e d_Wo_nameSort_50 d_Wo_nameSort_51 d_Wo_nameSort_52 d_Wo_nameSort_54 d_Wo_nameSort_57 rfl (fun c => B65 e v0 c) (fun c => B60 (by rw [c]; decide))
  have B36 : n = 3 → mWm G y_Wo_nameSort (d + 5) 36 [vr w, vi p, vi n] [] M Q9 := fun e => ns_test (tgt := 50) hJ (hL (72, "var", [118, 97, 114]) (List.mem_of_getElem? (i := 0) rfl)) hO h (by show p + 3 ≤ N; omega) e d_Wo_nameSort_36 d_Wo_nameSort_37 d_Wo_nameSort_38 d_Wo_nameSort_40 d_Wo_nameSort_43 rfl (fun c => B50 e c) (fun c => B46 (by rw [c]; decide))
  refine wm_iload_n d_Wo_nameSort_0 rfl rfl ?_
  by_cases c : n < 3 ∨ 7 < n
  · exact wm_tableOut (tgt := 239) d_Wo_nameSort_1 ⟨by omega, by omega⟩ (by omega) rfl (B239 (kw_none (wl_len hlen (by show 3 ≠ n; omega)) (wl_len hlen (by show 3 ≠ n; omega)) (wl_len hlen (by show 3 ≠ n; omega)) (wl_len hlen (by show 4 ≠ n; omega)) (wl_len hlen (by show 4 ≠ n; omega)) (wl_len hlen (by show 4 ≠ n; omega)) (wl_len hlen (by show 4 ≠ n; omega)) (wl_len hlen (by show 4 ≠ n; omega)) (wl_len hlen (by show 5 ≠ n; omega)) (wl_len hlen (by show 5 ≠ n; omega)) (wl_len hlen (by show 5 ≠ n; omega)) (wl_len hlen (by show 6 ≠ n; omega)) (wl_len hlen (by show 7 ≠ n; omega))))
  · have c5 : n = 3 ∨ n = 4 ∨ n = 5 ∨ n = 6 ∨ n = 7 := by omega
    rcases c5 with e | e | e | e | e
    · exact wm_tableIn (tgt := 36) (off := 35) d_Wo_nameSort_1 ⟨by omega, by omega⟩ (by omega) (by omega) (by rw [e]; rfl) rfl (B36 e)
    · exact wm_tableIn (tgt := 82) (off := 81) d_Wo_nameSort_1 ⟨by omega, by omega⟩ (by omega) (by omega) (by rw [e]; rfl) rfl (B82 e)
    · exact wm_tableIn (tgt := 159) (off := 158) d_Wo_nameSort_1 ⟨by omega, by omega⟩ (by omega) (by omega) (by rw [e]; rfl) rfl (B159 e)
    · exact wm_tableIn (tgt := 205) (off := 204) d_Wo_nameSort_1 ⟨by omega, by omega⟩ (by omega) (by omega) (by rw [e]; rfl) rfl (B205 e)
    · exact wm_tableIn (tgt := 222) (off := 221) d_Wo_nameSort_1 ⟨by omega, by omega⟩ (by omega) (by omega) (by rw [e]; rfl) rfl (B222 e)
theorem s_MM_is {f0 e : Nat} (hJ : JD G) (hs : Str G t n f) (hO : mOk M) (h : Wd M a) (hfe : f0 ≤ 16384 ∧ f0 < e ∧ e ≤ f0 + 40) : Ci G y_MM_is (d + 4) [vr a, vi f0, vi e, vo t] M (fun r M' => M' = M ∧ (r = 0 ∨ r = 1) ∧ (r = 1 ↔ (e = f0 + n ∧ ∀ j, j < n → lt M a (f0 + j) = f j))) := by
  obtain ⟨A0, hv, hT⟩ := hs.2.2
  have hn := hT.2.1
  obtain ⟨f1, f2, f3⟩ := hfe
  have step : ∀ (b : Int) (i : Nat), ((b = 1 ∧ e = f0 + n ∧ ∀ j, j < i → lt M a (f0 + j) = f j) ∨ (b = 0 ∧ ¬ (e = f0 + n ∧ ∀ j, j < n → lt M a (f0 + j) = f j))) → i ≤ n → (i < n → ∀ b' : Int, ((b' = 1 ∧ e = f0 + n ∧ ∀ j, j < i + 1 → lt M a (f0 + j) = f j) ∨ (b' = 0 ∧ ¬ (e = f0 + n ∧ ∀ j, j < n → lt M a (f0 + j) = f j))) → mWm G y_MM_is (d + 4) 20 [vr a, vi f0, vi e, vo t, vi b', vi ((i + 1 : Nat) : Int)] [] M (fun r M' => ∃ x, r = some (vi x) ∧ M' = M ∧ (x = 0 ∨ x = 1) ∧ (x = 1 ↔ (e = f0 + n ∧ ∀ j, j < n → lt M a (f0 + j) = f j)))) → mWm G y_MM_is (d + 4) 20 [vr a, vi f0, vi e, vo t, vi b, vi (i : Int)] [] M (fun r M' => ∃ x, r = some (vi x) ∧ M' = M ∧ (x = 0 ∨ x = 1) ∧ (x = 1 ↔ (e = f0 + n ∧ ∀ j, j < n → lt M a (f0 + j) = f j))) := by
    intro b i hB hi ih
    have hb : b = 0 ∨ b = 1 := by rcases hB with u | u <;> omega
    have ib : i32 b := by rcases hb with e | e <;> subst e <;> exact ⟨by decide, by decide⟩
    have fin : (b = 0 ∨ n ≤ i) → mWm G y_MM_is (d + 4) 64 [vr a, vi f0, vi e, vo t, vi b, vi (i : Int)] [] M (fun r M' => ∃ x, r = some (vi x) ∧ M' = M ∧ (x = 0 ∨ x = 1) ∧ (x = 1 ↔ (e = f0 + n ∧ ∀ j, j < n → lt M a (f0 + j) = f j))) := fun cz => by
      refine wm_iload d_MM_is_64 rfl ?_
      refine wm_ireturn d_MM_is_66 rfl (m_nb hb) ?_
      refine ⟨_, rfl, rfl, hb, ?_⟩
      rcases hB with ⟨u1, u2, u3⟩ | ⟨u1, u2⟩
      · exact ⟨fun _ => ⟨u2, fun j hj => u3 j (by omega)⟩, fun _ => u1⟩
      · exact ⟨fun c => by omega, fun c => absurd c u2⟩
    refine wm_iload d_MM_is_20 rfl ?_
    refine wm_if_eq (tgt := 64) d_MM_is_22 rfl ib (fun c => fin (Or.inl c)) (fun cb => ?_)
    refine wm_iload d_MM_is_25 rfl ?_
    refine wm_aldO_n d_MM_is_27 rfl rfl ?_
    refine wm_strLen (d := d + 2) hJ hs kt_lenM (Nat.le_of_ble_eq_true rfl) d_MM_is_28 ?_
    refine wm_icmp_ge (tgt := 64) d_MM_is_31 rfl ⟨by omega, by omega⟩ ⟨by omega, by omega⟩ (fun c => fin (Or.inr (by omega))) (fun c => ?_)
    have hin : i < n := by omega
    have hB1 : e = f0 + n ∧ ∀ j, j < i → lt M a (f0 + j) = f j := by
      rcases hB with ⟨-, u⟩ | ⟨u, -⟩
      · exact u
      · exact absurd u cb
    have ih := ih hin
    refine wm_aload_n d_MM_is_34 rfl rfl ?_
    refine wm_iload_n d_MM_is_35 rfl rfl ?_
    refine wm_iload d_MM_is_36 rfl ?_
    refine wm_iadd d_MM_is_38 ?_
    rw [show (f0 : Int) + (i : Int) = ((f0 + i : Nat) : Int) by first | rfl | omega]
    refine cf_MM_159 rfl d_MM_is_39 h.1.1 (Nat.le_of_ble_eq_true rfl) ?_
    refine (s_MM_letter (d := d + 2) (by omega) hO h).mono (fun x M' q => ?_)
    obtain ⟨eM, hx⟩ := q
    have ix : i32 x := by rw [hx]; exact lt_i32 hO
    rw [eM]
    refine wm_aldO_n d_MM_is_42 rfl rfl ?_
    refine wm_iload d_MM_is_43 rfl ?_
    refine wm_strAt (d := d) hJ hs hin kt_chaM (Nat.le_of_ble_eq_true rfl) d_MM_is_45 ?_
    have hf := hT.2.2 i hin
    have nxt : ∀ b' : Int, ((b' = 1 ∧ e = f0 + n ∧ ∀ j, j < i + 1 → lt M a (f0 + j) = f j) ∨ (b' = 0 ∧ ¬ (e = f0 + n ∧ ∀ j, j < n → lt M a (f0 + j) = f j))) → mWm G y_MM_is (d + 4) 56 [vr a, vi f0, vi e, vo t, vi b, vi (i : Int)] [vi b'] M (fun r M' => ∃ x, r = some (vi x) ∧ M' = M ∧ (x = 0 ∨ x = 1) ∧ (x = 1 ↔ (e = f0 + n ∧ ∀ j, j < n → lt M a (f0 + j) = f j))) := by
      intro b' hb'
      refine wm_istore d_MM_is_56 (by decide) (L' := [vr a, vi f0, vi e, vo t, vi b', vi (i : Int)]) rfl ?_
      refine wm_iinc d_MM_is_58 (by decide) rfl (L' := [vr a, vi f0, vi e, vo t, vi b', vi ((i : Int) + 1)]) rfl ?_
      refine wm_goto (tgt := 20) d_MM_is_61 rfl ?_
      have ih := ih b' hb'
      rw [show ((i + 1 : Nat) : Int) = (i : Int) + 1 by first | rfl | omega] at ih
      exact ih
    refine wm_icmp_ne (tgt := 55) d_MM_is_48 rfl ix ⟨by omega, by omega⟩ (fun cn => ?_) (fun ce => ?_)
    · refine wm_iconst d_MM_is_55 ?_
      exact nxt 0 (Or.inr ⟨rfl, fun u => cn (by rw [hx]; exact u.2 i hin)⟩)
    · refine wm_iconst d_MM_is_51 ?_
      refine wm_goto (tgt := 56) d_MM_is_52 rfl ?_
      exact nxt 1 (Or.inl ⟨rfl, hB1.1, fun j hj => by
        by_cases cj : j < i
        · exact hB1.2 j cj
        · rw [show j = i by first | rfl | omega, ← hx]; exact Decidable.not_not.mp ce⟩)
  have all : ∀ (q i : Nat) (b : Int), ((b = 1 ∧ e = f0 + n ∧ ∀ j, j < i → lt M a (f0 + j) = f j) ∨ (b = 0 ∧ ¬ (e = f0 + n ∧ ∀ j, j < n → lt M a (f0 + j) = f j))) → n = i + q → mWm G y_MM_is (d + 4) 20 [vr a, vi f0, vi e, vo t, vi b, vi (i : Int)] [] M (fun r M' => ∃ x, r = some (vi x) ∧ M' = M ∧ (x = 0 ∨ x = 1) ∧ (x = 1 ↔ (e = f0 + n ∧ ∀ j, j < n → lt M a (f0 + j) = f j))) := by
    intro q
    induction q with
    | zero => exact fun i b hb e => step b i hb (by omega) (fun c => by omega)
    | succ q ih => exact fun i b hb e => step b i hb (by omega) (fun _ b' hb' => ih (i + 1) b' hb' (by omega))
  have go : ∀ b : Int, ((b = 1 ∧ e = f0 + n ∧ ∀ j, j < 0 → lt M a (f0 + j) = f j) ∨ (b = 0 ∧ ¬ (e = f0 + n ∧ ∀ j, j < n → lt M a (f0 + j) = f j))) → mWm G y_MM_is (d + 4) 15 [vr a, vi f0, vi e, vo t, vd, vd] [vi b] M (fun r M' => ∃ x, r = some (vi x) ∧ M' = M ∧ (x = 0 ∨ x = 1) ∧ (x = 1 ↔ (e = f0 + n ∧ ∀ j, j < n → lt M a (f0 + j) = f j))) := by
    intro b hb
    refine wm_istore d_MM_is_15 (by decide) (L' := [vr a, vi f0, vi e, vo t, vi b, vd]) rfl ?_
    refine wm_iconst d_MM_is_17 ?_
    refine wm_istore d_MM_is_18 (by decide) (L' := [vr a, vi f0, vi e, vo t, vi b, vi 0]) rfl ?_
    exact all n 0 b hb (by omega)
  refine wm_open (y := y_MM_is) rfl (Nat.le_of_ble_eq_true rfl) (L := [vr a, vi f0, vi e, vo t, vd, vd]) rfl ?_
  refine wm_iload_n d_MM_is_0 rfl rfl ?_
  refine wm_iload_n d_MM_is_1 rfl rfl ?_
  refine wm_isub d_MM_is_2 ?_
  refine wm_aldO_n d_MM_is_3 rfl rfl ?_
  refine wm_strLen (d := d + 2) hJ hs kt_lenM (Nat.le_of_ble_eq_true rfl) d_MM_is_4 ?_
  refine wm_icmp_ne (tgt := 14) d_MM_is_7 rfl ⟨by omega, by omega⟩ ⟨by omega, by omega⟩ (fun cn => ?_) (fun ce => ?_)
  · refine wm_iconst d_MM_is_14 ?_
    exact go 0 (Or.inr ⟨rfl, fun u => cn (by omega)⟩)
  · refine wm_iconst d_MM_is_10 ?_
    refine wm_goto (tgt := 15) d_MM_is_11 rfl ?_
    exact go 1 (Or.inl ⟨rfl, by omega, fun j hj => absurd hj (by omega)⟩)
theorem wk_test {f e : Nat} {tx : String} {l : List Int} {k tgt : Nat} {off : Int} (hJ : JD G) (hl : Lit G "ChanceArenaModel" k tx l) (hO : mOk M) (h : Wd M a) (hfe : f ≤ 16384 ∧ f < e ∧ e ≤ f + 40) (hel : (e : Int) ≤ ln M (mR M a 2)) (h0 : decode y_MM_wordKind.2.1 pc = .ok (.aload_n 0, 1)) (h1 : decode y_MM_wordKind.2.1 (pc + 1) = .ok (.iload_n 1, 1)) (h1' : decode y_MM_wordKind.2.1 (pc + 2) = .ok (.iload_n 2, 1)) (h2 : decode y_MM_wordKind.2.1 (pc + 3) = .ok (.ldc k, 2)) (h3 : decode y_MM_wordKind.2.1 (pc + 5) = .ok (.invokevirtual 178, 3)) (h4 : decode y_MM_wordKind.2.1 (pc + 8) = .ok (.ifCond .eq off, 3)) (ht : ((pc + 8 : Nat) : Int) + off = (tgt : Int)) (kt : wlq (nt M (mR M a 2)) f e ≠ l → mWm G y_MM_wordKind (d + 5) tgt [vr a, vi f, vi e] [] M Q) (kf : wlq (nt M (mR M a 2)) f e = l → mWm G y_MM_wordKind (d + 5) (pc + 11) [vr a, vi f, vi e] [] M Q) : mWm G y_MM_wordKind (d + 5) pc [vr a, vi f, vi e] [] M Q := by
  obtain ⟨t, hr, hs⟩ := hl
  refine wm_aload_n h0 rfl rfl ?_
  refine wm_iload_n h1 rfl rfl ?_
  refine wm_iload_n h1' rfl rfl ?_
  refine wm_ldcS rfl hr h2 ?_
  refine wm_callV (y2 := y_MM_is) (c := 13) (n := 3) (As := [vi f, vi e, vo t]) rfl rfl rfl kt_isL kt_isI ks_MM_is k1_14 kt_isC ⟨by decide, by decide, by decide +kernel⟩ (by decide) rfl rfl (Nat.le_of_ble_eq_true rfl) h3 h.1.1 ?_
  refine mCm.mono (s_MM_is (d := d) hJ hs hO h hfe) (fun r M' q => ?_)
  obtain ⟨x, rfl, rfl, hx, hi⟩ := q
  have hw : x = 1 ↔ wlq (nt M' (mR M' a 2)) f e = l := by
    rw [hi, wlq_eq]
    have g : ∀ j, j < l.length → e = f + l.length → lt M' a (f + j) = nt M' (mR M' a 2) (f + j) := fun j hj u => by
      unfold lt
      rw [if_pos (by omega)]
    exact ⟨fun u => ⟨by omega, fun j hj => by rw [← g j hj u.1]; exact u.2 j hj⟩, fun u => ⟨by omega, fun j hj => by rw [g j hj (by omega)]; exact u.2 j hj⟩⟩
  exact wm_if_eq h4 ht (by rcases hx with e | e <;> subst e <;> exact ⟨by decide, by decide⟩) (fun c => kt (fun u => absurd (hw.mpr u) (by omega))) (fun c => kf (hw.mp (by omega)))
theorem s_MM_wordKind {f e : Nat} (hJ : JD G) (hL : ∀ q, q ∈ litBM → Lit G "ChanceArenaModel" q.1 q.2.1 q.2.2) (hO : mOk M) (h : Wd M a) (hfe : f ≤ 16384 ∧ f < e ∧ e ≤ f + 40) (hel : (e : Int) ≤ ln M (mR M a 2)) : Ci G y_MM_wordKind (d + 5) [vr a, vi f, vi e] M (fun r M' => M' = M ∧ (1 ≤ r ∧ r ≤ 15 ∧ r ≠ 2) ∧ r = kwq (wlq (nt M (mR M a 2)) f e)) := by
  refine wm_open (y := y_MM_wordKind) rfl (Nat.le_of_ble_eq_true rfl) (L := [vr a, vi f, vi e]) rfl ?_
  refine (?_ : ∀ Q9 : Option mV → mM → Prop, (∀ x : Int, 1 ≤ x → x ≤ 15 → x ≠ 2 → x = kwq (wlq (nt M (mR M a 2)) f e) → Q9 (some (vi x)) M) → mWm G y_MM_wordKind (d + 5) 0 [vr a, vi f, vi e] [] M Q9) _ (fun x a b c e => ⟨x, rfl, rfl, ⟨a, b, c⟩, e⟩)
  intro Q9 hend
  have B115 : kwq (wlq (nt M (mR M a 2)) f e) = 3 → mWm G y_MM_wordKind (d + 5) 115 [vr a, vi f, vi e] [] M Q9 := fun ek => by
    refine wm_iconst d_MM_wordKind_115 ?_
    refine wm_goto (tgt := 120) d_MM_wordKind_116 rfl ?_
    refine wm_ireturn d_MM_wordKind_120 rfl rfl ?_
    exact hend _ (by decide) (by decide) (by decide) (Eq.trans (by decide) ek.symm)
  have B119 : kwq (wlq (nt M (mR M a 2)) f e) = 1 → mWm G y_MM_wordKind (d + 5) 119 [vr a, vi f, vi e] [] M Q9 := fun ek => by
    refine wm_iconst d_MM_wordKind_119 ?_
    refine wm_ireturn d_MM_wordKind_120 rfl rfl ?_
    exact hend _ (by decide) (by decide) (by decide) (Eq.trans (by decide) ek.symm)
  have B132 : kwq (wlq (nt M (mR M a 2)) f e) = 4 → mWm G y_MM_wordKind (d + 5) 132 [vr a, vi f, vi e] [] M Q9 := fun ek => by
    refine wm_iconst d_MM_wordKind_132 ?_
    refine wm_goto (tgt := 137) d_MM_wordKind_133 rfl ?_
    refine wm_ireturn d_MM_wordKind_137 rfl rfl ?_
    exact hend _ (by decide) (by decide) (by decide) (Eq.trans (by decide) ek.symm)
  have B136 : kwq (wlq (nt M (mR M a 2)) f e) = 1 → mWm G y_MM_wordKind (d + 5) 136 [vr a, vi f, vi e] [] M Q9 := fun ek => by
    refine wm_iconst d_MM_wordKind_136 ?_
    refine wm_ireturn d_MM_wordKind_137 rfl rfl ?_
    exact hend _ (by decide) (by decide) (by decide) (Eq.trans (by decide) ek.symm)
  have B149 : kwq (wlq (nt M (mR M a 2)) f e) = 5 → mWm G y_MM_wordKind (d + 5) 149 [vr a, vi f, vi e] [] M Q9 := fun ek => by
    refine wm_iconst d_MM_wordKind_149 ?_
    refine wm_goto (tgt := 154) d_MM_wordKind_150 rfl ?_
    refine wm_ireturn d_MM_wordKind_154 rfl rfl ?_
    exact hend _ (by decide) (by decide) (by decide) (Eq.trans (by decide) ek.symm)
  have B153 : kwq (wlq (nt M (mR M a 2)) f e) = 1 → mWm G y_MM_wordKind (d + 5) 153 [vr a, vi f, vi e] [] M Q9 := fun ek => by
    refine wm_iconst d_MM_wordKind_153 ?_
    refine wm_ireturn d_MM_wordKind_154 rfl rfl ?_
    exact hend _ (by decide) (by decide) (by decide) (Eq.trans (by decide) ek.symm)
  have B166 : kwq (wlq (nt M (mR M a 2)) f e) = 6 → mWm G y_MM_wordKind (d + 5) 166 [vr a, vi f, vi e] [] M Q9 := fun ek => by
    refine wm_bipush d_MM_wordKind_166 (by decide) ?_
    refine wm_goto (tgt := 188) d_MM_wordKind_168 rfl ?_
    refine wm_ireturn d_MM_wordKind_188 rfl rfl ?_
    exact hend _ (by decide) (by decide) (by decide) (Eq.trans (by decide) ek.symm)
  have B182 : kwq (wlq (nt M (mR M a 2)) f e) = 13 → mWm G y_MM_wordKind (d + 5) 182 [vr a, vi f, vi e] [] M Q9 := fun ek => by
    refine wm_bipush d_MM_wordKind_182 (by decide) ?_
    refine wm_goto (tgt := 188) d_MM_wordKind_184 rfl ?_
    refine wm_ireturn d_MM_wordKind_188 rfl rfl ?_
    exact hend _ (by decide) (by decide) (by decide) (Eq.trans (by decide) ek.symm)
  have B187 : kwq (wlq (nt M (mR M a 2)) f e) = 1 → mWm G y_MM_wordKind (d + 5) 187 [vr a, vi f, vi e] [] M Q9 := fun ek => by
    refine wm_iconst d_MM_wordKind_187 ?_
    refine wm_ireturn d_MM_wordKind_188 rfl rfl ?_
    exact hend _ (by decide) (by decide) (by decide) (Eq.trans (by decide) ek.symm)
  have B200 : kwq (wlq (nt M (mR M a 2)) f e) = 7 → mWm G y_MM_wordKind (d + 5) 200 [vr a, vi f, vi e] [] M Q9 := fun ek => by
    refine wm_bipush d_MM_wordKind_200 (by decide) ?_
    refine wm_goto (tgt := 238) d_MM_wordKind_202 rfl ?_
    refine wm_ireturn d_MM_wordKind_238 rfl rfl ?_
    exact hend _ (by decide) (by decide) (by decide) (Eq.trans (by decide) ek.symm)
  have B216 : kwq (wlq (nt M (mR M a 2)) f e) = 8 → mWm G y_MM_wordKind (d + 5) 216 [vr a, vi f, vi e] [] M Q9 := fun ek => by
    refine wm_bipush d_MM_wordKind_216 (by decide) ?_
    refine wm_goto (tgt := 238) d_MM_wordKind_218 rfl ?_
    refine wm_ireturn d_MM_wordKind_238 rfl rfl ?_
    exact hend _ (by decide) (by decide) (by decide) (Eq.trans (by decide) ek.symm)
  have B232 : kwq (wlq (nt M (mR M a 2)) f e) = 15 → mWm G y_MM_wordKind (d + 5) 232 [vr a, vi f, vi e] [] M Q9 := fun ek => by
    refine wm_bipush d_MM_wordKind_232 (by decide) ?_
    refine wm_goto (tgt := 238) d_MM_wordKind_234 rfl ?_
    refine wm_ireturn d_MM_wordKind_238 rfl rfl ?_
    exact hend _ (by decide) (by decide) (by decide) (Eq.trans (by decide) ek.symm)
  have B237 : kwq (wlq (nt M (mR M a 2)) f e) = 1 → mWm G y_MM_wordKind (d + 5) 237 [vr a, vi f, vi e] [] M Q9 := fun ek => by
    refine wm_iconst d_MM_wordKind_237 ?_
    refine wm_ireturn d_MM_wordKind_238 rfl rfl ?_
    exact hend _ (by decide) (by decide) (by decide) (Eq.trans (by decide) ek.symm)
  have B250 : kwq (wlq (nt M (mR M a 2)) f e) = 9 → mWm G y_MM_wordKind (d + 5) 250 [vr a, vi f, vi e] [] M Q9 := fun ek => by
    refine wm_bipush d_MM_wordKind_250 (by decide) ?_
    refine wm_goto (tgt := 256) d_MM_wordKind_252 rfl ?_
    refine wm_ireturn d_MM_wordKind_256 rfl rfl ?_
    exact hend _ (by decide) (by decide) (by decide) (Eq.trans (by decide) ek.symm)
  have B255 : kwq (wlq (nt M (mR M a 2)) f e) = 1 → mWm G y_MM_wordKind (d + 5) 255 [vr a, vi f, vi e] [] M Q9 := fun ek => by
    refine wm_iconst d_MM_wordKind_255 ?_
    refine wm_ireturn d_MM_wordKind_256 rfl rfl ?_
    exact hend _ (by decide) (by decide) (by decide) (Eq.trans (by decide) ek.symm)
  have B268 : kwq (wlq (nt M (mR M a 2)) f e) = 10 → mWm G y_MM_wordKind (d + 5) 268 [vr a, vi f, vi e] [] M Q9 := fun ek => by
    refine wm_bipush d_MM_wordKind_268 (by decide) ?_
    refine wm_goto (tgt := 274) d_MM_wordKind_270 rfl ?_
    refine wm_ireturn d_MM_wordKind_274 rfl rfl ?_
    exact hend _ (by decide) (by decide) (by decide) (Eq.trans (by decide) ek.symm)
  have B273 : kwq (wlq (nt M (mR M a 2)) f e) = 1 → mWm G y_MM_wordKind (d + 5) 273 [vr a, vi f, vi e] [] M Q9 := fun ek => by
    refine wm_iconst d_MM_wordKind_273 ?_
    refine wm_ireturn d_MM_wordKind_274 rfl rfl ?_
    exact hend _ (by decide) (by decide) (by decide) (Eq.trans (by decide) ek.symm)
  have B286 : kwq (wlq (nt M (mR M a 2)) f e) = 11 → mWm G y_MM_wordKind (d + 5) 286 [vr a, vi f, vi e] [] M Q9 := fun ek => by
    refine wm_bipush d_MM_wordKind_286 (by decide) ?_
    refine wm_goto (tgt := 308) d_MM_wordKind_288 rfl ?_
    refine wm_ireturn d_MM_wordKind_308 rfl rfl ?_
    exact hend _ (by decide) (by decide) (by decide) (Eq.trans (by decide) ek.symm)
  have B302 : kwq (wlq (nt M (mR M a 2)) f e) = 12 → mWm G y_MM_wordKind (d + 5) 302 [vr a, vi f, vi e] [] M Q9 := fun ek => by
    refine wm_bipush d_MM_wordKind_302 (by decide) ?_
    refine wm_goto (tgt := 308) d_MM_wordKind_304 rfl ?_
    refine wm_ireturn d_MM_wordKind_308 rfl rfl ?_
    exact hend _ (by decide) (by decide) (by decide) (Eq.trans (by decide) ek.symm)
  have B307 : kwq (wlq (nt M (mR M a 2)) f e) = 1 → mWm G y_MM_wordKind (d + 5) 307 [vr a, vi f, vi e] [] M Q9 := fun ek => by
    refine wm_iconst d_MM_wordKind_307 ?_
    refine wm_ireturn d_MM_wordKind_308 rfl rfl ?_
    exact hend _ (by decide) (by decide) (by decide) (Eq.trans (by decide) ek.symm)
  have B320 : kwq (wlq (nt M (mR M a 2)) f e) = 14 → mWm G y_MM_wordKind (d + 5) 320 [vr a, vi f, vi e] [] M Q9 := fun ek => by
    refine wm_bipush d_MM_wordKind_320 (by decide) ?_
    refine wm_goto (tgt := 326) d_MM_wordKind_322 rfl ?_
    refine wm_ireturn d_MM_wordKind_326 rfl rfl ?_
    exact hend _ (by decide) (by decide) (by decide) (Eq.trans (by decide) ek.symm)
  have B325 : kwq (wlq (nt M (mR M a 2)) f e) = 1 → mWm G y_MM_wordKind (d + 5) 325 [vr a, vi f, vi e] [] M Q9 := fun ek => by
    refine wm_iconst d_MM_wordKind_325 ?_
    refine wm_ireturn d_MM_wordKind_326 rfl rfl ?_
    exact hend _ (by decide) (by decide) (by decide) (Eq.trans (by decide) ek.symm)
  have B327 : kwq (wlq (nt M (mR M a 2)) f e) = 1 → mWm G y_MM_wordKind (d + 5) 327 [vr a, vi f, vi e] [] M Q9 := fun ek => by
    refine wm_iconst d_MM_wordKind_327 ?_
    refine wm_ireturn d_MM_wordKind_328 rfl rfl ?_
    exact hend _ (by decide) (by decide) (by decide) (Eq.trans (by decide) ek.symm)
  have B309 : (wlq (nt M (mR M a 2)) f e).head? = some 108 → mWm G y_MM_wordKind (d + 5) 309 [vr a, vi f, vi e] [] M Q9 := fun hh => wk_test (tgt := 325) hJ (hL (204, "least", [108, 101, 97, 115, 116]) (List.mem_of_getElem? (i := 12) rfl)) hO h hfe hel d_MM_wordKind_309 d_MM_wordKind_310 d_MM_wordKind_311 d_MM_wordKind_312 d_MM_wordKind_314 d_MM_wordKind_317 rfl (fun c => B325 (kw_none (wl_hd hh (by decide)) (wl_hd hh (by decide)) (wl_hd hh (by decide)) (wl_hd hh (by decide)) (wl_hd hh (by decide)) (wl_hd hh (by decide)) (wl_hd hh (by decide)) (wl_hd hh (by decide)) (wl_hd hh (by decide)) (wl_hd hh (by decide)) c (wl_hd hh (by decide)) (wl_hd hh (by decide)))) (fun c => B320 (by rw [c]; decide))
  have B291 : (wlq (nt M (mR M a 2)) f e).head? = some 116 → wlq (nt M (mR M a 2)) f e ≠ [116, 97, 114, 103, 101, 116] → mWm G y_MM_wordKind (d + 5) 291 [vr a, vi f, vi e] [] M Q9 := fun hh v11 => wk_test (tgt := 307) hJ (hL (202, "true", [116, 114, 117, 101]) (List.mem_of_getElem? (i := 11) rfl)) hO h hfe hel d_MM_wordKind_291 d_MM_wordKind_292 d_MM_wordKind_293 d_MM_wordKind_294 d_MM_wordKind_296 d_MM_wordKind_299 rfl (fun c => B307 (kw_none (wl_hd hh (by decide)) (wl_hd hh (by decide)) (wl_hd hh (by decide)) c (wl_hd hh (by decide)) (wl_hd hh (by decide)) (wl_hd hh (by decide)) (wl_hd hh (by decide)) (wl_hd hh (by decide)) (wl_hd hh (by decide)) (wl_hd hh (by decide)) v11 (wl_hd hh (by decide)))) (fun c => B302 (by rw [c]; decide))
  have B275 : (wlq (nt M (mR M a 2)) f e).head? = some 116 → mWm G y_MM_wordKind (d + 5) 275 [vr a, vi f, vi e] [] M Q9 := fun hh => wk_test (tgt := 291) hJ (hL (200, "target", [116, 97, 114, 103, 101, 116]) (List.mem_of_getElem? (i := 10) rfl)) hO h hfe hel d_MM_wordKind_275 d_MM_wordKind_276 d_MM_wordKind_277 d_MM_wordKind_278 d_MM_wordKind_280 d_MM_wordKind_283 rfl (fun c => B291 hh c) (fun c => B286 (by rw [c]; decide))
  have B257 : (wlq (nt M (mR M a 2)) f e).head? = some 115 → mWm G y_MM_wordKind (d + 5) 257 [vr a, vi f, vi e] [] M Q9 := fun hh => wk_test (tgt := 273) hJ (hL (198, "stay", [115, 116, 97, 121]) (List.mem_of_getElem? (i := 9) rfl)) hO h hfe hel d_MM_wordKind_257 d_MM_wordKind_258 d_MM_wordKind_259 d_MM_wordKind_260 d_MM_wordKind_262 d_MM_wordKind_265 rfl (fun c => B273 (kw_none (wl_hd hh (by decide)) (wl_hd hh (by decide)) (wl_hd hh (by decide)) (wl_hd hh (by decide)) c (wl_hd hh (by decide)) (wl_hd hh (by decide)) (wl_hd hh (by decide)) (wl_hd hh (by decide)) (wl_hd hh (by decide)) (wl_hd hh (by decide)) (wl_hd hh (by decide)) (wl_hd hh (by decide)))) (fun c => B268 (by rw [c]; decide))
  have B239 : (wlq (nt M (mR M a 2)) f e).head? = some 105 → mWm G y_MM_wordKind (d + 5) 239 [vr a, vi f, vi e] [] M Q9 := fun hh => wk_test (tgt := 255) hJ (hL (196, "init", [105, 110, 105, 116]) (List.mem_of_getElem? (i := 8) rfl)) hO h hfe hel d_MM_wordKind_239 d_MM_wordKind_240 d_MM_wordKind_241 d_MM_wordKind_242 d_MM_wordKind_244 d_MM_wordKind_247 rfl (fun c => B255 (kw_none (wl_hd hh (by decide)) (wl_hd hh (by decide)) (wl_hd hh (by decide)) (wl_hd hh (by decide)) (wl_hd hh (by decide)) (wl_hd hh (by decide)) c (wl_hd hh (by decide)) (wl_hd hh (by decide)) (wl_hd hh (by decide)) (wl_hd hh (by decide)) (wl_hd hh (by decide)) (wl_hd hh (by decide)))) (fun c => B250 (by rw [c]; decide))
  have B221 : (wlq (nt M (mR M a 2)) f e).head? = some 109 → wlq (nt M (mR M a 2)) f e ≠ [109, 97, 120] → wlq (nt M (mR M a 2)) f e ≠ [109, 105, 110] → mWm G y_MM_wordKind (d + 5) 221 [vr a, vi f, vi e] [] M Q9 := fun hh v1 v2 => wk_test (tgt := 237) hJ (hL (194, "most", [109, 111, 115, 116]) (List.mem_of_getElem? (i := 7) rfl)) hO h hfe hel d_MM_wordKind_221 d_MM_wordKind_222 d_MM_wordKind_223 d_MM_wordKind_224 d_MM_wordKind_226 d_MM_wordKind_229 rfl (fun c => B237 (kw_none (wl_hd hh (by decide)) v1 v2 (wl_hd hh (by decide)) (wl_hd hh (by decide)) (wl_hd hh (by decide)) (wl_hd hh (by decide)) c (wl_hd hh (by decide)) (wl_hd hh (by decide)) (wl_hd hh (by decide)) (wl_hd hh (by decide)) (wl_hd hh (by decide)))) (fun c => B232 (by rw [c]; decide))
  have B205 : (wlq (nt M (mR M a 2)) f e).head? = some 109 → wlq (nt M (mR M a 2)) f e ≠ [109, 97, 120] → mWm G y_MM_wordKind (d + 5) 205 [vr a, vi f, vi e] [] M Q9 := fun hh v1 => wk_test (tgt := 221) hJ (hL (192, "min", [109, 105, 110]) (List.mem_of_getElem? (i := 6) rfl)) hO h hfe hel d_MM_wordKind_205 d_MM_wordKind_206 d_MM_wordKind_207 d_MM_wordKind_208 d_MM_wordKind_210 d_MM_wordKind_213 rfl (fun c => B221 hh v1 c) (fun c => B216 (by rw [c]; decide))
  have B189 : (wlq (nt M (mR M a 2)) f e).head? = some 109 → mWm G y_MM_wordKind (d + 5) 189 [vr a, vi f, vi e] [] M Q9 := fun hh => wk_test (tgt := 205) hJ (hL (190, "max", [109, 97, 120]) (List.mem_of_getElem? (i := 5) rfl)) hO h hfe hel d_MM_wordKind_189 d_MM_wordKind_190 d_MM_wordKind_191 d_MM_wordKind_192 d_MM_wordKind_194 d_MM_wordKind_197 rfl (fun c => B205 hh c) (fun c => B200 (by rw [c]; decide))
  have B171 : (wlq (nt M (mR M a 2)) f e).head? = some 102 → wlq (nt M (mR M a 2)) f e ≠ [102, 111, 114, 109, 117, 108, 97] → mWm G y_MM_wordKind (d + 5) 171 [vr a, vi f, vi e] [] M Q9 := fun hh v12 => wk_test (tgt := 187) hJ (hL (188, "false", [102, 97, 108, 115, 101]) (List.mem_of_getElem? (i := 4) rfl)) hO h hfe hel d_MM_wordKind_171 d_MM_wordKind_172 d_MM_wordKind_173 d_MM_wordKind_174 d_MM_wordKind_176 d_MM_wordKind_179 rfl (fun c => B187 (kw_none (wl_hd hh (by decide)) (wl_hd hh (by decide)) (wl_hd hh (by decide)) (wl_hd hh (by decide)) (wl_hd hh (by decide)) (wl_hd hh (by decide)) (wl_hd hh (by decide)) (wl_hd hh (by decide)) (wl_hd hh (by decide)) c (wl_hd hh (by decide)) (wl_hd hh (by decide)) v12)) (fun c => B182 (by rw [c]; decide))
  have B155 : (wlq (nt M (mR M a 2)) f e).head? = some 102 → mWm G y_MM_wordKind (d + 5) 155 [vr a, vi f, vi e] [] M Q9 := fun hh => wk_test (tgt := 171) hJ (hL (186, "formula", [102, 111, 114, 109, 117, 108, 97]) (List.mem_of_getElem? (i := 3) rfl)) hO h hfe hel d_MM_wordKind_155 d_MM_wordKind_156 d_MM_wordKind_157 d_MM_wordKind_158 d_MM_wordKind_160 d_MM_wordKind_163 rfl (fun c => B171 hh c) (fun c => B166 (by rw [c]; decide))
  have B138 : (wlq (nt M (mR M a 2)) f e).head? = some 98 → mWm G y_MM_wordKind (d + 5) 138 [vr a, vi f, vi e] [] M Q9 := fun hh => wk_test (tgt := 153) hJ (hL (184, "bool", [98, 111, 111, 108]) (List.mem_of_getElem? (i := 2) rfl)) hO h hfe hel d_MM_wordKind_138 d_MM_wordKind_139 d_MM_wordKind_140 d_MM_wordKind_141 d_MM_wordKind_143 d_MM_wordKind_146 rfl (fun c => B153 (kw_none (wl_hd hh (by decide)) (wl_hd hh (by decide)) (wl_hd hh (by decide)) (wl_hd hh (by decide)) (wl_hd hh (by decide)) c (wl_hd hh (by decide)) (wl_hd hh (by decide)) (wl_hd hh (by decide)) (wl_hd hh (by decide)) (wl_hd hh (by decide)) (wl_hd hh (by decide)) (wl_hd hh (by decide)))) (fun c => B149 (by rw [c]; decide))
  have B121 : (wlq (nt M (mR M a 2)) f e).head? = some 118 → mWm G y_MM_wordKind (d + 5) 121 [vr a, vi f, vi e] [] M Q9 := fun hh => wk_test (tgt := 136) hJ (hL (182, "var", [118, 97, 114]) (List.mem_of_getElem? (i := 1) rfl)) hO h hfe hel d_MM_wordKind_121 d_MM_wordKind_122 d_MM_wordKind_123 d_MM_wordKind_124 d_MM_wordKind_126 d_MM_wordKind_129 rfl (fun c => B136 (kw_none c (wl_hd hh (by decide)) (wl_hd hh (by decide)) (wl_hd hh (by decide)) (wl_hd hh (by decide)) (wl_hd hh (by decide)) (wl_hd hh (by decide)) (wl_hd hh (by decide)) (wl_hd hh (by decide)) (wl_hd hh (by decide)) (wl_hd hh (by decide)) (wl_hd hh (by decide)) (wl_hd hh (by decide)))) (fun c => B132 (by rw [c]; decide))
  have B104 : (wlq (nt M (mR M a 2)) f e).head? = some 99 → mWm G y_MM_wordKind (d + 5) 104 [vr a, vi f, vi e] [] M Q9 := fun hh => wk_test (tgt := 119) hJ (hL (176, "const", [99, 111, 110, 115, 116]) (List.mem_of_getElem? (i := 0) rfl)) hO h hfe hel d_MM_wordKind_104 d_MM_wordKind_105 d_MM_wordKind_106 d_MM_wordKind_107 d_MM_wordKind_109 d_MM_wordKind_112 rfl (fun c => B119 (kw_none (wl_hd hh (by decide)) (wl_hd hh (by decide)) (wl_hd hh (by decide)) (wl_hd hh (by decide)) (wl_hd hh (by decide)) (wl_hd hh (by decide)) (wl_hd hh (by decide)) (wl_hd hh (by decide)) c (wl_hd hh (by decide)) (wl_hd hh (by decide)) (wl_hd hh (by decide)) (wl_hd hh (by decide)))) (fun c => B115 (by rw [c]; decide))
  refine wm_aload_n d_MM_wordKind_0 rfl rfl ?_
  refine wm_iload_n d_MM_wordKind_1 rfl rfl ?_
  refine cf_MM_159 rfl d_MM_wordKind_2 h.1.1 (Nat.le_of_ble_eq_true rfl) ?_
  refine (s_MM_letter (d := d + 3) (by omega) hO h).mono (fun x M' q => ?_)
  obtain ⟨eM, hx⟩ := q
  have ix : i32 x := by rw [hx]; exact lt_i32 hO
  rw [eM]
  have hh : (wlq (nt M (mR M a 2)) f e).head? = some x := by
    rw [wlq_hd hfe.2.1, hx]
    unfold lt
    rw [if_pos (by omega)]
  clear hx
  by_cases c : x < 98 ∨ 118 < x
  · exact wm_tableOut (tgt := 327) d_MM_wordKind_5 ix c rfl (B327 (kw_none (wl_hd hh (by intro u; have u : (118 : Int) = x := Option.some.inj u; omega)) (wl_hd hh (by intro u; have u : (109 : Int) = x := Option.some.inj u; omega)) (wl_hd hh (by intro u; have u : (109 : Int) = x := Option.some.inj u; omega)) (wl_hd hh (by intro u; have u : (116 : Int) = x := Option.some.inj u; omega)) (wl_hd hh (by intro u; have u : (115 : Int) = x := Option.some.inj u; omega)) (wl_hd hh (by intro u; have u : (98 : Int) = x := Option.some.inj u; omega)) (wl_hd hh (by intro u; have u : (105 : Int) = x := Option.some.inj u; omega)) (wl_hd hh (by intro u; have u : (109 : Int) = x := Option.some.inj u; omega)) (wl_hd hh (by intro u; have u : (99 : Int) = x := Option.some.inj u; omega)) (wl_hd hh (by intro u; have u : (102 : Int) = x := Option.some.inj u; omega)) (wl_hd hh (by intro u; have u : (108 : Int) = x := Option.some.inj u; omega)) (wl_hd hh (by intro u; have u : (116 : Int) = x := Option.some.inj u; omega)) (wl_hd hh (by intro u; have u : (102 : Int) = x := Option.some.inj u; omega))))
  · have c5 : x = 98 ∨ x = 99 ∨ x = 100 ∨ x = 101 ∨ x = 102 ∨ x = 103 ∨ x = 104 ∨ x = 105 ∨ x = 106 ∨ x = 107 ∨ x = 108 ∨ x = 109 ∨ x = 110 ∨ x = 111 ∨ x = 112 ∨ x = 113 ∨ x = 114 ∨ x = 115 ∨ x = 116 ∨ x = 117 ∨ x = 118 := by omega
    rcases c5 with rfl | rfl | rfl | rfl | rfl | rfl | rfl | rfl | rfl | rfl | rfl | rfl | rfl | rfl | rfl | rfl | rfl | rfl | rfl | rfl | rfl
    · exact wm_tableIn (tgt := 138) (off := 133) d_MM_wordKind_5 ix (by decide) (by decide) rfl rfl (B138 hh)
    · exact wm_tableIn (tgt := 104) (off := 99) d_MM_wordKind_5 ix (by decide) (by decide) rfl rfl (B104 hh)
    · exact wm_tableIn (tgt := 327) (off := 322) d_MM_wordKind_5 ix (by decide) (by decide) rfl rfl (B327 (kw_none (wl_hd hh (by decide)) (wl_hd hh (by decide)) (wl_hd hh (by decide)) (wl_hd hh (by decide)) (wl_hd hh (by decide)) (wl_hd hh (by decide)) (wl_hd hh (by decide)) (wl_hd hh (by decide)) (wl_hd hh (by decide)) (wl_hd hh (by decide)) (wl_hd hh (by decide)) (wl_hd hh (by decide)) (wl_hd hh (by decide))))
    · exact wm_tableIn (tgt := 327) (off := 322) d_MM_wordKind_5 ix (by decide) (by decide) rfl rfl (B327 (kw_none (wl_hd hh (by decide)) (wl_hd hh (by decide)) (wl_hd hh (by decide)) (wl_hd hh (by decide)) (wl_hd hh (by decide)) (wl_hd hh (by decide)) (wl_hd hh (by decide)) (wl_hd hh (by decide)) (wl_hd hh (by decide)) (wl_hd hh (by decide)) (wl_hd hh (by decide)) (wl_hd hh (by decide)) (wl_hd hh (by decide))))
    · exact wm_tableIn (tgt := 155) (off := 150) d_MM_wordKind_5 ix (by decide) (by decide) rfl rfl (B155 hh)
    · exact wm_tableIn (tgt := 327) (off := 322) d_MM_wordKind_5 ix (by decide) (by decide) rfl rfl (B327 (kw_none (wl_hd hh (by decide)) (wl_hd hh (by decide)) (wl_hd hh (by decide)) (wl_hd hh (by decide)) (wl_hd hh (by decide)) (wl_hd hh (by decide)) (wl_hd hh (by decide)) (wl_hd hh (by decide)) (wl_hd hh (by decide)) (wl_hd hh (by decide)) (wl_hd hh (by decide)) (wl_hd hh (by decide)) (wl_hd hh (by decide))))
    · exact wm_tableIn (tgt := 327) (off := 322) d_MM_wordKind_5 ix (by decide) (by decide) rfl rfl (B327 (kw_none (wl_hd hh (by decide)) (wl_hd hh (by decide)) (wl_hd hh (by decide)) (wl_hd hh (by decide)) (wl_hd hh (by decide)) (wl_hd hh (by decide)) (wl_hd hh (by decide)) (wl_hd hh (by decide)) (wl_hd hh (by decide)) (wl_hd hh (by decide)) (wl_hd hh (by decide)) (wl_hd hh (by decide)) (wl_hd hh (by decide))))
    · exact wm_tableIn (tgt := 239) (off := 234) d_MM_wordKind_5 ix (by decide) (by decide) rfl rfl (B239 hh)
    · exact wm_tableIn (tgt := 327) (off := 322) d_MM_wordKind_5 ix (by decide) (by decide) rfl rfl (B327 (kw_none (wl_hd hh (by decide)) (wl_hd hh (by decide)) (wl_hd hh (by decide)) (wl_hd hh (by decide)) (wl_hd hh (by decide)) (wl_hd hh (by decide)) (wl_hd hh (by decide)) (wl_hd hh (by decide)) (wl_hd hh (by decide)) (wl_hd hh (by decide)) (wl_hd hh (by decide)) (wl_hd hh (by decide)) (wl_hd hh (by decide))))
    · exact wm_tableIn (tgt := 327) (off := 322) d_MM_wordKind_5 ix (by decide) (by decide) rfl rfl (B327 (kw_none (wl_hd hh (by decide)) (wl_hd hh (by decide)) (wl_hd hh (by decide)) (wl_hd hh (by decide)) (wl_hd hh (by decide)) (wl_hd hh (by decide)) (wl_hd hh (by decide)) (wl_hd hh (by decide)) (wl_hd hh (by decide)) (wl_hd hh (by decide)) (wl_hd hh (by decide)) (wl_hd hh (by decide)) (wl_hd hh (by decide))))
    · exact wm_tableIn (tgt := 309) (off := 304) d_MM_wordKind_5 ix (by decide) (by decide) rfl rfl (B309 hh)
    · exact wm_tableIn (tgt := 189) (off := 184) d_MM_wordKind_5 ix (by decide) (by decide) rfl rfl (B189 hh)
    · exact wm_tableIn (tgt := 327) (off := 322) d_MM_wordKind_5 ix (by decide) (by decide) rfl rfl (B327 (kw_none (wl_hd hh (by decide)) (wl_hd hh (by decide)) (wl_hd hh (by decide)) (wl_hd hh (by decide)) (wl_hd hh (by decide)) (wl_hd hh (by decide)) (wl_hd hh (by decide)) (wl_hd hh (by decide)) (wl_hd hh (by decide)) (wl_hd hh (by decide)) (wl_hd hh (by decide)) (wl_hd hh (by decide)) (wl_hd hh (by decide))))
    · exact wm_tableIn (tgt := 327) (off := 322) d_MM_wordKind_5 ix (by decide) (by decide) rfl rfl (B327 (kw_none (wl_hd hh (by decide)) (wl_hd hh (by decide)) (wl_hd hh (by decide)) (wl_hd hh (by decide)) (wl_hd hh (by decide)) (wl_hd hh (by decide)) (wl_hd hh (by decide)) (wl_hd hh (by decide)) (wl_hd hh (by decide)) (wl_hd hh (by decide)) (wl_hd hh (by decide)) (wl_hd hh (by decide)) (wl_hd hh (by decide))))
    · exact wm_tableIn (tgt := 327) (off := 322) d_MM_wordKind_5 ix (by decide) (by decide) rfl rfl (B327 (kw_none (wl_hd hh (by decide)) (wl_hd hh (by decide)) (wl_hd hh (by decide)) (wl_hd hh (by decide)) (wl_hd hh (by decide)) (wl_hd hh (by decide)) (wl_hd hh (by decide)) (wl_hd hh (by decide)) (wl_hd hh (by decide)) (wl_hd hh (by decide)) (wl_hd hh (by decide)) (wl_hd hh (by decide)) (wl_hd hh (by decide))))
    · exact wm_tableIn (tgt := 327) (off := 322) d_MM_wordKind_5 ix (by decide) (by decide) rfl rfl (B327 (kw_none (wl_hd hh (by decide)) (wl_hd hh (by decide)) (wl_hd hh (by decide)) (wl_hd hh (by decide)) (wl_hd hh (by decide)) (wl_hd hh (by decide)) (wl_hd hh (by decide)) (wl_hd hh (by decide)) (wl_hd hh (by decide)) (wl_hd hh (by decide)) (wl_hd hh (by decide)) (wl_hd hh (by decide)) (wl_hd hh (by decide))))
    · exact wm_tableIn (tgt := 327) (off := 322) d_MM_wordKind_5 ix (by decide) (by decide) rfl rfl (B327 (kw_none (wl_hd hh (by decide)) (wl_hd hh (by decide)) (wl_hd hh (by decide)) (wl_hd hh (by decide)) (wl_hd hh (by decide)) (wl_hd hh (by decide)) (wl_hd hh (by decide)) (wl_hd hh (by decide)) (wl_hd hh (by decide)) (wl_hd hh (by decide)) (wl_hd hh (by decide)) (wl_hd hh (by decide)) (wl_hd hh (by decide))))
    · exact wm_tableIn (tgt := 257) (off := 252) d_MM_wordKind_5 ix (by decide) (by decide) rfl rfl (B257 hh)
    · exact wm_tableIn (tgt := 275) (off := 270) d_MM_wordKind_5 ix (by decide) (by decide) rfl rfl (B275 hh)
    · exact wm_tableIn (tgt := 327) (off := 322) d_MM_wordKind_5 ix (by decide) (by decide) rfl rfl (B327 (kw_none (wl_hd hh (by decide)) (wl_hd hh (by decide)) (wl_hd hh (by decide)) (wl_hd hh (by decide)) (wl_hd hh (by decide)) (wl_hd hh (by decide)) (wl_hd hh (by decide)) (wl_hd hh (by decide)) (wl_hd hh (by decide)) (wl_hd hh (by decide)) (wl_hd hh (by decide)) (wl_hd hh (by decide)) (wl_hd hh (by decide))))
    · exact wm_tableIn (tgt := 121) (off := 116) d_MM_wordKind_5 ix (by decide) (by decide) rfl rfl (B121 hh)
end NAM
theorem WKs.of {G : mG} (h : LT G) : WKs G := fun d a f e M hO hw h1 h2 h3 h4 => (s_MM_wordKind h.1 h.2.2 hO hw ⟨by omega, h1, h3⟩ h2).mono (fun _ _ q => ⟨q.1, q.2.1⟩)
theorem NSs.of {G : mG} (h : LT G) : NSs G := fun d w T A B D N C p n M hO hw h1 h2 h3 => (s_Wo_nameSort h.1 h.2.1 hO hw h1 h3).mono (fun _ _ q => ⟨q.1, q.2.1⟩)
end
section
section
/-! The reference: one step of the grammar, exactly. -/
/-- a step of the grammar, and why it fails where it fails -/
def pQx (M : mM) (a : Nat) (st : List Int) (x nx r : Int) (M' : mM) : Prop := pQ M a st x nx r M' ∧ (r = -1 → ex x nx = none ∨ ∃ ys t, ex x nx = some (ys, t) ∧ dlv x ys = 1 ∧ 40 ≤ mI M a 7)
section PIX
variable {G : mG} {d a : Nat} {M M2 : mM} {st : List Int} {lv nx : Int}
theorem SI.donex {x nx : Int} {ys : List Int} {t : Nat} (h : SI M a (ys ++ st) lv M2) (he : ex x nx = some (ys, t)) (hl : lv = mI M a 7 + dlv x ys) (h4 : lv = mI M a 7 ∨ lv ≤ 40) : pQx M a st x nx (t : Int) M2 := ⟨h.done he hl h4, fun q => by omega⟩
theorem SI.fail0 {x nx : Int} {st' : List Int} (h : SI M a st' lv M2) (he : ex x nx = none) : pQx M a st x nx (-1) M2 := ⟨h.fail, fun _ => Or.inl he⟩
theorem SI.fail1 {x nx : Int} {st' ys : List Int} {t : Nat} (h : SI M a st' lv M2) (he : ex x nx = some (ys, t)) (hd : dlv x ys = 1) (h4 : 40 ≤ mI M a 7) : pQx M a st x nx (-1) M2 := ⟨h.fail, fun _ => Or.inr ⟨ys, t, he, hd, h4⟩⟩
theorem SI.levelx (h : SI M a st lv M2) (h1 : -1000000 ≤ lv) (h2 : lv ≤ 1000000) : Ci G y_MM_level d [vr a] M2 (fun r M3 => SI M a st (lv + 1) M3 ∧ (r = 0 ∨ r = 1) ∧ (r ≠ 0 → lv + 1 ≤ 40) ∧ (r = 0 → 40 ≤ lv)) := by
  have hk := h.k
  obtain ⟨m, f, s, l⟩ := h
  have w := m.2.1
  refine k_MM_level m.1 ?_
  rw [l]
  refine ⟨hk, ⟨by omega, by omega⟩, fun M3 e3 v hv => ?_⟩
  obtain ⟨m3, f3⟩ := mv_fld ⟨by omega, by omega⟩ m.1 w e3
  have l3 : mI M3 a 7 = lv + 1 := by rw [f3, if_pos rfl]
  rw [l3] at hv
  have s3 := m3.2.2.2.2 _ q11 (fun hq => hq)
  exact ⟨⟨m.trans (m3.mono (fun q hq => hq.elim) (fun x hx => hx) (fun q hq => by rw [hq]; exact w.lt q11)), fun j hj => by rw [f3, if_neg hj]; exact f j hj, s.same s3, l3⟩, by split at hv <;> omega, fun q => by split at hv <;> omega, fun q => by split at hv <;> omega⟩

theorem x_MM_ask (h : SI M a st lv M2) (hl : st.length ≤ 800) (h1 : -1000 ≤ lv) (h2 : lv ≤ 1000) : Ci G y_MM_ask (d + 2) [vr a] M2 (fun r M3 => SI M a (61 :: 33 :: 61 :: 75 :: st) (lv + 1) M3 ∧ ((r = -1 ∧ 40 ≤ lv) ∨ (r = 1 ∧ lv + 1 ≤ 40))) := by
  refine k_MM_ask h.ok ?_
  rw [h.r6]
  refine ⟨h.k, h.k6, (h.push (by omega) ⟨by omega, by omega⟩).mono (fun M3 h3 => ⟨h3.ok, h3.k, (s_MM_want (d := d) h3 (by rw [List.length_cons]; omega) ⟨by omega, by omega⟩ ⟨by omega, by omega⟩ ⟨by omega, by omega⟩).mono (fun M4 h4 => ⟨h4.ok, h4.k, (h4.levelx (by omega) (by omega)).mono (fun r M5 h5 => ?_)⟩)⟩)⟩
  obtain ⟨h5, r1, r2, r3⟩ := h5
  refine ⟨⟨by omega, by omega⟩, h5.ok, fun v hv => ⟨h5, ?_⟩⟩
  by_cases q : r = 0
  · rw [if_pos q] at hv; exact Or.inl ⟨hv, r3 q⟩
  · rw [if_neg q] at hv; exact Or.inr ⟨hv, r2 q⟩

theorem x_MM_anItem (hn : i32 nx) (hO : mOk M) (h : Wd M a) (hs : St M (a + 11) st) (hl : st.length ≤ 700) : Ci G y_MM_anItem (d + 2) [vr a, vi nx] M (pQx M a st 50 nx) := by
  have s0 := SI.start hO h hs
  have e50 : ex 50 nx = ex50 nx := rfl
  unfold ex50 at e50
  refine k_MM_anItem hO hn ⟨fun w => ?_, fun w => ?_⟩
  · rw [if_pos w] at e50
    exact s0.donex (ys := []) (t := 1) e50 (dl0 rfl rfl (by omega)) (Or.inl rfl)
  · rw [if_neg w] at e50
    rw [s0.r6]
    refine ⟨s0.k, s0.k6, s0.two (by omega) (i32s (by omega) (by omega)) (i32s (by omega) (by omega)) (fun M3 h3 => ?_)⟩
    rw [h3.r6]
    have hz : ∀ ys, c75 ys = 0 → c76 ys = 0 → mI M a 7 = mI M a 7 + dlv 50 ys := fun ys h1 h2 => by unfold dlv; rw [h1, h2, if_neg (by omega)]; omega
    refine ⟨fun w1 => ⟨h3.k, h3.k6, (h3.push (by simp only [List.length_cons]; omega) (i32s (by omega) (by omega))).mono (fun M4 h4 => ?_)⟩, fun w1 => ⟨fun w2 => ⟨h3.k, h3.k6, (h3.push (by simp only [List.length_cons]; omega) (i32s (by omega) (by omega))).mono (fun M4 h4 => ⟨h4.ok, h4.k, (s_MM_want (d := d) h4 (by simp only [List.length_cons]; omega) (i32s (by omega) (by omega)) (i32s (by omega) (by omega)) (i32s (by omega) (by omega))).mono (fun M5 h5 => ?_)⟩)⟩, fun w2 => ⟨fun w3 => ⟨h3.k, h3.k6, (h3.push (by simp only [List.length_cons]; omega) (i32s (by omega) (by omega))).mono (fun M4 h4 => ⟨h4.ok, h4.k, (s_MM_want (d := d) h4 (by simp only [List.length_cons]; omega) (i32s (by omega) (by omega)) (i32s (by omega) (by omega)) (i32s (by omega) (by omega))).mono (fun M5 h5 => ?_)⟩)⟩, fun w3 => ⟨fun w4 => ⟨h3.k, h3.k6, (h3.push (by simp only [List.length_cons]; omega) (i32s (by omega) (by omega))).mono (fun M4 h4 => ?_)⟩, fun w4 => ?_⟩⟩⟩⟩
    · rw [if_pos w1] at e50
      exact ⟨h4.ok, h4.donex (ys := [51, 34, 50]) (t := 1) e50 (hz _ (by decide) (by decide)) (Or.inl rfl)⟩
    · rw [if_neg w1, if_pos w2] at e50
      exact ⟨h5.ok, h5.donex (ys := [1, 33, 53, 54, 34, 50]) (t := 1) e50 (hz _ (by decide) (by decide)) (Or.inl rfl)⟩
    · rw [if_neg w1, if_neg w2, if_pos w3] at e50
      exact ⟨h5.ok, h5.donex (ys := [61, 17, 56, 57, 34, 50]) (t := 1) e50 (hz _ (by decide) (by decide)) (Or.inl rfl)⟩
    · rw [if_neg w1, if_neg w2, if_neg w3, if_pos w4] at e50
      exact ⟨h4.ok, h4.donex (ys := [61, 34, 50]) (t := 1) e50 (hz _ (by decide) (by decide)) (Or.inl rfl)⟩
    · rw [if_neg w1, if_neg w2, if_neg w3, if_neg w4] at e50
      exact h3.fail0 e50

theorem x_MM_set0 (hn : i32 nx) (hO : mOk M) (h : Wd M a) (hs : St M (a + 11) st) (hl : st.length ≤ 700) (h1 : -900 ≤ mI M a 7) (h2 : mI M a 7 ≤ 900) : Ci G y_MM_set0 (d + 2) [vr a, vi nx] M (pQx M a st 59 nx) := by
  have s0 := SI.start hO h hs
  have e0 : ex 59 nx = ex59 nx := rfl
  unfold ex59 at e0
  refine k_MM_set0 hO hn ⟨fun w => ⟨s0.k, (s0.levelx (by omega) (by omega)).mono (fun r M2 h2 => ?_)⟩, fun w => s0.fail0 (by rw [if_neg w] at e0; exact e0)⟩
  obtain ⟨h2, r1, r2, r3⟩ := h2
  rw [if_pos w] at e0
  refine ⟨⟨by omega, by omega⟩, h2.ok, fun q => h2.fail1 e0 (by decide) (r3 q), fun q => ?_⟩
  rw [h2.r6]
  refine ⟨h2.k, h2.k6, (h2.push (by omega) (i32s (by omega) (by omega))).mono (fun M3 h3 => ?_)⟩
  rw [h3.r6]
  refine ⟨h3.ok, h3.k, h3.k6, (h3.push (by simp only [List.length_cons]; omega) (i32s (by omega) (by omega))).mono (fun M4 h4 => ?_)⟩
  rw [h4.r6]
  refine ⟨h4.ok, h4.k, h4.k6, (h4.push (by simp only [List.length_cons]; omega) (i32s (by omega) (by omega))).mono (fun M5 h5 => ⟨h5.ok, h5.k, (s_MM_want (d := d) h5 (by simp only [List.length_cons]; omega) (i32s (by omega) (by omega)) (i32s (by omega) (by omega)) (i32s (by omega) (by omega))).mono (fun M6 h6 => ?_)⟩)⟩
  exact ⟨h6.ok, h6.donex (ys := [1, 38, 23, 61, 37, 75]) (t := 1) e0 (dl1 (by decide) (by decide) (by omega)) (Or.inr (r2 q))⟩

theorem ag_donex {x u v g r : Int} {M3 : mM} (s0 : SI M a st (mI M a 7) M) (hx : x ≠ 76) (hv : c75 [v, u] = 0 ∧ c76 [v, u] = 0) (e1 : g ≠ 0 → ex x nx = some ([v, u], 1)) (e2 : g = 0 → ex x nx = some ([], 0)) (h : (g = 0 ∧ r = 0 ∧ M3 = M) ∨ (g ≠ 0 ∧ r = 1 ∧ SI M a (v :: u :: st) (mI M a 7) M3)) : i32 r ∧ mOk M3 ∧ pQx M a st x nx r M3 := by
  rcases h with ⟨h1, h2, h3⟩ | ⟨h1, h2, h3⟩
  · subst h2 h3
    exact ⟨i32s (by omega) (by omega), s0.ok, s0.donex (ys := []) (t := 0) (e2 h1) (dl0 rfl rfl hx) (Or.inl rfl)⟩
  · subst h2
    exact ⟨i32s (by omega) (by omega), h3.ok, h3.donex (ys := [v, u]) (t := 1) (e1 h1) (dl0 hv.1 hv.2 hx) (Or.inl rfl)⟩

theorem x_MM_item {x : Int} (hx : x = 50 ∨ x = 51 ∨ x = 53 ∨ x = 54 ∨ x = 56 ∨ x = 57 ∨ x = 58 ∨ x = 59 ∨ x = 60) (hn : i32 nx) (hO : mOk M) (h : Wd M a) (hs : St M (a + 11) st) (hl : st.length ≤ 700) (h1 : -900 ≤ mI M a 7) (h2 : mI M a 7 ≤ 900) : Ci G y_MM_item (d + 3) [vr a, vi x, vi nx] M (pQx M a st x nx) := by
  have s0 := SI.start hO h hs
  refine k_MM_item hO (by rcases hx with q | q | q | q | q | q | q | q | q <;> rw [q] <;> exact i32s (by omega) (by omega)) hn ⟨fun w => ⟨s0.k, ?_⟩, fun w50 => ⟨fun w => ⟨s0.k, ?_⟩, fun w51 => ⟨fun w => ?_, fun w53 => ⟨fun w => ?_, fun w54 => ⟨fun w => ⟨s0.k, ?_⟩, fun w56 => ⟨fun w => ?_, fun w57 => ⟨fun w => ?_, fun w58 => ⟨fun w => ?_, fun w60 => ⟨s0.k, ?_⟩⟩⟩⟩⟩⟩⟩⟩⟩
  · subst w
    refine (x_MM_anItem (d := d) hn hO h hs hl).mono (fun r M2 h2 => ⟨?_, h2.1.1.1, h2⟩)
    rcases h2.1.2.2 with q | ⟨ys, t, e, q, -⟩
    · rw [q]; exact i32s (by omega) (by omega)
    · have c := ex_chk e
      unfold chk at c
      simp only [Bool.and_eq_true, decide_eq_true_eq] at c
      exact i32s (by omega) (by omega)
  · subst w
    refine (s_MM_want (d := d + 1) s0 (by omega) (i32s (by omega) (by omega)) (i32s (by omega) (by omega)) (i32s (by omega) (by omega))).mono (fun M2 h2 => ⟨h2.ok, h2.donex (ys := [1, 23, 61]) (t := 0) rfl (dl0 (by decide) (by decide) (by omega)) (Or.inl rfl)⟩)
  · subst w
    have e0 : ex 53 nx = ex53 nx := rfl
    unfold ex53 at e0
    refine ⟨fun w => ?_, fun w => ⟨s0.k, (s_MM_want (d := d + 1) s0 (by omega) (i32s (by omega) (by omega)) (i32s (by omega) (by omega)) (i32s (by omega) (by omega))).mono (fun M2 h2 => ⟨h2.ok, ?_⟩)⟩⟩
    · rw [if_pos w] at e0
      exact s0.donex (ys := []) (t := 1) e0 (dl0 rfl rfl (by omega)) (Or.inl rfl)
    · rw [if_neg w] at e0
      exact h2.donex (ys := [61, 16, 61]) (t := 0) e0 (dl0 (by decide) (by decide) (by omega)) (Or.inl rfl)
  · subst w
    have e0 : ex 54 nx = ex54 nx := rfl
    unfold ex54 at e0
    rw [s0.r6]
    refine ⟨fun w => ⟨s0.k, s0.k6, (s0.push (by omega) (i32s (by omega) (by omega))).mono (fun M2 h2 => ⟨h2.ok, ?_⟩)⟩, fun w => ?_⟩
    · rw [if_pos w] at e0
      exact h2.donex (ys := [61]) (t := 1) e0 (dl0 (by decide) (by decide) (by omega)) (Or.inl rfl)
    · rw [if_neg w] at e0
      exact s0.donex (ys := []) (t := 0) e0 (dl0 rfl rfl (by omega)) (Or.inl rfl)
  · subst w
    refine (s_MM_want (d := d + 1) s0 (by omega) (i32s (by omega) (by omega)) (i32s (by omega) (by omega)) (i32s (by omega) (by omega))).mono (fun M2 h2 => ⟨h2.ok, h2.donex (ys := [63, 33, 58]) (t := 0) rfl (dl0 (by decide) (by decide) (by omega)) (Or.inl rfl)⟩)
  · subst w
    intro v hv
    have e0 : ex 57 nx = ex57 nx := rfl
    unfold ex57 at e0
    refine ⟨s0.k, (s_MM_again (d := d + 1) s0 (by omega) (by split at hv <;> exact i32s (by omega) (by omega)) (i32s (by omega) (by omega)) (i32s (by omega) (by omega))).mono (fun r M3 h3 => ag_donex s0 (by omega) (by decide) (fun w => ?_) (fun w => ?_) h3)⟩
    · rw [if_pos (by split at hv <;> omega)] at e0; exact e0
    · rw [if_neg (by split at hv <;> omega)] at e0; exact e0
  · subst w
    have e0 : ex 58 nx = ex58 nx := rfl
    unfold ex58 at e0
    rw [s0.r6]
    refine ⟨fun w => ?_, fun w => ⟨s0.k, s0.k6, s0.two (by omega) (i32s (by omega) (by omega)) (i32s (by omega) (by omega)) (fun M3 h3 => ?_)⟩⟩
    · rw [if_pos w] at e0
      exact s0.donex (ys := []) (t := 1) e0 (dl0 rfl rfl (by omega)) (Or.inl rfl)
    · rw [if_neg w] at e0
      exact h3.donex (ys := [59, 60]) (t := 0) e0 (dl0 (by decide) (by decide) (by omega)) (Or.inl rfl)
  · subst w
    intro v hv
    have e0 : ex 60 nx = ex60 nx := rfl
    unfold ex60 at e0
    refine ⟨s0.k, (s_MM_again (d := d + 1) s0 (by omega) (by split at hv <;> exact i32s (by omega) (by omega)) (i32s (by omega) (by omega)) (i32s (by omega) (by omega))).mono (fun r M3 h3 => ag_donex s0 (by omega) (by decide) (fun w => ?_) (fun w => ?_) h3)⟩
    · rw [if_pos (by split at hv <;> omega)] at e0; exact e0
    · rw [if_neg (by split at hv <;> omega)] at e0; exact e0
  · have w59 : x = 59 := by omega
    subst w59
    refine (x_MM_set0 (d := d) hn hO h hs hl h1 h2).mono (fun r M2 h2 => ⟨?_, h2.1.1.1, h2⟩)
    rcases h2.1.2.2 with q | ⟨ys, t, e, q, -⟩
    · rw [q]; exact i32s (by omega) (by omega)
    · have c := ex_chk e
      unfold chk at c
      simp only [Bool.and_eq_true, decide_eq_true_eq] at c
      exact i32s (by omega) (by omega)

theorem x_MM_sign (hn : i32 nx) (hO : mOk M) (h : Wd M a) (hs : St M (a + 11) st) (hl : st.length ≤ 700) (h1 : -900 ≤ mI M a 7) (h2 : mI M a 7 ≤ 900) : Ci G y_MM_sign (d + 2) [vr a, vi nx] M (pQx M a st 73 nx) := by
  have s0 := SI.start hO h hs
  have e0 : ex 73 nx = ex73 nx := rfl
  unfold ex73 at e0
  refine k_MM_sign hO hn ⟨fun w1 => ?_, fun w1 => ⟨fun w2 => ?_, fun w2 => ⟨fun w3 => ?_, fun w3 => ⟨fun w4 => ?_, fun w4 => s0.fail0 (by rw [if_neg w1, if_neg w2, if_neg w3, if_neg w4] at e0; exact e0)⟩⟩⟩⟩
  · rw [if_pos w1] at e0
    exact s0.donex (ys := []) (t := 1) e0 (dl0 rfl rfl (by omega)) (Or.inl rfl)
  · rw [if_neg w1, if_pos w2] at e0
    rw [s0.r6]
    refine ⟨s0.k, s0.k6, (s0.push (by omega) (i32s (by omega) (by omega))).mono (fun M2 h2 => ?_)⟩
    rw [h2.r6]
    refine ⟨h2.ok, h2.k, h2.k6, (h2.push (by simp only [List.length_cons]; omega) (i32s (by omega) (by omega))).mono (fun M3 h3 => ?_)⟩
    rw [h3.r6]
    refine ⟨h3.ok, h3.k, h3.k6, (h3.push (by simp only [List.length_cons]; omega) (i32s (by omega) (by omega))).mono (fun M4 h4 => ?_)⟩
    rw [h4.r6]
    refine ⟨h4.ok, h4.k, h4.k6, (h4.push (by simp only [List.length_cons]; omega) (i32s (by omega) (by omega))).mono (fun M5 h5 => ?_)⟩
    rw [h5.r6]
    refine ⟨h5.ok, h5.k, h5.k6, (h5.push (by simp only [List.length_cons]; omega) (i32s (by omega) (by omega))).mono (fun M6 h6 => ⟨h6.ok, ?_⟩)⟩
    exact h6.donex (ys := [76, 61, 74, 37, 75]) (t := 1) e0 (by unfold dlv; rw [show c75 [76, 61, 74, 37, 75] = 1 by decide, show c76 [76, 61, 74, 37, 75] = 1 by decide, if_neg (by omega)]; omega) (Or.inl rfl)
  · rw [if_neg w1, if_neg w2, if_pos w3] at e0
    rw [s0.r6]
    refine ⟨s0.k, s0.k6, s0.two (by omega) (i32s (by omega) (by omega)) (i32s (by omega) (by omega)) (fun M3 h3 => ⟨h3.k, (h3.levelx (by omega) (by omega)).mono (fun r M4 h4 => ?_)⟩)⟩
    obtain ⟨h4, r1, r2, r3⟩ := h4
    refine ⟨i32s (by omega) (by omega), h4.ok, fun v hv => ?_⟩
    by_cases q : r = 0
    · rw [if_pos q] at hv; subst hv; exact h4.fail1 e0 (by decide) (r3 q)
    · rw [if_neg q] at hv; subst hv
      exact h4.donex (ys := [73, 75]) (t := 1) e0 (dl1 (by decide) (by decide) (by omega)) (Or.inr (r2 q))
  · rw [if_neg w1, if_neg w2, if_neg w3, if_pos w4] at e0
    rw [s0.r6]
    refine ⟨s0.k, s0.k6, (s0.push (by omega) (i32s (by omega) (by omega))).mono (fun M2 h2 => ?_)⟩
    rw [h2.r6]
    refine ⟨h2.ok, h2.k, h2.k6, h2.two (by simp only [List.length_cons]; omega) (i32s (by omega) (by omega)) (i32s (by omega) (by omega)) (fun M3 h3 => ⟨h3.k, (h3.levelx (by omega) (by omega)).mono (fun r M4 h4 => ?_)⟩)⟩
    obtain ⟨h4, r1, r2, r3⟩ := h4
    refine ⟨i32s (by omega) (by omega), h4.ok, fun v hv => ?_⟩
    by_cases q : r = 0
    · rw [if_pos q] at hv; subst hv; exact h4.fail1 e0 (by decide) (r3 q)
    · rw [if_neg q] at hv; subst hv
      exact h4.donex (ys := [61, 37, 75]) (t := 1) e0 (dl1 (by decide) (by decide) (by omega)) (Or.inr (r2 q))

theorem x_MM_rule0 {x : Int} (hx : x = 61 ∨ x = 62 ∨ x = 63 ∨ x = 64 ∨ x = 65 ∨ x = 66 ∨ x = 67 ∨ x = 68 ∨ x = 69 ∨ x = 70 ∨ x = 71 ∨ x = 72 ∨ x = 73 ∨ x = 74 ∨ x = 76) (hn : i32 nx) (hO : mOk M) (h : Wd M a) (hs : St M (a + 11) st) (hl : st.length ≤ 700) (h1 : -900 ≤ mI M a 7) (h2 : mI M a 7 ≤ 900) : Ci G y_MM_rule0 (d + 3) [vr a, vi x, vi nx] M (pQx M a st x nx) := by
  have s0 := SI.start hO h hs
  have hxb : 61 ≤ x ∧ x ≤ 76 := by omega
  have i2 : ∀ u : Int, 0 ≤ u → u ≤ 100 → i32 u := fun u a b => i32s (by omega) (by omega)
  refine k_MM_rule0 hO (i32s (by omega) (by omega)) hn ⟨fun w => ?_, fun n1 => ⟨fun w => ?_, fun n2 => ⟨fun w => ?_, fun n3 => ⟨fun w => ?_, fun n4 => ⟨fun w => ?_, fun n5 => ⟨fun w => ?_, fun n6 => ⟨fun w => ?_, fun n7 => ⟨fun w => ?_, fun n8 => ⟨fun w => ?_, fun n9 => ⟨fun w => ?_, fun n10 => ⟨fun w => ?_, fun n11 => ⟨fun w => ?_, fun n12 => ⟨fun w => ?_, fun n13 => ⟨fun w => ?_, fun n14 => ?_⟩⟩⟩⟩⟩⟩⟩⟩⟩⟩⟩⟩⟩⟩
  · subst w
    rw [s0.r6]
    exact ⟨s0.k, s0.k6, s0.two (by omega) (i2 _ (by omega) (by omega)) (i2 _ (by omega) (by omega)) (fun M3 h3 => h3.donex (ys := [63, 62]) (t := 0) rfl (dl0 (by decide) (by decide) (by omega)) (Or.inl rfl))⟩
  · subst w
    have e0 : ex 62 nx = ex62 nx := rfl
    unfold ex62 at e0
    refine ⟨fun w => ⟨s0.k, (x_MM_ask (d := d) s0 (by omega) (by omega) (by omega)).mono (fun r M2 h2 => ?_)⟩, fun w => ?_⟩
    · obtain ⟨h2, hr⟩ := h2
      rw [if_pos w] at e0
      rcases hr with ⟨q, q2⟩ | ⟨q, q2⟩
      · subst q
        exact ⟨i32s (by omega) (by omega), h2.ok, k_MM_rule0_114 h2.ok (i32s (by omega) (by omega)) (h2.fail1 e0 (by decide) q2)⟩
      · subst q
        exact ⟨i32s (by omega) (by omega), h2.ok, k_MM_rule0_114 h2.ok (i32s (by omega) (by omega)) (h2.donex (ys := [61, 33, 61, 75]) (t := 1) e0 (dl1 (by decide) (by decide) (by omega)) (Or.inr q2))⟩
    · rw [if_neg w] at e0
      exact k_MM_rule0_114 s0.ok (i32s (by omega) (by omega)) (s0.donex (ys := []) (t := 0) e0 (dl0 rfl rfl (by omega)) (Or.inl rfl))
  · subst w
    rw [s0.r6]
    exact ⟨s0.k, s0.k6, s0.two (by omega) (i2 _ (by omega) (by omega)) (i2 _ (by omega) (by omega)) (fun M3 h3 => h3.donex (ys := [65, 64]) (t := 0) rfl (dl0 (by decide) (by decide) (by omega)) (Or.inl rfl))⟩
  · subst w
    intro v hv
    have e0 : ex 64 nx = ex64 nx := rfl
    unfold ex64 at e0
    refine ⟨s0.k, (s_MM_again (d := d + 1) s0 (by omega) (by split at hv <;> exact i32s (by omega) (by omega)) (i2 _ (by omega) (by omega)) (i2 _ (by omega) (by omega))).mono (fun r M3 h3 => ag_donex s0 (by omega) (by decide) (fun w => ?_) (fun w => ?_) h3)⟩
    · rw [if_pos (by split at hv <;> omega)] at e0; exact e0
    · rw [if_neg (by split at hv <;> omega)] at e0; exact e0
  · subst w
    rw [s0.r6]
    exact ⟨s0.k, s0.k6, s0.two (by omega) (i2 _ (by omega) (by omega)) (i2 _ (by omega) (by omega)) (fun M3 h3 => h3.donex (ys := [67, 66]) (t := 0) rfl (dl0 (by decide) (by decide) (by omega)) (Or.inl rfl))⟩
  · subst w
    intro v hv
    have e0 : ex 66 nx = ex66 nx := rfl
    unfold ex66 at e0
    refine ⟨s0.k, (s_MM_again (d := d + 1) s0 (by omega) (by split at hv <;> exact i32s (by omega) (by omega)) (i2 _ (by omega) (by omega)) (i2 _ (by omega) (by omega))).mono (fun r M3 h3 => ag_donex s0 (by omega) (by decide) (fun w => ?_) (fun w => ?_) h3)⟩
    · rw [if_pos (by split at hv <;> omega)] at e0; exact e0
    · rw [if_neg (by split at hv <;> omega)] at e0; exact e0
  · subst w
    have e0 : ex 67 nx = ex67 nx := rfl
    unfold ex67 at e0
    rw [s0.r6]
    refine ⟨fun w => ⟨s0.k, s0.k6, s0.two (by omega) (i2 _ (by omega) (by omega)) (i2 _ (by omega) (by omega)) (fun M3 h3 => ⟨h3.k, (h3.levelx (by omega) (by omega)).mono (fun r M4 h4 => ?_)⟩)⟩, fun w => ⟨s0.k, s0.k6, s0.two (by omega) (i2 _ (by omega) (by omega)) (i2 _ (by omega) (by omega)) (fun M3 h3 => ?_)⟩⟩
    · obtain ⟨h4, r1, r2, r3⟩ := h4
      rw [if_pos w] at e0
      refine ⟨i32s (by omega) (by omega), h4.ok, fun v hv => ?_⟩
      by_cases q : r = 0
      · rw [if_pos q] at hv; subst hv; exact h4.fail1 e0 (by decide) (r3 q)
      · rw [if_neg q] at hv; subst hv
        exact h4.donex (ys := [67, 75]) (t := 1) e0 (dl1 (by decide) (by decide) (by omega)) (Or.inr (r2 q))
    · rw [if_neg w] at e0
      exact h3.donex (ys := [69, 68]) (t := 0) e0 (dl0 (by decide) (by decide) (by omega)) (Or.inl rfl)
  · subst w
    have e0 : ex 68 nx = ex68 nx := rfl
    unfold ex68 at e0
    refine (s_MM_isComparison hn hO).mono (fun r M2 h2 => ?_)
    obtain ⟨e2, r1, r2⟩ := h2
    subst e2
    rw [s0.r6]
    refine ⟨i32s (by omega) (by omega), hO, fun q => ?_, fun q => ⟨s0.k, s0.k6, (s0.push (by omega) (i2 _ (by omega) (by omega))).mono (fun M3 h3 => ⟨h3.ok, ?_⟩)⟩⟩
    · rw [if_neg (fun w => r2.2 w q)] at e0
      exact s0.donex (ys := []) (t := 0) e0 (dl0 rfl rfl (by omega)) (Or.inl rfl)
    · rw [if_pos (r2.1 q)] at e0
      exact h3.donex (ys := [69]) (t := 1) e0 (dl0 (by decide) (by decide) (by omega)) (Or.inl rfl)
  · subst w
    rw [s0.r6]
    exact ⟨s0.k, s0.k6, s0.two (by omega) (i2 _ (by omega) (by omega)) (i2 _ (by omega) (by omega)) (fun M3 h3 => h3.donex (ys := [71, 70]) (t := 0) rfl (dl0 (by decide) (by decide) (by omega)) (Or.inl rfl))⟩
  · subst w
    intro v hv
    have e0 : ex 70 nx = ex70 nx := rfl
    unfold ex70 at e0
    refine ⟨s0.k, (s_MM_again (d := d + 1) s0 (by omega) (by split at hv <;> exact i32s (by omega) (by omega)) (i2 _ (by omega) (by omega)) (i2 _ (by omega) (by omega))).mono (fun r M3 h3 => ag_donex s0 (by omega) (by decide) (fun w => ?_) (fun w => ?_) h3)⟩
    · rw [if_pos (by split at hv <;> omega)] at e0; exact e0
    · rw [if_neg (by split at hv <;> omega)] at e0; exact e0
  · subst w
    rw [s0.r6]
    exact ⟨s0.k, s0.k6, s0.two (by omega) (i2 _ (by omega) (by omega)) (i2 _ (by omega) (by omega)) (fun M3 h3 => h3.donex (ys := [73, 72]) (t := 0) rfl (dl0 (by decide) (by decide) (by omega)) (Or.inl rfl))⟩
  · subst w
    intro v hv
    have e0 : ex 72 nx = ex72 nx := rfl
    unfold ex72 at e0
    refine ⟨s0.k, (s_MM_again (d := d + 1) s0 (by omega) (by split at hv <;> exact i32s (by omega) (by omega)) (i2 _ (by omega) (by omega)) (i2 _ (by omega) (by omega))).mono (fun r M3 h3 => ag_donex s0 (by omega) (by decide) (fun w => ?_) (fun w => ?_) h3)⟩
    · rw [if_pos (by split at hv <;> omega)] at e0; exact e0
    · rw [if_neg (by split at hv <;> omega)] at e0; exact e0
  · subst w
    intro v hv
    have e0 : ex 74 nx = ex74 nx := rfl
    unfold ex74 at e0
    refine ⟨s0.k, (s_MM_again (d := d + 1) s0 (by omega) (by split at hv <;> exact i32s (by omega) (by omega)) (i2 _ (by omega) (by omega)) (i2 _ (by omega) (by omega))).mono (fun r M3 h3 => ag_donex s0 (by omega) (by decide) (fun w => ?_) (fun w => ?_) h3)⟩
    · rw [if_pos (by split at hv <;> omega)] at e0; exact e0
    · rw [if_neg (by split at hv <;> omega)] at e0; exact e0
  · subst w
    have e0 : ex 76 nx = ex76 nx := rfl
    unfold ex76 at e0
    refine ⟨fun w => ⟨s0.k, (s0.levelx (by omega) (by omega)).mono (fun r M4 h4 => ?_)⟩, fun w => k_MM_rule0_408 hO (i32s (by omega) (by omega)) (s0.fail0 (by rw [if_neg w] at e0; exact e0))⟩
    obtain ⟨h4, r1, r2, r3⟩ := h4
    rw [if_pos w] at e0
    exact ⟨i32s (by omega) (by omega), h4.ok, fun q => k_MM_rule0_408 h4.ok (i32s (by omega) (by omega)) (h4.fail1 e0 (by decide) (r3 q)), fun q => k_MM_rule0_408 h4.ok (i32s (by omega) (by omega)) (h4.donex (ys := []) (t := 1) e0 (by unfold dlv; rw [if_pos rfl]; show _ = _ + (((0 : Nat) : Int) - ((0 : Nat) : Int) + 1); omega) (Or.inr (r2 q)))⟩
  · have w : x = 73 := by omega
    subst w
    exact ⟨s0.k, (x_MM_sign (d := d) hn hO h hs hl h1 h2).mono (fun r M2 h2 => ⟨pq_i32 h2.1, h2.1.1.1, h2⟩)⟩

end PIX
end
section
/-! The reference: readText, exactly. -/
/-- what readText tells -/
def rdV (M : mM) (a N : Nat) (v : Int) (M' : mM) : Prop := (v = 0 ∧ ∃ q : Nat, mI M' a 8 = q ∧ ∀ W : Nat → Int, (∀ j, j < N → W j = nt M (a + 5) j) → Rf W [50] 0 q) ∨ (v = 1 ∧ ∀ W : Nat → Int, (∀ j, j < N → W j = nt M (a + 5) j) → Rc W [50] 0 [] N)
section RTX
variable {G : mG} {d a : Nat} {M : mM} {N : Nat}
theorem slv_cons {M : mM} {a : Nat} {st : List Int} (h : mI M a 7 = (c75 st : Int) - c76 st) : slv st = mI M a 7 := h.symm
theorem x_MM_readText (hO : mOk M) (h : Wd M a) (hw : wrds M a N) : Ci G y_MM_readText (d + 4) [vr a] M (fun v M' => rdQ M a N v M' ∧ rdV M a N v M') := by
  obtain ⟨n1, n2, n3, n4, n5⟩ := hw
  have i5 : a + 5 ∈ nums a := nums_o (by decide)
  refine k_MM_readText hO ?_
  rw [h.1.2.2.1.2.2.2]
  refine ⟨h.1.1, (h.nu q11).1, fun M1 e1 M2 e2 M3 e3 => ?_⟩
  obtain ⟨m1, l1, -⟩ := mv_set hO h q11 (v := 0) (by omega) (h.nu q11).2.2.2.1.1 e1
  have w1 := m1.2.1
  have f1 := (m1.fld h (fun q hq => by rw [hq]; exact q11) (fun hq => hq)).1
  have r1 : rdI M a M1 := ⟨m1.mono (fun q hq => hq) (fun x hx => hx.elim) (fun q hq => by rw [hq]; exact h.lt q11), fun j _ _ => by rw [f1]⟩
  obtain ⟨r2, f2, s2⟩ := r1.fld (i32s (by omega) (by omega)) (Or.inl rfl) e2
  obtain ⟨r3, f3, s3⟩ := r2.fld (i32s (by omega) (by omega)) (Or.inr rfl) e3
  have w3 := r3.1.2.1
  have l3 : ln M3 (a + 11) = 0 := by rw [(s3 _ q11).1, (s2 _ q11).1]; exact l1
  rw [w3.1.2.2.1.2.2.2]
  refine ⟨(w3.nu q11).1, (s_MN_add (i32s (by omega) (by omega)) r3.1.1 (w3.nu q11) (by omega)).mono (fun M4 t4 => ?_)⟩
  have m4 := mv_add w3 q11 t4
  have f4 := (m4.fld w3 (fun q hq => by rw [hq]; exact q11) (fun hq => hq)).1
  have r4 : rdI M a M4 := ⟨r3.1.trans (m4.mono (fun q hq => hq) (fun x hx => hx.elim) (fun q hq => by rw [hq]; exact w3.lt q11)), fun j j7 j8 => by rw [f4]; exact r3.2 j j7 j8⟩
  have st4 : St M4 (a + 11) [50] := St.add (st := []) ⟨l3, fun i hi => by simp at hi⟩ t4
  refine ⟨m4.1, ?_⟩
  -- a wrong word ends it
  have hbad : ∀ (M5 : mM) (k : Nat), rdI M a M5 → 0 ≤ mI M5 a 8 → mI M5 a 8 < N → k ≤ 20000 → (∃ q : Nat, mI M5 a 8 = q ∧ ∀ W : Nat → Int, (∀ j, j < N → W j = nt M (a + 5) j) → Rf W [50] 0 q) → h_MM_readText_29 G (d + 3) a k M5 (fun v M' => rdQ M a N v M' ∧ rdV M a N v M') := fun M5 k r5 b0 b1 hk hq => by
    refine k_MM_readText_29 r5.1.1 (i32s (by omega) (by omega)) ⟨r5.1.2.1.1.1, fun q => absurd b0 q, fun _ v hv => ?_, fun q => absurd (Or.inl b0) q⟩
    rw [if_pos b0] at hv
    exact ⟨⟨r5, Or.inl ⟨hv, b0, b1⟩⟩, Or.inl ⟨hv, hq⟩⟩
  suffices H : ∀ (μ k : Nat) (st : List Int) (M5 : mM), (N - k) * 40 + swt st ≤ μ → rdI M a M5 → mI M5 a 8 = -1 → St M5 (a + 11) st → gdS st → mI M5 a 7 = (c75 st : Int) - c76 st → mI M5 a 7 ≤ 40 → ((st = [] ∧ k = N ∧ nt M (a + 5) (N - 1) = 0) ∨ (k < N ∧ ∃ s, st = s ++ [50] ∧ 50 ∉ s)) → (∀ f, Ac (nt M (a + 5)) N f st k → ∃ f', Ac (nt M (a + 5)) N f' [50] 0) → (∀ W : Nat → Int, (∀ j, j < N → W j = nt M (a + 5) j) → Rc W [50] 0 st k) → h_MM_readText_29 G (d + 3) a k M5 (fun v M' => rdQ M a N v M' ∧ rdV M a N v M') by
    refine H _ 0 [50] M4 (Nat.le_refl _) r4 (by rw [f4, f3, if_pos rfl]) st4 ⟨⟨by decide, trivial⟩, fun x hx => by rw [List.mem_singleton.1 hx]; decide, by decide⟩ (by rw [f4, f3, if_neg (by omega), f2, if_pos rfl]; rfl) (by rw [f4, f3, if_neg (by omega), f2, if_pos rfl]; omega) (Or.inr ⟨by omega, [], rfl, by simp⟩) (fun f hf => ⟨f, hf⟩) (fun _ _ => Rc.refl)
  intro μ
  induction μ with
  | zero =>
    intro k st M5 hμ r5 b5 s5 g5 l5 l4 bt ac rc
    rcases bt with ⟨e1, e2, e3⟩ | ⟨e1, -⟩
    · subst e1
      refine k_MM_readText_29 r5.1.1 (i32s (by omega) (by omega)) ?_
      have w5 := r5.1.2.1
      rw [w5.1.2.2.1.2.2.2]
      refine ⟨w5.1.1, fun _ => (w5.nu q11).1, fun _ v hv => ?_, fun q => absurd (Or.inr (by have := s5.1; exact Int.le_of_eq this)) q⟩
      rw [if_neg (by omega)] at hv
      exact ⟨⟨r5, Or.inr ⟨hv, e3, ac 0 ⟨rfl, e2⟩⟩⟩, Or.inr ⟨hv, fun W hW => by have := rc W hW; rw [e2] at this; exact this⟩⟩
    · omega
  | succ μ ih =>
    intro k st M5 hμ r5 b5 s5 g5 l5 l4 bt ac rc
    have w5 := r5.1.2.1
    have o5 := r5.1.1
    cases st with
    | nil =>
      rcases bt with ⟨-, e2, e3⟩ | ⟨-, s, e2, -⟩
      · refine k_MM_readText_29 o5 (i32s (by omega) (by omega)) ?_
        rw [w5.1.2.2.1.2.2.2]
        refine ⟨w5.1.1, fun _ => (w5.nu q11).1, fun _ v hv => ?_, fun q => absurd (Or.inr (by have := s5.1; exact Int.le_of_eq this)) q⟩
        rw [if_neg (by omega)] at hv
        exact ⟨⟨r5, Or.inr ⟨hv, e3, ac 0 ⟨rfl, e2⟩⟩⟩, Or.inr ⟨hv, fun W hW => by have := rc W hW; rw [e2] at this; exact this⟩⟩
      · exact absurd e2 (by simp)
    | cons x r =>
      obtain ⟨hkN, s, hs1, hs2⟩ : k < N ∧ ∃ s, x :: r = s ++ [50] ∧ 50 ∉ s := by
        rcases bt with ⟨e1, -, -⟩ | w
        · exact absurd e1 (by simp)
        · exact w
      have hlen := g5.len l5 l4
      have hxs := g5.2.1 x (List.mem_cons_self ..)
      have hxb := sgs_b x hxs
      -- the rest of the pile, where x is not the bottom
      have hrest : x ≠ 50 → ∃ s', r = s' ++ [50] ∧ 50 ∉ s' := fun hx => by
        cases s with
        | nil =>
          have : x = 50 := by
            have := hs1
            simp at this
            exact this.1
          exact absurd this hx
        | cons y s' =>
          rw [List.cons_append] at hs1
          obtain ⟨-, e⟩ := List.cons.inj hs1
          exact ⟨s', e, fun q => hs2 (List.mem_cons_of_mem _ q)⟩
      have hbot : x = 50 → r = [] := fun hx => by
        cases s with
        | nil =>
          have := hs1
          simp at this
          exact this.2
        | cons y s' =>
          rw [List.cons_append] at hs1
          obtain ⟨e, -⟩ := List.cons.inj hs1
          exact absurd (by rw [← e, hx]; exact List.mem_cons_self ..) hs2
      have sN := r5.1.2.2.2.2 (a + 5) i5 (by omega)
      have el : mI M5 (a + 11) 1 = (r.length : Int) + 1 := by have := s5.1; rw [List.length_cons] at this; unfold ln at this; omega
      refine k_MM_readText_29 o5 (i32s (by omega) (by omega)) ?_
      rw [w5.1.2.2.1.2.2.2, el, b5]
      refine ⟨w5.1.1, fun _ => (w5.nu q11).1, fun q => by omega, fun _ => ⟨(w5.nu q11).1, (s_MN_take o5 (w5.nu q11) (by have := s5.1; rw [List.length_cons] at this; omega)).mono (fun y M6 t6 => ?_)⟩⟩
      obtain ⟨s6, ey⟩ := s5.take t6
      subst ey
      have m6 := mv_take w5 q11 t6
      have w6 := m6.2.1
      have f6 := (m6.fld w5 (fun q hq => by rw [hq]; exact q11) (fun hq => hq)).1
      have sN6 := m6.2.2.2.2 (a + 5) i5 (by omega)
      have r6 : rdI M a M6 := ⟨r5.1.trans (m6.mono (fun q hq => hq) (fun z hz => hz.elim) (fun q hq => by rw [hq]; exact w5.lt q11)), fun j j7 j8 => by rw [f6]; exact r5.2 j j7 j8⟩
      rw [w6.1.2.2.1.1]
      refine ⟨i32s (by omega) (by omega), t6.1, w6.1.1, (w6.nu i5).1, (s_MN_at t6.1 (w6.nu i5) (by rw [sN6.1, sN.1, n3]; omega)).mono (fun nx M7 h7 => ?_)⟩
      obtain ⟨e7, hnx⟩ := h7
      subst e7
      rw [sN6.2.1, sN.2.1] at hnx
      have hnx32 : i32 nx := by rw [hnx]; exact (hO _ _).1
      have o7 := t6.1
      refine ⟨hnx32, o7, fun x75 => ?_, fun x75 => ⟨fun x50 => ?_, fun x50 => ?_⟩⟩
      · -- a level ends
        rw [f6]
        refine ⟨w6.1.1, i32s (by omega) (by omega), fun M8 e8 => ?_⟩
        obtain ⟨r8, f8, s8⟩ := r6.fld (i32s (by omega) (by omega)) (Or.inl rfl) e8
        have c1 : c75 (y :: r) = 1 + c75 r := by show (if y = 75 then 1 else 0) + c75 r = _; rw [if_pos x75]
        have c2 : c76 (y :: r) = c76 r := by show (if y = 76 then 1 else 0) + c76 r = _; rw [if_neg (by omega)]; omega
        refine ih k r M8 ?_ r8 (by rw [f8, if_neg (by omega), f6]; exact b5) (s6.same (s8 _ q11)) ⟨g5.1.2, fun z hz => g5.2.1 z (List.mem_cons_of_mem _ hz), fun q => g5.2.2 (List.mem_of_mem_tail q)⟩ (by rw [f8, if_pos rfl]; omega) (by rw [f8, if_pos rfl]; omega) (Or.inr ⟨hkN, hrest (by omega)⟩) (fun f hf => ac (f + 1) ?_) (fun W hW => (rc W hW).trans (Rc.zero (by rw [x75]; exact mst_75)))
        · have e : swt (y :: r) = wgt y + swt r := rfl
          have := wgt_pos (x := y)
          omega
        · show (if y = 75 then Ac _ N f r k else _)
          rw [if_pos x75]
          exact hf
      · -- a step of the grammar
        have hpq : ∀ (rr : Int) (M8 : mM), pQx M7 a r y nx rr M8 → h_MM_readText_129 G (d + 3) a k rr M8 (fun v M' => rdQ M a N v M' ∧ rdV M a N v M') := fun rr M8 p8 => by
          obtain ⟨⟨m8, f8, pr⟩, pf⟩ := p8
          have sl : slv (y :: r) = mI M7 a 7 := by rw [f6]; exact slv_cons l5
          have r8 : rdI M a M8 := ⟨r6.1.trans m8, fun j j7 j8 => by rw [f8 j j7]; exact r6.2 j j7 j8⟩
          have b8 : mI M8 a 8 = -1 := by rw [f8 8 (by omega), f6]; exact b5
          have hrr : i32 rr := by
            rcases pr with q | ⟨ys, t, e, q, -⟩
            · rw [q]; exact i32s (by omega) (by omega)
            · have := (g5.step e).2.1
              exact i32s (by omega) (by omega)
          refine k_MM_readText_129 m8.1 (i32s (by omega) (by omega)) hrr (fun v hv => ⟨m8.2.1.1.1, fun M9 e9 u hu => ?_⟩)
          obtain ⟨r9, f9, s9⟩ := r8.fld (v := v) (by split at hv <;> exact i32s (by omega) (by omega)) (Or.inr rfl) e9
          have b9 : mI M9 a 8 = v := by rw [f9, if_pos rfl]
          rcases pr with q | ⟨ys, t, e, q, sY, l8, l8'⟩
          · subst q
            rw [if_neg (by omega)] at hv
            rw [if_pos (by omega)] at hu
            subst hu
            exact hbad M9 k r9 (by omega) (by omega) (by omega) ⟨k, by rw [b9]; exact hv, fun W hW => (rc W hW).rf (Rf.of (by
              rw [hW k hkN, ← hnx]
              rcases pf rfl with pf | ⟨ys, t, p1, p2, p3⟩
              · exact mst_no x50 x75 pf
              · exact mst_deep x50 x75 p1 p2 (by rw [sl]; exact p3)))⟩
          · subst q
            obtain ⟨gd, t01, wt, h50, hn50⟩ := g5.step e
            rw [if_pos (by omega)] at hv
            have l9 : mI M9 a 7 = mI M8 a 7 := by rw [f9, if_neg (by omega)]
            have hu' : u = ((k + t : Nat) : Int) := by
              rcases t01 with z | z
              · rw [if_pos (by omega)] at hu; omega
              · rw [if_neg (by omega)] at hu; omega
            rw [hu']
            have hlast : t = 1 → k + 1 = N → y = 50 ∧ nx = 0 ∧ ys = [] := fun z1 z2 => by
              subst z1
              refine ex_t1 e ?_
              rw [hnx, show k = N - 1 by first | rfl | omega]
              exact n5
            refine ih (k + t) (ys ++ r) M9 ?_ r9 (by omega) (sY.same (s9 _ q11)) gd ?_ (by rw [l9]; rcases l8' with z | z; rw [z, f6]; exact l4; exact z) ?_ (fun f hf => ac (f + 1) ?_) (fun W hW => (rc W hW).trans (Rc.one (mst_n x50 x75 (by rw [hW k hkN, ← hnx]; exact e) (by
              rw [sl]
              by_cases dd : dlv y ys = 1
              · right
                rw [dd] at l8
                rcases l8' with z | z
                · omega
                · omega
              · exact Or.inl dd))))
            · have e1 : swt (y :: r) = wgt y + swt r := rfl
              rw [swt_app]
              rcases t01 with z | z <;> subst z <;> omega
            · rw [l9, l8, f6, l5, c75_app, c76_app]
              unfold dlv
              have e1 : c75 (y :: r) = (if y = 75 then 1 else 0) + c75 r := rfl
              have e2 : c76 (y :: r) = (if y = 76 then 1 else 0) + c76 r := rfl
              rw [if_neg x75] at e1
              by_cases z : y = 76
              · rw [if_pos z] at e2 ⊢
                omega
              · rw [if_neg z] at e2 ⊢
                omega
            · by_cases z : t = 1 ∧ k + 1 = N
              · obtain ⟨z1, z2, z3⟩ := hlast z.1 z.2
                left
                refine ⟨by rw [z3, hbot z1]; rfl, by omega, ?_⟩
                rw [show N - 1 = k by first | rfl | omega, ← hnx]
                exact z2
              · right
                refine ⟨by omega, ?_⟩
                by_cases y5 : y = 50
                · rcases h50 y5 with z1 | ⟨s', z1, z2⟩
                  · -- nothing is put down only at the end
                    exfalso
                    subst y5 z1
                    have he : ex 50 nx = ex50 nx := rfl
                    rw [he] at e
                    unfold ex50 at e
                    have hn0 : nx = 0 := by
                      refine Classical.byContradiction (fun hn => ?_)
                      rw [if_neg hn] at e
                      repeat' (first | (cases e; done) | (split at e))
                      all_goals cases e
                    have hk1 : k + 1 = N := by
                      refine Classical.byContradiction (fun hk => ?_)
                      have := n4 k (by omega)
                      omega
                    rw [if_pos hn0] at e
                    cases e
                    exact z ⟨rfl, hk1⟩
                  · rw [z1, hbot y5]
                    exact ⟨s', by simp, z2⟩
                · obtain ⟨s', z1, z2⟩ := hrest y5
                  refine ⟨ys ++ s', by rw [z1, List.append_assoc], fun w => ?_⟩
                  rcases List.mem_append.1 w with w | w
                  · exact hn50 y5 w
                  · exact z2 w
            · show (if y = 75 then _ else if y < 50 then _ else ∃ ys t, ex y (nt M (a + 5) k) = some (ys, t) ∧ Ac _ N f (ys ++ r) (k + t))
              rw [if_neg x75, if_neg (by omega), ← hnx]
              exact ⟨ys, t, e, hf⟩
        have c76r : c76 r = 0 := c76_no r g5.2.2
        have lv6 : mI M7 a 7 = mI M5 a 7 := by rw [f6]
        rw [List.length_cons] at hlen
        refine ⟨fun x61 => ⟨w6.1.1, (x_MM_rule0 (d := d) (sgs_rule y hxs x61 x75) hnx32 o7 w6 s6 (by omega) (by omega) (by omega)).mono (fun rr M8 p8 => ⟨pq_i32 p8.1, p8.1.1.1, hpq rr M8 p8⟩)⟩, fun x61 => ⟨w6.1.1, (x_MM_item (d := d) (sgs_item y hxs x50 (by omega)) hnx32 o7 w6 s6 (by omega) (by omega) (by omega)).mono (fun rr M8 p8 => ⟨pq_i32 p8.1, p8.1.1.1, hpq rr M8 p8⟩)⟩⟩
      · -- a word is wanted
        intro v hv
        refine ⟨w6.1.1, fun M8 e8 => ?_⟩
        obtain ⟨r8, f8, s8⟩ := r6.fld (v := v) (by split at hv <;> exact i32s (by omega) (by omega)) (Or.inr rfl) e8
        have b8 : mI M8 a 8 = v := by rw [f8, if_pos rfl]
        by_cases z : y = nx
        · rw [if_pos z] at hv
          have ht := sgs_term y hxs (by omega)
          have hk1 : k + 1 < N := by
            refine Classical.byContradiction (fun hk => ?_)
            rw [show k = N - 1 by first | rfl | omega] at hnx
            omega
          have c1 : c75 (y :: r) = c75 r := by show (if y = 75 then 1 else 0) + c75 r = _; rw [if_neg x75]; omega
          have c2 : c76 (y :: r) = c76 r := by show (if y = 76 then 1 else 0) + c76 r = _; rw [if_neg (by omega)]; omega
          have l8 : mI M8 a 7 = mI M5 a 7 := by rw [f8, if_neg (by omega), f6]
          refine ih (k + 1) r M8 ?_ r8 (by omega) (s6.same (s8 _ q11)) ⟨g5.1.2, fun z hz => g5.2.1 z (List.mem_cons_of_mem _ hz), fun q => g5.2.2 (List.mem_of_mem_tail q)⟩ (by omega) (by omega) (Or.inr ⟨hk1, hrest (by omega)⟩) (fun f hf => ac (f + 1) ?_) (fun W hW => (rc W hW).trans (Rc.one (mst_t (by omega) (by rw [hW k hkN, ← hnx]; exact z))))
          · have e : swt (y :: r) = wgt y + swt r := rfl
            have := wgt_pos (x := y)
            omega
          · show (if y = 75 then _ else if y < 50 then nt M (a + 5) k = y ∧ Ac _ N f r (k + 1) else _)
            rw [if_neg x75, if_pos (by omega)]
            exact ⟨by rw [← hnx, z], hf⟩
        · rw [if_neg z] at hv
          exact hbad M8 (k + 1) r8 (by omega) (by omega) (by omega) ⟨k, by rw [b8]; exact hv, fun W hW => (rc W hW).rf (Rf.of (mst_tn (by omega) (by rw [hW k hkN, ← hnx]; exact z)))⟩
end RTX
end
section
/-! The words of a text: pure. c its characters, n how many. -/
def blq (x : Int) : Prop := x = 9 ∨ x = 10 ∨ x = 13 ∨ x = 32
/-- behind blanks and remarks: f characters are left, b within a remark -/
noncomputable def skq (c : Nat → Int) : Nat → Bool → Nat → Nat
  | 0, _, i => i
  | f + 1, b, i => haveI := Classical.propDecidable (c i = 35 ∨ (b = true ∧ c i ≠ 10)); haveI := Classical.propDecidable (blq (c i)); if c i = 35 ∨ (b = true ∧ c i ≠ 10) then skq c f true (i + 1) else if blq (c i) then skq c f false (i + 1) else i
noncomputable def skp (c : Nat → Int) (n i : Nat) : Nat := skq c (n - i) false i
def isDq (x : Int) : Prop := 48 ≤ x ∧ x ≤ 57
def nmq (x : Int) : Prop := isL x ∨ isDq x ∨ x = 95
/-- the first place from i on, within f, where P fails -/
noncomputable def enq (P : Int → Prop) (c : Nat → Int) : Nat → Nat → Nat
  | 0, i => i
  | f + 1, i => haveI := Classical.propDecidable (P (c i)); if P (c i) then enq P c f (i + 1) else i
def lq (c : Nat → Int) (n i : Nat) : Int := if i < n then c i else 0
/-- a sign's kind, by it and the character behind it -/
def sgk (x y : Int) : Int := if x = 46 then (if y = 46 then 16 else 39) else if x = 45 then (if y = 62 then 17 else 25) else if x = 33 then (if y = 61 then 18 else 31) else if x = 60 then (if y = 61 then 19 else 21) else if x = 62 then (if y = 61 then 20 else 22) else if x = 61 then 23 else if x = 43 then 24 else if x = 42 then 26 else if x = 47 then 27 else if x = 37 then 28 else if x = 38 then 29 else if x = 124 then 30 else if x = 63 then 32 else if x = 58 then 33 else if x = 59 then 34 else if x = 44 then 35 else if x = 40 then 36 else if x = 41 then 37 else if x = 39 then 38 else 39
/-- where the word at i ends -/
noncomputable def weq (c : Nat → Int) (n i : Nat) : Nat :=
  haveI := Classical.propDecidable (isL (c i)); haveI := Classical.propDecidable (isDq (c i))
  if isL (c i) then enq nmq c (n - i) i else if isDq (c i) then enq isDq c (n - i) i else if 16 ≤ sgk (c i) (lq c n (i + 1)) ∧ sgk (c i) (lq c n (i + 1)) ≤ 20 then i + 2 else i + 1
/-- its kind; kw tells the kinds of names -/
noncomputable def wkq (kw : Nat → Nat → Int) (c : Nat → Int) (n i : Nat) : Int :=
  haveI := Classical.propDecidable (isL (c i)); haveI := Classical.propDecidable (isDq (c i))
  if isL (c i) then (if 40 < weq c n i - i then 39 else kw i (weq c n i)) else if isDq (c i) then (if 9 < weq c n i - i then 39 else 2) else sgk (c i) (lq c n (i + 1))
/-- where the j-th word begins -/
noncomputable def pwq (c : Nat → Int) (n : Nat) : Nat → Nat
  | 0 => skp c n 0
  | j + 1 => skp c n (weq c n (pwq c n j))
section WQQ
variable {c : Nat → Int} {n i : Nat} {f : Nat} {b : Bool} {P : Int → Prop}
theorem skq_rem (h : c i = 35 ∨ (b = true ∧ c i ≠ 10)) : skq c (f + 1) b i = skq c f true (i + 1) := by rw [skq, if_pos h]
theorem skq_bl (h : ¬ (c i = 35 ∨ (b = true ∧ c i ≠ 10))) (h2 : blq (c i)) : skq c (f + 1) b i = skq c f false (i + 1) := by
  rw [skq, if_neg h, if_pos h2]
theorem skq_end (h : ¬ (c i = 35 ∨ (b = true ∧ c i ≠ 10))) (h2 : ¬ blq (c i)) : skq c (f + 1) b i = i := by
  rw [skq, if_neg h, if_neg h2]
theorem skq_b : ∀ (f : Nat) (b : Bool) (i : Nat), i ≤ skq c f b i ∧ skq c f b i ≤ i + f
  | 0, _, i => ⟨Nat.le_refl _, Nat.le_refl _⟩
  | f + 1, b, i => by
    by_cases h : c i = 35 ∨ (b = true ∧ c i ≠ 10)
    · rw [skq_rem h]
      have := skq_b f true (i + 1)
      omega
    · by_cases h2 : blq (c i)
      · rw [skq_bl h h2]
        have := skq_b f false (i + 1)
        omega
      · rw [skq_end h h2]; omega
theorem skp_b (h : i ≤ n) : i ≤ skp c n i ∧ skp c n i ≤ n := by
  have := skq_b (c := c) (n - i) false i
  unfold skp
  omega
theorem enq_y (h : P (c i)) : enq P c (f + 1) i = enq P c f (i + 1) := by
  rw [enq, if_pos h]
theorem enq_n (h : ¬ P (c i)) : enq P c (f + 1) i = i := by
  rw [enq, if_neg h]
theorem enq_b : ∀ (f i : Nat), i ≤ enq P c f i ∧ enq P c f i ≤ i + f
  | 0, i => ⟨Nat.le_refl _, Nat.le_refl _⟩
  | f + 1, i => by
    by_cases h : P (c i)
    · rw [enq_y h]
      have := enq_b f (i + 1)
      omega
    · rw [enq_n h]; omega
theorem ite_s8 {P : Int → Prop} {q : Prop} {_ : Decidable q} {x y : Int} (h1 : P x) (h2 : P y) : P (if q then x else y) := by
  split
  · exact h1
  · exact h2
theorem sgk_0 (x : Int) : ¬ (16 ≤ sgk x 0 ∧ sgk x 0 ≤ 20) := by
  unfold sgk
  rw [if_neg (show ¬ ((0 : Int) = 46) by decide), if_neg (show ¬ ((0 : Int) = 62) by decide), if_neg (show ¬ ((0 : Int) = 61) by decide), if_neg (show ¬ ((0 : Int) = 61) by decide), if_neg (show ¬ ((0 : Int) = 61) by decide)]
  repeat' (first | decide | refine ite_s8 (P := fun v : Int => ¬ (16 ≤ v ∧ v ≤ 20)) ?_ ?_)
theorem weq_b (h : i < n) : i < weq c n i ∧ weq c n i ≤ n := by
  unfold weq
  obtain ⟨m, hm⟩ : ∃ m, n - i = m + 1 := ⟨n - i - 1, by omega⟩
  by_cases h1 : isL (c i)
  · rw [if_pos h1, hm, enq_y (Or.inl h1)]
    have := enq_b (P := nmq) (c := c) m (i + 1)
    omega
  · rw [if_neg h1]
    by_cases h2 : isDq (c i)
    · rw [if_pos h2, hm, enq_y h2]
      have := enq_b (P := isDq) (c := c) m (i + 1)
      omega
    · rw [if_neg h2]
      split
      · rename_i q
        have hn : i + 1 < n := by
          refine Classical.byContradiction (fun z => ?_)
          have e : lq c n (i + 1) = 0 := if_neg z
          rw [e] at q
          exact absurd q (sgk_0 _)
        omega
      · omega
end WQQ
end
end
section
section
/-! The class's words, exactly. -/
/-- the number that l digits from p on tell -/
def numq (c : Nat → Int) (p : Nat) : Nat → Int
  | 0 => 0
  | l + 1 => 10 * numq c p l + (c (p + l) - 48)
/-- a word as it stands in the class's tables -/
def wdx (kw : (Nat → Int) → Nat → Nat → Int) (c : Nat → Int) (N : Nat) (s st am : Int) (p : Nat) : Prop := s = csq (wkq (kw c) c N p) ∧ st = p ∧ (isL (c p) → am = (weq c N p : Int) - p) ∧ (isDq (c p) → wkq (kw c) c N p ≠ 39 → am = numq c p (weq c N p - p))
/-- what nameSort answers -/
def NSx (G : mG) (kw : (Nat → Int) → Nat → Nat → Int) : Prop := ∀ (d w T A B D N C p n : Nat) (M : mM), mOk M → WA M w T A B D N C → p + n ≤ N → 1 ≤ n → n ≤ 40 → Ci G y_Wo_nameSort (d + 5) [vr w, vi p, vi n] M (fun r M' => M' = M ∧ (2 ≤ r ∧ r ≤ 16 ∧ r ≠ 3) ∧ r = csq (kw (mI M T) p (p + n)))
/-- a word has been taken from place p on -/
def twX (kw : (Nat → Int) → Nat → Nat → Int) (M : mM) (w T A B D N C k p : Nat) (r : Int) (M' : mM) : Prop := twQ M w T A B D N C k p r M' ∧ (∃ s am : Int, wdx kw (mI M T) N s p am p ∧ (∀ i, mI M' A i = if i = k then s else mI M A i) ∧ (∀ i, mI M' B i = if i = k then (p : Int) else mI M B i) ∧ (∀ i, mI M' D i = if i = k then am else mI M D i)) ∧ (wkq (kw (mI M T)) (mI M T) N p = 39 → r = N) ∧ (wkq (kw (mI M T)) (mI M T) N p ≠ 39 → r = weq (mI M T) N p)
/-- long and short signs, by the class's numbers -/
def lsg (x y : Int) : Int := if x = 46 ∧ y = 46 then 17 else if x = 45 ∧ y = 62 then 18 else if y = 61 then (if x = 33 then 19 else if x = 60 then 20 else if x = 62 then 21 else 1) else 1
def ssg (x : Int) : Int := if x = 33 then 32 else if x = 37 then 29 else if x = 38 then 30 else if x = 39 then 39 else if x = 40 then 37 else if x = 41 then 38 else if x = 42 then 27 else if x = 43 then 25 else if x = 44 then 36 else if x = 45 then 26 else if x = 47 then 28 else if x = 58 then 34 else if x = 59 then 35 else if x = 60 then 22 else if x = 61 then 24 else if x = 62 then 23 else if x = 63 then 33 else if x = 124 then 31 else 1
theorem sgn_two {x y y' : Int} (h : y' = y ∨ (y' = 32 ∧ y = 0)) : (lsg x y' ≠ 1 → csq (sgk x y) = lsg x y' ∧ 16 ≤ sgk x y ∧ sgk x y ≤ 20) ∧ (lsg x y' = 1 → csq (sgk x y) = ssg x ∧ ¬ (16 ≤ sgk x y ∧ sgk x y ≤ 20)) := by
  have hy : y = 46 ↔ y' = 46 := by omega
  have hy2 : y = 62 ↔ y' = 62 := by omega
  have hy3 : y = 61 ↔ y' = 61 := by omega
  unfold lsg ssg sgk csq
  by_cases e1 : x = 46
  · subst e1
    by_cases z : y' = 46
    · simp [hy.mpr z, z]
    · have : ¬ y = 46 := fun q => z (hy.mp q)
      simp [z, this]
  · by_cases e2 : x = 45
    · subst e2
      by_cases z : y' = 62
      · simp [hy2.mpr z, z]
      · have : ¬ y = 62 := fun q => z (hy2.mp q)
        simp [z, this]
    · by_cases e3 : x = 33
      · subst e3
        by_cases z : y' = 61
        · simp [hy3.mpr z, z]
        · have : ¬ y = 61 := fun q => z (hy3.mp q)
          simp [z, this]
      · by_cases e4 : x = 60
        · subst e4
          by_cases z : y' = 61
          · simp [hy3.mpr z, z]
          · have : ¬ y = 61 := fun q => z (hy3.mp q)
            simp [z, this]
        · by_cases e5 : x = 62
          · subst e5
            by_cases z : y' = 61
            · simp [hy3.mpr z, z]
            · have : ¬ y = 61 := fun q => z (hy3.mp q)
              simp [z, this]
          · simp only [e1, e2, e3, e4, e5, false_and, if_false, if_true]
            refine ⟨fun q => absurd (by split <;> rfl) q, fun _ => ?_⟩
            clear h hy hy2 hy3
            by_cases f1 : x = 61
            · subst f1; decide +kernel
            by_cases f2 : x = 43
            · subst f2; decide +kernel
            by_cases f3 : x = 42
            · subst f3; decide +kernel
            by_cases f4 : x = 47
            · subst f4; decide +kernel
            by_cases f5 : x = 37
            · subst f5; decide +kernel
            by_cases f6 : x = 38
            · subst f6; decide +kernel
            by_cases f7 : x = 124
            · subst f7; decide +kernel
            by_cases f8 : x = 63
            · subst f8; decide +kernel
            by_cases f9 : x = 58
            · subst f9; decide +kernel
            by_cases f10 : x = 59
            · subst f10; decide +kernel
            by_cases f11 : x = 44
            · subst f11; decide +kernel
            by_cases f12 : x = 40
            · subst f12; decide +kernel
            by_cases f13 : x = 41
            · subst f13; decide +kernel
            by_cases f14 : x = 39
            · subst f14; decide +kernel
            simp only [f1, f2, f3, f4, f5, f6, f7, f8, f9, f10, f11, f12, f13, f14, if_false]
            all_goals decide +kernel
section WXA
variable {G : mG} {d w T A B D N C k : Nat} {M M' M1 : mM} {kw : (Nat → Int) → Nat → Nat → Int}

theorem x_Wo_isLetter {x : Int} (hO : mOk M) (hx : i32 x) : Ci G y_Wo_isLetter d [vi x] M (fun r M' => M' = M ∧ (r = 0 ∨ r = 1) ∧ (r ≠ 0 ↔ isL x)) :=
  k_Wo_isLetter hO hx (fun v e => ⟨rfl, by rw [e]; split <;> omega, by rw [e]; unfold isL; split <;> omega⟩)
theorem x_Wo_longSign {x z : Int} (hO : mOk M) (hx : i32 x) (hz : i32 z) : Ci G y_Wo_longSign d [vi x, vi z] M (fun r M' => M' = M ∧ (r = 1 ∨ (17 ≤ r ∧ r ≤ 21 ∧ z ≠ 32)) ∧ r = lsg x z) := by
  refine k_Wo_longSign hO hx hz ⟨fun q => ⟨rfl, Or.inr (by omega), by unfold lsg; rw [if_pos q]⟩, fun q1 => ⟨fun q => ⟨rfl, Or.inr (by omega), by unfold lsg; rw [if_neg q1, if_pos q]⟩, fun q2 => ⟨fun q v e => ⟨rfl, ?_, by unfold lsg; rw [if_neg q1, if_neg q2, if_pos q]; exact e⟩, fun q => ⟨rfl, Or.inl rfl, by unfold lsg; rw [if_neg q1, if_neg q2, if_neg q]⟩⟩⟩⟩
  rw [e]
  (repeat' split) <;> omega
theorem x_Wo_shortSign {x : Int} (hO : mOk M) (hx : i32 x) : Ci G y_Wo_shortSign d [vi x] M (fun r M' => M' = M ∧ (1 ≤ r ∧ r ≤ 39 ∧ r ≠ 2 ∧ r ≠ 3) ∧ r = ssg x) := by
  refine k_Wo_shortSign hO hx ?_
  unfold ssg
  (repeat' first | (refine ⟨fun e => ⟨rfl, by omega, by rw [if_pos e]⟩, fun e => ?_⟩; rw [if_neg e]) | exact ⟨rfl, by omega, rfl⟩)
theorem x_Wo_afterBlanks {q : Nat} (hO : mOk M) (h : WA M w T A B D N C) (hq : q ≤ N) : Ci G y_Wo_afterBlanks d [vr w, vi q] M (fun r M' => M' = M ∧ r = (skp (mI M T) N q : Int)) := by
  obtain ⟨h1, ⟨p0, p3, p4, p5⟩, ⟨kT, nT⟩, -, -, h6, h7, h8, -⟩ := id h
  refine k_Wo_afterBlanks hO (i32s (by omega) (by omega)) ?_
  suffices H : ∀ (t j : Nat) (b : Int) (bb : Bool), N ≤ j + t → q ≤ j → j ≤ N → (b = 0 ∨ b = 1) → Hid (b ≠ 0 ↔ bb = true) → skp (mI M T) N q = skq (mI M T) (N - j) bb j → h_Wo_afterBlanks_4 G d w b j M (fun r M' => M' = M ∧ r = (skp (mI M T) N q : Int)) from H N q 0 false (by omega) (Nat.le_refl _) hq (Or.inl rfl) ⟨fun z => absurd rfl z, fun z => by cases z⟩ rfl
  intro t
  induction t with
  | zero =>
    intro j b bb hj hqj hjN hb hbb hX
    have e : j = N := by omega
    subst e
    rw [Nat.sub_self] at hX
    refine k_Wo_afterBlanks_4 hO (i32s (by omega) (by omega)) (i32s (by omega) (by omega)) ⟨h1, fun _ => ⟨rfl, by rw [hX, h6]; rfl⟩, fun z => absurd (by omega) z⟩
  | succ t ih =>
    intro j b bb hj hqj hjN hb hbb hX
    refine k_Wo_afterBlanks_4 hO (i32s (by omega) (by omega)) (i32s (by omega) (by omega)) ⟨h1, fun z => ?_, fun z => ?_⟩
    · have e : j = N := by omega
      subst e
      rw [Nat.sub_self] at hX
      exact ⟨rfl, by rw [hX, h6]; rfl⟩
    rw [p0, Int.toNat_natCast]
    have ej : N - j = (N - (j + 1)) + 1 := by omega
    rw [ej] at hX
    refine ⟨kT, by omega, fun v e => ?_⟩
    have key : (mI M T j = 35 ∨ (¬ b = 0 ∧ ¬ mI M T j = 10)) ↔ (mI M T j = 35 ∨ (bb = true ∧ mI M T j ≠ 10)) := by
      have := (show _ ↔ _ from hbb)
      exact or_congr Iff.rfl (and_congr this Iff.rfl)
    by_cases y : mI M T j = 35 ∨ (¬ b = 0 ∧ ¬ mI M T j = 10)
    · rw [if_pos y] at e
      rw [skq_rem (key.mp y)] at hX
      refine ⟨fun _ => ?_, fun z2 => absurd (Or.inl (by omega)) z2⟩
      rw [e]
      exact ih (j + 1) 1 true (by omega) (by omega) (by omega) (Or.inr rfl) ⟨fun _ => rfl, fun _ => by decide⟩ hX
    · rw [if_neg y] at e
      have y2 : ¬ (mI M T j = 35 ∨ (bb = true ∧ mI M T j ≠ 10)) := fun q2 => y (key.mpr q2)
      refine ⟨fun z2 => ?_, fun z2 => ?_⟩
      · have bl : blq (mI M T j) := by
          rcases z2 with z2 | z2
          · exact absurd e z2
          · exact z2
        rw [skq_bl y2 bl] at hX
        rw [e]
        exact ih (j + 1) 0 false (by omega) (by omega) (by omega) (Or.inl rfl) ⟨fun z3 => absurd rfl z3, fun z3 => by cases z3⟩ hX
      · have bl : ¬ blq (mI M T j) := fun q2 => z2 (Or.inr q2)
        rw [skq_end y2 bl] at hX
        exact ⟨rfl, by rw [hX]⟩
end WXA
end
section
/-! The class's words, exactly: a number, a name, a word. -/
section WXB
variable {G : mG} {d w T A B D N C k : Nat} {M M' M1 : mM} {kw : (Nat → Int) → Nat → Nat → Int}
theorem x_Wo_add2 {s st am : Int} (hs : i32 s) (hst : i32 st) (ham : i32 am) (hO : mOk M) (h : WA M w T A B D N C) (hi : WI M w A B D N k) (hkN : k < N) (hC2 : C ≤ 16777216) (hw : wdk N s st am) : Cv G y_Wo_add d [vr w, vi s, vi st, vi am] M (fun M' => (mOk M' ∧ FI (woA w A B D) M M' ∧ WA M' w T A B D N C ∧ WI M' w A B D N (k + 1)) ∧ (∀ i, mI M' A i = if i = k then s else mI M A i) ∧ (∀ i, mI M' B i = if i = k then st else mI M B i) ∧ (∀ i, mI M' D i = if i = k then am else mI M D i)) := by
  have h8 := h.2.2.2.2.2.2.2.1
  refine (s_Wo_add hs hst ham hO h hi.1 (by omega) hC2).mono (fun M' q => ?_)
  obtain ⟨o, f, h', e2, eA, eB, eD⟩ := q
  exact ⟨⟨o, f, h', hi.add hw e2 eA eB eD⟩, eA, eB, eD⟩
theorem weq_dg {c : Nat → Int} {n i : Nat} (h : isDq (c i)) : weq c n i = enq isDq c (n - i) i := by
  have : ¬ isL (c i) := by unfold isL isDq at *; omega
  unfold weq
  rw [if_neg this, if_pos h]
theorem wkq_dg {c : Nat → Int} {n i : Nat} {k1 : Nat → Nat → Int} (h : isDq (c i)) : wkq k1 c n i = if 9 < weq c n i - i then 39 else 2 := by
  have : ¬ isL (c i) := by unfold isL isDq at *; omega
  unfold wkq
  rw [if_neg this, if_pos h]
theorem weq_lt {c : Nat → Int} {n i : Nat} (h : isL (c i)) : weq c n i = enq nmq c (n - i) i := by
  unfold weq
  rw [if_pos h]
theorem wkq_lt {c : Nat → Int} {n i : Nat} {k1 : Nat → Nat → Int} (h : isL (c i)) : wkq k1 c n i = if 40 < weq c n i - i then 39 else k1 i (weq c n i) := by
  unfold wkq
  rw [if_pos h]
theorem weq_sg {c : Nat → Int} {n i : Nat} (h : ¬ isL (c i)) (h2 : ¬ isDq (c i)) : weq c n i = if 16 ≤ sgk (c i) (lq c n (i + 1)) ∧ sgk (c i) (lq c n (i + 1)) ≤ 20 then i + 2 else i + 1 := by
  unfold weq
  rw [if_neg h, if_neg h2]
theorem wkq_sg {c : Nat → Int} {n i : Nat} {k1 : Nat → Nat → Int} (h : ¬ isL (c i)) (h2 : ¬ isDq (c i)) : wkq k1 c n i = sgk (c i) (lq c n (i + 1)) := by
  unfold wkq
  rw [if_neg h, if_neg h2]
theorem x_Wo_takeNumber {p : Nat} (hO : mOk M) (h : WA M w T A B D N C) (hi : WI M w A B D N k) (hkN : k < N) (hC2 : C ≤ 16777216) (hp : p < N) (hc : 48 ≤ mI M T p ∧ mI M T p ≤ 57) : Ci G y_Wo_takeNumber (d + 1) [vr w, vi p] M (twX kw M w T A B D N C k p) := by
  obtain ⟨h1, ⟨p0, p3, p4, p5⟩, ⟨kT, nT⟩, -, -, h6, h7, h8, -⟩ := id h
  refine k_Wo_takeNumber hO (i32s (by omega) (by omega)) ?_
  have pw : ∀ n, n ≤ 9 → (10 : Int) ^ n ≤ 1000000000 := by decide
  have hdg : isDq (mI M T p) := hc
  have hnl : ¬ isL (mI M T p) := by unfold isL; omega
  have hwk := wkq_dg (n := N) (k1 := kw (mI M T)) hdg
  have hwe := weq_dg (n := N) hdg
  -- the end
  have fin : ∀ {v : Int} {j : Nat}, p < j → j ≤ N → 0 ≤ v → v ≤ 999999999 → weq (mI M T) N p = j → Hid (j - p ≤ 9 → v = numq (mI M T) p (j - p)) → i32 ((j : Int) - p) ∧ ∀ v6 : Int, v6 = (if (9 < (j : Int) - p) then 0 else 1) → ∀ v12 : Int, v12 = (if (v6 = 0) then 1 else 3) → Cv G y_Wo_add d [vr w, vi v12, vi p, vi v] M (fun M16 => mOk M16 ∧ (((v6 = 0) → mK M16 w = 2) ∧ ∀ v21 : Int, v21 = (if (v6 = 0) then mI M16 w 1 else j) → twX kw M w T A B D N C k p v21 M16)) := fun {v j} hj hjN v0 v1 ew hv => by
    refine ⟨i32s (by omega) (by omega), fun v6 e6 v12 e12 => ?_⟩
    have b12 : v12 = 1 ∨ v12 = 3 := by rw [e12]; split <;> omega
    refine (x_Wo_add2 (i32s (by omega) (by omega)) (i32s (by omega) (by omega)) ⟨by omega, by omega⟩ hO h hi hkN hC2 ⟨by omega, by omega, by omega, by omega⟩).mono (fun M16 q => ?_)
    obtain ⟨⟨o, f, h', i'⟩, eA, eB, eD⟩ := q
    refine ⟨o, fun _ => h'.1, fun v21 e21 => ⟨⟨o, f, h', i', ?_⟩, ⟨v12, v, ⟨?_, rfl, fun q => absurd q hnl, fun _ q => ?_⟩, eA, eB, eD⟩, ?_⟩⟩
    · by_cases y : v6 = 0
      · rw [if_pos y, h'.2.2.2.2.2.1] at e21
        exact ⟨N, e21, by omega, Nat.le_refl _⟩
      · rw [if_neg y] at e21
        exact ⟨j, e21, hj, hjN⟩
    · by_cases y : 9 < j - p
      · have z6 : v6 = 0 := by rw [e6, if_pos (by omega)]
        rw [hwk, ew, if_pos y, e12, if_pos z6]; decide
      · have z6 : ¬ v6 = 0 := by rw [e6, if_neg (by omega)]; decide
        rw [hwk, ew, if_neg y, e12, if_neg z6]; decide
    · rw [hwk, ew] at q
      have y : ¬ 9 < j - p := fun z => q (by rw [if_pos z])
      rw [ew]
      exact (show _ → _ from hv) (by omega)
    · rw [hwk, ew]
      by_cases y : 9 < j - p
      · rw [if_pos y]
        rw [if_pos (by omega)] at e6
        rw [if_pos e6, h'.2.2.2.2.2.1] at e21
        exact ⟨fun _ => e21, fun q => absurd rfl q⟩
      · rw [if_neg y]
        rw [if_neg (by omega)] at e6
        rw [if_neg (by omega)] at e21
        exact ⟨fun q => absurd q (by decide), fun _ => e21⟩
  suffices H : ∀ (t j : Nat) (v : Int), N ≤ j + t → p ≤ j → j ≤ N → (p < j ∨ j = p) → 0 ≤ v → v ≤ 999999999 → (j - p ≤ 9 → v + 1 ≤ (10 : Int) ^ (j - p)) → enq isDq (mI M T) (N - p) p = enq isDq (mI M T) (N - j) j → Hid (j - p ≤ 9 → v = numq (mI M T) p (j - p)) → h_Wo_takeNumber_4 G d w p v j M (twX kw M w T A B D N C k p) from H N p 0 (by omega) (Nat.le_refl _) (by omega) (Or.inr rfl) (by omega) (by omega) (fun _ => by rw [Nat.sub_self]; decide) rfl (fun _ => by rw [Nat.sub_self]; rfl)
  intro t
  induction t with
  | zero =>
    intro j v hj hpj hjN hd v0 v1 hv hX hV
    have ejN : j = N := by omega
    have ew : weq (mI M T) N p = j := by rw [hwe, hX, ejN, Nat.sub_self]; rfl
    exact k_Wo_takeNumber_4 hO (i32s (by omega) (by omega)) ⟨by omega, by omega⟩ (i32s (by omega) (by omega)) ⟨h1, fun _ => fin (by omega) hjN v0 v1 ew hV, fun z => absurd (by omega) z⟩
  | succ t ih =>
    intro j v hj hpj hjN hd v0 v1 hv hX hV
    refine k_Wo_takeNumber_4 hO (i32s (by omega) (by omega)) ⟨by omega, by omega⟩ (i32s (by omega) (by omega)) ⟨h1, fun z => ?_, fun z => ?_⟩
    · have ejN : j = N := by omega
      have ew : weq (mI M T) N p = j := by rw [hwe, hX, ejN, Nat.sub_self]; rfl
      exact fin (by omega) hjN v0 v1 ew hV
    have ej : N - j = (N - (j + 1)) + 1 := by omega
    rw [ej] at hX
    rw [p0, Int.toNat_natCast]
    refine ⟨kT, by omega, (s_Wo_isDigit hO (hO _ _).1).mono (fun x M2 q => ?_)⟩
    obtain ⟨e2, hx, ex⟩ := q
    subst e2
    rw [p0]
    refine ⟨i32s (by omega) (by omega), hO, fun x0 => ?_, fun x0 => ?_⟩
    · have pj : p < j := by
        rcases hd with y | y
        · exact y
        · subst y
          exact absurd (ex.2 hc) (fun z => z x0)
      have nd : ¬ isDq (mI M2 T j) := fun q => ex.2 q x0
      rw [enq_n nd] at hX
      obtain ⟨f1, f2⟩ := fin pj hjN v0 v1 (by rw [hwe, hX]) hV
      exact ⟨f1, fun v42 e42 v48 e48 => ⟨h1, f2 v42 e42 v48 e48⟩⟩
    · have dg := ex.1 x0
      clear ex
      rw [enq_y (P := isDq) dg] at hX
      refine ⟨i32s (by omega) (by omega), fun _ => ⟨h1, kT, by omega⟩, fun v70 e70 => ?_⟩
      have st : h_Wo_takeNumber_4 G d w p v70 ((j + 1 : Nat) : Int) M2 (twX kw M2 w T A B D N C k p) := by
        by_cases y : (9 : Int) ≤ (j : Int) - p
        · rw [if_pos y] at e70
          subst e70
          exact ih (j + 1) 0 (by omega) (by omega) (by omega) (Or.inl (by omega)) (by omega) (by omega) (fun z => by omega) hX (fun z => by omega)
        · rw [if_neg y] at e70
          have a1 := hv (by omega)
          have a2 := pw (j + 1 - p) (by omega)
          have a3 : (10 : Int) ^ (j + 1 - p) = 10 ^ (j - p) * 10 := by rw [show j + 1 - p = (j - p) + 1 by first | rfl | omega, Int.pow_succ]
          have a4 : v = numq (mI M2 T) p (j - p) := (show _ → _ from hV) (by omega)
          have a5 : Hid (j + 1 - p ≤ 9 → v70 = numq (mI M2 T) p (j + 1 - p)) := fun _ => by
            rw [show j + 1 - p = (j - p) + 1 by first | rfl | omega]
            show v70 = 10 * numq (mI M2 T) p (j - p) + (mI M2 T (p + (j - p)) - 48)
            rw [← a4, show p + (j - p) = j by first | rfl | omega]
            exact e70
          exact ih (j + 1) v70 (by omega) (by omega) (by omega) (Or.inl (by omega)) (by omega) (by omega) (fun _ => by omega) hX a5
      exact st
theorem x_Wo_takeName {p : Nat} (hNS : NSx G kw) (hO : mOk M) (h : WA M w T A B D N C) (hi : WI M w A B D N k) (hkN : k < N) (hC2 : C ≤ 16777216) (hp : p < N) (hlt : isL (mI M T p)) : Ci G y_Wo_takeName (d + 6) [vr w, vi p] M (twX kw M w T A B D N C k p) := by
  obtain ⟨h1, ⟨p0, p3, p4, p5⟩, ⟨kT, nT⟩, -, -, h6, h7, h8, -⟩ := id h
  refine k_Wo_takeName hO (i32s (by omega) (by omega)) ?_
  have hnd : ¬ isDq (mI M T p) := by unfold isL isDq at *; omega
  have hwk := wkq_lt (n := N) (k1 := kw (mI M T)) hlt
  have hwe := weq_lt (n := N) hlt
  have fin : ∀ {v s : Int} {j : Nat}, p < j → j ≤ N → (v = 0 ∧ s = 1 ∨ v = 1 ∧ j ≤ p + 40 ∧ 2 ≤ s ∧ s ≤ 16 ∧ s ≠ 3) → weq (mI M T) N p = j → s = csq (wkq (kw (mI M T)) (mI M T) N p) → Hid (v = 0 ↔ 40 < j - p) → h_Wo_takeName_84 G (d + 5) w p j v w s M (twX kw M w T A B D N C k p) := fun {v s j} hj hjN hv ew es hv0 => by
    refine k_Wo_takeName_84 hO (i32s (by omega) (by omega)) (i32s (by omega) (by omega)) (i32s (by omega) (by omega)) (i32s (by omega) (by omega)) ⟨h1, ?_⟩
    refine (x_Wo_add2 (i32s (by omega) (by omega)) (i32s (by omega) (by omega)) (i32s (by omega) (by omega)) hO h hi hkN hC2 ⟨by omega, by omega, by omega, by omega⟩).mono (fun M16 q => ?_)
    obtain ⟨⟨o, f, h', i'⟩, eA, eB, eD⟩ := q
    refine ⟨o, fun _ => h'.1, fun v21 e21 => ⟨⟨o, f, h', i', ?_⟩, ⟨s, (j : Int) - p, ⟨es, rfl, fun _ => by rw [ew], fun q => absurd q hnd⟩, eA, eB, eD⟩, ?_⟩⟩
    · by_cases y : v = 0
      · rw [if_pos y, h'.2.2.2.2.2.1] at e21
        exact ⟨N, e21, by omega, Nat.le_refl _⟩
      · rw [if_neg y] at e21
        exact ⟨j, e21, hj, hjN⟩
    · rw [hwk] at es ⊢
      rw [ew] at es ⊢
      have hv1 := (show _ ↔ _ from hv0)
      by_cases y : 40 < j - p
      · rw [if_pos y]
        rw [if_pos (hv1.mpr y), h'.2.2.2.2.2.1] at e21
        exact ⟨fun _ => e21, fun q => absurd rfl q⟩
      · rw [if_neg y] at es ⊢
        have vn : ¬ v = 0 := fun q => y (hv1.mp q)
        rw [if_neg vn] at e21
        refine ⟨fun q => ?_, fun _ => e21⟩
        rw [q] at es
        have : csq 39 = 1 := by decide
        rw [this] at es
        omega
  have sor : ∀ {j : Nat}, p < j → j ≤ N → weq (mI M T) N p = j → i32 ((j : Int) - p) ∧ ∀ v6 : Int, v6 = (if (40 < (j : Int) - p) then 0 else 1) → ((v6 = 0) → (h_Wo_takeName_84 G (d + 5) w p j v6 w 1 M (twX kw M w T A B D N C k p))) ∧ (¬ (v6 = 0) → (Ci G y_Wo_nameSort (d + 5) [vr w, vi p, vi ((j : Int) - p)] M (fun x14 M13 => i32 x14 ∧ mOk M13 ∧ (h_Wo_takeName_84 G (d + 5) w p j v6 w x14 M13 (twX kw M w T A B D N C k p))))) := fun {j} hj hjN ew => by
    refine ⟨i32s (by omega) (by omega), fun v6 e6 => ⟨fun z => ?_, fun z => ?_⟩⟩
    · have y : (40 : Int) < (j : Int) - p := Classical.byContradiction (fun y => by rw [if_neg y] at e6; omega)
      refine fin hj hjN (Or.inl ⟨z, rfl⟩) ew ?_ ⟨fun _ => by omega, fun _ => z⟩
      rw [hwk, ew, if_pos (by omega)]
      decide
    have j40 : j ≤ p + 40 ∧ v6 = 1 := by
      by_cases y : (40 : Int) < (j : Int) - p
      · rw [if_pos y] at e6
        exact absurd e6 z
      · rw [if_neg y] at e6
        exact ⟨by omega, e6⟩
    have t := hNS d w T A B D N C p (j - p) M hO h (by omega) (by omega) (by omega)
    rw [show ((j - p : Nat) : Int) = (j : Int) - p by first | rfl | omega, show p + (j - p) = j by first | rfl | omega] at t
    refine t.mono (fun x M2 q => ?_)
    obtain ⟨e2, ⟨x1, x2, x3⟩, x4⟩ := q
    subst e2
    refine ⟨i32s (by omega) (by omega), hO, fin hj hjN (Or.inr ⟨j40.2, j40.1, x1, x2, x3⟩) ew ?_ ⟨fun q => absurd q z, fun q => by omega⟩⟩
    rw [hwk, ew, if_neg (by omega)]
    exact x4
  suffices H : ∀ (t j : Nat), N ≤ j + t → p < j → j ≤ N → enq nmq (mI M T) (N - p) p = enq nmq (mI M T) (N - j) j → h_Wo_takeName_4 G (d + 5) w p j M (twX kw M w T A B D N C k p) from H N (p + 1) (by omega) (by omega) (by omega) (by
    rw [show N - p = (N - (p + 1)) + 1 by first | rfl | omega]
    exact enq_y (P := nmq) (Or.inl hlt))
  intro t
  induction t with
  | zero =>
    intro j hj hpj hjN hX
    have ejN : j = N := by omega
    have ew : weq (mI M T) N p = j := by rw [hwe, hX, ejN, Nat.sub_self]; rfl
    exact k_Wo_takeName_4 hO (i32s (by omega) (by omega)) (i32s (by omega) (by omega)) ⟨h1, fun _ => sor hpj hjN ew, fun z => absurd (by omega) z⟩
  | succ t ih =>
    intro j hj hpj hjN hX
    refine k_Wo_takeName_4 hO (i32s (by omega) (by omega)) (i32s (by omega) (by omega)) ⟨h1, fun z => ?_, fun z => ?_⟩
    · have ejN : j = N := by omega
      have ew : weq (mI M T) N p = j := by rw [hwe, hX, ejN, Nat.sub_self]; rfl
      exact sor hpj hjN ew
    have ej : N - j = (N - (j + 1)) + 1 := by omega
    rw [ej] at hX
    rw [p0, Int.toNat_natCast]
    have go : nmq (mI M T j) → h_Wo_takeName_4 G (d + 5) w p ((j : Int) + 1) M (twX kw M w T A B D N C k p) := fun q => ih (j + 1) (by omega) (by omega) (by omega) (by rw [hX]; exact enq_y (P := nmq) q)
    refine ⟨kT, by omega, (x_Wo_isLetter hO (hO _ _).1).mono (fun x M2 q => ?_)⟩
    obtain ⟨e2, hx, hxl⟩ := q
    subst e2
    rw [p0]
    refine ⟨i32s (by omega) (by omega), hO, fun x0 => ⟨h1, kT, by omega, (s_Wo_isDigit hO (hO _ _).1).mono (fun x M3 q => ?_)⟩, fun x0 => go (Or.inl (hxl.mp x0))⟩
    obtain ⟨e3, hx', hxd⟩ := q
    subst e3
    rw [p0]
    refine ⟨i32s (by omega) (by omega), hO, fun _ => ⟨h1, kT, by omega⟩, fun q => go ?_, fun q => ?_⟩
    · rcases q with q | q
      · exact Or.inr (Or.inl (hxd.mp q))
      · exact Or.inr (Or.inr q)
    · have nn : ¬ nmq (mI M3 T j) := fun q2 => by
        rcases q2 with q2 | q2 | q2
        · exact hxl.mpr q2 x0
        · exact q (Or.inl (hxd.mpr q2))
        · exact q (Or.inr q2)
      rw [enq_n nn] at hX
      obtain ⟨f1, f2⟩ := sor hpj hjN (by rw [hwe, hX])
      exact ⟨f1, fun v40 e40 => ⟨(f2 v40 e40).1, fun z => ⟨h1, (f2 v40 e40).2 z⟩⟩⟩
end WXB
end
section
/-! The class's words, exactly: split. -/
/-- the class's n words -/
def spx (kw : (Nat → Int) → Nat → Nat → Int) (c : Nat → Int) (N : Nat) (M : mM) (A B D n : Nat) : Prop := (∀ i, i < n → pwq c N i < N ∧ wdx kw c N (mI M A i) (mI M B i) (mI M D i) (pwq c N i)) ∧ (∀ i, i + 1 < n → wkq (kw c) c N (pwq c N i) ≠ 39) ∧ ((pwq c N n = N ∧ ∀ i, i < n → wkq (kw c) c N (pwq c N i) ≠ 39) ∨ (1 ≤ n ∧ wkq (kw c) c N (pwq c N (n - 1)) = 39))
/-- k words have been taken, at place j -/
def spI (kw : (Nat → Int) → Nat → Nat → Int) (c : Nat → Int) (N : Nat) (M : mM) (A B D k j : Nat) : Prop := (∀ i, i < k → pwq c N i < N ∧ wdx kw c N (mI M A i) (mI M B i) (mI M D i) (pwq c N i)) ∧ (∀ i, i + 1 < k → wkq (kw c) c N (pwq c N i) ≠ 39) ∧ ((j = pwq c N k ∧ ∀ i, i < k → wkq (kw c) c N (pwq c N i) ≠ 39) ∨ (j = N ∧ 1 ≤ k ∧ wkq (kw c) c N (pwq c N (k - 1)) = 39))
section WXC
variable {G : mG} {d w T A B D N C k n j : Nat} {M M' M1 M2 M3 : mM} {kw : (Nat → Int) → Nat → Nat → Int} {c : Nat → Int}
theorem spI.fin (h : spI kw c N M A B D k j) (hj : j = N) (eA : ∀ i, i < k → mI M' A i = mI M A i) (eB : ∀ i, i < k → mI M' B i = mI M B i) (eD : ∀ i, i < k → mI M' D i = mI M D i) : spx kw c N M' A B D k := by
  obtain ⟨h1, h2, h3⟩ := h
  refine ⟨fun i hi => ?_, h2, ?_⟩
  · rw [eA i hi, eB i hi, eD i hi]; exact h1 i hi
  · rcases h3 with ⟨h3, h4⟩ | ⟨-, h4, h5⟩
    · exact Or.inl ⟨by rw [← h3]; exact hj, h4⟩
    · exact Or.inr ⟨h4, h5⟩
theorem spI.step {s am : Int} {r r' : Nat} (h : spI kw c N M A B D k j) (hj : j < N) (hw : wdx kw c N s j am j) (eA : ∀ i, mI M' A i = if i = k then s else mI M A i) (eB : ∀ i, mI M' B i = if i = k then (j : Int) else mI M B i) (eD : ∀ i, mI M' D i = if i = k then am else mI M D i) (h39 : wkq (kw c) c N j = 39 → r = N) (hn : wkq (kw c) c N j ≠ 39 → r = weq c N j) (hr : r' = skp c N r) : spI kw c N M' A B D (k + 1) r' := by
  obtain ⟨h1, h2, h3⟩ := h
  rcases h3 with ⟨h3, h4⟩ | ⟨h3, -⟩
  · subst h3
    refine ⟨fun i hi => ?_, fun i hi => h4 i (by omega), ?_⟩
    · rw [eA, eB, eD]
      by_cases y : i = k
      · rw [if_pos y, if_pos y, if_pos y, y]; exact ⟨hj, hw⟩
      · rw [if_neg y, if_neg y, if_neg y]; exact h1 i (by omega)
    · by_cases y : wkq (kw c) c N (pwq c N k) = 39
      · right
        have e := h39 y
        subst e
        refine ⟨by rw [hr]; unfold skp; rw [Nat.sub_self]; rfl, by omega, ?_⟩
        rw [show k + 1 - 1 = k by first | rfl | omega]; exact y
      · left
        refine ⟨by rw [hr, hn y]; rfl, fun i hi => ?_⟩
        by_cases z : i = k
        · rw [z]; exact y
        · exact h4 i (by omega)
  · omega
theorem x_Wo_takeWord {p : Nat} (hNS : NSx G kw) (hO : mOk M) (h : WA M w T A B D N C) (hi : WI M w A B D N k) (hkN : k < N) (hC2 : C ≤ 16777216) (hp : p < N) : Ci G y_Wo_takeWord (d + 7) [vr w, vi p] M (twX kw M w T A B D N C k p) := by
  obtain ⟨h1, ⟨p0, p3, p4, p5⟩, ⟨kT, nT⟩, -, -, h6, h7, h8, -⟩ := id h
  refine k_Wo_takeWord hO (i32s (by omega) (by omega)) ?_
  rw [p0, Int.toNat_natCast]
  have fin : ∀ {s : Int} {j : Nat}, ¬ isL (mI M T p) → ¬ isDq (mI M T p) → p < j → (s = 1 ∨ j ≤ N) → 1 ≤ s → s ≤ 39 → s ≠ 2 → s ≠ 3 → j ≤ N + 2 → s = csq (sgk (mI M T p) (lq (mI M T) N (p + 1))) → weq (mI M T) N p = j → h_Wo_takeWord_86 G (d + 6) w p s j M (twX kw M w T A B D N C k p) := fun {s j} nl nd hj hjN s1 s2 s3 s4 j2 es ew => by
    refine k_Wo_takeWord_86 hO (i32s (by omega) (by omega)) (i32s (by omega) (by omega)) (i32s (by omega) (by omega)) ⟨h1, ?_⟩
    refine (x_Wo_add2 (i32s (by omega) (by omega)) (i32s (by omega) (by omega)) (i32s (by omega) (by omega)) hO h hi hkN hC2 ⟨⟨s1, s2⟩, by omega, by omega, by omega⟩).mono (fun M16 q => ?_)
    obtain ⟨⟨o, f, h', i'⟩, eA, eB, eD⟩ := q
    have hwk := wkq_sg (n := N) (k1 := kw (mI M T)) nl nd
    have c1 : s = 1 ↔ wkq (kw (mI M T)) (mI M T) N p = 39 := by
      rw [hwk, es]
      generalize sgk (mI M T p) (lq (mI M T) N (p + 1)) = y at *
      have hy : s = csq y := es
      clear es
      constructor
      · intro q
        unfold csq at q
        (repeat' split at q) <;> omega
      · intro q; rw [q]; decide
    refine ⟨o, fun _ => h'.1, fun v21 e21 => ⟨⟨o, f, h', i', ?_⟩, ⟨s, 0, ⟨by rw [hwk]; exact es, rfl, fun q => absurd q nl, fun q => absurd q nd⟩, eA, eB, eD⟩, fun q => ?_, fun q => ?_⟩⟩
    · by_cases y : s = 1
      · rw [if_pos y, h'.2.2.2.2.2.1] at e21
        exact ⟨N, e21, by omega, Nat.le_refl _⟩
      · rw [if_neg y] at e21
        exact ⟨j, e21, hj, by omega⟩
    · rw [if_pos (c1.mpr q), h'.2.2.2.2.2.1] at e21
      exact e21
    · rw [if_neg (fun z => q (c1.mp z))] at e21
      rw [ew]; exact e21
  refine ⟨h1, kT, by omega, (x_Wo_isLetter hO (hO _ _).1).mono (fun x M2 q => ?_)⟩
  obtain ⟨e2, hx, hxl⟩ := q
  subst e2
  refine ⟨i32s (by omega) (by omega), hO, fun x0 => (s_Wo_isDigit hO (hO _ _).1).mono (fun x' M3 q => ?_), fun x0 => ⟨h1, (x_Wo_takeName hNS hO h hi hkN hC2 hp (hxl.mp x0)).mono (fun r M4 q => ?_)⟩⟩
  · obtain ⟨e3, hx', ex⟩ := q
    subst e3
    have nl : ¬ isL (mI M3 T p) := fun q => hxl.mpr q x0
    refine ⟨i32s (by omega) (by omega), hO, fun y0 => ?_, fun y0 => ⟨h1, (x_Wo_takeNumber (kw := kw) hO h hi hkN hC2 hp (ex.1 y0)).mono (fun r M4 q => ?_)⟩⟩
    · have nd : ¬ isDq (mI M3 T p) := fun q => ex.2 q y0
      clear ex hxl
      rw [p0]
      refine ⟨h1, i32s (by omega) (by omega), fun _ => ⟨kT, by omega⟩, fun v22 e22 => ?_⟩
      have i22 : i32 v22 := by
        rw [e22]
        split
        · exact ⟨by decide, by decide⟩
        · exact (hO _ _).1
      have nxt : v22 = lq (mI M3 T) N (p + 1) ∨ (v22 = 32 ∧ lq (mI M3 T) N (p + 1) = 0) := by
        unfold lq
        by_cases y : p + 1 < N
        · rw [if_pos y]
          rw [if_neg (by omega), show ((p : Int) + 1).toNat = p + 1 by first | rfl | omega] at e22
          exact Or.inl e22
        · rw [if_neg y]
          rw [if_pos (by omega)] at e22
          exact Or.inr ⟨e22, rfl⟩
      have two := sgn_two (x := mI M3 T p) nxt
      have hwe := weq_sg (n := N) nl nd
      refine (x_Wo_longSign hO (hO _ _).1 i22).mono (fun s M4 q => ?_)
      obtain ⟨e4, hs, es⟩ := q
      subst e4
      refine ⟨i32s (by omega) (by omega), hO, fun s1 => (x_Wo_shortSign hO (hO _ _).1).mono (fun s' M5 q => ?_), fun s1 => ?_⟩
      · obtain ⟨e5, ⟨b1, b2, b3, b4⟩, es'⟩ := q
        subst e5
        obtain ⟨t1, t2⟩ := two.2 (by rw [← es]; exact s1)
        rw [if_neg t2] at hwe
        exact ⟨i32s (by omega) (by omega), hO, fin (j := p + 1) nl nd (by omega) (Or.inr (by omega)) b1 b2 b3 b4 (by omega) (by rw [t1]; exact es') hwe⟩
      · obtain ⟨t1, t2⟩ := two.1 (by rw [← es]; exact s1)
        rw [if_pos t2] at hwe
        have pN : p + 2 ≤ N := by
          have := (weq_b (c := mI M4 T) hp).2
          omega
        clear two t2
        exact fin (j := p + 2) nl nd (by omega) (Or.inr pN) (by omega) (by omega) (by omega) (by omega) (by omega) (by rw [t1]; exact es) hwe
    · obtain ⟨⟨o, f, h', i', j, ej, j1, j2⟩, -⟩ := id q
      exact ⟨i32s (by omega) (by omega), o, q⟩
  · obtain ⟨⟨o, f, h', i', j, ej, j1, j2⟩, -⟩ := id q
    exact ⟨i32s (by omega) (by omega), o, q⟩
theorem x_Wo_split (hNS : NSx G kw) (hO : mOk M) (h : WB M w A B D C) (kT : mK M T = 32) (nT : N ≤ mN M T) (hN : N ≤ 16384) (zT : T < mZ M) : Cv G y_Wo_split (d + 8) [vr w, vr T, vi N] M (fun M' => ∃ A' B' D' C' n, mOk M' ∧ Wf M' w T A' B' D' N C' n ∧ WB M' w A' B' D' C' ∧ C' ≤ C + 2 * (N + 2) ∧ FA (woA w A B D) (fun x => x = w) M M' ∧ grw M A B D C M' A' B' D' C' ∧ spx kw (mI M T) N M' A' B' D' n) := by
  have nw : T ≠ w := fun e => by have := h.1; rw [← e, kT] at this; omega
  have z0 := h.2.2.2.2.2.1
  refine k_Wo_split hO (i32s (by omega) (by omega)) ⟨h.1, fun M2 e2 M4 e4 M6 e6 => ?_⟩
  have hw3 : ∀ i, i ≠ 0 → mR M6 w i = mR M w i := fun i hi => by rw [e6, mR_UI, e4, mR_UI, e2, mR_UR, if_neg (fun z => hi z.2)]
  have K6 : mK M6 = mK M := by rw [e6, e4, e2]; rfl
  have N6 : mN M6 = mN M := by rw [e6, e4, e2]; rfl
  have Z6 : mZ M6 = mZ M := by rw [e6, e4, e2]; rfl
  have S6 : mS M6 = mS M := by rw [e6, e4, e2]; rfl
  have T6 : mR M6 w 0 = T := by rw [e6, mR_UI, e4, mR_UI, e2, mR_UR, if_pos ⟨rfl, rfl⟩]
  have i1 : mI M6 w 1 = N := by rw [e6, mI_UI, if_neg (fun z => absurd z.2 (by decide)), e4, mI_UI, if_pos ⟨rfl, rfl⟩]
  have i2 : mI M6 w 2 = 0 := by rw [e6, mI_UI, if_pos ⟨rfl, rfl⟩]
  have o2 : mOk M2 := by rw [e2]; exact mOk_UR hO
  have o4 : mOk M4 := by rw [e4]; exact mOk_UI o2 (i32s (by omega) (by omega))
  have o6 : mOk M6 := by rw [e6]; exact mOk_UI o4 (i32s (by omega) (by omega))
  have B6 : WB M6 w A B D C := by
    unfold WB at h ⊢
    rw [K6, N6, Z6, hw3 3 (by decide), hw3 4 (by decide), hw3 5 (by decide)]
    exact h
  have g2 : FA (woA w A B D) (fun x => x = w) M M2 := FA.ur rfl e2
  have g4 : FA (woA w A B D) (fun x => x = w) M2 M4 := FI.fa (by rw [e4]; exact FI.ui (Or.inl rfl))
  have g6' : FA (woA w A B D) (fun x => x = w) M4 M6 := FI.fa (by rw [e6]; exact FI.ui (Or.inl rfl))
  have g6 := (g2.trans g4).trans g6'
  have t6 := s_Wo_reserve (G := G) (d := d + 7) (q := N + 2) o6 B6 (by omega)
  rw [show ((N + 2 : Nat) : Int) = (N : Int) + 2 by first | rfl | omega] at t6
  rw [i1]
  refine t6.mono (fun M8 q => ?_)
  obtain ⟨A', B', D', C', o8, B8, q1, q2, g8, r8, gr⟩ := q
  have w6 : w < mZ M6 := by omega
  have c8 := g8.2 w w6
  have cT := g8.2 T (by omega)
  have h8 : WA M8 w T A' B' D' N C' := B8.wa (by rw [r8 0 (by decide) (by decide) (by decide)]; exact T6) (by rw [cT.1, K6]; exact kT) (by rw [cT.2.1, N6]; exact nT) (by rw [c8.2.2.2.2 (fun z => z)]; exact i1) hN (by omega)
  have w8 : WI M8 w A' B' D' N 0 := ⟨by rw [c8.2.2.2.2 (fun z => z)]; exact i2, fun i hi => absurd hi (by omega)⟩
  have C2 : C' ≤ 16777216 := by have := B8.2.2.2.2.2.2; omega
  have G8 : FA (woA w A B D) (fun x => x = w) M M8 := g6.trans2 g8 (fun _ _ z => z.elim) (fun _ _ z => z)
  have gr0 : grw M A B D C M8 A' B' D' C' := by
    unfold grw at gr ⊢
    rw [Z6, S6] at gr
    exact gr
  have TA : T ≠ A ∧ T ≠ B ∧ T ≠ D := by
    obtain ⟨-, -, ⟨a1, a2, a3⟩, -⟩ := h
    refine ⟨fun e => ?_, fun e => ?_, fun e => ?_⟩ <;> rw [e] at kT <;> omega
  have T8 : mI M8 T = mI M T := (G8.2 T zT).2.2.2.2 (fun z => by
    have z' : T = w ∨ T = A ∨ T = B ∨ T = D := z
    omega)
  have TA8 := h8.ne.2.2.2
  -- later steps
  have fin : ∀ {M9 : mM} {n : Nat}, mOk M9 → FI (woA w A' B' D') M8 M9 → Wf M9 w T A' B' D' N C' n → spx kw (mI M T) N M9 A' B' D' n → ∃ A' B' D' C' n, mOk M9 ∧ Wf M9 w T A' B' D' N C' n ∧ WB M9 w A' B' D' C' ∧ C' ≤ C + 2 * (N + 2) ∧ FA (woA w A B D) (fun x => x = w) M M9 ∧ grw M A B D C M9 A' B' D' C' ∧ spx kw (mI M T) N M9 A' B' D' n := fun {M9 n} o f hf hsp => by
    refine ⟨A', B', D', C', n, o, hf, B8.fi f, by omega, G8.trans2 (FI.fa (R := fun x => x = w) f) (fun x hx z => ?_) (fun _ _ z => z), ?_, hsp⟩
    · rcases gr0 with ⟨y1, y2, y3, -⟩ | ⟨y1, y2, y3, -⟩
      · rw [y1, y2, y3] at z
        exact z
      · have z' : x = w ∨ x = A' ∨ x = B' ∨ x = D' := z
        exact Or.inl (by omega)
    · unfold grw at gr0 ⊢
      rw [f.2.2.2.2.1, f.2.2.2.2.2.1]
      exact gr0
  refine ⟨o8, B8.1, (x_Wo_afterBlanks (q := 0) o8 h8 (by omega)).mono (fun x M9 q => ?_)⟩
  obtain ⟨e9, ex⟩ := q
  subst e9
  rw [T8] at ex
  have j0 := skp_b (c := mI M T) (n := N) (i := 0) (by omega)
  have ej : pwq (mI M T) N 0 = skp (mI M T) N 0 := rfl
  generalize skp (mI M T) N 0 = j at *
  have jN : j ≤ N := j0.2
  subst ex
  refine ⟨i32s (by omega) (by omega), o8, ?_⟩
  suffices H : ∀ (t k j : Nat) (M2 : mM), N ≤ j + t → k ≤ j → j ≤ N → mOk M2 → FI (woA w A' B' D') M9 M2 → WA M2 w T A' B' D' N C' → WI M2 w A' B' D' N k → spI kw (mI M T) N M2 A' B' D' k j → h_Wo_split_34 G (d + 7) w j k M2 (fun M' => ∃ A' B' D' C' n, mOk M' ∧ Wf M' w T A' B' D' N C' n ∧ WB M' w A' B' D' C' ∧ C' ≤ C + 2 * (N + 2) ∧ FA (woA w A B D) (fun x => x = w) M M' ∧ grw M A B D C M' A' B' D' C' ∧ spx kw (mI M T) N M' A' B' D' n) from H N 0 j M9 (by omega) (by omega) jN o8 FI.refl h8 w8 ⟨fun i hi => absurd hi (by omega), fun i hi => absurd hi (by omega), Or.inl ⟨ej.symm, fun i hi => absurd hi (by omega)⟩⟩
  intro t
  induction t with
  | zero =>
    intro k j M2 hj hkj hjN o f hA hI hS
    refine k_Wo_split_34 o (i32s (by omega) (by omega)) (i32s (by omega) (by omega)) ⟨hA.1, fun _ => ?_, fun y => absurd (Or.inr (by rw [hA.2.2.2.2.2.1]; omega)) y⟩
    rw [hA.2.2.2.2.2.1]
    refine (s_Wo_add (i32s (by omega) (by omega)) (i32s (by omega) (by omega)) (i32s (by omega) (by omega)) o hA hI.1 (by omega) C2).mono (fun M3 q => ?_)
    obtain ⟨o3, f3, A3, e3, eA, eB, eD⟩ := q
    refine ⟨o3, fin (n := k) o3 (f.trans f3) ⟨A3, e3, by omega, fun i hi => ?_, by rw [eA, if_pos rfl], by rw [eB, if_pos rfl]⟩ (hS.fin (by omega) (fun i hi => by rw [eA, if_neg (Nat.ne_of_lt hi)]) (fun i hi => by rw [eB, if_neg (Nat.ne_of_lt hi)]) (fun i hi => by rw [eD, if_neg (Nat.ne_of_lt hi)]))⟩
    rw [eA, eB, eD, if_neg (by omega), if_neg (by omega), if_neg (by omega)]
    exact hI.2 i hi
  | succ t ih =>
    intro k j M2 hj hkj hjN o f hA hI hS
    have e1 := hA.2.2.2.2.2.1
    refine k_Wo_split_34 o (i32s (by omega) (by omega)) (i32s (by omega) (by omega)) ⟨hA.1, fun yj => ?_, fun y => ?_⟩
    · rw [e1]
      refine (s_Wo_add (i32s (by omega) (by omega)) (i32s (by omega) (by omega)) (i32s (by omega) (by omega)) o hA hI.1 (by omega) C2).mono (fun M3 q => ?_)
      obtain ⟨o3, f3, A3, e3, eA, eB, eD⟩ := q
      refine ⟨o3, fin (n := k) o3 (f.trans f3) ⟨A3, e3, by omega, fun i hi => ?_, by rw [eA, if_pos rfl], by rw [eB, if_pos rfl]⟩ (hS.fin (by omega) (fun i hi => by rw [eA, if_neg (Nat.ne_of_lt hi)]) (fun i hi => by rw [eB, if_neg (Nat.ne_of_lt hi)]) (fun i hi => by rw [eD, if_neg (Nat.ne_of_lt hi)]))⟩
      rw [eA, eB, eD, if_neg (by omega), if_neg (by omega), if_neg (by omega)]
      exact hI.2 i hi
    · have jN' : j < N ∧ k < N := by
        constructor
        · exact Nat.lt_of_not_le (fun z => y (Or.inr (by omega)))
        · exact Nat.lt_of_not_le (fun z => y (Or.inl (by omega)))
      refine (x_Wo_takeWord hNS o hA hI jN'.2 C2 jN'.1).mono (fun r M3 q => ?_)
      obtain ⟨⟨o3, f3, A3, I3, j3, ej3, l3, u3⟩, ⟨s9, am9, q1', eA, eB, eD⟩, q39, qn⟩ := q
      subst ej3
      have T2 : mI M2 T = mI M T := by
        rw [← T8]
        exact f.2.2.2.2.2.2 T (fun z => by
          have z' : T = w ∨ T = A' ∨ T = B' ∨ T = D' := z
          omega)
      have T3 : mI M3 T = mI M T := by
        rw [← T2]
        exact f3.2.2.2.2.2.2 T (fun z => by
          have z' : T = w ∨ T = A' ∨ T = B' ∨ T = D' := z
          omega)
      rw [T2] at q1' q39 qn
      refine ⟨i32s (by omega) (by omega), o3, A3.1, (x_Wo_afterBlanks (q := j3) o3 A3 u3).mono (fun r M4 q => ?_)⟩
      obtain ⟨e4, ex4⟩ := q
      subst e4
      rw [T3] at ex4
      have b4 := skp_b (c := mI M T) u3
      have S4 := hS.step (r := j3) jN'.1 q1' eA eB eD (fun z => Int.ofNat_inj.mp (q39 z)) (fun z => Int.ofNat_inj.mp (qn z)) rfl
      clear q39 qn q1' eA eB eD
      generalize skp (mI M T) N j3 = j4 at *
      obtain ⟨l4, u4⟩ := b4
      subst ex4
      refine ⟨i32s (by omega) (by omega), o3, ?_⟩
      have := ih (k + 1) j4 M4 (by omega) (by omega) u4 o3 (f.trans f3) A3 I3 S4
      rw [show ((k + 1 : Nat) : Int) = (k : Int) + 1 by first | rfl | omega] at this
      exact this
end WXC
end
end
