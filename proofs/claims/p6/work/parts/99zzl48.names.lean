/-! The names that are words of the language: nameSort and wordKind. -/
theorem kt_spL : (Jvm.Cond.methodLink "ChanceArena$Words" (74 : Nat) ({ cls := "ChanceArena$Words", name := "spells", desc := "(ILjava/lang/String;)Z" } : Jvm.MethodName)) ∈ lw_R := zR (zk_4 _ (List.mem_of_getElem? (i := 55) rfl)) rfl
theorem kt_spI : (Jvm.Cond.instanceMethod ({ cls := "ChanceArena$Words", name := "spells", desc := "(ILjava/lang/String;)Z" } : Jvm.MethodName)) ∈ lw_R := zR (zk_4 _ (List.mem_of_getElem? (i := 57) rfl)) rfl
theorem kt_spC : (Jvm.Cond.code ({ cls := "ChanceArena$Words", name := "spells", desc := "(ILjava/lang/String;)Z" } : Jvm.MethodName) prog_13_method_14_code (4 : Nat) (Option.some Jvm.ClassFile.FieldType.boolean)) ∈ lw_R := zR (zk_4 _ (List.mem_of_getElem? (i := 58) rfl)) rfl
theorem kt_isL : (Jvm.Cond.methodLink "ChanceArenaModel" (178 : Nat) ({ cls := "ChanceArenaModel", name := "is", desc := "(IILjava/lang/String;)Z" } : Jvm.MethodName)) ∈ lw_R := zR (zk_11 _ (List.mem_of_getElem? (i := 39) rfl)) rfl
theorem kt_isI : (Jvm.Cond.instanceMethod ({ cls := "ChanceArenaModel", name := "is", desc := "(IILjava/lang/String;)Z" } : Jvm.MethodName)) ∈ lw_R := zR (zk_11 _ (List.mem_of_getElem? (i := 41) rfl)) rfl
theorem kt_isC : (Jvm.Cond.code ({ cls := "ChanceArenaModel", name := "is", desc := "(IILjava/lang/String;)Z" } : Jvm.MethodName) prog_15_method_11_code (6 : Nat) (Option.some Jvm.ClassFile.FieldType.boolean)) ∈ lw_R := zR (zk_11 _ (List.mem_of_getElem? (i := 42) rfl)) rfl
theorem ks_Wo_spells : Cond.selects "ChanceArena$Words" y_Wo_spells.1 y_Wo_spells.1 ∈ lw_R := zR (List.mem_append_left _ (List.mem_of_getElem? (i := 7) rfl)) rfl
theorem ks_MM_is : Cond.selects "ChanceArenaModel" y_MM_is.1 y_MM_is.1 ∈ lw_R := zR (List.mem_append_left _ (List.mem_of_getElem? (i := 84) rfl)) rfl
theorem d_Wo_spells_0 : decode y_Wo_spells.2.1 0 = .ok (.iconst 0, 1) := dc9_3 (by decide +kernel)
theorem d_Wo_spells_1 : decode y_Wo_spells.2.1 1 = .ok (.istore_n 3, 1) := dc9_62 (by decide +kernel)
theorem d_Wo_spells_2 : decode y_Wo_spells.2.1 2 = .ok (.iload_n 3, 1) := dc9_29 (by decide +kernel)
theorem d_Wo_spells_3 : decode y_Wo_spells.2.1 3 = .ok (.aload_n 2, 1) := dc9_44 (by decide +kernel)
theorem d_Wo_spells_4 : decode y_Wo_spells.2.1 4 = .ok (.invokevirtual 102, 3) := dc9_182 (by decide +kernel)
theorem d_Wo_spells_7 : decode y_Wo_spells.2.1 7 = .ok (.if_icmp .ge 27, 3) := dc9_162 (by decide +kernel)
theorem d_Wo_spells_10 : decode y_Wo_spells.2.1 10 = .ok (.aload_n 0, 1) := dc9_42 (by decide +kernel)
theorem d_Wo_spells_11 : decode y_Wo_spells.2.1 11 = .ok (.getfield 9, 3) := dc9_180 (by decide +kernel)
theorem d_Wo_spells_14 : decode y_Wo_spells.2.1 14 = .ok (.iload_n 1, 1) := dc9_27 (by decide +kernel)
theorem d_Wo_spells_15 : decode y_Wo_spells.2.1 15 = .ok (.iload_n 3, 1) := dc9_29 (by decide +kernel)
theorem d_Wo_spells_16 : decode y_Wo_spells.2.1 16 = .ok (.iadd, 1) := dc9_96 (by decide +kernel)
theorem d_Wo_spells_17 : decode y_Wo_spells.2.1 17 = .ok (.caload, 1) := dc9_52 (by decide +kernel)
theorem d_Wo_spells_18 : decode y_Wo_spells.2.1 18 = .ok (.aload_n 2, 1) := dc9_44 (by decide +kernel)
theorem d_Wo_spells_19 : decode y_Wo_spells.2.1 19 = .ok (.iload_n 3, 1) := dc9_29 (by decide +kernel)
theorem d_Wo_spells_20 : decode y_Wo_spells.2.1 20 = .ok (.invokevirtual 107, 3) := dc9_182 (by decide +kernel)
theorem d_Wo_spells_23 : decode y_Wo_spells.2.1 23 = .ok (.if_icmp .eq 5, 3) := dc9_159 (by decide +kernel)
theorem d_Wo_spells_26 : decode y_Wo_spells.2.1 26 = .ok (.iconst 0, 1) := dc9_3 (by decide +kernel)
theorem d_Wo_spells_27 : decode y_Wo_spells.2.1 27 = .ok (.ireturn, 1) := dc9_172 (by decide +kernel)
theorem d_Wo_spells_28 : decode y_Wo_spells.2.1 28 = .ok (.iinc 3 1, 3) := by decide +kernel
theorem d_Wo_spells_31 : decode y_Wo_spells.2.1 31 = .ok (.goto (-29), 3) := dc9_167 (by decide +kernel)
theorem d_Wo_spells_34 : decode y_Wo_spells.2.1 34 = .ok (.iconst 1, 1) := dc9_4 (by decide +kernel)
theorem d_Wo_spells_35 : decode y_Wo_spells.2.1 35 = .ok (.ireturn, 1) := dc9_172 (by decide +kernel)
theorem d_Wo_nameSort_0 : decode y_Wo_nameSort.2.1 0 = .ok (.iload_n 2, 1) := dc9_28 (by decide +kernel)
theorem d_Wo_nameSort_1 : decode y_Wo_nameSort.2.1 1 = .ok (.tableswitch 238 3 7 #[35, 81, 158, 204, 221], 35) := by decide +kernel
theorem d_Wo_nameSort_36 : decode y_Wo_nameSort.2.1 36 = .ok (.aload_n 0, 1) := dc9_42 (by decide +kernel)
theorem d_Wo_nameSort_37 : decode y_Wo_nameSort.2.1 37 = .ok (.iload_n 1, 1) := dc9_27 (by decide +kernel)
theorem d_Wo_nameSort_38 : decode y_Wo_nameSort.2.1 38 = .ok (.ldc 72, 2) := dc9_18 (by decide +kernel)
theorem d_Wo_nameSort_40 : decode y_Wo_nameSort.2.1 40 = .ok (.invokevirtual 74, 3) := dc9_182 (by decide +kernel)
theorem d_Wo_nameSort_43 : decode y_Wo_nameSort.2.1 43 = .ok (.ifCond .eq 7, 3) := dc9_153 (by decide +kernel)
theorem d_Wo_nameSort_46 : decode y_Wo_nameSort.2.1 46 = .ok (.iconst 5, 1) := dc9_8 (by decide +kernel)
theorem d_Wo_nameSort_47 : decode y_Wo_nameSort.2.1 47 = .ok (.goto 34, 3) := dc9_167 (by decide +kernel)
theorem d_Wo_nameSort_50 : decode y_Wo_nameSort.2.1 50 = .ok (.aload_n 0, 1) := dc9_42 (by decide +kernel)
theorem d_Wo_nameSort_51 : decode y_Wo_nameSort.2.1 51 = .ok (.iload_n 1, 1) := dc9_27 (by decide +kernel)
theorem d_Wo_nameSort_52 : decode y_Wo_nameSort.2.1 52 = .ok (.ldc 78, 2) := dc9_18 (by decide +kernel)
theorem d_Wo_nameSort_54 : decode y_Wo_nameSort.2.1 54 = .ok (.invokevirtual 74, 3) := dc9_182 (by decide +kernel)
theorem d_Wo_nameSort_57 : decode y_Wo_nameSort.2.1 57 = .ok (.ifCond .eq 8, 3) := dc9_153 (by decide +kernel)
theorem d_Wo_nameSort_60 : decode y_Wo_nameSort.2.1 60 = .ok (.bipush 8, 2) := dc9_16 (by decide +kernel)
theorem d_Wo_nameSort_62 : decode y_Wo_nameSort.2.1 62 = .ok (.goto 19, 3) := dc9_167 (by decide +kernel)
theorem d_Wo_nameSort_65 : decode y_Wo_nameSort.2.1 65 = .ok (.aload_n 0, 1) := dc9_42 (by decide +kernel)
theorem d_Wo_nameSort_66 : decode y_Wo_nameSort.2.1 66 = .ok (.iload_n 1, 1) := dc9_27 (by decide +kernel)
theorem d_Wo_nameSort_67 : decode y_Wo_nameSort.2.1 67 = .ok (.ldc 80, 2) := dc9_18 (by decide +kernel)
theorem d_Wo_nameSort_69 : decode y_Wo_nameSort.2.1 69 = .ok (.invokevirtual 74, 3) := dc9_182 (by decide +kernel)
theorem d_Wo_nameSort_72 : decode y_Wo_nameSort.2.1 72 = .ok (.ifCond .eq 8, 3) := dc9_153 (by decide +kernel)
theorem d_Wo_nameSort_75 : decode y_Wo_nameSort.2.1 75 = .ok (.bipush 9, 2) := dc9_16 (by decide +kernel)
theorem d_Wo_nameSort_77 : decode y_Wo_nameSort.2.1 77 = .ok (.goto 4, 3) := dc9_167 (by decide +kernel)
theorem d_Wo_nameSort_80 : decode y_Wo_nameSort.2.1 80 = .ok (.iconst 2, 1) := dc9_5 (by decide +kernel)
theorem d_Wo_nameSort_81 : decode y_Wo_nameSort.2.1 81 = .ok (.ireturn, 1) := dc9_172 (by decide +kernel)
theorem d_Wo_nameSort_82 : decode y_Wo_nameSort.2.1 82 = .ok (.aload_n 0, 1) := dc9_42 (by decide +kernel)
theorem d_Wo_nameSort_83 : decode y_Wo_nameSort.2.1 83 = .ok (.iload_n 1, 1) := dc9_27 (by decide +kernel)
theorem d_Wo_nameSort_84 : decode y_Wo_nameSort.2.1 84 = .ok (.ldc 82, 2) := dc9_18 (by decide +kernel)
theorem d_Wo_nameSort_86 : decode y_Wo_nameSort.2.1 86 = .ok (.invokevirtual 74, 3) := dc9_182 (by decide +kernel)
theorem d_Wo_nameSort_89 : decode y_Wo_nameSort.2.1 89 = .ok (.ifCond .eq 8, 3) := dc9_153 (by decide +kernel)
theorem d_Wo_nameSort_92 : decode y_Wo_nameSort.2.1 92 = .ok (.bipush 13, 2) := dc9_16 (by decide +kernel)
theorem d_Wo_nameSort_94 : decode y_Wo_nameSort.2.1 94 = .ok (.goto 64, 3) := dc9_167 (by decide +kernel)
theorem d_Wo_nameSort_97 : decode y_Wo_nameSort.2.1 97 = .ok (.aload_n 0, 1) := dc9_42 (by decide +kernel)
theorem d_Wo_nameSort_98 : decode y_Wo_nameSort.2.1 98 = .ok (.iload_n 1, 1) := dc9_27 (by decide +kernel)
theorem d_Wo_nameSort_99 : decode y_Wo_nameSort.2.1 99 = .ok (.ldc 84, 2) := dc9_18 (by decide +kernel)
theorem d_Wo_nameSort_101 : decode y_Wo_nameSort.2.1 101 = .ok (.invokevirtual 74, 3) := dc9_182 (by decide +kernel)
theorem d_Wo_nameSort_104 : decode y_Wo_nameSort.2.1 104 = .ok (.ifCond .eq 8, 3) := dc9_153 (by decide +kernel)
theorem d_Wo_nameSort_107 : decode y_Wo_nameSort.2.1 107 = .ok (.bipush 11, 2) := dc9_16 (by decide +kernel)
theorem d_Wo_nameSort_109 : decode y_Wo_nameSort.2.1 109 = .ok (.goto 49, 3) := dc9_167 (by decide +kernel)
theorem d_Wo_nameSort_112 : decode y_Wo_nameSort.2.1 112 = .ok (.aload_n 0, 1) := dc9_42 (by decide +kernel)
theorem d_Wo_nameSort_113 : decode y_Wo_nameSort.2.1 113 = .ok (.iload_n 1, 1) := dc9_27 (by decide +kernel)
theorem d_Wo_nameSort_114 : decode y_Wo_nameSort.2.1 114 = .ok (.ldc 86, 2) := dc9_18 (by decide +kernel)
theorem d_Wo_nameSort_116 : decode y_Wo_nameSort.2.1 116 = .ok (.invokevirtual 74, 3) := dc9_182 (by decide +kernel)
theorem d_Wo_nameSort_119 : decode y_Wo_nameSort.2.1 119 = .ok (.ifCond .eq 8, 3) := dc9_153 (by decide +kernel)
theorem d_Wo_nameSort_122 : decode y_Wo_nameSort.2.1 122 = .ok (.bipush 6, 2) := dc9_16 (by decide +kernel)
theorem d_Wo_nameSort_124 : decode y_Wo_nameSort.2.1 124 = .ok (.goto 34, 3) := dc9_167 (by decide +kernel)
theorem d_Wo_nameSort_127 : decode y_Wo_nameSort.2.1 127 = .ok (.aload_n 0, 1) := dc9_42 (by decide +kernel)
theorem d_Wo_nameSort_128 : decode y_Wo_nameSort.2.1 128 = .ok (.iload_n 1, 1) := dc9_27 (by decide +kernel)
theorem d_Wo_nameSort_129 : decode y_Wo_nameSort.2.1 129 = .ok (.ldc 88, 2) := dc9_18 (by decide +kernel)
theorem d_Wo_nameSort_131 : decode y_Wo_nameSort.2.1 131 = .ok (.invokevirtual 74, 3) := dc9_182 (by decide +kernel)
theorem d_Wo_nameSort_134 : decode y_Wo_nameSort.2.1 134 = .ok (.ifCond .eq 8, 3) := dc9_153 (by decide +kernel)
theorem d_Wo_nameSort_137 : decode y_Wo_nameSort.2.1 137 = .ok (.bipush 10, 2) := dc9_16 (by decide +kernel)
theorem d_Wo_nameSort_139 : decode y_Wo_nameSort.2.1 139 = .ok (.goto 19, 3) := dc9_167 (by decide +kernel)
theorem d_Wo_nameSort_142 : decode y_Wo_nameSort.2.1 142 = .ok (.aload_n 0, 1) := dc9_42 (by decide +kernel)
theorem d_Wo_nameSort_143 : decode y_Wo_nameSort.2.1 143 = .ok (.iload_n 1, 1) := dc9_27 (by decide +kernel)
theorem d_Wo_nameSort_144 : decode y_Wo_nameSort.2.1 144 = .ok (.ldc 90, 2) := dc9_18 (by decide +kernel)
theorem d_Wo_nameSort_146 : decode y_Wo_nameSort.2.1 146 = .ok (.invokevirtual 74, 3) := dc9_182 (by decide +kernel)
theorem d_Wo_nameSort_149 : decode y_Wo_nameSort.2.1 149 = .ok (.ifCond .eq 8, 3) := dc9_153 (by decide +kernel)
theorem d_Wo_nameSort_152 : decode y_Wo_nameSort.2.1 152 = .ok (.bipush 16, 2) := dc9_16 (by decide +kernel)
theorem d_Wo_nameSort_154 : decode y_Wo_nameSort.2.1 154 = .ok (.goto 4, 3) := dc9_167 (by decide +kernel)
theorem d_Wo_nameSort_157 : decode y_Wo_nameSort.2.1 157 = .ok (.iconst 2, 1) := dc9_5 (by decide +kernel)
theorem d_Wo_nameSort_158 : decode y_Wo_nameSort.2.1 158 = .ok (.ireturn, 1) := dc9_172 (by decide +kernel)
theorem d_Wo_nameSort_159 : decode y_Wo_nameSort.2.1 159 = .ok (.aload_n 0, 1) := dc9_42 (by decide +kernel)
theorem d_Wo_nameSort_160 : decode y_Wo_nameSort.2.1 160 = .ok (.iload_n 1, 1) := dc9_27 (by decide +kernel)
theorem d_Wo_nameSort_161 : decode y_Wo_nameSort.2.1 161 = .ok (.ldc 92, 2) := dc9_18 (by decide +kernel)
theorem d_Wo_nameSort_163 : decode y_Wo_nameSort.2.1 163 = .ok (.invokevirtual 74, 3) := dc9_182 (by decide +kernel)
theorem d_Wo_nameSort_166 : decode y_Wo_nameSort.2.1 166 = .ok (.ifCond .eq 7, 3) := dc9_153 (by decide +kernel)
theorem d_Wo_nameSort_169 : decode y_Wo_nameSort.2.1 169 = .ok (.iconst 4, 1) := dc9_7 (by decide +kernel)
theorem d_Wo_nameSort_170 : decode y_Wo_nameSort.2.1 170 = .ok (.goto 34, 3) := dc9_167 (by decide +kernel)
theorem d_Wo_nameSort_173 : decode y_Wo_nameSort.2.1 173 = .ok (.aload_n 0, 1) := dc9_42 (by decide +kernel)
theorem d_Wo_nameSort_174 : decode y_Wo_nameSort.2.1 174 = .ok (.iload_n 1, 1) := dc9_27 (by decide +kernel)
theorem d_Wo_nameSort_175 : decode y_Wo_nameSort.2.1 175 = .ok (.ldc 94, 2) := dc9_18 (by decide +kernel)
theorem d_Wo_nameSort_177 : decode y_Wo_nameSort.2.1 177 = .ok (.invokevirtual 74, 3) := dc9_182 (by decide +kernel)
theorem d_Wo_nameSort_180 : decode y_Wo_nameSort.2.1 180 = .ok (.ifCond .eq 8, 3) := dc9_153 (by decide +kernel)
theorem d_Wo_nameSort_183 : decode y_Wo_nameSort.2.1 183 = .ok (.bipush 14, 2) := dc9_16 (by decide +kernel)
theorem d_Wo_nameSort_185 : decode y_Wo_nameSort.2.1 185 = .ok (.goto 19, 3) := dc9_167 (by decide +kernel)
theorem d_Wo_nameSort_188 : decode y_Wo_nameSort.2.1 188 = .ok (.aload_n 0, 1) := dc9_42 (by decide +kernel)
theorem d_Wo_nameSort_189 : decode y_Wo_nameSort.2.1 189 = .ok (.iload_n 1, 1) := dc9_27 (by decide +kernel)
theorem d_Wo_nameSort_190 : decode y_Wo_nameSort.2.1 190 = .ok (.ldc 96, 2) := dc9_18 (by decide +kernel)
theorem d_Wo_nameSort_192 : decode y_Wo_nameSort.2.1 192 = .ok (.invokevirtual 74, 3) := dc9_182 (by decide +kernel)
theorem d_Wo_nameSort_195 : decode y_Wo_nameSort.2.1 195 = .ok (.ifCond .eq 8, 3) := dc9_153 (by decide +kernel)
theorem d_Wo_nameSort_198 : decode y_Wo_nameSort.2.1 198 = .ok (.bipush 15, 2) := dc9_16 (by decide +kernel)
theorem d_Wo_nameSort_200 : decode y_Wo_nameSort.2.1 200 = .ok (.goto 4, 3) := dc9_167 (by decide +kernel)
theorem d_Wo_nameSort_203 : decode y_Wo_nameSort.2.1 203 = .ok (.iconst 2, 1) := dc9_5 (by decide +kernel)
theorem d_Wo_nameSort_204 : decode y_Wo_nameSort.2.1 204 = .ok (.ireturn, 1) := dc9_172 (by decide +kernel)
theorem d_Wo_nameSort_205 : decode y_Wo_nameSort.2.1 205 = .ok (.aload_n 0, 1) := dc9_42 (by decide +kernel)
theorem d_Wo_nameSort_206 : decode y_Wo_nameSort.2.1 206 = .ok (.iload_n 1, 1) := dc9_27 (by decide +kernel)
theorem d_Wo_nameSort_207 : decode y_Wo_nameSort.2.1 207 = .ok (.ldc 98, 2) := dc9_18 (by decide +kernel)
theorem d_Wo_nameSort_209 : decode y_Wo_nameSort.2.1 209 = .ok (.invokevirtual 74, 3) := dc9_182 (by decide +kernel)
theorem d_Wo_nameSort_212 : decode y_Wo_nameSort.2.1 212 = .ok (.ifCond .eq 8, 3) := dc9_153 (by decide +kernel)
theorem d_Wo_nameSort_215 : decode y_Wo_nameSort.2.1 215 = .ok (.bipush 12, 2) := dc9_16 (by decide +kernel)
theorem d_Wo_nameSort_217 : decode y_Wo_nameSort.2.1 217 = .ok (.goto 4, 3) := dc9_167 (by decide +kernel)
theorem d_Wo_nameSort_220 : decode y_Wo_nameSort.2.1 220 = .ok (.iconst 2, 1) := dc9_5 (by decide +kernel)
theorem d_Wo_nameSort_221 : decode y_Wo_nameSort.2.1 221 = .ok (.ireturn, 1) := dc9_172 (by decide +kernel)
theorem d_Wo_nameSort_222 : decode y_Wo_nameSort.2.1 222 = .ok (.aload_n 0, 1) := dc9_42 (by decide +kernel)
theorem d_Wo_nameSort_223 : decode y_Wo_nameSort.2.1 223 = .ok (.iload_n 1, 1) := dc9_27 (by decide +kernel)
theorem d_Wo_nameSort_224 : decode y_Wo_nameSort.2.1 224 = .ok (.ldc 100, 2) := dc9_18 (by decide +kernel)
theorem d_Wo_nameSort_226 : decode y_Wo_nameSort.2.1 226 = .ok (.invokevirtual 74, 3) := dc9_182 (by decide +kernel)
theorem d_Wo_nameSort_229 : decode y_Wo_nameSort.2.1 229 = .ok (.ifCond .eq 8, 3) := dc9_153 (by decide +kernel)
theorem d_Wo_nameSort_232 : decode y_Wo_nameSort.2.1 232 = .ok (.bipush 7, 2) := dc9_16 (by decide +kernel)
theorem d_Wo_nameSort_234 : decode y_Wo_nameSort.2.1 234 = .ok (.goto 4, 3) := dc9_167 (by decide +kernel)
theorem d_Wo_nameSort_237 : decode y_Wo_nameSort.2.1 237 = .ok (.iconst 2, 1) := dc9_5 (by decide +kernel)
theorem d_Wo_nameSort_238 : decode y_Wo_nameSort.2.1 238 = .ok (.ireturn, 1) := dc9_172 (by decide +kernel)
theorem d_Wo_nameSort_239 : decode y_Wo_nameSort.2.1 239 = .ok (.iconst 2, 1) := dc9_5 (by decide +kernel)
theorem d_Wo_nameSort_240 : decode y_Wo_nameSort.2.1 240 = .ok (.ireturn, 1) := dc9_172 (by decide +kernel)
theorem d_MM_is_0 : decode y_MM_is.2.1 0 = .ok (.iload_n 2, 1) := dc9_28 (by decide +kernel)
theorem d_MM_is_1 : decode y_MM_is.2.1 1 = .ok (.iload_n 1, 1) := dc9_27 (by decide +kernel)
theorem d_MM_is_2 : decode y_MM_is.2.1 2 = .ok (.isub, 1) := dc9_100 (by decide +kernel)
theorem d_MM_is_3 : decode y_MM_is.2.1 3 = .ok (.aload_n 3, 1) := dc9_45 (by decide +kernel)
theorem d_MM_is_4 : decode y_MM_is.2.1 4 = .ok (.invokevirtual 166, 3) := dc9_182 (by decide +kernel)
theorem d_MM_is_7 : decode y_MM_is.2.1 7 = .ok (.if_icmp .ne 7, 3) := dc9_160 (by decide +kernel)
theorem d_MM_is_10 : decode y_MM_is.2.1 10 = .ok (.iconst 1, 1) := dc9_4 (by decide +kernel)
theorem d_MM_is_11 : decode y_MM_is.2.1 11 = .ok (.goto 4, 3) := dc9_167 (by decide +kernel)
theorem d_MM_is_14 : decode y_MM_is.2.1 14 = .ok (.iconst 0, 1) := dc9_3 (by decide +kernel)
theorem d_MM_is_15 : decode y_MM_is.2.1 15 = .ok (.istore 4, 2) := dc9_54 (by decide +kernel)
theorem d_MM_is_17 : decode y_MM_is.2.1 17 = .ok (.iconst 0, 1) := dc9_3 (by decide +kernel)
theorem d_MM_is_18 : decode y_MM_is.2.1 18 = .ok (.istore 5, 2) := dc9_54 (by decide +kernel)
theorem d_MM_is_20 : decode y_MM_is.2.1 20 = .ok (.iload 4, 2) := dc9_21 (by decide +kernel)
theorem d_MM_is_22 : decode y_MM_is.2.1 22 = .ok (.ifCond .eq 42, 3) := dc9_153 (by decide +kernel)
theorem d_MM_is_25 : decode y_MM_is.2.1 25 = .ok (.iload 5, 2) := dc9_21 (by decide +kernel)
theorem d_MM_is_27 : decode y_MM_is.2.1 27 = .ok (.aload_n 3, 1) := dc9_45 (by decide +kernel)
theorem d_MM_is_28 : decode y_MM_is.2.1 28 = .ok (.invokevirtual 166, 3) := dc9_182 (by decide +kernel)
theorem d_MM_is_31 : decode y_MM_is.2.1 31 = .ok (.if_icmp .ge 33, 3) := dc9_162 (by decide +kernel)
theorem d_MM_is_34 : decode y_MM_is.2.1 34 = .ok (.aload_n 0, 1) := dc9_42 (by decide +kernel)
theorem d_MM_is_35 : decode y_MM_is.2.1 35 = .ok (.iload_n 1, 1) := dc9_27 (by decide +kernel)
theorem d_MM_is_36 : decode y_MM_is.2.1 36 = .ok (.iload 5, 2) := dc9_21 (by decide +kernel)
theorem d_MM_is_38 : decode y_MM_is.2.1 38 = .ok (.iadd, 1) := dc9_96 (by decide +kernel)
theorem d_MM_is_39 : decode y_MM_is.2.1 39 = .ok (.invokevirtual 159, 3) := dc9_182 (by decide +kernel)
theorem d_MM_is_42 : decode y_MM_is.2.1 42 = .ok (.aload_n 3, 1) := dc9_45 (by decide +kernel)
theorem d_MM_is_43 : decode y_MM_is.2.1 43 = .ok (.iload 5, 2) := dc9_21 (by decide +kernel)
theorem d_MM_is_45 : decode y_MM_is.2.1 45 = .ok (.invokevirtual 172, 3) := dc9_182 (by decide +kernel)
theorem d_MM_is_48 : decode y_MM_is.2.1 48 = .ok (.if_icmp .ne 7, 3) := dc9_160 (by decide +kernel)
theorem d_MM_is_51 : decode y_MM_is.2.1 51 = .ok (.iconst 1, 1) := dc9_4 (by decide +kernel)
theorem d_MM_is_52 : decode y_MM_is.2.1 52 = .ok (.goto 4, 3) := dc9_167 (by decide +kernel)
theorem d_MM_is_55 : decode y_MM_is.2.1 55 = .ok (.iconst 0, 1) := dc9_3 (by decide +kernel)
theorem d_MM_is_56 : decode y_MM_is.2.1 56 = .ok (.istore 4, 2) := dc9_54 (by decide +kernel)
theorem d_MM_is_58 : decode y_MM_is.2.1 58 = .ok (.iinc 5 1, 3) := by decide +kernel
theorem d_MM_is_61 : decode y_MM_is.2.1 61 = .ok (.goto (-41), 3) := dc9_167 (by decide +kernel)
theorem d_MM_is_64 : decode y_MM_is.2.1 64 = .ok (.iload 4, 2) := dc9_21 (by decide +kernel)
theorem d_MM_is_66 : decode y_MM_is.2.1 66 = .ok (.ireturn, 1) := dc9_172 (by decide +kernel)
theorem d_MM_wordKind_0 : decode y_MM_wordKind.2.1 0 = .ok (.aload_n 0, 1) := dc9_42 (by decide +kernel)
theorem d_MM_wordKind_1 : decode y_MM_wordKind.2.1 1 = .ok (.iload_n 1, 1) := dc9_27 (by decide +kernel)
theorem d_MM_wordKind_2 : decode y_MM_wordKind.2.1 2 = .ok (.invokevirtual 159, 3) := dc9_182 (by decide +kernel)
theorem d_MM_wordKind_5 : decode y_MM_wordKind.2.1 5 = .ok (.tableswitch 322 98 118 #[133, 99, 322, 322, 150, 322, 322, 234, 322, 322, 304, 184, 322, 322, 322, 322, 322, 252, 270, 322, 116], 99) := by decide +kernel
theorem d_MM_wordKind_104 : decode y_MM_wordKind.2.1 104 = .ok (.aload_n 0, 1) := dc9_42 (by decide +kernel)
theorem d_MM_wordKind_105 : decode y_MM_wordKind.2.1 105 = .ok (.iload_n 1, 1) := dc9_27 (by decide +kernel)
theorem d_MM_wordKind_106 : decode y_MM_wordKind.2.1 106 = .ok (.iload_n 2, 1) := dc9_28 (by decide +kernel)
theorem d_MM_wordKind_107 : decode y_MM_wordKind.2.1 107 = .ok (.ldc 176, 2) := dc9_18 (by decide +kernel)
theorem d_MM_wordKind_109 : decode y_MM_wordKind.2.1 109 = .ok (.invokevirtual 178, 3) := dc9_182 (by decide +kernel)
theorem d_MM_wordKind_112 : decode y_MM_wordKind.2.1 112 = .ok (.ifCond .eq 7, 3) := dc9_153 (by decide +kernel)
theorem d_MM_wordKind_115 : decode y_MM_wordKind.2.1 115 = .ok (.iconst 3, 1) := dc9_6 (by decide +kernel)
theorem d_MM_wordKind_116 : decode y_MM_wordKind.2.1 116 = .ok (.goto 4, 3) := dc9_167 (by decide +kernel)
theorem d_MM_wordKind_119 : decode y_MM_wordKind.2.1 119 = .ok (.iconst 1, 1) := dc9_4 (by decide +kernel)
theorem d_MM_wordKind_120 : decode y_MM_wordKind.2.1 120 = .ok (.ireturn, 1) := dc9_172 (by decide +kernel)
theorem d_MM_wordKind_121 : decode y_MM_wordKind.2.1 121 = .ok (.aload_n 0, 1) := dc9_42 (by decide +kernel)
theorem d_MM_wordKind_122 : decode y_MM_wordKind.2.1 122 = .ok (.iload_n 1, 1) := dc9_27 (by decide +kernel)
theorem d_MM_wordKind_123 : decode y_MM_wordKind.2.1 123 = .ok (.iload_n 2, 1) := dc9_28 (by decide +kernel)
theorem d_MM_wordKind_124 : decode y_MM_wordKind.2.1 124 = .ok (.ldc 182, 2) := dc9_18 (by decide +kernel)
theorem d_MM_wordKind_126 : decode y_MM_wordKind.2.1 126 = .ok (.invokevirtual 178, 3) := dc9_182 (by decide +kernel)
theorem d_MM_wordKind_129 : decode y_MM_wordKind.2.1 129 = .ok (.ifCond .eq 7, 3) := dc9_153 (by decide +kernel)
theorem d_MM_wordKind_132 : decode y_MM_wordKind.2.1 132 = .ok (.iconst 4, 1) := dc9_7 (by decide +kernel)
theorem d_MM_wordKind_133 : decode y_MM_wordKind.2.1 133 = .ok (.goto 4, 3) := dc9_167 (by decide +kernel)
theorem d_MM_wordKind_136 : decode y_MM_wordKind.2.1 136 = .ok (.iconst 1, 1) := dc9_4 (by decide +kernel)
theorem d_MM_wordKind_137 : decode y_MM_wordKind.2.1 137 = .ok (.ireturn, 1) := dc9_172 (by decide +kernel)
theorem d_MM_wordKind_138 : decode y_MM_wordKind.2.1 138 = .ok (.aload_n 0, 1) := dc9_42 (by decide +kernel)
theorem d_MM_wordKind_139 : decode y_MM_wordKind.2.1 139 = .ok (.iload_n 1, 1) := dc9_27 (by decide +kernel)
theorem d_MM_wordKind_140 : decode y_MM_wordKind.2.1 140 = .ok (.iload_n 2, 1) := dc9_28 (by decide +kernel)
theorem d_MM_wordKind_141 : decode y_MM_wordKind.2.1 141 = .ok (.ldc 184, 2) := dc9_18 (by decide +kernel)
theorem d_MM_wordKind_143 : decode y_MM_wordKind.2.1 143 = .ok (.invokevirtual 178, 3) := dc9_182 (by decide +kernel)
theorem d_MM_wordKind_146 : decode y_MM_wordKind.2.1 146 = .ok (.ifCond .eq 7, 3) := dc9_153 (by decide +kernel)
theorem d_MM_wordKind_149 : decode y_MM_wordKind.2.1 149 = .ok (.iconst 5, 1) := dc9_8 (by decide +kernel)
theorem d_MM_wordKind_150 : decode y_MM_wordKind.2.1 150 = .ok (.goto 4, 3) := dc9_167 (by decide +kernel)
theorem d_MM_wordKind_153 : decode y_MM_wordKind.2.1 153 = .ok (.iconst 1, 1) := dc9_4 (by decide +kernel)
theorem d_MM_wordKind_154 : decode y_MM_wordKind.2.1 154 = .ok (.ireturn, 1) := dc9_172 (by decide +kernel)
theorem d_MM_wordKind_155 : decode y_MM_wordKind.2.1 155 = .ok (.aload_n 0, 1) := dc9_42 (by decide +kernel)
theorem d_MM_wordKind_156 : decode y_MM_wordKind.2.1 156 = .ok (.iload_n 1, 1) := dc9_27 (by decide +kernel)
theorem d_MM_wordKind_157 : decode y_MM_wordKind.2.1 157 = .ok (.iload_n 2, 1) := dc9_28 (by decide +kernel)
theorem d_MM_wordKind_158 : decode y_MM_wordKind.2.1 158 = .ok (.ldc 186, 2) := dc9_18 (by decide +kernel)
theorem d_MM_wordKind_160 : decode y_MM_wordKind.2.1 160 = .ok (.invokevirtual 178, 3) := dc9_182 (by decide +kernel)
theorem d_MM_wordKind_163 : decode y_MM_wordKind.2.1 163 = .ok (.ifCond .eq 8, 3) := dc9_153 (by decide +kernel)
theorem d_MM_wordKind_166 : decode y_MM_wordKind.2.1 166 = .ok (.bipush 6, 2) := dc9_16 (by decide +kernel)
theorem d_MM_wordKind_168 : decode y_MM_wordKind.2.1 168 = .ok (.goto 20, 3) := dc9_167 (by decide +kernel)
theorem d_MM_wordKind_171 : decode y_MM_wordKind.2.1 171 = .ok (.aload_n 0, 1) := dc9_42 (by decide +kernel)
theorem d_MM_wordKind_172 : decode y_MM_wordKind.2.1 172 = .ok (.iload_n 1, 1) := dc9_27 (by decide +kernel)
theorem d_MM_wordKind_173 : decode y_MM_wordKind.2.1 173 = .ok (.iload_n 2, 1) := dc9_28 (by decide +kernel)
theorem d_MM_wordKind_174 : decode y_MM_wordKind.2.1 174 = .ok (.ldc 188, 2) := dc9_18 (by decide +kernel)
theorem d_MM_wordKind_176 : decode y_MM_wordKind.2.1 176 = .ok (.invokevirtual 178, 3) := dc9_182 (by decide +kernel)
theorem d_MM_wordKind_179 : decode y_MM_wordKind.2.1 179 = .ok (.ifCond .eq 8, 3) := dc9_153 (by decide +kernel)
theorem d_MM_wordKind_182 : decode y_MM_wordKind.2.1 182 = .ok (.bipush 13, 2) := dc9_16 (by decide +kernel)
theorem d_MM_wordKind_184 : decode y_MM_wordKind.2.1 184 = .ok (.goto 4, 3) := dc9_167 (by decide +kernel)
theorem d_MM_wordKind_187 : decode y_MM_wordKind.2.1 187 = .ok (.iconst 1, 1) := dc9_4 (by decide +kernel)
theorem d_MM_wordKind_188 : decode y_MM_wordKind.2.1 188 = .ok (.ireturn, 1) := dc9_172 (by decide +kernel)
theorem d_MM_wordKind_189 : decode y_MM_wordKind.2.1 189 = .ok (.aload_n 0, 1) := dc9_42 (by decide +kernel)
theorem d_MM_wordKind_190 : decode y_MM_wordKind.2.1 190 = .ok (.iload_n 1, 1) := dc9_27 (by decide +kernel)
theorem d_MM_wordKind_191 : decode y_MM_wordKind.2.1 191 = .ok (.iload_n 2, 1) := dc9_28 (by decide +kernel)
theorem d_MM_wordKind_192 : decode y_MM_wordKind.2.1 192 = .ok (.ldc 190, 2) := dc9_18 (by decide +kernel)
theorem d_MM_wordKind_194 : decode y_MM_wordKind.2.1 194 = .ok (.invokevirtual 178, 3) := dc9_182 (by decide +kernel)
theorem d_MM_wordKind_197 : decode y_MM_wordKind.2.1 197 = .ok (.ifCond .eq 8, 3) := dc9_153 (by decide +kernel)
theorem d_MM_wordKind_200 : decode y_MM_wordKind.2.1 200 = .ok (.bipush 7, 2) := dc9_16 (by decide +kernel)
theorem d_MM_wordKind_202 : decode y_MM_wordKind.2.1 202 = .ok (.goto 36, 3) := dc9_167 (by decide +kernel)
theorem d_MM_wordKind_205 : decode y_MM_wordKind.2.1 205 = .ok (.aload_n 0, 1) := dc9_42 (by decide +kernel)
theorem d_MM_wordKind_206 : decode y_MM_wordKind.2.1 206 = .ok (.iload_n 1, 1) := dc9_27 (by decide +kernel)
theorem d_MM_wordKind_207 : decode y_MM_wordKind.2.1 207 = .ok (.iload_n 2, 1) := dc9_28 (by decide +kernel)
theorem d_MM_wordKind_208 : decode y_MM_wordKind.2.1 208 = .ok (.ldc 192, 2) := dc9_18 (by decide +kernel)
theorem d_MM_wordKind_210 : decode y_MM_wordKind.2.1 210 = .ok (.invokevirtual 178, 3) := dc9_182 (by decide +kernel)
theorem d_MM_wordKind_213 : decode y_MM_wordKind.2.1 213 = .ok (.ifCond .eq 8, 3) := dc9_153 (by decide +kernel)
theorem d_MM_wordKind_216 : decode y_MM_wordKind.2.1 216 = .ok (.bipush 8, 2) := dc9_16 (by decide +kernel)
theorem d_MM_wordKind_218 : decode y_MM_wordKind.2.1 218 = .ok (.goto 20, 3) := dc9_167 (by decide +kernel)
theorem d_MM_wordKind_221 : decode y_MM_wordKind.2.1 221 = .ok (.aload_n 0, 1) := dc9_42 (by decide +kernel)
theorem d_MM_wordKind_222 : decode y_MM_wordKind.2.1 222 = .ok (.iload_n 1, 1) := dc9_27 (by decide +kernel)
theorem d_MM_wordKind_223 : decode y_MM_wordKind.2.1 223 = .ok (.iload_n 2, 1) := dc9_28 (by decide +kernel)
theorem d_MM_wordKind_224 : decode y_MM_wordKind.2.1 224 = .ok (.ldc 194, 2) := dc9_18 (by decide +kernel)
theorem d_MM_wordKind_226 : decode y_MM_wordKind.2.1 226 = .ok (.invokevirtual 178, 3) := dc9_182 (by decide +kernel)
theorem d_MM_wordKind_229 : decode y_MM_wordKind.2.1 229 = .ok (.ifCond .eq 8, 3) := dc9_153 (by decide +kernel)
theorem d_MM_wordKind_232 : decode y_MM_wordKind.2.1 232 = .ok (.bipush 15, 2) := dc9_16 (by decide +kernel)
theorem d_MM_wordKind_234 : decode y_MM_wordKind.2.1 234 = .ok (.goto 4, 3) := dc9_167 (by decide +kernel)
theorem d_MM_wordKind_237 : decode y_MM_wordKind.2.1 237 = .ok (.iconst 1, 1) := dc9_4 (by decide +kernel)
theorem d_MM_wordKind_238 : decode y_MM_wordKind.2.1 238 = .ok (.ireturn, 1) := dc9_172 (by decide +kernel)
theorem d_MM_wordKind_239 : decode y_MM_wordKind.2.1 239 = .ok (.aload_n 0, 1) := dc9_42 (by decide +kernel)
theorem d_MM_wordKind_240 : decode y_MM_wordKind.2.1 240 = .ok (.iload_n 1, 1) := dc9_27 (by decide +kernel)
theorem d_MM_wordKind_241 : decode y_MM_wordKind.2.1 241 = .ok (.iload_n 2, 1) := dc9_28 (by decide +kernel)
theorem d_MM_wordKind_242 : decode y_MM_wordKind.2.1 242 = .ok (.ldc 196, 2) := dc9_18 (by decide +kernel)
theorem d_MM_wordKind_244 : decode y_MM_wordKind.2.1 244 = .ok (.invokevirtual 178, 3) := dc9_182 (by decide +kernel)
theorem d_MM_wordKind_247 : decode y_MM_wordKind.2.1 247 = .ok (.ifCond .eq 8, 3) := dc9_153 (by decide +kernel)
theorem d_MM_wordKind_250 : decode y_MM_wordKind.2.1 250 = .ok (.bipush 9, 2) := dc9_16 (by decide +kernel)
theorem d_MM_wordKind_252 : decode y_MM_wordKind.2.1 252 = .ok (.goto 4, 3) := dc9_167 (by decide +kernel)
theorem d_MM_wordKind_255 : decode y_MM_wordKind.2.1 255 = .ok (.iconst 1, 1) := dc9_4 (by decide +kernel)
theorem d_MM_wordKind_256 : decode y_MM_wordKind.2.1 256 = .ok (.ireturn, 1) := dc9_172 (by decide +kernel)
theorem d_MM_wordKind_257 : decode y_MM_wordKind.2.1 257 = .ok (.aload_n 0, 1) := dc9_42 (by decide +kernel)
theorem d_MM_wordKind_258 : decode y_MM_wordKind.2.1 258 = .ok (.iload_n 1, 1) := dc9_27 (by decide +kernel)
theorem d_MM_wordKind_259 : decode y_MM_wordKind.2.1 259 = .ok (.iload_n 2, 1) := dc9_28 (by decide +kernel)
theorem d_MM_wordKind_260 : decode y_MM_wordKind.2.1 260 = .ok (.ldc 198, 2) := dc9_18 (by decide +kernel)
theorem d_MM_wordKind_262 : decode y_MM_wordKind.2.1 262 = .ok (.invokevirtual 178, 3) := dc9_182 (by decide +kernel)
theorem d_MM_wordKind_265 : decode y_MM_wordKind.2.1 265 = .ok (.ifCond .eq 8, 3) := dc9_153 (by decide +kernel)
theorem d_MM_wordKind_268 : decode y_MM_wordKind.2.1 268 = .ok (.bipush 10, 2) := dc9_16 (by decide +kernel)
theorem d_MM_wordKind_270 : decode y_MM_wordKind.2.1 270 = .ok (.goto 4, 3) := dc9_167 (by decide +kernel)
theorem d_MM_wordKind_273 : decode y_MM_wordKind.2.1 273 = .ok (.iconst 1, 1) := dc9_4 (by decide +kernel)
theorem d_MM_wordKind_274 : decode y_MM_wordKind.2.1 274 = .ok (.ireturn, 1) := dc9_172 (by decide +kernel)
theorem d_MM_wordKind_275 : decode y_MM_wordKind.2.1 275 = .ok (.aload_n 0, 1) := dc9_42 (by decide +kernel)
theorem d_MM_wordKind_276 : decode y_MM_wordKind.2.1 276 = .ok (.iload_n 1, 1) := dc9_27 (by decide +kernel)
theorem d_MM_wordKind_277 : decode y_MM_wordKind.2.1 277 = .ok (.iload_n 2, 1) := dc9_28 (by decide +kernel)
theorem d_MM_wordKind_278 : decode y_MM_wordKind.2.1 278 = .ok (.ldc 200, 2) := dc9_18 (by decide +kernel)
theorem d_MM_wordKind_280 : decode y_MM_wordKind.2.1 280 = .ok (.invokevirtual 178, 3) := dc9_182 (by decide +kernel)
theorem d_MM_wordKind_283 : decode y_MM_wordKind.2.1 283 = .ok (.ifCond .eq 8, 3) := dc9_153 (by decide +kernel)
theorem d_MM_wordKind_286 : decode y_MM_wordKind.2.1 286 = .ok (.bipush 11, 2) := dc9_16 (by decide +kernel)
theorem d_MM_wordKind_288 : decode y_MM_wordKind.2.1 288 = .ok (.goto 20, 3) := dc9_167 (by decide +kernel)
theorem d_MM_wordKind_291 : decode y_MM_wordKind.2.1 291 = .ok (.aload_n 0, 1) := dc9_42 (by decide +kernel)
theorem d_MM_wordKind_292 : decode y_MM_wordKind.2.1 292 = .ok (.iload_n 1, 1) := dc9_27 (by decide +kernel)
theorem d_MM_wordKind_293 : decode y_MM_wordKind.2.1 293 = .ok (.iload_n 2, 1) := dc9_28 (by decide +kernel)
theorem d_MM_wordKind_294 : decode y_MM_wordKind.2.1 294 = .ok (.ldc 202, 2) := dc9_18 (by decide +kernel)
theorem d_MM_wordKind_296 : decode y_MM_wordKind.2.1 296 = .ok (.invokevirtual 178, 3) := dc9_182 (by decide +kernel)
theorem d_MM_wordKind_299 : decode y_MM_wordKind.2.1 299 = .ok (.ifCond .eq 8, 3) := dc9_153 (by decide +kernel)
theorem d_MM_wordKind_302 : decode y_MM_wordKind.2.1 302 = .ok (.bipush 12, 2) := dc9_16 (by decide +kernel)
theorem d_MM_wordKind_304 : decode y_MM_wordKind.2.1 304 = .ok (.goto 4, 3) := dc9_167 (by decide +kernel)
theorem d_MM_wordKind_307 : decode y_MM_wordKind.2.1 307 = .ok (.iconst 1, 1) := dc9_4 (by decide +kernel)
theorem d_MM_wordKind_308 : decode y_MM_wordKind.2.1 308 = .ok (.ireturn, 1) := dc9_172 (by decide +kernel)
theorem d_MM_wordKind_309 : decode y_MM_wordKind.2.1 309 = .ok (.aload_n 0, 1) := dc9_42 (by decide +kernel)
theorem d_MM_wordKind_310 : decode y_MM_wordKind.2.1 310 = .ok (.iload_n 1, 1) := dc9_27 (by decide +kernel)
theorem d_MM_wordKind_311 : decode y_MM_wordKind.2.1 311 = .ok (.iload_n 2, 1) := dc9_28 (by decide +kernel)
theorem d_MM_wordKind_312 : decode y_MM_wordKind.2.1 312 = .ok (.ldc 204, 2) := dc9_18 (by decide +kernel)
theorem d_MM_wordKind_314 : decode y_MM_wordKind.2.1 314 = .ok (.invokevirtual 178, 3) := dc9_182 (by decide +kernel)
theorem d_MM_wordKind_317 : decode y_MM_wordKind.2.1 317 = .ok (.ifCond .eq 8, 3) := dc9_153 (by decide +kernel)
theorem d_MM_wordKind_320 : decode y_MM_wordKind.2.1 320 = .ok (.bipush 14, 2) := dc9_16 (by decide +kernel)
theorem d_MM_wordKind_322 : decode y_MM_wordKind.2.1 322 = .ok (.goto 4, 3) := dc9_167 (by decide +kernel)
theorem d_MM_wordKind_325 : decode y_MM_wordKind.2.1 325 = .ok (.iconst 1, 1) := dc9_4 (by decide +kernel)
theorem d_MM_wordKind_326 : decode y_MM_wordKind.2.1 326 = .ok (.ireturn, 1) := dc9_172 (by decide +kernel)
theorem d_MM_wordKind_327 : decode y_MM_wordKind.2.1 327 = .ok (.iconst 1, 1) := dc9_4 (by decide +kernel)
theorem d_MM_wordKind_328 : decode y_MM_wordKind.2.1 328 = .ok (.ireturn, 1) := dc9_172 (by decide +kernel)
section NAM
variable {G : mG} {d pc t n w T A B D N C p a : Nat} {f : Nat → Int} {M : mM} {Q : Option mV → mM → Prop}
theorem s_Wo_spells (hJ : JD G) (hs : Str G t n f) (hO : mOk M) (h : WA M w T A B D N C) (hp : p + n ≤ N) : Ci G y_Wo_spells (d + 4) [vr w, vi p, vo t] M (fun r M' => M' = M ∧ (r = 0 ∨ r = 1) ∧ (r = 1 ↔ ∀ j, j < n → mI M T (p + j) = f j)) := by
  obtain ⟨A0, hv, hT⟩ := hs.2.2
  have hn := hT.2.1
  obtain ⟨k2, ⟨r0, -⟩, ⟨kT, nT⟩, -, -, -, hN, -⟩ := h
  have step : ∀ i : Nat, i ≤ n → (∀ j, j < i → mI M T (p + j) = f j) → (i < n → mI M T (p + i) = f i → mWm G y_Wo_spells (d + 4) 2 [vr w, vi p, vo t, vi ((i + 1 : Nat) : Int)] [] M (fun r M' => ∃ x, r = some (vi x) ∧ M' = M ∧ (x = 0 ∨ x = 1) ∧ (x = 1 ↔ ∀ j, j < n → mI M T (p + j) = f j))) → mWm G y_Wo_spells (d + 4) 2 [vr w, vi p, vo t, vi (i : Int)] [] M (fun r M' => ∃ x, r = some (vi x) ∧ M' = M ∧ (x = 0 ∨ x = 1) ∧ (x = 1 ↔ ∀ j, j < n → mI M T (p + j) = f j)) := by
    intro i hi hj0 ih
    refine wm_iload_n d_Wo_spells_2 rfl rfl ?_
    refine wm_aldO_n d_Wo_spells_3 rfl rfl ?_
    refine wm_strLen (d := d + 2) hJ hs kt_lenW (Nat.le_of_ble_eq_true rfl) d_Wo_spells_4 ?_
    refine wm_icmp_ge (tgt := 34) d_Wo_spells_7 rfl ⟨by omega, by omega⟩ ⟨by omega, by omega⟩ (fun c0 => ?_) (fun c => ?_)
    · refine wm_iconst d_Wo_spells_34 ?_
      refine wm_ireturn d_Wo_spells_35 rfl rfl ?_
      exact ⟨_, rfl, rfl, Or.inr rfl, fun _ j hj => hj0 j (by omega), fun _ => rfl⟩
    · have hin : i < n := by omega
      refine wm_aload_n d_Wo_spells_10 rfl rfl ?_
      refine gf_Wo_9 rfl d_Wo_spells_11 k2 ?_
      rw [r0]
      refine wm_iload_n d_Wo_spells_14 rfl rfl ?_
      refine wm_iload_n d_Wo_spells_15 rfl rfl ?_
      refine wm_iadd d_Wo_spells_16 ?_
      refine wm_cald d_Wo_spells_17 kT ⟨by omega, by omega⟩ ?_
      refine wm_aldO_n d_Wo_spells_18 rfl rfl ?_
      refine wm_iload_n d_Wo_spells_19 rfl rfl ?_
      refine wm_strAt (d := d) hJ hs hin kt_chaW (Nat.le_of_ble_eq_true rfl) d_Wo_spells_20 ?_
      have hf := hT.2.2 i hin
      refine wm_icmp_eq (tgt := 28) d_Wo_spells_23 rfl (hO _ _).1 ⟨by omega, by omega⟩ (fun ce => ?_) (fun cn => ?_)
      · refine wm_iinc d_Wo_spells_28 (by decide) rfl (L' := [vr w, vi p, vo t, vi ((i : Int) + 1)]) rfl ?_
        refine wm_goto (tgt := 2) d_Wo_spells_31 rfl ?_
        have ih := ih hin (by rw [show p + i = ((p : Int) + (i : Int)).toNat by omega]; exact ce)
        rw [show ((i + 1 : Nat) : Int) = (i : Int) + 1 by omega] at ih
        exact ih
      · refine wm_iconst d_Wo_spells_26 ?_
        refine wm_ireturn d_Wo_spells_27 rfl rfl ?_
        exact ⟨_, rfl, rfl, Or.inl rfl, fun e => absurd e (by decide), fun e => absurd (e i hin) (by rw [show p + i = ((p : Int) + (i : Int)).toNat by omega]; exact cn)⟩
  have all : ∀ q i : Nat, n = i + q → (∀ j, j < i → mI M T (p + j) = f j) → mWm G y_Wo_spells (d + 4) 2 [vr w, vi p, vo t, vi (i : Int)] [] M (fun r M' => ∃ x, r = some (vi x) ∧ M' = M ∧ (x = 0 ∨ x = 1) ∧ (x = 1 ↔ ∀ j, j < n → mI M T (p + j) = f j)) := by
    intro q
    induction q with
    | zero => exact fun i e hj => step i (by omega) hj (fun c => by omega)
    | succ q ih => exact fun i e hj => step i (by omega) hj (fun _ ce => ih (i + 1) (by omega) (fun j hj1 => by
        by_cases cj : j < i
        · exact hj j cj
        · rw [show j = i by omega]; exact ce))
  refine wm_open (y := y_Wo_spells) rfl (Nat.le_of_ble_eq_true rfl) (L := [vr w, vi p, vo t, vd]) rfl ?_
  refine wm_iconst d_Wo_spells_0 ?_
  refine wm_istore_n d_Wo_spells_1 rfl (by decide) (L' := [vr w, vi p, vo t, vi 0]) rfl ?_
  exact all n 0 (by omega) (fun j hj => absurd hj (by omega))
theorem ns_test {tx : String} {l : List Int} {k tgt : Nat} {off : Int} (hJ : JD G) (hl : Lit G "ChanceArena$Words" k tx l) (hO : mOk M) (h : WA M w T A B D N C) (hp : p + l.length ≤ N) (hnl : n = l.length) (h0 : decode y_Wo_nameSort.2.1 pc = .ok (.aload_n 0, 1)) (h1 : decode y_Wo_nameSort.2.1 (pc + 1) = .ok (.iload_n 1, 1)) (h2 : decode y_Wo_nameSort.2.1 (pc + 2) = .ok (.ldc k, 2)) (h3 : decode y_Wo_nameSort.2.1 (pc + 4) = .ok (.invokevirtual 74, 3)) (h4 : decode y_Wo_nameSort.2.1 (pc + 7) = .ok (.ifCond .eq off, 3)) (ht : ((pc + 7 : Nat) : Int) + off = (tgt : Int)) (kt : wlq (mI M T) p (p + n) ≠ l → mWm G y_Wo_nameSort (d + 5) tgt [vr w, vi p, vi n] [] M Q) (kf : wlq (mI M T) p (p + n) = l → mWm G y_Wo_nameSort (d + 5) (pc + 10) [vr w, vi p, vi n] [] M Q) : mWm G y_Wo_nameSort (d + 5) pc [vr w, vi p, vi n] [] M Q := by
  obtain ⟨t, hr, hs⟩ := hl
  refine wm_aload_n h0 rfl rfl ?_
  refine wm_iload_n h1 rfl rfl ?_
  refine wm_ldcS rfl hr h2 ?_
  refine wm_callV (y2 := y_Wo_spells) (c := 1) (n := 2) (As := [vi p, vo t]) rfl rfl rfl kt_spL kt_spI ks_Wo_spells k1_2 kt_spC ⟨by decide, by decide, by decide +kernel⟩ (by decide) rfl rfl (Nat.le_of_ble_eq_true rfl) h3 h.1 ?_
  refine mCm.mono (s_Wo_spells (d := d) hJ hs hO h hp) (fun r M' q => ?_)
  obtain ⟨x, rfl, rfl, hx, hi⟩ := q
  have hw : x = 1 ↔ wlq (mI M' T) p (p + n) = l := by
    rw [hi, wlq_eq]
    exact ⟨fun u => ⟨by omega, u⟩, fun u => u.2⟩
  exact wm_if_eq h4 ht (by rcases hx with e | e <;> subst e <;> exact ⟨by decide, by decide⟩) (fun c => kt (fun u => absurd (hw.mpr u) (by omega))) (fun c => kf (hw.mp (by omega)))
theorem s_Wo_nameSort (hJ : JD G) (hL : ∀ q, q ∈ litBW → Lit G "ChanceArena$Words" q.1 q.2.1 q.2.2) (hO : mOk M) (h : WA M w T A B D N C) (hp : p + n ≤ N) (hn : n ≤ 40) : Ci G y_Wo_nameSort (d + 5) [vr w, vi p, vi n] M (fun r M' => M' = M ∧ (2 ≤ r ∧ r ≤ 16 ∧ r ≠ 3) ∧ r = kwq (wlq (mI M T) p (p + n)) + 1) := by
  have hlen : (wlq (mI M T) p (p + n)).length = n := by rw [wlq_len]; omega
  refine wm_open (y := y_Wo_nameSort) rfl (Nat.le_of_ble_eq_true rfl) (L := [vr w, vi p, vi n]) rfl ?_
  refine (?_ : ∀ Q9 : Option mV → mM → Prop, (∀ x : Int, 2 ≤ x → x ≤ 16 → x ≠ 3 → x = kwq (wlq (mI M T) p (p + n)) + 1 → Q9 (some (vi x)) M) → mWm G y_Wo_nameSort (d + 5) 0 [vr w, vi p, vi n] [] M Q9) _ (fun x a b c e => ⟨x, rfl, rfl, ⟨a, b, c⟩, e⟩)
  intro Q9 hend
  have B46 : kwq (wlq (mI M T) p (p + n)) = 4 → mWm G y_Wo_nameSort (d + 5) 46 [vr w, vi p, vi n] [] M Q9 := fun ek => by
    refine wm_iconst d_Wo_nameSort_46 ?_
    refine wm_goto (tgt := 81) d_Wo_nameSort_47 rfl ?_
    refine wm_ireturn d_Wo_nameSort_81 rfl rfl ?_
    exact hend _ (by decide) (by decide) (by decide) (Eq.trans (by decide) (congrArg (· + 1) ek.symm))
  have B60 : kwq (wlq (mI M T) p (p + n)) = 7 → mWm G y_Wo_nameSort (d + 5) 60 [vr w, vi p, vi n] [] M Q9 := fun ek => by
    refine wm_bipush d_Wo_nameSort_60 (by decide) ?_
    refine wm_goto (tgt := 81) d_Wo_nameSort_62 rfl ?_
    refine wm_ireturn d_Wo_nameSort_81 rfl rfl ?_
    exact hend _ (by decide) (by decide) (by decide) (Eq.trans (by decide) (congrArg (· + 1) ek.symm))
  have B75 : kwq (wlq (mI M T) p (p + n)) = 8 → mWm G y_Wo_nameSort (d + 5) 75 [vr w, vi p, vi n] [] M Q9 := fun ek => by
    refine wm_bipush d_Wo_nameSort_75 (by decide) ?_
    refine wm_goto (tgt := 81) d_Wo_nameSort_77 rfl ?_
    refine wm_ireturn d_Wo_nameSort_81 rfl rfl ?_
    exact hend _ (by decide) (by decide) (by decide) (Eq.trans (by decide) (congrArg (· + 1) ek.symm))
  have B80 : kwq (wlq (mI M T) p (p + n)) = 1 → mWm G y_Wo_nameSort (d + 5) 80 [vr w, vi p, vi n] [] M Q9 := fun ek => by
    refine wm_iconst d_Wo_nameSort_80 ?_
    refine wm_ireturn d_Wo_nameSort_81 rfl rfl ?_
    exact hend _ (by decide) (by decide) (by decide) (Eq.trans (by decide) (congrArg (· + 1) ek.symm))
  have B92 : kwq (wlq (mI M T) p (p + n)) = 12 → mWm G y_Wo_nameSort (d + 5) 92 [vr w, vi p, vi n] [] M Q9 := fun ek => by
    refine wm_bipush d_Wo_nameSort_92 (by decide) ?_
    refine wm_goto (tgt := 158) d_Wo_nameSort_94 rfl ?_
    refine wm_ireturn d_Wo_nameSort_158 rfl rfl ?_
    exact hend _ (by decide) (by decide) (by decide) (Eq.trans (by decide) (congrArg (· + 1) ek.symm))
  have B107 : kwq (wlq (mI M T) p (p + n)) = 10 → mWm G y_Wo_nameSort (d + 5) 107 [vr w, vi p, vi n] [] M Q9 := fun ek => by
    refine wm_bipush d_Wo_nameSort_107 (by decide) ?_
    refine wm_goto (tgt := 158) d_Wo_nameSort_109 rfl ?_
    refine wm_ireturn d_Wo_nameSort_158 rfl rfl ?_
    exact hend _ (by decide) (by decide) (by decide) (Eq.trans (by decide) (congrArg (· + 1) ek.symm))
  have B122 : kwq (wlq (mI M T) p (p + n)) = 5 → mWm G y_Wo_nameSort (d + 5) 122 [vr w, vi p, vi n] [] M Q9 := fun ek => by
    refine wm_bipush d_Wo_nameSort_122 (by decide) ?_
    refine wm_goto (tgt := 158) d_Wo_nameSort_124 rfl ?_
    refine wm_ireturn d_Wo_nameSort_158 rfl rfl ?_
    exact hend _ (by decide) (by decide) (by decide) (Eq.trans (by decide) (congrArg (· + 1) ek.symm))
  have B137 : kwq (wlq (mI M T) p (p + n)) = 9 → mWm G y_Wo_nameSort (d + 5) 137 [vr w, vi p, vi n] [] M Q9 := fun ek => by
    refine wm_bipush d_Wo_nameSort_137 (by decide) ?_
    refine wm_goto (tgt := 158) d_Wo_nameSort_139 rfl ?_
    refine wm_ireturn d_Wo_nameSort_158 rfl rfl ?_
    exact hend _ (by decide) (by decide) (by decide) (Eq.trans (by decide) (congrArg (· + 1) ek.symm))
  have B152 : kwq (wlq (mI M T) p (p + n)) = 15 → mWm G y_Wo_nameSort (d + 5) 152 [vr w, vi p, vi n] [] M Q9 := fun ek => by
    refine wm_bipush d_Wo_nameSort_152 (by decide) ?_
    refine wm_goto (tgt := 158) d_Wo_nameSort_154 rfl ?_
    refine wm_ireturn d_Wo_nameSort_158 rfl rfl ?_
    exact hend _ (by decide) (by decide) (by decide) (Eq.trans (by decide) (congrArg (· + 1) ek.symm))
  have B157 : kwq (wlq (mI M T) p (p + n)) = 1 → mWm G y_Wo_nameSort (d + 5) 157 [vr w, vi p, vi n] [] M Q9 := fun ek => by
    refine wm_iconst d_Wo_nameSort_157 ?_
    refine wm_ireturn d_Wo_nameSort_158 rfl rfl ?_
    exact hend _ (by decide) (by decide) (by decide) (Eq.trans (by decide) (congrArg (· + 1) ek.symm))
  have B169 : kwq (wlq (mI M T) p (p + n)) = 3 → mWm G y_Wo_nameSort (d + 5) 169 [vr w, vi p, vi n] [] M Q9 := fun ek => by
    refine wm_iconst d_Wo_nameSort_169 ?_
    refine wm_goto (tgt := 204) d_Wo_nameSort_170 rfl ?_
    refine wm_ireturn d_Wo_nameSort_204 rfl rfl ?_
    exact hend _ (by decide) (by decide) (by decide) (Eq.trans (by decide) (congrArg (· + 1) ek.symm))
  have B183 : kwq (wlq (mI M T) p (p + n)) = 13 → mWm G y_Wo_nameSort (d + 5) 183 [vr w, vi p, vi n] [] M Q9 := fun ek => by
    refine wm_bipush d_Wo_nameSort_183 (by decide) ?_
    refine wm_goto (tgt := 204) d_Wo_nameSort_185 rfl ?_
    refine wm_ireturn d_Wo_nameSort_204 rfl rfl ?_
    exact hend _ (by decide) (by decide) (by decide) (Eq.trans (by decide) (congrArg (· + 1) ek.symm))
  have B198 : kwq (wlq (mI M T) p (p + n)) = 14 → mWm G y_Wo_nameSort (d + 5) 198 [vr w, vi p, vi n] [] M Q9 := fun ek => by
    refine wm_bipush d_Wo_nameSort_198 (by decide) ?_
    refine wm_goto (tgt := 204) d_Wo_nameSort_200 rfl ?_
    refine wm_ireturn d_Wo_nameSort_204 rfl rfl ?_
    exact hend _ (by decide) (by decide) (by decide) (Eq.trans (by decide) (congrArg (· + 1) ek.symm))
  have B203 : kwq (wlq (mI M T) p (p + n)) = 1 → mWm G y_Wo_nameSort (d + 5) 203 [vr w, vi p, vi n] [] M Q9 := fun ek => by
    refine wm_iconst d_Wo_nameSort_203 ?_
    refine wm_ireturn d_Wo_nameSort_204 rfl rfl ?_
    exact hend _ (by decide) (by decide) (by decide) (Eq.trans (by decide) (congrArg (· + 1) ek.symm))
  have B215 : kwq (wlq (mI M T) p (p + n)) = 11 → mWm G y_Wo_nameSort (d + 5) 215 [vr w, vi p, vi n] [] M Q9 := fun ek => by
    refine wm_bipush d_Wo_nameSort_215 (by decide) ?_
    refine wm_goto (tgt := 221) d_Wo_nameSort_217 rfl ?_
    refine wm_ireturn d_Wo_nameSort_221 rfl rfl ?_
    exact hend _ (by decide) (by decide) (by decide) (Eq.trans (by decide) (congrArg (· + 1) ek.symm))
  have B220 : kwq (wlq (mI M T) p (p + n)) = 1 → mWm G y_Wo_nameSort (d + 5) 220 [vr w, vi p, vi n] [] M Q9 := fun ek => by
    refine wm_iconst d_Wo_nameSort_220 ?_
    refine wm_ireturn d_Wo_nameSort_221 rfl rfl ?_
    exact hend _ (by decide) (by decide) (by decide) (Eq.trans (by decide) (congrArg (· + 1) ek.symm))
  have B232 : kwq (wlq (mI M T) p (p + n)) = 6 → mWm G y_Wo_nameSort (d + 5) 232 [vr w, vi p, vi n] [] M Q9 := fun ek => by
    refine wm_bipush d_Wo_nameSort_232 (by decide) ?_
    refine wm_goto (tgt := 238) d_Wo_nameSort_234 rfl ?_
    refine wm_ireturn d_Wo_nameSort_238 rfl rfl ?_
    exact hend _ (by decide) (by decide) (by decide) (Eq.trans (by decide) (congrArg (· + 1) ek.symm))
  have B237 : kwq (wlq (mI M T) p (p + n)) = 1 → mWm G y_Wo_nameSort (d + 5) 237 [vr w, vi p, vi n] [] M Q9 := fun ek => by
    refine wm_iconst d_Wo_nameSort_237 ?_
    refine wm_ireturn d_Wo_nameSort_238 rfl rfl ?_
    exact hend _ (by decide) (by decide) (by decide) (Eq.trans (by decide) (congrArg (· + 1) ek.symm))
  have B239 : kwq (wlq (mI M T) p (p + n)) = 1 → mWm G y_Wo_nameSort (d + 5) 239 [vr w, vi p, vi n] [] M Q9 := fun ek => by
    refine wm_iconst d_Wo_nameSort_239 ?_
    refine wm_ireturn d_Wo_nameSort_240 rfl rfl ?_
    exact hend _ (by decide) (by decide) (by decide) (Eq.trans (by decide) (congrArg (· + 1) ek.symm))
  have B222 : n = 7 → mWm G y_Wo_nameSort (d + 5) 222 [vr w, vi p, vi n] [] M Q9 := fun e => ns_test (tgt := 237) hJ (hL (100, "formula", [102, 111, 114, 109, 117, 108, 97]) (List.mem_of_getElem? (i := 12) rfl)) hO h (by show p + 7 ≤ N; omega) e d_Wo_nameSort_222 d_Wo_nameSort_223 d_Wo_nameSort_224 d_Wo_nameSort_226 d_Wo_nameSort_229 rfl (fun c => B237 (kw_none (wl_len hlen (by rw [e]; decide)) (wl_len hlen (by rw [e]; decide)) (wl_len hlen (by rw [e]; decide)) (wl_len hlen (by rw [e]; decide)) (wl_len hlen (by rw [e]; decide)) (wl_len hlen (by rw [e]; decide)) (wl_len hlen (by rw [e]; decide)) (wl_len hlen (by rw [e]; decide)) (wl_len hlen (by rw [e]; decide)) (wl_len hlen (by rw [e]; decide)) (wl_len hlen (by rw [e]; decide)) (wl_len hlen (by rw [e]; decide)) c)) (fun c => B232 (by rw [c]; decide))
  have B205 : n = 6 → mWm G y_Wo_nameSort (d + 5) 205 [vr w, vi p, vi n] [] M Q9 := fun e => ns_test (tgt := 220) hJ (hL (98, "target", [116, 97, 114, 103, 101, 116]) (List.mem_of_getElem? (i := 11) rfl)) hO h (by show p + 6 ≤ N; omega) e d_Wo_nameSort_205 d_Wo_nameSort_206 d_Wo_nameSort_207 d_Wo_nameSort_209 d_Wo_nameSort_212 rfl (fun c => B220 (kw_none (wl_len hlen (by rw [e]; decide)) (wl_len hlen (by rw [e]; decide)) (wl_len hlen (by rw [e]; decide)) (wl_len hlen (by rw [e]; decide)) (wl_len hlen (by rw [e]; decide)) (wl_len hlen (by rw [e]; decide)) (wl_len hlen (by rw [e]; decide)) (wl_len hlen (by rw [e]; decide)) (wl_len hlen (by rw [e]; decide)) (wl_len hlen (by rw [e]; decide)) (wl_len hlen (by rw [e]; decide)) c (wl_len hlen (by rw [e]; decide)))) (fun c => B215 (by rw [c]; decide))
  have B188 : n = 5 → wlq (mI M T) p (p + n) ≠ [99, 111, 110, 115, 116] → wlq (mI M T) p (p + n) ≠ [102, 97, 108, 115, 101] → mWm G y_Wo_nameSort (d + 5) 188 [vr w, vi p, vi n] [] M Q9 := fun e v8 v9 => ns_test (tgt := 203) hJ (hL (96, "least", [108, 101, 97, 115, 116]) (List.mem_of_getElem? (i := 10) rfl)) hO h (by show p + 5 ≤ N; omega) e d_Wo_nameSort_188 d_Wo_nameSort_189 d_Wo_nameSort_190 d_Wo_nameSort_192 d_Wo_nameSort_195 rfl (fun c => B203 (kw_none (wl_len hlen (by rw [e]; decide)) (wl_len hlen (by rw [e]; decide)) (wl_len hlen (by rw [e]; decide)) (wl_len hlen (by rw [e]; decide)) (wl_len hlen (by rw [e]; decide)) (wl_len hlen (by rw [e]; decide)) (wl_len hlen (by rw [e]; decide)) (wl_len hlen (by rw [e]; decide)) v8 v9 c (wl_len hlen (by rw [e]; decide)) (wl_len hlen (by rw [e]; decide)))) (fun c => B198 (by rw [c]; decide))
  have B173 : n = 5 → wlq (mI M T) p (p + n) ≠ [99, 111, 110, 115, 116] → mWm G y_Wo_nameSort (d + 5) 173 [vr w, vi p, vi n] [] M Q9 := fun e v8 => ns_test (tgt := 188) hJ (hL (94, "false", [102, 97, 108, 115, 101]) (List.mem_of_getElem? (i := 9) rfl)) hO h (by show p + 5 ≤ N; omega) e d_Wo_nameSort_173 d_Wo_nameSort_174 d_Wo_nameSort_175 d_Wo_nameSort_177 d_Wo_nameSort_180 rfl (fun c => B188 e v8 c) (fun c => B183 (by rw [c]; decide))
  have B159 : n = 5 → mWm G y_Wo_nameSort (d + 5) 159 [vr w, vi p, vi n] [] M Q9 := fun e => ns_test (tgt := 173) hJ (hL (92, "const", [99, 111, 110, 115, 116]) (List.mem_of_getElem? (i := 8) rfl)) hO h (by show p + 5 ≤ N; omega) e d_Wo_nameSort_159 d_Wo_nameSort_160 d_Wo_nameSort_161 d_Wo_nameSort_163 d_Wo_nameSort_166 rfl (fun c => B173 e c) (fun c => B169 (by rw [c]; decide))
  have B142 : n = 4 → wlq (mI M T) p (p + n) ≠ [116, 114, 117, 101] → wlq (mI M T) p (p + n) ≠ [115, 116, 97, 121] → wlq (mI M T) p (p + n) ≠ [98, 111, 111, 108] → wlq (mI M T) p (p + n) ≠ [105, 110, 105, 116] → mWm G y_Wo_nameSort (d + 5) 142 [vr w, vi p, vi n] [] M Q9 := fun e v3 v4 v5 v6 => ns_test (tgt := 157) hJ (hL (90, "most", [109, 111, 115, 116]) (List.mem_of_getElem? (i := 7) rfl)) hO h (by show p + 4 ≤ N; omega) e d_Wo_nameSort_142 d_Wo_nameSort_143 d_Wo_nameSort_144 d_Wo_nameSort_146 d_Wo_nameSort_149 rfl (fun c => B157 (kw_none (wl_len hlen (by rw [e]; decide)) (wl_len hlen (by rw [e]; decide)) (wl_len hlen (by rw [e]; decide)) v3 v4 v5 v6 c (wl_len hlen (by rw [e]; decide)) (wl_len hlen (by rw [e]; decide)) (wl_len hlen (by rw [e]; decide)) (wl_len hlen (by rw [e]; decide)) (wl_len hlen (by rw [e]; decide)))) (fun c => B152 (by rw [c]; decide))
  have B127 : n = 4 → wlq (mI M T) p (p + n) ≠ [116, 114, 117, 101] → wlq (mI M T) p (p + n) ≠ [115, 116, 97, 121] → wlq (mI M T) p (p + n) ≠ [98, 111, 111, 108] → mWm G y_Wo_nameSort (d + 5) 127 [vr w, vi p, vi n] [] M Q9 := fun e v3 v4 v5 => ns_test (tgt := 142) hJ (hL (88, "init", [105, 110, 105, 116]) (List.mem_of_getElem? (i := 6) rfl)) hO h (by show p + 4 ≤ N; omega) e d_Wo_nameSort_127 d_Wo_nameSort_128 d_Wo_nameSort_129 d_Wo_nameSort_131 d_Wo_nameSort_134 rfl (fun c => B142 e v3 v4 v5 c) (fun c => B137 (by rw [c]; decide))
  have B112 : n = 4 → wlq (mI M T) p (p + n) ≠ [116, 114, 117, 101] → wlq (mI M T) p (p + n) ≠ [115, 116, 97, 121] → mWm G y_Wo_nameSort (d + 5) 112 [vr w, vi p, vi n] [] M Q9 := fun e v3 v4 => ns_test (tgt := 127) hJ (hL (86, "bool", [98, 111, 111, 108]) (List.mem_of_getElem? (i := 5) rfl)) hO h (by show p + 4 ≤ N; omega) e d_Wo_nameSort_112 d_Wo_nameSort_113 d_Wo_nameSort_114 d_Wo_nameSort_116 d_Wo_nameSort_119 rfl (fun c => B127 e v3 v4 c) (fun c => B122 (by rw [c]; decide))
  have B97 : n = 4 → wlq (mI M T) p (p + n) ≠ [116, 114, 117, 101] → mWm G y_Wo_nameSort (d + 5) 97 [vr w, vi p, vi n] [] M Q9 := fun e v3 => ns_test (tgt := 112) hJ (hL (84, "stay", [115, 116, 97, 121]) (List.mem_of_getElem? (i := 4) rfl)) hO h (by show p + 4 ≤ N; omega) e d_Wo_nameSort_97 d_Wo_nameSort_98 d_Wo_nameSort_99 d_Wo_nameSort_101 d_Wo_nameSort_104 rfl (fun c => B112 e v3 c) (fun c => B107 (by rw [c]; decide))
  have B82 : n = 4 → mWm G y_Wo_nameSort (d + 5) 82 [vr w, vi p, vi n] [] M Q9 := fun e => ns_test (tgt := 97) hJ (hL (82, "true", [116, 114, 117, 101]) (List.mem_of_getElem? (i := 3) rfl)) hO h (by show p + 4 ≤ N; omega) e d_Wo_nameSort_82 d_Wo_nameSort_83 d_Wo_nameSort_84 d_Wo_nameSort_86 d_Wo_nameSort_89 rfl (fun c => B97 e c) (fun c => B92 (by rw [c]; decide))
  have B65 : n = 3 → wlq (mI M T) p (p + n) ≠ [118, 97, 114] → wlq (mI M T) p (p + n) ≠ [109, 97, 120] → mWm G y_Wo_nameSort (d + 5) 65 [vr w, vi p, vi n] [] M Q9 := fun e v0 v1 => ns_test (tgt := 80) hJ (hL (80, "min", [109, 105, 110]) (List.mem_of_getElem? (i := 2) rfl)) hO h (by show p + 3 ≤ N; omega) e d_Wo_nameSort_65 d_Wo_nameSort_66 d_Wo_nameSort_67 d_Wo_nameSort_69 d_Wo_nameSort_72 rfl (fun c => B80 (kw_none v0 v1 c (wl_len hlen (by rw [e]; decide)) (wl_len hlen (by rw [e]; decide)) (wl_len hlen (by rw [e]; decide)) (wl_len hlen (by rw [e]; decide)) (wl_len hlen (by rw [e]; decide)) (wl_len hlen (by rw [e]; decide)) (wl_len hlen (by rw [e]; decide)) (wl_len hlen (by rw [e]; decide)) (wl_len hlen (by rw [e]; decide)) (wl_len hlen (by rw [e]; decide)))) (fun c => B75 (by rw [c]; decide))
  have B50 : n = 3 → wlq (mI M T) p (p + n) ≠ [118, 97, 114] → mWm G y_Wo_nameSort (d + 5) 50 [vr w, vi p, vi n] [] M Q9 := fun e v0 => ns_test (tgt := 65) hJ (hL (78, "max", [109, 97, 120]) (List.mem_of_getElem? (i := 1) rfl)) hO h (by show p + 3 ≤ N; omega) e d_Wo_nameSort_50 d_Wo_nameSort_51 d_Wo_nameSort_52 d_Wo_nameSort_54 d_Wo_nameSort_57 rfl (fun c => B65 e v0 c) (fun c => B60 (by rw [c]; decide))
  have B36 : n = 3 → mWm G y_Wo_nameSort (d + 5) 36 [vr w, vi p, vi n] [] M Q9 := fun e => ns_test (tgt := 50) hJ (hL (72, "var", [118, 97, 114]) (List.mem_of_getElem? (i := 0) rfl)) hO h (by show p + 3 ≤ N; omega) e d_Wo_nameSort_36 d_Wo_nameSort_37 d_Wo_nameSort_38 d_Wo_nameSort_40 d_Wo_nameSort_43 rfl (fun c => B50 e c) (fun c => B46 (by rw [c]; decide))
  refine wm_iload_n d_Wo_nameSort_0 rfl rfl ?_
  by_cases c : n < 3 ∨ 7 < n
  · exact wm_tableOut (tgt := 239) d_Wo_nameSort_1 ⟨by omega, by omega⟩ (by omega) rfl (B239 (kw_none (wl_len hlen (by show 3 ≠ n; omega)) (wl_len hlen (by show 3 ≠ n; omega)) (wl_len hlen (by show 3 ≠ n; omega)) (wl_len hlen (by show 4 ≠ n; omega)) (wl_len hlen (by show 4 ≠ n; omega)) (wl_len hlen (by show 4 ≠ n; omega)) (wl_len hlen (by show 4 ≠ n; omega)) (wl_len hlen (by show 4 ≠ n; omega)) (wl_len hlen (by show 5 ≠ n; omega)) (wl_len hlen (by show 5 ≠ n; omega)) (wl_len hlen (by show 5 ≠ n; omega)) (wl_len hlen (by show 6 ≠ n; omega)) (wl_len hlen (by show 7 ≠ n; omega))))
  · have c5 : n = 3 ∨ n = 4 ∨ n = 5 ∨ n = 6 ∨ n = 7 := by omega
    rcases c5 with e | e | e | e | e
    · exact wm_tableIn (tgt := 36) (off := 35) d_Wo_nameSort_1 ⟨by omega, by omega⟩ (by omega) (by omega) (by rw [e]; rfl) rfl (B36 e)
    · exact wm_tableIn (tgt := 82) (off := 81) d_Wo_nameSort_1 ⟨by omega, by omega⟩ (by omega) (by omega) (by rw [e]; rfl) rfl (B82 e)
    · exact wm_tableIn (tgt := 159) (off := 158) d_Wo_nameSort_1 ⟨by omega, by omega⟩ (by omega) (by omega) (by rw [e]; rfl) rfl (B159 e)
    · exact wm_tableIn (tgt := 205) (off := 204) d_Wo_nameSort_1 ⟨by omega, by omega⟩ (by omega) (by omega) (by rw [e]; rfl) rfl (B205 e)
    · exact wm_tableIn (tgt := 222) (off := 221) d_Wo_nameSort_1 ⟨by omega, by omega⟩ (by omega) (by omega) (by rw [e]; rfl) rfl (B222 e)
theorem s_MM_is {f0 e : Nat} (hJ : JD G) (hs : Str G t n f) (hO : mOk M) (h : Wd M a) (hfe : f0 ≤ 16384 ∧ f0 < e ∧ e ≤ f0 + 40) : Ci G y_MM_is (d + 4) [vr a, vi f0, vi e, vo t] M (fun r M' => M' = M ∧ (r = 0 ∨ r = 1) ∧ (r = 1 ↔ (e = f0 + n ∧ ∀ j, j < n → lt M a (f0 + j) = f j))) := by
  obtain ⟨A0, hv, hT⟩ := hs.2.2
  have hn := hT.2.1
  obtain ⟨f1, f2, f3⟩ := hfe
  have step : ∀ (b : Int) (i : Nat), ((b = 1 ∧ e = f0 + n ∧ ∀ j, j < i → lt M a (f0 + j) = f j) ∨ (b = 0 ∧ ¬ (e = f0 + n ∧ ∀ j, j < n → lt M a (f0 + j) = f j))) → i ≤ n → (i < n → ∀ b' : Int, ((b' = 1 ∧ e = f0 + n ∧ ∀ j, j < i + 1 → lt M a (f0 + j) = f j) ∨ (b' = 0 ∧ ¬ (e = f0 + n ∧ ∀ j, j < n → lt M a (f0 + j) = f j))) → mWm G y_MM_is (d + 4) 20 [vr a, vi f0, vi e, vo t, vi b', vi ((i + 1 : Nat) : Int)] [] M (fun r M' => ∃ x, r = some (vi x) ∧ M' = M ∧ (x = 0 ∨ x = 1) ∧ (x = 1 ↔ (e = f0 + n ∧ ∀ j, j < n → lt M a (f0 + j) = f j)))) → mWm G y_MM_is (d + 4) 20 [vr a, vi f0, vi e, vo t, vi b, vi (i : Int)] [] M (fun r M' => ∃ x, r = some (vi x) ∧ M' = M ∧ (x = 0 ∨ x = 1) ∧ (x = 1 ↔ (e = f0 + n ∧ ∀ j, j < n → lt M a (f0 + j) = f j))) := by
    intro b i hB hi ih
    have hb : b = 0 ∨ b = 1 := by rcases hB with u | u <;> omega
    have ib : i32 b := by rcases hb with e | e <;> subst e <;> exact ⟨by decide, by decide⟩
    have fin : (b = 0 ∨ n ≤ i) → mWm G y_MM_is (d + 4) 64 [vr a, vi f0, vi e, vo t, vi b, vi (i : Int)] [] M (fun r M' => ∃ x, r = some (vi x) ∧ M' = M ∧ (x = 0 ∨ x = 1) ∧ (x = 1 ↔ (e = f0 + n ∧ ∀ j, j < n → lt M a (f0 + j) = f j))) := fun cz => by
      refine wm_iload d_MM_is_64 rfl ?_
      refine wm_ireturn d_MM_is_66 rfl (m_nb hb) ?_
      refine ⟨_, rfl, rfl, hb, ?_⟩
      rcases hB with ⟨u1, u2, u3⟩ | ⟨u1, u2⟩
      · exact ⟨fun _ => ⟨u2, fun j hj => u3 j (by omega)⟩, fun _ => u1⟩
      · exact ⟨fun c => by omega, fun c => absurd c u2⟩
    refine wm_iload d_MM_is_20 rfl ?_
    refine wm_if_eq (tgt := 64) d_MM_is_22 rfl ib (fun c => fin (Or.inl c)) (fun cb => ?_)
    refine wm_iload d_MM_is_25 rfl ?_
    refine wm_aldO_n d_MM_is_27 rfl rfl ?_
    refine wm_strLen (d := d + 2) hJ hs kt_lenM (Nat.le_of_ble_eq_true rfl) d_MM_is_28 ?_
    refine wm_icmp_ge (tgt := 64) d_MM_is_31 rfl ⟨by omega, by omega⟩ ⟨by omega, by omega⟩ (fun c => fin (Or.inr (by omega))) (fun c => ?_)
    have hin : i < n := by omega
    have hB1 : e = f0 + n ∧ ∀ j, j < i → lt M a (f0 + j) = f j := by
      rcases hB with ⟨-, u⟩ | ⟨u, -⟩
      · exact u
      · exact absurd u cb
    have ih := ih hin
    refine wm_aload_n d_MM_is_34 rfl rfl ?_
    refine wm_iload_n d_MM_is_35 rfl rfl ?_
    refine wm_iload d_MM_is_36 rfl ?_
    refine wm_iadd d_MM_is_38 ?_
    rw [show (f0 : Int) + (i : Int) = ((f0 + i : Nat) : Int) by omega]
    refine cf_MM_159 rfl d_MM_is_39 h.1.1 (Nat.le_of_ble_eq_true rfl) ?_
    refine (s_MM_letter (d := d + 2) (by omega) hO h).mono (fun x M' q => ?_)
    obtain ⟨eM, hx⟩ := q
    have ix : i32 x := by rw [hx]; exact lt_i32 hO
    rw [eM]
    refine wm_aldO_n d_MM_is_42 rfl rfl ?_
    refine wm_iload d_MM_is_43 rfl ?_
    refine wm_strAt (d := d) hJ hs hin kt_chaM (Nat.le_of_ble_eq_true rfl) d_MM_is_45 ?_
    have hf := hT.2.2 i hin
    have nxt : ∀ b' : Int, ((b' = 1 ∧ e = f0 + n ∧ ∀ j, j < i + 1 → lt M a (f0 + j) = f j) ∨ (b' = 0 ∧ ¬ (e = f0 + n ∧ ∀ j, j < n → lt M a (f0 + j) = f j))) → mWm G y_MM_is (d + 4) 56 [vr a, vi f0, vi e, vo t, vi b, vi (i : Int)] [vi b'] M (fun r M' => ∃ x, r = some (vi x) ∧ M' = M ∧ (x = 0 ∨ x = 1) ∧ (x = 1 ↔ (e = f0 + n ∧ ∀ j, j < n → lt M a (f0 + j) = f j))) := by
      intro b' hb'
      refine wm_istore d_MM_is_56 (by decide) (L' := [vr a, vi f0, vi e, vo t, vi b', vi (i : Int)]) rfl ?_
      refine wm_iinc d_MM_is_58 (by decide) rfl (L' := [vr a, vi f0, vi e, vo t, vi b', vi ((i : Int) + 1)]) rfl ?_
      refine wm_goto (tgt := 20) d_MM_is_61 rfl ?_
      have ih := ih b' hb'
      rw [show ((i + 1 : Nat) : Int) = (i : Int) + 1 by omega] at ih
      exact ih
    refine wm_icmp_ne (tgt := 55) d_MM_is_48 rfl ix ⟨by omega, by omega⟩ (fun cn => ?_) (fun ce => ?_)
    · refine wm_iconst d_MM_is_55 ?_
      exact nxt 0 (Or.inr ⟨rfl, fun u => cn (by rw [hx]; exact u.2 i hin)⟩)
    · refine wm_iconst d_MM_is_51 ?_
      refine wm_goto (tgt := 56) d_MM_is_52 rfl ?_
      exact nxt 1 (Or.inl ⟨rfl, hB1.1, fun j hj => by
        by_cases cj : j < i
        · exact hB1.2 j cj
        · rw [show j = i by omega, ← hx]; exact Decidable.not_not.mp ce⟩)
  have all : ∀ (q i : Nat) (b : Int), ((b = 1 ∧ e = f0 + n ∧ ∀ j, j < i → lt M a (f0 + j) = f j) ∨ (b = 0 ∧ ¬ (e = f0 + n ∧ ∀ j, j < n → lt M a (f0 + j) = f j))) → n = i + q → mWm G y_MM_is (d + 4) 20 [vr a, vi f0, vi e, vo t, vi b, vi (i : Int)] [] M (fun r M' => ∃ x, r = some (vi x) ∧ M' = M ∧ (x = 0 ∨ x = 1) ∧ (x = 1 ↔ (e = f0 + n ∧ ∀ j, j < n → lt M a (f0 + j) = f j))) := by
    intro q
    induction q with
    | zero => exact fun i b hb e => step b i hb (by omega) (fun c => by omega)
    | succ q ih => exact fun i b hb e => step b i hb (by omega) (fun _ b' hb' => ih (i + 1) b' hb' (by omega))
  have go : ∀ b : Int, ((b = 1 ∧ e = f0 + n ∧ ∀ j, j < 0 → lt M a (f0 + j) = f j) ∨ (b = 0 ∧ ¬ (e = f0 + n ∧ ∀ j, j < n → lt M a (f0 + j) = f j))) → mWm G y_MM_is (d + 4) 15 [vr a, vi f0, vi e, vo t, vd, vd] [vi b] M (fun r M' => ∃ x, r = some (vi x) ∧ M' = M ∧ (x = 0 ∨ x = 1) ∧ (x = 1 ↔ (e = f0 + n ∧ ∀ j, j < n → lt M a (f0 + j) = f j))) := by
    intro b hb
    refine wm_istore d_MM_is_15 (by decide) (L' := [vr a, vi f0, vi e, vo t, vi b, vd]) rfl ?_
    refine wm_iconst d_MM_is_17 ?_
    refine wm_istore d_MM_is_18 (by decide) (L' := [vr a, vi f0, vi e, vo t, vi b, vi 0]) rfl ?_
    exact all n 0 b hb (by omega)
  refine wm_open (y := y_MM_is) rfl (Nat.le_of_ble_eq_true rfl) (L := [vr a, vi f0, vi e, vo t, vd, vd]) rfl ?_
  refine wm_iload_n d_MM_is_0 rfl rfl ?_
  refine wm_iload_n d_MM_is_1 rfl rfl ?_
  refine wm_isub d_MM_is_2 ?_
  refine wm_aldO_n d_MM_is_3 rfl rfl ?_
  refine wm_strLen (d := d + 2) hJ hs kt_lenM (Nat.le_of_ble_eq_true rfl) d_MM_is_4 ?_
  refine wm_icmp_ne (tgt := 14) d_MM_is_7 rfl ⟨by omega, by omega⟩ ⟨by omega, by omega⟩ (fun cn => ?_) (fun ce => ?_)
  · refine wm_iconst d_MM_is_14 ?_
    exact go 0 (Or.inr ⟨rfl, fun u => cn (by omega)⟩)
  · refine wm_iconst d_MM_is_10 ?_
    refine wm_goto (tgt := 15) d_MM_is_11 rfl ?_
    exact go 1 (Or.inl ⟨rfl, by omega, fun j hj => absurd hj (by omega)⟩)
theorem wk_test {f e : Nat} {tx : String} {l : List Int} {k tgt : Nat} {off : Int} (hJ : JD G) (hl : Lit G "ChanceArenaModel" k tx l) (hO : mOk M) (h : Wd M a) (hfe : f ≤ 16384 ∧ f < e ∧ e ≤ f + 40) (hel : (e : Int) ≤ ln M (mR M a 2)) (h0 : decode y_MM_wordKind.2.1 pc = .ok (.aload_n 0, 1)) (h1 : decode y_MM_wordKind.2.1 (pc + 1) = .ok (.iload_n 1, 1)) (h1' : decode y_MM_wordKind.2.1 (pc + 2) = .ok (.iload_n 2, 1)) (h2 : decode y_MM_wordKind.2.1 (pc + 3) = .ok (.ldc k, 2)) (h3 : decode y_MM_wordKind.2.1 (pc + 5) = .ok (.invokevirtual 178, 3)) (h4 : decode y_MM_wordKind.2.1 (pc + 8) = .ok (.ifCond .eq off, 3)) (ht : ((pc + 8 : Nat) : Int) + off = (tgt : Int)) (kt : wlq (nt M (mR M a 2)) f e ≠ l → mWm G y_MM_wordKind (d + 5) tgt [vr a, vi f, vi e] [] M Q) (kf : wlq (nt M (mR M a 2)) f e = l → mWm G y_MM_wordKind (d + 5) (pc + 11) [vr a, vi f, vi e] [] M Q) : mWm G y_MM_wordKind (d + 5) pc [vr a, vi f, vi e] [] M Q := by
  obtain ⟨t, hr, hs⟩ := hl
  refine wm_aload_n h0 rfl rfl ?_
  refine wm_iload_n h1 rfl rfl ?_
  refine wm_iload_n h1' rfl rfl ?_
  refine wm_ldcS rfl hr h2 ?_
  refine wm_callV (y2 := y_MM_is) (c := 13) (n := 3) (As := [vi f, vi e, vo t]) rfl rfl rfl kt_isL kt_isI ks_MM_is k1_14 kt_isC ⟨by decide, by decide, by decide +kernel⟩ (by decide) rfl rfl (Nat.le_of_ble_eq_true rfl) h3 h.1.1 ?_
  refine mCm.mono (s_MM_is (d := d) hJ hs hO h hfe) (fun r M' q => ?_)
  obtain ⟨x, rfl, rfl, hx, hi⟩ := q
  have hw : x = 1 ↔ wlq (nt M' (mR M' a 2)) f e = l := by
    rw [hi, wlq_eq]
    have g : ∀ j, j < l.length → e = f + l.length → lt M' a (f + j) = nt M' (mR M' a 2) (f + j) := fun j hj u => by
      unfold lt
      rw [if_pos (by omega)]
    exact ⟨fun u => ⟨by omega, fun j hj => by rw [← g j hj u.1]; exact u.2 j hj⟩, fun u => ⟨by omega, fun j hj => by rw [g j hj (by omega)]; exact u.2 j hj⟩⟩
  exact wm_if_eq h4 ht (by rcases hx with e | e <;> subst e <;> exact ⟨by decide, by decide⟩) (fun c => kt (fun u => absurd (hw.mpr u) (by omega))) (fun c => kf (hw.mp (by omega)))
theorem s_MM_wordKind {f e : Nat} (hJ : JD G) (hL : ∀ q, q ∈ litBM → Lit G "ChanceArenaModel" q.1 q.2.1 q.2.2) (hO : mOk M) (h : Wd M a) (hfe : f ≤ 16384 ∧ f < e ∧ e ≤ f + 40) (hel : (e : Int) ≤ ln M (mR M a 2)) : Ci G y_MM_wordKind (d + 5) [vr a, vi f, vi e] M (fun r M' => M' = M ∧ (1 ≤ r ∧ r ≤ 15 ∧ r ≠ 2) ∧ r = kwq (wlq (nt M (mR M a 2)) f e)) := by
  refine wm_open (y := y_MM_wordKind) rfl (Nat.le_of_ble_eq_true rfl) (L := [vr a, vi f, vi e]) rfl ?_
  refine (?_ : ∀ Q9 : Option mV → mM → Prop, (∀ x : Int, 1 ≤ x → x ≤ 15 → x ≠ 2 → x = kwq (wlq (nt M (mR M a 2)) f e) → Q9 (some (vi x)) M) → mWm G y_MM_wordKind (d + 5) 0 [vr a, vi f, vi e] [] M Q9) _ (fun x a b c e => ⟨x, rfl, rfl, ⟨a, b, c⟩, e⟩)
  intro Q9 hend
  have B115 : kwq (wlq (nt M (mR M a 2)) f e) = 3 → mWm G y_MM_wordKind (d + 5) 115 [vr a, vi f, vi e] [] M Q9 := fun ek => by
    refine wm_iconst d_MM_wordKind_115 ?_
    refine wm_goto (tgt := 120) d_MM_wordKind_116 rfl ?_
    refine wm_ireturn d_MM_wordKind_120 rfl rfl ?_
    exact hend _ (by decide) (by decide) (by decide) (Eq.trans (by decide) ek.symm)
  have B119 : kwq (wlq (nt M (mR M a 2)) f e) = 1 → mWm G y_MM_wordKind (d + 5) 119 [vr a, vi f, vi e] [] M Q9 := fun ek => by
    refine wm_iconst d_MM_wordKind_119 ?_
    refine wm_ireturn d_MM_wordKind_120 rfl rfl ?_
    exact hend _ (by decide) (by decide) (by decide) (Eq.trans (by decide) ek.symm)
  have B132 : kwq (wlq (nt M (mR M a 2)) f e) = 4 → mWm G y_MM_wordKind (d + 5) 132 [vr a, vi f, vi e] [] M Q9 := fun ek => by
    refine wm_iconst d_MM_wordKind_132 ?_
    refine wm_goto (tgt := 137) d_MM_wordKind_133 rfl ?_
    refine wm_ireturn d_MM_wordKind_137 rfl rfl ?_
    exact hend _ (by decide) (by decide) (by decide) (Eq.trans (by decide) ek.symm)
  have B136 : kwq (wlq (nt M (mR M a 2)) f e) = 1 → mWm G y_MM_wordKind (d + 5) 136 [vr a, vi f, vi e] [] M Q9 := fun ek => by
    refine wm_iconst d_MM_wordKind_136 ?_
    refine wm_ireturn d_MM_wordKind_137 rfl rfl ?_
    exact hend _ (by decide) (by decide) (by decide) (Eq.trans (by decide) ek.symm)
  have B149 : kwq (wlq (nt M (mR M a 2)) f e) = 5 → mWm G y_MM_wordKind (d + 5) 149 [vr a, vi f, vi e] [] M Q9 := fun ek => by
    refine wm_iconst d_MM_wordKind_149 ?_
    refine wm_goto (tgt := 154) d_MM_wordKind_150 rfl ?_
    refine wm_ireturn d_MM_wordKind_154 rfl rfl ?_
    exact hend _ (by decide) (by decide) (by decide) (Eq.trans (by decide) ek.symm)
  have B153 : kwq (wlq (nt M (mR M a 2)) f e) = 1 → mWm G y_MM_wordKind (d + 5) 153 [vr a, vi f, vi e] [] M Q9 := fun ek => by
    refine wm_iconst d_MM_wordKind_153 ?_
    refine wm_ireturn d_MM_wordKind_154 rfl rfl ?_
    exact hend _ (by decide) (by decide) (by decide) (Eq.trans (by decide) ek.symm)
  have B166 : kwq (wlq (nt M (mR M a 2)) f e) = 6 → mWm G y_MM_wordKind (d + 5) 166 [vr a, vi f, vi e] [] M Q9 := fun ek => by
    refine wm_bipush d_MM_wordKind_166 (by decide) ?_
    refine wm_goto (tgt := 188) d_MM_wordKind_168 rfl ?_
    refine wm_ireturn d_MM_wordKind_188 rfl rfl ?_
    exact hend _ (by decide) (by decide) (by decide) (Eq.trans (by decide) ek.symm)
  have B182 : kwq (wlq (nt M (mR M a 2)) f e) = 13 → mWm G y_MM_wordKind (d + 5) 182 [vr a, vi f, vi e] [] M Q9 := fun ek => by
    refine wm_bipush d_MM_wordKind_182 (by decide) ?_
    refine wm_goto (tgt := 188) d_MM_wordKind_184 rfl ?_
    refine wm_ireturn d_MM_wordKind_188 rfl rfl ?_
    exact hend _ (by decide) (by decide) (by decide) (Eq.trans (by decide) ek.symm)
  have B187 : kwq (wlq (nt M (mR M a 2)) f e) = 1 → mWm G y_MM_wordKind (d + 5) 187 [vr a, vi f, vi e] [] M Q9 := fun ek => by
    refine wm_iconst d_MM_wordKind_187 ?_
    refine wm_ireturn d_MM_wordKind_188 rfl rfl ?_
    exact hend _ (by decide) (by decide) (by decide) (Eq.trans (by decide) ek.symm)
  have B200 : kwq (wlq (nt M (mR M a 2)) f e) = 7 → mWm G y_MM_wordKind (d + 5) 200 [vr a, vi f, vi e] [] M Q9 := fun ek => by
    refine wm_bipush d_MM_wordKind_200 (by decide) ?_
    refine wm_goto (tgt := 238) d_MM_wordKind_202 rfl ?_
    refine wm_ireturn d_MM_wordKind_238 rfl rfl ?_
    exact hend _ (by decide) (by decide) (by decide) (Eq.trans (by decide) ek.symm)
  have B216 : kwq (wlq (nt M (mR M a 2)) f e) = 8 → mWm G y_MM_wordKind (d + 5) 216 [vr a, vi f, vi e] [] M Q9 := fun ek => by
    refine wm_bipush d_MM_wordKind_216 (by decide) ?_
    refine wm_goto (tgt := 238) d_MM_wordKind_218 rfl ?_
    refine wm_ireturn d_MM_wordKind_238 rfl rfl ?_
    exact hend _ (by decide) (by decide) (by decide) (Eq.trans (by decide) ek.symm)
  have B232 : kwq (wlq (nt M (mR M a 2)) f e) = 15 → mWm G y_MM_wordKind (d + 5) 232 [vr a, vi f, vi e] [] M Q9 := fun ek => by
    refine wm_bipush d_MM_wordKind_232 (by decide) ?_
    refine wm_goto (tgt := 238) d_MM_wordKind_234 rfl ?_
    refine wm_ireturn d_MM_wordKind_238 rfl rfl ?_
    exact hend _ (by decide) (by decide) (by decide) (Eq.trans (by decide) ek.symm)
  have B237 : kwq (wlq (nt M (mR M a 2)) f e) = 1 → mWm G y_MM_wordKind (d + 5) 237 [vr a, vi f, vi e] [] M Q9 := fun ek => by
    refine wm_iconst d_MM_wordKind_237 ?_
    refine wm_ireturn d_MM_wordKind_238 rfl rfl ?_
    exact hend _ (by decide) (by decide) (by decide) (Eq.trans (by decide) ek.symm)
  have B250 : kwq (wlq (nt M (mR M a 2)) f e) = 9 → mWm G y_MM_wordKind (d + 5) 250 [vr a, vi f, vi e] [] M Q9 := fun ek => by
    refine wm_bipush d_MM_wordKind_250 (by decide) ?_
    refine wm_goto (tgt := 256) d_MM_wordKind_252 rfl ?_
    refine wm_ireturn d_MM_wordKind_256 rfl rfl ?_
    exact hend _ (by decide) (by decide) (by decide) (Eq.trans (by decide) ek.symm)
  have B255 : kwq (wlq (nt M (mR M a 2)) f e) = 1 → mWm G y_MM_wordKind (d + 5) 255 [vr a, vi f, vi e] [] M Q9 := fun ek => by
    refine wm_iconst d_MM_wordKind_255 ?_
    refine wm_ireturn d_MM_wordKind_256 rfl rfl ?_
    exact hend _ (by decide) (by decide) (by decide) (Eq.trans (by decide) ek.symm)
  have B268 : kwq (wlq (nt M (mR M a 2)) f e) = 10 → mWm G y_MM_wordKind (d + 5) 268 [vr a, vi f, vi e] [] M Q9 := fun ek => by
    refine wm_bipush d_MM_wordKind_268 (by decide) ?_
    refine wm_goto (tgt := 274) d_MM_wordKind_270 rfl ?_
    refine wm_ireturn d_MM_wordKind_274 rfl rfl ?_
    exact hend _ (by decide) (by decide) (by decide) (Eq.trans (by decide) ek.symm)
  have B273 : kwq (wlq (nt M (mR M a 2)) f e) = 1 → mWm G y_MM_wordKind (d + 5) 273 [vr a, vi f, vi e] [] M Q9 := fun ek => by
    refine wm_iconst d_MM_wordKind_273 ?_
    refine wm_ireturn d_MM_wordKind_274 rfl rfl ?_
    exact hend _ (by decide) (by decide) (by decide) (Eq.trans (by decide) ek.symm)
  have B286 : kwq (wlq (nt M (mR M a 2)) f e) = 11 → mWm G y_MM_wordKind (d + 5) 286 [vr a, vi f, vi e] [] M Q9 := fun ek => by
    refine wm_bipush d_MM_wordKind_286 (by decide) ?_
    refine wm_goto (tgt := 308) d_MM_wordKind_288 rfl ?_
    refine wm_ireturn d_MM_wordKind_308 rfl rfl ?_
    exact hend _ (by decide) (by decide) (by decide) (Eq.trans (by decide) ek.symm)
  have B302 : kwq (wlq (nt M (mR M a 2)) f e) = 12 → mWm G y_MM_wordKind (d + 5) 302 [vr a, vi f, vi e] [] M Q9 := fun ek => by
    refine wm_bipush d_MM_wordKind_302 (by decide) ?_
    refine wm_goto (tgt := 308) d_MM_wordKind_304 rfl ?_
    refine wm_ireturn d_MM_wordKind_308 rfl rfl ?_
    exact hend _ (by decide) (by decide) (by decide) (Eq.trans (by decide) ek.symm)
  have B307 : kwq (wlq (nt M (mR M a 2)) f e) = 1 → mWm G y_MM_wordKind (d + 5) 307 [vr a, vi f, vi e] [] M Q9 := fun ek => by
    refine wm_iconst d_MM_wordKind_307 ?_
    refine wm_ireturn d_MM_wordKind_308 rfl rfl ?_
    exact hend _ (by decide) (by decide) (by decide) (Eq.trans (by decide) ek.symm)
  have B320 : kwq (wlq (nt M (mR M a 2)) f e) = 14 → mWm G y_MM_wordKind (d + 5) 320 [vr a, vi f, vi e] [] M Q9 := fun ek => by
    refine wm_bipush d_MM_wordKind_320 (by decide) ?_
    refine wm_goto (tgt := 326) d_MM_wordKind_322 rfl ?_
    refine wm_ireturn d_MM_wordKind_326 rfl rfl ?_
    exact hend _ (by decide) (by decide) (by decide) (Eq.trans (by decide) ek.symm)
  have B325 : kwq (wlq (nt M (mR M a 2)) f e) = 1 → mWm G y_MM_wordKind (d + 5) 325 [vr a, vi f, vi e] [] M Q9 := fun ek => by
    refine wm_iconst d_MM_wordKind_325 ?_
    refine wm_ireturn d_MM_wordKind_326 rfl rfl ?_
    exact hend _ (by decide) (by decide) (by decide) (Eq.trans (by decide) ek.symm)
  have B327 : kwq (wlq (nt M (mR M a 2)) f e) = 1 → mWm G y_MM_wordKind (d + 5) 327 [vr a, vi f, vi e] [] M Q9 := fun ek => by
    refine wm_iconst d_MM_wordKind_327 ?_
    refine wm_ireturn d_MM_wordKind_328 rfl rfl ?_
    exact hend _ (by decide) (by decide) (by decide) (Eq.trans (by decide) ek.symm)
  have B309 : (wlq (nt M (mR M a 2)) f e).head? = some 108 → mWm G y_MM_wordKind (d + 5) 309 [vr a, vi f, vi e] [] M Q9 := fun hh => wk_test (tgt := 325) hJ (hL (204, "least", [108, 101, 97, 115, 116]) (List.mem_of_getElem? (i := 12) rfl)) hO h hfe hel d_MM_wordKind_309 d_MM_wordKind_310 d_MM_wordKind_311 d_MM_wordKind_312 d_MM_wordKind_314 d_MM_wordKind_317 rfl (fun c => B325 (kw_none (wl_hd hh (by decide)) (wl_hd hh (by decide)) (wl_hd hh (by decide)) (wl_hd hh (by decide)) (wl_hd hh (by decide)) (wl_hd hh (by decide)) (wl_hd hh (by decide)) (wl_hd hh (by decide)) (wl_hd hh (by decide)) (wl_hd hh (by decide)) c (wl_hd hh (by decide)) (wl_hd hh (by decide)))) (fun c => B320 (by rw [c]; decide))
  have B291 : (wlq (nt M (mR M a 2)) f e).head? = some 116 → wlq (nt M (mR M a 2)) f e ≠ [116, 97, 114, 103, 101, 116] → mWm G y_MM_wordKind (d + 5) 291 [vr a, vi f, vi e] [] M Q9 := fun hh v11 => wk_test (tgt := 307) hJ (hL (202, "true", [116, 114, 117, 101]) (List.mem_of_getElem? (i := 11) rfl)) hO h hfe hel d_MM_wordKind_291 d_MM_wordKind_292 d_MM_wordKind_293 d_MM_wordKind_294 d_MM_wordKind_296 d_MM_wordKind_299 rfl (fun c => B307 (kw_none (wl_hd hh (by decide)) (wl_hd hh (by decide)) (wl_hd hh (by decide)) c (wl_hd hh (by decide)) (wl_hd hh (by decide)) (wl_hd hh (by decide)) (wl_hd hh (by decide)) (wl_hd hh (by decide)) (wl_hd hh (by decide)) (wl_hd hh (by decide)) v11 (wl_hd hh (by decide)))) (fun c => B302 (by rw [c]; decide))
  have B275 : (wlq (nt M (mR M a 2)) f e).head? = some 116 → mWm G y_MM_wordKind (d + 5) 275 [vr a, vi f, vi e] [] M Q9 := fun hh => wk_test (tgt := 291) hJ (hL (200, "target", [116, 97, 114, 103, 101, 116]) (List.mem_of_getElem? (i := 10) rfl)) hO h hfe hel d_MM_wordKind_275 d_MM_wordKind_276 d_MM_wordKind_277 d_MM_wordKind_278 d_MM_wordKind_280 d_MM_wordKind_283 rfl (fun c => B291 hh c) (fun c => B286 (by rw [c]; decide))
  have B257 : (wlq (nt M (mR M a 2)) f e).head? = some 115 → mWm G y_MM_wordKind (d + 5) 257 [vr a, vi f, vi e] [] M Q9 := fun hh => wk_test (tgt := 273) hJ (hL (198, "stay", [115, 116, 97, 121]) (List.mem_of_getElem? (i := 9) rfl)) hO h hfe hel d_MM_wordKind_257 d_MM_wordKind_258 d_MM_wordKind_259 d_MM_wordKind_260 d_MM_wordKind_262 d_MM_wordKind_265 rfl (fun c => B273 (kw_none (wl_hd hh (by decide)) (wl_hd hh (by decide)) (wl_hd hh (by decide)) (wl_hd hh (by decide)) c (wl_hd hh (by decide)) (wl_hd hh (by decide)) (wl_hd hh (by decide)) (wl_hd hh (by decide)) (wl_hd hh (by decide)) (wl_hd hh (by decide)) (wl_hd hh (by decide)) (wl_hd hh (by decide)))) (fun c => B268 (by rw [c]; decide))
  have B239 : (wlq (nt M (mR M a 2)) f e).head? = some 105 → mWm G y_MM_wordKind (d + 5) 239 [vr a, vi f, vi e] [] M Q9 := fun hh => wk_test (tgt := 255) hJ (hL (196, "init", [105, 110, 105, 116]) (List.mem_of_getElem? (i := 8) rfl)) hO h hfe hel d_MM_wordKind_239 d_MM_wordKind_240 d_MM_wordKind_241 d_MM_wordKind_242 d_MM_wordKind_244 d_MM_wordKind_247 rfl (fun c => B255 (kw_none (wl_hd hh (by decide)) (wl_hd hh (by decide)) (wl_hd hh (by decide)) (wl_hd hh (by decide)) (wl_hd hh (by decide)) (wl_hd hh (by decide)) c (wl_hd hh (by decide)) (wl_hd hh (by decide)) (wl_hd hh (by decide)) (wl_hd hh (by decide)) (wl_hd hh (by decide)) (wl_hd hh (by decide)))) (fun c => B250 (by rw [c]; decide))
  have B221 : (wlq (nt M (mR M a 2)) f e).head? = some 109 → wlq (nt M (mR M a 2)) f e ≠ [109, 97, 120] → wlq (nt M (mR M a 2)) f e ≠ [109, 105, 110] → mWm G y_MM_wordKind (d + 5) 221 [vr a, vi f, vi e] [] M Q9 := fun hh v1 v2 => wk_test (tgt := 237) hJ (hL (194, "most", [109, 111, 115, 116]) (List.mem_of_getElem? (i := 7) rfl)) hO h hfe hel d_MM_wordKind_221 d_MM_wordKind_222 d_MM_wordKind_223 d_MM_wordKind_224 d_MM_wordKind_226 d_MM_wordKind_229 rfl (fun c => B237 (kw_none (wl_hd hh (by decide)) v1 v2 (wl_hd hh (by decide)) (wl_hd hh (by decide)) (wl_hd hh (by decide)) (wl_hd hh (by decide)) c (wl_hd hh (by decide)) (wl_hd hh (by decide)) (wl_hd hh (by decide)) (wl_hd hh (by decide)) (wl_hd hh (by decide)))) (fun c => B232 (by rw [c]; decide))
  have B205 : (wlq (nt M (mR M a 2)) f e).head? = some 109 → wlq (nt M (mR M a 2)) f e ≠ [109, 97, 120] → mWm G y_MM_wordKind (d + 5) 205 [vr a, vi f, vi e] [] M Q9 := fun hh v1 => wk_test (tgt := 221) hJ (hL (192, "min", [109, 105, 110]) (List.mem_of_getElem? (i := 6) rfl)) hO h hfe hel d_MM_wordKind_205 d_MM_wordKind_206 d_MM_wordKind_207 d_MM_wordKind_208 d_MM_wordKind_210 d_MM_wordKind_213 rfl (fun c => B221 hh v1 c) (fun c => B216 (by rw [c]; decide))
  have B189 : (wlq (nt M (mR M a 2)) f e).head? = some 109 → mWm G y_MM_wordKind (d + 5) 189 [vr a, vi f, vi e] [] M Q9 := fun hh => wk_test (tgt := 205) hJ (hL (190, "max", [109, 97, 120]) (List.mem_of_getElem? (i := 5) rfl)) hO h hfe hel d_MM_wordKind_189 d_MM_wordKind_190 d_MM_wordKind_191 d_MM_wordKind_192 d_MM_wordKind_194 d_MM_wordKind_197 rfl (fun c => B205 hh c) (fun c => B200 (by rw [c]; decide))
  have B171 : (wlq (nt M (mR M a 2)) f e).head? = some 102 → wlq (nt M (mR M a 2)) f e ≠ [102, 111, 114, 109, 117, 108, 97] → mWm G y_MM_wordKind (d + 5) 171 [vr a, vi f, vi e] [] M Q9 := fun hh v12 => wk_test (tgt := 187) hJ (hL (188, "false", [102, 97, 108, 115, 101]) (List.mem_of_getElem? (i := 4) rfl)) hO h hfe hel d_MM_wordKind_171 d_MM_wordKind_172 d_MM_wordKind_173 d_MM_wordKind_174 d_MM_wordKind_176 d_MM_wordKind_179 rfl (fun c => B187 (kw_none (wl_hd hh (by decide)) (wl_hd hh (by decide)) (wl_hd hh (by decide)) (wl_hd hh (by decide)) (wl_hd hh (by decide)) (wl_hd hh (by decide)) (wl_hd hh (by decide)) (wl_hd hh (by decide)) (wl_hd hh (by decide)) c (wl_hd hh (by decide)) (wl_hd hh (by decide)) v12)) (fun c => B182 (by rw [c]; decide))
  have B155 : (wlq (nt M (mR M a 2)) f e).head? = some 102 → mWm G y_MM_wordKind (d + 5) 155 [vr a, vi f, vi e] [] M Q9 := fun hh => wk_test (tgt := 171) hJ (hL (186, "formula", [102, 111, 114, 109, 117, 108, 97]) (List.mem_of_getElem? (i := 3) rfl)) hO h hfe hel d_MM_wordKind_155 d_MM_wordKind_156 d_MM_wordKind_157 d_MM_wordKind_158 d_MM_wordKind_160 d_MM_wordKind_163 rfl (fun c => B171 hh c) (fun c => B166 (by rw [c]; decide))
  have B138 : (wlq (nt M (mR M a 2)) f e).head? = some 98 → mWm G y_MM_wordKind (d + 5) 138 [vr a, vi f, vi e] [] M Q9 := fun hh => wk_test (tgt := 153) hJ (hL (184, "bool", [98, 111, 111, 108]) (List.mem_of_getElem? (i := 2) rfl)) hO h hfe hel d_MM_wordKind_138 d_MM_wordKind_139 d_MM_wordKind_140 d_MM_wordKind_141 d_MM_wordKind_143 d_MM_wordKind_146 rfl (fun c => B153 (kw_none (wl_hd hh (by decide)) (wl_hd hh (by decide)) (wl_hd hh (by decide)) (wl_hd hh (by decide)) (wl_hd hh (by decide)) c (wl_hd hh (by decide)) (wl_hd hh (by decide)) (wl_hd hh (by decide)) (wl_hd hh (by decide)) (wl_hd hh (by decide)) (wl_hd hh (by decide)) (wl_hd hh (by decide)))) (fun c => B149 (by rw [c]; decide))
  have B121 : (wlq (nt M (mR M a 2)) f e).head? = some 118 → mWm G y_MM_wordKind (d + 5) 121 [vr a, vi f, vi e] [] M Q9 := fun hh => wk_test (tgt := 136) hJ (hL (182, "var", [118, 97, 114]) (List.mem_of_getElem? (i := 1) rfl)) hO h hfe hel d_MM_wordKind_121 d_MM_wordKind_122 d_MM_wordKind_123 d_MM_wordKind_124 d_MM_wordKind_126 d_MM_wordKind_129 rfl (fun c => B136 (kw_none c (wl_hd hh (by decide)) (wl_hd hh (by decide)) (wl_hd hh (by decide)) (wl_hd hh (by decide)) (wl_hd hh (by decide)) (wl_hd hh (by decide)) (wl_hd hh (by decide)) (wl_hd hh (by decide)) (wl_hd hh (by decide)) (wl_hd hh (by decide)) (wl_hd hh (by decide)) (wl_hd hh (by decide)))) (fun c => B132 (by rw [c]; decide))
  have B104 : (wlq (nt M (mR M a 2)) f e).head? = some 99 → mWm G y_MM_wordKind (d + 5) 104 [vr a, vi f, vi e] [] M Q9 := fun hh => wk_test (tgt := 119) hJ (hL (176, "const", [99, 111, 110, 115, 116]) (List.mem_of_getElem? (i := 0) rfl)) hO h hfe hel d_MM_wordKind_104 d_MM_wordKind_105 d_MM_wordKind_106 d_MM_wordKind_107 d_MM_wordKind_109 d_MM_wordKind_112 rfl (fun c => B119 (kw_none (wl_hd hh (by decide)) (wl_hd hh (by decide)) (wl_hd hh (by decide)) (wl_hd hh (by decide)) (wl_hd hh (by decide)) (wl_hd hh (by decide)) (wl_hd hh (by decide)) (wl_hd hh (by decide)) c (wl_hd hh (by decide)) (wl_hd hh (by decide)) (wl_hd hh (by decide)) (wl_hd hh (by decide)))) (fun c => B115 (by rw [c]; decide))
  refine wm_aload_n d_MM_wordKind_0 rfl rfl ?_
  refine wm_iload_n d_MM_wordKind_1 rfl rfl ?_
  refine cf_MM_159 rfl d_MM_wordKind_2 h.1.1 (Nat.le_of_ble_eq_true rfl) ?_
  refine (s_MM_letter (d := d + 3) (by omega) hO h).mono (fun x M' q => ?_)
  obtain ⟨eM, hx⟩ := q
  have ix : i32 x := by rw [hx]; exact lt_i32 hO
  rw [eM]
  have hh : (wlq (nt M (mR M a 2)) f e).head? = some x := by
    rw [wlq_hd hfe.2.1, hx]
    unfold lt
    rw [if_pos (by omega)]
  clear hx
  by_cases c : x < 98 ∨ 118 < x
  · exact wm_tableOut (tgt := 327) d_MM_wordKind_5 ix c rfl (B327 (kw_none (wl_hd hh (by intro u; have u : (118 : Int) = x := Option.some.inj u; omega)) (wl_hd hh (by intro u; have u : (109 : Int) = x := Option.some.inj u; omega)) (wl_hd hh (by intro u; have u : (109 : Int) = x := Option.some.inj u; omega)) (wl_hd hh (by intro u; have u : (116 : Int) = x := Option.some.inj u; omega)) (wl_hd hh (by intro u; have u : (115 : Int) = x := Option.some.inj u; omega)) (wl_hd hh (by intro u; have u : (98 : Int) = x := Option.some.inj u; omega)) (wl_hd hh (by intro u; have u : (105 : Int) = x := Option.some.inj u; omega)) (wl_hd hh (by intro u; have u : (109 : Int) = x := Option.some.inj u; omega)) (wl_hd hh (by intro u; have u : (99 : Int) = x := Option.some.inj u; omega)) (wl_hd hh (by intro u; have u : (102 : Int) = x := Option.some.inj u; omega)) (wl_hd hh (by intro u; have u : (108 : Int) = x := Option.some.inj u; omega)) (wl_hd hh (by intro u; have u : (116 : Int) = x := Option.some.inj u; omega)) (wl_hd hh (by intro u; have u : (102 : Int) = x := Option.some.inj u; omega))))
  · have c5 : x = 98 ∨ x = 99 ∨ x = 100 ∨ x = 101 ∨ x = 102 ∨ x = 103 ∨ x = 104 ∨ x = 105 ∨ x = 106 ∨ x = 107 ∨ x = 108 ∨ x = 109 ∨ x = 110 ∨ x = 111 ∨ x = 112 ∨ x = 113 ∨ x = 114 ∨ x = 115 ∨ x = 116 ∨ x = 117 ∨ x = 118 := by omega
    rcases c5 with rfl | rfl | rfl | rfl | rfl | rfl | rfl | rfl | rfl | rfl | rfl | rfl | rfl | rfl | rfl | rfl | rfl | rfl | rfl | rfl | rfl
    · exact wm_tableIn (tgt := 138) (off := 133) d_MM_wordKind_5 ix (by decide) (by decide) rfl rfl (B138 hh)
    · exact wm_tableIn (tgt := 104) (off := 99) d_MM_wordKind_5 ix (by decide) (by decide) rfl rfl (B104 hh)
    · exact wm_tableIn (tgt := 327) (off := 322) d_MM_wordKind_5 ix (by decide) (by decide) rfl rfl (B327 (kw_none (wl_hd hh (by decide)) (wl_hd hh (by decide)) (wl_hd hh (by decide)) (wl_hd hh (by decide)) (wl_hd hh (by decide)) (wl_hd hh (by decide)) (wl_hd hh (by decide)) (wl_hd hh (by decide)) (wl_hd hh (by decide)) (wl_hd hh (by decide)) (wl_hd hh (by decide)) (wl_hd hh (by decide)) (wl_hd hh (by decide))))
    · exact wm_tableIn (tgt := 327) (off := 322) d_MM_wordKind_5 ix (by decide) (by decide) rfl rfl (B327 (kw_none (wl_hd hh (by decide)) (wl_hd hh (by decide)) (wl_hd hh (by decide)) (wl_hd hh (by decide)) (wl_hd hh (by decide)) (wl_hd hh (by decide)) (wl_hd hh (by decide)) (wl_hd hh (by decide)) (wl_hd hh (by decide)) (wl_hd hh (by decide)) (wl_hd hh (by decide)) (wl_hd hh (by decide)) (wl_hd hh (by decide))))
    · exact wm_tableIn (tgt := 155) (off := 150) d_MM_wordKind_5 ix (by decide) (by decide) rfl rfl (B155 hh)
    · exact wm_tableIn (tgt := 327) (off := 322) d_MM_wordKind_5 ix (by decide) (by decide) rfl rfl (B327 (kw_none (wl_hd hh (by decide)) (wl_hd hh (by decide)) (wl_hd hh (by decide)) (wl_hd hh (by decide)) (wl_hd hh (by decide)) (wl_hd hh (by decide)) (wl_hd hh (by decide)) (wl_hd hh (by decide)) (wl_hd hh (by decide)) (wl_hd hh (by decide)) (wl_hd hh (by decide)) (wl_hd hh (by decide)) (wl_hd hh (by decide))))
    · exact wm_tableIn (tgt := 327) (off := 322) d_MM_wordKind_5 ix (by decide) (by decide) rfl rfl (B327 (kw_none (wl_hd hh (by decide)) (wl_hd hh (by decide)) (wl_hd hh (by decide)) (wl_hd hh (by decide)) (wl_hd hh (by decide)) (wl_hd hh (by decide)) (wl_hd hh (by decide)) (wl_hd hh (by decide)) (wl_hd hh (by decide)) (wl_hd hh (by decide)) (wl_hd hh (by decide)) (wl_hd hh (by decide)) (wl_hd hh (by decide))))
    · exact wm_tableIn (tgt := 239) (off := 234) d_MM_wordKind_5 ix (by decide) (by decide) rfl rfl (B239 hh)
    · exact wm_tableIn (tgt := 327) (off := 322) d_MM_wordKind_5 ix (by decide) (by decide) rfl rfl (B327 (kw_none (wl_hd hh (by decide)) (wl_hd hh (by decide)) (wl_hd hh (by decide)) (wl_hd hh (by decide)) (wl_hd hh (by decide)) (wl_hd hh (by decide)) (wl_hd hh (by decide)) (wl_hd hh (by decide)) (wl_hd hh (by decide)) (wl_hd hh (by decide)) (wl_hd hh (by decide)) (wl_hd hh (by decide)) (wl_hd hh (by decide))))
    · exact wm_tableIn (tgt := 327) (off := 322) d_MM_wordKind_5 ix (by decide) (by decide) rfl rfl (B327 (kw_none (wl_hd hh (by decide)) (wl_hd hh (by decide)) (wl_hd hh (by decide)) (wl_hd hh (by decide)) (wl_hd hh (by decide)) (wl_hd hh (by decide)) (wl_hd hh (by decide)) (wl_hd hh (by decide)) (wl_hd hh (by decide)) (wl_hd hh (by decide)) (wl_hd hh (by decide)) (wl_hd hh (by decide)) (wl_hd hh (by decide))))
    · exact wm_tableIn (tgt := 309) (off := 304) d_MM_wordKind_5 ix (by decide) (by decide) rfl rfl (B309 hh)
    · exact wm_tableIn (tgt := 189) (off := 184) d_MM_wordKind_5 ix (by decide) (by decide) rfl rfl (B189 hh)
    · exact wm_tableIn (tgt := 327) (off := 322) d_MM_wordKind_5 ix (by decide) (by decide) rfl rfl (B327 (kw_none (wl_hd hh (by decide)) (wl_hd hh (by decide)) (wl_hd hh (by decide)) (wl_hd hh (by decide)) (wl_hd hh (by decide)) (wl_hd hh (by decide)) (wl_hd hh (by decide)) (wl_hd hh (by decide)) (wl_hd hh (by decide)) (wl_hd hh (by decide)) (wl_hd hh (by decide)) (wl_hd hh (by decide)) (wl_hd hh (by decide))))
    · exact wm_tableIn (tgt := 327) (off := 322) d_MM_wordKind_5 ix (by decide) (by decide) rfl rfl (B327 (kw_none (wl_hd hh (by decide)) (wl_hd hh (by decide)) (wl_hd hh (by decide)) (wl_hd hh (by decide)) (wl_hd hh (by decide)) (wl_hd hh (by decide)) (wl_hd hh (by decide)) (wl_hd hh (by decide)) (wl_hd hh (by decide)) (wl_hd hh (by decide)) (wl_hd hh (by decide)) (wl_hd hh (by decide)) (wl_hd hh (by decide))))
    · exact wm_tableIn (tgt := 327) (off := 322) d_MM_wordKind_5 ix (by decide) (by decide) rfl rfl (B327 (kw_none (wl_hd hh (by decide)) (wl_hd hh (by decide)) (wl_hd hh (by decide)) (wl_hd hh (by decide)) (wl_hd hh (by decide)) (wl_hd hh (by decide)) (wl_hd hh (by decide)) (wl_hd hh (by decide)) (wl_hd hh (by decide)) (wl_hd hh (by decide)) (wl_hd hh (by decide)) (wl_hd hh (by decide)) (wl_hd hh (by decide))))
    · exact wm_tableIn (tgt := 327) (off := 322) d_MM_wordKind_5 ix (by decide) (by decide) rfl rfl (B327 (kw_none (wl_hd hh (by decide)) (wl_hd hh (by decide)) (wl_hd hh (by decide)) (wl_hd hh (by decide)) (wl_hd hh (by decide)) (wl_hd hh (by decide)) (wl_hd hh (by decide)) (wl_hd hh (by decide)) (wl_hd hh (by decide)) (wl_hd hh (by decide)) (wl_hd hh (by decide)) (wl_hd hh (by decide)) (wl_hd hh (by decide))))
    · exact wm_tableIn (tgt := 327) (off := 322) d_MM_wordKind_5 ix (by decide) (by decide) rfl rfl (B327 (kw_none (wl_hd hh (by decide)) (wl_hd hh (by decide)) (wl_hd hh (by decide)) (wl_hd hh (by decide)) (wl_hd hh (by decide)) (wl_hd hh (by decide)) (wl_hd hh (by decide)) (wl_hd hh (by decide)) (wl_hd hh (by decide)) (wl_hd hh (by decide)) (wl_hd hh (by decide)) (wl_hd hh (by decide)) (wl_hd hh (by decide))))
    · exact wm_tableIn (tgt := 257) (off := 252) d_MM_wordKind_5 ix (by decide) (by decide) rfl rfl (B257 hh)
    · exact wm_tableIn (tgt := 275) (off := 270) d_MM_wordKind_5 ix (by decide) (by decide) rfl rfl (B275 hh)
    · exact wm_tableIn (tgt := 327) (off := 322) d_MM_wordKind_5 ix (by decide) (by decide) rfl rfl (B327 (kw_none (wl_hd hh (by decide)) (wl_hd hh (by decide)) (wl_hd hh (by decide)) (wl_hd hh (by decide)) (wl_hd hh (by decide)) (wl_hd hh (by decide)) (wl_hd hh (by decide)) (wl_hd hh (by decide)) (wl_hd hh (by decide)) (wl_hd hh (by decide)) (wl_hd hh (by decide)) (wl_hd hh (by decide)) (wl_hd hh (by decide))))
    · exact wm_tableIn (tgt := 121) (off := 116) d_MM_wordKind_5 ix (by decide) (by decide) rfl rfl (B121 hh)
end NAM
theorem WKs.of {G : mG} (h : LT G) : WKs G := fun d a f e M hO hw h1 h2 h3 h4 => (s_MM_wordKind h.1 h.2.2 hO hw ⟨by omega, h1, h3⟩ h2).mono (fun _ _ q => ⟨q.1, q.2.1⟩)
theorem NSs.of {G : mG} (h : LT G) : NSs G := fun d w T A B D N C p n M hO hw h1 h2 h3 => (s_Wo_nameSort h.1 h.2.1 hO hw h1 h3).mono (fun _ _ q => ⟨q.1, q.2.1⟩)
