/-! The names that are words of the language: nameSort and wordKind. -/
theorem kt_spL : (Jvm.Cond.methodLink "ChanceArena$Words" (74 : Nat) ({ cls := "ChanceArena$Words", name := "spells", desc := "(ILjava/lang/String;)Z" } : Jvm.MethodName)) ∈ lw_R := zR (zk_4 _ (List.mem_of_getElem? (i := 43) rfl)) rfl
theorem kt_spI : (Jvm.Cond.instanceMethod ({ cls := "ChanceArena$Words", name := "spells", desc := "(ILjava/lang/String;)Z" } : Jvm.MethodName)) ∈ lw_R := zR (zk_4 _ (List.mem_of_getElem? (i := 45) rfl)) rfl
theorem kt_spC : (Jvm.Cond.code ({ cls := "ChanceArena$Words", name := "spells", desc := "(ILjava/lang/String;)Z" } : Jvm.MethodName) prog_13_method_14_code (4 : Nat) (Option.some Jvm.ClassFile.FieldType.boolean)) ∈ lw_R := zR (zk_4 _ (List.mem_of_getElem? (i := 46) rfl)) rfl
theorem kt_isL : (Jvm.Cond.methodLink "ChanceArenaModel" (178 : Nat) ({ cls := "ChanceArenaModel", name := "is", desc := "(IILjava/lang/String;)Z" } : Jvm.MethodName)) ∈ lw_R := zR (zk_11 _ (List.mem_of_getElem? (i := 4) rfl)) rfl
theorem kt_isI : (Jvm.Cond.instanceMethod ({ cls := "ChanceArenaModel", name := "is", desc := "(IILjava/lang/String;)Z" } : Jvm.MethodName)) ∈ lw_R := zR (zk_11 _ (List.mem_of_getElem? (i := 6) rfl)) rfl
theorem kt_isC : (Jvm.Cond.code ({ cls := "ChanceArenaModel", name := "is", desc := "(IILjava/lang/String;)Z" } : Jvm.MethodName) prog_15_method_11_code (6 : Nat) (Option.some Jvm.ClassFile.FieldType.boolean)) ∈ lw_R := zR (zk_11 _ (List.mem_of_getElem? (i := 7) rfl)) rfl
theorem ks_Wo_spells : Cond.selects "ChanceArena$Words" y_Wo_spells.1 y_Wo_spells.1 ∈ lw_R := zR (List.mem_append_left _ (List.mem_of_getElem? (i := 7) rfl)) rfl
theorem ks_MM_is : Cond.selects "ChanceArenaModel" y_MM_is.1 y_MM_is.1 ∈ lw_R := zR (List.mem_append_left _ (List.mem_of_getElem? (i := 79) rfl)) rfl
theorem d_Wo_spells_0 : decode y_Wo_spells.2.1 0 = .ok (.iconst 0, 1) := by decide +kernel
theorem d_Wo_spells_1 : decode y_Wo_spells.2.1 1 = .ok (.istore_n 3, 1) := by decide +kernel
theorem d_Wo_spells_2 : decode y_Wo_spells.2.1 2 = .ok (.iload_n 3, 1) := by decide +kernel
theorem d_Wo_spells_3 : decode y_Wo_spells.2.1 3 = .ok (.aload_n 2, 1) := by decide +kernel
theorem d_Wo_spells_4 : decode y_Wo_spells.2.1 4 = .ok (.invokevirtual 102, 3) := by decide +kernel
theorem d_Wo_spells_7 : decode y_Wo_spells.2.1 7 = .ok (.if_icmp .ge 27, 3) := by decide +kernel
theorem d_Wo_spells_10 : decode y_Wo_spells.2.1 10 = .ok (.aload_n 0, 1) := by decide +kernel
theorem d_Wo_spells_11 : decode y_Wo_spells.2.1 11 = .ok (.getfield 9, 3) := by decide +kernel
theorem d_Wo_spells_14 : decode y_Wo_spells.2.1 14 = .ok (.iload_n 1, 1) := by decide +kernel
theorem d_Wo_spells_15 : decode y_Wo_spells.2.1 15 = .ok (.iload_n 3, 1) := by decide +kernel
theorem d_Wo_spells_16 : decode y_Wo_spells.2.1 16 = .ok (.iadd, 1) := by decide +kernel
theorem d_Wo_spells_17 : decode y_Wo_spells.2.1 17 = .ok (.caload, 1) := by decide +kernel
theorem d_Wo_spells_18 : decode y_Wo_spells.2.1 18 = .ok (.aload_n 2, 1) := by decide +kernel
theorem d_Wo_spells_19 : decode y_Wo_spells.2.1 19 = .ok (.iload_n 3, 1) := by decide +kernel
theorem d_Wo_spells_20 : decode y_Wo_spells.2.1 20 = .ok (.invokevirtual 107, 3) := by decide +kernel
theorem d_Wo_spells_23 : decode y_Wo_spells.2.1 23 = .ok (.if_icmp .eq 5, 3) := by decide +kernel
theorem d_Wo_spells_26 : decode y_Wo_spells.2.1 26 = .ok (.iconst 0, 1) := by decide +kernel
theorem d_Wo_spells_27 : decode y_Wo_spells.2.1 27 = .ok (.ireturn, 1) := by decide +kernel
theorem d_Wo_spells_28 : decode y_Wo_spells.2.1 28 = .ok (.iinc 3 1, 3) := by decide +kernel
theorem d_Wo_spells_31 : decode y_Wo_spells.2.1 31 = .ok (.goto (-29), 3) := by decide +kernel
theorem d_Wo_spells_34 : decode y_Wo_spells.2.1 34 = .ok (.iconst 1, 1) := by decide +kernel
theorem d_Wo_spells_35 : decode y_Wo_spells.2.1 35 = .ok (.ireturn, 1) := by decide +kernel
theorem d_Wo_nameSort_0 : decode y_Wo_nameSort.2.1 0 = .ok (.iload_n 2, 1) := by decide +kernel
theorem d_Wo_nameSort_1 : decode y_Wo_nameSort.2.1 1 = .ok (.tableswitch 238 3 7 #[35, 81, 158, 204, 221], 35) := by decide +kernel
theorem d_Wo_nameSort_36 : decode y_Wo_nameSort.2.1 36 = .ok (.aload_n 0, 1) := by decide +kernel
theorem d_Wo_nameSort_37 : decode y_Wo_nameSort.2.1 37 = .ok (.iload_n 1, 1) := by decide +kernel
theorem d_Wo_nameSort_38 : decode y_Wo_nameSort.2.1 38 = .ok (.ldc 72, 2) := by decide +kernel
theorem d_Wo_nameSort_40 : decode y_Wo_nameSort.2.1 40 = .ok (.invokevirtual 74, 3) := by decide +kernel
theorem d_Wo_nameSort_43 : decode y_Wo_nameSort.2.1 43 = .ok (.ifCond .eq 7, 3) := by decide +kernel
theorem d_Wo_nameSort_46 : decode y_Wo_nameSort.2.1 46 = .ok (.iconst 5, 1) := by decide +kernel
theorem d_Wo_nameSort_47 : decode y_Wo_nameSort.2.1 47 = .ok (.goto 34, 3) := by decide +kernel
theorem d_Wo_nameSort_50 : decode y_Wo_nameSort.2.1 50 = .ok (.aload_n 0, 1) := by decide +kernel
theorem d_Wo_nameSort_51 : decode y_Wo_nameSort.2.1 51 = .ok (.iload_n 1, 1) := by decide +kernel
theorem d_Wo_nameSort_52 : decode y_Wo_nameSort.2.1 52 = .ok (.ldc 78, 2) := by decide +kernel
theorem d_Wo_nameSort_54 : decode y_Wo_nameSort.2.1 54 = .ok (.invokevirtual 74, 3) := by decide +kernel
theorem d_Wo_nameSort_57 : decode y_Wo_nameSort.2.1 57 = .ok (.ifCond .eq 8, 3) := by decide +kernel
theorem d_Wo_nameSort_60 : decode y_Wo_nameSort.2.1 60 = .ok (.bipush 8, 2) := by decide +kernel
theorem d_Wo_nameSort_62 : decode y_Wo_nameSort.2.1 62 = .ok (.goto 19, 3) := by decide +kernel
theorem d_Wo_nameSort_65 : decode y_Wo_nameSort.2.1 65 = .ok (.aload_n 0, 1) := by decide +kernel
theorem d_Wo_nameSort_66 : decode y_Wo_nameSort.2.1 66 = .ok (.iload_n 1, 1) := by decide +kernel
theorem d_Wo_nameSort_67 : decode y_Wo_nameSort.2.1 67 = .ok (.ldc 80, 2) := by decide +kernel
theorem d_Wo_nameSort_69 : decode y_Wo_nameSort.2.1 69 = .ok (.invokevirtual 74, 3) := by decide +kernel
theorem d_Wo_nameSort_72 : decode y_Wo_nameSort.2.1 72 = .ok (.ifCond .eq 8, 3) := by decide +kernel
theorem d_Wo_nameSort_75 : decode y_Wo_nameSort.2.1 75 = .ok (.bipush 9, 2) := by decide +kernel
theorem d_Wo_nameSort_77 : decode y_Wo_nameSort.2.1 77 = .ok (.goto 4, 3) := by decide +kernel
theorem d_Wo_nameSort_80 : decode y_Wo_nameSort.2.1 80 = .ok (.iconst 2, 1) := by decide +kernel
theorem d_Wo_nameSort_81 : decode y_Wo_nameSort.2.1 81 = .ok (.ireturn, 1) := by decide +kernel
theorem d_Wo_nameSort_82 : decode y_Wo_nameSort.2.1 82 = .ok (.aload_n 0, 1) := by decide +kernel
theorem d_Wo_nameSort_83 : decode y_Wo_nameSort.2.1 83 = .ok (.iload_n 1, 1) := by decide +kernel
theorem d_Wo_nameSort_84 : decode y_Wo_nameSort.2.1 84 = .ok (.ldc 82, 2) := by decide +kernel
theorem d_Wo_nameSort_86 : decode y_Wo_nameSort.2.1 86 = .ok (.invokevirtual 74, 3) := by decide +kernel
theorem d_Wo_nameSort_89 : decode y_Wo_nameSort.2.1 89 = .ok (.ifCond .eq 8, 3) := by decide +kernel
theorem d_Wo_nameSort_92 : decode y_Wo_nameSort.2.1 92 = .ok (.bipush 13, 2) := by decide +kernel
theorem d_Wo_nameSort_94 : decode y_Wo_nameSort.2.1 94 = .ok (.goto 64, 3) := by decide +kernel
theorem d_Wo_nameSort_97 : decode y_Wo_nameSort.2.1 97 = .ok (.aload_n 0, 1) := by decide +kernel
theorem d_Wo_nameSort_98 : decode y_Wo_nameSort.2.1 98 = .ok (.iload_n 1, 1) := by decide +kernel
theorem d_Wo_nameSort_99 : decode y_Wo_nameSort.2.1 99 = .ok (.ldc 84, 2) := by decide +kernel
theorem d_Wo_nameSort_101 : decode y_Wo_nameSort.2.1 101 = .ok (.invokevirtual 74, 3) := by decide +kernel
theorem d_Wo_nameSort_104 : decode y_Wo_nameSort.2.1 104 = .ok (.ifCond .eq 8, 3) := by decide +kernel
theorem d_Wo_nameSort_107 : decode y_Wo_nameSort.2.1 107 = .ok (.bipush 11, 2) := by decide +kernel
theorem d_Wo_nameSort_109 : decode y_Wo_nameSort.2.1 109 = .ok (.goto 49, 3) := by decide +kernel
theorem d_Wo_nameSort_112 : decode y_Wo_nameSort.2.1 112 = .ok (.aload_n 0, 1) := by decide +kernel
theorem d_Wo_nameSort_113 : decode y_Wo_nameSort.2.1 113 = .ok (.iload_n 1, 1) := by decide +kernel
theorem d_Wo_nameSort_114 : decode y_Wo_nameSort.2.1 114 = .ok (.ldc 86, 2) := by decide +kernel
theorem d_Wo_nameSort_116 : decode y_Wo_nameSort.2.1 116 = .ok (.invokevirtual 74, 3) := by decide +kernel
theorem d_Wo_nameSort_119 : decode y_Wo_nameSort.2.1 119 = .ok (.ifCond .eq 8, 3) := by decide +kernel
theorem d_Wo_nameSort_122 : decode y_Wo_nameSort.2.1 122 = .ok (.bipush 6, 2) := by decide +kernel
theorem d_Wo_nameSort_124 : decode y_Wo_nameSort.2.1 124 = .ok (.goto 34, 3) := by decide +kernel
theorem d_Wo_nameSort_127 : decode y_Wo_nameSort.2.1 127 = .ok (.aload_n 0, 1) := by decide +kernel
theorem d_Wo_nameSort_128 : decode y_Wo_nameSort.2.1 128 = .ok (.iload_n 1, 1) := by decide +kernel
theorem d_Wo_nameSort_129 : decode y_Wo_nameSort.2.1 129 = .ok (.ldc 88, 2) := by decide +kernel
theorem d_Wo_nameSort_131 : decode y_Wo_nameSort.2.1 131 = .ok (.invokevirtual 74, 3) := by decide +kernel
theorem d_Wo_nameSort_134 : decode y_Wo_nameSort.2.1 134 = .ok (.ifCond .eq 8, 3) := by decide +kernel
theorem d_Wo_nameSort_137 : decode y_Wo_nameSort.2.1 137 = .ok (.bipush 10, 2) := by decide +kernel
theorem d_Wo_nameSort_139 : decode y_Wo_nameSort.2.1 139 = .ok (.goto 19, 3) := by decide +kernel
theorem d_Wo_nameSort_142 : decode y_Wo_nameSort.2.1 142 = .ok (.aload_n 0, 1) := by decide +kernel
theorem d_Wo_nameSort_143 : decode y_Wo_nameSort.2.1 143 = .ok (.iload_n 1, 1) := by decide +kernel
theorem d_Wo_nameSort_144 : decode y_Wo_nameSort.2.1 144 = .ok (.ldc 90, 2) := by decide +kernel
theorem d_Wo_nameSort_146 : decode y_Wo_nameSort.2.1 146 = .ok (.invokevirtual 74, 3) := by decide +kernel
theorem d_Wo_nameSort_149 : decode y_Wo_nameSort.2.1 149 = .ok (.ifCond .eq 8, 3) := by decide +kernel
theorem d_Wo_nameSort_152 : decode y_Wo_nameSort.2.1 152 = .ok (.bipush 16, 2) := by decide +kernel
theorem d_Wo_nameSort_154 : decode y_Wo_nameSort.2.1 154 = .ok (.goto 4, 3) := by decide +kernel
theorem d_Wo_nameSort_157 : decode y_Wo_nameSort.2.1 157 = .ok (.iconst 2, 1) := by decide +kernel
theorem d_Wo_nameSort_158 : decode y_Wo_nameSort.2.1 158 = .ok (.ireturn, 1) := by decide +kernel
theorem d_Wo_nameSort_159 : decode y_Wo_nameSort.2.1 159 = .ok (.aload_n 0, 1) := by decide +kernel
theorem d_Wo_nameSort_160 : decode y_Wo_nameSort.2.1 160 = .ok (.iload_n 1, 1) := by decide +kernel
theorem d_Wo_nameSort_161 : decode y_Wo_nameSort.2.1 161 = .ok (.ldc 92, 2) := by decide +kernel
theorem d_Wo_nameSort_163 : decode y_Wo_nameSort.2.1 163 = .ok (.invokevirtual 74, 3) := by decide +kernel
theorem d_Wo_nameSort_166 : decode y_Wo_nameSort.2.1 166 = .ok (.ifCond .eq 7, 3) := by decide +kernel
theorem d_Wo_nameSort_169 : decode y_Wo_nameSort.2.1 169 = .ok (.iconst 4, 1) := by decide +kernel
theorem d_Wo_nameSort_170 : decode y_Wo_nameSort.2.1 170 = .ok (.goto 34, 3) := by decide +kernel
theorem d_Wo_nameSort_173 : decode y_Wo_nameSort.2.1 173 = .ok (.aload_n 0, 1) := by decide +kernel
theorem d_Wo_nameSort_174 : decode y_Wo_nameSort.2.1 174 = .ok (.iload_n 1, 1) := by decide +kernel
theorem d_Wo_nameSort_175 : decode y_Wo_nameSort.2.1 175 = .ok (.ldc 94, 2) := by decide +kernel
theorem d_Wo_nameSort_177 : decode y_Wo_nameSort.2.1 177 = .ok (.invokevirtual 74, 3) := by decide +kernel
theorem d_Wo_nameSort_180 : decode y_Wo_nameSort.2.1 180 = .ok (.ifCond .eq 8, 3) := by decide +kernel
theorem d_Wo_nameSort_183 : decode y_Wo_nameSort.2.1 183 = .ok (.bipush 14, 2) := by decide +kernel
theorem d_Wo_nameSort_185 : decode y_Wo_nameSort.2.1 185 = .ok (.goto 19, 3) := by decide +kernel
theorem d_Wo_nameSort_188 : decode y_Wo_nameSort.2.1 188 = .ok (.aload_n 0, 1) := by decide +kernel
theorem d_Wo_nameSort_189 : decode y_Wo_nameSort.2.1 189 = .ok (.iload_n 1, 1) := by decide +kernel
theorem d_Wo_nameSort_190 : decode y_Wo_nameSort.2.1 190 = .ok (.ldc 96, 2) := by decide +kernel
theorem d_Wo_nameSort_192 : decode y_Wo_nameSort.2.1 192 = .ok (.invokevirtual 74, 3) := by decide +kernel
theorem d_Wo_nameSort_195 : decode y_Wo_nameSort.2.1 195 = .ok (.ifCond .eq 8, 3) := by decide +kernel
theorem d_Wo_nameSort_198 : decode y_Wo_nameSort.2.1 198 = .ok (.bipush 15, 2) := by decide +kernel
theorem d_Wo_nameSort_200 : decode y_Wo_nameSort.2.1 200 = .ok (.goto 4, 3) := by decide +kernel
theorem d_Wo_nameSort_203 : decode y_Wo_nameSort.2.1 203 = .ok (.iconst 2, 1) := by decide +kernel
theorem d_Wo_nameSort_204 : decode y_Wo_nameSort.2.1 204 = .ok (.ireturn, 1) := by decide +kernel
theorem d_Wo_nameSort_205 : decode y_Wo_nameSort.2.1 205 = .ok (.aload_n 0, 1) := by decide +kernel
theorem d_Wo_nameSort_206 : decode y_Wo_nameSort.2.1 206 = .ok (.iload_n 1, 1) := by decide +kernel
theorem d_Wo_nameSort_207 : decode y_Wo_nameSort.2.1 207 = .ok (.ldc 98, 2) := by decide +kernel
theorem d_Wo_nameSort_209 : decode y_Wo_nameSort.2.1 209 = .ok (.invokevirtual 74, 3) := by decide +kernel
theorem d_Wo_nameSort_212 : decode y_Wo_nameSort.2.1 212 = .ok (.ifCond .eq 8, 3) := by decide +kernel
theorem d_Wo_nameSort_215 : decode y_Wo_nameSort.2.1 215 = .ok (.bipush 12, 2) := by decide +kernel
theorem d_Wo_nameSort_217 : decode y_Wo_nameSort.2.1 217 = .ok (.goto 4, 3) := by decide +kernel
theorem d_Wo_nameSort_220 : decode y_Wo_nameSort.2.1 220 = .ok (.iconst 2, 1) := by decide +kernel
theorem d_Wo_nameSort_221 : decode y_Wo_nameSort.2.1 221 = .ok (.ireturn, 1) := by decide +kernel
theorem d_Wo_nameSort_222 : decode y_Wo_nameSort.2.1 222 = .ok (.aload_n 0, 1) := by decide +kernel
theorem d_Wo_nameSort_223 : decode y_Wo_nameSort.2.1 223 = .ok (.iload_n 1, 1) := by decide +kernel
theorem d_Wo_nameSort_224 : decode y_Wo_nameSort.2.1 224 = .ok (.ldc 100, 2) := by decide +kernel
theorem d_Wo_nameSort_226 : decode y_Wo_nameSort.2.1 226 = .ok (.invokevirtual 74, 3) := by decide +kernel
theorem d_Wo_nameSort_229 : decode y_Wo_nameSort.2.1 229 = .ok (.ifCond .eq 8, 3) := by decide +kernel
theorem d_Wo_nameSort_232 : decode y_Wo_nameSort.2.1 232 = .ok (.bipush 7, 2) := by decide +kernel
theorem d_Wo_nameSort_234 : decode y_Wo_nameSort.2.1 234 = .ok (.goto 4, 3) := by decide +kernel
theorem d_Wo_nameSort_237 : decode y_Wo_nameSort.2.1 237 = .ok (.iconst 2, 1) := by decide +kernel
theorem d_Wo_nameSort_238 : decode y_Wo_nameSort.2.1 238 = .ok (.ireturn, 1) := by decide +kernel
theorem d_Wo_nameSort_239 : decode y_Wo_nameSort.2.1 239 = .ok (.iconst 2, 1) := by decide +kernel
theorem d_Wo_nameSort_240 : decode y_Wo_nameSort.2.1 240 = .ok (.ireturn, 1) := by decide +kernel
theorem d_MM_is_0 : decode y_MM_is.2.1 0 = .ok (.iload_n 2, 1) := by decide +kernel
theorem d_MM_is_1 : decode y_MM_is.2.1 1 = .ok (.iload_n 1, 1) := by decide +kernel
theorem d_MM_is_2 : decode y_MM_is.2.1 2 = .ok (.isub, 1) := by decide +kernel
theorem d_MM_is_3 : decode y_MM_is.2.1 3 = .ok (.aload_n 3, 1) := by decide +kernel
theorem d_MM_is_4 : decode y_MM_is.2.1 4 = .ok (.invokevirtual 166, 3) := by decide +kernel
theorem d_MM_is_7 : decode y_MM_is.2.1 7 = .ok (.if_icmp .ne 7, 3) := by decide +kernel
theorem d_MM_is_10 : decode y_MM_is.2.1 10 = .ok (.iconst 1, 1) := by decide +kernel
theorem d_MM_is_11 : decode y_MM_is.2.1 11 = .ok (.goto 4, 3) := by decide +kernel
theorem d_MM_is_14 : decode y_MM_is.2.1 14 = .ok (.iconst 0, 1) := by decide +kernel
theorem d_MM_is_15 : decode y_MM_is.2.1 15 = .ok (.istore 4, 2) := by decide +kernel
theorem d_MM_is_17 : decode y_MM_is.2.1 17 = .ok (.iconst 0, 1) := by decide +kernel
theorem d_MM_is_18 : decode y_MM_is.2.1 18 = .ok (.istore 5, 2) := by decide +kernel
theorem d_MM_is_20 : decode y_MM_is.2.1 20 = .ok (.iload 4, 2) := by decide +kernel
theorem d_MM_is_22 : decode y_MM_is.2.1 22 = .ok (.ifCond .eq 42, 3) := by decide +kernel
theorem d_MM_is_25 : decode y_MM_is.2.1 25 = .ok (.iload 5, 2) := by decide +kernel
theorem d_MM_is_27 : decode y_MM_is.2.1 27 = .ok (.aload_n 3, 1) := by decide +kernel
theorem d_MM_is_28 : decode y_MM_is.2.1 28 = .ok (.invokevirtual 166, 3) := by decide +kernel
theorem d_MM_is_31 : decode y_MM_is.2.1 31 = .ok (.if_icmp .ge 33, 3) := by decide +kernel
theorem d_MM_is_34 : decode y_MM_is.2.1 34 = .ok (.aload_n 0, 1) := by decide +kernel
theorem d_MM_is_35 : decode y_MM_is.2.1 35 = .ok (.iload_n 1, 1) := by decide +kernel
theorem d_MM_is_36 : decode y_MM_is.2.1 36 = .ok (.iload 5, 2) := by decide +kernel
theorem d_MM_is_38 : decode y_MM_is.2.1 38 = .ok (.iadd, 1) := by decide +kernel
theorem d_MM_is_39 : decode y_MM_is.2.1 39 = .ok (.invokevirtual 159, 3) := by decide +kernel
theorem d_MM_is_42 : decode y_MM_is.2.1 42 = .ok (.aload_n 3, 1) := by decide +kernel
theorem d_MM_is_43 : decode y_MM_is.2.1 43 = .ok (.iload 5, 2) := by decide +kernel
theorem d_MM_is_45 : decode y_MM_is.2.1 45 = .ok (.invokevirtual 172, 3) := by decide +kernel
theorem d_MM_is_48 : decode y_MM_is.2.1 48 = .ok (.if_icmp .ne 7, 3) := by decide +kernel
theorem d_MM_is_51 : decode y_MM_is.2.1 51 = .ok (.iconst 1, 1) := by decide +kernel
theorem d_MM_is_52 : decode y_MM_is.2.1 52 = .ok (.goto 4, 3) := by decide +kernel
theorem d_MM_is_55 : decode y_MM_is.2.1 55 = .ok (.iconst 0, 1) := by decide +kernel
theorem d_MM_is_56 : decode y_MM_is.2.1 56 = .ok (.istore 4, 2) := by decide +kernel
theorem d_MM_is_58 : decode y_MM_is.2.1 58 = .ok (.iinc 5 1, 3) := by decide +kernel
theorem d_MM_is_61 : decode y_MM_is.2.1 61 = .ok (.goto (-41), 3) := by decide +kernel
theorem d_MM_is_64 : decode y_MM_is.2.1 64 = .ok (.iload 4, 2) := by decide +kernel
theorem d_MM_is_66 : decode y_MM_is.2.1 66 = .ok (.ireturn, 1) := by decide +kernel
theorem d_MM_wordKind_0 : decode y_MM_wordKind.2.1 0 = .ok (.aload_n 0, 1) := by decide +kernel
theorem d_MM_wordKind_1 : decode y_MM_wordKind.2.1 1 = .ok (.iload_n 1, 1) := by decide +kernel
theorem d_MM_wordKind_2 : decode y_MM_wordKind.2.1 2 = .ok (.invokevirtual 159, 3) := by decide +kernel
theorem d_MM_wordKind_5 : decode y_MM_wordKind.2.1 5 = .ok (.tableswitch 322 98 118 #[133, 99, 322, 322, 150, 322, 322, 234, 322, 322, 304, 184, 322, 322, 322, 322, 322, 252, 270, 322, 116], 99) := by decide +kernel
theorem d_MM_wordKind_104 : decode y_MM_wordKind.2.1 104 = .ok (.aload_n 0, 1) := by decide +kernel
theorem d_MM_wordKind_105 : decode y_MM_wordKind.2.1 105 = .ok (.iload_n 1, 1) := by decide +kernel
theorem d_MM_wordKind_106 : decode y_MM_wordKind.2.1 106 = .ok (.iload_n 2, 1) := by decide +kernel
theorem d_MM_wordKind_107 : decode y_MM_wordKind.2.1 107 = .ok (.ldc 176, 2) := by decide +kernel
theorem d_MM_wordKind_109 : decode y_MM_wordKind.2.1 109 = .ok (.invokevirtual 178, 3) := by decide +kernel
theorem d_MM_wordKind_112 : decode y_MM_wordKind.2.1 112 = .ok (.ifCond .eq 7, 3) := by decide +kernel
theorem d_MM_wordKind_115 : decode y_MM_wordKind.2.1 115 = .ok (.iconst 3, 1) := by decide +kernel
theorem d_MM_wordKind_116 : decode y_MM_wordKind.2.1 116 = .ok (.goto 4, 3) := by decide +kernel
theorem d_MM_wordKind_119 : decode y_MM_wordKind.2.1 119 = .ok (.iconst 1, 1) := by decide +kernel
theorem d_MM_wordKind_120 : decode y_MM_wordKind.2.1 120 = .ok (.ireturn, 1) := by decide +kernel
theorem d_MM_wordKind_121 : decode y_MM_wordKind.2.1 121 = .ok (.aload_n 0, 1) := by decide +kernel
theorem d_MM_wordKind_122 : decode y_MM_wordKind.2.1 122 = .ok (.iload_n 1, 1) := by decide +kernel
theorem d_MM_wordKind_123 : decode y_MM_wordKind.2.1 123 = .ok (.iload_n 2, 1) := by decide +kernel
theorem d_MM_wordKind_124 : decode y_MM_wordKind.2.1 124 = .ok (.ldc 182, 2) := by decide +kernel
theorem d_MM_wordKind_126 : decode y_MM_wordKind.2.1 126 = .ok (.invokevirtual 178, 3) := by decide +kernel
theorem d_MM_wordKind_129 : decode y_MM_wordKind.2.1 129 = .ok (.ifCond .eq 7, 3) := by decide +kernel
theorem d_MM_wordKind_132 : decode y_MM_wordKind.2.1 132 = .ok (.iconst 4, 1) := by decide +kernel
theorem d_MM_wordKind_133 : decode y_MM_wordKind.2.1 133 = .ok (.goto 4, 3) := by decide +kernel
theorem d_MM_wordKind_136 : decode y_MM_wordKind.2.1 136 = .ok (.iconst 1, 1) := by decide +kernel
theorem d_MM_wordKind_137 : decode y_MM_wordKind.2.1 137 = .ok (.ireturn, 1) := by decide +kernel
theorem d_MM_wordKind_138 : decode y_MM_wordKind.2.1 138 = .ok (.aload_n 0, 1) := by decide +kernel
theorem d_MM_wordKind_139 : decode y_MM_wordKind.2.1 139 = .ok (.iload_n 1, 1) := by decide +kernel
theorem d_MM_wordKind_140 : decode y_MM_wordKind.2.1 140 = .ok (.iload_n 2, 1) := by decide +kernel
theorem d_MM_wordKind_141 : decode y_MM_wordKind.2.1 141 = .ok (.ldc 184, 2) := by decide +kernel
theorem d_MM_wordKind_143 : decode y_MM_wordKind.2.1 143 = .ok (.invokevirtual 178, 3) := by decide +kernel
theorem d_MM_wordKind_146 : decode y_MM_wordKind.2.1 146 = .ok (.ifCond .eq 7, 3) := by decide +kernel
theorem d_MM_wordKind_149 : decode y_MM_wordKind.2.1 149 = .ok (.iconst 5, 1) := by decide +kernel
theorem d_MM_wordKind_150 : decode y_MM_wordKind.2.1 150 = .ok (.goto 4, 3) := by decide +kernel
theorem d_MM_wordKind_153 : decode y_MM_wordKind.2.1 153 = .ok (.iconst 1, 1) := by decide +kernel
theorem d_MM_wordKind_154 : decode y_MM_wordKind.2.1 154 = .ok (.ireturn, 1) := by decide +kernel
theorem d_MM_wordKind_155 : decode y_MM_wordKind.2.1 155 = .ok (.aload_n 0, 1) := by decide +kernel
theorem d_MM_wordKind_156 : decode y_MM_wordKind.2.1 156 = .ok (.iload_n 1, 1) := by decide +kernel
theorem d_MM_wordKind_157 : decode y_MM_wordKind.2.1 157 = .ok (.iload_n 2, 1) := by decide +kernel
theorem d_MM_wordKind_158 : decode y_MM_wordKind.2.1 158 = .ok (.ldc 186, 2) := by decide +kernel
theorem d_MM_wordKind_160 : decode y_MM_wordKind.2.1 160 = .ok (.invokevirtual 178, 3) := by decide +kernel
theorem d_MM_wordKind_163 : decode y_MM_wordKind.2.1 163 = .ok (.ifCond .eq 8, 3) := by decide +kernel
theorem d_MM_wordKind_166 : decode y_MM_wordKind.2.1 166 = .ok (.bipush 6, 2) := by decide +kernel
theorem d_MM_wordKind_168 : decode y_MM_wordKind.2.1 168 = .ok (.goto 20, 3) := by decide +kernel
theorem d_MM_wordKind_171 : decode y_MM_wordKind.2.1 171 = .ok (.aload_n 0, 1) := by decide +kernel
theorem d_MM_wordKind_172 : decode y_MM_wordKind.2.1 172 = .ok (.iload_n 1, 1) := by decide +kernel
theorem d_MM_wordKind_173 : decode y_MM_wordKind.2.1 173 = .ok (.iload_n 2, 1) := by decide +kernel
theorem d_MM_wordKind_174 : decode y_MM_wordKind.2.1 174 = .ok (.ldc 188, 2) := by decide +kernel
theorem d_MM_wordKind_176 : decode y_MM_wordKind.2.1 176 = .ok (.invokevirtual 178, 3) := by decide +kernel
theorem d_MM_wordKind_179 : decode y_MM_wordKind.2.1 179 = .ok (.ifCond .eq 8, 3) := by decide +kernel
theorem d_MM_wordKind_182 : decode y_MM_wordKind.2.1 182 = .ok (.bipush 13, 2) := by decide +kernel
theorem d_MM_wordKind_184 : decode y_MM_wordKind.2.1 184 = .ok (.goto 4, 3) := by decide +kernel
theorem d_MM_wordKind_187 : decode y_MM_wordKind.2.1 187 = .ok (.iconst 1, 1) := by decide +kernel
theorem d_MM_wordKind_188 : decode y_MM_wordKind.2.1 188 = .ok (.ireturn, 1) := by decide +kernel
theorem d_MM_wordKind_189 : decode y_MM_wordKind.2.1 189 = .ok (.aload_n 0, 1) := by decide +kernel
theorem d_MM_wordKind_190 : decode y_MM_wordKind.2.1 190 = .ok (.iload_n 1, 1) := by decide +kernel
theorem d_MM_wordKind_191 : decode y_MM_wordKind.2.1 191 = .ok (.iload_n 2, 1) := by decide +kernel
theorem d_MM_wordKind_192 : decode y_MM_wordKind.2.1 192 = .ok (.ldc 190, 2) := by decide +kernel
theorem d_MM_wordKind_194 : decode y_MM_wordKind.2.1 194 = .ok (.invokevirtual 178, 3) := by decide +kernel
theorem d_MM_wordKind_197 : decode y_MM_wordKind.2.1 197 = .ok (.ifCond .eq 8, 3) := by decide +kernel
theorem d_MM_wordKind_200 : decode y_MM_wordKind.2.1 200 = .ok (.bipush 7, 2) := by decide +kernel
theorem d_MM_wordKind_202 : decode y_MM_wordKind.2.1 202 = .ok (.goto 36, 3) := by decide +kernel
theorem d_MM_wordKind_205 : decode y_MM_wordKind.2.1 205 = .ok (.aload_n 0, 1) := by decide +kernel
theorem d_MM_wordKind_206 : decode y_MM_wordKind.2.1 206 = .ok (.iload_n 1, 1) := by decide +kernel
theorem d_MM_wordKind_207 : decode y_MM_wordKind.2.1 207 = .ok (.iload_n 2, 1) := by decide +kernel
theorem d_MM_wordKind_208 : decode y_MM_wordKind.2.1 208 = .ok (.ldc 192, 2) := by decide +kernel
theorem d_MM_wordKind_210 : decode y_MM_wordKind.2.1 210 = .ok (.invokevirtual 178, 3) := by decide +kernel
theorem d_MM_wordKind_213 : decode y_MM_wordKind.2.1 213 = .ok (.ifCond .eq 8, 3) := by decide +kernel
theorem d_MM_wordKind_216 : decode y_MM_wordKind.2.1 216 = .ok (.bipush 8, 2) := by decide +kernel
theorem d_MM_wordKind_218 : decode y_MM_wordKind.2.1 218 = .ok (.goto 20, 3) := by decide +kernel
theorem d_MM_wordKind_221 : decode y_MM_wordKind.2.1 221 = .ok (.aload_n 0, 1) := by decide +kernel
theorem d_MM_wordKind_222 : decode y_MM_wordKind.2.1 222 = .ok (.iload_n 1, 1) := by decide +kernel
theorem d_MM_wordKind_223 : decode y_MM_wordKind.2.1 223 = .ok (.iload_n 2, 1) := by decide +kernel
theorem d_MM_wordKind_224 : decode y_MM_wordKind.2.1 224 = .ok (.ldc 194, 2) := by decide +kernel
theorem d_MM_wordKind_226 : decode y_MM_wordKind.2.1 226 = .ok (.invokevirtual 178, 3) := by decide +kernel
theorem d_MM_wordKind_229 : decode y_MM_wordKind.2.1 229 = .ok (.ifCond .eq 8, 3) := by decide +kernel
theorem d_MM_wordKind_232 : decode y_MM_wordKind.2.1 232 = .ok (.bipush 15, 2) := by decide +kernel
theorem d_MM_wordKind_234 : decode y_MM_wordKind.2.1 234 = .ok (.goto 4, 3) := by decide +kernel
theorem d_MM_wordKind_237 : decode y_MM_wordKind.2.1 237 = .ok (.iconst 1, 1) := by decide +kernel
theorem d_MM_wordKind_238 : decode y_MM_wordKind.2.1 238 = .ok (.ireturn, 1) := by decide +kernel
theorem d_MM_wordKind_239 : decode y_MM_wordKind.2.1 239 = .ok (.aload_n 0, 1) := by decide +kernel
theorem d_MM_wordKind_240 : decode y_MM_wordKind.2.1 240 = .ok (.iload_n 1, 1) := by decide +kernel
theorem d_MM_wordKind_241 : decode y_MM_wordKind.2.1 241 = .ok (.iload_n 2, 1) := by decide +kernel
theorem d_MM_wordKind_242 : decode y_MM_wordKind.2.1 242 = .ok (.ldc 196, 2) := by decide +kernel
theorem d_MM_wordKind_244 : decode y_MM_wordKind.2.1 244 = .ok (.invokevirtual 178, 3) := by decide +kernel
theorem d_MM_wordKind_247 : decode y_MM_wordKind.2.1 247 = .ok (.ifCond .eq 8, 3) := by decide +kernel
theorem d_MM_wordKind_250 : decode y_MM_wordKind.2.1 250 = .ok (.bipush 9, 2) := by decide +kernel
theorem d_MM_wordKind_252 : decode y_MM_wordKind.2.1 252 = .ok (.goto 4, 3) := by decide +kernel
theorem d_MM_wordKind_255 : decode y_MM_wordKind.2.1 255 = .ok (.iconst 1, 1) := by decide +kernel
theorem d_MM_wordKind_256 : decode y_MM_wordKind.2.1 256 = .ok (.ireturn, 1) := by decide +kernel
theorem d_MM_wordKind_257 : decode y_MM_wordKind.2.1 257 = .ok (.aload_n 0, 1) := by decide +kernel
theorem d_MM_wordKind_258 : decode y_MM_wordKind.2.1 258 = .ok (.iload_n 1, 1) := by decide +kernel
theorem d_MM_wordKind_259 : decode y_MM_wordKind.2.1 259 = .ok (.iload_n 2, 1) := by decide +kernel
theorem d_MM_wordKind_260 : decode y_MM_wordKind.2.1 260 = .ok (.ldc 198, 2) := by decide +kernel
theorem d_MM_wordKind_262 : decode y_MM_wordKind.2.1 262 = .ok (.invokevirtual 178, 3) := by decide +kernel
theorem d_MM_wordKind_265 : decode y_MM_wordKind.2.1 265 = .ok (.ifCond .eq 8, 3) := by decide +kernel
theorem d_MM_wordKind_268 : decode y_MM_wordKind.2.1 268 = .ok (.bipush 10, 2) := by decide +kernel
theorem d_MM_wordKind_270 : decode y_MM_wordKind.2.1 270 = .ok (.goto 4, 3) := by decide +kernel
theorem d_MM_wordKind_273 : decode y_MM_wordKind.2.1 273 = .ok (.iconst 1, 1) := by decide +kernel
theorem d_MM_wordKind_274 : decode y_MM_wordKind.2.1 274 = .ok (.ireturn, 1) := by decide +kernel
theorem d_MM_wordKind_275 : decode y_MM_wordKind.2.1 275 = .ok (.aload_n 0, 1) := by decide +kernel
theorem d_MM_wordKind_276 : decode y_MM_wordKind.2.1 276 = .ok (.iload_n 1, 1) := by decide +kernel
theorem d_MM_wordKind_277 : decode y_MM_wordKind.2.1 277 = .ok (.iload_n 2, 1) := by decide +kernel
theorem d_MM_wordKind_278 : decode y_MM_wordKind.2.1 278 = .ok (.ldc 200, 2) := by decide +kernel
theorem d_MM_wordKind_280 : decode y_MM_wordKind.2.1 280 = .ok (.invokevirtual 178, 3) := by decide +kernel
theorem d_MM_wordKind_283 : decode y_MM_wordKind.2.1 283 = .ok (.ifCond .eq 8, 3) := by decide +kernel
theorem d_MM_wordKind_286 : decode y_MM_wordKind.2.1 286 = .ok (.bipush 11, 2) := by decide +kernel
theorem d_MM_wordKind_288 : decode y_MM_wordKind.2.1 288 = .ok (.goto 20, 3) := by decide +kernel
theorem d_MM_wordKind_291 : decode y_MM_wordKind.2.1 291 = .ok (.aload_n 0, 1) := by decide +kernel
theorem d_MM_wordKind_292 : decode y_MM_wordKind.2.1 292 = .ok (.iload_n 1, 1) := by decide +kernel
theorem d_MM_wordKind_293 : decode y_MM_wordKind.2.1 293 = .ok (.iload_n 2, 1) := by decide +kernel
theorem d_MM_wordKind_294 : decode y_MM_wordKind.2.1 294 = .ok (.ldc 202, 2) := by decide +kernel
theorem d_MM_wordKind_296 : decode y_MM_wordKind.2.1 296 = .ok (.invokevirtual 178, 3) := by decide +kernel
theorem d_MM_wordKind_299 : decode y_MM_wordKind.2.1 299 = .ok (.ifCond .eq 8, 3) := by decide +kernel
theorem d_MM_wordKind_302 : decode y_MM_wordKind.2.1 302 = .ok (.bipush 12, 2) := by decide +kernel
theorem d_MM_wordKind_304 : decode y_MM_wordKind.2.1 304 = .ok (.goto 4, 3) := by decide +kernel
theorem d_MM_wordKind_307 : decode y_MM_wordKind.2.1 307 = .ok (.iconst 1, 1) := by decide +kernel
theorem d_MM_wordKind_308 : decode y_MM_wordKind.2.1 308 = .ok (.ireturn, 1) := by decide +kernel
theorem d_MM_wordKind_309 : decode y_MM_wordKind.2.1 309 = .ok (.aload_n 0, 1) := by decide +kernel
theorem d_MM_wordKind_310 : decode y_MM_wordKind.2.1 310 = .ok (.iload_n 1, 1) := by decide +kernel
theorem d_MM_wordKind_311 : decode y_MM_wordKind.2.1 311 = .ok (.iload_n 2, 1) := by decide +kernel
theorem d_MM_wordKind_312 : decode y_MM_wordKind.2.1 312 = .ok (.ldc 204, 2) := by decide +kernel
theorem d_MM_wordKind_314 : decode y_MM_wordKind.2.1 314 = .ok (.invokevirtual 178, 3) := by decide +kernel
theorem d_MM_wordKind_317 : decode y_MM_wordKind.2.1 317 = .ok (.ifCond .eq 8, 3) := by decide +kernel
theorem d_MM_wordKind_320 : decode y_MM_wordKind.2.1 320 = .ok (.bipush 14, 2) := by decide +kernel
theorem d_MM_wordKind_322 : decode y_MM_wordKind.2.1 322 = .ok (.goto 4, 3) := by decide +kernel
theorem d_MM_wordKind_325 : decode y_MM_wordKind.2.1 325 = .ok (.iconst 1, 1) := by decide +kernel
theorem d_MM_wordKind_326 : decode y_MM_wordKind.2.1 326 = .ok (.ireturn, 1) := by decide +kernel
theorem d_MM_wordKind_327 : decode y_MM_wordKind.2.1 327 = .ok (.iconst 1, 1) := by decide +kernel
theorem d_MM_wordKind_328 : decode y_MM_wordKind.2.1 328 = .ok (.ireturn, 1) := by decide +kernel
section NAM
variable {G : mG} {d pc t n w T A B D N C p a : Nat} {f : Nat → Int} {M : mM} {Q : Option mV → mM → Prop}
theorem s_Wo_spells (hJ : JD G) (hs : Str G t n f) (hO : mOk M) (h : WA M w T A B D N C) (hp : p + n ≤ N) : Ci G y_Wo_spells (d + 4) [vr w, vi p, vo t] M (fun r M' => M' = M ∧ (r = 0 ∨ r = 1)) := by
  obtain ⟨A0, hv, hT⟩ := hs.2.2
  have hn := hT.2.1
  obtain ⟨k2, ⟨r0, -⟩, ⟨kT, nT⟩, -, -, -, hN, -⟩ := h
  have step : ∀ i : Nat, i ≤ n → (i < n → mWm G y_Wo_spells (d + 4) 2 [vr w, vi p, vo t, vi ((i + 1 : Nat) : Int)] [] M (fun r M' => ∃ x, r = some (vi x) ∧ M' = M ∧ (x = 0 ∨ x = 1))) → mWm G y_Wo_spells (d + 4) 2 [vr w, vi p, vo t, vi (i : Int)] [] M (fun r M' => ∃ x, r = some (vi x) ∧ M' = M ∧ (x = 0 ∨ x = 1)) := by
    intro i hi ih
    refine wm_iload_n d_Wo_spells_2 rfl rfl ?_
    refine wm_aldO_n d_Wo_spells_3 rfl rfl ?_
    refine wm_strLen (d := d + 2) hJ hs kt_lenW (Nat.le_of_ble_eq_true rfl) d_Wo_spells_4 ?_
    refine wm_icmp_ge (tgt := 34) d_Wo_spells_7 rfl ⟨by omega, by omega⟩ ⟨by omega, by omega⟩ (fun _ => ?_) (fun c => ?_)
    · refine wm_iconst d_Wo_spells_34 ?_
      refine wm_ireturn d_Wo_spells_35 rfl rfl ?_
      exact ⟨_, rfl, rfl, Or.inr rfl⟩
    · have hin : i < n := by omega
      refine wm_aload_n d_Wo_spells_10 rfl rfl ?_
      refine gf_Wo_9 rfl d_Wo_spells_11 k2 ?_
      rw [r0]
      refine wm_iload_n d_Wo_spells_14 rfl rfl ?_
      refine wm_iload_n d_Wo_spells_15 rfl rfl ?_
      refine wm_iadd d_Wo_spells_16 ?_
      refine wm_cald d_Wo_spells_17 kT ⟨by omega, by omega⟩ ?_
      refine wm_aldO_n d_Wo_spells_18 rfl rfl ?_
      refine wm_iload_n d_Wo_spells_19 rfl rfl ?_
      refine wm_strAt (d := d) hJ hs hin kt_chaW (Nat.le_of_ble_eq_true rfl) d_Wo_spells_20 ?_
      have hf := hT.2.2 i hin
      refine wm_icmp_eq (tgt := 28) d_Wo_spells_23 rfl (hO _ _).1 ⟨by omega, by omega⟩ (fun _ => ?_) (fun _ => ?_)
      · refine wm_iinc d_Wo_spells_28 (by decide) rfl (L' := [vr w, vi p, vo t, vi ((i : Int) + 1)]) rfl ?_
        refine wm_goto (tgt := 2) d_Wo_spells_31 rfl ?_
        have ih := ih hin
        rw [show ((i + 1 : Nat) : Int) = (i : Int) + 1 by omega] at ih
        exact ih
      · refine wm_iconst d_Wo_spells_26 ?_
        refine wm_ireturn d_Wo_spells_27 rfl rfl ?_
        exact ⟨_, rfl, rfl, Or.inl rfl⟩
  have all : ∀ q i : Nat, n = i + q → mWm G y_Wo_spells (d + 4) 2 [vr w, vi p, vo t, vi (i : Int)] [] M (fun r M' => ∃ x, r = some (vi x) ∧ M' = M ∧ (x = 0 ∨ x = 1)) := by
    intro q
    induction q with
    | zero => exact fun i e => step i (by omega) (fun c => by omega)
    | succ q ih => exact fun i e => step i (by omega) (fun _ => ih (i + 1) (by omega))
  refine wm_open (y := y_Wo_spells) rfl (Nat.le_of_ble_eq_true rfl) (L := [vr w, vi p, vo t, vd]) rfl ?_
  refine wm_iconst d_Wo_spells_0 ?_
  refine wm_istore_n d_Wo_spells_1 rfl (by decide) (L' := [vr w, vi p, vo t, vi 0]) rfl ?_
  exact all n 0 (by omega)
theorem ns_test {tx : String} {k m tgt : Nat} {off : Int} (hJ : JD G) (hl : Lit G "ChanceArena$Words" k tx m) (hO : mOk M) (h : WA M w T A B D N C) (hp : p + m ≤ N) (h0 : decode y_Wo_nameSort.2.1 pc = .ok (.aload_n 0, 1)) (h1 : decode y_Wo_nameSort.2.1 (pc + 1) = .ok (.iload_n 1, 1)) (h2 : decode y_Wo_nameSort.2.1 (pc + 2) = .ok (.ldc k, 2)) (h3 : decode y_Wo_nameSort.2.1 (pc + 4) = .ok (.invokevirtual 74, 3)) (h4 : decode y_Wo_nameSort.2.1 (pc + 7) = .ok (.ifCond .eq off, 3)) (ht : ((pc + 7 : Nat) : Int) + off = (tgt : Int)) (kt : mWm G y_Wo_nameSort (d + 5) tgt [vr w, vi p, vi n] [] M Q) (kf : mWm G y_Wo_nameSort (d + 5) (pc + 10) [vr w, vi p, vi n] [] M Q) : mWm G y_Wo_nameSort (d + 5) pc [vr w, vi p, vi n] [] M Q := by
  obtain ⟨t, f, hr, hs⟩ := hl
  refine wm_aload_n h0 rfl rfl ?_
  refine wm_iload_n h1 rfl rfl ?_
  refine wm_ldcS rfl hr h2 ?_
  refine wm_callV (y2 := y_Wo_spells) (c := 1) (n := 2) (As := [vi p, vo t]) rfl rfl rfl kt_spL kt_spI ks_Wo_spells k1_2 kt_spC ⟨by decide, by decide, by decide +kernel⟩ (by decide) rfl rfl (Nat.le_of_ble_eq_true rfl) h3 h.1 ?_
  refine mCm.mono (s_Wo_spells (d := d) hJ hs hO h hp) (fun r M' q => ?_)
  obtain ⟨x, rfl, rfl, hx⟩ := q
  exact wm_if_eq h4 ht (by rcases hx with e | e <;> subst e <;> exact ⟨by decide, by decide⟩) (fun _ => kt) (fun _ => kf)
theorem s_Wo_nameSort (hJ : JD G) (hL : ∀ q, q ∈ litW → Lit G "ChanceArena$Words" q.1 q.2.1 q.2.2) (hO : mOk M) (h : WA M w T A B D N C) (hp : p + n ≤ N) (hn : n ≤ 40) : Ci G y_Wo_nameSort (d + 5) [vr w, vi p, vi n] M (fun r M' => M' = M ∧ 2 ≤ r ∧ r ≤ 16 ∧ r ≠ 3) := by
  refine wm_open (y := y_Wo_nameSort) rfl (Nat.le_of_ble_eq_true rfl) (L := [vr w, vi p, vi n]) rfl ?_
  refine (?_ : ∀ Q9 : Option mV → mM → Prop, (∀ x : Int, 2 ≤ x → x ≤ 16 → x ≠ 3 → Q9 (some (vi x)) M) → mWm G y_Wo_nameSort (d + 5) 0 [vr w, vi p, vi n] [] M Q9) _ (fun x a b c => ⟨x, rfl, rfl, a, b, c⟩)
  intro Q9 hend
  have B46 : mWm G y_Wo_nameSort (d + 5) 46 [vr w, vi p, vi n] [] M Q9 := by
    refine wm_iconst d_Wo_nameSort_46 ?_
    refine wm_goto (tgt := 81) d_Wo_nameSort_47 rfl ?_
    refine wm_ireturn d_Wo_nameSort_81 rfl rfl ?_
    exact hend _ (by decide) (by decide) (by decide)
  have B60 : mWm G y_Wo_nameSort (d + 5) 60 [vr w, vi p, vi n] [] M Q9 := by
    refine wm_bipush d_Wo_nameSort_60 (by decide) ?_
    refine wm_goto (tgt := 81) d_Wo_nameSort_62 rfl ?_
    refine wm_ireturn d_Wo_nameSort_81 rfl rfl ?_
    exact hend _ (by decide) (by decide) (by decide)
  have B75 : mWm G y_Wo_nameSort (d + 5) 75 [vr w, vi p, vi n] [] M Q9 := by
    refine wm_bipush d_Wo_nameSort_75 (by decide) ?_
    refine wm_goto (tgt := 81) d_Wo_nameSort_77 rfl ?_
    refine wm_ireturn d_Wo_nameSort_81 rfl rfl ?_
    exact hend _ (by decide) (by decide) (by decide)
  have B80 : mWm G y_Wo_nameSort (d + 5) 80 [vr w, vi p, vi n] [] M Q9 := by
    refine wm_iconst d_Wo_nameSort_80 ?_
    refine wm_ireturn d_Wo_nameSort_81 rfl rfl ?_
    exact hend _ (by decide) (by decide) (by decide)
  have B92 : mWm G y_Wo_nameSort (d + 5) 92 [vr w, vi p, vi n] [] M Q9 := by
    refine wm_bipush d_Wo_nameSort_92 (by decide) ?_
    refine wm_goto (tgt := 158) d_Wo_nameSort_94 rfl ?_
    refine wm_ireturn d_Wo_nameSort_158 rfl rfl ?_
    exact hend _ (by decide) (by decide) (by decide)
  have B107 : mWm G y_Wo_nameSort (d + 5) 107 [vr w, vi p, vi n] [] M Q9 := by
    refine wm_bipush d_Wo_nameSort_107 (by decide) ?_
    refine wm_goto (tgt := 158) d_Wo_nameSort_109 rfl ?_
    refine wm_ireturn d_Wo_nameSort_158 rfl rfl ?_
    exact hend _ (by decide) (by decide) (by decide)
  have B122 : mWm G y_Wo_nameSort (d + 5) 122 [vr w, vi p, vi n] [] M Q9 := by
    refine wm_bipush d_Wo_nameSort_122 (by decide) ?_
    refine wm_goto (tgt := 158) d_Wo_nameSort_124 rfl ?_
    refine wm_ireturn d_Wo_nameSort_158 rfl rfl ?_
    exact hend _ (by decide) (by decide) (by decide)
  have B137 : mWm G y_Wo_nameSort (d + 5) 137 [vr w, vi p, vi n] [] M Q9 := by
    refine wm_bipush d_Wo_nameSort_137 (by decide) ?_
    refine wm_goto (tgt := 158) d_Wo_nameSort_139 rfl ?_
    refine wm_ireturn d_Wo_nameSort_158 rfl rfl ?_
    exact hend _ (by decide) (by decide) (by decide)
  have B152 : mWm G y_Wo_nameSort (d + 5) 152 [vr w, vi p, vi n] [] M Q9 := by
    refine wm_bipush d_Wo_nameSort_152 (by decide) ?_
    refine wm_goto (tgt := 158) d_Wo_nameSort_154 rfl ?_
    refine wm_ireturn d_Wo_nameSort_158 rfl rfl ?_
    exact hend _ (by decide) (by decide) (by decide)
  have B157 : mWm G y_Wo_nameSort (d + 5) 157 [vr w, vi p, vi n] [] M Q9 := by
    refine wm_iconst d_Wo_nameSort_157 ?_
    refine wm_ireturn d_Wo_nameSort_158 rfl rfl ?_
    exact hend _ (by decide) (by decide) (by decide)
  have B169 : mWm G y_Wo_nameSort (d + 5) 169 [vr w, vi p, vi n] [] M Q9 := by
    refine wm_iconst d_Wo_nameSort_169 ?_
    refine wm_goto (tgt := 204) d_Wo_nameSort_170 rfl ?_
    refine wm_ireturn d_Wo_nameSort_204 rfl rfl ?_
    exact hend _ (by decide) (by decide) (by decide)
  have B183 : mWm G y_Wo_nameSort (d + 5) 183 [vr w, vi p, vi n] [] M Q9 := by
    refine wm_bipush d_Wo_nameSort_183 (by decide) ?_
    refine wm_goto (tgt := 204) d_Wo_nameSort_185 rfl ?_
    refine wm_ireturn d_Wo_nameSort_204 rfl rfl ?_
    exact hend _ (by decide) (by decide) (by decide)
  have B198 : mWm G y_Wo_nameSort (d + 5) 198 [vr w, vi p, vi n] [] M Q9 := by
    refine wm_bipush d_Wo_nameSort_198 (by decide) ?_
    refine wm_goto (tgt := 204) d_Wo_nameSort_200 rfl ?_
    refine wm_ireturn d_Wo_nameSort_204 rfl rfl ?_
    exact hend _ (by decide) (by decide) (by decide)
  have B203 : mWm G y_Wo_nameSort (d + 5) 203 [vr w, vi p, vi n] [] M Q9 := by
    refine wm_iconst d_Wo_nameSort_203 ?_
    refine wm_ireturn d_Wo_nameSort_204 rfl rfl ?_
    exact hend _ (by decide) (by decide) (by decide)
  have B215 : mWm G y_Wo_nameSort (d + 5) 215 [vr w, vi p, vi n] [] M Q9 := by
    refine wm_bipush d_Wo_nameSort_215 (by decide) ?_
    refine wm_goto (tgt := 221) d_Wo_nameSort_217 rfl ?_
    refine wm_ireturn d_Wo_nameSort_221 rfl rfl ?_
    exact hend _ (by decide) (by decide) (by decide)
  have B220 : mWm G y_Wo_nameSort (d + 5) 220 [vr w, vi p, vi n] [] M Q9 := by
    refine wm_iconst d_Wo_nameSort_220 ?_
    refine wm_ireturn d_Wo_nameSort_221 rfl rfl ?_
    exact hend _ (by decide) (by decide) (by decide)
  have B232 : mWm G y_Wo_nameSort (d + 5) 232 [vr w, vi p, vi n] [] M Q9 := by
    refine wm_bipush d_Wo_nameSort_232 (by decide) ?_
    refine wm_goto (tgt := 238) d_Wo_nameSort_234 rfl ?_
    refine wm_ireturn d_Wo_nameSort_238 rfl rfl ?_
    exact hend _ (by decide) (by decide) (by decide)
  have B237 : mWm G y_Wo_nameSort (d + 5) 237 [vr w, vi p, vi n] [] M Q9 := by
    refine wm_iconst d_Wo_nameSort_237 ?_
    refine wm_ireturn d_Wo_nameSort_238 rfl rfl ?_
    exact hend _ (by decide) (by decide) (by decide)
  have B239 : mWm G y_Wo_nameSort (d + 5) 239 [vr w, vi p, vi n] [] M Q9 := by
    refine wm_iconst d_Wo_nameSort_239 ?_
    refine wm_ireturn d_Wo_nameSort_240 rfl rfl ?_
    exact hend _ (by decide) (by decide) (by decide)
  have B222 : n = 7 → mWm G y_Wo_nameSort (d + 5) 222 [vr w, vi p, vi n] [] M Q9 := fun e => ns_test (tgt := 237) hJ (hL (100, "formula", 7) (List.mem_of_getElem? (i := 12) rfl)) hO h (by show p + 7 ≤ N; omega) d_Wo_nameSort_222 d_Wo_nameSort_223 d_Wo_nameSort_224 d_Wo_nameSort_226 d_Wo_nameSort_229 rfl B237 B232
  have B205 : n = 6 → mWm G y_Wo_nameSort (d + 5) 205 [vr w, vi p, vi n] [] M Q9 := fun e => ns_test (tgt := 220) hJ (hL (98, "target", 6) (List.mem_of_getElem? (i := 11) rfl)) hO h (by show p + 6 ≤ N; omega) d_Wo_nameSort_205 d_Wo_nameSort_206 d_Wo_nameSort_207 d_Wo_nameSort_209 d_Wo_nameSort_212 rfl B220 B215
  have B188 : n = 5 → mWm G y_Wo_nameSort (d + 5) 188 [vr w, vi p, vi n] [] M Q9 := fun e => ns_test (tgt := 203) hJ (hL (96, "least", 5) (List.mem_of_getElem? (i := 10) rfl)) hO h (by show p + 5 ≤ N; omega) d_Wo_nameSort_188 d_Wo_nameSort_189 d_Wo_nameSort_190 d_Wo_nameSort_192 d_Wo_nameSort_195 rfl B203 B198
  have B173 : n = 5 → mWm G y_Wo_nameSort (d + 5) 173 [vr w, vi p, vi n] [] M Q9 := fun e => ns_test (tgt := 188) hJ (hL (94, "false", 5) (List.mem_of_getElem? (i := 9) rfl)) hO h (by show p + 5 ≤ N; omega) d_Wo_nameSort_173 d_Wo_nameSort_174 d_Wo_nameSort_175 d_Wo_nameSort_177 d_Wo_nameSort_180 rfl (B188 e) B183
  have B159 : n = 5 → mWm G y_Wo_nameSort (d + 5) 159 [vr w, vi p, vi n] [] M Q9 := fun e => ns_test (tgt := 173) hJ (hL (92, "const", 5) (List.mem_of_getElem? (i := 8) rfl)) hO h (by show p + 5 ≤ N; omega) d_Wo_nameSort_159 d_Wo_nameSort_160 d_Wo_nameSort_161 d_Wo_nameSort_163 d_Wo_nameSort_166 rfl (B173 e) B169
  have B142 : n = 4 → mWm G y_Wo_nameSort (d + 5) 142 [vr w, vi p, vi n] [] M Q9 := fun e => ns_test (tgt := 157) hJ (hL (90, "most", 4) (List.mem_of_getElem? (i := 7) rfl)) hO h (by show p + 4 ≤ N; omega) d_Wo_nameSort_142 d_Wo_nameSort_143 d_Wo_nameSort_144 d_Wo_nameSort_146 d_Wo_nameSort_149 rfl B157 B152
  have B127 : n = 4 → mWm G y_Wo_nameSort (d + 5) 127 [vr w, vi p, vi n] [] M Q9 := fun e => ns_test (tgt := 142) hJ (hL (88, "init", 4) (List.mem_of_getElem? (i := 6) rfl)) hO h (by show p + 4 ≤ N; omega) d_Wo_nameSort_127 d_Wo_nameSort_128 d_Wo_nameSort_129 d_Wo_nameSort_131 d_Wo_nameSort_134 rfl (B142 e) B137
  have B112 : n = 4 → mWm G y_Wo_nameSort (d + 5) 112 [vr w, vi p, vi n] [] M Q9 := fun e => ns_test (tgt := 127) hJ (hL (86, "bool", 4) (List.mem_of_getElem? (i := 5) rfl)) hO h (by show p + 4 ≤ N; omega) d_Wo_nameSort_112 d_Wo_nameSort_113 d_Wo_nameSort_114 d_Wo_nameSort_116 d_Wo_nameSort_119 rfl (B127 e) B122
  have B97 : n = 4 → mWm G y_Wo_nameSort (d + 5) 97 [vr w, vi p, vi n] [] M Q9 := fun e => ns_test (tgt := 112) hJ (hL (84, "stay", 4) (List.mem_of_getElem? (i := 4) rfl)) hO h (by show p + 4 ≤ N; omega) d_Wo_nameSort_97 d_Wo_nameSort_98 d_Wo_nameSort_99 d_Wo_nameSort_101 d_Wo_nameSort_104 rfl (B112 e) B107
  have B82 : n = 4 → mWm G y_Wo_nameSort (d + 5) 82 [vr w, vi p, vi n] [] M Q9 := fun e => ns_test (tgt := 97) hJ (hL (82, "true", 4) (List.mem_of_getElem? (i := 3) rfl)) hO h (by show p + 4 ≤ N; omega) d_Wo_nameSort_82 d_Wo_nameSort_83 d_Wo_nameSort_84 d_Wo_nameSort_86 d_Wo_nameSort_89 rfl (B97 e) B92
  have B65 : n = 3 → mWm G y_Wo_nameSort (d + 5) 65 [vr w, vi p, vi n] [] M Q9 := fun e => ns_test (tgt := 80) hJ (hL (80, "min", 3) (List.mem_of_getElem? (i := 2) rfl)) hO h (by show p + 3 ≤ N; omega) d_Wo_nameSort_65 d_Wo_nameSort_66 d_Wo_nameSort_67 d_Wo_nameSort_69 d_Wo_nameSort_72 rfl B80 B75
  have B50 : n = 3 → mWm G y_Wo_nameSort (d + 5) 50 [vr w, vi p, vi n] [] M Q9 := fun e => ns_test (tgt := 65) hJ (hL (78, "max", 3) (List.mem_of_getElem? (i := 1) rfl)) hO h (by show p + 3 ≤ N; omega) d_Wo_nameSort_50 d_Wo_nameSort_51 d_Wo_nameSort_52 d_Wo_nameSort_54 d_Wo_nameSort_57 rfl (B65 e) B60
  have B36 : n = 3 → mWm G y_Wo_nameSort (d + 5) 36 [vr w, vi p, vi n] [] M Q9 := fun e => ns_test (tgt := 50) hJ (hL (72, "var", 3) (List.mem_of_getElem? (i := 0) rfl)) hO h (by show p + 3 ≤ N; omega) d_Wo_nameSort_36 d_Wo_nameSort_37 d_Wo_nameSort_38 d_Wo_nameSort_40 d_Wo_nameSort_43 rfl (B50 e) B46
  refine wm_iload_n d_Wo_nameSort_0 rfl rfl ?_
  by_cases c : n < 3 ∨ 7 < n
  · exact wm_tableOut (tgt := 239) d_Wo_nameSort_1 ⟨by omega, by omega⟩ (by omega) rfl B239
  · have c5 : n = 3 ∨ n = 4 ∨ n = 5 ∨ n = 6 ∨ n = 7 := by omega
    rcases c5 with e | e | e | e | e
    · exact wm_tableIn (tgt := 36) (off := 35) d_Wo_nameSort_1 ⟨by omega, by omega⟩ (by omega) (by omega) (by rw [e]; rfl) rfl (B36 e)
    · exact wm_tableIn (tgt := 82) (off := 81) d_Wo_nameSort_1 ⟨by omega, by omega⟩ (by omega) (by omega) (by rw [e]; rfl) rfl (B82 e)
    · exact wm_tableIn (tgt := 159) (off := 158) d_Wo_nameSort_1 ⟨by omega, by omega⟩ (by omega) (by omega) (by rw [e]; rfl) rfl (B159 e)
    · exact wm_tableIn (tgt := 205) (off := 204) d_Wo_nameSort_1 ⟨by omega, by omega⟩ (by omega) (by omega) (by rw [e]; rfl) rfl (B205 e)
    · exact wm_tableIn (tgt := 222) (off := 221) d_Wo_nameSort_1 ⟨by omega, by omega⟩ (by omega) (by omega) (by rw [e]; rfl) rfl (B222 e)
theorem s_MM_is {f0 e : Nat} (hJ : JD G) (hs : Str G t n f) (hO : mOk M) (h : Wd M a) (hfe : f0 ≤ 16384 ∧ f0 < e ∧ e ≤ f0 + 40) : Ci G y_MM_is (d + 4) [vr a, vi f0, vi e, vo t] M (fun r M' => M' = M ∧ (r = 0 ∨ r = 1)) := by
  obtain ⟨A0, hv, hT⟩ := hs.2.2
  have hn := hT.2.1
  obtain ⟨f1, f2, f3⟩ := hfe
  have step : ∀ (b : Int) (i : Nat), (b = 0 ∨ b = 1) → i ≤ n → (i < n → ∀ b' : Int, (b' = 0 ∨ b' = 1) → mWm G y_MM_is (d + 4) 20 [vr a, vi f0, vi e, vo t, vi b', vi ((i + 1 : Nat) : Int)] [] M (fun r M' => ∃ x, r = some (vi x) ∧ M' = M ∧ (x = 0 ∨ x = 1))) → mWm G y_MM_is (d + 4) 20 [vr a, vi f0, vi e, vo t, vi b, vi (i : Int)] [] M (fun r M' => ∃ x, r = some (vi x) ∧ M' = M ∧ (x = 0 ∨ x = 1)) := by
    intro b i hb hi ih
    have ib : i32 b := by rcases hb with e | e <;> subst e <;> exact ⟨by decide, by decide⟩
    have fin : mWm G y_MM_is (d + 4) 64 [vr a, vi f0, vi e, vo t, vi b, vi (i : Int)] [] M (fun r M' => ∃ x, r = some (vi x) ∧ M' = M ∧ (x = 0 ∨ x = 1)) := by
      refine wm_iload d_MM_is_64 rfl ?_
      refine wm_ireturn d_MM_is_66 rfl (m_nb hb) ?_
      exact ⟨_, rfl, rfl, hb⟩
    refine wm_iload d_MM_is_20 rfl ?_
    refine wm_if_eq (tgt := 64) d_MM_is_22 rfl ib (fun _ => fin) (fun _ => ?_)
    refine wm_iload d_MM_is_25 rfl ?_
    refine wm_aldO_n d_MM_is_27 rfl rfl ?_
    refine wm_strLen (d := d + 2) hJ hs kt_lenM (Nat.le_of_ble_eq_true rfl) d_MM_is_28 ?_
    refine wm_icmp_ge (tgt := 64) d_MM_is_31 rfl ⟨by omega, by omega⟩ ⟨by omega, by omega⟩ (fun _ => fin) (fun c => ?_)
    have hin : i < n := by omega
    have ih := ih hin
    refine wm_aload_n d_MM_is_34 rfl rfl ?_
    refine wm_iload_n d_MM_is_35 rfl rfl ?_
    refine wm_iload d_MM_is_36 rfl ?_
    refine wm_iadd d_MM_is_38 ?_
    rw [show (f0 : Int) + (i : Int) = ((f0 + i : Nat) : Int) by omega]
    refine cf_MM_159 rfl d_MM_is_39 h.1.1 (Nat.le_of_ble_eq_true rfl) ?_
    refine (s_MM_letter (d := d + 2) (by omega) hO h).mono (fun x M' q => ?_)
    obtain ⟨eM, hx⟩ := q
    have ix : i32 x := by rw [hx]; exact lt_i32 hO
    rw [eM]
    refine wm_aldO_n d_MM_is_42 rfl rfl ?_
    refine wm_iload d_MM_is_43 rfl ?_
    refine wm_strAt (d := d) hJ hs hin kt_chaM (Nat.le_of_ble_eq_true rfl) d_MM_is_45 ?_
    have hf := hT.2.2 i hin
    have nxt : ∀ b' : Int, (b' = 0 ∨ b' = 1) → mWm G y_MM_is (d + 4) 56 [vr a, vi f0, vi e, vo t, vi b, vi (i : Int)] [vi b'] M (fun r M' => ∃ x, r = some (vi x) ∧ M' = M ∧ (x = 0 ∨ x = 1)) := by
      intro b' hb'
      refine wm_istore d_MM_is_56 (by decide) (L' := [vr a, vi f0, vi e, vo t, vi b', vi (i : Int)]) rfl ?_
      refine wm_iinc d_MM_is_58 (by decide) rfl (L' := [vr a, vi f0, vi e, vo t, vi b', vi ((i : Int) + 1)]) rfl ?_
      refine wm_goto (tgt := 20) d_MM_is_61 rfl ?_
      have ih := ih b' hb'
      rw [show ((i + 1 : Nat) : Int) = (i : Int) + 1 by omega] at ih
      exact ih
    refine wm_icmp_ne (tgt := 55) d_MM_is_48 rfl ix ⟨by omega, by omega⟩ (fun _ => ?_) (fun _ => ?_)
    · refine wm_iconst d_MM_is_55 ?_
      exact nxt 0 (Or.inl rfl)
    · refine wm_iconst d_MM_is_51 ?_
      refine wm_goto (tgt := 56) d_MM_is_52 rfl ?_
      exact nxt 1 (Or.inr rfl)
  have all : ∀ (q i : Nat) (b : Int), (b = 0 ∨ b = 1) → n = i + q → mWm G y_MM_is (d + 4) 20 [vr a, vi f0, vi e, vo t, vi b, vi (i : Int)] [] M (fun r M' => ∃ x, r = some (vi x) ∧ M' = M ∧ (x = 0 ∨ x = 1)) := by
    intro q
    induction q with
    | zero => exact fun i b hb e => step b i hb (by omega) (fun c => by omega)
    | succ q ih => exact fun i b hb e => step b i hb (by omega) (fun _ b' hb' => ih (i + 1) b' hb' (by omega))
  have go : ∀ b : Int, (b = 0 ∨ b = 1) → mWm G y_MM_is (d + 4) 15 [vr a, vi f0, vi e, vo t, vd, vd] [vi b] M (fun r M' => ∃ x, r = some (vi x) ∧ M' = M ∧ (x = 0 ∨ x = 1)) := by
    intro b hb
    refine wm_istore d_MM_is_15 (by decide) (L' := [vr a, vi f0, vi e, vo t, vi b, vd]) rfl ?_
    refine wm_iconst d_MM_is_17 ?_
    refine wm_istore d_MM_is_18 (by decide) (L' := [vr a, vi f0, vi e, vo t, vi b, vi 0]) rfl ?_
    exact all n 0 b hb (by omega)
  refine wm_open (y := y_MM_is) rfl (Nat.le_of_ble_eq_true rfl) (L := [vr a, vi f0, vi e, vo t, vd, vd]) rfl ?_
  refine wm_iload_n d_MM_is_0 rfl rfl ?_
  refine wm_iload_n d_MM_is_1 rfl rfl ?_
  refine wm_isub d_MM_is_2 ?_
  refine wm_aldO_n d_MM_is_3 rfl rfl ?_
  refine wm_strLen (d := d + 2) hJ hs kt_lenM (Nat.le_of_ble_eq_true rfl) d_MM_is_4 ?_
  refine wm_icmp_ne (tgt := 14) d_MM_is_7 rfl ⟨by omega, by omega⟩ ⟨by omega, by omega⟩ (fun _ => ?_) (fun _ => ?_)
  · refine wm_iconst d_MM_is_14 ?_
    exact go 0 (Or.inl rfl)
  · refine wm_iconst d_MM_is_10 ?_
    refine wm_goto (tgt := 15) d_MM_is_11 rfl ?_
    exact go 1 (Or.inr rfl)
theorem wk_test {f e : Nat} {tx : String} {k m tgt : Nat} {off : Int} (hJ : JD G) (hl : Lit G "ChanceArenaModel" k tx m) (hO : mOk M) (h : Wd M a) (hfe : f ≤ 16384 ∧ f < e ∧ e ≤ f + 40) (h0 : decode y_MM_wordKind.2.1 pc = .ok (.aload_n 0, 1)) (h1 : decode y_MM_wordKind.2.1 (pc + 1) = .ok (.iload_n 1, 1)) (h1' : decode y_MM_wordKind.2.1 (pc + 2) = .ok (.iload_n 2, 1)) (h2 : decode y_MM_wordKind.2.1 (pc + 3) = .ok (.ldc k, 2)) (h3 : decode y_MM_wordKind.2.1 (pc + 5) = .ok (.invokevirtual 178, 3)) (h4 : decode y_MM_wordKind.2.1 (pc + 8) = .ok (.ifCond .eq off, 3)) (ht : ((pc + 8 : Nat) : Int) + off = (tgt : Int)) (kt : mWm G y_MM_wordKind (d + 5) tgt [vr a, vi f, vi e] [] M Q) (kf : mWm G y_MM_wordKind (d + 5) (pc + 11) [vr a, vi f, vi e] [] M Q) : mWm G y_MM_wordKind (d + 5) pc [vr a, vi f, vi e] [] M Q := by
  obtain ⟨t, g, hr, hs⟩ := hl
  refine wm_aload_n h0 rfl rfl ?_
  refine wm_iload_n h1 rfl rfl ?_
  refine wm_iload_n h1' rfl rfl ?_
  refine wm_ldcS rfl hr h2 ?_
  refine wm_callV (y2 := y_MM_is) (c := 13) (n := 3) (As := [vi f, vi e, vo t]) rfl rfl rfl kt_isL kt_isI ks_MM_is k1_14 kt_isC ⟨by decide, by decide, by decide +kernel⟩ (by decide) rfl rfl (Nat.le_of_ble_eq_true rfl) h3 h.1.1 ?_
  refine mCm.mono (s_MM_is (d := d) hJ hs hO h hfe) (fun r M' q => ?_)
  obtain ⟨x, rfl, rfl, hx⟩ := q
  exact wm_if_eq h4 ht (by rcases hx with e | e <;> subst e <;> exact ⟨by decide, by decide⟩) (fun _ => kt) (fun _ => kf)
theorem s_MM_wordKind {f e : Nat} (hJ : JD G) (hL : ∀ q, q ∈ litM → Lit G "ChanceArenaModel" q.1 q.2.1 q.2.2) (hO : mOk M) (h : Wd M a) (hfe : f ≤ 16384 ∧ f < e ∧ e ≤ f + 40) : Ci G y_MM_wordKind (d + 5) [vr a, vi f, vi e] M (fun r M' => M' = M ∧ 1 ≤ r ∧ r ≤ 15 ∧ r ≠ 2) := by
  refine wm_open (y := y_MM_wordKind) rfl (Nat.le_of_ble_eq_true rfl) (L := [vr a, vi f, vi e]) rfl ?_
  refine (?_ : ∀ Q9 : Option mV → mM → Prop, (∀ x : Int, 1 ≤ x → x ≤ 15 → x ≠ 2 → Q9 (some (vi x)) M) → mWm G y_MM_wordKind (d + 5) 0 [vr a, vi f, vi e] [] M Q9) _ (fun x a b c => ⟨x, rfl, rfl, a, b, c⟩)
  intro Q9 hend
  have B115 : mWm G y_MM_wordKind (d + 5) 115 [vr a, vi f, vi e] [] M Q9 := by
    refine wm_iconst d_MM_wordKind_115 ?_
    refine wm_goto (tgt := 120) d_MM_wordKind_116 rfl ?_
    refine wm_ireturn d_MM_wordKind_120 rfl rfl ?_
    exact hend _ (by decide) (by decide) (by decide)
  have B119 : mWm G y_MM_wordKind (d + 5) 119 [vr a, vi f, vi e] [] M Q9 := by
    refine wm_iconst d_MM_wordKind_119 ?_
    refine wm_ireturn d_MM_wordKind_120 rfl rfl ?_
    exact hend _ (by decide) (by decide) (by decide)
  have B132 : mWm G y_MM_wordKind (d + 5) 132 [vr a, vi f, vi e] [] M Q9 := by
    refine wm_iconst d_MM_wordKind_132 ?_
    refine wm_goto (tgt := 137) d_MM_wordKind_133 rfl ?_
    refine wm_ireturn d_MM_wordKind_137 rfl rfl ?_
    exact hend _ (by decide) (by decide) (by decide)
  have B136 : mWm G y_MM_wordKind (d + 5) 136 [vr a, vi f, vi e] [] M Q9 := by
    refine wm_iconst d_MM_wordKind_136 ?_
    refine wm_ireturn d_MM_wordKind_137 rfl rfl ?_
    exact hend _ (by decide) (by decide) (by decide)
  have B149 : mWm G y_MM_wordKind (d + 5) 149 [vr a, vi f, vi e] [] M Q9 := by
    refine wm_iconst d_MM_wordKind_149 ?_
    refine wm_goto (tgt := 154) d_MM_wordKind_150 rfl ?_
    refine wm_ireturn d_MM_wordKind_154 rfl rfl ?_
    exact hend _ (by decide) (by decide) (by decide)
  have B153 : mWm G y_MM_wordKind (d + 5) 153 [vr a, vi f, vi e] [] M Q9 := by
    refine wm_iconst d_MM_wordKind_153 ?_
    refine wm_ireturn d_MM_wordKind_154 rfl rfl ?_
    exact hend _ (by decide) (by decide) (by decide)
  have B166 : mWm G y_MM_wordKind (d + 5) 166 [vr a, vi f, vi e] [] M Q9 := by
    refine wm_bipush d_MM_wordKind_166 (by decide) ?_
    refine wm_goto (tgt := 188) d_MM_wordKind_168 rfl ?_
    refine wm_ireturn d_MM_wordKind_188 rfl rfl ?_
    exact hend _ (by decide) (by decide) (by decide)
  have B182 : mWm G y_MM_wordKind (d + 5) 182 [vr a, vi f, vi e] [] M Q9 := by
    refine wm_bipush d_MM_wordKind_182 (by decide) ?_
    refine wm_goto (tgt := 188) d_MM_wordKind_184 rfl ?_
    refine wm_ireturn d_MM_wordKind_188 rfl rfl ?_
    exact hend _ (by decide) (by decide) (by decide)
  have B187 : mWm G y_MM_wordKind (d + 5) 187 [vr a, vi f, vi e] [] M Q9 := by
    refine wm_iconst d_MM_wordKind_187 ?_
    refine wm_ireturn d_MM_wordKind_188 rfl rfl ?_
    exact hend _ (by decide) (by decide) (by decide)
  have B200 : mWm G y_MM_wordKind (d + 5) 200 [vr a, vi f, vi e] [] M Q9 := by
    refine wm_bipush d_MM_wordKind_200 (by decide) ?_
    refine wm_goto (tgt := 238) d_MM_wordKind_202 rfl ?_
    refine wm_ireturn d_MM_wordKind_238 rfl rfl ?_
    exact hend _ (by decide) (by decide) (by decide)
  have B216 : mWm G y_MM_wordKind (d + 5) 216 [vr a, vi f, vi e] [] M Q9 := by
    refine wm_bipush d_MM_wordKind_216 (by decide) ?_
    refine wm_goto (tgt := 238) d_MM_wordKind_218 rfl ?_
    refine wm_ireturn d_MM_wordKind_238 rfl rfl ?_
    exact hend _ (by decide) (by decide) (by decide)
  have B232 : mWm G y_MM_wordKind (d + 5) 232 [vr a, vi f, vi e] [] M Q9 := by
    refine wm_bipush d_MM_wordKind_232 (by decide) ?_
    refine wm_goto (tgt := 238) d_MM_wordKind_234 rfl ?_
    refine wm_ireturn d_MM_wordKind_238 rfl rfl ?_
    exact hend _ (by decide) (by decide) (by decide)
  have B237 : mWm G y_MM_wordKind (d + 5) 237 [vr a, vi f, vi e] [] M Q9 := by
    refine wm_iconst d_MM_wordKind_237 ?_
    refine wm_ireturn d_MM_wordKind_238 rfl rfl ?_
    exact hend _ (by decide) (by decide) (by decide)
  have B250 : mWm G y_MM_wordKind (d + 5) 250 [vr a, vi f, vi e] [] M Q9 := by
    refine wm_bipush d_MM_wordKind_250 (by decide) ?_
    refine wm_goto (tgt := 256) d_MM_wordKind_252 rfl ?_
    refine wm_ireturn d_MM_wordKind_256 rfl rfl ?_
    exact hend _ (by decide) (by decide) (by decide)
  have B255 : mWm G y_MM_wordKind (d + 5) 255 [vr a, vi f, vi e] [] M Q9 := by
    refine wm_iconst d_MM_wordKind_255 ?_
    refine wm_ireturn d_MM_wordKind_256 rfl rfl ?_
    exact hend _ (by decide) (by decide) (by decide)
  have B268 : mWm G y_MM_wordKind (d + 5) 268 [vr a, vi f, vi e] [] M Q9 := by
    refine wm_bipush d_MM_wordKind_268 (by decide) ?_
    refine wm_goto (tgt := 274) d_MM_wordKind_270 rfl ?_
    refine wm_ireturn d_MM_wordKind_274 rfl rfl ?_
    exact hend _ (by decide) (by decide) (by decide)
  have B273 : mWm G y_MM_wordKind (d + 5) 273 [vr a, vi f, vi e] [] M Q9 := by
    refine wm_iconst d_MM_wordKind_273 ?_
    refine wm_ireturn d_MM_wordKind_274 rfl rfl ?_
    exact hend _ (by decide) (by decide) (by decide)
  have B286 : mWm G y_MM_wordKind (d + 5) 286 [vr a, vi f, vi e] [] M Q9 := by
    refine wm_bipush d_MM_wordKind_286 (by decide) ?_
    refine wm_goto (tgt := 308) d_MM_wordKind_288 rfl ?_
    refine wm_ireturn d_MM_wordKind_308 rfl rfl ?_
    exact hend _ (by decide) (by decide) (by decide)
  have B302 : mWm G y_MM_wordKind (d + 5) 302 [vr a, vi f, vi e] [] M Q9 := by
    refine wm_bipush d_MM_wordKind_302 (by decide) ?_
    refine wm_goto (tgt := 308) d_MM_wordKind_304 rfl ?_
    refine wm_ireturn d_MM_wordKind_308 rfl rfl ?_
    exact hend _ (by decide) (by decide) (by decide)
  have B307 : mWm G y_MM_wordKind (d + 5) 307 [vr a, vi f, vi e] [] M Q9 := by
    refine wm_iconst d_MM_wordKind_307 ?_
    refine wm_ireturn d_MM_wordKind_308 rfl rfl ?_
    exact hend _ (by decide) (by decide) (by decide)
  have B320 : mWm G y_MM_wordKind (d + 5) 320 [vr a, vi f, vi e] [] M Q9 := by
    refine wm_bipush d_MM_wordKind_320 (by decide) ?_
    refine wm_goto (tgt := 326) d_MM_wordKind_322 rfl ?_
    refine wm_ireturn d_MM_wordKind_326 rfl rfl ?_
    exact hend _ (by decide) (by decide) (by decide)
  have B325 : mWm G y_MM_wordKind (d + 5) 325 [vr a, vi f, vi e] [] M Q9 := by
    refine wm_iconst d_MM_wordKind_325 ?_
    refine wm_ireturn d_MM_wordKind_326 rfl rfl ?_
    exact hend _ (by decide) (by decide) (by decide)
  have B327 : mWm G y_MM_wordKind (d + 5) 327 [vr a, vi f, vi e] [] M Q9 := by
    refine wm_iconst d_MM_wordKind_327 ?_
    refine wm_ireturn d_MM_wordKind_328 rfl rfl ?_
    exact hend _ (by decide) (by decide) (by decide)
  have B309 : mWm G y_MM_wordKind (d + 5) 309 [vr a, vi f, vi e] [] M Q9 := wk_test (tgt := 325) hJ (hL (204, "least", 5) (List.mem_of_getElem? (i := 12) rfl)) hO h hfe d_MM_wordKind_309 d_MM_wordKind_310 d_MM_wordKind_311 d_MM_wordKind_312 d_MM_wordKind_314 d_MM_wordKind_317 rfl B325 B320
  have B291 : mWm G y_MM_wordKind (d + 5) 291 [vr a, vi f, vi e] [] M Q9 := wk_test (tgt := 307) hJ (hL (202, "true", 4) (List.mem_of_getElem? (i := 11) rfl)) hO h hfe d_MM_wordKind_291 d_MM_wordKind_292 d_MM_wordKind_293 d_MM_wordKind_294 d_MM_wordKind_296 d_MM_wordKind_299 rfl B307 B302
  have B275 : mWm G y_MM_wordKind (d + 5) 275 [vr a, vi f, vi e] [] M Q9 := wk_test (tgt := 291) hJ (hL (200, "target", 6) (List.mem_of_getElem? (i := 10) rfl)) hO h hfe d_MM_wordKind_275 d_MM_wordKind_276 d_MM_wordKind_277 d_MM_wordKind_278 d_MM_wordKind_280 d_MM_wordKind_283 rfl B291 B286
  have B257 : mWm G y_MM_wordKind (d + 5) 257 [vr a, vi f, vi e] [] M Q9 := wk_test (tgt := 273) hJ (hL (198, "stay", 4) (List.mem_of_getElem? (i := 9) rfl)) hO h hfe d_MM_wordKind_257 d_MM_wordKind_258 d_MM_wordKind_259 d_MM_wordKind_260 d_MM_wordKind_262 d_MM_wordKind_265 rfl B273 B268
  have B239 : mWm G y_MM_wordKind (d + 5) 239 [vr a, vi f, vi e] [] M Q9 := wk_test (tgt := 255) hJ (hL (196, "init", 4) (List.mem_of_getElem? (i := 8) rfl)) hO h hfe d_MM_wordKind_239 d_MM_wordKind_240 d_MM_wordKind_241 d_MM_wordKind_242 d_MM_wordKind_244 d_MM_wordKind_247 rfl B255 B250
  have B221 : mWm G y_MM_wordKind (d + 5) 221 [vr a, vi f, vi e] [] M Q9 := wk_test (tgt := 237) hJ (hL (194, "most", 4) (List.mem_of_getElem? (i := 7) rfl)) hO h hfe d_MM_wordKind_221 d_MM_wordKind_222 d_MM_wordKind_223 d_MM_wordKind_224 d_MM_wordKind_226 d_MM_wordKind_229 rfl B237 B232
  have B205 : mWm G y_MM_wordKind (d + 5) 205 [vr a, vi f, vi e] [] M Q9 := wk_test (tgt := 221) hJ (hL (192, "min", 3) (List.mem_of_getElem? (i := 6) rfl)) hO h hfe d_MM_wordKind_205 d_MM_wordKind_206 d_MM_wordKind_207 d_MM_wordKind_208 d_MM_wordKind_210 d_MM_wordKind_213 rfl B221 B216
  have B189 : mWm G y_MM_wordKind (d + 5) 189 [vr a, vi f, vi e] [] M Q9 := wk_test (tgt := 205) hJ (hL (190, "max", 3) (List.mem_of_getElem? (i := 5) rfl)) hO h hfe d_MM_wordKind_189 d_MM_wordKind_190 d_MM_wordKind_191 d_MM_wordKind_192 d_MM_wordKind_194 d_MM_wordKind_197 rfl B205 B200
  have B171 : mWm G y_MM_wordKind (d + 5) 171 [vr a, vi f, vi e] [] M Q9 := wk_test (tgt := 187) hJ (hL (188, "false", 5) (List.mem_of_getElem? (i := 4) rfl)) hO h hfe d_MM_wordKind_171 d_MM_wordKind_172 d_MM_wordKind_173 d_MM_wordKind_174 d_MM_wordKind_176 d_MM_wordKind_179 rfl B187 B182
  have B155 : mWm G y_MM_wordKind (d + 5) 155 [vr a, vi f, vi e] [] M Q9 := wk_test (tgt := 171) hJ (hL (186, "formula", 7) (List.mem_of_getElem? (i := 3) rfl)) hO h hfe d_MM_wordKind_155 d_MM_wordKind_156 d_MM_wordKind_157 d_MM_wordKind_158 d_MM_wordKind_160 d_MM_wordKind_163 rfl B171 B166
  have B138 : mWm G y_MM_wordKind (d + 5) 138 [vr a, vi f, vi e] [] M Q9 := wk_test (tgt := 153) hJ (hL (184, "bool", 4) (List.mem_of_getElem? (i := 2) rfl)) hO h hfe d_MM_wordKind_138 d_MM_wordKind_139 d_MM_wordKind_140 d_MM_wordKind_141 d_MM_wordKind_143 d_MM_wordKind_146 rfl B153 B149
  have B121 : mWm G y_MM_wordKind (d + 5) 121 [vr a, vi f, vi e] [] M Q9 := wk_test (tgt := 136) hJ (hL (182, "var", 3) (List.mem_of_getElem? (i := 1) rfl)) hO h hfe d_MM_wordKind_121 d_MM_wordKind_122 d_MM_wordKind_123 d_MM_wordKind_124 d_MM_wordKind_126 d_MM_wordKind_129 rfl B136 B132
  have B104 : mWm G y_MM_wordKind (d + 5) 104 [vr a, vi f, vi e] [] M Q9 := wk_test (tgt := 119) hJ (hL (176, "const", 5) (List.mem_of_getElem? (i := 0) rfl)) hO h hfe d_MM_wordKind_104 d_MM_wordKind_105 d_MM_wordKind_106 d_MM_wordKind_107 d_MM_wordKind_109 d_MM_wordKind_112 rfl B119 B115
  refine wm_aload_n d_MM_wordKind_0 rfl rfl ?_
  refine wm_iload_n d_MM_wordKind_1 rfl rfl ?_
  refine cf_MM_159 rfl d_MM_wordKind_2 h.1.1 (Nat.le_of_ble_eq_true rfl) ?_
  refine (s_MM_letter (d := d + 3) (by omega) hO h).mono (fun x M' q => ?_)
  obtain ⟨eM, hx⟩ := q
  have ix : i32 x := by rw [hx]; exact lt_i32 hO
  rw [eM]
  clear hx
  by_cases c : x < 98 ∨ 118 < x
  · exact wm_tableOut (tgt := 327) d_MM_wordKind_5 ix c rfl B327
  · have c5 : x = 98 ∨ x = 99 ∨ x = 100 ∨ x = 101 ∨ x = 102 ∨ x = 103 ∨ x = 104 ∨ x = 105 ∨ x = 106 ∨ x = 107 ∨ x = 108 ∨ x = 109 ∨ x = 110 ∨ x = 111 ∨ x = 112 ∨ x = 113 ∨ x = 114 ∨ x = 115 ∨ x = 116 ∨ x = 117 ∨ x = 118 := by omega
    rcases c5 with rfl | rfl | rfl | rfl | rfl | rfl | rfl | rfl | rfl | rfl | rfl | rfl | rfl | rfl | rfl | rfl | rfl | rfl | rfl | rfl | rfl
    · exact wm_tableIn (tgt := 138) (off := 133) d_MM_wordKind_5 ix (by decide) (by decide) rfl rfl B138
    · exact wm_tableIn (tgt := 104) (off := 99) d_MM_wordKind_5 ix (by decide) (by decide) rfl rfl B104
    · exact wm_tableIn (tgt := 327) (off := 322) d_MM_wordKind_5 ix (by decide) (by decide) rfl rfl B327
    · exact wm_tableIn (tgt := 327) (off := 322) d_MM_wordKind_5 ix (by decide) (by decide) rfl rfl B327
    · exact wm_tableIn (tgt := 155) (off := 150) d_MM_wordKind_5 ix (by decide) (by decide) rfl rfl B155
    · exact wm_tableIn (tgt := 327) (off := 322) d_MM_wordKind_5 ix (by decide) (by decide) rfl rfl B327
    · exact wm_tableIn (tgt := 327) (off := 322) d_MM_wordKind_5 ix (by decide) (by decide) rfl rfl B327
    · exact wm_tableIn (tgt := 239) (off := 234) d_MM_wordKind_5 ix (by decide) (by decide) rfl rfl B239
    · exact wm_tableIn (tgt := 327) (off := 322) d_MM_wordKind_5 ix (by decide) (by decide) rfl rfl B327
    · exact wm_tableIn (tgt := 327) (off := 322) d_MM_wordKind_5 ix (by decide) (by decide) rfl rfl B327
    · exact wm_tableIn (tgt := 309) (off := 304) d_MM_wordKind_5 ix (by decide) (by decide) rfl rfl B309
    · exact wm_tableIn (tgt := 189) (off := 184) d_MM_wordKind_5 ix (by decide) (by decide) rfl rfl B189
    · exact wm_tableIn (tgt := 327) (off := 322) d_MM_wordKind_5 ix (by decide) (by decide) rfl rfl B327
    · exact wm_tableIn (tgt := 327) (off := 322) d_MM_wordKind_5 ix (by decide) (by decide) rfl rfl B327
    · exact wm_tableIn (tgt := 327) (off := 322) d_MM_wordKind_5 ix (by decide) (by decide) rfl rfl B327
    · exact wm_tableIn (tgt := 327) (off := 322) d_MM_wordKind_5 ix (by decide) (by decide) rfl rfl B327
    · exact wm_tableIn (tgt := 327) (off := 322) d_MM_wordKind_5 ix (by decide) (by decide) rfl rfl B327
    · exact wm_tableIn (tgt := 257) (off := 252) d_MM_wordKind_5 ix (by decide) (by decide) rfl rfl B257
    · exact wm_tableIn (tgt := 275) (off := 270) d_MM_wordKind_5 ix (by decide) (by decide) rfl rfl B275
    · exact wm_tableIn (tgt := 327) (off := 322) d_MM_wordKind_5 ix (by decide) (by decide) rfl rfl B327
    · exact wm_tableIn (tgt := 121) (off := 116) d_MM_wordKind_5 ix (by decide) (by decide) rfl rfl B121
end NAM
theorem WKs.of {G : mG} (h : LT G) : WKs G := fun d a f e M hO hw h1 h2 h3 h4 => s_MM_wordKind h.1 h.2.2 hO hw ⟨by omega, h1, h3⟩
theorem NSs.of {G : mG} (h : LT G) : NSs G := fun d w T A B D N C p n M hO hw h1 h2 h3 => s_Wo_nameSort h.1 h.2.1 hO hw h1 h3
