theorem k11_100 : (Jvm.Cond.code ({ cls := "ChanceArenaModel", name := "until", desc := "(II)I" } : Jvm.MethodName) prog_15_method_63_code (7 : Nat) (Option.some Jvm.ClassFile.FieldType.int)) ∈ lw_R := zR (zk_11 _ (List.mem_of_getElem? (i := 100) (by decide +kernel))) rfl
theorem k11_224 : (Jvm.Cond.code ({ cls := "ChanceArenaModel", name := "reckon", desc := "(IJJJJI)V" } : Jvm.MethodName) prog_15_method_62_code (11 : Nat) (Option.none : Option Jvm.ClassFile.FieldType)) ∈ lw_R := zR (zk_11 _ (List.mem_of_getElem? (i := 224) (by decide +kernel))) rfl
theorem k11_225 : (Jvm.Cond.methodLink "ChanceArenaModel" (423 : Nat) ({ cls := "ChanceArenaModel", name := "pushFraction", desc := "(JJI)V" } : Jvm.MethodName)) ∈ lw_R := zR (zk_11 _ (List.mem_of_getElem? (i := 225) (by decide +kernel))) rfl
theorem k11_227 : (Jvm.Cond.instanceMethod ({ cls := "ChanceArenaModel", name := "pushFraction", desc := "(JJI)V" } : Jvm.MethodName)) ∈ lw_R := zR (zk_11 _ (List.mem_of_getElem? (i := 227) (by decide +kernel))) rfl
theorem d_MM_reckon_0 : decode prog_15_method_62_code 0 = .ok (.iload_n 1, 1) := by decide +kernel
theorem d_MM_reckon_1 : decode prog_15_method_62_code 1 = .ok (.tableswitch 156 24 27 #[31, 53, 75, 91], 31) := by decide +kernel
theorem d_MM_reckon_32 : decode prog_15_method_62_code 32 = .ok (.aload_n 0, 1) := by decide +kernel
theorem d_MM_reckon_33 : decode prog_15_method_62_code 33 = .ok (.lload_n 2, 1) := by decide +kernel
theorem d_MM_reckon_34 : decode prog_15_method_62_code 34 = .ok (.lload 8, 2) := by decide +kernel
theorem d_MM_reckon_36 : decode prog_15_method_62_code 36 = .ok (.lmul, 1) := by decide +kernel
theorem d_MM_reckon_37 : decode prog_15_method_62_code 37 = .ok (.lload 6, 2) := by decide +kernel
theorem d_MM_reckon_39 : decode prog_15_method_62_code 39 = .ok (.lload 4, 2) := by decide +kernel
theorem d_MM_reckon_41 : decode prog_15_method_62_code 41 = .ok (.lmul, 1) := by decide +kernel
theorem d_MM_reckon_42 : decode prog_15_method_62_code 42 = .ok (.ladd, 1) := by decide +kernel
theorem d_MM_reckon_43 : decode prog_15_method_62_code 43 = .ok (.lload 4, 2) := by decide +kernel
theorem d_MM_reckon_45 : decode prog_15_method_62_code 45 = .ok (.lload 8, 2) := by decide +kernel
theorem d_MM_reckon_47 : decode prog_15_method_62_code 47 = .ok (.lmul, 1) := by decide +kernel
theorem d_MM_reckon_48 : decode prog_15_method_62_code 48 = .ok (.iload 10, 2) := by decide +kernel
theorem d_MM_reckon_50 : decode prog_15_method_62_code 50 = .ok (.invokevirtual 423, 3) := by decide +kernel
theorem ks_MM_pushFraction : Cond.selects "ChanceArenaModel" ({ cls := "ChanceArenaModel", name := "pushFraction", desc := "(JJI)V" } : Jvm.MethodName) ({ cls := "ChanceArenaModel", name := "pushFraction", desc := "(JJI)V" } : Jvm.MethodName) ∈ lw_R := zR (List.mem_append_left _ (List.mem_of_getElem? (i := 126) (by decide +kernel))) rfl
theorem d_MM_reckon_53 : decode prog_15_method_62_code 53 = .ok (.return_, 1) := by decide +kernel
theorem d_MM_reckon_54 : decode prog_15_method_62_code 54 = .ok (.aload_n 0, 1) := by decide +kernel
theorem d_MM_reckon_55 : decode prog_15_method_62_code 55 = .ok (.lload_n 2, 1) := by decide +kernel
theorem d_MM_reckon_56 : decode prog_15_method_62_code 56 = .ok (.lload 8, 2) := by decide +kernel
theorem d_MM_reckon_58 : decode prog_15_method_62_code 58 = .ok (.lmul, 1) := by decide +kernel
theorem d_MM_reckon_59 : decode prog_15_method_62_code 59 = .ok (.lload 6, 2) := by decide +kernel
theorem d_MM_reckon_61 : decode prog_15_method_62_code 61 = .ok (.lload 4, 2) := by decide +kernel
theorem d_MM_reckon_63 : decode prog_15_method_62_code 63 = .ok (.lmul, 1) := by decide +kernel
theorem d_MM_reckon_64 : decode prog_15_method_62_code 64 = .ok (.lsub, 1) := by decide +kernel
theorem d_MM_reckon_65 : decode prog_15_method_62_code 65 = .ok (.lload 4, 2) := by decide +kernel
theorem d_MM_reckon_67 : decode prog_15_method_62_code 67 = .ok (.lload 8, 2) := by decide +kernel
theorem d_MM_reckon_69 : decode prog_15_method_62_code 69 = .ok (.lmul, 1) := by decide +kernel
theorem d_MM_reckon_70 : decode prog_15_method_62_code 70 = .ok (.iload 10, 2) := by decide +kernel
theorem d_MM_reckon_72 : decode prog_15_method_62_code 72 = .ok (.invokevirtual 423, 3) := by decide +kernel
theorem d_MM_reckon_75 : decode prog_15_method_62_code 75 = .ok (.return_, 1) := by decide +kernel
theorem d_MM_reckon_76 : decode prog_15_method_62_code 76 = .ok (.aload_n 0, 1) := by decide +kernel
theorem d_MM_reckon_77 : decode prog_15_method_62_code 77 = .ok (.lload_n 2, 1) := by decide +kernel
theorem d_MM_reckon_78 : decode prog_15_method_62_code 78 = .ok (.lload 6, 2) := by decide +kernel
theorem d_MM_reckon_80 : decode prog_15_method_62_code 80 = .ok (.lmul, 1) := by decide +kernel
theorem d_MM_reckon_81 : decode prog_15_method_62_code 81 = .ok (.lload 4, 2) := by decide +kernel
theorem d_MM_reckon_83 : decode prog_15_method_62_code 83 = .ok (.lload 8, 2) := by decide +kernel
theorem d_MM_reckon_85 : decode prog_15_method_62_code 85 = .ok (.lmul, 1) := by decide +kernel
theorem d_MM_reckon_86 : decode prog_15_method_62_code 86 = .ok (.iload 10, 2) := by decide +kernel
theorem d_MM_reckon_88 : decode prog_15_method_62_code 88 = .ok (.invokevirtual 423, 3) := by decide +kernel
theorem d_MM_reckon_91 : decode prog_15_method_62_code 91 = .ok (.return_, 1) := by decide +kernel
theorem d_MM_reckon_92 : decode prog_15_method_62_code 92 = .ok (.lload 6, 2) := by decide +kernel
theorem d_MM_reckon_94 : decode prog_15_method_62_code 94 = .ok (.lconst 0, 1) := by decide +kernel
theorem d_MM_reckon_95 : decode prog_15_method_62_code 95 = .ok (.lcmp, 1) := by decide +kernel
theorem d_MM_reckon_96 : decode prog_15_method_62_code 96 = .ok (.ifCond .ne 14, 3) := by decide +kernel
theorem d_MM_reckon_110 : decode prog_15_method_62_code 110 = .ok (.aload_n 0, 1) := by decide +kernel
theorem d_MM_reckon_111 : decode prog_15_method_62_code 111 = .ok (.lload 6, 2) := by decide +kernel
theorem d_MM_reckon_113 : decode prog_15_method_62_code 113 = .ok (.lconst 0, 1) := by decide +kernel
theorem d_MM_reckon_114 : decode prog_15_method_62_code 114 = .ok (.lcmp, 1) := by decide +kernel
theorem d_MM_reckon_115 : decode prog_15_method_62_code 115 = .ok (.ifCond .ge 11, 3) := by decide +kernel
theorem d_MM_reckon_126 : decode prog_15_method_62_code 126 = .ok (.lload_n 2, 1) := by decide +kernel
theorem d_MM_reckon_127 : decode prog_15_method_62_code 127 = .ok (.lload 8, 2) := by decide +kernel
theorem d_MM_reckon_129 : decode prog_15_method_62_code 129 = .ok (.lmul, 1) := by decide +kernel
theorem d_MM_reckon_130 : decode prog_15_method_62_code 130 = .ok (.lload 6, 2) := by decide +kernel
theorem d_MM_reckon_132 : decode prog_15_method_62_code 132 = .ok (.lconst 0, 1) := by decide +kernel
theorem d_MM_reckon_133 : decode prog_15_method_62_code 133 = .ok (.lcmp, 1) := by decide +kernel
theorem d_MM_reckon_134 : decode prog_15_method_62_code 134 = .ok (.ifCond .ge 12, 3) := by decide +kernel
theorem d_MM_reckon_146 : decode prog_15_method_62_code 146 = .ok (.lload 6, 2) := by decide +kernel
theorem d_MM_reckon_148 : decode prog_15_method_62_code 148 = .ok (.lload 4, 2) := by decide +kernel
theorem d_MM_reckon_150 : decode prog_15_method_62_code 150 = .ok (.lmul, 1) := by decide +kernel
theorem d_MM_reckon_151 : decode prog_15_method_62_code 151 = .ok (.iload 10, 2) := by decide +kernel
theorem d_MM_reckon_153 : decode prog_15_method_62_code 153 = .ok (.invokevirtual 423, 3) := by decide +kernel
theorem d_MM_reckon_156 : decode prog_15_method_62_code 156 = .ok (.return_, 1) := by decide +kernel
theorem d_MM_reckon_137 : decode prog_15_method_62_code 137 = .ok (.lload 6, 2) := by decide +kernel
theorem d_MM_reckon_139 : decode prog_15_method_62_code 139 = .ok (.lneg, 1) := by decide +kernel
theorem d_MM_reckon_140 : decode prog_15_method_62_code 140 = .ok (.lload 4, 2) := by decide +kernel
theorem d_MM_reckon_142 : decode prog_15_method_62_code 142 = .ok (.lmul, 1) := by decide +kernel
theorem d_MM_reckon_143 : decode prog_15_method_62_code 143 = .ok (.goto 8, 3) := by decide +kernel
theorem d_MM_reckon_118 : decode prog_15_method_62_code 118 = .ok (.lload_n 2, 1) := by decide +kernel
theorem d_MM_reckon_119 : decode prog_15_method_62_code 119 = .ok (.lneg, 1) := by decide +kernel
theorem d_MM_reckon_120 : decode prog_15_method_62_code 120 = .ok (.lload 8, 2) := by decide +kernel
theorem d_MM_reckon_122 : decode prog_15_method_62_code 122 = .ok (.lmul, 1) := by decide +kernel
theorem d_MM_reckon_123 : decode prog_15_method_62_code 123 = .ok (.goto 7, 3) := by decide +kernel
theorem d_MM_reckon_99 : decode prog_15_method_62_code 99 = .ok (.aload_n 0, 1) := by decide +kernel
theorem d_MM_reckon_100 : decode prog_15_method_62_code 100 = .ok (.bipush 7, 2) := by decide +kernel
theorem d_MM_reckon_102 : decode prog_15_method_62_code 102 = .ok (.iload 10, 2) := by decide +kernel
theorem d_MM_reckon_104 : decode prog_15_method_62_code 104 = .ok (.invokevirtual 351, 3) := by decide +kernel
theorem d_MM_reckon_107 : decode prog_15_method_62_code 107 = .ok (.goto 49, 3) := by decide +kernel
theorem d_MM_reckon_157 : decode prog_15_method_62_code 157 = .ok (.lload 4, 2) := by decide +kernel
theorem d_MM_reckon_159 : decode prog_15_method_62_code 159 = .ok (.lconst 1, 1) := by decide +kernel
theorem d_MM_reckon_160 : decode prog_15_method_62_code 160 = .ok (.lcmp, 1) := by decide +kernel
theorem d_MM_reckon_161 : decode prog_15_method_62_code 161 = .ok (.ifCond .ne 10, 3) := by decide +kernel
theorem d_MM_reckon_171 : decode prog_15_method_62_code 171 = .ok (.aload_n 0, 1) := by decide +kernel
theorem d_MM_reckon_172 : decode prog_15_method_62_code 172 = .ok (.bipush 8, 2) := by decide +kernel
theorem d_MM_reckon_174 : decode prog_15_method_62_code 174 = .ok (.iload 10, 2) := by decide +kernel
theorem d_MM_reckon_176 : decode prog_15_method_62_code 176 = .ok (.invokevirtual 351, 3) := by decide +kernel
theorem d_MM_reckon_179 : decode prog_15_method_62_code 179 = .ok (.goto 49, 3) := by decide +kernel
theorem d_MM_reckon_228 : decode prog_15_method_62_code 228 = .ok (.return_, 1) := by decide +kernel
theorem d_MM_reckon_164 : decode prog_15_method_62_code 164 = .ok (.lload 8, 2) := by decide +kernel
theorem d_MM_reckon_166 : decode prog_15_method_62_code 166 = .ok (.lconst 1, 1) := by decide +kernel
theorem d_MM_reckon_167 : decode prog_15_method_62_code 167 = .ok (.lcmp, 1) := by decide +kernel
theorem d_MM_reckon_168 : decode prog_15_method_62_code 168 = .ok (.ifCond .eq 14, 3) := by decide +kernel
theorem d_MM_reckon_182 : decode prog_15_method_62_code 182 = .ok (.lload 6, 2) := by decide +kernel
theorem d_MM_reckon_184 : decode prog_15_method_62_code 184 = .ok (.lconst 0, 1) := by decide +kernel
theorem d_MM_reckon_185 : decode prog_15_method_62_code 185 = .ok (.lcmp, 1) := by decide +kernel
theorem d_MM_reckon_186 : decode prog_15_method_62_code 186 = .ok (.ifCond .gt 14, 3) := by decide +kernel
theorem d_MM_reckon_200 : decode prog_15_method_62_code 200 = .ok (.aload_n 0, 1) := by decide +kernel
theorem d_MM_reckon_201 : decode prog_15_method_62_code 201 = .ok (.lload_n 2, 1) := by decide +kernel
theorem d_MM_reckon_202 : decode prog_15_method_62_code 202 = .ok (.lload 6, 2) := by decide +kernel
theorem d_MM_reckon_204 : decode prog_15_method_62_code 204 = .ok (.lrem, 1) := by decide +kernel
theorem d_MM_reckon_205 : decode prog_15_method_62_code 205 = .ok (.lconst 0, 1) := by decide +kernel
theorem d_MM_reckon_206 : decode prog_15_method_62_code 206 = .ok (.lcmp, 1) := by decide +kernel
theorem d_MM_reckon_207 : decode prog_15_method_62_code 207 = .ok (.ifCond .ge 13, 3) := by decide +kernel
theorem d_MM_reckon_220 : decode prog_15_method_62_code 220 = .ok (.lload_n 2, 1) := by decide +kernel
theorem d_MM_reckon_221 : decode prog_15_method_62_code 221 = .ok (.lload 6, 2) := by decide +kernel
theorem d_MM_reckon_223 : decode prog_15_method_62_code 223 = .ok (.lrem, 1) := by decide +kernel
theorem d_MM_reckon_224 : decode prog_15_method_62_code 224 = .ok (.lconst 1, 1) := by decide +kernel
theorem d_MM_reckon_225 : decode prog_15_method_62_code 225 = .ok (.invokevirtual 373, 3) := by decide +kernel
theorem d_MM_reckon_210 : decode prog_15_method_62_code 210 = .ok (.lload_n 2, 1) := by decide +kernel
theorem d_MM_reckon_211 : decode prog_15_method_62_code 211 = .ok (.lload 6, 2) := by decide +kernel
theorem d_MM_reckon_213 : decode prog_15_method_62_code 213 = .ok (.lrem, 1) := by decide +kernel
theorem d_MM_reckon_214 : decode prog_15_method_62_code 214 = .ok (.lload 6, 2) := by decide +kernel
theorem d_MM_reckon_216 : decode prog_15_method_62_code 216 = .ok (.ladd, 1) := by decide +kernel
theorem d_MM_reckon_217 : decode prog_15_method_62_code 217 = .ok (.goto 7, 3) := by decide +kernel
theorem d_MM_reckon_189 : decode prog_15_method_62_code 189 = .ok (.aload_n 0, 1) := by decide +kernel
theorem d_MM_reckon_190 : decode prog_15_method_62_code 190 = .ok (.bipush 7, 2) := by decide +kernel
theorem d_MM_reckon_192 : decode prog_15_method_62_code 192 = .ok (.iload 10, 2) := by decide +kernel
theorem d_MM_reckon_194 : decode prog_15_method_62_code 194 = .ok (.invokevirtual 351, 3) := by decide +kernel
theorem d_MM_reckon_197 : decode prog_15_method_62_code 197 = .ok (.goto 31, 3) := by decide +kernel
theorem d_MM_until_0 : decode prog_15_method_63_code 0 = .ok (.iconst 0, 1) := by decide +kernel
theorem d_MM_until_1 : decode prog_15_method_63_code 1 = .ok (.istore_n 3, 1) := by decide +kernel
theorem d_MM_until_2 : decode prog_15_method_63_code 2 = .ok (.iconst 0, 1) := by decide +kernel
theorem d_MM_until_3 : decode prog_15_method_63_code 3 = .ok (.istore 4, 2) := by decide +kernel
theorem d_MM_until_5 : decode prog_15_method_63_code 5 = .ok (.iload_n 1, 1) := by decide +kernel
theorem d_MM_until_6 : decode prog_15_method_63_code 6 = .ok (.istore 5, 2) := by decide +kernel
theorem d_MM_until_8 : decode prog_15_method_63_code 8 = .ok (.aload_n 0, 1) := by decide +kernel
theorem d_MM_until_9 : decode prog_15_method_63_code 9 = .ok (.iload 5, 2) := by decide +kernel
theorem d_MM_until_11 : decode prog_15_method_63_code 11 = .ok (.invokevirtual 302, 3) := by decide +kernel
theorem d_MM_until_14 : decode prog_15_method_63_code 14 = .ok (.iload_n 2, 1) := by decide +kernel
theorem d_MM_until_15 : decode prog_15_method_63_code 15 = .ok (.if_icmp .ne 12, 3) := by decide +kernel
theorem d_MM_until_27 : decode prog_15_method_63_code 27 = .ok (.aload_n 0, 1) := by decide +kernel
theorem d_MM_until_28 : decode prog_15_method_63_code 28 = .ok (.iload 5, 2) := by decide +kernel
theorem d_MM_until_30 : decode prog_15_method_63_code 30 = .ok (.invokevirtual 302, 3) := by decide +kernel
theorem d_MM_until_33 : decode prog_15_method_63_code 33 = .ok (.istore 6, 2) := by decide +kernel
theorem d_MM_until_35 : decode prog_15_method_63_code 35 = .ok (.iload 6, 2) := by decide +kernel
theorem d_MM_until_37 : decode prog_15_method_63_code 37 = .ok (.bipush 36, 2) := by decide +kernel
theorem d_MM_until_39 : decode prog_15_method_63_code 39 = .ok (.if_icmp .ne 9, 3) := by decide +kernel
theorem d_MM_until_48 : decode prog_15_method_63_code 48 = .ok (.iload 6, 2) := by decide +kernel
theorem d_MM_until_50 : decode prog_15_method_63_code 50 = .ok (.bipush 37, 2) := by decide +kernel
theorem d_MM_until_52 : decode prog_15_method_63_code 52 = .ok (.if_icmp .ne 9, 3) := by decide +kernel
theorem d_MM_until_61 : decode prog_15_method_63_code 61 = .ok (.iload_n 3, 1) := by decide +kernel
theorem d_MM_until_55 : decode prog_15_method_63_code 55 = .ok (.iload_n 3, 1) := by decide +kernel
theorem d_MM_until_56 : decode prog_15_method_63_code 56 = .ok (.iconst 1, 1) := by decide +kernel
theorem d_MM_until_57 : decode prog_15_method_63_code 57 = .ok (.isub, 1) := by decide +kernel
theorem d_MM_until_58 : decode prog_15_method_63_code 58 = .ok (.goto 4, 3) := by decide +kernel
theorem d_MM_until_42 : decode prog_15_method_63_code 42 = .ok (.iload_n 3, 1) := by decide +kernel
theorem d_MM_until_43 : decode prog_15_method_63_code 43 = .ok (.iconst 1, 1) := by decide +kernel
theorem d_MM_until_44 : decode prog_15_method_63_code 44 = .ok (.iadd, 1) := by decide +kernel
theorem d_MM_until_45 : decode prog_15_method_63_code 45 = .ok (.goto 17, 3) := by decide +kernel
theorem d_MM_until_18 : decode prog_15_method_63_code 18 = .ok (.iload_n 3, 1) := by decide +kernel
theorem d_MM_until_19 : decode prog_15_method_63_code 19 = .ok (.ifCond .gt 8, 3) := by decide +kernel
theorem d_MM_until_22 : decode prog_15_method_63_code 22 = .ok (.iload 4, 2) := by decide +kernel
theorem d_MM_until_24 : decode prog_15_method_63_code 24 = .ok (.ifCond .le 86, 3) := by decide +kernel
theorem d_MM_until_110 : decode prog_15_method_63_code 110 = .ok (.iload 5, 2) := by decide +kernel
theorem d_MM_until_112 : decode prog_15_method_63_code 112 = .ok (.ireturn, 1) := by decide +kernel
theorem d_MM_until_62 : decode prog_15_method_63_code 62 = .ok (.istore_n 3, 1) := by decide +kernel
theorem d_MM_until_63 : decode prog_15_method_63_code 63 = .ok (.iload_n 3, 1) := by decide +kernel
theorem d_MM_until_64 : decode prog_15_method_63_code 64 = .ok (.ifCond .le 8, 3) := by decide +kernel
theorem d_MM_until_72 : decode prog_15_method_63_code 72 = .ok (.iload 6, 2) := by decide +kernel
theorem d_MM_until_74 : decode prog_15_method_63_code 74 = .ok (.bipush 32, 2) := by decide +kernel
theorem d_MM_until_76 : decode prog_15_method_63_code 76 = .ok (.if_icmp .ne 10, 3) := by decide +kernel
theorem d_MM_until_86 : decode prog_15_method_63_code 86 = .ok (.iload 6, 2) := by decide +kernel
theorem d_MM_until_88 : decode prog_15_method_63_code 88 = .ok (.bipush 33, 2) := by decide +kernel
theorem d_MM_until_90 : decode prog_15_method_63_code 90 = .ok (.if_icmp .ne 10, 3) := by decide +kernel
theorem d_MM_until_100 : decode prog_15_method_63_code 100 = .ok (.iload 4, 2) := by decide +kernel
theorem d_MM_until_102 : decode prog_15_method_63_code 102 = .ok (.istore 4, 2) := by decide +kernel
theorem d_MM_until_104 : decode prog_15_method_63_code 104 = .ok (.iinc 5 1, 3) := by decide +kernel
theorem d_MM_until_107 : decode prog_15_method_63_code 107 = .ok (.goto (-99), 3) := by decide +kernel
theorem d_MM_until_93 : decode prog_15_method_63_code 93 = .ok (.iload 4, 2) := by decide +kernel
theorem d_MM_until_95 : decode prog_15_method_63_code 95 = .ok (.iconst 1, 1) := by decide +kernel
theorem d_MM_until_96 : decode prog_15_method_63_code 96 = .ok (.isub, 1) := by decide +kernel
theorem d_MM_until_97 : decode prog_15_method_63_code 97 = .ok (.goto 5, 3) := by decide +kernel
theorem d_MM_until_79 : decode prog_15_method_63_code 79 = .ok (.iload 4, 2) := by decide +kernel
theorem d_MM_until_81 : decode prog_15_method_63_code 81 = .ok (.iconst 1, 1) := by decide +kernel
theorem d_MM_until_82 : decode prog_15_method_63_code 82 = .ok (.iadd, 1) := by decide +kernel
theorem d_MM_until_83 : decode prog_15_method_63_code 83 = .ok (.goto 19, 3) := by decide +kernel
theorem d_MM_until_67 : decode prog_15_method_63_code 67 = .ok (.iload 4, 2) := by decide +kernel
theorem d_MM_until_69 : decode prog_15_method_63_code 69 = .ok (.goto 33, 3) := by decide +kernel
def f_MM_reckon (h0_above_n : Nat) (h0_below_n : Nat) (l1 : Int32) (L2 : Int64) (L4 : Int64) (L6 : Int64) (L8 : Int64) (l10 : Int32) (h0_fault : Int32) (h0_faultPlace : Int32) (h0_values : Int32) (h0_above_c : Nat → Int64) (h0_below_c : Nat → Int64) (n : Nat) : Option (Int32 × Int32 × Int32 × (Nat → Int64) × (Nat → Int64)) := if (l1 : Int32).toInt = 24 then (Option.bind (f_MM_pushFraction h0_above_n h0_below_n ((L2 * L8) + (L6 * L4)) (L4 * L8) l10 h0_fault h0_faultPlace h0_values h0_above_c h0_below_c n) (fun o1 => some (o1.1, o1.2.1, o1.2.2.1, o1.2.2.2.1, o1.2.2.2.2))) else if (l1 : Int32).toInt = 25 then (Option.bind (f_MM_pushFraction h0_above_n h0_below_n ((L2 * L8) - (L6 * L4)) (L4 * L8) l10 h0_fault h0_faultPlace h0_values h0_above_c h0_below_c n) (fun o2 => some (o2.1, o2.2.1, o2.2.2.1, o2.2.2.2.1, o2.2.2.2.2))) else if (l1 : Int32).toInt = 26 then (Option.bind (f_MM_pushFraction h0_above_n h0_below_n (L2 * L6) (L4 * L8) l10 h0_fault h0_faultPlace h0_values h0_above_c h0_below_c n) (fun o3 => some (o3.1, o3.2.1, o3.2.2.1, o3.2.2.2.1, o3.2.2.2.2))) else if (l1 : Int32).toInt = 27 then (if ¬ ((lg_cmp L6 0) : Int32) = 0 then (if (0 : Int32) ≤ (lg_cmp L6 0) then (if (0 : Int32) ≤ (lg_cmp L6 0) then Option.bind (f_MM_pushFraction h0_above_n h0_below_n (L2 * L8) (L6 * L4) l10 h0_fault h0_faultPlace h0_values h0_above_c h0_below_c n) (fun o4 => some (o4.1, o4.2.1, o4.2.2.1, o4.2.2.2.1, o4.2.2.2.2)) else Option.bind (f_MM_pushFraction h0_above_n h0_below_n (L2 * L8) ((-L6) * L4) l10 h0_fault h0_faultPlace h0_values h0_above_c h0_below_c n) (fun o5 => some (o5.1, o5.2.1, o5.2.2.1, o5.2.2.2.1, o5.2.2.2.2))) else if (0 : Int32) ≤ (lg_cmp L6 0) then Option.bind (f_MM_pushFraction h0_above_n h0_below_n ((-L2) * L8) (L6 * L4) l10 h0_fault h0_faultPlace h0_values h0_above_c h0_below_c n) (fun o6 => some (o6.1, o6.2.1, o6.2.2.1, o6.2.2.2.1, o6.2.2.2.2)) else Option.bind (f_MM_pushFraction h0_above_n h0_below_n ((-L2) * L8) ((-L6) * L4) l10 h0_fault h0_faultPlace h0_values h0_above_c h0_below_c n) (fun o7 => some (o7.1, o7.2.1, o7.2.2.1, o7.2.2.2.1, o7.2.2.2.2))) else Option.bind (f_MM_stop 7 l10 h0_fault h0_faultPlace) (fun o8 => some (o8.1, o8.2, h0_values, h0_above_c, h0_below_c))) else if ¬ ((lg_cmp L4 1) : Int32) = 0 then Option.bind (f_MM_stop 8 l10 h0_fault h0_faultPlace) (fun o9 => some (o9.1, o9.2, h0_values, h0_above_c, h0_below_c)) else if ((lg_cmp L8 1) : Int32) = 0 then (if (0 : Int32) < (lg_cmp L6 0) then chk (¬ (L6 : Int64) = 0) (if (0 : Int32) ≤ (lg_cmp (L2 - L2 / L6 * L6) 0) then chk (¬ (L6 : Int64) = 0) (Option.bind (f_MM_push h0_above_n h0_below_n (L2 - L2 / L6 * L6) 1 h0_values h0_above_c h0_below_c) (fun o10 => some (h0_fault, h0_faultPlace, o10.1, o10.2.1, o10.2.2))) else chk (¬ (L6 : Int64) = 0) (Option.bind (f_MM_push h0_above_n h0_below_n ((L2 - L2 / L6 * L6) + L6) 1 h0_values h0_above_c h0_below_c) (fun o11 => some (h0_fault, h0_faultPlace, o11.1, o11.2.1, o11.2.2)))) else Option.bind (f_MM_stop 7 l10 h0_fault h0_faultPlace) (fun o12 => some (o12.1, o12.2, h0_values, h0_above_c, h0_below_c))) else Option.bind (f_MM_stop 8 l10 h0_fault h0_faultPlace) (fun o13 => some (o13.1, o13.2, h0_values, h0_above_c, h0_below_c))
set_option maxHeartbeats 4000000 in
set_option maxRecDepth 100000 in
theorem b_MM_reckon_0 {p : Program} {l : Launch} {e : Env} {s : State} {m : MethodId} {args : Array Value} {below : List Frame} {meth : Method} {c : Code} {D : va_G} {tA : Nat → ClassId} {A : Nat → Prop} {h0 h0_above h0_below : Nat} {f0_h0 : List Value} {h0_above_n : Nat} {h0_below_n : Nat} {l1 : Int32} {L2 : Int64} {L4 : Int64} {L6 : Int64} {L8 : Int64} {l10 : Int32} {h0_fault : Int32} {h0_faultPlace : Int32} {h0_values : Int32} {h0_above_c : Nat → Int64} {h0_below_c : Nat → Int64} {out : Int32 × Int32 × Int32 × (Nat → Int64) × (Nat → Int64)} (hx : p.tables.exec = Jvm.exec) (hb : c.code = prog_15_method_62_code) (hr : meth.sig.returnType = (Option.none : Option Jvm.ClassFile.FieldType)) (hml : c.maxLocals = 11) (hh : zH s) (hg : ∀ w ∈ lw_R, w.before args s = true) (hown : s.vm.findClass "ChanceArenaModel" = some m.cls) (hlocks : meth.locks = false) (hK : va_K D vwCl (zT tA) s) (hA : ∀ q, s.heap.size ≤ q → A q) {n : Nat}  : ∀ (f_h0 : List Value) (H : Heap) (locs : List Loc) (ls : Array Slot), f_MM_reckon h0_above_n h0_below_n l1 L2 L4 L6 L8 l10 h0_fault h0_faultPlace h0_values h0_above_c h0_below_c n = some out → f_h0[21]? = some (.ref h0_above) → f_h0[22]? = some (.ref h0_below) → f_h0[16]? = some (.int h0_fault) → f_h0[17]? = some (.int h0_faultPlace) → f_h0[23]? = some (.int h0_values) → Fr [16, 17, 23] f0_h0 f_h0 → va_P D vwCl [(h0, .inr (13, f_h0)), (h0_above, .inl (tA 3, h0_above_n, .inr (.inl h0_above_c))), (h0_below, .inl (tA 3, h0_below_n, .inr (.inl h0_below_c)))] H → va_D A [(h0, .inr (13, f_h0)), (h0_above, .inl (tA 3, h0_above_n, .inr (.inl h0_above_c))), (h0_below, .inl (tA 3, h0_below_n, .inr (.inl h0_below_c)))] → va_S A s.heap H locs → lv_has ls 11 [(0, .ref h0), (1, .int l1), (2, .long L2), (4, .long L4), (6, .long L6), (8, .long L8), (10, .int l10)] → W p l e { frames := 2, cells := 0, slots := 0, locals := 60 } s m args below meth c H locs 0 0 (MQ below (va_Qv (fun (u9 : List Value) => Fr [16, 17, 23] f0_h0 u9 ∧ u9[16]? = some (.int out.1) ∧ u9[17]? = some (.int out.2.1) ∧ u9[23]? = some (.int out.2.2.1)) (zPost D A (fun (u9 : List Value) => [(h0, .inr (13, u9)), (h0_above, .inl (tA 3, h0_above_n, .inr (.inl out.2.2.2.1))), (h0_below, .inl (tA 3, h0_below_n, .inr (.inl out.2.2.2.2)))])) A) args s 0 0 A) (F0 m 0 ls []) := by
  intro   f_h0 H locs ls hF q_h0_above q_h0_below q_h0_fault q_h0_faultPlace q_h0_values r_h0 hP hD hS hl
  replace hF : ((if (l1 : Int32).toInt = 24 then (Option.bind (f_MM_pushFraction h0_above_n h0_below_n ((L2 * L8) + (L6 * L4)) (L4 * L8) l10 h0_fault h0_faultPlace h0_values h0_above_c h0_below_c n) (fun o1 => some (o1.1, o1.2.1, o1.2.2.1, o1.2.2.2.1, o1.2.2.2.2))) else if (l1 : Int32).toInt = 25 then (Option.bind (f_MM_pushFraction h0_above_n h0_below_n ((L2 * L8) - (L6 * L4)) (L4 * L8) l10 h0_fault h0_faultPlace h0_values h0_above_c h0_below_c n) (fun o2 => some (o2.1, o2.2.1, o2.2.2.1, o2.2.2.2.1, o2.2.2.2.2))) else if (l1 : Int32).toInt = 26 then (Option.bind (f_MM_pushFraction h0_above_n h0_below_n (L2 * L6) (L4 * L8) l10 h0_fault h0_faultPlace h0_values h0_above_c h0_below_c n) (fun o3 => some (o3.1, o3.2.1, o3.2.2.1, o3.2.2.2.1, o3.2.2.2.2))) else if (l1 : Int32).toInt = 27 then (if ¬ ((lg_cmp L6 0) : Int32) = 0 then (if (0 : Int32) ≤ (lg_cmp L6 0) then (if (0 : Int32) ≤ (lg_cmp L6 0) then Option.bind (f_MM_pushFraction h0_above_n h0_below_n (L2 * L8) (L6 * L4) l10 h0_fault h0_faultPlace h0_values h0_above_c h0_below_c n) (fun o4 => some (o4.1, o4.2.1, o4.2.2.1, o4.2.2.2.1, o4.2.2.2.2)) else Option.bind (f_MM_pushFraction h0_above_n h0_below_n (L2 * L8) ((-L6) * L4) l10 h0_fault h0_faultPlace h0_values h0_above_c h0_below_c n) (fun o5 => some (o5.1, o5.2.1, o5.2.2.1, o5.2.2.2.1, o5.2.2.2.2))) else if (0 : Int32) ≤ (lg_cmp L6 0) then Option.bind (f_MM_pushFraction h0_above_n h0_below_n ((-L2) * L8) (L6 * L4) l10 h0_fault h0_faultPlace h0_values h0_above_c h0_below_c n) (fun o6 => some (o6.1, o6.2.1, o6.2.2.1, o6.2.2.2.1, o6.2.2.2.2)) else Option.bind (f_MM_pushFraction h0_above_n h0_below_n ((-L2) * L8) ((-L6) * L4) l10 h0_fault h0_faultPlace h0_values h0_above_c h0_below_c n) (fun o7 => some (o7.1, o7.2.1, o7.2.2.1, o7.2.2.2.1, o7.2.2.2.2))) else Option.bind (f_MM_stop 7 l10 h0_fault h0_faultPlace) (fun o8 => some (o8.1, o8.2, h0_values, h0_above_c, h0_below_c))) else if ¬ ((lg_cmp L4 1) : Int32) = 0 then Option.bind (f_MM_stop 8 l10 h0_fault h0_faultPlace) (fun o9 => some (o9.1, o9.2, h0_values, h0_above_c, h0_below_c)) else if ((lg_cmp L8 1) : Int32) = 0 then (if (0 : Int32) < (lg_cmp L6 0) then chk (¬ (L6 : Int64) = 0) (if (0 : Int32) ≤ (lg_cmp (L2 - L2 / L6 * L6) 0) then chk (¬ (L6 : Int64) = 0) (Option.bind (f_MM_push h0_above_n h0_below_n (L2 - L2 / L6 * L6) 1 h0_values h0_above_c h0_below_c) (fun o10 => some (h0_fault, h0_faultPlace, o10.1, o10.2.1, o10.2.2))) else chk (¬ (L6 : Int64) = 0) (Option.bind (f_MM_push h0_above_n h0_below_n ((L2 - L2 / L6 * L6) + L6) 1 h0_values h0_above_c h0_below_c) (fun o11 => some (h0_fault, h0_faultPlace, o11.1, o11.2.1, o11.2.2)))) else Option.bind (f_MM_stop 7 l10 h0_fault h0_faultPlace) (fun o12 => some (o12.1, o12.2, h0_values, h0_above_c, h0_below_c))) else Option.bind (f_MM_stop 8 l10 h0_fault h0_faultPlace) (fun o13 => some (o13.1, o13.2, h0_values, h0_above_c, h0_below_c))) : Option (Int32 × Int32 × Int32 × (Nat → Int64) × (Nat → Int64))) = some out := hF
  refine lv_iload_n hx hb d_MM_reckon_0 rfl (lv_at hl 1 rfl) ?_
  by_cases w1_24 : (l1 : Int32).toInt = 24
  · replace hF := ifp w1_24 hF
    refine lv_tableIn (off := 31) (tgt := 32) hx hb d_MM_reckon_1 (by omega) (by omega) (by rw [w1_24]; rfl) (by decide) ?_
    refine lv_aload_n hx hb d_MM_reckon_32 rfl (lv_at hl 0 rfl) ?_
    refine lv_lload_n hx hb d_MM_reckon_33 rfl (lv_at hl 2 rfl) ?_
    refine lv_lload hx hb d_MM_reckon_34 (lv_at hl 5 rfl) ?_
    refine lv_lmul hx hb d_MM_reckon_36 ?_
    refine lv_lload hx hb d_MM_reckon_37 (lv_at hl 4 rfl) ?_
    refine lv_lload hx hb d_MM_reckon_39 (lv_at hl 3 rfl) ?_
    refine lv_lmul hx hb d_MM_reckon_41 ?_
    refine lv_ladd hx hb d_MM_reckon_42 ?_
    refine lv_lload hx hb d_MM_reckon_43 (lv_at hl 3 rfl) ?_
    refine lv_lload hx hb d_MM_reckon_45 (lv_at hl 5 rfl) ?_
    refine lv_lmul hx hb d_MM_reckon_47 ?_
    refine lv_iload hx hb d_MM_reckon_48 (lv_at hl 6 rfl) ?_
    obtain ⟨o1, h1, hF⟩ := bsome hF
    refine zCallv (wc := [(h0, .inr (13, f_h0)), (h0_above, .inl (tA 3, h0_above_n, .inr (.inl h0_above_c))), (h0_below, .inl (tA 3, h0_below_n, .inr (.inl h0_below_c)))]) (wr := []) hP hD hS hA [0, 1, 2] [] rfl rfl (by decide) (by decide) (va_runV (As := [.long ((L2 * L8) + (L6 * L4)), .long (L4 * L8), .int l10]) (rest := []) ⟨hx, hb, hml, hown, hg⟩ (m_MM_pushFraction l D tA _ h0 h0_above h0_below f_h0 h0_above_n h0_below_n ((L2 * L8) + (L6 * L4)) (L4 * L8) l10 h0_fault h0_faultPlace h0_values h0_above_c h0_below_c q_h0_above q_h0_below q_h0_fault q_h0_faultPlace q_h0_values n o1 h1) (zV 3 hg k11_225 k11_227 ks_MM_pushFraction k1_14 k11_228 rfl rfl (by decide +kernel) ⟨(Nat.le_of_ble_eq_true rfl), (Nat.le_of_ble_eq_true rfl)⟩) (zPreV hh hK hP hD [0, 1, 2] (by decide) rfl (ci := 13) rfl 0 rfl) rfl rfl hl.1 rfl (lv_room (Nat.le_of_ble_eq_true rfl)) d_MM_reckon_50 ⟨(Nat.le_of_ble_eq_true rfl), (Nat.le_of_ble_eq_true rfl)⟩) (fun v1_h0 H1 locs1 e1 hP1 hD1 hS1 => ?_)
    clear hP hD hS
    refine W.cs (cells' := 0) (slots' := 0) rfl rfl ?_
    obtain ⟨r1_h0, q1_h0_fault, q1_h0_faultPlace, q1_h0_values⟩ := e1
    replace hP1 : va_P D vwCl [(h0, .inr (13, v1_h0)), (h0_above, .inl (tA 3, h0_above_n, .inr (.inl o1.2.2.2.1))), (h0_below, .inl (tA 3, h0_below_n, .inr (.inl o1.2.2.2.2)))] _ := hP1
    replace hD1 : va_D A [(h0, .inr (13, v1_h0)), (h0_above, .inl (tA 3, h0_above_n, .inr (.inl o1.2.2.2.1))), (h0_below, .inl (tA 3, h0_below_n, .inr (.inl o1.2.2.2.2)))] := hD1
    replace hF := Option.some.inj hF
    subst hF
    exact zVret (post := (fun (u9 : List Value) => Fr [16, 17, 23] f0_h0 u9 ∧ u9[16]? = some (.int ((o1.1, o1.2.1, o1.2.2.1, o1.2.2.2.1, o1.2.2.2.2).1)) ∧ u9[17]? = some (.int ((o1.1, o1.2.1, o1.2.2.1, o1.2.2.2.1, o1.2.2.2.2).2.1)) ∧ u9[23]? = some (.int ((o1.1, o1.2.1, o1.2.2.1, o1.2.2.2.1, o1.2.2.2.2).2.2.1)))) (W1 := (fun (u9 : List Value) => [(h0, .inr (13, u9)), (h0_above, .inl (tA 3, h0_above_n, .inr (.inl ((o1.1, o1.2.1, o1.2.2.1, o1.2.2.2.1, o1.2.2.2.2).2.2.2.1)))), (h0_below, .inl (tA 3, h0_below_n, .inr (.inl ((o1.1, o1.2.1, o1.2.2.1, o1.2.2.2.1, o1.2.2.2.2).2.2.2.2))))])) hx hb hr hlocks hP1 hD1 hS1 (v1_h0) ⟨(Fr.trans r_h0 (Fr.sub r1_h0 (by decide))), q1_h0_fault, q1_h0_faultPlace, q1_h0_values⟩ rfl d_MM_reckon_53
  · replace hF := ifn w1_24 hF
    by_cases w1_25 : (l1 : Int32).toInt = 25
    · replace hF := ifp w1_25 hF
      refine lv_tableIn (off := 53) (tgt := 54) hx hb d_MM_reckon_1 (by omega) (by omega) (by rw [w1_25]; rfl) (by decide) ?_
      refine lv_aload_n hx hb d_MM_reckon_54 rfl (lv_at hl 0 rfl) ?_
      refine lv_lload_n hx hb d_MM_reckon_55 rfl (lv_at hl 2 rfl) ?_
      refine lv_lload hx hb d_MM_reckon_56 (lv_at hl 5 rfl) ?_
      refine lv_lmul hx hb d_MM_reckon_58 ?_
      refine lv_lload hx hb d_MM_reckon_59 (lv_at hl 4 rfl) ?_
      refine lv_lload hx hb d_MM_reckon_61 (lv_at hl 3 rfl) ?_
      refine lv_lmul hx hb d_MM_reckon_63 ?_
      refine lv_lsub hx hb d_MM_reckon_64 ?_
      refine lv_lload hx hb d_MM_reckon_65 (lv_at hl 3 rfl) ?_
      refine lv_lload hx hb d_MM_reckon_67 (lv_at hl 5 rfl) ?_
      refine lv_lmul hx hb d_MM_reckon_69 ?_
      refine lv_iload hx hb d_MM_reckon_70 (lv_at hl 6 rfl) ?_
      obtain ⟨o2, h2, hF⟩ := bsome hF
      refine zCallv (wc := [(h0, .inr (13, f_h0)), (h0_above, .inl (tA 3, h0_above_n, .inr (.inl h0_above_c))), (h0_below, .inl (tA 3, h0_below_n, .inr (.inl h0_below_c)))]) (wr := []) hP hD hS hA [0, 1, 2] [] rfl rfl (by decide) (by decide) (va_runV (As := [.long ((L2 * L8) - (L6 * L4)), .long (L4 * L8), .int l10]) (rest := []) ⟨hx, hb, hml, hown, hg⟩ (m_MM_pushFraction l D tA _ h0 h0_above h0_below f_h0 h0_above_n h0_below_n ((L2 * L8) - (L6 * L4)) (L4 * L8) l10 h0_fault h0_faultPlace h0_values h0_above_c h0_below_c q_h0_above q_h0_below q_h0_fault q_h0_faultPlace q_h0_values n o2 h2) (zV 3 hg k11_225 k11_227 ks_MM_pushFraction k1_14 k11_228 rfl rfl (by decide +kernel) ⟨(Nat.le_of_ble_eq_true rfl), (Nat.le_of_ble_eq_true rfl)⟩) (zPreV hh hK hP hD [0, 1, 2] (by decide) rfl (ci := 13) rfl 0 rfl) rfl rfl hl.1 rfl (lv_room (Nat.le_of_ble_eq_true rfl)) d_MM_reckon_72 ⟨(Nat.le_of_ble_eq_true rfl), (Nat.le_of_ble_eq_true rfl)⟩) (fun v2_h0 H1 locs1 e2 hP1 hD1 hS1 => ?_)
      clear hP hD hS
      refine W.cs (cells' := 0) (slots' := 0) rfl rfl ?_
      obtain ⟨r2_h0, q2_h0_fault, q2_h0_faultPlace, q2_h0_values⟩ := e2
      replace hP1 : va_P D vwCl [(h0, .inr (13, v2_h0)), (h0_above, .inl (tA 3, h0_above_n, .inr (.inl o2.2.2.2.1))), (h0_below, .inl (tA 3, h0_below_n, .inr (.inl o2.2.2.2.2)))] _ := hP1
      replace hD1 : va_D A [(h0, .inr (13, v2_h0)), (h0_above, .inl (tA 3, h0_above_n, .inr (.inl o2.2.2.2.1))), (h0_below, .inl (tA 3, h0_below_n, .inr (.inl o2.2.2.2.2)))] := hD1
      replace hF := Option.some.inj hF
      subst hF
      exact zVret (post := (fun (u9 : List Value) => Fr [16, 17, 23] f0_h0 u9 ∧ u9[16]? = some (.int ((o2.1, o2.2.1, o2.2.2.1, o2.2.2.2.1, o2.2.2.2.2).1)) ∧ u9[17]? = some (.int ((o2.1, o2.2.1, o2.2.2.1, o2.2.2.2.1, o2.2.2.2.2).2.1)) ∧ u9[23]? = some (.int ((o2.1, o2.2.1, o2.2.2.1, o2.2.2.2.1, o2.2.2.2.2).2.2.1)))) (W1 := (fun (u9 : List Value) => [(h0, .inr (13, u9)), (h0_above, .inl (tA 3, h0_above_n, .inr (.inl ((o2.1, o2.2.1, o2.2.2.1, o2.2.2.2.1, o2.2.2.2.2).2.2.2.1)))), (h0_below, .inl (tA 3, h0_below_n, .inr (.inl ((o2.1, o2.2.1, o2.2.2.1, o2.2.2.2.1, o2.2.2.2.2).2.2.2.2))))])) hx hb hr hlocks hP1 hD1 hS1 (v2_h0) ⟨(Fr.trans r_h0 (Fr.sub r2_h0 (by decide))), q2_h0_fault, q2_h0_faultPlace, q2_h0_values⟩ rfl d_MM_reckon_75
    · replace hF := ifn w1_25 hF
      by_cases w1_26 : (l1 : Int32).toInt = 26
      · replace hF := ifp w1_26 hF
        refine lv_tableIn (off := 75) (tgt := 76) hx hb d_MM_reckon_1 (by omega) (by omega) (by rw [w1_26]; rfl) (by decide) ?_
        refine lv_aload_n hx hb d_MM_reckon_76 rfl (lv_at hl 0 rfl) ?_
        refine lv_lload_n hx hb d_MM_reckon_77 rfl (lv_at hl 2 rfl) ?_
        refine lv_lload hx hb d_MM_reckon_78 (lv_at hl 4 rfl) ?_
        refine lv_lmul hx hb d_MM_reckon_80 ?_
        refine lv_lload hx hb d_MM_reckon_81 (lv_at hl 3 rfl) ?_
        refine lv_lload hx hb d_MM_reckon_83 (lv_at hl 5 rfl) ?_
        refine lv_lmul hx hb d_MM_reckon_85 ?_
        refine lv_iload hx hb d_MM_reckon_86 (lv_at hl 6 rfl) ?_
        obtain ⟨o3, h3, hF⟩ := bsome hF
        refine zCallv (wc := [(h0, .inr (13, f_h0)), (h0_above, .inl (tA 3, h0_above_n, .inr (.inl h0_above_c))), (h0_below, .inl (tA 3, h0_below_n, .inr (.inl h0_below_c)))]) (wr := []) hP hD hS hA [0, 1, 2] [] rfl rfl (by decide) (by decide) (va_runV (As := [.long (L2 * L6), .long (L4 * L8), .int l10]) (rest := []) ⟨hx, hb, hml, hown, hg⟩ (m_MM_pushFraction l D tA _ h0 h0_above h0_below f_h0 h0_above_n h0_below_n (L2 * L6) (L4 * L8) l10 h0_fault h0_faultPlace h0_values h0_above_c h0_below_c q_h0_above q_h0_below q_h0_fault q_h0_faultPlace q_h0_values n o3 h3) (zV 3 hg k11_225 k11_227 ks_MM_pushFraction k1_14 k11_228 rfl rfl (by decide +kernel) ⟨(Nat.le_of_ble_eq_true rfl), (Nat.le_of_ble_eq_true rfl)⟩) (zPreV hh hK hP hD [0, 1, 2] (by decide) rfl (ci := 13) rfl 0 rfl) rfl rfl hl.1 rfl (lv_room (Nat.le_of_ble_eq_true rfl)) d_MM_reckon_88 ⟨(Nat.le_of_ble_eq_true rfl), (Nat.le_of_ble_eq_true rfl)⟩) (fun v3_h0 H1 locs1 e3 hP1 hD1 hS1 => ?_)
        clear hP hD hS
        refine W.cs (cells' := 0) (slots' := 0) rfl rfl ?_
        obtain ⟨r3_h0, q3_h0_fault, q3_h0_faultPlace, q3_h0_values⟩ := e3
        replace hP1 : va_P D vwCl [(h0, .inr (13, v3_h0)), (h0_above, .inl (tA 3, h0_above_n, .inr (.inl o3.2.2.2.1))), (h0_below, .inl (tA 3, h0_below_n, .inr (.inl o3.2.2.2.2)))] _ := hP1
        replace hD1 : va_D A [(h0, .inr (13, v3_h0)), (h0_above, .inl (tA 3, h0_above_n, .inr (.inl o3.2.2.2.1))), (h0_below, .inl (tA 3, h0_below_n, .inr (.inl o3.2.2.2.2)))] := hD1
        replace hF := Option.some.inj hF
        subst hF
        exact zVret (post := (fun (u9 : List Value) => Fr [16, 17, 23] f0_h0 u9 ∧ u9[16]? = some (.int ((o3.1, o3.2.1, o3.2.2.1, o3.2.2.2.1, o3.2.2.2.2).1)) ∧ u9[17]? = some (.int ((o3.1, o3.2.1, o3.2.2.1, o3.2.2.2.1, o3.2.2.2.2).2.1)) ∧ u9[23]? = some (.int ((o3.1, o3.2.1, o3.2.2.1, o3.2.2.2.1, o3.2.2.2.2).2.2.1)))) (W1 := (fun (u9 : List Value) => [(h0, .inr (13, u9)), (h0_above, .inl (tA 3, h0_above_n, .inr (.inl ((o3.1, o3.2.1, o3.2.2.1, o3.2.2.2.1, o3.2.2.2.2).2.2.2.1)))), (h0_below, .inl (tA 3, h0_below_n, .inr (.inl ((o3.1, o3.2.1, o3.2.2.1, o3.2.2.2.1, o3.2.2.2.2).2.2.2.2))))])) hx hb hr hlocks hP1 hD1 hS1 (v3_h0) ⟨(Fr.trans r_h0 (Fr.sub r3_h0 (by decide))), q3_h0_fault, q3_h0_faultPlace, q3_h0_values⟩ rfl d_MM_reckon_91
      · replace hF := ifn w1_26 hF
        by_cases w1_27 : (l1 : Int32).toInt = 27
        · replace hF := ifp w1_27 hF
          refine lv_tableIn (off := 91) (tgt := 92) hx hb d_MM_reckon_1 (by omega) (by omega) (by rw [w1_27]; rfl) (by decide) ?_
          refine lv_lload hx hb d_MM_reckon_92 (lv_at hl 4 rfl) ?_
          refine lv_lconst (v := 0) hx hb d_MM_reckon_94 (by decide) ?_
          refine W.lcmp hx hb d_MM_reckon_95 ?_
          refine lv_if_ne (tgt := 110) hx hb d_MM_reckon_96 (by decide) (fun c9 => ?_) (fun c9 => ?_)
          · replace hF := ifp c9 hF
            refine lv_aload_n hx hb d_MM_reckon_110 rfl (lv_at hl 0 rfl) ?_
            refine lv_lload hx hb d_MM_reckon_111 (lv_at hl 4 rfl) ?_
            refine lv_lconst (v := 0) hx hb d_MM_reckon_113 (by decide) ?_
            refine W.lcmp hx hb d_MM_reckon_114 ?_
            refine lv_if_ge (tgt := 126) hx hb d_MM_reckon_115 (by decide) (fun c9 => ?_) (fun c9 => ?_)
            · replace hF := ifp c9 hF
              refine lv_lload_n hx hb d_MM_reckon_126 rfl (lv_at hl 2 rfl) ?_
              refine lv_lload hx hb d_MM_reckon_127 (lv_at hl 5 rfl) ?_
              refine lv_lmul hx hb d_MM_reckon_129 ?_
              refine lv_lload hx hb d_MM_reckon_130 (lv_at hl 4 rfl) ?_
              refine lv_lconst (v := 0) hx hb d_MM_reckon_132 (by decide) ?_
              refine W.lcmp hx hb d_MM_reckon_133 ?_
              refine lv_if_ge (tgt := 146) hx hb d_MM_reckon_134 (by decide) (fun c9 => ?_) (fun c9 => ?_)
              · replace hF := ifp c9 hF
                refine lv_lload hx hb d_MM_reckon_146 (lv_at hl 4 rfl) ?_
                refine lv_lload hx hb d_MM_reckon_148 (lv_at hl 3 rfl) ?_
                refine lv_lmul hx hb d_MM_reckon_150 ?_
                refine lv_iload hx hb d_MM_reckon_151 (lv_at hl 6 rfl) ?_
                obtain ⟨o4, h4, hF⟩ := bsome hF
                refine zCallv (wc := [(h0, .inr (13, f_h0)), (h0_above, .inl (tA 3, h0_above_n, .inr (.inl h0_above_c))), (h0_below, .inl (tA 3, h0_below_n, .inr (.inl h0_below_c)))]) (wr := []) hP hD hS hA [0, 1, 2] [] rfl rfl (by decide) (by decide) (va_runV (As := [.long (L2 * L8), .long (L6 * L4), .int l10]) (rest := []) ⟨hx, hb, hml, hown, hg⟩ (m_MM_pushFraction l D tA _ h0 h0_above h0_below f_h0 h0_above_n h0_below_n (L2 * L8) (L6 * L4) l10 h0_fault h0_faultPlace h0_values h0_above_c h0_below_c q_h0_above q_h0_below q_h0_fault q_h0_faultPlace q_h0_values n o4 h4) (zV 3 hg k11_225 k11_227 ks_MM_pushFraction k1_14 k11_228 rfl rfl (by decide +kernel) ⟨(Nat.le_of_ble_eq_true rfl), (Nat.le_of_ble_eq_true rfl)⟩) (zPreV hh hK hP hD [0, 1, 2] (by decide) rfl (ci := 13) rfl 0 rfl) rfl rfl hl.1 rfl (lv_room (Nat.le_of_ble_eq_true rfl)) d_MM_reckon_153 ⟨(Nat.le_of_ble_eq_true rfl), (Nat.le_of_ble_eq_true rfl)⟩) (fun v4_h0 H1 locs1 e4 hP1 hD1 hS1 => ?_)
                clear hP hD hS
                refine W.cs (cells' := 0) (slots' := 0) rfl rfl ?_
                obtain ⟨r4_h0, q4_h0_fault, q4_h0_faultPlace, q4_h0_values⟩ := e4
                replace hP1 : va_P D vwCl [(h0, .inr (13, v4_h0)), (h0_above, .inl (tA 3, h0_above_n, .inr (.inl o4.2.2.2.1))), (h0_below, .inl (tA 3, h0_below_n, .inr (.inl o4.2.2.2.2)))] _ := hP1
                replace hD1 : va_D A [(h0, .inr (13, v4_h0)), (h0_above, .inl (tA 3, h0_above_n, .inr (.inl o4.2.2.2.1))), (h0_below, .inl (tA 3, h0_below_n, .inr (.inl o4.2.2.2.2)))] := hD1
                replace hF := Option.some.inj hF
                subst hF
                exact zVret (post := (fun (u9 : List Value) => Fr [16, 17, 23] f0_h0 u9 ∧ u9[16]? = some (.int ((o4.1, o4.2.1, o4.2.2.1, o4.2.2.2.1, o4.2.2.2.2).1)) ∧ u9[17]? = some (.int ((o4.1, o4.2.1, o4.2.2.1, o4.2.2.2.1, o4.2.2.2.2).2.1)) ∧ u9[23]? = some (.int ((o4.1, o4.2.1, o4.2.2.1, o4.2.2.2.1, o4.2.2.2.2).2.2.1)))) (W1 := (fun (u9 : List Value) => [(h0, .inr (13, u9)), (h0_above, .inl (tA 3, h0_above_n, .inr (.inl ((o4.1, o4.2.1, o4.2.2.1, o4.2.2.2.1, o4.2.2.2.2).2.2.2.1)))), (h0_below, .inl (tA 3, h0_below_n, .inr (.inl ((o4.1, o4.2.1, o4.2.2.1, o4.2.2.2.1, o4.2.2.2.2).2.2.2.2))))])) hx hb hr hlocks hP1 hD1 hS1 (v4_h0) ⟨(Fr.trans r_h0 (Fr.sub r4_h0 (by decide))), q4_h0_fault, q4_h0_faultPlace, q4_h0_values⟩ rfl d_MM_reckon_156
              · replace hF := ifn c9 hF
                refine lv_lload hx hb d_MM_reckon_137 (lv_at hl 4 rfl) ?_
                refine lv_lneg hx hb d_MM_reckon_139 ?_
                refine lv_lload hx hb d_MM_reckon_140 (lv_at hl 3 rfl) ?_
                refine lv_lmul hx hb d_MM_reckon_142 ?_
                refine lv_goto (tgt := 151) hx hb d_MM_reckon_143 (by decide) ?_
                refine lv_iload hx hb d_MM_reckon_151 (lv_at hl 6 rfl) ?_
                obtain ⟨o5, h5, hF⟩ := bsome hF
                refine zCallv (wc := [(h0, .inr (13, f_h0)), (h0_above, .inl (tA 3, h0_above_n, .inr (.inl h0_above_c))), (h0_below, .inl (tA 3, h0_below_n, .inr (.inl h0_below_c)))]) (wr := []) hP hD hS hA [0, 1, 2] [] rfl rfl (by decide) (by decide) (va_runV (As := [.long (L2 * L8), .long ((-L6) * L4), .int l10]) (rest := []) ⟨hx, hb, hml, hown, hg⟩ (m_MM_pushFraction l D tA _ h0 h0_above h0_below f_h0 h0_above_n h0_below_n (L2 * L8) ((-L6) * L4) l10 h0_fault h0_faultPlace h0_values h0_above_c h0_below_c q_h0_above q_h0_below q_h0_fault q_h0_faultPlace q_h0_values n o5 h5) (zV 3 hg k11_225 k11_227 ks_MM_pushFraction k1_14 k11_228 rfl rfl (by decide +kernel) ⟨(Nat.le_of_ble_eq_true rfl), (Nat.le_of_ble_eq_true rfl)⟩) (zPreV hh hK hP hD [0, 1, 2] (by decide) rfl (ci := 13) rfl 0 rfl) rfl rfl hl.1 rfl (lv_room (Nat.le_of_ble_eq_true rfl)) d_MM_reckon_153 ⟨(Nat.le_of_ble_eq_true rfl), (Nat.le_of_ble_eq_true rfl)⟩) (fun v5_h0 H1 locs1 e5 hP1 hD1 hS1 => ?_)
                clear hP hD hS
                refine W.cs (cells' := 0) (slots' := 0) rfl rfl ?_
                obtain ⟨r5_h0, q5_h0_fault, q5_h0_faultPlace, q5_h0_values⟩ := e5
                replace hP1 : va_P D vwCl [(h0, .inr (13, v5_h0)), (h0_above, .inl (tA 3, h0_above_n, .inr (.inl o5.2.2.2.1))), (h0_below, .inl (tA 3, h0_below_n, .inr (.inl o5.2.2.2.2)))] _ := hP1
                replace hD1 : va_D A [(h0, .inr (13, v5_h0)), (h0_above, .inl (tA 3, h0_above_n, .inr (.inl o5.2.2.2.1))), (h0_below, .inl (tA 3, h0_below_n, .inr (.inl o5.2.2.2.2)))] := hD1
                replace hF := Option.some.inj hF
                subst hF
                exact zVret (post := (fun (u9 : List Value) => Fr [16, 17, 23] f0_h0 u9 ∧ u9[16]? = some (.int ((o5.1, o5.2.1, o5.2.2.1, o5.2.2.2.1, o5.2.2.2.2).1)) ∧ u9[17]? = some (.int ((o5.1, o5.2.1, o5.2.2.1, o5.2.2.2.1, o5.2.2.2.2).2.1)) ∧ u9[23]? = some (.int ((o5.1, o5.2.1, o5.2.2.1, o5.2.2.2.1, o5.2.2.2.2).2.2.1)))) (W1 := (fun (u9 : List Value) => [(h0, .inr (13, u9)), (h0_above, .inl (tA 3, h0_above_n, .inr (.inl ((o5.1, o5.2.1, o5.2.2.1, o5.2.2.2.1, o5.2.2.2.2).2.2.2.1)))), (h0_below, .inl (tA 3, h0_below_n, .inr (.inl ((o5.1, o5.2.1, o5.2.2.1, o5.2.2.2.1, o5.2.2.2.2).2.2.2.2))))])) hx hb hr hlocks hP1 hD1 hS1 (v5_h0) ⟨(Fr.trans r_h0 (Fr.sub r5_h0 (by decide))), q5_h0_fault, q5_h0_faultPlace, q5_h0_values⟩ rfl d_MM_reckon_156
            · replace hF := ifn c9 hF
              refine lv_lload_n hx hb d_MM_reckon_118 rfl (lv_at hl 2 rfl) ?_
              refine lv_lneg hx hb d_MM_reckon_119 ?_
              refine lv_lload hx hb d_MM_reckon_120 (lv_at hl 5 rfl) ?_
              refine lv_lmul hx hb d_MM_reckon_122 ?_
              refine lv_goto (tgt := 130) hx hb d_MM_reckon_123 (by decide) ?_
              refine lv_lload hx hb d_MM_reckon_130 (lv_at hl 4 rfl) ?_
              refine lv_lconst (v := 0) hx hb d_MM_reckon_132 (by decide) ?_
              refine W.lcmp hx hb d_MM_reckon_133 ?_
              refine lv_if_ge (tgt := 146) hx hb d_MM_reckon_134 (by decide) (fun c9 => ?_) (fun c9 => ?_)
              · replace hF := ifp c9 hF
                refine lv_lload hx hb d_MM_reckon_146 (lv_at hl 4 rfl) ?_
                refine lv_lload hx hb d_MM_reckon_148 (lv_at hl 3 rfl) ?_
                refine lv_lmul hx hb d_MM_reckon_150 ?_
                refine lv_iload hx hb d_MM_reckon_151 (lv_at hl 6 rfl) ?_
                obtain ⟨o6, h6, hF⟩ := bsome hF
                refine zCallv (wc := [(h0, .inr (13, f_h0)), (h0_above, .inl (tA 3, h0_above_n, .inr (.inl h0_above_c))), (h0_below, .inl (tA 3, h0_below_n, .inr (.inl h0_below_c)))]) (wr := []) hP hD hS hA [0, 1, 2] [] rfl rfl (by decide) (by decide) (va_runV (As := [.long ((-L2) * L8), .long (L6 * L4), .int l10]) (rest := []) ⟨hx, hb, hml, hown, hg⟩ (m_MM_pushFraction l D tA _ h0 h0_above h0_below f_h0 h0_above_n h0_below_n ((-L2) * L8) (L6 * L4) l10 h0_fault h0_faultPlace h0_values h0_above_c h0_below_c q_h0_above q_h0_below q_h0_fault q_h0_faultPlace q_h0_values n o6 h6) (zV 3 hg k11_225 k11_227 ks_MM_pushFraction k1_14 k11_228 rfl rfl (by decide +kernel) ⟨(Nat.le_of_ble_eq_true rfl), (Nat.le_of_ble_eq_true rfl)⟩) (zPreV hh hK hP hD [0, 1, 2] (by decide) rfl (ci := 13) rfl 0 rfl) rfl rfl hl.1 rfl (lv_room (Nat.le_of_ble_eq_true rfl)) d_MM_reckon_153 ⟨(Nat.le_of_ble_eq_true rfl), (Nat.le_of_ble_eq_true rfl)⟩) (fun v6_h0 H1 locs1 e6 hP1 hD1 hS1 => ?_)
                clear hP hD hS
                refine W.cs (cells' := 0) (slots' := 0) rfl rfl ?_
                obtain ⟨r6_h0, q6_h0_fault, q6_h0_faultPlace, q6_h0_values⟩ := e6
                replace hP1 : va_P D vwCl [(h0, .inr (13, v6_h0)), (h0_above, .inl (tA 3, h0_above_n, .inr (.inl o6.2.2.2.1))), (h0_below, .inl (tA 3, h0_below_n, .inr (.inl o6.2.2.2.2)))] _ := hP1
                replace hD1 : va_D A [(h0, .inr (13, v6_h0)), (h0_above, .inl (tA 3, h0_above_n, .inr (.inl o6.2.2.2.1))), (h0_below, .inl (tA 3, h0_below_n, .inr (.inl o6.2.2.2.2)))] := hD1
                replace hF := Option.some.inj hF
                subst hF
                exact zVret (post := (fun (u9 : List Value) => Fr [16, 17, 23] f0_h0 u9 ∧ u9[16]? = some (.int ((o6.1, o6.2.1, o6.2.2.1, o6.2.2.2.1, o6.2.2.2.2).1)) ∧ u9[17]? = some (.int ((o6.1, o6.2.1, o6.2.2.1, o6.2.2.2.1, o6.2.2.2.2).2.1)) ∧ u9[23]? = some (.int ((o6.1, o6.2.1, o6.2.2.1, o6.2.2.2.1, o6.2.2.2.2).2.2.1)))) (W1 := (fun (u9 : List Value) => [(h0, .inr (13, u9)), (h0_above, .inl (tA 3, h0_above_n, .inr (.inl ((o6.1, o6.2.1, o6.2.2.1, o6.2.2.2.1, o6.2.2.2.2).2.2.2.1)))), (h0_below, .inl (tA 3, h0_below_n, .inr (.inl ((o6.1, o6.2.1, o6.2.2.1, o6.2.2.2.1, o6.2.2.2.2).2.2.2.2))))])) hx hb hr hlocks hP1 hD1 hS1 (v6_h0) ⟨(Fr.trans r_h0 (Fr.sub r6_h0 (by decide))), q6_h0_fault, q6_h0_faultPlace, q6_h0_values⟩ rfl d_MM_reckon_156
              · replace hF := ifn c9 hF
                refine lv_lload hx hb d_MM_reckon_137 (lv_at hl 4 rfl) ?_
                refine lv_lneg hx hb d_MM_reckon_139 ?_
                refine lv_lload hx hb d_MM_reckon_140 (lv_at hl 3 rfl) ?_
                refine lv_lmul hx hb d_MM_reckon_142 ?_
                refine lv_goto (tgt := 151) hx hb d_MM_reckon_143 (by decide) ?_
                refine lv_iload hx hb d_MM_reckon_151 (lv_at hl 6 rfl) ?_
                obtain ⟨o7, h7, hF⟩ := bsome hF
                refine zCallv (wc := [(h0, .inr (13, f_h0)), (h0_above, .inl (tA 3, h0_above_n, .inr (.inl h0_above_c))), (h0_below, .inl (tA 3, h0_below_n, .inr (.inl h0_below_c)))]) (wr := []) hP hD hS hA [0, 1, 2] [] rfl rfl (by decide) (by decide) (va_runV (As := [.long ((-L2) * L8), .long ((-L6) * L4), .int l10]) (rest := []) ⟨hx, hb, hml, hown, hg⟩ (m_MM_pushFraction l D tA _ h0 h0_above h0_below f_h0 h0_above_n h0_below_n ((-L2) * L8) ((-L6) * L4) l10 h0_fault h0_faultPlace h0_values h0_above_c h0_below_c q_h0_above q_h0_below q_h0_fault q_h0_faultPlace q_h0_values n o7 h7) (zV 3 hg k11_225 k11_227 ks_MM_pushFraction k1_14 k11_228 rfl rfl (by decide +kernel) ⟨(Nat.le_of_ble_eq_true rfl), (Nat.le_of_ble_eq_true rfl)⟩) (zPreV hh hK hP hD [0, 1, 2] (by decide) rfl (ci := 13) rfl 0 rfl) rfl rfl hl.1 rfl (lv_room (Nat.le_of_ble_eq_true rfl)) d_MM_reckon_153 ⟨(Nat.le_of_ble_eq_true rfl), (Nat.le_of_ble_eq_true rfl)⟩) (fun v7_h0 H1 locs1 e7 hP1 hD1 hS1 => ?_)
                clear hP hD hS
                refine W.cs (cells' := 0) (slots' := 0) rfl rfl ?_
                obtain ⟨r7_h0, q7_h0_fault, q7_h0_faultPlace, q7_h0_values⟩ := e7
                replace hP1 : va_P D vwCl [(h0, .inr (13, v7_h0)), (h0_above, .inl (tA 3, h0_above_n, .inr (.inl o7.2.2.2.1))), (h0_below, .inl (tA 3, h0_below_n, .inr (.inl o7.2.2.2.2)))] _ := hP1
                replace hD1 : va_D A [(h0, .inr (13, v7_h0)), (h0_above, .inl (tA 3, h0_above_n, .inr (.inl o7.2.2.2.1))), (h0_below, .inl (tA 3, h0_below_n, .inr (.inl o7.2.2.2.2)))] := hD1
                replace hF := Option.some.inj hF
                subst hF
                exact zVret (post := (fun (u9 : List Value) => Fr [16, 17, 23] f0_h0 u9 ∧ u9[16]? = some (.int ((o7.1, o7.2.1, o7.2.2.1, o7.2.2.2.1, o7.2.2.2.2).1)) ∧ u9[17]? = some (.int ((o7.1, o7.2.1, o7.2.2.1, o7.2.2.2.1, o7.2.2.2.2).2.1)) ∧ u9[23]? = some (.int ((o7.1, o7.2.1, o7.2.2.1, o7.2.2.2.1, o7.2.2.2.2).2.2.1)))) (W1 := (fun (u9 : List Value) => [(h0, .inr (13, u9)), (h0_above, .inl (tA 3, h0_above_n, .inr (.inl ((o7.1, o7.2.1, o7.2.2.1, o7.2.2.2.1, o7.2.2.2.2).2.2.2.1)))), (h0_below, .inl (tA 3, h0_below_n, .inr (.inl ((o7.1, o7.2.1, o7.2.2.1, o7.2.2.2.1, o7.2.2.2.2).2.2.2.2))))])) hx hb hr hlocks hP1 hD1 hS1 (v7_h0) ⟨(Fr.trans r_h0 (Fr.sub r7_h0 (by decide))), q7_h0_fault, q7_h0_faultPlace, q7_h0_values⟩ rfl d_MM_reckon_156
          · replace hF := ifn (fun h9 => h9 c9) hF
            refine lv_aload_n hx hb d_MM_reckon_99 rfl (lv_at hl 0 rfl) ?_
            refine lv_bipush (v := 7) hx hb d_MM_reckon_100 (by decide) ?_
            refine lv_iload hx hb d_MM_reckon_102 (lv_at hl 6 rfl) ?_
            obtain ⟨o8, h8, hF⟩ := bsome hF
            refine zCallv (wc := [(h0, .inr (13, f_h0))]) (wr := [(h0_above, .inl (tA 3, h0_above_n, .inr (.inl h0_above_c))), (h0_below, .inl (tA 3, h0_below_n, .inr (.inl h0_below_c)))]) hP hD hS hA [0] [1, 2] rfl rfl (by decide) (by decide) (va_runV (As := [.int 7, .int l10]) (rest := []) ⟨hx, hb, hml, hown, hg⟩ (m_MM_stop l D tA _ h0 f_h0 7 l10 h0_fault h0_faultPlace q_h0_fault q_h0_faultPlace o8 h8) (zV 2 hg k11_105 k11_107 ks_MM_stop k1_14 k11_108 rfl rfl (by decide +kernel) ⟨(Nat.le_of_ble_eq_true rfl), (Nat.le_of_ble_eq_true rfl)⟩) (zPreV hh hK hP hD [0] (by decide) rfl (ci := 13) rfl 0 rfl) rfl rfl hl.1 rfl (lv_room (Nat.le_of_ble_eq_true rfl)) d_MM_reckon_104 ⟨(Nat.le_of_ble_eq_true rfl), (Nat.le_of_ble_eq_true rfl)⟩) (fun v8_h0 H1 locs1 e8 hP1 hD1 hS1 => ?_)
            clear hP hD hS
            refine W.cs (cells' := 0) (slots' := 0) rfl rfl ?_
            obtain ⟨r8_h0, q8_h0_fault, q8_h0_faultPlace⟩ := e8
            replace hP1 : va_P D vwCl [(h0_above, .inl (tA 3, h0_above_n, .inr (.inl h0_above_c))), (h0_below, .inl (tA 3, h0_below_n, .inr (.inl h0_below_c))), (h0, .inr (13, v8_h0))] _ := hP1
            replace hD1 : va_D A [(h0_above, .inl (tA 3, h0_above_n, .inr (.inl h0_above_c))), (h0_below, .inl (tA 3, h0_below_n, .inr (.inl h0_below_c))), (h0, .inr (13, v8_h0))] := hD1
            refine lv_goto (tgt := 156) hx hb d_MM_reckon_107 (by decide) ?_
            replace hF := Option.some.inj hF
            subst hF
            exact zVret (post := (fun (u9 : List Value) => Fr [16, 17, 23] f0_h0 u9 ∧ u9[16]? = some (.int ((o8.1, o8.2, h0_values, h0_above_c, h0_below_c).1)) ∧ u9[17]? = some (.int ((o8.1, o8.2, h0_values, h0_above_c, h0_below_c).2.1)) ∧ u9[23]? = some (.int ((o8.1, o8.2, h0_values, h0_above_c, h0_below_c).2.2.1)))) (W1 := (fun (u9 : List Value) => [(h0, .inr (13, u9)), (h0_above, .inl (tA 3, h0_above_n, .inr (.inl ((o8.1, o8.2, h0_values, h0_above_c, h0_below_c).2.2.2.1)))), (h0_below, .inl (tA 3, h0_below_n, .inr (.inl ((o8.1, o8.2, h0_values, h0_above_c, h0_below_c).2.2.2.2))))])) hx hb hr hlocks (zPc (wc := [(h0, .inr (13, v8_h0)), (h0_above, .inl (tA 3, h0_above_n, .inr (.inl h0_above_c))), (h0_below, .inl (tA 3, h0_below_n, .inr (.inl h0_below_c)))]) hP1 [2, 0, 1] rfl) (va_D.sub (ws' := [(h0, .inr (13, v8_h0)), (h0_above, .inl (tA 3, h0_above_n, .inr (.inl h0_above_c))), (h0_below, .inl (tA 3, h0_below_n, .inr (.inl h0_below_c)))]) hD1 [2, 0, 1] (by decide) rfl) hS1 (v8_h0) ⟨(Fr.trans r_h0 (Fr.sub r8_h0 (by decide))), q8_h0_fault, q8_h0_faultPlace, (Fr.get r8_h0 (by decide) q_h0_values)⟩ rfl d_MM_reckon_156
        · replace hF := ifn w1_27 hF
          refine lv_tableOut (tgt := 157) hx hb d_MM_reckon_1 (by omega) (by decide) ?_
          refine lv_lload hx hb d_MM_reckon_157 (lv_at hl 3 rfl) ?_
          refine lv_lconst (v := 1) hx hb d_MM_reckon_159 (by decide) ?_
          refine W.lcmp hx hb d_MM_reckon_160 ?_
          refine lv_if_ne (tgt := 171) hx hb d_MM_reckon_161 (by decide) (fun c9 => ?_) (fun c9 => ?_)
          · replace hF := ifp c9 hF
            refine lv_aload_n hx hb d_MM_reckon_171 rfl (lv_at hl 0 rfl) ?_
            refine lv_bipush (v := 8) hx hb d_MM_reckon_172 (by decide) ?_
            refine lv_iload hx hb d_MM_reckon_174 (lv_at hl 6 rfl) ?_
            obtain ⟨o9, h9, hF⟩ := bsome hF
            refine zCallv (wc := [(h0, .inr (13, f_h0))]) (wr := [(h0_above, .inl (tA 3, h0_above_n, .inr (.inl h0_above_c))), (h0_below, .inl (tA 3, h0_below_n, .inr (.inl h0_below_c)))]) hP hD hS hA [0] [1, 2] rfl rfl (by decide) (by decide) (va_runV (As := [.int 8, .int l10]) (rest := []) ⟨hx, hb, hml, hown, hg⟩ (m_MM_stop l D tA _ h0 f_h0 8 l10 h0_fault h0_faultPlace q_h0_fault q_h0_faultPlace o9 h9) (zV 2 hg k11_105 k11_107 ks_MM_stop k1_14 k11_108 rfl rfl (by decide +kernel) ⟨(Nat.le_of_ble_eq_true rfl), (Nat.le_of_ble_eq_true rfl)⟩) (zPreV hh hK hP hD [0] (by decide) rfl (ci := 13) rfl 0 rfl) rfl rfl hl.1 rfl (lv_room (Nat.le_of_ble_eq_true rfl)) d_MM_reckon_176 ⟨(Nat.le_of_ble_eq_true rfl), (Nat.le_of_ble_eq_true rfl)⟩) (fun v9_h0 H1 locs1 e9 hP1 hD1 hS1 => ?_)
            clear hP hD hS
            refine W.cs (cells' := 0) (slots' := 0) rfl rfl ?_
            obtain ⟨r9_h0, q9_h0_fault, q9_h0_faultPlace⟩ := e9
            replace hP1 : va_P D vwCl [(h0_above, .inl (tA 3, h0_above_n, .inr (.inl h0_above_c))), (h0_below, .inl (tA 3, h0_below_n, .inr (.inl h0_below_c))), (h0, .inr (13, v9_h0))] _ := hP1
            replace hD1 : va_D A [(h0_above, .inl (tA 3, h0_above_n, .inr (.inl h0_above_c))), (h0_below, .inl (tA 3, h0_below_n, .inr (.inl h0_below_c))), (h0, .inr (13, v9_h0))] := hD1
            refine lv_goto (tgt := 228) hx hb d_MM_reckon_179 (by decide) ?_
            replace hF := Option.some.inj hF
            subst hF
            exact zVret (post := (fun (u9 : List Value) => Fr [16, 17, 23] f0_h0 u9 ∧ u9[16]? = some (.int ((o9.1, o9.2, h0_values, h0_above_c, h0_below_c).1)) ∧ u9[17]? = some (.int ((o9.1, o9.2, h0_values, h0_above_c, h0_below_c).2.1)) ∧ u9[23]? = some (.int ((o9.1, o9.2, h0_values, h0_above_c, h0_below_c).2.2.1)))) (W1 := (fun (u9 : List Value) => [(h0, .inr (13, u9)), (h0_above, .inl (tA 3, h0_above_n, .inr (.inl ((o9.1, o9.2, h0_values, h0_above_c, h0_below_c).2.2.2.1)))), (h0_below, .inl (tA 3, h0_below_n, .inr (.inl ((o9.1, o9.2, h0_values, h0_above_c, h0_below_c).2.2.2.2))))])) hx hb hr hlocks (zPc (wc := [(h0, .inr (13, v9_h0)), (h0_above, .inl (tA 3, h0_above_n, .inr (.inl h0_above_c))), (h0_below, .inl (tA 3, h0_below_n, .inr (.inl h0_below_c)))]) hP1 [2, 0, 1] rfl) (va_D.sub (ws' := [(h0, .inr (13, v9_h0)), (h0_above, .inl (tA 3, h0_above_n, .inr (.inl h0_above_c))), (h0_below, .inl (tA 3, h0_below_n, .inr (.inl h0_below_c)))]) hD1 [2, 0, 1] (by decide) rfl) hS1 (v9_h0) ⟨(Fr.trans r_h0 (Fr.sub r9_h0 (by decide))), q9_h0_fault, q9_h0_faultPlace, (Fr.get r9_h0 (by decide) q_h0_values)⟩ rfl d_MM_reckon_228
          · replace hF := ifn (fun h9 => h9 c9) hF
            refine lv_lload hx hb d_MM_reckon_164 (lv_at hl 5 rfl) ?_
            refine lv_lconst (v := 1) hx hb d_MM_reckon_166 (by decide) ?_
            refine W.lcmp hx hb d_MM_reckon_167 ?_
            refine lv_if_eq (tgt := 182) hx hb d_MM_reckon_168 (by decide) (fun c9 => ?_) (fun c9 => ?_)
            · replace hF := ifp c9 hF
              refine lv_lload hx hb d_MM_reckon_182 (lv_at hl 4 rfl) ?_
              refine lv_lconst (v := 0) hx hb d_MM_reckon_184 (by decide) ?_
              refine W.lcmp hx hb d_MM_reckon_185 ?_
              refine lv_if_gt (tgt := 200) hx hb d_MM_reckon_186 (by decide) (fun c9 => ?_) (fun c9 => ?_)
              · replace hF := ifp c9 hF
                refine lv_aload_n hx hb d_MM_reckon_200 rfl (lv_at hl 0 rfl) ?_
                refine lv_lload_n hx hb d_MM_reckon_201 rfl (lv_at hl 2 rfl) ?_
                refine lv_lload hx hb d_MM_reckon_202 (lv_at hl 4 rfl) ?_
                obtain ⟨h9, hF⟩ := chk_some hF
                refine lv_lrem hx hb d_MM_reckon_204 h9 ?_
                refine lv_lconst (v := 0) hx hb d_MM_reckon_205 (by decide) ?_
                refine W.lcmp hx hb d_MM_reckon_206 ?_
                refine lv_if_ge (tgt := 220) hx hb d_MM_reckon_207 (by decide) (fun c9 => ?_) (fun c9 => ?_)
                · replace hF := ifp c9 hF
                  refine lv_lload_n hx hb d_MM_reckon_220 rfl (lv_at hl 2 rfl) ?_
                  refine lv_lload hx hb d_MM_reckon_221 (lv_at hl 4 rfl) ?_
                  obtain ⟨h9, hF⟩ := chk_some hF
                  refine lv_lrem hx hb d_MM_reckon_223 h9 ?_
                  refine lv_lconst (v := 1) hx hb d_MM_reckon_224 (by decide) ?_
                  obtain ⟨o10, h10, hF⟩ := bsome hF
                  refine zCallv (wc := [(h0, .inr (13, f_h0)), (h0_above, .inl (tA 3, h0_above_n, .inr (.inl h0_above_c))), (h0_below, .inl (tA 3, h0_below_n, .inr (.inl h0_below_c)))]) (wr := []) hP hD hS hA [0, 1, 2] [] rfl rfl (by decide) (by decide) (va_runV (As := [.long (L2 - L2 / L6 * L6), .long 1]) (rest := []) ⟨hx, hb, hml, hown, hg⟩ (m_MM_push l D tA _ h0 h0_above h0_below f_h0 h0_above_n h0_below_n (L2 - L2 / L6 * L6) 1 h0_values h0_above_c h0_below_c q_h0_above q_h0_below q_h0_values o10 h10) (zV 2 hg k11_197 k11_199 ks_MM_push k1_14 k11_200 rfl rfl (by decide +kernel) ⟨(Nat.le_of_ble_eq_true rfl), (Nat.le_of_ble_eq_true rfl)⟩) (zPreV hh hK hP hD [0, 1, 2] (by decide) rfl (ci := 13) rfl 0 rfl) rfl rfl hl.1 rfl (lv_room (Nat.le_of_ble_eq_true rfl)) d_MM_reckon_225 ⟨(Nat.le_of_ble_eq_true rfl), (Nat.le_of_ble_eq_true rfl)⟩) (fun v10_h0 H1 locs1 e10 hP1 hD1 hS1 => ?_)
                  clear hP hD hS
                  refine W.cs (cells' := 0) (slots' := 0) rfl rfl ?_
                  obtain ⟨r10_h0, q10_h0_values⟩ := e10
                  replace hP1 : va_P D vwCl [(h0, .inr (13, v10_h0)), (h0_above, .inl (tA 3, h0_above_n, .inr (.inl o10.2.1))), (h0_below, .inl (tA 3, h0_below_n, .inr (.inl o10.2.2)))] _ := hP1
                  replace hD1 : va_D A [(h0, .inr (13, v10_h0)), (h0_above, .inl (tA 3, h0_above_n, .inr (.inl o10.2.1))), (h0_below, .inl (tA 3, h0_below_n, .inr (.inl o10.2.2)))] := hD1
                  replace hF := Option.some.inj hF
                  subst hF
                  exact zVret (post := (fun (u9 : List Value) => Fr [16, 17, 23] f0_h0 u9 ∧ u9[16]? = some (.int ((h0_fault, h0_faultPlace, o10.1, o10.2.1, o10.2.2).1)) ∧ u9[17]? = some (.int ((h0_fault, h0_faultPlace, o10.1, o10.2.1, o10.2.2).2.1)) ∧ u9[23]? = some (.int ((h0_fault, h0_faultPlace, o10.1, o10.2.1, o10.2.2).2.2.1)))) (W1 := (fun (u9 : List Value) => [(h0, .inr (13, u9)), (h0_above, .inl (tA 3, h0_above_n, .inr (.inl ((h0_fault, h0_faultPlace, o10.1, o10.2.1, o10.2.2).2.2.2.1)))), (h0_below, .inl (tA 3, h0_below_n, .inr (.inl ((h0_fault, h0_faultPlace, o10.1, o10.2.1, o10.2.2).2.2.2.2))))])) hx hb hr hlocks hP1 hD1 hS1 (v10_h0) ⟨(Fr.trans r_h0 (Fr.sub r10_h0 (by decide))), (Fr.get r10_h0 (by decide) q_h0_fault), (Fr.get r10_h0 (by decide) q_h0_faultPlace), q10_h0_values⟩ rfl d_MM_reckon_228
                · replace hF := ifn c9 hF
                  refine lv_lload_n hx hb d_MM_reckon_210 rfl (lv_at hl 2 rfl) ?_
                  refine lv_lload hx hb d_MM_reckon_211 (lv_at hl 4 rfl) ?_
                  obtain ⟨h9, hF⟩ := chk_some hF
                  refine lv_lrem hx hb d_MM_reckon_213 h9 ?_
                  refine lv_lload hx hb d_MM_reckon_214 (lv_at hl 4 rfl) ?_
                  refine lv_ladd hx hb d_MM_reckon_216 ?_
                  refine lv_goto (tgt := 224) hx hb d_MM_reckon_217 (by decide) ?_
                  refine lv_lconst (v := 1) hx hb d_MM_reckon_224 (by decide) ?_
                  obtain ⟨o11, h11, hF⟩ := bsome hF
                  refine zCallv (wc := [(h0, .inr (13, f_h0)), (h0_above, .inl (tA 3, h0_above_n, .inr (.inl h0_above_c))), (h0_below, .inl (tA 3, h0_below_n, .inr (.inl h0_below_c)))]) (wr := []) hP hD hS hA [0, 1, 2] [] rfl rfl (by decide) (by decide) (va_runV (As := [.long ((L2 - L2 / L6 * L6) + L6), .long 1]) (rest := []) ⟨hx, hb, hml, hown, hg⟩ (m_MM_push l D tA _ h0 h0_above h0_below f_h0 h0_above_n h0_below_n ((L2 - L2 / L6 * L6) + L6) 1 h0_values h0_above_c h0_below_c q_h0_above q_h0_below q_h0_values o11 h11) (zV 2 hg k11_197 k11_199 ks_MM_push k1_14 k11_200 rfl rfl (by decide +kernel) ⟨(Nat.le_of_ble_eq_true rfl), (Nat.le_of_ble_eq_true rfl)⟩) (zPreV hh hK hP hD [0, 1, 2] (by decide) rfl (ci := 13) rfl 0 rfl) rfl rfl hl.1 rfl (lv_room (Nat.le_of_ble_eq_true rfl)) d_MM_reckon_225 ⟨(Nat.le_of_ble_eq_true rfl), (Nat.le_of_ble_eq_true rfl)⟩) (fun v11_h0 H1 locs1 e11 hP1 hD1 hS1 => ?_)
                  clear hP hD hS
                  refine W.cs (cells' := 0) (slots' := 0) rfl rfl ?_
                  obtain ⟨r11_h0, q11_h0_values⟩ := e11
                  replace hP1 : va_P D vwCl [(h0, .inr (13, v11_h0)), (h0_above, .inl (tA 3, h0_above_n, .inr (.inl o11.2.1))), (h0_below, .inl (tA 3, h0_below_n, .inr (.inl o11.2.2)))] _ := hP1
                  replace hD1 : va_D A [(h0, .inr (13, v11_h0)), (h0_above, .inl (tA 3, h0_above_n, .inr (.inl o11.2.1))), (h0_below, .inl (tA 3, h0_below_n, .inr (.inl o11.2.2)))] := hD1
                  replace hF := Option.some.inj hF
                  subst hF
                  exact zVret (post := (fun (u9 : List Value) => Fr [16, 17, 23] f0_h0 u9 ∧ u9[16]? = some (.int ((h0_fault, h0_faultPlace, o11.1, o11.2.1, o11.2.2).1)) ∧ u9[17]? = some (.int ((h0_fault, h0_faultPlace, o11.1, o11.2.1, o11.2.2).2.1)) ∧ u9[23]? = some (.int ((h0_fault, h0_faultPlace, o11.1, o11.2.1, o11.2.2).2.2.1)))) (W1 := (fun (u9 : List Value) => [(h0, .inr (13, u9)), (h0_above, .inl (tA 3, h0_above_n, .inr (.inl ((h0_fault, h0_faultPlace, o11.1, o11.2.1, o11.2.2).2.2.2.1)))), (h0_below, .inl (tA 3, h0_below_n, .inr (.inl ((h0_fault, h0_faultPlace, o11.1, o11.2.1, o11.2.2).2.2.2.2))))])) hx hb hr hlocks hP1 hD1 hS1 (v11_h0) ⟨(Fr.trans r_h0 (Fr.sub r11_h0 (by decide))), (Fr.get r11_h0 (by decide) q_h0_fault), (Fr.get r11_h0 (by decide) q_h0_faultPlace), q11_h0_values⟩ rfl d_MM_reckon_228
              · replace hF := ifn c9 hF
                refine lv_aload_n hx hb d_MM_reckon_189 rfl (lv_at hl 0 rfl) ?_
                refine lv_bipush (v := 7) hx hb d_MM_reckon_190 (by decide) ?_
                refine lv_iload hx hb d_MM_reckon_192 (lv_at hl 6 rfl) ?_
                obtain ⟨o12, h12, hF⟩ := bsome hF
                refine zCallv (wc := [(h0, .inr (13, f_h0))]) (wr := [(h0_above, .inl (tA 3, h0_above_n, .inr (.inl h0_above_c))), (h0_below, .inl (tA 3, h0_below_n, .inr (.inl h0_below_c)))]) hP hD hS hA [0] [1, 2] rfl rfl (by decide) (by decide) (va_runV (As := [.int 7, .int l10]) (rest := []) ⟨hx, hb, hml, hown, hg⟩ (m_MM_stop l D tA _ h0 f_h0 7 l10 h0_fault h0_faultPlace q_h0_fault q_h0_faultPlace o12 h12) (zV 2 hg k11_105 k11_107 ks_MM_stop k1_14 k11_108 rfl rfl (by decide +kernel) ⟨(Nat.le_of_ble_eq_true rfl), (Nat.le_of_ble_eq_true rfl)⟩) (zPreV hh hK hP hD [0] (by decide) rfl (ci := 13) rfl 0 rfl) rfl rfl hl.1 rfl (lv_room (Nat.le_of_ble_eq_true rfl)) d_MM_reckon_194 ⟨(Nat.le_of_ble_eq_true rfl), (Nat.le_of_ble_eq_true rfl)⟩) (fun v12_h0 H1 locs1 e12 hP1 hD1 hS1 => ?_)
                clear hP hD hS
                refine W.cs (cells' := 0) (slots' := 0) rfl rfl ?_
                obtain ⟨r12_h0, q12_h0_fault, q12_h0_faultPlace⟩ := e12
                replace hP1 : va_P D vwCl [(h0_above, .inl (tA 3, h0_above_n, .inr (.inl h0_above_c))), (h0_below, .inl (tA 3, h0_below_n, .inr (.inl h0_below_c))), (h0, .inr (13, v12_h0))] _ := hP1
                replace hD1 : va_D A [(h0_above, .inl (tA 3, h0_above_n, .inr (.inl h0_above_c))), (h0_below, .inl (tA 3, h0_below_n, .inr (.inl h0_below_c))), (h0, .inr (13, v12_h0))] := hD1
                refine lv_goto (tgt := 228) hx hb d_MM_reckon_197 (by decide) ?_
                replace hF := Option.some.inj hF
                subst hF
                exact zVret (post := (fun (u9 : List Value) => Fr [16, 17, 23] f0_h0 u9 ∧ u9[16]? = some (.int ((o12.1, o12.2, h0_values, h0_above_c, h0_below_c).1)) ∧ u9[17]? = some (.int ((o12.1, o12.2, h0_values, h0_above_c, h0_below_c).2.1)) ∧ u9[23]? = some (.int ((o12.1, o12.2, h0_values, h0_above_c, h0_below_c).2.2.1)))) (W1 := (fun (u9 : List Value) => [(h0, .inr (13, u9)), (h0_above, .inl (tA 3, h0_above_n, .inr (.inl ((o12.1, o12.2, h0_values, h0_above_c, h0_below_c).2.2.2.1)))), (h0_below, .inl (tA 3, h0_below_n, .inr (.inl ((o12.1, o12.2, h0_values, h0_above_c, h0_below_c).2.2.2.2))))])) hx hb hr hlocks (zPc (wc := [(h0, .inr (13, v12_h0)), (h0_above, .inl (tA 3, h0_above_n, .inr (.inl h0_above_c))), (h0_below, .inl (tA 3, h0_below_n, .inr (.inl h0_below_c)))]) hP1 [2, 0, 1] rfl) (va_D.sub (ws' := [(h0, .inr (13, v12_h0)), (h0_above, .inl (tA 3, h0_above_n, .inr (.inl h0_above_c))), (h0_below, .inl (tA 3, h0_below_n, .inr (.inl h0_below_c)))]) hD1 [2, 0, 1] (by decide) rfl) hS1 (v12_h0) ⟨(Fr.trans r_h0 (Fr.sub r12_h0 (by decide))), q12_h0_fault, q12_h0_faultPlace, (Fr.get r12_h0 (by decide) q_h0_values)⟩ rfl d_MM_reckon_228
            · replace hF := ifn c9 hF
              refine lv_aload_n hx hb d_MM_reckon_171 rfl (lv_at hl 0 rfl) ?_
              refine lv_bipush (v := 8) hx hb d_MM_reckon_172 (by decide) ?_
              refine lv_iload hx hb d_MM_reckon_174 (lv_at hl 6 rfl) ?_
              obtain ⟨o13, h13, hF⟩ := bsome hF
              refine zCallv (wc := [(h0, .inr (13, f_h0))]) (wr := [(h0_above, .inl (tA 3, h0_above_n, .inr (.inl h0_above_c))), (h0_below, .inl (tA 3, h0_below_n, .inr (.inl h0_below_c)))]) hP hD hS hA [0] [1, 2] rfl rfl (by decide) (by decide) (va_runV (As := [.int 8, .int l10]) (rest := []) ⟨hx, hb, hml, hown, hg⟩ (m_MM_stop l D tA _ h0 f_h0 8 l10 h0_fault h0_faultPlace q_h0_fault q_h0_faultPlace o13 h13) (zV 2 hg k11_105 k11_107 ks_MM_stop k1_14 k11_108 rfl rfl (by decide +kernel) ⟨(Nat.le_of_ble_eq_true rfl), (Nat.le_of_ble_eq_true rfl)⟩) (zPreV hh hK hP hD [0] (by decide) rfl (ci := 13) rfl 0 rfl) rfl rfl hl.1 rfl (lv_room (Nat.le_of_ble_eq_true rfl)) d_MM_reckon_176 ⟨(Nat.le_of_ble_eq_true rfl), (Nat.le_of_ble_eq_true rfl)⟩) (fun v13_h0 H1 locs1 e13 hP1 hD1 hS1 => ?_)
              clear hP hD hS
              refine W.cs (cells' := 0) (slots' := 0) rfl rfl ?_
              obtain ⟨r13_h0, q13_h0_fault, q13_h0_faultPlace⟩ := e13
              replace hP1 : va_P D vwCl [(h0_above, .inl (tA 3, h0_above_n, .inr (.inl h0_above_c))), (h0_below, .inl (tA 3, h0_below_n, .inr (.inl h0_below_c))), (h0, .inr (13, v13_h0))] _ := hP1
              replace hD1 : va_D A [(h0_above, .inl (tA 3, h0_above_n, .inr (.inl h0_above_c))), (h0_below, .inl (tA 3, h0_below_n, .inr (.inl h0_below_c))), (h0, .inr (13, v13_h0))] := hD1
              refine lv_goto (tgt := 228) hx hb d_MM_reckon_179 (by decide) ?_
              replace hF := Option.some.inj hF
              subst hF
              exact zVret (post := (fun (u9 : List Value) => Fr [16, 17, 23] f0_h0 u9 ∧ u9[16]? = some (.int ((o13.1, o13.2, h0_values, h0_above_c, h0_below_c).1)) ∧ u9[17]? = some (.int ((o13.1, o13.2, h0_values, h0_above_c, h0_below_c).2.1)) ∧ u9[23]? = some (.int ((o13.1, o13.2, h0_values, h0_above_c, h0_below_c).2.2.1)))) (W1 := (fun (u9 : List Value) => [(h0, .inr (13, u9)), (h0_above, .inl (tA 3, h0_above_n, .inr (.inl ((o13.1, o13.2, h0_values, h0_above_c, h0_below_c).2.2.2.1)))), (h0_below, .inl (tA 3, h0_below_n, .inr (.inl ((o13.1, o13.2, h0_values, h0_above_c, h0_below_c).2.2.2.2))))])) hx hb hr hlocks (zPc (wc := [(h0, .inr (13, v13_h0)), (h0_above, .inl (tA 3, h0_above_n, .inr (.inl h0_above_c))), (h0_below, .inl (tA 3, h0_below_n, .inr (.inl h0_below_c)))]) hP1 [2, 0, 1] rfl) (va_D.sub (ws' := [(h0, .inr (13, v13_h0)), (h0_above, .inl (tA 3, h0_above_n, .inr (.inl h0_above_c))), (h0_below, .inl (tA 3, h0_below_n, .inr (.inl h0_below_c)))]) hD1 [2, 0, 1] (by decide) rfl) hS1 (v13_h0) ⟨(Fr.trans r_h0 (Fr.sub r13_h0 (by decide))), q13_h0_fault, q13_h0_faultPlace, (Fr.get r13_h0 (by decide) q_h0_values)⟩ rfl d_MM_reckon_228
set_option maxHeartbeats 4000000 in
set_option maxRecDepth 100000 in
theorem m_MM_reckon (l : Launch) (D : va_G) (tA : Nat → ClassId) (sz : Nat) (h0 h0_above h0_below : Nat) (f0_h0 : List Value) (h0_above_n : Nat) (h0_below_n : Nat) (l1 : Int32) (L2 : Int64) (L4 : Int64) (L6 : Int64) (L8 : Int64) (l10 : Int32) (h0_fault : Int32) (h0_faultPlace : Int32) (h0_values : Int32) (h0_above_c : Nat → Int64) (h0_below_c : Nat → Int64) (q_h0_above : f0_h0[21]? = some (.ref h0_above)) (q_h0_below : f0_h0[22]? = some (.ref h0_below)) (q_h0_fault : f0_h0[16]? = some (.int h0_fault)) (q_h0_faultPlace : f0_h0[17]? = some (.int h0_faultPlace)) (q_h0_values : f0_h0[23]? = some (.int h0_values)) (n : Nat) (out : Int32 × Int32 × Int32 × (Nat → Int64) × (Nat → Int64)) (hF : f_MM_reckon h0_above_n h0_below_n l1 L2 L4 L6 L8 l10 h0_fault h0_faultPlace h0_values h0_above_c h0_below_c n = some out) : zMv l ({ cls := "ChanceArenaModel", name := "reckon", desc := "(IJJJJI)V" } : Jvm.MethodName) (zW (Jvm.Cond.code ({ cls := "ChanceArenaModel", name := "reckon", desc := "(IJJJJI)V" } : Jvm.MethodName) prog_15_method_62_code (11 : Nat) (Option.none : Option Jvm.ClassFile.FieldType))) { frames := 2, cells := 0, slots := 0, locals := 60 } [.ref h0, .int l1, .long L2, .long L4, .long L6, .long L8, .int l10] D tA [(h0, .inr (13, f0_h0)), (h0_above, .inl (tA 3, h0_above_n, .inr (.inl h0_above_c))), (h0_below, .inl (tA 3, h0_below_n, .inr (.inl h0_below_c)))] sz (fun (u9 : List Value) => Fr [16, 17, 23] f0_h0 u9 ∧ u9[16]? = some (.int out.1) ∧ u9[17]? = some (.int out.2.1) ∧ u9[23]? = some (.int out.2.2.1)) (fun (u9 : List Value) => [(h0, .inr (13, u9)), (h0_above, .inl (tA 3, h0_above_n, .inr (.inl out.2.2.2.1))), (h0_below, .inl (tA 3, h0_below_n, .inr (.inl out.2.2.2.2)))]) 0 0 := by
  refine zOpen (l := l) (y := ({ cls := "ChanceArenaModel", name := "reckon", desc := "(IJJJJI)V" } : Jvm.MethodName)) (ws := zW (Jvm.Cond.code ({ cls := "ChanceArenaModel", name := "reckon", desc := "(IJJJJI)V" } : Jvm.MethodName) prog_15_method_62_code (11 : Nat) (Option.none : Option Jvm.ClassFile.FieldType))) (rm := { frames := 2, cells := 0, slots := 0, locals := 60 }) (av := [.ref h0, .int l1, .long L2, .long L4, .long L6, .long L8, .int l10]) (D := D) (tA := tA) (W0 := [(h0, .inr (13, f0_h0)), (h0_above, .inl (tA 3, h0_above_n, .inr (.inl h0_above_c))), (h0_below, .inl (tA 3, h0_below_n, .inr (.inl h0_below_c)))]) (Wm := [(h0, .inr (13, f0_h0)), (h0_above, .inl (tA 3, h0_above_n, .inr (.inl h0_above_c))), (h0_below, .inl (tA 3, h0_below_n, .inr (.inl h0_below_c)))]) (sz := sz) (mc := 0) (ms := 0) (fun A => va_Qv (fun (u9 : List Value) => Fr [16, 17, 23] f0_h0 u9 ∧ u9[16]? = some (.int out.1) ∧ u9[17]? = some (.int out.2.1) ∧ u9[23]? = some (.int out.2.2.1)) (zPost D A (fun (u9 : List Value) => [(h0, .inr (13, u9)), (h0_above, .inl (tA 3, h0_above_n, .inr (.inl out.2.2.2.1))), (h0_below, .inl (tA 3, h0_below_n, .inr (.inl out.2.2.2.2)))])) A) (lv := [(0, .ref h0), (1, .int l1), (2, .long L2), (4, .long L4), (6, .long L6), (8, .long L8), (10, .int l10)]) (by decide) rfl (Nat.le_of_ble_eq_true rfl) rfl ?_
  intro p e s m below meth c A ls hx hb hr hml hh hg hown hlocks hnm hK hA hP hD0 hAw hS hl
  have hD := zD hD0 hAw
  exact b_MM_reckon_0 hx hb hr hml hh hg hown hlocks hK hA   f0_h0 _ _ _ hF q_h0_above q_h0_below q_h0_fault q_h0_faultPlace q_h0_values Fr.rfl hP hD hS hl
def f_MM_until (h0_kinds_all_n : Nat) (l1 : Int32) (l2 : Int32) (h0_kinds_all_c : Nat → Int32) : Nat → Nat → Int32 → Int32 → Int32 → Int32 → Int32 → Option (Int32)
  | 0, _, _, _, _, _, _ => none
  | n + 1, 0, l3, l4, l5, l6, k0 => chk True (f_MM_until h0_kinds_all_n l1 l2 h0_kinds_all_c n 1 0 0 l1 0 0)
  | n + 1, 1, l3, l4, l5, l6, k0 => Option.bind (f_MM_word1 h0_kinds_all_n l5 h0_kinds_all_c) (fun o1 => if ¬ (o1 : Int32) = l2 then Option.bind (f_MM_word1 h0_kinds_all_n l5 h0_kinds_all_c) (fun o2 => if ¬ (o2 : Int32) = 36 then (if ¬ (o2 : Int32) = 37 then f_MM_until h0_kinds_all_n l1 l2 h0_kinds_all_c n 2 l3 l4 l5 o2 l3 else f_MM_until h0_kinds_all_n l1 l2 h0_kinds_all_c n 2 l3 l4 l5 o2 (l3 - 1)) else f_MM_until h0_kinds_all_n l1 l2 h0_kinds_all_c n 2 l3 l4 l5 o2 (l3 + 1)) else if (0 : Int32) < l3 then Option.bind (f_MM_word1 h0_kinds_all_n l5 h0_kinds_all_c) (fun o3 => if ¬ (o3 : Int32) = 36 then (if ¬ (o3 : Int32) = 37 then f_MM_until h0_kinds_all_n l1 l2 h0_kinds_all_c n 2 l3 l4 l5 o3 l3 else f_MM_until h0_kinds_all_n l1 l2 h0_kinds_all_c n 2 l3 l4 l5 o3 (l3 - 1)) else f_MM_until h0_kinds_all_n l1 l2 h0_kinds_all_c n 2 l3 l4 l5 o3 (l3 + 1)) else if (l4 : Int32) ≤ 0 then some (l5) else Option.bind (f_MM_word1 h0_kinds_all_n l5 h0_kinds_all_c) (fun o4 => if ¬ (o4 : Int32) = 36 then (if ¬ (o4 : Int32) = 37 then f_MM_until h0_kinds_all_n l1 l2 h0_kinds_all_c n 2 l3 l4 l5 o4 l3 else f_MM_until h0_kinds_all_n l1 l2 h0_kinds_all_c n 2 l3 l4 l5 o4 (l3 - 1)) else f_MM_until h0_kinds_all_n l1 l2 h0_kinds_all_c n 2 l3 l4 l5 o4 (l3 + 1)))
  | n + 1, 2, l3, l4, l5, l6, k0 => if (k0 : Int32) ≤ 0 then (if ¬ (l6 : Int32) = 32 then (if ¬ (l6 : Int32) = 33 then f_MM_until h0_kinds_all_n l1 l2 h0_kinds_all_c n 1 k0 l4 (l5 + Int32.ofInt 1) 0 0 else f_MM_until h0_kinds_all_n l1 l2 h0_kinds_all_c n 1 k0 (l4 - 1) (l5 + Int32.ofInt 1) 0 0) else f_MM_until h0_kinds_all_n l1 l2 h0_kinds_all_c n 1 k0 (l4 + 1) (l5 + Int32.ofInt 1) 0 0) else f_MM_until h0_kinds_all_n l1 l2 h0_kinds_all_c n 1 k0 l4 (l5 + Int32.ofInt 1) 0 0
  | _ + 1, _ + 3, _, _, _, _, _ => none
theorem e_MM_until_0 (h0_kinds_all_n : Nat) (l1 : Int32) (l2 : Int32) (h0_kinds_all_c : Nat → Int32) (n : Nat) (l3 : Int32) (l4 : Int32) (l5 : Int32) (l6 : Int32) (k0 : Int32) : f_MM_until h0_kinds_all_n l1 l2 h0_kinds_all_c (n + 1) 0 l3 l4 l5 l6 k0 = chk True (f_MM_until h0_kinds_all_n l1 l2 h0_kinds_all_c n 1 0 0 l1 0 0) := by rw [f_MM_until]
theorem e_MM_until_1 (h0_kinds_all_n : Nat) (l1 : Int32) (l2 : Int32) (h0_kinds_all_c : Nat → Int32) (n : Nat) (l3 : Int32) (l4 : Int32) (l5 : Int32) (l6 : Int32) (k0 : Int32) : f_MM_until h0_kinds_all_n l1 l2 h0_kinds_all_c (n + 1) 1 l3 l4 l5 l6 k0 = Option.bind (f_MM_word1 h0_kinds_all_n l5 h0_kinds_all_c) (fun o1 => if ¬ (o1 : Int32) = l2 then Option.bind (f_MM_word1 h0_kinds_all_n l5 h0_kinds_all_c) (fun o2 => if ¬ (o2 : Int32) = 36 then (if ¬ (o2 : Int32) = 37 then f_MM_until h0_kinds_all_n l1 l2 h0_kinds_all_c n 2 l3 l4 l5 o2 l3 else f_MM_until h0_kinds_all_n l1 l2 h0_kinds_all_c n 2 l3 l4 l5 o2 (l3 - 1)) else f_MM_until h0_kinds_all_n l1 l2 h0_kinds_all_c n 2 l3 l4 l5 o2 (l3 + 1)) else if (0 : Int32) < l3 then Option.bind (f_MM_word1 h0_kinds_all_n l5 h0_kinds_all_c) (fun o3 => if ¬ (o3 : Int32) = 36 then (if ¬ (o3 : Int32) = 37 then f_MM_until h0_kinds_all_n l1 l2 h0_kinds_all_c n 2 l3 l4 l5 o3 l3 else f_MM_until h0_kinds_all_n l1 l2 h0_kinds_all_c n 2 l3 l4 l5 o3 (l3 - 1)) else f_MM_until h0_kinds_all_n l1 l2 h0_kinds_all_c n 2 l3 l4 l5 o3 (l3 + 1)) else if (l4 : Int32) ≤ 0 then some (l5) else Option.bind (f_MM_word1 h0_kinds_all_n l5 h0_kinds_all_c) (fun o4 => if ¬ (o4 : Int32) = 36 then (if ¬ (o4 : Int32) = 37 then f_MM_until h0_kinds_all_n l1 l2 h0_kinds_all_c n 2 l3 l4 l5 o4 l3 else f_MM_until h0_kinds_all_n l1 l2 h0_kinds_all_c n 2 l3 l4 l5 o4 (l3 - 1)) else f_MM_until h0_kinds_all_n l1 l2 h0_kinds_all_c n 2 l3 l4 l5 o4 (l3 + 1))) := by rw [f_MM_until]
theorem e_MM_until_2 (h0_kinds_all_n : Nat) (l1 : Int32) (l2 : Int32) (h0_kinds_all_c : Nat → Int32) (n : Nat) (l3 : Int32) (l4 : Int32) (l5 : Int32) (l6 : Int32) (k0 : Int32) : f_MM_until h0_kinds_all_n l1 l2 h0_kinds_all_c (n + 1) 2 l3 l4 l5 l6 k0 = if (k0 : Int32) ≤ 0 then (if ¬ (l6 : Int32) = 32 then (if ¬ (l6 : Int32) = 33 then f_MM_until h0_kinds_all_n l1 l2 h0_kinds_all_c n 1 k0 l4 (l5 + Int32.ofInt 1) 0 0 else f_MM_until h0_kinds_all_n l1 l2 h0_kinds_all_c n 1 k0 (l4 - 1) (l5 + Int32.ofInt 1) 0 0) else f_MM_until h0_kinds_all_n l1 l2 h0_kinds_all_c n 1 k0 (l4 + 1) (l5 + Int32.ofInt 1) 0 0) else f_MM_until h0_kinds_all_n l1 l2 h0_kinds_all_c n 1 k0 l4 (l5 + Int32.ofInt 1) 0 0 := by rw [f_MM_until]
theorem z_MM_until (h0_kinds_all_n : Nat) (l1 : Int32) (l2 : Int32) (h0_kinds_all_c : Nat → Int32) (h : Nat) (l3 : Int32) (l4 : Int32) (l5 : Int32) (l6 : Int32) (k0 : Int32) : f_MM_until h0_kinds_all_n l1 l2 h0_kinds_all_c 0 h l3 l4 l5 l6 k0 = none := by rw [f_MM_until]
set_option maxHeartbeats 4000000 in
set_option maxRecDepth 100000 in
theorem b_MM_until_0 {p : Program} {l : Launch} {e : Env} {s : State} {m : MethodId} {args : Array Value} {below : List Frame} {meth : Method} {c : Code} {D : va_G} {tA : Nat → ClassId} {A : Nat → Prop} {h0 h0_kinds h0_kinds_all : Nat} {f0_h0 f0_h0_kinds : List Value} {h0_kinds_all_n : Nat} {l1 : Int32} {l2 : Int32} {h0_kinds_all_c : Nat → Int32} {out : Int32} (hx : p.tables.exec = Jvm.exec) (hb : c.code = prog_15_method_63_code) (hr : meth.sig.returnType = (Option.some Jvm.ClassFile.FieldType.int)) (hml : c.maxLocals = 7) (hh : zH s) (hg : ∀ w ∈ lw_R, w.before args s = true) (hown : s.vm.findClass "ChanceArenaModel" = some m.cls) (hlocks : meth.locks = false) (hK : va_K D vwCl (zT tA) s) (hA : ∀ q, s.heap.size ≤ q → A q) {n : Nat} (ih1 : ∀ (l3 : Int32) (l4 : Int32) (l5 : Int32) (l6 : Int32) (k0 : Int32) (H : Heap) (locs : List Loc) (ls : Array Slot), f_MM_until h0_kinds_all_n l1 l2 h0_kinds_all_c n 1 l3 l4 l5 l6 k0 = some out → f0_h0[3]? = some (.ref h0_kinds) → f0_h0_kinds[0]? = some (.ref h0_kinds_all) → va_P D vwCl [(h0, .inr (13, f0_h0)), (h0_kinds, .inr (14, f0_h0_kinds)), (h0_kinds_all, .inl (tA 0, h0_kinds_all_n, .inl h0_kinds_all_c))] H → va_D A [(h0, .inr (13, f0_h0)), (h0_kinds, .inr (14, f0_h0_kinds)), (h0_kinds_all, .inl (tA 0, h0_kinds_all_n, .inl h0_kinds_all_c))] → va_S A s.heap H locs → lv_has ls 7 [(0, .ref h0), (1, .int l1), (2, .int l2), (3, .int l3), (4, .int l4), (5, .int l5)] → W p l e { frames := 2, cells := 0, slots := 0, locals := 42 } s m args below meth c H locs 0 0 (MQ below (va_Qi (fun (r9 : Int32) (u9 : Unit) => r9 = out) (zPost D A (fun (u9 : Unit) => [(h0, .inr (13, f0_h0)), (h0_kinds, .inr (14, f0_h0_kinds)), (h0_kinds_all, .inl (tA 0, h0_kinds_all_n, .inl h0_kinds_all_c))])) A) args s 0 0 A) (F0 m 8 ls [])) : ∀ (l3 : Int32) (l4 : Int32) (l5 : Int32) (l6 : Int32) (k0 : Int32) (H : Heap) (locs : List Loc) (ls : Array Slot), f_MM_until h0_kinds_all_n l1 l2 h0_kinds_all_c (n + 1) 0 l3 l4 l5 l6 k0 = some out → f0_h0[3]? = some (.ref h0_kinds) → f0_h0_kinds[0]? = some (.ref h0_kinds_all) → va_P D vwCl [(h0, .inr (13, f0_h0)), (h0_kinds, .inr (14, f0_h0_kinds)), (h0_kinds_all, .inl (tA 0, h0_kinds_all_n, .inl h0_kinds_all_c))] H → va_D A [(h0, .inr (13, f0_h0)), (h0_kinds, .inr (14, f0_h0_kinds)), (h0_kinds_all, .inl (tA 0, h0_kinds_all_n, .inl h0_kinds_all_c))] → va_S A s.heap H locs → lv_has ls 7 [(0, .ref h0), (1, .int l1), (2, .int l2)] → W p l e { frames := 2, cells := 0, slots := 0, locals := 42 } s m args below meth c H locs 0 0 (MQ below (va_Qi (fun (r9 : Int32) (u9 : Unit) => r9 = out) (zPost D A (fun (u9 : Unit) => [(h0, .inr (13, f0_h0)), (h0_kinds, .inr (14, f0_h0_kinds)), (h0_kinds_all, .inl (tA 0, h0_kinds_all_n, .inl h0_kinds_all_c))])) A) args s 0 0 A) (F0 m 0 ls []) := by
  intro l3 l4 l5 l6 k0   H locs ls hF q_h0_kinds q_h0_kinds_all hP hD hS hl
  rw [e_MM_until_0] at hF
  obtain ⟨_, hF⟩ := chk_some hF
  refine lv_iconst (v := 0) hx hb d_MM_until_0 (by decide) ?_
  refine lv_istore_n (lv' := [(3, .int 0), (0, .ref h0), (1, .int l1), (2, .int l2)]) hx hb d_MM_until_1 rfl hl (by decide) rfl (fun ls hl => ?_)
  refine lv_iconst (v := 0) hx hb d_MM_until_2 (by decide) ?_
  refine lv_istore (lv' := [(4, .int 0), (3, .int 0), (0, .ref h0), (1, .int l1), (2, .int l2)]) hx hb d_MM_until_3 hl (by decide) rfl (fun ls hl => ?_)
  refine lv_iload_n hx hb d_MM_until_5 rfl (lv_at hl 3 rfl) ?_
  refine lv_istore (lv' := [(5, .int l1), (4, .int 0), (3, .int 0), (0, .ref h0), (1, .int l1), (2, .int l2)]) hx hb d_MM_until_6 hl (by decide) rfl (fun ls hl => ?_)
  exact ih1 0 0 l1 0 0   _ _ _ hF q_h0_kinds q_h0_kinds_all hP hD hS (lv_sub hl [3, 4, 5, 2, 1, 0] rfl)
set_option maxHeartbeats 4000000 in
set_option maxRecDepth 100000 in
theorem b_MM_until_1 {p : Program} {l : Launch} {e : Env} {s : State} {m : MethodId} {args : Array Value} {below : List Frame} {meth : Method} {c : Code} {D : va_G} {tA : Nat → ClassId} {A : Nat → Prop} {h0 h0_kinds h0_kinds_all : Nat} {f0_h0 f0_h0_kinds : List Value} {h0_kinds_all_n : Nat} {l1 : Int32} {l2 : Int32} {h0_kinds_all_c : Nat → Int32} {out : Int32} (hx : p.tables.exec = Jvm.exec) (hb : c.code = prog_15_method_63_code) (hr : meth.sig.returnType = (Option.some Jvm.ClassFile.FieldType.int)) (hml : c.maxLocals = 7) (hh : zH s) (hg : ∀ w ∈ lw_R, w.before args s = true) (hown : s.vm.findClass "ChanceArenaModel" = some m.cls) (hlocks : meth.locks = false) (hK : va_K D vwCl (zT tA) s) (hA : ∀ q, s.heap.size ≤ q → A q) {n : Nat} (ih2 : ∀ (l3 : Int32) (l4 : Int32) (l5 : Int32) (l6 : Int32) (k0 : Int32) (H : Heap) (locs : List Loc) (ls : Array Slot), f_MM_until h0_kinds_all_n l1 l2 h0_kinds_all_c n 2 l3 l4 l5 l6 k0 = some out → f0_h0[3]? = some (.ref h0_kinds) → f0_h0_kinds[0]? = some (.ref h0_kinds_all) → va_P D vwCl [(h0, .inr (13, f0_h0)), (h0_kinds, .inr (14, f0_h0_kinds)), (h0_kinds_all, .inl (tA 0, h0_kinds_all_n, .inl h0_kinds_all_c))] H → va_D A [(h0, .inr (13, f0_h0)), (h0_kinds, .inr (14, f0_h0_kinds)), (h0_kinds_all, .inl (tA 0, h0_kinds_all_n, .inl h0_kinds_all_c))] → va_S A s.heap H locs → lv_has ls 7 [(0, .ref h0), (1, .int l1), (2, .int l2), (3, .int l3), (4, .int l4), (5, .int l5), (6, .int l6)] → W p l e { frames := 2, cells := 0, slots := 0, locals := 42 } s m args below meth c H locs 0 0 (MQ below (va_Qi (fun (r9 : Int32) (u9 : Unit) => r9 = out) (zPost D A (fun (u9 : Unit) => [(h0, .inr (13, f0_h0)), (h0_kinds, .inr (14, f0_h0_kinds)), (h0_kinds_all, .inl (tA 0, h0_kinds_all_n, .inl h0_kinds_all_c))])) A) args s 0 0 A) (F0 m 62 ls [.int k0])) : ∀ (l3 : Int32) (l4 : Int32) (l5 : Int32) (l6 : Int32) (k0 : Int32) (H : Heap) (locs : List Loc) (ls : Array Slot), f_MM_until h0_kinds_all_n l1 l2 h0_kinds_all_c (n + 1) 1 l3 l4 l5 l6 k0 = some out → f0_h0[3]? = some (.ref h0_kinds) → f0_h0_kinds[0]? = some (.ref h0_kinds_all) → va_P D vwCl [(h0, .inr (13, f0_h0)), (h0_kinds, .inr (14, f0_h0_kinds)), (h0_kinds_all, .inl (tA 0, h0_kinds_all_n, .inl h0_kinds_all_c))] H → va_D A [(h0, .inr (13, f0_h0)), (h0_kinds, .inr (14, f0_h0_kinds)), (h0_kinds_all, .inl (tA 0, h0_kinds_all_n, .inl h0_kinds_all_c))] → va_S A s.heap H locs → lv_has ls 7 [(0, .ref h0), (1, .int l1), (2, .int l2), (3, .int l3), (4, .int l4), (5, .int l5)] → W p l e { frames := 2, cells := 0, slots := 0, locals := 42 } s m args below meth c H locs 0 0 (MQ below (va_Qi (fun (r9 : Int32) (u9 : Unit) => r9 = out) (zPost D A (fun (u9 : Unit) => [(h0, .inr (13, f0_h0)), (h0_kinds, .inr (14, f0_h0_kinds)), (h0_kinds_all, .inl (tA 0, h0_kinds_all_n, .inl h0_kinds_all_c))])) A) args s 0 0 A) (F0 m 8 ls []) := by
  intro l3 l4 l5 l6 k0   H locs ls hF q_h0_kinds q_h0_kinds_all hP hD hS hl
  rw [e_MM_until_1] at hF
  refine lv_aload_n hx hb d_MM_until_8 rfl (lv_at hl 0 rfl) ?_
  refine lv_iload hx hb d_MM_until_9 (lv_at hl 5 rfl) ?_
  obtain ⟨o1, h1, hF⟩ := bsome hF
  refine zCalli (wc := [(h0, .inr (13, f0_h0)), (h0_kinds, .inr (14, f0_h0_kinds)), (h0_kinds_all, .inl (tA 0, h0_kinds_all_n, .inl h0_kinds_all_c))]) (wr := []) hP hD hS hA [0, 1, 2] [] rfl rfl (by decide) (by decide) (va_runV (As := [.int l5]) (rest := []) ⟨hx, hb, hml, hown, hg⟩ (m_MM_word1 l D tA _ h0 h0_kinds h0_kinds_all f0_h0 f0_h0_kinds h0_kinds_all_n l5 h0_kinds_all_c q_h0_kinds q_h0_kinds_all o1 h1) (zV 1 hg k11_93 k11_95 ks_MM_word1 k1_14 k11_96 rfl rfl (by decide +kernel) ⟨(Nat.le_of_ble_eq_true rfl), (Nat.le_of_ble_eq_true rfl)⟩) (zPreV hh hK hP hD [0, 1, 2] (by decide) rfl (ci := 13) rfl 0 rfl) rfl rfl hl.1 rfl (lv_room (Nat.le_of_ble_eq_true rfl)) d_MM_until_11 ⟨(Nat.le_of_ble_eq_true rfl), (Nat.le_of_ble_eq_true rfl)⟩) (fun r1 u1 H1 locs1 e1 hP1 hD1 hS1 => ?_)
  clear hP hD hS
  refine W.cs (cells' := 0) (slots' := 0) rfl rfl ?_
  have x1 := e1
  rw [x1]
  replace hP1 : va_P D vwCl [(h0, .inr (13, f0_h0)), (h0_kinds, .inr (14, f0_h0_kinds)), (h0_kinds_all, .inl (tA 0, h0_kinds_all_n, .inl h0_kinds_all_c))] _ := hP1
  replace hD1 : va_D A [(h0, .inr (13, f0_h0)), (h0_kinds, .inr (14, f0_h0_kinds)), (h0_kinds_all, .inl (tA 0, h0_kinds_all_n, .inl h0_kinds_all_c))] := hD1
  refine lv_iload_n hx hb d_MM_until_14 rfl (lv_at hl 2 rfl) ?_
  refine lv_icmp_ne (tgt := 27) hx hb d_MM_until_15 (by decide) (fun c9 => ?_) (fun c9 => ?_)
  · replace hF := ifp c9 hF
    refine lv_aload_n hx hb d_MM_until_27 rfl (lv_at hl 0 rfl) ?_
    refine lv_iload hx hb d_MM_until_28 (lv_at hl 5 rfl) ?_
    obtain ⟨o2, h2, hF⟩ := bsome hF
    refine zCalli (wc := [(h0, .inr (13, f0_h0)), (h0_kinds, .inr (14, f0_h0_kinds)), (h0_kinds_all, .inl (tA 0, h0_kinds_all_n, .inl h0_kinds_all_c))]) (wr := []) hP1 hD1 hS1 hA [0, 1, 2] [] rfl rfl (by decide) (by decide) (va_runV (As := [.int l5]) (rest := []) ⟨hx, hb, hml, hown, hg⟩ (m_MM_word1 l D tA _ h0 h0_kinds h0_kinds_all f0_h0 f0_h0_kinds h0_kinds_all_n l5 h0_kinds_all_c q_h0_kinds q_h0_kinds_all o2 h2) (zV 1 hg k11_93 k11_95 ks_MM_word1 k1_14 k11_96 rfl rfl (by decide +kernel) ⟨(Nat.le_of_ble_eq_true rfl), (Nat.le_of_ble_eq_true rfl)⟩) (zPreV hh hK hP1 hD1 [0, 1, 2] (by decide) rfl (ci := 13) rfl 0 rfl) rfl rfl hl.1 rfl (lv_room (Nat.le_of_ble_eq_true rfl)) d_MM_until_30 ⟨(Nat.le_of_ble_eq_true rfl), (Nat.le_of_ble_eq_true rfl)⟩) (fun r2 u2 H2 locs2 e2 hP2 hD2 hS2 => ?_)
    clear hP1 hD1 hS1
    refine W.cs (cells' := 0) (slots' := 0) rfl rfl ?_
    have x2 := e2
    rw [x2]
    replace hP2 : va_P D vwCl [(h0, .inr (13, f0_h0)), (h0_kinds, .inr (14, f0_h0_kinds)), (h0_kinds_all, .inl (tA 0, h0_kinds_all_n, .inl h0_kinds_all_c))] _ := hP2
    replace hD2 : va_D A [(h0, .inr (13, f0_h0)), (h0_kinds, .inr (14, f0_h0_kinds)), (h0_kinds_all, .inl (tA 0, h0_kinds_all_n, .inl h0_kinds_all_c))] := hD2
    refine lv_istore (lv' := [(6, .int o2), (0, .ref h0), (1, .int l1), (2, .int l2), (3, .int l3), (4, .int l4), (5, .int l5)]) hx hb d_MM_until_33 hl (by decide) rfl (fun ls hl => ?_)
    refine lv_iload hx hb d_MM_until_35 (lv_at hl 0 rfl) ?_
    refine lv_bipush (v := 36) hx hb d_MM_until_37 (by decide) ?_
    refine lv_icmp_ne (tgt := 48) hx hb d_MM_until_39 (by decide) (fun c9 => ?_) (fun c9 => ?_)
    · replace hF := ifp c9 hF
      refine lv_iload hx hb d_MM_until_48 (lv_at hl 0 rfl) ?_
      refine lv_bipush (v := 37) hx hb d_MM_until_50 (by decide) ?_
      refine lv_icmp_ne (tgt := 61) hx hb d_MM_until_52 (by decide) (fun c9 => ?_) (fun c9 => ?_)
      · replace hF := ifp c9 hF
        refine lv_iload_n hx hb d_MM_until_61 rfl (lv_at hl 4 rfl) ?_
        exact ih2 l3 l4 l5 o2 l3   _ _ _ hF q_h0_kinds q_h0_kinds_all hP2 hD2 hS2 (lv_sub hl [1, 2, 3, 4, 5, 6, 0] rfl)
      · replace hF := ifn (fun h9 => h9 c9) hF
        refine lv_iload_n hx hb d_MM_until_55 rfl (lv_at hl 4 rfl) ?_
        refine lv_iconst (v := 1) hx hb d_MM_until_56 (by decide) ?_
        refine lv_isub hx hb d_MM_until_57 ?_
        refine lv_goto (tgt := 62) hx hb d_MM_until_58 (by decide) ?_
        exact ih2 l3 l4 l5 o2 (l3 - 1)   _ _ _ hF q_h0_kinds q_h0_kinds_all hP2 hD2 hS2 (lv_sub hl [1, 2, 3, 4, 5, 6, 0] rfl)
    · replace hF := ifn (fun h9 => h9 c9) hF
      refine lv_iload_n hx hb d_MM_until_42 rfl (lv_at hl 4 rfl) ?_
      refine lv_iconst (v := 1) hx hb d_MM_until_43 (by decide) ?_
      refine lv_iadd hx hb d_MM_until_44 ?_
      refine lv_goto (tgt := 62) hx hb d_MM_until_45 (by decide) ?_
      exact ih2 l3 l4 l5 o2 (l3 + 1)   _ _ _ hF q_h0_kinds q_h0_kinds_all hP2 hD2 hS2 (lv_sub hl [1, 2, 3, 4, 5, 6, 0] rfl)
  · replace hF := ifn (fun h9 => h9 c9) hF
    refine lv_iload_n hx hb d_MM_until_18 rfl (lv_at hl 3 rfl) ?_
    refine lv_if_gt (tgt := 27) hx hb d_MM_until_19 (by decide) (fun c9 => ?_) (fun c9 => ?_)
    · replace hF := ifp c9 hF
      refine lv_aload_n hx hb d_MM_until_27 rfl (lv_at hl 0 rfl) ?_
      refine lv_iload hx hb d_MM_until_28 (lv_at hl 5 rfl) ?_
      obtain ⟨o3, h3, hF⟩ := bsome hF
      refine zCalli (wc := [(h0, .inr (13, f0_h0)), (h0_kinds, .inr (14, f0_h0_kinds)), (h0_kinds_all, .inl (tA 0, h0_kinds_all_n, .inl h0_kinds_all_c))]) (wr := []) hP1 hD1 hS1 hA [0, 1, 2] [] rfl rfl (by decide) (by decide) (va_runV (As := [.int l5]) (rest := []) ⟨hx, hb, hml, hown, hg⟩ (m_MM_word1 l D tA _ h0 h0_kinds h0_kinds_all f0_h0 f0_h0_kinds h0_kinds_all_n l5 h0_kinds_all_c q_h0_kinds q_h0_kinds_all o3 h3) (zV 1 hg k11_93 k11_95 ks_MM_word1 k1_14 k11_96 rfl rfl (by decide +kernel) ⟨(Nat.le_of_ble_eq_true rfl), (Nat.le_of_ble_eq_true rfl)⟩) (zPreV hh hK hP1 hD1 [0, 1, 2] (by decide) rfl (ci := 13) rfl 0 rfl) rfl rfl hl.1 rfl (lv_room (Nat.le_of_ble_eq_true rfl)) d_MM_until_30 ⟨(Nat.le_of_ble_eq_true rfl), (Nat.le_of_ble_eq_true rfl)⟩) (fun r3 u3 H2 locs2 e3 hP2 hD2 hS2 => ?_)
      clear hP1 hD1 hS1
      refine W.cs (cells' := 0) (slots' := 0) rfl rfl ?_
      have x3 := e3
      rw [x3]
      replace hP2 : va_P D vwCl [(h0, .inr (13, f0_h0)), (h0_kinds, .inr (14, f0_h0_kinds)), (h0_kinds_all, .inl (tA 0, h0_kinds_all_n, .inl h0_kinds_all_c))] _ := hP2
      replace hD2 : va_D A [(h0, .inr (13, f0_h0)), (h0_kinds, .inr (14, f0_h0_kinds)), (h0_kinds_all, .inl (tA 0, h0_kinds_all_n, .inl h0_kinds_all_c))] := hD2
      refine lv_istore (lv' := [(6, .int o3), (0, .ref h0), (1, .int l1), (2, .int l2), (3, .int l3), (4, .int l4), (5, .int l5)]) hx hb d_MM_until_33 hl (by decide) rfl (fun ls hl => ?_)
      refine lv_iload hx hb d_MM_until_35 (lv_at hl 0 rfl) ?_
      refine lv_bipush (v := 36) hx hb d_MM_until_37 (by decide) ?_
      refine lv_icmp_ne (tgt := 48) hx hb d_MM_until_39 (by decide) (fun c9 => ?_) (fun c9 => ?_)
      · replace hF := ifp c9 hF
        refine lv_iload hx hb d_MM_until_48 (lv_at hl 0 rfl) ?_
        refine lv_bipush (v := 37) hx hb d_MM_until_50 (by decide) ?_
        refine lv_icmp_ne (tgt := 61) hx hb d_MM_until_52 (by decide) (fun c9 => ?_) (fun c9 => ?_)
        · replace hF := ifp c9 hF
          refine lv_iload_n hx hb d_MM_until_61 rfl (lv_at hl 4 rfl) ?_
          exact ih2 l3 l4 l5 o3 l3   _ _ _ hF q_h0_kinds q_h0_kinds_all hP2 hD2 hS2 (lv_sub hl [1, 2, 3, 4, 5, 6, 0] rfl)
        · replace hF := ifn (fun h9 => h9 c9) hF
          refine lv_iload_n hx hb d_MM_until_55 rfl (lv_at hl 4 rfl) ?_
          refine lv_iconst (v := 1) hx hb d_MM_until_56 (by decide) ?_
          refine lv_isub hx hb d_MM_until_57 ?_
          refine lv_goto (tgt := 62) hx hb d_MM_until_58 (by decide) ?_
          exact ih2 l3 l4 l5 o3 (l3 - 1)   _ _ _ hF q_h0_kinds q_h0_kinds_all hP2 hD2 hS2 (lv_sub hl [1, 2, 3, 4, 5, 6, 0] rfl)
      · replace hF := ifn (fun h9 => h9 c9) hF
        refine lv_iload_n hx hb d_MM_until_42 rfl (lv_at hl 4 rfl) ?_
        refine lv_iconst (v := 1) hx hb d_MM_until_43 (by decide) ?_
        refine lv_iadd hx hb d_MM_until_44 ?_
        refine lv_goto (tgt := 62) hx hb d_MM_until_45 (by decide) ?_
        exact ih2 l3 l4 l5 o3 (l3 + 1)   _ _ _ hF q_h0_kinds q_h0_kinds_all hP2 hD2 hS2 (lv_sub hl [1, 2, 3, 4, 5, 6, 0] rfl)
    · replace hF := ifn c9 hF
      refine lv_iload hx hb d_MM_until_22 (lv_at hl 4 rfl) ?_
      refine lv_if_le (tgt := 110) hx hb d_MM_until_24 (by decide) (fun c9 => ?_) (fun c9 => ?_)
      · replace hF := ifp c9 hF
        refine lv_iload hx hb d_MM_until_110 (lv_at hl 5 rfl) ?_
        replace hF := Option.some.inj hF
        subst hF
        exact zZret (post := (fun (r9 : Int32) (u9 : Unit) => r9 = l5)) (W1 := (fun (u9 : Unit) => [(h0, .inr (13, f0_h0)), (h0_kinds, .inr (14, f0_h0_kinds)), (h0_kinds_all, .inl (tA 0, h0_kinds_all_n, .inl h0_kinds_all_c))])) (v := l5) hx hb hr rfl hlocks hP1 hD1 hS1 () rfl rfl d_MM_until_112
      · replace hF := ifn c9 hF
        refine lv_aload_n hx hb d_MM_until_27 rfl (lv_at hl 0 rfl) ?_
        refine lv_iload hx hb d_MM_until_28 (lv_at hl 5 rfl) ?_
        obtain ⟨o4, h4, hF⟩ := bsome hF
        refine zCalli (wc := [(h0, .inr (13, f0_h0)), (h0_kinds, .inr (14, f0_h0_kinds)), (h0_kinds_all, .inl (tA 0, h0_kinds_all_n, .inl h0_kinds_all_c))]) (wr := []) hP1 hD1 hS1 hA [0, 1, 2] [] rfl rfl (by decide) (by decide) (va_runV (As := [.int l5]) (rest := []) ⟨hx, hb, hml, hown, hg⟩ (m_MM_word1 l D tA _ h0 h0_kinds h0_kinds_all f0_h0 f0_h0_kinds h0_kinds_all_n l5 h0_kinds_all_c q_h0_kinds q_h0_kinds_all o4 h4) (zV 1 hg k11_93 k11_95 ks_MM_word1 k1_14 k11_96 rfl rfl (by decide +kernel) ⟨(Nat.le_of_ble_eq_true rfl), (Nat.le_of_ble_eq_true rfl)⟩) (zPreV hh hK hP1 hD1 [0, 1, 2] (by decide) rfl (ci := 13) rfl 0 rfl) rfl rfl hl.1 rfl (lv_room (Nat.le_of_ble_eq_true rfl)) d_MM_until_30 ⟨(Nat.le_of_ble_eq_true rfl), (Nat.le_of_ble_eq_true rfl)⟩) (fun r4 u4 H2 locs2 e4 hP2 hD2 hS2 => ?_)
        clear hP1 hD1 hS1
        refine W.cs (cells' := 0) (slots' := 0) rfl rfl ?_
        have x4 := e4
        rw [x4]
        replace hP2 : va_P D vwCl [(h0, .inr (13, f0_h0)), (h0_kinds, .inr (14, f0_h0_kinds)), (h0_kinds_all, .inl (tA 0, h0_kinds_all_n, .inl h0_kinds_all_c))] _ := hP2
        replace hD2 : va_D A [(h0, .inr (13, f0_h0)), (h0_kinds, .inr (14, f0_h0_kinds)), (h0_kinds_all, .inl (tA 0, h0_kinds_all_n, .inl h0_kinds_all_c))] := hD2
        refine lv_istore (lv' := [(6, .int o4), (0, .ref h0), (1, .int l1), (2, .int l2), (3, .int l3), (4, .int l4), (5, .int l5)]) hx hb d_MM_until_33 hl (by decide) rfl (fun ls hl => ?_)
        refine lv_iload hx hb d_MM_until_35 (lv_at hl 0 rfl) ?_
        refine lv_bipush (v := 36) hx hb d_MM_until_37 (by decide) ?_
        refine lv_icmp_ne (tgt := 48) hx hb d_MM_until_39 (by decide) (fun c9 => ?_) (fun c9 => ?_)
        · replace hF := ifp c9 hF
          refine lv_iload hx hb d_MM_until_48 (lv_at hl 0 rfl) ?_
          refine lv_bipush (v := 37) hx hb d_MM_until_50 (by decide) ?_
          refine lv_icmp_ne (tgt := 61) hx hb d_MM_until_52 (by decide) (fun c9 => ?_) (fun c9 => ?_)
          · replace hF := ifp c9 hF
            refine lv_iload_n hx hb d_MM_until_61 rfl (lv_at hl 4 rfl) ?_
            exact ih2 l3 l4 l5 o4 l3   _ _ _ hF q_h0_kinds q_h0_kinds_all hP2 hD2 hS2 (lv_sub hl [1, 2, 3, 4, 5, 6, 0] rfl)
          · replace hF := ifn (fun h9 => h9 c9) hF
            refine lv_iload_n hx hb d_MM_until_55 rfl (lv_at hl 4 rfl) ?_
            refine lv_iconst (v := 1) hx hb d_MM_until_56 (by decide) ?_
            refine lv_isub hx hb d_MM_until_57 ?_
            refine lv_goto (tgt := 62) hx hb d_MM_until_58 (by decide) ?_
            exact ih2 l3 l4 l5 o4 (l3 - 1)   _ _ _ hF q_h0_kinds q_h0_kinds_all hP2 hD2 hS2 (lv_sub hl [1, 2, 3, 4, 5, 6, 0] rfl)
        · replace hF := ifn (fun h9 => h9 c9) hF
          refine lv_iload_n hx hb d_MM_until_42 rfl (lv_at hl 4 rfl) ?_
          refine lv_iconst (v := 1) hx hb d_MM_until_43 (by decide) ?_
          refine lv_iadd hx hb d_MM_until_44 ?_
          refine lv_goto (tgt := 62) hx hb d_MM_until_45 (by decide) ?_
          exact ih2 l3 l4 l5 o4 (l3 + 1)   _ _ _ hF q_h0_kinds q_h0_kinds_all hP2 hD2 hS2 (lv_sub hl [1, 2, 3, 4, 5, 6, 0] rfl)
set_option maxHeartbeats 4000000 in
set_option maxRecDepth 100000 in
theorem b_MM_until_2 {p : Program} {l : Launch} {e : Env} {s : State} {m : MethodId} {args : Array Value} {below : List Frame} {meth : Method} {c : Code} {D : va_G} {tA : Nat → ClassId} {A : Nat → Prop} {h0 h0_kinds h0_kinds_all : Nat} {f0_h0 f0_h0_kinds : List Value} {h0_kinds_all_n : Nat} {l1 : Int32} {l2 : Int32} {h0_kinds_all_c : Nat → Int32} {out : Int32} (hx : p.tables.exec = Jvm.exec) (hb : c.code = prog_15_method_63_code) (hr : meth.sig.returnType = (Option.some Jvm.ClassFile.FieldType.int)) (hml : c.maxLocals = 7) (hh : zH s) (hg : ∀ w ∈ lw_R, w.before args s = true) (hown : s.vm.findClass "ChanceArenaModel" = some m.cls) (hlocks : meth.locks = false) (hK : va_K D vwCl (zT tA) s) (hA : ∀ q, s.heap.size ≤ q → A q) {n : Nat} (ih1 : ∀ (l3 : Int32) (l4 : Int32) (l5 : Int32) (l6 : Int32) (k0 : Int32) (H : Heap) (locs : List Loc) (ls : Array Slot), f_MM_until h0_kinds_all_n l1 l2 h0_kinds_all_c n 1 l3 l4 l5 l6 k0 = some out → f0_h0[3]? = some (.ref h0_kinds) → f0_h0_kinds[0]? = some (.ref h0_kinds_all) → va_P D vwCl [(h0, .inr (13, f0_h0)), (h0_kinds, .inr (14, f0_h0_kinds)), (h0_kinds_all, .inl (tA 0, h0_kinds_all_n, .inl h0_kinds_all_c))] H → va_D A [(h0, .inr (13, f0_h0)), (h0_kinds, .inr (14, f0_h0_kinds)), (h0_kinds_all, .inl (tA 0, h0_kinds_all_n, .inl h0_kinds_all_c))] → va_S A s.heap H locs → lv_has ls 7 [(0, .ref h0), (1, .int l1), (2, .int l2), (3, .int l3), (4, .int l4), (5, .int l5)] → W p l e { frames := 2, cells := 0, slots := 0, locals := 42 } s m args below meth c H locs 0 0 (MQ below (va_Qi (fun (r9 : Int32) (u9 : Unit) => r9 = out) (zPost D A (fun (u9 : Unit) => [(h0, .inr (13, f0_h0)), (h0_kinds, .inr (14, f0_h0_kinds)), (h0_kinds_all, .inl (tA 0, h0_kinds_all_n, .inl h0_kinds_all_c))])) A) args s 0 0 A) (F0 m 8 ls [])) : ∀ (l3 : Int32) (l4 : Int32) (l5 : Int32) (l6 : Int32) (k0 : Int32) (H : Heap) (locs : List Loc) (ls : Array Slot), f_MM_until h0_kinds_all_n l1 l2 h0_kinds_all_c (n + 1) 2 l3 l4 l5 l6 k0 = some out → f0_h0[3]? = some (.ref h0_kinds) → f0_h0_kinds[0]? = some (.ref h0_kinds_all) → va_P D vwCl [(h0, .inr (13, f0_h0)), (h0_kinds, .inr (14, f0_h0_kinds)), (h0_kinds_all, .inl (tA 0, h0_kinds_all_n, .inl h0_kinds_all_c))] H → va_D A [(h0, .inr (13, f0_h0)), (h0_kinds, .inr (14, f0_h0_kinds)), (h0_kinds_all, .inl (tA 0, h0_kinds_all_n, .inl h0_kinds_all_c))] → va_S A s.heap H locs → lv_has ls 7 [(0, .ref h0), (1, .int l1), (2, .int l2), (3, .int l3), (4, .int l4), (5, .int l5), (6, .int l6)] → W p l e { frames := 2, cells := 0, slots := 0, locals := 42 } s m args below meth c H locs 0 0 (MQ below (va_Qi (fun (r9 : Int32) (u9 : Unit) => r9 = out) (zPost D A (fun (u9 : Unit) => [(h0, .inr (13, f0_h0)), (h0_kinds, .inr (14, f0_h0_kinds)), (h0_kinds_all, .inl (tA 0, h0_kinds_all_n, .inl h0_kinds_all_c))])) A) args s 0 0 A) (F0 m 62 ls [.int k0]) := by
  intro l3 l4 l5 l6 k0   H locs ls hF q_h0_kinds q_h0_kinds_all hP hD hS hl
  rw [e_MM_until_2] at hF
  refine lv_istore_n (lv' := [(3, .int k0), (0, .ref h0), (1, .int l1), (2, .int l2), (4, .int l4), (5, .int l5), (6, .int l6)]) hx hb d_MM_until_62 rfl hl (by decide) rfl (fun ls hl => ?_)
  refine lv_iload_n hx hb d_MM_until_63 rfl (lv_at hl 0 rfl) ?_
  refine lv_if_le (tgt := 72) hx hb d_MM_until_64 (by decide) (fun c9 => ?_) (fun c9 => ?_)
  · replace hF := ifp c9 hF
    refine lv_iload hx hb d_MM_until_72 (lv_at hl 6 rfl) ?_
    refine lv_bipush (v := 32) hx hb d_MM_until_74 (by decide) ?_
    refine lv_icmp_ne (tgt := 86) hx hb d_MM_until_76 (by decide) (fun c9 => ?_) (fun c9 => ?_)
    · replace hF := ifp c9 hF
      refine lv_iload hx hb d_MM_until_86 (lv_at hl 6 rfl) ?_
      refine lv_bipush (v := 33) hx hb d_MM_until_88 (by decide) ?_
      refine lv_icmp_ne (tgt := 100) hx hb d_MM_until_90 (by decide) (fun c9 => ?_) (fun c9 => ?_)
      · replace hF := ifp c9 hF
        refine lv_iload hx hb d_MM_until_100 (lv_at hl 4 rfl) ?_
        refine lv_istore (lv' := [(4, .int l4), (3, .int k0), (0, .ref h0), (1, .int l1), (2, .int l2), (5, .int l5), (6, .int l6)]) hx hb d_MM_until_102 hl (by decide) rfl (fun ls hl => ?_)
        refine lv_iinc (v := (l5 + Int32.ofInt 1)) (lv' := [(5, .int (l5 + Int32.ofInt 1)), (4, .int l4), (3, .int k0), (0, .ref h0), (1, .int l1), (2, .int l2), (6, .int l6)]) hx hb d_MM_until_104 hl (k := 5) rfl rfl (by decide) rfl (fun ls hl => ?_)
        refine lv_goto (tgt := 8) hx hb d_MM_until_107 (by decide) ?_
        exact ih1 k0 l4 (l5 + Int32.ofInt 1) 0 0   _ _ _ hF q_h0_kinds q_h0_kinds_all hP hD hS (lv_sub hl [3, 4, 5, 2, 1, 0] rfl)
      · replace hF := ifn (fun h9 => h9 c9) hF
        refine lv_iload hx hb d_MM_until_93 (lv_at hl 4 rfl) ?_
        refine lv_iconst (v := 1) hx hb d_MM_until_95 (by decide) ?_
        refine lv_isub hx hb d_MM_until_96 ?_
        refine lv_goto (tgt := 102) hx hb d_MM_until_97 (by decide) ?_
        refine lv_istore (lv' := [(4, .int (l4 - 1)), (3, .int k0), (0, .ref h0), (1, .int l1), (2, .int l2), (5, .int l5), (6, .int l6)]) hx hb d_MM_until_102 hl (by decide) rfl (fun ls hl => ?_)
        refine lv_iinc (v := (l5 + Int32.ofInt 1)) (lv' := [(5, .int (l5 + Int32.ofInt 1)), (4, .int (l4 - 1)), (3, .int k0), (0, .ref h0), (1, .int l1), (2, .int l2), (6, .int l6)]) hx hb d_MM_until_104 hl (k := 5) rfl rfl (by decide) rfl (fun ls hl => ?_)
        refine lv_goto (tgt := 8) hx hb d_MM_until_107 (by decide) ?_
        exact ih1 k0 (l4 - 1) (l5 + Int32.ofInt 1) 0 0   _ _ _ hF q_h0_kinds q_h0_kinds_all hP hD hS (lv_sub hl [3, 4, 5, 2, 1, 0] rfl)
    · replace hF := ifn (fun h9 => h9 c9) hF
      refine lv_iload hx hb d_MM_until_79 (lv_at hl 4 rfl) ?_
      refine lv_iconst (v := 1) hx hb d_MM_until_81 (by decide) ?_
      refine lv_iadd hx hb d_MM_until_82 ?_
      refine lv_goto (tgt := 102) hx hb d_MM_until_83 (by decide) ?_
      refine lv_istore (lv' := [(4, .int (l4 + 1)), (3, .int k0), (0, .ref h0), (1, .int l1), (2, .int l2), (5, .int l5), (6, .int l6)]) hx hb d_MM_until_102 hl (by decide) rfl (fun ls hl => ?_)
      refine lv_iinc (v := (l5 + Int32.ofInt 1)) (lv' := [(5, .int (l5 + Int32.ofInt 1)), (4, .int (l4 + 1)), (3, .int k0), (0, .ref h0), (1, .int l1), (2, .int l2), (6, .int l6)]) hx hb d_MM_until_104 hl (k := 5) rfl rfl (by decide) rfl (fun ls hl => ?_)
      refine lv_goto (tgt := 8) hx hb d_MM_until_107 (by decide) ?_
      exact ih1 k0 (l4 + 1) (l5 + Int32.ofInt 1) 0 0   _ _ _ hF q_h0_kinds q_h0_kinds_all hP hD hS (lv_sub hl [3, 4, 5, 2, 1, 0] rfl)
  · replace hF := ifn c9 hF
    refine lv_iload hx hb d_MM_until_67 (lv_at hl 4 rfl) ?_
    refine lv_goto (tgt := 102) hx hb d_MM_until_69 (by decide) ?_
    refine lv_istore (lv' := [(4, .int l4), (3, .int k0), (0, .ref h0), (1, .int l1), (2, .int l2), (5, .int l5), (6, .int l6)]) hx hb d_MM_until_102 hl (by decide) rfl (fun ls hl => ?_)
    refine lv_iinc (v := (l5 + Int32.ofInt 1)) (lv' := [(5, .int (l5 + Int32.ofInt 1)), (4, .int l4), (3, .int k0), (0, .ref h0), (1, .int l1), (2, .int l2), (6, .int l6)]) hx hb d_MM_until_104 hl (k := 5) rfl rfl (by decide) rfl (fun ls hl => ?_)
    refine lv_goto (tgt := 8) hx hb d_MM_until_107 (by decide) ?_
    exact ih1 k0 l4 (l5 + Int32.ofInt 1) 0 0   _ _ _ hF q_h0_kinds q_h0_kinds_all hP hD hS (lv_sub hl [3, 4, 5, 2, 1, 0] rfl)
set_option maxHeartbeats 4000000 in
set_option maxRecDepth 100000 in
theorem a_MM_until {p : Program} {l : Launch} {e : Env} {s : State} {m : MethodId} {args : Array Value} {below : List Frame} {meth : Method} {c : Code} {D : va_G} {tA : Nat → ClassId} {A : Nat → Prop} {h0 h0_kinds h0_kinds_all : Nat} {f0_h0 f0_h0_kinds : List Value} {h0_kinds_all_n : Nat} {l1 : Int32} {l2 : Int32} {h0_kinds_all_c : Nat → Int32} {out : Int32} (hx : p.tables.exec = Jvm.exec) (hb : c.code = prog_15_method_63_code) (hr : meth.sig.returnType = (Option.some Jvm.ClassFile.FieldType.int)) (hml : c.maxLocals = 7) (hh : zH s) (hg : ∀ w ∈ lw_R, w.before args s = true) (hown : s.vm.findClass "ChanceArenaModel" = some m.cls) (hlocks : meth.locks = false) (hK : va_K D vwCl (zT tA) s) (hA : ∀ q, s.heap.size ≤ q → A q) : ∀ n : Nat, (∀ (l3 : Int32) (l4 : Int32) (l5 : Int32) (l6 : Int32) (k0 : Int32) (H : Heap) (locs : List Loc) (ls : Array Slot), f_MM_until h0_kinds_all_n l1 l2 h0_kinds_all_c n 0 l3 l4 l5 l6 k0 = some out → f0_h0[3]? = some (.ref h0_kinds) → f0_h0_kinds[0]? = some (.ref h0_kinds_all) → va_P D vwCl [(h0, .inr (13, f0_h0)), (h0_kinds, .inr (14, f0_h0_kinds)), (h0_kinds_all, .inl (tA 0, h0_kinds_all_n, .inl h0_kinds_all_c))] H → va_D A [(h0, .inr (13, f0_h0)), (h0_kinds, .inr (14, f0_h0_kinds)), (h0_kinds_all, .inl (tA 0, h0_kinds_all_n, .inl h0_kinds_all_c))] → va_S A s.heap H locs → lv_has ls 7 [(0, .ref h0), (1, .int l1), (2, .int l2)] → W p l e { frames := 2, cells := 0, slots := 0, locals := 42 } s m args below meth c H locs 0 0 (MQ below (va_Qi (fun (r9 : Int32) (u9 : Unit) => r9 = out) (zPost D A (fun (u9 : Unit) => [(h0, .inr (13, f0_h0)), (h0_kinds, .inr (14, f0_h0_kinds)), (h0_kinds_all, .inl (tA 0, h0_kinds_all_n, .inl h0_kinds_all_c))])) A) args s 0 0 A) (F0 m 0 ls [])) ∧ (∀ (l3 : Int32) (l4 : Int32) (l5 : Int32) (l6 : Int32) (k0 : Int32) (H : Heap) (locs : List Loc) (ls : Array Slot), f_MM_until h0_kinds_all_n l1 l2 h0_kinds_all_c n 1 l3 l4 l5 l6 k0 = some out → f0_h0[3]? = some (.ref h0_kinds) → f0_h0_kinds[0]? = some (.ref h0_kinds_all) → va_P D vwCl [(h0, .inr (13, f0_h0)), (h0_kinds, .inr (14, f0_h0_kinds)), (h0_kinds_all, .inl (tA 0, h0_kinds_all_n, .inl h0_kinds_all_c))] H → va_D A [(h0, .inr (13, f0_h0)), (h0_kinds, .inr (14, f0_h0_kinds)), (h0_kinds_all, .inl (tA 0, h0_kinds_all_n, .inl h0_kinds_all_c))] → va_S A s.heap H locs → lv_has ls 7 [(0, .ref h0), (1, .int l1), (2, .int l2), (3, .int l3), (4, .int l4), (5, .int l5)] → W p l e { frames := 2, cells := 0, slots := 0, locals := 42 } s m args below meth c H locs 0 0 (MQ below (va_Qi (fun (r9 : Int32) (u9 : Unit) => r9 = out) (zPost D A (fun (u9 : Unit) => [(h0, .inr (13, f0_h0)), (h0_kinds, .inr (14, f0_h0_kinds)), (h0_kinds_all, .inl (tA 0, h0_kinds_all_n, .inl h0_kinds_all_c))])) A) args s 0 0 A) (F0 m 8 ls [])) ∧ (∀ (l3 : Int32) (l4 : Int32) (l5 : Int32) (l6 : Int32) (k0 : Int32) (H : Heap) (locs : List Loc) (ls : Array Slot), f_MM_until h0_kinds_all_n l1 l2 h0_kinds_all_c n 2 l3 l4 l5 l6 k0 = some out → f0_h0[3]? = some (.ref h0_kinds) → f0_h0_kinds[0]? = some (.ref h0_kinds_all) → va_P D vwCl [(h0, .inr (13, f0_h0)), (h0_kinds, .inr (14, f0_h0_kinds)), (h0_kinds_all, .inl (tA 0, h0_kinds_all_n, .inl h0_kinds_all_c))] H → va_D A [(h0, .inr (13, f0_h0)), (h0_kinds, .inr (14, f0_h0_kinds)), (h0_kinds_all, .inl (tA 0, h0_kinds_all_n, .inl h0_kinds_all_c))] → va_S A s.heap H locs → lv_has ls 7 [(0, .ref h0), (1, .int l1), (2, .int l2), (3, .int l3), (4, .int l4), (5, .int l5), (6, .int l6)] → W p l e { frames := 2, cells := 0, slots := 0, locals := 42 } s m args below meth c H locs 0 0 (MQ below (va_Qi (fun (r9 : Int32) (u9 : Unit) => r9 = out) (zPost D A (fun (u9 : Unit) => [(h0, .inr (13, f0_h0)), (h0_kinds, .inr (14, f0_h0_kinds)), (h0_kinds_all, .inl (tA 0, h0_kinds_all_n, .inl h0_kinds_all_c))])) A) args s 0 0 A) (F0 m 62 ls [.int k0])) := by
  intro n
  induction n with
  | zero => exact ⟨(fun _ _ _ _ _ _ _ _ hF => by rw [z_MM_until] at hF; cases hF), (fun _ _ _ _ _ _ _ _ hF => by rw [z_MM_until] at hF; cases hF), (fun _ _ _ _ _ _ _ _ hF => by rw [z_MM_until] at hF; cases hF)⟩
  | succ n ih =>
    obtain ⟨i0, i1, i2⟩ := ih
    exact ⟨b_MM_until_0 hx hb hr hml hh hg hown hlocks hK hA i1, b_MM_until_1 hx hb hr hml hh hg hown hlocks hK hA i2, b_MM_until_2 hx hb hr hml hh hg hown hlocks hK hA i1⟩
set_option maxHeartbeats 4000000 in
set_option maxRecDepth 100000 in
theorem m_MM_until (l : Launch) (D : va_G) (tA : Nat → ClassId) (sz : Nat) (h0 h0_kinds h0_kinds_all : Nat) (f0_h0 f0_h0_kinds : List Value) (h0_kinds_all_n : Nat) (l1 : Int32) (l2 : Int32) (h0_kinds_all_c : Nat → Int32) (q_h0_kinds : f0_h0[3]? = some (.ref h0_kinds)) (q_h0_kinds_all : f0_h0_kinds[0]? = some (.ref h0_kinds_all)) (n : Nat) (out : Int32) (hF : f_MM_until h0_kinds_all_n l1 l2 h0_kinds_all_c n 0 0 0 0 0 0 = some out) : zMi l ({ cls := "ChanceArenaModel", name := "until", desc := "(II)I" } : Jvm.MethodName) (zW (Jvm.Cond.code ({ cls := "ChanceArenaModel", name := "until", desc := "(II)I" } : Jvm.MethodName) prog_15_method_63_code (7 : Nat) (Option.some Jvm.ClassFile.FieldType.int))) { frames := 2, cells := 0, slots := 0, locals := 42 } [.ref h0, .int l1, .int l2] D tA [(h0, .inr (13, f0_h0)), (h0_kinds, .inr (14, f0_h0_kinds)), (h0_kinds_all, .inl (tA 0, h0_kinds_all_n, .inl h0_kinds_all_c))] sz (fun (r9 : Int32) (u9 : Unit) => r9 = out) (fun (u9 : Unit) => [(h0, .inr (13, f0_h0)), (h0_kinds, .inr (14, f0_h0_kinds)), (h0_kinds_all, .inl (tA 0, h0_kinds_all_n, .inl h0_kinds_all_c))]) 0 0 := by
  refine zOpen (l := l) (y := ({ cls := "ChanceArenaModel", name := "until", desc := "(II)I" } : Jvm.MethodName)) (ws := zW (Jvm.Cond.code ({ cls := "ChanceArenaModel", name := "until", desc := "(II)I" } : Jvm.MethodName) prog_15_method_63_code (7 : Nat) (Option.some Jvm.ClassFile.FieldType.int))) (rm := { frames := 2, cells := 0, slots := 0, locals := 42 }) (av := [.ref h0, .int l1, .int l2]) (D := D) (tA := tA) (W0 := [(h0, .inr (13, f0_h0)), (h0_kinds, .inr (14, f0_h0_kinds)), (h0_kinds_all, .inl (tA 0, h0_kinds_all_n, .inl h0_kinds_all_c))]) (Wm := [(h0, .inr (13, f0_h0)), (h0_kinds, .inr (14, f0_h0_kinds)), (h0_kinds_all, .inl (tA 0, h0_kinds_all_n, .inl h0_kinds_all_c))]) (sz := sz) (mc := 0) (ms := 0) (fun A => va_Qi (fun (r9 : Int32) (u9 : Unit) => r9 = out) (zPost D A (fun (u9 : Unit) => [(h0, .inr (13, f0_h0)), (h0_kinds, .inr (14, f0_h0_kinds)), (h0_kinds_all, .inl (tA 0, h0_kinds_all_n, .inl h0_kinds_all_c))])) A) (lv := [(0, .ref h0), (1, .int l1), (2, .int l2)]) (by decide) rfl (Nat.le_of_ble_eq_true rfl) rfl ?_
  intro p e s m below meth c A ls hx hb hr hml hh hg hown hlocks hnm hK hA hP hD0 hAw hS hl
  have hD := zD hD0 hAw
  exact (a_MM_until hx hb hr hml hh hg hown hlocks hK hA n).1 0 0 0 0 0   _ _ _ hF q_h0_kinds q_h0_kinds_all hP hD hS hl
