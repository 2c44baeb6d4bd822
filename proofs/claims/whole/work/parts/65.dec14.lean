theorem k5_95 : (Jvm.Cond.code ({ cls := "ChanceArena$Machine", name := "relate", desc := "(II)Z" } : Jvm.MethodName) prog_5_method_13_code (4 : Nat) (Option.some Jvm.ClassFile.FieldType.boolean)) ∈ lw_R := zR (zk_5 _ (List.mem_of_getElem? (i := 95) (by decide +kernel))) rfl
theorem k5_190 : (Jvm.Cond.constantLong "ChanceArena$Natural" (29 : Nat) (1073741823 : Int64)) ∈ lw_R := zR (zk_5 _ (List.mem_of_getElem? (i := 190) (by decide +kernel))) rfl
theorem k5_194 : (Jvm.Cond.code ({ cls := "ChanceArena$Natural", name := "put", desc := "(I)V" } : Jvm.MethodName) prog_6_method_4_code (2 : Nat) (Option.none : Option Jvm.ClassFile.FieldType)) ∈ lw_R := zR (zk_5 _ (List.mem_of_getElem? (i := 194) (by decide +kernel))) rfl
theorem k5_212 : (Jvm.Cond.code ({ cls := "ChanceArena$Natural", name := "putLong", desc := "(J)V" } : Jvm.MethodName) prog_6_method_5_code (3 : Nat) (Option.none : Option Jvm.ClassFile.FieldType)) ∈ lw_R := zR (zk_5 _ (List.mem_of_getElem? (i := 212) (by decide +kernel))) rfl
theorem k5_213 : (Jvm.Cond.methodLink "ChanceArena$Natural" (31 : Nat) ({ cls := "ChanceArena$Natural", name := "trim", desc := "(I)V" } : Jvm.MethodName)) ∈ lw_R := zR (zk_5 _ (List.mem_of_getElem? (i := 213) (by decide +kernel))) rfl
theorem k5_215 : (Jvm.Cond.instanceMethod ({ cls := "ChanceArena$Natural", name := "trim", desc := "(I)V" } : Jvm.MethodName)) ∈ lw_R := zR (zk_5 _ (List.mem_of_getElem? (i := 215) (by decide +kernel))) rfl
theorem k5_216 : (Jvm.Cond.code ({ cls := "ChanceArena$Natural", name := "trim", desc := "(I)V" } : Jvm.MethodName) prog_6_method_3_code (2 : Nat) (Option.none : Option Jvm.ClassFile.FieldType)) ∈ lw_R := zR (zk_5 _ (List.mem_of_getElem? (i := 216) (by decide +kernel))) rfl
theorem k7_83 : (Jvm.Cond.code ({ cls := "ChanceArena$Natural", name := "isOne", desc := "()Z" } : Jvm.MethodName) prog_6_method_7_code (1 : Nat) (Option.some Jvm.ClassFile.FieldType.boolean)) ∈ lw_R := zR (zk_7 _ (List.mem_of_getElem? (i := 83) (by decide +kernel))) rfl
theorem d_Ma_relate_0 : decode prog_5_method_13_code 0 = .ok (.iload_n 1, 1) := by decide +kernel
theorem d_Ma_relate_1 : decode prog_5_method_13_code 1 = .ok (.bipush 15, 2) := by decide +kernel
theorem d_Ma_relate_3 : decode prog_5_method_13_code 3 = .ok (.if_icmp .eq 9, 3) := by decide +kernel
theorem d_Ma_relate_6 : decode prog_5_method_13_code 6 = .ok (.iload_n 1, 1) := by decide +kernel
theorem d_Ma_relate_7 : decode prog_5_method_13_code 7 = .ok (.bipush 16, 2) := by decide +kernel
theorem d_Ma_relate_9 : decode prog_5_method_13_code 9 = .ok (.if_icmp .ne 68, 3) := by decide +kernel
theorem d_Ma_relate_77 : decode prog_5_method_13_code 77 = .ok (.iload_n 1, 1) := by decide +kernel
theorem d_Ma_relate_78 : decode prog_5_method_13_code 78 = .ok (.tableswitch 103 19 24 #[51, 77, 103, 64, 90, 38], 38) := by decide +kernel
theorem d_Ma_relate_129 : decode prog_5_method_13_code 129 = .ok (.iload_n 2, 1) := by decide +kernel
theorem d_Ma_relate_130 : decode prog_5_method_13_code 130 = .ok (.ifCond .eq 7, 3) := by decide +kernel
theorem d_Ma_relate_137 : decode prog_5_method_13_code 137 = .ok (.iconst 0, 1) := by decide +kernel
theorem d_Ma_relate_138 : decode prog_5_method_13_code 138 = .ok (.istore_n 3, 1) := by decide +kernel
theorem d_Ma_relate_139 : decode prog_5_method_13_code 139 = .ok (.goto 52, 3) := by decide +kernel
theorem d_Ma_relate_133 : decode prog_5_method_13_code 133 = .ok (.iconst 1, 1) := by decide +kernel
theorem d_Ma_relate_134 : decode prog_5_method_13_code 134 = .ok (.goto 4, 3) := by decide +kernel
theorem d_Ma_relate_155 : decode prog_5_method_13_code 155 = .ok (.iload_n 2, 1) := by decide +kernel
theorem d_Ma_relate_156 : decode prog_5_method_13_code 156 = .ok (.ifCond .gt 7, 3) := by decide +kernel
theorem d_Ma_relate_163 : decode prog_5_method_13_code 163 = .ok (.iconst 0, 1) := by decide +kernel
theorem d_Ma_relate_164 : decode prog_5_method_13_code 164 = .ok (.istore_n 3, 1) := by decide +kernel
theorem d_Ma_relate_165 : decode prog_5_method_13_code 165 = .ok (.goto 26, 3) := by decide +kernel
theorem d_Ma_relate_159 : decode prog_5_method_13_code 159 = .ok (.iconst 1, 1) := by decide +kernel
theorem d_Ma_relate_160 : decode prog_5_method_13_code 160 = .ok (.goto 4, 3) := by decide +kernel
theorem d_Ma_relate_181 : decode prog_5_method_13_code 181 = .ok (.iload_n 2, 1) := by decide +kernel
theorem d_Ma_relate_182 : decode prog_5_method_13_code 182 = .ok (.ifCond .lt 7, 3) := by decide +kernel
theorem d_Ma_relate_189 : decode prog_5_method_13_code 189 = .ok (.iconst 0, 1) := by decide +kernel
theorem d_Ma_relate_190 : decode prog_5_method_13_code 190 = .ok (.istore_n 3, 1) := by decide +kernel
theorem d_Ma_relate_185 : decode prog_5_method_13_code 185 = .ok (.iconst 1, 1) := by decide +kernel
theorem d_Ma_relate_186 : decode prog_5_method_13_code 186 = .ok (.goto 4, 3) := by decide +kernel
theorem d_Ma_relate_142 : decode prog_5_method_13_code 142 = .ok (.iload_n 2, 1) := by decide +kernel
theorem d_Ma_relate_143 : decode prog_5_method_13_code 143 = .ok (.ifCond .ge 7, 3) := by decide +kernel
theorem d_Ma_relate_150 : decode prog_5_method_13_code 150 = .ok (.iconst 0, 1) := by decide +kernel
theorem d_Ma_relate_151 : decode prog_5_method_13_code 151 = .ok (.istore_n 3, 1) := by decide +kernel
theorem d_Ma_relate_152 : decode prog_5_method_13_code 152 = .ok (.goto 39, 3) := by decide +kernel
theorem d_Ma_relate_146 : decode prog_5_method_13_code 146 = .ok (.iconst 1, 1) := by decide +kernel
theorem d_Ma_relate_147 : decode prog_5_method_13_code 147 = .ok (.goto 4, 3) := by decide +kernel
theorem d_Ma_relate_168 : decode prog_5_method_13_code 168 = .ok (.iload_n 2, 1) := by decide +kernel
theorem d_Ma_relate_169 : decode prog_5_method_13_code 169 = .ok (.ifCond .le 7, 3) := by decide +kernel
theorem d_Ma_relate_176 : decode prog_5_method_13_code 176 = .ok (.iconst 0, 1) := by decide +kernel
theorem d_Ma_relate_177 : decode prog_5_method_13_code 177 = .ok (.istore_n 3, 1) := by decide +kernel
theorem d_Ma_relate_178 : decode prog_5_method_13_code 178 = .ok (.goto 13, 3) := by decide +kernel
theorem d_Ma_relate_172 : decode prog_5_method_13_code 172 = .ok (.iconst 1, 1) := by decide +kernel
theorem d_Ma_relate_173 : decode prog_5_method_13_code 173 = .ok (.goto 4, 3) := by decide +kernel
theorem d_Ma_relate_116 : decode prog_5_method_13_code 116 = .ok (.iload_n 2, 1) := by decide +kernel
theorem d_Ma_relate_117 : decode prog_5_method_13_code 117 = .ok (.ifCond .ne 7, 3) := by decide +kernel
theorem d_Ma_relate_124 : decode prog_5_method_13_code 124 = .ok (.iconst 0, 1) := by decide +kernel
theorem d_Ma_relate_125 : decode prog_5_method_13_code 125 = .ok (.istore_n 3, 1) := by decide +kernel
theorem d_Ma_relate_126 : decode prog_5_method_13_code 126 = .ok (.goto 65, 3) := by decide +kernel
theorem d_Ma_relate_120 : decode prog_5_method_13_code 120 = .ok (.iconst 1, 1) := by decide +kernel
theorem d_Ma_relate_121 : decode prog_5_method_13_code 121 = .ok (.goto 4, 3) := by decide +kernel
theorem d_Ma_relate_12 : decode prog_5_method_13_code 12 = .ok (.iload_n 2, 1) := by decide +kernel
theorem d_Ma_relate_13 : decode prog_5_method_13_code 13 = .ok (.ifCond .le 7, 3) := by decide +kernel
theorem d_Ma_relate_20 : decode prog_5_method_13_code 20 = .ok (.iconst 0, 1) := by decide +kernel
theorem d_Ma_relate_21 : decode prog_5_method_13_code 21 = .ok (.iload_n 1, 1) := by decide +kernel
theorem d_Ma_relate_22 : decode prog_5_method_13_code 22 = .ok (.bipush 15, 2) := by decide +kernel
theorem d_Ma_relate_24 : decode prog_5_method_13_code 24 = .ok (.if_icmp .ne 7, 3) := by decide +kernel
theorem d_Ma_relate_31 : decode prog_5_method_13_code 31 = .ok (.iconst 0, 1) := by decide +kernel
theorem d_Ma_relate_32 : decode prog_5_method_13_code 32 = .ok (.if_icmp .ne 43, 3) := by decide +kernel
theorem d_Ma_relate_35 : decode prog_5_method_13_code 35 = .ok (.aload_n 0, 1) := by decide +kernel
theorem d_Ma_relate_36 : decode prog_5_method_13_code 36 = .ok (.getfield 18, 3) := by decide +kernel
theorem d_Ma_relate_39 : decode prog_5_method_13_code 39 = .ok (.aload_n 0, 1) := by decide +kernel
theorem d_Ma_relate_40 : decode prog_5_method_13_code 40 = .ok (.getfield 52, 3) := by decide +kernel
theorem d_Ma_relate_43 : decode prog_5_method_13_code 43 = .ok (.iconst 1, 1) := by decide +kernel
theorem d_Ma_relate_44 : decode prog_5_method_13_code 44 = .ok (.isub, 1) := by decide +kernel
theorem d_Ma_relate_45 : decode prog_5_method_13_code 45 = .ok (.aload_n 0, 1) := by decide +kernel
theorem d_Ma_relate_46 : decode prog_5_method_13_code 46 = .ok (.getfield 18, 3) := by decide +kernel
theorem d_Ma_relate_49 : decode prog_5_method_13_code 49 = .ok (.aload_n 0, 1) := by decide +kernel
theorem d_Ma_relate_50 : decode prog_5_method_13_code 50 = .ok (.getfield 52, 3) := by decide +kernel
theorem d_Ma_relate_53 : decode prog_5_method_13_code 53 = .ok (.iaload, 1) := by decide +kernel
theorem d_Ma_relate_54 : decode prog_5_method_13_code 54 = .ok (.iastore, 1) := by decide +kernel
theorem d_Ma_relate_55 : decode prog_5_method_13_code 55 = .ok (.aload_n 0, 1) := by decide +kernel
theorem d_Ma_relate_56 : decode prog_5_method_13_code 56 = .ok (.getfield 21, 3) := by decide +kernel
theorem d_Ma_relate_59 : decode prog_5_method_13_code 59 = .ok (.aload_n 0, 1) := by decide +kernel
theorem d_Ma_relate_60 : decode prog_5_method_13_code 60 = .ok (.getfield 52, 3) := by decide +kernel
theorem d_Ma_relate_63 : decode prog_5_method_13_code 63 = .ok (.iconst 1, 1) := by decide +kernel
theorem d_Ma_relate_64 : decode prog_5_method_13_code 64 = .ok (.isub, 1) := by decide +kernel
theorem d_Ma_relate_65 : decode prog_5_method_13_code 65 = .ok (.aload_n 0, 1) := by decide +kernel
theorem d_Ma_relate_66 : decode prog_5_method_13_code 66 = .ok (.getfield 21, 3) := by decide +kernel
theorem d_Ma_relate_69 : decode prog_5_method_13_code 69 = .ok (.aload_n 0, 1) := by decide +kernel
theorem d_Ma_relate_70 : decode prog_5_method_13_code 70 = .ok (.getfield 52, 3) := by decide +kernel
theorem d_Ma_relate_73 : decode prog_5_method_13_code 73 = .ok (.iaload, 1) := by decide +kernel
theorem d_Ma_relate_74 : decode prog_5_method_13_code 74 = .ok (.iastore, 1) := by decide +kernel
theorem d_Ma_relate_75 : decode prog_5_method_13_code 75 = .ok (.iconst 1, 1) := by decide +kernel
theorem d_Ma_relate_76 : decode prog_5_method_13_code 76 = .ok (.ireturn, 1) := by decide +kernel
theorem d_Ma_relate_27 : decode prog_5_method_13_code 27 = .ok (.iconst 1, 1) := by decide +kernel
theorem d_Ma_relate_28 : decode prog_5_method_13_code 28 = .ok (.goto 4, 3) := by decide +kernel
theorem d_Ma_relate_16 : decode prog_5_method_13_code 16 = .ok (.iconst 1, 1) := by decide +kernel
theorem d_Ma_relate_17 : decode prog_5_method_13_code 17 = .ok (.goto 4, 3) := by decide +kernel
theorem d_Ma_relate_191 : decode prog_5_method_13_code 191 = .ok (.aload_n 0, 1) := by decide +kernel
theorem d_Ma_relate_192 : decode prog_5_method_13_code 192 = .ok (.getfield 18, 3) := by decide +kernel
theorem d_Ma_relate_195 : decode prog_5_method_13_code 195 = .ok (.aload_n 0, 1) := by decide +kernel
theorem d_Ma_relate_196 : decode prog_5_method_13_code 196 = .ok (.getfield 52, 3) := by decide +kernel
theorem d_Ma_relate_199 : decode prog_5_method_13_code 199 = .ok (.iconst 1, 1) := by decide +kernel
theorem d_Ma_relate_200 : decode prog_5_method_13_code 200 = .ok (.isub, 1) := by decide +kernel
theorem d_Ma_relate_201 : decode prog_5_method_13_code 201 = .ok (.iload_n 3, 1) := by decide +kernel
theorem d_Ma_relate_202 : decode prog_5_method_13_code 202 = .ok (.ifCond .eq 7, 3) := by decide +kernel
theorem d_Ma_relate_209 : decode prog_5_method_13_code 209 = .ok (.iconst 0, 1) := by decide +kernel
theorem d_Ma_relate_210 : decode prog_5_method_13_code 210 = .ok (.iastore, 1) := by decide +kernel
theorem d_Ma_relate_211 : decode prog_5_method_13_code 211 = .ok (.aload_n 0, 1) := by decide +kernel
theorem d_Ma_relate_212 : decode prog_5_method_13_code 212 = .ok (.getfield 21, 3) := by decide +kernel
theorem d_Ma_relate_215 : decode prog_5_method_13_code 215 = .ok (.aload_n 0, 1) := by decide +kernel
theorem d_Ma_relate_216 : decode prog_5_method_13_code 216 = .ok (.getfield 52, 3) := by decide +kernel
theorem d_Ma_relate_219 : decode prog_5_method_13_code 219 = .ok (.iconst 1, 1) := by decide +kernel
theorem d_Ma_relate_220 : decode prog_5_method_13_code 220 = .ok (.isub, 1) := by decide +kernel
theorem d_Ma_relate_221 : decode prog_5_method_13_code 221 = .ok (.iconst 1, 1) := by decide +kernel
theorem d_Ma_relate_222 : decode prog_5_method_13_code 222 = .ok (.iastore, 1) := by decide +kernel
theorem d_Ma_relate_223 : decode prog_5_method_13_code 223 = .ok (.iconst 1, 1) := by decide +kernel
theorem d_Ma_relate_224 : decode prog_5_method_13_code 224 = .ok (.ireturn, 1) := by decide +kernel
theorem d_Ma_relate_205 : decode prog_5_method_13_code 205 = .ok (.iconst 1, 1) := by decide +kernel
theorem d_Ma_relate_206 : decode prog_5_method_13_code 206 = .ok (.goto 4, 3) := by decide +kernel
theorem d_Na_trim_0 : decode prog_6_method_3_code 0 = .ok (.aload_n 0, 1) := by decide +kernel
theorem d_Na_trim_1 : decode prog_6_method_3_code 1 = .ok (.iload_n 1, 1) := by decide +kernel
theorem d_Na_trim_2 : decode prog_6_method_3_code 2 = .ok (.putfield 13, 3) := by decide +kernel
theorem d_Na_trim_5 : decode prog_6_method_3_code 5 = .ok (.aload_n 0, 1) := by decide +kernel
theorem d_Na_trim_6 : decode prog_6_method_3_code 6 = .ok (.getfield 13, 3) := by decide +kernel
theorem d_Na_trim_9 : decode prog_6_method_3_code 9 = .ok (.ifCond .le 30, 3) := by decide +kernel
theorem d_Na_trim_39 : decode prog_6_method_3_code 39 = .ok (.return_, 1) := by decide +kernel
theorem d_Na_trim_12 : decode prog_6_method_3_code 12 = .ok (.aload_n 0, 1) := by decide +kernel
theorem d_Na_trim_13 : decode prog_6_method_3_code 13 = .ok (.getfield 9, 3) := by decide +kernel
theorem d_Na_trim_16 : decode prog_6_method_3_code 16 = .ok (.aload_n 0, 1) := by decide +kernel
theorem d_Na_trim_17 : decode prog_6_method_3_code 17 = .ok (.getfield 13, 3) := by decide +kernel
theorem d_Na_trim_20 : decode prog_6_method_3_code 20 = .ok (.iconst 1, 1) := by decide +kernel
theorem d_Na_trim_21 : decode prog_6_method_3_code 21 = .ok (.isub, 1) := by decide +kernel
theorem d_Na_trim_22 : decode prog_6_method_3_code 22 = .ok (.iaload, 1) := by decide +kernel
theorem d_Na_trim_23 : decode prog_6_method_3_code 23 = .ok (.ifCond .ne 16, 3) := by decide +kernel
theorem d_Na_trim_26 : decode prog_6_method_3_code 26 = .ok (.aload_n 0, 1) := by decide +kernel
theorem d_Na_trim_27 : decode prog_6_method_3_code 27 = .ok (.dup, 1) := by decide +kernel
theorem d_Na_trim_28 : decode prog_6_method_3_code 28 = .ok (.getfield 13, 3) := by decide +kernel
theorem d_Na_trim_31 : decode prog_6_method_3_code 31 = .ok (.iconst 1, 1) := by decide +kernel
theorem d_Na_trim_32 : decode prog_6_method_3_code 32 = .ok (.isub, 1) := by decide +kernel
theorem d_Na_trim_33 : decode prog_6_method_3_code 33 = .ok (.putfield 13, 3) := by decide +kernel
theorem d_Na_trim_36 : decode prog_6_method_3_code 36 = .ok (.goto (-31), 3) := by decide +kernel
theorem d_Na_put0_0 : decode prog_6_method_4_code 0 = .ok (.aload_n 0, 1) := by decide +kernel
theorem d_Na_put0_1 : decode prog_6_method_4_code 1 = .ok (.getfield 9, 3) := by decide +kernel
theorem d_Na_put0_4 : decode prog_6_method_4_code 4 = .ok (.iconst 0, 1) := by decide +kernel
theorem d_Na_put0_5 : decode prog_6_method_4_code 5 = .ok (.iload_n 1, 1) := by decide +kernel
theorem d_Na_put0_6 : decode prog_6_method_4_code 6 = .ok (.iastore, 1) := by decide +kernel
theorem d_Na_put0_7 : decode prog_6_method_4_code 7 = .ok (.aload_n 0, 1) := by decide +kernel
theorem d_Na_put0_8 : decode prog_6_method_4_code 8 = .ok (.iload_n 1, 1) := by decide +kernel
theorem d_Na_put0_9 : decode prog_6_method_4_code 9 = .ok (.ifCond .ne 7, 3) := by decide +kernel
theorem d_Na_put0_16 : decode prog_6_method_4_code 16 = .ok (.iconst 1, 1) := by decide +kernel
theorem d_Na_put0_17 : decode prog_6_method_4_code 17 = .ok (.putfield 13, 3) := by decide +kernel
theorem d_Na_put0_20 : decode prog_6_method_4_code 20 = .ok (.return_, 1) := by decide +kernel
theorem d_Na_put0_12 : decode prog_6_method_4_code 12 = .ok (.iconst 0, 1) := by decide +kernel
theorem d_Na_put0_13 : decode prog_6_method_4_code 13 = .ok (.goto 4, 3) := by decide +kernel
theorem d_Na_putLong_0 : decode prog_6_method_5_code 0 = .ok (.aload_n 0, 1) := by decide +kernel
theorem d_Na_putLong_1 : decode prog_6_method_5_code 1 = .ok (.getfield 9, 3) := by decide +kernel
theorem d_Na_putLong_4 : decode prog_6_method_5_code 4 = .ok (.iconst 0, 1) := by decide +kernel
theorem d_Na_putLong_5 : decode prog_6_method_5_code 5 = .ok (.lload_n 1, 1) := by decide +kernel
theorem d_Na_putLong_6 : decode prog_6_method_5_code 6 = .ok (.ldc2_w 29, 3) := by decide +kernel
theorem d_Na_putLong_9 : decode prog_6_method_5_code 9 = .ok (.land, 1) := by decide +kernel
theorem d_Na_putLong_10 : decode prog_6_method_5_code 10 = .ok (.l2i, 1) := by decide +kernel
theorem d_Na_putLong_11 : decode prog_6_method_5_code 11 = .ok (.iastore, 1) := by decide +kernel
theorem d_Na_putLong_12 : decode prog_6_method_5_code 12 = .ok (.aload_n 0, 1) := by decide +kernel
theorem d_Na_putLong_13 : decode prog_6_method_5_code 13 = .ok (.getfield 9, 3) := by decide +kernel
theorem d_Na_putLong_16 : decode prog_6_method_5_code 16 = .ok (.iconst 1, 1) := by decide +kernel
theorem d_Na_putLong_17 : decode prog_6_method_5_code 17 = .ok (.lload_n 1, 1) := by decide +kernel
theorem d_Na_putLong_18 : decode prog_6_method_5_code 18 = .ok (.bipush 30, 2) := by decide +kernel
theorem d_Na_putLong_20 : decode prog_6_method_5_code 20 = .ok (.lushr, 1) := by decide +kernel
theorem d_Na_putLong_21 : decode prog_6_method_5_code 21 = .ok (.l2i, 1) := by decide +kernel
theorem d_Na_putLong_22 : decode prog_6_method_5_code 22 = .ok (.iastore, 1) := by decide +kernel
theorem d_Na_putLong_23 : decode prog_6_method_5_code 23 = .ok (.aload_n 0, 1) := by decide +kernel
theorem d_Na_putLong_24 : decode prog_6_method_5_code 24 = .ok (.iconst 2, 1) := by decide +kernel
theorem d_Na_putLong_25 : decode prog_6_method_5_code 25 = .ok (.invokevirtual 31, 3) := by decide +kernel
theorem ks_Na_trim : Cond.selects "ChanceArena$Natural" ({ cls := "ChanceArena$Natural", name := "trim", desc := "(I)V" } : Jvm.MethodName) ({ cls := "ChanceArena$Natural", name := "trim", desc := "(I)V" } : Jvm.MethodName) ∈ lw_R := zR (List.mem_append_left _ (List.mem_of_getElem? (i := 44) (by decide +kernel))) rfl
theorem d_Na_putLong_28 : decode prog_6_method_5_code 28 = .ok (.return_, 1) := by decide +kernel
theorem d_Na_isOne_0 : decode prog_6_method_7_code 0 = .ok (.aload_n 0, 1) := by decide +kernel
theorem d_Na_isOne_1 : decode prog_6_method_7_code 1 = .ok (.getfield 13, 3) := by decide +kernel
theorem d_Na_isOne_4 : decode prog_6_method_7_code 4 = .ok (.iconst 1, 1) := by decide +kernel
theorem d_Na_isOne_5 : decode prog_6_method_7_code 5 = .ok (.if_icmp .ne 17, 3) := by decide +kernel
theorem d_Na_isOne_22 : decode prog_6_method_7_code 22 = .ok (.iconst 0, 1) := by decide +kernel
theorem d_Na_isOne_23 : decode prog_6_method_7_code 23 = .ok (.ireturn, 1) := by decide +kernel
theorem d_Na_isOne_8 : decode prog_6_method_7_code 8 = .ok (.aload_n 0, 1) := by decide +kernel
theorem d_Na_isOne_9 : decode prog_6_method_7_code 9 = .ok (.getfield 9, 3) := by decide +kernel
theorem d_Na_isOne_12 : decode prog_6_method_7_code 12 = .ok (.iconst 0, 1) := by decide +kernel
theorem d_Na_isOne_13 : decode prog_6_method_7_code 13 = .ok (.iaload, 1) := by decide +kernel
theorem d_Na_isOne_14 : decode prog_6_method_7_code 14 = .ok (.iconst 1, 1) := by decide +kernel
theorem d_Na_isOne_15 : decode prog_6_method_7_code 15 = .ok (.if_icmp .ne 7, 3) := by decide +kernel
theorem d_Na_isOne_18 : decode prog_6_method_7_code 18 = .ok (.iconst 1, 1) := by decide +kernel
theorem d_Na_isOne_19 : decode prog_6_method_7_code 19 = .ok (.goto 4, 3) := by decide +kernel
def f_Ma_relate (h0_above_n : Nat) (h0_below_n : Nat) (l1 : Int32) (l2 : Int32) (h0_top : Int32) : Nat → Nat → (Nat → Int32) → (Nat → Int32) → Int32 → Option (Int32 × (Nat → Int32) × (Nat → Int32))
  | 0, _, _, _, _ => none
  | n + 1, 0, h0_above_c, h0_below_c, l3 => if (l1 : Int32) = 15 then f_Ma_relate h0_above_n h0_below_n l1 l2 h0_top n 1 h0_above_c h0_below_c 0 else if ¬ (l1 : Int32) = 16 then (if (l1 : Int32).toInt = 19 then (if (l2 : Int32) = 0 then f_Ma_relate h0_above_n h0_below_n l1 l2 h0_top n 2 h0_above_c h0_below_c 0 else f_Ma_relate h0_above_n h0_below_n l1 l2 h0_top n 2 h0_above_c h0_below_c 1) else if (l1 : Int32).toInt = 20 then (if (0 : Int32) < l2 then f_Ma_relate h0_above_n h0_below_n l1 l2 h0_top n 2 h0_above_c h0_below_c 0 else f_Ma_relate h0_above_n h0_below_n l1 l2 h0_top n 2 h0_above_c h0_below_c 1) else if (l1 : Int32).toInt = 21 then (if (l2 : Int32) < 0 then f_Ma_relate h0_above_n h0_below_n l1 l2 h0_top n 2 h0_above_c h0_below_c 0 else f_Ma_relate h0_above_n h0_below_n l1 l2 h0_top n 2 h0_above_c h0_below_c 1) else if (l1 : Int32).toInt = 22 then (if (0 : Int32) ≤ l2 then f_Ma_relate h0_above_n h0_below_n l1 l2 h0_top n 2 h0_above_c h0_below_c 0 else f_Ma_relate h0_above_n h0_below_n l1 l2 h0_top n 2 h0_above_c h0_below_c 1) else if (l1 : Int32).toInt = 23 then (if (l2 : Int32) ≤ 0 then f_Ma_relate h0_above_n h0_below_n l1 l2 h0_top n 2 h0_above_c h0_below_c 0 else f_Ma_relate h0_above_n h0_below_n l1 l2 h0_top n 2 h0_above_c h0_below_c 1) else if (l1 : Int32).toInt = 24 then (if ¬ (l2 : Int32) = 0 then f_Ma_relate h0_above_n h0_below_n l1 l2 h0_top n 2 h0_above_c h0_below_c 0 else f_Ma_relate h0_above_n h0_below_n l1 l2 h0_top n 2 h0_above_c h0_below_c 1) else if (l2 : Int32) < 0 then f_Ma_relate h0_above_n h0_below_n l1 l2 h0_top n 2 h0_above_c h0_below_c 0 else f_Ma_relate h0_above_n h0_below_n l1 l2 h0_top n 2 h0_above_c h0_below_c 1) else f_Ma_relate h0_above_n h0_below_n l1 l2 h0_top n 1 h0_above_c h0_below_c 0
  | n + 1, 1, h0_above_c, h0_below_c, l3 => if (l2 : Int32) ≤ 0 then (if ¬ (l1 : Int32) = 15 then chk (0 ≤ (h0_top : Int32).toInt ∧ (h0_top : Int32).toInt < h0_above_n) (chk (0 ≤ ((h0_top - 1) : Int32).toInt ∧ ((h0_top - 1) : Int32).toInt < h0_above_n) (chk (0 ≤ (h0_top : Int32).toInt ∧ (h0_top : Int32).toInt < h0_below_n) (chk (0 ≤ ((h0_top - 1) : Int32).toInt ∧ ((h0_top - 1) : Int32).toInt < h0_below_n) (some (1, upd h0_above_c ((h0_top - 1) : Int32).toNatClampNeg (h0_above_c (h0_top : Int32).toNatClampNeg), upd h0_below_c ((h0_top - 1) : Int32).toNatClampNeg (h0_below_c (h0_top : Int32).toNatClampNeg)))))) else some (1, h0_above_c, h0_below_c)) else if ¬ (l1 : Int32) = 15 then some (1, h0_above_c, h0_below_c) else chk (0 ≤ (h0_top : Int32).toInt ∧ (h0_top : Int32).toInt < h0_above_n) (chk (0 ≤ ((h0_top - 1) : Int32).toInt ∧ ((h0_top - 1) : Int32).toInt < h0_above_n) (chk (0 ≤ (h0_top : Int32).toInt ∧ (h0_top : Int32).toInt < h0_below_n) (chk (0 ≤ ((h0_top - 1) : Int32).toInt ∧ ((h0_top - 1) : Int32).toInt < h0_below_n) (some (1, upd h0_above_c ((h0_top - 1) : Int32).toNatClampNeg (h0_above_c (h0_top : Int32).toNatClampNeg), upd h0_below_c ((h0_top - 1) : Int32).toNatClampNeg (h0_below_c (h0_top : Int32).toNatClampNeg))))))
  | n + 1, 2, h0_above_c, h0_below_c, l3 => if (l3 : Int32) = 0 then chk (0 ≤ ((h0_top - 1) : Int32).toInt ∧ ((h0_top - 1) : Int32).toInt < h0_above_n) (chk (0 ≤ ((h0_top - 1) : Int32).toInt ∧ ((h0_top - 1) : Int32).toInt < h0_below_n) (some (1, upd h0_above_c ((h0_top - 1) : Int32).toNatClampNeg 0, upd h0_below_c ((h0_top - 1) : Int32).toNatClampNeg 1))) else chk (0 ≤ ((h0_top - 1) : Int32).toInt ∧ ((h0_top - 1) : Int32).toInt < h0_above_n) (chk (0 ≤ ((h0_top - 1) : Int32).toInt ∧ ((h0_top - 1) : Int32).toInt < h0_below_n) (some (1, upd h0_above_c ((h0_top - 1) : Int32).toNatClampNeg 1, upd h0_below_c ((h0_top - 1) : Int32).toNatClampNeg 1)))
  | _ + 1, _ + 3, _, _, _ => none
theorem e_Ma_relate_0 (h0_above_n : Nat) (h0_below_n : Nat) (l1 : Int32) (l2 : Int32) (h0_top : Int32) (n : Nat) (h0_above_c : Nat → Int32) (h0_below_c : Nat → Int32) (l3 : Int32) : f_Ma_relate h0_above_n h0_below_n l1 l2 h0_top (n + 1) 0 h0_above_c h0_below_c l3 = if (l1 : Int32) = 15 then f_Ma_relate h0_above_n h0_below_n l1 l2 h0_top n 1 h0_above_c h0_below_c 0 else if ¬ (l1 : Int32) = 16 then (if (l1 : Int32).toInt = 19 then (if (l2 : Int32) = 0 then f_Ma_relate h0_above_n h0_below_n l1 l2 h0_top n 2 h0_above_c h0_below_c 0 else f_Ma_relate h0_above_n h0_below_n l1 l2 h0_top n 2 h0_above_c h0_below_c 1) else if (l1 : Int32).toInt = 20 then (if (0 : Int32) < l2 then f_Ma_relate h0_above_n h0_below_n l1 l2 h0_top n 2 h0_above_c h0_below_c 0 else f_Ma_relate h0_above_n h0_below_n l1 l2 h0_top n 2 h0_above_c h0_below_c 1) else if (l1 : Int32).toInt = 21 then (if (l2 : Int32) < 0 then f_Ma_relate h0_above_n h0_below_n l1 l2 h0_top n 2 h0_above_c h0_below_c 0 else f_Ma_relate h0_above_n h0_below_n l1 l2 h0_top n 2 h0_above_c h0_below_c 1) else if (l1 : Int32).toInt = 22 then (if (0 : Int32) ≤ l2 then f_Ma_relate h0_above_n h0_below_n l1 l2 h0_top n 2 h0_above_c h0_below_c 0 else f_Ma_relate h0_above_n h0_below_n l1 l2 h0_top n 2 h0_above_c h0_below_c 1) else if (l1 : Int32).toInt = 23 then (if (l2 : Int32) ≤ 0 then f_Ma_relate h0_above_n h0_below_n l1 l2 h0_top n 2 h0_above_c h0_below_c 0 else f_Ma_relate h0_above_n h0_below_n l1 l2 h0_top n 2 h0_above_c h0_below_c 1) else if (l1 : Int32).toInt = 24 then (if ¬ (l2 : Int32) = 0 then f_Ma_relate h0_above_n h0_below_n l1 l2 h0_top n 2 h0_above_c h0_below_c 0 else f_Ma_relate h0_above_n h0_below_n l1 l2 h0_top n 2 h0_above_c h0_below_c 1) else if (l2 : Int32) < 0 then f_Ma_relate h0_above_n h0_below_n l1 l2 h0_top n 2 h0_above_c h0_below_c 0 else f_Ma_relate h0_above_n h0_below_n l1 l2 h0_top n 2 h0_above_c h0_below_c 1) else f_Ma_relate h0_above_n h0_below_n l1 l2 h0_top n 1 h0_above_c h0_below_c 0 := by rw [f_Ma_relate]
theorem e_Ma_relate_1 (h0_above_n : Nat) (h0_below_n : Nat) (l1 : Int32) (l2 : Int32) (h0_top : Int32) (n : Nat) (h0_above_c : Nat → Int32) (h0_below_c : Nat → Int32) (l3 : Int32) : f_Ma_relate h0_above_n h0_below_n l1 l2 h0_top (n + 1) 1 h0_above_c h0_below_c l3 = if (l2 : Int32) ≤ 0 then (if ¬ (l1 : Int32) = 15 then chk (0 ≤ (h0_top : Int32).toInt ∧ (h0_top : Int32).toInt < h0_above_n) (chk (0 ≤ ((h0_top - 1) : Int32).toInt ∧ ((h0_top - 1) : Int32).toInt < h0_above_n) (chk (0 ≤ (h0_top : Int32).toInt ∧ (h0_top : Int32).toInt < h0_below_n) (chk (0 ≤ ((h0_top - 1) : Int32).toInt ∧ ((h0_top - 1) : Int32).toInt < h0_below_n) (some (1, upd h0_above_c ((h0_top - 1) : Int32).toNatClampNeg (h0_above_c (h0_top : Int32).toNatClampNeg), upd h0_below_c ((h0_top - 1) : Int32).toNatClampNeg (h0_below_c (h0_top : Int32).toNatClampNeg)))))) else some (1, h0_above_c, h0_below_c)) else if ¬ (l1 : Int32) = 15 then some (1, h0_above_c, h0_below_c) else chk (0 ≤ (h0_top : Int32).toInt ∧ (h0_top : Int32).toInt < h0_above_n) (chk (0 ≤ ((h0_top - 1) : Int32).toInt ∧ ((h0_top - 1) : Int32).toInt < h0_above_n) (chk (0 ≤ (h0_top : Int32).toInt ∧ (h0_top : Int32).toInt < h0_below_n) (chk (0 ≤ ((h0_top - 1) : Int32).toInt ∧ ((h0_top - 1) : Int32).toInt < h0_below_n) (some (1, upd h0_above_c ((h0_top - 1) : Int32).toNatClampNeg (h0_above_c (h0_top : Int32).toNatClampNeg), upd h0_below_c ((h0_top - 1) : Int32).toNatClampNeg (h0_below_c (h0_top : Int32).toNatClampNeg)))))) := by rw [f_Ma_relate]
theorem e_Ma_relate_2 (h0_above_n : Nat) (h0_below_n : Nat) (l1 : Int32) (l2 : Int32) (h0_top : Int32) (n : Nat) (h0_above_c : Nat → Int32) (h0_below_c : Nat → Int32) (l3 : Int32) : f_Ma_relate h0_above_n h0_below_n l1 l2 h0_top (n + 1) 2 h0_above_c h0_below_c l3 = if (l3 : Int32) = 0 then chk (0 ≤ ((h0_top - 1) : Int32).toInt ∧ ((h0_top - 1) : Int32).toInt < h0_above_n) (chk (0 ≤ ((h0_top - 1) : Int32).toInt ∧ ((h0_top - 1) : Int32).toInt < h0_below_n) (some (1, upd h0_above_c ((h0_top - 1) : Int32).toNatClampNeg 0, upd h0_below_c ((h0_top - 1) : Int32).toNatClampNeg 1))) else chk (0 ≤ ((h0_top - 1) : Int32).toInt ∧ ((h0_top - 1) : Int32).toInt < h0_above_n) (chk (0 ≤ ((h0_top - 1) : Int32).toInt ∧ ((h0_top - 1) : Int32).toInt < h0_below_n) (some (1, upd h0_above_c ((h0_top - 1) : Int32).toNatClampNeg 1, upd h0_below_c ((h0_top - 1) : Int32).toNatClampNeg 1))) := by rw [f_Ma_relate]
theorem z_Ma_relate (h0_above_n : Nat) (h0_below_n : Nat) (l1 : Int32) (l2 : Int32) (h0_top : Int32) (h : Nat) (h0_above_c : Nat → Int32) (h0_below_c : Nat → Int32) (l3 : Int32) : f_Ma_relate h0_above_n h0_below_n l1 l2 h0_top 0 h h0_above_c h0_below_c l3 = none := by rw [f_Ma_relate]
set_option maxHeartbeats 4000000 in
set_option maxRecDepth 100000 in
theorem b_Ma_relate_0 {p : Program} {l : Launch} {e : Env} {s : State} {m : MethodId} {args : Array Value} {below : List Frame} {meth : Method} {c : Code} {D : va_G} {tA : Nat → ClassId} {A : Nat → Prop} {h0 h0_above h0_below : Nat} {f0_h0 : List Value} {h0_above_n : Nat} {h0_below_n : Nat} {l1 : Int32} {l2 : Int32} {h0_top : Int32} {out : Int32 × (Nat → Int32) × (Nat → Int32)} (hx : p.tables.exec = Jvm.exec) (hb : c.code = prog_5_method_13_code) (hr : meth.sig.returnType = (Option.some Jvm.ClassFile.FieldType.boolean)) (hml : c.maxLocals = 4) (hh : zH s) (hg : ∀ w ∈ lw_R, w.before args s = true) (hown : s.vm.findClass "ChanceArena$Machine" = some m.cls) (hlocks : meth.locks = false) (hK : va_K D vwCl (zT tA) s) (hA : ∀ q, s.heap.size ≤ q → A q) {n : Nat} (ih1 : ∀ (h0_above_c : Nat → Int32) (h0_below_c : Nat → Int32) (l3 : Int32) (H : Heap) (locs : List Loc) (ls : Array Slot), f_Ma_relate h0_above_n h0_below_n l1 l2 h0_top n 1 h0_above_c h0_below_c l3 = some out → f0_h0[6]? = some (.ref h0_above) → f0_h0[7]? = some (.ref h0_below) → f0_h0[8]? = some (.int h0_top) → va_P D vwCl [(h0, .inr (4, f0_h0)), (h0_above, .inl (tA 0, h0_above_n, .inl h0_above_c)), (h0_below, .inl (tA 0, h0_below_n, .inl h0_below_c))] H → va_D A [(h0, .inr (4, f0_h0)), (h0_above, .inl (tA 0, h0_above_n, .inl h0_above_c)), (h0_below, .inl (tA 0, h0_below_n, .inl h0_below_c))] → va_S A s.heap H locs → lv_has ls 4 [(0, .ref h0), (1, .int l1), (2, .int l2)] → W p l e { frames := 0, cells := 0, slots := 0, locals := 0 } s m args below meth c H locs 0 0 (MQ below (va_Qi (fun (r9 : Int32) (u9 : Unit) => r9 = out.1) (zPost D A (fun (u9 : Unit) => [(h0, .inr (4, f0_h0)), (h0_above, .inl (tA 0, h0_above_n, .inl out.2.1)), (h0_below, .inl (tA 0, h0_below_n, .inl out.2.2))])) A) args s 0 0 A) (F0 m 12 ls [])) (ih2 : ∀ (h0_above_c : Nat → Int32) (h0_below_c : Nat → Int32) (l3 : Int32) (H : Heap) (locs : List Loc) (ls : Array Slot), f_Ma_relate h0_above_n h0_below_n l1 l2 h0_top n 2 h0_above_c h0_below_c l3 = some out → f0_h0[6]? = some (.ref h0_above) → f0_h0[7]? = some (.ref h0_below) → f0_h0[8]? = some (.int h0_top) → va_P D vwCl [(h0, .inr (4, f0_h0)), (h0_above, .inl (tA 0, h0_above_n, .inl h0_above_c)), (h0_below, .inl (tA 0, h0_below_n, .inl h0_below_c))] H → va_D A [(h0, .inr (4, f0_h0)), (h0_above, .inl (tA 0, h0_above_n, .inl h0_above_c)), (h0_below, .inl (tA 0, h0_below_n, .inl h0_below_c))] → va_S A s.heap H locs → lv_has ls 4 [(0, .ref h0), (1, .int l1), (2, .int l2), (3, .int l3)] → W p l e { frames := 0, cells := 0, slots := 0, locals := 0 } s m args below meth c H locs 0 0 (MQ below (va_Qi (fun (r9 : Int32) (u9 : Unit) => r9 = out.1) (zPost D A (fun (u9 : Unit) => [(h0, .inr (4, f0_h0)), (h0_above, .inl (tA 0, h0_above_n, .inl out.2.1)), (h0_below, .inl (tA 0, h0_below_n, .inl out.2.2))])) A) args s 0 0 A) (F0 m 191 ls [])) : ∀ (h0_above_c : Nat → Int32) (h0_below_c : Nat → Int32) (l3 : Int32) (H : Heap) (locs : List Loc) (ls : Array Slot), f_Ma_relate h0_above_n h0_below_n l1 l2 h0_top (n + 1) 0 h0_above_c h0_below_c l3 = some out → f0_h0[6]? = some (.ref h0_above) → f0_h0[7]? = some (.ref h0_below) → f0_h0[8]? = some (.int h0_top) → va_P D vwCl [(h0, .inr (4, f0_h0)), (h0_above, .inl (tA 0, h0_above_n, .inl h0_above_c)), (h0_below, .inl (tA 0, h0_below_n, .inl h0_below_c))] H → va_D A [(h0, .inr (4, f0_h0)), (h0_above, .inl (tA 0, h0_above_n, .inl h0_above_c)), (h0_below, .inl (tA 0, h0_below_n, .inl h0_below_c))] → va_S A s.heap H locs → lv_has ls 4 [(0, .ref h0), (1, .int l1), (2, .int l2)] → W p l e { frames := 0, cells := 0, slots := 0, locals := 0 } s m args below meth c H locs 0 0 (MQ below (va_Qi (fun (r9 : Int32) (u9 : Unit) => r9 = out.1) (zPost D A (fun (u9 : Unit) => [(h0, .inr (4, f0_h0)), (h0_above, .inl (tA 0, h0_above_n, .inl out.2.1)), (h0_below, .inl (tA 0, h0_below_n, .inl out.2.2))])) A) args s 0 0 A) (F0 m 0 ls []) := by
  intro h0_above_c h0_below_c l3   H locs ls hF q_h0_above q_h0_below q_h0_top hP hD hS hl
  rw [e_Ma_relate_0] at hF
  refine lv_iload_n hx hb d_Ma_relate_0 rfl (lv_at hl 1 rfl) ?_
  refine lv_bipush (v := 15) hx hb d_Ma_relate_1 (by decide) ?_
  refine lv_icmp_eq (tgt := 12) hx hb d_Ma_relate_3 (by decide) (fun c9 => ?_) (fun c9 => ?_)
  · replace hF := ifp c9 hF
    exact ih1 h0_above_c h0_below_c 0   _ _ _ hF q_h0_above q_h0_below q_h0_top hP hD hS (lv_sub hl [0, 1, 2] rfl)
  · replace hF := ifn c9 hF
    refine lv_iload_n hx hb d_Ma_relate_6 rfl (lv_at hl 1 rfl) ?_
    refine lv_bipush (v := 16) hx hb d_Ma_relate_7 (by decide) ?_
    refine lv_icmp_ne (tgt := 77) hx hb d_Ma_relate_9 (by decide) (fun c9 => ?_) (fun c9 => ?_)
    · replace hF := ifp c9 hF
      refine lv_iload_n hx hb d_Ma_relate_77 rfl (lv_at hl 1 rfl) ?_
      by_cases w78_19 : (l1 : Int32).toInt = 19
      · replace hF := ifp w78_19 hF
        refine lv_tableIn (off := 51) (tgt := 129) hx hb d_Ma_relate_78 (by omega) (by omega) (by rw [w78_19]; rfl) (by decide) ?_
        refine lv_iload_n hx hb d_Ma_relate_129 rfl (lv_at hl 2 rfl) ?_
        refine lv_if_eq (tgt := 137) hx hb d_Ma_relate_130 (by decide) (fun c9 => ?_) (fun c9 => ?_)
        · replace hF := ifp c9 hF
          refine lv_iconst (v := 0) hx hb d_Ma_relate_137 (by decide) ?_
          refine lv_istore_n (lv' := [(3, .int 0), (0, .ref h0), (1, .int l1), (2, .int l2)]) hx hb d_Ma_relate_138 rfl hl (by decide) rfl (fun ls hl => ?_)
          refine lv_goto (tgt := 191) hx hb d_Ma_relate_139 (by decide) ?_
          exact ih2 h0_above_c h0_below_c 0   _ _ _ hF q_h0_above q_h0_below q_h0_top hP hD hS (lv_sub hl [1, 2, 3, 0] rfl)
        · replace hF := ifn c9 hF
          refine lv_iconst (v := 1) hx hb d_Ma_relate_133 (by decide) ?_
          refine lv_goto (tgt := 138) hx hb d_Ma_relate_134 (by decide) ?_
          refine lv_istore_n (lv' := [(3, .int 1), (0, .ref h0), (1, .int l1), (2, .int l2)]) hx hb d_Ma_relate_138 rfl hl (by decide) rfl (fun ls hl => ?_)
          refine lv_goto (tgt := 191) hx hb d_Ma_relate_139 (by decide) ?_
          exact ih2 h0_above_c h0_below_c 1   _ _ _ hF q_h0_above q_h0_below q_h0_top hP hD hS (lv_sub hl [1, 2, 3, 0] rfl)
      · replace hF := ifn w78_19 hF
        by_cases w78_20 : (l1 : Int32).toInt = 20
        · replace hF := ifp w78_20 hF
          refine lv_tableIn (off := 77) (tgt := 155) hx hb d_Ma_relate_78 (by omega) (by omega) (by rw [w78_20]; rfl) (by decide) ?_
          refine lv_iload_n hx hb d_Ma_relate_155 rfl (lv_at hl 2 rfl) ?_
          refine lv_if_gt (tgt := 163) hx hb d_Ma_relate_156 (by decide) (fun c9 => ?_) (fun c9 => ?_)
          · replace hF := ifp c9 hF
            refine lv_iconst (v := 0) hx hb d_Ma_relate_163 (by decide) ?_
            refine lv_istore_n (lv' := [(3, .int 0), (0, .ref h0), (1, .int l1), (2, .int l2)]) hx hb d_Ma_relate_164 rfl hl (by decide) rfl (fun ls hl => ?_)
            refine lv_goto (tgt := 191) hx hb d_Ma_relate_165 (by decide) ?_
            exact ih2 h0_above_c h0_below_c 0   _ _ _ hF q_h0_above q_h0_below q_h0_top hP hD hS (lv_sub hl [1, 2, 3, 0] rfl)
          · replace hF := ifn c9 hF
            refine lv_iconst (v := 1) hx hb d_Ma_relate_159 (by decide) ?_
            refine lv_goto (tgt := 164) hx hb d_Ma_relate_160 (by decide) ?_
            refine lv_istore_n (lv' := [(3, .int 1), (0, .ref h0), (1, .int l1), (2, .int l2)]) hx hb d_Ma_relate_164 rfl hl (by decide) rfl (fun ls hl => ?_)
            refine lv_goto (tgt := 191) hx hb d_Ma_relate_165 (by decide) ?_
            exact ih2 h0_above_c h0_below_c 1   _ _ _ hF q_h0_above q_h0_below q_h0_top hP hD hS (lv_sub hl [1, 2, 3, 0] rfl)
        · replace hF := ifn w78_20 hF
          by_cases w78_21 : (l1 : Int32).toInt = 21
          · replace hF := ifp w78_21 hF
            refine lv_tableIn (off := 103) (tgt := 181) hx hb d_Ma_relate_78 (by omega) (by omega) (by rw [w78_21]; rfl) (by decide) ?_
            refine lv_iload_n hx hb d_Ma_relate_181 rfl (lv_at hl 2 rfl) ?_
            refine lv_if_lt (tgt := 189) hx hb d_Ma_relate_182 (by decide) (fun c9 => ?_) (fun c9 => ?_)
            · replace hF := ifp c9 hF
              refine lv_iconst (v := 0) hx hb d_Ma_relate_189 (by decide) ?_
              refine lv_istore_n (lv' := [(3, .int 0), (0, .ref h0), (1, .int l1), (2, .int l2)]) hx hb d_Ma_relate_190 rfl hl (by decide) rfl (fun ls hl => ?_)
              exact ih2 h0_above_c h0_below_c 0   _ _ _ hF q_h0_above q_h0_below q_h0_top hP hD hS (lv_sub hl [1, 2, 3, 0] rfl)
            · replace hF := ifn c9 hF
              refine lv_iconst (v := 1) hx hb d_Ma_relate_185 (by decide) ?_
              refine lv_goto (tgt := 190) hx hb d_Ma_relate_186 (by decide) ?_
              refine lv_istore_n (lv' := [(3, .int 1), (0, .ref h0), (1, .int l1), (2, .int l2)]) hx hb d_Ma_relate_190 rfl hl (by decide) rfl (fun ls hl => ?_)
              exact ih2 h0_above_c h0_below_c 1   _ _ _ hF q_h0_above q_h0_below q_h0_top hP hD hS (lv_sub hl [1, 2, 3, 0] rfl)
          · replace hF := ifn w78_21 hF
            by_cases w78_22 : (l1 : Int32).toInt = 22
            · replace hF := ifp w78_22 hF
              refine lv_tableIn (off := 64) (tgt := 142) hx hb d_Ma_relate_78 (by omega) (by omega) (by rw [w78_22]; rfl) (by decide) ?_
              refine lv_iload_n hx hb d_Ma_relate_142 rfl (lv_at hl 2 rfl) ?_
              refine lv_if_ge (tgt := 150) hx hb d_Ma_relate_143 (by decide) (fun c9 => ?_) (fun c9 => ?_)
              · replace hF := ifp c9 hF
                refine lv_iconst (v := 0) hx hb d_Ma_relate_150 (by decide) ?_
                refine lv_istore_n (lv' := [(3, .int 0), (0, .ref h0), (1, .int l1), (2, .int l2)]) hx hb d_Ma_relate_151 rfl hl (by decide) rfl (fun ls hl => ?_)
                refine lv_goto (tgt := 191) hx hb d_Ma_relate_152 (by decide) ?_
                exact ih2 h0_above_c h0_below_c 0   _ _ _ hF q_h0_above q_h0_below q_h0_top hP hD hS (lv_sub hl [1, 2, 3, 0] rfl)
              · replace hF := ifn c9 hF
                refine lv_iconst (v := 1) hx hb d_Ma_relate_146 (by decide) ?_
                refine lv_goto (tgt := 151) hx hb d_Ma_relate_147 (by decide) ?_
                refine lv_istore_n (lv' := [(3, .int 1), (0, .ref h0), (1, .int l1), (2, .int l2)]) hx hb d_Ma_relate_151 rfl hl (by decide) rfl (fun ls hl => ?_)
                refine lv_goto (tgt := 191) hx hb d_Ma_relate_152 (by decide) ?_
                exact ih2 h0_above_c h0_below_c 1   _ _ _ hF q_h0_above q_h0_below q_h0_top hP hD hS (lv_sub hl [1, 2, 3, 0] rfl)
            · replace hF := ifn w78_22 hF
              by_cases w78_23 : (l1 : Int32).toInt = 23
              · replace hF := ifp w78_23 hF
                refine lv_tableIn (off := 90) (tgt := 168) hx hb d_Ma_relate_78 (by omega) (by omega) (by rw [w78_23]; rfl) (by decide) ?_
                refine lv_iload_n hx hb d_Ma_relate_168 rfl (lv_at hl 2 rfl) ?_
                refine lv_if_le (tgt := 176) hx hb d_Ma_relate_169 (by decide) (fun c9 => ?_) (fun c9 => ?_)
                · replace hF := ifp c9 hF
                  refine lv_iconst (v := 0) hx hb d_Ma_relate_176 (by decide) ?_
                  refine lv_istore_n (lv' := [(3, .int 0), (0, .ref h0), (1, .int l1), (2, .int l2)]) hx hb d_Ma_relate_177 rfl hl (by decide) rfl (fun ls hl => ?_)
                  refine lv_goto (tgt := 191) hx hb d_Ma_relate_178 (by decide) ?_
                  exact ih2 h0_above_c h0_below_c 0   _ _ _ hF q_h0_above q_h0_below q_h0_top hP hD hS (lv_sub hl [1, 2, 3, 0] rfl)
                · replace hF := ifn c9 hF
                  refine lv_iconst (v := 1) hx hb d_Ma_relate_172 (by decide) ?_
                  refine lv_goto (tgt := 177) hx hb d_Ma_relate_173 (by decide) ?_
                  refine lv_istore_n (lv' := [(3, .int 1), (0, .ref h0), (1, .int l1), (2, .int l2)]) hx hb d_Ma_relate_177 rfl hl (by decide) rfl (fun ls hl => ?_)
                  refine lv_goto (tgt := 191) hx hb d_Ma_relate_178 (by decide) ?_
                  exact ih2 h0_above_c h0_below_c 1   _ _ _ hF q_h0_above q_h0_below q_h0_top hP hD hS (lv_sub hl [1, 2, 3, 0] rfl)
              · replace hF := ifn w78_23 hF
                by_cases w78_24 : (l1 : Int32).toInt = 24
                · replace hF := ifp w78_24 hF
                  refine lv_tableIn (off := 38) (tgt := 116) hx hb d_Ma_relate_78 (by omega) (by omega) (by rw [w78_24]; rfl) (by decide) ?_
                  refine lv_iload_n hx hb d_Ma_relate_116 rfl (lv_at hl 2 rfl) ?_
                  refine lv_if_ne (tgt := 124) hx hb d_Ma_relate_117 (by decide) (fun c9 => ?_) (fun c9 => ?_)
                  · replace hF := ifp c9 hF
                    refine lv_iconst (v := 0) hx hb d_Ma_relate_124 (by decide) ?_
                    refine lv_istore_n (lv' := [(3, .int 0), (0, .ref h0), (1, .int l1), (2, .int l2)]) hx hb d_Ma_relate_125 rfl hl (by decide) rfl (fun ls hl => ?_)
                    refine lv_goto (tgt := 191) hx hb d_Ma_relate_126 (by decide) ?_
                    exact ih2 h0_above_c h0_below_c 0   _ _ _ hF q_h0_above q_h0_below q_h0_top hP hD hS (lv_sub hl [1, 2, 3, 0] rfl)
                  · replace hF := ifn (fun h9 => h9 c9) hF
                    refine lv_iconst (v := 1) hx hb d_Ma_relate_120 (by decide) ?_
                    refine lv_goto (tgt := 125) hx hb d_Ma_relate_121 (by decide) ?_
                    refine lv_istore_n (lv' := [(3, .int 1), (0, .ref h0), (1, .int l1), (2, .int l2)]) hx hb d_Ma_relate_125 rfl hl (by decide) rfl (fun ls hl => ?_)
                    refine lv_goto (tgt := 191) hx hb d_Ma_relate_126 (by decide) ?_
                    exact ih2 h0_above_c h0_below_c 1   _ _ _ hF q_h0_above q_h0_below q_h0_top hP hD hS (lv_sub hl [1, 2, 3, 0] rfl)
                · replace hF := ifn w78_24 hF
                  refine lv_tableOut (tgt := 181) hx hb d_Ma_relate_78 (by omega) (by decide) ?_
                  refine lv_iload_n hx hb d_Ma_relate_181 rfl (lv_at hl 2 rfl) ?_
                  refine lv_if_lt (tgt := 189) hx hb d_Ma_relate_182 (by decide) (fun c9 => ?_) (fun c9 => ?_)
                  · replace hF := ifp c9 hF
                    refine lv_iconst (v := 0) hx hb d_Ma_relate_189 (by decide) ?_
                    refine lv_istore_n (lv' := [(3, .int 0), (0, .ref h0), (1, .int l1), (2, .int l2)]) hx hb d_Ma_relate_190 rfl hl (by decide) rfl (fun ls hl => ?_)
                    exact ih2 h0_above_c h0_below_c 0   _ _ _ hF q_h0_above q_h0_below q_h0_top hP hD hS (lv_sub hl [1, 2, 3, 0] rfl)
                  · replace hF := ifn c9 hF
                    refine lv_iconst (v := 1) hx hb d_Ma_relate_185 (by decide) ?_
                    refine lv_goto (tgt := 190) hx hb d_Ma_relate_186 (by decide) ?_
                    refine lv_istore_n (lv' := [(3, .int 1), (0, .ref h0), (1, .int l1), (2, .int l2)]) hx hb d_Ma_relate_190 rfl hl (by decide) rfl (fun ls hl => ?_)
                    exact ih2 h0_above_c h0_below_c 1   _ _ _ hF q_h0_above q_h0_below q_h0_top hP hD hS (lv_sub hl [1, 2, 3, 0] rfl)
    · replace hF := ifn (fun h9 => h9 c9) hF
      exact ih1 h0_above_c h0_below_c 0   _ _ _ hF q_h0_above q_h0_below q_h0_top hP hD hS (lv_sub hl [0, 1, 2] rfl)
set_option maxHeartbeats 4000000 in
set_option maxRecDepth 100000 in
theorem b_Ma_relate_1 {p : Program} {l : Launch} {e : Env} {s : State} {m : MethodId} {args : Array Value} {below : List Frame} {meth : Method} {c : Code} {D : va_G} {tA : Nat → ClassId} {A : Nat → Prop} {h0 h0_above h0_below : Nat} {f0_h0 : List Value} {h0_above_n : Nat} {h0_below_n : Nat} {l1 : Int32} {l2 : Int32} {h0_top : Int32} {out : Int32 × (Nat → Int32) × (Nat → Int32)} (hx : p.tables.exec = Jvm.exec) (hb : c.code = prog_5_method_13_code) (hr : meth.sig.returnType = (Option.some Jvm.ClassFile.FieldType.boolean)) (hml : c.maxLocals = 4) (hh : zH s) (hg : ∀ w ∈ lw_R, w.before args s = true) (hown : s.vm.findClass "ChanceArena$Machine" = some m.cls) (hlocks : meth.locks = false) (hK : va_K D vwCl (zT tA) s) (hA : ∀ q, s.heap.size ≤ q → A q) {n : Nat}  : ∀ (h0_above_c : Nat → Int32) (h0_below_c : Nat → Int32) (l3 : Int32) (H : Heap) (locs : List Loc) (ls : Array Slot), f_Ma_relate h0_above_n h0_below_n l1 l2 h0_top (n + 1) 1 h0_above_c h0_below_c l3 = some out → f0_h0[6]? = some (.ref h0_above) → f0_h0[7]? = some (.ref h0_below) → f0_h0[8]? = some (.int h0_top) → va_P D vwCl [(h0, .inr (4, f0_h0)), (h0_above, .inl (tA 0, h0_above_n, .inl h0_above_c)), (h0_below, .inl (tA 0, h0_below_n, .inl h0_below_c))] H → va_D A [(h0, .inr (4, f0_h0)), (h0_above, .inl (tA 0, h0_above_n, .inl h0_above_c)), (h0_below, .inl (tA 0, h0_below_n, .inl h0_below_c))] → va_S A s.heap H locs → lv_has ls 4 [(0, .ref h0), (1, .int l1), (2, .int l2)] → W p l e { frames := 0, cells := 0, slots := 0, locals := 0 } s m args below meth c H locs 0 0 (MQ below (va_Qi (fun (r9 : Int32) (u9 : Unit) => r9 = out.1) (zPost D A (fun (u9 : Unit) => [(h0, .inr (4, f0_h0)), (h0_above, .inl (tA 0, h0_above_n, .inl out.2.1)), (h0_below, .inl (tA 0, h0_below_n, .inl out.2.2))])) A) args s 0 0 A) (F0 m 12 ls []) := by
  intro h0_above_c h0_below_c l3   H locs ls hF q_h0_above q_h0_below q_h0_top hP hD hS hl
  rw [e_Ma_relate_1] at hF
  refine lv_iload_n hx hb d_Ma_relate_12 rfl (lv_at hl 2 rfl) ?_
  refine lv_if_le (tgt := 20) hx hb d_Ma_relate_13 (by decide) (fun c9 => ?_) (fun c9 => ?_)
  · replace hF := ifp c9 hF
    refine lv_iconst (v := 0) hx hb d_Ma_relate_20 (by decide) ?_
    refine lv_iload_n hx hb d_Ma_relate_21 rfl (lv_at hl 1 rfl) ?_
    refine lv_bipush (v := 15) hx hb d_Ma_relate_22 (by decide) ?_
    refine lv_icmp_ne (tgt := 31) hx hb d_Ma_relate_24 (by decide) (fun c9 => ?_) (fun c9 => ?_)
    · replace hF := ifp c9 hF
      refine lv_iconst (v := 0) hx hb d_Ma_relate_31 (by decide) ?_
      refine lv_icmp_ne (tgt := 75) hx hb d_Ma_relate_32 (by decide) (fun c9 => absurd rfl c9) (fun _ => ?_)
      refine lv_aload_n hx hb d_Ma_relate_35 rfl (lv_at hl 0 rfl) ?_
      refine va_get (D := D) (ci := 4) (v := .ref h0_above) (C := R_Ma) (T := T_Ma) (N := 16) hx hb hg i_Ma hown hK hP 0 rfl rfl 6 (by decide) (hg _ k1_182) (fun _ h9 => h9) q_h0_above d_Ma_relate_36 ?_
      refine lv_aload_n hx hb d_Ma_relate_39 rfl (lv_at hl 0 rfl) ?_
      refine va_get (D := D) (ci := 4) (v := .int h0_top) (C := R_Ma) (T := T_Ma) (N := 16) hx hb hg i_Ma hown hK hP 0 rfl rfl 8 (by decide) (hg _ k1_188) (fun _ h9 => h9) q_h0_top d_Ma_relate_40 ?_
      refine lv_iconst (v := 1) hx hb d_Ma_relate_43 (by decide) ?_
      refine lv_isub hx hb d_Ma_relate_44 ?_
      refine lv_aload_n hx hb d_Ma_relate_45 rfl (lv_at hl 0 rfl) ?_
      refine va_get (D := D) (ci := 4) (v := .ref h0_above) (C := R_Ma) (T := T_Ma) (N := 16) hx hb hg i_Ma hown hK hP 0 rfl rfl 6 (by decide) (hg _ k1_182) (fun _ h9 => h9) q_h0_above d_Ma_relate_46 ?_
      refine lv_aload_n hx hb d_Ma_relate_49 rfl (lv_at hl 0 rfl) ?_
      refine va_get (D := D) (ci := 4) (v := .int h0_top) (C := R_Ma) (T := T_Ma) (N := 16) hx hb hg i_Ma hown hK hP 0 rfl rfl 8 (by decide) (hg _ k1_188) (fun _ h9 => h9) q_h0_top d_Ma_relate_50 ?_
      obtain ⟨h9, hF⟩ := chk_some hF
      refine va_iald hx hb hK hP 1 0 rfl rfl (vp_in_iff.mpr h9) d_Ma_relate_53 ?_
      obtain ⟨h9, hF⟩ := chk_some hF
      refine va_iast hx hb hK hP hD hS 1 0 rfl rfl (vp_in_iff.mpr h9) d_Ma_relate_54 (fun H1 locs1 hP1 hD1 hS1 => ?_)
      clear hP hD hS
      replace hP1 : va_P D vwCl [(h0, .inr (4, f0_h0)), (h0_above, .inl (tA 0, h0_above_n, .inl (upd h0_above_c ((h0_top - 1) : Int32).toNatClampNeg (h0_above_c (h0_top : Int32).toNatClampNeg)))), (h0_below, .inl (tA 0, h0_below_n, .inl h0_below_c))] _ := hP1
      replace hD1 : va_D A [(h0, .inr (4, f0_h0)), (h0_above, .inl (tA 0, h0_above_n, .inl (upd h0_above_c ((h0_top - 1) : Int32).toNatClampNeg (h0_above_c (h0_top : Int32).toNatClampNeg)))), (h0_below, .inl (tA 0, h0_below_n, .inl h0_below_c))] := hD1
      refine lv_aload_n hx hb d_Ma_relate_55 rfl (lv_at hl 0 rfl) ?_
      refine va_get (D := D) (ci := 4) (v := .ref h0_below) (C := R_Ma) (T := T_Ma) (N := 16) hx hb hg i_Ma hown hK hP1 0 rfl rfl 7 (by decide) (hg _ k1_185) (fun _ h9 => h9) q_h0_below d_Ma_relate_56 ?_
      refine lv_aload_n hx hb d_Ma_relate_59 rfl (lv_at hl 0 rfl) ?_
      refine va_get (D := D) (ci := 4) (v := .int h0_top) (C := R_Ma) (T := T_Ma) (N := 16) hx hb hg i_Ma hown hK hP1 0 rfl rfl 8 (by decide) (hg _ k1_188) (fun _ h9 => h9) q_h0_top d_Ma_relate_60 ?_
      refine lv_iconst (v := 1) hx hb d_Ma_relate_63 (by decide) ?_
      refine lv_isub hx hb d_Ma_relate_64 ?_
      refine lv_aload_n hx hb d_Ma_relate_65 rfl (lv_at hl 0 rfl) ?_
      refine va_get (D := D) (ci := 4) (v := .ref h0_below) (C := R_Ma) (T := T_Ma) (N := 16) hx hb hg i_Ma hown hK hP1 0 rfl rfl 7 (by decide) (hg _ k1_185) (fun _ h9 => h9) q_h0_below d_Ma_relate_66 ?_
      refine lv_aload_n hx hb d_Ma_relate_69 rfl (lv_at hl 0 rfl) ?_
      refine va_get (D := D) (ci := 4) (v := .int h0_top) (C := R_Ma) (T := T_Ma) (N := 16) hx hb hg i_Ma hown hK hP1 0 rfl rfl 8 (by decide) (hg _ k1_188) (fun _ h9 => h9) q_h0_top d_Ma_relate_70 ?_
      obtain ⟨h9, hF⟩ := chk_some hF
      refine va_iald hx hb hK hP1 2 0 rfl rfl (vp_in_iff.mpr h9) d_Ma_relate_73 ?_
      obtain ⟨h9, hF⟩ := chk_some hF
      refine va_iast hx hb hK hP1 hD1 hS1 2 0 rfl rfl (vp_in_iff.mpr h9) d_Ma_relate_74 (fun H2 locs2 hP2 hD2 hS2 => ?_)
      clear hP1 hD1 hS1
      replace hP2 : va_P D vwCl [(h0, .inr (4, f0_h0)), (h0_above, .inl (tA 0, h0_above_n, .inl (upd h0_above_c ((h0_top - 1) : Int32).toNatClampNeg (h0_above_c (h0_top : Int32).toNatClampNeg)))), (h0_below, .inl (tA 0, h0_below_n, .inl (upd h0_below_c ((h0_top - 1) : Int32).toNatClampNeg (h0_below_c (h0_top : Int32).toNatClampNeg))))] _ := hP2
      replace hD2 : va_D A [(h0, .inr (4, f0_h0)), (h0_above, .inl (tA 0, h0_above_n, .inl (upd h0_above_c ((h0_top - 1) : Int32).toNatClampNeg (h0_above_c (h0_top : Int32).toNatClampNeg)))), (h0_below, .inl (tA 0, h0_below_n, .inl (upd h0_below_c ((h0_top - 1) : Int32).toNatClampNeg (h0_below_c (h0_top : Int32).toNatClampNeg))))] := hD2
      refine lv_iconst (v := 1) hx hb d_Ma_relate_75 (by decide) ?_
      replace hF := Option.some.inj hF
      subst hF
      exact zZret (post := (fun (r9 : Int32) (u9 : Unit) => r9 = (1, upd h0_above_c ((h0_top - 1) : Int32).toNatClampNeg (h0_above_c (h0_top : Int32).toNatClampNeg), upd h0_below_c ((h0_top - 1) : Int32).toNatClampNeg (h0_below_c (h0_top : Int32).toNatClampNeg)).1)) (W1 := (fun (u9 : Unit) => [(h0, .inr (4, f0_h0)), (h0_above, .inl (tA 0, h0_above_n, .inl ((1, upd h0_above_c ((h0_top - 1) : Int32).toNatClampNeg (h0_above_c (h0_top : Int32).toNatClampNeg), upd h0_below_c ((h0_top - 1) : Int32).toNatClampNeg (h0_below_c (h0_top : Int32).toNatClampNeg)).2.1))), (h0_below, .inl (tA 0, h0_below_n, .inl ((1, upd h0_above_c ((h0_top - 1) : Int32).toNatClampNeg (h0_above_c (h0_top : Int32).toNatClampNeg), upd h0_below_c ((h0_top - 1) : Int32).toNatClampNeg (h0_below_c (h0_top : Int32).toNatClampNeg)).2.2)))])) (v := 1) hx hb hr rfl hlocks hP2 hD2 hS2 () rfl rfl d_Ma_relate_76
    · replace hF := ifn (fun h9 => h9 c9) hF
      refine lv_iconst (v := 1) hx hb d_Ma_relate_27 (by decide) ?_
      refine lv_goto (tgt := 32) hx hb d_Ma_relate_28 (by decide) ?_
      refine lv_icmp_ne (tgt := 75) hx hb d_Ma_relate_32 (by decide) (fun _ => ?_) (fun c9 => absurd c9 (by decide))
      refine lv_iconst (v := 1) hx hb d_Ma_relate_75 (by decide) ?_
      replace hF := Option.some.inj hF
      subst hF
      exact zZret (post := (fun (r9 : Int32) (u9 : Unit) => r9 = (1, h0_above_c, h0_below_c).1)) (W1 := (fun (u9 : Unit) => [(h0, .inr (4, f0_h0)), (h0_above, .inl (tA 0, h0_above_n, .inl ((1, h0_above_c, h0_below_c).2.1))), (h0_below, .inl (tA 0, h0_below_n, .inl ((1, h0_above_c, h0_below_c).2.2)))])) (v := 1) hx hb hr rfl hlocks hP hD hS () rfl rfl d_Ma_relate_76
  · replace hF := ifn c9 hF
    refine lv_iconst (v := 1) hx hb d_Ma_relate_16 (by decide) ?_
    refine lv_goto (tgt := 21) hx hb d_Ma_relate_17 (by decide) ?_
    refine lv_iload_n hx hb d_Ma_relate_21 rfl (lv_at hl 1 rfl) ?_
    refine lv_bipush (v := 15) hx hb d_Ma_relate_22 (by decide) ?_
    refine lv_icmp_ne (tgt := 31) hx hb d_Ma_relate_24 (by decide) (fun c9 => ?_) (fun c9 => ?_)
    · replace hF := ifp c9 hF
      refine lv_iconst (v := 0) hx hb d_Ma_relate_31 (by decide) ?_
      refine lv_icmp_ne (tgt := 75) hx hb d_Ma_relate_32 (by decide) (fun _ => ?_) (fun c9 => absurd c9 (by decide))
      refine lv_iconst (v := 1) hx hb d_Ma_relate_75 (by decide) ?_
      replace hF := Option.some.inj hF
      subst hF
      exact zZret (post := (fun (r9 : Int32) (u9 : Unit) => r9 = (1, h0_above_c, h0_below_c).1)) (W1 := (fun (u9 : Unit) => [(h0, .inr (4, f0_h0)), (h0_above, .inl (tA 0, h0_above_n, .inl ((1, h0_above_c, h0_below_c).2.1))), (h0_below, .inl (tA 0, h0_below_n, .inl ((1, h0_above_c, h0_below_c).2.2)))])) (v := 1) hx hb hr rfl hlocks hP hD hS () rfl rfl d_Ma_relate_76
    · replace hF := ifn (fun h9 => h9 c9) hF
      refine lv_iconst (v := 1) hx hb d_Ma_relate_27 (by decide) ?_
      refine lv_goto (tgt := 32) hx hb d_Ma_relate_28 (by decide) ?_
      refine lv_icmp_ne (tgt := 75) hx hb d_Ma_relate_32 (by decide) (fun c9 => absurd rfl c9) (fun _ => ?_)
      refine lv_aload_n hx hb d_Ma_relate_35 rfl (lv_at hl 0 rfl) ?_
      refine va_get (D := D) (ci := 4) (v := .ref h0_above) (C := R_Ma) (T := T_Ma) (N := 16) hx hb hg i_Ma hown hK hP 0 rfl rfl 6 (by decide) (hg _ k1_182) (fun _ h9 => h9) q_h0_above d_Ma_relate_36 ?_
      refine lv_aload_n hx hb d_Ma_relate_39 rfl (lv_at hl 0 rfl) ?_
      refine va_get (D := D) (ci := 4) (v := .int h0_top) (C := R_Ma) (T := T_Ma) (N := 16) hx hb hg i_Ma hown hK hP 0 rfl rfl 8 (by decide) (hg _ k1_188) (fun _ h9 => h9) q_h0_top d_Ma_relate_40 ?_
      refine lv_iconst (v := 1) hx hb d_Ma_relate_43 (by decide) ?_
      refine lv_isub hx hb d_Ma_relate_44 ?_
      refine lv_aload_n hx hb d_Ma_relate_45 rfl (lv_at hl 0 rfl) ?_
      refine va_get (D := D) (ci := 4) (v := .ref h0_above) (C := R_Ma) (T := T_Ma) (N := 16) hx hb hg i_Ma hown hK hP 0 rfl rfl 6 (by decide) (hg _ k1_182) (fun _ h9 => h9) q_h0_above d_Ma_relate_46 ?_
      refine lv_aload_n hx hb d_Ma_relate_49 rfl (lv_at hl 0 rfl) ?_
      refine va_get (D := D) (ci := 4) (v := .int h0_top) (C := R_Ma) (T := T_Ma) (N := 16) hx hb hg i_Ma hown hK hP 0 rfl rfl 8 (by decide) (hg _ k1_188) (fun _ h9 => h9) q_h0_top d_Ma_relate_50 ?_
      obtain ⟨h9, hF⟩ := chk_some hF
      refine va_iald hx hb hK hP 1 0 rfl rfl (vp_in_iff.mpr h9) d_Ma_relate_53 ?_
      obtain ⟨h9, hF⟩ := chk_some hF
      refine va_iast hx hb hK hP hD hS 1 0 rfl rfl (vp_in_iff.mpr h9) d_Ma_relate_54 (fun H1 locs1 hP1 hD1 hS1 => ?_)
      clear hP hD hS
      replace hP1 : va_P D vwCl [(h0, .inr (4, f0_h0)), (h0_above, .inl (tA 0, h0_above_n, .inl (upd h0_above_c ((h0_top - 1) : Int32).toNatClampNeg (h0_above_c (h0_top : Int32).toNatClampNeg)))), (h0_below, .inl (tA 0, h0_below_n, .inl h0_below_c))] _ := hP1
      replace hD1 : va_D A [(h0, .inr (4, f0_h0)), (h0_above, .inl (tA 0, h0_above_n, .inl (upd h0_above_c ((h0_top - 1) : Int32).toNatClampNeg (h0_above_c (h0_top : Int32).toNatClampNeg)))), (h0_below, .inl (tA 0, h0_below_n, .inl h0_below_c))] := hD1
      refine lv_aload_n hx hb d_Ma_relate_55 rfl (lv_at hl 0 rfl) ?_
      refine va_get (D := D) (ci := 4) (v := .ref h0_below) (C := R_Ma) (T := T_Ma) (N := 16) hx hb hg i_Ma hown hK hP1 0 rfl rfl 7 (by decide) (hg _ k1_185) (fun _ h9 => h9) q_h0_below d_Ma_relate_56 ?_
      refine lv_aload_n hx hb d_Ma_relate_59 rfl (lv_at hl 0 rfl) ?_
      refine va_get (D := D) (ci := 4) (v := .int h0_top) (C := R_Ma) (T := T_Ma) (N := 16) hx hb hg i_Ma hown hK hP1 0 rfl rfl 8 (by decide) (hg _ k1_188) (fun _ h9 => h9) q_h0_top d_Ma_relate_60 ?_
      refine lv_iconst (v := 1) hx hb d_Ma_relate_63 (by decide) ?_
      refine lv_isub hx hb d_Ma_relate_64 ?_
      refine lv_aload_n hx hb d_Ma_relate_65 rfl (lv_at hl 0 rfl) ?_
      refine va_get (D := D) (ci := 4) (v := .ref h0_below) (C := R_Ma) (T := T_Ma) (N := 16) hx hb hg i_Ma hown hK hP1 0 rfl rfl 7 (by decide) (hg _ k1_185) (fun _ h9 => h9) q_h0_below d_Ma_relate_66 ?_
      refine lv_aload_n hx hb d_Ma_relate_69 rfl (lv_at hl 0 rfl) ?_
      refine va_get (D := D) (ci := 4) (v := .int h0_top) (C := R_Ma) (T := T_Ma) (N := 16) hx hb hg i_Ma hown hK hP1 0 rfl rfl 8 (by decide) (hg _ k1_188) (fun _ h9 => h9) q_h0_top d_Ma_relate_70 ?_
      obtain ⟨h9, hF⟩ := chk_some hF
      refine va_iald hx hb hK hP1 2 0 rfl rfl (vp_in_iff.mpr h9) d_Ma_relate_73 ?_
      obtain ⟨h9, hF⟩ := chk_some hF
      refine va_iast hx hb hK hP1 hD1 hS1 2 0 rfl rfl (vp_in_iff.mpr h9) d_Ma_relate_74 (fun H2 locs2 hP2 hD2 hS2 => ?_)
      clear hP1 hD1 hS1
      replace hP2 : va_P D vwCl [(h0, .inr (4, f0_h0)), (h0_above, .inl (tA 0, h0_above_n, .inl (upd h0_above_c ((h0_top - 1) : Int32).toNatClampNeg (h0_above_c (h0_top : Int32).toNatClampNeg)))), (h0_below, .inl (tA 0, h0_below_n, .inl (upd h0_below_c ((h0_top - 1) : Int32).toNatClampNeg (h0_below_c (h0_top : Int32).toNatClampNeg))))] _ := hP2
      replace hD2 : va_D A [(h0, .inr (4, f0_h0)), (h0_above, .inl (tA 0, h0_above_n, .inl (upd h0_above_c ((h0_top - 1) : Int32).toNatClampNeg (h0_above_c (h0_top : Int32).toNatClampNeg)))), (h0_below, .inl (tA 0, h0_below_n, .inl (upd h0_below_c ((h0_top - 1) : Int32).toNatClampNeg (h0_below_c (h0_top : Int32).toNatClampNeg))))] := hD2
      refine lv_iconst (v := 1) hx hb d_Ma_relate_75 (by decide) ?_
      replace hF := Option.some.inj hF
      subst hF
      exact zZret (post := (fun (r9 : Int32) (u9 : Unit) => r9 = (1, upd h0_above_c ((h0_top - 1) : Int32).toNatClampNeg (h0_above_c (h0_top : Int32).toNatClampNeg), upd h0_below_c ((h0_top - 1) : Int32).toNatClampNeg (h0_below_c (h0_top : Int32).toNatClampNeg)).1)) (W1 := (fun (u9 : Unit) => [(h0, .inr (4, f0_h0)), (h0_above, .inl (tA 0, h0_above_n, .inl ((1, upd h0_above_c ((h0_top - 1) : Int32).toNatClampNeg (h0_above_c (h0_top : Int32).toNatClampNeg), upd h0_below_c ((h0_top - 1) : Int32).toNatClampNeg (h0_below_c (h0_top : Int32).toNatClampNeg)).2.1))), (h0_below, .inl (tA 0, h0_below_n, .inl ((1, upd h0_above_c ((h0_top - 1) : Int32).toNatClampNeg (h0_above_c (h0_top : Int32).toNatClampNeg), upd h0_below_c ((h0_top - 1) : Int32).toNatClampNeg (h0_below_c (h0_top : Int32).toNatClampNeg)).2.2)))])) (v := 1) hx hb hr rfl hlocks hP2 hD2 hS2 () rfl rfl d_Ma_relate_76
set_option maxHeartbeats 4000000 in
set_option maxRecDepth 100000 in
theorem b_Ma_relate_2 {p : Program} {l : Launch} {e : Env} {s : State} {m : MethodId} {args : Array Value} {below : List Frame} {meth : Method} {c : Code} {D : va_G} {tA : Nat → ClassId} {A : Nat → Prop} {h0 h0_above h0_below : Nat} {f0_h0 : List Value} {h0_above_n : Nat} {h0_below_n : Nat} {l1 : Int32} {l2 : Int32} {h0_top : Int32} {out : Int32 × (Nat → Int32) × (Nat → Int32)} (hx : p.tables.exec = Jvm.exec) (hb : c.code = prog_5_method_13_code) (hr : meth.sig.returnType = (Option.some Jvm.ClassFile.FieldType.boolean)) (hml : c.maxLocals = 4) (hh : zH s) (hg : ∀ w ∈ lw_R, w.before args s = true) (hown : s.vm.findClass "ChanceArena$Machine" = some m.cls) (hlocks : meth.locks = false) (hK : va_K D vwCl (zT tA) s) (hA : ∀ q, s.heap.size ≤ q → A q) {n : Nat}  : ∀ (h0_above_c : Nat → Int32) (h0_below_c : Nat → Int32) (l3 : Int32) (H : Heap) (locs : List Loc) (ls : Array Slot), f_Ma_relate h0_above_n h0_below_n l1 l2 h0_top (n + 1) 2 h0_above_c h0_below_c l3 = some out → f0_h0[6]? = some (.ref h0_above) → f0_h0[7]? = some (.ref h0_below) → f0_h0[8]? = some (.int h0_top) → va_P D vwCl [(h0, .inr (4, f0_h0)), (h0_above, .inl (tA 0, h0_above_n, .inl h0_above_c)), (h0_below, .inl (tA 0, h0_below_n, .inl h0_below_c))] H → va_D A [(h0, .inr (4, f0_h0)), (h0_above, .inl (tA 0, h0_above_n, .inl h0_above_c)), (h0_below, .inl (tA 0, h0_below_n, .inl h0_below_c))] → va_S A s.heap H locs → lv_has ls 4 [(0, .ref h0), (1, .int l1), (2, .int l2), (3, .int l3)] → W p l e { frames := 0, cells := 0, slots := 0, locals := 0 } s m args below meth c H locs 0 0 (MQ below (va_Qi (fun (r9 : Int32) (u9 : Unit) => r9 = out.1) (zPost D A (fun (u9 : Unit) => [(h0, .inr (4, f0_h0)), (h0_above, .inl (tA 0, h0_above_n, .inl out.2.1)), (h0_below, .inl (tA 0, h0_below_n, .inl out.2.2))])) A) args s 0 0 A) (F0 m 191 ls []) := by
  intro h0_above_c h0_below_c l3   H locs ls hF q_h0_above q_h0_below q_h0_top hP hD hS hl
  rw [e_Ma_relate_2] at hF
  refine lv_aload_n hx hb d_Ma_relate_191 rfl (lv_at hl 0 rfl) ?_
  refine va_get (D := D) (ci := 4) (v := .ref h0_above) (C := R_Ma) (T := T_Ma) (N := 16) hx hb hg i_Ma hown hK hP 0 rfl rfl 6 (by decide) (hg _ k1_182) (fun _ h9 => h9) q_h0_above d_Ma_relate_192 ?_
  refine lv_aload_n hx hb d_Ma_relate_195 rfl (lv_at hl 0 rfl) ?_
  refine va_get (D := D) (ci := 4) (v := .int h0_top) (C := R_Ma) (T := T_Ma) (N := 16) hx hb hg i_Ma hown hK hP 0 rfl rfl 8 (by decide) (hg _ k1_188) (fun _ h9 => h9) q_h0_top d_Ma_relate_196 ?_
  refine lv_iconst (v := 1) hx hb d_Ma_relate_199 (by decide) ?_
  refine lv_isub hx hb d_Ma_relate_200 ?_
  refine lv_iload_n hx hb d_Ma_relate_201 rfl (lv_at hl 3 rfl) ?_
  refine lv_if_eq (tgt := 209) hx hb d_Ma_relate_202 (by decide) (fun c9 => ?_) (fun c9 => ?_)
  · replace hF := ifp c9 hF
    refine lv_iconst (v := 0) hx hb d_Ma_relate_209 (by decide) ?_
    obtain ⟨h9, hF⟩ := chk_some hF
    refine va_iast hx hb hK hP hD hS 1 0 rfl rfl (vp_in_iff.mpr h9) d_Ma_relate_210 (fun H1 locs1 hP1 hD1 hS1 => ?_)
    clear hP hD hS
    replace hP1 : va_P D vwCl [(h0, .inr (4, f0_h0)), (h0_above, .inl (tA 0, h0_above_n, .inl (upd h0_above_c ((h0_top - 1) : Int32).toNatClampNeg 0))), (h0_below, .inl (tA 0, h0_below_n, .inl h0_below_c))] _ := hP1
    replace hD1 : va_D A [(h0, .inr (4, f0_h0)), (h0_above, .inl (tA 0, h0_above_n, .inl (upd h0_above_c ((h0_top - 1) : Int32).toNatClampNeg 0))), (h0_below, .inl (tA 0, h0_below_n, .inl h0_below_c))] := hD1
    refine lv_aload_n hx hb d_Ma_relate_211 rfl (lv_at hl 0 rfl) ?_
    refine va_get (D := D) (ci := 4) (v := .ref h0_below) (C := R_Ma) (T := T_Ma) (N := 16) hx hb hg i_Ma hown hK hP1 0 rfl rfl 7 (by decide) (hg _ k1_185) (fun _ h9 => h9) q_h0_below d_Ma_relate_212 ?_
    refine lv_aload_n hx hb d_Ma_relate_215 rfl (lv_at hl 0 rfl) ?_
    refine va_get (D := D) (ci := 4) (v := .int h0_top) (C := R_Ma) (T := T_Ma) (N := 16) hx hb hg i_Ma hown hK hP1 0 rfl rfl 8 (by decide) (hg _ k1_188) (fun _ h9 => h9) q_h0_top d_Ma_relate_216 ?_
    refine lv_iconst (v := 1) hx hb d_Ma_relate_219 (by decide) ?_
    refine lv_isub hx hb d_Ma_relate_220 ?_
    refine lv_iconst (v := 1) hx hb d_Ma_relate_221 (by decide) ?_
    obtain ⟨h9, hF⟩ := chk_some hF
    refine va_iast hx hb hK hP1 hD1 hS1 2 0 rfl rfl (vp_in_iff.mpr h9) d_Ma_relate_222 (fun H2 locs2 hP2 hD2 hS2 => ?_)
    clear hP1 hD1 hS1
    replace hP2 : va_P D vwCl [(h0, .inr (4, f0_h0)), (h0_above, .inl (tA 0, h0_above_n, .inl (upd h0_above_c ((h0_top - 1) : Int32).toNatClampNeg 0))), (h0_below, .inl (tA 0, h0_below_n, .inl (upd h0_below_c ((h0_top - 1) : Int32).toNatClampNeg 1)))] _ := hP2
    replace hD2 : va_D A [(h0, .inr (4, f0_h0)), (h0_above, .inl (tA 0, h0_above_n, .inl (upd h0_above_c ((h0_top - 1) : Int32).toNatClampNeg 0))), (h0_below, .inl (tA 0, h0_below_n, .inl (upd h0_below_c ((h0_top - 1) : Int32).toNatClampNeg 1)))] := hD2
    refine lv_iconst (v := 1) hx hb d_Ma_relate_223 (by decide) ?_
    replace hF := Option.some.inj hF
    subst hF
    exact zZret (post := (fun (r9 : Int32) (u9 : Unit) => r9 = (1, upd h0_above_c ((h0_top - 1) : Int32).toNatClampNeg 0, upd h0_below_c ((h0_top - 1) : Int32).toNatClampNeg 1).1)) (W1 := (fun (u9 : Unit) => [(h0, .inr (4, f0_h0)), (h0_above, .inl (tA 0, h0_above_n, .inl ((1, upd h0_above_c ((h0_top - 1) : Int32).toNatClampNeg 0, upd h0_below_c ((h0_top - 1) : Int32).toNatClampNeg 1).2.1))), (h0_below, .inl (tA 0, h0_below_n, .inl ((1, upd h0_above_c ((h0_top - 1) : Int32).toNatClampNeg 0, upd h0_below_c ((h0_top - 1) : Int32).toNatClampNeg 1).2.2)))])) (v := 1) hx hb hr rfl hlocks hP2 hD2 hS2 () rfl rfl d_Ma_relate_224
  · replace hF := ifn c9 hF
    refine lv_iconst (v := 1) hx hb d_Ma_relate_205 (by decide) ?_
    refine lv_goto (tgt := 210) hx hb d_Ma_relate_206 (by decide) ?_
    obtain ⟨h9, hF⟩ := chk_some hF
    refine va_iast hx hb hK hP hD hS 1 0 rfl rfl (vp_in_iff.mpr h9) d_Ma_relate_210 (fun H1 locs1 hP1 hD1 hS1 => ?_)
    clear hP hD hS
    replace hP1 : va_P D vwCl [(h0, .inr (4, f0_h0)), (h0_above, .inl (tA 0, h0_above_n, .inl (upd h0_above_c ((h0_top - 1) : Int32).toNatClampNeg 1))), (h0_below, .inl (tA 0, h0_below_n, .inl h0_below_c))] _ := hP1
    replace hD1 : va_D A [(h0, .inr (4, f0_h0)), (h0_above, .inl (tA 0, h0_above_n, .inl (upd h0_above_c ((h0_top - 1) : Int32).toNatClampNeg 1))), (h0_below, .inl (tA 0, h0_below_n, .inl h0_below_c))] := hD1
    refine lv_aload_n hx hb d_Ma_relate_211 rfl (lv_at hl 0 rfl) ?_
    refine va_get (D := D) (ci := 4) (v := .ref h0_below) (C := R_Ma) (T := T_Ma) (N := 16) hx hb hg i_Ma hown hK hP1 0 rfl rfl 7 (by decide) (hg _ k1_185) (fun _ h9 => h9) q_h0_below d_Ma_relate_212 ?_
    refine lv_aload_n hx hb d_Ma_relate_215 rfl (lv_at hl 0 rfl) ?_
    refine va_get (D := D) (ci := 4) (v := .int h0_top) (C := R_Ma) (T := T_Ma) (N := 16) hx hb hg i_Ma hown hK hP1 0 rfl rfl 8 (by decide) (hg _ k1_188) (fun _ h9 => h9) q_h0_top d_Ma_relate_216 ?_
    refine lv_iconst (v := 1) hx hb d_Ma_relate_219 (by decide) ?_
    refine lv_isub hx hb d_Ma_relate_220 ?_
    refine lv_iconst (v := 1) hx hb d_Ma_relate_221 (by decide) ?_
    obtain ⟨h9, hF⟩ := chk_some hF
    refine va_iast hx hb hK hP1 hD1 hS1 2 0 rfl rfl (vp_in_iff.mpr h9) d_Ma_relate_222 (fun H2 locs2 hP2 hD2 hS2 => ?_)
    clear hP1 hD1 hS1
    replace hP2 : va_P D vwCl [(h0, .inr (4, f0_h0)), (h0_above, .inl (tA 0, h0_above_n, .inl (upd h0_above_c ((h0_top - 1) : Int32).toNatClampNeg 1))), (h0_below, .inl (tA 0, h0_below_n, .inl (upd h0_below_c ((h0_top - 1) : Int32).toNatClampNeg 1)))] _ := hP2
    replace hD2 : va_D A [(h0, .inr (4, f0_h0)), (h0_above, .inl (tA 0, h0_above_n, .inl (upd h0_above_c ((h0_top - 1) : Int32).toNatClampNeg 1))), (h0_below, .inl (tA 0, h0_below_n, .inl (upd h0_below_c ((h0_top - 1) : Int32).toNatClampNeg 1)))] := hD2
    refine lv_iconst (v := 1) hx hb d_Ma_relate_223 (by decide) ?_
    replace hF := Option.some.inj hF
    subst hF
    exact zZret (post := (fun (r9 : Int32) (u9 : Unit) => r9 = (1, upd h0_above_c ((h0_top - 1) : Int32).toNatClampNeg 1, upd h0_below_c ((h0_top - 1) : Int32).toNatClampNeg 1).1)) (W1 := (fun (u9 : Unit) => [(h0, .inr (4, f0_h0)), (h0_above, .inl (tA 0, h0_above_n, .inl ((1, upd h0_above_c ((h0_top - 1) : Int32).toNatClampNeg 1, upd h0_below_c ((h0_top - 1) : Int32).toNatClampNeg 1).2.1))), (h0_below, .inl (tA 0, h0_below_n, .inl ((1, upd h0_above_c ((h0_top - 1) : Int32).toNatClampNeg 1, upd h0_below_c ((h0_top - 1) : Int32).toNatClampNeg 1).2.2)))])) (v := 1) hx hb hr rfl hlocks hP2 hD2 hS2 () rfl rfl d_Ma_relate_224
set_option maxHeartbeats 4000000 in
set_option maxRecDepth 100000 in
theorem a_Ma_relate {p : Program} {l : Launch} {e : Env} {s : State} {m : MethodId} {args : Array Value} {below : List Frame} {meth : Method} {c : Code} {D : va_G} {tA : Nat → ClassId} {A : Nat → Prop} {h0 h0_above h0_below : Nat} {f0_h0 : List Value} {h0_above_n : Nat} {h0_below_n : Nat} {l1 : Int32} {l2 : Int32} {h0_top : Int32} {out : Int32 × (Nat → Int32) × (Nat → Int32)} (hx : p.tables.exec = Jvm.exec) (hb : c.code = prog_5_method_13_code) (hr : meth.sig.returnType = (Option.some Jvm.ClassFile.FieldType.boolean)) (hml : c.maxLocals = 4) (hh : zH s) (hg : ∀ w ∈ lw_R, w.before args s = true) (hown : s.vm.findClass "ChanceArena$Machine" = some m.cls) (hlocks : meth.locks = false) (hK : va_K D vwCl (zT tA) s) (hA : ∀ q, s.heap.size ≤ q → A q) : ∀ n : Nat, (∀ (h0_above_c : Nat → Int32) (h0_below_c : Nat → Int32) (l3 : Int32) (H : Heap) (locs : List Loc) (ls : Array Slot), f_Ma_relate h0_above_n h0_below_n l1 l2 h0_top n 0 h0_above_c h0_below_c l3 = some out → f0_h0[6]? = some (.ref h0_above) → f0_h0[7]? = some (.ref h0_below) → f0_h0[8]? = some (.int h0_top) → va_P D vwCl [(h0, .inr (4, f0_h0)), (h0_above, .inl (tA 0, h0_above_n, .inl h0_above_c)), (h0_below, .inl (tA 0, h0_below_n, .inl h0_below_c))] H → va_D A [(h0, .inr (4, f0_h0)), (h0_above, .inl (tA 0, h0_above_n, .inl h0_above_c)), (h0_below, .inl (tA 0, h0_below_n, .inl h0_below_c))] → va_S A s.heap H locs → lv_has ls 4 [(0, .ref h0), (1, .int l1), (2, .int l2)] → W p l e { frames := 0, cells := 0, slots := 0, locals := 0 } s m args below meth c H locs 0 0 (MQ below (va_Qi (fun (r9 : Int32) (u9 : Unit) => r9 = out.1) (zPost D A (fun (u9 : Unit) => [(h0, .inr (4, f0_h0)), (h0_above, .inl (tA 0, h0_above_n, .inl out.2.1)), (h0_below, .inl (tA 0, h0_below_n, .inl out.2.2))])) A) args s 0 0 A) (F0 m 0 ls [])) ∧ (∀ (h0_above_c : Nat → Int32) (h0_below_c : Nat → Int32) (l3 : Int32) (H : Heap) (locs : List Loc) (ls : Array Slot), f_Ma_relate h0_above_n h0_below_n l1 l2 h0_top n 1 h0_above_c h0_below_c l3 = some out → f0_h0[6]? = some (.ref h0_above) → f0_h0[7]? = some (.ref h0_below) → f0_h0[8]? = some (.int h0_top) → va_P D vwCl [(h0, .inr (4, f0_h0)), (h0_above, .inl (tA 0, h0_above_n, .inl h0_above_c)), (h0_below, .inl (tA 0, h0_below_n, .inl h0_below_c))] H → va_D A [(h0, .inr (4, f0_h0)), (h0_above, .inl (tA 0, h0_above_n, .inl h0_above_c)), (h0_below, .inl (tA 0, h0_below_n, .inl h0_below_c))] → va_S A s.heap H locs → lv_has ls 4 [(0, .ref h0), (1, .int l1), (2, .int l2)] → W p l e { frames := 0, cells := 0, slots := 0, locals := 0 } s m args below meth c H locs 0 0 (MQ below (va_Qi (fun (r9 : Int32) (u9 : Unit) => r9 = out.1) (zPost D A (fun (u9 : Unit) => [(h0, .inr (4, f0_h0)), (h0_above, .inl (tA 0, h0_above_n, .inl out.2.1)), (h0_below, .inl (tA 0, h0_below_n, .inl out.2.2))])) A) args s 0 0 A) (F0 m 12 ls [])) ∧ (∀ (h0_above_c : Nat → Int32) (h0_below_c : Nat → Int32) (l3 : Int32) (H : Heap) (locs : List Loc) (ls : Array Slot), f_Ma_relate h0_above_n h0_below_n l1 l2 h0_top n 2 h0_above_c h0_below_c l3 = some out → f0_h0[6]? = some (.ref h0_above) → f0_h0[7]? = some (.ref h0_below) → f0_h0[8]? = some (.int h0_top) → va_P D vwCl [(h0, .inr (4, f0_h0)), (h0_above, .inl (tA 0, h0_above_n, .inl h0_above_c)), (h0_below, .inl (tA 0, h0_below_n, .inl h0_below_c))] H → va_D A [(h0, .inr (4, f0_h0)), (h0_above, .inl (tA 0, h0_above_n, .inl h0_above_c)), (h0_below, .inl (tA 0, h0_below_n, .inl h0_below_c))] → va_S A s.heap H locs → lv_has ls 4 [(0, .ref h0), (1, .int l1), (2, .int l2), (3, .int l3)] → W p l e { frames := 0, cells := 0, slots := 0, locals := 0 } s m args below meth c H locs 0 0 (MQ below (va_Qi (fun (r9 : Int32) (u9 : Unit) => r9 = out.1) (zPost D A (fun (u9 : Unit) => [(h0, .inr (4, f0_h0)), (h0_above, .inl (tA 0, h0_above_n, .inl out.2.1)), (h0_below, .inl (tA 0, h0_below_n, .inl out.2.2))])) A) args s 0 0 A) (F0 m 191 ls [])) := by
  intro n
  induction n with
  | zero => exact ⟨(fun _ _ _ _ _ _ hF => by rw [z_Ma_relate] at hF; cases hF), (fun _ _ _ _ _ _ hF => by rw [z_Ma_relate] at hF; cases hF), (fun _ _ _ _ _ _ hF => by rw [z_Ma_relate] at hF; cases hF)⟩
  | succ n ih =>
    obtain ⟨i0, i1, i2⟩ := ih
    exact ⟨b_Ma_relate_0 hx hb hr hml hh hg hown hlocks hK hA i1 i2, b_Ma_relate_1 hx hb hr hml hh hg hown hlocks hK hA , b_Ma_relate_2 hx hb hr hml hh hg hown hlocks hK hA ⟩
set_option maxHeartbeats 4000000 in
set_option maxRecDepth 100000 in
theorem m_Ma_relate (l : Launch) (D : va_G) (tA : Nat → ClassId) (sz : Nat) (h0 h0_above h0_below : Nat) (f0_h0 : List Value) (h0_above_n : Nat) (h0_below_n : Nat) (l1 : Int32) (l2 : Int32) (h0_top : Int32) (h0_above_c : Nat → Int32) (h0_below_c : Nat → Int32) (q_h0_above : f0_h0[6]? = some (.ref h0_above)) (q_h0_below : f0_h0[7]? = some (.ref h0_below)) (q_h0_top : f0_h0[8]? = some (.int h0_top)) (n : Nat) (out : Int32 × (Nat → Int32) × (Nat → Int32)) (hF : f_Ma_relate h0_above_n h0_below_n l1 l2 h0_top n 0 h0_above_c h0_below_c 0 = some out) : zMi l ({ cls := "ChanceArena$Machine", name := "relate", desc := "(II)Z" } : Jvm.MethodName) (zW (Jvm.Cond.code ({ cls := "ChanceArena$Machine", name := "relate", desc := "(II)Z" } : Jvm.MethodName) prog_5_method_13_code (4 : Nat) (Option.some Jvm.ClassFile.FieldType.boolean))) { frames := 0, cells := 0, slots := 0, locals := 0 } [.ref h0, .int l1, .int l2] D tA [(h0, .inr (4, f0_h0)), (h0_above, .inl (tA 0, h0_above_n, .inl h0_above_c)), (h0_below, .inl (tA 0, h0_below_n, .inl h0_below_c))] sz (fun (r9 : Int32) (u9 : Unit) => r9 = out.1) (fun (u9 : Unit) => [(h0, .inr (4, f0_h0)), (h0_above, .inl (tA 0, h0_above_n, .inl out.2.1)), (h0_below, .inl (tA 0, h0_below_n, .inl out.2.2))]) 0 0 := by
  refine zOpen (l := l) (y := ({ cls := "ChanceArena$Machine", name := "relate", desc := "(II)Z" } : Jvm.MethodName)) (ws := zW (Jvm.Cond.code ({ cls := "ChanceArena$Machine", name := "relate", desc := "(II)Z" } : Jvm.MethodName) prog_5_method_13_code (4 : Nat) (Option.some Jvm.ClassFile.FieldType.boolean))) (rm := { frames := 0, cells := 0, slots := 0, locals := 0 }) (av := [.ref h0, .int l1, .int l2]) (D := D) (tA := tA) (W0 := [(h0, .inr (4, f0_h0)), (h0_above, .inl (tA 0, h0_above_n, .inl h0_above_c)), (h0_below, .inl (tA 0, h0_below_n, .inl h0_below_c))]) (Wm := [(h0, .inr (4, f0_h0)), (h0_above, .inl (tA 0, h0_above_n, .inl h0_above_c)), (h0_below, .inl (tA 0, h0_below_n, .inl h0_below_c))]) (sz := sz) (mc := 0) (ms := 0) (fun A => va_Qi (fun (r9 : Int32) (u9 : Unit) => r9 = out.1) (zPost D A (fun (u9 : Unit) => [(h0, .inr (4, f0_h0)), (h0_above, .inl (tA 0, h0_above_n, .inl out.2.1)), (h0_below, .inl (tA 0, h0_below_n, .inl out.2.2))])) A) (lv := [(0, .ref h0), (1, .int l1), (2, .int l2)]) (by decide) rfl (Nat.le_of_ble_eq_true rfl) rfl ?_
  intro p e s m below meth c A ls hx hb hr hml hh hg hown hlocks hnm hK hA hP hD0 hAw hS hl
  have hD := zD hD0 hAw
  exact (a_Ma_relate hx hb hr hml hh hg hown hlocks hK hA n).1 h0_above_c h0_below_c 0   _ _ _ hF q_h0_above q_h0_below q_h0_top hP hD hS hl
def f_Na_trim (h0_limbs_n : Nat) (l1 : Int32) (h0_limbs_c : Nat → Int32) : Nat → Nat → Int32 → Option (Int32)
  | 0, _, _ => none
  | n + 1, 0, h0_size => chk True (f_Na_trim h0_limbs_n l1 h0_limbs_c n 1 l1)
  | n + 1, 1, h0_size => if (h0_size : Int32) ≤ 0 then some (h0_size) else chk (0 ≤ ((h0_size - 1) : Int32).toInt ∧ ((h0_size - 1) : Int32).toInt < h0_limbs_n) (if ¬ ((h0_limbs_c ((h0_size - 1) : Int32).toNatClampNeg) : Int32) = 0 then some (h0_size) else f_Na_trim h0_limbs_n l1 h0_limbs_c n 1 (h0_size - 1))
  | _ + 1, _ + 2, _ => none
theorem e_Na_trim_0 (h0_limbs_n : Nat) (l1 : Int32) (h0_limbs_c : Nat → Int32) (n : Nat) (h0_size : Int32) : f_Na_trim h0_limbs_n l1 h0_limbs_c (n + 1) 0 h0_size = chk True (f_Na_trim h0_limbs_n l1 h0_limbs_c n 1 l1) := by rw [f_Na_trim]
theorem e_Na_trim_1 (h0_limbs_n : Nat) (l1 : Int32) (h0_limbs_c : Nat → Int32) (n : Nat) (h0_size : Int32) : f_Na_trim h0_limbs_n l1 h0_limbs_c (n + 1) 1 h0_size = if (h0_size : Int32) ≤ 0 then some (h0_size) else chk (0 ≤ ((h0_size - 1) : Int32).toInt ∧ ((h0_size - 1) : Int32).toInt < h0_limbs_n) (if ¬ ((h0_limbs_c ((h0_size - 1) : Int32).toNatClampNeg) : Int32) = 0 then some (h0_size) else f_Na_trim h0_limbs_n l1 h0_limbs_c n 1 (h0_size - 1)) := by rw [f_Na_trim]
theorem z_Na_trim (h0_limbs_n : Nat) (l1 : Int32) (h0_limbs_c : Nat → Int32) (h : Nat) (h0_size : Int32) : f_Na_trim h0_limbs_n l1 h0_limbs_c 0 h h0_size = none := by rw [f_Na_trim]
set_option maxHeartbeats 4000000 in
set_option maxRecDepth 100000 in
theorem b_Na_trim_0 {p : Program} {l : Launch} {e : Env} {s : State} {m : MethodId} {args : Array Value} {below : List Frame} {meth : Method} {c : Code} {D : va_G} {tA : Nat → ClassId} {A : Nat → Prop} {h0 h0_limbs : Nat} {f0_h0 : List Value} {h0_limbs_n : Nat} {l1 : Int32} {h0_limbs_c : Nat → Int32} {out : Int32} (hx : p.tables.exec = Jvm.exec) (hb : c.code = prog_6_method_3_code) (hr : meth.sig.returnType = (Option.none : Option Jvm.ClassFile.FieldType)) (hml : c.maxLocals = 2) (hh : zH s) (hg : ∀ w ∈ lw_R, w.before args s = true) (hown : s.vm.findClass "ChanceArena$Natural" = some m.cls) (hlocks : meth.locks = false) (hK : va_K D vwCl (zT tA) s) (hA : ∀ q, s.heap.size ≤ q → A q) {n : Nat} (ih1 : ∀ (h0_size : Int32) (f_h0 : List Value) (H : Heap) (locs : List Loc) (ls : Array Slot), f_Na_trim h0_limbs_n l1 h0_limbs_c n 1 h0_size = some out → f_h0[0]? = some (.ref h0_limbs) → f_h0[1]? = some (.int h0_size) → Fr [1] f0_h0 f_h0 → va_P D vwCl [(h0, .inr (9, f_h0)), (h0_limbs, .inl (tA 0, h0_limbs_n, .inl h0_limbs_c))] H → va_D A [(h0, .inr (9, f_h0)), (h0_limbs, .inl (tA 0, h0_limbs_n, .inl h0_limbs_c))] → va_S A s.heap H locs → lv_has ls 2 [(0, .ref h0), (1, .int l1)] → W p l e { frames := 0, cells := 0, slots := 0, locals := 0 } s m args below meth c H locs 0 0 (MQ below (va_Qv (fun (u9 : List Value) => Fr [1] f0_h0 u9 ∧ u9[1]? = some (.int out)) (zPost D A (fun (u9 : List Value) => [(h0, .inr (9, u9)), (h0_limbs, .inl (tA 0, h0_limbs_n, .inl h0_limbs_c))])) A) args s 0 0 A) (F0 m 5 ls [])) : ∀ (h0_size : Int32) (f_h0 : List Value) (H : Heap) (locs : List Loc) (ls : Array Slot), f_Na_trim h0_limbs_n l1 h0_limbs_c (n + 1) 0 h0_size = some out → f_h0[0]? = some (.ref h0_limbs) → f_h0[1]? = some (.int h0_size) → Fr [1] f0_h0 f_h0 → va_P D vwCl [(h0, .inr (9, f_h0)), (h0_limbs, .inl (tA 0, h0_limbs_n, .inl h0_limbs_c))] H → va_D A [(h0, .inr (9, f_h0)), (h0_limbs, .inl (tA 0, h0_limbs_n, .inl h0_limbs_c))] → va_S A s.heap H locs → lv_has ls 2 [(0, .ref h0), (1, .int l1)] → W p l e { frames := 0, cells := 0, slots := 0, locals := 0 } s m args below meth c H locs 0 0 (MQ below (va_Qv (fun (u9 : List Value) => Fr [1] f0_h0 u9 ∧ u9[1]? = some (.int out)) (zPost D A (fun (u9 : List Value) => [(h0, .inr (9, u9)), (h0_limbs, .inl (tA 0, h0_limbs_n, .inl h0_limbs_c))])) A) args s 0 0 A) (F0 m 0 ls []) := by
  intro h0_size  f_h0 H locs ls hF q_h0_limbs q_h0_size r_h0 hP hD hS hl
  rw [e_Na_trim_0] at hF
  obtain ⟨_, hF⟩ := chk_some hF
  refine lv_aload_n hx hb d_Na_trim_0 rfl (lv_at hl 0 rfl) ?_
  refine lv_iload_n hx hb d_Na_trim_1 rfl (lv_at hl 1 rfl) ?_
  refine va_put (D := D) (ci := 9) (v := .int l1) (ty := .int) (C := R_Na) (T := T_Na) (N := 2) hx hb hg i_Na t_Na o_Na n_Na hown hK hP hD hS 0 rfl rfl 1 (by decide) (hg _ k3_1) (fun _ h9 => h9) rfl (by decide +kernel) rfl rfl (zLen q_h0_size) d_Na_trim_2 (fun H1 locs1 hP1 hD1 hS1 => ?_)
  clear hP hD hS
  replace hP1 : va_P D vwCl [(h0, .inr (9, f_h0.set 1 (.int l1))), (h0_limbs, .inl (tA 0, h0_limbs_n, .inl h0_limbs_c))] _ := hP1
  replace hD1 : va_D A [(h0, .inr (9, f_h0.set 1 (.int l1))), (h0_limbs, .inl (tA 0, h0_limbs_n, .inl h0_limbs_c))] := hD1
  exact ih1 l1  (f_h0.set 1 (.int l1)) _ _ _ hF (zSetN (by decide) q_h0_limbs) (zSetS q_h0_size) (Fr.set r_h0 (by decide)) hP1 hD1 hS1 (lv_sub hl [0, 1] rfl)
set_option maxHeartbeats 4000000 in
set_option maxRecDepth 100000 in
theorem b_Na_trim_1 {p : Program} {l : Launch} {e : Env} {s : State} {m : MethodId} {args : Array Value} {below : List Frame} {meth : Method} {c : Code} {D : va_G} {tA : Nat → ClassId} {A : Nat → Prop} {h0 h0_limbs : Nat} {f0_h0 : List Value} {h0_limbs_n : Nat} {l1 : Int32} {h0_limbs_c : Nat → Int32} {out : Int32} (hx : p.tables.exec = Jvm.exec) (hb : c.code = prog_6_method_3_code) (hr : meth.sig.returnType = (Option.none : Option Jvm.ClassFile.FieldType)) (hml : c.maxLocals = 2) (hh : zH s) (hg : ∀ w ∈ lw_R, w.before args s = true) (hown : s.vm.findClass "ChanceArena$Natural" = some m.cls) (hlocks : meth.locks = false) (hK : va_K D vwCl (zT tA) s) (hA : ∀ q, s.heap.size ≤ q → A q) {n : Nat} (ih1 : ∀ (h0_size : Int32) (f_h0 : List Value) (H : Heap) (locs : List Loc) (ls : Array Slot), f_Na_trim h0_limbs_n l1 h0_limbs_c n 1 h0_size = some out → f_h0[0]? = some (.ref h0_limbs) → f_h0[1]? = some (.int h0_size) → Fr [1] f0_h0 f_h0 → va_P D vwCl [(h0, .inr (9, f_h0)), (h0_limbs, .inl (tA 0, h0_limbs_n, .inl h0_limbs_c))] H → va_D A [(h0, .inr (9, f_h0)), (h0_limbs, .inl (tA 0, h0_limbs_n, .inl h0_limbs_c))] → va_S A s.heap H locs → lv_has ls 2 [(0, .ref h0), (1, .int l1)] → W p l e { frames := 0, cells := 0, slots := 0, locals := 0 } s m args below meth c H locs 0 0 (MQ below (va_Qv (fun (u9 : List Value) => Fr [1] f0_h0 u9 ∧ u9[1]? = some (.int out)) (zPost D A (fun (u9 : List Value) => [(h0, .inr (9, u9)), (h0_limbs, .inl (tA 0, h0_limbs_n, .inl h0_limbs_c))])) A) args s 0 0 A) (F0 m 5 ls [])) : ∀ (h0_size : Int32) (f_h0 : List Value) (H : Heap) (locs : List Loc) (ls : Array Slot), f_Na_trim h0_limbs_n l1 h0_limbs_c (n + 1) 1 h0_size = some out → f_h0[0]? = some (.ref h0_limbs) → f_h0[1]? = some (.int h0_size) → Fr [1] f0_h0 f_h0 → va_P D vwCl [(h0, .inr (9, f_h0)), (h0_limbs, .inl (tA 0, h0_limbs_n, .inl h0_limbs_c))] H → va_D A [(h0, .inr (9, f_h0)), (h0_limbs, .inl (tA 0, h0_limbs_n, .inl h0_limbs_c))] → va_S A s.heap H locs → lv_has ls 2 [(0, .ref h0), (1, .int l1)] → W p l e { frames := 0, cells := 0, slots := 0, locals := 0 } s m args below meth c H locs 0 0 (MQ below (va_Qv (fun (u9 : List Value) => Fr [1] f0_h0 u9 ∧ u9[1]? = some (.int out)) (zPost D A (fun (u9 : List Value) => [(h0, .inr (9, u9)), (h0_limbs, .inl (tA 0, h0_limbs_n, .inl h0_limbs_c))])) A) args s 0 0 A) (F0 m 5 ls []) := by
  intro h0_size  f_h0 H locs ls hF q_h0_limbs q_h0_size r_h0 hP hD hS hl
  rw [e_Na_trim_1] at hF
  refine lv_aload_n hx hb d_Na_trim_5 rfl (lv_at hl 0 rfl) ?_
  refine va_get (D := D) (ci := 9) (v := .int h0_size) (C := R_Na) (T := T_Na) (N := 2) hx hb hg i_Na hown hK hP 0 rfl rfl 1 (by decide) (hg _ k3_1) (fun _ h9 => h9) q_h0_size d_Na_trim_6 ?_
  refine lv_if_le (tgt := 39) hx hb d_Na_trim_9 (by decide) (fun c9 => ?_) (fun c9 => ?_)
  · replace hF := ifp c9 hF
    replace hF := Option.some.inj hF
    subst hF
    exact zVret (post := (fun (u9 : List Value) => Fr [1] f0_h0 u9 ∧ u9[1]? = some (.int (h0_size)))) (W1 := (fun (u9 : List Value) => [(h0, .inr (9, u9)), (h0_limbs, .inl (tA 0, h0_limbs_n, .inl h0_limbs_c))])) hx hb hr hlocks hP hD hS (f_h0) ⟨r_h0, q_h0_size⟩ rfl d_Na_trim_39
  · replace hF := ifn c9 hF
    refine lv_aload_n hx hb d_Na_trim_12 rfl (lv_at hl 0 rfl) ?_
    refine va_get (D := D) (ci := 9) (v := .ref h0_limbs) (C := R_Na) (T := T_Na) (N := 2) hx hb hg i_Na hown hK hP 0 rfl rfl 0 (by decide) (hg _ k2_239) (fun _ h9 => h9) q_h0_limbs d_Na_trim_13 ?_
    refine lv_aload_n hx hb d_Na_trim_16 rfl (lv_at hl 0 rfl) ?_
    refine va_get (D := D) (ci := 9) (v := .int h0_size) (C := R_Na) (T := T_Na) (N := 2) hx hb hg i_Na hown hK hP 0 rfl rfl 1 (by decide) (hg _ k3_1) (fun _ h9 => h9) q_h0_size d_Na_trim_17 ?_
    refine lv_iconst (v := 1) hx hb d_Na_trim_20 (by decide) ?_
    refine lv_isub hx hb d_Na_trim_21 ?_
    obtain ⟨h9, hF⟩ := chk_some hF
    refine va_iald hx hb hK hP 1 0 rfl rfl (vp_in_iff.mpr h9) d_Na_trim_22 ?_
    refine lv_if_ne (tgt := 39) hx hb d_Na_trim_23 (by decide) (fun c9 => ?_) (fun c9 => ?_)
    · replace hF := ifp c9 hF
      replace hF := Option.some.inj hF
      subst hF
      exact zVret (post := (fun (u9 : List Value) => Fr [1] f0_h0 u9 ∧ u9[1]? = some (.int (h0_size)))) (W1 := (fun (u9 : List Value) => [(h0, .inr (9, u9)), (h0_limbs, .inl (tA 0, h0_limbs_n, .inl h0_limbs_c))])) hx hb hr hlocks hP hD hS (f_h0) ⟨r_h0, q_h0_size⟩ rfl d_Na_trim_39
    · replace hF := ifn (fun h9 => h9 c9) hF
      refine lv_aload_n hx hb d_Na_trim_26 rfl (lv_at hl 0 rfl) ?_
      refine lv_dup hx hb d_Na_trim_27 rfl ?_
      refine va_get (D := D) (ci := 9) (v := .int h0_size) (C := R_Na) (T := T_Na) (N := 2) hx hb hg i_Na hown hK hP 0 rfl rfl 1 (by decide) (hg _ k3_1) (fun _ h9 => h9) q_h0_size d_Na_trim_28 ?_
      refine lv_iconst (v := 1) hx hb d_Na_trim_31 (by decide) ?_
      refine lv_isub hx hb d_Na_trim_32 ?_
      refine va_put (D := D) (ci := 9) (v := .int (h0_size - 1)) (ty := .int) (C := R_Na) (T := T_Na) (N := 2) hx hb hg i_Na t_Na o_Na n_Na hown hK hP hD hS 0 rfl rfl 1 (by decide) (hg _ k3_1) (fun _ h9 => h9) rfl (by decide +kernel) rfl rfl (zLen q_h0_size) d_Na_trim_33 (fun H1 locs1 hP1 hD1 hS1 => ?_)
      clear hP hD hS
      replace hP1 : va_P D vwCl [(h0, .inr (9, f_h0.set 1 (.int (h0_size - 1)))), (h0_limbs, .inl (tA 0, h0_limbs_n, .inl h0_limbs_c))] _ := hP1
      replace hD1 : va_D A [(h0, .inr (9, f_h0.set 1 (.int (h0_size - 1)))), (h0_limbs, .inl (tA 0, h0_limbs_n, .inl h0_limbs_c))] := hD1
      refine lv_goto (tgt := 5) hx hb d_Na_trim_36 (by decide) ?_
      exact ih1 (h0_size - 1)  (f_h0.set 1 (.int (h0_size - 1))) _ _ _ hF (zSetN (by decide) q_h0_limbs) (zSetS q_h0_size) (Fr.set r_h0 (by decide)) hP1 hD1 hS1 (lv_sub hl [0, 1] rfl)
set_option maxHeartbeats 4000000 in
set_option maxRecDepth 100000 in
theorem a_Na_trim {p : Program} {l : Launch} {e : Env} {s : State} {m : MethodId} {args : Array Value} {below : List Frame} {meth : Method} {c : Code} {D : va_G} {tA : Nat → ClassId} {A : Nat → Prop} {h0 h0_limbs : Nat} {f0_h0 : List Value} {h0_limbs_n : Nat} {l1 : Int32} {h0_limbs_c : Nat → Int32} {out : Int32} (hx : p.tables.exec = Jvm.exec) (hb : c.code = prog_6_method_3_code) (hr : meth.sig.returnType = (Option.none : Option Jvm.ClassFile.FieldType)) (hml : c.maxLocals = 2) (hh : zH s) (hg : ∀ w ∈ lw_R, w.before args s = true) (hown : s.vm.findClass "ChanceArena$Natural" = some m.cls) (hlocks : meth.locks = false) (hK : va_K D vwCl (zT tA) s) (hA : ∀ q, s.heap.size ≤ q → A q) : ∀ n : Nat, (∀ (h0_size : Int32) (f_h0 : List Value) (H : Heap) (locs : List Loc) (ls : Array Slot), f_Na_trim h0_limbs_n l1 h0_limbs_c n 0 h0_size = some out → f_h0[0]? = some (.ref h0_limbs) → f_h0[1]? = some (.int h0_size) → Fr [1] f0_h0 f_h0 → va_P D vwCl [(h0, .inr (9, f_h0)), (h0_limbs, .inl (tA 0, h0_limbs_n, .inl h0_limbs_c))] H → va_D A [(h0, .inr (9, f_h0)), (h0_limbs, .inl (tA 0, h0_limbs_n, .inl h0_limbs_c))] → va_S A s.heap H locs → lv_has ls 2 [(0, .ref h0), (1, .int l1)] → W p l e { frames := 0, cells := 0, slots := 0, locals := 0 } s m args below meth c H locs 0 0 (MQ below (va_Qv (fun (u9 : List Value) => Fr [1] f0_h0 u9 ∧ u9[1]? = some (.int out)) (zPost D A (fun (u9 : List Value) => [(h0, .inr (9, u9)), (h0_limbs, .inl (tA 0, h0_limbs_n, .inl h0_limbs_c))])) A) args s 0 0 A) (F0 m 0 ls [])) ∧ (∀ (h0_size : Int32) (f_h0 : List Value) (H : Heap) (locs : List Loc) (ls : Array Slot), f_Na_trim h0_limbs_n l1 h0_limbs_c n 1 h0_size = some out → f_h0[0]? = some (.ref h0_limbs) → f_h0[1]? = some (.int h0_size) → Fr [1] f0_h0 f_h0 → va_P D vwCl [(h0, .inr (9, f_h0)), (h0_limbs, .inl (tA 0, h0_limbs_n, .inl h0_limbs_c))] H → va_D A [(h0, .inr (9, f_h0)), (h0_limbs, .inl (tA 0, h0_limbs_n, .inl h0_limbs_c))] → va_S A s.heap H locs → lv_has ls 2 [(0, .ref h0), (1, .int l1)] → W p l e { frames := 0, cells := 0, slots := 0, locals := 0 } s m args below meth c H locs 0 0 (MQ below (va_Qv (fun (u9 : List Value) => Fr [1] f0_h0 u9 ∧ u9[1]? = some (.int out)) (zPost D A (fun (u9 : List Value) => [(h0, .inr (9, u9)), (h0_limbs, .inl (tA 0, h0_limbs_n, .inl h0_limbs_c))])) A) args s 0 0 A) (F0 m 5 ls [])) := by
  intro n
  induction n with
  | zero => exact ⟨(fun _ _ _ _ _ hF => by rw [z_Na_trim] at hF; cases hF), (fun _ _ _ _ _ hF => by rw [z_Na_trim] at hF; cases hF)⟩
  | succ n ih =>
    obtain ⟨i0, i1⟩ := ih
    exact ⟨b_Na_trim_0 hx hb hr hml hh hg hown hlocks hK hA i1, b_Na_trim_1 hx hb hr hml hh hg hown hlocks hK hA i1⟩
set_option maxHeartbeats 4000000 in
set_option maxRecDepth 100000 in
theorem m_Na_trim (l : Launch) (D : va_G) (tA : Nat → ClassId) (sz : Nat) (h0 h0_limbs : Nat) (f0_h0 : List Value) (h0_limbs_n : Nat) (l1 : Int32) (h0_limbs_c : Nat → Int32) (h0_size : Int32) (q_h0_limbs : f0_h0[0]? = some (.ref h0_limbs)) (q_h0_size : f0_h0[1]? = some (.int h0_size)) (n : Nat) (out : Int32) (hF : f_Na_trim h0_limbs_n l1 h0_limbs_c n 0 h0_size = some out) : zMv l ({ cls := "ChanceArena$Natural", name := "trim", desc := "(I)V" } : Jvm.MethodName) (zW (Jvm.Cond.code ({ cls := "ChanceArena$Natural", name := "trim", desc := "(I)V" } : Jvm.MethodName) prog_6_method_3_code (2 : Nat) (Option.none : Option Jvm.ClassFile.FieldType))) { frames := 0, cells := 0, slots := 0, locals := 0 } [.ref h0, .int l1] D tA [(h0, .inr (9, f0_h0)), (h0_limbs, .inl (tA 0, h0_limbs_n, .inl h0_limbs_c))] sz (fun (u9 : List Value) => Fr [1] f0_h0 u9 ∧ u9[1]? = some (.int out)) (fun (u9 : List Value) => [(h0, .inr (9, u9)), (h0_limbs, .inl (tA 0, h0_limbs_n, .inl h0_limbs_c))]) 0 0 := by
  refine zOpen (l := l) (y := ({ cls := "ChanceArena$Natural", name := "trim", desc := "(I)V" } : Jvm.MethodName)) (ws := zW (Jvm.Cond.code ({ cls := "ChanceArena$Natural", name := "trim", desc := "(I)V" } : Jvm.MethodName) prog_6_method_3_code (2 : Nat) (Option.none : Option Jvm.ClassFile.FieldType))) (rm := { frames := 0, cells := 0, slots := 0, locals := 0 }) (av := [.ref h0, .int l1]) (D := D) (tA := tA) (W0 := [(h0, .inr (9, f0_h0)), (h0_limbs, .inl (tA 0, h0_limbs_n, .inl h0_limbs_c))]) (Wm := [(h0, .inr (9, f0_h0)), (h0_limbs, .inl (tA 0, h0_limbs_n, .inl h0_limbs_c))]) (sz := sz) (mc := 0) (ms := 0) (fun A => va_Qv (fun (u9 : List Value) => Fr [1] f0_h0 u9 ∧ u9[1]? = some (.int out)) (zPost D A (fun (u9 : List Value) => [(h0, .inr (9, u9)), (h0_limbs, .inl (tA 0, h0_limbs_n, .inl h0_limbs_c))])) A) (lv := [(0, .ref h0), (1, .int l1)]) (by decide) rfl (Nat.le_of_ble_eq_true rfl) rfl ?_
  intro p e s m below meth c A ls hx hb hr hml hh hg hown hlocks hnm hK hA hP hD0 hAw hS hl
  have hD := zD hD0 hAw
  exact (a_Na_trim hx hb hr hml hh hg hown hlocks hK hA n).1 h0_size  f0_h0 _ _ _ hF q_h0_limbs q_h0_size Fr.rfl hP hD hS hl
def f_Na_put0 (h0_limbs_n : Nat) (l1 : Int32) (h0_size : Int32) (h0_limbs_c : Nat → Int32) : Option (Int32 × (Nat → Int32)) := chk (0 ≤ (0 : Int32).toInt ∧ (0 : Int32).toInt < h0_limbs_n) (if ¬ (l1 : Int32) = 0 then some (1, upd h0_limbs_c (0 : Int32).toNatClampNeg l1) else some (0, upd h0_limbs_c (0 : Int32).toNatClampNeg l1))
set_option maxHeartbeats 4000000 in
set_option maxRecDepth 100000 in
theorem b_Na_put0_0 {p : Program} {l : Launch} {e : Env} {s : State} {m : MethodId} {args : Array Value} {below : List Frame} {meth : Method} {c : Code} {D : va_G} {tA : Nat → ClassId} {A : Nat → Prop} {h0 h0_limbs : Nat} {f0_h0 : List Value} {h0_limbs_n : Nat} {l1 : Int32} {h0_size : Int32} {h0_limbs_c : Nat → Int32} {out : Int32 × (Nat → Int32)} (hx : p.tables.exec = Jvm.exec) (hb : c.code = prog_6_method_4_code) (hr : meth.sig.returnType = (Option.none : Option Jvm.ClassFile.FieldType)) (hml : c.maxLocals = 2) (hh : zH s) (hg : ∀ w ∈ lw_R, w.before args s = true) (hown : s.vm.findClass "ChanceArena$Natural" = some m.cls) (hlocks : meth.locks = false) (hK : va_K D vwCl (zT tA) s) (hA : ∀ q, s.heap.size ≤ q → A q)  : ∀ (f_h0 : List Value) (H : Heap) (locs : List Loc) (ls : Array Slot), f_Na_put0 h0_limbs_n l1 h0_size h0_limbs_c = some out → f_h0[0]? = some (.ref h0_limbs) → f_h0[1]? = some (.int h0_size) → Fr [1] f0_h0 f_h0 → va_P D vwCl [(h0, .inr (9, f_h0)), (h0_limbs, .inl (tA 0, h0_limbs_n, .inl h0_limbs_c))] H → va_D A [(h0, .inr (9, f_h0)), (h0_limbs, .inl (tA 0, h0_limbs_n, .inl h0_limbs_c))] → va_S A s.heap H locs → lv_has ls 2 [(0, .ref h0), (1, .int l1)] → W p l e { frames := 0, cells := 0, slots := 0, locals := 0 } s m args below meth c H locs 0 0 (MQ below (va_Qv (fun (u9 : List Value) => Fr [1] f0_h0 u9 ∧ u9[1]? = some (.int out.1)) (zPost D A (fun (u9 : List Value) => [(h0, .inr (9, u9)), (h0_limbs, .inl (tA 0, h0_limbs_n, .inl out.2))])) A) args s 0 0 A) (F0 m 0 ls []) := by
  intro   f_h0 H locs ls hF q_h0_limbs q_h0_size r_h0 hP hD hS hl
  replace hF : ((chk (0 ≤ (0 : Int32).toInt ∧ (0 : Int32).toInt < h0_limbs_n) (if ¬ (l1 : Int32) = 0 then some (1, upd h0_limbs_c (0 : Int32).toNatClampNeg l1) else some (0, upd h0_limbs_c (0 : Int32).toNatClampNeg l1))) : Option (Int32 × (Nat → Int32))) = some out := hF
  refine lv_aload_n hx hb d_Na_put0_0 rfl (lv_at hl 0 rfl) ?_
  refine va_get (D := D) (ci := 9) (v := .ref h0_limbs) (C := R_Na) (T := T_Na) (N := 2) hx hb hg i_Na hown hK hP 0 rfl rfl 0 (by decide) (hg _ k2_239) (fun _ h9 => h9) q_h0_limbs d_Na_put0_1 ?_
  refine lv_iconst (v := 0) hx hb d_Na_put0_4 (by decide) ?_
  refine lv_iload_n hx hb d_Na_put0_5 rfl (lv_at hl 1 rfl) ?_
  obtain ⟨h9, hF⟩ := chk_some hF
  refine va_iast hx hb hK hP hD hS 1 0 rfl rfl (vp_in_iff.mpr h9) d_Na_put0_6 (fun H1 locs1 hP1 hD1 hS1 => ?_)
  clear hP hD hS
  replace hP1 : va_P D vwCl [(h0, .inr (9, f_h0)), (h0_limbs, .inl (tA 0, h0_limbs_n, .inl (upd h0_limbs_c (0 : Int32).toNatClampNeg l1)))] _ := hP1
  replace hD1 : va_D A [(h0, .inr (9, f_h0)), (h0_limbs, .inl (tA 0, h0_limbs_n, .inl (upd h0_limbs_c (0 : Int32).toNatClampNeg l1)))] := hD1
  refine lv_aload_n hx hb d_Na_put0_7 rfl (lv_at hl 0 rfl) ?_
  refine lv_iload_n hx hb d_Na_put0_8 rfl (lv_at hl 1 rfl) ?_
  refine lv_if_ne (tgt := 16) hx hb d_Na_put0_9 (by decide) (fun c9 => ?_) (fun c9 => ?_)
  · replace hF := ifp c9 hF
    refine lv_iconst (v := 1) hx hb d_Na_put0_16 (by decide) ?_
    refine va_put (D := D) (ci := 9) (v := .int 1) (ty := .int) (C := R_Na) (T := T_Na) (N := 2) hx hb hg i_Na t_Na o_Na n_Na hown hK hP1 hD1 hS1 0 rfl rfl 1 (by decide) (hg _ k3_1) (fun _ h9 => h9) rfl (by decide +kernel) rfl rfl (zLen q_h0_size) d_Na_put0_17 (fun H2 locs2 hP2 hD2 hS2 => ?_)
    clear hP1 hD1 hS1
    replace hP2 : va_P D vwCl [(h0, .inr (9, f_h0.set 1 (.int 1))), (h0_limbs, .inl (tA 0, h0_limbs_n, .inl (upd h0_limbs_c (0 : Int32).toNatClampNeg l1)))] _ := hP2
    replace hD2 : va_D A [(h0, .inr (9, f_h0.set 1 (.int 1))), (h0_limbs, .inl (tA 0, h0_limbs_n, .inl (upd h0_limbs_c (0 : Int32).toNatClampNeg l1)))] := hD2
    replace hF := Option.some.inj hF
    subst hF
    exact zVret (post := (fun (u9 : List Value) => Fr [1] f0_h0 u9 ∧ u9[1]? = some (.int ((1, upd h0_limbs_c (0 : Int32).toNatClampNeg l1).1)))) (W1 := (fun (u9 : List Value) => [(h0, .inr (9, u9)), (h0_limbs, .inl (tA 0, h0_limbs_n, .inl ((1, upd h0_limbs_c (0 : Int32).toNatClampNeg l1).2)))])) hx hb hr hlocks hP2 hD2 hS2 (f_h0.set 1 (.int 1)) ⟨(Fr.set r_h0 (by decide)), (zSetS q_h0_size)⟩ rfl d_Na_put0_20
  · replace hF := ifn (fun h9 => h9 c9) hF
    refine lv_iconst (v := 0) hx hb d_Na_put0_12 (by decide) ?_
    refine lv_goto (tgt := 17) hx hb d_Na_put0_13 (by decide) ?_
    refine va_put (D := D) (ci := 9) (v := .int 0) (ty := .int) (C := R_Na) (T := T_Na) (N := 2) hx hb hg i_Na t_Na o_Na n_Na hown hK hP1 hD1 hS1 0 rfl rfl 1 (by decide) (hg _ k3_1) (fun _ h9 => h9) rfl (by decide +kernel) rfl rfl (zLen q_h0_size) d_Na_put0_17 (fun H2 locs2 hP2 hD2 hS2 => ?_)
    clear hP1 hD1 hS1
    replace hP2 : va_P D vwCl [(h0, .inr (9, f_h0.set 1 (.int 0))), (h0_limbs, .inl (tA 0, h0_limbs_n, .inl (upd h0_limbs_c (0 : Int32).toNatClampNeg l1)))] _ := hP2
    replace hD2 : va_D A [(h0, .inr (9, f_h0.set 1 (.int 0))), (h0_limbs, .inl (tA 0, h0_limbs_n, .inl (upd h0_limbs_c (0 : Int32).toNatClampNeg l1)))] := hD2
    replace hF := Option.some.inj hF
    subst hF
    exact zVret (post := (fun (u9 : List Value) => Fr [1] f0_h0 u9 ∧ u9[1]? = some (.int ((0, upd h0_limbs_c (0 : Int32).toNatClampNeg l1).1)))) (W1 := (fun (u9 : List Value) => [(h0, .inr (9, u9)), (h0_limbs, .inl (tA 0, h0_limbs_n, .inl ((0, upd h0_limbs_c (0 : Int32).toNatClampNeg l1).2)))])) hx hb hr hlocks hP2 hD2 hS2 (f_h0.set 1 (.int 0)) ⟨(Fr.set r_h0 (by decide)), (zSetS q_h0_size)⟩ rfl d_Na_put0_20
set_option maxHeartbeats 4000000 in
set_option maxRecDepth 100000 in
theorem m_Na_put0 (l : Launch) (D : va_G) (tA : Nat → ClassId) (sz : Nat) (h0 h0_limbs : Nat) (f0_h0 : List Value) (h0_limbs_n : Nat) (l1 : Int32) (h0_size : Int32) (h0_limbs_c : Nat → Int32) (q_h0_limbs : f0_h0[0]? = some (.ref h0_limbs)) (q_h0_size : f0_h0[1]? = some (.int h0_size)) (out : Int32 × (Nat → Int32)) (hF : f_Na_put0 h0_limbs_n l1 h0_size h0_limbs_c = some out) : zMv l ({ cls := "ChanceArena$Natural", name := "put", desc := "(I)V" } : Jvm.MethodName) (zW (Jvm.Cond.code ({ cls := "ChanceArena$Natural", name := "put", desc := "(I)V" } : Jvm.MethodName) prog_6_method_4_code (2 : Nat) (Option.none : Option Jvm.ClassFile.FieldType))) { frames := 0, cells := 0, slots := 0, locals := 0 } [.ref h0, .int l1] D tA [(h0, .inr (9, f0_h0)), (h0_limbs, .inl (tA 0, h0_limbs_n, .inl h0_limbs_c))] sz (fun (u9 : List Value) => Fr [1] f0_h0 u9 ∧ u9[1]? = some (.int out.1)) (fun (u9 : List Value) => [(h0, .inr (9, u9)), (h0_limbs, .inl (tA 0, h0_limbs_n, .inl out.2))]) 0 0 := by
  refine zOpen (l := l) (y := ({ cls := "ChanceArena$Natural", name := "put", desc := "(I)V" } : Jvm.MethodName)) (ws := zW (Jvm.Cond.code ({ cls := "ChanceArena$Natural", name := "put", desc := "(I)V" } : Jvm.MethodName) prog_6_method_4_code (2 : Nat) (Option.none : Option Jvm.ClassFile.FieldType))) (rm := { frames := 0, cells := 0, slots := 0, locals := 0 }) (av := [.ref h0, .int l1]) (D := D) (tA := tA) (W0 := [(h0, .inr (9, f0_h0)), (h0_limbs, .inl (tA 0, h0_limbs_n, .inl h0_limbs_c))]) (Wm := [(h0, .inr (9, f0_h0)), (h0_limbs, .inl (tA 0, h0_limbs_n, .inl h0_limbs_c))]) (sz := sz) (mc := 0) (ms := 0) (fun A => va_Qv (fun (u9 : List Value) => Fr [1] f0_h0 u9 ∧ u9[1]? = some (.int out.1)) (zPost D A (fun (u9 : List Value) => [(h0, .inr (9, u9)), (h0_limbs, .inl (tA 0, h0_limbs_n, .inl out.2))])) A) (lv := [(0, .ref h0), (1, .int l1)]) (by decide) rfl (Nat.le_of_ble_eq_true rfl) rfl ?_
  intro p e s m below meth c A ls hx hb hr hml hh hg hown hlocks hnm hK hA hP hD0 hAw hS hl
  have hD := zD hD0 hAw
  exact b_Na_put0_0 hx hb hr hml hh hg hown hlocks hK hA   f0_h0 _ _ _ hF q_h0_limbs q_h0_size Fr.rfl hP hD hS hl
def f_Na_putLong (h0_limbs_n : Nat) (L1 : Int64) (h0_size : Int32) (h0_limbs_c : Nat → Int32) (n : Nat) : Option (Int32 × (Nat → Int32)) := chk (0 ≤ (0 : Int32).toInt ∧ (0 : Int32).toInt < h0_limbs_n) (chk (0 ≤ (1 : Int32).toInt ∧ (1 : Int32).toInt < h0_limbs_n) (Option.bind (f_Na_trim h0_limbs_n 2 (upd (upd h0_limbs_c (0 : Int32).toNatClampNeg (((L1 &&& 1073741823) : Int64).toInt32)) (1 : Int32).toNatClampNeg ((((L1 : Int64).toUInt64 >>> ((30 : Int32).toInt64.toUInt64 &&& Int64.toUInt64 63)).toInt64 : Int64).toInt32)) n 0 h0_size) (fun o1 => some (o1, upd (upd h0_limbs_c (0 : Int32).toNatClampNeg (((L1 &&& 1073741823) : Int64).toInt32)) (1 : Int32).toNatClampNeg ((((L1 : Int64).toUInt64 >>> ((30 : Int32).toInt64.toUInt64 &&& Int64.toUInt64 63)).toInt64 : Int64).toInt32)))))
set_option maxHeartbeats 4000000 in
set_option maxRecDepth 100000 in
theorem b_Na_putLong_0 {p : Program} {l : Launch} {e : Env} {s : State} {m : MethodId} {args : Array Value} {below : List Frame} {meth : Method} {c : Code} {D : va_G} {tA : Nat → ClassId} {A : Nat → Prop} {h0 h0_limbs : Nat} {f0_h0 : List Value} {h0_limbs_n : Nat} {L1 : Int64} {h0_size : Int32} {h0_limbs_c : Nat → Int32} {out : Int32 × (Nat → Int32)} (hx : p.tables.exec = Jvm.exec) (hb : c.code = prog_6_method_5_code) (hr : meth.sig.returnType = (Option.none : Option Jvm.ClassFile.FieldType)) (hml : c.maxLocals = 3) (hh : zH s) (hg : ∀ w ∈ lw_R, w.before args s = true) (hown : s.vm.findClass "ChanceArena$Natural" = some m.cls) (hlocks : meth.locks = false) (hK : va_K D vwCl (zT tA) s) (hA : ∀ q, s.heap.size ≤ q → A q) {n : Nat}  : ∀ (f_h0 : List Value) (H : Heap) (locs : List Loc) (ls : Array Slot), f_Na_putLong h0_limbs_n L1 h0_size h0_limbs_c n = some out → f_h0[0]? = some (.ref h0_limbs) → f_h0[1]? = some (.int h0_size) → Fr [1] f0_h0 f_h0 → va_P D vwCl [(h0, .inr (9, f_h0)), (h0_limbs, .inl (tA 0, h0_limbs_n, .inl h0_limbs_c))] H → va_D A [(h0, .inr (9, f_h0)), (h0_limbs, .inl (tA 0, h0_limbs_n, .inl h0_limbs_c))] → va_S A s.heap H locs → lv_has ls 3 [(0, .ref h0), (1, .long L1)] → W p l e { frames := 1, cells := 0, slots := 0, locals := 21 } s m args below meth c H locs 0 0 (MQ below (va_Qv (fun (u9 : List Value) => Fr [1] f0_h0 u9 ∧ u9[1]? = some (.int out.1)) (zPost D A (fun (u9 : List Value) => [(h0, .inr (9, u9)), (h0_limbs, .inl (tA 0, h0_limbs_n, .inl out.2))])) A) args s 0 0 A) (F0 m 0 ls []) := by
  intro   f_h0 H locs ls hF q_h0_limbs q_h0_size r_h0 hP hD hS hl
  replace hF : ((chk (0 ≤ (0 : Int32).toInt ∧ (0 : Int32).toInt < h0_limbs_n) (chk (0 ≤ (1 : Int32).toInt ∧ (1 : Int32).toInt < h0_limbs_n) (Option.bind (f_Na_trim h0_limbs_n 2 (upd (upd h0_limbs_c (0 : Int32).toNatClampNeg (((L1 &&& 1073741823) : Int64).toInt32)) (1 : Int32).toNatClampNeg ((((L1 : Int64).toUInt64 >>> ((30 : Int32).toInt64.toUInt64 &&& Int64.toUInt64 63)).toInt64 : Int64).toInt32)) n 0 h0_size) (fun o1 => some (o1, upd (upd h0_limbs_c (0 : Int32).toNatClampNeg (((L1 &&& 1073741823) : Int64).toInt32)) (1 : Int32).toNatClampNeg ((((L1 : Int64).toUInt64 >>> ((30 : Int32).toInt64.toUInt64 &&& Int64.toUInt64 63)).toInt64 : Int64).toInt32)))))) : Option (Int32 × (Nat → Int32))) = some out := hF
  refine lv_aload_n hx hb d_Na_putLong_0 rfl (lv_at hl 0 rfl) ?_
  refine va_get (D := D) (ci := 9) (v := .ref h0_limbs) (C := R_Na) (T := T_Na) (N := 2) hx hb hg i_Na hown hK hP 0 rfl rfl 0 (by decide) (hg _ k2_239) (fun _ h9 => h9) q_h0_limbs d_Na_putLong_1 ?_
  refine lv_iconst (v := 0) hx hb d_Na_putLong_4 (by decide) ?_
  refine lv_lload_n hx hb d_Na_putLong_5 rfl (lv_at hl 1 rfl) ?_
  refine lv_ldc2 (v := 1073741823) hx hb hown (hg _ k5_190) d_Na_putLong_6 ?_
  refine lv_land hx hb d_Na_putLong_9 ?_
  refine lv_l2i (v := ((L1 &&& 1073741823) : Int64).toInt32) hx hb d_Na_putLong_10 rfl ?_
  obtain ⟨h9, hF⟩ := chk_some hF
  refine va_iast hx hb hK hP hD hS 1 0 rfl rfl (vp_in_iff.mpr h9) d_Na_putLong_11 (fun H1 locs1 hP1 hD1 hS1 => ?_)
  clear hP hD hS
  replace hP1 : va_P D vwCl [(h0, .inr (9, f_h0)), (h0_limbs, .inl (tA 0, h0_limbs_n, .inl (upd h0_limbs_c (0 : Int32).toNatClampNeg (((L1 &&& 1073741823) : Int64).toInt32))))] _ := hP1
  replace hD1 : va_D A [(h0, .inr (9, f_h0)), (h0_limbs, .inl (tA 0, h0_limbs_n, .inl (upd h0_limbs_c (0 : Int32).toNatClampNeg (((L1 &&& 1073741823) : Int64).toInt32))))] := hD1
  refine lv_aload_n hx hb d_Na_putLong_12 rfl (lv_at hl 0 rfl) ?_
  refine va_get (D := D) (ci := 9) (v := .ref h0_limbs) (C := R_Na) (T := T_Na) (N := 2) hx hb hg i_Na hown hK hP1 0 rfl rfl 0 (by decide) (hg _ k2_239) (fun _ h9 => h9) q_h0_limbs d_Na_putLong_13 ?_
  refine lv_iconst (v := 1) hx hb d_Na_putLong_16 (by decide) ?_
  refine lv_lload_n hx hb d_Na_putLong_17 rfl (lv_at hl 1 rfl) ?_
  refine lv_bipush (v := 30) hx hb d_Na_putLong_18 (by decide) ?_
  refine lv_lushr (v := ((L1 : Int64).toUInt64 >>> ((30 : Int32).toInt64.toUInt64 &&& Int64.toUInt64 63)).toInt64) hx hb d_Na_putLong_20 rfl ?_
  refine lv_l2i (v := (((L1 : Int64).toUInt64 >>> ((30 : Int32).toInt64.toUInt64 &&& Int64.toUInt64 63)).toInt64 : Int64).toInt32) hx hb d_Na_putLong_21 rfl ?_
  obtain ⟨h9, hF⟩ := chk_some hF
  refine va_iast hx hb hK hP1 hD1 hS1 1 0 rfl rfl (vp_in_iff.mpr h9) d_Na_putLong_22 (fun H2 locs2 hP2 hD2 hS2 => ?_)
  clear hP1 hD1 hS1
  replace hP2 : va_P D vwCl [(h0, .inr (9, f_h0)), (h0_limbs, .inl (tA 0, h0_limbs_n, .inl (upd (upd h0_limbs_c (0 : Int32).toNatClampNeg (((L1 &&& 1073741823) : Int64).toInt32)) (1 : Int32).toNatClampNeg ((((L1 : Int64).toUInt64 >>> ((30 : Int32).toInt64.toUInt64 &&& Int64.toUInt64 63)).toInt64 : Int64).toInt32))))] _ := hP2
  replace hD2 : va_D A [(h0, .inr (9, f_h0)), (h0_limbs, .inl (tA 0, h0_limbs_n, .inl (upd (upd h0_limbs_c (0 : Int32).toNatClampNeg (((L1 &&& 1073741823) : Int64).toInt32)) (1 : Int32).toNatClampNeg ((((L1 : Int64).toUInt64 >>> ((30 : Int32).toInt64.toUInt64 &&& Int64.toUInt64 63)).toInt64 : Int64).toInt32))))] := hD2
  refine lv_aload_n hx hb d_Na_putLong_23 rfl (lv_at hl 0 rfl) ?_
  refine lv_iconst (v := 2) hx hb d_Na_putLong_24 (by decide) ?_
  obtain ⟨o1, h1, hF⟩ := bsome hF
  refine zCallv (wc := [(h0, .inr (9, f_h0)), (h0_limbs, .inl (tA 0, h0_limbs_n, .inl (upd (upd h0_limbs_c (0 : Int32).toNatClampNeg (((L1 &&& 1073741823) : Int64).toInt32)) (1 : Int32).toNatClampNeg ((((L1 : Int64).toUInt64 >>> ((30 : Int32).toInt64.toUInt64 &&& Int64.toUInt64 63)).toInt64 : Int64).toInt32))))]) (wr := []) hP2 hD2 hS2 hA [0, 1] [] rfl rfl (by decide) (by decide) (va_runV (As := [.int 2]) (rest := []) ⟨hx, hb, hml, hown, hg⟩ (m_Na_trim l D tA _ h0 h0_limbs f_h0 h0_limbs_n 2 (upd (upd h0_limbs_c (0 : Int32).toNatClampNeg (((L1 &&& 1073741823) : Int64).toInt32)) (1 : Int32).toNatClampNeg ((((L1 : Int64).toUInt64 >>> ((30 : Int32).toInt64.toUInt64 &&& Int64.toUInt64 63)).toInt64 : Int64).toInt32)) h0_size q_h0_limbs q_h0_size n o1 h1) (zV 1 hg k5_213 k5_215 ks_Na_trim k1_10 k5_216 rfl rfl (by decide +kernel) ⟨(Nat.le_of_ble_eq_true rfl), (Nat.le_of_ble_eq_true rfl)⟩) (zPreV hh hK hP2 hD2 [0, 1] (by decide) rfl (ci := 9) rfl 0 rfl) rfl rfl hl.1 rfl (lv_room (Nat.le_of_ble_eq_true rfl)) d_Na_putLong_25 ⟨(Nat.le_of_ble_eq_true rfl), (Nat.le_of_ble_eq_true rfl)⟩) (fun v1_h0 H3 locs3 e1 hP3 hD3 hS3 => ?_)
  clear hP2 hD2 hS2
  refine W.cs (cells' := 0) (slots' := 0) rfl rfl ?_
  obtain ⟨r1_h0, q1_h0_size⟩ := e1
  replace hP3 : va_P D vwCl [(h0, .inr (9, v1_h0)), (h0_limbs, .inl (tA 0, h0_limbs_n, .inl (upd (upd h0_limbs_c (0 : Int32).toNatClampNeg (((L1 &&& 1073741823) : Int64).toInt32)) (1 : Int32).toNatClampNeg ((((L1 : Int64).toUInt64 >>> ((30 : Int32).toInt64.toUInt64 &&& Int64.toUInt64 63)).toInt64 : Int64).toInt32))))] _ := hP3
  replace hD3 : va_D A [(h0, .inr (9, v1_h0)), (h0_limbs, .inl (tA 0, h0_limbs_n, .inl (upd (upd h0_limbs_c (0 : Int32).toNatClampNeg (((L1 &&& 1073741823) : Int64).toInt32)) (1 : Int32).toNatClampNeg ((((L1 : Int64).toUInt64 >>> ((30 : Int32).toInt64.toUInt64 &&& Int64.toUInt64 63)).toInt64 : Int64).toInt32))))] := hD3
  replace hF := Option.some.inj hF
  subst hF
  exact zVret (post := (fun (u9 : List Value) => Fr [1] f0_h0 u9 ∧ u9[1]? = some (.int ((o1, upd (upd h0_limbs_c (0 : Int32).toNatClampNeg (((L1 &&& 1073741823) : Int64).toInt32)) (1 : Int32).toNatClampNeg ((((L1 : Int64).toUInt64 >>> ((30 : Int32).toInt64.toUInt64 &&& Int64.toUInt64 63)).toInt64 : Int64).toInt32)).1)))) (W1 := (fun (u9 : List Value) => [(h0, .inr (9, u9)), (h0_limbs, .inl (tA 0, h0_limbs_n, .inl ((o1, upd (upd h0_limbs_c (0 : Int32).toNatClampNeg (((L1 &&& 1073741823) : Int64).toInt32)) (1 : Int32).toNatClampNeg ((((L1 : Int64).toUInt64 >>> ((30 : Int32).toInt64.toUInt64 &&& Int64.toUInt64 63)).toInt64 : Int64).toInt32)).2)))])) hx hb hr hlocks hP3 hD3 hS3 (v1_h0) ⟨(Fr.trans r_h0 (Fr.sub r1_h0 (by decide))), q1_h0_size⟩ rfl d_Na_putLong_28
set_option maxHeartbeats 4000000 in
set_option maxRecDepth 100000 in
theorem m_Na_putLong (l : Launch) (D : va_G) (tA : Nat → ClassId) (sz : Nat) (h0 h0_limbs : Nat) (f0_h0 : List Value) (h0_limbs_n : Nat) (L1 : Int64) (h0_size : Int32) (h0_limbs_c : Nat → Int32) (q_h0_limbs : f0_h0[0]? = some (.ref h0_limbs)) (q_h0_size : f0_h0[1]? = some (.int h0_size)) (n : Nat) (out : Int32 × (Nat → Int32)) (hF : f_Na_putLong h0_limbs_n L1 h0_size h0_limbs_c n = some out) : zMv l ({ cls := "ChanceArena$Natural", name := "putLong", desc := "(J)V" } : Jvm.MethodName) (zW (Jvm.Cond.code ({ cls := "ChanceArena$Natural", name := "putLong", desc := "(J)V" } : Jvm.MethodName) prog_6_method_5_code (3 : Nat) (Option.none : Option Jvm.ClassFile.FieldType))) { frames := 1, cells := 0, slots := 0, locals := 21 } [.ref h0, .long L1] D tA [(h0, .inr (9, f0_h0)), (h0_limbs, .inl (tA 0, h0_limbs_n, .inl h0_limbs_c))] sz (fun (u9 : List Value) => Fr [1] f0_h0 u9 ∧ u9[1]? = some (.int out.1)) (fun (u9 : List Value) => [(h0, .inr (9, u9)), (h0_limbs, .inl (tA 0, h0_limbs_n, .inl out.2))]) 0 0 := by
  refine zOpen (l := l) (y := ({ cls := "ChanceArena$Natural", name := "putLong", desc := "(J)V" } : Jvm.MethodName)) (ws := zW (Jvm.Cond.code ({ cls := "ChanceArena$Natural", name := "putLong", desc := "(J)V" } : Jvm.MethodName) prog_6_method_5_code (3 : Nat) (Option.none : Option Jvm.ClassFile.FieldType))) (rm := { frames := 1, cells := 0, slots := 0, locals := 21 }) (av := [.ref h0, .long L1]) (D := D) (tA := tA) (W0 := [(h0, .inr (9, f0_h0)), (h0_limbs, .inl (tA 0, h0_limbs_n, .inl h0_limbs_c))]) (Wm := [(h0, .inr (9, f0_h0)), (h0_limbs, .inl (tA 0, h0_limbs_n, .inl h0_limbs_c))]) (sz := sz) (mc := 0) (ms := 0) (fun A => va_Qv (fun (u9 : List Value) => Fr [1] f0_h0 u9 ∧ u9[1]? = some (.int out.1)) (zPost D A (fun (u9 : List Value) => [(h0, .inr (9, u9)), (h0_limbs, .inl (tA 0, h0_limbs_n, .inl out.2))])) A) (lv := [(0, .ref h0), (1, .long L1)]) (by decide) rfl (Nat.le_of_ble_eq_true rfl) rfl ?_
  intro p e s m below meth c A ls hx hb hr hml hh hg hown hlocks hnm hK hA hP hD0 hAw hS hl
  have hD := zD hD0 hAw
  exact b_Na_putLong_0 hx hb hr hml hh hg hown hlocks hK hA   f0_h0 _ _ _ hF q_h0_limbs q_h0_size Fr.rfl hP hD hS hl
def f_Na_isOne (h0_limbs_n : Nat) (h0_size : Int32) (h0_limbs_c : Nat → Int32) : Option (Int32) := if ¬ (h0_size : Int32) = 1 then some (0) else chk (0 ≤ (0 : Int32).toInt ∧ (0 : Int32).toInt < h0_limbs_n) (if ¬ ((h0_limbs_c (0 : Int32).toNatClampNeg) : Int32) = 1 then some (0) else some (1))
set_option maxHeartbeats 4000000 in
set_option maxRecDepth 100000 in
theorem b_Na_isOne_0 {p : Program} {l : Launch} {e : Env} {s : State} {m : MethodId} {args : Array Value} {below : List Frame} {meth : Method} {c : Code} {D : va_G} {tA : Nat → ClassId} {A : Nat → Prop} {h0 h0_limbs : Nat} {f0_h0 : List Value} {h0_limbs_n : Nat} {h0_size : Int32} {h0_limbs_c : Nat → Int32} {out : Int32} (hx : p.tables.exec = Jvm.exec) (hb : c.code = prog_6_method_7_code) (hr : meth.sig.returnType = (Option.some Jvm.ClassFile.FieldType.boolean)) (hml : c.maxLocals = 1) (hh : zH s) (hg : ∀ w ∈ lw_R, w.before args s = true) (hown : s.vm.findClass "ChanceArena$Natural" = some m.cls) (hlocks : meth.locks = false) (hK : va_K D vwCl (zT tA) s) (hA : ∀ q, s.heap.size ≤ q → A q)  : ∀ (H : Heap) (locs : List Loc) (ls : Array Slot), f_Na_isOne h0_limbs_n h0_size h0_limbs_c = some out → f0_h0[0]? = some (.ref h0_limbs) → f0_h0[1]? = some (.int h0_size) → va_P D vwCl [(h0, .inr (9, f0_h0)), (h0_limbs, .inl (tA 0, h0_limbs_n, .inl h0_limbs_c))] H → va_D A [(h0, .inr (9, f0_h0)), (h0_limbs, .inl (tA 0, h0_limbs_n, .inl h0_limbs_c))] → va_S A s.heap H locs → lv_has ls 1 [(0, .ref h0)] → W p l e { frames := 0, cells := 0, slots := 0, locals := 0 } s m args below meth c H locs 0 0 (MQ below (va_Qi (fun (r9 : Int32) (u9 : Unit) => r9 = out) (zPost D A (fun (u9 : Unit) => [(h0, .inr (9, f0_h0)), (h0_limbs, .inl (tA 0, h0_limbs_n, .inl h0_limbs_c))])) A) args s 0 0 A) (F0 m 0 ls []) := by
  intro    H locs ls hF q_h0_limbs q_h0_size hP hD hS hl
  replace hF : ((if ¬ (h0_size : Int32) = 1 then some (0) else chk (0 ≤ (0 : Int32).toInt ∧ (0 : Int32).toInt < h0_limbs_n) (if ¬ ((h0_limbs_c (0 : Int32).toNatClampNeg) : Int32) = 1 then some (0) else some (1))) : Option (Int32)) = some out := hF
  refine lv_aload_n hx hb d_Na_isOne_0 rfl (lv_at hl 0 rfl) ?_
  refine va_get (D := D) (ci := 9) (v := .int h0_size) (C := R_Na) (T := T_Na) (N := 2) hx hb hg i_Na hown hK hP 0 rfl rfl 1 (by decide) (hg _ k3_1) (fun _ h9 => h9) q_h0_size d_Na_isOne_1 ?_
  refine lv_iconst (v := 1) hx hb d_Na_isOne_4 (by decide) ?_
  refine lv_icmp_ne (tgt := 22) hx hb d_Na_isOne_5 (by decide) (fun c9 => ?_) (fun c9 => ?_)
  · replace hF := ifp c9 hF
    refine lv_iconst (v := 0) hx hb d_Na_isOne_22 (by decide) ?_
    replace hF := Option.some.inj hF
    subst hF
    exact zZret (post := (fun (r9 : Int32) (u9 : Unit) => r9 = 0)) (W1 := (fun (u9 : Unit) => [(h0, .inr (9, f0_h0)), (h0_limbs, .inl (tA 0, h0_limbs_n, .inl h0_limbs_c))])) (v := 0) hx hb hr rfl hlocks hP hD hS () rfl rfl d_Na_isOne_23
  · replace hF := ifn (fun h9 => h9 c9) hF
    refine lv_aload_n hx hb d_Na_isOne_8 rfl (lv_at hl 0 rfl) ?_
    refine va_get (D := D) (ci := 9) (v := .ref h0_limbs) (C := R_Na) (T := T_Na) (N := 2) hx hb hg i_Na hown hK hP 0 rfl rfl 0 (by decide) (hg _ k2_239) (fun _ h9 => h9) q_h0_limbs d_Na_isOne_9 ?_
    refine lv_iconst (v := 0) hx hb d_Na_isOne_12 (by decide) ?_
    obtain ⟨h9, hF⟩ := chk_some hF
    refine va_iald hx hb hK hP 1 0 rfl rfl (vp_in_iff.mpr h9) d_Na_isOne_13 ?_
    refine lv_iconst (v := 1) hx hb d_Na_isOne_14 (by decide) ?_
    refine lv_icmp_ne (tgt := 22) hx hb d_Na_isOne_15 (by decide) (fun c9 => ?_) (fun c9 => ?_)
    · replace hF := ifp c9 hF
      refine lv_iconst (v := 0) hx hb d_Na_isOne_22 (by decide) ?_
      replace hF := Option.some.inj hF
      subst hF
      exact zZret (post := (fun (r9 : Int32) (u9 : Unit) => r9 = 0)) (W1 := (fun (u9 : Unit) => [(h0, .inr (9, f0_h0)), (h0_limbs, .inl (tA 0, h0_limbs_n, .inl h0_limbs_c))])) (v := 0) hx hb hr rfl hlocks hP hD hS () rfl rfl d_Na_isOne_23
    · replace hF := ifn (fun h9 => h9 c9) hF
      refine lv_iconst (v := 1) hx hb d_Na_isOne_18 (by decide) ?_
      refine lv_goto (tgt := 23) hx hb d_Na_isOne_19 (by decide) ?_
      replace hF := Option.some.inj hF
      subst hF
      exact zZret (post := (fun (r9 : Int32) (u9 : Unit) => r9 = 1)) (W1 := (fun (u9 : Unit) => [(h0, .inr (9, f0_h0)), (h0_limbs, .inl (tA 0, h0_limbs_n, .inl h0_limbs_c))])) (v := 1) hx hb hr rfl hlocks hP hD hS () rfl rfl d_Na_isOne_23
set_option maxHeartbeats 4000000 in
set_option maxRecDepth 100000 in
theorem m_Na_isOne (l : Launch) (D : va_G) (tA : Nat → ClassId) (sz : Nat) (h0 h0_limbs : Nat) (f0_h0 : List Value) (h0_limbs_n : Nat) (h0_size : Int32) (h0_limbs_c : Nat → Int32) (q_h0_limbs : f0_h0[0]? = some (.ref h0_limbs)) (q_h0_size : f0_h0[1]? = some (.int h0_size)) (out : Int32) (hF : f_Na_isOne h0_limbs_n h0_size h0_limbs_c = some out) : zMi l ({ cls := "ChanceArena$Natural", name := "isOne", desc := "()Z" } : Jvm.MethodName) (zW (Jvm.Cond.code ({ cls := "ChanceArena$Natural", name := "isOne", desc := "()Z" } : Jvm.MethodName) prog_6_method_7_code (1 : Nat) (Option.some Jvm.ClassFile.FieldType.boolean))) { frames := 0, cells := 0, slots := 0, locals := 0 } [.ref h0] D tA [(h0, .inr (9, f0_h0)), (h0_limbs, .inl (tA 0, h0_limbs_n, .inl h0_limbs_c))] sz (fun (r9 : Int32) (u9 : Unit) => r9 = out) (fun (u9 : Unit) => [(h0, .inr (9, f0_h0)), (h0_limbs, .inl (tA 0, h0_limbs_n, .inl h0_limbs_c))]) 0 0 := by
  refine zOpen (l := l) (y := ({ cls := "ChanceArena$Natural", name := "isOne", desc := "()Z" } : Jvm.MethodName)) (ws := zW (Jvm.Cond.code ({ cls := "ChanceArena$Natural", name := "isOne", desc := "()Z" } : Jvm.MethodName) prog_6_method_7_code (1 : Nat) (Option.some Jvm.ClassFile.FieldType.boolean))) (rm := { frames := 0, cells := 0, slots := 0, locals := 0 }) (av := [.ref h0]) (D := D) (tA := tA) (W0 := [(h0, .inr (9, f0_h0)), (h0_limbs, .inl (tA 0, h0_limbs_n, .inl h0_limbs_c))]) (Wm := [(h0, .inr (9, f0_h0)), (h0_limbs, .inl (tA 0, h0_limbs_n, .inl h0_limbs_c))]) (sz := sz) (mc := 0) (ms := 0) (fun A => va_Qi (fun (r9 : Int32) (u9 : Unit) => r9 = out) (zPost D A (fun (u9 : Unit) => [(h0, .inr (9, f0_h0)), (h0_limbs, .inl (tA 0, h0_limbs_n, .inl h0_limbs_c))])) A) (lv := [(0, .ref h0)]) (by decide) rfl (Nat.le_of_ble_eq_true rfl) rfl ?_
  intro p e s m below meth c A ls hx hb hr hml hh hg hown hlocks hnm hK hA hP hD0 hAw hS hl
  have hD := zD hD0 hAw
  exact b_Na_isOne_0 hx hb hr hml hh hg hown hlocks hK hA    _ _ _ hF q_h0_limbs q_h0_size hP hD hS hl
