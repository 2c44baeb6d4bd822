theorem k1_62 : (Jvm.Cond.fieldLink "ChanceArena$RuleReader" (69 : Nat) "ChanceArena$Words" "sorts" "[I") ∈ lw_R := zR (zk_1 _ (List.mem_of_getElem? (i := 62) (by decide +kernel))) rfl
theorem k1_64 : (Jvm.Cond.fieldLink "ChanceArena$RuleReader" (64 : Nat) "ChanceArena$Words" "starts" "[I") ∈ lw_R := zR (zk_1 _ (List.mem_of_getElem? (i := 64) (by decide +kernel))) rfl
theorem k1_67 : (Jvm.Cond.fieldLink "ChanceArena$RuleReader" (72 : Nat) "ChanceArena$Words" "amounts" "[I") ∈ lw_R := zR (zk_1 _ (List.mem_of_getElem? (i := 67) (by decide +kernel))) rfl
theorem k4_144 : (Jvm.Cond.code ({ cls := "ChanceArena$RuleReader", name := "here", desc := "()I" } : Jvm.MethodName) prog_9_method_3_code (1 : Nat) (Option.some Jvm.ClassFile.FieldType.int)) ∈ lw_R := zR (zk_4 _ (List.mem_of_getElem? (i := 144) (by decide +kernel))) rfl
theorem k4_152 : (Jvm.Cond.code ({ cls := "ChanceArena$RuleReader", name := "accept", desc := "(I)Z" } : Jvm.MethodName) prog_9_method_4_code (2 : Nat) (Option.some Jvm.ClassFile.FieldType.boolean)) ∈ lw_R := zR (zk_4 _ (List.mem_of_getElem? (i := 152) (by decide +kernel))) rfl
theorem k4_156 : (Jvm.Cond.code ({ cls := "ChanceArena$RuleReader", name := "find", desc := "(I)I" } : Jvm.MethodName) prog_9_method_7_code (5 : Nat) (Option.some Jvm.ClassFile.FieldType.int)) ∈ lw_R := zR (zk_4 _ (List.mem_of_getElem? (i := 156) (by decide +kernel))) rfl
theorem k4_157 : (Jvm.Cond.methodLink "ChanceArena$RuleReader" (75 : Nat) ({ cls := "ChanceArena$Words", name := "same", desc := "(III)Z" } : Jvm.MethodName)) ∈ lw_R := zR (zk_4 _ (List.mem_of_getElem? (i := 157) (by decide +kernel))) rfl
theorem k4_158 : (Jvm.Cond.instanceMethod ({ cls := "ChanceArena$Words", name := "same", desc := "(III)Z" } : Jvm.MethodName)) ∈ lw_R := zR (zk_4 _ (List.mem_of_getElem? (i := 158) (by decide +kernel))) rfl
theorem k4_159 : (Jvm.Cond.selects "ChanceArena$Words" ({ cls := "ChanceArena$Words", name := "same", desc := "(III)Z" } : Jvm.MethodName) ({ cls := "ChanceArena$Words", name := "same", desc := "(III)Z" } : Jvm.MethodName)) ∈ lw_R := zR (zk_4 _ (List.mem_of_getElem? (i := 159) (by decide +kernel))) rfl
theorem k5_99 : (Jvm.Cond.code ({ cls := "ChanceArena$RuleReader", name := "know", desc := "(IIIZ)V" } : Jvm.MethodName) prog_9_method_6_code (5 : Nat) (Option.none : Option Jvm.ClassFile.FieldType)) ∈ lw_R := zR (zk_5 _ (List.mem_of_getElem? (i := 99) (by decide +kernel))) rfl
theorem k8_119 : (Jvm.Cond.code ({ cls := "ChanceArena$Residues", name := "inverse", desc := "(II)I" } : Jvm.MethodName) prog_8_method_8_code (17 : Nat) (Option.some Jvm.ClassFile.FieldType.int)) ∈ lw_R := zR (zk_8 _ (List.mem_of_getElem? (i := 119) (by decide +kernel))) rfl
theorem d_Re_inverse_0 : decode prog_8_method_8_code 0 = .ok (.iload_n 0, 1) := by decide +kernel
theorem d_Re_inverse_1 : decode prog_8_method_8_code 1 = .ok (.i2l, 1) := by decide +kernel
theorem d_Re_inverse_2 : decode prog_8_method_8_code 2 = .ok (.lstore_n 2, 1) := by decide +kernel
theorem d_Re_inverse_3 : decode prog_8_method_8_code 3 = .ok (.iload_n 1, 1) := by decide +kernel
theorem d_Re_inverse_4 : decode prog_8_method_8_code 4 = .ok (.i2l, 1) := by decide +kernel
theorem d_Re_inverse_5 : decode prog_8_method_8_code 5 = .ok (.lstore 4, 2) := by decide +kernel
theorem d_Re_inverse_7 : decode prog_8_method_8_code 7 = .ok (.lconst 1, 1) := by decide +kernel
theorem d_Re_inverse_8 : decode prog_8_method_8_code 8 = .ok (.lstore 6, 2) := by decide +kernel
theorem d_Re_inverse_10 : decode prog_8_method_8_code 10 = .ok (.lconst 0, 1) := by decide +kernel
theorem d_Re_inverse_11 : decode prog_8_method_8_code 11 = .ok (.lstore 8, 2) := by decide +kernel
theorem d_Re_inverse_13 : decode prog_8_method_8_code 13 = .ok (.iconst 0, 1) := by decide +kernel
theorem d_Re_inverse_14 : decode prog_8_method_8_code 14 = .ok (.istore 10, 2) := by decide +kernel
theorem d_Re_inverse_16 : decode prog_8_method_8_code 16 = .ok (.iload 10, 2) := by decide +kernel
theorem d_Re_inverse_18 : decode prog_8_method_8_code 18 = .ok (.bipush 100, 2) := by decide +kernel
theorem d_Re_inverse_20 : decode prog_8_method_8_code 20 = .ok (.if_icmp .ge 56, 3) := by decide +kernel
theorem d_Re_inverse_76 : decode prog_8_method_8_code 76 = .ok (.lload 6, 2) := by decide +kernel
theorem d_Re_inverse_78 : decode prog_8_method_8_code 78 = .ok (.lconst 0, 1) := by decide +kernel
theorem d_Re_inverse_79 : decode prog_8_method_8_code 79 = .ok (.lcmp, 1) := by decide +kernel
theorem d_Re_inverse_80 : decode prog_8_method_8_code 80 = .ok (.ifCond .ge 11, 3) := by decide +kernel
theorem d_Re_inverse_91 : decode prog_8_method_8_code 91 = .ok (.lload 6, 2) := by decide +kernel
theorem d_Re_inverse_93 : decode prog_8_method_8_code 93 = .ok (.l2i, 1) := by decide +kernel
theorem d_Re_inverse_94 : decode prog_8_method_8_code 94 = .ok (.ireturn, 1) := by decide +kernel
theorem d_Re_inverse_83 : decode prog_8_method_8_code 83 = .ok (.lload 6, 2) := by decide +kernel
theorem d_Re_inverse_85 : decode prog_8_method_8_code 85 = .ok (.iload_n 1, 1) := by decide +kernel
theorem d_Re_inverse_86 : decode prog_8_method_8_code 86 = .ok (.i2l, 1) := by decide +kernel
theorem d_Re_inverse_87 : decode prog_8_method_8_code 87 = .ok (.ladd, 1) := by decide +kernel
theorem d_Re_inverse_88 : decode prog_8_method_8_code 88 = .ok (.goto 5, 3) := by decide +kernel
theorem d_Re_inverse_23 : decode prog_8_method_8_code 23 = .ok (.lload 4, 2) := by decide +kernel
theorem d_Re_inverse_25 : decode prog_8_method_8_code 25 = .ok (.lconst 0, 1) := by decide +kernel
theorem d_Re_inverse_26 : decode prog_8_method_8_code 26 = .ok (.lcmp, 1) := by decide +kernel
theorem d_Re_inverse_27 : decode prog_8_method_8_code 27 = .ok (.ifCond .eq 49, 3) := by decide +kernel
theorem d_Re_inverse_30 : decode prog_8_method_8_code 30 = .ok (.lload_n 2, 1) := by decide +kernel
theorem d_Re_inverse_31 : decode prog_8_method_8_code 31 = .ok (.lload 4, 2) := by decide +kernel
theorem d_Re_inverse_33 : decode prog_8_method_8_code 33 = .ok (.ldiv, 1) := by decide +kernel
theorem d_Re_inverse_34 : decode prog_8_method_8_code 34 = .ok (.lstore 11, 2) := by decide +kernel
theorem d_Re_inverse_36 : decode prog_8_method_8_code 36 = .ok (.lload_n 2, 1) := by decide +kernel
theorem d_Re_inverse_37 : decode prog_8_method_8_code 37 = .ok (.lload 11, 2) := by decide +kernel
theorem d_Re_inverse_39 : decode prog_8_method_8_code 39 = .ok (.lload 4, 2) := by decide +kernel
theorem d_Re_inverse_41 : decode prog_8_method_8_code 41 = .ok (.lmul, 1) := by decide +kernel
theorem d_Re_inverse_42 : decode prog_8_method_8_code 42 = .ok (.lsub, 1) := by decide +kernel
theorem d_Re_inverse_43 : decode prog_8_method_8_code 43 = .ok (.lstore 13, 2) := by decide +kernel
theorem d_Re_inverse_45 : decode prog_8_method_8_code 45 = .ok (.lload 6, 2) := by decide +kernel
theorem d_Re_inverse_47 : decode prog_8_method_8_code 47 = .ok (.lload 11, 2) := by decide +kernel
theorem d_Re_inverse_49 : decode prog_8_method_8_code 49 = .ok (.lload 8, 2) := by decide +kernel
theorem d_Re_inverse_51 : decode prog_8_method_8_code 51 = .ok (.lmul, 1) := by decide +kernel
theorem d_Re_inverse_52 : decode prog_8_method_8_code 52 = .ok (.lsub, 1) := by decide +kernel
theorem d_Re_inverse_53 : decode prog_8_method_8_code 53 = .ok (.lstore 15, 2) := by decide +kernel
theorem d_Re_inverse_55 : decode prog_8_method_8_code 55 = .ok (.lload 4, 2) := by decide +kernel
theorem d_Re_inverse_57 : decode prog_8_method_8_code 57 = .ok (.lstore_n 2, 1) := by decide +kernel
theorem d_Re_inverse_58 : decode prog_8_method_8_code 58 = .ok (.lload 13, 2) := by decide +kernel
theorem d_Re_inverse_60 : decode prog_8_method_8_code 60 = .ok (.lstore 4, 2) := by decide +kernel
theorem d_Re_inverse_62 : decode prog_8_method_8_code 62 = .ok (.lload 8, 2) := by decide +kernel
theorem d_Re_inverse_64 : decode prog_8_method_8_code 64 = .ok (.lstore 6, 2) := by decide +kernel
theorem d_Re_inverse_66 : decode prog_8_method_8_code 66 = .ok (.lload 15, 2) := by decide +kernel
theorem d_Re_inverse_68 : decode prog_8_method_8_code 68 = .ok (.lstore 8, 2) := by decide +kernel
theorem d_Re_inverse_70 : decode prog_8_method_8_code 70 = .ok (.iinc 10 1, 3) := by decide +kernel
theorem d_Re_inverse_73 : decode prog_8_method_8_code 73 = .ok (.goto (-57), 3) := by decide +kernel
theorem d_RR_here_0 : decode prog_9_method_3_code 0 = .ok (.aload_n 0, 1) := by decide +kernel
theorem d_RR_here_1 : decode prog_9_method_3_code 1 = .ok (.getfield 40, 3) := by decide +kernel
theorem d_RR_here_4 : decode prog_9_method_3_code 4 = .ok (.getfield 64, 3) := by decide +kernel
theorem d_RR_here_7 : decode prog_9_method_3_code 7 = .ok (.aload_n 0, 1) := by decide +kernel
theorem d_RR_here_8 : decode prog_9_method_3_code 8 = .ok (.getfield 48, 3) := by decide +kernel
theorem d_RR_here_11 : decode prog_9_method_3_code 11 = .ok (.iaload, 1) := by decide +kernel
theorem d_RR_here_12 : decode prog_9_method_3_code 12 = .ok (.ireturn, 1) := by decide +kernel
theorem d_RR_accept_0 : decode prog_9_method_4_code 0 = .ok (.aload_n 0, 1) := by decide +kernel
theorem d_RR_accept_1 : decode prog_9_method_4_code 1 = .ok (.getfield 40, 3) := by decide +kernel
theorem d_RR_accept_4 : decode prog_9_method_4_code 4 = .ok (.getfield 69, 3) := by decide +kernel
theorem d_RR_accept_7 : decode prog_9_method_4_code 7 = .ok (.aload_n 0, 1) := by decide +kernel
theorem d_RR_accept_8 : decode prog_9_method_4_code 8 = .ok (.getfield 48, 3) := by decide +kernel
theorem d_RR_accept_11 : decode prog_9_method_4_code 11 = .ok (.iaload, 1) := by decide +kernel
theorem d_RR_accept_12 : decode prog_9_method_4_code 12 = .ok (.iload_n 1, 1) := by decide +kernel
theorem d_RR_accept_13 : decode prog_9_method_4_code 13 = .ok (.if_icmp .eq 5, 3) := by decide +kernel
theorem d_RR_accept_18 : decode prog_9_method_4_code 18 = .ok (.aload_n 0, 1) := by decide +kernel
theorem d_RR_accept_19 : decode prog_9_method_4_code 19 = .ok (.dup, 1) := by decide +kernel
theorem d_RR_accept_20 : decode prog_9_method_4_code 20 = .ok (.getfield 48, 3) := by decide +kernel
theorem d_RR_accept_23 : decode prog_9_method_4_code 23 = .ok (.iconst 1, 1) := by decide +kernel
theorem d_RR_accept_24 : decode prog_9_method_4_code 24 = .ok (.iadd, 1) := by decide +kernel
theorem d_RR_accept_25 : decode prog_9_method_4_code 25 = .ok (.putfield 48, 3) := by decide +kernel
theorem d_RR_accept_28 : decode prog_9_method_4_code 28 = .ok (.iconst 1, 1) := by decide +kernel
theorem d_RR_accept_29 : decode prog_9_method_4_code 29 = .ok (.ireturn, 1) := by decide +kernel
theorem d_RR_accept_16 : decode prog_9_method_4_code 16 = .ok (.iconst 0, 1) := by decide +kernel
theorem d_RR_accept_17 : decode prog_9_method_4_code 17 = .ok (.ireturn, 1) := by decide +kernel
theorem d_RR_know_0 : decode prog_9_method_6_code 0 = .ok (.aload_n 0, 1) := by decide +kernel
theorem d_RR_know_1 : decode prog_9_method_6_code 1 = .ok (.getfield 61, 3) := by decide +kernel
theorem d_RR_know_4 : decode prog_9_method_6_code 4 = .ok (.aload_n 0, 1) := by decide +kernel
theorem d_RR_know_5 : decode prog_9_method_6_code 5 = .ok (.getfield 28, 3) := by decide +kernel
theorem d_RR_know_8 : decode prog_9_method_6_code 8 = .ok (.arraylength, 1) := by decide +kernel
theorem d_RR_know_9 : decode prog_9_method_6_code 9 = .ok (.if_icmp .ge 54, 3) := by decide +kernel
theorem d_RR_know_63 : decode prog_9_method_6_code 63 = .ok (.return_, 1) := by decide +kernel
theorem d_RR_know_12 : decode prog_9_method_6_code 12 = .ok (.aload_n 0, 1) := by decide +kernel
theorem d_RR_know_13 : decode prog_9_method_6_code 13 = .ok (.getfield 28, 3) := by decide +kernel
theorem d_RR_know_16 : decode prog_9_method_6_code 16 = .ok (.aload_n 0, 1) := by decide +kernel
theorem d_RR_know_17 : decode prog_9_method_6_code 17 = .ok (.getfield 61, 3) := by decide +kernel
theorem d_RR_know_20 : decode prog_9_method_6_code 20 = .ok (.iload_n 1, 1) := by decide +kernel
theorem d_RR_know_21 : decode prog_9_method_6_code 21 = .ok (.iastore, 1) := by decide +kernel
theorem d_RR_know_22 : decode prog_9_method_6_code 22 = .ok (.aload_n 0, 1) := by decide +kernel
theorem d_RR_know_23 : decode prog_9_method_6_code 23 = .ok (.getfield 31, 3) := by decide +kernel
theorem d_RR_know_26 : decode prog_9_method_6_code 26 = .ok (.aload_n 0, 1) := by decide +kernel
theorem d_RR_know_27 : decode prog_9_method_6_code 27 = .ok (.getfield 61, 3) := by decide +kernel
theorem d_RR_know_30 : decode prog_9_method_6_code 30 = .ok (.iload_n 2, 1) := by decide +kernel
theorem d_RR_know_31 : decode prog_9_method_6_code 31 = .ok (.iastore, 1) := by decide +kernel
theorem d_RR_know_32 : decode prog_9_method_6_code 32 = .ok (.aload_n 0, 1) := by decide +kernel
theorem d_RR_know_33 : decode prog_9_method_6_code 33 = .ok (.getfield 34, 3) := by decide +kernel
theorem d_RR_know_36 : decode prog_9_method_6_code 36 = .ok (.aload_n 0, 1) := by decide +kernel
theorem d_RR_know_37 : decode prog_9_method_6_code 37 = .ok (.getfield 61, 3) := by decide +kernel
theorem d_RR_know_40 : decode prog_9_method_6_code 40 = .ok (.iload_n 3, 1) := by decide +kernel
theorem d_RR_know_41 : decode prog_9_method_6_code 41 = .ok (.iastore, 1) := by decide +kernel
theorem d_RR_know_42 : decode prog_9_method_6_code 42 = .ok (.aload_n 0, 1) := by decide +kernel
theorem d_RR_know_43 : decode prog_9_method_6_code 43 = .ok (.getfield 37, 3) := by decide +kernel
theorem d_RR_know_46 : decode prog_9_method_6_code 46 = .ok (.aload_n 0, 1) := by decide +kernel
theorem d_RR_know_47 : decode prog_9_method_6_code 47 = .ok (.getfield 61, 3) := by decide +kernel
theorem d_RR_know_50 : decode prog_9_method_6_code 50 = .ok (.iload 4, 2) := by decide +kernel
theorem d_RR_know_52 : decode prog_9_method_6_code 52 = .ok (.bastore, 1) := by decide +kernel
theorem d_RR_know_53 : decode prog_9_method_6_code 53 = .ok (.aload_n 0, 1) := by decide +kernel
theorem d_RR_know_54 : decode prog_9_method_6_code 54 = .ok (.dup, 1) := by decide +kernel
theorem d_RR_know_55 : decode prog_9_method_6_code 55 = .ok (.getfield 61, 3) := by decide +kernel
theorem d_RR_know_58 : decode prog_9_method_6_code 58 = .ok (.iconst 1, 1) := by decide +kernel
theorem d_RR_know_59 : decode prog_9_method_6_code 59 = .ok (.iadd, 1) := by decide +kernel
theorem d_RR_know_60 : decode prog_9_method_6_code 60 = .ok (.putfield 61, 3) := by decide +kernel
theorem d_RR_find_0 : decode prog_9_method_7_code 0 = .ok (.aload_n 0, 1) := by decide +kernel
theorem d_RR_find_1 : decode prog_9_method_7_code 1 = .ok (.getfield 40, 3) := by decide +kernel
theorem d_RR_find_4 : decode prog_9_method_7_code 4 = .ok (.getfield 72, 3) := by decide +kernel
theorem d_RR_find_7 : decode prog_9_method_7_code 7 = .ok (.iload_n 1, 1) := by decide +kernel
theorem d_RR_find_8 : decode prog_9_method_7_code 8 = .ok (.iaload, 1) := by decide +kernel
theorem d_RR_find_9 : decode prog_9_method_7_code 9 = .ok (.istore_n 2, 1) := by decide +kernel
theorem d_RR_find_10 : decode prog_9_method_7_code 10 = .ok (.iconst 0, 1) := by decide +kernel
theorem d_RR_find_11 : decode prog_9_method_7_code 11 = .ok (.istore_n 3, 1) := by decide +kernel
theorem d_RR_find_12 : decode prog_9_method_7_code 12 = .ok (.iload_n 3, 1) := by decide +kernel
theorem d_RR_find_13 : decode prog_9_method_7_code 13 = .ok (.aload_n 0, 1) := by decide +kernel
theorem d_RR_find_14 : decode prog_9_method_7_code 14 = .ok (.getfield 61, 3) := by decide +kernel
theorem d_RR_find_17 : decode prog_9_method_7_code 17 = .ok (.if_icmp .ge 63, 3) := by decide +kernel
theorem d_RR_find_80 : decode prog_9_method_7_code 80 = .ok (.iconst (-1), 1) := by decide +kernel
theorem d_RR_find_81 : decode prog_9_method_7_code 81 = .ok (.ireturn, 1) := by decide +kernel
theorem d_RR_find_20 : decode prog_9_method_7_code 20 = .ok (.aload_n 0, 1) := by decide +kernel
theorem d_RR_find_21 : decode prog_9_method_7_code 21 = .ok (.getfield 28, 3) := by decide +kernel
theorem d_RR_find_24 : decode prog_9_method_7_code 24 = .ok (.iload_n 3, 1) := by decide +kernel
theorem d_RR_find_25 : decode prog_9_method_7_code 25 = .ok (.iaload, 1) := by decide +kernel
theorem d_RR_find_26 : decode prog_9_method_7_code 26 = .ok (.istore 4, 2) := by decide +kernel
theorem d_RR_find_28 : decode prog_9_method_7_code 28 = .ok (.aload_n 0, 1) := by decide +kernel
theorem d_RR_find_29 : decode prog_9_method_7_code 29 = .ok (.getfield 40, 3) := by decide +kernel
theorem d_RR_find_32 : decode prog_9_method_7_code 32 = .ok (.getfield 72, 3) := by decide +kernel
theorem d_RR_find_35 : decode prog_9_method_7_code 35 = .ok (.iload 4, 2) := by decide +kernel
theorem d_RR_find_37 : decode prog_9_method_7_code 37 = .ok (.iaload, 1) := by decide +kernel
theorem d_RR_find_38 : decode prog_9_method_7_code 38 = .ok (.iload_n 2, 1) := by decide +kernel
theorem d_RR_find_39 : decode prog_9_method_7_code 39 = .ok (.if_icmp .ne 35, 3) := by decide +kernel
theorem d_RR_find_74 : decode prog_9_method_7_code 74 = .ok (.iinc 3 1, 3) := by decide +kernel
theorem d_RR_find_77 : decode prog_9_method_7_code 77 = .ok (.goto (-65), 3) := by decide +kernel
theorem d_RR_find_42 : decode prog_9_method_7_code 42 = .ok (.aload_n 0, 1) := by decide +kernel
theorem d_RR_find_43 : decode prog_9_method_7_code 43 = .ok (.getfield 40, 3) := by decide +kernel
theorem d_RR_find_46 : decode prog_9_method_7_code 46 = .ok (.aload_n 0, 1) := by decide +kernel
theorem d_RR_find_47 : decode prog_9_method_7_code 47 = .ok (.getfield 40, 3) := by decide +kernel
theorem d_RR_find_50 : decode prog_9_method_7_code 50 = .ok (.getfield 64, 3) := by decide +kernel
theorem d_RR_find_53 : decode prog_9_method_7_code 53 = .ok (.iload 4, 2) := by decide +kernel
theorem d_RR_find_55 : decode prog_9_method_7_code 55 = .ok (.iaload, 1) := by decide +kernel
theorem d_RR_find_56 : decode prog_9_method_7_code 56 = .ok (.aload_n 0, 1) := by decide +kernel
theorem d_RR_find_57 : decode prog_9_method_7_code 57 = .ok (.getfield 40, 3) := by decide +kernel
theorem d_RR_find_60 : decode prog_9_method_7_code 60 = .ok (.getfield 64, 3) := by decide +kernel
theorem d_RR_find_63 : decode prog_9_method_7_code 63 = .ok (.iload_n 1, 1) := by decide +kernel
theorem d_RR_find_64 : decode prog_9_method_7_code 64 = .ok (.iaload, 1) := by decide +kernel
theorem d_RR_find_65 : decode prog_9_method_7_code 65 = .ok (.iload_n 2, 1) := by decide +kernel
theorem d_RR_find_66 : decode prog_9_method_7_code 66 = .ok (.invokevirtual 75, 3) := by decide +kernel
theorem d_RR_find_69 : decode prog_9_method_7_code 69 = .ok (.ifCond .eq 5, 3) := by decide +kernel
theorem d_RR_find_72 : decode prog_9_method_7_code 72 = .ok (.iload_n 3, 1) := by decide +kernel
theorem d_RR_find_73 : decode prog_9_method_7_code 73 = .ok (.ireturn, 1) := by decide +kernel
def f_Re_inverse (l0 : Int32) (l1 : Int32) : Nat → Nat → Int64 → Int64 → Int64 → Int64 → Int32 → Option (Int32)
  | 0, _, _, _, _, _, _ => none
  | n + 1, 0, L2, L4, L6, L8, l10 => chk True (f_Re_inverse l0 l1 n 1 ((l0 : Int32).toInt64) ((l1 : Int32).toInt64) 1 0 0)
  | n + 1, 1, L2, L4, L6, L8, l10 => if (100 : Int32) ≤ l10 then (if (0 : Int32) ≤ (lg_cmp L6 0) then some ((L6 : Int64).toInt32) else some (((L6 + (l1 : Int32).toInt64) : Int64).toInt32)) else if ((lg_cmp L4 0) : Int32) = 0 then (if (0 : Int32) ≤ (lg_cmp L6 0) then some ((L6 : Int64).toInt32) else some (((L6 + (l1 : Int32).toInt64) : Int64).toInt32)) else chk (¬ (L4 : Int64) = 0) (f_Re_inverse l0 l1 n 1 L4 (L2 - ((L2 / L4) * L4)) L8 (L6 - ((L2 / L4) * L8)) (l10 + Int32.ofInt 1))
  | _ + 1, _ + 2, _, _, _, _, _ => none
theorem e_Re_inverse_0 (l0 : Int32) (l1 : Int32) (n : Nat) (L2 : Int64) (L4 : Int64) (L6 : Int64) (L8 : Int64) (l10 : Int32) : f_Re_inverse l0 l1 (n + 1) 0 L2 L4 L6 L8 l10 = chk True (f_Re_inverse l0 l1 n 1 ((l0 : Int32).toInt64) ((l1 : Int32).toInt64) 1 0 0) := by rw [f_Re_inverse]
theorem e_Re_inverse_1 (l0 : Int32) (l1 : Int32) (n : Nat) (L2 : Int64) (L4 : Int64) (L6 : Int64) (L8 : Int64) (l10 : Int32) : f_Re_inverse l0 l1 (n + 1) 1 L2 L4 L6 L8 l10 = if (100 : Int32) ≤ l10 then (if (0 : Int32) ≤ (lg_cmp L6 0) then some ((L6 : Int64).toInt32) else some (((L6 + (l1 : Int32).toInt64) : Int64).toInt32)) else if ((lg_cmp L4 0) : Int32) = 0 then (if (0 : Int32) ≤ (lg_cmp L6 0) then some ((L6 : Int64).toInt32) else some (((L6 + (l1 : Int32).toInt64) : Int64).toInt32)) else chk (¬ (L4 : Int64) = 0) (f_Re_inverse l0 l1 n 1 L4 (L2 - ((L2 / L4) * L4)) L8 (L6 - ((L2 / L4) * L8)) (l10 + Int32.ofInt 1)) := by rw [f_Re_inverse]
theorem z_Re_inverse (l0 : Int32) (l1 : Int32) (h : Nat) (L2 : Int64) (L4 : Int64) (L6 : Int64) (L8 : Int64) (l10 : Int32) : f_Re_inverse l0 l1 0 h L2 L4 L6 L8 l10 = none := by rw [f_Re_inverse]
set_option maxHeartbeats 4000000 in
set_option maxRecDepth 100000 in
theorem b_Re_inverse_0 {p : Program} {l : Launch} {e : Env} {s : State} {m : MethodId} {args : Array Value} {below : List Frame} {meth : Method} {c : Code} {D : va_G} {tA : Nat → ClassId} {A : Nat → Prop} {l0 : Int32} {l1 : Int32} {out : Int32} (hx : p.tables.exec = Jvm.exec) (hb : c.code = prog_8_method_8_code) (hr : meth.sig.returnType = (Option.some Jvm.ClassFile.FieldType.int)) (hml : c.maxLocals = 17) (hh : zH s) (hg : ∀ w ∈ lw_R, w.before args s = true) (hown : s.vm.findClass "ChanceArena$Residues" = some m.cls) (hlocks : meth.locks = false) (hK : va_K D vwCl (zT tA) s) (hA : ∀ q, s.heap.size ≤ q → A q) {n : Nat} (ih1 : ∀ (L2 : Int64) (L4 : Int64) (L6 : Int64) (L8 : Int64) (l10 : Int32) (H : Heap) (locs : List Loc) (ls : Array Slot), f_Re_inverse l0 l1 n 1 L2 L4 L6 L8 l10 = some out → va_P D vwCl [] H → va_D A [] → va_S A s.heap H locs → lv_has ls 17 [(0, .int l0), (1, .int l1), (2, .long L2), (4, .long L4), (6, .long L6), (8, .long L8), (10, .int l10)] → W p l e { frames := 0, cells := 0, slots := 0, locals := 0 } s m args below meth c H locs 0 0 (MQ below (va_Qi (fun (r9 : Int32) (u9 : Unit) => r9 = out) (zPost D A (fun (u9 : Unit) => [])) A) args s 0 0 A) (F0 m 16 ls [])) : ∀ (L2 : Int64) (L4 : Int64) (L6 : Int64) (L8 : Int64) (l10 : Int32) (H : Heap) (locs : List Loc) (ls : Array Slot), f_Re_inverse l0 l1 (n + 1) 0 L2 L4 L6 L8 l10 = some out → va_P D vwCl [] H → va_D A [] → va_S A s.heap H locs → lv_has ls 17 [(0, .int l0), (1, .int l1)] → W p l e { frames := 0, cells := 0, slots := 0, locals := 0 } s m args below meth c H locs 0 0 (MQ below (va_Qi (fun (r9 : Int32) (u9 : Unit) => r9 = out) (zPost D A (fun (u9 : Unit) => [])) A) args s 0 0 A) (F0 m 0 ls []) := by
  intro L2 L4 L6 L8 l10   H locs ls hF  hP hD hS hl
  rw [e_Re_inverse_0] at hF
  obtain ⟨_, hF⟩ := chk_some hF
  refine lv_iload_n hx hb d_Re_inverse_0 rfl (lv_at hl 0 rfl) ?_
  refine lv_i2l (v := (l0 : Int32).toInt64) hx hb d_Re_inverse_1 rfl ?_
  refine lv_lstore_n (lv' := [(2, .long ((l0 : Int32).toInt64)), (0, .int l0), (1, .int l1)]) hx hb d_Re_inverse_2 rfl hl (by decide) rfl (fun ls hl => ?_)
  refine lv_iload_n hx hb d_Re_inverse_3 rfl (lv_at hl 2 rfl) ?_
  refine lv_i2l (v := (l1 : Int32).toInt64) hx hb d_Re_inverse_4 rfl ?_
  refine lv_lstore (lv' := [(4, .long ((l1 : Int32).toInt64)), (2, .long ((l0 : Int32).toInt64)), (0, .int l0), (1, .int l1)]) hx hb d_Re_inverse_5 hl (by decide) rfl (fun ls hl => ?_)
  refine lv_lconst (v := 1) hx hb d_Re_inverse_7 (by decide) ?_
  refine lv_lstore (lv' := [(6, .long 1), (4, .long ((l1 : Int32).toInt64)), (2, .long ((l0 : Int32).toInt64)), (0, .int l0), (1, .int l1)]) hx hb d_Re_inverse_8 hl (by decide) rfl (fun ls hl => ?_)
  refine lv_lconst (v := 0) hx hb d_Re_inverse_10 (by decide) ?_
  refine lv_lstore (lv' := [(8, .long 0), (6, .long 1), (4, .long ((l1 : Int32).toInt64)), (2, .long ((l0 : Int32).toInt64)), (0, .int l0), (1, .int l1)]) hx hb d_Re_inverse_11 hl (by decide) rfl (fun ls hl => ?_)
  refine lv_iconst (v := 0) hx hb d_Re_inverse_13 (by decide) ?_
  refine lv_istore (lv' := [(10, .int 0), (8, .long 0), (6, .long 1), (4, .long ((l1 : Int32).toInt64)), (2, .long ((l0 : Int32).toInt64)), (0, .int l0), (1, .int l1)]) hx hb d_Re_inverse_14 hl (by decide) rfl (fun ls hl => ?_)
  exact ih1 ((l0 : Int32).toInt64) ((l1 : Int32).toInt64) 1 0 0   _ _ _ hF  hP hD hS (lv_sub hl [5, 6, 4, 3, 2, 1, 0] rfl)
set_option maxHeartbeats 4000000 in
set_option maxRecDepth 100000 in
theorem b_Re_inverse_1 {p : Program} {l : Launch} {e : Env} {s : State} {m : MethodId} {args : Array Value} {below : List Frame} {meth : Method} {c : Code} {D : va_G} {tA : Nat → ClassId} {A : Nat → Prop} {l0 : Int32} {l1 : Int32} {out : Int32} (hx : p.tables.exec = Jvm.exec) (hb : c.code = prog_8_method_8_code) (hr : meth.sig.returnType = (Option.some Jvm.ClassFile.FieldType.int)) (hml : c.maxLocals = 17) (hh : zH s) (hg : ∀ w ∈ lw_R, w.before args s = true) (hown : s.vm.findClass "ChanceArena$Residues" = some m.cls) (hlocks : meth.locks = false) (hK : va_K D vwCl (zT tA) s) (hA : ∀ q, s.heap.size ≤ q → A q) {n : Nat} (ih1 : ∀ (L2 : Int64) (L4 : Int64) (L6 : Int64) (L8 : Int64) (l10 : Int32) (H : Heap) (locs : List Loc) (ls : Array Slot), f_Re_inverse l0 l1 n 1 L2 L4 L6 L8 l10 = some out → va_P D vwCl [] H → va_D A [] → va_S A s.heap H locs → lv_has ls 17 [(0, .int l0), (1, .int l1), (2, .long L2), (4, .long L4), (6, .long L6), (8, .long L8), (10, .int l10)] → W p l e { frames := 0, cells := 0, slots := 0, locals := 0 } s m args below meth c H locs 0 0 (MQ below (va_Qi (fun (r9 : Int32) (u9 : Unit) => r9 = out) (zPost D A (fun (u9 : Unit) => [])) A) args s 0 0 A) (F0 m 16 ls [])) : ∀ (L2 : Int64) (L4 : Int64) (L6 : Int64) (L8 : Int64) (l10 : Int32) (H : Heap) (locs : List Loc) (ls : Array Slot), f_Re_inverse l0 l1 (n + 1) 1 L2 L4 L6 L8 l10 = some out → va_P D vwCl [] H → va_D A [] → va_S A s.heap H locs → lv_has ls 17 [(0, .int l0), (1, .int l1), (2, .long L2), (4, .long L4), (6, .long L6), (8, .long L8), (10, .int l10)] → W p l e { frames := 0, cells := 0, slots := 0, locals := 0 } s m args below meth c H locs 0 0 (MQ below (va_Qi (fun (r9 : Int32) (u9 : Unit) => r9 = out) (zPost D A (fun (u9 : Unit) => [])) A) args s 0 0 A) (F0 m 16 ls []) := by
  intro L2 L4 L6 L8 l10   H locs ls hF  hP hD hS hl
  rw [e_Re_inverse_1] at hF
  refine lv_iload hx hb d_Re_inverse_16 (lv_at hl 6 rfl) ?_
  refine lv_bipush (v := 100) hx hb d_Re_inverse_18 (by decide) ?_
  refine lv_icmp_ge (tgt := 76) hx hb d_Re_inverse_20 (by decide) (fun c9 => ?_) (fun c9 => ?_)
  · replace hF := ifp c9 hF
    refine lv_lload hx hb d_Re_inverse_76 (lv_at hl 4 rfl) ?_
    refine lv_lconst (v := 0) hx hb d_Re_inverse_78 (by decide) ?_
    refine W.lcmp hx hb d_Re_inverse_79 ?_
    refine lv_if_ge (tgt := 91) hx hb d_Re_inverse_80 (by decide) (fun c9 => ?_) (fun c9 => ?_)
    · replace hF := ifp c9 hF
      refine lv_lload hx hb d_Re_inverse_91 (lv_at hl 4 rfl) ?_
      refine lv_l2i (v := (L6 : Int64).toInt32) hx hb d_Re_inverse_93 rfl ?_
      replace hF := Option.some.inj hF
      subst hF
      exact zZret (post := (fun (r9 : Int32) (u9 : Unit) => r9 = ((L6 : Int64).toInt32))) (W1 := (fun (u9 : Unit) => [])) (v := (L6 : Int64).toInt32) hx hb hr rfl hlocks hP hD hS () rfl rfl d_Re_inverse_94
    · replace hF := ifn c9 hF
      refine lv_lload hx hb d_Re_inverse_83 (lv_at hl 4 rfl) ?_
      refine lv_iload_n hx hb d_Re_inverse_85 rfl (lv_at hl 1 rfl) ?_
      refine lv_i2l (v := (l1 : Int32).toInt64) hx hb d_Re_inverse_86 rfl ?_
      refine lv_ladd hx hb d_Re_inverse_87 ?_
      refine lv_goto (tgt := 93) hx hb d_Re_inverse_88 (by decide) ?_
      refine lv_l2i (v := ((L6 + (l1 : Int32).toInt64) : Int64).toInt32) hx hb d_Re_inverse_93 rfl ?_
      replace hF := Option.some.inj hF
      subst hF
      exact zZret (post := (fun (r9 : Int32) (u9 : Unit) => r9 = (((L6 + (l1 : Int32).toInt64) : Int64).toInt32))) (W1 := (fun (u9 : Unit) => [])) (v := ((L6 + (l1 : Int32).toInt64) : Int64).toInt32) hx hb hr rfl hlocks hP hD hS () rfl rfl d_Re_inverse_94
  · replace hF := ifn c9 hF
    refine lv_lload hx hb d_Re_inverse_23 (lv_at hl 3 rfl) ?_
    refine lv_lconst (v := 0) hx hb d_Re_inverse_25 (by decide) ?_
    refine W.lcmp hx hb d_Re_inverse_26 ?_
    refine lv_if_eq (tgt := 76) hx hb d_Re_inverse_27 (by decide) (fun c9 => ?_) (fun c9 => ?_)
    · replace hF := ifp c9 hF
      refine lv_lload hx hb d_Re_inverse_76 (lv_at hl 4 rfl) ?_
      refine lv_lconst (v := 0) hx hb d_Re_inverse_78 (by decide) ?_
      refine W.lcmp hx hb d_Re_inverse_79 ?_
      refine lv_if_ge (tgt := 91) hx hb d_Re_inverse_80 (by decide) (fun c9 => ?_) (fun c9 => ?_)
      · replace hF := ifp c9 hF
        refine lv_lload hx hb d_Re_inverse_91 (lv_at hl 4 rfl) ?_
        refine lv_l2i (v := (L6 : Int64).toInt32) hx hb d_Re_inverse_93 rfl ?_
        replace hF := Option.some.inj hF
        subst hF
        exact zZret (post := (fun (r9 : Int32) (u9 : Unit) => r9 = ((L6 : Int64).toInt32))) (W1 := (fun (u9 : Unit) => [])) (v := (L6 : Int64).toInt32) hx hb hr rfl hlocks hP hD hS () rfl rfl d_Re_inverse_94
      · replace hF := ifn c9 hF
        refine lv_lload hx hb d_Re_inverse_83 (lv_at hl 4 rfl) ?_
        refine lv_iload_n hx hb d_Re_inverse_85 rfl (lv_at hl 1 rfl) ?_
        refine lv_i2l (v := (l1 : Int32).toInt64) hx hb d_Re_inverse_86 rfl ?_
        refine lv_ladd hx hb d_Re_inverse_87 ?_
        refine lv_goto (tgt := 93) hx hb d_Re_inverse_88 (by decide) ?_
        refine lv_l2i (v := ((L6 + (l1 : Int32).toInt64) : Int64).toInt32) hx hb d_Re_inverse_93 rfl ?_
        replace hF := Option.some.inj hF
        subst hF
        exact zZret (post := (fun (r9 : Int32) (u9 : Unit) => r9 = (((L6 + (l1 : Int32).toInt64) : Int64).toInt32))) (W1 := (fun (u9 : Unit) => [])) (v := ((L6 + (l1 : Int32).toInt64) : Int64).toInt32) hx hb hr rfl hlocks hP hD hS () rfl rfl d_Re_inverse_94
    · replace hF := ifn c9 hF
      refine lv_lload_n hx hb d_Re_inverse_30 rfl (lv_at hl 2 rfl) ?_
      refine lv_lload hx hb d_Re_inverse_31 (lv_at hl 3 rfl) ?_
      obtain ⟨h9, hF⟩ := chk_some hF
      refine lv_ldiv hx hb d_Re_inverse_33 h9 ?_
      refine lv_lstore (lv' := [(11, .long (L2 / L4)), (0, .int l0), (1, .int l1), (2, .long L2), (4, .long L4), (6, .long L6), (8, .long L8), (10, .int l10)]) hx hb d_Re_inverse_34 hl (by decide) rfl (fun ls hl => ?_)
      refine lv_lload_n hx hb d_Re_inverse_36 rfl (lv_at hl 3 rfl) ?_
      refine lv_lload hx hb d_Re_inverse_37 (lv_at hl 0 rfl) ?_
      refine lv_lload hx hb d_Re_inverse_39 (lv_at hl 4 rfl) ?_
      refine lv_lmul hx hb d_Re_inverse_41 ?_
      refine lv_lsub hx hb d_Re_inverse_42 ?_
      refine lv_lstore (lv' := [(13, .long (L2 - ((L2 / L4) * L4))), (11, .long (L2 / L4)), (0, .int l0), (1, .int l1), (2, .long L2), (4, .long L4), (6, .long L6), (8, .long L8), (10, .int l10)]) hx hb d_Re_inverse_43 hl (by decide) rfl (fun ls hl => ?_)
      refine lv_lload hx hb d_Re_inverse_45 (lv_at hl 6 rfl) ?_
      refine lv_lload hx hb d_Re_inverse_47 (lv_at hl 1 rfl) ?_
      refine lv_lload hx hb d_Re_inverse_49 (lv_at hl 7 rfl) ?_
      refine lv_lmul hx hb d_Re_inverse_51 ?_
      refine lv_lsub hx hb d_Re_inverse_52 ?_
      refine lv_lstore (lv' := [(15, .long (L6 - ((L2 / L4) * L8))), (13, .long (L2 - ((L2 / L4) * L4))), (11, .long (L2 / L4)), (0, .int l0), (1, .int l1), (2, .long L2), (4, .long L4), (6, .long L6), (8, .long L8), (10, .int l10)]) hx hb d_Re_inverse_53 hl (by decide) rfl (fun ls hl => ?_)
      refine lv_lload hx hb d_Re_inverse_55 (lv_at hl 6 rfl) ?_
      refine lv_lstore_n (lv' := [(2, .long L4), (15, .long (L6 - ((L2 / L4) * L8))), (13, .long (L2 - ((L2 / L4) * L4))), (11, .long (L2 / L4)), (0, .int l0), (1, .int l1), (4, .long L4), (6, .long L6), (8, .long L8), (10, .int l10)]) hx hb d_Re_inverse_57 rfl hl (by decide) rfl (fun ls hl => ?_)
      refine lv_lload hx hb d_Re_inverse_58 (lv_at hl 2 rfl) ?_
      refine lv_lstore (lv' := [(4, .long (L2 - ((L2 / L4) * L4))), (2, .long L4), (15, .long (L6 - ((L2 / L4) * L8))), (13, .long (L2 - ((L2 / L4) * L4))), (11, .long (L2 / L4)), (0, .int l0), (1, .int l1), (6, .long L6), (8, .long L8), (10, .int l10)]) hx hb d_Re_inverse_60 hl (by decide) rfl (fun ls hl => ?_)
      refine lv_lload hx hb d_Re_inverse_62 (lv_at hl 8 rfl) ?_
      refine lv_lstore (lv' := [(6, .long L8), (4, .long (L2 - ((L2 / L4) * L4))), (2, .long L4), (15, .long (L6 - ((L2 / L4) * L8))), (13, .long (L2 - ((L2 / L4) * L4))), (11, .long (L2 / L4)), (0, .int l0), (1, .int l1), (8, .long L8), (10, .int l10)]) hx hb d_Re_inverse_64 hl (by decide) rfl (fun ls hl => ?_)
      refine lv_lload hx hb d_Re_inverse_66 (lv_at hl 3 rfl) ?_
      refine lv_lstore (lv' := [(8, .long (L6 - ((L2 / L4) * L8))), (6, .long L8), (4, .long (L2 - ((L2 / L4) * L4))), (2, .long L4), (15, .long (L6 - ((L2 / L4) * L8))), (13, .long (L2 - ((L2 / L4) * L4))), (11, .long (L2 / L4)), (0, .int l0), (1, .int l1), (10, .int l10)]) hx hb d_Re_inverse_68 hl (by decide) rfl (fun ls hl => ?_)
      refine lv_iinc (v := (l10 + Int32.ofInt 1)) (lv' := [(10, .int (l10 + Int32.ofInt 1)), (8, .long (L6 - ((L2 / L4) * L8))), (6, .long L8), (4, .long (L2 - ((L2 / L4) * L4))), (2, .long L4), (15, .long (L6 - ((L2 / L4) * L8))), (13, .long (L2 - ((L2 / L4) * L4))), (11, .long (L2 / L4)), (0, .int l0), (1, .int l1)]) hx hb d_Re_inverse_70 hl (k := 9) rfl rfl (by decide) rfl (fun ls hl => ?_)
      refine lv_goto (tgt := 16) hx hb d_Re_inverse_73 (by decide) ?_
      exact ih1 L4 (L2 - ((L2 / L4) * L4)) L8 (L6 - ((L2 / L4) * L8)) (l10 + Int32.ofInt 1)   _ _ _ hF  hP hD hS (lv_sub hl [8, 9, 4, 3, 2, 1, 0] rfl)
set_option maxHeartbeats 4000000 in
set_option maxRecDepth 100000 in
theorem a_Re_inverse {p : Program} {l : Launch} {e : Env} {s : State} {m : MethodId} {args : Array Value} {below : List Frame} {meth : Method} {c : Code} {D : va_G} {tA : Nat → ClassId} {A : Nat → Prop} {l0 : Int32} {l1 : Int32} {out : Int32} (hx : p.tables.exec = Jvm.exec) (hb : c.code = prog_8_method_8_code) (hr : meth.sig.returnType = (Option.some Jvm.ClassFile.FieldType.int)) (hml : c.maxLocals = 17) (hh : zH s) (hg : ∀ w ∈ lw_R, w.before args s = true) (hown : s.vm.findClass "ChanceArena$Residues" = some m.cls) (hlocks : meth.locks = false) (hK : va_K D vwCl (zT tA) s) (hA : ∀ q, s.heap.size ≤ q → A q) : ∀ n : Nat, (∀ (L2 : Int64) (L4 : Int64) (L6 : Int64) (L8 : Int64) (l10 : Int32) (H : Heap) (locs : List Loc) (ls : Array Slot), f_Re_inverse l0 l1 n 0 L2 L4 L6 L8 l10 = some out → va_P D vwCl [] H → va_D A [] → va_S A s.heap H locs → lv_has ls 17 [(0, .int l0), (1, .int l1)] → W p l e { frames := 0, cells := 0, slots := 0, locals := 0 } s m args below meth c H locs 0 0 (MQ below (va_Qi (fun (r9 : Int32) (u9 : Unit) => r9 = out) (zPost D A (fun (u9 : Unit) => [])) A) args s 0 0 A) (F0 m 0 ls [])) ∧ (∀ (L2 : Int64) (L4 : Int64) (L6 : Int64) (L8 : Int64) (l10 : Int32) (H : Heap) (locs : List Loc) (ls : Array Slot), f_Re_inverse l0 l1 n 1 L2 L4 L6 L8 l10 = some out → va_P D vwCl [] H → va_D A [] → va_S A s.heap H locs → lv_has ls 17 [(0, .int l0), (1, .int l1), (2, .long L2), (4, .long L4), (6, .long L6), (8, .long L8), (10, .int l10)] → W p l e { frames := 0, cells := 0, slots := 0, locals := 0 } s m args below meth c H locs 0 0 (MQ below (va_Qi (fun (r9 : Int32) (u9 : Unit) => r9 = out) (zPost D A (fun (u9 : Unit) => [])) A) args s 0 0 A) (F0 m 16 ls [])) := by
  intro n
  induction n with
  | zero => exact ⟨(fun _ _ _ _ _ _ _ _ hF => by rw [z_Re_inverse] at hF; cases hF), (fun _ _ _ _ _ _ _ _ hF => by rw [z_Re_inverse] at hF; cases hF)⟩
  | succ n ih =>
    obtain ⟨i0, i1⟩ := ih
    exact ⟨b_Re_inverse_0 hx hb hr hml hh hg hown hlocks hK hA i1, b_Re_inverse_1 hx hb hr hml hh hg hown hlocks hK hA i1⟩
set_option maxHeartbeats 4000000 in
set_option maxRecDepth 100000 in
theorem m_Re_inverse (l : Launch) (D : va_G) (tA : Nat → ClassId) (sz : Nat) (l0 : Int32) (l1 : Int32) (n : Nat) (out : Int32) (hF : f_Re_inverse l0 l1 n 0 0 0 0 0 0 = some out) : zMi l ({ cls := "ChanceArena$Residues", name := "inverse", desc := "(II)I" } : Jvm.MethodName) (zW (Jvm.Cond.code ({ cls := "ChanceArena$Residues", name := "inverse", desc := "(II)I" } : Jvm.MethodName) prog_8_method_8_code (17 : Nat) (Option.some Jvm.ClassFile.FieldType.int))) { frames := 0, cells := 0, slots := 0, locals := 0 } [.int l0, .int l1] D tA [] sz (fun (r9 : Int32) (u9 : Unit) => r9 = out) (fun (u9 : Unit) => []) 0 0 := by
  refine zOpen (l := l) (y := ({ cls := "ChanceArena$Residues", name := "inverse", desc := "(II)I" } : Jvm.MethodName)) (ws := zW (Jvm.Cond.code ({ cls := "ChanceArena$Residues", name := "inverse", desc := "(II)I" } : Jvm.MethodName) prog_8_method_8_code (17 : Nat) (Option.some Jvm.ClassFile.FieldType.int))) (rm := { frames := 0, cells := 0, slots := 0, locals := 0 }) (av := [.int l0, .int l1]) (D := D) (tA := tA) (W0 := []) (Wm := []) (sz := sz) (mc := 0) (ms := 0) (fun A => va_Qi (fun (r9 : Int32) (u9 : Unit) => r9 = out) (zPost D A (fun (u9 : Unit) => [])) A) (lv := [(0, .int l0), (1, .int l1)]) (by decide) rfl (Nat.le_of_ble_eq_true rfl) rfl ?_
  intro p e s m below meth c A ls hx hb hr hml hh hg hown hlocks hnm hK hA hP hD0 hAw hS hl
  have hD := zD hD0 hAw
  exact (a_Re_inverse hx hb hr hml hh hg hown hlocks hK hA n).1 0 0 0 0 0   _ _ _ hF  hP hD hS hl
def f_RR_begin (h0_at : Int32) (h0_fault : Int32) (h0_place : Int32) (h0_depth : Int32) (h0_nameCount : Int32) : Option (Int32 × Int32 × Int32 × Int32 × Int32) := some (0, 0, (-1), 0, 0)
set_option maxHeartbeats 4000000 in
set_option maxRecDepth 100000 in
theorem b_RR_begin_0 {p : Program} {l : Launch} {e : Env} {s : State} {m : MethodId} {args : Array Value} {below : List Frame} {meth : Method} {c : Code} {D : va_G} {tA : Nat → ClassId} {A : Nat → Prop} {h0 p1 p2 : Nat} {f0_h0 f0_p1 f0_p2 : List Value} {h0_at : Int32} {h0_fault : Int32} {h0_place : Int32} {h0_depth : Int32} {h0_nameCount : Int32} {out : Int32 × Int32 × Int32 × Int32 × Int32} (hx : p.tables.exec = Jvm.exec) (hb : c.code = prog_9_method_2_code) (hr : meth.sig.returnType = (Option.none : Option Jvm.ClassFile.FieldType)) (hml : c.maxLocals = 3) (hh : zH s) (hg : ∀ w ∈ lw_R, w.before args s = true) (hown : s.vm.findClass "ChanceArena$RuleReader" = some m.cls) (hlocks : meth.locks = false) (hK : va_K D vwCl (zT tA) s) (hA : ∀ q, s.heap.size ≤ q → A q)  : ∀ (f_h0 : List Value) (H : Heap) (locs : List Loc) (ls : Array Slot), f_RR_begin h0_at h0_fault h0_place h0_depth h0_nameCount = some out → f_h0.length = 20 → f_h0[2]? = some (.int h0_at) → f_h0[3]? = some (.int h0_fault) → f_h0[4]? = some (.int h0_place) → f_h0[5]? = some (.int h0_depth) → f_h0[19]? = some (.int h0_nameCount) → Fr [0, 1, 2, 3, 4, 5, 19] f0_h0 f_h0 → va_P D vwCl [(h0, .inr (3, f_h0)), (p1, .inr (1, f0_p1)), (p2, .inr (5, f0_p2))] H → va_D A [(h0, .inr (3, f_h0)), (p1, .inr (1, f0_p1)), (p2, .inr (5, f0_p2))] → va_S A s.heap H locs → lv_has ls 3 [(0, .ref h0), (1, .ref p1), (2, .ref p2)] → W p l e { frames := 0, cells := 0, slots := 0, locals := 0 } s m args below meth c H locs 0 0 (MQ below (va_Qv (fun (u9 : List Value) => Fr [0, 1, 2, 3, 4, 5, 19] f0_h0 u9 ∧ u9[2]? = some (.int out.1) ∧ u9[3]? = some (.int out.2.1) ∧ u9[4]? = some (.int out.2.2.1) ∧ u9[5]? = some (.int out.2.2.2.1) ∧ u9[19]? = some (.int out.2.2.2.2) ∧ u9[1]? = some (.ref p2) ∧ u9[0]? = some (.ref p1)) (zPost D A (fun (u9 : List Value) => [(h0, .inr (3, u9)), (p1, .inr (1, f0_p1)), (p2, .inr (5, f0_p2))])) A) args s 0 0 A) (F0 m 0 ls []) := by
  intro   f_h0 H locs ls hF q_h0_len q_h0_at q_h0_fault q_h0_place q_h0_depth q_h0_nameCount r_h0 hP hD hS hl
  replace hF : ((some (0, 0, (-1), 0, 0)) : Option (Int32 × Int32 × Int32 × Int32 × Int32)) = some out := hF
  refine lv_aload_n hx hb d_RR_begin_0 rfl (lv_at hl 0 rfl) ?_
  refine lv_aload_n hx hb d_RR_begin_1 rfl (lv_at hl 1 rfl) ?_
  refine va_put (D := D) (ci := 3) (v := .ref p1) (ty := .object "ChanceArena$Words") (C := R_RR) (T := T_RR) (N := 20) hx hb hg i_RR t_RR o_RR n_RR hown hK hP hD hS 0 rfl rfl 0 (by decide) (hg _ k1_95) (fun _ h9 => h9) rfl (by decide +kernel) rfl rfl (zLn q_h0_len (by decide)) d_RR_begin_2 (fun H1 locs1 hP1 hD1 hS1 => ?_)
  clear hP hD hS
  replace hP1 : va_P D vwCl [(h0, .inr (3, f_h0.set 0 (.ref p1))), (p1, .inr (1, f0_p1)), (p2, .inr (5, f0_p2))] _ := hP1
  replace hD1 : va_D A [(h0, .inr (3, f_h0.set 0 (.ref p1))), (p1, .inr (1, f0_p1)), (p2, .inr (5, f0_p2))] := hD1
  refine lv_aload_n hx hb d_RR_begin_5 rfl (lv_at hl 0 rfl) ?_
  refine lv_aload_n hx hb d_RR_begin_6 rfl (lv_at hl 2 rfl) ?_
  refine va_put (D := D) (ci := 3) (v := .ref p2) (ty := .object "ChanceArena$Program") (C := R_RR) (T := T_RR) (N := 20) hx hb hg i_RR t_RR o_RR n_RR hown hK hP1 hD1 hS1 0 rfl rfl 1 (by decide) (hg _ k1_97) (fun _ h9 => h9) rfl (by decide +kernel) rfl rfl (zLn (zLs q_h0_len) (by decide)) d_RR_begin_7 (fun H2 locs2 hP2 hD2 hS2 => ?_)
  clear hP1 hD1 hS1
  replace hP2 : va_P D vwCl [(h0, .inr (3, (f_h0.set 0 (.ref p1)).set 1 (.ref p2))), (p1, .inr (1, f0_p1)), (p2, .inr (5, f0_p2))] _ := hP2
  replace hD2 : va_D A [(h0, .inr (3, (f_h0.set 0 (.ref p1)).set 1 (.ref p2))), (p1, .inr (1, f0_p1)), (p2, .inr (5, f0_p2))] := hD2
  refine lv_aload_n hx hb d_RR_begin_10 rfl (lv_at hl 0 rfl) ?_
  refine lv_iconst (v := 0) hx hb d_RR_begin_11 (by decide) ?_
  refine va_put (D := D) (ci := 3) (v := .int 0) (ty := .int) (C := R_RR) (T := T_RR) (N := 20) hx hb hg i_RR t_RR o_RR n_RR hown hK hP2 hD2 hS2 0 rfl rfl 2 (by decide) (hg _ k1_98) (fun _ h9 => h9) rfl (by decide +kernel) rfl rfl (zLen (zSetN (by decide) (zSetN (by decide) q_h0_at))) d_RR_begin_12 (fun H3 locs3 hP3 hD3 hS3 => ?_)
  clear hP2 hD2 hS2
  replace hP3 : va_P D vwCl [(h0, .inr (3, ((f_h0.set 0 (.ref p1)).set 1 (.ref p2)).set 2 (.int 0))), (p1, .inr (1, f0_p1)), (p2, .inr (5, f0_p2))] _ := hP3
  replace hD3 : va_D A [(h0, .inr (3, ((f_h0.set 0 (.ref p1)).set 1 (.ref p2)).set 2 (.int 0))), (p1, .inr (1, f0_p1)), (p2, .inr (5, f0_p2))] := hD3
  refine lv_aload_n hx hb d_RR_begin_15 rfl (lv_at hl 0 rfl) ?_
  refine lv_iconst (v := 0) hx hb d_RR_begin_16 (by decide) ?_
  refine va_put (D := D) (ci := 3) (v := .int 0) (ty := .int) (C := R_RR) (T := T_RR) (N := 20) hx hb hg i_RR t_RR o_RR n_RR hown hK hP3 hD3 hS3 0 rfl rfl 3 (by decide) (hg _ k1_100) (fun _ h9 => h9) rfl (by decide +kernel) rfl rfl (zLen (zSetN (by decide) (zSetN (by decide) (zSetN (by decide) q_h0_fault)))) d_RR_begin_17 (fun H4 locs4 hP4 hD4 hS4 => ?_)
  clear hP3 hD3 hS3
  replace hP4 : va_P D vwCl [(h0, .inr (3, (((f_h0.set 0 (.ref p1)).set 1 (.ref p2)).set 2 (.int 0)).set 3 (.int 0))), (p1, .inr (1, f0_p1)), (p2, .inr (5, f0_p2))] _ := hP4
  replace hD4 : va_D A [(h0, .inr (3, (((f_h0.set 0 (.ref p1)).set 1 (.ref p2)).set 2 (.int 0)).set 3 (.int 0))), (p1, .inr (1, f0_p1)), (p2, .inr (5, f0_p2))] := hD4
  refine lv_aload_n hx hb d_RR_begin_20 rfl (lv_at hl 0 rfl) ?_
  refine lv_iconst (v := (-1)) hx hb d_RR_begin_21 (by decide) ?_
  refine va_put (D := D) (ci := 3) (v := .int (-1)) (ty := .int) (C := R_RR) (T := T_RR) (N := 20) hx hb hg i_RR t_RR o_RR n_RR hown hK hP4 hD4 hS4 0 rfl rfl 4 (by decide) (hg _ k1_103) (fun _ h9 => h9) rfl (by decide +kernel) rfl rfl (zLen (zSetN (by decide) (zSetN (by decide) (zSetN (by decide) (zSetN (by decide) q_h0_place))))) d_RR_begin_22 (fun H5 locs5 hP5 hD5 hS5 => ?_)
  clear hP4 hD4 hS4
  replace hP5 : va_P D vwCl [(h0, .inr (3, ((((f_h0.set 0 (.ref p1)).set 1 (.ref p2)).set 2 (.int 0)).set 3 (.int 0)).set 4 (.int (-1)))), (p1, .inr (1, f0_p1)), (p2, .inr (5, f0_p2))] _ := hP5
  replace hD5 : va_D A [(h0, .inr (3, ((((f_h0.set 0 (.ref p1)).set 1 (.ref p2)).set 2 (.int 0)).set 3 (.int 0)).set 4 (.int (-1)))), (p1, .inr (1, f0_p1)), (p2, .inr (5, f0_p2))] := hD5
  refine lv_aload_n hx hb d_RR_begin_25 rfl (lv_at hl 0 rfl) ?_
  refine lv_iconst (v := 0) hx hb d_RR_begin_26 (by decide) ?_
  refine va_put (D := D) (ci := 3) (v := .int 0) (ty := .int) (C := R_RR) (T := T_RR) (N := 20) hx hb hg i_RR t_RR o_RR n_RR hown hK hP5 hD5 hS5 0 rfl rfl 5 (by decide) (hg _ k1_104) (fun _ h9 => h9) rfl (by decide +kernel) rfl rfl (zLen (zSetN (by decide) (zSetN (by decide) (zSetN (by decide) (zSetN (by decide) (zSetN (by decide) q_h0_depth)))))) d_RR_begin_27 (fun H6 locs6 hP6 hD6 hS6 => ?_)
  clear hP5 hD5 hS5
  replace hP6 : va_P D vwCl [(h0, .inr (3, (((((f_h0.set 0 (.ref p1)).set 1 (.ref p2)).set 2 (.int 0)).set 3 (.int 0)).set 4 (.int (-1))).set 5 (.int 0))), (p1, .inr (1, f0_p1)), (p2, .inr (5, f0_p2))] _ := hP6
  replace hD6 : va_D A [(h0, .inr (3, (((((f_h0.set 0 (.ref p1)).set 1 (.ref p2)).set 2 (.int 0)).set 3 (.int 0)).set 4 (.int (-1))).set 5 (.int 0))), (p1, .inr (1, f0_p1)), (p2, .inr (5, f0_p2))] := hD6
  refine lv_aload_n hx hb d_RR_begin_30 rfl (lv_at hl 0 rfl) ?_
  refine lv_iconst (v := 0) hx hb d_RR_begin_31 (by decide) ?_
  refine va_put (D := D) (ci := 3) (v := .int 0) (ty := .int) (C := R_RR) (T := T_RR) (N := 20) hx hb hg i_RR t_RR o_RR n_RR hown hK hP6 hD6 hS6 0 rfl rfl 19 (by decide) (hg _ k1_120) (fun _ h9 => h9) rfl (by decide +kernel) rfl rfl (zLen (zSetN (by decide) (zSetN (by decide) (zSetN (by decide) (zSetN (by decide) (zSetN (by decide) (zSetN (by decide) q_h0_nameCount))))))) d_RR_begin_32 (fun H7 locs7 hP7 hD7 hS7 => ?_)
  clear hP6 hD6 hS6
  replace hP7 : va_P D vwCl [(h0, .inr (3, ((((((f_h0.set 0 (.ref p1)).set 1 (.ref p2)).set 2 (.int 0)).set 3 (.int 0)).set 4 (.int (-1))).set 5 (.int 0)).set 19 (.int 0))), (p1, .inr (1, f0_p1)), (p2, .inr (5, f0_p2))] _ := hP7
  replace hD7 : va_D A [(h0, .inr (3, ((((((f_h0.set 0 (.ref p1)).set 1 (.ref p2)).set 2 (.int 0)).set 3 (.int 0)).set 4 (.int (-1))).set 5 (.int 0)).set 19 (.int 0))), (p1, .inr (1, f0_p1)), (p2, .inr (5, f0_p2))] := hD7
  replace hF := Option.some.inj hF
  subst hF
  exact zVret (post := (fun (u9 : List Value) => Fr [0, 1, 2, 3, 4, 5, 19] f0_h0 u9 ∧ u9[2]? = some (.int ((0, 0, (-1), 0, 0).1)) ∧ u9[3]? = some (.int ((0, 0, (-1), 0, 0).2.1)) ∧ u9[4]? = some (.int ((0, 0, (-1), 0, 0).2.2.1)) ∧ u9[5]? = some (.int ((0, 0, (-1), 0, 0).2.2.2.1)) ∧ u9[19]? = some (.int ((0, 0, (-1), 0, 0).2.2.2.2)) ∧ u9[1]? = some (.ref p2) ∧ u9[0]? = some (.ref p1))) (W1 := (fun (u9 : List Value) => [(h0, .inr (3, u9)), (p1, .inr (1, f0_p1)), (p2, .inr (5, f0_p2))])) hx hb hr hlocks hP7 hD7 hS7 (((((((f_h0.set 0 (.ref p1)).set 1 (.ref p2)).set 2 (.int 0)).set 3 (.int 0)).set 4 (.int (-1))).set 5 (.int 0)).set 19 (.int 0)) ⟨(Fr.set (Fr.set (Fr.set (Fr.set (Fr.set (Fr.set (Fr.set r_h0 (by decide)) (by decide)) (by decide)) (by decide)) (by decide)) (by decide)) (by decide)), (zSetN (by decide) (zSetN (by decide) (zSetN (by decide) (zSetN (by decide) (zSetS (zSetN (by decide) (zSetN (by decide) q_h0_at))))))), (zSetN (by decide) (zSetN (by decide) (zSetN (by decide) (zSetS (zSetN (by decide) (zSetN (by decide) (zSetN (by decide) q_h0_fault))))))), (zSetN (by decide) (zSetN (by decide) (zSetS (zSetN (by decide) (zSetN (by decide) (zSetN (by decide) (zSetN (by decide) q_h0_place))))))), (zSetN (by decide) (zSetS (zSetN (by decide) (zSetN (by decide) (zSetN (by decide) (zSetN (by decide) (zSetN (by decide) q_h0_depth))))))), (zSetS (zSetN (by decide) (zSetN (by decide) (zSetN (by decide) (zSetN (by decide) (zSetN (by decide) (zSetN (by decide) q_h0_nameCount))))))), (zSetN (by decide) (zSetN (by decide) (zSetN (by decide) (zSetN (by decide) (zSetN (by decide) (zSetL (zLn (zLs q_h0_len) (by decide)))))))), (zSetN (by decide) (zSetN (by decide) (zSetN (by decide) (zSetN (by decide) (zSetN (by decide) (zSetN (by decide) (zSetL (zLn q_h0_len (by decide)))))))))⟩ rfl d_RR_begin_35
set_option maxHeartbeats 4000000 in
set_option maxRecDepth 100000 in
theorem m_RR_begin (l : Launch) (D : va_G) (tA : Nat → ClassId) (sz : Nat) (h0 p1 p2 : Nat) (f0_h0 f0_p1 f0_p2 : List Value) (h0_at : Int32) (h0_fault : Int32) (h0_place : Int32) (h0_depth : Int32) (h0_nameCount : Int32) (q_h0_len : f0_h0.length = 20) (q_h0_at : f0_h0[2]? = some (.int h0_at)) (q_h0_fault : f0_h0[3]? = some (.int h0_fault)) (q_h0_place : f0_h0[4]? = some (.int h0_place)) (q_h0_depth : f0_h0[5]? = some (.int h0_depth)) (q_h0_nameCount : f0_h0[19]? = some (.int h0_nameCount)) (out : Int32 × Int32 × Int32 × Int32 × Int32) (hF : f_RR_begin h0_at h0_fault h0_place h0_depth h0_nameCount = some out) : zMv l ({ cls := "ChanceArena$RuleReader", name := "begin", desc := "(LChanceArena$Words;LChanceArena$Program;)V" } : Jvm.MethodName) (zW (Jvm.Cond.code ({ cls := "ChanceArena$RuleReader", name := "begin", desc := "(LChanceArena$Words;LChanceArena$Program;)V" } : Jvm.MethodName) prog_9_method_2_code (3 : Nat) (Option.none : Option Jvm.ClassFile.FieldType))) { frames := 0, cells := 0, slots := 0, locals := 0 } [.ref h0, .ref p1, .ref p2] D tA [(h0, .inr (3, f0_h0)), (p1, .inr (1, f0_p1)), (p2, .inr (5, f0_p2))] sz (fun (u9 : List Value) => Fr [0, 1, 2, 3, 4, 5, 19] f0_h0 u9 ∧ u9[2]? = some (.int out.1) ∧ u9[3]? = some (.int out.2.1) ∧ u9[4]? = some (.int out.2.2.1) ∧ u9[5]? = some (.int out.2.2.2.1) ∧ u9[19]? = some (.int out.2.2.2.2) ∧ u9[1]? = some (.ref p2) ∧ u9[0]? = some (.ref p1)) (fun (u9 : List Value) => [(h0, .inr (3, u9)), (p1, .inr (1, f0_p1)), (p2, .inr (5, f0_p2))]) 0 0 := by
  refine zOpen (l := l) (y := ({ cls := "ChanceArena$RuleReader", name := "begin", desc := "(LChanceArena$Words;LChanceArena$Program;)V" } : Jvm.MethodName)) (ws := zW (Jvm.Cond.code ({ cls := "ChanceArena$RuleReader", name := "begin", desc := "(LChanceArena$Words;LChanceArena$Program;)V" } : Jvm.MethodName) prog_9_method_2_code (3 : Nat) (Option.none : Option Jvm.ClassFile.FieldType))) (rm := { frames := 0, cells := 0, slots := 0, locals := 0 }) (av := [.ref h0, .ref p1, .ref p2]) (D := D) (tA := tA) (W0 := [(h0, .inr (3, f0_h0)), (p1, .inr (1, f0_p1)), (p2, .inr (5, f0_p2))]) (Wm := [(h0, .inr (3, f0_h0)), (p1, .inr (1, f0_p1)), (p2, .inr (5, f0_p2))]) (sz := sz) (mc := 0) (ms := 0) (fun A => va_Qv (fun (u9 : List Value) => Fr [0, 1, 2, 3, 4, 5, 19] f0_h0 u9 ∧ u9[2]? = some (.int out.1) ∧ u9[3]? = some (.int out.2.1) ∧ u9[4]? = some (.int out.2.2.1) ∧ u9[5]? = some (.int out.2.2.2.1) ∧ u9[19]? = some (.int out.2.2.2.2) ∧ u9[1]? = some (.ref p2) ∧ u9[0]? = some (.ref p1)) (zPost D A (fun (u9 : List Value) => [(h0, .inr (3, u9)), (p1, .inr (1, f0_p1)), (p2, .inr (5, f0_p2))])) A) (lv := [(0, .ref h0), (1, .ref p1), (2, .ref p2)]) (by decide) rfl (Nat.le_of_ble_eq_true rfl) rfl ?_
  intro p e s m below meth c A ls hx hb hr hml hh hg hown hlocks hnm hK hA hP hD0 hAw hS hl
  have hD := zD hD0 hAw
  exact b_RR_begin_0 hx hb hr hml hh hg hown hlocks hK hA   f0_h0 _ _ _ hF q_h0_len q_h0_at q_h0_fault q_h0_place q_h0_depth q_h0_nameCount Fr.rfl hP hD hS hl
def f_RR_here (h0_words_starts_n : Nat) (h0_at : Int32) (h0_words_starts_c : Nat → Int32) : Option (Int32) := chk (0 ≤ (h0_at : Int32).toInt ∧ (h0_at : Int32).toInt < h0_words_starts_n) (some ((h0_words_starts_c (h0_at : Int32).toNatClampNeg)))
set_option maxHeartbeats 4000000 in
set_option maxRecDepth 100000 in
theorem b_RR_here_0 {p : Program} {l : Launch} {e : Env} {s : State} {m : MethodId} {args : Array Value} {below : List Frame} {meth : Method} {c : Code} {D : va_G} {tA : Nat → ClassId} {A : Nat → Prop} {h0 h0_words h0_words_starts : Nat} {f0_h0 f0_h0_words : List Value} {h0_words_starts_n : Nat} {h0_at : Int32} {h0_words_starts_c : Nat → Int32} {out : Int32} (hx : p.tables.exec = Jvm.exec) (hb : c.code = prog_9_method_3_code) (hr : meth.sig.returnType = (Option.some Jvm.ClassFile.FieldType.int)) (hml : c.maxLocals = 1) (hh : zH s) (hg : ∀ w ∈ lw_R, w.before args s = true) (hown : s.vm.findClass "ChanceArena$RuleReader" = some m.cls) (hlocks : meth.locks = false) (hK : va_K D vwCl (zT tA) s) (hA : ∀ q, s.heap.size ≤ q → A q)  : ∀ (H : Heap) (locs : List Loc) (ls : Array Slot), f_RR_here h0_words_starts_n h0_at h0_words_starts_c = some out → f0_h0[0]? = some (.ref h0_words) → f0_h0[2]? = some (.int h0_at) → f0_h0_words[4]? = some (.ref h0_words_starts) → va_P D vwCl [(h0, .inr (3, f0_h0)), (h0_words, .inr (1, f0_h0_words)), (h0_words_starts, .inl (tA 0, h0_words_starts_n, .inl h0_words_starts_c))] H → va_D A [(h0, .inr (3, f0_h0)), (h0_words, .inr (1, f0_h0_words)), (h0_words_starts, .inl (tA 0, h0_words_starts_n, .inl h0_words_starts_c))] → va_S A s.heap H locs → lv_has ls 1 [(0, .ref h0)] → W p l e { frames := 0, cells := 0, slots := 0, locals := 0 } s m args below meth c H locs 0 0 (MQ below (va_Qi (fun (r9 : Int32) (u9 : Unit) => r9 = out) (zPost D A (fun (u9 : Unit) => [(h0, .inr (3, f0_h0)), (h0_words, .inr (1, f0_h0_words)), (h0_words_starts, .inl (tA 0, h0_words_starts_n, .inl h0_words_starts_c))])) A) args s 0 0 A) (F0 m 0 ls []) := by
  intro    H locs ls hF q_h0_words q_h0_at q_h0_words_starts hP hD hS hl
  replace hF : ((chk (0 ≤ (h0_at : Int32).toInt ∧ (h0_at : Int32).toInt < h0_words_starts_n) (some ((h0_words_starts_c (h0_at : Int32).toNatClampNeg)))) : Option (Int32)) = some out := hF
  refine lv_aload_n hx hb d_RR_here_0 rfl (lv_at hl 0 rfl) ?_
  refine va_get (D := D) (ci := 3) (v := .ref h0_words) (C := R_RR) (T := T_RR) (N := 20) hx hb hg i_RR hown hK hP 0 rfl rfl 0 (by decide) (hg _ k1_95) (fun _ h9 => h9) q_h0_words d_RR_here_1 ?_
  refine va_get (D := D) (ci := 1) (v := .ref h0_words_starts) (C := R_Wo) (T := T_Wo) (N := 6) hx hb hg i_Wo hown hK hP 1 rfl rfl 4 (by decide) (hg _ k1_64) (fun _ h9 => h9) q_h0_words_starts d_RR_here_4 ?_
  refine lv_aload_n hx hb d_RR_here_7 rfl (lv_at hl 0 rfl) ?_
  refine va_get (D := D) (ci := 3) (v := .int h0_at) (C := R_RR) (T := T_RR) (N := 20) hx hb hg i_RR hown hK hP 0 rfl rfl 2 (by decide) (hg _ k1_98) (fun _ h9 => h9) q_h0_at d_RR_here_8 ?_
  obtain ⟨h9, hF⟩ := chk_some hF
  refine va_iald hx hb hK hP 2 0 rfl rfl (vp_in_iff.mpr h9) d_RR_here_11 ?_
  replace hF := Option.some.inj hF
  subst hF
  exact zZret (post := (fun (r9 : Int32) (u9 : Unit) => r9 = (h0_words_starts_c (h0_at : Int32).toNatClampNeg))) (W1 := (fun (u9 : Unit) => [(h0, .inr (3, f0_h0)), (h0_words, .inr (1, f0_h0_words)), (h0_words_starts, .inl (tA 0, h0_words_starts_n, .inl h0_words_starts_c))])) (v := (h0_words_starts_c (h0_at : Int32).toNatClampNeg)) hx hb hr rfl hlocks hP hD hS () rfl rfl d_RR_here_12
set_option maxHeartbeats 4000000 in
set_option maxRecDepth 100000 in
theorem m_RR_here (l : Launch) (D : va_G) (tA : Nat → ClassId) (sz : Nat) (h0 h0_words h0_words_starts : Nat) (f0_h0 f0_h0_words : List Value) (h0_words_starts_n : Nat) (h0_at : Int32) (h0_words_starts_c : Nat → Int32) (q_h0_words : f0_h0[0]? = some (.ref h0_words)) (q_h0_at : f0_h0[2]? = some (.int h0_at)) (q_h0_words_starts : f0_h0_words[4]? = some (.ref h0_words_starts)) (out : Int32) (hF : f_RR_here h0_words_starts_n h0_at h0_words_starts_c = some out) : zMi l ({ cls := "ChanceArena$RuleReader", name := "here", desc := "()I" } : Jvm.MethodName) (zW (Jvm.Cond.code ({ cls := "ChanceArena$RuleReader", name := "here", desc := "()I" } : Jvm.MethodName) prog_9_method_3_code (1 : Nat) (Option.some Jvm.ClassFile.FieldType.int))) { frames := 0, cells := 0, slots := 0, locals := 0 } [.ref h0] D tA [(h0, .inr (3, f0_h0)), (h0_words, .inr (1, f0_h0_words)), (h0_words_starts, .inl (tA 0, h0_words_starts_n, .inl h0_words_starts_c))] sz (fun (r9 : Int32) (u9 : Unit) => r9 = out) (fun (u9 : Unit) => [(h0, .inr (3, f0_h0)), (h0_words, .inr (1, f0_h0_words)), (h0_words_starts, .inl (tA 0, h0_words_starts_n, .inl h0_words_starts_c))]) 0 0 := by
  refine zOpen (l := l) (y := ({ cls := "ChanceArena$RuleReader", name := "here", desc := "()I" } : Jvm.MethodName)) (ws := zW (Jvm.Cond.code ({ cls := "ChanceArena$RuleReader", name := "here", desc := "()I" } : Jvm.MethodName) prog_9_method_3_code (1 : Nat) (Option.some Jvm.ClassFile.FieldType.int))) (rm := { frames := 0, cells := 0, slots := 0, locals := 0 }) (av := [.ref h0]) (D := D) (tA := tA) (W0 := [(h0, .inr (3, f0_h0)), (h0_words, .inr (1, f0_h0_words)), (h0_words_starts, .inl (tA 0, h0_words_starts_n, .inl h0_words_starts_c))]) (Wm := [(h0, .inr (3, f0_h0)), (h0_words, .inr (1, f0_h0_words)), (h0_words_starts, .inl (tA 0, h0_words_starts_n, .inl h0_words_starts_c))]) (sz := sz) (mc := 0) (ms := 0) (fun A => va_Qi (fun (r9 : Int32) (u9 : Unit) => r9 = out) (zPost D A (fun (u9 : Unit) => [(h0, .inr (3, f0_h0)), (h0_words, .inr (1, f0_h0_words)), (h0_words_starts, .inl (tA 0, h0_words_starts_n, .inl h0_words_starts_c))])) A) (lv := [(0, .ref h0)]) (by decide) rfl (Nat.le_of_ble_eq_true rfl) rfl ?_
  intro p e s m below meth c A ls hx hb hr hml hh hg hown hlocks hnm hK hA hP hD0 hAw hS hl
  have hD := zD hD0 hAw
  exact b_RR_here_0 hx hb hr hml hh hg hown hlocks hK hA    _ _ _ hF q_h0_words q_h0_at q_h0_words_starts hP hD hS hl
def f_RR_accept (h0_words_sorts_n : Nat) (l1 : Int32) (h0_words_sorts_c : Nat → Int32) (h0_at : Int32) : Option (Int32 × Int32) := chk (0 ≤ (h0_at : Int32).toInt ∧ (h0_at : Int32).toInt < h0_words_sorts_n) (if ((h0_words_sorts_c (h0_at : Int32).toNatClampNeg) : Int32) = l1 then some (1, (h0_at + 1)) else some (0, h0_at))
set_option maxHeartbeats 4000000 in
set_option maxRecDepth 100000 in
theorem b_RR_accept_0 {p : Program} {l : Launch} {e : Env} {s : State} {m : MethodId} {args : Array Value} {below : List Frame} {meth : Method} {c : Code} {D : va_G} {tA : Nat → ClassId} {A : Nat → Prop} {h0 h0_words h0_words_sorts : Nat} {f0_h0 f0_h0_words : List Value} {h0_words_sorts_n : Nat} {l1 : Int32} {h0_words_sorts_c : Nat → Int32} {h0_at : Int32} {out : Int32 × Int32} (hx : p.tables.exec = Jvm.exec) (hb : c.code = prog_9_method_4_code) (hr : meth.sig.returnType = (Option.some Jvm.ClassFile.FieldType.boolean)) (hml : c.maxLocals = 2) (hh : zH s) (hg : ∀ w ∈ lw_R, w.before args s = true) (hown : s.vm.findClass "ChanceArena$RuleReader" = some m.cls) (hlocks : meth.locks = false) (hK : va_K D vwCl (zT tA) s) (hA : ∀ q, s.heap.size ≤ q → A q)  : ∀ (f_h0 : List Value) (H : Heap) (locs : List Loc) (ls : Array Slot), f_RR_accept h0_words_sorts_n l1 h0_words_sorts_c h0_at = some out → f_h0[0]? = some (.ref h0_words) → f_h0[2]? = some (.int h0_at) → Fr [2] f0_h0 f_h0 → f0_h0_words[3]? = some (.ref h0_words_sorts) → va_P D vwCl [(h0, .inr (3, f_h0)), (h0_words, .inr (1, f0_h0_words)), (h0_words_sorts, .inl (tA 0, h0_words_sorts_n, .inl h0_words_sorts_c))] H → va_D A [(h0, .inr (3, f_h0)), (h0_words, .inr (1, f0_h0_words)), (h0_words_sorts, .inl (tA 0, h0_words_sorts_n, .inl h0_words_sorts_c))] → va_S A s.heap H locs → lv_has ls 2 [(0, .ref h0), (1, .int l1)] → W p l e { frames := 0, cells := 0, slots := 0, locals := 0 } s m args below meth c H locs 0 0 (MQ below (va_Qi (fun (r9 : Int32) (u9 : List Value) => r9 = out.1 ∧ Fr [2] f0_h0 u9 ∧ u9[2]? = some (.int out.2)) (zPost D A (fun (u9 : List Value) => [(h0, .inr (3, u9)), (h0_words, .inr (1, f0_h0_words)), (h0_words_sorts, .inl (tA 0, h0_words_sorts_n, .inl h0_words_sorts_c))])) A) args s 0 0 A) (F0 m 0 ls []) := by
  intro   f_h0 H locs ls hF q_h0_words q_h0_at r_h0 q_h0_words_sorts hP hD hS hl
  replace hF : ((chk (0 ≤ (h0_at : Int32).toInt ∧ (h0_at : Int32).toInt < h0_words_sorts_n) (if ((h0_words_sorts_c (h0_at : Int32).toNatClampNeg) : Int32) = l1 then some (1, (h0_at + 1)) else some (0, h0_at))) : Option (Int32 × Int32)) = some out := hF
  refine lv_aload_n hx hb d_RR_accept_0 rfl (lv_at hl 0 rfl) ?_
  refine va_get (D := D) (ci := 3) (v := .ref h0_words) (C := R_RR) (T := T_RR) (N := 20) hx hb hg i_RR hown hK hP 0 rfl rfl 0 (by decide) (hg _ k1_95) (fun _ h9 => h9) q_h0_words d_RR_accept_1 ?_
  refine va_get (D := D) (ci := 1) (v := .ref h0_words_sorts) (C := R_Wo) (T := T_Wo) (N := 6) hx hb hg i_Wo hown hK hP 1 rfl rfl 3 (by decide) (hg _ k1_62) (fun _ h9 => h9) q_h0_words_sorts d_RR_accept_4 ?_
  refine lv_aload_n hx hb d_RR_accept_7 rfl (lv_at hl 0 rfl) ?_
  refine va_get (D := D) (ci := 3) (v := .int h0_at) (C := R_RR) (T := T_RR) (N := 20) hx hb hg i_RR hown hK hP 0 rfl rfl 2 (by decide) (hg _ k1_98) (fun _ h9 => h9) q_h0_at d_RR_accept_8 ?_
  obtain ⟨h9, hF⟩ := chk_some hF
  refine va_iald hx hb hK hP 2 0 rfl rfl (vp_in_iff.mpr h9) d_RR_accept_11 ?_
  refine lv_iload_n hx hb d_RR_accept_12 rfl (lv_at hl 1 rfl) ?_
  refine lv_icmp_eq (tgt := 18) hx hb d_RR_accept_13 (by decide) (fun c9 => ?_) (fun c9 => ?_)
  · replace hF := ifp c9 hF
    refine lv_aload_n hx hb d_RR_accept_18 rfl (lv_at hl 0 rfl) ?_
    refine lv_dup hx hb d_RR_accept_19 rfl ?_
    refine va_get (D := D) (ci := 3) (v := .int h0_at) (C := R_RR) (T := T_RR) (N := 20) hx hb hg i_RR hown hK hP 0 rfl rfl 2 (by decide) (hg _ k1_98) (fun _ h9 => h9) q_h0_at d_RR_accept_20 ?_
    refine lv_iconst (v := 1) hx hb d_RR_accept_23 (by decide) ?_
    refine lv_iadd hx hb d_RR_accept_24 ?_
    refine va_put (D := D) (ci := 3) (v := .int (h0_at + 1)) (ty := .int) (C := R_RR) (T := T_RR) (N := 20) hx hb hg i_RR t_RR o_RR n_RR hown hK hP hD hS 0 rfl rfl 2 (by decide) (hg _ k1_98) (fun _ h9 => h9) rfl (by decide +kernel) rfl rfl (zLen q_h0_at) d_RR_accept_25 (fun H1 locs1 hP1 hD1 hS1 => ?_)
    clear hP hD hS
    replace hP1 : va_P D vwCl [(h0, .inr (3, f_h0.set 2 (.int (h0_at + 1)))), (h0_words, .inr (1, f0_h0_words)), (h0_words_sorts, .inl (tA 0, h0_words_sorts_n, .inl h0_words_sorts_c))] _ := hP1
    replace hD1 : va_D A [(h0, .inr (3, f_h0.set 2 (.int (h0_at + 1)))), (h0_words, .inr (1, f0_h0_words)), (h0_words_sorts, .inl (tA 0, h0_words_sorts_n, .inl h0_words_sorts_c))] := hD1
    refine lv_iconst (v := 1) hx hb d_RR_accept_28 (by decide) ?_
    replace hF := Option.some.inj hF
    subst hF
    exact zZret (post := (fun (r9 : Int32) (u9 : List Value) => r9 = (1, (h0_at + 1)).1 ∧ Fr [2] f0_h0 u9 ∧ u9[2]? = some (.int ((1, (h0_at + 1)).2)))) (W1 := (fun (u9 : List Value) => [(h0, .inr (3, u9)), (h0_words, .inr (1, f0_h0_words)), (h0_words_sorts, .inl (tA 0, h0_words_sorts_n, .inl h0_words_sorts_c))])) (v := 1) hx hb hr rfl hlocks hP1 hD1 hS1 (f_h0.set 2 (.int (h0_at + 1))) ⟨rfl, (Fr.set r_h0 (by decide)), (zSetS q_h0_at)⟩ rfl d_RR_accept_29
  · replace hF := ifn c9 hF
    refine lv_iconst (v := 0) hx hb d_RR_accept_16 (by decide) ?_
    replace hF := Option.some.inj hF
    subst hF
    exact zZret (post := (fun (r9 : Int32) (u9 : List Value) => r9 = (0, h0_at).1 ∧ Fr [2] f0_h0 u9 ∧ u9[2]? = some (.int ((0, h0_at).2)))) (W1 := (fun (u9 : List Value) => [(h0, .inr (3, u9)), (h0_words, .inr (1, f0_h0_words)), (h0_words_sorts, .inl (tA 0, h0_words_sorts_n, .inl h0_words_sorts_c))])) (v := 0) hx hb hr rfl hlocks hP hD hS (f_h0) ⟨rfl, r_h0, q_h0_at⟩ rfl d_RR_accept_17
set_option maxHeartbeats 4000000 in
set_option maxRecDepth 100000 in
theorem m_RR_accept (l : Launch) (D : va_G) (tA : Nat → ClassId) (sz : Nat) (h0 h0_words h0_words_sorts : Nat) (f0_h0 f0_h0_words : List Value) (h0_words_sorts_n : Nat) (l1 : Int32) (h0_words_sorts_c : Nat → Int32) (h0_at : Int32) (q_h0_words : f0_h0[0]? = some (.ref h0_words)) (q_h0_at : f0_h0[2]? = some (.int h0_at)) (q_h0_words_sorts : f0_h0_words[3]? = some (.ref h0_words_sorts)) (out : Int32 × Int32) (hF : f_RR_accept h0_words_sorts_n l1 h0_words_sorts_c h0_at = some out) : zMi l ({ cls := "ChanceArena$RuleReader", name := "accept", desc := "(I)Z" } : Jvm.MethodName) (zW (Jvm.Cond.code ({ cls := "ChanceArena$RuleReader", name := "accept", desc := "(I)Z" } : Jvm.MethodName) prog_9_method_4_code (2 : Nat) (Option.some Jvm.ClassFile.FieldType.boolean))) { frames := 0, cells := 0, slots := 0, locals := 0 } [.ref h0, .int l1] D tA [(h0, .inr (3, f0_h0)), (h0_words, .inr (1, f0_h0_words)), (h0_words_sorts, .inl (tA 0, h0_words_sorts_n, .inl h0_words_sorts_c))] sz (fun (r9 : Int32) (u9 : List Value) => r9 = out.1 ∧ Fr [2] f0_h0 u9 ∧ u9[2]? = some (.int out.2)) (fun (u9 : List Value) => [(h0, .inr (3, u9)), (h0_words, .inr (1, f0_h0_words)), (h0_words_sorts, .inl (tA 0, h0_words_sorts_n, .inl h0_words_sorts_c))]) 0 0 := by
  refine zOpen (l := l) (y := ({ cls := "ChanceArena$RuleReader", name := "accept", desc := "(I)Z" } : Jvm.MethodName)) (ws := zW (Jvm.Cond.code ({ cls := "ChanceArena$RuleReader", name := "accept", desc := "(I)Z" } : Jvm.MethodName) prog_9_method_4_code (2 : Nat) (Option.some Jvm.ClassFile.FieldType.boolean))) (rm := { frames := 0, cells := 0, slots := 0, locals := 0 }) (av := [.ref h0, .int l1]) (D := D) (tA := tA) (W0 := [(h0, .inr (3, f0_h0)), (h0_words, .inr (1, f0_h0_words)), (h0_words_sorts, .inl (tA 0, h0_words_sorts_n, .inl h0_words_sorts_c))]) (Wm := [(h0, .inr (3, f0_h0)), (h0_words, .inr (1, f0_h0_words)), (h0_words_sorts, .inl (tA 0, h0_words_sorts_n, .inl h0_words_sorts_c))]) (sz := sz) (mc := 0) (ms := 0) (fun A => va_Qi (fun (r9 : Int32) (u9 : List Value) => r9 = out.1 ∧ Fr [2] f0_h0 u9 ∧ u9[2]? = some (.int out.2)) (zPost D A (fun (u9 : List Value) => [(h0, .inr (3, u9)), (h0_words, .inr (1, f0_h0_words)), (h0_words_sorts, .inl (tA 0, h0_words_sorts_n, .inl h0_words_sorts_c))])) A) (lv := [(0, .ref h0), (1, .int l1)]) (by decide) rfl (Nat.le_of_ble_eq_true rfl) rfl ?_
  intro p e s m below meth c A ls hx hb hr hml hh hg hown hlocks hnm hK hA hP hD0 hAw hS hl
  have hD := zD hD0 hAw
  exact b_RR_accept_0 hx hb hr hml hh hg hown hlocks hK hA   f0_h0 _ _ _ hF q_h0_words q_h0_at Fr.rfl q_h0_words_sorts hP hD hS hl
def f_RR_note (l1 : Int32) (l2 : Int32) (h0_fault : Int32) (h0_place : Int32) : Option (Int32 × Int32) := if ¬ (h0_fault : Int32) = 0 then some (h0_fault, h0_place) else some (l1, l2)
set_option maxHeartbeats 4000000 in
set_option maxRecDepth 100000 in
theorem b_RR_note_0 {p : Program} {l : Launch} {e : Env} {s : State} {m : MethodId} {args : Array Value} {below : List Frame} {meth : Method} {c : Code} {D : va_G} {tA : Nat → ClassId} {A : Nat → Prop} {h0 : Nat} {f0_h0 : List Value} {l1 : Int32} {l2 : Int32} {h0_fault : Int32} {h0_place : Int32} {out : Int32 × Int32} (hx : p.tables.exec = Jvm.exec) (hb : c.code = prog_9_method_5_code) (hr : meth.sig.returnType = (Option.none : Option Jvm.ClassFile.FieldType)) (hml : c.maxLocals = 3) (hh : zH s) (hg : ∀ w ∈ lw_R, w.before args s = true) (hown : s.vm.findClass "ChanceArena$RuleReader" = some m.cls) (hlocks : meth.locks = false) (hK : va_K D vwCl (zT tA) s) (hA : ∀ q, s.heap.size ≤ q → A q)  : ∀ (f_h0 : List Value) (H : Heap) (locs : List Loc) (ls : Array Slot), f_RR_note l1 l2 h0_fault h0_place = some out → f_h0[3]? = some (.int h0_fault) → f_h0[4]? = some (.int h0_place) → Fr [3, 4] f0_h0 f_h0 → va_P D vwCl [(h0, .inr (3, f_h0))] H → va_D A [(h0, .inr (3, f_h0))] → va_S A s.heap H locs → lv_has ls 3 [(0, .ref h0), (1, .int l1), (2, .int l2)] → W p l e { frames := 0, cells := 0, slots := 0, locals := 0 } s m args below meth c H locs 0 0 (MQ below (va_Qv (fun (u9 : List Value) => Fr [3, 4] f0_h0 u9 ∧ u9[3]? = some (.int out.1) ∧ u9[4]? = some (.int out.2)) (zPost D A (fun (u9 : List Value) => [(h0, .inr (3, u9))])) A) args s 0 0 A) (F0 m 0 ls []) := by
  intro   f_h0 H locs ls hF q_h0_fault q_h0_place r_h0 hP hD hS hl
  replace hF : ((if ¬ (h0_fault : Int32) = 0 then some (h0_fault, h0_place) else some (l1, l2)) : Option (Int32 × Int32)) = some out := hF
  refine lv_aload_n hx hb d_RR_note_0 rfl (lv_at hl 0 rfl) ?_
  refine va_get (D := D) (ci := 3) (v := .int h0_fault) (C := R_RR) (T := T_RR) (N := 20) hx hb hg i_RR hown hK hP 0 rfl rfl 3 (by decide) (hg _ k1_100) (fun _ h9 => h9) q_h0_fault d_RR_note_1 ?_
  refine lv_if_ne (tgt := 17) hx hb d_RR_note_4 (by decide) (fun c9 => ?_) (fun c9 => ?_)
  · replace hF := ifp c9 hF
    replace hF := Option.some.inj hF
    subst hF
    exact zVret (post := (fun (u9 : List Value) => Fr [3, 4] f0_h0 u9 ∧ u9[3]? = some (.int ((h0_fault, h0_place).1)) ∧ u9[4]? = some (.int ((h0_fault, h0_place).2)))) (W1 := (fun (u9 : List Value) => [(h0, .inr (3, u9))])) hx hb hr hlocks hP hD hS (f_h0) ⟨r_h0, q_h0_fault, q_h0_place⟩ rfl d_RR_note_17
  · replace hF := ifn (fun h9 => h9 c9) hF
    refine lv_aload_n hx hb d_RR_note_7 rfl (lv_at hl 0 rfl) ?_
    refine lv_iload_n hx hb d_RR_note_8 rfl (lv_at hl 1 rfl) ?_
    refine va_put (D := D) (ci := 3) (v := .int l1) (ty := .int) (C := R_RR) (T := T_RR) (N := 20) hx hb hg i_RR t_RR o_RR n_RR hown hK hP hD hS 0 rfl rfl 3 (by decide) (hg _ k1_100) (fun _ h9 => h9) rfl (by decide +kernel) rfl rfl (zLen q_h0_fault) d_RR_note_9 (fun H1 locs1 hP1 hD1 hS1 => ?_)
    clear hP hD hS
    replace hP1 : va_P D vwCl [(h0, .inr (3, f_h0.set 3 (.int l1)))] _ := hP1
    replace hD1 : va_D A [(h0, .inr (3, f_h0.set 3 (.int l1)))] := hD1
    refine lv_aload_n hx hb d_RR_note_12 rfl (lv_at hl 0 rfl) ?_
    refine lv_iload_n hx hb d_RR_note_13 rfl (lv_at hl 2 rfl) ?_
    refine va_put (D := D) (ci := 3) (v := .int l2) (ty := .int) (C := R_RR) (T := T_RR) (N := 20) hx hb hg i_RR t_RR o_RR n_RR hown hK hP1 hD1 hS1 0 rfl rfl 4 (by decide) (hg _ k1_103) (fun _ h9 => h9) rfl (by decide +kernel) rfl rfl (zLen (zSetN (by decide) q_h0_place)) d_RR_note_14 (fun H2 locs2 hP2 hD2 hS2 => ?_)
    clear hP1 hD1 hS1
    replace hP2 : va_P D vwCl [(h0, .inr (3, (f_h0.set 3 (.int l1)).set 4 (.int l2)))] _ := hP2
    replace hD2 : va_D A [(h0, .inr (3, (f_h0.set 3 (.int l1)).set 4 (.int l2)))] := hD2
    replace hF := Option.some.inj hF
    subst hF
    exact zVret (post := (fun (u9 : List Value) => Fr [3, 4] f0_h0 u9 ∧ u9[3]? = some (.int ((l1, l2).1)) ∧ u9[4]? = some (.int ((l1, l2).2)))) (W1 := (fun (u9 : List Value) => [(h0, .inr (3, u9))])) hx hb hr hlocks hP2 hD2 hS2 ((f_h0.set 3 (.int l1)).set 4 (.int l2)) ⟨(Fr.set (Fr.set r_h0 (by decide)) (by decide)), (zSetN (by decide) (zSetS q_h0_fault)), (zSetS (zSetN (by decide) q_h0_place))⟩ rfl d_RR_note_17
set_option maxHeartbeats 4000000 in
set_option maxRecDepth 100000 in
theorem m_RR_note (l : Launch) (D : va_G) (tA : Nat → ClassId) (sz : Nat) (h0 : Nat) (f0_h0 : List Value) (l1 : Int32) (l2 : Int32) (h0_fault : Int32) (h0_place : Int32) (q_h0_fault : f0_h0[3]? = some (.int h0_fault)) (q_h0_place : f0_h0[4]? = some (.int h0_place)) (out : Int32 × Int32) (hF : f_RR_note l1 l2 h0_fault h0_place = some out) : zMv l ({ cls := "ChanceArena$RuleReader", name := "note", desc := "(II)V" } : Jvm.MethodName) (zW (Jvm.Cond.code ({ cls := "ChanceArena$RuleReader", name := "note", desc := "(II)V" } : Jvm.MethodName) prog_9_method_5_code (3 : Nat) (Option.none : Option Jvm.ClassFile.FieldType))) { frames := 0, cells := 0, slots := 0, locals := 0 } [.ref h0, .int l1, .int l2] D tA [(h0, .inr (3, f0_h0))] sz (fun (u9 : List Value) => Fr [3, 4] f0_h0 u9 ∧ u9[3]? = some (.int out.1) ∧ u9[4]? = some (.int out.2)) (fun (u9 : List Value) => [(h0, .inr (3, u9))]) 0 0 := by
  refine zOpen (l := l) (y := ({ cls := "ChanceArena$RuleReader", name := "note", desc := "(II)V" } : Jvm.MethodName)) (ws := zW (Jvm.Cond.code ({ cls := "ChanceArena$RuleReader", name := "note", desc := "(II)V" } : Jvm.MethodName) prog_9_method_5_code (3 : Nat) (Option.none : Option Jvm.ClassFile.FieldType))) (rm := { frames := 0, cells := 0, slots := 0, locals := 0 }) (av := [.ref h0, .int l1, .int l2]) (D := D) (tA := tA) (W0 := [(h0, .inr (3, f0_h0))]) (Wm := [(h0, .inr (3, f0_h0))]) (sz := sz) (mc := 0) (ms := 0) (fun A => va_Qv (fun (u9 : List Value) => Fr [3, 4] f0_h0 u9 ∧ u9[3]? = some (.int out.1) ∧ u9[4]? = some (.int out.2)) (zPost D A (fun (u9 : List Value) => [(h0, .inr (3, u9))])) A) (lv := [(0, .ref h0), (1, .int l1), (2, .int l2)]) (by decide) rfl (Nat.le_of_ble_eq_true rfl) rfl ?_
  intro p e s m below meth c A ls hx hb hr hml hh hg hown hlocks hnm hK hA hP hD0 hAw hS hl
  have hD := zD hD0 hAw
  exact b_RR_note_0 hx hb hr hml hh hg hown hlocks hK hA   f0_h0 _ _ _ hF q_h0_fault q_h0_place Fr.rfl hP hD hS hl
def f_RR_know (h0_nameWord_n : Nat) (h0_nameSort_n : Nat) (h0_nameIndex_n : Nat) (h0_nameTruth_n : Nat) (l1 : Int32) (l2 : Int32) (l3 : Int32) (l4 : Int32) (h0_nameCount : Int32) (h0_nameWord_c : Nat → Int32) (h0_nameSort_c : Nat → Int32) (h0_nameIndex_c : Nat → Int32) (h0_nameTruth_c : Nat → Int32) : Option (Int32 × (Nat → Int32) × (Nat → Int32) × (Nat → Int32) × (Nat → Int32)) := if ((Int32.ofNat h0_nameWord_n) : Int32) ≤ h0_nameCount then some (h0_nameCount, h0_nameWord_c, h0_nameSort_c, h0_nameIndex_c, h0_nameTruth_c) else chk (0 ≤ (h0_nameCount : Int32).toInt ∧ (h0_nameCount : Int32).toInt < h0_nameWord_n) (chk (0 ≤ (h0_nameCount : Int32).toInt ∧ (h0_nameCount : Int32).toInt < h0_nameSort_n) (chk (0 ≤ (h0_nameCount : Int32).toInt ∧ (h0_nameCount : Int32).toInt < h0_nameIndex_n) (chk (0 ≤ (h0_nameCount : Int32).toInt ∧ (h0_nameCount : Int32).toInt < h0_nameTruth_n) (some ((h0_nameCount + 1), upd h0_nameWord_c (h0_nameCount : Int32).toNatClampNeg l1, upd h0_nameSort_c (h0_nameCount : Int32).toNatClampNeg l2, upd h0_nameIndex_c (h0_nameCount : Int32).toNatClampNeg l3, upd h0_nameTruth_c (h0_nameCount : Int32).toNatClampNeg (vp_nar .boolean l4))))))
set_option maxHeartbeats 4000000 in
set_option maxRecDepth 100000 in
theorem b_RR_know_0 {p : Program} {l : Launch} {e : Env} {s : State} {m : MethodId} {args : Array Value} {below : List Frame} {meth : Method} {c : Code} {D : va_G} {tA : Nat → ClassId} {A : Nat → Prop} {h0 h0_nameWord h0_nameSort h0_nameIndex h0_nameTruth : Nat} {f0_h0 : List Value} {h0_nameWord_n : Nat} {h0_nameSort_n : Nat} {h0_nameIndex_n : Nat} {h0_nameTruth_n : Nat} {l1 : Int32} {l2 : Int32} {l3 : Int32} {l4 : Int32} {h0_nameCount : Int32} {h0_nameWord_c : Nat → Int32} {h0_nameSort_c : Nat → Int32} {h0_nameIndex_c : Nat → Int32} {h0_nameTruth_c : Nat → Int32} {out : Int32 × (Nat → Int32) × (Nat → Int32) × (Nat → Int32) × (Nat → Int32)} (hx : p.tables.exec = Jvm.exec) (hb : c.code = prog_9_method_6_code) (hr : meth.sig.returnType = (Option.none : Option Jvm.ClassFile.FieldType)) (hml : c.maxLocals = 5) (hh : zH s) (hg : ∀ w ∈ lw_R, w.before args s = true) (hown : s.vm.findClass "ChanceArena$RuleReader" = some m.cls) (hlocks : meth.locks = false) (hK : va_K D vwCl (zT tA) s) (hA : ∀ q, s.heap.size ≤ q → A q)  : ∀ (f_h0 : List Value) (H : Heap) (locs : List Loc) (ls : Array Slot), f_RR_know h0_nameWord_n h0_nameSort_n h0_nameIndex_n h0_nameTruth_n l1 l2 l3 l4 h0_nameCount h0_nameWord_c h0_nameSort_c h0_nameIndex_c h0_nameTruth_c = some out → f_h0[15]? = some (.ref h0_nameWord) → f_h0[16]? = some (.ref h0_nameSort) → f_h0[17]? = some (.ref h0_nameIndex) → f_h0[18]? = some (.ref h0_nameTruth) → f_h0[19]? = some (.int h0_nameCount) → Fr [19] f0_h0 f_h0 → va_P D vwCl [(h0, .inr (3, f_h0)), (h0_nameWord, .inl (tA 0, h0_nameWord_n, .inl h0_nameWord_c)), (h0_nameSort, .inl (tA 0, h0_nameSort_n, .inl h0_nameSort_c)), (h0_nameIndex, .inl (tA 0, h0_nameIndex_n, .inl h0_nameIndex_c)), (h0_nameTruth, .inl (tA 1, h0_nameTruth_n, .inl h0_nameTruth_c))] H → va_D A [(h0, .inr (3, f_h0)), (h0_nameWord, .inl (tA 0, h0_nameWord_n, .inl h0_nameWord_c)), (h0_nameSort, .inl (tA 0, h0_nameSort_n, .inl h0_nameSort_c)), (h0_nameIndex, .inl (tA 0, h0_nameIndex_n, .inl h0_nameIndex_c)), (h0_nameTruth, .inl (tA 1, h0_nameTruth_n, .inl h0_nameTruth_c))] → va_S A s.heap H locs → lv_has ls 5 [(0, .ref h0), (1, .int l1), (2, .int l2), (3, .int l3), (4, .int l4)] → W p l e { frames := 0, cells := 0, slots := 0, locals := 0 } s m args below meth c H locs 0 0 (MQ below (va_Qv (fun (u9 : List Value) => Fr [19] f0_h0 u9 ∧ u9[19]? = some (.int out.1)) (zPost D A (fun (u9 : List Value) => [(h0, .inr (3, u9)), (h0_nameWord, .inl (tA 0, h0_nameWord_n, .inl out.2.1)), (h0_nameSort, .inl (tA 0, h0_nameSort_n, .inl out.2.2.1)), (h0_nameIndex, .inl (tA 0, h0_nameIndex_n, .inl out.2.2.2.1)), (h0_nameTruth, .inl (tA 1, h0_nameTruth_n, .inl out.2.2.2.2))])) A) args s 0 0 A) (F0 m 0 ls []) := by
  intro   f_h0 H locs ls hF q_h0_nameWord q_h0_nameSort q_h0_nameIndex q_h0_nameTruth q_h0_nameCount r_h0 hP hD hS hl
  replace hF : ((if ((Int32.ofNat h0_nameWord_n) : Int32) ≤ h0_nameCount then some (h0_nameCount, h0_nameWord_c, h0_nameSort_c, h0_nameIndex_c, h0_nameTruth_c) else chk (0 ≤ (h0_nameCount : Int32).toInt ∧ (h0_nameCount : Int32).toInt < h0_nameWord_n) (chk (0 ≤ (h0_nameCount : Int32).toInt ∧ (h0_nameCount : Int32).toInt < h0_nameSort_n) (chk (0 ≤ (h0_nameCount : Int32).toInt ∧ (h0_nameCount : Int32).toInt < h0_nameIndex_n) (chk (0 ≤ (h0_nameCount : Int32).toInt ∧ (h0_nameCount : Int32).toInt < h0_nameTruth_n) (some ((h0_nameCount + 1), upd h0_nameWord_c (h0_nameCount : Int32).toNatClampNeg l1, upd h0_nameSort_c (h0_nameCount : Int32).toNatClampNeg l2, upd h0_nameIndex_c (h0_nameCount : Int32).toNatClampNeg l3, upd h0_nameTruth_c (h0_nameCount : Int32).toNatClampNeg (vp_nar .boolean l4))))))) : Option (Int32 × (Nat → Int32) × (Nat → Int32) × (Nat → Int32) × (Nat → Int32))) = some out := hF
  refine lv_aload_n hx hb d_RR_know_0 rfl (lv_at hl 0 rfl) ?_
  refine va_get (D := D) (ci := 3) (v := .int h0_nameCount) (C := R_RR) (T := T_RR) (N := 20) hx hb hg i_RR hown hK hP 0 rfl rfl 19 (by decide) (hg _ k1_120) (fun _ h9 => h9) q_h0_nameCount d_RR_know_1 ?_
  refine lv_aload_n hx hb d_RR_know_4 rfl (lv_at hl 0 rfl) ?_
  refine va_get (D := D) (ci := 3) (v := .ref h0_nameWord) (C := R_RR) (T := T_RR) (N := 20) hx hb hg i_RR hown hK hP 0 rfl rfl 15 (by decide) (hg _ k1_116) (fun _ h9 => h9) q_h0_nameWord d_RR_know_5 ?_
  refine va_alen (v := (Int32.ofNat h0_nameWord_n)) hx hb hK hP 1 0 rfl rfl rfl d_RR_know_8 ?_
  refine lv_icmp_ge (tgt := 63) hx hb d_RR_know_9 (by decide) (fun c9 => ?_) (fun c9 => ?_)
  · replace hF := ifp c9 hF
    replace hF := Option.some.inj hF
    subst hF
    exact zVret (post := (fun (u9 : List Value) => Fr [19] f0_h0 u9 ∧ u9[19]? = some (.int ((h0_nameCount, h0_nameWord_c, h0_nameSort_c, h0_nameIndex_c, h0_nameTruth_c).1)))) (W1 := (fun (u9 : List Value) => [(h0, .inr (3, u9)), (h0_nameWord, .inl (tA 0, h0_nameWord_n, .inl ((h0_nameCount, h0_nameWord_c, h0_nameSort_c, h0_nameIndex_c, h0_nameTruth_c).2.1))), (h0_nameSort, .inl (tA 0, h0_nameSort_n, .inl ((h0_nameCount, h0_nameWord_c, h0_nameSort_c, h0_nameIndex_c, h0_nameTruth_c).2.2.1))), (h0_nameIndex, .inl (tA 0, h0_nameIndex_n, .inl ((h0_nameCount, h0_nameWord_c, h0_nameSort_c, h0_nameIndex_c, h0_nameTruth_c).2.2.2.1))), (h0_nameTruth, .inl (tA 1, h0_nameTruth_n, .inl ((h0_nameCount, h0_nameWord_c, h0_nameSort_c, h0_nameIndex_c, h0_nameTruth_c).2.2.2.2)))])) hx hb hr hlocks hP hD hS (f_h0) ⟨r_h0, q_h0_nameCount⟩ rfl d_RR_know_63
  · replace hF := ifn c9 hF
    refine lv_aload_n hx hb d_RR_know_12 rfl (lv_at hl 0 rfl) ?_
    refine va_get (D := D) (ci := 3) (v := .ref h0_nameWord) (C := R_RR) (T := T_RR) (N := 20) hx hb hg i_RR hown hK hP 0 rfl rfl 15 (by decide) (hg _ k1_116) (fun _ h9 => h9) q_h0_nameWord d_RR_know_13 ?_
    refine lv_aload_n hx hb d_RR_know_16 rfl (lv_at hl 0 rfl) ?_
    refine va_get (D := D) (ci := 3) (v := .int h0_nameCount) (C := R_RR) (T := T_RR) (N := 20) hx hb hg i_RR hown hK hP 0 rfl rfl 19 (by decide) (hg _ k1_120) (fun _ h9 => h9) q_h0_nameCount d_RR_know_17 ?_
    refine lv_iload_n hx hb d_RR_know_20 rfl (lv_at hl 1 rfl) ?_
    obtain ⟨h9, hF⟩ := chk_some hF
    refine va_iast hx hb hK hP hD hS 1 0 rfl rfl (vp_in_iff.mpr h9) d_RR_know_21 (fun H1 locs1 hP1 hD1 hS1 => ?_)
    clear hP hD hS
    replace hP1 : va_P D vwCl [(h0, .inr (3, f_h0)), (h0_nameWord, .inl (tA 0, h0_nameWord_n, .inl (upd h0_nameWord_c (h0_nameCount : Int32).toNatClampNeg l1))), (h0_nameSort, .inl (tA 0, h0_nameSort_n, .inl h0_nameSort_c)), (h0_nameIndex, .inl (tA 0, h0_nameIndex_n, .inl h0_nameIndex_c)), (h0_nameTruth, .inl (tA 1, h0_nameTruth_n, .inl h0_nameTruth_c))] _ := hP1
    replace hD1 : va_D A [(h0, .inr (3, f_h0)), (h0_nameWord, .inl (tA 0, h0_nameWord_n, .inl (upd h0_nameWord_c (h0_nameCount : Int32).toNatClampNeg l1))), (h0_nameSort, .inl (tA 0, h0_nameSort_n, .inl h0_nameSort_c)), (h0_nameIndex, .inl (tA 0, h0_nameIndex_n, .inl h0_nameIndex_c)), (h0_nameTruth, .inl (tA 1, h0_nameTruth_n, .inl h0_nameTruth_c))] := hD1
    refine lv_aload_n hx hb d_RR_know_22 rfl (lv_at hl 0 rfl) ?_
    refine va_get (D := D) (ci := 3) (v := .ref h0_nameSort) (C := R_RR) (T := T_RR) (N := 20) hx hb hg i_RR hown hK hP1 0 rfl rfl 16 (by decide) (hg _ k1_117) (fun _ h9 => h9) q_h0_nameSort d_RR_know_23 ?_
    refine lv_aload_n hx hb d_RR_know_26 rfl (lv_at hl 0 rfl) ?_
    refine va_get (D := D) (ci := 3) (v := .int h0_nameCount) (C := R_RR) (T := T_RR) (N := 20) hx hb hg i_RR hown hK hP1 0 rfl rfl 19 (by decide) (hg _ k1_120) (fun _ h9 => h9) q_h0_nameCount d_RR_know_27 ?_
    refine lv_iload_n hx hb d_RR_know_30 rfl (lv_at hl 2 rfl) ?_
    obtain ⟨h9, hF⟩ := chk_some hF
    refine va_iast hx hb hK hP1 hD1 hS1 2 0 rfl rfl (vp_in_iff.mpr h9) d_RR_know_31 (fun H2 locs2 hP2 hD2 hS2 => ?_)
    clear hP1 hD1 hS1
    replace hP2 : va_P D vwCl [(h0, .inr (3, f_h0)), (h0_nameWord, .inl (tA 0, h0_nameWord_n, .inl (upd h0_nameWord_c (h0_nameCount : Int32).toNatClampNeg l1))), (h0_nameSort, .inl (tA 0, h0_nameSort_n, .inl (upd h0_nameSort_c (h0_nameCount : Int32).toNatClampNeg l2))), (h0_nameIndex, .inl (tA 0, h0_nameIndex_n, .inl h0_nameIndex_c)), (h0_nameTruth, .inl (tA 1, h0_nameTruth_n, .inl h0_nameTruth_c))] _ := hP2
    replace hD2 : va_D A [(h0, .inr (3, f_h0)), (h0_nameWord, .inl (tA 0, h0_nameWord_n, .inl (upd h0_nameWord_c (h0_nameCount : Int32).toNatClampNeg l1))), (h0_nameSort, .inl (tA 0, h0_nameSort_n, .inl (upd h0_nameSort_c (h0_nameCount : Int32).toNatClampNeg l2))), (h0_nameIndex, .inl (tA 0, h0_nameIndex_n, .inl h0_nameIndex_c)), (h0_nameTruth, .inl (tA 1, h0_nameTruth_n, .inl h0_nameTruth_c))] := hD2
    refine lv_aload_n hx hb d_RR_know_32 rfl (lv_at hl 0 rfl) ?_
    refine va_get (D := D) (ci := 3) (v := .ref h0_nameIndex) (C := R_RR) (T := T_RR) (N := 20) hx hb hg i_RR hown hK hP2 0 rfl rfl 17 (by decide) (hg _ k1_118) (fun _ h9 => h9) q_h0_nameIndex d_RR_know_33 ?_
    refine lv_aload_n hx hb d_RR_know_36 rfl (lv_at hl 0 rfl) ?_
    refine va_get (D := D) (ci := 3) (v := .int h0_nameCount) (C := R_RR) (T := T_RR) (N := 20) hx hb hg i_RR hown hK hP2 0 rfl rfl 19 (by decide) (hg _ k1_120) (fun _ h9 => h9) q_h0_nameCount d_RR_know_37 ?_
    refine lv_iload_n hx hb d_RR_know_40 rfl (lv_at hl 3 rfl) ?_
    obtain ⟨h9, hF⟩ := chk_some hF
    refine va_iast hx hb hK hP2 hD2 hS2 3 0 rfl rfl (vp_in_iff.mpr h9) d_RR_know_41 (fun H3 locs3 hP3 hD3 hS3 => ?_)
    clear hP2 hD2 hS2
    replace hP3 : va_P D vwCl [(h0, .inr (3, f_h0)), (h0_nameWord, .inl (tA 0, h0_nameWord_n, .inl (upd h0_nameWord_c (h0_nameCount : Int32).toNatClampNeg l1))), (h0_nameSort, .inl (tA 0, h0_nameSort_n, .inl (upd h0_nameSort_c (h0_nameCount : Int32).toNatClampNeg l2))), (h0_nameIndex, .inl (tA 0, h0_nameIndex_n, .inl (upd h0_nameIndex_c (h0_nameCount : Int32).toNatClampNeg l3))), (h0_nameTruth, .inl (tA 1, h0_nameTruth_n, .inl h0_nameTruth_c))] _ := hP3
    replace hD3 : va_D A [(h0, .inr (3, f_h0)), (h0_nameWord, .inl (tA 0, h0_nameWord_n, .inl (upd h0_nameWord_c (h0_nameCount : Int32).toNatClampNeg l1))), (h0_nameSort, .inl (tA 0, h0_nameSort_n, .inl (upd h0_nameSort_c (h0_nameCount : Int32).toNatClampNeg l2))), (h0_nameIndex, .inl (tA 0, h0_nameIndex_n, .inl (upd h0_nameIndex_c (h0_nameCount : Int32).toNatClampNeg l3))), (h0_nameTruth, .inl (tA 1, h0_nameTruth_n, .inl h0_nameTruth_c))] := hD3
    refine lv_aload_n hx hb d_RR_know_42 rfl (lv_at hl 0 rfl) ?_
    refine va_get (D := D) (ci := 3) (v := .ref h0_nameTruth) (C := R_RR) (T := T_RR) (N := 20) hx hb hg i_RR hown hK hP3 0 rfl rfl 18 (by decide) (hg _ k1_119) (fun _ h9 => h9) q_h0_nameTruth d_RR_know_43 ?_
    refine lv_aload_n hx hb d_RR_know_46 rfl (lv_at hl 0 rfl) ?_
    refine va_get (D := D) (ci := 3) (v := .int h0_nameCount) (C := R_RR) (T := T_RR) (N := 20) hx hb hg i_RR hown hK hP3 0 rfl rfl 19 (by decide) (hg _ k1_120) (fun _ h9 => h9) q_h0_nameCount d_RR_know_47 ?_
    refine lv_iload hx hb d_RR_know_50 (lv_at hl 4 rfl) ?_
    obtain ⟨h9, hF⟩ := chk_some hF
    refine va_zast hx hb hK hP3 hD3 hS3 4 1 rfl rfl (vp_in_iff.mpr h9) d_RR_know_52 (fun H4 locs4 hP4 hD4 hS4 => ?_)
    clear hP3 hD3 hS3
    replace hP4 : va_P D vwCl [(h0, .inr (3, f_h0)), (h0_nameWord, .inl (tA 0, h0_nameWord_n, .inl (upd h0_nameWord_c (h0_nameCount : Int32).toNatClampNeg l1))), (h0_nameSort, .inl (tA 0, h0_nameSort_n, .inl (upd h0_nameSort_c (h0_nameCount : Int32).toNatClampNeg l2))), (h0_nameIndex, .inl (tA 0, h0_nameIndex_n, .inl (upd h0_nameIndex_c (h0_nameCount : Int32).toNatClampNeg l3))), (h0_nameTruth, .inl (tA 1, h0_nameTruth_n, .inl (upd h0_nameTruth_c (h0_nameCount : Int32).toNatClampNeg (vp_nar .boolean l4))))] _ := hP4
    replace hD4 : va_D A [(h0, .inr (3, f_h0)), (h0_nameWord, .inl (tA 0, h0_nameWord_n, .inl (upd h0_nameWord_c (h0_nameCount : Int32).toNatClampNeg l1))), (h0_nameSort, .inl (tA 0, h0_nameSort_n, .inl (upd h0_nameSort_c (h0_nameCount : Int32).toNatClampNeg l2))), (h0_nameIndex, .inl (tA 0, h0_nameIndex_n, .inl (upd h0_nameIndex_c (h0_nameCount : Int32).toNatClampNeg l3))), (h0_nameTruth, .inl (tA 1, h0_nameTruth_n, .inl (upd h0_nameTruth_c (h0_nameCount : Int32).toNatClampNeg (vp_nar .boolean l4))))] := hD4
    refine lv_aload_n hx hb d_RR_know_53 rfl (lv_at hl 0 rfl) ?_
    refine lv_dup hx hb d_RR_know_54 rfl ?_
    refine va_get (D := D) (ci := 3) (v := .int h0_nameCount) (C := R_RR) (T := T_RR) (N := 20) hx hb hg i_RR hown hK hP4 0 rfl rfl 19 (by decide) (hg _ k1_120) (fun _ h9 => h9) q_h0_nameCount d_RR_know_55 ?_
    refine lv_iconst (v := 1) hx hb d_RR_know_58 (by decide) ?_
    refine lv_iadd hx hb d_RR_know_59 ?_
    refine va_put (D := D) (ci := 3) (v := .int (h0_nameCount + 1)) (ty := .int) (C := R_RR) (T := T_RR) (N := 20) hx hb hg i_RR t_RR o_RR n_RR hown hK hP4 hD4 hS4 0 rfl rfl 19 (by decide) (hg _ k1_120) (fun _ h9 => h9) rfl (by decide +kernel) rfl rfl (zLen q_h0_nameCount) d_RR_know_60 (fun H5 locs5 hP5 hD5 hS5 => ?_)
    clear hP4 hD4 hS4
    replace hP5 : va_P D vwCl [(h0, .inr (3, f_h0.set 19 (.int (h0_nameCount + 1)))), (h0_nameWord, .inl (tA 0, h0_nameWord_n, .inl (upd h0_nameWord_c (h0_nameCount : Int32).toNatClampNeg l1))), (h0_nameSort, .inl (tA 0, h0_nameSort_n, .inl (upd h0_nameSort_c (h0_nameCount : Int32).toNatClampNeg l2))), (h0_nameIndex, .inl (tA 0, h0_nameIndex_n, .inl (upd h0_nameIndex_c (h0_nameCount : Int32).toNatClampNeg l3))), (h0_nameTruth, .inl (tA 1, h0_nameTruth_n, .inl (upd h0_nameTruth_c (h0_nameCount : Int32).toNatClampNeg (vp_nar .boolean l4))))] _ := hP5
    replace hD5 : va_D A [(h0, .inr (3, f_h0.set 19 (.int (h0_nameCount + 1)))), (h0_nameWord, .inl (tA 0, h0_nameWord_n, .inl (upd h0_nameWord_c (h0_nameCount : Int32).toNatClampNeg l1))), (h0_nameSort, .inl (tA 0, h0_nameSort_n, .inl (upd h0_nameSort_c (h0_nameCount : Int32).toNatClampNeg l2))), (h0_nameIndex, .inl (tA 0, h0_nameIndex_n, .inl (upd h0_nameIndex_c (h0_nameCount : Int32).toNatClampNeg l3))), (h0_nameTruth, .inl (tA 1, h0_nameTruth_n, .inl (upd h0_nameTruth_c (h0_nameCount : Int32).toNatClampNeg (vp_nar .boolean l4))))] := hD5
    replace hF := Option.some.inj hF
    subst hF
    exact zVret (post := (fun (u9 : List Value) => Fr [19] f0_h0 u9 ∧ u9[19]? = some (.int (((h0_nameCount + 1), upd h0_nameWord_c (h0_nameCount : Int32).toNatClampNeg l1, upd h0_nameSort_c (h0_nameCount : Int32).toNatClampNeg l2, upd h0_nameIndex_c (h0_nameCount : Int32).toNatClampNeg l3, upd h0_nameTruth_c (h0_nameCount : Int32).toNatClampNeg (vp_nar .boolean l4)).1)))) (W1 := (fun (u9 : List Value) => [(h0, .inr (3, u9)), (h0_nameWord, .inl (tA 0, h0_nameWord_n, .inl (((h0_nameCount + 1), upd h0_nameWord_c (h0_nameCount : Int32).toNatClampNeg l1, upd h0_nameSort_c (h0_nameCount : Int32).toNatClampNeg l2, upd h0_nameIndex_c (h0_nameCount : Int32).toNatClampNeg l3, upd h0_nameTruth_c (h0_nameCount : Int32).toNatClampNeg (vp_nar .boolean l4)).2.1))), (h0_nameSort, .inl (tA 0, h0_nameSort_n, .inl (((h0_nameCount + 1), upd h0_nameWord_c (h0_nameCount : Int32).toNatClampNeg l1, upd h0_nameSort_c (h0_nameCount : Int32).toNatClampNeg l2, upd h0_nameIndex_c (h0_nameCount : Int32).toNatClampNeg l3, upd h0_nameTruth_c (h0_nameCount : Int32).toNatClampNeg (vp_nar .boolean l4)).2.2.1))), (h0_nameIndex, .inl (tA 0, h0_nameIndex_n, .inl (((h0_nameCount + 1), upd h0_nameWord_c (h0_nameCount : Int32).toNatClampNeg l1, upd h0_nameSort_c (h0_nameCount : Int32).toNatClampNeg l2, upd h0_nameIndex_c (h0_nameCount : Int32).toNatClampNeg l3, upd h0_nameTruth_c (h0_nameCount : Int32).toNatClampNeg (vp_nar .boolean l4)).2.2.2.1))), (h0_nameTruth, .inl (tA 1, h0_nameTruth_n, .inl (((h0_nameCount + 1), upd h0_nameWord_c (h0_nameCount : Int32).toNatClampNeg l1, upd h0_nameSort_c (h0_nameCount : Int32).toNatClampNeg l2, upd h0_nameIndex_c (h0_nameCount : Int32).toNatClampNeg l3, upd h0_nameTruth_c (h0_nameCount : Int32).toNatClampNeg (vp_nar .boolean l4)).2.2.2.2)))])) hx hb hr hlocks hP5 hD5 hS5 (f_h0.set 19 (.int (h0_nameCount + 1))) ⟨(Fr.set r_h0 (by decide)), (zSetS q_h0_nameCount)⟩ rfl d_RR_know_63
set_option maxHeartbeats 4000000 in
set_option maxRecDepth 100000 in
theorem m_RR_know (l : Launch) (D : va_G) (tA : Nat → ClassId) (sz : Nat) (h0 h0_nameWord h0_nameSort h0_nameIndex h0_nameTruth : Nat) (f0_h0 : List Value) (h0_nameWord_n : Nat) (h0_nameSort_n : Nat) (h0_nameIndex_n : Nat) (h0_nameTruth_n : Nat) (l1 : Int32) (l2 : Int32) (l3 : Int32) (l4 : Int32) (h0_nameCount : Int32) (h0_nameWord_c : Nat → Int32) (h0_nameSort_c : Nat → Int32) (h0_nameIndex_c : Nat → Int32) (h0_nameTruth_c : Nat → Int32) (q_h0_nameWord : f0_h0[15]? = some (.ref h0_nameWord)) (q_h0_nameSort : f0_h0[16]? = some (.ref h0_nameSort)) (q_h0_nameIndex : f0_h0[17]? = some (.ref h0_nameIndex)) (q_h0_nameTruth : f0_h0[18]? = some (.ref h0_nameTruth)) (q_h0_nameCount : f0_h0[19]? = some (.int h0_nameCount)) (out : Int32 × (Nat → Int32) × (Nat → Int32) × (Nat → Int32) × (Nat → Int32)) (hF : f_RR_know h0_nameWord_n h0_nameSort_n h0_nameIndex_n h0_nameTruth_n l1 l2 l3 l4 h0_nameCount h0_nameWord_c h0_nameSort_c h0_nameIndex_c h0_nameTruth_c = some out) : zMv l ({ cls := "ChanceArena$RuleReader", name := "know", desc := "(IIIZ)V" } : Jvm.MethodName) (zW (Jvm.Cond.code ({ cls := "ChanceArena$RuleReader", name := "know", desc := "(IIIZ)V" } : Jvm.MethodName) prog_9_method_6_code (5 : Nat) (Option.none : Option Jvm.ClassFile.FieldType))) { frames := 0, cells := 0, slots := 0, locals := 0 } [.ref h0, .int l1, .int l2, .int l3, .int l4] D tA [(h0, .inr (3, f0_h0)), (h0_nameWord, .inl (tA 0, h0_nameWord_n, .inl h0_nameWord_c)), (h0_nameSort, .inl (tA 0, h0_nameSort_n, .inl h0_nameSort_c)), (h0_nameIndex, .inl (tA 0, h0_nameIndex_n, .inl h0_nameIndex_c)), (h0_nameTruth, .inl (tA 1, h0_nameTruth_n, .inl h0_nameTruth_c))] sz (fun (u9 : List Value) => Fr [19] f0_h0 u9 ∧ u9[19]? = some (.int out.1)) (fun (u9 : List Value) => [(h0, .inr (3, u9)), (h0_nameWord, .inl (tA 0, h0_nameWord_n, .inl out.2.1)), (h0_nameSort, .inl (tA 0, h0_nameSort_n, .inl out.2.2.1)), (h0_nameIndex, .inl (tA 0, h0_nameIndex_n, .inl out.2.2.2.1)), (h0_nameTruth, .inl (tA 1, h0_nameTruth_n, .inl out.2.2.2.2))]) 0 0 := by
  refine zOpen (l := l) (y := ({ cls := "ChanceArena$RuleReader", name := "know", desc := "(IIIZ)V" } : Jvm.MethodName)) (ws := zW (Jvm.Cond.code ({ cls := "ChanceArena$RuleReader", name := "know", desc := "(IIIZ)V" } : Jvm.MethodName) prog_9_method_6_code (5 : Nat) (Option.none : Option Jvm.ClassFile.FieldType))) (rm := { frames := 0, cells := 0, slots := 0, locals := 0 }) (av := [.ref h0, .int l1, .int l2, .int l3, .int l4]) (D := D) (tA := tA) (W0 := [(h0, .inr (3, f0_h0)), (h0_nameWord, .inl (tA 0, h0_nameWord_n, .inl h0_nameWord_c)), (h0_nameSort, .inl (tA 0, h0_nameSort_n, .inl h0_nameSort_c)), (h0_nameIndex, .inl (tA 0, h0_nameIndex_n, .inl h0_nameIndex_c)), (h0_nameTruth, .inl (tA 1, h0_nameTruth_n, .inl h0_nameTruth_c))]) (Wm := [(h0, .inr (3, f0_h0)), (h0_nameWord, .inl (tA 0, h0_nameWord_n, .inl h0_nameWord_c)), (h0_nameSort, .inl (tA 0, h0_nameSort_n, .inl h0_nameSort_c)), (h0_nameIndex, .inl (tA 0, h0_nameIndex_n, .inl h0_nameIndex_c)), (h0_nameTruth, .inl (tA 1, h0_nameTruth_n, .inl h0_nameTruth_c))]) (sz := sz) (mc := 0) (ms := 0) (fun A => va_Qv (fun (u9 : List Value) => Fr [19] f0_h0 u9 ∧ u9[19]? = some (.int out.1)) (zPost D A (fun (u9 : List Value) => [(h0, .inr (3, u9)), (h0_nameWord, .inl (tA 0, h0_nameWord_n, .inl out.2.1)), (h0_nameSort, .inl (tA 0, h0_nameSort_n, .inl out.2.2.1)), (h0_nameIndex, .inl (tA 0, h0_nameIndex_n, .inl out.2.2.2.1)), (h0_nameTruth, .inl (tA 1, h0_nameTruth_n, .inl out.2.2.2.2))])) A) (lv := [(0, .ref h0), (1, .int l1), (2, .int l2), (3, .int l3), (4, .int l4)]) (by decide) rfl (Nat.le_of_ble_eq_true rfl) rfl ?_
  intro p e s m below meth c A ls hx hb hr hml hh hg hown hlocks hnm hK hA hP hD0 hAw hS hl
  have hD := zD hD0 hAw
  exact b_RR_know_0 hx hb hr hml hh hg hown hlocks hK hA   f0_h0 _ _ _ hF q_h0_nameWord q_h0_nameSort q_h0_nameIndex q_h0_nameTruth q_h0_nameCount Fr.rfl hP hD hS hl
def f_RR_find (h0_words_amounts_n : Nat) (h0_nameWord_n : Nat) (h0_words_starts_n : Nat) (h0_words_tape_n : Nat) (l1 : Int32) (h0_nameCount : Int32) (h0_words_amounts_c : Nat → Int32) (h0_nameWord_c : Nat → Int32) (h0_words_starts_c : Nat → Int32) (h0_words_tape_c : Nat → Int32) : Nat → Nat → Int32 → Int32 → Option (Int32)
  | 0, _, _, _ => none
  | n + 1, 0, l2, l3 => chk (0 ≤ (l1 : Int32).toInt ∧ (l1 : Int32).toInt < h0_words_amounts_n) (f_RR_find h0_words_amounts_n h0_nameWord_n h0_words_starts_n h0_words_tape_n l1 h0_nameCount h0_words_amounts_c h0_nameWord_c h0_words_starts_c h0_words_tape_c n 1 (h0_words_amounts_c (l1 : Int32).toNatClampNeg) 0)
  | n + 1, 1, l2, l3 => if (h0_nameCount : Int32) ≤ l3 then some ((-1)) else chk (0 ≤ (l3 : Int32).toInt ∧ (l3 : Int32).toInt < h0_nameWord_n) (chk (0 ≤ ((h0_nameWord_c (l3 : Int32).toNatClampNeg) : Int32).toInt ∧ ((h0_nameWord_c (l3 : Int32).toNatClampNeg) : Int32).toInt < h0_words_amounts_n) (if ¬ ((h0_words_amounts_c ((h0_nameWord_c (l3 : Int32).toNatClampNeg) : Int32).toNatClampNeg) : Int32) = l2 then f_RR_find h0_words_amounts_n h0_nameWord_n h0_words_starts_n h0_words_tape_n l1 h0_nameCount h0_words_amounts_c h0_nameWord_c h0_words_starts_c h0_words_tape_c n 1 l2 (l3 + Int32.ofInt 1) else chk (0 ≤ ((h0_nameWord_c (l3 : Int32).toNatClampNeg) : Int32).toInt ∧ ((h0_nameWord_c (l3 : Int32).toNatClampNeg) : Int32).toInt < h0_words_starts_n) (chk (0 ≤ (l1 : Int32).toInt ∧ (l1 : Int32).toInt < h0_words_starts_n) (Option.bind (f_Wo_same h0_words_tape_n (h0_words_starts_c ((h0_nameWord_c (l3 : Int32).toNatClampNeg) : Int32).toNatClampNeg) (h0_words_starts_c (l1 : Int32).toNatClampNeg) l2 h0_words_tape_c n 0 0) (fun o1 => if (o1 : Int32) = 0 then f_RR_find h0_words_amounts_n h0_nameWord_n h0_words_starts_n h0_words_tape_n l1 h0_nameCount h0_words_amounts_c h0_nameWord_c h0_words_starts_c h0_words_tape_c n 1 l2 (l3 + Int32.ofInt 1) else some (l3))))))
  | _ + 1, _ + 2, _, _ => none
theorem e_RR_find_0 (h0_words_amounts_n : Nat) (h0_nameWord_n : Nat) (h0_words_starts_n : Nat) (h0_words_tape_n : Nat) (l1 : Int32) (h0_nameCount : Int32) (h0_words_amounts_c : Nat → Int32) (h0_nameWord_c : Nat → Int32) (h0_words_starts_c : Nat → Int32) (h0_words_tape_c : Nat → Int32) (n : Nat) (l2 : Int32) (l3 : Int32) : f_RR_find h0_words_amounts_n h0_nameWord_n h0_words_starts_n h0_words_tape_n l1 h0_nameCount h0_words_amounts_c h0_nameWord_c h0_words_starts_c h0_words_tape_c (n + 1) 0 l2 l3 = chk (0 ≤ (l1 : Int32).toInt ∧ (l1 : Int32).toInt < h0_words_amounts_n) (f_RR_find h0_words_amounts_n h0_nameWord_n h0_words_starts_n h0_words_tape_n l1 h0_nameCount h0_words_amounts_c h0_nameWord_c h0_words_starts_c h0_words_tape_c n 1 (h0_words_amounts_c (l1 : Int32).toNatClampNeg) 0) := by rw [f_RR_find]
theorem e_RR_find_1 (h0_words_amounts_n : Nat) (h0_nameWord_n : Nat) (h0_words_starts_n : Nat) (h0_words_tape_n : Nat) (l1 : Int32) (h0_nameCount : Int32) (h0_words_amounts_c : Nat → Int32) (h0_nameWord_c : Nat → Int32) (h0_words_starts_c : Nat → Int32) (h0_words_tape_c : Nat → Int32) (n : Nat) (l2 : Int32) (l3 : Int32) : f_RR_find h0_words_amounts_n h0_nameWord_n h0_words_starts_n h0_words_tape_n l1 h0_nameCount h0_words_amounts_c h0_nameWord_c h0_words_starts_c h0_words_tape_c (n + 1) 1 l2 l3 = if (h0_nameCount : Int32) ≤ l3 then some ((-1)) else chk (0 ≤ (l3 : Int32).toInt ∧ (l3 : Int32).toInt < h0_nameWord_n) (chk (0 ≤ ((h0_nameWord_c (l3 : Int32).toNatClampNeg) : Int32).toInt ∧ ((h0_nameWord_c (l3 : Int32).toNatClampNeg) : Int32).toInt < h0_words_amounts_n) (if ¬ ((h0_words_amounts_c ((h0_nameWord_c (l3 : Int32).toNatClampNeg) : Int32).toNatClampNeg) : Int32) = l2 then f_RR_find h0_words_amounts_n h0_nameWord_n h0_words_starts_n h0_words_tape_n l1 h0_nameCount h0_words_amounts_c h0_nameWord_c h0_words_starts_c h0_words_tape_c n 1 l2 (l3 + Int32.ofInt 1) else chk (0 ≤ ((h0_nameWord_c (l3 : Int32).toNatClampNeg) : Int32).toInt ∧ ((h0_nameWord_c (l3 : Int32).toNatClampNeg) : Int32).toInt < h0_words_starts_n) (chk (0 ≤ (l1 : Int32).toInt ∧ (l1 : Int32).toInt < h0_words_starts_n) (Option.bind (f_Wo_same h0_words_tape_n (h0_words_starts_c ((h0_nameWord_c (l3 : Int32).toNatClampNeg) : Int32).toNatClampNeg) (h0_words_starts_c (l1 : Int32).toNatClampNeg) l2 h0_words_tape_c n 0 0) (fun o1 => if (o1 : Int32) = 0 then f_RR_find h0_words_amounts_n h0_nameWord_n h0_words_starts_n h0_words_tape_n l1 h0_nameCount h0_words_amounts_c h0_nameWord_c h0_words_starts_c h0_words_tape_c n 1 l2 (l3 + Int32.ofInt 1) else some (l3)))))) := by rw [f_RR_find]
theorem z_RR_find (h0_words_amounts_n : Nat) (h0_nameWord_n : Nat) (h0_words_starts_n : Nat) (h0_words_tape_n : Nat) (l1 : Int32) (h0_nameCount : Int32) (h0_words_amounts_c : Nat → Int32) (h0_nameWord_c : Nat → Int32) (h0_words_starts_c : Nat → Int32) (h0_words_tape_c : Nat → Int32) (h : Nat) (l2 : Int32) (l3 : Int32) : f_RR_find h0_words_amounts_n h0_nameWord_n h0_words_starts_n h0_words_tape_n l1 h0_nameCount h0_words_amounts_c h0_nameWord_c h0_words_starts_c h0_words_tape_c 0 h l2 l3 = none := by rw [f_RR_find]
set_option maxHeartbeats 4000000 in
set_option maxRecDepth 100000 in
theorem b_RR_find_0 {p : Program} {l : Launch} {e : Env} {s : State} {m : MethodId} {args : Array Value} {below : List Frame} {meth : Method} {c : Code} {D : va_G} {tA : Nat → ClassId} {A : Nat → Prop} {h0 h0_words h0_words_amounts h0_nameWord h0_words_starts h0_words_tape : Nat} {f0_h0 f0_h0_words : List Value} {h0_words_amounts_n : Nat} {h0_nameWord_n : Nat} {h0_words_starts_n : Nat} {h0_words_tape_n : Nat} {l1 : Int32} {h0_nameCount : Int32} {h0_words_amounts_c : Nat → Int32} {h0_nameWord_c : Nat → Int32} {h0_words_starts_c : Nat → Int32} {h0_words_tape_c : Nat → Int32} {out : Int32} (hx : p.tables.exec = Jvm.exec) (hb : c.code = prog_9_method_7_code) (hr : meth.sig.returnType = (Option.some Jvm.ClassFile.FieldType.int)) (hml : c.maxLocals = 5) (hh : zH s) (hg : ∀ w ∈ lw_R, w.before args s = true) (hown : s.vm.findClass "ChanceArena$RuleReader" = some m.cls) (hlocks : meth.locks = false) (hK : va_K D vwCl (zT tA) s) (hA : ∀ q, s.heap.size ≤ q → A q) {n : Nat} (ih1 : ∀ (l2 : Int32) (l3 : Int32) (H : Heap) (locs : List Loc) (ls : Array Slot), f_RR_find h0_words_amounts_n h0_nameWord_n h0_words_starts_n h0_words_tape_n l1 h0_nameCount h0_words_amounts_c h0_nameWord_c h0_words_starts_c h0_words_tape_c n 1 l2 l3 = some out → f0_h0[0]? = some (.ref h0_words) → f0_h0[15]? = some (.ref h0_nameWord) → f0_h0[19]? = some (.int h0_nameCount) → f0_h0_words[5]? = some (.ref h0_words_amounts) → f0_h0_words[4]? = some (.ref h0_words_starts) → f0_h0_words[0]? = some (.ref h0_words_tape) → va_P D vwCl [(h0, .inr (3, f0_h0)), (h0_words, .inr (1, f0_h0_words)), (h0_words_amounts, .inl (tA 0, h0_words_amounts_n, .inl h0_words_amounts_c)), (h0_nameWord, .inl (tA 0, h0_nameWord_n, .inl h0_nameWord_c)), (h0_words_starts, .inl (tA 0, h0_words_starts_n, .inl h0_words_starts_c)), (h0_words_tape, .inl (tA 2, h0_words_tape_n, .inl h0_words_tape_c))] H → va_D A [(h0, .inr (3, f0_h0)), (h0_words, .inr (1, f0_h0_words)), (h0_words_amounts, .inl (tA 0, h0_words_amounts_n, .inl h0_words_amounts_c)), (h0_nameWord, .inl (tA 0, h0_nameWord_n, .inl h0_nameWord_c)), (h0_words_starts, .inl (tA 0, h0_words_starts_n, .inl h0_words_starts_c)), (h0_words_tape, .inl (tA 2, h0_words_tape_n, .inl h0_words_tape_c))] → va_S A s.heap H locs → lv_has ls 5 [(0, .ref h0), (1, .int l1), (2, .int l2), (3, .int l3)] → W p l e { frames := 1, cells := 0, slots := 0, locals := 24 } s m args below meth c H locs 0 0 (MQ below (va_Qi (fun (r9 : Int32) (u9 : Unit) => r9 = out) (zPost D A (fun (u9 : Unit) => [(h0, .inr (3, f0_h0)), (h0_words, .inr (1, f0_h0_words)), (h0_words_amounts, .inl (tA 0, h0_words_amounts_n, .inl h0_words_amounts_c)), (h0_nameWord, .inl (tA 0, h0_nameWord_n, .inl h0_nameWord_c)), (h0_words_starts, .inl (tA 0, h0_words_starts_n, .inl h0_words_starts_c)), (h0_words_tape, .inl (tA 2, h0_words_tape_n, .inl h0_words_tape_c))])) A) args s 0 0 A) (F0 m 12 ls [])) : ∀ (l2 : Int32) (l3 : Int32) (H : Heap) (locs : List Loc) (ls : Array Slot), f_RR_find h0_words_amounts_n h0_nameWord_n h0_words_starts_n h0_words_tape_n l1 h0_nameCount h0_words_amounts_c h0_nameWord_c h0_words_starts_c h0_words_tape_c (n + 1) 0 l2 l3 = some out → f0_h0[0]? = some (.ref h0_words) → f0_h0[15]? = some (.ref h0_nameWord) → f0_h0[19]? = some (.int h0_nameCount) → f0_h0_words[5]? = some (.ref h0_words_amounts) → f0_h0_words[4]? = some (.ref h0_words_starts) → f0_h0_words[0]? = some (.ref h0_words_tape) → va_P D vwCl [(h0, .inr (3, f0_h0)), (h0_words, .inr (1, f0_h0_words)), (h0_words_amounts, .inl (tA 0, h0_words_amounts_n, .inl h0_words_amounts_c)), (h0_nameWord, .inl (tA 0, h0_nameWord_n, .inl h0_nameWord_c)), (h0_words_starts, .inl (tA 0, h0_words_starts_n, .inl h0_words_starts_c)), (h0_words_tape, .inl (tA 2, h0_words_tape_n, .inl h0_words_tape_c))] H → va_D A [(h0, .inr (3, f0_h0)), (h0_words, .inr (1, f0_h0_words)), (h0_words_amounts, .inl (tA 0, h0_words_amounts_n, .inl h0_words_amounts_c)), (h0_nameWord, .inl (tA 0, h0_nameWord_n, .inl h0_nameWord_c)), (h0_words_starts, .inl (tA 0, h0_words_starts_n, .inl h0_words_starts_c)), (h0_words_tape, .inl (tA 2, h0_words_tape_n, .inl h0_words_tape_c))] → va_S A s.heap H locs → lv_has ls 5 [(0, .ref h0), (1, .int l1)] → W p l e { frames := 1, cells := 0, slots := 0, locals := 24 } s m args below meth c H locs 0 0 (MQ below (va_Qi (fun (r9 : Int32) (u9 : Unit) => r9 = out) (zPost D A (fun (u9 : Unit) => [(h0, .inr (3, f0_h0)), (h0_words, .inr (1, f0_h0_words)), (h0_words_amounts, .inl (tA 0, h0_words_amounts_n, .inl h0_words_amounts_c)), (h0_nameWord, .inl (tA 0, h0_nameWord_n, .inl h0_nameWord_c)), (h0_words_starts, .inl (tA 0, h0_words_starts_n, .inl h0_words_starts_c)), (h0_words_tape, .inl (tA 2, h0_words_tape_n, .inl h0_words_tape_c))])) A) args s 0 0 A) (F0 m 0 ls []) := by
  intro l2 l3   H locs ls hF q_h0_words q_h0_nameWord q_h0_nameCount q_h0_words_amounts q_h0_words_starts q_h0_words_tape hP hD hS hl
  rw [e_RR_find_0] at hF
  refine lv_aload_n hx hb d_RR_find_0 rfl (lv_at hl 0 rfl) ?_
  refine va_get (D := D) (ci := 3) (v := .ref h0_words) (C := R_RR) (T := T_RR) (N := 20) hx hb hg i_RR hown hK hP 0 rfl rfl 0 (by decide) (hg _ k1_95) (fun _ h9 => h9) q_h0_words d_RR_find_1 ?_
  refine va_get (D := D) (ci := 1) (v := .ref h0_words_amounts) (C := R_Wo) (T := T_Wo) (N := 6) hx hb hg i_Wo hown hK hP 1 rfl rfl 5 (by decide) (hg _ k1_67) (fun _ h9 => h9) q_h0_words_amounts d_RR_find_4 ?_
  refine lv_iload_n hx hb d_RR_find_7 rfl (lv_at hl 1 rfl) ?_
  obtain ⟨h9, hF⟩ := chk_some hF
  refine va_iald hx hb hK hP 2 0 rfl rfl (vp_in_iff.mpr h9) d_RR_find_8 ?_
  refine lv_istore_n (lv' := [(2, .int (h0_words_amounts_c (l1 : Int32).toNatClampNeg)), (0, .ref h0), (1, .int l1)]) hx hb d_RR_find_9 rfl hl (by decide) rfl (fun ls hl => ?_)
  refine lv_iconst (v := 0) hx hb d_RR_find_10 (by decide) ?_
  refine lv_istore_n (lv' := [(3, .int 0), (2, .int (h0_words_amounts_c (l1 : Int32).toNatClampNeg)), (0, .ref h0), (1, .int l1)]) hx hb d_RR_find_11 rfl hl (by decide) rfl (fun ls hl => ?_)
  exact ih1 (h0_words_amounts_c (l1 : Int32).toNatClampNeg) 0   _ _ _ hF q_h0_words q_h0_nameWord q_h0_nameCount q_h0_words_amounts q_h0_words_starts q_h0_words_tape hP hD hS (lv_sub hl [2, 3, 1, 0] rfl)
set_option maxHeartbeats 4000000 in
set_option maxRecDepth 100000 in
theorem b_RR_find_1 {p : Program} {l : Launch} {e : Env} {s : State} {m : MethodId} {args : Array Value} {below : List Frame} {meth : Method} {c : Code} {D : va_G} {tA : Nat → ClassId} {A : Nat → Prop} {h0 h0_words h0_words_amounts h0_nameWord h0_words_starts h0_words_tape : Nat} {f0_h0 f0_h0_words : List Value} {h0_words_amounts_n : Nat} {h0_nameWord_n : Nat} {h0_words_starts_n : Nat} {h0_words_tape_n : Nat} {l1 : Int32} {h0_nameCount : Int32} {h0_words_amounts_c : Nat → Int32} {h0_nameWord_c : Nat → Int32} {h0_words_starts_c : Nat → Int32} {h0_words_tape_c : Nat → Int32} {out : Int32} (hx : p.tables.exec = Jvm.exec) (hb : c.code = prog_9_method_7_code) (hr : meth.sig.returnType = (Option.some Jvm.ClassFile.FieldType.int)) (hml : c.maxLocals = 5) (hh : zH s) (hg : ∀ w ∈ lw_R, w.before args s = true) (hown : s.vm.findClass "ChanceArena$RuleReader" = some m.cls) (hlocks : meth.locks = false) (hK : va_K D vwCl (zT tA) s) (hA : ∀ q, s.heap.size ≤ q → A q) {n : Nat} (ih1 : ∀ (l2 : Int32) (l3 : Int32) (H : Heap) (locs : List Loc) (ls : Array Slot), f_RR_find h0_words_amounts_n h0_nameWord_n h0_words_starts_n h0_words_tape_n l1 h0_nameCount h0_words_amounts_c h0_nameWord_c h0_words_starts_c h0_words_tape_c n 1 l2 l3 = some out → f0_h0[0]? = some (.ref h0_words) → f0_h0[15]? = some (.ref h0_nameWord) → f0_h0[19]? = some (.int h0_nameCount) → f0_h0_words[5]? = some (.ref h0_words_amounts) → f0_h0_words[4]? = some (.ref h0_words_starts) → f0_h0_words[0]? = some (.ref h0_words_tape) → va_P D vwCl [(h0, .inr (3, f0_h0)), (h0_words, .inr (1, f0_h0_words)), (h0_words_amounts, .inl (tA 0, h0_words_amounts_n, .inl h0_words_amounts_c)), (h0_nameWord, .inl (tA 0, h0_nameWord_n, .inl h0_nameWord_c)), (h0_words_starts, .inl (tA 0, h0_words_starts_n, .inl h0_words_starts_c)), (h0_words_tape, .inl (tA 2, h0_words_tape_n, .inl h0_words_tape_c))] H → va_D A [(h0, .inr (3, f0_h0)), (h0_words, .inr (1, f0_h0_words)), (h0_words_amounts, .inl (tA 0, h0_words_amounts_n, .inl h0_words_amounts_c)), (h0_nameWord, .inl (tA 0, h0_nameWord_n, .inl h0_nameWord_c)), (h0_words_starts, .inl (tA 0, h0_words_starts_n, .inl h0_words_starts_c)), (h0_words_tape, .inl (tA 2, h0_words_tape_n, .inl h0_words_tape_c))] → va_S A s.heap H locs → lv_has ls 5 [(0, .ref h0), (1, .int l1), (2, .int l2), (3, .int l3)] → W p l e { frames := 1, cells := 0, slots := 0, locals := 24 } s m args below meth c H locs 0 0 (MQ below (va_Qi (fun (r9 : Int32) (u9 : Unit) => r9 = out) (zPost D A (fun (u9 : Unit) => [(h0, .inr (3, f0_h0)), (h0_words, .inr (1, f0_h0_words)), (h0_words_amounts, .inl (tA 0, h0_words_amounts_n, .inl h0_words_amounts_c)), (h0_nameWord, .inl (tA 0, h0_nameWord_n, .inl h0_nameWord_c)), (h0_words_starts, .inl (tA 0, h0_words_starts_n, .inl h0_words_starts_c)), (h0_words_tape, .inl (tA 2, h0_words_tape_n, .inl h0_words_tape_c))])) A) args s 0 0 A) (F0 m 12 ls [])) : ∀ (l2 : Int32) (l3 : Int32) (H : Heap) (locs : List Loc) (ls : Array Slot), f_RR_find h0_words_amounts_n h0_nameWord_n h0_words_starts_n h0_words_tape_n l1 h0_nameCount h0_words_amounts_c h0_nameWord_c h0_words_starts_c h0_words_tape_c (n + 1) 1 l2 l3 = some out → f0_h0[0]? = some (.ref h0_words) → f0_h0[15]? = some (.ref h0_nameWord) → f0_h0[19]? = some (.int h0_nameCount) → f0_h0_words[5]? = some (.ref h0_words_amounts) → f0_h0_words[4]? = some (.ref h0_words_starts) → f0_h0_words[0]? = some (.ref h0_words_tape) → va_P D vwCl [(h0, .inr (3, f0_h0)), (h0_words, .inr (1, f0_h0_words)), (h0_words_amounts, .inl (tA 0, h0_words_amounts_n, .inl h0_words_amounts_c)), (h0_nameWord, .inl (tA 0, h0_nameWord_n, .inl h0_nameWord_c)), (h0_words_starts, .inl (tA 0, h0_words_starts_n, .inl h0_words_starts_c)), (h0_words_tape, .inl (tA 2, h0_words_tape_n, .inl h0_words_tape_c))] H → va_D A [(h0, .inr (3, f0_h0)), (h0_words, .inr (1, f0_h0_words)), (h0_words_amounts, .inl (tA 0, h0_words_amounts_n, .inl h0_words_amounts_c)), (h0_nameWord, .inl (tA 0, h0_nameWord_n, .inl h0_nameWord_c)), (h0_words_starts, .inl (tA 0, h0_words_starts_n, .inl h0_words_starts_c)), (h0_words_tape, .inl (tA 2, h0_words_tape_n, .inl h0_words_tape_c))] → va_S A s.heap H locs → lv_has ls 5 [(0, .ref h0), (1, .int l1), (2, .int l2), (3, .int l3)] → W p l e { frames := 1, cells := 0, slots := 0, locals := 24 } s m args below meth c H locs 0 0 (MQ below (va_Qi (fun (r9 : Int32) (u9 : Unit) => r9 = out) (zPost D A (fun (u9 : Unit) => [(h0, .inr (3, f0_h0)), (h0_words, .inr (1, f0_h0_words)), (h0_words_amounts, .inl (tA 0, h0_words_amounts_n, .inl h0_words_amounts_c)), (h0_nameWord, .inl (tA 0, h0_nameWord_n, .inl h0_nameWord_c)), (h0_words_starts, .inl (tA 0, h0_words_starts_n, .inl h0_words_starts_c)), (h0_words_tape, .inl (tA 2, h0_words_tape_n, .inl h0_words_tape_c))])) A) args s 0 0 A) (F0 m 12 ls []) := by
  intro l2 l3   H locs ls hF q_h0_words q_h0_nameWord q_h0_nameCount q_h0_words_amounts q_h0_words_starts q_h0_words_tape hP hD hS hl
  rw [e_RR_find_1] at hF
  refine lv_iload_n hx hb d_RR_find_12 rfl (lv_at hl 3 rfl) ?_
  refine lv_aload_n hx hb d_RR_find_13 rfl (lv_at hl 0 rfl) ?_
  refine va_get (D := D) (ci := 3) (v := .int h0_nameCount) (C := R_RR) (T := T_RR) (N := 20) hx hb hg i_RR hown hK hP 0 rfl rfl 19 (by decide) (hg _ k1_120) (fun _ h9 => h9) q_h0_nameCount d_RR_find_14 ?_
  refine lv_icmp_ge (tgt := 80) hx hb d_RR_find_17 (by decide) (fun c9 => ?_) (fun c9 => ?_)
  · replace hF := ifp c9 hF
    refine lv_iconst (v := (-1)) hx hb d_RR_find_80 (by decide) ?_
    replace hF := Option.some.inj hF
    subst hF
    exact zZret (post := (fun (r9 : Int32) (u9 : Unit) => r9 = (-1))) (W1 := (fun (u9 : Unit) => [(h0, .inr (3, f0_h0)), (h0_words, .inr (1, f0_h0_words)), (h0_words_amounts, .inl (tA 0, h0_words_amounts_n, .inl h0_words_amounts_c)), (h0_nameWord, .inl (tA 0, h0_nameWord_n, .inl h0_nameWord_c)), (h0_words_starts, .inl (tA 0, h0_words_starts_n, .inl h0_words_starts_c)), (h0_words_tape, .inl (tA 2, h0_words_tape_n, .inl h0_words_tape_c))])) (v := (-1)) hx hb hr rfl hlocks hP hD hS () rfl rfl d_RR_find_81
  · replace hF := ifn c9 hF
    refine lv_aload_n hx hb d_RR_find_20 rfl (lv_at hl 0 rfl) ?_
    refine va_get (D := D) (ci := 3) (v := .ref h0_nameWord) (C := R_RR) (T := T_RR) (N := 20) hx hb hg i_RR hown hK hP 0 rfl rfl 15 (by decide) (hg _ k1_116) (fun _ h9 => h9) q_h0_nameWord d_RR_find_21 ?_
    refine lv_iload_n hx hb d_RR_find_24 rfl (lv_at hl 3 rfl) ?_
    obtain ⟨h9, hF⟩ := chk_some hF
    refine va_iald hx hb hK hP 3 0 rfl rfl (vp_in_iff.mpr h9) d_RR_find_25 ?_
    refine lv_istore (lv' := [(4, .int (h0_nameWord_c (l3 : Int32).toNatClampNeg)), (0, .ref h0), (1, .int l1), (2, .int l2), (3, .int l3)]) hx hb d_RR_find_26 hl (by decide) rfl (fun ls hl => ?_)
    refine lv_aload_n hx hb d_RR_find_28 rfl (lv_at hl 1 rfl) ?_
    refine va_get (D := D) (ci := 3) (v := .ref h0_words) (C := R_RR) (T := T_RR) (N := 20) hx hb hg i_RR hown hK hP 0 rfl rfl 0 (by decide) (hg _ k1_95) (fun _ h9 => h9) q_h0_words d_RR_find_29 ?_
    refine va_get (D := D) (ci := 1) (v := .ref h0_words_amounts) (C := R_Wo) (T := T_Wo) (N := 6) hx hb hg i_Wo hown hK hP 1 rfl rfl 5 (by decide) (hg _ k1_67) (fun _ h9 => h9) q_h0_words_amounts d_RR_find_32 ?_
    refine lv_iload hx hb d_RR_find_35 (lv_at hl 0 rfl) ?_
    obtain ⟨h9, hF⟩ := chk_some hF
    refine va_iald hx hb hK hP 2 0 rfl rfl (vp_in_iff.mpr h9) d_RR_find_37 ?_
    refine lv_iload_n hx hb d_RR_find_38 rfl (lv_at hl 3 rfl) ?_
    refine lv_icmp_ne (tgt := 74) hx hb d_RR_find_39 (by decide) (fun c9 => ?_) (fun c9 => ?_)
    · replace hF := ifp c9 hF
      refine lv_iinc (v := (l3 + Int32.ofInt 1)) (lv' := [(3, .int (l3 + Int32.ofInt 1)), (4, .int (h0_nameWord_c (l3 : Int32).toNatClampNeg)), (0, .ref h0), (1, .int l1), (2, .int l2)]) hx hb d_RR_find_74 hl (k := 4) rfl rfl (by decide) rfl (fun ls hl => ?_)
      refine lv_goto (tgt := 12) hx hb d_RR_find_77 (by decide) ?_
      exact ih1 l2 (l3 + Int32.ofInt 1)   _ _ _ hF q_h0_words q_h0_nameWord q_h0_nameCount q_h0_words_amounts q_h0_words_starts q_h0_words_tape hP hD hS (lv_sub hl [2, 3, 4, 0] rfl)
    · replace hF := ifn (fun h9 => h9 c9) hF
      refine lv_aload_n hx hb d_RR_find_42 rfl (lv_at hl 1 rfl) ?_
      refine va_get (D := D) (ci := 3) (v := .ref h0_words) (C := R_RR) (T := T_RR) (N := 20) hx hb hg i_RR hown hK hP 0 rfl rfl 0 (by decide) (hg _ k1_95) (fun _ h9 => h9) q_h0_words d_RR_find_43 ?_
      refine lv_aload_n hx hb d_RR_find_46 rfl (lv_at hl 1 rfl) ?_
      refine va_get (D := D) (ci := 3) (v := .ref h0_words) (C := R_RR) (T := T_RR) (N := 20) hx hb hg i_RR hown hK hP 0 rfl rfl 0 (by decide) (hg _ k1_95) (fun _ h9 => h9) q_h0_words d_RR_find_47 ?_
      refine va_get (D := D) (ci := 1) (v := .ref h0_words_starts) (C := R_Wo) (T := T_Wo) (N := 6) hx hb hg i_Wo hown hK hP 1 rfl rfl 4 (by decide) (hg _ k1_64) (fun _ h9 => h9) q_h0_words_starts d_RR_find_50 ?_
      refine lv_iload hx hb d_RR_find_53 (lv_at hl 0 rfl) ?_
      obtain ⟨h9, hF⟩ := chk_some hF
      refine va_iald hx hb hK hP 4 0 rfl rfl (vp_in_iff.mpr h9) d_RR_find_55 ?_
      refine lv_aload_n hx hb d_RR_find_56 rfl (lv_at hl 1 rfl) ?_
      refine va_get (D := D) (ci := 3) (v := .ref h0_words) (C := R_RR) (T := T_RR) (N := 20) hx hb hg i_RR hown hK hP 0 rfl rfl 0 (by decide) (hg _ k1_95) (fun _ h9 => h9) q_h0_words d_RR_find_57 ?_
      refine va_get (D := D) (ci := 1) (v := .ref h0_words_starts) (C := R_Wo) (T := T_Wo) (N := 6) hx hb hg i_Wo hown hK hP 1 rfl rfl 4 (by decide) (hg _ k1_64) (fun _ h9 => h9) q_h0_words_starts d_RR_find_60 ?_
      refine lv_iload_n hx hb d_RR_find_63 rfl (lv_at hl 2 rfl) ?_
      obtain ⟨h9, hF⟩ := chk_some hF
      refine va_iald hx hb hK hP 4 0 rfl rfl (vp_in_iff.mpr h9) d_RR_find_64 ?_
      refine lv_iload_n hx hb d_RR_find_65 rfl (lv_at hl 3 rfl) ?_
      obtain ⟨o1, h1, hF⟩ := bsome hF
      refine zCalli (wc := [(h0_words, .inr (1, f0_h0_words)), (h0_words_tape, .inl (tA 2, h0_words_tape_n, .inl h0_words_tape_c))]) (wr := [(h0, .inr (3, f0_h0)), (h0_words_amounts, .inl (tA 0, h0_words_amounts_n, .inl h0_words_amounts_c)), (h0_nameWord, .inl (tA 0, h0_nameWord_n, .inl h0_nameWord_c)), (h0_words_starts, .inl (tA 0, h0_words_starts_n, .inl h0_words_starts_c))]) hP hD hS hA [1, 5] [0, 2, 3, 4] rfl rfl (by decide) (by decide) (va_runV (As := [.int (h0_words_starts_c ((h0_nameWord_c (l3 : Int32).toNatClampNeg) : Int32).toNatClampNeg), .int (h0_words_starts_c (l1 : Int32).toNatClampNeg), .int l2]) (rest := []) ⟨hx, hb, hml, hown, hg⟩ (m_Wo_same l D tA _ h0_words h0_words_tape f0_h0_words h0_words_tape_n (h0_words_starts_c ((h0_nameWord_c (l3 : Int32).toNatClampNeg) : Int32).toNatClampNeg) (h0_words_starts_c (l1 : Int32).toNatClampNeg) l2 h0_words_tape_c q_h0_words_tape n o1 h1) (zV 3 hg k4_157 k4_158 k4_159 k1_2 k4_160 rfl rfl (by decide +kernel) ⟨(Nat.le_of_ble_eq_true rfl), (Nat.le_of_ble_eq_true rfl)⟩) (zPreV hh hK hP hD [1, 5] (by decide) rfl (ci := 1) rfl 0 rfl) rfl rfl hl.1 rfl (lv_room (Nat.le_of_ble_eq_true rfl)) d_RR_find_66 ⟨(Nat.le_of_ble_eq_true rfl), (Nat.le_of_ble_eq_true rfl)⟩) (fun r1 u1 H1 locs1 e1 hP1 hD1 hS1 => ?_)
      clear hP hD hS
      refine W.cs (cells' := 0) (slots' := 0) rfl rfl ?_
      have x1 := e1
      rw [x1]
      replace hP1 : va_P D vwCl [(h0, .inr (3, f0_h0)), (h0_words_amounts, .inl (tA 0, h0_words_amounts_n, .inl h0_words_amounts_c)), (h0_nameWord, .inl (tA 0, h0_nameWord_n, .inl h0_nameWord_c)), (h0_words_starts, .inl (tA 0, h0_words_starts_n, .inl h0_words_starts_c)), (h0_words, .inr (1, f0_h0_words)), (h0_words_tape, .inl (tA 2, h0_words_tape_n, .inl h0_words_tape_c))] _ := hP1
      replace hD1 : va_D A [(h0, .inr (3, f0_h0)), (h0_words_amounts, .inl (tA 0, h0_words_amounts_n, .inl h0_words_amounts_c)), (h0_nameWord, .inl (tA 0, h0_nameWord_n, .inl h0_nameWord_c)), (h0_words_starts, .inl (tA 0, h0_words_starts_n, .inl h0_words_starts_c)), (h0_words, .inr (1, f0_h0_words)), (h0_words_tape, .inl (tA 2, h0_words_tape_n, .inl h0_words_tape_c))] := hD1
      refine lv_if_eq (tgt := 74) hx hb d_RR_find_69 (by decide) (fun c9 => ?_) (fun c9 => ?_)
      · replace hF := ifp c9 hF
        refine lv_iinc (v := (l3 + Int32.ofInt 1)) (lv' := [(3, .int (l3 + Int32.ofInt 1)), (4, .int (h0_nameWord_c (l3 : Int32).toNatClampNeg)), (0, .ref h0), (1, .int l1), (2, .int l2)]) hx hb d_RR_find_74 hl (k := 4) rfl rfl (by decide) rfl (fun ls hl => ?_)
        refine lv_goto (tgt := 12) hx hb d_RR_find_77 (by decide) ?_
        exact ih1 l2 (l3 + Int32.ofInt 1)   _ _ _ hF q_h0_words q_h0_nameWord q_h0_nameCount q_h0_words_amounts q_h0_words_starts q_h0_words_tape (zPc hP1 [0, 4, 1, 2, 3, 5] rfl) (hD1.sub [0, 4, 1, 2, 3, 5] (by decide) rfl) hS1 (lv_sub hl [2, 3, 4, 0] rfl)
      · replace hF := ifn c9 hF
        refine lv_iload_n hx hb d_RR_find_72 rfl (lv_at hl 4 rfl) ?_
        replace hF := Option.some.inj hF
        subst hF
        exact zZret (post := (fun (r9 : Int32) (u9 : Unit) => r9 = l3)) (W1 := (fun (u9 : Unit) => [(h0, .inr (3, f0_h0)), (h0_words, .inr (1, f0_h0_words)), (h0_words_amounts, .inl (tA 0, h0_words_amounts_n, .inl h0_words_amounts_c)), (h0_nameWord, .inl (tA 0, h0_nameWord_n, .inl h0_nameWord_c)), (h0_words_starts, .inl (tA 0, h0_words_starts_n, .inl h0_words_starts_c)), (h0_words_tape, .inl (tA 2, h0_words_tape_n, .inl h0_words_tape_c))])) (v := l3) hx hb hr rfl hlocks (zPc (wc := [(h0, .inr (3, f0_h0)), (h0_words, .inr (1, f0_h0_words)), (h0_words_amounts, .inl (tA 0, h0_words_amounts_n, .inl h0_words_amounts_c)), (h0_nameWord, .inl (tA 0, h0_nameWord_n, .inl h0_nameWord_c)), (h0_words_starts, .inl (tA 0, h0_words_starts_n, .inl h0_words_starts_c)), (h0_words_tape, .inl (tA 2, h0_words_tape_n, .inl h0_words_tape_c))]) hP1 [0, 4, 1, 2, 3, 5] rfl) (va_D.sub (ws' := [(h0, .inr (3, f0_h0)), (h0_words, .inr (1, f0_h0_words)), (h0_words_amounts, .inl (tA 0, h0_words_amounts_n, .inl h0_words_amounts_c)), (h0_nameWord, .inl (tA 0, h0_nameWord_n, .inl h0_nameWord_c)), (h0_words_starts, .inl (tA 0, h0_words_starts_n, .inl h0_words_starts_c)), (h0_words_tape, .inl (tA 2, h0_words_tape_n, .inl h0_words_tape_c))]) hD1 [0, 4, 1, 2, 3, 5] (by decide) rfl) hS1 () rfl rfl d_RR_find_73
set_option maxHeartbeats 4000000 in
set_option maxRecDepth 100000 in
theorem a_RR_find {p : Program} {l : Launch} {e : Env} {s : State} {m : MethodId} {args : Array Value} {below : List Frame} {meth : Method} {c : Code} {D : va_G} {tA : Nat → ClassId} {A : Nat → Prop} {h0 h0_words h0_words_amounts h0_nameWord h0_words_starts h0_words_tape : Nat} {f0_h0 f0_h0_words : List Value} {h0_words_amounts_n : Nat} {h0_nameWord_n : Nat} {h0_words_starts_n : Nat} {h0_words_tape_n : Nat} {l1 : Int32} {h0_nameCount : Int32} {h0_words_amounts_c : Nat → Int32} {h0_nameWord_c : Nat → Int32} {h0_words_starts_c : Nat → Int32} {h0_words_tape_c : Nat → Int32} {out : Int32} (hx : p.tables.exec = Jvm.exec) (hb : c.code = prog_9_method_7_code) (hr : meth.sig.returnType = (Option.some Jvm.ClassFile.FieldType.int)) (hml : c.maxLocals = 5) (hh : zH s) (hg : ∀ w ∈ lw_R, w.before args s = true) (hown : s.vm.findClass "ChanceArena$RuleReader" = some m.cls) (hlocks : meth.locks = false) (hK : va_K D vwCl (zT tA) s) (hA : ∀ q, s.heap.size ≤ q → A q) : ∀ n : Nat, (∀ (l2 : Int32) (l3 : Int32) (H : Heap) (locs : List Loc) (ls : Array Slot), f_RR_find h0_words_amounts_n h0_nameWord_n h0_words_starts_n h0_words_tape_n l1 h0_nameCount h0_words_amounts_c h0_nameWord_c h0_words_starts_c h0_words_tape_c n 0 l2 l3 = some out → f0_h0[0]? = some (.ref h0_words) → f0_h0[15]? = some (.ref h0_nameWord) → f0_h0[19]? = some (.int h0_nameCount) → f0_h0_words[5]? = some (.ref h0_words_amounts) → f0_h0_words[4]? = some (.ref h0_words_starts) → f0_h0_words[0]? = some (.ref h0_words_tape) → va_P D vwCl [(h0, .inr (3, f0_h0)), (h0_words, .inr (1, f0_h0_words)), (h0_words_amounts, .inl (tA 0, h0_words_amounts_n, .inl h0_words_amounts_c)), (h0_nameWord, .inl (tA 0, h0_nameWord_n, .inl h0_nameWord_c)), (h0_words_starts, .inl (tA 0, h0_words_starts_n, .inl h0_words_starts_c)), (h0_words_tape, .inl (tA 2, h0_words_tape_n, .inl h0_words_tape_c))] H → va_D A [(h0, .inr (3, f0_h0)), (h0_words, .inr (1, f0_h0_words)), (h0_words_amounts, .inl (tA 0, h0_words_amounts_n, .inl h0_words_amounts_c)), (h0_nameWord, .inl (tA 0, h0_nameWord_n, .inl h0_nameWord_c)), (h0_words_starts, .inl (tA 0, h0_words_starts_n, .inl h0_words_starts_c)), (h0_words_tape, .inl (tA 2, h0_words_tape_n, .inl h0_words_tape_c))] → va_S A s.heap H locs → lv_has ls 5 [(0, .ref h0), (1, .int l1)] → W p l e { frames := 1, cells := 0, slots := 0, locals := 24 } s m args below meth c H locs 0 0 (MQ below (va_Qi (fun (r9 : Int32) (u9 : Unit) => r9 = out) (zPost D A (fun (u9 : Unit) => [(h0, .inr (3, f0_h0)), (h0_words, .inr (1, f0_h0_words)), (h0_words_amounts, .inl (tA 0, h0_words_amounts_n, .inl h0_words_amounts_c)), (h0_nameWord, .inl (tA 0, h0_nameWord_n, .inl h0_nameWord_c)), (h0_words_starts, .inl (tA 0, h0_words_starts_n, .inl h0_words_starts_c)), (h0_words_tape, .inl (tA 2, h0_words_tape_n, .inl h0_words_tape_c))])) A) args s 0 0 A) (F0 m 0 ls [])) ∧ (∀ (l2 : Int32) (l3 : Int32) (H : Heap) (locs : List Loc) (ls : Array Slot), f_RR_find h0_words_amounts_n h0_nameWord_n h0_words_starts_n h0_words_tape_n l1 h0_nameCount h0_words_amounts_c h0_nameWord_c h0_words_starts_c h0_words_tape_c n 1 l2 l3 = some out → f0_h0[0]? = some (.ref h0_words) → f0_h0[15]? = some (.ref h0_nameWord) → f0_h0[19]? = some (.int h0_nameCount) → f0_h0_words[5]? = some (.ref h0_words_amounts) → f0_h0_words[4]? = some (.ref h0_words_starts) → f0_h0_words[0]? = some (.ref h0_words_tape) → va_P D vwCl [(h0, .inr (3, f0_h0)), (h0_words, .inr (1, f0_h0_words)), (h0_words_amounts, .inl (tA 0, h0_words_amounts_n, .inl h0_words_amounts_c)), (h0_nameWord, .inl (tA 0, h0_nameWord_n, .inl h0_nameWord_c)), (h0_words_starts, .inl (tA 0, h0_words_starts_n, .inl h0_words_starts_c)), (h0_words_tape, .inl (tA 2, h0_words_tape_n, .inl h0_words_tape_c))] H → va_D A [(h0, .inr (3, f0_h0)), (h0_words, .inr (1, f0_h0_words)), (h0_words_amounts, .inl (tA 0, h0_words_amounts_n, .inl h0_words_amounts_c)), (h0_nameWord, .inl (tA 0, h0_nameWord_n, .inl h0_nameWord_c)), (h0_words_starts, .inl (tA 0, h0_words_starts_n, .inl h0_words_starts_c)), (h0_words_tape, .inl (tA 2, h0_words_tape_n, .inl h0_words_tape_c))] → va_S A s.heap H locs → lv_has ls 5 [(0, .ref h0), (1, .int l1), (2, .int l2), (3, .int l3)] → W p l e { frames := 1, cells := 0, slots := 0, locals := 24 } s m args below meth c H locs 0 0 (MQ below (va_Qi (fun (r9 : Int32) (u9 : Unit) => r9 = out) (zPost D A (fun (u9 : Unit) => [(h0, .inr (3, f0_h0)), (h0_words, .inr (1, f0_h0_words)), (h0_words_amounts, .inl (tA 0, h0_words_amounts_n, .inl h0_words_amounts_c)), (h0_nameWord, .inl (tA 0, h0_nameWord_n, .inl h0_nameWord_c)), (h0_words_starts, .inl (tA 0, h0_words_starts_n, .inl h0_words_starts_c)), (h0_words_tape, .inl (tA 2, h0_words_tape_n, .inl h0_words_tape_c))])) A) args s 0 0 A) (F0 m 12 ls [])) := by
  intro n
  induction n with
  | zero => exact ⟨(fun _ _ _ _ _ hF => by rw [z_RR_find] at hF; cases hF), (fun _ _ _ _ _ hF => by rw [z_RR_find] at hF; cases hF)⟩
  | succ n ih =>
    obtain ⟨i0, i1⟩ := ih
    exact ⟨b_RR_find_0 hx hb hr hml hh hg hown hlocks hK hA i1, b_RR_find_1 hx hb hr hml hh hg hown hlocks hK hA i1⟩
set_option maxHeartbeats 4000000 in
set_option maxRecDepth 100000 in
theorem m_RR_find (l : Launch) (D : va_G) (tA : Nat → ClassId) (sz : Nat) (h0 h0_words h0_words_amounts h0_nameWord h0_words_starts h0_words_tape : Nat) (f0_h0 f0_h0_words : List Value) (h0_words_amounts_n : Nat) (h0_nameWord_n : Nat) (h0_words_starts_n : Nat) (h0_words_tape_n : Nat) (l1 : Int32) (h0_nameCount : Int32) (h0_words_amounts_c : Nat → Int32) (h0_nameWord_c : Nat → Int32) (h0_words_starts_c : Nat → Int32) (h0_words_tape_c : Nat → Int32) (q_h0_words : f0_h0[0]? = some (.ref h0_words)) (q_h0_nameWord : f0_h0[15]? = some (.ref h0_nameWord)) (q_h0_nameCount : f0_h0[19]? = some (.int h0_nameCount)) (q_h0_words_amounts : f0_h0_words[5]? = some (.ref h0_words_amounts)) (q_h0_words_starts : f0_h0_words[4]? = some (.ref h0_words_starts)) (q_h0_words_tape : f0_h0_words[0]? = some (.ref h0_words_tape)) (n : Nat) (out : Int32) (hF : f_RR_find h0_words_amounts_n h0_nameWord_n h0_words_starts_n h0_words_tape_n l1 h0_nameCount h0_words_amounts_c h0_nameWord_c h0_words_starts_c h0_words_tape_c n 0 0 0 = some out) : zMi l ({ cls := "ChanceArena$RuleReader", name := "find", desc := "(I)I" } : Jvm.MethodName) (zW (Jvm.Cond.code ({ cls := "ChanceArena$RuleReader", name := "find", desc := "(I)I" } : Jvm.MethodName) prog_9_method_7_code (5 : Nat) (Option.some Jvm.ClassFile.FieldType.int))) { frames := 1, cells := 0, slots := 0, locals := 24 } [.ref h0, .int l1] D tA [(h0, .inr (3, f0_h0)), (h0_words, .inr (1, f0_h0_words)), (h0_words_amounts, .inl (tA 0, h0_words_amounts_n, .inl h0_words_amounts_c)), (h0_nameWord, .inl (tA 0, h0_nameWord_n, .inl h0_nameWord_c)), (h0_words_starts, .inl (tA 0, h0_words_starts_n, .inl h0_words_starts_c)), (h0_words_tape, .inl (tA 2, h0_words_tape_n, .inl h0_words_tape_c))] sz (fun (r9 : Int32) (u9 : Unit) => r9 = out) (fun (u9 : Unit) => [(h0, .inr (3, f0_h0)), (h0_words, .inr (1, f0_h0_words)), (h0_words_amounts, .inl (tA 0, h0_words_amounts_n, .inl h0_words_amounts_c)), (h0_nameWord, .inl (tA 0, h0_nameWord_n, .inl h0_nameWord_c)), (h0_words_starts, .inl (tA 0, h0_words_starts_n, .inl h0_words_starts_c)), (h0_words_tape, .inl (tA 2, h0_words_tape_n, .inl h0_words_tape_c))]) 0 0 := by
  refine zOpen (l := l) (y := ({ cls := "ChanceArena$RuleReader", name := "find", desc := "(I)I" } : Jvm.MethodName)) (ws := zW (Jvm.Cond.code ({ cls := "ChanceArena$RuleReader", name := "find", desc := "(I)I" } : Jvm.MethodName) prog_9_method_7_code (5 : Nat) (Option.some Jvm.ClassFile.FieldType.int))) (rm := { frames := 1, cells := 0, slots := 0, locals := 24 }) (av := [.ref h0, .int l1]) (D := D) (tA := tA) (W0 := [(h0, .inr (3, f0_h0)), (h0_words, .inr (1, f0_h0_words)), (h0_words_amounts, .inl (tA 0, h0_words_amounts_n, .inl h0_words_amounts_c)), (h0_nameWord, .inl (tA 0, h0_nameWord_n, .inl h0_nameWord_c)), (h0_words_starts, .inl (tA 0, h0_words_starts_n, .inl h0_words_starts_c)), (h0_words_tape, .inl (tA 2, h0_words_tape_n, .inl h0_words_tape_c))]) (Wm := [(h0, .inr (3, f0_h0)), (h0_words, .inr (1, f0_h0_words)), (h0_words_amounts, .inl (tA 0, h0_words_amounts_n, .inl h0_words_amounts_c)), (h0_nameWord, .inl (tA 0, h0_nameWord_n, .inl h0_nameWord_c)), (h0_words_starts, .inl (tA 0, h0_words_starts_n, .inl h0_words_starts_c)), (h0_words_tape, .inl (tA 2, h0_words_tape_n, .inl h0_words_tape_c))]) (sz := sz) (mc := 0) (ms := 0) (fun A => va_Qi (fun (r9 : Int32) (u9 : Unit) => r9 = out) (zPost D A (fun (u9 : Unit) => [(h0, .inr (3, f0_h0)), (h0_words, .inr (1, f0_h0_words)), (h0_words_amounts, .inl (tA 0, h0_words_amounts_n, .inl h0_words_amounts_c)), (h0_nameWord, .inl (tA 0, h0_nameWord_n, .inl h0_nameWord_c)), (h0_words_starts, .inl (tA 0, h0_words_starts_n, .inl h0_words_starts_c)), (h0_words_tape, .inl (tA 2, h0_words_tape_n, .inl h0_words_tape_c))])) A) (lv := [(0, .ref h0), (1, .int l1)]) (by decide) rfl (Nat.le_of_ble_eq_true rfl) rfl ?_
  intro p e s m below meth c A ls hx hb hr hml hh hg hown hlocks hnm hK hA hP hD0 hAw hS hl
  have hD := zD hD0 hAw
  exact (a_RR_find hx hb hr hml hh hg hown hlocks hK hA n).1 0 0   _ _ _ hF q_h0_words q_h0_nameWord q_h0_nameCount q_h0_words_amounts q_h0_words_starts q_h0_words_tape hP hD hS hl
