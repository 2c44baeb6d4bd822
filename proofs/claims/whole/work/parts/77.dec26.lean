theorem k12_222 : (Jvm.Cond.code ({ cls := "ChanceArenaModel$Whole", name := "trim", desc := "()V" } : Jvm.MethodName) prog_21_method_6_code (1 : Nat) (Option.none : Option Jvm.ClassFile.FieldType)) ∈ lw_R := zR (zk_12 _ (List.mem_of_getElem? (i := 222) (by decide +kernel))) rfl
theorem k12_226 : (Jvm.Cond.code ({ cls := "ChanceArenaModel$Whole", name := "add", desc := "(LChanceArenaModel$Whole;)V" } : Jvm.MethodName) prog_21_method_9_code (6 : Nat) (Option.none : Option Jvm.ClassFile.FieldType)) ∈ lw_R := zR (zk_12 _ (List.mem_of_getElem? (i := 226) (by decide +kernel))) rfl
theorem k12_227 : (Jvm.Cond.methodLink "ChanceArenaModel$Whole" (19 : Nat) ({ cls := "ChanceArenaModel$Whole", name := "at", desc := "(I)I" } : Jvm.MethodName)) ∈ lw_R := zR (zk_12 _ (List.mem_of_getElem? (i := 227) (by decide +kernel))) rfl
theorem k12_229 : (Jvm.Cond.instanceMethod ({ cls := "ChanceArenaModel$Whole", name := "at", desc := "(I)I" } : Jvm.MethodName)) ∈ lw_R := zR (zk_12 _ (List.mem_of_getElem? (i := 229) (by decide +kernel))) rfl
theorem k12_230 : (Jvm.Cond.code ({ cls := "ChanceArenaModel$Whole", name := "at", desc := "(I)I" } : Jvm.MethodName) prog_21_method_8_code (2 : Nat) (Option.some Jvm.ClassFile.FieldType.int)) ∈ lw_R := zR (zk_12 _ (List.mem_of_getElem? (i := 230) (by decide +kernel))) rfl
theorem k12_231 : (Jvm.Cond.constant "ChanceArenaModel$Whole" (23 : Nat) (16777216 : Int32)) ∈ lw_R := zR (zk_12 _ (List.mem_of_getElem? (i := 231) (by decide +kernel))) rfl
theorem k12_235 : (Jvm.Cond.code ({ cls := "ChanceArenaModel$Whole", name := "compare", desc := "(LChanceArenaModel$Whole;)I" } : Jvm.MethodName) prog_21_method_7_code (3 : Nat) (Option.some Jvm.ClassFile.FieldType.int)) ∈ lw_R := zR (zk_12 _ (List.mem_of_getElem? (i := 235) (by decide +kernel))) rfl
theorem k13_3 : (Jvm.Cond.code ({ cls := "ChanceArenaModel$Whole", name := "copy", desc := "(LChanceArenaModel$Whole;)V" } : Jvm.MethodName) prog_21_method_3_code (3 : Nat) (Option.none : Option Jvm.ClassFile.FieldType)) ∈ lw_R := zR (zk_13 _ (List.mem_of_getElem? (i := 3) (by decide +kernel))) rfl
theorem k13_11 : (Jvm.Cond.code ({ cls := "ChanceArenaModel$Whole", name := "isZero", desc := "()Z" } : Jvm.MethodName) prog_21_method_4_code (1 : Nat) (Option.some Jvm.ClassFile.FieldType.boolean)) ∈ lw_R := zR (zk_13 _ (List.mem_of_getElem? (i := 11) (by decide +kernel))) rfl
theorem k13_33 : (Jvm.Cond.code ({ cls := "ChanceArenaModel$Whole", name := "isOne", desc := "()Z" } : Jvm.MethodName) prog_21_method_5_code (1 : Nat) (Option.some Jvm.ClassFile.FieldType.boolean)) ∈ lw_R := zR (zk_13 _ (List.mem_of_getElem? (i := 33) (by decide +kernel))) rfl
theorem d_MW_copy_0 : decode prog_21_method_3_code 0 = .ok (.aload_n 0, 1) := by decide +kernel
theorem d_MW_copy_1 : decode prog_21_method_3_code 1 = .ok (.aload_n 1, 1) := by decide +kernel
theorem d_MW_copy_2 : decode prog_21_method_3_code 2 = .ok (.getfield 13, 3) := by decide +kernel
theorem d_MW_copy_5 : decode prog_21_method_3_code 5 = .ok (.putfield 13, 3) := by decide +kernel
theorem d_MW_copy_8 : decode prog_21_method_3_code 8 = .ok (.iconst 0, 1) := by decide +kernel
theorem d_MW_copy_9 : decode prog_21_method_3_code 9 = .ok (.istore_n 2, 1) := by decide +kernel
theorem d_MW_copy_10 : decode prog_21_method_3_code 10 = .ok (.iload_n 2, 1) := by decide +kernel
theorem d_MW_copy_11 : decode prog_21_method_3_code 11 = .ok (.aload_n 0, 1) := by decide +kernel
theorem d_MW_copy_12 : decode prog_21_method_3_code 12 = .ok (.getfield 13, 3) := by decide +kernel
theorem d_MW_copy_15 : decode prog_21_method_3_code 15 = .ok (.if_icmp .ge 21, 3) := by decide +kernel
theorem d_MW_copy_36 : decode prog_21_method_3_code 36 = .ok (.return_, 1) := by decide +kernel
theorem d_MW_copy_18 : decode prog_21_method_3_code 18 = .ok (.aload_n 0, 1) := by decide +kernel
theorem d_MW_copy_19 : decode prog_21_method_3_code 19 = .ok (.getfield 7, 3) := by decide +kernel
theorem d_MW_copy_22 : decode prog_21_method_3_code 22 = .ok (.iload_n 2, 1) := by decide +kernel
theorem d_MW_copy_23 : decode prog_21_method_3_code 23 = .ok (.aload_n 1, 1) := by decide +kernel
theorem d_MW_copy_24 : decode prog_21_method_3_code 24 = .ok (.getfield 7, 3) := by decide +kernel
theorem d_MW_copy_27 : decode prog_21_method_3_code 27 = .ok (.iload_n 2, 1) := by decide +kernel
theorem d_MW_copy_28 : decode prog_21_method_3_code 28 = .ok (.iaload, 1) := by decide +kernel
theorem d_MW_copy_29 : decode prog_21_method_3_code 29 = .ok (.iastore, 1) := by decide +kernel
theorem d_MW_copy_30 : decode prog_21_method_3_code 30 = .ok (.iinc 2 1, 3) := by decide +kernel
theorem d_MW_copy_33 : decode prog_21_method_3_code 33 = .ok (.goto (-23), 3) := by decide +kernel
theorem d_MW_isZero_0 : decode prog_21_method_4_code 0 = .ok (.aload_n 0, 1) := by decide +kernel
theorem d_MW_isZero_1 : decode prog_21_method_4_code 1 = .ok (.getfield 13, 3) := by decide +kernel
theorem d_MW_isZero_4 : decode prog_21_method_4_code 4 = .ok (.ifCond .ne 7, 3) := by decide +kernel
theorem d_MW_isZero_11 : decode prog_21_method_4_code 11 = .ok (.iconst 0, 1) := by decide +kernel
theorem d_MW_isZero_12 : decode prog_21_method_4_code 12 = .ok (.ireturn, 1) := by decide +kernel
theorem d_MW_isZero_7 : decode prog_21_method_4_code 7 = .ok (.iconst 1, 1) := by decide +kernel
theorem d_MW_isZero_8 : decode prog_21_method_4_code 8 = .ok (.goto 4, 3) := by decide +kernel
theorem d_MW_isOne_0 : decode prog_21_method_5_code 0 = .ok (.aload_n 0, 1) := by decide +kernel
theorem d_MW_isOne_1 : decode prog_21_method_5_code 1 = .ok (.getfield 13, 3) := by decide +kernel
theorem d_MW_isOne_4 : decode prog_21_method_5_code 4 = .ok (.iconst 1, 1) := by decide +kernel
theorem d_MW_isOne_5 : decode prog_21_method_5_code 5 = .ok (.if_icmp .ne 17, 3) := by decide +kernel
theorem d_MW_isOne_22 : decode prog_21_method_5_code 22 = .ok (.iconst 0, 1) := by decide +kernel
theorem d_MW_isOne_23 : decode prog_21_method_5_code 23 = .ok (.ireturn, 1) := by decide +kernel
theorem d_MW_isOne_8 : decode prog_21_method_5_code 8 = .ok (.aload_n 0, 1) := by decide +kernel
theorem d_MW_isOne_9 : decode prog_21_method_5_code 9 = .ok (.getfield 7, 3) := by decide +kernel
theorem d_MW_isOne_12 : decode prog_21_method_5_code 12 = .ok (.iconst 0, 1) := by decide +kernel
theorem d_MW_isOne_13 : decode prog_21_method_5_code 13 = .ok (.iaload, 1) := by decide +kernel
theorem d_MW_isOne_14 : decode prog_21_method_5_code 14 = .ok (.iconst 1, 1) := by decide +kernel
theorem d_MW_isOne_15 : decode prog_21_method_5_code 15 = .ok (.if_icmp .ne 7, 3) := by decide +kernel
theorem d_MW_isOne_18 : decode prog_21_method_5_code 18 = .ok (.iconst 1, 1) := by decide +kernel
theorem d_MW_isOne_19 : decode prog_21_method_5_code 19 = .ok (.goto 4, 3) := by decide +kernel
theorem d_MW_trim_0 : decode prog_21_method_6_code 0 = .ok (.aload_n 0, 1) := by decide +kernel
theorem d_MW_trim_1 : decode prog_21_method_6_code 1 = .ok (.getfield 13, 3) := by decide +kernel
theorem d_MW_trim_4 : decode prog_21_method_6_code 4 = .ok (.ifCond .le 30, 3) := by decide +kernel
theorem d_MW_trim_34 : decode prog_21_method_6_code 34 = .ok (.return_, 1) := by decide +kernel
theorem d_MW_trim_7 : decode prog_21_method_6_code 7 = .ok (.aload_n 0, 1) := by decide +kernel
theorem d_MW_trim_8 : decode prog_21_method_6_code 8 = .ok (.getfield 7, 3) := by decide +kernel
theorem d_MW_trim_11 : decode prog_21_method_6_code 11 = .ok (.aload_n 0, 1) := by decide +kernel
theorem d_MW_trim_12 : decode prog_21_method_6_code 12 = .ok (.getfield 13, 3) := by decide +kernel
theorem d_MW_trim_15 : decode prog_21_method_6_code 15 = .ok (.iconst 1, 1) := by decide +kernel
theorem d_MW_trim_16 : decode prog_21_method_6_code 16 = .ok (.isub, 1) := by decide +kernel
theorem d_MW_trim_17 : decode prog_21_method_6_code 17 = .ok (.iaload, 1) := by decide +kernel
theorem d_MW_trim_18 : decode prog_21_method_6_code 18 = .ok (.ifCond .ne 16, 3) := by decide +kernel
theorem d_MW_trim_21 : decode prog_21_method_6_code 21 = .ok (.aload_n 0, 1) := by decide +kernel
theorem d_MW_trim_22 : decode prog_21_method_6_code 22 = .ok (.dup, 1) := by decide +kernel
theorem d_MW_trim_23 : decode prog_21_method_6_code 23 = .ok (.getfield 13, 3) := by decide +kernel
theorem d_MW_trim_26 : decode prog_21_method_6_code 26 = .ok (.iconst 1, 1) := by decide +kernel
theorem d_MW_trim_27 : decode prog_21_method_6_code 27 = .ok (.isub, 1) := by decide +kernel
theorem d_MW_trim_28 : decode prog_21_method_6_code 28 = .ok (.putfield 13, 3) := by decide +kernel
theorem d_MW_trim_31 : decode prog_21_method_6_code 31 = .ok (.goto (-31), 3) := by decide +kernel
theorem d_MW_compare_0 : decode prog_21_method_7_code 0 = .ok (.aload_n 0, 1) := by decide +kernel
theorem d_MW_compare_1 : decode prog_21_method_7_code 1 = .ok (.getfield 13, 3) := by decide +kernel
theorem d_MW_compare_4 : decode prog_21_method_7_code 4 = .ok (.aload_n 1, 1) := by decide +kernel
theorem d_MW_compare_5 : decode prog_21_method_7_code 5 = .ok (.getfield 13, 3) := by decide +kernel
theorem d_MW_compare_8 : decode prog_21_method_7_code 8 = .ok (.if_icmp .eq 20, 3) := by decide +kernel
theorem d_MW_compare_28 : decode prog_21_method_7_code 28 = .ok (.aload_n 0, 1) := by decide +kernel
theorem d_MW_compare_29 : decode prog_21_method_7_code 29 = .ok (.getfield 13, 3) := by decide +kernel
theorem d_MW_compare_32 : decode prog_21_method_7_code 32 = .ok (.iconst 1, 1) := by decide +kernel
theorem d_MW_compare_33 : decode prog_21_method_7_code 33 = .ok (.isub, 1) := by decide +kernel
theorem d_MW_compare_34 : decode prog_21_method_7_code 34 = .ok (.istore_n 2, 1) := by decide +kernel
theorem d_MW_compare_11 : decode prog_21_method_7_code 11 = .ok (.aload_n 0, 1) := by decide +kernel
theorem d_MW_compare_12 : decode prog_21_method_7_code 12 = .ok (.getfield 13, 3) := by decide +kernel
theorem d_MW_compare_15 : decode prog_21_method_7_code 15 = .ok (.aload_n 1, 1) := by decide +kernel
theorem d_MW_compare_16 : decode prog_21_method_7_code 16 = .ok (.getfield 13, 3) := by decide +kernel
theorem d_MW_compare_19 : decode prog_21_method_7_code 19 = .ok (.if_icmp .ge 7, 3) := by decide +kernel
theorem d_MW_compare_26 : decode prog_21_method_7_code 26 = .ok (.iconst 1, 1) := by decide +kernel
theorem d_MW_compare_27 : decode prog_21_method_7_code 27 = .ok (.ireturn, 1) := by decide +kernel
theorem d_MW_compare_22 : decode prog_21_method_7_code 22 = .ok (.iconst (-1), 1) := by decide +kernel
theorem d_MW_compare_23 : decode prog_21_method_7_code 23 = .ok (.goto 4, 3) := by decide +kernel
theorem d_MW_compare_35 : decode prog_21_method_7_code 35 = .ok (.iload_n 2, 1) := by decide +kernel
theorem d_MW_compare_36 : decode prog_21_method_7_code 36 = .ok (.ifCond .lt 24, 3) := by decide +kernel
theorem d_MW_compare_60 : decode prog_21_method_7_code 60 = .ok (.iload_n 2, 1) := by decide +kernel
theorem d_MW_compare_61 : decode prog_21_method_7_code 61 = .ok (.ifCond .ge 7, 3) := by decide +kernel
theorem d_MW_compare_68 : decode prog_21_method_7_code 68 = .ok (.aload_n 0, 1) := by decide +kernel
theorem d_MW_compare_69 : decode prog_21_method_7_code 69 = .ok (.getfield 7, 3) := by decide +kernel
theorem d_MW_compare_72 : decode prog_21_method_7_code 72 = .ok (.iload_n 2, 1) := by decide +kernel
theorem d_MW_compare_73 : decode prog_21_method_7_code 73 = .ok (.iaload, 1) := by decide +kernel
theorem d_MW_compare_74 : decode prog_21_method_7_code 74 = .ok (.aload_n 1, 1) := by decide +kernel
theorem d_MW_compare_75 : decode prog_21_method_7_code 75 = .ok (.getfield 7, 3) := by decide +kernel
theorem d_MW_compare_78 : decode prog_21_method_7_code 78 = .ok (.iload_n 2, 1) := by decide +kernel
theorem d_MW_compare_79 : decode prog_21_method_7_code 79 = .ok (.iaload, 1) := by decide +kernel
theorem d_MW_compare_80 : decode prog_21_method_7_code 80 = .ok (.if_icmp .ge 7, 3) := by decide +kernel
theorem d_MW_compare_87 : decode prog_21_method_7_code 87 = .ok (.iconst 1, 1) := by decide +kernel
theorem d_MW_compare_88 : decode prog_21_method_7_code 88 = .ok (.ireturn, 1) := by decide +kernel
theorem d_MW_compare_83 : decode prog_21_method_7_code 83 = .ok (.iconst (-1), 1) := by decide +kernel
theorem d_MW_compare_84 : decode prog_21_method_7_code 84 = .ok (.goto 4, 3) := by decide +kernel
theorem d_MW_compare_64 : decode prog_21_method_7_code 64 = .ok (.iconst 0, 1) := by decide +kernel
theorem d_MW_compare_65 : decode prog_21_method_7_code 65 = .ok (.goto 23, 3) := by decide +kernel
theorem d_MW_compare_39 : decode prog_21_method_7_code 39 = .ok (.aload_n 0, 1) := by decide +kernel
theorem d_MW_compare_40 : decode prog_21_method_7_code 40 = .ok (.getfield 7, 3) := by decide +kernel
theorem d_MW_compare_43 : decode prog_21_method_7_code 43 = .ok (.iload_n 2, 1) := by decide +kernel
theorem d_MW_compare_44 : decode prog_21_method_7_code 44 = .ok (.iaload, 1) := by decide +kernel
theorem d_MW_compare_45 : decode prog_21_method_7_code 45 = .ok (.aload_n 1, 1) := by decide +kernel
theorem d_MW_compare_46 : decode prog_21_method_7_code 46 = .ok (.getfield 7, 3) := by decide +kernel
theorem d_MW_compare_49 : decode prog_21_method_7_code 49 = .ok (.iload_n 2, 1) := by decide +kernel
theorem d_MW_compare_50 : decode prog_21_method_7_code 50 = .ok (.iaload, 1) := by decide +kernel
theorem d_MW_compare_51 : decode prog_21_method_7_code 51 = .ok (.if_icmp .ne 9, 3) := by decide +kernel
theorem d_MW_compare_54 : decode prog_21_method_7_code 54 = .ok (.iinc 2 (-1), 3) := by decide +kernel
theorem d_MW_compare_57 : decode prog_21_method_7_code 57 = .ok (.goto (-22), 3) := by decide +kernel
theorem d_MW_at_0 : decode prog_21_method_8_code 0 = .ok (.iload_n 1, 1) := by decide +kernel
theorem d_MW_at_1 : decode prog_21_method_8_code 1 = .ok (.aload_n 0, 1) := by decide +kernel
theorem d_MW_at_2 : decode prog_21_method_8_code 2 = .ok (.getfield 13, 3) := by decide +kernel
theorem d_MW_at_5 : decode prog_21_method_8_code 5 = .ok (.if_icmp .ge 12, 3) := by decide +kernel
theorem d_MW_at_17 : decode prog_21_method_8_code 17 = .ok (.iconst 0, 1) := by decide +kernel
theorem d_MW_at_18 : decode prog_21_method_8_code 18 = .ok (.ireturn, 1) := by decide +kernel
theorem d_MW_at_8 : decode prog_21_method_8_code 8 = .ok (.aload_n 0, 1) := by decide +kernel
theorem d_MW_at_9 : decode prog_21_method_8_code 9 = .ok (.getfield 7, 3) := by decide +kernel
theorem d_MW_at_12 : decode prog_21_method_8_code 12 = .ok (.iload_n 1, 1) := by decide +kernel
theorem d_MW_at_13 : decode prog_21_method_8_code 13 = .ok (.iaload, 1) := by decide +kernel
theorem d_MW_at_14 : decode prog_21_method_8_code 14 = .ok (.goto 4, 3) := by decide +kernel
theorem d_MW_add_0 : decode prog_21_method_9_code 0 = .ok (.aload_n 0, 1) := by decide +kernel
theorem d_MW_add_1 : decode prog_21_method_9_code 1 = .ok (.getfield 13, 3) := by decide +kernel
theorem d_MW_add_4 : decode prog_21_method_9_code 4 = .ok (.aload_n 1, 1) := by decide +kernel
theorem d_MW_add_5 : decode prog_21_method_9_code 5 = .ok (.getfield 13, 3) := by decide +kernel
theorem d_MW_add_8 : decode prog_21_method_9_code 8 = .ok (.if_icmp .le 10, 3) := by decide +kernel
theorem d_MW_add_18 : decode prog_21_method_9_code 18 = .ok (.aload_n 1, 1) := by decide +kernel
theorem d_MW_add_19 : decode prog_21_method_9_code 19 = .ok (.getfield 13, 3) := by decide +kernel
theorem d_MW_add_22 : decode prog_21_method_9_code 22 = .ok (.istore_n 2, 1) := by decide +kernel
theorem d_MW_add_23 : decode prog_21_method_9_code 23 = .ok (.iconst 0, 1) := by decide +kernel
theorem d_MW_add_24 : decode prog_21_method_9_code 24 = .ok (.istore_n 3, 1) := by decide +kernel
theorem d_MW_add_25 : decode prog_21_method_9_code 25 = .ok (.iconst 0, 1) := by decide +kernel
theorem d_MW_add_26 : decode prog_21_method_9_code 26 = .ok (.istore 4, 2) := by decide +kernel
theorem d_MW_add_11 : decode prog_21_method_9_code 11 = .ok (.aload_n 0, 1) := by decide +kernel
theorem d_MW_add_12 : decode prog_21_method_9_code 12 = .ok (.getfield 13, 3) := by decide +kernel
theorem d_MW_add_15 : decode prog_21_method_9_code 15 = .ok (.goto 7, 3) := by decide +kernel
theorem d_MW_add_28 : decode prog_21_method_9_code 28 = .ok (.iload 4, 2) := by decide +kernel
theorem d_MW_add_30 : decode prog_21_method_9_code 30 = .ok (.iload_n 2, 1) := by decide +kernel
theorem d_MW_add_31 : decode prog_21_method_9_code 31 = .ok (.if_icmp .ge 44, 3) := by decide +kernel
theorem d_MW_add_75 : decode prog_21_method_9_code 75 = .ok (.aload_n 0, 1) := by decide +kernel
theorem d_MW_add_76 : decode prog_21_method_9_code 76 = .ok (.iload_n 2, 1) := by decide +kernel
theorem d_MW_add_77 : decode prog_21_method_9_code 77 = .ok (.putfield 13, 3) := by decide +kernel
theorem d_MW_add_80 : decode prog_21_method_9_code 80 = .ok (.iload_n 3, 1) := by decide +kernel
theorem d_MW_add_81 : decode prog_21_method_9_code 81 = .ok (.ifCond .le 23, 3) := by decide +kernel
theorem d_MW_add_104 : decode prog_21_method_9_code 104 = .ok (.return_, 1) := by decide +kernel
theorem d_MW_add_84 : decode prog_21_method_9_code 84 = .ok (.aload_n 0, 1) := by decide +kernel
theorem d_MW_add_85 : decode prog_21_method_9_code 85 = .ok (.getfield 7, 3) := by decide +kernel
theorem d_MW_add_88 : decode prog_21_method_9_code 88 = .ok (.aload_n 0, 1) := by decide +kernel
theorem d_MW_add_89 : decode prog_21_method_9_code 89 = .ok (.getfield 13, 3) := by decide +kernel
theorem d_MW_add_92 : decode prog_21_method_9_code 92 = .ok (.iload_n 3, 1) := by decide +kernel
theorem d_MW_add_93 : decode prog_21_method_9_code 93 = .ok (.iastore, 1) := by decide +kernel
theorem d_MW_add_94 : decode prog_21_method_9_code 94 = .ok (.aload_n 0, 1) := by decide +kernel
theorem d_MW_add_95 : decode prog_21_method_9_code 95 = .ok (.dup, 1) := by decide +kernel
theorem d_MW_add_96 : decode prog_21_method_9_code 96 = .ok (.getfield 13, 3) := by decide +kernel
theorem d_MW_add_99 : decode prog_21_method_9_code 99 = .ok (.iconst 1, 1) := by decide +kernel
theorem d_MW_add_100 : decode prog_21_method_9_code 100 = .ok (.iadd, 1) := by decide +kernel
theorem d_MW_add_101 : decode prog_21_method_9_code 101 = .ok (.putfield 13, 3) := by decide +kernel
theorem d_MW_add_34 : decode prog_21_method_9_code 34 = .ok (.aload_n 0, 1) := by decide +kernel
theorem d_MW_add_35 : decode prog_21_method_9_code 35 = .ok (.iload 4, 2) := by decide +kernel
theorem d_MW_add_37 : decode prog_21_method_9_code 37 = .ok (.invokevirtual 19, 3) := by decide +kernel
theorem ks_MW_at : Cond.selects "ChanceArenaModel$Whole" ({ cls := "ChanceArenaModel$Whole", name := "at", desc := "(I)I" } : Jvm.MethodName) ({ cls := "ChanceArenaModel$Whole", name := "at", desc := "(I)I" } : Jvm.MethodName) ∈ lw_R := zR (List.mem_append_left _ (List.mem_of_getElem? (i := 163) (by decide +kernel))) rfl
theorem d_MW_add_40 : decode prog_21_method_9_code 40 = .ok (.aload_n 1, 1) := by decide +kernel
theorem d_MW_add_41 : decode prog_21_method_9_code 41 = .ok (.iload 4, 2) := by decide +kernel
theorem d_MW_add_43 : decode prog_21_method_9_code 43 = .ok (.invokevirtual 19, 3) := by decide +kernel
theorem d_MW_add_46 : decode prog_21_method_9_code 46 = .ok (.iadd, 1) := by decide +kernel
theorem d_MW_add_47 : decode prog_21_method_9_code 47 = .ok (.iload_n 3, 1) := by decide +kernel
theorem d_MW_add_48 : decode prog_21_method_9_code 48 = .ok (.iadd, 1) := by decide +kernel
theorem d_MW_add_49 : decode prog_21_method_9_code 49 = .ok (.istore 5, 2) := by decide +kernel
theorem d_MW_add_51 : decode prog_21_method_9_code 51 = .ok (.aload_n 0, 1) := by decide +kernel
theorem d_MW_add_52 : decode prog_21_method_9_code 52 = .ok (.getfield 7, 3) := by decide +kernel
theorem d_MW_add_55 : decode prog_21_method_9_code 55 = .ok (.iload 4, 2) := by decide +kernel
theorem d_MW_add_57 : decode prog_21_method_9_code 57 = .ok (.iload 5, 2) := by decide +kernel
theorem d_MW_add_59 : decode prog_21_method_9_code 59 = .ok (.ldc 23, 2) := by decide +kernel
theorem d_MW_add_61 : decode prog_21_method_9_code 61 = .ok (.irem, 1) := by decide +kernel
theorem d_MW_add_62 : decode prog_21_method_9_code 62 = .ok (.iastore, 1) := by decide +kernel
theorem d_MW_add_63 : decode prog_21_method_9_code 63 = .ok (.iload 5, 2) := by decide +kernel
theorem d_MW_add_65 : decode prog_21_method_9_code 65 = .ok (.ldc 23, 2) := by decide +kernel
theorem d_MW_add_67 : decode prog_21_method_9_code 67 = .ok (.idiv, 1) := by decide +kernel
theorem d_MW_add_68 : decode prog_21_method_9_code 68 = .ok (.istore_n 3, 1) := by decide +kernel
theorem d_MW_add_69 : decode prog_21_method_9_code 69 = .ok (.iinc 4 1, 3) := by decide +kernel
theorem d_MW_add_72 : decode prog_21_method_9_code 72 = .ok (.goto (-44), 3) := by decide +kernel
def f_MW_copy (h0_parts_n : Nat) (p1_parts_n : Nat) (p1_n : Int32) (p1_parts_c : Nat → Int32) : Nat → Nat → Int32 → (Nat → Int32) → Int32 → Option (Int32 × (Nat → Int32))
  | 0, _, _, _, _ => none
  | n + 1, 0, h0_n, h0_parts_c, l2 => chk True (f_MW_copy h0_parts_n p1_parts_n p1_n p1_parts_c n 1 p1_n h0_parts_c 0)
  | n + 1, 1, h0_n, h0_parts_c, l2 => if (h0_n : Int32) ≤ l2 then some (h0_n, h0_parts_c) else chk (0 ≤ (l2 : Int32).toInt ∧ (l2 : Int32).toInt < p1_parts_n) (chk (0 ≤ (l2 : Int32).toInt ∧ (l2 : Int32).toInt < h0_parts_n) (f_MW_copy h0_parts_n p1_parts_n p1_n p1_parts_c n 1 h0_n (upd h0_parts_c (l2 : Int32).toNatClampNeg (p1_parts_c (l2 : Int32).toNatClampNeg)) (l2 + Int32.ofInt 1)))
  | _ + 1, _ + 2, _, _, _ => none
theorem e_MW_copy_0 (h0_parts_n : Nat) (p1_parts_n : Nat) (p1_n : Int32) (p1_parts_c : Nat → Int32) (n : Nat) (h0_n : Int32) (h0_parts_c : Nat → Int32) (l2 : Int32) : f_MW_copy h0_parts_n p1_parts_n p1_n p1_parts_c (n + 1) 0 h0_n h0_parts_c l2 = chk True (f_MW_copy h0_parts_n p1_parts_n p1_n p1_parts_c n 1 p1_n h0_parts_c 0) := by rw [f_MW_copy]
theorem e_MW_copy_1 (h0_parts_n : Nat) (p1_parts_n : Nat) (p1_n : Int32) (p1_parts_c : Nat → Int32) (n : Nat) (h0_n : Int32) (h0_parts_c : Nat → Int32) (l2 : Int32) : f_MW_copy h0_parts_n p1_parts_n p1_n p1_parts_c (n + 1) 1 h0_n h0_parts_c l2 = if (h0_n : Int32) ≤ l2 then some (h0_n, h0_parts_c) else chk (0 ≤ (l2 : Int32).toInt ∧ (l2 : Int32).toInt < p1_parts_n) (chk (0 ≤ (l2 : Int32).toInt ∧ (l2 : Int32).toInt < h0_parts_n) (f_MW_copy h0_parts_n p1_parts_n p1_n p1_parts_c n 1 h0_n (upd h0_parts_c (l2 : Int32).toNatClampNeg (p1_parts_c (l2 : Int32).toNatClampNeg)) (l2 + Int32.ofInt 1))) := by rw [f_MW_copy]
theorem z_MW_copy (h0_parts_n : Nat) (p1_parts_n : Nat) (p1_n : Int32) (p1_parts_c : Nat → Int32) (h : Nat) (h0_n : Int32) (h0_parts_c : Nat → Int32) (l2 : Int32) : f_MW_copy h0_parts_n p1_parts_n p1_n p1_parts_c 0 h h0_n h0_parts_c l2 = none := by rw [f_MW_copy]
set_option maxHeartbeats 4000000 in
set_option maxRecDepth 100000 in
theorem b_MW_copy_0 {p : Program} {l : Launch} {e : Env} {s : State} {m : MethodId} {args : Array Value} {below : List Frame} {meth : Method} {c : Code} {D : va_G} {tA : Nat → ClassId} {A : Nat → Prop} {h0 p1 h0_parts p1_parts : Nat} {f0_h0 f0_p1 : List Value} {h0_parts_n : Nat} {p1_parts_n : Nat} {p1_n : Int32} {p1_parts_c : Nat → Int32} {out : Int32 × (Nat → Int32)} (hx : p.tables.exec = Jvm.exec) (hb : c.code = prog_21_method_3_code) (hr : meth.sig.returnType = (Option.none : Option Jvm.ClassFile.FieldType)) (hml : c.maxLocals = 3) (hh : zH s) (hg : ∀ w ∈ lw_R, w.before args s = true) (hown : s.vm.findClass "ChanceArenaModel$Whole" = some m.cls) (hlocks : meth.locks = false) (hK : va_K D vwCl (zT tA) s) (hA : ∀ q, s.heap.size ≤ q → A q) {n : Nat} (ih1 : ∀ (h0_n : Int32) (h0_parts_c : Nat → Int32) (l2 : Int32) (f_h0 : List Value) (H : Heap) (locs : List Loc) (ls : Array Slot), f_MW_copy h0_parts_n p1_parts_n p1_n p1_parts_c n 1 h0_n h0_parts_c l2 = some out → f_h0[0]? = some (.ref h0_parts) → f_h0[1]? = some (.int h0_n) → Fr [1] f0_h0 f_h0 → f0_p1[0]? = some (.ref p1_parts) → f0_p1[1]? = some (.int p1_n) → va_P D vwCl [(h0, .inr (19, f_h0)), (p1, .inr (19, f0_p1)), (h0_parts, .inl (tA 0, h0_parts_n, .inl h0_parts_c)), (p1_parts, .inl (tA 0, p1_parts_n, .inl p1_parts_c))] H → va_D A [(h0, .inr (19, f_h0)), (p1, .inr (19, f0_p1)), (h0_parts, .inl (tA 0, h0_parts_n, .inl h0_parts_c)), (p1_parts, .inl (tA 0, p1_parts_n, .inl p1_parts_c))] → va_S A s.heap H locs → lv_has ls 3 [(0, .ref h0), (1, .ref p1), (2, .int l2)] → W p l e { frames := 0, cells := 0, slots := 0, locals := 0 } s m args below meth c H locs 0 0 (MQ below (va_Qv (fun (u9 : List Value) => Fr [1] f0_h0 u9 ∧ u9[1]? = some (.int out.1)) (zPost D A (fun (u9 : List Value) => [(h0, .inr (19, u9)), (p1, .inr (19, f0_p1)), (h0_parts, .inl (tA 0, h0_parts_n, .inl out.2)), (p1_parts, .inl (tA 0, p1_parts_n, .inl p1_parts_c))])) A) args s 0 0 A) (F0 m 10 ls [])) : ∀ (h0_n : Int32) (h0_parts_c : Nat → Int32) (l2 : Int32) (f_h0 : List Value) (H : Heap) (locs : List Loc) (ls : Array Slot), f_MW_copy h0_parts_n p1_parts_n p1_n p1_parts_c (n + 1) 0 h0_n h0_parts_c l2 = some out → f_h0[0]? = some (.ref h0_parts) → f_h0[1]? = some (.int h0_n) → Fr [1] f0_h0 f_h0 → f0_p1[0]? = some (.ref p1_parts) → f0_p1[1]? = some (.int p1_n) → va_P D vwCl [(h0, .inr (19, f_h0)), (p1, .inr (19, f0_p1)), (h0_parts, .inl (tA 0, h0_parts_n, .inl h0_parts_c)), (p1_parts, .inl (tA 0, p1_parts_n, .inl p1_parts_c))] H → va_D A [(h0, .inr (19, f_h0)), (p1, .inr (19, f0_p1)), (h0_parts, .inl (tA 0, h0_parts_n, .inl h0_parts_c)), (p1_parts, .inl (tA 0, p1_parts_n, .inl p1_parts_c))] → va_S A s.heap H locs → lv_has ls 3 [(0, .ref h0), (1, .ref p1)] → W p l e { frames := 0, cells := 0, slots := 0, locals := 0 } s m args below meth c H locs 0 0 (MQ below (va_Qv (fun (u9 : List Value) => Fr [1] f0_h0 u9 ∧ u9[1]? = some (.int out.1)) (zPost D A (fun (u9 : List Value) => [(h0, .inr (19, u9)), (p1, .inr (19, f0_p1)), (h0_parts, .inl (tA 0, h0_parts_n, .inl out.2)), (p1_parts, .inl (tA 0, p1_parts_n, .inl p1_parts_c))])) A) args s 0 0 A) (F0 m 0 ls []) := by
  intro h0_n h0_parts_c l2  f_h0 H locs ls hF q_h0_parts q_h0_n r_h0 q_p1_parts q_p1_n hP hD hS hl
  rw [e_MW_copy_0] at hF
  obtain ⟨_, hF⟩ := chk_some hF
  refine lv_aload_n hx hb d_MW_copy_0 rfl (lv_at hl 0 rfl) ?_
  refine lv_aload_n hx hb d_MW_copy_1 rfl (lv_at hl 1 rfl) ?_
  refine va_get (D := D) (ci := 19) (v := .int p1_n) (C := R_MW) (T := T_MW) (N := 2) hx hb hg i_MW hown hK hP 1 rfl rfl 1 (by decide) (hg _ k9_135) (fun _ h9 => h9) q_p1_n d_MW_copy_2 ?_
  refine va_put (D := D) (ci := 19) (v := .int p1_n) (ty := .int) (C := R_MW) (T := T_MW) (N := 2) hx hb hg i_MW t_MW o_MW n_MW hown hK hP hD hS 0 rfl rfl 1 (by decide) (hg _ k9_135) (fun _ h9 => h9) rfl (by decide +kernel) rfl rfl (zLen q_h0_n) d_MW_copy_5 (fun H1 locs1 hP1 hD1 hS1 => ?_)
  clear hP hD hS
  replace hP1 : va_P D vwCl [(h0, .inr (19, f_h0.set 1 (.int p1_n))), (p1, .inr (19, f0_p1)), (h0_parts, .inl (tA 0, h0_parts_n, .inl h0_parts_c)), (p1_parts, .inl (tA 0, p1_parts_n, .inl p1_parts_c))] _ := hP1
  replace hD1 : va_D A [(h0, .inr (19, f_h0.set 1 (.int p1_n))), (p1, .inr (19, f0_p1)), (h0_parts, .inl (tA 0, h0_parts_n, .inl h0_parts_c)), (p1_parts, .inl (tA 0, p1_parts_n, .inl p1_parts_c))] := hD1
  refine lv_iconst (v := 0) hx hb d_MW_copy_8 (by decide) ?_
  refine lv_istore_n (lv' := [(2, .int 0), (0, .ref h0), (1, .ref p1)]) hx hb d_MW_copy_9 rfl hl (by decide) rfl (fun ls hl => ?_)
  exact ih1 p1_n h0_parts_c 0  (f_h0.set 1 (.int p1_n)) _ _ _ hF (zSetN (by decide) q_h0_parts) (zSetS q_h0_n) (Fr.set r_h0 (by decide)) q_p1_parts q_p1_n hP1 hD1 hS1 (lv_sub hl [1, 2, 0] rfl)
set_option maxHeartbeats 4000000 in
set_option maxRecDepth 100000 in
theorem b_MW_copy_1 {p : Program} {l : Launch} {e : Env} {s : State} {m : MethodId} {args : Array Value} {below : List Frame} {meth : Method} {c : Code} {D : va_G} {tA : Nat → ClassId} {A : Nat → Prop} {h0 p1 h0_parts p1_parts : Nat} {f0_h0 f0_p1 : List Value} {h0_parts_n : Nat} {p1_parts_n : Nat} {p1_n : Int32} {p1_parts_c : Nat → Int32} {out : Int32 × (Nat → Int32)} (hx : p.tables.exec = Jvm.exec) (hb : c.code = prog_21_method_3_code) (hr : meth.sig.returnType = (Option.none : Option Jvm.ClassFile.FieldType)) (hml : c.maxLocals = 3) (hh : zH s) (hg : ∀ w ∈ lw_R, w.before args s = true) (hown : s.vm.findClass "ChanceArenaModel$Whole" = some m.cls) (hlocks : meth.locks = false) (hK : va_K D vwCl (zT tA) s) (hA : ∀ q, s.heap.size ≤ q → A q) {n : Nat} (ih1 : ∀ (h0_n : Int32) (h0_parts_c : Nat → Int32) (l2 : Int32) (f_h0 : List Value) (H : Heap) (locs : List Loc) (ls : Array Slot), f_MW_copy h0_parts_n p1_parts_n p1_n p1_parts_c n 1 h0_n h0_parts_c l2 = some out → f_h0[0]? = some (.ref h0_parts) → f_h0[1]? = some (.int h0_n) → Fr [1] f0_h0 f_h0 → f0_p1[0]? = some (.ref p1_parts) → f0_p1[1]? = some (.int p1_n) → va_P D vwCl [(h0, .inr (19, f_h0)), (p1, .inr (19, f0_p1)), (h0_parts, .inl (tA 0, h0_parts_n, .inl h0_parts_c)), (p1_parts, .inl (tA 0, p1_parts_n, .inl p1_parts_c))] H → va_D A [(h0, .inr (19, f_h0)), (p1, .inr (19, f0_p1)), (h0_parts, .inl (tA 0, h0_parts_n, .inl h0_parts_c)), (p1_parts, .inl (tA 0, p1_parts_n, .inl p1_parts_c))] → va_S A s.heap H locs → lv_has ls 3 [(0, .ref h0), (1, .ref p1), (2, .int l2)] → W p l e { frames := 0, cells := 0, slots := 0, locals := 0 } s m args below meth c H locs 0 0 (MQ below (va_Qv (fun (u9 : List Value) => Fr [1] f0_h0 u9 ∧ u9[1]? = some (.int out.1)) (zPost D A (fun (u9 : List Value) => [(h0, .inr (19, u9)), (p1, .inr (19, f0_p1)), (h0_parts, .inl (tA 0, h0_parts_n, .inl out.2)), (p1_parts, .inl (tA 0, p1_parts_n, .inl p1_parts_c))])) A) args s 0 0 A) (F0 m 10 ls [])) : ∀ (h0_n : Int32) (h0_parts_c : Nat → Int32) (l2 : Int32) (f_h0 : List Value) (H : Heap) (locs : List Loc) (ls : Array Slot), f_MW_copy h0_parts_n p1_parts_n p1_n p1_parts_c (n + 1) 1 h0_n h0_parts_c l2 = some out → f_h0[0]? = some (.ref h0_parts) → f_h0[1]? = some (.int h0_n) → Fr [1] f0_h0 f_h0 → f0_p1[0]? = some (.ref p1_parts) → f0_p1[1]? = some (.int p1_n) → va_P D vwCl [(h0, .inr (19, f_h0)), (p1, .inr (19, f0_p1)), (h0_parts, .inl (tA 0, h0_parts_n, .inl h0_parts_c)), (p1_parts, .inl (tA 0, p1_parts_n, .inl p1_parts_c))] H → va_D A [(h0, .inr (19, f_h0)), (p1, .inr (19, f0_p1)), (h0_parts, .inl (tA 0, h0_parts_n, .inl h0_parts_c)), (p1_parts, .inl (tA 0, p1_parts_n, .inl p1_parts_c))] → va_S A s.heap H locs → lv_has ls 3 [(0, .ref h0), (1, .ref p1), (2, .int l2)] → W p l e { frames := 0, cells := 0, slots := 0, locals := 0 } s m args below meth c H locs 0 0 (MQ below (va_Qv (fun (u9 : List Value) => Fr [1] f0_h0 u9 ∧ u9[1]? = some (.int out.1)) (zPost D A (fun (u9 : List Value) => [(h0, .inr (19, u9)), (p1, .inr (19, f0_p1)), (h0_parts, .inl (tA 0, h0_parts_n, .inl out.2)), (p1_parts, .inl (tA 0, p1_parts_n, .inl p1_parts_c))])) A) args s 0 0 A) (F0 m 10 ls []) := by
  intro h0_n h0_parts_c l2  f_h0 H locs ls hF q_h0_parts q_h0_n r_h0 q_p1_parts q_p1_n hP hD hS hl
  rw [e_MW_copy_1] at hF
  refine lv_iload_n hx hb d_MW_copy_10 rfl (lv_at hl 2 rfl) ?_
  refine lv_aload_n hx hb d_MW_copy_11 rfl (lv_at hl 0 rfl) ?_
  refine va_get (D := D) (ci := 19) (v := .int h0_n) (C := R_MW) (T := T_MW) (N := 2) hx hb hg i_MW hown hK hP 0 rfl rfl 1 (by decide) (hg _ k9_135) (fun _ h9 => h9) q_h0_n d_MW_copy_12 ?_
  refine lv_icmp_ge (tgt := 36) hx hb d_MW_copy_15 (by decide) (fun c9 => ?_) (fun c9 => ?_)
  · replace hF := ifp c9 hF
    replace hF := Option.some.inj hF
    subst hF
    exact zVret (post := (fun (u9 : List Value) => Fr [1] f0_h0 u9 ∧ u9[1]? = some (.int ((h0_n, h0_parts_c).1)))) (W1 := (fun (u9 : List Value) => [(h0, .inr (19, u9)), (p1, .inr (19, f0_p1)), (h0_parts, .inl (tA 0, h0_parts_n, .inl ((h0_n, h0_parts_c).2))), (p1_parts, .inl (tA 0, p1_parts_n, .inl p1_parts_c))])) hx hb hr hlocks hP hD hS (f_h0) ⟨r_h0, q_h0_n⟩ rfl d_MW_copy_36
  · replace hF := ifn c9 hF
    refine lv_aload_n hx hb d_MW_copy_18 rfl (lv_at hl 0 rfl) ?_
    refine va_get (D := D) (ci := 19) (v := .ref h0_parts) (C := R_MW) (T := T_MW) (N := 2) hx hb hg i_MW hown hK hP 0 rfl rfl 0 (by decide) (hg _ k9_134) (fun _ h9 => h9) q_h0_parts d_MW_copy_19 ?_
    refine lv_iload_n hx hb d_MW_copy_22 rfl (lv_at hl 2 rfl) ?_
    refine lv_aload_n hx hb d_MW_copy_23 rfl (lv_at hl 1 rfl) ?_
    refine va_get (D := D) (ci := 19) (v := .ref p1_parts) (C := R_MW) (T := T_MW) (N := 2) hx hb hg i_MW hown hK hP 1 rfl rfl 0 (by decide) (hg _ k9_134) (fun _ h9 => h9) q_p1_parts d_MW_copy_24 ?_
    refine lv_iload_n hx hb d_MW_copy_27 rfl (lv_at hl 2 rfl) ?_
    obtain ⟨h9, hF⟩ := chk_some hF
    refine va_iald hx hb hK hP 3 0 rfl rfl (vp_in_iff.mpr h9) d_MW_copy_28 ?_
    obtain ⟨h9, hF⟩ := chk_some hF
    refine va_iast hx hb hK hP hD hS 2 0 rfl rfl (vp_in_iff.mpr h9) d_MW_copy_29 (fun H1 locs1 hP1 hD1 hS1 => ?_)
    clear hP hD hS
    replace hP1 : va_P D vwCl [(h0, .inr (19, f_h0)), (p1, .inr (19, f0_p1)), (h0_parts, .inl (tA 0, h0_parts_n, .inl (upd h0_parts_c (l2 : Int32).toNatClampNeg (p1_parts_c (l2 : Int32).toNatClampNeg)))), (p1_parts, .inl (tA 0, p1_parts_n, .inl p1_parts_c))] _ := hP1
    replace hD1 : va_D A [(h0, .inr (19, f_h0)), (p1, .inr (19, f0_p1)), (h0_parts, .inl (tA 0, h0_parts_n, .inl (upd h0_parts_c (l2 : Int32).toNatClampNeg (p1_parts_c (l2 : Int32).toNatClampNeg)))), (p1_parts, .inl (tA 0, p1_parts_n, .inl p1_parts_c))] := hD1
    refine lv_iinc (v := (l2 + Int32.ofInt 1)) (lv' := [(2, .int (l2 + Int32.ofInt 1)), (0, .ref h0), (1, .ref p1)]) hx hb d_MW_copy_30 hl (k := 2) rfl rfl (by decide) rfl (fun ls hl => ?_)
    refine lv_goto (tgt := 10) hx hb d_MW_copy_33 (by decide) ?_
    exact ih1 h0_n (upd h0_parts_c (l2 : Int32).toNatClampNeg (p1_parts_c (l2 : Int32).toNatClampNeg)) (l2 + Int32.ofInt 1)  f_h0 _ _ _ hF q_h0_parts q_h0_n r_h0 q_p1_parts q_p1_n hP1 hD1 hS1 (lv_sub hl [1, 2, 0] rfl)
set_option maxHeartbeats 4000000 in
set_option maxRecDepth 100000 in
theorem a_MW_copy {p : Program} {l : Launch} {e : Env} {s : State} {m : MethodId} {args : Array Value} {below : List Frame} {meth : Method} {c : Code} {D : va_G} {tA : Nat → ClassId} {A : Nat → Prop} {h0 p1 h0_parts p1_parts : Nat} {f0_h0 f0_p1 : List Value} {h0_parts_n : Nat} {p1_parts_n : Nat} {p1_n : Int32} {p1_parts_c : Nat → Int32} {out : Int32 × (Nat → Int32)} (hx : p.tables.exec = Jvm.exec) (hb : c.code = prog_21_method_3_code) (hr : meth.sig.returnType = (Option.none : Option Jvm.ClassFile.FieldType)) (hml : c.maxLocals = 3) (hh : zH s) (hg : ∀ w ∈ lw_R, w.before args s = true) (hown : s.vm.findClass "ChanceArenaModel$Whole" = some m.cls) (hlocks : meth.locks = false) (hK : va_K D vwCl (zT tA) s) (hA : ∀ q, s.heap.size ≤ q → A q) : ∀ n : Nat, (∀ (h0_n : Int32) (h0_parts_c : Nat → Int32) (l2 : Int32) (f_h0 : List Value) (H : Heap) (locs : List Loc) (ls : Array Slot), f_MW_copy h0_parts_n p1_parts_n p1_n p1_parts_c n 0 h0_n h0_parts_c l2 = some out → f_h0[0]? = some (.ref h0_parts) → f_h0[1]? = some (.int h0_n) → Fr [1] f0_h0 f_h0 → f0_p1[0]? = some (.ref p1_parts) → f0_p1[1]? = some (.int p1_n) → va_P D vwCl [(h0, .inr (19, f_h0)), (p1, .inr (19, f0_p1)), (h0_parts, .inl (tA 0, h0_parts_n, .inl h0_parts_c)), (p1_parts, .inl (tA 0, p1_parts_n, .inl p1_parts_c))] H → va_D A [(h0, .inr (19, f_h0)), (p1, .inr (19, f0_p1)), (h0_parts, .inl (tA 0, h0_parts_n, .inl h0_parts_c)), (p1_parts, .inl (tA 0, p1_parts_n, .inl p1_parts_c))] → va_S A s.heap H locs → lv_has ls 3 [(0, .ref h0), (1, .ref p1)] → W p l e { frames := 0, cells := 0, slots := 0, locals := 0 } s m args below meth c H locs 0 0 (MQ below (va_Qv (fun (u9 : List Value) => Fr [1] f0_h0 u9 ∧ u9[1]? = some (.int out.1)) (zPost D A (fun (u9 : List Value) => [(h0, .inr (19, u9)), (p1, .inr (19, f0_p1)), (h0_parts, .inl (tA 0, h0_parts_n, .inl out.2)), (p1_parts, .inl (tA 0, p1_parts_n, .inl p1_parts_c))])) A) args s 0 0 A) (F0 m 0 ls [])) ∧ (∀ (h0_n : Int32) (h0_parts_c : Nat → Int32) (l2 : Int32) (f_h0 : List Value) (H : Heap) (locs : List Loc) (ls : Array Slot), f_MW_copy h0_parts_n p1_parts_n p1_n p1_parts_c n 1 h0_n h0_parts_c l2 = some out → f_h0[0]? = some (.ref h0_parts) → f_h0[1]? = some (.int h0_n) → Fr [1] f0_h0 f_h0 → f0_p1[0]? = some (.ref p1_parts) → f0_p1[1]? = some (.int p1_n) → va_P D vwCl [(h0, .inr (19, f_h0)), (p1, .inr (19, f0_p1)), (h0_parts, .inl (tA 0, h0_parts_n, .inl h0_parts_c)), (p1_parts, .inl (tA 0, p1_parts_n, .inl p1_parts_c))] H → va_D A [(h0, .inr (19, f_h0)), (p1, .inr (19, f0_p1)), (h0_parts, .inl (tA 0, h0_parts_n, .inl h0_parts_c)), (p1_parts, .inl (tA 0, p1_parts_n, .inl p1_parts_c))] → va_S A s.heap H locs → lv_has ls 3 [(0, .ref h0), (1, .ref p1), (2, .int l2)] → W p l e { frames := 0, cells := 0, slots := 0, locals := 0 } s m args below meth c H locs 0 0 (MQ below (va_Qv (fun (u9 : List Value) => Fr [1] f0_h0 u9 ∧ u9[1]? = some (.int out.1)) (zPost D A (fun (u9 : List Value) => [(h0, .inr (19, u9)), (p1, .inr (19, f0_p1)), (h0_parts, .inl (tA 0, h0_parts_n, .inl out.2)), (p1_parts, .inl (tA 0, p1_parts_n, .inl p1_parts_c))])) A) args s 0 0 A) (F0 m 10 ls [])) := by
  intro n
  induction n with
  | zero => exact ⟨(fun _ _ _ _ _ _ _ hF => by rw [z_MW_copy] at hF; cases hF), (fun _ _ _ _ _ _ _ hF => by rw [z_MW_copy] at hF; cases hF)⟩
  | succ n ih =>
    obtain ⟨i0, i1⟩ := ih
    exact ⟨b_MW_copy_0 hx hb hr hml hh hg hown hlocks hK hA i1, b_MW_copy_1 hx hb hr hml hh hg hown hlocks hK hA i1⟩
set_option maxHeartbeats 4000000 in
set_option maxRecDepth 100000 in
theorem m_MW_copy (l : Launch) (D : va_G) (tA : Nat → ClassId) (sz : Nat) (h0 p1 h0_parts p1_parts : Nat) (f0_h0 f0_p1 : List Value) (h0_parts_n : Nat) (p1_parts_n : Nat) (p1_n : Int32) (p1_parts_c : Nat → Int32) (h0_n : Int32) (h0_parts_c : Nat → Int32) (q_h0_parts : f0_h0[0]? = some (.ref h0_parts)) (q_h0_n : f0_h0[1]? = some (.int h0_n)) (q_p1_parts : f0_p1[0]? = some (.ref p1_parts)) (q_p1_n : f0_p1[1]? = some (.int p1_n)) (n : Nat) (out : Int32 × (Nat → Int32)) (hF : f_MW_copy h0_parts_n p1_parts_n p1_n p1_parts_c n 0 h0_n h0_parts_c 0 = some out) : zMv l ({ cls := "ChanceArenaModel$Whole", name := "copy", desc := "(LChanceArenaModel$Whole;)V" } : Jvm.MethodName) (zW (Jvm.Cond.code ({ cls := "ChanceArenaModel$Whole", name := "copy", desc := "(LChanceArenaModel$Whole;)V" } : Jvm.MethodName) prog_21_method_3_code (3 : Nat) (Option.none : Option Jvm.ClassFile.FieldType))) { frames := 0, cells := 0, slots := 0, locals := 0 } [.ref h0, .ref p1] D tA [(h0, .inr (19, f0_h0)), (p1, .inr (19, f0_p1)), (h0_parts, .inl (tA 0, h0_parts_n, .inl h0_parts_c)), (p1_parts, .inl (tA 0, p1_parts_n, .inl p1_parts_c))] sz (fun (u9 : List Value) => Fr [1] f0_h0 u9 ∧ u9[1]? = some (.int out.1)) (fun (u9 : List Value) => [(h0, .inr (19, u9)), (p1, .inr (19, f0_p1)), (h0_parts, .inl (tA 0, h0_parts_n, .inl out.2)), (p1_parts, .inl (tA 0, p1_parts_n, .inl p1_parts_c))]) 0 0 := by
  refine zOpen (l := l) (y := ({ cls := "ChanceArenaModel$Whole", name := "copy", desc := "(LChanceArenaModel$Whole;)V" } : Jvm.MethodName)) (ws := zW (Jvm.Cond.code ({ cls := "ChanceArenaModel$Whole", name := "copy", desc := "(LChanceArenaModel$Whole;)V" } : Jvm.MethodName) prog_21_method_3_code (3 : Nat) (Option.none : Option Jvm.ClassFile.FieldType))) (rm := { frames := 0, cells := 0, slots := 0, locals := 0 }) (av := [.ref h0, .ref p1]) (D := D) (tA := tA) (W0 := [(h0, .inr (19, f0_h0)), (p1, .inr (19, f0_p1)), (h0_parts, .inl (tA 0, h0_parts_n, .inl h0_parts_c)), (p1_parts, .inl (tA 0, p1_parts_n, .inl p1_parts_c))]) (Wm := [(h0, .inr (19, f0_h0)), (p1, .inr (19, f0_p1)), (h0_parts, .inl (tA 0, h0_parts_n, .inl h0_parts_c)), (p1_parts, .inl (tA 0, p1_parts_n, .inl p1_parts_c))]) (sz := sz) (mc := 0) (ms := 0) (fun A => va_Qv (fun (u9 : List Value) => Fr [1] f0_h0 u9 ∧ u9[1]? = some (.int out.1)) (zPost D A (fun (u9 : List Value) => [(h0, .inr (19, u9)), (p1, .inr (19, f0_p1)), (h0_parts, .inl (tA 0, h0_parts_n, .inl out.2)), (p1_parts, .inl (tA 0, p1_parts_n, .inl p1_parts_c))])) A) (lv := [(0, .ref h0), (1, .ref p1)]) (by decide) rfl (Nat.le_of_ble_eq_true rfl) rfl ?_
  intro p e s m below meth c A ls hx hb hr hml hh hg hown hlocks hnm hK hA hP hD0 hAw hS hl
  have hD := zD hD0 hAw
  exact (a_MW_copy hx hb hr hml hh hg hown hlocks hK hA n).1 h0_n h0_parts_c 0  f0_h0 _ _ _ hF q_h0_parts q_h0_n Fr.rfl q_p1_parts q_p1_n hP hD hS hl
def f_MW_isZero (h0_n : Int32) : Option (Int32) := if ¬ (h0_n : Int32) = 0 then some (0) else some (1)
set_option maxHeartbeats 4000000 in
set_option maxRecDepth 100000 in
theorem b_MW_isZero_0 {p : Program} {l : Launch} {e : Env} {s : State} {m : MethodId} {args : Array Value} {below : List Frame} {meth : Method} {c : Code} {D : va_G} {tA : Nat → ClassId} {A : Nat → Prop} {h0 : Nat} {f0_h0 : List Value} {h0_n : Int32} {out : Int32} (hx : p.tables.exec = Jvm.exec) (hb : c.code = prog_21_method_4_code) (hr : meth.sig.returnType = (Option.some Jvm.ClassFile.FieldType.boolean)) (hml : c.maxLocals = 1) (hh : zH s) (hg : ∀ w ∈ lw_R, w.before args s = true) (hown : s.vm.findClass "ChanceArenaModel$Whole" = some m.cls) (hlocks : meth.locks = false) (hK : va_K D vwCl (zT tA) s) (hA : ∀ q, s.heap.size ≤ q → A q)  : ∀ (H : Heap) (locs : List Loc) (ls : Array Slot), f_MW_isZero h0_n = some out → f0_h0[1]? = some (.int h0_n) → va_P D vwCl [(h0, .inr (19, f0_h0))] H → va_D A [(h0, .inr (19, f0_h0))] → va_S A s.heap H locs → lv_has ls 1 [(0, .ref h0)] → W p l e { frames := 0, cells := 0, slots := 0, locals := 0 } s m args below meth c H locs 0 0 (MQ below (va_Qi (fun (r9 : Int32) (u9 : Unit) => r9 = out) (zPost D A (fun (u9 : Unit) => [(h0, .inr (19, f0_h0))])) A) args s 0 0 A) (F0 m 0 ls []) := by
  intro    H locs ls hF q_h0_n hP hD hS hl
  replace hF : ((if ¬ (h0_n : Int32) = 0 then some (0) else some (1)) : Option (Int32)) = some out := hF
  refine lv_aload_n hx hb d_MW_isZero_0 rfl (lv_at hl 0 rfl) ?_
  refine va_get (D := D) (ci := 19) (v := .int h0_n) (C := R_MW) (T := T_MW) (N := 2) hx hb hg i_MW hown hK hP 0 rfl rfl 1 (by decide) (hg _ k9_135) (fun _ h9 => h9) q_h0_n d_MW_isZero_1 ?_
  refine lv_if_ne (tgt := 11) hx hb d_MW_isZero_4 (by decide) (fun c9 => ?_) (fun c9 => ?_)
  · replace hF := ifp c9 hF
    refine lv_iconst (v := 0) hx hb d_MW_isZero_11 (by decide) ?_
    replace hF := Option.some.inj hF
    subst hF
    exact zZret (post := (fun (r9 : Int32) (u9 : Unit) => r9 = 0)) (W1 := (fun (u9 : Unit) => [(h0, .inr (19, f0_h0))])) (v := 0) hx hb hr rfl hlocks hP hD hS () rfl rfl d_MW_isZero_12
  · replace hF := ifn (fun h9 => h9 c9) hF
    refine lv_iconst (v := 1) hx hb d_MW_isZero_7 (by decide) ?_
    refine lv_goto (tgt := 12) hx hb d_MW_isZero_8 (by decide) ?_
    replace hF := Option.some.inj hF
    subst hF
    exact zZret (post := (fun (r9 : Int32) (u9 : Unit) => r9 = 1)) (W1 := (fun (u9 : Unit) => [(h0, .inr (19, f0_h0))])) (v := 1) hx hb hr rfl hlocks hP hD hS () rfl rfl d_MW_isZero_12
set_option maxHeartbeats 4000000 in
set_option maxRecDepth 100000 in
theorem m_MW_isZero (l : Launch) (D : va_G) (tA : Nat → ClassId) (sz : Nat) (h0 : Nat) (f0_h0 : List Value) (h0_n : Int32) (q_h0_n : f0_h0[1]? = some (.int h0_n)) (out : Int32) (hF : f_MW_isZero h0_n = some out) : zMi l ({ cls := "ChanceArenaModel$Whole", name := "isZero", desc := "()Z" } : Jvm.MethodName) (zW (Jvm.Cond.code ({ cls := "ChanceArenaModel$Whole", name := "isZero", desc := "()Z" } : Jvm.MethodName) prog_21_method_4_code (1 : Nat) (Option.some Jvm.ClassFile.FieldType.boolean))) { frames := 0, cells := 0, slots := 0, locals := 0 } [.ref h0] D tA [(h0, .inr (19, f0_h0))] sz (fun (r9 : Int32) (u9 : Unit) => r9 = out) (fun (u9 : Unit) => [(h0, .inr (19, f0_h0))]) 0 0 := by
  refine zOpen (l := l) (y := ({ cls := "ChanceArenaModel$Whole", name := "isZero", desc := "()Z" } : Jvm.MethodName)) (ws := zW (Jvm.Cond.code ({ cls := "ChanceArenaModel$Whole", name := "isZero", desc := "()Z" } : Jvm.MethodName) prog_21_method_4_code (1 : Nat) (Option.some Jvm.ClassFile.FieldType.boolean))) (rm := { frames := 0, cells := 0, slots := 0, locals := 0 }) (av := [.ref h0]) (D := D) (tA := tA) (W0 := [(h0, .inr (19, f0_h0))]) (Wm := [(h0, .inr (19, f0_h0))]) (sz := sz) (mc := 0) (ms := 0) (fun A => va_Qi (fun (r9 : Int32) (u9 : Unit) => r9 = out) (zPost D A (fun (u9 : Unit) => [(h0, .inr (19, f0_h0))])) A) (lv := [(0, .ref h0)]) (by decide) rfl (Nat.le_of_ble_eq_true rfl) rfl ?_
  intro p e s m below meth c A ls hx hb hr hml hh hg hown hlocks hnm hK hA hP hD0 hAw hS hl
  have hD := zD hD0 hAw
  exact b_MW_isZero_0 hx hb hr hml hh hg hown hlocks hK hA    _ _ _ hF q_h0_n hP hD hS hl
def f_MW_isOne (h0_parts_n : Nat) (h0_n : Int32) (h0_parts_c : Nat → Int32) : Option (Int32) := if ¬ (h0_n : Int32) = 1 then some (0) else chk (0 ≤ (0 : Int32).toInt ∧ (0 : Int32).toInt < h0_parts_n) (if ¬ ((h0_parts_c (0 : Int32).toNatClampNeg) : Int32) = 1 then some (0) else some (1))
set_option maxHeartbeats 4000000 in
set_option maxRecDepth 100000 in
theorem b_MW_isOne_0 {p : Program} {l : Launch} {e : Env} {s : State} {m : MethodId} {args : Array Value} {below : List Frame} {meth : Method} {c : Code} {D : va_G} {tA : Nat → ClassId} {A : Nat → Prop} {h0 h0_parts : Nat} {f0_h0 : List Value} {h0_parts_n : Nat} {h0_n : Int32} {h0_parts_c : Nat → Int32} {out : Int32} (hx : p.tables.exec = Jvm.exec) (hb : c.code = prog_21_method_5_code) (hr : meth.sig.returnType = (Option.some Jvm.ClassFile.FieldType.boolean)) (hml : c.maxLocals = 1) (hh : zH s) (hg : ∀ w ∈ lw_R, w.before args s = true) (hown : s.vm.findClass "ChanceArenaModel$Whole" = some m.cls) (hlocks : meth.locks = false) (hK : va_K D vwCl (zT tA) s) (hA : ∀ q, s.heap.size ≤ q → A q)  : ∀ (H : Heap) (locs : List Loc) (ls : Array Slot), f_MW_isOne h0_parts_n h0_n h0_parts_c = some out → f0_h0[0]? = some (.ref h0_parts) → f0_h0[1]? = some (.int h0_n) → va_P D vwCl [(h0, .inr (19, f0_h0)), (h0_parts, .inl (tA 0, h0_parts_n, .inl h0_parts_c))] H → va_D A [(h0, .inr (19, f0_h0)), (h0_parts, .inl (tA 0, h0_parts_n, .inl h0_parts_c))] → va_S A s.heap H locs → lv_has ls 1 [(0, .ref h0)] → W p l e { frames := 0, cells := 0, slots := 0, locals := 0 } s m args below meth c H locs 0 0 (MQ below (va_Qi (fun (r9 : Int32) (u9 : Unit) => r9 = out) (zPost D A (fun (u9 : Unit) => [(h0, .inr (19, f0_h0)), (h0_parts, .inl (tA 0, h0_parts_n, .inl h0_parts_c))])) A) args s 0 0 A) (F0 m 0 ls []) := by
  intro    H locs ls hF q_h0_parts q_h0_n hP hD hS hl
  replace hF : ((if ¬ (h0_n : Int32) = 1 then some (0) else chk (0 ≤ (0 : Int32).toInt ∧ (0 : Int32).toInt < h0_parts_n) (if ¬ ((h0_parts_c (0 : Int32).toNatClampNeg) : Int32) = 1 then some (0) else some (1))) : Option (Int32)) = some out := hF
  refine lv_aload_n hx hb d_MW_isOne_0 rfl (lv_at hl 0 rfl) ?_
  refine va_get (D := D) (ci := 19) (v := .int h0_n) (C := R_MW) (T := T_MW) (N := 2) hx hb hg i_MW hown hK hP 0 rfl rfl 1 (by decide) (hg _ k9_135) (fun _ h9 => h9) q_h0_n d_MW_isOne_1 ?_
  refine lv_iconst (v := 1) hx hb d_MW_isOne_4 (by decide) ?_
  refine lv_icmp_ne (tgt := 22) hx hb d_MW_isOne_5 (by decide) (fun c9 => ?_) (fun c9 => ?_)
  · replace hF := ifp c9 hF
    refine lv_iconst (v := 0) hx hb d_MW_isOne_22 (by decide) ?_
    replace hF := Option.some.inj hF
    subst hF
    exact zZret (post := (fun (r9 : Int32) (u9 : Unit) => r9 = 0)) (W1 := (fun (u9 : Unit) => [(h0, .inr (19, f0_h0)), (h0_parts, .inl (tA 0, h0_parts_n, .inl h0_parts_c))])) (v := 0) hx hb hr rfl hlocks hP hD hS () rfl rfl d_MW_isOne_23
  · replace hF := ifn (fun h9 => h9 c9) hF
    refine lv_aload_n hx hb d_MW_isOne_8 rfl (lv_at hl 0 rfl) ?_
    refine va_get (D := D) (ci := 19) (v := .ref h0_parts) (C := R_MW) (T := T_MW) (N := 2) hx hb hg i_MW hown hK hP 0 rfl rfl 0 (by decide) (hg _ k9_134) (fun _ h9 => h9) q_h0_parts d_MW_isOne_9 ?_
    refine lv_iconst (v := 0) hx hb d_MW_isOne_12 (by decide) ?_
    obtain ⟨h9, hF⟩ := chk_some hF
    refine va_iald hx hb hK hP 1 0 rfl rfl (vp_in_iff.mpr h9) d_MW_isOne_13 ?_
    refine lv_iconst (v := 1) hx hb d_MW_isOne_14 (by decide) ?_
    refine lv_icmp_ne (tgt := 22) hx hb d_MW_isOne_15 (by decide) (fun c9 => ?_) (fun c9 => ?_)
    · replace hF := ifp c9 hF
      refine lv_iconst (v := 0) hx hb d_MW_isOne_22 (by decide) ?_
      replace hF := Option.some.inj hF
      subst hF
      exact zZret (post := (fun (r9 : Int32) (u9 : Unit) => r9 = 0)) (W1 := (fun (u9 : Unit) => [(h0, .inr (19, f0_h0)), (h0_parts, .inl (tA 0, h0_parts_n, .inl h0_parts_c))])) (v := 0) hx hb hr rfl hlocks hP hD hS () rfl rfl d_MW_isOne_23
    · replace hF := ifn (fun h9 => h9 c9) hF
      refine lv_iconst (v := 1) hx hb d_MW_isOne_18 (by decide) ?_
      refine lv_goto (tgt := 23) hx hb d_MW_isOne_19 (by decide) ?_
      replace hF := Option.some.inj hF
      subst hF
      exact zZret (post := (fun (r9 : Int32) (u9 : Unit) => r9 = 1)) (W1 := (fun (u9 : Unit) => [(h0, .inr (19, f0_h0)), (h0_parts, .inl (tA 0, h0_parts_n, .inl h0_parts_c))])) (v := 1) hx hb hr rfl hlocks hP hD hS () rfl rfl d_MW_isOne_23
set_option maxHeartbeats 4000000 in
set_option maxRecDepth 100000 in
theorem m_MW_isOne (l : Launch) (D : va_G) (tA : Nat → ClassId) (sz : Nat) (h0 h0_parts : Nat) (f0_h0 : List Value) (h0_parts_n : Nat) (h0_n : Int32) (h0_parts_c : Nat → Int32) (q_h0_parts : f0_h0[0]? = some (.ref h0_parts)) (q_h0_n : f0_h0[1]? = some (.int h0_n)) (out : Int32) (hF : f_MW_isOne h0_parts_n h0_n h0_parts_c = some out) : zMi l ({ cls := "ChanceArenaModel$Whole", name := "isOne", desc := "()Z" } : Jvm.MethodName) (zW (Jvm.Cond.code ({ cls := "ChanceArenaModel$Whole", name := "isOne", desc := "()Z" } : Jvm.MethodName) prog_21_method_5_code (1 : Nat) (Option.some Jvm.ClassFile.FieldType.boolean))) { frames := 0, cells := 0, slots := 0, locals := 0 } [.ref h0] D tA [(h0, .inr (19, f0_h0)), (h0_parts, .inl (tA 0, h0_parts_n, .inl h0_parts_c))] sz (fun (r9 : Int32) (u9 : Unit) => r9 = out) (fun (u9 : Unit) => [(h0, .inr (19, f0_h0)), (h0_parts, .inl (tA 0, h0_parts_n, .inl h0_parts_c))]) 0 0 := by
  refine zOpen (l := l) (y := ({ cls := "ChanceArenaModel$Whole", name := "isOne", desc := "()Z" } : Jvm.MethodName)) (ws := zW (Jvm.Cond.code ({ cls := "ChanceArenaModel$Whole", name := "isOne", desc := "()Z" } : Jvm.MethodName) prog_21_method_5_code (1 : Nat) (Option.some Jvm.ClassFile.FieldType.boolean))) (rm := { frames := 0, cells := 0, slots := 0, locals := 0 }) (av := [.ref h0]) (D := D) (tA := tA) (W0 := [(h0, .inr (19, f0_h0)), (h0_parts, .inl (tA 0, h0_parts_n, .inl h0_parts_c))]) (Wm := [(h0, .inr (19, f0_h0)), (h0_parts, .inl (tA 0, h0_parts_n, .inl h0_parts_c))]) (sz := sz) (mc := 0) (ms := 0) (fun A => va_Qi (fun (r9 : Int32) (u9 : Unit) => r9 = out) (zPost D A (fun (u9 : Unit) => [(h0, .inr (19, f0_h0)), (h0_parts, .inl (tA 0, h0_parts_n, .inl h0_parts_c))])) A) (lv := [(0, .ref h0)]) (by decide) rfl (Nat.le_of_ble_eq_true rfl) rfl ?_
  intro p e s m below meth c A ls hx hb hr hml hh hg hown hlocks hnm hK hA hP hD0 hAw hS hl
  have hD := zD hD0 hAw
  exact b_MW_isOne_0 hx hb hr hml hh hg hown hlocks hK hA    _ _ _ hF q_h0_parts q_h0_n hP hD hS hl
def f_MW_trim (h0_parts_n : Nat) (h0_parts_c : Nat → Int32) : Nat → Nat → Int32 → Option (Int32)
  | 0, _, _ => none
  | n + 1, 0, h0_n => if (h0_n : Int32) ≤ 0 then some (h0_n) else chk (0 ≤ ((h0_n - 1) : Int32).toInt ∧ ((h0_n - 1) : Int32).toInt < h0_parts_n) (if ¬ ((h0_parts_c ((h0_n - 1) : Int32).toNatClampNeg) : Int32) = 0 then some (h0_n) else f_MW_trim h0_parts_n h0_parts_c n 0 (h0_n - 1))
  | _ + 1, _ + 1, _ => none
theorem e_MW_trim_0 (h0_parts_n : Nat) (h0_parts_c : Nat → Int32) (n : Nat) (h0_n : Int32) : f_MW_trim h0_parts_n h0_parts_c (n + 1) 0 h0_n = if (h0_n : Int32) ≤ 0 then some (h0_n) else chk (0 ≤ ((h0_n - 1) : Int32).toInt ∧ ((h0_n - 1) : Int32).toInt < h0_parts_n) (if ¬ ((h0_parts_c ((h0_n - 1) : Int32).toNatClampNeg) : Int32) = 0 then some (h0_n) else f_MW_trim h0_parts_n h0_parts_c n 0 (h0_n - 1)) := by rw [f_MW_trim]
theorem z_MW_trim (h0_parts_n : Nat) (h0_parts_c : Nat → Int32) (h : Nat) (h0_n : Int32) : f_MW_trim h0_parts_n h0_parts_c 0 h h0_n = none := by rw [f_MW_trim]
set_option maxHeartbeats 4000000 in
set_option maxRecDepth 100000 in
theorem b_MW_trim_0 {p : Program} {l : Launch} {e : Env} {s : State} {m : MethodId} {args : Array Value} {below : List Frame} {meth : Method} {c : Code} {D : va_G} {tA : Nat → ClassId} {A : Nat → Prop} {h0 h0_parts : Nat} {f0_h0 : List Value} {h0_parts_n : Nat} {h0_parts_c : Nat → Int32} {out : Int32} (hx : p.tables.exec = Jvm.exec) (hb : c.code = prog_21_method_6_code) (hr : meth.sig.returnType = (Option.none : Option Jvm.ClassFile.FieldType)) (hml : c.maxLocals = 1) (hh : zH s) (hg : ∀ w ∈ lw_R, w.before args s = true) (hown : s.vm.findClass "ChanceArenaModel$Whole" = some m.cls) (hlocks : meth.locks = false) (hK : va_K D vwCl (zT tA) s) (hA : ∀ q, s.heap.size ≤ q → A q) {n : Nat} (ih0 : ∀ (h0_n : Int32) (f_h0 : List Value) (H : Heap) (locs : List Loc) (ls : Array Slot), f_MW_trim h0_parts_n h0_parts_c n 0 h0_n = some out → f_h0[0]? = some (.ref h0_parts) → f_h0[1]? = some (.int h0_n) → Fr [1] f0_h0 f_h0 → va_P D vwCl [(h0, .inr (19, f_h0)), (h0_parts, .inl (tA 0, h0_parts_n, .inl h0_parts_c))] H → va_D A [(h0, .inr (19, f_h0)), (h0_parts, .inl (tA 0, h0_parts_n, .inl h0_parts_c))] → va_S A s.heap H locs → lv_has ls 1 [(0, .ref h0)] → W p l e { frames := 0, cells := 0, slots := 0, locals := 0 } s m args below meth c H locs 0 0 (MQ below (va_Qv (fun (u9 : List Value) => Fr [1] f0_h0 u9 ∧ u9[1]? = some (.int out)) (zPost D A (fun (u9 : List Value) => [(h0, .inr (19, u9)), (h0_parts, .inl (tA 0, h0_parts_n, .inl h0_parts_c))])) A) args s 0 0 A) (F0 m 0 ls [])) : ∀ (h0_n : Int32) (f_h0 : List Value) (H : Heap) (locs : List Loc) (ls : Array Slot), f_MW_trim h0_parts_n h0_parts_c (n + 1) 0 h0_n = some out → f_h0[0]? = some (.ref h0_parts) → f_h0[1]? = some (.int h0_n) → Fr [1] f0_h0 f_h0 → va_P D vwCl [(h0, .inr (19, f_h0)), (h0_parts, .inl (tA 0, h0_parts_n, .inl h0_parts_c))] H → va_D A [(h0, .inr (19, f_h0)), (h0_parts, .inl (tA 0, h0_parts_n, .inl h0_parts_c))] → va_S A s.heap H locs → lv_has ls 1 [(0, .ref h0)] → W p l e { frames := 0, cells := 0, slots := 0, locals := 0 } s m args below meth c H locs 0 0 (MQ below (va_Qv (fun (u9 : List Value) => Fr [1] f0_h0 u9 ∧ u9[1]? = some (.int out)) (zPost D A (fun (u9 : List Value) => [(h0, .inr (19, u9)), (h0_parts, .inl (tA 0, h0_parts_n, .inl h0_parts_c))])) A) args s 0 0 A) (F0 m 0 ls []) := by
  intro h0_n  f_h0 H locs ls hF q_h0_parts q_h0_n r_h0 hP hD hS hl
  rw [e_MW_trim_0] at hF
  refine lv_aload_n hx hb d_MW_trim_0 rfl (lv_at hl 0 rfl) ?_
  refine va_get (D := D) (ci := 19) (v := .int h0_n) (C := R_MW) (T := T_MW) (N := 2) hx hb hg i_MW hown hK hP 0 rfl rfl 1 (by decide) (hg _ k9_135) (fun _ h9 => h9) q_h0_n d_MW_trim_1 ?_
  refine lv_if_le (tgt := 34) hx hb d_MW_trim_4 (by decide) (fun c9 => ?_) (fun c9 => ?_)
  · replace hF := ifp c9 hF
    replace hF := Option.some.inj hF
    subst hF
    exact zVret (post := (fun (u9 : List Value) => Fr [1] f0_h0 u9 ∧ u9[1]? = some (.int (h0_n)))) (W1 := (fun (u9 : List Value) => [(h0, .inr (19, u9)), (h0_parts, .inl (tA 0, h0_parts_n, .inl h0_parts_c))])) hx hb hr hlocks hP hD hS (f_h0) ⟨r_h0, q_h0_n⟩ rfl d_MW_trim_34
  · replace hF := ifn c9 hF
    refine lv_aload_n hx hb d_MW_trim_7 rfl (lv_at hl 0 rfl) ?_
    refine va_get (D := D) (ci := 19) (v := .ref h0_parts) (C := R_MW) (T := T_MW) (N := 2) hx hb hg i_MW hown hK hP 0 rfl rfl 0 (by decide) (hg _ k9_134) (fun _ h9 => h9) q_h0_parts d_MW_trim_8 ?_
    refine lv_aload_n hx hb d_MW_trim_11 rfl (lv_at hl 0 rfl) ?_
    refine va_get (D := D) (ci := 19) (v := .int h0_n) (C := R_MW) (T := T_MW) (N := 2) hx hb hg i_MW hown hK hP 0 rfl rfl 1 (by decide) (hg _ k9_135) (fun _ h9 => h9) q_h0_n d_MW_trim_12 ?_
    refine lv_iconst (v := 1) hx hb d_MW_trim_15 (by decide) ?_
    refine lv_isub hx hb d_MW_trim_16 ?_
    obtain ⟨h9, hF⟩ := chk_some hF
    refine va_iald hx hb hK hP 1 0 rfl rfl (vp_in_iff.mpr h9) d_MW_trim_17 ?_
    refine lv_if_ne (tgt := 34) hx hb d_MW_trim_18 (by decide) (fun c9 => ?_) (fun c9 => ?_)
    · replace hF := ifp c9 hF
      replace hF := Option.some.inj hF
      subst hF
      exact zVret (post := (fun (u9 : List Value) => Fr [1] f0_h0 u9 ∧ u9[1]? = some (.int (h0_n)))) (W1 := (fun (u9 : List Value) => [(h0, .inr (19, u9)), (h0_parts, .inl (tA 0, h0_parts_n, .inl h0_parts_c))])) hx hb hr hlocks hP hD hS (f_h0) ⟨r_h0, q_h0_n⟩ rfl d_MW_trim_34
    · replace hF := ifn (fun h9 => h9 c9) hF
      refine lv_aload_n hx hb d_MW_trim_21 rfl (lv_at hl 0 rfl) ?_
      refine lv_dup hx hb d_MW_trim_22 rfl ?_
      refine va_get (D := D) (ci := 19) (v := .int h0_n) (C := R_MW) (T := T_MW) (N := 2) hx hb hg i_MW hown hK hP 0 rfl rfl 1 (by decide) (hg _ k9_135) (fun _ h9 => h9) q_h0_n d_MW_trim_23 ?_
      refine lv_iconst (v := 1) hx hb d_MW_trim_26 (by decide) ?_
      refine lv_isub hx hb d_MW_trim_27 ?_
      refine va_put (D := D) (ci := 19) (v := .int (h0_n - 1)) (ty := .int) (C := R_MW) (T := T_MW) (N := 2) hx hb hg i_MW t_MW o_MW n_MW hown hK hP hD hS 0 rfl rfl 1 (by decide) (hg _ k9_135) (fun _ h9 => h9) rfl (by decide +kernel) rfl rfl (zLen q_h0_n) d_MW_trim_28 (fun H1 locs1 hP1 hD1 hS1 => ?_)
      clear hP hD hS
      replace hP1 : va_P D vwCl [(h0, .inr (19, f_h0.set 1 (.int (h0_n - 1)))), (h0_parts, .inl (tA 0, h0_parts_n, .inl h0_parts_c))] _ := hP1
      replace hD1 : va_D A [(h0, .inr (19, f_h0.set 1 (.int (h0_n - 1)))), (h0_parts, .inl (tA 0, h0_parts_n, .inl h0_parts_c))] := hD1
      refine lv_goto (tgt := 0) hx hb d_MW_trim_31 (by decide) ?_
      exact ih0 (h0_n - 1)  (f_h0.set 1 (.int (h0_n - 1))) _ _ _ hF (zSetN (by decide) q_h0_parts) (zSetS q_h0_n) (Fr.set r_h0 (by decide)) hP1 hD1 hS1 (lv_sub hl [0] rfl)
set_option maxHeartbeats 4000000 in
set_option maxRecDepth 100000 in
theorem a_MW_trim {p : Program} {l : Launch} {e : Env} {s : State} {m : MethodId} {args : Array Value} {below : List Frame} {meth : Method} {c : Code} {D : va_G} {tA : Nat → ClassId} {A : Nat → Prop} {h0 h0_parts : Nat} {f0_h0 : List Value} {h0_parts_n : Nat} {h0_parts_c : Nat → Int32} {out : Int32} (hx : p.tables.exec = Jvm.exec) (hb : c.code = prog_21_method_6_code) (hr : meth.sig.returnType = (Option.none : Option Jvm.ClassFile.FieldType)) (hml : c.maxLocals = 1) (hh : zH s) (hg : ∀ w ∈ lw_R, w.before args s = true) (hown : s.vm.findClass "ChanceArenaModel$Whole" = some m.cls) (hlocks : meth.locks = false) (hK : va_K D vwCl (zT tA) s) (hA : ∀ q, s.heap.size ≤ q → A q) : ∀ n : Nat, (∀ (h0_n : Int32) (f_h0 : List Value) (H : Heap) (locs : List Loc) (ls : Array Slot), f_MW_trim h0_parts_n h0_parts_c n 0 h0_n = some out → f_h0[0]? = some (.ref h0_parts) → f_h0[1]? = some (.int h0_n) → Fr [1] f0_h0 f_h0 → va_P D vwCl [(h0, .inr (19, f_h0)), (h0_parts, .inl (tA 0, h0_parts_n, .inl h0_parts_c))] H → va_D A [(h0, .inr (19, f_h0)), (h0_parts, .inl (tA 0, h0_parts_n, .inl h0_parts_c))] → va_S A s.heap H locs → lv_has ls 1 [(0, .ref h0)] → W p l e { frames := 0, cells := 0, slots := 0, locals := 0 } s m args below meth c H locs 0 0 (MQ below (va_Qv (fun (u9 : List Value) => Fr [1] f0_h0 u9 ∧ u9[1]? = some (.int out)) (zPost D A (fun (u9 : List Value) => [(h0, .inr (19, u9)), (h0_parts, .inl (tA 0, h0_parts_n, .inl h0_parts_c))])) A) args s 0 0 A) (F0 m 0 ls [])) := by
  intro n
  induction n with
  | zero => exact fun _ _ _ _ _ hF => by rw [z_MW_trim] at hF; cases hF
  | succ n ih => exact b_MW_trim_0 hx hb hr hml hh hg hown hlocks hK hA ih
set_option maxHeartbeats 4000000 in
set_option maxRecDepth 100000 in
theorem m_MW_trim (l : Launch) (D : va_G) (tA : Nat → ClassId) (sz : Nat) (h0 h0_parts : Nat) (f0_h0 : List Value) (h0_parts_n : Nat) (h0_parts_c : Nat → Int32) (h0_n : Int32) (q_h0_parts : f0_h0[0]? = some (.ref h0_parts)) (q_h0_n : f0_h0[1]? = some (.int h0_n)) (n : Nat) (out : Int32) (hF : f_MW_trim h0_parts_n h0_parts_c n 0 h0_n = some out) : zMv l ({ cls := "ChanceArenaModel$Whole", name := "trim", desc := "()V" } : Jvm.MethodName) (zW (Jvm.Cond.code ({ cls := "ChanceArenaModel$Whole", name := "trim", desc := "()V" } : Jvm.MethodName) prog_21_method_6_code (1 : Nat) (Option.none : Option Jvm.ClassFile.FieldType))) { frames := 0, cells := 0, slots := 0, locals := 0 } [.ref h0] D tA [(h0, .inr (19, f0_h0)), (h0_parts, .inl (tA 0, h0_parts_n, .inl h0_parts_c))] sz (fun (u9 : List Value) => Fr [1] f0_h0 u9 ∧ u9[1]? = some (.int out)) (fun (u9 : List Value) => [(h0, .inr (19, u9)), (h0_parts, .inl (tA 0, h0_parts_n, .inl h0_parts_c))]) 0 0 := by
  refine zOpen (l := l) (y := ({ cls := "ChanceArenaModel$Whole", name := "trim", desc := "()V" } : Jvm.MethodName)) (ws := zW (Jvm.Cond.code ({ cls := "ChanceArenaModel$Whole", name := "trim", desc := "()V" } : Jvm.MethodName) prog_21_method_6_code (1 : Nat) (Option.none : Option Jvm.ClassFile.FieldType))) (rm := { frames := 0, cells := 0, slots := 0, locals := 0 }) (av := [.ref h0]) (D := D) (tA := tA) (W0 := [(h0, .inr (19, f0_h0)), (h0_parts, .inl (tA 0, h0_parts_n, .inl h0_parts_c))]) (Wm := [(h0, .inr (19, f0_h0)), (h0_parts, .inl (tA 0, h0_parts_n, .inl h0_parts_c))]) (sz := sz) (mc := 0) (ms := 0) (fun A => va_Qv (fun (u9 : List Value) => Fr [1] f0_h0 u9 ∧ u9[1]? = some (.int out)) (zPost D A (fun (u9 : List Value) => [(h0, .inr (19, u9)), (h0_parts, .inl (tA 0, h0_parts_n, .inl h0_parts_c))])) A) (lv := [(0, .ref h0)]) (by decide) rfl (Nat.le_of_ble_eq_true rfl) rfl ?_
  intro p e s m below meth c A ls hx hb hr hml hh hg hown hlocks hnm hK hA hP hD0 hAw hS hl
  have hD := zD hD0 hAw
  exact (a_MW_trim hx hb hr hml hh hg hown hlocks hK hA n) h0_n  f0_h0 _ _ _ hF q_h0_parts q_h0_n Fr.rfl hP hD hS hl
def f_MW_compare (h0_parts_n : Nat) (p1_parts_n : Nat) (h0_n : Int32) (p1_n : Int32) (h0_parts_c : Nat → Int32) (p1_parts_c : Nat → Int32) : Nat → Nat → Int32 → Option (Int32)
  | 0, _, _ => none
  | n + 1, 0, l2 => if (h0_n : Int32) = p1_n then f_MW_compare h0_parts_n p1_parts_n h0_n p1_n h0_parts_c p1_parts_c n 1 (h0_n - 1) else if (p1_n : Int32) ≤ h0_n then some (1) else some ((-1))
  | n + 1, 1, l2 => if (l2 : Int32) < 0 then (if (0 : Int32) ≤ l2 then chk (0 ≤ (l2 : Int32).toInt ∧ (l2 : Int32).toInt < h0_parts_n) (chk (0 ≤ (l2 : Int32).toInt ∧ (l2 : Int32).toInt < p1_parts_n) (if ((p1_parts_c (l2 : Int32).toNatClampNeg) : Int32) ≤ (h0_parts_c (l2 : Int32).toNatClampNeg) then some (1) else some ((-1)))) else some (0)) else chk (0 ≤ (l2 : Int32).toInt ∧ (l2 : Int32).toInt < h0_parts_n) (chk (0 ≤ (l2 : Int32).toInt ∧ (l2 : Int32).toInt < p1_parts_n) (if ¬ ((h0_parts_c (l2 : Int32).toNatClampNeg) : Int32) = (p1_parts_c (l2 : Int32).toNatClampNeg) then (if (0 : Int32) ≤ l2 then chk (0 ≤ (l2 : Int32).toInt ∧ (l2 : Int32).toInt < h0_parts_n) (chk (0 ≤ (l2 : Int32).toInt ∧ (l2 : Int32).toInt < p1_parts_n) (if ((p1_parts_c (l2 : Int32).toNatClampNeg) : Int32) ≤ (h0_parts_c (l2 : Int32).toNatClampNeg) then some (1) else some ((-1)))) else some (0)) else f_MW_compare h0_parts_n p1_parts_n h0_n p1_n h0_parts_c p1_parts_c n 1 (l2 + Int32.ofInt (-1))))
  | _ + 1, _ + 2, _ => none
theorem e_MW_compare_0 (h0_parts_n : Nat) (p1_parts_n : Nat) (h0_n : Int32) (p1_n : Int32) (h0_parts_c : Nat → Int32) (p1_parts_c : Nat → Int32) (n : Nat) (l2 : Int32) : f_MW_compare h0_parts_n p1_parts_n h0_n p1_n h0_parts_c p1_parts_c (n + 1) 0 l2 = if (h0_n : Int32) = p1_n then f_MW_compare h0_parts_n p1_parts_n h0_n p1_n h0_parts_c p1_parts_c n 1 (h0_n - 1) else if (p1_n : Int32) ≤ h0_n then some (1) else some ((-1)) := by rw [f_MW_compare]
theorem e_MW_compare_1 (h0_parts_n : Nat) (p1_parts_n : Nat) (h0_n : Int32) (p1_n : Int32) (h0_parts_c : Nat → Int32) (p1_parts_c : Nat → Int32) (n : Nat) (l2 : Int32) : f_MW_compare h0_parts_n p1_parts_n h0_n p1_n h0_parts_c p1_parts_c (n + 1) 1 l2 = if (l2 : Int32) < 0 then (if (0 : Int32) ≤ l2 then chk (0 ≤ (l2 : Int32).toInt ∧ (l2 : Int32).toInt < h0_parts_n) (chk (0 ≤ (l2 : Int32).toInt ∧ (l2 : Int32).toInt < p1_parts_n) (if ((p1_parts_c (l2 : Int32).toNatClampNeg) : Int32) ≤ (h0_parts_c (l2 : Int32).toNatClampNeg) then some (1) else some ((-1)))) else some (0)) else chk (0 ≤ (l2 : Int32).toInt ∧ (l2 : Int32).toInt < h0_parts_n) (chk (0 ≤ (l2 : Int32).toInt ∧ (l2 : Int32).toInt < p1_parts_n) (if ¬ ((h0_parts_c (l2 : Int32).toNatClampNeg) : Int32) = (p1_parts_c (l2 : Int32).toNatClampNeg) then (if (0 : Int32) ≤ l2 then chk (0 ≤ (l2 : Int32).toInt ∧ (l2 : Int32).toInt < h0_parts_n) (chk (0 ≤ (l2 : Int32).toInt ∧ (l2 : Int32).toInt < p1_parts_n) (if ((p1_parts_c (l2 : Int32).toNatClampNeg) : Int32) ≤ (h0_parts_c (l2 : Int32).toNatClampNeg) then some (1) else some ((-1)))) else some (0)) else f_MW_compare h0_parts_n p1_parts_n h0_n p1_n h0_parts_c p1_parts_c n 1 (l2 + Int32.ofInt (-1)))) := by rw [f_MW_compare]
theorem z_MW_compare (h0_parts_n : Nat) (p1_parts_n : Nat) (h0_n : Int32) (p1_n : Int32) (h0_parts_c : Nat → Int32) (p1_parts_c : Nat → Int32) (h : Nat) (l2 : Int32) : f_MW_compare h0_parts_n p1_parts_n h0_n p1_n h0_parts_c p1_parts_c 0 h l2 = none := by rw [f_MW_compare]
set_option maxHeartbeats 4000000 in
set_option maxRecDepth 100000 in
theorem b_MW_compare_0 {p : Program} {l : Launch} {e : Env} {s : State} {m : MethodId} {args : Array Value} {below : List Frame} {meth : Method} {c : Code} {D : va_G} {tA : Nat → ClassId} {A : Nat → Prop} {h0 p1 h0_parts p1_parts : Nat} {f0_h0 f0_p1 : List Value} {h0_parts_n : Nat} {p1_parts_n : Nat} {h0_n : Int32} {p1_n : Int32} {h0_parts_c : Nat → Int32} {p1_parts_c : Nat → Int32} {out : Int32} (hx : p.tables.exec = Jvm.exec) (hb : c.code = prog_21_method_7_code) (hr : meth.sig.returnType = (Option.some Jvm.ClassFile.FieldType.int)) (hml : c.maxLocals = 3) (hh : zH s) (hg : ∀ w ∈ lw_R, w.before args s = true) (hown : s.vm.findClass "ChanceArenaModel$Whole" = some m.cls) (hlocks : meth.locks = false) (hK : va_K D vwCl (zT tA) s) (hA : ∀ q, s.heap.size ≤ q → A q) {n : Nat} (ih1 : ∀ (l2 : Int32) (H : Heap) (locs : List Loc) (ls : Array Slot), f_MW_compare h0_parts_n p1_parts_n h0_n p1_n h0_parts_c p1_parts_c n 1 l2 = some out → f0_h0[0]? = some (.ref h0_parts) → f0_h0[1]? = some (.int h0_n) → f0_p1[0]? = some (.ref p1_parts) → f0_p1[1]? = some (.int p1_n) → va_P D vwCl [(h0, .inr (19, f0_h0)), (p1, .inr (19, f0_p1)), (h0_parts, .inl (tA 0, h0_parts_n, .inl h0_parts_c)), (p1_parts, .inl (tA 0, p1_parts_n, .inl p1_parts_c))] H → va_D A [(h0, .inr (19, f0_h0)), (p1, .inr (19, f0_p1)), (h0_parts, .inl (tA 0, h0_parts_n, .inl h0_parts_c)), (p1_parts, .inl (tA 0, p1_parts_n, .inl p1_parts_c))] → va_S A s.heap H locs → lv_has ls 3 [(0, .ref h0), (1, .ref p1), (2, .int l2)] → W p l e { frames := 0, cells := 0, slots := 0, locals := 0 } s m args below meth c H locs 0 0 (MQ below (va_Qi (fun (r9 : Int32) (u9 : Unit) => r9 = out) (zPost D A (fun (u9 : Unit) => [(h0, .inr (19, f0_h0)), (p1, .inr (19, f0_p1)), (h0_parts, .inl (tA 0, h0_parts_n, .inl h0_parts_c)), (p1_parts, .inl (tA 0, p1_parts_n, .inl p1_parts_c))])) A) args s 0 0 A) (F0 m 35 ls [])) : ∀ (l2 : Int32) (H : Heap) (locs : List Loc) (ls : Array Slot), f_MW_compare h0_parts_n p1_parts_n h0_n p1_n h0_parts_c p1_parts_c (n + 1) 0 l2 = some out → f0_h0[0]? = some (.ref h0_parts) → f0_h0[1]? = some (.int h0_n) → f0_p1[0]? = some (.ref p1_parts) → f0_p1[1]? = some (.int p1_n) → va_P D vwCl [(h0, .inr (19, f0_h0)), (p1, .inr (19, f0_p1)), (h0_parts, .inl (tA 0, h0_parts_n, .inl h0_parts_c)), (p1_parts, .inl (tA 0, p1_parts_n, .inl p1_parts_c))] H → va_D A [(h0, .inr (19, f0_h0)), (p1, .inr (19, f0_p1)), (h0_parts, .inl (tA 0, h0_parts_n, .inl h0_parts_c)), (p1_parts, .inl (tA 0, p1_parts_n, .inl p1_parts_c))] → va_S A s.heap H locs → lv_has ls 3 [(0, .ref h0), (1, .ref p1)] → W p l e { frames := 0, cells := 0, slots := 0, locals := 0 } s m args below meth c H locs 0 0 (MQ below (va_Qi (fun (r9 : Int32) (u9 : Unit) => r9 = out) (zPost D A (fun (u9 : Unit) => [(h0, .inr (19, f0_h0)), (p1, .inr (19, f0_p1)), (h0_parts, .inl (tA 0, h0_parts_n, .inl h0_parts_c)), (p1_parts, .inl (tA 0, p1_parts_n, .inl p1_parts_c))])) A) args s 0 0 A) (F0 m 0 ls []) := by
  intro l2   H locs ls hF q_h0_parts q_h0_n q_p1_parts q_p1_n hP hD hS hl
  rw [e_MW_compare_0] at hF
  refine lv_aload_n hx hb d_MW_compare_0 rfl (lv_at hl 0 rfl) ?_
  refine va_get (D := D) (ci := 19) (v := .int h0_n) (C := R_MW) (T := T_MW) (N := 2) hx hb hg i_MW hown hK hP 0 rfl rfl 1 (by decide) (hg _ k9_135) (fun _ h9 => h9) q_h0_n d_MW_compare_1 ?_
  refine lv_aload_n hx hb d_MW_compare_4 rfl (lv_at hl 1 rfl) ?_
  refine va_get (D := D) (ci := 19) (v := .int p1_n) (C := R_MW) (T := T_MW) (N := 2) hx hb hg i_MW hown hK hP 1 rfl rfl 1 (by decide) (hg _ k9_135) (fun _ h9 => h9) q_p1_n d_MW_compare_5 ?_
  refine lv_icmp_eq (tgt := 28) hx hb d_MW_compare_8 (by decide) (fun c9 => ?_) (fun c9 => ?_)
  · replace hF := ifp c9 hF
    refine lv_aload_n hx hb d_MW_compare_28 rfl (lv_at hl 0 rfl) ?_
    refine va_get (D := D) (ci := 19) (v := .int h0_n) (C := R_MW) (T := T_MW) (N := 2) hx hb hg i_MW hown hK hP 0 rfl rfl 1 (by decide) (hg _ k9_135) (fun _ h9 => h9) q_h0_n d_MW_compare_29 ?_
    refine lv_iconst (v := 1) hx hb d_MW_compare_32 (by decide) ?_
    refine lv_isub hx hb d_MW_compare_33 ?_
    refine lv_istore_n (lv' := [(2, .int (h0_n - 1)), (0, .ref h0), (1, .ref p1)]) hx hb d_MW_compare_34 rfl hl (by decide) rfl (fun ls hl => ?_)
    exact ih1 (h0_n - 1)   _ _ _ hF q_h0_parts q_h0_n q_p1_parts q_p1_n hP hD hS (lv_sub hl [1, 2, 0] rfl)
  · replace hF := ifn c9 hF
    refine lv_aload_n hx hb d_MW_compare_11 rfl (lv_at hl 0 rfl) ?_
    refine va_get (D := D) (ci := 19) (v := .int h0_n) (C := R_MW) (T := T_MW) (N := 2) hx hb hg i_MW hown hK hP 0 rfl rfl 1 (by decide) (hg _ k9_135) (fun _ h9 => h9) q_h0_n d_MW_compare_12 ?_
    refine lv_aload_n hx hb d_MW_compare_15 rfl (lv_at hl 1 rfl) ?_
    refine va_get (D := D) (ci := 19) (v := .int p1_n) (C := R_MW) (T := T_MW) (N := 2) hx hb hg i_MW hown hK hP 1 rfl rfl 1 (by decide) (hg _ k9_135) (fun _ h9 => h9) q_p1_n d_MW_compare_16 ?_
    refine lv_icmp_ge (tgt := 26) hx hb d_MW_compare_19 (by decide) (fun c9 => ?_) (fun c9 => ?_)
    · replace hF := ifp c9 hF
      refine lv_iconst (v := 1) hx hb d_MW_compare_26 (by decide) ?_
      replace hF := Option.some.inj hF
      subst hF
      exact zZret (post := (fun (r9 : Int32) (u9 : Unit) => r9 = 1)) (W1 := (fun (u9 : Unit) => [(h0, .inr (19, f0_h0)), (p1, .inr (19, f0_p1)), (h0_parts, .inl (tA 0, h0_parts_n, .inl h0_parts_c)), (p1_parts, .inl (tA 0, p1_parts_n, .inl p1_parts_c))])) (v := 1) hx hb hr rfl hlocks hP hD hS () rfl rfl d_MW_compare_27
    · replace hF := ifn c9 hF
      refine lv_iconst (v := (-1)) hx hb d_MW_compare_22 (by decide) ?_
      refine lv_goto (tgt := 27) hx hb d_MW_compare_23 (by decide) ?_
      replace hF := Option.some.inj hF
      subst hF
      exact zZret (post := (fun (r9 : Int32) (u9 : Unit) => r9 = (-1))) (W1 := (fun (u9 : Unit) => [(h0, .inr (19, f0_h0)), (p1, .inr (19, f0_p1)), (h0_parts, .inl (tA 0, h0_parts_n, .inl h0_parts_c)), (p1_parts, .inl (tA 0, p1_parts_n, .inl p1_parts_c))])) (v := (-1)) hx hb hr rfl hlocks hP hD hS () rfl rfl d_MW_compare_27
set_option maxHeartbeats 4000000 in
set_option maxRecDepth 100000 in
theorem b_MW_compare_1 {p : Program} {l : Launch} {e : Env} {s : State} {m : MethodId} {args : Array Value} {below : List Frame} {meth : Method} {c : Code} {D : va_G} {tA : Nat → ClassId} {A : Nat → Prop} {h0 p1 h0_parts p1_parts : Nat} {f0_h0 f0_p1 : List Value} {h0_parts_n : Nat} {p1_parts_n : Nat} {h0_n : Int32} {p1_n : Int32} {h0_parts_c : Nat → Int32} {p1_parts_c : Nat → Int32} {out : Int32} (hx : p.tables.exec = Jvm.exec) (hb : c.code = prog_21_method_7_code) (hr : meth.sig.returnType = (Option.some Jvm.ClassFile.FieldType.int)) (hml : c.maxLocals = 3) (hh : zH s) (hg : ∀ w ∈ lw_R, w.before args s = true) (hown : s.vm.findClass "ChanceArenaModel$Whole" = some m.cls) (hlocks : meth.locks = false) (hK : va_K D vwCl (zT tA) s) (hA : ∀ q, s.heap.size ≤ q → A q) {n : Nat} (ih1 : ∀ (l2 : Int32) (H : Heap) (locs : List Loc) (ls : Array Slot), f_MW_compare h0_parts_n p1_parts_n h0_n p1_n h0_parts_c p1_parts_c n 1 l2 = some out → f0_h0[0]? = some (.ref h0_parts) → f0_h0[1]? = some (.int h0_n) → f0_p1[0]? = some (.ref p1_parts) → f0_p1[1]? = some (.int p1_n) → va_P D vwCl [(h0, .inr (19, f0_h0)), (p1, .inr (19, f0_p1)), (h0_parts, .inl (tA 0, h0_parts_n, .inl h0_parts_c)), (p1_parts, .inl (tA 0, p1_parts_n, .inl p1_parts_c))] H → va_D A [(h0, .inr (19, f0_h0)), (p1, .inr (19, f0_p1)), (h0_parts, .inl (tA 0, h0_parts_n, .inl h0_parts_c)), (p1_parts, .inl (tA 0, p1_parts_n, .inl p1_parts_c))] → va_S A s.heap H locs → lv_has ls 3 [(0, .ref h0), (1, .ref p1), (2, .int l2)] → W p l e { frames := 0, cells := 0, slots := 0, locals := 0 } s m args below meth c H locs 0 0 (MQ below (va_Qi (fun (r9 : Int32) (u9 : Unit) => r9 = out) (zPost D A (fun (u9 : Unit) => [(h0, .inr (19, f0_h0)), (p1, .inr (19, f0_p1)), (h0_parts, .inl (tA 0, h0_parts_n, .inl h0_parts_c)), (p1_parts, .inl (tA 0, p1_parts_n, .inl p1_parts_c))])) A) args s 0 0 A) (F0 m 35 ls [])) : ∀ (l2 : Int32) (H : Heap) (locs : List Loc) (ls : Array Slot), f_MW_compare h0_parts_n p1_parts_n h0_n p1_n h0_parts_c p1_parts_c (n + 1) 1 l2 = some out → f0_h0[0]? = some (.ref h0_parts) → f0_h0[1]? = some (.int h0_n) → f0_p1[0]? = some (.ref p1_parts) → f0_p1[1]? = some (.int p1_n) → va_P D vwCl [(h0, .inr (19, f0_h0)), (p1, .inr (19, f0_p1)), (h0_parts, .inl (tA 0, h0_parts_n, .inl h0_parts_c)), (p1_parts, .inl (tA 0, p1_parts_n, .inl p1_parts_c))] H → va_D A [(h0, .inr (19, f0_h0)), (p1, .inr (19, f0_p1)), (h0_parts, .inl (tA 0, h0_parts_n, .inl h0_parts_c)), (p1_parts, .inl (tA 0, p1_parts_n, .inl p1_parts_c))] → va_S A s.heap H locs → lv_has ls 3 [(0, .ref h0), (1, .ref p1), (2, .int l2)] → W p l e { frames := 0, cells := 0, slots := 0, locals := 0 } s m args below meth c H locs 0 0 (MQ below (va_Qi (fun (r9 : Int32) (u9 : Unit) => r9 = out) (zPost D A (fun (u9 : Unit) => [(h0, .inr (19, f0_h0)), (p1, .inr (19, f0_p1)), (h0_parts, .inl (tA 0, h0_parts_n, .inl h0_parts_c)), (p1_parts, .inl (tA 0, p1_parts_n, .inl p1_parts_c))])) A) args s 0 0 A) (F0 m 35 ls []) := by
  intro l2   H locs ls hF q_h0_parts q_h0_n q_p1_parts q_p1_n hP hD hS hl
  rw [e_MW_compare_1] at hF
  refine lv_iload_n hx hb d_MW_compare_35 rfl (lv_at hl 2 rfl) ?_
  refine lv_if_lt (tgt := 60) hx hb d_MW_compare_36 (by decide) (fun c9 => ?_) (fun c9 => ?_)
  · replace hF := ifp c9 hF
    refine lv_iload_n hx hb d_MW_compare_60 rfl (lv_at hl 2 rfl) ?_
    refine lv_if_ge (tgt := 68) hx hb d_MW_compare_61 (by decide) (fun c9 => ?_) (fun c9 => ?_)
    · replace hF := ifp c9 hF
      refine lv_aload_n hx hb d_MW_compare_68 rfl (lv_at hl 0 rfl) ?_
      refine va_get (D := D) (ci := 19) (v := .ref h0_parts) (C := R_MW) (T := T_MW) (N := 2) hx hb hg i_MW hown hK hP 0 rfl rfl 0 (by decide) (hg _ k9_134) (fun _ h9 => h9) q_h0_parts d_MW_compare_69 ?_
      refine lv_iload_n hx hb d_MW_compare_72 rfl (lv_at hl 2 rfl) ?_
      obtain ⟨h9, hF⟩ := chk_some hF
      refine va_iald hx hb hK hP 2 0 rfl rfl (vp_in_iff.mpr h9) d_MW_compare_73 ?_
      refine lv_aload_n hx hb d_MW_compare_74 rfl (lv_at hl 1 rfl) ?_
      refine va_get (D := D) (ci := 19) (v := .ref p1_parts) (C := R_MW) (T := T_MW) (N := 2) hx hb hg i_MW hown hK hP 1 rfl rfl 0 (by decide) (hg _ k9_134) (fun _ h9 => h9) q_p1_parts d_MW_compare_75 ?_
      refine lv_iload_n hx hb d_MW_compare_78 rfl (lv_at hl 2 rfl) ?_
      obtain ⟨h9, hF⟩ := chk_some hF
      refine va_iald hx hb hK hP 3 0 rfl rfl (vp_in_iff.mpr h9) d_MW_compare_79 ?_
      refine lv_icmp_ge (tgt := 87) hx hb d_MW_compare_80 (by decide) (fun c9 => ?_) (fun c9 => ?_)
      · replace hF := ifp c9 hF
        refine lv_iconst (v := 1) hx hb d_MW_compare_87 (by decide) ?_
        replace hF := Option.some.inj hF
        subst hF
        exact zZret (post := (fun (r9 : Int32) (u9 : Unit) => r9 = 1)) (W1 := (fun (u9 : Unit) => [(h0, .inr (19, f0_h0)), (p1, .inr (19, f0_p1)), (h0_parts, .inl (tA 0, h0_parts_n, .inl h0_parts_c)), (p1_parts, .inl (tA 0, p1_parts_n, .inl p1_parts_c))])) (v := 1) hx hb hr rfl hlocks hP hD hS () rfl rfl d_MW_compare_88
      · replace hF := ifn c9 hF
        refine lv_iconst (v := (-1)) hx hb d_MW_compare_83 (by decide) ?_
        refine lv_goto (tgt := 88) hx hb d_MW_compare_84 (by decide) ?_
        replace hF := Option.some.inj hF
        subst hF
        exact zZret (post := (fun (r9 : Int32) (u9 : Unit) => r9 = (-1))) (W1 := (fun (u9 : Unit) => [(h0, .inr (19, f0_h0)), (p1, .inr (19, f0_p1)), (h0_parts, .inl (tA 0, h0_parts_n, .inl h0_parts_c)), (p1_parts, .inl (tA 0, p1_parts_n, .inl p1_parts_c))])) (v := (-1)) hx hb hr rfl hlocks hP hD hS () rfl rfl d_MW_compare_88
    · replace hF := ifn c9 hF
      refine lv_iconst (v := 0) hx hb d_MW_compare_64 (by decide) ?_
      refine lv_goto (tgt := 88) hx hb d_MW_compare_65 (by decide) ?_
      replace hF := Option.some.inj hF
      subst hF
      exact zZret (post := (fun (r9 : Int32) (u9 : Unit) => r9 = 0)) (W1 := (fun (u9 : Unit) => [(h0, .inr (19, f0_h0)), (p1, .inr (19, f0_p1)), (h0_parts, .inl (tA 0, h0_parts_n, .inl h0_parts_c)), (p1_parts, .inl (tA 0, p1_parts_n, .inl p1_parts_c))])) (v := 0) hx hb hr rfl hlocks hP hD hS () rfl rfl d_MW_compare_88
  · replace hF := ifn c9 hF
    refine lv_aload_n hx hb d_MW_compare_39 rfl (lv_at hl 0 rfl) ?_
    refine va_get (D := D) (ci := 19) (v := .ref h0_parts) (C := R_MW) (T := T_MW) (N := 2) hx hb hg i_MW hown hK hP 0 rfl rfl 0 (by decide) (hg _ k9_134) (fun _ h9 => h9) q_h0_parts d_MW_compare_40 ?_
    refine lv_iload_n hx hb d_MW_compare_43 rfl (lv_at hl 2 rfl) ?_
    obtain ⟨h9, hF⟩ := chk_some hF
    refine va_iald hx hb hK hP 2 0 rfl rfl (vp_in_iff.mpr h9) d_MW_compare_44 ?_
    refine lv_aload_n hx hb d_MW_compare_45 rfl (lv_at hl 1 rfl) ?_
    refine va_get (D := D) (ci := 19) (v := .ref p1_parts) (C := R_MW) (T := T_MW) (N := 2) hx hb hg i_MW hown hK hP 1 rfl rfl 0 (by decide) (hg _ k9_134) (fun _ h9 => h9) q_p1_parts d_MW_compare_46 ?_
    refine lv_iload_n hx hb d_MW_compare_49 rfl (lv_at hl 2 rfl) ?_
    obtain ⟨h9, hF⟩ := chk_some hF
    refine va_iald hx hb hK hP 3 0 rfl rfl (vp_in_iff.mpr h9) d_MW_compare_50 ?_
    refine lv_icmp_ne (tgt := 60) hx hb d_MW_compare_51 (by decide) (fun c9 => ?_) (fun c9 => ?_)
    · replace hF := ifp c9 hF
      refine lv_iload_n hx hb d_MW_compare_60 rfl (lv_at hl 2 rfl) ?_
      refine lv_if_ge (tgt := 68) hx hb d_MW_compare_61 (by decide) (fun c9 => ?_) (fun c9 => ?_)
      · replace hF := ifp c9 hF
        refine lv_aload_n hx hb d_MW_compare_68 rfl (lv_at hl 0 rfl) ?_
        refine va_get (D := D) (ci := 19) (v := .ref h0_parts) (C := R_MW) (T := T_MW) (N := 2) hx hb hg i_MW hown hK hP 0 rfl rfl 0 (by decide) (hg _ k9_134) (fun _ h9 => h9) q_h0_parts d_MW_compare_69 ?_
        refine lv_iload_n hx hb d_MW_compare_72 rfl (lv_at hl 2 rfl) ?_
        obtain ⟨h9, hF⟩ := chk_some hF
        refine va_iald hx hb hK hP 2 0 rfl rfl (vp_in_iff.mpr h9) d_MW_compare_73 ?_
        refine lv_aload_n hx hb d_MW_compare_74 rfl (lv_at hl 1 rfl) ?_
        refine va_get (D := D) (ci := 19) (v := .ref p1_parts) (C := R_MW) (T := T_MW) (N := 2) hx hb hg i_MW hown hK hP 1 rfl rfl 0 (by decide) (hg _ k9_134) (fun _ h9 => h9) q_p1_parts d_MW_compare_75 ?_
        refine lv_iload_n hx hb d_MW_compare_78 rfl (lv_at hl 2 rfl) ?_
        obtain ⟨h9, hF⟩ := chk_some hF
        refine va_iald hx hb hK hP 3 0 rfl rfl (vp_in_iff.mpr h9) d_MW_compare_79 ?_
        refine lv_icmp_ge (tgt := 87) hx hb d_MW_compare_80 (by decide) (fun c9 => ?_) (fun c9 => ?_)
        · replace hF := ifp c9 hF
          refine lv_iconst (v := 1) hx hb d_MW_compare_87 (by decide) ?_
          replace hF := Option.some.inj hF
          subst hF
          exact zZret (post := (fun (r9 : Int32) (u9 : Unit) => r9 = 1)) (W1 := (fun (u9 : Unit) => [(h0, .inr (19, f0_h0)), (p1, .inr (19, f0_p1)), (h0_parts, .inl (tA 0, h0_parts_n, .inl h0_parts_c)), (p1_parts, .inl (tA 0, p1_parts_n, .inl p1_parts_c))])) (v := 1) hx hb hr rfl hlocks hP hD hS () rfl rfl d_MW_compare_88
        · replace hF := ifn c9 hF
          refine lv_iconst (v := (-1)) hx hb d_MW_compare_83 (by decide) ?_
          refine lv_goto (tgt := 88) hx hb d_MW_compare_84 (by decide) ?_
          replace hF := Option.some.inj hF
          subst hF
          exact zZret (post := (fun (r9 : Int32) (u9 : Unit) => r9 = (-1))) (W1 := (fun (u9 : Unit) => [(h0, .inr (19, f0_h0)), (p1, .inr (19, f0_p1)), (h0_parts, .inl (tA 0, h0_parts_n, .inl h0_parts_c)), (p1_parts, .inl (tA 0, p1_parts_n, .inl p1_parts_c))])) (v := (-1)) hx hb hr rfl hlocks hP hD hS () rfl rfl d_MW_compare_88
      · replace hF := ifn c9 hF
        refine lv_iconst (v := 0) hx hb d_MW_compare_64 (by decide) ?_
        refine lv_goto (tgt := 88) hx hb d_MW_compare_65 (by decide) ?_
        replace hF := Option.some.inj hF
        subst hF
        exact zZret (post := (fun (r9 : Int32) (u9 : Unit) => r9 = 0)) (W1 := (fun (u9 : Unit) => [(h0, .inr (19, f0_h0)), (p1, .inr (19, f0_p1)), (h0_parts, .inl (tA 0, h0_parts_n, .inl h0_parts_c)), (p1_parts, .inl (tA 0, p1_parts_n, .inl p1_parts_c))])) (v := 0) hx hb hr rfl hlocks hP hD hS () rfl rfl d_MW_compare_88
    · replace hF := ifn (fun h9 => h9 c9) hF
      refine lv_iinc (v := (l2 + Int32.ofInt (-1))) (lv' := [(2, .int (l2 + Int32.ofInt (-1))), (0, .ref h0), (1, .ref p1)]) hx hb d_MW_compare_54 hl (k := 2) rfl rfl (by decide) rfl (fun ls hl => ?_)
      refine lv_goto (tgt := 35) hx hb d_MW_compare_57 (by decide) ?_
      exact ih1 (l2 + Int32.ofInt (-1))   _ _ _ hF q_h0_parts q_h0_n q_p1_parts q_p1_n hP hD hS (lv_sub hl [1, 2, 0] rfl)
set_option maxHeartbeats 4000000 in
set_option maxRecDepth 100000 in
theorem a_MW_compare {p : Program} {l : Launch} {e : Env} {s : State} {m : MethodId} {args : Array Value} {below : List Frame} {meth : Method} {c : Code} {D : va_G} {tA : Nat → ClassId} {A : Nat → Prop} {h0 p1 h0_parts p1_parts : Nat} {f0_h0 f0_p1 : List Value} {h0_parts_n : Nat} {p1_parts_n : Nat} {h0_n : Int32} {p1_n : Int32} {h0_parts_c : Nat → Int32} {p1_parts_c : Nat → Int32} {out : Int32} (hx : p.tables.exec = Jvm.exec) (hb : c.code = prog_21_method_7_code) (hr : meth.sig.returnType = (Option.some Jvm.ClassFile.FieldType.int)) (hml : c.maxLocals = 3) (hh : zH s) (hg : ∀ w ∈ lw_R, w.before args s = true) (hown : s.vm.findClass "ChanceArenaModel$Whole" = some m.cls) (hlocks : meth.locks = false) (hK : va_K D vwCl (zT tA) s) (hA : ∀ q, s.heap.size ≤ q → A q) : ∀ n : Nat, (∀ (l2 : Int32) (H : Heap) (locs : List Loc) (ls : Array Slot), f_MW_compare h0_parts_n p1_parts_n h0_n p1_n h0_parts_c p1_parts_c n 0 l2 = some out → f0_h0[0]? = some (.ref h0_parts) → f0_h0[1]? = some (.int h0_n) → f0_p1[0]? = some (.ref p1_parts) → f0_p1[1]? = some (.int p1_n) → va_P D vwCl [(h0, .inr (19, f0_h0)), (p1, .inr (19, f0_p1)), (h0_parts, .inl (tA 0, h0_parts_n, .inl h0_parts_c)), (p1_parts, .inl (tA 0, p1_parts_n, .inl p1_parts_c))] H → va_D A [(h0, .inr (19, f0_h0)), (p1, .inr (19, f0_p1)), (h0_parts, .inl (tA 0, h0_parts_n, .inl h0_parts_c)), (p1_parts, .inl (tA 0, p1_parts_n, .inl p1_parts_c))] → va_S A s.heap H locs → lv_has ls 3 [(0, .ref h0), (1, .ref p1)] → W p l e { frames := 0, cells := 0, slots := 0, locals := 0 } s m args below meth c H locs 0 0 (MQ below (va_Qi (fun (r9 : Int32) (u9 : Unit) => r9 = out) (zPost D A (fun (u9 : Unit) => [(h0, .inr (19, f0_h0)), (p1, .inr (19, f0_p1)), (h0_parts, .inl (tA 0, h0_parts_n, .inl h0_parts_c)), (p1_parts, .inl (tA 0, p1_parts_n, .inl p1_parts_c))])) A) args s 0 0 A) (F0 m 0 ls [])) ∧ (∀ (l2 : Int32) (H : Heap) (locs : List Loc) (ls : Array Slot), f_MW_compare h0_parts_n p1_parts_n h0_n p1_n h0_parts_c p1_parts_c n 1 l2 = some out → f0_h0[0]? = some (.ref h0_parts) → f0_h0[1]? = some (.int h0_n) → f0_p1[0]? = some (.ref p1_parts) → f0_p1[1]? = some (.int p1_n) → va_P D vwCl [(h0, .inr (19, f0_h0)), (p1, .inr (19, f0_p1)), (h0_parts, .inl (tA 0, h0_parts_n, .inl h0_parts_c)), (p1_parts, .inl (tA 0, p1_parts_n, .inl p1_parts_c))] H → va_D A [(h0, .inr (19, f0_h0)), (p1, .inr (19, f0_p1)), (h0_parts, .inl (tA 0, h0_parts_n, .inl h0_parts_c)), (p1_parts, .inl (tA 0, p1_parts_n, .inl p1_parts_c))] → va_S A s.heap H locs → lv_has ls 3 [(0, .ref h0), (1, .ref p1), (2, .int l2)] → W p l e { frames := 0, cells := 0, slots := 0, locals := 0 } s m args below meth c H locs 0 0 (MQ below (va_Qi (fun (r9 : Int32) (u9 : Unit) => r9 = out) (zPost D A (fun (u9 : Unit) => [(h0, .inr (19, f0_h0)), (p1, .inr (19, f0_p1)), (h0_parts, .inl (tA 0, h0_parts_n, .inl h0_parts_c)), (p1_parts, .inl (tA 0, p1_parts_n, .inl p1_parts_c))])) A) args s 0 0 A) (F0 m 35 ls [])) := by
  intro n
  induction n with
  | zero => exact ⟨(fun _ _ _ _ hF => by rw [z_MW_compare] at hF; cases hF), (fun _ _ _ _ hF => by rw [z_MW_compare] at hF; cases hF)⟩
  | succ n ih =>
    obtain ⟨i0, i1⟩ := ih
    exact ⟨b_MW_compare_0 hx hb hr hml hh hg hown hlocks hK hA i1, b_MW_compare_1 hx hb hr hml hh hg hown hlocks hK hA i1⟩
set_option maxHeartbeats 4000000 in
set_option maxRecDepth 100000 in
theorem m_MW_compare (l : Launch) (D : va_G) (tA : Nat → ClassId) (sz : Nat) (h0 p1 h0_parts p1_parts : Nat) (f0_h0 f0_p1 : List Value) (h0_parts_n : Nat) (p1_parts_n : Nat) (h0_n : Int32) (p1_n : Int32) (h0_parts_c : Nat → Int32) (p1_parts_c : Nat → Int32) (q_h0_parts : f0_h0[0]? = some (.ref h0_parts)) (q_h0_n : f0_h0[1]? = some (.int h0_n)) (q_p1_parts : f0_p1[0]? = some (.ref p1_parts)) (q_p1_n : f0_p1[1]? = some (.int p1_n)) (n : Nat) (out : Int32) (hF : f_MW_compare h0_parts_n p1_parts_n h0_n p1_n h0_parts_c p1_parts_c n 0 0 = some out) : zMi l ({ cls := "ChanceArenaModel$Whole", name := "compare", desc := "(LChanceArenaModel$Whole;)I" } : Jvm.MethodName) (zW (Jvm.Cond.code ({ cls := "ChanceArenaModel$Whole", name := "compare", desc := "(LChanceArenaModel$Whole;)I" } : Jvm.MethodName) prog_21_method_7_code (3 : Nat) (Option.some Jvm.ClassFile.FieldType.int))) { frames := 0, cells := 0, slots := 0, locals := 0 } [.ref h0, .ref p1] D tA [(h0, .inr (19, f0_h0)), (p1, .inr (19, f0_p1)), (h0_parts, .inl (tA 0, h0_parts_n, .inl h0_parts_c)), (p1_parts, .inl (tA 0, p1_parts_n, .inl p1_parts_c))] sz (fun (r9 : Int32) (u9 : Unit) => r9 = out) (fun (u9 : Unit) => [(h0, .inr (19, f0_h0)), (p1, .inr (19, f0_p1)), (h0_parts, .inl (tA 0, h0_parts_n, .inl h0_parts_c)), (p1_parts, .inl (tA 0, p1_parts_n, .inl p1_parts_c))]) 0 0 := by
  refine zOpen (l := l) (y := ({ cls := "ChanceArenaModel$Whole", name := "compare", desc := "(LChanceArenaModel$Whole;)I" } : Jvm.MethodName)) (ws := zW (Jvm.Cond.code ({ cls := "ChanceArenaModel$Whole", name := "compare", desc := "(LChanceArenaModel$Whole;)I" } : Jvm.MethodName) prog_21_method_7_code (3 : Nat) (Option.some Jvm.ClassFile.FieldType.int))) (rm := { frames := 0, cells := 0, slots := 0, locals := 0 }) (av := [.ref h0, .ref p1]) (D := D) (tA := tA) (W0 := [(h0, .inr (19, f0_h0)), (p1, .inr (19, f0_p1)), (h0_parts, .inl (tA 0, h0_parts_n, .inl h0_parts_c)), (p1_parts, .inl (tA 0, p1_parts_n, .inl p1_parts_c))]) (Wm := [(h0, .inr (19, f0_h0)), (p1, .inr (19, f0_p1)), (h0_parts, .inl (tA 0, h0_parts_n, .inl h0_parts_c)), (p1_parts, .inl (tA 0, p1_parts_n, .inl p1_parts_c))]) (sz := sz) (mc := 0) (ms := 0) (fun A => va_Qi (fun (r9 : Int32) (u9 : Unit) => r9 = out) (zPost D A (fun (u9 : Unit) => [(h0, .inr (19, f0_h0)), (p1, .inr (19, f0_p1)), (h0_parts, .inl (tA 0, h0_parts_n, .inl h0_parts_c)), (p1_parts, .inl (tA 0, p1_parts_n, .inl p1_parts_c))])) A) (lv := [(0, .ref h0), (1, .ref p1)]) (by decide) rfl (Nat.le_of_ble_eq_true rfl) rfl ?_
  intro p e s m below meth c A ls hx hb hr hml hh hg hown hlocks hnm hK hA hP hD0 hAw hS hl
  have hD := zD hD0 hAw
  exact (a_MW_compare hx hb hr hml hh hg hown hlocks hK hA n).1 0   _ _ _ hF q_h0_parts q_h0_n q_p1_parts q_p1_n hP hD hS hl
def f_MW_at (h0_parts_n : Nat) (l1 : Int32) (h0_n : Int32) (h0_parts_c : Nat → Int32) : Option (Int32) := if (h0_n : Int32) ≤ l1 then some (0) else chk (0 ≤ (l1 : Int32).toInt ∧ (l1 : Int32).toInt < h0_parts_n) (some ((h0_parts_c (l1 : Int32).toNatClampNeg)))
set_option maxHeartbeats 4000000 in
set_option maxRecDepth 100000 in
theorem b_MW_at_0 {p : Program} {l : Launch} {e : Env} {s : State} {m : MethodId} {args : Array Value} {below : List Frame} {meth : Method} {c : Code} {D : va_G} {tA : Nat → ClassId} {A : Nat → Prop} {h0 h0_parts : Nat} {f0_h0 : List Value} {h0_parts_n : Nat} {l1 : Int32} {h0_n : Int32} {h0_parts_c : Nat → Int32} {out : Int32} (hx : p.tables.exec = Jvm.exec) (hb : c.code = prog_21_method_8_code) (hr : meth.sig.returnType = (Option.some Jvm.ClassFile.FieldType.int)) (hml : c.maxLocals = 2) (hh : zH s) (hg : ∀ w ∈ lw_R, w.before args s = true) (hown : s.vm.findClass "ChanceArenaModel$Whole" = some m.cls) (hlocks : meth.locks = false) (hK : va_K D vwCl (zT tA) s) (hA : ∀ q, s.heap.size ≤ q → A q)  : ∀ (H : Heap) (locs : List Loc) (ls : Array Slot), f_MW_at h0_parts_n l1 h0_n h0_parts_c = some out → f0_h0[0]? = some (.ref h0_parts) → f0_h0[1]? = some (.int h0_n) → va_P D vwCl [(h0, .inr (19, f0_h0)), (h0_parts, .inl (tA 0, h0_parts_n, .inl h0_parts_c))] H → va_D A [(h0, .inr (19, f0_h0)), (h0_parts, .inl (tA 0, h0_parts_n, .inl h0_parts_c))] → va_S A s.heap H locs → lv_has ls 2 [(0, .ref h0), (1, .int l1)] → W p l e { frames := 0, cells := 0, slots := 0, locals := 0 } s m args below meth c H locs 0 0 (MQ below (va_Qi (fun (r9 : Int32) (u9 : Unit) => r9 = out) (zPost D A (fun (u9 : Unit) => [(h0, .inr (19, f0_h0)), (h0_parts, .inl (tA 0, h0_parts_n, .inl h0_parts_c))])) A) args s 0 0 A) (F0 m 0 ls []) := by
  intro    H locs ls hF q_h0_parts q_h0_n hP hD hS hl
  replace hF : ((if (h0_n : Int32) ≤ l1 then some (0) else chk (0 ≤ (l1 : Int32).toInt ∧ (l1 : Int32).toInt < h0_parts_n) (some ((h0_parts_c (l1 : Int32).toNatClampNeg)))) : Option (Int32)) = some out := hF
  refine lv_iload_n hx hb d_MW_at_0 rfl (lv_at hl 1 rfl) ?_
  refine lv_aload_n hx hb d_MW_at_1 rfl (lv_at hl 0 rfl) ?_
  refine va_get (D := D) (ci := 19) (v := .int h0_n) (C := R_MW) (T := T_MW) (N := 2) hx hb hg i_MW hown hK hP 0 rfl rfl 1 (by decide) (hg _ k9_135) (fun _ h9 => h9) q_h0_n d_MW_at_2 ?_
  refine lv_icmp_ge (tgt := 17) hx hb d_MW_at_5 (by decide) (fun c9 => ?_) (fun c9 => ?_)
  · replace hF := ifp c9 hF
    refine lv_iconst (v := 0) hx hb d_MW_at_17 (by decide) ?_
    replace hF := Option.some.inj hF
    subst hF
    exact zZret (post := (fun (r9 : Int32) (u9 : Unit) => r9 = 0)) (W1 := (fun (u9 : Unit) => [(h0, .inr (19, f0_h0)), (h0_parts, .inl (tA 0, h0_parts_n, .inl h0_parts_c))])) (v := 0) hx hb hr rfl hlocks hP hD hS () rfl rfl d_MW_at_18
  · replace hF := ifn c9 hF
    refine lv_aload_n hx hb d_MW_at_8 rfl (lv_at hl 0 rfl) ?_
    refine va_get (D := D) (ci := 19) (v := .ref h0_parts) (C := R_MW) (T := T_MW) (N := 2) hx hb hg i_MW hown hK hP 0 rfl rfl 0 (by decide) (hg _ k9_134) (fun _ h9 => h9) q_h0_parts d_MW_at_9 ?_
    refine lv_iload_n hx hb d_MW_at_12 rfl (lv_at hl 1 rfl) ?_
    obtain ⟨h9, hF⟩ := chk_some hF
    refine va_iald hx hb hK hP 1 0 rfl rfl (vp_in_iff.mpr h9) d_MW_at_13 ?_
    refine lv_goto (tgt := 18) hx hb d_MW_at_14 (by decide) ?_
    replace hF := Option.some.inj hF
    subst hF
    exact zZret (post := (fun (r9 : Int32) (u9 : Unit) => r9 = (h0_parts_c (l1 : Int32).toNatClampNeg))) (W1 := (fun (u9 : Unit) => [(h0, .inr (19, f0_h0)), (h0_parts, .inl (tA 0, h0_parts_n, .inl h0_parts_c))])) (v := (h0_parts_c (l1 : Int32).toNatClampNeg)) hx hb hr rfl hlocks hP hD hS () rfl rfl d_MW_at_18
set_option maxHeartbeats 4000000 in
set_option maxRecDepth 100000 in
theorem m_MW_at (l : Launch) (D : va_G) (tA : Nat → ClassId) (sz : Nat) (h0 h0_parts : Nat) (f0_h0 : List Value) (h0_parts_n : Nat) (l1 : Int32) (h0_n : Int32) (h0_parts_c : Nat → Int32) (q_h0_parts : f0_h0[0]? = some (.ref h0_parts)) (q_h0_n : f0_h0[1]? = some (.int h0_n)) (out : Int32) (hF : f_MW_at h0_parts_n l1 h0_n h0_parts_c = some out) : zMi l ({ cls := "ChanceArenaModel$Whole", name := "at", desc := "(I)I" } : Jvm.MethodName) (zW (Jvm.Cond.code ({ cls := "ChanceArenaModel$Whole", name := "at", desc := "(I)I" } : Jvm.MethodName) prog_21_method_8_code (2 : Nat) (Option.some Jvm.ClassFile.FieldType.int))) { frames := 0, cells := 0, slots := 0, locals := 0 } [.ref h0, .int l1] D tA [(h0, .inr (19, f0_h0)), (h0_parts, .inl (tA 0, h0_parts_n, .inl h0_parts_c))] sz (fun (r9 : Int32) (u9 : Unit) => r9 = out) (fun (u9 : Unit) => [(h0, .inr (19, f0_h0)), (h0_parts, .inl (tA 0, h0_parts_n, .inl h0_parts_c))]) 0 0 := by
  refine zOpen (l := l) (y := ({ cls := "ChanceArenaModel$Whole", name := "at", desc := "(I)I" } : Jvm.MethodName)) (ws := zW (Jvm.Cond.code ({ cls := "ChanceArenaModel$Whole", name := "at", desc := "(I)I" } : Jvm.MethodName) prog_21_method_8_code (2 : Nat) (Option.some Jvm.ClassFile.FieldType.int))) (rm := { frames := 0, cells := 0, slots := 0, locals := 0 }) (av := [.ref h0, .int l1]) (D := D) (tA := tA) (W0 := [(h0, .inr (19, f0_h0)), (h0_parts, .inl (tA 0, h0_parts_n, .inl h0_parts_c))]) (Wm := [(h0, .inr (19, f0_h0)), (h0_parts, .inl (tA 0, h0_parts_n, .inl h0_parts_c))]) (sz := sz) (mc := 0) (ms := 0) (fun A => va_Qi (fun (r9 : Int32) (u9 : Unit) => r9 = out) (zPost D A (fun (u9 : Unit) => [(h0, .inr (19, f0_h0)), (h0_parts, .inl (tA 0, h0_parts_n, .inl h0_parts_c))])) A) (lv := [(0, .ref h0), (1, .int l1)]) (by decide) rfl (Nat.le_of_ble_eq_true rfl) rfl ?_
  intro p e s m below meth c A ls hx hb hr hml hh hg hown hlocks hnm hK hA hP hD0 hAw hS hl
  have hD := zD hD0 hAw
  exact b_MW_at_0 hx hb hr hml hh hg hown hlocks hK hA    _ _ _ hF q_h0_parts q_h0_n hP hD hS hl
def f_MW_add (h0_parts_n : Nat) (p1_parts_n : Nat) (p1_n : Int32) (p1_parts_c : Nat → Int32) : Nat → Nat → Int32 → (Nat → Int32) → Int32 → Int32 → Int32 → Option (Int32 × (Nat → Int32))
  | 0, _, _, _, _, _, _ => none
  | n + 1, 0, h0_n, h0_parts_c, l2, l3, l4 => if (h0_n : Int32) ≤ p1_n then f_MW_add h0_parts_n p1_parts_n p1_n p1_parts_c n 1 h0_n h0_parts_c p1_n 0 0 else f_MW_add h0_parts_n p1_parts_n p1_n p1_parts_c n 1 h0_n h0_parts_c h0_n 0 0
  | n + 1, 1, h0_n, h0_parts_c, l2, l3, l4 => if (l2 : Int32) ≤ l4 then (if (l3 : Int32) ≤ 0 then some (l2, h0_parts_c) else chk (0 ≤ (l2 : Int32).toInt ∧ (l2 : Int32).toInt < h0_parts_n) (some ((l2 + 1), upd h0_parts_c (l2 : Int32).toNatClampNeg l3))) else Option.bind (f_MW_at h0_parts_n l4 h0_n h0_parts_c) (fun o1 => Option.bind (f_MW_at p1_parts_n l4 p1_n p1_parts_c) (fun o2 => chk (0 ≤ (l4 : Int32).toInt ∧ (l4 : Int32).toInt < h0_parts_n) (f_MW_add h0_parts_n p1_parts_n p1_n p1_parts_c n 1 h0_n (upd h0_parts_c (l4 : Int32).toNatClampNeg (((o1 + o2) + l3) - ((o1 + o2) + l3) / 16777216 * 16777216)) l2 (((o1 + o2) + l3) / 16777216) (l4 + Int32.ofInt 1))))
  | _ + 1, _ + 2, _, _, _, _, _ => none
theorem e_MW_add_0 (h0_parts_n : Nat) (p1_parts_n : Nat) (p1_n : Int32) (p1_parts_c : Nat → Int32) (n : Nat) (h0_n : Int32) (h0_parts_c : Nat → Int32) (l2 : Int32) (l3 : Int32) (l4 : Int32) : f_MW_add h0_parts_n p1_parts_n p1_n p1_parts_c (n + 1) 0 h0_n h0_parts_c l2 l3 l4 = if (h0_n : Int32) ≤ p1_n then f_MW_add h0_parts_n p1_parts_n p1_n p1_parts_c n 1 h0_n h0_parts_c p1_n 0 0 else f_MW_add h0_parts_n p1_parts_n p1_n p1_parts_c n 1 h0_n h0_parts_c h0_n 0 0 := by rw [f_MW_add]
theorem e_MW_add_1 (h0_parts_n : Nat) (p1_parts_n : Nat) (p1_n : Int32) (p1_parts_c : Nat → Int32) (n : Nat) (h0_n : Int32) (h0_parts_c : Nat → Int32) (l2 : Int32) (l3 : Int32) (l4 : Int32) : f_MW_add h0_parts_n p1_parts_n p1_n p1_parts_c (n + 1) 1 h0_n h0_parts_c l2 l3 l4 = if (l2 : Int32) ≤ l4 then (if (l3 : Int32) ≤ 0 then some (l2, h0_parts_c) else chk (0 ≤ (l2 : Int32).toInt ∧ (l2 : Int32).toInt < h0_parts_n) (some ((l2 + 1), upd h0_parts_c (l2 : Int32).toNatClampNeg l3))) else Option.bind (f_MW_at h0_parts_n l4 h0_n h0_parts_c) (fun o1 => Option.bind (f_MW_at p1_parts_n l4 p1_n p1_parts_c) (fun o2 => chk (0 ≤ (l4 : Int32).toInt ∧ (l4 : Int32).toInt < h0_parts_n) (f_MW_add h0_parts_n p1_parts_n p1_n p1_parts_c n 1 h0_n (upd h0_parts_c (l4 : Int32).toNatClampNeg (((o1 + o2) + l3) - ((o1 + o2) + l3) / 16777216 * 16777216)) l2 (((o1 + o2) + l3) / 16777216) (l4 + Int32.ofInt 1)))) := by rw [f_MW_add]
theorem z_MW_add (h0_parts_n : Nat) (p1_parts_n : Nat) (p1_n : Int32) (p1_parts_c : Nat → Int32) (h : Nat) (h0_n : Int32) (h0_parts_c : Nat → Int32) (l2 : Int32) (l3 : Int32) (l4 : Int32) : f_MW_add h0_parts_n p1_parts_n p1_n p1_parts_c 0 h h0_n h0_parts_c l2 l3 l4 = none := by rw [f_MW_add]
set_option maxHeartbeats 4000000 in
set_option maxRecDepth 100000 in
theorem b_MW_add_0 {p : Program} {l : Launch} {e : Env} {s : State} {m : MethodId} {args : Array Value} {below : List Frame} {meth : Method} {c : Code} {D : va_G} {tA : Nat → ClassId} {A : Nat → Prop} {h0 p1 h0_parts p1_parts : Nat} {f0_h0 f0_p1 : List Value} {h0_parts_n : Nat} {p1_parts_n : Nat} {p1_n : Int32} {p1_parts_c : Nat → Int32} {out : Int32 × (Nat → Int32)} (hx : p.tables.exec = Jvm.exec) (hb : c.code = prog_21_method_9_code) (hr : meth.sig.returnType = (Option.none : Option Jvm.ClassFile.FieldType)) (hml : c.maxLocals = 6) (hh : zH s) (hg : ∀ w ∈ lw_R, w.before args s = true) (hown : s.vm.findClass "ChanceArenaModel$Whole" = some m.cls) (hlocks : meth.locks = false) (hK : va_K D vwCl (zT tA) s) (hA : ∀ q, s.heap.size ≤ q → A q) {n : Nat} (ih1 : ∀ (h0_n : Int32) (h0_parts_c : Nat → Int32) (l2 : Int32) (l3 : Int32) (l4 : Int32) (f_h0 : List Value) (H : Heap) (locs : List Loc) (ls : Array Slot), f_MW_add h0_parts_n p1_parts_n p1_n p1_parts_c n 1 h0_n h0_parts_c l2 l3 l4 = some out → f_h0[0]? = some (.ref h0_parts) → f_h0[1]? = some (.int h0_n) → Fr [1] f0_h0 f_h0 → f0_p1[0]? = some (.ref p1_parts) → f0_p1[1]? = some (.int p1_n) → va_P D vwCl [(h0, .inr (19, f_h0)), (p1, .inr (19, f0_p1)), (h0_parts, .inl (tA 0, h0_parts_n, .inl h0_parts_c)), (p1_parts, .inl (tA 0, p1_parts_n, .inl p1_parts_c))] H → va_D A [(h0, .inr (19, f_h0)), (p1, .inr (19, f0_p1)), (h0_parts, .inl (tA 0, h0_parts_n, .inl h0_parts_c)), (p1_parts, .inl (tA 0, p1_parts_n, .inl p1_parts_c))] → va_S A s.heap H locs → lv_has ls 6 [(0, .ref h0), (1, .ref p1), (2, .int l2), (3, .int l3), (4, .int l4)] → W p l e { frames := 1, cells := 0, slots := 0, locals := 21 } s m args below meth c H locs 0 0 (MQ below (va_Qv (fun (u9 : List Value) => Fr [1] f0_h0 u9 ∧ u9[1]? = some (.int out.1)) (zPost D A (fun (u9 : List Value) => [(h0, .inr (19, u9)), (p1, .inr (19, f0_p1)), (h0_parts, .inl (tA 0, h0_parts_n, .inl out.2)), (p1_parts, .inl (tA 0, p1_parts_n, .inl p1_parts_c))])) A) args s 0 0 A) (F0 m 28 ls [])) : ∀ (h0_n : Int32) (h0_parts_c : Nat → Int32) (l2 : Int32) (l3 : Int32) (l4 : Int32) (f_h0 : List Value) (H : Heap) (locs : List Loc) (ls : Array Slot), f_MW_add h0_parts_n p1_parts_n p1_n p1_parts_c (n + 1) 0 h0_n h0_parts_c l2 l3 l4 = some out → f_h0[0]? = some (.ref h0_parts) → f_h0[1]? = some (.int h0_n) → Fr [1] f0_h0 f_h0 → f0_p1[0]? = some (.ref p1_parts) → f0_p1[1]? = some (.int p1_n) → va_P D vwCl [(h0, .inr (19, f_h0)), (p1, .inr (19, f0_p1)), (h0_parts, .inl (tA 0, h0_parts_n, .inl h0_parts_c)), (p1_parts, .inl (tA 0, p1_parts_n, .inl p1_parts_c))] H → va_D A [(h0, .inr (19, f_h0)), (p1, .inr (19, f0_p1)), (h0_parts, .inl (tA 0, h0_parts_n, .inl h0_parts_c)), (p1_parts, .inl (tA 0, p1_parts_n, .inl p1_parts_c))] → va_S A s.heap H locs → lv_has ls 6 [(0, .ref h0), (1, .ref p1)] → W p l e { frames := 1, cells := 0, slots := 0, locals := 21 } s m args below meth c H locs 0 0 (MQ below (va_Qv (fun (u9 : List Value) => Fr [1] f0_h0 u9 ∧ u9[1]? = some (.int out.1)) (zPost D A (fun (u9 : List Value) => [(h0, .inr (19, u9)), (p1, .inr (19, f0_p1)), (h0_parts, .inl (tA 0, h0_parts_n, .inl out.2)), (p1_parts, .inl (tA 0, p1_parts_n, .inl p1_parts_c))])) A) args s 0 0 A) (F0 m 0 ls []) := by
  intro h0_n h0_parts_c l2 l3 l4  f_h0 H locs ls hF q_h0_parts q_h0_n r_h0 q_p1_parts q_p1_n hP hD hS hl
  rw [e_MW_add_0] at hF
  refine lv_aload_n hx hb d_MW_add_0 rfl (lv_at hl 0 rfl) ?_
  refine va_get (D := D) (ci := 19) (v := .int h0_n) (C := R_MW) (T := T_MW) (N := 2) hx hb hg i_MW hown hK hP 0 rfl rfl 1 (by decide) (hg _ k9_135) (fun _ h9 => h9) q_h0_n d_MW_add_1 ?_
  refine lv_aload_n hx hb d_MW_add_4 rfl (lv_at hl 1 rfl) ?_
  refine va_get (D := D) (ci := 19) (v := .int p1_n) (C := R_MW) (T := T_MW) (N := 2) hx hb hg i_MW hown hK hP 1 rfl rfl 1 (by decide) (hg _ k9_135) (fun _ h9 => h9) q_p1_n d_MW_add_5 ?_
  refine lv_icmp_le (tgt := 18) hx hb d_MW_add_8 (by decide) (fun c9 => ?_) (fun c9 => ?_)
  · replace hF := ifp c9 hF
    refine lv_aload_n hx hb d_MW_add_18 rfl (lv_at hl 1 rfl) ?_
    refine va_get (D := D) (ci := 19) (v := .int p1_n) (C := R_MW) (T := T_MW) (N := 2) hx hb hg i_MW hown hK hP 1 rfl rfl 1 (by decide) (hg _ k9_135) (fun _ h9 => h9) q_p1_n d_MW_add_19 ?_
    refine lv_istore_n (lv' := [(2, .int p1_n), (0, .ref h0), (1, .ref p1)]) hx hb d_MW_add_22 rfl hl (by decide) rfl (fun ls hl => ?_)
    refine lv_iconst (v := 0) hx hb d_MW_add_23 (by decide) ?_
    refine lv_istore_n (lv' := [(3, .int 0), (2, .int p1_n), (0, .ref h0), (1, .ref p1)]) hx hb d_MW_add_24 rfl hl (by decide) rfl (fun ls hl => ?_)
    refine lv_iconst (v := 0) hx hb d_MW_add_25 (by decide) ?_
    refine lv_istore (lv' := [(4, .int 0), (3, .int 0), (2, .int p1_n), (0, .ref h0), (1, .ref p1)]) hx hb d_MW_add_26 hl (by decide) rfl (fun ls hl => ?_)
    exact ih1 h0_n h0_parts_c p1_n 0 0  f_h0 _ _ _ hF q_h0_parts q_h0_n r_h0 q_p1_parts q_p1_n hP hD hS (lv_sub hl [3, 4, 2, 1, 0] rfl)
  · replace hF := ifn c9 hF
    refine lv_aload_n hx hb d_MW_add_11 rfl (lv_at hl 0 rfl) ?_
    refine va_get (D := D) (ci := 19) (v := .int h0_n) (C := R_MW) (T := T_MW) (N := 2) hx hb hg i_MW hown hK hP 0 rfl rfl 1 (by decide) (hg _ k9_135) (fun _ h9 => h9) q_h0_n d_MW_add_12 ?_
    refine lv_goto (tgt := 22) hx hb d_MW_add_15 (by decide) ?_
    refine lv_istore_n (lv' := [(2, .int h0_n), (0, .ref h0), (1, .ref p1)]) hx hb d_MW_add_22 rfl hl (by decide) rfl (fun ls hl => ?_)
    refine lv_iconst (v := 0) hx hb d_MW_add_23 (by decide) ?_
    refine lv_istore_n (lv' := [(3, .int 0), (2, .int h0_n), (0, .ref h0), (1, .ref p1)]) hx hb d_MW_add_24 rfl hl (by decide) rfl (fun ls hl => ?_)
    refine lv_iconst (v := 0) hx hb d_MW_add_25 (by decide) ?_
    refine lv_istore (lv' := [(4, .int 0), (3, .int 0), (2, .int h0_n), (0, .ref h0), (1, .ref p1)]) hx hb d_MW_add_26 hl (by decide) rfl (fun ls hl => ?_)
    exact ih1 h0_n h0_parts_c h0_n 0 0  f_h0 _ _ _ hF q_h0_parts q_h0_n r_h0 q_p1_parts q_p1_n hP hD hS (lv_sub hl [3, 4, 2, 1, 0] rfl)
set_option maxHeartbeats 4000000 in
set_option maxRecDepth 100000 in
theorem b_MW_add_1 {p : Program} {l : Launch} {e : Env} {s : State} {m : MethodId} {args : Array Value} {below : List Frame} {meth : Method} {c : Code} {D : va_G} {tA : Nat → ClassId} {A : Nat → Prop} {h0 p1 h0_parts p1_parts : Nat} {f0_h0 f0_p1 : List Value} {h0_parts_n : Nat} {p1_parts_n : Nat} {p1_n : Int32} {p1_parts_c : Nat → Int32} {out : Int32 × (Nat → Int32)} (hx : p.tables.exec = Jvm.exec) (hb : c.code = prog_21_method_9_code) (hr : meth.sig.returnType = (Option.none : Option Jvm.ClassFile.FieldType)) (hml : c.maxLocals = 6) (hh : zH s) (hg : ∀ w ∈ lw_R, w.before args s = true) (hown : s.vm.findClass "ChanceArenaModel$Whole" = some m.cls) (hlocks : meth.locks = false) (hK : va_K D vwCl (zT tA) s) (hA : ∀ q, s.heap.size ≤ q → A q) {n : Nat} (ih1 : ∀ (h0_n : Int32) (h0_parts_c : Nat → Int32) (l2 : Int32) (l3 : Int32) (l4 : Int32) (f_h0 : List Value) (H : Heap) (locs : List Loc) (ls : Array Slot), f_MW_add h0_parts_n p1_parts_n p1_n p1_parts_c n 1 h0_n h0_parts_c l2 l3 l4 = some out → f_h0[0]? = some (.ref h0_parts) → f_h0[1]? = some (.int h0_n) → Fr [1] f0_h0 f_h0 → f0_p1[0]? = some (.ref p1_parts) → f0_p1[1]? = some (.int p1_n) → va_P D vwCl [(h0, .inr (19, f_h0)), (p1, .inr (19, f0_p1)), (h0_parts, .inl (tA 0, h0_parts_n, .inl h0_parts_c)), (p1_parts, .inl (tA 0, p1_parts_n, .inl p1_parts_c))] H → va_D A [(h0, .inr (19, f_h0)), (p1, .inr (19, f0_p1)), (h0_parts, .inl (tA 0, h0_parts_n, .inl h0_parts_c)), (p1_parts, .inl (tA 0, p1_parts_n, .inl p1_parts_c))] → va_S A s.heap H locs → lv_has ls 6 [(0, .ref h0), (1, .ref p1), (2, .int l2), (3, .int l3), (4, .int l4)] → W p l e { frames := 1, cells := 0, slots := 0, locals := 21 } s m args below meth c H locs 0 0 (MQ below (va_Qv (fun (u9 : List Value) => Fr [1] f0_h0 u9 ∧ u9[1]? = some (.int out.1)) (zPost D A (fun (u9 : List Value) => [(h0, .inr (19, u9)), (p1, .inr (19, f0_p1)), (h0_parts, .inl (tA 0, h0_parts_n, .inl out.2)), (p1_parts, .inl (tA 0, p1_parts_n, .inl p1_parts_c))])) A) args s 0 0 A) (F0 m 28 ls [])) : ∀ (h0_n : Int32) (h0_parts_c : Nat → Int32) (l2 : Int32) (l3 : Int32) (l4 : Int32) (f_h0 : List Value) (H : Heap) (locs : List Loc) (ls : Array Slot), f_MW_add h0_parts_n p1_parts_n p1_n p1_parts_c (n + 1) 1 h0_n h0_parts_c l2 l3 l4 = some out → f_h0[0]? = some (.ref h0_parts) → f_h0[1]? = some (.int h0_n) → Fr [1] f0_h0 f_h0 → f0_p1[0]? = some (.ref p1_parts) → f0_p1[1]? = some (.int p1_n) → va_P D vwCl [(h0, .inr (19, f_h0)), (p1, .inr (19, f0_p1)), (h0_parts, .inl (tA 0, h0_parts_n, .inl h0_parts_c)), (p1_parts, .inl (tA 0, p1_parts_n, .inl p1_parts_c))] H → va_D A [(h0, .inr (19, f_h0)), (p1, .inr (19, f0_p1)), (h0_parts, .inl (tA 0, h0_parts_n, .inl h0_parts_c)), (p1_parts, .inl (tA 0, p1_parts_n, .inl p1_parts_c))] → va_S A s.heap H locs → lv_has ls 6 [(0, .ref h0), (1, .ref p1), (2, .int l2), (3, .int l3), (4, .int l4)] → W p l e { frames := 1, cells := 0, slots := 0, locals := 21 } s m args below meth c H locs 0 0 (MQ below (va_Qv (fun (u9 : List Value) => Fr [1] f0_h0 u9 ∧ u9[1]? = some (.int out.1)) (zPost D A (fun (u9 : List Value) => [(h0, .inr (19, u9)), (p1, .inr (19, f0_p1)), (h0_parts, .inl (tA 0, h0_parts_n, .inl out.2)), (p1_parts, .inl (tA 0, p1_parts_n, .inl p1_parts_c))])) A) args s 0 0 A) (F0 m 28 ls []) := by
  intro h0_n h0_parts_c l2 l3 l4  f_h0 H locs ls hF q_h0_parts q_h0_n r_h0 q_p1_parts q_p1_n hP hD hS hl
  rw [e_MW_add_1] at hF
  refine lv_iload hx hb d_MW_add_28 (lv_at hl 4 rfl) ?_
  refine lv_iload_n hx hb d_MW_add_30 rfl (lv_at hl 2 rfl) ?_
  refine lv_icmp_ge (tgt := 75) hx hb d_MW_add_31 (by decide) (fun c9 => ?_) (fun c9 => ?_)
  · replace hF := ifp c9 hF
    refine lv_aload_n hx hb d_MW_add_75 rfl (lv_at hl 0 rfl) ?_
    refine lv_iload_n hx hb d_MW_add_76 rfl (lv_at hl 2 rfl) ?_
    refine va_put (D := D) (ci := 19) (v := .int l2) (ty := .int) (C := R_MW) (T := T_MW) (N := 2) hx hb hg i_MW t_MW o_MW n_MW hown hK hP hD hS 0 rfl rfl 1 (by decide) (hg _ k9_135) (fun _ h9 => h9) rfl (by decide +kernel) rfl rfl (zLen q_h0_n) d_MW_add_77 (fun H1 locs1 hP1 hD1 hS1 => ?_)
    clear hP hD hS
    replace hP1 : va_P D vwCl [(h0, .inr (19, f_h0.set 1 (.int l2))), (p1, .inr (19, f0_p1)), (h0_parts, .inl (tA 0, h0_parts_n, .inl h0_parts_c)), (p1_parts, .inl (tA 0, p1_parts_n, .inl p1_parts_c))] _ := hP1
    replace hD1 : va_D A [(h0, .inr (19, f_h0.set 1 (.int l2))), (p1, .inr (19, f0_p1)), (h0_parts, .inl (tA 0, h0_parts_n, .inl h0_parts_c)), (p1_parts, .inl (tA 0, p1_parts_n, .inl p1_parts_c))] := hD1
    refine lv_iload_n hx hb d_MW_add_80 rfl (lv_at hl 3 rfl) ?_
    refine lv_if_le (tgt := 104) hx hb d_MW_add_81 (by decide) (fun c9 => ?_) (fun c9 => ?_)
    · replace hF := ifp c9 hF
      replace hF := Option.some.inj hF
      subst hF
      exact zVret (post := (fun (u9 : List Value) => Fr [1] f0_h0 u9 ∧ u9[1]? = some (.int ((l2, h0_parts_c).1)))) (W1 := (fun (u9 : List Value) => [(h0, .inr (19, u9)), (p1, .inr (19, f0_p1)), (h0_parts, .inl (tA 0, h0_parts_n, .inl ((l2, h0_parts_c).2))), (p1_parts, .inl (tA 0, p1_parts_n, .inl p1_parts_c))])) hx hb hr hlocks hP1 hD1 hS1 (f_h0.set 1 (.int l2)) ⟨(Fr.set r_h0 (by decide)), (zSetS q_h0_n)⟩ rfl d_MW_add_104
    · replace hF := ifn c9 hF
      refine lv_aload_n hx hb d_MW_add_84 rfl (lv_at hl 0 rfl) ?_
      refine va_get (D := D) (ci := 19) (v := .ref h0_parts) (C := R_MW) (T := T_MW) (N := 2) hx hb hg i_MW hown hK hP1 0 rfl rfl 0 (by decide) (hg _ k9_134) (fun _ h9 => h9) (zSetN (by decide) q_h0_parts) d_MW_add_85 ?_
      refine lv_aload_n hx hb d_MW_add_88 rfl (lv_at hl 0 rfl) ?_
      refine va_get (D := D) (ci := 19) (v := .int l2) (C := R_MW) (T := T_MW) (N := 2) hx hb hg i_MW hown hK hP1 0 rfl rfl 1 (by decide) (hg _ k9_135) (fun _ h9 => h9) (zSetS q_h0_n) d_MW_add_89 ?_
      refine lv_iload_n hx hb d_MW_add_92 rfl (lv_at hl 3 rfl) ?_
      obtain ⟨h9, hF⟩ := chk_some hF
      refine va_iast hx hb hK hP1 hD1 hS1 2 0 rfl rfl (vp_in_iff.mpr h9) d_MW_add_93 (fun H2 locs2 hP2 hD2 hS2 => ?_)
      clear hP1 hD1 hS1
      replace hP2 : va_P D vwCl [(h0, .inr (19, f_h0.set 1 (.int l2))), (p1, .inr (19, f0_p1)), (h0_parts, .inl (tA 0, h0_parts_n, .inl (upd h0_parts_c (l2 : Int32).toNatClampNeg l3))), (p1_parts, .inl (tA 0, p1_parts_n, .inl p1_parts_c))] _ := hP2
      replace hD2 : va_D A [(h0, .inr (19, f_h0.set 1 (.int l2))), (p1, .inr (19, f0_p1)), (h0_parts, .inl (tA 0, h0_parts_n, .inl (upd h0_parts_c (l2 : Int32).toNatClampNeg l3))), (p1_parts, .inl (tA 0, p1_parts_n, .inl p1_parts_c))] := hD2
      refine lv_aload_n hx hb d_MW_add_94 rfl (lv_at hl 0 rfl) ?_
      refine lv_dup hx hb d_MW_add_95 rfl ?_
      refine va_get (D := D) (ci := 19) (v := .int l2) (C := R_MW) (T := T_MW) (N := 2) hx hb hg i_MW hown hK hP2 0 rfl rfl 1 (by decide) (hg _ k9_135) (fun _ h9 => h9) (zSetS q_h0_n) d_MW_add_96 ?_
      refine lv_iconst (v := 1) hx hb d_MW_add_99 (by decide) ?_
      refine lv_iadd hx hb d_MW_add_100 ?_
      refine va_put (D := D) (ci := 19) (v := .int (l2 + 1)) (ty := .int) (C := R_MW) (T := T_MW) (N := 2) hx hb hg i_MW t_MW o_MW n_MW hown hK hP2 hD2 hS2 0 rfl rfl 1 (by decide) (hg _ k9_135) (fun _ h9 => h9) rfl (by decide +kernel) rfl rfl (zLen (zSetS q_h0_n)) d_MW_add_101 (fun H3 locs3 hP3 hD3 hS3 => ?_)
      clear hP2 hD2 hS2
      replace hP3 : va_P D vwCl [(h0, .inr (19, (f_h0.set 1 (.int l2)).set 1 (.int (l2 + 1)))), (p1, .inr (19, f0_p1)), (h0_parts, .inl (tA 0, h0_parts_n, .inl (upd h0_parts_c (l2 : Int32).toNatClampNeg l3))), (p1_parts, .inl (tA 0, p1_parts_n, .inl p1_parts_c))] _ := hP3
      replace hD3 : va_D A [(h0, .inr (19, (f_h0.set 1 (.int l2)).set 1 (.int (l2 + 1)))), (p1, .inr (19, f0_p1)), (h0_parts, .inl (tA 0, h0_parts_n, .inl (upd h0_parts_c (l2 : Int32).toNatClampNeg l3))), (p1_parts, .inl (tA 0, p1_parts_n, .inl p1_parts_c))] := hD3
      replace hF := Option.some.inj hF
      subst hF
      exact zVret (post := (fun (u9 : List Value) => Fr [1] f0_h0 u9 ∧ u9[1]? = some (.int (((l2 + 1), upd h0_parts_c (l2 : Int32).toNatClampNeg l3).1)))) (W1 := (fun (u9 : List Value) => [(h0, .inr (19, u9)), (p1, .inr (19, f0_p1)), (h0_parts, .inl (tA 0, h0_parts_n, .inl (((l2 + 1), upd h0_parts_c (l2 : Int32).toNatClampNeg l3).2))), (p1_parts, .inl (tA 0, p1_parts_n, .inl p1_parts_c))])) hx hb hr hlocks hP3 hD3 hS3 ((f_h0.set 1 (.int l2)).set 1 (.int (l2 + 1))) ⟨(Fr.set (Fr.set r_h0 (by decide)) (by decide)), (zSetS (zSetS q_h0_n))⟩ rfl d_MW_add_104
  · replace hF := ifn c9 hF
    refine lv_aload_n hx hb d_MW_add_34 rfl (lv_at hl 0 rfl) ?_
    refine lv_iload hx hb d_MW_add_35 (lv_at hl 4 rfl) ?_
    obtain ⟨o1, h1, hF⟩ := bsome hF
    refine zCalli (wc := [(h0, .inr (19, f_h0)), (h0_parts, .inl (tA 0, h0_parts_n, .inl h0_parts_c))]) (wr := [(p1, .inr (19, f0_p1)), (p1_parts, .inl (tA 0, p1_parts_n, .inl p1_parts_c))]) hP hD hS hA [0, 2] [1, 3] rfl rfl (by decide) (by decide) (va_runV (As := [.int l4]) (rest := []) ⟨hx, hb, hml, hown, hg⟩ (m_MW_at l D tA _ h0 h0_parts f_h0 h0_parts_n l4 h0_n h0_parts_c q_h0_parts q_h0_n o1 h1) (zV 1 hg k12_227 k12_229 ks_MW_at k1_20 k12_230 rfl rfl (by decide +kernel) ⟨(Nat.le_of_ble_eq_true rfl), (Nat.le_of_ble_eq_true rfl)⟩) (zPreV hh hK hP hD [0, 2] (by decide) rfl (ci := 19) rfl 0 rfl) rfl rfl hl.1 rfl (lv_room (Nat.le_of_ble_eq_true rfl)) d_MW_add_37 ⟨(Nat.le_of_ble_eq_true rfl), (Nat.le_of_ble_eq_true rfl)⟩) (fun r1 u1 H1 locs1 e1 hP1 hD1 hS1 => ?_)
    clear hP hD hS
    refine W.cs (cells' := 0) (slots' := 0) rfl rfl ?_
    have x1 := e1
    rw [x1]
    replace hP1 : va_P D vwCl [(p1, .inr (19, f0_p1)), (p1_parts, .inl (tA 0, p1_parts_n, .inl p1_parts_c)), (h0, .inr (19, f_h0)), (h0_parts, .inl (tA 0, h0_parts_n, .inl h0_parts_c))] _ := hP1
    replace hD1 : va_D A [(p1, .inr (19, f0_p1)), (p1_parts, .inl (tA 0, p1_parts_n, .inl p1_parts_c)), (h0, .inr (19, f_h0)), (h0_parts, .inl (tA 0, h0_parts_n, .inl h0_parts_c))] := hD1
    refine lv_aload_n hx hb d_MW_add_40 rfl (lv_at hl 1 rfl) ?_
    refine lv_iload hx hb d_MW_add_41 (lv_at hl 4 rfl) ?_
    obtain ⟨o2, h2, hF⟩ := bsome hF
    refine zCalli (wc := [(p1, .inr (19, f0_p1)), (p1_parts, .inl (tA 0, p1_parts_n, .inl p1_parts_c))]) (wr := [(h0, .inr (19, f_h0)), (h0_parts, .inl (tA 0, h0_parts_n, .inl h0_parts_c))]) hP1 hD1 hS1 hA [0, 1] [2, 3] rfl rfl (by decide) (by decide) (va_runV (As := [.int l4]) (rest := [.int o1]) ⟨hx, hb, hml, hown, hg⟩ (m_MW_at l D tA _ p1 p1_parts f0_p1 p1_parts_n l4 p1_n p1_parts_c q_p1_parts q_p1_n o2 h2) (zV 1 hg k12_227 k12_229 ks_MW_at k1_20 k12_230 rfl rfl (by decide +kernel) ⟨(Nat.le_of_ble_eq_true rfl), (Nat.le_of_ble_eq_true rfl)⟩) (zPreV hh hK hP1 hD1 [0, 1] (by decide) rfl (ci := 19) rfl 0 rfl) rfl rfl hl.1 rfl (lv_room (Nat.le_of_ble_eq_true rfl)) d_MW_add_43 ⟨(Nat.le_of_ble_eq_true rfl), (Nat.le_of_ble_eq_true rfl)⟩) (fun r2 u2 H2 locs2 e2 hP2 hD2 hS2 => ?_)
    clear hP1 hD1 hS1
    refine W.cs (cells' := 0) (slots' := 0) rfl rfl ?_
    have x2 := e2
    rw [x2]
    replace hP2 : va_P D vwCl [(h0, .inr (19, f_h0)), (h0_parts, .inl (tA 0, h0_parts_n, .inl h0_parts_c)), (p1, .inr (19, f0_p1)), (p1_parts, .inl (tA 0, p1_parts_n, .inl p1_parts_c))] _ := hP2
    replace hD2 : va_D A [(h0, .inr (19, f_h0)), (h0_parts, .inl (tA 0, h0_parts_n, .inl h0_parts_c)), (p1, .inr (19, f0_p1)), (p1_parts, .inl (tA 0, p1_parts_n, .inl p1_parts_c))] := hD2
    refine lv_iadd hx hb d_MW_add_46 ?_
    refine lv_iload_n hx hb d_MW_add_47 rfl (lv_at hl 3 rfl) ?_
    refine lv_iadd hx hb d_MW_add_48 ?_
    refine lv_istore (lv' := [(5, .int ((o1 + o2) + l3)), (0, .ref h0), (1, .ref p1), (2, .int l2), (3, .int l3), (4, .int l4)]) hx hb d_MW_add_49 hl (by decide) rfl (fun ls hl => ?_)
    refine lv_aload_n hx hb d_MW_add_51 rfl (lv_at hl 1 rfl) ?_
    refine va_get (D := D) (ci := 19) (v := .ref h0_parts) (C := R_MW) (T := T_MW) (N := 2) hx hb hg i_MW hown hK hP2 0 rfl rfl 0 (by decide) (hg _ k9_134) (fun _ h9 => h9) q_h0_parts d_MW_add_52 ?_
    refine lv_iload hx hb d_MW_add_55 (lv_at hl 5 rfl) ?_
    refine lv_iload hx hb d_MW_add_57 (lv_at hl 0 rfl) ?_
    refine lv_ldc (v := 16777216) hx hb hown (hg _ k12_231) d_MW_add_59 ?_
    refine lv_irem hx hb d_MW_add_61 (by decide) ?_
    obtain ⟨h9, hF⟩ := chk_some hF
    refine va_iast hx hb hK hP2 hD2 hS2 1 0 rfl rfl (vp_in_iff.mpr h9) d_MW_add_62 (fun H3 locs3 hP3 hD3 hS3 => ?_)
    clear hP2 hD2 hS2
    replace hP3 : va_P D vwCl [(h0, .inr (19, f_h0)), (h0_parts, .inl (tA 0, h0_parts_n, .inl (upd h0_parts_c (l4 : Int32).toNatClampNeg (((o1 + o2) + l3) - ((o1 + o2) + l3) / 16777216 * 16777216)))), (p1, .inr (19, f0_p1)), (p1_parts, .inl (tA 0, p1_parts_n, .inl p1_parts_c))] _ := hP3
    replace hD3 : va_D A [(h0, .inr (19, f_h0)), (h0_parts, .inl (tA 0, h0_parts_n, .inl (upd h0_parts_c (l4 : Int32).toNatClampNeg (((o1 + o2) + l3) - ((o1 + o2) + l3) / 16777216 * 16777216)))), (p1, .inr (19, f0_p1)), (p1_parts, .inl (tA 0, p1_parts_n, .inl p1_parts_c))] := hD3
    refine lv_iload hx hb d_MW_add_63 (lv_at hl 0 rfl) ?_
    refine lv_ldc (v := 16777216) hx hb hown (hg _ k12_231) d_MW_add_65 ?_
    refine lv_idiv hx hb d_MW_add_67 (by decide) ?_
    refine lv_istore_n (lv' := [(3, .int (((o1 + o2) + l3) / 16777216)), (5, .int ((o1 + o2) + l3)), (0, .ref h0), (1, .ref p1), (2, .int l2), (4, .int l4)]) hx hb d_MW_add_68 rfl hl (by decide) rfl (fun ls hl => ?_)
    refine lv_iinc (v := (l4 + Int32.ofInt 1)) (lv' := [(4, .int (l4 + Int32.ofInt 1)), (3, .int (((o1 + o2) + l3) / 16777216)), (5, .int ((o1 + o2) + l3)), (0, .ref h0), (1, .ref p1), (2, .int l2)]) hx hb d_MW_add_69 hl (k := 5) rfl rfl (by decide) rfl (fun ls hl => ?_)
    refine lv_goto (tgt := 28) hx hb d_MW_add_72 (by decide) ?_
    exact ih1 h0_n (upd h0_parts_c (l4 : Int32).toNatClampNeg (((o1 + o2) + l3) - ((o1 + o2) + l3) / 16777216 * 16777216)) l2 (((o1 + o2) + l3) / 16777216) (l4 + Int32.ofInt 1)  f_h0 _ _ _ hF q_h0_parts q_h0_n r_h0 q_p1_parts q_p1_n (zPc hP3 [0, 2, 1, 3] rfl) (hD3.sub [0, 2, 1, 3] (by decide) rfl) hS3 (lv_sub hl [3, 4, 5, 1, 0] rfl)
set_option maxHeartbeats 4000000 in
set_option maxRecDepth 100000 in
theorem a_MW_add {p : Program} {l : Launch} {e : Env} {s : State} {m : MethodId} {args : Array Value} {below : List Frame} {meth : Method} {c : Code} {D : va_G} {tA : Nat → ClassId} {A : Nat → Prop} {h0 p1 h0_parts p1_parts : Nat} {f0_h0 f0_p1 : List Value} {h0_parts_n : Nat} {p1_parts_n : Nat} {p1_n : Int32} {p1_parts_c : Nat → Int32} {out : Int32 × (Nat → Int32)} (hx : p.tables.exec = Jvm.exec) (hb : c.code = prog_21_method_9_code) (hr : meth.sig.returnType = (Option.none : Option Jvm.ClassFile.FieldType)) (hml : c.maxLocals = 6) (hh : zH s) (hg : ∀ w ∈ lw_R, w.before args s = true) (hown : s.vm.findClass "ChanceArenaModel$Whole" = some m.cls) (hlocks : meth.locks = false) (hK : va_K D vwCl (zT tA) s) (hA : ∀ q, s.heap.size ≤ q → A q) : ∀ n : Nat, (∀ (h0_n : Int32) (h0_parts_c : Nat → Int32) (l2 : Int32) (l3 : Int32) (l4 : Int32) (f_h0 : List Value) (H : Heap) (locs : List Loc) (ls : Array Slot), f_MW_add h0_parts_n p1_parts_n p1_n p1_parts_c n 0 h0_n h0_parts_c l2 l3 l4 = some out → f_h0[0]? = some (.ref h0_parts) → f_h0[1]? = some (.int h0_n) → Fr [1] f0_h0 f_h0 → f0_p1[0]? = some (.ref p1_parts) → f0_p1[1]? = some (.int p1_n) → va_P D vwCl [(h0, .inr (19, f_h0)), (p1, .inr (19, f0_p1)), (h0_parts, .inl (tA 0, h0_parts_n, .inl h0_parts_c)), (p1_parts, .inl (tA 0, p1_parts_n, .inl p1_parts_c))] H → va_D A [(h0, .inr (19, f_h0)), (p1, .inr (19, f0_p1)), (h0_parts, .inl (tA 0, h0_parts_n, .inl h0_parts_c)), (p1_parts, .inl (tA 0, p1_parts_n, .inl p1_parts_c))] → va_S A s.heap H locs → lv_has ls 6 [(0, .ref h0), (1, .ref p1)] → W p l e { frames := 1, cells := 0, slots := 0, locals := 21 } s m args below meth c H locs 0 0 (MQ below (va_Qv (fun (u9 : List Value) => Fr [1] f0_h0 u9 ∧ u9[1]? = some (.int out.1)) (zPost D A (fun (u9 : List Value) => [(h0, .inr (19, u9)), (p1, .inr (19, f0_p1)), (h0_parts, .inl (tA 0, h0_parts_n, .inl out.2)), (p1_parts, .inl (tA 0, p1_parts_n, .inl p1_parts_c))])) A) args s 0 0 A) (F0 m 0 ls [])) ∧ (∀ (h0_n : Int32) (h0_parts_c : Nat → Int32) (l2 : Int32) (l3 : Int32) (l4 : Int32) (f_h0 : List Value) (H : Heap) (locs : List Loc) (ls : Array Slot), f_MW_add h0_parts_n p1_parts_n p1_n p1_parts_c n 1 h0_n h0_parts_c l2 l3 l4 = some out → f_h0[0]? = some (.ref h0_parts) → f_h0[1]? = some (.int h0_n) → Fr [1] f0_h0 f_h0 → f0_p1[0]? = some (.ref p1_parts) → f0_p1[1]? = some (.int p1_n) → va_P D vwCl [(h0, .inr (19, f_h0)), (p1, .inr (19, f0_p1)), (h0_parts, .inl (tA 0, h0_parts_n, .inl h0_parts_c)), (p1_parts, .inl (tA 0, p1_parts_n, .inl p1_parts_c))] H → va_D A [(h0, .inr (19, f_h0)), (p1, .inr (19, f0_p1)), (h0_parts, .inl (tA 0, h0_parts_n, .inl h0_parts_c)), (p1_parts, .inl (tA 0, p1_parts_n, .inl p1_parts_c))] → va_S A s.heap H locs → lv_has ls 6 [(0, .ref h0), (1, .ref p1), (2, .int l2), (3, .int l3), (4, .int l4)] → W p l e { frames := 1, cells := 0, slots := 0, locals := 21 } s m args below meth c H locs 0 0 (MQ below (va_Qv (fun (u9 : List Value) => Fr [1] f0_h0 u9 ∧ u9[1]? = some (.int out.1)) (zPost D A (fun (u9 : List Value) => [(h0, .inr (19, u9)), (p1, .inr (19, f0_p1)), (h0_parts, .inl (tA 0, h0_parts_n, .inl out.2)), (p1_parts, .inl (tA 0, p1_parts_n, .inl p1_parts_c))])) A) args s 0 0 A) (F0 m 28 ls [])) := by
  intro n
  induction n with
  | zero => exact ⟨(fun _ _ _ _ _ _ _ _ _ hF => by rw [z_MW_add] at hF; cases hF), (fun _ _ _ _ _ _ _ _ _ hF => by rw [z_MW_add] at hF; cases hF)⟩
  | succ n ih =>
    obtain ⟨i0, i1⟩ := ih
    exact ⟨b_MW_add_0 hx hb hr hml hh hg hown hlocks hK hA i1, b_MW_add_1 hx hb hr hml hh hg hown hlocks hK hA i1⟩
set_option maxHeartbeats 4000000 in
set_option maxRecDepth 100000 in
theorem m_MW_add (l : Launch) (D : va_G) (tA : Nat → ClassId) (sz : Nat) (h0 p1 h0_parts p1_parts : Nat) (f0_h0 f0_p1 : List Value) (h0_parts_n : Nat) (p1_parts_n : Nat) (p1_n : Int32) (p1_parts_c : Nat → Int32) (h0_n : Int32) (h0_parts_c : Nat → Int32) (q_h0_parts : f0_h0[0]? = some (.ref h0_parts)) (q_h0_n : f0_h0[1]? = some (.int h0_n)) (q_p1_parts : f0_p1[0]? = some (.ref p1_parts)) (q_p1_n : f0_p1[1]? = some (.int p1_n)) (n : Nat) (out : Int32 × (Nat → Int32)) (hF : f_MW_add h0_parts_n p1_parts_n p1_n p1_parts_c n 0 h0_n h0_parts_c 0 0 0 = some out) : zMv l ({ cls := "ChanceArenaModel$Whole", name := "add", desc := "(LChanceArenaModel$Whole;)V" } : Jvm.MethodName) (zW (Jvm.Cond.code ({ cls := "ChanceArenaModel$Whole", name := "add", desc := "(LChanceArenaModel$Whole;)V" } : Jvm.MethodName) prog_21_method_9_code (6 : Nat) (Option.none : Option Jvm.ClassFile.FieldType))) { frames := 1, cells := 0, slots := 0, locals := 21 } [.ref h0, .ref p1] D tA [(h0, .inr (19, f0_h0)), (p1, .inr (19, f0_p1)), (h0_parts, .inl (tA 0, h0_parts_n, .inl h0_parts_c)), (p1_parts, .inl (tA 0, p1_parts_n, .inl p1_parts_c))] sz (fun (u9 : List Value) => Fr [1] f0_h0 u9 ∧ u9[1]? = some (.int out.1)) (fun (u9 : List Value) => [(h0, .inr (19, u9)), (p1, .inr (19, f0_p1)), (h0_parts, .inl (tA 0, h0_parts_n, .inl out.2)), (p1_parts, .inl (tA 0, p1_parts_n, .inl p1_parts_c))]) 0 0 := by
  refine zOpen (l := l) (y := ({ cls := "ChanceArenaModel$Whole", name := "add", desc := "(LChanceArenaModel$Whole;)V" } : Jvm.MethodName)) (ws := zW (Jvm.Cond.code ({ cls := "ChanceArenaModel$Whole", name := "add", desc := "(LChanceArenaModel$Whole;)V" } : Jvm.MethodName) prog_21_method_9_code (6 : Nat) (Option.none : Option Jvm.ClassFile.FieldType))) (rm := { frames := 1, cells := 0, slots := 0, locals := 21 }) (av := [.ref h0, .ref p1]) (D := D) (tA := tA) (W0 := [(h0, .inr (19, f0_h0)), (p1, .inr (19, f0_p1)), (h0_parts, .inl (tA 0, h0_parts_n, .inl h0_parts_c)), (p1_parts, .inl (tA 0, p1_parts_n, .inl p1_parts_c))]) (Wm := [(h0, .inr (19, f0_h0)), (p1, .inr (19, f0_p1)), (h0_parts, .inl (tA 0, h0_parts_n, .inl h0_parts_c)), (p1_parts, .inl (tA 0, p1_parts_n, .inl p1_parts_c))]) (sz := sz) (mc := 0) (ms := 0) (fun A => va_Qv (fun (u9 : List Value) => Fr [1] f0_h0 u9 ∧ u9[1]? = some (.int out.1)) (zPost D A (fun (u9 : List Value) => [(h0, .inr (19, u9)), (p1, .inr (19, f0_p1)), (h0_parts, .inl (tA 0, h0_parts_n, .inl out.2)), (p1_parts, .inl (tA 0, p1_parts_n, .inl p1_parts_c))])) A) (lv := [(0, .ref h0), (1, .ref p1)]) (by decide) rfl (Nat.le_of_ble_eq_true rfl) rfl ?_
  intro p e s m below meth c A ls hx hb hr hml hh hg hown hlocks hnm hK hA hP hD0 hAw hS hl
  have hD := zD hD0 hAw
  exact (a_MW_add hx hb hr hml hh hg hown hlocks hK hA n).1 h0_n h0_parts_c 0 0 0  f0_h0 _ _ _ hF q_h0_parts q_h0_n Fr.rfl q_p1_parts q_p1_n hP hD hS hl
