theorem k1_1 : (Jvm.Cond.initialized "ChanceArena") ∈ lw_R := zR (zk_1 _ (List.mem_of_getElem? (i := 1) (by decide +kernel))) rfl
theorem k3_177 : (Jvm.Cond.fieldLink "ChanceArena" (137 : Nat) "ChanceArena$Fractions" "known" "Z") ∈ lw_R := zR (zk_3 _ (List.mem_of_getElem? (i := 177) (by decide +kernel))) rfl
theorem k5_136 : (Jvm.Cond.code ({ cls := "ChanceArena", name := "items", desc := "(I)I" } : Jvm.MethodName) prog_1_method_9_code (2 : Nat) (Option.some Jvm.ClassFile.FieldType.int)) ∈ lw_R := zR (zk_5 _ (List.mem_of_getElem? (i := 136) (by decide +kernel))) rfl
theorem k5_160 : (Jvm.Cond.code ({ cls := "ChanceArena", name := "command", desc := "(II)I" } : Jvm.MethodName) prog_1_method_16_code (4 : Nat) (Option.some Jvm.ClassFile.FieldType.int)) ∈ lw_R := zR (zk_5 _ (List.mem_of_getElem? (i := 160) (by decide +kernel))) rfl
theorem k5_161 : (Jvm.Cond.methodLink "ChanceArena" (180 : Nat) ({ cls := "ChanceArena$Game", name := "commandAt", desc := "(II)I" } : Jvm.MethodName)) ∈ lw_R := zR (zk_5 _ (List.mem_of_getElem? (i := 161) (by decide +kernel))) rfl
theorem k5_162 : (Jvm.Cond.instanceMethod ({ cls := "ChanceArena$Game", name := "commandAt", desc := "(II)I" } : Jvm.MethodName)) ∈ lw_R := zR (zk_5 _ (List.mem_of_getElem? (i := 162) (by decide +kernel))) rfl
theorem k5_163 : (Jvm.Cond.selects "ChanceArena$Game" ({ cls := "ChanceArena$Game", name := "commandAt", desc := "(II)I" } : Jvm.MethodName) ({ cls := "ChanceArena$Game", name := "commandAt", desc := "(II)I" } : Jvm.MethodName)) ∈ lw_R := zR (zk_5 _ (List.mem_of_getElem? (i := 163) (by decide +kernel))) rfl
theorem k5_169 : (Jvm.Cond.code ({ cls := "ChanceArena", name := "branches", desc := "(II)I" } : Jvm.MethodName) prog_1_method_17_code (4 : Nat) (Option.some Jvm.ClassFile.FieldType.int)) ∈ lw_R := zR (zk_5 _ (List.mem_of_getElem? (i := 169) (by decide +kernel))) rfl
theorem k5_173 : (Jvm.Cond.code ({ cls := "ChanceArena", name := "branch", desc := "(IIII)I" } : Jvm.MethodName) prog_1_method_18_code (8 : Nat) (Option.some Jvm.ClassFile.FieldType.int)) ∈ lw_R := zR (zk_5 _ (List.mem_of_getElem? (i := 173) (by decide +kernel))) rfl
theorem k5_178 : (Jvm.Cond.code ({ cls := "ChanceArena", name := "print", desc := "(II)I" } : Jvm.MethodName) prog_1_method_24_code (4 : Nat) (Option.some Jvm.ClassFile.FieldType.int)) ∈ lw_R := zR (zk_5 _ (List.mem_of_getElem? (i := 178) (by decide +kernel))) rfl
theorem k5_179 : (Jvm.Cond.methodLink "ChanceArena" (237 : Nat) ({ cls := "ChanceArena", name := "fractionOf", desc := "(II)LChanceArena$Fraction;" } : Jvm.MethodName)) ∈ lw_R := zR (zk_5 _ (List.mem_of_getElem? (i := 179) (by decide +kernel))) rfl
theorem k5_181 : (Jvm.Cond.instanceMethod ({ cls := "ChanceArena", name := "fractionOf", desc := "(II)LChanceArena$Fraction;" } : Jvm.MethodName)) ∈ lw_R := zR (zk_5 _ (List.mem_of_getElem? (i := 181) (by decide +kernel))) rfl
theorem k5_182 : (Jvm.Cond.code ({ cls := "ChanceArena", name := "fractionOf", desc := "(II)LChanceArena$Fraction;" } : Jvm.MethodName) prog_1_method_25_code (4 : Nat) (Option.some (Jvm.ClassFile.FieldType.object "ChanceArena$Fraction"))) ∈ lw_R := zR (zk_5 _ (List.mem_of_getElem? (i := 182) (by decide +kernel))) rfl
theorem k7_107 : (Jvm.Cond.code ({ cls := "ChanceArena", name := "character", desc := "(I)I" } : Jvm.MethodName) prog_1_method_27_code (2 : Nat) (Option.some Jvm.ClassFile.FieldType.int)) ∈ lw_R := zR (zk_7 _ (List.mem_of_getElem? (i := 107) (by decide +kernel))) rfl
theorem k7_111 : (Jvm.Cond.code ({ cls := "ChanceArena", name := "compare", desc := "(IIII)I" } : Jvm.MethodName) prog_1_method_28_code (7 : Nat) (Option.some Jvm.ClassFile.FieldType.int)) ∈ lw_R := zR (zk_7 _ (List.mem_of_getElem? (i := 111) (by decide +kernel))) rfl
theorem k7_123 : (Jvm.Cond.code ({ cls := "ChanceArena", name := "billionths", desc := "(II)I" } : Jvm.MethodName) prog_1_method_29_code (4 : Nat) (Option.some Jvm.ClassFile.FieldType.int)) ∈ lw_R := zR (zk_7 _ (List.mem_of_getElem? (i := 123) (by decide +kernel))) rfl
theorem k7_132 : (Jvm.Cond.code ({ cls := "ChanceArena", name := "choice", desc := "(I)I" } : Jvm.MethodName) prog_1_method_30_code (2 : Nat) (Option.some Jvm.ClassFile.FieldType.int)) ∈ lw_R := zR (zk_7 _ (List.mem_of_getElem? (i := 132) (by decide +kernel))) rfl
theorem k7_136 : (Jvm.Cond.code ({ cls := "ChanceArena", name := "rank", desc := "(I)I" } : Jvm.MethodName) prog_1_method_31_code (2 : Nat) (Option.some Jvm.ClassFile.FieldType.int)) ∈ lw_R := zR (zk_7 _ (List.mem_of_getElem? (i := 136) (by decide +kernel))) rfl
theorem k7_140 : (Jvm.Cond.code ({ cls := "ChanceArena", name := "next", desc := "(II)I" } : Jvm.MethodName) prog_1_method_32_code (4 : Nat) (Option.some Jvm.ClassFile.FieldType.int)) ∈ lw_R := zR (zk_7 _ (List.mem_of_getElem? (i := 140) (by decide +kernel))) rfl
theorem k7_148 : (Jvm.Cond.code ({ cls := "ChanceArena", name := "check", desc := "()I" } : Jvm.MethodName) prog_1_method_33_code (1 : Nat) (Option.some Jvm.ClassFile.FieldType.int)) ∈ lw_R := zR (zk_7 _ (List.mem_of_getElem? (i := 148) (by decide +kernel))) rfl
theorem d_CA_command_0 : decode prog_1_method_16_code 0 = .ok (.aload_n 0, 1) := dc9_42 (by decide +kernel)
theorem d_CA_command_1 : decode prog_1_method_16_code 1 = .ok (.getfield 54, 3) := dc9_180 (by decide +kernel)
theorem d_CA_command_4 : decode prog_1_method_16_code 4 = .ok (.iload_n 1, 1) := dc9_27 (by decide +kernel)
theorem d_CA_command_5 : decode prog_1_method_16_code 5 = .ok (.iload_n 2, 1) := dc9_28 (by decide +kernel)
theorem d_CA_command_6 : decode prog_1_method_16_code 6 = .ok (.invokevirtual 180, 3) := dc9_182 (by decide +kernel)
theorem d_CA_command_9 : decode prog_1_method_16_code 9 = .ok (.istore_n 3, 1) := dc9_62 (by decide +kernel)
theorem d_CA_command_10 : decode prog_1_method_16_code 10 = .ok (.iload_n 3, 1) := dc9_29 (by decide +kernel)
theorem d_CA_command_11 : decode prog_1_method_16_code 11 = .ok (.iconst (-1), 1) := dc9_2 (by decide +kernel)
theorem d_CA_command_12 : decode prog_1_method_16_code 12 = .ok (.if_icmp .ne 7, 3) := dc9_160 (by decide +kernel)
theorem d_CA_command_15 : decode prog_1_method_16_code 15 = .ok (.iconst (-1), 1) := dc9_2 (by decide +kernel)
theorem d_CA_command_16 : decode prog_1_method_16_code 16 = .ok (.goto 12, 3) := dc9_167 (by decide +kernel)
theorem d_CA_command_28 : decode prog_1_method_16_code 28 = .ok (.ireturn, 1) := dc9_172 (by decide +kernel)
theorem d_CA_branches_0 : decode prog_1_method_17_code 0 = .ok (.aload_n 0, 1) := dc9_42 (by decide +kernel)
theorem d_CA_branches_1 : decode prog_1_method_17_code 1 = .ok (.getfield 54, 3) := dc9_180 (by decide +kernel)
theorem d_CA_branches_4 : decode prog_1_method_17_code 4 = .ok (.iload_n 1, 1) := dc9_27 (by decide +kernel)
theorem d_CA_branches_5 : decode prog_1_method_17_code 5 = .ok (.iload_n 2, 1) := dc9_28 (by decide +kernel)
theorem d_CA_branches_6 : decode prog_1_method_17_code 6 = .ok (.invokevirtual 180, 3) := dc9_182 (by decide +kernel)
theorem d_CA_branches_9 : decode prog_1_method_17_code 9 = .ok (.istore_n 3, 1) := dc9_62 (by decide +kernel)
theorem d_CA_branches_10 : decode prog_1_method_17_code 10 = .ok (.iload_n 3, 1) := dc9_29 (by decide +kernel)
theorem d_CA_branches_11 : decode prog_1_method_17_code 11 = .ok (.iconst (-1), 1) := dc9_2 (by decide +kernel)
theorem d_CA_branches_12 : decode prog_1_method_17_code 12 = .ok (.if_icmp .ne 7, 3) := dc9_160 (by decide +kernel)
theorem d_CA_branches_15 : decode prog_1_method_17_code 15 = .ok (.iconst (-1), 1) := dc9_2 (by decide +kernel)
theorem d_CA_branches_16 : decode prog_1_method_17_code 16 = .ok (.goto 24, 3) := dc9_167 (by decide +kernel)
theorem d_CA_branches_40 : decode prog_1_method_17_code 40 = .ok (.ireturn, 1) := dc9_172 (by decide +kernel)
theorem d_CA_branch_0 : decode prog_1_method_18_code 0 = .ok (.aload_n 0, 1) := dc9_42 (by decide +kernel)
theorem d_CA_branch_1 : decode prog_1_method_18_code 1 = .ok (.getfield 54, 3) := dc9_180 (by decide +kernel)
theorem d_CA_branch_4 : decode prog_1_method_18_code 4 = .ok (.iload_n 1, 1) := dc9_27 (by decide +kernel)
theorem d_CA_branch_5 : decode prog_1_method_18_code 5 = .ok (.iload_n 2, 1) := dc9_28 (by decide +kernel)
theorem d_CA_branch_6 : decode prog_1_method_18_code 6 = .ok (.invokevirtual 180, 3) := dc9_182 (by decide +kernel)
theorem d_CA_branch_9 : decode prog_1_method_18_code 9 = .ok (.istore 5, 2) := dc9_54 (by decide +kernel)
theorem d_CA_branch_11 : decode prog_1_method_18_code 11 = .ok (.iload 5, 2) := dc9_21 (by decide +kernel)
theorem d_CA_branch_13 : decode prog_1_method_18_code 13 = .ok (.iconst (-1), 1) := dc9_2 (by decide +kernel)
theorem d_CA_branch_14 : decode prog_1_method_18_code 14 = .ok (.if_icmp .eq 34, 3) := dc9_159 (by decide +kernel)
theorem d_CA_branch_48 : decode prog_1_method_18_code 48 = .ok (.iconst (-1), 1) := dc9_2 (by decide +kernel)
theorem d_CA_branch_49 : decode prog_1_method_18_code 49 = .ok (.ireturn, 1) := dc9_172 (by decide +kernel)
theorem d_CA_next_0 : decode prog_1_method_32_code 0 = .ok (.aload_n 0, 1) := dc9_42 (by decide +kernel)
theorem d_CA_next_1 : decode prog_1_method_32_code 1 = .ok (.getfield 54, 3) := dc9_180 (by decide +kernel)
theorem d_CA_next_4 : decode prog_1_method_32_code 4 = .ok (.iload_n 1, 1) := dc9_27 (by decide +kernel)
theorem d_CA_next_5 : decode prog_1_method_32_code 5 = .ok (.invokevirtual 163, 3) := dc9_182 (by decide +kernel)
theorem d_CA_next_8 : decode prog_1_method_32_code 8 = .ok (.ifCond .eq 7, 3) := dc9_153 (by decide +kernel)
theorem d_CA_next_15 : decode prog_1_method_32_code 15 = .ok (.iconst (-1), 1) := dc9_2 (by decide +kernel)
theorem d_CA_next_16 : decode prog_1_method_32_code 16 = .ok (.ireturn, 1) := dc9_172 (by decide +kernel)
theorem d_CA_choice_0 : decode prog_1_method_30_code 0 = .ok (.aload_n 0, 1) := dc9_42 (by decide +kernel)
theorem d_CA_choice_1 : decode prog_1_method_30_code 1 = .ok (.getfield 70, 3) := dc9_180 (by decide +kernel)
theorem d_CA_choice_4 : decode prog_1_method_30_code 4 = .ok (.getfield 137, 3) := dc9_180 (by decide +kernel)
theorem d_CA_choice_7 : decode prog_1_method_30_code 7 = .ok (.ifCond .eq 26, 3) := dc9_153 (by decide +kernel)
theorem d_CA_choice_33 : decode prog_1_method_30_code 33 = .ok (.iconst (-1), 1) := dc9_2 (by decide +kernel)
theorem d_CA_choice_34 : decode prog_1_method_30_code 34 = .ok (.ireturn, 1) := dc9_172 (by decide +kernel)
theorem d_CA_rank_0 : decode prog_1_method_31_code 0 = .ok (.aload_n 0, 1) := dc9_42 (by decide +kernel)
theorem d_CA_rank_1 : decode prog_1_method_31_code 1 = .ok (.getfield 70, 3) := dc9_180 (by decide +kernel)
theorem d_CA_rank_4 : decode prog_1_method_31_code 4 = .ok (.getfield 137, 3) := dc9_180 (by decide +kernel)
theorem d_CA_rank_7 : decode prog_1_method_31_code 7 = .ok (.ifCond .eq 26, 3) := dc9_153 (by decide +kernel)
theorem d_CA_rank_33 : decode prog_1_method_31_code 33 = .ok (.iconst (-1), 1) := dc9_2 (by decide +kernel)
theorem d_CA_rank_34 : decode prog_1_method_31_code 34 = .ok (.ireturn, 1) := dc9_172 (by decide +kernel)
theorem d_CA_check_0 : decode prog_1_method_33_code 0 = .ok (.aload_n 0, 1) := dc9_42 (by decide +kernel)
theorem d_CA_check_1 : decode prog_1_method_33_code 1 = .ok (.getfield 70, 3) := dc9_180 (by decide +kernel)
theorem d_CA_check_4 : decode prog_1_method_33_code 4 = .ok (.getfield 137, 3) := dc9_180 (by decide +kernel)
theorem d_CA_check_7 : decode prog_1_method_33_code 7 = .ok (.ifCond .ne 5, 3) := dc9_154 (by decide +kernel)
theorem d_CA_check_10 : decode prog_1_method_33_code 10 = .ok (.iconst (-1), 1) := dc9_2 (by decide +kernel)
theorem d_CA_check_11 : decode prog_1_method_33_code 11 = .ok (.ireturn, 1) := dc9_172 (by decide +kernel)
theorem d_CA_items_0 : decode prog_1_method_9_code 0 = .ok (.aload_n 0, 1) := dc9_42 (by decide +kernel)
theorem d_CA_items_1 : decode prog_1_method_9_code 1 = .ok (.getfield 41, 3) := dc9_180 (by decide +kernel)
theorem d_CA_items_4 : decode prog_1_method_9_code 4 = .ok (.ifCond .ne 5, 3) := dc9_154 (by decide +kernel)
theorem d_CA_items_7 : decode prog_1_method_9_code 7 = .ok (.iconst (-1), 1) := dc9_2 (by decide +kernel)
theorem d_CA_items_8 : decode prog_1_method_9_code 8 = .ok (.ireturn, 1) := dc9_172 (by decide +kernel)
theorem d_CA_character_0 : decode prog_1_method_27_code 0 = .ok (.iload_n 1, 1) := dc9_27 (by decide +kernel)
theorem d_CA_character_1 : decode prog_1_method_27_code 1 = .ok (.ifCond .lt 11, 3) := dc9_155 (by decide +kernel)
theorem d_CA_character_12 : decode prog_1_method_27_code 12 = .ok (.iconst (-1), 1) := dc9_2 (by decide +kernel)
theorem d_CA_character_13 : decode prog_1_method_27_code 13 = .ok (.goto 9, 3) := dc9_167 (by decide +kernel)
theorem d_CA_character_22 : decode prog_1_method_27_code 22 = .ok (.ireturn, 1) := dc9_172 (by decide +kernel)
theorem d_CA_character_4 : decode prog_1_method_27_code 4 = .ok (.iload_n 1, 1) := dc9_27 (by decide +kernel)
theorem d_CA_character_5 : decode prog_1_method_27_code 5 = .ok (.aload_n 0, 1) := dc9_42 (by decide +kernel)
theorem d_CA_character_6 : decode prog_1_method_27_code 6 = .ok (.getfield 100, 3) := dc9_180 (by decide +kernel)
theorem d_CA_character_9 : decode prog_1_method_27_code 9 = .ok (.if_icmp .lt 7, 3) := dc9_161 (by decide +kernel)
theorem d_CA_character_16 : decode prog_1_method_27_code 16 = .ok (.aload_n 0, 1) := dc9_42 (by decide +kernel)
theorem d_CA_character_17 : decode prog_1_method_27_code 17 = .ok (.getfield 97, 3) := dc9_180 (by decide +kernel)
theorem d_CA_character_20 : decode prog_1_method_27_code 20 = .ok (.iload_n 1, 1) := dc9_27 (by decide +kernel)
theorem d_CA_character_21 : decode prog_1_method_27_code 21 = .ok (.caload, 1) := dc9_52 (by decide +kernel)
theorem d_CA_fractionOf_0 : decode prog_1_method_25_code 0 = .ok (.iload_n 2, 1) := dc9_28 (by decide +kernel)
theorem d_CA_fractionOf_1 : decode prog_1_method_25_code 1 = .ok (.ifCond .ne 10, 3) := dc9_154 (by decide +kernel)
theorem d_CA_fractionOf_11 : decode prog_1_method_25_code 11 = .ok (.iload_n 2, 1) := dc9_28 (by decide +kernel)
theorem d_CA_fractionOf_12 : decode prog_1_method_25_code 12 = .ok (.iconst 1, 1) := dc9_4 (by decide +kernel)
theorem d_CA_fractionOf_13 : decode prog_1_method_25_code 13 = .ok (.if_icmp .ne 10, 3) := dc9_160 (by decide +kernel)
theorem d_CA_fractionOf_23 : decode prog_1_method_25_code 23 = .ok (.iload_n 2, 1) := dc9_28 (by decide +kernel)
theorem d_CA_fractionOf_24 : decode prog_1_method_25_code 24 = .ok (.iconst 2, 1) := dc9_5 (by decide +kernel)
theorem d_CA_fractionOf_25 : decode prog_1_method_25_code 25 = .ok (.if_icmp .ne 10, 3) := dc9_160 (by decide +kernel)
theorem d_CA_fractionOf_35 : decode prog_1_method_25_code 35 = .ok (.aconst_null, 1) := dc9_1 (by decide +kernel)
theorem d_CA_fractionOf_36 : decode prog_1_method_25_code 36 = .ok (.astore_n 3, 1) := dc9_78 (by decide +kernel)
theorem d_CA_fractionOf_37 : decode prog_1_method_25_code 37 = .ok (.aload_n 3, 1) := dc9_45 (by decide +kernel)
theorem d_CA_fractionOf_38 : decode prog_1_method_25_code 38 = .ok (.ifnull 21, 3) := dc9_198 (by decide +kernel)
theorem d_CA_fractionOf_59 : decode prog_1_method_25_code 59 = .ok (.aconst_null, 1) := dc9_1 (by decide +kernel)
theorem d_CA_fractionOf_60 : decode prog_1_method_25_code 60 = .ok (.goto 9, 3) := dc9_167 (by decide +kernel)
theorem d_CA_fractionOf_69 : decode prog_1_method_25_code 69 = .ok (.areturn, 1) := dc9_176 (by decide +kernel)
theorem d_CA_fractionOf_28 : decode prog_1_method_25_code 28 = .ok (.aload_n 0, 1) := dc9_42 (by decide +kernel)
theorem d_CA_fractionOf_29 : decode prog_1_method_25_code 29 = .ok (.getfield 80, 3) := dc9_180 (by decide +kernel)
theorem d_CA_fractionOf_32 : decode prog_1_method_25_code 32 = .ok (.goto 4, 3) := dc9_167 (by decide +kernel)
theorem d_CA_fractionOf_41 : decode prog_1_method_25_code 41 = .ok (.aload_n 3, 1) := dc9_45 (by decide +kernel)
theorem d_CA_fractionOf_42 : decode prog_1_method_25_code 42 = .ok (.getfield 137, 3) := dc9_180 (by decide +kernel)
theorem d_CA_fractionOf_45 : decode prog_1_method_25_code 45 = .ok (.ifCond .eq 14, 3) := dc9_153 (by decide +kernel)
theorem d_CA_fractionOf_16 : decode prog_1_method_25_code 16 = .ok (.aload_n 0, 1) := dc9_42 (by decide +kernel)
theorem d_CA_fractionOf_17 : decode prog_1_method_25_code 17 = .ok (.getfield 74, 3) := dc9_180 (by decide +kernel)
theorem d_CA_fractionOf_20 : decode prog_1_method_25_code 20 = .ok (.goto 16, 3) := dc9_167 (by decide +kernel)
theorem d_CA_fractionOf_4 : decode prog_1_method_25_code 4 = .ok (.aload_n 0, 1) := dc9_42 (by decide +kernel)
theorem d_CA_fractionOf_5 : decode prog_1_method_25_code 5 = .ok (.getfield 70, 3) := dc9_180 (by decide +kernel)
theorem d_CA_fractionOf_8 : decode prog_1_method_25_code 8 = .ok (.goto 28, 3) := dc9_167 (by decide +kernel)
theorem d_CA_print_0 : decode prog_1_method_24_code 0 = .ok (.aload_n 0, 1) := dc9_42 (by decide +kernel)
theorem d_CA_print_1 : decode prog_1_method_24_code 1 = .ok (.iload_n 1, 1) := dc9_27 (by decide +kernel)
theorem d_CA_print_2 : decode prog_1_method_24_code 2 = .ok (.iload_n 2, 1) := dc9_28 (by decide +kernel)
theorem d_CA_print_3 : decode prog_1_method_24_code 3 = .ok (.invokevirtual 237, 3) := dc9_182 (by decide +kernel)
theorem ks_CA_fractionOf : Cond.selects "ChanceArena" ({ cls := "ChanceArena", name := "fractionOf", desc := "(II)LChanceArena$Fraction;" } : Jvm.MethodName) ({ cls := "ChanceArena", name := "fractionOf", desc := "(II)LChanceArena$Fraction;" } : Jvm.MethodName) ∈ lw_R := zR (List.mem_append_left _ (List.mem_of_getElem? (i := 42) (by decide +kernel))) rfl
theorem d_CA_print_6 : decode prog_1_method_24_code 6 = .ok (.astore_n 3, 1) := dc9_78 (by decide +kernel)
theorem d_CA_print_7 : decode prog_1_method_24_code 7 = .ok (.aload_n 3, 1) := dc9_45 (by decide +kernel)
theorem d_CA_print_8 : decode prog_1_method_24_code 8 = .ok (.ifnonnull 5, 3) := dc9_199 (by decide +kernel)
theorem d_CA_print_11 : decode prog_1_method_24_code 11 = .ok (.iconst (-1), 1) := dc9_2 (by decide +kernel)
theorem d_CA_print_12 : decode prog_1_method_24_code 12 = .ok (.ireturn, 1) := dc9_172 (by decide +kernel)
theorem d_CA_billionths_0 : decode prog_1_method_29_code 0 = .ok (.aload_n 0, 1) := dc9_42 (by decide +kernel)
theorem d_CA_billionths_1 : decode prog_1_method_29_code 1 = .ok (.iload_n 1, 1) := dc9_27 (by decide +kernel)
theorem d_CA_billionths_2 : decode prog_1_method_29_code 2 = .ok (.iload_n 2, 1) := dc9_28 (by decide +kernel)
theorem d_CA_billionths_3 : decode prog_1_method_29_code 3 = .ok (.invokevirtual 237, 3) := dc9_182 (by decide +kernel)
theorem d_CA_billionths_6 : decode prog_1_method_29_code 6 = .ok (.astore_n 3, 1) := dc9_78 (by decide +kernel)
theorem d_CA_billionths_7 : decode prog_1_method_29_code 7 = .ok (.aload_n 3, 1) := dc9_45 (by decide +kernel)
theorem d_CA_billionths_8 : decode prog_1_method_29_code 8 = .ok (.ifnonnull 5, 3) := dc9_199 (by decide +kernel)
theorem d_CA_billionths_11 : decode prog_1_method_29_code 11 = .ok (.iconst (-1), 1) := dc9_2 (by decide +kernel)
theorem d_CA_billionths_12 : decode prog_1_method_29_code 12 = .ok (.ireturn, 1) := dc9_172 (by decide +kernel)
theorem d_CA_compare_0 : decode prog_1_method_28_code 0 = .ok (.aload_n 0, 1) := dc9_42 (by decide +kernel)
theorem d_CA_compare_1 : decode prog_1_method_28_code 1 = .ok (.iload_n 1, 1) := dc9_27 (by decide +kernel)
theorem d_CA_compare_2 : decode prog_1_method_28_code 2 = .ok (.iload_n 2, 1) := dc9_28 (by decide +kernel)
theorem d_CA_compare_3 : decode prog_1_method_28_code 3 = .ok (.invokevirtual 237, 3) := dc9_182 (by decide +kernel)
theorem d_CA_compare_6 : decode prog_1_method_28_code 6 = .ok (.astore 5, 2) := dc9_58 (by decide +kernel)
theorem d_CA_compare_8 : decode prog_1_method_28_code 8 = .ok (.aload_n 0, 1) := dc9_42 (by decide +kernel)
theorem d_CA_compare_9 : decode prog_1_method_28_code 9 = .ok (.iload_n 3, 1) := dc9_29 (by decide +kernel)
theorem d_CA_compare_10 : decode prog_1_method_28_code 10 = .ok (.iload 4, 2) := dc9_21 (by decide +kernel)
theorem d_CA_compare_12 : decode prog_1_method_28_code 12 = .ok (.invokevirtual 237, 3) := dc9_182 (by decide +kernel)
theorem d_CA_compare_15 : decode prog_1_method_28_code 15 = .ok (.astore 6, 2) := dc9_58 (by decide +kernel)
theorem d_CA_compare_17 : decode prog_1_method_28_code 17 = .ok (.aload 5, 2) := dc9_25 (by decide +kernel)
theorem d_CA_compare_19 : decode prog_1_method_28_code 19 = .ok (.ifnull 8, 3) := dc9_198 (by decide +kernel)
theorem d_CA_compare_27 : decode prog_1_method_28_code 27 = .ok (.bipush (-2), 2) := dc9_16 (by decide +kernel)
theorem d_CA_compare_29 : decode prog_1_method_28_code 29 = .ok (.goto 17, 3) := dc9_167 (by decide +kernel)
theorem d_CA_compare_46 : decode prog_1_method_28_code 46 = .ok (.ireturn, 1) := dc9_172 (by decide +kernel)
/-- a reader that answers a reference or null -/
abbrev zMq (l : Launch) (y : MethodName) (ws : List Cond) (rm : Room) (av : List Value) (D : va_G) (tA : Nat → ClassId) (W0 : va_W) (sz : Nat) (post : Option Nat → Prop) : Prop :=
  Met l y ws rm (va_Pc av (zPre D tA W0 sz)) (va_Qq (fun r (_ : Unit) => post r) (fun _ _ => True) (va_A [] sz)) 0 0 (va_A [] sz)
theorem zCalln {p : Program} {l : Launch} {e : Env} {R : Room} {s : State} {m : MethodId} {args : Array Value} {below : List Frame} {meth : Method} {c : Code} {H : Heap} {locs : List Loc} {cells slots : Nat} {Q : State → Prop} {D : va_G} {A : Nat → Prop} {ws : va_W} {a : Array Value} {pc : Nat} {ls : Array Slot} {rest st0 : List Value}
    (hP : va_P D vwCl ws H) (hS : va_S A s.heap H locs) (hA : ∀ q, s.heap.size ≤ q → A q)
    (hr : va_Run p l e R s m args below meth c H locs cells slots 0 0 (F0 m pc ls st0) rest (va_Qq (fun r (_ : Unit) => r = none) (fun _ _ => True) (va_A [] H.size) a) (va_A [] H.size))
    (kk : ∀ (H1 : Heap) (locs1 : List Loc), va_P D vwCl ws H1 → va_S A s.heap H1 locs1 → W p l e R s m args below meth c H1 locs1 cells slots Q (F0 m (pc + 3) ls (.null :: rest))) :
    W p l e R s m args below meth c H locs cells slots Q (F0 m pc ls st0) := by
  have hn : ∀ q : Nat, va_A [] H.size q → H.size ≤ q := fun q h => h.elim (fun ⟨k, e9, h9⟩ => by simp at h9) id
  have hFc : ∀ q, va_A [] H.size q → A q := fun q h => hA q (Nat.le_trans hS.1 (hn q h))
  refine va_callq hr hS (fun q _ h => hFc q h) hFc (fun r u t H1 locs1 ht hvm hw hB hz1 hk1 hS1 => ?_)
  subst hw
  exact kk H1 locs1 (hP.kept (fun k q hq => hk1 q.1 (va_at.lt (hP k q hq)) (fun h => absurd (hn q.1 h) (Nat.not_le.mpr (va_at.lt (hP k q hq)))))) hS1
theorem zNo {k : Int32} (h : 0 ≤ k ∧ k < nI 0) : False := absurd h.2 (Int32.not_lt.mpr h.1)
theorem zHS0 {r k : Int32} (h : r = if 0 ≤ k ∧ k < nI 0 then 1 else 0) : r = 0 := by rw [h, if_neg (fun h => zNo h)]
theorem zCA0 {r k : Int32} {P : Prop} [Decidable P] {x : Int32} (h : r = if (0 ≤ k ∧ k < nI 0) ∧ P then x else -1) : r = -1 := by rw [h, if_neg (fun h => zNo h.1)]
set_option maxHeartbeats 4000000 in
set_option maxRecDepth 100000 in
theorem c_CA_command_0 (l : Launch) (D : va_G) (tA : Nat → ClassId) (sz : Nat) (h0 g0 : Nat) (fs gs : List Value) (hgm : fs[9]? = some (.ref g0)) (hv : gs[0]? = some (.int (nI 0))) (fa : Nat) (ff : Nat → Int32) (hf : gs[4]? = some (.ref fa)) (k i : Int32) : zMp l ({ cls := "ChanceArena", name := "command", desc := "(II)I" } : Jvm.MethodName) (zW (Jvm.Cond.code ({ cls := "ChanceArena", name := "command", desc := "(II)I" } : Jvm.MethodName) prog_1_method_16_code (4 : Nat) (Option.some Jvm.ClassFile.FieldType.int))) { frames := 2, cells := 0, slots := 0, locals := 44 } [.ref h0, .int k, .int i] D tA [(h0, .inr (0, fs)), (g0, .inr (6, gs)), (fa, .inl (tA 0, 513, .inl ff))] sz (fun r => r = -1) := by
  refine zOpen (Wm := []) (fun A => va_Qi (fun r (_ : Unit) => (fun r => r = -1) r) (fun _ _ => True) A) (lv := [(0, .ref h0), (1, .int k), (2, .int i)]) (by decide) rfl (Nat.le_of_ble_eq_true rfl) rfl ?_
  intro p e s m below meth c A ls hx hb hr hml hh hg hown hlocks hnm hK hA hP hD0 hAw hS hl
  refine lv_aload_n hx hb d_CA_command_0 rfl (lv_at hl 0 rfl) ?_
  refine va_get (D := D) (ci := 0) (v := .ref g0) (C := R_CA) (T := T_CA) (N := 19) hx hb hg i_CA hown hK hP 0 rfl rfl 9 (by decide) (hg _ k3_196) (fun _ h9 => h9) hgm d_CA_command_1 ?_
  refine lv_iload_n hx hb d_CA_command_4 rfl (lv_at hl 1 rfl) ?_
  refine lv_iload_n hx hb d_CA_command_5 rfl (lv_at hl 2 rfl) ?_
  refine zCallp hP hS hA (va_runV (As := [.int k, .int i]) (rest := []) ⟨hx, hb, hml, hown, hg⟩ (c_Ga_commandAt l D tA _ g0 fa gs 0 k i ff (by decide) hv hf) (zV 2 hg k5_161 k5_162 k5_163 k1_7 k5_164 rfl rfl (by decide +kernel) ⟨(Nat.le_of_ble_eq_true rfl), (Nat.le_of_ble_eq_true rfl)⟩) (zPreV hh hK hP hD0 [1, 2] (by decide) rfl (ci := 6) rfl 0 rfl) rfl rfl hl.1 rfl (lv_room (Nat.le_of_ble_eq_true rfl)) d_CA_command_6 ⟨(Nat.le_of_ble_eq_true rfl), (Nat.le_of_ble_eq_true rfl)⟩) (fun r6 H locs er6 hP hS => ?_)
  refine lv_istore_n (lv' := [(3, .int r6), (0, .ref h0), (1, .int k), (2, .int i)]) hx hb d_CA_command_9 rfl hl (by decide) rfl (fun ls hl => ?_)
  refine lv_iload_n hx hb d_CA_command_10 rfl (lv_at hl 0 rfl) ?_
  refine lv_iconst (v := (-1)) hx hb d_CA_command_11 (by decide) ?_
  refine lv_icmp_ne (tgt := 19) hx hb d_CA_command_12 (by decide) (fun c12 => absurd (zCA0 er6) c12) (fun c12 => ?_)
  refine lv_iconst (v := (-1)) hx hb d_CA_command_15 (by decide) ?_
  refine lv_goto (tgt := 28) hx hb d_CA_command_16 (by decide) ?_
  exact zPret (post := fun r => r = -1) (v := (-1)) hx hb hr rfl hlocks hS (rfl) d_CA_command_28
set_option maxHeartbeats 4000000 in
set_option maxRecDepth 100000 in
theorem c_CA_branches_0 (l : Launch) (D : va_G) (tA : Nat → ClassId) (sz : Nat) (h0 g0 : Nat) (fs gs : List Value) (hgm : fs[9]? = some (.ref g0)) (hv : gs[0]? = some (.int (nI 0))) (fa : Nat) (ff : Nat → Int32) (hf : gs[4]? = some (.ref fa)) (k i : Int32) : zMp l ({ cls := "ChanceArena", name := "branches", desc := "(II)I" } : Jvm.MethodName) (zW (Jvm.Cond.code ({ cls := "ChanceArena", name := "branches", desc := "(II)I" } : Jvm.MethodName) prog_1_method_17_code (4 : Nat) (Option.some Jvm.ClassFile.FieldType.int))) { frames := 2, cells := 0, slots := 0, locals := 44 } [.ref h0, .int k, .int i] D tA [(h0, .inr (0, fs)), (g0, .inr (6, gs)), (fa, .inl (tA 0, 513, .inl ff))] sz (fun r => r = -1) := by
  refine zOpen (Wm := []) (fun A => va_Qi (fun r (_ : Unit) => (fun r => r = -1) r) (fun _ _ => True) A) (lv := [(0, .ref h0), (1, .int k), (2, .int i)]) (by decide) rfl (Nat.le_of_ble_eq_true rfl) rfl ?_
  intro p e s m below meth c A ls hx hb hr hml hh hg hown hlocks hnm hK hA hP hD0 hAw hS hl
  refine lv_aload_n hx hb d_CA_branches_0 rfl (lv_at hl 0 rfl) ?_
  refine va_get (D := D) (ci := 0) (v := .ref g0) (C := R_CA) (T := T_CA) (N := 19) hx hb hg i_CA hown hK hP 0 rfl rfl 9 (by decide) (hg _ k3_196) (fun _ h9 => h9) hgm d_CA_branches_1 ?_
  refine lv_iload_n hx hb d_CA_branches_4 rfl (lv_at hl 1 rfl) ?_
  refine lv_iload_n hx hb d_CA_branches_5 rfl (lv_at hl 2 rfl) ?_
  refine zCallp hP hS hA (va_runV (As := [.int k, .int i]) (rest := []) ⟨hx, hb, hml, hown, hg⟩ (c_Ga_commandAt l D tA _ g0 fa gs 0 k i ff (by decide) hv hf) (zV 2 hg k5_161 k5_162 k5_163 k1_7 k5_164 rfl rfl (by decide +kernel) ⟨(Nat.le_of_ble_eq_true rfl), (Nat.le_of_ble_eq_true rfl)⟩) (zPreV hh hK hP hD0 [1, 2] (by decide) rfl (ci := 6) rfl 0 rfl) rfl rfl hl.1 rfl (lv_room (Nat.le_of_ble_eq_true rfl)) d_CA_branches_6 ⟨(Nat.le_of_ble_eq_true rfl), (Nat.le_of_ble_eq_true rfl)⟩) (fun r6 H locs er6 hP hS => ?_)
  refine lv_istore_n (lv' := [(3, .int r6), (0, .ref h0), (1, .int k), (2, .int i)]) hx hb d_CA_branches_9 rfl hl (by decide) rfl (fun ls hl => ?_)
  refine lv_iload_n hx hb d_CA_branches_10 rfl (lv_at hl 0 rfl) ?_
  refine lv_iconst (v := (-1)) hx hb d_CA_branches_11 (by decide) ?_
  refine lv_icmp_ne (tgt := 19) hx hb d_CA_branches_12 (by decide) (fun c12 => absurd (zCA0 er6) c12) (fun c12 => ?_)
  refine lv_iconst (v := (-1)) hx hb d_CA_branches_15 (by decide) ?_
  refine lv_goto (tgt := 40) hx hb d_CA_branches_16 (by decide) ?_
  exact zPret (post := fun r => r = -1) (v := (-1)) hx hb hr rfl hlocks hS (rfl) d_CA_branches_40
set_option maxHeartbeats 4000000 in
set_option maxRecDepth 100000 in
theorem c_CA_branch_0 (l : Launch) (D : va_G) (tA : Nat → ClassId) (sz : Nat) (h0 g0 : Nat) (fs gs : List Value) (hgm : fs[9]? = some (.ref g0)) (hv : gs[0]? = some (.int (nI 0))) (fa : Nat) (ff : Nat → Int32) (hf : gs[4]? = some (.ref fa)) (k i j w : Int32) : zMp l ({ cls := "ChanceArena", name := "branch", desc := "(IIII)I" } : Jvm.MethodName) (zW (Jvm.Cond.code ({ cls := "ChanceArena", name := "branch", desc := "(IIII)I" } : Jvm.MethodName) prog_1_method_18_code (8 : Nat) (Option.some Jvm.ClassFile.FieldType.int))) { frames := 2, cells := 0, slots := 0, locals := 44 } [.ref h0, .int k, .int i, .int j, .int w] D tA [(h0, .inr (0, fs)), (g0, .inr (6, gs)), (fa, .inl (tA 0, 513, .inl ff))] sz (fun r => r = -1) := by
  refine zOpen (Wm := []) (fun A => va_Qi (fun r (_ : Unit) => (fun r => r = -1) r) (fun _ _ => True) A) (lv := [(0, .ref h0), (1, .int k), (2, .int i), (3, .int j), (4, .int w)]) (by decide) rfl (Nat.le_of_ble_eq_true rfl) rfl ?_
  intro p e s m below meth c A ls hx hb hr hml hh hg hown hlocks hnm hK hA hP hD0 hAw hS hl
  refine lv_aload_n hx hb d_CA_branch_0 rfl (lv_at hl 0 rfl) ?_
  refine va_get (D := D) (ci := 0) (v := .ref g0) (C := R_CA) (T := T_CA) (N := 19) hx hb hg i_CA hown hK hP 0 rfl rfl 9 (by decide) (hg _ k3_196) (fun _ h9 => h9) hgm d_CA_branch_1 ?_
  refine lv_iload_n hx hb d_CA_branch_4 rfl (lv_at hl 1 rfl) ?_
  refine lv_iload_n hx hb d_CA_branch_5 rfl (lv_at hl 2 rfl) ?_
  refine zCallp hP hS hA (va_runV (As := [.int k, .int i]) (rest := []) ⟨hx, hb, hml, hown, hg⟩ (c_Ga_commandAt l D tA _ g0 fa gs 0 k i ff (by decide) hv hf) (zV 2 hg k5_161 k5_162 k5_163 k1_7 k5_164 rfl rfl (by decide +kernel) ⟨(Nat.le_of_ble_eq_true rfl), (Nat.le_of_ble_eq_true rfl)⟩) (zPreV hh hK hP hD0 [1, 2] (by decide) rfl (ci := 6) rfl 0 rfl) rfl rfl hl.1 rfl (lv_room (Nat.le_of_ble_eq_true rfl)) d_CA_branch_6 ⟨(Nat.le_of_ble_eq_true rfl), (Nat.le_of_ble_eq_true rfl)⟩) (fun r6 H locs er6 hP hS => ?_)
  refine lv_istore (lv' := [(5, .int r6), (0, .ref h0), (1, .int k), (2, .int i), (3, .int j), (4, .int w)]) hx hb d_CA_branch_9 hl (by decide) rfl (fun ls hl => ?_)
  refine lv_iload hx hb d_CA_branch_11 (lv_at hl 0 rfl) ?_
  refine lv_iconst (v := (-1)) hx hb d_CA_branch_13 (by decide) ?_
  refine lv_icmp_eq (tgt := 48) hx hb d_CA_branch_14 (by decide) (fun c14 => ?_) (fun c14 => absurd (zCA0 er6) c14)
  refine lv_iconst (v := (-1)) hx hb d_CA_branch_48 (by decide) ?_
  exact zPret (post := fun r => r = -1) (v := (-1)) hx hb hr rfl hlocks hS (rfl) d_CA_branch_49
set_option maxHeartbeats 4000000 in
set_option maxRecDepth 100000 in
theorem c_CA_next_0 (l : Launch) (D : va_G) (tA : Nat → ClassId) (sz : Nat) (h0 g0 : Nat) (fs gs : List Value) (hgm : fs[9]? = some (.ref g0)) (hv : gs[0]? = some (.int (nI 0))) (k d : Int32) : zMp l ({ cls := "ChanceArena", name := "next", desc := "(II)I" } : Jvm.MethodName) (zW (Jvm.Cond.code ({ cls := "ChanceArena", name := "next", desc := "(II)I" } : Jvm.MethodName) prog_1_method_32_code (4 : Nat) (Option.some Jvm.ClassFile.FieldType.int))) { frames := 1, cells := 0, slots := 0, locals := 22 } [.ref h0, .int k, .int d] D tA [(h0, .inr (0, fs)), (g0, .inr (6, gs))] sz (fun r => r = -1) := by
  refine zOpen (Wm := []) (fun A => va_Qi (fun r (_ : Unit) => (fun r => r = -1) r) (fun _ _ => True) A) (lv := [(0, .ref h0), (1, .int k), (2, .int d)]) (by decide) rfl (Nat.le_of_ble_eq_true rfl) rfl ?_
  intro p e s m below meth c A ls hx hb hr hml hh hg hown hlocks hnm hK hA hP hD0 hAw hS hl
  refine lv_aload_n hx hb d_CA_next_0 rfl (lv_at hl 0 rfl) ?_
  refine va_get (D := D) (ci := 0) (v := .ref g0) (C := R_CA) (T := T_CA) (N := 19) hx hb hg i_CA hown hK hP 0 rfl rfl 9 (by decide) (hg _ k3_196) (fun _ h9 => h9) hgm d_CA_next_1 ?_
  refine lv_iload_n hx hb d_CA_next_4 rfl (lv_at hl 1 rfl) ?_
  refine zCallp hP hS hA (va_runV (As := [.int k]) (rest := []) ⟨hx, hb, hml, hown, hg⟩ (c_Ga_hasState l D tA _ g0 gs (nI 0) k hv) (zV 1 hg k5_149 k5_150 k5_151 k1_7 k5_152 rfl rfl (by decide +kernel) ⟨(Nat.le_of_ble_eq_true rfl), (Nat.le_of_ble_eq_true rfl)⟩) (zPreV hh hK hP hD0 [1] (by decide) rfl (ci := 6) rfl 0 rfl) rfl rfl hl.1 rfl (lv_room (Nat.le_of_ble_eq_true rfl)) d_CA_next_5 ⟨(Nat.le_of_ble_eq_true rfl), (Nat.le_of_ble_eq_true rfl)⟩) (fun r5 H locs er5 hP hS => ?_)
  refine lv_if_eq (tgt := 15) hx hb d_CA_next_8 (by decide) (fun c8 => ?_) (fun c8 => absurd (zHS0 er5) c8)
  refine lv_iconst (v := (-1)) hx hb d_CA_next_15 (by decide) ?_
  exact zPret (post := fun r => r = -1) (v := (-1)) hx hb hr rfl hlocks hS (rfl) d_CA_next_16
set_option maxHeartbeats 4000000 in
set_option maxRecDepth 100000 in
theorem c_CA_choice_0 (l : Launch) (D : va_G) (tA : Nat → ClassId) (sz : Nat) (h0 : Nat) (fs : List Value) (v0 : Nat) (vs : List Value) (hvl : fs[11]? = some (.ref v0)) (hkv : vs[1]? = some (.int 0)) (k : Int32) : zMp l ({ cls := "ChanceArena", name := "choice", desc := "(I)I" } : Jvm.MethodName) (zW (Jvm.Cond.code ({ cls := "ChanceArena", name := "choice", desc := "(I)I" } : Jvm.MethodName) prog_1_method_30_code (2 : Nat) (Option.some Jvm.ClassFile.FieldType.int))) { frames := 0, cells := 0, slots := 0, locals := 0 } [.ref h0, .int k] D tA [(h0, .inr (0, fs)), (v0, .inr (12, vs))] sz (fun r => r = -1) := by
  refine zOpen (Wm := []) (fun A => va_Qi (fun r (_ : Unit) => (fun r => r = -1) r) (fun _ _ => True) A) (lv := [(0, .ref h0), (1, .int k)]) (by decide) rfl (Nat.le_of_ble_eq_true rfl) rfl ?_
  intro p e s m below meth c A ls hx hb hr hml hh hg hown hlocks hnm hK hA hP hD0 hAw hS hl
  refine lv_aload_n hx hb d_CA_choice_0 rfl (lv_at hl 0 rfl) ?_
  refine va_get (D := D) (ci := 0) (v := .ref v0) (C := R_CA) (T := T_CA) (N := 19) hx hb hg i_CA hown hK hP 0 rfl rfl 11 (by decide) (hg _ k3_198) (fun _ h9 => h9) hvl d_CA_choice_1 ?_
  refine va_get (D := D) (ci := 12) (v := .int 0) (C := R_Fs) (T := T_Fs) (N := 2) hx hb hg i_Fs hown hK hP 1 rfl rfl 1 (by decide) (hg _ k3_177) (fun _ h9 => h9) hkv d_CA_choice_4 ?_
  refine lv_if_eq (tgt := 33) hx hb d_CA_choice_7 (by decide) (fun c7 => ?_) (fun c7 => absurd rfl c7)
  refine lv_iconst (v := (-1)) hx hb d_CA_choice_33 (by decide) ?_
  exact zPret (post := fun r => r = -1) (v := (-1)) hx hb hr rfl hlocks hS (rfl) d_CA_choice_34
set_option maxHeartbeats 4000000 in
set_option maxRecDepth 100000 in
theorem c_CA_rank_0 (l : Launch) (D : va_G) (tA : Nat → ClassId) (sz : Nat) (h0 : Nat) (fs : List Value) (v0 : Nat) (vs : List Value) (hvl : fs[11]? = some (.ref v0)) (hkv : vs[1]? = some (.int 0)) (k : Int32) : zMp l ({ cls := "ChanceArena", name := "rank", desc := "(I)I" } : Jvm.MethodName) (zW (Jvm.Cond.code ({ cls := "ChanceArena", name := "rank", desc := "(I)I" } : Jvm.MethodName) prog_1_method_31_code (2 : Nat) (Option.some Jvm.ClassFile.FieldType.int))) { frames := 0, cells := 0, slots := 0, locals := 0 } [.ref h0, .int k] D tA [(h0, .inr (0, fs)), (v0, .inr (12, vs))] sz (fun r => r = -1) := by
  refine zOpen (Wm := []) (fun A => va_Qi (fun r (_ : Unit) => (fun r => r = -1) r) (fun _ _ => True) A) (lv := [(0, .ref h0), (1, .int k)]) (by decide) rfl (Nat.le_of_ble_eq_true rfl) rfl ?_
  intro p e s m below meth c A ls hx hb hr hml hh hg hown hlocks hnm hK hA hP hD0 hAw hS hl
  refine lv_aload_n hx hb d_CA_rank_0 rfl (lv_at hl 0 rfl) ?_
  refine va_get (D := D) (ci := 0) (v := .ref v0) (C := R_CA) (T := T_CA) (N := 19) hx hb hg i_CA hown hK hP 0 rfl rfl 11 (by decide) (hg _ k3_198) (fun _ h9 => h9) hvl d_CA_rank_1 ?_
  refine va_get (D := D) (ci := 12) (v := .int 0) (C := R_Fs) (T := T_Fs) (N := 2) hx hb hg i_Fs hown hK hP 1 rfl rfl 1 (by decide) (hg _ k3_177) (fun _ h9 => h9) hkv d_CA_rank_4 ?_
  refine lv_if_eq (tgt := 33) hx hb d_CA_rank_7 (by decide) (fun c7 => ?_) (fun c7 => absurd rfl c7)
  refine lv_iconst (v := (-1)) hx hb d_CA_rank_33 (by decide) ?_
  exact zPret (post := fun r => r = -1) (v := (-1)) hx hb hr rfl hlocks hS (rfl) d_CA_rank_34
set_option maxHeartbeats 4000000 in
set_option maxRecDepth 100000 in
theorem c_CA_check_0 (l : Launch) (D : va_G) (tA : Nat → ClassId) (sz : Nat) (h0 : Nat) (fs : List Value) (v0 : Nat) (vs : List Value) (hvl : fs[11]? = some (.ref v0)) (hkv : vs[1]? = some (.int 0)) : zMp l ({ cls := "ChanceArena", name := "check", desc := "()I" } : Jvm.MethodName) (zW (Jvm.Cond.code ({ cls := "ChanceArena", name := "check", desc := "()I" } : Jvm.MethodName) prog_1_method_33_code (1 : Nat) (Option.some Jvm.ClassFile.FieldType.int))) { frames := 0, cells := 0, slots := 0, locals := 0 } [.ref h0] D tA [(h0, .inr (0, fs)), (v0, .inr (12, vs))] sz (fun r => r = -1) := by
  refine zOpen (Wm := []) (fun A => va_Qi (fun r (_ : Unit) => (fun r => r = -1) r) (fun _ _ => True) A) (lv := [(0, .ref h0)]) (by decide) rfl (Nat.le_of_ble_eq_true rfl) rfl ?_
  intro p e s m below meth c A ls hx hb hr hml hh hg hown hlocks hnm hK hA hP hD0 hAw hS hl
  refine lv_aload_n hx hb d_CA_check_0 rfl (lv_at hl 0 rfl) ?_
  refine va_get (D := D) (ci := 0) (v := .ref v0) (C := R_CA) (T := T_CA) (N := 19) hx hb hg i_CA hown hK hP 0 rfl rfl 11 (by decide) (hg _ k3_198) (fun _ h9 => h9) hvl d_CA_check_1 ?_
  refine va_get (D := D) (ci := 12) (v := .int 0) (C := R_Fs) (T := T_Fs) (N := 2) hx hb hg i_Fs hown hK hP 1 rfl rfl 1 (by decide) (hg _ k3_177) (fun _ h9 => h9) hkv d_CA_check_4 ?_
  refine lv_if_ne (tgt := 12) hx hb d_CA_check_7 (by decide) (fun c7 => absurd rfl c7) (fun c7 => ?_)
  refine lv_iconst (v := (-1)) hx hb d_CA_check_10 (by decide) ?_
  exact zPret (post := fun r => r = -1) (v := (-1)) hx hb hr rfl hlocks hS (rfl) d_CA_check_11
set_option maxHeartbeats 4000000 in
set_option maxRecDepth 100000 in
theorem c_CA_items_0 (l : Launch) (D : va_G) (tA : Nat → ClassId) (sz : Nat) (h0 : Nat) (fs : List Value) (w : Int32) (ht : fs[6]? = some (.int 0)) : zMp l ({ cls := "ChanceArena", name := "items", desc := "(I)I" } : Jvm.MethodName) (zW (Jvm.Cond.code ({ cls := "ChanceArena", name := "items", desc := "(I)I" } : Jvm.MethodName) prog_1_method_9_code (2 : Nat) (Option.some Jvm.ClassFile.FieldType.int))) { frames := 0, cells := 0, slots := 0, locals := 0 } [.ref h0, .int w] D tA [(h0, .inr (0, fs))] sz (fun r => r = -1) := by
  refine zOpen (Wm := []) (fun A => va_Qi (fun r (_ : Unit) => (fun r => r = -1) r) (fun _ _ => True) A) (lv := [(0, .ref h0), (1, .int w)]) (by decide) rfl (Nat.le_of_ble_eq_true rfl) rfl ?_
  intro p e s m below meth c A ls hx hb hr hml hh hg hown hlocks hnm hK hA hP hD0 hAw hS hl
  refine lv_aload_n hx hb d_CA_items_0 rfl (lv_at hl 0 rfl) ?_
  refine va_get (D := D) (ci := 0) (v := .int 0) (C := R_CA) (T := T_CA) (N := 19) hx hb hg i_CA hown hK hP 0 rfl rfl 6 (by decide) (hg _ k3_193) (fun _ h9 => h9) ht d_CA_items_1 ?_
  refine lv_if_ne (tgt := 9) hx hb d_CA_items_4 (by decide) (fun c4 => absurd rfl c4) (fun c4 => ?_)
  refine lv_iconst (v := (-1)) hx hb d_CA_items_7 (by decide) ?_
  exact zPret (post := fun r => r = -1) (v := (-1)) hx hb hr rfl hlocks hS (rfl) d_CA_items_8
set_option maxHeartbeats 4000000 in
set_option maxRecDepth 100000 in
theorem c_CA_character (l : Launch) (D : va_G) (tA : Nat → ClassId) (sz : Nat) (h0 pa : Nat) (fs : List Value) (n : Nat) (i : Int32) (ff : Nat → Int32) (hn : n ≤ 400) (hl0 : fs[18]? = some (.int (nI n))) (hp0 : fs[17]? = some (.ref pa)) : zMp l ({ cls := "ChanceArena", name := "character", desc := "(I)I" } : Jvm.MethodName) (zW (Jvm.Cond.code ({ cls := "ChanceArena", name := "character", desc := "(I)I" } : Jvm.MethodName) prog_1_method_27_code (2 : Nat) (Option.some Jvm.ClassFile.FieldType.int))) { frames := 0, cells := 0, slots := 0, locals := 0 } [.ref h0, .int i] D tA [(h0, .inr (0, fs)), (pa, .inl (tA 2, 400, .inl ff))] sz (fun r => r = if 0 ≤ i ∧ i < nI n then ff i.toNatClampNeg else -1) := by
  refine zOpen (Wm := []) (fun A => va_Qi (fun r (_ : Unit) => (fun r => r = if 0 ≤ i ∧ i < nI n then ff i.toNatClampNeg else -1) r) (fun _ _ => True) A) (lv := [(0, .ref h0), (1, .int i)]) (by decide) rfl (Nat.le_of_ble_eq_true rfl) rfl ?_
  intro p e s m below meth c A ls hx hb hr hml hh hg hown hlocks hnm hK hA hP hD0 hAw hS hl
  refine lv_iload_n hx hb d_CA_character_0 rfl (lv_at hl 1 rfl) ?_
  refine lv_if_lt (tgt := 12) hx hb d_CA_character_1 (by decide) (fun c1 => ?_) (fun c1 => ?_)
  · refine lv_iconst (v := (-1)) hx hb d_CA_character_12 (by decide) ?_
    refine lv_goto (tgt := 22) hx hb d_CA_character_13 (by decide) ?_
    exact zPret (post := fun r => r = if 0 ≤ i ∧ i < nI n then ff i.toNatClampNeg else -1) (v := (-1)) hx hb hr rfl hlocks hS ((if_neg (fun h => absurd c1 (Int32.not_lt.mpr h.1))).symm) d_CA_character_22
  · refine lv_iload_n hx hb d_CA_character_4 rfl (lv_at hl 1 rfl) ?_
    refine lv_aload_n hx hb d_CA_character_5 rfl (lv_at hl 0 rfl) ?_
    refine va_get (D := D) (ci := 0) (v := .int (nI n)) (C := R_CA) (T := T_CA) (N := 19) hx hb hg i_CA hown hK hP 0 rfl rfl 18 (by decide) (hg _ k3_205) (fun _ h9 => h9) hl0 d_CA_character_6 ?_
    refine lv_icmp_lt (tgt := 16) hx hb d_CA_character_9 (by decide) (fun c9 => ?_) (fun c9 => ?_)
    · refine lv_aload_n hx hb d_CA_character_16 rfl (lv_at hl 0 rfl) ?_
      refine va_get (D := D) (ci := 0) (v := .ref pa) (C := R_CA) (T := T_CA) (N := 19) hx hb hg i_CA hown hK hP 0 rfl rfl 17 (by decide) (hg _ k3_204) (fun _ h9 => h9) hp0 d_CA_character_17 ?_
      refine lv_iload_n hx hb d_CA_character_20 rfl (lv_at hl 1 rfl) ?_
      refine va_cald hx hb hK hP 1 2 rfl rfl ((zIx (n := n) ⟨Int32.not_lt.mp c1, c9⟩ hn (by decide)).choose_spec.2.2.1) d_CA_character_21 ?_
      exact zPret (post := fun r => r = if 0 ≤ i ∧ i < nI n then ff i.toNatClampNeg else -1) (v := (ff (i).toNatClampNeg)) hx hb hr rfl hlocks hS ((if_pos ⟨Int32.not_lt.mp c1, c9⟩).symm) d_CA_character_22
    · refine lv_iconst (v := (-1)) hx hb d_CA_character_12 (by decide) ?_
      refine lv_goto (tgt := 22) hx hb d_CA_character_13 (by decide) ?_
      exact zPret (post := fun r => r = if 0 ≤ i ∧ i < nI n then ff i.toNatClampNeg else -1) (v := (-1)) hx hb hr rfl hlocks hS ((if_neg (fun h => absurd h.2 c9)).symm) d_CA_character_22
set_option maxHeartbeats 4000000 in
set_option maxRecDepth 100000 in
theorem c_CA_fractionOf_0 (l : Launch) (D : va_G) (tA : Nat → ClassId) (sz : Nat) (h0 : Nat) (fs : List Value) (a0 : Nat) (as : List Value) (ha : fs[11]? = some (.ref a0)) (hka : as[1]? = some (.int 0)) (b0 : Nat) (bs : List Value) (hb9 : fs[12]? = some (.ref b0)) (hkb : bs[1]? = some (.int 0)) (c0 : Nat) (cs : List Value) (hc : fs[14]? = some (.ref c0)) (hkc : cs[1]? = some (.int 0)) (k w : Int32) : zMq l ({ cls := "ChanceArena", name := "fractionOf", desc := "(II)LChanceArena$Fraction;" } : Jvm.MethodName) (zW (Jvm.Cond.code ({ cls := "ChanceArena", name := "fractionOf", desc := "(II)LChanceArena$Fraction;" } : Jvm.MethodName) prog_1_method_25_code (4 : Nat) (Option.some (Jvm.ClassFile.FieldType.object "ChanceArena$Fraction")))) { frames := 0, cells := 0, slots := 0, locals := 0 } [.ref h0, .int k, .int w] D tA [(h0, .inr (0, fs)), (a0, .inr (12, as)), (b0, .inr (12, bs)), (c0, .inr (12, cs))] sz (fun r => r = none) := by
  refine zOpen (Wm := []) (fun A => va_Qq (fun r (_ : Unit) => (fun r => r = none) r) (fun _ _ => True) A) (lv := [(0, .ref h0), (1, .int k), (2, .int w)]) (by decide) rfl (Nat.le_of_ble_eq_true rfl) rfl ?_
  intro p e s m below meth c A ls hx hb hr hml hh hg hown hlocks hnm hK hA hP hD0 hAw hS hl
  refine lv_iload_n hx hb d_CA_fractionOf_0 rfl (lv_at hl 2 rfl) ?_
  refine lv_if_ne (tgt := 11) hx hb d_CA_fractionOf_1 (by decide) (fun c1 => ?_) (fun c1 => ?_)
  · refine lv_iload_n hx hb d_CA_fractionOf_11 rfl (lv_at hl 2 rfl) ?_
    refine lv_iconst (v := 1) hx hb d_CA_fractionOf_12 (by decide) ?_
    refine lv_icmp_ne (tgt := 23) hx hb d_CA_fractionOf_13 (by decide) (fun c13 => ?_) (fun c13 => ?_)
    · refine lv_iload_n hx hb d_CA_fractionOf_23 rfl (lv_at hl 2 rfl) ?_
      refine lv_iconst (v := 2) hx hb d_CA_fractionOf_24 (by decide) ?_
      refine lv_icmp_ne (tgt := 35) hx hb d_CA_fractionOf_25 (by decide) (fun c25 => ?_) (fun c25 => ?_)
      · refine lv_null hx hb d_CA_fractionOf_35 ?_
        refine lv_astore_nN (lv' := [(3, .null), (0, .ref h0), (1, .int k), (2, .int w)]) hx hb d_CA_fractionOf_36 rfl hl (by decide) rfl (fun ls hl => ?_)
        refine lv_aload_nN hx hb d_CA_fractionOf_37 rfl (lv_at hl 0 rfl) ?_
        refine lv_ifnullN (tgt := 59) hx hb d_CA_fractionOf_38 (by decide) ?_
        refine lv_null hx hb d_CA_fractionOf_59 ?_
        refine lv_goto (tgt := 69) hx hb d_CA_fractionOf_60 (by decide) ?_
        exact W.aret (v := .null) hx hb hr (Or.inl ⟨_, rfl⟩) (Or.inl rfl) (fun t ht hW => ⟨⟨none, (), rfl, rfl, trivial⟩, hS.F ht⟩) hS.2.2 d_CA_fractionOf_69
      · refine lv_aload_n hx hb d_CA_fractionOf_28 rfl (lv_at hl 0 rfl) ?_
        refine va_get (D := D) (ci := 0) (v := .ref c0) (C := R_CA) (T := T_CA) (N := 19) hx hb hg i_CA hown hK hP 0 rfl rfl 14 (by decide) (hg _ k3_201) (fun _ h9 => h9) hc d_CA_fractionOf_29 ?_
        refine lv_goto (tgt := 36) hx hb d_CA_fractionOf_32 (by decide) ?_
        refine lv_astore_n (lv' := [(3, .ref c0), (0, .ref h0), (1, .int k), (2, .int w)]) hx hb d_CA_fractionOf_36 rfl hl (by decide) rfl (fun ls hl => ?_)
        refine lv_aload_n hx hb d_CA_fractionOf_37 rfl (lv_at hl 0 rfl) ?_
        refine lv_ifnull hx hb d_CA_fractionOf_38 ?_
        refine lv_aload_n hx hb d_CA_fractionOf_41 rfl (lv_at hl 0 rfl) ?_
        refine va_get (D := D) (ci := 12) (v := .int 0) (C := R_Fs) (T := T_Fs) (N := 2) hx hb hg i_Fs hown hK hP 3 rfl rfl 1 (by decide) (hg _ k3_177) (fun _ h9 => h9) hkc d_CA_fractionOf_42 ?_
        refine lv_if_eq (tgt := 59) hx hb d_CA_fractionOf_45 (by decide) (fun c45 => ?_) (fun c45 => absurd rfl c45)
        refine lv_null hx hb d_CA_fractionOf_59 ?_
        refine lv_goto (tgt := 69) hx hb d_CA_fractionOf_60 (by decide) ?_
        exact W.aret (v := .null) hx hb hr (Or.inl ⟨_, rfl⟩) (Or.inl rfl) (fun t ht hW => ⟨⟨none, (), rfl, rfl, trivial⟩, hS.F ht⟩) hS.2.2 d_CA_fractionOf_69
    · refine lv_aload_n hx hb d_CA_fractionOf_16 rfl (lv_at hl 0 rfl) ?_
      refine va_get (D := D) (ci := 0) (v := .ref b0) (C := R_CA) (T := T_CA) (N := 19) hx hb hg i_CA hown hK hP 0 rfl rfl 12 (by decide) (hg _ k3_199) (fun _ h9 => h9) hb9 d_CA_fractionOf_17 ?_
      refine lv_goto (tgt := 36) hx hb d_CA_fractionOf_20 (by decide) ?_
      refine lv_astore_n (lv' := [(3, .ref b0), (0, .ref h0), (1, .int k), (2, .int w)]) hx hb d_CA_fractionOf_36 rfl hl (by decide) rfl (fun ls hl => ?_)
      refine lv_aload_n hx hb d_CA_fractionOf_37 rfl (lv_at hl 0 rfl) ?_
      refine lv_ifnull hx hb d_CA_fractionOf_38 ?_
      refine lv_aload_n hx hb d_CA_fractionOf_41 rfl (lv_at hl 0 rfl) ?_
      refine va_get (D := D) (ci := 12) (v := .int 0) (C := R_Fs) (T := T_Fs) (N := 2) hx hb hg i_Fs hown hK hP 2 rfl rfl 1 (by decide) (hg _ k3_177) (fun _ h9 => h9) hkb d_CA_fractionOf_42 ?_
      refine lv_if_eq (tgt := 59) hx hb d_CA_fractionOf_45 (by decide) (fun c45 => ?_) (fun c45 => absurd rfl c45)
      refine lv_null hx hb d_CA_fractionOf_59 ?_
      refine lv_goto (tgt := 69) hx hb d_CA_fractionOf_60 (by decide) ?_
      exact W.aret (v := .null) hx hb hr (Or.inl ⟨_, rfl⟩) (Or.inl rfl) (fun t ht hW => ⟨⟨none, (), rfl, rfl, trivial⟩, hS.F ht⟩) hS.2.2 d_CA_fractionOf_69
  · refine lv_aload_n hx hb d_CA_fractionOf_4 rfl (lv_at hl 0 rfl) ?_
    refine va_get (D := D) (ci := 0) (v := .ref a0) (C := R_CA) (T := T_CA) (N := 19) hx hb hg i_CA hown hK hP 0 rfl rfl 11 (by decide) (hg _ k3_198) (fun _ h9 => h9) ha d_CA_fractionOf_5 ?_
    refine lv_goto (tgt := 36) hx hb d_CA_fractionOf_8 (by decide) ?_
    refine lv_astore_n (lv' := [(3, .ref a0), (0, .ref h0), (1, .int k), (2, .int w)]) hx hb d_CA_fractionOf_36 rfl hl (by decide) rfl (fun ls hl => ?_)
    refine lv_aload_n hx hb d_CA_fractionOf_37 rfl (lv_at hl 0 rfl) ?_
    refine lv_ifnull hx hb d_CA_fractionOf_38 ?_
    refine lv_aload_n hx hb d_CA_fractionOf_41 rfl (lv_at hl 0 rfl) ?_
    refine va_get (D := D) (ci := 12) (v := .int 0) (C := R_Fs) (T := T_Fs) (N := 2) hx hb hg i_Fs hown hK hP 1 rfl rfl 1 (by decide) (hg _ k3_177) (fun _ h9 => h9) hka d_CA_fractionOf_42 ?_
    refine lv_if_eq (tgt := 59) hx hb d_CA_fractionOf_45 (by decide) (fun c45 => ?_) (fun c45 => absurd rfl c45)
    refine lv_null hx hb d_CA_fractionOf_59 ?_
    refine lv_goto (tgt := 69) hx hb d_CA_fractionOf_60 (by decide) ?_
    exact W.aret (v := .null) hx hb hr (Or.inl ⟨_, rfl⟩) (Or.inl rfl) (fun t ht hW => ⟨⟨none, (), rfl, rfl, trivial⟩, hS.F ht⟩) hS.2.2 d_CA_fractionOf_69
set_option maxHeartbeats 4000000 in
set_option maxRecDepth 100000 in
theorem c_CA_print_0 (l : Launch) (D : va_G) (tA : Nat → ClassId) (sz : Nat) (h0 : Nat) (fs : List Value) (a0 : Nat) (as : List Value) (ha : fs[11]? = some (.ref a0)) (hka : as[1]? = some (.int 0)) (b0 : Nat) (bs : List Value) (hb9 : fs[12]? = some (.ref b0)) (hkb : bs[1]? = some (.int 0)) (c0 : Nat) (cs : List Value) (hc : fs[14]? = some (.ref c0)) (hkc : cs[1]? = some (.int 0)) (k w : Int32) : zMp l ({ cls := "ChanceArena", name := "print", desc := "(II)I" } : Jvm.MethodName) (zW (Jvm.Cond.code ({ cls := "ChanceArena", name := "print", desc := "(II)I" } : Jvm.MethodName) prog_1_method_24_code (4 : Nat) (Option.some Jvm.ClassFile.FieldType.int))) { frames := 1, cells := 0, slots := 0, locals := 23 } [.ref h0, .int k, .int w] D tA [(h0, .inr (0, fs)), (a0, .inr (12, as)), (b0, .inr (12, bs)), (c0, .inr (12, cs))] sz (fun r => r = -1) := by
  refine zOpen (Wm := []) (fun A => va_Qi (fun r (_ : Unit) => (fun r => r = -1) r) (fun _ _ => True) A) (lv := [(0, .ref h0), (1, .int k), (2, .int w)]) (by decide) rfl (Nat.le_of_ble_eq_true rfl) rfl ?_
  intro p e s m below meth c A ls hx hb hr hml hh hg hown hlocks hnm hK hA hP hD0 hAw hS hl
  refine lv_aload_n hx hb d_CA_print_0 rfl (lv_at hl 0 rfl) ?_
  refine lv_iload_n hx hb d_CA_print_1 rfl (lv_at hl 1 rfl) ?_
  refine lv_iload_n hx hb d_CA_print_2 rfl (lv_at hl 2 rfl) ?_
  refine zCalln hP hS hA (va_runV (As := [.int k, .int w]) (rest := []) ⟨hx, hb, hml, hown, hg⟩ (c_CA_fractionOf_0 l D tA _ h0 fs a0 as ha hka b0 bs hb9 hkb c0 cs hc hkc k w) (zV 2 hg k5_179 k5_181 ks_CA_fractionOf k1_1 k5_182 rfl rfl (by decide +kernel) ⟨(Nat.le_of_ble_eq_true rfl), (Nat.le_of_ble_eq_true rfl)⟩) (zPreV hh hK hP hD0 [0, 1, 2, 3] (by decide) rfl (ci := 0) rfl 0 rfl) rfl rfl hl.1 rfl (lv_room (Nat.le_of_ble_eq_true rfl)) d_CA_print_3 ⟨(Nat.le_of_ble_eq_true rfl), (Nat.le_of_ble_eq_true rfl)⟩) (fun H locs hP hS => ?_)
  refine lv_astore_nN (lv' := [(3, .null), (0, .ref h0), (1, .int k), (2, .int w)]) hx hb d_CA_print_6 rfl hl (by decide) rfl (fun ls hl => ?_)
  refine lv_aload_nN hx hb d_CA_print_7 rfl (lv_at hl 0 rfl) ?_
  refine lv_ifnonnullN hx hb d_CA_print_8 ?_
  refine lv_iconst (v := (-1)) hx hb d_CA_print_11 (by decide) ?_
  exact zPret (post := fun r => r = -1) (v := (-1)) hx hb hr rfl hlocks hS (rfl) d_CA_print_12
set_option maxHeartbeats 4000000 in
set_option maxRecDepth 100000 in
theorem c_CA_billionths_0 (l : Launch) (D : va_G) (tA : Nat → ClassId) (sz : Nat) (h0 : Nat) (fs : List Value) (a0 : Nat) (as : List Value) (ha : fs[11]? = some (.ref a0)) (hka : as[1]? = some (.int 0)) (b0 : Nat) (bs : List Value) (hb9 : fs[12]? = some (.ref b0)) (hkb : bs[1]? = some (.int 0)) (c0 : Nat) (cs : List Value) (hc : fs[14]? = some (.ref c0)) (hkc : cs[1]? = some (.int 0)) (k w : Int32) : zMp l ({ cls := "ChanceArena", name := "billionths", desc := "(II)I" } : Jvm.MethodName) (zW (Jvm.Cond.code ({ cls := "ChanceArena", name := "billionths", desc := "(II)I" } : Jvm.MethodName) prog_1_method_29_code (4 : Nat) (Option.some Jvm.ClassFile.FieldType.int))) { frames := 1, cells := 0, slots := 0, locals := 23 } [.ref h0, .int k, .int w] D tA [(h0, .inr (0, fs)), (a0, .inr (12, as)), (b0, .inr (12, bs)), (c0, .inr (12, cs))] sz (fun r => r = -1) := by
  refine zOpen (Wm := []) (fun A => va_Qi (fun r (_ : Unit) => (fun r => r = -1) r) (fun _ _ => True) A) (lv := [(0, .ref h0), (1, .int k), (2, .int w)]) (by decide) rfl (Nat.le_of_ble_eq_true rfl) rfl ?_
  intro p e s m below meth c A ls hx hb hr hml hh hg hown hlocks hnm hK hA hP hD0 hAw hS hl
  refine lv_aload_n hx hb d_CA_billionths_0 rfl (lv_at hl 0 rfl) ?_
  refine lv_iload_n hx hb d_CA_billionths_1 rfl (lv_at hl 1 rfl) ?_
  refine lv_iload_n hx hb d_CA_billionths_2 rfl (lv_at hl 2 rfl) ?_
  refine zCalln hP hS hA (va_runV (As := [.int k, .int w]) (rest := []) ⟨hx, hb, hml, hown, hg⟩ (c_CA_fractionOf_0 l D tA _ h0 fs a0 as ha hka b0 bs hb9 hkb c0 cs hc hkc k w) (zV 2 hg k5_179 k5_181 ks_CA_fractionOf k1_1 k5_182 rfl rfl (by decide +kernel) ⟨(Nat.le_of_ble_eq_true rfl), (Nat.le_of_ble_eq_true rfl)⟩) (zPreV hh hK hP hD0 [0, 1, 2, 3] (by decide) rfl (ci := 0) rfl 0 rfl) rfl rfl hl.1 rfl (lv_room (Nat.le_of_ble_eq_true rfl)) d_CA_billionths_3 ⟨(Nat.le_of_ble_eq_true rfl), (Nat.le_of_ble_eq_true rfl)⟩) (fun H locs hP hS => ?_)
  refine lv_astore_nN (lv' := [(3, .null), (0, .ref h0), (1, .int k), (2, .int w)]) hx hb d_CA_billionths_6 rfl hl (by decide) rfl (fun ls hl => ?_)
  refine lv_aload_nN hx hb d_CA_billionths_7 rfl (lv_at hl 0 rfl) ?_
  refine lv_ifnonnullN hx hb d_CA_billionths_8 ?_
  refine lv_iconst (v := (-1)) hx hb d_CA_billionths_11 (by decide) ?_
  exact zPret (post := fun r => r = -1) (v := (-1)) hx hb hr rfl hlocks hS (rfl) d_CA_billionths_12
set_option maxHeartbeats 4000000 in
set_option maxRecDepth 100000 in
theorem c_CA_compare_0 (l : Launch) (D : va_G) (tA : Nat → ClassId) (sz : Nat) (h0 : Nat) (fs : List Value) (a0 : Nat) (as : List Value) (ha : fs[11]? = some (.ref a0)) (hka : as[1]? = some (.int 0)) (b0 : Nat) (bs : List Value) (hb9 : fs[12]? = some (.ref b0)) (hkb : bs[1]? = some (.int 0)) (c0 : Nat) (cs : List Value) (hc : fs[14]? = some (.ref c0)) (hkc : cs[1]? = some (.int 0)) (k w k2 w2 : Int32) : zMp l ({ cls := "ChanceArena", name := "compare", desc := "(IIII)I" } : Jvm.MethodName) (zW (Jvm.Cond.code ({ cls := "ChanceArena", name := "compare", desc := "(IIII)I" } : Jvm.MethodName) prog_1_method_28_code (7 : Nat) (Option.some Jvm.ClassFile.FieldType.int))) { frames := 1, cells := 0, slots := 0, locals := 23 } [.ref h0, .int k, .int w, .int k2, .int w2] D tA [(h0, .inr (0, fs)), (a0, .inr (12, as)), (b0, .inr (12, bs)), (c0, .inr (12, cs))] sz (fun r => r = -2) := by
  refine zOpen (Wm := []) (fun A => va_Qi (fun r (_ : Unit) => (fun r => r = -2) r) (fun _ _ => True) A) (lv := [(0, .ref h0), (1, .int k), (2, .int w), (3, .int k2), (4, .int w2)]) (by decide) rfl (Nat.le_of_ble_eq_true rfl) rfl ?_
  intro p e s m below meth c A ls hx hb hr hml hh hg hown hlocks hnm hK hA hP hD0 hAw hS hl
  refine lv_aload_n hx hb d_CA_compare_0 rfl (lv_at hl 0 rfl) ?_
  refine lv_iload_n hx hb d_CA_compare_1 rfl (lv_at hl 1 rfl) ?_
  refine lv_iload_n hx hb d_CA_compare_2 rfl (lv_at hl 2 rfl) ?_
  refine zCalln hP hS hA (va_runV (As := [.int k, .int w]) (rest := []) ⟨hx, hb, hml, hown, hg⟩ (c_CA_fractionOf_0 l D tA _ h0 fs a0 as ha hka b0 bs hb9 hkb c0 cs hc hkc k w) (zV 2 hg k5_179 k5_181 ks_CA_fractionOf k1_1 k5_182 rfl rfl (by decide +kernel) ⟨(Nat.le_of_ble_eq_true rfl), (Nat.le_of_ble_eq_true rfl)⟩) (zPreV hh hK hP hD0 [0, 1, 2, 3] (by decide) rfl (ci := 0) rfl 0 rfl) rfl rfl hl.1 rfl (lv_room (Nat.le_of_ble_eq_true rfl)) d_CA_compare_3 ⟨(Nat.le_of_ble_eq_true rfl), (Nat.le_of_ble_eq_true rfl)⟩) (fun H locs hP hS => ?_)
  refine lv_astoreN (lv' := [(5, .null), (0, .ref h0), (1, .int k), (2, .int w), (3, .int k2), (4, .int w2)]) hx hb d_CA_compare_6 hl (by decide) rfl (fun ls hl => ?_)
  refine lv_aload_n hx hb d_CA_compare_8 rfl (lv_at hl 1 rfl) ?_
  refine lv_iload_n hx hb d_CA_compare_9 rfl (lv_at hl 4 rfl) ?_
  refine lv_iload hx hb d_CA_compare_10 (lv_at hl 5 rfl) ?_
  refine zCalln hP hS hA (va_runV (As := [.int k2, .int w2]) (rest := []) ⟨hx, hb, hml, hown, hg⟩ (c_CA_fractionOf_0 l D tA _ h0 fs a0 as ha hka b0 bs hb9 hkb c0 cs hc hkc k2 w2) (zV 2 hg k5_179 k5_181 ks_CA_fractionOf k1_1 k5_182 rfl rfl (by decide +kernel) ⟨(Nat.le_of_ble_eq_true rfl), (Nat.le_of_ble_eq_true rfl)⟩) (zPreV hh hK hP hD0 [0, 1, 2, 3] (by decide) rfl (ci := 0) rfl 0 rfl) rfl rfl hl.1 rfl (lv_room (Nat.le_of_ble_eq_true rfl)) d_CA_compare_12 ⟨(Nat.le_of_ble_eq_true rfl), (Nat.le_of_ble_eq_true rfl)⟩) (fun H locs hP hS => ?_)
  refine lv_astoreN (lv' := [(6, .null), (5, .null), (0, .ref h0), (1, .int k), (2, .int w), (3, .int k2), (4, .int w2)]) hx hb d_CA_compare_15 hl (by decide) rfl (fun ls hl => ?_)
  refine lv_aloadN hx hb d_CA_compare_17 (lv_at hl 1 rfl) ?_
  refine lv_ifnullN (tgt := 27) hx hb d_CA_compare_19 (by decide) ?_
  refine lv_bipush (v := (-2)) hx hb d_CA_compare_27 (by decide) ?_
  refine lv_goto (tgt := 46) hx hb d_CA_compare_29 (by decide) ?_
  exact zPret (post := fun r => r = -2) (v := (-2)) hx hb hr rfl hlocks hS (rfl) d_CA_compare_46
