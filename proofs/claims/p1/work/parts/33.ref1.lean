theorem k1_14 : (Jvm.Cond.initialized "ChanceArenaModel") ∈ lw_R := zR (zk_1 _ (List.mem_of_getElem? (i := 14) (by decide +kernel))) rfl
theorem k12_88 : (Jvm.Cond.code ({ cls := "ChanceArenaModel", name := "explore", desc := "()I" } : Jvm.MethodName) prog_15_method_79_code (3 : Nat) (Option.some Jvm.ClassFile.FieldType.int)) ∈ lw_R := zR (zk_12 _ (List.mem_of_getElem? (i := 88) (by decide +kernel))) rfl
theorem k12_152 : (Jvm.Cond.code ({ cls := "ChanceArenaModel", name := "variable", desc := "(II)I" } : Jvm.MethodName) prog_15_method_89_code (3 : Nat) (Option.some Jvm.ClassFile.FieldType.int)) ∈ lw_R := zR (zk_12 _ (List.mem_of_getElem? (i := 152) (by decide +kernel))) rfl
theorem k12_156 : (Jvm.Cond.code ({ cls := "ChanceArenaModel", name := "kind", desc := "(I)I" } : Jvm.MethodName) prog_15_method_91_code (2 : Nat) (Option.some Jvm.ClassFile.FieldType.int)) ∈ lw_R := zR (zk_12 _ (List.mem_of_getElem? (i := 156) (by decide +kernel))) rfl
theorem k12_157 : (Jvm.Cond.methodLink "ChanceArenaModel" (569 : Nat) ({ cls := "ChanceArenaModel", name := "isState", desc := "(I)Z" } : Jvm.MethodName)) ∈ lw_R := zR (zk_12 _ (List.mem_of_getElem? (i := 157) (by decide +kernel))) rfl
theorem k12_159 : (Jvm.Cond.instanceMethod ({ cls := "ChanceArenaModel", name := "isState", desc := "(I)Z" } : Jvm.MethodName)) ∈ lw_R := zR (zk_12 _ (List.mem_of_getElem? (i := 159) (by decide +kernel))) rfl
theorem k12_164 : (Jvm.Cond.code ({ cls := "ChanceArenaModel", name := "commands", desc := "(I)I" } : Jvm.MethodName) prog_15_method_92_code (2 : Nat) (Option.some Jvm.ClassFile.FieldType.int)) ∈ lw_R := zR (zk_12 _ (List.mem_of_getElem? (i := 164) (by decide +kernel))) rfl
theorem k12_168 : (Jvm.Cond.code ({ cls := "ChanceArenaModel", name := "command", desc := "(II)I" } : Jvm.MethodName) prog_15_method_94_code (3 : Nat) (Option.some Jvm.ClassFile.FieldType.int)) ∈ lw_R := zR (zk_12 _ (List.mem_of_getElem? (i := 168) (by decide +kernel))) rfl
theorem k12_169 : (Jvm.Cond.methodLink "ChanceArenaModel" (572 : Nat) ({ cls := "ChanceArenaModel", name := "isCommand", desc := "(II)Z" } : Jvm.MethodName)) ∈ lw_R := zR (zk_12 _ (List.mem_of_getElem? (i := 169) (by decide +kernel))) rfl
theorem k12_171 : (Jvm.Cond.instanceMethod ({ cls := "ChanceArenaModel", name := "isCommand", desc := "(II)Z" } : Jvm.MethodName)) ∈ lw_R := zR (zk_12 _ (List.mem_of_getElem? (i := 171) (by decide +kernel))) rfl
theorem k12_172 : (Jvm.Cond.code ({ cls := "ChanceArenaModel", name := "isCommand", desc := "(II)Z" } : Jvm.MethodName) prog_15_method_93_code (3 : Nat) (Option.some Jvm.ClassFile.FieldType.boolean)) ∈ lw_R := zR (zk_12 _ (List.mem_of_getElem? (i := 172) (by decide +kernel))) rfl
theorem k12_176 : (Jvm.Cond.code ({ cls := "ChanceArenaModel", name := "branches", desc := "(II)I" } : Jvm.MethodName) prog_15_method_95_code (3 : Nat) (Option.some Jvm.ClassFile.FieldType.int)) ∈ lw_R := zR (zk_12 _ (List.mem_of_getElem? (i := 176) (by decide +kernel))) rfl
theorem k12_180 : (Jvm.Cond.code ({ cls := "ChanceArenaModel", name := "branch", desc := "(IIII)I" } : Jvm.MethodName) prog_15_method_96_code (6 : Nat) (Option.some Jvm.ClassFile.FieldType.int)) ∈ lw_R := zR (zk_12 _ (List.mem_of_getElem? (i := 180) (by decide +kernel))) rfl
theorem k12_184 : (Jvm.Cond.code ({ cls := "ChanceArenaModel", name := "solve", desc := "()I" } : Jvm.MethodName) prog_15_method_98_code (1 : Nat) (Option.some Jvm.ClassFile.FieldType.int)) ∈ lw_R := zR (zk_12 _ (List.mem_of_getElem? (i := 184) (by decide +kernel))) rfl
theorem k13_149 : (Jvm.Cond.code ({ cls := "ChanceArenaModel", name := "within", desc := "(I)I" } : Jvm.MethodName) prog_15_method_99_code (2 : Nat) (Option.some Jvm.ClassFile.FieldType.int)) ∈ lw_R := zR (zk_13 _ (List.mem_of_getElem? (i := 149) (by decide +kernel))) rfl
theorem k13_182 : (Jvm.Cond.code ({ cls := "ChanceArenaModel", name := "judge", desc := "(I)I" } : Jvm.MethodName) prog_15_method_102_code (2 : Nat) (Option.some Jvm.ClassFile.FieldType.int)) ∈ lw_R := zR (zk_13 _ (List.mem_of_getElem? (i := 182) (by decide +kernel))) rfl
theorem k14_1 : (Jvm.Cond.code ({ cls := "ChanceArenaModel", name := "choice", desc := "(I)I" } : Jvm.MethodName) prog_15_method_107_code (2 : Nat) (Option.some Jvm.ClassFile.FieldType.int)) ∈ lw_R := zR (zk_14 _ (List.mem_of_getElem? (i := 1) (by decide +kernel))) rfl
theorem k14_9 : (Jvm.Cond.code ({ cls := "ChanceArenaModel", name := "rank", desc := "(I)I" } : Jvm.MethodName) prog_15_method_108_code (2 : Nat) (Option.some Jvm.ClassFile.FieldType.int)) ∈ lw_R := zR (zk_14 _ (List.mem_of_getElem? (i := 9) (by decide +kernel))) rfl
theorem k14_17 : (Jvm.Cond.code ({ cls := "ChanceArenaModel", name := "next", desc := "(II)I" } : Jvm.MethodName) prog_15_method_109_code (3 : Nat) (Option.some Jvm.ClassFile.FieldType.int)) ∈ lw_R := zR (zk_14 _ (List.mem_of_getElem? (i := 17) (by decide +kernel))) rfl
theorem d_MM_solve_0 : decode prog_15_method_98_code 0 = .ok (.aload_n 0, 1) := dc9_42 (by decide +kernel)
theorem d_MM_solve_1 : decode prog_15_method_98_code 1 = .ok (.aload_n 0, 1) := dc9_42 (by decide +kernel)
theorem d_MM_solve_2 : decode prog_15_method_98_code 2 = .ok (.getfield 532, 3) := dc9_180 (by decide +kernel)
theorem d_MM_solve_5 : decode prog_15_method_98_code 5 = .ok (.ifCond .ne 7, 3) := dc9_154 (by decide +kernel)
theorem d_MM_solve_8 : decode prog_15_method_98_code 8 = .ok (.iconst 1, 1) := dc9_4 (by decide +kernel)
theorem d_MM_solve_9 : decode prog_15_method_98_code 9 = .ok (.goto 4, 3) := dc9_167 (by decide +kernel)
theorem d_MM_solve_13 : decode prog_15_method_98_code 13 = .ok (.putfield 142, 3) := dc9_181 (by decide +kernel)
theorem d_MM_solve_16 : decode prog_15_method_98_code 16 = .ok (.aload_n 0, 1) := dc9_42 (by decide +kernel)
theorem d_MM_solve_17 : decode prog_15_method_98_code 17 = .ok (.getfield 142, 3) := dc9_180 (by decide +kernel)
theorem d_MM_solve_20 : decode prog_15_method_98_code 20 = .ok (.ifCond .le 7, 3) := dc9_158 (by decide +kernel)
theorem d_MM_solve_23 : decode prog_15_method_98_code 23 = .ok (.iconst 0, 1) := dc9_3 (by decide +kernel)
theorem d_MM_solve_24 : decode prog_15_method_98_code 24 = .ok (.goto 10, 3) := dc9_167 (by decide +kernel)
theorem d_MM_solve_34 : decode prog_15_method_98_code 34 = .ok (.ireturn, 1) := dc9_172 (by decide +kernel)
theorem d_MM_explore_0 : decode prog_15_method_79_code 0 = .ok (.aload_n 0, 1) := dc9_42 (by decide +kernel)
theorem d_MM_explore_1 : decode prog_15_method_79_code 1 = .ok (.aload_n 0, 1) := dc9_42 (by decide +kernel)
theorem d_MM_explore_2 : decode prog_15_method_79_code 2 = .ok (.getfield 528, 3) := dc9_180 (by decide +kernel)
theorem d_MM_explore_5 : decode prog_15_method_79_code 5 = .ok (.ifCond .eq 7, 3) := dc9_153 (by decide +kernel)
theorem d_MM_explore_12 : decode prog_15_method_79_code 12 = .ok (.iconst 1, 1) := dc9_4 (by decide +kernel)
theorem d_MM_explore_13 : decode prog_15_method_79_code 13 = .ok (.putfield 142, 3) := dc9_181 (by decide +kernel)
theorem d_MM_explore_16 : decode prog_15_method_79_code 16 = .ok (.aload_n 0, 1) := dc9_42 (by decide +kernel)
theorem d_MM_explore_17 : decode prog_15_method_79_code 17 = .ok (.getfield 142, 3) := dc9_180 (by decide +kernel)
theorem d_MM_explore_20 : decode prog_15_method_79_code 20 = .ok (.ifCond .le 5, 3) := dc9_158 (by decide +kernel)
theorem d_MM_explore_23 : decode prog_15_method_79_code 23 = .ok (.iconst 0, 1) := dc9_3 (by decide +kernel)
theorem d_MM_explore_24 : decode prog_15_method_79_code 24 = .ok (.ireturn, 1) := dc9_172 (by decide +kernel)
theorem d_MM_variable_0 : decode prog_15_method_89_code 0 = .ok (.aload_n 0, 1) := dc9_42 (by decide +kernel)
theorem d_MM_variable_1 : decode prog_15_method_89_code 1 = .ok (.iload_n 1, 1) := dc9_27 (by decide +kernel)
theorem d_MM_variable_2 : decode prog_15_method_89_code 2 = .ok (.ifCond .lt 26, 3) := dc9_155 (by decide +kernel)
theorem d_MM_variable_28 : decode prog_15_method_89_code 28 = .ok (.iconst 1, 1) := dc9_4 (by decide +kernel)
theorem d_MM_variable_29 : decode prog_15_method_89_code 29 = .ok (.goto 4, 3) := dc9_167 (by decide +kernel)
theorem d_MM_variable_33 : decode prog_15_method_89_code 33 = .ok (.putfield 142, 3) := dc9_181 (by decide +kernel)
theorem d_MM_variable_36 : decode prog_15_method_89_code 36 = .ok (.aload_n 0, 1) := dc9_42 (by decide +kernel)
theorem d_MM_variable_37 : decode prog_15_method_89_code 37 = .ok (.getfield 142, 3) := dc9_180 (by decide +kernel)
theorem d_MM_variable_40 : decode prog_15_method_89_code 40 = .ok (.ifCond .le 7, 3) := dc9_158 (by decide +kernel)
theorem d_MM_variable_43 : decode prog_15_method_89_code 43 = .ok (.iconst 0, 1) := dc9_3 (by decide +kernel)
theorem d_MM_variable_44 : decode prog_15_method_89_code 44 = .ok (.goto 14, 3) := dc9_167 (by decide +kernel)
theorem d_MM_variable_58 : decode prog_15_method_89_code 58 = .ok (.ireturn, 1) := dc9_172 (by decide +kernel)
theorem d_MM_variable_5 : decode prog_15_method_89_code 5 = .ok (.iload_n 1, 1) := dc9_27 (by decide +kernel)
theorem d_MM_variable_6 : decode prog_15_method_89_code 6 = .ok (.aload_n 0, 1) := dc9_42 (by decide +kernel)
theorem d_MM_variable_7 : decode prog_15_method_89_code 7 = .ok (.getfield 532, 3) := dc9_180 (by decide +kernel)
theorem d_MM_variable_10 : decode prog_15_method_89_code 10 = .ok (.if_icmp .ge 18, 3) := dc9_162 (by decide +kernel)
theorem d_MM_within_0 : decode prog_15_method_99_code 0 = .ok (.aload_n 0, 1) := dc9_42 (by decide +kernel)
theorem d_MM_within_1 : decode prog_15_method_99_code 1 = .ok (.iload_n 1, 1) := dc9_27 (by decide +kernel)
theorem d_MM_within_2 : decode prog_15_method_99_code 2 = .ok (.ifCond .lt 9, 3) := dc9_155 (by decide +kernel)
theorem d_MM_within_11 : decode prog_15_method_99_code 11 = .ok (.iconst 1, 1) := dc9_4 (by decide +kernel)
theorem d_MM_within_12 : decode prog_15_method_99_code 12 = .ok (.goto 15, 3) := dc9_167 (by decide +kernel)
theorem d_MM_within_27 : decode prog_15_method_99_code 27 = .ok (.putfield 142, 3) := dc9_181 (by decide +kernel)
theorem d_MM_within_30 : decode prog_15_method_99_code 30 = .ok (.aload_n 0, 1) := dc9_42 (by decide +kernel)
theorem d_MM_within_31 : decode prog_15_method_99_code 31 = .ok (.getfield 142, 3) := dc9_180 (by decide +kernel)
theorem d_MM_within_34 : decode prog_15_method_99_code 34 = .ok (.ifCond .le 7, 3) := dc9_158 (by decide +kernel)
theorem d_MM_within_37 : decode prog_15_method_99_code 37 = .ok (.iconst 0, 1) := dc9_3 (by decide +kernel)
theorem d_MM_within_38 : decode prog_15_method_99_code 38 = .ok (.goto 11, 3) := dc9_167 (by decide +kernel)
theorem d_MM_within_49 : decode prog_15_method_99_code 49 = .ok (.ireturn, 1) := dc9_172 (by decide +kernel)
theorem d_MM_within_5 : decode prog_15_method_99_code 5 = .ok (.iload_n 1, 1) := dc9_27 (by decide +kernel)
theorem d_MM_within_6 : decode prog_15_method_99_code 6 = .ok (.bipush 32, 2) := dc9_16 (by decide +kernel)
theorem d_MM_within_8 : decode prog_15_method_99_code 8 = .ok (.if_icmp .le 7, 3) := dc9_164 (by decide +kernel)
theorem d_MM_within_15 : decode prog_15_method_99_code 15 = .ok (.aload_n 0, 1) := dc9_42 (by decide +kernel)
theorem d_MM_within_16 : decode prog_15_method_99_code 16 = .ok (.getfield 532, 3) := dc9_180 (by decide +kernel)
theorem d_MM_within_19 : decode prog_15_method_99_code 19 = .ok (.ifCond .ne 7, 3) := dc9_154 (by decide +kernel)
theorem d_MM_within_22 : decode prog_15_method_99_code 22 = .ok (.iconst 2, 1) := dc9_5 (by decide +kernel)
theorem d_MM_within_23 : decode prog_15_method_99_code 23 = .ok (.goto 4, 3) := dc9_167 (by decide +kernel)
theorem d_MM_judge_0 : decode prog_15_method_102_code 0 = .ok (.aload_n 0, 1) := dc9_42 (by decide +kernel)
theorem d_MM_judge_1 : decode prog_15_method_102_code 1 = .ok (.iload_n 1, 1) := dc9_27 (by decide +kernel)
theorem d_MM_judge_2 : decode prog_15_method_102_code 2 = .ok (.iconst 1, 1) := dc9_4 (by decide +kernel)
theorem d_MM_judge_3 : decode prog_15_method_102_code 3 = .ok (.if_icmp .eq 12, 3) := dc9_159 (by decide +kernel)
theorem d_MM_judge_15 : decode prog_15_method_102_code 15 = .ok (.aload_n 0, 1) := dc9_42 (by decide +kernel)
theorem d_MM_judge_16 : decode prog_15_method_102_code 16 = .ok (.getfield 532, 3) := dc9_180 (by decide +kernel)
theorem d_MM_judge_19 : decode prog_15_method_102_code 19 = .ok (.ifCond .ne 7, 3) := dc9_154 (by decide +kernel)
theorem d_MM_judge_22 : decode prog_15_method_102_code 22 = .ok (.iconst 2, 1) := dc9_5 (by decide +kernel)
theorem d_MM_judge_23 : decode prog_15_method_102_code 23 = .ok (.goto 4, 3) := dc9_167 (by decide +kernel)
theorem d_MM_judge_27 : decode prog_15_method_102_code 27 = .ok (.putfield 142, 3) := dc9_181 (by decide +kernel)
theorem d_MM_judge_30 : decode prog_15_method_102_code 30 = .ok (.aload_n 0, 1) := dc9_42 (by decide +kernel)
theorem d_MM_judge_31 : decode prog_15_method_102_code 31 = .ok (.getfield 142, 3) := dc9_180 (by decide +kernel)
theorem d_MM_judge_34 : decode prog_15_method_102_code 34 = .ok (.ifCond .le 7, 3) := dc9_158 (by decide +kernel)
theorem d_MM_judge_37 : decode prog_15_method_102_code 37 = .ok (.iconst 0, 1) := dc9_3 (by decide +kernel)
theorem d_MM_judge_38 : decode prog_15_method_102_code 38 = .ok (.goto 11, 3) := dc9_167 (by decide +kernel)
theorem d_MM_judge_49 : decode prog_15_method_102_code 49 = .ok (.ireturn, 1) := dc9_172 (by decide +kernel)
theorem d_MM_judge_6 : decode prog_15_method_102_code 6 = .ok (.iload_n 1, 1) := dc9_27 (by decide +kernel)
theorem d_MM_judge_7 : decode prog_15_method_102_code 7 = .ok (.iconst 2, 1) := dc9_5 (by decide +kernel)
theorem d_MM_judge_8 : decode prog_15_method_102_code 8 = .ok (.if_icmp .eq 7, 3) := dc9_159 (by decide +kernel)
theorem d_MM_judge_11 : decode prog_15_method_102_code 11 = .ok (.iconst 1, 1) := dc9_4 (by decide +kernel)
theorem d_MM_judge_12 : decode prog_15_method_102_code 12 = .ok (.goto 15, 3) := dc9_167 (by decide +kernel)
theorem d_MM_kind_0 : decode prog_15_method_91_code 0 = .ok (.aload_n 0, 1) := dc9_42 (by decide +kernel)
theorem d_MM_kind_1 : decode prog_15_method_91_code 1 = .ok (.iload_n 1, 1) := dc9_27 (by decide +kernel)
theorem d_MM_kind_2 : decode prog_15_method_91_code 2 = .ok (.invokevirtual 569, 3) := dc9_182 (by decide +kernel)
theorem ks_MM_isState : Cond.selects "ChanceArenaModel" ({ cls := "ChanceArenaModel", name := "isState", desc := "(I)Z" } : Jvm.MethodName) ({ cls := "ChanceArenaModel", name := "isState", desc := "(I)Z" } : Jvm.MethodName) ∈ lw_R := zR (List.mem_append_left _ (List.mem_of_getElem? (i := 153) (by decide +kernel))) rfl
theorem d_MM_kind_5 : decode prog_15_method_91_code 5 = .ok (.ifCond .eq 12, 3) := dc9_153 (by decide +kernel)
theorem d_MM_kind_17 : decode prog_15_method_91_code 17 = .ok (.iconst (-1), 1) := dc9_2 (by decide +kernel)
theorem d_MM_kind_18 : decode prog_15_method_91_code 18 = .ok (.ireturn, 1) := dc9_172 (by decide +kernel)
theorem d_MM_commands_0 : decode prog_15_method_92_code 0 = .ok (.aload_n 0, 1) := dc9_42 (by decide +kernel)
theorem d_MM_commands_1 : decode prog_15_method_92_code 1 = .ok (.iload_n 1, 1) := dc9_27 (by decide +kernel)
theorem d_MM_commands_2 : decode prog_15_method_92_code 2 = .ok (.invokevirtual 569, 3) := dc9_182 (by decide +kernel)
theorem d_MM_commands_5 : decode prog_15_method_92_code 5 = .ok (.ifCond .eq 12, 3) := dc9_153 (by decide +kernel)
theorem d_MM_commands_17 : decode prog_15_method_92_code 17 = .ok (.iconst (-1), 1) := dc9_2 (by decide +kernel)
theorem d_MM_commands_18 : decode prog_15_method_92_code 18 = .ok (.ireturn, 1) := dc9_172 (by decide +kernel)
theorem d_MM_choice_0 : decode prog_15_method_107_code 0 = .ok (.aload_n 0, 1) := dc9_42 (by decide +kernel)
theorem d_MM_choice_1 : decode prog_15_method_107_code 1 = .ok (.iload_n 1, 1) := dc9_27 (by decide +kernel)
theorem d_MM_choice_2 : decode prog_15_method_107_code 2 = .ok (.invokevirtual 569, 3) := dc9_182 (by decide +kernel)
theorem d_MM_choice_5 : decode prog_15_method_107_code 5 = .ok (.ifCond .eq 24, 3) := dc9_153 (by decide +kernel)
theorem d_MM_choice_29 : decode prog_15_method_107_code 29 = .ok (.iconst (-1), 1) := dc9_2 (by decide +kernel)
theorem d_MM_choice_30 : decode prog_15_method_107_code 30 = .ok (.ireturn, 1) := dc9_172 (by decide +kernel)
theorem d_MM_rank_0 : decode prog_15_method_108_code 0 = .ok (.aload_n 0, 1) := dc9_42 (by decide +kernel)
theorem d_MM_rank_1 : decode prog_15_method_108_code 1 = .ok (.iload_n 1, 1) := dc9_27 (by decide +kernel)
theorem d_MM_rank_2 : decode prog_15_method_108_code 2 = .ok (.invokevirtual 569, 3) := dc9_182 (by decide +kernel)
theorem d_MM_rank_5 : decode prog_15_method_108_code 5 = .ok (.ifCond .eq 24, 3) := dc9_153 (by decide +kernel)
theorem d_MM_rank_29 : decode prog_15_method_108_code 29 = .ok (.iconst (-1), 1) := dc9_2 (by decide +kernel)
theorem d_MM_rank_30 : decode prog_15_method_108_code 30 = .ok (.ireturn, 1) := dc9_172 (by decide +kernel)
theorem d_MM_next_0 : decode prog_15_method_109_code 0 = .ok (.aload_n 0, 1) := dc9_42 (by decide +kernel)
theorem d_MM_next_1 : decode prog_15_method_109_code 1 = .ok (.iload_n 1, 1) := dc9_27 (by decide +kernel)
theorem d_MM_next_2 : decode prog_15_method_109_code 2 = .ok (.invokevirtual 569, 3) := dc9_182 (by decide +kernel)
theorem d_MM_next_5 : decode prog_15_method_109_code 5 = .ok (.ifCond .eq 19, 3) := dc9_153 (by decide +kernel)
theorem d_MM_next_24 : decode prog_15_method_109_code 24 = .ok (.iconst (-1), 1) := dc9_2 (by decide +kernel)
theorem d_MM_next_25 : decode prog_15_method_109_code 25 = .ok (.ireturn, 1) := dc9_172 (by decide +kernel)
theorem d_MM_isCommand_0 : decode prog_15_method_93_code 0 = .ok (.aload_n 0, 1) := dc9_42 (by decide +kernel)
theorem d_MM_isCommand_1 : decode prog_15_method_93_code 1 = .ok (.iload_n 1, 1) := dc9_27 (by decide +kernel)
theorem d_MM_isCommand_2 : decode prog_15_method_93_code 2 = .ok (.invokevirtual 569, 3) := dc9_182 (by decide +kernel)
theorem d_MM_isCommand_5 : decode prog_15_method_93_code 5 = .ok (.ifCond .eq 21, 3) := dc9_153 (by decide +kernel)
theorem d_MM_isCommand_26 : decode prog_15_method_93_code 26 = .ok (.iconst 0, 1) := dc9_3 (by decide +kernel)
theorem d_MM_isCommand_27 : decode prog_15_method_93_code 27 = .ok (.ireturn, 1) := dc9_172 (by decide +kernel)
theorem d_MM_command_0 : decode prog_15_method_94_code 0 = .ok (.aload_n 0, 1) := dc9_42 (by decide +kernel)
theorem d_MM_command_1 : decode prog_15_method_94_code 1 = .ok (.iload_n 1, 1) := dc9_27 (by decide +kernel)
theorem d_MM_command_2 : decode prog_15_method_94_code 2 = .ok (.iload_n 2, 1) := dc9_28 (by decide +kernel)
theorem d_MM_command_3 : decode prog_15_method_94_code 3 = .ok (.invokevirtual 572, 3) := dc9_182 (by decide +kernel)
theorem ks_MM_isCommand : Cond.selects "ChanceArenaModel" ({ cls := "ChanceArenaModel", name := "isCommand", desc := "(II)Z" } : Jvm.MethodName) ({ cls := "ChanceArenaModel", name := "isCommand", desc := "(II)Z" } : Jvm.MethodName) ∈ lw_R := zR (List.mem_append_left _ (List.mem_of_getElem? (i := 154) (by decide +kernel))) rfl
theorem d_MM_command_6 : decode prog_15_method_94_code 6 = .ok (.ifCond .eq 21, 3) := dc9_153 (by decide +kernel)
theorem d_MM_command_27 : decode prog_15_method_94_code 27 = .ok (.iconst (-1), 1) := dc9_2 (by decide +kernel)
theorem d_MM_command_28 : decode prog_15_method_94_code 28 = .ok (.ireturn, 1) := dc9_172 (by decide +kernel)
theorem d_MM_branches_0 : decode prog_15_method_95_code 0 = .ok (.aload_n 0, 1) := dc9_42 (by decide +kernel)
theorem d_MM_branches_1 : decode prog_15_method_95_code 1 = .ok (.iload_n 1, 1) := dc9_27 (by decide +kernel)
theorem d_MM_branches_2 : decode prog_15_method_95_code 2 = .ok (.iload_n 2, 1) := dc9_28 (by decide +kernel)
theorem d_MM_branches_3 : decode prog_15_method_95_code 3 = .ok (.invokevirtual 572, 3) := dc9_182 (by decide +kernel)
theorem d_MM_branches_6 : decode prog_15_method_95_code 6 = .ok (.ifCond .eq 21, 3) := dc9_153 (by decide +kernel)
theorem d_MM_branches_27 : decode prog_15_method_95_code 27 = .ok (.iconst (-1), 1) := dc9_2 (by decide +kernel)
theorem d_MM_branches_28 : decode prog_15_method_95_code 28 = .ok (.ireturn, 1) := dc9_172 (by decide +kernel)
theorem d_MM_branch1_0 : decode prog_15_method_96_code 0 = .ok (.aload_n 0, 1) := dc9_42 (by decide +kernel)
theorem d_MM_branch1_1 : decode prog_15_method_96_code 1 = .ok (.iload_n 1, 1) := dc9_27 (by decide +kernel)
theorem d_MM_branch1_2 : decode prog_15_method_96_code 2 = .ok (.iload_n 2, 1) := dc9_28 (by decide +kernel)
theorem d_MM_branch1_3 : decode prog_15_method_96_code 3 = .ok (.invokevirtual 572, 3) := dc9_182 (by decide +kernel)
theorem d_MM_branch1_6 : decode prog_15_method_96_code 6 = .ok (.ifCond .eq 37, 3) := dc9_153 (by decide +kernel)
theorem d_MM_branch1_43 : decode prog_15_method_96_code 43 = .ok (.iconst (-1), 1) := dc9_2 (by decide +kernel)
theorem d_MM_branch1_44 : decode prog_15_method_96_code 44 = .ok (.ireturn, 1) := dc9_172 (by decide +kernel)
set_option maxHeartbeats 4000000 in
set_option maxRecDepth 100000 in
theorem c_MM_solve_0 (l : Launch) (D : va_G) (tA : Nat → ClassId) (sz : Nat) (h0 : Nat) (fs : List Value) (t0 : Int32) (ht : fs[0]? = some (.int t0)) (hv : fs[29]? = some (.int 0)) : zMi l ({ cls := "ChanceArenaModel", name := "solve", desc := "()I" } : Jvm.MethodName) (zW (Jvm.Cond.code ({ cls := "ChanceArenaModel", name := "solve", desc := "()I" } : Jvm.MethodName) prog_15_method_98_code (1 : Nat) (Option.some Jvm.ClassFile.FieldType.int))) { frames := 0, cells := 0, slots := 0, locals := 0 } [.ref h0] D tA [(h0, .inr (13, fs))] sz (fun r (_ : Unit) => (fun r => r = 0) r) (fun _ => [(h0, .inr (13, (fs.set 0 (.int 1))))]) 0 0 := by
  refine zOpen (fun A => va_Qi (fun r (_ : Unit) => (fun r => r = 0) r) (zPost D A (fun _ => [(h0, .inr (13, (fs.set 0 (.int 1))))])) A) (lv := [(0, .ref h0)]) (by decide) rfl (Nat.le_of_ble_eq_true rfl) rfl ?_
  intro p e s m below meth c A ls hx hb hr hml hh hg hown hlocks hnm hK hA hP hD0 hAw hS hl
  have hD := zD hD0 hAw
  refine lv_aload_n hx hb d_MM_solve_0 rfl (lv_at hl 0 rfl) ?_
  refine lv_aload_n hx hb d_MM_solve_1 rfl (lv_at hl 0 rfl) ?_
  refine va_get (D := D) (ci := 13) (v := .int 0) (C := R_MM) (T := T_MM) (N := 49) hx hb hg i_MM hown hK hP 0 rfl rfl 29 (by decide) (hg _ k10_110) (fun _ h9 => h9) hv d_MM_solve_2 ?_
  refine lv_if_ne (tgt := 12) hx hb d_MM_solve_5 (by decide) (fun c5 => absurd rfl c5) (fun c5 => ?_)
  refine lv_iconst (v := 1) hx hb d_MM_solve_8 (by decide) ?_
  refine lv_goto (tgt := 13) hx hb d_MM_solve_9 (by decide) ?_
  refine va_put (D := D) (ci := 13) (v := .int 1) (ty := .int) (C := R_MM) (T := T_MM) (N := 49) hx hb hg i_MM t_MM o_MM n_MM hown hK hP hD hS 0 rfl rfl 0 (by decide) (hg _ k10_81) (fun _ h9 => h9) rfl (by decide +kernel) rfl rfl (zLen ht) d_MM_solve_13 (fun H locs hP hD hS => ?_)
  replace hP : va_P D vwCl [(h0, .inr (13, (fs.set 0 (.int 1))))] _ := hP
  replace hD : va_D A [(h0, .inr (13, (fs.set 0 (.int 1))))] := hD
  refine lv_aload_n hx hb d_MM_solve_16 rfl (lv_at hl 0 rfl) ?_
  refine va_get (D := D) (ci := 13) (v := .int 1) (C := R_MM) (T := T_MM) (N := 49) hx hb hg i_MM hown hK hP 0 rfl rfl 0 (by decide) (hg _ k10_81) (fun _ h9 => h9) (zSetS ht) d_MM_solve_17 ?_
  refine lv_if_le (tgt := 27) hx hb d_MM_solve_20 (by decide) (fun c20 => absurd c20 (by decide)) (fun c20 => ?_)
  refine lv_iconst (v := 0) hx hb d_MM_solve_23 (by decide) ?_
  refine lv_goto (tgt := 34) hx hb d_MM_solve_24 (by decide) ?_
  exact zZret (post := fun r (_ : Unit) => (fun r => r = 0) r) (W1 := fun _ => [(h0, .inr (13, (fs.set 0 (.int 1))))]) (v := 0) hx hb hr rfl hlocks hP hD hS () (rfl) rfl d_MM_solve_34
set_option maxHeartbeats 4000000 in
set_option maxRecDepth 100000 in
theorem c_MM_explore_0 (l : Launch) (D : va_G) (tA : Nat → ClassId) (sz : Nat) (h0 : Nat) (fs : List Value) (t0 : Int32) (ht : fs[0]? = some (.int t0)) (hv : fs[11]? = some (.int 0)) : zMi l ({ cls := "ChanceArenaModel", name := "explore", desc := "()I" } : Jvm.MethodName) (zW (Jvm.Cond.code ({ cls := "ChanceArenaModel", name := "explore", desc := "()I" } : Jvm.MethodName) prog_15_method_79_code (3 : Nat) (Option.some Jvm.ClassFile.FieldType.int))) { frames := 0, cells := 0, slots := 0, locals := 0 } [.ref h0] D tA [(h0, .inr (13, fs))] sz (fun r (_ : Unit) => (fun r => r = 0) r) (fun _ => [(h0, .inr (13, (fs.set 0 (.int 1))))]) 0 0 := by
  refine zOpen (fun A => va_Qi (fun r (_ : Unit) => (fun r => r = 0) r) (zPost D A (fun _ => [(h0, .inr (13, (fs.set 0 (.int 1))))])) A) (lv := [(0, .ref h0)]) (by decide) rfl (Nat.le_of_ble_eq_true rfl) rfl ?_
  intro p e s m below meth c A ls hx hb hr hml hh hg hown hlocks hnm hK hA hP hD0 hAw hS hl
  have hD := zD hD0 hAw
  refine lv_aload_n hx hb d_MM_explore_0 rfl (lv_at hl 0 rfl) ?_
  refine lv_aload_n hx hb d_MM_explore_1 rfl (lv_at hl 0 rfl) ?_
  refine va_get (D := D) (ci := 13) (v := .int 0) (C := R_MM) (T := T_MM) (N := 49) hx hb hg i_MM hown hK hP 0 rfl rfl 11 (by decide) (hg _ k10_92) (fun _ h9 => h9) hv d_MM_explore_2 ?_
  refine lv_if_eq (tgt := 12) hx hb d_MM_explore_5 (by decide) (fun c5 => ?_) (fun c5 => absurd rfl c5)
  refine lv_iconst (v := 1) hx hb d_MM_explore_12 (by decide) ?_
  refine va_put (D := D) (ci := 13) (v := .int 1) (ty := .int) (C := R_MM) (T := T_MM) (N := 49) hx hb hg i_MM t_MM o_MM n_MM hown hK hP hD hS 0 rfl rfl 0 (by decide) (hg _ k10_81) (fun _ h9 => h9) rfl (by decide +kernel) rfl rfl (zLen ht) d_MM_explore_13 (fun H locs hP hD hS => ?_)
  replace hP : va_P D vwCl [(h0, .inr (13, (fs.set 0 (.int 1))))] _ := hP
  replace hD : va_D A [(h0, .inr (13, (fs.set 0 (.int 1))))] := hD
  refine lv_aload_n hx hb d_MM_explore_16 rfl (lv_at hl 0 rfl) ?_
  refine va_get (D := D) (ci := 13) (v := .int 1) (C := R_MM) (T := T_MM) (N := 49) hx hb hg i_MM hown hK hP 0 rfl rfl 0 (by decide) (hg _ k10_81) (fun _ h9 => h9) (zSetS ht) d_MM_explore_17 ?_
  refine lv_if_le (tgt := 25) hx hb d_MM_explore_20 (by decide) (fun c20 => absurd c20 (by decide)) (fun c20 => ?_)
  refine lv_iconst (v := 0) hx hb d_MM_explore_23 (by decide) ?_
  exact zZret (post := fun r (_ : Unit) => (fun r => r = 0) r) (W1 := fun _ => [(h0, .inr (13, (fs.set 0 (.int 1))))]) (v := 0) hx hb hr rfl hlocks hP hD hS () (rfl) rfl d_MM_explore_24
set_option maxHeartbeats 4000000 in
set_option maxRecDepth 100000 in
theorem c_MM_variable_0 (l : Launch) (D : va_G) (tA : Nat → ClassId) (sz : Nat) (h0 : Nat) (fs : List Value) (t0 : Int32) (ht : fs[0]? = some (.int t0)) (k v : Int32) (hv : fs[29]? = some (.int 0)) : zMi l ({ cls := "ChanceArenaModel", name := "variable", desc := "(II)I" } : Jvm.MethodName) (zW (Jvm.Cond.code ({ cls := "ChanceArenaModel", name := "variable", desc := "(II)I" } : Jvm.MethodName) prog_15_method_89_code (3 : Nat) (Option.some Jvm.ClassFile.FieldType.int))) { frames := 0, cells := 0, slots := 0, locals := 0 } [.ref h0, .int k, .int v] D tA [(h0, .inr (13, fs))] sz (fun r (_ : Unit) => (fun r => r = 0) r) (fun _ => [(h0, .inr (13, (fs.set 0 (.int 1))))]) 0 0 := by
  refine zOpen (fun A => va_Qi (fun r (_ : Unit) => (fun r => r = 0) r) (zPost D A (fun _ => [(h0, .inr (13, (fs.set 0 (.int 1))))])) A) (lv := [(0, .ref h0), (1, .int k), (2, .int v)]) (by decide) rfl (Nat.le_of_ble_eq_true rfl) rfl ?_
  intro p e s m below meth c A ls hx hb hr hml hh hg hown hlocks hnm hK hA hP hD0 hAw hS hl
  have hD := zD hD0 hAw
  refine lv_aload_n hx hb d_MM_variable_0 rfl (lv_at hl 0 rfl) ?_
  refine lv_iload_n hx hb d_MM_variable_1 rfl (lv_at hl 1 rfl) ?_
  refine lv_if_lt (tgt := 28) hx hb d_MM_variable_2 (by decide) (fun c2 => ?_) (fun c2 => ?_)
  · refine lv_iconst (v := 1) hx hb d_MM_variable_28 (by decide) ?_
    refine lv_goto (tgt := 33) hx hb d_MM_variable_29 (by decide) ?_
    refine va_put (D := D) (ci := 13) (v := .int 1) (ty := .int) (C := R_MM) (T := T_MM) (N := 49) hx hb hg i_MM t_MM o_MM n_MM hown hK hP hD hS 0 rfl rfl 0 (by decide) (hg _ k10_81) (fun _ h9 => h9) rfl (by decide +kernel) rfl rfl (zLen ht) d_MM_variable_33 (fun H locs hP hD hS => ?_)
    replace hP : va_P D vwCl [(h0, .inr (13, (fs.set 0 (.int 1))))] _ := hP
    replace hD : va_D A [(h0, .inr (13, (fs.set 0 (.int 1))))] := hD
    refine lv_aload_n hx hb d_MM_variable_36 rfl (lv_at hl 0 rfl) ?_
    refine va_get (D := D) (ci := 13) (v := .int 1) (C := R_MM) (T := T_MM) (N := 49) hx hb hg i_MM hown hK hP 0 rfl rfl 0 (by decide) (hg _ k10_81) (fun _ h9 => h9) (zSetS ht) d_MM_variable_37 ?_
    refine lv_if_le (tgt := 47) hx hb d_MM_variable_40 (by decide) (fun c40 => absurd c40 (by decide)) (fun c40 => ?_)
    refine lv_iconst (v := 0) hx hb d_MM_variable_43 (by decide) ?_
    refine lv_goto (tgt := 58) hx hb d_MM_variable_44 (by decide) ?_
    exact zZret (post := fun r (_ : Unit) => (fun r => r = 0) r) (W1 := fun _ => [(h0, .inr (13, (fs.set 0 (.int 1))))]) (v := 0) hx hb hr rfl hlocks hP hD hS () (rfl) rfl d_MM_variable_58
  · refine lv_iload_n hx hb d_MM_variable_5 rfl (lv_at hl 1 rfl) ?_
    refine lv_aload_n hx hb d_MM_variable_6 rfl (lv_at hl 0 rfl) ?_
    refine va_get (D := D) (ci := 13) (v := .int 0) (C := R_MM) (T := T_MM) (N := 49) hx hb hg i_MM hown hK hP 0 rfl rfl 29 (by decide) (hg _ k10_110) (fun _ h9 => h9) hv d_MM_variable_7 ?_
    refine lv_icmp_ge (tgt := 28) hx hb d_MM_variable_10 (by decide) (fun c10 => ?_) (fun c10 => absurd (Int32.not_lt.mp c2) c10)
    refine lv_iconst (v := 1) hx hb d_MM_variable_28 (by decide) ?_
    refine lv_goto (tgt := 33) hx hb d_MM_variable_29 (by decide) ?_
    refine va_put (D := D) (ci := 13) (v := .int 1) (ty := .int) (C := R_MM) (T := T_MM) (N := 49) hx hb hg i_MM t_MM o_MM n_MM hown hK hP hD hS 0 rfl rfl 0 (by decide) (hg _ k10_81) (fun _ h9 => h9) rfl (by decide +kernel) rfl rfl (zLen ht) d_MM_variable_33 (fun H locs hP hD hS => ?_)
    replace hP : va_P D vwCl [(h0, .inr (13, (fs.set 0 (.int 1))))] _ := hP
    replace hD : va_D A [(h0, .inr (13, (fs.set 0 (.int 1))))] := hD
    refine lv_aload_n hx hb d_MM_variable_36 rfl (lv_at hl 0 rfl) ?_
    refine va_get (D := D) (ci := 13) (v := .int 1) (C := R_MM) (T := T_MM) (N := 49) hx hb hg i_MM hown hK hP 0 rfl rfl 0 (by decide) (hg _ k10_81) (fun _ h9 => h9) (zSetS ht) d_MM_variable_37 ?_
    refine lv_if_le (tgt := 47) hx hb d_MM_variable_40 (by decide) (fun c40 => absurd c40 (by decide)) (fun c40 => ?_)
    refine lv_iconst (v := 0) hx hb d_MM_variable_43 (by decide) ?_
    refine lv_goto (tgt := 58) hx hb d_MM_variable_44 (by decide) ?_
    exact zZret (post := fun r (_ : Unit) => (fun r => r = 0) r) (W1 := fun _ => [(h0, .inr (13, (fs.set 0 (.int 1))))]) (v := 0) hx hb hr rfl hlocks hP hD hS () (rfl) rfl d_MM_variable_58
set_option maxHeartbeats 4000000 in
set_option maxRecDepth 100000 in
theorem c_MM_within_0 (l : Launch) (D : va_G) (tA : Nat → ClassId) (sz : Nat) (h0 : Nat) (fs : List Value) (t0 : Int32) (ht : fs[0]? = some (.int t0)) (n : Int32) (hv : fs[29]? = some (.int 0)) : zMi l ({ cls := "ChanceArenaModel", name := "within", desc := "(I)I" } : Jvm.MethodName) (zW (Jvm.Cond.code ({ cls := "ChanceArenaModel", name := "within", desc := "(I)I" } : Jvm.MethodName) prog_15_method_99_code (2 : Nat) (Option.some Jvm.ClassFile.FieldType.int))) { frames := 0, cells := 0, slots := 0, locals := 0 } [.ref h0, .int n] D tA [(h0, .inr (13, fs))] sz (fun r (_ : Unit) => (fun r => r = 0) r) (fun _ => [(h0, .inr (13, (fs.set 0 (.int (if n < 0 ∨ ¬ n ≤ 32 then 1 else 2)))))]) 0 0 := by
  refine zOpen (fun A => va_Qi (fun r (_ : Unit) => (fun r => r = 0) r) (zPost D A (fun _ => [(h0, .inr (13, (fs.set 0 (.int (if n < 0 ∨ ¬ n ≤ 32 then 1 else 2)))))])) A) (lv := [(0, .ref h0), (1, .int n)]) (by decide) rfl (Nat.le_of_ble_eq_true rfl) rfl ?_
  intro p e s m below meth c A ls hx hb hr hml hh hg hown hlocks hnm hK hA hP hD0 hAw hS hl
  have hD := zD hD0 hAw
  refine lv_aload_n hx hb d_MM_within_0 rfl (lv_at hl 0 rfl) ?_
  refine lv_iload_n hx hb d_MM_within_1 rfl (lv_at hl 1 rfl) ?_
  refine lv_if_lt (tgt := 11) hx hb d_MM_within_2 (by decide) (fun c2 => ?_) (fun c2 => ?_)
  · refine lv_iconst (v := 1) hx hb d_MM_within_11 (by decide) ?_
    refine lv_goto (tgt := 27) hx hb d_MM_within_12 (by decide) ?_
    refine va_put (D := D) (ci := 13) (v := .int 1) (ty := .int) (C := R_MM) (T := T_MM) (N := 49) hx hb hg i_MM t_MM o_MM n_MM hown hK hP hD hS 0 rfl rfl 0 (by decide) (hg _ k10_81) (fun _ h9 => h9) rfl (by decide +kernel) rfl rfl (zLen ht) d_MM_within_27 (fun H locs hP hD hS => ?_)
    replace hP : va_P D vwCl [(h0, .inr (13, (fs.set 0 (.int 1))))] _ := hP
    replace hD : va_D A [(h0, .inr (13, (fs.set 0 (.int 1))))] := hD
    refine lv_aload_n hx hb d_MM_within_30 rfl (lv_at hl 0 rfl) ?_
    refine va_get (D := D) (ci := 13) (v := .int 1) (C := R_MM) (T := T_MM) (N := 49) hx hb hg i_MM hown hK hP 0 rfl rfl 0 (by decide) (hg _ k10_81) (fun _ h9 => h9) (zSetS ht) d_MM_within_31 ?_
    refine lv_if_le (tgt := 41) hx hb d_MM_within_34 (by decide) (fun c34 => absurd c34 (by decide)) (fun c34 => ?_)
    refine lv_iconst (v := 0) hx hb d_MM_within_37 (by decide) ?_
    refine lv_goto (tgt := 49) hx hb d_MM_within_38 (by decide) ?_
    exact zZret (post := fun r (_ : Unit) => (fun r => r = 0) r) (W1 := fun _ => [(h0, .inr (13, (fs.set 0 (.int (if n < 0 ∨ ¬ n ≤ 32 then 1 else 2)))))]) (v := 0) hx hb hr rfl hlocks hP hD hS () (rfl) (by rw [if_pos (Or.inl c2)]) d_MM_within_49
  · refine lv_iload_n hx hb d_MM_within_5 rfl (lv_at hl 1 rfl) ?_
    refine lv_bipush (v := 32) hx hb d_MM_within_6 (by decide) ?_
    refine lv_icmp_le (tgt := 15) hx hb d_MM_within_8 (by decide) (fun c8 => ?_) (fun c8 => ?_)
    · refine lv_aload_n hx hb d_MM_within_15 rfl (lv_at hl 0 rfl) ?_
      refine va_get (D := D) (ci := 13) (v := .int 0) (C := R_MM) (T := T_MM) (N := 49) hx hb hg i_MM hown hK hP 0 rfl rfl 29 (by decide) (hg _ k10_110) (fun _ h9 => h9) hv d_MM_within_16 ?_
      refine lv_if_ne (tgt := 26) hx hb d_MM_within_19 (by decide) (fun c19 => absurd rfl c19) (fun c19 => ?_)
      refine lv_iconst (v := 2) hx hb d_MM_within_22 (by decide) ?_
      refine lv_goto (tgt := 27) hx hb d_MM_within_23 (by decide) ?_
      refine va_put (D := D) (ci := 13) (v := .int 2) (ty := .int) (C := R_MM) (T := T_MM) (N := 49) hx hb hg i_MM t_MM o_MM n_MM hown hK hP hD hS 0 rfl rfl 0 (by decide) (hg _ k10_81) (fun _ h9 => h9) rfl (by decide +kernel) rfl rfl (zLen ht) d_MM_within_27 (fun H locs hP hD hS => ?_)
      replace hP : va_P D vwCl [(h0, .inr (13, (fs.set 0 (.int 2))))] _ := hP
      replace hD : va_D A [(h0, .inr (13, (fs.set 0 (.int 2))))] := hD
      refine lv_aload_n hx hb d_MM_within_30 rfl (lv_at hl 0 rfl) ?_
      refine va_get (D := D) (ci := 13) (v := .int 2) (C := R_MM) (T := T_MM) (N := 49) hx hb hg i_MM hown hK hP 0 rfl rfl 0 (by decide) (hg _ k10_81) (fun _ h9 => h9) (zSetS ht) d_MM_within_31 ?_
      refine lv_if_le (tgt := 41) hx hb d_MM_within_34 (by decide) (fun c34 => absurd c34 (by decide)) (fun c34 => ?_)
      refine lv_iconst (v := 0) hx hb d_MM_within_37 (by decide) ?_
      refine lv_goto (tgt := 49) hx hb d_MM_within_38 (by decide) ?_
      exact zZret (post := fun r (_ : Unit) => (fun r => r = 0) r) (W1 := fun _ => [(h0, .inr (13, (fs.set 0 (.int (if n < 0 ∨ ¬ n ≤ 32 then 1 else 2)))))]) (v := 0) hx hb hr rfl hlocks hP hD hS () (rfl) (by rw [if_neg (fun h => h.elim (fun h => c2 h) (fun h => h c8))]) d_MM_within_49
    · refine lv_iconst (v := 1) hx hb d_MM_within_11 (by decide) ?_
      refine lv_goto (tgt := 27) hx hb d_MM_within_12 (by decide) ?_
      refine va_put (D := D) (ci := 13) (v := .int 1) (ty := .int) (C := R_MM) (T := T_MM) (N := 49) hx hb hg i_MM t_MM o_MM n_MM hown hK hP hD hS 0 rfl rfl 0 (by decide) (hg _ k10_81) (fun _ h9 => h9) rfl (by decide +kernel) rfl rfl (zLen ht) d_MM_within_27 (fun H locs hP hD hS => ?_)
      replace hP : va_P D vwCl [(h0, .inr (13, (fs.set 0 (.int 1))))] _ := hP
      replace hD : va_D A [(h0, .inr (13, (fs.set 0 (.int 1))))] := hD
      refine lv_aload_n hx hb d_MM_within_30 rfl (lv_at hl 0 rfl) ?_
      refine va_get (D := D) (ci := 13) (v := .int 1) (C := R_MM) (T := T_MM) (N := 49) hx hb hg i_MM hown hK hP 0 rfl rfl 0 (by decide) (hg _ k10_81) (fun _ h9 => h9) (zSetS ht) d_MM_within_31 ?_
      refine lv_if_le (tgt := 41) hx hb d_MM_within_34 (by decide) (fun c34 => absurd c34 (by decide)) (fun c34 => ?_)
      refine lv_iconst (v := 0) hx hb d_MM_within_37 (by decide) ?_
      refine lv_goto (tgt := 49) hx hb d_MM_within_38 (by decide) ?_
      exact zZret (post := fun r (_ : Unit) => (fun r => r = 0) r) (W1 := fun _ => [(h0, .inr (13, (fs.set 0 (.int (if n < 0 ∨ ¬ n ≤ 32 then 1 else 2)))))]) (v := 0) hx hb hr rfl hlocks hP hD hS () (rfl) (by rw [if_pos (Or.inr c8)]) d_MM_within_49
set_option maxHeartbeats 4000000 in
set_option maxRecDepth 100000 in
theorem c_MM_judge_0 (l : Launch) (D : va_G) (tA : Nat → ClassId) (sz : Nat) (h0 : Nat) (fs : List Value) (t0 : Int32) (ht : fs[0]? = some (.int t0)) (n : Int32) (hv : fs[29]? = some (.int 0)) : zMi l ({ cls := "ChanceArenaModel", name := "judge", desc := "(I)I" } : Jvm.MethodName) (zW (Jvm.Cond.code ({ cls := "ChanceArenaModel", name := "judge", desc := "(I)I" } : Jvm.MethodName) prog_15_method_102_code (2 : Nat) (Option.some Jvm.ClassFile.FieldType.int))) { frames := 0, cells := 0, slots := 0, locals := 0 } [.ref h0, .int n] D tA [(h0, .inr (13, fs))] sz (fun r (_ : Unit) => (fun r => r = 0) r) (fun _ => [(h0, .inr (13, (fs.set 0 (.int (if n = 1 ∨ n = 2 then 2 else 1)))))]) 0 0 := by
  refine zOpen (fun A => va_Qi (fun r (_ : Unit) => (fun r => r = 0) r) (zPost D A (fun _ => [(h0, .inr (13, (fs.set 0 (.int (if n = 1 ∨ n = 2 then 2 else 1)))))])) A) (lv := [(0, .ref h0), (1, .int n)]) (by decide) rfl (Nat.le_of_ble_eq_true rfl) rfl ?_
  intro p e s m below meth c A ls hx hb hr hml hh hg hown hlocks hnm hK hA hP hD0 hAw hS hl
  have hD := zD hD0 hAw
  refine lv_aload_n hx hb d_MM_judge_0 rfl (lv_at hl 0 rfl) ?_
  refine lv_iload_n hx hb d_MM_judge_1 rfl (lv_at hl 1 rfl) ?_
  refine lv_iconst (v := 1) hx hb d_MM_judge_2 (by decide) ?_
  refine lv_icmp_eq (tgt := 15) hx hb d_MM_judge_3 (by decide) (fun c3 => ?_) (fun c3 => ?_)
  · refine lv_aload_n hx hb d_MM_judge_15 rfl (lv_at hl 0 rfl) ?_
    refine va_get (D := D) (ci := 13) (v := .int 0) (C := R_MM) (T := T_MM) (N := 49) hx hb hg i_MM hown hK hP 0 rfl rfl 29 (by decide) (hg _ k10_110) (fun _ h9 => h9) hv d_MM_judge_16 ?_
    refine lv_if_ne (tgt := 26) hx hb d_MM_judge_19 (by decide) (fun c19 => absurd rfl c19) (fun c19 => ?_)
    refine lv_iconst (v := 2) hx hb d_MM_judge_22 (by decide) ?_
    refine lv_goto (tgt := 27) hx hb d_MM_judge_23 (by decide) ?_
    refine va_put (D := D) (ci := 13) (v := .int 2) (ty := .int) (C := R_MM) (T := T_MM) (N := 49) hx hb hg i_MM t_MM o_MM n_MM hown hK hP hD hS 0 rfl rfl 0 (by decide) (hg _ k10_81) (fun _ h9 => h9) rfl (by decide +kernel) rfl rfl (zLen ht) d_MM_judge_27 (fun H locs hP hD hS => ?_)
    replace hP : va_P D vwCl [(h0, .inr (13, (fs.set 0 (.int 2))))] _ := hP
    replace hD : va_D A [(h0, .inr (13, (fs.set 0 (.int 2))))] := hD
    refine lv_aload_n hx hb d_MM_judge_30 rfl (lv_at hl 0 rfl) ?_
    refine va_get (D := D) (ci := 13) (v := .int 2) (C := R_MM) (T := T_MM) (N := 49) hx hb hg i_MM hown hK hP 0 rfl rfl 0 (by decide) (hg _ k10_81) (fun _ h9 => h9) (zSetS ht) d_MM_judge_31 ?_
    refine lv_if_le (tgt := 41) hx hb d_MM_judge_34 (by decide) (fun c34 => absurd c34 (by decide)) (fun c34 => ?_)
    refine lv_iconst (v := 0) hx hb d_MM_judge_37 (by decide) ?_
    refine lv_goto (tgt := 49) hx hb d_MM_judge_38 (by decide) ?_
    exact zZret (post := fun r (_ : Unit) => (fun r => r = 0) r) (W1 := fun _ => [(h0, .inr (13, (fs.set 0 (.int (if n = 1 ∨ n = 2 then 2 else 1)))))]) (v := 0) hx hb hr rfl hlocks hP hD hS () (rfl) (by rw [if_pos (Or.inl c3)]) d_MM_judge_49
  · refine lv_iload_n hx hb d_MM_judge_6 rfl (lv_at hl 1 rfl) ?_
    refine lv_iconst (v := 2) hx hb d_MM_judge_7 (by decide) ?_
    refine lv_icmp_eq (tgt := 15) hx hb d_MM_judge_8 (by decide) (fun c8 => ?_) (fun c8 => ?_)
    · refine lv_aload_n hx hb d_MM_judge_15 rfl (lv_at hl 0 rfl) ?_
      refine va_get (D := D) (ci := 13) (v := .int 0) (C := R_MM) (T := T_MM) (N := 49) hx hb hg i_MM hown hK hP 0 rfl rfl 29 (by decide) (hg _ k10_110) (fun _ h9 => h9) hv d_MM_judge_16 ?_
      refine lv_if_ne (tgt := 26) hx hb d_MM_judge_19 (by decide) (fun c19 => absurd rfl c19) (fun c19 => ?_)
      refine lv_iconst (v := 2) hx hb d_MM_judge_22 (by decide) ?_
      refine lv_goto (tgt := 27) hx hb d_MM_judge_23 (by decide) ?_
      refine va_put (D := D) (ci := 13) (v := .int 2) (ty := .int) (C := R_MM) (T := T_MM) (N := 49) hx hb hg i_MM t_MM o_MM n_MM hown hK hP hD hS 0 rfl rfl 0 (by decide) (hg _ k10_81) (fun _ h9 => h9) rfl (by decide +kernel) rfl rfl (zLen ht) d_MM_judge_27 (fun H locs hP hD hS => ?_)
      replace hP : va_P D vwCl [(h0, .inr (13, (fs.set 0 (.int 2))))] _ := hP
      replace hD : va_D A [(h0, .inr (13, (fs.set 0 (.int 2))))] := hD
      refine lv_aload_n hx hb d_MM_judge_30 rfl (lv_at hl 0 rfl) ?_
      refine va_get (D := D) (ci := 13) (v := .int 2) (C := R_MM) (T := T_MM) (N := 49) hx hb hg i_MM hown hK hP 0 rfl rfl 0 (by decide) (hg _ k10_81) (fun _ h9 => h9) (zSetS ht) d_MM_judge_31 ?_
      refine lv_if_le (tgt := 41) hx hb d_MM_judge_34 (by decide) (fun c34 => absurd c34 (by decide)) (fun c34 => ?_)
      refine lv_iconst (v := 0) hx hb d_MM_judge_37 (by decide) ?_
      refine lv_goto (tgt := 49) hx hb d_MM_judge_38 (by decide) ?_
      exact zZret (post := fun r (_ : Unit) => (fun r => r = 0) r) (W1 := fun _ => [(h0, .inr (13, (fs.set 0 (.int (if n = 1 ∨ n = 2 then 2 else 1)))))]) (v := 0) hx hb hr rfl hlocks hP hD hS () (rfl) (by rw [if_pos (Or.inr c8)]) d_MM_judge_49
    · refine lv_iconst (v := 1) hx hb d_MM_judge_11 (by decide) ?_
      refine lv_goto (tgt := 27) hx hb d_MM_judge_12 (by decide) ?_
      refine va_put (D := D) (ci := 13) (v := .int 1) (ty := .int) (C := R_MM) (T := T_MM) (N := 49) hx hb hg i_MM t_MM o_MM n_MM hown hK hP hD hS 0 rfl rfl 0 (by decide) (hg _ k10_81) (fun _ h9 => h9) rfl (by decide +kernel) rfl rfl (zLen ht) d_MM_judge_27 (fun H locs hP hD hS => ?_)
      replace hP : va_P D vwCl [(h0, .inr (13, (fs.set 0 (.int 1))))] _ := hP
      replace hD : va_D A [(h0, .inr (13, (fs.set 0 (.int 1))))] := hD
      refine lv_aload_n hx hb d_MM_judge_30 rfl (lv_at hl 0 rfl) ?_
      refine va_get (D := D) (ci := 13) (v := .int 1) (C := R_MM) (T := T_MM) (N := 49) hx hb hg i_MM hown hK hP 0 rfl rfl 0 (by decide) (hg _ k10_81) (fun _ h9 => h9) (zSetS ht) d_MM_judge_31 ?_
      refine lv_if_le (tgt := 41) hx hb d_MM_judge_34 (by decide) (fun c34 => absurd c34 (by decide)) (fun c34 => ?_)
      refine lv_iconst (v := 0) hx hb d_MM_judge_37 (by decide) ?_
      refine lv_goto (tgt := 49) hx hb d_MM_judge_38 (by decide) ?_
      exact zZret (post := fun r (_ : Unit) => (fun r => r = 0) r) (W1 := fun _ => [(h0, .inr (13, (fs.set 0 (.int (if n = 1 ∨ n = 2 then 2 else 1)))))]) (v := 0) hx hb hr rfl hlocks hP hD hS () (rfl) (by rw [if_neg (fun h => h.elim (fun h => c3 h) (fun h => c8 h))]) d_MM_judge_49
set_option maxHeartbeats 4000000 in
set_option maxRecDepth 100000 in
theorem c_MM_kind_0 (l : Launch) (D : va_G) (tA : Nat → ClassId) (sz : Nat) (h0 : Nat) (fs : List Value) (t0 : Int32) (ht : fs[0]? = some (.int t0)) (k : Int32) (hv : fs[29]? = some (.int (nI 0))) : zMi l ({ cls := "ChanceArenaModel", name := "kind", desc := "(I)I" } : Jvm.MethodName) (zW (Jvm.Cond.code ({ cls := "ChanceArenaModel", name := "kind", desc := "(I)I" } : Jvm.MethodName) prog_15_method_91_code (2 : Nat) (Option.some Jvm.ClassFile.FieldType.int))) { frames := 1, cells := 0, slots := 0, locals := 22 } [.ref h0, .int k] D tA [(h0, .inr (13, fs))] sz (fun r (_ : Unit) => (fun r => r = -1) r) (fun _ => [(h0, .inr (13, (fs.set 0 (.int 0))))]) 0 0 := by
  refine zOpen (fun A => va_Qi (fun r (_ : Unit) => (fun r => r = -1) r) (zPost D A (fun _ => [(h0, .inr (13, (fs.set 0 (.int 0))))])) A) (lv := [(0, .ref h0), (1, .int k)]) (by decide) rfl (Nat.le_of_ble_eq_true rfl) rfl ?_
  intro p e s m below meth c A ls hx hb hr hml hh hg hown hlocks hnm hK hA hP hD0 hAw hS hl
  have hD := zD hD0 hAw
  refine lv_aload_n hx hb d_MM_kind_0 rfl (lv_at hl 0 rfl) ?_
  refine lv_iload_n hx hb d_MM_kind_1 rfl (lv_at hl 1 rfl) ?_
  refine zCalli (wc := [(h0, .inr (13, fs))]) (wr := []) hP hD hS hA [0] [] rfl rfl (by decide) (by decide) (va_runV (As := [.int k]) (rest := []) ⟨hx, hb, hml, hown, hg⟩ (c_MM_isState l D tA _ h0 fs t0 ht (nI 0) k hv) (zV 1 hg k12_157 k12_159 ks_MM_isState k1_14 k12_160 rfl rfl (by decide +kernel) ⟨(Nat.le_of_ble_eq_true rfl), (Nat.le_of_ble_eq_true rfl)⟩) (zPreV hh hK hP hD [0] (by decide) rfl (ci := 13) rfl 0 rfl) rfl rfl hl.1 rfl (lv_room (Nat.le_of_ble_eq_true rfl)) d_MM_kind_2 ⟨(Nat.le_of_ble_eq_true rfl), (Nat.le_of_ble_eq_true rfl)⟩) (fun r2 _ H locs er2 hP hD hS => ?_)
  replace hP : va_P D vwCl [(h0, .inr (13, (fs.set 0 (.int 0))))] _ := hP
  replace hD : va_D A [(h0, .inr (13, (fs.set 0 (.int 0))))] := hD
  refine lv_if_eq (tgt := 17) hx hb d_MM_kind_5 (by decide) (fun c5 => ?_) (fun c5 => absurd (zHS0 er2) c5)
  refine lv_iconst (v := (-1)) hx hb d_MM_kind_17 (by decide) ?_
  exact zZret (post := fun r (_ : Unit) => (fun r => r = -1) r) (W1 := fun _ => [(h0, .inr (13, (fs.set 0 (.int 0))))]) (v := (-1)) hx hb hr rfl hlocks hP hD hS () (rfl) rfl d_MM_kind_18
set_option maxHeartbeats 4000000 in
set_option maxRecDepth 100000 in
theorem c_MM_commands_0 (l : Launch) (D : va_G) (tA : Nat → ClassId) (sz : Nat) (h0 : Nat) (fs : List Value) (t0 : Int32) (ht : fs[0]? = some (.int t0)) (k : Int32) (hv : fs[29]? = some (.int (nI 0))) : zMi l ({ cls := "ChanceArenaModel", name := "commands", desc := "(I)I" } : Jvm.MethodName) (zW (Jvm.Cond.code ({ cls := "ChanceArenaModel", name := "commands", desc := "(I)I" } : Jvm.MethodName) prog_15_method_92_code (2 : Nat) (Option.some Jvm.ClassFile.FieldType.int))) { frames := 1, cells := 0, slots := 0, locals := 22 } [.ref h0, .int k] D tA [(h0, .inr (13, fs))] sz (fun r (_ : Unit) => (fun r => r = -1) r) (fun _ => [(h0, .inr (13, (fs.set 0 (.int 0))))]) 0 0 := by
  refine zOpen (fun A => va_Qi (fun r (_ : Unit) => (fun r => r = -1) r) (zPost D A (fun _ => [(h0, .inr (13, (fs.set 0 (.int 0))))])) A) (lv := [(0, .ref h0), (1, .int k)]) (by decide) rfl (Nat.le_of_ble_eq_true rfl) rfl ?_
  intro p e s m below meth c A ls hx hb hr hml hh hg hown hlocks hnm hK hA hP hD0 hAw hS hl
  have hD := zD hD0 hAw
  refine lv_aload_n hx hb d_MM_commands_0 rfl (lv_at hl 0 rfl) ?_
  refine lv_iload_n hx hb d_MM_commands_1 rfl (lv_at hl 1 rfl) ?_
  refine zCalli (wc := [(h0, .inr (13, fs))]) (wr := []) hP hD hS hA [0] [] rfl rfl (by decide) (by decide) (va_runV (As := [.int k]) (rest := []) ⟨hx, hb, hml, hown, hg⟩ (c_MM_isState l D tA _ h0 fs t0 ht (nI 0) k hv) (zV 1 hg k12_157 k12_159 ks_MM_isState k1_14 k12_160 rfl rfl (by decide +kernel) ⟨(Nat.le_of_ble_eq_true rfl), (Nat.le_of_ble_eq_true rfl)⟩) (zPreV hh hK hP hD [0] (by decide) rfl (ci := 13) rfl 0 rfl) rfl rfl hl.1 rfl (lv_room (Nat.le_of_ble_eq_true rfl)) d_MM_commands_2 ⟨(Nat.le_of_ble_eq_true rfl), (Nat.le_of_ble_eq_true rfl)⟩) (fun r2 _ H locs er2 hP hD hS => ?_)
  replace hP : va_P D vwCl [(h0, .inr (13, (fs.set 0 (.int 0))))] _ := hP
  replace hD : va_D A [(h0, .inr (13, (fs.set 0 (.int 0))))] := hD
  refine lv_if_eq (tgt := 17) hx hb d_MM_commands_5 (by decide) (fun c5 => ?_) (fun c5 => absurd (zHS0 er2) c5)
  refine lv_iconst (v := (-1)) hx hb d_MM_commands_17 (by decide) ?_
  exact zZret (post := fun r (_ : Unit) => (fun r => r = -1) r) (W1 := fun _ => [(h0, .inr (13, (fs.set 0 (.int 0))))]) (v := (-1)) hx hb hr rfl hlocks hP hD hS () (rfl) rfl d_MM_commands_18
set_option maxHeartbeats 4000000 in
set_option maxRecDepth 100000 in
theorem c_MM_choice_0 (l : Launch) (D : va_G) (tA : Nat → ClassId) (sz : Nat) (h0 : Nat) (fs : List Value) (t0 : Int32) (ht : fs[0]? = some (.int t0)) (k : Int32) (hv : fs[29]? = some (.int (nI 0))) : zMi l ({ cls := "ChanceArenaModel", name := "choice", desc := "(I)I" } : Jvm.MethodName) (zW (Jvm.Cond.code ({ cls := "ChanceArenaModel", name := "choice", desc := "(I)I" } : Jvm.MethodName) prog_15_method_107_code (2 : Nat) (Option.some Jvm.ClassFile.FieldType.int))) { frames := 1, cells := 0, slots := 0, locals := 22 } [.ref h0, .int k] D tA [(h0, .inr (13, fs))] sz (fun r (_ : Unit) => (fun r => r = -1) r) (fun _ => [(h0, .inr (13, (fs.set 0 (.int 0))))]) 0 0 := by
  refine zOpen (fun A => va_Qi (fun r (_ : Unit) => (fun r => r = -1) r) (zPost D A (fun _ => [(h0, .inr (13, (fs.set 0 (.int 0))))])) A) (lv := [(0, .ref h0), (1, .int k)]) (by decide) rfl (Nat.le_of_ble_eq_true rfl) rfl ?_
  intro p e s m below meth c A ls hx hb hr hml hh hg hown hlocks hnm hK hA hP hD0 hAw hS hl
  have hD := zD hD0 hAw
  refine lv_aload_n hx hb d_MM_choice_0 rfl (lv_at hl 0 rfl) ?_
  refine lv_iload_n hx hb d_MM_choice_1 rfl (lv_at hl 1 rfl) ?_
  refine zCalli (wc := [(h0, .inr (13, fs))]) (wr := []) hP hD hS hA [0] [] rfl rfl (by decide) (by decide) (va_runV (As := [.int k]) (rest := []) ⟨hx, hb, hml, hown, hg⟩ (c_MM_isState l D tA _ h0 fs t0 ht (nI 0) k hv) (zV 1 hg k12_157 k12_159 ks_MM_isState k1_14 k12_160 rfl rfl (by decide +kernel) ⟨(Nat.le_of_ble_eq_true rfl), (Nat.le_of_ble_eq_true rfl)⟩) (zPreV hh hK hP hD [0] (by decide) rfl (ci := 13) rfl 0 rfl) rfl rfl hl.1 rfl (lv_room (Nat.le_of_ble_eq_true rfl)) d_MM_choice_2 ⟨(Nat.le_of_ble_eq_true rfl), (Nat.le_of_ble_eq_true rfl)⟩) (fun r2 _ H locs er2 hP hD hS => ?_)
  replace hP : va_P D vwCl [(h0, .inr (13, (fs.set 0 (.int 0))))] _ := hP
  replace hD : va_D A [(h0, .inr (13, (fs.set 0 (.int 0))))] := hD
  refine lv_if_eq (tgt := 29) hx hb d_MM_choice_5 (by decide) (fun c5 => ?_) (fun c5 => absurd (zHS0 er2) c5)
  refine lv_iconst (v := (-1)) hx hb d_MM_choice_29 (by decide) ?_
  exact zZret (post := fun r (_ : Unit) => (fun r => r = -1) r) (W1 := fun _ => [(h0, .inr (13, (fs.set 0 (.int 0))))]) (v := (-1)) hx hb hr rfl hlocks hP hD hS () (rfl) rfl d_MM_choice_30
set_option maxHeartbeats 4000000 in
set_option maxRecDepth 100000 in
theorem c_MM_rank_0 (l : Launch) (D : va_G) (tA : Nat → ClassId) (sz : Nat) (h0 : Nat) (fs : List Value) (t0 : Int32) (ht : fs[0]? = some (.int t0)) (k : Int32) (hv : fs[29]? = some (.int (nI 0))) : zMi l ({ cls := "ChanceArenaModel", name := "rank", desc := "(I)I" } : Jvm.MethodName) (zW (Jvm.Cond.code ({ cls := "ChanceArenaModel", name := "rank", desc := "(I)I" } : Jvm.MethodName) prog_15_method_108_code (2 : Nat) (Option.some Jvm.ClassFile.FieldType.int))) { frames := 1, cells := 0, slots := 0, locals := 22 } [.ref h0, .int k] D tA [(h0, .inr (13, fs))] sz (fun r (_ : Unit) => (fun r => r = -1) r) (fun _ => [(h0, .inr (13, (fs.set 0 (.int 0))))]) 0 0 := by
  refine zOpen (fun A => va_Qi (fun r (_ : Unit) => (fun r => r = -1) r) (zPost D A (fun _ => [(h0, .inr (13, (fs.set 0 (.int 0))))])) A) (lv := [(0, .ref h0), (1, .int k)]) (by decide) rfl (Nat.le_of_ble_eq_true rfl) rfl ?_
  intro p e s m below meth c A ls hx hb hr hml hh hg hown hlocks hnm hK hA hP hD0 hAw hS hl
  have hD := zD hD0 hAw
  refine lv_aload_n hx hb d_MM_rank_0 rfl (lv_at hl 0 rfl) ?_
  refine lv_iload_n hx hb d_MM_rank_1 rfl (lv_at hl 1 rfl) ?_
  refine zCalli (wc := [(h0, .inr (13, fs))]) (wr := []) hP hD hS hA [0] [] rfl rfl (by decide) (by decide) (va_runV (As := [.int k]) (rest := []) ⟨hx, hb, hml, hown, hg⟩ (c_MM_isState l D tA _ h0 fs t0 ht (nI 0) k hv) (zV 1 hg k12_157 k12_159 ks_MM_isState k1_14 k12_160 rfl rfl (by decide +kernel) ⟨(Nat.le_of_ble_eq_true rfl), (Nat.le_of_ble_eq_true rfl)⟩) (zPreV hh hK hP hD [0] (by decide) rfl (ci := 13) rfl 0 rfl) rfl rfl hl.1 rfl (lv_room (Nat.le_of_ble_eq_true rfl)) d_MM_rank_2 ⟨(Nat.le_of_ble_eq_true rfl), (Nat.le_of_ble_eq_true rfl)⟩) (fun r2 _ H locs er2 hP hD hS => ?_)
  replace hP : va_P D vwCl [(h0, .inr (13, (fs.set 0 (.int 0))))] _ := hP
  replace hD : va_D A [(h0, .inr (13, (fs.set 0 (.int 0))))] := hD
  refine lv_if_eq (tgt := 29) hx hb d_MM_rank_5 (by decide) (fun c5 => ?_) (fun c5 => absurd (zHS0 er2) c5)
  refine lv_iconst (v := (-1)) hx hb d_MM_rank_29 (by decide) ?_
  exact zZret (post := fun r (_ : Unit) => (fun r => r = -1) r) (W1 := fun _ => [(h0, .inr (13, (fs.set 0 (.int 0))))]) (v := (-1)) hx hb hr rfl hlocks hP hD hS () (rfl) rfl d_MM_rank_30
set_option maxHeartbeats 4000000 in
set_option maxRecDepth 100000 in
theorem c_MM_next_0 (l : Launch) (D : va_G) (tA : Nat → ClassId) (sz : Nat) (h0 : Nat) (fs : List Value) (t0 : Int32) (ht : fs[0]? = some (.int t0)) (k : Int32) (d : Int32) (hv : fs[29]? = some (.int (nI 0))) : zMi l ({ cls := "ChanceArenaModel", name := "next", desc := "(II)I" } : Jvm.MethodName) (zW (Jvm.Cond.code ({ cls := "ChanceArenaModel", name := "next", desc := "(II)I" } : Jvm.MethodName) prog_15_method_109_code (3 : Nat) (Option.some Jvm.ClassFile.FieldType.int))) { frames := 1, cells := 0, slots := 0, locals := 22 } [.ref h0, .int k, .int d] D tA [(h0, .inr (13, fs))] sz (fun r (_ : Unit) => (fun r => r = -1) r) (fun _ => [(h0, .inr (13, (fs.set 0 (.int 0))))]) 0 0 := by
  refine zOpen (fun A => va_Qi (fun r (_ : Unit) => (fun r => r = -1) r) (zPost D A (fun _ => [(h0, .inr (13, (fs.set 0 (.int 0))))])) A) (lv := [(0, .ref h0), (1, .int k), (2, .int d)]) (by decide) rfl (Nat.le_of_ble_eq_true rfl) rfl ?_
  intro p e s m below meth c A ls hx hb hr hml hh hg hown hlocks hnm hK hA hP hD0 hAw hS hl
  have hD := zD hD0 hAw
  refine lv_aload_n hx hb d_MM_next_0 rfl (lv_at hl 0 rfl) ?_
  refine lv_iload_n hx hb d_MM_next_1 rfl (lv_at hl 1 rfl) ?_
  refine zCalli (wc := [(h0, .inr (13, fs))]) (wr := []) hP hD hS hA [0] [] rfl rfl (by decide) (by decide) (va_runV (As := [.int k]) (rest := []) ⟨hx, hb, hml, hown, hg⟩ (c_MM_isState l D tA _ h0 fs t0 ht (nI 0) k hv) (zV 1 hg k12_157 k12_159 ks_MM_isState k1_14 k12_160 rfl rfl (by decide +kernel) ⟨(Nat.le_of_ble_eq_true rfl), (Nat.le_of_ble_eq_true rfl)⟩) (zPreV hh hK hP hD [0] (by decide) rfl (ci := 13) rfl 0 rfl) rfl rfl hl.1 rfl (lv_room (Nat.le_of_ble_eq_true rfl)) d_MM_next_2 ⟨(Nat.le_of_ble_eq_true rfl), (Nat.le_of_ble_eq_true rfl)⟩) (fun r2 _ H locs er2 hP hD hS => ?_)
  replace hP : va_P D vwCl [(h0, .inr (13, (fs.set 0 (.int 0))))] _ := hP
  replace hD : va_D A [(h0, .inr (13, (fs.set 0 (.int 0))))] := hD
  refine lv_if_eq (tgt := 24) hx hb d_MM_next_5 (by decide) (fun c5 => ?_) (fun c5 => absurd (zHS0 er2) c5)
  refine lv_iconst (v := (-1)) hx hb d_MM_next_24 (by decide) ?_
  exact zZret (post := fun r (_ : Unit) => (fun r => r = -1) r) (W1 := fun _ => [(h0, .inr (13, (fs.set 0 (.int 0))))]) (v := (-1)) hx hb hr rfl hlocks hP hD hS () (rfl) rfl d_MM_next_25
set_option maxHeartbeats 4000000 in
set_option maxRecDepth 100000 in
theorem c_MM_isCommand_0 (l : Launch) (D : va_G) (tA : Nat → ClassId) (sz : Nat) (h0 : Nat) (fs : List Value) (t0 : Int32) (ht : fs[0]? = some (.int t0)) (k i : Int32) (hv : fs[29]? = some (.int (nI 0))) : zMi l ({ cls := "ChanceArenaModel", name := "isCommand", desc := "(II)Z" } : Jvm.MethodName) (zW (Jvm.Cond.code ({ cls := "ChanceArenaModel", name := "isCommand", desc := "(II)Z" } : Jvm.MethodName) prog_15_method_93_code (3 : Nat) (Option.some Jvm.ClassFile.FieldType.boolean))) { frames := 1, cells := 0, slots := 0, locals := 22 } [.ref h0, .int k, .int i] D tA [(h0, .inr (13, fs))] sz (fun r (_ : Unit) => (fun r => r = 0) r) (fun _ => [(h0, .inr (13, (fs.set 0 (.int 0))))]) 0 0 := by
  refine zOpen (fun A => va_Qi (fun r (_ : Unit) => (fun r => r = 0) r) (zPost D A (fun _ => [(h0, .inr (13, (fs.set 0 (.int 0))))])) A) (lv := [(0, .ref h0), (1, .int k), (2, .int i)]) (by decide) rfl (Nat.le_of_ble_eq_true rfl) rfl ?_
  intro p e s m below meth c A ls hx hb hr hml hh hg hown hlocks hnm hK hA hP hD0 hAw hS hl
  have hD := zD hD0 hAw
  refine lv_aload_n hx hb d_MM_isCommand_0 rfl (lv_at hl 0 rfl) ?_
  refine lv_iload_n hx hb d_MM_isCommand_1 rfl (lv_at hl 1 rfl) ?_
  refine zCalli (wc := [(h0, .inr (13, fs))]) (wr := []) hP hD hS hA [0] [] rfl rfl (by decide) (by decide) (va_runV (As := [.int k]) (rest := []) ⟨hx, hb, hml, hown, hg⟩ (c_MM_isState l D tA _ h0 fs t0 ht (nI 0) k hv) (zV 1 hg k12_157 k12_159 ks_MM_isState k1_14 k12_160 rfl rfl (by decide +kernel) ⟨(Nat.le_of_ble_eq_true rfl), (Nat.le_of_ble_eq_true rfl)⟩) (zPreV hh hK hP hD [0] (by decide) rfl (ci := 13) rfl 0 rfl) rfl rfl hl.1 rfl (lv_room (Nat.le_of_ble_eq_true rfl)) d_MM_isCommand_2 ⟨(Nat.le_of_ble_eq_true rfl), (Nat.le_of_ble_eq_true rfl)⟩) (fun r2 _ H locs er2 hP hD hS => ?_)
  replace hP : va_P D vwCl [(h0, .inr (13, (fs.set 0 (.int 0))))] _ := hP
  replace hD : va_D A [(h0, .inr (13, (fs.set 0 (.int 0))))] := hD
  refine lv_if_eq (tgt := 26) hx hb d_MM_isCommand_5 (by decide) (fun c5 => ?_) (fun c5 => absurd (zHS0 er2) c5)
  refine lv_iconst (v := 0) hx hb d_MM_isCommand_26 (by decide) ?_
  exact zZret (post := fun r (_ : Unit) => (fun r => r = 0) r) (W1 := fun _ => [(h0, .inr (13, (fs.set 0 (.int 0))))]) (v := 0) hx hb hr rfl hlocks hP hD hS () (rfl) rfl d_MM_isCommand_27
set_option maxHeartbeats 4000000 in
set_option maxRecDepth 100000 in
theorem c_MM_command_0 (l : Launch) (D : va_G) (tA : Nat → ClassId) (sz : Nat) (h0 : Nat) (fs : List Value) (t0 : Int32) (ht : fs[0]? = some (.int t0)) (k i : Int32) (hv : fs[29]? = some (.int (nI 0))) : zMi l ({ cls := "ChanceArenaModel", name := "command", desc := "(II)I" } : Jvm.MethodName) (zW (Jvm.Cond.code ({ cls := "ChanceArenaModel", name := "command", desc := "(II)I" } : Jvm.MethodName) prog_15_method_94_code (3 : Nat) (Option.some Jvm.ClassFile.FieldType.int))) { frames := 2, cells := 0, slots := 0, locals := 44 } [.ref h0, .int k, .int i] D tA [(h0, .inr (13, fs))] sz (fun r (_ : Unit) => (fun r => r = -1) r) (fun _ => [(h0, .inr (13, (fs.set 0 (.int 0))))]) 0 0 := by
  refine zOpen (fun A => va_Qi (fun r (_ : Unit) => (fun r => r = -1) r) (zPost D A (fun _ => [(h0, .inr (13, (fs.set 0 (.int 0))))])) A) (lv := [(0, .ref h0), (1, .int k), (2, .int i)]) (by decide) rfl (Nat.le_of_ble_eq_true rfl) rfl ?_
  intro p e s m below meth c A ls hx hb hr hml hh hg hown hlocks hnm hK hA hP hD0 hAw hS hl
  have hD := zD hD0 hAw
  refine lv_aload_n hx hb d_MM_command_0 rfl (lv_at hl 0 rfl) ?_
  refine lv_iload_n hx hb d_MM_command_1 rfl (lv_at hl 1 rfl) ?_
  refine lv_iload_n hx hb d_MM_command_2 rfl (lv_at hl 2 rfl) ?_
  refine zCalli (wc := [(h0, .inr (13, fs))]) (wr := []) hP hD hS hA [0] [] rfl rfl (by decide) (by decide) (va_runV (As := [.int k, .int i]) (rest := []) ⟨hx, hb, hml, hown, hg⟩ (c_MM_isCommand_0 l D tA _ h0 fs t0 ht k i hv) (zV 2 hg k12_169 k12_171 ks_MM_isCommand k1_14 k12_172 rfl rfl (by decide +kernel) ⟨(Nat.le_of_ble_eq_true rfl), (Nat.le_of_ble_eq_true rfl)⟩) (zPreV hh hK hP hD [0] (by decide) rfl (ci := 13) rfl 0 rfl) rfl rfl hl.1 rfl (lv_room (Nat.le_of_ble_eq_true rfl)) d_MM_command_3 ⟨(Nat.le_of_ble_eq_true rfl), (Nat.le_of_ble_eq_true rfl)⟩) (fun r3 _ H locs er3 hP hD hS => ?_)
  replace hP : va_P D vwCl [(h0, .inr (13, (fs.set 0 (.int 0))))] _ := hP
  replace hD : va_D A [(h0, .inr (13, (fs.set 0 (.int 0))))] := hD
  refine lv_if_eq (tgt := 27) hx hb d_MM_command_6 (by decide) (fun c6 => ?_) (fun c6 => absurd er3 c6)
  refine lv_iconst (v := (-1)) hx hb d_MM_command_27 (by decide) ?_
  exact zZret (post := fun r (_ : Unit) => (fun r => r = -1) r) (W1 := fun _ => [(h0, .inr (13, (fs.set 0 (.int 0))))]) (v := (-1)) hx hb hr rfl hlocks hP hD hS () (rfl) rfl d_MM_command_28
set_option maxHeartbeats 4000000 in
set_option maxRecDepth 100000 in
theorem c_MM_branches_0 (l : Launch) (D : va_G) (tA : Nat → ClassId) (sz : Nat) (h0 : Nat) (fs : List Value) (t0 : Int32) (ht : fs[0]? = some (.int t0)) (k i : Int32) (hv : fs[29]? = some (.int (nI 0))) : zMi l ({ cls := "ChanceArenaModel", name := "branches", desc := "(II)I" } : Jvm.MethodName) (zW (Jvm.Cond.code ({ cls := "ChanceArenaModel", name := "branches", desc := "(II)I" } : Jvm.MethodName) prog_15_method_95_code (3 : Nat) (Option.some Jvm.ClassFile.FieldType.int))) { frames := 2, cells := 0, slots := 0, locals := 44 } [.ref h0, .int k, .int i] D tA [(h0, .inr (13, fs))] sz (fun r (_ : Unit) => (fun r => r = -1) r) (fun _ => [(h0, .inr (13, (fs.set 0 (.int 0))))]) 0 0 := by
  refine zOpen (fun A => va_Qi (fun r (_ : Unit) => (fun r => r = -1) r) (zPost D A (fun _ => [(h0, .inr (13, (fs.set 0 (.int 0))))])) A) (lv := [(0, .ref h0), (1, .int k), (2, .int i)]) (by decide) rfl (Nat.le_of_ble_eq_true rfl) rfl ?_
  intro p e s m below meth c A ls hx hb hr hml hh hg hown hlocks hnm hK hA hP hD0 hAw hS hl
  have hD := zD hD0 hAw
  refine lv_aload_n hx hb d_MM_branches_0 rfl (lv_at hl 0 rfl) ?_
  refine lv_iload_n hx hb d_MM_branches_1 rfl (lv_at hl 1 rfl) ?_
  refine lv_iload_n hx hb d_MM_branches_2 rfl (lv_at hl 2 rfl) ?_
  refine zCalli (wc := [(h0, .inr (13, fs))]) (wr := []) hP hD hS hA [0] [] rfl rfl (by decide) (by decide) (va_runV (As := [.int k, .int i]) (rest := []) ⟨hx, hb, hml, hown, hg⟩ (c_MM_isCommand_0 l D tA _ h0 fs t0 ht k i hv) (zV 2 hg k12_169 k12_171 ks_MM_isCommand k1_14 k12_172 rfl rfl (by decide +kernel) ⟨(Nat.le_of_ble_eq_true rfl), (Nat.le_of_ble_eq_true rfl)⟩) (zPreV hh hK hP hD [0] (by decide) rfl (ci := 13) rfl 0 rfl) rfl rfl hl.1 rfl (lv_room (Nat.le_of_ble_eq_true rfl)) d_MM_branches_3 ⟨(Nat.le_of_ble_eq_true rfl), (Nat.le_of_ble_eq_true rfl)⟩) (fun r3 _ H locs er3 hP hD hS => ?_)
  replace hP : va_P D vwCl [(h0, .inr (13, (fs.set 0 (.int 0))))] _ := hP
  replace hD : va_D A [(h0, .inr (13, (fs.set 0 (.int 0))))] := hD
  refine lv_if_eq (tgt := 27) hx hb d_MM_branches_6 (by decide) (fun c6 => ?_) (fun c6 => absurd er3 c6)
  refine lv_iconst (v := (-1)) hx hb d_MM_branches_27 (by decide) ?_
  exact zZret (post := fun r (_ : Unit) => (fun r => r = -1) r) (W1 := fun _ => [(h0, .inr (13, (fs.set 0 (.int 0))))]) (v := (-1)) hx hb hr rfl hlocks hP hD hS () (rfl) rfl d_MM_branches_28
set_option maxHeartbeats 4000000 in
set_option maxRecDepth 100000 in
theorem c_MM_branch_0 (l : Launch) (D : va_G) (tA : Nat → ClassId) (sz : Nat) (h0 : Nat) (fs : List Value) (t0 : Int32) (ht : fs[0]? = some (.int t0)) (k i : Int32) (j w : Int32) (hv : fs[29]? = some (.int (nI 0))) : zMi l ({ cls := "ChanceArenaModel", name := "branch", desc := "(IIII)I" } : Jvm.MethodName) (zW (Jvm.Cond.code ({ cls := "ChanceArenaModel", name := "branch", desc := "(IIII)I" } : Jvm.MethodName) prog_15_method_96_code (6 : Nat) (Option.some Jvm.ClassFile.FieldType.int))) { frames := 2, cells := 0, slots := 0, locals := 44 } [.ref h0, .int k, .int i, .int j, .int w] D tA [(h0, .inr (13, fs))] sz (fun r (_ : Unit) => (fun r => r = -1) r) (fun _ => [(h0, .inr (13, (fs.set 0 (.int 0))))]) 0 0 := by
  refine zOpen (fun A => va_Qi (fun r (_ : Unit) => (fun r => r = -1) r) (zPost D A (fun _ => [(h0, .inr (13, (fs.set 0 (.int 0))))])) A) (lv := [(0, .ref h0), (1, .int k), (2, .int i), (3, .int j), (4, .int w)]) (by decide) rfl (Nat.le_of_ble_eq_true rfl) rfl ?_
  intro p e s m below meth c A ls hx hb hr hml hh hg hown hlocks hnm hK hA hP hD0 hAw hS hl
  have hD := zD hD0 hAw
  refine lv_aload_n hx hb d_MM_branch1_0 rfl (lv_at hl 0 rfl) ?_
  refine lv_iload_n hx hb d_MM_branch1_1 rfl (lv_at hl 1 rfl) ?_
  refine lv_iload_n hx hb d_MM_branch1_2 rfl (lv_at hl 2 rfl) ?_
  refine zCalli (wc := [(h0, .inr (13, fs))]) (wr := []) hP hD hS hA [0] [] rfl rfl (by decide) (by decide) (va_runV (As := [.int k, .int i]) (rest := []) ⟨hx, hb, hml, hown, hg⟩ (c_MM_isCommand_0 l D tA _ h0 fs t0 ht k i hv) (zV 2 hg k12_169 k12_171 ks_MM_isCommand k1_14 k12_172 rfl rfl (by decide +kernel) ⟨(Nat.le_of_ble_eq_true rfl), (Nat.le_of_ble_eq_true rfl)⟩) (zPreV hh hK hP hD [0] (by decide) rfl (ci := 13) rfl 0 rfl) rfl rfl hl.1 rfl (lv_room (Nat.le_of_ble_eq_true rfl)) d_MM_branch1_3 ⟨(Nat.le_of_ble_eq_true rfl), (Nat.le_of_ble_eq_true rfl)⟩) (fun r3 _ H locs er3 hP hD hS => ?_)
  replace hP : va_P D vwCl [(h0, .inr (13, (fs.set 0 (.int 0))))] _ := hP
  replace hD : va_D A [(h0, .inr (13, (fs.set 0 (.int 0))))] := hD
  refine lv_if_eq (tgt := 43) hx hb d_MM_branch1_6 (by decide) (fun c6 => ?_) (fun c6 => absurd er3 c6)
  refine lv_iconst (v := (-1)) hx hb d_MM_branch1_43 (by decide) ?_
  exact zZret (post := fun r (_ : Unit) => (fun r => r = -1) r) (W1 := fun _ => [(h0, .inr (13, (fs.set 0 (.int 0))))]) (v := (-1)) hx hb hr rfl hlocks hP hD hS () (rfl) rfl d_MM_branch1_44
