theorem k1_172 : (Jvm.Cond.fieldLink "ChanceArena$Machine" (95 : Nat) "ChanceArena$Machine" "fault" "I") ∈ lw_R := zR (zk_1 _ (List.mem_of_getElem? (i := 172) (by decide +kernel))) rfl
theorem k1_173 : (Jvm.Cond.fieldLink "ChanceArena$Game" (136 : Nat) "ChanceArena$Machine" "fault" "I") ∈ lw_R := zR (zk_1 _ (List.mem_of_getElem? (i := 173) (by decide +kernel))) rfl
theorem k1_175 : (Jvm.Cond.fieldLink "ChanceArena$Machine" (98 : Nat) "ChanceArena$Machine" "place" "I") ∈ lw_R := zR (zk_1 _ (List.mem_of_getElem? (i := 175) (by decide +kernel))) rfl
theorem k1_176 : (Jvm.Cond.fieldLink "ChanceArena$Game" (132 : Nat) "ChanceArena$Machine" "place" "I") ∈ lw_R := zR (zk_1 _ (List.mem_of_getElem? (i := 176) (by decide +kernel))) rfl
theorem k1_179 : (Jvm.Cond.fieldLink "ChanceArena$Machine" (43 : Nat) "ChanceArena$Machine" "base" "I") ∈ lw_R := zR (zk_1 _ (List.mem_of_getElem? (i := 179) (by decide +kernel))) rfl
theorem k1_181 : (Jvm.Cond.fieldLink "ChanceArena$Game" (83 : Nat) "ChanceArena$Machine" "next" "[I") ∈ lw_R := zR (zk_1 _ (List.mem_of_getElem? (i := 181) (by decide +kernel))) rfl
theorem k2_33 : (Jvm.Cond.fieldLink "ChanceArena$Game" (91 : Nat) "ChanceArena$Program" "vars" "I") ∈ lw_R := zR (zk_2 _ (List.mem_of_getElem? (i := 33) (by decide +kernel))) rfl
theorem k2_171 : (Jvm.Cond.fieldLink "ChanceArena$Game" (135 : Nat) "ChanceArena$Game" "place" "I") ∈ lw_R := zR (zk_2 _ (List.mem_of_getElem? (i := 171) (by decide +kernel))) rfl
theorem k2_177 : (Jvm.Cond.fieldLink "ChanceArena$Game" (72 : Nat) "ChanceArena$Game" "text" "LChanceArena$Program;") ∈ lw_R := zR (zk_2 _ (List.mem_of_getElem? (i := 177) (by decide +kernel))) rfl
theorem k5_76 : (Jvm.Cond.code ({ cls := "ChanceArena$Machine", name := "stop", desc := "(II)Z" } : Jvm.MethodName) prog_5_method_6_code (3 : Nat) (Option.some Jvm.ClassFile.FieldType.boolean)) ∈ lw_R := zR (zk_5 _ (List.mem_of_getElem? (i := 76) (by decide +kernel))) rfl
theorem k5_83 : (Jvm.Cond.code ({ cls := "ChanceArena$Machine", name := "commonDivisor", desc := "(JJ)J" } : Jvm.MethodName) prog_5_method_2_code (11 : Nat) (Option.some Jvm.ClassFile.FieldType.long)) ∈ lw_R := zR (zk_5 _ (List.mem_of_getElem? (i := 83) (by decide +kernel))) rfl
theorem k7_132 : (Jvm.Cond.code ({ cls := "ChanceArena$Game", name := "drawn", desc := "(II)I" } : Jvm.MethodName) prog_4_method_5_code (8 : Nat) (Option.some Jvm.ClassFile.FieldType.int)) ∈ lw_R := zR (zk_7 _ (List.mem_of_getElem? (i := 132) (by decide +kernel))) rfl
theorem k7_230 : (Jvm.Cond.code ({ cls := "ChanceArena$Game", name := "isNext", desc := "(I)Z" } : Jvm.MethodName) prog_4_method_14_code (3 : Nat) (Option.some Jvm.ClassFile.FieldType.boolean)) ∈ lw_R := zR (zk_7 _ (List.mem_of_getElem? (i := 230) (by decide +kernel))) rfl
theorem k7_238 : (Jvm.Cond.code ({ cls := "ChanceArena$Machine", name := "enter", desc := "([II)V" } : Jvm.MethodName) prog_5_method_3_code (3 : Nat) (Option.none : Option Jvm.ClassFile.FieldType)) ∈ lw_R := zR (zk_7 _ (List.mem_of_getElem? (i := 238) (by decide +kernel))) rfl
theorem k8_3 : (Jvm.Cond.code ({ cls := "ChanceArena$Game", name := "machineFault", desc := "()I" } : Jvm.MethodName) prog_4_method_8_code (1 : Nat) (Option.some Jvm.ClassFile.FieldType.int)) ∈ lw_R := zR (zk_8 _ (List.mem_of_getElem? (i := 3) (by decide +kernel))) rfl
theorem k8_11 : (Jvm.Cond.code ({ cls := "ChanceArena$Game", name := "fault", desc := "(II)I" } : Jvm.MethodName) prog_4_method_9_code (3 : Nat) (Option.some Jvm.ClassFile.FieldType.int)) ∈ lw_R := zR (zk_8 _ (List.mem_of_getElem? (i := 11) (by decide +kernel))) rfl
theorem d_Ga_drawn_0 : decode prog_4_method_5_code 0 = .ok (.iload_n 2, 1) := by decide +kernel
theorem d_Ga_drawn_1 : decode prog_4_method_5_code 1 = .ok (.i2l, 1) := by decide +kernel
theorem d_Ga_drawn_2 : decode prog_4_method_5_code 2 = .ok (.aload_n 0, 1) := by decide +kernel
theorem d_Ga_drawn_3 : decode prog_4_method_5_code 3 = .ok (.getfield 27, 3) := by decide +kernel
theorem d_Ga_drawn_6 : decode prog_4_method_5_code 6 = .ok (.iload_n 1, 1) := by decide +kernel
theorem d_Ga_drawn_7 : decode prog_4_method_5_code 7 = .ok (.iaload, 1) := by decide +kernel
theorem d_Ga_drawn_8 : decode prog_4_method_5_code 8 = .ok (.i2l, 1) := by decide +kernel
theorem d_Ga_drawn_9 : decode prog_4_method_5_code 9 = .ok (.lmul, 1) := by decide +kernel
theorem d_Ga_drawn_10 : decode prog_4_method_5_code 10 = .ok (.lstore_n 3, 1) := by decide +kernel
theorem d_Ga_drawn_11 : decode prog_4_method_5_code 11 = .ok (.lconst 0, 1) := by decide +kernel
theorem d_Ga_drawn_12 : decode prog_4_method_5_code 12 = .ok (.lstore 5, 2) := by decide +kernel
theorem d_Ga_drawn_14 : decode prog_4_method_5_code 14 = .ok (.aload_n 0, 1) := by decide +kernel
theorem d_Ga_drawn_15 : decode prog_4_method_5_code 15 = .ok (.getfield 30, 3) := by decide +kernel
theorem d_Ga_drawn_18 : decode prog_4_method_5_code 18 = .ok (.iload_n 1, 1) := by decide +kernel
theorem d_Ga_drawn_19 : decode prog_4_method_5_code 19 = .ok (.iaload, 1) := by decide +kernel
theorem d_Ga_drawn_20 : decode prog_4_method_5_code 20 = .ok (.istore 7, 2) := by decide +kernel
theorem d_Ga_drawn_22 : decode prog_4_method_5_code 22 = .ok (.iload 7, 2) := by decide +kernel
theorem d_Ga_drawn_24 : decode prog_4_method_5_code 24 = .ok (.aload_n 0, 1) := by decide +kernel
theorem d_Ga_drawn_25 : decode prog_4_method_5_code 25 = .ok (.getfield 30, 3) := by decide +kernel
theorem d_Ga_drawn_28 : decode prog_4_method_5_code 28 = .ok (.iload_n 1, 1) := by decide +kernel
theorem d_Ga_drawn_29 : decode prog_4_method_5_code 29 = .ok (.iconst 1, 1) := by decide +kernel
theorem d_Ga_drawn_30 : decode prog_4_method_5_code 30 = .ok (.iadd, 1) := by decide +kernel
theorem d_Ga_drawn_31 : decode prog_4_method_5_code 31 = .ok (.iaload, 1) := by decide +kernel
theorem d_Ga_drawn_32 : decode prog_4_method_5_code 32 = .ok (.if_icmp .ge 40, 3) := by decide +kernel
theorem d_Ga_drawn_72 : decode prog_4_method_5_code 72 = .ok (.iconst (-1), 1) := by decide +kernel
theorem d_Ga_drawn_73 : decode prog_4_method_5_code 73 = .ok (.ireturn, 1) := by decide +kernel
theorem d_Ga_drawn_35 : decode prog_4_method_5_code 35 = .ok (.lload 5, 2) := by decide +kernel
theorem d_Ga_drawn_37 : decode prog_4_method_5_code 37 = .ok (.aload_n 0, 1) := by decide +kernel
theorem d_Ga_drawn_38 : decode prog_4_method_5_code 38 = .ok (.getfield 36, 3) := by decide +kernel
theorem d_Ga_drawn_41 : decode prog_4_method_5_code 41 = .ok (.iload 7, 2) := by decide +kernel
theorem d_Ga_drawn_43 : decode prog_4_method_5_code 43 = .ok (.iaload, 1) := by decide +kernel
theorem d_Ga_drawn_44 : decode prog_4_method_5_code 44 = .ok (.i2l, 1) := by decide +kernel
theorem d_Ga_drawn_45 : decode prog_4_method_5_code 45 = .ok (.ladd, 1) := by decide +kernel
theorem d_Ga_drawn_46 : decode prog_4_method_5_code 46 = .ok (.lstore 5, 2) := by decide +kernel
theorem d_Ga_drawn_48 : decode prog_4_method_5_code 48 = .ok (.lload 5, 2) := by decide +kernel
theorem d_Ga_drawn_50 : decode prog_4_method_5_code 50 = .ok (.bipush 31, 2) := by decide +kernel
theorem d_Ga_drawn_52 : decode prog_4_method_5_code 52 = .ok (.lshl, 1) := by decide +kernel
theorem d_Ga_drawn_53 : decode prog_4_method_5_code 53 = .ok (.lload_n 3, 1) := by decide +kernel
theorem d_Ga_drawn_54 : decode prog_4_method_5_code 54 = .ok (.lcmp, 1) := by decide +kernel
theorem d_Ga_drawn_55 : decode prog_4_method_5_code 55 = .ok (.ifCond .le 11, 3) := by decide +kernel
theorem d_Ga_drawn_66 : decode prog_4_method_5_code 66 = .ok (.iinc 7 1, 3) := by decide +kernel
theorem d_Ga_drawn_69 : decode prog_4_method_5_code 69 = .ok (.goto (-47), 3) := by decide +kernel
theorem d_Ga_drawn_58 : decode prog_4_method_5_code 58 = .ok (.aload_n 0, 1) := by decide +kernel
theorem d_Ga_drawn_59 : decode prog_4_method_5_code 59 = .ok (.getfield 33, 3) := by decide +kernel
theorem d_Ga_drawn_62 : decode prog_4_method_5_code 62 = .ok (.iload 7, 2) := by decide +kernel
theorem d_Ga_drawn_64 : decode prog_4_method_5_code 64 = .ok (.iaload, 1) := by decide +kernel
theorem d_Ga_drawn_65 : decode prog_4_method_5_code 65 = .ok (.ireturn, 1) := by decide +kernel
theorem d_Ga_machineFault_0 : decode prog_4_method_8_code 0 = .ok (.aload_n 0, 1) := by decide +kernel
theorem d_Ga_machineFault_1 : decode prog_4_method_8_code 1 = .ok (.aload_n 0, 1) := by decide +kernel
theorem d_Ga_machineFault_2 : decode prog_4_method_8_code 2 = .ok (.getfield 42, 3) := by decide +kernel
theorem d_Ga_machineFault_5 : decode prog_4_method_8_code 5 = .ok (.getfield 132, 3) := by decide +kernel
theorem d_Ga_machineFault_8 : decode prog_4_method_8_code 8 = .ok (.putfield 135, 3) := by decide +kernel
theorem d_Ga_machineFault_11 : decode prog_4_method_8_code 11 = .ok (.aload_n 0, 1) := by decide +kernel
theorem d_Ga_machineFault_12 : decode prog_4_method_8_code 12 = .ok (.getfield 42, 3) := by decide +kernel
theorem d_Ga_machineFault_15 : decode prog_4_method_8_code 15 = .ok (.getfield 136, 3) := by decide +kernel
theorem d_Ga_machineFault_18 : decode prog_4_method_8_code 18 = .ok (.ireturn, 1) := by decide +kernel
theorem d_Ga_fault_0 : decode prog_4_method_9_code 0 = .ok (.aload_n 0, 1) := by decide +kernel
theorem d_Ga_fault_1 : decode prog_4_method_9_code 1 = .ok (.iload_n 2, 1) := by decide +kernel
theorem d_Ga_fault_2 : decode prog_4_method_9_code 2 = .ok (.putfield 135, 3) := by decide +kernel
theorem d_Ga_fault_5 : decode prog_4_method_9_code 5 = .ok (.iload_n 1, 1) := by decide +kernel
theorem d_Ga_fault_6 : decode prog_4_method_9_code 6 = .ok (.ireturn, 1) := by decide +kernel
theorem d_Ga_isNext_0 : decode prog_4_method_14_code 0 = .ok (.iconst 0, 1) := by decide +kernel
theorem d_Ga_isNext_1 : decode prog_4_method_14_code 1 = .ok (.istore_n 2, 1) := by decide +kernel
theorem d_Ga_isNext_2 : decode prog_4_method_14_code 2 = .ok (.iload_n 2, 1) := by decide +kernel
theorem d_Ga_isNext_3 : decode prog_4_method_14_code 3 = .ok (.aload_n 0, 1) := by decide +kernel
theorem d_Ga_isNext_4 : decode prog_4_method_14_code 4 = .ok (.getfield 72, 3) := by decide +kernel
theorem d_Ga_isNext_7 : decode prog_4_method_14_code 7 = .ok (.getfield 91, 3) := by decide +kernel
theorem d_Ga_isNext_10 : decode prog_4_method_14_code 10 = .ok (.if_icmp .ge 34, 3) := by decide +kernel
theorem d_Ga_isNext_44 : decode prog_4_method_14_code 44 = .ok (.iconst 1, 1) := by decide +kernel
theorem d_Ga_isNext_45 : decode prog_4_method_14_code 45 = .ok (.ireturn, 1) := by decide +kernel
theorem d_Ga_isNext_13 : decode prog_4_method_14_code 13 = .ok (.aload_n 0, 1) := by decide +kernel
theorem d_Ga_isNext_14 : decode prog_4_method_14_code 14 = .ok (.getfield 9, 3) := by decide +kernel
theorem d_Ga_isNext_17 : decode prog_4_method_14_code 17 = .ok (.iload_n 1, 1) := by decide +kernel
theorem d_Ga_isNext_18 : decode prog_4_method_14_code 18 = .ok (.bipush 12, 2) := by decide +kernel
theorem d_Ga_isNext_20 : decode prog_4_method_14_code 20 = .ok (.imul, 1) := by decide +kernel
theorem d_Ga_isNext_21 : decode prog_4_method_14_code 21 = .ok (.iload_n 2, 1) := by decide +kernel
theorem d_Ga_isNext_22 : decode prog_4_method_14_code 22 = .ok (.iadd, 1) := by decide +kernel
theorem d_Ga_isNext_23 : decode prog_4_method_14_code 23 = .ok (.iaload, 1) := by decide +kernel
theorem d_Ga_isNext_24 : decode prog_4_method_14_code 24 = .ok (.aload_n 0, 1) := by decide +kernel
theorem d_Ga_isNext_25 : decode prog_4_method_14_code 25 = .ok (.getfield 42, 3) := by decide +kernel
theorem d_Ga_isNext_28 : decode prog_4_method_14_code 28 = .ok (.getfield 83, 3) := by decide +kernel
theorem d_Ga_isNext_31 : decode prog_4_method_14_code 31 = .ok (.iload_n 2, 1) := by decide +kernel
theorem d_Ga_isNext_32 : decode prog_4_method_14_code 32 = .ok (.iaload, 1) := by decide +kernel
theorem d_Ga_isNext_33 : decode prog_4_method_14_code 33 = .ok (.if_icmp .eq 5, 3) := by decide +kernel
theorem d_Ga_isNext_38 : decode prog_4_method_14_code 38 = .ok (.iinc 2 1, 3) := by decide +kernel
theorem d_Ga_isNext_41 : decode prog_4_method_14_code 41 = .ok (.goto (-39), 3) := by decide +kernel
theorem d_Ga_isNext_36 : decode prog_4_method_14_code 36 = .ok (.iconst 0, 1) := by decide +kernel
theorem d_Ga_isNext_37 : decode prog_4_method_14_code 37 = .ok (.ireturn, 1) := by decide +kernel
theorem d_Ma_commonDivisor_0 : decode prog_5_method_2_code 0 = .ok (.lload_n 0, 1) := by decide +kernel
theorem d_Ma_commonDivisor_1 : decode prog_5_method_2_code 1 = .ok (.lconst 0, 1) := by decide +kernel
theorem d_Ma_commonDivisor_2 : decode prog_5_method_2_code 2 = .ok (.lcmp, 1) := by decide +kernel
theorem d_Ma_commonDivisor_3 : decode prog_5_method_2_code 3 = .ok (.ifCond .ge 8, 3) := by decide +kernel
theorem d_Ma_commonDivisor_11 : decode prog_5_method_2_code 11 = .ok (.lload_n 0, 1) := by decide +kernel
theorem d_Ma_commonDivisor_12 : decode prog_5_method_2_code 12 = .ok (.lstore 4, 2) := by decide +kernel
theorem d_Ma_commonDivisor_14 : decode prog_5_method_2_code 14 = .ok (.lload_n 2, 1) := by decide +kernel
theorem d_Ma_commonDivisor_15 : decode prog_5_method_2_code 15 = .ok (.lstore 6, 2) := by decide +kernel
theorem d_Ma_commonDivisor_17 : decode prog_5_method_2_code 17 = .ok (.iconst 0, 1) := by decide +kernel
theorem d_Ma_commonDivisor_18 : decode prog_5_method_2_code 18 = .ok (.istore 8, 2) := by decide +kernel
theorem d_Ma_commonDivisor_6 : decode prog_5_method_2_code 6 = .ok (.lload_n 0, 1) := by decide +kernel
theorem d_Ma_commonDivisor_7 : decode prog_5_method_2_code 7 = .ok (.lneg, 1) := by decide +kernel
theorem d_Ma_commonDivisor_8 : decode prog_5_method_2_code 8 = .ok (.goto 4, 3) := by decide +kernel
theorem d_Ma_commonDivisor_20 : decode prog_5_method_2_code 20 = .ok (.iload 8, 2) := by decide +kernel
theorem d_Ma_commonDivisor_22 : decode prog_5_method_2_code 22 = .ok (.bipush 100, 2) := by decide +kernel
theorem d_Ma_commonDivisor_24 : decode prog_5_method_2_code 24 = .ok (.if_icmp .ge 31, 3) := by decide +kernel
theorem d_Ma_commonDivisor_55 : decode prog_5_method_2_code 55 = .ok (.lload 4, 2) := by decide +kernel
theorem d_Ma_commonDivisor_57 : decode prog_5_method_2_code 57 = .ok (.lconst 0, 1) := by decide +kernel
theorem d_Ma_commonDivisor_58 : decode prog_5_method_2_code 58 = .ok (.lcmp, 1) := by decide +kernel
theorem d_Ma_commonDivisor_59 : decode prog_5_method_2_code 59 = .ok (.ifCond .ne 7, 3) := by decide +kernel
theorem d_Ma_commonDivisor_66 : decode prog_5_method_2_code 66 = .ok (.lload 4, 2) := by decide +kernel
theorem d_Ma_commonDivisor_68 : decode prog_5_method_2_code 68 = .ok (.lreturn, 1) := by decide +kernel
theorem d_Ma_commonDivisor_62 : decode prog_5_method_2_code 62 = .ok (.lconst 1, 1) := by decide +kernel
theorem d_Ma_commonDivisor_63 : decode prog_5_method_2_code 63 = .ok (.goto 5, 3) := by decide +kernel
theorem d_Ma_commonDivisor_27 : decode prog_5_method_2_code 27 = .ok (.lload 6, 2) := by decide +kernel
theorem d_Ma_commonDivisor_29 : decode prog_5_method_2_code 29 = .ok (.lconst 0, 1) := by decide +kernel
theorem d_Ma_commonDivisor_30 : decode prog_5_method_2_code 30 = .ok (.lcmp, 1) := by decide +kernel
theorem d_Ma_commonDivisor_31 : decode prog_5_method_2_code 31 = .ok (.ifCond .eq 24, 3) := by decide +kernel
theorem d_Ma_commonDivisor_34 : decode prog_5_method_2_code 34 = .ok (.lload 4, 2) := by decide +kernel
theorem d_Ma_commonDivisor_36 : decode prog_5_method_2_code 36 = .ok (.lload 6, 2) := by decide +kernel
theorem d_Ma_commonDivisor_38 : decode prog_5_method_2_code 38 = .ok (.lrem, 1) := by decide +kernel
theorem d_Ma_commonDivisor_39 : decode prog_5_method_2_code 39 = .ok (.lstore 9, 2) := by decide +kernel
theorem d_Ma_commonDivisor_41 : decode prog_5_method_2_code 41 = .ok (.lload 6, 2) := by decide +kernel
theorem d_Ma_commonDivisor_43 : decode prog_5_method_2_code 43 = .ok (.lstore 4, 2) := by decide +kernel
theorem d_Ma_commonDivisor_45 : decode prog_5_method_2_code 45 = .ok (.lload 9, 2) := by decide +kernel
theorem d_Ma_commonDivisor_47 : decode prog_5_method_2_code 47 = .ok (.lstore 6, 2) := by decide +kernel
theorem d_Ma_commonDivisor_49 : decode prog_5_method_2_code 49 = .ok (.iinc 8 1, 3) := by decide +kernel
theorem d_Ma_commonDivisor_52 : decode prog_5_method_2_code 52 = .ok (.goto (-32), 3) := by decide +kernel
theorem d_Ma_enter_0 : decode prog_5_method_3_code 0 = .ok (.aload_n 0, 1) := by decide +kernel
theorem d_Ma_enter_1 : decode prog_5_method_3_code 1 = .ok (.aload_n 1, 1) := by decide +kernel
theorem d_Ma_enter_2 : decode prog_5_method_3_code 2 = .ok (.putfield 9, 3) := by decide +kernel
theorem d_Ma_enter_5 : decode prog_5_method_3_code 5 = .ok (.aload_n 0, 1) := by decide +kernel
theorem d_Ma_enter_6 : decode prog_5_method_3_code 6 = .ok (.iload_n 2, 1) := by decide +kernel
theorem d_Ma_enter_7 : decode prog_5_method_3_code 7 = .ok (.putfield 43, 3) := by decide +kernel
theorem d_Ma_enter_10 : decode prog_5_method_3_code 10 = .ok (.aload_n 0, 1) := by decide +kernel
theorem d_Ma_enter_11 : decode prog_5_method_3_code 11 = .ok (.dup, 1) := by decide +kernel
theorem d_Ma_enter_12 : decode prog_5_method_3_code 12 = .ok (.getfield 24, 3) := by decide +kernel
theorem d_Ma_enter_15 : decode prog_5_method_3_code 15 = .ok (.iconst 1, 1) := by decide +kernel
theorem d_Ma_enter_16 : decode prog_5_method_3_code 16 = .ok (.iadd, 1) := by decide +kernel
theorem d_Ma_enter_17 : decode prog_5_method_3_code 17 = .ok (.putfield 24, 3) := by decide +kernel
theorem d_Ma_enter_20 : decode prog_5_method_3_code 20 = .ok (.return_, 1) := by decide +kernel
theorem d_Ma_stop_0 : decode prog_5_method_6_code 0 = .ok (.aload_n 0, 1) := by decide +kernel
theorem d_Ma_stop_1 : decode prog_5_method_6_code 1 = .ok (.iload_n 1, 1) := by decide +kernel
theorem d_Ma_stop_2 : decode prog_5_method_6_code 2 = .ok (.putfield 95, 3) := by decide +kernel
theorem d_Ma_stop_5 : decode prog_5_method_6_code 5 = .ok (.aload_n 0, 1) := by decide +kernel
theorem d_Ma_stop_6 : decode prog_5_method_6_code 6 = .ok (.iload_n 2, 1) := by decide +kernel
theorem d_Ma_stop_7 : decode prog_5_method_6_code 7 = .ok (.putfield 98, 3) := by decide +kernel
theorem d_Ma_stop_10 : decode prog_5_method_6_code 10 = .ok (.iconst 0, 1) := by decide +kernel
theorem d_Ma_stop_11 : decode prog_5_method_6_code 11 = .ok (.ireturn, 1) := by decide +kernel
def f_Ga_commandAt (h0_firstCommand_n : Nat) (l1 : Int32) (l2 : Int32) (h0_count : Int32) (h0_firstCommand_c : Nat → Int32) : Option (Int32) := Option.bind (f_Ga_hasState l1 h0_count) (fun o1 => if (o1 : Int32) = 0 then some ((-1)) else if (l2 : Int32) < 0 then some ((-1)) else chk (0 ≤ ((l1 + 1) : Int32).toInt ∧ ((l1 + 1) : Int32).toInt < h0_firstCommand_n) (chk (0 ≤ (l1 : Int32).toInt ∧ (l1 : Int32).toInt < h0_firstCommand_n) (if (l2 : Int32) < ((h0_firstCommand_c ((l1 + 1) : Int32).toNatClampNeg) - (h0_firstCommand_c (l1 : Int32).toNatClampNeg)) then chk (0 ≤ (l1 : Int32).toInt ∧ (l1 : Int32).toInt < h0_firstCommand_n) (some (((h0_firstCommand_c (l1 : Int32).toNatClampNeg) + l2))) else some ((-1)))))
set_option maxHeartbeats 4000000 in
set_option maxRecDepth 100000 in
theorem b_Ga_commandAt_0 {p : Program} {l : Launch} {e : Env} {s : State} {m : MethodId} {args : Array Value} {below : List Frame} {meth : Method} {c : Code} {D : va_G} {tA : Nat → ClassId} {A : Nat → Prop} {h0 h0_firstCommand : Nat} {f0_h0 : List Value} {h0_firstCommand_n : Nat} {l1 : Int32} {l2 : Int32} {h0_count : Int32} {h0_firstCommand_c : Nat → Int32} {out : Int32} (hx : p.tables.exec = Jvm.exec) (hb : c.code = prog_4_method_4_code) (hr : meth.sig.returnType = (Option.some Jvm.ClassFile.FieldType.int)) (hml : c.maxLocals = 3) (hh : zH s) (hg : ∀ w ∈ lw_R, w.before args s = true) (hown : s.vm.findClass "ChanceArena$Game" = some m.cls) (hlocks : meth.locks = false) (hK : va_K D vwCl (zT tA) s) (hA : ∀ q, s.heap.size ≤ q → A q)  : ∀ (H : Heap) (locs : List Loc) (ls : Array Slot), f_Ga_commandAt h0_firstCommand_n l1 l2 h0_count h0_firstCommand_c = some out → f0_h0[4]? = some (.ref h0_firstCommand) → f0_h0[0]? = some (.int h0_count) → va_P D vwCl [(h0, .inr (6, f0_h0)), (h0_firstCommand, .inl (tA 0, h0_firstCommand_n, .inl h0_firstCommand_c))] H → va_D A [(h0, .inr (6, f0_h0)), (h0_firstCommand, .inl (tA 0, h0_firstCommand_n, .inl h0_firstCommand_c))] → va_S A s.heap H locs → lv_has ls 3 [(0, .ref h0), (1, .int l1), (2, .int l2)] → W p l e { frames := 1, cells := 0, slots := 0, locals := 21 } s m args below meth c H locs 0 0 (MQ below (va_Qi (fun (r9 : Int32) (u9 : Unit) => r9 = out) (zPost D A (fun (u9 : Unit) => [(h0, .inr (6, f0_h0)), (h0_firstCommand, .inl (tA 0, h0_firstCommand_n, .inl h0_firstCommand_c))])) A) args s 0 0 A) (F0 m 0 ls []) := by
  intro    H locs ls hF q_h0_firstCommand q_h0_count hP hD hS hl
  replace hF : ((Option.bind (f_Ga_hasState l1 h0_count) (fun o1 => if (o1 : Int32) = 0 then some ((-1)) else if (l2 : Int32) < 0 then some ((-1)) else chk (0 ≤ ((l1 + 1) : Int32).toInt ∧ ((l1 + 1) : Int32).toInt < h0_firstCommand_n) (chk (0 ≤ (l1 : Int32).toInt ∧ (l1 : Int32).toInt < h0_firstCommand_n) (if (l2 : Int32) < ((h0_firstCommand_c ((l1 + 1) : Int32).toNatClampNeg) - (h0_firstCommand_c (l1 : Int32).toNatClampNeg)) then chk (0 ≤ (l1 : Int32).toInt ∧ (l1 : Int32).toInt < h0_firstCommand_n) (some (((h0_firstCommand_c (l1 : Int32).toNatClampNeg) + l2))) else some ((-1)))))) : Option (Int32)) = some out := hF
  refine lv_aload_n hx hb d_Ga_commandAt_0 rfl (lv_at hl 0 rfl) ?_
  refine lv_iload_n hx hb d_Ga_commandAt_1 rfl (lv_at hl 1 rfl) ?_
  obtain ⟨o1, h1, hF⟩ := bsome hF
  refine zCalli (wc := [(h0, .inr (6, f0_h0))]) (wr := [(h0_firstCommand, .inl (tA 0, h0_firstCommand_n, .inl h0_firstCommand_c))]) hP hD hS hA [0] [1] rfl rfl (by decide) (by decide) (va_runV (As := [.int l1]) (rest := []) ⟨hx, hb, hml, hown, hg⟩ (m_Ga_hasState l D tA _ h0 f0_h0 l1 h0_count q_h0_count o1 h1) (zV 1 hg k5_153 k5_138 k5_139 k1_7 k5_140 rfl rfl (by decide +kernel) ⟨(Nat.le_of_ble_eq_true rfl), (Nat.le_of_ble_eq_true rfl)⟩) (zPreV hh hK hP hD [0] (by decide) rfl (ci := 6) rfl 0 rfl) rfl rfl hl.1 rfl (lv_room (Nat.le_of_ble_eq_true rfl)) d_Ga_commandAt_2 ⟨(Nat.le_of_ble_eq_true rfl), (Nat.le_of_ble_eq_true rfl)⟩) (fun r1 u1 H1 locs1 e1 hP1 hD1 hS1 => ?_)
  clear hP hD hS
  refine W.cs (cells' := 0) (slots' := 0) rfl rfl ?_
  have x1 := e1
  rw [x1]
  replace hP1 : va_P D vwCl [(h0_firstCommand, .inl (tA 0, h0_firstCommand_n, .inl h0_firstCommand_c)), (h0, .inr (6, f0_h0))] _ := hP1
  replace hD1 : va_D A [(h0_firstCommand, .inl (tA 0, h0_firstCommand_n, .inl h0_firstCommand_c)), (h0, .inr (6, f0_h0))] := hD1
  refine lv_if_eq (tgt := 31) hx hb d_Ga_commandAt_5 (by decide) (fun c9 => ?_) (fun c9 => ?_)
  · replace hF := ifp c9 hF
    refine lv_iconst (v := (-1)) hx hb d_Ga_commandAt_31 (by decide) ?_
    replace hF := Option.some.inj hF
    subst hF
    exact zZret (post := (fun (r9 : Int32) (u9 : Unit) => r9 = (-1))) (W1 := (fun (u9 : Unit) => [(h0, .inr (6, f0_h0)), (h0_firstCommand, .inl (tA 0, h0_firstCommand_n, .inl h0_firstCommand_c))])) (v := (-1)) hx hb hr rfl hlocks (zPc (wc := [(h0, .inr (6, f0_h0)), (h0_firstCommand, .inl (tA 0, h0_firstCommand_n, .inl h0_firstCommand_c))]) hP1 [1, 0] rfl) (va_D.sub (ws' := [(h0, .inr (6, f0_h0)), (h0_firstCommand, .inl (tA 0, h0_firstCommand_n, .inl h0_firstCommand_c))]) hD1 [1, 0] (by decide) rfl) hS1 () rfl rfl d_Ga_commandAt_32
  · replace hF := ifn c9 hF
    refine lv_iload_n hx hb d_Ga_commandAt_8 rfl (lv_at hl 2 rfl) ?_
    refine lv_if_lt (tgt := 31) hx hb d_Ga_commandAt_9 (by decide) (fun c9 => ?_) (fun c9 => ?_)
    · replace hF := ifp c9 hF
      refine lv_iconst (v := (-1)) hx hb d_Ga_commandAt_31 (by decide) ?_
      replace hF := Option.some.inj hF
      subst hF
      exact zZret (post := (fun (r9 : Int32) (u9 : Unit) => r9 = (-1))) (W1 := (fun (u9 : Unit) => [(h0, .inr (6, f0_h0)), (h0_firstCommand, .inl (tA 0, h0_firstCommand_n, .inl h0_firstCommand_c))])) (v := (-1)) hx hb hr rfl hlocks (zPc (wc := [(h0, .inr (6, f0_h0)), (h0_firstCommand, .inl (tA 0, h0_firstCommand_n, .inl h0_firstCommand_c))]) hP1 [1, 0] rfl) (va_D.sub (ws' := [(h0, .inr (6, f0_h0)), (h0_firstCommand, .inl (tA 0, h0_firstCommand_n, .inl h0_firstCommand_c))]) hD1 [1, 0] (by decide) rfl) hS1 () rfl rfl d_Ga_commandAt_32
    · replace hF := ifn c9 hF
      refine lv_iload_n hx hb d_Ga_commandAt_12 rfl (lv_at hl 2 rfl) ?_
      refine lv_aload_n hx hb d_Ga_commandAt_13 rfl (lv_at hl 0 rfl) ?_
      refine va_get (D := D) (ci := 6) (v := .ref h0_firstCommand) (C := R_Ga) (T := T_Ga) (N := 19) hx hb hg i_Ga hown hK hP1 1 rfl rfl 4 (by decide) (hg _ k2_149) (fun _ h9 => h9) q_h0_firstCommand d_Ga_commandAt_14 ?_
      refine lv_iload_n hx hb d_Ga_commandAt_17 rfl (lv_at hl 1 rfl) ?_
      refine lv_iconst (v := 1) hx hb d_Ga_commandAt_18 (by decide) ?_
      refine lv_iadd hx hb d_Ga_commandAt_19 ?_
      obtain ⟨h9, hF⟩ := chk_some hF
      refine va_iald hx hb hK hP1 0 0 rfl rfl (vp_in_iff.mpr h9) d_Ga_commandAt_20 ?_
      refine lv_aload_n hx hb d_Ga_commandAt_21 rfl (lv_at hl 0 rfl) ?_
      refine va_get (D := D) (ci := 6) (v := .ref h0_firstCommand) (C := R_Ga) (T := T_Ga) (N := 19) hx hb hg i_Ga hown hK hP1 1 rfl rfl 4 (by decide) (hg _ k2_149) (fun _ h9 => h9) q_h0_firstCommand d_Ga_commandAt_22 ?_
      refine lv_iload_n hx hb d_Ga_commandAt_25 rfl (lv_at hl 1 rfl) ?_
      obtain ⟨h9, hF⟩ := chk_some hF
      refine va_iald hx hb hK hP1 0 0 rfl rfl (vp_in_iff.mpr h9) d_Ga_commandAt_26 ?_
      refine lv_isub hx hb d_Ga_commandAt_27 ?_
      refine lv_icmp_lt (tgt := 33) hx hb d_Ga_commandAt_28 (by decide) (fun c9 => ?_) (fun c9 => ?_)
      · replace hF := ifp c9 hF
        refine lv_aload_n hx hb d_Ga_commandAt_33 rfl (lv_at hl 0 rfl) ?_
        refine va_get (D := D) (ci := 6) (v := .ref h0_firstCommand) (C := R_Ga) (T := T_Ga) (N := 19) hx hb hg i_Ga hown hK hP1 1 rfl rfl 4 (by decide) (hg _ k2_149) (fun _ h9 => h9) q_h0_firstCommand d_Ga_commandAt_34 ?_
        refine lv_iload_n hx hb d_Ga_commandAt_37 rfl (lv_at hl 1 rfl) ?_
        obtain ⟨h9, hF⟩ := chk_some hF
        refine va_iald hx hb hK hP1 0 0 rfl rfl (vp_in_iff.mpr h9) d_Ga_commandAt_38 ?_
        refine lv_iload_n hx hb d_Ga_commandAt_39 rfl (lv_at hl 2 rfl) ?_
        refine lv_iadd hx hb d_Ga_commandAt_40 ?_
        replace hF := Option.some.inj hF
        subst hF
        exact zZret (post := (fun (r9 : Int32) (u9 : Unit) => r9 = ((h0_firstCommand_c (l1 : Int32).toNatClampNeg) + l2))) (W1 := (fun (u9 : Unit) => [(h0, .inr (6, f0_h0)), (h0_firstCommand, .inl (tA 0, h0_firstCommand_n, .inl h0_firstCommand_c))])) (v := ((h0_firstCommand_c (l1 : Int32).toNatClampNeg) + l2)) hx hb hr rfl hlocks (zPc (wc := [(h0, .inr (6, f0_h0)), (h0_firstCommand, .inl (tA 0, h0_firstCommand_n, .inl h0_firstCommand_c))]) hP1 [1, 0] rfl) (va_D.sub (ws' := [(h0, .inr (6, f0_h0)), (h0_firstCommand, .inl (tA 0, h0_firstCommand_n, .inl h0_firstCommand_c))]) hD1 [1, 0] (by decide) rfl) hS1 () rfl rfl d_Ga_commandAt_41
      · replace hF := ifn c9 hF
        refine lv_iconst (v := (-1)) hx hb d_Ga_commandAt_31 (by decide) ?_
        replace hF := Option.some.inj hF
        subst hF
        exact zZret (post := (fun (r9 : Int32) (u9 : Unit) => r9 = (-1))) (W1 := (fun (u9 : Unit) => [(h0, .inr (6, f0_h0)), (h0_firstCommand, .inl (tA 0, h0_firstCommand_n, .inl h0_firstCommand_c))])) (v := (-1)) hx hb hr rfl hlocks (zPc (wc := [(h0, .inr (6, f0_h0)), (h0_firstCommand, .inl (tA 0, h0_firstCommand_n, .inl h0_firstCommand_c))]) hP1 [1, 0] rfl) (va_D.sub (ws' := [(h0, .inr (6, f0_h0)), (h0_firstCommand, .inl (tA 0, h0_firstCommand_n, .inl h0_firstCommand_c))]) hD1 [1, 0] (by decide) rfl) hS1 () rfl rfl d_Ga_commandAt_32
set_option maxHeartbeats 4000000 in
set_option maxRecDepth 100000 in
theorem m_Ga_commandAt (l : Launch) (D : va_G) (tA : Nat → ClassId) (sz : Nat) (h0 h0_firstCommand : Nat) (f0_h0 : List Value) (h0_firstCommand_n : Nat) (l1 : Int32) (l2 : Int32) (h0_count : Int32) (h0_firstCommand_c : Nat → Int32) (q_h0_firstCommand : f0_h0[4]? = some (.ref h0_firstCommand)) (q_h0_count : f0_h0[0]? = some (.int h0_count)) (out : Int32) (hF : f_Ga_commandAt h0_firstCommand_n l1 l2 h0_count h0_firstCommand_c = some out) : zMi l ({ cls := "ChanceArena$Game", name := "commandAt", desc := "(II)I" } : Jvm.MethodName) (zW (Jvm.Cond.code ({ cls := "ChanceArena$Game", name := "commandAt", desc := "(II)I" } : Jvm.MethodName) prog_4_method_4_code (3 : Nat) (Option.some Jvm.ClassFile.FieldType.int))) { frames := 1, cells := 0, slots := 0, locals := 21 } [.ref h0, .int l1, .int l2] D tA [(h0, .inr (6, f0_h0)), (h0_firstCommand, .inl (tA 0, h0_firstCommand_n, .inl h0_firstCommand_c))] sz (fun (r9 : Int32) (u9 : Unit) => r9 = out) (fun (u9 : Unit) => [(h0, .inr (6, f0_h0)), (h0_firstCommand, .inl (tA 0, h0_firstCommand_n, .inl h0_firstCommand_c))]) 0 0 := by
  refine zOpen (l := l) (y := ({ cls := "ChanceArena$Game", name := "commandAt", desc := "(II)I" } : Jvm.MethodName)) (ws := zW (Jvm.Cond.code ({ cls := "ChanceArena$Game", name := "commandAt", desc := "(II)I" } : Jvm.MethodName) prog_4_method_4_code (3 : Nat) (Option.some Jvm.ClassFile.FieldType.int))) (rm := { frames := 1, cells := 0, slots := 0, locals := 21 }) (av := [.ref h0, .int l1, .int l2]) (D := D) (tA := tA) (W0 := [(h0, .inr (6, f0_h0)), (h0_firstCommand, .inl (tA 0, h0_firstCommand_n, .inl h0_firstCommand_c))]) (Wm := [(h0, .inr (6, f0_h0)), (h0_firstCommand, .inl (tA 0, h0_firstCommand_n, .inl h0_firstCommand_c))]) (sz := sz) (mc := 0) (ms := 0) (fun A => va_Qi (fun (r9 : Int32) (u9 : Unit) => r9 = out) (zPost D A (fun (u9 : Unit) => [(h0, .inr (6, f0_h0)), (h0_firstCommand, .inl (tA 0, h0_firstCommand_n, .inl h0_firstCommand_c))])) A) (lv := [(0, .ref h0), (1, .int l1), (2, .int l2)]) (by decide) rfl (Nat.le_of_ble_eq_true rfl) rfl ?_
  intro p e s m below meth c A ls hx hb hr hml hh hg hown hlocks hnm hK hA hP hD0 hAw hS hl
  have hD := zD hD0 hAw
  exact b_Ga_commandAt_0 hx hb hr hml hh hg hown hlocks hK hA    _ _ _ hF q_h0_firstCommand q_h0_count hP hD hS hl
def f_Ga_drawn (h0_multiple_n : Nat) (h0_firstBranch_n : Nat) (h0_weight_n : Nat) (h0_goal_n : Nat) (l1 : Int32) (l2 : Int32) (h0_multiple_c : Nat → Int32) (h0_firstBranch_c : Nat → Int32) (h0_weight_c : Nat → Int32) (h0_goal_c : Nat → Int32) : Nat → Nat → Int64 → Int64 → Int32 → Option (Int32)
  | 0, _, _, _, _ => none
  | n + 1, 0, L3, L5, l7 => chk (0 ≤ (l1 : Int32).toInt ∧ (l1 : Int32).toInt < h0_multiple_n) (chk (0 ≤ (l1 : Int32).toInt ∧ (l1 : Int32).toInt < h0_firstBranch_n) (f_Ga_drawn h0_multiple_n h0_firstBranch_n h0_weight_n h0_goal_n l1 l2 h0_multiple_c h0_firstBranch_c h0_weight_c h0_goal_c n 1 ((l2 : Int32).toInt64 * ((h0_multiple_c (l1 : Int32).toNatClampNeg) : Int32).toInt64) 0 (h0_firstBranch_c (l1 : Int32).toNatClampNeg)))
  | n + 1, 1, L3, L5, l7 => chk (0 ≤ ((l1 + 1) : Int32).toInt ∧ ((l1 + 1) : Int32).toInt < h0_firstBranch_n) (if ((h0_firstBranch_c ((l1 + 1) : Int32).toNatClampNeg) : Int32) ≤ l7 then some ((-1)) else chk (0 ≤ (l7 : Int32).toInt ∧ (l7 : Int32).toInt < h0_weight_n) (if ((lg_cmp (((L5 + ((h0_weight_c (l7 : Int32).toNatClampNeg) : Int32).toInt64) : Int64) <<< ((31 : Int32).toInt64 &&& 63)) L3) : Int32) ≤ 0 then f_Ga_drawn h0_multiple_n h0_firstBranch_n h0_weight_n h0_goal_n l1 l2 h0_multiple_c h0_firstBranch_c h0_weight_c h0_goal_c n 1 L3 (L5 + ((h0_weight_c (l7 : Int32).toNatClampNeg) : Int32).toInt64) (l7 + Int32.ofInt 1) else chk (0 ≤ (l7 : Int32).toInt ∧ (l7 : Int32).toInt < h0_goal_n) (some ((h0_goal_c (l7 : Int32).toNatClampNeg)))))
  | _ + 1, _ + 2, _, _, _ => none
theorem e_Ga_drawn_0 (h0_multiple_n : Nat) (h0_firstBranch_n : Nat) (h0_weight_n : Nat) (h0_goal_n : Nat) (l1 : Int32) (l2 : Int32) (h0_multiple_c : Nat → Int32) (h0_firstBranch_c : Nat → Int32) (h0_weight_c : Nat → Int32) (h0_goal_c : Nat → Int32) (n : Nat) (L3 : Int64) (L5 : Int64) (l7 : Int32) : f_Ga_drawn h0_multiple_n h0_firstBranch_n h0_weight_n h0_goal_n l1 l2 h0_multiple_c h0_firstBranch_c h0_weight_c h0_goal_c (n + 1) 0 L3 L5 l7 = chk (0 ≤ (l1 : Int32).toInt ∧ (l1 : Int32).toInt < h0_multiple_n) (chk (0 ≤ (l1 : Int32).toInt ∧ (l1 : Int32).toInt < h0_firstBranch_n) (f_Ga_drawn h0_multiple_n h0_firstBranch_n h0_weight_n h0_goal_n l1 l2 h0_multiple_c h0_firstBranch_c h0_weight_c h0_goal_c n 1 ((l2 : Int32).toInt64 * ((h0_multiple_c (l1 : Int32).toNatClampNeg) : Int32).toInt64) 0 (h0_firstBranch_c (l1 : Int32).toNatClampNeg))) := by rw [f_Ga_drawn]
theorem e_Ga_drawn_1 (h0_multiple_n : Nat) (h0_firstBranch_n : Nat) (h0_weight_n : Nat) (h0_goal_n : Nat) (l1 : Int32) (l2 : Int32) (h0_multiple_c : Nat → Int32) (h0_firstBranch_c : Nat → Int32) (h0_weight_c : Nat → Int32) (h0_goal_c : Nat → Int32) (n : Nat) (L3 : Int64) (L5 : Int64) (l7 : Int32) : f_Ga_drawn h0_multiple_n h0_firstBranch_n h0_weight_n h0_goal_n l1 l2 h0_multiple_c h0_firstBranch_c h0_weight_c h0_goal_c (n + 1) 1 L3 L5 l7 = chk (0 ≤ ((l1 + 1) : Int32).toInt ∧ ((l1 + 1) : Int32).toInt < h0_firstBranch_n) (if ((h0_firstBranch_c ((l1 + 1) : Int32).toNatClampNeg) : Int32) ≤ l7 then some ((-1)) else chk (0 ≤ (l7 : Int32).toInt ∧ (l7 : Int32).toInt < h0_weight_n) (if ((lg_cmp (((L5 + ((h0_weight_c (l7 : Int32).toNatClampNeg) : Int32).toInt64) : Int64) <<< ((31 : Int32).toInt64 &&& 63)) L3) : Int32) ≤ 0 then f_Ga_drawn h0_multiple_n h0_firstBranch_n h0_weight_n h0_goal_n l1 l2 h0_multiple_c h0_firstBranch_c h0_weight_c h0_goal_c n 1 L3 (L5 + ((h0_weight_c (l7 : Int32).toNatClampNeg) : Int32).toInt64) (l7 + Int32.ofInt 1) else chk (0 ≤ (l7 : Int32).toInt ∧ (l7 : Int32).toInt < h0_goal_n) (some ((h0_goal_c (l7 : Int32).toNatClampNeg))))) := by rw [f_Ga_drawn]
theorem z_Ga_drawn (h0_multiple_n : Nat) (h0_firstBranch_n : Nat) (h0_weight_n : Nat) (h0_goal_n : Nat) (l1 : Int32) (l2 : Int32) (h0_multiple_c : Nat → Int32) (h0_firstBranch_c : Nat → Int32) (h0_weight_c : Nat → Int32) (h0_goal_c : Nat → Int32) (h : Nat) (L3 : Int64) (L5 : Int64) (l7 : Int32) : f_Ga_drawn h0_multiple_n h0_firstBranch_n h0_weight_n h0_goal_n l1 l2 h0_multiple_c h0_firstBranch_c h0_weight_c h0_goal_c 0 h L3 L5 l7 = none := by rw [f_Ga_drawn]
set_option maxHeartbeats 4000000 in
set_option maxRecDepth 100000 in
theorem b_Ga_drawn_0 {p : Program} {l : Launch} {e : Env} {s : State} {m : MethodId} {args : Array Value} {below : List Frame} {meth : Method} {c : Code} {D : va_G} {tA : Nat → ClassId} {A : Nat → Prop} {h0 h0_multiple h0_firstBranch h0_weight h0_goal : Nat} {f0_h0 : List Value} {h0_multiple_n : Nat} {h0_firstBranch_n : Nat} {h0_weight_n : Nat} {h0_goal_n : Nat} {l1 : Int32} {l2 : Int32} {h0_multiple_c : Nat → Int32} {h0_firstBranch_c : Nat → Int32} {h0_weight_c : Nat → Int32} {h0_goal_c : Nat → Int32} {out : Int32} (hx : p.tables.exec = Jvm.exec) (hb : c.code = prog_4_method_5_code) (hr : meth.sig.returnType = (Option.some Jvm.ClassFile.FieldType.int)) (hml : c.maxLocals = 8) (hh : zH s) (hg : ∀ w ∈ lw_R, w.before args s = true) (hown : s.vm.findClass "ChanceArena$Game" = some m.cls) (hlocks : meth.locks = false) (hK : va_K D vwCl (zT tA) s) (hA : ∀ q, s.heap.size ≤ q → A q) {n : Nat} (ih1 : ∀ (L3 : Int64) (L5 : Int64) (l7 : Int32) (H : Heap) (locs : List Loc) (ls : Array Slot), f_Ga_drawn h0_multiple_n h0_firstBranch_n h0_weight_n h0_goal_n l1 l2 h0_multiple_c h0_firstBranch_c h0_weight_c h0_goal_c n 1 L3 L5 l7 = some out → f0_h0[6]? = some (.ref h0_multiple) → f0_h0[7]? = some (.ref h0_firstBranch) → f0_h0[9]? = some (.ref h0_weight) → f0_h0[8]? = some (.ref h0_goal) → va_P D vwCl [(h0, .inr (6, f0_h0)), (h0_multiple, .inl (tA 0, h0_multiple_n, .inl h0_multiple_c)), (h0_firstBranch, .inl (tA 0, h0_firstBranch_n, .inl h0_firstBranch_c)), (h0_weight, .inl (tA 0, h0_weight_n, .inl h0_weight_c)), (h0_goal, .inl (tA 0, h0_goal_n, .inl h0_goal_c))] H → va_D A [(h0, .inr (6, f0_h0)), (h0_multiple, .inl (tA 0, h0_multiple_n, .inl h0_multiple_c)), (h0_firstBranch, .inl (tA 0, h0_firstBranch_n, .inl h0_firstBranch_c)), (h0_weight, .inl (tA 0, h0_weight_n, .inl h0_weight_c)), (h0_goal, .inl (tA 0, h0_goal_n, .inl h0_goal_c))] → va_S A s.heap H locs → lv_has ls 8 [(0, .ref h0), (1, .int l1), (2, .int l2), (3, .long L3), (5, .long L5), (7, .int l7)] → W p l e { frames := 0, cells := 0, slots := 0, locals := 0 } s m args below meth c H locs 0 0 (MQ below (va_Qi (fun (r9 : Int32) (u9 : Unit) => r9 = out) (zPost D A (fun (u9 : Unit) => [(h0, .inr (6, f0_h0)), (h0_multiple, .inl (tA 0, h0_multiple_n, .inl h0_multiple_c)), (h0_firstBranch, .inl (tA 0, h0_firstBranch_n, .inl h0_firstBranch_c)), (h0_weight, .inl (tA 0, h0_weight_n, .inl h0_weight_c)), (h0_goal, .inl (tA 0, h0_goal_n, .inl h0_goal_c))])) A) args s 0 0 A) (F0 m 22 ls [])) : ∀ (L3 : Int64) (L5 : Int64) (l7 : Int32) (H : Heap) (locs : List Loc) (ls : Array Slot), f_Ga_drawn h0_multiple_n h0_firstBranch_n h0_weight_n h0_goal_n l1 l2 h0_multiple_c h0_firstBranch_c h0_weight_c h0_goal_c (n + 1) 0 L3 L5 l7 = some out → f0_h0[6]? = some (.ref h0_multiple) → f0_h0[7]? = some (.ref h0_firstBranch) → f0_h0[9]? = some (.ref h0_weight) → f0_h0[8]? = some (.ref h0_goal) → va_P D vwCl [(h0, .inr (6, f0_h0)), (h0_multiple, .inl (tA 0, h0_multiple_n, .inl h0_multiple_c)), (h0_firstBranch, .inl (tA 0, h0_firstBranch_n, .inl h0_firstBranch_c)), (h0_weight, .inl (tA 0, h0_weight_n, .inl h0_weight_c)), (h0_goal, .inl (tA 0, h0_goal_n, .inl h0_goal_c))] H → va_D A [(h0, .inr (6, f0_h0)), (h0_multiple, .inl (tA 0, h0_multiple_n, .inl h0_multiple_c)), (h0_firstBranch, .inl (tA 0, h0_firstBranch_n, .inl h0_firstBranch_c)), (h0_weight, .inl (tA 0, h0_weight_n, .inl h0_weight_c)), (h0_goal, .inl (tA 0, h0_goal_n, .inl h0_goal_c))] → va_S A s.heap H locs → lv_has ls 8 [(0, .ref h0), (1, .int l1), (2, .int l2)] → W p l e { frames := 0, cells := 0, slots := 0, locals := 0 } s m args below meth c H locs 0 0 (MQ below (va_Qi (fun (r9 : Int32) (u9 : Unit) => r9 = out) (zPost D A (fun (u9 : Unit) => [(h0, .inr (6, f0_h0)), (h0_multiple, .inl (tA 0, h0_multiple_n, .inl h0_multiple_c)), (h0_firstBranch, .inl (tA 0, h0_firstBranch_n, .inl h0_firstBranch_c)), (h0_weight, .inl (tA 0, h0_weight_n, .inl h0_weight_c)), (h0_goal, .inl (tA 0, h0_goal_n, .inl h0_goal_c))])) A) args s 0 0 A) (F0 m 0 ls []) := by
  intro L3 L5 l7   H locs ls hF q_h0_multiple q_h0_firstBranch q_h0_weight q_h0_goal hP hD hS hl
  rw [e_Ga_drawn_0] at hF
  refine lv_iload_n hx hb d_Ga_drawn_0 rfl (lv_at hl 2 rfl) ?_
  refine lv_i2l (v := (l2 : Int32).toInt64) hx hb d_Ga_drawn_1 rfl ?_
  refine lv_aload_n hx hb d_Ga_drawn_2 rfl (lv_at hl 0 rfl) ?_
  refine va_get (D := D) (ci := 6) (v := .ref h0_multiple) (C := R_Ga) (T := T_Ga) (N := 19) hx hb hg i_Ga hown hK hP 0 rfl rfl 6 (by decide) (hg _ k2_155) (fun _ h9 => h9) q_h0_multiple d_Ga_drawn_3 ?_
  refine lv_iload_n hx hb d_Ga_drawn_6 rfl (lv_at hl 1 rfl) ?_
  obtain ⟨h9, hF⟩ := chk_some hF
  refine va_iald hx hb hK hP 1 0 rfl rfl (vp_in_iff.mpr h9) d_Ga_drawn_7 ?_
  refine lv_i2l (v := ((h0_multiple_c (l1 : Int32).toNatClampNeg) : Int32).toInt64) hx hb d_Ga_drawn_8 rfl ?_
  refine lv_lmul hx hb d_Ga_drawn_9 ?_
  refine lv_lstore_n (lv' := [(3, .long ((l2 : Int32).toInt64 * ((h0_multiple_c (l1 : Int32).toNatClampNeg) : Int32).toInt64)), (0, .ref h0), (1, .int l1), (2, .int l2)]) hx hb d_Ga_drawn_10 rfl hl (by decide) rfl (fun ls hl => ?_)
  refine lv_lconst (v := 0) hx hb d_Ga_drawn_11 (by decide) ?_
  refine lv_lstore (lv' := [(5, .long 0), (3, .long ((l2 : Int32).toInt64 * ((h0_multiple_c (l1 : Int32).toNatClampNeg) : Int32).toInt64)), (0, .ref h0), (1, .int l1), (2, .int l2)]) hx hb d_Ga_drawn_12 hl (by decide) rfl (fun ls hl => ?_)
  refine lv_aload_n hx hb d_Ga_drawn_14 rfl (lv_at hl 2 rfl) ?_
  refine va_get (D := D) (ci := 6) (v := .ref h0_firstBranch) (C := R_Ga) (T := T_Ga) (N := 19) hx hb hg i_Ga hown hK hP 0 rfl rfl 7 (by decide) (hg _ k2_159) (fun _ h9 => h9) q_h0_firstBranch d_Ga_drawn_15 ?_
  refine lv_iload_n hx hb d_Ga_drawn_18 rfl (lv_at hl 3 rfl) ?_
  obtain ⟨h9, hF⟩ := chk_some hF
  refine va_iald hx hb hK hP 2 0 rfl rfl (vp_in_iff.mpr h9) d_Ga_drawn_19 ?_
  refine lv_istore (lv' := [(7, .int (h0_firstBranch_c (l1 : Int32).toNatClampNeg)), (5, .long 0), (3, .long ((l2 : Int32).toInt64 * ((h0_multiple_c (l1 : Int32).toNatClampNeg) : Int32).toInt64)), (0, .ref h0), (1, .int l1), (2, .int l2)]) hx hb d_Ga_drawn_20 hl (by decide) rfl (fun ls hl => ?_)
  exact ih1 ((l2 : Int32).toInt64 * ((h0_multiple_c (l1 : Int32).toNatClampNeg) : Int32).toInt64) 0 (h0_firstBranch_c (l1 : Int32).toNatClampNeg)   _ _ _ hF q_h0_multiple q_h0_firstBranch q_h0_weight q_h0_goal hP hD hS (lv_sub hl [3, 4, 5, 2, 1, 0] rfl)
set_option maxHeartbeats 4000000 in
set_option maxRecDepth 100000 in
theorem b_Ga_drawn_1 {p : Program} {l : Launch} {e : Env} {s : State} {m : MethodId} {args : Array Value} {below : List Frame} {meth : Method} {c : Code} {D : va_G} {tA : Nat → ClassId} {A : Nat → Prop} {h0 h0_multiple h0_firstBranch h0_weight h0_goal : Nat} {f0_h0 : List Value} {h0_multiple_n : Nat} {h0_firstBranch_n : Nat} {h0_weight_n : Nat} {h0_goal_n : Nat} {l1 : Int32} {l2 : Int32} {h0_multiple_c : Nat → Int32} {h0_firstBranch_c : Nat → Int32} {h0_weight_c : Nat → Int32} {h0_goal_c : Nat → Int32} {out : Int32} (hx : p.tables.exec = Jvm.exec) (hb : c.code = prog_4_method_5_code) (hr : meth.sig.returnType = (Option.some Jvm.ClassFile.FieldType.int)) (hml : c.maxLocals = 8) (hh : zH s) (hg : ∀ w ∈ lw_R, w.before args s = true) (hown : s.vm.findClass "ChanceArena$Game" = some m.cls) (hlocks : meth.locks = false) (hK : va_K D vwCl (zT tA) s) (hA : ∀ q, s.heap.size ≤ q → A q) {n : Nat} (ih1 : ∀ (L3 : Int64) (L5 : Int64) (l7 : Int32) (H : Heap) (locs : List Loc) (ls : Array Slot), f_Ga_drawn h0_multiple_n h0_firstBranch_n h0_weight_n h0_goal_n l1 l2 h0_multiple_c h0_firstBranch_c h0_weight_c h0_goal_c n 1 L3 L5 l7 = some out → f0_h0[6]? = some (.ref h0_multiple) → f0_h0[7]? = some (.ref h0_firstBranch) → f0_h0[9]? = some (.ref h0_weight) → f0_h0[8]? = some (.ref h0_goal) → va_P D vwCl [(h0, .inr (6, f0_h0)), (h0_multiple, .inl (tA 0, h0_multiple_n, .inl h0_multiple_c)), (h0_firstBranch, .inl (tA 0, h0_firstBranch_n, .inl h0_firstBranch_c)), (h0_weight, .inl (tA 0, h0_weight_n, .inl h0_weight_c)), (h0_goal, .inl (tA 0, h0_goal_n, .inl h0_goal_c))] H → va_D A [(h0, .inr (6, f0_h0)), (h0_multiple, .inl (tA 0, h0_multiple_n, .inl h0_multiple_c)), (h0_firstBranch, .inl (tA 0, h0_firstBranch_n, .inl h0_firstBranch_c)), (h0_weight, .inl (tA 0, h0_weight_n, .inl h0_weight_c)), (h0_goal, .inl (tA 0, h0_goal_n, .inl h0_goal_c))] → va_S A s.heap H locs → lv_has ls 8 [(0, .ref h0), (1, .int l1), (2, .int l2), (3, .long L3), (5, .long L5), (7, .int l7)] → W p l e { frames := 0, cells := 0, slots := 0, locals := 0 } s m args below meth c H locs 0 0 (MQ below (va_Qi (fun (r9 : Int32) (u9 : Unit) => r9 = out) (zPost D A (fun (u9 : Unit) => [(h0, .inr (6, f0_h0)), (h0_multiple, .inl (tA 0, h0_multiple_n, .inl h0_multiple_c)), (h0_firstBranch, .inl (tA 0, h0_firstBranch_n, .inl h0_firstBranch_c)), (h0_weight, .inl (tA 0, h0_weight_n, .inl h0_weight_c)), (h0_goal, .inl (tA 0, h0_goal_n, .inl h0_goal_c))])) A) args s 0 0 A) (F0 m 22 ls [])) : ∀ (L3 : Int64) (L5 : Int64) (l7 : Int32) (H : Heap) (locs : List Loc) (ls : Array Slot), f_Ga_drawn h0_multiple_n h0_firstBranch_n h0_weight_n h0_goal_n l1 l2 h0_multiple_c h0_firstBranch_c h0_weight_c h0_goal_c (n + 1) 1 L3 L5 l7 = some out → f0_h0[6]? = some (.ref h0_multiple) → f0_h0[7]? = some (.ref h0_firstBranch) → f0_h0[9]? = some (.ref h0_weight) → f0_h0[8]? = some (.ref h0_goal) → va_P D vwCl [(h0, .inr (6, f0_h0)), (h0_multiple, .inl (tA 0, h0_multiple_n, .inl h0_multiple_c)), (h0_firstBranch, .inl (tA 0, h0_firstBranch_n, .inl h0_firstBranch_c)), (h0_weight, .inl (tA 0, h0_weight_n, .inl h0_weight_c)), (h0_goal, .inl (tA 0, h0_goal_n, .inl h0_goal_c))] H → va_D A [(h0, .inr (6, f0_h0)), (h0_multiple, .inl (tA 0, h0_multiple_n, .inl h0_multiple_c)), (h0_firstBranch, .inl (tA 0, h0_firstBranch_n, .inl h0_firstBranch_c)), (h0_weight, .inl (tA 0, h0_weight_n, .inl h0_weight_c)), (h0_goal, .inl (tA 0, h0_goal_n, .inl h0_goal_c))] → va_S A s.heap H locs → lv_has ls 8 [(0, .ref h0), (1, .int l1), (2, .int l2), (3, .long L3), (5, .long L5), (7, .int l7)] → W p l e { frames := 0, cells := 0, slots := 0, locals := 0 } s m args below meth c H locs 0 0 (MQ below (va_Qi (fun (r9 : Int32) (u9 : Unit) => r9 = out) (zPost D A (fun (u9 : Unit) => [(h0, .inr (6, f0_h0)), (h0_multiple, .inl (tA 0, h0_multiple_n, .inl h0_multiple_c)), (h0_firstBranch, .inl (tA 0, h0_firstBranch_n, .inl h0_firstBranch_c)), (h0_weight, .inl (tA 0, h0_weight_n, .inl h0_weight_c)), (h0_goal, .inl (tA 0, h0_goal_n, .inl h0_goal_c))])) A) args s 0 0 A) (F0 m 22 ls []) := by
  intro L3 L5 l7   H locs ls hF q_h0_multiple q_h0_firstBranch q_h0_weight q_h0_goal hP hD hS hl
  rw [e_Ga_drawn_1] at hF
  refine lv_iload hx hb d_Ga_drawn_22 (lv_at hl 5 rfl) ?_
  refine lv_aload_n hx hb d_Ga_drawn_24 rfl (lv_at hl 0 rfl) ?_
  refine va_get (D := D) (ci := 6) (v := .ref h0_firstBranch) (C := R_Ga) (T := T_Ga) (N := 19) hx hb hg i_Ga hown hK hP 0 rfl rfl 7 (by decide) (hg _ k2_159) (fun _ h9 => h9) q_h0_firstBranch d_Ga_drawn_25 ?_
  refine lv_iload_n hx hb d_Ga_drawn_28 rfl (lv_at hl 1 rfl) ?_
  refine lv_iconst (v := 1) hx hb d_Ga_drawn_29 (by decide) ?_
  refine lv_iadd hx hb d_Ga_drawn_30 ?_
  obtain ⟨h9, hF⟩ := chk_some hF
  refine va_iald hx hb hK hP 2 0 rfl rfl (vp_in_iff.mpr h9) d_Ga_drawn_31 ?_
  refine lv_icmp_ge (tgt := 72) hx hb d_Ga_drawn_32 (by decide) (fun c9 => ?_) (fun c9 => ?_)
  · replace hF := ifp c9 hF
    refine lv_iconst (v := (-1)) hx hb d_Ga_drawn_72 (by decide) ?_
    replace hF := Option.some.inj hF
    subst hF
    exact zZret (post := (fun (r9 : Int32) (u9 : Unit) => r9 = (-1))) (W1 := (fun (u9 : Unit) => [(h0, .inr (6, f0_h0)), (h0_multiple, .inl (tA 0, h0_multiple_n, .inl h0_multiple_c)), (h0_firstBranch, .inl (tA 0, h0_firstBranch_n, .inl h0_firstBranch_c)), (h0_weight, .inl (tA 0, h0_weight_n, .inl h0_weight_c)), (h0_goal, .inl (tA 0, h0_goal_n, .inl h0_goal_c))])) (v := (-1)) hx hb hr rfl hlocks hP hD hS () rfl rfl d_Ga_drawn_73
  · replace hF := ifn c9 hF
    refine lv_lload hx hb d_Ga_drawn_35 (lv_at hl 4 rfl) ?_
    refine lv_aload_n hx hb d_Ga_drawn_37 rfl (lv_at hl 0 rfl) ?_
    refine va_get (D := D) (ci := 6) (v := .ref h0_weight) (C := R_Ga) (T := T_Ga) (N := 19) hx hb hg i_Ga hown hK hP 0 rfl rfl 9 (by decide) (hg _ k2_167) (fun _ h9 => h9) q_h0_weight d_Ga_drawn_38 ?_
    refine lv_iload hx hb d_Ga_drawn_41 (lv_at hl 5 rfl) ?_
    obtain ⟨h9, hF⟩ := chk_some hF
    refine va_iald hx hb hK hP 3 0 rfl rfl (vp_in_iff.mpr h9) d_Ga_drawn_43 ?_
    refine lv_i2l (v := ((h0_weight_c (l7 : Int32).toNatClampNeg) : Int32).toInt64) hx hb d_Ga_drawn_44 rfl ?_
    refine lv_ladd hx hb d_Ga_drawn_45 ?_
    refine lv_lstore (lv' := [(5, .long (L5 + ((h0_weight_c (l7 : Int32).toNatClampNeg) : Int32).toInt64)), (0, .ref h0), (1, .int l1), (2, .int l2), (3, .long L3), (7, .int l7)]) hx hb d_Ga_drawn_46 hl (by decide) rfl (fun ls hl => ?_)
    refine lv_lload hx hb d_Ga_drawn_48 (lv_at hl 0 rfl) ?_
    refine lv_bipush (v := 31) hx hb d_Ga_drawn_50 (by decide) ?_
    refine lv_lshl (v := (((L5 + ((h0_weight_c (l7 : Int32).toNatClampNeg) : Int32).toInt64) : Int64) <<< ((31 : Int32).toInt64 &&& 63))) hx hb d_Ga_drawn_52 rfl ?_
    refine lv_lload_n hx hb d_Ga_drawn_53 rfl (lv_at hl 4 rfl) ?_
    refine W.lcmp hx hb d_Ga_drawn_54 ?_
    refine lv_if_le (tgt := 66) hx hb d_Ga_drawn_55 (by decide) (fun c9 => ?_) (fun c9 => ?_)
    · replace hF := ifp c9 hF
      refine lv_iinc (v := (l7 + Int32.ofInt 1)) (lv' := [(7, .int (l7 + Int32.ofInt 1)), (5, .long (L5 + ((h0_weight_c (l7 : Int32).toNatClampNeg) : Int32).toInt64)), (0, .ref h0), (1, .int l1), (2, .int l2), (3, .long L3)]) hx hb d_Ga_drawn_66 hl (k := 5) rfl rfl (by decide) rfl (fun ls hl => ?_)
      refine lv_goto (tgt := 22) hx hb d_Ga_drawn_69 (by decide) ?_
      exact ih1 L3 (L5 + ((h0_weight_c (l7 : Int32).toNatClampNeg) : Int32).toInt64) (l7 + Int32.ofInt 1)   _ _ _ hF q_h0_multiple q_h0_firstBranch q_h0_weight q_h0_goal hP hD hS (lv_sub hl [2, 3, 4, 5, 1, 0] rfl)
    · replace hF := ifn c9 hF
      refine lv_aload_n hx hb d_Ga_drawn_58 rfl (lv_at hl 1 rfl) ?_
      refine va_get (D := D) (ci := 6) (v := .ref h0_goal) (C := R_Ga) (T := T_Ga) (N := 19) hx hb hg i_Ga hown hK hP 0 rfl rfl 8 (by decide) (hg _ k2_163) (fun _ h9 => h9) q_h0_goal d_Ga_drawn_59 ?_
      refine lv_iload hx hb d_Ga_drawn_62 (lv_at hl 5 rfl) ?_
      obtain ⟨h9, hF⟩ := chk_some hF
      refine va_iald hx hb hK hP 4 0 rfl rfl (vp_in_iff.mpr h9) d_Ga_drawn_64 ?_
      replace hF := Option.some.inj hF
      subst hF
      exact zZret (post := (fun (r9 : Int32) (u9 : Unit) => r9 = (h0_goal_c (l7 : Int32).toNatClampNeg))) (W1 := (fun (u9 : Unit) => [(h0, .inr (6, f0_h0)), (h0_multiple, .inl (tA 0, h0_multiple_n, .inl h0_multiple_c)), (h0_firstBranch, .inl (tA 0, h0_firstBranch_n, .inl h0_firstBranch_c)), (h0_weight, .inl (tA 0, h0_weight_n, .inl h0_weight_c)), (h0_goal, .inl (tA 0, h0_goal_n, .inl h0_goal_c))])) (v := (h0_goal_c (l7 : Int32).toNatClampNeg)) hx hb hr rfl hlocks hP hD hS () rfl rfl d_Ga_drawn_65
set_option maxHeartbeats 4000000 in
set_option maxRecDepth 100000 in
theorem a_Ga_drawn {p : Program} {l : Launch} {e : Env} {s : State} {m : MethodId} {args : Array Value} {below : List Frame} {meth : Method} {c : Code} {D : va_G} {tA : Nat → ClassId} {A : Nat → Prop} {h0 h0_multiple h0_firstBranch h0_weight h0_goal : Nat} {f0_h0 : List Value} {h0_multiple_n : Nat} {h0_firstBranch_n : Nat} {h0_weight_n : Nat} {h0_goal_n : Nat} {l1 : Int32} {l2 : Int32} {h0_multiple_c : Nat → Int32} {h0_firstBranch_c : Nat → Int32} {h0_weight_c : Nat → Int32} {h0_goal_c : Nat → Int32} {out : Int32} (hx : p.tables.exec = Jvm.exec) (hb : c.code = prog_4_method_5_code) (hr : meth.sig.returnType = (Option.some Jvm.ClassFile.FieldType.int)) (hml : c.maxLocals = 8) (hh : zH s) (hg : ∀ w ∈ lw_R, w.before args s = true) (hown : s.vm.findClass "ChanceArena$Game" = some m.cls) (hlocks : meth.locks = false) (hK : va_K D vwCl (zT tA) s) (hA : ∀ q, s.heap.size ≤ q → A q) : ∀ n : Nat, (∀ (L3 : Int64) (L5 : Int64) (l7 : Int32) (H : Heap) (locs : List Loc) (ls : Array Slot), f_Ga_drawn h0_multiple_n h0_firstBranch_n h0_weight_n h0_goal_n l1 l2 h0_multiple_c h0_firstBranch_c h0_weight_c h0_goal_c n 0 L3 L5 l7 = some out → f0_h0[6]? = some (.ref h0_multiple) → f0_h0[7]? = some (.ref h0_firstBranch) → f0_h0[9]? = some (.ref h0_weight) → f0_h0[8]? = some (.ref h0_goal) → va_P D vwCl [(h0, .inr (6, f0_h0)), (h0_multiple, .inl (tA 0, h0_multiple_n, .inl h0_multiple_c)), (h0_firstBranch, .inl (tA 0, h0_firstBranch_n, .inl h0_firstBranch_c)), (h0_weight, .inl (tA 0, h0_weight_n, .inl h0_weight_c)), (h0_goal, .inl (tA 0, h0_goal_n, .inl h0_goal_c))] H → va_D A [(h0, .inr (6, f0_h0)), (h0_multiple, .inl (tA 0, h0_multiple_n, .inl h0_multiple_c)), (h0_firstBranch, .inl (tA 0, h0_firstBranch_n, .inl h0_firstBranch_c)), (h0_weight, .inl (tA 0, h0_weight_n, .inl h0_weight_c)), (h0_goal, .inl (tA 0, h0_goal_n, .inl h0_goal_c))] → va_S A s.heap H locs → lv_has ls 8 [(0, .ref h0), (1, .int l1), (2, .int l2)] → W p l e { frames := 0, cells := 0, slots := 0, locals := 0 } s m args below meth c H locs 0 0 (MQ below (va_Qi (fun (r9 : Int32) (u9 : Unit) => r9 = out) (zPost D A (fun (u9 : Unit) => [(h0, .inr (6, f0_h0)), (h0_multiple, .inl (tA 0, h0_multiple_n, .inl h0_multiple_c)), (h0_firstBranch, .inl (tA 0, h0_firstBranch_n, .inl h0_firstBranch_c)), (h0_weight, .inl (tA 0, h0_weight_n, .inl h0_weight_c)), (h0_goal, .inl (tA 0, h0_goal_n, .inl h0_goal_c))])) A) args s 0 0 A) (F0 m 0 ls [])) ∧ (∀ (L3 : Int64) (L5 : Int64) (l7 : Int32) (H : Heap) (locs : List Loc) (ls : Array Slot), f_Ga_drawn h0_multiple_n h0_firstBranch_n h0_weight_n h0_goal_n l1 l2 h0_multiple_c h0_firstBranch_c h0_weight_c h0_goal_c n 1 L3 L5 l7 = some out → f0_h0[6]? = some (.ref h0_multiple) → f0_h0[7]? = some (.ref h0_firstBranch) → f0_h0[9]? = some (.ref h0_weight) → f0_h0[8]? = some (.ref h0_goal) → va_P D vwCl [(h0, .inr (6, f0_h0)), (h0_multiple, .inl (tA 0, h0_multiple_n, .inl h0_multiple_c)), (h0_firstBranch, .inl (tA 0, h0_firstBranch_n, .inl h0_firstBranch_c)), (h0_weight, .inl (tA 0, h0_weight_n, .inl h0_weight_c)), (h0_goal, .inl (tA 0, h0_goal_n, .inl h0_goal_c))] H → va_D A [(h0, .inr (6, f0_h0)), (h0_multiple, .inl (tA 0, h0_multiple_n, .inl h0_multiple_c)), (h0_firstBranch, .inl (tA 0, h0_firstBranch_n, .inl h0_firstBranch_c)), (h0_weight, .inl (tA 0, h0_weight_n, .inl h0_weight_c)), (h0_goal, .inl (tA 0, h0_goal_n, .inl h0_goal_c))] → va_S A s.heap H locs → lv_has ls 8 [(0, .ref h0), (1, .int l1), (2, .int l2), (3, .long L3), (5, .long L5), (7, .int l7)] → W p l e { frames := 0, cells := 0, slots := 0, locals := 0 } s m args below meth c H locs 0 0 (MQ below (va_Qi (fun (r9 : Int32) (u9 : Unit) => r9 = out) (zPost D A (fun (u9 : Unit) => [(h0, .inr (6, f0_h0)), (h0_multiple, .inl (tA 0, h0_multiple_n, .inl h0_multiple_c)), (h0_firstBranch, .inl (tA 0, h0_firstBranch_n, .inl h0_firstBranch_c)), (h0_weight, .inl (tA 0, h0_weight_n, .inl h0_weight_c)), (h0_goal, .inl (tA 0, h0_goal_n, .inl h0_goal_c))])) A) args s 0 0 A) (F0 m 22 ls [])) := by
  intro n
  induction n with
  | zero => exact ⟨(fun _ _ _ _ _ _ hF => by rw [z_Ga_drawn] at hF; cases hF), (fun _ _ _ _ _ _ hF => by rw [z_Ga_drawn] at hF; cases hF)⟩
  | succ n ih =>
    obtain ⟨i0, i1⟩ := ih
    exact ⟨b_Ga_drawn_0 hx hb hr hml hh hg hown hlocks hK hA i1, b_Ga_drawn_1 hx hb hr hml hh hg hown hlocks hK hA i1⟩
set_option maxHeartbeats 4000000 in
set_option maxRecDepth 100000 in
theorem m_Ga_drawn (l : Launch) (D : va_G) (tA : Nat → ClassId) (sz : Nat) (h0 h0_multiple h0_firstBranch h0_weight h0_goal : Nat) (f0_h0 : List Value) (h0_multiple_n : Nat) (h0_firstBranch_n : Nat) (h0_weight_n : Nat) (h0_goal_n : Nat) (l1 : Int32) (l2 : Int32) (h0_multiple_c : Nat → Int32) (h0_firstBranch_c : Nat → Int32) (h0_weight_c : Nat → Int32) (h0_goal_c : Nat → Int32) (q_h0_multiple : f0_h0[6]? = some (.ref h0_multiple)) (q_h0_firstBranch : f0_h0[7]? = some (.ref h0_firstBranch)) (q_h0_weight : f0_h0[9]? = some (.ref h0_weight)) (q_h0_goal : f0_h0[8]? = some (.ref h0_goal)) (n : Nat) (out : Int32) (hF : f_Ga_drawn h0_multiple_n h0_firstBranch_n h0_weight_n h0_goal_n l1 l2 h0_multiple_c h0_firstBranch_c h0_weight_c h0_goal_c n 0 0 0 0 = some out) : zMi l ({ cls := "ChanceArena$Game", name := "drawn", desc := "(II)I" } : Jvm.MethodName) (zW (Jvm.Cond.code ({ cls := "ChanceArena$Game", name := "drawn", desc := "(II)I" } : Jvm.MethodName) prog_4_method_5_code (8 : Nat) (Option.some Jvm.ClassFile.FieldType.int))) { frames := 0, cells := 0, slots := 0, locals := 0 } [.ref h0, .int l1, .int l2] D tA [(h0, .inr (6, f0_h0)), (h0_multiple, .inl (tA 0, h0_multiple_n, .inl h0_multiple_c)), (h0_firstBranch, .inl (tA 0, h0_firstBranch_n, .inl h0_firstBranch_c)), (h0_weight, .inl (tA 0, h0_weight_n, .inl h0_weight_c)), (h0_goal, .inl (tA 0, h0_goal_n, .inl h0_goal_c))] sz (fun (r9 : Int32) (u9 : Unit) => r9 = out) (fun (u9 : Unit) => [(h0, .inr (6, f0_h0)), (h0_multiple, .inl (tA 0, h0_multiple_n, .inl h0_multiple_c)), (h0_firstBranch, .inl (tA 0, h0_firstBranch_n, .inl h0_firstBranch_c)), (h0_weight, .inl (tA 0, h0_weight_n, .inl h0_weight_c)), (h0_goal, .inl (tA 0, h0_goal_n, .inl h0_goal_c))]) 0 0 := by
  refine zOpen (l := l) (y := ({ cls := "ChanceArena$Game", name := "drawn", desc := "(II)I" } : Jvm.MethodName)) (ws := zW (Jvm.Cond.code ({ cls := "ChanceArena$Game", name := "drawn", desc := "(II)I" } : Jvm.MethodName) prog_4_method_5_code (8 : Nat) (Option.some Jvm.ClassFile.FieldType.int))) (rm := { frames := 0, cells := 0, slots := 0, locals := 0 }) (av := [.ref h0, .int l1, .int l2]) (D := D) (tA := tA) (W0 := [(h0, .inr (6, f0_h0)), (h0_multiple, .inl (tA 0, h0_multiple_n, .inl h0_multiple_c)), (h0_firstBranch, .inl (tA 0, h0_firstBranch_n, .inl h0_firstBranch_c)), (h0_weight, .inl (tA 0, h0_weight_n, .inl h0_weight_c)), (h0_goal, .inl (tA 0, h0_goal_n, .inl h0_goal_c))]) (Wm := [(h0, .inr (6, f0_h0)), (h0_multiple, .inl (tA 0, h0_multiple_n, .inl h0_multiple_c)), (h0_firstBranch, .inl (tA 0, h0_firstBranch_n, .inl h0_firstBranch_c)), (h0_weight, .inl (tA 0, h0_weight_n, .inl h0_weight_c)), (h0_goal, .inl (tA 0, h0_goal_n, .inl h0_goal_c))]) (sz := sz) (mc := 0) (ms := 0) (fun A => va_Qi (fun (r9 : Int32) (u9 : Unit) => r9 = out) (zPost D A (fun (u9 : Unit) => [(h0, .inr (6, f0_h0)), (h0_multiple, .inl (tA 0, h0_multiple_n, .inl h0_multiple_c)), (h0_firstBranch, .inl (tA 0, h0_firstBranch_n, .inl h0_firstBranch_c)), (h0_weight, .inl (tA 0, h0_weight_n, .inl h0_weight_c)), (h0_goal, .inl (tA 0, h0_goal_n, .inl h0_goal_c))])) A) (lv := [(0, .ref h0), (1, .int l1), (2, .int l2)]) (by decide) rfl (Nat.le_of_ble_eq_true rfl) rfl ?_
  intro p e s m below meth c A ls hx hb hr hml hh hg hown hlocks hnm hK hA hP hD0 hAw hS hl
  have hD := zD hD0 hAw
  exact (a_Ga_drawn hx hb hr hml hh hg hown hlocks hK hA n).1 0 0 0   _ _ _ hF q_h0_multiple q_h0_firstBranch q_h0_weight q_h0_goal hP hD hS hl
def f_Ga_machineFault (h0_machine_place : Int32) (h0_machine_fault : Int32) (h0_place : Int32) : Option (Int32 × Int32) := some (h0_machine_fault, h0_machine_place)
set_option maxHeartbeats 4000000 in
set_option maxRecDepth 100000 in
theorem b_Ga_machineFault_0 {p : Program} {l : Launch} {e : Env} {s : State} {m : MethodId} {args : Array Value} {below : List Frame} {meth : Method} {c : Code} {D : va_G} {tA : Nat → ClassId} {A : Nat → Prop} {h0 h0_machine : Nat} {f0_h0 f0_h0_machine : List Value} {h0_machine_place : Int32} {h0_machine_fault : Int32} {h0_place : Int32} {out : Int32 × Int32} (hx : p.tables.exec = Jvm.exec) (hb : c.code = prog_4_method_8_code) (hr : meth.sig.returnType = (Option.some Jvm.ClassFile.FieldType.int)) (hml : c.maxLocals = 1) (hh : zH s) (hg : ∀ w ∈ lw_R, w.before args s = true) (hown : s.vm.findClass "ChanceArena$Game" = some m.cls) (hlocks : meth.locks = false) (hK : va_K D vwCl (zT tA) s) (hA : ∀ q, s.heap.size ≤ q → A q)  : ∀ (f_h0 : List Value) (H : Heap) (locs : List Loc) (ls : Array Slot), f_Ga_machineFault h0_machine_place h0_machine_fault h0_place = some out → f_h0[15]? = some (.ref h0_machine) → f_h0[10]? = some (.int h0_place) → Fr [10] f0_h0 f_h0 → f0_h0_machine[2]? = some (.int h0_machine_place) → f0_h0_machine[1]? = some (.int h0_machine_fault) → va_P D vwCl [(h0, .inr (6, f_h0)), (h0_machine, .inr (4, f0_h0_machine))] H → va_D A [(h0, .inr (6, f_h0)), (h0_machine, .inr (4, f0_h0_machine))] → va_S A s.heap H locs → lv_has ls 1 [(0, .ref h0)] → W p l e { frames := 0, cells := 0, slots := 0, locals := 0 } s m args below meth c H locs 0 0 (MQ below (va_Qi (fun (r9 : Int32) (u9 : List Value) => r9 = out.1 ∧ Fr [10] f0_h0 u9 ∧ u9[10]? = some (.int out.2)) (zPost D A (fun (u9 : List Value) => [(h0, .inr (6, u9)), (h0_machine, .inr (4, f0_h0_machine))])) A) args s 0 0 A) (F0 m 0 ls []) := by
  intro   f_h0 H locs ls hF q_h0_machine q_h0_place r_h0 q_h0_machine_place q_h0_machine_fault hP hD hS hl
  replace hF : ((some (h0_machine_fault, h0_machine_place)) : Option (Int32 × Int32)) = some out := hF
  refine lv_aload_n hx hb d_Ga_machineFault_0 rfl (lv_at hl 0 rfl) ?_
  refine lv_aload_n hx hb d_Ga_machineFault_1 rfl (lv_at hl 0 rfl) ?_
  refine va_get (D := D) (ci := 6) (v := .ref h0_machine) (C := R_Ga) (T := T_Ga) (N := 19) hx hb hg i_Ga hown hK hP 0 rfl rfl 15 (by decide) (hg _ k2_178) (fun _ h9 => h9) q_h0_machine d_Ga_machineFault_2 ?_
  refine va_get (D := D) (ci := 4) (v := .int h0_machine_place) (C := R_Ma) (T := T_Ma) (N := 16) hx hb hg i_Ma hown hK hP 1 rfl rfl 2 (by decide) (hg _ k1_176) (fun _ h9 => h9) q_h0_machine_place d_Ga_machineFault_5 ?_
  refine va_put (D := D) (ci := 6) (v := .int h0_machine_place) (ty := .int) (C := R_Ga) (T := T_Ga) (N := 19) hx hb hg i_Ga t_Ga o_Ga n_Ga hown hK hP hD hS 0 rfl rfl 10 (by decide) (hg _ k2_171) (fun _ h9 => h9) rfl (by decide +kernel) rfl rfl (zLen q_h0_place) d_Ga_machineFault_8 (fun H1 locs1 hP1 hD1 hS1 => ?_)
  clear hP hD hS
  replace hP1 : va_P D vwCl [(h0, .inr (6, f_h0.set 10 (.int h0_machine_place))), (h0_machine, .inr (4, f0_h0_machine))] _ := hP1
  replace hD1 : va_D A [(h0, .inr (6, f_h0.set 10 (.int h0_machine_place))), (h0_machine, .inr (4, f0_h0_machine))] := hD1
  refine lv_aload_n hx hb d_Ga_machineFault_11 rfl (lv_at hl 0 rfl) ?_
  refine va_get (D := D) (ci := 6) (v := .ref h0_machine) (C := R_Ga) (T := T_Ga) (N := 19) hx hb hg i_Ga hown hK hP1 0 rfl rfl 15 (by decide) (hg _ k2_178) (fun _ h9 => h9) (zSetN (by decide) q_h0_machine) d_Ga_machineFault_12 ?_
  refine va_get (D := D) (ci := 4) (v := .int h0_machine_fault) (C := R_Ma) (T := T_Ma) (N := 16) hx hb hg i_Ma hown hK hP1 1 rfl rfl 1 (by decide) (hg _ k1_173) (fun _ h9 => h9) q_h0_machine_fault d_Ga_machineFault_15 ?_
  replace hF := Option.some.inj hF
  subst hF
  exact zZret (post := (fun (r9 : Int32) (u9 : List Value) => r9 = (h0_machine_fault, h0_machine_place).1 ∧ Fr [10] f0_h0 u9 ∧ u9[10]? = some (.int ((h0_machine_fault, h0_machine_place).2)))) (W1 := (fun (u9 : List Value) => [(h0, .inr (6, u9)), (h0_machine, .inr (4, f0_h0_machine))])) (v := h0_machine_fault) hx hb hr rfl hlocks hP1 hD1 hS1 (f_h0.set 10 (.int h0_machine_place)) ⟨rfl, (Fr.set r_h0 (by decide)), (zSetS q_h0_place)⟩ rfl d_Ga_machineFault_18
set_option maxHeartbeats 4000000 in
set_option maxRecDepth 100000 in
theorem m_Ga_machineFault (l : Launch) (D : va_G) (tA : Nat → ClassId) (sz : Nat) (h0 h0_machine : Nat) (f0_h0 f0_h0_machine : List Value) (h0_machine_place : Int32) (h0_machine_fault : Int32) (h0_place : Int32) (q_h0_machine : f0_h0[15]? = some (.ref h0_machine)) (q_h0_place : f0_h0[10]? = some (.int h0_place)) (q_h0_machine_place : f0_h0_machine[2]? = some (.int h0_machine_place)) (q_h0_machine_fault : f0_h0_machine[1]? = some (.int h0_machine_fault)) (out : Int32 × Int32) (hF : f_Ga_machineFault h0_machine_place h0_machine_fault h0_place = some out) : zMi l ({ cls := "ChanceArena$Game", name := "machineFault", desc := "()I" } : Jvm.MethodName) (zW (Jvm.Cond.code ({ cls := "ChanceArena$Game", name := "machineFault", desc := "()I" } : Jvm.MethodName) prog_4_method_8_code (1 : Nat) (Option.some Jvm.ClassFile.FieldType.int))) { frames := 0, cells := 0, slots := 0, locals := 0 } [.ref h0] D tA [(h0, .inr (6, f0_h0)), (h0_machine, .inr (4, f0_h0_machine))] sz (fun (r9 : Int32) (u9 : List Value) => r9 = out.1 ∧ Fr [10] f0_h0 u9 ∧ u9[10]? = some (.int out.2)) (fun (u9 : List Value) => [(h0, .inr (6, u9)), (h0_machine, .inr (4, f0_h0_machine))]) 0 0 := by
  refine zOpen (l := l) (y := ({ cls := "ChanceArena$Game", name := "machineFault", desc := "()I" } : Jvm.MethodName)) (ws := zW (Jvm.Cond.code ({ cls := "ChanceArena$Game", name := "machineFault", desc := "()I" } : Jvm.MethodName) prog_4_method_8_code (1 : Nat) (Option.some Jvm.ClassFile.FieldType.int))) (rm := { frames := 0, cells := 0, slots := 0, locals := 0 }) (av := [.ref h0]) (D := D) (tA := tA) (W0 := [(h0, .inr (6, f0_h0)), (h0_machine, .inr (4, f0_h0_machine))]) (Wm := [(h0, .inr (6, f0_h0)), (h0_machine, .inr (4, f0_h0_machine))]) (sz := sz) (mc := 0) (ms := 0) (fun A => va_Qi (fun (r9 : Int32) (u9 : List Value) => r9 = out.1 ∧ Fr [10] f0_h0 u9 ∧ u9[10]? = some (.int out.2)) (zPost D A (fun (u9 : List Value) => [(h0, .inr (6, u9)), (h0_machine, .inr (4, f0_h0_machine))])) A) (lv := [(0, .ref h0)]) (by decide) rfl (Nat.le_of_ble_eq_true rfl) rfl ?_
  intro p e s m below meth c A ls hx hb hr hml hh hg hown hlocks hnm hK hA hP hD0 hAw hS hl
  have hD := zD hD0 hAw
  exact b_Ga_machineFault_0 hx hb hr hml hh hg hown hlocks hK hA   f0_h0 _ _ _ hF q_h0_machine q_h0_place Fr.rfl q_h0_machine_place q_h0_machine_fault hP hD hS hl
def f_Ga_fault (l1 : Int32) (l2 : Int32) (h0_place : Int32) : Option (Int32 × Int32) := some (l1, l2)
set_option maxHeartbeats 4000000 in
set_option maxRecDepth 100000 in
theorem b_Ga_fault_0 {p : Program} {l : Launch} {e : Env} {s : State} {m : MethodId} {args : Array Value} {below : List Frame} {meth : Method} {c : Code} {D : va_G} {tA : Nat → ClassId} {A : Nat → Prop} {h0 : Nat} {f0_h0 : List Value} {l1 : Int32} {l2 : Int32} {h0_place : Int32} {out : Int32 × Int32} (hx : p.tables.exec = Jvm.exec) (hb : c.code = prog_4_method_9_code) (hr : meth.sig.returnType = (Option.some Jvm.ClassFile.FieldType.int)) (hml : c.maxLocals = 3) (hh : zH s) (hg : ∀ w ∈ lw_R, w.before args s = true) (hown : s.vm.findClass "ChanceArena$Game" = some m.cls) (hlocks : meth.locks = false) (hK : va_K D vwCl (zT tA) s) (hA : ∀ q, s.heap.size ≤ q → A q)  : ∀ (f_h0 : List Value) (H : Heap) (locs : List Loc) (ls : Array Slot), f_Ga_fault l1 l2 h0_place = some out → f_h0[10]? = some (.int h0_place) → Fr [10] f0_h0 f_h0 → va_P D vwCl [(h0, .inr (6, f_h0))] H → va_D A [(h0, .inr (6, f_h0))] → va_S A s.heap H locs → lv_has ls 3 [(0, .ref h0), (1, .int l1), (2, .int l2)] → W p l e { frames := 0, cells := 0, slots := 0, locals := 0 } s m args below meth c H locs 0 0 (MQ below (va_Qi (fun (r9 : Int32) (u9 : List Value) => r9 = out.1 ∧ Fr [10] f0_h0 u9 ∧ u9[10]? = some (.int out.2)) (zPost D A (fun (u9 : List Value) => [(h0, .inr (6, u9))])) A) args s 0 0 A) (F0 m 0 ls []) := by
  intro   f_h0 H locs ls hF q_h0_place r_h0 hP hD hS hl
  replace hF : ((some (l1, l2)) : Option (Int32 × Int32)) = some out := hF
  refine lv_aload_n hx hb d_Ga_fault_0 rfl (lv_at hl 0 rfl) ?_
  refine lv_iload_n hx hb d_Ga_fault_1 rfl (lv_at hl 2 rfl) ?_
  refine va_put (D := D) (ci := 6) (v := .int l2) (ty := .int) (C := R_Ga) (T := T_Ga) (N := 19) hx hb hg i_Ga t_Ga o_Ga n_Ga hown hK hP hD hS 0 rfl rfl 10 (by decide) (hg _ k2_171) (fun _ h9 => h9) rfl (by decide +kernel) rfl rfl (zLen q_h0_place) d_Ga_fault_2 (fun H1 locs1 hP1 hD1 hS1 => ?_)
  clear hP hD hS
  replace hP1 : va_P D vwCl [(h0, .inr (6, f_h0.set 10 (.int l2)))] _ := hP1
  replace hD1 : va_D A [(h0, .inr (6, f_h0.set 10 (.int l2)))] := hD1
  refine lv_iload_n hx hb d_Ga_fault_5 rfl (lv_at hl 1 rfl) ?_
  replace hF := Option.some.inj hF
  subst hF
  exact zZret (post := (fun (r9 : Int32) (u9 : List Value) => r9 = (l1, l2).1 ∧ Fr [10] f0_h0 u9 ∧ u9[10]? = some (.int ((l1, l2).2)))) (W1 := (fun (u9 : List Value) => [(h0, .inr (6, u9))])) (v := l1) hx hb hr rfl hlocks hP1 hD1 hS1 (f_h0.set 10 (.int l2)) ⟨rfl, (Fr.set r_h0 (by decide)), (zSetS q_h0_place)⟩ rfl d_Ga_fault_6
set_option maxHeartbeats 4000000 in
set_option maxRecDepth 100000 in
theorem m_Ga_fault (l : Launch) (D : va_G) (tA : Nat → ClassId) (sz : Nat) (h0 : Nat) (f0_h0 : List Value) (l1 : Int32) (l2 : Int32) (h0_place : Int32) (q_h0_place : f0_h0[10]? = some (.int h0_place)) (out : Int32 × Int32) (hF : f_Ga_fault l1 l2 h0_place = some out) : zMi l ({ cls := "ChanceArena$Game", name := "fault", desc := "(II)I" } : Jvm.MethodName) (zW (Jvm.Cond.code ({ cls := "ChanceArena$Game", name := "fault", desc := "(II)I" } : Jvm.MethodName) prog_4_method_9_code (3 : Nat) (Option.some Jvm.ClassFile.FieldType.int))) { frames := 0, cells := 0, slots := 0, locals := 0 } [.ref h0, .int l1, .int l2] D tA [(h0, .inr (6, f0_h0))] sz (fun (r9 : Int32) (u9 : List Value) => r9 = out.1 ∧ Fr [10] f0_h0 u9 ∧ u9[10]? = some (.int out.2)) (fun (u9 : List Value) => [(h0, .inr (6, u9))]) 0 0 := by
  refine zOpen (l := l) (y := ({ cls := "ChanceArena$Game", name := "fault", desc := "(II)I" } : Jvm.MethodName)) (ws := zW (Jvm.Cond.code ({ cls := "ChanceArena$Game", name := "fault", desc := "(II)I" } : Jvm.MethodName) prog_4_method_9_code (3 : Nat) (Option.some Jvm.ClassFile.FieldType.int))) (rm := { frames := 0, cells := 0, slots := 0, locals := 0 }) (av := [.ref h0, .int l1, .int l2]) (D := D) (tA := tA) (W0 := [(h0, .inr (6, f0_h0))]) (Wm := [(h0, .inr (6, f0_h0))]) (sz := sz) (mc := 0) (ms := 0) (fun A => va_Qi (fun (r9 : Int32) (u9 : List Value) => r9 = out.1 ∧ Fr [10] f0_h0 u9 ∧ u9[10]? = some (.int out.2)) (zPost D A (fun (u9 : List Value) => [(h0, .inr (6, u9))])) A) (lv := [(0, .ref h0), (1, .int l1), (2, .int l2)]) (by decide) rfl (Nat.le_of_ble_eq_true rfl) rfl ?_
  intro p e s m below meth c A ls hx hb hr hml hh hg hown hlocks hnm hK hA hP hD0 hAw hS hl
  have hD := zD hD0 hAw
  exact b_Ga_fault_0 hx hb hr hml hh hg hown hlocks hK hA   f0_h0 _ _ _ hF q_h0_place Fr.rfl hP hD hS hl
def f_Ga_isNext (h0_numbers_n : Nat) (h0_machine_next_n : Nat) (l1 : Int32) (h0_text_vars : Int32) (h0_numbers_c : Nat → Int32) (h0_machine_next_c : Nat → Int32) : Nat → Nat → Int32 → Option (Int32)
  | 0, _, _ => none
  | n + 1, 0, l2 => chk True (f_Ga_isNext h0_numbers_n h0_machine_next_n l1 h0_text_vars h0_numbers_c h0_machine_next_c n 1 0)
  | n + 1, 1, l2 => if (h0_text_vars : Int32) ≤ l2 then some (1) else chk (0 ≤ (((l1 * 12) + l2) : Int32).toInt ∧ (((l1 * 12) + l2) : Int32).toInt < h0_numbers_n) (chk (0 ≤ (l2 : Int32).toInt ∧ (l2 : Int32).toInt < h0_machine_next_n) (if ((h0_numbers_c (((l1 * 12) + l2) : Int32).toNatClampNeg) : Int32) = (h0_machine_next_c (l2 : Int32).toNatClampNeg) then f_Ga_isNext h0_numbers_n h0_machine_next_n l1 h0_text_vars h0_numbers_c h0_machine_next_c n 1 (l2 + Int32.ofInt 1) else some (0)))
  | _ + 1, _ + 2, _ => none
theorem e_Ga_isNext_0 (h0_numbers_n : Nat) (h0_machine_next_n : Nat) (l1 : Int32) (h0_text_vars : Int32) (h0_numbers_c : Nat → Int32) (h0_machine_next_c : Nat → Int32) (n : Nat) (l2 : Int32) : f_Ga_isNext h0_numbers_n h0_machine_next_n l1 h0_text_vars h0_numbers_c h0_machine_next_c (n + 1) 0 l2 = chk True (f_Ga_isNext h0_numbers_n h0_machine_next_n l1 h0_text_vars h0_numbers_c h0_machine_next_c n 1 0) := by rw [f_Ga_isNext]
theorem e_Ga_isNext_1 (h0_numbers_n : Nat) (h0_machine_next_n : Nat) (l1 : Int32) (h0_text_vars : Int32) (h0_numbers_c : Nat → Int32) (h0_machine_next_c : Nat → Int32) (n : Nat) (l2 : Int32) : f_Ga_isNext h0_numbers_n h0_machine_next_n l1 h0_text_vars h0_numbers_c h0_machine_next_c (n + 1) 1 l2 = if (h0_text_vars : Int32) ≤ l2 then some (1) else chk (0 ≤ (((l1 * 12) + l2) : Int32).toInt ∧ (((l1 * 12) + l2) : Int32).toInt < h0_numbers_n) (chk (0 ≤ (l2 : Int32).toInt ∧ (l2 : Int32).toInt < h0_machine_next_n) (if ((h0_numbers_c (((l1 * 12) + l2) : Int32).toNatClampNeg) : Int32) = (h0_machine_next_c (l2 : Int32).toNatClampNeg) then f_Ga_isNext h0_numbers_n h0_machine_next_n l1 h0_text_vars h0_numbers_c h0_machine_next_c n 1 (l2 + Int32.ofInt 1) else some (0))) := by rw [f_Ga_isNext]
theorem z_Ga_isNext (h0_numbers_n : Nat) (h0_machine_next_n : Nat) (l1 : Int32) (h0_text_vars : Int32) (h0_numbers_c : Nat → Int32) (h0_machine_next_c : Nat → Int32) (h : Nat) (l2 : Int32) : f_Ga_isNext h0_numbers_n h0_machine_next_n l1 h0_text_vars h0_numbers_c h0_machine_next_c 0 h l2 = none := by rw [f_Ga_isNext]
set_option maxHeartbeats 4000000 in
set_option maxRecDepth 100000 in
theorem b_Ga_isNext_0 {p : Program} {l : Launch} {e : Env} {s : State} {m : MethodId} {args : Array Value} {below : List Frame} {meth : Method} {c : Code} {D : va_G} {tA : Nat → ClassId} {A : Nat → Prop} {h0 h0_text h0_numbers h0_machine h0_machine_next : Nat} {f0_h0 f0_h0_text f0_h0_machine : List Value} {h0_numbers_n : Nat} {h0_machine_next_n : Nat} {l1 : Int32} {h0_text_vars : Int32} {h0_numbers_c : Nat → Int32} {h0_machine_next_c : Nat → Int32} {out : Int32} (hx : p.tables.exec = Jvm.exec) (hb : c.code = prog_4_method_14_code) (hr : meth.sig.returnType = (Option.some Jvm.ClassFile.FieldType.boolean)) (hml : c.maxLocals = 3) (hh : zH s) (hg : ∀ w ∈ lw_R, w.before args s = true) (hown : s.vm.findClass "ChanceArena$Game" = some m.cls) (hlocks : meth.locks = false) (hK : va_K D vwCl (zT tA) s) (hA : ∀ q, s.heap.size ≤ q → A q) {n : Nat} (ih1 : ∀ (l2 : Int32) (H : Heap) (locs : List Loc) (ls : Array Slot), f_Ga_isNext h0_numbers_n h0_machine_next_n l1 h0_text_vars h0_numbers_c h0_machine_next_c n 1 l2 = some out → f0_h0[14]? = some (.ref h0_text) → f0_h0[1]? = some (.ref h0_numbers) → f0_h0[15]? = some (.ref h0_machine) → f0_h0_text[3]? = some (.int h0_text_vars) → f0_h0_machine[5]? = some (.ref h0_machine_next) → va_P D vwCl [(h0, .inr (6, f0_h0)), (h0_text, .inr (5, f0_h0_text)), (h0_numbers, .inl (tA 0, h0_numbers_n, .inl h0_numbers_c)), (h0_machine, .inr (4, f0_h0_machine)), (h0_machine_next, .inl (tA 0, h0_machine_next_n, .inl h0_machine_next_c))] H → va_D A [(h0, .inr (6, f0_h0)), (h0_text, .inr (5, f0_h0_text)), (h0_numbers, .inl (tA 0, h0_numbers_n, .inl h0_numbers_c)), (h0_machine, .inr (4, f0_h0_machine)), (h0_machine_next, .inl (tA 0, h0_machine_next_n, .inl h0_machine_next_c))] → va_S A s.heap H locs → lv_has ls 3 [(0, .ref h0), (1, .int l1), (2, .int l2)] → W p l e { frames := 0, cells := 0, slots := 0, locals := 0 } s m args below meth c H locs 0 0 (MQ below (va_Qi (fun (r9 : Int32) (u9 : Unit) => r9 = out) (zPost D A (fun (u9 : Unit) => [(h0, .inr (6, f0_h0)), (h0_text, .inr (5, f0_h0_text)), (h0_numbers, .inl (tA 0, h0_numbers_n, .inl h0_numbers_c)), (h0_machine, .inr (4, f0_h0_machine)), (h0_machine_next, .inl (tA 0, h0_machine_next_n, .inl h0_machine_next_c))])) A) args s 0 0 A) (F0 m 2 ls [])) : ∀ (l2 : Int32) (H : Heap) (locs : List Loc) (ls : Array Slot), f_Ga_isNext h0_numbers_n h0_machine_next_n l1 h0_text_vars h0_numbers_c h0_machine_next_c (n + 1) 0 l2 = some out → f0_h0[14]? = some (.ref h0_text) → f0_h0[1]? = some (.ref h0_numbers) → f0_h0[15]? = some (.ref h0_machine) → f0_h0_text[3]? = some (.int h0_text_vars) → f0_h0_machine[5]? = some (.ref h0_machine_next) → va_P D vwCl [(h0, .inr (6, f0_h0)), (h0_text, .inr (5, f0_h0_text)), (h0_numbers, .inl (tA 0, h0_numbers_n, .inl h0_numbers_c)), (h0_machine, .inr (4, f0_h0_machine)), (h0_machine_next, .inl (tA 0, h0_machine_next_n, .inl h0_machine_next_c))] H → va_D A [(h0, .inr (6, f0_h0)), (h0_text, .inr (5, f0_h0_text)), (h0_numbers, .inl (tA 0, h0_numbers_n, .inl h0_numbers_c)), (h0_machine, .inr (4, f0_h0_machine)), (h0_machine_next, .inl (tA 0, h0_machine_next_n, .inl h0_machine_next_c))] → va_S A s.heap H locs → lv_has ls 3 [(0, .ref h0), (1, .int l1)] → W p l e { frames := 0, cells := 0, slots := 0, locals := 0 } s m args below meth c H locs 0 0 (MQ below (va_Qi (fun (r9 : Int32) (u9 : Unit) => r9 = out) (zPost D A (fun (u9 : Unit) => [(h0, .inr (6, f0_h0)), (h0_text, .inr (5, f0_h0_text)), (h0_numbers, .inl (tA 0, h0_numbers_n, .inl h0_numbers_c)), (h0_machine, .inr (4, f0_h0_machine)), (h0_machine_next, .inl (tA 0, h0_machine_next_n, .inl h0_machine_next_c))])) A) args s 0 0 A) (F0 m 0 ls []) := by
  intro l2   H locs ls hF q_h0_text q_h0_numbers q_h0_machine q_h0_text_vars q_h0_machine_next hP hD hS hl
  rw [e_Ga_isNext_0] at hF
  obtain ⟨_, hF⟩ := chk_some hF
  refine lv_iconst (v := 0) hx hb d_Ga_isNext_0 (by decide) ?_
  refine lv_istore_n (lv' := [(2, .int 0), (0, .ref h0), (1, .int l1)]) hx hb d_Ga_isNext_1 rfl hl (by decide) rfl (fun ls hl => ?_)
  exact ih1 0   _ _ _ hF q_h0_text q_h0_numbers q_h0_machine q_h0_text_vars q_h0_machine_next hP hD hS (lv_sub hl [1, 2, 0] rfl)
set_option maxHeartbeats 4000000 in
set_option maxRecDepth 100000 in
theorem b_Ga_isNext_1 {p : Program} {l : Launch} {e : Env} {s : State} {m : MethodId} {args : Array Value} {below : List Frame} {meth : Method} {c : Code} {D : va_G} {tA : Nat → ClassId} {A : Nat → Prop} {h0 h0_text h0_numbers h0_machine h0_machine_next : Nat} {f0_h0 f0_h0_text f0_h0_machine : List Value} {h0_numbers_n : Nat} {h0_machine_next_n : Nat} {l1 : Int32} {h0_text_vars : Int32} {h0_numbers_c : Nat → Int32} {h0_machine_next_c : Nat → Int32} {out : Int32} (hx : p.tables.exec = Jvm.exec) (hb : c.code = prog_4_method_14_code) (hr : meth.sig.returnType = (Option.some Jvm.ClassFile.FieldType.boolean)) (hml : c.maxLocals = 3) (hh : zH s) (hg : ∀ w ∈ lw_R, w.before args s = true) (hown : s.vm.findClass "ChanceArena$Game" = some m.cls) (hlocks : meth.locks = false) (hK : va_K D vwCl (zT tA) s) (hA : ∀ q, s.heap.size ≤ q → A q) {n : Nat} (ih1 : ∀ (l2 : Int32) (H : Heap) (locs : List Loc) (ls : Array Slot), f_Ga_isNext h0_numbers_n h0_machine_next_n l1 h0_text_vars h0_numbers_c h0_machine_next_c n 1 l2 = some out → f0_h0[14]? = some (.ref h0_text) → f0_h0[1]? = some (.ref h0_numbers) → f0_h0[15]? = some (.ref h0_machine) → f0_h0_text[3]? = some (.int h0_text_vars) → f0_h0_machine[5]? = some (.ref h0_machine_next) → va_P D vwCl [(h0, .inr (6, f0_h0)), (h0_text, .inr (5, f0_h0_text)), (h0_numbers, .inl (tA 0, h0_numbers_n, .inl h0_numbers_c)), (h0_machine, .inr (4, f0_h0_machine)), (h0_machine_next, .inl (tA 0, h0_machine_next_n, .inl h0_machine_next_c))] H → va_D A [(h0, .inr (6, f0_h0)), (h0_text, .inr (5, f0_h0_text)), (h0_numbers, .inl (tA 0, h0_numbers_n, .inl h0_numbers_c)), (h0_machine, .inr (4, f0_h0_machine)), (h0_machine_next, .inl (tA 0, h0_machine_next_n, .inl h0_machine_next_c))] → va_S A s.heap H locs → lv_has ls 3 [(0, .ref h0), (1, .int l1), (2, .int l2)] → W p l e { frames := 0, cells := 0, slots := 0, locals := 0 } s m args below meth c H locs 0 0 (MQ below (va_Qi (fun (r9 : Int32) (u9 : Unit) => r9 = out) (zPost D A (fun (u9 : Unit) => [(h0, .inr (6, f0_h0)), (h0_text, .inr (5, f0_h0_text)), (h0_numbers, .inl (tA 0, h0_numbers_n, .inl h0_numbers_c)), (h0_machine, .inr (4, f0_h0_machine)), (h0_machine_next, .inl (tA 0, h0_machine_next_n, .inl h0_machine_next_c))])) A) args s 0 0 A) (F0 m 2 ls [])) : ∀ (l2 : Int32) (H : Heap) (locs : List Loc) (ls : Array Slot), f_Ga_isNext h0_numbers_n h0_machine_next_n l1 h0_text_vars h0_numbers_c h0_machine_next_c (n + 1) 1 l2 = some out → f0_h0[14]? = some (.ref h0_text) → f0_h0[1]? = some (.ref h0_numbers) → f0_h0[15]? = some (.ref h0_machine) → f0_h0_text[3]? = some (.int h0_text_vars) → f0_h0_machine[5]? = some (.ref h0_machine_next) → va_P D vwCl [(h0, .inr (6, f0_h0)), (h0_text, .inr (5, f0_h0_text)), (h0_numbers, .inl (tA 0, h0_numbers_n, .inl h0_numbers_c)), (h0_machine, .inr (4, f0_h0_machine)), (h0_machine_next, .inl (tA 0, h0_machine_next_n, .inl h0_machine_next_c))] H → va_D A [(h0, .inr (6, f0_h0)), (h0_text, .inr (5, f0_h0_text)), (h0_numbers, .inl (tA 0, h0_numbers_n, .inl h0_numbers_c)), (h0_machine, .inr (4, f0_h0_machine)), (h0_machine_next, .inl (tA 0, h0_machine_next_n, .inl h0_machine_next_c))] → va_S A s.heap H locs → lv_has ls 3 [(0, .ref h0), (1, .int l1), (2, .int l2)] → W p l e { frames := 0, cells := 0, slots := 0, locals := 0 } s m args below meth c H locs 0 0 (MQ below (va_Qi (fun (r9 : Int32) (u9 : Unit) => r9 = out) (zPost D A (fun (u9 : Unit) => [(h0, .inr (6, f0_h0)), (h0_text, .inr (5, f0_h0_text)), (h0_numbers, .inl (tA 0, h0_numbers_n, .inl h0_numbers_c)), (h0_machine, .inr (4, f0_h0_machine)), (h0_machine_next, .inl (tA 0, h0_machine_next_n, .inl h0_machine_next_c))])) A) args s 0 0 A) (F0 m 2 ls []) := by
  intro l2   H locs ls hF q_h0_text q_h0_numbers q_h0_machine q_h0_text_vars q_h0_machine_next hP hD hS hl
  rw [e_Ga_isNext_1] at hF
  refine lv_iload_n hx hb d_Ga_isNext_2 rfl (lv_at hl 2 rfl) ?_
  refine lv_aload_n hx hb d_Ga_isNext_3 rfl (lv_at hl 0 rfl) ?_
  refine va_get (D := D) (ci := 6) (v := .ref h0_text) (C := R_Ga) (T := T_Ga) (N := 19) hx hb hg i_Ga hown hK hP 0 rfl rfl 14 (by decide) (hg _ k2_177) (fun _ h9 => h9) q_h0_text d_Ga_isNext_4 ?_
  refine va_get (D := D) (ci := 5) (v := .int h0_text_vars) (C := R_Pr) (T := T_Pr) (N := 20) hx hb hg i_Pr hown hK hP 1 rfl rfl 3 (by decide) (hg _ k2_33) (fun _ h9 => h9) q_h0_text_vars d_Ga_isNext_7 ?_
  refine lv_icmp_ge (tgt := 44) hx hb d_Ga_isNext_10 (by decide) (fun c9 => ?_) (fun c9 => ?_)
  · replace hF := ifp c9 hF
    refine lv_iconst (v := 1) hx hb d_Ga_isNext_44 (by decide) ?_
    replace hF := Option.some.inj hF
    subst hF
    exact zZret (post := (fun (r9 : Int32) (u9 : Unit) => r9 = 1)) (W1 := (fun (u9 : Unit) => [(h0, .inr (6, f0_h0)), (h0_text, .inr (5, f0_h0_text)), (h0_numbers, .inl (tA 0, h0_numbers_n, .inl h0_numbers_c)), (h0_machine, .inr (4, f0_h0_machine)), (h0_machine_next, .inl (tA 0, h0_machine_next_n, .inl h0_machine_next_c))])) (v := 1) hx hb hr rfl hlocks hP hD hS () rfl rfl d_Ga_isNext_45
  · replace hF := ifn c9 hF
    refine lv_aload_n hx hb d_Ga_isNext_13 rfl (lv_at hl 0 rfl) ?_
    refine va_get (D := D) (ci := 6) (v := .ref h0_numbers) (C := R_Ga) (T := T_Ga) (N := 19) hx hb hg i_Ga hown hK hP 0 rfl rfl 1 (by decide) (hg _ k2_139) (fun _ h9 => h9) q_h0_numbers d_Ga_isNext_14 ?_
    refine lv_iload_n hx hb d_Ga_isNext_17 rfl (lv_at hl 1 rfl) ?_
    refine lv_bipush (v := 12) hx hb d_Ga_isNext_18 (by decide) ?_
    refine lv_imul hx hb d_Ga_isNext_20 ?_
    refine lv_iload_n hx hb d_Ga_isNext_21 rfl (lv_at hl 2 rfl) ?_
    refine lv_iadd hx hb d_Ga_isNext_22 ?_
    obtain ⟨h9, hF⟩ := chk_some hF
    refine va_iald hx hb hK hP 2 0 rfl rfl (vp_in_iff.mpr h9) d_Ga_isNext_23 ?_
    refine lv_aload_n hx hb d_Ga_isNext_24 rfl (lv_at hl 0 rfl) ?_
    refine va_get (D := D) (ci := 6) (v := .ref h0_machine) (C := R_Ga) (T := T_Ga) (N := 19) hx hb hg i_Ga hown hK hP 0 rfl rfl 15 (by decide) (hg _ k2_178) (fun _ h9 => h9) q_h0_machine d_Ga_isNext_25 ?_
    refine va_get (D := D) (ci := 4) (v := .ref h0_machine_next) (C := R_Ma) (T := T_Ma) (N := 16) hx hb hg i_Ma hown hK hP 3 rfl rfl 5 (by decide) (hg _ k1_181) (fun _ h9 => h9) q_h0_machine_next d_Ga_isNext_28 ?_
    refine lv_iload_n hx hb d_Ga_isNext_31 rfl (lv_at hl 2 rfl) ?_
    obtain ⟨h9, hF⟩ := chk_some hF
    refine va_iald hx hb hK hP 4 0 rfl rfl (vp_in_iff.mpr h9) d_Ga_isNext_32 ?_
    refine lv_icmp_eq (tgt := 38) hx hb d_Ga_isNext_33 (by decide) (fun c9 => ?_) (fun c9 => ?_)
    · replace hF := ifp c9 hF
      refine lv_iinc (v := (l2 + Int32.ofInt 1)) (lv' := [(2, .int (l2 + Int32.ofInt 1)), (0, .ref h0), (1, .int l1)]) hx hb d_Ga_isNext_38 hl (k := 2) rfl rfl (by decide) rfl (fun ls hl => ?_)
      refine lv_goto (tgt := 2) hx hb d_Ga_isNext_41 (by decide) ?_
      exact ih1 (l2 + Int32.ofInt 1)   _ _ _ hF q_h0_text q_h0_numbers q_h0_machine q_h0_text_vars q_h0_machine_next hP hD hS (lv_sub hl [1, 2, 0] rfl)
    · replace hF := ifn c9 hF
      refine lv_iconst (v := 0) hx hb d_Ga_isNext_36 (by decide) ?_
      replace hF := Option.some.inj hF
      subst hF
      exact zZret (post := (fun (r9 : Int32) (u9 : Unit) => r9 = 0)) (W1 := (fun (u9 : Unit) => [(h0, .inr (6, f0_h0)), (h0_text, .inr (5, f0_h0_text)), (h0_numbers, .inl (tA 0, h0_numbers_n, .inl h0_numbers_c)), (h0_machine, .inr (4, f0_h0_machine)), (h0_machine_next, .inl (tA 0, h0_machine_next_n, .inl h0_machine_next_c))])) (v := 0) hx hb hr rfl hlocks hP hD hS () rfl rfl d_Ga_isNext_37
set_option maxHeartbeats 4000000 in
set_option maxRecDepth 100000 in
theorem a_Ga_isNext {p : Program} {l : Launch} {e : Env} {s : State} {m : MethodId} {args : Array Value} {below : List Frame} {meth : Method} {c : Code} {D : va_G} {tA : Nat → ClassId} {A : Nat → Prop} {h0 h0_text h0_numbers h0_machine h0_machine_next : Nat} {f0_h0 f0_h0_text f0_h0_machine : List Value} {h0_numbers_n : Nat} {h0_machine_next_n : Nat} {l1 : Int32} {h0_text_vars : Int32} {h0_numbers_c : Nat → Int32} {h0_machine_next_c : Nat → Int32} {out : Int32} (hx : p.tables.exec = Jvm.exec) (hb : c.code = prog_4_method_14_code) (hr : meth.sig.returnType = (Option.some Jvm.ClassFile.FieldType.boolean)) (hml : c.maxLocals = 3) (hh : zH s) (hg : ∀ w ∈ lw_R, w.before args s = true) (hown : s.vm.findClass "ChanceArena$Game" = some m.cls) (hlocks : meth.locks = false) (hK : va_K D vwCl (zT tA) s) (hA : ∀ q, s.heap.size ≤ q → A q) : ∀ n : Nat, (∀ (l2 : Int32) (H : Heap) (locs : List Loc) (ls : Array Slot), f_Ga_isNext h0_numbers_n h0_machine_next_n l1 h0_text_vars h0_numbers_c h0_machine_next_c n 0 l2 = some out → f0_h0[14]? = some (.ref h0_text) → f0_h0[1]? = some (.ref h0_numbers) → f0_h0[15]? = some (.ref h0_machine) → f0_h0_text[3]? = some (.int h0_text_vars) → f0_h0_machine[5]? = some (.ref h0_machine_next) → va_P D vwCl [(h0, .inr (6, f0_h0)), (h0_text, .inr (5, f0_h0_text)), (h0_numbers, .inl (tA 0, h0_numbers_n, .inl h0_numbers_c)), (h0_machine, .inr (4, f0_h0_machine)), (h0_machine_next, .inl (tA 0, h0_machine_next_n, .inl h0_machine_next_c))] H → va_D A [(h0, .inr (6, f0_h0)), (h0_text, .inr (5, f0_h0_text)), (h0_numbers, .inl (tA 0, h0_numbers_n, .inl h0_numbers_c)), (h0_machine, .inr (4, f0_h0_machine)), (h0_machine_next, .inl (tA 0, h0_machine_next_n, .inl h0_machine_next_c))] → va_S A s.heap H locs → lv_has ls 3 [(0, .ref h0), (1, .int l1)] → W p l e { frames := 0, cells := 0, slots := 0, locals := 0 } s m args below meth c H locs 0 0 (MQ below (va_Qi (fun (r9 : Int32) (u9 : Unit) => r9 = out) (zPost D A (fun (u9 : Unit) => [(h0, .inr (6, f0_h0)), (h0_text, .inr (5, f0_h0_text)), (h0_numbers, .inl (tA 0, h0_numbers_n, .inl h0_numbers_c)), (h0_machine, .inr (4, f0_h0_machine)), (h0_machine_next, .inl (tA 0, h0_machine_next_n, .inl h0_machine_next_c))])) A) args s 0 0 A) (F0 m 0 ls [])) ∧ (∀ (l2 : Int32) (H : Heap) (locs : List Loc) (ls : Array Slot), f_Ga_isNext h0_numbers_n h0_machine_next_n l1 h0_text_vars h0_numbers_c h0_machine_next_c n 1 l2 = some out → f0_h0[14]? = some (.ref h0_text) → f0_h0[1]? = some (.ref h0_numbers) → f0_h0[15]? = some (.ref h0_machine) → f0_h0_text[3]? = some (.int h0_text_vars) → f0_h0_machine[5]? = some (.ref h0_machine_next) → va_P D vwCl [(h0, .inr (6, f0_h0)), (h0_text, .inr (5, f0_h0_text)), (h0_numbers, .inl (tA 0, h0_numbers_n, .inl h0_numbers_c)), (h0_machine, .inr (4, f0_h0_machine)), (h0_machine_next, .inl (tA 0, h0_machine_next_n, .inl h0_machine_next_c))] H → va_D A [(h0, .inr (6, f0_h0)), (h0_text, .inr (5, f0_h0_text)), (h0_numbers, .inl (tA 0, h0_numbers_n, .inl h0_numbers_c)), (h0_machine, .inr (4, f0_h0_machine)), (h0_machine_next, .inl (tA 0, h0_machine_next_n, .inl h0_machine_next_c))] → va_S A s.heap H locs → lv_has ls 3 [(0, .ref h0), (1, .int l1), (2, .int l2)] → W p l e { frames := 0, cells := 0, slots := 0, locals := 0 } s m args below meth c H locs 0 0 (MQ below (va_Qi (fun (r9 : Int32) (u9 : Unit) => r9 = out) (zPost D A (fun (u9 : Unit) => [(h0, .inr (6, f0_h0)), (h0_text, .inr (5, f0_h0_text)), (h0_numbers, .inl (tA 0, h0_numbers_n, .inl h0_numbers_c)), (h0_machine, .inr (4, f0_h0_machine)), (h0_machine_next, .inl (tA 0, h0_machine_next_n, .inl h0_machine_next_c))])) A) args s 0 0 A) (F0 m 2 ls [])) := by
  intro n
  induction n with
  | zero => exact ⟨(fun _ _ _ _ hF => by rw [z_Ga_isNext] at hF; cases hF), (fun _ _ _ _ hF => by rw [z_Ga_isNext] at hF; cases hF)⟩
  | succ n ih =>
    obtain ⟨i0, i1⟩ := ih
    exact ⟨b_Ga_isNext_0 hx hb hr hml hh hg hown hlocks hK hA i1, b_Ga_isNext_1 hx hb hr hml hh hg hown hlocks hK hA i1⟩
set_option maxHeartbeats 4000000 in
set_option maxRecDepth 100000 in
theorem m_Ga_isNext (l : Launch) (D : va_G) (tA : Nat → ClassId) (sz : Nat) (h0 h0_text h0_numbers h0_machine h0_machine_next : Nat) (f0_h0 f0_h0_text f0_h0_machine : List Value) (h0_numbers_n : Nat) (h0_machine_next_n : Nat) (l1 : Int32) (h0_text_vars : Int32) (h0_numbers_c : Nat → Int32) (h0_machine_next_c : Nat → Int32) (q_h0_text : f0_h0[14]? = some (.ref h0_text)) (q_h0_numbers : f0_h0[1]? = some (.ref h0_numbers)) (q_h0_machine : f0_h0[15]? = some (.ref h0_machine)) (q_h0_text_vars : f0_h0_text[3]? = some (.int h0_text_vars)) (q_h0_machine_next : f0_h0_machine[5]? = some (.ref h0_machine_next)) (n : Nat) (out : Int32) (hF : f_Ga_isNext h0_numbers_n h0_machine_next_n l1 h0_text_vars h0_numbers_c h0_machine_next_c n 0 0 = some out) : zMi l ({ cls := "ChanceArena$Game", name := "isNext", desc := "(I)Z" } : Jvm.MethodName) (zW (Jvm.Cond.code ({ cls := "ChanceArena$Game", name := "isNext", desc := "(I)Z" } : Jvm.MethodName) prog_4_method_14_code (3 : Nat) (Option.some Jvm.ClassFile.FieldType.boolean))) { frames := 0, cells := 0, slots := 0, locals := 0 } [.ref h0, .int l1] D tA [(h0, .inr (6, f0_h0)), (h0_text, .inr (5, f0_h0_text)), (h0_numbers, .inl (tA 0, h0_numbers_n, .inl h0_numbers_c)), (h0_machine, .inr (4, f0_h0_machine)), (h0_machine_next, .inl (tA 0, h0_machine_next_n, .inl h0_machine_next_c))] sz (fun (r9 : Int32) (u9 : Unit) => r9 = out) (fun (u9 : Unit) => [(h0, .inr (6, f0_h0)), (h0_text, .inr (5, f0_h0_text)), (h0_numbers, .inl (tA 0, h0_numbers_n, .inl h0_numbers_c)), (h0_machine, .inr (4, f0_h0_machine)), (h0_machine_next, .inl (tA 0, h0_machine_next_n, .inl h0_machine_next_c))]) 0 0 := by
  refine zOpen (l := l) (y := ({ cls := "ChanceArena$Game", name := "isNext", desc := "(I)Z" } : Jvm.MethodName)) (ws := zW (Jvm.Cond.code ({ cls := "ChanceArena$Game", name := "isNext", desc := "(I)Z" } : Jvm.MethodName) prog_4_method_14_code (3 : Nat) (Option.some Jvm.ClassFile.FieldType.boolean))) (rm := { frames := 0, cells := 0, slots := 0, locals := 0 }) (av := [.ref h0, .int l1]) (D := D) (tA := tA) (W0 := [(h0, .inr (6, f0_h0)), (h0_text, .inr (5, f0_h0_text)), (h0_numbers, .inl (tA 0, h0_numbers_n, .inl h0_numbers_c)), (h0_machine, .inr (4, f0_h0_machine)), (h0_machine_next, .inl (tA 0, h0_machine_next_n, .inl h0_machine_next_c))]) (Wm := [(h0, .inr (6, f0_h0)), (h0_text, .inr (5, f0_h0_text)), (h0_numbers, .inl (tA 0, h0_numbers_n, .inl h0_numbers_c)), (h0_machine, .inr (4, f0_h0_machine)), (h0_machine_next, .inl (tA 0, h0_machine_next_n, .inl h0_machine_next_c))]) (sz := sz) (mc := 0) (ms := 0) (fun A => va_Qi (fun (r9 : Int32) (u9 : Unit) => r9 = out) (zPost D A (fun (u9 : Unit) => [(h0, .inr (6, f0_h0)), (h0_text, .inr (5, f0_h0_text)), (h0_numbers, .inl (tA 0, h0_numbers_n, .inl h0_numbers_c)), (h0_machine, .inr (4, f0_h0_machine)), (h0_machine_next, .inl (tA 0, h0_machine_next_n, .inl h0_machine_next_c))])) A) (lv := [(0, .ref h0), (1, .int l1)]) (by decide) rfl (Nat.le_of_ble_eq_true rfl) rfl ?_
  intro p e s m below meth c A ls hx hb hr hml hh hg hown hlocks hnm hK hA hP hD0 hAw hS hl
  have hD := zD hD0 hAw
  exact (a_Ga_isNext hx hb hr hml hh hg hown hlocks hK hA n).1 0   _ _ _ hF q_h0_text q_h0_numbers q_h0_machine q_h0_text_vars q_h0_machine_next hP hD hS hl
def f_Ma_commonDivisor (L0 : Int64) (L2 : Int64) : Nat → Nat → Int64 → Int64 → Int32 → Option (Int64)
  | 0, _, _, _, _ => none
  | n + 1, 0, L4, L6, l8 => if (0 : Int32) ≤ (lg_cmp L0 0) then f_Ma_commonDivisor L0 L2 n 1 L0 L2 0 else f_Ma_commonDivisor L0 L2 n 1 (-L0) L2 0
  | n + 1, 1, L4, L6, l8 => if (100 : Int32) ≤ l8 then (if ¬ ((lg_cmp L4 0) : Int32) = 0 then some (L4) else some (1)) else if ((lg_cmp L6 0) : Int32) = 0 then (if ¬ ((lg_cmp L4 0) : Int32) = 0 then some (L4) else some (1)) else chk (¬ (L6 : Int64) = 0) (f_Ma_commonDivisor L0 L2 n 1 L6 (L4 - L4 / L6 * L6) (l8 + Int32.ofInt 1))
  | _ + 1, _ + 2, _, _, _ => none
theorem e_Ma_commonDivisor_0 (L0 : Int64) (L2 : Int64) (n : Nat) (L4 : Int64) (L6 : Int64) (l8 : Int32) : f_Ma_commonDivisor L0 L2 (n + 1) 0 L4 L6 l8 = if (0 : Int32) ≤ (lg_cmp L0 0) then f_Ma_commonDivisor L0 L2 n 1 L0 L2 0 else f_Ma_commonDivisor L0 L2 n 1 (-L0) L2 0 := by rw [f_Ma_commonDivisor]
theorem e_Ma_commonDivisor_1 (L0 : Int64) (L2 : Int64) (n : Nat) (L4 : Int64) (L6 : Int64) (l8 : Int32) : f_Ma_commonDivisor L0 L2 (n + 1) 1 L4 L6 l8 = if (100 : Int32) ≤ l8 then (if ¬ ((lg_cmp L4 0) : Int32) = 0 then some (L4) else some (1)) else if ((lg_cmp L6 0) : Int32) = 0 then (if ¬ ((lg_cmp L4 0) : Int32) = 0 then some (L4) else some (1)) else chk (¬ (L6 : Int64) = 0) (f_Ma_commonDivisor L0 L2 n 1 L6 (L4 - L4 / L6 * L6) (l8 + Int32.ofInt 1)) := by rw [f_Ma_commonDivisor]
theorem z_Ma_commonDivisor (L0 : Int64) (L2 : Int64) (h : Nat) (L4 : Int64) (L6 : Int64) (l8 : Int32) : f_Ma_commonDivisor L0 L2 0 h L4 L6 l8 = none := by rw [f_Ma_commonDivisor]
set_option maxHeartbeats 4000000 in
set_option maxRecDepth 100000 in
theorem b_Ma_commonDivisor_0 {p : Program} {l : Launch} {e : Env} {s : State} {m : MethodId} {args : Array Value} {below : List Frame} {meth : Method} {c : Code} {D : va_G} {tA : Nat → ClassId} {A : Nat → Prop} {L0 : Int64} {L2 : Int64} {out : Int64} (hx : p.tables.exec = Jvm.exec) (hb : c.code = prog_5_method_2_code) (hr : meth.sig.returnType = (Option.some Jvm.ClassFile.FieldType.long)) (hml : c.maxLocals = 11) (hh : zH s) (hg : ∀ w ∈ lw_R, w.before args s = true) (hown : s.vm.findClass "ChanceArena$Machine" = some m.cls) (hlocks : meth.locks = false) (hK : va_K D vwCl (zT tA) s) (hA : ∀ q, s.heap.size ≤ q → A q) {n : Nat} (ih1 : ∀ (L4 : Int64) (L6 : Int64) (l8 : Int32) (H : Heap) (locs : List Loc) (ls : Array Slot), f_Ma_commonDivisor L0 L2 n 1 L4 L6 l8 = some out → va_P D vwCl [] H → va_D A [] → va_S A s.heap H locs → lv_has ls 11 [(0, .long L0), (2, .long L2), (4, .long L4), (6, .long L6), (8, .int l8)] → W p l e { frames := 0, cells := 0, slots := 0, locals := 0 } s m args below meth c H locs 0 0 (MQ below (va_Ql (fun (r9 : Int64) (u9 : Unit) => r9 = out) (zPost D A (fun (u9 : Unit) => [])) A) args s 0 0 A) (F0 m 20 ls [])) : ∀ (L4 : Int64) (L6 : Int64) (l8 : Int32) (H : Heap) (locs : List Loc) (ls : Array Slot), f_Ma_commonDivisor L0 L2 (n + 1) 0 L4 L6 l8 = some out → va_P D vwCl [] H → va_D A [] → va_S A s.heap H locs → lv_has ls 11 [(0, .long L0), (2, .long L2)] → W p l e { frames := 0, cells := 0, slots := 0, locals := 0 } s m args below meth c H locs 0 0 (MQ below (va_Ql (fun (r9 : Int64) (u9 : Unit) => r9 = out) (zPost D A (fun (u9 : Unit) => [])) A) args s 0 0 A) (F0 m 0 ls []) := by
  intro L4 L6 l8   H locs ls hF  hP hD hS hl
  rw [e_Ma_commonDivisor_0] at hF
  refine lv_lload_n hx hb d_Ma_commonDivisor_0 rfl (lv_at hl 0 rfl) ?_
  refine lv_lconst (v := 0) hx hb d_Ma_commonDivisor_1 (by decide) ?_
  refine W.lcmp hx hb d_Ma_commonDivisor_2 ?_
  refine lv_if_ge (tgt := 11) hx hb d_Ma_commonDivisor_3 (by decide) (fun c9 => ?_) (fun c9 => ?_)
  · replace hF := ifp c9 hF
    refine lv_lload_n hx hb d_Ma_commonDivisor_11 rfl (lv_at hl 0 rfl) ?_
    refine lv_lstore (lv' := [(4, .long L0), (0, .long L0), (2, .long L2)]) hx hb d_Ma_commonDivisor_12 hl (by decide) rfl (fun ls hl => ?_)
    refine lv_lload_n hx hb d_Ma_commonDivisor_14 rfl (lv_at hl 2 rfl) ?_
    refine lv_lstore (lv' := [(6, .long L2), (4, .long L0), (0, .long L0), (2, .long L2)]) hx hb d_Ma_commonDivisor_15 hl (by decide) rfl (fun ls hl => ?_)
    refine lv_iconst (v := 0) hx hb d_Ma_commonDivisor_17 (by decide) ?_
    refine lv_istore (lv' := [(8, .int 0), (6, .long L2), (4, .long L0), (0, .long L0), (2, .long L2)]) hx hb d_Ma_commonDivisor_18 hl (by decide) rfl (fun ls hl => ?_)
    exact ih1 L0 L2 0   _ _ _ hF  hP hD hS (lv_sub hl [3, 4, 2, 1, 0] rfl)
  · replace hF := ifn c9 hF
    refine lv_lload_n hx hb d_Ma_commonDivisor_6 rfl (lv_at hl 0 rfl) ?_
    refine lv_lneg hx hb d_Ma_commonDivisor_7 ?_
    refine lv_goto (tgt := 12) hx hb d_Ma_commonDivisor_8 (by decide) ?_
    refine lv_lstore (lv' := [(4, .long (-L0)), (0, .long L0), (2, .long L2)]) hx hb d_Ma_commonDivisor_12 hl (by decide) rfl (fun ls hl => ?_)
    refine lv_lload_n hx hb d_Ma_commonDivisor_14 rfl (lv_at hl 2 rfl) ?_
    refine lv_lstore (lv' := [(6, .long L2), (4, .long (-L0)), (0, .long L0), (2, .long L2)]) hx hb d_Ma_commonDivisor_15 hl (by decide) rfl (fun ls hl => ?_)
    refine lv_iconst (v := 0) hx hb d_Ma_commonDivisor_17 (by decide) ?_
    refine lv_istore (lv' := [(8, .int 0), (6, .long L2), (4, .long (-L0)), (0, .long L0), (2, .long L2)]) hx hb d_Ma_commonDivisor_18 hl (by decide) rfl (fun ls hl => ?_)
    exact ih1 (-L0) L2 0   _ _ _ hF  hP hD hS (lv_sub hl [3, 4, 2, 1, 0] rfl)
set_option maxHeartbeats 4000000 in
set_option maxRecDepth 100000 in
theorem b_Ma_commonDivisor_1 {p : Program} {l : Launch} {e : Env} {s : State} {m : MethodId} {args : Array Value} {below : List Frame} {meth : Method} {c : Code} {D : va_G} {tA : Nat → ClassId} {A : Nat → Prop} {L0 : Int64} {L2 : Int64} {out : Int64} (hx : p.tables.exec = Jvm.exec) (hb : c.code = prog_5_method_2_code) (hr : meth.sig.returnType = (Option.some Jvm.ClassFile.FieldType.long)) (hml : c.maxLocals = 11) (hh : zH s) (hg : ∀ w ∈ lw_R, w.before args s = true) (hown : s.vm.findClass "ChanceArena$Machine" = some m.cls) (hlocks : meth.locks = false) (hK : va_K D vwCl (zT tA) s) (hA : ∀ q, s.heap.size ≤ q → A q) {n : Nat} (ih1 : ∀ (L4 : Int64) (L6 : Int64) (l8 : Int32) (H : Heap) (locs : List Loc) (ls : Array Slot), f_Ma_commonDivisor L0 L2 n 1 L4 L6 l8 = some out → va_P D vwCl [] H → va_D A [] → va_S A s.heap H locs → lv_has ls 11 [(0, .long L0), (2, .long L2), (4, .long L4), (6, .long L6), (8, .int l8)] → W p l e { frames := 0, cells := 0, slots := 0, locals := 0 } s m args below meth c H locs 0 0 (MQ below (va_Ql (fun (r9 : Int64) (u9 : Unit) => r9 = out) (zPost D A (fun (u9 : Unit) => [])) A) args s 0 0 A) (F0 m 20 ls [])) : ∀ (L4 : Int64) (L6 : Int64) (l8 : Int32) (H : Heap) (locs : List Loc) (ls : Array Slot), f_Ma_commonDivisor L0 L2 (n + 1) 1 L4 L6 l8 = some out → va_P D vwCl [] H → va_D A [] → va_S A s.heap H locs → lv_has ls 11 [(0, .long L0), (2, .long L2), (4, .long L4), (6, .long L6), (8, .int l8)] → W p l e { frames := 0, cells := 0, slots := 0, locals := 0 } s m args below meth c H locs 0 0 (MQ below (va_Ql (fun (r9 : Int64) (u9 : Unit) => r9 = out) (zPost D A (fun (u9 : Unit) => [])) A) args s 0 0 A) (F0 m 20 ls []) := by
  intro L4 L6 l8   H locs ls hF  hP hD hS hl
  rw [e_Ma_commonDivisor_1] at hF
  refine lv_iload hx hb d_Ma_commonDivisor_20 (lv_at hl 4 rfl) ?_
  refine lv_bipush (v := 100) hx hb d_Ma_commonDivisor_22 (by decide) ?_
  refine lv_icmp_ge (tgt := 55) hx hb d_Ma_commonDivisor_24 (by decide) (fun c9 => ?_) (fun c9 => ?_)
  · replace hF := ifp c9 hF
    refine lv_lload hx hb d_Ma_commonDivisor_55 (lv_at hl 2 rfl) ?_
    refine lv_lconst (v := 0) hx hb d_Ma_commonDivisor_57 (by decide) ?_
    refine W.lcmp hx hb d_Ma_commonDivisor_58 ?_
    refine lv_if_ne (tgt := 66) hx hb d_Ma_commonDivisor_59 (by decide) (fun c9 => ?_) (fun c9 => ?_)
    · replace hF := ifp c9 hF
      refine lv_lload hx hb d_Ma_commonDivisor_66 (lv_at hl 2 rfl) ?_
      replace hF := Option.some.inj hF
      subst hF
      exact zLret (post := (fun (r9 : Int64) (u9 : Unit) => r9 = L4)) (W1 := (fun (u9 : Unit) => [])) (v := L4) hx hb hr hlocks hP hD hS () rfl rfl d_Ma_commonDivisor_68
    · replace hF := ifn (fun h9 => h9 c9) hF
      refine lv_lconst (v := 1) hx hb d_Ma_commonDivisor_62 (by decide) ?_
      refine lv_goto (tgt := 68) hx hb d_Ma_commonDivisor_63 (by decide) ?_
      replace hF := Option.some.inj hF
      subst hF
      exact zLret (post := (fun (r9 : Int64) (u9 : Unit) => r9 = 1)) (W1 := (fun (u9 : Unit) => [])) (v := 1) hx hb hr hlocks hP hD hS () rfl rfl d_Ma_commonDivisor_68
  · replace hF := ifn c9 hF
    refine lv_lload hx hb d_Ma_commonDivisor_27 (lv_at hl 3 rfl) ?_
    refine lv_lconst (v := 0) hx hb d_Ma_commonDivisor_29 (by decide) ?_
    refine W.lcmp hx hb d_Ma_commonDivisor_30 ?_
    refine lv_if_eq (tgt := 55) hx hb d_Ma_commonDivisor_31 (by decide) (fun c9 => ?_) (fun c9 => ?_)
    · replace hF := ifp c9 hF
      refine lv_lload hx hb d_Ma_commonDivisor_55 (lv_at hl 2 rfl) ?_
      refine lv_lconst (v := 0) hx hb d_Ma_commonDivisor_57 (by decide) ?_
      refine W.lcmp hx hb d_Ma_commonDivisor_58 ?_
      refine lv_if_ne (tgt := 66) hx hb d_Ma_commonDivisor_59 (by decide) (fun c9 => ?_) (fun c9 => ?_)
      · replace hF := ifp c9 hF
        refine lv_lload hx hb d_Ma_commonDivisor_66 (lv_at hl 2 rfl) ?_
        replace hF := Option.some.inj hF
        subst hF
        exact zLret (post := (fun (r9 : Int64) (u9 : Unit) => r9 = L4)) (W1 := (fun (u9 : Unit) => [])) (v := L4) hx hb hr hlocks hP hD hS () rfl rfl d_Ma_commonDivisor_68
      · replace hF := ifn (fun h9 => h9 c9) hF
        refine lv_lconst (v := 1) hx hb d_Ma_commonDivisor_62 (by decide) ?_
        refine lv_goto (tgt := 68) hx hb d_Ma_commonDivisor_63 (by decide) ?_
        replace hF := Option.some.inj hF
        subst hF
        exact zLret (post := (fun (r9 : Int64) (u9 : Unit) => r9 = 1)) (W1 := (fun (u9 : Unit) => [])) (v := 1) hx hb hr hlocks hP hD hS () rfl rfl d_Ma_commonDivisor_68
    · replace hF := ifn c9 hF
      refine lv_lload hx hb d_Ma_commonDivisor_34 (lv_at hl 2 rfl) ?_
      refine lv_lload hx hb d_Ma_commonDivisor_36 (lv_at hl 3 rfl) ?_
      obtain ⟨h9, hF⟩ := chk_some hF
      refine lv_lrem hx hb d_Ma_commonDivisor_38 h9 ?_
      refine lv_lstore (lv' := [(9, .long (L4 - L4 / L6 * L6)), (0, .long L0), (2, .long L2), (4, .long L4), (6, .long L6), (8, .int l8)]) hx hb d_Ma_commonDivisor_39 hl (by decide) rfl (fun ls hl => ?_)
      refine lv_lload hx hb d_Ma_commonDivisor_41 (lv_at hl 4 rfl) ?_
      refine lv_lstore (lv' := [(4, .long L6), (9, .long (L4 - L4 / L6 * L6)), (0, .long L0), (2, .long L2), (6, .long L6), (8, .int l8)]) hx hb d_Ma_commonDivisor_43 hl (by decide) rfl (fun ls hl => ?_)
      refine lv_lload hx hb d_Ma_commonDivisor_45 (lv_at hl 1 rfl) ?_
      refine lv_lstore (lv' := [(6, .long (L4 - L4 / L6 * L6)), (4, .long L6), (9, .long (L4 - L4 / L6 * L6)), (0, .long L0), (2, .long L2), (8, .int l8)]) hx hb d_Ma_commonDivisor_47 hl (by decide) rfl (fun ls hl => ?_)
      refine lv_iinc (v := (l8 + Int32.ofInt 1)) (lv' := [(8, .int (l8 + Int32.ofInt 1)), (6, .long (L4 - L4 / L6 * L6)), (4, .long L6), (9, .long (L4 - L4 / L6 * L6)), (0, .long L0), (2, .long L2)]) hx hb d_Ma_commonDivisor_49 hl (k := 5) rfl rfl (by decide) rfl (fun ls hl => ?_)
      refine lv_goto (tgt := 20) hx hb d_Ma_commonDivisor_52 (by decide) ?_
      exact ih1 L6 (L4 - L4 / L6 * L6) (l8 + Int32.ofInt 1)   _ _ _ hF  hP hD hS (lv_sub hl [4, 5, 2, 1, 0] rfl)
set_option maxHeartbeats 4000000 in
set_option maxRecDepth 100000 in
theorem a_Ma_commonDivisor {p : Program} {l : Launch} {e : Env} {s : State} {m : MethodId} {args : Array Value} {below : List Frame} {meth : Method} {c : Code} {D : va_G} {tA : Nat → ClassId} {A : Nat → Prop} {L0 : Int64} {L2 : Int64} {out : Int64} (hx : p.tables.exec = Jvm.exec) (hb : c.code = prog_5_method_2_code) (hr : meth.sig.returnType = (Option.some Jvm.ClassFile.FieldType.long)) (hml : c.maxLocals = 11) (hh : zH s) (hg : ∀ w ∈ lw_R, w.before args s = true) (hown : s.vm.findClass "ChanceArena$Machine" = some m.cls) (hlocks : meth.locks = false) (hK : va_K D vwCl (zT tA) s) (hA : ∀ q, s.heap.size ≤ q → A q) : ∀ n : Nat, (∀ (L4 : Int64) (L6 : Int64) (l8 : Int32) (H : Heap) (locs : List Loc) (ls : Array Slot), f_Ma_commonDivisor L0 L2 n 0 L4 L6 l8 = some out → va_P D vwCl [] H → va_D A [] → va_S A s.heap H locs → lv_has ls 11 [(0, .long L0), (2, .long L2)] → W p l e { frames := 0, cells := 0, slots := 0, locals := 0 } s m args below meth c H locs 0 0 (MQ below (va_Ql (fun (r9 : Int64) (u9 : Unit) => r9 = out) (zPost D A (fun (u9 : Unit) => [])) A) args s 0 0 A) (F0 m 0 ls [])) ∧ (∀ (L4 : Int64) (L6 : Int64) (l8 : Int32) (H : Heap) (locs : List Loc) (ls : Array Slot), f_Ma_commonDivisor L0 L2 n 1 L4 L6 l8 = some out → va_P D vwCl [] H → va_D A [] → va_S A s.heap H locs → lv_has ls 11 [(0, .long L0), (2, .long L2), (4, .long L4), (6, .long L6), (8, .int l8)] → W p l e { frames := 0, cells := 0, slots := 0, locals := 0 } s m args below meth c H locs 0 0 (MQ below (va_Ql (fun (r9 : Int64) (u9 : Unit) => r9 = out) (zPost D A (fun (u9 : Unit) => [])) A) args s 0 0 A) (F0 m 20 ls [])) := by
  intro n
  induction n with
  | zero => exact ⟨(fun _ _ _ _ _ _ hF => by rw [z_Ma_commonDivisor] at hF; cases hF), (fun _ _ _ _ _ _ hF => by rw [z_Ma_commonDivisor] at hF; cases hF)⟩
  | succ n ih =>
    obtain ⟨i0, i1⟩ := ih
    exact ⟨b_Ma_commonDivisor_0 hx hb hr hml hh hg hown hlocks hK hA i1, b_Ma_commonDivisor_1 hx hb hr hml hh hg hown hlocks hK hA i1⟩
set_option maxHeartbeats 4000000 in
set_option maxRecDepth 100000 in
theorem m_Ma_commonDivisor (l : Launch) (D : va_G) (tA : Nat → ClassId) (sz : Nat) (L0 : Int64) (L2 : Int64) (n : Nat) (out : Int64) (hF : f_Ma_commonDivisor L0 L2 n 0 0 0 0 = some out) : zMl l ({ cls := "ChanceArena$Machine", name := "commonDivisor", desc := "(JJ)J" } : Jvm.MethodName) (zW (Jvm.Cond.code ({ cls := "ChanceArena$Machine", name := "commonDivisor", desc := "(JJ)J" } : Jvm.MethodName) prog_5_method_2_code (11 : Nat) (Option.some Jvm.ClassFile.FieldType.long))) { frames := 0, cells := 0, slots := 0, locals := 0 } [.long L0, .long L2] D tA [] sz (fun (r9 : Int64) (u9 : Unit) => r9 = out) (fun (u9 : Unit) => []) 0 0 := by
  refine zOpen (l := l) (y := ({ cls := "ChanceArena$Machine", name := "commonDivisor", desc := "(JJ)J" } : Jvm.MethodName)) (ws := zW (Jvm.Cond.code ({ cls := "ChanceArena$Machine", name := "commonDivisor", desc := "(JJ)J" } : Jvm.MethodName) prog_5_method_2_code (11 : Nat) (Option.some Jvm.ClassFile.FieldType.long))) (rm := { frames := 0, cells := 0, slots := 0, locals := 0 }) (av := [.long L0, .long L2]) (D := D) (tA := tA) (W0 := []) (Wm := []) (sz := sz) (mc := 0) (ms := 0) (fun A => va_Ql (fun (r9 : Int64) (u9 : Unit) => r9 = out) (zPost D A (fun (u9 : Unit) => [])) A) (lv := [(0, .long L0), (2, .long L2)]) (by decide) rfl (Nat.le_of_ble_eq_true rfl) rfl ?_
  intro p e s m below meth c A ls hx hb hr hml hh hg hown hlocks hnm hK hA hP hD0 hAw hS hl
  have hD := zD hD0 hAw
  exact (a_Ma_commonDivisor hx hb hr hml hh hg hown hlocks hK hA n).1 0 0 0   _ _ _ hF  hP hD hS hl
def f_Ma_enter (p1_n : Nat) (l2 : Int32) (p1_c : Nat → Int32) (h0_base : Int32) (h0_stamp : Int32) : Option (Int32 × Int32) := some (l2, (h0_stamp + 1))
set_option maxHeartbeats 4000000 in
set_option maxRecDepth 100000 in
theorem b_Ma_enter_0 {p : Program} {l : Launch} {e : Env} {s : State} {m : MethodId} {args : Array Value} {below : List Frame} {meth : Method} {c : Code} {D : va_G} {tA : Nat → ClassId} {A : Nat → Prop} {h0 p1 : Nat} {f0_h0 : List Value} {p1_n : Nat} {l2 : Int32} {p1_c : Nat → Int32} {h0_base : Int32} {h0_stamp : Int32} {out : Int32 × Int32} (hx : p.tables.exec = Jvm.exec) (hb : c.code = prog_5_method_3_code) (hr : meth.sig.returnType = (Option.none : Option Jvm.ClassFile.FieldType)) (hml : c.maxLocals = 3) (hh : zH s) (hg : ∀ w ∈ lw_R, w.before args s = true) (hown : s.vm.findClass "ChanceArena$Machine" = some m.cls) (hlocks : meth.locks = false) (hK : va_K D vwCl (zT tA) s) (hA : ∀ q, s.heap.size ≤ q → A q)  : ∀ (f_h0 : List Value) (H : Heap) (locs : List Loc) (ls : Array Slot), f_Ma_enter p1_n l2 p1_c h0_base h0_stamp = some out → f_h0.length = 16 → f_h0[4]? = some (.int h0_base) → f_h0[9]? = some (.int h0_stamp) → Fr [3, 4, 9] f0_h0 f_h0 → va_P D vwCl [(h0, .inr (4, f_h0)), (p1, .inl (tA 0, p1_n, .inl p1_c))] H → va_D A [(h0, .inr (4, f_h0)), (p1, .inl (tA 0, p1_n, .inl p1_c))] → va_S A s.heap H locs → lv_has ls 3 [(0, .ref h0), (1, .ref p1), (2, .int l2)] → W p l e { frames := 0, cells := 0, slots := 0, locals := 0 } s m args below meth c H locs 0 0 (MQ below (va_Qv (fun (u9 : List Value) => Fr [3, 4, 9] f0_h0 u9 ∧ u9[4]? = some (.int out.1) ∧ u9[9]? = some (.int out.2) ∧ u9[3]? = some (.ref p1)) (zPost D A (fun (u9 : List Value) => [(h0, .inr (4, u9)), (p1, .inl (tA 0, p1_n, .inl p1_c))])) A) args s 0 0 A) (F0 m 0 ls []) := by
  intro   f_h0 H locs ls hF q_h0_len q_h0_base q_h0_stamp r_h0 hP hD hS hl
  replace hF : ((some (l2, (h0_stamp + 1))) : Option (Int32 × Int32)) = some out := hF
  refine lv_aload_n hx hb d_Ma_enter_0 rfl (lv_at hl 0 rfl) ?_
  refine lv_aload_n hx hb d_Ma_enter_1 rfl (lv_at hl 1 rfl) ?_
  refine va_put (D := D) (ci := 4) (v := .ref p1) (ty := .array .int) (C := R_Ma) (T := T_Ma) (N := 16) hx hb hg i_Ma t_Ma o_Ma n_Ma hown hK hP hD hS 0 rfl rfl 3 (by decide) (hg _ k1_178) (fun _ h9 => h9) rfl (by decide +kernel) rfl rfl (zLn q_h0_len (by decide)) d_Ma_enter_2 (fun H1 locs1 hP1 hD1 hS1 => ?_)
  clear hP hD hS
  replace hP1 : va_P D vwCl [(h0, .inr (4, f_h0.set 3 (.ref p1))), (p1, .inl (tA 0, p1_n, .inl p1_c))] _ := hP1
  replace hD1 : va_D A [(h0, .inr (4, f_h0.set 3 (.ref p1))), (p1, .inl (tA 0, p1_n, .inl p1_c))] := hD1
  refine lv_aload_n hx hb d_Ma_enter_5 rfl (lv_at hl 0 rfl) ?_
  refine lv_iload_n hx hb d_Ma_enter_6 rfl (lv_at hl 2 rfl) ?_
  refine va_put (D := D) (ci := 4) (v := .int l2) (ty := .int) (C := R_Ma) (T := T_Ma) (N := 16) hx hb hg i_Ma t_Ma o_Ma n_Ma hown hK hP1 hD1 hS1 0 rfl rfl 4 (by decide) (hg _ k1_179) (fun _ h9 => h9) rfl (by decide +kernel) rfl rfl (zLen (zSetN (by decide) q_h0_base)) d_Ma_enter_7 (fun H2 locs2 hP2 hD2 hS2 => ?_)
  clear hP1 hD1 hS1
  replace hP2 : va_P D vwCl [(h0, .inr (4, (f_h0.set 3 (.ref p1)).set 4 (.int l2))), (p1, .inl (tA 0, p1_n, .inl p1_c))] _ := hP2
  replace hD2 : va_D A [(h0, .inr (4, (f_h0.set 3 (.ref p1)).set 4 (.int l2))), (p1, .inl (tA 0, p1_n, .inl p1_c))] := hD2
  refine lv_aload_n hx hb d_Ma_enter_10 rfl (lv_at hl 0 rfl) ?_
  refine lv_dup hx hb d_Ma_enter_11 rfl ?_
  refine va_get (D := D) (ci := 4) (v := .int h0_stamp) (C := R_Ma) (T := T_Ma) (N := 16) hx hb hg i_Ma hown hK hP2 0 rfl rfl 9 (by decide) (hg _ k1_189) (fun _ h9 => h9) (zSetN (by decide) (zSetN (by decide) q_h0_stamp)) d_Ma_enter_12 ?_
  refine lv_iconst (v := 1) hx hb d_Ma_enter_15 (by decide) ?_
  refine lv_iadd hx hb d_Ma_enter_16 ?_
  refine va_put (D := D) (ci := 4) (v := .int (h0_stamp + 1)) (ty := .int) (C := R_Ma) (T := T_Ma) (N := 16) hx hb hg i_Ma t_Ma o_Ma n_Ma hown hK hP2 hD2 hS2 0 rfl rfl 9 (by decide) (hg _ k1_189) (fun _ h9 => h9) rfl (by decide +kernel) rfl rfl (zLen (zSetN (by decide) (zSetN (by decide) q_h0_stamp))) d_Ma_enter_17 (fun H3 locs3 hP3 hD3 hS3 => ?_)
  clear hP2 hD2 hS2
  replace hP3 : va_P D vwCl [(h0, .inr (4, ((f_h0.set 3 (.ref p1)).set 4 (.int l2)).set 9 (.int (h0_stamp + 1)))), (p1, .inl (tA 0, p1_n, .inl p1_c))] _ := hP3
  replace hD3 : va_D A [(h0, .inr (4, ((f_h0.set 3 (.ref p1)).set 4 (.int l2)).set 9 (.int (h0_stamp + 1)))), (p1, .inl (tA 0, p1_n, .inl p1_c))] := hD3
  replace hF := Option.some.inj hF
  subst hF
  exact zVret (post := (fun (u9 : List Value) => Fr [3, 4, 9] f0_h0 u9 ∧ u9[4]? = some (.int ((l2, (h0_stamp + 1)).1)) ∧ u9[9]? = some (.int ((l2, (h0_stamp + 1)).2)) ∧ u9[3]? = some (.ref p1))) (W1 := (fun (u9 : List Value) => [(h0, .inr (4, u9)), (p1, .inl (tA 0, p1_n, .inl p1_c))])) hx hb hr hlocks hP3 hD3 hS3 (((f_h0.set 3 (.ref p1)).set 4 (.int l2)).set 9 (.int (h0_stamp + 1))) ⟨(Fr.set (Fr.set (Fr.set r_h0 (by decide)) (by decide)) (by decide)), (zSetN (by decide) (zSetS (zSetN (by decide) q_h0_base))), (zSetS (zSetN (by decide) (zSetN (by decide) q_h0_stamp))), (zSetN (by decide) (zSetN (by decide) (zSetL (zLn q_h0_len (by decide)))))⟩ rfl d_Ma_enter_20
set_option maxHeartbeats 4000000 in
set_option maxRecDepth 100000 in
theorem m_Ma_enter (l : Launch) (D : va_G) (tA : Nat → ClassId) (sz : Nat) (h0 p1 : Nat) (f0_h0 : List Value) (p1_n : Nat) (l2 : Int32) (p1_c : Nat → Int32) (h0_base : Int32) (h0_stamp : Int32) (q_h0_len : f0_h0.length = 16) (q_h0_base : f0_h0[4]? = some (.int h0_base)) (q_h0_stamp : f0_h0[9]? = some (.int h0_stamp)) (out : Int32 × Int32) (hF : f_Ma_enter p1_n l2 p1_c h0_base h0_stamp = some out) : zMv l ({ cls := "ChanceArena$Machine", name := "enter", desc := "([II)V" } : Jvm.MethodName) (zW (Jvm.Cond.code ({ cls := "ChanceArena$Machine", name := "enter", desc := "([II)V" } : Jvm.MethodName) prog_5_method_3_code (3 : Nat) (Option.none : Option Jvm.ClassFile.FieldType))) { frames := 0, cells := 0, slots := 0, locals := 0 } [.ref h0, .ref p1, .int l2] D tA [(h0, .inr (4, f0_h0)), (p1, .inl (tA 0, p1_n, .inl p1_c))] sz (fun (u9 : List Value) => Fr [3, 4, 9] f0_h0 u9 ∧ u9[4]? = some (.int out.1) ∧ u9[9]? = some (.int out.2) ∧ u9[3]? = some (.ref p1)) (fun (u9 : List Value) => [(h0, .inr (4, u9)), (p1, .inl (tA 0, p1_n, .inl p1_c))]) 0 0 := by
  refine zOpen (l := l) (y := ({ cls := "ChanceArena$Machine", name := "enter", desc := "([II)V" } : Jvm.MethodName)) (ws := zW (Jvm.Cond.code ({ cls := "ChanceArena$Machine", name := "enter", desc := "([II)V" } : Jvm.MethodName) prog_5_method_3_code (3 : Nat) (Option.none : Option Jvm.ClassFile.FieldType))) (rm := { frames := 0, cells := 0, slots := 0, locals := 0 }) (av := [.ref h0, .ref p1, .int l2]) (D := D) (tA := tA) (W0 := [(h0, .inr (4, f0_h0)), (p1, .inl (tA 0, p1_n, .inl p1_c))]) (Wm := [(h0, .inr (4, f0_h0)), (p1, .inl (tA 0, p1_n, .inl p1_c))]) (sz := sz) (mc := 0) (ms := 0) (fun A => va_Qv (fun (u9 : List Value) => Fr [3, 4, 9] f0_h0 u9 ∧ u9[4]? = some (.int out.1) ∧ u9[9]? = some (.int out.2) ∧ u9[3]? = some (.ref p1)) (zPost D A (fun (u9 : List Value) => [(h0, .inr (4, u9)), (p1, .inl (tA 0, p1_n, .inl p1_c))])) A) (lv := [(0, .ref h0), (1, .ref p1), (2, .int l2)]) (by decide) rfl (Nat.le_of_ble_eq_true rfl) rfl ?_
  intro p e s m below meth c A ls hx hb hr hml hh hg hown hlocks hnm hK hA hP hD0 hAw hS hl
  have hD := zD hD0 hAw
  exact b_Ma_enter_0 hx hb hr hml hh hg hown hlocks hK hA   f0_h0 _ _ _ hF q_h0_len q_h0_base q_h0_stamp Fr.rfl hP hD hS hl
def f_Ma_stop (l1 : Int32) (l2 : Int32) (h0_fault : Int32) (h0_place : Int32) : Option (Int32 × Int32 × Int32) := some (0, l1, l2)
set_option maxHeartbeats 4000000 in
set_option maxRecDepth 100000 in
theorem b_Ma_stop_0 {p : Program} {l : Launch} {e : Env} {s : State} {m : MethodId} {args : Array Value} {below : List Frame} {meth : Method} {c : Code} {D : va_G} {tA : Nat → ClassId} {A : Nat → Prop} {h0 : Nat} {f0_h0 : List Value} {l1 : Int32} {l2 : Int32} {h0_fault : Int32} {h0_place : Int32} {out : Int32 × Int32 × Int32} (hx : p.tables.exec = Jvm.exec) (hb : c.code = prog_5_method_6_code) (hr : meth.sig.returnType = (Option.some Jvm.ClassFile.FieldType.boolean)) (hml : c.maxLocals = 3) (hh : zH s) (hg : ∀ w ∈ lw_R, w.before args s = true) (hown : s.vm.findClass "ChanceArena$Machine" = some m.cls) (hlocks : meth.locks = false) (hK : va_K D vwCl (zT tA) s) (hA : ∀ q, s.heap.size ≤ q → A q)  : ∀ (f_h0 : List Value) (H : Heap) (locs : List Loc) (ls : Array Slot), f_Ma_stop l1 l2 h0_fault h0_place = some out → f_h0[1]? = some (.int h0_fault) → f_h0[2]? = some (.int h0_place) → Fr [1, 2] f0_h0 f_h0 → va_P D vwCl [(h0, .inr (4, f_h0))] H → va_D A [(h0, .inr (4, f_h0))] → va_S A s.heap H locs → lv_has ls 3 [(0, .ref h0), (1, .int l1), (2, .int l2)] → W p l e { frames := 0, cells := 0, slots := 0, locals := 0 } s m args below meth c H locs 0 0 (MQ below (va_Qi (fun (r9 : Int32) (u9 : List Value) => r9 = out.1 ∧ Fr [1, 2] f0_h0 u9 ∧ u9[1]? = some (.int out.2.1) ∧ u9[2]? = some (.int out.2.2)) (zPost D A (fun (u9 : List Value) => [(h0, .inr (4, u9))])) A) args s 0 0 A) (F0 m 0 ls []) := by
  intro   f_h0 H locs ls hF q_h0_fault q_h0_place r_h0 hP hD hS hl
  replace hF : ((some (0, l1, l2)) : Option (Int32 × Int32 × Int32)) = some out := hF
  refine lv_aload_n hx hb d_Ma_stop_0 rfl (lv_at hl 0 rfl) ?_
  refine lv_iload_n hx hb d_Ma_stop_1 rfl (lv_at hl 1 rfl) ?_
  refine va_put (D := D) (ci := 4) (v := .int l1) (ty := .int) (C := R_Ma) (T := T_Ma) (N := 16) hx hb hg i_Ma t_Ma o_Ma n_Ma hown hK hP hD hS 0 rfl rfl 1 (by decide) (hg _ k1_172) (fun _ h9 => h9) rfl (by decide +kernel) rfl rfl (zLen q_h0_fault) d_Ma_stop_2 (fun H1 locs1 hP1 hD1 hS1 => ?_)
  clear hP hD hS
  replace hP1 : va_P D vwCl [(h0, .inr (4, f_h0.set 1 (.int l1)))] _ := hP1
  replace hD1 : va_D A [(h0, .inr (4, f_h0.set 1 (.int l1)))] := hD1
  refine lv_aload_n hx hb d_Ma_stop_5 rfl (lv_at hl 0 rfl) ?_
  refine lv_iload_n hx hb d_Ma_stop_6 rfl (lv_at hl 2 rfl) ?_
  refine va_put (D := D) (ci := 4) (v := .int l2) (ty := .int) (C := R_Ma) (T := T_Ma) (N := 16) hx hb hg i_Ma t_Ma o_Ma n_Ma hown hK hP1 hD1 hS1 0 rfl rfl 2 (by decide) (hg _ k1_175) (fun _ h9 => h9) rfl (by decide +kernel) rfl rfl (zLen (zSetN (by decide) q_h0_place)) d_Ma_stop_7 (fun H2 locs2 hP2 hD2 hS2 => ?_)
  clear hP1 hD1 hS1
  replace hP2 : va_P D vwCl [(h0, .inr (4, (f_h0.set 1 (.int l1)).set 2 (.int l2)))] _ := hP2
  replace hD2 : va_D A [(h0, .inr (4, (f_h0.set 1 (.int l1)).set 2 (.int l2)))] := hD2
  refine lv_iconst (v := 0) hx hb d_Ma_stop_10 (by decide) ?_
  replace hF := Option.some.inj hF
  subst hF
  exact zZret (post := (fun (r9 : Int32) (u9 : List Value) => r9 = (0, l1, l2).1 ∧ Fr [1, 2] f0_h0 u9 ∧ u9[1]? = some (.int ((0, l1, l2).2.1)) ∧ u9[2]? = some (.int ((0, l1, l2).2.2)))) (W1 := (fun (u9 : List Value) => [(h0, .inr (4, u9))])) (v := 0) hx hb hr rfl hlocks hP2 hD2 hS2 ((f_h0.set 1 (.int l1)).set 2 (.int l2)) ⟨rfl, (Fr.set (Fr.set r_h0 (by decide)) (by decide)), (zSetN (by decide) (zSetS q_h0_fault)), (zSetS (zSetN (by decide) q_h0_place))⟩ rfl d_Ma_stop_11
set_option maxHeartbeats 4000000 in
set_option maxRecDepth 100000 in
theorem m_Ma_stop (l : Launch) (D : va_G) (tA : Nat → ClassId) (sz : Nat) (h0 : Nat) (f0_h0 : List Value) (l1 : Int32) (l2 : Int32) (h0_fault : Int32) (h0_place : Int32) (q_h0_fault : f0_h0[1]? = some (.int h0_fault)) (q_h0_place : f0_h0[2]? = some (.int h0_place)) (out : Int32 × Int32 × Int32) (hF : f_Ma_stop l1 l2 h0_fault h0_place = some out) : zMi l ({ cls := "ChanceArena$Machine", name := "stop", desc := "(II)Z" } : Jvm.MethodName) (zW (Jvm.Cond.code ({ cls := "ChanceArena$Machine", name := "stop", desc := "(II)Z" } : Jvm.MethodName) prog_5_method_6_code (3 : Nat) (Option.some Jvm.ClassFile.FieldType.boolean))) { frames := 0, cells := 0, slots := 0, locals := 0 } [.ref h0, .int l1, .int l2] D tA [(h0, .inr (4, f0_h0))] sz (fun (r9 : Int32) (u9 : List Value) => r9 = out.1 ∧ Fr [1, 2] f0_h0 u9 ∧ u9[1]? = some (.int out.2.1) ∧ u9[2]? = some (.int out.2.2)) (fun (u9 : List Value) => [(h0, .inr (4, u9))]) 0 0 := by
  refine zOpen (l := l) (y := ({ cls := "ChanceArena$Machine", name := "stop", desc := "(II)Z" } : Jvm.MethodName)) (ws := zW (Jvm.Cond.code ({ cls := "ChanceArena$Machine", name := "stop", desc := "(II)Z" } : Jvm.MethodName) prog_5_method_6_code (3 : Nat) (Option.some Jvm.ClassFile.FieldType.boolean))) (rm := { frames := 0, cells := 0, slots := 0, locals := 0 }) (av := [.ref h0, .int l1, .int l2]) (D := D) (tA := tA) (W0 := [(h0, .inr (4, f0_h0))]) (Wm := [(h0, .inr (4, f0_h0))]) (sz := sz) (mc := 0) (ms := 0) (fun A => va_Qi (fun (r9 : Int32) (u9 : List Value) => r9 = out.1 ∧ Fr [1, 2] f0_h0 u9 ∧ u9[1]? = some (.int out.2.1) ∧ u9[2]? = some (.int out.2.2)) (zPost D A (fun (u9 : List Value) => [(h0, .inr (4, u9))])) A) (lv := [(0, .ref h0), (1, .int l1), (2, .int l2)]) (by decide) rfl (Nat.le_of_ble_eq_true rfl) rfl ?_
  intro p e s m below meth c A ls hx hb hr hml hh hg hown hlocks hnm hK hA hP hD0 hAw hS hl
  have hD := zD hD0 hAw
  exact b_Ma_stop_0 hx hb hr hml hh hg hown hlocks hK hA   f0_h0 _ _ _ hF q_h0_fault q_h0_place Fr.rfl hP hD hS hl
