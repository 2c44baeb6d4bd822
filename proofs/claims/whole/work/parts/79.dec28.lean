theorem k13_20 : (Jvm.Cond.code ({ cls := "ChanceArenaModel$Whole", name := "isOdd", desc := "()Z" } : Jvm.MethodName) prog_21_method_14_code (1 : Nat) (Option.some Jvm.ClassFile.FieldType.boolean)) ∈ lw_R := zR (zk_13 _ (List.mem_of_getElem? (i := 20) (by decide +kernel))) rfl
theorem k13_24 : (Jvm.Cond.code ({ cls := "ChanceArenaModel$Whole", name := "halve", desc := "()V" } : Jvm.MethodName) prog_21_method_13_code (2 : Nat) (Option.none : Option Jvm.ClassFile.FieldType)) ∈ lw_R := zR (zk_13 _ (List.mem_of_getElem? (i := 24) (by decide +kernel))) rfl
theorem k13_25 : (Jvm.Cond.constant "ChanceArenaModel$Whole" (29 : Nat) (8388608 : Int32)) ∈ lw_R := zR (zk_13 _ (List.mem_of_getElem? (i := 25) (by decide +kernel))) rfl
theorem k13_41 : (Jvm.Cond.code ({ cls := "ChanceArenaModel$Whole", name := "places", desc := "()I" } : Jvm.MethodName) prog_21_method_15_code (3 : Nat) (Option.some Jvm.ClassFile.FieldType.int)) ∈ lw_R := zR (zk_13 _ (List.mem_of_getElem? (i := 41) (by decide +kernel))) rfl
theorem k13_45 : (Jvm.Cond.code ({ cls := "ChanceArenaModel$Whole", name := "bit", desc := "(I)Z" } : Jvm.MethodName) prog_21_method_16_code (2 : Nat) (Option.some Jvm.ClassFile.FieldType.boolean)) ∈ lw_R := zR (zk_13 _ (List.mem_of_getElem? (i := 45) (by decide +kernel))) rfl
theorem k13_128 : (Jvm.Cond.methodLink "ChanceArenaModel" (590 : Nat) ({ cls := "ChanceArenaModel$Solver", name := "tell", desc := "(II)V" } : Jvm.MethodName)) ∈ lw_R := zR (zk_13 _ (List.mem_of_getElem? (i := 128) (by decide +kernel))) rfl
theorem k13_129 : (Jvm.Cond.instanceMethod ({ cls := "ChanceArenaModel$Solver", name := "tell", desc := "(II)V" } : Jvm.MethodName)) ∈ lw_R := zR (zk_13 _ (List.mem_of_getElem? (i := 129) (by decide +kernel))) rfl
theorem k13_130 : (Jvm.Cond.selects "ChanceArenaModel$Solver" ({ cls := "ChanceArenaModel$Solver", name := "tell", desc := "(II)V" } : Jvm.MethodName) ({ cls := "ChanceArenaModel$Solver", name := "tell", desc := "(II)V" } : Jvm.MethodName)) ∈ lw_R := zR (zk_13 _ (List.mem_of_getElem? (i := 130) (by decide +kernel))) rfl
theorem k13_140 : (Jvm.Cond.methodLink "ChanceArenaModel" (596 : Nat) ({ cls := "ChanceArenaModel$Solver", name := "adopt", desc := "()V" } : Jvm.MethodName)) ∈ lw_R := zR (zk_13 _ (List.mem_of_getElem? (i := 140) (by decide +kernel))) rfl
theorem k13_141 : (Jvm.Cond.instanceMethod ({ cls := "ChanceArenaModel$Solver", name := "adopt", desc := "()V" } : Jvm.MethodName)) ∈ lw_R := zR (zk_13 _ (List.mem_of_getElem? (i := 141) (by decide +kernel))) rfl
theorem k13_142 : (Jvm.Cond.selects "ChanceArenaModel$Solver" ({ cls := "ChanceArenaModel$Solver", name := "adopt", desc := "()V" } : Jvm.MethodName) ({ cls := "ChanceArenaModel$Solver", name := "adopt", desc := "()V" } : Jvm.MethodName)) ∈ lw_R := zR (zk_13 _ (List.mem_of_getElem? (i := 142) (by decide +kernel))) rfl
theorem k13_175 : (Jvm.Cond.code ({ cls := "ChanceArenaModel$Whole", name := "tenth", desc := "()I" } : Jvm.MethodName) prog_21_method_18_code (4 : Nat) (Option.some Jvm.ClassFile.FieldType.int)) ∈ lw_R := zR (zk_13 _ (List.mem_of_getElem? (i := 175) (by decide +kernel))) rfl
theorem d_MW_halve_0 : decode prog_21_method_13_code 0 = .ok (.iconst 0, 1) := by decide +kernel
theorem d_MW_halve_1 : decode prog_21_method_13_code 1 = .ok (.istore_n 1, 1) := by decide +kernel
theorem d_MW_halve_2 : decode prog_21_method_13_code 2 = .ok (.iload_n 1, 1) := by decide +kernel
theorem d_MW_halve_3 : decode prog_21_method_13_code 3 = .ok (.aload_n 0, 1) := by decide +kernel
theorem d_MW_halve_4 : decode prog_21_method_13_code 4 = .ok (.getfield 13, 3) := by decide +kernel
theorem d_MW_halve_7 : decode prog_21_method_13_code 7 = .ok (.if_icmp .ge 51, 3) := by decide +kernel
theorem d_MW_halve_58 : decode prog_21_method_13_code 58 = .ok (.aload_n 0, 1) := by decide +kernel
theorem d_MW_halve_59 : decode prog_21_method_13_code 59 = .ok (.invokevirtual 24, 3) := by decide +kernel
theorem d_MW_halve_62 : decode prog_21_method_13_code 62 = .ok (.return_, 1) := by decide +kernel
theorem d_MW_halve_10 : decode prog_21_method_13_code 10 = .ok (.aload_n 0, 1) := by decide +kernel
theorem d_MW_halve_11 : decode prog_21_method_13_code 11 = .ok (.getfield 7, 3) := by decide +kernel
theorem d_MW_halve_14 : decode prog_21_method_13_code 14 = .ok (.iload_n 1, 1) := by decide +kernel
theorem d_MW_halve_15 : decode prog_21_method_13_code 15 = .ok (.aload_n 0, 1) := by decide +kernel
theorem d_MW_halve_16 : decode prog_21_method_13_code 16 = .ok (.getfield 7, 3) := by decide +kernel
theorem d_MW_halve_19 : decode prog_21_method_13_code 19 = .ok (.iload_n 1, 1) := by decide +kernel
theorem d_MW_halve_20 : decode prog_21_method_13_code 20 = .ok (.iaload, 1) := by decide +kernel
theorem d_MW_halve_21 : decode prog_21_method_13_code 21 = .ok (.iconst 2, 1) := by decide +kernel
theorem d_MW_halve_22 : decode prog_21_method_13_code 22 = .ok (.idiv, 1) := by decide +kernel
theorem d_MW_halve_23 : decode prog_21_method_13_code 23 = .ok (.iload_n 1, 1) := by decide +kernel
theorem d_MW_halve_24 : decode prog_21_method_13_code 24 = .ok (.iconst 1, 1) := by decide +kernel
theorem d_MW_halve_25 : decode prog_21_method_13_code 25 = .ok (.iadd, 1) := by decide +kernel
theorem d_MW_halve_26 : decode prog_21_method_13_code 26 = .ok (.aload_n 0, 1) := by decide +kernel
theorem d_MW_halve_27 : decode prog_21_method_13_code 27 = .ok (.getfield 13, 3) := by decide +kernel
theorem d_MW_halve_30 : decode prog_21_method_13_code 30 = .ok (.if_icmp .ge 19, 3) := by decide +kernel
theorem d_MW_halve_49 : decode prog_21_method_13_code 49 = .ok (.iconst 0, 1) := by decide +kernel
theorem d_MW_halve_50 : decode prog_21_method_13_code 50 = .ok (.iadd, 1) := by decide +kernel
theorem d_MW_halve_51 : decode prog_21_method_13_code 51 = .ok (.iastore, 1) := by decide +kernel
theorem d_MW_halve_52 : decode prog_21_method_13_code 52 = .ok (.iinc 1 1, 3) := by decide +kernel
theorem d_MW_halve_55 : decode prog_21_method_13_code 55 = .ok (.goto (-53), 3) := by decide +kernel
theorem d_MW_halve_33 : decode prog_21_method_13_code 33 = .ok (.aload_n 0, 1) := by decide +kernel
theorem d_MW_halve_34 : decode prog_21_method_13_code 34 = .ok (.getfield 7, 3) := by decide +kernel
theorem d_MW_halve_37 : decode prog_21_method_13_code 37 = .ok (.iload_n 1, 1) := by decide +kernel
theorem d_MW_halve_38 : decode prog_21_method_13_code 38 = .ok (.iconst 1, 1) := by decide +kernel
theorem d_MW_halve_39 : decode prog_21_method_13_code 39 = .ok (.iadd, 1) := by decide +kernel
theorem d_MW_halve_40 : decode prog_21_method_13_code 40 = .ok (.iaload, 1) := by decide +kernel
theorem d_MW_halve_41 : decode prog_21_method_13_code 41 = .ok (.iconst 2, 1) := by decide +kernel
theorem d_MW_halve_42 : decode prog_21_method_13_code 42 = .ok (.irem, 1) := by decide +kernel
theorem d_MW_halve_43 : decode prog_21_method_13_code 43 = .ok (.ldc 29, 2) := by decide +kernel
theorem d_MW_halve_45 : decode prog_21_method_13_code 45 = .ok (.imul, 1) := by decide +kernel
theorem d_MW_halve_46 : decode prog_21_method_13_code 46 = .ok (.goto 4, 3) := by decide +kernel
theorem d_MW_isOdd_0 : decode prog_21_method_14_code 0 = .ok (.aload_n 0, 1) := by decide +kernel
theorem d_MW_isOdd_1 : decode prog_21_method_14_code 1 = .ok (.getfield 13, 3) := by decide +kernel
theorem d_MW_isOdd_4 : decode prog_21_method_14_code 4 = .ok (.ifCond .le 19, 3) := by decide +kernel
theorem d_MW_isOdd_23 : decode prog_21_method_14_code 23 = .ok (.iconst 0, 1) := by decide +kernel
theorem d_MW_isOdd_24 : decode prog_21_method_14_code 24 = .ok (.ireturn, 1) := by decide +kernel
theorem d_MW_isOdd_7 : decode prog_21_method_14_code 7 = .ok (.aload_n 0, 1) := by decide +kernel
theorem d_MW_isOdd_8 : decode prog_21_method_14_code 8 = .ok (.getfield 7, 3) := by decide +kernel
theorem d_MW_isOdd_11 : decode prog_21_method_14_code 11 = .ok (.iconst 0, 1) := by decide +kernel
theorem d_MW_isOdd_12 : decode prog_21_method_14_code 12 = .ok (.iaload, 1) := by decide +kernel
theorem d_MW_isOdd_13 : decode prog_21_method_14_code 13 = .ok (.iconst 2, 1) := by decide +kernel
theorem d_MW_isOdd_14 : decode prog_21_method_14_code 14 = .ok (.irem, 1) := by decide +kernel
theorem d_MW_isOdd_15 : decode prog_21_method_14_code 15 = .ok (.iconst 1, 1) := by decide +kernel
theorem d_MW_isOdd_16 : decode prog_21_method_14_code 16 = .ok (.if_icmp .ne 7, 3) := by decide +kernel
theorem d_MW_isOdd_19 : decode prog_21_method_14_code 19 = .ok (.iconst 1, 1) := by decide +kernel
theorem d_MW_isOdd_20 : decode prog_21_method_14_code 20 = .ok (.goto 4, 3) := by decide +kernel
theorem d_MW_places_0 : decode prog_21_method_15_code 0 = .ok (.bipush 24, 2) := by decide +kernel
theorem d_MW_places_2 : decode prog_21_method_15_code 2 = .ok (.aload_n 0, 1) := by decide +kernel
theorem d_MW_places_3 : decode prog_21_method_15_code 3 = .ok (.getfield 13, 3) := by decide +kernel
theorem d_MW_places_6 : decode prog_21_method_15_code 6 = .ok (.iconst 1, 1) := by decide +kernel
theorem d_MW_places_7 : decode prog_21_method_15_code 7 = .ok (.isub, 1) := by decide +kernel
theorem d_MW_places_8 : decode prog_21_method_15_code 8 = .ok (.imul, 1) := by decide +kernel
theorem d_MW_places_9 : decode prog_21_method_15_code 9 = .ok (.istore_n 1, 1) := by decide +kernel
theorem d_MW_places_10 : decode prog_21_method_15_code 10 = .ok (.aload_n 0, 1) := by decide +kernel
theorem d_MW_places_11 : decode prog_21_method_15_code 11 = .ok (.getfield 13, 3) := by decide +kernel
theorem d_MW_places_14 : decode prog_21_method_15_code 14 = .ok (.ifCond .ne 7, 3) := by decide +kernel
theorem d_MW_places_21 : decode prog_21_method_15_code 21 = .ok (.aload_n 0, 1) := by decide +kernel
theorem d_MW_places_22 : decode prog_21_method_15_code 22 = .ok (.getfield 7, 3) := by decide +kernel
theorem d_MW_places_25 : decode prog_21_method_15_code 25 = .ok (.aload_n 0, 1) := by decide +kernel
theorem d_MW_places_26 : decode prog_21_method_15_code 26 = .ok (.getfield 13, 3) := by decide +kernel
theorem d_MW_places_29 : decode prog_21_method_15_code 29 = .ok (.iconst 1, 1) := by decide +kernel
theorem d_MW_places_30 : decode prog_21_method_15_code 30 = .ok (.isub, 1) := by decide +kernel
theorem d_MW_places_31 : decode prog_21_method_15_code 31 = .ok (.iaload, 1) := by decide +kernel
theorem d_MW_places_32 : decode prog_21_method_15_code 32 = .ok (.istore_n 2, 1) := by decide +kernel
theorem d_MW_places_17 : decode prog_21_method_15_code 17 = .ok (.iconst 0, 1) := by decide +kernel
theorem d_MW_places_18 : decode prog_21_method_15_code 18 = .ok (.goto 14, 3) := by decide +kernel
theorem d_MW_places_33 : decode prog_21_method_15_code 33 = .ok (.iload_n 2, 1) := by decide +kernel
theorem d_MW_places_34 : decode prog_21_method_15_code 34 = .ok (.ifCond .le 13, 3) := by decide +kernel
theorem d_MW_places_47 : decode prog_21_method_15_code 47 = .ok (.aload_n 0, 1) := by decide +kernel
theorem d_MW_places_48 : decode prog_21_method_15_code 48 = .ok (.getfield 13, 3) := by decide +kernel
theorem d_MW_places_51 : decode prog_21_method_15_code 51 = .ok (.ifCond .ne 7, 3) := by decide +kernel
theorem d_MW_places_58 : decode prog_21_method_15_code 58 = .ok (.iload_n 1, 1) := by decide +kernel
theorem d_MW_places_59 : decode prog_21_method_15_code 59 = .ok (.ireturn, 1) := by decide +kernel
theorem d_MW_places_54 : decode prog_21_method_15_code 54 = .ok (.iconst 0, 1) := by decide +kernel
theorem d_MW_places_55 : decode prog_21_method_15_code 55 = .ok (.goto 4, 3) := by decide +kernel
theorem d_MW_places_37 : decode prog_21_method_15_code 37 = .ok (.iinc 1 1, 3) := by decide +kernel
theorem d_MW_places_40 : decode prog_21_method_15_code 40 = .ok (.iload_n 2, 1) := by decide +kernel
theorem d_MW_places_41 : decode prog_21_method_15_code 41 = .ok (.iconst 2, 1) := by decide +kernel
theorem d_MW_places_42 : decode prog_21_method_15_code 42 = .ok (.idiv, 1) := by decide +kernel
theorem d_MW_places_43 : decode prog_21_method_15_code 43 = .ok (.istore_n 2, 1) := by decide +kernel
theorem d_MW_places_44 : decode prog_21_method_15_code 44 = .ok (.goto (-11), 3) := by decide +kernel
theorem d_MW_bit_0 : decode prog_21_method_16_code 0 = .ok (.iload_n 1, 1) := by decide +kernel
theorem d_MW_bit_1 : decode prog_21_method_16_code 1 = .ok (.bipush 24, 2) := by decide +kernel
theorem d_MW_bit_3 : decode prog_21_method_16_code 3 = .ok (.idiv, 1) := by decide +kernel
theorem d_MW_bit_4 : decode prog_21_method_16_code 4 = .ok (.aload_n 0, 1) := by decide +kernel
theorem d_MW_bit_5 : decode prog_21_method_16_code 5 = .ok (.getfield 13, 3) := by decide +kernel
theorem d_MW_bit_8 : decode prog_21_method_16_code 8 = .ok (.if_icmp .ge 27, 3) := by decide +kernel
theorem d_MW_bit_35 : decode prog_21_method_16_code 35 = .ok (.iconst 0, 1) := by decide +kernel
theorem d_MW_bit_36 : decode prog_21_method_16_code 36 = .ok (.ireturn, 1) := by decide +kernel
theorem d_MW_bit_11 : decode prog_21_method_16_code 11 = .ok (.aload_n 0, 1) := by decide +kernel
theorem d_MW_bit_12 : decode prog_21_method_16_code 12 = .ok (.getfield 7, 3) := by decide +kernel
theorem d_MW_bit_15 : decode prog_21_method_16_code 15 = .ok (.iload_n 1, 1) := by decide +kernel
theorem d_MW_bit_16 : decode prog_21_method_16_code 16 = .ok (.bipush 24, 2) := by decide +kernel
theorem d_MW_bit_18 : decode prog_21_method_16_code 18 = .ok (.idiv, 1) := by decide +kernel
theorem d_MW_bit_19 : decode prog_21_method_16_code 19 = .ok (.iaload, 1) := by decide +kernel
theorem d_MW_bit_20 : decode prog_21_method_16_code 20 = .ok (.iload_n 1, 1) := by decide +kernel
theorem d_MW_bit_21 : decode prog_21_method_16_code 21 = .ok (.bipush 24, 2) := by decide +kernel
theorem d_MW_bit_23 : decode prog_21_method_16_code 23 = .ok (.irem, 1) := by decide +kernel
theorem d_MW_bit_24 : decode prog_21_method_16_code 24 = .ok (.ishr, 1) := by decide +kernel
theorem d_MW_bit_25 : decode prog_21_method_16_code 25 = .ok (.iconst 1, 1) := by decide +kernel
theorem d_MW_bit_26 : decode prog_21_method_16_code 26 = .ok (.iand, 1) := by decide +kernel
theorem d_MW_bit_27 : decode prog_21_method_16_code 27 = .ok (.iconst 1, 1) := by decide +kernel
theorem d_MW_bit_28 : decode prog_21_method_16_code 28 = .ok (.if_icmp .ne 7, 3) := by decide +kernel
theorem d_MW_bit_31 : decode prog_21_method_16_code 31 = .ok (.iconst 1, 1) := by decide +kernel
theorem d_MW_bit_32 : decode prog_21_method_16_code 32 = .ok (.goto 4, 3) := by decide +kernel
theorem d_MW_tenth_0 : decode prog_21_method_18_code 0 = .ok (.iconst 0, 1) := by decide +kernel
theorem d_MW_tenth_1 : decode prog_21_method_18_code 1 = .ok (.istore_n 1, 1) := by decide +kernel
theorem d_MW_tenth_2 : decode prog_21_method_18_code 2 = .ok (.aload_n 0, 1) := by decide +kernel
theorem d_MW_tenth_3 : decode prog_21_method_18_code 3 = .ok (.getfield 13, 3) := by decide +kernel
theorem d_MW_tenth_6 : decode prog_21_method_18_code 6 = .ok (.iconst 1, 1) := by decide +kernel
theorem d_MW_tenth_7 : decode prog_21_method_18_code 7 = .ok (.isub, 1) := by decide +kernel
theorem d_MW_tenth_8 : decode prog_21_method_18_code 8 = .ok (.istore_n 2, 1) := by decide +kernel
theorem d_MW_tenth_9 : decode prog_21_method_18_code 9 = .ok (.iload_n 2, 1) := by decide +kernel
theorem d_MW_tenth_10 : decode prog_21_method_18_code 10 = .ok (.ifCond .lt 36, 3) := by decide +kernel
theorem d_MW_tenth_46 : decode prog_21_method_18_code 46 = .ok (.aload_n 0, 1) := by decide +kernel
theorem d_MW_tenth_47 : decode prog_21_method_18_code 47 = .ok (.invokevirtual 24, 3) := by decide +kernel
theorem d_MW_tenth_50 : decode prog_21_method_18_code 50 = .ok (.iload_n 1, 1) := by decide +kernel
theorem d_MW_tenth_51 : decode prog_21_method_18_code 51 = .ok (.ireturn, 1) := by decide +kernel
theorem d_MW_tenth_13 : decode prog_21_method_18_code 13 = .ok (.iload_n 1, 1) := by decide +kernel
theorem d_MW_tenth_14 : decode prog_21_method_18_code 14 = .ok (.ldc 23, 2) := by decide +kernel
theorem d_MW_tenth_16 : decode prog_21_method_18_code 16 = .ok (.imul, 1) := by decide +kernel
theorem d_MW_tenth_17 : decode prog_21_method_18_code 17 = .ok (.aload_n 0, 1) := by decide +kernel
theorem d_MW_tenth_18 : decode prog_21_method_18_code 18 = .ok (.getfield 7, 3) := by decide +kernel
theorem d_MW_tenth_21 : decode prog_21_method_18_code 21 = .ok (.iload_n 2, 1) := by decide +kernel
theorem d_MW_tenth_22 : decode prog_21_method_18_code 22 = .ok (.iaload, 1) := by decide +kernel
theorem d_MW_tenth_23 : decode prog_21_method_18_code 23 = .ok (.iadd, 1) := by decide +kernel
theorem d_MW_tenth_24 : decode prog_21_method_18_code 24 = .ok (.istore_n 3, 1) := by decide +kernel
theorem d_MW_tenth_25 : decode prog_21_method_18_code 25 = .ok (.aload_n 0, 1) := by decide +kernel
theorem d_MW_tenth_26 : decode prog_21_method_18_code 26 = .ok (.getfield 7, 3) := by decide +kernel
theorem d_MW_tenth_29 : decode prog_21_method_18_code 29 = .ok (.iload_n 2, 1) := by decide +kernel
theorem d_MW_tenth_30 : decode prog_21_method_18_code 30 = .ok (.iload_n 3, 1) := by decide +kernel
theorem d_MW_tenth_31 : decode prog_21_method_18_code 31 = .ok (.bipush 10, 2) := by decide +kernel
theorem d_MW_tenth_33 : decode prog_21_method_18_code 33 = .ok (.idiv, 1) := by decide +kernel
theorem d_MW_tenth_34 : decode prog_21_method_18_code 34 = .ok (.iastore, 1) := by decide +kernel
theorem d_MW_tenth_35 : decode prog_21_method_18_code 35 = .ok (.iload_n 3, 1) := by decide +kernel
theorem d_MW_tenth_36 : decode prog_21_method_18_code 36 = .ok (.bipush 10, 2) := by decide +kernel
theorem d_MW_tenth_38 : decode prog_21_method_18_code 38 = .ok (.irem, 1) := by decide +kernel
theorem d_MW_tenth_39 : decode prog_21_method_18_code 39 = .ok (.istore_n 1, 1) := by decide +kernel
theorem d_MW_tenth_40 : decode prog_21_method_18_code 40 = .ok (.iinc 2 (-1), 3) := by decide +kernel
theorem d_MW_tenth_43 : decode prog_21_method_18_code 43 = .ok (.goto (-34), 3) := by decide +kernel
theorem d_MM_choose1_10 : decode prog_15_method_100_code 10 = .ok (.iconst 0, 1) := by decide +kernel
theorem d_MM_choose1_11 : decode prog_15_method_100_code 11 = .ok (.goto 4, 3) := by decide +kernel
theorem d_MM_choose1_25 : decode prog_15_method_100_code 25 = .ok (.aload_n 0, 1) := by decide +kernel
theorem d_MM_choose1_26 : decode prog_15_method_100_code 26 = .ok (.getfield 117, 3) := by decide +kernel
theorem d_MM_choose1_29 : decode prog_15_method_100_code 29 = .ok (.iload_n 1, 1) := by decide +kernel
theorem d_MM_choose1_30 : decode prog_15_method_100_code 30 = .ok (.iload_n 2, 1) := by decide +kernel
theorem d_MM_choose1_31 : decode prog_15_method_100_code 31 = .ok (.invokevirtual 590, 3) := by decide +kernel
theorem d_MM_adopt_11 : decode prog_15_method_101_code 11 = .ok (.iconst 0, 1) := by decide +kernel
theorem d_MM_adopt_12 : decode prog_15_method_101_code 12 = .ok (.goto 4, 3) := by decide +kernel
theorem d_MM_adopt_26 : decode prog_15_method_101_code 26 = .ok (.aload_n 0, 1) := by decide +kernel
theorem d_MM_adopt_27 : decode prog_15_method_101_code 27 = .ok (.getfield 117, 3) := by decide +kernel
theorem d_MM_adopt_30 : decode prog_15_method_101_code 30 = .ok (.invokevirtual 596, 3) := by decide +kernel
def f_MW_halve (h0_parts_n : Nat) : Nat → Nat → Int32 → (Nat → Int32) → Int32 → Option (Int32 × (Nat → Int32))
  | 0, _, _, _, _ => none
  | n + 1, 0, h0_n, h0_parts_c, l1 => chk True (f_MW_halve h0_parts_n n 1 h0_n h0_parts_c 0)
  | n + 1, 1, h0_n, h0_parts_c, l1 => if (h0_n : Int32) ≤ l1 then Option.bind (f_MW_trim h0_parts_n h0_parts_c n 0 h0_n) (fun o1 => some (o1, h0_parts_c)) else chk (0 ≤ (l1 : Int32).toInt ∧ (l1 : Int32).toInt < h0_parts_n) (if (h0_n : Int32) ≤ (l1 + 1) then chk (0 ≤ (l1 : Int32).toInt ∧ (l1 : Int32).toInt < h0_parts_n) (f_MW_halve h0_parts_n n 1 h0_n (upd h0_parts_c (l1 : Int32).toNatClampNeg (((h0_parts_c (l1 : Int32).toNatClampNeg) / 2) + 0)) (l1 + Int32.ofInt 1)) else chk (0 ≤ ((l1 + 1) : Int32).toInt ∧ ((l1 + 1) : Int32).toInt < h0_parts_n) (chk (0 ≤ (l1 : Int32).toInt ∧ (l1 : Int32).toInt < h0_parts_n) (f_MW_halve h0_parts_n n 1 h0_n (upd h0_parts_c (l1 : Int32).toNatClampNeg (((h0_parts_c (l1 : Int32).toNatClampNeg) / 2) + (((h0_parts_c ((l1 + 1) : Int32).toNatClampNeg) - (h0_parts_c ((l1 + 1) : Int32).toNatClampNeg) / 2 * 2) * 8388608))) (l1 + Int32.ofInt 1))))
  | _ + 1, _ + 2, _, _, _ => none
theorem e_MW_halve_0 (h0_parts_n : Nat) (n : Nat) (h0_n : Int32) (h0_parts_c : Nat → Int32) (l1 : Int32) : f_MW_halve h0_parts_n (n + 1) 0 h0_n h0_parts_c l1 = chk True (f_MW_halve h0_parts_n n 1 h0_n h0_parts_c 0) := by rw [f_MW_halve]
theorem e_MW_halve_1 (h0_parts_n : Nat) (n : Nat) (h0_n : Int32) (h0_parts_c : Nat → Int32) (l1 : Int32) : f_MW_halve h0_parts_n (n + 1) 1 h0_n h0_parts_c l1 = if (h0_n : Int32) ≤ l1 then Option.bind (f_MW_trim h0_parts_n h0_parts_c n 0 h0_n) (fun o1 => some (o1, h0_parts_c)) else chk (0 ≤ (l1 : Int32).toInt ∧ (l1 : Int32).toInt < h0_parts_n) (if (h0_n : Int32) ≤ (l1 + 1) then chk (0 ≤ (l1 : Int32).toInt ∧ (l1 : Int32).toInt < h0_parts_n) (f_MW_halve h0_parts_n n 1 h0_n (upd h0_parts_c (l1 : Int32).toNatClampNeg (((h0_parts_c (l1 : Int32).toNatClampNeg) / 2) + 0)) (l1 + Int32.ofInt 1)) else chk (0 ≤ ((l1 + 1) : Int32).toInt ∧ ((l1 + 1) : Int32).toInt < h0_parts_n) (chk (0 ≤ (l1 : Int32).toInt ∧ (l1 : Int32).toInt < h0_parts_n) (f_MW_halve h0_parts_n n 1 h0_n (upd h0_parts_c (l1 : Int32).toNatClampNeg (((h0_parts_c (l1 : Int32).toNatClampNeg) / 2) + (((h0_parts_c ((l1 + 1) : Int32).toNatClampNeg) - (h0_parts_c ((l1 + 1) : Int32).toNatClampNeg) / 2 * 2) * 8388608))) (l1 + Int32.ofInt 1)))) := by rw [f_MW_halve]
theorem z_MW_halve (h0_parts_n : Nat) (h : Nat) (h0_n : Int32) (h0_parts_c : Nat → Int32) (l1 : Int32) : f_MW_halve h0_parts_n 0 h h0_n h0_parts_c l1 = none := by rw [f_MW_halve]
set_option maxHeartbeats 4000000 in
set_option maxRecDepth 100000 in
theorem b_MW_halve_0 {p : Program} {l : Launch} {e : Env} {s : State} {m : MethodId} {args : Array Value} {below : List Frame} {meth : Method} {c : Code} {D : va_G} {tA : Nat → ClassId} {A : Nat → Prop} {h0 h0_parts : Nat} {f0_h0 : List Value} {h0_parts_n : Nat} {out : Int32 × (Nat → Int32)} (hx : p.tables.exec = Jvm.exec) (hb : c.code = prog_21_method_13_code) (hr : meth.sig.returnType = (Option.none : Option Jvm.ClassFile.FieldType)) (hml : c.maxLocals = 2) (hh : zH s) (hg : ∀ w ∈ lw_R, w.before args s = true) (hown : s.vm.findClass "ChanceArenaModel$Whole" = some m.cls) (hlocks : meth.locks = false) (hK : va_K D vwCl (zT tA) s) (hA : ∀ q, s.heap.size ≤ q → A q) {n : Nat} (ih1 : ∀ (h0_n : Int32) (h0_parts_c : Nat → Int32) (l1 : Int32) (f_h0 : List Value) (H : Heap) (locs : List Loc) (ls : Array Slot), f_MW_halve h0_parts_n n 1 h0_n h0_parts_c l1 = some out → f_h0[0]? = some (.ref h0_parts) → f_h0[1]? = some (.int h0_n) → Fr [1] f0_h0 f_h0 → va_P D vwCl [(h0, .inr (19, f_h0)), (h0_parts, .inl (tA 0, h0_parts_n, .inl h0_parts_c))] H → va_D A [(h0, .inr (19, f_h0)), (h0_parts, .inl (tA 0, h0_parts_n, .inl h0_parts_c))] → va_S A s.heap H locs → lv_has ls 2 [(0, .ref h0), (1, .int l1)] → W p l e { frames := 1, cells := 0, slots := 0, locals := 20 } s m args below meth c H locs 0 0 (MQ below (va_Qv (fun (u9 : List Value) => Fr [1] f0_h0 u9 ∧ u9[1]? = some (.int out.1)) (zPost D A (fun (u9 : List Value) => [(h0, .inr (19, u9)), (h0_parts, .inl (tA 0, h0_parts_n, .inl out.2))])) A) args s 0 0 A) (F0 m 2 ls [])) : ∀ (h0_n : Int32) (h0_parts_c : Nat → Int32) (l1 : Int32) (f_h0 : List Value) (H : Heap) (locs : List Loc) (ls : Array Slot), f_MW_halve h0_parts_n (n + 1) 0 h0_n h0_parts_c l1 = some out → f_h0[0]? = some (.ref h0_parts) → f_h0[1]? = some (.int h0_n) → Fr [1] f0_h0 f_h0 → va_P D vwCl [(h0, .inr (19, f_h0)), (h0_parts, .inl (tA 0, h0_parts_n, .inl h0_parts_c))] H → va_D A [(h0, .inr (19, f_h0)), (h0_parts, .inl (tA 0, h0_parts_n, .inl h0_parts_c))] → va_S A s.heap H locs → lv_has ls 2 [(0, .ref h0)] → W p l e { frames := 1, cells := 0, slots := 0, locals := 20 } s m args below meth c H locs 0 0 (MQ below (va_Qv (fun (u9 : List Value) => Fr [1] f0_h0 u9 ∧ u9[1]? = some (.int out.1)) (zPost D A (fun (u9 : List Value) => [(h0, .inr (19, u9)), (h0_parts, .inl (tA 0, h0_parts_n, .inl out.2))])) A) args s 0 0 A) (F0 m 0 ls []) := by
  intro h0_n h0_parts_c l1  f_h0 H locs ls hF q_h0_parts q_h0_n r_h0 hP hD hS hl
  rw [e_MW_halve_0] at hF
  obtain ⟨_, hF⟩ := chk_some hF
  refine lv_iconst (v := 0) hx hb d_MW_halve_0 (by decide) ?_
  refine lv_istore_n (lv' := [(1, .int 0), (0, .ref h0)]) hx hb d_MW_halve_1 rfl hl (by decide) rfl (fun ls hl => ?_)
  exact ih1 h0_n h0_parts_c 0  f_h0 _ _ _ hF q_h0_parts q_h0_n r_h0 hP hD hS (lv_sub hl [1, 0] rfl)
set_option maxHeartbeats 4000000 in
set_option maxRecDepth 100000 in
theorem b_MW_halve_1 {p : Program} {l : Launch} {e : Env} {s : State} {m : MethodId} {args : Array Value} {below : List Frame} {meth : Method} {c : Code} {D : va_G} {tA : Nat → ClassId} {A : Nat → Prop} {h0 h0_parts : Nat} {f0_h0 : List Value} {h0_parts_n : Nat} {out : Int32 × (Nat → Int32)} (hx : p.tables.exec = Jvm.exec) (hb : c.code = prog_21_method_13_code) (hr : meth.sig.returnType = (Option.none : Option Jvm.ClassFile.FieldType)) (hml : c.maxLocals = 2) (hh : zH s) (hg : ∀ w ∈ lw_R, w.before args s = true) (hown : s.vm.findClass "ChanceArenaModel$Whole" = some m.cls) (hlocks : meth.locks = false) (hK : va_K D vwCl (zT tA) s) (hA : ∀ q, s.heap.size ≤ q → A q) {n : Nat} (ih1 : ∀ (h0_n : Int32) (h0_parts_c : Nat → Int32) (l1 : Int32) (f_h0 : List Value) (H : Heap) (locs : List Loc) (ls : Array Slot), f_MW_halve h0_parts_n n 1 h0_n h0_parts_c l1 = some out → f_h0[0]? = some (.ref h0_parts) → f_h0[1]? = some (.int h0_n) → Fr [1] f0_h0 f_h0 → va_P D vwCl [(h0, .inr (19, f_h0)), (h0_parts, .inl (tA 0, h0_parts_n, .inl h0_parts_c))] H → va_D A [(h0, .inr (19, f_h0)), (h0_parts, .inl (tA 0, h0_parts_n, .inl h0_parts_c))] → va_S A s.heap H locs → lv_has ls 2 [(0, .ref h0), (1, .int l1)] → W p l e { frames := 1, cells := 0, slots := 0, locals := 20 } s m args below meth c H locs 0 0 (MQ below (va_Qv (fun (u9 : List Value) => Fr [1] f0_h0 u9 ∧ u9[1]? = some (.int out.1)) (zPost D A (fun (u9 : List Value) => [(h0, .inr (19, u9)), (h0_parts, .inl (tA 0, h0_parts_n, .inl out.2))])) A) args s 0 0 A) (F0 m 2 ls [])) : ∀ (h0_n : Int32) (h0_parts_c : Nat → Int32) (l1 : Int32) (f_h0 : List Value) (H : Heap) (locs : List Loc) (ls : Array Slot), f_MW_halve h0_parts_n (n + 1) 1 h0_n h0_parts_c l1 = some out → f_h0[0]? = some (.ref h0_parts) → f_h0[1]? = some (.int h0_n) → Fr [1] f0_h0 f_h0 → va_P D vwCl [(h0, .inr (19, f_h0)), (h0_parts, .inl (tA 0, h0_parts_n, .inl h0_parts_c))] H → va_D A [(h0, .inr (19, f_h0)), (h0_parts, .inl (tA 0, h0_parts_n, .inl h0_parts_c))] → va_S A s.heap H locs → lv_has ls 2 [(0, .ref h0), (1, .int l1)] → W p l e { frames := 1, cells := 0, slots := 0, locals := 20 } s m args below meth c H locs 0 0 (MQ below (va_Qv (fun (u9 : List Value) => Fr [1] f0_h0 u9 ∧ u9[1]? = some (.int out.1)) (zPost D A (fun (u9 : List Value) => [(h0, .inr (19, u9)), (h0_parts, .inl (tA 0, h0_parts_n, .inl out.2))])) A) args s 0 0 A) (F0 m 2 ls []) := by
  intro h0_n h0_parts_c l1  f_h0 H locs ls hF q_h0_parts q_h0_n r_h0 hP hD hS hl
  rw [e_MW_halve_1] at hF
  refine lv_iload_n hx hb d_MW_halve_2 rfl (lv_at hl 1 rfl) ?_
  refine lv_aload_n hx hb d_MW_halve_3 rfl (lv_at hl 0 rfl) ?_
  refine va_get (D := D) (ci := 19) (v := .int h0_n) (C := R_MW) (T := T_MW) (N := 2) hx hb hg i_MW hown hK hP 0 rfl rfl 1 (by decide) (hg _ k9_135) (fun _ h9 => h9) q_h0_n d_MW_halve_4 ?_
  refine lv_icmp_ge (tgt := 58) hx hb d_MW_halve_7 (by decide) (fun c9 => ?_) (fun c9 => ?_)
  · replace hF := ifp c9 hF
    refine lv_aload_n hx hb d_MW_halve_58 rfl (lv_at hl 0 rfl) ?_
    obtain ⟨o1, h1, hF⟩ := bsome hF
    refine zCallv (wc := [(h0, .inr (19, f_h0)), (h0_parts, .inl (tA 0, h0_parts_n, .inl h0_parts_c))]) (wr := []) hP hD hS hA [0, 1] [] rfl rfl (by decide) (by decide) (va_runV (As := []) (rest := []) ⟨hx, hb, hml, hown, hg⟩ (m_MW_trim l D tA _ h0 h0_parts f_h0 h0_parts_n h0_parts_c h0_n q_h0_parts q_h0_n n o1 h1) (zV 0 hg k12_219 k12_221 ks_MW_trim k1_20 k12_222 rfl rfl (by decide +kernel) ⟨(Nat.le_of_ble_eq_true rfl), (Nat.le_of_ble_eq_true rfl)⟩) (zPreV hh hK hP hD [0, 1] (by decide) rfl (ci := 19) rfl 0 rfl) rfl rfl hl.1 rfl (lv_room (Nat.le_of_ble_eq_true rfl)) d_MW_halve_59 ⟨(Nat.le_of_ble_eq_true rfl), (Nat.le_of_ble_eq_true rfl)⟩) (fun v1_h0 H1 locs1 e1 hP1 hD1 hS1 => ?_)
    clear hP hD hS
    refine W.cs (cells' := 0) (slots' := 0) rfl rfl ?_
    obtain ⟨r1_h0, q1_h0_n⟩ := e1
    replace hP1 : va_P D vwCl [(h0, .inr (19, v1_h0)), (h0_parts, .inl (tA 0, h0_parts_n, .inl h0_parts_c))] _ := hP1
    replace hD1 : va_D A [(h0, .inr (19, v1_h0)), (h0_parts, .inl (tA 0, h0_parts_n, .inl h0_parts_c))] := hD1
    replace hF := Option.some.inj hF
    subst hF
    exact zVret (post := (fun (u9 : List Value) => Fr [1] f0_h0 u9 ∧ u9[1]? = some (.int ((o1, h0_parts_c).1)))) (W1 := (fun (u9 : List Value) => [(h0, .inr (19, u9)), (h0_parts, .inl (tA 0, h0_parts_n, .inl ((o1, h0_parts_c).2)))])) hx hb hr hlocks hP1 hD1 hS1 (v1_h0) ⟨(Fr.trans r_h0 (Fr.sub r1_h0 (by decide))), q1_h0_n⟩ rfl d_MW_halve_62
  · replace hF := ifn c9 hF
    refine lv_aload_n hx hb d_MW_halve_10 rfl (lv_at hl 0 rfl) ?_
    refine va_get (D := D) (ci := 19) (v := .ref h0_parts) (C := R_MW) (T := T_MW) (N := 2) hx hb hg i_MW hown hK hP 0 rfl rfl 0 (by decide) (hg _ k9_134) (fun _ h9 => h9) q_h0_parts d_MW_halve_11 ?_
    refine lv_iload_n hx hb d_MW_halve_14 rfl (lv_at hl 1 rfl) ?_
    refine lv_aload_n hx hb d_MW_halve_15 rfl (lv_at hl 0 rfl) ?_
    refine va_get (D := D) (ci := 19) (v := .ref h0_parts) (C := R_MW) (T := T_MW) (N := 2) hx hb hg i_MW hown hK hP 0 rfl rfl 0 (by decide) (hg _ k9_134) (fun _ h9 => h9) q_h0_parts d_MW_halve_16 ?_
    refine lv_iload_n hx hb d_MW_halve_19 rfl (lv_at hl 1 rfl) ?_
    obtain ⟨h9, hF⟩ := chk_some hF
    refine va_iald hx hb hK hP 1 0 rfl rfl (vp_in_iff.mpr h9) d_MW_halve_20 ?_
    refine lv_iconst (v := 2) hx hb d_MW_halve_21 (by decide) ?_
    refine lv_idiv hx hb d_MW_halve_22 (by decide) ?_
    refine lv_iload_n hx hb d_MW_halve_23 rfl (lv_at hl 1 rfl) ?_
    refine lv_iconst (v := 1) hx hb d_MW_halve_24 (by decide) ?_
    refine lv_iadd hx hb d_MW_halve_25 ?_
    refine lv_aload_n hx hb d_MW_halve_26 rfl (lv_at hl 0 rfl) ?_
    refine va_get (D := D) (ci := 19) (v := .int h0_n) (C := R_MW) (T := T_MW) (N := 2) hx hb hg i_MW hown hK hP 0 rfl rfl 1 (by decide) (hg _ k9_135) (fun _ h9 => h9) q_h0_n d_MW_halve_27 ?_
    refine lv_icmp_ge (tgt := 49) hx hb d_MW_halve_30 (by decide) (fun c9 => ?_) (fun c9 => ?_)
    · replace hF := ifp c9 hF
      refine lv_iconst (v := 0) hx hb d_MW_halve_49 (by decide) ?_
      refine lv_iadd hx hb d_MW_halve_50 ?_
      obtain ⟨h9, hF⟩ := chk_some hF
      refine va_iast hx hb hK hP hD hS 1 0 rfl rfl (vp_in_iff.mpr h9) d_MW_halve_51 (fun H1 locs1 hP1 hD1 hS1 => ?_)
      clear hP hD hS
      replace hP1 : va_P D vwCl [(h0, .inr (19, f_h0)), (h0_parts, .inl (tA 0, h0_parts_n, .inl (upd h0_parts_c (l1 : Int32).toNatClampNeg (((h0_parts_c (l1 : Int32).toNatClampNeg) / 2) + 0))))] _ := hP1
      replace hD1 : va_D A [(h0, .inr (19, f_h0)), (h0_parts, .inl (tA 0, h0_parts_n, .inl (upd h0_parts_c (l1 : Int32).toNatClampNeg (((h0_parts_c (l1 : Int32).toNatClampNeg) / 2) + 0))))] := hD1
      refine lv_iinc (v := (l1 + Int32.ofInt 1)) (lv' := [(1, .int (l1 + Int32.ofInt 1)), (0, .ref h0)]) hx hb d_MW_halve_52 hl (k := 1) rfl rfl (by decide) rfl (fun ls hl => ?_)
      refine lv_goto (tgt := 2) hx hb d_MW_halve_55 (by decide) ?_
      exact ih1 h0_n (upd h0_parts_c (l1 : Int32).toNatClampNeg (((h0_parts_c (l1 : Int32).toNatClampNeg) / 2) + 0)) (l1 + Int32.ofInt 1)  f_h0 _ _ _ hF q_h0_parts q_h0_n r_h0 hP1 hD1 hS1 (lv_sub hl [1, 0] rfl)
    · replace hF := ifn c9 hF
      refine lv_aload_n hx hb d_MW_halve_33 rfl (lv_at hl 0 rfl) ?_
      refine va_get (D := D) (ci := 19) (v := .ref h0_parts) (C := R_MW) (T := T_MW) (N := 2) hx hb hg i_MW hown hK hP 0 rfl rfl 0 (by decide) (hg _ k9_134) (fun _ h9 => h9) q_h0_parts d_MW_halve_34 ?_
      refine lv_iload_n hx hb d_MW_halve_37 rfl (lv_at hl 1 rfl) ?_
      refine lv_iconst (v := 1) hx hb d_MW_halve_38 (by decide) ?_
      refine lv_iadd hx hb d_MW_halve_39 ?_
      obtain ⟨h9, hF⟩ := chk_some hF
      refine va_iald hx hb hK hP 1 0 rfl rfl (vp_in_iff.mpr h9) d_MW_halve_40 ?_
      refine lv_iconst (v := 2) hx hb d_MW_halve_41 (by decide) ?_
      refine lv_irem hx hb d_MW_halve_42 (by decide) ?_
      refine lv_ldc (v := 8388608) hx hb hown (hg _ k13_25) d_MW_halve_43 ?_
      refine lv_imul hx hb d_MW_halve_45 ?_
      refine lv_goto (tgt := 50) hx hb d_MW_halve_46 (by decide) ?_
      refine lv_iadd hx hb d_MW_halve_50 ?_
      obtain ⟨h9, hF⟩ := chk_some hF
      refine va_iast hx hb hK hP hD hS 1 0 rfl rfl (vp_in_iff.mpr h9) d_MW_halve_51 (fun H1 locs1 hP1 hD1 hS1 => ?_)
      clear hP hD hS
      replace hP1 : va_P D vwCl [(h0, .inr (19, f_h0)), (h0_parts, .inl (tA 0, h0_parts_n, .inl (upd h0_parts_c (l1 : Int32).toNatClampNeg (((h0_parts_c (l1 : Int32).toNatClampNeg) / 2) + (((h0_parts_c ((l1 + 1) : Int32).toNatClampNeg) - (h0_parts_c ((l1 + 1) : Int32).toNatClampNeg) / 2 * 2) * 8388608)))))] _ := hP1
      replace hD1 : va_D A [(h0, .inr (19, f_h0)), (h0_parts, .inl (tA 0, h0_parts_n, .inl (upd h0_parts_c (l1 : Int32).toNatClampNeg (((h0_parts_c (l1 : Int32).toNatClampNeg) / 2) + (((h0_parts_c ((l1 + 1) : Int32).toNatClampNeg) - (h0_parts_c ((l1 + 1) : Int32).toNatClampNeg) / 2 * 2) * 8388608)))))] := hD1
      refine lv_iinc (v := (l1 + Int32.ofInt 1)) (lv' := [(1, .int (l1 + Int32.ofInt 1)), (0, .ref h0)]) hx hb d_MW_halve_52 hl (k := 1) rfl rfl (by decide) rfl (fun ls hl => ?_)
      refine lv_goto (tgt := 2) hx hb d_MW_halve_55 (by decide) ?_
      exact ih1 h0_n (upd h0_parts_c (l1 : Int32).toNatClampNeg (((h0_parts_c (l1 : Int32).toNatClampNeg) / 2) + (((h0_parts_c ((l1 + 1) : Int32).toNatClampNeg) - (h0_parts_c ((l1 + 1) : Int32).toNatClampNeg) / 2 * 2) * 8388608))) (l1 + Int32.ofInt 1)  f_h0 _ _ _ hF q_h0_parts q_h0_n r_h0 hP1 hD1 hS1 (lv_sub hl [1, 0] rfl)
set_option maxHeartbeats 4000000 in
set_option maxRecDepth 100000 in
theorem a_MW_halve {p : Program} {l : Launch} {e : Env} {s : State} {m : MethodId} {args : Array Value} {below : List Frame} {meth : Method} {c : Code} {D : va_G} {tA : Nat → ClassId} {A : Nat → Prop} {h0 h0_parts : Nat} {f0_h0 : List Value} {h0_parts_n : Nat} {out : Int32 × (Nat → Int32)} (hx : p.tables.exec = Jvm.exec) (hb : c.code = prog_21_method_13_code) (hr : meth.sig.returnType = (Option.none : Option Jvm.ClassFile.FieldType)) (hml : c.maxLocals = 2) (hh : zH s) (hg : ∀ w ∈ lw_R, w.before args s = true) (hown : s.vm.findClass "ChanceArenaModel$Whole" = some m.cls) (hlocks : meth.locks = false) (hK : va_K D vwCl (zT tA) s) (hA : ∀ q, s.heap.size ≤ q → A q) : ∀ n : Nat, (∀ (h0_n : Int32) (h0_parts_c : Nat → Int32) (l1 : Int32) (f_h0 : List Value) (H : Heap) (locs : List Loc) (ls : Array Slot), f_MW_halve h0_parts_n n 0 h0_n h0_parts_c l1 = some out → f_h0[0]? = some (.ref h0_parts) → f_h0[1]? = some (.int h0_n) → Fr [1] f0_h0 f_h0 → va_P D vwCl [(h0, .inr (19, f_h0)), (h0_parts, .inl (tA 0, h0_parts_n, .inl h0_parts_c))] H → va_D A [(h0, .inr (19, f_h0)), (h0_parts, .inl (tA 0, h0_parts_n, .inl h0_parts_c))] → va_S A s.heap H locs → lv_has ls 2 [(0, .ref h0)] → W p l e { frames := 1, cells := 0, slots := 0, locals := 20 } s m args below meth c H locs 0 0 (MQ below (va_Qv (fun (u9 : List Value) => Fr [1] f0_h0 u9 ∧ u9[1]? = some (.int out.1)) (zPost D A (fun (u9 : List Value) => [(h0, .inr (19, u9)), (h0_parts, .inl (tA 0, h0_parts_n, .inl out.2))])) A) args s 0 0 A) (F0 m 0 ls [])) ∧ (∀ (h0_n : Int32) (h0_parts_c : Nat → Int32) (l1 : Int32) (f_h0 : List Value) (H : Heap) (locs : List Loc) (ls : Array Slot), f_MW_halve h0_parts_n n 1 h0_n h0_parts_c l1 = some out → f_h0[0]? = some (.ref h0_parts) → f_h0[1]? = some (.int h0_n) → Fr [1] f0_h0 f_h0 → va_P D vwCl [(h0, .inr (19, f_h0)), (h0_parts, .inl (tA 0, h0_parts_n, .inl h0_parts_c))] H → va_D A [(h0, .inr (19, f_h0)), (h0_parts, .inl (tA 0, h0_parts_n, .inl h0_parts_c))] → va_S A s.heap H locs → lv_has ls 2 [(0, .ref h0), (1, .int l1)] → W p l e { frames := 1, cells := 0, slots := 0, locals := 20 } s m args below meth c H locs 0 0 (MQ below (va_Qv (fun (u9 : List Value) => Fr [1] f0_h0 u9 ∧ u9[1]? = some (.int out.1)) (zPost D A (fun (u9 : List Value) => [(h0, .inr (19, u9)), (h0_parts, .inl (tA 0, h0_parts_n, .inl out.2))])) A) args s 0 0 A) (F0 m 2 ls [])) := by
  intro n
  induction n with
  | zero => exact ⟨(fun _ _ _ _ _ _ _ hF => by rw [z_MW_halve] at hF; cases hF), (fun _ _ _ _ _ _ _ hF => by rw [z_MW_halve] at hF; cases hF)⟩
  | succ n ih =>
    obtain ⟨i0, i1⟩ := ih
    exact ⟨b_MW_halve_0 hx hb hr hml hh hg hown hlocks hK hA i1, b_MW_halve_1 hx hb hr hml hh hg hown hlocks hK hA i1⟩
set_option maxHeartbeats 4000000 in
set_option maxRecDepth 100000 in
theorem m_MW_halve (l : Launch) (D : va_G) (tA : Nat → ClassId) (sz : Nat) (h0 h0_parts : Nat) (f0_h0 : List Value) (h0_parts_n : Nat) (h0_n : Int32) (h0_parts_c : Nat → Int32) (q_h0_parts : f0_h0[0]? = some (.ref h0_parts)) (q_h0_n : f0_h0[1]? = some (.int h0_n)) (n : Nat) (out : Int32 × (Nat → Int32)) (hF : f_MW_halve h0_parts_n n 0 h0_n h0_parts_c 0 = some out) : zMv l ({ cls := "ChanceArenaModel$Whole", name := "halve", desc := "()V" } : Jvm.MethodName) (zW (Jvm.Cond.code ({ cls := "ChanceArenaModel$Whole", name := "halve", desc := "()V" } : Jvm.MethodName) prog_21_method_13_code (2 : Nat) (Option.none : Option Jvm.ClassFile.FieldType))) { frames := 1, cells := 0, slots := 0, locals := 20 } [.ref h0] D tA [(h0, .inr (19, f0_h0)), (h0_parts, .inl (tA 0, h0_parts_n, .inl h0_parts_c))] sz (fun (u9 : List Value) => Fr [1] f0_h0 u9 ∧ u9[1]? = some (.int out.1)) (fun (u9 : List Value) => [(h0, .inr (19, u9)), (h0_parts, .inl (tA 0, h0_parts_n, .inl out.2))]) 0 0 := by
  refine zOpen (l := l) (y := ({ cls := "ChanceArenaModel$Whole", name := "halve", desc := "()V" } : Jvm.MethodName)) (ws := zW (Jvm.Cond.code ({ cls := "ChanceArenaModel$Whole", name := "halve", desc := "()V" } : Jvm.MethodName) prog_21_method_13_code (2 : Nat) (Option.none : Option Jvm.ClassFile.FieldType))) (rm := { frames := 1, cells := 0, slots := 0, locals := 20 }) (av := [.ref h0]) (D := D) (tA := tA) (W0 := [(h0, .inr (19, f0_h0)), (h0_parts, .inl (tA 0, h0_parts_n, .inl h0_parts_c))]) (Wm := [(h0, .inr (19, f0_h0)), (h0_parts, .inl (tA 0, h0_parts_n, .inl h0_parts_c))]) (sz := sz) (mc := 0) (ms := 0) (fun A => va_Qv (fun (u9 : List Value) => Fr [1] f0_h0 u9 ∧ u9[1]? = some (.int out.1)) (zPost D A (fun (u9 : List Value) => [(h0, .inr (19, u9)), (h0_parts, .inl (tA 0, h0_parts_n, .inl out.2))])) A) (lv := [(0, .ref h0)]) (by decide) rfl (Nat.le_of_ble_eq_true rfl) rfl ?_
  intro p e s m below meth c A ls hx hb hr hml hh hg hown hlocks hnm hK hA hP hD0 hAw hS hl
  have hD := zD hD0 hAw
  exact (a_MW_halve hx hb hr hml hh hg hown hlocks hK hA n).1 h0_n h0_parts_c 0  f0_h0 _ _ _ hF q_h0_parts q_h0_n Fr.rfl hP hD hS hl
def f_MW_isOdd (h0_parts_n : Nat) (h0_n : Int32) (h0_parts_c : Nat → Int32) : Option (Int32) := if (h0_n : Int32) ≤ 0 then some (0) else chk (0 ≤ (0 : Int32).toInt ∧ (0 : Int32).toInt < h0_parts_n) (if ¬ (((h0_parts_c (0 : Int32).toNatClampNeg) - (h0_parts_c (0 : Int32).toNatClampNeg) / 2 * 2) : Int32) = 1 then some (0) else some (1))
set_option maxHeartbeats 4000000 in
set_option maxRecDepth 100000 in
theorem b_MW_isOdd_0 {p : Program} {l : Launch} {e : Env} {s : State} {m : MethodId} {args : Array Value} {below : List Frame} {meth : Method} {c : Code} {D : va_G} {tA : Nat → ClassId} {A : Nat → Prop} {h0 h0_parts : Nat} {f0_h0 : List Value} {h0_parts_n : Nat} {h0_n : Int32} {h0_parts_c : Nat → Int32} {out : Int32} (hx : p.tables.exec = Jvm.exec) (hb : c.code = prog_21_method_14_code) (hr : meth.sig.returnType = (Option.some Jvm.ClassFile.FieldType.boolean)) (hml : c.maxLocals = 1) (hh : zH s) (hg : ∀ w ∈ lw_R, w.before args s = true) (hown : s.vm.findClass "ChanceArenaModel$Whole" = some m.cls) (hlocks : meth.locks = false) (hK : va_K D vwCl (zT tA) s) (hA : ∀ q, s.heap.size ≤ q → A q)  : ∀ (H : Heap) (locs : List Loc) (ls : Array Slot), f_MW_isOdd h0_parts_n h0_n h0_parts_c = some out → f0_h0[0]? = some (.ref h0_parts) → f0_h0[1]? = some (.int h0_n) → va_P D vwCl [(h0, .inr (19, f0_h0)), (h0_parts, .inl (tA 0, h0_parts_n, .inl h0_parts_c))] H → va_D A [(h0, .inr (19, f0_h0)), (h0_parts, .inl (tA 0, h0_parts_n, .inl h0_parts_c))] → va_S A s.heap H locs → lv_has ls 1 [(0, .ref h0)] → W p l e { frames := 0, cells := 0, slots := 0, locals := 0 } s m args below meth c H locs 0 0 (MQ below (va_Qi (fun (r9 : Int32) (u9 : Unit) => r9 = out) (zPost D A (fun (u9 : Unit) => [(h0, .inr (19, f0_h0)), (h0_parts, .inl (tA 0, h0_parts_n, .inl h0_parts_c))])) A) args s 0 0 A) (F0 m 0 ls []) := by
  intro    H locs ls hF q_h0_parts q_h0_n hP hD hS hl
  replace hF : ((if (h0_n : Int32) ≤ 0 then some (0) else chk (0 ≤ (0 : Int32).toInt ∧ (0 : Int32).toInt < h0_parts_n) (if ¬ (((h0_parts_c (0 : Int32).toNatClampNeg) - (h0_parts_c (0 : Int32).toNatClampNeg) / 2 * 2) : Int32) = 1 then some (0) else some (1))) : Option (Int32)) = some out := hF
  refine lv_aload_n hx hb d_MW_isOdd_0 rfl (lv_at hl 0 rfl) ?_
  refine va_get (D := D) (ci := 19) (v := .int h0_n) (C := R_MW) (T := T_MW) (N := 2) hx hb hg i_MW hown hK hP 0 rfl rfl 1 (by decide) (hg _ k9_135) (fun _ h9 => h9) q_h0_n d_MW_isOdd_1 ?_
  refine lv_if_le (tgt := 23) hx hb d_MW_isOdd_4 (by decide) (fun c9 => ?_) (fun c9 => ?_)
  · replace hF := ifp c9 hF
    refine lv_iconst (v := 0) hx hb d_MW_isOdd_23 (by decide) ?_
    replace hF := Option.some.inj hF
    subst hF
    exact zZret (post := (fun (r9 : Int32) (u9 : Unit) => r9 = 0)) (W1 := (fun (u9 : Unit) => [(h0, .inr (19, f0_h0)), (h0_parts, .inl (tA 0, h0_parts_n, .inl h0_parts_c))])) (v := 0) hx hb hr rfl hlocks hP hD hS () rfl rfl d_MW_isOdd_24
  · replace hF := ifn c9 hF
    refine lv_aload_n hx hb d_MW_isOdd_7 rfl (lv_at hl 0 rfl) ?_
    refine va_get (D := D) (ci := 19) (v := .ref h0_parts) (C := R_MW) (T := T_MW) (N := 2) hx hb hg i_MW hown hK hP 0 rfl rfl 0 (by decide) (hg _ k9_134) (fun _ h9 => h9) q_h0_parts d_MW_isOdd_8 ?_
    refine lv_iconst (v := 0) hx hb d_MW_isOdd_11 (by decide) ?_
    obtain ⟨h9, hF⟩ := chk_some hF
    refine va_iald hx hb hK hP 1 0 rfl rfl (vp_in_iff.mpr h9) d_MW_isOdd_12 ?_
    refine lv_iconst (v := 2) hx hb d_MW_isOdd_13 (by decide) ?_
    refine lv_irem hx hb d_MW_isOdd_14 (by decide) ?_
    refine lv_iconst (v := 1) hx hb d_MW_isOdd_15 (by decide) ?_
    refine lv_icmp_ne (tgt := 23) hx hb d_MW_isOdd_16 (by decide) (fun c9 => ?_) (fun c9 => ?_)
    · replace hF := ifp c9 hF
      refine lv_iconst (v := 0) hx hb d_MW_isOdd_23 (by decide) ?_
      replace hF := Option.some.inj hF
      subst hF
      exact zZret (post := (fun (r9 : Int32) (u9 : Unit) => r9 = 0)) (W1 := (fun (u9 : Unit) => [(h0, .inr (19, f0_h0)), (h0_parts, .inl (tA 0, h0_parts_n, .inl h0_parts_c))])) (v := 0) hx hb hr rfl hlocks hP hD hS () rfl rfl d_MW_isOdd_24
    · replace hF := ifn (fun h9 => h9 c9) hF
      refine lv_iconst (v := 1) hx hb d_MW_isOdd_19 (by decide) ?_
      refine lv_goto (tgt := 24) hx hb d_MW_isOdd_20 (by decide) ?_
      replace hF := Option.some.inj hF
      subst hF
      exact zZret (post := (fun (r9 : Int32) (u9 : Unit) => r9 = 1)) (W1 := (fun (u9 : Unit) => [(h0, .inr (19, f0_h0)), (h0_parts, .inl (tA 0, h0_parts_n, .inl h0_parts_c))])) (v := 1) hx hb hr rfl hlocks hP hD hS () rfl rfl d_MW_isOdd_24
set_option maxHeartbeats 4000000 in
set_option maxRecDepth 100000 in
theorem m_MW_isOdd (l : Launch) (D : va_G) (tA : Nat → ClassId) (sz : Nat) (h0 h0_parts : Nat) (f0_h0 : List Value) (h0_parts_n : Nat) (h0_n : Int32) (h0_parts_c : Nat → Int32) (q_h0_parts : f0_h0[0]? = some (.ref h0_parts)) (q_h0_n : f0_h0[1]? = some (.int h0_n)) (out : Int32) (hF : f_MW_isOdd h0_parts_n h0_n h0_parts_c = some out) : zMi l ({ cls := "ChanceArenaModel$Whole", name := "isOdd", desc := "()Z" } : Jvm.MethodName) (zW (Jvm.Cond.code ({ cls := "ChanceArenaModel$Whole", name := "isOdd", desc := "()Z" } : Jvm.MethodName) prog_21_method_14_code (1 : Nat) (Option.some Jvm.ClassFile.FieldType.boolean))) { frames := 0, cells := 0, slots := 0, locals := 0 } [.ref h0] D tA [(h0, .inr (19, f0_h0)), (h0_parts, .inl (tA 0, h0_parts_n, .inl h0_parts_c))] sz (fun (r9 : Int32) (u9 : Unit) => r9 = out) (fun (u9 : Unit) => [(h0, .inr (19, f0_h0)), (h0_parts, .inl (tA 0, h0_parts_n, .inl h0_parts_c))]) 0 0 := by
  refine zOpen (l := l) (y := ({ cls := "ChanceArenaModel$Whole", name := "isOdd", desc := "()Z" } : Jvm.MethodName)) (ws := zW (Jvm.Cond.code ({ cls := "ChanceArenaModel$Whole", name := "isOdd", desc := "()Z" } : Jvm.MethodName) prog_21_method_14_code (1 : Nat) (Option.some Jvm.ClassFile.FieldType.boolean))) (rm := { frames := 0, cells := 0, slots := 0, locals := 0 }) (av := [.ref h0]) (D := D) (tA := tA) (W0 := [(h0, .inr (19, f0_h0)), (h0_parts, .inl (tA 0, h0_parts_n, .inl h0_parts_c))]) (Wm := [(h0, .inr (19, f0_h0)), (h0_parts, .inl (tA 0, h0_parts_n, .inl h0_parts_c))]) (sz := sz) (mc := 0) (ms := 0) (fun A => va_Qi (fun (r9 : Int32) (u9 : Unit) => r9 = out) (zPost D A (fun (u9 : Unit) => [(h0, .inr (19, f0_h0)), (h0_parts, .inl (tA 0, h0_parts_n, .inl h0_parts_c))])) A) (lv := [(0, .ref h0)]) (by decide) rfl (Nat.le_of_ble_eq_true rfl) rfl ?_
  intro p e s m below meth c A ls hx hb hr hml hh hg hown hlocks hnm hK hA hP hD0 hAw hS hl
  have hD := zD hD0 hAw
  exact b_MW_isOdd_0 hx hb hr hml hh hg hown hlocks hK hA    _ _ _ hF q_h0_parts q_h0_n hP hD hS hl
def f_MW_places (h0_parts_n : Nat) (h0_n : Int32) (h0_parts_c : Nat → Int32) : Nat → Nat → Int32 → Int32 → Option (Int32)
  | 0, _, _, _ => none
  | n + 1, 0, l1, l2 => if ¬ (h0_n : Int32) = 0 then chk (0 ≤ ((h0_n - 1) : Int32).toInt ∧ ((h0_n - 1) : Int32).toInt < h0_parts_n) (f_MW_places h0_parts_n h0_n h0_parts_c n 1 (24 * (h0_n - 1)) (h0_parts_c ((h0_n - 1) : Int32).toNatClampNeg)) else f_MW_places h0_parts_n h0_n h0_parts_c n 1 (24 * (h0_n - 1)) 0
  | n + 1, 1, l1, l2 => if (l2 : Int32) ≤ 0 then (if ¬ (h0_n : Int32) = 0 then some (l1) else some (0)) else f_MW_places h0_parts_n h0_n h0_parts_c n 1 (l1 + Int32.ofInt 1) (l2 / 2)
  | _ + 1, _ + 2, _, _ => none
theorem e_MW_places_0 (h0_parts_n : Nat) (h0_n : Int32) (h0_parts_c : Nat → Int32) (n : Nat) (l1 : Int32) (l2 : Int32) : f_MW_places h0_parts_n h0_n h0_parts_c (n + 1) 0 l1 l2 = if ¬ (h0_n : Int32) = 0 then chk (0 ≤ ((h0_n - 1) : Int32).toInt ∧ ((h0_n - 1) : Int32).toInt < h0_parts_n) (f_MW_places h0_parts_n h0_n h0_parts_c n 1 (24 * (h0_n - 1)) (h0_parts_c ((h0_n - 1) : Int32).toNatClampNeg)) else f_MW_places h0_parts_n h0_n h0_parts_c n 1 (24 * (h0_n - 1)) 0 := by rw [f_MW_places]
theorem e_MW_places_1 (h0_parts_n : Nat) (h0_n : Int32) (h0_parts_c : Nat → Int32) (n : Nat) (l1 : Int32) (l2 : Int32) : f_MW_places h0_parts_n h0_n h0_parts_c (n + 1) 1 l1 l2 = if (l2 : Int32) ≤ 0 then (if ¬ (h0_n : Int32) = 0 then some (l1) else some (0)) else f_MW_places h0_parts_n h0_n h0_parts_c n 1 (l1 + Int32.ofInt 1) (l2 / 2) := by rw [f_MW_places]
theorem z_MW_places (h0_parts_n : Nat) (h0_n : Int32) (h0_parts_c : Nat → Int32) (h : Nat) (l1 : Int32) (l2 : Int32) : f_MW_places h0_parts_n h0_n h0_parts_c 0 h l1 l2 = none := by rw [f_MW_places]
set_option maxHeartbeats 4000000 in
set_option maxRecDepth 100000 in
theorem b_MW_places_0 {p : Program} {l : Launch} {e : Env} {s : State} {m : MethodId} {args : Array Value} {below : List Frame} {meth : Method} {c : Code} {D : va_G} {tA : Nat → ClassId} {A : Nat → Prop} {h0 h0_parts : Nat} {f0_h0 : List Value} {h0_parts_n : Nat} {h0_n : Int32} {h0_parts_c : Nat → Int32} {out : Int32} (hx : p.tables.exec = Jvm.exec) (hb : c.code = prog_21_method_15_code) (hr : meth.sig.returnType = (Option.some Jvm.ClassFile.FieldType.int)) (hml : c.maxLocals = 3) (hh : zH s) (hg : ∀ w ∈ lw_R, w.before args s = true) (hown : s.vm.findClass "ChanceArenaModel$Whole" = some m.cls) (hlocks : meth.locks = false) (hK : va_K D vwCl (zT tA) s) (hA : ∀ q, s.heap.size ≤ q → A q) {n : Nat} (ih1 : ∀ (l1 : Int32) (l2 : Int32) (H : Heap) (locs : List Loc) (ls : Array Slot), f_MW_places h0_parts_n h0_n h0_parts_c n 1 l1 l2 = some out → f0_h0[0]? = some (.ref h0_parts) → f0_h0[1]? = some (.int h0_n) → va_P D vwCl [(h0, .inr (19, f0_h0)), (h0_parts, .inl (tA 0, h0_parts_n, .inl h0_parts_c))] H → va_D A [(h0, .inr (19, f0_h0)), (h0_parts, .inl (tA 0, h0_parts_n, .inl h0_parts_c))] → va_S A s.heap H locs → lv_has ls 3 [(0, .ref h0), (1, .int l1), (2, .int l2)] → W p l e { frames := 0, cells := 0, slots := 0, locals := 0 } s m args below meth c H locs 0 0 (MQ below (va_Qi (fun (r9 : Int32) (u9 : Unit) => r9 = out) (zPost D A (fun (u9 : Unit) => [(h0, .inr (19, f0_h0)), (h0_parts, .inl (tA 0, h0_parts_n, .inl h0_parts_c))])) A) args s 0 0 A) (F0 m 33 ls [])) : ∀ (l1 : Int32) (l2 : Int32) (H : Heap) (locs : List Loc) (ls : Array Slot), f_MW_places h0_parts_n h0_n h0_parts_c (n + 1) 0 l1 l2 = some out → f0_h0[0]? = some (.ref h0_parts) → f0_h0[1]? = some (.int h0_n) → va_P D vwCl [(h0, .inr (19, f0_h0)), (h0_parts, .inl (tA 0, h0_parts_n, .inl h0_parts_c))] H → va_D A [(h0, .inr (19, f0_h0)), (h0_parts, .inl (tA 0, h0_parts_n, .inl h0_parts_c))] → va_S A s.heap H locs → lv_has ls 3 [(0, .ref h0)] → W p l e { frames := 0, cells := 0, slots := 0, locals := 0 } s m args below meth c H locs 0 0 (MQ below (va_Qi (fun (r9 : Int32) (u9 : Unit) => r9 = out) (zPost D A (fun (u9 : Unit) => [(h0, .inr (19, f0_h0)), (h0_parts, .inl (tA 0, h0_parts_n, .inl h0_parts_c))])) A) args s 0 0 A) (F0 m 0 ls []) := by
  intro l1 l2   H locs ls hF q_h0_parts q_h0_n hP hD hS hl
  rw [e_MW_places_0] at hF
  refine lv_bipush (v := 24) hx hb d_MW_places_0 (by decide) ?_
  refine lv_aload_n hx hb d_MW_places_2 rfl (lv_at hl 0 rfl) ?_
  refine va_get (D := D) (ci := 19) (v := .int h0_n) (C := R_MW) (T := T_MW) (N := 2) hx hb hg i_MW hown hK hP 0 rfl rfl 1 (by decide) (hg _ k9_135) (fun _ h9 => h9) q_h0_n d_MW_places_3 ?_
  refine lv_iconst (v := 1) hx hb d_MW_places_6 (by decide) ?_
  refine lv_isub hx hb d_MW_places_7 ?_
  refine lv_imul hx hb d_MW_places_8 ?_
  refine lv_istore_n (lv' := [(1, .int (24 * (h0_n - 1))), (0, .ref h0)]) hx hb d_MW_places_9 rfl hl (by decide) rfl (fun ls hl => ?_)
  refine lv_aload_n hx hb d_MW_places_10 rfl (lv_at hl 1 rfl) ?_
  refine va_get (D := D) (ci := 19) (v := .int h0_n) (C := R_MW) (T := T_MW) (N := 2) hx hb hg i_MW hown hK hP 0 rfl rfl 1 (by decide) (hg _ k9_135) (fun _ h9 => h9) q_h0_n d_MW_places_11 ?_
  refine lv_if_ne (tgt := 21) hx hb d_MW_places_14 (by decide) (fun c9 => ?_) (fun c9 => ?_)
  · replace hF := ifp c9 hF
    refine lv_aload_n hx hb d_MW_places_21 rfl (lv_at hl 1 rfl) ?_
    refine va_get (D := D) (ci := 19) (v := .ref h0_parts) (C := R_MW) (T := T_MW) (N := 2) hx hb hg i_MW hown hK hP 0 rfl rfl 0 (by decide) (hg _ k9_134) (fun _ h9 => h9) q_h0_parts d_MW_places_22 ?_
    refine lv_aload_n hx hb d_MW_places_25 rfl (lv_at hl 1 rfl) ?_
    refine va_get (D := D) (ci := 19) (v := .int h0_n) (C := R_MW) (T := T_MW) (N := 2) hx hb hg i_MW hown hK hP 0 rfl rfl 1 (by decide) (hg _ k9_135) (fun _ h9 => h9) q_h0_n d_MW_places_26 ?_
    refine lv_iconst (v := 1) hx hb d_MW_places_29 (by decide) ?_
    refine lv_isub hx hb d_MW_places_30 ?_
    obtain ⟨h9, hF⟩ := chk_some hF
    refine va_iald hx hb hK hP 1 0 rfl rfl (vp_in_iff.mpr h9) d_MW_places_31 ?_
    refine lv_istore_n (lv' := [(2, .int (h0_parts_c ((h0_n - 1) : Int32).toNatClampNeg)), (1, .int (24 * (h0_n - 1))), (0, .ref h0)]) hx hb d_MW_places_32 rfl hl (by decide) rfl (fun ls hl => ?_)
    exact ih1 (24 * (h0_n - 1)) (h0_parts_c ((h0_n - 1) : Int32).toNatClampNeg)   _ _ _ hF q_h0_parts q_h0_n hP hD hS (lv_sub hl [2, 1, 0] rfl)
  · replace hF := ifn (fun h9 => h9 c9) hF
    refine lv_iconst (v := 0) hx hb d_MW_places_17 (by decide) ?_
    refine lv_goto (tgt := 32) hx hb d_MW_places_18 (by decide) ?_
    refine lv_istore_n (lv' := [(2, .int 0), (1, .int (24 * (h0_n - 1))), (0, .ref h0)]) hx hb d_MW_places_32 rfl hl (by decide) rfl (fun ls hl => ?_)
    exact ih1 (24 * (h0_n - 1)) 0   _ _ _ hF q_h0_parts q_h0_n hP hD hS (lv_sub hl [2, 1, 0] rfl)
set_option maxHeartbeats 4000000 in
set_option maxRecDepth 100000 in
theorem b_MW_places_1 {p : Program} {l : Launch} {e : Env} {s : State} {m : MethodId} {args : Array Value} {below : List Frame} {meth : Method} {c : Code} {D : va_G} {tA : Nat → ClassId} {A : Nat → Prop} {h0 h0_parts : Nat} {f0_h0 : List Value} {h0_parts_n : Nat} {h0_n : Int32} {h0_parts_c : Nat → Int32} {out : Int32} (hx : p.tables.exec = Jvm.exec) (hb : c.code = prog_21_method_15_code) (hr : meth.sig.returnType = (Option.some Jvm.ClassFile.FieldType.int)) (hml : c.maxLocals = 3) (hh : zH s) (hg : ∀ w ∈ lw_R, w.before args s = true) (hown : s.vm.findClass "ChanceArenaModel$Whole" = some m.cls) (hlocks : meth.locks = false) (hK : va_K D vwCl (zT tA) s) (hA : ∀ q, s.heap.size ≤ q → A q) {n : Nat} (ih1 : ∀ (l1 : Int32) (l2 : Int32) (H : Heap) (locs : List Loc) (ls : Array Slot), f_MW_places h0_parts_n h0_n h0_parts_c n 1 l1 l2 = some out → f0_h0[0]? = some (.ref h0_parts) → f0_h0[1]? = some (.int h0_n) → va_P D vwCl [(h0, .inr (19, f0_h0)), (h0_parts, .inl (tA 0, h0_parts_n, .inl h0_parts_c))] H → va_D A [(h0, .inr (19, f0_h0)), (h0_parts, .inl (tA 0, h0_parts_n, .inl h0_parts_c))] → va_S A s.heap H locs → lv_has ls 3 [(0, .ref h0), (1, .int l1), (2, .int l2)] → W p l e { frames := 0, cells := 0, slots := 0, locals := 0 } s m args below meth c H locs 0 0 (MQ below (va_Qi (fun (r9 : Int32) (u9 : Unit) => r9 = out) (zPost D A (fun (u9 : Unit) => [(h0, .inr (19, f0_h0)), (h0_parts, .inl (tA 0, h0_parts_n, .inl h0_parts_c))])) A) args s 0 0 A) (F0 m 33 ls [])) : ∀ (l1 : Int32) (l2 : Int32) (H : Heap) (locs : List Loc) (ls : Array Slot), f_MW_places h0_parts_n h0_n h0_parts_c (n + 1) 1 l1 l2 = some out → f0_h0[0]? = some (.ref h0_parts) → f0_h0[1]? = some (.int h0_n) → va_P D vwCl [(h0, .inr (19, f0_h0)), (h0_parts, .inl (tA 0, h0_parts_n, .inl h0_parts_c))] H → va_D A [(h0, .inr (19, f0_h0)), (h0_parts, .inl (tA 0, h0_parts_n, .inl h0_parts_c))] → va_S A s.heap H locs → lv_has ls 3 [(0, .ref h0), (1, .int l1), (2, .int l2)] → W p l e { frames := 0, cells := 0, slots := 0, locals := 0 } s m args below meth c H locs 0 0 (MQ below (va_Qi (fun (r9 : Int32) (u9 : Unit) => r9 = out) (zPost D A (fun (u9 : Unit) => [(h0, .inr (19, f0_h0)), (h0_parts, .inl (tA 0, h0_parts_n, .inl h0_parts_c))])) A) args s 0 0 A) (F0 m 33 ls []) := by
  intro l1 l2   H locs ls hF q_h0_parts q_h0_n hP hD hS hl
  rw [e_MW_places_1] at hF
  refine lv_iload_n hx hb d_MW_places_33 rfl (lv_at hl 2 rfl) ?_
  refine lv_if_le (tgt := 47) hx hb d_MW_places_34 (by decide) (fun c9 => ?_) (fun c9 => ?_)
  · replace hF := ifp c9 hF
    refine lv_aload_n hx hb d_MW_places_47 rfl (lv_at hl 0 rfl) ?_
    refine va_get (D := D) (ci := 19) (v := .int h0_n) (C := R_MW) (T := T_MW) (N := 2) hx hb hg i_MW hown hK hP 0 rfl rfl 1 (by decide) (hg _ k9_135) (fun _ h9 => h9) q_h0_n d_MW_places_48 ?_
    refine lv_if_ne (tgt := 58) hx hb d_MW_places_51 (by decide) (fun c9 => ?_) (fun c9 => ?_)
    · replace hF := ifp c9 hF
      refine lv_iload_n hx hb d_MW_places_58 rfl (lv_at hl 1 rfl) ?_
      replace hF := Option.some.inj hF
      subst hF
      exact zZret (post := (fun (r9 : Int32) (u9 : Unit) => r9 = l1)) (W1 := (fun (u9 : Unit) => [(h0, .inr (19, f0_h0)), (h0_parts, .inl (tA 0, h0_parts_n, .inl h0_parts_c))])) (v := l1) hx hb hr rfl hlocks hP hD hS () rfl rfl d_MW_places_59
    · replace hF := ifn (fun h9 => h9 c9) hF
      refine lv_iconst (v := 0) hx hb d_MW_places_54 (by decide) ?_
      refine lv_goto (tgt := 59) hx hb d_MW_places_55 (by decide) ?_
      replace hF := Option.some.inj hF
      subst hF
      exact zZret (post := (fun (r9 : Int32) (u9 : Unit) => r9 = 0)) (W1 := (fun (u9 : Unit) => [(h0, .inr (19, f0_h0)), (h0_parts, .inl (tA 0, h0_parts_n, .inl h0_parts_c))])) (v := 0) hx hb hr rfl hlocks hP hD hS () rfl rfl d_MW_places_59
  · replace hF := ifn c9 hF
    refine lv_iinc (v := (l1 + Int32.ofInt 1)) (lv' := [(1, .int (l1 + Int32.ofInt 1)), (0, .ref h0), (2, .int l2)]) hx hb d_MW_places_37 hl (k := 1) rfl rfl (by decide) rfl (fun ls hl => ?_)
    refine lv_iload_n hx hb d_MW_places_40 rfl (lv_at hl 2 rfl) ?_
    refine lv_iconst (v := 2) hx hb d_MW_places_41 (by decide) ?_
    refine lv_idiv hx hb d_MW_places_42 (by decide) ?_
    refine lv_istore_n (lv' := [(2, .int (l2 / 2)), (1, .int (l1 + Int32.ofInt 1)), (0, .ref h0)]) hx hb d_MW_places_43 rfl hl (by decide) rfl (fun ls hl => ?_)
    refine lv_goto (tgt := 33) hx hb d_MW_places_44 (by decide) ?_
    exact ih1 (l1 + Int32.ofInt 1) (l2 / 2)   _ _ _ hF q_h0_parts q_h0_n hP hD hS (lv_sub hl [2, 1, 0] rfl)
set_option maxHeartbeats 4000000 in
set_option maxRecDepth 100000 in
theorem a_MW_places {p : Program} {l : Launch} {e : Env} {s : State} {m : MethodId} {args : Array Value} {below : List Frame} {meth : Method} {c : Code} {D : va_G} {tA : Nat → ClassId} {A : Nat → Prop} {h0 h0_parts : Nat} {f0_h0 : List Value} {h0_parts_n : Nat} {h0_n : Int32} {h0_parts_c : Nat → Int32} {out : Int32} (hx : p.tables.exec = Jvm.exec) (hb : c.code = prog_21_method_15_code) (hr : meth.sig.returnType = (Option.some Jvm.ClassFile.FieldType.int)) (hml : c.maxLocals = 3) (hh : zH s) (hg : ∀ w ∈ lw_R, w.before args s = true) (hown : s.vm.findClass "ChanceArenaModel$Whole" = some m.cls) (hlocks : meth.locks = false) (hK : va_K D vwCl (zT tA) s) (hA : ∀ q, s.heap.size ≤ q → A q) : ∀ n : Nat, (∀ (l1 : Int32) (l2 : Int32) (H : Heap) (locs : List Loc) (ls : Array Slot), f_MW_places h0_parts_n h0_n h0_parts_c n 0 l1 l2 = some out → f0_h0[0]? = some (.ref h0_parts) → f0_h0[1]? = some (.int h0_n) → va_P D vwCl [(h0, .inr (19, f0_h0)), (h0_parts, .inl (tA 0, h0_parts_n, .inl h0_parts_c))] H → va_D A [(h0, .inr (19, f0_h0)), (h0_parts, .inl (tA 0, h0_parts_n, .inl h0_parts_c))] → va_S A s.heap H locs → lv_has ls 3 [(0, .ref h0)] → W p l e { frames := 0, cells := 0, slots := 0, locals := 0 } s m args below meth c H locs 0 0 (MQ below (va_Qi (fun (r9 : Int32) (u9 : Unit) => r9 = out) (zPost D A (fun (u9 : Unit) => [(h0, .inr (19, f0_h0)), (h0_parts, .inl (tA 0, h0_parts_n, .inl h0_parts_c))])) A) args s 0 0 A) (F0 m 0 ls [])) ∧ (∀ (l1 : Int32) (l2 : Int32) (H : Heap) (locs : List Loc) (ls : Array Slot), f_MW_places h0_parts_n h0_n h0_parts_c n 1 l1 l2 = some out → f0_h0[0]? = some (.ref h0_parts) → f0_h0[1]? = some (.int h0_n) → va_P D vwCl [(h0, .inr (19, f0_h0)), (h0_parts, .inl (tA 0, h0_parts_n, .inl h0_parts_c))] H → va_D A [(h0, .inr (19, f0_h0)), (h0_parts, .inl (tA 0, h0_parts_n, .inl h0_parts_c))] → va_S A s.heap H locs → lv_has ls 3 [(0, .ref h0), (1, .int l1), (2, .int l2)] → W p l e { frames := 0, cells := 0, slots := 0, locals := 0 } s m args below meth c H locs 0 0 (MQ below (va_Qi (fun (r9 : Int32) (u9 : Unit) => r9 = out) (zPost D A (fun (u9 : Unit) => [(h0, .inr (19, f0_h0)), (h0_parts, .inl (tA 0, h0_parts_n, .inl h0_parts_c))])) A) args s 0 0 A) (F0 m 33 ls [])) := by
  intro n
  induction n with
  | zero => exact ⟨(fun _ _ _ _ _ hF => by rw [z_MW_places] at hF; cases hF), (fun _ _ _ _ _ hF => by rw [z_MW_places] at hF; cases hF)⟩
  | succ n ih =>
    obtain ⟨i0, i1⟩ := ih
    exact ⟨b_MW_places_0 hx hb hr hml hh hg hown hlocks hK hA i1, b_MW_places_1 hx hb hr hml hh hg hown hlocks hK hA i1⟩
set_option maxHeartbeats 4000000 in
set_option maxRecDepth 100000 in
theorem m_MW_places (l : Launch) (D : va_G) (tA : Nat → ClassId) (sz : Nat) (h0 h0_parts : Nat) (f0_h0 : List Value) (h0_parts_n : Nat) (h0_n : Int32) (h0_parts_c : Nat → Int32) (q_h0_parts : f0_h0[0]? = some (.ref h0_parts)) (q_h0_n : f0_h0[1]? = some (.int h0_n)) (n : Nat) (out : Int32) (hF : f_MW_places h0_parts_n h0_n h0_parts_c n 0 0 0 = some out) : zMi l ({ cls := "ChanceArenaModel$Whole", name := "places", desc := "()I" } : Jvm.MethodName) (zW (Jvm.Cond.code ({ cls := "ChanceArenaModel$Whole", name := "places", desc := "()I" } : Jvm.MethodName) prog_21_method_15_code (3 : Nat) (Option.some Jvm.ClassFile.FieldType.int))) { frames := 0, cells := 0, slots := 0, locals := 0 } [.ref h0] D tA [(h0, .inr (19, f0_h0)), (h0_parts, .inl (tA 0, h0_parts_n, .inl h0_parts_c))] sz (fun (r9 : Int32) (u9 : Unit) => r9 = out) (fun (u9 : Unit) => [(h0, .inr (19, f0_h0)), (h0_parts, .inl (tA 0, h0_parts_n, .inl h0_parts_c))]) 0 0 := by
  refine zOpen (l := l) (y := ({ cls := "ChanceArenaModel$Whole", name := "places", desc := "()I" } : Jvm.MethodName)) (ws := zW (Jvm.Cond.code ({ cls := "ChanceArenaModel$Whole", name := "places", desc := "()I" } : Jvm.MethodName) prog_21_method_15_code (3 : Nat) (Option.some Jvm.ClassFile.FieldType.int))) (rm := { frames := 0, cells := 0, slots := 0, locals := 0 }) (av := [.ref h0]) (D := D) (tA := tA) (W0 := [(h0, .inr (19, f0_h0)), (h0_parts, .inl (tA 0, h0_parts_n, .inl h0_parts_c))]) (Wm := [(h0, .inr (19, f0_h0)), (h0_parts, .inl (tA 0, h0_parts_n, .inl h0_parts_c))]) (sz := sz) (mc := 0) (ms := 0) (fun A => va_Qi (fun (r9 : Int32) (u9 : Unit) => r9 = out) (zPost D A (fun (u9 : Unit) => [(h0, .inr (19, f0_h0)), (h0_parts, .inl (tA 0, h0_parts_n, .inl h0_parts_c))])) A) (lv := [(0, .ref h0)]) (by decide) rfl (Nat.le_of_ble_eq_true rfl) rfl ?_
  intro p e s m below meth c A ls hx hb hr hml hh hg hown hlocks hnm hK hA hP hD0 hAw hS hl
  have hD := zD hD0 hAw
  exact (a_MW_places hx hb hr hml hh hg hown hlocks hK hA n).1 0 0   _ _ _ hF q_h0_parts q_h0_n hP hD hS hl
def f_MW_bit (h0_parts_n : Nat) (l1 : Int32) (h0_n : Int32) (h0_parts_c : Nat → Int32) : Option (Int32) := if (h0_n : Int32) ≤ (l1 / 24) then some (0) else chk (0 ≤ ((l1 / 24) : Int32).toInt ∧ ((l1 / 24) : Int32).toInt < h0_parts_n) (if ¬ ((((h0_parts_c ((l1 / 24) : Int32).toNatClampNeg) >>> ((l1 - l1 / 24 * 24) &&& 31)) &&& 1) : Int32) = 1 then some (0) else some (1))
set_option maxHeartbeats 4000000 in
set_option maxRecDepth 100000 in
theorem b_MW_bit_0 {p : Program} {l : Launch} {e : Env} {s : State} {m : MethodId} {args : Array Value} {below : List Frame} {meth : Method} {c : Code} {D : va_G} {tA : Nat → ClassId} {A : Nat → Prop} {h0 h0_parts : Nat} {f0_h0 : List Value} {h0_parts_n : Nat} {l1 : Int32} {h0_n : Int32} {h0_parts_c : Nat → Int32} {out : Int32} (hx : p.tables.exec = Jvm.exec) (hb : c.code = prog_21_method_16_code) (hr : meth.sig.returnType = (Option.some Jvm.ClassFile.FieldType.boolean)) (hml : c.maxLocals = 2) (hh : zH s) (hg : ∀ w ∈ lw_R, w.before args s = true) (hown : s.vm.findClass "ChanceArenaModel$Whole" = some m.cls) (hlocks : meth.locks = false) (hK : va_K D vwCl (zT tA) s) (hA : ∀ q, s.heap.size ≤ q → A q)  : ∀ (H : Heap) (locs : List Loc) (ls : Array Slot), f_MW_bit h0_parts_n l1 h0_n h0_parts_c = some out → f0_h0[0]? = some (.ref h0_parts) → f0_h0[1]? = some (.int h0_n) → va_P D vwCl [(h0, .inr (19, f0_h0)), (h0_parts, .inl (tA 0, h0_parts_n, .inl h0_parts_c))] H → va_D A [(h0, .inr (19, f0_h0)), (h0_parts, .inl (tA 0, h0_parts_n, .inl h0_parts_c))] → va_S A s.heap H locs → lv_has ls 2 [(0, .ref h0), (1, .int l1)] → W p l e { frames := 0, cells := 0, slots := 0, locals := 0 } s m args below meth c H locs 0 0 (MQ below (va_Qi (fun (r9 : Int32) (u9 : Unit) => r9 = out) (zPost D A (fun (u9 : Unit) => [(h0, .inr (19, f0_h0)), (h0_parts, .inl (tA 0, h0_parts_n, .inl h0_parts_c))])) A) args s 0 0 A) (F0 m 0 ls []) := by
  intro    H locs ls hF q_h0_parts q_h0_n hP hD hS hl
  replace hF : ((if (h0_n : Int32) ≤ (l1 / 24) then some (0) else chk (0 ≤ ((l1 / 24) : Int32).toInt ∧ ((l1 / 24) : Int32).toInt < h0_parts_n) (if ¬ ((((h0_parts_c ((l1 / 24) : Int32).toNatClampNeg) >>> ((l1 - l1 / 24 * 24) &&& 31)) &&& 1) : Int32) = 1 then some (0) else some (1))) : Option (Int32)) = some out := hF
  refine lv_iload_n hx hb d_MW_bit_0 rfl (lv_at hl 1 rfl) ?_
  refine lv_bipush (v := 24) hx hb d_MW_bit_1 (by decide) ?_
  refine lv_idiv hx hb d_MW_bit_3 (by decide) ?_
  refine lv_aload_n hx hb d_MW_bit_4 rfl (lv_at hl 0 rfl) ?_
  refine va_get (D := D) (ci := 19) (v := .int h0_n) (C := R_MW) (T := T_MW) (N := 2) hx hb hg i_MW hown hK hP 0 rfl rfl 1 (by decide) (hg _ k9_135) (fun _ h9 => h9) q_h0_n d_MW_bit_5 ?_
  refine lv_icmp_ge (tgt := 35) hx hb d_MW_bit_8 (by decide) (fun c9 => ?_) (fun c9 => ?_)
  · replace hF := ifp c9 hF
    refine lv_iconst (v := 0) hx hb d_MW_bit_35 (by decide) ?_
    replace hF := Option.some.inj hF
    subst hF
    exact zZret (post := (fun (r9 : Int32) (u9 : Unit) => r9 = 0)) (W1 := (fun (u9 : Unit) => [(h0, .inr (19, f0_h0)), (h0_parts, .inl (tA 0, h0_parts_n, .inl h0_parts_c))])) (v := 0) hx hb hr rfl hlocks hP hD hS () rfl rfl d_MW_bit_36
  · replace hF := ifn c9 hF
    refine lv_aload_n hx hb d_MW_bit_11 rfl (lv_at hl 0 rfl) ?_
    refine va_get (D := D) (ci := 19) (v := .ref h0_parts) (C := R_MW) (T := T_MW) (N := 2) hx hb hg i_MW hown hK hP 0 rfl rfl 0 (by decide) (hg _ k9_134) (fun _ h9 => h9) q_h0_parts d_MW_bit_12 ?_
    refine lv_iload_n hx hb d_MW_bit_15 rfl (lv_at hl 1 rfl) ?_
    refine lv_bipush (v := 24) hx hb d_MW_bit_16 (by decide) ?_
    refine lv_idiv hx hb d_MW_bit_18 (by decide) ?_
    obtain ⟨h9, hF⟩ := chk_some hF
    refine va_iald hx hb hK hP 1 0 rfl rfl (vp_in_iff.mpr h9) d_MW_bit_19 ?_
    refine lv_iload_n hx hb d_MW_bit_20 rfl (lv_at hl 1 rfl) ?_
    refine lv_bipush (v := 24) hx hb d_MW_bit_21 (by decide) ?_
    refine lv_irem hx hb d_MW_bit_23 (by decide) ?_
    refine lv_ishr hx hb d_MW_bit_24 ?_
    refine lv_iconst (v := 1) hx hb d_MW_bit_25 (by decide) ?_
    refine lv_iand hx hb d_MW_bit_26 ?_
    refine lv_iconst (v := 1) hx hb d_MW_bit_27 (by decide) ?_
    refine lv_icmp_ne (tgt := 35) hx hb d_MW_bit_28 (by decide) (fun c9 => ?_) (fun c9 => ?_)
    · replace hF := ifp c9 hF
      refine lv_iconst (v := 0) hx hb d_MW_bit_35 (by decide) ?_
      replace hF := Option.some.inj hF
      subst hF
      exact zZret (post := (fun (r9 : Int32) (u9 : Unit) => r9 = 0)) (W1 := (fun (u9 : Unit) => [(h0, .inr (19, f0_h0)), (h0_parts, .inl (tA 0, h0_parts_n, .inl h0_parts_c))])) (v := 0) hx hb hr rfl hlocks hP hD hS () rfl rfl d_MW_bit_36
    · replace hF := ifn (fun h9 => h9 c9) hF
      refine lv_iconst (v := 1) hx hb d_MW_bit_31 (by decide) ?_
      refine lv_goto (tgt := 36) hx hb d_MW_bit_32 (by decide) ?_
      replace hF := Option.some.inj hF
      subst hF
      exact zZret (post := (fun (r9 : Int32) (u9 : Unit) => r9 = 1)) (W1 := (fun (u9 : Unit) => [(h0, .inr (19, f0_h0)), (h0_parts, .inl (tA 0, h0_parts_n, .inl h0_parts_c))])) (v := 1) hx hb hr rfl hlocks hP hD hS () rfl rfl d_MW_bit_36
set_option maxHeartbeats 4000000 in
set_option maxRecDepth 100000 in
theorem m_MW_bit (l : Launch) (D : va_G) (tA : Nat → ClassId) (sz : Nat) (h0 h0_parts : Nat) (f0_h0 : List Value) (h0_parts_n : Nat) (l1 : Int32) (h0_n : Int32) (h0_parts_c : Nat → Int32) (q_h0_parts : f0_h0[0]? = some (.ref h0_parts)) (q_h0_n : f0_h0[1]? = some (.int h0_n)) (out : Int32) (hF : f_MW_bit h0_parts_n l1 h0_n h0_parts_c = some out) : zMi l ({ cls := "ChanceArenaModel$Whole", name := "bit", desc := "(I)Z" } : Jvm.MethodName) (zW (Jvm.Cond.code ({ cls := "ChanceArenaModel$Whole", name := "bit", desc := "(I)Z" } : Jvm.MethodName) prog_21_method_16_code (2 : Nat) (Option.some Jvm.ClassFile.FieldType.boolean))) { frames := 0, cells := 0, slots := 0, locals := 0 } [.ref h0, .int l1] D tA [(h0, .inr (19, f0_h0)), (h0_parts, .inl (tA 0, h0_parts_n, .inl h0_parts_c))] sz (fun (r9 : Int32) (u9 : Unit) => r9 = out) (fun (u9 : Unit) => [(h0, .inr (19, f0_h0)), (h0_parts, .inl (tA 0, h0_parts_n, .inl h0_parts_c))]) 0 0 := by
  refine zOpen (l := l) (y := ({ cls := "ChanceArenaModel$Whole", name := "bit", desc := "(I)Z" } : Jvm.MethodName)) (ws := zW (Jvm.Cond.code ({ cls := "ChanceArenaModel$Whole", name := "bit", desc := "(I)Z" } : Jvm.MethodName) prog_21_method_16_code (2 : Nat) (Option.some Jvm.ClassFile.FieldType.boolean))) (rm := { frames := 0, cells := 0, slots := 0, locals := 0 }) (av := [.ref h0, .int l1]) (D := D) (tA := tA) (W0 := [(h0, .inr (19, f0_h0)), (h0_parts, .inl (tA 0, h0_parts_n, .inl h0_parts_c))]) (Wm := [(h0, .inr (19, f0_h0)), (h0_parts, .inl (tA 0, h0_parts_n, .inl h0_parts_c))]) (sz := sz) (mc := 0) (ms := 0) (fun A => va_Qi (fun (r9 : Int32) (u9 : Unit) => r9 = out) (zPost D A (fun (u9 : Unit) => [(h0, .inr (19, f0_h0)), (h0_parts, .inl (tA 0, h0_parts_n, .inl h0_parts_c))])) A) (lv := [(0, .ref h0), (1, .int l1)]) (by decide) rfl (Nat.le_of_ble_eq_true rfl) rfl ?_
  intro p e s m below meth c A ls hx hb hr hml hh hg hown hlocks hnm hK hA hP hD0 hAw hS hl
  have hD := zD hD0 hAw
  exact b_MW_bit_0 hx hb hr hml hh hg hown hlocks hK hA    _ _ _ hF q_h0_parts q_h0_n hP hD hS hl
def f_MW_tenth (h0_parts_n : Nat) : Nat → Nat → Int32 → (Nat → Int32) → Int32 → Int32 → Option (Int32 × Int32 × (Nat → Int32))
  | 0, _, _, _, _, _ => none
  | n + 1, 0, h0_n, h0_parts_c, l1, l2 => chk True (f_MW_tenth h0_parts_n n 1 h0_n h0_parts_c 0 (h0_n - 1))
  | n + 1, 1, h0_n, h0_parts_c, l1, l2 => if (l2 : Int32) < 0 then Option.bind (f_MW_trim h0_parts_n h0_parts_c n 0 h0_n) (fun o1 => some (l1, o1, h0_parts_c)) else chk (0 ≤ (l2 : Int32).toInt ∧ (l2 : Int32).toInt < h0_parts_n) (chk (0 ≤ (l2 : Int32).toInt ∧ (l2 : Int32).toInt < h0_parts_n) (f_MW_tenth h0_parts_n n 1 h0_n (upd h0_parts_c (l2 : Int32).toNatClampNeg (((l1 * 16777216) + (h0_parts_c (l2 : Int32).toNatClampNeg)) / 10)) (((l1 * 16777216) + (h0_parts_c (l2 : Int32).toNatClampNeg)) - ((l1 * 16777216) + (h0_parts_c (l2 : Int32).toNatClampNeg)) / 10 * 10) (l2 + Int32.ofInt (-1))))
  | _ + 1, _ + 2, _, _, _, _ => none
theorem e_MW_tenth_0 (h0_parts_n : Nat) (n : Nat) (h0_n : Int32) (h0_parts_c : Nat → Int32) (l1 : Int32) (l2 : Int32) : f_MW_tenth h0_parts_n (n + 1) 0 h0_n h0_parts_c l1 l2 = chk True (f_MW_tenth h0_parts_n n 1 h0_n h0_parts_c 0 (h0_n - 1)) := by rw [f_MW_tenth]
theorem e_MW_tenth_1 (h0_parts_n : Nat) (n : Nat) (h0_n : Int32) (h0_parts_c : Nat → Int32) (l1 : Int32) (l2 : Int32) : f_MW_tenth h0_parts_n (n + 1) 1 h0_n h0_parts_c l1 l2 = if (l2 : Int32) < 0 then Option.bind (f_MW_trim h0_parts_n h0_parts_c n 0 h0_n) (fun o1 => some (l1, o1, h0_parts_c)) else chk (0 ≤ (l2 : Int32).toInt ∧ (l2 : Int32).toInt < h0_parts_n) (chk (0 ≤ (l2 : Int32).toInt ∧ (l2 : Int32).toInt < h0_parts_n) (f_MW_tenth h0_parts_n n 1 h0_n (upd h0_parts_c (l2 : Int32).toNatClampNeg (((l1 * 16777216) + (h0_parts_c (l2 : Int32).toNatClampNeg)) / 10)) (((l1 * 16777216) + (h0_parts_c (l2 : Int32).toNatClampNeg)) - ((l1 * 16777216) + (h0_parts_c (l2 : Int32).toNatClampNeg)) / 10 * 10) (l2 + Int32.ofInt (-1)))) := by rw [f_MW_tenth]
theorem z_MW_tenth (h0_parts_n : Nat) (h : Nat) (h0_n : Int32) (h0_parts_c : Nat → Int32) (l1 : Int32) (l2 : Int32) : f_MW_tenth h0_parts_n 0 h h0_n h0_parts_c l1 l2 = none := by rw [f_MW_tenth]
set_option maxHeartbeats 4000000 in
set_option maxRecDepth 100000 in
theorem b_MW_tenth_0 {p : Program} {l : Launch} {e : Env} {s : State} {m : MethodId} {args : Array Value} {below : List Frame} {meth : Method} {c : Code} {D : va_G} {tA : Nat → ClassId} {A : Nat → Prop} {h0 h0_parts : Nat} {f0_h0 : List Value} {h0_parts_n : Nat} {out : Int32 × Int32 × (Nat → Int32)} (hx : p.tables.exec = Jvm.exec) (hb : c.code = prog_21_method_18_code) (hr : meth.sig.returnType = (Option.some Jvm.ClassFile.FieldType.int)) (hml : c.maxLocals = 4) (hh : zH s) (hg : ∀ w ∈ lw_R, w.before args s = true) (hown : s.vm.findClass "ChanceArenaModel$Whole" = some m.cls) (hlocks : meth.locks = false) (hK : va_K D vwCl (zT tA) s) (hA : ∀ q, s.heap.size ≤ q → A q) {n : Nat} (ih1 : ∀ (h0_n : Int32) (h0_parts_c : Nat → Int32) (l1 : Int32) (l2 : Int32) (f_h0 : List Value) (H : Heap) (locs : List Loc) (ls : Array Slot), f_MW_tenth h0_parts_n n 1 h0_n h0_parts_c l1 l2 = some out → f_h0[0]? = some (.ref h0_parts) → f_h0[1]? = some (.int h0_n) → Fr [1] f0_h0 f_h0 → va_P D vwCl [(h0, .inr (19, f_h0)), (h0_parts, .inl (tA 0, h0_parts_n, .inl h0_parts_c))] H → va_D A [(h0, .inr (19, f_h0)), (h0_parts, .inl (tA 0, h0_parts_n, .inl h0_parts_c))] → va_S A s.heap H locs → lv_has ls 4 [(0, .ref h0), (1, .int l1), (2, .int l2)] → W p l e { frames := 1, cells := 0, slots := 0, locals := 20 } s m args below meth c H locs 0 0 (MQ below (va_Qi (fun (r9 : Int32) (u9 : List Value) => r9 = out.1 ∧ Fr [1] f0_h0 u9 ∧ u9[1]? = some (.int out.2.1)) (zPost D A (fun (u9 : List Value) => [(h0, .inr (19, u9)), (h0_parts, .inl (tA 0, h0_parts_n, .inl out.2.2))])) A) args s 0 0 A) (F0 m 9 ls [])) : ∀ (h0_n : Int32) (h0_parts_c : Nat → Int32) (l1 : Int32) (l2 : Int32) (f_h0 : List Value) (H : Heap) (locs : List Loc) (ls : Array Slot), f_MW_tenth h0_parts_n (n + 1) 0 h0_n h0_parts_c l1 l2 = some out → f_h0[0]? = some (.ref h0_parts) → f_h0[1]? = some (.int h0_n) → Fr [1] f0_h0 f_h0 → va_P D vwCl [(h0, .inr (19, f_h0)), (h0_parts, .inl (tA 0, h0_parts_n, .inl h0_parts_c))] H → va_D A [(h0, .inr (19, f_h0)), (h0_parts, .inl (tA 0, h0_parts_n, .inl h0_parts_c))] → va_S A s.heap H locs → lv_has ls 4 [(0, .ref h0)] → W p l e { frames := 1, cells := 0, slots := 0, locals := 20 } s m args below meth c H locs 0 0 (MQ below (va_Qi (fun (r9 : Int32) (u9 : List Value) => r9 = out.1 ∧ Fr [1] f0_h0 u9 ∧ u9[1]? = some (.int out.2.1)) (zPost D A (fun (u9 : List Value) => [(h0, .inr (19, u9)), (h0_parts, .inl (tA 0, h0_parts_n, .inl out.2.2))])) A) args s 0 0 A) (F0 m 0 ls []) := by
  intro h0_n h0_parts_c l1 l2  f_h0 H locs ls hF q_h0_parts q_h0_n r_h0 hP hD hS hl
  rw [e_MW_tenth_0] at hF
  obtain ⟨_, hF⟩ := chk_some hF
  refine lv_iconst (v := 0) hx hb d_MW_tenth_0 (by decide) ?_
  refine lv_istore_n (lv' := [(1, .int 0), (0, .ref h0)]) hx hb d_MW_tenth_1 rfl hl (by decide) rfl (fun ls hl => ?_)
  refine lv_aload_n hx hb d_MW_tenth_2 rfl (lv_at hl 1 rfl) ?_
  refine va_get (D := D) (ci := 19) (v := .int h0_n) (C := R_MW) (T := T_MW) (N := 2) hx hb hg i_MW hown hK hP 0 rfl rfl 1 (by decide) (hg _ k9_135) (fun _ h9 => h9) q_h0_n d_MW_tenth_3 ?_
  refine lv_iconst (v := 1) hx hb d_MW_tenth_6 (by decide) ?_
  refine lv_isub hx hb d_MW_tenth_7 ?_
  refine lv_istore_n (lv' := [(2, .int (h0_n - 1)), (1, .int 0), (0, .ref h0)]) hx hb d_MW_tenth_8 rfl hl (by decide) rfl (fun ls hl => ?_)
  exact ih1 h0_n h0_parts_c 0 (h0_n - 1)  f_h0 _ _ _ hF q_h0_parts q_h0_n r_h0 hP hD hS (lv_sub hl [2, 1, 0] rfl)
set_option maxHeartbeats 4000000 in
set_option maxRecDepth 100000 in
theorem b_MW_tenth_1 {p : Program} {l : Launch} {e : Env} {s : State} {m : MethodId} {args : Array Value} {below : List Frame} {meth : Method} {c : Code} {D : va_G} {tA : Nat → ClassId} {A : Nat → Prop} {h0 h0_parts : Nat} {f0_h0 : List Value} {h0_parts_n : Nat} {out : Int32 × Int32 × (Nat → Int32)} (hx : p.tables.exec = Jvm.exec) (hb : c.code = prog_21_method_18_code) (hr : meth.sig.returnType = (Option.some Jvm.ClassFile.FieldType.int)) (hml : c.maxLocals = 4) (hh : zH s) (hg : ∀ w ∈ lw_R, w.before args s = true) (hown : s.vm.findClass "ChanceArenaModel$Whole" = some m.cls) (hlocks : meth.locks = false) (hK : va_K D vwCl (zT tA) s) (hA : ∀ q, s.heap.size ≤ q → A q) {n : Nat} (ih1 : ∀ (h0_n : Int32) (h0_parts_c : Nat → Int32) (l1 : Int32) (l2 : Int32) (f_h0 : List Value) (H : Heap) (locs : List Loc) (ls : Array Slot), f_MW_tenth h0_parts_n n 1 h0_n h0_parts_c l1 l2 = some out → f_h0[0]? = some (.ref h0_parts) → f_h0[1]? = some (.int h0_n) → Fr [1] f0_h0 f_h0 → va_P D vwCl [(h0, .inr (19, f_h0)), (h0_parts, .inl (tA 0, h0_parts_n, .inl h0_parts_c))] H → va_D A [(h0, .inr (19, f_h0)), (h0_parts, .inl (tA 0, h0_parts_n, .inl h0_parts_c))] → va_S A s.heap H locs → lv_has ls 4 [(0, .ref h0), (1, .int l1), (2, .int l2)] → W p l e { frames := 1, cells := 0, slots := 0, locals := 20 } s m args below meth c H locs 0 0 (MQ below (va_Qi (fun (r9 : Int32) (u9 : List Value) => r9 = out.1 ∧ Fr [1] f0_h0 u9 ∧ u9[1]? = some (.int out.2.1)) (zPost D A (fun (u9 : List Value) => [(h0, .inr (19, u9)), (h0_parts, .inl (tA 0, h0_parts_n, .inl out.2.2))])) A) args s 0 0 A) (F0 m 9 ls [])) : ∀ (h0_n : Int32) (h0_parts_c : Nat → Int32) (l1 : Int32) (l2 : Int32) (f_h0 : List Value) (H : Heap) (locs : List Loc) (ls : Array Slot), f_MW_tenth h0_parts_n (n + 1) 1 h0_n h0_parts_c l1 l2 = some out → f_h0[0]? = some (.ref h0_parts) → f_h0[1]? = some (.int h0_n) → Fr [1] f0_h0 f_h0 → va_P D vwCl [(h0, .inr (19, f_h0)), (h0_parts, .inl (tA 0, h0_parts_n, .inl h0_parts_c))] H → va_D A [(h0, .inr (19, f_h0)), (h0_parts, .inl (tA 0, h0_parts_n, .inl h0_parts_c))] → va_S A s.heap H locs → lv_has ls 4 [(0, .ref h0), (1, .int l1), (2, .int l2)] → W p l e { frames := 1, cells := 0, slots := 0, locals := 20 } s m args below meth c H locs 0 0 (MQ below (va_Qi (fun (r9 : Int32) (u9 : List Value) => r9 = out.1 ∧ Fr [1] f0_h0 u9 ∧ u9[1]? = some (.int out.2.1)) (zPost D A (fun (u9 : List Value) => [(h0, .inr (19, u9)), (h0_parts, .inl (tA 0, h0_parts_n, .inl out.2.2))])) A) args s 0 0 A) (F0 m 9 ls []) := by
  intro h0_n h0_parts_c l1 l2  f_h0 H locs ls hF q_h0_parts q_h0_n r_h0 hP hD hS hl
  rw [e_MW_tenth_1] at hF
  refine lv_iload_n hx hb d_MW_tenth_9 rfl (lv_at hl 2 rfl) ?_
  refine lv_if_lt (tgt := 46) hx hb d_MW_tenth_10 (by decide) (fun c9 => ?_) (fun c9 => ?_)
  · replace hF := ifp c9 hF
    refine lv_aload_n hx hb d_MW_tenth_46 rfl (lv_at hl 0 rfl) ?_
    obtain ⟨o1, h1, hF⟩ := bsome hF
    refine zCallv (wc := [(h0, .inr (19, f_h0)), (h0_parts, .inl (tA 0, h0_parts_n, .inl h0_parts_c))]) (wr := []) hP hD hS hA [0, 1] [] rfl rfl (by decide) (by decide) (va_runV (As := []) (rest := []) ⟨hx, hb, hml, hown, hg⟩ (m_MW_trim l D tA _ h0 h0_parts f_h0 h0_parts_n h0_parts_c h0_n q_h0_parts q_h0_n n o1 h1) (zV 0 hg k12_219 k12_221 ks_MW_trim k1_20 k12_222 rfl rfl (by decide +kernel) ⟨(Nat.le_of_ble_eq_true rfl), (Nat.le_of_ble_eq_true rfl)⟩) (zPreV hh hK hP hD [0, 1] (by decide) rfl (ci := 19) rfl 0 rfl) rfl rfl hl.1 rfl (lv_room (Nat.le_of_ble_eq_true rfl)) d_MW_tenth_47 ⟨(Nat.le_of_ble_eq_true rfl), (Nat.le_of_ble_eq_true rfl)⟩) (fun v1_h0 H1 locs1 e1 hP1 hD1 hS1 => ?_)
    clear hP hD hS
    refine W.cs (cells' := 0) (slots' := 0) rfl rfl ?_
    obtain ⟨r1_h0, q1_h0_n⟩ := e1
    replace hP1 : va_P D vwCl [(h0, .inr (19, v1_h0)), (h0_parts, .inl (tA 0, h0_parts_n, .inl h0_parts_c))] _ := hP1
    replace hD1 : va_D A [(h0, .inr (19, v1_h0)), (h0_parts, .inl (tA 0, h0_parts_n, .inl h0_parts_c))] := hD1
    refine lv_iload_n hx hb d_MW_tenth_50 rfl (lv_at hl 1 rfl) ?_
    replace hF := Option.some.inj hF
    subst hF
    exact zZret (post := (fun (r9 : Int32) (u9 : List Value) => r9 = (l1, o1, h0_parts_c).1 ∧ Fr [1] f0_h0 u9 ∧ u9[1]? = some (.int ((l1, o1, h0_parts_c).2.1)))) (W1 := (fun (u9 : List Value) => [(h0, .inr (19, u9)), (h0_parts, .inl (tA 0, h0_parts_n, .inl ((l1, o1, h0_parts_c).2.2)))])) (v := l1) hx hb hr rfl hlocks hP1 hD1 hS1 (v1_h0) ⟨rfl, (Fr.trans r_h0 (Fr.sub r1_h0 (by decide))), q1_h0_n⟩ rfl d_MW_tenth_51
  · replace hF := ifn c9 hF
    refine lv_iload_n hx hb d_MW_tenth_13 rfl (lv_at hl 1 rfl) ?_
    refine lv_ldc (v := 16777216) hx hb hown (hg _ k12_231) d_MW_tenth_14 ?_
    refine lv_imul hx hb d_MW_tenth_16 ?_
    refine lv_aload_n hx hb d_MW_tenth_17 rfl (lv_at hl 0 rfl) ?_
    refine va_get (D := D) (ci := 19) (v := .ref h0_parts) (C := R_MW) (T := T_MW) (N := 2) hx hb hg i_MW hown hK hP 0 rfl rfl 0 (by decide) (hg _ k9_134) (fun _ h9 => h9) q_h0_parts d_MW_tenth_18 ?_
    refine lv_iload_n hx hb d_MW_tenth_21 rfl (lv_at hl 2 rfl) ?_
    obtain ⟨h9, hF⟩ := chk_some hF
    refine va_iald hx hb hK hP 1 0 rfl rfl (vp_in_iff.mpr h9) d_MW_tenth_22 ?_
    refine lv_iadd hx hb d_MW_tenth_23 ?_
    refine lv_istore_n (lv' := [(3, .int ((l1 * 16777216) + (h0_parts_c (l2 : Int32).toNatClampNeg))), (0, .ref h0), (1, .int l1), (2, .int l2)]) hx hb d_MW_tenth_24 rfl hl (by decide) rfl (fun ls hl => ?_)
    refine lv_aload_n hx hb d_MW_tenth_25 rfl (lv_at hl 1 rfl) ?_
    refine va_get (D := D) (ci := 19) (v := .ref h0_parts) (C := R_MW) (T := T_MW) (N := 2) hx hb hg i_MW hown hK hP 0 rfl rfl 0 (by decide) (hg _ k9_134) (fun _ h9 => h9) q_h0_parts d_MW_tenth_26 ?_
    refine lv_iload_n hx hb d_MW_tenth_29 rfl (lv_at hl 3 rfl) ?_
    refine lv_iload_n hx hb d_MW_tenth_30 rfl (lv_at hl 0 rfl) ?_
    refine lv_bipush (v := 10) hx hb d_MW_tenth_31 (by decide) ?_
    refine lv_idiv hx hb d_MW_tenth_33 (by decide) ?_
    obtain ⟨h9, hF⟩ := chk_some hF
    refine va_iast hx hb hK hP hD hS 1 0 rfl rfl (vp_in_iff.mpr h9) d_MW_tenth_34 (fun H1 locs1 hP1 hD1 hS1 => ?_)
    clear hP hD hS
    replace hP1 : va_P D vwCl [(h0, .inr (19, f_h0)), (h0_parts, .inl (tA 0, h0_parts_n, .inl (upd h0_parts_c (l2 : Int32).toNatClampNeg (((l1 * 16777216) + (h0_parts_c (l2 : Int32).toNatClampNeg)) / 10))))] _ := hP1
    replace hD1 : va_D A [(h0, .inr (19, f_h0)), (h0_parts, .inl (tA 0, h0_parts_n, .inl (upd h0_parts_c (l2 : Int32).toNatClampNeg (((l1 * 16777216) + (h0_parts_c (l2 : Int32).toNatClampNeg)) / 10))))] := hD1
    refine lv_iload_n hx hb d_MW_tenth_35 rfl (lv_at hl 0 rfl) ?_
    refine lv_bipush (v := 10) hx hb d_MW_tenth_36 (by decide) ?_
    refine lv_irem hx hb d_MW_tenth_38 (by decide) ?_
    refine lv_istore_n (lv' := [(1, .int (((l1 * 16777216) + (h0_parts_c (l2 : Int32).toNatClampNeg)) - ((l1 * 16777216) + (h0_parts_c (l2 : Int32).toNatClampNeg)) / 10 * 10)), (3, .int ((l1 * 16777216) + (h0_parts_c (l2 : Int32).toNatClampNeg))), (0, .ref h0), (2, .int l2)]) hx hb d_MW_tenth_39 rfl hl (by decide) rfl (fun ls hl => ?_)
    refine lv_iinc (v := (l2 + Int32.ofInt (-1))) (lv' := [(2, .int (l2 + Int32.ofInt (-1))), (1, .int (((l1 * 16777216) + (h0_parts_c (l2 : Int32).toNatClampNeg)) - ((l1 * 16777216) + (h0_parts_c (l2 : Int32).toNatClampNeg)) / 10 * 10)), (3, .int ((l1 * 16777216) + (h0_parts_c (l2 : Int32).toNatClampNeg))), (0, .ref h0)]) hx hb d_MW_tenth_40 hl (k := 3) rfl rfl (by decide) rfl (fun ls hl => ?_)
    refine lv_goto (tgt := 9) hx hb d_MW_tenth_43 (by decide) ?_
    exact ih1 h0_n (upd h0_parts_c (l2 : Int32).toNatClampNeg (((l1 * 16777216) + (h0_parts_c (l2 : Int32).toNatClampNeg)) / 10)) (((l1 * 16777216) + (h0_parts_c (l2 : Int32).toNatClampNeg)) - ((l1 * 16777216) + (h0_parts_c (l2 : Int32).toNatClampNeg)) / 10 * 10) (l2 + Int32.ofInt (-1))  f_h0 _ _ _ hF q_h0_parts q_h0_n r_h0 hP1 hD1 hS1 (lv_sub hl [3, 1, 0] rfl)
set_option maxHeartbeats 4000000 in
set_option maxRecDepth 100000 in
theorem a_MW_tenth {p : Program} {l : Launch} {e : Env} {s : State} {m : MethodId} {args : Array Value} {below : List Frame} {meth : Method} {c : Code} {D : va_G} {tA : Nat → ClassId} {A : Nat → Prop} {h0 h0_parts : Nat} {f0_h0 : List Value} {h0_parts_n : Nat} {out : Int32 × Int32 × (Nat → Int32)} (hx : p.tables.exec = Jvm.exec) (hb : c.code = prog_21_method_18_code) (hr : meth.sig.returnType = (Option.some Jvm.ClassFile.FieldType.int)) (hml : c.maxLocals = 4) (hh : zH s) (hg : ∀ w ∈ lw_R, w.before args s = true) (hown : s.vm.findClass "ChanceArenaModel$Whole" = some m.cls) (hlocks : meth.locks = false) (hK : va_K D vwCl (zT tA) s) (hA : ∀ q, s.heap.size ≤ q → A q) : ∀ n : Nat, (∀ (h0_n : Int32) (h0_parts_c : Nat → Int32) (l1 : Int32) (l2 : Int32) (f_h0 : List Value) (H : Heap) (locs : List Loc) (ls : Array Slot), f_MW_tenth h0_parts_n n 0 h0_n h0_parts_c l1 l2 = some out → f_h0[0]? = some (.ref h0_parts) → f_h0[1]? = some (.int h0_n) → Fr [1] f0_h0 f_h0 → va_P D vwCl [(h0, .inr (19, f_h0)), (h0_parts, .inl (tA 0, h0_parts_n, .inl h0_parts_c))] H → va_D A [(h0, .inr (19, f_h0)), (h0_parts, .inl (tA 0, h0_parts_n, .inl h0_parts_c))] → va_S A s.heap H locs → lv_has ls 4 [(0, .ref h0)] → W p l e { frames := 1, cells := 0, slots := 0, locals := 20 } s m args below meth c H locs 0 0 (MQ below (va_Qi (fun (r9 : Int32) (u9 : List Value) => r9 = out.1 ∧ Fr [1] f0_h0 u9 ∧ u9[1]? = some (.int out.2.1)) (zPost D A (fun (u9 : List Value) => [(h0, .inr (19, u9)), (h0_parts, .inl (tA 0, h0_parts_n, .inl out.2.2))])) A) args s 0 0 A) (F0 m 0 ls [])) ∧ (∀ (h0_n : Int32) (h0_parts_c : Nat → Int32) (l1 : Int32) (l2 : Int32) (f_h0 : List Value) (H : Heap) (locs : List Loc) (ls : Array Slot), f_MW_tenth h0_parts_n n 1 h0_n h0_parts_c l1 l2 = some out → f_h0[0]? = some (.ref h0_parts) → f_h0[1]? = some (.int h0_n) → Fr [1] f0_h0 f_h0 → va_P D vwCl [(h0, .inr (19, f_h0)), (h0_parts, .inl (tA 0, h0_parts_n, .inl h0_parts_c))] H → va_D A [(h0, .inr (19, f_h0)), (h0_parts, .inl (tA 0, h0_parts_n, .inl h0_parts_c))] → va_S A s.heap H locs → lv_has ls 4 [(0, .ref h0), (1, .int l1), (2, .int l2)] → W p l e { frames := 1, cells := 0, slots := 0, locals := 20 } s m args below meth c H locs 0 0 (MQ below (va_Qi (fun (r9 : Int32) (u9 : List Value) => r9 = out.1 ∧ Fr [1] f0_h0 u9 ∧ u9[1]? = some (.int out.2.1)) (zPost D A (fun (u9 : List Value) => [(h0, .inr (19, u9)), (h0_parts, .inl (tA 0, h0_parts_n, .inl out.2.2))])) A) args s 0 0 A) (F0 m 9 ls [])) := by
  intro n
  induction n with
  | zero => exact ⟨(fun _ _ _ _ _ _ _ _ hF => by rw [z_MW_tenth] at hF; cases hF), (fun _ _ _ _ _ _ _ _ hF => by rw [z_MW_tenth] at hF; cases hF)⟩
  | succ n ih =>
    obtain ⟨i0, i1⟩ := ih
    exact ⟨b_MW_tenth_0 hx hb hr hml hh hg hown hlocks hK hA i1, b_MW_tenth_1 hx hb hr hml hh hg hown hlocks hK hA i1⟩
set_option maxHeartbeats 4000000 in
set_option maxRecDepth 100000 in
theorem m_MW_tenth (l : Launch) (D : va_G) (tA : Nat → ClassId) (sz : Nat) (h0 h0_parts : Nat) (f0_h0 : List Value) (h0_parts_n : Nat) (h0_n : Int32) (h0_parts_c : Nat → Int32) (q_h0_parts : f0_h0[0]? = some (.ref h0_parts)) (q_h0_n : f0_h0[1]? = some (.int h0_n)) (n : Nat) (out : Int32 × Int32 × (Nat → Int32)) (hF : f_MW_tenth h0_parts_n n 0 h0_n h0_parts_c 0 0 = some out) : zMi l ({ cls := "ChanceArenaModel$Whole", name := "tenth", desc := "()I" } : Jvm.MethodName) (zW (Jvm.Cond.code ({ cls := "ChanceArenaModel$Whole", name := "tenth", desc := "()I" } : Jvm.MethodName) prog_21_method_18_code (4 : Nat) (Option.some Jvm.ClassFile.FieldType.int))) { frames := 1, cells := 0, slots := 0, locals := 20 } [.ref h0] D tA [(h0, .inr (19, f0_h0)), (h0_parts, .inl (tA 0, h0_parts_n, .inl h0_parts_c))] sz (fun (r9 : Int32) (u9 : List Value) => r9 = out.1 ∧ Fr [1] f0_h0 u9 ∧ u9[1]? = some (.int out.2.1)) (fun (u9 : List Value) => [(h0, .inr (19, u9)), (h0_parts, .inl (tA 0, h0_parts_n, .inl out.2.2))]) 0 0 := by
  refine zOpen (l := l) (y := ({ cls := "ChanceArenaModel$Whole", name := "tenth", desc := "()I" } : Jvm.MethodName)) (ws := zW (Jvm.Cond.code ({ cls := "ChanceArenaModel$Whole", name := "tenth", desc := "()I" } : Jvm.MethodName) prog_21_method_18_code (4 : Nat) (Option.some Jvm.ClassFile.FieldType.int))) (rm := { frames := 1, cells := 0, slots := 0, locals := 20 }) (av := [.ref h0]) (D := D) (tA := tA) (W0 := [(h0, .inr (19, f0_h0)), (h0_parts, .inl (tA 0, h0_parts_n, .inl h0_parts_c))]) (Wm := [(h0, .inr (19, f0_h0)), (h0_parts, .inl (tA 0, h0_parts_n, .inl h0_parts_c))]) (sz := sz) (mc := 0) (ms := 0) (fun A => va_Qi (fun (r9 : Int32) (u9 : List Value) => r9 = out.1 ∧ Fr [1] f0_h0 u9 ∧ u9[1]? = some (.int out.2.1)) (zPost D A (fun (u9 : List Value) => [(h0, .inr (19, u9)), (h0_parts, .inl (tA 0, h0_parts_n, .inl out.2.2))])) A) (lv := [(0, .ref h0)]) (by decide) rfl (Nat.le_of_ble_eq_true rfl) rfl ?_
  intro p e s m below meth c A ls hx hb hr hml hh hg hown hlocks hnm hK hA hP hD0 hAw hS hl
  have hD := zD hD0 hAw
  exact (a_MW_tenth hx hb hr hml hh hg hown hlocks hK hA n).1 h0_n h0_parts_c 0 0  f0_h0 _ _ _ hF q_h0_parts q_h0_n Fr.rfl hP hD hS hl
def f_MM_choose1 (h0_manyCommands_n : Nat) (h0_solver_told_n : Nat) (l1 : Int32) (l2 : Int32) (h0_many : Int32) (h0_manyCommands_c : Nat → Int32) (h0_thrown : Int32) (h0_solver_told_c : Nat → Int32) : Option (Int32 × (Nat → Int32)) := Option.bind (f_MM_isCommand h0_manyCommands_n l1 l2 h0_many h0_manyCommands_c h0_thrown) (fun o1 => if (o1.1 : Int32) = 0 then some (1, h0_solver_told_c) else Option.bind (f_MS_tell h0_solver_told_n l1 l2 h0_solver_told_c) (fun o2 => some (0, o2)))
set_option maxHeartbeats 4000000 in
set_option maxRecDepth 100000 in
theorem b_MM_choose1_0 {p : Program} {l : Launch} {e : Env} {s : State} {m : MethodId} {args : Array Value} {below : List Frame} {meth : Method} {c : Code} {D : va_G} {tA : Nat → ClassId} {A : Nat → Prop} {h0 h0_manyCommands h0_solver h0_solver_told : Nat} {f0_h0 f0_h0_solver : List Value} {h0_manyCommands_n : Nat} {h0_solver_told_n : Nat} {l1 : Int32} {l2 : Int32} {h0_many : Int32} {h0_manyCommands_c : Nat → Int32} {h0_thrown : Int32} {h0_solver_told_c : Nat → Int32} {out : Int32 × (Nat → Int32)} (hx : p.tables.exec = Jvm.exec) (hb : c.code = prog_15_method_100_code) (hr : meth.sig.returnType = (Option.none : Option Jvm.ClassFile.FieldType)) (hml : c.maxLocals = 3) (hh : zH s) (hg : ∀ w ∈ lw_R, w.before args s = true) (hown : s.vm.findClass "ChanceArenaModel" = some m.cls) (hlocks : meth.locks = false) (hK : va_K D vwCl (zT tA) s) (hA : ∀ q, s.heap.size ≤ q → A q)  : ∀ (f_h0 : List Value) (H : Heap) (locs : List Loc) (ls : Array Slot), f_MM_choose1 h0_manyCommands_n h0_solver_told_n l1 l2 h0_many h0_manyCommands_c h0_thrown h0_solver_told_c = some out → f_h0[34]? = some (.ref h0_manyCommands) → f_h0[39]? = some (.ref h0_solver) → f_h0[0]? = some (.int h0_thrown) → f_h0[29]? = some (.int h0_many) → Fr [0] f0_h0 f_h0 → f0_h0_solver[14]? = some (.ref h0_solver_told) → va_P D vwCl [(h0, .inr (13, f_h0)), (h0_manyCommands, .inl (tA 0, h0_manyCommands_n, .inl h0_manyCommands_c)), (h0_solver, .inr (16, f0_h0_solver)), (h0_solver_told, .inl (tA 0, h0_solver_told_n, .inl h0_solver_told_c))] H → va_D A [(h0, .inr (13, f_h0)), (h0_manyCommands, .inl (tA 0, h0_manyCommands_n, .inl h0_manyCommands_c)), (h0_solver, .inr (16, f0_h0_solver)), (h0_solver_told, .inl (tA 0, h0_solver_told_n, .inl h0_solver_told_c))] → va_S A s.heap H locs → lv_has ls 3 [(0, .ref h0), (1, .int l1), (2, .int l2)] → W p l e { frames := 2, cells := 0, slots := 0, locals := 43 } s m args below meth c H locs 0 0 (MQ below (va_Qv (fun (u9 : List Value) => Fr [0] f0_h0 u9 ∧ u9[0]? = some (.int out.1)) (zPost D A (fun (u9 : List Value) => [(h0, .inr (13, u9)), (h0_manyCommands, .inl (tA 0, h0_manyCommands_n, .inl h0_manyCommands_c)), (h0_solver, .inr (16, f0_h0_solver)), (h0_solver_told, .inl (tA 0, h0_solver_told_n, .inl out.2))])) A) args s 0 0 A) (F0 m 0 ls []) := by
  intro   f_h0 H locs ls hF q_h0_manyCommands q_h0_solver q_h0_thrown q_h0_many r_h0 q_h0_solver_told hP hD hS hl
  replace hF : ((Option.bind (f_MM_isCommand h0_manyCommands_n l1 l2 h0_many h0_manyCommands_c h0_thrown) (fun o1 => if (o1.1 : Int32) = 0 then some (1, h0_solver_told_c) else Option.bind (f_MS_tell h0_solver_told_n l1 l2 h0_solver_told_c) (fun o2 => some (0, o2)))) : Option (Int32 × (Nat → Int32))) = some out := hF
  refine lv_aload_n hx hb d_MM_choose1_0 rfl (lv_at hl 0 rfl) ?_
  refine lv_aload_n hx hb d_MM_choose1_1 rfl (lv_at hl 0 rfl) ?_
  refine lv_iload_n hx hb d_MM_choose1_2 rfl (lv_at hl 1 rfl) ?_
  refine lv_iload_n hx hb d_MM_choose1_3 rfl (lv_at hl 2 rfl) ?_
  obtain ⟨o1, h1, hF⟩ := bsome hF
  refine zCalli (wc := [(h0, .inr (13, f_h0)), (h0_manyCommands, .inl (tA 0, h0_manyCommands_n, .inl h0_manyCommands_c))]) (wr := [(h0_solver, .inr (16, f0_h0_solver)), (h0_solver_told, .inl (tA 0, h0_solver_told_n, .inl h0_solver_told_c))]) hP hD hS hA [0, 1] [2, 3] rfl rfl (by decide) (by decide) (va_runV (As := [.int l1, .int l2]) (rest := [.ref h0]) ⟨hx, hb, hml, hown, hg⟩ (m_MM_isCommand l D tA _ h0 h0_manyCommands f_h0 h0_manyCommands_n l1 l2 h0_many h0_manyCommands_c h0_thrown q_h0_manyCommands q_h0_thrown q_h0_many o1 h1) (zV 2 hg k12_134 k12_136 ks_MM_isCommand k1_14 k12_137 rfl rfl (by decide +kernel) ⟨(Nat.le_of_ble_eq_true rfl), (Nat.le_of_ble_eq_true rfl)⟩) (zPreV hh hK hP hD [0, 1] (by decide) rfl (ci := 13) rfl 0 rfl) rfl rfl hl.1 rfl (lv_room (Nat.le_of_ble_eq_true rfl)) d_MM_choose1_4 ⟨(Nat.le_of_ble_eq_true rfl), (Nat.le_of_ble_eq_true rfl)⟩) (fun r1 v1_h0 H1 locs1 e1 hP1 hD1 hS1 => ?_)
  clear hP hD hS
  refine W.cs (cells' := 0) (slots' := 0) rfl rfl ?_
  obtain ⟨x1, r1_h0, q1_h0_thrown⟩ := e1
  rw [x1]
  replace hP1 : va_P D vwCl [(h0_solver, .inr (16, f0_h0_solver)), (h0_solver_told, .inl (tA 0, h0_solver_told_n, .inl h0_solver_told_c)), (h0, .inr (13, v1_h0)), (h0_manyCommands, .inl (tA 0, h0_manyCommands_n, .inl h0_manyCommands_c))] _ := hP1
  replace hD1 : va_D A [(h0_solver, .inr (16, f0_h0_solver)), (h0_solver_told, .inl (tA 0, h0_solver_told_n, .inl h0_solver_told_c)), (h0, .inr (13, v1_h0)), (h0_manyCommands, .inl (tA 0, h0_manyCommands_n, .inl h0_manyCommands_c))] := hD1
  refine lv_if_eq (tgt := 14) hx hb d_MM_choose1_7 (by decide) (fun c9 => ?_) (fun c9 => ?_)
  · replace hF := ifp c9 hF
    refine lv_iconst (v := 1) hx hb d_MM_choose1_14 (by decide) ?_
    refine va_put (D := D) (ci := 13) (v := .int 1) (ty := .int) (C := R_MM) (T := T_MM) (N := 49) hx hb hg i_MM t_MM o_MM n_MM hown hK hP1 hD1 hS1 2 rfl rfl 0 (by decide) (hg _ k10_46) (fun _ h9 => h9) rfl (by decide +kernel) rfl rfl (zLen q1_h0_thrown) d_MM_choose1_15 (fun H2 locs2 hP2 hD2 hS2 => ?_)
    clear hP1 hD1 hS1
    replace hP2 : va_P D vwCl [(h0_solver, .inr (16, f0_h0_solver)), (h0_solver_told, .inl (tA 0, h0_solver_told_n, .inl h0_solver_told_c)), (h0, .inr (13, v1_h0.set 0 (.int 1))), (h0_manyCommands, .inl (tA 0, h0_manyCommands_n, .inl h0_manyCommands_c))] _ := hP2
    replace hD2 : va_D A [(h0_solver, .inr (16, f0_h0_solver)), (h0_solver_told, .inl (tA 0, h0_solver_told_n, .inl h0_solver_told_c)), (h0, .inr (13, v1_h0.set 0 (.int 1))), (h0_manyCommands, .inl (tA 0, h0_manyCommands_n, .inl h0_manyCommands_c))] := hD2
    refine lv_aload_n hx hb d_MM_choose1_18 rfl (lv_at hl 0 rfl) ?_
    refine va_get (D := D) (ci := 13) (v := .int 1) (C := R_MM) (T := T_MM) (N := 49) hx hb hg i_MM hown hK hP2 2 rfl rfl 0 (by decide) (hg _ k10_46) (fun _ h9 => h9) (zSetS q1_h0_thrown) d_MM_choose1_19 ?_
    refine lv_if_ne (tgt := 34) hx hb d_MM_choose1_22 (by decide) (fun _ => ?_) (fun c9 => absurd c9 (by decide))
    replace hF := Option.some.inj hF
    subst hF
    exact zVret (post := (fun (u9 : List Value) => Fr [0] f0_h0 u9 ∧ u9[0]? = some (.int ((1, h0_solver_told_c).1)))) (W1 := (fun (u9 : List Value) => [(h0, .inr (13, u9)), (h0_manyCommands, .inl (tA 0, h0_manyCommands_n, .inl h0_manyCommands_c)), (h0_solver, .inr (16, f0_h0_solver)), (h0_solver_told, .inl (tA 0, h0_solver_told_n, .inl ((1, h0_solver_told_c).2)))])) hx hb hr hlocks (zPc (wc := [(h0, .inr (13, v1_h0.set 0 (.int 1))), (h0_manyCommands, .inl (tA 0, h0_manyCommands_n, .inl h0_manyCommands_c)), (h0_solver, .inr (16, f0_h0_solver)), (h0_solver_told, .inl (tA 0, h0_solver_told_n, .inl h0_solver_told_c))]) hP2 [2, 3, 0, 1] rfl) (va_D.sub (ws' := [(h0, .inr (13, v1_h0.set 0 (.int 1))), (h0_manyCommands, .inl (tA 0, h0_manyCommands_n, .inl h0_manyCommands_c)), (h0_solver, .inr (16, f0_h0_solver)), (h0_solver_told, .inl (tA 0, h0_solver_told_n, .inl h0_solver_told_c))]) hD2 [2, 3, 0, 1] (by decide) rfl) hS2 (v1_h0.set 0 (.int 1)) ⟨(Fr.set (Fr.trans r_h0 (Fr.sub r1_h0 (by decide))) (by decide)), (zSetS q1_h0_thrown)⟩ rfl d_MM_choose1_34
  · replace hF := ifn c9 hF
    refine lv_iconst (v := 0) hx hb d_MM_choose1_10 (by decide) ?_
    refine lv_goto (tgt := 15) hx hb d_MM_choose1_11 (by decide) ?_
    refine va_put (D := D) (ci := 13) (v := .int 0) (ty := .int) (C := R_MM) (T := T_MM) (N := 49) hx hb hg i_MM t_MM o_MM n_MM hown hK hP1 hD1 hS1 2 rfl rfl 0 (by decide) (hg _ k10_46) (fun _ h9 => h9) rfl (by decide +kernel) rfl rfl (zLen q1_h0_thrown) d_MM_choose1_15 (fun H2 locs2 hP2 hD2 hS2 => ?_)
    clear hP1 hD1 hS1
    replace hP2 : va_P D vwCl [(h0_solver, .inr (16, f0_h0_solver)), (h0_solver_told, .inl (tA 0, h0_solver_told_n, .inl h0_solver_told_c)), (h0, .inr (13, v1_h0.set 0 (.int 0))), (h0_manyCommands, .inl (tA 0, h0_manyCommands_n, .inl h0_manyCommands_c))] _ := hP2
    replace hD2 : va_D A [(h0_solver, .inr (16, f0_h0_solver)), (h0_solver_told, .inl (tA 0, h0_solver_told_n, .inl h0_solver_told_c)), (h0, .inr (13, v1_h0.set 0 (.int 0))), (h0_manyCommands, .inl (tA 0, h0_manyCommands_n, .inl h0_manyCommands_c))] := hD2
    refine lv_aload_n hx hb d_MM_choose1_18 rfl (lv_at hl 0 rfl) ?_
    refine va_get (D := D) (ci := 13) (v := .int 0) (C := R_MM) (T := T_MM) (N := 49) hx hb hg i_MM hown hK hP2 2 rfl rfl 0 (by decide) (hg _ k10_46) (fun _ h9 => h9) (zSetS q1_h0_thrown) d_MM_choose1_19 ?_
    refine lv_if_ne (tgt := 34) hx hb d_MM_choose1_22 (by decide) (fun c9 => absurd rfl c9) (fun _ => ?_)
    refine lv_aload_n hx hb d_MM_choose1_25 rfl (lv_at hl 0 rfl) ?_
    refine va_get (D := D) (ci := 13) (v := .ref h0_solver) (C := R_MM) (T := T_MM) (N := 49) hx hb hg i_MM hown hK hP2 2 rfl rfl 39 (by decide) (hg _ k10_85) (fun _ h9 => h9) (zSetN (by decide) (Fr.get r1_h0 (by decide) q_h0_solver)) d_MM_choose1_26 ?_
    refine lv_iload_n hx hb d_MM_choose1_29 rfl (lv_at hl 1 rfl) ?_
    refine lv_iload_n hx hb d_MM_choose1_30 rfl (lv_at hl 2 rfl) ?_
    obtain ⟨o2, h2, hF⟩ := bsome hF
    refine zCallv (wc := [(h0_solver, .inr (16, f0_h0_solver)), (h0_solver_told, .inl (tA 0, h0_solver_told_n, .inl h0_solver_told_c))]) (wr := [(h0, .inr (13, v1_h0.set 0 (.int 0))), (h0_manyCommands, .inl (tA 0, h0_manyCommands_n, .inl h0_manyCommands_c))]) hP2 hD2 hS2 hA [0, 1] [2, 3] rfl rfl (by decide) (by decide) (va_runV (As := [.int l1, .int l2]) (rest := []) ⟨hx, hb, hml, hown, hg⟩ (m_MS_tell l D tA _ h0_solver h0_solver_told f0_h0_solver h0_solver_told_n l1 l2 h0_solver_told_c q_h0_solver_told o2 h2) (zV 2 hg k13_128 k13_129 k13_130 k1_17 k13_131 rfl rfl (by decide +kernel) ⟨(Nat.le_of_ble_eq_true rfl), (Nat.le_of_ble_eq_true rfl)⟩) (zPreV hh hK hP2 hD2 [0, 1] (by decide) rfl (ci := 16) rfl 0 rfl) rfl rfl hl.1 rfl (lv_room (Nat.le_of_ble_eq_true rfl)) d_MM_choose1_31 ⟨(Nat.le_of_ble_eq_true rfl), (Nat.le_of_ble_eq_true rfl)⟩) (fun u2 H3 locs3 e2 hP3 hD3 hS3 => ?_)
    clear hP2 hD2 hS2
    refine W.cs (cells' := 0) (slots' := 0) rfl rfl ?_
    replace hP3 : va_P D vwCl [(h0, .inr (13, v1_h0.set 0 (.int 0))), (h0_manyCommands, .inl (tA 0, h0_manyCommands_n, .inl h0_manyCommands_c)), (h0_solver, .inr (16, f0_h0_solver)), (h0_solver_told, .inl (tA 0, h0_solver_told_n, .inl o2))] _ := hP3
    replace hD3 : va_D A [(h0, .inr (13, v1_h0.set 0 (.int 0))), (h0_manyCommands, .inl (tA 0, h0_manyCommands_n, .inl h0_manyCommands_c)), (h0_solver, .inr (16, f0_h0_solver)), (h0_solver_told, .inl (tA 0, h0_solver_told_n, .inl o2))] := hD3
    replace hF := Option.some.inj hF
    subst hF
    exact zVret (post := (fun (u9 : List Value) => Fr [0] f0_h0 u9 ∧ u9[0]? = some (.int ((0, o2).1)))) (W1 := (fun (u9 : List Value) => [(h0, .inr (13, u9)), (h0_manyCommands, .inl (tA 0, h0_manyCommands_n, .inl h0_manyCommands_c)), (h0_solver, .inr (16, f0_h0_solver)), (h0_solver_told, .inl (tA 0, h0_solver_told_n, .inl ((0, o2).2)))])) hx hb hr hlocks hP3 hD3 hS3 (v1_h0.set 0 (.int 0)) ⟨(Fr.set (Fr.trans r_h0 (Fr.sub r1_h0 (by decide))) (by decide)), (zSetS q1_h0_thrown)⟩ rfl d_MM_choose1_34
set_option maxHeartbeats 4000000 in
set_option maxRecDepth 100000 in
theorem m_MM_choose1 (l : Launch) (D : va_G) (tA : Nat → ClassId) (sz : Nat) (h0 h0_manyCommands h0_solver h0_solver_told : Nat) (f0_h0 f0_h0_solver : List Value) (h0_manyCommands_n : Nat) (h0_solver_told_n : Nat) (l1 : Int32) (l2 : Int32) (h0_many : Int32) (h0_manyCommands_c : Nat → Int32) (h0_thrown : Int32) (h0_solver_told_c : Nat → Int32) (q_h0_manyCommands : f0_h0[34]? = some (.ref h0_manyCommands)) (q_h0_solver : f0_h0[39]? = some (.ref h0_solver)) (q_h0_thrown : f0_h0[0]? = some (.int h0_thrown)) (q_h0_many : f0_h0[29]? = some (.int h0_many)) (q_h0_solver_told : f0_h0_solver[14]? = some (.ref h0_solver_told)) (out : Int32 × (Nat → Int32)) (hF : f_MM_choose1 h0_manyCommands_n h0_solver_told_n l1 l2 h0_many h0_manyCommands_c h0_thrown h0_solver_told_c = some out) : zMv l ({ cls := "ChanceArenaModel", name := "choose", desc := "(II)V" } : Jvm.MethodName) (zW (Jvm.Cond.code ({ cls := "ChanceArenaModel", name := "choose", desc := "(II)V" } : Jvm.MethodName) prog_15_method_100_code (3 : Nat) (Option.none : Option Jvm.ClassFile.FieldType))) { frames := 2, cells := 0, slots := 0, locals := 43 } [.ref h0, .int l1, .int l2] D tA [(h0, .inr (13, f0_h0)), (h0_manyCommands, .inl (tA 0, h0_manyCommands_n, .inl h0_manyCommands_c)), (h0_solver, .inr (16, f0_h0_solver)), (h0_solver_told, .inl (tA 0, h0_solver_told_n, .inl h0_solver_told_c))] sz (fun (u9 : List Value) => Fr [0] f0_h0 u9 ∧ u9[0]? = some (.int out.1)) (fun (u9 : List Value) => [(h0, .inr (13, u9)), (h0_manyCommands, .inl (tA 0, h0_manyCommands_n, .inl h0_manyCommands_c)), (h0_solver, .inr (16, f0_h0_solver)), (h0_solver_told, .inl (tA 0, h0_solver_told_n, .inl out.2))]) 0 0 := by
  refine zOpen (l := l) (y := ({ cls := "ChanceArenaModel", name := "choose", desc := "(II)V" } : Jvm.MethodName)) (ws := zW (Jvm.Cond.code ({ cls := "ChanceArenaModel", name := "choose", desc := "(II)V" } : Jvm.MethodName) prog_15_method_100_code (3 : Nat) (Option.none : Option Jvm.ClassFile.FieldType))) (rm := { frames := 2, cells := 0, slots := 0, locals := 43 }) (av := [.ref h0, .int l1, .int l2]) (D := D) (tA := tA) (W0 := [(h0, .inr (13, f0_h0)), (h0_manyCommands, .inl (tA 0, h0_manyCommands_n, .inl h0_manyCommands_c)), (h0_solver, .inr (16, f0_h0_solver)), (h0_solver_told, .inl (tA 0, h0_solver_told_n, .inl h0_solver_told_c))]) (Wm := [(h0, .inr (13, f0_h0)), (h0_manyCommands, .inl (tA 0, h0_manyCommands_n, .inl h0_manyCommands_c)), (h0_solver, .inr (16, f0_h0_solver)), (h0_solver_told, .inl (tA 0, h0_solver_told_n, .inl h0_solver_told_c))]) (sz := sz) (mc := 0) (ms := 0) (fun A => va_Qv (fun (u9 : List Value) => Fr [0] f0_h0 u9 ∧ u9[0]? = some (.int out.1)) (zPost D A (fun (u9 : List Value) => [(h0, .inr (13, u9)), (h0_manyCommands, .inl (tA 0, h0_manyCommands_n, .inl h0_manyCommands_c)), (h0_solver, .inr (16, f0_h0_solver)), (h0_solver_told, .inl (tA 0, h0_solver_told_n, .inl out.2))])) A) (lv := [(0, .ref h0), (1, .int l1), (2, .int l2)]) (by decide) rfl (Nat.le_of_ble_eq_true rfl) rfl ?_
  intro p e s m below meth c A ls hx hb hr hml hh hg hown hlocks hnm hK hA hP hD0 hAw hS hl
  have hD := zD hD0 hAw
  exact b_MM_choose1_0 hx hb hr hml hh hg hown hlocks hK hA   f0_h0 _ _ _ hF q_h0_manyCommands q_h0_solver q_h0_thrown q_h0_many Fr.rfl q_h0_solver_told hP hD hS hl
def f_MM_adopt (h0_solver_has_n : Nat) (h0_solver_told_n : Nat) (h0_solver_firstCommands_n : Nat) (h0_solver_choices_n : Nat) (h0_solver_states : Int32) (h0_solver_has_c : Nat → Int32) (h0_solver_firstCommands_c : Nat → Int32) (h0_solver_choices_c : Nat → Int32) (h0_thrown : Int32) (h0_solver_told_c : Nat → Int32) (n : Nat) : Option (Int32 × (Nat → Int32)) := Option.bind (f_MS_hasValues h0_solver_has_n h0_solver_has_c) (fun o1 => if (o1 : Int32) = 0 then some (1, h0_solver_told_c) else Option.bind (f_MS_adopt h0_solver_told_n h0_solver_firstCommands_n h0_solver_choices_n h0_solver_states h0_solver_firstCommands_c h0_solver_choices_c n 0 h0_solver_told_c 0) (fun o2 => some (0, o2)))
set_option maxHeartbeats 4000000 in
set_option maxRecDepth 100000 in
theorem b_MM_adopt_0 {p : Program} {l : Launch} {e : Env} {s : State} {m : MethodId} {args : Array Value} {below : List Frame} {meth : Method} {c : Code} {D : va_G} {tA : Nat → ClassId} {A : Nat → Prop} {h0 h0_solver h0_solver_has h0_solver_told h0_solver_firstCommands h0_solver_choices : Nat} {f0_h0 f0_h0_solver : List Value} {h0_solver_has_n : Nat} {h0_solver_told_n : Nat} {h0_solver_firstCommands_n : Nat} {h0_solver_choices_n : Nat} {h0_solver_states : Int32} {h0_solver_has_c : Nat → Int32} {h0_solver_firstCommands_c : Nat → Int32} {h0_solver_choices_c : Nat → Int32} {h0_thrown : Int32} {h0_solver_told_c : Nat → Int32} {out : Int32 × (Nat → Int32)} (hx : p.tables.exec = Jvm.exec) (hb : c.code = prog_15_method_101_code) (hr : meth.sig.returnType = (Option.none : Option Jvm.ClassFile.FieldType)) (hml : c.maxLocals = 1) (hh : zH s) (hg : ∀ w ∈ lw_R, w.before args s = true) (hown : s.vm.findClass "ChanceArenaModel" = some m.cls) (hlocks : meth.locks = false) (hK : va_K D vwCl (zT tA) s) (hA : ∀ q, s.heap.size ≤ q → A q) {n : Nat}  : ∀ (f_h0 : List Value) (H : Heap) (locs : List Loc) (ls : Array Slot), f_MM_adopt h0_solver_has_n h0_solver_told_n h0_solver_firstCommands_n h0_solver_choices_n h0_solver_states h0_solver_has_c h0_solver_firstCommands_c h0_solver_choices_c h0_thrown h0_solver_told_c n = some out → f_h0[39]? = some (.ref h0_solver) → f_h0[0]? = some (.int h0_thrown) → Fr [0] f0_h0 f_h0 → f0_h0_solver[12]? = some (.ref h0_solver_has) → f0_h0_solver[14]? = some (.ref h0_solver_told) → f0_h0_solver[5]? = some (.ref h0_solver_firstCommands) → f0_h0_solver[15]? = some (.ref h0_solver_choices) → f0_h0_solver[1]? = some (.int h0_solver_states) → va_P D vwCl [(h0, .inr (13, f_h0)), (h0_solver, .inr (16, f0_h0_solver)), (h0_solver_has, .inl (tA 1, h0_solver_has_n, .inl h0_solver_has_c)), (h0_solver_told, .inl (tA 0, h0_solver_told_n, .inl h0_solver_told_c)), (h0_solver_firstCommands, .inl (tA 0, h0_solver_firstCommands_n, .inl h0_solver_firstCommands_c)), (h0_solver_choices, .inl (tA 0, h0_solver_choices_n, .inl h0_solver_choices_c))] H → va_D A [(h0, .inr (13, f_h0)), (h0_solver, .inr (16, f0_h0_solver)), (h0_solver_has, .inl (tA 1, h0_solver_has_n, .inl h0_solver_has_c)), (h0_solver_told, .inl (tA 0, h0_solver_told_n, .inl h0_solver_told_c)), (h0_solver_firstCommands, .inl (tA 0, h0_solver_firstCommands_n, .inl h0_solver_firstCommands_c)), (h0_solver_choices, .inl (tA 0, h0_solver_choices_n, .inl h0_solver_choices_c))] → va_S A s.heap H locs → lv_has ls 1 [(0, .ref h0)] → W p l e { frames := 2, cells := 0, slots := 0, locals := 42 } s m args below meth c H locs 0 0 (MQ below (va_Qv (fun (u9 : List Value) => Fr [0] f0_h0 u9 ∧ u9[0]? = some (.int out.1)) (zPost D A (fun (u9 : List Value) => [(h0, .inr (13, u9)), (h0_solver, .inr (16, f0_h0_solver)), (h0_solver_has, .inl (tA 1, h0_solver_has_n, .inl h0_solver_has_c)), (h0_solver_told, .inl (tA 0, h0_solver_told_n, .inl out.2)), (h0_solver_firstCommands, .inl (tA 0, h0_solver_firstCommands_n, .inl h0_solver_firstCommands_c)), (h0_solver_choices, .inl (tA 0, h0_solver_choices_n, .inl h0_solver_choices_c))])) A) args s 0 0 A) (F0 m 0 ls []) := by
  intro   f_h0 H locs ls hF q_h0_solver q_h0_thrown r_h0 q_h0_solver_has q_h0_solver_told q_h0_solver_firstCommands q_h0_solver_choices q_h0_solver_states hP hD hS hl
  replace hF : ((Option.bind (f_MS_hasValues h0_solver_has_n h0_solver_has_c) (fun o1 => if (o1 : Int32) = 0 then some (1, h0_solver_told_c) else Option.bind (f_MS_adopt h0_solver_told_n h0_solver_firstCommands_n h0_solver_choices_n h0_solver_states h0_solver_firstCommands_c h0_solver_choices_c n 0 h0_solver_told_c 0) (fun o2 => some (0, o2)))) : Option (Int32 × (Nat → Int32))) = some out := hF
  refine lv_aload_n hx hb d_MM_adopt_0 rfl (lv_at hl 0 rfl) ?_
  refine lv_aload_n hx hb d_MM_adopt_1 rfl (lv_at hl 0 rfl) ?_
  refine va_get (D := D) (ci := 13) (v := .ref h0_solver) (C := R_MM) (T := T_MM) (N := 49) hx hb hg i_MM hown hK hP 0 rfl rfl 39 (by decide) (hg _ k10_85) (fun _ h9 => h9) q_h0_solver d_MM_adopt_2 ?_
  obtain ⟨o1, h1, hF⟩ := bsome hF
  refine zCalli (wc := [(h0_solver, .inr (16, f0_h0_solver)), (h0_solver_has, .inl (tA 1, h0_solver_has_n, .inl h0_solver_has_c))]) (wr := [(h0, .inr (13, f_h0)), (h0_solver_told, .inl (tA 0, h0_solver_told_n, .inl h0_solver_told_c)), (h0_solver_firstCommands, .inl (tA 0, h0_solver_firstCommands_n, .inl h0_solver_firstCommands_c)), (h0_solver_choices, .inl (tA 0, h0_solver_choices_n, .inl h0_solver_choices_c))]) hP hD hS hA [1, 2] [0, 3, 4, 5] rfl rfl (by decide) (by decide) (va_runV (As := []) (rest := [.ref h0]) ⟨hx, hb, hml, hown, hg⟩ (m_MS_hasValues l D tA _ h0_solver h0_solver_has f0_h0_solver h0_solver_has_n h0_solver_has_c q_h0_solver_has o1 h1) (zV 0 hg k13_136 k13_137 k13_138 k1_17 k13_139 rfl rfl (by decide +kernel) ⟨(Nat.le_of_ble_eq_true rfl), (Nat.le_of_ble_eq_true rfl)⟩) (zPreV hh hK hP hD [1, 2] (by decide) rfl (ci := 16) rfl 0 rfl) rfl rfl hl.1 rfl (lv_room (Nat.le_of_ble_eq_true rfl)) d_MM_adopt_5 ⟨(Nat.le_of_ble_eq_true rfl), (Nat.le_of_ble_eq_true rfl)⟩) (fun r1 u1 H1 locs1 e1 hP1 hD1 hS1 => ?_)
  clear hP hD hS
  refine W.cs (cells' := 0) (slots' := 0) rfl rfl ?_
  have x1 := e1
  rw [x1]
  replace hP1 : va_P D vwCl [(h0, .inr (13, f_h0)), (h0_solver_told, .inl (tA 0, h0_solver_told_n, .inl h0_solver_told_c)), (h0_solver_firstCommands, .inl (tA 0, h0_solver_firstCommands_n, .inl h0_solver_firstCommands_c)), (h0_solver_choices, .inl (tA 0, h0_solver_choices_n, .inl h0_solver_choices_c)), (h0_solver, .inr (16, f0_h0_solver)), (h0_solver_has, .inl (tA 1, h0_solver_has_n, .inl h0_solver_has_c))] _ := hP1
  replace hD1 : va_D A [(h0, .inr (13, f_h0)), (h0_solver_told, .inl (tA 0, h0_solver_told_n, .inl h0_solver_told_c)), (h0_solver_firstCommands, .inl (tA 0, h0_solver_firstCommands_n, .inl h0_solver_firstCommands_c)), (h0_solver_choices, .inl (tA 0, h0_solver_choices_n, .inl h0_solver_choices_c)), (h0_solver, .inr (16, f0_h0_solver)), (h0_solver_has, .inl (tA 1, h0_solver_has_n, .inl h0_solver_has_c))] := hD1
  refine lv_if_eq (tgt := 15) hx hb d_MM_adopt_8 (by decide) (fun c9 => ?_) (fun c9 => ?_)
  · replace hF := ifp c9 hF
    refine lv_iconst (v := 1) hx hb d_MM_adopt_15 (by decide) ?_
    refine va_put (D := D) (ci := 13) (v := .int 1) (ty := .int) (C := R_MM) (T := T_MM) (N := 49) hx hb hg i_MM t_MM o_MM n_MM hown hK hP1 hD1 hS1 0 rfl rfl 0 (by decide) (hg _ k10_46) (fun _ h9 => h9) rfl (by decide +kernel) rfl rfl (zLen q_h0_thrown) d_MM_adopt_16 (fun H2 locs2 hP2 hD2 hS2 => ?_)
    clear hP1 hD1 hS1
    replace hP2 : va_P D vwCl [(h0, .inr (13, f_h0.set 0 (.int 1))), (h0_solver_told, .inl (tA 0, h0_solver_told_n, .inl h0_solver_told_c)), (h0_solver_firstCommands, .inl (tA 0, h0_solver_firstCommands_n, .inl h0_solver_firstCommands_c)), (h0_solver_choices, .inl (tA 0, h0_solver_choices_n, .inl h0_solver_choices_c)), (h0_solver, .inr (16, f0_h0_solver)), (h0_solver_has, .inl (tA 1, h0_solver_has_n, .inl h0_solver_has_c))] _ := hP2
    replace hD2 : va_D A [(h0, .inr (13, f_h0.set 0 (.int 1))), (h0_solver_told, .inl (tA 0, h0_solver_told_n, .inl h0_solver_told_c)), (h0_solver_firstCommands, .inl (tA 0, h0_solver_firstCommands_n, .inl h0_solver_firstCommands_c)), (h0_solver_choices, .inl (tA 0, h0_solver_choices_n, .inl h0_solver_choices_c)), (h0_solver, .inr (16, f0_h0_solver)), (h0_solver_has, .inl (tA 1, h0_solver_has_n, .inl h0_solver_has_c))] := hD2
    refine lv_aload_n hx hb d_MM_adopt_19 rfl (lv_at hl 0 rfl) ?_
    refine va_get (D := D) (ci := 13) (v := .int 1) (C := R_MM) (T := T_MM) (N := 49) hx hb hg i_MM hown hK hP2 0 rfl rfl 0 (by decide) (hg _ k10_46) (fun _ h9 => h9) (zSetS q_h0_thrown) d_MM_adopt_20 ?_
    refine lv_if_ne (tgt := 33) hx hb d_MM_adopt_23 (by decide) (fun _ => ?_) (fun c9 => absurd c9 (by decide))
    replace hF := Option.some.inj hF
    subst hF
    exact zVret (post := (fun (u9 : List Value) => Fr [0] f0_h0 u9 ∧ u9[0]? = some (.int ((1, h0_solver_told_c).1)))) (W1 := (fun (u9 : List Value) => [(h0, .inr (13, u9)), (h0_solver, .inr (16, f0_h0_solver)), (h0_solver_has, .inl (tA 1, h0_solver_has_n, .inl h0_solver_has_c)), (h0_solver_told, .inl (tA 0, h0_solver_told_n, .inl ((1, h0_solver_told_c).2))), (h0_solver_firstCommands, .inl (tA 0, h0_solver_firstCommands_n, .inl h0_solver_firstCommands_c)), (h0_solver_choices, .inl (tA 0, h0_solver_choices_n, .inl h0_solver_choices_c))])) hx hb hr hlocks (zPc (wc := [(h0, .inr (13, f_h0.set 0 (.int 1))), (h0_solver, .inr (16, f0_h0_solver)), (h0_solver_has, .inl (tA 1, h0_solver_has_n, .inl h0_solver_has_c)), (h0_solver_told, .inl (tA 0, h0_solver_told_n, .inl h0_solver_told_c)), (h0_solver_firstCommands, .inl (tA 0, h0_solver_firstCommands_n, .inl h0_solver_firstCommands_c)), (h0_solver_choices, .inl (tA 0, h0_solver_choices_n, .inl h0_solver_choices_c))]) hP2 [0, 4, 5, 1, 2, 3] rfl) (va_D.sub (ws' := [(h0, .inr (13, f_h0.set 0 (.int 1))), (h0_solver, .inr (16, f0_h0_solver)), (h0_solver_has, .inl (tA 1, h0_solver_has_n, .inl h0_solver_has_c)), (h0_solver_told, .inl (tA 0, h0_solver_told_n, .inl h0_solver_told_c)), (h0_solver_firstCommands, .inl (tA 0, h0_solver_firstCommands_n, .inl h0_solver_firstCommands_c)), (h0_solver_choices, .inl (tA 0, h0_solver_choices_n, .inl h0_solver_choices_c))]) hD2 [0, 4, 5, 1, 2, 3] (by decide) rfl) hS2 (f_h0.set 0 (.int 1)) ⟨(Fr.set r_h0 (by decide)), (zSetS q_h0_thrown)⟩ rfl d_MM_adopt_33
  · replace hF := ifn c9 hF
    refine lv_iconst (v := 0) hx hb d_MM_adopt_11 (by decide) ?_
    refine lv_goto (tgt := 16) hx hb d_MM_adopt_12 (by decide) ?_
    refine va_put (D := D) (ci := 13) (v := .int 0) (ty := .int) (C := R_MM) (T := T_MM) (N := 49) hx hb hg i_MM t_MM o_MM n_MM hown hK hP1 hD1 hS1 0 rfl rfl 0 (by decide) (hg _ k10_46) (fun _ h9 => h9) rfl (by decide +kernel) rfl rfl (zLen q_h0_thrown) d_MM_adopt_16 (fun H2 locs2 hP2 hD2 hS2 => ?_)
    clear hP1 hD1 hS1
    replace hP2 : va_P D vwCl [(h0, .inr (13, f_h0.set 0 (.int 0))), (h0_solver_told, .inl (tA 0, h0_solver_told_n, .inl h0_solver_told_c)), (h0_solver_firstCommands, .inl (tA 0, h0_solver_firstCommands_n, .inl h0_solver_firstCommands_c)), (h0_solver_choices, .inl (tA 0, h0_solver_choices_n, .inl h0_solver_choices_c)), (h0_solver, .inr (16, f0_h0_solver)), (h0_solver_has, .inl (tA 1, h0_solver_has_n, .inl h0_solver_has_c))] _ := hP2
    replace hD2 : va_D A [(h0, .inr (13, f_h0.set 0 (.int 0))), (h0_solver_told, .inl (tA 0, h0_solver_told_n, .inl h0_solver_told_c)), (h0_solver_firstCommands, .inl (tA 0, h0_solver_firstCommands_n, .inl h0_solver_firstCommands_c)), (h0_solver_choices, .inl (tA 0, h0_solver_choices_n, .inl h0_solver_choices_c)), (h0_solver, .inr (16, f0_h0_solver)), (h0_solver_has, .inl (tA 1, h0_solver_has_n, .inl h0_solver_has_c))] := hD2
    refine lv_aload_n hx hb d_MM_adopt_19 rfl (lv_at hl 0 rfl) ?_
    refine va_get (D := D) (ci := 13) (v := .int 0) (C := R_MM) (T := T_MM) (N := 49) hx hb hg i_MM hown hK hP2 0 rfl rfl 0 (by decide) (hg _ k10_46) (fun _ h9 => h9) (zSetS q_h0_thrown) d_MM_adopt_20 ?_
    refine lv_if_ne (tgt := 33) hx hb d_MM_adopt_23 (by decide) (fun c9 => absurd rfl c9) (fun _ => ?_)
    refine lv_aload_n hx hb d_MM_adopt_26 rfl (lv_at hl 0 rfl) ?_
    refine va_get (D := D) (ci := 13) (v := .ref h0_solver) (C := R_MM) (T := T_MM) (N := 49) hx hb hg i_MM hown hK hP2 0 rfl rfl 39 (by decide) (hg _ k10_85) (fun _ h9 => h9) (zSetN (by decide) q_h0_solver) d_MM_adopt_27 ?_
    obtain ⟨o2, h2, hF⟩ := bsome hF
    refine zCallv (wc := [(h0_solver, .inr (16, f0_h0_solver)), (h0_solver_told, .inl (tA 0, h0_solver_told_n, .inl h0_solver_told_c)), (h0_solver_firstCommands, .inl (tA 0, h0_solver_firstCommands_n, .inl h0_solver_firstCommands_c)), (h0_solver_choices, .inl (tA 0, h0_solver_choices_n, .inl h0_solver_choices_c))]) (wr := [(h0, .inr (13, f_h0.set 0 (.int 0))), (h0_solver_has, .inl (tA 1, h0_solver_has_n, .inl h0_solver_has_c))]) hP2 hD2 hS2 hA [4, 1, 2, 3] [0, 5] rfl rfl (by decide) (by decide) (va_runV (As := []) (rest := []) ⟨hx, hb, hml, hown, hg⟩ (m_MS_adopt l D tA _ h0_solver h0_solver_told h0_solver_firstCommands h0_solver_choices f0_h0_solver h0_solver_told_n h0_solver_firstCommands_n h0_solver_choices_n h0_solver_states h0_solver_firstCommands_c h0_solver_choices_c h0_solver_told_c q_h0_solver_told q_h0_solver_firstCommands q_h0_solver_choices q_h0_solver_states n o2 h2) (zV 0 hg k13_140 k13_141 k13_142 k1_17 k13_143 rfl rfl (by decide +kernel) ⟨(Nat.le_of_ble_eq_true rfl), (Nat.le_of_ble_eq_true rfl)⟩) (zPreV hh hK hP2 hD2 [4, 1, 2, 3] (by decide) rfl (ci := 16) rfl 0 rfl) rfl rfl hl.1 rfl (lv_room (Nat.le_of_ble_eq_true rfl)) d_MM_adopt_30 ⟨(Nat.le_of_ble_eq_true rfl), (Nat.le_of_ble_eq_true rfl)⟩) (fun u2 H3 locs3 e2 hP3 hD3 hS3 => ?_)
    clear hP2 hD2 hS2
    refine W.cs (cells' := 0) (slots' := 0) rfl rfl ?_
    replace hP3 : va_P D vwCl [(h0, .inr (13, f_h0.set 0 (.int 0))), (h0_solver_has, .inl (tA 1, h0_solver_has_n, .inl h0_solver_has_c)), (h0_solver, .inr (16, f0_h0_solver)), (h0_solver_told, .inl (tA 0, h0_solver_told_n, .inl o2)), (h0_solver_firstCommands, .inl (tA 0, h0_solver_firstCommands_n, .inl h0_solver_firstCommands_c)), (h0_solver_choices, .inl (tA 0, h0_solver_choices_n, .inl h0_solver_choices_c))] _ := hP3
    replace hD3 : va_D A [(h0, .inr (13, f_h0.set 0 (.int 0))), (h0_solver_has, .inl (tA 1, h0_solver_has_n, .inl h0_solver_has_c)), (h0_solver, .inr (16, f0_h0_solver)), (h0_solver_told, .inl (tA 0, h0_solver_told_n, .inl o2)), (h0_solver_firstCommands, .inl (tA 0, h0_solver_firstCommands_n, .inl h0_solver_firstCommands_c)), (h0_solver_choices, .inl (tA 0, h0_solver_choices_n, .inl h0_solver_choices_c))] := hD3
    replace hF := Option.some.inj hF
    subst hF
    exact zVret (post := (fun (u9 : List Value) => Fr [0] f0_h0 u9 ∧ u9[0]? = some (.int ((0, o2).1)))) (W1 := (fun (u9 : List Value) => [(h0, .inr (13, u9)), (h0_solver, .inr (16, f0_h0_solver)), (h0_solver_has, .inl (tA 1, h0_solver_has_n, .inl h0_solver_has_c)), (h0_solver_told, .inl (tA 0, h0_solver_told_n, .inl ((0, o2).2))), (h0_solver_firstCommands, .inl (tA 0, h0_solver_firstCommands_n, .inl h0_solver_firstCommands_c)), (h0_solver_choices, .inl (tA 0, h0_solver_choices_n, .inl h0_solver_choices_c))])) hx hb hr hlocks (zPc (wc := [(h0, .inr (13, f_h0.set 0 (.int 0))), (h0_solver, .inr (16, f0_h0_solver)), (h0_solver_has, .inl (tA 1, h0_solver_has_n, .inl h0_solver_has_c)), (h0_solver_told, .inl (tA 0, h0_solver_told_n, .inl o2)), (h0_solver_firstCommands, .inl (tA 0, h0_solver_firstCommands_n, .inl h0_solver_firstCommands_c)), (h0_solver_choices, .inl (tA 0, h0_solver_choices_n, .inl h0_solver_choices_c))]) hP3 [0, 2, 1, 3, 4, 5] rfl) (va_D.sub (ws' := [(h0, .inr (13, f_h0.set 0 (.int 0))), (h0_solver, .inr (16, f0_h0_solver)), (h0_solver_has, .inl (tA 1, h0_solver_has_n, .inl h0_solver_has_c)), (h0_solver_told, .inl (tA 0, h0_solver_told_n, .inl o2)), (h0_solver_firstCommands, .inl (tA 0, h0_solver_firstCommands_n, .inl h0_solver_firstCommands_c)), (h0_solver_choices, .inl (tA 0, h0_solver_choices_n, .inl h0_solver_choices_c))]) hD3 [0, 2, 1, 3, 4, 5] (by decide) rfl) hS3 (f_h0.set 0 (.int 0)) ⟨(Fr.set r_h0 (by decide)), (zSetS q_h0_thrown)⟩ rfl d_MM_adopt_33
set_option maxHeartbeats 4000000 in
set_option maxRecDepth 100000 in
theorem m_MM_adopt (l : Launch) (D : va_G) (tA : Nat → ClassId) (sz : Nat) (h0 h0_solver h0_solver_has h0_solver_told h0_solver_firstCommands h0_solver_choices : Nat) (f0_h0 f0_h0_solver : List Value) (h0_solver_has_n : Nat) (h0_solver_told_n : Nat) (h0_solver_firstCommands_n : Nat) (h0_solver_choices_n : Nat) (h0_solver_states : Int32) (h0_solver_has_c : Nat → Int32) (h0_solver_firstCommands_c : Nat → Int32) (h0_solver_choices_c : Nat → Int32) (h0_thrown : Int32) (h0_solver_told_c : Nat → Int32) (q_h0_solver : f0_h0[39]? = some (.ref h0_solver)) (q_h0_thrown : f0_h0[0]? = some (.int h0_thrown)) (q_h0_solver_has : f0_h0_solver[12]? = some (.ref h0_solver_has)) (q_h0_solver_told : f0_h0_solver[14]? = some (.ref h0_solver_told)) (q_h0_solver_firstCommands : f0_h0_solver[5]? = some (.ref h0_solver_firstCommands)) (q_h0_solver_choices : f0_h0_solver[15]? = some (.ref h0_solver_choices)) (q_h0_solver_states : f0_h0_solver[1]? = some (.int h0_solver_states)) (n : Nat) (out : Int32 × (Nat → Int32)) (hF : f_MM_adopt h0_solver_has_n h0_solver_told_n h0_solver_firstCommands_n h0_solver_choices_n h0_solver_states h0_solver_has_c h0_solver_firstCommands_c h0_solver_choices_c h0_thrown h0_solver_told_c n = some out) : zMv l ({ cls := "ChanceArenaModel", name := "adopt", desc := "()V" } : Jvm.MethodName) (zW (Jvm.Cond.code ({ cls := "ChanceArenaModel", name := "adopt", desc := "()V" } : Jvm.MethodName) prog_15_method_101_code (1 : Nat) (Option.none : Option Jvm.ClassFile.FieldType))) { frames := 2, cells := 0, slots := 0, locals := 42 } [.ref h0] D tA [(h0, .inr (13, f0_h0)), (h0_solver, .inr (16, f0_h0_solver)), (h0_solver_has, .inl (tA 1, h0_solver_has_n, .inl h0_solver_has_c)), (h0_solver_told, .inl (tA 0, h0_solver_told_n, .inl h0_solver_told_c)), (h0_solver_firstCommands, .inl (tA 0, h0_solver_firstCommands_n, .inl h0_solver_firstCommands_c)), (h0_solver_choices, .inl (tA 0, h0_solver_choices_n, .inl h0_solver_choices_c))] sz (fun (u9 : List Value) => Fr [0] f0_h0 u9 ∧ u9[0]? = some (.int out.1)) (fun (u9 : List Value) => [(h0, .inr (13, u9)), (h0_solver, .inr (16, f0_h0_solver)), (h0_solver_has, .inl (tA 1, h0_solver_has_n, .inl h0_solver_has_c)), (h0_solver_told, .inl (tA 0, h0_solver_told_n, .inl out.2)), (h0_solver_firstCommands, .inl (tA 0, h0_solver_firstCommands_n, .inl h0_solver_firstCommands_c)), (h0_solver_choices, .inl (tA 0, h0_solver_choices_n, .inl h0_solver_choices_c))]) 0 0 := by
  refine zOpen (l := l) (y := ({ cls := "ChanceArenaModel", name := "adopt", desc := "()V" } : Jvm.MethodName)) (ws := zW (Jvm.Cond.code ({ cls := "ChanceArenaModel", name := "adopt", desc := "()V" } : Jvm.MethodName) prog_15_method_101_code (1 : Nat) (Option.none : Option Jvm.ClassFile.FieldType))) (rm := { frames := 2, cells := 0, slots := 0, locals := 42 }) (av := [.ref h0]) (D := D) (tA := tA) (W0 := [(h0, .inr (13, f0_h0)), (h0_solver, .inr (16, f0_h0_solver)), (h0_solver_has, .inl (tA 1, h0_solver_has_n, .inl h0_solver_has_c)), (h0_solver_told, .inl (tA 0, h0_solver_told_n, .inl h0_solver_told_c)), (h0_solver_firstCommands, .inl (tA 0, h0_solver_firstCommands_n, .inl h0_solver_firstCommands_c)), (h0_solver_choices, .inl (tA 0, h0_solver_choices_n, .inl h0_solver_choices_c))]) (Wm := [(h0, .inr (13, f0_h0)), (h0_solver, .inr (16, f0_h0_solver)), (h0_solver_has, .inl (tA 1, h0_solver_has_n, .inl h0_solver_has_c)), (h0_solver_told, .inl (tA 0, h0_solver_told_n, .inl h0_solver_told_c)), (h0_solver_firstCommands, .inl (tA 0, h0_solver_firstCommands_n, .inl h0_solver_firstCommands_c)), (h0_solver_choices, .inl (tA 0, h0_solver_choices_n, .inl h0_solver_choices_c))]) (sz := sz) (mc := 0) (ms := 0) (fun A => va_Qv (fun (u9 : List Value) => Fr [0] f0_h0 u9 ∧ u9[0]? = some (.int out.1)) (zPost D A (fun (u9 : List Value) => [(h0, .inr (13, u9)), (h0_solver, .inr (16, f0_h0_solver)), (h0_solver_has, .inl (tA 1, h0_solver_has_n, .inl h0_solver_has_c)), (h0_solver_told, .inl (tA 0, h0_solver_told_n, .inl out.2)), (h0_solver_firstCommands, .inl (tA 0, h0_solver_firstCommands_n, .inl h0_solver_firstCommands_c)), (h0_solver_choices, .inl (tA 0, h0_solver_choices_n, .inl h0_solver_choices_c))])) A) (lv := [(0, .ref h0)]) (by decide) rfl (Nat.le_of_ble_eq_true rfl) rfl ?_
  intro p e s m below meth c A ls hx hb hr hml hh hg hown hlocks hnm hK hA hP hD0 hAw hS hl
  have hD := zD hD0 hAw
  exact b_MM_adopt_0 hx hb hr hml hh hg hown hlocks hK hA   f0_h0 _ _ _ hF q_h0_solver q_h0_thrown Fr.rfl q_h0_solver_has q_h0_solver_told q_h0_solver_firstCommands q_h0_solver_choices q_h0_solver_states hP hD hS hl
