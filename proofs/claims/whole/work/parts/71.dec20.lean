theorem k1_108 : (Jvm.Cond.fieldLink "ChanceArena$RuleReader" (93 : Nat) "ChanceArena$RuleReader" "operandWanted" "Z") ∈ lw_R := zR (zk_1 _ (List.mem_of_getElem? (i := 108) (by decide +kernel))) rfl
theorem k1_113 : (Jvm.Cond.fieldLink "ChanceArena$RuleReader" (87 : Nat) "ChanceArena$RuleReader" "opened" "I") ∈ lw_R := zR (zk_1 _ (List.mem_of_getElem? (i := 113) (by decide +kernel))) rfl
theorem k1_115 : (Jvm.Cond.fieldLink "ChanceArena$RuleReader" (90 : Nat) "ChanceArena$RuleReader" "operandCount" "I") ∈ lw_R := zR (zk_1 _ (List.mem_of_getElem? (i := 115) (by decide +kernel))) rfl
theorem k4_154 : (Jvm.Cond.instanceMethod ({ cls := "ChanceArena$RuleReader", name := "find", desc := "(I)I" } : Jvm.MethodName)) ∈ lw_R := zR (zk_4 _ (List.mem_of_getElem? (i := 154) (by decide +kernel))) rfl
theorem k4_155 : (Jvm.Cond.selects "ChanceArena$RuleReader" ({ cls := "ChanceArena$RuleReader", name := "find", desc := "(I)I" } : Jvm.MethodName) ({ cls := "ChanceArena$RuleReader", name := "find", desc := "(I)I" } : Jvm.MethodName)) ∈ lw_R := zR (zk_4 _ (List.mem_of_getElem? (i := 155) (by decide +kernel))) rfl
theorem k4_185 : (Jvm.Cond.code ({ cls := "ChanceArena$RuleReader", name := "pushKind", desc := "(Z)V" } : Jvm.MethodName) prog_9_method_15_code (2 : Nat) (Option.none : Option Jvm.ClassFile.FieldType)) ∈ lw_R := zR (zk_4 _ (List.mem_of_getElem? (i := 185) (by decide +kernel))) rfl
theorem k4_186 : (Jvm.Cond.methodLink "ChanceArena$RuleReader" (79 : Nat) ({ cls := "ChanceArena$RuleReader", name := "find", desc := "(I)I" } : Jvm.MethodName)) ∈ lw_R := zR (zk_4 _ (List.mem_of_getElem? (i := 186) (by decide +kernel))) rfl
theorem k4_195 : (Jvm.Cond.code ({ cls := "ChanceArena$RuleReader", name := "push", desc := "(III)V" } : Jvm.MethodName) prog_9_method_18_code (4 : Nat) (Option.none : Option Jvm.ClassFile.FieldType)) ∈ lw_R := zR (zk_4 _ (List.mem_of_getElem? (i := 195) (by decide +kernel))) rfl
theorem k4_202 : (Jvm.Cond.code ({ cls := "ChanceArena$RuleReader", name := "level", desc := "(I)I" } : Jvm.MethodName) prog_9_method_19_code (1 : Nat) (Option.some Jvm.ClassFile.FieldType.int)) ∈ lw_R := zR (zk_4 _ (List.mem_of_getElem? (i := 202) (by decide +kernel))) rfl
theorem k4_217 : (Jvm.Cond.code ({ cls := "ChanceArena$RuleReader", name := "popKind", desc := "()Z" } : Jvm.MethodName) prog_9_method_16_code (1 : Nat) (Option.some Jvm.ClassFile.FieldType.boolean)) ∈ lw_R := zR (zk_4 _ (List.mem_of_getElem? (i := 217) (by decide +kernel))) rfl
theorem k4_233 : (Jvm.Cond.code ({ cls := "ChanceArena$RuleReader", name := "isTruth", desc := "()Z" } : Jvm.MethodName) prog_9_method_10_code (1 : Nat) (Option.some Jvm.ClassFile.FieldType.boolean)) ∈ lw_R := zR (zk_4 _ (List.mem_of_getElem? (i := 233) (by decide +kernel))) rfl
theorem k5_17 : (Jvm.Cond.code ({ cls := "ChanceArena$RuleReader", name := "varOf", desc := "(I)I" } : Jvm.MethodName) prog_9_method_8_code (3 : Nat) (Option.some Jvm.ClassFile.FieldType.int)) ∈ lw_R := zR (zk_5 _ (List.mem_of_getElem? (i := 17) (by decide +kernel))) rfl
theorem k5_21 : (Jvm.Cond.code ({ cls := "ChanceArena$RuleReader", name := "kindOf", desc := "(I)I" } : Jvm.MethodName) prog_9_method_9_code (3 : Nat) (Option.some Jvm.ClassFile.FieldType.int)) ∈ lw_R := zR (zk_5 _ (List.mem_of_getElem? (i := 21) (by decide +kernel))) rfl
theorem d_RR_varOf_0 : decode prog_9_method_8_code 0 = .ok (.aload_n 0, 1) := by decide +kernel
theorem d_RR_varOf_1 : decode prog_9_method_8_code 1 = .ok (.iload_n 1, 1) := by decide +kernel
theorem d_RR_varOf_2 : decode prog_9_method_8_code 2 = .ok (.invokevirtual 79, 3) := by decide +kernel
theorem d_RR_varOf_5 : decode prog_9_method_8_code 5 = .ok (.istore_n 2, 1) := by decide +kernel
theorem d_RR_varOf_6 : decode prog_9_method_8_code 6 = .ok (.iload_n 2, 1) := by decide +kernel
theorem d_RR_varOf_7 : decode prog_9_method_8_code 7 = .ok (.iconst (-1), 1) := by decide +kernel
theorem d_RR_varOf_8 : decode prog_9_method_8_code 8 = .ok (.if_icmp .eq 13, 3) := by decide +kernel
theorem d_RR_varOf_21 : decode prog_9_method_8_code 21 = .ok (.iconst (-1), 1) := by decide +kernel
theorem d_RR_varOf_22 : decode prog_9_method_8_code 22 = .ok (.goto 9, 3) := by decide +kernel
theorem d_RR_varOf_31 : decode prog_9_method_8_code 31 = .ok (.ireturn, 1) := by decide +kernel
theorem d_RR_varOf_11 : decode prog_9_method_8_code 11 = .ok (.aload_n 0, 1) := by decide +kernel
theorem d_RR_varOf_12 : decode prog_9_method_8_code 12 = .ok (.getfield 31, 3) := by decide +kernel
theorem d_RR_varOf_15 : decode prog_9_method_8_code 15 = .ok (.iload_n 2, 1) := by decide +kernel
theorem d_RR_varOf_16 : decode prog_9_method_8_code 16 = .ok (.iaload, 1) := by decide +kernel
theorem d_RR_varOf_17 : decode prog_9_method_8_code 17 = .ok (.iconst 5, 1) := by decide +kernel
theorem d_RR_varOf_18 : decode prog_9_method_8_code 18 = .ok (.if_icmp .eq 7, 3) := by decide +kernel
theorem d_RR_varOf_25 : decode prog_9_method_8_code 25 = .ok (.aload_n 0, 1) := by decide +kernel
theorem d_RR_varOf_26 : decode prog_9_method_8_code 26 = .ok (.getfield 34, 3) := by decide +kernel
theorem d_RR_varOf_29 : decode prog_9_method_8_code 29 = .ok (.iload_n 2, 1) := by decide +kernel
theorem d_RR_varOf_30 : decode prog_9_method_8_code 30 = .ok (.iaload, 1) := by decide +kernel
theorem d_RR_kindOf_0 : decode prog_9_method_9_code 0 = .ok (.aload_n 0, 1) := by decide +kernel
theorem d_RR_kindOf_1 : decode prog_9_method_9_code 1 = .ok (.iload_n 1, 1) := by decide +kernel
theorem d_RR_kindOf_2 : decode prog_9_method_9_code 2 = .ok (.invokevirtual 79, 3) := by decide +kernel
theorem d_RR_kindOf_5 : decode prog_9_method_9_code 5 = .ok (.istore_n 2, 1) := by decide +kernel
theorem d_RR_kindOf_6 : decode prog_9_method_9_code 6 = .ok (.iload_n 2, 1) := by decide +kernel
theorem d_RR_kindOf_7 : decode prog_9_method_9_code 7 = .ok (.iconst (-1), 1) := by decide +kernel
theorem d_RR_kindOf_8 : decode prog_9_method_9_code 8 = .ok (.if_icmp .ne 7, 3) := by decide +kernel
theorem d_RR_kindOf_15 : decode prog_9_method_9_code 15 = .ok (.aload_n 0, 1) := by decide +kernel
theorem d_RR_kindOf_16 : decode prog_9_method_9_code 16 = .ok (.getfield 37, 3) := by decide +kernel
theorem d_RR_kindOf_19 : decode prog_9_method_9_code 19 = .ok (.iload_n 2, 1) := by decide +kernel
theorem d_RR_kindOf_20 : decode prog_9_method_9_code 20 = .ok (.baload, 1) := by decide +kernel
theorem d_RR_kindOf_21 : decode prog_9_method_9_code 21 = .ok (.ifCond .eq 7, 3) := by decide +kernel
theorem d_RR_kindOf_28 : decode prog_9_method_9_code 28 = .ok (.iconst 1, 1) := by decide +kernel
theorem d_RR_kindOf_29 : decode prog_9_method_9_code 29 = .ok (.ireturn, 1) := by decide +kernel
theorem d_RR_kindOf_24 : decode prog_9_method_9_code 24 = .ok (.iconst 2, 1) := by decide +kernel
theorem d_RR_kindOf_25 : decode prog_9_method_9_code 25 = .ok (.goto 4, 3) := by decide +kernel
theorem d_RR_kindOf_11 : decode prog_9_method_9_code 11 = .ok (.iconst 0, 1) := by decide +kernel
theorem d_RR_kindOf_12 : decode prog_9_method_9_code 12 = .ok (.goto 17, 3) := by decide +kernel
theorem d_RR_isTruth_0 : decode prog_9_method_10_code 0 = .ok (.aload_n 0, 1) := by decide +kernel
theorem d_RR_isTruth_1 : decode prog_9_method_10_code 1 = .ok (.getfield 24, 3) := by decide +kernel
theorem d_RR_isTruth_4 : decode prog_9_method_10_code 4 = .ok (.iconst 0, 1) := by decide +kernel
theorem d_RR_isTruth_5 : decode prog_9_method_10_code 5 = .ok (.baload, 1) := by decide +kernel
theorem d_RR_isTruth_6 : decode prog_9_method_10_code 6 = .ok (.ireturn, 1) := by decide +kernel
theorem d_RR_pushKind_0 : decode prog_9_method_15_code 0 = .ok (.aload_n 0, 1) := by decide +kernel
theorem d_RR_pushKind_1 : decode prog_9_method_15_code 1 = .ok (.getfield 90, 3) := by decide +kernel
theorem d_RR_pushKind_4 : decode prog_9_method_15_code 4 = .ok (.sipush 336, 3) := by decide +kernel
theorem d_RR_pushKind_7 : decode prog_9_method_15_code 7 = .ok (.if_icmp .ge 20, 3) := by decide +kernel
theorem d_RR_pushKind_27 : decode prog_9_method_15_code 27 = .ok (.return_, 1) := by decide +kernel
theorem d_RR_pushKind_10 : decode prog_9_method_15_code 10 = .ok (.aload_n 0, 1) := by decide +kernel
theorem d_RR_pushKind_11 : decode prog_9_method_15_code 11 = .ok (.getfield 24, 3) := by decide +kernel
theorem d_RR_pushKind_14 : decode prog_9_method_15_code 14 = .ok (.aload_n 0, 1) := by decide +kernel
theorem d_RR_pushKind_15 : decode prog_9_method_15_code 15 = .ok (.dup, 1) := by decide +kernel
theorem d_RR_pushKind_16 : decode prog_9_method_15_code 16 = .ok (.getfield 90, 3) := by decide +kernel
theorem d_RR_pushKind_19 : decode prog_9_method_15_code 19 = .ok (.dup_x1, 1) := by decide +kernel
theorem d_RR_pushKind_20 : decode prog_9_method_15_code 20 = .ok (.iconst 1, 1) := by decide +kernel
theorem d_RR_pushKind_21 : decode prog_9_method_15_code 21 = .ok (.iadd, 1) := by decide +kernel
theorem d_RR_pushKind_22 : decode prog_9_method_15_code 22 = .ok (.putfield 90, 3) := by decide +kernel
theorem d_RR_pushKind_25 : decode prog_9_method_15_code 25 = .ok (.iload_n 1, 1) := by decide +kernel
theorem d_RR_pushKind_26 : decode prog_9_method_15_code 26 = .ok (.bastore, 1) := by decide +kernel
theorem d_RR_popKind_0 : decode prog_9_method_16_code 0 = .ok (.aload_n 0, 1) := by decide +kernel
theorem d_RR_popKind_1 : decode prog_9_method_16_code 1 = .ok (.getfield 90, 3) := by decide +kernel
theorem d_RR_popKind_4 : decode prog_9_method_16_code 4 = .ok (.ifCond .le 26, 3) := by decide +kernel
theorem d_RR_popKind_30 : decode prog_9_method_16_code 30 = .ok (.iconst 0, 1) := by decide +kernel
theorem d_RR_popKind_31 : decode prog_9_method_16_code 31 = .ok (.ireturn, 1) := by decide +kernel
theorem d_RR_popKind_7 : decode prog_9_method_16_code 7 = .ok (.aload_n 0, 1) := by decide +kernel
theorem d_RR_popKind_8 : decode prog_9_method_16_code 8 = .ok (.getfield 24, 3) := by decide +kernel
theorem d_RR_popKind_11 : decode prog_9_method_16_code 11 = .ok (.aload_n 0, 1) := by decide +kernel
theorem d_RR_popKind_12 : decode prog_9_method_16_code 12 = .ok (.dup, 1) := by decide +kernel
theorem d_RR_popKind_13 : decode prog_9_method_16_code 13 = .ok (.getfield 90, 3) := by decide +kernel
theorem d_RR_popKind_16 : decode prog_9_method_16_code 16 = .ok (.iconst 1, 1) := by decide +kernel
theorem d_RR_popKind_17 : decode prog_9_method_16_code 17 = .ok (.isub, 1) := by decide +kernel
theorem d_RR_popKind_18 : decode prog_9_method_16_code 18 = .ok (.dup_x1, 1) := by decide +kernel
theorem d_RR_popKind_19 : decode prog_9_method_16_code 19 = .ok (.putfield 90, 3) := by decide +kernel
theorem d_RR_popKind_22 : decode prog_9_method_16_code 22 = .ok (.baload, 1) := by decide +kernel
theorem d_RR_popKind_23 : decode prog_9_method_16_code 23 = .ok (.ifCond .eq 7, 3) := by decide +kernel
theorem d_RR_popKind_26 : decode prog_9_method_16_code 26 = .ok (.iconst 1, 1) := by decide +kernel
theorem d_RR_popKind_27 : decode prog_9_method_16_code 27 = .ok (.goto 4, 3) := by decide +kernel
theorem d_RR_push_0 : decode prog_9_method_18_code 0 = .ok (.aload_n 0, 1) := by decide +kernel
theorem d_RR_push_1 : decode prog_9_method_18_code 1 = .ok (.getfield 87, 3) := by decide +kernel
theorem d_RR_push_4 : decode prog_9_method_18_code 4 = .ok (.sipush 336, 3) := by decide +kernel
theorem d_RR_push_7 : decode prog_9_method_18_code 7 = .ok (.if_icmp .ge 53, 3) := by decide +kernel
theorem d_RR_push_60 : decode prog_9_method_18_code 60 = .ok (.aload_n 0, 1) := by decide +kernel
theorem d_RR_push_61 : decode prog_9_method_18_code 61 = .ok (.iconst 1, 1) := by decide +kernel
theorem d_RR_push_62 : decode prog_9_method_18_code 62 = .ok (.putfield 93, 3) := by decide +kernel
theorem d_RR_push_65 : decode prog_9_method_18_code 65 = .ok (.aload_n 0, 1) := by decide +kernel
theorem d_RR_push_66 : decode prog_9_method_18_code 66 = .ok (.dup, 1) := by decide +kernel
theorem d_RR_push_67 : decode prog_9_method_18_code 67 = .ok (.getfield 48, 3) := by decide +kernel
theorem d_RR_push_70 : decode prog_9_method_18_code 70 = .ok (.iconst 1, 1) := by decide +kernel
theorem d_RR_push_71 : decode prog_9_method_18_code 71 = .ok (.iadd, 1) := by decide +kernel
theorem d_RR_push_72 : decode prog_9_method_18_code 72 = .ok (.putfield 48, 3) := by decide +kernel
theorem d_RR_push_75 : decode prog_9_method_18_code 75 = .ok (.return_, 1) := by decide +kernel
theorem d_RR_push_10 : decode prog_9_method_18_code 10 = .ok (.aload_n 0, 1) := by decide +kernel
theorem d_RR_push_11 : decode prog_9_method_18_code 11 = .ok (.getfield 11, 3) := by decide +kernel
theorem d_RR_push_14 : decode prog_9_method_18_code 14 = .ok (.aload_n 0, 1) := by decide +kernel
theorem d_RR_push_15 : decode prog_9_method_18_code 15 = .ok (.getfield 87, 3) := by decide +kernel
theorem d_RR_push_18 : decode prog_9_method_18_code 18 = .ok (.iload_n 1, 1) := by decide +kernel
theorem d_RR_push_19 : decode prog_9_method_18_code 19 = .ok (.iastore, 1) := by decide +kernel
theorem d_RR_push_20 : decode prog_9_method_18_code 20 = .ok (.aload_n 0, 1) := by decide +kernel
theorem d_RR_push_21 : decode prog_9_method_18_code 21 = .ok (.getfield 15, 3) := by decide +kernel
theorem d_RR_push_24 : decode prog_9_method_18_code 24 = .ok (.aload_n 0, 1) := by decide +kernel
theorem d_RR_push_25 : decode prog_9_method_18_code 25 = .ok (.getfield 87, 3) := by decide +kernel
theorem d_RR_push_28 : decode prog_9_method_18_code 28 = .ok (.iload_n 2, 1) := by decide +kernel
theorem d_RR_push_29 : decode prog_9_method_18_code 29 = .ok (.iastore, 1) := by decide +kernel
theorem d_RR_push_30 : decode prog_9_method_18_code 30 = .ok (.aload_n 0, 1) := by decide +kernel
theorem d_RR_push_31 : decode prog_9_method_18_code 31 = .ok (.getfield 18, 3) := by decide +kernel
theorem d_RR_push_34 : decode prog_9_method_18_code 34 = .ok (.aload_n 0, 1) := by decide +kernel
theorem d_RR_push_35 : decode prog_9_method_18_code 35 = .ok (.getfield 87, 3) := by decide +kernel
theorem d_RR_push_38 : decode prog_9_method_18_code 38 = .ok (.iload_n 3, 1) := by decide +kernel
theorem d_RR_push_39 : decode prog_9_method_18_code 39 = .ok (.iastore, 1) := by decide +kernel
theorem d_RR_push_40 : decode prog_9_method_18_code 40 = .ok (.aload_n 0, 1) := by decide +kernel
theorem d_RR_push_41 : decode prog_9_method_18_code 41 = .ok (.getfield 21, 3) := by decide +kernel
theorem d_RR_push_44 : decode prog_9_method_18_code 44 = .ok (.aload_n 0, 1) := by decide +kernel
theorem d_RR_push_45 : decode prog_9_method_18_code 45 = .ok (.getfield 87, 3) := by decide +kernel
theorem d_RR_push_48 : decode prog_9_method_18_code 48 = .ok (.iconst 0, 1) := by decide +kernel
theorem d_RR_push_49 : decode prog_9_method_18_code 49 = .ok (.iastore, 1) := by decide +kernel
theorem d_RR_push_50 : decode prog_9_method_18_code 50 = .ok (.aload_n 0, 1) := by decide +kernel
theorem d_RR_push_51 : decode prog_9_method_18_code 51 = .ok (.dup, 1) := by decide +kernel
theorem d_RR_push_52 : decode prog_9_method_18_code 52 = .ok (.getfield 87, 3) := by decide +kernel
theorem d_RR_push_55 : decode prog_9_method_18_code 55 = .ok (.iconst 1, 1) := by decide +kernel
theorem d_RR_push_56 : decode prog_9_method_18_code 56 = .ok (.iadd, 1) := by decide +kernel
theorem d_RR_push_57 : decode prog_9_method_18_code 57 = .ok (.putfield 87, 3) := by decide +kernel
theorem d_RR_level_0 : decode prog_9_method_19_code 0 = .ok (.iload_n 0, 1) := by decide +kernel
theorem d_RR_level_1 : decode prog_9_method_19_code 1 = .ok (.tableswitch 120 19 41 #[113, 113, 113, 113, 113, 113, 115, 115, 117, 117, 117, 109, 107, 120, 120, 120, 120, 120, 120, 120, 120, 120, 111], 107) := by decide +kernel
theorem d_RR_level_114 : decode prog_9_method_19_code 114 = .ok (.iconst 4, 1) := by decide +kernel
theorem d_RR_level_115 : decode prog_9_method_19_code 115 = .ok (.ireturn, 1) := by decide +kernel
theorem d_RR_level_116 : decode prog_9_method_19_code 116 = .ok (.iconst 5, 1) := by decide +kernel
theorem d_RR_level_117 : decode prog_9_method_19_code 117 = .ok (.ireturn, 1) := by decide +kernel
theorem d_RR_level_118 : decode prog_9_method_19_code 118 = .ok (.bipush 6, 2) := by decide +kernel
theorem d_RR_level_120 : decode prog_9_method_19_code 120 = .ok (.ireturn, 1) := by decide +kernel
theorem d_RR_level_110 : decode prog_9_method_19_code 110 = .ok (.iconst 2, 1) := by decide +kernel
theorem d_RR_level_111 : decode prog_9_method_19_code 111 = .ok (.ireturn, 1) := by decide +kernel
theorem d_RR_level_108 : decode prog_9_method_19_code 108 = .ok (.iconst 1, 1) := by decide +kernel
theorem d_RR_level_109 : decode prog_9_method_19_code 109 = .ok (.ireturn, 1) := by decide +kernel
theorem d_RR_level_121 : decode prog_9_method_19_code 121 = .ok (.iconst 0, 1) := by decide +kernel
theorem d_RR_level_122 : decode prog_9_method_19_code 122 = .ok (.ireturn, 1) := by decide +kernel
theorem d_RR_level_112 : decode prog_9_method_19_code 112 = .ok (.iconst 3, 1) := by decide +kernel
theorem d_RR_level_113 : decode prog_9_method_19_code 113 = .ok (.ireturn, 1) := by decide +kernel
def f_RR_varOf (h0_nameWord_n : Nat) (h0_words_amounts_n : Nat) (h0_words_starts_n : Nat) (h0_words_tape_n : Nat) (h0_nameSort_n : Nat) (h0_nameIndex_n : Nat) (l1 : Int32) (h0_nameCount : Int32) (h0_nameWord_c : Nat → Int32) (h0_words_amounts_c : Nat → Int32) (h0_words_starts_c : Nat → Int32) (h0_words_tape_c : Nat → Int32) (h0_nameSort_c : Nat → Int32) (h0_nameIndex_c : Nat → Int32) (n : Nat) : Option (Int32) := Option.bind (f_RR_find h0_words_amounts_n h0_nameWord_n h0_words_starts_n h0_words_tape_n l1 h0_nameCount h0_words_amounts_c h0_nameWord_c h0_words_starts_c h0_words_tape_c n 0 0 0) (fun o1 => if (o1 : Int32) = (-1) then some ((-1)) else chk (0 ≤ (o1 : Int32).toInt ∧ (o1 : Int32).toInt < h0_nameSort_n) (if ((h0_nameSort_c (o1 : Int32).toNatClampNeg) : Int32) = 5 then chk (0 ≤ (o1 : Int32).toInt ∧ (o1 : Int32).toInt < h0_nameIndex_n) (some ((h0_nameIndex_c (o1 : Int32).toNatClampNeg))) else some ((-1))))
set_option maxHeartbeats 4000000 in
set_option maxRecDepth 100000 in
theorem b_RR_varOf_0 {p : Program} {l : Launch} {e : Env} {s : State} {m : MethodId} {args : Array Value} {below : List Frame} {meth : Method} {c : Code} {D : va_G} {tA : Nat → ClassId} {A : Nat → Prop} {h0 h0_words h0_nameWord h0_words_amounts h0_words_starts h0_words_tape h0_nameSort h0_nameIndex : Nat} {f0_h0 f0_h0_words : List Value} {h0_nameWord_n : Nat} {h0_words_amounts_n : Nat} {h0_words_starts_n : Nat} {h0_words_tape_n : Nat} {h0_nameSort_n : Nat} {h0_nameIndex_n : Nat} {l1 : Int32} {h0_nameCount : Int32} {h0_nameWord_c : Nat → Int32} {h0_words_amounts_c : Nat → Int32} {h0_words_starts_c : Nat → Int32} {h0_words_tape_c : Nat → Int32} {h0_nameSort_c : Nat → Int32} {h0_nameIndex_c : Nat → Int32} {out : Int32} (hx : p.tables.exec = Jvm.exec) (hb : c.code = prog_9_method_8_code) (hr : meth.sig.returnType = (Option.some Jvm.ClassFile.FieldType.int)) (hml : c.maxLocals = 3) (hh : zH s) (hg : ∀ w ∈ lw_R, w.before args s = true) (hown : s.vm.findClass "ChanceArena$RuleReader" = some m.cls) (hlocks : meth.locks = false) (hK : va_K D vwCl (zT tA) s) (hA : ∀ q, s.heap.size ≤ q → A q) {n : Nat}  : ∀ (H : Heap) (locs : List Loc) (ls : Array Slot), f_RR_varOf h0_nameWord_n h0_words_amounts_n h0_words_starts_n h0_words_tape_n h0_nameSort_n h0_nameIndex_n l1 h0_nameCount h0_nameWord_c h0_words_amounts_c h0_words_starts_c h0_words_tape_c h0_nameSort_c h0_nameIndex_c n = some out → f0_h0[0]? = some (.ref h0_words) → f0_h0[15]? = some (.ref h0_nameWord) → f0_h0[16]? = some (.ref h0_nameSort) → f0_h0[17]? = some (.ref h0_nameIndex) → f0_h0[19]? = some (.int h0_nameCount) → f0_h0_words[5]? = some (.ref h0_words_amounts) → f0_h0_words[4]? = some (.ref h0_words_starts) → f0_h0_words[0]? = some (.ref h0_words_tape) → va_P D vwCl [(h0, .inr (3, f0_h0)), (h0_words, .inr (1, f0_h0_words)), (h0_nameWord, .inl (tA 0, h0_nameWord_n, .inl h0_nameWord_c)), (h0_words_amounts, .inl (tA 0, h0_words_amounts_n, .inl h0_words_amounts_c)), (h0_words_starts, .inl (tA 0, h0_words_starts_n, .inl h0_words_starts_c)), (h0_words_tape, .inl (tA 2, h0_words_tape_n, .inl h0_words_tape_c)), (h0_nameSort, .inl (tA 0, h0_nameSort_n, .inl h0_nameSort_c)), (h0_nameIndex, .inl (tA 0, h0_nameIndex_n, .inl h0_nameIndex_c))] H → va_D A [(h0, .inr (3, f0_h0)), (h0_words, .inr (1, f0_h0_words)), (h0_nameWord, .inl (tA 0, h0_nameWord_n, .inl h0_nameWord_c)), (h0_words_amounts, .inl (tA 0, h0_words_amounts_n, .inl h0_words_amounts_c)), (h0_words_starts, .inl (tA 0, h0_words_starts_n, .inl h0_words_starts_c)), (h0_words_tape, .inl (tA 2, h0_words_tape_n, .inl h0_words_tape_c)), (h0_nameSort, .inl (tA 0, h0_nameSort_n, .inl h0_nameSort_c)), (h0_nameIndex, .inl (tA 0, h0_nameIndex_n, .inl h0_nameIndex_c))] → va_S A s.heap H locs → lv_has ls 3 [(0, .ref h0), (1, .int l1)] → W p l e { frames := 2, cells := 0, slots := 0, locals := 48 } s m args below meth c H locs 0 0 (MQ below (va_Qi (fun (r9 : Int32) (u9 : Unit) => r9 = out) (zPost D A (fun (u9 : Unit) => [(h0, .inr (3, f0_h0)), (h0_words, .inr (1, f0_h0_words)), (h0_nameWord, .inl (tA 0, h0_nameWord_n, .inl h0_nameWord_c)), (h0_words_amounts, .inl (tA 0, h0_words_amounts_n, .inl h0_words_amounts_c)), (h0_words_starts, .inl (tA 0, h0_words_starts_n, .inl h0_words_starts_c)), (h0_words_tape, .inl (tA 2, h0_words_tape_n, .inl h0_words_tape_c)), (h0_nameSort, .inl (tA 0, h0_nameSort_n, .inl h0_nameSort_c)), (h0_nameIndex, .inl (tA 0, h0_nameIndex_n, .inl h0_nameIndex_c))])) A) args s 0 0 A) (F0 m 0 ls []) := by
  intro    H locs ls hF q_h0_words q_h0_nameWord q_h0_nameSort q_h0_nameIndex q_h0_nameCount q_h0_words_amounts q_h0_words_starts q_h0_words_tape hP hD hS hl
  replace hF : ((Option.bind (f_RR_find h0_words_amounts_n h0_nameWord_n h0_words_starts_n h0_words_tape_n l1 h0_nameCount h0_words_amounts_c h0_nameWord_c h0_words_starts_c h0_words_tape_c n 0 0 0) (fun o1 => if (o1 : Int32) = (-1) then some ((-1)) else chk (0 ≤ (o1 : Int32).toInt ∧ (o1 : Int32).toInt < h0_nameSort_n) (if ((h0_nameSort_c (o1 : Int32).toNatClampNeg) : Int32) = 5 then chk (0 ≤ (o1 : Int32).toInt ∧ (o1 : Int32).toInt < h0_nameIndex_n) (some ((h0_nameIndex_c (o1 : Int32).toNatClampNeg))) else some ((-1))))) : Option (Int32)) = some out := hF
  refine lv_aload_n hx hb d_RR_varOf_0 rfl (lv_at hl 0 rfl) ?_
  refine lv_iload_n hx hb d_RR_varOf_1 rfl (lv_at hl 1 rfl) ?_
  obtain ⟨o1, h1, hF⟩ := bsome hF
  refine zCalli (wc := [(h0, .inr (3, f0_h0)), (h0_words, .inr (1, f0_h0_words)), (h0_words_amounts, .inl (tA 0, h0_words_amounts_n, .inl h0_words_amounts_c)), (h0_nameWord, .inl (tA 0, h0_nameWord_n, .inl h0_nameWord_c)), (h0_words_starts, .inl (tA 0, h0_words_starts_n, .inl h0_words_starts_c)), (h0_words_tape, .inl (tA 2, h0_words_tape_n, .inl h0_words_tape_c))]) (wr := [(h0_nameSort, .inl (tA 0, h0_nameSort_n, .inl h0_nameSort_c)), (h0_nameIndex, .inl (tA 0, h0_nameIndex_n, .inl h0_nameIndex_c))]) hP hD hS hA [0, 1, 3, 2, 4, 5] [6, 7] rfl rfl (by decide) (by decide) (va_runV (As := [.int l1]) (rest := []) ⟨hx, hb, hml, hown, hg⟩ (m_RR_find l D tA _ h0 h0_words h0_words_amounts h0_nameWord h0_words_starts h0_words_tape f0_h0 f0_h0_words h0_words_amounts_n h0_nameWord_n h0_words_starts_n h0_words_tape_n l1 h0_nameCount h0_words_amounts_c h0_nameWord_c h0_words_starts_c h0_words_tape_c q_h0_words q_h0_nameWord q_h0_nameCount q_h0_words_amounts q_h0_words_starts q_h0_words_tape n o1 h1) (zV 1 hg k4_186 k4_154 k4_155 k1_4 k4_156 rfl rfl (by decide +kernel) ⟨(Nat.le_of_ble_eq_true rfl), (Nat.le_of_ble_eq_true rfl)⟩) (zPreV hh hK hP hD [0, 1, 3, 2, 4, 5] (by decide) rfl (ci := 3) rfl 0 rfl) rfl rfl hl.1 rfl (lv_room (Nat.le_of_ble_eq_true rfl)) d_RR_varOf_2 ⟨(Nat.le_of_ble_eq_true rfl), (Nat.le_of_ble_eq_true rfl)⟩) (fun r1 u1 H1 locs1 e1 hP1 hD1 hS1 => ?_)
  clear hP hD hS
  refine W.cs (cells' := 0) (slots' := 0) rfl rfl ?_
  have x1 := e1
  rw [x1]
  replace hP1 : va_P D vwCl [(h0_nameSort, .inl (tA 0, h0_nameSort_n, .inl h0_nameSort_c)), (h0_nameIndex, .inl (tA 0, h0_nameIndex_n, .inl h0_nameIndex_c)), (h0, .inr (3, f0_h0)), (h0_words, .inr (1, f0_h0_words)), (h0_words_amounts, .inl (tA 0, h0_words_amounts_n, .inl h0_words_amounts_c)), (h0_nameWord, .inl (tA 0, h0_nameWord_n, .inl h0_nameWord_c)), (h0_words_starts, .inl (tA 0, h0_words_starts_n, .inl h0_words_starts_c)), (h0_words_tape, .inl (tA 2, h0_words_tape_n, .inl h0_words_tape_c))] _ := hP1
  replace hD1 : va_D A [(h0_nameSort, .inl (tA 0, h0_nameSort_n, .inl h0_nameSort_c)), (h0_nameIndex, .inl (tA 0, h0_nameIndex_n, .inl h0_nameIndex_c)), (h0, .inr (3, f0_h0)), (h0_words, .inr (1, f0_h0_words)), (h0_words_amounts, .inl (tA 0, h0_words_amounts_n, .inl h0_words_amounts_c)), (h0_nameWord, .inl (tA 0, h0_nameWord_n, .inl h0_nameWord_c)), (h0_words_starts, .inl (tA 0, h0_words_starts_n, .inl h0_words_starts_c)), (h0_words_tape, .inl (tA 2, h0_words_tape_n, .inl h0_words_tape_c))] := hD1
  refine lv_istore_n (lv' := [(2, .int o1), (0, .ref h0), (1, .int l1)]) hx hb d_RR_varOf_5 rfl hl (by decide) rfl (fun ls hl => ?_)
  refine lv_iload_n hx hb d_RR_varOf_6 rfl (lv_at hl 0 rfl) ?_
  refine lv_iconst (v := (-1)) hx hb d_RR_varOf_7 (by decide) ?_
  refine lv_icmp_eq (tgt := 21) hx hb d_RR_varOf_8 (by decide) (fun c9 => ?_) (fun c9 => ?_)
  · replace hF := ifp c9 hF
    refine lv_iconst (v := (-1)) hx hb d_RR_varOf_21 (by decide) ?_
    refine lv_goto (tgt := 31) hx hb d_RR_varOf_22 (by decide) ?_
    replace hF := Option.some.inj hF
    subst hF
    exact zZret (post := (fun (r9 : Int32) (u9 : Unit) => r9 = (-1))) (W1 := (fun (u9 : Unit) => [(h0, .inr (3, f0_h0)), (h0_words, .inr (1, f0_h0_words)), (h0_nameWord, .inl (tA 0, h0_nameWord_n, .inl h0_nameWord_c)), (h0_words_amounts, .inl (tA 0, h0_words_amounts_n, .inl h0_words_amounts_c)), (h0_words_starts, .inl (tA 0, h0_words_starts_n, .inl h0_words_starts_c)), (h0_words_tape, .inl (tA 2, h0_words_tape_n, .inl h0_words_tape_c)), (h0_nameSort, .inl (tA 0, h0_nameSort_n, .inl h0_nameSort_c)), (h0_nameIndex, .inl (tA 0, h0_nameIndex_n, .inl h0_nameIndex_c))])) (v := (-1)) hx hb hr rfl hlocks (zPc (wc := [(h0, .inr (3, f0_h0)), (h0_words, .inr (1, f0_h0_words)), (h0_nameWord, .inl (tA 0, h0_nameWord_n, .inl h0_nameWord_c)), (h0_words_amounts, .inl (tA 0, h0_words_amounts_n, .inl h0_words_amounts_c)), (h0_words_starts, .inl (tA 0, h0_words_starts_n, .inl h0_words_starts_c)), (h0_words_tape, .inl (tA 2, h0_words_tape_n, .inl h0_words_tape_c)), (h0_nameSort, .inl (tA 0, h0_nameSort_n, .inl h0_nameSort_c)), (h0_nameIndex, .inl (tA 0, h0_nameIndex_n, .inl h0_nameIndex_c))]) hP1 [2, 3, 5, 4, 6, 7, 0, 1] rfl) (va_D.sub (ws' := [(h0, .inr (3, f0_h0)), (h0_words, .inr (1, f0_h0_words)), (h0_nameWord, .inl (tA 0, h0_nameWord_n, .inl h0_nameWord_c)), (h0_words_amounts, .inl (tA 0, h0_words_amounts_n, .inl h0_words_amounts_c)), (h0_words_starts, .inl (tA 0, h0_words_starts_n, .inl h0_words_starts_c)), (h0_words_tape, .inl (tA 2, h0_words_tape_n, .inl h0_words_tape_c)), (h0_nameSort, .inl (tA 0, h0_nameSort_n, .inl h0_nameSort_c)), (h0_nameIndex, .inl (tA 0, h0_nameIndex_n, .inl h0_nameIndex_c))]) hD1 [2, 3, 5, 4, 6, 7, 0, 1] (by decide) rfl) hS1 () rfl rfl d_RR_varOf_31
  · replace hF := ifn c9 hF
    refine lv_aload_n hx hb d_RR_varOf_11 rfl (lv_at hl 1 rfl) ?_
    refine va_get (D := D) (ci := 3) (v := .ref h0_nameSort) (C := R_RR) (T := T_RR) (N := 20) hx hb hg i_RR hown hK hP1 2 rfl rfl 16 (by decide) (hg _ k1_117) (fun _ h9 => h9) q_h0_nameSort d_RR_varOf_12 ?_
    refine lv_iload_n hx hb d_RR_varOf_15 rfl (lv_at hl 0 rfl) ?_
    obtain ⟨h9, hF⟩ := chk_some hF
    refine va_iald hx hb hK hP1 0 0 rfl rfl (vp_in_iff.mpr h9) d_RR_varOf_16 ?_
    refine lv_iconst (v := 5) hx hb d_RR_varOf_17 (by decide) ?_
    refine lv_icmp_eq (tgt := 25) hx hb d_RR_varOf_18 (by decide) (fun c9 => ?_) (fun c9 => ?_)
    · replace hF := ifp c9 hF
      refine lv_aload_n hx hb d_RR_varOf_25 rfl (lv_at hl 1 rfl) ?_
      refine va_get (D := D) (ci := 3) (v := .ref h0_nameIndex) (C := R_RR) (T := T_RR) (N := 20) hx hb hg i_RR hown hK hP1 2 rfl rfl 17 (by decide) (hg _ k1_118) (fun _ h9 => h9) q_h0_nameIndex d_RR_varOf_26 ?_
      refine lv_iload_n hx hb d_RR_varOf_29 rfl (lv_at hl 0 rfl) ?_
      obtain ⟨h9, hF⟩ := chk_some hF
      refine va_iald hx hb hK hP1 1 0 rfl rfl (vp_in_iff.mpr h9) d_RR_varOf_30 ?_
      replace hF := Option.some.inj hF
      subst hF
      exact zZret (post := (fun (r9 : Int32) (u9 : Unit) => r9 = (h0_nameIndex_c (o1 : Int32).toNatClampNeg))) (W1 := (fun (u9 : Unit) => [(h0, .inr (3, f0_h0)), (h0_words, .inr (1, f0_h0_words)), (h0_nameWord, .inl (tA 0, h0_nameWord_n, .inl h0_nameWord_c)), (h0_words_amounts, .inl (tA 0, h0_words_amounts_n, .inl h0_words_amounts_c)), (h0_words_starts, .inl (tA 0, h0_words_starts_n, .inl h0_words_starts_c)), (h0_words_tape, .inl (tA 2, h0_words_tape_n, .inl h0_words_tape_c)), (h0_nameSort, .inl (tA 0, h0_nameSort_n, .inl h0_nameSort_c)), (h0_nameIndex, .inl (tA 0, h0_nameIndex_n, .inl h0_nameIndex_c))])) (v := (h0_nameIndex_c (o1 : Int32).toNatClampNeg)) hx hb hr rfl hlocks (zPc (wc := [(h0, .inr (3, f0_h0)), (h0_words, .inr (1, f0_h0_words)), (h0_nameWord, .inl (tA 0, h0_nameWord_n, .inl h0_nameWord_c)), (h0_words_amounts, .inl (tA 0, h0_words_amounts_n, .inl h0_words_amounts_c)), (h0_words_starts, .inl (tA 0, h0_words_starts_n, .inl h0_words_starts_c)), (h0_words_tape, .inl (tA 2, h0_words_tape_n, .inl h0_words_tape_c)), (h0_nameSort, .inl (tA 0, h0_nameSort_n, .inl h0_nameSort_c)), (h0_nameIndex, .inl (tA 0, h0_nameIndex_n, .inl h0_nameIndex_c))]) hP1 [2, 3, 5, 4, 6, 7, 0, 1] rfl) (va_D.sub (ws' := [(h0, .inr (3, f0_h0)), (h0_words, .inr (1, f0_h0_words)), (h0_nameWord, .inl (tA 0, h0_nameWord_n, .inl h0_nameWord_c)), (h0_words_amounts, .inl (tA 0, h0_words_amounts_n, .inl h0_words_amounts_c)), (h0_words_starts, .inl (tA 0, h0_words_starts_n, .inl h0_words_starts_c)), (h0_words_tape, .inl (tA 2, h0_words_tape_n, .inl h0_words_tape_c)), (h0_nameSort, .inl (tA 0, h0_nameSort_n, .inl h0_nameSort_c)), (h0_nameIndex, .inl (tA 0, h0_nameIndex_n, .inl h0_nameIndex_c))]) hD1 [2, 3, 5, 4, 6, 7, 0, 1] (by decide) rfl) hS1 () rfl rfl d_RR_varOf_31
    · replace hF := ifn c9 hF
      refine lv_iconst (v := (-1)) hx hb d_RR_varOf_21 (by decide) ?_
      refine lv_goto (tgt := 31) hx hb d_RR_varOf_22 (by decide) ?_
      replace hF := Option.some.inj hF
      subst hF
      exact zZret (post := (fun (r9 : Int32) (u9 : Unit) => r9 = (-1))) (W1 := (fun (u9 : Unit) => [(h0, .inr (3, f0_h0)), (h0_words, .inr (1, f0_h0_words)), (h0_nameWord, .inl (tA 0, h0_nameWord_n, .inl h0_nameWord_c)), (h0_words_amounts, .inl (tA 0, h0_words_amounts_n, .inl h0_words_amounts_c)), (h0_words_starts, .inl (tA 0, h0_words_starts_n, .inl h0_words_starts_c)), (h0_words_tape, .inl (tA 2, h0_words_tape_n, .inl h0_words_tape_c)), (h0_nameSort, .inl (tA 0, h0_nameSort_n, .inl h0_nameSort_c)), (h0_nameIndex, .inl (tA 0, h0_nameIndex_n, .inl h0_nameIndex_c))])) (v := (-1)) hx hb hr rfl hlocks (zPc (wc := [(h0, .inr (3, f0_h0)), (h0_words, .inr (1, f0_h0_words)), (h0_nameWord, .inl (tA 0, h0_nameWord_n, .inl h0_nameWord_c)), (h0_words_amounts, .inl (tA 0, h0_words_amounts_n, .inl h0_words_amounts_c)), (h0_words_starts, .inl (tA 0, h0_words_starts_n, .inl h0_words_starts_c)), (h0_words_tape, .inl (tA 2, h0_words_tape_n, .inl h0_words_tape_c)), (h0_nameSort, .inl (tA 0, h0_nameSort_n, .inl h0_nameSort_c)), (h0_nameIndex, .inl (tA 0, h0_nameIndex_n, .inl h0_nameIndex_c))]) hP1 [2, 3, 5, 4, 6, 7, 0, 1] rfl) (va_D.sub (ws' := [(h0, .inr (3, f0_h0)), (h0_words, .inr (1, f0_h0_words)), (h0_nameWord, .inl (tA 0, h0_nameWord_n, .inl h0_nameWord_c)), (h0_words_amounts, .inl (tA 0, h0_words_amounts_n, .inl h0_words_amounts_c)), (h0_words_starts, .inl (tA 0, h0_words_starts_n, .inl h0_words_starts_c)), (h0_words_tape, .inl (tA 2, h0_words_tape_n, .inl h0_words_tape_c)), (h0_nameSort, .inl (tA 0, h0_nameSort_n, .inl h0_nameSort_c)), (h0_nameIndex, .inl (tA 0, h0_nameIndex_n, .inl h0_nameIndex_c))]) hD1 [2, 3, 5, 4, 6, 7, 0, 1] (by decide) rfl) hS1 () rfl rfl d_RR_varOf_31
set_option maxHeartbeats 4000000 in
set_option maxRecDepth 100000 in
theorem m_RR_varOf (l : Launch) (D : va_G) (tA : Nat → ClassId) (sz : Nat) (h0 h0_words h0_nameWord h0_words_amounts h0_words_starts h0_words_tape h0_nameSort h0_nameIndex : Nat) (f0_h0 f0_h0_words : List Value) (h0_nameWord_n : Nat) (h0_words_amounts_n : Nat) (h0_words_starts_n : Nat) (h0_words_tape_n : Nat) (h0_nameSort_n : Nat) (h0_nameIndex_n : Nat) (l1 : Int32) (h0_nameCount : Int32) (h0_nameWord_c : Nat → Int32) (h0_words_amounts_c : Nat → Int32) (h0_words_starts_c : Nat → Int32) (h0_words_tape_c : Nat → Int32) (h0_nameSort_c : Nat → Int32) (h0_nameIndex_c : Nat → Int32) (q_h0_words : f0_h0[0]? = some (.ref h0_words)) (q_h0_nameWord : f0_h0[15]? = some (.ref h0_nameWord)) (q_h0_nameSort : f0_h0[16]? = some (.ref h0_nameSort)) (q_h0_nameIndex : f0_h0[17]? = some (.ref h0_nameIndex)) (q_h0_nameCount : f0_h0[19]? = some (.int h0_nameCount)) (q_h0_words_amounts : f0_h0_words[5]? = some (.ref h0_words_amounts)) (q_h0_words_starts : f0_h0_words[4]? = some (.ref h0_words_starts)) (q_h0_words_tape : f0_h0_words[0]? = some (.ref h0_words_tape)) (n : Nat) (out : Int32) (hF : f_RR_varOf h0_nameWord_n h0_words_amounts_n h0_words_starts_n h0_words_tape_n h0_nameSort_n h0_nameIndex_n l1 h0_nameCount h0_nameWord_c h0_words_amounts_c h0_words_starts_c h0_words_tape_c h0_nameSort_c h0_nameIndex_c n = some out) : zMi l ({ cls := "ChanceArena$RuleReader", name := "varOf", desc := "(I)I" } : Jvm.MethodName) (zW (Jvm.Cond.code ({ cls := "ChanceArena$RuleReader", name := "varOf", desc := "(I)I" } : Jvm.MethodName) prog_9_method_8_code (3 : Nat) (Option.some Jvm.ClassFile.FieldType.int))) { frames := 2, cells := 0, slots := 0, locals := 48 } [.ref h0, .int l1] D tA [(h0, .inr (3, f0_h0)), (h0_words, .inr (1, f0_h0_words)), (h0_nameWord, .inl (tA 0, h0_nameWord_n, .inl h0_nameWord_c)), (h0_words_amounts, .inl (tA 0, h0_words_amounts_n, .inl h0_words_amounts_c)), (h0_words_starts, .inl (tA 0, h0_words_starts_n, .inl h0_words_starts_c)), (h0_words_tape, .inl (tA 2, h0_words_tape_n, .inl h0_words_tape_c)), (h0_nameSort, .inl (tA 0, h0_nameSort_n, .inl h0_nameSort_c)), (h0_nameIndex, .inl (tA 0, h0_nameIndex_n, .inl h0_nameIndex_c))] sz (fun (r9 : Int32) (u9 : Unit) => r9 = out) (fun (u9 : Unit) => [(h0, .inr (3, f0_h0)), (h0_words, .inr (1, f0_h0_words)), (h0_nameWord, .inl (tA 0, h0_nameWord_n, .inl h0_nameWord_c)), (h0_words_amounts, .inl (tA 0, h0_words_amounts_n, .inl h0_words_amounts_c)), (h0_words_starts, .inl (tA 0, h0_words_starts_n, .inl h0_words_starts_c)), (h0_words_tape, .inl (tA 2, h0_words_tape_n, .inl h0_words_tape_c)), (h0_nameSort, .inl (tA 0, h0_nameSort_n, .inl h0_nameSort_c)), (h0_nameIndex, .inl (tA 0, h0_nameIndex_n, .inl h0_nameIndex_c))]) 0 0 := by
  refine zOpen (l := l) (y := ({ cls := "ChanceArena$RuleReader", name := "varOf", desc := "(I)I" } : Jvm.MethodName)) (ws := zW (Jvm.Cond.code ({ cls := "ChanceArena$RuleReader", name := "varOf", desc := "(I)I" } : Jvm.MethodName) prog_9_method_8_code (3 : Nat) (Option.some Jvm.ClassFile.FieldType.int))) (rm := { frames := 2, cells := 0, slots := 0, locals := 48 }) (av := [.ref h0, .int l1]) (D := D) (tA := tA) (W0 := [(h0, .inr (3, f0_h0)), (h0_words, .inr (1, f0_h0_words)), (h0_nameWord, .inl (tA 0, h0_nameWord_n, .inl h0_nameWord_c)), (h0_words_amounts, .inl (tA 0, h0_words_amounts_n, .inl h0_words_amounts_c)), (h0_words_starts, .inl (tA 0, h0_words_starts_n, .inl h0_words_starts_c)), (h0_words_tape, .inl (tA 2, h0_words_tape_n, .inl h0_words_tape_c)), (h0_nameSort, .inl (tA 0, h0_nameSort_n, .inl h0_nameSort_c)), (h0_nameIndex, .inl (tA 0, h0_nameIndex_n, .inl h0_nameIndex_c))]) (Wm := [(h0, .inr (3, f0_h0)), (h0_words, .inr (1, f0_h0_words)), (h0_nameWord, .inl (tA 0, h0_nameWord_n, .inl h0_nameWord_c)), (h0_words_amounts, .inl (tA 0, h0_words_amounts_n, .inl h0_words_amounts_c)), (h0_words_starts, .inl (tA 0, h0_words_starts_n, .inl h0_words_starts_c)), (h0_words_tape, .inl (tA 2, h0_words_tape_n, .inl h0_words_tape_c)), (h0_nameSort, .inl (tA 0, h0_nameSort_n, .inl h0_nameSort_c)), (h0_nameIndex, .inl (tA 0, h0_nameIndex_n, .inl h0_nameIndex_c))]) (sz := sz) (mc := 0) (ms := 0) (fun A => va_Qi (fun (r9 : Int32) (u9 : Unit) => r9 = out) (zPost D A (fun (u9 : Unit) => [(h0, .inr (3, f0_h0)), (h0_words, .inr (1, f0_h0_words)), (h0_nameWord, .inl (tA 0, h0_nameWord_n, .inl h0_nameWord_c)), (h0_words_amounts, .inl (tA 0, h0_words_amounts_n, .inl h0_words_amounts_c)), (h0_words_starts, .inl (tA 0, h0_words_starts_n, .inl h0_words_starts_c)), (h0_words_tape, .inl (tA 2, h0_words_tape_n, .inl h0_words_tape_c)), (h0_nameSort, .inl (tA 0, h0_nameSort_n, .inl h0_nameSort_c)), (h0_nameIndex, .inl (tA 0, h0_nameIndex_n, .inl h0_nameIndex_c))])) A) (lv := [(0, .ref h0), (1, .int l1)]) (by decide) rfl (Nat.le_of_ble_eq_true rfl) rfl ?_
  intro p e s m below meth c A ls hx hb hr hml hh hg hown hlocks hnm hK hA hP hD0 hAw hS hl
  have hD := zD hD0 hAw
  exact b_RR_varOf_0 hx hb hr hml hh hg hown hlocks hK hA    _ _ _ hF q_h0_words q_h0_nameWord q_h0_nameSort q_h0_nameIndex q_h0_nameCount q_h0_words_amounts q_h0_words_starts q_h0_words_tape hP hD hS hl
def f_RR_kindOf (h0_nameWord_n : Nat) (h0_words_amounts_n : Nat) (h0_words_starts_n : Nat) (h0_words_tape_n : Nat) (h0_nameTruth_n : Nat) (l1 : Int32) (h0_nameCount : Int32) (h0_nameWord_c : Nat → Int32) (h0_words_amounts_c : Nat → Int32) (h0_words_starts_c : Nat → Int32) (h0_words_tape_c : Nat → Int32) (h0_nameTruth_c : Nat → Int32) (n : Nat) : Option (Int32) := Option.bind (f_RR_find h0_words_amounts_n h0_nameWord_n h0_words_starts_n h0_words_tape_n l1 h0_nameCount h0_words_amounts_c h0_nameWord_c h0_words_starts_c h0_words_tape_c n 0 0 0) (fun o1 => if ¬ (o1 : Int32) = (-1) then chk (0 ≤ (o1 : Int32).toInt ∧ (o1 : Int32).toInt < h0_nameTruth_n) (if ((h0_nameTruth_c (o1 : Int32).toNatClampNeg) : Int32) = 0 then some (1) else some (2)) else some (0))
set_option maxHeartbeats 4000000 in
set_option maxRecDepth 100000 in
theorem b_RR_kindOf_0 {p : Program} {l : Launch} {e : Env} {s : State} {m : MethodId} {args : Array Value} {below : List Frame} {meth : Method} {c : Code} {D : va_G} {tA : Nat → ClassId} {A : Nat → Prop} {h0 h0_words h0_nameWord h0_words_amounts h0_words_starts h0_words_tape h0_nameTruth : Nat} {f0_h0 f0_h0_words : List Value} {h0_nameWord_n : Nat} {h0_words_amounts_n : Nat} {h0_words_starts_n : Nat} {h0_words_tape_n : Nat} {h0_nameTruth_n : Nat} {l1 : Int32} {h0_nameCount : Int32} {h0_nameWord_c : Nat → Int32} {h0_words_amounts_c : Nat → Int32} {h0_words_starts_c : Nat → Int32} {h0_words_tape_c : Nat → Int32} {h0_nameTruth_c : Nat → Int32} {out : Int32} (hx : p.tables.exec = Jvm.exec) (hb : c.code = prog_9_method_9_code) (hr : meth.sig.returnType = (Option.some Jvm.ClassFile.FieldType.int)) (hml : c.maxLocals = 3) (hh : zH s) (hg : ∀ w ∈ lw_R, w.before args s = true) (hown : s.vm.findClass "ChanceArena$RuleReader" = some m.cls) (hlocks : meth.locks = false) (hK : va_K D vwCl (zT tA) s) (hA : ∀ q, s.heap.size ≤ q → A q) {n : Nat}  : ∀ (H : Heap) (locs : List Loc) (ls : Array Slot), f_RR_kindOf h0_nameWord_n h0_words_amounts_n h0_words_starts_n h0_words_tape_n h0_nameTruth_n l1 h0_nameCount h0_nameWord_c h0_words_amounts_c h0_words_starts_c h0_words_tape_c h0_nameTruth_c n = some out → f0_h0[0]? = some (.ref h0_words) → f0_h0[15]? = some (.ref h0_nameWord) → f0_h0[18]? = some (.ref h0_nameTruth) → f0_h0[19]? = some (.int h0_nameCount) → f0_h0_words[5]? = some (.ref h0_words_amounts) → f0_h0_words[4]? = some (.ref h0_words_starts) → f0_h0_words[0]? = some (.ref h0_words_tape) → va_P D vwCl [(h0, .inr (3, f0_h0)), (h0_words, .inr (1, f0_h0_words)), (h0_nameWord, .inl (tA 0, h0_nameWord_n, .inl h0_nameWord_c)), (h0_words_amounts, .inl (tA 0, h0_words_amounts_n, .inl h0_words_amounts_c)), (h0_words_starts, .inl (tA 0, h0_words_starts_n, .inl h0_words_starts_c)), (h0_words_tape, .inl (tA 2, h0_words_tape_n, .inl h0_words_tape_c)), (h0_nameTruth, .inl (tA 1, h0_nameTruth_n, .inl h0_nameTruth_c))] H → va_D A [(h0, .inr (3, f0_h0)), (h0_words, .inr (1, f0_h0_words)), (h0_nameWord, .inl (tA 0, h0_nameWord_n, .inl h0_nameWord_c)), (h0_words_amounts, .inl (tA 0, h0_words_amounts_n, .inl h0_words_amounts_c)), (h0_words_starts, .inl (tA 0, h0_words_starts_n, .inl h0_words_starts_c)), (h0_words_tape, .inl (tA 2, h0_words_tape_n, .inl h0_words_tape_c)), (h0_nameTruth, .inl (tA 1, h0_nameTruth_n, .inl h0_nameTruth_c))] → va_S A s.heap H locs → lv_has ls 3 [(0, .ref h0), (1, .int l1)] → W p l e { frames := 2, cells := 0, slots := 0, locals := 48 } s m args below meth c H locs 0 0 (MQ below (va_Qi (fun (r9 : Int32) (u9 : Unit) => r9 = out) (zPost D A (fun (u9 : Unit) => [(h0, .inr (3, f0_h0)), (h0_words, .inr (1, f0_h0_words)), (h0_nameWord, .inl (tA 0, h0_nameWord_n, .inl h0_nameWord_c)), (h0_words_amounts, .inl (tA 0, h0_words_amounts_n, .inl h0_words_amounts_c)), (h0_words_starts, .inl (tA 0, h0_words_starts_n, .inl h0_words_starts_c)), (h0_words_tape, .inl (tA 2, h0_words_tape_n, .inl h0_words_tape_c)), (h0_nameTruth, .inl (tA 1, h0_nameTruth_n, .inl h0_nameTruth_c))])) A) args s 0 0 A) (F0 m 0 ls []) := by
  intro    H locs ls hF q_h0_words q_h0_nameWord q_h0_nameTruth q_h0_nameCount q_h0_words_amounts q_h0_words_starts q_h0_words_tape hP hD hS hl
  replace hF : ((Option.bind (f_RR_find h0_words_amounts_n h0_nameWord_n h0_words_starts_n h0_words_tape_n l1 h0_nameCount h0_words_amounts_c h0_nameWord_c h0_words_starts_c h0_words_tape_c n 0 0 0) (fun o1 => if ¬ (o1 : Int32) = (-1) then chk (0 ≤ (o1 : Int32).toInt ∧ (o1 : Int32).toInt < h0_nameTruth_n) (if ((h0_nameTruth_c (o1 : Int32).toNatClampNeg) : Int32) = 0 then some (1) else some (2)) else some (0))) : Option (Int32)) = some out := hF
  refine lv_aload_n hx hb d_RR_kindOf_0 rfl (lv_at hl 0 rfl) ?_
  refine lv_iload_n hx hb d_RR_kindOf_1 rfl (lv_at hl 1 rfl) ?_
  obtain ⟨o1, h1, hF⟩ := bsome hF
  refine zCalli (wc := [(h0, .inr (3, f0_h0)), (h0_words, .inr (1, f0_h0_words)), (h0_words_amounts, .inl (tA 0, h0_words_amounts_n, .inl h0_words_amounts_c)), (h0_nameWord, .inl (tA 0, h0_nameWord_n, .inl h0_nameWord_c)), (h0_words_starts, .inl (tA 0, h0_words_starts_n, .inl h0_words_starts_c)), (h0_words_tape, .inl (tA 2, h0_words_tape_n, .inl h0_words_tape_c))]) (wr := [(h0_nameTruth, .inl (tA 1, h0_nameTruth_n, .inl h0_nameTruth_c))]) hP hD hS hA [0, 1, 3, 2, 4, 5] [6] rfl rfl (by decide) (by decide) (va_runV (As := [.int l1]) (rest := []) ⟨hx, hb, hml, hown, hg⟩ (m_RR_find l D tA _ h0 h0_words h0_words_amounts h0_nameWord h0_words_starts h0_words_tape f0_h0 f0_h0_words h0_words_amounts_n h0_nameWord_n h0_words_starts_n h0_words_tape_n l1 h0_nameCount h0_words_amounts_c h0_nameWord_c h0_words_starts_c h0_words_tape_c q_h0_words q_h0_nameWord q_h0_nameCount q_h0_words_amounts q_h0_words_starts q_h0_words_tape n o1 h1) (zV 1 hg k4_186 k4_154 k4_155 k1_4 k4_156 rfl rfl (by decide +kernel) ⟨(Nat.le_of_ble_eq_true rfl), (Nat.le_of_ble_eq_true rfl)⟩) (zPreV hh hK hP hD [0, 1, 3, 2, 4, 5] (by decide) rfl (ci := 3) rfl 0 rfl) rfl rfl hl.1 rfl (lv_room (Nat.le_of_ble_eq_true rfl)) d_RR_kindOf_2 ⟨(Nat.le_of_ble_eq_true rfl), (Nat.le_of_ble_eq_true rfl)⟩) (fun r1 u1 H1 locs1 e1 hP1 hD1 hS1 => ?_)
  clear hP hD hS
  refine W.cs (cells' := 0) (slots' := 0) rfl rfl ?_
  have x1 := e1
  rw [x1]
  replace hP1 : va_P D vwCl [(h0_nameTruth, .inl (tA 1, h0_nameTruth_n, .inl h0_nameTruth_c)), (h0, .inr (3, f0_h0)), (h0_words, .inr (1, f0_h0_words)), (h0_words_amounts, .inl (tA 0, h0_words_amounts_n, .inl h0_words_amounts_c)), (h0_nameWord, .inl (tA 0, h0_nameWord_n, .inl h0_nameWord_c)), (h0_words_starts, .inl (tA 0, h0_words_starts_n, .inl h0_words_starts_c)), (h0_words_tape, .inl (tA 2, h0_words_tape_n, .inl h0_words_tape_c))] _ := hP1
  replace hD1 : va_D A [(h0_nameTruth, .inl (tA 1, h0_nameTruth_n, .inl h0_nameTruth_c)), (h0, .inr (3, f0_h0)), (h0_words, .inr (1, f0_h0_words)), (h0_words_amounts, .inl (tA 0, h0_words_amounts_n, .inl h0_words_amounts_c)), (h0_nameWord, .inl (tA 0, h0_nameWord_n, .inl h0_nameWord_c)), (h0_words_starts, .inl (tA 0, h0_words_starts_n, .inl h0_words_starts_c)), (h0_words_tape, .inl (tA 2, h0_words_tape_n, .inl h0_words_tape_c))] := hD1
  refine lv_istore_n (lv' := [(2, .int o1), (0, .ref h0), (1, .int l1)]) hx hb d_RR_kindOf_5 rfl hl (by decide) rfl (fun ls hl => ?_)
  refine lv_iload_n hx hb d_RR_kindOf_6 rfl (lv_at hl 0 rfl) ?_
  refine lv_iconst (v := (-1)) hx hb d_RR_kindOf_7 (by decide) ?_
  refine lv_icmp_ne (tgt := 15) hx hb d_RR_kindOf_8 (by decide) (fun c9 => ?_) (fun c9 => ?_)
  · replace hF := ifp c9 hF
    refine lv_aload_n hx hb d_RR_kindOf_15 rfl (lv_at hl 1 rfl) ?_
    refine va_get (D := D) (ci := 3) (v := .ref h0_nameTruth) (C := R_RR) (T := T_RR) (N := 20) hx hb hg i_RR hown hK hP1 1 rfl rfl 18 (by decide) (hg _ k1_119) (fun _ h9 => h9) q_h0_nameTruth d_RR_kindOf_16 ?_
    refine lv_iload_n hx hb d_RR_kindOf_19 rfl (lv_at hl 0 rfl) ?_
    obtain ⟨h9, hF⟩ := chk_some hF
    refine va_zald hx hb hK hP1 0 1 rfl rfl (vp_in_iff.mpr h9) d_RR_kindOf_20 ?_
    refine lv_if_eq (tgt := 28) hx hb d_RR_kindOf_21 (by decide) (fun c9 => ?_) (fun c9 => ?_)
    · replace hF := ifp c9 hF
      refine lv_iconst (v := 1) hx hb d_RR_kindOf_28 (by decide) ?_
      replace hF := Option.some.inj hF
      subst hF
      exact zZret (post := (fun (r9 : Int32) (u9 : Unit) => r9 = 1)) (W1 := (fun (u9 : Unit) => [(h0, .inr (3, f0_h0)), (h0_words, .inr (1, f0_h0_words)), (h0_nameWord, .inl (tA 0, h0_nameWord_n, .inl h0_nameWord_c)), (h0_words_amounts, .inl (tA 0, h0_words_amounts_n, .inl h0_words_amounts_c)), (h0_words_starts, .inl (tA 0, h0_words_starts_n, .inl h0_words_starts_c)), (h0_words_tape, .inl (tA 2, h0_words_tape_n, .inl h0_words_tape_c)), (h0_nameTruth, .inl (tA 1, h0_nameTruth_n, .inl h0_nameTruth_c))])) (v := 1) hx hb hr rfl hlocks (zPc (wc := [(h0, .inr (3, f0_h0)), (h0_words, .inr (1, f0_h0_words)), (h0_nameWord, .inl (tA 0, h0_nameWord_n, .inl h0_nameWord_c)), (h0_words_amounts, .inl (tA 0, h0_words_amounts_n, .inl h0_words_amounts_c)), (h0_words_starts, .inl (tA 0, h0_words_starts_n, .inl h0_words_starts_c)), (h0_words_tape, .inl (tA 2, h0_words_tape_n, .inl h0_words_tape_c)), (h0_nameTruth, .inl (tA 1, h0_nameTruth_n, .inl h0_nameTruth_c))]) hP1 [1, 2, 4, 3, 5, 6, 0] rfl) (va_D.sub (ws' := [(h0, .inr (3, f0_h0)), (h0_words, .inr (1, f0_h0_words)), (h0_nameWord, .inl (tA 0, h0_nameWord_n, .inl h0_nameWord_c)), (h0_words_amounts, .inl (tA 0, h0_words_amounts_n, .inl h0_words_amounts_c)), (h0_words_starts, .inl (tA 0, h0_words_starts_n, .inl h0_words_starts_c)), (h0_words_tape, .inl (tA 2, h0_words_tape_n, .inl h0_words_tape_c)), (h0_nameTruth, .inl (tA 1, h0_nameTruth_n, .inl h0_nameTruth_c))]) hD1 [1, 2, 4, 3, 5, 6, 0] (by decide) rfl) hS1 () rfl rfl d_RR_kindOf_29
    · replace hF := ifn c9 hF
      refine lv_iconst (v := 2) hx hb d_RR_kindOf_24 (by decide) ?_
      refine lv_goto (tgt := 29) hx hb d_RR_kindOf_25 (by decide) ?_
      replace hF := Option.some.inj hF
      subst hF
      exact zZret (post := (fun (r9 : Int32) (u9 : Unit) => r9 = 2)) (W1 := (fun (u9 : Unit) => [(h0, .inr (3, f0_h0)), (h0_words, .inr (1, f0_h0_words)), (h0_nameWord, .inl (tA 0, h0_nameWord_n, .inl h0_nameWord_c)), (h0_words_amounts, .inl (tA 0, h0_words_amounts_n, .inl h0_words_amounts_c)), (h0_words_starts, .inl (tA 0, h0_words_starts_n, .inl h0_words_starts_c)), (h0_words_tape, .inl (tA 2, h0_words_tape_n, .inl h0_words_tape_c)), (h0_nameTruth, .inl (tA 1, h0_nameTruth_n, .inl h0_nameTruth_c))])) (v := 2) hx hb hr rfl hlocks (zPc (wc := [(h0, .inr (3, f0_h0)), (h0_words, .inr (1, f0_h0_words)), (h0_nameWord, .inl (tA 0, h0_nameWord_n, .inl h0_nameWord_c)), (h0_words_amounts, .inl (tA 0, h0_words_amounts_n, .inl h0_words_amounts_c)), (h0_words_starts, .inl (tA 0, h0_words_starts_n, .inl h0_words_starts_c)), (h0_words_tape, .inl (tA 2, h0_words_tape_n, .inl h0_words_tape_c)), (h0_nameTruth, .inl (tA 1, h0_nameTruth_n, .inl h0_nameTruth_c))]) hP1 [1, 2, 4, 3, 5, 6, 0] rfl) (va_D.sub (ws' := [(h0, .inr (3, f0_h0)), (h0_words, .inr (1, f0_h0_words)), (h0_nameWord, .inl (tA 0, h0_nameWord_n, .inl h0_nameWord_c)), (h0_words_amounts, .inl (tA 0, h0_words_amounts_n, .inl h0_words_amounts_c)), (h0_words_starts, .inl (tA 0, h0_words_starts_n, .inl h0_words_starts_c)), (h0_words_tape, .inl (tA 2, h0_words_tape_n, .inl h0_words_tape_c)), (h0_nameTruth, .inl (tA 1, h0_nameTruth_n, .inl h0_nameTruth_c))]) hD1 [1, 2, 4, 3, 5, 6, 0] (by decide) rfl) hS1 () rfl rfl d_RR_kindOf_29
  · replace hF := ifn (fun h9 => h9 c9) hF
    refine lv_iconst (v := 0) hx hb d_RR_kindOf_11 (by decide) ?_
    refine lv_goto (tgt := 29) hx hb d_RR_kindOf_12 (by decide) ?_
    replace hF := Option.some.inj hF
    subst hF
    exact zZret (post := (fun (r9 : Int32) (u9 : Unit) => r9 = 0)) (W1 := (fun (u9 : Unit) => [(h0, .inr (3, f0_h0)), (h0_words, .inr (1, f0_h0_words)), (h0_nameWord, .inl (tA 0, h0_nameWord_n, .inl h0_nameWord_c)), (h0_words_amounts, .inl (tA 0, h0_words_amounts_n, .inl h0_words_amounts_c)), (h0_words_starts, .inl (tA 0, h0_words_starts_n, .inl h0_words_starts_c)), (h0_words_tape, .inl (tA 2, h0_words_tape_n, .inl h0_words_tape_c)), (h0_nameTruth, .inl (tA 1, h0_nameTruth_n, .inl h0_nameTruth_c))])) (v := 0) hx hb hr rfl hlocks (zPc (wc := [(h0, .inr (3, f0_h0)), (h0_words, .inr (1, f0_h0_words)), (h0_nameWord, .inl (tA 0, h0_nameWord_n, .inl h0_nameWord_c)), (h0_words_amounts, .inl (tA 0, h0_words_amounts_n, .inl h0_words_amounts_c)), (h0_words_starts, .inl (tA 0, h0_words_starts_n, .inl h0_words_starts_c)), (h0_words_tape, .inl (tA 2, h0_words_tape_n, .inl h0_words_tape_c)), (h0_nameTruth, .inl (tA 1, h0_nameTruth_n, .inl h0_nameTruth_c))]) hP1 [1, 2, 4, 3, 5, 6, 0] rfl) (va_D.sub (ws' := [(h0, .inr (3, f0_h0)), (h0_words, .inr (1, f0_h0_words)), (h0_nameWord, .inl (tA 0, h0_nameWord_n, .inl h0_nameWord_c)), (h0_words_amounts, .inl (tA 0, h0_words_amounts_n, .inl h0_words_amounts_c)), (h0_words_starts, .inl (tA 0, h0_words_starts_n, .inl h0_words_starts_c)), (h0_words_tape, .inl (tA 2, h0_words_tape_n, .inl h0_words_tape_c)), (h0_nameTruth, .inl (tA 1, h0_nameTruth_n, .inl h0_nameTruth_c))]) hD1 [1, 2, 4, 3, 5, 6, 0] (by decide) rfl) hS1 () rfl rfl d_RR_kindOf_29
set_option maxHeartbeats 4000000 in
set_option maxRecDepth 100000 in
theorem m_RR_kindOf (l : Launch) (D : va_G) (tA : Nat → ClassId) (sz : Nat) (h0 h0_words h0_nameWord h0_words_amounts h0_words_starts h0_words_tape h0_nameTruth : Nat) (f0_h0 f0_h0_words : List Value) (h0_nameWord_n : Nat) (h0_words_amounts_n : Nat) (h0_words_starts_n : Nat) (h0_words_tape_n : Nat) (h0_nameTruth_n : Nat) (l1 : Int32) (h0_nameCount : Int32) (h0_nameWord_c : Nat → Int32) (h0_words_amounts_c : Nat → Int32) (h0_words_starts_c : Nat → Int32) (h0_words_tape_c : Nat → Int32) (h0_nameTruth_c : Nat → Int32) (q_h0_words : f0_h0[0]? = some (.ref h0_words)) (q_h0_nameWord : f0_h0[15]? = some (.ref h0_nameWord)) (q_h0_nameTruth : f0_h0[18]? = some (.ref h0_nameTruth)) (q_h0_nameCount : f0_h0[19]? = some (.int h0_nameCount)) (q_h0_words_amounts : f0_h0_words[5]? = some (.ref h0_words_amounts)) (q_h0_words_starts : f0_h0_words[4]? = some (.ref h0_words_starts)) (q_h0_words_tape : f0_h0_words[0]? = some (.ref h0_words_tape)) (n : Nat) (out : Int32) (hF : f_RR_kindOf h0_nameWord_n h0_words_amounts_n h0_words_starts_n h0_words_tape_n h0_nameTruth_n l1 h0_nameCount h0_nameWord_c h0_words_amounts_c h0_words_starts_c h0_words_tape_c h0_nameTruth_c n = some out) : zMi l ({ cls := "ChanceArena$RuleReader", name := "kindOf", desc := "(I)I" } : Jvm.MethodName) (zW (Jvm.Cond.code ({ cls := "ChanceArena$RuleReader", name := "kindOf", desc := "(I)I" } : Jvm.MethodName) prog_9_method_9_code (3 : Nat) (Option.some Jvm.ClassFile.FieldType.int))) { frames := 2, cells := 0, slots := 0, locals := 48 } [.ref h0, .int l1] D tA [(h0, .inr (3, f0_h0)), (h0_words, .inr (1, f0_h0_words)), (h0_nameWord, .inl (tA 0, h0_nameWord_n, .inl h0_nameWord_c)), (h0_words_amounts, .inl (tA 0, h0_words_amounts_n, .inl h0_words_amounts_c)), (h0_words_starts, .inl (tA 0, h0_words_starts_n, .inl h0_words_starts_c)), (h0_words_tape, .inl (tA 2, h0_words_tape_n, .inl h0_words_tape_c)), (h0_nameTruth, .inl (tA 1, h0_nameTruth_n, .inl h0_nameTruth_c))] sz (fun (r9 : Int32) (u9 : Unit) => r9 = out) (fun (u9 : Unit) => [(h0, .inr (3, f0_h0)), (h0_words, .inr (1, f0_h0_words)), (h0_nameWord, .inl (tA 0, h0_nameWord_n, .inl h0_nameWord_c)), (h0_words_amounts, .inl (tA 0, h0_words_amounts_n, .inl h0_words_amounts_c)), (h0_words_starts, .inl (tA 0, h0_words_starts_n, .inl h0_words_starts_c)), (h0_words_tape, .inl (tA 2, h0_words_tape_n, .inl h0_words_tape_c)), (h0_nameTruth, .inl (tA 1, h0_nameTruth_n, .inl h0_nameTruth_c))]) 0 0 := by
  refine zOpen (l := l) (y := ({ cls := "ChanceArena$RuleReader", name := "kindOf", desc := "(I)I" } : Jvm.MethodName)) (ws := zW (Jvm.Cond.code ({ cls := "ChanceArena$RuleReader", name := "kindOf", desc := "(I)I" } : Jvm.MethodName) prog_9_method_9_code (3 : Nat) (Option.some Jvm.ClassFile.FieldType.int))) (rm := { frames := 2, cells := 0, slots := 0, locals := 48 }) (av := [.ref h0, .int l1]) (D := D) (tA := tA) (W0 := [(h0, .inr (3, f0_h0)), (h0_words, .inr (1, f0_h0_words)), (h0_nameWord, .inl (tA 0, h0_nameWord_n, .inl h0_nameWord_c)), (h0_words_amounts, .inl (tA 0, h0_words_amounts_n, .inl h0_words_amounts_c)), (h0_words_starts, .inl (tA 0, h0_words_starts_n, .inl h0_words_starts_c)), (h0_words_tape, .inl (tA 2, h0_words_tape_n, .inl h0_words_tape_c)), (h0_nameTruth, .inl (tA 1, h0_nameTruth_n, .inl h0_nameTruth_c))]) (Wm := [(h0, .inr (3, f0_h0)), (h0_words, .inr (1, f0_h0_words)), (h0_nameWord, .inl (tA 0, h0_nameWord_n, .inl h0_nameWord_c)), (h0_words_amounts, .inl (tA 0, h0_words_amounts_n, .inl h0_words_amounts_c)), (h0_words_starts, .inl (tA 0, h0_words_starts_n, .inl h0_words_starts_c)), (h0_words_tape, .inl (tA 2, h0_words_tape_n, .inl h0_words_tape_c)), (h0_nameTruth, .inl (tA 1, h0_nameTruth_n, .inl h0_nameTruth_c))]) (sz := sz) (mc := 0) (ms := 0) (fun A => va_Qi (fun (r9 : Int32) (u9 : Unit) => r9 = out) (zPost D A (fun (u9 : Unit) => [(h0, .inr (3, f0_h0)), (h0_words, .inr (1, f0_h0_words)), (h0_nameWord, .inl (tA 0, h0_nameWord_n, .inl h0_nameWord_c)), (h0_words_amounts, .inl (tA 0, h0_words_amounts_n, .inl h0_words_amounts_c)), (h0_words_starts, .inl (tA 0, h0_words_starts_n, .inl h0_words_starts_c)), (h0_words_tape, .inl (tA 2, h0_words_tape_n, .inl h0_words_tape_c)), (h0_nameTruth, .inl (tA 1, h0_nameTruth_n, .inl h0_nameTruth_c))])) A) (lv := [(0, .ref h0), (1, .int l1)]) (by decide) rfl (Nat.le_of_ble_eq_true rfl) rfl ?_
  intro p e s m below meth c A ls hx hb hr hml hh hg hown hlocks hnm hK hA hP hD0 hAw hS hl
  have hD := zD hD0 hAw
  exact b_RR_kindOf_0 hx hb hr hml hh hg hown hlocks hK hA    _ _ _ hF q_h0_words q_h0_nameWord q_h0_nameTruth q_h0_nameCount q_h0_words_amounts q_h0_words_starts q_h0_words_tape hP hD hS hl
def f_RR_isTruth (h0_truths_n : Nat) (h0_truths_c : Nat → Int32) : Option (Int32) := chk (0 ≤ (0 : Int32).toInt ∧ (0 : Int32).toInt < h0_truths_n) (chk (((h0_truths_c (0 : Int32).toNatClampNeg) : Int32) = 0 ∨ ((h0_truths_c (0 : Int32).toNatClampNeg) : Int32) = 1) (some ((h0_truths_c (0 : Int32).toNatClampNeg))))
set_option maxHeartbeats 4000000 in
set_option maxRecDepth 100000 in
theorem b_RR_isTruth_0 {p : Program} {l : Launch} {e : Env} {s : State} {m : MethodId} {args : Array Value} {below : List Frame} {meth : Method} {c : Code} {D : va_G} {tA : Nat → ClassId} {A : Nat → Prop} {h0 h0_truths : Nat} {f0_h0 : List Value} {h0_truths_n : Nat} {h0_truths_c : Nat → Int32} {out : Int32} (hx : p.tables.exec = Jvm.exec) (hb : c.code = prog_9_method_10_code) (hr : meth.sig.returnType = (Option.some Jvm.ClassFile.FieldType.boolean)) (hml : c.maxLocals = 1) (hh : zH s) (hg : ∀ w ∈ lw_R, w.before args s = true) (hown : s.vm.findClass "ChanceArena$RuleReader" = some m.cls) (hlocks : meth.locks = false) (hK : va_K D vwCl (zT tA) s) (hA : ∀ q, s.heap.size ≤ q → A q)  : ∀ (H : Heap) (locs : List Loc) (ls : Array Slot), f_RR_isTruth h0_truths_n h0_truths_c = some out → f0_h0[13]? = some (.ref h0_truths) → va_P D vwCl [(h0, .inr (3, f0_h0)), (h0_truths, .inl (tA 1, h0_truths_n, .inl h0_truths_c))] H → va_D A [(h0, .inr (3, f0_h0)), (h0_truths, .inl (tA 1, h0_truths_n, .inl h0_truths_c))] → va_S A s.heap H locs → lv_has ls 1 [(0, .ref h0)] → W p l e { frames := 0, cells := 0, slots := 0, locals := 0 } s m args below meth c H locs 0 0 (MQ below (va_Qi (fun (r9 : Int32) (u9 : Unit) => r9 = out) (zPost D A (fun (u9 : Unit) => [(h0, .inr (3, f0_h0)), (h0_truths, .inl (tA 1, h0_truths_n, .inl h0_truths_c))])) A) args s 0 0 A) (F0 m 0 ls []) := by
  intro    H locs ls hF q_h0_truths hP hD hS hl
  replace hF : ((chk (0 ≤ (0 : Int32).toInt ∧ (0 : Int32).toInt < h0_truths_n) (chk (((h0_truths_c (0 : Int32).toNatClampNeg) : Int32) = 0 ∨ ((h0_truths_c (0 : Int32).toNatClampNeg) : Int32) = 1) (some ((h0_truths_c (0 : Int32).toNatClampNeg))))) : Option (Int32)) = some out := hF
  refine lv_aload_n hx hb d_RR_isTruth_0 rfl (lv_at hl 0 rfl) ?_
  refine va_get (D := D) (ci := 3) (v := .ref h0_truths) (C := R_RR) (T := T_RR) (N := 20) hx hb hg i_RR hown hK hP 0 rfl rfl 13 (by decide) (hg _ k1_114) (fun _ h9 => h9) q_h0_truths d_RR_isTruth_1 ?_
  refine lv_iconst (v := 0) hx hb d_RR_isTruth_4 (by decide) ?_
  obtain ⟨h9, hF⟩ := chk_some hF
  refine va_zald hx hb hK hP 1 1 rfl rfl (vp_in_iff.mpr h9) d_RR_isTruth_5 ?_
  obtain ⟨h9, hF⟩ := chk_some hF
  replace hF := Option.some.inj hF
  subst hF
  exact zZret (post := (fun (r9 : Int32) (u9 : Unit) => r9 = (h0_truths_c (0 : Int32).toNatClampNeg))) (W1 := (fun (u9 : Unit) => [(h0, .inr (3, f0_h0)), (h0_truths, .inl (tA 1, h0_truths_n, .inl h0_truths_c))])) (v := (h0_truths_c (0 : Int32).toNatClampNeg)) hx hb hr (zNb h9) hlocks hP hD hS () rfl rfl d_RR_isTruth_6
set_option maxHeartbeats 4000000 in
set_option maxRecDepth 100000 in
theorem m_RR_isTruth (l : Launch) (D : va_G) (tA : Nat → ClassId) (sz : Nat) (h0 h0_truths : Nat) (f0_h0 : List Value) (h0_truths_n : Nat) (h0_truths_c : Nat → Int32) (q_h0_truths : f0_h0[13]? = some (.ref h0_truths)) (out : Int32) (hF : f_RR_isTruth h0_truths_n h0_truths_c = some out) : zMi l ({ cls := "ChanceArena$RuleReader", name := "isTruth", desc := "()Z" } : Jvm.MethodName) (zW (Jvm.Cond.code ({ cls := "ChanceArena$RuleReader", name := "isTruth", desc := "()Z" } : Jvm.MethodName) prog_9_method_10_code (1 : Nat) (Option.some Jvm.ClassFile.FieldType.boolean))) { frames := 0, cells := 0, slots := 0, locals := 0 } [.ref h0] D tA [(h0, .inr (3, f0_h0)), (h0_truths, .inl (tA 1, h0_truths_n, .inl h0_truths_c))] sz (fun (r9 : Int32) (u9 : Unit) => r9 = out) (fun (u9 : Unit) => [(h0, .inr (3, f0_h0)), (h0_truths, .inl (tA 1, h0_truths_n, .inl h0_truths_c))]) 0 0 := by
  refine zOpen (l := l) (y := ({ cls := "ChanceArena$RuleReader", name := "isTruth", desc := "()Z" } : Jvm.MethodName)) (ws := zW (Jvm.Cond.code ({ cls := "ChanceArena$RuleReader", name := "isTruth", desc := "()Z" } : Jvm.MethodName) prog_9_method_10_code (1 : Nat) (Option.some Jvm.ClassFile.FieldType.boolean))) (rm := { frames := 0, cells := 0, slots := 0, locals := 0 }) (av := [.ref h0]) (D := D) (tA := tA) (W0 := [(h0, .inr (3, f0_h0)), (h0_truths, .inl (tA 1, h0_truths_n, .inl h0_truths_c))]) (Wm := [(h0, .inr (3, f0_h0)), (h0_truths, .inl (tA 1, h0_truths_n, .inl h0_truths_c))]) (sz := sz) (mc := 0) (ms := 0) (fun A => va_Qi (fun (r9 : Int32) (u9 : Unit) => r9 = out) (zPost D A (fun (u9 : Unit) => [(h0, .inr (3, f0_h0)), (h0_truths, .inl (tA 1, h0_truths_n, .inl h0_truths_c))])) A) (lv := [(0, .ref h0)]) (by decide) rfl (Nat.le_of_ble_eq_true rfl) rfl ?_
  intro p e s m below meth c A ls hx hb hr hml hh hg hown hlocks hnm hK hA hP hD0 hAw hS hl
  have hD := zD hD0 hAw
  exact b_RR_isTruth_0 hx hb hr hml hh hg hown hlocks hK hA    _ _ _ hF q_h0_truths hP hD hS hl
def f_RR_pushKind (h0_truths_n : Nat) (l1 : Int32) (h0_operandCount : Int32) (h0_truths_c : Nat → Int32) : Option (Int32 × (Nat → Int32)) := if (336 : Int32) ≤ h0_operandCount then some (h0_operandCount, h0_truths_c) else chk (0 ≤ (h0_operandCount : Int32).toInt ∧ (h0_operandCount : Int32).toInt < h0_truths_n) (some ((h0_operandCount + 1), upd h0_truths_c (h0_operandCount : Int32).toNatClampNeg (vp_nar .boolean l1)))
set_option maxHeartbeats 4000000 in
set_option maxRecDepth 100000 in
theorem b_RR_pushKind_0 {p : Program} {l : Launch} {e : Env} {s : State} {m : MethodId} {args : Array Value} {below : List Frame} {meth : Method} {c : Code} {D : va_G} {tA : Nat → ClassId} {A : Nat → Prop} {h0 h0_truths : Nat} {f0_h0 : List Value} {h0_truths_n : Nat} {l1 : Int32} {h0_operandCount : Int32} {h0_truths_c : Nat → Int32} {out : Int32 × (Nat → Int32)} (hx : p.tables.exec = Jvm.exec) (hb : c.code = prog_9_method_15_code) (hr : meth.sig.returnType = (Option.none : Option Jvm.ClassFile.FieldType)) (hml : c.maxLocals = 2) (hh : zH s) (hg : ∀ w ∈ lw_R, w.before args s = true) (hown : s.vm.findClass "ChanceArena$RuleReader" = some m.cls) (hlocks : meth.locks = false) (hK : va_K D vwCl (zT tA) s) (hA : ∀ q, s.heap.size ≤ q → A q)  : ∀ (f_h0 : List Value) (H : Heap) (locs : List Loc) (ls : Array Slot), f_RR_pushKind h0_truths_n l1 h0_operandCount h0_truths_c = some out → f_h0[13]? = some (.ref h0_truths) → f_h0[14]? = some (.int h0_operandCount) → Fr [14] f0_h0 f_h0 → va_P D vwCl [(h0, .inr (3, f_h0)), (h0_truths, .inl (tA 1, h0_truths_n, .inl h0_truths_c))] H → va_D A [(h0, .inr (3, f_h0)), (h0_truths, .inl (tA 1, h0_truths_n, .inl h0_truths_c))] → va_S A s.heap H locs → lv_has ls 2 [(0, .ref h0), (1, .int l1)] → W p l e { frames := 0, cells := 0, slots := 0, locals := 0 } s m args below meth c H locs 0 0 (MQ below (va_Qv (fun (u9 : List Value) => Fr [14] f0_h0 u9 ∧ u9[14]? = some (.int out.1)) (zPost D A (fun (u9 : List Value) => [(h0, .inr (3, u9)), (h0_truths, .inl (tA 1, h0_truths_n, .inl out.2))])) A) args s 0 0 A) (F0 m 0 ls []) := by
  intro   f_h0 H locs ls hF q_h0_truths q_h0_operandCount r_h0 hP hD hS hl
  replace hF : ((if (336 : Int32) ≤ h0_operandCount then some (h0_operandCount, h0_truths_c) else chk (0 ≤ (h0_operandCount : Int32).toInt ∧ (h0_operandCount : Int32).toInt < h0_truths_n) (some ((h0_operandCount + 1), upd h0_truths_c (h0_operandCount : Int32).toNatClampNeg (vp_nar .boolean l1)))) : Option (Int32 × (Nat → Int32))) = some out := hF
  refine lv_aload_n hx hb d_RR_pushKind_0 rfl (lv_at hl 0 rfl) ?_
  refine va_get (D := D) (ci := 3) (v := .int h0_operandCount) (C := R_RR) (T := T_RR) (N := 20) hx hb hg i_RR hown hK hP 0 rfl rfl 14 (by decide) (hg _ k1_115) (fun _ h9 => h9) q_h0_operandCount d_RR_pushKind_1 ?_
  refine lv_sipush (v := 336) hx hb d_RR_pushKind_4 (by decide) ?_
  refine lv_icmp_ge (tgt := 27) hx hb d_RR_pushKind_7 (by decide) (fun c9 => ?_) (fun c9 => ?_)
  · replace hF := ifp c9 hF
    replace hF := Option.some.inj hF
    subst hF
    exact zVret (post := (fun (u9 : List Value) => Fr [14] f0_h0 u9 ∧ u9[14]? = some (.int ((h0_operandCount, h0_truths_c).1)))) (W1 := (fun (u9 : List Value) => [(h0, .inr (3, u9)), (h0_truths, .inl (tA 1, h0_truths_n, .inl ((h0_operandCount, h0_truths_c).2)))])) hx hb hr hlocks hP hD hS (f_h0) ⟨r_h0, q_h0_operandCount⟩ rfl d_RR_pushKind_27
  · replace hF := ifn c9 hF
    refine lv_aload_n hx hb d_RR_pushKind_10 rfl (lv_at hl 0 rfl) ?_
    refine va_get (D := D) (ci := 3) (v := .ref h0_truths) (C := R_RR) (T := T_RR) (N := 20) hx hb hg i_RR hown hK hP 0 rfl rfl 13 (by decide) (hg _ k1_114) (fun _ h9 => h9) q_h0_truths d_RR_pushKind_11 ?_
    refine lv_aload_n hx hb d_RR_pushKind_14 rfl (lv_at hl 0 rfl) ?_
    refine lv_dup hx hb d_RR_pushKind_15 rfl ?_
    refine va_get (D := D) (ci := 3) (v := .int h0_operandCount) (C := R_RR) (T := T_RR) (N := 20) hx hb hg i_RR hown hK hP 0 rfl rfl 14 (by decide) (hg _ k1_115) (fun _ h9 => h9) q_h0_operandCount d_RR_pushKind_16 ?_
    refine lv_dup_x1 hx hb d_RR_pushKind_19 rfl rfl ?_
    refine lv_iconst (v := 1) hx hb d_RR_pushKind_20 (by decide) ?_
    refine lv_iadd hx hb d_RR_pushKind_21 ?_
    refine va_put (D := D) (ci := 3) (v := .int (h0_operandCount + 1)) (ty := .int) (C := R_RR) (T := T_RR) (N := 20) hx hb hg i_RR t_RR o_RR n_RR hown hK hP hD hS 0 rfl rfl 14 (by decide) (hg _ k1_115) (fun _ h9 => h9) rfl (by decide +kernel) rfl rfl (zLen q_h0_operandCount) d_RR_pushKind_22 (fun H1 locs1 hP1 hD1 hS1 => ?_)
    clear hP hD hS
    replace hP1 : va_P D vwCl [(h0, .inr (3, f_h0.set 14 (.int (h0_operandCount + 1)))), (h0_truths, .inl (tA 1, h0_truths_n, .inl h0_truths_c))] _ := hP1
    replace hD1 : va_D A [(h0, .inr (3, f_h0.set 14 (.int (h0_operandCount + 1)))), (h0_truths, .inl (tA 1, h0_truths_n, .inl h0_truths_c))] := hD1
    refine lv_iload_n hx hb d_RR_pushKind_25 rfl (lv_at hl 1 rfl) ?_
    obtain ⟨h9, hF⟩ := chk_some hF
    refine va_zast hx hb hK hP1 hD1 hS1 1 1 rfl rfl (vp_in_iff.mpr h9) d_RR_pushKind_26 (fun H2 locs2 hP2 hD2 hS2 => ?_)
    clear hP1 hD1 hS1
    replace hP2 : va_P D vwCl [(h0, .inr (3, f_h0.set 14 (.int (h0_operandCount + 1)))), (h0_truths, .inl (tA 1, h0_truths_n, .inl (upd h0_truths_c (h0_operandCount : Int32).toNatClampNeg (vp_nar .boolean l1))))] _ := hP2
    replace hD2 : va_D A [(h0, .inr (3, f_h0.set 14 (.int (h0_operandCount + 1)))), (h0_truths, .inl (tA 1, h0_truths_n, .inl (upd h0_truths_c (h0_operandCount : Int32).toNatClampNeg (vp_nar .boolean l1))))] := hD2
    replace hF := Option.some.inj hF
    subst hF
    exact zVret (post := (fun (u9 : List Value) => Fr [14] f0_h0 u9 ∧ u9[14]? = some (.int (((h0_operandCount + 1), upd h0_truths_c (h0_operandCount : Int32).toNatClampNeg (vp_nar .boolean l1)).1)))) (W1 := (fun (u9 : List Value) => [(h0, .inr (3, u9)), (h0_truths, .inl (tA 1, h0_truths_n, .inl (((h0_operandCount + 1), upd h0_truths_c (h0_operandCount : Int32).toNatClampNeg (vp_nar .boolean l1)).2)))])) hx hb hr hlocks hP2 hD2 hS2 (f_h0.set 14 (.int (h0_operandCount + 1))) ⟨(Fr.set r_h0 (by decide)), (zSetS q_h0_operandCount)⟩ rfl d_RR_pushKind_27
set_option maxHeartbeats 4000000 in
set_option maxRecDepth 100000 in
theorem m_RR_pushKind (l : Launch) (D : va_G) (tA : Nat → ClassId) (sz : Nat) (h0 h0_truths : Nat) (f0_h0 : List Value) (h0_truths_n : Nat) (l1 : Int32) (h0_operandCount : Int32) (h0_truths_c : Nat → Int32) (q_h0_truths : f0_h0[13]? = some (.ref h0_truths)) (q_h0_operandCount : f0_h0[14]? = some (.int h0_operandCount)) (out : Int32 × (Nat → Int32)) (hF : f_RR_pushKind h0_truths_n l1 h0_operandCount h0_truths_c = some out) : zMv l ({ cls := "ChanceArena$RuleReader", name := "pushKind", desc := "(Z)V" } : Jvm.MethodName) (zW (Jvm.Cond.code ({ cls := "ChanceArena$RuleReader", name := "pushKind", desc := "(Z)V" } : Jvm.MethodName) prog_9_method_15_code (2 : Nat) (Option.none : Option Jvm.ClassFile.FieldType))) { frames := 0, cells := 0, slots := 0, locals := 0 } [.ref h0, .int l1] D tA [(h0, .inr (3, f0_h0)), (h0_truths, .inl (tA 1, h0_truths_n, .inl h0_truths_c))] sz (fun (u9 : List Value) => Fr [14] f0_h0 u9 ∧ u9[14]? = some (.int out.1)) (fun (u9 : List Value) => [(h0, .inr (3, u9)), (h0_truths, .inl (tA 1, h0_truths_n, .inl out.2))]) 0 0 := by
  refine zOpen (l := l) (y := ({ cls := "ChanceArena$RuleReader", name := "pushKind", desc := "(Z)V" } : Jvm.MethodName)) (ws := zW (Jvm.Cond.code ({ cls := "ChanceArena$RuleReader", name := "pushKind", desc := "(Z)V" } : Jvm.MethodName) prog_9_method_15_code (2 : Nat) (Option.none : Option Jvm.ClassFile.FieldType))) (rm := { frames := 0, cells := 0, slots := 0, locals := 0 }) (av := [.ref h0, .int l1]) (D := D) (tA := tA) (W0 := [(h0, .inr (3, f0_h0)), (h0_truths, .inl (tA 1, h0_truths_n, .inl h0_truths_c))]) (Wm := [(h0, .inr (3, f0_h0)), (h0_truths, .inl (tA 1, h0_truths_n, .inl h0_truths_c))]) (sz := sz) (mc := 0) (ms := 0) (fun A => va_Qv (fun (u9 : List Value) => Fr [14] f0_h0 u9 ∧ u9[14]? = some (.int out.1)) (zPost D A (fun (u9 : List Value) => [(h0, .inr (3, u9)), (h0_truths, .inl (tA 1, h0_truths_n, .inl out.2))])) A) (lv := [(0, .ref h0), (1, .int l1)]) (by decide) rfl (Nat.le_of_ble_eq_true rfl) rfl ?_
  intro p e s m below meth c A ls hx hb hr hml hh hg hown hlocks hnm hK hA hP hD0 hAw hS hl
  have hD := zD hD0 hAw
  exact b_RR_pushKind_0 hx hb hr hml hh hg hown hlocks hK hA   f0_h0 _ _ _ hF q_h0_truths q_h0_operandCount Fr.rfl hP hD hS hl
def f_RR_popKind (h0_truths_n : Nat) (h0_truths_c : Nat → Int32) (h0_operandCount : Int32) : Option (Int32 × Int32) := if (h0_operandCount : Int32) ≤ 0 then some (0, h0_operandCount) else chk (0 ≤ ((h0_operandCount - 1) : Int32).toInt ∧ ((h0_operandCount - 1) : Int32).toInt < h0_truths_n) (if ((h0_truths_c ((h0_operandCount - 1) : Int32).toNatClampNeg) : Int32) = 0 then some (0, (h0_operandCount - 1)) else some (1, (h0_operandCount - 1)))
set_option maxHeartbeats 4000000 in
set_option maxRecDepth 100000 in
theorem b_RR_popKind_0 {p : Program} {l : Launch} {e : Env} {s : State} {m : MethodId} {args : Array Value} {below : List Frame} {meth : Method} {c : Code} {D : va_G} {tA : Nat → ClassId} {A : Nat → Prop} {h0 h0_truths : Nat} {f0_h0 : List Value} {h0_truths_n : Nat} {h0_truths_c : Nat → Int32} {h0_operandCount : Int32} {out : Int32 × Int32} (hx : p.tables.exec = Jvm.exec) (hb : c.code = prog_9_method_16_code) (hr : meth.sig.returnType = (Option.some Jvm.ClassFile.FieldType.boolean)) (hml : c.maxLocals = 1) (hh : zH s) (hg : ∀ w ∈ lw_R, w.before args s = true) (hown : s.vm.findClass "ChanceArena$RuleReader" = some m.cls) (hlocks : meth.locks = false) (hK : va_K D vwCl (zT tA) s) (hA : ∀ q, s.heap.size ≤ q → A q)  : ∀ (f_h0 : List Value) (H : Heap) (locs : List Loc) (ls : Array Slot), f_RR_popKind h0_truths_n h0_truths_c h0_operandCount = some out → f_h0[13]? = some (.ref h0_truths) → f_h0[14]? = some (.int h0_operandCount) → Fr [14] f0_h0 f_h0 → va_P D vwCl [(h0, .inr (3, f_h0)), (h0_truths, .inl (tA 1, h0_truths_n, .inl h0_truths_c))] H → va_D A [(h0, .inr (3, f_h0)), (h0_truths, .inl (tA 1, h0_truths_n, .inl h0_truths_c))] → va_S A s.heap H locs → lv_has ls 1 [(0, .ref h0)] → W p l e { frames := 0, cells := 0, slots := 0, locals := 0 } s m args below meth c H locs 0 0 (MQ below (va_Qi (fun (r9 : Int32) (u9 : List Value) => r9 = out.1 ∧ Fr [14] f0_h0 u9 ∧ u9[14]? = some (.int out.2)) (zPost D A (fun (u9 : List Value) => [(h0, .inr (3, u9)), (h0_truths, .inl (tA 1, h0_truths_n, .inl h0_truths_c))])) A) args s 0 0 A) (F0 m 0 ls []) := by
  intro   f_h0 H locs ls hF q_h0_truths q_h0_operandCount r_h0 hP hD hS hl
  replace hF : ((if (h0_operandCount : Int32) ≤ 0 then some (0, h0_operandCount) else chk (0 ≤ ((h0_operandCount - 1) : Int32).toInt ∧ ((h0_operandCount - 1) : Int32).toInt < h0_truths_n) (if ((h0_truths_c ((h0_operandCount - 1) : Int32).toNatClampNeg) : Int32) = 0 then some (0, (h0_operandCount - 1)) else some (1, (h0_operandCount - 1)))) : Option (Int32 × Int32)) = some out := hF
  refine lv_aload_n hx hb d_RR_popKind_0 rfl (lv_at hl 0 rfl) ?_
  refine va_get (D := D) (ci := 3) (v := .int h0_operandCount) (C := R_RR) (T := T_RR) (N := 20) hx hb hg i_RR hown hK hP 0 rfl rfl 14 (by decide) (hg _ k1_115) (fun _ h9 => h9) q_h0_operandCount d_RR_popKind_1 ?_
  refine lv_if_le (tgt := 30) hx hb d_RR_popKind_4 (by decide) (fun c9 => ?_) (fun c9 => ?_)
  · replace hF := ifp c9 hF
    refine lv_iconst (v := 0) hx hb d_RR_popKind_30 (by decide) ?_
    replace hF := Option.some.inj hF
    subst hF
    exact zZret (post := (fun (r9 : Int32) (u9 : List Value) => r9 = (0, h0_operandCount).1 ∧ Fr [14] f0_h0 u9 ∧ u9[14]? = some (.int ((0, h0_operandCount).2)))) (W1 := (fun (u9 : List Value) => [(h0, .inr (3, u9)), (h0_truths, .inl (tA 1, h0_truths_n, .inl h0_truths_c))])) (v := 0) hx hb hr rfl hlocks hP hD hS (f_h0) ⟨rfl, r_h0, q_h0_operandCount⟩ rfl d_RR_popKind_31
  · replace hF := ifn c9 hF
    refine lv_aload_n hx hb d_RR_popKind_7 rfl (lv_at hl 0 rfl) ?_
    refine va_get (D := D) (ci := 3) (v := .ref h0_truths) (C := R_RR) (T := T_RR) (N := 20) hx hb hg i_RR hown hK hP 0 rfl rfl 13 (by decide) (hg _ k1_114) (fun _ h9 => h9) q_h0_truths d_RR_popKind_8 ?_
    refine lv_aload_n hx hb d_RR_popKind_11 rfl (lv_at hl 0 rfl) ?_
    refine lv_dup hx hb d_RR_popKind_12 rfl ?_
    refine va_get (D := D) (ci := 3) (v := .int h0_operandCount) (C := R_RR) (T := T_RR) (N := 20) hx hb hg i_RR hown hK hP 0 rfl rfl 14 (by decide) (hg _ k1_115) (fun _ h9 => h9) q_h0_operandCount d_RR_popKind_13 ?_
    refine lv_iconst (v := 1) hx hb d_RR_popKind_16 (by decide) ?_
    refine lv_isub hx hb d_RR_popKind_17 ?_
    refine lv_dup_x1 hx hb d_RR_popKind_18 rfl rfl ?_
    refine va_put (D := D) (ci := 3) (v := .int (h0_operandCount - 1)) (ty := .int) (C := R_RR) (T := T_RR) (N := 20) hx hb hg i_RR t_RR o_RR n_RR hown hK hP hD hS 0 rfl rfl 14 (by decide) (hg _ k1_115) (fun _ h9 => h9) rfl (by decide +kernel) rfl rfl (zLen q_h0_operandCount) d_RR_popKind_19 (fun H1 locs1 hP1 hD1 hS1 => ?_)
    clear hP hD hS
    replace hP1 : va_P D vwCl [(h0, .inr (3, f_h0.set 14 (.int (h0_operandCount - 1)))), (h0_truths, .inl (tA 1, h0_truths_n, .inl h0_truths_c))] _ := hP1
    replace hD1 : va_D A [(h0, .inr (3, f_h0.set 14 (.int (h0_operandCount - 1)))), (h0_truths, .inl (tA 1, h0_truths_n, .inl h0_truths_c))] := hD1
    obtain ⟨h9, hF⟩ := chk_some hF
    refine va_zald hx hb hK hP1 1 1 rfl rfl (vp_in_iff.mpr h9) d_RR_popKind_22 ?_
    refine lv_if_eq (tgt := 30) hx hb d_RR_popKind_23 (by decide) (fun c9 => ?_) (fun c9 => ?_)
    · replace hF := ifp c9 hF
      refine lv_iconst (v := 0) hx hb d_RR_popKind_30 (by decide) ?_
      replace hF := Option.some.inj hF
      subst hF
      exact zZret (post := (fun (r9 : Int32) (u9 : List Value) => r9 = (0, (h0_operandCount - 1)).1 ∧ Fr [14] f0_h0 u9 ∧ u9[14]? = some (.int ((0, (h0_operandCount - 1)).2)))) (W1 := (fun (u9 : List Value) => [(h0, .inr (3, u9)), (h0_truths, .inl (tA 1, h0_truths_n, .inl h0_truths_c))])) (v := 0) hx hb hr rfl hlocks hP1 hD1 hS1 (f_h0.set 14 (.int (h0_operandCount - 1))) ⟨rfl, (Fr.set r_h0 (by decide)), (zSetS q_h0_operandCount)⟩ rfl d_RR_popKind_31
    · replace hF := ifn c9 hF
      refine lv_iconst (v := 1) hx hb d_RR_popKind_26 (by decide) ?_
      refine lv_goto (tgt := 31) hx hb d_RR_popKind_27 (by decide) ?_
      replace hF := Option.some.inj hF
      subst hF
      exact zZret (post := (fun (r9 : Int32) (u9 : List Value) => r9 = (1, (h0_operandCount - 1)).1 ∧ Fr [14] f0_h0 u9 ∧ u9[14]? = some (.int ((1, (h0_operandCount - 1)).2)))) (W1 := (fun (u9 : List Value) => [(h0, .inr (3, u9)), (h0_truths, .inl (tA 1, h0_truths_n, .inl h0_truths_c))])) (v := 1) hx hb hr rfl hlocks hP1 hD1 hS1 (f_h0.set 14 (.int (h0_operandCount - 1))) ⟨rfl, (Fr.set r_h0 (by decide)), (zSetS q_h0_operandCount)⟩ rfl d_RR_popKind_31
set_option maxHeartbeats 4000000 in
set_option maxRecDepth 100000 in
theorem m_RR_popKind (l : Launch) (D : va_G) (tA : Nat → ClassId) (sz : Nat) (h0 h0_truths : Nat) (f0_h0 : List Value) (h0_truths_n : Nat) (h0_truths_c : Nat → Int32) (h0_operandCount : Int32) (q_h0_truths : f0_h0[13]? = some (.ref h0_truths)) (q_h0_operandCount : f0_h0[14]? = some (.int h0_operandCount)) (out : Int32 × Int32) (hF : f_RR_popKind h0_truths_n h0_truths_c h0_operandCount = some out) : zMi l ({ cls := "ChanceArena$RuleReader", name := "popKind", desc := "()Z" } : Jvm.MethodName) (zW (Jvm.Cond.code ({ cls := "ChanceArena$RuleReader", name := "popKind", desc := "()Z" } : Jvm.MethodName) prog_9_method_16_code (1 : Nat) (Option.some Jvm.ClassFile.FieldType.boolean))) { frames := 0, cells := 0, slots := 0, locals := 0 } [.ref h0] D tA [(h0, .inr (3, f0_h0)), (h0_truths, .inl (tA 1, h0_truths_n, .inl h0_truths_c))] sz (fun (r9 : Int32) (u9 : List Value) => r9 = out.1 ∧ Fr [14] f0_h0 u9 ∧ u9[14]? = some (.int out.2)) (fun (u9 : List Value) => [(h0, .inr (3, u9)), (h0_truths, .inl (tA 1, h0_truths_n, .inl h0_truths_c))]) 0 0 := by
  refine zOpen (l := l) (y := ({ cls := "ChanceArena$RuleReader", name := "popKind", desc := "()Z" } : Jvm.MethodName)) (ws := zW (Jvm.Cond.code ({ cls := "ChanceArena$RuleReader", name := "popKind", desc := "()Z" } : Jvm.MethodName) prog_9_method_16_code (1 : Nat) (Option.some Jvm.ClassFile.FieldType.boolean))) (rm := { frames := 0, cells := 0, slots := 0, locals := 0 }) (av := [.ref h0]) (D := D) (tA := tA) (W0 := [(h0, .inr (3, f0_h0)), (h0_truths, .inl (tA 1, h0_truths_n, .inl h0_truths_c))]) (Wm := [(h0, .inr (3, f0_h0)), (h0_truths, .inl (tA 1, h0_truths_n, .inl h0_truths_c))]) (sz := sz) (mc := 0) (ms := 0) (fun A => va_Qi (fun (r9 : Int32) (u9 : List Value) => r9 = out.1 ∧ Fr [14] f0_h0 u9 ∧ u9[14]? = some (.int out.2)) (zPost D A (fun (u9 : List Value) => [(h0, .inr (3, u9)), (h0_truths, .inl (tA 1, h0_truths_n, .inl h0_truths_c))])) A) (lv := [(0, .ref h0)]) (by decide) rfl (Nat.le_of_ble_eq_true rfl) rfl ?_
  intro p e s m below meth c A ls hx hb hr hml hh hg hown hlocks hnm hK hA hP hD0 hAw hS hl
  have hD := zD hD0 hAw
  exact b_RR_popKind_0 hx hb hr hml hh hg hown hlocks hK hA   f0_h0 _ _ _ hF q_h0_truths q_h0_operandCount Fr.rfl hP hD hS hl
def f_RR_push (h0_open_n : Nat) (h0_openPlace_n : Nat) (h0_openOrder_n : Nat) (h0_openMarks_n : Nat) (l1 : Int32) (l2 : Int32) (l3 : Int32) (h0_opened : Int32) (h0_operandWanted : Int32) (h0_at : Int32) (h0_open_c : Nat → Int32) (h0_openPlace_c : Nat → Int32) (h0_openOrder_c : Nat → Int32) (h0_openMarks_c : Nat → Int32) : Option (Int32 × Int32 × Int32 × (Nat → Int32) × (Nat → Int32) × (Nat → Int32) × (Nat → Int32)) := if (336 : Int32) ≤ h0_opened then some (h0_opened, 1, (h0_at + 1), h0_open_c, h0_openPlace_c, h0_openOrder_c, h0_openMarks_c) else chk (0 ≤ (h0_opened : Int32).toInt ∧ (h0_opened : Int32).toInt < h0_open_n) (chk (0 ≤ (h0_opened : Int32).toInt ∧ (h0_opened : Int32).toInt < h0_openPlace_n) (chk (0 ≤ (h0_opened : Int32).toInt ∧ (h0_opened : Int32).toInt < h0_openOrder_n) (chk (0 ≤ (h0_opened : Int32).toInt ∧ (h0_opened : Int32).toInt < h0_openMarks_n) (some ((h0_opened + 1), 1, (h0_at + 1), upd h0_open_c (h0_opened : Int32).toNatClampNeg l1, upd h0_openPlace_c (h0_opened : Int32).toNatClampNeg l2, upd h0_openOrder_c (h0_opened : Int32).toNatClampNeg l3, upd h0_openMarks_c (h0_opened : Int32).toNatClampNeg 0)))))
set_option maxHeartbeats 4000000 in
set_option maxRecDepth 100000 in
theorem b_RR_push_0 {p : Program} {l : Launch} {e : Env} {s : State} {m : MethodId} {args : Array Value} {below : List Frame} {meth : Method} {c : Code} {D : va_G} {tA : Nat → ClassId} {A : Nat → Prop} {h0 h0_open h0_openPlace h0_openOrder h0_openMarks : Nat} {f0_h0 : List Value} {h0_open_n : Nat} {h0_openPlace_n : Nat} {h0_openOrder_n : Nat} {h0_openMarks_n : Nat} {l1 : Int32} {l2 : Int32} {l3 : Int32} {h0_opened : Int32} {h0_operandWanted : Int32} {h0_at : Int32} {h0_open_c : Nat → Int32} {h0_openPlace_c : Nat → Int32} {h0_openOrder_c : Nat → Int32} {h0_openMarks_c : Nat → Int32} {out : Int32 × Int32 × Int32 × (Nat → Int32) × (Nat → Int32) × (Nat → Int32) × (Nat → Int32)} (hx : p.tables.exec = Jvm.exec) (hb : c.code = prog_9_method_18_code) (hr : meth.sig.returnType = (Option.none : Option Jvm.ClassFile.FieldType)) (hml : c.maxLocals = 4) (hh : zH s) (hg : ∀ w ∈ lw_R, w.before args s = true) (hown : s.vm.findClass "ChanceArena$RuleReader" = some m.cls) (hlocks : meth.locks = false) (hK : va_K D vwCl (zT tA) s) (hA : ∀ q, s.heap.size ≤ q → A q)  : ∀ (f_h0 : List Value) (H : Heap) (locs : List Loc) (ls : Array Slot), f_RR_push h0_open_n h0_openPlace_n h0_openOrder_n h0_openMarks_n l1 l2 l3 h0_opened h0_operandWanted h0_at h0_open_c h0_openPlace_c h0_openOrder_c h0_openMarks_c = some out → f_h0[8]? = some (.ref h0_open) → f_h0[9]? = some (.ref h0_openPlace) → f_h0[10]? = some (.ref h0_openOrder) → f_h0[11]? = some (.ref h0_openMarks) → f_h0[12]? = some (.int h0_opened) → f_h0[7]? = some (.int h0_operandWanted) → f_h0[2]? = some (.int h0_at) → Fr [2, 7, 12] f0_h0 f_h0 → va_P D vwCl [(h0, .inr (3, f_h0)), (h0_open, .inl (tA 0, h0_open_n, .inl h0_open_c)), (h0_openPlace, .inl (tA 0, h0_openPlace_n, .inl h0_openPlace_c)), (h0_openOrder, .inl (tA 0, h0_openOrder_n, .inl h0_openOrder_c)), (h0_openMarks, .inl (tA 0, h0_openMarks_n, .inl h0_openMarks_c))] H → va_D A [(h0, .inr (3, f_h0)), (h0_open, .inl (tA 0, h0_open_n, .inl h0_open_c)), (h0_openPlace, .inl (tA 0, h0_openPlace_n, .inl h0_openPlace_c)), (h0_openOrder, .inl (tA 0, h0_openOrder_n, .inl h0_openOrder_c)), (h0_openMarks, .inl (tA 0, h0_openMarks_n, .inl h0_openMarks_c))] → va_S A s.heap H locs → lv_has ls 4 [(0, .ref h0), (1, .int l1), (2, .int l2), (3, .int l3)] → W p l e { frames := 0, cells := 0, slots := 0, locals := 0 } s m args below meth c H locs 0 0 (MQ below (va_Qv (fun (u9 : List Value) => Fr [2, 7, 12] f0_h0 u9 ∧ u9[12]? = some (.int out.1) ∧ u9[7]? = some (.int out.2.1) ∧ u9[2]? = some (.int out.2.2.1)) (zPost D A (fun (u9 : List Value) => [(h0, .inr (3, u9)), (h0_open, .inl (tA 0, h0_open_n, .inl out.2.2.2.1)), (h0_openPlace, .inl (tA 0, h0_openPlace_n, .inl out.2.2.2.2.1)), (h0_openOrder, .inl (tA 0, h0_openOrder_n, .inl out.2.2.2.2.2.1)), (h0_openMarks, .inl (tA 0, h0_openMarks_n, .inl out.2.2.2.2.2.2))])) A) args s 0 0 A) (F0 m 0 ls []) := by
  intro   f_h0 H locs ls hF q_h0_open q_h0_openPlace q_h0_openOrder q_h0_openMarks q_h0_opened q_h0_operandWanted q_h0_at r_h0 hP hD hS hl
  replace hF : ((if (336 : Int32) ≤ h0_opened then some (h0_opened, 1, (h0_at + 1), h0_open_c, h0_openPlace_c, h0_openOrder_c, h0_openMarks_c) else chk (0 ≤ (h0_opened : Int32).toInt ∧ (h0_opened : Int32).toInt < h0_open_n) (chk (0 ≤ (h0_opened : Int32).toInt ∧ (h0_opened : Int32).toInt < h0_openPlace_n) (chk (0 ≤ (h0_opened : Int32).toInt ∧ (h0_opened : Int32).toInt < h0_openOrder_n) (chk (0 ≤ (h0_opened : Int32).toInt ∧ (h0_opened : Int32).toInt < h0_openMarks_n) (some ((h0_opened + 1), 1, (h0_at + 1), upd h0_open_c (h0_opened : Int32).toNatClampNeg l1, upd h0_openPlace_c (h0_opened : Int32).toNatClampNeg l2, upd h0_openOrder_c (h0_opened : Int32).toNatClampNeg l3, upd h0_openMarks_c (h0_opened : Int32).toNatClampNeg 0)))))) : Option (Int32 × Int32 × Int32 × (Nat → Int32) × (Nat → Int32) × (Nat → Int32) × (Nat → Int32))) = some out := hF
  refine lv_aload_n hx hb d_RR_push_0 rfl (lv_at hl 0 rfl) ?_
  refine va_get (D := D) (ci := 3) (v := .int h0_opened) (C := R_RR) (T := T_RR) (N := 20) hx hb hg i_RR hown hK hP 0 rfl rfl 12 (by decide) (hg _ k1_113) (fun _ h9 => h9) q_h0_opened d_RR_push_1 ?_
  refine lv_sipush (v := 336) hx hb d_RR_push_4 (by decide) ?_
  refine lv_icmp_ge (tgt := 60) hx hb d_RR_push_7 (by decide) (fun c9 => ?_) (fun c9 => ?_)
  · replace hF := ifp c9 hF
    refine lv_aload_n hx hb d_RR_push_60 rfl (lv_at hl 0 rfl) ?_
    refine lv_iconst (v := 1) hx hb d_RR_push_61 (by decide) ?_
    refine va_put (D := D) (ci := 3) (v := .int 1) (ty := .boolean) (C := R_RR) (T := T_RR) (N := 20) hx hb hg i_RR t_RR o_RR n_RR hown hK hP hD hS 0 rfl rfl 7 (by decide) (hg _ k1_108) (fun _ h9 => h9) rfl (by decide +kernel) rfl rfl (zLen q_h0_operandWanted) d_RR_push_62 (fun H1 locs1 hP1 hD1 hS1 => ?_)
    clear hP hD hS
    replace hP1 : va_P D vwCl [(h0, .inr (3, f_h0.set 7 (.int 1))), (h0_open, .inl (tA 0, h0_open_n, .inl h0_open_c)), (h0_openPlace, .inl (tA 0, h0_openPlace_n, .inl h0_openPlace_c)), (h0_openOrder, .inl (tA 0, h0_openOrder_n, .inl h0_openOrder_c)), (h0_openMarks, .inl (tA 0, h0_openMarks_n, .inl h0_openMarks_c))] _ := hP1
    replace hD1 : va_D A [(h0, .inr (3, f_h0.set 7 (.int 1))), (h0_open, .inl (tA 0, h0_open_n, .inl h0_open_c)), (h0_openPlace, .inl (tA 0, h0_openPlace_n, .inl h0_openPlace_c)), (h0_openOrder, .inl (tA 0, h0_openOrder_n, .inl h0_openOrder_c)), (h0_openMarks, .inl (tA 0, h0_openMarks_n, .inl h0_openMarks_c))] := hD1
    refine lv_aload_n hx hb d_RR_push_65 rfl (lv_at hl 0 rfl) ?_
    refine lv_dup hx hb d_RR_push_66 rfl ?_
    refine va_get (D := D) (ci := 3) (v := .int h0_at) (C := R_RR) (T := T_RR) (N := 20) hx hb hg i_RR hown hK hP1 0 rfl rfl 2 (by decide) (hg _ k1_98) (fun _ h9 => h9) (zSetN (by decide) q_h0_at) d_RR_push_67 ?_
    refine lv_iconst (v := 1) hx hb d_RR_push_70 (by decide) ?_
    refine lv_iadd hx hb d_RR_push_71 ?_
    refine va_put (D := D) (ci := 3) (v := .int (h0_at + 1)) (ty := .int) (C := R_RR) (T := T_RR) (N := 20) hx hb hg i_RR t_RR o_RR n_RR hown hK hP1 hD1 hS1 0 rfl rfl 2 (by decide) (hg _ k1_98) (fun _ h9 => h9) rfl (by decide +kernel) rfl rfl (zLen (zSetN (by decide) q_h0_at)) d_RR_push_72 (fun H2 locs2 hP2 hD2 hS2 => ?_)
    clear hP1 hD1 hS1
    replace hP2 : va_P D vwCl [(h0, .inr (3, (f_h0.set 7 (.int 1)).set 2 (.int (h0_at + 1)))), (h0_open, .inl (tA 0, h0_open_n, .inl h0_open_c)), (h0_openPlace, .inl (tA 0, h0_openPlace_n, .inl h0_openPlace_c)), (h0_openOrder, .inl (tA 0, h0_openOrder_n, .inl h0_openOrder_c)), (h0_openMarks, .inl (tA 0, h0_openMarks_n, .inl h0_openMarks_c))] _ := hP2
    replace hD2 : va_D A [(h0, .inr (3, (f_h0.set 7 (.int 1)).set 2 (.int (h0_at + 1)))), (h0_open, .inl (tA 0, h0_open_n, .inl h0_open_c)), (h0_openPlace, .inl (tA 0, h0_openPlace_n, .inl h0_openPlace_c)), (h0_openOrder, .inl (tA 0, h0_openOrder_n, .inl h0_openOrder_c)), (h0_openMarks, .inl (tA 0, h0_openMarks_n, .inl h0_openMarks_c))] := hD2
    replace hF := Option.some.inj hF
    subst hF
    exact zVret (post := (fun (u9 : List Value) => Fr [2, 7, 12] f0_h0 u9 ∧ u9[12]? = some (.int ((h0_opened, 1, (h0_at + 1), h0_open_c, h0_openPlace_c, h0_openOrder_c, h0_openMarks_c).1)) ∧ u9[7]? = some (.int ((h0_opened, 1, (h0_at + 1), h0_open_c, h0_openPlace_c, h0_openOrder_c, h0_openMarks_c).2.1)) ∧ u9[2]? = some (.int ((h0_opened, 1, (h0_at + 1), h0_open_c, h0_openPlace_c, h0_openOrder_c, h0_openMarks_c).2.2.1)))) (W1 := (fun (u9 : List Value) => [(h0, .inr (3, u9)), (h0_open, .inl (tA 0, h0_open_n, .inl ((h0_opened, 1, (h0_at + 1), h0_open_c, h0_openPlace_c, h0_openOrder_c, h0_openMarks_c).2.2.2.1))), (h0_openPlace, .inl (tA 0, h0_openPlace_n, .inl ((h0_opened, 1, (h0_at + 1), h0_open_c, h0_openPlace_c, h0_openOrder_c, h0_openMarks_c).2.2.2.2.1))), (h0_openOrder, .inl (tA 0, h0_openOrder_n, .inl ((h0_opened, 1, (h0_at + 1), h0_open_c, h0_openPlace_c, h0_openOrder_c, h0_openMarks_c).2.2.2.2.2.1))), (h0_openMarks, .inl (tA 0, h0_openMarks_n, .inl ((h0_opened, 1, (h0_at + 1), h0_open_c, h0_openPlace_c, h0_openOrder_c, h0_openMarks_c).2.2.2.2.2.2)))])) hx hb hr hlocks hP2 hD2 hS2 ((f_h0.set 7 (.int 1)).set 2 (.int (h0_at + 1))) ⟨(Fr.set (Fr.set r_h0 (by decide)) (by decide)), (zSetN (by decide) (zSetN (by decide) q_h0_opened)), (zSetN (by decide) (zSetS q_h0_operandWanted)), (zSetS (zSetN (by decide) q_h0_at))⟩ rfl d_RR_push_75
  · replace hF := ifn c9 hF
    refine lv_aload_n hx hb d_RR_push_10 rfl (lv_at hl 0 rfl) ?_
    refine va_get (D := D) (ci := 3) (v := .ref h0_open) (C := R_RR) (T := T_RR) (N := 20) hx hb hg i_RR hown hK hP 0 rfl rfl 8 (by decide) (hg _ k1_109) (fun _ h9 => h9) q_h0_open d_RR_push_11 ?_
    refine lv_aload_n hx hb d_RR_push_14 rfl (lv_at hl 0 rfl) ?_
    refine va_get (D := D) (ci := 3) (v := .int h0_opened) (C := R_RR) (T := T_RR) (N := 20) hx hb hg i_RR hown hK hP 0 rfl rfl 12 (by decide) (hg _ k1_113) (fun _ h9 => h9) q_h0_opened d_RR_push_15 ?_
    refine lv_iload_n hx hb d_RR_push_18 rfl (lv_at hl 1 rfl) ?_
    obtain ⟨h9, hF⟩ := chk_some hF
    refine va_iast hx hb hK hP hD hS 1 0 rfl rfl (vp_in_iff.mpr h9) d_RR_push_19 (fun H1 locs1 hP1 hD1 hS1 => ?_)
    clear hP hD hS
    replace hP1 : va_P D vwCl [(h0, .inr (3, f_h0)), (h0_open, .inl (tA 0, h0_open_n, .inl (upd h0_open_c (h0_opened : Int32).toNatClampNeg l1))), (h0_openPlace, .inl (tA 0, h0_openPlace_n, .inl h0_openPlace_c)), (h0_openOrder, .inl (tA 0, h0_openOrder_n, .inl h0_openOrder_c)), (h0_openMarks, .inl (tA 0, h0_openMarks_n, .inl h0_openMarks_c))] _ := hP1
    replace hD1 : va_D A [(h0, .inr (3, f_h0)), (h0_open, .inl (tA 0, h0_open_n, .inl (upd h0_open_c (h0_opened : Int32).toNatClampNeg l1))), (h0_openPlace, .inl (tA 0, h0_openPlace_n, .inl h0_openPlace_c)), (h0_openOrder, .inl (tA 0, h0_openOrder_n, .inl h0_openOrder_c)), (h0_openMarks, .inl (tA 0, h0_openMarks_n, .inl h0_openMarks_c))] := hD1
    refine lv_aload_n hx hb d_RR_push_20 rfl (lv_at hl 0 rfl) ?_
    refine va_get (D := D) (ci := 3) (v := .ref h0_openPlace) (C := R_RR) (T := T_RR) (N := 20) hx hb hg i_RR hown hK hP1 0 rfl rfl 9 (by decide) (hg _ k1_110) (fun _ h9 => h9) q_h0_openPlace d_RR_push_21 ?_
    refine lv_aload_n hx hb d_RR_push_24 rfl (lv_at hl 0 rfl) ?_
    refine va_get (D := D) (ci := 3) (v := .int h0_opened) (C := R_RR) (T := T_RR) (N := 20) hx hb hg i_RR hown hK hP1 0 rfl rfl 12 (by decide) (hg _ k1_113) (fun _ h9 => h9) q_h0_opened d_RR_push_25 ?_
    refine lv_iload_n hx hb d_RR_push_28 rfl (lv_at hl 2 rfl) ?_
    obtain ⟨h9, hF⟩ := chk_some hF
    refine va_iast hx hb hK hP1 hD1 hS1 2 0 rfl rfl (vp_in_iff.mpr h9) d_RR_push_29 (fun H2 locs2 hP2 hD2 hS2 => ?_)
    clear hP1 hD1 hS1
    replace hP2 : va_P D vwCl [(h0, .inr (3, f_h0)), (h0_open, .inl (tA 0, h0_open_n, .inl (upd h0_open_c (h0_opened : Int32).toNatClampNeg l1))), (h0_openPlace, .inl (tA 0, h0_openPlace_n, .inl (upd h0_openPlace_c (h0_opened : Int32).toNatClampNeg l2))), (h0_openOrder, .inl (tA 0, h0_openOrder_n, .inl h0_openOrder_c)), (h0_openMarks, .inl (tA 0, h0_openMarks_n, .inl h0_openMarks_c))] _ := hP2
    replace hD2 : va_D A [(h0, .inr (3, f_h0)), (h0_open, .inl (tA 0, h0_open_n, .inl (upd h0_open_c (h0_opened : Int32).toNatClampNeg l1))), (h0_openPlace, .inl (tA 0, h0_openPlace_n, .inl (upd h0_openPlace_c (h0_opened : Int32).toNatClampNeg l2))), (h0_openOrder, .inl (tA 0, h0_openOrder_n, .inl h0_openOrder_c)), (h0_openMarks, .inl (tA 0, h0_openMarks_n, .inl h0_openMarks_c))] := hD2
    refine lv_aload_n hx hb d_RR_push_30 rfl (lv_at hl 0 rfl) ?_
    refine va_get (D := D) (ci := 3) (v := .ref h0_openOrder) (C := R_RR) (T := T_RR) (N := 20) hx hb hg i_RR hown hK hP2 0 rfl rfl 10 (by decide) (hg _ k1_111) (fun _ h9 => h9) q_h0_openOrder d_RR_push_31 ?_
    refine lv_aload_n hx hb d_RR_push_34 rfl (lv_at hl 0 rfl) ?_
    refine va_get (D := D) (ci := 3) (v := .int h0_opened) (C := R_RR) (T := T_RR) (N := 20) hx hb hg i_RR hown hK hP2 0 rfl rfl 12 (by decide) (hg _ k1_113) (fun _ h9 => h9) q_h0_opened d_RR_push_35 ?_
    refine lv_iload_n hx hb d_RR_push_38 rfl (lv_at hl 3 rfl) ?_
    obtain ⟨h9, hF⟩ := chk_some hF
    refine va_iast hx hb hK hP2 hD2 hS2 3 0 rfl rfl (vp_in_iff.mpr h9) d_RR_push_39 (fun H3 locs3 hP3 hD3 hS3 => ?_)
    clear hP2 hD2 hS2
    replace hP3 : va_P D vwCl [(h0, .inr (3, f_h0)), (h0_open, .inl (tA 0, h0_open_n, .inl (upd h0_open_c (h0_opened : Int32).toNatClampNeg l1))), (h0_openPlace, .inl (tA 0, h0_openPlace_n, .inl (upd h0_openPlace_c (h0_opened : Int32).toNatClampNeg l2))), (h0_openOrder, .inl (tA 0, h0_openOrder_n, .inl (upd h0_openOrder_c (h0_opened : Int32).toNatClampNeg l3))), (h0_openMarks, .inl (tA 0, h0_openMarks_n, .inl h0_openMarks_c))] _ := hP3
    replace hD3 : va_D A [(h0, .inr (3, f_h0)), (h0_open, .inl (tA 0, h0_open_n, .inl (upd h0_open_c (h0_opened : Int32).toNatClampNeg l1))), (h0_openPlace, .inl (tA 0, h0_openPlace_n, .inl (upd h0_openPlace_c (h0_opened : Int32).toNatClampNeg l2))), (h0_openOrder, .inl (tA 0, h0_openOrder_n, .inl (upd h0_openOrder_c (h0_opened : Int32).toNatClampNeg l3))), (h0_openMarks, .inl (tA 0, h0_openMarks_n, .inl h0_openMarks_c))] := hD3
    refine lv_aload_n hx hb d_RR_push_40 rfl (lv_at hl 0 rfl) ?_
    refine va_get (D := D) (ci := 3) (v := .ref h0_openMarks) (C := R_RR) (T := T_RR) (N := 20) hx hb hg i_RR hown hK hP3 0 rfl rfl 11 (by decide) (hg _ k1_112) (fun _ h9 => h9) q_h0_openMarks d_RR_push_41 ?_
    refine lv_aload_n hx hb d_RR_push_44 rfl (lv_at hl 0 rfl) ?_
    refine va_get (D := D) (ci := 3) (v := .int h0_opened) (C := R_RR) (T := T_RR) (N := 20) hx hb hg i_RR hown hK hP3 0 rfl rfl 12 (by decide) (hg _ k1_113) (fun _ h9 => h9) q_h0_opened d_RR_push_45 ?_
    refine lv_iconst (v := 0) hx hb d_RR_push_48 (by decide) ?_
    obtain ⟨h9, hF⟩ := chk_some hF
    refine va_iast hx hb hK hP3 hD3 hS3 4 0 rfl rfl (vp_in_iff.mpr h9) d_RR_push_49 (fun H4 locs4 hP4 hD4 hS4 => ?_)
    clear hP3 hD3 hS3
    replace hP4 : va_P D vwCl [(h0, .inr (3, f_h0)), (h0_open, .inl (tA 0, h0_open_n, .inl (upd h0_open_c (h0_opened : Int32).toNatClampNeg l1))), (h0_openPlace, .inl (tA 0, h0_openPlace_n, .inl (upd h0_openPlace_c (h0_opened : Int32).toNatClampNeg l2))), (h0_openOrder, .inl (tA 0, h0_openOrder_n, .inl (upd h0_openOrder_c (h0_opened : Int32).toNatClampNeg l3))), (h0_openMarks, .inl (tA 0, h0_openMarks_n, .inl (upd h0_openMarks_c (h0_opened : Int32).toNatClampNeg 0)))] _ := hP4
    replace hD4 : va_D A [(h0, .inr (3, f_h0)), (h0_open, .inl (tA 0, h0_open_n, .inl (upd h0_open_c (h0_opened : Int32).toNatClampNeg l1))), (h0_openPlace, .inl (tA 0, h0_openPlace_n, .inl (upd h0_openPlace_c (h0_opened : Int32).toNatClampNeg l2))), (h0_openOrder, .inl (tA 0, h0_openOrder_n, .inl (upd h0_openOrder_c (h0_opened : Int32).toNatClampNeg l3))), (h0_openMarks, .inl (tA 0, h0_openMarks_n, .inl (upd h0_openMarks_c (h0_opened : Int32).toNatClampNeg 0)))] := hD4
    refine lv_aload_n hx hb d_RR_push_50 rfl (lv_at hl 0 rfl) ?_
    refine lv_dup hx hb d_RR_push_51 rfl ?_
    refine va_get (D := D) (ci := 3) (v := .int h0_opened) (C := R_RR) (T := T_RR) (N := 20) hx hb hg i_RR hown hK hP4 0 rfl rfl 12 (by decide) (hg _ k1_113) (fun _ h9 => h9) q_h0_opened d_RR_push_52 ?_
    refine lv_iconst (v := 1) hx hb d_RR_push_55 (by decide) ?_
    refine lv_iadd hx hb d_RR_push_56 ?_
    refine va_put (D := D) (ci := 3) (v := .int (h0_opened + 1)) (ty := .int) (C := R_RR) (T := T_RR) (N := 20) hx hb hg i_RR t_RR o_RR n_RR hown hK hP4 hD4 hS4 0 rfl rfl 12 (by decide) (hg _ k1_113) (fun _ h9 => h9) rfl (by decide +kernel) rfl rfl (zLen q_h0_opened) d_RR_push_57 (fun H5 locs5 hP5 hD5 hS5 => ?_)
    clear hP4 hD4 hS4
    replace hP5 : va_P D vwCl [(h0, .inr (3, f_h0.set 12 (.int (h0_opened + 1)))), (h0_open, .inl (tA 0, h0_open_n, .inl (upd h0_open_c (h0_opened : Int32).toNatClampNeg l1))), (h0_openPlace, .inl (tA 0, h0_openPlace_n, .inl (upd h0_openPlace_c (h0_opened : Int32).toNatClampNeg l2))), (h0_openOrder, .inl (tA 0, h0_openOrder_n, .inl (upd h0_openOrder_c (h0_opened : Int32).toNatClampNeg l3))), (h0_openMarks, .inl (tA 0, h0_openMarks_n, .inl (upd h0_openMarks_c (h0_opened : Int32).toNatClampNeg 0)))] _ := hP5
    replace hD5 : va_D A [(h0, .inr (3, f_h0.set 12 (.int (h0_opened + 1)))), (h0_open, .inl (tA 0, h0_open_n, .inl (upd h0_open_c (h0_opened : Int32).toNatClampNeg l1))), (h0_openPlace, .inl (tA 0, h0_openPlace_n, .inl (upd h0_openPlace_c (h0_opened : Int32).toNatClampNeg l2))), (h0_openOrder, .inl (tA 0, h0_openOrder_n, .inl (upd h0_openOrder_c (h0_opened : Int32).toNatClampNeg l3))), (h0_openMarks, .inl (tA 0, h0_openMarks_n, .inl (upd h0_openMarks_c (h0_opened : Int32).toNatClampNeg 0)))] := hD5
    refine lv_aload_n hx hb d_RR_push_60 rfl (lv_at hl 0 rfl) ?_
    refine lv_iconst (v := 1) hx hb d_RR_push_61 (by decide) ?_
    refine va_put (D := D) (ci := 3) (v := .int 1) (ty := .boolean) (C := R_RR) (T := T_RR) (N := 20) hx hb hg i_RR t_RR o_RR n_RR hown hK hP5 hD5 hS5 0 rfl rfl 7 (by decide) (hg _ k1_108) (fun _ h9 => h9) rfl (by decide +kernel) rfl rfl (zLen (zSetN (by decide) q_h0_operandWanted)) d_RR_push_62 (fun H6 locs6 hP6 hD6 hS6 => ?_)
    clear hP5 hD5 hS5
    replace hP6 : va_P D vwCl [(h0, .inr (3, (f_h0.set 12 (.int (h0_opened + 1))).set 7 (.int 1))), (h0_open, .inl (tA 0, h0_open_n, .inl (upd h0_open_c (h0_opened : Int32).toNatClampNeg l1))), (h0_openPlace, .inl (tA 0, h0_openPlace_n, .inl (upd h0_openPlace_c (h0_opened : Int32).toNatClampNeg l2))), (h0_openOrder, .inl (tA 0, h0_openOrder_n, .inl (upd h0_openOrder_c (h0_opened : Int32).toNatClampNeg l3))), (h0_openMarks, .inl (tA 0, h0_openMarks_n, .inl (upd h0_openMarks_c (h0_opened : Int32).toNatClampNeg 0)))] _ := hP6
    replace hD6 : va_D A [(h0, .inr (3, (f_h0.set 12 (.int (h0_opened + 1))).set 7 (.int 1))), (h0_open, .inl (tA 0, h0_open_n, .inl (upd h0_open_c (h0_opened : Int32).toNatClampNeg l1))), (h0_openPlace, .inl (tA 0, h0_openPlace_n, .inl (upd h0_openPlace_c (h0_opened : Int32).toNatClampNeg l2))), (h0_openOrder, .inl (tA 0, h0_openOrder_n, .inl (upd h0_openOrder_c (h0_opened : Int32).toNatClampNeg l3))), (h0_openMarks, .inl (tA 0, h0_openMarks_n, .inl (upd h0_openMarks_c (h0_opened : Int32).toNatClampNeg 0)))] := hD6
    refine lv_aload_n hx hb d_RR_push_65 rfl (lv_at hl 0 rfl) ?_
    refine lv_dup hx hb d_RR_push_66 rfl ?_
    refine va_get (D := D) (ci := 3) (v := .int h0_at) (C := R_RR) (T := T_RR) (N := 20) hx hb hg i_RR hown hK hP6 0 rfl rfl 2 (by decide) (hg _ k1_98) (fun _ h9 => h9) (zSetN (by decide) (zSetN (by decide) q_h0_at)) d_RR_push_67 ?_
    refine lv_iconst (v := 1) hx hb d_RR_push_70 (by decide) ?_
    refine lv_iadd hx hb d_RR_push_71 ?_
    refine va_put (D := D) (ci := 3) (v := .int (h0_at + 1)) (ty := .int) (C := R_RR) (T := T_RR) (N := 20) hx hb hg i_RR t_RR o_RR n_RR hown hK hP6 hD6 hS6 0 rfl rfl 2 (by decide) (hg _ k1_98) (fun _ h9 => h9) rfl (by decide +kernel) rfl rfl (zLen (zSetN (by decide) (zSetN (by decide) q_h0_at))) d_RR_push_72 (fun H7 locs7 hP7 hD7 hS7 => ?_)
    clear hP6 hD6 hS6
    replace hP7 : va_P D vwCl [(h0, .inr (3, ((f_h0.set 12 (.int (h0_opened + 1))).set 7 (.int 1)).set 2 (.int (h0_at + 1)))), (h0_open, .inl (tA 0, h0_open_n, .inl (upd h0_open_c (h0_opened : Int32).toNatClampNeg l1))), (h0_openPlace, .inl (tA 0, h0_openPlace_n, .inl (upd h0_openPlace_c (h0_opened : Int32).toNatClampNeg l2))), (h0_openOrder, .inl (tA 0, h0_openOrder_n, .inl (upd h0_openOrder_c (h0_opened : Int32).toNatClampNeg l3))), (h0_openMarks, .inl (tA 0, h0_openMarks_n, .inl (upd h0_openMarks_c (h0_opened : Int32).toNatClampNeg 0)))] _ := hP7
    replace hD7 : va_D A [(h0, .inr (3, ((f_h0.set 12 (.int (h0_opened + 1))).set 7 (.int 1)).set 2 (.int (h0_at + 1)))), (h0_open, .inl (tA 0, h0_open_n, .inl (upd h0_open_c (h0_opened : Int32).toNatClampNeg l1))), (h0_openPlace, .inl (tA 0, h0_openPlace_n, .inl (upd h0_openPlace_c (h0_opened : Int32).toNatClampNeg l2))), (h0_openOrder, .inl (tA 0, h0_openOrder_n, .inl (upd h0_openOrder_c (h0_opened : Int32).toNatClampNeg l3))), (h0_openMarks, .inl (tA 0, h0_openMarks_n, .inl (upd h0_openMarks_c (h0_opened : Int32).toNatClampNeg 0)))] := hD7
    replace hF := Option.some.inj hF
    subst hF
    exact zVret (post := (fun (u9 : List Value) => Fr [2, 7, 12] f0_h0 u9 ∧ u9[12]? = some (.int (((h0_opened + 1), 1, (h0_at + 1), upd h0_open_c (h0_opened : Int32).toNatClampNeg l1, upd h0_openPlace_c (h0_opened : Int32).toNatClampNeg l2, upd h0_openOrder_c (h0_opened : Int32).toNatClampNeg l3, upd h0_openMarks_c (h0_opened : Int32).toNatClampNeg 0).1)) ∧ u9[7]? = some (.int (((h0_opened + 1), 1, (h0_at + 1), upd h0_open_c (h0_opened : Int32).toNatClampNeg l1, upd h0_openPlace_c (h0_opened : Int32).toNatClampNeg l2, upd h0_openOrder_c (h0_opened : Int32).toNatClampNeg l3, upd h0_openMarks_c (h0_opened : Int32).toNatClampNeg 0).2.1)) ∧ u9[2]? = some (.int (((h0_opened + 1), 1, (h0_at + 1), upd h0_open_c (h0_opened : Int32).toNatClampNeg l1, upd h0_openPlace_c (h0_opened : Int32).toNatClampNeg l2, upd h0_openOrder_c (h0_opened : Int32).toNatClampNeg l3, upd h0_openMarks_c (h0_opened : Int32).toNatClampNeg 0).2.2.1)))) (W1 := (fun (u9 : List Value) => [(h0, .inr (3, u9)), (h0_open, .inl (tA 0, h0_open_n, .inl (((h0_opened + 1), 1, (h0_at + 1), upd h0_open_c (h0_opened : Int32).toNatClampNeg l1, upd h0_openPlace_c (h0_opened : Int32).toNatClampNeg l2, upd h0_openOrder_c (h0_opened : Int32).toNatClampNeg l3, upd h0_openMarks_c (h0_opened : Int32).toNatClampNeg 0).2.2.2.1))), (h0_openPlace, .inl (tA 0, h0_openPlace_n, .inl (((h0_opened + 1), 1, (h0_at + 1), upd h0_open_c (h0_opened : Int32).toNatClampNeg l1, upd h0_openPlace_c (h0_opened : Int32).toNatClampNeg l2, upd h0_openOrder_c (h0_opened : Int32).toNatClampNeg l3, upd h0_openMarks_c (h0_opened : Int32).toNatClampNeg 0).2.2.2.2.1))), (h0_openOrder, .inl (tA 0, h0_openOrder_n, .inl (((h0_opened + 1), 1, (h0_at + 1), upd h0_open_c (h0_opened : Int32).toNatClampNeg l1, upd h0_openPlace_c (h0_opened : Int32).toNatClampNeg l2, upd h0_openOrder_c (h0_opened : Int32).toNatClampNeg l3, upd h0_openMarks_c (h0_opened : Int32).toNatClampNeg 0).2.2.2.2.2.1))), (h0_openMarks, .inl (tA 0, h0_openMarks_n, .inl (((h0_opened + 1), 1, (h0_at + 1), upd h0_open_c (h0_opened : Int32).toNatClampNeg l1, upd h0_openPlace_c (h0_opened : Int32).toNatClampNeg l2, upd h0_openOrder_c (h0_opened : Int32).toNatClampNeg l3, upd h0_openMarks_c (h0_opened : Int32).toNatClampNeg 0).2.2.2.2.2.2)))])) hx hb hr hlocks hP7 hD7 hS7 (((f_h0.set 12 (.int (h0_opened + 1))).set 7 (.int 1)).set 2 (.int (h0_at + 1))) ⟨(Fr.set (Fr.set (Fr.set r_h0 (by decide)) (by decide)) (by decide)), (zSetN (by decide) (zSetN (by decide) (zSetS q_h0_opened))), (zSetN (by decide) (zSetS (zSetN (by decide) q_h0_operandWanted))), (zSetS (zSetN (by decide) (zSetN (by decide) q_h0_at)))⟩ rfl d_RR_push_75
set_option maxHeartbeats 4000000 in
set_option maxRecDepth 100000 in
theorem m_RR_push (l : Launch) (D : va_G) (tA : Nat → ClassId) (sz : Nat) (h0 h0_open h0_openPlace h0_openOrder h0_openMarks : Nat) (f0_h0 : List Value) (h0_open_n : Nat) (h0_openPlace_n : Nat) (h0_openOrder_n : Nat) (h0_openMarks_n : Nat) (l1 : Int32) (l2 : Int32) (l3 : Int32) (h0_opened : Int32) (h0_operandWanted : Int32) (h0_at : Int32) (h0_open_c : Nat → Int32) (h0_openPlace_c : Nat → Int32) (h0_openOrder_c : Nat → Int32) (h0_openMarks_c : Nat → Int32) (q_h0_open : f0_h0[8]? = some (.ref h0_open)) (q_h0_openPlace : f0_h0[9]? = some (.ref h0_openPlace)) (q_h0_openOrder : f0_h0[10]? = some (.ref h0_openOrder)) (q_h0_openMarks : f0_h0[11]? = some (.ref h0_openMarks)) (q_h0_opened : f0_h0[12]? = some (.int h0_opened)) (q_h0_operandWanted : f0_h0[7]? = some (.int h0_operandWanted)) (q_h0_at : f0_h0[2]? = some (.int h0_at)) (out : Int32 × Int32 × Int32 × (Nat → Int32) × (Nat → Int32) × (Nat → Int32) × (Nat → Int32)) (hF : f_RR_push h0_open_n h0_openPlace_n h0_openOrder_n h0_openMarks_n l1 l2 l3 h0_opened h0_operandWanted h0_at h0_open_c h0_openPlace_c h0_openOrder_c h0_openMarks_c = some out) : zMv l ({ cls := "ChanceArena$RuleReader", name := "push", desc := "(III)V" } : Jvm.MethodName) (zW (Jvm.Cond.code ({ cls := "ChanceArena$RuleReader", name := "push", desc := "(III)V" } : Jvm.MethodName) prog_9_method_18_code (4 : Nat) (Option.none : Option Jvm.ClassFile.FieldType))) { frames := 0, cells := 0, slots := 0, locals := 0 } [.ref h0, .int l1, .int l2, .int l3] D tA [(h0, .inr (3, f0_h0)), (h0_open, .inl (tA 0, h0_open_n, .inl h0_open_c)), (h0_openPlace, .inl (tA 0, h0_openPlace_n, .inl h0_openPlace_c)), (h0_openOrder, .inl (tA 0, h0_openOrder_n, .inl h0_openOrder_c)), (h0_openMarks, .inl (tA 0, h0_openMarks_n, .inl h0_openMarks_c))] sz (fun (u9 : List Value) => Fr [2, 7, 12] f0_h0 u9 ∧ u9[12]? = some (.int out.1) ∧ u9[7]? = some (.int out.2.1) ∧ u9[2]? = some (.int out.2.2.1)) (fun (u9 : List Value) => [(h0, .inr (3, u9)), (h0_open, .inl (tA 0, h0_open_n, .inl out.2.2.2.1)), (h0_openPlace, .inl (tA 0, h0_openPlace_n, .inl out.2.2.2.2.1)), (h0_openOrder, .inl (tA 0, h0_openOrder_n, .inl out.2.2.2.2.2.1)), (h0_openMarks, .inl (tA 0, h0_openMarks_n, .inl out.2.2.2.2.2.2))]) 0 0 := by
  refine zOpen (l := l) (y := ({ cls := "ChanceArena$RuleReader", name := "push", desc := "(III)V" } : Jvm.MethodName)) (ws := zW (Jvm.Cond.code ({ cls := "ChanceArena$RuleReader", name := "push", desc := "(III)V" } : Jvm.MethodName) prog_9_method_18_code (4 : Nat) (Option.none : Option Jvm.ClassFile.FieldType))) (rm := { frames := 0, cells := 0, slots := 0, locals := 0 }) (av := [.ref h0, .int l1, .int l2, .int l3]) (D := D) (tA := tA) (W0 := [(h0, .inr (3, f0_h0)), (h0_open, .inl (tA 0, h0_open_n, .inl h0_open_c)), (h0_openPlace, .inl (tA 0, h0_openPlace_n, .inl h0_openPlace_c)), (h0_openOrder, .inl (tA 0, h0_openOrder_n, .inl h0_openOrder_c)), (h0_openMarks, .inl (tA 0, h0_openMarks_n, .inl h0_openMarks_c))]) (Wm := [(h0, .inr (3, f0_h0)), (h0_open, .inl (tA 0, h0_open_n, .inl h0_open_c)), (h0_openPlace, .inl (tA 0, h0_openPlace_n, .inl h0_openPlace_c)), (h0_openOrder, .inl (tA 0, h0_openOrder_n, .inl h0_openOrder_c)), (h0_openMarks, .inl (tA 0, h0_openMarks_n, .inl h0_openMarks_c))]) (sz := sz) (mc := 0) (ms := 0) (fun A => va_Qv (fun (u9 : List Value) => Fr [2, 7, 12] f0_h0 u9 ∧ u9[12]? = some (.int out.1) ∧ u9[7]? = some (.int out.2.1) ∧ u9[2]? = some (.int out.2.2.1)) (zPost D A (fun (u9 : List Value) => [(h0, .inr (3, u9)), (h0_open, .inl (tA 0, h0_open_n, .inl out.2.2.2.1)), (h0_openPlace, .inl (tA 0, h0_openPlace_n, .inl out.2.2.2.2.1)), (h0_openOrder, .inl (tA 0, h0_openOrder_n, .inl out.2.2.2.2.2.1)), (h0_openMarks, .inl (tA 0, h0_openMarks_n, .inl out.2.2.2.2.2.2))])) A) (lv := [(0, .ref h0), (1, .int l1), (2, .int l2), (3, .int l3)]) (by decide) rfl (Nat.le_of_ble_eq_true rfl) rfl ?_
  intro p e s m below meth c A ls hx hb hr hml hh hg hown hlocks hnm hK hA hP hD0 hAw hS hl
  have hD := zD hD0 hAw
  exact b_RR_push_0 hx hb hr hml hh hg hown hlocks hK hA   f0_h0 _ _ _ hF q_h0_open q_h0_openPlace q_h0_openOrder q_h0_openMarks q_h0_opened q_h0_operandWanted q_h0_at Fr.rfl hP hD hS hl
def f_RR_level (l0 : Int32) : Option (Int32) := if (l0 : Int32).toInt = 19 then (some (4)) else if (l0 : Int32).toInt = 20 then (some (4)) else if (l0 : Int32).toInt = 21 then (some (4)) else if (l0 : Int32).toInt = 22 then (some (4)) else if (l0 : Int32).toInt = 23 then (some (4)) else if (l0 : Int32).toInt = 24 then (some (4)) else if (l0 : Int32).toInt = 25 then (some (5)) else if (l0 : Int32).toInt = 26 then (some (5)) else if (l0 : Int32).toInt = 27 then (some (6)) else if (l0 : Int32).toInt = 28 then (some (6)) else if (l0 : Int32).toInt = 29 then (some (6)) else if (l0 : Int32).toInt = 30 then (some (2)) else if (l0 : Int32).toInt = 31 then (some (1)) else if (l0 : Int32).toInt = 32 then (some (0)) else if (l0 : Int32).toInt = 33 then (some (0)) else if (l0 : Int32).toInt = 34 then (some (0)) else if (l0 : Int32).toInt = 35 then (some (0)) else if (l0 : Int32).toInt = 36 then (some (0)) else if (l0 : Int32).toInt = 37 then (some (0)) else if (l0 : Int32).toInt = 38 then (some (0)) else if (l0 : Int32).toInt = 39 then (some (0)) else if (l0 : Int32).toInt = 40 then (some (0)) else if (l0 : Int32).toInt = 41 then (some (3)) else some (0)
set_option maxHeartbeats 4000000 in
set_option maxRecDepth 100000 in
theorem b_RR_level_0 {p : Program} {l : Launch} {e : Env} {s : State} {m : MethodId} {args : Array Value} {below : List Frame} {meth : Method} {c : Code} {D : va_G} {tA : Nat → ClassId} {A : Nat → Prop} {l0 : Int32} {out : Int32} (hx : p.tables.exec = Jvm.exec) (hb : c.code = prog_9_method_19_code) (hr : meth.sig.returnType = (Option.some Jvm.ClassFile.FieldType.int)) (hml : c.maxLocals = 1) (hh : zH s) (hg : ∀ w ∈ lw_R, w.before args s = true) (hown : s.vm.findClass "ChanceArena$RuleReader" = some m.cls) (hlocks : meth.locks = false) (hK : va_K D vwCl (zT tA) s) (hA : ∀ q, s.heap.size ≤ q → A q)  : ∀ (H : Heap) (locs : List Loc) (ls : Array Slot), f_RR_level l0 = some out → va_P D vwCl [] H → va_D A [] → va_S A s.heap H locs → lv_has ls 1 [(0, .int l0)] → W p l e { frames := 0, cells := 0, slots := 0, locals := 0 } s m args below meth c H locs 0 0 (MQ below (va_Qi (fun (r9 : Int32) (u9 : Unit) => r9 = out) (zPost D A (fun (u9 : Unit) => [])) A) args s 0 0 A) (F0 m 0 ls []) := by
  intro    H locs ls hF  hP hD hS hl
  replace hF : ((if (l0 : Int32).toInt = 19 then (some (4)) else if (l0 : Int32).toInt = 20 then (some (4)) else if (l0 : Int32).toInt = 21 then (some (4)) else if (l0 : Int32).toInt = 22 then (some (4)) else if (l0 : Int32).toInt = 23 then (some (4)) else if (l0 : Int32).toInt = 24 then (some (4)) else if (l0 : Int32).toInt = 25 then (some (5)) else if (l0 : Int32).toInt = 26 then (some (5)) else if (l0 : Int32).toInt = 27 then (some (6)) else if (l0 : Int32).toInt = 28 then (some (6)) else if (l0 : Int32).toInt = 29 then (some (6)) else if (l0 : Int32).toInt = 30 then (some (2)) else if (l0 : Int32).toInt = 31 then (some (1)) else if (l0 : Int32).toInt = 32 then (some (0)) else if (l0 : Int32).toInt = 33 then (some (0)) else if (l0 : Int32).toInt = 34 then (some (0)) else if (l0 : Int32).toInt = 35 then (some (0)) else if (l0 : Int32).toInt = 36 then (some (0)) else if (l0 : Int32).toInt = 37 then (some (0)) else if (l0 : Int32).toInt = 38 then (some (0)) else if (l0 : Int32).toInt = 39 then (some (0)) else if (l0 : Int32).toInt = 40 then (some (0)) else if (l0 : Int32).toInt = 41 then (some (3)) else some (0)) : Option (Int32)) = some out := hF
  refine lv_iload_n hx hb d_RR_level_0 rfl (lv_at hl 0 rfl) ?_
  by_cases w1_19 : (l0 : Int32).toInt = 19
  · replace hF := ifp w1_19 hF
    refine lv_tableIn (off := 113) (tgt := 114) hx hb d_RR_level_1 (by omega) (by omega) (by rw [w1_19]; rfl) (by decide) ?_
    refine lv_iconst (v := 4) hx hb d_RR_level_114 (by decide) ?_
    replace hF := Option.some.inj hF
    subst hF
    exact zZret (post := (fun (r9 : Int32) (u9 : Unit) => r9 = 4)) (W1 := (fun (u9 : Unit) => [])) (v := 4) hx hb hr rfl hlocks hP hD hS () rfl rfl d_RR_level_115
  · replace hF := ifn w1_19 hF
    by_cases w1_20 : (l0 : Int32).toInt = 20
    · replace hF := ifp w1_20 hF
      refine lv_tableIn (off := 113) (tgt := 114) hx hb d_RR_level_1 (by omega) (by omega) (by rw [w1_20]; rfl) (by decide) ?_
      refine lv_iconst (v := 4) hx hb d_RR_level_114 (by decide) ?_
      replace hF := Option.some.inj hF
      subst hF
      exact zZret (post := (fun (r9 : Int32) (u9 : Unit) => r9 = 4)) (W1 := (fun (u9 : Unit) => [])) (v := 4) hx hb hr rfl hlocks hP hD hS () rfl rfl d_RR_level_115
    · replace hF := ifn w1_20 hF
      by_cases w1_21 : (l0 : Int32).toInt = 21
      · replace hF := ifp w1_21 hF
        refine lv_tableIn (off := 113) (tgt := 114) hx hb d_RR_level_1 (by omega) (by omega) (by rw [w1_21]; rfl) (by decide) ?_
        refine lv_iconst (v := 4) hx hb d_RR_level_114 (by decide) ?_
        replace hF := Option.some.inj hF
        subst hF
        exact zZret (post := (fun (r9 : Int32) (u9 : Unit) => r9 = 4)) (W1 := (fun (u9 : Unit) => [])) (v := 4) hx hb hr rfl hlocks hP hD hS () rfl rfl d_RR_level_115
      · replace hF := ifn w1_21 hF
        by_cases w1_22 : (l0 : Int32).toInt = 22
        · replace hF := ifp w1_22 hF
          refine lv_tableIn (off := 113) (tgt := 114) hx hb d_RR_level_1 (by omega) (by omega) (by rw [w1_22]; rfl) (by decide) ?_
          refine lv_iconst (v := 4) hx hb d_RR_level_114 (by decide) ?_
          replace hF := Option.some.inj hF
          subst hF
          exact zZret (post := (fun (r9 : Int32) (u9 : Unit) => r9 = 4)) (W1 := (fun (u9 : Unit) => [])) (v := 4) hx hb hr rfl hlocks hP hD hS () rfl rfl d_RR_level_115
        · replace hF := ifn w1_22 hF
          by_cases w1_23 : (l0 : Int32).toInt = 23
          · replace hF := ifp w1_23 hF
            refine lv_tableIn (off := 113) (tgt := 114) hx hb d_RR_level_1 (by omega) (by omega) (by rw [w1_23]; rfl) (by decide) ?_
            refine lv_iconst (v := 4) hx hb d_RR_level_114 (by decide) ?_
            replace hF := Option.some.inj hF
            subst hF
            exact zZret (post := (fun (r9 : Int32) (u9 : Unit) => r9 = 4)) (W1 := (fun (u9 : Unit) => [])) (v := 4) hx hb hr rfl hlocks hP hD hS () rfl rfl d_RR_level_115
          · replace hF := ifn w1_23 hF
            by_cases w1_24 : (l0 : Int32).toInt = 24
            · replace hF := ifp w1_24 hF
              refine lv_tableIn (off := 113) (tgt := 114) hx hb d_RR_level_1 (by omega) (by omega) (by rw [w1_24]; rfl) (by decide) ?_
              refine lv_iconst (v := 4) hx hb d_RR_level_114 (by decide) ?_
              replace hF := Option.some.inj hF
              subst hF
              exact zZret (post := (fun (r9 : Int32) (u9 : Unit) => r9 = 4)) (W1 := (fun (u9 : Unit) => [])) (v := 4) hx hb hr rfl hlocks hP hD hS () rfl rfl d_RR_level_115
            · replace hF := ifn w1_24 hF
              by_cases w1_25 : (l0 : Int32).toInt = 25
              · replace hF := ifp w1_25 hF
                refine lv_tableIn (off := 115) (tgt := 116) hx hb d_RR_level_1 (by omega) (by omega) (by rw [w1_25]; rfl) (by decide) ?_
                refine lv_iconst (v := 5) hx hb d_RR_level_116 (by decide) ?_
                replace hF := Option.some.inj hF
                subst hF
                exact zZret (post := (fun (r9 : Int32) (u9 : Unit) => r9 = 5)) (W1 := (fun (u9 : Unit) => [])) (v := 5) hx hb hr rfl hlocks hP hD hS () rfl rfl d_RR_level_117
              · replace hF := ifn w1_25 hF
                by_cases w1_26 : (l0 : Int32).toInt = 26
                · replace hF := ifp w1_26 hF
                  refine lv_tableIn (off := 115) (tgt := 116) hx hb d_RR_level_1 (by omega) (by omega) (by rw [w1_26]; rfl) (by decide) ?_
                  refine lv_iconst (v := 5) hx hb d_RR_level_116 (by decide) ?_
                  replace hF := Option.some.inj hF
                  subst hF
                  exact zZret (post := (fun (r9 : Int32) (u9 : Unit) => r9 = 5)) (W1 := (fun (u9 : Unit) => [])) (v := 5) hx hb hr rfl hlocks hP hD hS () rfl rfl d_RR_level_117
                · replace hF := ifn w1_26 hF
                  by_cases w1_27 : (l0 : Int32).toInt = 27
                  · replace hF := ifp w1_27 hF
                    refine lv_tableIn (off := 117) (tgt := 118) hx hb d_RR_level_1 (by omega) (by omega) (by rw [w1_27]; rfl) (by decide) ?_
                    refine lv_bipush (v := 6) hx hb d_RR_level_118 (by decide) ?_
                    replace hF := Option.some.inj hF
                    subst hF
                    exact zZret (post := (fun (r9 : Int32) (u9 : Unit) => r9 = 6)) (W1 := (fun (u9 : Unit) => [])) (v := 6) hx hb hr rfl hlocks hP hD hS () rfl rfl d_RR_level_120
                  · replace hF := ifn w1_27 hF
                    by_cases w1_28 : (l0 : Int32).toInt = 28
                    · replace hF := ifp w1_28 hF
                      refine lv_tableIn (off := 117) (tgt := 118) hx hb d_RR_level_1 (by omega) (by omega) (by rw [w1_28]; rfl) (by decide) ?_
                      refine lv_bipush (v := 6) hx hb d_RR_level_118 (by decide) ?_
                      replace hF := Option.some.inj hF
                      subst hF
                      exact zZret (post := (fun (r9 : Int32) (u9 : Unit) => r9 = 6)) (W1 := (fun (u9 : Unit) => [])) (v := 6) hx hb hr rfl hlocks hP hD hS () rfl rfl d_RR_level_120
                    · replace hF := ifn w1_28 hF
                      by_cases w1_29 : (l0 : Int32).toInt = 29
                      · replace hF := ifp w1_29 hF
                        refine lv_tableIn (off := 117) (tgt := 118) hx hb d_RR_level_1 (by omega) (by omega) (by rw [w1_29]; rfl) (by decide) ?_
                        refine lv_bipush (v := 6) hx hb d_RR_level_118 (by decide) ?_
                        replace hF := Option.some.inj hF
                        subst hF
                        exact zZret (post := (fun (r9 : Int32) (u9 : Unit) => r9 = 6)) (W1 := (fun (u9 : Unit) => [])) (v := 6) hx hb hr rfl hlocks hP hD hS () rfl rfl d_RR_level_120
                      · replace hF := ifn w1_29 hF
                        by_cases w1_30 : (l0 : Int32).toInt = 30
                        · replace hF := ifp w1_30 hF
                          refine lv_tableIn (off := 109) (tgt := 110) hx hb d_RR_level_1 (by omega) (by omega) (by rw [w1_30]; rfl) (by decide) ?_
                          refine lv_iconst (v := 2) hx hb d_RR_level_110 (by decide) ?_
                          replace hF := Option.some.inj hF
                          subst hF
                          exact zZret (post := (fun (r9 : Int32) (u9 : Unit) => r9 = 2)) (W1 := (fun (u9 : Unit) => [])) (v := 2) hx hb hr rfl hlocks hP hD hS () rfl rfl d_RR_level_111
                        · replace hF := ifn w1_30 hF
                          by_cases w1_31 : (l0 : Int32).toInt = 31
                          · replace hF := ifp w1_31 hF
                            refine lv_tableIn (off := 107) (tgt := 108) hx hb d_RR_level_1 (by omega) (by omega) (by rw [w1_31]; rfl) (by decide) ?_
                            refine lv_iconst (v := 1) hx hb d_RR_level_108 (by decide) ?_
                            replace hF := Option.some.inj hF
                            subst hF
                            exact zZret (post := (fun (r9 : Int32) (u9 : Unit) => r9 = 1)) (W1 := (fun (u9 : Unit) => [])) (v := 1) hx hb hr rfl hlocks hP hD hS () rfl rfl d_RR_level_109
                          · replace hF := ifn w1_31 hF
                            by_cases w1_32 : (l0 : Int32).toInt = 32
                            · replace hF := ifp w1_32 hF
                              refine lv_tableIn (off := 120) (tgt := 121) hx hb d_RR_level_1 (by omega) (by omega) (by rw [w1_32]; rfl) (by decide) ?_
                              refine lv_iconst (v := 0) hx hb d_RR_level_121 (by decide) ?_
                              replace hF := Option.some.inj hF
                              subst hF
                              exact zZret (post := (fun (r9 : Int32) (u9 : Unit) => r9 = 0)) (W1 := (fun (u9 : Unit) => [])) (v := 0) hx hb hr rfl hlocks hP hD hS () rfl rfl d_RR_level_122
                            · replace hF := ifn w1_32 hF
                              by_cases w1_33 : (l0 : Int32).toInt = 33
                              · replace hF := ifp w1_33 hF
                                refine lv_tableIn (off := 120) (tgt := 121) hx hb d_RR_level_1 (by omega) (by omega) (by rw [w1_33]; rfl) (by decide) ?_
                                refine lv_iconst (v := 0) hx hb d_RR_level_121 (by decide) ?_
                                replace hF := Option.some.inj hF
                                subst hF
                                exact zZret (post := (fun (r9 : Int32) (u9 : Unit) => r9 = 0)) (W1 := (fun (u9 : Unit) => [])) (v := 0) hx hb hr rfl hlocks hP hD hS () rfl rfl d_RR_level_122
                              · replace hF := ifn w1_33 hF
                                by_cases w1_34 : (l0 : Int32).toInt = 34
                                · replace hF := ifp w1_34 hF
                                  refine lv_tableIn (off := 120) (tgt := 121) hx hb d_RR_level_1 (by omega) (by omega) (by rw [w1_34]; rfl) (by decide) ?_
                                  refine lv_iconst (v := 0) hx hb d_RR_level_121 (by decide) ?_
                                  replace hF := Option.some.inj hF
                                  subst hF
                                  exact zZret (post := (fun (r9 : Int32) (u9 : Unit) => r9 = 0)) (W1 := (fun (u9 : Unit) => [])) (v := 0) hx hb hr rfl hlocks hP hD hS () rfl rfl d_RR_level_122
                                · replace hF := ifn w1_34 hF
                                  by_cases w1_35 : (l0 : Int32).toInt = 35
                                  · replace hF := ifp w1_35 hF
                                    refine lv_tableIn (off := 120) (tgt := 121) hx hb d_RR_level_1 (by omega) (by omega) (by rw [w1_35]; rfl) (by decide) ?_
                                    refine lv_iconst (v := 0) hx hb d_RR_level_121 (by decide) ?_
                                    replace hF := Option.some.inj hF
                                    subst hF
                                    exact zZret (post := (fun (r9 : Int32) (u9 : Unit) => r9 = 0)) (W1 := (fun (u9 : Unit) => [])) (v := 0) hx hb hr rfl hlocks hP hD hS () rfl rfl d_RR_level_122
                                  · replace hF := ifn w1_35 hF
                                    by_cases w1_36 : (l0 : Int32).toInt = 36
                                    · replace hF := ifp w1_36 hF
                                      refine lv_tableIn (off := 120) (tgt := 121) hx hb d_RR_level_1 (by omega) (by omega) (by rw [w1_36]; rfl) (by decide) ?_
                                      refine lv_iconst (v := 0) hx hb d_RR_level_121 (by decide) ?_
                                      replace hF := Option.some.inj hF
                                      subst hF
                                      exact zZret (post := (fun (r9 : Int32) (u9 : Unit) => r9 = 0)) (W1 := (fun (u9 : Unit) => [])) (v := 0) hx hb hr rfl hlocks hP hD hS () rfl rfl d_RR_level_122
                                    · replace hF := ifn w1_36 hF
                                      by_cases w1_37 : (l0 : Int32).toInt = 37
                                      · replace hF := ifp w1_37 hF
                                        refine lv_tableIn (off := 120) (tgt := 121) hx hb d_RR_level_1 (by omega) (by omega) (by rw [w1_37]; rfl) (by decide) ?_
                                        refine lv_iconst (v := 0) hx hb d_RR_level_121 (by decide) ?_
                                        replace hF := Option.some.inj hF
                                        subst hF
                                        exact zZret (post := (fun (r9 : Int32) (u9 : Unit) => r9 = 0)) (W1 := (fun (u9 : Unit) => [])) (v := 0) hx hb hr rfl hlocks hP hD hS () rfl rfl d_RR_level_122
                                      · replace hF := ifn w1_37 hF
                                        by_cases w1_38 : (l0 : Int32).toInt = 38
                                        · replace hF := ifp w1_38 hF
                                          refine lv_tableIn (off := 120) (tgt := 121) hx hb d_RR_level_1 (by omega) (by omega) (by rw [w1_38]; rfl) (by decide) ?_
                                          refine lv_iconst (v := 0) hx hb d_RR_level_121 (by decide) ?_
                                          replace hF := Option.some.inj hF
                                          subst hF
                                          exact zZret (post := (fun (r9 : Int32) (u9 : Unit) => r9 = 0)) (W1 := (fun (u9 : Unit) => [])) (v := 0) hx hb hr rfl hlocks hP hD hS () rfl rfl d_RR_level_122
                                        · replace hF := ifn w1_38 hF
                                          by_cases w1_39 : (l0 : Int32).toInt = 39
                                          · replace hF := ifp w1_39 hF
                                            refine lv_tableIn (off := 120) (tgt := 121) hx hb d_RR_level_1 (by omega) (by omega) (by rw [w1_39]; rfl) (by decide) ?_
                                            refine lv_iconst (v := 0) hx hb d_RR_level_121 (by decide) ?_
                                            replace hF := Option.some.inj hF
                                            subst hF
                                            exact zZret (post := (fun (r9 : Int32) (u9 : Unit) => r9 = 0)) (W1 := (fun (u9 : Unit) => [])) (v := 0) hx hb hr rfl hlocks hP hD hS () rfl rfl d_RR_level_122
                                          · replace hF := ifn w1_39 hF
                                            by_cases w1_40 : (l0 : Int32).toInt = 40
                                            · replace hF := ifp w1_40 hF
                                              refine lv_tableIn (off := 120) (tgt := 121) hx hb d_RR_level_1 (by omega) (by omega) (by rw [w1_40]; rfl) (by decide) ?_
                                              refine lv_iconst (v := 0) hx hb d_RR_level_121 (by decide) ?_
                                              replace hF := Option.some.inj hF
                                              subst hF
                                              exact zZret (post := (fun (r9 : Int32) (u9 : Unit) => r9 = 0)) (W1 := (fun (u9 : Unit) => [])) (v := 0) hx hb hr rfl hlocks hP hD hS () rfl rfl d_RR_level_122
                                            · replace hF := ifn w1_40 hF
                                              by_cases w1_41 : (l0 : Int32).toInt = 41
                                              · replace hF := ifp w1_41 hF
                                                refine lv_tableIn (off := 111) (tgt := 112) hx hb d_RR_level_1 (by omega) (by omega) (by rw [w1_41]; rfl) (by decide) ?_
                                                refine lv_iconst (v := 3) hx hb d_RR_level_112 (by decide) ?_
                                                replace hF := Option.some.inj hF
                                                subst hF
                                                exact zZret (post := (fun (r9 : Int32) (u9 : Unit) => r9 = 3)) (W1 := (fun (u9 : Unit) => [])) (v := 3) hx hb hr rfl hlocks hP hD hS () rfl rfl d_RR_level_113
                                              · replace hF := ifn w1_41 hF
                                                refine lv_tableOut (tgt := 121) hx hb d_RR_level_1 (by omega) (by decide) ?_
                                                refine lv_iconst (v := 0) hx hb d_RR_level_121 (by decide) ?_
                                                replace hF := Option.some.inj hF
                                                subst hF
                                                exact zZret (post := (fun (r9 : Int32) (u9 : Unit) => r9 = 0)) (W1 := (fun (u9 : Unit) => [])) (v := 0) hx hb hr rfl hlocks hP hD hS () rfl rfl d_RR_level_122
set_option maxHeartbeats 4000000 in
set_option maxRecDepth 100000 in
theorem m_RR_level (l : Launch) (D : va_G) (tA : Nat → ClassId) (sz : Nat) (l0 : Int32) (out : Int32) (hF : f_RR_level l0 = some out) : zMi l ({ cls := "ChanceArena$RuleReader", name := "level", desc := "(I)I" } : Jvm.MethodName) (zW (Jvm.Cond.code ({ cls := "ChanceArena$RuleReader", name := "level", desc := "(I)I" } : Jvm.MethodName) prog_9_method_19_code (1 : Nat) (Option.some Jvm.ClassFile.FieldType.int))) { frames := 0, cells := 0, slots := 0, locals := 0 } [.int l0] D tA [] sz (fun (r9 : Int32) (u9 : Unit) => r9 = out) (fun (u9 : Unit) => []) 0 0 := by
  refine zOpen (l := l) (y := ({ cls := "ChanceArena$RuleReader", name := "level", desc := "(I)I" } : Jvm.MethodName)) (ws := zW (Jvm.Cond.code ({ cls := "ChanceArena$RuleReader", name := "level", desc := "(I)I" } : Jvm.MethodName) prog_9_method_19_code (1 : Nat) (Option.some Jvm.ClassFile.FieldType.int))) (rm := { frames := 0, cells := 0, slots := 0, locals := 0 }) (av := [.int l0]) (D := D) (tA := tA) (W0 := []) (Wm := []) (sz := sz) (mc := 0) (ms := 0) (fun A => va_Qi (fun (r9 : Int32) (u9 : Unit) => r9 = out) (zPost D A (fun (u9 : Unit) => [])) A) (lv := [(0, .int l0)]) (by decide) rfl (Nat.le_of_ble_eq_true rfl) rfl ?_
  intro p e s m below meth c A ls hx hb hr hml hh hg hown hlocks hnm hK hA hP hD0 hAw hS hl
  have hD := zD hD0 hAw
  exact b_RR_level_0 hx hb hr hml hh hg hown hlocks hK hA    _ _ _ hF  hP hD hS hl
