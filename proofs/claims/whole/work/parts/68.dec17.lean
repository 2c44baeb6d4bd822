theorem k4_181 : (Jvm.Cond.code ({ cls := "ChanceArena$Program", name := "add", desc := "(II)I" } : Jvm.MethodName) prog_7_method_3_code (3 : Nat) (Option.some Jvm.ClassFile.FieldType.int)) ∈ lw_R := zR (zk_4 _ (List.mem_of_getElem? (i := 181) (by decide +kernel))) rfl
theorem k7_71 : (Jvm.Cond.code ({ cls := "ChanceArena$Natural", name := "divideSmall", desc := "(I)I" } : Jvm.MethodName) prog_6_method_13_code (5 : Nat) (Option.some Jvm.ClassFile.FieldType.int)) ∈ lw_R := zR (zk_7 _ (List.mem_of_getElem? (i := 71) (by decide +kernel))) rfl
theorem k8_116 : (Jvm.Cond.code ({ cls := "ChanceArena$Residues", name := "swapRows", desc := "(II)V" } : Jvm.MethodName) prog_8_method_4_code (5 : Nat) (Option.none : Option Jvm.ClassFile.FieldType)) ∈ lw_R := zR (zk_8 _ (List.mem_of_getElem? (i := 116) (by decide +kernel))) rfl
theorem k8_135 : (Jvm.Cond.code ({ cls := "ChanceArena$Natural", name := "modulo", desc := "(I)I" } : Jvm.MethodName) prog_6_method_14_code (5 : Nat) (Option.some Jvm.ClassFile.FieldType.int)) ∈ lw_R := zR (zk_8 _ (List.mem_of_getElem? (i := 135) (by decide +kernel))) rfl
theorem d_Na_divideSmall_0 : decode prog_6_method_13_code 0 = .ok (.lconst 0, 1) := by decide +kernel
theorem d_Na_divideSmall_1 : decode prog_6_method_13_code 1 = .ok (.lstore_n 2, 1) := by decide +kernel
theorem d_Na_divideSmall_2 : decode prog_6_method_13_code 2 = .ok (.aload_n 0, 1) := by decide +kernel
theorem d_Na_divideSmall_3 : decode prog_6_method_13_code 3 = .ok (.getfield 13, 3) := by decide +kernel
theorem d_Na_divideSmall_6 : decode prog_6_method_13_code 6 = .ok (.iconst 1, 1) := by decide +kernel
theorem d_Na_divideSmall_7 : decode prog_6_method_13_code 7 = .ok (.isub, 1) := by decide +kernel
theorem d_Na_divideSmall_8 : decode prog_6_method_13_code 8 = .ok (.istore 4, 2) := by decide +kernel
theorem d_Na_divideSmall_10 : decode prog_6_method_13_code 10 = .ok (.iload 4, 2) := by decide +kernel
theorem d_Na_divideSmall_12 : decode prog_6_method_13_code 12 = .ok (.ifCond .lt 44, 3) := by decide +kernel
theorem d_Na_divideSmall_15 : decode prog_6_method_13_code 15 = .ok (.iload_n 1, 1) := by decide +kernel
theorem d_Na_divideSmall_16 : decode prog_6_method_13_code 16 = .ok (.ifCond .le 40, 3) := by decide +kernel
theorem d_Na_divideSmall_19 : decode prog_6_method_13_code 19 = .ok (.lload_n 2, 1) := by decide +kernel
theorem d_Na_divideSmall_20 : decode prog_6_method_13_code 20 = .ok (.bipush 30, 2) := by decide +kernel
theorem d_Na_divideSmall_22 : decode prog_6_method_13_code 22 = .ok (.lshl, 1) := by decide +kernel
theorem d_Na_divideSmall_23 : decode prog_6_method_13_code 23 = .ok (.aload_n 0, 1) := by decide +kernel
theorem d_Na_divideSmall_24 : decode prog_6_method_13_code 24 = .ok (.getfield 9, 3) := by decide +kernel
theorem d_Na_divideSmall_27 : decode prog_6_method_13_code 27 = .ok (.iload 4, 2) := by decide +kernel
theorem d_Na_divideSmall_29 : decode prog_6_method_13_code 29 = .ok (.iaload, 1) := by decide +kernel
theorem d_Na_divideSmall_30 : decode prog_6_method_13_code 30 = .ok (.i2l, 1) := by decide +kernel
theorem d_Na_divideSmall_31 : decode prog_6_method_13_code 31 = .ok (.ladd, 1) := by decide +kernel
theorem d_Na_divideSmall_32 : decode prog_6_method_13_code 32 = .ok (.lstore_n 2, 1) := by decide +kernel
theorem d_Na_divideSmall_33 : decode prog_6_method_13_code 33 = .ok (.aload_n 0, 1) := by decide +kernel
theorem d_Na_divideSmall_34 : decode prog_6_method_13_code 34 = .ok (.getfield 9, 3) := by decide +kernel
theorem d_Na_divideSmall_37 : decode prog_6_method_13_code 37 = .ok (.iload 4, 2) := by decide +kernel
theorem d_Na_divideSmall_39 : decode prog_6_method_13_code 39 = .ok (.lload_n 2, 1) := by decide +kernel
theorem d_Na_divideSmall_40 : decode prog_6_method_13_code 40 = .ok (.iload_n 1, 1) := by decide +kernel
theorem d_Na_divideSmall_41 : decode prog_6_method_13_code 41 = .ok (.i2l, 1) := by decide +kernel
theorem d_Na_divideSmall_42 : decode prog_6_method_13_code 42 = .ok (.ldiv, 1) := by decide +kernel
theorem d_Na_divideSmall_43 : decode prog_6_method_13_code 43 = .ok (.l2i, 1) := by decide +kernel
theorem d_Na_divideSmall_44 : decode prog_6_method_13_code 44 = .ok (.iastore, 1) := by decide +kernel
theorem d_Na_divideSmall_45 : decode prog_6_method_13_code 45 = .ok (.lload_n 2, 1) := by decide +kernel
theorem d_Na_divideSmall_46 : decode prog_6_method_13_code 46 = .ok (.iload_n 1, 1) := by decide +kernel
theorem d_Na_divideSmall_47 : decode prog_6_method_13_code 47 = .ok (.i2l, 1) := by decide +kernel
theorem d_Na_divideSmall_48 : decode prog_6_method_13_code 48 = .ok (.lrem, 1) := by decide +kernel
theorem d_Na_divideSmall_49 : decode prog_6_method_13_code 49 = .ok (.lstore_n 2, 1) := by decide +kernel
theorem d_Na_divideSmall_50 : decode prog_6_method_13_code 50 = .ok (.iinc 4 (-1), 3) := by decide +kernel
theorem d_Na_divideSmall_53 : decode prog_6_method_13_code 53 = .ok (.goto (-43), 3) := by decide +kernel
theorem d_Na_divideSmall_56 : decode prog_6_method_13_code 56 = .ok (.aload_n 0, 1) := by decide +kernel
theorem d_Na_divideSmall_57 : decode prog_6_method_13_code 57 = .ok (.getfield 13, 3) := by decide +kernel
theorem d_Na_divideSmall_60 : decode prog_6_method_13_code 60 = .ok (.ifCond .le 30, 3) := by decide +kernel
theorem d_Na_divideSmall_90 : decode prog_6_method_13_code 90 = .ok (.lload_n 2, 1) := by decide +kernel
theorem d_Na_divideSmall_91 : decode prog_6_method_13_code 91 = .ok (.l2i, 1) := by decide +kernel
theorem d_Na_divideSmall_92 : decode prog_6_method_13_code 92 = .ok (.ireturn, 1) := by decide +kernel
theorem d_Na_divideSmall_63 : decode prog_6_method_13_code 63 = .ok (.aload_n 0, 1) := by decide +kernel
theorem d_Na_divideSmall_64 : decode prog_6_method_13_code 64 = .ok (.getfield 9, 3) := by decide +kernel
theorem d_Na_divideSmall_67 : decode prog_6_method_13_code 67 = .ok (.aload_n 0, 1) := by decide +kernel
theorem d_Na_divideSmall_68 : decode prog_6_method_13_code 68 = .ok (.getfield 13, 3) := by decide +kernel
theorem d_Na_divideSmall_71 : decode prog_6_method_13_code 71 = .ok (.iconst 1, 1) := by decide +kernel
theorem d_Na_divideSmall_72 : decode prog_6_method_13_code 72 = .ok (.isub, 1) := by decide +kernel
theorem d_Na_divideSmall_73 : decode prog_6_method_13_code 73 = .ok (.iaload, 1) := by decide +kernel
theorem d_Na_divideSmall_74 : decode prog_6_method_13_code 74 = .ok (.ifCond .ne 16, 3) := by decide +kernel
theorem d_Na_divideSmall_77 : decode prog_6_method_13_code 77 = .ok (.aload_n 0, 1) := by decide +kernel
theorem d_Na_divideSmall_78 : decode prog_6_method_13_code 78 = .ok (.dup, 1) := by decide +kernel
theorem d_Na_divideSmall_79 : decode prog_6_method_13_code 79 = .ok (.getfield 13, 3) := by decide +kernel
theorem d_Na_divideSmall_82 : decode prog_6_method_13_code 82 = .ok (.iconst 1, 1) := by decide +kernel
theorem d_Na_divideSmall_83 : decode prog_6_method_13_code 83 = .ok (.isub, 1) := by decide +kernel
theorem d_Na_divideSmall_84 : decode prog_6_method_13_code 84 = .ok (.putfield 13, 3) := by decide +kernel
theorem d_Na_divideSmall_87 : decode prog_6_method_13_code 87 = .ok (.goto (-31), 3) := by decide +kernel
theorem d_Na_modulo_0 : decode prog_6_method_14_code 0 = .ok (.lconst 0, 1) := by decide +kernel
theorem d_Na_modulo_1 : decode prog_6_method_14_code 1 = .ok (.lstore_n 2, 1) := by decide +kernel
theorem d_Na_modulo_2 : decode prog_6_method_14_code 2 = .ok (.aload_n 0, 1) := by decide +kernel
theorem d_Na_modulo_3 : decode prog_6_method_14_code 3 = .ok (.getfield 13, 3) := by decide +kernel
theorem d_Na_modulo_6 : decode prog_6_method_14_code 6 = .ok (.iconst 1, 1) := by decide +kernel
theorem d_Na_modulo_7 : decode prog_6_method_14_code 7 = .ok (.isub, 1) := by decide +kernel
theorem d_Na_modulo_8 : decode prog_6_method_14_code 8 = .ok (.istore 4, 2) := by decide +kernel
theorem d_Na_modulo_10 : decode prog_6_method_14_code 10 = .ok (.iload 4, 2) := by decide +kernel
theorem d_Na_modulo_12 : decode prog_6_method_14_code 12 = .ok (.ifCond .lt 30, 3) := by decide +kernel
theorem d_Na_modulo_42 : decode prog_6_method_14_code 42 = .ok (.lload_n 2, 1) := by decide +kernel
theorem d_Na_modulo_43 : decode prog_6_method_14_code 43 = .ok (.l2i, 1) := by decide +kernel
theorem d_Na_modulo_44 : decode prog_6_method_14_code 44 = .ok (.ireturn, 1) := by decide +kernel
theorem d_Na_modulo_15 : decode prog_6_method_14_code 15 = .ok (.iload_n 1, 1) := by decide +kernel
theorem d_Na_modulo_16 : decode prog_6_method_14_code 16 = .ok (.ifCond .le 26, 3) := by decide +kernel
theorem d_Na_modulo_19 : decode prog_6_method_14_code 19 = .ok (.lload_n 2, 1) := by decide +kernel
theorem d_Na_modulo_20 : decode prog_6_method_14_code 20 = .ok (.bipush 30, 2) := by decide +kernel
theorem d_Na_modulo_22 : decode prog_6_method_14_code 22 = .ok (.lshl, 1) := by decide +kernel
theorem d_Na_modulo_23 : decode prog_6_method_14_code 23 = .ok (.aload_n 0, 1) := by decide +kernel
theorem d_Na_modulo_24 : decode prog_6_method_14_code 24 = .ok (.getfield 9, 3) := by decide +kernel
theorem d_Na_modulo_27 : decode prog_6_method_14_code 27 = .ok (.iload 4, 2) := by decide +kernel
theorem d_Na_modulo_29 : decode prog_6_method_14_code 29 = .ok (.iaload, 1) := by decide +kernel
theorem d_Na_modulo_30 : decode prog_6_method_14_code 30 = .ok (.i2l, 1) := by decide +kernel
theorem d_Na_modulo_31 : decode prog_6_method_14_code 31 = .ok (.ladd, 1) := by decide +kernel
theorem d_Na_modulo_32 : decode prog_6_method_14_code 32 = .ok (.iload_n 1, 1) := by decide +kernel
theorem d_Na_modulo_33 : decode prog_6_method_14_code 33 = .ok (.i2l, 1) := by decide +kernel
theorem d_Na_modulo_34 : decode prog_6_method_14_code 34 = .ok (.lrem, 1) := by decide +kernel
theorem d_Na_modulo_35 : decode prog_6_method_14_code 35 = .ok (.lstore_n 2, 1) := by decide +kernel
theorem d_Na_modulo_36 : decode prog_6_method_14_code 36 = .ok (.iinc 4 (-1), 3) := by decide +kernel
theorem d_Na_modulo_39 : decode prog_6_method_14_code 39 = .ok (.goto (-29), 3) := by decide +kernel
theorem d_Pr_add_0 : decode prog_7_method_3_code 0 = .ok (.aload_n 0, 1) := by decide +kernel
theorem d_Pr_add_1 : decode prog_7_method_3_code 1 = .ok (.getfield 57, 3) := by decide +kernel
theorem d_Pr_add_4 : decode prog_7_method_3_code 4 = .ok (.aload_n 0, 1) := by decide +kernel
theorem d_Pr_add_5 : decode prog_7_method_3_code 5 = .ok (.getfield 9, 3) := by decide +kernel
theorem d_Pr_add_8 : decode prog_7_method_3_code 8 = .ok (.arraylength, 1) := by decide +kernel
theorem d_Pr_add_9 : decode prog_7_method_3_code 9 = .ok (.if_icmp .ge 33, 3) := by decide +kernel
theorem d_Pr_add_42 : decode prog_7_method_3_code 42 = .ok (.aload_n 0, 1) := by decide +kernel
theorem d_Pr_add_43 : decode prog_7_method_3_code 43 = .ok (.getfield 57, 3) := by decide +kernel
theorem d_Pr_add_46 : decode prog_7_method_3_code 46 = .ok (.iconst 1, 1) := by decide +kernel
theorem d_Pr_add_47 : decode prog_7_method_3_code 47 = .ok (.isub, 1) := by decide +kernel
theorem d_Pr_add_48 : decode prog_7_method_3_code 48 = .ok (.ireturn, 1) := by decide +kernel
theorem d_Pr_add_12 : decode prog_7_method_3_code 12 = .ok (.aload_n 0, 1) := by decide +kernel
theorem d_Pr_add_13 : decode prog_7_method_3_code 13 = .ok (.getfield 9, 3) := by decide +kernel
theorem d_Pr_add_16 : decode prog_7_method_3_code 16 = .ok (.aload_n 0, 1) := by decide +kernel
theorem d_Pr_add_17 : decode prog_7_method_3_code 17 = .ok (.getfield 57, 3) := by decide +kernel
theorem d_Pr_add_20 : decode prog_7_method_3_code 20 = .ok (.iload_n 1, 1) := by decide +kernel
theorem d_Pr_add_21 : decode prog_7_method_3_code 21 = .ok (.iastore, 1) := by decide +kernel
theorem d_Pr_add_22 : decode prog_7_method_3_code 22 = .ok (.aload_n 0, 1) := by decide +kernel
theorem d_Pr_add_23 : decode prog_7_method_3_code 23 = .ok (.getfield 15, 3) := by decide +kernel
theorem d_Pr_add_26 : decode prog_7_method_3_code 26 = .ok (.aload_n 0, 1) := by decide +kernel
theorem d_Pr_add_27 : decode prog_7_method_3_code 27 = .ok (.getfield 57, 3) := by decide +kernel
theorem d_Pr_add_30 : decode prog_7_method_3_code 30 = .ok (.iload_n 2, 1) := by decide +kernel
theorem d_Pr_add_31 : decode prog_7_method_3_code 31 = .ok (.iastore, 1) := by decide +kernel
theorem d_Pr_add_32 : decode prog_7_method_3_code 32 = .ok (.aload_n 0, 1) := by decide +kernel
theorem d_Pr_add_33 : decode prog_7_method_3_code 33 = .ok (.dup, 1) := by decide +kernel
theorem d_Pr_add_34 : decode prog_7_method_3_code 34 = .ok (.getfield 57, 3) := by decide +kernel
theorem d_Pr_add_37 : decode prog_7_method_3_code 37 = .ok (.iconst 1, 1) := by decide +kernel
theorem d_Pr_add_38 : decode prog_7_method_3_code 38 = .ok (.iadd, 1) := by decide +kernel
theorem d_Pr_add_39 : decode prog_7_method_3_code 39 = .ok (.putfield 57, 3) := by decide +kernel
theorem d_Re_swapRows_0 : decode prog_8_method_4_code 0 = .ok (.iconst 0, 1) := by decide +kernel
theorem d_Re_swapRows_1 : decode prog_8_method_4_code 1 = .ok (.istore_n 3, 1) := by decide +kernel
theorem d_Re_swapRows_2 : decode prog_8_method_4_code 2 = .ok (.iload_n 3, 1) := by decide +kernel
theorem d_Re_swapRows_3 : decode prog_8_method_4_code 3 = .ok (.bipush 41, 2) := by decide +kernel
theorem d_Re_swapRows_5 : decode prog_8_method_4_code 5 = .ok (.if_icmp .ge 45, 3) := by decide +kernel
theorem d_Re_swapRows_50 : decode prog_8_method_4_code 50 = .ok (.return_, 1) := by decide +kernel
theorem d_Re_swapRows_8 : decode prog_8_method_4_code 8 = .ok (.aload_n 0, 1) := by decide +kernel
theorem d_Re_swapRows_9 : decode prog_8_method_4_code 9 = .ok (.getfield 21, 3) := by decide +kernel
theorem d_Re_swapRows_12 : decode prog_8_method_4_code 12 = .ok (.iload_n 1, 1) := by decide +kernel
theorem d_Re_swapRows_13 : decode prog_8_method_4_code 13 = .ok (.iload_n 3, 1) := by decide +kernel
theorem d_Re_swapRows_14 : decode prog_8_method_4_code 14 = .ok (.iadd, 1) := by decide +kernel
theorem d_Re_swapRows_15 : decode prog_8_method_4_code 15 = .ok (.iaload, 1) := by decide +kernel
theorem d_Re_swapRows_16 : decode prog_8_method_4_code 16 = .ok (.istore 4, 2) := by decide +kernel
theorem d_Re_swapRows_18 : decode prog_8_method_4_code 18 = .ok (.aload_n 0, 1) := by decide +kernel
theorem d_Re_swapRows_19 : decode prog_8_method_4_code 19 = .ok (.getfield 21, 3) := by decide +kernel
theorem d_Re_swapRows_22 : decode prog_8_method_4_code 22 = .ok (.iload_n 1, 1) := by decide +kernel
theorem d_Re_swapRows_23 : decode prog_8_method_4_code 23 = .ok (.iload_n 3, 1) := by decide +kernel
theorem d_Re_swapRows_24 : decode prog_8_method_4_code 24 = .ok (.iadd, 1) := by decide +kernel
theorem d_Re_swapRows_25 : decode prog_8_method_4_code 25 = .ok (.aload_n 0, 1) := by decide +kernel
theorem d_Re_swapRows_26 : decode prog_8_method_4_code 26 = .ok (.getfield 21, 3) := by decide +kernel
theorem d_Re_swapRows_29 : decode prog_8_method_4_code 29 = .ok (.iload_n 2, 1) := by decide +kernel
theorem d_Re_swapRows_30 : decode prog_8_method_4_code 30 = .ok (.iload_n 3, 1) := by decide +kernel
theorem d_Re_swapRows_31 : decode prog_8_method_4_code 31 = .ok (.iadd, 1) := by decide +kernel
theorem d_Re_swapRows_32 : decode prog_8_method_4_code 32 = .ok (.iaload, 1) := by decide +kernel
theorem d_Re_swapRows_33 : decode prog_8_method_4_code 33 = .ok (.iastore, 1) := by decide +kernel
theorem d_Re_swapRows_34 : decode prog_8_method_4_code 34 = .ok (.aload_n 0, 1) := by decide +kernel
theorem d_Re_swapRows_35 : decode prog_8_method_4_code 35 = .ok (.getfield 21, 3) := by decide +kernel
theorem d_Re_swapRows_38 : decode prog_8_method_4_code 38 = .ok (.iload_n 2, 1) := by decide +kernel
theorem d_Re_swapRows_39 : decode prog_8_method_4_code 39 = .ok (.iload_n 3, 1) := by decide +kernel
theorem d_Re_swapRows_40 : decode prog_8_method_4_code 40 = .ok (.iadd, 1) := by decide +kernel
theorem d_Re_swapRows_41 : decode prog_8_method_4_code 41 = .ok (.iload 4, 2) := by decide +kernel
theorem d_Re_swapRows_43 : decode prog_8_method_4_code 43 = .ok (.iastore, 1) := by decide +kernel
theorem d_Re_swapRows_44 : decode prog_8_method_4_code 44 = .ok (.iinc 3 1, 3) := by decide +kernel
theorem d_Re_swapRows_47 : decode prog_8_method_4_code 47 = .ok (.goto (-45), 3) := by decide +kernel
def f_Na_divideSmall (h0_limbs_n : Nat) (l1 : Int32) : Nat → Nat → Int32 → (Nat → Int32) → Int64 → Int32 → Option (Int32 × Int32 × (Nat → Int32))
  | 0, _, _, _, _, _ => none
  | n + 1, 0, h0_size, h0_limbs_c, L2, l4 => chk True (f_Na_divideSmall h0_limbs_n l1 n 1 h0_size h0_limbs_c 0 (h0_size - 1))
  | n + 1, 1, h0_size, h0_limbs_c, L2, l4 => if (l4 : Int32) < 0 then f_Na_divideSmall h0_limbs_n l1 n 2 h0_size h0_limbs_c L2 l4 else if (l1 : Int32) ≤ 0 then f_Na_divideSmall h0_limbs_n l1 n 2 h0_size h0_limbs_c L2 l4 else chk (0 ≤ (l4 : Int32).toInt ∧ (l4 : Int32).toInt < h0_limbs_n) (chk (¬ ((l1 : Int32).toInt64 : Int64) = 0) (chk (0 ≤ (l4 : Int32).toInt ∧ (l4 : Int32).toInt < h0_limbs_n) (chk (¬ ((l1 : Int32).toInt64 : Int64) = 0) (f_Na_divideSmall h0_limbs_n l1 n 1 h0_size (upd h0_limbs_c (l4 : Int32).toNatClampNeg ((((((L2 : Int64) <<< ((30 : Int32).toInt64 &&& 63)) + ((h0_limbs_c (l4 : Int32).toNatClampNeg) : Int32).toInt64) / (l1 : Int32).toInt64) : Int64).toInt32)) ((((L2 : Int64) <<< ((30 : Int32).toInt64 &&& 63)) + ((h0_limbs_c (l4 : Int32).toNatClampNeg) : Int32).toInt64) - (((L2 : Int64) <<< ((30 : Int32).toInt64 &&& 63)) + ((h0_limbs_c (l4 : Int32).toNatClampNeg) : Int32).toInt64) / (l1 : Int32).toInt64 * (l1 : Int32).toInt64) (l4 + Int32.ofInt (-1))))))
  | n + 1, 2, h0_size, h0_limbs_c, L2, l4 => if (h0_size : Int32) ≤ 0 then some ((L2 : Int64).toInt32, h0_size, h0_limbs_c) else chk (0 ≤ ((h0_size - 1) : Int32).toInt ∧ ((h0_size - 1) : Int32).toInt < h0_limbs_n) (if ¬ ((h0_limbs_c ((h0_size - 1) : Int32).toNatClampNeg) : Int32) = 0 then some ((L2 : Int64).toInt32, h0_size, h0_limbs_c) else f_Na_divideSmall h0_limbs_n l1 n 2 (h0_size - 1) h0_limbs_c L2 l4)
  | _ + 1, _ + 3, _, _, _, _ => none
theorem e_Na_divideSmall_0 (h0_limbs_n : Nat) (l1 : Int32) (n : Nat) (h0_size : Int32) (h0_limbs_c : Nat → Int32) (L2 : Int64) (l4 : Int32) : f_Na_divideSmall h0_limbs_n l1 (n + 1) 0 h0_size h0_limbs_c L2 l4 = chk True (f_Na_divideSmall h0_limbs_n l1 n 1 h0_size h0_limbs_c 0 (h0_size - 1)) := by rw [f_Na_divideSmall]
theorem e_Na_divideSmall_1 (h0_limbs_n : Nat) (l1 : Int32) (n : Nat) (h0_size : Int32) (h0_limbs_c : Nat → Int32) (L2 : Int64) (l4 : Int32) : f_Na_divideSmall h0_limbs_n l1 (n + 1) 1 h0_size h0_limbs_c L2 l4 = if (l4 : Int32) < 0 then f_Na_divideSmall h0_limbs_n l1 n 2 h0_size h0_limbs_c L2 l4 else if (l1 : Int32) ≤ 0 then f_Na_divideSmall h0_limbs_n l1 n 2 h0_size h0_limbs_c L2 l4 else chk (0 ≤ (l4 : Int32).toInt ∧ (l4 : Int32).toInt < h0_limbs_n) (chk (¬ ((l1 : Int32).toInt64 : Int64) = 0) (chk (0 ≤ (l4 : Int32).toInt ∧ (l4 : Int32).toInt < h0_limbs_n) (chk (¬ ((l1 : Int32).toInt64 : Int64) = 0) (f_Na_divideSmall h0_limbs_n l1 n 1 h0_size (upd h0_limbs_c (l4 : Int32).toNatClampNeg ((((((L2 : Int64) <<< ((30 : Int32).toInt64 &&& 63)) + ((h0_limbs_c (l4 : Int32).toNatClampNeg) : Int32).toInt64) / (l1 : Int32).toInt64) : Int64).toInt32)) ((((L2 : Int64) <<< ((30 : Int32).toInt64 &&& 63)) + ((h0_limbs_c (l4 : Int32).toNatClampNeg) : Int32).toInt64) - (((L2 : Int64) <<< ((30 : Int32).toInt64 &&& 63)) + ((h0_limbs_c (l4 : Int32).toNatClampNeg) : Int32).toInt64) / (l1 : Int32).toInt64 * (l1 : Int32).toInt64) (l4 + Int32.ofInt (-1)))))) := by rw [f_Na_divideSmall]
theorem e_Na_divideSmall_2 (h0_limbs_n : Nat) (l1 : Int32) (n : Nat) (h0_size : Int32) (h0_limbs_c : Nat → Int32) (L2 : Int64) (l4 : Int32) : f_Na_divideSmall h0_limbs_n l1 (n + 1) 2 h0_size h0_limbs_c L2 l4 = if (h0_size : Int32) ≤ 0 then some ((L2 : Int64).toInt32, h0_size, h0_limbs_c) else chk (0 ≤ ((h0_size - 1) : Int32).toInt ∧ ((h0_size - 1) : Int32).toInt < h0_limbs_n) (if ¬ ((h0_limbs_c ((h0_size - 1) : Int32).toNatClampNeg) : Int32) = 0 then some ((L2 : Int64).toInt32, h0_size, h0_limbs_c) else f_Na_divideSmall h0_limbs_n l1 n 2 (h0_size - 1) h0_limbs_c L2 l4) := by rw [f_Na_divideSmall]
theorem z_Na_divideSmall (h0_limbs_n : Nat) (l1 : Int32) (h : Nat) (h0_size : Int32) (h0_limbs_c : Nat → Int32) (L2 : Int64) (l4 : Int32) : f_Na_divideSmall h0_limbs_n l1 0 h h0_size h0_limbs_c L2 l4 = none := by rw [f_Na_divideSmall]
set_option maxHeartbeats 4000000 in
set_option maxRecDepth 100000 in
theorem b_Na_divideSmall_0 {p : Program} {l : Launch} {e : Env} {s : State} {m : MethodId} {args : Array Value} {below : List Frame} {meth : Method} {c : Code} {D : va_G} {tA : Nat → ClassId} {A : Nat → Prop} {h0 h0_limbs : Nat} {f0_h0 : List Value} {h0_limbs_n : Nat} {l1 : Int32} {out : Int32 × Int32 × (Nat → Int32)} (hx : p.tables.exec = Jvm.exec) (hb : c.code = prog_6_method_13_code) (hr : meth.sig.returnType = (Option.some Jvm.ClassFile.FieldType.int)) (hml : c.maxLocals = 5) (hh : zH s) (hg : ∀ w ∈ lw_R, w.before args s = true) (hown : s.vm.findClass "ChanceArena$Natural" = some m.cls) (hlocks : meth.locks = false) (hK : va_K D vwCl (zT tA) s) (hA : ∀ q, s.heap.size ≤ q → A q) {n : Nat} (ih1 : ∀ (h0_size : Int32) (h0_limbs_c : Nat → Int32) (L2 : Int64) (l4 : Int32) (f_h0 : List Value) (H : Heap) (locs : List Loc) (ls : Array Slot), f_Na_divideSmall h0_limbs_n l1 n 1 h0_size h0_limbs_c L2 l4 = some out → f_h0[0]? = some (.ref h0_limbs) → f_h0[1]? = some (.int h0_size) → Fr [1] f0_h0 f_h0 → va_P D vwCl [(h0, .inr (9, f_h0)), (h0_limbs, .inl (tA 0, h0_limbs_n, .inl h0_limbs_c))] H → va_D A [(h0, .inr (9, f_h0)), (h0_limbs, .inl (tA 0, h0_limbs_n, .inl h0_limbs_c))] → va_S A s.heap H locs → lv_has ls 5 [(0, .ref h0), (1, .int l1), (2, .long L2), (4, .int l4)] → W p l e { frames := 0, cells := 0, slots := 0, locals := 0 } s m args below meth c H locs 0 0 (MQ below (va_Qi (fun (r9 : Int32) (u9 : List Value) => r9 = out.1 ∧ Fr [1] f0_h0 u9 ∧ u9[1]? = some (.int out.2.1)) (zPost D A (fun (u9 : List Value) => [(h0, .inr (9, u9)), (h0_limbs, .inl (tA 0, h0_limbs_n, .inl out.2.2))])) A) args s 0 0 A) (F0 m 10 ls [])) : ∀ (h0_size : Int32) (h0_limbs_c : Nat → Int32) (L2 : Int64) (l4 : Int32) (f_h0 : List Value) (H : Heap) (locs : List Loc) (ls : Array Slot), f_Na_divideSmall h0_limbs_n l1 (n + 1) 0 h0_size h0_limbs_c L2 l4 = some out → f_h0[0]? = some (.ref h0_limbs) → f_h0[1]? = some (.int h0_size) → Fr [1] f0_h0 f_h0 → va_P D vwCl [(h0, .inr (9, f_h0)), (h0_limbs, .inl (tA 0, h0_limbs_n, .inl h0_limbs_c))] H → va_D A [(h0, .inr (9, f_h0)), (h0_limbs, .inl (tA 0, h0_limbs_n, .inl h0_limbs_c))] → va_S A s.heap H locs → lv_has ls 5 [(0, .ref h0), (1, .int l1)] → W p l e { frames := 0, cells := 0, slots := 0, locals := 0 } s m args below meth c H locs 0 0 (MQ below (va_Qi (fun (r9 : Int32) (u9 : List Value) => r9 = out.1 ∧ Fr [1] f0_h0 u9 ∧ u9[1]? = some (.int out.2.1)) (zPost D A (fun (u9 : List Value) => [(h0, .inr (9, u9)), (h0_limbs, .inl (tA 0, h0_limbs_n, .inl out.2.2))])) A) args s 0 0 A) (F0 m 0 ls []) := by
  intro h0_size h0_limbs_c L2 l4  f_h0 H locs ls hF q_h0_limbs q_h0_size r_h0 hP hD hS hl
  rw [e_Na_divideSmall_0] at hF
  obtain ⟨_, hF⟩ := chk_some hF
  refine lv_lconst (v := 0) hx hb d_Na_divideSmall_0 (by decide) ?_
  refine lv_lstore_n (lv' := [(2, .long 0), (0, .ref h0), (1, .int l1)]) hx hb d_Na_divideSmall_1 rfl hl (by decide) rfl (fun ls hl => ?_)
  refine lv_aload_n hx hb d_Na_divideSmall_2 rfl (lv_at hl 1 rfl) ?_
  refine va_get (D := D) (ci := 9) (v := .int h0_size) (C := R_Na) (T := T_Na) (N := 2) hx hb hg i_Na hown hK hP 0 rfl rfl 1 (by decide) (hg _ k3_1) (fun _ h9 => h9) q_h0_size d_Na_divideSmall_3 ?_
  refine lv_iconst (v := 1) hx hb d_Na_divideSmall_6 (by decide) ?_
  refine lv_isub hx hb d_Na_divideSmall_7 ?_
  refine lv_istore (lv' := [(4, .int (h0_size - 1)), (2, .long 0), (0, .ref h0), (1, .int l1)]) hx hb d_Na_divideSmall_8 hl (by decide) rfl (fun ls hl => ?_)
  exact ih1 h0_size h0_limbs_c 0 (h0_size - 1)  f_h0 _ _ _ hF q_h0_limbs q_h0_size r_h0 hP hD hS (lv_sub hl [2, 3, 1, 0] rfl)
set_option maxHeartbeats 4000000 in
set_option maxRecDepth 100000 in
theorem b_Na_divideSmall_1 {p : Program} {l : Launch} {e : Env} {s : State} {m : MethodId} {args : Array Value} {below : List Frame} {meth : Method} {c : Code} {D : va_G} {tA : Nat → ClassId} {A : Nat → Prop} {h0 h0_limbs : Nat} {f0_h0 : List Value} {h0_limbs_n : Nat} {l1 : Int32} {out : Int32 × Int32 × (Nat → Int32)} (hx : p.tables.exec = Jvm.exec) (hb : c.code = prog_6_method_13_code) (hr : meth.sig.returnType = (Option.some Jvm.ClassFile.FieldType.int)) (hml : c.maxLocals = 5) (hh : zH s) (hg : ∀ w ∈ lw_R, w.before args s = true) (hown : s.vm.findClass "ChanceArena$Natural" = some m.cls) (hlocks : meth.locks = false) (hK : va_K D vwCl (zT tA) s) (hA : ∀ q, s.heap.size ≤ q → A q) {n : Nat} (ih1 : ∀ (h0_size : Int32) (h0_limbs_c : Nat → Int32) (L2 : Int64) (l4 : Int32) (f_h0 : List Value) (H : Heap) (locs : List Loc) (ls : Array Slot), f_Na_divideSmall h0_limbs_n l1 n 1 h0_size h0_limbs_c L2 l4 = some out → f_h0[0]? = some (.ref h0_limbs) → f_h0[1]? = some (.int h0_size) → Fr [1] f0_h0 f_h0 → va_P D vwCl [(h0, .inr (9, f_h0)), (h0_limbs, .inl (tA 0, h0_limbs_n, .inl h0_limbs_c))] H → va_D A [(h0, .inr (9, f_h0)), (h0_limbs, .inl (tA 0, h0_limbs_n, .inl h0_limbs_c))] → va_S A s.heap H locs → lv_has ls 5 [(0, .ref h0), (1, .int l1), (2, .long L2), (4, .int l4)] → W p l e { frames := 0, cells := 0, slots := 0, locals := 0 } s m args below meth c H locs 0 0 (MQ below (va_Qi (fun (r9 : Int32) (u9 : List Value) => r9 = out.1 ∧ Fr [1] f0_h0 u9 ∧ u9[1]? = some (.int out.2.1)) (zPost D A (fun (u9 : List Value) => [(h0, .inr (9, u9)), (h0_limbs, .inl (tA 0, h0_limbs_n, .inl out.2.2))])) A) args s 0 0 A) (F0 m 10 ls [])) (ih2 : ∀ (h0_size : Int32) (h0_limbs_c : Nat → Int32) (L2 : Int64) (l4 : Int32) (f_h0 : List Value) (H : Heap) (locs : List Loc) (ls : Array Slot), f_Na_divideSmall h0_limbs_n l1 n 2 h0_size h0_limbs_c L2 l4 = some out → f_h0[0]? = some (.ref h0_limbs) → f_h0[1]? = some (.int h0_size) → Fr [1] f0_h0 f_h0 → va_P D vwCl [(h0, .inr (9, f_h0)), (h0_limbs, .inl (tA 0, h0_limbs_n, .inl h0_limbs_c))] H → va_D A [(h0, .inr (9, f_h0)), (h0_limbs, .inl (tA 0, h0_limbs_n, .inl h0_limbs_c))] → va_S A s.heap H locs → lv_has ls 5 [(0, .ref h0), (1, .int l1), (2, .long L2), (4, .int l4)] → W p l e { frames := 0, cells := 0, slots := 0, locals := 0 } s m args below meth c H locs 0 0 (MQ below (va_Qi (fun (r9 : Int32) (u9 : List Value) => r9 = out.1 ∧ Fr [1] f0_h0 u9 ∧ u9[1]? = some (.int out.2.1)) (zPost D A (fun (u9 : List Value) => [(h0, .inr (9, u9)), (h0_limbs, .inl (tA 0, h0_limbs_n, .inl out.2.2))])) A) args s 0 0 A) (F0 m 56 ls [])) : ∀ (h0_size : Int32) (h0_limbs_c : Nat → Int32) (L2 : Int64) (l4 : Int32) (f_h0 : List Value) (H : Heap) (locs : List Loc) (ls : Array Slot), f_Na_divideSmall h0_limbs_n l1 (n + 1) 1 h0_size h0_limbs_c L2 l4 = some out → f_h0[0]? = some (.ref h0_limbs) → f_h0[1]? = some (.int h0_size) → Fr [1] f0_h0 f_h0 → va_P D vwCl [(h0, .inr (9, f_h0)), (h0_limbs, .inl (tA 0, h0_limbs_n, .inl h0_limbs_c))] H → va_D A [(h0, .inr (9, f_h0)), (h0_limbs, .inl (tA 0, h0_limbs_n, .inl h0_limbs_c))] → va_S A s.heap H locs → lv_has ls 5 [(0, .ref h0), (1, .int l1), (2, .long L2), (4, .int l4)] → W p l e { frames := 0, cells := 0, slots := 0, locals := 0 } s m args below meth c H locs 0 0 (MQ below (va_Qi (fun (r9 : Int32) (u9 : List Value) => r9 = out.1 ∧ Fr [1] f0_h0 u9 ∧ u9[1]? = some (.int out.2.1)) (zPost D A (fun (u9 : List Value) => [(h0, .inr (9, u9)), (h0_limbs, .inl (tA 0, h0_limbs_n, .inl out.2.2))])) A) args s 0 0 A) (F0 m 10 ls []) := by
  intro h0_size h0_limbs_c L2 l4  f_h0 H locs ls hF q_h0_limbs q_h0_size r_h0 hP hD hS hl
  rw [e_Na_divideSmall_1] at hF
  refine lv_iload hx hb d_Na_divideSmall_10 (lv_at hl 3 rfl) ?_
  refine lv_if_lt (tgt := 56) hx hb d_Na_divideSmall_12 (by decide) (fun c9 => ?_) (fun c9 => ?_)
  · replace hF := ifp c9 hF
    exact ih2 h0_size h0_limbs_c L2 l4  f_h0 _ _ _ hF q_h0_limbs q_h0_size r_h0 hP hD hS (lv_sub hl [0, 1, 2, 3] rfl)
  · replace hF := ifn c9 hF
    refine lv_iload_n hx hb d_Na_divideSmall_15 rfl (lv_at hl 1 rfl) ?_
    refine lv_if_le (tgt := 56) hx hb d_Na_divideSmall_16 (by decide) (fun c9 => ?_) (fun c9 => ?_)
    · replace hF := ifp c9 hF
      exact ih2 h0_size h0_limbs_c L2 l4  f_h0 _ _ _ hF q_h0_limbs q_h0_size r_h0 hP hD hS (lv_sub hl [0, 1, 2, 3] rfl)
    · replace hF := ifn c9 hF
      refine lv_lload_n hx hb d_Na_divideSmall_19 rfl (lv_at hl 2 rfl) ?_
      refine lv_bipush (v := 30) hx hb d_Na_divideSmall_20 (by decide) ?_
      refine lv_lshl (v := ((L2 : Int64) <<< ((30 : Int32).toInt64 &&& 63))) hx hb d_Na_divideSmall_22 rfl ?_
      refine lv_aload_n hx hb d_Na_divideSmall_23 rfl (lv_at hl 0 rfl) ?_
      refine va_get (D := D) (ci := 9) (v := .ref h0_limbs) (C := R_Na) (T := T_Na) (N := 2) hx hb hg i_Na hown hK hP 0 rfl rfl 0 (by decide) (hg _ k2_239) (fun _ h9 => h9) q_h0_limbs d_Na_divideSmall_24 ?_
      refine lv_iload hx hb d_Na_divideSmall_27 (lv_at hl 3 rfl) ?_
      obtain ⟨h9, hF⟩ := chk_some hF
      refine va_iald hx hb hK hP 1 0 rfl rfl (vp_in_iff.mpr h9) d_Na_divideSmall_29 ?_
      refine lv_i2l (v := ((h0_limbs_c (l4 : Int32).toNatClampNeg) : Int32).toInt64) hx hb d_Na_divideSmall_30 rfl ?_
      refine lv_ladd hx hb d_Na_divideSmall_31 ?_
      refine lv_lstore_n (lv' := [(2, .long (((L2 : Int64) <<< ((30 : Int32).toInt64 &&& 63)) + ((h0_limbs_c (l4 : Int32).toNatClampNeg) : Int32).toInt64)), (0, .ref h0), (1, .int l1), (4, .int l4)]) hx hb d_Na_divideSmall_32 rfl hl (by decide) rfl (fun ls hl => ?_)
      refine lv_aload_n hx hb d_Na_divideSmall_33 rfl (lv_at hl 1 rfl) ?_
      refine va_get (D := D) (ci := 9) (v := .ref h0_limbs) (C := R_Na) (T := T_Na) (N := 2) hx hb hg i_Na hown hK hP 0 rfl rfl 0 (by decide) (hg _ k2_239) (fun _ h9 => h9) q_h0_limbs d_Na_divideSmall_34 ?_
      refine lv_iload hx hb d_Na_divideSmall_37 (lv_at hl 3 rfl) ?_
      refine lv_lload_n hx hb d_Na_divideSmall_39 rfl (lv_at hl 0 rfl) ?_
      refine lv_iload_n hx hb d_Na_divideSmall_40 rfl (lv_at hl 2 rfl) ?_
      refine lv_i2l (v := (l1 : Int32).toInt64) hx hb d_Na_divideSmall_41 rfl ?_
      obtain ⟨h9, hF⟩ := chk_some hF
      refine lv_ldiv hx hb d_Na_divideSmall_42 h9 ?_
      refine lv_l2i (v := (((((L2 : Int64) <<< ((30 : Int32).toInt64 &&& 63)) + ((h0_limbs_c (l4 : Int32).toNatClampNeg) : Int32).toInt64) / (l1 : Int32).toInt64) : Int64).toInt32) hx hb d_Na_divideSmall_43 rfl ?_
      obtain ⟨h9, hF⟩ := chk_some hF
      refine va_iast hx hb hK hP hD hS 1 0 rfl rfl (vp_in_iff.mpr h9) d_Na_divideSmall_44 (fun H1 locs1 hP1 hD1 hS1 => ?_)
      clear hP hD hS
      replace hP1 : va_P D vwCl [(h0, .inr (9, f_h0)), (h0_limbs, .inl (tA 0, h0_limbs_n, .inl (upd h0_limbs_c (l4 : Int32).toNatClampNeg ((((((L2 : Int64) <<< ((30 : Int32).toInt64 &&& 63)) + ((h0_limbs_c (l4 : Int32).toNatClampNeg) : Int32).toInt64) / (l1 : Int32).toInt64) : Int64).toInt32))))] _ := hP1
      replace hD1 : va_D A [(h0, .inr (9, f_h0)), (h0_limbs, .inl (tA 0, h0_limbs_n, .inl (upd h0_limbs_c (l4 : Int32).toNatClampNeg ((((((L2 : Int64) <<< ((30 : Int32).toInt64 &&& 63)) + ((h0_limbs_c (l4 : Int32).toNatClampNeg) : Int32).toInt64) / (l1 : Int32).toInt64) : Int64).toInt32))))] := hD1
      refine lv_lload_n hx hb d_Na_divideSmall_45 rfl (lv_at hl 0 rfl) ?_
      refine lv_iload_n hx hb d_Na_divideSmall_46 rfl (lv_at hl 2 rfl) ?_
      refine lv_i2l (v := (l1 : Int32).toInt64) hx hb d_Na_divideSmall_47 rfl ?_
      obtain ⟨h9, hF⟩ := chk_some hF
      refine lv_lrem hx hb d_Na_divideSmall_48 h9 ?_
      refine lv_lstore_n (lv' := [(2, .long ((((L2 : Int64) <<< ((30 : Int32).toInt64 &&& 63)) + ((h0_limbs_c (l4 : Int32).toNatClampNeg) : Int32).toInt64) - (((L2 : Int64) <<< ((30 : Int32).toInt64 &&& 63)) + ((h0_limbs_c (l4 : Int32).toNatClampNeg) : Int32).toInt64) / (l1 : Int32).toInt64 * (l1 : Int32).toInt64)), (0, .ref h0), (1, .int l1), (4, .int l4)]) hx hb d_Na_divideSmall_49 rfl hl (by decide) rfl (fun ls hl => ?_)
      refine lv_iinc (v := (l4 + Int32.ofInt (-1))) (lv' := [(4, .int (l4 + Int32.ofInt (-1))), (2, .long ((((L2 : Int64) <<< ((30 : Int32).toInt64 &&& 63)) + ((h0_limbs_c (l4 : Int32).toNatClampNeg) : Int32).toInt64) - (((L2 : Int64) <<< ((30 : Int32).toInt64 &&& 63)) + ((h0_limbs_c (l4 : Int32).toNatClampNeg) : Int32).toInt64) / (l1 : Int32).toInt64 * (l1 : Int32).toInt64)), (0, .ref h0), (1, .int l1)]) hx hb d_Na_divideSmall_50 hl (k := 3) rfl rfl (by decide) rfl (fun ls hl => ?_)
      refine lv_goto (tgt := 10) hx hb d_Na_divideSmall_53 (by decide) ?_
      exact ih1 h0_size (upd h0_limbs_c (l4 : Int32).toNatClampNeg ((((((L2 : Int64) <<< ((30 : Int32).toInt64 &&& 63)) + ((h0_limbs_c (l4 : Int32).toNatClampNeg) : Int32).toInt64) / (l1 : Int32).toInt64) : Int64).toInt32)) ((((L2 : Int64) <<< ((30 : Int32).toInt64 &&& 63)) + ((h0_limbs_c (l4 : Int32).toNatClampNeg) : Int32).toInt64) - (((L2 : Int64) <<< ((30 : Int32).toInt64 &&& 63)) + ((h0_limbs_c (l4 : Int32).toNatClampNeg) : Int32).toInt64) / (l1 : Int32).toInt64 * (l1 : Int32).toInt64) (l4 + Int32.ofInt (-1))  f_h0 _ _ _ hF q_h0_limbs q_h0_size r_h0 hP1 hD1 hS1 (lv_sub hl [2, 3, 1, 0] rfl)
set_option maxHeartbeats 4000000 in
set_option maxRecDepth 100000 in
theorem b_Na_divideSmall_2 {p : Program} {l : Launch} {e : Env} {s : State} {m : MethodId} {args : Array Value} {below : List Frame} {meth : Method} {c : Code} {D : va_G} {tA : Nat → ClassId} {A : Nat → Prop} {h0 h0_limbs : Nat} {f0_h0 : List Value} {h0_limbs_n : Nat} {l1 : Int32} {out : Int32 × Int32 × (Nat → Int32)} (hx : p.tables.exec = Jvm.exec) (hb : c.code = prog_6_method_13_code) (hr : meth.sig.returnType = (Option.some Jvm.ClassFile.FieldType.int)) (hml : c.maxLocals = 5) (hh : zH s) (hg : ∀ w ∈ lw_R, w.before args s = true) (hown : s.vm.findClass "ChanceArena$Natural" = some m.cls) (hlocks : meth.locks = false) (hK : va_K D vwCl (zT tA) s) (hA : ∀ q, s.heap.size ≤ q → A q) {n : Nat} (ih2 : ∀ (h0_size : Int32) (h0_limbs_c : Nat → Int32) (L2 : Int64) (l4 : Int32) (f_h0 : List Value) (H : Heap) (locs : List Loc) (ls : Array Slot), f_Na_divideSmall h0_limbs_n l1 n 2 h0_size h0_limbs_c L2 l4 = some out → f_h0[0]? = some (.ref h0_limbs) → f_h0[1]? = some (.int h0_size) → Fr [1] f0_h0 f_h0 → va_P D vwCl [(h0, .inr (9, f_h0)), (h0_limbs, .inl (tA 0, h0_limbs_n, .inl h0_limbs_c))] H → va_D A [(h0, .inr (9, f_h0)), (h0_limbs, .inl (tA 0, h0_limbs_n, .inl h0_limbs_c))] → va_S A s.heap H locs → lv_has ls 5 [(0, .ref h0), (1, .int l1), (2, .long L2), (4, .int l4)] → W p l e { frames := 0, cells := 0, slots := 0, locals := 0 } s m args below meth c H locs 0 0 (MQ below (va_Qi (fun (r9 : Int32) (u9 : List Value) => r9 = out.1 ∧ Fr [1] f0_h0 u9 ∧ u9[1]? = some (.int out.2.1)) (zPost D A (fun (u9 : List Value) => [(h0, .inr (9, u9)), (h0_limbs, .inl (tA 0, h0_limbs_n, .inl out.2.2))])) A) args s 0 0 A) (F0 m 56 ls [])) : ∀ (h0_size : Int32) (h0_limbs_c : Nat → Int32) (L2 : Int64) (l4 : Int32) (f_h0 : List Value) (H : Heap) (locs : List Loc) (ls : Array Slot), f_Na_divideSmall h0_limbs_n l1 (n + 1) 2 h0_size h0_limbs_c L2 l4 = some out → f_h0[0]? = some (.ref h0_limbs) → f_h0[1]? = some (.int h0_size) → Fr [1] f0_h0 f_h0 → va_P D vwCl [(h0, .inr (9, f_h0)), (h0_limbs, .inl (tA 0, h0_limbs_n, .inl h0_limbs_c))] H → va_D A [(h0, .inr (9, f_h0)), (h0_limbs, .inl (tA 0, h0_limbs_n, .inl h0_limbs_c))] → va_S A s.heap H locs → lv_has ls 5 [(0, .ref h0), (1, .int l1), (2, .long L2), (4, .int l4)] → W p l e { frames := 0, cells := 0, slots := 0, locals := 0 } s m args below meth c H locs 0 0 (MQ below (va_Qi (fun (r9 : Int32) (u9 : List Value) => r9 = out.1 ∧ Fr [1] f0_h0 u9 ∧ u9[1]? = some (.int out.2.1)) (zPost D A (fun (u9 : List Value) => [(h0, .inr (9, u9)), (h0_limbs, .inl (tA 0, h0_limbs_n, .inl out.2.2))])) A) args s 0 0 A) (F0 m 56 ls []) := by
  intro h0_size h0_limbs_c L2 l4  f_h0 H locs ls hF q_h0_limbs q_h0_size r_h0 hP hD hS hl
  rw [e_Na_divideSmall_2] at hF
  refine lv_aload_n hx hb d_Na_divideSmall_56 rfl (lv_at hl 0 rfl) ?_
  refine va_get (D := D) (ci := 9) (v := .int h0_size) (C := R_Na) (T := T_Na) (N := 2) hx hb hg i_Na hown hK hP 0 rfl rfl 1 (by decide) (hg _ k3_1) (fun _ h9 => h9) q_h0_size d_Na_divideSmall_57 ?_
  refine lv_if_le (tgt := 90) hx hb d_Na_divideSmall_60 (by decide) (fun c9 => ?_) (fun c9 => ?_)
  · replace hF := ifp c9 hF
    refine lv_lload_n hx hb d_Na_divideSmall_90 rfl (lv_at hl 2 rfl) ?_
    refine lv_l2i (v := (L2 : Int64).toInt32) hx hb d_Na_divideSmall_91 rfl ?_
    replace hF := Option.some.inj hF
    subst hF
    exact zZret (post := (fun (r9 : Int32) (u9 : List Value) => r9 = ((L2 : Int64).toInt32, h0_size, h0_limbs_c).1 ∧ Fr [1] f0_h0 u9 ∧ u9[1]? = some (.int (((L2 : Int64).toInt32, h0_size, h0_limbs_c).2.1)))) (W1 := (fun (u9 : List Value) => [(h0, .inr (9, u9)), (h0_limbs, .inl (tA 0, h0_limbs_n, .inl (((L2 : Int64).toInt32, h0_size, h0_limbs_c).2.2)))])) (v := (L2 : Int64).toInt32) hx hb hr rfl hlocks hP hD hS (f_h0) ⟨rfl, r_h0, q_h0_size⟩ rfl d_Na_divideSmall_92
  · replace hF := ifn c9 hF
    refine lv_aload_n hx hb d_Na_divideSmall_63 rfl (lv_at hl 0 rfl) ?_
    refine va_get (D := D) (ci := 9) (v := .ref h0_limbs) (C := R_Na) (T := T_Na) (N := 2) hx hb hg i_Na hown hK hP 0 rfl rfl 0 (by decide) (hg _ k2_239) (fun _ h9 => h9) q_h0_limbs d_Na_divideSmall_64 ?_
    refine lv_aload_n hx hb d_Na_divideSmall_67 rfl (lv_at hl 0 rfl) ?_
    refine va_get (D := D) (ci := 9) (v := .int h0_size) (C := R_Na) (T := T_Na) (N := 2) hx hb hg i_Na hown hK hP 0 rfl rfl 1 (by decide) (hg _ k3_1) (fun _ h9 => h9) q_h0_size d_Na_divideSmall_68 ?_
    refine lv_iconst (v := 1) hx hb d_Na_divideSmall_71 (by decide) ?_
    refine lv_isub hx hb d_Na_divideSmall_72 ?_
    obtain ⟨h9, hF⟩ := chk_some hF
    refine va_iald hx hb hK hP 1 0 rfl rfl (vp_in_iff.mpr h9) d_Na_divideSmall_73 ?_
    refine lv_if_ne (tgt := 90) hx hb d_Na_divideSmall_74 (by decide) (fun c9 => ?_) (fun c9 => ?_)
    · replace hF := ifp c9 hF
      refine lv_lload_n hx hb d_Na_divideSmall_90 rfl (lv_at hl 2 rfl) ?_
      refine lv_l2i (v := (L2 : Int64).toInt32) hx hb d_Na_divideSmall_91 rfl ?_
      replace hF := Option.some.inj hF
      subst hF
      exact zZret (post := (fun (r9 : Int32) (u9 : List Value) => r9 = ((L2 : Int64).toInt32, h0_size, h0_limbs_c).1 ∧ Fr [1] f0_h0 u9 ∧ u9[1]? = some (.int (((L2 : Int64).toInt32, h0_size, h0_limbs_c).2.1)))) (W1 := (fun (u9 : List Value) => [(h0, .inr (9, u9)), (h0_limbs, .inl (tA 0, h0_limbs_n, .inl (((L2 : Int64).toInt32, h0_size, h0_limbs_c).2.2)))])) (v := (L2 : Int64).toInt32) hx hb hr rfl hlocks hP hD hS (f_h0) ⟨rfl, r_h0, q_h0_size⟩ rfl d_Na_divideSmall_92
    · replace hF := ifn (fun h9 => h9 c9) hF
      refine lv_aload_n hx hb d_Na_divideSmall_77 rfl (lv_at hl 0 rfl) ?_
      refine lv_dup hx hb d_Na_divideSmall_78 rfl ?_
      refine va_get (D := D) (ci := 9) (v := .int h0_size) (C := R_Na) (T := T_Na) (N := 2) hx hb hg i_Na hown hK hP 0 rfl rfl 1 (by decide) (hg _ k3_1) (fun _ h9 => h9) q_h0_size d_Na_divideSmall_79 ?_
      refine lv_iconst (v := 1) hx hb d_Na_divideSmall_82 (by decide) ?_
      refine lv_isub hx hb d_Na_divideSmall_83 ?_
      refine va_put (D := D) (ci := 9) (v := .int (h0_size - 1)) (ty := .int) (C := R_Na) (T := T_Na) (N := 2) hx hb hg i_Na t_Na o_Na n_Na hown hK hP hD hS 0 rfl rfl 1 (by decide) (hg _ k3_1) (fun _ h9 => h9) rfl (by decide +kernel) rfl rfl (zLen q_h0_size) d_Na_divideSmall_84 (fun H1 locs1 hP1 hD1 hS1 => ?_)
      clear hP hD hS
      replace hP1 : va_P D vwCl [(h0, .inr (9, f_h0.set 1 (.int (h0_size - 1)))), (h0_limbs, .inl (tA 0, h0_limbs_n, .inl h0_limbs_c))] _ := hP1
      replace hD1 : va_D A [(h0, .inr (9, f_h0.set 1 (.int (h0_size - 1)))), (h0_limbs, .inl (tA 0, h0_limbs_n, .inl h0_limbs_c))] := hD1
      refine lv_goto (tgt := 56) hx hb d_Na_divideSmall_87 (by decide) ?_
      exact ih2 (h0_size - 1) h0_limbs_c L2 l4  (f_h0.set 1 (.int (h0_size - 1))) _ _ _ hF (zSetN (by decide) q_h0_limbs) (zSetS q_h0_size) (Fr.set r_h0 (by decide)) hP1 hD1 hS1 (lv_sub hl [0, 1, 2, 3] rfl)
set_option maxHeartbeats 4000000 in
set_option maxRecDepth 100000 in
theorem a_Na_divideSmall {p : Program} {l : Launch} {e : Env} {s : State} {m : MethodId} {args : Array Value} {below : List Frame} {meth : Method} {c : Code} {D : va_G} {tA : Nat → ClassId} {A : Nat → Prop} {h0 h0_limbs : Nat} {f0_h0 : List Value} {h0_limbs_n : Nat} {l1 : Int32} {out : Int32 × Int32 × (Nat → Int32)} (hx : p.tables.exec = Jvm.exec) (hb : c.code = prog_6_method_13_code) (hr : meth.sig.returnType = (Option.some Jvm.ClassFile.FieldType.int)) (hml : c.maxLocals = 5) (hh : zH s) (hg : ∀ w ∈ lw_R, w.before args s = true) (hown : s.vm.findClass "ChanceArena$Natural" = some m.cls) (hlocks : meth.locks = false) (hK : va_K D vwCl (zT tA) s) (hA : ∀ q, s.heap.size ≤ q → A q) : ∀ n : Nat, (∀ (h0_size : Int32) (h0_limbs_c : Nat → Int32) (L2 : Int64) (l4 : Int32) (f_h0 : List Value) (H : Heap) (locs : List Loc) (ls : Array Slot), f_Na_divideSmall h0_limbs_n l1 n 0 h0_size h0_limbs_c L2 l4 = some out → f_h0[0]? = some (.ref h0_limbs) → f_h0[1]? = some (.int h0_size) → Fr [1] f0_h0 f_h0 → va_P D vwCl [(h0, .inr (9, f_h0)), (h0_limbs, .inl (tA 0, h0_limbs_n, .inl h0_limbs_c))] H → va_D A [(h0, .inr (9, f_h0)), (h0_limbs, .inl (tA 0, h0_limbs_n, .inl h0_limbs_c))] → va_S A s.heap H locs → lv_has ls 5 [(0, .ref h0), (1, .int l1)] → W p l e { frames := 0, cells := 0, slots := 0, locals := 0 } s m args below meth c H locs 0 0 (MQ below (va_Qi (fun (r9 : Int32) (u9 : List Value) => r9 = out.1 ∧ Fr [1] f0_h0 u9 ∧ u9[1]? = some (.int out.2.1)) (zPost D A (fun (u9 : List Value) => [(h0, .inr (9, u9)), (h0_limbs, .inl (tA 0, h0_limbs_n, .inl out.2.2))])) A) args s 0 0 A) (F0 m 0 ls [])) ∧ (∀ (h0_size : Int32) (h0_limbs_c : Nat → Int32) (L2 : Int64) (l4 : Int32) (f_h0 : List Value) (H : Heap) (locs : List Loc) (ls : Array Slot), f_Na_divideSmall h0_limbs_n l1 n 1 h0_size h0_limbs_c L2 l4 = some out → f_h0[0]? = some (.ref h0_limbs) → f_h0[1]? = some (.int h0_size) → Fr [1] f0_h0 f_h0 → va_P D vwCl [(h0, .inr (9, f_h0)), (h0_limbs, .inl (tA 0, h0_limbs_n, .inl h0_limbs_c))] H → va_D A [(h0, .inr (9, f_h0)), (h0_limbs, .inl (tA 0, h0_limbs_n, .inl h0_limbs_c))] → va_S A s.heap H locs → lv_has ls 5 [(0, .ref h0), (1, .int l1), (2, .long L2), (4, .int l4)] → W p l e { frames := 0, cells := 0, slots := 0, locals := 0 } s m args below meth c H locs 0 0 (MQ below (va_Qi (fun (r9 : Int32) (u9 : List Value) => r9 = out.1 ∧ Fr [1] f0_h0 u9 ∧ u9[1]? = some (.int out.2.1)) (zPost D A (fun (u9 : List Value) => [(h0, .inr (9, u9)), (h0_limbs, .inl (tA 0, h0_limbs_n, .inl out.2.2))])) A) args s 0 0 A) (F0 m 10 ls [])) ∧ (∀ (h0_size : Int32) (h0_limbs_c : Nat → Int32) (L2 : Int64) (l4 : Int32) (f_h0 : List Value) (H : Heap) (locs : List Loc) (ls : Array Slot), f_Na_divideSmall h0_limbs_n l1 n 2 h0_size h0_limbs_c L2 l4 = some out → f_h0[0]? = some (.ref h0_limbs) → f_h0[1]? = some (.int h0_size) → Fr [1] f0_h0 f_h0 → va_P D vwCl [(h0, .inr (9, f_h0)), (h0_limbs, .inl (tA 0, h0_limbs_n, .inl h0_limbs_c))] H → va_D A [(h0, .inr (9, f_h0)), (h0_limbs, .inl (tA 0, h0_limbs_n, .inl h0_limbs_c))] → va_S A s.heap H locs → lv_has ls 5 [(0, .ref h0), (1, .int l1), (2, .long L2), (4, .int l4)] → W p l e { frames := 0, cells := 0, slots := 0, locals := 0 } s m args below meth c H locs 0 0 (MQ below (va_Qi (fun (r9 : Int32) (u9 : List Value) => r9 = out.1 ∧ Fr [1] f0_h0 u9 ∧ u9[1]? = some (.int out.2.1)) (zPost D A (fun (u9 : List Value) => [(h0, .inr (9, u9)), (h0_limbs, .inl (tA 0, h0_limbs_n, .inl out.2.2))])) A) args s 0 0 A) (F0 m 56 ls [])) := by
  intro n
  induction n with
  | zero => exact ⟨(fun _ _ _ _ _ _ _ _ hF => by rw [z_Na_divideSmall] at hF; cases hF), (fun _ _ _ _ _ _ _ _ hF => by rw [z_Na_divideSmall] at hF; cases hF), (fun _ _ _ _ _ _ _ _ hF => by rw [z_Na_divideSmall] at hF; cases hF)⟩
  | succ n ih =>
    obtain ⟨i0, i1, i2⟩ := ih
    exact ⟨b_Na_divideSmall_0 hx hb hr hml hh hg hown hlocks hK hA i1, b_Na_divideSmall_1 hx hb hr hml hh hg hown hlocks hK hA i1 i2, b_Na_divideSmall_2 hx hb hr hml hh hg hown hlocks hK hA i2⟩
set_option maxHeartbeats 4000000 in
set_option maxRecDepth 100000 in
theorem m_Na_divideSmall (l : Launch) (D : va_G) (tA : Nat → ClassId) (sz : Nat) (h0 h0_limbs : Nat) (f0_h0 : List Value) (h0_limbs_n : Nat) (l1 : Int32) (h0_size : Int32) (h0_limbs_c : Nat → Int32) (q_h0_limbs : f0_h0[0]? = some (.ref h0_limbs)) (q_h0_size : f0_h0[1]? = some (.int h0_size)) (n : Nat) (out : Int32 × Int32 × (Nat → Int32)) (hF : f_Na_divideSmall h0_limbs_n l1 n 0 h0_size h0_limbs_c 0 0 = some out) : zMi l ({ cls := "ChanceArena$Natural", name := "divideSmall", desc := "(I)I" } : Jvm.MethodName) (zW (Jvm.Cond.code ({ cls := "ChanceArena$Natural", name := "divideSmall", desc := "(I)I" } : Jvm.MethodName) prog_6_method_13_code (5 : Nat) (Option.some Jvm.ClassFile.FieldType.int))) { frames := 0, cells := 0, slots := 0, locals := 0 } [.ref h0, .int l1] D tA [(h0, .inr (9, f0_h0)), (h0_limbs, .inl (tA 0, h0_limbs_n, .inl h0_limbs_c))] sz (fun (r9 : Int32) (u9 : List Value) => r9 = out.1 ∧ Fr [1] f0_h0 u9 ∧ u9[1]? = some (.int out.2.1)) (fun (u9 : List Value) => [(h0, .inr (9, u9)), (h0_limbs, .inl (tA 0, h0_limbs_n, .inl out.2.2))]) 0 0 := by
  refine zOpen (l := l) (y := ({ cls := "ChanceArena$Natural", name := "divideSmall", desc := "(I)I" } : Jvm.MethodName)) (ws := zW (Jvm.Cond.code ({ cls := "ChanceArena$Natural", name := "divideSmall", desc := "(I)I" } : Jvm.MethodName) prog_6_method_13_code (5 : Nat) (Option.some Jvm.ClassFile.FieldType.int))) (rm := { frames := 0, cells := 0, slots := 0, locals := 0 }) (av := [.ref h0, .int l1]) (D := D) (tA := tA) (W0 := [(h0, .inr (9, f0_h0)), (h0_limbs, .inl (tA 0, h0_limbs_n, .inl h0_limbs_c))]) (Wm := [(h0, .inr (9, f0_h0)), (h0_limbs, .inl (tA 0, h0_limbs_n, .inl h0_limbs_c))]) (sz := sz) (mc := 0) (ms := 0) (fun A => va_Qi (fun (r9 : Int32) (u9 : List Value) => r9 = out.1 ∧ Fr [1] f0_h0 u9 ∧ u9[1]? = some (.int out.2.1)) (zPost D A (fun (u9 : List Value) => [(h0, .inr (9, u9)), (h0_limbs, .inl (tA 0, h0_limbs_n, .inl out.2.2))])) A) (lv := [(0, .ref h0), (1, .int l1)]) (by decide) rfl (Nat.le_of_ble_eq_true rfl) rfl ?_
  intro p e s m below meth c A ls hx hb hr hml hh hg hown hlocks hnm hK hA hP hD0 hAw hS hl
  have hD := zD hD0 hAw
  exact (a_Na_divideSmall hx hb hr hml hh hg hown hlocks hK hA n).1 h0_size h0_limbs_c 0 0  f0_h0 _ _ _ hF q_h0_limbs q_h0_size Fr.rfl hP hD hS hl
def f_Na_modulo (h0_limbs_n : Nat) (l1 : Int32) (h0_size : Int32) (h0_limbs_c : Nat → Int32) : Nat → Nat → Int64 → Int32 → Option (Int32)
  | 0, _, _, _ => none
  | n + 1, 0, L2, l4 => chk True (f_Na_modulo h0_limbs_n l1 h0_size h0_limbs_c n 1 0 (h0_size - 1))
  | n + 1, 1, L2, l4 => if (l4 : Int32) < 0 then some ((L2 : Int64).toInt32) else if (l1 : Int32) ≤ 0 then some ((L2 : Int64).toInt32) else chk (0 ≤ (l4 : Int32).toInt ∧ (l4 : Int32).toInt < h0_limbs_n) (chk (¬ ((l1 : Int32).toInt64 : Int64) = 0) (f_Na_modulo h0_limbs_n l1 h0_size h0_limbs_c n 1 ((((L2 : Int64) <<< ((30 : Int32).toInt64 &&& 63)) + ((h0_limbs_c (l4 : Int32).toNatClampNeg) : Int32).toInt64) - (((L2 : Int64) <<< ((30 : Int32).toInt64 &&& 63)) + ((h0_limbs_c (l4 : Int32).toNatClampNeg) : Int32).toInt64) / (l1 : Int32).toInt64 * (l1 : Int32).toInt64) (l4 + Int32.ofInt (-1))))
  | _ + 1, _ + 2, _, _ => none
theorem e_Na_modulo_0 (h0_limbs_n : Nat) (l1 : Int32) (h0_size : Int32) (h0_limbs_c : Nat → Int32) (n : Nat) (L2 : Int64) (l4 : Int32) : f_Na_modulo h0_limbs_n l1 h0_size h0_limbs_c (n + 1) 0 L2 l4 = chk True (f_Na_modulo h0_limbs_n l1 h0_size h0_limbs_c n 1 0 (h0_size - 1)) := by rw [f_Na_modulo]
theorem e_Na_modulo_1 (h0_limbs_n : Nat) (l1 : Int32) (h0_size : Int32) (h0_limbs_c : Nat → Int32) (n : Nat) (L2 : Int64) (l4 : Int32) : f_Na_modulo h0_limbs_n l1 h0_size h0_limbs_c (n + 1) 1 L2 l4 = if (l4 : Int32) < 0 then some ((L2 : Int64).toInt32) else if (l1 : Int32) ≤ 0 then some ((L2 : Int64).toInt32) else chk (0 ≤ (l4 : Int32).toInt ∧ (l4 : Int32).toInt < h0_limbs_n) (chk (¬ ((l1 : Int32).toInt64 : Int64) = 0) (f_Na_modulo h0_limbs_n l1 h0_size h0_limbs_c n 1 ((((L2 : Int64) <<< ((30 : Int32).toInt64 &&& 63)) + ((h0_limbs_c (l4 : Int32).toNatClampNeg) : Int32).toInt64) - (((L2 : Int64) <<< ((30 : Int32).toInt64 &&& 63)) + ((h0_limbs_c (l4 : Int32).toNatClampNeg) : Int32).toInt64) / (l1 : Int32).toInt64 * (l1 : Int32).toInt64) (l4 + Int32.ofInt (-1)))) := by rw [f_Na_modulo]
theorem z_Na_modulo (h0_limbs_n : Nat) (l1 : Int32) (h0_size : Int32) (h0_limbs_c : Nat → Int32) (h : Nat) (L2 : Int64) (l4 : Int32) : f_Na_modulo h0_limbs_n l1 h0_size h0_limbs_c 0 h L2 l4 = none := by rw [f_Na_modulo]
set_option maxHeartbeats 4000000 in
set_option maxRecDepth 100000 in
theorem b_Na_modulo_0 {p : Program} {l : Launch} {e : Env} {s : State} {m : MethodId} {args : Array Value} {below : List Frame} {meth : Method} {c : Code} {D : va_G} {tA : Nat → ClassId} {A : Nat → Prop} {h0 h0_limbs : Nat} {f0_h0 : List Value} {h0_limbs_n : Nat} {l1 : Int32} {h0_size : Int32} {h0_limbs_c : Nat → Int32} {out : Int32} (hx : p.tables.exec = Jvm.exec) (hb : c.code = prog_6_method_14_code) (hr : meth.sig.returnType = (Option.some Jvm.ClassFile.FieldType.int)) (hml : c.maxLocals = 5) (hh : zH s) (hg : ∀ w ∈ lw_R, w.before args s = true) (hown : s.vm.findClass "ChanceArena$Natural" = some m.cls) (hlocks : meth.locks = false) (hK : va_K D vwCl (zT tA) s) (hA : ∀ q, s.heap.size ≤ q → A q) {n : Nat} (ih1 : ∀ (L2 : Int64) (l4 : Int32) (H : Heap) (locs : List Loc) (ls : Array Slot), f_Na_modulo h0_limbs_n l1 h0_size h0_limbs_c n 1 L2 l4 = some out → f0_h0[0]? = some (.ref h0_limbs) → f0_h0[1]? = some (.int h0_size) → va_P D vwCl [(h0, .inr (9, f0_h0)), (h0_limbs, .inl (tA 0, h0_limbs_n, .inl h0_limbs_c))] H → va_D A [(h0, .inr (9, f0_h0)), (h0_limbs, .inl (tA 0, h0_limbs_n, .inl h0_limbs_c))] → va_S A s.heap H locs → lv_has ls 5 [(0, .ref h0), (1, .int l1), (2, .long L2), (4, .int l4)] → W p l e { frames := 0, cells := 0, slots := 0, locals := 0 } s m args below meth c H locs 0 0 (MQ below (va_Qi (fun (r9 : Int32) (u9 : Unit) => r9 = out) (zPost D A (fun (u9 : Unit) => [(h0, .inr (9, f0_h0)), (h0_limbs, .inl (tA 0, h0_limbs_n, .inl h0_limbs_c))])) A) args s 0 0 A) (F0 m 10 ls [])) : ∀ (L2 : Int64) (l4 : Int32) (H : Heap) (locs : List Loc) (ls : Array Slot), f_Na_modulo h0_limbs_n l1 h0_size h0_limbs_c (n + 1) 0 L2 l4 = some out → f0_h0[0]? = some (.ref h0_limbs) → f0_h0[1]? = some (.int h0_size) → va_P D vwCl [(h0, .inr (9, f0_h0)), (h0_limbs, .inl (tA 0, h0_limbs_n, .inl h0_limbs_c))] H → va_D A [(h0, .inr (9, f0_h0)), (h0_limbs, .inl (tA 0, h0_limbs_n, .inl h0_limbs_c))] → va_S A s.heap H locs → lv_has ls 5 [(0, .ref h0), (1, .int l1)] → W p l e { frames := 0, cells := 0, slots := 0, locals := 0 } s m args below meth c H locs 0 0 (MQ below (va_Qi (fun (r9 : Int32) (u9 : Unit) => r9 = out) (zPost D A (fun (u9 : Unit) => [(h0, .inr (9, f0_h0)), (h0_limbs, .inl (tA 0, h0_limbs_n, .inl h0_limbs_c))])) A) args s 0 0 A) (F0 m 0 ls []) := by
  intro L2 l4   H locs ls hF q_h0_limbs q_h0_size hP hD hS hl
  rw [e_Na_modulo_0] at hF
  obtain ⟨_, hF⟩ := chk_some hF
  refine lv_lconst (v := 0) hx hb d_Na_modulo_0 (by decide) ?_
  refine lv_lstore_n (lv' := [(2, .long 0), (0, .ref h0), (1, .int l1)]) hx hb d_Na_modulo_1 rfl hl (by decide) rfl (fun ls hl => ?_)
  refine lv_aload_n hx hb d_Na_modulo_2 rfl (lv_at hl 1 rfl) ?_
  refine va_get (D := D) (ci := 9) (v := .int h0_size) (C := R_Na) (T := T_Na) (N := 2) hx hb hg i_Na hown hK hP 0 rfl rfl 1 (by decide) (hg _ k3_1) (fun _ h9 => h9) q_h0_size d_Na_modulo_3 ?_
  refine lv_iconst (v := 1) hx hb d_Na_modulo_6 (by decide) ?_
  refine lv_isub hx hb d_Na_modulo_7 ?_
  refine lv_istore (lv' := [(4, .int (h0_size - 1)), (2, .long 0), (0, .ref h0), (1, .int l1)]) hx hb d_Na_modulo_8 hl (by decide) rfl (fun ls hl => ?_)
  exact ih1 0 (h0_size - 1)   _ _ _ hF q_h0_limbs q_h0_size hP hD hS (lv_sub hl [2, 3, 1, 0] rfl)
set_option maxHeartbeats 4000000 in
set_option maxRecDepth 100000 in
theorem b_Na_modulo_1 {p : Program} {l : Launch} {e : Env} {s : State} {m : MethodId} {args : Array Value} {below : List Frame} {meth : Method} {c : Code} {D : va_G} {tA : Nat → ClassId} {A : Nat → Prop} {h0 h0_limbs : Nat} {f0_h0 : List Value} {h0_limbs_n : Nat} {l1 : Int32} {h0_size : Int32} {h0_limbs_c : Nat → Int32} {out : Int32} (hx : p.tables.exec = Jvm.exec) (hb : c.code = prog_6_method_14_code) (hr : meth.sig.returnType = (Option.some Jvm.ClassFile.FieldType.int)) (hml : c.maxLocals = 5) (hh : zH s) (hg : ∀ w ∈ lw_R, w.before args s = true) (hown : s.vm.findClass "ChanceArena$Natural" = some m.cls) (hlocks : meth.locks = false) (hK : va_K D vwCl (zT tA) s) (hA : ∀ q, s.heap.size ≤ q → A q) {n : Nat} (ih1 : ∀ (L2 : Int64) (l4 : Int32) (H : Heap) (locs : List Loc) (ls : Array Slot), f_Na_modulo h0_limbs_n l1 h0_size h0_limbs_c n 1 L2 l4 = some out → f0_h0[0]? = some (.ref h0_limbs) → f0_h0[1]? = some (.int h0_size) → va_P D vwCl [(h0, .inr (9, f0_h0)), (h0_limbs, .inl (tA 0, h0_limbs_n, .inl h0_limbs_c))] H → va_D A [(h0, .inr (9, f0_h0)), (h0_limbs, .inl (tA 0, h0_limbs_n, .inl h0_limbs_c))] → va_S A s.heap H locs → lv_has ls 5 [(0, .ref h0), (1, .int l1), (2, .long L2), (4, .int l4)] → W p l e { frames := 0, cells := 0, slots := 0, locals := 0 } s m args below meth c H locs 0 0 (MQ below (va_Qi (fun (r9 : Int32) (u9 : Unit) => r9 = out) (zPost D A (fun (u9 : Unit) => [(h0, .inr (9, f0_h0)), (h0_limbs, .inl (tA 0, h0_limbs_n, .inl h0_limbs_c))])) A) args s 0 0 A) (F0 m 10 ls [])) : ∀ (L2 : Int64) (l4 : Int32) (H : Heap) (locs : List Loc) (ls : Array Slot), f_Na_modulo h0_limbs_n l1 h0_size h0_limbs_c (n + 1) 1 L2 l4 = some out → f0_h0[0]? = some (.ref h0_limbs) → f0_h0[1]? = some (.int h0_size) → va_P D vwCl [(h0, .inr (9, f0_h0)), (h0_limbs, .inl (tA 0, h0_limbs_n, .inl h0_limbs_c))] H → va_D A [(h0, .inr (9, f0_h0)), (h0_limbs, .inl (tA 0, h0_limbs_n, .inl h0_limbs_c))] → va_S A s.heap H locs → lv_has ls 5 [(0, .ref h0), (1, .int l1), (2, .long L2), (4, .int l4)] → W p l e { frames := 0, cells := 0, slots := 0, locals := 0 } s m args below meth c H locs 0 0 (MQ below (va_Qi (fun (r9 : Int32) (u9 : Unit) => r9 = out) (zPost D A (fun (u9 : Unit) => [(h0, .inr (9, f0_h0)), (h0_limbs, .inl (tA 0, h0_limbs_n, .inl h0_limbs_c))])) A) args s 0 0 A) (F0 m 10 ls []) := by
  intro L2 l4   H locs ls hF q_h0_limbs q_h0_size hP hD hS hl
  rw [e_Na_modulo_1] at hF
  refine lv_iload hx hb d_Na_modulo_10 (lv_at hl 3 rfl) ?_
  refine lv_if_lt (tgt := 42) hx hb d_Na_modulo_12 (by decide) (fun c9 => ?_) (fun c9 => ?_)
  · replace hF := ifp c9 hF
    refine lv_lload_n hx hb d_Na_modulo_42 rfl (lv_at hl 2 rfl) ?_
    refine lv_l2i (v := (L2 : Int64).toInt32) hx hb d_Na_modulo_43 rfl ?_
    replace hF := Option.some.inj hF
    subst hF
    exact zZret (post := (fun (r9 : Int32) (u9 : Unit) => r9 = ((L2 : Int64).toInt32))) (W1 := (fun (u9 : Unit) => [(h0, .inr (9, f0_h0)), (h0_limbs, .inl (tA 0, h0_limbs_n, .inl h0_limbs_c))])) (v := (L2 : Int64).toInt32) hx hb hr rfl hlocks hP hD hS () rfl rfl d_Na_modulo_44
  · replace hF := ifn c9 hF
    refine lv_iload_n hx hb d_Na_modulo_15 rfl (lv_at hl 1 rfl) ?_
    refine lv_if_le (tgt := 42) hx hb d_Na_modulo_16 (by decide) (fun c9 => ?_) (fun c9 => ?_)
    · replace hF := ifp c9 hF
      refine lv_lload_n hx hb d_Na_modulo_42 rfl (lv_at hl 2 rfl) ?_
      refine lv_l2i (v := (L2 : Int64).toInt32) hx hb d_Na_modulo_43 rfl ?_
      replace hF := Option.some.inj hF
      subst hF
      exact zZret (post := (fun (r9 : Int32) (u9 : Unit) => r9 = ((L2 : Int64).toInt32))) (W1 := (fun (u9 : Unit) => [(h0, .inr (9, f0_h0)), (h0_limbs, .inl (tA 0, h0_limbs_n, .inl h0_limbs_c))])) (v := (L2 : Int64).toInt32) hx hb hr rfl hlocks hP hD hS () rfl rfl d_Na_modulo_44
    · replace hF := ifn c9 hF
      refine lv_lload_n hx hb d_Na_modulo_19 rfl (lv_at hl 2 rfl) ?_
      refine lv_bipush (v := 30) hx hb d_Na_modulo_20 (by decide) ?_
      refine lv_lshl (v := ((L2 : Int64) <<< ((30 : Int32).toInt64 &&& 63))) hx hb d_Na_modulo_22 rfl ?_
      refine lv_aload_n hx hb d_Na_modulo_23 rfl (lv_at hl 0 rfl) ?_
      refine va_get (D := D) (ci := 9) (v := .ref h0_limbs) (C := R_Na) (T := T_Na) (N := 2) hx hb hg i_Na hown hK hP 0 rfl rfl 0 (by decide) (hg _ k2_239) (fun _ h9 => h9) q_h0_limbs d_Na_modulo_24 ?_
      refine lv_iload hx hb d_Na_modulo_27 (lv_at hl 3 rfl) ?_
      obtain ⟨h9, hF⟩ := chk_some hF
      refine va_iald hx hb hK hP 1 0 rfl rfl (vp_in_iff.mpr h9) d_Na_modulo_29 ?_
      refine lv_i2l (v := ((h0_limbs_c (l4 : Int32).toNatClampNeg) : Int32).toInt64) hx hb d_Na_modulo_30 rfl ?_
      refine lv_ladd hx hb d_Na_modulo_31 ?_
      refine lv_iload_n hx hb d_Na_modulo_32 rfl (lv_at hl 1 rfl) ?_
      refine lv_i2l (v := (l1 : Int32).toInt64) hx hb d_Na_modulo_33 rfl ?_
      obtain ⟨h9, hF⟩ := chk_some hF
      refine lv_lrem hx hb d_Na_modulo_34 h9 ?_
      refine lv_lstore_n (lv' := [(2, .long ((((L2 : Int64) <<< ((30 : Int32).toInt64 &&& 63)) + ((h0_limbs_c (l4 : Int32).toNatClampNeg) : Int32).toInt64) - (((L2 : Int64) <<< ((30 : Int32).toInt64 &&& 63)) + ((h0_limbs_c (l4 : Int32).toNatClampNeg) : Int32).toInt64) / (l1 : Int32).toInt64 * (l1 : Int32).toInt64)), (0, .ref h0), (1, .int l1), (4, .int l4)]) hx hb d_Na_modulo_35 rfl hl (by decide) rfl (fun ls hl => ?_)
      refine lv_iinc (v := (l4 + Int32.ofInt (-1))) (lv' := [(4, .int (l4 + Int32.ofInt (-1))), (2, .long ((((L2 : Int64) <<< ((30 : Int32).toInt64 &&& 63)) + ((h0_limbs_c (l4 : Int32).toNatClampNeg) : Int32).toInt64) - (((L2 : Int64) <<< ((30 : Int32).toInt64 &&& 63)) + ((h0_limbs_c (l4 : Int32).toNatClampNeg) : Int32).toInt64) / (l1 : Int32).toInt64 * (l1 : Int32).toInt64)), (0, .ref h0), (1, .int l1)]) hx hb d_Na_modulo_36 hl (k := 3) rfl rfl (by decide) rfl (fun ls hl => ?_)
      refine lv_goto (tgt := 10) hx hb d_Na_modulo_39 (by decide) ?_
      exact ih1 ((((L2 : Int64) <<< ((30 : Int32).toInt64 &&& 63)) + ((h0_limbs_c (l4 : Int32).toNatClampNeg) : Int32).toInt64) - (((L2 : Int64) <<< ((30 : Int32).toInt64 &&& 63)) + ((h0_limbs_c (l4 : Int32).toNatClampNeg) : Int32).toInt64) / (l1 : Int32).toInt64 * (l1 : Int32).toInt64) (l4 + Int32.ofInt (-1))   _ _ _ hF q_h0_limbs q_h0_size hP hD hS (lv_sub hl [2, 3, 1, 0] rfl)
set_option maxHeartbeats 4000000 in
set_option maxRecDepth 100000 in
theorem a_Na_modulo {p : Program} {l : Launch} {e : Env} {s : State} {m : MethodId} {args : Array Value} {below : List Frame} {meth : Method} {c : Code} {D : va_G} {tA : Nat → ClassId} {A : Nat → Prop} {h0 h0_limbs : Nat} {f0_h0 : List Value} {h0_limbs_n : Nat} {l1 : Int32} {h0_size : Int32} {h0_limbs_c : Nat → Int32} {out : Int32} (hx : p.tables.exec = Jvm.exec) (hb : c.code = prog_6_method_14_code) (hr : meth.sig.returnType = (Option.some Jvm.ClassFile.FieldType.int)) (hml : c.maxLocals = 5) (hh : zH s) (hg : ∀ w ∈ lw_R, w.before args s = true) (hown : s.vm.findClass "ChanceArena$Natural" = some m.cls) (hlocks : meth.locks = false) (hK : va_K D vwCl (zT tA) s) (hA : ∀ q, s.heap.size ≤ q → A q) : ∀ n : Nat, (∀ (L2 : Int64) (l4 : Int32) (H : Heap) (locs : List Loc) (ls : Array Slot), f_Na_modulo h0_limbs_n l1 h0_size h0_limbs_c n 0 L2 l4 = some out → f0_h0[0]? = some (.ref h0_limbs) → f0_h0[1]? = some (.int h0_size) → va_P D vwCl [(h0, .inr (9, f0_h0)), (h0_limbs, .inl (tA 0, h0_limbs_n, .inl h0_limbs_c))] H → va_D A [(h0, .inr (9, f0_h0)), (h0_limbs, .inl (tA 0, h0_limbs_n, .inl h0_limbs_c))] → va_S A s.heap H locs → lv_has ls 5 [(0, .ref h0), (1, .int l1)] → W p l e { frames := 0, cells := 0, slots := 0, locals := 0 } s m args below meth c H locs 0 0 (MQ below (va_Qi (fun (r9 : Int32) (u9 : Unit) => r9 = out) (zPost D A (fun (u9 : Unit) => [(h0, .inr (9, f0_h0)), (h0_limbs, .inl (tA 0, h0_limbs_n, .inl h0_limbs_c))])) A) args s 0 0 A) (F0 m 0 ls [])) ∧ (∀ (L2 : Int64) (l4 : Int32) (H : Heap) (locs : List Loc) (ls : Array Slot), f_Na_modulo h0_limbs_n l1 h0_size h0_limbs_c n 1 L2 l4 = some out → f0_h0[0]? = some (.ref h0_limbs) → f0_h0[1]? = some (.int h0_size) → va_P D vwCl [(h0, .inr (9, f0_h0)), (h0_limbs, .inl (tA 0, h0_limbs_n, .inl h0_limbs_c))] H → va_D A [(h0, .inr (9, f0_h0)), (h0_limbs, .inl (tA 0, h0_limbs_n, .inl h0_limbs_c))] → va_S A s.heap H locs → lv_has ls 5 [(0, .ref h0), (1, .int l1), (2, .long L2), (4, .int l4)] → W p l e { frames := 0, cells := 0, slots := 0, locals := 0 } s m args below meth c H locs 0 0 (MQ below (va_Qi (fun (r9 : Int32) (u9 : Unit) => r9 = out) (zPost D A (fun (u9 : Unit) => [(h0, .inr (9, f0_h0)), (h0_limbs, .inl (tA 0, h0_limbs_n, .inl h0_limbs_c))])) A) args s 0 0 A) (F0 m 10 ls [])) := by
  intro n
  induction n with
  | zero => exact ⟨(fun _ _ _ _ _ hF => by rw [z_Na_modulo] at hF; cases hF), (fun _ _ _ _ _ hF => by rw [z_Na_modulo] at hF; cases hF)⟩
  | succ n ih =>
    obtain ⟨i0, i1⟩ := ih
    exact ⟨b_Na_modulo_0 hx hb hr hml hh hg hown hlocks hK hA i1, b_Na_modulo_1 hx hb hr hml hh hg hown hlocks hK hA i1⟩
set_option maxHeartbeats 4000000 in
set_option maxRecDepth 100000 in
theorem m_Na_modulo (l : Launch) (D : va_G) (tA : Nat → ClassId) (sz : Nat) (h0 h0_limbs : Nat) (f0_h0 : List Value) (h0_limbs_n : Nat) (l1 : Int32) (h0_size : Int32) (h0_limbs_c : Nat → Int32) (q_h0_limbs : f0_h0[0]? = some (.ref h0_limbs)) (q_h0_size : f0_h0[1]? = some (.int h0_size)) (n : Nat) (out : Int32) (hF : f_Na_modulo h0_limbs_n l1 h0_size h0_limbs_c n 0 0 0 = some out) : zMi l ({ cls := "ChanceArena$Natural", name := "modulo", desc := "(I)I" } : Jvm.MethodName) (zW (Jvm.Cond.code ({ cls := "ChanceArena$Natural", name := "modulo", desc := "(I)I" } : Jvm.MethodName) prog_6_method_14_code (5 : Nat) (Option.some Jvm.ClassFile.FieldType.int))) { frames := 0, cells := 0, slots := 0, locals := 0 } [.ref h0, .int l1] D tA [(h0, .inr (9, f0_h0)), (h0_limbs, .inl (tA 0, h0_limbs_n, .inl h0_limbs_c))] sz (fun (r9 : Int32) (u9 : Unit) => r9 = out) (fun (u9 : Unit) => [(h0, .inr (9, f0_h0)), (h0_limbs, .inl (tA 0, h0_limbs_n, .inl h0_limbs_c))]) 0 0 := by
  refine zOpen (l := l) (y := ({ cls := "ChanceArena$Natural", name := "modulo", desc := "(I)I" } : Jvm.MethodName)) (ws := zW (Jvm.Cond.code ({ cls := "ChanceArena$Natural", name := "modulo", desc := "(I)I" } : Jvm.MethodName) prog_6_method_14_code (5 : Nat) (Option.some Jvm.ClassFile.FieldType.int))) (rm := { frames := 0, cells := 0, slots := 0, locals := 0 }) (av := [.ref h0, .int l1]) (D := D) (tA := tA) (W0 := [(h0, .inr (9, f0_h0)), (h0_limbs, .inl (tA 0, h0_limbs_n, .inl h0_limbs_c))]) (Wm := [(h0, .inr (9, f0_h0)), (h0_limbs, .inl (tA 0, h0_limbs_n, .inl h0_limbs_c))]) (sz := sz) (mc := 0) (ms := 0) (fun A => va_Qi (fun (r9 : Int32) (u9 : Unit) => r9 = out) (zPost D A (fun (u9 : Unit) => [(h0, .inr (9, f0_h0)), (h0_limbs, .inl (tA 0, h0_limbs_n, .inl h0_limbs_c))])) A) (lv := [(0, .ref h0), (1, .int l1)]) (by decide) rfl (Nat.le_of_ble_eq_true rfl) rfl ?_
  intro p e s m below meth c A ls hx hb hr hml hh hg hown hlocks hnm hK hA hP hD0 hAw hS hl
  have hD := zD hD0 hAw
  exact (a_Na_modulo hx hb hr hml hh hg hown hlocks hK hA n).1 0 0   _ _ _ hF q_h0_limbs q_h0_size hP hD hS hl
def f_Pr_add (h0_orders_n : Nat) (h0_operands_n : Nat) (l1 : Int32) (l2 : Int32) (h0_length : Int32) (h0_orders_c : Nat → Int32) (h0_operands_c : Nat → Int32) : Option (Int32 × Int32 × (Nat → Int32) × (Nat → Int32)) := if ((Int32.ofNat h0_orders_n) : Int32) ≤ h0_length then some ((h0_length - 1), h0_length, h0_orders_c, h0_operands_c) else chk (0 ≤ (h0_length : Int32).toInt ∧ (h0_length : Int32).toInt < h0_orders_n) (chk (0 ≤ (h0_length : Int32).toInt ∧ (h0_length : Int32).toInt < h0_operands_n) (some (((h0_length + 1) - 1), (h0_length + 1), upd h0_orders_c (h0_length : Int32).toNatClampNeg l1, upd h0_operands_c (h0_length : Int32).toNatClampNeg l2)))
set_option maxHeartbeats 4000000 in
set_option maxRecDepth 100000 in
theorem b_Pr_add_0 {p : Program} {l : Launch} {e : Env} {s : State} {m : MethodId} {args : Array Value} {below : List Frame} {meth : Method} {c : Code} {D : va_G} {tA : Nat → ClassId} {A : Nat → Prop} {h0 h0_orders h0_operands : Nat} {f0_h0 : List Value} {h0_orders_n : Nat} {h0_operands_n : Nat} {l1 : Int32} {l2 : Int32} {h0_length : Int32} {h0_orders_c : Nat → Int32} {h0_operands_c : Nat → Int32} {out : Int32 × Int32 × (Nat → Int32) × (Nat → Int32)} (hx : p.tables.exec = Jvm.exec) (hb : c.code = prog_7_method_3_code) (hr : meth.sig.returnType = (Option.some Jvm.ClassFile.FieldType.int)) (hml : c.maxLocals = 3) (hh : zH s) (hg : ∀ w ∈ lw_R, w.before args s = true) (hown : s.vm.findClass "ChanceArena$Program" = some m.cls) (hlocks : meth.locks = false) (hK : va_K D vwCl (zT tA) s) (hA : ∀ q, s.heap.size ≤ q → A q)  : ∀ (f_h0 : List Value) (H : Heap) (locs : List Loc) (ls : Array Slot), f_Pr_add h0_orders_n h0_operands_n l1 l2 h0_length h0_orders_c h0_operands_c = some out → f_h0[0]? = some (.ref h0_orders) → f_h0[1]? = some (.ref h0_operands) → f_h0[2]? = some (.int h0_length) → Fr [2] f0_h0 f_h0 → va_P D vwCl [(h0, .inr (5, f_h0)), (h0_orders, .inl (tA 0, h0_orders_n, .inl h0_orders_c)), (h0_operands, .inl (tA 0, h0_operands_n, .inl h0_operands_c))] H → va_D A [(h0, .inr (5, f_h0)), (h0_orders, .inl (tA 0, h0_orders_n, .inl h0_orders_c)), (h0_operands, .inl (tA 0, h0_operands_n, .inl h0_operands_c))] → va_S A s.heap H locs → lv_has ls 3 [(0, .ref h0), (1, .int l1), (2, .int l2)] → W p l e { frames := 0, cells := 0, slots := 0, locals := 0 } s m args below meth c H locs 0 0 (MQ below (va_Qi (fun (r9 : Int32) (u9 : List Value) => r9 = out.1 ∧ Fr [2] f0_h0 u9 ∧ u9[2]? = some (.int out.2.1)) (zPost D A (fun (u9 : List Value) => [(h0, .inr (5, u9)), (h0_orders, .inl (tA 0, h0_orders_n, .inl out.2.2.1)), (h0_operands, .inl (tA 0, h0_operands_n, .inl out.2.2.2))])) A) args s 0 0 A) (F0 m 0 ls []) := by
  intro   f_h0 H locs ls hF q_h0_orders q_h0_operands q_h0_length r_h0 hP hD hS hl
  replace hF : ((if ((Int32.ofNat h0_orders_n) : Int32) ≤ h0_length then some ((h0_length - 1), h0_length, h0_orders_c, h0_operands_c) else chk (0 ≤ (h0_length : Int32).toInt ∧ (h0_length : Int32).toInt < h0_orders_n) (chk (0 ≤ (h0_length : Int32).toInt ∧ (h0_length : Int32).toInt < h0_operands_n) (some (((h0_length + 1) - 1), (h0_length + 1), upd h0_orders_c (h0_length : Int32).toNatClampNeg l1, upd h0_operands_c (h0_length : Int32).toNatClampNeg l2)))) : Option (Int32 × Int32 × (Nat → Int32) × (Nat → Int32))) = some out := hF
  refine lv_aload_n hx hb d_Pr_add_0 rfl (lv_at hl 0 rfl) ?_
  refine va_get (D := D) (ci := 5) (v := .int h0_length) (C := R_Pr) (T := T_Pr) (N := 20) hx hb hg i_Pr hown hK hP 0 rfl rfl 2 (by decide) (hg _ k2_28) (fun _ h9 => h9) q_h0_length d_Pr_add_1 ?_
  refine lv_aload_n hx hb d_Pr_add_4 rfl (lv_at hl 0 rfl) ?_
  refine va_get (D := D) (ci := 5) (v := .ref h0_orders) (C := R_Pr) (T := T_Pr) (N := 20) hx hb hg i_Pr hown hK hP 0 rfl rfl 0 (by decide) (hg _ k2_23) (fun _ h9 => h9) q_h0_orders d_Pr_add_5 ?_
  refine va_alen (v := (Int32.ofNat h0_orders_n)) hx hb hK hP 1 0 rfl rfl rfl d_Pr_add_8 ?_
  refine lv_icmp_ge (tgt := 42) hx hb d_Pr_add_9 (by decide) (fun c9 => ?_) (fun c9 => ?_)
  · replace hF := ifp c9 hF
    refine lv_aload_n hx hb d_Pr_add_42 rfl (lv_at hl 0 rfl) ?_
    refine va_get (D := D) (ci := 5) (v := .int h0_length) (C := R_Pr) (T := T_Pr) (N := 20) hx hb hg i_Pr hown hK hP 0 rfl rfl 2 (by decide) (hg _ k2_28) (fun _ h9 => h9) q_h0_length d_Pr_add_43 ?_
    refine lv_iconst (v := 1) hx hb d_Pr_add_46 (by decide) ?_
    refine lv_isub hx hb d_Pr_add_47 ?_
    replace hF := Option.some.inj hF
    subst hF
    exact zZret (post := (fun (r9 : Int32) (u9 : List Value) => r9 = ((h0_length - 1), h0_length, h0_orders_c, h0_operands_c).1 ∧ Fr [2] f0_h0 u9 ∧ u9[2]? = some (.int (((h0_length - 1), h0_length, h0_orders_c, h0_operands_c).2.1)))) (W1 := (fun (u9 : List Value) => [(h0, .inr (5, u9)), (h0_orders, .inl (tA 0, h0_orders_n, .inl (((h0_length - 1), h0_length, h0_orders_c, h0_operands_c).2.2.1))), (h0_operands, .inl (tA 0, h0_operands_n, .inl (((h0_length - 1), h0_length, h0_orders_c, h0_operands_c).2.2.2)))])) (v := (h0_length - 1)) hx hb hr rfl hlocks hP hD hS (f_h0) ⟨rfl, r_h0, q_h0_length⟩ rfl d_Pr_add_48
  · replace hF := ifn c9 hF
    refine lv_aload_n hx hb d_Pr_add_12 rfl (lv_at hl 0 rfl) ?_
    refine va_get (D := D) (ci := 5) (v := .ref h0_orders) (C := R_Pr) (T := T_Pr) (N := 20) hx hb hg i_Pr hown hK hP 0 rfl rfl 0 (by decide) (hg _ k2_23) (fun _ h9 => h9) q_h0_orders d_Pr_add_13 ?_
    refine lv_aload_n hx hb d_Pr_add_16 rfl (lv_at hl 0 rfl) ?_
    refine va_get (D := D) (ci := 5) (v := .int h0_length) (C := R_Pr) (T := T_Pr) (N := 20) hx hb hg i_Pr hown hK hP 0 rfl rfl 2 (by decide) (hg _ k2_28) (fun _ h9 => h9) q_h0_length d_Pr_add_17 ?_
    refine lv_iload_n hx hb d_Pr_add_20 rfl (lv_at hl 1 rfl) ?_
    obtain ⟨h9, hF⟩ := chk_some hF
    refine va_iast hx hb hK hP hD hS 1 0 rfl rfl (vp_in_iff.mpr h9) d_Pr_add_21 (fun H1 locs1 hP1 hD1 hS1 => ?_)
    clear hP hD hS
    replace hP1 : va_P D vwCl [(h0, .inr (5, f_h0)), (h0_orders, .inl (tA 0, h0_orders_n, .inl (upd h0_orders_c (h0_length : Int32).toNatClampNeg l1))), (h0_operands, .inl (tA 0, h0_operands_n, .inl h0_operands_c))] _ := hP1
    replace hD1 : va_D A [(h0, .inr (5, f_h0)), (h0_orders, .inl (tA 0, h0_orders_n, .inl (upd h0_orders_c (h0_length : Int32).toNatClampNeg l1))), (h0_operands, .inl (tA 0, h0_operands_n, .inl h0_operands_c))] := hD1
    refine lv_aload_n hx hb d_Pr_add_22 rfl (lv_at hl 0 rfl) ?_
    refine va_get (D := D) (ci := 5) (v := .ref h0_operands) (C := R_Pr) (T := T_Pr) (N := 20) hx hb hg i_Pr hown hK hP1 0 rfl rfl 1 (by decide) (hg _ k2_25) (fun _ h9 => h9) q_h0_operands d_Pr_add_23 ?_
    refine lv_aload_n hx hb d_Pr_add_26 rfl (lv_at hl 0 rfl) ?_
    refine va_get (D := D) (ci := 5) (v := .int h0_length) (C := R_Pr) (T := T_Pr) (N := 20) hx hb hg i_Pr hown hK hP1 0 rfl rfl 2 (by decide) (hg _ k2_28) (fun _ h9 => h9) q_h0_length d_Pr_add_27 ?_
    refine lv_iload_n hx hb d_Pr_add_30 rfl (lv_at hl 2 rfl) ?_
    obtain ⟨h9, hF⟩ := chk_some hF
    refine va_iast hx hb hK hP1 hD1 hS1 2 0 rfl rfl (vp_in_iff.mpr h9) d_Pr_add_31 (fun H2 locs2 hP2 hD2 hS2 => ?_)
    clear hP1 hD1 hS1
    replace hP2 : va_P D vwCl [(h0, .inr (5, f_h0)), (h0_orders, .inl (tA 0, h0_orders_n, .inl (upd h0_orders_c (h0_length : Int32).toNatClampNeg l1))), (h0_operands, .inl (tA 0, h0_operands_n, .inl (upd h0_operands_c (h0_length : Int32).toNatClampNeg l2)))] _ := hP2
    replace hD2 : va_D A [(h0, .inr (5, f_h0)), (h0_orders, .inl (tA 0, h0_orders_n, .inl (upd h0_orders_c (h0_length : Int32).toNatClampNeg l1))), (h0_operands, .inl (tA 0, h0_operands_n, .inl (upd h0_operands_c (h0_length : Int32).toNatClampNeg l2)))] := hD2
    refine lv_aload_n hx hb d_Pr_add_32 rfl (lv_at hl 0 rfl) ?_
    refine lv_dup hx hb d_Pr_add_33 rfl ?_
    refine va_get (D := D) (ci := 5) (v := .int h0_length) (C := R_Pr) (T := T_Pr) (N := 20) hx hb hg i_Pr hown hK hP2 0 rfl rfl 2 (by decide) (hg _ k2_28) (fun _ h9 => h9) q_h0_length d_Pr_add_34 ?_
    refine lv_iconst (v := 1) hx hb d_Pr_add_37 (by decide) ?_
    refine lv_iadd hx hb d_Pr_add_38 ?_
    refine va_put (D := D) (ci := 5) (v := .int (h0_length + 1)) (ty := .int) (C := R_Pr) (T := T_Pr) (N := 20) hx hb hg i_Pr t_Pr o_Pr n_Pr hown hK hP2 hD2 hS2 0 rfl rfl 2 (by decide) (hg _ k2_28) (fun _ h9 => h9) rfl (by decide +kernel) rfl rfl (zLen q_h0_length) d_Pr_add_39 (fun H3 locs3 hP3 hD3 hS3 => ?_)
    clear hP2 hD2 hS2
    replace hP3 : va_P D vwCl [(h0, .inr (5, f_h0.set 2 (.int (h0_length + 1)))), (h0_orders, .inl (tA 0, h0_orders_n, .inl (upd h0_orders_c (h0_length : Int32).toNatClampNeg l1))), (h0_operands, .inl (tA 0, h0_operands_n, .inl (upd h0_operands_c (h0_length : Int32).toNatClampNeg l2)))] _ := hP3
    replace hD3 : va_D A [(h0, .inr (5, f_h0.set 2 (.int (h0_length + 1)))), (h0_orders, .inl (tA 0, h0_orders_n, .inl (upd h0_orders_c (h0_length : Int32).toNatClampNeg l1))), (h0_operands, .inl (tA 0, h0_operands_n, .inl (upd h0_operands_c (h0_length : Int32).toNatClampNeg l2)))] := hD3
    refine lv_aload_n hx hb d_Pr_add_42 rfl (lv_at hl 0 rfl) ?_
    refine va_get (D := D) (ci := 5) (v := .int (h0_length + 1)) (C := R_Pr) (T := T_Pr) (N := 20) hx hb hg i_Pr hown hK hP3 0 rfl rfl 2 (by decide) (hg _ k2_28) (fun _ h9 => h9) (zSetS q_h0_length) d_Pr_add_43 ?_
    refine lv_iconst (v := 1) hx hb d_Pr_add_46 (by decide) ?_
    refine lv_isub hx hb d_Pr_add_47 ?_
    replace hF := Option.some.inj hF
    subst hF
    exact zZret (post := (fun (r9 : Int32) (u9 : List Value) => r9 = (((h0_length + 1) - 1), (h0_length + 1), upd h0_orders_c (h0_length : Int32).toNatClampNeg l1, upd h0_operands_c (h0_length : Int32).toNatClampNeg l2).1 ∧ Fr [2] f0_h0 u9 ∧ u9[2]? = some (.int ((((h0_length + 1) - 1), (h0_length + 1), upd h0_orders_c (h0_length : Int32).toNatClampNeg l1, upd h0_operands_c (h0_length : Int32).toNatClampNeg l2).2.1)))) (W1 := (fun (u9 : List Value) => [(h0, .inr (5, u9)), (h0_orders, .inl (tA 0, h0_orders_n, .inl ((((h0_length + 1) - 1), (h0_length + 1), upd h0_orders_c (h0_length : Int32).toNatClampNeg l1, upd h0_operands_c (h0_length : Int32).toNatClampNeg l2).2.2.1))), (h0_operands, .inl (tA 0, h0_operands_n, .inl ((((h0_length + 1) - 1), (h0_length + 1), upd h0_orders_c (h0_length : Int32).toNatClampNeg l1, upd h0_operands_c (h0_length : Int32).toNatClampNeg l2).2.2.2)))])) (v := ((h0_length + 1) - 1)) hx hb hr rfl hlocks hP3 hD3 hS3 (f_h0.set 2 (.int (h0_length + 1))) ⟨rfl, (Fr.set r_h0 (by decide)), (zSetS q_h0_length)⟩ rfl d_Pr_add_48
set_option maxHeartbeats 4000000 in
set_option maxRecDepth 100000 in
theorem m_Pr_add (l : Launch) (D : va_G) (tA : Nat → ClassId) (sz : Nat) (h0 h0_orders h0_operands : Nat) (f0_h0 : List Value) (h0_orders_n : Nat) (h0_operands_n : Nat) (l1 : Int32) (l2 : Int32) (h0_length : Int32) (h0_orders_c : Nat → Int32) (h0_operands_c : Nat → Int32) (q_h0_orders : f0_h0[0]? = some (.ref h0_orders)) (q_h0_operands : f0_h0[1]? = some (.ref h0_operands)) (q_h0_length : f0_h0[2]? = some (.int h0_length)) (out : Int32 × Int32 × (Nat → Int32) × (Nat → Int32)) (hF : f_Pr_add h0_orders_n h0_operands_n l1 l2 h0_length h0_orders_c h0_operands_c = some out) : zMi l ({ cls := "ChanceArena$Program", name := "add", desc := "(II)I" } : Jvm.MethodName) (zW (Jvm.Cond.code ({ cls := "ChanceArena$Program", name := "add", desc := "(II)I" } : Jvm.MethodName) prog_7_method_3_code (3 : Nat) (Option.some Jvm.ClassFile.FieldType.int))) { frames := 0, cells := 0, slots := 0, locals := 0 } [.ref h0, .int l1, .int l2] D tA [(h0, .inr (5, f0_h0)), (h0_orders, .inl (tA 0, h0_orders_n, .inl h0_orders_c)), (h0_operands, .inl (tA 0, h0_operands_n, .inl h0_operands_c))] sz (fun (r9 : Int32) (u9 : List Value) => r9 = out.1 ∧ Fr [2] f0_h0 u9 ∧ u9[2]? = some (.int out.2.1)) (fun (u9 : List Value) => [(h0, .inr (5, u9)), (h0_orders, .inl (tA 0, h0_orders_n, .inl out.2.2.1)), (h0_operands, .inl (tA 0, h0_operands_n, .inl out.2.2.2))]) 0 0 := by
  refine zOpen (l := l) (y := ({ cls := "ChanceArena$Program", name := "add", desc := "(II)I" } : Jvm.MethodName)) (ws := zW (Jvm.Cond.code ({ cls := "ChanceArena$Program", name := "add", desc := "(II)I" } : Jvm.MethodName) prog_7_method_3_code (3 : Nat) (Option.some Jvm.ClassFile.FieldType.int))) (rm := { frames := 0, cells := 0, slots := 0, locals := 0 }) (av := [.ref h0, .int l1, .int l2]) (D := D) (tA := tA) (W0 := [(h0, .inr (5, f0_h0)), (h0_orders, .inl (tA 0, h0_orders_n, .inl h0_orders_c)), (h0_operands, .inl (tA 0, h0_operands_n, .inl h0_operands_c))]) (Wm := [(h0, .inr (5, f0_h0)), (h0_orders, .inl (tA 0, h0_orders_n, .inl h0_orders_c)), (h0_operands, .inl (tA 0, h0_operands_n, .inl h0_operands_c))]) (sz := sz) (mc := 0) (ms := 0) (fun A => va_Qi (fun (r9 : Int32) (u9 : List Value) => r9 = out.1 ∧ Fr [2] f0_h0 u9 ∧ u9[2]? = some (.int out.2.1)) (zPost D A (fun (u9 : List Value) => [(h0, .inr (5, u9)), (h0_orders, .inl (tA 0, h0_orders_n, .inl out.2.2.1)), (h0_operands, .inl (tA 0, h0_operands_n, .inl out.2.2.2))])) A) (lv := [(0, .ref h0), (1, .int l1), (2, .int l2)]) (by decide) rfl (Nat.le_of_ble_eq_true rfl) rfl ?_
  intro p e s m below meth c A ls hx hb hr hml hh hg hown hlocks hnm hK hA hP hD0 hAw hS hl
  have hD := zD hD0 hAw
  exact b_Pr_add_0 hx hb hr hml hh hg hown hlocks hK hA   f0_h0 _ _ _ hF q_h0_orders q_h0_operands q_h0_length Fr.rfl hP hD hS hl
def f_Re_swapRows (h0_work_n : Nat) (l1 : Int32) (l2 : Int32) : Nat → Nat → (Nat → Int32) → Int32 → Option ((Nat → Int32))
  | 0, _, _, _ => none
  | n + 1, 0, h0_work_c, l3 => chk True (f_Re_swapRows h0_work_n l1 l2 n 1 h0_work_c 0)
  | n + 1, 1, h0_work_c, l3 => if (41 : Int32) ≤ l3 then some (h0_work_c) else chk (0 ≤ ((l1 + l3) : Int32).toInt ∧ ((l1 + l3) : Int32).toInt < h0_work_n) (chk (0 ≤ ((l2 + l3) : Int32).toInt ∧ ((l2 + l3) : Int32).toInt < h0_work_n) (chk (0 ≤ ((l1 + l3) : Int32).toInt ∧ ((l1 + l3) : Int32).toInt < h0_work_n) (chk (0 ≤ ((l2 + l3) : Int32).toInt ∧ ((l2 + l3) : Int32).toInt < h0_work_n) (f_Re_swapRows h0_work_n l1 l2 n 1 (upd (upd h0_work_c ((l1 + l3) : Int32).toNatClampNeg (h0_work_c ((l2 + l3) : Int32).toNatClampNeg)) ((l2 + l3) : Int32).toNatClampNeg (h0_work_c ((l1 + l3) : Int32).toNatClampNeg)) (l3 + Int32.ofInt 1)))))
  | _ + 1, _ + 2, _, _ => none
theorem e_Re_swapRows_0 (h0_work_n : Nat) (l1 : Int32) (l2 : Int32) (n : Nat) (h0_work_c : Nat → Int32) (l3 : Int32) : f_Re_swapRows h0_work_n l1 l2 (n + 1) 0 h0_work_c l3 = chk True (f_Re_swapRows h0_work_n l1 l2 n 1 h0_work_c 0) := by rw [f_Re_swapRows]
theorem e_Re_swapRows_1 (h0_work_n : Nat) (l1 : Int32) (l2 : Int32) (n : Nat) (h0_work_c : Nat → Int32) (l3 : Int32) : f_Re_swapRows h0_work_n l1 l2 (n + 1) 1 h0_work_c l3 = if (41 : Int32) ≤ l3 then some (h0_work_c) else chk (0 ≤ ((l1 + l3) : Int32).toInt ∧ ((l1 + l3) : Int32).toInt < h0_work_n) (chk (0 ≤ ((l2 + l3) : Int32).toInt ∧ ((l2 + l3) : Int32).toInt < h0_work_n) (chk (0 ≤ ((l1 + l3) : Int32).toInt ∧ ((l1 + l3) : Int32).toInt < h0_work_n) (chk (0 ≤ ((l2 + l3) : Int32).toInt ∧ ((l2 + l3) : Int32).toInt < h0_work_n) (f_Re_swapRows h0_work_n l1 l2 n 1 (upd (upd h0_work_c ((l1 + l3) : Int32).toNatClampNeg (h0_work_c ((l2 + l3) : Int32).toNatClampNeg)) ((l2 + l3) : Int32).toNatClampNeg (h0_work_c ((l1 + l3) : Int32).toNatClampNeg)) (l3 + Int32.ofInt 1))))) := by rw [f_Re_swapRows]
theorem z_Re_swapRows (h0_work_n : Nat) (l1 : Int32) (l2 : Int32) (h : Nat) (h0_work_c : Nat → Int32) (l3 : Int32) : f_Re_swapRows h0_work_n l1 l2 0 h h0_work_c l3 = none := by rw [f_Re_swapRows]
set_option maxHeartbeats 4000000 in
set_option maxRecDepth 100000 in
theorem b_Re_swapRows_0 {p : Program} {l : Launch} {e : Env} {s : State} {m : MethodId} {args : Array Value} {below : List Frame} {meth : Method} {c : Code} {D : va_G} {tA : Nat → ClassId} {A : Nat → Prop} {h0 h0_work : Nat} {f0_h0 : List Value} {h0_work_n : Nat} {l1 : Int32} {l2 : Int32} {out : (Nat → Int32)} (hx : p.tables.exec = Jvm.exec) (hb : c.code = prog_8_method_4_code) (hr : meth.sig.returnType = (Option.none : Option Jvm.ClassFile.FieldType)) (hml : c.maxLocals = 5) (hh : zH s) (hg : ∀ w ∈ lw_R, w.before args s = true) (hown : s.vm.findClass "ChanceArena$Residues" = some m.cls) (hlocks : meth.locks = false) (hK : va_K D vwCl (zT tA) s) (hA : ∀ q, s.heap.size ≤ q → A q) {n : Nat} (ih1 : ∀ (h0_work_c : Nat → Int32) (l3 : Int32) (H : Heap) (locs : List Loc) (ls : Array Slot), f_Re_swapRows h0_work_n l1 l2 n 1 h0_work_c l3 = some out → f0_h0[2]? = some (.ref h0_work) → va_P D vwCl [(h0, .inr (11, f0_h0)), (h0_work, .inl (tA 0, h0_work_n, .inl h0_work_c))] H → va_D A [(h0, .inr (11, f0_h0)), (h0_work, .inl (tA 0, h0_work_n, .inl h0_work_c))] → va_S A s.heap H locs → lv_has ls 5 [(0, .ref h0), (1, .int l1), (2, .int l2), (3, .int l3)] → W p l e { frames := 0, cells := 0, slots := 0, locals := 0 } s m args below meth c H locs 0 0 (MQ below (va_Qv (fun (u9 : Unit) => True) (zPost D A (fun (u9 : Unit) => [(h0, .inr (11, f0_h0)), (h0_work, .inl (tA 0, h0_work_n, .inl out))])) A) args s 0 0 A) (F0 m 2 ls [])) : ∀ (h0_work_c : Nat → Int32) (l3 : Int32) (H : Heap) (locs : List Loc) (ls : Array Slot), f_Re_swapRows h0_work_n l1 l2 (n + 1) 0 h0_work_c l3 = some out → f0_h0[2]? = some (.ref h0_work) → va_P D vwCl [(h0, .inr (11, f0_h0)), (h0_work, .inl (tA 0, h0_work_n, .inl h0_work_c))] H → va_D A [(h0, .inr (11, f0_h0)), (h0_work, .inl (tA 0, h0_work_n, .inl h0_work_c))] → va_S A s.heap H locs → lv_has ls 5 [(0, .ref h0), (1, .int l1), (2, .int l2)] → W p l e { frames := 0, cells := 0, slots := 0, locals := 0 } s m args below meth c H locs 0 0 (MQ below (va_Qv (fun (u9 : Unit) => True) (zPost D A (fun (u9 : Unit) => [(h0, .inr (11, f0_h0)), (h0_work, .inl (tA 0, h0_work_n, .inl out))])) A) args s 0 0 A) (F0 m 0 ls []) := by
  intro h0_work_c l3   H locs ls hF q_h0_work hP hD hS hl
  rw [e_Re_swapRows_0] at hF
  obtain ⟨_, hF⟩ := chk_some hF
  refine lv_iconst (v := 0) hx hb d_Re_swapRows_0 (by decide) ?_
  refine lv_istore_n (lv' := [(3, .int 0), (0, .ref h0), (1, .int l1), (2, .int l2)]) hx hb d_Re_swapRows_1 rfl hl (by decide) rfl (fun ls hl => ?_)
  exact ih1 h0_work_c 0   _ _ _ hF q_h0_work hP hD hS (lv_sub hl [1, 2, 3, 0] rfl)
set_option maxHeartbeats 4000000 in
set_option maxRecDepth 100000 in
theorem b_Re_swapRows_1 {p : Program} {l : Launch} {e : Env} {s : State} {m : MethodId} {args : Array Value} {below : List Frame} {meth : Method} {c : Code} {D : va_G} {tA : Nat → ClassId} {A : Nat → Prop} {h0 h0_work : Nat} {f0_h0 : List Value} {h0_work_n : Nat} {l1 : Int32} {l2 : Int32} {out : (Nat → Int32)} (hx : p.tables.exec = Jvm.exec) (hb : c.code = prog_8_method_4_code) (hr : meth.sig.returnType = (Option.none : Option Jvm.ClassFile.FieldType)) (hml : c.maxLocals = 5) (hh : zH s) (hg : ∀ w ∈ lw_R, w.before args s = true) (hown : s.vm.findClass "ChanceArena$Residues" = some m.cls) (hlocks : meth.locks = false) (hK : va_K D vwCl (zT tA) s) (hA : ∀ q, s.heap.size ≤ q → A q) {n : Nat} (ih1 : ∀ (h0_work_c : Nat → Int32) (l3 : Int32) (H : Heap) (locs : List Loc) (ls : Array Slot), f_Re_swapRows h0_work_n l1 l2 n 1 h0_work_c l3 = some out → f0_h0[2]? = some (.ref h0_work) → va_P D vwCl [(h0, .inr (11, f0_h0)), (h0_work, .inl (tA 0, h0_work_n, .inl h0_work_c))] H → va_D A [(h0, .inr (11, f0_h0)), (h0_work, .inl (tA 0, h0_work_n, .inl h0_work_c))] → va_S A s.heap H locs → lv_has ls 5 [(0, .ref h0), (1, .int l1), (2, .int l2), (3, .int l3)] → W p l e { frames := 0, cells := 0, slots := 0, locals := 0 } s m args below meth c H locs 0 0 (MQ below (va_Qv (fun (u9 : Unit) => True) (zPost D A (fun (u9 : Unit) => [(h0, .inr (11, f0_h0)), (h0_work, .inl (tA 0, h0_work_n, .inl out))])) A) args s 0 0 A) (F0 m 2 ls [])) : ∀ (h0_work_c : Nat → Int32) (l3 : Int32) (H : Heap) (locs : List Loc) (ls : Array Slot), f_Re_swapRows h0_work_n l1 l2 (n + 1) 1 h0_work_c l3 = some out → f0_h0[2]? = some (.ref h0_work) → va_P D vwCl [(h0, .inr (11, f0_h0)), (h0_work, .inl (tA 0, h0_work_n, .inl h0_work_c))] H → va_D A [(h0, .inr (11, f0_h0)), (h0_work, .inl (tA 0, h0_work_n, .inl h0_work_c))] → va_S A s.heap H locs → lv_has ls 5 [(0, .ref h0), (1, .int l1), (2, .int l2), (3, .int l3)] → W p l e { frames := 0, cells := 0, slots := 0, locals := 0 } s m args below meth c H locs 0 0 (MQ below (va_Qv (fun (u9 : Unit) => True) (zPost D A (fun (u9 : Unit) => [(h0, .inr (11, f0_h0)), (h0_work, .inl (tA 0, h0_work_n, .inl out))])) A) args s 0 0 A) (F0 m 2 ls []) := by
  intro h0_work_c l3   H locs ls hF q_h0_work hP hD hS hl
  rw [e_Re_swapRows_1] at hF
  refine lv_iload_n hx hb d_Re_swapRows_2 rfl (lv_at hl 3 rfl) ?_
  refine lv_bipush (v := 41) hx hb d_Re_swapRows_3 (by decide) ?_
  refine lv_icmp_ge (tgt := 50) hx hb d_Re_swapRows_5 (by decide) (fun c9 => ?_) (fun c9 => ?_)
  · replace hF := ifp c9 hF
    replace hF := Option.some.inj hF
    subst hF
    exact zVret (post := (fun (u9 : Unit) => True)) (W1 := (fun (u9 : Unit) => [(h0, .inr (11, f0_h0)), (h0_work, .inl (tA 0, h0_work_n, .inl (h0_work_c)))])) hx hb hr hlocks hP hD hS () trivial rfl d_Re_swapRows_50
  · replace hF := ifn c9 hF
    refine lv_aload_n hx hb d_Re_swapRows_8 rfl (lv_at hl 0 rfl) ?_
    refine va_get (D := D) (ci := 11) (v := .ref h0_work) (C := R_Re) (T := T_Re) (N := 7) hx hb hg i_Re hown hK hP 0 rfl rfl 2 (by decide) (hg _ k3_83) (fun _ h9 => h9) q_h0_work d_Re_swapRows_9 ?_
    refine lv_iload_n hx hb d_Re_swapRows_12 rfl (lv_at hl 1 rfl) ?_
    refine lv_iload_n hx hb d_Re_swapRows_13 rfl (lv_at hl 3 rfl) ?_
    refine lv_iadd hx hb d_Re_swapRows_14 ?_
    obtain ⟨h9, hF⟩ := chk_some hF
    refine va_iald hx hb hK hP 1 0 rfl rfl (vp_in_iff.mpr h9) d_Re_swapRows_15 ?_
    refine lv_istore (lv' := [(4, .int (h0_work_c ((l1 + l3) : Int32).toNatClampNeg)), (0, .ref h0), (1, .int l1), (2, .int l2), (3, .int l3)]) hx hb d_Re_swapRows_16 hl (by decide) rfl (fun ls hl => ?_)
    refine lv_aload_n hx hb d_Re_swapRows_18 rfl (lv_at hl 1 rfl) ?_
    refine va_get (D := D) (ci := 11) (v := .ref h0_work) (C := R_Re) (T := T_Re) (N := 7) hx hb hg i_Re hown hK hP 0 rfl rfl 2 (by decide) (hg _ k3_83) (fun _ h9 => h9) q_h0_work d_Re_swapRows_19 ?_
    refine lv_iload_n hx hb d_Re_swapRows_22 rfl (lv_at hl 2 rfl) ?_
    refine lv_iload_n hx hb d_Re_swapRows_23 rfl (lv_at hl 4 rfl) ?_
    refine lv_iadd hx hb d_Re_swapRows_24 ?_
    refine lv_aload_n hx hb d_Re_swapRows_25 rfl (lv_at hl 1 rfl) ?_
    refine va_get (D := D) (ci := 11) (v := .ref h0_work) (C := R_Re) (T := T_Re) (N := 7) hx hb hg i_Re hown hK hP 0 rfl rfl 2 (by decide) (hg _ k3_83) (fun _ h9 => h9) q_h0_work d_Re_swapRows_26 ?_
    refine lv_iload_n hx hb d_Re_swapRows_29 rfl (lv_at hl 3 rfl) ?_
    refine lv_iload_n hx hb d_Re_swapRows_30 rfl (lv_at hl 4 rfl) ?_
    refine lv_iadd hx hb d_Re_swapRows_31 ?_
    obtain ⟨h9, hF⟩ := chk_some hF
    refine va_iald hx hb hK hP 1 0 rfl rfl (vp_in_iff.mpr h9) d_Re_swapRows_32 ?_
    obtain ⟨h9, hF⟩ := chk_some hF
    refine va_iast hx hb hK hP hD hS 1 0 rfl rfl (vp_in_iff.mpr h9) d_Re_swapRows_33 (fun H1 locs1 hP1 hD1 hS1 => ?_)
    clear hP hD hS
    replace hP1 : va_P D vwCl [(h0, .inr (11, f0_h0)), (h0_work, .inl (tA 0, h0_work_n, .inl (upd h0_work_c ((l1 + l3) : Int32).toNatClampNeg (h0_work_c ((l2 + l3) : Int32).toNatClampNeg))))] _ := hP1
    replace hD1 : va_D A [(h0, .inr (11, f0_h0)), (h0_work, .inl (tA 0, h0_work_n, .inl (upd h0_work_c ((l1 + l3) : Int32).toNatClampNeg (h0_work_c ((l2 + l3) : Int32).toNatClampNeg))))] := hD1
    refine lv_aload_n hx hb d_Re_swapRows_34 rfl (lv_at hl 1 rfl) ?_
    refine va_get (D := D) (ci := 11) (v := .ref h0_work) (C := R_Re) (T := T_Re) (N := 7) hx hb hg i_Re hown hK hP1 0 rfl rfl 2 (by decide) (hg _ k3_83) (fun _ h9 => h9) q_h0_work d_Re_swapRows_35 ?_
    refine lv_iload_n hx hb d_Re_swapRows_38 rfl (lv_at hl 3 rfl) ?_
    refine lv_iload_n hx hb d_Re_swapRows_39 rfl (lv_at hl 4 rfl) ?_
    refine lv_iadd hx hb d_Re_swapRows_40 ?_
    refine lv_iload hx hb d_Re_swapRows_41 (lv_at hl 0 rfl) ?_
    obtain ⟨h9, hF⟩ := chk_some hF
    refine va_iast hx hb hK hP1 hD1 hS1 1 0 rfl rfl (vp_in_iff.mpr h9) d_Re_swapRows_43 (fun H2 locs2 hP2 hD2 hS2 => ?_)
    clear hP1 hD1 hS1
    replace hP2 : va_P D vwCl [(h0, .inr (11, f0_h0)), (h0_work, .inl (tA 0, h0_work_n, .inl (upd (upd h0_work_c ((l1 + l3) : Int32).toNatClampNeg (h0_work_c ((l2 + l3) : Int32).toNatClampNeg)) ((l2 + l3) : Int32).toNatClampNeg (h0_work_c ((l1 + l3) : Int32).toNatClampNeg))))] _ := hP2
    replace hD2 : va_D A [(h0, .inr (11, f0_h0)), (h0_work, .inl (tA 0, h0_work_n, .inl (upd (upd h0_work_c ((l1 + l3) : Int32).toNatClampNeg (h0_work_c ((l2 + l3) : Int32).toNatClampNeg)) ((l2 + l3) : Int32).toNatClampNeg (h0_work_c ((l1 + l3) : Int32).toNatClampNeg))))] := hD2
    refine lv_iinc (v := (l3 + Int32.ofInt 1)) (lv' := [(3, .int (l3 + Int32.ofInt 1)), (4, .int (h0_work_c ((l1 + l3) : Int32).toNatClampNeg)), (0, .ref h0), (1, .int l1), (2, .int l2)]) hx hb d_Re_swapRows_44 hl (k := 4) rfl rfl (by decide) rfl (fun ls hl => ?_)
    refine lv_goto (tgt := 2) hx hb d_Re_swapRows_47 (by decide) ?_
    exact ih1 (upd (upd h0_work_c ((l1 + l3) : Int32).toNatClampNeg (h0_work_c ((l2 + l3) : Int32).toNatClampNeg)) ((l2 + l3) : Int32).toNatClampNeg (h0_work_c ((l1 + l3) : Int32).toNatClampNeg)) (l3 + Int32.ofInt 1)   _ _ _ hF q_h0_work hP2 hD2 hS2 (lv_sub hl [2, 3, 4, 0] rfl)
set_option maxHeartbeats 4000000 in
set_option maxRecDepth 100000 in
theorem a_Re_swapRows {p : Program} {l : Launch} {e : Env} {s : State} {m : MethodId} {args : Array Value} {below : List Frame} {meth : Method} {c : Code} {D : va_G} {tA : Nat → ClassId} {A : Nat → Prop} {h0 h0_work : Nat} {f0_h0 : List Value} {h0_work_n : Nat} {l1 : Int32} {l2 : Int32} {out : (Nat → Int32)} (hx : p.tables.exec = Jvm.exec) (hb : c.code = prog_8_method_4_code) (hr : meth.sig.returnType = (Option.none : Option Jvm.ClassFile.FieldType)) (hml : c.maxLocals = 5) (hh : zH s) (hg : ∀ w ∈ lw_R, w.before args s = true) (hown : s.vm.findClass "ChanceArena$Residues" = some m.cls) (hlocks : meth.locks = false) (hK : va_K D vwCl (zT tA) s) (hA : ∀ q, s.heap.size ≤ q → A q) : ∀ n : Nat, (∀ (h0_work_c : Nat → Int32) (l3 : Int32) (H : Heap) (locs : List Loc) (ls : Array Slot), f_Re_swapRows h0_work_n l1 l2 n 0 h0_work_c l3 = some out → f0_h0[2]? = some (.ref h0_work) → va_P D vwCl [(h0, .inr (11, f0_h0)), (h0_work, .inl (tA 0, h0_work_n, .inl h0_work_c))] H → va_D A [(h0, .inr (11, f0_h0)), (h0_work, .inl (tA 0, h0_work_n, .inl h0_work_c))] → va_S A s.heap H locs → lv_has ls 5 [(0, .ref h0), (1, .int l1), (2, .int l2)] → W p l e { frames := 0, cells := 0, slots := 0, locals := 0 } s m args below meth c H locs 0 0 (MQ below (va_Qv (fun (u9 : Unit) => True) (zPost D A (fun (u9 : Unit) => [(h0, .inr (11, f0_h0)), (h0_work, .inl (tA 0, h0_work_n, .inl out))])) A) args s 0 0 A) (F0 m 0 ls [])) ∧ (∀ (h0_work_c : Nat → Int32) (l3 : Int32) (H : Heap) (locs : List Loc) (ls : Array Slot), f_Re_swapRows h0_work_n l1 l2 n 1 h0_work_c l3 = some out → f0_h0[2]? = some (.ref h0_work) → va_P D vwCl [(h0, .inr (11, f0_h0)), (h0_work, .inl (tA 0, h0_work_n, .inl h0_work_c))] H → va_D A [(h0, .inr (11, f0_h0)), (h0_work, .inl (tA 0, h0_work_n, .inl h0_work_c))] → va_S A s.heap H locs → lv_has ls 5 [(0, .ref h0), (1, .int l1), (2, .int l2), (3, .int l3)] → W p l e { frames := 0, cells := 0, slots := 0, locals := 0 } s m args below meth c H locs 0 0 (MQ below (va_Qv (fun (u9 : Unit) => True) (zPost D A (fun (u9 : Unit) => [(h0, .inr (11, f0_h0)), (h0_work, .inl (tA 0, h0_work_n, .inl out))])) A) args s 0 0 A) (F0 m 2 ls [])) := by
  intro n
  induction n with
  | zero => exact ⟨(fun _ _ _ _ _ hF => by rw [z_Re_swapRows] at hF; cases hF), (fun _ _ _ _ _ hF => by rw [z_Re_swapRows] at hF; cases hF)⟩
  | succ n ih =>
    obtain ⟨i0, i1⟩ := ih
    exact ⟨b_Re_swapRows_0 hx hb hr hml hh hg hown hlocks hK hA i1, b_Re_swapRows_1 hx hb hr hml hh hg hown hlocks hK hA i1⟩
set_option maxHeartbeats 4000000 in
set_option maxRecDepth 100000 in
theorem m_Re_swapRows (l : Launch) (D : va_G) (tA : Nat → ClassId) (sz : Nat) (h0 h0_work : Nat) (f0_h0 : List Value) (h0_work_n : Nat) (l1 : Int32) (l2 : Int32) (h0_work_c : Nat → Int32) (q_h0_work : f0_h0[2]? = some (.ref h0_work)) (n : Nat) (out : (Nat → Int32)) (hF : f_Re_swapRows h0_work_n l1 l2 n 0 h0_work_c 0 = some out) : zMv l ({ cls := "ChanceArena$Residues", name := "swapRows", desc := "(II)V" } : Jvm.MethodName) (zW (Jvm.Cond.code ({ cls := "ChanceArena$Residues", name := "swapRows", desc := "(II)V" } : Jvm.MethodName) prog_8_method_4_code (5 : Nat) (Option.none : Option Jvm.ClassFile.FieldType))) { frames := 0, cells := 0, slots := 0, locals := 0 } [.ref h0, .int l1, .int l2] D tA [(h0, .inr (11, f0_h0)), (h0_work, .inl (tA 0, h0_work_n, .inl h0_work_c))] sz (fun (u9 : Unit) => True) (fun (u9 : Unit) => [(h0, .inr (11, f0_h0)), (h0_work, .inl (tA 0, h0_work_n, .inl out))]) 0 0 := by
  refine zOpen (l := l) (y := ({ cls := "ChanceArena$Residues", name := "swapRows", desc := "(II)V" } : Jvm.MethodName)) (ws := zW (Jvm.Cond.code ({ cls := "ChanceArena$Residues", name := "swapRows", desc := "(II)V" } : Jvm.MethodName) prog_8_method_4_code (5 : Nat) (Option.none : Option Jvm.ClassFile.FieldType))) (rm := { frames := 0, cells := 0, slots := 0, locals := 0 }) (av := [.ref h0, .int l1, .int l2]) (D := D) (tA := tA) (W0 := [(h0, .inr (11, f0_h0)), (h0_work, .inl (tA 0, h0_work_n, .inl h0_work_c))]) (Wm := [(h0, .inr (11, f0_h0)), (h0_work, .inl (tA 0, h0_work_n, .inl h0_work_c))]) (sz := sz) (mc := 0) (ms := 0) (fun A => va_Qv (fun (u9 : Unit) => True) (zPost D A (fun (u9 : Unit) => [(h0, .inr (11, f0_h0)), (h0_work, .inl (tA 0, h0_work_n, .inl out))])) A) (lv := [(0, .ref h0), (1, .int l1), (2, .int l2)]) (by decide) rfl (Nat.le_of_ble_eq_true rfl) rfl ?_
  intro p e s m below meth c A ls hx hb hr hml hh hg hown hlocks hnm hK hA hP hD0 hAw hS hl
  have hD := zD hD0 hAw
  exact (a_Re_swapRows hx hb hr hml hh hg hown hlocks hK hA n).1 h0_work_c 0   _ _ _ hF q_h0_work hP hD hS hl
