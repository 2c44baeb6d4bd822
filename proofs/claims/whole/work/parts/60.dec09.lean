theorem k9_2 : (Jvm.Cond.fieldLinkNest "ChanceArenaModel" (447 : Nat) "ChanceArenaModel$Game" "rules" "I" "ChanceArenaModel") ∈ lw_R := zR (zk_9 _ (List.mem_of_getElem? (i := 2) (by decide +kernel))) rfl
theorem k9_14 : (Jvm.Cond.fieldLinkNest "ChanceArenaModel" (456 : Nat) "ChanceArenaModel$Game" "vars" "I" "ChanceArenaModel") ∈ lw_R := zR (zk_9 _ (List.mem_of_getElem? (i := 14) (by decide +kernel))) rfl
theorem k9_26 : (Jvm.Cond.fieldLinkNest "ChanceArenaModel" (474 : Nat) "ChanceArenaModel$Game" "commands" "I" "ChanceArenaModel") ∈ lw_R := zR (zk_9 _ (List.mem_of_getElem? (i := 26) (by decide +kernel))) rfl
theorem k12_9 : (Jvm.Cond.code ({ cls := "ChanceArenaModel", name := "initOf", desc := "(II)I" } : Jvm.MethodName) prog_15_method_68_code (4 : Nat) (Option.some Jvm.ClassFile.FieldType.int)) ∈ lw_R := zR (zk_12 _ (List.mem_of_getElem? (i := 9) (by decide +kernel))) rfl
theorem k12_37 : (Jvm.Cond.code ({ cls := "ChanceArenaModel", name := "closeOf", desc := "(I)I" } : Jvm.MethodName) prog_15_method_64_code (4 : Nat) (Option.some Jvm.ClassFile.FieldType.int)) ∈ lw_R := zR (zk_12 _ (List.mem_of_getElem? (i := 37) (by decide +kernel))) rfl
theorem k12_61 : (Jvm.Cond.code ({ cls := "ChanceArenaModel", name := "enter", desc := "(I)V" } : Jvm.MethodName) prog_15_method_78_code (3 : Nat) (Option.none : Option Jvm.ClassFile.FieldType)) ∈ lw_R := zR (zk_12 _ (List.mem_of_getElem? (i := 61) (by decide +kernel))) rfl
theorem k12_89 : (Jvm.Cond.code ({ cls := "ChanceArenaModel", name := "add", desc := "(IJJ)V" } : Jvm.MethodName) prog_15_method_84_code (12 : Nat) (Option.none : Option Jvm.ClassFile.FieldType)) ∈ lw_R := zR (zk_12 _ (List.mem_of_getElem? (i := 89) (by decide +kernel))) rfl
theorem d_MM_closeOf_0 : decode prog_15_method_64_code 0 = .ok (.iconst 0, 1) := by decide +kernel
theorem d_MM_closeOf_1 : decode prog_15_method_64_code 1 = .ok (.istore_n 2, 1) := by decide +kernel
theorem d_MM_closeOf_2 : decode prog_15_method_64_code 2 = .ok (.iload_n 1, 1) := by decide +kernel
theorem d_MM_closeOf_3 : decode prog_15_method_64_code 3 = .ok (.istore_n 3, 1) := by decide +kernel
theorem d_MM_closeOf_4 : decode prog_15_method_64_code 4 = .ok (.aload_n 0, 1) := by decide +kernel
theorem d_MM_closeOf_5 : decode prog_15_method_64_code 5 = .ok (.iload_n 3, 1) := by decide +kernel
theorem d_MM_closeOf_6 : decode prog_15_method_64_code 6 = .ok (.invokevirtual 302, 3) := by decide +kernel
theorem d_MM_closeOf_9 : decode prog_15_method_64_code 9 = .ok (.bipush 36, 2) := by decide +kernel
theorem d_MM_closeOf_11 : decode prog_15_method_64_code 11 = .ok (.if_icmp .ne 9, 3) := by decide +kernel
theorem d_MM_closeOf_20 : decode prog_15_method_64_code 20 = .ok (.aload_n 0, 1) := by decide +kernel
theorem d_MM_closeOf_21 : decode prog_15_method_64_code 21 = .ok (.iload_n 3, 1) := by decide +kernel
theorem d_MM_closeOf_22 : decode prog_15_method_64_code 22 = .ok (.invokevirtual 302, 3) := by decide +kernel
theorem d_MM_closeOf_25 : decode prog_15_method_64_code 25 = .ok (.bipush 37, 2) := by decide +kernel
theorem d_MM_closeOf_27 : decode prog_15_method_64_code 27 = .ok (.if_icmp .ne 9, 3) := by decide +kernel
theorem d_MM_closeOf_36 : decode prog_15_method_64_code 36 = .ok (.iload_n 2, 1) := by decide +kernel
theorem d_MM_closeOf_37 : decode prog_15_method_64_code 37 = .ok (.istore_n 2, 1) := by decide +kernel
theorem d_MM_closeOf_38 : decode prog_15_method_64_code 38 = .ok (.iinc 3 1, 3) := by decide +kernel
theorem d_MM_closeOf_41 : decode prog_15_method_64_code 41 = .ok (.iload_n 2, 1) := by decide +kernel
theorem d_MM_closeOf_42 : decode prog_15_method_64_code 42 = .ok (.ifCond .gt (-38), 3) := by decide +kernel
theorem d_MM_closeOf_45 : decode prog_15_method_64_code 45 = .ok (.iload_n 3, 1) := by decide +kernel
theorem d_MM_closeOf_46 : decode prog_15_method_64_code 46 = .ok (.iconst 1, 1) := by decide +kernel
theorem d_MM_closeOf_47 : decode prog_15_method_64_code 47 = .ok (.isub, 1) := by decide +kernel
theorem d_MM_closeOf_48 : decode prog_15_method_64_code 48 = .ok (.ireturn, 1) := by decide +kernel
theorem d_MM_closeOf_30 : decode prog_15_method_64_code 30 = .ok (.iload_n 2, 1) := by decide +kernel
theorem d_MM_closeOf_31 : decode prog_15_method_64_code 31 = .ok (.iconst 1, 1) := by decide +kernel
theorem d_MM_closeOf_32 : decode prog_15_method_64_code 32 = .ok (.isub, 1) := by decide +kernel
theorem d_MM_closeOf_33 : decode prog_15_method_64_code 33 = .ok (.goto 4, 3) := by decide +kernel
theorem d_MM_closeOf_14 : decode prog_15_method_64_code 14 = .ok (.iload_n 2, 1) := by decide +kernel
theorem d_MM_closeOf_15 : decode prog_15_method_64_code 15 = .ok (.iconst 1, 1) := by decide +kernel
theorem d_MM_closeOf_16 : decode prog_15_method_64_code 16 = .ok (.iadd, 1) := by decide +kernel
theorem d_MM_closeOf_17 : decode prog_15_method_64_code 17 = .ok (.goto 20, 3) := by decide +kernel
theorem d_MM_initOf_0 : decode prog_15_method_68_code 0 = .ok (.iload_n 1, 1) := by decide +kernel
theorem d_MM_initOf_1 : decode prog_15_method_68_code 1 = .ok (.istore_n 3, 1) := by decide +kernel
theorem d_MM_initOf_2 : decode prog_15_method_68_code 2 = .ok (.iload_n 3, 1) := by decide +kernel
theorem d_MM_initOf_3 : decode prog_15_method_68_code 3 = .ok (.iload_n 2, 1) := by decide +kernel
theorem d_MM_initOf_4 : decode prog_15_method_68_code 4 = .ok (.if_icmp .ge 19, 3) := by decide +kernel
theorem d_MM_initOf_23 : decode prog_15_method_68_code 23 = .ok (.iload_n 3, 1) := by decide +kernel
theorem d_MM_initOf_24 : decode prog_15_method_68_code 24 = .ok (.ireturn, 1) := by decide +kernel
theorem d_MM_initOf_7 : decode prog_15_method_68_code 7 = .ok (.aload_n 0, 1) := by decide +kernel
theorem d_MM_initOf_8 : decode prog_15_method_68_code 8 = .ok (.iload_n 3, 1) := by decide +kernel
theorem d_MM_initOf_9 : decode prog_15_method_68_code 9 = .ok (.invokevirtual 302, 3) := by decide +kernel
theorem d_MM_initOf_12 : decode prog_15_method_68_code 12 = .ok (.bipush 9, 2) := by decide +kernel
theorem d_MM_initOf_14 : decode prog_15_method_68_code 14 = .ok (.if_icmp .eq 9, 3) := by decide +kernel
theorem d_MM_initOf_17 : decode prog_15_method_68_code 17 = .ok (.iinc 3 1, 3) := by decide +kernel
theorem d_MM_initOf_20 : decode prog_15_method_68_code 20 = .ok (.goto (-18), 3) := by decide +kernel
theorem d_MM_items1_16 : decode prog_15_method_76_code 16 = .ok (.iload_n 1, 1) := by decide +kernel
theorem d_MM_items1_17 : decode prog_15_method_76_code 17 = .ok (.ifCond .ne 13, 3) := by decide +kernel
theorem d_MM_items1_30 : decode prog_15_method_76_code 30 = .ok (.iload_n 1, 1) := by decide +kernel
theorem d_MM_items1_31 : decode prog_15_method_76_code 31 = .ok (.iconst 1, 1) := by decide +kernel
theorem d_MM_items1_32 : decode prog_15_method_76_code 32 = .ok (.if_icmp .ne 13, 3) := by decide +kernel
theorem d_MM_items1_45 : decode prog_15_method_76_code 45 = .ok (.iload_n 1, 1) := by decide +kernel
theorem d_MM_items1_46 : decode prog_15_method_76_code 46 = .ok (.iconst 2, 1) := by decide +kernel
theorem d_MM_items1_47 : decode prog_15_method_76_code 47 = .ok (.if_icmp .ne 13, 3) := by decide +kernel
theorem d_MM_items1_60 : decode prog_15_method_76_code 60 = .ok (.iconst (-1), 1) := by decide +kernel
theorem d_MM_items1_50 : decode prog_15_method_76_code 50 = .ok (.aload_n 0, 1) := by decide +kernel
theorem d_MM_items1_51 : decode prog_15_method_76_code 51 = .ok (.getfield 34, 3) := by decide +kernel
theorem d_MM_items1_54 : decode prog_15_method_76_code 54 = .ok (.getfield 474, 3) := by decide +kernel
theorem d_MM_items1_57 : decode prog_15_method_76_code 57 = .ok (.goto 4, 3) := by decide +kernel
theorem d_MM_items1_35 : decode prog_15_method_76_code 35 = .ok (.aload_n 0, 1) := by decide +kernel
theorem d_MM_items1_36 : decode prog_15_method_76_code 36 = .ok (.getfield 34, 3) := by decide +kernel
theorem d_MM_items1_39 : decode prog_15_method_76_code 39 = .ok (.getfield 447, 3) := by decide +kernel
theorem d_MM_items1_42 : decode prog_15_method_76_code 42 = .ok (.goto 19, 3) := by decide +kernel
theorem d_MM_items1_20 : decode prog_15_method_76_code 20 = .ok (.aload_n 0, 1) := by decide +kernel
theorem d_MM_items1_21 : decode prog_15_method_76_code 21 = .ok (.getfield 34, 3) := by decide +kernel
theorem d_MM_items1_24 : decode prog_15_method_76_code 24 = .ok (.getfield 456, 3) := by decide +kernel
theorem d_MM_items1_27 : decode prog_15_method_76_code 27 = .ok (.goto 34, 3) := by decide +kernel
theorem d_MM_enter_0 : decode prog_15_method_78_code 0 = .ok (.iconst 0, 1) := by decide +kernel
theorem d_MM_enter_1 : decode prog_15_method_78_code 1 = .ok (.istore_n 2, 1) := by decide +kernel
theorem d_MM_enter_2 : decode prog_15_method_78_code 2 = .ok (.iload_n 2, 1) := by decide +kernel
theorem d_MM_enter_3 : decode prog_15_method_78_code 3 = .ok (.aload_n 0, 1) := by decide +kernel
theorem d_MM_enter_4 : decode prog_15_method_78_code 4 = .ok (.getfield 34, 3) := by decide +kernel
theorem d_MM_enter_7 : decode prog_15_method_78_code 7 = .ok (.getfield 456, 3) := by decide +kernel
theorem d_MM_enter_10 : decode prog_15_method_78_code 10 = .ok (.if_icmp .ge 26, 3) := by decide +kernel
theorem d_MM_enter_36 : decode prog_15_method_78_code 36 = .ok (.iconst 0, 1) := by decide +kernel
theorem d_MM_enter_37 : decode prog_15_method_78_code 37 = .ok (.istore_n 2, 1) := by decide +kernel
theorem d_MM_enter_13 : decode prog_15_method_78_code 13 = .ok (.aload_n 0, 1) := by decide +kernel
theorem d_MM_enter_14 : decode prog_15_method_78_code 14 = .ok (.getfield 73, 3) := by decide +kernel
theorem d_MM_enter_17 : decode prog_15_method_78_code 17 = .ok (.iload_n 2, 1) := by decide +kernel
theorem d_MM_enter_18 : decode prog_15_method_78_code 18 = .ok (.aload_n 0, 1) := by decide +kernel
theorem d_MM_enter_19 : decode prog_15_method_78_code 19 = .ok (.getfield 90, 3) := by decide +kernel
theorem d_MM_enter_22 : decode prog_15_method_78_code 22 = .ok (.bipush 12, 2) := by decide +kernel
theorem d_MM_enter_24 : decode prog_15_method_78_code 24 = .ok (.iload_n 1, 1) := by decide +kernel
theorem d_MM_enter_25 : decode prog_15_method_78_code 25 = .ok (.imul, 1) := by decide +kernel
theorem d_MM_enter_26 : decode prog_15_method_78_code 26 = .ok (.iload_n 2, 1) := by decide +kernel
theorem d_MM_enter_27 : decode prog_15_method_78_code 27 = .ok (.iadd, 1) := by decide +kernel
theorem d_MM_enter_28 : decode prog_15_method_78_code 28 = .ok (.iaload, 1) := by decide +kernel
theorem d_MM_enter_29 : decode prog_15_method_78_code 29 = .ok (.iastore, 1) := by decide +kernel
theorem d_MM_enter_30 : decode prog_15_method_78_code 30 = .ok (.iinc 2 1, 3) := by decide +kernel
theorem d_MM_enter_33 : decode prog_15_method_78_code 33 = .ok (.goto (-31), 3) := by decide +kernel
theorem d_MM_enter_38 : decode prog_15_method_78_code 38 = .ok (.iload_n 2, 1) := by decide +kernel
theorem d_MM_enter_39 : decode prog_15_method_78_code 39 = .ok (.aload_n 0, 1) := by decide +kernel
theorem d_MM_enter_40 : decode prog_15_method_78_code 40 = .ok (.getfield 34, 3) := by decide +kernel
theorem d_MM_enter_43 : decode prog_15_method_78_code 43 = .ok (.getfield 447, 3) := by decide +kernel
theorem d_MM_enter_46 : decode prog_15_method_78_code 46 = .ok (.if_icmp .ge 16, 3) := by decide +kernel
theorem d_MM_enter_62 : decode prog_15_method_78_code 62 = .ok (.return_, 1) := by decide +kernel
theorem d_MM_enter_49 : decode prog_15_method_78_code 49 = .ok (.aload_n 0, 1) := by decide +kernel
theorem d_MM_enter_50 : decode prog_15_method_78_code 50 = .ok (.getfield 77, 3) := by decide +kernel
theorem d_MM_enter_53 : decode prog_15_method_78_code 53 = .ok (.iload_n 2, 1) := by decide +kernel
theorem d_MM_enter_54 : decode prog_15_method_78_code 54 = .ok (.iconst 0, 1) := by decide +kernel
theorem d_MM_enter_55 : decode prog_15_method_78_code 55 = .ok (.bastore, 1) := by decide +kernel
theorem d_MM_enter_56 : decode prog_15_method_78_code 56 = .ok (.iinc 2 1, 3) := by decide +kernel
theorem d_MM_enter_59 : decode prog_15_method_78_code 59 = .ok (.goto (-21), 3) := by decide +kernel
theorem d_MM_add_0 : decode prog_15_method_84_code 0 = .ok (.aload_n 0, 1) := by decide +kernel
theorem d_MM_add_1 : decode prog_15_method_84_code 1 = .ok (.getfield 124, 3) := by decide +kernel
theorem d_MM_add_4 : decode prog_15_method_84_code 4 = .ok (.iload_n 1, 1) := by decide +kernel
theorem d_MM_add_5 : decode prog_15_method_84_code 5 = .ok (.laload, 1) := by decide +kernel
theorem d_MM_add_6 : decode prog_15_method_84_code 6 = .ok (.lload 4, 2) := by decide +kernel
theorem d_MM_add_8 : decode prog_15_method_84_code 8 = .ok (.lmul, 1) := by decide +kernel
theorem d_MM_add_9 : decode prog_15_method_84_code 9 = .ok (.lload_n 2, 1) := by decide +kernel
theorem d_MM_add_10 : decode prog_15_method_84_code 10 = .ok (.aload_n 0, 1) := by decide +kernel
theorem d_MM_add_11 : decode prog_15_method_84_code 11 = .ok (.getfield 127, 3) := by decide +kernel
theorem d_MM_add_14 : decode prog_15_method_84_code 14 = .ok (.iload_n 1, 1) := by decide +kernel
theorem d_MM_add_15 : decode prog_15_method_84_code 15 = .ok (.laload, 1) := by decide +kernel
theorem d_MM_add_16 : decode prog_15_method_84_code 16 = .ok (.lmul, 1) := by decide +kernel
theorem d_MM_add_17 : decode prog_15_method_84_code 17 = .ok (.ladd, 1) := by decide +kernel
theorem d_MM_add_18 : decode prog_15_method_84_code 18 = .ok (.lstore 6, 2) := by decide +kernel
theorem d_MM_add_20 : decode prog_15_method_84_code 20 = .ok (.aload_n 0, 1) := by decide +kernel
theorem d_MM_add_21 : decode prog_15_method_84_code 21 = .ok (.getfield 127, 3) := by decide +kernel
theorem d_MM_add_24 : decode prog_15_method_84_code 24 = .ok (.iload_n 1, 1) := by decide +kernel
theorem d_MM_add_25 : decode prog_15_method_84_code 25 = .ok (.laload, 1) := by decide +kernel
theorem d_MM_add_26 : decode prog_15_method_84_code 26 = .ok (.lload 4, 2) := by decide +kernel
theorem d_MM_add_28 : decode prog_15_method_84_code 28 = .ok (.lmul, 1) := by decide +kernel
theorem d_MM_add_29 : decode prog_15_method_84_code 29 = .ok (.lstore 8, 2) := by decide +kernel
theorem d_MM_add_31 : decode prog_15_method_84_code 31 = .ok (.lload 6, 2) := by decide +kernel
theorem d_MM_add_33 : decode prog_15_method_84_code 33 = .ok (.lload 8, 2) := by decide +kernel
theorem d_MM_add_35 : decode prog_15_method_84_code 35 = .ok (.invokestatic 377, 3) := by decide +kernel
theorem d_MM_add_38 : decode prog_15_method_84_code 38 = .ok (.lstore 10, 2) := by decide +kernel
theorem d_MM_add_40 : decode prog_15_method_84_code 40 = .ok (.aload_n 0, 1) := by decide +kernel
theorem d_MM_add_41 : decode prog_15_method_84_code 41 = .ok (.getfield 124, 3) := by decide +kernel
theorem d_MM_add_44 : decode prog_15_method_84_code 44 = .ok (.iload_n 1, 1) := by decide +kernel
theorem d_MM_add_45 : decode prog_15_method_84_code 45 = .ok (.lload 6, 2) := by decide +kernel
theorem d_MM_add_47 : decode prog_15_method_84_code 47 = .ok (.lload 10, 2) := by decide +kernel
theorem d_MM_add_49 : decode prog_15_method_84_code 49 = .ok (.ldiv, 1) := by decide +kernel
theorem d_MM_add_50 : decode prog_15_method_84_code 50 = .ok (.lastore, 1) := by decide +kernel
theorem d_MM_add_51 : decode prog_15_method_84_code 51 = .ok (.aload_n 0, 1) := by decide +kernel
theorem d_MM_add_52 : decode prog_15_method_84_code 52 = .ok (.getfield 127, 3) := by decide +kernel
theorem d_MM_add_55 : decode prog_15_method_84_code 55 = .ok (.iload_n 1, 1) := by decide +kernel
theorem d_MM_add_56 : decode prog_15_method_84_code 56 = .ok (.lload 8, 2) := by decide +kernel
theorem d_MM_add_58 : decode prog_15_method_84_code 58 = .ok (.lload 10, 2) := by decide +kernel
theorem d_MM_add_60 : decode prog_15_method_84_code 60 = .ok (.ldiv, 1) := by decide +kernel
theorem d_MM_add_61 : decode prog_15_method_84_code 61 = .ok (.lastore, 1) := by decide +kernel
theorem d_MM_add_62 : decode prog_15_method_84_code 62 = .ok (.return_, 1) := by decide +kernel
def f_MM_closeOf (h0_kinds_all_n : Nat) (l1 : Int32) (h0_kinds_all_c : Nat → Int32) : Nat → Nat → Int32 → Int32 → Option (Int32)
  | 0, _, _, _ => none
  | n + 1, 0, l2, l3 => chk True (f_MM_closeOf h0_kinds_all_n l1 h0_kinds_all_c n 1 0 l1)
  | n + 1, 1, l2, l3 => Option.bind (f_MM_word1 h0_kinds_all_n l3 h0_kinds_all_c) (fun o1 => if ¬ (o1 : Int32) = 36 then Option.bind (f_MM_word1 h0_kinds_all_n l3 h0_kinds_all_c) (fun o2 => if ¬ (o2 : Int32) = 37 then (if (0 : Int32) < l2 then f_MM_closeOf h0_kinds_all_n l1 h0_kinds_all_c n 1 l2 (l3 + Int32.ofInt 1) else some (((l3 + Int32.ofInt 1) - 1))) else if (0 : Int32) < (l2 - 1) then f_MM_closeOf h0_kinds_all_n l1 h0_kinds_all_c n 1 (l2 - 1) (l3 + Int32.ofInt 1) else some (((l3 + Int32.ofInt 1) - 1))) else if (0 : Int32) < (l2 + 1) then f_MM_closeOf h0_kinds_all_n l1 h0_kinds_all_c n 1 (l2 + 1) (l3 + Int32.ofInt 1) else some (((l3 + Int32.ofInt 1) - 1)))
  | _ + 1, _ + 2, _, _ => none
theorem e_MM_closeOf_0 (h0_kinds_all_n : Nat) (l1 : Int32) (h0_kinds_all_c : Nat → Int32) (n : Nat) (l2 : Int32) (l3 : Int32) : f_MM_closeOf h0_kinds_all_n l1 h0_kinds_all_c (n + 1) 0 l2 l3 = chk True (f_MM_closeOf h0_kinds_all_n l1 h0_kinds_all_c n 1 0 l1) := by rw [f_MM_closeOf]
theorem e_MM_closeOf_1 (h0_kinds_all_n : Nat) (l1 : Int32) (h0_kinds_all_c : Nat → Int32) (n : Nat) (l2 : Int32) (l3 : Int32) : f_MM_closeOf h0_kinds_all_n l1 h0_kinds_all_c (n + 1) 1 l2 l3 = Option.bind (f_MM_word1 h0_kinds_all_n l3 h0_kinds_all_c) (fun o1 => if ¬ (o1 : Int32) = 36 then Option.bind (f_MM_word1 h0_kinds_all_n l3 h0_kinds_all_c) (fun o2 => if ¬ (o2 : Int32) = 37 then (if (0 : Int32) < l2 then f_MM_closeOf h0_kinds_all_n l1 h0_kinds_all_c n 1 l2 (l3 + Int32.ofInt 1) else some (((l3 + Int32.ofInt 1) - 1))) else if (0 : Int32) < (l2 - 1) then f_MM_closeOf h0_kinds_all_n l1 h0_kinds_all_c n 1 (l2 - 1) (l3 + Int32.ofInt 1) else some (((l3 + Int32.ofInt 1) - 1))) else if (0 : Int32) < (l2 + 1) then f_MM_closeOf h0_kinds_all_n l1 h0_kinds_all_c n 1 (l2 + 1) (l3 + Int32.ofInt 1) else some (((l3 + Int32.ofInt 1) - 1))) := by rw [f_MM_closeOf]
theorem z_MM_closeOf (h0_kinds_all_n : Nat) (l1 : Int32) (h0_kinds_all_c : Nat → Int32) (h : Nat) (l2 : Int32) (l3 : Int32) : f_MM_closeOf h0_kinds_all_n l1 h0_kinds_all_c 0 h l2 l3 = none := by rw [f_MM_closeOf]
set_option maxHeartbeats 4000000 in
set_option maxRecDepth 100000 in
theorem b_MM_closeOf_0 {p : Program} {l : Launch} {e : Env} {s : State} {m : MethodId} {args : Array Value} {below : List Frame} {meth : Method} {c : Code} {D : va_G} {tA : Nat → ClassId} {A : Nat → Prop} {h0 h0_kinds h0_kinds_all : Nat} {f0_h0 f0_h0_kinds : List Value} {h0_kinds_all_n : Nat} {l1 : Int32} {h0_kinds_all_c : Nat → Int32} {out : Int32} (hx : p.tables.exec = Jvm.exec) (hb : c.code = prog_15_method_64_code) (hr : meth.sig.returnType = (Option.some Jvm.ClassFile.FieldType.int)) (hml : c.maxLocals = 4) (hh : zH s) (hg : ∀ w ∈ lw_R, w.before args s = true) (hown : s.vm.findClass "ChanceArenaModel" = some m.cls) (hlocks : meth.locks = false) (hK : va_K D vwCl (zT tA) s) (hA : ∀ q, s.heap.size ≤ q → A q) {n : Nat} (ih1 : ∀ (l2 : Int32) (l3 : Int32) (H : Heap) (locs : List Loc) (ls : Array Slot), f_MM_closeOf h0_kinds_all_n l1 h0_kinds_all_c n 1 l2 l3 = some out → f0_h0[3]? = some (.ref h0_kinds) → f0_h0_kinds[0]? = some (.ref h0_kinds_all) → va_P D vwCl [(h0, .inr (13, f0_h0)), (h0_kinds, .inr (14, f0_h0_kinds)), (h0_kinds_all, .inl (tA 0, h0_kinds_all_n, .inl h0_kinds_all_c))] H → va_D A [(h0, .inr (13, f0_h0)), (h0_kinds, .inr (14, f0_h0_kinds)), (h0_kinds_all, .inl (tA 0, h0_kinds_all_n, .inl h0_kinds_all_c))] → va_S A s.heap H locs → lv_has ls 4 [(0, .ref h0), (1, .int l1), (2, .int l2), (3, .int l3)] → W p l e { frames := 2, cells := 0, slots := 0, locals := 42 } s m args below meth c H locs 0 0 (MQ below (va_Qi (fun (r9 : Int32) (u9 : Unit) => r9 = out) (zPost D A (fun (u9 : Unit) => [(h0, .inr (13, f0_h0)), (h0_kinds, .inr (14, f0_h0_kinds)), (h0_kinds_all, .inl (tA 0, h0_kinds_all_n, .inl h0_kinds_all_c))])) A) args s 0 0 A) (F0 m 4 ls [])) : ∀ (l2 : Int32) (l3 : Int32) (H : Heap) (locs : List Loc) (ls : Array Slot), f_MM_closeOf h0_kinds_all_n l1 h0_kinds_all_c (n + 1) 0 l2 l3 = some out → f0_h0[3]? = some (.ref h0_kinds) → f0_h0_kinds[0]? = some (.ref h0_kinds_all) → va_P D vwCl [(h0, .inr (13, f0_h0)), (h0_kinds, .inr (14, f0_h0_kinds)), (h0_kinds_all, .inl (tA 0, h0_kinds_all_n, .inl h0_kinds_all_c))] H → va_D A [(h0, .inr (13, f0_h0)), (h0_kinds, .inr (14, f0_h0_kinds)), (h0_kinds_all, .inl (tA 0, h0_kinds_all_n, .inl h0_kinds_all_c))] → va_S A s.heap H locs → lv_has ls 4 [(0, .ref h0), (1, .int l1)] → W p l e { frames := 2, cells := 0, slots := 0, locals := 42 } s m args below meth c H locs 0 0 (MQ below (va_Qi (fun (r9 : Int32) (u9 : Unit) => r9 = out) (zPost D A (fun (u9 : Unit) => [(h0, .inr (13, f0_h0)), (h0_kinds, .inr (14, f0_h0_kinds)), (h0_kinds_all, .inl (tA 0, h0_kinds_all_n, .inl h0_kinds_all_c))])) A) args s 0 0 A) (F0 m 0 ls []) := by
  intro l2 l3   H locs ls hF q_h0_kinds q_h0_kinds_all hP hD hS hl
  rw [e_MM_closeOf_0] at hF
  obtain ⟨_, hF⟩ := chk_some hF
  refine lv_iconst (v := 0) hx hb d_MM_closeOf_0 (by decide) ?_
  refine lv_istore_n (lv' := [(2, .int 0), (0, .ref h0), (1, .int l1)]) hx hb d_MM_closeOf_1 rfl hl (by decide) rfl (fun ls hl => ?_)
  refine lv_iload_n hx hb d_MM_closeOf_2 rfl (lv_at hl 2 rfl) ?_
  refine lv_istore_n (lv' := [(3, .int l1), (2, .int 0), (0, .ref h0), (1, .int l1)]) hx hb d_MM_closeOf_3 rfl hl (by decide) rfl (fun ls hl => ?_)
  exact ih1 0 l1   _ _ _ hF q_h0_kinds q_h0_kinds_all hP hD hS (lv_sub hl [2, 3, 1, 0] rfl)
set_option maxHeartbeats 4000000 in
set_option maxRecDepth 100000 in
theorem b_MM_closeOf_1 {p : Program} {l : Launch} {e : Env} {s : State} {m : MethodId} {args : Array Value} {below : List Frame} {meth : Method} {c : Code} {D : va_G} {tA : Nat → ClassId} {A : Nat → Prop} {h0 h0_kinds h0_kinds_all : Nat} {f0_h0 f0_h0_kinds : List Value} {h0_kinds_all_n : Nat} {l1 : Int32} {h0_kinds_all_c : Nat → Int32} {out : Int32} (hx : p.tables.exec = Jvm.exec) (hb : c.code = prog_15_method_64_code) (hr : meth.sig.returnType = (Option.some Jvm.ClassFile.FieldType.int)) (hml : c.maxLocals = 4) (hh : zH s) (hg : ∀ w ∈ lw_R, w.before args s = true) (hown : s.vm.findClass "ChanceArenaModel" = some m.cls) (hlocks : meth.locks = false) (hK : va_K D vwCl (zT tA) s) (hA : ∀ q, s.heap.size ≤ q → A q) {n : Nat} (ih1 : ∀ (l2 : Int32) (l3 : Int32) (H : Heap) (locs : List Loc) (ls : Array Slot), f_MM_closeOf h0_kinds_all_n l1 h0_kinds_all_c n 1 l2 l3 = some out → f0_h0[3]? = some (.ref h0_kinds) → f0_h0_kinds[0]? = some (.ref h0_kinds_all) → va_P D vwCl [(h0, .inr (13, f0_h0)), (h0_kinds, .inr (14, f0_h0_kinds)), (h0_kinds_all, .inl (tA 0, h0_kinds_all_n, .inl h0_kinds_all_c))] H → va_D A [(h0, .inr (13, f0_h0)), (h0_kinds, .inr (14, f0_h0_kinds)), (h0_kinds_all, .inl (tA 0, h0_kinds_all_n, .inl h0_kinds_all_c))] → va_S A s.heap H locs → lv_has ls 4 [(0, .ref h0), (1, .int l1), (2, .int l2), (3, .int l3)] → W p l e { frames := 2, cells := 0, slots := 0, locals := 42 } s m args below meth c H locs 0 0 (MQ below (va_Qi (fun (r9 : Int32) (u9 : Unit) => r9 = out) (zPost D A (fun (u9 : Unit) => [(h0, .inr (13, f0_h0)), (h0_kinds, .inr (14, f0_h0_kinds)), (h0_kinds_all, .inl (tA 0, h0_kinds_all_n, .inl h0_kinds_all_c))])) A) args s 0 0 A) (F0 m 4 ls [])) : ∀ (l2 : Int32) (l3 : Int32) (H : Heap) (locs : List Loc) (ls : Array Slot), f_MM_closeOf h0_kinds_all_n l1 h0_kinds_all_c (n + 1) 1 l2 l3 = some out → f0_h0[3]? = some (.ref h0_kinds) → f0_h0_kinds[0]? = some (.ref h0_kinds_all) → va_P D vwCl [(h0, .inr (13, f0_h0)), (h0_kinds, .inr (14, f0_h0_kinds)), (h0_kinds_all, .inl (tA 0, h0_kinds_all_n, .inl h0_kinds_all_c))] H → va_D A [(h0, .inr (13, f0_h0)), (h0_kinds, .inr (14, f0_h0_kinds)), (h0_kinds_all, .inl (tA 0, h0_kinds_all_n, .inl h0_kinds_all_c))] → va_S A s.heap H locs → lv_has ls 4 [(0, .ref h0), (1, .int l1), (2, .int l2), (3, .int l3)] → W p l e { frames := 2, cells := 0, slots := 0, locals := 42 } s m args below meth c H locs 0 0 (MQ below (va_Qi (fun (r9 : Int32) (u9 : Unit) => r9 = out) (zPost D A (fun (u9 : Unit) => [(h0, .inr (13, f0_h0)), (h0_kinds, .inr (14, f0_h0_kinds)), (h0_kinds_all, .inl (tA 0, h0_kinds_all_n, .inl h0_kinds_all_c))])) A) args s 0 0 A) (F0 m 4 ls []) := by
  intro l2 l3   H locs ls hF q_h0_kinds q_h0_kinds_all hP hD hS hl
  rw [e_MM_closeOf_1] at hF
  refine lv_aload_n hx hb d_MM_closeOf_4 rfl (lv_at hl 0 rfl) ?_
  refine lv_iload_n hx hb d_MM_closeOf_5 rfl (lv_at hl 3 rfl) ?_
  obtain ⟨o1, h1, hF⟩ := bsome hF
  refine zCalli (wc := [(h0, .inr (13, f0_h0)), (h0_kinds, .inr (14, f0_h0_kinds)), (h0_kinds_all, .inl (tA 0, h0_kinds_all_n, .inl h0_kinds_all_c))]) (wr := []) hP hD hS hA [0, 1, 2] [] rfl rfl (by decide) (by decide) (va_runV (As := [.int l3]) (rest := []) ⟨hx, hb, hml, hown, hg⟩ (m_MM_word1 l D tA _ h0 h0_kinds h0_kinds_all f0_h0 f0_h0_kinds h0_kinds_all_n l3 h0_kinds_all_c q_h0_kinds q_h0_kinds_all o1 h1) (zV 1 hg k11_93 k11_95 ks_MM_word1 k1_14 k11_96 rfl rfl (by decide +kernel) ⟨(Nat.le_of_ble_eq_true rfl), (Nat.le_of_ble_eq_true rfl)⟩) (zPreV hh hK hP hD [0, 1, 2] (by decide) rfl (ci := 13) rfl 0 rfl) rfl rfl hl.1 rfl (lv_room (Nat.le_of_ble_eq_true rfl)) d_MM_closeOf_6 ⟨(Nat.le_of_ble_eq_true rfl), (Nat.le_of_ble_eq_true rfl)⟩) (fun r1 u1 H1 locs1 e1 hP1 hD1 hS1 => ?_)
  clear hP hD hS
  refine W.cs (cells' := 0) (slots' := 0) rfl rfl ?_
  have x1 := e1
  rw [x1]
  replace hP1 : va_P D vwCl [(h0, .inr (13, f0_h0)), (h0_kinds, .inr (14, f0_h0_kinds)), (h0_kinds_all, .inl (tA 0, h0_kinds_all_n, .inl h0_kinds_all_c))] _ := hP1
  replace hD1 : va_D A [(h0, .inr (13, f0_h0)), (h0_kinds, .inr (14, f0_h0_kinds)), (h0_kinds_all, .inl (tA 0, h0_kinds_all_n, .inl h0_kinds_all_c))] := hD1
  refine lv_bipush (v := 36) hx hb d_MM_closeOf_9 (by decide) ?_
  refine lv_icmp_ne (tgt := 20) hx hb d_MM_closeOf_11 (by decide) (fun c9 => ?_) (fun c9 => ?_)
  · replace hF := ifp c9 hF
    refine lv_aload_n hx hb d_MM_closeOf_20 rfl (lv_at hl 0 rfl) ?_
    refine lv_iload_n hx hb d_MM_closeOf_21 rfl (lv_at hl 3 rfl) ?_
    obtain ⟨o2, h2, hF⟩ := bsome hF
    refine zCalli (wc := [(h0, .inr (13, f0_h0)), (h0_kinds, .inr (14, f0_h0_kinds)), (h0_kinds_all, .inl (tA 0, h0_kinds_all_n, .inl h0_kinds_all_c))]) (wr := []) hP1 hD1 hS1 hA [0, 1, 2] [] rfl rfl (by decide) (by decide) (va_runV (As := [.int l3]) (rest := []) ⟨hx, hb, hml, hown, hg⟩ (m_MM_word1 l D tA _ h0 h0_kinds h0_kinds_all f0_h0 f0_h0_kinds h0_kinds_all_n l3 h0_kinds_all_c q_h0_kinds q_h0_kinds_all o2 h2) (zV 1 hg k11_93 k11_95 ks_MM_word1 k1_14 k11_96 rfl rfl (by decide +kernel) ⟨(Nat.le_of_ble_eq_true rfl), (Nat.le_of_ble_eq_true rfl)⟩) (zPreV hh hK hP1 hD1 [0, 1, 2] (by decide) rfl (ci := 13) rfl 0 rfl) rfl rfl hl.1 rfl (lv_room (Nat.le_of_ble_eq_true rfl)) d_MM_closeOf_22 ⟨(Nat.le_of_ble_eq_true rfl), (Nat.le_of_ble_eq_true rfl)⟩) (fun r2 u2 H2 locs2 e2 hP2 hD2 hS2 => ?_)
    clear hP1 hD1 hS1
    refine W.cs (cells' := 0) (slots' := 0) rfl rfl ?_
    have x2 := e2
    rw [x2]
    replace hP2 : va_P D vwCl [(h0, .inr (13, f0_h0)), (h0_kinds, .inr (14, f0_h0_kinds)), (h0_kinds_all, .inl (tA 0, h0_kinds_all_n, .inl h0_kinds_all_c))] _ := hP2
    replace hD2 : va_D A [(h0, .inr (13, f0_h0)), (h0_kinds, .inr (14, f0_h0_kinds)), (h0_kinds_all, .inl (tA 0, h0_kinds_all_n, .inl h0_kinds_all_c))] := hD2
    refine lv_bipush (v := 37) hx hb d_MM_closeOf_25 (by decide) ?_
    refine lv_icmp_ne (tgt := 36) hx hb d_MM_closeOf_27 (by decide) (fun c9 => ?_) (fun c9 => ?_)
    · replace hF := ifp c9 hF
      refine lv_iload_n hx hb d_MM_closeOf_36 rfl (lv_at hl 2 rfl) ?_
      refine lv_istore_n (lv' := [(2, .int l2), (0, .ref h0), (1, .int l1), (3, .int l3)]) hx hb d_MM_closeOf_37 rfl hl (by decide) rfl (fun ls hl => ?_)
      refine lv_iinc (v := (l3 + Int32.ofInt 1)) (lv' := [(3, .int (l3 + Int32.ofInt 1)), (2, .int l2), (0, .ref h0), (1, .int l1)]) hx hb d_MM_closeOf_38 hl (k := 3) rfl rfl (by decide) rfl (fun ls hl => ?_)
      refine lv_iload_n hx hb d_MM_closeOf_41 rfl (lv_at hl 1 rfl) ?_
      refine lv_if_gt (tgt := 4) hx hb d_MM_closeOf_42 (by decide) (fun c9 => ?_) (fun c9 => ?_)
      · replace hF := ifp c9 hF
        exact ih1 l2 (l3 + Int32.ofInt 1)   _ _ _ hF q_h0_kinds q_h0_kinds_all hP2 hD2 hS2 (lv_sub hl [2, 3, 1, 0] rfl)
      · replace hF := ifn c9 hF
        refine lv_iload_n hx hb d_MM_closeOf_45 rfl (lv_at hl 0 rfl) ?_
        refine lv_iconst (v := 1) hx hb d_MM_closeOf_46 (by decide) ?_
        refine lv_isub hx hb d_MM_closeOf_47 ?_
        replace hF := Option.some.inj hF
        subst hF
        exact zZret (post := (fun (r9 : Int32) (u9 : Unit) => r9 = ((l3 + Int32.ofInt 1) - 1))) (W1 := (fun (u9 : Unit) => [(h0, .inr (13, f0_h0)), (h0_kinds, .inr (14, f0_h0_kinds)), (h0_kinds_all, .inl (tA 0, h0_kinds_all_n, .inl h0_kinds_all_c))])) (v := ((l3 + Int32.ofInt 1) - 1)) hx hb hr rfl hlocks hP2 hD2 hS2 () rfl rfl d_MM_closeOf_48
    · replace hF := ifn (fun h9 => h9 c9) hF
      refine lv_iload_n hx hb d_MM_closeOf_30 rfl (lv_at hl 2 rfl) ?_
      refine lv_iconst (v := 1) hx hb d_MM_closeOf_31 (by decide) ?_
      refine lv_isub hx hb d_MM_closeOf_32 ?_
      refine lv_goto (tgt := 37) hx hb d_MM_closeOf_33 (by decide) ?_
      refine lv_istore_n (lv' := [(2, .int (l2 - 1)), (0, .ref h0), (1, .int l1), (3, .int l3)]) hx hb d_MM_closeOf_37 rfl hl (by decide) rfl (fun ls hl => ?_)
      refine lv_iinc (v := (l3 + Int32.ofInt 1)) (lv' := [(3, .int (l3 + Int32.ofInt 1)), (2, .int (l2 - 1)), (0, .ref h0), (1, .int l1)]) hx hb d_MM_closeOf_38 hl (k := 3) rfl rfl (by decide) rfl (fun ls hl => ?_)
      refine lv_iload_n hx hb d_MM_closeOf_41 rfl (lv_at hl 1 rfl) ?_
      refine lv_if_gt (tgt := 4) hx hb d_MM_closeOf_42 (by decide) (fun c9 => ?_) (fun c9 => ?_)
      · replace hF := ifp c9 hF
        exact ih1 (l2 - 1) (l3 + Int32.ofInt 1)   _ _ _ hF q_h0_kinds q_h0_kinds_all hP2 hD2 hS2 (lv_sub hl [2, 3, 1, 0] rfl)
      · replace hF := ifn c9 hF
        refine lv_iload_n hx hb d_MM_closeOf_45 rfl (lv_at hl 0 rfl) ?_
        refine lv_iconst (v := 1) hx hb d_MM_closeOf_46 (by decide) ?_
        refine lv_isub hx hb d_MM_closeOf_47 ?_
        replace hF := Option.some.inj hF
        subst hF
        exact zZret (post := (fun (r9 : Int32) (u9 : Unit) => r9 = ((l3 + Int32.ofInt 1) - 1))) (W1 := (fun (u9 : Unit) => [(h0, .inr (13, f0_h0)), (h0_kinds, .inr (14, f0_h0_kinds)), (h0_kinds_all, .inl (tA 0, h0_kinds_all_n, .inl h0_kinds_all_c))])) (v := ((l3 + Int32.ofInt 1) - 1)) hx hb hr rfl hlocks hP2 hD2 hS2 () rfl rfl d_MM_closeOf_48
  · replace hF := ifn (fun h9 => h9 c9) hF
    refine lv_iload_n hx hb d_MM_closeOf_14 rfl (lv_at hl 2 rfl) ?_
    refine lv_iconst (v := 1) hx hb d_MM_closeOf_15 (by decide) ?_
    refine lv_iadd hx hb d_MM_closeOf_16 ?_
    refine lv_goto (tgt := 37) hx hb d_MM_closeOf_17 (by decide) ?_
    refine lv_istore_n (lv' := [(2, .int (l2 + 1)), (0, .ref h0), (1, .int l1), (3, .int l3)]) hx hb d_MM_closeOf_37 rfl hl (by decide) rfl (fun ls hl => ?_)
    refine lv_iinc (v := (l3 + Int32.ofInt 1)) (lv' := [(3, .int (l3 + Int32.ofInt 1)), (2, .int (l2 + 1)), (0, .ref h0), (1, .int l1)]) hx hb d_MM_closeOf_38 hl (k := 3) rfl rfl (by decide) rfl (fun ls hl => ?_)
    refine lv_iload_n hx hb d_MM_closeOf_41 rfl (lv_at hl 1 rfl) ?_
    refine lv_if_gt (tgt := 4) hx hb d_MM_closeOf_42 (by decide) (fun c9 => ?_) (fun c9 => ?_)
    · replace hF := ifp c9 hF
      exact ih1 (l2 + 1) (l3 + Int32.ofInt 1)   _ _ _ hF q_h0_kinds q_h0_kinds_all hP1 hD1 hS1 (lv_sub hl [2, 3, 1, 0] rfl)
    · replace hF := ifn c9 hF
      refine lv_iload_n hx hb d_MM_closeOf_45 rfl (lv_at hl 0 rfl) ?_
      refine lv_iconst (v := 1) hx hb d_MM_closeOf_46 (by decide) ?_
      refine lv_isub hx hb d_MM_closeOf_47 ?_
      replace hF := Option.some.inj hF
      subst hF
      exact zZret (post := (fun (r9 : Int32) (u9 : Unit) => r9 = ((l3 + Int32.ofInt 1) - 1))) (W1 := (fun (u9 : Unit) => [(h0, .inr (13, f0_h0)), (h0_kinds, .inr (14, f0_h0_kinds)), (h0_kinds_all, .inl (tA 0, h0_kinds_all_n, .inl h0_kinds_all_c))])) (v := ((l3 + Int32.ofInt 1) - 1)) hx hb hr rfl hlocks hP1 hD1 hS1 () rfl rfl d_MM_closeOf_48
set_option maxHeartbeats 4000000 in
set_option maxRecDepth 100000 in
theorem a_MM_closeOf {p : Program} {l : Launch} {e : Env} {s : State} {m : MethodId} {args : Array Value} {below : List Frame} {meth : Method} {c : Code} {D : va_G} {tA : Nat → ClassId} {A : Nat → Prop} {h0 h0_kinds h0_kinds_all : Nat} {f0_h0 f0_h0_kinds : List Value} {h0_kinds_all_n : Nat} {l1 : Int32} {h0_kinds_all_c : Nat → Int32} {out : Int32} (hx : p.tables.exec = Jvm.exec) (hb : c.code = prog_15_method_64_code) (hr : meth.sig.returnType = (Option.some Jvm.ClassFile.FieldType.int)) (hml : c.maxLocals = 4) (hh : zH s) (hg : ∀ w ∈ lw_R, w.before args s = true) (hown : s.vm.findClass "ChanceArenaModel" = some m.cls) (hlocks : meth.locks = false) (hK : va_K D vwCl (zT tA) s) (hA : ∀ q, s.heap.size ≤ q → A q) : ∀ n : Nat, (∀ (l2 : Int32) (l3 : Int32) (H : Heap) (locs : List Loc) (ls : Array Slot), f_MM_closeOf h0_kinds_all_n l1 h0_kinds_all_c n 0 l2 l3 = some out → f0_h0[3]? = some (.ref h0_kinds) → f0_h0_kinds[0]? = some (.ref h0_kinds_all) → va_P D vwCl [(h0, .inr (13, f0_h0)), (h0_kinds, .inr (14, f0_h0_kinds)), (h0_kinds_all, .inl (tA 0, h0_kinds_all_n, .inl h0_kinds_all_c))] H → va_D A [(h0, .inr (13, f0_h0)), (h0_kinds, .inr (14, f0_h0_kinds)), (h0_kinds_all, .inl (tA 0, h0_kinds_all_n, .inl h0_kinds_all_c))] → va_S A s.heap H locs → lv_has ls 4 [(0, .ref h0), (1, .int l1)] → W p l e { frames := 2, cells := 0, slots := 0, locals := 42 } s m args below meth c H locs 0 0 (MQ below (va_Qi (fun (r9 : Int32) (u9 : Unit) => r9 = out) (zPost D A (fun (u9 : Unit) => [(h0, .inr (13, f0_h0)), (h0_kinds, .inr (14, f0_h0_kinds)), (h0_kinds_all, .inl (tA 0, h0_kinds_all_n, .inl h0_kinds_all_c))])) A) args s 0 0 A) (F0 m 0 ls [])) ∧ (∀ (l2 : Int32) (l3 : Int32) (H : Heap) (locs : List Loc) (ls : Array Slot), f_MM_closeOf h0_kinds_all_n l1 h0_kinds_all_c n 1 l2 l3 = some out → f0_h0[3]? = some (.ref h0_kinds) → f0_h0_kinds[0]? = some (.ref h0_kinds_all) → va_P D vwCl [(h0, .inr (13, f0_h0)), (h0_kinds, .inr (14, f0_h0_kinds)), (h0_kinds_all, .inl (tA 0, h0_kinds_all_n, .inl h0_kinds_all_c))] H → va_D A [(h0, .inr (13, f0_h0)), (h0_kinds, .inr (14, f0_h0_kinds)), (h0_kinds_all, .inl (tA 0, h0_kinds_all_n, .inl h0_kinds_all_c))] → va_S A s.heap H locs → lv_has ls 4 [(0, .ref h0), (1, .int l1), (2, .int l2), (3, .int l3)] → W p l e { frames := 2, cells := 0, slots := 0, locals := 42 } s m args below meth c H locs 0 0 (MQ below (va_Qi (fun (r9 : Int32) (u9 : Unit) => r9 = out) (zPost D A (fun (u9 : Unit) => [(h0, .inr (13, f0_h0)), (h0_kinds, .inr (14, f0_h0_kinds)), (h0_kinds_all, .inl (tA 0, h0_kinds_all_n, .inl h0_kinds_all_c))])) A) args s 0 0 A) (F0 m 4 ls [])) := by
  intro n
  induction n with
  | zero => exact ⟨(fun _ _ _ _ _ hF => by rw [z_MM_closeOf] at hF; cases hF), (fun _ _ _ _ _ hF => by rw [z_MM_closeOf] at hF; cases hF)⟩
  | succ n ih =>
    obtain ⟨i0, i1⟩ := ih
    exact ⟨b_MM_closeOf_0 hx hb hr hml hh hg hown hlocks hK hA i1, b_MM_closeOf_1 hx hb hr hml hh hg hown hlocks hK hA i1⟩
set_option maxHeartbeats 4000000 in
set_option maxRecDepth 100000 in
theorem m_MM_closeOf (l : Launch) (D : va_G) (tA : Nat → ClassId) (sz : Nat) (h0 h0_kinds h0_kinds_all : Nat) (f0_h0 f0_h0_kinds : List Value) (h0_kinds_all_n : Nat) (l1 : Int32) (h0_kinds_all_c : Nat → Int32) (q_h0_kinds : f0_h0[3]? = some (.ref h0_kinds)) (q_h0_kinds_all : f0_h0_kinds[0]? = some (.ref h0_kinds_all)) (n : Nat) (out : Int32) (hF : f_MM_closeOf h0_kinds_all_n l1 h0_kinds_all_c n 0 0 0 = some out) : zMi l ({ cls := "ChanceArenaModel", name := "closeOf", desc := "(I)I" } : Jvm.MethodName) (zW (Jvm.Cond.code ({ cls := "ChanceArenaModel", name := "closeOf", desc := "(I)I" } : Jvm.MethodName) prog_15_method_64_code (4 : Nat) (Option.some Jvm.ClassFile.FieldType.int))) { frames := 2, cells := 0, slots := 0, locals := 42 } [.ref h0, .int l1] D tA [(h0, .inr (13, f0_h0)), (h0_kinds, .inr (14, f0_h0_kinds)), (h0_kinds_all, .inl (tA 0, h0_kinds_all_n, .inl h0_kinds_all_c))] sz (fun (r9 : Int32) (u9 : Unit) => r9 = out) (fun (u9 : Unit) => [(h0, .inr (13, f0_h0)), (h0_kinds, .inr (14, f0_h0_kinds)), (h0_kinds_all, .inl (tA 0, h0_kinds_all_n, .inl h0_kinds_all_c))]) 0 0 := by
  refine zOpen (l := l) (y := ({ cls := "ChanceArenaModel", name := "closeOf", desc := "(I)I" } : Jvm.MethodName)) (ws := zW (Jvm.Cond.code ({ cls := "ChanceArenaModel", name := "closeOf", desc := "(I)I" } : Jvm.MethodName) prog_15_method_64_code (4 : Nat) (Option.some Jvm.ClassFile.FieldType.int))) (rm := { frames := 2, cells := 0, slots := 0, locals := 42 }) (av := [.ref h0, .int l1]) (D := D) (tA := tA) (W0 := [(h0, .inr (13, f0_h0)), (h0_kinds, .inr (14, f0_h0_kinds)), (h0_kinds_all, .inl (tA 0, h0_kinds_all_n, .inl h0_kinds_all_c))]) (Wm := [(h0, .inr (13, f0_h0)), (h0_kinds, .inr (14, f0_h0_kinds)), (h0_kinds_all, .inl (tA 0, h0_kinds_all_n, .inl h0_kinds_all_c))]) (sz := sz) (mc := 0) (ms := 0) (fun A => va_Qi (fun (r9 : Int32) (u9 : Unit) => r9 = out) (zPost D A (fun (u9 : Unit) => [(h0, .inr (13, f0_h0)), (h0_kinds, .inr (14, f0_h0_kinds)), (h0_kinds_all, .inl (tA 0, h0_kinds_all_n, .inl h0_kinds_all_c))])) A) (lv := [(0, .ref h0), (1, .int l1)]) (by decide) rfl (Nat.le_of_ble_eq_true rfl) rfl ?_
  intro p e s m below meth c A ls hx hb hr hml hh hg hown hlocks hnm hK hA hP hD0 hAw hS hl
  have hD := zD hD0 hAw
  exact (a_MM_closeOf hx hb hr hml hh hg hown hlocks hK hA n).1 0 0   _ _ _ hF q_h0_kinds q_h0_kinds_all hP hD hS hl
def f_MM_initOf (h0_kinds_all_n : Nat) (l1 : Int32) (l2 : Int32) (h0_kinds_all_c : Nat → Int32) : Nat → Nat → Int32 → Option (Int32)
  | 0, _, _ => none
  | n + 1, 0, l3 => chk True (f_MM_initOf h0_kinds_all_n l1 l2 h0_kinds_all_c n 1 l1)
  | n + 1, 1, l3 => if (l2 : Int32) ≤ l3 then some (l3) else Option.bind (f_MM_word1 h0_kinds_all_n l3 h0_kinds_all_c) (fun o1 => if (o1 : Int32) = 9 then some (l3) else f_MM_initOf h0_kinds_all_n l1 l2 h0_kinds_all_c n 1 (l3 + Int32.ofInt 1))
  | _ + 1, _ + 2, _ => none
theorem e_MM_initOf_0 (h0_kinds_all_n : Nat) (l1 : Int32) (l2 : Int32) (h0_kinds_all_c : Nat → Int32) (n : Nat) (l3 : Int32) : f_MM_initOf h0_kinds_all_n l1 l2 h0_kinds_all_c (n + 1) 0 l3 = chk True (f_MM_initOf h0_kinds_all_n l1 l2 h0_kinds_all_c n 1 l1) := by rw [f_MM_initOf]
theorem e_MM_initOf_1 (h0_kinds_all_n : Nat) (l1 : Int32) (l2 : Int32) (h0_kinds_all_c : Nat → Int32) (n : Nat) (l3 : Int32) : f_MM_initOf h0_kinds_all_n l1 l2 h0_kinds_all_c (n + 1) 1 l3 = if (l2 : Int32) ≤ l3 then some (l3) else Option.bind (f_MM_word1 h0_kinds_all_n l3 h0_kinds_all_c) (fun o1 => if (o1 : Int32) = 9 then some (l3) else f_MM_initOf h0_kinds_all_n l1 l2 h0_kinds_all_c n 1 (l3 + Int32.ofInt 1)) := by rw [f_MM_initOf]
theorem z_MM_initOf (h0_kinds_all_n : Nat) (l1 : Int32) (l2 : Int32) (h0_kinds_all_c : Nat → Int32) (h : Nat) (l3 : Int32) : f_MM_initOf h0_kinds_all_n l1 l2 h0_kinds_all_c 0 h l3 = none := by rw [f_MM_initOf]
set_option maxHeartbeats 4000000 in
set_option maxRecDepth 100000 in
theorem b_MM_initOf_0 {p : Program} {l : Launch} {e : Env} {s : State} {m : MethodId} {args : Array Value} {below : List Frame} {meth : Method} {c : Code} {D : va_G} {tA : Nat → ClassId} {A : Nat → Prop} {h0 h0_kinds h0_kinds_all : Nat} {f0_h0 f0_h0_kinds : List Value} {h0_kinds_all_n : Nat} {l1 : Int32} {l2 : Int32} {h0_kinds_all_c : Nat → Int32} {out : Int32} (hx : p.tables.exec = Jvm.exec) (hb : c.code = prog_15_method_68_code) (hr : meth.sig.returnType = (Option.some Jvm.ClassFile.FieldType.int)) (hml : c.maxLocals = 4) (hh : zH s) (hg : ∀ w ∈ lw_R, w.before args s = true) (hown : s.vm.findClass "ChanceArenaModel" = some m.cls) (hlocks : meth.locks = false) (hK : va_K D vwCl (zT tA) s) (hA : ∀ q, s.heap.size ≤ q → A q) {n : Nat} (ih1 : ∀ (l3 : Int32) (H : Heap) (locs : List Loc) (ls : Array Slot), f_MM_initOf h0_kinds_all_n l1 l2 h0_kinds_all_c n 1 l3 = some out → f0_h0[3]? = some (.ref h0_kinds) → f0_h0_kinds[0]? = some (.ref h0_kinds_all) → va_P D vwCl [(h0, .inr (13, f0_h0)), (h0_kinds, .inr (14, f0_h0_kinds)), (h0_kinds_all, .inl (tA 0, h0_kinds_all_n, .inl h0_kinds_all_c))] H → va_D A [(h0, .inr (13, f0_h0)), (h0_kinds, .inr (14, f0_h0_kinds)), (h0_kinds_all, .inl (tA 0, h0_kinds_all_n, .inl h0_kinds_all_c))] → va_S A s.heap H locs → lv_has ls 4 [(0, .ref h0), (1, .int l1), (2, .int l2), (3, .int l3)] → W p l e { frames := 2, cells := 0, slots := 0, locals := 42 } s m args below meth c H locs 0 0 (MQ below (va_Qi (fun (r9 : Int32) (u9 : Unit) => r9 = out) (zPost D A (fun (u9 : Unit) => [(h0, .inr (13, f0_h0)), (h0_kinds, .inr (14, f0_h0_kinds)), (h0_kinds_all, .inl (tA 0, h0_kinds_all_n, .inl h0_kinds_all_c))])) A) args s 0 0 A) (F0 m 2 ls [])) : ∀ (l3 : Int32) (H : Heap) (locs : List Loc) (ls : Array Slot), f_MM_initOf h0_kinds_all_n l1 l2 h0_kinds_all_c (n + 1) 0 l3 = some out → f0_h0[3]? = some (.ref h0_kinds) → f0_h0_kinds[0]? = some (.ref h0_kinds_all) → va_P D vwCl [(h0, .inr (13, f0_h0)), (h0_kinds, .inr (14, f0_h0_kinds)), (h0_kinds_all, .inl (tA 0, h0_kinds_all_n, .inl h0_kinds_all_c))] H → va_D A [(h0, .inr (13, f0_h0)), (h0_kinds, .inr (14, f0_h0_kinds)), (h0_kinds_all, .inl (tA 0, h0_kinds_all_n, .inl h0_kinds_all_c))] → va_S A s.heap H locs → lv_has ls 4 [(0, .ref h0), (1, .int l1), (2, .int l2)] → W p l e { frames := 2, cells := 0, slots := 0, locals := 42 } s m args below meth c H locs 0 0 (MQ below (va_Qi (fun (r9 : Int32) (u9 : Unit) => r9 = out) (zPost D A (fun (u9 : Unit) => [(h0, .inr (13, f0_h0)), (h0_kinds, .inr (14, f0_h0_kinds)), (h0_kinds_all, .inl (tA 0, h0_kinds_all_n, .inl h0_kinds_all_c))])) A) args s 0 0 A) (F0 m 0 ls []) := by
  intro l3   H locs ls hF q_h0_kinds q_h0_kinds_all hP hD hS hl
  rw [e_MM_initOf_0] at hF
  obtain ⟨_, hF⟩ := chk_some hF
  refine lv_iload_n hx hb d_MM_initOf_0 rfl (lv_at hl 1 rfl) ?_
  refine lv_istore_n (lv' := [(3, .int l1), (0, .ref h0), (1, .int l1), (2, .int l2)]) hx hb d_MM_initOf_1 rfl hl (by decide) rfl (fun ls hl => ?_)
  exact ih1 l1   _ _ _ hF q_h0_kinds q_h0_kinds_all hP hD hS (lv_sub hl [1, 2, 3, 0] rfl)
set_option maxHeartbeats 4000000 in
set_option maxRecDepth 100000 in
theorem b_MM_initOf_1 {p : Program} {l : Launch} {e : Env} {s : State} {m : MethodId} {args : Array Value} {below : List Frame} {meth : Method} {c : Code} {D : va_G} {tA : Nat → ClassId} {A : Nat → Prop} {h0 h0_kinds h0_kinds_all : Nat} {f0_h0 f0_h0_kinds : List Value} {h0_kinds_all_n : Nat} {l1 : Int32} {l2 : Int32} {h0_kinds_all_c : Nat → Int32} {out : Int32} (hx : p.tables.exec = Jvm.exec) (hb : c.code = prog_15_method_68_code) (hr : meth.sig.returnType = (Option.some Jvm.ClassFile.FieldType.int)) (hml : c.maxLocals = 4) (hh : zH s) (hg : ∀ w ∈ lw_R, w.before args s = true) (hown : s.vm.findClass "ChanceArenaModel" = some m.cls) (hlocks : meth.locks = false) (hK : va_K D vwCl (zT tA) s) (hA : ∀ q, s.heap.size ≤ q → A q) {n : Nat} (ih1 : ∀ (l3 : Int32) (H : Heap) (locs : List Loc) (ls : Array Slot), f_MM_initOf h0_kinds_all_n l1 l2 h0_kinds_all_c n 1 l3 = some out → f0_h0[3]? = some (.ref h0_kinds) → f0_h0_kinds[0]? = some (.ref h0_kinds_all) → va_P D vwCl [(h0, .inr (13, f0_h0)), (h0_kinds, .inr (14, f0_h0_kinds)), (h0_kinds_all, .inl (tA 0, h0_kinds_all_n, .inl h0_kinds_all_c))] H → va_D A [(h0, .inr (13, f0_h0)), (h0_kinds, .inr (14, f0_h0_kinds)), (h0_kinds_all, .inl (tA 0, h0_kinds_all_n, .inl h0_kinds_all_c))] → va_S A s.heap H locs → lv_has ls 4 [(0, .ref h0), (1, .int l1), (2, .int l2), (3, .int l3)] → W p l e { frames := 2, cells := 0, slots := 0, locals := 42 } s m args below meth c H locs 0 0 (MQ below (va_Qi (fun (r9 : Int32) (u9 : Unit) => r9 = out) (zPost D A (fun (u9 : Unit) => [(h0, .inr (13, f0_h0)), (h0_kinds, .inr (14, f0_h0_kinds)), (h0_kinds_all, .inl (tA 0, h0_kinds_all_n, .inl h0_kinds_all_c))])) A) args s 0 0 A) (F0 m 2 ls [])) : ∀ (l3 : Int32) (H : Heap) (locs : List Loc) (ls : Array Slot), f_MM_initOf h0_kinds_all_n l1 l2 h0_kinds_all_c (n + 1) 1 l3 = some out → f0_h0[3]? = some (.ref h0_kinds) → f0_h0_kinds[0]? = some (.ref h0_kinds_all) → va_P D vwCl [(h0, .inr (13, f0_h0)), (h0_kinds, .inr (14, f0_h0_kinds)), (h0_kinds_all, .inl (tA 0, h0_kinds_all_n, .inl h0_kinds_all_c))] H → va_D A [(h0, .inr (13, f0_h0)), (h0_kinds, .inr (14, f0_h0_kinds)), (h0_kinds_all, .inl (tA 0, h0_kinds_all_n, .inl h0_kinds_all_c))] → va_S A s.heap H locs → lv_has ls 4 [(0, .ref h0), (1, .int l1), (2, .int l2), (3, .int l3)] → W p l e { frames := 2, cells := 0, slots := 0, locals := 42 } s m args below meth c H locs 0 0 (MQ below (va_Qi (fun (r9 : Int32) (u9 : Unit) => r9 = out) (zPost D A (fun (u9 : Unit) => [(h0, .inr (13, f0_h0)), (h0_kinds, .inr (14, f0_h0_kinds)), (h0_kinds_all, .inl (tA 0, h0_kinds_all_n, .inl h0_kinds_all_c))])) A) args s 0 0 A) (F0 m 2 ls []) := by
  intro l3   H locs ls hF q_h0_kinds q_h0_kinds_all hP hD hS hl
  rw [e_MM_initOf_1] at hF
  refine lv_iload_n hx hb d_MM_initOf_2 rfl (lv_at hl 3 rfl) ?_
  refine lv_iload_n hx hb d_MM_initOf_3 rfl (lv_at hl 2 rfl) ?_
  refine lv_icmp_ge (tgt := 23) hx hb d_MM_initOf_4 (by decide) (fun c9 => ?_) (fun c9 => ?_)
  · replace hF := ifp c9 hF
    refine lv_iload_n hx hb d_MM_initOf_23 rfl (lv_at hl 3 rfl) ?_
    replace hF := Option.some.inj hF
    subst hF
    exact zZret (post := (fun (r9 : Int32) (u9 : Unit) => r9 = l3)) (W1 := (fun (u9 : Unit) => [(h0, .inr (13, f0_h0)), (h0_kinds, .inr (14, f0_h0_kinds)), (h0_kinds_all, .inl (tA 0, h0_kinds_all_n, .inl h0_kinds_all_c))])) (v := l3) hx hb hr rfl hlocks hP hD hS () rfl rfl d_MM_initOf_24
  · replace hF := ifn c9 hF
    refine lv_aload_n hx hb d_MM_initOf_7 rfl (lv_at hl 0 rfl) ?_
    refine lv_iload_n hx hb d_MM_initOf_8 rfl (lv_at hl 3 rfl) ?_
    obtain ⟨o1, h1, hF⟩ := bsome hF
    refine zCalli (wc := [(h0, .inr (13, f0_h0)), (h0_kinds, .inr (14, f0_h0_kinds)), (h0_kinds_all, .inl (tA 0, h0_kinds_all_n, .inl h0_kinds_all_c))]) (wr := []) hP hD hS hA [0, 1, 2] [] rfl rfl (by decide) (by decide) (va_runV (As := [.int l3]) (rest := []) ⟨hx, hb, hml, hown, hg⟩ (m_MM_word1 l D tA _ h0 h0_kinds h0_kinds_all f0_h0 f0_h0_kinds h0_kinds_all_n l3 h0_kinds_all_c q_h0_kinds q_h0_kinds_all o1 h1) (zV 1 hg k11_93 k11_95 ks_MM_word1 k1_14 k11_96 rfl rfl (by decide +kernel) ⟨(Nat.le_of_ble_eq_true rfl), (Nat.le_of_ble_eq_true rfl)⟩) (zPreV hh hK hP hD [0, 1, 2] (by decide) rfl (ci := 13) rfl 0 rfl) rfl rfl hl.1 rfl (lv_room (Nat.le_of_ble_eq_true rfl)) d_MM_initOf_9 ⟨(Nat.le_of_ble_eq_true rfl), (Nat.le_of_ble_eq_true rfl)⟩) (fun r1 u1 H1 locs1 e1 hP1 hD1 hS1 => ?_)
    clear hP hD hS
    refine W.cs (cells' := 0) (slots' := 0) rfl rfl ?_
    have x1 := e1
    rw [x1]
    replace hP1 : va_P D vwCl [(h0, .inr (13, f0_h0)), (h0_kinds, .inr (14, f0_h0_kinds)), (h0_kinds_all, .inl (tA 0, h0_kinds_all_n, .inl h0_kinds_all_c))] _ := hP1
    replace hD1 : va_D A [(h0, .inr (13, f0_h0)), (h0_kinds, .inr (14, f0_h0_kinds)), (h0_kinds_all, .inl (tA 0, h0_kinds_all_n, .inl h0_kinds_all_c))] := hD1
    refine lv_bipush (v := 9) hx hb d_MM_initOf_12 (by decide) ?_
    refine lv_icmp_eq (tgt := 23) hx hb d_MM_initOf_14 (by decide) (fun c9 => ?_) (fun c9 => ?_)
    · replace hF := ifp c9 hF
      refine lv_iload_n hx hb d_MM_initOf_23 rfl (lv_at hl 3 rfl) ?_
      replace hF := Option.some.inj hF
      subst hF
      exact zZret (post := (fun (r9 : Int32) (u9 : Unit) => r9 = l3)) (W1 := (fun (u9 : Unit) => [(h0, .inr (13, f0_h0)), (h0_kinds, .inr (14, f0_h0_kinds)), (h0_kinds_all, .inl (tA 0, h0_kinds_all_n, .inl h0_kinds_all_c))])) (v := l3) hx hb hr rfl hlocks hP1 hD1 hS1 () rfl rfl d_MM_initOf_24
    · replace hF := ifn c9 hF
      refine lv_iinc (v := (l3 + Int32.ofInt 1)) (lv' := [(3, .int (l3 + Int32.ofInt 1)), (0, .ref h0), (1, .int l1), (2, .int l2)]) hx hb d_MM_initOf_17 hl (k := 3) rfl rfl (by decide) rfl (fun ls hl => ?_)
      refine lv_goto (tgt := 2) hx hb d_MM_initOf_20 (by decide) ?_
      exact ih1 (l3 + Int32.ofInt 1)   _ _ _ hF q_h0_kinds q_h0_kinds_all hP1 hD1 hS1 (lv_sub hl [1, 2, 3, 0] rfl)
set_option maxHeartbeats 4000000 in
set_option maxRecDepth 100000 in
theorem a_MM_initOf {p : Program} {l : Launch} {e : Env} {s : State} {m : MethodId} {args : Array Value} {below : List Frame} {meth : Method} {c : Code} {D : va_G} {tA : Nat → ClassId} {A : Nat → Prop} {h0 h0_kinds h0_kinds_all : Nat} {f0_h0 f0_h0_kinds : List Value} {h0_kinds_all_n : Nat} {l1 : Int32} {l2 : Int32} {h0_kinds_all_c : Nat → Int32} {out : Int32} (hx : p.tables.exec = Jvm.exec) (hb : c.code = prog_15_method_68_code) (hr : meth.sig.returnType = (Option.some Jvm.ClassFile.FieldType.int)) (hml : c.maxLocals = 4) (hh : zH s) (hg : ∀ w ∈ lw_R, w.before args s = true) (hown : s.vm.findClass "ChanceArenaModel" = some m.cls) (hlocks : meth.locks = false) (hK : va_K D vwCl (zT tA) s) (hA : ∀ q, s.heap.size ≤ q → A q) : ∀ n : Nat, (∀ (l3 : Int32) (H : Heap) (locs : List Loc) (ls : Array Slot), f_MM_initOf h0_kinds_all_n l1 l2 h0_kinds_all_c n 0 l3 = some out → f0_h0[3]? = some (.ref h0_kinds) → f0_h0_kinds[0]? = some (.ref h0_kinds_all) → va_P D vwCl [(h0, .inr (13, f0_h0)), (h0_kinds, .inr (14, f0_h0_kinds)), (h0_kinds_all, .inl (tA 0, h0_kinds_all_n, .inl h0_kinds_all_c))] H → va_D A [(h0, .inr (13, f0_h0)), (h0_kinds, .inr (14, f0_h0_kinds)), (h0_kinds_all, .inl (tA 0, h0_kinds_all_n, .inl h0_kinds_all_c))] → va_S A s.heap H locs → lv_has ls 4 [(0, .ref h0), (1, .int l1), (2, .int l2)] → W p l e { frames := 2, cells := 0, slots := 0, locals := 42 } s m args below meth c H locs 0 0 (MQ below (va_Qi (fun (r9 : Int32) (u9 : Unit) => r9 = out) (zPost D A (fun (u9 : Unit) => [(h0, .inr (13, f0_h0)), (h0_kinds, .inr (14, f0_h0_kinds)), (h0_kinds_all, .inl (tA 0, h0_kinds_all_n, .inl h0_kinds_all_c))])) A) args s 0 0 A) (F0 m 0 ls [])) ∧ (∀ (l3 : Int32) (H : Heap) (locs : List Loc) (ls : Array Slot), f_MM_initOf h0_kinds_all_n l1 l2 h0_kinds_all_c n 1 l3 = some out → f0_h0[3]? = some (.ref h0_kinds) → f0_h0_kinds[0]? = some (.ref h0_kinds_all) → va_P D vwCl [(h0, .inr (13, f0_h0)), (h0_kinds, .inr (14, f0_h0_kinds)), (h0_kinds_all, .inl (tA 0, h0_kinds_all_n, .inl h0_kinds_all_c))] H → va_D A [(h0, .inr (13, f0_h0)), (h0_kinds, .inr (14, f0_h0_kinds)), (h0_kinds_all, .inl (tA 0, h0_kinds_all_n, .inl h0_kinds_all_c))] → va_S A s.heap H locs → lv_has ls 4 [(0, .ref h0), (1, .int l1), (2, .int l2), (3, .int l3)] → W p l e { frames := 2, cells := 0, slots := 0, locals := 42 } s m args below meth c H locs 0 0 (MQ below (va_Qi (fun (r9 : Int32) (u9 : Unit) => r9 = out) (zPost D A (fun (u9 : Unit) => [(h0, .inr (13, f0_h0)), (h0_kinds, .inr (14, f0_h0_kinds)), (h0_kinds_all, .inl (tA 0, h0_kinds_all_n, .inl h0_kinds_all_c))])) A) args s 0 0 A) (F0 m 2 ls [])) := by
  intro n
  induction n with
  | zero => exact ⟨(fun _ _ _ _ hF => by rw [z_MM_initOf] at hF; cases hF), (fun _ _ _ _ hF => by rw [z_MM_initOf] at hF; cases hF)⟩
  | succ n ih =>
    obtain ⟨i0, i1⟩ := ih
    exact ⟨b_MM_initOf_0 hx hb hr hml hh hg hown hlocks hK hA i1, b_MM_initOf_1 hx hb hr hml hh hg hown hlocks hK hA i1⟩
set_option maxHeartbeats 4000000 in
set_option maxRecDepth 100000 in
theorem m_MM_initOf (l : Launch) (D : va_G) (tA : Nat → ClassId) (sz : Nat) (h0 h0_kinds h0_kinds_all : Nat) (f0_h0 f0_h0_kinds : List Value) (h0_kinds_all_n : Nat) (l1 : Int32) (l2 : Int32) (h0_kinds_all_c : Nat → Int32) (q_h0_kinds : f0_h0[3]? = some (.ref h0_kinds)) (q_h0_kinds_all : f0_h0_kinds[0]? = some (.ref h0_kinds_all)) (n : Nat) (out : Int32) (hF : f_MM_initOf h0_kinds_all_n l1 l2 h0_kinds_all_c n 0 0 = some out) : zMi l ({ cls := "ChanceArenaModel", name := "initOf", desc := "(II)I" } : Jvm.MethodName) (zW (Jvm.Cond.code ({ cls := "ChanceArenaModel", name := "initOf", desc := "(II)I" } : Jvm.MethodName) prog_15_method_68_code (4 : Nat) (Option.some Jvm.ClassFile.FieldType.int))) { frames := 2, cells := 0, slots := 0, locals := 42 } [.ref h0, .int l1, .int l2] D tA [(h0, .inr (13, f0_h0)), (h0_kinds, .inr (14, f0_h0_kinds)), (h0_kinds_all, .inl (tA 0, h0_kinds_all_n, .inl h0_kinds_all_c))] sz (fun (r9 : Int32) (u9 : Unit) => r9 = out) (fun (u9 : Unit) => [(h0, .inr (13, f0_h0)), (h0_kinds, .inr (14, f0_h0_kinds)), (h0_kinds_all, .inl (tA 0, h0_kinds_all_n, .inl h0_kinds_all_c))]) 0 0 := by
  refine zOpen (l := l) (y := ({ cls := "ChanceArenaModel", name := "initOf", desc := "(II)I" } : Jvm.MethodName)) (ws := zW (Jvm.Cond.code ({ cls := "ChanceArenaModel", name := "initOf", desc := "(II)I" } : Jvm.MethodName) prog_15_method_68_code (4 : Nat) (Option.some Jvm.ClassFile.FieldType.int))) (rm := { frames := 2, cells := 0, slots := 0, locals := 42 }) (av := [.ref h0, .int l1, .int l2]) (D := D) (tA := tA) (W0 := [(h0, .inr (13, f0_h0)), (h0_kinds, .inr (14, f0_h0_kinds)), (h0_kinds_all, .inl (tA 0, h0_kinds_all_n, .inl h0_kinds_all_c))]) (Wm := [(h0, .inr (13, f0_h0)), (h0_kinds, .inr (14, f0_h0_kinds)), (h0_kinds_all, .inl (tA 0, h0_kinds_all_n, .inl h0_kinds_all_c))]) (sz := sz) (mc := 0) (ms := 0) (fun A => va_Qi (fun (r9 : Int32) (u9 : Unit) => r9 = out) (zPost D A (fun (u9 : Unit) => [(h0, .inr (13, f0_h0)), (h0_kinds, .inr (14, f0_h0_kinds)), (h0_kinds_all, .inl (tA 0, h0_kinds_all_n, .inl h0_kinds_all_c))])) A) (lv := [(0, .ref h0), (1, .int l1), (2, .int l2)]) (by decide) rfl (Nat.le_of_ble_eq_true rfl) rfl ?_
  intro p e s m below meth c A ls hx hb hr hml hh hg hown hlocks hnm hK hA hP hD0 hAw hS hl
  have hD := zD hD0 hAw
  exact (a_MM_initOf hx hb hr hml hh hg hown hlocks hK hA n).1 0   _ _ _ hF q_h0_kinds q_h0_kinds_all hP hD hS hl
def f_MM_place1 (h0_wrong : Int32) (h0_thrown : Int32) : Option (Int32 × Int32) := some (h0_wrong, 0)
set_option maxHeartbeats 4000000 in
set_option maxRecDepth 100000 in
theorem b_MM_place1_0 {p : Program} {l : Launch} {e : Env} {s : State} {m : MethodId} {args : Array Value} {below : List Frame} {meth : Method} {c : Code} {D : va_G} {tA : Nat → ClassId} {A : Nat → Prop} {h0 : Nat} {f0_h0 : List Value} {h0_wrong : Int32} {h0_thrown : Int32} {out : Int32 × Int32} (hx : p.tables.exec = Jvm.exec) (hb : c.code = prog_15_method_75_code) (hr : meth.sig.returnType = (Option.some Jvm.ClassFile.FieldType.int)) (hml : c.maxLocals = 1) (hh : zH s) (hg : ∀ w ∈ lw_R, w.before args s = true) (hown : s.vm.findClass "ChanceArenaModel" = some m.cls) (hlocks : meth.locks = false) (hK : va_K D vwCl (zT tA) s) (hA : ∀ q, s.heap.size ≤ q → A q)  : ∀ (f_h0 : List Value) (H : Heap) (locs : List Loc) (ls : Array Slot), f_MM_place1 h0_wrong h0_thrown = some out → f_h0[0]? = some (.int h0_thrown) → f_h0[12]? = some (.int h0_wrong) → Fr [0] f0_h0 f_h0 → va_P D vwCl [(h0, .inr (13, f_h0))] H → va_D A [(h0, .inr (13, f_h0))] → va_S A s.heap H locs → lv_has ls 1 [(0, .ref h0)] → W p l e { frames := 0, cells := 0, slots := 0, locals := 0 } s m args below meth c H locs 0 0 (MQ below (va_Qi (fun (r9 : Int32) (u9 : List Value) => r9 = out.1 ∧ Fr [0] f0_h0 u9 ∧ u9[0]? = some (.int out.2)) (zPost D A (fun (u9 : List Value) => [(h0, .inr (13, u9))])) A) args s 0 0 A) (F0 m 0 ls []) := by
  intro   f_h0 H locs ls hF q_h0_thrown q_h0_wrong r_h0 hP hD hS hl
  replace hF : ((some (h0_wrong, 0)) : Option (Int32 × Int32)) = some out := hF
  refine lv_aload_n hx hb d_MM_place1_0 rfl (lv_at hl 0 rfl) ?_
  refine lv_iconst (v := 0) hx hb d_MM_place1_1 (by decide) ?_
  refine va_put (D := D) (ci := 13) (v := .int 0) (ty := .int) (C := R_MM) (T := T_MM) (N := 49) hx hb hg i_MM t_MM o_MM n_MM hown hK hP hD hS 0 rfl rfl 0 (by decide) (hg _ k10_46) (fun _ h9 => h9) rfl (by decide +kernel) rfl rfl (zLen q_h0_thrown) d_MM_place1_2 (fun H1 locs1 hP1 hD1 hS1 => ?_)
  clear hP hD hS
  replace hP1 : va_P D vwCl [(h0, .inr (13, f_h0.set 0 (.int 0)))] _ := hP1
  replace hD1 : va_D A [(h0, .inr (13, f_h0.set 0 (.int 0)))] := hD1
  refine lv_aload_n hx hb d_MM_place1_5 rfl (lv_at hl 0 rfl) ?_
  refine va_get (D := D) (ci := 13) (v := .int h0_wrong) (C := R_MM) (T := T_MM) (N := 49) hx hb hg i_MM hown hK hP1 0 rfl rfl 12 (by decide) (hg _ k10_58) (fun _ h9 => h9) (zSetN (by decide) q_h0_wrong) d_MM_place1_6 ?_
  replace hF := Option.some.inj hF
  subst hF
  exact zZret (post := (fun (r9 : Int32) (u9 : List Value) => r9 = (h0_wrong, 0).1 ∧ Fr [0] f0_h0 u9 ∧ u9[0]? = some (.int ((h0_wrong, 0).2)))) (W1 := (fun (u9 : List Value) => [(h0, .inr (13, u9))])) (v := h0_wrong) hx hb hr rfl hlocks hP1 hD1 hS1 (f_h0.set 0 (.int 0)) ⟨rfl, (Fr.set r_h0 (by decide)), (zSetS q_h0_thrown)⟩ rfl d_MM_place1_9
set_option maxHeartbeats 4000000 in
set_option maxRecDepth 100000 in
theorem m_MM_place1 (l : Launch) (D : va_G) (tA : Nat → ClassId) (sz : Nat) (h0 : Nat) (f0_h0 : List Value) (h0_wrong : Int32) (h0_thrown : Int32) (q_h0_thrown : f0_h0[0]? = some (.int h0_thrown)) (q_h0_wrong : f0_h0[12]? = some (.int h0_wrong)) (out : Int32 × Int32) (hF : f_MM_place1 h0_wrong h0_thrown = some out) : zMi l ({ cls := "ChanceArenaModel", name := "place", desc := "()I" } : Jvm.MethodName) (zW (Jvm.Cond.code ({ cls := "ChanceArenaModel", name := "place", desc := "()I" } : Jvm.MethodName) prog_15_method_75_code (1 : Nat) (Option.some Jvm.ClassFile.FieldType.int))) { frames := 0, cells := 0, slots := 0, locals := 0 } [.ref h0] D tA [(h0, .inr (13, f0_h0))] sz (fun (r9 : Int32) (u9 : List Value) => r9 = out.1 ∧ Fr [0] f0_h0 u9 ∧ u9[0]? = some (.int out.2)) (fun (u9 : List Value) => [(h0, .inr (13, u9))]) 0 0 := by
  refine zOpen (l := l) (y := ({ cls := "ChanceArenaModel", name := "place", desc := "()I" } : Jvm.MethodName)) (ws := zW (Jvm.Cond.code ({ cls := "ChanceArenaModel", name := "place", desc := "()I" } : Jvm.MethodName) prog_15_method_75_code (1 : Nat) (Option.some Jvm.ClassFile.FieldType.int))) (rm := { frames := 0, cells := 0, slots := 0, locals := 0 }) (av := [.ref h0]) (D := D) (tA := tA) (W0 := [(h0, .inr (13, f0_h0))]) (Wm := [(h0, .inr (13, f0_h0))]) (sz := sz) (mc := 0) (ms := 0) (fun A => va_Qi (fun (r9 : Int32) (u9 : List Value) => r9 = out.1 ∧ Fr [0] f0_h0 u9 ∧ u9[0]? = some (.int out.2)) (zPost D A (fun (u9 : List Value) => [(h0, .inr (13, u9))])) A) (lv := [(0, .ref h0)]) (by decide) rfl (Nat.le_of_ble_eq_true rfl) rfl ?_
  intro p e s m below meth c A ls hx hb hr hml hh hg hown hlocks hnm hK hA hP hD0 hAw hS hl
  have hD := zD hD0 hAw
  exact b_MM_place1_0 hx hb hr hml hh hg hown hlocks hK hA   f0_h0 _ _ _ hF q_h0_thrown q_h0_wrong Fr.rfl hP hD hS hl
def f_MM_items1 (l1 : Int32) (h0_known : Int32) (h0_game_commands : Int32) (h0_game_rules : Int32) (h0_game_vars : Int32) (h0_thrown : Int32) : Option (Int32 × Int32) := if ¬ (h0_known : Int32) = 0 then (if ¬ (l1 : Int32) = 0 then (if ¬ (l1 : Int32) = 1 then (if ¬ (l1 : Int32) = 2 then some ((-1), 0) else some (h0_game_commands, 0)) else some (h0_game_rules, 0)) else some (h0_game_vars, 0)) else some ((-1), 0)
set_option maxHeartbeats 4000000 in
set_option maxRecDepth 100000 in
theorem b_MM_items1_0 {p : Program} {l : Launch} {e : Env} {s : State} {m : MethodId} {args : Array Value} {below : List Frame} {meth : Method} {c : Code} {D : va_G} {tA : Nat → ClassId} {A : Nat → Prop} {h0 h0_game : Nat} {f0_h0 f0_h0_game : List Value} {l1 : Int32} {h0_known : Int32} {h0_game_commands : Int32} {h0_game_rules : Int32} {h0_game_vars : Int32} {h0_thrown : Int32} {out : Int32 × Int32} (hx : p.tables.exec = Jvm.exec) (hb : c.code = prog_15_method_76_code) (hr : meth.sig.returnType = (Option.some Jvm.ClassFile.FieldType.int)) (hml : c.maxLocals = 2) (hh : zH s) (hg : ∀ w ∈ lw_R, w.before args s = true) (hown : s.vm.findClass "ChanceArenaModel" = some m.cls) (hlocks : meth.locks = false) (hK : va_K D vwCl (zT tA) s) (hA : ∀ q, s.heap.size ≤ q → A q)  : ∀ (f_h0 : List Value) (H : Heap) (locs : List Loc) (ls : Array Slot), f_MM_items1 l1 h0_known h0_game_commands h0_game_rules h0_game_vars h0_thrown = some out → f_h0[9]? = some (.ref h0_game) → f_h0[0]? = some (.int h0_thrown) → f_h0[11]? = some (.int h0_known) → Fr [0] f0_h0 f_h0 → f0_h0_game[18]? = some (.int h0_game_commands) → f0_h0_game[6]? = some (.int h0_game_rules) → f0_h0_game[12]? = some (.int h0_game_vars) → va_P D vwCl [(h0, .inr (13, f_h0)), (h0_game, .inr (15, f0_h0_game))] H → va_D A [(h0, .inr (13, f_h0)), (h0_game, .inr (15, f0_h0_game))] → va_S A s.heap H locs → lv_has ls 2 [(0, .ref h0), (1, .int l1)] → W p l e { frames := 0, cells := 0, slots := 0, locals := 0 } s m args below meth c H locs 0 0 (MQ below (va_Qi (fun (r9 : Int32) (u9 : List Value) => r9 = out.1 ∧ Fr [0] f0_h0 u9 ∧ u9[0]? = some (.int out.2)) (zPost D A (fun (u9 : List Value) => [(h0, .inr (13, u9)), (h0_game, .inr (15, f0_h0_game))])) A) args s 0 0 A) (F0 m 0 ls []) := by
  intro   f_h0 H locs ls hF q_h0_game q_h0_thrown q_h0_known r_h0 q_h0_game_commands q_h0_game_rules q_h0_game_vars hP hD hS hl
  replace hF : ((if ¬ (h0_known : Int32) = 0 then (if ¬ (l1 : Int32) = 0 then (if ¬ (l1 : Int32) = 1 then (if ¬ (l1 : Int32) = 2 then some ((-1), 0) else some (h0_game_commands, 0)) else some (h0_game_rules, 0)) else some (h0_game_vars, 0)) else some ((-1), 0)) : Option (Int32 × Int32)) = some out := hF
  refine lv_aload_n hx hb d_MM_items1_0 rfl (lv_at hl 0 rfl) ?_
  refine lv_iconst (v := 0) hx hb d_MM_items1_1 (by decide) ?_
  refine va_put (D := D) (ci := 13) (v := .int 0) (ty := .int) (C := R_MM) (T := T_MM) (N := 49) hx hb hg i_MM t_MM o_MM n_MM hown hK hP hD hS 0 rfl rfl 0 (by decide) (hg _ k10_46) (fun _ h9 => h9) rfl (by decide +kernel) rfl rfl (zLen q_h0_thrown) d_MM_items1_2 (fun H1 locs1 hP1 hD1 hS1 => ?_)
  clear hP hD hS
  replace hP1 : va_P D vwCl [(h0, .inr (13, f_h0.set 0 (.int 0))), (h0_game, .inr (15, f0_h0_game))] _ := hP1
  replace hD1 : va_D A [(h0, .inr (13, f_h0.set 0 (.int 0))), (h0_game, .inr (15, f0_h0_game))] := hD1
  refine lv_aload_n hx hb d_MM_items1_5 rfl (lv_at hl 0 rfl) ?_
  refine va_get (D := D) (ci := 13) (v := .int h0_known) (C := R_MM) (T := T_MM) (N := 49) hx hb hg i_MM hown hK hP1 0 rfl rfl 11 (by decide) (hg _ k10_57) (fun _ h9 => h9) (zSetN (by decide) q_h0_known) d_MM_items1_6 ?_
  refine lv_if_ne (tgt := 16) hx hb d_MM_items1_9 (by decide) (fun c9 => ?_) (fun c9 => ?_)
  · replace hF := ifp c9 hF
    refine lv_iload_n hx hb d_MM_items1_16 rfl (lv_at hl 1 rfl) ?_
    refine lv_if_ne (tgt := 30) hx hb d_MM_items1_17 (by decide) (fun c9 => ?_) (fun c9 => ?_)
    · replace hF := ifp c9 hF
      refine lv_iload_n hx hb d_MM_items1_30 rfl (lv_at hl 1 rfl) ?_
      refine lv_iconst (v := 1) hx hb d_MM_items1_31 (by decide) ?_
      refine lv_icmp_ne (tgt := 45) hx hb d_MM_items1_32 (by decide) (fun c9 => ?_) (fun c9 => ?_)
      · replace hF := ifp c9 hF
        refine lv_iload_n hx hb d_MM_items1_45 rfl (lv_at hl 1 rfl) ?_
        refine lv_iconst (v := 2) hx hb d_MM_items1_46 (by decide) ?_
        refine lv_icmp_ne (tgt := 60) hx hb d_MM_items1_47 (by decide) (fun c9 => ?_) (fun c9 => ?_)
        · replace hF := ifp c9 hF
          refine lv_iconst (v := (-1)) hx hb d_MM_items1_60 (by decide) ?_
          replace hF := Option.some.inj hF
          subst hF
          exact zZret (post := (fun (r9 : Int32) (u9 : List Value) => r9 = ((-1), 0).1 ∧ Fr [0] f0_h0 u9 ∧ u9[0]? = some (.int (((-1), 0).2)))) (W1 := (fun (u9 : List Value) => [(h0, .inr (13, u9)), (h0_game, .inr (15, f0_h0_game))])) (v := (-1)) hx hb hr rfl hlocks hP1 hD1 hS1 (f_h0.set 0 (.int 0)) ⟨rfl, (Fr.set r_h0 (by decide)), (zSetS q_h0_thrown)⟩ rfl d_MM_items1_61
        · replace hF := ifn (fun h9 => h9 c9) hF
          refine lv_aload_n hx hb d_MM_items1_50 rfl (lv_at hl 0 rfl) ?_
          refine va_get (D := D) (ci := 13) (v := .ref h0_game) (C := R_MM) (T := T_MM) (N := 49) hx hb hg i_MM hown hK hP1 0 rfl rfl 9 (by decide) (hg _ k10_55) (fun _ h9 => h9) (zSetN (by decide) q_h0_game) d_MM_items1_51 ?_
          refine va_getN (D := D) (ci := 15) (v := .int h0_game_commands) (C := R_MG) (T := T_MG) (N := 30) hx hb hg i_MG hown hK hP1 1 rfl rfl 18 (by decide) (hg _ k9_26) (fun _ h9 => h9) q_h0_game_commands d_MM_items1_54 ?_
          refine lv_goto (tgt := 61) hx hb d_MM_items1_57 (by decide) ?_
          replace hF := Option.some.inj hF
          subst hF
          exact zZret (post := (fun (r9 : Int32) (u9 : List Value) => r9 = (h0_game_commands, 0).1 ∧ Fr [0] f0_h0 u9 ∧ u9[0]? = some (.int ((h0_game_commands, 0).2)))) (W1 := (fun (u9 : List Value) => [(h0, .inr (13, u9)), (h0_game, .inr (15, f0_h0_game))])) (v := h0_game_commands) hx hb hr rfl hlocks hP1 hD1 hS1 (f_h0.set 0 (.int 0)) ⟨rfl, (Fr.set r_h0 (by decide)), (zSetS q_h0_thrown)⟩ rfl d_MM_items1_61
      · replace hF := ifn (fun h9 => h9 c9) hF
        refine lv_aload_n hx hb d_MM_items1_35 rfl (lv_at hl 0 rfl) ?_
        refine va_get (D := D) (ci := 13) (v := .ref h0_game) (C := R_MM) (T := T_MM) (N := 49) hx hb hg i_MM hown hK hP1 0 rfl rfl 9 (by decide) (hg _ k10_55) (fun _ h9 => h9) (zSetN (by decide) q_h0_game) d_MM_items1_36 ?_
        refine va_getN (D := D) (ci := 15) (v := .int h0_game_rules) (C := R_MG) (T := T_MG) (N := 30) hx hb hg i_MG hown hK hP1 1 rfl rfl 6 (by decide) (hg _ k9_2) (fun _ h9 => h9) q_h0_game_rules d_MM_items1_39 ?_
        refine lv_goto (tgt := 61) hx hb d_MM_items1_42 (by decide) ?_
        replace hF := Option.some.inj hF
        subst hF
        exact zZret (post := (fun (r9 : Int32) (u9 : List Value) => r9 = (h0_game_rules, 0).1 ∧ Fr [0] f0_h0 u9 ∧ u9[0]? = some (.int ((h0_game_rules, 0).2)))) (W1 := (fun (u9 : List Value) => [(h0, .inr (13, u9)), (h0_game, .inr (15, f0_h0_game))])) (v := h0_game_rules) hx hb hr rfl hlocks hP1 hD1 hS1 (f_h0.set 0 (.int 0)) ⟨rfl, (Fr.set r_h0 (by decide)), (zSetS q_h0_thrown)⟩ rfl d_MM_items1_61
    · replace hF := ifn (fun h9 => h9 c9) hF
      refine lv_aload_n hx hb d_MM_items1_20 rfl (lv_at hl 0 rfl) ?_
      refine va_get (D := D) (ci := 13) (v := .ref h0_game) (C := R_MM) (T := T_MM) (N := 49) hx hb hg i_MM hown hK hP1 0 rfl rfl 9 (by decide) (hg _ k10_55) (fun _ h9 => h9) (zSetN (by decide) q_h0_game) d_MM_items1_21 ?_
      refine va_getN (D := D) (ci := 15) (v := .int h0_game_vars) (C := R_MG) (T := T_MG) (N := 30) hx hb hg i_MG hown hK hP1 1 rfl rfl 12 (by decide) (hg _ k9_14) (fun _ h9 => h9) q_h0_game_vars d_MM_items1_24 ?_
      refine lv_goto (tgt := 61) hx hb d_MM_items1_27 (by decide) ?_
      replace hF := Option.some.inj hF
      subst hF
      exact zZret (post := (fun (r9 : Int32) (u9 : List Value) => r9 = (h0_game_vars, 0).1 ∧ Fr [0] f0_h0 u9 ∧ u9[0]? = some (.int ((h0_game_vars, 0).2)))) (W1 := (fun (u9 : List Value) => [(h0, .inr (13, u9)), (h0_game, .inr (15, f0_h0_game))])) (v := h0_game_vars) hx hb hr rfl hlocks hP1 hD1 hS1 (f_h0.set 0 (.int 0)) ⟨rfl, (Fr.set r_h0 (by decide)), (zSetS q_h0_thrown)⟩ rfl d_MM_items1_61
  · replace hF := ifn (fun h9 => h9 c9) hF
    refine lv_iconst (v := (-1)) hx hb d_MM_items1_12 (by decide) ?_
    refine lv_goto (tgt := 61) hx hb d_MM_items1_13 (by decide) ?_
    replace hF := Option.some.inj hF
    subst hF
    exact zZret (post := (fun (r9 : Int32) (u9 : List Value) => r9 = ((-1), 0).1 ∧ Fr [0] f0_h0 u9 ∧ u9[0]? = some (.int (((-1), 0).2)))) (W1 := (fun (u9 : List Value) => [(h0, .inr (13, u9)), (h0_game, .inr (15, f0_h0_game))])) (v := (-1)) hx hb hr rfl hlocks hP1 hD1 hS1 (f_h0.set 0 (.int 0)) ⟨rfl, (Fr.set r_h0 (by decide)), (zSetS q_h0_thrown)⟩ rfl d_MM_items1_61
set_option maxHeartbeats 4000000 in
set_option maxRecDepth 100000 in
theorem m_MM_items1 (l : Launch) (D : va_G) (tA : Nat → ClassId) (sz : Nat) (h0 h0_game : Nat) (f0_h0 f0_h0_game : List Value) (l1 : Int32) (h0_known : Int32) (h0_game_commands : Int32) (h0_game_rules : Int32) (h0_game_vars : Int32) (h0_thrown : Int32) (q_h0_game : f0_h0[9]? = some (.ref h0_game)) (q_h0_thrown : f0_h0[0]? = some (.int h0_thrown)) (q_h0_known : f0_h0[11]? = some (.int h0_known)) (q_h0_game_commands : f0_h0_game[18]? = some (.int h0_game_commands)) (q_h0_game_rules : f0_h0_game[6]? = some (.int h0_game_rules)) (q_h0_game_vars : f0_h0_game[12]? = some (.int h0_game_vars)) (out : Int32 × Int32) (hF : f_MM_items1 l1 h0_known h0_game_commands h0_game_rules h0_game_vars h0_thrown = some out) : zMi l ({ cls := "ChanceArenaModel", name := "items", desc := "(I)I" } : Jvm.MethodName) (zW (Jvm.Cond.code ({ cls := "ChanceArenaModel", name := "items", desc := "(I)I" } : Jvm.MethodName) prog_15_method_76_code (2 : Nat) (Option.some Jvm.ClassFile.FieldType.int))) { frames := 0, cells := 0, slots := 0, locals := 0 } [.ref h0, .int l1] D tA [(h0, .inr (13, f0_h0)), (h0_game, .inr (15, f0_h0_game))] sz (fun (r9 : Int32) (u9 : List Value) => r9 = out.1 ∧ Fr [0] f0_h0 u9 ∧ u9[0]? = some (.int out.2)) (fun (u9 : List Value) => [(h0, .inr (13, u9)), (h0_game, .inr (15, f0_h0_game))]) 0 0 := by
  refine zOpen (l := l) (y := ({ cls := "ChanceArenaModel", name := "items", desc := "(I)I" } : Jvm.MethodName)) (ws := zW (Jvm.Cond.code ({ cls := "ChanceArenaModel", name := "items", desc := "(I)I" } : Jvm.MethodName) prog_15_method_76_code (2 : Nat) (Option.some Jvm.ClassFile.FieldType.int))) (rm := { frames := 0, cells := 0, slots := 0, locals := 0 }) (av := [.ref h0, .int l1]) (D := D) (tA := tA) (W0 := [(h0, .inr (13, f0_h0)), (h0_game, .inr (15, f0_h0_game))]) (Wm := [(h0, .inr (13, f0_h0)), (h0_game, .inr (15, f0_h0_game))]) (sz := sz) (mc := 0) (ms := 0) (fun A => va_Qi (fun (r9 : Int32) (u9 : List Value) => r9 = out.1 ∧ Fr [0] f0_h0 u9 ∧ u9[0]? = some (.int out.2)) (zPost D A (fun (u9 : List Value) => [(h0, .inr (13, u9)), (h0_game, .inr (15, f0_h0_game))])) A) (lv := [(0, .ref h0), (1, .int l1)]) (by decide) rfl (Nat.le_of_ble_eq_true rfl) rfl ?_
  intro p e s m below meth c A ls hx hb hr hml hh hg hown hlocks hnm hK hA hP hD0 hAw hS hl
  have hD := zD hD0 hAw
  exact b_MM_items1_0 hx hb hr hml hh hg hown hlocks hK hA   f0_h0 _ _ _ hF q_h0_game q_h0_thrown q_h0_known Fr.rfl q_h0_game_commands q_h0_game_rules q_h0_game_vars hP hD hS hl
def f_MM_enter (h0_now_n : Nat) (h0_vars_n : Nat) (h0_met_n : Nat) (l1 : Int32) (h0_game_vars : Int32) (h0_game_rules : Int32) (h0_vars_c : Nat → Int32) : Nat → Nat → (Nat → Int32) → (Nat → Int32) → Int32 → Option ((Nat → Int32) × (Nat → Int32))
  | 0, _, _, _, _ => none
  | n + 1, 0, h0_now_c, h0_met_c, l2 => chk True (f_MM_enter h0_now_n h0_vars_n h0_met_n l1 h0_game_vars h0_game_rules h0_vars_c n 1 h0_now_c h0_met_c 0)
  | n + 1, 1, h0_now_c, h0_met_c, l2 => if (h0_game_vars : Int32) ≤ l2 then f_MM_enter h0_now_n h0_vars_n h0_met_n l1 h0_game_vars h0_game_rules h0_vars_c n 2 h0_now_c h0_met_c 0 else chk (0 ≤ (((12 * l1) + l2) : Int32).toInt ∧ (((12 * l1) + l2) : Int32).toInt < h0_vars_n) (chk (0 ≤ (l2 : Int32).toInt ∧ (l2 : Int32).toInt < h0_now_n) (f_MM_enter h0_now_n h0_vars_n h0_met_n l1 h0_game_vars h0_game_rules h0_vars_c n 1 (upd h0_now_c (l2 : Int32).toNatClampNeg (h0_vars_c (((12 * l1) + l2) : Int32).toNatClampNeg)) h0_met_c (l2 + Int32.ofInt 1)))
  | n + 1, 2, h0_now_c, h0_met_c, l2 => if (h0_game_rules : Int32) ≤ l2 then some (h0_now_c, h0_met_c) else chk (0 ≤ (l2 : Int32).toInt ∧ (l2 : Int32).toInt < h0_met_n) (f_MM_enter h0_now_n h0_vars_n h0_met_n l1 h0_game_vars h0_game_rules h0_vars_c n 2 h0_now_c (upd h0_met_c (l2 : Int32).toNatClampNeg (vp_nar .boolean 0)) (l2 + Int32.ofInt 1))
  | _ + 1, _ + 3, _, _, _ => none
theorem e_MM_enter_0 (h0_now_n : Nat) (h0_vars_n : Nat) (h0_met_n : Nat) (l1 : Int32) (h0_game_vars : Int32) (h0_game_rules : Int32) (h0_vars_c : Nat → Int32) (n : Nat) (h0_now_c : Nat → Int32) (h0_met_c : Nat → Int32) (l2 : Int32) : f_MM_enter h0_now_n h0_vars_n h0_met_n l1 h0_game_vars h0_game_rules h0_vars_c (n + 1) 0 h0_now_c h0_met_c l2 = chk True (f_MM_enter h0_now_n h0_vars_n h0_met_n l1 h0_game_vars h0_game_rules h0_vars_c n 1 h0_now_c h0_met_c 0) := by rw [f_MM_enter]
theorem e_MM_enter_1 (h0_now_n : Nat) (h0_vars_n : Nat) (h0_met_n : Nat) (l1 : Int32) (h0_game_vars : Int32) (h0_game_rules : Int32) (h0_vars_c : Nat → Int32) (n : Nat) (h0_now_c : Nat → Int32) (h0_met_c : Nat → Int32) (l2 : Int32) : f_MM_enter h0_now_n h0_vars_n h0_met_n l1 h0_game_vars h0_game_rules h0_vars_c (n + 1) 1 h0_now_c h0_met_c l2 = if (h0_game_vars : Int32) ≤ l2 then f_MM_enter h0_now_n h0_vars_n h0_met_n l1 h0_game_vars h0_game_rules h0_vars_c n 2 h0_now_c h0_met_c 0 else chk (0 ≤ (((12 * l1) + l2) : Int32).toInt ∧ (((12 * l1) + l2) : Int32).toInt < h0_vars_n) (chk (0 ≤ (l2 : Int32).toInt ∧ (l2 : Int32).toInt < h0_now_n) (f_MM_enter h0_now_n h0_vars_n h0_met_n l1 h0_game_vars h0_game_rules h0_vars_c n 1 (upd h0_now_c (l2 : Int32).toNatClampNeg (h0_vars_c (((12 * l1) + l2) : Int32).toNatClampNeg)) h0_met_c (l2 + Int32.ofInt 1))) := by rw [f_MM_enter]
theorem e_MM_enter_2 (h0_now_n : Nat) (h0_vars_n : Nat) (h0_met_n : Nat) (l1 : Int32) (h0_game_vars : Int32) (h0_game_rules : Int32) (h0_vars_c : Nat → Int32) (n : Nat) (h0_now_c : Nat → Int32) (h0_met_c : Nat → Int32) (l2 : Int32) : f_MM_enter h0_now_n h0_vars_n h0_met_n l1 h0_game_vars h0_game_rules h0_vars_c (n + 1) 2 h0_now_c h0_met_c l2 = if (h0_game_rules : Int32) ≤ l2 then some (h0_now_c, h0_met_c) else chk (0 ≤ (l2 : Int32).toInt ∧ (l2 : Int32).toInt < h0_met_n) (f_MM_enter h0_now_n h0_vars_n h0_met_n l1 h0_game_vars h0_game_rules h0_vars_c n 2 h0_now_c (upd h0_met_c (l2 : Int32).toNatClampNeg (vp_nar .boolean 0)) (l2 + Int32.ofInt 1)) := by rw [f_MM_enter]
theorem z_MM_enter (h0_now_n : Nat) (h0_vars_n : Nat) (h0_met_n : Nat) (l1 : Int32) (h0_game_vars : Int32) (h0_game_rules : Int32) (h0_vars_c : Nat → Int32) (h : Nat) (h0_now_c : Nat → Int32) (h0_met_c : Nat → Int32) (l2 : Int32) : f_MM_enter h0_now_n h0_vars_n h0_met_n l1 h0_game_vars h0_game_rules h0_vars_c 0 h h0_now_c h0_met_c l2 = none := by rw [f_MM_enter]
set_option maxHeartbeats 4000000 in
set_option maxRecDepth 100000 in
theorem b_MM_enter_0 {p : Program} {l : Launch} {e : Env} {s : State} {m : MethodId} {args : Array Value} {below : List Frame} {meth : Method} {c : Code} {D : va_G} {tA : Nat → ClassId} {A : Nat → Prop} {h0 h0_game h0_now h0_vars h0_met : Nat} {f0_h0 f0_h0_game : List Value} {h0_now_n : Nat} {h0_vars_n : Nat} {h0_met_n : Nat} {l1 : Int32} {h0_game_vars : Int32} {h0_game_rules : Int32} {h0_vars_c : Nat → Int32} {out : (Nat → Int32) × (Nat → Int32)} (hx : p.tables.exec = Jvm.exec) (hb : c.code = prog_15_method_78_code) (hr : meth.sig.returnType = (Option.none : Option Jvm.ClassFile.FieldType)) (hml : c.maxLocals = 3) (hh : zH s) (hg : ∀ w ∈ lw_R, w.before args s = true) (hown : s.vm.findClass "ChanceArenaModel" = some m.cls) (hlocks : meth.locks = false) (hK : va_K D vwCl (zT tA) s) (hA : ∀ q, s.heap.size ≤ q → A q) {n : Nat} (ih1 : ∀ (h0_now_c : Nat → Int32) (h0_met_c : Nat → Int32) (l2 : Int32) (H : Heap) (locs : List Loc) (ls : Array Slot), f_MM_enter h0_now_n h0_vars_n h0_met_n l1 h0_game_vars h0_game_rules h0_vars_c n 1 h0_now_c h0_met_c l2 = some out → f0_h0[9]? = some (.ref h0_game) → f0_h0[25]? = some (.ref h0_now) → f0_h0[31]? = some (.ref h0_vars) → f0_h0[26]? = some (.ref h0_met) → f0_h0_game[12]? = some (.int h0_game_vars) → f0_h0_game[6]? = some (.int h0_game_rules) → va_P D vwCl [(h0, .inr (13, f0_h0)), (h0_game, .inr (15, f0_h0_game)), (h0_now, .inl (tA 0, h0_now_n, .inl h0_now_c)), (h0_vars, .inl (tA 0, h0_vars_n, .inl h0_vars_c)), (h0_met, .inl (tA 1, h0_met_n, .inl h0_met_c))] H → va_D A [(h0, .inr (13, f0_h0)), (h0_game, .inr (15, f0_h0_game)), (h0_now, .inl (tA 0, h0_now_n, .inl h0_now_c)), (h0_vars, .inl (tA 0, h0_vars_n, .inl h0_vars_c)), (h0_met, .inl (tA 1, h0_met_n, .inl h0_met_c))] → va_S A s.heap H locs → lv_has ls 3 [(0, .ref h0), (1, .int l1), (2, .int l2)] → W p l e { frames := 0, cells := 0, slots := 0, locals := 0 } s m args below meth c H locs 0 0 (MQ below (va_Qv (fun (u9 : Unit) => True) (zPost D A (fun (u9 : Unit) => [(h0, .inr (13, f0_h0)), (h0_game, .inr (15, f0_h0_game)), (h0_now, .inl (tA 0, h0_now_n, .inl out.1)), (h0_vars, .inl (tA 0, h0_vars_n, .inl h0_vars_c)), (h0_met, .inl (tA 1, h0_met_n, .inl out.2))])) A) args s 0 0 A) (F0 m 2 ls [])) : ∀ (h0_now_c : Nat → Int32) (h0_met_c : Nat → Int32) (l2 : Int32) (H : Heap) (locs : List Loc) (ls : Array Slot), f_MM_enter h0_now_n h0_vars_n h0_met_n l1 h0_game_vars h0_game_rules h0_vars_c (n + 1) 0 h0_now_c h0_met_c l2 = some out → f0_h0[9]? = some (.ref h0_game) → f0_h0[25]? = some (.ref h0_now) → f0_h0[31]? = some (.ref h0_vars) → f0_h0[26]? = some (.ref h0_met) → f0_h0_game[12]? = some (.int h0_game_vars) → f0_h0_game[6]? = some (.int h0_game_rules) → va_P D vwCl [(h0, .inr (13, f0_h0)), (h0_game, .inr (15, f0_h0_game)), (h0_now, .inl (tA 0, h0_now_n, .inl h0_now_c)), (h0_vars, .inl (tA 0, h0_vars_n, .inl h0_vars_c)), (h0_met, .inl (tA 1, h0_met_n, .inl h0_met_c))] H → va_D A [(h0, .inr (13, f0_h0)), (h0_game, .inr (15, f0_h0_game)), (h0_now, .inl (tA 0, h0_now_n, .inl h0_now_c)), (h0_vars, .inl (tA 0, h0_vars_n, .inl h0_vars_c)), (h0_met, .inl (tA 1, h0_met_n, .inl h0_met_c))] → va_S A s.heap H locs → lv_has ls 3 [(0, .ref h0), (1, .int l1)] → W p l e { frames := 0, cells := 0, slots := 0, locals := 0 } s m args below meth c H locs 0 0 (MQ below (va_Qv (fun (u9 : Unit) => True) (zPost D A (fun (u9 : Unit) => [(h0, .inr (13, f0_h0)), (h0_game, .inr (15, f0_h0_game)), (h0_now, .inl (tA 0, h0_now_n, .inl out.1)), (h0_vars, .inl (tA 0, h0_vars_n, .inl h0_vars_c)), (h0_met, .inl (tA 1, h0_met_n, .inl out.2))])) A) args s 0 0 A) (F0 m 0 ls []) := by
  intro h0_now_c h0_met_c l2   H locs ls hF q_h0_game q_h0_now q_h0_vars q_h0_met q_h0_game_vars q_h0_game_rules hP hD hS hl
  rw [e_MM_enter_0] at hF
  obtain ⟨_, hF⟩ := chk_some hF
  refine lv_iconst (v := 0) hx hb d_MM_enter_0 (by decide) ?_
  refine lv_istore_n (lv' := [(2, .int 0), (0, .ref h0), (1, .int l1)]) hx hb d_MM_enter_1 rfl hl (by decide) rfl (fun ls hl => ?_)
  exact ih1 h0_now_c h0_met_c 0   _ _ _ hF q_h0_game q_h0_now q_h0_vars q_h0_met q_h0_game_vars q_h0_game_rules hP hD hS (lv_sub hl [1, 2, 0] rfl)
set_option maxHeartbeats 4000000 in
set_option maxRecDepth 100000 in
theorem b_MM_enter_1 {p : Program} {l : Launch} {e : Env} {s : State} {m : MethodId} {args : Array Value} {below : List Frame} {meth : Method} {c : Code} {D : va_G} {tA : Nat → ClassId} {A : Nat → Prop} {h0 h0_game h0_now h0_vars h0_met : Nat} {f0_h0 f0_h0_game : List Value} {h0_now_n : Nat} {h0_vars_n : Nat} {h0_met_n : Nat} {l1 : Int32} {h0_game_vars : Int32} {h0_game_rules : Int32} {h0_vars_c : Nat → Int32} {out : (Nat → Int32) × (Nat → Int32)} (hx : p.tables.exec = Jvm.exec) (hb : c.code = prog_15_method_78_code) (hr : meth.sig.returnType = (Option.none : Option Jvm.ClassFile.FieldType)) (hml : c.maxLocals = 3) (hh : zH s) (hg : ∀ w ∈ lw_R, w.before args s = true) (hown : s.vm.findClass "ChanceArenaModel" = some m.cls) (hlocks : meth.locks = false) (hK : va_K D vwCl (zT tA) s) (hA : ∀ q, s.heap.size ≤ q → A q) {n : Nat} (ih1 : ∀ (h0_now_c : Nat → Int32) (h0_met_c : Nat → Int32) (l2 : Int32) (H : Heap) (locs : List Loc) (ls : Array Slot), f_MM_enter h0_now_n h0_vars_n h0_met_n l1 h0_game_vars h0_game_rules h0_vars_c n 1 h0_now_c h0_met_c l2 = some out → f0_h0[9]? = some (.ref h0_game) → f0_h0[25]? = some (.ref h0_now) → f0_h0[31]? = some (.ref h0_vars) → f0_h0[26]? = some (.ref h0_met) → f0_h0_game[12]? = some (.int h0_game_vars) → f0_h0_game[6]? = some (.int h0_game_rules) → va_P D vwCl [(h0, .inr (13, f0_h0)), (h0_game, .inr (15, f0_h0_game)), (h0_now, .inl (tA 0, h0_now_n, .inl h0_now_c)), (h0_vars, .inl (tA 0, h0_vars_n, .inl h0_vars_c)), (h0_met, .inl (tA 1, h0_met_n, .inl h0_met_c))] H → va_D A [(h0, .inr (13, f0_h0)), (h0_game, .inr (15, f0_h0_game)), (h0_now, .inl (tA 0, h0_now_n, .inl h0_now_c)), (h0_vars, .inl (tA 0, h0_vars_n, .inl h0_vars_c)), (h0_met, .inl (tA 1, h0_met_n, .inl h0_met_c))] → va_S A s.heap H locs → lv_has ls 3 [(0, .ref h0), (1, .int l1), (2, .int l2)] → W p l e { frames := 0, cells := 0, slots := 0, locals := 0 } s m args below meth c H locs 0 0 (MQ below (va_Qv (fun (u9 : Unit) => True) (zPost D A (fun (u9 : Unit) => [(h0, .inr (13, f0_h0)), (h0_game, .inr (15, f0_h0_game)), (h0_now, .inl (tA 0, h0_now_n, .inl out.1)), (h0_vars, .inl (tA 0, h0_vars_n, .inl h0_vars_c)), (h0_met, .inl (tA 1, h0_met_n, .inl out.2))])) A) args s 0 0 A) (F0 m 2 ls [])) (ih2 : ∀ (h0_now_c : Nat → Int32) (h0_met_c : Nat → Int32) (l2 : Int32) (H : Heap) (locs : List Loc) (ls : Array Slot), f_MM_enter h0_now_n h0_vars_n h0_met_n l1 h0_game_vars h0_game_rules h0_vars_c n 2 h0_now_c h0_met_c l2 = some out → f0_h0[9]? = some (.ref h0_game) → f0_h0[25]? = some (.ref h0_now) → f0_h0[31]? = some (.ref h0_vars) → f0_h0[26]? = some (.ref h0_met) → f0_h0_game[12]? = some (.int h0_game_vars) → f0_h0_game[6]? = some (.int h0_game_rules) → va_P D vwCl [(h0, .inr (13, f0_h0)), (h0_game, .inr (15, f0_h0_game)), (h0_now, .inl (tA 0, h0_now_n, .inl h0_now_c)), (h0_vars, .inl (tA 0, h0_vars_n, .inl h0_vars_c)), (h0_met, .inl (tA 1, h0_met_n, .inl h0_met_c))] H → va_D A [(h0, .inr (13, f0_h0)), (h0_game, .inr (15, f0_h0_game)), (h0_now, .inl (tA 0, h0_now_n, .inl h0_now_c)), (h0_vars, .inl (tA 0, h0_vars_n, .inl h0_vars_c)), (h0_met, .inl (tA 1, h0_met_n, .inl h0_met_c))] → va_S A s.heap H locs → lv_has ls 3 [(0, .ref h0), (1, .int l1), (2, .int l2)] → W p l e { frames := 0, cells := 0, slots := 0, locals := 0 } s m args below meth c H locs 0 0 (MQ below (va_Qv (fun (u9 : Unit) => True) (zPost D A (fun (u9 : Unit) => [(h0, .inr (13, f0_h0)), (h0_game, .inr (15, f0_h0_game)), (h0_now, .inl (tA 0, h0_now_n, .inl out.1)), (h0_vars, .inl (tA 0, h0_vars_n, .inl h0_vars_c)), (h0_met, .inl (tA 1, h0_met_n, .inl out.2))])) A) args s 0 0 A) (F0 m 38 ls [])) : ∀ (h0_now_c : Nat → Int32) (h0_met_c : Nat → Int32) (l2 : Int32) (H : Heap) (locs : List Loc) (ls : Array Slot), f_MM_enter h0_now_n h0_vars_n h0_met_n l1 h0_game_vars h0_game_rules h0_vars_c (n + 1) 1 h0_now_c h0_met_c l2 = some out → f0_h0[9]? = some (.ref h0_game) → f0_h0[25]? = some (.ref h0_now) → f0_h0[31]? = some (.ref h0_vars) → f0_h0[26]? = some (.ref h0_met) → f0_h0_game[12]? = some (.int h0_game_vars) → f0_h0_game[6]? = some (.int h0_game_rules) → va_P D vwCl [(h0, .inr (13, f0_h0)), (h0_game, .inr (15, f0_h0_game)), (h0_now, .inl (tA 0, h0_now_n, .inl h0_now_c)), (h0_vars, .inl (tA 0, h0_vars_n, .inl h0_vars_c)), (h0_met, .inl (tA 1, h0_met_n, .inl h0_met_c))] H → va_D A [(h0, .inr (13, f0_h0)), (h0_game, .inr (15, f0_h0_game)), (h0_now, .inl (tA 0, h0_now_n, .inl h0_now_c)), (h0_vars, .inl (tA 0, h0_vars_n, .inl h0_vars_c)), (h0_met, .inl (tA 1, h0_met_n, .inl h0_met_c))] → va_S A s.heap H locs → lv_has ls 3 [(0, .ref h0), (1, .int l1), (2, .int l2)] → W p l e { frames := 0, cells := 0, slots := 0, locals := 0 } s m args below meth c H locs 0 0 (MQ below (va_Qv (fun (u9 : Unit) => True) (zPost D A (fun (u9 : Unit) => [(h0, .inr (13, f0_h0)), (h0_game, .inr (15, f0_h0_game)), (h0_now, .inl (tA 0, h0_now_n, .inl out.1)), (h0_vars, .inl (tA 0, h0_vars_n, .inl h0_vars_c)), (h0_met, .inl (tA 1, h0_met_n, .inl out.2))])) A) args s 0 0 A) (F0 m 2 ls []) := by
  intro h0_now_c h0_met_c l2   H locs ls hF q_h0_game q_h0_now q_h0_vars q_h0_met q_h0_game_vars q_h0_game_rules hP hD hS hl
  rw [e_MM_enter_1] at hF
  refine lv_iload_n hx hb d_MM_enter_2 rfl (lv_at hl 2 rfl) ?_
  refine lv_aload_n hx hb d_MM_enter_3 rfl (lv_at hl 0 rfl) ?_
  refine va_get (D := D) (ci := 13) (v := .ref h0_game) (C := R_MM) (T := T_MM) (N := 49) hx hb hg i_MM hown hK hP 0 rfl rfl 9 (by decide) (hg _ k10_55) (fun _ h9 => h9) q_h0_game d_MM_enter_4 ?_
  refine va_getN (D := D) (ci := 15) (v := .int h0_game_vars) (C := R_MG) (T := T_MG) (N := 30) hx hb hg i_MG hown hK hP 1 rfl rfl 12 (by decide) (hg _ k9_14) (fun _ h9 => h9) q_h0_game_vars d_MM_enter_7 ?_
  refine lv_icmp_ge (tgt := 36) hx hb d_MM_enter_10 (by decide) (fun c9 => ?_) (fun c9 => ?_)
  · replace hF := ifp c9 hF
    refine lv_iconst (v := 0) hx hb d_MM_enter_36 (by decide) ?_
    refine lv_istore_n (lv' := [(2, .int 0), (0, .ref h0), (1, .int l1)]) hx hb d_MM_enter_37 rfl hl (by decide) rfl (fun ls hl => ?_)
    exact ih2 h0_now_c h0_met_c 0   _ _ _ hF q_h0_game q_h0_now q_h0_vars q_h0_met q_h0_game_vars q_h0_game_rules hP hD hS (lv_sub hl [1, 2, 0] rfl)
  · replace hF := ifn c9 hF
    refine lv_aload_n hx hb d_MM_enter_13 rfl (lv_at hl 0 rfl) ?_
    refine va_get (D := D) (ci := 13) (v := .ref h0_now) (C := R_MM) (T := T_MM) (N := 49) hx hb hg i_MM hown hK hP 0 rfl rfl 25 (by decide) (hg _ k10_71) (fun _ h9 => h9) q_h0_now d_MM_enter_14 ?_
    refine lv_iload_n hx hb d_MM_enter_17 rfl (lv_at hl 2 rfl) ?_
    refine lv_aload_n hx hb d_MM_enter_18 rfl (lv_at hl 0 rfl) ?_
    refine va_get (D := D) (ci := 13) (v := .ref h0_vars) (C := R_MM) (T := T_MM) (N := 49) hx hb hg i_MM hown hK hP 0 rfl rfl 31 (by decide) (hg _ k10_77) (fun _ h9 => h9) q_h0_vars d_MM_enter_19 ?_
    refine lv_bipush (v := 12) hx hb d_MM_enter_22 (by decide) ?_
    refine lv_iload_n hx hb d_MM_enter_24 rfl (lv_at hl 1 rfl) ?_
    refine lv_imul hx hb d_MM_enter_25 ?_
    refine lv_iload_n hx hb d_MM_enter_26 rfl (lv_at hl 2 rfl) ?_
    refine lv_iadd hx hb d_MM_enter_27 ?_
    obtain ⟨h9, hF⟩ := chk_some hF
    refine va_iald hx hb hK hP 3 0 rfl rfl (vp_in_iff.mpr h9) d_MM_enter_28 ?_
    obtain ⟨h9, hF⟩ := chk_some hF
    refine va_iast hx hb hK hP hD hS 2 0 rfl rfl (vp_in_iff.mpr h9) d_MM_enter_29 (fun H1 locs1 hP1 hD1 hS1 => ?_)
    clear hP hD hS
    replace hP1 : va_P D vwCl [(h0, .inr (13, f0_h0)), (h0_game, .inr (15, f0_h0_game)), (h0_now, .inl (tA 0, h0_now_n, .inl (upd h0_now_c (l2 : Int32).toNatClampNeg (h0_vars_c (((12 * l1) + l2) : Int32).toNatClampNeg)))), (h0_vars, .inl (tA 0, h0_vars_n, .inl h0_vars_c)), (h0_met, .inl (tA 1, h0_met_n, .inl h0_met_c))] _ := hP1
    replace hD1 : va_D A [(h0, .inr (13, f0_h0)), (h0_game, .inr (15, f0_h0_game)), (h0_now, .inl (tA 0, h0_now_n, .inl (upd h0_now_c (l2 : Int32).toNatClampNeg (h0_vars_c (((12 * l1) + l2) : Int32).toNatClampNeg)))), (h0_vars, .inl (tA 0, h0_vars_n, .inl h0_vars_c)), (h0_met, .inl (tA 1, h0_met_n, .inl h0_met_c))] := hD1
    refine lv_iinc (v := (l2 + Int32.ofInt 1)) (lv' := [(2, .int (l2 + Int32.ofInt 1)), (0, .ref h0), (1, .int l1)]) hx hb d_MM_enter_30 hl (k := 2) rfl rfl (by decide) rfl (fun ls hl => ?_)
    refine lv_goto (tgt := 2) hx hb d_MM_enter_33 (by decide) ?_
    exact ih1 (upd h0_now_c (l2 : Int32).toNatClampNeg (h0_vars_c (((12 * l1) + l2) : Int32).toNatClampNeg)) h0_met_c (l2 + Int32.ofInt 1)   _ _ _ hF q_h0_game q_h0_now q_h0_vars q_h0_met q_h0_game_vars q_h0_game_rules hP1 hD1 hS1 (lv_sub hl [1, 2, 0] rfl)
set_option maxHeartbeats 4000000 in
set_option maxRecDepth 100000 in
theorem b_MM_enter_2 {p : Program} {l : Launch} {e : Env} {s : State} {m : MethodId} {args : Array Value} {below : List Frame} {meth : Method} {c : Code} {D : va_G} {tA : Nat → ClassId} {A : Nat → Prop} {h0 h0_game h0_now h0_vars h0_met : Nat} {f0_h0 f0_h0_game : List Value} {h0_now_n : Nat} {h0_vars_n : Nat} {h0_met_n : Nat} {l1 : Int32} {h0_game_vars : Int32} {h0_game_rules : Int32} {h0_vars_c : Nat → Int32} {out : (Nat → Int32) × (Nat → Int32)} (hx : p.tables.exec = Jvm.exec) (hb : c.code = prog_15_method_78_code) (hr : meth.sig.returnType = (Option.none : Option Jvm.ClassFile.FieldType)) (hml : c.maxLocals = 3) (hh : zH s) (hg : ∀ w ∈ lw_R, w.before args s = true) (hown : s.vm.findClass "ChanceArenaModel" = some m.cls) (hlocks : meth.locks = false) (hK : va_K D vwCl (zT tA) s) (hA : ∀ q, s.heap.size ≤ q → A q) {n : Nat} (ih2 : ∀ (h0_now_c : Nat → Int32) (h0_met_c : Nat → Int32) (l2 : Int32) (H : Heap) (locs : List Loc) (ls : Array Slot), f_MM_enter h0_now_n h0_vars_n h0_met_n l1 h0_game_vars h0_game_rules h0_vars_c n 2 h0_now_c h0_met_c l2 = some out → f0_h0[9]? = some (.ref h0_game) → f0_h0[25]? = some (.ref h0_now) → f0_h0[31]? = some (.ref h0_vars) → f0_h0[26]? = some (.ref h0_met) → f0_h0_game[12]? = some (.int h0_game_vars) → f0_h0_game[6]? = some (.int h0_game_rules) → va_P D vwCl [(h0, .inr (13, f0_h0)), (h0_game, .inr (15, f0_h0_game)), (h0_now, .inl (tA 0, h0_now_n, .inl h0_now_c)), (h0_vars, .inl (tA 0, h0_vars_n, .inl h0_vars_c)), (h0_met, .inl (tA 1, h0_met_n, .inl h0_met_c))] H → va_D A [(h0, .inr (13, f0_h0)), (h0_game, .inr (15, f0_h0_game)), (h0_now, .inl (tA 0, h0_now_n, .inl h0_now_c)), (h0_vars, .inl (tA 0, h0_vars_n, .inl h0_vars_c)), (h0_met, .inl (tA 1, h0_met_n, .inl h0_met_c))] → va_S A s.heap H locs → lv_has ls 3 [(0, .ref h0), (1, .int l1), (2, .int l2)] → W p l e { frames := 0, cells := 0, slots := 0, locals := 0 } s m args below meth c H locs 0 0 (MQ below (va_Qv (fun (u9 : Unit) => True) (zPost D A (fun (u9 : Unit) => [(h0, .inr (13, f0_h0)), (h0_game, .inr (15, f0_h0_game)), (h0_now, .inl (tA 0, h0_now_n, .inl out.1)), (h0_vars, .inl (tA 0, h0_vars_n, .inl h0_vars_c)), (h0_met, .inl (tA 1, h0_met_n, .inl out.2))])) A) args s 0 0 A) (F0 m 38 ls [])) : ∀ (h0_now_c : Nat → Int32) (h0_met_c : Nat → Int32) (l2 : Int32) (H : Heap) (locs : List Loc) (ls : Array Slot), f_MM_enter h0_now_n h0_vars_n h0_met_n l1 h0_game_vars h0_game_rules h0_vars_c (n + 1) 2 h0_now_c h0_met_c l2 = some out → f0_h0[9]? = some (.ref h0_game) → f0_h0[25]? = some (.ref h0_now) → f0_h0[31]? = some (.ref h0_vars) → f0_h0[26]? = some (.ref h0_met) → f0_h0_game[12]? = some (.int h0_game_vars) → f0_h0_game[6]? = some (.int h0_game_rules) → va_P D vwCl [(h0, .inr (13, f0_h0)), (h0_game, .inr (15, f0_h0_game)), (h0_now, .inl (tA 0, h0_now_n, .inl h0_now_c)), (h0_vars, .inl (tA 0, h0_vars_n, .inl h0_vars_c)), (h0_met, .inl (tA 1, h0_met_n, .inl h0_met_c))] H → va_D A [(h0, .inr (13, f0_h0)), (h0_game, .inr (15, f0_h0_game)), (h0_now, .inl (tA 0, h0_now_n, .inl h0_now_c)), (h0_vars, .inl (tA 0, h0_vars_n, .inl h0_vars_c)), (h0_met, .inl (tA 1, h0_met_n, .inl h0_met_c))] → va_S A s.heap H locs → lv_has ls 3 [(0, .ref h0), (1, .int l1), (2, .int l2)] → W p l e { frames := 0, cells := 0, slots := 0, locals := 0 } s m args below meth c H locs 0 0 (MQ below (va_Qv (fun (u9 : Unit) => True) (zPost D A (fun (u9 : Unit) => [(h0, .inr (13, f0_h0)), (h0_game, .inr (15, f0_h0_game)), (h0_now, .inl (tA 0, h0_now_n, .inl out.1)), (h0_vars, .inl (tA 0, h0_vars_n, .inl h0_vars_c)), (h0_met, .inl (tA 1, h0_met_n, .inl out.2))])) A) args s 0 0 A) (F0 m 38 ls []) := by
  intro h0_now_c h0_met_c l2   H locs ls hF q_h0_game q_h0_now q_h0_vars q_h0_met q_h0_game_vars q_h0_game_rules hP hD hS hl
  rw [e_MM_enter_2] at hF
  refine lv_iload_n hx hb d_MM_enter_38 rfl (lv_at hl 2 rfl) ?_
  refine lv_aload_n hx hb d_MM_enter_39 rfl (lv_at hl 0 rfl) ?_
  refine va_get (D := D) (ci := 13) (v := .ref h0_game) (C := R_MM) (T := T_MM) (N := 49) hx hb hg i_MM hown hK hP 0 rfl rfl 9 (by decide) (hg _ k10_55) (fun _ h9 => h9) q_h0_game d_MM_enter_40 ?_
  refine va_getN (D := D) (ci := 15) (v := .int h0_game_rules) (C := R_MG) (T := T_MG) (N := 30) hx hb hg i_MG hown hK hP 1 rfl rfl 6 (by decide) (hg _ k9_2) (fun _ h9 => h9) q_h0_game_rules d_MM_enter_43 ?_
  refine lv_icmp_ge (tgt := 62) hx hb d_MM_enter_46 (by decide) (fun c9 => ?_) (fun c9 => ?_)
  · replace hF := ifp c9 hF
    replace hF := Option.some.inj hF
    subst hF
    exact zVret (post := (fun (u9 : Unit) => True)) (W1 := (fun (u9 : Unit) => [(h0, .inr (13, f0_h0)), (h0_game, .inr (15, f0_h0_game)), (h0_now, .inl (tA 0, h0_now_n, .inl ((h0_now_c, h0_met_c).1))), (h0_vars, .inl (tA 0, h0_vars_n, .inl h0_vars_c)), (h0_met, .inl (tA 1, h0_met_n, .inl ((h0_now_c, h0_met_c).2)))])) hx hb hr hlocks hP hD hS () trivial rfl d_MM_enter_62
  · replace hF := ifn c9 hF
    refine lv_aload_n hx hb d_MM_enter_49 rfl (lv_at hl 0 rfl) ?_
    refine va_get (D := D) (ci := 13) (v := .ref h0_met) (C := R_MM) (T := T_MM) (N := 49) hx hb hg i_MM hown hK hP 0 rfl rfl 26 (by decide) (hg _ k10_72) (fun _ h9 => h9) q_h0_met d_MM_enter_50 ?_
    refine lv_iload_n hx hb d_MM_enter_53 rfl (lv_at hl 2 rfl) ?_
    refine lv_iconst (v := 0) hx hb d_MM_enter_54 (by decide) ?_
    obtain ⟨h9, hF⟩ := chk_some hF
    refine va_zast hx hb hK hP hD hS 4 1 rfl rfl (vp_in_iff.mpr h9) d_MM_enter_55 (fun H1 locs1 hP1 hD1 hS1 => ?_)
    clear hP hD hS
    replace hP1 : va_P D vwCl [(h0, .inr (13, f0_h0)), (h0_game, .inr (15, f0_h0_game)), (h0_now, .inl (tA 0, h0_now_n, .inl h0_now_c)), (h0_vars, .inl (tA 0, h0_vars_n, .inl h0_vars_c)), (h0_met, .inl (tA 1, h0_met_n, .inl (upd h0_met_c (l2 : Int32).toNatClampNeg (vp_nar .boolean 0))))] _ := hP1
    replace hD1 : va_D A [(h0, .inr (13, f0_h0)), (h0_game, .inr (15, f0_h0_game)), (h0_now, .inl (tA 0, h0_now_n, .inl h0_now_c)), (h0_vars, .inl (tA 0, h0_vars_n, .inl h0_vars_c)), (h0_met, .inl (tA 1, h0_met_n, .inl (upd h0_met_c (l2 : Int32).toNatClampNeg (vp_nar .boolean 0))))] := hD1
    refine lv_iinc (v := (l2 + Int32.ofInt 1)) (lv' := [(2, .int (l2 + Int32.ofInt 1)), (0, .ref h0), (1, .int l1)]) hx hb d_MM_enter_56 hl (k := 2) rfl rfl (by decide) rfl (fun ls hl => ?_)
    refine lv_goto (tgt := 38) hx hb d_MM_enter_59 (by decide) ?_
    exact ih2 h0_now_c (upd h0_met_c (l2 : Int32).toNatClampNeg (vp_nar .boolean 0)) (l2 + Int32.ofInt 1)   _ _ _ hF q_h0_game q_h0_now q_h0_vars q_h0_met q_h0_game_vars q_h0_game_rules hP1 hD1 hS1 (lv_sub hl [1, 2, 0] rfl)
set_option maxHeartbeats 4000000 in
set_option maxRecDepth 100000 in
theorem a_MM_enter {p : Program} {l : Launch} {e : Env} {s : State} {m : MethodId} {args : Array Value} {below : List Frame} {meth : Method} {c : Code} {D : va_G} {tA : Nat → ClassId} {A : Nat → Prop} {h0 h0_game h0_now h0_vars h0_met : Nat} {f0_h0 f0_h0_game : List Value} {h0_now_n : Nat} {h0_vars_n : Nat} {h0_met_n : Nat} {l1 : Int32} {h0_game_vars : Int32} {h0_game_rules : Int32} {h0_vars_c : Nat → Int32} {out : (Nat → Int32) × (Nat → Int32)} (hx : p.tables.exec = Jvm.exec) (hb : c.code = prog_15_method_78_code) (hr : meth.sig.returnType = (Option.none : Option Jvm.ClassFile.FieldType)) (hml : c.maxLocals = 3) (hh : zH s) (hg : ∀ w ∈ lw_R, w.before args s = true) (hown : s.vm.findClass "ChanceArenaModel" = some m.cls) (hlocks : meth.locks = false) (hK : va_K D vwCl (zT tA) s) (hA : ∀ q, s.heap.size ≤ q → A q) : ∀ n : Nat, (∀ (h0_now_c : Nat → Int32) (h0_met_c : Nat → Int32) (l2 : Int32) (H : Heap) (locs : List Loc) (ls : Array Slot), f_MM_enter h0_now_n h0_vars_n h0_met_n l1 h0_game_vars h0_game_rules h0_vars_c n 0 h0_now_c h0_met_c l2 = some out → f0_h0[9]? = some (.ref h0_game) → f0_h0[25]? = some (.ref h0_now) → f0_h0[31]? = some (.ref h0_vars) → f0_h0[26]? = some (.ref h0_met) → f0_h0_game[12]? = some (.int h0_game_vars) → f0_h0_game[6]? = some (.int h0_game_rules) → va_P D vwCl [(h0, .inr (13, f0_h0)), (h0_game, .inr (15, f0_h0_game)), (h0_now, .inl (tA 0, h0_now_n, .inl h0_now_c)), (h0_vars, .inl (tA 0, h0_vars_n, .inl h0_vars_c)), (h0_met, .inl (tA 1, h0_met_n, .inl h0_met_c))] H → va_D A [(h0, .inr (13, f0_h0)), (h0_game, .inr (15, f0_h0_game)), (h0_now, .inl (tA 0, h0_now_n, .inl h0_now_c)), (h0_vars, .inl (tA 0, h0_vars_n, .inl h0_vars_c)), (h0_met, .inl (tA 1, h0_met_n, .inl h0_met_c))] → va_S A s.heap H locs → lv_has ls 3 [(0, .ref h0), (1, .int l1)] → W p l e { frames := 0, cells := 0, slots := 0, locals := 0 } s m args below meth c H locs 0 0 (MQ below (va_Qv (fun (u9 : Unit) => True) (zPost D A (fun (u9 : Unit) => [(h0, .inr (13, f0_h0)), (h0_game, .inr (15, f0_h0_game)), (h0_now, .inl (tA 0, h0_now_n, .inl out.1)), (h0_vars, .inl (tA 0, h0_vars_n, .inl h0_vars_c)), (h0_met, .inl (tA 1, h0_met_n, .inl out.2))])) A) args s 0 0 A) (F0 m 0 ls [])) ∧ (∀ (h0_now_c : Nat → Int32) (h0_met_c : Nat → Int32) (l2 : Int32) (H : Heap) (locs : List Loc) (ls : Array Slot), f_MM_enter h0_now_n h0_vars_n h0_met_n l1 h0_game_vars h0_game_rules h0_vars_c n 1 h0_now_c h0_met_c l2 = some out → f0_h0[9]? = some (.ref h0_game) → f0_h0[25]? = some (.ref h0_now) → f0_h0[31]? = some (.ref h0_vars) → f0_h0[26]? = some (.ref h0_met) → f0_h0_game[12]? = some (.int h0_game_vars) → f0_h0_game[6]? = some (.int h0_game_rules) → va_P D vwCl [(h0, .inr (13, f0_h0)), (h0_game, .inr (15, f0_h0_game)), (h0_now, .inl (tA 0, h0_now_n, .inl h0_now_c)), (h0_vars, .inl (tA 0, h0_vars_n, .inl h0_vars_c)), (h0_met, .inl (tA 1, h0_met_n, .inl h0_met_c))] H → va_D A [(h0, .inr (13, f0_h0)), (h0_game, .inr (15, f0_h0_game)), (h0_now, .inl (tA 0, h0_now_n, .inl h0_now_c)), (h0_vars, .inl (tA 0, h0_vars_n, .inl h0_vars_c)), (h0_met, .inl (tA 1, h0_met_n, .inl h0_met_c))] → va_S A s.heap H locs → lv_has ls 3 [(0, .ref h0), (1, .int l1), (2, .int l2)] → W p l e { frames := 0, cells := 0, slots := 0, locals := 0 } s m args below meth c H locs 0 0 (MQ below (va_Qv (fun (u9 : Unit) => True) (zPost D A (fun (u9 : Unit) => [(h0, .inr (13, f0_h0)), (h0_game, .inr (15, f0_h0_game)), (h0_now, .inl (tA 0, h0_now_n, .inl out.1)), (h0_vars, .inl (tA 0, h0_vars_n, .inl h0_vars_c)), (h0_met, .inl (tA 1, h0_met_n, .inl out.2))])) A) args s 0 0 A) (F0 m 2 ls [])) ∧ (∀ (h0_now_c : Nat → Int32) (h0_met_c : Nat → Int32) (l2 : Int32) (H : Heap) (locs : List Loc) (ls : Array Slot), f_MM_enter h0_now_n h0_vars_n h0_met_n l1 h0_game_vars h0_game_rules h0_vars_c n 2 h0_now_c h0_met_c l2 = some out → f0_h0[9]? = some (.ref h0_game) → f0_h0[25]? = some (.ref h0_now) → f0_h0[31]? = some (.ref h0_vars) → f0_h0[26]? = some (.ref h0_met) → f0_h0_game[12]? = some (.int h0_game_vars) → f0_h0_game[6]? = some (.int h0_game_rules) → va_P D vwCl [(h0, .inr (13, f0_h0)), (h0_game, .inr (15, f0_h0_game)), (h0_now, .inl (tA 0, h0_now_n, .inl h0_now_c)), (h0_vars, .inl (tA 0, h0_vars_n, .inl h0_vars_c)), (h0_met, .inl (tA 1, h0_met_n, .inl h0_met_c))] H → va_D A [(h0, .inr (13, f0_h0)), (h0_game, .inr (15, f0_h0_game)), (h0_now, .inl (tA 0, h0_now_n, .inl h0_now_c)), (h0_vars, .inl (tA 0, h0_vars_n, .inl h0_vars_c)), (h0_met, .inl (tA 1, h0_met_n, .inl h0_met_c))] → va_S A s.heap H locs → lv_has ls 3 [(0, .ref h0), (1, .int l1), (2, .int l2)] → W p l e { frames := 0, cells := 0, slots := 0, locals := 0 } s m args below meth c H locs 0 0 (MQ below (va_Qv (fun (u9 : Unit) => True) (zPost D A (fun (u9 : Unit) => [(h0, .inr (13, f0_h0)), (h0_game, .inr (15, f0_h0_game)), (h0_now, .inl (tA 0, h0_now_n, .inl out.1)), (h0_vars, .inl (tA 0, h0_vars_n, .inl h0_vars_c)), (h0_met, .inl (tA 1, h0_met_n, .inl out.2))])) A) args s 0 0 A) (F0 m 38 ls [])) := by
  intro n
  induction n with
  | zero => exact ⟨(fun _ _ _ _ _ _ hF => by rw [z_MM_enter] at hF; cases hF), (fun _ _ _ _ _ _ hF => by rw [z_MM_enter] at hF; cases hF), (fun _ _ _ _ _ _ hF => by rw [z_MM_enter] at hF; cases hF)⟩
  | succ n ih =>
    obtain ⟨i0, i1, i2⟩ := ih
    exact ⟨b_MM_enter_0 hx hb hr hml hh hg hown hlocks hK hA i1, b_MM_enter_1 hx hb hr hml hh hg hown hlocks hK hA i1 i2, b_MM_enter_2 hx hb hr hml hh hg hown hlocks hK hA i2⟩
set_option maxHeartbeats 4000000 in
set_option maxRecDepth 100000 in
theorem m_MM_enter (l : Launch) (D : va_G) (tA : Nat → ClassId) (sz : Nat) (h0 h0_game h0_now h0_vars h0_met : Nat) (f0_h0 f0_h0_game : List Value) (h0_now_n : Nat) (h0_vars_n : Nat) (h0_met_n : Nat) (l1 : Int32) (h0_game_vars : Int32) (h0_game_rules : Int32) (h0_vars_c : Nat → Int32) (h0_now_c : Nat → Int32) (h0_met_c : Nat → Int32) (q_h0_game : f0_h0[9]? = some (.ref h0_game)) (q_h0_now : f0_h0[25]? = some (.ref h0_now)) (q_h0_vars : f0_h0[31]? = some (.ref h0_vars)) (q_h0_met : f0_h0[26]? = some (.ref h0_met)) (q_h0_game_vars : f0_h0_game[12]? = some (.int h0_game_vars)) (q_h0_game_rules : f0_h0_game[6]? = some (.int h0_game_rules)) (n : Nat) (out : (Nat → Int32) × (Nat → Int32)) (hF : f_MM_enter h0_now_n h0_vars_n h0_met_n l1 h0_game_vars h0_game_rules h0_vars_c n 0 h0_now_c h0_met_c 0 = some out) : zMv l ({ cls := "ChanceArenaModel", name := "enter", desc := "(I)V" } : Jvm.MethodName) (zW (Jvm.Cond.code ({ cls := "ChanceArenaModel", name := "enter", desc := "(I)V" } : Jvm.MethodName) prog_15_method_78_code (3 : Nat) (Option.none : Option Jvm.ClassFile.FieldType))) { frames := 0, cells := 0, slots := 0, locals := 0 } [.ref h0, .int l1] D tA [(h0, .inr (13, f0_h0)), (h0_game, .inr (15, f0_h0_game)), (h0_now, .inl (tA 0, h0_now_n, .inl h0_now_c)), (h0_vars, .inl (tA 0, h0_vars_n, .inl h0_vars_c)), (h0_met, .inl (tA 1, h0_met_n, .inl h0_met_c))] sz (fun (u9 : Unit) => True) (fun (u9 : Unit) => [(h0, .inr (13, f0_h0)), (h0_game, .inr (15, f0_h0_game)), (h0_now, .inl (tA 0, h0_now_n, .inl out.1)), (h0_vars, .inl (tA 0, h0_vars_n, .inl h0_vars_c)), (h0_met, .inl (tA 1, h0_met_n, .inl out.2))]) 0 0 := by
  refine zOpen (l := l) (y := ({ cls := "ChanceArenaModel", name := "enter", desc := "(I)V" } : Jvm.MethodName)) (ws := zW (Jvm.Cond.code ({ cls := "ChanceArenaModel", name := "enter", desc := "(I)V" } : Jvm.MethodName) prog_15_method_78_code (3 : Nat) (Option.none : Option Jvm.ClassFile.FieldType))) (rm := { frames := 0, cells := 0, slots := 0, locals := 0 }) (av := [.ref h0, .int l1]) (D := D) (tA := tA) (W0 := [(h0, .inr (13, f0_h0)), (h0_game, .inr (15, f0_h0_game)), (h0_now, .inl (tA 0, h0_now_n, .inl h0_now_c)), (h0_vars, .inl (tA 0, h0_vars_n, .inl h0_vars_c)), (h0_met, .inl (tA 1, h0_met_n, .inl h0_met_c))]) (Wm := [(h0, .inr (13, f0_h0)), (h0_game, .inr (15, f0_h0_game)), (h0_now, .inl (tA 0, h0_now_n, .inl h0_now_c)), (h0_vars, .inl (tA 0, h0_vars_n, .inl h0_vars_c)), (h0_met, .inl (tA 1, h0_met_n, .inl h0_met_c))]) (sz := sz) (mc := 0) (ms := 0) (fun A => va_Qv (fun (u9 : Unit) => True) (zPost D A (fun (u9 : Unit) => [(h0, .inr (13, f0_h0)), (h0_game, .inr (15, f0_h0_game)), (h0_now, .inl (tA 0, h0_now_n, .inl out.1)), (h0_vars, .inl (tA 0, h0_vars_n, .inl h0_vars_c)), (h0_met, .inl (tA 1, h0_met_n, .inl out.2))])) A) (lv := [(0, .ref h0), (1, .int l1)]) (by decide) rfl (Nat.le_of_ble_eq_true rfl) rfl ?_
  intro p e s m below meth c A ls hx hb hr hml hh hg hown hlocks hnm hK hA hP hD0 hAw hS hl
  have hD := zD hD0 hAw
  exact (a_MM_enter hx hb hr hml hh hg hown hlocks hK hA n).1 h0_now_c h0_met_c 0   _ _ _ hF q_h0_game q_h0_now q_h0_vars q_h0_met q_h0_game_vars q_h0_game_rules hP hD hS hl
def f_MM_add (h0_wayAbove_n : Nat) (h0_wayBelow_n : Nat) (l1 : Int32) (L2 : Int64) (L4 : Int64) (h0_wayAbove_c : Nat → Int64) (h0_wayBelow_c : Nat → Int64) (n : Nat) : Option ((Nat → Int64) × (Nat → Int64)) := chk (0 ≤ (l1 : Int32).toInt ∧ (l1 : Int32).toInt < h0_wayAbove_n) (chk (0 ≤ (l1 : Int32).toInt ∧ (l1 : Int32).toInt < h0_wayBelow_n) (chk (0 ≤ (l1 : Int32).toInt ∧ (l1 : Int32).toInt < h0_wayBelow_n) (Option.bind (f_MM_divisor (((h0_wayAbove_c (l1 : Int32).toNatClampNeg) * L4) + (L2 * (h0_wayBelow_c (l1 : Int32).toNatClampNeg))) ((h0_wayBelow_c (l1 : Int32).toNatClampNeg) * L4) n 0 0 0) (fun o1 => chk (¬ (o1 : Int64) = 0) (chk (0 ≤ (l1 : Int32).toInt ∧ (l1 : Int32).toInt < h0_wayAbove_n) (chk (¬ (o1 : Int64) = 0) (chk (0 ≤ (l1 : Int32).toInt ∧ (l1 : Int32).toInt < h0_wayBelow_n) (some (vp_updL h0_wayAbove_c (l1 : Int32).toNatClampNeg ((((h0_wayAbove_c (l1 : Int32).toNatClampNeg) * L4) + (L2 * (h0_wayBelow_c (l1 : Int32).toNatClampNeg))) / o1), vp_updL h0_wayBelow_c (l1 : Int32).toNatClampNeg (((h0_wayBelow_c (l1 : Int32).toNatClampNeg) * L4) / o1))))))))))
set_option maxHeartbeats 4000000 in
set_option maxRecDepth 100000 in
theorem b_MM_add_0 {p : Program} {l : Launch} {e : Env} {s : State} {m : MethodId} {args : Array Value} {below : List Frame} {meth : Method} {c : Code} {D : va_G} {tA : Nat → ClassId} {A : Nat → Prop} {h0 h0_wayAbove h0_wayBelow : Nat} {f0_h0 : List Value} {h0_wayAbove_n : Nat} {h0_wayBelow_n : Nat} {l1 : Int32} {L2 : Int64} {L4 : Int64} {h0_wayAbove_c : Nat → Int64} {h0_wayBelow_c : Nat → Int64} {out : (Nat → Int64) × (Nat → Int64)} (hx : p.tables.exec = Jvm.exec) (hb : c.code = prog_15_method_84_code) (hr : meth.sig.returnType = (Option.none : Option Jvm.ClassFile.FieldType)) (hml : c.maxLocals = 12) (hh : zH s) (hg : ∀ w ∈ lw_R, w.before args s = true) (hown : s.vm.findClass "ChanceArenaModel" = some m.cls) (hlocks : meth.locks = false) (hK : va_K D vwCl (zT tA) s) (hA : ∀ q, s.heap.size ≤ q → A q) {n : Nat}  : ∀ (H : Heap) (locs : List Loc) (ls : Array Slot), f_MM_add h0_wayAbove_n h0_wayBelow_n l1 L2 L4 h0_wayAbove_c h0_wayBelow_c n = some out → f0_h0[42]? = some (.ref h0_wayAbove) → f0_h0[43]? = some (.ref h0_wayBelow) → va_P D vwCl [(h0, .inr (13, f0_h0)), (h0_wayAbove, .inl (tA 3, h0_wayAbove_n, .inr (.inl h0_wayAbove_c))), (h0_wayBelow, .inl (tA 3, h0_wayBelow_n, .inr (.inl h0_wayBelow_c)))] H → va_D A [(h0, .inr (13, f0_h0)), (h0_wayAbove, .inl (tA 3, h0_wayAbove_n, .inr (.inl h0_wayAbove_c))), (h0_wayBelow, .inl (tA 3, h0_wayBelow_n, .inr (.inl h0_wayBelow_c)))] → va_S A s.heap H locs → lv_has ls 12 [(0, .ref h0), (1, .int l1), (2, .long L2), (4, .long L4)] → W p l e { frames := 1, cells := 0, slots := 0, locals := 29 } s m args below meth c H locs 0 0 (MQ below (va_Qv (fun (u9 : Unit) => True) (zPost D A (fun (u9 : Unit) => [(h0, .inr (13, f0_h0)), (h0_wayAbove, .inl (tA 3, h0_wayAbove_n, .inr (.inl out.1))), (h0_wayBelow, .inl (tA 3, h0_wayBelow_n, .inr (.inl out.2)))])) A) args s 0 0 A) (F0 m 0 ls []) := by
  intro    H locs ls hF q_h0_wayAbove q_h0_wayBelow hP hD hS hl
  replace hF : ((chk (0 ≤ (l1 : Int32).toInt ∧ (l1 : Int32).toInt < h0_wayAbove_n) (chk (0 ≤ (l1 : Int32).toInt ∧ (l1 : Int32).toInt < h0_wayBelow_n) (chk (0 ≤ (l1 : Int32).toInt ∧ (l1 : Int32).toInt < h0_wayBelow_n) (Option.bind (f_MM_divisor (((h0_wayAbove_c (l1 : Int32).toNatClampNeg) * L4) + (L2 * (h0_wayBelow_c (l1 : Int32).toNatClampNeg))) ((h0_wayBelow_c (l1 : Int32).toNatClampNeg) * L4) n 0 0 0) (fun o1 => chk (¬ (o1 : Int64) = 0) (chk (0 ≤ (l1 : Int32).toInt ∧ (l1 : Int32).toInt < h0_wayAbove_n) (chk (¬ (o1 : Int64) = 0) (chk (0 ≤ (l1 : Int32).toInt ∧ (l1 : Int32).toInt < h0_wayBelow_n) (some (vp_updL h0_wayAbove_c (l1 : Int32).toNatClampNeg ((((h0_wayAbove_c (l1 : Int32).toNatClampNeg) * L4) + (L2 * (h0_wayBelow_c (l1 : Int32).toNatClampNeg))) / o1), vp_updL h0_wayBelow_c (l1 : Int32).toNatClampNeg (((h0_wayBelow_c (l1 : Int32).toNatClampNeg) * L4) / o1))))))))))) : Option ((Nat → Int64) × (Nat → Int64))) = some out := hF
  refine lv_aload_n hx hb d_MM_add_0 rfl (lv_at hl 0 rfl) ?_
  refine va_get (D := D) (ci := 13) (v := .ref h0_wayAbove) (C := R_MM) (T := T_MM) (N := 49) hx hb hg i_MM hown hK hP 0 rfl rfl 42 (by decide) (hg _ k10_88) (fun _ h9 => h9) q_h0_wayAbove d_MM_add_1 ?_
  refine lv_iload_n hx hb d_MM_add_4 rfl (lv_at hl 1 rfl) ?_
  obtain ⟨h9, hF⟩ := chk_some hF
  refine va_lald hx hb hK hP 1 3 rfl rfl (vp_in_iff.mpr h9) d_MM_add_5 ?_
  refine lv_lload hx hb d_MM_add_6 (lv_at hl 3 rfl) ?_
  refine lv_lmul hx hb d_MM_add_8 ?_
  refine lv_lload_n hx hb d_MM_add_9 rfl (lv_at hl 2 rfl) ?_
  refine lv_aload_n hx hb d_MM_add_10 rfl (lv_at hl 0 rfl) ?_
  refine va_get (D := D) (ci := 13) (v := .ref h0_wayBelow) (C := R_MM) (T := T_MM) (N := 49) hx hb hg i_MM hown hK hP 0 rfl rfl 43 (by decide) (hg _ k10_89) (fun _ h9 => h9) q_h0_wayBelow d_MM_add_11 ?_
  refine lv_iload_n hx hb d_MM_add_14 rfl (lv_at hl 1 rfl) ?_
  obtain ⟨h9, hF⟩ := chk_some hF
  refine va_lald hx hb hK hP 2 3 rfl rfl (vp_in_iff.mpr h9) d_MM_add_15 ?_
  refine lv_lmul hx hb d_MM_add_16 ?_
  refine lv_ladd hx hb d_MM_add_17 ?_
  refine lv_lstore (lv' := [(6, .long (((h0_wayAbove_c (l1 : Int32).toNatClampNeg) * L4) + (L2 * (h0_wayBelow_c (l1 : Int32).toNatClampNeg)))), (0, .ref h0), (1, .int l1), (2, .long L2), (4, .long L4)]) hx hb d_MM_add_18 hl (by decide) rfl (fun ls hl => ?_)
  refine lv_aload_n hx hb d_MM_add_20 rfl (lv_at hl 1 rfl) ?_
  refine va_get (D := D) (ci := 13) (v := .ref h0_wayBelow) (C := R_MM) (T := T_MM) (N := 49) hx hb hg i_MM hown hK hP 0 rfl rfl 43 (by decide) (hg _ k10_89) (fun _ h9 => h9) q_h0_wayBelow d_MM_add_21 ?_
  refine lv_iload_n hx hb d_MM_add_24 rfl (lv_at hl 2 rfl) ?_
  obtain ⟨h9, hF⟩ := chk_some hF
  refine va_lald hx hb hK hP 2 3 rfl rfl (vp_in_iff.mpr h9) d_MM_add_25 ?_
  refine lv_lload hx hb d_MM_add_26 (lv_at hl 4 rfl) ?_
  refine lv_lmul hx hb d_MM_add_28 ?_
  refine lv_lstore (lv' := [(8, .long ((h0_wayBelow_c (l1 : Int32).toNatClampNeg) * L4)), (6, .long (((h0_wayAbove_c (l1 : Int32).toNatClampNeg) * L4) + (L2 * (h0_wayBelow_c (l1 : Int32).toNatClampNeg)))), (0, .ref h0), (1, .int l1), (2, .long L2), (4, .long L4)]) hx hb d_MM_add_29 hl (by decide) rfl (fun ls hl => ?_)
  refine lv_lload hx hb d_MM_add_31 (lv_at hl 1 rfl) ?_
  refine lv_lload hx hb d_MM_add_33 (lv_at hl 0 rfl) ?_
  obtain ⟨o1, h1, hF⟩ := bsome hF
  refine zCalll (wc := []) (wr := [(h0, .inr (13, f0_h0)), (h0_wayAbove, .inl (tA 3, h0_wayAbove_n, .inr (.inl h0_wayAbove_c))), (h0_wayBelow, .inl (tA 3, h0_wayBelow_n, .inr (.inl h0_wayBelow_c)))]) hP hD hS hA [] [0, 1, 2] rfl rfl (by decide) (by decide) (va_runS (As := [.long (((h0_wayAbove_c (l1 : Int32).toNatClampNeg) * L4) + (L2 * (h0_wayBelow_c (l1 : Int32).toNatClampNeg))), .long ((h0_wayBelow_c (l1 : Int32).toNatClampNeg) * L4)]) (rest := []) ⟨hx, hb, hml, hown, hg⟩ (m_MM_divisor l D tA _   (((h0_wayAbove_c (l1 : Int32).toNatClampNeg) * L4) + (L2 * (h0_wayBelow_c (l1 : Int32).toNatClampNeg))) ((h0_wayBelow_c (l1 : Int32).toNatClampNeg) * L4)  n o1 h1) (zVS 2 hg k11_229 k11_230 k1_14 k11_231 rfl rfl (by decide +kernel) ⟨(Nat.le_of_ble_eq_true rfl), (Nat.le_of_ble_eq_true rfl)⟩) (zPreS hh hK hP hD [] (by decide) rfl) rfl rfl hl.1 rfl (lv_room (Nat.le_of_ble_eq_true rfl)) d_MM_add_35 ⟨(Nat.le_of_ble_eq_true rfl), (Nat.le_of_ble_eq_true rfl)⟩) (fun r1 u1 H1 locs1 e1 hP1 hD1 hS1 => ?_)
  clear hP hD hS
  refine W.cs (cells' := 0) (slots' := 0) rfl rfl ?_
  have x1 := e1
  rw [x1]
  replace hP1 : va_P D vwCl [(h0, .inr (13, f0_h0)), (h0_wayAbove, .inl (tA 3, h0_wayAbove_n, .inr (.inl h0_wayAbove_c))), (h0_wayBelow, .inl (tA 3, h0_wayBelow_n, .inr (.inl h0_wayBelow_c)))] _ := hP1
  replace hD1 : va_D A [(h0, .inr (13, f0_h0)), (h0_wayAbove, .inl (tA 3, h0_wayAbove_n, .inr (.inl h0_wayAbove_c))), (h0_wayBelow, .inl (tA 3, h0_wayBelow_n, .inr (.inl h0_wayBelow_c)))] := hD1
  refine lv_lstore (lv' := [(10, .long o1), (8, .long ((h0_wayBelow_c (l1 : Int32).toNatClampNeg) * L4)), (6, .long (((h0_wayAbove_c (l1 : Int32).toNatClampNeg) * L4) + (L2 * (h0_wayBelow_c (l1 : Int32).toNatClampNeg)))), (0, .ref h0), (1, .int l1), (2, .long L2), (4, .long L4)]) hx hb d_MM_add_38 hl (by decide) rfl (fun ls hl => ?_)
  refine lv_aload_n hx hb d_MM_add_40 rfl (lv_at hl 3 rfl) ?_
  refine va_get (D := D) (ci := 13) (v := .ref h0_wayAbove) (C := R_MM) (T := T_MM) (N := 49) hx hb hg i_MM hown hK hP1 0 rfl rfl 42 (by decide) (hg _ k10_88) (fun _ h9 => h9) q_h0_wayAbove d_MM_add_41 ?_
  refine lv_iload_n hx hb d_MM_add_44 rfl (lv_at hl 4 rfl) ?_
  refine lv_lload hx hb d_MM_add_45 (lv_at hl 2 rfl) ?_
  refine lv_lload hx hb d_MM_add_47 (lv_at hl 0 rfl) ?_
  obtain ⟨h9, hF⟩ := chk_some hF
  refine lv_ldiv hx hb d_MM_add_49 h9 ?_
  obtain ⟨h9, hF⟩ := chk_some hF
  refine va_last hx hb hK hP1 hD1 hS1 1 3 rfl rfl (vp_in_iff.mpr h9) d_MM_add_50 (fun H2 locs2 hP2 hD2 hS2 => ?_)
  clear hP1 hD1 hS1
  replace hP2 : va_P D vwCl [(h0, .inr (13, f0_h0)), (h0_wayAbove, .inl (tA 3, h0_wayAbove_n, .inr (.inl (vp_updL h0_wayAbove_c (l1 : Int32).toNatClampNeg ((((h0_wayAbove_c (l1 : Int32).toNatClampNeg) * L4) + (L2 * (h0_wayBelow_c (l1 : Int32).toNatClampNeg))) / o1))))), (h0_wayBelow, .inl (tA 3, h0_wayBelow_n, .inr (.inl h0_wayBelow_c)))] _ := hP2
  replace hD2 : va_D A [(h0, .inr (13, f0_h0)), (h0_wayAbove, .inl (tA 3, h0_wayAbove_n, .inr (.inl (vp_updL h0_wayAbove_c (l1 : Int32).toNatClampNeg ((((h0_wayAbove_c (l1 : Int32).toNatClampNeg) * L4) + (L2 * (h0_wayBelow_c (l1 : Int32).toNatClampNeg))) / o1))))), (h0_wayBelow, .inl (tA 3, h0_wayBelow_n, .inr (.inl h0_wayBelow_c)))] := hD2
  refine lv_aload_n hx hb d_MM_add_51 rfl (lv_at hl 3 rfl) ?_
  refine va_get (D := D) (ci := 13) (v := .ref h0_wayBelow) (C := R_MM) (T := T_MM) (N := 49) hx hb hg i_MM hown hK hP2 0 rfl rfl 43 (by decide) (hg _ k10_89) (fun _ h9 => h9) q_h0_wayBelow d_MM_add_52 ?_
  refine lv_iload_n hx hb d_MM_add_55 rfl (lv_at hl 4 rfl) ?_
  refine lv_lload hx hb d_MM_add_56 (lv_at hl 1 rfl) ?_
  refine lv_lload hx hb d_MM_add_58 (lv_at hl 0 rfl) ?_
  obtain ⟨h9, hF⟩ := chk_some hF
  refine lv_ldiv hx hb d_MM_add_60 h9 ?_
  obtain ⟨h9, hF⟩ := chk_some hF
  refine va_last hx hb hK hP2 hD2 hS2 2 3 rfl rfl (vp_in_iff.mpr h9) d_MM_add_61 (fun H3 locs3 hP3 hD3 hS3 => ?_)
  clear hP2 hD2 hS2
  replace hP3 : va_P D vwCl [(h0, .inr (13, f0_h0)), (h0_wayAbove, .inl (tA 3, h0_wayAbove_n, .inr (.inl (vp_updL h0_wayAbove_c (l1 : Int32).toNatClampNeg ((((h0_wayAbove_c (l1 : Int32).toNatClampNeg) * L4) + (L2 * (h0_wayBelow_c (l1 : Int32).toNatClampNeg))) / o1))))), (h0_wayBelow, .inl (tA 3, h0_wayBelow_n, .inr (.inl (vp_updL h0_wayBelow_c (l1 : Int32).toNatClampNeg (((h0_wayBelow_c (l1 : Int32).toNatClampNeg) * L4) / o1)))))] _ := hP3
  replace hD3 : va_D A [(h0, .inr (13, f0_h0)), (h0_wayAbove, .inl (tA 3, h0_wayAbove_n, .inr (.inl (vp_updL h0_wayAbove_c (l1 : Int32).toNatClampNeg ((((h0_wayAbove_c (l1 : Int32).toNatClampNeg) * L4) + (L2 * (h0_wayBelow_c (l1 : Int32).toNatClampNeg))) / o1))))), (h0_wayBelow, .inl (tA 3, h0_wayBelow_n, .inr (.inl (vp_updL h0_wayBelow_c (l1 : Int32).toNatClampNeg (((h0_wayBelow_c (l1 : Int32).toNatClampNeg) * L4) / o1)))))] := hD3
  replace hF := Option.some.inj hF
  subst hF
  exact zVret (post := (fun (u9 : Unit) => True)) (W1 := (fun (u9 : Unit) => [(h0, .inr (13, f0_h0)), (h0_wayAbove, .inl (tA 3, h0_wayAbove_n, .inr (.inl ((vp_updL h0_wayAbove_c (l1 : Int32).toNatClampNeg ((((h0_wayAbove_c (l1 : Int32).toNatClampNeg) * L4) + (L2 * (h0_wayBelow_c (l1 : Int32).toNatClampNeg))) / o1), vp_updL h0_wayBelow_c (l1 : Int32).toNatClampNeg (((h0_wayBelow_c (l1 : Int32).toNatClampNeg) * L4) / o1)).1)))), (h0_wayBelow, .inl (tA 3, h0_wayBelow_n, .inr (.inl ((vp_updL h0_wayAbove_c (l1 : Int32).toNatClampNeg ((((h0_wayAbove_c (l1 : Int32).toNatClampNeg) * L4) + (L2 * (h0_wayBelow_c (l1 : Int32).toNatClampNeg))) / o1), vp_updL h0_wayBelow_c (l1 : Int32).toNatClampNeg (((h0_wayBelow_c (l1 : Int32).toNatClampNeg) * L4) / o1)).2))))])) hx hb hr hlocks hP3 hD3 hS3 () trivial rfl d_MM_add_62
set_option maxHeartbeats 4000000 in
set_option maxRecDepth 100000 in
theorem m_MM_add (l : Launch) (D : va_G) (tA : Nat → ClassId) (sz : Nat) (h0 h0_wayAbove h0_wayBelow : Nat) (f0_h0 : List Value) (h0_wayAbove_n : Nat) (h0_wayBelow_n : Nat) (l1 : Int32) (L2 : Int64) (L4 : Int64) (h0_wayAbove_c : Nat → Int64) (h0_wayBelow_c : Nat → Int64) (q_h0_wayAbove : f0_h0[42]? = some (.ref h0_wayAbove)) (q_h0_wayBelow : f0_h0[43]? = some (.ref h0_wayBelow)) (n : Nat) (out : (Nat → Int64) × (Nat → Int64)) (hF : f_MM_add h0_wayAbove_n h0_wayBelow_n l1 L2 L4 h0_wayAbove_c h0_wayBelow_c n = some out) : zMv l ({ cls := "ChanceArenaModel", name := "add", desc := "(IJJ)V" } : Jvm.MethodName) (zW (Jvm.Cond.code ({ cls := "ChanceArenaModel", name := "add", desc := "(IJJ)V" } : Jvm.MethodName) prog_15_method_84_code (12 : Nat) (Option.none : Option Jvm.ClassFile.FieldType))) { frames := 1, cells := 0, slots := 0, locals := 29 } [.ref h0, .int l1, .long L2, .long L4] D tA [(h0, .inr (13, f0_h0)), (h0_wayAbove, .inl (tA 3, h0_wayAbove_n, .inr (.inl h0_wayAbove_c))), (h0_wayBelow, .inl (tA 3, h0_wayBelow_n, .inr (.inl h0_wayBelow_c)))] sz (fun (u9 : Unit) => True) (fun (u9 : Unit) => [(h0, .inr (13, f0_h0)), (h0_wayAbove, .inl (tA 3, h0_wayAbove_n, .inr (.inl out.1))), (h0_wayBelow, .inl (tA 3, h0_wayBelow_n, .inr (.inl out.2)))]) 0 0 := by
  refine zOpen (l := l) (y := ({ cls := "ChanceArenaModel", name := "add", desc := "(IJJ)V" } : Jvm.MethodName)) (ws := zW (Jvm.Cond.code ({ cls := "ChanceArenaModel", name := "add", desc := "(IJJ)V" } : Jvm.MethodName) prog_15_method_84_code (12 : Nat) (Option.none : Option Jvm.ClassFile.FieldType))) (rm := { frames := 1, cells := 0, slots := 0, locals := 29 }) (av := [.ref h0, .int l1, .long L2, .long L4]) (D := D) (tA := tA) (W0 := [(h0, .inr (13, f0_h0)), (h0_wayAbove, .inl (tA 3, h0_wayAbove_n, .inr (.inl h0_wayAbove_c))), (h0_wayBelow, .inl (tA 3, h0_wayBelow_n, .inr (.inl h0_wayBelow_c)))]) (Wm := [(h0, .inr (13, f0_h0)), (h0_wayAbove, .inl (tA 3, h0_wayAbove_n, .inr (.inl h0_wayAbove_c))), (h0_wayBelow, .inl (tA 3, h0_wayBelow_n, .inr (.inl h0_wayBelow_c)))]) (sz := sz) (mc := 0) (ms := 0) (fun A => va_Qv (fun (u9 : Unit) => True) (zPost D A (fun (u9 : Unit) => [(h0, .inr (13, f0_h0)), (h0_wayAbove, .inl (tA 3, h0_wayAbove_n, .inr (.inl out.1))), (h0_wayBelow, .inl (tA 3, h0_wayBelow_n, .inr (.inl out.2)))])) A) (lv := [(0, .ref h0), (1, .int l1), (2, .long L2), (4, .long L4)]) (by decide) rfl (Nat.le_of_ble_eq_true rfl) rfl ?_
  intro p e s m below meth c A ls hx hb hr hml hh hg hown hlocks hnm hK hA hP hD0 hAw hS hl
  have hD := zD hD0 hAw
  exact b_MM_add_0 hx hb hr hml hh hg hown hlocks hK hA    _ _ _ hF q_h0_wayAbove q_h0_wayBelow hP hD hS hl
